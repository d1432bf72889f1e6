/-! share: the reference's times -/
theorem rl_bit {nu : Nat → Nat} {c i : Nat} : ∀ j : Nat, (rl nu c j).testBit i = true ↔ ∃ k, k < j ∧ nu k = i ∧ c.testBit k = true := by
  intro j
  induction j with
  | zero => 
    constructor
    · intro h; rw [show rl nu c 0 = 0 from rfl, Nat.zero_testBit] at h; exact absurd h (by decide)
    · rintro ⟨k, h, _⟩; omega
  | succ j ih =>
    rw [rl_s, Nat.testBit_or, Bool.or_eq_true, ih]
    by_cases z : c.testBit j = true
    · rw [if_pos z, Nat.one_mul, Nat.testBit_two_pow, decide_eq_true_eq]
      constructor
      · rintro (⟨k, a, b⟩ | h)
        · exact ⟨k, by omega, b⟩
        · exact ⟨j, by omega, h, z⟩
      · rintro ⟨k, a, b, d⟩
        by_cases e : k = j
        · subst e; exact Or.inr b
        · exact Or.inl ⟨k, by omega, b, d⟩
    · rw [if_neg z, Nat.zero_mul, Nat.zero_testBit]
      constructor
      · rintro (⟨k, a, b⟩ | h)
        · exact ⟨k, by omega, b⟩
        · exact absurd h (by decide)
      · rintro ⟨k, a, b, d⟩
        by_cases e : k = j
        · subst e; exact absurd d z
        · exact Or.inl ⟨k, by omega, b, d⟩
theorem bool_ext {a b : Bool} (h : a = true ↔ b = true) : a = b := by
  cases a <;> cases b <;> simp_all
section SHR
variable {l : Launch} {σ σ' τ : Sg} {v : Vt} {w0 N s m a : Nat} {e : Int}
/-- what is known of the chosen tapes -/
def Chs (v : Vt) (s : Nat) (m : Nat) : Prop := m = cntB s 10 ∧ m ≤ 5 ∧ ∀ k, k < m → (nth s 10 k : Int) < v.2.2.1 1 ∧ nth s 10 k < 10 ∧ s.testBit (nth s 10 k) = true ∧ v.2.1 (nth s 10 k) 0 1 ≠ 0
theorem Chs.inj (h : Chs v s m) {k k' : Nat} (hk : k < m) (hk' : k' < m) (e : nth s 10 k = nth s 10 k') : k = k' := by
  rcases Nat.lt_trichotomy k k' with q | q | q
  · have := nth_inc (s := s) (i := 10) q (by rw [← h.1]; exact hk'); omega
  · exact q
  · have := nth_inc (s := s) (i := 10) q (by rw [← h.1]; exact hk); omega
theorem Chs.lt (h : Chs v s m) (c : Nat) : rl (nth s 10) c m < 1024 := rl_lt m (fun j hj => (h.2.2 j hj).2.1)
theorem Chs.bit (h : Chs v s m) {c k : Nat} (hk : k < m) : (rl (nth s 10) c m).testBit (nth s 10 k) = true ↔ c.testBit k = true := by
  rw [rl_bit]
  constructor
  · rintro ⟨j, a, b, d⟩
    rw [← h.inj a hk b]; exact d
  · intro d; exact ⟨k, hk, rfl, d⟩
theorem Chs.del (h : Chs v s m) {c k : Nat} (hk : k < m) : dl (rl (nth s 10) c m) (nth s 10 k) = rl (nth s 10) (dl c k) m := by
  have k10 := (h.2.2 k hk).2.1
  have m5 := h.2.1
  refine ext10 (dl_lt (h.lt c)) (h.lt _) (fun i hi => bool_ext ?_)
  rw [dl_bit k10 hi, Bool.and_eq_true, decide_eq_true_eq, rl_bit, rl_bit]
  constructor
  · rintro ⟨⟨j, a, b, d⟩, ne⟩
    exact ⟨j, a, b, (dl_in (by omega) (by omega)).mpr ⟨d, fun q => ne (by rw [← b, q])⟩⟩
  · rintro ⟨j, a, b, d⟩
    have d := (dl_in (by omega) (by omega)).mp d
    exact ⟨⟨j, a, b, d.1⟩, fun q => d.2 (h.inj a hk (by rw [b, q]))⟩
/-- the reference's memory of the chosen tapes -/
def Rs (v : Vt) (s : Nat) (e : Int) (m : Nat) (σ : Sg) : Prop := σ.2.1 82 54 = I (m : Nat) ∧ ∀ k, k < m → σ.2.1 114 k = I (nth s 10 k : Nat) ∧ ∀ a, a < 2 → (abT v e a (nth s 10 k) → σ.2.1 111 (2 * nth s 10 k + a) = 1 ∧ σ.2.1 112 (2 * nth s 10 k + a) = I (fsT v e a (nth s 10 k)) ∧ σ.2.1 113 (2 * nth s 10 k + a) = I (lsT v e a (nth s 10 k))) ∧ (¬ abT v e a (nth s 10 k) → σ.2.1 111 (2 * nth s 10 k + a) = 0)
def bI (s : Nat) : Option Nat → Int
  | none => -1
  | some k => (nth s 10 k : Nat)
set_option maxHeartbeats 1000000 in
theorem m_timeOf (hB : MBs σ v) (hw : WF w0 v) (ha : a < 2) (hc : Chs v s m) (hR : Rs v s e m σ) : ∀ (d c : Nat) (b : Option Nat) (K : Int32 → Sg → Prop), c < 2 ^ m → pc5 c ≤ d → (∀ k, k < m → c.testBit k = true → abV v s e a k) → (∀ k, b = some k → k < m ∧ abV v s e a k) → (∀ x : Int, GV (bwV v s e a) (tmV v s) m c b x → K (I x) σ) → Con l (mX12_timeOf (d + 1)) [.inr 82, .inl (I a), .inl (I (rl (nth s 10) c m : Nat)), .inl (I (bI s b))] σ (PI K) := by
  have m5 := hc.2.1
  have p : 2 ^ m ≤ 2 ^ 5 := Nat.pow_le_pow_right (by omega) m5
  have hwf := (hw.2.2.1 a ha).1
  have hbt : ∀ x y, 0 ≤ bwV v s e a x y ∧ bwV v s e a x y ≤ 15 := bwS_rg hwf _ _
  have ht : ∀ k, 0 ≤ tmV v s k ∧ tmV v s k ≤ 40 := fun k => by
    unfold tmV
    by_cases z : k < cntB s 10
    · rw [if_pos z]
      have := hw.2.2.2.1 (nth s 10 k) (hc.2.2 k (by rw [hc.1]; exact z)).1
      exact ⟨this.2.2.2.1, this.2.2.2.2.1⟩
    · rw [if_neg z]; omega
  have hr : ∀ k, k < m → abV v s e a k → (0 ≤ fsT v e a (nth s 10 k) ∧ fsT v e a (nth s 10 k) < 4096) ∧ 0 ≤ lsT v e a (nth s 10 k) ∧ lsT v e a (nth s 10 k) < 4096 := fun k hk hb => fs_rg hw (hc.2.2 k hk).1 (hc.2.2 k hk).2.2.2 hb
  intro d
  induction d with
  | zero =>
    intro c b K hc2 hp _ _ hK
    have c0 : c = 0 := pc5_0 c (by omega) (by omega)
    have r0 : rl (nth s 10) c m = 0 := by
      refine ext10 (hc.lt c) (by decide) (fun i hi => bool_ext ?_)
      rw [rl_bit, c0, Nat.zero_testBit]
      constructor
      · rintro ⟨k, _, _, q⟩; rw [Nat.zero_testBit] at q; exact q
      · intro q; exact absurd q (by decide)
    rw [r0]
    exact eX12_timeOf ⟨fun q => absurd rfl q, fun _ => hK 0 (by rw [c0]; exact GV.zero)⟩
  | succ d ihd =>
    intro c b K hc2 hp hab hb hK
    have rlt := hc.lt c
    by_cases c0 : c = 0
    · have r0 : rl (nth s 10) c m = 0 := by
        refine ext10 (hc.lt c) (by decide) (fun i hi => bool_ext ?_)
        rw [rl_bit, c0, Nat.zero_testBit]
        constructor
        · rintro ⟨k, _, _, q⟩; rw [Nat.zero_testBit] at q; exact q
        · intro q; exact absurd q (by decide)
      rw [r0]
      exact eX12_timeOf ⟨fun q => absurd rfl q, fun _ => hK 0 (by rw [c0]; exact GV.zero)⟩
    · obtain ⟨k0, k1, k2⟩ := bit_exm m5 hc2 c0
      have rn : rl (nth s 10) c m ≠ 0 := fun q => by
        have := (hc.bit k1).mpr k2
        rw [q, Nat.zero_testBit] at this; exact absurd this (by decide)
      have F := lp (N := m) (P := fun j => ∀ x : Int, ((x = -1 ∧ ∀ k, k < j → ¬ c.testBit k = true) ∨ (0 ≤ x ∧ x ≤ 2000 ∧ (∀ k, k < j → c.testBit k = true → ∃ y : Int, GV (bwV v s e a) (tmV v s) m (dl c k) (some k) y ∧ x ≤ hbk (bwV v s e a) b k + tmV v s k + y) ∧ ∃ k, k < j ∧ c.testBit k = true ∧ ∃ y : Int, GV (bwV v s e a) (tmV v s) m (dl c k) (some k) y ∧ x = hbk (bwV v s e a) b k + tmV v s k + y)) → GW l (mX12_timeOf (d + 1 + 1)) 12 [(0, .inr 82), (1, .inl (I a)), (2, .inl (I (rl (nth s 10) c m : Nat))), (3, .inl (I (bI s b))), (4, .inl (I x)), (5, .inl (I j))] [] σ 0 0 (PI K)) ?_ ?_ 0 (by omega)
      · refine eX12_timeOf ⟨fun _ => F (-1) (Or.inl ⟨rfl, fun k hk => absurd hk (by omega)⟩), fun q => ?_⟩
        rw [I_0, I_eq ⟨by omega, by omega⟩ ⟨by omega, by omega⟩] at q; exact absurd q (by omega)
      · intro x hx
        refine gX12_timeOf_12 ⟨hB.1.ob, fun _ => hK x ?_, fun q => absurd ?_ q⟩
        · rcases hx with ⟨_, q⟩ | ⟨_, _, q1, k, kk1, kk2, y, y1, y2⟩
          · exact absurd k2 (q k0 k1)
          · have hy' : ∀ k, ∃ y : Int, k < m → c.testBit k = true → GV (bwV v s e a) (tmV v s) m (dl c k) (some k) y ∧ x ≤ hbk (bwV v s e a) b k + tmV v s k + y := fun k => by
              by_cases q : k < m ∧ c.testBit k = true
              · obtain ⟨y, q2⟩ := q1 k q.1 q.2; exact ⟨y, fun _ _ => q2⟩
              · exact ⟨0, fun u1 u2 => absurd ⟨u1, u2⟩ q⟩
            obtain ⟨f, hf⟩ := Classical.axiomOfChoice hy'
            refine GV.step (f := f) m5 (by omega) c0 (fun k u1 u2 => (hf k u1 u2).1) (fun k u1 u2 => (hf k u1 u2).2) ⟨k, kk1, kk2, ?_⟩
            rw [y2, y1.un (hf k kk1 kk2).1]
        · rw [hR.1]; exact (I_le ⟨by omega, by omega⟩ ⟨by omega, by omega⟩).mpr (Int.le_refl _)
      · intro j hj ih x hx
        have hj' := hc.2.2 j hj
        have cj : σ.2.1 (σ.2.2 82 53) (I (j : Int)).toNatClampNeg = I (nth s 10 j : Nat) := by rw [hB.1.d53 (by omega) (by omega), I_tn]; exact (hR.2 j hj).1
        have xr : -1 ≤ x ∧ x ≤ 2000 := by rcases hx with q | q <;> omega
        refine gX12_timeOf_12 ⟨hB.1.ob, fun q => ?_, fun _ => ⟨hB.1.a53 (by omega) (by omega), ?_⟩⟩
        · rw [hR.1, I_le ⟨by omega, by omega⟩ ⟨by omega, by omega⟩] at q; exact absurd q (by omega)
        rw [cj, bitI (by omega) hj'.2.1]
        by_cases z : (rl (nth s 10) c m).testBit (nth s 10 j) = true
        · rw [if_pos z]
          have zc := (hc.bit hj).mp z
          have abj := hab j hj zc
          refine ⟨fun _ => ?_, fun q => absurd q (by decide)⟩
          have G : ∀ t : Int, t = hbk (bwV v s e a) b j → GW l (mX12_timeOf (d + 1 + 1)) 83 [(0, .inr 82), (1, .inl (I a)), (2, .inl (I (rl (nth s 10) c m : Nat))), (3, .inl (I (bI s b))), (4, .inl (I x)), (5, .inl (I j)), (6, .inl (I (nth s 10 j : Nat)))] [.inl (I t)] σ 0 0 (PI K) := by
            intro t et
            have tr : 0 ≤ t ∧ t ≤ 15 := by
              rw [et]
              cases b with
              | none => exact ⟨Int.le_refl 0, by show (0 : Int) ≤ 15; omega⟩
              | some q => exact hbt q j
            have pd := pc5_dl c (by omega) j (by omega) zc
            refine gX12_timeOf_83 ⟨hB.1.ob, hB.1.a18 (by omega) (by omega), ?_⟩
            rw [clrI rlt hj'.2.1, hc.del hj]
            refine ihd (dl c j) (some j) _ (dl_lt2 hc2) (by omega) (fun k u1 u2 => hab k u1 ((dl_in (by omega) (by omega)).mp u2).1) (fun k u => by cases u; exact ⟨hj, abj⟩) (fun y hy => ?_)
            have yr := hy.rg m5 hbt ht (dl32 (by omega))
            have tj := ht j
            have etj : v.2.1 (nth s 10 j) 0 1 = tmV v s j := by unfold tmV; rw [if_pos (by rw [← hc.1]; exact hj)]
            rw [hB.tk hj'.1 hj'.2.1, etj, I_add, I_add, show (-1 : Int32) = I (-1) from rfl, I_eq' (by omega) (by omega) (by omega) (by omega), I_le' (by omega) (by omega) (by omega) (by omega), I_1, I_add]
            have U : (x = -1 ∨ t + tmV v s j + y < x) → GW l (mX12_timeOf (d + 1 + 1)) 12 [(0, .inr 82), (1, .inl (I a)), (2, .inl (I (rl (nth s 10) c m : Nat))), (3, .inl (I (bI s b))), (4, .inl (I (t + tmV v s j + y))), (5, .inl (I ((j : Int) + 1)))] [] σ 0 0 (PI K) := fun q => by
              refine ih _ (Or.inr ⟨by omega, by omega, fun k u1 u2 => ?_, j, by omega, zc, y, hy, by rw [et]⟩)
              by_cases e1 : k = j
              · rw [e1]; exact ⟨y, hy, by rw [et]; exact Int.le_refl _⟩
              · rcases hx with ⟨_, q1⟩ | ⟨_, _, q1, _⟩
                · exact absurd u2 (q1 k (by omega))
                · obtain ⟨y', y1, y2⟩ := q1 k (by omega) u2
                  exact ⟨y', y1, by omega⟩
            refine ⟨fun q => U (Or.inl q), fun q => ⟨fun q2 => ?_, fun q2 => U (Or.inr (by omega))⟩⟩
            refine ih x (Or.inr ?_)
            rcases hx with ⟨q1, _⟩ | ⟨x0, x1, q1, k, r1, r2, r3⟩
            · exact absurd q1 q
            · refine ⟨x0, x1, fun k u1 u2 => ?_, k, by omega, r2, r3⟩
              by_cases e1 : k = j
              · rw [e1]; exact ⟨y, hy, by rw [← et]; exact q2⟩
              · exact q1 k (by omega) u2
          cases b with
          | none => exact ⟨fun q => absurd rfl q, fun _ => G 0 rfl⟩
          | some kb =>
            obtain ⟨kb1, kb2⟩ := hb kb rfl
            have kbc := hc.2.2 kb kb1
            refine ⟨fun _ => ?_, fun q => ?_⟩
            · show Ai σ (σ.2.2 82 52) (2 * I (nth s 10 kb : Nat) + I a) ∧ _
              rw [show (2 : Int32) = I 2 from rfl]
              show Ai σ (σ.2.2 82 52) (I 2 * I (nth s 10 kb : Nat) + I a) ∧ Ai σ (σ.2.2 82 51) (I 2 * I (nth s 10 j : Nat) + I a) ∧ Con l mX12_hopOf [.inr 82, .inl (I a), .inl (σ.2.1 (σ.2.2 82 52) (I 2 * I (nth s 10 kb : Nat) + I a).toNatClampNeg), .inl (σ.2.1 (σ.2.2 82 51) (I 2 * I (nth s 10 j : Nat) + I a).toNatClampNeg)] σ _
              rw [I_mul, I_add, I_mul, I_add]
              refine ⟨hB.1.a52 (by omega) (by omega), hB.1.a51 (by omega) (by omega), ?_⟩
              rw [hB.1.d52 (by omega) (by omega), hB.1.d51 (by omega) (by omega), show (2 * (nth s 10 kb : Int) + (a : Int)).toNat = 2 * nth s 10 kb + a by omega, show (2 * (nth s 10 j : Int) + (a : Int)).toNat = 2 * nth s 10 j + a by omega, (((hR.2 kb kb1).2 a ha).1 kb2).2.2, (((hR.2 j hj).2 a ha).1 abj).2.1]
              have r1 := (hr kb kb1 kb2).2
              have r2 := (hr j hj abj).1
              refine m_hop hB.1 hB.2.1 ha hwf r1.1 (by omega) r2.1 (by omega) ?_
              have hg := hps_rg hwf (lsT v e a (nth s 10 kb)) (fsT v e a (nth s 10 j)) (v.1 a 0 2).toNat (by have := hwf.1; omega)
              rw [I_1, I_sub, I_0]
              unfold hop
              refine q_max ⟨by omega, by omega⟩ ⟨by omega, by omega⟩ (G _ ?_)
              show max 0 (hps (v.1 a) (lsT v e a (nth s 10 kb)) (fsT v e a (nth s 10 j)) (v.1 a 0 2).toNat - 1) = max (hop (v.1 a) (lsT v e a (nth s 10 kb)) (fsT v e a (nth s 10 j)) - 1) 0
              unfold hop
              omega
            · have q : I ((nth s 10 kb : Nat) : Int) = I (-1) := q
              rw [I_eq ⟨by omega, by omega⟩ ⟨by omega, by omega⟩] at q; exact absurd q (by omega)
        · rw [if_neg z]
          refine ⟨fun q => absurd rfl q, fun _ => ?_⟩
          have zc : ¬ c.testBit j = true := fun q => z ((hc.bit hj).mpr q)
          rw [I_1, I_add]
          refine ih x ?_
          rcases hx with ⟨q1, q2⟩ | ⟨x0, x1, q1, k, r1, r2, r3⟩
          · refine Or.inl ⟨q1, fun k hk => ?_⟩
            by_cases e1 : k = j
            · rw [e1]; exact zc
            · exact q2 k (by omega)
          · refine Or.inr ⟨x0, x1, fun k u1 u2 => ?_, k, by omega, r2, r3⟩
            by_cases e1 : k = j
            · exact absurd (e1 ▸ u2) zc
            · exact q1 k (by omega) u2
end SHR
