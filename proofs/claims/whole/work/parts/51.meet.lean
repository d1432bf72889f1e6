/-! meet: the least times, and the way -/
noncomputable def mtF (n m : Nat) (tc : Nat → Nat → Prop) : Nat → Nat → Nat → Int
  | 0, _, _ => 1000000
  | f + 1, i, j => if n ≤ i ∨ m ≤ j then 1000000 else cif (tc i j) 1000000 (if i + 1 = n ∧ j + 1 = m then 0 else min (1 + min (mtF n m tc f (i + 1) (j + 1)) (min (mtF n m tc f (i + 1) j) (mtF n m tc f i (j + 1)))) 1000000)
noncomputable def MT (n m : Nat) (tc : Nat → Nat → Prop) (i j : Nat) : Int := mtF n m tc (n + m + 1) i j
section MTS
variable {n m : Nat} {tc : Nat → Nat → Prop}
theorem mtF_out (f : Nat) {i j : Nat} (h : n ≤ i ∨ m ≤ j) : mtF n m tc f i j = 1000000 := by
  cases f with
  | zero => rfl
  | succ f => show (if n ≤ i ∨ m ≤ j then 1000000 else _) = _; rw [if_pos h]
theorem mtF_fuel : ∀ f g i j : Nat, n + m ≤ f + i + j → n + m ≤ g + i + j → mtF n m tc f i j = mtF n m tc g i j := by
  intro f
  induction f with
  | zero =>
    intro g i j h1 h2
    have : n ≤ i ∨ m ≤ j := by omega
    rw [mtF_out 0 this, mtF_out g this]
  | succ f ih =>
    intro g i j h1 h2
    cases g with
    | zero =>
      have : n ≤ i ∨ m ≤ j := by omega
      rw [mtF_out _ this, mtF_out _ this]
    | succ g =>
      show (if n ≤ i ∨ m ≤ j then 1000000 else cif (tc i j) 1000000 (if i + 1 = n ∧ j + 1 = m then 0 else min (1 + min (mtF n m tc f (i + 1) (j + 1)) (min (mtF n m tc f (i + 1) j) (mtF n m tc f i (j + 1)))) 1000000)) = (if n ≤ i ∨ m ≤ j then 1000000 else cif (tc i j) 1000000 (if i + 1 = n ∧ j + 1 = m then 0 else min (1 + min (mtF n m tc g (i + 1) (j + 1)) (min (mtF n m tc g (i + 1) j) (mtF n m tc g i (j + 1)))) 1000000))
      rw [ih g (i + 1) (j + 1) (by omega) (by omega), ih g (i + 1) j (by omega) (by omega), ih g i (j + 1) (by omega) (by omega)]
theorem MT_out {i j : Nat} (h : n ≤ i ∨ m ≤ j) : MT n m tc i j = 1000000 := mtF_out _ h
theorem MT_in {i j : Nat} (hi : i < n) (hj : j < m) : MT n m tc i j = cif (tc i j) 1000000 (if i + 1 = n ∧ j + 1 = m then 0 else min (1 + min (MT n m tc (i + 1) (j + 1)) (min (MT n m tc (i + 1) j) (MT n m tc i (j + 1)))) 1000000) := by
  show (if n ≤ i ∨ m ≤ j then 1000000 else cif (tc i j) 1000000 (if i + 1 = n ∧ j + 1 = m then 0 else min (1 + min (mtF n m tc (n + m) (i + 1) (j + 1)) (min (mtF n m tc (n + m) (i + 1) j) (mtF n m tc (n + m) i (j + 1)))) 1000000)) = _
  rw [if_neg (by omega), mtF_fuel (n + m) (n + m + 1) (i + 1) (j + 1) (by omega) (by omega), mtF_fuel (n + m) (n + m + 1) (i + 1) j (by omega) (by omega), mtF_fuel (n + m) (n + m + 1) i (j + 1) (by omega) (by omega)]
  rfl
theorem mtF_rg : ∀ f i j : Nat, (0 ≤ mtF n m tc f i j ∧ mtF n m tc f i j ≤ 1000000) ∧ (mtF n m tc f i j < 1000000 → i < n ∧ j < m ∧ mtF n m tc f i j + i + j + 2 ≤ n + m) := by
  intro f
  induction f with
  | zero => intro i j; exact ⟨⟨by show (0 : Int) ≤ 1000000; omega, by show (1000000 : Int) ≤ 1000000; omega⟩, fun q => absurd q (by show ¬ (1000000 : Int) < 1000000; omega)⟩
  | succ f ih =>
    intro i j
    have a := ih (i + 1) (j + 1); have b := ih (i + 1) j; have c := ih i (j + 1)
    by_cases h : n ≤ i ∨ m ≤ j
    · rw [mtF_out _ h]; exact ⟨by omega, fun q => absurd q (by omega)⟩
    · have e : mtF n m tc (f + 1) i j = cif (tc i j) 1000000 (if i + 1 = n ∧ j + 1 = m then 0 else min (1 + min (mtF n m tc f (i + 1) (j + 1)) (min (mtF n m tc f (i + 1) j) (mtF n m tc f i (j + 1)))) 1000000) := by
        show (if n ≤ i ∨ m ≤ j then 1000000 else _) = _
        rw [if_neg h]
      rw [e]
      by_cases ht : tc i j
      · rw [cif_t ht]; exact ⟨by omega, fun q => absurd q (by omega)⟩
      · rw [cif_f ht]
        split <;> omega
theorem MT_rg (i j : Nat) : (0 ≤ MT n m tc i j ∧ MT n m tc i j ≤ 1000000) ∧ (MT n m tc i j < 1000000 → i < n ∧ j < m ∧ MT n m tc i j + i + j + 2 ≤ n + m) := mtF_rg _ _ _
/-- the way, time by time -/
noncomputable def pth (n m : Nat) (tc : Nat → Nat → Prop) : Nat → Nat × Nat
  | 0 => (0, 0)
  | k + 1 => let p := pth n m tc k
    if MT n m tc (p.1 + 1) (p.2 + 1) = MT n m tc 0 0 - k - 1 then (p.1 + 1, p.2 + 1) else if MT n m tc (p.1 + 1) p.2 = MT n m tc 0 0 - k - 1 then (p.1 + 1, p.2) else (p.1, p.2 + 1)
theorem pth_step {k : Nat} (hk : (k : Int) < MT n m tc 0 0) (h0 : MT n m tc 0 0 < 1000000) (h : MT n m tc (pth n m tc k).1 (pth n m tc k).2 = MT n m tc 0 0 - k) : MT n m tc (pth n m tc (k + 1)).1 (pth n m tc (k + 1)).2 = MT n m tc 0 0 - (k + 1 : Nat) := by
  have r := (MT_rg (n := n) (m := m) (tc := tc) (pth n m tc k).1 (pth n m tc k).2).2 (by omega)
  have e := MT_in (tc := tc) r.1 r.2.1
  have a := MT_rg (n := n) (m := m) (tc := tc) ((pth n m tc k).1 + 1) ((pth n m tc k).2 + 1)
  have b := MT_rg (n := n) (m := m) (tc := tc) ((pth n m tc k).1 + 1) (pth n m tc k).2
  have c := MT_rg (n := n) (m := m) (tc := tc) (pth n m tc k).1 ((pth n m tc k).2 + 1)
  have e2 : MT n m tc (pth n m tc k).1 (pth n m tc k).2 = 1 + min (MT n m tc ((pth n m tc k).1 + 1) ((pth n m tc k).2 + 1)) (min (MT n m tc ((pth n m tc k).1 + 1) (pth n m tc k).2) (MT n m tc (pth n m tc k).1 ((pth n m tc k).2 + 1))) := by
    by_cases ht : tc (pth n m tc k).1 (pth n m tc k).2
    · rw [cif_t ht] at e; omega
    · rw [cif_f ht] at e
      by_cases hl : (pth n m tc k).1 + 1 = n ∧ (pth n m tc k).2 + 1 = m
      · rw [if_pos hl] at e; omega
      · rw [if_neg hl] at e; omega
  show MT n m tc (if MT n m tc ((pth n m tc k).1 + 1) ((pth n m tc k).2 + 1) = MT n m tc 0 0 - k - 1 then ((pth n m tc k).1 + 1, (pth n m tc k).2 + 1) else if MT n m tc ((pth n m tc k).1 + 1) (pth n m tc k).2 = MT n m tc 0 0 - k - 1 then ((pth n m tc k).1 + 1, (pth n m tc k).2) else ((pth n m tc k).1, (pth n m tc k).2 + 1)).1 (if MT n m tc ((pth n m tc k).1 + 1) ((pth n m tc k).2 + 1) = MT n m tc 0 0 - k - 1 then ((pth n m tc k).1 + 1, (pth n m tc k).2 + 1) else if MT n m tc ((pth n m tc k).1 + 1) (pth n m tc k).2 = MT n m tc 0 0 - k - 1 then ((pth n m tc k).1 + 1, (pth n m tc k).2) else ((pth n m tc k).1, (pth n m tc k).2 + 1)).2 = _
  by_cases q1 : MT n m tc ((pth n m tc k).1 + 1) ((pth n m tc k).2 + 1) = MT n m tc 0 0 - k - 1
  · rw [if_pos q1]; show MT n m tc ((pth n m tc k).1 + 1) ((pth n m tc k).2 + 1) = _; omega
  · rw [if_neg q1]
    by_cases q2 : MT n m tc ((pth n m tc k).1 + 1) (pth n m tc k).2 = MT n m tc 0 0 - k - 1
    · rw [if_pos q2]; show MT n m tc ((pth n m tc k).1 + 1) (pth n m tc k).2 = _; omega
    · rw [if_neg q2]; show MT n m tc (pth n m tc k).1 ((pth n m tc k).2 + 1) = _; omega
theorem pth_ok (h0 : MT n m tc 0 0 < 1000000) : ∀ k : Nat, (k : Int) ≤ MT n m tc 0 0 → MT n m tc (pth n m tc k).1 (pth n m tc k).2 = MT n m tc 0 0 - k := by
  intro k
  induction k with
  | zero => intro _; show MT n m tc 0 0 = _; omega
  | succ k ih => intro h; exact pth_step (by omega) h0 (ih (by omega))
end MTS
/-! bodies -/
def pcl (A : Nat → Nat → Int) (p : Int) (k : Nat) : Int × Int := (pnt A p k 0 / 1000, pnt A p k 1 / 1000)
def mcl (A : Nat → Nat → Int) (p : Int) (k : Nat) : Int × Int := ((pnt A p k 0 + pnt A p (k + 1) 0) / 2 / 1000, (pnt A p k 1 + pnt A p (k + 1) 1) / 2 / 1000)
def clr (A : Nat → Nat → Int) (p : Int) (r : Nat) : Int × Int := if r % 2 = 0 then mcl A p (r / 2) else pcl A p (r / 2 + 1)
def cC (q : Int × Int) : Int := (q.1 + 64) * 256 + q.2 + 64
def rC (q : Int × Int) : Int := 1000 * q.2 + q.1
theorem clr_rg {A : Nat → Nat → Int} (hw : ArmWf A) (p : Int) {r : Nat} (hr : r < 6) : (-18 ≤ (clr A p r).1 ∧ (clr A p r).1 ≤ 38) ∧ (-18 ≤ (clr A p r).2 ∧ (clr A p r).2 ≤ 38) := by
  have a1 := pnt_rg hw p (k := r / 2) (w := 0) (by omega) (Or.inl rfl)
  have a2 := pnt_rg hw p (k := r / 2) (w := 1) (by omega) (Or.inr rfl)
  have b1 := pnt_rg hw p (k := r / 2 + 1) (w := 0) (by omega) (Or.inl rfl)
  have b2 := pnt_rg hw p (k := r / 2 + 1) (w := 1) (by omega) (Or.inr rfl)
  unfold clr mcl pcl
  split
  · exact ⟨by show _ ∧ _; omega, by show _ ∧ _; omega⟩
  · exact ⟨by show _ ∧ _; omega, by show _ ∧ _; omega⟩
theorem cC_inj {p q : Int × Int} (hp : (-18 ≤ p.1 ∧ p.1 ≤ 38) ∧ (-18 ≤ p.2 ∧ p.2 ≤ 38)) (hq : (-18 ≤ q.1 ∧ q.1 ≤ 38) ∧ (-18 ≤ q.2 ∧ q.2 ≤ 38)) : cC p = cC q ↔ p = q := by
  refine ⟨fun h => ?_, fun h => by rw [h]⟩
  unfold cC at h
  exact Prod.ext (by omega) (by omega)
theorem rC_inj {p q : Int × Int} (hp : (-18 ≤ p.1 ∧ p.1 ≤ 38) ∧ (-18 ≤ p.2 ∧ p.2 ≤ 38)) (hq : (-18 ≤ q.1 ∧ q.1 ≤ 38) ∧ (-18 ≤ q.2 ∧ q.2 ≤ 38)) : rC p = rC q ↔ p = q := by
  refine ⟨fun h => ?_, fun h => by rw [h]⟩
  unfold rC at h
  exact Prod.ext (by omega) (by omega)
/-- tapes a (of arm 0) and b (of arm 1): do their bodies share a cell at ticks i, j? -/
def tcc (v : Vt) (a b : Nat) (i j : Nat) : Prop := ∃ r s : Nat, r < 2 * (v.1 0 0 2).toNat ∧ s < 2 * (v.1 1 0 2).toNat ∧ clr (v.1 0) (v.2.1 a 1 i) r = clr (v.1 1) (v.2.1 b 1 j) s
section MEC
variable {l : Launch} {σ σ' : Sg} {v v' : Vt} {c : Nat} {a b n m J0 J1 : Nat}
theorem q_cellOf {K : Int32 → Sg → Prop} {x y : Int} (hx : -18000 ≤ x ∧ x ≤ 38000) (hy : -18000 ≤ y ∧ y ≤ 38000) (hK : K (I (cC (x / 1000, y / 1000))) σ) : Con l mX0_cellOf [.inl (I x), .inl (I y)] σ (PI K) := by
  refine eX0_cellOf (q_floorDiv (b := 1000) ⟨by omega, by omega⟩ (by omega) (by omega) (q_floorDiv (b := 1000) ⟨by omega, by omega⟩ (by omega) (by omega) ?_))
  rw [L_lit, I_add, L_lit, I_mul, I_add, I_add]
  exact hK
theorem q_fillBody {K : Sg → Prop} {r R i J : Nat} {A : Nat → Nat → Int} {p : Int} (hA : ArmAt σ r A) (hw : ArmWf A) (hJ : A 0 2 = J) (hp : 0 ≤ p ∧ p < 4096) (hR : R = 70 ∨ R = 71) (hr : r ≤ 10) (hn : 119 ≤ σ.1) (hi : i < 40) (hK : ∀ σ', Onl [R] σ σ' → (∀ k, k < 2 * J → σ'.2.1 R (6 * i + k) = I (cC (clr A p k))) → (∀ k, k < 6 * i → σ'.2.1 R k = σ.2.1 R k) → K σ') : Con l mX0_fillBody [.inr r, .inl (I p), .inr R, .inl (I (i : Int) * 6)] σ (PV K) := by
  have w0 := hw.1
  have hs : shp R = (13, 240) ∧ R ≠ 0 ∧ R ≤ 118 := by rcases hR with rfl | rfl <;> exact ⟨by decide, by decide, by decide⟩
  have J3 : J ≤ 3 := by omega
  have arm : ∀ {σ'}, Onl [R] σ σ' → ArmAt σ' r A := fun o => hA.eq (Nat.le_of_eq o.1.symm) (fun k hk => ⟨o.2.2 _ (fun q => by have := List.mem_singleton.mp q; omega), by rw [o.2.1]⟩)
  refine eX0_fillBody ⟨hA.ob, ?_⟩
  rw [I_0]
  refine q_pointX (k := 0) hA (by omega) hp.1 (by omega) (q_pointY (k := 0) hA (by omega) hp.1 (by omega) ?_)
  have F : ∀ k, k ≤ J → ∀ σ', Onl [R] σ σ' → (∀ k', k' < 2 * k → σ'.2.1 R (6 * i + k') = I (cC (clr A p k'))) → (∀ k', k' < 6 * i → σ'.2.1 R k' = σ.2.1 R k') → GW l mX0_fillBody 22 [(0, .inr r), (1, .inl (I p)), (2, .inr R), (3, .inl (I (i : Int) * 6)), (4, .inl (I (pnt A p k 0))), (5, .inl (I (pnt A p k 1))), (6, .inl (I ((6 * i + 2 * k : Nat) : Int))), (7, .inl (I ((k : Int) + 1)))] [] σ' 0 0 (PV K) := by
    refine lp ?_ ?_
    · intro σ' o' h1 h2
      refine gX0_fillBody_22 ⟨(arm o').ob, fun _ => hK σ' o' h1 h2, fun q => absurd ?_ q⟩
      rw [(arm o').jn, hJ]; exact (I_lt ⟨by omega, by omega⟩ ⟨by omega, by omega⟩).mpr (by omega)
    · intro k hk ih σ' o' h1 h2
      have A' := arm o'
      have al : Al σ' R := ⟨hs.2.1, by rw [hs.1]; decide, by rw [o'.1]; omega⟩
      have ln : Int32.ofNat (shp R).2 = I 240 := by rw [hs.1]; rfl
      have a1 := pnt_rg hw p (k := k) (w := 0) (by omega) (Or.inl rfl)
      have a2 := pnt_rg hw p (k := k) (w := 1) (by omega) (Or.inr rfl)
      have b1 := pnt_rg hw p (k := k + 1) (w := 0) (by omega) (Or.inl rfl)
      have b2 := pnt_rg hw p (k := k + 1) (w := 1) (by omega) (Or.inr rfl)
      refine gX0_fillBody_22 ⟨A'.ob, fun q => ?_, fun _ => ⟨fun q => ?_, fun _ => ⟨al, fun q => ?_, fun _ => ?_⟩⟩⟩
      · rw [A'.jn, hJ, I_lt ⟨by omega, by omega⟩ ⟨by omega, by omega⟩] at q; omega
      · rw [I_0, I_lt ⟨by omega, by omega⟩ ⟨by omega, by omega⟩] at q; omega
      · rw [ln, I_1, I_add, I_le ⟨by omega, by omega⟩ ⟨by omega, by omega⟩] at q; omega
      · rw [show ((k : Int) + 1) = ((k + 1 : Nat) : Int) by omega]
        refine q_pointX A' (by omega) hp.1 (by omega) (q_pointY A' (by omega) hp.1 (by omega) ?_)
        rw [I_add, I_add]
        refine q_floorDiv (b := 2) ⟨by omega, by omega⟩ (by omega) (by omega) (q_floorDiv (b := 2) ⟨by omega, by omega⟩ (by omega) (by omega) (q_cellOf (by omega) (by omega) ⟨ai_of hs.1 hs.2.1 (by rw [o'.1]; omega) (by omega) (by omega) (by decide), fun σ12 e12 => ?_⟩))
        rw [I_cln (by omega)] at e12
        have o12 := o'.tr (Onl.w e12 List.mem_cons_self)
        refine q_cellOf (by omega) (by omega) ?_
        rw [I_1, I_add]
        refine ⟨ai_of hs.1 hs.2.1 (by rw [o12.1]; omega) (by omega) (by omega) (by decide), fun σ15 e15 => ?_⟩
        rw [I_cl (by omega) (by omega), show (((6 * i + 2 * k : Nat) : Int) + 1).toNat = 6 * i + 2 * k + 1 by omega] at e15
        rw [show (2 : Int32) = I 2 from rfl, I_add, I_add]
        have := ih σ15 (o12.tr (Onl.w e15 List.mem_cons_self)) (fun k' hk' => ?_) (fun k' hk' => ?_)
        · rw [show (((6 * i + 2 * (k + 1) : Nat) : Int)) = ((6 * i + 2 * k : Nat) : Int) + 2 by omega] at this
          exact this
        · rw [e15]
          by_cases z : k' = 2 * k + 1
          · rw [z, show 6 * i + (2 * k + 1) = 6 * i + 2 * k + 1 by omega, w1_at]
            unfold clr
            rw [if_neg (by omega), show (2 * k + 1) / 2 + 1 = k + 1 by omega]; rfl
          · rw [w1_k (by omega), e12]
            by_cases y : k' = 2 * k
            · rw [y, w1_at]
              unfold clr
              rw [if_pos (by omega), show 2 * k / 2 = k by omega]; rfl
            · rw [w1_k (by omega)]; exact h1 k' (by omega)
        · rw [e15, w1_k (by omega), e12, w1_k (by omega)]; exact h2 k' hk'
  have := F 0 (by omega) σ (Onl.rf _ _) (fun k' hk' => absurd hk' (by omega)) (fun k' _ => rfl)
  rw [show (((6 * i + 2 * 0 : Nat) : Int)) = (i : Int) * 6 by omega] at this
  have e6 : I (i : Int) * 6 = I ((i : Int) * 6) := by rw [L_lit, I_mul]
  rw [e6] at this ⊢
  exact this
end MEC
