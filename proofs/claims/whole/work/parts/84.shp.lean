/-! share: the chosen tapes -/
def cntB (s : Nat) : Nat → Nat
  | 0 => 0
  | i + 1 => cntB s i + if s.testBit i = true then 1 else 0
def nth (s : Nat) : Nat → Nat → Nat
  | 0, _ => 0
  | i + 1, k => if s.testBit i = true ∧ k = cntB s i then i else nth s i k
theorem cntB_s {s i : Nat} : cntB s (i + 1) = cntB s i + if s.testBit i = true then 1 else 0 := rfl
theorem nth_s {s i k : Nat} : nth s (i + 1) k = if s.testBit i = true ∧ k = cntB s i then i else nth s i k := rfl
theorem cntB_mono {s i : Nat} : ∀ j, i ≤ j → cntB s i ≤ cntB s j := by
  intro j
  induction j with
  | zero => intro h; rw [show i = 0 by omega]; exact Nat.le_refl _
  | succ j ih =>
    intro h
    by_cases e : i = j + 1
    · rw [e]; exact Nat.le_refl _
    · have := ih (by omega)
      rw [cntB_s]; omega
theorem cntB_le {s : Nat} : ∀ i, cntB s i ≤ i := by
  intro i
  induction i with
  | zero => exact Nat.le_refl _
  | succ i ih => rw [cntB_s]; split <;> omega
theorem nth_ok {s : Nat} : ∀ i k, k < cntB s i → nth s i k < i ∧ s.testBit (nth s i k) = true ∧ cntB s (nth s i k) = k := by
  intro i
  induction i with
  | zero => intro k h; exact absurd h (by show ¬ k < 0; omega)
  | succ i ih =>
    intro k h
    rw [nth_s]
    by_cases e : s.testBit i = true ∧ k = cntB s i
    · rw [if_pos e]; exact ⟨by omega, e.1, e.2.symm⟩
    · rw [if_neg e]
      rw [cntB_s] at h
      have : k < cntB s i := by
        by_cases q : s.testBit i = true
        · rw [if_pos q] at h
          by_cases q2 : k = cntB s i
          · exact absurd ⟨q, q2⟩ e
          · omega
        · rw [if_neg q] at h; omega
      obtain ⟨a, b⟩ := ih k this
      exact ⟨by omega, b⟩
theorem nth_at {s j : Nat} (hj : s.testBit j = true) : ∀ i, j < i → cntB s j < cntB s i ∧ nth s i (cntB s j) = j := by
  intro i
  induction i with
  | zero => intro h; omega
  | succ i ih =>
    intro h
    rw [nth_s, cntB_s]
    by_cases e : j = i
    · subst e
      rw [if_pos hj, if_pos ⟨hj, rfl⟩]; exact ⟨by omega, rfl⟩
    · obtain ⟨a, b⟩ := ih (by omega)
      refine ⟨by split <;> omega, ?_⟩
      rw [if_neg (fun q => by have := q.2; omega)]; exact b
theorem nth_inc {s i k k' : Nat} (h : k < k') (hk : k' < cntB s i) : nth s i k < nth s i k' := by
  have a := nth_ok (s := s) i k (by omega)
  have b := nth_ok i k' hk
  by_cases z : nth s i k < nth s i k'
  · exact z
  · have := cntB_mono (s := s) (nth s i k) (show nth s i k' ≤ nth s i k by omega)
    omega
theorem cnt_stab {s N : Nat} (h : s < 2 ^ N) : ∀ i, N ≤ i → cntB s i = cntB s N ∧ ∀ k, nth s i k = nth s N k := by
  intro i
  induction i with
  | zero => intro q; rw [show N = 0 by omega]; exact ⟨rfl, fun _ => rfl⟩
  | succ i ih =>
    intro q
    by_cases e : N = i + 1
    · rw [e]; exact ⟨rfl, fun _ => rfl⟩
    · have tb : s.testBit i = false := Nat.testBit_lt_two_pow (Nat.lt_of_lt_of_le h (Nat.pow_le_pow_right (by omega) (by omega)))
      obtain ⟨a, b⟩ := ih (by omega)
      rw [cntB_s, tb, if_neg (by decide)]
      refine ⟨by omega, fun k => ?_⟩
      rw [nth_s, tb, if_neg (fun q => absurd q.1 (by decide))]
      exact b k
/-! what is asked of each tape -/
def abT (v : Vt) (e : Int) (a t : Nat) : Prop := v.2.1 t 0 0 = (a : Int) ∨ fokV v t a 0 e
noncomputable def fsT (v : Vt) (e : Int) (a t : Nat) : Int := if v.2.1 t 0 0 = (a : Int) then v.2.1 t 1 0 else (fwR v t a 0 e 0 : Nat)
noncomputable def lsT (v : Vt) (e : Int) (a t : Nat) : Int := if v.2.1 t 0 0 = (a : Int) then v.2.1 t 1 (v.2.1 t 0 1 - 1).toNat else (fwR v t a 0 e (fwN v t - 1) : Nat)
section SHP
variable {l : Launch} {σ σ' τ : Sg} {v : Vt} {c t a k : Nat} {e : Int}
theorem FF.cs (h : FF σ σ') : CSm σ σ' := ⟨h.1, fun r k _ q => h.2.2 r k q, fun r hr => by
  by_cases z : r < 120
  · exact (h.2.1 r z).1
  · exact absurd (show Scr r from ⟨by omega, by omega, by omega, by omega, by omega, by omega⟩) hr⟩
theorem CSm.z8 (h : CSm σ σ') : σ'.2.2 1 8 = σ.2.2 1 8 := h.2.1 1 8 (by omega) (by omega)
theorem fs_rg (hw : WF c v) (htn : (t : Int) < v.2.2.1 1) (tz : v.2.1 t 0 1 ≠ 0) (hb : abT v e a t) : (0 ≤ fsT v e a t ∧ fsT v e a t < 4096) ∧ 0 ≤ lsT v e a t ∧ lsT v e a t < 4096 := by
  have wt := hw.2.2.2.1 t htn
  unfold fsT lsT
  by_cases z : v.2.1 t 0 0 = (a : Int)
  · rw [if_pos z, if_pos z]
    have p0 := (wt.2.2.2.2.2 0 (by omega)).1
    have p1 := (wt.2.2.2.2.2 (v.2.1 t 0 1 - 1).toNat (by omega)).1
    exact ⟨⟨p0.1, p0.2.1⟩, p1.1, p1.2.1⟩
  · rw [if_neg z, if_neg z]
    have hf : fokV v t a 0 e := hb.resolve_left z
    have n1 : 0 < fwN v t := by unfold fwN; omega
    have q0 := (frw_ok hf 0 n1).1
    have q1 := (frw_ok hf (fwN v t - 1) (by omega)).1
    unfold fwR
    omega
set_option maxHeartbeats 1000000 in
theorem q_putTape {K : Sg → Prop} (h : CR τ v) (hw : WF c v) (hz : τ.2.2 1 8 = 120) (h2 : v.2.2.1 0 = 2) (htn : (t : Int) < v.2.2.1 1) (t10 : t < 10) (tz : v.2.1 t 0 1 ≠ 0) (ha : a < 2) (he : 0 ≤ e ∧ e ≤ 2000) (hk : τ.2.1 74 7 = I k) (k5 : k < 5)
    (hK : ∀ τ', CSm τ τ' → (∀ r, r < 120 → r ≠ 75 → r ≠ 76 → r ≠ 79 → τ'.2.1 r = τ.2.1 r) → (∀ r b, r < 120 → b ≠ 5 * a + k → τ'.2.1 r b = τ.2.1 r b) → ((abT v e a t → τ'.2.1 79 (5 * a + k) = 1 ∧ τ'.2.1 75 (5 * a + k) = I (fsT v e a t) ∧ τ'.2.1 76 (5 * a + k) = I (lsT v e a t)) ∧ (¬ abT v e a t → τ'.2.1 79 (5 * a + k) = 0)) → K τ') : Con l mX6_putTape [.inr 74, .inr 2, .inr 120, .inr (15 + 3 * t), .inl (I a), .inl (I e)] τ (PV K) := by
  have wt := hw.2.2.2.1 t htn
  have hC := h.1
  have hF := h.fp hz
  have ln : Int32.ofNat (shp (τ.2.2 74 4)).2 = I 10 := by rw [hC.p74_4]; rfl
  have al : Al τ (τ.2.2 74 4) := by rw [hC.p74_4]; exact ⟨by decide, by decide, Nat.le_trans (by decide) hC.1⟩
  refine eX6_putTape ⟨hC.o74, hC.o2, h.ao hw htn (fun o eo o2 oj => h.ar hw ⟨by omega, by omega⟩ (fun a' ea ha' a2 => ?_) (fun q => absurd ⟨by omega, by omega⟩ q))⟩
  have ea : a' = a := by omega
  subst ea
  rw [hk, ln, show (5 : Int32) = I 5 from rfl, I_mul, I_add]
  refine ⟨fun z => absurd z (by omega), fun _ => ⟨fun z => absurd z (by omega), fun _ => ⟨fun z => ?_, fun _ => ⟨al, fun _ => ⟨(h.P t10).ob, ?_⟩, fun z => absurd ?_ z⟩⟩⟩⟩
  · rw [I_0, I_lt ⟨by omega, by omega⟩ ⟨by omega, by omega⟩] at z; exact absurd z (by omega)
  · rw [(h.D htn).1]
    refine ⟨fun no => ⟨hF.o120, ?_⟩, fun ow => ?_⟩
    · rw [I_eq ⟨by omega, by omega⟩ ⟨by omega, by omega⟩] at no
      have hwf := (hw.2.2.1 a' a2).1
      have hwo := (hw.2.2.1 o o2).1
      have en : v.2.1 t 0 1 = (fwN v t : Nat) := by unfold fwN; omega
      have eo' : (v.2.1 t 0 0).toNat = o := by omega
      have eX : wX (v.1 o) (v.2.1 t) 0 = fwX v t 0 := by unfold fwX; rw [eo']
      have eY : wY (v.1 o) (v.2.1 t) = fwY v t := by unfold fwY; rw [eo']
      have R : ∀ σ1 : Sg, ∀ x : Int32, FF τ σ1 → (x = 0 ∨ x = 1) → (abT v e a' t → x = 1 ∧ σ1.2.1 130 0 = I (fsT v e a' t) ∧ σ1.2.1 130 (fwN v t - 1) = I (lsT v e a' t)) → (¬ abT v e a' t → x = 0) → Az σ1 (τ.2.2 74 4) (I ((a' : Int) * 5 + (k : Int))) ∧ (x = 0 ∨ x = 1) ∧ ∀ σ16, σ16 = w1 σ1 (τ.2.2 74 4) (I ((a' : Int) * 5 + (k : Int))).toNatClampNeg x → Con l mX3_poseAt [.inr 120, .inl 0] σ16 (PI (fun x17 σ17 => Ai σ17 (σ16.2.2 74 0) (I ((a' : Int) * 5 + (k : Int))) ∧ ∀ σ19, σ19 = w1 σ17 (σ16.2.2 74 0) (I ((a' : Int) * 5 + (k : Int))).toNatClampNeg x17 → Con l mX3_poseAt [.inr 120, .inl ((σ19.2.1 (15 + 3 * t) 3) - 1)] σ19 (PI (fun x20 σ20 => Ai σ20 (σ19.2.2 74 1) (I ((a' : Int) * 5 + (k : Int))) ∧ ∀ σ22, σ22 = w1 σ20 (σ19.2.2 74 1) (I ((a' : Int) * 5 + (k : Int))).toNatClampNeg x20 → K σ22)))) := by
        intro σ1 x f x01 b1 b0
        have C1 := f.C hC
        have F1 := f.F hF
        rw [hC.p74_4, ← C1.p74_4]
        refine ⟨C1.a74_4 (by omega) (by omega), x01, fun σ16 e16 => ?_⟩
        rw [C1.p74_4, I_cl (by omega) (by omega), at5] at e16
        have N16 : σ16.1 = σ1.1 := by rw [e16]; rfl
        have R16 : σ16.2.2 = σ1.2.2 := by rw [e16]; rfl
        have C16 : Cp σ16 := ⟨by rw [N16]; exact C1.1, by rw [R16]; exact C1.2⟩
        have F16 : Fp σ16 := ⟨by rw [N16]; exact F1.1, by rw [R16]; exact F1.2⟩
        refine eX3_poseAt ⟨fun z => absurd z (by decide), fun _ => ⟨fun z => absurd z (by decide), fun _ => ⟨F16.o120, F16.a120_9 (z := 0) (by omega) (by omega), ?_⟩⟩⟩
        rw [show (0 : Int32) = I 0 from rfl, F16.d120_9 (by omega) (by omega)]
        refine ⟨C16.a74_0 (by omega) (by omega), fun σ19 e19 => ?_⟩
        rw [C16.p74_0, I_cl (by omega) (by omega), at5] at e19
        have N19 : σ19.1 = σ1.1 := by rw [e19]; exact N16
        have R19 : σ19.2.2 = σ1.2.2 := by rw [e19]; exact R16
        have C19 : Cp σ19 := ⟨by rw [N19]; exact C1.1, by rw [R19]; exact C1.2⟩
        have F19 : Fp σ19 := ⟨by rw [N19]; exact F1.1, by rw [R19]; exact F1.2⟩
        have s3 : σ19.2.1 (15 + 3 * t) 3 = I (v.2.1 t 0 1) := by
          rw [e19, w1_r (by omega), e16, w1_r (by omega), (f.2.1 _ (by omega)).1]; exact (h.D htn).2.1
        rw [s3, I_1, I_sub, show v.2.1 t 0 1 - 1 = ((fwN v t - 1 : Nat) : Int) by omega]
        refine eX3_poseAt ⟨fun z => ?_, fun _ => ⟨fun z => ?_, fun _ => ⟨F19.o120, F19.a120_9 (by omega) (by omega), ?_⟩⟩⟩
        · rw [I_0, I_lt ⟨by omega, by omega⟩ ⟨by omega, by omega⟩] at z; exact absurd z (by omega)
        · rw [L_lit, I_le ⟨by omega, by omega⟩ ⟨by omega, by omega⟩] at z; exact absurd z (by omega)
        rw [F19.d120_9 (by omega) (by omega), I_tn]
        refine ⟨C19.a74_1 (by omega) (by omega), fun σ22 e22 => ?_⟩
        rw [C19.p74_1, I_cl (by omega) (by omega), at5] at e22
        have v130 : ∀ i, σ19.2.1 130 i = σ1.2.1 130 i := fun i => by rw [e19, w1_r (by omega), e16, w1_r (by omega)]
        have u130 : ∀ i, σ16.2.1 130 i = σ1.2.1 130 i := fun i => by rw [e16, w1_r (by omega)]
        refine hK σ22 (f.cs.tr ⟨by rw [e22]; exact N19, fun r b _ _ => by rw [e22]; exact congrFun (congrFun R19 r) b, fun r hr => ?_⟩) (fun r r1 r2 r3 r4 => ?_) (fun r b r1 r2 => ?_) ⟨fun ab => ?_, fun ab => ?_⟩
        · have k1 : r ≠ 76 := fun q => hr ⟨by omega, by omega, by omega, by omega, by omega, by omega⟩
          have k2 : r ≠ 75 := fun q => hr ⟨by omega, by omega, by omega, by omega, by omega, by omega⟩
          have k3 : r ≠ 79 := fun q => hr ⟨by omega, by omega, by omega, by omega, by omega, by omega⟩
          rw [e22, w1_r k1, e19, w1_r k2, e16, w1_r k3]
        · rw [e22, w1_r r3, e19, w1_r r2, e16, w1_r r4]; exact (f.2.1 r r1).1
        · have q : σ22.2.1 r b = σ1.2.1 r b := by
            rw [e22]
            by_cases z : r = 76
            · rw [z, w1_k r2, e19, w1_r (by omega), e16, w1_r (by omega)]
            · rw [w1_r z, e19]
              by_cases z2 : r = 75
              · rw [z2, w1_k r2, e16, w1_r (by omega)]
              · rw [w1_r z2, e16]
                by_cases z3 : r = 79
                · rw [z3, w1_k r2]
                · rw [w1_r z3]
          rw [q, (f.2.1 r r1).1]
        · obtain ⟨d1, d2, d3⟩ := b1 ab
          refine ⟨?_, ?_, ?_⟩
          · rw [e22, w1_r (by omega), e19, w1_r (by omega), e16, w1_at]; exact d1
          · rw [e22, w1_r (by omega), e19, w1_at, u130]; exact d2
          · rw [e22, w1_at, v130]; exact d3
        · rw [e22, w1_r (by omega), e19, w1_r (by omega), e16, w1_at]; exact b0 ab
      refine q_search (d := 0) hC hF a2 (h.A a2) hwf o2 (h.A o2) hwo (by omega) (h.P t10) (h.D htn) en (by omega) (by omega) (fun i hi => ?_) ⟨by omega, by omega⟩ he (fun hf σ1 f1 h18 hrow => ?_) (fun nf σ1 f1 h17 => ?_)
      · have := (wt.2.2.2.2.2 i (by omega)).1
        rw [eo'] at this; exact this
      · rw [eX, eY] at hf hrow
        refine R σ1 1 f1 (Or.inr rfl) (fun _ => ⟨rfl, ?_, ?_⟩) (fun q => absurd (Or.inr hf) q)
        · unfold fsT; rw [if_neg no]; exact hrow 0 (by omega)
        · unfold lsT; rw [if_neg no]; exact hrow (fwN v t - 1) (by omega)
      · rw [eX, eY] at nf
        exact R σ1 0 f1 (Or.inl rfl) (fun q => absurd (q.resolve_left no) nf) (fun _ => rfl)
    · rw [I_eq ⟨by omega, by omega⟩ ⟨by omega, by omega⟩] at ow
      refine ⟨hC.a74_4 (by omega) (by omega), fun σ24 e24 => ?_⟩
      rw [hC.p74_4, I_cl (by omega) (by omega), at5] at e24
      have o24 : Onl [79] τ σ24 := Onl.w e24 (by decide)
      have C24 := o24.C hC
      have n1 := not3 (q := 79) (r := 15 + 3 * t) (by omega)
      have T24 : TapeD σ24 (15 + 3 * t) (v.2.1 t) := (h.D htn).eq (fun j hj => ⟨o24.2.2 _ (by simp only [List.mem_cons, List.not_mem_nil, or_false]; omega), by rw [o24.2.1]⟩)
      refine q_poseAt (z := 0) ((h.P t10).onl o24) T24 (by omega) (by omega) ⟨by omega, by omega⟩ (fun _ _ => ⟨C24.a74_0 (by omega) (by omega), fun σ27 e27 => ?_⟩) (fun q => absurd ⟨by omega, by omega⟩ q)
      rw [C24.p74_0, I_cl (by omega) (by omega), at5] at e27
      have o27 : Onl [75] σ24 σ27 := Onl.w e27 (by decide)
      have C27 := o27.C C24
      have T27 : TapeD σ27 (15 + 3 * t) (v.2.1 t) := T24.eq (fun j hj => ⟨o27.2.2 _ (by simp only [List.mem_cons, List.not_mem_nil, or_false]; omega), by rw [o27.2.1]⟩)
      refine q_lastPose (((h.P t10).onl o24).onl o27) T27 (by omega) (by omega) (fun _ => ⟨C27.a74_1 (by omega) (by omega), fun σ30 e30 => ?_⟩) (fun q => absurd q tz)
      rw [C27.p74_1, I_cl (by omega) (by omega), at5] at e30
      have o30 : Onl [76] σ27 σ30 := Onl.w e30 (by decide)
      have oa : Onl [75, 76, 79] τ σ30 := ((o24.up (by decide)).tr (o27.up (by decide))).tr (o30.up (by decide))
      have ab : abT v e a' t := Or.inl ow
      refine hK σ30 (oa.cs (by decide)) (fun r r1 r2 r3 r4 => oa.2.2 r (by simp only [List.mem_cons, List.not_mem_nil, or_false, not_or]; exact ⟨r2, r3, r4⟩)) (fun r b r1 r2 => ?_) ⟨fun _ => ⟨?_, ?_, ?_⟩, fun q => absurd ab q⟩
      · rw [e30]
        by_cases z : r = 76
        · rw [z, w1_k r2, e27, w1_r (by omega), e24, w1_r (by omega)]
        · rw [w1_r z, e27]
          by_cases z2 : r = 75
          · rw [z2, w1_k r2, e24, w1_r (by omega)]
          · rw [w1_r z2, e24]
            by_cases z3 : r = 79
            · rw [z3, w1_k r2]
            · rw [w1_r z3]
      · rw [e30, w1_r (by omega), e27, w1_r (by omega), e24, w1_at]
      · rw [e30, w1_r (by omega), e27, w1_at]; unfold fsT; rw [if_pos ow]; rfl
      · rw [e30, w1_at]; unfold lsT; rw [if_pos ow]
  · rw [I_lt ⟨by omega, by omega⟩ ⟨by omega, by omega⟩]; omega
end SHP
