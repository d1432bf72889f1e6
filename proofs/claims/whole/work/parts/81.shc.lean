/-! share: the class's table -/
section SHC
variable {l : Launch} {σ σ' : Sg} {A : Nat → Nat → Int} {bt : Nat → Nat → Int} {tm : Nat → Int} {ab : Nat → Prop} {m : Nat}
theorem and15t (x : Int32) : ∃ z : Int, x &&& 15 = I z ∧ 0 ≤ z ∧ z ≤ 15 := by
  have e : (x &&& 15).toBitVec.toNat = x.toBitVec.toNat &&& 15 := by
    show (x.toBitVec &&& (15 : Int32).toBitVec).toNat = _
    rw [BitVec.toNat_and]; rfl
  have b : x.toBitVec.toNat &&& 15 ≤ 15 := Nat.and_le_right
  exact ⟨((x.toBitVec.toNat &&& 15 : Nat) : Int), by rw [nI_bvof e, I_nat], by omega, by omega⟩
/-- the hop of any two words -/
theorem q_hopT {K : Int32 → Sg → Prop} {r : Nat} {p q : Int32} (hA : ArmAt σ r A) (hw : ArmWf A) (h : ∀ y : Int, 0 ≤ y → y ≤ 15 → K (I y) σ) : Con l mX0_hopBetween [.inr r, .inl p, .inl q] σ (PI K) := by
  have hj3 := hw.1
  have F : ∀ n j : Nat, j + n = (A 0 2).toNat → ∀ y : Int, 0 ≤ y → y ≤ 15 → GW l mX0_hopBetween 5 [(0, .inr r), (1, .inl p), (2, .inl q), (3, .inl (I y)), (4, .inl (I j))] [] σ 0 0 (PI K) := by
    intro n
    induction n with
    | zero =>
      intro j hj y y0 y1
      have hj : j = (A 0 2).toNat := by omega
      subst hj
      refine gX0_hopBetween_5 ⟨hA.ob, fun c => h y y0 y1, fun c => absurd ?_ c⟩
      rw [hA.jn]
      exact (I_le ⟨by omega, by omega⟩ ⟨by omega, by omega⟩).mpr (by omega)
    | succ n ih =>
      intro j hj y y0 y1
      have a3 := hw.2.2.1 j (by omega) (by omega)
      have a4 := hw.2.1 j (by omega)
      refine gX0_hopBetween_5 ⟨hA.ob, fun c => ?_, fun c => ⟨fun c2 => ?_, fun c2 => ?_⟩⟩
      · rw [hA.jn, I_le ⟨by omega, by omega⟩ ⟨by omega, by omega⟩] at c; exact absurd c (by omega)
      · rw [L_lit, I_le ⟨by omega, by omega⟩ ⟨by omega, by omega⟩] at c2; exact absurd c2 (by omega)
      · refine eX11_placeOf (eX11_placeOf ?_)
        obtain ⟨z1, e1, b1, b1'⟩ := and15t (p >>> ((4 * I j) &&& 31))
        obtain ⟨z2, e2, b2, b2'⟩ := and15t (q >>> ((4 * I j) &&& 31))
        rw [e1, e2, I_sub]
        refine q_abs (by omega) (by omega) ⟨hA.ai (k := 3) (by omega) (by omega), fun c3 => ?_, fun c3 => ?_⟩
        · rw [hA.r4 (by omega), I_0, I_le ⟨by omega, by omega⟩ ⟨by omega, by omega⟩] at c3; exact absurd c3 (by omega)
        · rw [hA.r4 (by omega), I_0, I_1, I_add, I_sub]
          refine ⟨?_, ?_⟩
          · rw [I_eq ⟨by omega, by omega⟩ ⟨by omega, by omega⟩]; omega
          · generalize hf : (if 0 ≤ z1 - z2 then z1 - z2 else -(z1 - z2)) = f
            have f0 : 0 ≤ f ∧ f ≤ 15 := by rw [← hf]; split <;> omega
            have hd : (f + A 4 j - 1).tdiv (A 4 j) = (f + A 4 j - 1) / (A 4 j) := Int.tdiv_eq_ediv_of_nonneg (by omega)
            have d0 : 0 ≤ (f + A 4 j - 1) / (A 4 j) := Int.ediv_nonneg (by omega) (by omega)
            have d1 : (f + A 4 j - 1) / (A 4 j) ≤ 15 := by
              have : (f + A 4 j - 1) / (A 4 j) < 16 := by
                refine Int.ediv_lt_of_lt_mul (by omega) ?_
                omega
              omega
            rw [I_div ⟨by omega, by omega⟩ ⟨by omega, by omega⟩ (by rw [hd]; exact ⟨by omega, by omega⟩), hd]
            refine q_max ⟨by omega, by omega⟩ ⟨by omega, by omega⟩ ?_
            rw [I_add]
            exact ih (j + 1) (by omega) _ (by omega) (by omega)
  exact eX0_hopBetween (F (A 0 2).toNat 0 (by omega) 0 (by omega) (by omega))
def bwS (A : Nat → Nat → Int) (fs ls : Nat → Int) (j k : Nat) : Int := max (hop A (ls j) (fs k) - 1) 0
theorem bwS_rg (hw : ArmWf A) (fs ls : Nat → Int) (j k : Nat) : 0 ≤ bwS A fs ls j k ∧ bwS A fs ls j k ≤ 15 := by
  have := hps_rg hw (ls j) (fs k) (A 0 2).toNat (by have := hw.1; omega)
  unfold bwS hop
  omega
theorem q_btT {K : Int32 → Sg → Prop} {r : Nat} {p q : Int32} (hA : ArmAt σ r A) (hw : ArmWf A) (h : ∀ y : Int, 0 ≤ y → y ≤ 15 → K (I y) σ) : Con l mX0_ticksBetween [.inr r, .inl p, .inl q] σ (PI K) := by
  refine eX0_ticksBetween ⟨hA.ob, q_hopT hA hw (fun y y0 y1 => ?_)⟩
  rw [I_1, I_sub, I_0]
  exact q_max ⟨by omega, by omega⟩ ⟨by omega, by omega⟩ (h _ (by omega) (by omega))
theorem q_bt {K : Int32 → Sg → Prop} {r : Nat} {fs ls : Nat → Int} {j k : Nat} (hA : ArmAt σ r A) (hw : ArmWf A) (hj : 0 ≤ ls j ∧ ls j < 4096) (hk : 0 ≤ fs k ∧ fs k < 4096) (h : K (I (bwS A fs ls j k)) σ) : Con l mX0_ticksBetween [.inr r, .inl (I (ls j)), .inl (I (fs k))] σ (PI K) := by
  refine eX0_ticksBetween ⟨hA.ob, q_hop hA hw hj.1 (by omega) hk.1 (by omega) ?_⟩
  have := hps_rg hw (ls j) (fs k) (A 0 2).toNat (by have := hw.1; omega)
  rw [I_1, I_sub, I_0]
  unfold hop
  refine q_max ⟨by omega, by omega⟩ ⟨by omega, by omega⟩ ?_
  exact h
/-! the steps of the table -/
theorem EV.no {c i : Nat} (hi : i < m) (hb : c.testBit i = true) (h : ¬ ab i) : EV bt ab m c i 1000000 := ⟨fun z => absurd (z i hi hb) h, fun _ => rfl⟩
theorem EV.one {c i : Nat} (hi : i < m) (hb : c.testBit i = true) (h : ab i) (h0 : dl c i = 0) (hm : m ≤ 5) : EV bt ab m c i 0 := by
  refine ⟨fun _ => ⟨fun r hr => ?_, [], ⟨hi, hb, h0⟩, rfl⟩, fun z => absurd (fun k hk hc => ?_) z⟩
  · have hr := hr.2.2
    rw [h0] at hr
    cases r with
    | nil => exact Int.le_refl 0
    | cons k l => have := hr.2.1; rw [Nat.zero_testBit] at this; exact absurd this (by decide)
  · by_cases e : k = i
    · rw [e]; exact h
    · have := (dl_in (c := c) (show i < 5 by omega) (show k < 5 by omega)).mpr ⟨hc, e⟩
      rw [h0, Nat.zero_testBit] at this; exact absurd this (by decide)
theorem all_dl {c i : Nat} (hm : m ≤ 5) (hi : i < m) (h : ab i) : (∀ k, k < m → (dl c i).testBit k = true → ab k) ↔ ∀ k, k < m → c.testBit k = true → ab k := by
  constructor
  · intro z k hk hc
    by_cases e : k = i
    · rw [e]; exact h
    · exact z k hk ((dl_in (by omega) (by omega)).mpr ⟨hc, e⟩)
  · intro z k hk hc
    exact z k hk ((dl_in (by omega) (by omega)).mp hc).1
theorem EV.step {c i : Nat} {x : Int} {y : Nat → Int} (hm : m ≤ 5) (hi : i < m) (hb : c.testBit i = true) (h : ab i) (h0 : dl c i ≠ 0) (hy : ∀ j, j < m → (dl c i).testBit j = true → EV bt ab m (dl c i) j (y j))
    (h1 : (∀ k, k < m → c.testBit k = true → ab k) → (∀ j, j < m → (dl c i).testBit j = true → x ≤ y j + bt j i) ∧ ∃ j, j < m ∧ (dl c i).testBit j = true ∧ x = y j + bt j i)
    (h2 : ¬ (∀ k, k < m → c.testBit k = true → ab k) → x = 1000000) : EV bt ab m c i x := by
  refine ⟨fun z => ?_, h2⟩
  have z' := (all_dl hm hi h).mpr z
  obtain ⟨a1, j, b1, b2, b3⟩ := h1 z
  refine ⟨fun r hr => ?_, ?_⟩
  · have hr := hr.2.2
    cases r with
    | nil => exact absurd hr h0
    | cons k l =>
      have := ((hy k hr.1 hr.2.1).1 z').1 l hr
      have := a1 k hr.1 hr.2.1
      show x ≤ bt k i + crv bt k l
      omega
  · obtain ⟨r, c1, c2⟩ := ((hy j b1 b2).1 z').2
    exact ⟨j :: r, ⟨hi, hb, c1⟩, by show x = bt j i + crv bt j r; omega⟩
theorem TV.zero : TV bt tm ab m 0 0 := ⟨fun _ => GV.zero, fun z => absurd (fun k _ hc => by rw [Nat.zero_testBit] at hc; exact absurd hc (by decide)) z⟩
theorem TV.mk {c : Nat} {x : Int} {y : Nat → Int} (hm : m ≤ 5) (hc : c < 32) (h0 : c ≠ 0) (hb : ∀ x y, 0 ≤ bt x y ∧ bt x y ≤ 15) (ht : ∀ k, 0 ≤ tm k ∧ tm k ≤ 40) (hcm : ∃ k, k < m ∧ c.testBit k = true) (hy : ∀ i, i < m → c.testBit i = true → EV bt ab m c i (y i)) (h1 : ∀ i, i < m → c.testBit i = true → x ≤ y i) (h2 : x = 1000000 ∨ ∃ i, i < m ∧ c.testBit i = true ∧ x = y i) : TV bt tm ab m c (min (x + tmS tm c m) 1000000) := by
  have t := tmS_rg ht (c := c) m
  refine ⟨fun z => ?_, fun z => ?_⟩
  · have yb : ∀ i, i < m → c.testBit i = true → y i ≤ 75 := fun i hi hb' => by
      obtain ⟨_, r, a1, a2⟩ := (hy i hi hb').1 z
      have ln := Pm.len hm (i :: r) c hc a1
      have p := pc5_le c hc
      have := crv_rg hb r i
      have ln : r.length + 1 = pc5 c := ln
      omega
    obtain ⟨k, k1, k2⟩ := hcm
    have k3 := h1 k k1 k2
    have k4 := yb k k1 k2
    rw [show min (x + tmS tm c m) 1000000 = x + tmS tm c m by omega]
    refine ⟨fun L hL => ?_, ?_⟩
    · have hL' := Pm.rev hm L c hc hL
      have e := crv_rev (bt := bt) L.reverse
      rw [List.reverse_reverse] at e
      show x + tmS tm c m ≤ c0 bt L + tmS tm c m
      rw [← e]
      cases hq : L.reverse with
      | nil => rw [hq] at hL'; exact absurd hL' h0
      | cons i r =>
        rw [hq] at hL'
        have := ((hy i hL'.1 hL'.2.1).1 z).1 r hL'
        have := h1 i hL'.1 hL'.2.1
        show x + tmS tm c m ≤ crv bt i r + tmS tm c m
        omega
    · rcases h2 with h2 | ⟨i, i1, i2, i3⟩
      · omega
      · obtain ⟨_, r, a1, a2⟩ := (hy i i1 i2).1 z
        refine ⟨(i :: r).reverse, Pm.rev hm _ c hc a1, ?_⟩
        show x + tmS tm c m = c0 bt (i :: r).reverse + tmS tm c m
        rw [← crv_rev]
        show x + tmS tm c m = crv bt i r + tmS tm c m
        omega
  · have : x = 1000000 := by
      rcases h2 with h2 | ⟨i, i1, i2, i3⟩
      · exact h2
      · rw [i3]; exact (hy i i1 i2).2 z
    omega
theorem TV.un {c : Nat} {x y : Int} (h : TV bt tm ab m c x) (h' : TV bt tm ab m c y) : x = y := by
  by_cases z : ∀ k, k < m → c.testBit k = true → ab k
  · exact GV.un (h.1 z) (h'.1 z)
  · rw [h.2 z, h'.2 z]
end SHC
