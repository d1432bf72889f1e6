/-! share: the class fills its table -/
section SHL
variable {l : Launch} {σ σ' : Sg} {A : Nat → Nat → Int} {tm : Nat → Int} {ab : Nat → Prop} {m a : Nat} {fs ls : Nat → Int}
theorem bitS {s i : Nat} (hs : s < 2147483648) (hi : i < 10) : ((I (s : Int) >>> (I (i : Int) &&& 31)) &&& 1 = 1) ↔ s.testBit i = true := by
  rw [bitI hs hi]
  by_cases z : s.testBit i = true
  · rw [if_pos z]; exact ⟨fun _ => z, fun _ => rfl⟩
  · rw [if_neg z]; exact ⟨fun y => absurd y (by decide), fun y => absurd y z⟩
theorem bit_exm {c : Nat} (hm : m ≤ 5) (hc : c < 2 ^ m) (h0 : c ≠ 0) : ∃ k, k < m ∧ c.testBit k = true := by
  have p : 2 ^ m ≤ 2 ^ 5 := Nat.pow_le_pow_right (by omega) hm
  obtain ⟨k, _, k2⟩ := bit_ex c (by omega) h0
  refine ⟨k, ?_, k2⟩
  by_cases z : k < m
  · exact z
  · rw [Nat.testBit_lt_two_pow (Nat.lt_of_lt_of_le hc (Nat.pow_le_pow_right (by omega) (by omega)))] at k2
    exact absurd k2 (by decide)
theorem dl_lt2 {c k N : Nat} (hc : c < N) : dl c k < N := Nat.lt_of_le_of_lt Nat.and_le_left hc
theorem EV.lo {bt : Nat → Nat → Int} (hm : m ≤ 5) (hb : ∀ x y, 0 ≤ bt x y ∧ bt x y ≤ 15) {c i : Nat} (hc : c < 32) {x : Int} (h : EV bt ab m c i x) (z : ∀ k, k < m → c.testBit k = true → ab k) : x ≤ 75 := by
  obtain ⟨_, r, a1, a2⟩ := h.1 z
  have ln := Pm.len hm (i :: r) c hc a1
  have p := pc5_le c hc
  have := crv_rg hb r i
  have ln : r.length + 1 = pc5 c := ln
  omega
theorem EV.un {bt : Nat → Nat → Int} {c i : Nat} {x y : Int} (h : EV bt ab m c i x) (h' : EV bt ab m c i y) : x = y := by
  by_cases z : ∀ k, k < m → c.testBit k = true → ab k
  · obtain ⟨u, r, a1, a2⟩ := h.1 z
    obtain ⟨u', r', b1, b2⟩ := h'.1 z
    have := u r' b1; have := u' r a1
    omega
  · rw [h.2 z, h'.2 z]
/-- what the class knows of the tapes, for the arm a -/
def ShA (m : Nat) (tm : Nat → Int) (ab : Nat → Prop) (fs ls : Nat → Int) (a : Nat) (σ : Sg) : Prop := σ.2.1 74 7 = I m ∧ (∀ k, k < m → σ.2.1 77 k = I (tm k)) ∧ ∀ k, k < m → (ab k → σ.2.1 79 (5 * a + k) = 1 ∧ σ.2.1 75 (5 * a + k) = I (fs k) ∧ σ.2.1 76 (5 * a + k) = I (ls k)) ∧ (¬ ab k → σ.2.1 79 (5 * a + k) = 0)
theorem ShA.onl {S : List Nat} (h : ShA m tm ab fs ls a σ) (ho : Onl S σ σ') (h74 : σ'.2.1 74 7 = σ.2.1 74 7) (hs : 75 ∉ S ∧ 76 ∉ S ∧ 77 ∉ S ∧ 79 ∉ S) : ShA m tm ab fs ls a σ' := by
  unfold ShA
  rw [h74, ho.2.2 75 hs.1, ho.2.2 76 hs.2.1, ho.2.2 77 hs.2.2.1, ho.2.2 79 hs.2.2.2]
  exact h
theorem at5 {a k : Nat} : ((a : Int) * 5 + (k : Int)).toNat = 5 * a + k := by omega
set_option maxHeartbeats 1000000 in
theorem q_leastEnd {K : Int32 → Sg → Prop} (hC : Cp σ) (ha : a < 2) (hA : ArmAt σ (5 + 5 * a) A) (hw : ArmWf A) (hm : m ≤ 5) (hS : ShA m tm ab fs ls a σ) (hr : ∀ k, k < m → ab k → (0 ≤ fs k ∧ fs k < 4096) ∧ 0 ≤ ls k ∧ ls k < 4096) {c i : Nat} (hc : c < 2 ^ m) (hi : i < m) (hb : c.testBit i = true)
    (hy : ∀ j, j < m → (dl c i).testBit j = true → ∃ y : Int, σ.2.1 81 (5 * dl c i + j) = I y ∧ EV (bwS A fs ls) ab m (dl c i) j y) (hK : ∀ x : Int, EV (bwS A fs ls) ab m c i x → K (I x) σ) : Con l mX6_leastEnd [.inr 74, .inr (5 + 5 * a), .inl (I a), .inl (I c), .inl (I i)] σ (PI K) := by
  have p : 2 ^ m ≤ 2 ^ 5 := Nat.pow_le_pow_right (by omega) hm
  have c32 : c < 32 := by omega
  have hbt := bwS_rg hw fs ls
  have e5 : I (a : Int) * 5 = I ((a : Int) * 5) := I_mul _ 5
  have ln : Int32.ofNat (shp (σ.2.2 74 4)).2 = I 10 := by rw [hC.p74_4]; rfl
  have ln6 : Int32.ofNat (shp (σ.2.2 74 6)).2 = I 160 := by rw [hC.p74_6]; rfl
  have al : Al σ (σ.2.2 74 4) := by rw [hC.p74_4]; exact ⟨by decide, by decide, Nat.le_trans (by decide) hC.1⟩
  have al6 : Al σ (σ.2.2 74 6) := by rw [hC.p74_6]; exact ⟨by decide, by decide, Nat.le_trans (by decide) hC.1⟩
  have s32 := dl32 (c := c) (k := i) c32
  have sz := hS.1
  refine eX6_leastEnd ?_
  rw [e5, ln, show (5 : Int32) = I 5 from rfl, I_add, I_add]
  refine ⟨fun z => ?_, fun _ => ⟨hC.o74, al, fun z => ?_, fun _ => ⟨hC.a74_4 (by omega) (by omega), fun z => ?_, fun z => ?_⟩⟩⟩
  · rw [I_0, I_lt ⟨by omega, by omega⟩ ⟨by omega, by omega⟩] at z; exact absurd z (by omega)
  · rw [I_lt ⟨by omega, by omega⟩ ⟨by omega, by omega⟩] at z; exact absurd z (by omega)
  · rw [hC.d74_4 (by omega) (by omega), at5] at z
    have abi : ab i := by
      by_cases q : ab i
      · exact q
      · exact absurd ((hS.2.2 i hi).2 q) z
    rw [clrI (by omega) (by omega)]
    generalize hR : dl c i = R at *
    refine ⟨fun z0 => ?_, fun z0 => ?_⟩
    · have R0 : R ≠ 0 := fun q => z0 (by rw [q]; rfl)
      have hy' : ∀ j, ∃ y : Int, j < m → R.testBit j = true → σ.2.1 81 (5 * R + j) = I y ∧ EV (bwS A fs ls) ab m R j y := fun j => by
        by_cases q : j < m ∧ R.testBit j = true
        · obtain ⟨y, q2⟩ := hy j q.1 q.2; exact ⟨y, fun _ _ => q2⟩
        · exact ⟨0, fun q1 q2 => absurd ⟨q1, q2⟩ q⟩
      obtain ⟨y, hY⟩ := Classical.axiomOfChoice hy'
      have F := lp (N := m) (P := fun j => ∀ x : Int, 0 ≤ x → x ≤ 1000000 → ((∀ k, k < m → c.testBit k = true → ab k) → (∀ j', j' < j → R.testBit j' = true → x ≤ y j' + bwS A fs ls j' i) ∧ (x = 1000000 ∨ ∃ j', j' < j ∧ R.testBit j' = true ∧ x = y j' + bwS A fs ls j' i)) → (¬ (∀ k, k < m → c.testBit k = true → ab k) → x = 1000000) → GW l mX6_leastEnd 64 [(0, .inr 74), (1, .inr (5 + 5 * a)), (2, .inl (I a)), (3, .inl (I c)), (4, .inl (I i)), (5, .inl (I ((a : Int) * 5))), (6, .inl (I R)), (7, .inl (I x)), (8, .inl (I j))] [] σ 0 0 (PI K)) ?_ ?_ 0 (by omega)
      · exact F 1000000 (by omega) (by omega) (fun _ => ⟨fun j' q => absurd q (by omega), Or.inl rfl⟩) (fun _ => rfl)
      · intro x x0 x1 h1 h2
        refine gX6_leastEnd_64 ⟨hC.o74, fun _ => hK x ?_, fun q => absurd ?_ q⟩
        · refine EV.step (y := y) hm hi hb abi (by rw [hR]; exact R0) (fun j j1 j2 => by rw [hR] at j2 ⊢; exact (hY j j1 j2).2) (fun AL => ?_) h2
          obtain ⟨b1, b2⟩ := h1 AL
          rw [hR]
          refine ⟨fun j j1 j2 => b1 j j1 j2, ?_⟩
          rcases b2 with b2 | ⟨j, j1, j2, j3⟩
          · obtain ⟨k, k1, k2⟩ := bit_exm hm (by rw [← hR]; exact dl_lt2 hc) R0
            have := b1 k k1 k2
            have := (hY k k1 k2).2.lo hm hbt (by omega) (fun k' k1' k2' => AL k' k1' (by rw [← hR] at k2'; exact ((dl_in (by omega) (by omega)).mp k2').1))
            have := hbt k i
            omega
          · exact ⟨j, j1, j2, j3⟩
        · rw [sz]; exact (I_le ⟨by omega, by omega⟩ ⟨by omega, by omega⟩).mpr (Int.le_refl _)
      · intro j hj ih x x0 x1 h1 h2
        refine gX6_leastEnd_64 ⟨hC.o74, fun q => ?_, fun _ => ⟨fun q => ?_, fun _ => ⟨fun q => ?_, fun q => ?_⟩⟩⟩
        · rw [sz, I_le ⟨by omega, by omega⟩ ⟨by omega, by omega⟩] at q; exact absurd q (by omega)
        · rw [L_lit, I_le ⟨by omega, by omega⟩ ⟨by omega, by omega⟩] at q; exact absurd q (by omega)
        · rw [bitS (by omega) (by omega)] at q
          rw [I_1, I_add]
          refine ih x x0 x1 (fun AL => ?_) h2
          obtain ⟨b1, b2⟩ := h1 AL
          refine ⟨fun j' j1 j2 => ?_, ?_⟩
          · by_cases e : j' = j
            · exact absurd (e ▸ j2) q
            · exact b1 j' (by omega) j2
          · rcases b2 with b2 | ⟨j', j1, j2, j3⟩
            · exact Or.inl b2
            · exact Or.inr ⟨j', by omega, j2, j3⟩
        · rw [bitS (by omega) (by omega)] at q
          have hYj := hY j hj q
          have yr := hYj.2.rg hm hbt (by omega)
          rw [I_add]
          refine ⟨hC.a74_1 (by omega) (by omega), by rw [I_add]; exact hC.a74_0 (by omega) (by omega), hA.ob, ?_⟩
          have G : ∀ b : Int, 0 ≤ b → b ≤ 15 → (ab j → b = bwS A fs ls j i) → Con l mX6_endAt [.inr 74, .inl (I R), .inl (I j)] σ (PI (fun x9 σ9 => Con l mJ9_min_7cf53 [.inl (I x), .inl (x9 + I b)] σ9 (PI (fun x10 σ10 => GW l mX6_leastEnd 64 [(0, .inr 74), (1, .inr (5 + 5 * a)), (2, .inl (I a)), (3, .inl (I c)), (4, .inl (I i)), (5, .inl (I ((a : Int) * 5))), (6, .inl (I R)), (7, .inl x10), (8, .inl (I j + 1))] [] σ10 0 0 (PI K))))) := by
            intro b b0 b1 b2
            refine eX6_endAt ?_
            rw [ln6, show (5 : Int32) = I 5 from rfl, I_mul, I_add]
            refine ⟨fun z => ?_, fun _ => ⟨hC.o74, al6, fun z => ?_, fun _ => ⟨hC.a74_6 (by omega) (by omega), ?_⟩⟩⟩
            · rw [I_0, I_lt ⟨by omega, by omega⟩ ⟨by omega, by omega⟩] at z; exact absurd z (by omega)
            · rw [I_le ⟨by omega, by omega⟩ ⟨by omega, by omega⟩] at z; exact absurd z (by omega)
            · rw [hC.d74_6 (by omega) (by omega), at5, hYj.1, I_add]
              refine q_min ⟨by omega, by omega⟩ ⟨by omega, by omega⟩ ?_
              rw [I_1, I_add]
              refine ih _ (by omega) (by omega) (fun AL => ?_) (fun AL => ?_)
              · have abj : ab j := AL j hj (by rw [← hR] at q; exact ((dl_in (by omega) (by omega)).mp q).1)
                have := b2 abj
                obtain ⟨d1, d2⟩ := h1 AL
                refine ⟨fun j' j1 j2 => ?_, ?_⟩
                · by_cases e : j' = j
                  · rw [e]; omega
                  · have := d1 j' (by omega) j2; omega
                · by_cases u : x ≤ y j + b
                  · rw [Int.min_eq_left u]
                    rcases d2 with d2 | ⟨j', j1, j2, j3⟩
                    · exact Or.inl d2
                    · exact Or.inr ⟨j', by omega, j2, j3⟩
                  · exact Or.inr ⟨j, by omega, q, by omega⟩
              · have := h2 AL
                have := hYj.2.2 (fun w => AL (by rw [← hR] at w; exact (all_dl hm hi abi).mp w))
                omega
          by_cases abj : ab j
          · rw [I_add, hC.d74_1 (by omega) (by omega), hC.d74_0 (by omega) (by omega), at5, at5, ((hS.2.2 j hj).1 abj).2.2, ((hS.2.2 i hi).1 abi).2.1]
            exact q_bt hA hw (hr j hj abj).2 (hr i hi abi).1 (G _ (hbt j i).1 (hbt j i).2 (fun _ => rfl))
          · exact q_btT hA hw (fun b b0 b1 => G b b0 b1 (fun w => absurd w abj))
    · have R0 : R = 0 := by
        rw [I_0, I_eq ⟨by omega, by omega⟩ ⟨by omega, by omega⟩] at z0; omega
      have F := lp (N := m) (P := fun j => GW l mX6_leastEnd 64 [(0, .inr 74), (1, .inr (5 + 5 * a)), (2, .inl (I a)), (3, .inl (I c)), (4, .inl (I i)), (5, .inl (I ((a : Int) * 5))), (6, .inl (I R)), (7, .inl 0), (8, .inl (I j))] [] σ 0 0 (PI K)) ?_ ?_ 0 (by omega)
      · exact F
      · refine gX6_leastEnd_64 ⟨hC.o74, fun _ => hK 0 (EV.one hi hb abi (hR.trans R0) hm), fun q => absurd ?_ q⟩
        rw [sz]; exact (I_le ⟨by omega, by omega⟩ ⟨by omega, by omega⟩).mpr (Int.le_refl _)
      · intro j hj ih
        refine gX6_leastEnd_64 ⟨hC.o74, fun q => ?_, fun _ => ⟨fun q => ?_, fun _ => ⟨fun q => ?_, fun q => ?_⟩⟩⟩
        · rw [sz, I_le ⟨by omega, by omega⟩ ⟨by omega, by omega⟩] at q; exact absurd q (by omega)
        · rw [L_lit, I_le ⟨by omega, by omega⟩ ⟨by omega, by omega⟩] at q; exact absurd q (by omega)
        · rw [I_1, I_add]; exact ih
        · rw [bitS (by omega) (by omega), R0, Nat.zero_testBit] at q
          exact absurd q (by decide)
  · rw [hC.d74_4 (by omega) (by omega), at5] at z
    refine hK 1000000 (EV.no hi hb (fun q => ?_))
    rw [((hS.2.2 i hi).1 q).1] at z
    exact absurd z (by decide)
end SHL
