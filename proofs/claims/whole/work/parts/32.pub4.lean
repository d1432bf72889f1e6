/-! public methods, 4: joint and wear of the reference -/
section P5
variable {l : Launch} {σ σ' : Sg} {v v' : Vt} {c : Nat}
theorem ix_i {n j : Nat} (h : n < 1000) (hj : j < 1000) : (I ((3 * n + j : Nat) : Int)).toNatClampNeg = 3 * n + j := I_cln (by omega)
/-- a write to the rows of joints (k = 0 .. 3: lengths, lows, highs, speeds) -/
theorem MArms.upJ {V V' : Nat → Nat → Nat → Int} {n j k : Nat} {z : Int} (h : MArms σ V) (hn : n < 2) (hj : j < 3) (hk : k < 4) (e : σ' = w1 σ (88 + k) (3 * n + j) (I z)) (h1 : V' n = upA (V n) (k + 1) j z) (h2 : ∀ b, b ≠ n → V' b = V b) : MArms σ' V' := by
  subst e
  have rd : ∀ (q : Nat), q < 4 → ∀ a, a < 2 → ∀ i, i < 3 → σ.2.1 (88 + q) (3 * a + i) = I (V a (q + 1) i) := by
    intro q hq a ha i hi
    have h0 := (h.2 a ha).2.1 i hi
    have h3 : q = 0 ∨ q = 1 ∨ q = 2 ∨ q = 3 := by omega
    rcases h3 with rfl | rfl | rfl | rfl
    · exact h0.1
    · exact h0.2.1
    · exact h0.2.2.1
    · exact h0.2.2.2
  have wr : ∀ (q : Nat), q < 4 → ∀ a, a < 2 → ∀ i, i < 3 → (w1 σ (88 + k) (3 * n + j) (I z)).2.1 (88 + q) (3 * a + i) = I (V' a (q + 1) i) := by
    intro q hq a ha i hi
    by_cases e1 : q = k
    · subst e1
      by_cases e2 : 3 * a + i = 3 * n + j
      · have : a = n ∧ i = j := by omega
        rw [e2, w1_at, this.1, this.2, h1, upA_at]
      · rw [w1_k e2, rd q hq a ha i hi]
        by_cases e3 : a = n
        · rw [e3, h1, upA_off (by omega)]
        · rw [h2 a e3]
    · rw [w1_r (by omega), rd q hq a ha i hi]
      by_cases e3 : a = n
      · rw [e3, h1, upA_off (by omega)]
      · rw [h2 a e3]
  have sm : ∀ a i b, (i = 0 ∨ i = 5) → V' a i b = V a i b := by
    intro a i b hi
    by_cases e3 : a = n
    · rw [e3, h1, upA_off (by omega)]
    · rw [h2 a e3]
  refine ⟨fun q hq => by rw [w1_r (by omega)]; exact h.1 q hq, fun a ha => ⟨?_, fun i hi => ⟨wr 0 (by omega) a ha i hi, wr 1 (by omega) a ha i hi, wr 2 (by omega) a ha i hi, wr 3 (by omega) a ha i hi⟩, ?_⟩⟩
  · rw [w1_r (by omega), w1_r (by omega), w1_r (by omega), sm a 0 0 (Or.inl rfl), sm a 0 1 (Or.inl rfl), sm a 0 2 (Or.inl rfl)]; exact (h.2 a ha).1
  · rw [w1_r (by omega), w1_r (by omega), w1_r (by omega), w1_r (by omega), sm a 5 0 (Or.inr rfl), sm a 5 1 (Or.inr rfl), sm a 5 2 (Or.inr rfl), sm a 5 3 (Or.inr rfl)]; exact (h.2 a ha).2.2
/-- a write to the rows of wear -/
theorem MArms.upW {V V' : Nat → Nat → Nat → Int} {n i q : Nat} {z : Int} (h : MArms σ V) (hq : (i = 0 ∧ q = 93) ∨ (i = 1 ∧ q = 92) ∨ (i = 2 ∧ q = 94) ∨ (i = 3 ∧ q = 95)) (e : σ' = w1 σ q n (I z)) (h1 : V' n = upA (V n) 5 i z) (h2 : ∀ b, b ≠ n → V' b = V b) : MArms σ' V' := by
  subst e
  have sm : ∀ a i b, i ≠ 5 → V' a i b = V a i b := by
    intro a i b hi
    by_cases e3 : a = n
    · rw [e3, h1, upA_off (by omega)]
    · rw [h2 a e3]
  have wr : ∀ (p s : Nat), ((s = 0 ∧ p = 93) ∨ (s = 1 ∧ p = 92) ∨ (s = 2 ∧ p = 94) ∨ (s = 3 ∧ p = 95)) → ∀ a, σ.2.1 p a = I (V a 5 s) → (w1 σ q n (I z)).2.1 p a = I (V' a 5 s) := by
    intro p s hp a h0
    by_cases e1 : p = q
    · subst e1
      have : s = i := by omega
      subst this
      by_cases e2 : a = n
      · subst e2; rw [w1_at, h1, upA_at]
      · rw [w1_k e2, h0, h2 a e2]
    · rw [w1_r e1, h0]
      by_cases e2 : a = n
      · subst e2; rw [h1, upA_off (by omega)]
      · rw [h2 a e2]
  refine ⟨fun q hq => by rw [w1_r (by omega)]; exact h.1 q hq, fun a ha => ⟨?_, fun b hb => ?_, ?_⟩⟩
  · rw [w1_r (by omega), w1_r (by omega), w1_r (by omega), sm a 0 0 (by omega), sm a 0 1 (by omega), sm a 0 2 (by omega)]; exact (h.2 a ha).1
  · rw [w1_r (by omega), w1_r (by omega), w1_r (by omega), w1_r (by omega), sm a 1 b (by omega), sm a 2 b (by omega), sm a 3 b (by omega), sm a 4 b (by omega)]; exact (h.2 a ha).2.1 b hb
  · have h0 := (h.2 a ha).2.2
    exact ⟨wr 93 0 (by omega) a h0.1, wr 92 1 (by omega) a h0.2.1, wr 94 2 (by omega) a h0.2.2.1, wr 95 3 (by omega) a h0.2.2.2⟩
theorem M_joint {a z lo hi sp : Int} (h : MR σ v) (hw : WF c v) (ha : Rg a) (hz : Rg z) (hl : Rg lo) (hh : Rg hi) (hs : Rg sp) : Con l mX12_joint [.inr 82, .inl (I a), .inl (I z), .inl (I lo), .inl (I hi), .inl (I sp)] σ (PI fun q σ' => q = I (aJoint v a z lo hi sp) ∧ MR σ' (nJoint v a z lo hi sp) ∧ MF σ σ') := by
  have hw0 := hw.1
  refine eX12_joint ⟨h.1.ob, fun σ2 e2 => ?_⟩
  obtain ⟨h, f⟩ := h.w e2 (by decide)
  have no : ∀ {q : Int32}, q = -1 → ¬ okJ v a z lo hi sp → q = I (aJoint v a z lo hi sp) ∧ MR σ2 (nJoint v a z lo hi sp) ∧ MF σ σ2 := by
    intro q e hq
    unfold nJoint aJoint
    rw [vif_f hq, cif_f hq]
    exact ⟨e, h, f⟩
  refine h.isArm hw ha (fun n e hn h2 => ⟨fun q => absurd q (by decide), fun _ => ?_⟩) (fun q => ⟨fun _ => no rfl (fun k => q k.1), fun q => absurd rfl q⟩)
  subst e
  have hwf := (hw.2.2.1 n h2).1
  have hw1 := hwf.1
  rw [h.2.1.2.jn h.1 h2]
  refine ⟨h.1.a7 (by omega) (by omega), fun q => ?_, fun q => ?_⟩
  · rw [L_lit, I_eq ⟨by omega, by omega⟩ ⟨by omega, by omega⟩] at q
    exact no rfl (fun k => by have := k.2.1; rw [I_tn] at this; omega)
  rw [L_lit, I_eq ⟨by omega, by omega⟩ ⟨by omega, by omega⟩] at q
  refine q_in (b := 1) (c := 6) hz ⟨by omega, by omega⟩ ⟨by omega, by omega⟩ (fun z1 z2 => ⟨fun q => absurd q (by decide), fun _ => ?_⟩) (fun q => ⟨fun _ => no rfl (fun k => q k.2.2.2.1), fun q => absurd rfl q⟩)
  refine q_in (b := 0) (c := 15) hl ⟨by omega, by omega⟩ ⟨by omega, by omega⟩ (fun l1 l2 => ⟨fun q => absurd q (by decide), fun _ => ?_⟩) (fun q => ⟨fun _ => no rfl (fun k => q k.2.2.2.2.1), fun q => absurd rfl q⟩)
  refine q_in (c := 15) hh hl ⟨by omega, by omega⟩ (fun g1 g2 => ⟨fun q => absurd q (by decide), fun _ => ?_⟩) (fun q => ⟨fun _ => no rfl (fun k => q k.2.2.2.2.2.1), fun q => absurd rfl q⟩)
  refine q_in (b := 1) (c := 3) hs ⟨by omega, by omega⟩ ⟨by omega, by omega⟩ (fun s1 s2 => ⟨fun _ => ?_, fun q => absurd q (by decide)⟩) (fun q => ⟨fun q => absurd rfl q, fun _ => no rfl (fun k => q k.2.2.2.2.2.2)⟩)
  have F : ∀ m j : Nat, (j : Int) + m = v.2.2.1 1 → (¬ ∃ t : Nat, t < j ∧ v.2.1 t 0 0 = n) → GW l mX12_joint 69 [(0, .inr 82), (1, .inl (I n)), (2, .inl (I z)), (3, .inl (I lo)), (4, .inl (I hi)), (5, .inl (I sp)), (6, .inl (I j))] [] σ2 0 0 (PI fun q σ' => q = I (aJoint v n z lo hi sp) ∧ MR σ' (nJoint v n z lo hi sp) ∧ MF σ σ') := by
    intro m
    induction m with
    | zero =>
      intro j hj hno
      obtain ⟨i, hi3⟩ : ∃ i : Nat, v.1 n 0 2 = i := ⟨(v.1 n 0 2).toNat, by omega⟩
      refine gX12_joint_69 ⟨h.1.ob, fun _ => ⟨h.1.a7 (by omega) (by omega), ?_⟩, fun q => absurd ?_ q⟩
      · rw [h.2.1.2.jn h.1 h2, hi3, ix3]
        refine ⟨h.1.a8 (by omega) (by omega), fun σ5 e5 => ?_⟩
        rw [h.1.k8, ix_i (by omega) (by omega)] at e5
        have M5 : Mp σ5 := ⟨by rw [e5]; exact h.1.1, by rw [e5]; exact h.1.2⟩
        refine ⟨M5.a9 (by omega) (by omega), fun σ7 e7 => ?_⟩
        rw [M5.k9, ix_i (by omega) (by omega)] at e7
        have M7 : Mp σ7 := ⟨by rw [e7]; exact M5.1, by rw [e7]; exact M5.2⟩
        refine ⟨M7.a10 (by omega) (by omega), fun σ9 e9 => ?_⟩
        rw [M7.k10, ix_i (by omega) (by omega)] at e9
        have M9 : Mp σ9 := ⟨by rw [e9]; exact M7.1, by rw [e9]; exact M7.2⟩
        refine ⟨M9.a11 (by omega) (by omega), fun σ11 e11 => ?_⟩
        rw [M9.k11, ix_i (by omega) (by omega)] at e11
        have M11 : Mp σ11 := ⟨by rw [e11]; exact M9.1, by rw [e11]; exact M9.2⟩
        refine ⟨M11.a7 (by omega) (by omega), fun σ13 e13 => ?_⟩
        rw [M11.k7, I_cln (by omega)] at e13
        have r11 : σ11.2.1 87 n = I i := by
          rw [e11, w1_r (by omega), e9, w1_r (by omega), e7, w1_r (by omega), e5, w1_r (by omega), (h.2.1.2.2 n h2).1.2.2, hi3]
        rw [r11, I_1, I_add] at e13
        have M13 : Mp σ13 := ⟨by rw [e13]; exact M11.1, by rw [e13]; exact M11.2⟩
        refine ⟨M13.a7 (by omega) (by omega), ?_⟩
        have ok : okJ v n z lo hi sp := ⟨⟨by omega, hn⟩, by rw [I_tn]; omega, fun ⟨t, ht, e⟩ => hno ⟨t, by omega, e⟩, ⟨z1, z2⟩, ⟨l1, l2⟩, ⟨g1, g2⟩, s1, s2⟩
        have B5 : MArms σ5 (fun b => if b = n then upA (v.1 n) 1 i z else v.1 b) := h.2.1.2.upJ (k := 0) h2 (by omega) (by omega) e5 (by simp) (fun b hb => by simp [hb])
        have B7 : MArms σ7 (fun b => if b = n then upA (upA (v.1 n) 1 i z) 2 i lo else v.1 b) := B5.upJ (k := 1) h2 (by omega) (by omega) e7 (by simp) (fun b hb => by simp [hb])
        have B9 : MArms σ9 (fun b => if b = n then upA (upA (upA (v.1 n) 1 i z) 2 i lo) 3 i hi else v.1 b) := B7.upJ (k := 2) h2 (by omega) (by omega) e9 (by simp) (fun b hb => by simp [hb])
        have B11 : MArms σ11 (fun b => if b = n then upA (upA (upA (upA (v.1 n) 1 i z) 2 i lo) 3 i hi) 4 i sp else v.1 b) := B9.upJ (k := 3) h2 (by omega) (by omega) e11 (by simp) (fun b hb => by simp [hb])
        have B13 : MArms σ13 (dJ v n z lo hi sp).1 := B11.up h2 (Or.inr (Or.inr ⟨rfl, rfl⟩)) e13 (by rw [dJ_a]; unfold jA; rw [hi3, I_tn]; simp) (fun b hb => by rw [dJ_o hb]; simp [hb])
        have key := h.armsOnly (σ' := σ13) (v' := dJ v n z lo hi sp) (by rw [e13, e11, e9, e7, e5]; rfl) (by rw [e13, e11, e9, e7, e5]; rfl) (fun r p q => by rw [e13, w1_r (by omega), e11, w1_r (by omega), e9, w1_r (by omega), e7, w1_r (by omega), e5, w1_r (by omega)]) (fun k hk => by rw [e13, w1_r (by omega), e11, w1_r (by omega), e9, w1_r (by omega), e7, w1_r (by omega), e5, w1_r (by omega)]) ⟨by rw [e13, w1_r (by omega), e11, w1_r (by omega), e9, w1_r (by omega), e7, w1_r (by omega), e5, w1_r (by omega)]; exact h.2.1.1, B13⟩ rfl (fun _ _ => rfl) rfl
        unfold nJoint aJoint
        rw [vif_t ok, cif_t ok, I_tn]
        refine ⟨?_, key.1, f.tr key.2⟩
        rw [M13.d7 (by omega) (by omega), I_tn, e13, w1_at, I_1, I_sub, hi3]
        congr 1; omega
      · rw [h.2.2.1.1]; exact (I_le ⟨by omega, by omega⟩ ⟨by omega, by omega⟩).mpr (by omega)
    | succ m ih =>
      intro j hj hno
      have hwt := hw.2.2.2.1 j (by omega)
      refine gX12_joint_69 ⟨h.1.ob, fun q => ?_, fun q => ⟨h.1.a17 (by omega) (by omega), ?_, ?_⟩⟩
      · rw [h.2.2.1.1, I_le ⟨by omega, by omega⟩ ⟨by omega, by omega⟩] at q; omega
      · intro q
        rw [h.ow (by omega) (by omega), I_eq ⟨by omega, by omega⟩ ⟨by omega, by omega⟩] at q
        rw [I_1, I_add]
        exact ih (j + 1) (by omega) (fun ⟨t, ht, e⟩ => by
          rcases Nat.lt_or_ge t j with z | z
          · exact hno ⟨t, z, e⟩
          · exact q (by rw [show j = t by omega]; exact e))
      · intro q
        rw [h.ow (by omega) (by omega), I_eq ⟨by omega, by omega⟩ ⟨by omega, by omega⟩] at q
        exact no rfl (fun k => k.2.2.1 ⟨j, by omega, q⟩)
  exact F (v.2.2.1 1).toNat 0 (by omega) (fun ⟨t, ht, _⟩ => absurd ht (by omega))
theorem M_wear {a j k s t : Int} (h : MR σ v) (hw : WF c v) (ha : Rg a) (hj : Rg j) (hk : Rg k) (hs : Rg s) (ht : Rg t) : Con l mX12_wear [.inr 82, .inl (I a), .inl (I j), .inl (I k), .inl (I s), .inl (I t)] σ (PI fun q σ' => q = I (aWear v a j k s t) ∧ MR σ' (nWear v a j k s t) ∧ MF σ σ') := by
  have hw0 := hw.1
  have r1 := hj.1; have r2 := hj.2
  refine eX12_wear ⟨h.1.ob, fun σ2 e2 => ?_⟩
  obtain ⟨h, f⟩ := h.w e2 (by decide)
  have no : ∀ {q : Int32}, q = 0 → ¬ okW v a j k s t → q = I (aWear v a j k s t) ∧ MR σ2 (nWear v a j k s t) ∧ MF σ σ2 := by
    intro q e hq
    unfold nWear aWear
    rw [vif_f hq, cif_f hq]
    exact ⟨e, h, f⟩
  refine h.isArm hw ha (fun n e hn h2 => ⟨fun q => absurd q (by decide), fun _ => ?_⟩) (fun q => ⟨fun _ => no rfl (fun k => q k.1), fun q => absurd rfl q⟩)
  subst e
  have hwf := (hw.2.2.1 n h2).1
  have hw1 := hwf.1
  refine ⟨fun q => ?_, fun q => ⟨h.1.a7 (by omega) (by omega), fun q2 => ?_, fun q2 => ?_⟩⟩
  · rw [I_0, I_lt hj ⟨by omega, by omega⟩] at q
    exact no rfl (fun k => by have := k.2.1; omega)
  · rw [h.2.1.2.jn h.1 h2, I_le ⟨by omega, by omega⟩ hj] at q2
    exact no rfl (fun k => by have := k.2.1; rw [I_tn] at this; omega)
  rw [I_0, I_lt hj ⟨by omega, by omega⟩] at q
  rw [h.2.1.2.jn h.1 h2, I_le ⟨by omega, by omega⟩ hj] at q2
  refine q_in (b := 0) (c := 1) hk ⟨by omega, by omega⟩ ⟨by omega, by omega⟩ (fun z1 z2 => ⟨fun q => absurd q (by decide), fun _ => ?_⟩) (fun q => ⟨fun _ => no rfl (fun k => q k.2.2.1), fun q => absurd rfl q⟩)
  refine q_in (b := 0) (c := 3) hs ⟨by omega, by omega⟩ ⟨by omega, by omega⟩ (fun l1 l2 => ⟨fun q => absurd q (by decide), fun _ => ?_⟩) (fun q => ⟨fun _ => no rfl (fun k => q k.2.2.2.1), fun q => absurd rfl q⟩)
  refine q_in (b := 0) (c := 39) ht ⟨by omega, by omega⟩ ⟨by omega, by omega⟩ (fun g1 g2 => ⟨fun _ => ⟨h.1.a12 (by omega) (by omega), fun σ15 e15 => ?_⟩, fun q => absurd q (by decide)⟩) (fun q => ⟨fun q => absurd rfl q, fun _ => no rfl (fun k => q k.2.2.2.2)⟩)
  rw [h.1.k12, I_cln (by omega)] at e15
  have M15 : Mp σ15 := ⟨by rw [e15]; exact h.1.1, by rw [e15]; exact h.1.2⟩
  refine ⟨M15.a13 (by omega) (by omega), fun σ17 e17 => ?_⟩
  rw [M15.k13, I_cln (by omega)] at e17
  have M17 : Mp σ17 := ⟨by rw [e17]; exact M15.1, by rw [e17]; exact M15.2⟩
  refine ⟨M17.a14 (by omega) (by omega), fun σ19 e19 => ?_⟩
  rw [M17.k14, I_cln (by omega)] at e19
  have M19 : Mp σ19 := ⟨by rw [e19]; exact M17.1, by rw [e19]; exact M17.2⟩
  refine ⟨M19.a15 (by omega) (by omega), fun σ21 e21 => ?_⟩
  rw [M19.k15, I_cln (by omega)] at e21
  have ok : okW v n j k s t := ⟨⟨by omega, hn⟩, ⟨by omega, by rw [I_tn]; omega⟩, ⟨z1, z2⟩, ⟨l1, l2⟩, g1, g2⟩
  have B1 : MArms σ15 (fun b => if b = n then upA (v.1 n) 5 1 k else v.1 b) := h.2.1.2.upW (i := 1) (by omega) e15 (by simp) (fun b hb => by simp [hb])
  have B2 : MArms σ17 (fun b => if b = n then upA (upA (v.1 n) 5 1 k) 5 0 j else v.1 b) := B1.upW (i := 0) (by omega) e17 (by simp) (fun b hb => by simp [hb])
  have B3 : MArms σ19 (fun b => if b = n then upA (upA (upA (v.1 n) 5 1 k) 5 0 j) 5 2 s else v.1 b) := B2.upW (i := 2) (by omega) e19 (by simp) (fun b hb => by simp [hb])
  have sw : upA (upA (v.1 n) 5 1 k) 5 0 j = upA (upA (v.1 n) 5 0 j) 5 1 k := by
    funext p q
    by_cases c1 : p = 5 ∧ q = 0
    · rw [c1.1, c1.2, upA_at, upA_off (by omega), upA_at]
    · by_cases c2 : p = 5 ∧ q = 1
      · rw [c2.1, c2.2, upA_off (by omega), upA_at, upA_at]
      · rw [upA_off c1, upA_off c2, upA_off c2, upA_off c1]
  have B4 : MArms σ21 (dW v n j k s t).1 := B3.upW (i := 3) (by omega) e21 (by rw [dW_a]; unfold wA; simp [sw]) (fun b hb => by rw [dW_o hb]; simp [hb])
  have key := h.armsOnly (σ' := σ21) (v' := dW v n j k s t) (by rw [e21, e19, e17, e15]; rfl) (by rw [e21, e19, e17, e15]; rfl) (fun r p q => by rw [e21, w1_r (by omega), e19, w1_r (by omega), e17, w1_r (by omega), e15, w1_r (by omega)]) (fun k hk => by rw [e21, w1_r (by omega), e19, w1_r (by omega), e17, w1_r (by omega), e15, w1_r (by omega)]) ⟨by rw [e21, w1_r (by omega), e19, w1_r (by omega), e17, w1_r (by omega), e15, w1_r (by omega)]; exact h.2.1.1, B4⟩ rfl (fun _ _ => rfl) rfl
  unfold nWear aWear
  rw [vif_t ok, cif_t ok, I_tn]
  exact ⟨rfl, key.1, f.tr key.2⟩
end P5
