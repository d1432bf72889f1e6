/-! public methods, 2: arms -/
section P3
variable {l : Launch} {σ σ' : Sg} {v v' : Vt} {c : Nat}
theorem CR.armsOnly (h : CR σ v) (h10 : v.2.2.1 1 ≤ 10) (hn : σ'.1 = σ.1) (h2 : σ'.2.2 = σ.2.2) (E : ∀ r, r ≠ 2 → ¬ (5 ≤ r ∧ r ≤ 14) → σ'.2.1 r = σ.2.1 r) (e3 : σ'.2.1 2 3 = σ.2.1 2 3) (e4 : σ'.2.1 2 4 = σ.2.1 2 4) (ha : CRa σ' v') (hv : v'.2.1 = v.2.1) (hs : ∀ k, k ≠ 0 → v'.2.2.1 k = v.2.2.1 k) (hr : v'.2.2.2 = v.2.2.2) : CR σ' v' ∧ CF σ σ' := by
  have E2 : ∀ r, r ≠ 2 → ¬ (5 ≤ r ∧ r ≤ 14) → Eqc σ σ' r := fun r a b => ⟨E r a b, by rw [h2]⟩
  refine ⟨h.mk2 hn h2 ha (h.2.2.2.1.eq (Nat.le_of_eq hn.symm) e3 e4 (fun r a b => E2 r (by omega) (by omega)) (by rw [h2]) (by rw [h2]) hv (hs 1 (by omega)) h10) (h.2.2.2.2.1.eq (by rw [E 45 (by omega) (by omega)]) (E 46 (by omega) (by omega)) (by rw [E 50 (by omega) (by omega)]) (by rw [E 50 (by omega) (by omega)]) (hs 2 (by omega)) (hs 3 (by omega)) (hs 4 (by omega)) (by rw [hr])) (h.2.2.2.2.2.eq (E 58 (by omega) (by omega)) (E 1 (by omega) (by omega)) (by rw [E 69 (by omega) (by omega)]) (E 73 (by omega) (by omega)) (hs 5 (by omega)) (hs 6 (by omega)) (hs 7 (by omega)) (hs 8 (by omega)) (by rw [hr]) (by rw [hr])), ⟨Nat.le_of_eq hn.symm, fun r a b => E2 r (by omega) (by omega)⟩⟩
theorem MR.armsOnly (h : MR σ v) (hn : σ'.1 = σ.1) (h2 : σ'.2.2 = σ.2.2) (E : ∀ r, r ≠ 82 → ¬ (85 ≤ r ∧ r ≤ 95) → σ'.2.1 r = σ.2.1 r) (Ek : ∀ k, k ≠ 4 → σ'.2.1 82 k = σ.2.1 82 k) (ha : σ'.2.1 82 4 = I (v'.2.2.1 0) ∧ MArms σ' v'.1) (hv : v'.2.1 = v.2.1) (hs : ∀ k, k ≠ 0 → v'.2.2.1 k = v.2.2.1 k) (hr : v'.2.2.2 = v.2.2.2) : MR σ' v' ∧ MF σ σ' := by
  refine ⟨h.mk2 hn h2 ha (h.2.2.1.eq (Ek 16 (by omega)) (fun r a b => E r (by omega) (by omega)) hv (hs 1 (by omega))) (h.2.2.2.1.eq (Ek 2 (by omega)) (E 83 (by omega) (by omega)) (Ek 29 (by omega)) (Ek 30 (by omega)) (hs 2 (by omega)) (hs 3 (by omega)) (hs 4 (by omega)) (by rw [hr])) (h.2.2.2.2.eq (E 104 (by omega) (by omega)) (fun k hk => Ek k (fun q => by subst q; revert hk; decide)) (E 109 (by omega) (by omega)) (hs 5 (by omega)) (hs 6 (by omega)) (hs 7 (by omega)) (hs 8 (by omega)) (by rw [hr]) (by rw [hr])), ⟨hn, fun r a => ⟨E r (by omega) (by omega), by rw [h2]⟩⟩⟩
noncomputable def vif (p : Prop) (a b : Vt) : Vt := @ite Vt p (Classical.propDecidable p) a b
theorem vif_t {p : Prop} {a b : Vt} (h : p) : vif p a b = a := by unfold vif; exact if_pos h
theorem vif_f {p : Prop} {a b : Vt} (h : ¬ p) : vif p a b = b := by unfold vif; exact if_neg h
/-! arm -/
def okArm (v : Vt) (x y : Int) : Prop := (0 ≤ x ∧ x ≤ 20) ∧ (0 ≤ y ∧ y ≤ 20) ∧ v.2.2.1 0 < 2
def dArm (v : Vt) (x y : Int) : Vt := setS (setA (setA v (v.2.2.1 0).toNat 0 0 x) (v.2.2.1 0).toNat 0 1 y) 0 (v.2.2.1 0 + 1)
noncomputable def nArm (v : Vt) (x y : Int) : Vt := vif (okArm v x y) (dArm v x y) v
noncomputable def aArm (v : Vt) (x y : Int) : Int := cif (okArm v x y) (v.2.2.1 0) (-1)
theorem dArm_a {x y : Int} {n : Nat} (hn : v.2.2.1 0 = n) : (dArm v x y).1 n = upA (upA (v.1 n) 0 0 x) 0 1 y := by
  unfold dArm; rw [hn, I_tn]; show (setA _ n 0 1 y).1 n = _; rw [setA_a, setA_a]
theorem dArm_o {x y : Int} {n b : Nat} (hn : v.2.2.1 0 = n) (hb : b ≠ n) : (dArm v x y).1 b = v.1 b := by
  unfold dArm; rw [hn, I_tn]; show (setA _ n 0 1 y).1 b = _; rw [setA_o hb, setA_o hb]
theorem C_arm {x y : Int} (h : CR σ v) (hw : WF c v) (hx : Rg x) (hy : Rg y) : Con l mX11_arm [.inr 1, .inl (I x), .inl (I y)] σ (PI fun q σ' => q = I (aArm v x y) ∧ CR σ' (nArm v x y) ∧ CF σ σ') := by
  have hw0 := hw.1
  have no : ∀ {q : Int32}, q = -1 → ¬ okArm v x y → q = I (aArm v x y) ∧ CR σ (nArm v x y) ∧ CF σ σ := by
    intro q e hq
    unfold nArm aArm
    rw [vif_f hq, cif_f hq]
    exact ⟨e, h, CF.rf _⟩
  refine eX11_arm (q_within (b := 0) (c := 20) hx ⟨by omega, by omega⟩ ⟨by omega, by omega⟩ (fun a1 a2 => ⟨fun q => absurd q (by decide), fun _ => ?_⟩) (fun q => ⟨fun _ => no rfl (fun z => q z.1), fun q => absurd rfl q⟩))
  refine q_within (b := 0) (c := 20) hy ⟨by omega, by omega⟩ ⟨by omega, by omega⟩ (fun b1 b2 => ⟨fun _ => ⟨h.1.o1, by rw [h.1.p1_0]; exact h.1.o2, ?_⟩, fun q => absurd q (by decide)⟩) (fun q => ⟨fun q => absurd rfl q, fun _ => no rfl (fun z => q z.2.1)⟩)
  rw [h.1.p1_0]
  obtain ⟨n, hn⟩ : ∃ n : Nat, v.2.2.1 0 = n := ⟨(v.2.2.1 0).toNat, by omega⟩
  refine eX7_addArm ?_
  rw [h.2.2.1.1, h.1.p2_0, hn]
  simp (disch := omega) only [L_lit, I_lt']
  refine ⟨h.1.o2, fun q => absurd q (by omega), fun _ => ⟨fun q => ⟨aq_of (kd := 15) (n := 2) (by decide) (by decide) (by decide) (Nat.le_trans (by decide) h.1.1) (by omega) (by omega) (by decide), ?_⟩, fun q => no rfl (fun z => by have := z.2.2; omega)⟩⟩
  have h2 : n < 2 := by omega
  have hr : σ.2.2 3 (I (n : Int)).toNatClampNeg = 5 + 5 * n := by
    rw [I_cln (by omega)]
    have h3 : n = 0 ∨ n = 1 := by omega
    rcases h3 with rfl | rfl
    · exact h.1.p3_0
    · exact h.1.p3_1
  rw [hr]
  refine ⟨fun _ => ⟨(h.A h2).ob, eX0_stand ⟨(h.A h2).ob, fun σ3 e3 σ4 e4 σ8 e8 => ?_⟩⟩, fun q => absurd q (by omega)⟩
  have ok : okArm v x y := ⟨⟨a1, a2⟩, ⟨b1, b2⟩, by omega⟩
  have A3 : ∀ a, a < 2 → ArmAt σ4 (5 + 5 * a) ((dArm v x y).1 a) := by
    intro a ha
    by_cases e : a = n
    · subst e
      rw [dArm_a hn, e4, e3]
      exact ((h.A ha).w_own (i := 0) (by omega) x).w_own (i := 1) (by omega) y
    · rw [dArm_o hn e, e4, e3]
      exact ((h.A ha).w_off (by omega)).w_off (by omega)
  have h22 : σ4.2.1 2 2 = I n := by rw [e4, w1_r (by omega), e3, w1_r (by omega), h.2.2.1.1, hn]
  have key := h.armsOnly (σ' := σ8) (v' := dArm v x y) (by omega) (by rw [e8, e4, e3]; rfl) (by rw [e8, e4, e3]; rfl) (fun r a b => by rw [e8, w1_r (by omega), e4, w1_r (by omega), e3, w1_r (by omega)]) (by rw [e8, w1_k (by omega), e4, w1_r (by omega), e3, w1_r (by omega)]) (by rw [e8, w1_k (by omega), e4, w1_r (by omega), e3, w1_r (by omega)]) ⟨by rw [e8, w1_at, h22, I_add]; unfold dArm; rw [setS_k, hn], fun a ha => by rw [e8]; exact (A3 a ha).w_off (by omega)⟩ rfl (fun k hk => by unfold dArm; rw [setS_o hk]; rfl) rfl
  unfold nArm aArm
  rw [vif_t ok, cif_t ok]
  refine ⟨?_, key⟩
  rw [e8, w1_at, h22]
  show I n + I 1 - I 1 = _
  rw [I_add, I_sub, hn]
  congr 1; omega
theorem MArms.up {V V' : Nat → Nat → Nat → Int} {n q : Nat} {i : Nat} {z : Int} (h : MArms σ V) (hn : n < 2) (hq : (i = 0 ∧ q = 85) ∨ (i = 1 ∧ q = 86) ∨ (i = 2 ∧ q = 87)) (e : σ' = w1 σ q n (I z)) (h1 : V' n = upA (V n) 0 i z) (h2 : ∀ b, b ≠ n → V' b = V b) : MArms σ' V' := by
  subst e
  refine ⟨fun k hk => by rw [w1_r (by omega)]; exact h.1 k hk, fun a ha => ?_⟩
  have ha0 := h.2 a ha
  by_cases ea : a = n
  · subst ea
    rw [h1]
    refine ⟨⟨?_, ?_, ?_⟩, fun j hj => ?_, ?_⟩
    · rcases hq with ⟨rfl, rfl⟩ | ⟨rfl, rfl⟩ | ⟨rfl, rfl⟩
      · rw [w1_at, upA_at]
      · rw [w1_r (by omega), upA_off (by omega)]; exact ha0.1.1
      · rw [w1_r (by omega), upA_off (by omega)]; exact ha0.1.1
    · rcases hq with ⟨rfl, rfl⟩ | ⟨rfl, rfl⟩ | ⟨rfl, rfl⟩
      · rw [w1_r (by omega), upA_off (by omega)]; exact ha0.1.2.1
      · rw [w1_at, upA_at]
      · rw [w1_r (by omega), upA_off (by omega)]; exact ha0.1.2.1
    · rcases hq with ⟨rfl, rfl⟩ | ⟨rfl, rfl⟩ | ⟨rfl, rfl⟩
      · rw [w1_r (by omega), upA_off (by omega)]; exact ha0.1.2.2
      · rw [w1_r (by omega), upA_off (by omega)]; exact ha0.1.2.2
      · rw [w1_at, upA_at]
    · rw [w1_r (by omega), w1_r (by omega), w1_r (by omega), w1_r (by omega), upA_off (by omega), upA_off (by omega), upA_off (by omega), upA_off (by omega)]
      exact ha0.2.1 j hj
    · rw [w1_r (by omega), w1_r (by omega), w1_r (by omega), w1_r (by omega), upA_off (by omega), upA_off (by omega), upA_off (by omega), upA_off (by omega)]
      exact ha0.2.2
  · rw [h2 a ea]
    refine ⟨⟨?_, ?_, ?_⟩, fun j hj => ?_, ?_⟩
    · rcases Nat.decEq 85 q with hne | rfl
      · rw [w1_r hne]; exact ha0.1.1
      · rw [w1_k ea]; exact ha0.1.1
    · rcases Nat.decEq 86 q with hne | rfl
      · rw [w1_r hne]; exact ha0.1.2.1
      · rw [w1_k ea]; exact ha0.1.2.1
    · rcases Nat.decEq 87 q with hne | rfl
      · rw [w1_r hne]; exact ha0.1.2.2
      · rw [w1_k ea]; exact ha0.1.2.2
    · rw [w1_r (by omega), w1_r (by omega), w1_r (by omega), w1_r (by omega)]; exact ha0.2.1 j hj
    · rw [w1_r (by omega), w1_r (by omega), w1_r (by omega), w1_r (by omega)]; exact ha0.2.2
theorem upA_same {A : Nat → Nat → Int} {i j : Nat} {z : Int} (h : A i j = z) : upA A i j z = A := by
  funext a b
  by_cases e : a = i ∧ b = j
  · rw [e.1, e.2, upA_at, h]
  · rw [upA_off e]
theorem M_arm {x y : Int} (h : MR σ v) (hw : WF c v) (hx : Rg x) (hy : Rg y) : Con l mX12_arm [.inr 82, .inl (I x), .inl (I y)] σ (PI fun q σ' => q = I (aArm v x y) ∧ MR σ' (nArm v x y) ∧ MF σ σ') := by
  have hw0 := hw.1
  refine eX12_arm ⟨h.1.ob, fun σ2 e2 => ?_⟩
  obtain ⟨h, f⟩ := h.w e2 (by decide)
  have no : ∀ {q : Int32}, q = -1 → ¬ okArm v x y → q = I (aArm v x y) ∧ MR σ2 (nArm v x y) ∧ MF σ σ2 := by
    intro q e hq
    unfold nArm aArm
    rw [vif_f hq, cif_f hq]
    exact ⟨e, h, f⟩
  refine q_in (b := 0) (c := 20) hx ⟨by omega, by omega⟩ ⟨by omega, by omega⟩ (fun a1 a2 => ⟨fun q => absurd q (by decide), fun _ => ?_⟩) (fun q => ⟨fun _ => no rfl (fun z => q z.1), fun q => absurd rfl q⟩)
  refine q_in (b := 0) (c := 20) hy ⟨by omega, by omega⟩ ⟨by omega, by omega⟩ (fun b1 b2 => ⟨fun q => absurd q (by decide), fun _ => ?_⟩) (fun q => ⟨fun _ => no rfl (fun z => q z.2.1), fun q => absurd rfl q⟩)
  obtain ⟨n, hn⟩ : ∃ n : Nat, v.2.2.1 0 = n := ⟨(v.2.2.1 0).toNat, by omega⟩
  have h4 : σ2.2.1 82 4 = I n := by rw [h.2.1.1, hn]
  refine ⟨fun q => ?_, fun q => ?_⟩
  · rw [h4, L_lit, I_eq ⟨by omega, by omega⟩ ⟨by omega, by omega⟩] at q
    have h2 : n < 2 := by omega
    rw [h4]
    refine ⟨h.1.a5 (by omega) (by omega), fun σ9 e9 => ?_⟩
    rw [h.1.k5, I_cln (by omega)] at e9
    have p9 : σ9.2.2 = σ2.2.2 := by rw [e9]; rfl
    have s9 : σ9.2.1 82 4 = I n := by rw [e9, w1_r (by omega), h4]
    have M9 : Mp σ9 := ⟨by rw [e9]; exact h.1.1, by rw [p9]; exact h.1.2⟩
    rw [s9]
    refine ⟨M9.a6 (by omega) (by omega), fun σ11 e11 => ?_⟩
    rw [M9.k6, I_cln (by omega)] at e11
    have p11 : σ11.2.2 = σ9.2.2 := by rw [e11]; rfl
    have s11 : σ11.2.1 82 4 = I n := by rw [e11, w1_r (by omega), s9]
    have M11 : Mp σ11 := ⟨by rw [e11]; exact M9.1, by rw [p11]; exact M9.2⟩
    rw [s11]
    refine ⟨M11.a7 (by omega) (by omega), fun σ13 e13 σ14 e14 => ?_⟩
    rw [M11.k7, I_cln (by omega)] at e13
    have s13 : σ13.2.1 82 4 = I n := by rw [e13, w1_r (by omega), s11]
    have ok : okArm v x y := ⟨⟨a1, a2⟩, ⟨b1, b2⟩, by omega⟩
    have hz : v.1 n 0 2 = 0 := (hw.2.2.1 n h2).2 (by omega)
    have B1 : MArms σ9 (fun b => if b = n then upA (v.1 n) 0 0 x else v.1 b) := h.2.1.2.up h2 (Or.inl ⟨rfl, rfl⟩) e9 (by simp) (fun b hb => by simp [hb])
    have B2 : MArms σ11 (dArm v x y).1 := B1.up h2 (Or.inr (Or.inl ⟨rfl, rfl⟩)) e11 (by rw [dArm_a hn]; simp) (fun b hb => by rw [dArm_o hn hb]; simp [hb])
    have B3 : MArms σ13 (dArm v x y).1 := by
      refine B2.up (z := 0) h2 (Or.inr (Or.inr ⟨rfl, rfl⟩)) e13 ?_ (fun b hb => rfl)
      rw [upA_same]
      rw [dArm_a hn, upA_off (by omega), upA_off (by omega)]; exact hz
    have B4 : MArms σ14 (dArm v x y).1 := B3.eq (fun r a b => by rw [e14, w1_r (by omega)])
    have key := h.armsOnly (σ' := σ14) (v' := dArm v x y) (by rw [e14, e13, e11, e9]; rfl) (by rw [e14, e13, e11, e9]; rfl) (fun r a b => by rw [e14, w1_r (by omega), e13, w1_r (by omega), e11, w1_r (by omega), e9, w1_r (by omega)]) (fun k hk => by rw [e14, w1_k hk, e13, w1_r (by omega), e11, w1_r (by omega), e9, w1_r (by omega)]) ⟨by rw [e14, w1_at, s13, I_1, I_add]; unfold dArm; rw [setS_k, hn], B4⟩ rfl (fun k hk => by unfold dArm; rw [setS_o hk]; rfl) rfl
    unfold nArm aArm
    rw [vif_t ok, cif_t ok]
    refine ⟨?_, key.1, f.tr key.2⟩
    rw [e14, w1_at, s13, I_1, I_add, I_sub, hn]
    congr 1; omega
  · rw [h4, L_lit, I_eq ⟨by omega, by omega⟩ ⟨by omega, by omega⟩] at q
    exact no rfl (fun z => by have := z.2.2; omega)
theorem W_arm {x y : Int} (hw : WF c v) : (∀ a, a < 2 → ArmWf ((nArm v x y).1 a) ∧ ((nArm v x y).2.2.1 0 ≤ (a : Int) → (nArm v x y).1 a 0 2 = 0)) ∧ (nArm v x y).2.1 = v.2.1 ∧ (nArm v x y).2.2.2 = v.2.2.2 ∧ (∀ k, k ≠ 0 → (nArm v x y).2.2.1 k = v.2.2.1 k) ∧ v.2.2.1 0 ≤ (nArm v x y).2.2.1 0 ∧ (nArm v x y).2.2.1 0 ≤ 2 ∧ ∀ a : Nat, (a : Int) < v.2.2.1 0 → (nArm v x y).1 a = v.1 a := by
  have hw0 := hw.1
  by_cases ok : okArm v x y
  · unfold nArm
    rw [vif_t ok]
    obtain ⟨n, hn⟩ : ∃ n : Nat, v.2.2.1 0 = n := ⟨(v.2.2.1 0).toNat, by omega⟩
    obtain ⟨o1, o2, o3⟩ := ok
    have hs : (dArm v x y).2.2.1 0 = v.2.2.1 0 + 1 := by unfold dArm; rw [setS_k]
    refine ⟨fun a ha => ?_, rfl, rfl, fun k hk => by unfold dArm; rw [setS_o hk]; rfl, by omega, by omega, fun a ha => dArm_o hn (by omega)⟩
    have h1 := hw.2.2.1 a ha
    by_cases e : a = n
    · subst e
      rw [dArm_a hn]
      obtain ⟨⟨w1, w2, w3, w4, w5⟩, w6⟩ := h1
      have hz := w6 (by omega)
      refine ⟨⟨?_, fun j hj => ?_, fun j hj => ?_, fun j hj => ?_, ?_⟩, fun q => by omega⟩
      · rw [upA_off (by omega), upA_at, upA_at, upA_off (by omega), upA_off (by omega)]; omega
      · rw [upA_off (by omega), upA_off (by omega), upA_off (by omega), upA_off (by omega), upA_off (by omega), upA_off (by omega), upA_off (by omega), upA_off (by omega)]; exact w2 j hj
      · rw [upA_off (by omega), upA_off (by omega), upA_off (by omega), upA_off (by omega), upA_off (by omega), upA_off (by omega)]; exact w3 j hj
      · rw [upA_off (by omega), upA_off (by omega), upA_off (by omega), upA_off (by omega), upA_off (by omega), upA_off (by omega), upA_off (by omega), upA_off (by omega), upA_off (by omega), upA_off (by omega)]; exact w4 j hj
      · rw [upA_off (by omega), upA_off (by omega), upA_off (by omega), upA_off (by omega), upA_off (by omega), upA_off (by omega), upA_off (by omega), upA_off (by omega)]; exact w5
    · rw [dArm_o hn e]
      exact ⟨h1.1, fun q => h1.2 (by omega)⟩
  · unfold nArm
    rw [vif_f ok]
    exact ⟨hw.2.2.1, rfl, rfl, fun _ _ => rfl, Int.le_refl _, by omega, fun _ _ => rfl⟩
end P3
