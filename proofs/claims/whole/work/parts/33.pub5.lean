/-! public methods, 5: tape, lead -/
section P6
variable {l : Launch} {σ σ' : Sg} {v v' : Vt} {c : Nat}
theorem CR.tapesOnly (h : CR σ v) (hn : σ'.1 = σ.1) (h2 : σ'.2.2 = σ.2.2) (E : ∀ r, r ≠ 2 → ¬ (15 ≤ r ∧ r ≤ 44) → σ'.2.1 r = σ.2.1 r) (e2 : σ'.2.1 2 2 = σ.2.1 2 2) (ht : CRt σ' v') (hv : v'.1 = v.1) (hs : ∀ k, k ≠ 1 → v'.2.2.1 k = v.2.2.1 k) (hr : v'.2.2.2 = v.2.2.2) : CR σ' v' ∧ CF σ σ' := by
  have E2 : ∀ r, r ≠ 2 → ¬ (15 ≤ r ∧ r ≤ 44) → Eqc σ σ' r := fun r a b => ⟨E r a b, by rw [h2]⟩
  refine ⟨h.mk2 hn h2 (h.2.2.1.eq (Nat.le_of_eq hn.symm) e2 (fun r a b => E2 r (by omega) (by omega)) hv (hs 0 (by omega))) ht (h.2.2.2.2.1.eq (by rw [E 45 (by omega) (by omega)]) (E 46 (by omega) (by omega)) (by rw [E 50 (by omega) (by omega)]) (by rw [E 50 (by omega) (by omega)]) (hs 2 (by omega)) (hs 3 (by omega)) (hs 4 (by omega)) (by rw [hr])) (h.2.2.2.2.2.eq (E 58 (by omega) (by omega)) (E 1 (by omega) (by omega)) (by rw [E 69 (by omega) (by omega)]) (E 73 (by omega) (by omega)) (hs 5 (by omega)) (hs 6 (by omega)) (hs 7 (by omega)) (hs 8 (by omega)) (by rw [hr]) (by rw [hr])), ⟨Nat.le_of_eq hn.symm, fun r a b => E2 r (by omega) (by omega)⟩⟩
theorem MR.tapesOnly (h : MR σ v) (hn : σ'.1 = σ.1) (h2 : σ'.2.2 = σ.2.2) (E : ∀ r, r ≠ 82 → ¬ (96 ≤ r ∧ r ≤ 99) → σ'.2.1 r = σ.2.1 r) (Ek : ∀ k, k ≠ 16 → σ'.2.1 82 k = σ.2.1 82 k) (ht : MRt σ' v') (hv : v'.1 = v.1) (hs : ∀ k, k ≠ 1 → v'.2.2.1 k = v.2.2.1 k) (hr : v'.2.2.2 = v.2.2.2) : MR σ' v' ∧ MF σ σ' := by
  refine ⟨h.mk2 hn h2 ⟨by rw [Ek 4 (by omega), hs 0 (by omega)]; exact h.2.1.1, by rw [hv]; exact h.2.1.2.eq (fun r a b => E r (by omega) (by omega))⟩ ht (h.2.2.2.1.eq (Ek 2 (by omega)) (E 83 (by omega) (by omega)) (Ek 29 (by omega)) (Ek 30 (by omega)) (hs 2 (by omega)) (hs 3 (by omega)) (hs 4 (by omega)) (by rw [hr])) (h.2.2.2.2.eq (E 104 (by omega) (by omega)) (fun k hk => Ek k (fun q => by subst q; revert hk; decide)) (E 109 (by omega) (by omega)) (hs 5 (by omega)) (hs 6 (by omega)) (hs 7 (by omega)) (hs 8 (by omega)) (by rw [hr]) (by rw [hr])), ⟨hn, fun r a => ⟨E r (by omega) (by omega), by rw [h2]⟩⟩⟩
/-! begin, and a new tape -/
theorem q_begin {r : Nat} {o : Int} {K : Sg → Prop} (hP : TapeP σ r) (h : ∀ σ', σ' = w1 (w1 σ r 2 (I o)) r 3 (I 0) → K σ') : Con l mX9_begin [.inr r, .inl (I o)] σ (PV K) :=
  eX9_begin ⟨hP.ob, fun σ2 e2 σ3 e3 => h σ3 (by rw [e3, e2]; rfl)⟩
def okTp (v : Vt) (a : Int) : Prop := (0 ≤ a ∧ a < v.2.2.1 0) ∧ v.1 a.toNat 0 2 ≠ 0 ∧ v.2.2.1 1 < 10
def dTp (v : Vt) (a : Int) : Vt := setS (setT (setT v (v.2.2.1 1).toNat 0 0 a) (v.2.2.1 1).toNat 0 1 0) 1 (v.2.2.1 1 + 1)
noncomputable def nTape (v : Vt) (a : Int) : Vt := vif (okTp v a) (dTp v a) v
noncomputable def aTape (v : Vt) (a : Int) : Int := cif (okTp v a) (v.2.2.1 1) (-1)
theorem dTp_t {a : Int} {n : Nat} (hn : v.2.2.1 1 = n) : (dTp v a).2.1 n = upA (upA (v.2.1 n) 0 0 a) 0 1 0 := by
  unfold dTp; rw [hn, I_tn]; show (setT _ n 0 1 0).2.1 n = _; rw [setT_t, setT_t]
theorem dTp_o {a : Int} {n b : Nat} (hn : v.2.2.1 1 = n) (hb : b ≠ n) : (dTp v a).2.1 b = v.2.1 b := by
  unfold dTp; rw [hn, I_tn]; show (setT _ n 0 1 0).2.1 b = _; rw [setT_o hb, setT_o hb]
theorem q_nextTape {K : Nat → Sg → Prop} {n : Int} (hC : Cp σ) (hn : σ.2.1 2 3 = I n) (hs : σ.2.1 2 4 = I 0) (hn0 : 0 ≤ n) (hn2 : n ≤ 10) (h1 : n < 10 → K (15 + 3 * n.toNat) σ) (h0 : ¬ n < 10 → K 0 σ) : Con l mX7_nextTape [.inr 2] σ (PR K) := by
  refine eX7_nextTape ?_
  rw [hn, hs, hC.p2_1, I_add, Int.add_zero]
  simp (disch := omega) only [L_lit, I_lt', I_le']
  refine ⟨hC.o2, fun q => absurd q (by omega), fun _ => ⟨fun q => h0 (by omega), fun q => ⟨aq_of (kd := 16) (n := 10) (by decide) (by decide) (by decide) (Nat.le_trans (by decide) hC.1) (by omega) (by omega) (by decide), ?_⟩⟩⟩
  rw [I_cl (by omega) (by omega), hC.tr (by omega)]
  exact h1 (by omega)
theorem C_tape {a : Int} (h : CR σ v) (hw : WF c v) (ha : Rg a) : Con l mX11_tape [.inr 1, .inl (I a)] σ (PI fun q σ' => q = I (aTape v a) ∧ CR σ' (nTape v a) ∧ CF σ σ') := by
  have hw0 := hw.1
  have no : ∀ {q : Int32}, q = -1 → ¬ okTp v a → q = I (aTape v a) ∧ CR σ (nTape v a) ∧ CF σ σ := by
    intro q e hq
    unfold nTape aTape
    rw [vif_f hq, cif_f hq]
    exact ⟨e, h, CF.rf _⟩
  refine eX11_tape ⟨h.1.o1, by rw [h.1.p1_0]; exact h.1.o2, ?_⟩
  rw [h.1.p1_0]
  refine h.ar hw ha (fun n e hn h2 => ⟨fun q => absurd q (by omega), fun _ => ⟨(h.A h2).ob, ?_⟩⟩) (fun q => ⟨fun _ => no rfl (fun k => q k.1), fun q => absurd rfl q⟩)
  subst e
  have hw1 := (hw.2.2.1 n h2).1.1
  rw [(h.A h2).jn]
  refine ⟨fun q => ⟨by rw [h.1.p1_0]; exact h.1.o2, ?_⟩, fun q => ?_⟩
  · rw [I_0, I_eq ⟨by omega, by omega⟩ ⟨by omega, by omega⟩] at q
    rw [h.1.p1_0]
    obtain ⟨m, hm⟩ : ∃ m : Nat, v.2.2.1 1 = m := ⟨(v.2.2.1 1).toNat, by omega⟩
    refine eX7_addTape ⟨h.1.o2, q_nextTape h.1 h.2.2.2.1.1 h.2.2.2.1.2.1 (by omega) (by omega) (fun lt => ⟨fun _ => ?_, fun q => absurd q (by omega)⟩) (fun lt => ⟨fun q => absurd rfl q, fun _ => no rfl (fun k => lt k.2.2)⟩)⟩
    rw [hm, I_tn]
    have m10 : m < 10 := by omega
    have hP := h.P m10
    refine ⟨hP.ob, q_begin hP (fun σ4 e4 σ6 e6 => ?_)⟩
    have E4 : ∀ r, r ≠ 15 + 3 * m → σ4.2.1 r = σ.2.1 r := fun r hr => by rw [e4, w1_r hr, w1_r hr]
    have s3 : σ4.2.1 2 3 = I m := by rw [E4 2 (by omega), h.2.2.2.1.1, hm]
    rw [s3, I_1, I_add] at e6
    have E6 : ∀ r, r ≠ 15 + 3 * m → r ≠ 2 → σ6.2.1 r = σ.2.1 r := fun r a b => by rw [e6, w1_r b, E4 r a]
    have hn6 : σ6.1 = σ.1 := by rw [e6, e4]; rfl
    have h26 : σ6.2.2 = σ.2.2 := by rw [e6, e4]; rfl
    have ok : okTp v n := ⟨⟨by omega, hn⟩, by rw [I_tn]; exact q, by omega⟩
    have key := h.tapesOnly (σ' := σ6) (v' := dTp v n) hn6 h26 (fun r a b => E6 r (by omega) a) (by rw [e6, w1_k (by omega), E4 2 (by omega)]) ?_ rfl (fun k hk => by unfold dTp; rw [setS_o hk]; rfl) rfl
    · unfold nTape aTape
      rw [vif_t ok, cif_t ok]
      refine ⟨?_, key⟩
      rw [e6, w1_at, I_1, I_sub, hm]; congr 1; omega
    · have ht := h.2.2.2.1
      refine ⟨?_, ?_, fun t ht10 => (ht.2.2.1 t ht10).eq (Nat.le_of_eq hn6.symm) (by rw [h26]), ht.2.2.2.1.eq (Nat.le_of_eq hn6.symm) (by rw [h26]), ht.2.2.2.2.1.eq (Nat.le_of_eq hn6.symm) (by rw [h26]), fun t hlt => ?_⟩
      · rw [e6, w1_at]; unfold dTp; rw [setS_k, hm]
      · rw [e6, w1_k (by omega), E4 2 (by omega)]; exact ht.2.1
      · have hs1 : (dTp v n).2.2.1 1 = (m : Int) + 1 := by unfold dTp; rw [setS_k, hm]
        rw [hs1] at hlt
        by_cases et : t = m
        · subst et
          rw [dTp_t hm]
          refine ⟨?_, ?_, fun i hi => ?_⟩
          · rw [e6, w1_r (by omega), e4, w1_k (by omega), w1_at, upA_off (by omega), upA_at]
          · rw [e6, w1_r (by omega), e4, w1_at, upA_at]
          · rw [upA_at] at hi; omega
        · rw [dTp_o hm et]
          exact (ht.2.2.2.2.2 t (by omega)).eq (fun k hk => ⟨E6 _ (by omega) (by omega), by rw [h26]⟩)
  · rw [I_0, I_eq ⟨by omega, by omega⟩ ⟨by omega, by omega⟩] at q
    exact no rfl (fun k => k.2.1 (by rw [I_tn]; exact q))
theorem M_tape {a : Int} (h : MR σ v) (hw : WF c v) (ha : Rg a) : Con l mX12_tape [.inr 82, .inl (I a)] σ (PI fun q σ' => q = I (aTape v a) ∧ MR σ' (nTape v a) ∧ MF σ σ') := by
  have hw0 := hw.1
  refine eX12_tape ⟨h.1.ob, fun σ2 e2 => ?_⟩
  obtain ⟨h, f⟩ := h.w e2 (by decide)
  have no : ∀ {q : Int32}, q = -1 → ¬ okTp v a → q = I (aTape v a) ∧ MR σ2 (nTape v a) ∧ MF σ σ2 := by
    intro q e hq
    unfold nTape aTape
    rw [vif_f hq, cif_f hq]
    exact ⟨e, h, f⟩
  refine h.isArm hw ha (fun n e hn h2 => ⟨fun q => absurd q (by decide), fun _ => ?_⟩) (fun q => ⟨fun _ => no rfl (fun k => q k.1), fun q => absurd rfl q⟩)
  subst e
  have hw1 := (hw.2.2.1 n h2).1.1
  rw [h.2.1.2.jn h.1 h2]
  refine ⟨h.1.a7 (by omega) (by omega), fun q => ?_, fun q => ⟨fun q2 => ?_, fun q2 => ?_⟩⟩
  · rw [I_0, I_eq ⟨by omega, by omega⟩ ⟨by omega, by omega⟩] at q
    exact no rfl (fun k => k.2.1 (by rw [I_tn]; exact q))
  · rw [I_0, I_eq ⟨by omega, by omega⟩ ⟨by omega, by omega⟩] at q
    obtain ⟨m, hm⟩ : ∃ m : Nat, v.2.2.1 1 = m := ⟨(v.2.2.1 1).toNat, by omega⟩
    rw [h.2.2.1.1, hm, L_lit, I_eq ⟨by omega, by omega⟩ ⟨by omega, by omega⟩] at q2
    rw [h.2.2.1.1, hm]
    refine ⟨h.1.a17 (by omega) (by omega), fun σ9 e9 => ?_⟩
    rw [h.1.k17, I_cln (by omega)] at e9
    have M9 : Mp σ9 := ⟨by rw [e9]; exact h.1.1, by rw [e9]; exact h.1.2⟩
    have s9 : σ9.2.1 82 16 = I m := by rw [e9, w1_r (by omega), h.2.2.1.1, hm]
    rw [s9]
    refine ⟨M9.a18 (by omega) (by omega), fun σ11 e11 σ12 e12 => ?_⟩
    rw [M9.k18, I_cln (by omega)] at e11
    have s11 : σ11.2.1 82 16 = I m := by rw [e11, w1_r (by omega), s9]
    rw [s11, I_1, I_add] at e12
    have ok : okTp v n := ⟨⟨by omega, hn⟩, by rw [I_tn]; exact q, by omega⟩
    have key := h.tapesOnly (σ' := σ12) (v' := dTp v n) (by rw [e12, e11, e9]; rfl) (by rw [e12, e11, e9]; rfl) (fun r a b => by rw [e12, w1_r a, e11, w1_r (by omega), e9, w1_r (by omega)]) (fun k hk => by rw [e12, w1_k hk, e11, w1_r (by omega), e9, w1_r (by omega)]) ?_ rfl (fun k hk => by unfold dTp; rw [setS_o hk]; rfl) rfl
    · unfold nTape aTape
      rw [vif_t ok, cif_t ok]
      refine ⟨?_, key.1, f.tr key.2⟩
      rw [e12, w1_at, I_1, I_sub, hm]; congr 1; omega
    · have hs1 : (dTp v n).2.2.1 1 = (m : Int) + 1 := by unfold dTp; rw [setS_k, hm]
      refine ⟨by rw [e12, w1_at, hs1], fun t hlt => ?_⟩
      rw [hs1] at hlt
      by_cases et : t = m
      · subst et
        rw [dTp_t hm]
        refine ⟨?_, ?_, fun i hi => ?_⟩
        · rw [e12, w1_r (by omega), e11, w1_r (by omega), e9, w1_at, upA_off (by omega), upA_at]
        · rw [e12, w1_r (by omega), e11, w1_at, upA_at]; rfl
        · rw [upA_at] at hi; omega
      · rw [dTp_o hm et]
        have h0 := h.2.2.1.2 t (by omega)
        rw [e12, w1_r (by omega), w1_r (by omega), w1_r (by omega), w1_r (by omega), e11, w1_r (by omega), w1_k et, w1_r (by omega), w1_r (by omega), e9, w1_k et, w1_r (by omega), w1_r (by omega), w1_r (by omega)]
        exact h0
  · obtain ⟨m, hm⟩ : ∃ m : Nat, v.2.2.1 1 = m := ⟨(v.2.2.1 1).toNat, by omega⟩
    rw [h.2.2.1.1, L_lit, I_eq ⟨by omega, by omega⟩ ⟨by omega, by omega⟩] at q2
    exact no rfl (fun k => by have := k.2.2; omega)
/-! lead -/
def tA (T : Nat → Nat → Int) (p s : Int) : Nat → Nat → Int := upA (upA (upA T 1 (T 0 1).toNat p) 2 (T 0 1).toNat s) 0 1 (T 0 1 + 1)
/-- addTick -/
theorem q_addTick {r : Nat} {T : Nat → Nat → Int} {p s : Int} {K : Int32 → Sg → Prop} (hP : TapeP σ r) (hD : TapeD σ r T) (h0 : 0 ≤ T 0 1) (h40 : T 0 1 ≤ 40) (hy : T 0 1 < 40 → ∀ σ', σ'.1 = σ.1 → σ'.2.2 = σ.2.2 → (∀ q, ¬ (r ≤ q ∧ q ≤ r + 2) → σ'.2.1 q = σ.2.1 q) → TapeD σ' r (tA T p s) → K 1 σ') (hno : ¬ T 0 1 < 40 → K 0 σ) : Con l mX9_addTick [.inr r, .inl (I p), .inl (I s)] σ (PI K) := by
  obtain ⟨n, hn⟩ : ∃ n : Nat, T 0 1 = n := ⟨(T 0 1).toNat, by omega⟩
  refine eX9_addTick ?_
  rw [hD.2.1, hn]
  refine ⟨hP.ob, fun q => ?_, fun _ => ⟨fun q => ?_, fun q => ?_⟩⟩
  · rw [I_0, I_lt ⟨by omega, by omega⟩ ⟨by omega, by omega⟩] at q; omega
  · rw [L_lit, I_lt ⟨by omega, by omega⟩ ⟨by omega, by omega⟩] at q
    refine ⟨hP.a0 (by omega) (by omega), fun σ5 e5 => ?_⟩
    rw [hP.2.1.1, I_cln (by omega)] at e5
    have P5 : TapeP σ5 r := hP.eq (by rw [e5]; exact Nat.le_refl _) (by rw [e5]; rfl)
    have t5 : σ5.2.1 r 3 = I n := by rw [e5, w1_r (by omega), hD.2.1, hn]
    rw [t5]
    refine ⟨P5.a1 (by omega) (by omega), fun σ7 e7 σ8 e8 => ?_⟩
    rw [P5.2.2.1, I_cln (by omega)] at e7
    have t7 : σ7.2.1 r 3 = I n := by rw [e7, w1_r (by omega), t5]
    rw [t7, I_1, I_add] at e8
    refine hy (by omega) σ8 (by rw [e8, e7, e5]; rfl) (by rw [e8, e7, e5]; rfl) (fun q hq => by rw [e8, w1_r (by omega), e7, w1_r (by omega), e5, w1_r (by omega)]) ?_
    unfold tA
    rw [hn, I_tn]
    refine ⟨?_, ?_, fun i hi => ⟨?_, ?_⟩⟩
    · rw [upA_off (by omega), upA_off (by omega), upA_off (by omega), e8, w1_k (by omega), e7, w1_r (by omega), e5, w1_r (by omega)]; exact hD.1
    · rw [upA_at, e8, w1_at]
    · rw [upA_off (by omega), upA_off (by omega), e8, w1_r (by omega), e7, w1_r (by omega), e5]
      rw [upA_at] at hi
      by_cases ei : i = n
      · subst ei; rw [w1_at, upA_at]
      · rw [w1_k ei, upA_off (by omega)]; exact (hD.2.2 i (by omega)).1
    · rw [upA_off (by omega), e8, w1_r (by omega), e7]
      rw [upA_at] at hi
      by_cases ei : i = n
      · subst ei; rw [w1_at, upA_at]
      · rw [w1_k ei, upA_off (by omega), upA_off (by omega), e5, w1_r (by omega)]; exact (hD.2.2 i (by omega)).2
  · rw [L_lit, I_lt ⟨by omega, by omega⟩ ⟨by omega, by omega⟩] at q
    exact hno (by omega)
def okLd (v : Vt) (t p s : Int) : Prop := (0 ≤ t ∧ t < v.2.2.1 1) ∧ isPo (v.1 (v.2.1 t.toNat 0 0).toNat) p ∧ (0 ≤ s ∧ s ≤ 9) ∧ v.2.1 t.toNat 0 1 < 40 ∧ (0 < v.2.1 t.toNat 0 1 → hop (v.1 (v.2.1 t.toNat 0 0).toNat) (v.2.1 t.toNat 1 (v.2.1 t.toNat 0 1 - 1).toNat) p ≤ 1)
def dLd (v : Vt) (t : Nat) (p s : Int) : Vt := (v.1, fun b => if b = t then tA (v.2.1 t) p s else v.2.1 b, v.2.2.1, v.2.2.2)
noncomputable def nLead (v : Vt) (t p s : Int) : Vt := vif (okLd v t p s) (dLd v t.toNat p s) v
noncomputable def aLead (v : Vt) (t p s : Int) : Int := cif (okLd v t p s) (v.2.1 t.toNat 0 1 + 1) (-1)
theorem dLd_t {t : Nat} {p s : Int} : (dLd v t p s).2.1 t = tA (v.2.1 t) p s := by unfold dLd; simp
theorem dLd_o {t b : Nat} {p s : Int} (h : b ≠ t) : (dLd v t p s).2.1 b = v.2.1 b := by unfold dLd; simp [h]
theorem C_lead {t p s : Int} (h : CR σ v) (hw : WF c v) (ht : Rg t) (hp : Rg p) (hs : Rg s) : Con l mX11_lead [.inr 1, .inl (I t), .inl (I p), .inl (I s)] σ (PI fun q σ' => q = I (aLead v t p s) ∧ CR σ' (nLead v t p s) ∧ CF σ σ') := by
  have hw0 := hw.1
  have no : ∀ {q : Int32}, q = -1 → ¬ okLd v t p s → q = I (aLead v t p s) ∧ CR σ (nLead v t p s) ∧ CF σ σ := by
    intro q e hq
    unfold nLead aLead
    rw [vif_f hq, cif_f hq]
    exact ⟨e, h, CF.rf _⟩
  refine eX11_lead ⟨h.1.o1, by rw [h.1.p1_0]; exact h.1.o2, ?_⟩
  rw [h.1.p1_0]
  refine h.tp hw ht (fun n e hn h10 => ⟨by rw [h.1.p1_0]; exact h.1.o2, ?_⟩) (fun q => ⟨by rw [h.1.p1_0]; exact h.1.o2, ?_⟩)
  · subst e
    rw [h.1.p1_0]
    have hwt := hw.2.2.2.1 n hn
    have hT := h.D hn
    have hP := h.P h10
    refine h.ao hw hn (fun a ea a2 a1 => ⟨fun q => absurd q (by omega), fun _ => ⟨fun q => absurd q (by omega), fun _ => ⟨(h.A a2).ob, ?_⟩⟩⟩)
    have hwf := (hw.2.2.1 a a2).1
    rw [ea] at hwt
    rw [I_tn] at hwt
    have eo : (v.2.1 (n : Int).toNat 0 0).toNat = a := by rw [I_tn, ea, I_tn]
    refine q_hasPose (h.A a2) hwf hp (fun b1 => ⟨fun q => absurd q (by decide), fun _ => ?_⟩) (fun b1 => ⟨fun _ => no rfl (fun k => b1 (by have := k.2.1; rw [eo] at this; exact this)), fun q => absurd rfl q⟩)
    refine q_within (b := 0) (c := 9) hs ⟨by omega, by omega⟩ ⟨by omega, by omega⟩ (fun s1 s2 => ⟨fun _ => ⟨hP.ob, ?_⟩, fun q => absurd q (by decide)⟩) (fun q => ⟨fun q => absurd rfl q, fun _ => no rfl (fun k => q k.2.2.1)⟩)
    have G : (0 < v.2.1 n 0 1 → hop (v.1 a) (v.2.1 n 1 (v.2.1 n 0 1 - 1).toNat) p ≤ 1) → GW l mX11_lead 77 [(0, .inr 1), (1, .inl (I n)), (2, .inl (I p)), (3, .inl (I s)), (4, .inr (15 + 3 * n)), (5, .inr (5 + 5 * a))] [] σ 0 0 (PI fun q σ' => q = I (aLead v n p s) ∧ CR σ' (nLead v n p s) ∧ CF σ σ') := by
      intro hh
      refine gX11_lead_77 ⟨hP.ob, q_addTick hP hT (by omega) (by omega) (fun lt σ' hn' h2' E D' => ⟨fun q => absurd q (by decide), fun _ => ?_⟩) (fun lt => ⟨fun _ => no rfl (fun k => lt (by have := k.2.2.2.1; rw [I_tn] at this; exact this)), fun q => absurd rfl q⟩)⟩
      have ok : okLd v n p s := ⟨⟨by omega, hn⟩, by rw [eo]; exact b1, ⟨s1, s2⟩, by rw [I_tn]; exact lt, by rw [eo, I_tn]; exact hh⟩
      unfold nLead aLead
      rw [vif_t ok, cif_t ok, I_tn]
      have ht := h.2.2.2.1
      refine ⟨by rw [D'.2.1]; unfold tA; rw [upA_at], h.tapesOnly (v' := dLd v n p s) hn' h2' (fun r x y => E r (by omega)) (by rw [E 2 (by omega)]) ⟨by rw [E 2 (by omega)]; exact ht.1, by rw [E 2 (by omega)]; exact ht.2.1, fun t ht10 => (ht.2.2.1 t ht10).eq (Nat.le_of_eq hn'.symm) (by rw [h2']), ht.2.2.2.1.eq (Nat.le_of_eq hn'.symm) (by rw [h2']), ht.2.2.2.2.1.eq (Nat.le_of_eq hn'.symm) (by rw [h2']), fun t hlt => ?_⟩ rfl (fun _ _ => rfl) rfl⟩
      by_cases et : t = n
      · subst et; rw [dLd_t]; exact D'
      · rw [dLd_o et]
        exact (ht.2.2.2.2.2 t hlt).eq (fun k hk => ⟨E _ (by omega), by rw [h2']⟩)
    rw [hT.2.1]
    refine ⟨fun q => ?_, fun q => ?_⟩
    · rw [I_0, I_le ⟨by omega, by omega⟩ ⟨by omega, by omega⟩] at q
      exact G (fun z => by omega)
    · rw [I_0, I_le ⟨by omega, by omega⟩ ⟨by omega, by omega⟩] at q
      have hl := hwt.2.2.2.2.2 (v.2.1 n 0 1 - 1).toNat (by omega)
      refine q_lastPose hP hT (by omega) (by omega) (fun lt => ?_) (fun z => by omega)
      refine q_hop (h.A a2) hwf hl.1.1 (by have := hl.1.2.1; omega) b1.1 (by have := b1.2.1; omega) ?_
      have hr := hps_rg hwf (v.2.1 n 1 (v.2.1 n 0 1 - 1).toNat) p (v.1 a 0 2).toNat (by have := hwf.1; omega)
      have hr2 : 0 ≤ hop (v.1 a) (v.2.1 n 1 (v.2.1 n 0 1 - 1).toNat) p ∧ hop (v.1 a) (v.2.1 n 1 (v.2.1 n 0 1 - 1).toNat) p ≤ 15 := hr
      rw [I_1, I_le' (by omega) (by omega) (by omega) (by omega)]
      exact ⟨fun z => G (fun _ => z), fun z => no rfl (fun k => z (by have := k.2.2.2.2; rw [eo, I_tn] at this; exact this (by omega)))⟩
  · rw [h.1.p1_0]
    exact q_armOf0 ⟨fun _ => no rfl (fun k => q k.1), fun q => absurd rfl q⟩
theorem ix40 {t j : Nat} : (40 * I t) + I j = I ((40 * t + j : Nat) : Int) := by rw [L_lit, I_mul, I_add]; congr 1
theorem MR.ps (h : MR σ v) {t i : Nat} (ht : (t : Int) < v.2.2.1 1) (h10 : t < 10) (hi : (i : Int) < v.2.1 t 0 1) (h40 : v.2.1 t 0 1 ≤ 40) : σ.2.1 (σ.2.2 82 19) (I ((40 * t + i : Nat) : Int)).toNatClampNeg = I (v.2.1 t 1 i) := by rw [h.1.d19 (by omega) (by omega), I_tn]; exact ((h.2.2.1.2 t ht).2.2 i hi).1
theorem MR.sy (h : MR σ v) {t i : Nat} (ht : (t : Int) < v.2.2.1 1) (h10 : t < 10) (hi : (i : Int) < v.2.1 t 0 1) (h40 : v.2.1 t 0 1 ≤ 40) : σ.2.1 (σ.2.2 82 20) (I ((40 * t + i : Nat) : Int)).toNatClampNeg = I (v.2.1 t 2 i) := by rw [h.1.d20 (by omega) (by omega), I_tn]; exact ((h.2.2.1.2 t ht).2.2 i hi).2
theorem M_lead {t p s : Int} (h : MR σ v) (hw : WF c v) (ht : Rg t) (hp : Rg p) (hs : Rg s) : Con l mX12_lead [.inr 82, .inl (I t), .inl (I p), .inl (I s)] σ (PI fun q σ' => q = I (aLead v t p s) ∧ MR σ' (nLead v t p s) ∧ MF σ σ') := by
  have hw0 := hw.1
  refine eX12_lead ⟨h.1.ob, fun σ2 e2 => ?_⟩
  obtain ⟨h, f⟩ := h.w e2 (by decide)
  have no : ∀ {q : Int32}, q = -1 → ¬ okLd v t p s → q = I (aLead v t p s) ∧ MR σ2 (nLead v t p s) ∧ MF σ σ2 := by
    intro q e hq
    unfold nLead aLead
    rw [vif_f hq, cif_f hq]
    exact ⟨e, h, f⟩
  refine h.isTape hw ht (fun n e hn h10 => ⟨fun q => absurd q (by decide), fun _ => ⟨h.1.a17 (by omega) (by omega), ?_⟩⟩) (fun q => ⟨fun _ => no rfl (fun k => q k.1), fun q => absurd rfl q⟩)
  subst e
  have hwt := hw.2.2.2.1 n hn
  obtain ⟨a, ea⟩ : ∃ a : Nat, v.2.1 n 0 0 = a := ⟨(v.2.1 n 0 0).toNat, by omega⟩
  obtain ⟨i, hi⟩ : ∃ i : Nat, v.2.1 n 0 1 = i := ⟨(v.2.1 n 0 1).toNat, by omega⟩
  have a2 : a < 2 := by omega
  have hwf := (hw.2.2.1 a a2).1
  rw [ea] at hwt
  rw [I_tn] at hwt
  have eo : (v.2.1 (n : Int).toNat 0 0).toNat = a := by rw [I_tn, ea, I_tn]
  rw [h.ow hn h10, ea]
  refine m_isPose h.1 h.2.1.2 a2 hwf hp (fun b1 => ⟨fun q => absurd q (by decide), fun _ => ?_⟩) (fun b1 => ⟨fun _ => no rfl (fun k => b1 (by have := k.2.1; rw [eo] at this; exact this)), fun q => absurd rfl q⟩)
  refine q_in (b := 0) (c := 9) hs ⟨by omega, by omega⟩ ⟨by omega, by omega⟩ (fun s1 s2 => ⟨fun q => absurd q (by decide), fun _ => ⟨h.1.a18 (by omega) (by omega), ?_⟩⟩) (fun q => ⟨fun _ => no rfl (fun k => q k.2.2.1), fun q => absurd rfl q⟩)
  rw [h.tk hn h10, hi, ix40, h.ow hn h10, ea]
  have G : i < 40 → (0 < v.2.1 n 0 1 → hop (v.1 a) (v.2.1 n 1 (v.2.1 n 0 1 - 1).toNat) p ≤ 1) → GW l mX12_lead 98 [(0, .inr 82), (1, .inl (I n)), (2, .inl (I p)), (3, .inl (I s)), (4, .inl (I ((40 * n + i : Nat) : Int)))] [] σ2 0 0 (PI fun q σ' => q = I (aLead v n p s) ∧ MR σ' (nLead v n p s) ∧ MF σ σ') := by
    intro lt hh
    refine gX12_lead_98 ⟨h.1.ob, h.1.a19 (by omega) (by omega), fun σ3 e3 => ?_⟩
    rw [h.1.k19, I_cln (by omega)] at e3
    have M3 : Mp σ3 := ⟨by rw [e3]; exact h.1.1, by rw [e3]; exact h.1.2⟩
    refine ⟨M3.a20 (by omega) (by omega), fun σ5 e5 => ?_⟩
    rw [M3.k20, I_cln (by omega)] at e5
    have M5 : Mp σ5 := ⟨by rw [e5]; exact M3.1, by rw [e5]; exact M3.2⟩
    refine ⟨M5.a18 (by omega) (by omega), fun σ7 e7 => ?_⟩
    have t5 : σ5.2.1 97 n = I i := by rw [e5, w1_r (by omega), e3, w1_r (by omega), (h.2.2.1.2 n hn).2.1, hi]
    rw [M5.k18, I_cln (by omega), t5, I_1, I_add] at e7
    have M7 : Mp σ7 := ⟨by rw [e7]; exact M5.1, by rw [e7]; exact M5.2⟩
    refine ⟨M7.a18 (by omega) (by omega), ?_⟩
    have ok : okLd v n p s := ⟨⟨by omega, hn⟩, by rw [eo]; exact b1, ⟨s1, s2⟩, by rw [I_tn]; omega, by rw [eo, I_tn]; exact hh⟩
    unfold nLead aLead
    rw [vif_t ok, cif_t ok, I_tn, M7.k18, I_cln (by omega)]
    have key := h.tapesOnly (σ' := σ7) (v' := dLd v n p s) (by rw [e7, e5, e3]; rfl) (by rw [e7, e5, e3]; rfl) (fun r x y => by rw [e7, w1_r (by omega), e5, w1_r (by omega), e3, w1_r (by omega)]) (fun k hk => by rw [e7, w1_r (by omega), e5, w1_r (by omega), e3, w1_r (by omega)]) ?_ rfl (fun _ _ => rfl) rfl
    · exact ⟨by rw [e7, w1_at, hi], key.1, f.tr key.2⟩
    · refine ⟨by rw [e7, w1_r (by omega), e5, w1_r (by omega), e3, w1_r (by omega)]; exact h.2.2.1.1, fun t hlt => ?_⟩
      have h0 := h.2.2.1.2 t hlt
      have hlt' : (t : Int) < v.2.2.1 1 := hlt
      have hwt' := hw.2.2.2.1 t hlt
      by_cases et : t = n
      · subst et
        rw [dLd_t]
        unfold tA
        rw [hi, I_tn]
        refine ⟨?_, ?_, fun j hj => ⟨?_, ?_⟩⟩
        · rw [e7, w1_r (by omega), e5, w1_r (by omega), e3, w1_r (by omega), upA_off (by omega), upA_off (by omega), upA_off (by omega)]; exact h0.1
        · rw [e7, w1_at, upA_at]
        · rw [upA_at] at hj
          rw [upA_off (by omega), upA_off (by omega), e7, w1_r (by omega), e5, w1_r (by omega), e3]
          by_cases ej : j = i
          · subst ej; rw [w1_at, upA_at]
          · rw [w1_k (by omega), upA_off (by omega)]; exact (h0.2.2 j (by omega)).1
        · rw [upA_at] at hj
          rw [upA_off (by omega), e7, w1_r (by omega), e5]
          by_cases ej : j = i
          · subst ej; rw [w1_at, upA_at]
          · rw [w1_k (by omega), upA_off (by omega), upA_off (by omega), e3, w1_r (by omega)]; exact (h0.2.2 j (by omega)).2
      · rw [dLd_o et]
        refine ⟨?_, ?_, fun j hj => ⟨?_, ?_⟩⟩
        · rw [e7, w1_r (by omega), e5, w1_r (by omega), e3, w1_r (by omega)]; exact h0.1
        · rw [e7, w1_k et, e5, w1_r (by omega), e3, w1_r (by omega)]; exact h0.2.1
        · rw [e7, w1_r (by omega), e5, w1_r (by omega), e3, w1_k (by omega)]; exact (h0.2.2 j hj).1
        · rw [e7, w1_r (by omega), e5, w1_k (by omega), e3, w1_r (by omega)]; exact (h0.2.2 j hj).2
  refine ⟨fun q => ⟨fun q2 => ?_, fun q2 => ?_⟩, fun q => ?_⟩
  · rw [L_lit, I_eq ⟨by omega, by omega⟩ ⟨by omega, by omega⟩] at q
    rw [I_0, I_le ⟨by omega, by omega⟩ ⟨by omega, by omega⟩] at q2
    exact G (by omega) (fun z => by omega)
  · rw [L_lit, I_eq ⟨by omega, by omega⟩ ⟨by omega, by omega⟩] at q
    rw [I_0, I_le ⟨by omega, by omega⟩ ⟨by omega, by omega⟩] at q2
    have hl := hwt.2.2.2.2.2 (v.2.1 n 0 1 - 1).toNat (by omega)
    rw [I_1, I_sub, show ((40 * n + i : Nat) : Int) - 1 = ((40 * n + (v.2.1 n 0 1 - 1).toNat : Nat) : Int) by omega]
    refine ⟨h.1.a17 (by omega) (by omega), h.1.a19 (by omega) (by omega), ?_⟩
    rw [h.ps hn h10 (by omega) (by omega)]
    refine m_hop h.1 h.2.1.2 a2 hwf hl.1.1 (by have := hl.1.2.1; omega) b1.1 (by have := b1.2.1; omega) ?_
    have hr2 : 0 ≤ hop (v.1 a) (v.2.1 n 1 (v.2.1 n 0 1 - 1).toNat) p ∧ hop (v.1 a) (v.2.1 n 1 (v.2.1 n 0 1 - 1).toNat) p ≤ 15 := hps_rg hwf (v.2.1 n 1 (v.2.1 n 0 1 - 1).toNat) p (v.1 a 0 2).toNat (by have := hwf.1; omega)
    rw [I_le' (by omega) (by omega) (by omega) (by omega)]
    exact ⟨fun z => G (by omega) (fun _ => z), fun z => no rfl (fun k => z (by have := k.2.2.2.2; rw [eo, I_tn] at this; exact this (by omega)))⟩
  · rw [L_lit, I_eq ⟨by omega, by omega⟩ ⟨by omega, by omega⟩] at q
    exact no rfl (fun k => by have := k.2.2.2.1; rw [I_tn] at this; omega)
end P6
