/-! follow and share: the follower is made only when it is used -/
section FSN
variable {l : Launch} {σ : Sg} {v : Vt} {c : Nat}
theorem C_followE {t a d e : Int} (h : CR σ v) (hw : WF c v) (nok : ¬ okFw v t a d e) (ht : Rg t) (ha : Rg a) (hd : Rg d) (he : Rg e) : Con l mX11_follow [.inr 1, .inl (I t), .inl (I a), .inl (I d), .inl (I e)] σ (PI fun q σ' => q = I (aFollow v t a d e) ∧ CR σ' (nFollow v t a d e) ∧ CF σ σ') := by
  have w0 := hw.1
  have no : ∀ {q : Int32}, q = -1 → ¬ okFw v t a d e → q = I (aFollow v t a d e) ∧ CR σ (nFollow v t a d e) ∧ CF σ σ := by
    intro q e1 hq
    unfold nFollow aFollow
    rw [vif_f hq, cif_f hq]
    exact ⟨e1, h, CF.rf _⟩
  refine eX11_follow ⟨h.1.o1, by rw [h.1.p1_0]; exact h.1.o2, ?_⟩
  rw [h.1.p1_0]
  refine h.tp hw ht (fun tn et htn t10 => ⟨by rw [h.1.p1_0]; exact h.1.o2, ?_⟩) (fun nt => ⟨by rw [h.1.p1_0]; exact h.1.o2, ?_⟩)
  · subst et
    rw [h.1.p1_0]
    refine h.ao hw htn (fun o eo o2 oj => ⟨by rw [h.1.p1_0]; exact h.1.o2, ?_⟩)
    rw [h.1.p1_0]
    have wt := hw.2.2.2.1 tn htn
    refine h.ar hw ha (fun an ea han a2 => ⟨fun z => absurd z (by omega), fun _ => ⟨fun z => absurd z (by omega), fun _ => ⟨fun z => absurd z (by omega), fun _ => ⟨(h.P t10).ob, ?_⟩⟩⟩⟩) (fun na => ⟨fun z => absurd z (by omega), fun _ => ⟨fun z => absurd z (by omega), fun _ => ⟨fun _ => no rfl (fun k => na k.2.1.1), fun z => absurd rfl z⟩⟩⟩)
    subst ea
    have hwf := (hw.2.2.1 an a2).1
    have hwo := (hw.2.2.1 o o2).1
    have wa := hwf.1
    rw [(h.D htn).2.1, I_0, I_eq' (by omega) (by omega) (by omega) (by omega), (h.A a2).jn, I_eq' (by omega) (by omega) (by omega) (by omega)]
    refine ⟨fun z => no rfl (fun k => k.1.2 (by rw [I_tn]; exact z)), fun tz => ⟨(h.A a2).ob, fun jz => ?_, fun z => no rfl (fun k => k.2.1.2 (by rw [I_tn]; exact z))⟩⟩
    refine q_isDrift hd (fun d1 => ⟨fun z => absurd z (by decide), fun _ => ?_⟩) (fun d1 => ⟨fun _ => no rfl (fun k => d1 k.2.2.1), fun z => absurd rfl z⟩)
    refine eX11_isError (q_within (b := 0) (c := 2000) he ⟨by omega, by omega⟩ ⟨by omega, by omega⟩ (fun e1 e2 => ⟨Or.inr rfl, fun z => absurd z (by decide), fun _ => ⟨by rw [h.1.p1_0]; exact h.1.o2, ?_⟩⟩) (fun e1 => ⟨Or.inl rfl, fun _ => no rfl (fun k => e1 k.2.2.2.1), fun z => absurd rfl z⟩))
    rw [h.1.p1_0]
    refine eX7_hasRoom ⟨h.1.o2, ?_⟩
    rw [h.2.2.2.1.1, h.2.2.2.1.2.1, I_add, show (10 : Int32) = I 10 from rfl, I_le' (by omega) (by omega) (by omega) (by omega)]
    refine ⟨fun z => ⟨fun y => absurd rfl y, fun _ => no rfl (fun k => by have := k.2.2.2.2; omega)⟩, fun z => ⟨fun _ => ?_, fun y => absurd y (by decide)⟩⟩
    have ok : okFw v tn an d e := ⟨⟨⟨by omega, htn⟩, by rw [I_tn]; exact tz⟩, ⟨⟨by omega, han⟩, by rw [I_tn]; exact jz⟩, d1, ⟨e1, e2⟩, by omega⟩
    exact absurd ok nok
  · rw [h.1.p1_0]
    refine q_armOf0 ⟨by rw [h.1.p1_0]; exact h.1.o2, ?_⟩
    rw [h.1.p1_0]
    exact h.ar hw ha (fun _ _ _ _ => ⟨fun _ => no rfl (fun k => nt k.1.1), fun z => absurd rfl z⟩) (fun _ => ⟨fun _ => no rfl (fun k => nt k.1.1), fun z => absurd rfl z⟩)
theorem C_followN2 {t a d e : Int} (h : CR σ v) (hw : WF c v) (hz : σ.2.2 1 8 = 0) (okk : okFw v t a d e) (ht : Rg t) (ha : Rg a) (hd : Rg d) (he : Rg e) : Con l mX11_followN [.inr 1, .inl (I t), .inl (I a), .inl (I d), .inl (I e)] σ (PI fun q σ' => q = I (aFollow v t a d e) ∧ CR σ' (nFollow v t a d e) ∧ CF σ σ' ∧ 120 ≤ σ'.1) := by
  have w0 := hw.1
  have no : ∀ {P : Prop} {q : Int32}, q = -1 → ¬ okFw v t a d e → P := fun _ hq => absurd okk hq
  refine eX11_followN ⟨h.1.o1, by rw [h.1.p1_0]; exact h.1.o2, ?_⟩
  rw [h.1.p1_0]
  refine h.tp hw ht (fun tn et htn t10 => ⟨by rw [h.1.p1_0]; exact h.1.o2, ?_⟩) (fun nt => ⟨by rw [h.1.p1_0]; exact h.1.o2, ?_⟩)
  · subst et
    rw [h.1.p1_0]
    refine h.ao hw htn (fun o eo o2 oj => ⟨by rw [h.1.p1_0]; exact h.1.o2, ?_⟩)
    rw [h.1.p1_0]
    have wt := hw.2.2.2.1 tn htn
    refine h.ar hw ha (fun an ea han a2 => ⟨fun z => absurd z (by omega), fun _ => ⟨fun z => absurd z (by omega), fun _ => ⟨fun z => absurd z (by omega), fun _ => ⟨(h.P t10).ob, ?_⟩⟩⟩⟩) (fun na => ⟨fun z => absurd z (by omega), fun _ => ⟨fun z => absurd z (by omega), fun _ => ⟨fun _ => no rfl (fun k => na k.2.1.1), fun z => absurd rfl z⟩⟩⟩)
    subst ea
    have hwf := (hw.2.2.1 an a2).1
    have hwo := (hw.2.2.1 o o2).1
    have wa := hwf.1
    rw [(h.D htn).2.1, I_0, I_eq' (by omega) (by omega) (by omega) (by omega), (h.A a2).jn, I_eq' (by omega) (by omega) (by omega) (by omega)]
    refine ⟨fun z => no rfl (fun k => k.1.2 (by rw [I_tn]; exact z)), fun tz => ⟨(h.A a2).ob, fun jz => ?_, fun z => no rfl (fun k => k.2.1.2 (by rw [I_tn]; exact z))⟩⟩
    refine q_isDrift hd (fun d1 => ⟨fun z => absurd z (by decide), fun _ => ?_⟩) (fun d1 => ⟨fun _ => no rfl (fun k => d1 k.2.2.1), fun z => absurd rfl z⟩)
    refine eX11_isError (q_within (b := 0) (c := 2000) he ⟨by omega, by omega⟩ ⟨by omega, by omega⟩ (fun e1 e2 => ⟨Or.inr rfl, fun z => absurd z (by decide), fun _ => ⟨by rw [h.1.p1_0]; exact h.1.o2, ?_⟩⟩) (fun e1 => ⟨Or.inl rfl, fun _ => no rfl (fun k => e1 k.2.2.2.1), fun z => absurd rfl z⟩))
    rw [h.1.p1_0]
    refine eX7_hasRoom ⟨h.1.o2, ?_⟩
    rw [h.2.2.2.1.1, h.2.2.2.1.2.1, I_add, show (10 : Int32) = I 10 from rfl, I_le' (by omega) (by omega) (by omega) (by omega)]
    refine ⟨fun z => ⟨fun y => absurd rfl y, fun _ => no rfl (fun k => by have := k.2.2.2.2; omega)⟩, fun z => ⟨fun _ => ?_, fun y => absurd y (by decide)⟩⟩
    have ok : okFw v tn an d e := ⟨⟨⟨by omega, htn⟩, by rw [I_tn]; exact tz⟩, ⟨⟨by omega, han⟩, by rw [I_tn]; exact jz⟩, d1, ⟨e1, e2⟩, by omega⟩
    unfold nFollow aFollow
    rw [vif_t ok, cif_t ok, I_tn, I_tn]
    refine q_readyN h hw hz (fun σ1 h' cf' hz' E' => ?_)
    have hF := h'.fp hz'
    obtain ⟨N, hN⟩ : ∃ N : Nat, v.2.2.1 1 = N := ⟨(v.2.2.1 1).toNat, by omega⟩
    have en : v.2.1 tn 0 1 = (fwN v tn : Nat) := by unfold fwN; omega
    have eo' : (v.2.1 tn 0 0).toNat = o := by omega
    have eX : wX (v.1 o) (v.2.1 tn) d = fwX v tn d := by unfold fwX; rw [eo']
    have eY : wY (v.1 o) (v.2.1 tn) = fwY v tn := by unfold fwY; rw [eo']
    refine ⟨hF.o120, q_search h'.1 hF a2 (h'.A a2) hwf o2 (h'.A o2) hwo (by omega) (h'.P t10) (h'.D htn) en (by omega) (by omega) (fun i hi => ?_) d1 ⟨e1, e2⟩ (fun hf σ2 f2 h18 hrow => ⟨fun _ σ3 e3 σ4 e4 => ?_, fun z => absurd z (by decide)⟩) (fun nf σ2 f2 h17 => ⟨fun z => absurd rfl z, fun _ σ3 e3 => ?_⟩)⟩
    · have := (wt.2.2.2.2.2 i (by omega)).1
      rw [eo'] at this; exact this
    · rw [eX, eY] at hf h18 hrow
      have hf' : fokV v tn an d e := hf
      rw [vif_t hf', cif_t hf']
      obtain ⟨h2, cf2⟩ := h'.ff hw f2
      have s18 : σ3.2.1 120 18 = I (fwW v tn an d e) := by rw [e3, w1_r (by omega)]; exact h18
      rw [s18] at e4
      have C4 : Cp σ4 := ⟨by rw [e4, e3]; exact h2.1.1, by rw [e4, e3]; exact h2.1.2⟩
      rw [C4.p1_0]
      have E4 : ∀ r, r ≠ 1 → σ4.2.1 r = σ2.2.1 r := fun r hr => by rw [e4, w1_r hr, e3, w1_r hr]
      have R4 : σ4.2.2 = σ2.2.2 := by rw [e4, e3]; rfl
      have N4 : σ4.1 = σ2.1 := by rw [e4, e3]; rfl
      have hP := h2.P (t := N) (by omega)
      have hP4 : TapeP σ4 (15 + 3 * N) := hP.eq (Nat.le_of_eq N4.symm) (by rw [R4])
      refine ⟨C4.o2, eX7_addTape ⟨C4.o2, q_nextTape (n := (N : Int)) C4 (by rw [E4 2 (by omega), h2.2.2.2.1.1, hN]) (by rw [E4 2 (by omega)]; exact h2.2.2.2.1.2.1) (by omega) (by omega) (fun lt => ⟨fun _ => ?_, fun q => absurd q (by omega)⟩) (fun lt => absurd (by omega) lt)⟩⟩
      rw [I_tn]
      refine ⟨hP4.ob, q_begin hP4 (fun σ5 e5 σ6 e6 => ?_)⟩
      have E5 : ∀ r, r ≠ 15 + 3 * N → σ5.2.1 r = σ4.2.1 r := fun r hr => by rw [e5, w1_r hr, w1_r hr]
      have s3 : σ5.2.1 2 3 = I (N : Int) := by rw [E5 2 (by omega), E4 2 (by omega), h2.2.2.2.1.1, hN]
      rw [s3, I_1, I_add] at e6
      have E6 : ∀ r, r ≠ 1 → r ≠ 2 → r ≠ 15 + 3 * N → σ6.2.1 r = σ2.2.1 r := fun r x y z => by rw [e6, w1_r y, E5 r z, E4 r x]
      have R6 : σ6.2.2 = σ2.2.2 := by rw [e6, e5]; exact R4
      have N6 : σ6.1 = σ2.1 := by rw [e6, e5]; exact N4
      have C6 : Cp σ6 := ⟨by rw [N6]; exact h2.1.1, by rw [R6]; exact h2.1.2⟩
      have F6 : Fp σ6 := ⟨by rw [N6]; exact (f2.F hF).1, by rw [R6]; exact (f2.F hF).2⟩
      have k3 : σ6.2.1 2 3 = I ((N : Int) + 1) := by rw [e6, w1_at]
      rw [k3, I_1, I_sub, show (N : Int) + 1 - 1 = (N : Int) by omega, C6.p1_0]
      refine ⟨C6.o2, q_tapeAt (n := (N : Int) + 1) C6 k3 (by omega) (by omega) ⟨by omega, by omega⟩ (fun _ _ => ?_) (fun q => absurd ⟨by omega, by omega⟩ q)⟩
      rw [I_tn]
      have D6 : TapeD σ6 (15 + 3 * N) (tkF an (fun i => (fwR v tn an d e i : Int)) (v.2.1 tn 2) 0) := by
        refine ⟨?_, ?_, fun i hi => ?_⟩
        · rw [e6, w1_r (by omega), e5, w1_k (by omega), w1_at]; rfl
        · rw [e6, w1_r (by omega), e5, w1_at]; rfl
        · have : (i : Int) < 0 := hi; omega
      have P6 : TapeP σ6 (15 + 3 * N) := hP.eq (Nat.le_of_eq N6.symm) (by rw [R6])
      have T6 : TapeD σ6 (15 + 3 * tn) (v.2.1 tn) := (h2.D htn).eq (fun k hk => ⟨E6 _ (by omega) (by omega) (by omega), by rw [R6]⟩)
      have TP6 : TapeP σ6 (15 + 3 * tn) := (h2.P t10).eq (Nat.le_of_eq N6.symm) (by rw [R6])
      have L : ∀ i, i ≤ fwN v tn → ∀ σ7, Onl [15 + 3 * N, 15 + 3 * N + 1, 15 + 3 * N + 2] σ6 σ7 → TapeD σ7 (15 + 3 * N) (tkF an (fun i => (fwR v tn an d e i : Int)) (v.2.1 tn 2) i) → GW l mX11_followN 164 [(0, .inr 1), (1, .inl (I (tn : Nat))), (2, .inl (I (an : Nat))), (3, .inl (I d)), (4, .inl (I e)), (5, .inr (15 + 3 * tn)), (6, .inr (5 + 5 * o)), (7, .inr (5 + 5 * an)), (8, .inr 120), (9, .inl (I (N : Nat))), (10, .inr (15 + 3 * N)), (11, .inl (I (i : Nat)))] [] σ7 16 188578 (PI fun q σ' => q = I (v.2.2.1 1) ∧ CR σ' (dFw v tn an d e) ∧ CF σ σ' ∧ 120 ≤ σ'.1) := by
        refine lp ?_ ?_
        · intro σ7 o7 D7
          have nr := not3 (q := 15 + 3 * tn) (r := 15 + 3 * N) (by omega)
          have T7 := T6.onl o7 nr.1 nr.2.1 nr.2.2
          refine gX11_followN_164b ⟨fun z => absurd z (by omega), fun _ => ⟨(TP6.onl o7).ob, fun _ => ⟨by rw [hN], ?_⟩, fun z => absurd ?_ z⟩⟩
          · have E7 : ∀ r, ¬ (15 + 3 * N ≤ r ∧ r ≤ 15 + 3 * N + 2) → σ7.2.1 r = σ6.2.1 r := fun r hr => o7.2.2 r (by simp only [List.mem_cons, List.not_mem_nil, or_false, not_or]; omega)
            have R7 : σ7.2.2 = σ2.2.2 := by rw [o7.2.1, R6]
            have N7 : σ7.1 = σ2.1 := by rw [o7.1, N6]
            have key := h2.fol (t := tn) (a := an) (d := d) (e := e) hw hN (by omega) N7 R7 (fun r x y z => by rw [E7 r z, E6 r x y (by omega)]) (fun k x y => by rw [E7 1 (by omega), e6, w1_r (by omega), E5 1 (by omega), e4, w1_k y, e3, w1_k x]) (fun k x => by rw [E7 2 (by omega), e6, w1_k x, E5 2 (by omega), E4 2 (by omega)]) (by rw [E7 1 (by omega), e6, w1_r (by omega), E5 1 (by omega), e4, w1_k (by omega), e3, w1_at]; rfl) (by rw [E7 1 (by omega), e6, w1_r (by omega), E5 1 (by omega), e4, w1_at]) (by rw [E7 2 (by omega)]; exact k3) ?_
            · exact ⟨key.1, (cf'.tr cf2).tr key.2, Nat.le_trans (Nat.le_trans (Nat.le_trans (by decide) hF.1) cf2.1) key.2.1⟩
            · obtain ⟨x1, x2, x3⟩ := tkF_ok (an : Int) (fun i => (fwR v tn an d e i : Int)) (v.2.1 tn 2) (fwN v tn)
              refine D7.same (by rw [x1]; rfl) (by rw [x2, ← en]; rfl) (fun i hi => ?_)
              rw [x2] at hi
              rw [(x3 i (by omega)).1, (x3 i (by omega)).2]
              exact ⟨rfl, rfl⟩
          · rw [T7.2.1, en]; exact (I_le ⟨by omega, by omega⟩ ⟨by omega, by omega⟩).mpr (by omega)
        · intro i hi ih σ7 o7 D7
          have nr := not3 (q := 15 + 3 * tn) (r := 15 + 3 * N) (by omega)
          have T7 := T6.onl o7 nr.1 nr.2.1 nr.2.2
          have F7 : Fp σ7 := ⟨by rw [o7.1]; exact F6.1, by rw [o7.2.1]; exact F6.2⟩
          have r7 : σ7.2.1 130 i = I (fwR v tn an d e i : Nat) := by
            rw [o7.2.2 130 (by simp only [List.mem_cons, List.not_mem_nil, or_false, not_or]; omega), E6 130 (by omega) (by omega) (by omega)]; exact hrow i hi
          refine gX11_followN_164b ⟨fun z => absurd z (by omega), fun _ => ⟨(TP6.onl o7).ob, fun z => ?_, fun _ => ⟨F7.o120, ?_⟩⟩⟩
          · rw [T7.2.1, en, I_le ⟨by omega, by omega⟩ ⟨by omega, by omega⟩] at z; omega
          refine eX3_poseAt ?_
          rw [I_0, I_lt' (by omega) (by omega) (by omega) (by omega), show (40 : Int32) = I 40 from rfl, I_le' (by omega) (by omega) (by omega) (by omega)]
          refine ⟨fun z => absurd z (by omega), fun _ => ⟨fun z => absurd z (by omega), fun _ => ⟨F7.o120, F7.a120_9 (by omega) (by omega), ?_⟩⟩⟩
          rw [F7.d120_9 (by omega) (by omega), I_tn, r7]
          refine q_sprayAt (TP6.onl o7) T7 (by omega) (by omega) ⟨by omega, by omega⟩ (fun _ _ => ⟨(P6.onl o7).ob, ?_⟩) (fun q => absurd ⟨by omega, by omega⟩ q)
          rw [I_tn]
          obtain ⟨x1, x2, x3⟩ := tkF_ok (an : Int) (fun i => (fwR v tn an d e i : Int)) (v.2.1 tn 2) i
          refine q_addTick (P6.onl o7) D7 (by omega) (by omega) (fun lt σ8 n8 p8 E8 D8 => ?_) (fun q => absurd (by omega) q)
          rw [I_1, I_add]
          refine ih σ8 (o7.tr ⟨n8, p8, fun q hq => E8 q (fun z => hq ?_)⟩) D8
          simp only [List.mem_cons, List.not_mem_nil, or_false]; omega
      exact L 0 (by omega) σ6 (Onl.rf _ _) D6
    · rw [eX, eY] at nf h17
      have nf' : ¬ fokV v tn an d e := nf
      rw [vif_f nf', cif_f nf']
      obtain ⟨h2, cf2⟩ := h'.ff hw f2
      rw [h17] at e3
      obtain ⟨h3, cf3⟩ := h2.stp hw e3
      exact ⟨rfl, h3, (cf'.tr cf2).tr cf3, Nat.le_trans (Nat.le_trans (Nat.le_trans (by decide) hF.1) cf2.1) cf3.1⟩
  · rw [h.1.p1_0]
    refine q_armOf0 ⟨by rw [h.1.p1_0]; exact h.1.o2, ?_⟩
    rw [h.1.p1_0]
    exact h.ar hw ha (fun _ _ _ _ => ⟨fun _ => no rfl (fun k => nt k.1.1), fun z => absurd rfl z⟩) (fun _ => ⟨fun _ => no rfl (fun k => nt k.1.1), fun z => absurd rfl z⟩)
theorem C_shareE {s e w : Int} (h : CR σ v) (hw : WF c v) (nok : ¬ okSh v s e w) (hs : Rg s) (he : Rg e) (hq : Rg w) : Con l mX11_share [.inr 1, .inl (I s), .inl (I e), .inl (I w)] σ (PI fun q σ' => q = I (aShare v s e w) ∧ CR σ' v ∧ CF σ σ') := by
  have w0 := hw.1
  have no : ∀ {q : Int32}, q = -1 → ¬ okSh v s e w → q = I (aShare v s e w) ∧ CR σ v ∧ CF σ σ := by
    intro q e1 hq
    unfold aShare
    rw [cif_f hq]
    exact ⟨e1, h, CF.rf _⟩
  refine eX11_share (eX11_isError (q_within (b := 0) (c := 2000) he ⟨by omega, by omega⟩ ⟨by omega, by omega⟩ (fun e1 e2 => ⟨Or.inr rfl, fun z => absurd z (by decide), fun _ => ?_⟩) (fun e1 => ⟨Or.inl rfl, fun _ => no rfl (fun k => e1 k.1), fun z => absurd rfl z⟩)))
  refine q_within (b := 0) (c := 1) hq ⟨by omega, by omega⟩ ⟨by omega, by omega⟩ (fun e3 e4 => ⟨fun z => absurd z (by decide), fun _ => ⟨h.1.o1, by rw [h.1.p1_0]; exact h.1.o2, ?_⟩⟩) (fun e3 => ⟨fun _ => no rfl (fun k => e3 k.2.1), fun z => absurd rfl z⟩)
  rw [h.1.p1_0]
  refine q_canShare h hw hs (fun ok => ⟨fun _ => ?_, fun z => absurd z (by decide)⟩) (fun nk => ⟨fun z => absurd rfl z, fun _ => no rfl (fun k => nk k.2.2)⟩)
  rw [h.1.p1_7, h.1.p1_0]
  have okS : okSh v s e w := ⟨⟨e1, e2⟩, ⟨e3, e4⟩, ok⟩
  exact absurd okS nok
theorem C_shareN2 {s e w : Int} (h : CR σ v) (hw : WF c v) (hz : σ.2.2 1 8 = 0) (okk : okSh v s e w) (hs : Rg s) (he : Rg e) (hq : Rg w) : Con l mX11_shareN [.inr 1, .inl (I s), .inl (I e), .inl (I w)] σ (PI fun q σ' => q = I (aShare v s e w) ∧ CR σ' v ∧ CF σ σ' ∧ 120 ≤ σ'.1) := by
  have w0 := hw.1
  have no : ∀ {P : Prop} {q : Int32}, q = -1 → ¬ okSh v s e w → P := fun _ hq => absurd okk hq
  refine eX11_shareN (eX11_isError (q_within (b := 0) (c := 2000) he ⟨by omega, by omega⟩ ⟨by omega, by omega⟩ (fun e1 e2 => ⟨Or.inr rfl, fun z => absurd z (by decide), fun _ => ?_⟩) (fun e1 => ⟨Or.inl rfl, fun _ => no rfl (fun k => e1 k.1), fun z => absurd rfl z⟩)))
  refine q_within (b := 0) (c := 1) hq ⟨by omega, by omega⟩ ⟨by omega, by omega⟩ (fun e3 e4 => ⟨fun z => absurd z (by decide), fun _ => ⟨h.1.o1, by rw [h.1.p1_0]; exact h.1.o2, ?_⟩⟩) (fun e3 => ⟨fun _ => no rfl (fun k => e3 k.2.1), fun z => absurd rfl z⟩)
  rw [h.1.p1_0]
  refine q_canShare h hw hs (fun ok => ⟨fun _ => ?_, fun z => absurd z (by decide)⟩) (fun nk => ⟨fun z => absurd rfl z, fun _ => no rfl (fun k => nk k.2.2)⟩)
  rw [h.1.p1_7, h.1.p1_0]
  have okS : okSh v s e w := ⟨⟨e1, e2⟩, ⟨e3, e4⟩, ok⟩
  unfold aShare
  rw [cif_t okS]
  obtain ⟨o1, _, _, o4, o5, o6, o7⟩ := ok
  obtain ⟨N, hN⟩ : ∃ N : Nat, v.2.2.1 1 = N := ⟨(v.2.2.1 1).toNat, by omega⟩
  obtain ⟨S, eS⟩ : ∃ S : Nat, s = S := ⟨s.toNat, by omega⟩
  subst eS
  rw [I_tn] at o6
  have sN : S < 2 ^ N := by rw [show (v.2.2.1 1).toNat = N by omega] at o5; omega
  refine q_readyN h hw hz (fun σ1 h' cf' hz' _ => ?_)
  refine ⟨h'.1.o74, q_shSearch h' hw hz' o1 hN sN o6 (fun t t1 t2 => o7 t (by omega) (by rw [I_tn]; exact t2)) ⟨e1, e2⟩ (fun σ2 lt bs c2 an b1 b2 => ?_)⟩
  obtain ⟨h2, f2⟩ := h'.cs c2 (by omega)
  have lb := lbS_eq an
  rw [h2.1.p1_7, I_tn, I_0, I_eq' (by omega) (by omega) (by omega) (by omega)]
  refine ⟨fun z => ⟨h2.1.o74, ?_, h2, cf'.tr f2, Nat.le_trans (Nat.le_trans (by decide) (h'.fp hz').1) f2.1⟩, fun z => ⟨h2.1.o74, ?_, h2, cf'.tr f2, Nat.le_trans (Nat.le_trans (by decide) (h'.fp hz').1) f2.1⟩⟩
  · rw [if_neg z, b2, lb.2]
  · rw [if_pos z, b1, lb.1]
end FSN
