/-! follow of the reference -/
section FWM
variable {l : Launch} {σ : Sg} {v : Vt} {c : Nat}
theorem MR.bs (h : MR σ v) : MBs σ v := ⟨h.1, h.2.1.2, h.2.2.1⟩
theorem m_isError {K : Int32 → Sg → Prop} {e : Int} (he : Rg e) (h1 : (0 ≤ e ∧ e ≤ 2000) → K 1 σ) (h0 : ¬ (0 ≤ e ∧ e ≤ 2000) → K 0 σ) : Con l mX12_isError [.inl (I e)] σ (PI K) :=
  eX12_isError (q_in (b := 0) (c := 2000) he ⟨by omega, by omega⟩ ⟨by omega, by omega⟩ (fun a b => ⟨Or.inr rfl, h1 ⟨a, b⟩⟩) (fun a => ⟨Or.inl rfl, h0 a⟩))
theorem MR.fol {σ' : Sg} {t a N : Nat} {d e : Int} (h : MR σ v) (hN : v.2.2.1 1 = N) (hn : σ'.1 = σ.1) (h2 : σ'.2.2 = σ.2.2) (E : ∀ r, r ≠ 82 → ¬ (96 ≤ r ∧ r ≤ 99) → ¬ (105 ≤ r ∧ r ≤ 107) → σ'.2.1 r = σ.2.1 r) (Ek : ∀ k, k ≠ 16 → k ≠ 40 → k ≠ 41 → k ≠ 42 → σ'.2.1 82 k = σ.2.1 82 k) (s40 : σ'.2.1 82 40 = I (-1)) (s41 : σ'.2.1 82 41 = I (fwW v t a d e)) (s16 : σ'.2.1 82 16 = I ((N : Int) + 1)) (hT : ∀ s : Nat, s < N + 1 → σ'.2.1 96 s = I ((dFw v t a d e).2.1 s 0 0) ∧ σ'.2.1 97 s = I ((dFw v t a d e).2.1 s 0 1) ∧ ∀ i : Nat, (i : Int) < (dFw v t a d e).2.1 s 0 1 → σ'.2.1 98 (40 * s + i) = I ((dFw v t a d e).2.1 s 1 i) ∧ σ'.2.1 99 (40 * s + i) = I ((dFw v t a d e).2.1 s 2 i)) : MR σ' (dFw v t a d e) ∧ MF σ σ' := by
  have k1 : (dFw v t a d e).2.2.1 1 = (N : Int) + 1 := by show v.2.2.1 1 + 1 = _; rw [hN]
  refine ⟨h.mk2 hn h2 ⟨?_, ?_⟩ ⟨by rw [s16, k1], fun s hs => hT s (by rw [k1] at hs; omega)⟩ ?_ ?_, hn, fun r hr => ⟨E r (by omega) (by omega) (by omega), by rw [h2]⟩⟩
  · rw [Ek 4 (by omega) (by omega) (by omega) (by omega)]; exact h.2.1.1
  · exact h.2.1.2.eq (fun r x y => E r (by omega) (by omega) (by omega))
  · exact h.2.2.2.1.eq (Ek 2 (by omega) (by omega) (by omega) (by omega)) (E 83 (by omega) (by omega) (by omega)) (Ek 29 (by omega) (by omega) (by omega) (by omega)) (Ek 30 (by omega) (by omega) (by omega) (by omega)) rfl rfl rfl rfl
  · have p := h.2.2.2.2
    refine ⟨fun s hs => by rw [E 104 (by omega) (by omega) (by omega)]; exact p.1 s hs, by rw [Ek 39 (by omega) (by omega) (by omega) (by omega)]; exact p.2.1, s40, s41, by rw [Ek 48 (by omega) (by omega) (by omega) (by omega)]; exact p.2.2.2.2.1, fun k hk => by rw [E 109 (by omega) (by omega) (by omega)]; exact p.2.2.2.2.2 k hk⟩
theorem MR.stp {σ' : Sg} {z : Int} (h : MR σ v) (w : Ws [40, 42] [105, 106, 107] σ σ') (hz : σ'.2.1 82 40 = I z) : MR σ' (setS v 6 z) ∧ MF σ σ' := by
  have E : ∀ r, r ≠ 82 → ¬ (105 ≤ r ∧ r ≤ 107) → σ'.2.1 r = σ.2.1 r := fun r a b => w.2.2.1 r a (by simp only [List.mem_cons, List.not_mem_nil, or_false, not_or]; omega)
  have Ek : ∀ k, k ≠ 40 → k ≠ 42 → σ'.2.1 82 k = σ.2.1 82 k := fun k a b => w.2.2.2 k (by simp only [List.mem_cons, List.not_mem_nil, or_false, not_or]; exact ⟨a, b⟩)
  have K : ∀ k, k ≠ 6 → (setS v 6 z).2.2.1 k = v.2.2.1 k := fun k hk => setS_o hk
  refine ⟨h.mk2 w.1 w.2.1 ⟨?_, ?_⟩ ?_ ?_ ?_, w.1, fun r hr => ⟨E r (by omega) (by omega), by rw [w.2.1]⟩⟩
  · rw [Ek 4 (by omega) (by omega), K 0 (by omega)]; exact h.2.1.1
  · exact h.2.1.2.eq (fun r x y => E r (by omega) (by omega))
  · exact h.2.2.1.eq (Ek 16 (by omega) (by omega)) (fun r x y => E r (by omega) (by omega)) rfl (K 1 (by omega))
  · exact h.2.2.2.1.eq (Ek 2 (by omega) (by omega)) (E 83 (by omega) (by omega)) (Ek 29 (by omega) (by omega)) (Ek 30 (by omega) (by omega)) (K 2 (by omega)) (K 3 (by omega)) (K 4 (by omega)) rfl
  · have p := h.2.2.2.2
    refine ⟨fun s hs => by rw [E 104 (by omega) (by omega)]; exact p.1 s hs, by rw [Ek 39 (by omega) (by omega), K 5 (by omega)]; exact p.2.1, by rw [hz, setS_k], by rw [Ek 41 (by omega) (by omega), K 7 (by omega)]; exact p.2.2.2.1, by rw [Ek 48 (by omega) (by omega), K 8 (by omega)]; exact p.2.2.2.2.1, fun k hk => ?_⟩
    rw [K 8 (by omega)] at hk
    rw [E 109 (by omega) (by omega)]; exact p.2.2.2.2.2 k hk
theorem M_follow {t a d e : Int} (h : MR σ v) (hw : WF c v) (ht : Rg t) (ha : Rg a) (hd : Rg d) (he : Rg e) : Con l mX12_follow [.inr 82, .inl (I t), .inl (I a), .inl (I d), .inl (I e)] σ (PI fun q σ' => q = I (aFollow v t a d e) ∧ MR σ' (nFollow v t a d e) ∧ MF σ σ') := by
  have w0 := hw.1
  refine eX12_follow ⟨h.1.ob, fun σ2 e2 => ?_⟩
  obtain ⟨h, f⟩ := h.w e2 (by decide)
  have no : ∀ {q : Int32}, q = -1 → ¬ okFw v t a d e → q = I (aFollow v t a d e) ∧ MR σ2 (nFollow v t a d e) ∧ MF σ σ2 := by
    intro q e1 hq
    unfold nFollow aFollow
    rw [vif_f hq, cif_f hq]
    exact ⟨e1, h, f⟩
  refine h.isTape hw ht (fun tn et htn t10 => ⟨fun z => absurd z (by decide), fun _ => ?_⟩) (fun nt => ⟨fun _ => no rfl (fun k => nt k.1.1), fun z => absurd rfl z⟩)
  subst et
  have wt := hw.2.2.2.1 tn htn
  refine ⟨h.1.a18 (by omega) (by omega), ?_⟩
  rw [h.tk htn t10, I_0, I_eq' (by omega) (by omega) (by omega) (by omega)]
  refine ⟨fun z => no rfl (fun k => k.1.2 (by rw [I_tn]; exact z)), fun tz => ?_⟩
  refine h.isArm hw ha (fun an ea han a2 => ⟨fun z => absurd z (by decide), fun _ => ?_⟩) (fun na => ⟨fun _ => no rfl (fun k => na k.2.1.1), fun z => absurd rfl z⟩)
  subst ea
  have hwf := (hw.2.2.1 an a2).1
  have wa := hwf.1
  refine ⟨h.1.a7 (by omega) (by omega), ?_⟩
  rw [h.2.1.2.jn h.1 a2, I_eq' (by omega) (by omega) (by omega) (by omega)]
  refine ⟨fun z => no rfl (fun k => k.2.1.2 (by rw [I_tn]; exact z)), fun jz => ?_⟩
  refine m_isDrift hd (fun d1 => ⟨fun z => absurd z (by decide), fun _ => ?_⟩) (fun d1 => ⟨fun _ => no rfl (fun k => d1 k.2.2.1), fun z => absurd rfl z⟩)
  refine m_isError he (fun e1 => ⟨fun z => absurd z (by decide), fun _ => ?_⟩) (fun e1 => ⟨fun _ => no rfl (fun k => e1 k.2.2.2.1), fun z => absurd rfl z⟩)
  rw [h.2.2.1.1, show (10 : Int32) = I 10 from rfl, I_eq' (by omega) (by omega) (by omega) (by omega)]
  refine ⟨fun nz => ?_, fun z => no rfl (fun k => by have := k.2.2.2.2; omega)⟩
  have ok : okFw v tn an d e := ⟨⟨⟨by omega, htn⟩, by rw [I_tn]; exact tz⟩, ⟨⟨by omega, han⟩, by rw [I_tn]; exact jz⟩, d1, e1, by omega⟩
  unfold nFollow aFollow
  rw [vif_t ok, cif_t ok, I_tn, I_tn]
  obtain ⟨N, hN⟩ : ∃ N : Nat, v.2.2.1 1 = N := ⟨(v.2.2.1 1).toNat, by omega⟩
  have en : v.2.1 tn 0 1 = (fwN v tn : Nat) := by unfold fwN; omega
  have hT : TpF v tn (v.2.1 tn 0 0).toNat (fwN v tn) := ⟨htn, t10, by omega, by omega, (hw.2.2.1 _ (by omega)).1, en, by omega, fun i hi => (wt.2.2.2.2.2 i (by omega)).1⟩
  refine m_follows (X := fwX v tn d) (Y := fwY v tn) h.bs hT a2 hwf (by omega) d1 e1 rfl rfl (fun hf σ3 w3 h42 hrow => ⟨fun _ σ4 e4 σ5 e5 => ?_, fun z => absurd z (by decide)⟩) (fun nf σ3 w3 h40 => ⟨fun z => absurd rfl z, fun _ => ?_⟩)
  · have hf' : fokV v tn an d e := hf
    rw [vif_t hf', cif_t hf']
    rw [show σ4.2.1 82 42 = I (fwW v tn an d e) by rw [e4, w1_k (by omega)]; exact h42] at e5
    have w5 : Ws [40, 41, 42] [105, 106, 107] σ2 σ5 := ((w3.up (by decide) (by decide)).tr (Ws.w e4 (by decide))).tr (Ws.w e5 (by decide))
    have M5 := w5.M h.1
    have k16 : σ5.2.1 82 16 = I (N : Int) := by rw [w5.2.2.2 16 (by decide), h.2.2.1.1, hN]
    rw [k16]
    refine ⟨M5.a17 (by omega) (by omega), fun σ6 e6 => ?_⟩
    rw [M5.k17, I_cln (by omega)] at e6
    have w6 : Ws [40, 41, 42] [96, 97, 98, 99, 105, 106, 107] σ2 σ6 := (w5.up (by decide) (by decide)).tr (Ws.c e6 (by decide) (by omega))
    have M6 := w6.M h.1
    have k6 : σ6.2.1 82 16 = I (N : Int) := by rw [w6.2.2.2 16 (by decide), h.2.2.1.1, hN]
    rw [k6]
    refine ⟨M6.a18 (by omega) (by omega), M6.a18 (by omega) (by omega), fun σ7 e7 => ?_⟩
    have t6 : σ6.2.1 97 tn = I (fwN v tn : Nat) := by
      rw [e6, w1_r (by omega), w5.2.2.1 97 (by omega) (by decide), (h.2.2.1.2 tn htn).2.1, en]
    rw [M6.d18 (by omega) (by omega), I_tn, t6, M6.k18, I_cln (by omega)] at e7
    have w7 : Ws [40, 41, 42] [96, 97, 98, 99, 105, 106, 107] σ2 σ7 := w6.tr (Ws.c e7 (by decide) (by omega))
    have r7 : ∀ i, i < fwN v tn → σ7.2.1 107 i = I (fwR v tn an d e i : Nat) := fun i hi => by
      rw [e7, w1_r (by omega), e6, w1_r (by omega), e5, w1_r (by omega), e4, w1_r (by omega)]; exact hrow i hi
    have o98 : σ7.2.1 98 = σ2.2.1 98 := by rw [e7, w1_r (by omega), e6, w1_r (by omega), w5.2.2.1 98 (by omega) (by decide)]
    have o99 : σ7.2.1 99 = σ2.2.1 99 := by rw [e7, w1_r (by omega), e6, w1_r (by omega), w5.2.2.1 99 (by omega) (by decide)]
    have L : ∀ i, i ≤ fwN v tn → ∀ σ8, Ws [] [98, 99] σ7 σ8 → (∀ x, x < 40 * N → σ8.2.1 98 x = σ2.2.1 98 x ∧ σ8.2.1 99 x = σ2.2.1 99 x) → (∀ x, x < i → σ8.2.1 98 (40 * N + x) = I (fwR v tn an d e x : Nat) ∧ σ8.2.1 99 (40 * N + x) = I (v.2.1 tn 2 x)) → GW l mX12_follow 121 [(0, .inr 82), (1, .inl (I (tn : Nat))), (2, .inl (I (an : Nat))), (3, .inl (I d)), (4, .inl (I e)), (5, .inl (I (i : Nat)))] [] σ8 0 0 (PI fun q σ' => q = I (v.2.2.1 1) ∧ MR σ' (dFw v tn an d e) ∧ MF σ σ') := by
      refine lp ?_ ?_
      · intro σ8 w8 O8 N8
        have w8' : Ws [40, 41, 42] [96, 97, 98, 99, 105, 106, 107] σ2 σ8 := w7.tr (w8.up (by decide) (by decide))
        have M8 := w8'.M h.1
        have k8 : σ8.2.1 82 16 = I (N : Int) := by rw [w8'.2.2.2 16 (by decide), h.2.2.1.1, hN]
        have t8 : σ8.2.1 97 = σ7.2.1 97 := w8.2.2.1 97 (by omega) (by decide)
        have a8 : σ8.2.1 96 = σ7.2.1 96 := w8.2.2.1 96 (by omega) (by decide)
        have tr : σ8.2.1 (σ8.2.2 82 18) (I (tn : Int)).toNatClampNeg = I (fwN v tn : Nat) := by
          rw [M8.d18 (by omega) (by omega), I_tn, t8, e7, w1_k (by omega)]; exact t6
        refine gX12_follow_121 ⟨M8.ob, M8.a18 (by omega) (by omega), fun _ σ9 e9 => ?_, fun z => absurd ?_ z⟩
        · rw [k8, I_1, I_add] at e9
          refine ⟨by rw [e9, w1_at, I_1, I_sub, hN]; congr 1; omega, ?_⟩
          have key := h.fol (σ' := σ9) (t := tn) (a := an) (d := d) (e := e) hN (by rw [e9]; exact w8'.1) (by rw [e9]; exact w8'.2.1) (fun r x y z => by rw [e9, w1_r x]; exact w8'.2.2.1 r x (by simp only [List.mem_cons, List.not_mem_nil, or_false, not_or]; omega)) (fun k x1 x2 x3 x4 => by rw [e9, w1_k x1]; exact w8'.2.2.2 k (by simp only [List.mem_cons, List.not_mem_nil, or_false, not_or]; omega)) (by rw [e9, w1_k (by omega), w8.2.2.2 40 (by decide), e7, w1_r (by omega), e6, w1_r (by omega), e5, w1_k (by omega), e4, w1_at]; rfl) (by rw [e9, w1_k (by omega), w8.2.2.2 41 (by decide), e7, w1_r (by omega), e6, w1_r (by omega), e5, w1_at]) (by rw [e9, w1_at]) (fun s hs => ?_)
          · exact ⟨key.1, f.tr key.2⟩
          · rw [e9, w1_r (by omega), w1_r (by omega), w1_r (by omega), w1_r (by omega), a8, t8]
            by_cases z : s = N
            · have es : (dFw v tn an d e).2.1 s = fwT v tn an d e := by show (if (s : Int) = v.2.2.1 1 then _ else _) = _; rw [if_pos (by omega)]
              rw [es, z]
              refine ⟨?_, ?_, fun i hi => ?_⟩
              · rw [e7, w1_r (by omega), e6, w1_at]; rfl
              · rw [e7, w1_at, ← en]; rfl
              · have hi : (i : Int) < v.2.1 tn 0 1 := hi
                exact N8 i (by omega)
            · have es : (dFw v tn an d e).2.1 s = v.2.1 s := by show (if (s : Int) = v.2.2.1 1 then _ else _) = _; rw [if_neg (by omega)]
              rw [es]
              have old := h.2.2.1.2 s (by omega)
              have ws := hw.2.2.2.1 s (by omega)
              refine ⟨?_, ?_, fun i hi => ?_⟩
              · rw [e7, w1_r (by omega), e6, w1_k z, w5.2.2.1 96 (by omega) (by decide)]; exact old.1
              · rw [e7, w1_k z, e6, w1_r (by omega), w5.2.2.1 97 (by omega) (by decide)]; exact old.2.1
              · rw [(O8 (40 * s + i) (by omega)).1, (O8 (40 * s + i) (by omega)).2]; exact old.2.2 i hi
        · rw [tr]; exact (I_le ⟨by omega, by omega⟩ ⟨by omega, by omega⟩).mpr (by omega)
      · intro i hi ih σ8 w8 O8 N8
        have w8' : Ws [40, 41, 42] [96, 97, 98, 99, 105, 106, 107] σ2 σ8 := w7.tr (w8.up (by decide) (by decide))
        have M8 := w8'.M h.1
        have k8 : σ8.2.1 82 16 = I (N : Int) := by rw [w8'.2.2.2 16 (by decide), h.2.2.1.1, hN]
        have t8 : σ8.2.1 97 = σ7.2.1 97 := w8.2.2.1 97 (by omega) (by decide)
        have tr : σ8.2.1 (σ8.2.2 82 18) (I (tn : Int)).toNatClampNeg = I (fwN v tn : Nat) := by
          rw [M8.d18 (by omega) (by omega), I_tn, t8, e7, w1_k (by omega)]; exact t6
        refine gX12_follow_121 ⟨M8.ob, M8.a18 (by omega) (by omega), fun z => ?_, fun _ => ?_⟩
        · rw [tr, I_le ⟨by omega, by omega⟩ ⟨by omega, by omega⟩] at z; omega
        rw [k8, ix40]
        refine ⟨M8.a45 (by omega) (by omega), M8.a19 (by omega) (by omega), fun σ9 e9 => ?_⟩
        rw [M8.d45 (by omega) (by omega), I_tn, w8.2.2.1 107 (by omega) (by decide), r7 i hi, M8.k19, I_cln (by omega)] at e9
        have w9 : Ws [] [98, 99] σ7 σ9 := w8.tr (Ws.c e9 (by decide) (by omega))
        have w9' : Ws [40, 41, 42] [96, 97, 98, 99, 105, 106, 107] σ2 σ9 := w7.tr (w9.up (by decide) (by decide))
        have M9 := w9'.M h.1
        have k9 : σ9.2.1 82 16 = I (N : Int) := by rw [w9'.2.2.2 16 (by decide), h.2.2.1.1, hN]
        rw [k9, ix40, ix40]
        refine ⟨M9.a20 (by omega) (by omega), M9.a20 (by omega) (by omega), fun σ10 e10 => ?_⟩
        have sp : σ9.2.1 99 (40 * tn + i) = I (v.2.1 tn 2 i) := by
          rw [e9, w1_r (by omega), (O8 (40 * tn + i) (by omega)).2]
          exact ((h.2.2.1.2 tn htn).2.2 i (by omega)).2
        rw [M9.d20 (by omega) (by omega), I_tn, sp, M9.k20, I_cln (by omega)] at e10
        rw [I_1, I_add]
        refine ih σ10 (w9.tr (Ws.c e10 (by decide) (by omega))) (fun x hx => ?_) (fun x hx => ?_)
        · rw [e10, w1_r (by omega), w1_k (by omega), e9, w1_k (by omega), w1_r (by omega)]; exact O8 x hx
        · rw [e10, w1_r (by omega), e9]
          by_cases z : x = i
          · rw [z, w1_at, w1_at]; exact ⟨rfl, rfl⟩
          · rw [w1_k (by omega), w1_k (by omega), w1_r (by omega)]; exact N8 x (by omega)
    exact L 0 (by omega) σ7 (Ws.rf _ _ _) (fun x _ => by rw [o98, o99]; exact ⟨rfl, rfl⟩) (fun x hx => absurd hx (by omega))
  · have nf' : ¬ fokV v tn an d e := nf
    rw [vif_f nf', cif_f nf']
    obtain ⟨h3, f3⟩ := h.stp w3 h40
    exact ⟨rfl, h3, f.tr f3⟩
/-- what follow leaves is well -/
theorem W_follow {t a d e : Int} (hw : WF c v) : WF c (nFollow v t a d e) := by
  have w0 := hw.1
  have w1' := hw.2.1
  unfold nFollow
  by_cases ok : okFw v t a d e
  · rw [vif_t ok]
    obtain ⟨⟨o1, o1'⟩, ⟨o2, o2'⟩, o3, o4, o5⟩ := ok
    obtain ⟨tn, et⟩ : ∃ n : Nat, t = n := ⟨t.toNat, by omega⟩
    obtain ⟨an, ea⟩ : ∃ n : Nat, a = n := ⟨a.toNat, by omega⟩
    subst et
    subst ea
    rw [I_tn] at o1' o2' ⊢
    rw [I_tn]
    have wt := hw.2.2.2.1 tn o1.2
    have hwf := (hw.2.2.1 an (by omega)).1
    have en : v.2.1 tn 0 1 = (fwN v tn : Nat) := by unfold fwN; omega
    by_cases hf : fokV v tn an d e
    · rw [vif_t hf]
      have sw : 0 ≤ fwW v tn an d e ∧ fwW v tn an d e < 1000000 := ⟨mnF_nn (fun q hq _ => ((WB_ok hwf (by omega) 0) q hq).1), hf⟩
      refine ⟨?_, ?_, hw.2.2.1, fun s hs => ?_, hw.2.2.2.2.1, hw.2.2.2.2.2⟩
      · refine ⟨w0.1, w0.2.1, ?_, ?_, w0.2.2.2.2.1, w0.2.2.2.2.2.1, w0.2.2.2.2.2.2.1, w0.2.2.2.2.2.2.2⟩
        · show 0 ≤ v.2.2.1 1 + 1; omega
        · show v.2.2.1 1 + 1 ≤ 10; omega
      · refine ⟨w1'.1, w1'.2.1, w1'.2.2.1, w1'.2.2.2.1, ?_, ?_, ?_, ?_, w1'.2.2.2.2.2.2.2.2.1, w1'.2.2.2.2.2.2.2.2.2⟩
        · show (-1 : Int) ≤ -1; omega
        · show (-1 : Int) ≤ 40; omega
        · show (-1 : Int) ≤ fwW v tn an d e; omega
        · show fwW v tn an d e ≤ 1000000; omega
      · have hs : (s : Int) < v.2.2.1 1 + 1 := hs
        by_cases z : (s : Int) = v.2.2.1 1
        · have es : (dFw v tn an d e).2.1 s = fwT v tn an d e := by show (if (s : Int) = v.2.2.1 1 then _ else _) = _; rw [if_pos z]
          rw [es]
          have e00 : fwT v tn an d e 0 0 = (an : Int) := rfl
          have e01 : fwT v tn an d e 0 1 = v.2.1 tn 0 1 := rfl
          rw [e00, e01, I_tn]
          refine ⟨by omega, o2.2, ?_, wt.2.2.2.1, wt.2.2.2.2.1, fun i hi => ⟨?_, ?_⟩⟩
          · show 1 ≤ v.1 an 0 2
            have := hwf.1; omega
          · have fr := frw_ok hf i (by omega)
            exact fr.2.1.1
          · exact (wt.2.2.2.2.2 i hi).2
        · have es : (dFw v tn an d e).2.1 s = v.2.1 s := by show (if (s : Int) = v.2.2.1 1 then _ else _) = _; rw [if_neg z]
          rw [es]
          exact hw.2.2.2.1 s (by omega)
    · rw [vif_f hf]
      have st : fwS v tn an d e < fwN v tn := by
        obtain ⟨x, hx⟩ := stop_ex hwf (by omega) (by omega) hf
        have : fwS v tn an d e = x := stpF_eq hx
        have := hx.1
        omega
      have K : ∀ k, k ≠ 6 → (setS v 6 (fwS v tn an d e : Nat)).2.2.1 k = v.2.2.1 k := fun k hk => setS_o hk
      have K6 : (setS v 6 (fwS v tn an d e : Nat)).2.2.1 6 = (fwS v tn an d e : Nat) := setS_k _ _ _
      refine ⟨?_, ?_, ?_, ?_, ?_, hw.2.2.2.2.2⟩
      · rw [K 0 (by omega), K 1 (by omega), K 2 (by omega), K 5 (by omega)]; exact w0
      · rw [K 3 (by omega), K 4 (by omega), K 7 (by omega), K 8 (by omega), K6]; omega
      · rw [K 0 (by omega)]; exact hw.2.2.1
      · rw [K 0 (by omega), K 1 (by omega)]; exact hw.2.2.2.1
      · rw [K 2 (by omega)]; exact hw.2.2.2.2.1
  · rw [vif_f ok]; exact hw
end FWM
