/-! the class's Follower, 4: the search -/
theorem w2_r {σ : Sg} {r k x a : Nat} (h : a ≠ r) : (w2 σ r k x).2.2 a = σ.2.2 a := by funext b; show (if a = r ∧ b = k then x else _) = _; rw [if_neg (fun q => h q.1)]
theorem w2_at (σ : Sg) (r k x : Nat) : (w2 σ r k x).2.2 r k = x := by show (if r = r ∧ k = k then x else _) = x; rw [if_pos ⟨rfl, rfl⟩]
theorem w2_k {σ : Sg} {r k x b : Nat} (h : b ≠ k) : (w2 σ r k x).2.2 r b = σ.2.2 r b := by show (if r = r ∧ b = k then x else _) = _; rw [if_neg (fun q => h q.2)]
/-- only the Follower's cells have changed; of references only its arm -/
def FF (σ σ' : Sg) : Prop := σ'.1 = σ.1 ∧ (∀ r, r < 120 → Eqc σ σ' r) ∧ ∀ r k, ¬ (r = 120 ∧ k = 10) → σ'.2.2 r k = σ.2.2 r k
theorem FF.rf (σ : Sg) : FF σ σ := ⟨rfl, fun _ _ => ⟨rfl, rfl⟩, fun _ _ _ => rfl⟩
theorem FF.tr {σ σ1 σ2 : Sg} (h : FF σ σ1) (h' : FF σ1 σ2) : FF σ σ2 := ⟨h'.1.trans h.1, fun r a => (h.2.1 r a).tr (h'.2.1 r a), fun r k a => (h'.2.2 r k a).trans (h.2.2 r k a)⟩
theorem Onl.ff {S : List Nat} {σ σ' : Sg} (h : Onl S σ σ') (hs : ∀ r ∈ S, 120 ≤ r) : FF σ σ' := ⟨h.1, fun r a => ⟨h.2.2 r (fun q => by have := hs r q; omega), by rw [h.2.1]⟩, fun r k _ => by rw [h.2.1]⟩
theorem FF.C {σ σ' : Sg} (h : FF σ σ') (hC : Cp σ) : Cp σ' := by
  refine ⟨by rw [h.1]; exact hC.1, fun q hq => ?_⟩
  have k : ∀ q ∈ cptr, q.1 < 120 := by decide
  rw [(h.2.1 q.1 (k q hq)).2]; exact hC.2 q hq
theorem FF.F {σ σ' : Sg} (h : FF σ σ') (hF : Fp σ) : Fp σ' := by
  refine ⟨by rw [h.1]; exact hF.1, fun q hq => ?_⟩
  have k : ∀ q ∈ fptr, ¬ (q.1 = 120 ∧ q.2.1 = 10) := by decide
  rw [h.2.2 q.1 q.2.1 (k q hq)]; exact hF.2 q hq
theorem FF.A {σ σ' : Sg} {o : Nat} {O : Nat → Nat → Int} (h : FF σ σ') (ho : o < 2) (hA : ArmAt σ (5 + 5 * o) O) : ArmAt σ' (5 + 5 * o) O := hA.eq (Nat.le_of_eq h.1.symm) (fun k hk => h.2.1 _ (by omega))
theorem FF.P {σ σ' : Sg} {r : Nat} (h : FF σ σ') (hr : r < 118) (hP : TapeP σ r) : TapeP σ' r := hP.eq (Nat.le_of_eq h.1.symm) (h.2.1 r (by omega)).2
theorem FF.D {σ σ' : Sg} {r : Nat} {T : Nat → Nat → Int} (h : FF σ σ') (hr : r < 118) (hD : TapeD σ r T) : TapeD σ' r T := hD.eq (fun k hk => h.2.1 _ (by omega))
theorem CR.ff {σ σ' : Sg} {v : Vt} {c : Nat} (h : CR σ v) (hw : WF c v) (hf : FF σ σ') : CR σ' v ∧ CF σ σ' := by
  have w0 := hw.1
  have E : ∀ r, r < 120 → Eqc σ σ' r := hf.2.1
  have hn : σ.1 ≤ σ'.1 := Nat.le_of_eq hf.1.symm
  refine ⟨⟨hf.C h.1, ?_, ?_, ?_, ?_, ?_⟩, hn, fun r a b => ?_⟩
  · rw [hf.2.2 1 8 (by omega)]
    rcases h.2.1 with z | ⟨z1, z2, z3⟩
    · exact Or.inl ⟨z.1, by rw [hf.1]; exact z.2⟩
    · exact Or.inr ⟨z1, hf.F z2, fun k hk => by rw [hf.2.2 131 k (by omega)]; exact z3 k hk⟩
  · exact h.2.2.1.eq hn (by rw [(E 2 (by omega)).1]) (fun r a b => E r (by omega)) rfl rfl
  · exact h.2.2.2.1.eq hn (by rw [(E 2 (by omega)).1]) (by rw [(E 2 (by omega)).1]) (fun r a b => E r (by omega)) (E 51 (by omega)).2 (E 54 (by omega)).2 rfl rfl (by omega)
  · exact h.2.2.2.2.1.eq (by rw [(E 45 (by omega)).1]) (E 46 (by omega)).1 (by rw [(E 50 (by omega)).1]) (by rw [(E 50 (by omega)).1]) rfl rfl rfl rfl
  · exact h.2.2.2.2.2.eq (E 58 (by omega)).1 (E 1 (by omega)).1 (by rw [(E 69 (by omega)).1]) (E 73 (by omega)).1 rfl rfl rfl rfl rfl rfl
  · exact E r (by omega)
def wX (O T : Nat → Nat → Int) (d : Int) (i : Nat) : Int := tip O (T 1 i) 0 + d * i
def wY (O T : Nat → Nat → Int) (i : Nat) : Int := tip O (T 1 i) 1
section FLZ
variable {l : Launch} {σ σ' : Sg} {A O T : Nat → Nat → Int} {a o r N : Nat} {en : Nat → Nat} {G : Nat → Int} {t p : Nat} {X Y : Nat → Int} {e d : Int} {n : Nat}
theorem q_aim {K : Sg → Prop} (hC : Cp σ) (hF : Fp σ) (ho : o < 2) (hO : ArmAt σ (5 + 5 * o) O) (hwO : ArmWf O) (hr : r < 118) (hP : TapeP σ r) (hD : TapeD σ r T) (hn : T 0 1 = n) (n40 : n ≤ 40) (hp : ∀ i, i < n → isPo O (T 1 i)) (hd : -2000 ≤ d ∧ d ≤ 2000)
    (hK : ∀ σ', Onl [120, 128, 129] σ σ' → σ'.2.1 120 11 = I (n : Nat) → (∀ k, k ≠ 11 → σ'.2.1 120 k = σ.2.1 120 k) → (∀ i, i < n → σ'.2.1 128 i = I (wX O T d i) ∧ σ'.2.1 129 i = I (wY O T i)) → K σ') : Con l mX3_aim [.inr 120, .inr r, .inr (5 + 5 * o), .inl (I d)] σ (PV K) := by
  refine eX3_aim ⟨hP.ob, ?_⟩
  rw [hD.2.1, hn]
  refine q_min (b := 40) ⟨by omega, by omega⟩ ⟨by omega, by omega⟩ ⟨hF.o120, fun σ4 e4 => ?_⟩
  rw [show min (n : Int) 40 = (n : Int) by omega] at e4
  have F : ∀ i, i ≤ n → ∀ σ1, Onl [120, 128, 129] σ σ1 → σ1.2.1 120 11 = I (n : Nat) → (∀ k, k ≠ 11 → σ1.2.1 120 k = σ.2.1 120 k) → (∀ i', i' < i → σ1.2.1 128 i' = I (wX O T d i') ∧ σ1.2.1 129 i' = I (wY O T i')) → GW l mX3_aim 16 [(0, .inr 120), (1, .inr r), (2, .inr (5 + 5 * o)), (3, .inl (I d)), (4, .inl (I (i : Nat)))] [] σ1 0 0 (PV K) := by
    refine lp ?_ ?_
    · intro σ1 o1 h11 hk hx
      have f1 := o1.ff (by decide)
      refine gX3_aim_16 ⟨(f1.F hF).o120, fun _ => hK σ1 o1 h11 hk hx, fun q => absurd ?_ q⟩
      rw [h11]; exact (I_le ⟨by omega, by omega⟩ ⟨by omega, by omega⟩).mpr (by omega)
    · intro i hi ih σ1 o1 h11 hk hx
      have f1 := o1.ff (by decide)
      have F1 := f1.F hF
      have pi := hp i hi
      have p0 := pi.1; have p4 := pi.2.1
      refine gX3_aim_16 ⟨F1.o120, fun q => ?_, fun _ => ⟨fun q => ?_, fun _ => ⟨(f1.P hr hP).ob, ?_⟩⟩⟩
      · rw [h11, I_le ⟨by omega, by omega⟩ ⟨by omega, by omega⟩] at q; omega
      · rw [show (40 : Int32) = I 40 from rfl, I_le ⟨by omega, by omega⟩ ⟨by omega, by omega⟩] at q; omega
      refine q_poseAt (f1.P hr hP) (f1.D hr hD) (by omega) (by omega) ⟨by omega, by omega⟩ (fun _ _ => ⟨(f1.A ho hO).ob, ?_⟩) (fun q => absurd ⟨by omega, by omega⟩ q)
      rw [I_tn]
      refine q_tipX (f1.A ho hO) hwO p0 (by omega) ⟨F1.a120_7 (by omega) (by omega), fun σ9 e9 => ?_⟩
      rw [F1.p120_7, I_cln (by omega), I_mul, I_add] at e9
      have o9 : Onl [120, 128, 129] σ σ9 := o1.tr (Onl.w e9 (by decide))
      have f9 := o9.ff (by decide)
      have F9 := f9.F hF
      refine q_tipY (f9.A ho hO) hwO p0 (by omega) ⟨F9.a120_8 (by omega) (by omega), fun σ12 e12 => ?_⟩
      rw [F9.p120_8, I_cln (by omega)] at e12
      rw [I_1, I_add]
      refine ih σ12 (o9.tr (Onl.w e12 (by decide))) (by rw [e12, w1_r (by omega), e9, w1_r (by omega)]; exact h11) (fun k hk' => by rw [e12, w1_r (by omega), e9, w1_r (by omega)]; exact hk k hk') (fun i' hi' => ?_)
      by_cases z : i' = i
      · rw [z]
        exact ⟨by rw [e12, w1_r (by omega), e9, w1_at]; rfl, by rw [e12, w1_at]; rfl⟩
      · rw [e12, w1_r (by omega), w1_k z, e9, w1_k z, w1_r (by omega)]
        exact hx i' (by omega)
  exact F 0 (by omega) σ4 (Onl.w e4 (by decide)) (by rw [e4, w1_at]) (fun k hk => by rw [e4, w1_k hk]) (fun i' hi' => absurd hi' (by omega))
theorem Gok.up (h : Gok 360 G) : Gok 400 G := fun p hp => ⟨(h p hp).1, (h p hp).2.1, fun z => by have := (h p hp).2.2 z; omega⟩
theorem q_trace3 {K : Sg → Prop} {M : Nat} {nn : Nat → Nat} (h : FlB σ A a) (hw : ArmWf A) (h11 : σ.2.1 120 11 = I (n : Nat)) (n1 : 1 ≤ n) (n40 : n ≤ 40) (hr : NrS σ A X Y e 0 M nn) (hW : ∀ i, i < n → WyS σ A i (WB A X Y e n i)) (hf : fok A X Y e n)
    (hK : ∀ σ', Onl [120, 130] σ σ' → σ'.2.1 120 18 = I (mnF (nrP A X Y e 0) (WB A X Y e n 0) 4096) → (∀ i, i < n → σ'.2.1 130 i = I (frw A X Y e n i : Nat)) → K σ') : Con l mX3_trace [.inr 120] σ (PV K) := by
  have F : ∀ j, j ≤ n - 1 → ∀ σ1, Onl [120, 130] σ σ1 → (∀ k, k ≠ 15 → k ≠ 16 → k ≠ 18 → σ1.2.1 120 k = σ.2.1 120 k) → σ1.2.1 120 18 = I (mnF (nrP A X Y e 0) (WB A X Y e n 0) 4096) → (∀ i, i < j + 1 → σ1.2.1 130 i = I (frw A X Y e n i : Nat)) → GW l mX3_trace 4 [(0, .inr 120), (1, .inl (I (frw A X Y e n j : Nat))), (2, .inl (I ((j + 1 : Nat) : Int)))] [] σ1 0 0 (PV K) := by
    refine lp ?_ ?_
    · intro σ1 ho hk h18 hx
      refine gX3_trace_4 ⟨(h.onl ho (by decide)).F.o120, fun _ => hK σ1 ho h18 (fun i hi => hx i (by omega)), fun q => absurd ?_ q⟩
      rw [hk 11 (by omega) (by omega) (by omega), h11]; exact (I_le ⟨by omega, by omega⟩ ⟨by omega, by omega⟩).mpr (by omega)
    · intro j hj ih σ1 ho hk h18 hx
      have B1 := h.onl ho (by decide)
      have fr := frw_ok hf j (by omega)
      refine gX3_trace_4 ⟨B1.F.o120, fun q => ?_, fun _ => ⟨fun q => ?_, fun _ => ⟨fun _ => ?_, fun q => ?_⟩⟩⟩
      · rw [hk 11 (by omega) (by omega) (by omega), h11, I_le ⟨by omega, by omega⟩ ⟨by omega, by omega⟩] at q; omega
      · rw [show (40 : Int32) = I 40 from rfl, I_le ⟨by omega, by omega⟩ ⟨by omega, by omega⟩] at q; omega
      · refine q_seekNear (t := j + 1) B1 hw (by omega) fr.2.1.1 (WB_ok hw n40 (j + 1)).up ((hW (j + 1) (by omega)).onl ho (by decide)) (fun σ5 o5 k5 s5 => ?_)
        have B5 := B1.onl o5 (by decide)
        have e16 : σ5.2.1 120 16 = I (frw A X Y e n (j + 1) : Nat) := s5.2
        refine ⟨B5.F.a120_9 (by omega) (by omega), fun σ7 e7 => ?_⟩
        rw [B5.F.p120_9, I_cln (by omega), e16] at e7
        rw [e16, I_1, I_add]
        have o7 : Onl [120, 130] σ σ7 := (ho.tr (o5.up (by decide))).tr (Onl.w e7 (by decide))
        refine ih σ7 o7 (fun k a1 a2 a3 => by rw [e7, w1_r (by omega), k5 k a1 a2]; exact hk k a1 a2 a3) (by rw [e7, w1_r (by omega), k5 18 (by omega) (by omega)]; exact h18) (fun i hi => ?_)
        by_cases z : i = j + 1
        · rw [z, e7, w1_at]
        · rw [e7, w1_k z, o5.2.2 130 (by decide)]; exact hx i (by omega)
      · rw [I_0, I_eq ⟨by omega, by omega⟩ ⟨by omega, by omega⟩] at q; omega
  refine eX3_trace (gX3_trace_4 ⟨h.F.o120, fun q => ?_, fun _ => ⟨fun q => absurd q (by decide), fun _ => ⟨fun q => absurd rfl q, fun _ => ?_⟩⟩⟩)
  · rw [h11, I_0, I_le ⟨by omega, by omega⟩ ⟨by omega, by omega⟩] at q; omega
  refine q_seekStart h hr (WB_ok hw n40 0).up (hW 0 (by omega)) (fun σ8 o8 k8 h15 h16 σ9 e9 => ?_)
  rw [h15] at e9
  have o9 : Onl [120, 130] σ σ9 := (o8.up (by decide)).tr (Onl.w e9 (by decide))
  have B9 := h.onl o9 (by decide)
  have e16 : σ9.2.1 120 16 = I (frw A X Y e n 0 : Nat) := by rw [e9, w1_k (by omega)]; exact h16
  refine ⟨B9.F.a120_9 (z := 0) (by omega) (by omega), fun σ11 e11 => ?_⟩
  rw [B9.F.p120_9, e16] at e11
  rw [e16]
  refine F 0 (by omega) σ11 (o9.tr (Onl.w e11 (by decide))) (fun k a1 a2 a3 => by rw [e11, w1_r (by omega), e9, w1_k a3]; exact k8 k a1 a2) (by rw [e11, w1_r (by omega), e9, w1_at]) (fun i hi => ?_)
  rw [show i = 0 by omega, e11]
  exact w1_at _ _ _ _
theorem q_search {K : Int32 → Sg → Prop} (hC : Cp σ) (hF : Fp σ) (ha : a < 2) (hA : ArmAt σ (5 + 5 * a) A) (hw : ArmWf A) (ho : o < 2) (hO : ArmAt σ (5 + 5 * o) O) (hwO : ArmWf O) (hr : r < 118) (hP : TapeP σ r) (hD : TapeD σ r T) (hn : T 0 1 = n) (n1 : 1 ≤ n) (n40 : n ≤ 40) (hp : ∀ i, i < n → isPo O (T 1 i)) (hd : -2000 ≤ d ∧ d ≤ 2000) (he : 0 ≤ e ∧ e ≤ 2000)
    (h1 : fok A (wX O T d) (wY O T) e n → ∀ σ', FF σ σ' → σ'.2.1 120 18 = I (mnF (nrP A (wX O T d) (wY O T) e 0) (WB A (wX O T d) (wY O T) e n 0) 4096) → (∀ i, i < n → σ'.2.1 130 i = I (frw A (wX O T d) (wY O T) e n i : Nat)) → K 1 σ')
    (h0 : ¬ fok A (wX O T d) (wY O T) e n → ∀ σ', FF σ σ' → σ'.2.1 120 17 = I (stpF A (wX O T d) (wY O T) e n : Nat) → K 0 σ') : Con l mX3_search [.inr 120, .inr r, .inr (5 + 5 * o), .inr (5 + 5 * a), .inl (I d), .inl (I e)] σ (PI K) := by
  refine eX3_search ⟨hF.o120, by have := hF.1; omega, fun σ3 e3 σ4 e4 => ?_⟩
  have f3 : FF σ σ3 := by
    rw [e3]
    refine ⟨rfl, fun q hq => ⟨rfl, w2_r (by omega)⟩, fun q k hq => ?_⟩
    show (if q = 120 ∧ k = 10 then _ else σ.2.2 q k) = _
    rw [if_neg hq]
  have o4 : Onl [120] σ3 σ4 := Onl.w e4 (by simp)
  have f4 : FF σ σ4 := f3.tr (o4.ff (by decide))
  have r4 : σ4.2.2 120 10 = 5 + 5 * a := by rw [o4.2.1, e3, w2_at]
  refine q_aim (f4.C hC) (f4.F hF) ho (f4.A ho hO) hwO hr (f4.P hr hP) (f4.D hr hD) hn n40 hp hd (fun σ5 o5 h11 k5 x5 => ?_)
  have f5 : FF σ σ5 := f4.tr (o5.ff (by decide))
  have B5 : FlB σ5 A a := ⟨⟨f5.C hC, f5.F hF⟩, ⟨by rw [o5.2.1]; exact r4, ha⟩, f5.A ha hA⟩
  generalize eX : wX O T d = X at x5 h1 h0
  generalize eY : wY O T = Y at x5 h1 h0
  have N5 : WnS σ5 X Y e n := by
    refine ⟨by rw [k5 12 (by omega), e4, w1_at], he, n40, fun i hi => ⟨(x5 i hi).1, (x5 i hi).2, ?_, ?_⟩⟩
    · rw [← eX]
      have tx := tip_rg hwO (T 1 i) (w := 0) (Or.inl rfl)
      have m := mul2000 (i := i) hd.1 hd.2 (by omega)
      unfold wX; omega
    · rw [← eY]
      have tx := tip_rg hwO (T 1 i) (w := 1) (Or.inr rfl)
      unfold wY; omega
  refine q_gatherPoses B5 hw (fun N en σ6 o6 k6 S6 => ?_)
  have f6 : FF σ σ6 := f5.tr (o6.ff (by decide))
  have h11' : σ6.2.1 120 11 = I (n : Nat) := by rw [k6 11 (by omega)]; exact h11
  have N6 : WnS σ6 X Y e n := ⟨by rw [k6 12 (by omega)]; exact N5.1, he, n40, fun i hi => by rw [o6.2.2 128 (by decide), o6.2.2 129 (by decide)]; exact N5.2.2.2 i hi⟩
  rw [h11', I_1, I_sub]
  -- what stays as it is while ticks are filled
  have keep : ∀ σ7 (t : Nat), FF σ σ7 → FlS σ7 A a N en → WnS σ7 X Y e n → σ7.2.1 120 11 = I (n : Nat) → ∀ σ8, Fk t σ7 σ8 → FF σ σ8 ∧ FlS σ8 A a N en ∧ WnS σ8 X Y e n ∧ σ8.2.1 120 11 = I (n : Nat) := fun σ7 t a1 a2 a3 a4 σ8 f => ⟨a1.tr (f.1.ff (by decide)), f.S a2, f.Wn a3, by rw [f.2.1 11 (by omega) (by omega) (by omega)]; exact a4⟩
  -- forwards
  have W : ∀ (σ7 : Sg) (y : Int32), ¬ fok A X Y e n → FF σ σ7 → FlS σ7 A a N en → WnS σ7 X Y e n → σ7.2.1 120 11 = I (n : Nat) → GW l mX3_search 77 [(0, .inr 120), (1, .inr r), (2, .inr (5 + 5 * o)), (3, .inr (5 + 5 * a)), (4, .inl (I d)), (5, .inl (I e)), (6, .inl 0), (7, .inl y)] [] σ7 0 0 (PI K) := by
    intro σ7 y nf f7 S7 N7 h7
    obtain ⟨ts, hts⟩ := stop_ex hw n40 n1 nf
    have L : ∀ i, i ≤ n → ∀ (on : Int) σ8, ((on = 1 ∧ ∀ t', t' < i → ∃ p, p < 4096 ∧ fwd A X Y e t' p < 1000000) ∨ (on = 0 ∧ 1 ≤ i ∧ IsStop A X Y e n (i - 1))) → FF σ σ8 → FlS σ8 A a N en → WnS σ8 X Y e n → σ8.2.1 120 11 = I (n : Nat) → (1 ≤ i → WyS σ8 A (i - 1) (fwd A X Y e (i - 1)) ∧ σ8.2.1 120 17 = I ((i : Int) - 1)) → GW l mX3_search 94 [(0, .inr 120), (1, .inr r), (2, .inr (5 + 5 * o)), (3, .inr (5 + 5 * a)), (4, .inl (I d)), (5, .inl (I e)), (6, .inl 0), (7, .inl (I on)), (8, .inl (I (i : Nat)))] [] σ8 0 0 (PI K) := by
      have fin : ∀ i σ8, 1 ≤ i → IsStop A X Y e n (i - 1) → FF σ σ8 → σ8.2.1 120 17 = I ((i : Int) - 1) → K 0 σ8 := fun i σ8 i1 st f8 h17 => h0 nf σ8 f8 (by rw [stpF_eq st, h17]; congr 1; omega)
      refine lp ?_ ?_
      · intro on σ8 hon f8 S8 N8 h8 hx
        refine gX3_search_94 ⟨S8.1.F.o120, fun _ => ?_, fun q => absurd ?_ q⟩
        · rcases hon with ⟨_, al⟩ | ⟨_, i1, st⟩
          · obtain ⟨p, b1, b2⟩ := al ts hts.1
            exact absurd b2 (hts.2.1 p b1)
          · exact fin n σ8 i1 st f8 (hx i1).2
        · rw [h8]; exact (I_le ⟨by omega, by omega⟩ ⟨by omega, by omega⟩).mpr (by omega)
      · intro i hi ih on σ8 hon f8 S8 N8 h8 hx
        refine gX3_search_94 ⟨S8.1.F.o120, fun q => ?_, fun _ => ?_⟩
        · rw [h8, I_le ⟨by omega, by omega⟩ ⟨by omega, by omega⟩] at q; omega
        rcases hon with ⟨on1, al⟩ | ⟨on0, i1, st⟩
        · rw [on1]
          refine ⟨fun z => absurd z (by decide), fun _ => ?_⟩
          -- after a tick is filled
          have aft : ∀ (x : Int) σ9, Fk i σ8 σ9 → WyS σ9 A i (fwd A X Y e i) → ((x = 1 ∧ ∃ p : Nat, p < 4096 ∧ fwd A X Y e i p < 1000000) ∨ (x = 0 ∧ ∀ p : Nat, p < 4096 → ¬ fwd A X Y e i p < 1000000)) → Ob σ9 120 3 ∧ ∀ σ10, σ10 = w1 σ9 120 17 (I (i : Nat)) → GW l mX3_search 94 [(0, .inr 120), (1, .inr r), (2, .inr (5 + 5 * o)), (3, .inr (5 + 5 * a)), (4, .inl (I d)), (5, .inl (I e)), (6, .inl 0), (7, .inl (I x)), (8, .inl (I (i : Nat) + 1))] [] σ10 0 0 (PI K) := by
            intro x σ9 f9 w9 hx9
            obtain ⟨g1, g2, g3, g4⟩ := keep σ8 i f8 S8 N8 h8 σ9 f9
            refine ⟨g2.1.F.o120, fun σ10 e10 => ?_⟩
            have o10 : Onl [120] σ9 σ10 := Onl.w e10 (by simp)
            rw [I_1, I_add]
            refine ih x σ10 ?_ (g1.tr (o10.ff (by decide))) (g2.onl o10 (by decide) (by decide) (by decide) (by decide) (by rw [e10, w1_k (by omega)])) ⟨by rw [e10, w1_k (by omega)]; exact g3.1, g3.2.1, g3.2.2.1, fun j hj => by rw [o10.2.2 128 (by decide), o10.2.2 129 (by decide)]; exact g3.2.2.2 j hj⟩ (by rw [e10, w1_k (by omega)]; exact g4) (fun _ => ⟨?_, ?_⟩)
            · rcases hx9 with ⟨z1, z2⟩ | ⟨z1, z2⟩
              · refine Or.inl ⟨z1, fun t' ht' => ?_⟩
                by_cases u : t' = i
                · rw [u]; exact z2
                · exact al t' (by omega)
              · exact Or.inr ⟨z1, by omega, by omega, z2, fun t' ht' => al t' (by omega)⟩
            · exact w9.onl o10 (by decide)
            · rw [e10, w1_at]; congr 1; omega
          rw [I_0, I_eq' (by omega) (by omega) (by omega) (by omega)]
          refine ⟨fun z => gX3_search_124 ⟨S8.1.F.o120, ?_⟩, fun z => gX3_search_124 ⟨S8.1.F.o120, ?_⟩⟩
          · obtain ⟨k, rfl⟩ : ∃ k, i = k + 1 := ⟨i - 1, by omega⟩
            obtain ⟨w8, _⟩ := hx (by omega)
            rw [I_1, I_sub, show ((k + 1 : Nat) : Int) - 1 = (k : Int) by omega]
            have gk := fwd_ok (X := X) (Y := Y) (e := e) hw k
            have gk' : Gok 400 (fwd A X Y e k) := fun p hp => ⟨(gk p hp).1, (gk p hp).2.1, fun z => by have := (gk p hp).2.2 z; omega⟩
            exact q_fillTick (bs := (k : Int)) (g := stW A (fwd A X Y e k)) S8 hw N8 hi (Or.inr ⟨k, fwd A X Y e k, rfl, by omega, by omega, gk', w8, rfl⟩) (fun p hp => ⟨(stW_ok hw gk' p).1, (stW_ok hw gk' p).2.1⟩) (fun M nn x σ9 f9 w9 n9 x9 => aft x σ9 f9 w9 x9)
          · obtain rfl : i = 0 := by omega
            exact q_fillTick (t := 0) (bs := -1) (g := fun _ => 0) S8 hw N8 hi (Or.inl ⟨rfl, rfl⟩) (fun p hp => ⟨by show (0 : Int) ≤ 0; omega, by show (0 : Int) ≤ 1000000; omega⟩) (fun M nn x σ9 f9 w9 n9 x9 => aft x σ9 f9 w9 x9)
        · rw [on0]
          exact ⟨fun _ => fin i σ8 i1 st f8 (hx i1).2, fun z => absurd rfl z⟩
    refine gX3_search_77 ⟨fun _ => ?_, fun z => absurd rfl z⟩
    exact L 0 (by omega) 1 σ7 (Or.inl ⟨rfl, fun t' ht' => absurd ht' (by omega)⟩) f7 S7 N7 h7 (fun z => absurd z (by omega))
  -- backwards: k ticks are left
  have L : ∀ (k : Nat), k ≤ n → ∀ (rd : Int) σ7, FF σ σ7 → FlS σ7 A a N en → WnS σ7 X Y e n → σ7.2.1 120 11 = I (n : Nat) → ((rd = 1 ∧ (∀ i, k ≤ i → i < n → WyS σ7 A i (WB A X Y e n i)) ∧ (k < n → (∃ M nn, NrS σ7 A X Y e k M nn) ∧ ∃ p, p < 4096 ∧ WB A X Y e n k p < 1000000)) ∨ (rd = 0 ∧ ¬ fok A X Y e n)) → GW l mX3_search 34 [(0, .inr 120), (1, .inr r), (2, .inr (5 + 5 * o)), (3, .inr (5 + 5 * a)), (4, .inl (I d)), (5, .inl (I e)), (6, .inl (I rd)), (7, .inl (I ((k : Int) - 1)))] [] σ7 0 0 (PI K) := by
    intro k
    induction k with
    | zero =>
      intro _ rd σ7 f7 S7 N7 h7 hrd
      refine gX3_search_34 ⟨fun _ => ?_, fun q => absurd ?_ q⟩
      · rcases hrd with ⟨rd1, hW, hX⟩ | ⟨rd0, nf⟩
        · obtain ⟨⟨M, nn, nr⟩, p, b1, b2⟩ := hX (by omega)
          have hf : fok A X Y e n := (fok_iff n1).mpr ⟨p, b1, b2⟩
          rw [rd1]
          refine gX3_search_77 ⟨fun z => absurd z (by decide), fun _ => ⟨S7.1.F.o120, ?_⟩⟩
          exact q_trace3 S7.1 hw h7 n1 n40 nr (fun i hi => hW i (by omega) hi) hf (fun σ8 o8 h18 hx => h1 hf σ8 (f7.tr (o8.ff (by decide))) h18 hx)
        · rw [rd0]; exact W σ7 _ nf f7 S7 N7 h7
      · rw [I_0]; exact (I_lt ⟨by omega, by omega⟩ ⟨by omega, by omega⟩).mpr (by omega)
    | succ k ih =>
      intro hk rd σ7 f7 S7 N7 h7 hrd
      rw [show ((k + 1 : Nat) : Int) - 1 = (k : Int) by omega]
      refine gX3_search_34 ⟨fun q => ?_, fun _ => ?_⟩
      · rw [I_0, I_lt ⟨by omega, by omega⟩ ⟨by omega, by omega⟩] at q; omega
      rcases hrd with ⟨rd1, hW, hX⟩ | ⟨rd0, nf⟩
      · rw [rd1]
        refine ⟨fun z => absurd z (by decide), fun _ => ⟨S7.1.F.o120, ?_⟩⟩
        have aft : ∀ (M : Nat) (nn : Nat → Nat) (x : Int) σ8, Fk k σ7 σ8 → WyS σ8 A k (WB A X Y e n k) → NrS σ8 A X Y e k M nn → ((x = 1 ∧ ∃ p : Nat, p < 4096 ∧ WB A X Y e n k p < 1000000) ∨ (x = 0 ∧ ∀ p : Nat, p < 4096 → ¬ WB A X Y e n k p < 1000000)) → GW l mX3_search 34 [(0, .inr 120), (1, .inr r), (2, .inr (5 + 5 * o)), (3, .inr (5 + 5 * a)), (4, .inl (I d)), (5, .inl (I e)), (6, .inl (I x)), (7, .inl (I (k : Int) + (-1)))] [] σ8 0 0 (PI K) := by
          intro M nn x σ8 f8 w8 n8 hx8
          obtain ⟨g1, g2, g3, g4⟩ := keep σ7 k f7 S7 N7 h7 σ8 f8
          rw [I_m1, I_add, show (k : Int) + -1 = (k : Int) - 1 by omega]
          refine ih (by omega) x σ8 g1 g2 g3 g4 ?_
          rcases hx8 with ⟨z1, z2⟩ | ⟨z1, z2⟩
          · refine Or.inl ⟨z1, fun i b1 b2 => ?_, fun _ => ⟨⟨M, nn, n8⟩, z2⟩⟩
            by_cases u : i = k
            · rw [u]; exact w8
            · exact f8.W u (hW i (by omega) b2)
          · refine Or.inr ⟨z1, fun hf => ?_⟩
            obtain ⟨p, b1, b2⟩ := fok_all hw n1 hf k (by omega)
            exact z2 p b1 b2
        rw [h7, I_1, I_sub, I_add, I_eq' (by omega) (by omega) (by omega) (by omega)]
        refine ⟨fun z => ?_, fun z => ?_⟩
        · have gk := WB_ok (X := X) (Y := Y) (e := e) hw n40 (k + 1)
          have gk' : Gok 400 (WB A X Y e n (k + 1)) := gk.up
          have ew : (fun p => cif (nrP A X Y e k p) (stW A (WB A X Y e n (k + 1)) p) 1000000) = WB A X Y e n k := by funext p; exact (WB_in (by omega) p).symm
          refine q_fillTick (t := k) (bs := (k : Int) + 1) (g := stW A (WB A X Y e n (k + 1))) S7 hw N7 (by omega) (Or.inr ⟨k + 1, WB A X Y e n (k + 1), by omega, by omega, by omega, gk', hW (k + 1) (by omega) (by omega), rfl⟩) (fun p hp => ⟨(stW_ok hw gk' p).1, (stW_ok hw gk' p).2.1⟩) (fun M nn x σ9 f9 w9 n9 x9 => aft M nn x σ9 f9 (by rw [← ew]; exact w9) n9 ?_)
          rw [← ew]; exact x9
        · have ek : k = n - 1 := by omega
          have ew : (fun p => cif (nrP A X Y e k p) ((fun _ => (0 : Int)) p) 1000000) = WB A X Y e n k := by funext p; rw [ek]; exact (WB_last n1 p).symm
          refine q_fillTick (t := k) (bs := -1) (g := fun _ => 0) S7 hw N7 (by omega) (Or.inl ⟨rfl, rfl⟩) (fun p hp => ⟨by show (0 : Int) ≤ 0; omega, by show (0 : Int) ≤ 1000000; omega⟩) (fun M nn x σ9 f9 w9 n9 x9 => aft M nn x σ9 f9 (by rw [← ew]; exact w9) n9 ?_)
          rw [← ew]; exact x9
      · rw [rd0]
        exact ⟨fun _ => W σ7 _ nf f7 S7 N7 h7, fun z => absurd rfl z⟩
  exact L n (Nat.le_refl _) 1 σ6 f6 S6 N6 h11' (Or.inl ⟨rfl, fun i b1 b2 => absurd b1 (by omega), fun z => absurd z (by omega)⟩)
end FLZ
