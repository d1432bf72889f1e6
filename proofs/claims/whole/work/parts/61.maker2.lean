/-! the class's Maker, 2 -/
section MKE
variable {l : Launch} {σ0 σ σ' : Sg} {v : Vt} {B : Nat → Int} {n N c : Nat} {T : Nat → Nat → Nat → Int} {cnt i : Nat} {f : Int} {L P : Nat → Nat → Int}
theorem MkH.after111 (H : MkH σ0 v B n N c) {K : Int32 → Sg → Prop} (h : MkS σ0 σ v T cnt i f) (hf : 0 ≤ f ∧ f ≤ 5) (h1 : f = 0 → ∀ σ', σ' = w1 σ 50 4 ((σ.2.1 50 4) + 1) → K 1 σ') (h2 : f ≠ 0 → ∀ σ', σ' = w1 σ 50 4 (I (i : Nat)) → K 1 σ') : GW l mX4_readChange 111 [(0, .inr 50)] [] σ 0 0 (PI K) := by
  refine gX4_readChange_111 ⟨H.ob0 h.1, ?_⟩
  rw [h.2.2.2.2.2, I_0, I_eq' (by omega) (by omega) (by omega) (by omega)]
  refine ⟨fun q σ3 e3 => h2 q σ3 ?_, fun q σ4 e4 => h1 q σ4 e4⟩
  rw [e3, h.2.2.2.2.1, I_add]
  congr 2
theorem MkH.readChange (H : MkH σ0 v B n N c) {K : Int32 → Sg → Prop} (x : Mt) (h : MkS σ0 σ v T cnt x.1 0) (hi : x.1 ≤ N) (hx : LPr σ x.2.2.1 x.2.2.2)
    (h1 : 8 ≤ kdB B n x.1 ∧ kdB B n x.1 ≤ 10 → ∀ σ', MkS σ0 σ' v T cnt (chg1 (kdB B n) (vlB B n) x).1 (chg1 (kdB B n) (vlB B n) x).2.1 → (chg1 (kdB B n) (vlB B n) x).1 ≤ N → ((chg1 (kdB B n) (vlB B n) x).2.1 = 0 → LPr σ' (chg1 (kdB B n) (vlB B n) x).2.2.1 (chg1 (kdB B n) (vlB B n) x).2.2.2) → K 1 σ')
    (h0 : ¬ (8 ≤ kdB B n x.1 ∧ kdB B n x.1 ≤ 10) → K 0 σ) : Con l mX4_readChange [.inr 50] σ (PI K) := by
  have r := kdB_rg B n x.1
  have h10 := h.2.1.2.1
  obtain ⟨L', P', d1, d2, d3, d4, d5, d6⟩ := hx
  refine eX4_readChange ⟨H.ob0 h.1, H.ob1 h.1, H.kd h hi ?_⟩
  rw [toInt_I (by omega) (by omega), (h.1.C H.1).p50_3]
  refine ⟨fun q => h0 (by omega), fun q => ⟨(h.1.tp H.2.2.2.2.1).ob, q_turnRound (h.1.tp H.2.2.2.2.1) d2 d5.1 d5.2 (fun σ4 o4 D4 => ?_)⟩, fun q σ6 e6 => ?_, fun q => ⟨(h.1.tp H.2.2.2.2.1).ob, q_dryUp (h.1.tp H.2.2.2.2.1) d2 d5.1 d5.2 (fun σ4 o4 D4 => ?_)⟩⟩
  · have h4 := h.onl o4 (by decide)
    have e1 : ∀ Q : Nat → Nat → Int, rvT Q 0 1 = Q 0 1 := fun Q => by unfold rvT; rw [if_neg (by omega)]
    have ec : chg1 (kdB B n) (vlB B n) x = (x.1 + 1, 0, x.2.2.1, rvT x.2.2.2) := by unfold chg1; rw [if_pos q]
    rw [ec] at h1
    refine H.after111 h4 ⟨by omega, by omega⟩ (fun _ σ5 e5 => h1 (by omega) σ5 (h4.inc e5) (H.nx hi (by omega)) (fun _ => LPr.w ?_ e5 (by omega))) (fun z => absurd rfl z)
    refine ⟨L', rvT P', d1.onl o4 (by decide) (by decide) (by decide), D4, d3, d4, by rw [e1]; exact d5, ?_⟩
    rw [o4.2.2 50 (by decide)]
    rcases d6 with ⟨w1, w2, w3, w4, w5⟩ | w
    · exact Or.inl ⟨w1, w2, by show rvT x.2.2.2 0 1 ≤ 40; rw [e1]; exact w3, w4, by rw [w5]⟩
    · exact Or.inr ⟨w.1, by show _ ∨ rvT x.2.2.2 0 1 = 41; rw [e1]; exact w.2⟩
  · have k9 : ¬ kdB B n x.1 = 8 := by omega
    have k10 : ¬ kdB B n x.1 = 10 := by omega
    have h6 := h.inc e6
    have i1 := H.nx hi (by omega)
    have z6 : σ6.2.1 50 5 = σ.2.1 50 5 := by rw [e6, w1_k (by omega)]
    have o6 : Onl [50] σ σ6 := Onl.w e6 (by simp)
    have D1 := d1.onl o6 (by decide) (by decide) (by decide)
    have D2 := d2.onl o6 (by decide) (by decide) (by decide)
    unfold chg1 at h1
    rw [if_neg k9, if_neg k10] at h1
    refine H.number (lo := 1) (hi := 9) h6 i1 ⟨by omega, by omega⟩ ⟨by omega, by omega⟩ (fun nz => ?_) (fun nz σ7 e7 => ?_)
    · rw [if_pos nz] at h1
      have i2 := H.nxF i1 nz
      have nb := numF_0.mp nz
      -- the end: what overfull became
      have fin : ∀ (σ8 : Sg) (y : Int32), MkS σ0 σ8 v T cnt (x.1 + 1) 0 → ∀ σ9, σ9 = w1 σ8 50 5 y → (∀ σ10, σ10 = w1 σ9 50 4 ((σ9.2.1 50 4) + 1) → LPr σ10 x.2.2.1 (slw x.2.2.2 (vlB B n (x.1 + 1)).toNat)) → GW l mX4_readChange 111 [(0, .inr 50)] [] σ9 0 0 (PI K) := by
        intro σ8 y h8 σ9 e9 hl
        have h9 := h8.w5 e9
        exact H.after111 h9 ⟨by omega, by omega⟩ (fun _ σ10 e10 => h1 (by omega) σ10 (h9.inc e10) i2 (fun _ => hl σ10 e10)) (fun z => absurd rfl z)
      have mk : ∀ (σ8 : Sg) (y : Int) (Q : Nat → Nat → Int), TapeD σ8 51 L' → TapeD σ8 54 Q → (0 ≤ Q 0 1 ∧ Q 0 1 ≤ 40) → ∀ σ9, σ9 = w1 σ8 50 5 (I y) → ((y = 0 ∧ x.2.2.1 0 1 ≤ 40 ∧ slw x.2.2.2 (vlB B n (x.1 + 1)).toNat 0 1 ≤ 40 ∧ L' = x.2.2.1 ∧ Q = slw x.2.2.2 (vlB B n (x.1 + 1)).toNat) ∨ (y = 1 ∧ (x.2.2.1 0 1 = 41 ∨ slw x.2.2.2 (vlB B n (x.1 + 1)).toNat 0 1 = 41))) → ∀ σ10, σ10 = w1 σ9 50 4 ((σ9.2.1 50 4) + 1) → LPr σ10 x.2.2.1 (slw x.2.2.2 (vlB B n (x.1 + 1)).toNat) := by
        intro σ8 y Q g1 g2 g3 σ9 e9 hy σ10 e10
        have o9 : Onl [50] σ8 σ9 := Onl.w e9 (by simp)
        have o10 : Onl [50] σ9 σ10 := Onl.w e10 (by simp)
        refine ⟨L', Q, (g1.onl o9 (by decide) (by decide) (by decide)).onl o10 (by decide) (by decide) (by decide), (g2.onl o9 (by decide) (by decide) (by decide)).onl o10 (by decide) (by decide) (by decide), d3, d4, g3, ?_⟩
        rw [e10, w1_k (by omega), e9, w1_at]
        rcases hy with ⟨y0, w⟩ | ⟨y0, w⟩
        · rw [y0]; exact Or.inl ⟨rfl, w⟩
        · rw [y0]; exact Or.inr ⟨rfl, w⟩
      have ev : vlB B n (x.1 + 1) = ((vlB B n (x.1 + 1)).toNat : Int) := by omega
      rw [z6]
      rcases d6 with ⟨w1, w2, w3, w4, w5⟩ | ⟨w1, w2⟩
      · rw [w1]
        refine ⟨fun z => absurd rfl z, fun _ => ⟨fun z => ?_, fun _ => ?_⟩⟩
        · rw [I_m1, I_eq ⟨by omega, by omega⟩ ⟨by omega, by omega⟩] at z; omega
        · rw [(h6.1.C H.1).p50_3]
          refine ⟨(h6.1.tp H.2.2.2.2.1).ob, ?_⟩
          rw [ev]
          refine q_slowDown (h6.1.tp H.2.2.2.2.1) D2 d5.1 d5.2 (by omega) (by omega) (fun le σ12 o12 D12 => ⟨fun _ σ15 e15 => ?_, fun z => absurd z (by decide)⟩) (fun le => ⟨fun z => absurd rfl z, fun _ σ16 e16 => ?_⟩)
          · rw [w5] at D12 le
            have sc : slw x.2.2.2 (vlB B n (x.1 + 1)).toNat 0 1 = x.2.2.2 0 1 * ((vlB B n (x.1 + 1)).toNat : Int) := by rw [slw_01]; omega
            have nn : 0 ≤ x.2.2.2 0 1 * ((vlB B n (x.1 + 1)).toNat : Int) := Int.mul_nonneg (by rw [← w5]; exact d5.1) (by omega)
            exact fin σ12 0 (h6.onl o12 (by decide)) σ15 e15 (mk σ12 0 _ (D1.onl o12 (by decide) (by decide) (by decide)) D12 (by rw [sc]; exact ⟨nn, le⟩) σ15 e15 (Or.inl ⟨rfl, w2, by rw [sc]; exact le, w4, rfl⟩))
          · rw [w5] at le
            exact fin σ6 1 h6 σ16 e16 (mk σ6 1 _ D1 D2 d5 σ16 e16 (Or.inr ⟨rfl, Or.inr (by rw [slw_01]; omega)⟩))
      · rw [w1]
        refine ⟨fun _ σ9 e9 => ?_, fun z => absurd z (by decide)⟩
        refine fin σ6 1 h6 σ9 e9 (mk σ6 1 _ D1 D2 d5 σ9 e9 (Or.inr ⟨rfl, ?_⟩))
        rcases w2 with w2 | w2
        · exact Or.inl w2
        · right; rw [slw_01, w2]; omega
    · rw [if_neg nz] at h1
      have h7 := h6.w6 e7
      have z7 : σ7.2.1 50 5 = σ.2.1 50 5 := by rw [e7, w1_k (by omega), z6]
      have rn := numF_rg (kd := kdB B n) (vl := vlB B n) (lo := 1) (hi := 9) (i := x.1 + 1)
      have fin : ∀ (y : Int32) σ9, σ9 = w1 σ7 50 5 y → GW l mX4_readChange 111 [(0, .inr 50)] [] σ9 0 0 (PI K) := by
        intro y σ9 e9
        have h9 := h7.w5 e9
        exact H.after111 h9 ⟨rn.1, by omega⟩ (fun z => absurd z nz) (fun _ σ10 e10 => h1 (by omega) σ10 (h9.w4 e10) i1 (fun z => absurd z nz))
      exact ⟨fun _ σ9 e9 => fin _ σ9 e9, fun _ => ⟨fun _ σ9 e9 => fin _ σ9 e9, fun z => absurd rfl z⟩⟩
  · have h4 := h.onl o4 (by decide)
    have e1 : ∀ Q : Nat → Nat → Int, dryT Q 0 1 = Q 0 1 := fun Q => by unfold dryT; rw [if_neg (by omega)]
    have ec : chg1 (kdB B n) (vlB B n) x = (x.1 + 1, 0, x.2.2.1, dryT x.2.2.2) := by unfold chg1; rw [if_neg (by omega), if_pos q]
    rw [ec] at h1
    refine H.after111 h4 ⟨by omega, by omega⟩ (fun _ σ5 e5 => h1 (by omega) σ5 (h4.inc e5) (H.nx hi (by omega)) (fun _ => LPr.w ?_ e5 (by omega))) (fun z => absurd rfl z)
    refine ⟨L', dryT P', d1.onl o4 (by decide) (by decide) (by decide), D4, d3, d4, by rw [e1]; exact d5, ?_⟩
    rw [o4.2.2 50 (by decide)]
    rcases d6 with ⟨w1, w2, w3, w4, w5⟩ | w
    · exact Or.inl ⟨w1, w2, by show dryT x.2.2.2 0 1 ≤ 40; rw [e1]; exact w3, w4, by rw [w5]⟩
    · exact Or.inr ⟨w.1, by show _ ∨ dryT x.2.2.2 0 1 = 41; rw [e1]; exact w.2⟩
theorem MkH.readChanges (H : MkH σ0 v B n N c) {K : Sg → Prop} (x : Mt) (hf : x.2.1 = 0) (h : MkS σ0 σ v T cnt x.1 x.2.1) (hi : x.1 ≤ N) (hx : LPr σ x.2.2.1 x.2.2.2)
    (hr : ∀ (y : Mt) , 0 ≤ (chg1 (kdB B n) (vlB B n) y).2.1 ∧ (chg1 (kdB B n) (vlB B n) y).2.1 ≤ 5)
    (hK : ∀ σ', MkS σ0 σ' v T cnt (chgs (kdB B n) (vlB B n) 400 x).1 (chgs (kdB B n) (vlB B n) 400 x).2.1 → (chgs (kdB B n) (vlB B n) 400 x).1 ≤ N → ((chgs (kdB B n) (vlB B n) 400 x).2.1 = 0 → LPr σ' (chgs (kdB B n) (vlB B n) 400 x).2.2.1 (chgs (kdB B n) (vlB B n) 400 x).2.2.2) → K σ') : Con l mX4_readChanges [.inr 50] σ (PV K) := by
  generalize hy : chgs (kdB B n) (vlB B n) 400 x = y at hK
  have F : ∀ (d j : Nat) (x : Mt) (σ : Sg), j + d = 400 → (0 ≤ x.2.1 ∧ x.2.1 ≤ 5) → MkS σ0 σ v T cnt x.1 x.2.1 → x.1 ≤ N → (x.2.1 = 0 → LPr σ x.2.2.1 x.2.2.2) → chgs (kdB B n) (vlB B n) d x = y → GW l mX4_readChanges 4 [(0, .inr 50), (1, .inl 1), (2, .inl (I (j : Nat)))] [] σ 0 0 (PV K) := by
    intro d
    induction d with
    | zero =>
      intro j x σ hj hf h hi hx hy
      have hy : x = y := hy
      subst hy
      exact gX4_readChanges_4 ⟨fun _ => hK σ h hi hx, fun q => absurd ((I_le (a := 400) ⟨by omega, by omega⟩ ⟨by omega, by omega⟩).mpr (by omega)) q⟩
    | succ d ih =>
      intro j x σ hj hf h hi hx hy
      have hy : (if x.2.1 = 0 ∧ 8 ≤ kdB B n x.1 ∧ kdB B n x.1 ≤ 10 then chgs (kdB B n) (vlB B n) d (chg1 (kdB B n) (vlB B n) x) else x) = y := hy
      refine gX4_readChanges_4 ⟨fun q => ?_, fun _ => ⟨fun q => absurd q (by decide), fun _ => ⟨H.ob0 h.1, ?_⟩⟩⟩
      · rw [L_lit, I_le ⟨by omega, by omega⟩ ⟨by omega, by omega⟩] at q; omega
      rw [h.2.2.2.2.2, I_0, I_eq' (by omega) (by omega) (by omega) (by omega)]
      refine ⟨fun q => ?_, fun q => ?_⟩
      · rw [if_neg (fun z => q z.1)] at hy
        subst hy
        exact hK σ h hi hx
      · rw [q] at h
        refine H.readChange x h hi (hx q) (fun k σ5 h5 i5 x5 => ?_) (fun k => ?_)
        · rw [if_pos ⟨q, k⟩] at hy
          rw [I_1, I_add]
          exact ih (j + 1) _ σ5 (by omega) (hr x) h5 i5 x5 hy
        · rw [if_neg (fun z => k z.2)] at hy
          subst hy
          have hk : K σ := hK σ (by rw [q]; exact h) hi hx
          exact gX4_readChanges_4 ⟨fun _ => hk, fun _ => ⟨fun _ => hk, fun z => absurd rfl z⟩⟩
  exact eX4_readChanges (F 400 0 x σ rfl (by omega) h hi (fun _ => hx) hy)
theorem MkH.tapeOr (H : MkH σ0 v B n N c) {K : Nat → Sg → Prop} {z : Int} (h : MkS σ0 σ v T cnt i f) (hz : Rg z) (h1 : 0 ≤ z → z < cnt → K (15 + 3 * z.toNat) σ) (h0 : ¬ (0 ≤ z ∧ z < cnt) → K 0 σ) : Con l mX7_tapeOrStagedAt [.inr (σ.2.2 50 0), .inl (I z)] σ (PR K) := by
  have hC := h.1.C H.1
  have h10 := h.2.1
  have a := hz.1; have b := hz.2
  have w := H.2.2.2.2.2.2.2.1
  rw [hC.p50_0]
  refine eX7_tapeOrStagedAt ⟨fun q => h0 ?_, fun q => ⟨hC.o2, ?_⟩⟩
  · rw [I_0, I_lt hz ⟨by omega, by omega⟩] at q; omega
  rw [I_0, I_lt hz ⟨by omega, by omega⟩] at q
  rw [h.1.2.2.2.2, H.2.2.2.2.2.2.1, h.2.2.1, I_add, show v.2.2.1 1 + ((cnt : Int) - v.2.2.1 1) = cnt by omega, I_le' (by omega) (by omega) (by omega) (by omega), show (10 : Int32) = I 10 from rfl, I_le' (by omega) (by omega) (by omega) (by omega), hC.p2_1]
  refine ⟨fun q2 => h0 (by omega), fun q2 => ⟨fun q3 => absurd q3 (by omega), fun q3 => ⟨aq_of (kd := 16) (n := 10) (by decide) (by decide) (by decide) (Nat.le_trans (by decide) hC.1) (by omega) (by omega) (by decide), ?_⟩⟩⟩
  rw [I_cl (by omega) (by omega), hC.tr (by omega)]
  exact h1 (by omega) (by omega)
theorem MkH.readTape (H : MkH σ0 v B n N c) {K : Nat → Sg → Prop} {fs : Bool} (h : MkS σ0 σ v T cnt i 0) (hi : i ≤ N) (hT : TWs v.1 (v.2.2.1 0) T cnt) (hL : fs = false → Lr σ L) (hLw : fs = false → TW v.1 (v.2.2.1 0) L) (hov : fs = true → σ.2.1 50 5 = I 0)
    (h0 : ∀ (e : Int) σ', e ≠ 0 → prt (kdB B n) (vlB B n) T cnt fs i L P = (i, e, L, P) → MkS σ0 σ' v T cnt i e → K 0 σ')
    (h1 : ∀ (t : Nat) σ', t < cnt → vlB B n i = t → numF (kdB B n) (vlB B n) 0 99 i = 0 → ¬ (fs = false ∧ L 0 0 ≠ T t 0 0) → MkS σ0 σ' v T cnt (i + 1) 0 → i + 1 ≤ N → Lr σ' (if fs = true then bgn (T t 0 0) else L) → K (15 + 3 * t) σ') : Con l mX4_readTape [.inr 50, .inl (if fs = true then 1 else 0)] σ (PR K) := by
  have h10 := h.2.1.2.1
  have rv := vlB_rg B n i
  have w0 := H.2.2.2.2.2.2.2.1
  refine eX4_readTape ⟨H.ob0 h.1, H.number (lo := 0) (hi := 99) h hi ⟨by omega, by omega⟩ ⟨by omega, by omega⟩ (fun nz => ⟨H.ob2 h.1, ?_⟩) (fun nz σ1 e1 => ⟨H.ob2 (h.w6 e1).1, ?_⟩)⟩
  · have nb := numF_0.mp nz
    have i1 := H.nxF hi nz
    refine H.tapeOr h ⟨by omega, by omega⟩ (fun a b => ⟨fun _ => ⟨fun _ => ?_, fun z => absurd z (by omega)⟩, fun z => ?_⟩) (fun a => ⟨fun _ => ⟨fun z => absurd rfl z, fun _ => ?_⟩, fun z => ?_⟩)
    · have t10 : (vlB B n i).toNat < 10 := by omega
      have tp := h.1.tp (H.2.2.1 _ t10)
      have td := h.2.2.2.1 (vlB B n i).toNat (by omega)
      have tw := (hT (vlB B n i).toNat (by omega)).1.1
      rw [(h.1.C H.1).p50_2]
      have op := (h.1.tp H.2.2.2.1).ob
      refine ⟨fun z => ⟨op, tp.ob, ?_⟩, fun z => ⟨tp.ob, op, ?_⟩⟩
      · have ef : fs = false := by
          cases fs with
          | true => exact absurd z (by decide)
          | false => rfl
        obtain ⟨L', g1, g2, g3, g4⟩ := hL ef
        rw [g1.1, g2, td.1]
        refine ⟨fun q σ11 e11 => ?_, fun q => H.fail h (fun σ' e => h0 4 σ' (by omega) ?_ (h.w6 e))⟩
        · refine h1 _ σ11 (by omega) (by omega) nz (fun y => y.2 ?_) (h.inc e11) i1 ?_
          · have lw := (hLw ef).1; exact (I_eq ⟨by omega, by omega⟩ ⟨by omega, by omega⟩).mp q
          · rw [if_neg (by rw [ef]; decide)]; exact (hL ef).w e11 (by omega)
        · unfold prt
          rw [if_neg (Classical.not_not.mpr nz), if_neg (by omega), if_pos ⟨ef, fun y => q (by rw [y])⟩]
      · have ef : fs = true := by
          cases fs with
          | true => rfl
          | false => exact absurd rfl z
        rw [td.1]
        refine q_begin (h.1.tp H.2.2.2.1) (fun σ14 e14 σ16 e16 => ?_)
        have o14 : Onl [51, 52, 53] σ σ14 := by
          rw [e14]
          exact ⟨rfl, rfl, fun r hr => by
            have : r ≠ 51 := fun y => hr (by rw [y]; decide)
            rw [w1_r this, w1_r this]⟩
        have h14 := h.onl o14 (by decide)
        refine h1 _ σ16 (by omega) (by omega) nz (fun y => absurd y.1 (by rw [ef]; decide)) (h14.inc e16) i1 ?_
        rw [if_pos ef]
        refine Lr.w ⟨bgn (T (vlB B n i).toNat 0 0), ⟨?_, ?_, fun i hi => ?_⟩, rfl, ⟨by show (0 : Int) ≤ 0; omega, by show (0 : Int) ≤ 40; omega⟩, Or.inl ⟨?_, by show (0 : Int) ≤ 40; omega, rfl⟩⟩ e16 (by omega)
        · rw [e14, w1_k (by omega), w1_at]; rfl
        · rw [e14, w1_at]; rfl
        · have : (i : Int) < 0 := hi; omega
        · rw [o14.2.2 50 (by decide)]; exact hov ef
    · rw [I_m1, I_eq ⟨by omega, by omega⟩ ⟨by omega, by omega⟩] at z; omega
    · refine H.fail h (fun σ' e => h0 3 σ' (by omega) ?_ (h.w6 e))
      unfold prt
      rw [if_neg (Classical.not_not.mpr nz), if_pos (by omega)]
    · rw [I_m1, I_eq ⟨by omega, by omega⟩ ⟨by omega, by omega⟩] at z; omega
  · have h1' := h.w6 e1
    rw [I_m1]
    refine H.tapeOr h1' ⟨by omega, by omega⟩ (fun a b => absurd a (by omega)) (fun a => ⟨fun z => absurd rfl z, fun _ => h0 _ σ1 nz ?_ h1'⟩)
    unfold prt
    rw [if_pos nz]
end MKE
