/-! the class's Maker, 3: parts, lines, the text -/
section MKG
variable {l : Launch} {σ0 σ σ' : Sg} {v : Vt} {B : Nat → Int} {n N c : Nat} {T : Nat → Nat → Nat → Int} {cnt i : Nat} {f : Int} {L P : Nat → Nat → Int}
theorem chg1_f (kd vl : Nat → Int) (y : Mt) : 0 ≤ (chg1 kd vl y).2.1 ∧ (chg1 kd vl y).2.1 ≤ 5 := by
  have r := numF_rg (kd := kd) (vl := vl) (lo := 1) (hi := 9) (i := y.1 + 1)
  unfold chg1
  split
  · exact ⟨by show (0 : Int) ≤ 0; omega, by show (0 : Int) ≤ 5; omega⟩
  · split
    · exact ⟨by show (0 : Int) ≤ 0; omega, by show (0 : Int) ≤ 5; omega⟩
    · split
      · exact ⟨by show (0 : Int) ≤ 0; omega, by show (0 : Int) ≤ 5; omega⟩
      · exact ⟨r.1, by show numF kd vl 1 9 (y.1 + 1) ≤ 5; omega⟩
theorem MkH.readPart (H : MkH σ0 v B n N c) {K : Sg → Prop} {fs : Bool} (h : MkS σ0 σ v T cnt i 0) (hi : i ≤ N) (hT : TWs v.1 (v.2.2.1 0) T cnt) (hL : fs = false → Lr σ L) (hLw : fs = false → TW v.1 (v.2.2.1 0) L) (hov : fs = true → σ.2.1 50 5 = I 0)
    (hK : ∀ σ', MkS σ0 σ' v T cnt (prt (kdB B n) (vlB B n) T cnt fs i L P).1 (prt (kdB B n) (vlB B n) T cnt fs i L P).2.1 → (prt (kdB B n) (vlB B n) T cnt fs i L P).1 ≤ N → ((prt (kdB B n) (vlB B n) T cnt fs i L P).2.1 = 0 → LPr σ' (prt (kdB B n) (vlB B n) T cnt fs i L P).2.2.1 (prt (kdB B n) (vlB B n) T cnt fs i L P).2.2.2) → K σ') : Con l mX4_readPart [.inr 50, .inl (if fs = true then 1 else 0)] σ (PV K) := by
  have h10 := h.2.1.2.1
  refine eX4_readPart ⟨H.ob0 h.1, H.readTape (P := P) h hi hT hL hLw hov (fun e σ1 ne ep h1 => ⟨fun z => absurd rfl z, fun _ => ?_⟩) (fun t σ1 ht ev nz q3 h1 i1 L1 => ⟨fun _ => ?_, fun z => absurd z (by omega)⟩)⟩
  · rw [ep] at hK
    exact hK σ1 h1 hi (fun z => absurd z ne)
  · have tw := hT t ht
    have t0 := tw.1.2.1
    have nb := numF_0.mp nz
    have ep : prt (kdB B n) (vlB B n) T cnt fs i L P = if (prtG (kdB B n) (vlB B n) fs (T t) i L).2.1 = 0 then chgs (kdB B n) (vlB B n) 400 (prtG (kdB B n) (vlB B n) fs (T t) i L) else prtG (kdB B n) (vlB B n) fs (T t) i L := by
      unfold prt
      rw [ev, I_tn, if_neg (Classical.not_not.mpr nz), if_neg (by omega), if_neg q3]
    rw [ep] at hK
    refine ⟨(h1.1.tp (H.2.2.1 t (by omega))).ob, H.ob4 h1.1, ?_⟩
    rw [(h1.1.C H.1).p50_3, (h1.2.2.2.1 t ht).1]
    refine q_begin (h1.1.tp H.2.2.2.2.1) (fun σ5 e5 => ?_)
    have o5 : Onl [54, 55, 56] σ1 σ5 := by
      rw [e5]
      exact ⟨rfl, rfl, fun r hr => by
        have : r ≠ 54 := fun y => hr (by rw [y]; decide)
        rw [w1_r this, w1_r this]⟩
    have h5 := h1.onl o5 (by decide)
    have L5 : Lr σ5 (if fs = true then bgn (T t 0 0) else L) := by
      obtain ⟨L', g1, g2, g3, g4⟩ := L1
      exact ⟨L', g1.onl o5 (by decide) (by decide) (by decide), g2, g3, by rw [o5.2.2 50 (by decide)]; exact g4⟩
    have P5 : TapeD σ5 54 (bgn (T t 0 0)) := by
      refine ⟨?_, ?_, fun i hi => ?_⟩
      · rw [e5, w1_k (by omega), w1_at]; rfl
      · rw [e5, w1_at]; rfl
      · have : (i : Int) < 0 := hi; omega
    refine H.readCut h5 i1 ht ⟨t0.1, tw.2⟩ L5 P5 (fun σ7 h7 i7 x7 => ?_)
    have eg : cut0 (kdB B n) (vlB B n) (T t) (i + 1) (if fs = true then bgn (T t 0 0) else L) (bgn (T t 0 0)) = prtG (kdB B n) (vlB B n) fs (T t) i L := rfl
    rw [eg] at h7 i7 x7
    have el : (prtG (kdB B n) (vlB B n) fs (T t) i L).2.2.1 = (if fs = true then bgn (T t 0 0) else L) := by
      rw [← eg]; unfold cut0
      split
      · rfl
      · split
        · rfl
        · split
          · rfl
          · split
            · rfl
            · split
              · rfl
              · split <;> rfl
    rw [← el] at x7
    have rg : 0 ≤ (prtG (kdB B n) (vlB B n) fs (T t) i L).2.1 ∧ (prtG (kdB B n) (vlB B n) fs (T t) i L).2.1 ≤ 5 := by
      have r1 := numF_rg (kd := kdB B n) (vl := vlB B n) (lo := 0) (hi := 99) (i := i + 1 + 1)
      have r3 := numF_rg (kd := kdB B n) (vl := vlB B n) (lo := 0) (hi := 99) (i := i + 1 + 3)
      rw [← eg]; unfold cut0
      split
      · exact ⟨by show (0 : Int) ≤ 0; omega, by show (0 : Int) ≤ 5; omega⟩
      · split
        · exact ⟨r1.1, by show numF (kdB B n) (vlB B n) 0 99 (i + 1 + 1) ≤ 5; omega⟩
        · split
          · exact ⟨by show (0 : Int) ≤ 3; omega, by show (3 : Int) ≤ 5; omega⟩
          · split
            · exact ⟨by show (0 : Int) ≤ 1; omega, by show (1 : Int) ≤ 5; omega⟩
            · split
              · exact ⟨r3.1, by show numF (kdB B n) (vlB B n) 0 99 (i + 1 + 3) ≤ 5; omega⟩
              · split
                · exact ⟨by show (0 : Int) ≤ 3; omega, by show (3 : Int) ≤ 5; omega⟩
                · exact ⟨by show (0 : Int) ≤ 0; omega, by show (0 : Int) ≤ 5; omega⟩
    rw [h7.2.2.2.2.2, I_0, I_eq' (by omega) (by omega) (by omega) (by omega)]
    refine ⟨fun q => ?_, fun q => ?_⟩
    · rw [if_neg q] at hK
      exact hK σ7 h7 i7 (fun z => absurd z q)
    · rw [if_pos q] at hK
      exact H.readChanges _ q h7 i7 (x7 q) (chg1_f _ _) (fun σ9 h9 i9 x9 => hK σ9 h9 i9 x9)
/-- a joint's places on the way -/
def ipS (a b i h : Int) : Nat → Int
  | 0 => 0
  | k + 1 => ipS a b i h k + ipj a b i h k * 16 ^ k
theorem ipS_3 (a b i h : Int) : ipS a b i h 3 = ipo a b i h := by
  show 0 + ipj a b i h 0 * 1 + ipj a b i h 1 * 16 + ipj a b i h 2 * 256 = _
  unfold ipo; omega
theorem ipj_rg16 (a b : Int) (j : Nat) {i h : Int} (h0 : 0 ≤ i) (h1 : i ≤ h) (h2 : 1 ≤ h) : 0 ≤ ipj a b i h j ∧ ipj a b i h j < 16 := by
  have r := ipj_rg a b j h0 h1 h2
  have x := plc_rg a j; have y := plc_rg b j
  omega
theorem ipS_rg (a b : Int) {i h : Int} (h0 : 0 ≤ i) (h1 : i ≤ h) (h2 : 1 ≤ h) : ∀ k, k ≤ 3 → (0 ≤ ipS a b i h k ∧ ipS a b i h k < 16 ^ k) ∧ (k < 3 → plc (ipS a b i h k) k = 0) := by
  have r0 := ipj_rg16 a b 0 h0 h1 h2
  have r1 := ipj_rg16 a b 1 h0 h1 h2
  have r2 := ipj_rg16 a b 2 h0 h1 h2
  have e1 : ipS a b i h 1 = ipj a b i h 0 := by show 0 + ipj a b i h 0 * 1 = _; omega
  have e2 : ipS a b i h 2 = ipj a b i h 0 + ipj a b i h 1 * 16 := by show 0 + ipj a b i h 0 * 1 + ipj a b i h 1 * 16 = _; omega
  have e3 : ipS a b i h 3 = ipj a b i h 0 + ipj a b i h 1 * 16 + ipj a b i h 2 * 256 := by show 0 + ipj a b i h 0 * 1 + ipj a b i h 1 * 16 + ipj a b i h 2 * 256 = _; omega
  intro k hk
  unfold plc
  match k, hk with
  | 0, _ => exact ⟨⟨by show (0 : Int) ≤ 0; omega, by show (0 : Int) < 1; omega⟩, fun _ => rfl⟩
  | 1, _ => rw [e1]; exact ⟨⟨by omega, by show _ < (16 : Int); omega⟩, fun _ => by show ipj a b i h 0 / 16 % 16 = 0; omega⟩
  | 2, _ => rw [e2]; exact ⟨⟨by omega, by show _ < (256 : Int); omega⟩, fun _ => by show (ipj a b i h 0 + ipj a b i h 1 * 16) / 256 % 16 = 0; omega⟩
  | 3, _ => rw [e3]; exact ⟨⟨by omega, by show _ < (4096 : Int); omega⟩, fun z => absurd z (by omega)⟩
theorem ipS_end {A : Nat → Nat → Int} {a b i h : Int} (hw : ArmWf A) (ha : isPo A a) (hb : isPo A b) : ∀ k : Nat, A 0 2 ≤ k → k ≤ 3 → ipS a b i h k = ipo a b i h := by
  have hz : ∀ j : Nat, j < 3 → A 0 2 ≤ j → ipj a b i h j = 0 := by
    intro j hj h2
    have w := hw.2.2.2.1 j hj h2
    have x := ha.2.2 j hj; have y := hb.2.2 j hj
    have p := plc_rg a j; have q := plc_rg b j
    unfold ipj
    rw [show plc a j = 0 by omega, show plc b j = 0 by omega]
    rw [show ((0 : Int) - 0) * i = 0 by omega, Int.zero_tdiv]; omega
  refine fun k h1 h2 => ?_
  rw [← ipS_3]
  match k, h2 with
  | 3, _ => rfl
  | 2, _ => show ipS a b i h 2 = ipS a b i h 2 + ipj a b i h 2 * 256; rw [hz 2 (by omega) (by omega)]; omega
  | 1, _ =>
    show ipS a b i h 1 = ipS a b i h 1 + ipj a b i h 1 * 16 + ipj a b i h 2 * 256
    rw [hz 2 (by omega) (by omega), hz 1 (by omega) (by omega)]; omega
  | 0, _ =>
    show ipS a b i h 0 = ipS a b i h 0 + ipj a b i h 0 * 1 + ipj a b i h 1 * 16 + ipj a b i h 2 * 256
    rw [hz 2 (by omega) (by omega), hz 1 (by omega) (by omega), hz 0 (by omega) (by omega)]; omega
theorem wpo_add {p q : Int} {j : Nat} (h : plc p j = 0) : wpo p j q = p + q * 16 ^ j := by unfold wpo; rw [h, Int.sub_zero]
/-- the division of the way, as the machine does it -/
theorem way_div {a b i h : Int} (j : Nat) (h0 : 0 ≤ i) (h1 : i ≤ h) (h2 : 1 ≤ h) (h3 : h ≤ 100) : I (plc a j) + ((I (plc b j) - I (plc a j)) * I i) / I h = I (ipj a b i h j) := by
  have x := plc_rg a j; have y := plc_rg b j
  have r := ipj_rg16 a b j h0 h1 h2
  unfold ipj at r
  have m1 : -1500 ≤ (plc b j - plc a j) * i ∧ (plc b j - plc a j) * i ≤ 1500 := by
    have a1 : (plc b j - plc a j) * i ≤ 15 * i := Int.mul_le_mul_of_nonneg_right (by omega) h0
    have a2 : (-15) * i ≤ (plc b j - plc a j) * i := Int.mul_le_mul_of_nonneg_right (by omega) h0
    omega
  rw [I_sub, I_mul, I_div ⟨by omega, by omega⟩ ⟨by omega, by omega⟩ ⟨by omega, by omega⟩, I_add]
  rfl
theorem q_poseOnWay {K : Int32 → Sg → Prop} {r : Nat} {A : Nat → Nat → Int} {a b i h : Int} (hA : ArmAt σ r A) (hw : ArmWf A) (ha : isPo A a) (hb : isPo A b) (h0 : 0 ≤ i) (h1 : i ≤ h) (h2 : 1 ≤ h) (h3 : h ≤ 100) (hK : K (I (ipo a b i h)) σ) : Con l mX0_poseOnWay [.inr r, .inl (I a), .inl (I b), .inl (I i), .inl (I h)] σ (PI K) := by
  have w0 := hw.1
  obtain ⟨m, hm⟩ : ∃ m : Nat, A 0 2 = m := ⟨(A 0 2).toNat, by omega⟩
  have pa := ha.1; have pa2 := ha.2.1; have pb := hb.1; have pb2 := hb.2.1
  have F : ∀ j, j ≤ m → GW l mX0_poseOnWay 6 [(0, .inr r), (1, .inl (I a)), (2, .inl (I b)), (3, .inl (I i)), (4, .inl (I h)), (5, .inl (I (ipS a b i h j))), (6, .inl (I (j : Nat)))] [] σ 0 0 (PI K) := by
    refine lp ?_ ?_
    · refine gX0_poseOnWay_6 ⟨hA.ob, fun _ => ?_, fun q => absurd ?_ q⟩
      · rw [ipS_end hw ha hb m (by omega) (by omega)]; exact hK
      · rw [hA.jn, hm]; exact (I_le ⟨by omega, by omega⟩ ⟨by omega, by omega⟩).mpr (by omega)
    · intro j hj ih
      have s := ipS_rg a b h0 h1 h2 j (by omega)
      have g := ipj_rg16 a b j h0 h1 h2
      have sl : ipS a b i h j < 4096 := by
        have : (16 : Int) ^ j ≤ 4096 := by
          match j, (show j < 3 by omega) with
          | 0, _ => decide
          | 1, _ => decide
          | 2, _ => decide
        omega
      refine gX0_poseOnWay_6 ⟨hA.ob, fun q => ?_, fun _ => ⟨fun q => ?_, fun _ => q_placeOf pa (by omega) (by omega) (q_placeOf pb (by omega) (by omega) ⟨?_, ?_⟩)⟩⟩
      · rw [hA.jn, hm, I_le ⟨by omega, by omega⟩ ⟨by omega, by omega⟩] at q; omega
      · rw [I_0, I_le ⟨by omega, by omega⟩ ⟨by omega, by omega⟩] at q; omega
      · rw [I_0, I_eq ⟨by omega, by omega⟩ ⟨by omega, by omega⟩]; omega
      · rw [way_div j h0 h1 h2 h3]
        refine eX11_withPlace ?_
        rw [wp_I s.1.1 sl (by omega) g.1 g.2, wpo_add (s.2 (by omega)), I_1, I_add]
        exact ih
  exact eX0_poseOnWay (F 0 (by omega))
theorem itp_psh {a b h : Int} {L : Nat → Nat → Int} {k : Nat} : itp a b h L (k + 1) = psh (itp a b h L k) (ipo a b ((k + 1 : Nat) : Int) h) 0 := rfl
theorem MkH.joinPart (H : MkH σ0 v B n N c) {K : Sg → Prop} (x : Mt) (h : MkS σ0 σ v T cnt i f) (hv : Iv v.1 (v.2.2.1 0) x) (hx : LPr σ x.2.2.1 x.2.2.2) (hK : ∀ σ', MkS σ0 σ' v T cnt i f → Lr σ' (jnM v.1 x).2.2.1 → K σ') : Con l mX4_joinPart [.inr 50] σ (PV K) := by
  have w0 := H.2.2.2.2.2.2.2.1
  have hw := H.2.2.2.2.2.2.2
  have hC := h.1.C H.1
  obtain ⟨L', P', d1, d2, d3, d4, d5, d6⟩ := hx
  have l0 := hv.1.1
  have jv := jnM_iv hv
  have p51 := h.1.tp H.2.2.2.1
  have p54 := h.1.tp H.2.2.2.2.1
  refine eX4_joinPart ⟨H.ob0 h.1, H.ob2 h.1, ?_⟩
  rw [hC.p50_0, hC.p50_2]
  refine q_armOf hC (h.1.arms H.2.1) (by omega) (by omega) p51 d1 (by rw [d3]; exact l0.1) (by rw [d3]; exact l0.2.1) ?_
  rw [d3]
  obtain ⟨a, ea⟩ : ∃ a : Nat, x.2.2.1 0 0 = a := ⟨(x.2.2.1 0 0).toNat, by omega⟩
  have a2 : a < 2 := by omega
  have hwf := (hw.2.2.1 a a2).1
  have hA := (h.1.arms H.2.1).2 a a2
  have ej : (jnM v.1 x).2.2.1 = jnP (v.1 a) x.2.2.1 x.2.2.2 := by show jnP (v.1 (x.2.2.1 0 0).toNat) _ _ = _; rw [ea, I_tn]
  rw [ea, I_tn]
  refine ⟨fun z => absurd z (by omega), fun _ => ?_⟩
  rcases d6 with ⟨u1, u2, u3, u4, u5⟩ | ⟨u1, u2⟩
  · subst u4
    subst u5
    rw [u1]
    refine ⟨fun z => absurd rfl z, fun _ => ⟨H.ob4 h.1, ?_⟩⟩
    have L0 : Lr σ x.2.2.1 := ⟨x.2.2.1, d1, rfl, d4, Or.inl ⟨u1, u2, rfl⟩⟩
    rw [hC.p50_2, hC.p50_3, d2.2.1, I_0, I_eq' (by omega) (by omega) (by omega) (by omega)]
    refine ⟨fun pz => ⟨p51.ob, ?_⟩, fun pz => hK σ h ?_⟩
    · have p0 : isPo (v.1 a) (x.2.2.2 1 0) := by
        have := (hv.2.1.2.2 0 (by omega)).1
        rw [hv.2.2, ea, I_tn] at this; exact this
      -- what the joining does, once the ticks between are known
      have J : ∀ (m : Nat) (a0 : Int), btw (v.1 a) x.2.2.1 x.2.2.2 = m → m ≤ 15 → (1 ≤ m → 0 < x.2.2.1 0 1 ∧ a0 = x.2.2.1 1 (x.2.2.1 0 1 - 1).toNat ∧ hop (v.1 a) (x.2.2.1 1 (x.2.2.1 0 1 - 1).toNat) (x.2.2.2 1 0) = m + 1) → GW l mX4_joinPart 71 [(0, .inr 50), (1, .inr (5 + 5 * a)), (2, .inl (I a0)), (3, .inl (I (x.2.2.2 1 0)))] [.inl (I (m : Nat))] σ 0 0 (PV K) := by
        intro m a0 hm m15 hm1
        refine gX4_joinPart_71 ⟨H.ob0 h.1, H.ob3 h.1, H.ob4 h.1, ?_⟩
        rw [hC.p50_2, hC.p50_3, d1.2.1, d2.2.1, I_add, I_add, show (40 : Int32) = I 40 from rfl, I_le' (by omega) (by omega) (by omega) (by omega)]
        have ct := jnP_01 (A0 := v.1 a) (L := x.2.2.1) (P := x.2.2.2) ⟨d4.1, by omega⟩ (by omega)
        rw [hm] at ct
        refine ⟨fun le => ?_, fun gt σ5 e5 => ?_⟩
        · have fin : ∀ (σ1 : Sg) (Q : Nat → Nat → Int), Onl [51, 52, 53] σ σ1 → TapeD σ1 51 Q → Q 0 1 = x.2.2.1 0 1 + m → jnP (v.1 a) x.2.2.1 x.2.2.2 = cpy Q x.2.2.2 0 (x.2.2.2 0 1).toNat → Con l mX9_addCut [.inr 51, .inr 54, .inl 0, .inl (I (x.2.2.2 0 1) - 1)] σ1 (PV K) := by
            intro σ1 Q o1 D1 cq ejq
            rw [I_1, I_sub, show (0 : Int32) = I ((0 : Nat) : Int) from rfl]
            refine q_addCut (k := (x.2.2.2 0 1).toNat) (p51.onl o1) (p54.onl o1) (by omega) D1 (d2.onl o1 (by decide) (by decide) (by decide)) (by omega) (by omega) (by omega) d5.2 (by omega) (fun σ2 o2 D2 => ?_)
            rw [← ejq] at D2
            refine hK σ2 ((h.onl o1 (by decide)).onl o2 (by decide)) ⟨_, D2, ?_, ?_, Or.inl ⟨?_, ?_, ej.symm⟩⟩
            · rw [ej]
            · rw [ct]; omega
            · rw [o2.2.2 50 (by decide), o1.2.2 50 (by decide)]; exact u1
            · rw [ej, ct]; omega
          by_cases mz : m = 0
          · -- nothing between
            refine gX4_joinPart_105 ⟨fun _ => ⟨H.ob0 h.1, H.ob4 h.1, H.ob3 h.1, ?_⟩, fun z => absurd ((I_lt (a := (m : Int)) (b := 1) ⟨by omega, by omega⟩ ⟨by omega, by omega⟩).mpr (by omega)) z⟩
            rw [hC.p50_2, hC.p50_3, d2.2.1]
            refine fin σ _ (Onl.rf _ _) d1 (by omega) ?_
            unfold jnP
            rw [if_neg (by omega)]
            by_cases lz : x.2.2.1 0 1 = 0
            · rw [if_pos lz]
            · rw [if_neg lz]
              have : (hop (v.1 a) (x.2.2.1 1 (x.2.2.1 0 1 - 1).toNat) (x.2.2.2 1 0) - 1).toNat = 0 := by
                have := hm; unfold btw at this; rw [if_neg lz] at this; omega
              rw [this]; rfl
          · obtain ⟨lp0, ea0, eh⟩ := hm1 (by omega)
            have q0 : isPo (v.1 a) a0 := by
              rw [ea0]
              have := (hv.1.2.2 (x.2.2.1 0 1 - 1).toNat (by omega)).1
              rw [ea, I_tn] at this; exact this
            have F : ∀ k, k ≤ m → ∀ σ1, Onl [51, 52, 53] σ σ1 → TapeD σ1 51 (itp a0 (x.2.2.2 1 0) ((m : Int) + 1) x.2.2.1 k) → GW l mX4_joinPart 105 [(0, .inr 50), (1, .inr (5 + 5 * a)), (2, .inl (I a0)), (3, .inl (I (x.2.2.2 1 0))), (4, .inl (I (m : Nat))), (5, .inl (I ((k + 1 : Nat) : Int)))] [] σ1 0 0 (PV K) := by
              refine lp ?_ ?_
              · intro σ1 o1 D1
                have h1 := h.onl o1 (by decide)
                have C1 := h1.1.C H.1
                refine gX4_joinPart_105 ⟨fun _ => ⟨H.ob0 h1.1, H.ob4 h1.1, H.ob3 h1.1, ?_⟩, fun z => absurd ((I_lt ⟨by omega, by omega⟩ ⟨by omega, by omega⟩).mpr (by omega)) z⟩
                rw [C1.p50_2, C1.p50_3, (d2.onl o1 (by decide) (by decide) (by decide)).2.1]
                refine fin σ1 _ o1 D1 (by rw [itp_01 ⟨d4.1, by omega⟩]; omega) ?_
                unfold jnP
                rw [if_neg (by omega), if_neg (by omega), ← ea0]
                rw [← ea0] at eh
                rw [eh, show ((m : Int) + 1 - 1).toNat = m by omega]
              · intro k hk ih σ1 o1 D1
                have h1 := h.onl o1 (by decide)
                have C1 := h1.1.C H.1
                have ck : itp a0 (x.2.2.2 1 0) ((m : Int) + 1) x.2.2.1 k 0 1 = x.2.2.1 0 1 + k := by rw [itp_01 ⟨d4.1, by omega⟩]; omega
                refine gX4_joinPart_105 ⟨fun z => ?_, fun _ => ⟨H.ob0 h1.1, ((h1.1.arms H.2.1).2 a a2).ob, ?_⟩⟩
                · rw [I_lt ⟨by omega, by omega⟩ ⟨by omega, by omega⟩] at z; omega
                rw [I_1, I_add]
                refine q_poseOnWay ((h1.1.arms H.2.1).2 a a2) hwf q0 p0 (by omega) (by omega) (by omega) (by omega) ⟨?_, ?_⟩
                · rw [C1.p50_2]; exact (p51.onl o1).ob
                · rw [C1.p50_2, show (0 : Int32) = I 0 from rfl]
                  refine q_addTick (p51.onl o1) D1 (by omega) (by omega) (fun lt σ2 n2 r2 E2 D2 => ?_) (fun z => absurd (by omega) z)
                  rw [I_add]
                  refine ih σ2 (o1.tr ⟨n2, r2, fun q hq => E2 q (fun z => hq ?_)⟩) ?_
                  · simp only [List.mem_cons, List.not_mem_nil, or_false]; omega
                  · rw [itp_psh, psh_t (by omega)]; exact D2
            exact F 0 (by omega) σ (Onl.rf _ _) d1
        · refine hK σ5 (h.w5 e5) ⟨x.2.2.1, d1.onl (Onl.w (S := [50]) e5 (by simp)) (by decide) (by decide) (by decide), ?_, d4, Or.inr ⟨by rw [e5, w1_at]; rfl, ?_⟩⟩
          · rw [ej, jnP_00]
          · rw [ej, ct]; omega
      have gl : ∀ y : Int, Con l mX9_poseAt [.inr 54, .inl 0] σ (PI fun x10 σ10 => Ob σ10 (σ10.2.2 50 2) 9 ∧ ((¬ (σ10.2.1 (σ10.2.2 50 2) 3) = 0 → Ob σ10 (5 + 5 * a) 0 ∧ Con l mX0_ticksBetween [.inr (5 + 5 * a), .inl (I y), .inl x10] σ10 (PI (fun x14 σ14 => GW l mX4_joinPart 71 [(0, .inr 50), (1, .inr (5 + 5 * a)), (2, .inl (I y)), (3, .inl x10)] [.inl x14] σ14 0 0 (PV K)))) ∧ ((σ10.2.1 (σ10.2.2 50 2) 3) = 0 → GW l mX4_joinPart 71 [(0, .inr 50), (1, .inr (5 + 5 * a)), (2, .inl (I y)), (3, .inl x10)] [.inl 0] σ10 0 0 (PV K)))) ∨ ¬ (0 < x.2.2.1 0 1 → y = x.2.2.1 1 (x.2.2.1 0 1 - 1).toNat) := by
        intro y
        by_cases hy : 0 < x.2.2.1 0 1 → y = x.2.2.1 1 (x.2.2.1 0 1 - 1).toNat
        · left
          rw [show (0 : Int32) = I 0 from rfl]
          refine q_poseAt p54 d2 d5.1 d5.2 ⟨by omega, by omega⟩ (fun _ _ => ⟨H.ob3 h.1, ?_⟩) (fun z => absurd ⟨by omega, by omega⟩ z)
          rw [hC.p50_2, d1.2.1, I_eq' (by omega) (by omega) (by omega) (by omega), show (0 : Int).toNat = 0 from rfl]
          refine ⟨fun lz => ⟨hA.ob, ?_⟩, fun lz => ?_⟩
          · have hy' := hy (by omega)
            have q0 : isPo (v.1 a) y := by
              rw [hy']
              have := (hv.1.2.2 (x.2.2.1 0 1 - 1).toNat (by omega)).1
              rw [ea, I_tn] at this; exact this
            have hr := hps_rg hwf y (x.2.2.2 1 0) (v.1 a 0 2).toNat (by have := hwf.1; omega)
            have hr2 : 0 ≤ hop (v.1 a) y (x.2.2.2 1 0) ∧ hop (v.1 a) y (x.2.2.2 1 0) ≤ 15 := hr
            refine eX0_ticksBetween ⟨hA.ob, q_hop hA hwf q0.1 (by have := q0.2.1; omega) p0.1 (by have := p0.2.1; omega) ?_⟩
            rw [I_1, I_sub]
            refine q_max (b := 0) ⟨by omega, by omega⟩ ⟨by omega, by omega⟩ ?_
            have eb : btw (v.1 a) x.2.2.1 x.2.2.2 = (hop (v.1 a) y (x.2.2.2 1 0) - 1).toNat := by unfold btw; rw [if_neg lz, hy']
            rw [show max (hop (v.1 a) y (x.2.2.2 1 0) - 1) 0 = (((hop (v.1 a) y (x.2.2.2 1 0) - 1).toNat : Nat) : Int) by omega]
            exact J _ y eb (by omega) (fun z => ⟨by omega, hy', by rw [← hy']; omega⟩)
          · exact J 0 y (by unfold btw; rw [if_pos lz]) (by omega) (fun z => absurd z (by omega))
        · exact Or.inr hy
      refine q_lastPose p51 d1 d4.1 d4.2 (fun lt => ⟨H.ob4 h.1, ?_⟩) (fun lz => ⟨H.ob4 h.1, ?_⟩)
      · rw [hC.p50_3]
        exact (gl _).resolve_right (fun z => z (fun _ => rfl))
      · rw [hC.p50_3, show (0 : Int32) = I 0 from rfl]
        exact (gl 0).resolve_right (fun z => z (fun y => by omega))
    · rw [ej]
      unfold jnP
      rw [if_pos pz]; exact L0
  · rw [u1]
    refine ⟨fun _ => hK σ h ⟨L', d1, ?_, d4, Or.inr ⟨u1, ?_⟩⟩, fun z => absurd z (by decide)⟩
    · rw [ej, jnP_00]; exact d3
    · rcases u2 with u2 | u2
      · exact jv.2.2 u2
      · exact jv.2.1 u2
end MKG
