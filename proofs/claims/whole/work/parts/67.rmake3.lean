/-! the reference's make, 3: lines, the text; make -/
section RML
variable {l : Launch} {σ0 σ σ' : Sg} {v : Vt} {B : Nat → Int} {n c : Nat} {T : Nat → Nat → Nat → Int} {cnt i : Nat} {f : Int} {L P : Nat → Nat → Int}
/-- a line is closed: its tape is put down -/
theorem RkS.store (H : RkH σ0 v B n c) {K : Sg → Prop} {y : Int32} (h : RkS σ0 σ v B n T cnt i 0) (hT : TWs v.1 (v.2.2.1 0) T cnt) (hL : RLr σ L) (l0 : 0 ≤ L 0 1 ∧ L 0 1 ≤ 40) (hc : cnt < 10) (hK : ∀ σ', RkS σ0 σ' v B n (fun t => if t = cnt then L else T t) (cnt + 1) (i + 1) 0 → K σ') : GW l mX12_line 125 [(0, .inr 82), (1, .inl y)] [] σ 0 0 (PV K) := by
  have M0 := h.M H
  have h21 := h.2.2.1
  have tA := h.2.1
  obtain ⟨m, hm⟩ : ∃ m : Nat, L 0 1 = m := ⟨(L 0 1).toNat, by omega⟩
  refine gX12_line_125 ⟨M0.ob, fun _ => ?_, fun q => absurd h.2.2.2.2.2.1 q⟩
  rw [h21]
  refine ⟨M0.a17 (by omega) (by omega), fun σ4 e4 => ?_⟩
  rw [M0.k17, I_cln (by omega), hL.2.1] at e4
  have w4 : Ws [] RC σ σ4 := Ws.c e4 (by decide) (by omega)
  have M4 := w4.M M0
  have h4 : σ4.2.1 82 21 = I (cnt : Nat) := by rw [e4, w1_r (by omega)]; exact h21
  rw [h4]
  refine ⟨M4.a18 (by omega) (by omega), fun σ6 e6 => ?_⟩
  have h36 : σ4.2.1 82 36 = I (L 0 1) := by rw [e4, w1_r (by omega)]; exact hL.1
  rw [M4.k18, I_cln (by omega), h36] at e6
  have w6 : Ws [] RC σ σ6 := w4.tr (Ws.c e6 (by decide) (by omega))
  -- the ticks
  have F : ∀ j, j ≤ m → ∀ σ1, Ws [] RC σ σ1 → (∀ r, r ≠ 98 → r ≠ 99 → σ1.2.1 r = σ6.2.1 r) → (∀ x, x < 40 * cnt → σ1.2.1 98 x = σ.2.1 98 x ∧ σ1.2.1 99 x = σ.2.1 99 x) → (∀ x, x < j → σ1.2.1 98 (40 * cnt + x) = I (L 1 x) ∧ σ1.2.1 99 (40 * cnt + x) = I (L 2 x)) → GW l mX12_line 161 [(0, .inr 82), (1, .inl (I (j : Nat)))] [] σ1 0 0 (PV K) := by
    refine lp ?_ ?_
    · intro σ1 w1' E1 O1 N1
      have M1 := w1'.M M0
      have k36 : σ1.2.1 82 36 = I (m : Int) := by rw [w1'.2.2.2 36 (by decide), hL.1, hm]
      have k21 : σ1.2.1 82 21 = I (cnt : Nat) := by rw [w1'.2.2.2 21 (by decide)]; exact h21
      refine gX12_line_161 ⟨M1.ob, fun _ σ3 e3 => ?_, fun z => absurd ?_ z⟩
      · rw [k21, I_1, I_add] at e3
        have w3 : Ws [21] RC σ σ3 := (w1'.up (by decide) (fun r hr => hr)).tr (Ws.w e3 (by decide))
        have s3 : RkS σ0 σ3 v B n (fun t => if t = cnt then L else T t) (cnt + 1) i 0 := by
          refine ⟨h.1.tr (w3.up (by decide) (fun r hr => hr)), ⟨by omega, by omega⟩, by rw [e3, w1_at]; rfl, fun t ht => ?_, h.2.2.2.2.1.ws w3 (by decide), by rw [w3.2.2.2 27 (by decide)]; exact h.2.2.2.2.2.1, by rw [w3.2.2.2 28 (by decide)]; exact h.2.2.2.2.2.2⟩
          have r96 : σ3.2.1 96 = σ6.2.1 96 := by rw [e3, w1_r (by omega), E1 96 (by omega) (by omega)]
          have r97 : σ3.2.1 97 = σ6.2.1 97 := by rw [e3, w1_r (by omega), E1 97 (by omega) (by omega)]
          have r98 : σ3.2.1 98 = σ1.2.1 98 := by rw [e3, w1_r (by omega)]
          have r99 : σ3.2.1 99 = σ1.2.1 99 := by rw [e3, w1_r (by omega)]
          rw [r96, r97, r98, r99]
          by_cases et : t = cnt
          · have eT : (fun t => if t = cnt then L else T t) t = L := by show (if t = cnt then L else T t) = L; rw [if_pos et]
            rw [eT, et]
            refine ⟨?_, by rw [e6, w1_at], fun i hi => N1 i (by omega)⟩
            rw [e6, w1_r (by omega), e4, w1_at]
          · have eT : (fun t => if t = cnt then L else T t) t = T t := by show (if t = cnt then L else T t) = T t; rw [if_neg et]
            rw [eT]
            have old := h.2.2.2.1 t (by omega)
            have t40 := (hT t (by omega)).2
            refine ⟨?_, ?_, fun i hi => ?_⟩
            · rw [e6, w1_r (by omega), e4, w1_k et]; exact old.1
            · rw [e6, w1_k et, e4, w1_r (by omega)]; exact old.2.1
            · rw [(O1 (40 * t + i) (by omega)).1, (O1 (40 * t + i) (by omega)).2]; exact old.2.2 i hi
        exact s3.next H (fun σ5 w5 s5 => hK σ5 s5)
      · rw [k36]; exact (I_le ⟨by omega, by omega⟩ ⟨by omega, by omega⟩).mpr (by omega)
    · intro j hj ih σ1 w1' E1 O1 N1
      have M1 := w1'.M M0
      have k36 : σ1.2.1 82 36 = I (m : Int) := by rw [w1'.2.2.2 36 (by decide), hL.1, hm]
      have k21 : σ1.2.1 82 21 = I (cnt : Nat) := by rw [w1'.2.2.2 21 (by decide)]; exact h21
      have q102 : σ1.2.1 102 j = I (L 1 j) := by rw [E1 102 (by omega) (by omega), e6, w1_r (by omega), e4, w1_r (by omega)]; exact (hL.2.2 j (by omega)).1
      have q103 : σ1.2.1 103 j = I (L 2 j) := by rw [E1 103 (by omega) (by omega), e6, w1_r (by omega), e4, w1_r (by omega)]; exact (hL.2.2 j (by omega)).2
      refine gX12_line_161 ⟨M1.ob, fun z => ?_, fun _ => ?_⟩
      · rw [k36, I_le ⟨by omega, by omega⟩ ⟨by omega, by omega⟩] at z; omega
      rw [k21, ix40]
      refine ⟨M1.a34 (by omega) (by omega), M1.a19 (by omega) (by omega), fun σ7 e7 => ?_⟩
      rw [M1.k19, M1.k34, I_cln (by omega), I_cln (by omega), q102] at e7
      have w7 : Ws [] RC σ σ7 := w1'.tr (Ws.c e7 (by decide) (by omega))
      have M7 := w7.M M0
      have k7 : σ7.2.1 82 21 = I (cnt : Nat) := by rw [w7.2.2.2 21 (by decide)]; exact h21
      rw [k7, ix40]
      refine ⟨M7.a35 (by omega) (by omega), M7.a20 (by omega) (by omega), fun σ10 e10 => ?_⟩
      rw [M7.k20, M7.k35, I_cln (by omega), I_cln (by omega), show σ7.2.1 103 j = I (L 2 j) by rw [e7, w1_r (by omega)]; exact q103] at e10
      rw [I_1, I_add]
      refine ih σ10 (w7.tr (Ws.c e10 (by decide) (by omega))) (fun r a b => by rw [e10, w1_r b, e7, w1_r a]; exact E1 r a b) (fun x hx => ?_) (fun x hx => ?_)
      · rw [e10, w1_r (by omega), w1_k (by omega), e7, w1_k (by omega), w1_r (by omega)]; exact O1 x hx
      · rw [e10, w1_r (by omega), e7]
        by_cases z : x = j
        · rw [z, w1_at, w1_at]; exact ⟨rfl, rfl⟩
        · rw [w1_k (by omega), w1_k (by omega), w1_r (by omega)]; exact N1 x (by omega)
  exact F 0 (by omega) σ6 w6 (fun _ _ _ => rfl) (fun x hx => ⟨by rw [e6, w1_r (by omega), e4, w1_r (by omega)], by rw [e6, w1_r (by omega), e4, w1_r (by omega)]⟩) (fun x hx => absurd hx (by omega))
theorem RkS.line38F (H : RkH σ0 v B n c) {K : Sg → Prop} {y : Int32} (h : RkS σ0 σ v B n T cnt i f) (hf : f ≠ 0) (h5 : 0 ≤ f ∧ f ≤ 5) (hK : K σ) : GW l mX12_line 38 [(0, .inr 82), (1, .inl y)] [] σ 0 0 (PV K) := by
  refine gX12_line_38 ⟨(h.M H).ob, h.isWord H (w := 1) h5 ⟨by omega, by omega⟩ (fun z => absurd z hf) (fun _ => ⟨fun _ => ⟨fun q => ?_, fun _ => hK⟩, fun z => absurd rfl z⟩)⟩
  rw [h.2.2.2.2.2.1, I_0, I_eq ⟨by omega, by omega⟩ ⟨by omega, by omega⟩] at q
  exact absurd q hf
theorem RkS.line125F (H : RkH σ0 v B n c) {K : Sg → Prop} {y : Int32} (h : RkS σ0 σ v B n T cnt i f) (hf : f ≠ 0) (h5 : 0 ≤ f ∧ f ≤ 5) (hK : K σ) : GW l mX12_line 125 [(0, .inr 82), (1, .inl y)] [] σ 0 0 (PV K) := by
  refine gX12_line_125 ⟨(h.M H).ob, fun q => ?_, fun _ => hK⟩
  rw [h.2.2.2.2.2.1, I_0, I_eq ⟨by omega, by omega⟩ ⟨by omega, by omega⟩] at q
  exact absurd q hf
theorem RkS.line (H : RkH σ0 v B n c) {K : Sg → Prop} (x : Mt) (h : RkS σ0 σ v B n T cnt x.1 0) (hT : TWs v.1 (v.2.2.1 0) T cnt)
    (h1 : (lin (kdB B n) (vlB B n) v.1 T cnt x).2.1 ≠ 0 → ∀ σ', RkS σ0 σ' v B n T cnt (lin (kdB B n) (vlB B n) v.1 T cnt x).1 (lin (kdB B n) (vlB B n) v.1 T cnt x).2.1 → K σ')
    (h2 : (lin (kdB B n) (vlB B n) v.1 T cnt x).2.1 = 0 → ∀ σ', RkS σ0 σ' v B n (fun t => if t = cnt then (lin (kdB B n) (vlB B n) v.1 T cnt x).2.2.1 else T t) (cnt + 1) (lin (kdB B n) (vlB B n) v.1 T cnt x).1 0 → K σ') : Con l mX12_line [.inr 82] σ (PV K) := by
  have c10 := h.2.1.2
  generalize eR : lin (kdB B n) (vlB B n) v.1 T cnt x = R at h1 h2
  -- a fault e at token i
  have bad : ∀ (σ1 : Sg) (i : Nat) (e : Int) (y : Int32) (L P : Nat → Nat → Int), RkS σ0 σ1 v B n T cnt i 0 → (1 ≤ e ∧ e ≤ 5) → R = (i, e, L, P) → Con l mX12_wrong [.inr 82, .inl (I e)] σ1 (PV (fun σ7 => GW l mX12_line 125 [(0, .inr 82), (1, .inl y)] [] σ7 0 0 (PV K))) := by
    intro σ1 i e y L P s1 he er
    rw [er] at h1
    exact s1.wrong H (by omega) (fun σ7 w7 s7 => s7.line125F H (by omega) ⟨by omega, by omega⟩ (h1 (by show e ≠ 0; omega) σ7 s7))
  have C : ∀ (y : Mt) (σ1 : Sg) (z : Int32), RkS σ0 σ1 v B n T cnt y.1 0 → RLr σ1 y.2.2.1 → TW v.1 (v.2.2.1 0) y.2.2.1 → kdB B n y.1 ≠ 5 → clo (kdB B n) cnt y = R → GW l mX12_line 38 [(0, .inr 82), (1, .inl z)] [] σ1 0 0 (PV K) := by
    intro y σ1 z s1 L1 W1 k5 er
    have t := s1.2.2.2.2.1
    have r := kdB_rg B n y.1
    have l0 := W1.2.1
    unfold clo at er
    refine gX12_line_38 ⟨(s1.M H).ob, s1.isWord H (w := 1) ⟨by omega, by omega⟩ ⟨by omega, by omega⟩ (fun _ q => absurd q (by omega)) (fun _ => ⟨fun _ => ⟨fun _ => ?_, fun q => absurd s1.2.2.2.2.2.1 q⟩, fun z => absurd rfl z⟩)⟩
    by_cases k3 : kdB B n y.1 = 3
    · rw [if_neg (Classical.not_not.mpr k3)] at er
      rw [t.2.2.2.2.2.2.1 k3, L1.1, s1.2.2.1, show (40 : Int32) = I 40 from rfl, I_lt' (by omega) (by omega) (by omega) (by omega), show (10 : Int32) = I 10 from rfl, I_eq' (by omega) (by omega) (by omega) (by omega)]
      refine ⟨fun _ => ⟨fun q => ?_, fun q => ⟨fun q2 => ?_, fun q2 => ?_⟩⟩, fun q => absurd rfl q⟩
      · rw [if_pos (Or.inl q)] at er
        exact bad σ1 y.1 5 z _ _ s1 ⟨by omega, by omega⟩ er.symm
      · rw [if_neg (by omega)] at er
        rw [← er] at h2
        exact s1.store H hT L1 ⟨l0.1, by omega⟩ (by omega) (fun σ' s' => h2 rfl σ' s')
      · rw [if_pos (Or.inr (by omega))] at er
        exact bad σ1 y.1 5 z _ _ s1 ⟨by omega, by omega⟩ er.symm
    · rw [if_pos k3] at er
      obtain ⟨s, e1, e2⟩ : ∃ s : Int, σ1.2.1 82 25 = I s ∧ 0 ≤ s ∧ s ≤ 4 ∧ s ≠ 2 := by
        have : kdB B n y.1 = 0 ∨ kdB B n y.1 = 1 ∨ kdB B n y.1 = 2 ∨ 4 ≤ kdB B n y.1 := by omega
        rcases this with e | e | e | e
        · exact ⟨3, t.2.2.2.1 e, by omega, by omega, by omega⟩
        · exact ⟨4, t.2.2.2.2.1 e, by omega, by omega, by omega⟩
        · exact ⟨1, (t.2.2.2.2.2.1 e).1, by omega, by omega, by omega⟩
        · exact ⟨0, (t.2.2.2.2.2.2.2 e).1, by omega, by omega, by omega⟩
      refine ⟨fun q => ?_, fun _ => bad σ1 y.1 1 z _ _ s1 ⟨by omega, by omega⟩ er.symm⟩
      rw [e1, show (2 : Int32) = I 2 from rfl, I_eq ⟨by omega, by omega⟩ ⟨by omega, by omega⟩] at q
      exact absurd q e2.2.2
  -- after k parts, r more may come
  have F : ∀ (r k : Nat) (y : Mt) (σ1 : Sg), k + r = 8 → 1 ≤ k → RkS σ0 σ1 v B n T cnt y.1 0 → RLr σ1 y.2.2.1 → TW v.1 (v.2.2.1 0) y.2.2.1 → lnT (kdB B n) (vlB B n) v.1 T cnt r y = R → GW l mX12_line 38 [(0, .inr 82), (1, .inl (I (k : Nat)))] [] σ1 0 0 (PV K) := by
    intro r
    induction r with
    | zero =>
      intro k y σ1 hk hk1 s1 L1 W1 er
      have er : (if kdB B n y.1 = 5 then (y.1, (2 : Int), y.2.2.1, y.2.2.2) else clo (kdB B n) cnt y) = R := er
      by_cases k5 : kdB B n y.1 = 5
      · rw [if_pos k5] at er
        refine gX12_line_38 ⟨(s1.M H).ob, s1.isWord H (w := 1) ⟨by omega, by omega⟩ ⟨by omega, by omega⟩ (fun _ _ => ⟨fun z => absurd z (by decide), fun _ => ?_⟩) (fun q => absurd ⟨rfl, by omega⟩ q)⟩
        rw [show (8 : Int32) = I 8 from rfl, I_eq' (by omega) (by omega) (by omega) (by omega)]
        refine ⟨fun z => absurd (by omega) z, fun _ => s1.wrong H (x := 2) (by omega) (fun σ2 w2 s2 => gX12_line_64 ⟨(s2.M H).ob, s2.partF H (by omega) ⟨by omega, by omega⟩ (s2.joinF H (by omega) ⟨by omega, by omega⟩ (s2.line38F H (by omega) ⟨by omega, by omega⟩ ?_))⟩)⟩
        rw [← er] at h1
        exact h1 (by show ¬ (2 : Int) = 0; omega) σ2 s2
      · rw [if_neg k5] at er
        exact C y σ1 _ s1 L1 W1 k5 er
    | succ r ih =>
      intro k y σ1 hk hk1 s1 L1 W1 er
      have er : (if kdB B n y.1 = 5 then (if (prt (kdB B n) (vlB B n) T cnt false (y.1 + 1) y.2.2.1 y.2.2.2).2.1 = 0 then lnT (kdB B n) (vlB B n) v.1 T cnt r (jnM v.1 (prt (kdB B n) (vlB B n) T cnt false (y.1 + 1) y.2.2.1 y.2.2.2)) else prt (kdB B n) (vlB B n) T cnt false (y.1 + 1) y.2.2.1 y.2.2.2) else clo (kdB B n) cnt y) = R := er
      by_cases k5 : kdB B n y.1 = 5
      · rw [if_pos k5] at er
        refine gX12_line_38 ⟨(s1.M H).ob, s1.isWord H (w := 1) ⟨by omega, by omega⟩ ⟨by omega, by omega⟩ (fun _ _ => ⟨fun z => absurd z (by decide), fun _ => ?_⟩) (fun q => absurd ⟨rfl, by omega⟩ q)⟩
        rw [show (8 : Int32) = I 8 from rfl, I_eq' (by omega) (by omega) (by omega) (by omega)]
        refine ⟨fun _ => s1.next H (fun σ2 w2 s2 => gX12_line_64 ⟨(s2.M H).ob, ?_⟩), fun z => absurd z (by omega)⟩
        have L2 := L1.ws w2 (by decide) (by decide) (by decide) (by decide)
        have pv := prt_iv (kd := kdB B n) (vl := vlB B n) (fs := false) (i := y.1 + 1) (L := y.2.2.1) (P := y.2.2.2) hT (fun _ => W1)
        refine s2.part H (fs := false) (L := y.2.2.1) (P := y.2.2.2) hT (fun _ => ⟨L2, W1⟩) (fun q => absurd q (by decide)) (fun σ3 s3 x3 => ?_)
        by_cases q : (prt (kdB B n) (vlB B n) T cnt false (y.1 + 1) y.2.2.1 y.2.2.2).2.1 = 0
        · rw [if_pos q] at er
          rw [q] at s3
          refine s3.joinPart H _ (pv.1 q) (x3 q).1 (x3 q).2 (fun σ4 s4 L4 => ?_)
          rw [I_1, I_add]
          exact ih (k + 1) (jnM v.1 (prt (kdB B n) (vlB B n) T cnt false (y.1 + 1) y.2.2.1 y.2.2.2)) σ4 (by omega) (by omega) s4 L4 (jnM_iv (pv.1 q)).1 er
        · rw [if_neg q] at er
          rw [← er] at h1
          exact s3.joinF H q ⟨pv.2.1, pv.2.2.1⟩ (s3.line38F H q ⟨pv.2.1, pv.2.2.1⟩ (h1 q σ3 s3))
      · rw [if_neg k5] at er
        exact C y σ1 _ s1 L1 W1 k5 er
  refine eX12_line ⟨(h.M H).ob, h.isWord H (w := 0) ⟨by omega, by omega⟩ ⟨by omega, by omega⟩ (fun _ k4 => ⟨fun _ => ?_, fun z => absurd z (by decide)⟩) (fun k4 => ⟨fun z => absurd rfl z, fun _ => ?_⟩)⟩
  · have k4' : kdB B n x.1 = 4 := by omega
    have el : (if (prt (kdB B n) (vlB B n) T cnt true (x.1 + 1) x.2.2.1 x.2.2.2).2.1 = 0 then lnT (kdB B n) (vlB B n) v.1 T cnt 7 (jnM v.1 (prt (kdB B n) (vlB B n) T cnt true (x.1 + 1) x.2.2.1 x.2.2.2)) else prt (kdB B n) (vlB B n) T cnt true (x.1 + 1) x.2.2.1 x.2.2.2) = R := by rw [← eR]; unfold lin; rw [if_pos k4']
    refine h.next H (fun σ4 w4 s4 σ5 e5 σ6 e6 => ?_)
    have w6 : Ws [36, 37] [] σ4 σ6 := (Ws.w e5 (by decide)).tr (Ws.w e6 (by decide))
    have s6 := s4.ws w6 (by decide) (by decide)
    have pv := prt_iv (kd := kdB B n) (vl := vlB B n) (fs := true) (i := x.1 + 1) (L := x.2.2.1) (P := x.2.2.2) hT (fun q => absurd q (by decide))
    refine s6.part H (fs := true) (L := x.2.2.1) (P := x.2.2.2) hT (fun q => absurd q (by decide)) (fun _ => ⟨by rw [e6, w1_k (by omega), e5, w1_at]; rfl, by rw [e6, w1_at]; rfl⟩) (fun σ7 s7 x7 => ?_)
    by_cases q : (prt (kdB B n) (vlB B n) T cnt true (x.1 + 1) x.2.2.1 x.2.2.2).2.1 = 0
    · rw [if_pos q] at el
      rw [q] at s7
      refine s7.joinPart H _ (pv.1 q) (x7 q).1 (x7 q).2 (fun σ8 s8 L8 => ?_)
      exact F 7 1 (jnM v.1 (prt (kdB B n) (vlB B n) T cnt true (x.1 + 1) x.2.2.1 x.2.2.2)) σ8 (by omega) (by omega) s8 L8 (jnM_iv (pv.1 q)).1 el
    · rw [if_neg q] at el
      rw [← el] at h1
      exact s7.joinF H q ⟨pv.2.1, pv.2.2.1⟩ (s7.line38F H q ⟨pv.2.1, pv.2.2.1⟩ (h1 q σ7 s7))
  · have el : R = (x.1, 1, x.2.2.1, x.2.2.2) := by rw [← eR]; unfold lin; rw [if_neg (fun z => k4 ⟨rfl, by omega⟩)]
    rw [el] at h1
    exact h.wrong H (x := 1) (by omega) (fun σ1 w1' s1 => h1 (by show ¬ (1 : Int) = 0; omega) σ1 s1)
theorem M_make {z : Int} (h : MR σ v) (hw : WF c v) (hz : Rg z) : Con l mX12_make [.inr 82, .inl (I z)] σ (PI fun x σ' => x = I (aMake v z) ∧ MR σ' (nMake v z) ∧ MF σ σ') := by
  have w0 := hw.1
  have a := hz.1; have b := hz.2
  refine eX12_make ⟨h.1.ob, fun σ2 e2 => ?_⟩
  obtain ⟨h, f⟩ := h.w e2 (by decide)
  have no : ∀ {q : Int32}, q = -2 → ¬ okMk v z → q = I (aMake v z) ∧ MR σ2 (nMake v z) ∧ MF σ σ2 := by
    intro q e hq
    unfold nMake aMake
    rw [vif_f hq, cif_f hq]
    exact ⟨e, h, f⟩
  rw [I_0, I_lt' a b (by omega) (by omega)]
  refine ⟨fun q => no rfl (fun k => by have := k.1; omega), fun q => ?_⟩
  rw [h.2.2.2.1.1, I_le' a b (by omega) (by omega)]
  refine ⟨fun q2 σ5 e5 σ6 e6 σ7 e7 σ8 e8 σ9 e9 σ10 e10 => ?_, fun q2 => no rfl (fun k => q2 k.2)⟩
  have ok : okMk v z := ⟨by omega, q2⟩
  unfold nMake aMake
  rw [vif_t ok, cif_t ok]
  obtain ⟨n, hn⟩ : ∃ n : Nat, z = n := ⟨z.toNat, by omega⟩
  subst hn
  rw [I_tn]
  have w10 : Ws [2, 21, 22, 23, 27, 28] [] σ2 σ10 := (((((Ws.w e5 (by decide)).tr (Ws.w e6 (by decide))).tr (Ws.w e7 (by decide))).tr (Ws.w e8 (by decide))).tr (Ws.w e9 (by decide))).tr (Ws.w e10 (by decide))
  have k22 : σ10.2.1 82 22 = I (n : Int) := by rw [e10, w1_k (by omega), e9, w1_k (by omega), e8, w1_k (by omega), e7, w1_k (by omega), e6, w1_k (by omega), e5, w1_at]
  have k2 : σ10.2.1 82 2 = I 0 := by rw [e10, w1_k (by omega), e9, w1_k (by omega), e8, w1_k (by omega), e7, w1_k (by omega), e6, w1_at]
  have k23 : σ10.2.1 82 23 = I ((0 : Nat) : Int) := by rw [e10, w1_k (by omega), e9, w1_k (by omega), e8, w1_k (by omega), e7, w1_at]; rfl
  have k27 : σ10.2.1 82 27 = I 0 := by rw [e10, w1_k (by omega), e9, w1_k (by omega), e8, w1_at]
  have k28 : σ10.2.1 82 28 = I (-1) := by rw [e10, w1_k (by omega), e9, w1_at]; rfl
  have k21 : σ10.2.1 82 21 = I (((v.2.2.1 1).toNat : Nat) : Int) := by
    rw [e10, w1_at, e9, w1_k (by omega), e8, w1_k (by omega), e7, w1_k (by omega), e6, w1_k (by omega), e5, w1_k (by omega), h.2.2.1.1]
    congr 1; omega
  have M10 := w10.M h.1
  have hB : TxM σ10 (v.2.2.2 0) n := ⟨by omega, fun i hi => by rw [w10.2.2.1 83 (by omega) (by decide)]; exact h.2.2.2.1.2.1 i (by omega), fun i hi => hw.2.2.2.2.1 i (by omega)⟩
  have H : RkH σ10 v (v.2.2.2 0) n c := ⟨M10, h.2.1.2.eq (fun r a b => w10.2.2.1 r (by omega) (by simp)), hB, hw⟩
  refine m_next (p := 0) (i := 0) M10 hB k22 k23 (by omega) rfl (fun σ11 w11 t11 => ?_)
  have S11 : RkS σ10 σ11 v (v.2.2.2 0) n v.2.1 (v.2.2.1 1).toNat 0 0 := by
    refine ⟨w11.up (by decide) (by decide), ⟨by omega, by omega⟩, by rw [w11.2.2.2 21 (by decide)]; exact k21, fun t ht => ?_, t11, by rw [w11.2.2.2 27 (by decide)]; exact k27, by rw [w11.2.2.2 28 (by decide)]; exact k28⟩
    rw [w11.2.2.1 96 (by omega) (by decide), w11.2.2.1 97 (by omega) (by decide), w11.2.2.1 98 (by omega) (by decide), w11.2.2.1 99 (by omega) (by decide), w10.2.2.1 96 (by omega) (by decide), w10.2.2.1 97 (by omega) (by decide), w10.2.2.1 98 (by omega) (by decide), w10.2.2.1 99 (by omega) (by decide)]
    exact h.2.2.1.2 t (by omega)
  generalize hR : mkR v n = R
  have iv : Tv v.1 (v.2.2.1 0) v.2.1 (v.2.2.1 1).toNat R := by rw [← hR]; exact mkR_iv hw
  -- the end
  have fin : ∀ (σ1 : Sg), RkS σ10 σ1 v (v.2.2.2 0) n R.1 R.2.1 R.2.2.1 R.2.2.2.1 → GW l mX12_make 79 [(0, .inr 82), (1, .inl (I (n : Int)))] [] σ1 0 0 (PI fun x σ' => x = I (if R.2.2.2.1 = 0 then (R.2.1 : Int) - v.2.2.1 1 else -1) ∧ MR σ' (nMk v n) ∧ MF σ σ') := by
    intro σ1 s1
    have fr := iv.2.2.2
    have rr := iv.2.1
    have M1 := s1.M H
    refine gX12_make_79 ⟨M1.ob, fun σ3 e3 σ4 e4 => ?_⟩
    rw [s1.2.2.2.2.2.1] at e3
    have g28 : σ3.2.1 82 28 = I (if R.2.2.2.1 = 0 then -1 else (tk (v.2.2.2 0) n R.2.2.1 : Nat)) := by rw [e3, w1_k (by omega)]; exact s1.2.2.2.2.2.2
    rw [g28] at e4
    have g27 : σ4.2.1 82 27 = I R.2.2.2.1 := by rw [e4, w1_k (by omega), e3, w1_k (by omega)]; exact s1.2.2.2.2.2.1
    have g21 : σ4.2.1 82 21 = I (R.2.1 : Nat) := by rw [e4, w1_k (by omega), e3, w1_k (by omega)]; exact s1.2.2.1
    have w4 : Ws [29, 30] [] σ1 σ4 := (Ws.w e3 (by decide)).tr (Ws.w e4 (by decide))
    have E4 : ∀ r, r ≠ 82 → ¬ (96 ≤ r ∧ r ≤ 103) → σ4.2.1 r = σ2.2.1 r := fun r a b => by
      rw [w4.2.2.1 r a (by simp), s1.1.2.2.1 r a (fun q => by simp only [List.mem_cons, List.not_mem_nil, or_false] at q; omega), w10.2.2.1 r a (by simp)]
    have Ek4 : ∀ k, k ∉ [2, 21, 22, 23, 24, 25, 26, 27, 28, 29, 30, 33, 36, 37] → σ4.2.1 82 k = σ2.2.1 82 k := fun k hk => by
      simp only [List.mem_cons, List.not_mem_nil, or_false, not_or] at hk
      rw [w4.2.2.2 k (by simp only [List.mem_cons, List.not_mem_nil, or_false, not_or]; omega), s1.1.2.2.2 k (by simp only [List.mem_cons, List.not_mem_nil, or_false, not_or]; omega), w10.2.2.2 k (by simp only [List.mem_cons, List.not_mem_nil, or_false, not_or]; omega)]
    have k42 : σ4.2.1 82 2 = I 0 := by rw [w4.2.2.2 2 (by decide), s1.1.2.2.2 2 (by decide)]; exact k2
    have N4 : σ4.1 = σ2.1 := by rw [w4.1, s1.1.1, w10.1]
    have R4 : σ4.2.2 = σ2.2.2 := by rw [w4.2.1, s1.1.2.1, w10.2.1]
    have k4 : σ4.2.1 82 29 = I R.2.2.2.1 ∧ σ4.2.1 82 30 = I (if R.2.2.2.1 = 0 then -1 else (tk (v.2.2.2 0) n R.2.2.1 : Nat)) := ⟨by rw [e4, w1_k (by omega), e3, w1_at], by rw [e4, w1_at]⟩
    have T4 : TpR σ4 R.1 R.2.1 := fun t ht => by
      rw [w4.2.2.1 96 (by omega) (by decide), w4.2.2.1 97 (by omega) (by decide), w4.2.2.1 98 (by omega) (by decide), w4.2.2.1 99 (by omega) (by decide)]
      exact s1.2.2.2.1 t ht
    -- from a last state to MR
    have mr : ∀ (σ5 : Sg) (v' : Vt), σ5.1 = σ4.1 → σ5.2.2 = σ4.2.2 → (∀ r, r ≠ 82 → σ5.2.1 r = σ4.2.1 r) → (∀ k, k ≠ 16 → σ5.2.1 82 k = σ4.2.1 82 k) → σ5.2.1 82 16 = I (v'.2.2.1 1) → v'.2.2.1 3 = R.2.2.2.1 → v'.2.2.1 4 = (if R.2.2.2.1 = 0 then -1 else ((tk (v.2.2.2 0) n R.2.2.1 : Nat) : Int)) → v'.1 = v.1 → v'.2.2.2 = v.2.2.2 → v'.2.2.1 2 = 0 → (∀ k, k ≠ 1 → k ≠ 2 → k ≠ 3 → k ≠ 4 → v'.2.2.1 k = v.2.2.1 k) → v'.2.2.1 1 ≤ R.2.1 → (∀ t : Nat, (t : Int) < v'.2.2.1 1 → v'.2.1 t = R.1 t) → MR σ5 v' ∧ MF σ σ5 := by
      intro σ5 v' n5 r5 E5 K5 q16 q3 q4 ev er e2' ek el et
      have X : ∀ r, r ≠ 82 → ¬ (96 ≤ r ∧ r ≤ 103) → σ5.2.1 r = σ2.2.1 r := fun r a b => by rw [E5 r a, E4 r a b]
      have Xk : ∀ k, k ≠ 16 → k ∉ [2, 21, 22, 23, 24, 25, 26, 27, 28, 29, 30, 33, 36, 37] → σ5.2.1 82 k = σ2.2.1 82 k := fun k a b => by rw [K5 k a, Ek4 k b]
      have RR : σ5.2.2 = σ2.2.2 := by rw [r5, R4]
      have NN : σ5.1 = σ2.1 := by rw [n5, N4]
      refine ⟨h.mk2 NN RR ⟨?_, ?_⟩ ⟨q16, fun t ht => ?_⟩ ⟨?_, fun i hi => ?_, ?_, ?_⟩ ?_, f.tr ⟨NN, fun r hr => ⟨X r (by omega) (by omega), by rw [RR]⟩⟩⟩
      · rw [Xk 4 (by omega) (by decide), h.2.1.1, ek 0 (by omega) (by omega) (by omega) (by omega)]
      · rw [ev]; exact h.2.1.2.eq (fun r a b => X r (by omega) (by omega))
      · rw [et t ht, E5 96 (by omega), E5 97 (by omega), E5 98 (by omega), E5 99 (by omega)]
        exact T4 t (by omega)
      · rw [K5 2 (by omega), k42, e2']
      · rw [e2'] at hi; omega
      · rw [K5 29 (by omega), k4.1, q3]
      · rw [K5 30 (by omega), k4.2, q4]
      · exact h.2.2.2.2.eq (X 104 (by omega) (by omega)) (fun k hk => Xk k (fun q => by subst q; revert hk; decide) (fun q => by revert q hk; revert k; decide)) (X 109 (by omega) (by omega)) (ek 5 (by omega) (by omega) (by omega) (by omega)) (ek 6 (by omega) (by omega) (by omega) (by omega)) (ek 7 (by omega) (by omega) (by omega) (by omega)) (ek 8 (by omega) (by omega) (by omega) (by omega)) (by rw [er]) (by rw [er])
    rw [g27, I_0, I_eq' (by omega) (by omega) (by omega) (by omega)]
    have k16 : σ4.2.1 82 16 = I (v.2.2.1 1) := by rw [Ek4 16 (by decide)]; exact h.2.2.1.1
    refine ⟨fun fz σ5 e5' => ?_, fun fz => ?_⟩
    · rw [g21] at e5'
      rw [g21, k16, I_sub, if_pos fz]
      refine ⟨rfl, ?_⟩
      unfold nMk
      rw [hR, if_pos fz]
      refine mr σ5 _ (by rw [e5']; rfl) (by rw [e5']; rfl) (fun r a => by rw [e5', w1_r a]) (fun k a => by rw [e5', w1_k a]) ?_ ?_ ?_ rfl rfl rfl (fun k a b d e => ?_) ?_ (fun t ht => rfl)
      · rw [e5', w1_at]; rfl
      · show (0 : Int) = _; rw [fz]
      · show (-1 : Int) = _; rw [if_pos fz]
      · show (if k = 1 then _ else if k = 2 then _ else if k = 3 then _ else if k = 4 then _ else v.2.2.1 k) = _
        rw [if_neg a, if_neg b, if_neg d, if_neg e]
      · show ((R.2.1 : Nat) : Int) ≤ R.2.1; omega
    · rw [if_neg fz]
      refine ⟨rfl, ?_⟩
      unfold nMk
      rw [hR, if_neg fz]
      refine mr σ4 _ rfl rfl (fun _ _ => rfl) (fun _ _ => rfl) ?_ ?_ ?_ rfl rfl rfl (fun k a b d e => ?_) ?_ (fun t ht => ?_)
      · exact k16
      · rfl
      · show ((tk (v.2.2.2 0) n R.2.2.1 : Nat) : Int) = _; rw [if_neg fz]
      · show (if k = 2 then _ else if k = 3 then _ else if k = 4 then _ else v.2.2.1 k) = _
        rw [if_neg b, if_neg d, if_neg e]
      · show v.2.2.1 1 ≤ R.2.1; omega
      · have ht' : (t : Int) < v.2.2.1 1 := ht
        exact (iv.2.2.1 t (by omega)).symm
  have F : ∀ (d : Nat) (s : Tt) (σ1 : Sg), (s.2.2.2.1 ≠ 0 ∨ n < s.2.2.1 + d) → Tv v.1 (v.2.2.1 0) v.2.1 (v.2.2.1 1).toNat s → RkS σ10 σ1 v (v.2.2.2 0) n s.1 s.2.1 s.2.2.1 s.2.2.2.1 → txt (kdB (v.2.2.2 0) n) (vlB (v.2.2.2 0) n) v.1 d s = R → GW l mX12_make 57 [(0, .inr 82), (1, .inl (I (n : Int)))] [] σ1 0 0 (PI fun x σ' => x = I (if R.2.2.2.1 = 0 then (R.2.1 : Int) - v.2.2.1 1 else -1) ∧ MR σ' (nMk v n) ∧ MF σ σ') := by
    have X : ∀ (s : Tt) (σ1 : Sg), ¬ (s.2.2.2.1 = 0 ∧ kdB (v.2.2.2 0) n s.2.2.1 ≠ 0) → Tv v.1 (v.2.2.1 0) v.2.1 (v.2.2.1 1).toNat s → RkS σ10 σ1 v (v.2.2.2 0) n s.1 s.2.1 s.2.2.1 s.2.2.2.1 → s = R → GW l mX12_make 57 [(0, .inr 82), (1, .inl (I (n : Int)))] [] σ1 0 0 (PI fun x σ' => x = I (if R.2.2.2.1 = 0 then (R.2.1 : Int) - v.2.2.1 1 else -1) ∧ MR σ' (nMk v n) ∧ MF σ σ') := by
      intro s σ1 no tv s1 es
      subst es
      have fr := tv.2.2.2
      have t := s1.2.2.2.2.1
      refine gX12_make_57 ⟨(s1.M H).ob, ?_⟩
      rw [s1.2.2.2.2.2.1, I_0, I_eq' (by omega) (by omega) (by omega) (by omega)]
      refine ⟨fun _ => fin σ1 s1, fun fz => ?_⟩
      have k0 : kdB (v.2.2.2 0) n s.2.2.1 = 0 := Classical.byContradiction fun q => no ⟨fz, q⟩
      exact ⟨fun _ => fin σ1 s1, fun q => absurd (t.2.2.2.1 k0) q⟩
    intro d
    induction d with
    | zero =>
      intro s σ1 hd tv s1 es
      refine X s σ1 (fun q => ?_) tv s1 es
      rcases hd with hd | hd
      · exact hd q.1
      · exact q.2 (kdB_far (by omega))
    | succ d ih =>
      intro s σ1 hd tv s1 es
      have es : (if s.2.2.2.1 = 0 ∧ kdB (v.2.2.2 0) n s.2.2.1 ≠ 0 then txt (kdB (v.2.2.2 0) n) (vlB (v.2.2.2 0) n) v.1 d (lin1 (kdB (v.2.2.2 0) n) (vlB (v.2.2.2 0) n) v.1 s) else s) = R := es
      by_cases cd : s.2.2.2.1 = 0 ∧ kdB (v.2.2.2 0) n s.2.2.1 ≠ 0
      · rw [if_pos cd] at es
        have t := s1.2.2.2.2.1
        have kr := kdB_rg (v.2.2.2 0) n s.2.2.1
        have tv' := lin1_iv (kd := kdB (v.2.2.2 0) n) (vl := vlB (v.2.2.2 0) n) tv
        rw [cd.1] at s1
        obtain ⟨x, e1, e2⟩ : ∃ x : Int, σ1.2.1 82 25 = I x ∧ 0 ≤ x ∧ x ≤ 4 ∧ x ≠ 3 := by
          have : kdB (v.2.2.2 0) n s.2.2.1 = 1 ∨ kdB (v.2.2.2 0) n s.2.2.1 = 2 ∨ kdB (v.2.2.2 0) n s.2.2.1 = 3 ∨ 4 ≤ kdB (v.2.2.2 0) n s.2.2.1 := by have := cd.2; omega
          rcases this with e | e | e | e
          · exact ⟨4, t.2.2.2.2.1 e, by omega, by omega, by omega⟩
          · exact ⟨1, (t.2.2.2.2.2.1 e).1, by omega, by omega, by omega⟩
          · exact ⟨2, t.2.2.2.2.2.2.1 e, by omega, by omega, by omega⟩
          · exact ⟨0, (t.2.2.2.2.2.2.2 e).1, by omega, by omega, by omega⟩
        refine gX12_make_57 ⟨(s1.M H).ob, fun q => absurd s1.2.2.2.2.2.1 q, fun _ => ⟨fun q => ?_, fun _ => ?_⟩⟩
        · rw [e1, show (3 : Int32) = I 3 from rfl, I_eq ⟨by omega, by omega⟩ ⟨by omega, by omega⟩] at q
          exact absurd q e2.2.2
        · refine s1.line H s.2.2 tv.1 (fun u σ3 s3 => ?_) (fun u σ3 s3 => ?_)
          · have el : lin1 (kdB (v.2.2.2 0) n) (vlB (v.2.2.2 0) n) v.1 s = (s.1, s.2.1, lin (kdB (v.2.2.2 0) n) (vlB (v.2.2.2 0) n) v.1 s.1 s.2.1 s.2.2) := by unfold lin1; rw [if_neg u]
            rw [el] at es tv'
            exact ih _ σ3 (Or.inl u) tv'.1 s3 es
          · have el : lin1 (kdB (v.2.2.2 0) n) (vlB (v.2.2.2 0) n) v.1 s = (fun t => if t = s.2.1 then (lin (kdB (v.2.2.2 0) n) (vlB (v.2.2.2 0) n) v.1 s.1 s.2.1 s.2.2).2.2.1 else s.1 t, s.2.1 + 1, lin (kdB (v.2.2.2 0) n) (vlB (v.2.2.2 0) n) v.1 s.1 s.2.1 s.2.2) := by unfold lin1; rw [if_pos u]
            rw [el] at es tv'
            have adv := tv'.2 u
            refine ih _ σ3 (Or.inr ?_) tv'.1 (by show RkS σ10 σ3 v _ n _ (s.2.1 + 1) _ (lin (kdB (v.2.2.2 0) n) (vlB (v.2.2.2 0) n) v.1 s.1 s.2.1 s.2.2).2.1; rw [u]; exact s3) es
            have adv' : s.2.2.1 + 1 ≤ (lin (kdB (v.2.2.2 0) n) (vlB (v.2.2.2 0) n) v.1 s.1 s.2.1 s.2.2).1 := adv
            show n < (lin (kdB (v.2.2.2 0) n) (vlB (v.2.2.2 0) n) v.1 s.1 s.2.1 s.2.2).1 + d
            rcases hd with hd | hd
            · exact absurd cd.1 hd
            · omega
      · rw [if_neg cd] at es
        exact X s σ1 cd tv s1 es
  exact F (n + 1) (v.2.1, (v.2.2.1 1).toNat, 0, 0, bgn 0, bgn 0) σ11 (Or.inr (by show n < 0 + (n + 1); omega)) ⟨hw.tws, ⟨Nat.le_refl _, by show (v.2.2.1 1).toNat ≤ 10; omega⟩, fun _ _ => rfl, by show (0 : Int) ≤ 0; omega, by show (0 : Int) ≤ 5; omega⟩ S11 hR
end RML
