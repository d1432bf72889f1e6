/-! the reference's make, 2: changes, parts, lines -/
section RMP
variable {l : Launch} {σ0 σ σ' : Sg} {v : Vt} {B : Nat → Int} {n c : Nat} {T : Nat → Nat → Nat → Int} {cnt i : Nat} {f : Int} {L P : Nat → Nat → Int}
theorem m_dry {K : Sg → Prop} (hM : Mp σ) (hP : RPr σ P) (p0 : 0 ≤ P 0 1 ∧ P 0 1 ≤ 41) (hK : ∀ σ', Ws [] [101] σ σ' → RPr σ' (dryT P) → K σ') : GW l mX12_changes 39 [(0, .inr 82), (1, .inl (I 6)), (2, .inl (I (0 : Nat)))] [] σ 0 0 (PV K) := by
  obtain ⟨m, hm⟩ : ∃ m : Nat, P 0 1 = m := ⟨(P 0 1).toNat, by omega⟩
  have F : ∀ j, j ≤ m → ∀ σ1, Ws [] [101] σ σ1 → (∀ i, i < m → σ1.2.1 101 i = if i < j then I 0 else σ.2.1 101 i) → GW l mX12_changes 39 [(0, .inr 82), (1, .inl (I 6)), (2, .inl (I (j : Nat)))] [] σ1 0 0 (PV K) := by
    refine lp ?_ ?_
    · intro σ1 w1' h2
      have s33 : σ1.2.1 82 33 = I (m : Int) := by rw [w1'.2.2.2 33 (by decide), hP.1, hm]
      have k : K σ1 := by
        refine hK σ1 w1' ⟨by rw [w1'.2.2.2 33 (by decide)]; exact hP.1, fun i hi => ?_⟩
        have hi' : (i : Int) < P 0 1 := hi
        have e : dryT P 1 i = P 1 i ∧ dryT P 2 i = 0 := by unfold dryT; rw [if_neg (by omega), if_pos ⟨rfl, hi'⟩]; exact ⟨rfl, rfl⟩
        rw [e.1, e.2, w1'.2.2.1 100 (by omega) (by decide), h2 i (by omega), if_pos (by omega)]
        exact ⟨(hP.2 i hi').1, rfl⟩
      refine gX12_changes_39 ⟨(w1'.M hM).ob, fun _ => gX12_changes_68 ⟨(w1'.M hM).ob, fun _ => k, fun _ => ⟨fun _ => k, fun z => absurd z (by decide)⟩⟩, fun q => absurd ?_ q⟩
      rw [s33]; exact (I_le ⟨by omega, by omega⟩ ⟨by omega, by omega⟩).mpr (by omega)
    · intro j hj ih σ1 w1' h2
      have s33 : σ1.2.1 82 33 = I (m : Int) := by rw [w1'.2.2.2 33 (by decide), hP.1, hm]
      refine gX12_changes_39 ⟨(w1'.M hM).ob, fun q => ?_, fun _ => ⟨fun q => absurd rfl q, fun _ => ⟨(w1'.M hM).a32 (by omega) (by omega), fun σ5 e5 => ?_⟩⟩⟩
      · rw [s33, I_le ⟨by omega, by omega⟩ ⟨by omega, by omega⟩] at q; omega
      · rw [(w1'.M hM).k32, I_cln (by omega)] at e5
        rw [I_1, I_add]
        refine ih σ5 (w1'.tr (Ws.c e5 (by decide) (by omega))) (fun i hi => ?_)
        rw [e5]
        by_cases e : i = j
        · rw [e, w1_at, if_pos (by omega)]; rfl
        · rw [w1_k e, h2 i hi]
          by_cases z : i < j
          · rw [if_pos z, if_pos (by omega)]
          · rw [if_neg z, if_neg (by omega)]
  exact F 0 (by omega) σ (Ws.rf _ _ _) (fun i hi => by rw [if_neg (by omega)])
theorem m_back {K : Sg → Prop} (hM : Mp σ) (hP : RPr σ P) (p0 : 0 ≤ P 0 1 ∧ P 0 1 ≤ 41) (hK : ∀ σ', Ws [] [100, 101] σ σ' → RPr σ' (rvT P) → K σ') : GW l mX12_changes 68 [(0, .inr 82), (1, .inl (I 4)), (2, .inl (I (0 : Nat)))] [] σ 0 0 (PV K) := by
  obtain ⟨m, hm⟩ : ∃ m : Nat, P 0 1 = m := ⟨(P 0 1).toNat, by omega⟩
  have dv : I (m : Int) / 2 = I ((m / 2 : Nat) : Int) := by
    have td : (m : Int).tdiv 2 = ((m / 2 : Nat) : Int) := by rw [Int.tdiv_eq_ediv_of_nonneg (by omega)]; omega
    rw [show (2 : Int32) = I 2 from rfl, I_div ⟨by omega, by omega⟩ ⟨by omega, by omega⟩ (by rw [td]; exact ⟨by omega, by omega⟩), td]
  have F : ∀ i, i ≤ m / 2 → ∀ σ1, Ws [] [100, 101] σ σ1 → (∀ z, z = 100 ∨ z = 101 → ∀ x, x < m → σ1.2.1 z x = if x < i ∨ m - 1 < i + x then σ.2.1 z (m - 1 - x) else σ.2.1 z x) → GW l mX12_changes 68 [(0, .inr 82), (1, .inl (I 4)), (2, .inl (I (i : Nat)))] [] σ1 0 0 (PV K) := by
    refine lp ?_ ?_
    · intro σ1 w1' h1
      have s33 : σ1.2.1 82 33 = I (m : Int) := by rw [w1'.2.2.2 33 (by decide), hP.1, hm]
      refine gX12_changes_68 ⟨(w1'.M hM).ob, fun _ => ?_, fun q => absurd ?_ q⟩
      · refine hK σ1 w1' ⟨by rw [w1'.2.2.2 33 (by decide), hP.1]; unfold rvT; rw [if_neg (by omega)], fun x hx => ?_⟩
        have e0 : rvT P 0 1 = P 0 1 := by unfold rvT; rw [if_neg (by omega)]
        rw [e0] at hx
        have e : rvT P 1 x = P 1 (m - 1 - x) ∧ rvT P 2 x = P 2 (m - 1 - x) := by
          unfold rvT; rw [if_pos ⟨Or.inl rfl, hx⟩, if_pos ⟨Or.inr rfl, hx⟩, hm, I_tn]; exact ⟨rfl, rfl⟩
        have g : ∀ z, z = 100 ∨ z = 101 → σ1.2.1 z x = σ.2.1 z (m - 1 - x) := fun z hz => by
          rw [h1 z hz x (by omega)]
          split
          · rfl
          · rename_i q; rw [show m - 1 - x = x by omega]
        rw [e.1, e.2, g 100 (Or.inl rfl), g 101 (Or.inr rfl)]
        exact hP.2 (m - 1 - x) (by omega)
      · rw [s33, dv]; exact (I_le ⟨by omega, by omega⟩ ⟨by omega, by omega⟩).mpr (by omega)
    · intro i hi ih σ1 w1' h1
      have s33 : σ1.2.1 82 33 = I (m : Int) := by rw [w1'.2.2.2 33 (by decide), hP.1, hm]
      have M1 := w1'.M hM
      have ej : (I (m : Int) - 1) - I (i : Int) = I ((m - 1 - i : Nat) : Int) := by rw [I_1, I_sub, I_sub]; congr 1; omega
      refine gX12_changes_68 ⟨M1.ob, fun q => ?_, fun _ => ⟨fun q => absurd rfl q, fun _ => ?_⟩⟩
      · rw [s33, dv, I_le ⟨by omega, by omega⟩ ⟨by omega, by omega⟩] at q; omega
      rw [s33, ej]
      refine ⟨M1.a31 (by omega) (by omega), M1.a32 (by omega) (by omega), M1.a31 (by omega) (by omega), fun σ7 e7 => ?_⟩
      rw [M1.k31, I_cln (by omega), I_cln (by omega)] at e7
      have w7 : Ws [] [100, 101] σ σ7 := w1'.tr (Ws.c e7 (by decide) (by omega))
      have M7 := w7.M hM
      refine ⟨M7.a32 (by omega) (by omega), M7.a32 (by omega) (by omega), fun σ10 e10 => ?_⟩
      rw [M7.k32, I_cln (by omega), I_cln (by omega)] at e10
      have w10 : Ws [] [100, 101] σ σ10 := w7.tr (Ws.c e10 (by decide) (by omega))
      have M10 := w10.M hM
      refine ⟨M10.a31 (by omega) (by omega), fun σ12 e12 => ?_⟩
      rw [M10.k31, M1.k31, I_cln (by omega), I_cln (by omega)] at e12
      have w12 : Ws [] [100, 101] σ σ12 := w10.tr (Ws.c e12 (by decide) (by omega))
      have M12 := w12.M hM
      refine ⟨M12.a32 (by omega) (by omega), fun σ14 e14 => ?_⟩
      rw [M12.k32, M1.k32, I_cln (by omega), I_cln (by omega)] at e14
      have w14 : Ws [] [100, 101] σ σ14 := w12.tr (Ws.c e14 (by decide) (by omega))
      rw [I_1, I_add]
      refine ih σ14 w14 (fun z hz x hx => ?_)
      have g1 : σ14.2.1 100 x = if x = m - 1 - i then σ1.2.1 100 i else if x = i then σ1.2.1 100 (m - 1 - i) else σ1.2.1 100 x := by
        rw [e14, w1_r (by omega), e12]
        split
        · rename_i y; rw [y, w1_at]
        · rename_i y
          rw [w1_k y, e10, w1_r (by omega), e7]
          split
          · rename_i w; rw [w, w1_at]
          · rename_i w; rw [w1_k w]
      have g2 : σ14.2.1 101 x = if x = m - 1 - i then σ1.2.1 101 i else if x = i then σ1.2.1 101 (m - 1 - i) else σ1.2.1 101 x := by
        rw [e14]
        split
        · rename_i y; rw [y, w1_at]
        · rename_i y
          rw [w1_k y, e12, w1_r (by omega), e10]
          split
          · rename_i w; rw [w, w1_at, e7, w1_r (by omega)]
          · rename_i w; rw [w1_k w, e7, w1_r (by omega)]
      have g : σ14.2.1 z x = if x = m - 1 - i then σ1.2.1 z i else if x = i then σ1.2.1 z (m - 1 - i) else σ1.2.1 z x := by
        rcases hz with rfl | rfl
        · exact g1
        · exact g2
      rw [g]
      by_cases y : x = m - 1 - i
      · rw [if_pos y, h1 z hz i (by omega), if_neg (by omega), if_pos (by omega), show m - 1 - x = i by omega]
      · rw [if_neg y]
        by_cases w : x = i
        · rw [if_pos w, h1 z hz (m - 1 - i) (by omega), if_neg (by omega), if_pos (by omega), w]
        · rw [if_neg w, h1 z hz x hx]
          by_cases u : x < i ∨ m - 1 < i + x
          · rw [if_pos u, if_pos (by omega)]
          · rw [if_neg u, if_neg (by omega)]
  exact F 0 (by omega) σ (Ws.rf _ _ _) (fun z hz x hx => by rw [if_neg (by omega)])
theorem RkS.changes (H : RkH σ0 v B n c) {K : Sg → Prop} (x : Mt) (h : RkS σ0 σ v B n T cnt x.1 0) (hv : Iv v.1 (v.2.2.1 0) x) (hL : RLr σ x.2.2.1) (hP : RPr σ x.2.2.2) (hk : 8 ≤ kdB B n x.1 ∧ kdB B n x.1 ≤ 10)
    (hK : ∀ σ', RkS σ0 σ' v B n T cnt (chg1 (kdB B n) (vlB B n) x).1 (chg1 (kdB B n) (vlB B n) x).2.1 → ((chg1 (kdB B n) (vlB B n) x).2.1 = 0 → RLr σ' (chg1 (kdB B n) (vlB B n) x).2.2.1 ∧ RPr σ' (chg1 (kdB B n) (vlB B n) x).2.2.2) → K σ') : Con l mX12_changes [.inr 82] σ (PV K) := by
  have p0 := hv.2.1.2.1
  have s26 := (h.2.2.2.2.1.2.2.2.2.2.2.2 (by omega)).2
  refine eX12_changes ⟨(h.M H).ob, h.next H (fun σ2 w2 s2 => ?_)⟩
  rw [s26]
  have L2 := hL.ws w2 (by decide) (by decide) (by decide) (by decide)
  have P2 := hP.ws w2 (by decide) (by decide) (by decide)
  unfold chg1 at hK
  by_cases k8 : kdB B n x.1 = 8
  · rw [if_pos k8] at hK
    rw [k8]
    refine ⟨fun _ => ?_, fun z => absurd z (by decide)⟩
    have g := m_back (l := l) (K := K) (s2.M H) P2 p0 (fun σ3 w3 P3 => hK σ3 (s2.ws w3 (by decide) (by decide)) (fun _ => ⟨L2.ws w3 (by decide) (by decide) (by decide) (by decide), P3⟩))
    exact gX12_changes_39 ⟨(s2.M H).ob, fun _ => g, fun _ => ⟨fun _ => g, fun z => absurd z (by decide)⟩⟩
  · rw [if_neg k8] at hK
    by_cases k10 : kdB B n x.1 = 10
    · rw [if_pos k10] at hK
      rw [k10]
      refine ⟨fun _ => ?_, fun z => absurd z (by decide)⟩
      exact m_dry (s2.M H) P2 p0 (fun σ3 w3 P3 => hK σ3 (s2.ws w3 (by decide) (by decide)) (fun _ => ⟨L2.ws w3 (by decide) (by decide) (by decide) (by decide), P3⟩))
    · rw [if_neg k10] at hK
      have k9 : kdB B n x.1 = 9 := by omega
      rw [k9]
      refine ⟨fun z => absurd rfl z, fun _ => s2.isNumber H (lo := 1) (hi := 9) ⟨by omega, by omega⟩ ⟨by omega, by omega⟩ (fun nz s => ⟨fun _ => ?_, fun z => absurd z (by decide)⟩) (fun nz σ3 w3 s3 => ⟨fun z => absurd rfl z, fun _ => ?_⟩)⟩
      · rw [if_pos nz] at hK
        have nb := numF_0.mp nz
        obtain ⟨m, em⟩ : ∃ m : Nat, vlB B n (x.1 + 1) = m := ⟨(vlB B n (x.1 + 1)).toNat, by omega⟩
        rw [em, I_tn] at hK
        rw [s, em]
        refine m_slows (s2.M H) P2 p0 (by omega) (by omega) (fun σ6 w6 P6 => ?_)
        have s6 := s2.ws w6 (by decide) (by decide)
        have L6 := L2.ws w6 (by decide) (by decide) (by decide) (by decide)
        refine s6.next H (fun σ7 w7 s7 => ?_)
        have k : K σ7 := hK σ7 s7 (fun _ => ⟨L6.ws w7 (by decide) (by decide) (by decide) (by decide), P6.ws w7 (by decide) (by decide) (by decide)⟩)
        have g : GW l mX12_changes 68 [(0, .inr 82), (1, .inl (I (9 - 4))), (2, .inl 0)] [] σ7 0 0 (PV K) := gX12_changes_68 ⟨(s7.M H).ob, fun _ => k, fun _ => ⟨fun _ => k, fun z => absurd z (by decide)⟩⟩
        exact gX12_changes_39 ⟨(s7.M H).ob, fun _ => g, fun _ => ⟨fun _ => g, fun z => absurd z (by decide)⟩⟩
      · rw [if_neg nz] at hK
        exact hK σ3 s3 (fun z => absurd z nz)
/-- a part from its place 58 on: the tape t, the line L -/
theorem RkS.part58 (H : RkH σ0 v B n c) {K : Sg → Prop} {t : Nat} (h : RkS σ0 σ v B n T cnt i 0) (ht : t < cnt) (tw : 0 ≤ T t 0 1 ∧ T t 0 1 ≤ 40) (hL : σ.2.1 82 36 = I (L 0 1) ∧ L 0 0 = T t 0 0 ∧ ∀ i : Nat, (i : Int) < L 0 1 → σ.2.1 102 i = I (L 1 i) ∧ σ.2.1 103 i = I (L 2 i))
    (hKf : ∀ (i' : Nat) (e : Int) σ', e ≠ 0 → cut0 (kdB B n) (vlB B n) (T t) (i + 1) L (bgn (T t 0 0)) = (i', e, L, bgn (T t 0 0)) → RkS σ0 σ' v B n T cnt i' e → K σ')
    (hKs : ∀ (i' a k : Nat) σ', cut0 (kdB B n) (vlB B n) (T t) (i + 1) L (bgn (T t 0 0)) = (i', 0, L, cpy (bgn (T t 0 0)) (T t) a k) → ((a + k : Nat) : Int) ≤ T t 0 1 → RkS σ0 σ' v B n T cnt i' 0 → RLr σ' L → RPr σ' (cpy (bgn (T t 0 0)) (T t) a k) → ∀ y1 y2 y3 y4 : Int32, GW l mX12_part 291 [(0, .inr 82), (1, .inl y1), (2, .inl y2), (3, .inl y3), (4, .inl y4)] [] σ' 0 0 (PV K)) : GW l mX12_part 58 [(0, .inr 82), (1, .inl (I (t : Nat)))] [] σ 0 0 (PV K) := by
  have c10 := h.2.1.2
  have b1 : bgn (T t 0 0) 0 1 = 0 := rfl
  have C : ∀ (a k : Nat) (b : Int) (i' : Nat) (σ1 : Sg), RkS σ0 σ1 v B n T cnt i' 0 → RLr σ1 L → σ1.2.1 82 33 = I 0 → ((a + k : Nat) : Int) ≤ T t 0 1 → b = (a : Int) + k - 1 → cut0 (kdB B n) (vlB B n) (T t) (i + 1) L (bgn (T t 0 0)) = (i', 0, L, cpy (bgn (T t 0 0)) (T t) a k) → ∀ y2 : Int32, GW l mX12_part 227 [(0, .inr 82), (1, .inl (I (t : Nat))), (2, .inl y2), (3, .inl (I b)), (4, .inl (I (a : Nat)))] [] σ1 0 0 (PV K) := by
    intro a k b i' σ1 s1 L1 h33 hk hb ec y2
    have F : ∀ j, j ≤ k → ∀ σ2, Ws [33] [100, 101] σ1 σ2 → RPr σ2 (cpy (bgn (T t 0 0)) (T t) a j) → GW l mX12_part 227 [(0, .inr 82), (1, .inl (I (t : Nat))), (2, .inl y2), (3, .inl (I b)), (4, .inl (I ((a + j : Nat) : Int)))] [] σ2 0 0 (PV K) := by
      refine lp ?_ ?_
      · intro σ2 w2 P2
        refine gX12_part_227 ⟨fun _ => hKs i' a k σ2 ec hk (s1.ws w2 (by decide) (by decide)) (L1.ws w2 (by decide) (by decide) (by decide) (by decide)) P2 _ _ _ _, fun q => absurd ((I_lt ⟨by omega, by omega⟩ ⟨by omega, by omega⟩).mpr (by omega)) q⟩
      · intro j hj ih σ2 w2 P2
        have s2 := s1.ws w2 (by decide) (by decide)
        have M2 := s2.M H
        have ct : cpy (bgn (T t 0 0)) (T t) a j 0 1 = j := by rw [cpy_01 (by rw [b1]; omega), b1]; omega
        have h33 : σ2.2.1 82 33 = I (j : Int) := by rw [P2.1, ct]
        have tp := (s2.2.2.2.1 t ht).2.2 (a + j) (by omega)
        refine gX12_part_227 ⟨fun q => ?_, fun _ => ⟨M2.ob, ?_⟩⟩
        · rw [I_lt ⟨by omega, by omega⟩ ⟨by omega, by omega⟩] at q; omega
        rw [ix40, h33]
        refine ⟨M2.a19 (by omega) (by omega), M2.a31 (by omega) (by omega), fun σ5 e5 => ?_⟩
        rw [M2.k31, M2.k19, I_cln (by omega), I_cln (by omega), tp.1] at e5
        have w5 : Ws [33] [100, 101] σ1 σ5 := w2.tr (Ws.c e5 (by decide) (by omega))
        have M5 := (s1.ws w5 (by decide) (by decide)).M H
        have h5 : σ5.2.1 82 33 = I (j : Int) := by rw [e5, w1_r (by omega)]; exact h33
        rw [h5]
        refine ⟨M5.a20 (by omega) (by omega), M5.a32 (by omega) (by omega), fun σ8 e8 σ9 e9 => ?_⟩
        rw [M5.k32, M5.k20, I_cln (by omega), I_cln (by omega), e5, w1_r (by omega), tp.2, ← e5] at e8
        have w8 : Ws [33] [100, 101] σ1 σ8 := w5.tr (Ws.c e8 (by decide) (by omega))
        have h8 : σ8.2.1 82 33 = I (j : Int) := by rw [e8, w1_r (by omega)]; exact h5
        rw [h8, I_1, I_add] at e9
        rw [I_1, I_add]
        refine ih σ9 (w8.tr (Ws.w e9 (by decide))) ?_
        show RPr σ9 (psh (cpy (bgn (T t 0 0)) (T t) a j) (T t 1 (a + j)) (T t 2 (a + j)))
        rw [psh_t (by omega)]
        refine ⟨by rw [e9, w1_at, tA_01, ct], fun i hi => ?_⟩
        rw [tA_01, ct] at hi
        rw [tA_1, tA_2, ct, I_tn, e9, w1_r (by omega), w1_r (by omega), e8, w1_r (by omega), e5]
        by_cases z : i = j
        · rw [if_pos z, if_pos z, z, w1_at, w1_at]; exact ⟨rfl, rfl⟩
        · rw [if_neg z, if_neg z, w1_k z, w1_k z, w1_r (by omega)]
          exact P2.2 i (by omega)
    refine F 0 (by omega) σ1 (Ws.rf _ _ _) ⟨by rw [h33]; rfl, fun i hi => ?_⟩
    have : (i : Int) < 0 := hi
    omega
  have c33 : ∀ (σ3 σ4 : Sg) (i' : Nat), σ4 = w1 σ3 82 33 0 → RkS σ0 σ3 v B n T cnt i' 0 → RLr σ3 L → RkS σ0 σ4 v B n T cnt i' 0 ∧ RLr σ4 L ∧ σ4.2.1 82 33 = I 0 := by
    intro σ3 σ4 i' e4 s3 L3
    have w4 : Ws [33] [] σ3 σ4 := Ws.w e4 (by decide)
    exact ⟨s3.ws w4 (by decide) (by decide), L3.ws w4 (by decide) (by decide) (by decide) (by decide), by rw [e4, w1_at]; rfl⟩
  have tks : ∀ (σ1 : Sg) (i' : Nat), RkS σ0 σ1 v B n T cnt i' 0 → σ1.2.1 (σ1.2.2 82 18) (I (t : Nat)).toNatClampNeg = I (T t 0 1) := fun σ1 i' s1 => by
    rw [(s1.M H).d18 (by omega) (by omega), I_tn]; exact (s1.2.2.2.1 t ht).2.1
  unfold cut0 at hKf C
  refine gX12_part_58 ⟨(h.M H).ob, fun _ => ⟨(h.M H).a17 (by omega) (by omega), fun σ4 e4 => ?_⟩, fun q => absurd h.2.2.2.2.2.1 q⟩
  rw [(h.M H).d17 (by omega) (by omega), I_tn, (h.2.2.2.1 t ht).1] at e4
  have w4 : Ws [37] [] σ σ4 := Ws.w e4 (by decide)
  have s4 := h.ws w4 (by decide) (by decide)
  have L4 : RLr σ4 L := by
    refine ⟨by rw [w4.2.2.2 36 (by decide)]; exact hL.1, by rw [e4, w1_at, hL.2.1], fun i hi => ?_⟩
    rw [w4.2.2.1 102 (by omega) (by decide), w4.2.2.1 103 (by omega) (by decide)]; exact hL.2.2 i hi
  refine s4.next H (fun σ5 w5 s5 => ⟨(s5.M H).a18 (by omega) (by omega), ?_⟩)
  have L5 := L4.ws w5 (by decide) (by decide) (by decide) (by decide)
  have t5 := tks σ5 _ s5
  refine s5.isWord H (w := 2) ⟨by omega, by omega⟩ ⟨by omega, by omega⟩ (fun _ k6 => ⟨fun z => absurd z (by decide), fun _ => ?_⟩) (fun k6 => ⟨fun _ σ9 e9 => ?_, fun z => absurd rfl z⟩)
  · rw [if_neg (by omega)] at hKf C
    refine s5.next H (fun σ10 w10 s10 => ?_)
    have L10 := L5.ws w10 (by decide) (by decide) (by decide) (by decide)
    refine s10.isNumber H (lo := 0) (hi := 99) ⟨by omega, by omega⟩ ⟨by omega, by omega⟩ (fun n1 v10 => ⟨fun _ => ⟨(s10.M H).a18 (by omega) (by omega), ?_⟩, fun z => absurd z (by decide)⟩) (fun n1 σ11 w11 s11 => ⟨fun z => absurd rfl z, fun _ => ?_⟩)
    · have r1 := vlB_rg B n (i + 1 + 1)
      rw [if_neg (Classical.not_not.mpr n1)] at hKf C
      rw [tks σ10 _ s10, v10, t5, I_lt' (by omega) (by omega) (by omega) (by omega)]
      refine ⟨fun q1 => ?_, fun q1 => s10.wrong H (x := 3) (by omega) (fun σ15 w15 s15 => gX12_part_134 ⟨(s15.M H).ob, fun z => ?_, fun _ => ?_⟩)⟩
      · rw [if_neg (by omega)] at hKf C
        refine gX12_part_134 ⟨(s10.M H).ob, fun _ => ?_, fun z => absurd s10.2.2.2.2.2.1 z⟩
        refine s10.next H (fun σ13 w13 s13 => ?_)
        have L13 := L10.ws w13 (by decide) (by decide) (by decide) (by decide)
        refine s13.isWord H (w := 3) ⟨by omega, by omega⟩ ⟨by omega, by omega⟩ (fun _ k7 => ⟨fun _ => ?_, fun z => absurd z (by decide)⟩) (fun k7 => ⟨fun z => absurd rfl z, fun _ => ?_⟩)
        · have k7' : kdB B n (i + 1 + 2) = 7 := k7
          rw [if_neg (Classical.not_not.mpr k7')] at hKf C
          refine gX12_part_159 ⟨(s13.M H).ob, fun _ => ?_, fun z => absurd s13.2.2.2.2.2.1 z⟩
          refine s13.next H (fun σ16 w16 s16 => ?_)
          have L16 := L13.ws w16 (by decide) (by decide) (by decide) (by decide)
          have s16 : RkS σ0 σ16 v B n T cnt (i + 1 + 3) 0 := s16
          refine s16.isNumber H (lo := 0) (hi := 99) ⟨by omega, by omega⟩ ⟨by omega, by omega⟩ (fun n3 v16 => ⟨fun _ => ⟨(s16.M H).a18 (by omega) (by omega), ?_⟩, fun z => absurd z (by decide)⟩) (fun n3 σ17 w17 s17 => ⟨fun z => absurd rfl z, fun _ => ?_⟩)
          · have r3 := vlB_rg B n (i + 1 + 3)
            rw [if_neg (Classical.not_not.mpr n3)] at hKf C
            rw [tks σ16 _ s16, v16, I_le' (by omega) (by omega) (by omega) (by omega), I_le' (by omega) (by omega) (by omega) (by omega)]
            have bad : (T t 0 1 ≤ vlB B n (i + 1 + 3) ∨ vlB B n (i + 1 + 3) < vlB B n (i + 1 + 1)) → Con l mX12_wrong [.inr 82, .inl (I 3)] σ16 (PV (fun σ8 => GW l mX12_part 207 [(0, .inr 82), (1, .inl (I (t : Nat))), (2, .inl (I (vlB B n (i + 1 + 1)))), (3, .inl (I (vlB B n (i + 1 + 3))))] [] σ8 0 0 (PV K))) := by
              intro q
              rw [if_pos q] at hKf
              refine s16.wrong H (x := 3) (by omega) (fun σ18 w18 s18 => gX12_part_207 ⟨(s18.M H).ob, fun z => ?_, fun _ => hKf _ 3 σ18 (by omega) rfl s18⟩)
              rw [s18.2.2.2.2.2.1] at z; exact absurd z (by decide)
            refine ⟨fun q => bad (Or.inl q), fun q => ⟨fun q2 => ?_, fun q2 => bad (Or.inr (by omega))⟩⟩
            rw [if_neg (by omega)] at hKf C
            refine gX12_part_207 ⟨(s16.M H).ob, fun _ => ?_, fun z => absurd s16.2.2.2.2.2.1 z⟩
            refine s16.next H (fun σ18 w18 s18 σ19 e19 => ?_)
            have L18 := L16.ws w18 (by decide) (by decide) (by decide) (by decide)
            obtain ⟨s19, L19, z19⟩ := c33 σ18 σ19 _ e19 s18 L18
            rw [show I (vlB B n (i + 1 + 1)) = I (((vlB B n (i + 1 + 1)).toNat : Nat) : Int) by congr 1; omega]
            exact C _ (vlB B n (i + 1 + 3) - vlB B n (i + 1 + 1) + 1).toNat _ (i + 1 + 4) σ19 s19 L19 z19 (by omega) (by omega) rfl _
          · rw [if_pos n3] at hKf
            exact hKf _ _ σ17 n3 rfl s17
        · have k7' : kdB B n (i + 1 + 2) ≠ 7 := fun z => k7 ⟨rfl, z⟩
          rw [if_pos k7'] at hKf
          have s13' : RkS σ0 σ13 v B n T cnt (i + 1 + 2) 0 := s13
          refine s13'.wrong H (x := 1) (by omega) (fun σ16 w16 s16 => gX12_part_159 ⟨(s16.M H).ob, fun z => ?_, fun _ => hKf _ 1 σ16 (by omega) rfl s16⟩)
          rw [s16.2.2.2.2.2.1] at z; exact absurd z (by decide)
      · rw [s15.2.2.2.2.2.1] at z; exact absurd z (by decide)
      · rw [if_pos (by omega)] at hKf
        exact hKf _ 3 σ15 (by omega) rfl s15
    · rw [if_pos n1] at hKf
      exact hKf _ _ σ11 n1 rfl s11
  · have k6' : kdB B n (i + 1) ≠ 6 := fun z => k6 ⟨rfl, z⟩
    rw [if_pos k6'] at C
    obtain ⟨s9, L9, z9⟩ := c33 σ5 σ9 _ e9 s5 L5
    rw [t5, I_1, I_sub, show (0 : Int32) = I ((0 : Nat) : Int) from rfl]
    exact C 0 (T t 0 1).toNat _ (i + 1) σ9 s9 L9 z9 (by omega) (by omega) rfl _
theorem RkS.part (H : RkH σ0 v B n c) {K : Sg → Prop} {fs : Bool} (h : RkS σ0 σ v B n T cnt i 0) (hT : TWs v.1 (v.2.2.1 0) T cnt) (hL : fs = false → RLr σ L ∧ TW v.1 (v.2.2.1 0) L) (hF : fs = true → σ.2.1 82 36 = I 0 ∧ σ.2.1 82 37 = I (-1))
    (hK : ∀ σ', RkS σ0 σ' v B n T cnt (prt (kdB B n) (vlB B n) T cnt fs i L P).1 (prt (kdB B n) (vlB B n) T cnt fs i L P).2.1 → ((prt (kdB B n) (vlB B n) T cnt fs i L P).2.1 = 0 → RLr σ' (prt (kdB B n) (vlB B n) T cnt fs i L P).2.2.1 ∧ RPr σ' (prt (kdB B n) (vlB B n) T cnt fs i L P).2.2.2) → K σ') : Con l mX12_part [.inr 82] σ (PV K) := by
  have w0 := H.2.2.2.1
  have n4 := H.2.2.1.1
  have c10 := h.2.1.2
  generalize ey : prt (kdB B n) (vlB B n) T cnt fs i L P = y at hK
  -- the changes
  have F : ∀ (d : Nat) (x : Mt) (σ1 : Sg), n - x.1 ≤ d → (0 ≤ x.2.1 ∧ x.2.1 ≤ 5) → RkS σ0 σ1 v B n T cnt x.1 x.2.1 → (x.2.1 = 0 → Iv v.1 (v.2.2.1 0) x ∧ RLr σ1 x.2.2.1 ∧ RPr σ1 x.2.2.2) → chgs (kdB B n) (vlB B n) d x = y → ∀ y1 y2 y3 y4 : Int32, GW l mX12_part 291 [(0, .inr 82), (1, .inl y1), (2, .inl y2), (3, .inl y3), (4, .inl y4)] [] σ1 0 0 (PV K) := by
    have E : ∀ (x : Mt) (σ1 : Sg), (0 ≤ x.2.1 ∧ x.2.1 ≤ 5) → RkS σ0 σ1 v B n T cnt x.1 x.2.1 → (x.2.1 = 0 → RLr σ1 x.2.2.1 ∧ RPr σ1 x.2.2.2) → ¬ (x.2.1 = 0 ∧ 8 ≤ kdB B n x.1 ∧ kdB B n x.1 ≤ 10) → x = y → ∀ y1 y2 y3 y4 : Int32, GW l mX12_part 291 [(0, .inr 82), (1, .inl y1), (2, .inl y2), (3, .inl y3), (4, .inl y4)] [] σ1 0 0 (PV K) := by
      intro x σ1 hf s1 hx no exy y1 y2 y3 y4
      subst exy
      refine gX12_part_291 ⟨(s1.M H).ob, s1.isWord H (w := 4) hf ⟨by omega, by omega⟩ (fun a b => absurd ⟨a, by omega, by omega⟩ no) (fun _ => ⟨fun z => absurd rfl z, fun _ => ?_⟩)⟩
      refine s1.isWord H (w := 5) hf ⟨by omega, by omega⟩ (fun a b => absurd ⟨a, by omega, by omega⟩ no) (fun _ => ⟨fun z => absurd rfl z, fun _ => ?_⟩)
      exact s1.isWord H (w := 6) hf ⟨by omega, by omega⟩ (fun a b => absurd ⟨a, by omega, by omega⟩ no) (fun _ => ⟨fun _ => hK σ1 s1 hx, fun z => absurd rfl z⟩)
    intro d
    induction d with
    | zero =>
      intro x σ1 hd hf s1 hx ec
      have k0 := kdB_far (B := B) (n := n) (i := x.1) (by omega)
      exact E x σ1 hf s1 (fun z => (hx z).2) (by omega) ec
    | succ d ih =>
      intro x σ1 hd hf s1 hx ec y1 y2 y3 y4
      have ec : (if x.2.1 = 0 ∧ 8 ≤ kdB B n x.1 ∧ kdB B n x.1 ≤ 10 then chgs (kdB B n) (vlB B n) d (chg1 (kdB B n) (vlB B n) x) else x) = y := ec
      by_cases cd : x.2.1 = 0 ∧ 8 ≤ kdB B n x.1 ∧ kdB B n x.1 ≤ 10
      · rw [if_pos cd] at ec
        obtain ⟨iv, L1, P1⟩ := hx cd.1
        rw [cd.1] at s1
        have c1 := chg1_iv (kd := kdB B n) (vl := vlB B n) iv
        have go : Con l mX12_changes [.inr 82] σ1 (PV (fun σ4 => GW l mX12_part 291 [(0, .inr 82), (1, .inl y1), (2, .inl y2), (3, .inl y3), (4, .inl y4)] [] σ4 0 0 (PV K))) := by
          refine s1.changes H x iv L1 P1 cd.2 (fun σ4 s4 x4 => ?_)
          exact ih (chg1 (kdB B n) (vlB B n) x) σ4 (by have := c1.2.2.2; omega) ⟨c1.2.1, c1.2.2.1⟩ s4 (fun z => ⟨c1.1, x4 z⟩) ec y1 y2 y3 y4
        refine gX12_part_291 ⟨(s1.M H).ob, s1.isWord H (w := 4) ⟨by omega, by omega⟩ ⟨by omega, by omega⟩ (fun _ _ => ⟨fun _ => go, fun z => absurd z (by decide)⟩) (fun a8 => ⟨fun z => absurd rfl z, fun _ => ?_⟩)⟩
        refine s1.isWord H (w := 5) ⟨by omega, by omega⟩ ⟨by omega, by omega⟩ (fun _ _ => ⟨fun _ => go, fun z => absurd z (by decide)⟩) (fun a9 => ⟨fun z => absurd rfl z, fun _ => ?_⟩)
        refine s1.isWord H (w := 6) ⟨by omega, by omega⟩ ⟨by omega, by omega⟩ (fun _ _ => ⟨fun z => absurd z (by decide), fun _ => go⟩) (fun a10 => ?_)
        exfalso
        have q8 : kdB B n x.1 ≠ 8 := fun z => a8 ⟨rfl, by omega⟩
        have q9 : kdB B n x.1 ≠ 9 := fun z => a9 ⟨rfl, by omega⟩
        have q10 : kdB B n x.1 ≠ 10 := fun z => a10 ⟨rfl, by omega⟩
        omega
      · rw [if_neg cd] at ec
        exact E x σ1 hf s1 (fun z => (hx z).2) cd ec y1 y2 y3 y4
  refine eX12_part ⟨(h.M H).ob, h.isNumber H (lo := 0) (hi := 99) ⟨by omega, by omega⟩ ⟨by omega, by omega⟩ (fun nz s26 => ⟨fun _ => ?_, fun z => absurd z (by decide)⟩) (fun nz σ1 w1' s1 => ⟨fun z => absurd rfl z, fun _ => ?_⟩)⟩
  · have nb := numF_0.mp nz
    have r1 := vlB_rg B n i
    obtain ⟨t, et⟩ : ∃ t : Nat, vlB B n i = t := ⟨(vlB B n i).toNat, by omega⟩
    rw [s26, h.2.2.1, et, I_lt' (by omega) (by omega) (by omega) (by omega)]
    -- a fault at once
    have bad : ∀ x : Int, x ≠ 0 → y = (i, x, L, P) → Con l mX12_wrong [.inr 82, .inl (I x)] σ (PV (fun σ8 => GW l mX12_part 58 [(0, .inr 82), (1, .inl (I (t : Nat)))] [] σ8 0 0 (PV K))) := by
      intro x hx ex
      refine h.wrong H hx (fun σ8 w8 s8 => gX12_part_58 ⟨(s8.M H).ob, fun z => ?_, fun _ => ?_⟩)
      · exfalso
        have z2 := s8.2.2.2.2.2.2
        have x28 : σ8.2.1 82 27 = I x := s8.2.2.2.2.2.1
        have hr : 0 ≤ x ∧ x ≤ 5 := by
          have p := (prt_iv (kd := kdB B n) (vl := vlB B n) (A := v.1) (na := v.2.2.1 0) (fs := fs) (i := i) (L := L) (P := P) hT (fun q => (hL q).2)).2
          rw [ey, ex] at p
          exact ⟨p.1, p.2.1⟩
        rw [x28, I_0, I_eq ⟨by omega, by omega⟩ ⟨by omega, by omega⟩] at z
        exact hx z
      · rw [ex] at hK
        exact hK σ8 s8 (fun z => absurd z hx)
    refine ⟨fun lt => ?_, fun lt => bad 3 (by omega) ?_⟩
    · have tw := hT t (by omega)
      have fin : ∀ L' : Nat → Nat → Int, L' = (if fs = true then bgn (T t 0 0) else L) → ¬ (fs = false ∧ L 0 0 ≠ T t 0 0) → GW l mX12_part 58 [(0, .inr 82), (1, .inl (I (t : Nat)))] [] σ 0 0 (PV K) := by
        intro L' eL no
        have ep : y = if (cut0 (kdB B n) (vlB B n) (T t) (i + 1) L' (bgn (T t 0 0))).2.1 = 0 then chgs (kdB B n) (vlB B n) 400 (cut0 (kdB B n) (vlB B n) (T t) (i + 1) L' (bgn (T t 0 0))) else cut0 (kdB B n) (vlB B n) (T t) (i + 1) L' (bgn (T t 0 0)) := by
          rw [← ey, eL]
          unfold prt
          rw [et, I_tn, if_neg (Classical.not_not.mpr nz), if_neg (by omega), if_neg no]
          rfl
        have own : L' 0 0 = T t 0 0 ∧ TW v.1 (v.2.2.1 0) L' := by
          rw [eL]
          cases fs with
          | true => exact ⟨rfl, TW.bb tw.1.1⟩
          | false => exact ⟨Classical.byContradiction fun z => no ⟨rfl, z⟩, (hL rfl).2⟩
        have civ := cut0_iv (kd := kdB B n) (vl := vlB B n) (i := i + 1) tw.1 tw.2 own.2 own.1.symm
        refine h.part58 H (L := L') (by omega) ⟨tw.1.2.1.1, tw.2⟩ ⟨?_, own.1, fun j hj => ?_⟩ (fun i' e σ' ne ec s' => ?_) (fun i' a k σ' ec hk s' L9 P9 y1 y2 y3 y4 => ?_)
        · rw [eL]
          cases fs with
          | true => exact (hF rfl).1
          | false => exact (hL rfl).1.1
        · cases fs with
          | true =>
            have eL' : L' = bgn (T t 0 0) := eL
            rw [eL'] at hj
            have : (j : Int) < 0 := hj
            omega
          | false =>
            have eL' : L' = L := eL
            rw [eL'] at hj ⊢
            exact (hL rfl).1.2.2 j hj
        · rw [ec, if_neg ne] at ep
          rw [ep] at hK
          exact hK σ' s' (fun z => absurd z ne)
        · rw [ec] at ep civ
          rw [if_pos rfl] at ep
          exact F 400 (i', 0, L', cpy (bgn (T t 0 0)) (T t) a k) σ' (by omega) ⟨by show (0 : Int) ≤ 0; omega, by show (0 : Int) ≤ 5; omega⟩ s' (fun _ => ⟨civ.1, L9, P9⟩) ep.symm y1 y2 y3 y4
      cases hfs : fs with
      | true =>
        have f37 := (hF hfs).2
        rw [f37]
        refine ⟨fun _ => fin _ rfl (fun z => by rw [hfs] at z; exact absurd z.1 (by decide)), fun z => absurd rfl z⟩
      | false =>
        obtain ⟨L1, W1⟩ := hL hfs
        have l0 := W1.1
        have o0 := tw.1.1
        rw [L1.2.1]
        refine ⟨fun z => ?_, fun _ => ⟨(h.M H).a17 (by omega) (by omega), ?_⟩⟩
        · rw [I_m1, I_eq ⟨by omega, by omega⟩ ⟨by omega, by omega⟩] at z; omega
        rw [(h.M H).d17 (by omega) (by omega), I_tn, (h.2.2.2.1 t (by omega)).1, I_eq' (by omega) (by omega) (by omega) (by omega)]
        refine ⟨fun z => fin _ rfl (fun q => q.2 z.symm), fun z => bad 4 (by omega) ?_⟩
        rw [← ey]
        unfold prt
        rw [et, I_tn, if_neg (Classical.not_not.mpr nz), if_neg (by omega), if_pos ⟨hfs, fun q => z q.symm⟩]
    · rw [← ey]
      unfold prt
      rw [et, if_neg (Classical.not_not.mpr nz), if_pos (by omega)]
  · have ep : y = (i, numF (kdB B n) (vlB B n) 0 99 i, L, P) := by
      rw [← ey]
      unfold prt
      rw [if_pos nz]
    rw [ep] at hK
    exact hK σ1 s1 (fun z => absurd z nz)
theorem RkS.partF (H : RkH σ0 v B n c) {K : Sg → Prop} (h : RkS σ0 σ v B n T cnt i f) (hf : f ≠ 0) (h5 : 0 ≤ f ∧ f ≤ 5) (hK : K σ) : Con l mX12_part [.inr 82] σ (PV K) := by
  refine eX12_part ⟨(h.M H).ob, eX12_isNumber ⟨(h.M H).ob, fun q => ?_, fun _ => ⟨fun z => absurd rfl z, fun _ => hK⟩⟩⟩
  rw [h.2.2.2.2.2.1, I_0, I_eq ⟨by omega, by omega⟩ ⟨by omega, by omega⟩] at q
  exact absurd q hf
end RMP
