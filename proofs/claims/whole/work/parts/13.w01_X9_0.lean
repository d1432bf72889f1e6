set_option maxHeartbeats 4000000 in
set_option maxRecDepth 20000 in
theorem eX9_init {l : Launch} {v0 : Nat} {σ : Sg} {K : Sg → Prop} (h : v0 ≠ 0 ∧ shp (σ.1 + 1) = (13, 40) ∧ σ.1 + 1 ≤ 1000 ∧ ∀ x3 σ3, x3 = σ.1 + 1 → σ3 = nw σ → Ob σ3 v0 9 ∧ x3 ≤ σ3.1 ∧ ∀ σ6, σ6 = w2 σ3 v0 0 x3 → shp (σ6.1 + 1) = (13, 40) ∧ σ6.1 + 1 ≤ 1000 ∧ ∀ x8 σ8, x8 = σ6.1 + 1 → σ8 = nw σ6 → x8 ≤ σ8.1 ∧ ∀ σ10, σ10 = w2 σ8 v0 1 x8 → K σ10) : Con l mX9_init [.inr v0] σ (PV K) := by
  refine con_gw rfl (Nat.le_of_ble_eq_true rfl) ?_
  show GW l mX9_init 0 [(0, .inr v0)] [] σ 0 0 (PV K)
  refine gw_aload_n (q := 0) dX9_init_0 rfl rfl ?_
  obtain ⟨g1, h⟩ := h
  refine gw_objInit oiX9_3 oi_in oi_cd dX9_init_1 (by decide) (Nat.le_of_ble_eq_true rfl) g1 ?_
  refine gw_aload_n (q := 0) dX9_init_4 rfl rfl ?_
  refine gw_bipush (v := 40) dX9_init_5 bp_40 ?_
  obtain ⟨g2, g3, h⟩ := h
  refine gw_newi (N := 40) ac_int dX9_init_7 g2 (by decide) (by decide) (by decide) (by decide) (by decide) g3 (fun x3 σ3 ex3 e3 => ?_)
  replace h := h x3 σ3 ex3 e3
  obtain ⟨g4, h⟩ := h
  obtain ⟨z5, h⟩ := h
  refine gw_pRF fX9_9 (Or.inr ⟨_, rfl⟩) rfl rfl (fun C T N hc => by cases hc; exact xfX9_9) dX9_init_9 z5 g4 (fun σ6 e6 => ?_)
  replace h := h σ6 e6
  refine gw_aload_n (q := 0) dX9_init_12 rfl rfl ?_
  refine gw_bipush (v := 40) dX9_init_13 bp_40 ?_
  obtain ⟨g7, g8, h⟩ := h
  refine gw_newi (N := 40) ac_int dX9_init_15 g7 (by decide) (by decide) (by decide) (by decide) (by decide) g8 (fun x8 σ8 ex8 e8 => ?_)
  replace h := h x8 σ8 ex8 e8
  obtain ⟨z9, h⟩ := h
  refine gw_pRF fX9_15 (Or.inr ⟨_, rfl⟩) rfl rfl (fun C T N hc => by cases hc; exact xfX9_15) dX9_init_17 z9 ((g4.up (n_w2 e6)).up (n_nw e8)) (fun σ10 e10 => ?_)
  replace h := h σ10 e10
  exact gw_rV dX9_init_20 rfl (by decide) (by decide) h
set_option maxHeartbeats 4000000 in
set_option maxRecDepth 20000 in
theorem eX9_begin {l : Launch} {v0 : Nat} {v1 : Int32} {σ : Sg} {K : Sg → Prop} (h : Ob σ v0 9 ∧ ∀ σ2, σ2 = w1 σ v0 2 v1 → ∀ σ3, σ3 = w1 σ2 v0 3 0 → K σ3) : Con l mX9_begin [.inr v0, .inl v1] σ (PV K) := by
  refine con_gw rfl (Nat.le_of_ble_eq_true rfl) ?_
  show GW l mX9_begin 0 [(0, .inr v0), (1, .inl v1)] [] σ 0 0 (PV K)
  refine gw_aload_n (q := 0) dX9_begin_0 rfl rfl ?_
  refine gw_iload_n (q := 1) dX9_begin_1 rfl rfl ?_
  obtain ⟨g1, h⟩ := h
  refine gw_pI fX9_18 dX9_begin_2 g1 (fun σ2 e2 => ?_)
  replace h := h σ2 e2
  refine gw_aload_n (q := 0) dX9_begin_5 rfl rfl ?_
  refine gw_iconst (v := 0) dX9_begin_6 ic_0 ?_
  refine gw_pI fX9_22 dX9_begin_7 (g1.up (n_w1 e2)) (fun σ3 e3 => ?_)
  replace h := h σ3 e3
  exact gw_rV dX9_begin_10 rfl (by decide) (by decide) h
set_option maxHeartbeats 4000000 in
set_option maxRecDepth 20000 in
theorem eX9_has {l : Launch} {v0 : Nat} {v1 : Int32} {σ : Sg} {K : Int32 → Sg → Prop} (h : ((v1 < 0 → K 0 σ) ∧ (¬ v1 < 0 → Ob σ v0 9 ∧ (((σ.2.1 v0 3) ≤ v1 → K 0 σ) ∧ (¬ (σ.2.1 v0 3) ≤ v1 → ((40 ≤ v1 → K 0 σ) ∧ (¬ 40 ≤ v1 → K 1 σ))))))) : Con l mX9_has [.inr v0, .inl v1] σ (PI K) := by
  refine con_gw rfl (Nat.le_of_ble_eq_true rfl) ?_
  show GW l mX9_has 0 [(0, .inr v0), (1, .inl v1)] [] σ 0 0 (PI K)
  refine gw_iload_n (q := 1) dX9_has_0 rfl rfl ?_
  refine gw_if_lt (tgt := 22) dX9_has_1 (by decide) (fun c1 => ?_) (fun c1 => ?_)
  · replace h := h.1 c1
    refine gw_iconst (v := 0) dX9_has_22 ic_0 ?_
    exact gw_rZ dX9_has_23 rfl (by decide) (by decide) (by decide) h
  · replace h := h.2 c1
    refine gw_iload_n (q := 1) dX9_has_4 rfl rfl ?_
    refine gw_aload_n (q := 0) dX9_has_5 rfl rfl ?_
    obtain ⟨g2, h⟩ := h
    refine gw_gI fX9_22 dX9_has_6 g2 ?_
    refine gw_icmp_ge (tgt := 22) dX9_has_9 (by decide) (fun c3 => ?_) (fun c3 => ?_)
    · replace h := h.1 c3
      refine gw_iconst (v := 0) dX9_has_22 ic_0 ?_
      exact gw_rZ dX9_has_23 rfl (by decide) (by decide) (by decide) h
    · replace h := h.2 c3
      refine gw_iload_n (q := 1) dX9_has_12 rfl rfl ?_
      refine gw_bipush (v := 40) dX9_has_13 bp_40 ?_
      refine gw_icmp_ge (tgt := 22) dX9_has_15 (by decide) (fun c4 => ?_) (fun c4 => ?_)
      · replace h := h.1 c4
        refine gw_iconst (v := 0) dX9_has_22 ic_0 ?_
        exact gw_rZ dX9_has_23 rfl (by decide) (by decide) (by decide) h
      · replace h := h.2 c4
        refine gw_iconst (v := 1) dX9_has_18 ic_1 ?_
        refine gw_goto (tgt := 23) dX9_has_19 (by decide) ?_
        exact gw_rZ dX9_has_23 rfl (by decide) (by decide) (by decide) h
set_option maxHeartbeats 4000000 in
set_option maxRecDepth 20000 in
theorem eX9_poseAt {l : Launch} {v0 : Nat} {v1 : Int32} {σ : Sg} {K : Int32 → Sg → Prop} (h : Ob σ v0 9 ∧ Con l mX9_has [.inr v0, .inl v1] σ (PI (fun x1 σ1 => ((x1 = 0 → K 0 σ1) ∧ (¬ x1 = 0 → Ai σ1 (σ1.2.2 v0 0) v1 ∧ K (σ1.2.1 (σ1.2.2 v0 0) v1.toNatClampNeg) σ1))))) : Con l mX9_poseAt [.inr v0, .inl v1] σ (PI K) := by
  refine con_gw rfl (Nat.le_of_ble_eq_true rfl) ?_
  show GW l mX9_poseAt 0 [(0, .inr v0), (1, .inl v1)] [] σ 0 0 (PI K)
  refine gw_aload_n (q := 0) dX9_poseAt_0 rfl rfl ?_
  refine gw_iload_n (q := 1) dX9_poseAt_1 rfl rfl ?_
  obtain ⟨g2, h⟩ := h
  refine gw_vC (bs := [.inl v1]) (st := []) (vmX9_has) lX9_25 dX9_poseAt_2 ⟨by decide, rfl, rfl, by decide, by decide⟩ (Nat.le_of_ble_eq_true rfl) rfl rfl g2 h (kI (fun x1 σ1 h n1 => ?_))
  refine gw_if_eq (tgt := 17) dX9_poseAt_5 (by decide) (fun c3 => ?_) (fun c3 => ?_)
  · replace h := h.1 c3
    refine gw_iconst (v := 0) dX9_poseAt_17 ic_0 ?_
    exact gw_rI dX9_poseAt_18 rfl (by decide) (by decide) h
  · replace h := h.2 c3
    refine gw_aload_n (q := 0) dX9_poseAt_8 rfl rfl ?_
    refine gw_gR fX9_9 dX9_poseAt_9 (g2.up n1) ?_
    refine gw_iload_n (q := 1) dX9_poseAt_12 rfl rfl ?_
    obtain ⟨g4, h⟩ := h
    refine gw_aI dX9_poseAt_13 g4 ?_
    refine gw_goto (tgt := 18) dX9_poseAt_14 (by decide) ?_
    exact gw_rI dX9_poseAt_18 rfl (by decide) (by decide) h
set_option maxHeartbeats 4000000 in
set_option maxRecDepth 20000 in
theorem eX9_sprayAt {l : Launch} {v0 : Nat} {v1 : Int32} {σ : Sg} {K : Int32 → Sg → Prop} (h : Ob σ v0 9 ∧ Con l mX9_has [.inr v0, .inl v1] σ (PI (fun x1 σ1 => ((x1 = 0 → K 0 σ1) ∧ (¬ x1 = 0 → Ai σ1 (σ1.2.2 v0 1) v1 ∧ K (σ1.2.1 (σ1.2.2 v0 1) v1.toNatClampNeg) σ1))))) : Con l mX9_sprayAt [.inr v0, .inl v1] σ (PI K) := by
  refine con_gw rfl (Nat.le_of_ble_eq_true rfl) ?_
  show GW l mX9_sprayAt 0 [(0, .inr v0), (1, .inl v1)] [] σ 0 0 (PI K)
  refine gw_aload_n (q := 0) dX9_sprayAt_0 rfl rfl ?_
  refine gw_iload_n (q := 1) dX9_sprayAt_1 rfl rfl ?_
  obtain ⟨g2, h⟩ := h
  refine gw_vC (bs := [.inl v1]) (st := []) (vmX9_has) lX9_25 dX9_sprayAt_2 ⟨by decide, rfl, rfl, by decide, by decide⟩ (Nat.le_of_ble_eq_true rfl) rfl rfl g2 h (kI (fun x1 σ1 h n1 => ?_))
  refine gw_if_eq (tgt := 17) dX9_sprayAt_5 (by decide) (fun c3 => ?_) (fun c3 => ?_)
  · replace h := h.1 c3
    refine gw_iconst (v := 0) dX9_sprayAt_17 ic_0 ?_
    exact gw_rI dX9_sprayAt_18 rfl (by decide) (by decide) h
  · replace h := h.2 c3
    refine gw_aload_n (q := 0) dX9_sprayAt_8 rfl rfl ?_
    refine gw_gR fX9_15 dX9_sprayAt_9 (g2.up n1) ?_
    refine gw_iload_n (q := 1) dX9_sprayAt_12 rfl rfl ?_
    obtain ⟨g4, h⟩ := h
    refine gw_aI dX9_sprayAt_13 g4 ?_
    refine gw_goto (tgt := 18) dX9_sprayAt_14 (by decide) ?_
    exact gw_rI dX9_sprayAt_18 rfl (by decide) (by decide) h
set_option maxHeartbeats 4000000 in
set_option maxRecDepth 20000 in
theorem eX9_lastPose {l : Launch} {v0 : Nat} {σ : Sg} {K : Int32 → Sg → Prop} (h : Ob σ v0 9 ∧ Con l mX9_poseAt [.inr v0, .inl ((σ.2.1 v0 3) - 1)] σ (PI (fun x2 σ2 => K x2 σ2))) : Con l mX9_lastPose [.inr v0] σ (PI K) := by
  refine con_gw rfl (Nat.le_of_ble_eq_true rfl) ?_
  show GW l mX9_lastPose 0 [(0, .inr v0)] [] σ 0 0 (PI K)
  refine gw_aload_n (q := 0) dX9_lastPose_0 rfl rfl ?_
  refine gw_aload_n (q := 0) dX9_lastPose_1 rfl rfl ?_
  obtain ⟨g1, h⟩ := h
  refine gw_gI fX9_22 dX9_lastPose_2 g1 ?_
  refine gw_iconst (v := 1) dX9_lastPose_5 ic_1 ?_
  refine gw_isub dX9_lastPose_6 ?_
  refine gw_vC (bs := [.inl ((σ.2.1 v0 3) - 1)]) (st := []) (vmX9_poseAt) lX9_29 dX9_lastPose_7 ⟨by decide, rfl, rfl, by decide, by decide⟩ (Nat.le_of_ble_eq_true rfl) rfl rfl g1 h (kI (fun x2 σ2 h n2 => ?_))
  exact gw_rI dX9_lastPose_10 rfl (by decide) (by decide) h
set_option maxHeartbeats 4000000 in
set_option maxRecDepth 20000 in
theorem eX9_addTick {l : Launch} {v0 : Nat} {v1 : Int32} {v2 : Int32} {σ : Sg} {K : Int32 → Sg → Prop} (h : Ob σ v0 9 ∧ (((σ.2.1 v0 3) < 0 → K 0 σ) ∧ (¬ (σ.2.1 v0 3) < 0 → (((σ.2.1 v0 3) < 40 → Ai σ (σ.2.2 v0 0) (σ.2.1 v0 3) ∧ ∀ σ5, σ5 = w1 σ (σ.2.2 v0 0) (σ.2.1 v0 3).toNatClampNeg v1 → Ai σ5 (σ5.2.2 v0 1) (σ5.2.1 v0 3) ∧ ∀ σ7, σ7 = w1 σ5 (σ5.2.2 v0 1) (σ5.2.1 v0 3).toNatClampNeg v2 → ∀ σ8, σ8 = w1 σ7 v0 3 ((σ7.2.1 v0 3) + 1) → K 1 σ8) ∧ (¬ (σ.2.1 v0 3) < 40 → K 0 σ))))) : Con l mX9_addTick [.inr v0, .inl v1, .inl v2] σ (PI K) := by
  refine con_gw rfl (Nat.le_of_ble_eq_true rfl) ?_
  show GW l mX9_addTick 0 [(0, .inr v0), (1, .inl v1), (2, .inl v2)] [] σ 0 0 (PI K)
  refine gw_aload_n (q := 0) dX9_addTick_0 rfl rfl ?_
  obtain ⟨g1, h⟩ := h
  refine gw_gI fX9_22 dX9_addTick_1 g1 ?_
  refine gw_if_lt (tgt := 16) dX9_addTick_4 (by decide) (fun c2 => ?_) (fun c2 => ?_)
  · replace h := h.1 c2
    refine gw_iconst (v := 0) dX9_addTick_16 ic_0 ?_
    exact gw_rZ dX9_addTick_17 rfl (by decide) (by decide) (by decide) h
  · replace h := h.2 c2
    refine gw_aload_n (q := 0) dX9_addTick_7 rfl rfl ?_
    refine gw_gI fX9_22 dX9_addTick_8 g1 ?_
    refine gw_bipush (v := 40) dX9_addTick_11 bp_40 ?_
    refine gw_icmp_lt (tgt := 18) dX9_addTick_13 (by decide) (fun c3 => ?_) (fun c3 => ?_)
    · replace h := h.1 c3
      refine gw_aload_n (q := 0) dX9_addTick_18 rfl rfl ?_
      refine gw_gR fX9_9 dX9_addTick_19 g1 ?_
      refine gw_aload_n (q := 0) dX9_addTick_22 rfl rfl ?_
      refine gw_gI fX9_22 dX9_addTick_23 g1 ?_
      refine gw_iload_n (q := 1) dX9_addTick_26 rfl rfl ?_
      obtain ⟨g4, h⟩ := h
      refine gw_sI dX9_addTick_27 g4 (fun σ5 e5 => ?_)
      replace h := h σ5 e5
      refine gw_aload_n (q := 0) dX9_addTick_28 rfl rfl ?_
      refine gw_gR fX9_15 dX9_addTick_29 (g1.up (n_w1 e5)) ?_
      refine gw_aload_n (q := 0) dX9_addTick_32 rfl rfl ?_
      refine gw_gI fX9_22 dX9_addTick_33 (g1.up (n_w1 e5)) ?_
      refine gw_iload_n (q := 2) dX9_addTick_36 rfl rfl ?_
      obtain ⟨g6, h⟩ := h
      refine gw_sI dX9_addTick_37 g6 (fun σ7 e7 => ?_)
      replace h := h σ7 e7
      refine gw_aload_n (q := 0) dX9_addTick_38 rfl rfl ?_
      refine gw_dup dX9_addTick_39 ?_
      refine gw_gI fX9_22 dX9_addTick_40 ((g1.up (n_w1 e5)).up (n_w1 e7)) ?_
      refine gw_iconst (v := 1) dX9_addTick_43 ic_1 ?_
      refine gw_iadd dX9_addTick_44 ?_
      refine gw_pI fX9_22 dX9_addTick_45 ((g1.up (n_w1 e5)).up (n_w1 e7)) (fun σ8 e8 => ?_)
      replace h := h σ8 e8
      refine gw_iconst (v := 1) dX9_addTick_48 ic_1 ?_
      exact gw_rZ dX9_addTick_49 rfl (by decide) (by decide) (by decide) h
    · replace h := h.2 c3
      refine gw_iconst (v := 0) dX9_addTick_16 ic_0 ?_
      exact gw_rZ dX9_addTick_17 rfl (by decide) (by decide) (by decide) h
set_option maxHeartbeats 4000000 in
set_option maxRecDepth 20000 in
theorem gX9_addCut_3 {l : Launch} {v0 : Nat} {v1 : Nat} {v2 : Int32} {v3 : Int32} {v4 : Int32} {σ : Sg} {K : Sg → Prop} (h : ((v3 < v4 → K σ) ∧ (¬ v3 < v4 → Ob σ v1 9 ∧ Con l mX9_has [.inr v1, .inl v4] σ (PI (fun x2 σ2 => ((x2 = 0 → K σ2) ∧ (¬ x2 = 0 → Con l mX9_poseAt [.inr v1, .inl v4] σ2 (PI (fun x5 σ5 => Con l mX9_sprayAt [.inr v1, .inl v4] σ5 (PI (fun x6 σ6 => Ob σ6 v0 9 ∧ Con l mX9_addTick [.inr v0, .inl x5, .inl x6] σ6 (PI (fun x7 σ7 => GW l mX9_addCut 3 [(0, .inr v0), (1, .inr v1), (2, .inl v2), (3, .inl v3), (4, .inl (v4 + 1))] [] σ7 0 0 (PV K)))))))))))))) : GW l mX9_addCut 3 [(0, .inr v0), (1, .inr v1), (2, .inl v2), (3, .inl v3), (4, .inl v4)] [] σ 0 0 (PV K) := by
  refine gw_iload (q := 4) dX9_addCut_3 rfl ?_
  refine gw_iload_n (q := 3) dX9_addCut_5 rfl rfl ?_
  refine gw_icmp_gt (tgt := 41) dX9_addCut_6 (by decide) (fun c1 => ?_) (fun c1 => ?_)
  · replace h := h.1 c1
    exact gw_rV dX9_addCut_41 rfl (by decide) (by decide) h
  · replace h := h.2 c1
    refine gw_aload_n (q := 1) dX9_addCut_9 rfl rfl ?_
    refine gw_iload (q := 4) dX9_addCut_10 rfl ?_
    obtain ⟨g3, h⟩ := h
    refine gw_vC (bs := [.inl v4]) (st := []) (vmX9_has) lX9_25 dX9_addCut_12 ⟨by decide, rfl, rfl, by decide, by decide⟩ (Nat.le_of_ble_eq_true rfl) rfl rfl g3 h (kI (fun x2 σ2 h n2 => ?_))
    refine gw_if_eq (tgt := 41) dX9_addCut_15 (by decide) (fun c4 => ?_) (fun c4 => ?_)
    · replace h := h.1 c4
      exact gw_rV dX9_addCut_41 rfl (by decide) (by decide) h
    · replace h := h.2 c4
      refine gw_aload_n (q := 0) dX9_addCut_18 rfl rfl ?_
      refine gw_aload_n (q := 1) dX9_addCut_19 rfl rfl ?_
      refine gw_iload (q := 4) dX9_addCut_20 rfl ?_
      refine gw_vC (bs := [.inl v4]) (st := [.inr v0]) (vmX9_poseAt) lX9_29 dX9_addCut_22 ⟨by decide, rfl, rfl, by decide, by decide⟩ (Nat.le_of_ble_eq_true rfl) rfl rfl (g3.up n2) h (kI (fun x5 σ5 h n5 => ?_))
      refine gw_aload_n (q := 1) dX9_addCut_25 rfl rfl ?_
      refine gw_iload (q := 4) dX9_addCut_26 rfl ?_
      refine gw_vC (bs := [.inl v4]) (st := [.inl x5, .inr v0]) (vmX9_sprayAt) lX9_33 dX9_addCut_28 ⟨by decide, rfl, rfl, by decide, by decide⟩ (Nat.le_of_ble_eq_true rfl) rfl rfl ((g3.up n2).up n5) h (kI (fun x6 σ6 h n6 => ?_))
      obtain ⟨g8, h⟩ := h
      refine gw_vC (bs := [.inl x5, .inl x6]) (st := []) (vmX9_addTick) lX9_36 dX9_addCut_31 ⟨by decide, rfl, rfl, by decide, by decide⟩ (Nat.le_of_ble_eq_true rfl) rfl rfl g8 h (kI (fun x7 σ7 h n7 => ?_))
      refine gw_pop dX9_addCut_34 ?_
      refine gw_inc (lo' := [(0, .inr v0), (1, .inr v1), (2, .inl v2), (3, .inl v3), (4, .inl (v4 + 1))]) (q := 4) (c := 1) dX9_addCut_35 ic_1 rfl (by decide) rfl ?_
      refine gw_goto (tgt := 3) dX9_addCut_38 (by decide) ?_
      exact h
set_option maxHeartbeats 4000000 in
set_option maxRecDepth 20000 in
theorem eX9_addCut {l : Launch} {v0 : Nat} {v1 : Nat} {v2 : Int32} {v3 : Int32} {σ : Sg} {K : Sg → Prop} (h : GW l mX9_addCut 3 [(0, .inr v0), (1, .inr v1), (2, .inl v2), (3, .inl v3), (4, .inl v2)] [] σ 0 0 (PV K)) : Con l mX9_addCut [.inr v0, .inr v1, .inl v2, .inl v3] σ (PV K) := by
  refine con_gw rfl (Nat.le_of_ble_eq_true rfl) ?_
  show GW l mX9_addCut 0 [(0, .inr v0), (1, .inr v1), (2, .inl v2), (3, .inl v3)] [] σ 0 0 (PV K)
  refine gw_iload_n (q := 2) dX9_addCut_0 rfl rfl ?_
  refine gw_istore (lo' := [(0, .inr v0), (1, .inr v1), (2, .inl v2), (3, .inl v3), (4, .inl v2)]) dX9_addCut_1 (by decide) rfl ?_
  exact h
set_option maxHeartbeats 4000000 in
set_option maxRecDepth 20000 in
theorem gX9_turnRound_9 {l : Launch} {v0 : Nat} {v1 : Int32} {v2 : Int32} {σ : Sg} {K : Sg → Prop} (h : ((v1 ≤ v2 → K σ) ∧ (¬ v1 ≤ v2 → Ob σ v0 9 ∧ Con l mX9_has [.inr v0, .inl v2] σ (PI (fun x2 σ2 => ((x2 = 0 → K σ2) ∧ (¬ x2 = 0 → Con l mX9_has [.inr v0, .inl v1] σ2 (PI (fun x5 σ5 => ((x5 = 0 → K σ5) ∧ (¬ x5 = 0 → Ai σ5 (σ5.2.2 v0 0) v2 ∧ Ai σ5 (σ5.2.2 v0 1) v2 ∧ Ai σ5 (σ5.2.2 v0 0) v1 ∧ ∀ σ10, σ10 = w1 σ5 (σ5.2.2 v0 0) v2.toNatClampNeg (σ5.2.1 (σ5.2.2 v0 0) v1.toNatClampNeg) → Ai σ10 (σ10.2.2 v0 1) v1 ∧ Ai σ10 (σ10.2.2 v0 1) v2 ∧ ∀ σ13, σ13 = w1 σ10 (σ10.2.2 v0 1) v2.toNatClampNeg (σ10.2.1 (σ10.2.2 v0 1) v1.toNatClampNeg) → Ai σ13 (σ13.2.2 v0 0) v1 ∧ ∀ σ15, σ15 = w1 σ13 (σ13.2.2 v0 0) v1.toNatClampNeg (σ5.2.1 (σ5.2.2 v0 0) v2.toNatClampNeg) → Ai σ15 (σ15.2.2 v0 1) v1 ∧ ∀ σ17, σ17 = w1 σ15 (σ15.2.2 v0 1) v1.toNatClampNeg (σ5.2.1 (σ5.2.2 v0 1) v2.toNatClampNeg) → GW l mX9_turnRound 9 [(0, .inr v0), (1, .inl (v1 + (-1))), (2, .inl (v2 + 1))] [] σ17 0 0 (PV K)))))))))))) : GW l mX9_turnRound 9 [(0, .inr v0), (1, .inl v1), (2, .inl v2)] [] σ 0 0 (PV K) := by
  refine gw_iload_n (q := 2) dX9_turnRound_9 rfl rfl ?_
  refine gw_iload_n (q := 1) dX9_turnRound_10 rfl rfl ?_
  refine gw_icmp_ge (tgt := 93) dX9_turnRound_11 (by decide) (fun c1 => ?_) (fun c1 => ?_)
  · replace h := h.1 c1
    exact gw_rV dX9_turnRound_93 rfl (by decide) (by decide) h
  · replace h := h.2 c1
    refine gw_aload_n (q := 0) dX9_turnRound_14 rfl rfl ?_
    refine gw_iload_n (q := 2) dX9_turnRound_15 rfl rfl ?_
    obtain ⟨g3, h⟩ := h
    refine gw_vC (bs := [.inl v2]) (st := []) (vmX9_has) lX9_25 dX9_turnRound_16 ⟨by decide, rfl, rfl, by decide, by decide⟩ (Nat.le_of_ble_eq_true rfl) rfl rfl g3 h (kI (fun x2 σ2 h n2 => ?_))
    refine gw_if_eq (tgt := 93) dX9_turnRound_19 (by decide) (fun c4 => ?_) (fun c4 => ?_)
    · replace h := h.1 c4
      exact gw_rV dX9_turnRound_93 rfl (by decide) (by decide) h
    · replace h := h.2 c4
      refine gw_aload_n (q := 0) dX9_turnRound_22 rfl rfl ?_
      refine gw_iload_n (q := 1) dX9_turnRound_23 rfl rfl ?_
      refine gw_vC (bs := [.inl v1]) (st := []) (vmX9_has) lX9_25 dX9_turnRound_24 ⟨by decide, rfl, rfl, by decide, by decide⟩ (Nat.le_of_ble_eq_true rfl) rfl rfl (g3.up n2) h (kI (fun x5 σ5 h n5 => ?_))
      refine gw_if_eq (tgt := 93) dX9_turnRound_27 (by decide) (fun c6 => ?_) (fun c6 => ?_)
      · replace h := h.1 c6
        exact gw_rV dX9_turnRound_93 rfl (by decide) (by decide) h
      · replace h := h.2 c6
        refine gw_aload_n (q := 0) dX9_turnRound_30 rfl rfl ?_
        refine gw_gR fX9_9 dX9_turnRound_31 ((g3.up n2).up n5) ?_
        refine gw_iload_n (q := 2) dX9_turnRound_34 rfl rfl ?_
        obtain ⟨g7, h⟩ := h
        refine gw_aI dX9_turnRound_35 g7 ?_
        refine gw_istore_n (lo' := [(0, .inr v0), (1, .inl v1), (2, .inl v2), (3, .inl (σ5.2.1 (σ5.2.2 v0 0) v2.toNatClampNeg))]) dX9_turnRound_36 rfl (by decide) rfl ?_
        refine gw_aload_n (q := 0) dX9_turnRound_37 rfl rfl ?_
        refine gw_gR fX9_15 dX9_turnRound_38 ((g3.up n2).up n5) ?_
        refine gw_iload_n (q := 2) dX9_turnRound_41 rfl rfl ?_
        obtain ⟨g8, h⟩ := h
        refine gw_aI dX9_turnRound_42 g8 ?_
        refine gw_istore (lo' := [(0, .inr v0), (1, .inl v1), (2, .inl v2), (3, .inl (σ5.2.1 (σ5.2.2 v0 0) v2.toNatClampNeg)), (4, .inl (σ5.2.1 (σ5.2.2 v0 1) v2.toNatClampNeg))]) dX9_turnRound_43 (by decide) rfl ?_
        refine gw_aload_n (q := 0) dX9_turnRound_45 rfl rfl ?_
        refine gw_gR fX9_9 dX9_turnRound_46 ((g3.up n2).up n5) ?_
        refine gw_iload_n (q := 2) dX9_turnRound_49 rfl rfl ?_
        refine gw_aload_n (q := 0) dX9_turnRound_50 rfl rfl ?_
        refine gw_gR fX9_9 dX9_turnRound_51 ((g3.up n2).up n5) ?_
        refine gw_iload_n (q := 1) dX9_turnRound_54 rfl rfl ?_
        obtain ⟨g9, h⟩ := h
        refine gw_aI dX9_turnRound_55 g9 ?_
        refine gw_sI dX9_turnRound_56 g7 (fun σ10 e10 => ?_)
        replace h := h σ10 e10
        refine gw_aload_n (q := 0) dX9_turnRound_57 rfl rfl ?_
        refine gw_gR fX9_15 dX9_turnRound_58 (((g3.up n2).up n5).up (n_w1 e10)) ?_
        refine gw_iload_n (q := 2) dX9_turnRound_61 rfl rfl ?_
        refine gw_aload_n (q := 0) dX9_turnRound_62 rfl rfl ?_
        refine gw_gR fX9_15 dX9_turnRound_63 (((g3.up n2).up n5).up (n_w1 e10)) ?_
        refine gw_iload_n (q := 1) dX9_turnRound_66 rfl rfl ?_
        obtain ⟨g11, h⟩ := h
        refine gw_aI dX9_turnRound_67 g11 ?_
        obtain ⟨g12, h⟩ := h
        refine gw_sI dX9_turnRound_68 g12 (fun σ13 e13 => ?_)
        replace h := h σ13 e13
        refine gw_aload_n (q := 0) dX9_turnRound_69 rfl rfl ?_
        refine gw_gR fX9_9 dX9_turnRound_70 ((((g3.up n2).up n5).up (n_w1 e10)).up (n_w1 e13)) ?_
        refine gw_iload_n (q := 1) dX9_turnRound_73 rfl rfl ?_
        refine gw_iload_n (q := 3) dX9_turnRound_74 rfl rfl ?_
        obtain ⟨g14, h⟩ := h
        refine gw_sI dX9_turnRound_75 g14 (fun σ15 e15 => ?_)
        replace h := h σ15 e15
        refine gw_aload_n (q := 0) dX9_turnRound_76 rfl rfl ?_
        refine gw_gR fX9_15 dX9_turnRound_77 (((((g3.up n2).up n5).up (n_w1 e10)).up (n_w1 e13)).up (n_w1 e15)) ?_
        refine gw_iload_n (q := 1) dX9_turnRound_80 rfl rfl ?_
        refine gw_iload (q := 4) dX9_turnRound_81 rfl ?_
        obtain ⟨g16, h⟩ := h
        refine gw_sI dX9_turnRound_83 g16 (fun σ17 e17 => ?_)
        replace h := h σ17 e17
        refine gw_inc (lo' := [(0, .inr v0), (1, .inl (v1 + (-1))), (2, .inl v2), (3, .inl (σ5.2.1 (σ5.2.2 v0 0) v2.toNatClampNeg)), (4, .inl (σ5.2.1 (σ5.2.2 v0 1) v2.toNatClampNeg))]) (q := 1) (c := (-1)) dX9_turnRound_84 ic_m1 rfl (by decide) rfl ?_
        refine gw_inc (lo' := [(0, .inr v0), (1, .inl (v1 + (-1))), (2, .inl (v2 + 1)), (3, .inl (σ5.2.1 (σ5.2.2 v0 0) v2.toNatClampNeg)), (4, .inl (σ5.2.1 (σ5.2.2 v0 1) v2.toNatClampNeg))]) (q := 2) (c := 1) dX9_turnRound_87 ic_1 rfl (by decide) rfl ?_
        refine gw_goto (tgt := 9) dX9_turnRound_90 (by decide) ?_
        refine gw_pick [0, 1, 2] rfl ?_
        exact h
set_option maxHeartbeats 4000000 in
set_option maxRecDepth 20000 in
theorem eX9_turnRound {l : Launch} {v0 : Nat} {σ : Sg} {K : Sg → Prop} (h : Ob σ v0 9 ∧ GW l mX9_turnRound 9 [(0, .inr v0), (1, .inl ((σ.2.1 v0 3) - 1)), (2, .inl 0)] [] σ 0 0 (PV K)) : Con l mX9_turnRound [.inr v0] σ (PV K) := by
  refine con_gw rfl (Nat.le_of_ble_eq_true rfl) ?_
  show GW l mX9_turnRound 0 [(0, .inr v0)] [] σ 0 0 (PV K)
  refine gw_aload_n (q := 0) dX9_turnRound_0 rfl rfl ?_
  obtain ⟨g1, h⟩ := h
  refine gw_gI fX9_22 dX9_turnRound_1 g1 ?_
  refine gw_iconst (v := 1) dX9_turnRound_4 ic_1 ?_
  refine gw_isub dX9_turnRound_5 ?_
  refine gw_istore_n (lo' := [(0, .inr v0), (1, .inl ((σ.2.1 v0 3) - 1))]) dX9_turnRound_6 rfl (by decide) rfl ?_
  refine gw_iconst (v := 0) dX9_turnRound_7 ic_0 ?_
  refine gw_istore_n (lo' := [(0, .inr v0), (1, .inl ((σ.2.1 v0 3) - 1)), (2, .inl 0)]) dX9_turnRound_8 rfl (by decide) rfl ?_
  exact h
set_option maxHeartbeats 4000000 in
set_option maxRecDepth 20000 in
theorem gX9_slowDown_27 {l : Launch} {v0 : Nat} {v1 : Int32} {v2 : Int32} {σ : Sg} {K : Int32 → Sg → Prop} (h : ((v2 < 0 → Ob σ v0 9 ∧ ∀ σ3, σ3 = w1 σ v0 3 ((σ.2.1 v0 3) * v1) → K 1 σ3) ∧ (¬ v2 < 0 → Ob σ v0 9 ∧ ¬ v1 = 0 ∧ Ai σ (σ.2.2 v0 0) (v2 / v1) ∧ Ai σ (σ.2.2 v0 0) v2 ∧ ∀ σ8, σ8 = w1 σ (σ.2.2 v0 0) v2.toNatClampNeg (σ.2.1 (σ.2.2 v0 0) (v2 / v1).toNatClampNeg) → ¬ v1 = 0 ∧ Ai σ8 (σ8.2.2 v0 1) (v2 / v1) ∧ Ai σ8 (σ8.2.2 v0 1) v2 ∧ ∀ σ12, σ12 = w1 σ8 (σ8.2.2 v0 1) v2.toNatClampNeg (σ8.2.1 (σ8.2.2 v0 1) (v2 / v1).toNatClampNeg) → GW l mX9_slowDown 27 [(0, .inr v0), (1, .inl v1), (2, .inl (v2 + (-1)))] [] σ12 0 0 (PI K)))) : GW l mX9_slowDown 27 [(0, .inr v0), (1, .inl v1), (2, .inl v2)] [] σ 0 0 (PI K) := by
  refine gw_iload_n (q := 2) dX9_slowDown_27 rfl rfl ?_
  refine gw_if_lt (tgt := 65) dX9_slowDown_28 (by decide) (fun c1 => ?_) (fun c1 => ?_)
  · replace h := h.1 c1
    refine gw_aload_n (q := 0) dX9_slowDown_65 rfl rfl ?_
    refine gw_dup dX9_slowDown_66 ?_
    obtain ⟨g2, h⟩ := h
    refine gw_gI fX9_22 dX9_slowDown_67 g2 ?_
    refine gw_iload_n (q := 1) dX9_slowDown_70 rfl rfl ?_
    refine gw_imul dX9_slowDown_71 ?_
    refine gw_pI fX9_22 dX9_slowDown_72 g2 (fun σ3 e3 => ?_)
    replace h := h σ3 e3
    refine gw_iconst (v := 1) dX9_slowDown_75 ic_1 ?_
    exact gw_rZ dX9_slowDown_76 rfl (by decide) (by decide) (by decide) h
  · replace h := h.2 c1
    refine gw_aload_n (q := 0) dX9_slowDown_31 rfl rfl ?_
    obtain ⟨g4, h⟩ := h
    refine gw_gR fX9_9 dX9_slowDown_32 g4 ?_
    refine gw_iload_n (q := 2) dX9_slowDown_35 rfl rfl ?_
    refine gw_aload_n (q := 0) dX9_slowDown_36 rfl rfl ?_
    refine gw_gR fX9_9 dX9_slowDown_37 g4 ?_
    refine gw_iload_n (q := 2) dX9_slowDown_40 rfl rfl ?_
    refine gw_iload_n (q := 1) dX9_slowDown_41 rfl rfl ?_
    obtain ⟨g5, h⟩ := h
    refine gw_idiv dX9_slowDown_42 g5 ?_
    obtain ⟨g6, h⟩ := h
    refine gw_aI dX9_slowDown_43 g6 ?_
    obtain ⟨g7, h⟩ := h
    refine gw_sI dX9_slowDown_44 g7 (fun σ8 e8 => ?_)
    replace h := h σ8 e8
    refine gw_aload_n (q := 0) dX9_slowDown_45 rfl rfl ?_
    refine gw_gR fX9_15 dX9_slowDown_46 (g4.up (n_w1 e8)) ?_
    refine gw_iload_n (q := 2) dX9_slowDown_49 rfl rfl ?_
    refine gw_aload_n (q := 0) dX9_slowDown_50 rfl rfl ?_
    refine gw_gR fX9_15 dX9_slowDown_51 (g4.up (n_w1 e8)) ?_
    refine gw_iload_n (q := 2) dX9_slowDown_54 rfl rfl ?_
    refine gw_iload_n (q := 1) dX9_slowDown_55 rfl rfl ?_
    obtain ⟨g9, h⟩ := h
    refine gw_idiv dX9_slowDown_56 g9 ?_
    obtain ⟨g10, h⟩ := h
    refine gw_aI dX9_slowDown_57 g10 ?_
    obtain ⟨g11, h⟩ := h
    refine gw_sI dX9_slowDown_58 g11 (fun σ12 e12 => ?_)
    replace h := h σ12 e12
    refine gw_inc (lo' := [(0, .inr v0), (1, .inl v1), (2, .inl (v2 + (-1)))]) (q := 2) (c := (-1)) dX9_slowDown_59 ic_m1 rfl (by decide) rfl ?_
    refine gw_goto (tgt := 27) dX9_slowDown_62 (by decide) ?_
    exact h
set_option maxHeartbeats 4000000 in
set_option maxRecDepth 20000 in
theorem eX9_slowDown {l : Launch} {v0 : Nat} {v1 : Int32} {σ : Sg} {K : Int32 → Sg → Prop} (h : ((v1 < 1 → K 0 σ) ∧ (¬ v1 < 1 → Ob σ v0 9 ∧ ((((σ.2.1 v0 3) * v1) ≤ 40 → GW l mX9_slowDown 27 [(0, .inr v0), (1, .inl v1), (2, .inl (((σ.2.1 v0 3) * v1) - 1))] [] σ 0 0 (PI K)) ∧ (¬ ((σ.2.1 v0 3) * v1) ≤ 40 → K 0 σ))))) : Con l mX9_slowDown [.inr v0, .inl v1] σ (PI K) := by
  refine con_gw rfl (Nat.le_of_ble_eq_true rfl) ?_
  show GW l mX9_slowDown 0 [(0, .inr v0), (1, .inl v1)] [] σ 0 0 (PI K)
  refine gw_iload_n (q := 1) dX9_slowDown_0 rfl rfl ?_
  refine gw_iconst (v := 1) dX9_slowDown_1 ic_1 ?_
  refine gw_icmp_lt (tgt := 16) dX9_slowDown_2 (by decide) (fun c1 => ?_) (fun c1 => ?_)
  · replace h := h.1 c1
    refine gw_iconst (v := 0) dX9_slowDown_16 ic_0 ?_
    exact gw_rZ dX9_slowDown_17 rfl (by decide) (by decide) (by decide) h
  · replace h := h.2 c1
    refine gw_aload_n (q := 0) dX9_slowDown_5 rfl rfl ?_
    obtain ⟨g2, h⟩ := h
    refine gw_gI fX9_22 dX9_slowDown_6 g2 ?_
    refine gw_iload_n (q := 1) dX9_slowDown_9 rfl rfl ?_
    refine gw_imul dX9_slowDown_10 ?_
    refine gw_bipush (v := 40) dX9_slowDown_11 bp_40 ?_
    refine gw_icmp_le (tgt := 18) dX9_slowDown_13 (by decide) (fun c3 => ?_) (fun c3 => ?_)
    · replace h := h.1 c3
      refine gw_aload_n (q := 0) dX9_slowDown_18 rfl rfl ?_
      refine gw_gI fX9_22 dX9_slowDown_19 g2 ?_
      refine gw_iload_n (q := 1) dX9_slowDown_22 rfl rfl ?_
      refine gw_imul dX9_slowDown_23 ?_
      refine gw_iconst (v := 1) dX9_slowDown_24 ic_1 ?_
      refine gw_isub dX9_slowDown_25 ?_
      refine gw_istore_n (lo' := [(0, .inr v0), (1, .inl v1), (2, .inl (((σ.2.1 v0 3) * v1) - 1))]) dX9_slowDown_26 rfl (by decide) rfl ?_
      exact h
    · replace h := h.2 c3
      refine gw_iconst (v := 0) dX9_slowDown_16 ic_0 ?_
      exact gw_rZ dX9_slowDown_17 rfl (by decide) (by decide) (by decide) h
set_option maxHeartbeats 4000000 in
set_option maxRecDepth 20000 in
theorem gX9_dryUp_2 {l : Launch} {v0 : Nat} {v1 : Int32} {σ : Sg} {K : Sg → Prop} (h : Ob σ v0 9 ∧ (((σ.2.1 v0 3) ≤ v1 → K σ) ∧ (¬ (σ.2.1 v0 3) ≤ v1 → ((40 ≤ v1 → K σ) ∧ (¬ 40 ≤ v1 → Ai σ (σ.2.2 v0 1) v1 ∧ ∀ σ5, σ5 = w1 σ (σ.2.2 v0 1) v1.toNatClampNeg 0 → GW l mX9_dryUp 2 [(0, .inr v0), (1, .inl (v1 + 1))] [] σ5 0 0 (PV K)))))) : GW l mX9_dryUp 2 [(0, .inr v0), (1, .inl v1)] [] σ 0 0 (PV K) := by
  refine gw_iload_n (q := 1) dX9_dryUp_2 rfl rfl ?_
  refine gw_aload_n (q := 0) dX9_dryUp_3 rfl rfl ?_
  obtain ⟨g1, h⟩ := h
  refine gw_gI fX9_22 dX9_dryUp_4 g1 ?_
  refine gw_icmp_ge (tgt := 29) dX9_dryUp_7 (by decide) (fun c2 => ?_) (fun c2 => ?_)
  · replace h := h.1 c2
    exact gw_rV dX9_dryUp_29 rfl (by decide) (by decide) h
  · replace h := h.2 c2
    refine gw_iload_n (q := 1) dX9_dryUp_10 rfl rfl ?_
    refine gw_bipush (v := 40) dX9_dryUp_11 bp_40 ?_
    refine gw_icmp_ge (tgt := 29) dX9_dryUp_13 (by decide) (fun c3 => ?_) (fun c3 => ?_)
    · replace h := h.1 c3
      exact gw_rV dX9_dryUp_29 rfl (by decide) (by decide) h
    · replace h := h.2 c3
      refine gw_aload_n (q := 0) dX9_dryUp_16 rfl rfl ?_
      refine gw_gR fX9_15 dX9_dryUp_17 g1 ?_
      refine gw_iload_n (q := 1) dX9_dryUp_20 rfl rfl ?_
      refine gw_iconst (v := 0) dX9_dryUp_21 ic_0 ?_
      obtain ⟨g4, h⟩ := h
      refine gw_sI dX9_dryUp_22 g4 (fun σ5 e5 => ?_)
      replace h := h σ5 e5
      refine gw_inc (lo' := [(0, .inr v0), (1, .inl (v1 + 1))]) (q := 1) (c := 1) dX9_dryUp_23 ic_1 rfl (by decide) rfl ?_
      refine gw_goto (tgt := 2) dX9_dryUp_26 (by decide) ?_
      exact h
set_option maxHeartbeats 4000000 in
set_option maxRecDepth 20000 in
theorem eX9_dryUp {l : Launch} {v0 : Nat} {σ : Sg} {K : Sg → Prop} (h : GW l mX9_dryUp 2 [(0, .inr v0), (1, .inl 0)] [] σ 0 0 (PV K)) : Con l mX9_dryUp [.inr v0] σ (PV K) := by
  refine con_gw rfl (Nat.le_of_ble_eq_true rfl) ?_
  show GW l mX9_dryUp 0 [(0, .inr v0)] [] σ 0 0 (PV K)
  refine gw_iconst (v := 0) dX9_dryUp_0 ic_0 ?_
  refine gw_istore_n (lo' := [(0, .inr v0), (1, .inl 0)]) dX9_dryUp_1 rfl (by decide) rfl ?_
  exact h
set_option maxHeartbeats 4000000 in
set_option maxRecDepth 20000 in
theorem eX9_wornPlace {l : Launch} {v0 : Nat} {v1 : Int32} {v2 : Int32} {v3 : Int32} {v4 : Int32} {v5 : Int32} {v6 : Int32} {σ : Sg} {K : Int32 → Sg → Prop} (h : Ob σ v0 9 ∧ Con l mX9_poseAt [.inr v0, .inl v5] σ (PI (fun x1 σ1 => Con l mX11_placeOf [.inl x1, .inl v1] σ1 (PI (fun x3 σ3 => ((v3 = 0 → K x3 σ3) ∧ (¬ v3 = 0 → ((v4 ≤ v5 → ((¬ v2 = 0 → ((¬ v5 = v4 → Con l mJ9_max_7cf53 [.inl v6, .inl (x3 - v3)] σ3 (PI (fun x8 σ8 => Con l mJ9_min_7cf53 [.inl x8, .inl x3] σ8 (PI (fun x9 σ9 => K x9 σ9))))) ∧ (v5 = v4 → K x3 σ3))) ∧ (v2 = 0 → Con l mJ9_max_7cf53 [.inl (v5 - v3), .inl 0] σ3 (PI (fun x10 σ10 => Con l mX9_poseAt [.inr v0, .inl x10] σ10 (PI (fun x11 σ11 => Con l mX11_placeOf [.inl x11, .inl v1] σ11 (PI (fun x12 σ12 => K x12 σ12))))))))) ∧ (¬ v4 ≤ v5 → K x3 σ3))))))))) : Con l mX9_wornPlace [.inr v0, .inl v1, .inl v2, .inl v3, .inl v4, .inl v5, .inl v6] σ (PI K) := by
  refine con_gw rfl (Nat.le_of_ble_eq_true rfl) ?_
  show GW l mX9_wornPlace 0 [(0, .inr v0), (1, .inl v1), (2, .inl v2), (3, .inl v3), (4, .inl v4), (5, .inl v5), (6, .inl v6)] [] σ 0 0 (PI K)
  refine gw_aload_n (q := 0) dX9_wornPlace_0 rfl rfl ?_
  refine gw_iload (q := 5) dX9_wornPlace_1 rfl ?_
  obtain ⟨g2, h⟩ := h
  refine gw_vC (bs := [.inl v5]) (st := []) (vmX9_poseAt) lX9_29 dX9_wornPlace_3 ⟨by decide, rfl, rfl, by decide, by decide⟩ (Nat.le_of_ble_eq_true rfl) rfl rfl g2 h (kI (fun x1 σ1 h n1 => ?_))
  refine gw_iload_n (q := 1) dX9_wornPlace_6 rfl rfl ?_
  refine gw_sC (bs := [.inl x1, .inl v1]) (st := []) smX11_placeOf lX9_40 dX9_wornPlace_7 ⟨by decide, rfl, rfl, by decide, by decide⟩ (Nat.le_of_ble_eq_true rfl) rfl rfl h (kI (fun x3 σ3 h n3 => ?_))
  refine gw_istore (lo' := [(0, .inr v0), (1, .inl v1), (2, .inl v2), (3, .inl v3), (4, .inl v4), (5, .inl v5), (6, .inl v6), (7, .inl x3)]) dX9_wornPlace_10 (by decide) rfl ?_
  refine gw_iload_n (q := 3) dX9_wornPlace_12 rfl rfl ?_
  refine gw_if_eq (tgt := 23) dX9_wornPlace_13 (by decide) (fun c4 => ?_) (fun c4 => ?_)
  · replace h := h.1 c4
    refine gw_iload (q := 7) dX9_wornPlace_23 rfl ?_
    exact gw_rI dX9_wornPlace_25 rfl (by decide) (by decide) h
  · replace h := h.2 c4
    refine gw_iload (q := 5) dX9_wornPlace_16 rfl ?_
    refine gw_iload (q := 4) dX9_wornPlace_18 rfl ?_
    refine gw_icmp_ge (tgt := 26) dX9_wornPlace_20 (by decide) (fun c5 => ?_) (fun c5 => ?_)
    · replace h := h.1 c5
      refine gw_iload_n (q := 2) dX9_wornPlace_26 rfl rfl ?_
      refine gw_if_ne (tgt := 47) dX9_wornPlace_27 (by decide) (fun c6 => ?_) (fun c6 => ?_)
      · replace h := h.1 c6
        refine gw_iload (q := 5) dX9_wornPlace_47 rfl ?_
        refine gw_iload (q := 4) dX9_wornPlace_49 rfl ?_
        refine gw_icmp_ne (tgt := 59) dX9_wornPlace_51 (by decide) (fun c7 => ?_) (fun c7 => ?_)
        · replace h := h.1 c7
          refine gw_iload (q := 6) dX9_wornPlace_59 rfl ?_
          refine gw_iload (q := 7) dX9_wornPlace_61 rfl ?_
          refine gw_iload_n (q := 3) dX9_wornPlace_63 rfl rfl ?_
          refine gw_isub dX9_wornPlace_64 ?_
          refine gw_sC (bs := [.inl v6, .inl (x3 - v3)]) (st := []) smJ9_max_7cf53 lX9_44 dX9_wornPlace_65 ⟨by decide, rfl, rfl, by decide, by decide⟩ (Nat.le_of_ble_eq_true rfl) rfl rfl h (kI (fun x8 σ8 h n8 => ?_))
          refine gw_iload (q := 7) dX9_wornPlace_68 rfl ?_
          refine gw_sC (bs := [.inl x8, .inl x3]) (st := []) smJ9_min_7cf53 lX9_49 dX9_wornPlace_70 ⟨by decide, rfl, rfl, by decide, by decide⟩ (Nat.le_of_ble_eq_true rfl) rfl rfl h (kI (fun x9 σ9 h n9 => ?_))
          exact gw_rI dX9_wornPlace_73 rfl (by decide) (by decide) h
        · replace h := h.2 c7
          refine gw_iload (q := 7) dX9_wornPlace_54 rfl ?_
          refine gw_goto (tgt := 73) dX9_wornPlace_56 (by decide) ?_
          exact gw_rI dX9_wornPlace_73 rfl (by decide) (by decide) h
      · replace h := h.2 c6
        refine gw_aload_n (q := 0) dX9_wornPlace_30 rfl rfl ?_
        refine gw_iload (q := 5) dX9_wornPlace_31 rfl ?_
        refine gw_iload_n (q := 3) dX9_wornPlace_33 rfl rfl ?_
        refine gw_isub dX9_wornPlace_34 ?_
        refine gw_iconst (v := 0) dX9_wornPlace_35 ic_0 ?_
        refine gw_sC (bs := [.inl (v5 - v3), .inl 0]) (st := [.inr v0]) smJ9_max_7cf53 lX9_44 dX9_wornPlace_36 ⟨by decide, rfl, rfl, by decide, by decide⟩ (Nat.le_of_ble_eq_true rfl) rfl rfl h (kI (fun x10 σ10 h n10 => ?_))
        refine gw_vC (bs := [.inl x10]) (st := []) (vmX9_poseAt) lX9_29 dX9_wornPlace_39 ⟨by decide, rfl, rfl, by decide, by decide⟩ (Nat.le_of_ble_eq_true rfl) rfl rfl (((g2.up n1).up n3).up n10) h (kI (fun x11 σ11 h n11 => ?_))
        refine gw_iload_n (q := 1) dX9_wornPlace_42 rfl rfl ?_
        refine gw_sC (bs := [.inl x11, .inl v1]) (st := []) smX11_placeOf lX9_40 dX9_wornPlace_43 ⟨by decide, rfl, rfl, by decide, by decide⟩ (Nat.le_of_ble_eq_true rfl) rfl rfl h (kI (fun x12 σ12 h n12 => ?_))
        exact gw_rI dX9_wornPlace_46 rfl (by decide) (by decide) h
    · replace h := h.2 c5
      refine gw_iload (q := 7) dX9_wornPlace_23 rfl ?_
      exact gw_rI dX9_wornPlace_25 rfl (by decide) (by decide) h
