/-! the constructors, over it -/
set_option maxHeartbeats 4000000 in
set_option maxRecDepth 20000 in
theorem eX0_init_m {l : Launch} {v0 : Nat} {σ : Sg} {K : Sg → Prop} (h : v0 ≠ 0 ∧ shp_m (σ.1 + 1) = (13, 3) ∧ σ.1 + 1 ≤ 1000 ∧ ∀ x3 σ3, x3 = σ.1 + 1 → σ3 = nw σ → Ob_m σ3 v0 0 ∧ x3 ≤ σ3.1 ∧ ∀ σ6, σ6 = w2 σ3 v0 0 x3 → shp_m (σ6.1 + 1) = (13, 3) ∧ σ6.1 + 1 ≤ 1000 ∧ ∀ x8 σ8, x8 = σ6.1 + 1 → σ8 = nw σ6 → x8 ≤ σ8.1 ∧ ∀ σ10, σ10 = w2 σ8 v0 1 x8 → shp_m (σ10.1 + 1) = (13, 3) ∧ σ10.1 + 1 ≤ 1000 ∧ ∀ x12 σ12, x12 = σ10.1 + 1 → σ12 = nw σ10 → x12 ≤ σ12.1 ∧ ∀ σ14, σ14 = w2 σ12 v0 2 x12 → shp_m (σ14.1 + 1) = (13, 3) ∧ σ14.1 + 1 ≤ 1000 ∧ ∀ x16 σ16, x16 = σ14.1 + 1 → σ16 = nw σ14 → x16 ≤ σ16.1 ∧ ∀ σ18, σ18 = w2 σ16 v0 3 x16 → K σ18) : Con_m l mX0_init [.inr v0] σ (PV K) := by
  refine con_gw_m rfl (Nat.le_of_ble_eq_true rfl) ?_
  show GW_m l mX0_init 0 [(0, .inr v0)] [] σ 0 0 (PV K)
  refine gw_aload_n_m (q := 0) dX0_init_0 rfl rfl ?_
  obtain ⟨g1, h⟩ := h
  refine gw_objInit_m oiX0_3 oi_in oi_cd dX0_init_1 (by decide) (Nat.le_of_ble_eq_true rfl) g1 ?_
  refine gw_aload_n_m (q := 0) dX0_init_4 rfl rfl ?_
  refine gw_iconst_m (v := 3) dX0_init_5 ic_3 ?_
  obtain ⟨g2, g3, h⟩ := h
  refine gw_newi_m (N := 3) ac_int dX0_init_6 g2 (by decide) (by decide) (by decide) (by decide) (by decide) g3 (fun x3 σ3 ex3 e3 => ?_)
  replace h := h x3 σ3 ex3 e3
  obtain ⟨g4, h⟩ := h
  obtain ⟨z5, h⟩ := h
  refine gw_pRF_m fX0_9 (Or.inr ⟨_, rfl⟩) rfl rfl (fun C T N hc => by cases hc; exact xfX0_9) dX0_init_8 z5 g4 (fun σ6 e6 => ?_)
  replace h := h σ6 e6
  refine gw_aload_n_m (q := 0) dX0_init_11 rfl rfl ?_
  refine gw_iconst_m (v := 3) dX0_init_12 ic_3 ?_
  obtain ⟨g7, g8, h⟩ := h
  refine gw_newi_m (N := 3) ac_int dX0_init_13 g7 (by decide) (by decide) (by decide) (by decide) (by decide) g8 (fun x8 σ8 ex8 e8 => ?_)
  replace h := h x8 σ8 ex8 e8
  obtain ⟨z9, h⟩ := h
  refine gw_pRF_m fX0_15 (Or.inr ⟨_, rfl⟩) rfl rfl (fun C T N hc => by cases hc; exact xfX0_15) dX0_init_15 z9 ((g4.up (n_w2 e6)).up (n_nw e8)) (fun σ10 e10 => ?_)
  replace h := h σ10 e10
  refine gw_aload_n_m (q := 0) dX0_init_18 rfl rfl ?_
  refine gw_iconst_m (v := 3) dX0_init_19 ic_3 ?_
  obtain ⟨g11, g12, h⟩ := h
  refine gw_newi_m (N := 3) ac_int dX0_init_20 g11 (by decide) (by decide) (by decide) (by decide) (by decide) g12 (fun x12 σ12 ex12 e12 => ?_)
  replace h := h x12 σ12 ex12 e12
  obtain ⟨z13, h⟩ := h
  refine gw_pRF_m fX0_18 (Or.inr ⟨_, rfl⟩) rfl rfl (fun C T N hc => by cases hc; exact xfX0_18) dX0_init_22 z13 ((((g4.up (n_w2 e6)).up (n_nw e8)).up (n_w2 e10)).up (n_nw e12)) (fun σ14 e14 => ?_)
  replace h := h σ14 e14
  refine gw_aload_n_m (q := 0) dX0_init_25 rfl rfl ?_
  refine gw_iconst_m (v := 3) dX0_init_26 ic_3 ?_
  obtain ⟨g15, g16, h⟩ := h
  refine gw_newi_m (N := 3) ac_int dX0_init_27 g15 (by decide) (by decide) (by decide) (by decide) (by decide) g16 (fun x16 σ16 ex16 e16 => ?_)
  replace h := h x16 σ16 ex16 e16
  obtain ⟨z17, h⟩ := h
  refine gw_pRF_m fX0_21 (Or.inr ⟨_, rfl⟩) rfl rfl (fun C T N hc => by cases hc; exact xfX0_21) dX0_init_29 z17 ((((((g4.up (n_w2 e6)).up (n_nw e8)).up (n_w2 e10)).up (n_nw e12)).up (n_w2 e14)).up (n_nw e16)) (fun σ18 e18 => ?_)
  replace h := h σ18 e18
  exact gw_rV_m dX0_init_32 rfl (by decide) (by decide) h
set_option maxHeartbeats 4000000 in
set_option maxRecDepth 20000 in
theorem eX9_init_m {l : Launch} {v0 : Nat} {σ : Sg} {K : Sg → Prop} (h : v0 ≠ 0 ∧ shp_m (σ.1 + 1) = (13, 40) ∧ σ.1 + 1 ≤ 1000 ∧ ∀ x3 σ3, x3 = σ.1 + 1 → σ3 = nw σ → Ob_m σ3 v0 9 ∧ x3 ≤ σ3.1 ∧ ∀ σ6, σ6 = w2 σ3 v0 0 x3 → shp_m (σ6.1 + 1) = (13, 40) ∧ σ6.1 + 1 ≤ 1000 ∧ ∀ x8 σ8, x8 = σ6.1 + 1 → σ8 = nw σ6 → x8 ≤ σ8.1 ∧ ∀ σ10, σ10 = w2 σ8 v0 1 x8 → K σ10) : Con_m l mX9_init [.inr v0] σ (PV K) := by
  refine con_gw_m rfl (Nat.le_of_ble_eq_true rfl) ?_
  show GW_m l mX9_init 0 [(0, .inr v0)] [] σ 0 0 (PV K)
  refine gw_aload_n_m (q := 0) dX9_init_0 rfl rfl ?_
  obtain ⟨g1, h⟩ := h
  refine gw_objInit_m oiX9_3 oi_in oi_cd dX9_init_1 (by decide) (Nat.le_of_ble_eq_true rfl) g1 ?_
  refine gw_aload_n_m (q := 0) dX9_init_4 rfl rfl ?_
  refine gw_bipush_m (v := 40) dX9_init_5 bp_40 ?_
  obtain ⟨g2, g3, h⟩ := h
  refine gw_newi_m (N := 40) ac_int dX9_init_7 g2 (by decide) (by decide) (by decide) (by decide) (by decide) g3 (fun x3 σ3 ex3 e3 => ?_)
  replace h := h x3 σ3 ex3 e3
  obtain ⟨g4, h⟩ := h
  obtain ⟨z5, h⟩ := h
  refine gw_pRF_m fX9_9 (Or.inr ⟨_, rfl⟩) rfl rfl (fun C T N hc => by cases hc; exact xfX9_9) dX9_init_9 z5 g4 (fun σ6 e6 => ?_)
  replace h := h σ6 e6
  refine gw_aload_n_m (q := 0) dX9_init_12 rfl rfl ?_
  refine gw_bipush_m (v := 40) dX9_init_13 bp_40 ?_
  obtain ⟨g7, g8, h⟩ := h
  refine gw_newi_m (N := 40) ac_int dX9_init_15 g7 (by decide) (by decide) (by decide) (by decide) (by decide) g8 (fun x8 σ8 ex8 e8 => ?_)
  replace h := h x8 σ8 ex8 e8
  obtain ⟨z9, h⟩ := h
  refine gw_pRF_m fX9_15 (Or.inr ⟨_, rfl⟩) rfl rfl (fun C T N hc => by cases hc; exact xfX9_15) dX9_init_17 z9 ((g4.up (n_w2 e6)).up (n_nw e8)) (fun σ10 e10 => ?_)
  replace h := h σ10 e10
  exact gw_rV_m dX9_init_20 rfl (by decide) (by decide) h
set_option maxHeartbeats 4000000 in
set_option maxRecDepth 20000 in
theorem eX10_init_m {l : Launch} {v0 : Nat} {σ : Sg} {K : Sg → Prop} (h : v0 ≠ 0 ∧ shp_m (σ.1 + 1) = (13, 400) ∧ σ.1 + 1 ≤ 1000 ∧ ∀ x3 σ3, x3 = σ.1 + 1 → σ3 = nw σ → Ob_m σ3 v0 10 ∧ x3 ≤ σ3.1 ∧ ∀ σ6, σ6 = w2 σ3 v0 0 x3 → shp_m (σ6.1 + 1) = (13, 401) ∧ σ6.1 + 1 ≤ 1000 ∧ ∀ x8 σ8, x8 = σ6.1 + 1 → σ8 = nw σ6 → x8 ≤ σ8.1 ∧ ∀ σ10, σ10 = w2 σ8 v0 1 x8 → shp_m (σ10.1 + 1) = (13, 401) ∧ σ10.1 + 1 ≤ 1000 ∧ ∀ x12 σ12, x12 = σ10.1 + 1 → σ12 = nw σ10 → x12 ≤ σ12.1 ∧ ∀ σ14, σ14 = w2 σ12 v0 2 x12 → shp_m (σ14.1 + 1) = (13, 401) ∧ σ14.1 + 1 ≤ 1000 ∧ ∀ x16 σ16, x16 = σ14.1 + 1 → σ16 = nw σ14 → x16 ≤ σ16.1 ∧ ∀ σ18, σ18 = w2 σ16 v0 3 x16 → K σ18) : Con_m l mX10_init [.inr v0] σ (PV K) := by
  refine con_gw_m rfl (Nat.le_of_ble_eq_true rfl) ?_
  show GW_m l mX10_init 0 [(0, .inr v0)] [] σ 0 0 (PV K)
  refine gw_aload_n_m (q := 0) dX10_init_0 rfl rfl ?_
  obtain ⟨g1, h⟩ := h
  refine gw_objInit_m oiX10_3 oi_in oi_cd dX10_init_1 (by decide) (Nat.le_of_ble_eq_true rfl) g1 ?_
  refine gw_aload_n_m (q := 0) dX10_init_4 rfl rfl ?_
  refine gw_sipush_m (v := 400) dX10_init_5 sp_400 ?_
  obtain ⟨g2, g3, h⟩ := h
  refine gw_newi_m (N := 400) ac_int dX10_init_8 g2 (by decide) (by decide) (by decide) (by decide) (by decide) g3 (fun x3 σ3 ex3 e3 => ?_)
  replace h := h x3 σ3 ex3 e3
  obtain ⟨g4, h⟩ := h
  obtain ⟨z5, h⟩ := h
  refine gw_pRF_m fX10_11 (Or.inr ⟨_, rfl⟩) rfl rfl (fun C T N hc => by cases hc; exact xfX10_11) dX10_init_10 z5 g4 (fun σ6 e6 => ?_)
  replace h := h σ6 e6
  refine gw_aload_n_m (q := 0) dX10_init_13 rfl rfl ?_
  refine gw_sipush_m (v := 401) dX10_init_14 sp_401 ?_
  obtain ⟨g7, g8, h⟩ := h
  refine gw_newi_m (N := 401) ac_int dX10_init_17 g7 (by decide) (by decide) (by decide) (by decide) (by decide) g8 (fun x8 σ8 ex8 e8 => ?_)
  replace h := h x8 σ8 ex8 e8
  obtain ⟨z9, h⟩ := h
  refine gw_pRF_m fX10_15 (Or.inr ⟨_, rfl⟩) rfl rfl (fun C T N hc => by cases hc; exact xfX10_15) dX10_init_19 z9 ((g4.up (n_w2 e6)).up (n_nw e8)) (fun σ10 e10 => ?_)
  replace h := h σ10 e10
  refine gw_aload_n_m (q := 0) dX10_init_22 rfl rfl ?_
  refine gw_sipush_m (v := 401) dX10_init_23 sp_401 ?_
  obtain ⟨g11, g12, h⟩ := h
  refine gw_newi_m (N := 401) ac_int dX10_init_26 g11 (by decide) (by decide) (by decide) (by decide) (by decide) g12 (fun x12 σ12 ex12 e12 => ?_)
  replace h := h x12 σ12 ex12 e12
  obtain ⟨z13, h⟩ := h
  refine gw_pRF_m fX10_18 (Or.inr ⟨_, rfl⟩) rfl rfl (fun C T N hc => by cases hc; exact xfX10_18) dX10_init_28 z13 ((((g4.up (n_w2 e6)).up (n_nw e8)).up (n_w2 e10)).up (n_nw e12)) (fun σ14 e14 => ?_)
  replace h := h σ14 e14
  refine gw_aload_n_m (q := 0) dX10_init_31 rfl rfl ?_
  refine gw_sipush_m (v := 401) dX10_init_32 sp_401 ?_
  obtain ⟨g15, g16, h⟩ := h
  refine gw_newi_m (N := 401) ac_int dX10_init_35 g15 (by decide) (by decide) (by decide) (by decide) (by decide) g16 (fun x16 σ16 ex16 e16 => ?_)
  replace h := h x16 σ16 ex16 e16
  obtain ⟨z17, h⟩ := h
  refine gw_pRF_m fX10_21 (Or.inr ⟨_, rfl⟩) rfl rfl (fun C T N hc => by cases hc; exact xfX10_21) dX10_init_37 z17 ((((((g4.up (n_w2 e6)).up (n_nw e8)).up (n_w2 e10)).up (n_nw e12)).up (n_w2 e14)).up (n_nw e16)) (fun σ18 e18 => ?_)
  replace h := h σ18 e18
  exact gw_rV_m dX10_init_40 rfl (by decide) (by decide) h
set_option maxHeartbeats 4000000 in
set_option maxRecDepth 20000 in
theorem gX7_init_23_m {l : Launch} {v0 : Nat} {v1 : Int32} {σ : Sg} {K : Sg → Prop} (h : ((2 ≤ v1 → GW_m l mX7_init 49 [(0, .inr v0), (1, .inl 0)] [] σ 0 0 (PV K)) ∧ (¬ 2 ≤ v1 → Ob_m σ v0 7 ∧ (shp_m (σ.1 + 1)).1 = 0 ∧ σ.1 + 1 ≤ 1000 ∧ ∀ x4 σ4, x4 = σ.1 + 1 → σ4 = nw σ → x4 ≠ 0 ∧ Con_m l mX0_init [.inr x4] σ4 (PV (fun σ5 => ((σ.2.2 v0 0) ≠ 0 ∧ (shp_m (σ.2.2 v0 0)).1 = 15 ∧ (σ.2.2 v0 0) ≤ σ5.1 ∧ vp_in v1 (shp_m (σ.2.2 v0 0)).2) ∧ Ob_m σ5 x4 0 ∧ ∀ σA8, σA8 = w2 σ5 (σ.2.2 v0 0) v1.toNatClampNeg x4 → GW_m l mX7_init 23 [(0, .inr v0), (1, .inl (v1 + 1))] [] σA8 5 23 (PV K)))))) : GW_m l mX7_init 23 [(0, .inr v0), (1, .inl v1)] [] σ 0 0 (PV K) := by
  refine gw_iload_n_m (q := 1) dX7_init_23 rfl rfl ?_
  refine gw_iconst_m (v := 2) dX7_init_24 ic_2 ?_
  refine gw_icmp_ge_m (tgt := 47) dX7_init_25 (by decide) (fun c1 => ?_) (fun c1 => ?_)
  · replace h := h.1 c1
    refine gw_iconst_m (v := 0) dX7_init_47 ic_0 ?_
    refine gw_istore_n_m (lo' := [(0, .inr v0), (1, .inl 0)]) dX7_init_48 rfl (by decide) rfl ?_
    exact h
  · replace h := h.2 c1
    refine gw_aload_n_m (q := 0) dX7_init_28 rfl rfl ?_
    obtain ⟨g2, h⟩ := h
    refine gw_gR_m fX7_11 dX7_init_29 g2 ?_
    refine gw_iload_n_m (q := 1) dX7_init_32 rfl rfl ?_
    obtain ⟨g3, g4, h⟩ := h
    refine gw_new_m ci0 clX7_9 it_X0 in_X0 df0 dX7_init_33 g3 (by decide) (by decide) g4 (fun x4 σ4 ex4 e4 => ?_)
    replace h := h x4 σ4 ex4 e4
    refine gw_dup_m dX7_init_36 ?_
    obtain ⟨g6, h⟩ := h
    refine gw_iC_m (bs := []) (st := [.inr x4, .inl v1, .inr (σ.2.2 v0 0)]) xmX0_init lX7_23 dX7_init_37 ⟨by decide, rfl, rfl, by decide, by decide⟩ (Nat.le_of_ble_eq_true rfl) rfl rfl g6 h (kV_m (fun σ5 h n5 => ?_))
    obtain ⟨g7, g8, h⟩ := h
    refine gw_aast_m dX7_init_40 (kd := 15) (ci := 0) (shp_pair_m g7.2.1) (by omega) g7.1 g7.2.2.1 g8.1 g8.2.2 g8.2.1 g7.2.2.2 (fun σA8 eA8 => ?_)
    replace h := h σA8 eA8
    refine gw_inc_m (lo' := [(0, .inr v0), (1, .inl (v1 + 1))]) (q := 1) (c := 1) dX7_init_41 ic_1 rfl (by decide) rfl ?_
    refine gw_goto_m (tgt := 23) dX7_init_44 (by decide) ?_
    exact h
set_option maxHeartbeats 4000000 in
set_option maxRecDepth 20000 in
theorem gX7_init_49_m {l : Launch} {v0 : Nat} {v1 : Int32} {σ : Sg} {K : Sg → Prop} (h : ((10 ≤ v1 → K σ) ∧ (¬ 10 ≤ v1 → Ob_m σ v0 7 ∧ (shp_m (σ.1 + 1)).1 = 9 ∧ σ.1 + 1 ≤ 1000 ∧ ∀ x4 σ4, x4 = σ.1 + 1 → σ4 = nw σ → x4 ≠ 0 ∧ Con_m l mX9_init [.inr x4] σ4 (PV (fun σ5 => ((σ.2.2 v0 1) ≠ 0 ∧ (shp_m (σ.2.2 v0 1)).1 = 16 ∧ (σ.2.2 v0 1) ≤ σ5.1 ∧ vp_in v1 (shp_m (σ.2.2 v0 1)).2) ∧ Ob_m σ5 x4 9 ∧ ∀ σA8, σA8 = w2 σ5 (σ.2.2 v0 1) v1.toNatClampNeg x4 → GW_m l mX7_init 49 [(0, .inr v0), (1, .inl (v1 + 1))] [] σA8 3 84 (PV K)))))) : GW_m l mX7_init 49 [(0, .inr v0), (1, .inl v1)] [] σ 0 0 (PV K) := by
  refine gw_iload_n_m (q := 1) dX7_init_49 rfl rfl ?_
  refine gw_bipush_m (v := 10) dX7_init_50 bp_10 ?_
  refine gw_icmp_ge_m (tgt := 74) dX7_init_52 (by decide) (fun c1 => ?_) (fun c1 => ?_)
  · replace h := h.1 c1
    exact gw_rV_m dX7_init_74 rfl (by decide) (by decide) h
  · replace h := h.2 c1
    refine gw_aload_n_m (q := 0) dX7_init_55 rfl rfl ?_
    obtain ⟨g2, h⟩ := h
    refine gw_gR_m fX7_19 dX7_init_56 g2 ?_
    refine gw_iload_n_m (q := 1) dX7_init_59 rfl rfl ?_
    obtain ⟨g3, g4, h⟩ := h
    refine gw_new_m ci9 clX7_17 it_X9 in_X9 df9 dX7_init_60 g3 (by decide) (by decide) g4 (fun x4 σ4 ex4 e4 => ?_)
    replace h := h x4 σ4 ex4 e4
    refine gw_dup_m dX7_init_63 ?_
    obtain ⟨g6, h⟩ := h
    refine gw_iC_m (bs := []) (st := [.inr x4, .inl v1, .inr (σ.2.2 v0 1)]) xmX9_init lX7_24 dX7_init_64 ⟨by decide, rfl, rfl, by decide, by decide⟩ (Nat.le_of_ble_eq_true rfl) rfl rfl g6 h (kV_m (fun σ5 h n5 => ?_))
    obtain ⟨g7, g8, h⟩ := h
    refine gw_aast_m dX7_init_67 (kd := 16) (ci := 9) (shp_pair_m g7.2.1) (by omega) g7.1 g7.2.2.1 g8.1 g8.2.2 g8.2.1 g7.2.2.2 (fun σA8 eA8 => ?_)
    replace h := h σA8 eA8
    refine gw_inc_m (lo' := [(0, .inr v0), (1, .inl (v1 + 1))]) (q := 1) (c := 1) dX7_init_68 ic_1 rfl (by decide) rfl ?_
    refine gw_goto_m (tgt := 49) dX7_init_71 (by decide) ?_
    exact h
set_option maxHeartbeats 4000000 in
set_option maxRecDepth 20000 in
theorem eX7_init_m {l : Launch} {v0 : Nat} {σ : Sg} {K : Sg → Prop} (h : v0 ≠ 0 ∧ shp_m (σ.1 + 1) = (15, 2) ∧ σ.1 + 1 ≤ 1000 ∧ ∀ x3 σ3, x3 = σ.1 + 1 → σ3 = nw σ → Ob_m σ3 v0 7 ∧ x3 ≤ σ3.1 ∧ ∀ σ6, σ6 = w2 σ3 v0 0 x3 → shp_m (σ6.1 + 1) = (16, 10) ∧ σ6.1 + 1 ≤ 1000 ∧ ∀ x8 σ8, x8 = σ6.1 + 1 → σ8 = nw σ6 → x8 ≤ σ8.1 ∧ ∀ σ10, σ10 = w2 σ8 v0 1 x8 → GW_m l mX7_init 23 [(0, .inr v0), (1, .inl 0)] [] σ10 2 12 (PV K)) : Con_m l mX7_init [.inr v0] σ (PV K) := by
  refine con_gw_m rfl (Nat.le_of_ble_eq_true rfl) ?_
  show GW_m l mX7_init 0 [(0, .inr v0)] [] σ 0 0 (PV K)
  refine gw_aload_n_m (q := 0) dX7_init_0 rfl rfl ?_
  obtain ⟨g1, h⟩ := h
  refine gw_objInit_m oiX7_3 oi_in oi_cd dX7_init_1 (by decide) (Nat.le_of_ble_eq_true rfl) g1 ?_
  refine gw_aload_n_m (q := 0) dX7_init_4 rfl rfl ?_
  refine gw_iconst_m (v := 2) dX7_init_5 ic_2 ?_
  obtain ⟨g2, g3, h⟩ := h
  refine gw_newA_m (N := 2) clX7_9 dX7_init_6 g2 (by decide) (by decide) (by decide) (by decide) (by decide) g3 (fun x3 σ3 ex3 e3 => ?_)
  replace h := h x3 σ3 ex3 e3
  obtain ⟨g4, h⟩ := h
  obtain ⟨z5, h⟩ := h
  refine gw_pRF_m fX7_11 (Or.inr ⟨_, rfl⟩) rfl rfl (fun C T N hc => by cases hc; exact xfX7_11) dX7_init_9 z5 g4 (fun σ6 e6 => ?_)
  replace h := h σ6 e6
  refine gw_aload_n_m (q := 0) dX7_init_12 rfl rfl ?_
  refine gw_bipush_m (v := 10) dX7_init_13 bp_10 ?_
  obtain ⟨g7, g8, h⟩ := h
  refine gw_newT_m (N := 10) clX7_17 dX7_init_15 g7 (by decide) (by decide) (by decide) (by decide) (by decide) g8 (fun x8 σ8 ex8 e8 => ?_)
  replace h := h x8 σ8 ex8 e8
  obtain ⟨z9, h⟩ := h
  refine gw_pRF_m fX7_19 (Or.inr ⟨_, rfl⟩) rfl rfl (fun C T N hc => by cases hc; exact xfX7_19) dX7_init_18 z9 ((g4.up (n_w2 e6)).up (n_nw e8)) (fun σ10 e10 => ?_)
  replace h := h σ10 e10
  refine gw_iconst_m (v := 0) dX7_init_21 ic_0 ?_
  refine gw_istore_n_m (lo' := [(0, .inr v0), (1, .inl 0)]) dX7_init_22 rfl (by decide) rfl ?_
  exact h
set_option maxHeartbeats 4000000 in
set_option maxRecDepth 20000 in
theorem eX4_init_m {l : Launch} {v0 : Nat} {σ : Sg} {K : Sg → Prop} (h : v0 ≠ 0 ∧ (shp_m (σ.1 + 1)).1 = 7 ∧ σ.1 + 1 ≤ 1000 ∧ ∀ x3 σ3, x3 = σ.1 + 1 → σ3 = nw σ → x3 ≠ 0 ∧ Con_m l mX7_init [.inr x3] σ3 (PV (fun σ4 => Ob_m σ4 v0 4 ∧ x3 ≤ σ4.1 ∧ ∀ σ8, σ8 = w2 σ4 v0 0 x3 → (shp_m (σ8.1 + 1)).1 = 10 ∧ σ8.1 + 1 ≤ 1000 ∧ ∀ x10 σ10, x10 = σ8.1 + 1 → σ10 = nw σ8 → x10 ≠ 0 ∧ Con_m l mX10_init [.inr x10] σ10 (PV (fun σ11 => x10 ≤ σ11.1 ∧ ∀ σ14, σ14 = w2 σ11 v0 1 x10 → (shp_m (σ14.1 + 1)).1 = 9 ∧ σ14.1 + 1 ≤ 1000 ∧ ∀ x16 σ16, x16 = σ14.1 + 1 → σ16 = nw σ14 → x16 ≠ 0 ∧ Con_m l mX9_init [.inr x16] σ16 (PV (fun σ17 => x16 ≤ σ17.1 ∧ ∀ σ20, σ20 = w2 σ17 v0 2 x16 → (shp_m (σ20.1 + 1)).1 = 9 ∧ σ20.1 + 1 ≤ 1000 ∧ ∀ x22 σ22, x22 = σ20.1 + 1 → σ22 = nw σ20 → x22 ≠ 0 ∧ Con_m l mX9_init [.inr x22] σ22 (PV (fun σ23 => x22 ≤ σ23.1 ∧ ∀ σ26, σ26 = w2 σ23 v0 3 x22 → ∀ σ27, σ27 = w1 σ26 v0 7 (-1) → K σ27))))))))) : Con_m l mX4_init [.inr v0] σ (PV K) := by
  refine con_gw_m rfl (Nat.le_of_ble_eq_true rfl) ?_
  show GW_m l mX4_init 0 [(0, .inr v0)] [] σ 0 0 (PV K)
  refine gw_aload_n_m (q := 0) dX4_init_0 rfl rfl ?_
  obtain ⟨g1, h⟩ := h
  refine gw_objInit_m oiX4_3 oi_in oi_cd dX4_init_1 (by decide) (Nat.le_of_ble_eq_true rfl) g1 ?_
  refine gw_aload_n_m (q := 0) dX4_init_4 rfl rfl ?_
  obtain ⟨g2, g3, h⟩ := h
  refine gw_new_m ci7 clX4_9 it_X7 in_X7 df7 dX4_init_5 g2 (by decide) (by decide) g3 (fun x3 σ3 ex3 e3 => ?_)
  replace h := h x3 σ3 ex3 e3
  refine gw_dup_m dX4_init_8 ?_
  obtain ⟨g5, h⟩ := h
  refine gw_iC_m (bs := []) (st := [.inr x3, .inr v0]) xmX7_init lX4_11 dX4_init_9 ⟨by decide, rfl, rfl, by decide, by decide⟩ (Nat.le_of_ble_eq_true rfl) rfl rfl g5 h (kV_m (fun σ4 h n4 => ?_))
  obtain ⟨g6, h⟩ := h
  obtain ⟨z7, h⟩ := h
  refine gw_pRF_m fX4_12 (Or.inl ⟨_, rfl⟩) rfl rfl (fun C T N hc => by cases hc; exact xfX4_12) dX4_init_12 z7 g6 (fun σ8 e8 => ?_)
  replace h := h σ8 e8
  refine gw_aload_n_m (q := 0) dX4_init_15 rfl rfl ?_
  obtain ⟨g9, g10, h⟩ := h
  refine gw_new_m ci10 clX4_18 it_X10 in_X10 df10 dX4_init_16 g9 (by decide) (by decide) g10 (fun x10 σ10 ex10 e10 => ?_)
  replace h := h x10 σ10 ex10 e10
  refine gw_dup_m dX4_init_19 ?_
  obtain ⟨g12, h⟩ := h
  refine gw_iC_m (bs := []) (st := [.inr x10, .inr v0]) xmX10_init lX4_20 dX4_init_20 ⟨by decide, rfl, rfl, by decide, by decide⟩ (Nat.le_of_ble_eq_true rfl) rfl rfl g12 h (kV_m (fun σ11 h n11 => ?_))
  obtain ⟨z13, h⟩ := h
  refine gw_pRF_m fX4_21 (Or.inl ⟨_, rfl⟩) rfl rfl (fun C T N hc => by cases hc; exact xfX4_21) dX4_init_23 z13 (((g6.up (n_w2 e8)).up (n_nw e10)).up n11) (fun σ14 e14 => ?_)
  replace h := h σ14 e14
  refine gw_aload_n_m (q := 0) dX4_init_26 rfl rfl ?_
  obtain ⟨g15, g16, h⟩ := h
  refine gw_new_m ci9 clX4_25 it_X9 in_X9 df9 dX4_init_27 g15 (by decide) (by decide) g16 (fun x16 σ16 ex16 e16 => ?_)
  replace h := h x16 σ16 ex16 e16
  refine gw_dup_m dX4_init_30 ?_
  obtain ⟨g18, h⟩ := h
  refine gw_iC_m (bs := []) (st := [.inr x16, .inr v0]) xmX9_init lX4_27 dX4_init_31 ⟨by decide, rfl, rfl, by decide, by decide⟩ (Nat.le_of_ble_eq_true rfl) rfl rfl g18 h (kV_m (fun σ17 h n17 => ?_))
  obtain ⟨z19, h⟩ := h
  refine gw_pRF_m fX4_28 (Or.inl ⟨_, rfl⟩) rfl rfl (fun C T N hc => by cases hc; exact xfX4_28) dX4_init_34 z19 ((((((g6.up (n_w2 e8)).up (n_nw e10)).up n11).up (n_w2 e14)).up (n_nw e16)).up n17) (fun σ20 e20 => ?_)
  replace h := h σ20 e20
  refine gw_aload_n_m (q := 0) dX4_init_37 rfl rfl ?_
  obtain ⟨g21, g22, h⟩ := h
  refine gw_new_m ci9 clX4_25 it_X9 in_X9 df9 dX4_init_38 g21 (by decide) (by decide) g22 (fun x22 σ22 ex22 e22 => ?_)
  replace h := h x22 σ22 ex22 e22
  refine gw_dup_m dX4_init_41 ?_
  obtain ⟨g24, h⟩ := h
  refine gw_iC_m (bs := []) (st := [.inr x22, .inr v0]) xmX9_init lX4_27 dX4_init_42 ⟨by decide, rfl, rfl, by decide, by decide⟩ (Nat.le_of_ble_eq_true rfl) rfl rfl g24 h (kV_m (fun σ23 h n23 => ?_))
  obtain ⟨z25, h⟩ := h
  refine gw_pRF_m fX4_32 (Or.inl ⟨_, rfl⟩) rfl rfl (fun C T N hc => by cases hc; exact xfX4_32) dX4_init_45 z25 (((((((((g6.up (n_w2 e8)).up (n_nw e10)).up n11).up (n_w2 e14)).up (n_nw e16)).up n17).up (n_w2 e20)).up (n_nw e22)).up n23) (fun σ26 e26 => ?_)
  replace h := h σ26 e26
  refine gw_aload_n_m (q := 0) dX4_init_48 rfl rfl ?_
  refine gw_iconst_m (v := (-1)) dX4_init_49 ic_m1 ?_
  refine gw_pI_m fX4_35 dX4_init_50 ((((((((((g6.up (n_w2 e8)).up (n_nw e10)).up n11).up (n_w2 e14)).up (n_nw e16)).up n17).up (n_w2 e20)).up (n_nw e22)).up n23).up (n_w2 e26)) (fun σ27 e27 => ?_)
  replace h := h σ27 e27
  exact gw_rV_m dX4_init_53 rfl (by decide) (by decide) h
set_option maxHeartbeats 4000000 in
set_option maxRecDepth 20000 in
theorem eX2_init_m {l : Launch} {v0 : Nat} {σ : Sg} {K : Sg → Prop} (h : v0 ≠ 0 ∧ shp_m (σ.1 + 1) = (13, 256) ∧ σ.1 + 1 ≤ 1000 ∧ ∀ x3 σ3, x3 = σ.1 + 1 → σ3 = nw σ → Ob_m σ3 v0 2 ∧ x3 ≤ σ3.1 ∧ ∀ σ6, σ6 = w2 σ3 v0 0 x3 → shp_m (σ6.1 + 1) = (13, 256) ∧ σ6.1 + 1 ≤ 1000 ∧ ∀ x8 σ8, x8 = σ6.1 + 1 → σ8 = nw σ6 → x8 ≤ σ8.1 ∧ ∀ σ10, σ10 = w2 σ8 v0 1 x8 → K σ10) : Con_m l mX2_init [.inr v0] σ (PV K) := by
  refine con_gw_m rfl (Nat.le_of_ble_eq_true rfl) ?_
  show GW_m l mX2_init 0 [(0, .inr v0)] [] σ 0 0 (PV K)
  refine gw_aload_n_m (q := 0) dX2_init_0 rfl rfl ?_
  obtain ⟨g1, h⟩ := h
  refine gw_objInit_m oiX2_3 oi_in oi_cd dX2_init_1 (by decide) (Nat.le_of_ble_eq_true rfl) g1 ?_
  refine gw_aload_n_m (q := 0) dX2_init_4 rfl rfl ?_
  refine gw_sipush_m (v := 256) dX2_init_5 sp_256 ?_
  obtain ⟨g2, g3, h⟩ := h
  refine gw_newi_m (N := 256) ac_int dX2_init_8 g2 (by decide) (by decide) (by decide) (by decide) (by decide) g3 (fun x3 σ3 ex3 e3 => ?_)
  replace h := h x3 σ3 ex3 e3
  obtain ⟨g4, h⟩ := h
  obtain ⟨z5, h⟩ := h
  refine gw_pRF_m fX2_9 (Or.inr ⟨_, rfl⟩) rfl rfl (fun C T N hc => by cases hc; exact xfX2_9) dX2_init_10 z5 g4 (fun σ6 e6 => ?_)
  replace h := h σ6 e6
  refine gw_aload_n_m (q := 0) dX2_init_13 rfl rfl ?_
  refine gw_sipush_m (v := 256) dX2_init_14 sp_256 ?_
  obtain ⟨g7, g8, h⟩ := h
  refine gw_newi_m (N := 256) ac_int dX2_init_17 g7 (by decide) (by decide) (by decide) (by decide) (by decide) g8 (fun x8 σ8 ex8 e8 => ?_)
  replace h := h x8 σ8 ex8 e8
  obtain ⟨z9, h⟩ := h
  refine gw_pRF_m fX2_15 (Or.inr ⟨_, rfl⟩) rfl rfl (fun C T N hc => by cases hc; exact xfX2_15) dX2_init_19 z9 ((g4.up (n_w2 e6)).up (n_nw e8)) (fun σ10 e10 => ?_)
  replace h := h σ10 e10
  exact gw_rV_m dX2_init_22 rfl (by decide) (by decide) h
set_option maxHeartbeats 4000000 in
set_option maxRecDepth 20000 in
theorem eX8_init_m {l : Launch} {v0 : Nat} {σ : Sg} {K : Sg → Prop} (h : v0 ≠ 0 ∧ shp_m (σ.1 + 1) = (13, 40) ∧ σ.1 + 1 ≤ 1000 ∧ ∀ x3 σ3, x3 = σ.1 + 1 → σ3 = nw σ → Ob_m σ3 v0 8 ∧ x3 ≤ σ3.1 ∧ ∀ σ6, σ6 = w2 σ3 v0 0 x3 → K σ6) : Con_m l mX8_init [.inr v0] σ (PV K) := by
  refine con_gw_m rfl (Nat.le_of_ble_eq_true rfl) ?_
  show GW_m l mX8_init 0 [(0, .inr v0)] [] σ 0 0 (PV K)
  refine gw_aload_n_m (q := 0) dX8_init_0 rfl rfl ?_
  obtain ⟨g1, h⟩ := h
  refine gw_objInit_m oiX8_3 oi_in oi_cd dX8_init_1 (by decide) (Nat.le_of_ble_eq_true rfl) g1 ?_
  refine gw_aload_n_m (q := 0) dX8_init_4 rfl rfl ?_
  refine gw_bipush_m (v := 40) dX8_init_5 bp_40 ?_
  obtain ⟨g2, g3, h⟩ := h
  refine gw_newi_m (N := 40) ac_int dX8_init_7 g2 (by decide) (by decide) (by decide) (by decide) (by decide) g3 (fun x3 σ3 ex3 e3 => ?_)
  replace h := h x3 σ3 ex3 e3
  obtain ⟨g4, h⟩ := h
  obtain ⟨z5, h⟩ := h
  refine gw_pRF_m fX8_9 (Or.inr ⟨_, rfl⟩) rfl rfl (fun C T N hc => by cases hc; exact xfX8_9) dX8_init_9 z5 g4 (fun σ6 e6 => ?_)
  replace h := h σ6 e6
  exact gw_rV_m dX8_init_12 rfl (by decide) (by decide) h
set_option maxHeartbeats 4000000 in
set_option maxRecDepth 20000 in
theorem eX1_init_m {l : Launch} {v0 : Nat} {σ : Sg} {K : Sg → Prop} (h : v0 ≠ 0 ∧ shp_m (σ.1 + 1) = (13, 640) ∧ σ.1 + 1 ≤ 1000 ∧ ∀ x3 σ3, x3 = σ.1 + 1 → σ3 = nw σ → Ob_m σ3 v0 1 ∧ x3 ≤ σ3.1 ∧ ∀ σ6, σ6 = w2 σ3 v0 0 x3 → shp_m (σ6.1 + 1) = (13, 40) ∧ σ6.1 + 1 ≤ 1000 ∧ ∀ x8 σ8, x8 = σ6.1 + 1 → σ8 = nw σ6 → x8 ≤ σ8.1 ∧ ∀ σ10, σ10 = w2 σ8 v0 1 x8 → shp_m (σ10.1 + 1) = (13, 40) ∧ σ10.1 + 1 ≤ 1000 ∧ ∀ x12 σ12, x12 = σ10.1 + 1 → σ12 = nw σ10 → x12 ≤ σ12.1 ∧ ∀ σ14, σ14 = w2 σ12 v0 2 x12 → shp_m (σ14.1 + 1) = (13, 256) ∧ σ14.1 + 1 ≤ 1000 ∧ ∀ x16 σ16, x16 = σ14.1 + 1 → σ16 = nw σ14 → x16 ≤ σ16.1 ∧ ∀ σ18, σ18 = w2 σ16 v0 3 x16 → shp_m (σ18.1 + 1) = (13, 3) ∧ σ18.1 + 1 ≤ 1000 ∧ ∀ x20 σ20, x20 = σ18.1 + 1 → σ20 = nw σ18 → x20 ≤ σ20.1 ∧ ∀ σ22, σ22 = w2 σ20 v0 4 x20 → shp_m (σ22.1 + 1) = (13, 3) ∧ σ22.1 + 1 ≤ 1000 ∧ ∀ x24 σ24, x24 = σ22.1 + 1 → σ24 = nw σ22 → x24 ≤ σ24.1 ∧ ∀ σ26, σ26 = w2 σ24 v0 5 x24 → K σ26) : Con_m l mX1_init [.inr v0] σ (PV K) := by
  refine con_gw_m rfl (Nat.le_of_ble_eq_true rfl) ?_
  show GW_m l mX1_init 0 [(0, .inr v0)] [] σ 0 0 (PV K)
  refine gw_aload_n_m (q := 0) dX1_init_0 rfl rfl ?_
  obtain ⟨g1, h⟩ := h
  refine gw_objInit_m oiX1_3 oi_in oi_cd dX1_init_1 (by decide) (Nat.le_of_ble_eq_true rfl) g1 ?_
  refine gw_aload_n_m (q := 0) dX1_init_4 rfl rfl ?_
  refine gw_sipush_m (v := 640) dX1_init_5 sp_640 ?_
  obtain ⟨g2, g3, h⟩ := h
  refine gw_newi_m (N := 640) ac_int dX1_init_8 g2 (by decide) (by decide) (by decide) (by decide) (by decide) g3 (fun x3 σ3 ex3 e3 => ?_)
  replace h := h x3 σ3 ex3 e3
  obtain ⟨g4, h⟩ := h
  obtain ⟨z5, h⟩ := h
  refine gw_pRF_m fX1_9 (Or.inr ⟨_, rfl⟩) rfl rfl (fun C T N hc => by cases hc; exact xfX1_9) dX1_init_10 z5 g4 (fun σ6 e6 => ?_)
  replace h := h σ6 e6
  refine gw_aload_n_m (q := 0) dX1_init_13 rfl rfl ?_
  refine gw_bipush_m (v := 40) dX1_init_14 bp_40 ?_
  obtain ⟨g7, g8, h⟩ := h
  refine gw_newi_m (N := 40) ac_int dX1_init_16 g7 (by decide) (by decide) (by decide) (by decide) (by decide) g8 (fun x8 σ8 ex8 e8 => ?_)
  replace h := h x8 σ8 ex8 e8
  obtain ⟨z9, h⟩ := h
  refine gw_pRF_m fX1_15 (Or.inr ⟨_, rfl⟩) rfl rfl (fun C T N hc => by cases hc; exact xfX1_15) dX1_init_18 z9 ((g4.up (n_w2 e6)).up (n_nw e8)) (fun σ10 e10 => ?_)
  replace h := h σ10 e10
  refine gw_aload_n_m (q := 0) dX1_init_21 rfl rfl ?_
  refine gw_bipush_m (v := 40) dX1_init_22 bp_40 ?_
  obtain ⟨g11, g12, h⟩ := h
  refine gw_newi_m (N := 40) ac_int dX1_init_24 g11 (by decide) (by decide) (by decide) (by decide) (by decide) g12 (fun x12 σ12 ex12 e12 => ?_)
  replace h := h x12 σ12 ex12 e12
  obtain ⟨z13, h⟩ := h
  refine gw_pRF_m fX1_18 (Or.inr ⟨_, rfl⟩) rfl rfl (fun C T N hc => by cases hc; exact xfX1_18) dX1_init_26 z13 ((((g4.up (n_w2 e6)).up (n_nw e8)).up (n_w2 e10)).up (n_nw e12)) (fun σ14 e14 => ?_)
  replace h := h σ14 e14
  refine gw_aload_n_m (q := 0) dX1_init_29 rfl rfl ?_
  refine gw_sipush_m (v := 256) dX1_init_30 sp_256 ?_
  obtain ⟨g15, g16, h⟩ := h
  refine gw_newi_m (N := 256) ac_int dX1_init_33 g15 (by decide) (by decide) (by decide) (by decide) (by decide) g16 (fun x16 σ16 ex16 e16 => ?_)
  replace h := h x16 σ16 ex16 e16
  obtain ⟨z17, h⟩ := h
  refine gw_pRF_m fX1_21 (Or.inr ⟨_, rfl⟩) rfl rfl (fun C T N hc => by cases hc; exact xfX1_21) dX1_init_35 z17 ((((((g4.up (n_w2 e6)).up (n_nw e8)).up (n_w2 e10)).up (n_nw e12)).up (n_w2 e14)).up (n_nw e16)) (fun σ18 e18 => ?_)
  replace h := h σ18 e18
  refine gw_aload_n_m (q := 0) dX1_init_38 rfl rfl ?_
  refine gw_iconst_m (v := 3) dX1_init_39 ic_3 ?_
  obtain ⟨g19, g20, h⟩ := h
  refine gw_newi_m (N := 3) ac_int dX1_init_40 g19 (by decide) (by decide) (by decide) (by decide) (by decide) g20 (fun x20 σ20 ex20 e20 => ?_)
  replace h := h x20 σ20 ex20 e20
  obtain ⟨z21, h⟩ := h
  refine gw_pRF_m fX1_24 (Or.inr ⟨_, rfl⟩) rfl rfl (fun C T N hc => by cases hc; exact xfX1_24) dX1_init_42 z21 ((((((((g4.up (n_w2 e6)).up (n_nw e8)).up (n_w2 e10)).up (n_nw e12)).up (n_w2 e14)).up (n_nw e16)).up (n_w2 e18)).up (n_nw e20)) (fun σ22 e22 => ?_)
  replace h := h σ22 e22
  refine gw_aload_n_m (q := 0) dX1_init_45 rfl rfl ?_
  refine gw_iconst_m (v := 3) dX1_init_46 ic_3 ?_
  obtain ⟨g23, g24, h⟩ := h
  refine gw_newi_m (N := 3) ac_int dX1_init_47 g23 (by decide) (by decide) (by decide) (by decide) (by decide) g24 (fun x24 σ24 ex24 e24 => ?_)
  replace h := h x24 σ24 ex24 e24
  obtain ⟨z25, h⟩ := h
  refine gw_pRF_m fX1_27 (Or.inr ⟨_, rfl⟩) rfl rfl (fun C T N hc => by cases hc; exact xfX1_27) dX1_init_49 z25 ((((((((((g4.up (n_w2 e6)).up (n_nw e8)).up (n_w2 e10)).up (n_nw e12)).up (n_w2 e14)).up (n_nw e16)).up (n_w2 e18)).up (n_nw e20)).up (n_w2 e22)).up (n_nw e24)) (fun σ26 e26 => ?_)
  replace h := h σ26 e26
  exact gw_rV_m dX1_init_52 rfl (by decide) (by decide) h
set_option maxHeartbeats 4000000 in
set_option maxRecDepth 20000 in
theorem eX5_init_m {l : Launch} {v0 : Nat} {σ : Sg} {K : Sg → Prop} (h : v0 ≠ 0 ∧ shp_m (σ.1 + 1) = (13, 240) ∧ σ.1 + 1 ≤ 1000 ∧ ∀ x3 σ3, x3 = σ.1 + 1 → σ3 = nw σ → Ob_m σ3 v0 5 ∧ x3 ≤ σ3.1 ∧ ∀ σ6, σ6 = w2 σ3 v0 0 x3 → shp_m (σ6.1 + 1) = (13, 240) ∧ σ6.1 + 1 ≤ 1000 ∧ ∀ x8 σ8, x8 = σ6.1 + 1 → σ8 = nw σ6 → x8 ≤ σ8.1 ∧ ∀ σ10, σ10 = w2 σ8 v0 1 x8 → shp_m (σ10.1 + 1) = (13, 1600) ∧ σ10.1 + 1 ≤ 1000 ∧ ∀ x12 σ12, x12 = σ10.1 + 1 → σ12 = nw σ10 → x12 ≤ σ12.1 ∧ ∀ σ14, σ14 = w2 σ12 v0 2 x12 → shp_m (σ14.1 + 1) = (13, 80) ∧ σ14.1 + 1 ≤ 1000 ∧ ∀ x16 σ16, x16 = σ14.1 + 1 → σ16 = nw σ14 → x16 ≤ σ16.1 ∧ ∀ σ18, σ18 = w2 σ16 v0 3 x16 → K σ18) : Con_m l mX5_init [.inr v0] σ (PV K) := by
  refine con_gw_m rfl (Nat.le_of_ble_eq_true rfl) ?_
  show GW_m l mX5_init 0 [(0, .inr v0)] [] σ 0 0 (PV K)
  refine gw_aload_n_m (q := 0) dX5_init_0 rfl rfl ?_
  obtain ⟨g1, h⟩ := h
  refine gw_objInit_m oiX5_3 oi_in oi_cd dX5_init_1 (by decide) (Nat.le_of_ble_eq_true rfl) g1 ?_
  refine gw_aload_n_m (q := 0) dX5_init_4 rfl rfl ?_
  refine gw_sipush_m (v := 240) dX5_init_5 sp_240 ?_
  obtain ⟨g2, g3, h⟩ := h
  refine gw_newi_m (N := 240) ac_int dX5_init_8 g2 (by decide) (by decide) (by decide) (by decide) (by decide) g3 (fun x3 σ3 ex3 e3 => ?_)
  replace h := h x3 σ3 ex3 e3
  obtain ⟨g4, h⟩ := h
  obtain ⟨z5, h⟩ := h
  refine gw_pRF_m fX5_11 (Or.inr ⟨_, rfl⟩) rfl rfl (fun C T N hc => by cases hc; exact xfX5_11) dX5_init_10 z5 g4 (fun σ6 e6 => ?_)
  replace h := h σ6 e6
  refine gw_aload_n_m (q := 0) dX5_init_13 rfl rfl ?_
  refine gw_sipush_m (v := 240) dX5_init_14 sp_240 ?_
  obtain ⟨g7, g8, h⟩ := h
  refine gw_newi_m (N := 240) ac_int dX5_init_17 g7 (by decide) (by decide) (by decide) (by decide) (by decide) g8 (fun x8 σ8 ex8 e8 => ?_)
  replace h := h x8 σ8 ex8 e8
  obtain ⟨z9, h⟩ := h
  refine gw_pRF_m fX5_15 (Or.inr ⟨_, rfl⟩) rfl rfl (fun C T N hc => by cases hc; exact xfX5_15) dX5_init_19 z9 ((g4.up (n_w2 e6)).up (n_nw e8)) (fun σ10 e10 => ?_)
  replace h := h σ10 e10
  refine gw_aload_n_m (q := 0) dX5_init_22 rfl rfl ?_
  refine gw_sipush_m (v := 1600) dX5_init_23 sp_1600 ?_
  obtain ⟨g11, g12, h⟩ := h
  refine gw_newi_m (N := 1600) ac_int dX5_init_26 g11 (by decide) (by decide) (by decide) (by decide) (by decide) g12 (fun x12 σ12 ex12 e12 => ?_)
  replace h := h x12 σ12 ex12 e12
  obtain ⟨z13, h⟩ := h
  refine gw_pRF_m fX5_18 (Or.inr ⟨_, rfl⟩) rfl rfl (fun C T N hc => by cases hc; exact xfX5_18) dX5_init_28 z13 ((((g4.up (n_w2 e6)).up (n_nw e8)).up (n_w2 e10)).up (n_nw e12)) (fun σ14 e14 => ?_)
  replace h := h σ14 e14
  refine gw_aload_n_m (q := 0) dX5_init_31 rfl rfl ?_
  refine gw_bipush_m (v := 80) dX5_init_32 bp_80 ?_
  obtain ⟨g15, g16, h⟩ := h
  refine gw_newi_m (N := 80) ac_int dX5_init_34 g15 (by decide) (by decide) (by decide) (by decide) (by decide) g16 (fun x16 σ16 ex16 e16 => ?_)
  replace h := h x16 σ16 ex16 e16
  obtain ⟨z17, h⟩ := h
  refine gw_pRF_m fX5_21 (Or.inr ⟨_, rfl⟩) rfl rfl (fun C T N hc => by cases hc; exact xfX5_21) dX5_init_36 z17 ((((((g4.up (n_w2 e6)).up (n_nw e8)).up (n_w2 e10)).up (n_nw e12)).up (n_w2 e14)).up (n_nw e16)) (fun σ18 e18 => ?_)
  replace h := h σ18 e18
  exact gw_rV_m dX5_init_39 rfl (by decide) (by decide) h
set_option maxHeartbeats 4000000 in
set_option maxRecDepth 20000 in
theorem eX6_init_m {l : Launch} {v0 : Nat} {σ : Sg} {K : Sg → Prop} (h : v0 ≠ 0 ∧ shp_m (σ.1 + 1) = (13, 10) ∧ σ.1 + 1 ≤ 1000 ∧ ∀ x3 σ3, x3 = σ.1 + 1 → σ3 = nw σ → Ob_m σ3 v0 6 ∧ x3 ≤ σ3.1 ∧ ∀ σ6, σ6 = w2 σ3 v0 0 x3 → shp_m (σ6.1 + 1) = (13, 10) ∧ σ6.1 + 1 ≤ 1000 ∧ ∀ x8 σ8, x8 = σ6.1 + 1 → σ8 = nw σ6 → x8 ≤ σ8.1 ∧ ∀ σ10, σ10 = w2 σ8 v0 1 x8 → shp_m (σ10.1 + 1) = (13, 5) ∧ σ10.1 + 1 ≤ 1000 ∧ ∀ x12 σ12, x12 = σ10.1 + 1 → σ12 = nw σ10 → x12 ≤ σ12.1 ∧ ∀ σ14, σ14 = w2 σ12 v0 2 x12 → shp_m (σ14.1 + 1) = (13, 5) ∧ σ14.1 + 1 ≤ 1000 ∧ ∀ x16 σ16, x16 = σ14.1 + 1 → σ16 = nw σ14 → x16 ≤ σ16.1 ∧ ∀ σ18, σ18 = w2 σ16 v0 3 x16 → shp_m (σ18.1 + 1) = (14, 10) ∧ σ18.1 + 1 ≤ 1000 ∧ ∀ x20 σ20, x20 = σ18.1 + 1 → σ20 = nw σ18 → x20 ≤ σ20.1 ∧ ∀ σ22, σ22 = w2 σ20 v0 4 x20 → shp_m (σ22.1 + 1) = (13, 64) ∧ σ22.1 + 1 ≤ 1000 ∧ ∀ x24 σ24, x24 = σ22.1 + 1 → σ24 = nw σ22 → x24 ≤ σ24.1 ∧ ∀ σ26, σ26 = w2 σ24 v0 5 x24 → shp_m (σ26.1 + 1) = (13, 160) ∧ σ26.1 + 1 ≤ 1000 ∧ ∀ x28 σ28, x28 = σ26.1 + 1 → σ28 = nw σ26 → x28 ≤ σ28.1 ∧ ∀ σ30, σ30 = w2 σ28 v0 6 x28 → K σ30) : Con_m l mX6_init [.inr v0] σ (PV K) := by
  refine con_gw_m rfl (Nat.le_of_ble_eq_true rfl) ?_
  show GW_m l mX6_init 0 [(0, .inr v0)] [] σ 0 0 (PV K)
  refine gw_aload_n_m (q := 0) dX6_init_0 rfl rfl ?_
  obtain ⟨g1, h⟩ := h
  refine gw_objInit_m oiX6_3 oi_in oi_cd dX6_init_1 (by decide) (Nat.le_of_ble_eq_true rfl) g1 ?_
  refine gw_aload_n_m (q := 0) dX6_init_4 rfl rfl ?_
  refine gw_bipush_m (v := 10) dX6_init_5 bp_10 ?_
  obtain ⟨g2, g3, h⟩ := h
  refine gw_newi_m (N := 10) ac_int dX6_init_7 g2 (by decide) (by decide) (by decide) (by decide) (by decide) g3 (fun x3 σ3 ex3 e3 => ?_)
  replace h := h x3 σ3 ex3 e3
  obtain ⟨g4, h⟩ := h
  obtain ⟨z5, h⟩ := h
  refine gw_pRF_m fX6_9 (Or.inr ⟨_, rfl⟩) rfl rfl (fun C T N hc => by cases hc; exact xfX6_9) dX6_init_9 z5 g4 (fun σ6 e6 => ?_)
  replace h := h σ6 e6
  refine gw_aload_n_m (q := 0) dX6_init_12 rfl rfl ?_
  refine gw_bipush_m (v := 10) dX6_init_13 bp_10 ?_
  obtain ⟨g7, g8, h⟩ := h
  refine gw_newi_m (N := 10) ac_int dX6_init_15 g7 (by decide) (by decide) (by decide) (by decide) (by decide) g8 (fun x8 σ8 ex8 e8 => ?_)
  replace h := h x8 σ8 ex8 e8
  obtain ⟨z9, h⟩ := h
  refine gw_pRF_m fX6_15 (Or.inr ⟨_, rfl⟩) rfl rfl (fun C T N hc => by cases hc; exact xfX6_15) dX6_init_17 z9 ((g4.up (n_w2 e6)).up (n_nw e8)) (fun σ10 e10 => ?_)
  replace h := h σ10 e10
  refine gw_aload_n_m (q := 0) dX6_init_20 rfl rfl ?_
  refine gw_iconst_m (v := 5) dX6_init_21 ic_5 ?_
  obtain ⟨g11, g12, h⟩ := h
  refine gw_newi_m (N := 5) ac_int dX6_init_22 g11 (by decide) (by decide) (by decide) (by decide) (by decide) g12 (fun x12 σ12 ex12 e12 => ?_)
  replace h := h x12 σ12 ex12 e12
  obtain ⟨z13, h⟩ := h
  refine gw_pRF_m fX6_18 (Or.inr ⟨_, rfl⟩) rfl rfl (fun C T N hc => by cases hc; exact xfX6_18) dX6_init_24 z13 ((((g4.up (n_w2 e6)).up (n_nw e8)).up (n_w2 e10)).up (n_nw e12)) (fun σ14 e14 => ?_)
  replace h := h σ14 e14
  refine gw_aload_n_m (q := 0) dX6_init_27 rfl rfl ?_
  refine gw_iconst_m (v := 5) dX6_init_28 ic_5 ?_
  obtain ⟨g15, g16, h⟩ := h
  refine gw_newi_m (N := 5) ac_int dX6_init_29 g15 (by decide) (by decide) (by decide) (by decide) (by decide) g16 (fun x16 σ16 ex16 e16 => ?_)
  replace h := h x16 σ16 ex16 e16
  obtain ⟨z17, h⟩ := h
  refine gw_pRF_m fX6_21 (Or.inr ⟨_, rfl⟩) rfl rfl (fun C T N hc => by cases hc; exact xfX6_21) dX6_init_31 z17 ((((((g4.up (n_w2 e6)).up (n_nw e8)).up (n_w2 e10)).up (n_nw e12)).up (n_w2 e14)).up (n_nw e16)) (fun σ18 e18 => ?_)
  replace h := h σ18 e18
  refine gw_aload_n_m (q := 0) dX6_init_34 rfl rfl ?_
  refine gw_bipush_m (v := 10) dX6_init_35 bp_10 ?_
  obtain ⟨g19, g20, h⟩ := h
  refine gw_newz_m (N := 10) ac_boolean dX6_init_37 g19 (by decide) (by decide) (by decide) (by decide) (by decide) g20 (fun x20 σ20 ex20 e20 => ?_)
  replace h := h x20 σ20 ex20 e20
  obtain ⟨z21, h⟩ := h
  refine gw_pRF_m fX6_24 (Or.inr ⟨_, rfl⟩) rfl rfl (fun C T N hc => by cases hc; exact xfX6_24) dX6_init_39 z21 ((((((((g4.up (n_w2 e6)).up (n_nw e8)).up (n_w2 e10)).up (n_nw e12)).up (n_w2 e14)).up (n_nw e16)).up (n_w2 e18)).up (n_nw e20)) (fun σ22 e22 => ?_)
  replace h := h σ22 e22
  refine gw_aload_n_m (q := 0) dX6_init_42 rfl rfl ?_
  refine gw_bipush_m (v := 64) dX6_init_43 bp_64 ?_
  obtain ⟨g23, g24, h⟩ := h
  refine gw_newi_m (N := 64) ac_int dX6_init_45 g23 (by decide) (by decide) (by decide) (by decide) (by decide) g24 (fun x24 σ24 ex24 e24 => ?_)
  replace h := h x24 σ24 ex24 e24
  obtain ⟨z25, h⟩ := h
  refine gw_pRF_m fX6_28 (Or.inr ⟨_, rfl⟩) rfl rfl (fun C T N hc => by cases hc; exact xfX6_28) dX6_init_47 z25 ((((((((((g4.up (n_w2 e6)).up (n_nw e8)).up (n_w2 e10)).up (n_nw e12)).up (n_w2 e14)).up (n_nw e16)).up (n_w2 e18)).up (n_nw e20)).up (n_w2 e22)).up (n_nw e24)) (fun σ26 e26 => ?_)
  replace h := h σ26 e26
  refine gw_aload_n_m (q := 0) dX6_init_50 rfl rfl ?_
  refine gw_sipush_m (v := 160) dX6_init_51 sp_160 ?_
  obtain ⟨g27, g28, h⟩ := h
  refine gw_newi_m (N := 160) ac_int dX6_init_54 g27 (by decide) (by decide) (by decide) (by decide) (by decide) g28 (fun x28 σ28 ex28 e28 => ?_)
  replace h := h x28 σ28 ex28 e28
  obtain ⟨z29, h⟩ := h
  refine gw_pRF_m fX6_31 (Or.inr ⟨_, rfl⟩) rfl rfl (fun C T N hc => by cases hc; exact xfX6_31) dX6_init_56 z29 ((((((((((((g4.up (n_w2 e6)).up (n_nw e8)).up (n_w2 e10)).up (n_nw e12)).up (n_w2 e14)).up (n_nw e16)).up (n_w2 e18)).up (n_nw e20)).up (n_w2 e22)).up (n_nw e24)).up (n_w2 e26)).up (n_nw e28)) (fun σ30 e30 => ?_)
  replace h := h σ30 e30
  exact gw_rV_m dX6_init_59 rfl (by decide) (by decide) h
set_option maxHeartbeats 4000000 in
set_option maxRecDepth 20000 in
theorem eX11_init_m {l : Launch} {v0 : Nat} {σ : Sg} {K : Sg → Prop} (h : v0 ≠ 0 ∧ (shp_m (σ.1 + 1)).1 = 4 ∧ σ.1 + 1 ≤ 1000 ∧ ∀ x3 σ3, x3 = σ.1 + 1 → σ3 = nw σ → x3 ≠ 0 ∧ Con_m l mX4_init [.inr x3] σ3 (PV (fun σ4 => Ob_m σ4 v0 11 ∧ x3 ≤ σ4.1 ∧ ∀ σ8, σ8 = w2 σ4 v0 2 x3 → Ob_m σ8 (σ8.2.2 v0 2) 4 ∧ (σ8.2.2 (σ8.2.2 v0 2) 0) ≤ σ8.1 ∧ ∀ σ11, σ11 = w2 σ8 v0 0 (σ8.2.2 (σ8.2.2 v0 2) 0) → Ob_m σ11 (σ11.2.2 v0 2) 4 ∧ (σ11.2.2 (σ11.2.2 v0 2) 1) ≤ σ11.1 ∧ ∀ σ14, σ14 = w2 σ11 v0 1 (σ11.2.2 (σ11.2.2 v0 2) 1) → (shp_m (σ14.1 + 1)).1 = 2 ∧ σ14.1 + 1 ≤ 1000 ∧ ∀ x16 σ16, x16 = σ14.1 + 1 → σ16 = nw σ14 → x16 ≠ 0 ∧ Con_m l mX2_init [.inr x16] σ16 (PV (fun σ17 => x16 ≤ σ17.1 ∧ ∀ σ20, σ20 = w2 σ17 v0 3 x16 → (shp_m (σ20.1 + 1)).1 = 8 ∧ σ20.1 + 1 ≤ 1000 ∧ ∀ x22 σ22, x22 = σ20.1 + 1 → σ22 = nw σ20 → x22 ≠ 0 ∧ Con_m l mX8_init [.inr x22] σ22 (PV (fun σ23 => x22 ≤ σ23.1 ∧ ∀ σ26, σ26 = w2 σ23 v0 4 x22 → (shp_m (σ26.1 + 1)).1 = 1 ∧ σ26.1 + 1 ≤ 1000 ∧ ∀ x28 σ28, x28 = σ26.1 + 1 → σ28 = nw σ26 → x28 ≠ 0 ∧ Con_m l mX1_init [.inr x28] σ28 (PV (fun σ29 => x28 ≤ σ29.1 ∧ ∀ σ32, σ32 = w2 σ29 v0 5 x28 → (shp_m (σ32.1 + 1)).1 = 5 ∧ σ32.1 + 1 ≤ 1000 ∧ ∀ x34 σ34, x34 = σ32.1 + 1 → σ34 = nw σ32 → x34 ≠ 0 ∧ Con_m l mX5_init [.inr x34] σ34 (PV (fun σ35 => x34 ≤ σ35.1 ∧ ∀ σ38, σ38 = w2 σ35 v0 6 x34 → (shp_m (σ38.1 + 1)).1 = 6 ∧ σ38.1 + 1 ≤ 1000 ∧ ∀ x40 σ40, x40 = σ38.1 + 1 → σ40 = nw σ38 → x40 ≠ 0 ∧ Con_m l mX6_init [.inr x40] σ40 (PV (fun σ41 => x40 ≤ σ41.1 ∧ ∀ σ44, σ44 = w2 σ41 v0 7 x40 → ∀ σ45, σ45 = w1 σ44 v0 9 10 → ∀ σ46, σ46 = w1 σ45 v0 10 (-1) → ∀ σ47, σ47 = w1 σ46 v0 11 (-1) → K σ47))))))))))))) : Con_m l mX11_init [.inr v0] σ (PV K) := by
  refine con_gw_m rfl (Nat.le_of_ble_eq_true rfl) ?_
  show GW_m l mX11_init 0 [(0, .inr v0)] [] σ 0 0 (PV K)
  refine gw_aload_n_m (q := 0) dX11_init_0 rfl rfl ?_
  obtain ⟨g1, h⟩ := h
  refine gw_objInit_m oiX11_1 oi_in oi_cd dX11_init_1 (by decide) (Nat.le_of_ble_eq_true rfl) g1 ?_
  refine gw_aload_n_m (q := 0) dX11_init_4 rfl rfl ?_
  obtain ⟨g2, g3, h⟩ := h
  refine gw_new_m ci4 clX11_7 it_X4 in_X4 df4 dX11_init_5 g2 (by decide) (by decide) g3 (fun x3 σ3 ex3 e3 => ?_)
  replace h := h x3 σ3 ex3 e3
  refine gw_dup_m dX11_init_8 ?_
  obtain ⟨g5, h⟩ := h
  refine gw_iC_m (bs := []) (st := [.inr x3, .inr v0]) xmX4_init lX11_9 dX11_init_9 ⟨by decide, rfl, rfl, by decide, by decide⟩ (Nat.le_of_ble_eq_true rfl) rfl rfl g5 h (kV_m (fun σ4 h n4 => ?_))
  obtain ⟨g6, h⟩ := h
  obtain ⟨z7, h⟩ := h
  refine gw_pRF_m fX11_10 (Or.inl ⟨_, rfl⟩) rfl rfl (fun C T N hc => by cases hc; exact xfX11_10) dX11_init_12 z7 g6 (fun σ8 e8 => ?_)
  replace h := h σ8 e8
  refine gw_aload_n_m (q := 0) dX11_init_15 rfl rfl ?_
  refine gw_aload_n_m (q := 0) dX11_init_16 rfl rfl ?_
  refine gw_gR_m fX11_10 dX11_init_17 (g6.up (n_w2 e8)) ?_
  obtain ⟨g9, h⟩ := h
  refine gw_gR_m fX11_16 dX11_init_20 g9 ?_
  obtain ⟨z10, h⟩ := h
  refine gw_pRF_m fX11_20 (Or.inl ⟨_, rfl⟩) rfl rfl (fun C T N hc => by cases hc; exact xfX11_20) dX11_init_23 z10 (g6.up (n_w2 e8)) (fun σ11 e11 => ?_)
  replace h := h σ11 e11
  refine gw_aload_n_m (q := 0) dX11_init_26 rfl rfl ?_
  refine gw_aload_n_m (q := 0) dX11_init_27 rfl rfl ?_
  refine gw_gR_m fX11_10 dX11_init_28 ((g6.up (n_w2 e8)).up (n_w2 e11)) ?_
  obtain ⟨g12, h⟩ := h
  refine gw_gR_m fX11_21 dX11_init_31 g12 ?_
  obtain ⟨z13, h⟩ := h
  refine gw_pRF_m fX11_25 (Or.inl ⟨_, rfl⟩) rfl rfl (fun C T N hc => by cases hc; exact xfX11_25) dX11_init_34 z13 ((g6.up (n_w2 e8)).up (n_w2 e11)) (fun σ14 e14 => ?_)
  replace h := h σ14 e14
  refine gw_aload_n_m (q := 0) dX11_init_37 rfl rfl ?_
  obtain ⟨g15, g16, h⟩ := h
  refine gw_new_m ci2 clX11_26 it_X2 in_X2 df2 dX11_init_38 g15 (by decide) (by decide) g16 (fun x16 σ16 ex16 e16 => ?_)
  replace h := h x16 σ16 ex16 e16
  refine gw_dup_m dX11_init_41 ?_
  obtain ⟨g18, h⟩ := h
  refine gw_iC_m (bs := []) (st := [.inr x16, .inr v0]) xmX2_init lX11_28 dX11_init_42 ⟨by decide, rfl, rfl, by decide, by decide⟩ (Nat.le_of_ble_eq_true rfl) rfl rfl g18 h (kV_m (fun σ17 h n17 => ?_))
  obtain ⟨z19, h⟩ := h
  refine gw_pRF_m fX11_29 (Or.inl ⟨_, rfl⟩) rfl rfl (fun C T N hc => by cases hc; exact xfX11_29) dX11_init_45 z19 (((((g6.up (n_w2 e8)).up (n_w2 e11)).up (n_w2 e14)).up (n_nw e16)).up n17) (fun σ20 e20 => ?_)
  replace h := h σ20 e20
  refine gw_aload_n_m (q := 0) dX11_init_48 rfl rfl ?_
  obtain ⟨g21, g22, h⟩ := h
  refine gw_new_m ci8 clX11_33 it_X8 in_X8 df8 dX11_init_49 g21 (by decide) (by decide) g22 (fun x22 σ22 ex22 e22 => ?_)
  replace h := h x22 σ22 ex22 e22
  refine gw_dup_m dX11_init_52 ?_
  obtain ⟨g24, h⟩ := h
  refine gw_iC_m (bs := []) (st := [.inr x22, .inr v0]) xmX8_init lX11_35 dX11_init_53 ⟨by decide, rfl, rfl, by decide, by decide⟩ (Nat.le_of_ble_eq_true rfl) rfl rfl g24 h (kV_m (fun σ23 h n23 => ?_))
  obtain ⟨z25, h⟩ := h
  refine gw_pRF_m fX11_36 (Or.inl ⟨_, rfl⟩) rfl rfl (fun C T N hc => by cases hc; exact xfX11_36) dX11_init_56 z25 ((((((((g6.up (n_w2 e8)).up (n_w2 e11)).up (n_w2 e14)).up (n_nw e16)).up n17).up (n_w2 e20)).up (n_nw e22)).up n23) (fun σ26 e26 => ?_)
  replace h := h σ26 e26
  refine gw_aload_n_m (q := 0) dX11_init_59 rfl rfl ?_
  obtain ⟨g27, g28, h⟩ := h
  refine gw_new_m ci1 clX11_40 it_X1 in_X1 df1 dX11_init_60 g27 (by decide) (by decide) g28 (fun x28 σ28 ex28 e28 => ?_)
  replace h := h x28 σ28 ex28 e28
  refine gw_dup_m dX11_init_63 ?_
  obtain ⟨g30, h⟩ := h
  refine gw_iC_m (bs := []) (st := [.inr x28, .inr v0]) xmX1_init lX11_42 dX11_init_64 ⟨by decide, rfl, rfl, by decide, by decide⟩ (Nat.le_of_ble_eq_true rfl) rfl rfl g30 h (kV_m (fun σ29 h n29 => ?_))
  obtain ⟨z31, h⟩ := h
  refine gw_pRF_m fX11_43 (Or.inl ⟨_, rfl⟩) rfl rfl (fun C T N hc => by cases hc; exact xfX11_43) dX11_init_67 z31 (((((((((((g6.up (n_w2 e8)).up (n_w2 e11)).up (n_w2 e14)).up (n_nw e16)).up n17).up (n_w2 e20)).up (n_nw e22)).up n23).up (n_w2 e26)).up (n_nw e28)).up n29) (fun σ32 e32 => ?_)
  replace h := h σ32 e32
  refine gw_aload_n_m (q := 0) dX11_init_70 rfl rfl ?_
  obtain ⟨g33, g34, h⟩ := h
  refine gw_new_m ci5 clX11_47 it_X5 in_X5 df5 dX11_init_71 g33 (by decide) (by decide) g34 (fun x34 σ34 ex34 e34 => ?_)
  replace h := h x34 σ34 ex34 e34
  refine gw_dup_m dX11_init_74 ?_
  obtain ⟨g36, h⟩ := h
  refine gw_iC_m (bs := []) (st := [.inr x34, .inr v0]) xmX5_init lX11_49 dX11_init_75 ⟨by decide, rfl, rfl, by decide, by decide⟩ (Nat.le_of_ble_eq_true rfl) rfl rfl g36 h (kV_m (fun σ35 h n35 => ?_))
  obtain ⟨z37, h⟩ := h
  refine gw_pRF_m fX11_50 (Or.inl ⟨_, rfl⟩) rfl rfl (fun C T N hc => by cases hc; exact xfX11_50) dX11_init_78 z37 ((((((((((((((g6.up (n_w2 e8)).up (n_w2 e11)).up (n_w2 e14)).up (n_nw e16)).up n17).up (n_w2 e20)).up (n_nw e22)).up n23).up (n_w2 e26)).up (n_nw e28)).up n29).up (n_w2 e32)).up (n_nw e34)).up n35) (fun σ38 e38 => ?_)
  replace h := h σ38 e38
  refine gw_aload_n_m (q := 0) dX11_init_81 rfl rfl ?_
  obtain ⟨g39, g40, h⟩ := h
  refine gw_new_m ci6 clX11_54 it_X6 in_X6 df6 dX11_init_82 g39 (by decide) (by decide) g40 (fun x40 σ40 ex40 e40 => ?_)
  replace h := h x40 σ40 ex40 e40
  refine gw_dup_m dX11_init_85 ?_
  obtain ⟨g42, h⟩ := h
  refine gw_iC_m (bs := []) (st := [.inr x40, .inr v0]) xmX6_init lX11_56 dX11_init_86 ⟨by decide, rfl, rfl, by decide, by decide⟩ (Nat.le_of_ble_eq_true rfl) rfl rfl g42 h (kV_m (fun σ41 h n41 => ?_))
  obtain ⟨z43, h⟩ := h
  refine gw_pRF_m fX11_57 (Or.inl ⟨_, rfl⟩) rfl rfl (fun C T N hc => by cases hc; exact xfX11_57) dX11_init_89 z43 (((((((((((((((((g6.up (n_w2 e8)).up (n_w2 e11)).up (n_w2 e14)).up (n_nw e16)).up n17).up (n_w2 e20)).up (n_nw e22)).up n23).up (n_w2 e26)).up (n_nw e28)).up n29).up (n_w2 e32)).up (n_nw e34)).up n35).up (n_w2 e38)).up (n_nw e40)).up n41) (fun σ44 e44 => ?_)
  replace h := h σ44 e44
  refine gw_aload_n_m (q := 0) dX11_init_92 rfl rfl ?_
  refine gw_bipush_m (v := 10) dX11_init_93 bp_10 ?_
  refine gw_pI_m fX11_61 dX11_init_95 ((((((((((((((((((g6.up (n_w2 e8)).up (n_w2 e11)).up (n_w2 e14)).up (n_nw e16)).up n17).up (n_w2 e20)).up (n_nw e22)).up n23).up (n_w2 e26)).up (n_nw e28)).up n29).up (n_w2 e32)).up (n_nw e34)).up n35).up (n_w2 e38)).up (n_nw e40)).up n41).up (n_w2 e44)) (fun σ45 e45 => ?_)
  replace h := h σ45 e45
  refine gw_aload_n_m (q := 0) dX11_init_98 rfl rfl ?_
  refine gw_iconst_m (v := (-1)) dX11_init_99 ic_m1 ?_
  refine gw_pI_m fX11_65 dX11_init_100 (((((((((((((((((((g6.up (n_w2 e8)).up (n_w2 e11)).up (n_w2 e14)).up (n_nw e16)).up n17).up (n_w2 e20)).up (n_nw e22)).up n23).up (n_w2 e26)).up (n_nw e28)).up n29).up (n_w2 e32)).up (n_nw e34)).up n35).up (n_w2 e38)).up (n_nw e40)).up n41).up (n_w2 e44)).up (n_w1 e45)) (fun σ46 e46 => ?_)
  replace h := h σ46 e46
  refine gw_aload_n_m (q := 0) dX11_init_103 rfl rfl ?_
  refine gw_iconst_m (v := (-1)) dX11_init_104 ic_m1 ?_
  refine gw_pI_m fX11_68 dX11_init_105 ((((((((((((((((((((g6.up (n_w2 e8)).up (n_w2 e11)).up (n_w2 e14)).up (n_nw e16)).up n17).up (n_w2 e20)).up (n_nw e22)).up n23).up (n_w2 e26)).up (n_nw e28)).up n29).up (n_w2 e32)).up (n_nw e34)).up n35).up (n_w2 e38)).up (n_nw e40)).up n41).up (n_w2 e44)).up (n_w1 e45)).up (n_w1 e46)) (fun σ47 e47 => ?_)
  replace h := h σ47 e47
  exact gw_rV_m dX11_init_108 rfl (by decide) (by decide) h
