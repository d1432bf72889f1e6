set_option maxHeartbeats 4000000 in
set_option maxRecDepth 20000 in
theorem eX8_init {l : Launch} {v0 : Nat} {σ : Sg} {K : Sg → Prop} (h : v0 ≠ 0 ∧ shp (σ.1 + 1) = (13, 40) ∧ σ.1 + 1 ≤ 1000 ∧ ∀ x3 σ3, x3 = σ.1 + 1 → σ3 = nw σ → Ob σ3 v0 8 ∧ x3 ≤ σ3.1 ∧ ∀ σ6, σ6 = w2 σ3 v0 0 x3 → K σ6) : Con l mX8_init [.inr v0] σ (PV K) := by
  refine con_gw rfl (Nat.le_of_ble_eq_true rfl) ?_
  show GW l mX8_init 0 [(0, .inr v0)] [] σ 0 0 (PV K)
  refine gw_aload_n (q := 0) dX8_init_0 rfl rfl ?_
  obtain ⟨g1, h⟩ := h
  refine gw_objInit oiX8_3 oi_in oi_cd dX8_init_1 (by decide) (Nat.le_of_ble_eq_true rfl) g1 ?_
  refine gw_aload_n (q := 0) dX8_init_4 rfl rfl ?_
  refine gw_bipush (v := 40) dX8_init_5 bp_40 ?_
  obtain ⟨g2, g3, h⟩ := h
  refine gw_newi (N := 40) ac_int dX8_init_7 g2 (by decide) (by decide) (by decide) (by decide) (by decide) g3 (fun x3 σ3 ex3 e3 => ?_)
  replace h := h x3 σ3 ex3 e3
  obtain ⟨g4, h⟩ := h
  obtain ⟨z5, h⟩ := h
  refine gw_pRF fX8_9 (Or.inr ⟨_, rfl⟩) rfl rfl (fun C T N hc => by cases hc; exact xfX8_9) dX8_init_9 z5 g4 (fun σ6 e6 => ?_)
  replace h := h σ6 e6
  exact gw_rV dX8_init_12 rfl (by decide) (by decide) h
set_option maxHeartbeats 4000000 in
set_option maxRecDepth 20000 in
theorem eX8_aim {l : Launch} {v0 : Nat} {v1 : Nat} {v2 : Nat} {v3 : Int32} {v4 : Int32} {v5 : Int32} {σ : Sg} {K : Sg → Prop} (h : Ob σ v0 8 ∧ v1 ≤ σ.1 ∧ ∀ σ3, σ3 = w2 σ v0 1 v1 → v2 ≤ σ3.1 ∧ ∀ σ5, σ5 = w2 σ3 v0 2 v2 → ∀ σ6, σ6 = w1 σ5 v0 3 v3 → ∀ σ7, σ7 = w1 σ6 v0 4 v4 → ∀ σ8, σ8 = w1 σ7 v0 5 v5 → K σ8) : Con l mX8_aim [.inr v0, .inr v1, .inr v2, .inl v3, .inl v4, .inl v5] σ (PV K) := by
  refine con_gw rfl (Nat.le_of_ble_eq_true rfl) ?_
  show GW l mX8_aim 0 [(0, .inr v0), (1, .inr v1), (2, .inr v2), (3, .inl v3), (4, .inl v4), (5, .inl v5)] [] σ 0 0 (PV K)
  refine gw_aload_n (q := 0) dX8_aim_0 rfl rfl ?_
  refine gw_aload_n (q := 1) dX8_aim_1 rfl rfl ?_
  obtain ⟨g1, h⟩ := h
  obtain ⟨z2, h⟩ := h
  refine gw_pR fX8_15 dX8_aim_2 z2 g1 (fun σ3 e3 => ?_)
  replace h := h σ3 e3
  refine gw_aload_n (q := 0) dX8_aim_5 rfl rfl ?_
  refine gw_aload_n (q := 2) dX8_aim_6 rfl rfl ?_
  obtain ⟨z4, h⟩ := h
  refine gw_pR fX8_19 dX8_aim_7 z4 (g1.up (n_w2 e3)) (fun σ5 e5 => ?_)
  replace h := h σ5 e5
  refine gw_aload_n (q := 0) dX8_aim_10 rfl rfl ?_
  refine gw_iload_n (q := 3) dX8_aim_11 rfl rfl ?_
  refine gw_pI fX8_23 dX8_aim_12 ((g1.up (n_w2 e3)).up (n_w2 e5)) (fun σ6 e6 => ?_)
  replace h := h σ6 e6
  refine gw_aload_n (q := 0) dX8_aim_15 rfl rfl ?_
  refine gw_iload (q := 4) dX8_aim_16 rfl ?_
  refine gw_pI fX8_27 dX8_aim_18 (((g1.up (n_w2 e3)).up (n_w2 e5)).up (n_w1 e6)) (fun σ7 e7 => ?_)
  replace h := h σ7 e7
  refine gw_aload_n (q := 0) dX8_aim_21 rfl rfl ?_
  refine gw_iload (q := 5) dX8_aim_22 rfl ?_
  refine gw_pI fX8_30 dX8_aim_24 ((((g1.up (n_w2 e3)).up (n_w2 e5)).up (n_w1 e6)).up (n_w1 e7)) (fun σ8 e8 => ?_)
  replace h := h σ8 e8
  exact gw_rV dX8_aim_27 rfl (by decide) (by decide) h
set_option maxHeartbeats 4000000 in
set_option maxRecDepth 20000 in
theorem eX8_ticks {l : Launch} {v0 : Nat} {σ : Sg} {K : Int32 → Sg → Prop} (h : Ob σ v0 8 ∧ ((¬ (σ.2.2 v0 2) = 0 → Ob σ (σ.2.2 v0 2) 9 ∧ Con l mJ9_min_7cf53 [.inl (σ.2.1 (σ.2.2 v0 2) 3), .inl 40] σ (PI (fun x4 σ4 => K x4 σ4))) ∧ ((σ.2.2 v0 2) = 0 → K 0 σ))) : Con l mX8_ticks [.inr v0] σ (PI K) := by
  refine con_gw rfl (Nat.le_of_ble_eq_true rfl) ?_
  show GW l mX8_ticks 0 [(0, .inr v0)] [] σ 0 0 (PI K)
  refine gw_aload_n (q := 0) dX8_ticks_0 rfl rfl ?_
  obtain ⟨g1, h⟩ := h
  refine gw_gR fX8_19 dX8_ticks_1 g1 ?_
  refine gw_ifnonnull (tgt := 11) dX8_ticks_4 (by decide) (fun c2 => ?_) (fun c2 => ?_)
  · replace h := h.1 c2
    refine gw_aload_n (q := 0) dX8_ticks_11 rfl rfl ?_
    refine gw_gR fX8_19 dX8_ticks_12 g1 ?_
    obtain ⟨g3, h⟩ := h
    refine gw_gI fX8_33 dX8_ticks_15 g3 ?_
    refine gw_bipush (v := 40) dX8_ticks_18 bp_40 ?_
    refine gw_sC (bs := [.inl (σ.2.1 (σ.2.2 v0 2) 3), .inl 40]) (st := []) smJ9_min_7cf53 lX8_38 dX8_ticks_20 ⟨by decide, rfl, rfl, by decide, by decide⟩ (Nat.le_of_ble_eq_true rfl) rfl rfl h (kI (fun x4 σ4 h n4 => ?_))
    exact gw_rI dX8_ticks_23 rfl (by decide) (by decide) h
  · replace h := h.2 c2
    refine gw_iconst (v := 0) dX8_ticks_7 ic_0 ?_
    refine gw_goto (tgt := 23) dX8_ticks_8 (by decide) ?_
    exact gw_rI dX8_ticks_23 rfl (by decide) (by decide) h
set_option maxHeartbeats 4000000 in
set_option maxRecDepth 20000 in
theorem eX8_drawAsTold {l : Launch} {v0 : Nat} {σ : Sg} {K : Sg → Prop} (h : Ob σ v0 8 ∧ Con l mX8_draw [.inr v0, .inl 0, .inl 0, .inl 0, .inl 0] σ (PV (fun σ1 => K σ1))) : Con l mX8_drawAsTold [.inr v0] σ (PV K) := by
  refine con_gw rfl (Nat.le_of_ble_eq_true rfl) ?_
  show GW l mX8_drawAsTold 0 [(0, .inr v0)] [] σ 0 0 (PV K)
  refine gw_aload_n (q := 0) dX8_drawAsTold_0 rfl rfl ?_
  refine gw_iconst (v := 0) dX8_drawAsTold_1 ic_0 ?_
  refine gw_iconst (v := 0) dX8_drawAsTold_2 ic_0 ?_
  refine gw_iconst (v := 0) dX8_drawAsTold_3 ic_0 ?_
  refine gw_iconst (v := 0) dX8_drawAsTold_4 ic_0 ?_
  obtain ⟨g2, h⟩ := h
  refine gw_vC (bs := [.inl 0, .inl 0, .inl 0, .inl 0]) (st := []) (vmX8_draw) lX8_44 dX8_drawAsTold_5 ⟨by decide, rfl, rfl, by decide, by decide⟩ (Nat.le_of_ble_eq_true rfl) rfl rfl g2 h (kV (fun σ1 h n1 => ?_))
  exact gw_rV dX8_drawAsTold_8 rfl (by decide) (by decide) h
set_option maxHeartbeats 4000000 in
set_option maxRecDepth 20000 in
theorem gX8_draw_6 {l : Launch} {v0 : Nat} {v1 : Int32} {v2 : Int32} {v3 : Int32} {v4 : Int32} {v5 : Int32} {v6 : Int32} {σ : Sg} {K : Sg → Prop} (h : Ob σ v0 8 ∧ Con l mX8_ticks [.inr v0] σ (PI (fun x1 σ1 => ((x1 ≤ v6 → K σ1) ∧ (¬ x1 ≤ v6 → ((40 ≤ v6 → K σ1) ∧ (¬ 40 ≤ v6 → Con l mX8_wornPlace [.inr v0, .inl v1, .inl v2, .inl v3, .inl v4, .inl v6, .inl v5] σ1 (PI (fun x5 σ5 => Con l mX8_spotWith [.inr v0, .inl v1, .inl x5, .inl v6] σ5 (PI (fun x6 σ6 => Ai σ6 (σ5.2.2 v0 0) v6 ∧ ∀ σ8, σ8 = w1 σ6 (σ5.2.2 v0 0) v6.toNatClampNeg x6 → GW l mX8_draw 6 [(0, .inr v0), (1, .inl v1), (2, .inl v2), (3, .inl v3), (4, .inl v4), (5, .inl x5), (6, .inl (v6 + 1))] [] σ8 0 0 (PV K)))))))))))) : GW l mX8_draw 6 [(0, .inr v0), (1, .inl v1), (2, .inl v2), (3, .inl v3), (4, .inl v4), (5, .inl v5), (6, .inl v6)] [] σ 0 0 (PV K) := by
  refine gw_iload (q := 6) dX8_draw_6 rfl ?_
  refine gw_aload_n (q := 0) dX8_draw_8 rfl rfl ?_
  obtain ⟨g2, h⟩ := h
  refine gw_vC (bs := []) (st := [.inl v6]) (vmX8_ticks) lX8_48 dX8_draw_9 ⟨by decide, rfl, rfl, by decide, by decide⟩ (Nat.le_of_ble_eq_true rfl) rfl rfl g2 h (kI (fun x1 σ1 h n1 => ?_))
  refine gw_icmp_ge (tgt := 59) dX8_draw_12 (by decide) (fun c3 => ?_) (fun c3 => ?_)
  · replace h := h.1 c3
    exact gw_rV dX8_draw_59 rfl (by decide) (by decide) h
  · replace h := h.2 c3
    refine gw_iload (q := 6) dX8_draw_15 rfl ?_
    refine gw_bipush (v := 40) dX8_draw_17 bp_40 ?_
    refine gw_icmp_ge (tgt := 59) dX8_draw_19 (by decide) (fun c4 => ?_) (fun c4 => ?_)
    · replace h := h.1 c4
      exact gw_rV dX8_draw_59 rfl (by decide) (by decide) h
    · replace h := h.2 c4
      refine gw_aload_n (q := 0) dX8_draw_22 rfl rfl ?_
      refine gw_iload_n (q := 1) dX8_draw_23 rfl rfl ?_
      refine gw_iload_n (q := 2) dX8_draw_24 rfl rfl ?_
      refine gw_iload_n (q := 3) dX8_draw_25 rfl rfl ?_
      refine gw_iload (q := 4) dX8_draw_26 rfl ?_
      refine gw_iload (q := 6) dX8_draw_28 rfl ?_
      refine gw_iload (q := 5) dX8_draw_30 rfl ?_
      refine gw_vC (bs := [.inl v1, .inl v2, .inl v3, .inl v4, .inl v6, .inl v5]) (st := []) (vmX8_wornPlace) lX8_51 dX8_draw_32 ⟨by decide, rfl, rfl, by decide, by decide⟩ (Nat.le_of_ble_eq_true rfl) rfl rfl (g2.up n1) h (kI (fun x5 σ5 h n5 => ?_))
      refine gw_istore (lo' := [(0, .inr v0), (1, .inl v1), (2, .inl v2), (3, .inl v3), (4, .inl v4), (5, .inl x5), (6, .inl v6)]) dX8_draw_35 (by decide) rfl ?_
      refine gw_aload_n (q := 0) dX8_draw_37 rfl rfl ?_
      refine gw_gR fX8_9 dX8_draw_38 ((g2.up n1).up n5) ?_
      refine gw_iload (q := 6) dX8_draw_41 rfl ?_
      refine gw_aload_n (q := 0) dX8_draw_43 rfl rfl ?_
      refine gw_iload_n (q := 1) dX8_draw_44 rfl rfl ?_
      refine gw_iload (q := 5) dX8_draw_45 rfl ?_
      refine gw_iload (q := 6) dX8_draw_47 rfl ?_
      refine gw_vC (bs := [.inl v1, .inl x5, .inl v6]) (st := [.inl v6, .inr (σ5.2.2 v0 0)]) (vmX8_spotWith) lX8_55 dX8_draw_49 ⟨by decide, rfl, rfl, by decide, by decide⟩ (Nat.le_of_ble_eq_true rfl) rfl rfl ((g2.up n1).up n5) h (kI (fun x6 σ6 h n6 => ?_))
      obtain ⟨g7, h⟩ := h
      refine gw_sI dX8_draw_52 g7 (fun σ8 e8 => ?_)
      replace h := h σ8 e8
      refine gw_inc (lo' := [(0, .inr v0), (1, .inl v1), (2, .inl v2), (3, .inl v3), (4, .inl v4), (5, .inl x5), (6, .inl (v6 + 1))]) (q := 6) (c := 1) dX8_draw_53 ic_1 rfl (by decide) rfl ?_
      refine gw_goto (tgt := 6) dX8_draw_56 (by decide) ?_
      exact h
set_option maxHeartbeats 4000000 in
set_option maxRecDepth 20000 in
theorem eX8_draw {l : Launch} {v0 : Nat} {v1 : Int32} {v2 : Int32} {v3 : Int32} {v4 : Int32} {σ : Sg} {K : Sg → Prop} (h : GW l mX8_draw 6 [(0, .inr v0), (1, .inl v1), (2, .inl v2), (3, .inl v3), (4, .inl v4), (5, .inl 0), (6, .inl 0)] [] σ 0 0 (PV K)) : Con l mX8_draw [.inr v0, .inl v1, .inl v2, .inl v3, .inl v4] σ (PV K) := by
  refine con_gw rfl (Nat.le_of_ble_eq_true rfl) ?_
  show GW l mX8_draw 0 [(0, .inr v0), (1, .inl v1), (2, .inl v2), (3, .inl v3), (4, .inl v4)] [] σ 0 0 (PV K)
  refine gw_iconst (v := 0) dX8_draw_0 ic_0 ?_
  refine gw_istore (lo' := [(0, .inr v0), (1, .inl v1), (2, .inl v2), (3, .inl v3), (4, .inl v4), (5, .inl 0)]) dX8_draw_1 (by decide) rfl ?_
  refine gw_iconst (v := 0) dX8_draw_3 ic_0 ?_
  refine gw_istore (lo' := [(0, .inr v0), (1, .inl v1), (2, .inl v2), (3, .inl v3), (4, .inl v4), (5, .inl 0), (6, .inl 0)]) dX8_draw_4 (by decide) rfl ?_
  exact h
set_option maxHeartbeats 4000000 in
set_option maxRecDepth 20000 in
theorem eX8_wornPlace {l : Launch} {v0 : Nat} {v1 : Int32} {v2 : Int32} {v3 : Int32} {v4 : Int32} {v5 : Int32} {v6 : Int32} {σ : Sg} {K : Int32 → Sg → Prop} (h : Ob σ v0 8 ∧ ((¬ (σ.2.2 v0 2) = 0 → Ob σ (σ.2.2 v0 2) 9 ∧ Con l mX9_wornPlace [.inr (σ.2.2 v0 2), .inl v1, .inl v2, .inl v3, .inl v4, .inl v5, .inl v6] σ (PI (fun x3 σ3 => K x3 σ3))) ∧ ((σ.2.2 v0 2) = 0 → K 0 σ))) : Con l mX8_wornPlace [.inr v0, .inl v1, .inl v2, .inl v3, .inl v4, .inl v5, .inl v6] σ (PI K) := by
  refine con_gw rfl (Nat.le_of_ble_eq_true rfl) ?_
  show GW l mX8_wornPlace 0 [(0, .inr v0), (1, .inl v1), (2, .inl v2), (3, .inl v3), (4, .inl v4), (5, .inl v5), (6, .inl v6)] [] σ 0 0 (PI K)
  refine gw_aload_n (q := 0) dX8_wornPlace_0 rfl rfl ?_
  obtain ⟨g1, h⟩ := h
  refine gw_gR fX8_19 dX8_wornPlace_1 g1 ?_
  refine gw_ifnonnull (tgt := 11) dX8_wornPlace_4 (by decide) (fun c2 => ?_) (fun c2 => ?_)
  · replace h := h.1 c2
    refine gw_aload_n (q := 0) dX8_wornPlace_11 rfl rfl ?_
    refine gw_gR fX8_19 dX8_wornPlace_12 g1 ?_
    refine gw_iload_n (q := 1) dX8_wornPlace_15 rfl rfl ?_
    refine gw_iload_n (q := 2) dX8_wornPlace_16 rfl rfl ?_
    refine gw_iload_n (q := 3) dX8_wornPlace_17 rfl rfl ?_
    refine gw_iload (q := 4) dX8_wornPlace_18 rfl ?_
    refine gw_iload (q := 5) dX8_wornPlace_20 rfl ?_
    refine gw_iload (q := 6) dX8_wornPlace_22 rfl ?_
    obtain ⟨g4, h⟩ := h
    refine gw_vC (bs := [.inl v1, .inl v2, .inl v3, .inl v4, .inl v5, .inl v6]) (st := []) (vmX9_wornPlace) lX8_59 dX8_wornPlace_24 ⟨by decide, rfl, rfl, by decide, by decide⟩ (Nat.le_of_ble_eq_true rfl) rfl rfl g4 h (kI (fun x3 σ3 h n3 => ?_))
    exact gw_rI dX8_wornPlace_27 rfl (by decide) (by decide) h
  · replace h := h.2 c2
    refine gw_iconst (v := 0) dX8_wornPlace_7 ic_0 ?_
    refine gw_goto (tgt := 27) dX8_wornPlace_8 (by decide) ?_
    exact gw_rI dX8_wornPlace_27 rfl (by decide) (by decide) h
set_option maxHeartbeats 4000000 in
set_option maxRecDepth 20000 in
theorem eX8_spotWith {l : Launch} {v0 : Nat} {v1 : Int32} {v2 : Int32} {v3 : Int32} {σ : Sg} {K : Int32 → Sg → Prop} (h : Ob σ v0 8 ∧ (((σ.2.2 v0 1) = 0 → K (-1) σ) ∧ (¬ (σ.2.2 v0 1) = 0 → ((¬ (σ.2.2 v0 2) = 0 → Ob σ (σ.2.2 v0 2) 9 ∧ Con l mX9_poseAt [.inr (σ.2.2 v0 2), .inl v3] σ (PI (fun x4 σ4 => Con l mX11_withPlace [.inl x4, .inl v1, .inl v2] σ4 (PI (fun x6 σ6 => Ob σ6 (σ6.2.2 v0 1) 0 ∧ Con l mX0_tipX [.inr (σ6.2.2 v0 1), .inl x6] σ6 (PI (fun x7 σ7 => Con l mJ9_floorDiv_7cf53 [.inl ((x7 - (σ7.2.1 v0 4)) - ((σ7.2.1 v0 3) * v3)), .inl 1000] σ7 (PI (fun x9 σ9 => Ob σ9 (σ9.2.2 v0 1) 0 ∧ Con l mX0_tipY [.inr (σ9.2.2 v0 1), .inl x6] σ9 (PI (fun x10 σ10 => Con l mJ9_floorDiv_7cf53 [.inl x10, .inl 1000] σ10 (PI (fun x12 σ12 => Con l mX2_spotAt [.inl x9, .inl x12] σ12 (PI (fun x13 σ13 => K x13 σ13))))))))))))))) ∧ ((σ.2.2 v0 2) = 0 → K (-1) σ))))) : Con l mX8_spotWith [.inr v0, .inl v1, .inl v2, .inl v3] σ (PI K) := by
  refine con_gw rfl (Nat.le_of_ble_eq_true rfl) ?_
  show GW l mX8_spotWith 0 [(0, .inr v0), (1, .inl v1), (2, .inl v2), (3, .inl v3)] [] σ 0 0 (PI K)
  refine gw_aload_n (q := 0) dX8_spotWith_0 rfl rfl ?_
  obtain ⟨g1, h⟩ := h
  refine gw_gR fX8_15 dX8_spotWith_1 g1 ?_
  refine gw_ifnull (tgt := 14) dX8_spotWith_4 (by decide) (fun c2 => ?_) (fun c2 => ?_)
  · replace h := h.1 c2
    refine gw_iconst (v := (-1)) dX8_spotWith_14 ic_m1 ?_
    exact gw_rI dX8_spotWith_15 rfl (by decide) (by decide) h
  · replace h := h.2 c2
    refine gw_aload_n (q := 0) dX8_spotWith_7 rfl rfl ?_
    refine gw_gR fX8_19 dX8_spotWith_8 g1 ?_
    refine gw_ifnonnull (tgt := 16) dX8_spotWith_11 (by decide) (fun c3 => ?_) (fun c3 => ?_)
    · replace h := h.1 c3
      refine gw_aload_n (q := 0) dX8_spotWith_16 rfl rfl ?_
      refine gw_gR fX8_19 dX8_spotWith_17 g1 ?_
      refine gw_iload_n (q := 3) dX8_spotWith_20 rfl rfl ?_
      obtain ⟨g5, h⟩ := h
      refine gw_vC (bs := [.inl v3]) (st := []) (vmX9_poseAt) lX8_60 dX8_spotWith_21 ⟨by decide, rfl, rfl, by decide, by decide⟩ (Nat.le_of_ble_eq_true rfl) rfl rfl g5 h (kI (fun x4 σ4 h n4 => ?_))
      refine gw_iload_n (q := 1) dX8_spotWith_24 rfl rfl ?_
      refine gw_iload_n (q := 2) dX8_spotWith_25 rfl rfl ?_
      refine gw_sC (bs := [.inl x4, .inl v1, .inl v2]) (st := []) smX11_withPlace lX8_64 dX8_spotWith_26 ⟨by decide, rfl, rfl, by decide, by decide⟩ (Nat.le_of_ble_eq_true rfl) rfl rfl h (kI (fun x6 σ6 h n6 => ?_))
      refine gw_istore (lo' := [(0, .inr v0), (1, .inl v1), (2, .inl v2), (3, .inl v3), (4, .inl x6)]) dX8_spotWith_29 (by decide) rfl ?_
      refine gw_aload_n (q := 0) dX8_spotWith_31 rfl rfl ?_
      refine gw_gR fX8_15 dX8_spotWith_32 ((g1.up n4).up n6) ?_
      refine gw_iload (q := 4) dX8_spotWith_35 rfl ?_
      obtain ⟨g8, h⟩ := h
      refine gw_vC (bs := [.inl x6]) (st := []) (vmX0_tipX) lX8_67 dX8_spotWith_37 ⟨by decide, rfl, rfl, by decide, by decide⟩ (Nat.le_of_ble_eq_true rfl) rfl rfl g8 h (kI (fun x7 σ7 h n7 => ?_))
      refine gw_aload_n (q := 0) dX8_spotWith_40 rfl rfl ?_
      refine gw_gI fX8_27 dX8_spotWith_41 (((g1.up n4).up n6).up n7) ?_
      refine gw_isub dX8_spotWith_44 ?_
      refine gw_aload_n (q := 0) dX8_spotWith_45 rfl rfl ?_
      refine gw_gI fX8_23 dX8_spotWith_46 (((g1.up n4).up n6).up n7) ?_
      refine gw_iload_n (q := 3) dX8_spotWith_49 rfl rfl ?_
      refine gw_imul dX8_spotWith_50 ?_
      refine gw_isub dX8_spotWith_51 ?_
      refine gw_sipush (v := 1000) dX8_spotWith_52 sp_1000 ?_
      refine gw_sC (bs := [.inl ((x7 - (σ7.2.1 v0 4)) - ((σ7.2.1 v0 3) * v3)), .inl 1000]) (st := []) smJ9_floorDiv_7cf53 lX8_72 dX8_spotWith_55 ⟨by decide, rfl, rfl, by decide, by decide⟩ (Nat.le_of_ble_eq_true rfl) rfl rfl h (kI (fun x9 σ9 h n9 => ?_))
      refine gw_istore (lo' := [(0, .inr v0), (1, .inl v1), (2, .inl v2), (3, .inl v3), (4, .inl x6), (5, .inl x9)]) dX8_spotWith_58 (by decide) rfl ?_
      refine gw_iload (q := 5) dX8_spotWith_60 rfl ?_
      refine gw_aload_n (q := 0) dX8_spotWith_62 rfl rfl ?_
      refine gw_gR fX8_15 dX8_spotWith_63 ((((g1.up n4).up n6).up n7).up n9) ?_
      refine gw_iload (q := 4) dX8_spotWith_66 rfl ?_
      obtain ⟨g11, h⟩ := h
      refine gw_vC (bs := [.inl x6]) (st := [.inl x9]) (vmX0_tipY) lX8_75 dX8_spotWith_68 ⟨by decide, rfl, rfl, by decide, by decide⟩ (Nat.le_of_ble_eq_true rfl) rfl rfl g11 h (kI (fun x10 σ10 h n10 => ?_))
      refine gw_sipush (v := 1000) dX8_spotWith_71 sp_1000 ?_
      refine gw_sC (bs := [.inl x10, .inl 1000]) (st := [.inl x9]) smJ9_floorDiv_7cf53 lX8_72 dX8_spotWith_74 ⟨by decide, rfl, rfl, by decide, by decide⟩ (Nat.le_of_ble_eq_true rfl) rfl rfl h (kI (fun x12 σ12 h n12 => ?_))
      refine gw_sC (bs := [.inl x9, .inl x12]) (st := []) smX2_spotAt lX8_78 dX8_spotWith_77 ⟨by decide, rfl, rfl, by decide, by decide⟩ (Nat.le_of_ble_eq_true rfl) rfl rfl h (kI (fun x13 σ13 h n13 => ?_))
      exact gw_rI dX8_spotWith_80 rfl (by decide) (by decide) h
    · replace h := h.2 c3
      refine gw_iconst (v := (-1)) dX8_spotWith_14 ic_m1 ?_
      exact gw_rI dX8_spotWith_15 rfl (by decide) (by decide) h
set_option maxHeartbeats 4000000 in
set_option maxRecDepth 20000 in
theorem eX8_spotAt {l : Launch} {v0 : Nat} {v1 : Int32} {σ : Sg} {K : Int32 → Sg → Prop} (h : ((v1 < 0 → K (-1) σ) ∧ (¬ v1 < 0 → ((40 ≤ v1 → K (-1) σ) ∧ (¬ 40 ≤ v1 → Ob σ v0 8 ∧ Ai σ (σ.2.2 v0 0) v1 ∧ K (σ.2.1 (σ.2.2 v0 0) v1.toNatClampNeg) σ))))) : Con l mX8_spotAt [.inr v0, .inl v1] σ (PI K) := by
  refine con_gw rfl (Nat.le_of_ble_eq_true rfl) ?_
  show GW l mX8_spotAt 0 [(0, .inr v0), (1, .inl v1)] [] σ 0 0 (PI K)
  refine gw_iload_n (q := 1) dX8_spotAt_0 rfl rfl ?_
  refine gw_if_lt (tgt := 19) dX8_spotAt_1 (by decide) (fun c1 => ?_) (fun c1 => ?_)
  · replace h := h.1 c1
    refine gw_iconst (v := (-1)) dX8_spotAt_19 ic_m1 ?_
    exact gw_rI dX8_spotAt_20 rfl (by decide) (by decide) h
  · replace h := h.2 c1
    refine gw_iload_n (q := 1) dX8_spotAt_4 rfl rfl ?_
    refine gw_bipush (v := 40) dX8_spotAt_5 bp_40 ?_
    refine gw_icmp_ge (tgt := 19) dX8_spotAt_7 (by decide) (fun c2 => ?_) (fun c2 => ?_)
    · replace h := h.1 c2
      refine gw_iconst (v := (-1)) dX8_spotAt_19 ic_m1 ?_
      exact gw_rI dX8_spotAt_20 rfl (by decide) (by decide) h
    · replace h := h.2 c2
      refine gw_aload_n (q := 0) dX8_spotAt_10 rfl rfl ?_
      obtain ⟨g3, h⟩ := h
      refine gw_gR fX8_9 dX8_spotAt_11 g3 ?_
      refine gw_iload_n (q := 1) dX8_spotAt_14 rfl rfl ?_
      obtain ⟨g4, h⟩ := h
      refine gw_aI dX8_spotAt_15 g4 ?_
      refine gw_goto (tgt := 20) dX8_spotAt_16 (by decide) ?_
      exact gw_rI dX8_spotAt_20 rfl (by decide) (by decide) h
set_option maxHeartbeats 4000000 in
set_option maxRecDepth 20000 in
theorem eX8_amountAt {l : Launch} {v0 : Nat} {v1 : Int32} {σ : Sg} {K : Int32 → Sg → Prop} (h : Ob σ v0 8 ∧ ((¬ (σ.2.2 v0 2) = 0 → Ob σ (σ.2.2 v0 2) 9 ∧ Con l mX9_sprayAt [.inr (σ.2.2 v0 2), .inl v1] σ (PI (fun x3 σ3 => K ((x3 * (σ3.2.1 v0 5)) / 10) σ3))) ∧ ((σ.2.2 v0 2) = 0 → K 0 σ))) : Con l mX8_amountAt [.inr v0, .inl v1] σ (PI K) := by
  refine con_gw rfl (Nat.le_of_ble_eq_true rfl) ?_
  show GW l mX8_amountAt 0 [(0, .inr v0), (1, .inl v1)] [] σ 0 0 (PI K)
  refine gw_aload_n (q := 0) dX8_amountAt_0 rfl rfl ?_
  obtain ⟨g1, h⟩ := h
  refine gw_gR fX8_19 dX8_amountAt_1 g1 ?_
  refine gw_ifnonnull (tgt := 11) dX8_amountAt_4 (by decide) (fun c2 => ?_) (fun c2 => ?_)
  · replace h := h.1 c2
    refine gw_aload_n (q := 0) dX8_amountAt_11 rfl rfl ?_
    refine gw_gR fX8_19 dX8_amountAt_12 g1 ?_
    refine gw_iload_n (q := 1) dX8_amountAt_15 rfl rfl ?_
    obtain ⟨g4, h⟩ := h
    refine gw_vC (bs := [.inl v1]) (st := []) (vmX9_sprayAt) lX8_83 dX8_amountAt_16 ⟨by decide, rfl, rfl, by decide, by decide⟩ (Nat.le_of_ble_eq_true rfl) rfl rfl g4 h (kI (fun x3 σ3 h n3 => ?_))
    refine gw_aload_n (q := 0) dX8_amountAt_19 rfl rfl ?_
    refine gw_gI fX8_30 dX8_amountAt_20 (g1.up n3) ?_
    refine gw_imul dX8_amountAt_23 ?_
    refine gw_bipush (v := 10) dX8_amountAt_24 bp_10 ?_
    refine gw_idiv dX8_amountAt_26 (by decide) ?_
    exact gw_rI dX8_amountAt_27 rfl (by decide) (by decide) h
  · replace h := h.2 c2
    refine gw_iconst (v := 0) dX8_amountAt_7 ic_0 ?_
    refine gw_goto (tgt := 27) dX8_amountAt_8 (by decide) ?_
    exact gw_rI dX8_amountAt_27 rfl (by decide) (by decide) h
