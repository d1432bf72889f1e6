set_option maxHeartbeats 4000000 in
set_option maxRecDepth 20000 in
theorem eX11_met {l : Launch} {v0 : Nat} {v1 : Int32} {σ : Sg} {K : Int32 → Sg → Prop} (h : Ob σ v0 11 ∧ Ob σ (σ.2.2 v0 6) 5 ∧ Con l mX5_timeAt [.inr (σ.2.2 v0 6), .inl v1] σ (PI (fun x2 σ2 => K x2 σ2))) : Con l mX11_met [.inr v0, .inl v1] σ (PI K) := by
  refine con_gw rfl (Nat.le_of_ble_eq_true rfl) ?_
  show GW l mX11_met 0 [(0, .inr v0), (1, .inl v1)] [] σ 0 0 (PI K)
  refine gw_aload_n (q := 0) dX11_met_0 rfl rfl ?_
  obtain ⟨g1, h⟩ := h
  refine gw_gR fX11_50 dX11_met_1 g1 ?_
  refine gw_iload_n (q := 1) dX11_met_4 rfl rfl ?_
  obtain ⟨g3, h⟩ := h
  refine gw_vC (bs := [.inl v1]) (st := []) (vmX5_timeAt) lX11_254 dX11_met_5 ⟨by decide, rfl, rfl, by decide, by decide⟩ (Nat.le_of_ble_eq_true rfl) rfl rfl g3 h (kI (fun x2 σ2 h n2 => ?_))
  exact gw_rI dX11_met_8 rfl (by decide) (by decide) h
set_option maxHeartbeats 4000000 in
set_option maxRecDepth 20000 in
theorem eX11_share {l : Launch} {v0 : Nat} {v1 : Int32} {v2 : Int32} {v3 : Int32} {σ : Sg} {K : Int32 → Sg → Prop} (h : Con l mX11_isError [.inl v2] σ (PI (fun x1 σ1 => ((x1 = 0 → K (-1) σ1) ∧ (¬ x1 = 0 → Con l mX11_within [.inl v3, .inl 0, .inl 1] σ1 (PI (fun x3 σ3 => ((x3 = 0 → K (-1) σ3) ∧ (¬ x3 = 0 → Ob σ3 v0 11 ∧ Ob σ3 (σ3.2.2 v0 0) 7 ∧ Con l mX7_canShare [.inr (σ3.2.2 v0 0), .inl v1] σ3 (PI (fun x6 σ6 => ((¬ x6 = 0 → Con l mX11_readyFollower [.inr v0] σ6 (PR (fun x9 σ9 => Ob σ9 (σ6.2.2 v0 7) 6 ∧ Con l mX6_search [.inr (σ6.2.2 v0 7), .inr (σ6.2.2 v0 0), .inr x9, .inl v1, .inl v2] σ9 (PV (fun σ10 => ((¬ v3 = 0 → Ob σ10 (σ10.2.2 v0 7) 6 ∧ K (σ10.2.1 (σ10.2.2 v0 7) 9) σ10) ∧ (v3 = 0 → Ob σ10 (σ10.2.2 v0 7) 6 ∧ K (σ10.2.1 (σ10.2.2 v0 7) 8) σ10))))))) ∧ (x6 = 0 → K (-1) σ6))))))))))))) : Con l mX11_share [.inr v0, .inl v1, .inl v2, .inl v3] σ (PI K) := by
  refine con_gw rfl (Nat.le_of_ble_eq_true rfl) ?_
  show GW l mX11_share 0 [(0, .inr v0), (1, .inl v1), (2, .inl v2), (3, .inl v3)] [] σ 0 0 (PI K)
  refine gw_iload_n (q := 2) dX11_share_0 rfl rfl ?_
  refine gw_sC (bs := [.inl v2]) (st := []) smX11_isError lX11_230 dX11_share_1 ⟨by decide, rfl, rfl, by decide, by decide⟩ (Nat.le_of_ble_eq_true rfl) rfl rfl h (kI (fun x1 σ1 h n1 => ?_))
  refine gw_if_eq (tgt := 27) dX11_share_4 (by decide) (fun c2 => ?_) (fun c2 => ?_)
  · replace h := h.1 c2
    refine gw_iconst (v := (-1)) dX11_share_27 ic_m1 ?_
    exact gw_rI dX11_share_28 rfl (by decide) (by decide) h
  · replace h := h.2 c2
    refine gw_iload_n (q := 3) dX11_share_7 rfl rfl ?_
    refine gw_iconst (v := 0) dX11_share_8 ic_0 ?_
    refine gw_iconst (v := 1) dX11_share_9 ic_1 ?_
    refine gw_sC (bs := [.inl v3, .inl 0, .inl 1]) (st := []) smX11_within lX11_94 dX11_share_10 ⟨by decide, rfl, rfl, by decide, by decide⟩ (Nat.le_of_ble_eq_true rfl) rfl rfl h (kI (fun x3 σ3 h n3 => ?_))
    refine gw_if_eq (tgt := 27) dX11_share_13 (by decide) (fun c4 => ?_) (fun c4 => ?_)
    · replace h := h.1 c4
      refine gw_iconst (v := (-1)) dX11_share_27 ic_m1 ?_
      exact gw_rI dX11_share_28 rfl (by decide) (by decide) h
    · replace h := h.2 c4
      refine gw_aload_n (q := 0) dX11_share_16 rfl rfl ?_
      obtain ⟨g5, h⟩ := h
      refine gw_gR fX11_20 dX11_share_17 g5 ?_
      refine gw_iload_n (q := 1) dX11_share_20 rfl rfl ?_
      obtain ⟨g7, h⟩ := h
      refine gw_vC (bs := [.inl v1]) (st := []) (vmX7_canShare) lX11_257 dX11_share_21 ⟨by decide, rfl, rfl, by decide, by decide⟩ (Nat.le_of_ble_eq_true rfl) rfl rfl g7 h (kI (fun x6 σ6 h n6 => ?_))
      refine gw_if_ne (tgt := 29) dX11_share_24 (by decide) (fun c8 => ?_) (fun c8 => ?_)
      · replace h := h.1 c8
        refine gw_aload_n (q := 0) dX11_share_29 rfl rfl ?_
        refine gw_gR fX11_57 dX11_share_30 (g5.up n6) ?_
        refine gw_aload_n (q := 0) dX11_share_33 rfl rfl ?_
        refine gw_gR fX11_20 dX11_share_34 (g5.up n6) ?_
        refine gw_aload_n (q := 0) dX11_share_37 rfl rfl ?_
        refine gw_vC (bs := []) (st := [.inr (σ6.2.2 v0 0), .inr (σ6.2.2 v0 7)]) (vmX11_readyFollower) lX11_234 dX11_share_38 ⟨by decide, rfl, rfl, by decide, by decide⟩ (Nat.le_of_ble_eq_true rfl) rfl rfl (g5.up n6) h (kR (fun x9 σ9 h n9 => ?_))
        refine gw_iload_n (q := 1) dX11_share_41 rfl rfl ?_
        refine gw_iload_n (q := 2) dX11_share_42 rfl rfl ?_
        obtain ⟨g11, h⟩ := h
        refine gw_vC (bs := [.inr (σ6.2.2 v0 0), .inr x9, .inl v1, .inl v2]) (st := []) (vmX6_search) lX11_260 dX11_share_43 ⟨by decide, rfl, rfl, by decide, by decide⟩ (Nat.le_of_ble_eq_true rfl) rfl rfl g11 h (kV (fun σ10 h n10 => ?_))
        refine gw_iload_n (q := 3) dX11_share_46 rfl rfl ?_
        refine gw_if_ne (tgt := 60) dX11_share_47 (by decide) (fun c12 => ?_) (fun c12 => ?_)
        · replace h := h.1 c12
          refine gw_aload_n (q := 0) dX11_share_60 rfl rfl ?_
          refine gw_gR fX11_57 dX11_share_61 (((g5.up n6).up n9).up n10) ?_
          obtain ⟨g13, h⟩ := h
          refine gw_gI fX11_266 dX11_share_64 g13 ?_
          exact gw_rI dX11_share_67 rfl (by decide) (by decide) h
        · replace h := h.2 c12
          refine gw_aload_n (q := 0) dX11_share_50 rfl rfl ?_
          refine gw_gR fX11_57 dX11_share_51 (((g5.up n6).up n9).up n10) ?_
          obtain ⟨g14, h⟩ := h
          refine gw_gI fX11_263 dX11_share_54 g14 ?_
          refine gw_goto (tgt := 67) dX11_share_57 (by decide) ?_
          exact gw_rI dX11_share_67 rfl (by decide) (by decide) h
      · replace h := h.2 c8
        refine gw_iconst (v := (-1)) dX11_share_27 ic_m1 ?_
        exact gw_rI dX11_share_28 rfl (by decide) (by decide) h
set_option maxHeartbeats 4000000 in
set_option maxRecDepth 20000 in
theorem eX11_shareN {l : Launch} {v0 : Nat} {v1 : Int32} {v2 : Int32} {v3 : Int32} {σ : Sg} {K : Int32 → Sg → Prop} (h : Con l mX11_isError [.inl v2] σ (PI (fun x1 σ1 => ((x1 = 0 → K (-1) σ1) ∧ (¬ x1 = 0 → Con l mX11_within [.inl v3, .inl 0, .inl 1] σ1 (PI (fun x3 σ3 => ((x3 = 0 → K (-1) σ3) ∧ (¬ x3 = 0 → Ob σ3 v0 11 ∧ Ob σ3 (σ3.2.2 v0 0) 7 ∧ Con l mX7_canShare [.inr (σ3.2.2 v0 0), .inl v1] σ3 (PI (fun x6 σ6 => ((¬ x6 = 0 → Con l mX11_readyFollowerN [.inr v0] σ6 (PR (fun x9 σ9 => Ob σ9 (σ6.2.2 v0 7) 6 ∧ Con l mX6_search [.inr (σ6.2.2 v0 7), .inr (σ6.2.2 v0 0), .inr x9, .inl v1, .inl v2] σ9 (PV (fun σ10 => ((¬ v3 = 0 → Ob σ10 (σ10.2.2 v0 7) 6 ∧ K (σ10.2.1 (σ10.2.2 v0 7) 9) σ10) ∧ (v3 = 0 → Ob σ10 (σ10.2.2 v0 7) 6 ∧ K (σ10.2.1 (σ10.2.2 v0 7) 8) σ10))))))) ∧ (x6 = 0 → K (-1) σ6))))))))))))) : Con l mX11_shareN [.inr v0, .inl v1, .inl v2, .inl v3] σ (PI K) := by
  refine con_gw rfl (Nat.le_of_ble_eq_true rfl) ?_
  show GW l mX11_shareN 0 [(0, .inr v0), (1, .inl v1), (2, .inl v2), (3, .inl v3)] [] σ 0 0 (PI K)
  refine gw_iload_n (q := 2) dX11_share_0 rfl rfl ?_
  refine gw_sC (bs := [.inl v2]) (st := []) smX11_isError lX11_230 dX11_share_1 ⟨by decide, rfl, rfl, by decide, by decide⟩ (Nat.le_of_ble_eq_true rfl) rfl rfl h (kI (fun x1 σ1 h n1 => ?_))
  refine gw_if_eq (tgt := 27) dX11_share_4 (by decide) (fun c2 => ?_) (fun c2 => ?_)
  · replace h := h.1 c2
    refine gw_iconst (v := (-1)) dX11_share_27 ic_m1 ?_
    exact gw_rI dX11_share_28 rfl (by decide) (by decide) h
  · replace h := h.2 c2
    refine gw_iload_n (q := 3) dX11_share_7 rfl rfl ?_
    refine gw_iconst (v := 0) dX11_share_8 ic_0 ?_
    refine gw_iconst (v := 1) dX11_share_9 ic_1 ?_
    refine gw_sC (bs := [.inl v3, .inl 0, .inl 1]) (st := []) smX11_within lX11_94 dX11_share_10 ⟨by decide, rfl, rfl, by decide, by decide⟩ (Nat.le_of_ble_eq_true rfl) rfl rfl h (kI (fun x3 σ3 h n3 => ?_))
    refine gw_if_eq (tgt := 27) dX11_share_13 (by decide) (fun c4 => ?_) (fun c4 => ?_)
    · replace h := h.1 c4
      refine gw_iconst (v := (-1)) dX11_share_27 ic_m1 ?_
      exact gw_rI dX11_share_28 rfl (by decide) (by decide) h
    · replace h := h.2 c4
      refine gw_aload_n (q := 0) dX11_share_16 rfl rfl ?_
      obtain ⟨g5, h⟩ := h
      refine gw_gR fX11_20 dX11_share_17 g5 ?_
      refine gw_iload_n (q := 1) dX11_share_20 rfl rfl ?_
      obtain ⟨g7, h⟩ := h
      refine gw_vC (bs := [.inl v1]) (st := []) (vmX7_canShare) lX11_257 dX11_share_21 ⟨by decide, rfl, rfl, by decide, by decide⟩ (Nat.le_of_ble_eq_true rfl) rfl rfl g7 h (kI (fun x6 σ6 h n6 => ?_))
      refine gw_if_ne (tgt := 29) dX11_share_24 (by decide) (fun c8 => ?_) (fun c8 => ?_)
      · replace h := h.1 c8
        refine gw_aload_n (q := 0) dX11_share_29 rfl rfl ?_
        refine gw_gR fX11_57 dX11_share_30 (g5.up n6) ?_
        refine gw_aload_n (q := 0) dX11_share_33 rfl rfl ?_
        refine gw_gR fX11_20 dX11_share_34 (g5.up n6) ?_
        refine gw_aload_n (q := 0) dX11_share_37 rfl rfl ?_
        refine gw_vC (bs := []) (st := [.inr (σ6.2.2 v0 0), .inr (σ6.2.2 v0 7)]) (vmX11_readyFollowerN) lX11_234 dX11_share_38 ⟨by decide, rfl, rfl, by decide, by decide⟩ (Nat.le_of_ble_eq_true rfl) rfl rfl (g5.up n6) h (kR (fun x9 σ9 h n9 => ?_))
        refine gw_iload_n (q := 1) dX11_share_41 rfl rfl ?_
        refine gw_iload_n (q := 2) dX11_share_42 rfl rfl ?_
        obtain ⟨g11, h⟩ := h
        refine gw_vC (bs := [.inr (σ6.2.2 v0 0), .inr x9, .inl v1, .inl v2]) (st := []) (vmX6_search) lX11_260 dX11_share_43 ⟨by decide, rfl, rfl, by decide, by decide⟩ (Nat.le_of_ble_eq_true rfl) rfl rfl g11 h (kV (fun σ10 h n10 => ?_))
        refine gw_iload_n (q := 3) dX11_share_46 rfl rfl ?_
        refine gw_if_ne (tgt := 60) dX11_share_47 (by decide) (fun c12 => ?_) (fun c12 => ?_)
        · replace h := h.1 c12
          refine gw_aload_n (q := 0) dX11_share_60 rfl rfl ?_
          refine gw_gR fX11_57 dX11_share_61 (((g5.up n6).up n9).up n10) ?_
          obtain ⟨g13, h⟩ := h
          refine gw_gI fX11_266 dX11_share_64 g13 ?_
          exact gw_rI dX11_share_67 rfl (by decide) (by decide) h
        · replace h := h.2 c12
          refine gw_aload_n (q := 0) dX11_share_50 rfl rfl ?_
          refine gw_gR fX11_57 dX11_share_51 (((g5.up n6).up n9).up n10) ?_
          obtain ⟨g14, h⟩ := h
          refine gw_gI fX11_263 dX11_share_54 g14 ?_
          refine gw_goto (tgt := 67) dX11_share_57 (by decide) ?_
          exact gw_rI dX11_share_67 rfl (by decide) (by decide) h
      · replace h := h.2 c8
        refine gw_iconst (v := (-1)) dX11_share_27 ic_m1 ?_
        exact gw_rI dX11_share_28 rfl (by decide) (by decide) h
set_option maxHeartbeats 4000000 in
set_option maxRecDepth 20000 in
theorem eX11_wear {l : Launch} {v0 : Nat} {v1 : Int32} {v2 : Int32} {v3 : Int32} {v4 : Int32} {v5 : Int32} {σ : Sg} {K : Int32 → Sg → Prop} (h : Ob σ v0 11 ∧ Ob σ (σ.2.2 v0 0) 7 ∧ Con l mX7_armAt [.inr (σ.2.2 v0 0), .inl v1] σ (PR (fun x2 σ2 => ((x2 = 0 → K 0 σ2) ∧ (¬ x2 = 0 → Ob σ2 x2 0 ∧ Con l mX11_within [.inl v2, .inl 0, .inl ((σ2.2.1 x2 6) - 1)] σ2 (PI (fun x6 σ6 => ((x6 = 0 → K 0 σ6) ∧ (¬ x6 = 0 → Con l mX11_within [.inl v3, .inl 0, .inl 1] σ6 (PI (fun x8 σ8 => ((¬ x8 = 0 → Con l mX11_within [.inl v4, .inl 0, .inl 3] σ8 (PI (fun x10 σ10 => ((x10 = 0 → K 0 σ10) ∧ (¬ x10 = 0 → Con l mX11_within [.inl v5, .inl 0, .inl 39] σ10 (PI (fun x12 σ12 => ((¬ x12 = 0 → Con l mX0_wearOut [.inr x2, .inl v2, .inl v3, .inl v4, .inl v5] σ12 (PV (fun σ14 => K 1 σ14))) ∧ (x12 = 0 → K 0 σ12))))))))) ∧ (x8 = 0 → K 0 σ8))))))))))))) : Con l mX11_wear [.inr v0, .inl v1, .inl v2, .inl v3, .inl v4, .inl v5] σ (PI K) := by
  refine con_gw rfl (Nat.le_of_ble_eq_true rfl) ?_
  show GW l mX11_wear 0 [(0, .inr v0), (1, .inl v1), (2, .inl v2), (3, .inl v3), (4, .inl v4), (5, .inl v5)] [] σ 0 0 (PI K)
  refine gw_aload_n (q := 0) dX11_wear_0 rfl rfl ?_
  obtain ⟨g1, h⟩ := h
  refine gw_gR fX11_20 dX11_wear_1 g1 ?_
  refine gw_iload_n (q := 1) dX11_wear_4 rfl rfl ?_
  obtain ⟨g3, h⟩ := h
  refine gw_vC (bs := [.inl v1]) (st := []) (vmX7_armAt) lX11_104 dX11_wear_5 ⟨by decide, rfl, rfl, by decide, by decide⟩ (Nat.le_of_ble_eq_true rfl) rfl rfl g3 h (kR (fun x2 σ2 h n2 => ?_))
  refine gw_astore (lo' := [(0, .inr v0), (1, .inl v1), (2, .inl v2), (3, .inl v3), (4, .inl v4), (5, .inl v5), (6, .inr x2)]) dX11_wear_8 (by decide) rfl ?_
  refine gw_aload (q := 6) dX11_wear_10 rfl ?_
  refine gw_ifnull (tgt := 39) dX11_wear_12 (by decide) (fun c4 => ?_) (fun c4 => ?_)
  · replace h := h.1 c4
    refine gw_iconst (v := 0) dX11_wear_39 ic_0 ?_
    exact gw_rZ dX11_wear_40 rfl (by decide) (by decide) (by decide) h
  · replace h := h.2 c4
    refine gw_iload_n (q := 2) dX11_wear_15 rfl rfl ?_
    refine gw_iconst (v := 0) dX11_wear_16 ic_0 ?_
    refine gw_aload (q := 6) dX11_wear_17 rfl ?_
    obtain ⟨g5, h⟩ := h
    refine gw_gI fX11_121 dX11_wear_19 g5 ?_
    refine gw_iconst (v := 1) dX11_wear_22 ic_1 ?_
    refine gw_isub dX11_wear_23 ?_
    refine gw_sC (bs := [.inl v2, .inl 0, .inl ((σ2.2.1 x2 6) - 1)]) (st := []) smX11_within lX11_94 dX11_wear_24 ⟨by decide, rfl, rfl, by decide, by decide⟩ (Nat.le_of_ble_eq_true rfl) rfl rfl h (kI (fun x6 σ6 h n6 => ?_))
    refine gw_if_eq (tgt := 39) dX11_wear_27 (by decide) (fun c7 => ?_) (fun c7 => ?_)
    · replace h := h.1 c7
      refine gw_iconst (v := 0) dX11_wear_39 ic_0 ?_
      exact gw_rZ dX11_wear_40 rfl (by decide) (by decide) (by decide) h
    · replace h := h.2 c7
      refine gw_iload_n (q := 3) dX11_wear_30 rfl rfl ?_
      refine gw_iconst (v := 0) dX11_wear_31 ic_0 ?_
      refine gw_iconst (v := 1) dX11_wear_32 ic_1 ?_
      refine gw_sC (bs := [.inl v3, .inl 0, .inl 1]) (st := []) smX11_within lX11_94 dX11_wear_33 ⟨by decide, rfl, rfl, by decide, by decide⟩ (Nat.le_of_ble_eq_true rfl) rfl rfl h (kI (fun x8 σ8 h n8 => ?_))
      refine gw_if_ne (tgt := 41) dX11_wear_36 (by decide) (fun c9 => ?_) (fun c9 => ?_)
      · replace h := h.1 c9
        refine gw_iload (q := 4) dX11_wear_41 rfl ?_
        refine gw_iconst (v := 0) dX11_wear_43 ic_0 ?_
        refine gw_iconst (v := 3) dX11_wear_44 ic_3 ?_
        refine gw_sC (bs := [.inl v4, .inl 0, .inl 3]) (st := []) smX11_within lX11_94 dX11_wear_45 ⟨by decide, rfl, rfl, by decide, by decide⟩ (Nat.le_of_ble_eq_true rfl) rfl rfl h (kI (fun x10 σ10 h n10 => ?_))
        refine gw_if_eq (tgt := 62) dX11_wear_48 (by decide) (fun c11 => ?_) (fun c11 => ?_)
        · replace h := h.1 c11
          refine gw_iconst (v := 0) dX11_wear_62 ic_0 ?_
          exact gw_rZ dX11_wear_63 rfl (by decide) (by decide) (by decide) h
        · replace h := h.2 c11
          refine gw_iload (q := 5) dX11_wear_51 rfl ?_
          refine gw_iconst (v := 0) dX11_wear_53 ic_0 ?_
          refine gw_bipush (v := 39) dX11_wear_54 bp_39 ?_
          refine gw_sC (bs := [.inl v5, .inl 0, .inl 39]) (st := []) smX11_within lX11_94 dX11_wear_56 ⟨by decide, rfl, rfl, by decide, by decide⟩ (Nat.le_of_ble_eq_true rfl) rfl rfl h (kI (fun x12 σ12 h n12 => ?_))
          refine gw_if_ne (tgt := 64) dX11_wear_59 (by decide) (fun c13 => ?_) (fun c13 => ?_)
          · replace h := h.1 c13
            refine gw_aload (q := 6) dX11_wear_64 rfl ?_
            refine gw_iload_n (q := 2) dX11_wear_66 rfl rfl ?_
            refine gw_iload_n (q := 3) dX11_wear_67 rfl rfl ?_
            refine gw_iload (q := 4) dX11_wear_68 rfl ?_
            refine gw_iload (q := 5) dX11_wear_70 rfl ?_
            refine gw_vC (bs := [.inl v2, .inl v3, .inl v4, .inl v5]) (st := []) (vmX0_wearOut) lX11_269 dX11_wear_72 ⟨by decide, rfl, rfl, by decide, by decide⟩ (Nat.le_of_ble_eq_true rfl) rfl rfl ((((g5.up n6).up n8).up n10).up n12) h (kV (fun σ14 h n14 => ?_))
            refine gw_iconst (v := 1) dX11_wear_75 ic_1 ?_
            exact gw_rZ dX11_wear_76 rfl (by decide) (by decide) (by decide) h
          · replace h := h.2 c13
            refine gw_iconst (v := 0) dX11_wear_62 ic_0 ?_
            exact gw_rZ dX11_wear_63 rfl (by decide) (by decide) (by decide) h
      · replace h := h.2 c9
        refine gw_iconst (v := 0) dX11_wear_39 ic_0 ?_
        exact gw_rZ dX11_wear_40 rfl (by decide) (by decide) (by decide) h
set_option maxHeartbeats 4000000 in
set_option maxRecDepth 20000 in
theorem gX11_suspects_21 {l : Launch} {v0 : Nat} {v1 : Int32} {v2 : Int32} {v3 : Int32} {v4 : Int32} {t0 : Nat} {σ : Sg} {K : Int32 → Sg → Prop} (h : ((¬ t0 = 0 → Ob σ v0 11 ∧ Ob σ (σ.2.2 v0 5) 1 ∧ Con l mX1_search [.inr (σ.2.2 v0 5), .inr (σ.2.2 v0 4), .inr t0] σ (PV (fun σ3 => Ob σ3 (σ3.2.2 v0 5) 1 ∧ Con l mX1_tell [.inr (σ3.2.2 v0 5), .inl v4] σ3 (PI (fun x5 σ5 => K x5 σ5))))) ∧ (t0 = 0 → K (-2) σ))) : GW l mX11_suspects 21 [(0, .inr v0), (1, .inl v1), (2, .inl v2), (3, .inl v3), (4, .inl v4)] [.inr t0] σ 0 0 (PI K) := by
  refine gw_astore (lo' := [(0, .inr v0), (1, .inl v1), (2, .inl v2), (3, .inl v3), (4, .inl v4), (5, .inr t0)]) dX11_suspects_21 (by decide) rfl ?_
  refine gw_aload (q := 5) dX11_suspects_23 rfl ?_
  refine gw_ifnonnull (tgt := 31) dX11_suspects_25 (by decide) (fun c1 => ?_) (fun c1 => ?_)
  · replace h := h.1 c1
    refine gw_aload_n (q := 0) dX11_suspects_31 rfl rfl ?_
    obtain ⟨g2, h⟩ := h
    refine gw_gR fX11_43 dX11_suspects_32 g2 ?_
    refine gw_aload_n (q := 0) dX11_suspects_35 rfl rfl ?_
    refine gw_gR fX11_36 dX11_suspects_36 g2 ?_
    refine gw_aload (q := 5) dX11_suspects_39 rfl ?_
    obtain ⟨g4, h⟩ := h
    refine gw_vC (bs := [.inr (σ.2.2 v0 4), .inr t0]) (st := []) (vmX1_search) lX11_272 dX11_suspects_41 ⟨by decide, rfl, rfl, by decide, by decide⟩ (Nat.le_of_ble_eq_true rfl) rfl rfl g4 h (kV (fun σ3 h n3 => ?_))
    refine gw_aload_n (q := 0) dX11_suspects_44 rfl rfl ?_
    refine gw_gR fX11_43 dX11_suspects_45 (g2.up n3) ?_
    refine gw_iload (q := 4) dX11_suspects_48 rfl ?_
    obtain ⟨g6, h⟩ := h
    refine gw_vC (bs := [.inl v4]) (st := []) (vmX1_tell) lX11_275 dX11_suspects_50 ⟨by decide, rfl, rfl, by decide, by decide⟩ (Nat.le_of_ble_eq_true rfl) rfl rfl g6 h (kI (fun x5 σ5 h n5 => ?_))
    exact gw_rI dX11_suspects_53 rfl (by decide) (by decide) h
  · replace h := h.2 c1
    refine gw_bipush (v := (-2)) dX11_suspects_28 bp_m2 ?_
    exact gw_rI dX11_suspects_30 rfl (by decide) (by decide) h
set_option maxHeartbeats 4000000 in
set_option maxRecDepth 20000 in
theorem eX11_suspects {l : Launch} {v0 : Nat} {v1 : Int32} {v2 : Int32} {v3 : Int32} {v4 : Int32} {σ : Sg} {K : Int32 → Sg → Prop} (h : Con l mX11_within [.inl v4, .inl 0, .inl 5] σ (PI (fun x1 σ1 => ((x1 = 0 → GW l mX11_suspects 21 [(0, .inr v0), (1, .inl v1), (2, .inl v2), (3, .inl v3), (4, .inl v4)] [.inr 0] σ1 0 0 (PI K)) ∧ (¬ x1 = 0 → Ob σ1 v0 11 ∧ Con l mX11_aimed [.inr v0, .inl v1, .inl v2, .inl v3] σ1 (PR (fun x3 σ3 => GW l mX11_suspects 21 [(0, .inr v0), (1, .inl v1), (2, .inl v2), (3, .inl v3), (4, .inl v4)] [.inr x3] σ3 0 0 (PI K)))))))) : Con l mX11_suspects [.inr v0, .inl v1, .inl v2, .inl v3, .inl v4] σ (PI K) := by
  refine con_gw rfl (Nat.le_of_ble_eq_true rfl) ?_
  show GW l mX11_suspects 0 [(0, .inr v0), (1, .inl v1), (2, .inl v2), (3, .inl v3), (4, .inl v4)] [] σ 0 0 (PI K)
  refine gw_iload (q := 4) dX11_suspects_0 rfl ?_
  refine gw_iconst (v := 0) dX11_suspects_2 ic_0 ?_
  refine gw_iconst (v := 5) dX11_suspects_3 ic_5 ?_
  refine gw_sC (bs := [.inl v4, .inl 0, .inl 5]) (st := []) smX11_within lX11_94 dX11_suspects_4 ⟨by decide, rfl, rfl, by decide, by decide⟩ (Nat.le_of_ble_eq_true rfl) rfl rfl h (kI (fun x1 σ1 h n1 => ?_))
  refine gw_if_eq (tgt := 20) dX11_suspects_7 (by decide) (fun c2 => ?_) (fun c2 => ?_)
  · replace h := h.1 c2
    refine gw_null dX11_suspects_20 ?_
    exact h
  · replace h := h.2 c2
    refine gw_aload_n (q := 0) dX11_suspects_10 rfl rfl ?_
    refine gw_iload_n (q := 1) dX11_suspects_11 rfl rfl ?_
    refine gw_iload_n (q := 2) dX11_suspects_12 rfl rfl ?_
    refine gw_iload_n (q := 3) dX11_suspects_13 rfl rfl ?_
    obtain ⟨g4, h⟩ := h
    refine gw_vC (bs := [.inl v1, .inl v2, .inl v3]) (st := []) (vmX11_aimed) lX11_187 dX11_suspects_14 ⟨by decide, rfl, rfl, by decide, by decide⟩ (Nat.le_of_ble_eq_true rfl) rfl rfl g4 h (kR (fun x3 σ3 h n3 => ?_))
    refine gw_goto (tgt := 21) dX11_suspects_17 (by decide) ?_
    exact h
set_option maxHeartbeats 4000000 in
set_option maxRecDepth 20000 in
theorem eX11_anew {l : Launch} {v0 : Nat} {v1 : Int32} {v2 : Int32} {v3 : Int32} {v4 : Int32} {v5 : Int32} {σ : Sg} {K : Int32 → Sg → Prop} (h : Con l mX11_within [.inl v4, .inl 1, .inl 99] σ (PI (fun x1 σ1 => ((x1 = 0 → K (-1) σ1) ∧ (¬ x1 = 0 → Con l mX11_within [.inl v5, .inl 0, .inl 1] σ1 (PI (fun x3 σ3 => ((x3 = 0 → K (-1) σ3) ∧ (¬ x3 = 0 → Ob σ3 v0 11 ∧ Con l mX11_aimed [.inr v0, .inl v1, .inl v2, .inl v3] σ3 (PR (fun x5 σ5 => ((¬ x5 = 0 → Ob σ5 (σ5.2.2 v0 4) 8 ∧ Con l mX8_drawAsTold [.inr (σ5.2.2 v0 4)] σ5 (PV (fun σ8 => Ob σ8 (σ8.2.2 v0 3) 2 ∧ Con l mX2_findCut [.inr (σ8.2.2 v0 3), .inr (σ8.2.2 v0 4), .inl v4] σ8 (PI (fun x10 σ10 => ((¬ x10 = 0 → ((¬ v5 = 0 → Ob σ10 (σ10.2.2 v0 3) 2 ∧ K (σ10.2.1 (σ10.2.2 v0 3) 4) σ10) ∧ (v5 = 0 → Ob σ10 (σ10.2.2 v0 3) 2 ∧ K (σ10.2.1 (σ10.2.2 v0 3) 3) σ10))) ∧ (x10 = 0 → K (-2) σ10))))))) ∧ (x5 = 0 → K (-1) σ5))))))))))))) : Con l mX11_anew [.inr v0, .inl v1, .inl v2, .inl v3, .inl v4, .inl v5] σ (PI K) := by
  refine con_gw rfl (Nat.le_of_ble_eq_true rfl) ?_
  show GW l mX11_anew 0 [(0, .inr v0), (1, .inl v1), (2, .inl v2), (3, .inl v3), (4, .inl v4), (5, .inl v5)] [] σ 0 0 (PI K)
  refine gw_iload (q := 4) dX11_anew_0 rfl ?_
  refine gw_iconst (v := 1) dX11_anew_2 ic_1 ?_
  refine gw_bipush (v := 99) dX11_anew_3 bp_99 ?_
  refine gw_sC (bs := [.inl v4, .inl 1, .inl 99]) (st := []) smX11_within lX11_94 dX11_anew_5 ⟨by decide, rfl, rfl, by decide, by decide⟩ (Nat.le_of_ble_eq_true rfl) rfl rfl h (kI (fun x1 σ1 h n1 => ?_))
  refine gw_if_eq (tgt := 31) dX11_anew_8 (by decide) (fun c2 => ?_) (fun c2 => ?_)
  · replace h := h.1 c2
    refine gw_iconst (v := (-1)) dX11_anew_31 ic_m1 ?_
    exact gw_rI dX11_anew_32 rfl (by decide) (by decide) h
  · replace h := h.2 c2
    refine gw_iload (q := 5) dX11_anew_11 rfl ?_
    refine gw_iconst (v := 0) dX11_anew_13 ic_0 ?_
    refine gw_iconst (v := 1) dX11_anew_14 ic_1 ?_
    refine gw_sC (bs := [.inl v5, .inl 0, .inl 1]) (st := []) smX11_within lX11_94 dX11_anew_15 ⟨by decide, rfl, rfl, by decide, by decide⟩ (Nat.le_of_ble_eq_true rfl) rfl rfl h (kI (fun x3 σ3 h n3 => ?_))
    refine gw_if_eq (tgt := 31) dX11_anew_18 (by decide) (fun c4 => ?_) (fun c4 => ?_)
    · replace h := h.1 c4
      refine gw_iconst (v := (-1)) dX11_anew_31 ic_m1 ?_
      exact gw_rI dX11_anew_32 rfl (by decide) (by decide) h
    · replace h := h.2 c4
      refine gw_aload_n (q := 0) dX11_anew_21 rfl rfl ?_
      refine gw_iload_n (q := 1) dX11_anew_22 rfl rfl ?_
      refine gw_iload_n (q := 2) dX11_anew_23 rfl rfl ?_
      refine gw_iload_n (q := 3) dX11_anew_24 rfl rfl ?_
      obtain ⟨g6, h⟩ := h
      refine gw_vC (bs := [.inl v1, .inl v2, .inl v3]) (st := []) (vmX11_aimed) lX11_187 dX11_anew_25 ⟨by decide, rfl, rfl, by decide, by decide⟩ (Nat.le_of_ble_eq_true rfl) rfl rfl g6 h (kR (fun x5 σ5 h n5 => ?_))
      refine gw_ifnonnull (tgt := 33) dX11_anew_28 (by decide) (fun c7 => ?_) (fun c7 => ?_)
      · replace h := h.1 c7
        refine gw_aload_n (q := 0) dX11_anew_33 rfl rfl ?_
        refine gw_gR fX11_36 dX11_anew_34 (g6.up n5) ?_
        obtain ⟨g9, h⟩ := h
        refine gw_vC (bs := []) (st := []) (vmX8_drawAsTold) lX11_278 dX11_anew_37 ⟨by decide, rfl, rfl, by decide, by decide⟩ (Nat.le_of_ble_eq_true rfl) rfl rfl g9 h (kV (fun σ8 h n8 => ?_))
        refine gw_aload_n (q := 0) dX11_anew_40 rfl rfl ?_
        refine gw_gR fX11_29 dX11_anew_41 ((g6.up n5).up n8) ?_
        refine gw_aload_n (q := 0) dX11_anew_44 rfl rfl ?_
        refine gw_gR fX11_36 dX11_anew_45 ((g6.up n5).up n8) ?_
        refine gw_iload (q := 4) dX11_anew_48 rfl ?_
        obtain ⟨g11, h⟩ := h
        refine gw_vC (bs := [.inr (σ8.2.2 v0 4), .inl v4]) (st := []) (vmX2_findCut) lX11_281 dX11_anew_50 ⟨by decide, rfl, rfl, by decide, by decide⟩ (Nat.le_of_ble_eq_true rfl) rfl rfl g11 h (kI (fun x10 σ10 h n10 => ?_))
        refine gw_if_ne (tgt := 59) dX11_anew_53 (by decide) (fun c12 => ?_) (fun c12 => ?_)
        · replace h := h.1 c12
          refine gw_iload (q := 5) dX11_anew_59 rfl ?_
          refine gw_if_ne (tgt := 74) dX11_anew_61 (by decide) (fun c13 => ?_) (fun c13 => ?_)
          · replace h := h.1 c13
            refine gw_aload_n (q := 0) dX11_anew_74 rfl rfl ?_
            refine gw_gR fX11_29 dX11_anew_75 (((g6.up n5).up n8).up n10) ?_
            obtain ⟨g14, h⟩ := h
            refine gw_gI fX11_288 dX11_anew_78 g14 ?_
            exact gw_rI dX11_anew_81 rfl (by decide) (by decide) h
          · replace h := h.2 c13
            refine gw_aload_n (q := 0) dX11_anew_64 rfl rfl ?_
            refine gw_gR fX11_29 dX11_anew_65 (((g6.up n5).up n8).up n10) ?_
            obtain ⟨g15, h⟩ := h
            refine gw_gI fX11_285 dX11_anew_68 g15 ?_
            refine gw_goto (tgt := 81) dX11_anew_71 (by decide) ?_
            exact gw_rI dX11_anew_81 rfl (by decide) (by decide) h
        · replace h := h.2 c12
          refine gw_bipush (v := (-2)) dX11_anew_56 bp_m2 ?_
          exact gw_rI dX11_anew_58 rfl (by decide) (by decide) h
      · replace h := h.2 c7
        refine gw_iconst (v := (-1)) dX11_anew_31 ic_m1 ?_
        exact gw_rI dX11_anew_32 rfl (by decide) (by decide) h
set_option maxHeartbeats 4000000 in
set_option maxRecDepth 20000 in
theorem gX11_apart_50 {l : Launch} {v0 : Nat} {v1 : Int32} {v2 : Int32} {v3 : Int32} {v4 : Nat} {v5 : Nat} {v6 : Int32} {v7 : Int32} {v8 : Int32} {σ : Sg} {K : Int32 → Sg → Prop} (h : Ob σ v4 9 ∧ (((σ.2.1 v4 3) ≤ v8 → ((¬ v3 = 0 → K v7 σ) ∧ (v3 = 0 → K v6 σ))) ∧ (¬ (σ.2.1 v4 3) ≤ v8 → Ob σ v5 9 ∧ (((σ.2.1 v5 3) ≤ v8 → ((¬ v3 = 0 → K v7 σ) ∧ (v3 = 0 → K v6 σ))) ∧ (¬ (σ.2.1 v5 3) ≤ v8 → Ob σ v0 11 ∧ Con l mX11_tipsApart [.inr v0, .inr v4, .inr v5, .inl v8] σ (PI (fun x7 σ7 => ((x7 ≤ v6 → GW l mX11_apart 50 [(0, .inr v0), (1, .inl v1), (2, .inl v2), (3, .inl v3), (4, .inr v4), (5, .inr v5), (6, .inl v6), (7, .inl v7), (8, .inl (v8 + 1))] [] σ7 0 0 (PI K)) ∧ (¬ x7 ≤ v6 → GW l mX11_apart 50 [(0, .inr v0), (1, .inl v1), (2, .inl v2), (3, .inl v3), (4, .inr v4), (5, .inr v5), (6, .inl x7), (7, .inl v8), (8, .inl (v8 + 1))] [] σ7 0 0 (PI K)))))))))) : GW l mX11_apart 50 [(0, .inr v0), (1, .inl v1), (2, .inl v2), (3, .inl v3), (4, .inr v4), (5, .inr v5), (6, .inl v6), (7, .inl v7), (8, .inl v8)] [] σ 0 0 (PI K) := by
  refine gw_iload (q := 8) dX11_apart_50 rfl ?_
  refine gw_aload (q := 4) dX11_apart_52 rfl ?_
  obtain ⟨g1, h⟩ := h
  refine gw_gI fX11_147 dX11_apart_54 g1 ?_
  refine gw_icmp_ge (tgt := 103) dX11_apart_57 (by decide) (fun c2 => ?_) (fun c2 => ?_)
  · replace h := h.1 c2
    refine gw_iload_n (q := 3) dX11_apart_103 rfl rfl ?_
    refine gw_if_ne (tgt := 112) dX11_apart_104 (by decide) (fun c3 => ?_) (fun c3 => ?_)
    · replace h := h.1 c3
      refine gw_iload (q := 7) dX11_apart_112 rfl ?_
      exact gw_rI dX11_apart_114 rfl (by decide) (by decide) h
    · replace h := h.2 c3
      refine gw_iload (q := 6) dX11_apart_107 rfl ?_
      refine gw_goto (tgt := 114) dX11_apart_109 (by decide) ?_
      exact gw_rI dX11_apart_114 rfl (by decide) (by decide) h
  · replace h := h.2 c2
    refine gw_iload (q := 8) dX11_apart_60 rfl ?_
    refine gw_aload (q := 5) dX11_apart_62 rfl ?_
    obtain ⟨g4, h⟩ := h
    refine gw_gI fX11_147 dX11_apart_64 g4 ?_
    refine gw_icmp_ge (tgt := 103) dX11_apart_67 (by decide) (fun c5 => ?_) (fun c5 => ?_)
    · replace h := h.1 c5
      refine gw_iload_n (q := 3) dX11_apart_103 rfl rfl ?_
      refine gw_if_ne (tgt := 112) dX11_apart_104 (by decide) (fun c6 => ?_) (fun c6 => ?_)
      · replace h := h.1 c6
        refine gw_iload (q := 7) dX11_apart_112 rfl ?_
        exact gw_rI dX11_apart_114 rfl (by decide) (by decide) h
      · replace h := h.2 c6
        refine gw_iload (q := 6) dX11_apart_107 rfl ?_
        refine gw_goto (tgt := 114) dX11_apart_109 (by decide) ?_
        exact gw_rI dX11_apart_114 rfl (by decide) (by decide) h
    · replace h := h.2 c5
      refine gw_aload_n (q := 0) dX11_apart_70 rfl rfl ?_
      refine gw_aload (q := 4) dX11_apart_71 rfl ?_
      refine gw_aload (q := 5) dX11_apart_73 rfl ?_
      refine gw_iload (q := 8) dX11_apart_75 rfl ?_
      obtain ⟨g8, h⟩ := h
      refine gw_vC (bs := [.inr v4, .inr v5, .inl v8]) (st := []) (vmX11_tipsApart) lX11_291 dX11_apart_77 ⟨by decide, rfl, rfl, by decide, by decide⟩ (Nat.le_of_ble_eq_true rfl) rfl rfl g8 h (kI (fun x7 σ7 h n7 => ?_))
      refine gw_istore (lo' := [(0, .inr v0), (1, .inl v1), (2, .inl v2), (3, .inl v3), (4, .inr v4), (5, .inr v5), (6, .inl v6), (7, .inl v7), (8, .inl v8), (9, .inl x7)]) dX11_apart_80 (by decide) rfl ?_
      refine gw_iload (q := 9) dX11_apart_82 rfl ?_
      refine gw_iload (q := 6) dX11_apart_84 rfl ?_
      refine gw_icmp_le (tgt := 97) dX11_apart_86 (by decide) (fun c9 => ?_) (fun c9 => ?_)
      · replace h := h.1 c9
        refine gw_inc (lo' := [(0, .inr v0), (1, .inl v1), (2, .inl v2), (3, .inl v3), (4, .inr v4), (5, .inr v5), (6, .inl v6), (7, .inl v7), (8, .inl (v8 + 1)), (9, .inl x7)]) (q := 8) (c := 1) dX11_apart_97 ic_1 rfl (by decide) rfl ?_
        refine gw_goto (tgt := 50) dX11_apart_100 (by decide) ?_
        refine gw_pick [0, 1, 2, 3, 4, 5, 6, 7, 8] rfl ?_
        exact h
      · replace h := h.2 c9
        refine gw_iload (q := 9) dX11_apart_89 rfl ?_
        refine gw_istore (lo' := [(0, .inr v0), (1, .inl v1), (2, .inl v2), (3, .inl v3), (4, .inr v4), (5, .inr v5), (6, .inl x7), (7, .inl v7), (8, .inl v8), (9, .inl x7)]) dX11_apart_91 (by decide) rfl ?_
        refine gw_iload (q := 8) dX11_apart_93 rfl ?_
        refine gw_istore (lo' := [(0, .inr v0), (1, .inl v1), (2, .inl v2), (3, .inl v3), (4, .inr v4), (5, .inr v5), (6, .inl x7), (7, .inl v8), (8, .inl v8), (9, .inl x7)]) dX11_apart_95 (by decide) rfl ?_
        refine gw_inc (lo' := [(0, .inr v0), (1, .inl v1), (2, .inl v2), (3, .inl v3), (4, .inr v4), (5, .inr v5), (6, .inl x7), (7, .inl v8), (8, .inl (v8 + 1)), (9, .inl x7)]) (q := 8) (c := 1) dX11_apart_97 ic_1 rfl (by decide) rfl ?_
        refine gw_goto (tgt := 50) dX11_apart_100 (by decide) ?_
        refine gw_pick [0, 1, 2, 3, 4, 5, 6, 7, 8] rfl ?_
        exact h
set_option maxHeartbeats 4000000 in
set_option maxRecDepth 20000 in
theorem eX11_apart {l : Launch} {v0 : Nat} {v1 : Int32} {v2 : Int32} {v3 : Int32} {σ : Sg} {K : Int32 → Sg → Prop} (h : Ob σ v0 11 ∧ Ob σ (σ.2.2 v0 0) 7 ∧ Con l mX7_tapeAt [.inr (σ.2.2 v0 0), .inl v1] σ (PR (fun x2 σ2 => Ob σ2 (σ2.2.2 v0 0) 7 ∧ Con l mX7_tapeAt [.inr (σ2.2.2 v0 0), .inl v2] σ2 (PR (fun x4 σ4 => ((x2 = 0 → K (-1) σ4) ∧ (¬ x2 = 0 → ((x4 = 0 → K (-1) σ4) ∧ (¬ x4 = 0 → Con l mX11_within [.inl v3, .inl 0, .inl 1] σ4 (PI (fun x8 σ8 => ((¬ x8 = 0 → GW l mX11_apart 50 [(0, .inr v0), (1, .inl v1), (2, .inl v2), (3, .inl v3), (4, .inr x2), (5, .inr x4), (6, .inl (-1)), (7, .inl (-1)), (8, .inl 0)] [] σ8 0 0 (PI K)) ∧ (x8 = 0 → K (-1) σ8))))))))))))) : Con l mX11_apart [.inr v0, .inl v1, .inl v2, .inl v3] σ (PI K) := by
  refine con_gw rfl (Nat.le_of_ble_eq_true rfl) ?_
  show GW l mX11_apart 0 [(0, .inr v0), (1, .inl v1), (2, .inl v2), (3, .inl v3)] [] σ 0 0 (PI K)
  refine gw_aload_n (q := 0) dX11_apart_0 rfl rfl ?_
  obtain ⟨g1, h⟩ := h
  refine gw_gR fX11_20 dX11_apart_1 g1 ?_
  refine gw_iload_n (q := 1) dX11_apart_4 rfl rfl ?_
  obtain ⟨g3, h⟩ := h
  refine gw_vC (bs := [.inl v1]) (st := []) (vmX7_tapeAt) lX11_139 dX11_apart_5 ⟨by decide, rfl, rfl, by decide, by decide⟩ (Nat.le_of_ble_eq_true rfl) rfl rfl g3 h (kR (fun x2 σ2 h n2 => ?_))
  refine gw_astore (lo' := [(0, .inr v0), (1, .inl v1), (2, .inl v2), (3, .inl v3), (4, .inr x2)]) dX11_apart_8 (by decide) rfl ?_
  refine gw_aload_n (q := 0) dX11_apart_10 rfl rfl ?_
  refine gw_gR fX11_20 dX11_apart_11 (g1.up n2) ?_
  refine gw_iload_n (q := 2) dX11_apart_14 rfl rfl ?_
  obtain ⟨g5, h⟩ := h
  refine gw_vC (bs := [.inl v2]) (st := []) (vmX7_tapeAt) lX11_139 dX11_apart_15 ⟨by decide, rfl, rfl, by decide, by decide⟩ (Nat.le_of_ble_eq_true rfl) rfl rfl g5 h (kR (fun x4 σ4 h n4 => ?_))
  refine gw_astore (lo' := [(0, .inr v0), (1, .inl v1), (2, .inl v2), (3, .inl v3), (4, .inr x2), (5, .inr x4)]) dX11_apart_18 (by decide) rfl ?_
  refine gw_aload (q := 4) dX11_apart_20 rfl ?_
  refine gw_ifnull (tgt := 39) dX11_apart_22 (by decide) (fun c6 => ?_) (fun c6 => ?_)
  · replace h := h.1 c6
    refine gw_iconst (v := (-1)) dX11_apart_39 ic_m1 ?_
    exact gw_rI dX11_apart_40 rfl (by decide) (by decide) h
  · replace h := h.2 c6
    refine gw_aload (q := 5) dX11_apart_25 rfl ?_
    refine gw_ifnull (tgt := 39) dX11_apart_27 (by decide) (fun c7 => ?_) (fun c7 => ?_)
    · replace h := h.1 c7
      refine gw_iconst (v := (-1)) dX11_apart_39 ic_m1 ?_
      exact gw_rI dX11_apart_40 rfl (by decide) (by decide) h
    · replace h := h.2 c7
      refine gw_iload_n (q := 3) dX11_apart_30 rfl rfl ?_
      refine gw_iconst (v := 0) dX11_apart_31 ic_0 ?_
      refine gw_iconst (v := 1) dX11_apart_32 ic_1 ?_
      refine gw_sC (bs := [.inl v3, .inl 0, .inl 1]) (st := []) smX11_within lX11_94 dX11_apart_33 ⟨by decide, rfl, rfl, by decide, by decide⟩ (Nat.le_of_ble_eq_true rfl) rfl rfl h (kI (fun x8 σ8 h n8 => ?_))
      refine gw_if_ne (tgt := 41) dX11_apart_36 (by decide) (fun c9 => ?_) (fun c9 => ?_)
      · replace h := h.1 c9
        refine gw_iconst (v := (-1)) dX11_apart_41 ic_m1 ?_
        refine gw_istore (lo' := [(0, .inr v0), (1, .inl v1), (2, .inl v2), (3, .inl v3), (4, .inr x2), (5, .inr x4), (6, .inl (-1))]) dX11_apart_42 (by decide) rfl ?_
        refine gw_iconst (v := (-1)) dX11_apart_44 ic_m1 ?_
        refine gw_istore (lo' := [(0, .inr v0), (1, .inl v1), (2, .inl v2), (3, .inl v3), (4, .inr x2), (5, .inr x4), (6, .inl (-1)), (7, .inl (-1))]) dX11_apart_45 (by decide) rfl ?_
        refine gw_iconst (v := 0) dX11_apart_47 ic_0 ?_
        refine gw_istore (lo' := [(0, .inr v0), (1, .inl v1), (2, .inl v2), (3, .inl v3), (4, .inr x2), (5, .inr x4), (6, .inl (-1)), (7, .inl (-1)), (8, .inl 0)]) dX11_apart_48 (by decide) rfl ?_
        exact h
      · replace h := h.2 c9
        refine gw_iconst (v := (-1)) dX11_apart_39 ic_m1 ?_
        exact gw_rI dX11_apart_40 rfl (by decide) (by decide) h
set_option maxHeartbeats 4000000 in
set_option maxRecDepth 20000 in
theorem eX11_count {l : Launch} {v0 : Nat} {v1 : Int32} {σ : Sg} {K : Int32 → Sg → Prop} (h : ((v1.toInt < 0 ∨ 5 < v1.toInt → K (-1) σ) ∧ (v1.toInt = 0 → Ob σ v0 11 ∧ Ob σ (σ.2.2 v0 0) 7 ∧ K (σ.2.1 (σ.2.2 v0 0) 2) σ) ∧ (v1.toInt = 1 → Ob σ v0 11 ∧ Ob σ (σ.2.2 v0 0) 7 ∧ K (σ.2.1 (σ.2.2 v0 0) 3) σ) ∧ (v1.toInt = 2 → Ob σ v0 11 ∧ Ob σ (σ.2.2 v0 0) 7 ∧ Con l mX7_allTicks [.inr (σ.2.2 v0 0)] σ (PI (fun x6 σ6 => K x6 σ6))) ∧ (v1.toInt = 3 → Ob σ v0 11 ∧ Ob σ (σ.2.2 v0 3) 2 ∧ Con l mX2_measure [.inr (σ.2.2 v0 3), .inl 0, .inl 0, .inl 15, .inl 15, .inl 2] σ (PI (fun x9 σ9 => K x9 σ9))) ∧ (v1.toInt = 4 → Ob σ v0 11 ∧ Ob σ (σ.2.2 v0 3) 2 ∧ Con l mX2_painted [.inr (σ.2.2 v0 3)] σ (PI (fun x12 σ12 => K x12 σ12))) ∧ (v1.toInt = 5 → Ob σ v0 11 ∧ K (σ.2.1 v0 9) σ))) : Con l mX11_count [.inr v0, .inl v1] σ (PI K) := by
  refine con_gw rfl (Nat.le_of_ble_eq_true rfl) ?_
  show GW l mX11_count 0 [(0, .inr v0), (1, .inl v1)] [] σ 0 0 (PI K)
  refine gw_iload_n (q := 1) dX11_count_0 rfl rfl ?_
  refine gw_tab dX11_count_1 rfl (fun c => ?_) (fun k hk hx => ?_)
  · refine ⟨92, by decide, ?_⟩
    replace h := h.1 c
    refine gw_iconst (v := (-1)) dX11_count_92 ic_m1 ?_
    exact gw_rI dX11_count_93 rfl (by decide) (by decide) h
  · match k, hk, hx with
    | 0, _, hx =>
      refine ⟨39, 40, rfl, by decide, ?_⟩
      replace h := h.2.1 hx
      refine gw_aload_n (q := 0) dX11_count_40 rfl rfl ?_
      obtain ⟨g1, h⟩ := h
      refine gw_gR fX11_20 dX11_count_41 g1 ?_
      obtain ⟨g2, h⟩ := h
      refine gw_gI fX11_295 dX11_count_44 g2 ?_
      exact gw_rI dX11_count_47 rfl (by decide) (by decide) h
    | 1, _, hx =>
      refine ⟨47, 48, rfl, by decide, ?_⟩
      replace h := h.2.2.1 hx
      refine gw_aload_n (q := 0) dX11_count_48 rfl rfl ?_
      obtain ⟨g3, h⟩ := h
      refine gw_gR fX11_20 dX11_count_49 g3 ?_
      obtain ⟨g4, h⟩ := h
      refine gw_gI fX11_298 dX11_count_52 g4 ?_
      exact gw_rI dX11_count_55 rfl (by decide) (by decide) h
    | 2, _, hx =>
      refine ⟨55, 56, rfl, by decide, ?_⟩
      replace h := h.2.2.2.1 hx
      refine gw_aload_n (q := 0) dX11_count_56 rfl rfl ?_
      obtain ⟨g5, h⟩ := h
      refine gw_gR fX11_20 dX11_count_57 g5 ?_
      obtain ⟨g7, h⟩ := h
      refine gw_vC (bs := []) (st := []) (vmX7_allTicks) lX11_301 dX11_count_60 ⟨by decide, rfl, rfl, by decide, by decide⟩ (Nat.le_of_ble_eq_true rfl) rfl rfl g7 h (kI (fun x6 σ6 h n6 => ?_))
      exact gw_rI dX11_count_63 rfl (by decide) (by decide) h
    | 3, _, hx =>
      refine ⟨63, 64, rfl, by decide, ?_⟩
      replace h := h.2.2.2.2.1 hx
      refine gw_aload_n (q := 0) dX11_count_64 rfl rfl ?_
      obtain ⟨g8, h⟩ := h
      refine gw_gR fX11_29 dX11_count_65 g8 ?_
      refine gw_iconst (v := 0) dX11_count_68 ic_0 ?_
      refine gw_iconst (v := 0) dX11_count_69 ic_0 ?_
      refine gw_bipush (v := 15) dX11_count_70 bp_15 ?_
      refine gw_bipush (v := 15) dX11_count_72 bp_15 ?_
      refine gw_iconst (v := 2) dX11_count_74 ic_2 ?_
      obtain ⟨g10, h⟩ := h
      refine gw_vC (bs := [.inl 0, .inl 0, .inl 15, .inl 15, .inl 2]) (st := []) (vmX2_measure) lX11_211 dX11_count_75 ⟨by decide, rfl, rfl, by decide, by decide⟩ (Nat.le_of_ble_eq_true rfl) rfl rfl g10 h (kI (fun x9 σ9 h n9 => ?_))
      exact gw_rI dX11_count_78 rfl (by decide) (by decide) h
    | 4, _, hx =>
      refine ⟨78, 79, rfl, by decide, ?_⟩
      replace h := h.2.2.2.2.2.1 hx
      refine gw_aload_n (q := 0) dX11_count_79 rfl rfl ?_
      obtain ⟨g11, h⟩ := h
      refine gw_gR fX11_29 dX11_count_80 g11 ?_
      obtain ⟨g13, h⟩ := h
      refine gw_vC (bs := []) (st := []) (vmX2_painted) lX11_221 dX11_count_83 ⟨by decide, rfl, rfl, by decide, by decide⟩ (Nat.le_of_ble_eq_true rfl) rfl rfl g13 h (kI (fun x12 σ12 h n12 => ?_))
      exact gw_rI dX11_count_86 rfl (by decide) (by decide) h
    | 5, _, hx =>
      refine ⟨86, 87, rfl, by decide, ?_⟩
      replace h := h.2.2.2.2.2.2 hx
      refine gw_aload_n (q := 0) dX11_count_87 rfl rfl ?_
      obtain ⟨g14, h⟩ := h
      refine gw_gI fX11_61 dX11_count_88 g14 ?_
      exact gw_rI dX11_count_91 rfl (by decide) (by decide) h
    | k + 6, hk, _ => exact absurd hk (by simp)
set_option maxHeartbeats 4000000 in
set_option maxRecDepth 20000 in
theorem eX11_aimed {l : Launch} {v0 : Nat} {v1 : Int32} {v2 : Int32} {v3 : Int32} {σ : Sg} {K : Nat → Sg → Prop} (h : Ob σ v0 11 ∧ Ob σ (σ.2.2 v0 0) 7 ∧ Con l mX7_tapeAt [.inr (σ.2.2 v0 0), .inl v1] σ (PR (fun x2 σ2 => Ob σ2 (σ2.2.2 v0 0) 7 ∧ Con l mX7_armOf [.inr (σ2.2.2 v0 0), .inr x2] σ2 (PR (fun x4 σ4 => ((x2 = 0 → K 0 σ4) ∧ (¬ x2 = 0 → ((x4 = 0 → K 0 σ4) ∧ (¬ x4 = 0 → Con l mX11_isDrift [.inl v2] σ4 (PI (fun x8 σ8 => ((x8 = 0 → K 0 σ8) ∧ (¬ x8 = 0 → Con l mX11_within [.inl v3, .inl (-20000), .inl 20000] σ8 (PI (fun x10 σ10 => ((¬ x10 = 0 → Ob σ10 (σ10.2.2 v0 4) 8 ∧ Con l mX8_aim [.inr (σ10.2.2 v0 4), .inr x4, .inr x2, .inl v2, .inl v3, .inl (σ10.2.1 v0 9)] σ10 (PV (fun σ12 => K x4 σ12))) ∧ (x10 = 0 → K 0 σ10))))))))))))))))) : Con l mX11_aimed [.inr v0, .inl v1, .inl v2, .inl v3] σ (PR K) := by
  refine con_gw rfl (Nat.le_of_ble_eq_true rfl) ?_
  show GW l mX11_aimed 0 [(0, .inr v0), (1, .inl v1), (2, .inl v2), (3, .inl v3)] [] σ 0 0 (PR K)
  refine gw_aload_n (q := 0) dX11_aimed_0 rfl rfl ?_
  obtain ⟨g1, h⟩ := h
  refine gw_gR fX11_20 dX11_aimed_1 g1 ?_
  refine gw_iload_n (q := 1) dX11_aimed_4 rfl rfl ?_
  obtain ⟨g3, h⟩ := h
  refine gw_vC (bs := [.inl v1]) (st := []) (vmX7_tapeAt) lX11_139 dX11_aimed_5 ⟨by decide, rfl, rfl, by decide, by decide⟩ (Nat.le_of_ble_eq_true rfl) rfl rfl g3 h (kR (fun x2 σ2 h n2 => ?_))
  refine gw_astore (lo' := [(0, .inr v0), (1, .inl v1), (2, .inl v2), (3, .inl v3), (4, .inr x2)]) dX11_aimed_8 (by decide) rfl ?_
  refine gw_aload_n (q := 0) dX11_aimed_10 rfl rfl ?_
  refine gw_gR fX11_20 dX11_aimed_11 (g1.up n2) ?_
  refine gw_aload (q := 4) dX11_aimed_14 rfl ?_
  obtain ⟨g5, h⟩ := h
  refine gw_vC (bs := [.inr x2]) (st := []) (vmX7_armOf) lX11_143 dX11_aimed_16 ⟨by decide, rfl, rfl, by decide, by decide⟩ (Nat.le_of_ble_eq_true rfl) rfl rfl g5 h (kR (fun x4 σ4 h n4 => ?_))
  refine gw_astore (lo' := [(0, .inr v0), (1, .inl v1), (2, .inl v2), (3, .inl v3), (4, .inr x2), (5, .inr x4)]) dX11_aimed_19 (by decide) rfl ?_
  refine gw_aload (q := 4) dX11_aimed_21 rfl ?_
  refine gw_ifnull (tgt := 51) dX11_aimed_23 (by decide) (fun c6 => ?_) (fun c6 => ?_)
  · replace h := h.1 c6
    refine gw_null dX11_aimed_51 ?_
    exact gw_rR dX11_aimed_52 rfl (by decide) (by decide) h
  · replace h := h.2 c6
    refine gw_aload (q := 5) dX11_aimed_26 rfl ?_
    refine gw_ifnull (tgt := 51) dX11_aimed_28 (by decide) (fun c7 => ?_) (fun c7 => ?_)
    · replace h := h.1 c7
      refine gw_null dX11_aimed_51 ?_
      exact gw_rR dX11_aimed_52 rfl (by decide) (by decide) h
    · replace h := h.2 c7
      refine gw_iload_n (q := 2) dX11_aimed_31 rfl rfl ?_
      refine gw_sC (bs := [.inl v2]) (st := []) smX11_isDrift lX11_227 dX11_aimed_32 ⟨by decide, rfl, rfl, by decide, by decide⟩ (Nat.le_of_ble_eq_true rfl) rfl rfl h (kI (fun x8 σ8 h n8 => ?_))
      refine gw_if_eq (tgt := 51) dX11_aimed_35 (by decide) (fun c9 => ?_) (fun c9 => ?_)
      · replace h := h.1 c9
        refine gw_null dX11_aimed_51 ?_
        exact gw_rR dX11_aimed_52 rfl (by decide) (by decide) h
      · replace h := h.2 c9
        refine gw_iload_n (q := 3) dX11_aimed_38 rfl rfl ?_
        refine gw_sipush (v := (-20000)) dX11_aimed_39 sp_m20000 ?_
        refine gw_sipush (v := 20000) dX11_aimed_42 sp_20000 ?_
        refine gw_sC (bs := [.inl v3, .inl (-20000), .inl 20000]) (st := []) smX11_within lX11_94 dX11_aimed_45 ⟨by decide, rfl, rfl, by decide, by decide⟩ (Nat.le_of_ble_eq_true rfl) rfl rfl h (kI (fun x10 σ10 h n10 => ?_))
        refine gw_if_ne (tgt := 53) dX11_aimed_48 (by decide) (fun c11 => ?_) (fun c11 => ?_)
        · replace h := h.1 c11
          refine gw_aload_n (q := 0) dX11_aimed_53 rfl rfl ?_
          refine gw_gR fX11_36 dX11_aimed_54 ((((g1.up n2).up n4).up n8).up n10) ?_
          refine gw_aload (q := 5) dX11_aimed_57 rfl ?_
          refine gw_aload (q := 4) dX11_aimed_59 rfl ?_
          refine gw_iload_n (q := 2) dX11_aimed_61 rfl rfl ?_
          refine gw_iload_n (q := 3) dX11_aimed_62 rfl rfl ?_
          refine gw_aload_n (q := 0) dX11_aimed_63 rfl rfl ?_
          refine gw_gI fX11_61 dX11_aimed_64 ((((g1.up n2).up n4).up n8).up n10) ?_
          obtain ⟨g13, h⟩ := h
          refine gw_vC (bs := [.inr x4, .inr x2, .inl v2, .inl v3, .inl (σ10.2.1 v0 9)]) (st := []) (vmX8_aim) lX11_304 dX11_aimed_67 ⟨by decide, rfl, rfl, by decide, by decide⟩ (Nat.le_of_ble_eq_true rfl) rfl rfl g13 h (kV (fun σ12 h n12 => ?_))
          refine gw_aload (q := 5) dX11_aimed_70 rfl ?_
          exact gw_rR dX11_aimed_72 rfl (by decide) (by decide) h
        · replace h := h.2 c11
          refine gw_null dX11_aimed_51 ?_
          exact gw_rR dX11_aimed_52 rfl (by decide) (by decide) h
set_option maxHeartbeats 4000000 in
set_option maxRecDepth 20000 in
theorem eX11_readyFollower {l : Launch} {v0 : Nat} {σ : Sg} {K : Nat → Sg → Prop} (h : Ob σ v0 11 ∧ ((¬ (σ.2.2 v0 8) = 0 → K (σ.2.2 v0 8) σ) ∧ ((σ.2.2 v0 8) = 0 → False))) : Con l mX11_readyFollower [.inr v0] σ (PR K) := by
  refine con_gw rfl (Nat.le_of_ble_eq_true rfl) ?_
  show GW l mX11_readyFollower 0 [(0, .inr v0)] [] σ 0 0 (PR K)
  refine gw_aload_n (q := 0) dX11_readyFollower_0 rfl rfl ?_
  obtain ⟨g1, h⟩ := h
  refine gw_gR fX11_308 dX11_readyFollower_1 g1 ?_
  refine gw_ifnonnull (tgt := 18) dX11_readyFollower_4 (by decide) (fun c2 => ?_) (fun c2 => ?_)
  · replace h := h.1 c2
    refine gw_aload_n (q := 0) dX11_readyFollower_18 rfl rfl ?_
    refine gw_gR fX11_308 dX11_readyFollower_19 g1 ?_
    exact gw_rR dX11_readyFollower_22 rfl (by decide) (by decide) h
  · replace h := h.2 c2
    refine gw_aload_n (q := 0) dX11_readyFollower_7 rfl rfl ?_
    exact h.elim
set_option maxHeartbeats 4000000 in
set_option maxRecDepth 20000 in
theorem eX11_readyFollowerN {l : Launch} {v0 : Nat} {σ : Sg} {K : Nat → Sg → Prop} (h : Ob σ v0 11 ∧ ((¬ (σ.2.2 v0 8) = 0 → K (σ.2.2 v0 8) σ) ∧ ((σ.2.2 v0 8) = 0 → (shp (σ.1 + 1)).1 = 3 ∧ σ.1 + 1 ≤ 1000 ∧ ∀ x4 σ4, x4 = σ.1 + 1 → σ4 = nw σ → x4 ≠ 0 ∧ Con l mX3_init [.inr x4] σ4 (PV (fun σ5 => x4 ≤ σ5.1 ∧ ∀ σ8, σ8 = w2 σ5 v0 8 x4 → K (σ8.2.2 v0 8) σ8))))) : Con l mX11_readyFollowerN [.inr v0] σ (PR K) := by
  refine con_gw rfl (Nat.le_of_ble_eq_true rfl) ?_
  show GW l mX11_readyFollowerN 0 [(0, .inr v0)] [] σ 0 0 (PR K)
  refine gw_aload_n (q := 0) dX11_readyFollower_0 rfl rfl ?_
  obtain ⟨g1, h⟩ := h
  refine gw_gR fX11_308 dX11_readyFollower_1 g1 ?_
  refine gw_ifnonnull (tgt := 18) dX11_readyFollower_4 (by decide) (fun c2 => ?_) (fun c2 => ?_)
  · replace h := h.1 c2
    refine gw_aload_n (q := 0) dX11_readyFollower_18 rfl rfl ?_
    refine gw_gR fX11_308 dX11_readyFollower_19 g1 ?_
    exact gw_rR dX11_readyFollower_22 rfl (by decide) (by decide) h
  · replace h := h.2 c2
    refine gw_aload_n (q := 0) dX11_readyFollower_7 rfl rfl ?_
    obtain ⟨g3, g4, h⟩ := h
    refine gw_new ci3 clX11_239 it_X3 in_X3 df3 dX11_readyFollower_8 g3 (by decide) (by decide) g4 (fun x4 σ4 ex4 e4 => ?_)
    replace h := h x4 σ4 ex4 e4
    refine gw_dup dX11_readyFollower_11 ?_
    obtain ⟨g6, h⟩ := h
    refine gw_iC (bs := []) (st := [.inr x4, .inr v0]) xmX3_init lX11_312 dX11_readyFollower_12 ⟨by decide, rfl, rfl, by decide, by decide⟩ (Nat.le_of_ble_eq_true rfl) rfl rfl g6 h (kV (fun σ5 h n5 => ?_))
    obtain ⟨z7, h⟩ := h
    refine gw_pR fX11_308 dX11_readyFollower_15 z7 ((g1.up (n_nw e4)).up n5) (fun σ8 e8 => ?_)
    replace h := h σ8 e8
    refine gw_aload_n (q := 0) dX11_readyFollower_18 rfl rfl ?_
    refine gw_gR fX11_308 dX11_readyFollower_19 (((g1.up (n_nw e4)).up n5).up (n_w2 e8)) ?_
    exact gw_rR dX11_readyFollower_22 rfl (by decide) (by decide) h
set_option maxHeartbeats 4000000 in
set_option maxRecDepth 20000 in
theorem eX11_tipsApart {l : Launch} {v0 : Nat} {v1 : Nat} {v2 : Nat} {v3 : Int32} {σ : Sg} {K : Int32 → Sg → Prop} (h : Ob σ v0 11 ∧ Ob σ (σ.2.2 v0 0) 7 ∧ Con l mX7_armOf [.inr (σ.2.2 v0 0), .inr v1] σ (PR (fun x2 σ2 => Ob σ2 (σ2.2.2 v0 0) 7 ∧ Con l mX7_armOf [.inr (σ2.2.2 v0 0), .inr v2] σ2 (PR (fun x4 σ4 => ((x2 = 0 → K 0 σ4) ∧ (¬ x2 = 0 → ((¬ x4 = 0 → Ob σ4 v1 9 ∧ Con l mX9_poseAt [.inr v1, .inl v3] σ4 (PI (fun x8 σ8 => Ob σ8 v2 9 ∧ Con l mX9_poseAt [.inr v2, .inl v3] σ8 (PI (fun x10 σ10 => Ob σ10 x2 0 ∧ Con l mX0_tipX [.inr x2, .inl x8] σ10 (PI (fun x12 σ12 => Ob σ12 x4 0 ∧ Con l mX0_tipX [.inr x4, .inl x10] σ12 (PI (fun x14 σ14 => Con l mJ9_abs_0f7a4 [.inl (x12 - x14)] σ14 (PI (fun x16 σ16 => Con l mX0_tipY [.inr x2, .inl x8] σ16 (PI (fun x17 σ17 => Con l mX0_tipY [.inr x4, .inl x10] σ17 (PI (fun x18 σ18 => Con l mJ9_abs_0f7a4 [.inl (x17 - x18)] σ18 (PI (fun x19 σ19 => Con l mJ9_max_7cf53 [.inl x16, .inl x19] σ19 (PI (fun x20 σ20 => K x20 σ20))))))))))))))))))) ∧ (x4 = 0 → K 0 σ4))))))))) : Con l mX11_tipsApart [.inr v0, .inr v1, .inr v2, .inl v3] σ (PI K) := by
  refine con_gw rfl (Nat.le_of_ble_eq_true rfl) ?_
  show GW l mX11_tipsApart 0 [(0, .inr v0), (1, .inr v1), (2, .inr v2), (3, .inl v3)] [] σ 0 0 (PI K)
  refine gw_aload_n (q := 0) dX11_tipsApart_0 rfl rfl ?_
  obtain ⟨g1, h⟩ := h
  refine gw_gR fX11_20 dX11_tipsApart_1 g1 ?_
  refine gw_aload_n (q := 1) dX11_tipsApart_4 rfl rfl ?_
  obtain ⟨g3, h⟩ := h
  refine gw_vC (bs := [.inr v1]) (st := []) (vmX7_armOf) lX11_143 dX11_tipsApart_5 ⟨by decide, rfl, rfl, by decide, by decide⟩ (Nat.le_of_ble_eq_true rfl) rfl rfl g3 h (kR (fun x2 σ2 h n2 => ?_))
  refine gw_astore (lo' := [(0, .inr v0), (1, .inr v1), (2, .inr v2), (3, .inl v3), (4, .inr x2)]) dX11_tipsApart_8 (by decide) rfl ?_
  refine gw_aload_n (q := 0) dX11_tipsApart_10 rfl rfl ?_
  refine gw_gR fX11_20 dX11_tipsApart_11 (g1.up n2) ?_
  refine gw_aload_n (q := 2) dX11_tipsApart_14 rfl rfl ?_
  obtain ⟨g5, h⟩ := h
  refine gw_vC (bs := [.inr v2]) (st := []) (vmX7_armOf) lX11_143 dX11_tipsApart_15 ⟨by decide, rfl, rfl, by decide, by decide⟩ (Nat.le_of_ble_eq_true rfl) rfl rfl g5 h (kR (fun x4 σ4 h n4 => ?_))
  refine gw_astore (lo' := [(0, .inr v0), (1, .inr v1), (2, .inr v2), (3, .inl v3), (4, .inr x2), (5, .inr x4)]) dX11_tipsApart_18 (by decide) rfl ?_
  refine gw_aload (q := 4) dX11_tipsApart_20 rfl ?_
  refine gw_ifnull (tgt := 30) dX11_tipsApart_22 (by decide) (fun c6 => ?_) (fun c6 => ?_)
  · replace h := h.1 c6
    refine gw_iconst (v := 0) dX11_tipsApart_30 ic_0 ?_
    exact gw_rI dX11_tipsApart_31 rfl (by decide) (by decide) h
  · replace h := h.2 c6
    refine gw_aload (q := 5) dX11_tipsApart_25 rfl ?_
    refine gw_ifnonnull (tgt := 32) dX11_tipsApart_27 (by decide) (fun c7 => ?_) (fun c7 => ?_)
    · replace h := h.1 c7
      refine gw_aload_n (q := 1) dX11_tipsApart_32 rfl rfl ?_
      refine gw_iload_n (q := 3) dX11_tipsApart_33 rfl rfl ?_
      obtain ⟨g9, h⟩ := h
      refine gw_vC (bs := [.inl v3]) (st := []) (vmX9_poseAt) lX11_175 dX11_tipsApart_34 ⟨by decide, rfl, rfl, by decide, by decide⟩ (Nat.le_of_ble_eq_true rfl) rfl rfl g9 h (kI (fun x8 σ8 h n8 => ?_))
      refine gw_istore (lo' := [(0, .inr v0), (1, .inr v1), (2, .inr v2), (3, .inl v3), (4, .inr x2), (5, .inr x4), (6, .inl x8)]) dX11_tipsApart_37 (by decide) rfl ?_
      refine gw_aload_n (q := 2) dX11_tipsApart_39 rfl rfl ?_
      refine gw_iload_n (q := 3) dX11_tipsApart_40 rfl rfl ?_
      obtain ⟨g11, h⟩ := h
      refine gw_vC (bs := [.inl v3]) (st := []) (vmX9_poseAt) lX11_175 dX11_tipsApart_41 ⟨by decide, rfl, rfl, by decide, by decide⟩ (Nat.le_of_ble_eq_true rfl) rfl rfl g11 h (kI (fun x10 σ10 h n10 => ?_))
      refine gw_istore (lo' := [(0, .inr v0), (1, .inr v1), (2, .inr v2), (3, .inl v3), (4, .inr x2), (5, .inr x4), (6, .inl x8), (7, .inl x10)]) dX11_tipsApart_44 (by decide) rfl ?_
      refine gw_aload (q := 4) dX11_tipsApart_46 rfl ?_
      refine gw_iload (q := 6) dX11_tipsApart_48 rfl ?_
      obtain ⟨g13, h⟩ := h
      refine gw_vC (bs := [.inl x8]) (st := []) (vmX0_tipX) lX11_178 dX11_tipsApart_50 ⟨by decide, rfl, rfl, by decide, by decide⟩ (Nat.le_of_ble_eq_true rfl) rfl rfl g13 h (kI (fun x12 σ12 h n12 => ?_))
      refine gw_aload (q := 5) dX11_tipsApart_53 rfl ?_
      refine gw_iload (q := 7) dX11_tipsApart_55 rfl ?_
      obtain ⟨g15, h⟩ := h
      refine gw_vC (bs := [.inl x10]) (st := [.inl x12]) (vmX0_tipX) lX11_178 dX11_tipsApart_57 ⟨by decide, rfl, rfl, by decide, by decide⟩ (Nat.le_of_ble_eq_true rfl) rfl rfl g15 h (kI (fun x14 σ14 h n14 => ?_))
      refine gw_isub dX11_tipsApart_60 ?_
      refine gw_sC (bs := [.inl (x12 - x14)]) (st := []) smJ9_abs_0f7a4 lX11_313 dX11_tipsApart_61 ⟨by decide, rfl, rfl, by decide, by decide⟩ (Nat.le_of_ble_eq_true rfl) rfl rfl h (kI (fun x16 σ16 h n16 => ?_))
      refine gw_aload (q := 4) dX11_tipsApart_64 rfl ?_
      refine gw_iload (q := 6) dX11_tipsApart_66 rfl ?_
      refine gw_vC (bs := [.inl x8]) (st := [.inl x16]) (vmX0_tipY) lX11_181 dX11_tipsApart_68 ⟨by decide, rfl, rfl, by decide, by decide⟩ (Nat.le_of_ble_eq_true rfl) rfl rfl (((g13.up n12).up n14).up n16) h (kI (fun x17 σ17 h n17 => ?_))
      refine gw_aload (q := 5) dX11_tipsApart_71 rfl ?_
      refine gw_iload (q := 7) dX11_tipsApart_73 rfl ?_
      refine gw_vC (bs := [.inl x10]) (st := [.inl x17, .inl x16]) (vmX0_tipY) lX11_181 dX11_tipsApart_75 ⟨by decide, rfl, rfl, by decide, by decide⟩ (Nat.le_of_ble_eq_true rfl) rfl rfl (((g15.up n14).up n16).up n17) h (kI (fun x18 σ18 h n18 => ?_))
      refine gw_isub dX11_tipsApart_78 ?_
      refine gw_sC (bs := [.inl (x17 - x18)]) (st := [.inl x16]) smJ9_abs_0f7a4 lX11_313 dX11_tipsApart_79 ⟨by decide, rfl, rfl, by decide, by decide⟩ (Nat.le_of_ble_eq_true rfl) rfl rfl h (kI (fun x19 σ19 h n19 => ?_))
      refine gw_sC (bs := [.inl x16, .inl x19]) (st := []) smJ9_max_7cf53 lX11_318 dX11_tipsApart_82 ⟨by decide, rfl, rfl, by decide, by decide⟩ (Nat.le_of_ble_eq_true rfl) rfl rfl h (kI (fun x20 σ20 h n20 => ?_))
      exact gw_rI dX11_tipsApart_85 rfl (by decide) (by decide) h
    · replace h := h.2 c7
      refine gw_iconst (v := 0) dX11_tipsApart_30 ic_0 ?_
      exact gw_rI dX11_tipsApart_31 rfl (by decide) (by decide) h
set_option maxHeartbeats 4000000 in
set_option maxRecDepth 20000 in
theorem eX11_within {l : Launch} {v0 : Int32} {v1 : Int32} {v2 : Int32} {σ : Sg} {K : Int32 → Sg → Prop} (h : ((v0 < v1 → K 0 σ) ∧ (¬ v0 < v1 → ((v2 < v0 → K 0 σ) ∧ (¬ v2 < v0 → K 1 σ))))) : Con l mX11_within [.inl v0, .inl v1, .inl v2] σ (PI K) := by
  refine con_gw rfl (Nat.le_of_ble_eq_true rfl) ?_
  show GW l mX11_within 0 [(0, .inl v0), (1, .inl v1), (2, .inl v2)] [] σ 0 0 (PI K)
  refine gw_iload_n (q := 0) dX11_within_0 rfl rfl ?_
  refine gw_iload_n (q := 1) dX11_within_1 rfl rfl ?_
  refine gw_icmp_lt (tgt := 14) dX11_within_2 (by decide) (fun c1 => ?_) (fun c1 => ?_)
  · replace h := h.1 c1
    refine gw_iconst (v := 0) dX11_within_14 ic_0 ?_
    exact gw_rZ dX11_within_15 rfl (by decide) (by decide) (by decide) h
  · replace h := h.2 c1
    refine gw_iload_n (q := 0) dX11_within_5 rfl rfl ?_
    refine gw_iload_n (q := 2) dX11_within_6 rfl rfl ?_
    refine gw_icmp_gt (tgt := 14) dX11_within_7 (by decide) (fun c2 => ?_) (fun c2 => ?_)
    · replace h := h.1 c2
      refine gw_iconst (v := 0) dX11_within_14 ic_0 ?_
      exact gw_rZ dX11_within_15 rfl (by decide) (by decide) (by decide) h
    · replace h := h.2 c2
      refine gw_iconst (v := 1) dX11_within_10 ic_1 ?_
      refine gw_goto (tgt := 15) dX11_within_11 (by decide) ?_
      exact gw_rZ dX11_within_15 rfl (by decide) (by decide) (by decide) h
set_option maxHeartbeats 4000000 in
set_option maxRecDepth 20000 in
theorem eX11_isDrift {l : Launch} {v0 : Int32} {σ : Sg} {K : Int32 → Sg → Prop} (h : Con l mX11_within [.inl v0, .inl (-2000), .inl 2000] σ (PI (fun x1 σ1 => (x1 = 0 ∨ x1 = 1) ∧ K x1 σ1))) : Con l mX11_isDrift [.inl v0] σ (PI K) := by
  refine con_gw rfl (Nat.le_of_ble_eq_true rfl) ?_
  show GW l mX11_isDrift 0 [(0, .inl v0)] [] σ 0 0 (PI K)
  refine gw_iload_n (q := 0) dX11_isDrift_0 rfl rfl ?_
  refine gw_sipush (v := (-2000)) dX11_isDrift_1 sp_m2000 ?_
  refine gw_sipush (v := 2000) dX11_isDrift_4 sp_2000 ?_
  refine gw_sC (bs := [.inl v0, .inl (-2000), .inl 2000]) (st := []) smX11_within lX11_94 dX11_isDrift_7 ⟨by decide, rfl, rfl, by decide, by decide⟩ (Nat.le_of_ble_eq_true rfl) rfl rfl h (kI (fun x1 σ1 h n1 => ?_))
  obtain ⟨z2, h⟩ := h
  exact gw_rZ dX11_isDrift_10 rfl z2 (by decide) (by decide) h
set_option maxHeartbeats 4000000 in
set_option maxRecDepth 20000 in
theorem eX11_isError {l : Launch} {v0 : Int32} {σ : Sg} {K : Int32 → Sg → Prop} (h : Con l mX11_within [.inl v0, .inl 0, .inl 2000] σ (PI (fun x1 σ1 => (x1 = 0 ∨ x1 = 1) ∧ K x1 σ1))) : Con l mX11_isError [.inl v0] σ (PI K) := by
  refine con_gw rfl (Nat.le_of_ble_eq_true rfl) ?_
  show GW l mX11_isError 0 [(0, .inl v0)] [] σ 0 0 (PI K)
  refine gw_iload_n (q := 0) dX11_isError_0 rfl rfl ?_
  refine gw_iconst (v := 0) dX11_isError_1 ic_0 ?_
  refine gw_sipush (v := 2000) dX11_isError_2 sp_2000 ?_
  refine gw_sC (bs := [.inl v0, .inl 0, .inl 2000]) (st := []) smX11_within lX11_94 dX11_isError_5 ⟨by decide, rfl, rfl, by decide, by decide⟩ (Nat.le_of_ble_eq_true rfl) rfl rfl h (kI (fun x1 σ1 h n1 => ?_))
  obtain ⟨z2, h⟩ := h
  exact gw_rZ dX11_isError_8 rfl z2 (by decide) (by decide) h
set_option maxHeartbeats 4000000 in
set_option maxRecDepth 20000 in
theorem eX11_placeOf {l : Launch} {v0 : Int32} {v1 : Int32} {σ : Sg} {K : Int32 → Sg → Prop} (h : K ((v0 >>> ((4 * v1) &&& 31)) &&& 15) σ) : Con l mX11_placeOf [.inl v0, .inl v1] σ (PI K) := by
  refine con_gw rfl (Nat.le_of_ble_eq_true rfl) ?_
  show GW l mX11_placeOf 0 [(0, .inl v0), (1, .inl v1)] [] σ 0 0 (PI K)
  refine gw_iload_n (q := 0) dX11_placeOf_0 rfl rfl ?_
  refine gw_iconst (v := 4) dX11_placeOf_1 ic_4 ?_
  refine gw_iload_n (q := 1) dX11_placeOf_2 rfl rfl ?_
  refine gw_imul dX11_placeOf_3 ?_
  refine gw_ishr dX11_placeOf_4 ?_
  refine gw_bipush (v := 15) dX11_placeOf_5 bp_15 ?_
  refine gw_iand dX11_placeOf_7 ?_
  exact gw_rI dX11_placeOf_8 rfl (by decide) (by decide) h
set_option maxHeartbeats 4000000 in
set_option maxRecDepth 20000 in
theorem eX11_withPlace {l : Launch} {v0 : Int32} {v1 : Int32} {v2 : Int32} {σ : Sg} {K : Int32 → Sg → Prop} (h : K ((v0 &&& ((15 <<< ((4 * v1) &&& 31)) ^^^ (-1))) ||| (v2 <<< ((4 * v1) &&& 31))) σ) : Con l mX11_withPlace [.inl v0, .inl v1, .inl v2] σ (PI K) := by
  refine con_gw rfl (Nat.le_of_ble_eq_true rfl) ?_
  show GW l mX11_withPlace 0 [(0, .inl v0), (1, .inl v1), (2, .inl v2)] [] σ 0 0 (PI K)
  refine gw_iconst (v := 4) dX11_withPlace_0 ic_4 ?_
  refine gw_iload_n (q := 1) dX11_withPlace_1 rfl rfl ?_
  refine gw_imul dX11_withPlace_2 ?_
  refine gw_istore_n (lo' := [(0, .inl v0), (1, .inl v1), (2, .inl v2), (3, .inl (4 * v1))]) dX11_withPlace_3 rfl (by decide) rfl ?_
  refine gw_iload_n (q := 0) dX11_withPlace_4 rfl rfl ?_
  refine gw_bipush (v := 15) dX11_withPlace_5 bp_15 ?_
  refine gw_iload_n (q := 3) dX11_withPlace_7 rfl rfl ?_
  refine gw_ishl dX11_withPlace_8 ?_
  refine gw_iconst (v := (-1)) dX11_withPlace_9 ic_m1 ?_
  refine gw_ixor dX11_withPlace_10 ?_
  refine gw_iand dX11_withPlace_11 ?_
  refine gw_iload_n (q := 2) dX11_withPlace_12 rfl rfl ?_
  refine gw_iload_n (q := 3) dX11_withPlace_13 rfl rfl ?_
  refine gw_ishl dX11_withPlace_14 ?_
  refine gw_ior dX11_withPlace_15 ?_
  exact gw_rI dX11_withPlace_16 rfl (by decide) (by decide) h
