set_option maxHeartbeats 4000000 in
set_option maxRecDepth 20000 in
theorem eX0_init {l : Launch} {v0 : Nat} {σ : Sg} {K : Sg → Prop} (h : v0 ≠ 0 ∧ shp (σ.1 + 1) = (13, 3) ∧ σ.1 + 1 ≤ 1000 ∧ ∀ x3 σ3, x3 = σ.1 + 1 → σ3 = nw σ → Ob σ3 v0 0 ∧ x3 ≤ σ3.1 ∧ ∀ σ6, σ6 = w2 σ3 v0 0 x3 → shp (σ6.1 + 1) = (13, 3) ∧ σ6.1 + 1 ≤ 1000 ∧ ∀ x8 σ8, x8 = σ6.1 + 1 → σ8 = nw σ6 → x8 ≤ σ8.1 ∧ ∀ σ10, σ10 = w2 σ8 v0 1 x8 → shp (σ10.1 + 1) = (13, 3) ∧ σ10.1 + 1 ≤ 1000 ∧ ∀ x12 σ12, x12 = σ10.1 + 1 → σ12 = nw σ10 → x12 ≤ σ12.1 ∧ ∀ σ14, σ14 = w2 σ12 v0 2 x12 → shp (σ14.1 + 1) = (13, 3) ∧ σ14.1 + 1 ≤ 1000 ∧ ∀ x16 σ16, x16 = σ14.1 + 1 → σ16 = nw σ14 → x16 ≤ σ16.1 ∧ ∀ σ18, σ18 = w2 σ16 v0 3 x16 → K σ18) : Con l mX0_init [.inr v0] σ (PV K) := by
  refine con_gw rfl (Nat.le_of_ble_eq_true rfl) ?_
  show GW l mX0_init 0 [(0, .inr v0)] [] σ 0 0 (PV K)
  refine gw_aload_n (q := 0) dX0_init_0 rfl rfl ?_
  obtain ⟨g1, h⟩ := h
  refine gw_objInit oiX0_3 oi_in oi_cd dX0_init_1 (by decide) (Nat.le_of_ble_eq_true rfl) g1 ?_
  refine gw_aload_n (q := 0) dX0_init_4 rfl rfl ?_
  refine gw_iconst (v := 3) dX0_init_5 ic_3 ?_
  obtain ⟨g2, g3, h⟩ := h
  refine gw_newi (N := 3) ac_int dX0_init_6 g2 (by decide) (by decide) (by decide) (by decide) (by decide) g3 (fun x3 σ3 ex3 e3 => ?_)
  replace h := h x3 σ3 ex3 e3
  obtain ⟨g4, h⟩ := h
  obtain ⟨z5, h⟩ := h
  refine gw_pRF fX0_9 (Or.inr ⟨_, rfl⟩) rfl rfl (fun C T N hc => by cases hc; exact xfX0_9) dX0_init_8 z5 g4 (fun σ6 e6 => ?_)
  replace h := h σ6 e6
  refine gw_aload_n (q := 0) dX0_init_11 rfl rfl ?_
  refine gw_iconst (v := 3) dX0_init_12 ic_3 ?_
  obtain ⟨g7, g8, h⟩ := h
  refine gw_newi (N := 3) ac_int dX0_init_13 g7 (by decide) (by decide) (by decide) (by decide) (by decide) g8 (fun x8 σ8 ex8 e8 => ?_)
  replace h := h x8 σ8 ex8 e8
  obtain ⟨z9, h⟩ := h
  refine gw_pRF fX0_15 (Or.inr ⟨_, rfl⟩) rfl rfl (fun C T N hc => by cases hc; exact xfX0_15) dX0_init_15 z9 ((g4.up (n_w2 e6)).up (n_nw e8)) (fun σ10 e10 => ?_)
  replace h := h σ10 e10
  refine gw_aload_n (q := 0) dX0_init_18 rfl rfl ?_
  refine gw_iconst (v := 3) dX0_init_19 ic_3 ?_
  obtain ⟨g11, g12, h⟩ := h
  refine gw_newi (N := 3) ac_int dX0_init_20 g11 (by decide) (by decide) (by decide) (by decide) (by decide) g12 (fun x12 σ12 ex12 e12 => ?_)
  replace h := h x12 σ12 ex12 e12
  obtain ⟨z13, h⟩ := h
  refine gw_pRF fX0_18 (Or.inr ⟨_, rfl⟩) rfl rfl (fun C T N hc => by cases hc; exact xfX0_18) dX0_init_22 z13 ((((g4.up (n_w2 e6)).up (n_nw e8)).up (n_w2 e10)).up (n_nw e12)) (fun σ14 e14 => ?_)
  replace h := h σ14 e14
  refine gw_aload_n (q := 0) dX0_init_25 rfl rfl ?_
  refine gw_iconst (v := 3) dX0_init_26 ic_3 ?_
  obtain ⟨g15, g16, h⟩ := h
  refine gw_newi (N := 3) ac_int dX0_init_27 g15 (by decide) (by decide) (by decide) (by decide) (by decide) g16 (fun x16 σ16 ex16 e16 => ?_)
  replace h := h x16 σ16 ex16 e16
  obtain ⟨z17, h⟩ := h
  refine gw_pRF fX0_21 (Or.inr ⟨_, rfl⟩) rfl rfl (fun C T N hc => by cases hc; exact xfX0_21) dX0_init_29 z17 ((((((g4.up (n_w2 e6)).up (n_nw e8)).up (n_w2 e10)).up (n_nw e12)).up (n_w2 e14)).up (n_nw e16)) (fun σ18 e18 => ?_)
  replace h := h σ18 e18
  exact gw_rV dX0_init_32 rfl (by decide) (by decide) h
set_option maxHeartbeats 4000000 in
set_option maxRecDepth 20000 in
theorem eX0_stand {l : Launch} {v0 : Nat} {v1 : Int32} {v2 : Int32} {σ : Sg} {K : Sg → Prop} (h : Ob σ v0 0 ∧ ∀ σ2, σ2 = w1 σ v0 4 v1 → ∀ σ3, σ3 = w1 σ2 v0 5 v2 → K σ3) : Con l mX0_stand [.inr v0, .inl v1, .inl v2] σ (PV K) := by
  refine con_gw rfl (Nat.le_of_ble_eq_true rfl) ?_
  show GW l mX0_stand 0 [(0, .inr v0), (1, .inl v1), (2, .inl v2)] [] σ 0 0 (PV K)
  refine gw_aload_n (q := 0) dX0_stand_0 rfl rfl ?_
  refine gw_iload_n (q := 1) dX0_stand_1 rfl rfl ?_
  obtain ⟨g1, h⟩ := h
  refine gw_pI fX0_24 dX0_stand_2 g1 (fun σ2 e2 => ?_)
  replace h := h σ2 e2
  refine gw_aload_n (q := 0) dX0_stand_5 rfl rfl ?_
  refine gw_iload_n (q := 2) dX0_stand_6 rfl rfl ?_
  refine gw_pI fX0_28 dX0_stand_7 (g1.up (n_w1 e2)) (fun σ3 e3 => ?_)
  replace h := h σ3 e3
  exact gw_rV dX0_stand_10 rfl (by decide) (by decide) h
set_option maxHeartbeats 4000000 in
set_option maxRecDepth 20000 in
theorem eX0_addJoint {l : Launch} {v0 : Nat} {v1 : Int32} {v2 : Int32} {v3 : Int32} {v4 : Int32} {σ : Sg} {K : Int32 → Sg → Prop} (h : Ob σ v0 0 ∧ (((σ.2.1 v0 6) < 0 → K (-1) σ) ∧ (¬ (σ.2.1 v0 6) < 0 → (((σ.2.1 v0 6) < 3 → Ai σ (σ.2.2 v0 0) (σ.2.1 v0 6) ∧ ∀ σ5, σ5 = w1 σ (σ.2.2 v0 0) (σ.2.1 v0 6).toNatClampNeg v1 → Ai σ5 (σ5.2.2 v0 1) (σ5.2.1 v0 6) ∧ ∀ σ7, σ7 = w1 σ5 (σ5.2.2 v0 1) (σ5.2.1 v0 6).toNatClampNeg v2 → Ai σ7 (σ7.2.2 v0 2) (σ7.2.1 v0 6) ∧ ∀ σ9, σ9 = w1 σ7 (σ7.2.2 v0 2) (σ7.2.1 v0 6).toNatClampNeg v3 → Ai σ9 (σ9.2.2 v0 3) (σ9.2.1 v0 6) ∧ ∀ σ11, σ11 = w1 σ9 (σ9.2.2 v0 3) (σ9.2.1 v0 6).toNatClampNeg v4 → ∀ σ12, σ12 = w1 σ11 v0 6 ((σ11.2.1 v0 6) + 1) → K ((σ12.2.1 v0 6) - 1) σ12) ∧ (¬ (σ.2.1 v0 6) < 3 → K (-1) σ))))) : Con l mX0_addJoint [.inr v0, .inl v1, .inl v2, .inl v3, .inl v4] σ (PI K) := by
  refine con_gw rfl (Nat.le_of_ble_eq_true rfl) ?_
  show GW l mX0_addJoint 0 [(0, .inr v0), (1, .inl v1), (2, .inl v2), (3, .inl v3), (4, .inl v4)] [] σ 0 0 (PI K)
  refine gw_aload_n (q := 0) dX0_addJoint_0 rfl rfl ?_
  obtain ⟨g1, h⟩ := h
  refine gw_gI fX0_31 dX0_addJoint_1 g1 ?_
  refine gw_if_lt (tgt := 15) dX0_addJoint_4 (by decide) (fun c2 => ?_) (fun c2 => ?_)
  · replace h := h.1 c2
    refine gw_iconst (v := (-1)) dX0_addJoint_15 ic_m1 ?_
    exact gw_rI dX0_addJoint_16 rfl (by decide) (by decide) h
  · replace h := h.2 c2
    refine gw_aload_n (q := 0) dX0_addJoint_7 rfl rfl ?_
    refine gw_gI fX0_31 dX0_addJoint_8 g1 ?_
    refine gw_iconst (v := 3) dX0_addJoint_11 ic_3 ?_
    refine gw_icmp_lt (tgt := 17) dX0_addJoint_12 (by decide) (fun c3 => ?_) (fun c3 => ?_)
    · replace h := h.1 c3
      refine gw_aload_n (q := 0) dX0_addJoint_17 rfl rfl ?_
      refine gw_gR fX0_9 dX0_addJoint_18 g1 ?_
      refine gw_aload_n (q := 0) dX0_addJoint_21 rfl rfl ?_
      refine gw_gI fX0_31 dX0_addJoint_22 g1 ?_
      refine gw_iload_n (q := 1) dX0_addJoint_25 rfl rfl ?_
      obtain ⟨g4, h⟩ := h
      refine gw_sI dX0_addJoint_26 g4 (fun σ5 e5 => ?_)
      replace h := h σ5 e5
      refine gw_aload_n (q := 0) dX0_addJoint_27 rfl rfl ?_
      refine gw_gR fX0_15 dX0_addJoint_28 (g1.up (n_w1 e5)) ?_
      refine gw_aload_n (q := 0) dX0_addJoint_31 rfl rfl ?_
      refine gw_gI fX0_31 dX0_addJoint_32 (g1.up (n_w1 e5)) ?_
      refine gw_iload_n (q := 2) dX0_addJoint_35 rfl rfl ?_
      obtain ⟨g6, h⟩ := h
      refine gw_sI dX0_addJoint_36 g6 (fun σ7 e7 => ?_)
      replace h := h σ7 e7
      refine gw_aload_n (q := 0) dX0_addJoint_37 rfl rfl ?_
      refine gw_gR fX0_18 dX0_addJoint_38 ((g1.up (n_w1 e5)).up (n_w1 e7)) ?_
      refine gw_aload_n (q := 0) dX0_addJoint_41 rfl rfl ?_
      refine gw_gI fX0_31 dX0_addJoint_42 ((g1.up (n_w1 e5)).up (n_w1 e7)) ?_
      refine gw_iload_n (q := 3) dX0_addJoint_45 rfl rfl ?_
      obtain ⟨g8, h⟩ := h
      refine gw_sI dX0_addJoint_46 g8 (fun σ9 e9 => ?_)
      replace h := h σ9 e9
      refine gw_aload_n (q := 0) dX0_addJoint_47 rfl rfl ?_
      refine gw_gR fX0_21 dX0_addJoint_48 (((g1.up (n_w1 e5)).up (n_w1 e7)).up (n_w1 e9)) ?_
      refine gw_aload_n (q := 0) dX0_addJoint_51 rfl rfl ?_
      refine gw_gI fX0_31 dX0_addJoint_52 (((g1.up (n_w1 e5)).up (n_w1 e7)).up (n_w1 e9)) ?_
      refine gw_iload (q := 4) dX0_addJoint_55 rfl ?_
      obtain ⟨g10, h⟩ := h
      refine gw_sI dX0_addJoint_57 g10 (fun σ11 e11 => ?_)
      replace h := h σ11 e11
      refine gw_aload_n (q := 0) dX0_addJoint_58 rfl rfl ?_
      refine gw_dup dX0_addJoint_59 ?_
      refine gw_gI fX0_31 dX0_addJoint_60 ((((g1.up (n_w1 e5)).up (n_w1 e7)).up (n_w1 e9)).up (n_w1 e11)) ?_
      refine gw_iconst (v := 1) dX0_addJoint_63 ic_1 ?_
      refine gw_iadd dX0_addJoint_64 ?_
      refine gw_pI fX0_31 dX0_addJoint_65 ((((g1.up (n_w1 e5)).up (n_w1 e7)).up (n_w1 e9)).up (n_w1 e11)) (fun σ12 e12 => ?_)
      replace h := h σ12 e12
      refine gw_aload_n (q := 0) dX0_addJoint_68 rfl rfl ?_
      refine gw_gI fX0_31 dX0_addJoint_69 (((((g1.up (n_w1 e5)).up (n_w1 e7)).up (n_w1 e9)).up (n_w1 e11)).up (n_w1 e12)) ?_
      refine gw_iconst (v := 1) dX0_addJoint_72 ic_1 ?_
      refine gw_isub dX0_addJoint_73 ?_
      exact gw_rI dX0_addJoint_74 rfl (by decide) (by decide) h
    · replace h := h.2 c3
      refine gw_iconst (v := (-1)) dX0_addJoint_15 ic_m1 ?_
      exact gw_rI dX0_addJoint_16 rfl (by decide) (by decide) h
set_option maxHeartbeats 4000000 in
set_option maxRecDepth 20000 in
theorem eX0_wearOut {l : Launch} {v0 : Nat} {v1 : Int32} {v2 : Int32} {v3 : Int32} {v4 : Int32} {σ : Sg} {K : Sg → Prop} (h : Ob σ v0 0 ∧ ∀ σ2, σ2 = w1 σ v0 7 v1 → ∀ σ3, σ3 = w1 σ2 v0 8 v2 → ∀ σ4, σ4 = w1 σ3 v0 9 v3 → ∀ σ5, σ5 = w1 σ4 v0 10 v4 → K σ5) : Con l mX0_wearOut [.inr v0, .inl v1, .inl v2, .inl v3, .inl v4] σ (PV K) := by
  refine con_gw rfl (Nat.le_of_ble_eq_true rfl) ?_
  show GW l mX0_wearOut 0 [(0, .inr v0), (1, .inl v1), (2, .inl v2), (3, .inl v3), (4, .inl v4)] [] σ 0 0 (PV K)
  refine gw_aload_n (q := 0) dX0_wearOut_0 rfl rfl ?_
  refine gw_iload_n (q := 1) dX0_wearOut_1 rfl rfl ?_
  obtain ⟨g1, h⟩ := h
  refine gw_pI fX0_34 dX0_wearOut_2 g1 (fun σ2 e2 => ?_)
  replace h := h σ2 e2
  refine gw_aload_n (q := 0) dX0_wearOut_5 rfl rfl ?_
  refine gw_iload_n (q := 2) dX0_wearOut_6 rfl rfl ?_
  refine gw_pI fX0_37 dX0_wearOut_7 (g1.up (n_w1 e2)) (fun σ3 e3 => ?_)
  replace h := h σ3 e3
  refine gw_aload_n (q := 0) dX0_wearOut_10 rfl rfl ?_
  refine gw_iload_n (q := 3) dX0_wearOut_11 rfl rfl ?_
  refine gw_pI fX0_40 dX0_wearOut_12 ((g1.up (n_w1 e2)).up (n_w1 e3)) (fun σ4 e4 => ?_)
  replace h := h σ4 e4
  refine gw_aload_n (q := 0) dX0_wearOut_15 rfl rfl ?_
  refine gw_iload (q := 4) dX0_wearOut_16 rfl ?_
  refine gw_pI fX0_43 dX0_wearOut_18 (((g1.up (n_w1 e2)).up (n_w1 e3)).up (n_w1 e4)) (fun σ5 e5 => ?_)
  replace h := h σ5 e5
  exact gw_rV dX0_wearOut_21 rfl (by decide) (by decide) h
set_option maxHeartbeats 4000000 in
set_option maxRecDepth 20000 in
theorem eX0_low {l : Launch} {v0 : Nat} {v1 : Int32} {σ : Sg} {K : Int32 → Sg → Prop} (h : ((v1 < 0 → K 0 σ) ∧ (¬ v1 < 0 → ((3 ≤ v1 → K 0 σ) ∧ (¬ 3 ≤ v1 → Ob σ v0 0 ∧ Ai σ (σ.2.2 v0 1) v1 ∧ K (σ.2.1 (σ.2.2 v0 1) v1.toNatClampNeg) σ))))) : Con l mX0_low [.inr v0, .inl v1] σ (PI K) := by
  refine con_gw rfl (Nat.le_of_ble_eq_true rfl) ?_
  show GW l mX0_low 0 [(0, .inr v0), (1, .inl v1)] [] σ 0 0 (PI K)
  refine gw_iload_n (q := 1) dX0_low_0 rfl rfl ?_
  refine gw_if_lt (tgt := 18) dX0_low_1 (by decide) (fun c1 => ?_) (fun c1 => ?_)
  · replace h := h.1 c1
    refine gw_iconst (v := 0) dX0_low_18 ic_0 ?_
    exact gw_rI dX0_low_19 rfl (by decide) (by decide) h
  · replace h := h.2 c1
    refine gw_iload_n (q := 1) dX0_low_4 rfl rfl ?_
    refine gw_iconst (v := 3) dX0_low_5 ic_3 ?_
    refine gw_icmp_ge (tgt := 18) dX0_low_6 (by decide) (fun c2 => ?_) (fun c2 => ?_)
    · replace h := h.1 c2
      refine gw_iconst (v := 0) dX0_low_18 ic_0 ?_
      exact gw_rI dX0_low_19 rfl (by decide) (by decide) h
    · replace h := h.2 c2
      refine gw_aload_n (q := 0) dX0_low_9 rfl rfl ?_
      obtain ⟨g3, h⟩ := h
      refine gw_gR fX0_15 dX0_low_10 g3 ?_
      refine gw_iload_n (q := 1) dX0_low_13 rfl rfl ?_
      obtain ⟨g4, h⟩ := h
      refine gw_aI dX0_low_14 g4 ?_
      refine gw_goto (tgt := 19) dX0_low_15 (by decide) ?_
      exact gw_rI dX0_low_19 rfl (by decide) (by decide) h
set_option maxHeartbeats 4000000 in
set_option maxRecDepth 20000 in
theorem eX0_high {l : Launch} {v0 : Nat} {v1 : Int32} {σ : Sg} {K : Int32 → Sg → Prop} (h : ((v1 < 0 → K 0 σ) ∧ (¬ v1 < 0 → ((3 ≤ v1 → K 0 σ) ∧ (¬ 3 ≤ v1 → Ob σ v0 0 ∧ Ai σ (σ.2.2 v0 2) v1 ∧ K (σ.2.1 (σ.2.2 v0 2) v1.toNatClampNeg) σ))))) : Con l mX0_high [.inr v0, .inl v1] σ (PI K) := by
  refine con_gw rfl (Nat.le_of_ble_eq_true rfl) ?_
  show GW l mX0_high 0 [(0, .inr v0), (1, .inl v1)] [] σ 0 0 (PI K)
  refine gw_iload_n (q := 1) dX0_high_0 rfl rfl ?_
  refine gw_if_lt (tgt := 18) dX0_high_1 (by decide) (fun c1 => ?_) (fun c1 => ?_)
  · replace h := h.1 c1
    refine gw_iconst (v := 0) dX0_high_18 ic_0 ?_
    exact gw_rI dX0_high_19 rfl (by decide) (by decide) h
  · replace h := h.2 c1
    refine gw_iload_n (q := 1) dX0_high_4 rfl rfl ?_
    refine gw_iconst (v := 3) dX0_high_5 ic_3 ?_
    refine gw_icmp_ge (tgt := 18) dX0_high_6 (by decide) (fun c2 => ?_) (fun c2 => ?_)
    · replace h := h.1 c2
      refine gw_iconst (v := 0) dX0_high_18 ic_0 ?_
      exact gw_rI dX0_high_19 rfl (by decide) (by decide) h
    · replace h := h.2 c2
      refine gw_aload_n (q := 0) dX0_high_9 rfl rfl ?_
      obtain ⟨g3, h⟩ := h
      refine gw_gR fX0_18 dX0_high_10 g3 ?_
      refine gw_iload_n (q := 1) dX0_high_13 rfl rfl ?_
      obtain ⟨g4, h⟩ := h
      refine gw_aI dX0_high_14 g4 ?_
      refine gw_goto (tgt := 19) dX0_high_15 (by decide) ?_
      exact gw_rI dX0_high_19 rfl (by decide) (by decide) h
set_option maxHeartbeats 4000000 in
set_option maxRecDepth 20000 in
theorem eX0_speed {l : Launch} {v0 : Nat} {v1 : Int32} {σ : Sg} {K : Int32 → Sg → Prop} (h : ((v1 < 0 → K 0 σ) ∧ (¬ v1 < 0 → ((3 ≤ v1 → K 0 σ) ∧ (¬ 3 ≤ v1 → Ob σ v0 0 ∧ Ai σ (σ.2.2 v0 3) v1 ∧ K (σ.2.1 (σ.2.2 v0 3) v1.toNatClampNeg) σ))))) : Con l mX0_speed [.inr v0, .inl v1] σ (PI K) := by
  refine con_gw rfl (Nat.le_of_ble_eq_true rfl) ?_
  show GW l mX0_speed 0 [(0, .inr v0), (1, .inl v1)] [] σ 0 0 (PI K)
  refine gw_iload_n (q := 1) dX0_speed_0 rfl rfl ?_
  refine gw_if_lt (tgt := 18) dX0_speed_1 (by decide) (fun c1 => ?_) (fun c1 => ?_)
  · replace h := h.1 c1
    refine gw_iconst (v := 0) dX0_speed_18 ic_0 ?_
    exact gw_rI dX0_speed_19 rfl (by decide) (by decide) h
  · replace h := h.2 c1
    refine gw_iload_n (q := 1) dX0_speed_4 rfl rfl ?_
    refine gw_iconst (v := 3) dX0_speed_5 ic_3 ?_
    refine gw_icmp_ge (tgt := 18) dX0_speed_6 (by decide) (fun c2 => ?_) (fun c2 => ?_)
    · replace h := h.1 c2
      refine gw_iconst (v := 0) dX0_speed_18 ic_0 ?_
      exact gw_rI dX0_speed_19 rfl (by decide) (by decide) h
    · replace h := h.2 c2
      refine gw_aload_n (q := 0) dX0_speed_9 rfl rfl ?_
      obtain ⟨g3, h⟩ := h
      refine gw_gR fX0_21 dX0_speed_10 g3 ?_
      refine gw_iload_n (q := 1) dX0_speed_13 rfl rfl ?_
      obtain ⟨g4, h⟩ := h
      refine gw_aI dX0_speed_14 g4 ?_
      refine gw_goto (tgt := 19) dX0_speed_15 (by decide) ?_
      exact gw_rI dX0_speed_19 rfl (by decide) (by decide) h
set_option maxHeartbeats 4000000 in
set_option maxRecDepth 20000 in
theorem gX0_hasPose_19 {l : Launch} {v0 : Nat} {v1 : Int32} {v2 : Int32} {v3 : Int32} {σ : Sg} {K : Int32 → Sg → Prop} (h : ((3 ≤ v3 → (v2 = 0 ∨ v2 = 1) ∧ K v2 σ) ∧ (¬ 3 ≤ v3 → ((v2 = 0 → (v2 = 0 ∨ v2 = 1) ∧ K v2 σ) ∧ (¬ v2 = 0 → Con l mX11_placeOf [.inl v1, .inl v3] σ (PI (fun x5 σ5 => Ob σ5 v0 0 ∧ Ai σ5 (σ5.2.2 v0 1) v3 ∧ Ai σ5 (σ5.2.2 v0 2) v3 ∧ Con l mX11_within [.inl x5, .inl (σ5.2.1 (σ5.2.2 v0 1) v3.toNatClampNeg), .inl (σ5.2.1 (σ5.2.2 v0 2) v3.toNatClampNeg)] σ5 (PI (fun x9 σ9 => GW l mX0_hasPose 19 [(0, .inr v0), (1, .inl v1), (2, .inl x9), (3, .inl (v3 + 1))] [] σ9 0 0 (PI K)))))))))) : GW l mX0_hasPose 19 [(0, .inr v0), (1, .inl v1), (2, .inl v2), (3, .inl v3)] [] σ 0 0 (PI K) := by
  refine gw_iload_n (q := 3) dX0_hasPose_19 rfl rfl ?_
  refine gw_iconst (v := 3) dX0_hasPose_20 ic_3 ?_
  refine gw_icmp_ge (tgt := 55) dX0_hasPose_21 (by decide) (fun c1 => ?_) (fun c1 => ?_)
  · replace h := h.1 c1
    refine gw_iload_n (q := 2) dX0_hasPose_55 rfl rfl ?_
    obtain ⟨z2, h⟩ := h
    exact gw_rZ dX0_hasPose_56 rfl z2 (by decide) (by decide) h
  · replace h := h.2 c1
    refine gw_iload_n (q := 2) dX0_hasPose_24 rfl rfl ?_
    refine gw_if_eq (tgt := 55) dX0_hasPose_25 (by decide) (fun c3 => ?_) (fun c3 => ?_)
    · replace h := h.1 c3
      refine gw_iload_n (q := 2) dX0_hasPose_55 rfl rfl ?_
      obtain ⟨z4, h⟩ := h
      exact gw_rZ dX0_hasPose_56 rfl z4 (by decide) (by decide) h
    · replace h := h.2 c3
      refine gw_iload_n (q := 1) dX0_hasPose_28 rfl rfl ?_
      refine gw_iload_n (q := 3) dX0_hasPose_29 rfl rfl ?_
      refine gw_sC (bs := [.inl v1, .inl v3]) (st := []) smX11_placeOf lX0_46 dX0_hasPose_30 ⟨by decide, rfl, rfl, by decide, by decide⟩ (Nat.le_of_ble_eq_true rfl) rfl rfl h (kI (fun x5 σ5 h n5 => ?_))
      refine gw_aload_n (q := 0) dX0_hasPose_33 rfl rfl ?_
      obtain ⟨g6, h⟩ := h
      refine gw_gR fX0_15 dX0_hasPose_34 g6 ?_
      refine gw_iload_n (q := 3) dX0_hasPose_37 rfl rfl ?_
      obtain ⟨g7, h⟩ := h
      refine gw_aI dX0_hasPose_38 g7 ?_
      refine gw_aload_n (q := 0) dX0_hasPose_39 rfl rfl ?_
      refine gw_gR fX0_18 dX0_hasPose_40 g6 ?_
      refine gw_iload_n (q := 3) dX0_hasPose_43 rfl rfl ?_
      obtain ⟨g8, h⟩ := h
      refine gw_aI dX0_hasPose_44 g8 ?_
      refine gw_sC (bs := [.inl x5, .inl (σ5.2.1 (σ5.2.2 v0 1) v3.toNatClampNeg), .inl (σ5.2.1 (σ5.2.2 v0 2) v3.toNatClampNeg)]) (st := []) smX11_within lX0_50 dX0_hasPose_45 ⟨by decide, rfl, rfl, by decide, by decide⟩ (Nat.le_of_ble_eq_true rfl) rfl rfl h (kI (fun x9 σ9 h n9 => ?_))
      refine gw_istore_n (lo' := [(0, .inr v0), (1, .inl v1), (2, .inl x9), (3, .inl v3)]) dX0_hasPose_48 rfl (by decide) rfl ?_
      refine gw_inc (lo' := [(0, .inr v0), (1, .inl v1), (2, .inl x9), (3, .inl (v3 + 1))]) (q := 3) (c := 1) dX0_hasPose_49 ic_1 rfl (by decide) rfl ?_
      refine gw_goto (tgt := 19) dX0_hasPose_52 (by decide) ?_
      exact h
set_option maxHeartbeats 4000000 in
set_option maxRecDepth 20000 in
theorem eX0_hasPose {l : Launch} {v0 : Nat} {v1 : Int32} {σ : Sg} {K : Int32 → Sg → Prop} (h : ((v1 < 0 → GW l mX0_hasPose 19 [(0, .inr v0), (1, .inl v1), (2, .inl 0), (3, .inl 0)] [] σ 0 0 (PI K)) ∧ (¬ v1 < 0 → ((4096 ≤ v1 → GW l mX0_hasPose 19 [(0, .inr v0), (1, .inl v1), (2, .inl 0), (3, .inl 0)] [] σ 0 0 (PI K)) ∧ (¬ 4096 ≤ v1 → GW l mX0_hasPose 19 [(0, .inr v0), (1, .inl v1), (2, .inl 1), (3, .inl 0)] [] σ 0 0 (PI K)))))) : Con l mX0_hasPose [.inr v0, .inl v1] σ (PI K) := by
  refine con_gw rfl (Nat.le_of_ble_eq_true rfl) ?_
  show GW l mX0_hasPose 0 [(0, .inr v0), (1, .inl v1)] [] σ 0 0 (PI K)
  refine gw_iload_n (q := 1) dX0_hasPose_0 rfl rfl ?_
  refine gw_if_lt (tgt := 15) dX0_hasPose_1 (by decide) (fun c1 => ?_) (fun c1 => ?_)
  · replace h := h.1 c1
    refine gw_iconst (v := 0) dX0_hasPose_15 ic_0 ?_
    refine gw_istore_n (lo' := [(0, .inr v0), (1, .inl v1), (2, .inl 0)]) dX0_hasPose_16 rfl (by decide) rfl ?_
    refine gw_iconst (v := 0) dX0_hasPose_17 ic_0 ?_
    refine gw_istore_n (lo' := [(0, .inr v0), (1, .inl v1), (2, .inl 0), (3, .inl 0)]) dX0_hasPose_18 rfl (by decide) rfl ?_
    exact h
  · replace h := h.2 c1
    refine gw_iload_n (q := 1) dX0_hasPose_4 rfl rfl ?_
    refine gw_sipush (v := 4096) dX0_hasPose_5 sp_4096 ?_
    refine gw_icmp_ge (tgt := 15) dX0_hasPose_8 (by decide) (fun c2 => ?_) (fun c2 => ?_)
    · replace h := h.1 c2
      refine gw_iconst (v := 0) dX0_hasPose_15 ic_0 ?_
      refine gw_istore_n (lo' := [(0, .inr v0), (1, .inl v1), (2, .inl 0)]) dX0_hasPose_16 rfl (by decide) rfl ?_
      refine gw_iconst (v := 0) dX0_hasPose_17 ic_0 ?_
      refine gw_istore_n (lo' := [(0, .inr v0), (1, .inl v1), (2, .inl 0), (3, .inl 0)]) dX0_hasPose_18 rfl (by decide) rfl ?_
      exact h
    · replace h := h.2 c2
      refine gw_iconst (v := 1) dX0_hasPose_11 ic_1 ?_
      refine gw_goto (tgt := 16) dX0_hasPose_12 (by decide) ?_
      refine gw_istore_n (lo' := [(0, .inr v0), (1, .inl v1), (2, .inl 1)]) dX0_hasPose_16 rfl (by decide) rfl ?_
      refine gw_iconst (v := 0) dX0_hasPose_17 ic_0 ?_
      refine gw_istore_n (lo' := [(0, .inr v0), (1, .inl v1), (2, .inl 1), (3, .inl 0)]) dX0_hasPose_18 rfl (by decide) rfl ?_
      exact h
set_option maxHeartbeats 4000000 in
set_option maxRecDepth 20000 in
theorem eX0_pointX {l : Launch} {v0 : Nat} {v1 : Int32} {v2 : Int32} {σ : Sg} {K : Int32 → Sg → Prop} (h : Ob σ v0 0 ∧ Con l mX0_reach [.inr v0, .inl v1, .inl v2, .inl 0] σ (PI (fun x2 σ2 => K ((1000 * (σ.2.1 v0 4)) + x2) σ2))) : Con l mX0_pointX [.inr v0, .inl v1, .inl v2] σ (PI K) := by
  refine con_gw rfl (Nat.le_of_ble_eq_true rfl) ?_
  show GW l mX0_pointX 0 [(0, .inr v0), (1, .inl v1), (2, .inl v2)] [] σ 0 0 (PI K)
  refine gw_sipush (v := 1000) dX0_pointX_0 sp_1000 ?_
  refine gw_aload_n (q := 0) dX0_pointX_3 rfl rfl ?_
  obtain ⟨g1, h⟩ := h
  refine gw_gI fX0_24 dX0_pointX_4 g1 ?_
  refine gw_imul dX0_pointX_7 ?_
  refine gw_aload_n (q := 0) dX0_pointX_8 rfl rfl ?_
  refine gw_iload_n (q := 1) dX0_pointX_9 rfl rfl ?_
  refine gw_iload_n (q := 2) dX0_pointX_10 rfl rfl ?_
  refine gw_iconst (v := 0) dX0_pointX_11 ic_0 ?_
  refine gw_vC (bs := [.inl v1, .inl v2, .inl 0]) (st := [.inl (1000 * (σ.2.1 v0 4))]) (vmX0_reach) lX0_54 dX0_pointX_12 ⟨by decide, rfl, rfl, by decide, by decide⟩ (Nat.le_of_ble_eq_true rfl) rfl rfl g1 h (kI (fun x2 σ2 h n2 => ?_))
  refine gw_iadd dX0_pointX_15 ?_
  exact gw_rI dX0_pointX_16 rfl (by decide) (by decide) h
set_option maxHeartbeats 4000000 in
set_option maxRecDepth 20000 in
theorem eX0_pointY {l : Launch} {v0 : Nat} {v1 : Int32} {v2 : Int32} {σ : Sg} {K : Int32 → Sg → Prop} (h : Ob σ v0 0 ∧ Con l mX0_reach [.inr v0, .inl v1, .inl v2, .inl 12] σ (PI (fun x2 σ2 => K ((1000 * (σ.2.1 v0 5)) + x2) σ2))) : Con l mX0_pointY [.inr v0, .inl v1, .inl v2] σ (PI K) := by
  refine con_gw rfl (Nat.le_of_ble_eq_true rfl) ?_
  show GW l mX0_pointY 0 [(0, .inr v0), (1, .inl v1), (2, .inl v2)] [] σ 0 0 (PI K)
  refine gw_sipush (v := 1000) dX0_pointY_0 sp_1000 ?_
  refine gw_aload_n (q := 0) dX0_pointY_3 rfl rfl ?_
  obtain ⟨g1, h⟩ := h
  refine gw_gI fX0_28 dX0_pointY_4 g1 ?_
  refine gw_imul dX0_pointY_7 ?_
  refine gw_aload_n (q := 0) dX0_pointY_8 rfl rfl ?_
  refine gw_iload_n (q := 1) dX0_pointY_9 rfl rfl ?_
  refine gw_iload_n (q := 2) dX0_pointY_10 rfl rfl ?_
  refine gw_bipush (v := 12) dX0_pointY_11 bp_12 ?_
  refine gw_vC (bs := [.inl v1, .inl v2, .inl 12]) (st := [.inl (1000 * (σ.2.1 v0 5))]) (vmX0_reach) lX0_54 dX0_pointY_13 ⟨by decide, rfl, rfl, by decide, by decide⟩ (Nat.le_of_ble_eq_true rfl) rfl rfl g1 h (kI (fun x2 σ2 h n2 => ?_))
  refine gw_iadd dX0_pointY_16 ?_
  exact gw_rI dX0_pointY_17 rfl (by decide) (by decide) h
set_option maxHeartbeats 4000000 in
set_option maxRecDepth 20000 in
theorem eX0_tipX {l : Launch} {v0 : Nat} {v1 : Int32} {σ : Sg} {K : Int32 → Sg → Prop} (h : Ob σ v0 0 ∧ Con l mX0_reach [.inr v0, .inl v1, .inl (σ.2.1 v0 6), .inl 0] σ (PI (fun x2 σ2 => K ((1000 * (σ.2.1 v0 4)) + x2) σ2))) : Con l mX0_tipX [.inr v0, .inl v1] σ (PI K) := by
  refine con_gw rfl (Nat.le_of_ble_eq_true rfl) ?_
  show GW l mX0_tipX 0 [(0, .inr v0), (1, .inl v1)] [] σ 0 0 (PI K)
  refine gw_sipush (v := 1000) dX0_tipX_0 sp_1000 ?_
  refine gw_aload_n (q := 0) dX0_tipX_3 rfl rfl ?_
  obtain ⟨g1, h⟩ := h
  refine gw_gI fX0_24 dX0_tipX_4 g1 ?_
  refine gw_imul dX0_tipX_7 ?_
  refine gw_aload_n (q := 0) dX0_tipX_8 rfl rfl ?_
  refine gw_iload_n (q := 1) dX0_tipX_9 rfl rfl ?_
  refine gw_aload_n (q := 0) dX0_tipX_10 rfl rfl ?_
  refine gw_gI fX0_31 dX0_tipX_11 g1 ?_
  refine gw_iconst (v := 0) dX0_tipX_14 ic_0 ?_
  refine gw_vC (bs := [.inl v1, .inl (σ.2.1 v0 6), .inl 0]) (st := [.inl (1000 * (σ.2.1 v0 4))]) (vmX0_reach) lX0_54 dX0_tipX_15 ⟨by decide, rfl, rfl, by decide, by decide⟩ (Nat.le_of_ble_eq_true rfl) rfl rfl g1 h (kI (fun x2 σ2 h n2 => ?_))
  refine gw_iadd dX0_tipX_18 ?_
  exact gw_rI dX0_tipX_19 rfl (by decide) (by decide) h
set_option maxHeartbeats 4000000 in
set_option maxRecDepth 20000 in
theorem eX0_tipY {l : Launch} {v0 : Nat} {v1 : Int32} {σ : Sg} {K : Int32 → Sg → Prop} (h : Ob σ v0 0 ∧ Con l mX0_reach [.inr v0, .inl v1, .inl (σ.2.1 v0 6), .inl 12] σ (PI (fun x2 σ2 => K ((1000 * (σ.2.1 v0 5)) + x2) σ2))) : Con l mX0_tipY [.inr v0, .inl v1] σ (PI K) := by
  refine con_gw rfl (Nat.le_of_ble_eq_true rfl) ?_
  show GW l mX0_tipY 0 [(0, .inr v0), (1, .inl v1)] [] σ 0 0 (PI K)
  refine gw_sipush (v := 1000) dX0_tipY_0 sp_1000 ?_
  refine gw_aload_n (q := 0) dX0_tipY_3 rfl rfl ?_
  obtain ⟨g1, h⟩ := h
  refine gw_gI fX0_28 dX0_tipY_4 g1 ?_
  refine gw_imul dX0_tipY_7 ?_
  refine gw_aload_n (q := 0) dX0_tipY_8 rfl rfl ?_
  refine gw_iload_n (q := 1) dX0_tipY_9 rfl rfl ?_
  refine gw_aload_n (q := 0) dX0_tipY_10 rfl rfl ?_
  refine gw_gI fX0_31 dX0_tipY_11 g1 ?_
  refine gw_bipush (v := 12) dX0_tipY_14 bp_12 ?_
  refine gw_vC (bs := [.inl v1, .inl (σ.2.1 v0 6), .inl 12]) (st := [.inl (1000 * (σ.2.1 v0 5))]) (vmX0_reach) lX0_54 dX0_tipY_16 ⟨by decide, rfl, rfl, by decide, by decide⟩ (Nat.le_of_ble_eq_true rfl) rfl rfl g1 h (kI (fun x2 σ2 h n2 => ?_))
  refine gw_iadd dX0_tipY_19 ?_
  exact gw_rI dX0_tipY_20 rfl (by decide) (by decide) h
set_option maxHeartbeats 4000000 in
set_option maxRecDepth 20000 in
theorem gX0_reach_9 {l : Launch} {v0 : Nat} {v1 : Int32} {v2 : Int32} {v3 : Int32} {v4 : Int32} {v5 : Int32} {v6 : Int32} {σ : Sg} {K : Int32 → Sg → Prop} (h : ((v2 ≤ v6 → K v4 σ) ∧ (¬ v2 ≤ v6 → ((3 ≤ v6 → K v4 σ) ∧ (¬ 3 ≤ v6 → Con l mX11_placeOf [.inl v1, .inl v6] σ (PI (fun x3 σ3 => Ob σ3 v0 0 ∧ Ai σ3 (σ3.2.2 v0 0) v6 ∧ vp_in ((v5 + x3) &&& 15) 16 ∧ GW l mX0_reach 9 [(0, .inr v0), (1, .inl v1), (2, .inl v2), (3, .inl v3), (4, .inl (v4 + ((σ3.2.1 (σ3.2.2 v0 0) v6.toNatClampNeg) * (xtab.getD ((v5 + x3) &&& 15).toNatClampNeg 0)))), (5, .inl (v5 + x3)), (6, .inl (v6 + 1))] [] σ3 0 0 (PI K)))))))) : GW l mX0_reach 9 [(0, .inr v0), (1, .inl v1), (2, .inl v2), (3, .inl v3), (4, .inl v4), (5, .inl v5), (6, .inl v6)] [] σ 0 0 (PI K) := by
  refine gw_iload (q := 6) dX0_reach_9 rfl ?_
  refine gw_iload_n (q := 2) dX0_reach_11 rfl rfl ?_
  refine gw_icmp_ge (tgt := 60) dX0_reach_12 (by decide) (fun c1 => ?_) (fun c1 => ?_)
  · replace h := h.1 c1
    refine gw_iload (q := 4) dX0_reach_60 rfl ?_
    exact gw_rI dX0_reach_62 rfl (by decide) (by decide) h
  · replace h := h.2 c1
    refine gw_iload (q := 6) dX0_reach_15 rfl ?_
    refine gw_iconst (v := 3) dX0_reach_17 ic_3 ?_
    refine gw_icmp_ge (tgt := 60) dX0_reach_18 (by decide) (fun c2 => ?_) (fun c2 => ?_)
    · replace h := h.1 c2
      refine gw_iload (q := 4) dX0_reach_60 rfl ?_
      exact gw_rI dX0_reach_62 rfl (by decide) (by decide) h
    · replace h := h.2 c2
      refine gw_iload (q := 5) dX0_reach_21 rfl ?_
      refine gw_iload_n (q := 1) dX0_reach_23 rfl rfl ?_
      refine gw_iload (q := 6) dX0_reach_24 rfl ?_
      refine gw_sC (bs := [.inl v1, .inl v6]) (st := [.inl v5]) smX11_placeOf lX0_46 dX0_reach_26 ⟨by decide, rfl, rfl, by decide, by decide⟩ (Nat.le_of_ble_eq_true rfl) rfl rfl h (kI (fun x3 σ3 h n3 => ?_))
      refine gw_iadd dX0_reach_29 ?_
      refine gw_istore (lo' := [(0, .inr v0), (1, .inl v1), (2, .inl v2), (3, .inl v3), (4, .inl v4), (5, .inl (v5 + x3)), (6, .inl v6)]) dX0_reach_30 (by decide) rfl ?_
      refine gw_iload (q := 4) dX0_reach_32 rfl ?_
      refine gw_aload_n (q := 0) dX0_reach_34 rfl rfl ?_
      obtain ⟨g4, h⟩ := h
      refine gw_gR fX0_9 dX0_reach_35 g4 ?_
      refine gw_iload (q := 6) dX0_reach_38 rfl ?_
      obtain ⟨g5, h⟩ := h
      refine gw_aI dX0_reach_40 g5 ?_
      refine gw_getX (Or.inr ⟨_, xgX0_58⟩) dX0_reach_41 ?_
      refine gw_iload (q := 5) dX0_reach_44 rfl ?_
      refine gw_bipush (v := 15) dX0_reach_46 bp_15 ?_
      refine gw_iand dX0_reach_48 ?_
      obtain ⟨g6, h⟩ := h
      refine gw_Xald dX0_reach_49 g6 ?_
      refine gw_imul dX0_reach_50 ?_
      refine gw_iadd dX0_reach_51 ?_
      refine gw_istore (lo' := [(0, .inr v0), (1, .inl v1), (2, .inl v2), (3, .inl v3), (4, .inl (v4 + ((σ3.2.1 (σ3.2.2 v0 0) v6.toNatClampNeg) * (xtab.getD ((v5 + x3) &&& 15).toNatClampNeg 0)))), (5, .inl (v5 + x3)), (6, .inl v6)]) dX0_reach_52 (by decide) rfl ?_
      refine gw_inc (lo' := [(0, .inr v0), (1, .inl v1), (2, .inl v2), (3, .inl v3), (4, .inl (v4 + ((σ3.2.1 (σ3.2.2 v0 0) v6.toNatClampNeg) * (xtab.getD ((v5 + x3) &&& 15).toNatClampNeg 0)))), (5, .inl (v5 + x3)), (6, .inl (v6 + 1))]) (q := 6) (c := 1) dX0_reach_54 ic_1 rfl (by decide) rfl ?_
      refine gw_goto (tgt := 9) dX0_reach_57 (by decide) ?_
      exact h
set_option maxHeartbeats 4000000 in
set_option maxRecDepth 20000 in
theorem eX0_reach {l : Launch} {v0 : Nat} {v1 : Int32} {v2 : Int32} {v3 : Int32} {σ : Sg} {K : Int32 → Sg → Prop} (h : GW l mX0_reach 9 [(0, .inr v0), (1, .inl v1), (2, .inl v2), (3, .inl v3), (4, .inl 0), (5, .inl v3), (6, .inl 0)] [] σ 0 0 (PI K)) : Con l mX0_reach [.inr v0, .inl v1, .inl v2, .inl v3] σ (PI K) := by
  refine con_gw rfl (Nat.le_of_ble_eq_true rfl) ?_
  show GW l mX0_reach 0 [(0, .inr v0), (1, .inl v1), (2, .inl v2), (3, .inl v3)] [] σ 0 0 (PI K)
  refine gw_iconst (v := 0) dX0_reach_0 ic_0 ?_
  refine gw_istore (lo' := [(0, .inr v0), (1, .inl v1), (2, .inl v2), (3, .inl v3), (4, .inl 0)]) dX0_reach_1 (by decide) rfl ?_
  refine gw_iload_n (q := 3) dX0_reach_3 rfl rfl ?_
  refine gw_istore (lo' := [(0, .inr v0), (1, .inl v1), (2, .inl v2), (3, .inl v3), (4, .inl 0), (5, .inl v3)]) dX0_reach_4 (by decide) rfl ?_
  refine gw_iconst (v := 0) dX0_reach_6 ic_0 ?_
  refine gw_istore (lo' := [(0, .inr v0), (1, .inl v1), (2, .inl v2), (3, .inl v3), (4, .inl 0), (5, .inl v3), (6, .inl 0)]) dX0_reach_7 (by decide) rfl ?_
  exact h
set_option maxHeartbeats 4000000 in
set_option maxRecDepth 20000 in
theorem gX0_hopBetween_5 {l : Launch} {v0 : Nat} {v1 : Int32} {v2 : Int32} {v3 : Int32} {v4 : Int32} {σ : Sg} {K : Int32 → Sg → Prop} (h : Ob σ v0 0 ∧ (((σ.2.1 v0 6) ≤ v4 → K v3 σ) ∧ (¬ (σ.2.1 v0 6) ≤ v4 → ((3 ≤ v4 → K v3 σ) ∧ (¬ 3 ≤ v4 → Con l mX11_placeOf [.inl v1, .inl v4] σ (PI (fun x4 σ4 => Con l mX11_placeOf [.inl v2, .inl v4] σ4 (PI (fun x5 σ5 => Con l mJ9_abs_0f7a4 [.inl (x4 - x5)] σ5 (PI (fun x6 σ6 => Ai σ6 (σ6.2.2 v0 3) v4 ∧ (((σ6.2.1 (σ6.2.2 v0 3) v4.toNatClampNeg) ≤ 0 → GW l mX0_hopBetween 5 [(0, .inr v0), (1, .inl v1), (2, .inl v2), (3, .inl v3), (4, .inl (v4 + 1))] [] σ6 0 0 (PI K)) ∧ (¬ (σ6.2.1 (σ6.2.2 v0 3) v4.toNatClampNeg) ≤ 0 → ¬ (σ6.2.1 (σ6.2.2 v0 3) v4.toNatClampNeg) = 0 ∧ Con l mJ9_max_7cf53 [.inl v3, .inl (((x6 + (σ6.2.1 (σ6.2.2 v0 3) v4.toNatClampNeg)) - 1) / (σ6.2.1 (σ6.2.2 v0 3) v4.toNatClampNeg))] σ6 (PI (fun x10 σ10 => GW l mX0_hopBetween 5 [(0, .inr v0), (1, .inl v1), (2, .inl v2), (3, .inl x10), (4, .inl (v4 + 1))] [] σ10 0 0 (PI K)))))))))))))))) : GW l mX0_hopBetween 5 [(0, .inr v0), (1, .inl v1), (2, .inl v2), (3, .inl v3), (4, .inl v4)] [] σ 0 0 (PI K) := by
  refine gw_iload (q := 4) dX0_hopBetween_5 rfl ?_
  refine gw_aload_n (q := 0) dX0_hopBetween_7 rfl rfl ?_
  obtain ⟨g1, h⟩ := h
  refine gw_gI fX0_31 dX0_hopBetween_8 g1 ?_
  refine gw_icmp_ge (tgt := 73) dX0_hopBetween_11 (by decide) (fun c2 => ?_) (fun c2 => ?_)
  · replace h := h.1 c2
    refine gw_iload_n (q := 3) dX0_hopBetween_73 rfl rfl ?_
    exact gw_rI dX0_hopBetween_74 rfl (by decide) (by decide) h
  · replace h := h.2 c2
    refine gw_iload (q := 4) dX0_hopBetween_14 rfl ?_
    refine gw_iconst (v := 3) dX0_hopBetween_16 ic_3 ?_
    refine gw_icmp_ge (tgt := 73) dX0_hopBetween_17 (by decide) (fun c3 => ?_) (fun c3 => ?_)
    · replace h := h.1 c3
      refine gw_iload_n (q := 3) dX0_hopBetween_73 rfl rfl ?_
      exact gw_rI dX0_hopBetween_74 rfl (by decide) (by decide) h
    · replace h := h.2 c3
      refine gw_iload_n (q := 1) dX0_hopBetween_20 rfl rfl ?_
      refine gw_iload (q := 4) dX0_hopBetween_21 rfl ?_
      refine gw_sC (bs := [.inl v1, .inl v4]) (st := []) smX11_placeOf lX0_46 dX0_hopBetween_23 ⟨by decide, rfl, rfl, by decide, by decide⟩ (Nat.le_of_ble_eq_true rfl) rfl rfl h (kI (fun x4 σ4 h n4 => ?_))
      refine gw_iload_n (q := 2) dX0_hopBetween_26 rfl rfl ?_
      refine gw_iload (q := 4) dX0_hopBetween_27 rfl ?_
      refine gw_sC (bs := [.inl v2, .inl v4]) (st := [.inl x4]) smX11_placeOf lX0_46 dX0_hopBetween_29 ⟨by decide, rfl, rfl, by decide, by decide⟩ (Nat.le_of_ble_eq_true rfl) rfl rfl h (kI (fun x5 σ5 h n5 => ?_))
      refine gw_isub dX0_hopBetween_32 ?_
      refine gw_sC (bs := [.inl (x4 - x5)]) (st := []) smJ9_abs_0f7a4 lX0_61 dX0_hopBetween_33 ⟨by decide, rfl, rfl, by decide, by decide⟩ (Nat.le_of_ble_eq_true rfl) rfl rfl h (kI (fun x6 σ6 h n6 => ?_))
      refine gw_istore (lo' := [(0, .inr v0), (1, .inl v1), (2, .inl v2), (3, .inl v3), (4, .inl v4), (5, .inl x6)]) dX0_hopBetween_36 (by decide) rfl ?_
      refine gw_aload_n (q := 0) dX0_hopBetween_38 rfl rfl ?_
      refine gw_gR fX0_21 dX0_hopBetween_39 (((g1.up n4).up n5).up n6) ?_
      refine gw_iload (q := 4) dX0_hopBetween_42 rfl ?_
      obtain ⟨g7, h⟩ := h
      refine gw_aI dX0_hopBetween_44 g7 ?_
      refine gw_istore (lo' := [(0, .inr v0), (1, .inl v1), (2, .inl v2), (3, .inl v3), (4, .inl v4), (5, .inl x6), (6, .inl (σ6.2.1 (σ6.2.2 v0 3) v4.toNatClampNeg))]) dX0_hopBetween_45 (by decide) rfl ?_
      refine gw_iload (q := 6) dX0_hopBetween_47 rfl ?_
      refine gw_if_le (tgt := 67) dX0_hopBetween_49 (by decide) (fun c8 => ?_) (fun c8 => ?_)
      · replace h := h.1 c8
        refine gw_inc (lo' := [(0, .inr v0), (1, .inl v1), (2, .inl v2), (3, .inl v3), (4, .inl (v4 + 1)), (5, .inl x6), (6, .inl (σ6.2.1 (σ6.2.2 v0 3) v4.toNatClampNeg))]) (q := 4) (c := 1) dX0_hopBetween_67 ic_1 rfl (by decide) rfl ?_
        refine gw_goto (tgt := 5) dX0_hopBetween_70 (by decide) ?_
        refine gw_pick [0, 1, 2, 3, 4] rfl ?_
        exact h
      · replace h := h.2 c8
        refine gw_iload_n (q := 3) dX0_hopBetween_52 rfl rfl ?_
        refine gw_iload (q := 5) dX0_hopBetween_53 rfl ?_
        refine gw_iload (q := 6) dX0_hopBetween_55 rfl ?_
        refine gw_iadd dX0_hopBetween_57 ?_
        refine gw_iconst (v := 1) dX0_hopBetween_58 ic_1 ?_
        refine gw_isub dX0_hopBetween_59 ?_
        refine gw_iload (q := 6) dX0_hopBetween_60 rfl ?_
        obtain ⟨g9, h⟩ := h
        refine gw_idiv dX0_hopBetween_62 g9 ?_
        refine gw_sC (bs := [.inl v3, .inl (((x6 + (σ6.2.1 (σ6.2.2 v0 3) v4.toNatClampNeg)) - 1) / (σ6.2.1 (σ6.2.2 v0 3) v4.toNatClampNeg))]) (st := []) smJ9_max_7cf53 lX0_67 dX0_hopBetween_63 ⟨by decide, rfl, rfl, by decide, by decide⟩ (Nat.le_of_ble_eq_true rfl) rfl rfl h (kI (fun x10 σ10 h n10 => ?_))
        refine gw_istore_n (lo' := [(0, .inr v0), (1, .inl v1), (2, .inl v2), (3, .inl x10), (4, .inl v4), (5, .inl x6), (6, .inl (σ6.2.1 (σ6.2.2 v0 3) v4.toNatClampNeg))]) dX0_hopBetween_66 rfl (by decide) rfl ?_
        refine gw_inc (lo' := [(0, .inr v0), (1, .inl v1), (2, .inl v2), (3, .inl x10), (4, .inl (v4 + 1)), (5, .inl x6), (6, .inl (σ6.2.1 (σ6.2.2 v0 3) v4.toNatClampNeg))]) (q := 4) (c := 1) dX0_hopBetween_67 ic_1 rfl (by decide) rfl ?_
        refine gw_goto (tgt := 5) dX0_hopBetween_70 (by decide) ?_
        refine gw_pick [0, 1, 2, 3, 4] rfl ?_
        exact h
set_option maxHeartbeats 4000000 in
set_option maxRecDepth 20000 in
theorem eX0_hopBetween {l : Launch} {v0 : Nat} {v1 : Int32} {v2 : Int32} {σ : Sg} {K : Int32 → Sg → Prop} (h : GW l mX0_hopBetween 5 [(0, .inr v0), (1, .inl v1), (2, .inl v2), (3, .inl 0), (4, .inl 0)] [] σ 0 0 (PI K)) : Con l mX0_hopBetween [.inr v0, .inl v1, .inl v2] σ (PI K) := by
  refine con_gw rfl (Nat.le_of_ble_eq_true rfl) ?_
  show GW l mX0_hopBetween 0 [(0, .inr v0), (1, .inl v1), (2, .inl v2)] [] σ 0 0 (PI K)
  refine gw_iconst (v := 0) dX0_hopBetween_0 ic_0 ?_
  refine gw_istore_n (lo' := [(0, .inr v0), (1, .inl v1), (2, .inl v2), (3, .inl 0)]) dX0_hopBetween_1 rfl (by decide) rfl ?_
  refine gw_iconst (v := 0) dX0_hopBetween_2 ic_0 ?_
  refine gw_istore (lo' := [(0, .inr v0), (1, .inl v1), (2, .inl v2), (3, .inl 0), (4, .inl 0)]) dX0_hopBetween_3 (by decide) rfl ?_
  exact h
set_option maxHeartbeats 4000000 in
set_option maxRecDepth 20000 in
theorem eX0_ticksBetween {l : Launch} {v0 : Nat} {v1 : Int32} {v2 : Int32} {σ : Sg} {K : Int32 → Sg → Prop} (h : Ob σ v0 0 ∧ Con l mX0_hopBetween [.inr v0, .inl v1, .inl v2] σ (PI (fun x1 σ1 => Con l mJ9_max_7cf53 [.inl (x1 - 1), .inl 0] σ1 (PI (fun x3 σ3 => K x3 σ3))))) : Con l mX0_ticksBetween [.inr v0, .inl v1, .inl v2] σ (PI K) := by
  refine con_gw rfl (Nat.le_of_ble_eq_true rfl) ?_
  show GW l mX0_ticksBetween 0 [(0, .inr v0), (1, .inl v1), (2, .inl v2)] [] σ 0 0 (PI K)
  refine gw_aload_n (q := 0) dX0_ticksBetween_0 rfl rfl ?_
  refine gw_iload_n (q := 1) dX0_ticksBetween_1 rfl rfl ?_
  refine gw_iload_n (q := 2) dX0_ticksBetween_2 rfl rfl ?_
  obtain ⟨g2, h⟩ := h
  refine gw_vC (bs := [.inl v1, .inl v2]) (st := []) (vmX0_hopBetween) lX0_70 dX0_ticksBetween_3 ⟨by decide, rfl, rfl, by decide, by decide⟩ (Nat.le_of_ble_eq_true rfl) rfl rfl g2 h (kI (fun x1 σ1 h n1 => ?_))
  refine gw_iconst (v := 1) dX0_ticksBetween_6 ic_1 ?_
  refine gw_isub dX0_ticksBetween_7 ?_
  refine gw_iconst (v := 0) dX0_ticksBetween_8 ic_0 ?_
  refine gw_sC (bs := [.inl (x1 - 1), .inl 0]) (st := []) smJ9_max_7cf53 lX0_67 dX0_ticksBetween_9 ⟨by decide, rfl, rfl, by decide, by decide⟩ (Nat.le_of_ble_eq_true rfl) rfl rfl h (kI (fun x3 σ3 h n3 => ?_))
  exact gw_rI dX0_ticksBetween_12 rfl (by decide) (by decide) h
set_option maxHeartbeats 4000000 in
set_option maxRecDepth 20000 in
theorem gX0_poseOnWay_6 {l : Launch} {v0 : Nat} {v1 : Int32} {v2 : Int32} {v3 : Int32} {v4 : Int32} {v5 : Int32} {v6 : Int32} {σ : Sg} {K : Int32 → Sg → Prop} (h : Ob σ v0 0 ∧ (((σ.2.1 v0 6) ≤ v6 → K v5 σ) ∧ (¬ (σ.2.1 v0 6) ≤ v6 → ((v4 ≤ 0 → K v5 σ) ∧ (¬ v4 ≤ 0 → Con l mX11_placeOf [.inl v1, .inl v6] σ (PI (fun x4 σ4 => Con l mX11_placeOf [.inl v2, .inl v6] σ4 (PI (fun x5 σ5 => ¬ v4 = 0 ∧ Con l mX11_withPlace [.inl v5, .inl v6, .inl (x4 + (((x5 - x4) * v3) / v4))] σ5 (PI (fun x7 σ7 => GW l mX0_poseOnWay 6 [(0, .inr v0), (1, .inl v1), (2, .inl v2), (3, .inl v3), (4, .inl v4), (5, .inl x7), (6, .inl (v6 + 1))] [] σ7 0 0 (PI K)))))))))))) : GW l mX0_poseOnWay 6 [(0, .inr v0), (1, .inl v1), (2, .inl v2), (3, .inl v3), (4, .inl v4), (5, .inl v5), (6, .inl v6)] [] σ 0 0 (PI K) := by
  refine gw_iload (q := 6) dX0_poseOnWay_6 rfl ?_
  refine gw_aload_n (q := 0) dX0_poseOnWay_8 rfl rfl ?_
  obtain ⟨g1, h⟩ := h
  refine gw_gI fX0_31 dX0_poseOnWay_9 g1 ?_
  refine gw_icmp_ge (tgt := 64) dX0_poseOnWay_12 (by decide) (fun c2 => ?_) (fun c2 => ?_)
  · replace h := h.1 c2
    refine gw_iload (q := 5) dX0_poseOnWay_64 rfl ?_
    exact gw_rI dX0_poseOnWay_66 rfl (by decide) (by decide) h
  · replace h := h.2 c2
    refine gw_iload (q := 4) dX0_poseOnWay_15 rfl ?_
    refine gw_if_le (tgt := 64) dX0_poseOnWay_17 (by decide) (fun c3 => ?_) (fun c3 => ?_)
    · replace h := h.1 c3
      refine gw_iload (q := 5) dX0_poseOnWay_64 rfl ?_
      exact gw_rI dX0_poseOnWay_66 rfl (by decide) (by decide) h
    · replace h := h.2 c3
      refine gw_iload_n (q := 1) dX0_poseOnWay_20 rfl rfl ?_
      refine gw_iload (q := 6) dX0_poseOnWay_21 rfl ?_
      refine gw_sC (bs := [.inl v1, .inl v6]) (st := []) smX11_placeOf lX0_46 dX0_poseOnWay_23 ⟨by decide, rfl, rfl, by decide, by decide⟩ (Nat.le_of_ble_eq_true rfl) rfl rfl h (kI (fun x4 σ4 h n4 => ?_))
      refine gw_istore (lo' := [(0, .inr v0), (1, .inl v1), (2, .inl v2), (3, .inl v3), (4, .inl v4), (5, .inl v5), (6, .inl v6), (7, .inl x4)]) dX0_poseOnWay_26 (by decide) rfl ?_
      refine gw_iload (q := 7) dX0_poseOnWay_28 rfl ?_
      refine gw_iload_n (q := 2) dX0_poseOnWay_30 rfl rfl ?_
      refine gw_iload (q := 6) dX0_poseOnWay_31 rfl ?_
      refine gw_sC (bs := [.inl v2, .inl v6]) (st := [.inl x4]) smX11_placeOf lX0_46 dX0_poseOnWay_33 ⟨by decide, rfl, rfl, by decide, by decide⟩ (Nat.le_of_ble_eq_true rfl) rfl rfl h (kI (fun x5 σ5 h n5 => ?_))
      refine gw_iload (q := 7) dX0_poseOnWay_36 rfl ?_
      refine gw_isub dX0_poseOnWay_38 ?_
      refine gw_iload_n (q := 3) dX0_poseOnWay_39 rfl rfl ?_
      refine gw_imul dX0_poseOnWay_40 ?_
      refine gw_iload (q := 4) dX0_poseOnWay_41 rfl ?_
      obtain ⟨g6, h⟩ := h
      refine gw_idiv dX0_poseOnWay_43 g6 ?_
      refine gw_iadd dX0_poseOnWay_44 ?_
      refine gw_istore (lo' := [(0, .inr v0), (1, .inl v1), (2, .inl v2), (3, .inl v3), (4, .inl v4), (5, .inl v5), (6, .inl v6), (7, .inl x4), (8, .inl (x4 + (((x5 - x4) * v3) / v4)))]) dX0_poseOnWay_45 (by decide) rfl ?_
      refine gw_iload (q := 5) dX0_poseOnWay_47 rfl ?_
      refine gw_iload (q := 6) dX0_poseOnWay_49 rfl ?_
      refine gw_iload (q := 8) dX0_poseOnWay_51 rfl ?_
      refine gw_sC (bs := [.inl v5, .inl v6, .inl (x4 + (((x5 - x4) * v3) / v4))]) (st := []) smX11_withPlace lX0_73 dX0_poseOnWay_53 ⟨by decide, rfl, rfl, by decide, by decide⟩ (Nat.le_of_ble_eq_true rfl) rfl rfl h (kI (fun x7 σ7 h n7 => ?_))
      refine gw_istore (lo' := [(0, .inr v0), (1, .inl v1), (2, .inl v2), (3, .inl v3), (4, .inl v4), (5, .inl x7), (6, .inl v6), (7, .inl x4), (8, .inl (x4 + (((x5 - x4) * v3) / v4)))]) dX0_poseOnWay_56 (by decide) rfl ?_
      refine gw_inc (lo' := [(0, .inr v0), (1, .inl v1), (2, .inl v2), (3, .inl v3), (4, .inl v4), (5, .inl x7), (6, .inl (v6 + 1)), (7, .inl x4), (8, .inl (x4 + (((x5 - x4) * v3) / v4)))]) (q := 6) (c := 1) dX0_poseOnWay_58 ic_1 rfl (by decide) rfl ?_
      refine gw_goto (tgt := 6) dX0_poseOnWay_61 (by decide) ?_
      refine gw_pick [0, 1, 2, 3, 4, 5, 6] rfl ?_
      exact h
set_option maxHeartbeats 4000000 in
set_option maxRecDepth 20000 in
theorem eX0_poseOnWay {l : Launch} {v0 : Nat} {v1 : Int32} {v2 : Int32} {v3 : Int32} {v4 : Int32} {σ : Sg} {K : Int32 → Sg → Prop} (h : GW l mX0_poseOnWay 6 [(0, .inr v0), (1, .inl v1), (2, .inl v2), (3, .inl v3), (4, .inl v4), (5, .inl 0), (6, .inl 0)] [] σ 0 0 (PI K)) : Con l mX0_poseOnWay [.inr v0, .inl v1, .inl v2, .inl v3, .inl v4] σ (PI K) := by
  refine con_gw rfl (Nat.le_of_ble_eq_true rfl) ?_
  show GW l mX0_poseOnWay 0 [(0, .inr v0), (1, .inl v1), (2, .inl v2), (3, .inl v3), (4, .inl v4)] [] σ 0 0 (PI K)
  refine gw_iconst (v := 0) dX0_poseOnWay_0 ic_0 ?_
  refine gw_istore (lo' := [(0, .inr v0), (1, .inl v1), (2, .inl v2), (3, .inl v3), (4, .inl v4), (5, .inl 0)]) dX0_poseOnWay_1 (by decide) rfl ?_
  refine gw_iconst (v := 0) dX0_poseOnWay_3 ic_0 ?_
  refine gw_istore (lo' := [(0, .inr v0), (1, .inl v1), (2, .inl v2), (3, .inl v3), (4, .inl v4), (5, .inl 0), (6, .inl 0)]) dX0_poseOnWay_4 (by decide) rfl ?_
  exact h
set_option maxHeartbeats 4000000 in
set_option maxRecDepth 20000 in
theorem gX0_fillBody_22 {l : Launch} {v0 : Nat} {v1 : Int32} {v2 : Nat} {v3 : Int32} {v4 : Int32} {v5 : Int32} {v6 : Int32} {v7 : Int32} {σ : Sg} {K : Sg → Prop} (h : Ob σ v0 0 ∧ (((σ.2.1 v0 6) < v7 → K σ) ∧ (¬ (σ.2.1 v0 6) < v7 → ((v6 < 0 → K σ) ∧ (¬ v6 < 0 → Al σ v2 ∧ (((Int32.ofNat (shp v2).2) ≤ (v6 + 1) → K σ) ∧ (¬ (Int32.ofNat (shp v2).2) ≤ (v6 + 1) → Con l mX0_pointX [.inr v0, .inl v1, .inl v7] σ (PI (fun x6 σ6 => Con l mX0_pointY [.inr v0, .inl v1, .inl v7] σ6 (PI (fun x7 σ7 => Con l mJ9_floorDiv_7cf53 [.inl (v4 + x6), .inl 2] σ7 (PI (fun x8 σ8 => Con l mJ9_floorDiv_7cf53 [.inl (v5 + x7), .inl 2] σ8 (PI (fun x9 σ9 => Con l mX0_cellOf [.inl x8, .inl x9] σ9 (PI (fun x10 σ10 => Ai σ10 v2 v6 ∧ ∀ σ12, σ12 = w1 σ10 v2 v6.toNatClampNeg x10 → Con l mX0_cellOf [.inl x6, .inl x7] σ12 (PI (fun x13 σ13 => Ai σ13 v2 (v6 + 1) ∧ ∀ σ15, σ15 = w1 σ13 v2 (v6 + 1).toNatClampNeg x13 → GW l mX0_fillBody 22 [(0, .inr v0), (1, .inl v1), (2, .inr v2), (3, .inl v3), (4, .inl x6), (5, .inl x7), (6, .inl (v6 + 2)), (7, .inl (v7 + 1))] [] σ15 0 0 (PV K)))))))))))))))))))) : GW l mX0_fillBody 22 [(0, .inr v0), (1, .inl v1), (2, .inr v2), (3, .inl v3), (4, .inl v4), (5, .inl v5), (6, .inl v6), (7, .inl v7)] [] σ 0 0 (PV K) := by
  refine gw_iload (q := 7) dX0_fillBody_22 rfl ?_
  refine gw_aload_n (q := 0) dX0_fillBody_24 rfl rfl ?_
  obtain ⟨g1, h⟩ := h
  refine gw_gI fX0_31 dX0_fillBody_25 g1 ?_
  refine gw_icmp_gt (tgt := 118) dX0_fillBody_28 (by decide) (fun c2 => ?_) (fun c2 => ?_)
  · replace h := h.1 c2
    exact gw_rV dX0_fillBody_118 rfl (by decide) (by decide) h
  · replace h := h.2 c2
    refine gw_iload (q := 6) dX0_fillBody_31 rfl ?_
    refine gw_if_lt (tgt := 118) dX0_fillBody_33 (by decide) (fun c3 => ?_) (fun c3 => ?_)
    · replace h := h.1 c3
      exact gw_rV dX0_fillBody_118 rfl (by decide) (by decide) h
    · replace h := h.2 c3
      refine gw_iload (q := 6) dX0_fillBody_36 rfl ?_
      refine gw_iconst (v := 1) dX0_fillBody_38 ic_1 ?_
      refine gw_iadd dX0_fillBody_39 ?_
      refine gw_aload_n (q := 2) dX0_fillBody_40 rfl rfl ?_
      obtain ⟨g4, h⟩ := h
      refine gw_aL dX0_fillBody_41 g4 ?_
      refine gw_icmp_ge (tgt := 118) dX0_fillBody_42 (by decide) (fun c5 => ?_) (fun c5 => ?_)
      · replace h := h.1 c5
        exact gw_rV dX0_fillBody_118 rfl (by decide) (by decide) h
      · replace h := h.2 c5
        refine gw_aload_n (q := 0) dX0_fillBody_45 rfl rfl ?_
        refine gw_iload_n (q := 1) dX0_fillBody_46 rfl rfl ?_
        refine gw_iload (q := 7) dX0_fillBody_47 rfl ?_
        refine gw_vC (bs := [.inl v1, .inl v7]) (st := []) (vmX0_pointX) lX0_76 dX0_fillBody_49 ⟨by decide, rfl, rfl, by decide, by decide⟩ (Nat.le_of_ble_eq_true rfl) rfl rfl g1 h (kI (fun x6 σ6 h n6 => ?_))
        refine gw_istore (lo' := [(0, .inr v0), (1, .inl v1), (2, .inr v2), (3, .inl v3), (4, .inl v4), (5, .inl v5), (6, .inl v6), (7, .inl v7), (8, .inl x6)]) dX0_fillBody_52 (by decide) rfl ?_
        refine gw_aload_n (q := 0) dX0_fillBody_54 rfl rfl ?_
        refine gw_iload_n (q := 1) dX0_fillBody_55 rfl rfl ?_
        refine gw_iload (q := 7) dX0_fillBody_56 rfl ?_
        refine gw_vC (bs := [.inl v1, .inl v7]) (st := []) (vmX0_pointY) lX0_79 dX0_fillBody_58 ⟨by decide, rfl, rfl, by decide, by decide⟩ (Nat.le_of_ble_eq_true rfl) rfl rfl (g1.up n6) h (kI (fun x7 σ7 h n7 => ?_))
        refine gw_istore (lo' := [(0, .inr v0), (1, .inl v1), (2, .inr v2), (3, .inl v3), (4, .inl v4), (5, .inl v5), (6, .inl v6), (7, .inl v7), (8, .inl x6), (9, .inl x7)]) dX0_fillBody_61 (by decide) rfl ?_
        refine gw_aload_n (q := 2) dX0_fillBody_63 rfl rfl ?_
        refine gw_iload (q := 6) dX0_fillBody_64 rfl ?_
        refine gw_iload (q := 4) dX0_fillBody_66 rfl ?_
        refine gw_iload (q := 8) dX0_fillBody_68 rfl ?_
        refine gw_iadd dX0_fillBody_70 ?_
        refine gw_iconst (v := 2) dX0_fillBody_71 ic_2 ?_
        refine gw_sC (bs := [.inl (v4 + x6), .inl 2]) (st := [.inl v6, .inr v2]) smJ9_floorDiv_7cf53 lX0_82 dX0_fillBody_72 ⟨by decide, rfl, rfl, by decide, by decide⟩ (Nat.le_of_ble_eq_true rfl) rfl rfl h (kI (fun x8 σ8 h n8 => ?_))
        refine gw_iload (q := 5) dX0_fillBody_75 rfl ?_
        refine gw_iload (q := 9) dX0_fillBody_77 rfl ?_
        refine gw_iadd dX0_fillBody_79 ?_
        refine gw_iconst (v := 2) dX0_fillBody_80 ic_2 ?_
        refine gw_sC (bs := [.inl (v5 + x7), .inl 2]) (st := [.inl x8, .inl v6, .inr v2]) smJ9_floorDiv_7cf53 lX0_82 dX0_fillBody_81 ⟨by decide, rfl, rfl, by decide, by decide⟩ (Nat.le_of_ble_eq_true rfl) rfl rfl h (kI (fun x9 σ9 h n9 => ?_))
        refine gw_sC (bs := [.inl x8, .inl x9]) (st := [.inl v6, .inr v2]) smX0_cellOf lX0_85 dX0_fillBody_84 ⟨by decide, rfl, rfl, by decide, by decide⟩ (Nat.le_of_ble_eq_true rfl) rfl rfl h (kI (fun x10 σ10 h n10 => ?_))
        obtain ⟨g11, h⟩ := h
        refine gw_sI dX0_fillBody_87 g11 (fun σ12 e12 => ?_)
        replace h := h σ12 e12
        refine gw_aload_n (q := 2) dX0_fillBody_88 rfl rfl ?_
        refine gw_iload (q := 6) dX0_fillBody_89 rfl ?_
        refine gw_iconst (v := 1) dX0_fillBody_91 ic_1 ?_
        refine gw_iadd dX0_fillBody_92 ?_
        refine gw_iload (q := 8) dX0_fillBody_93 rfl ?_
        refine gw_iload (q := 9) dX0_fillBody_95 rfl ?_
        refine gw_sC (bs := [.inl x6, .inl x7]) (st := [.inl (v6 + 1), .inr v2]) smX0_cellOf lX0_85 dX0_fillBody_97 ⟨by decide, rfl, rfl, by decide, by decide⟩ (Nat.le_of_ble_eq_true rfl) rfl rfl h (kI (fun x13 σ13 h n13 => ?_))
        obtain ⟨g14, h⟩ := h
        refine gw_sI dX0_fillBody_100 g14 (fun σ15 e15 => ?_)
        replace h := h σ15 e15
        refine gw_inc (lo' := [(0, .inr v0), (1, .inl v1), (2, .inr v2), (3, .inl v3), (4, .inl v4), (5, .inl v5), (6, .inl (v6 + 2)), (7, .inl v7), (8, .inl x6), (9, .inl x7)]) (q := 6) (c := 2) dX0_fillBody_101 ic_2 rfl (by decide) rfl ?_
        refine gw_iload (q := 8) dX0_fillBody_104 rfl ?_
        refine gw_istore (lo' := [(0, .inr v0), (1, .inl v1), (2, .inr v2), (3, .inl v3), (4, .inl x6), (5, .inl v5), (6, .inl (v6 + 2)), (7, .inl v7), (8, .inl x6), (9, .inl x7)]) dX0_fillBody_106 (by decide) rfl ?_
        refine gw_iload (q := 9) dX0_fillBody_108 rfl ?_
        refine gw_istore (lo' := [(0, .inr v0), (1, .inl v1), (2, .inr v2), (3, .inl v3), (4, .inl x6), (5, .inl x7), (6, .inl (v6 + 2)), (7, .inl v7), (8, .inl x6), (9, .inl x7)]) dX0_fillBody_110 (by decide) rfl ?_
        refine gw_inc (lo' := [(0, .inr v0), (1, .inl v1), (2, .inr v2), (3, .inl v3), (4, .inl x6), (5, .inl x7), (6, .inl (v6 + 2)), (7, .inl (v7 + 1)), (8, .inl x6), (9, .inl x7)]) (q := 7) (c := 1) dX0_fillBody_112 ic_1 rfl (by decide) rfl ?_
        refine gw_goto (tgt := 22) dX0_fillBody_115 (by decide) ?_
        refine gw_pick [0, 1, 2, 3, 4, 5, 6, 7] rfl ?_
        exact h
set_option maxHeartbeats 4000000 in
set_option maxRecDepth 20000 in
theorem eX0_fillBody {l : Launch} {v0 : Nat} {v1 : Int32} {v2 : Nat} {v3 : Int32} {σ : Sg} {K : Sg → Prop} (h : Ob σ v0 0 ∧ Con l mX0_pointX [.inr v0, .inl v1, .inl 0] σ (PI (fun x1 σ1 => Con l mX0_pointY [.inr v0, .inl v1, .inl 0] σ1 (PI (fun x3 σ3 => GW l mX0_fillBody 22 [(0, .inr v0), (1, .inl v1), (2, .inr v2), (3, .inl v3), (4, .inl x1), (5, .inl x3), (6, .inl v3), (7, .inl 1)] [] σ3 0 0 (PV K)))))) : Con l mX0_fillBody [.inr v0, .inl v1, .inr v2, .inl v3] σ (PV K) := by
  refine con_gw rfl (Nat.le_of_ble_eq_true rfl) ?_
  show GW l mX0_fillBody 0 [(0, .inr v0), (1, .inl v1), (2, .inr v2), (3, .inl v3)] [] σ 0 0 (PV K)
  refine gw_aload_n (q := 0) dX0_fillBody_0 rfl rfl ?_
  refine gw_iload_n (q := 1) dX0_fillBody_1 rfl rfl ?_
  refine gw_iconst (v := 0) dX0_fillBody_2 ic_0 ?_
  obtain ⟨g2, h⟩ := h
  refine gw_vC (bs := [.inl v1, .inl 0]) (st := []) (vmX0_pointX) lX0_76 dX0_fillBody_3 ⟨by decide, rfl, rfl, by decide, by decide⟩ (Nat.le_of_ble_eq_true rfl) rfl rfl g2 h (kI (fun x1 σ1 h n1 => ?_))
  refine gw_istore (lo' := [(0, .inr v0), (1, .inl v1), (2, .inr v2), (3, .inl v3), (4, .inl x1)]) dX0_fillBody_6 (by decide) rfl ?_
  refine gw_aload_n (q := 0) dX0_fillBody_8 rfl rfl ?_
  refine gw_iload_n (q := 1) dX0_fillBody_9 rfl rfl ?_
  refine gw_iconst (v := 0) dX0_fillBody_10 ic_0 ?_
  refine gw_vC (bs := [.inl v1, .inl 0]) (st := []) (vmX0_pointY) lX0_79 dX0_fillBody_11 ⟨by decide, rfl, rfl, by decide, by decide⟩ (Nat.le_of_ble_eq_true rfl) rfl rfl (g2.up n1) h (kI (fun x3 σ3 h n3 => ?_))
  refine gw_istore (lo' := [(0, .inr v0), (1, .inl v1), (2, .inr v2), (3, .inl v3), (4, .inl x1), (5, .inl x3)]) dX0_fillBody_14 (by decide) rfl ?_
  refine gw_iload_n (q := 3) dX0_fillBody_16 rfl rfl ?_
  refine gw_istore (lo' := [(0, .inr v0), (1, .inl v1), (2, .inr v2), (3, .inl v3), (4, .inl x1), (5, .inl x3), (6, .inl v3)]) dX0_fillBody_17 (by decide) rfl ?_
  refine gw_iconst (v := 1) dX0_fillBody_19 ic_1 ?_
  refine gw_istore (lo' := [(0, .inr v0), (1, .inl v1), (2, .inr v2), (3, .inl v3), (4, .inl x1), (5, .inl x3), (6, .inl v3), (7, .inl 1)]) dX0_fillBody_20 (by decide) rfl ?_
  exact h
set_option maxHeartbeats 4000000 in
set_option maxRecDepth 20000 in
theorem eX0_cellOf {l : Launch} {v0 : Int32} {v1 : Int32} {σ : Sg} {K : Int32 → Sg → Prop} (h : Con l mJ9_floorDiv_7cf53 [.inl v0, .inl 1000] σ (PI (fun x1 σ1 => Con l mJ9_floorDiv_7cf53 [.inl v1, .inl 1000] σ1 (PI (fun x2 σ2 => K ((((x1 + 64) * 256) + x2) + 64) σ2))))) : Con l mX0_cellOf [.inl v0, .inl v1] σ (PI K) := by
  refine con_gw rfl (Nat.le_of_ble_eq_true rfl) ?_
  show GW l mX0_cellOf 0 [(0, .inl v0), (1, .inl v1)] [] σ 0 0 (PI K)
  refine gw_iload_n (q := 0) dX0_cellOf_0 rfl rfl ?_
  refine gw_sipush (v := 1000) dX0_cellOf_1 sp_1000 ?_
  refine gw_sC (bs := [.inl v0, .inl 1000]) (st := []) smJ9_floorDiv_7cf53 lX0_82 dX0_cellOf_4 ⟨by decide, rfl, rfl, by decide, by decide⟩ (Nat.le_of_ble_eq_true rfl) rfl rfl h (kI (fun x1 σ1 h n1 => ?_))
  refine gw_bipush (v := 64) dX0_cellOf_7 bp_64 ?_
  refine gw_iadd dX0_cellOf_9 ?_
  refine gw_sipush (v := 256) dX0_cellOf_10 sp_256 ?_
  refine gw_imul dX0_cellOf_13 ?_
  refine gw_iload_n (q := 1) dX0_cellOf_14 rfl rfl ?_
  refine gw_sipush (v := 1000) dX0_cellOf_15 sp_1000 ?_
  refine gw_sC (bs := [.inl v1, .inl 1000]) (st := [.inl ((x1 + 64) * 256)]) smJ9_floorDiv_7cf53 lX0_82 dX0_cellOf_18 ⟨by decide, rfl, rfl, by decide, by decide⟩ (Nat.le_of_ble_eq_true rfl) rfl rfl h (kI (fun x2 σ2 h n2 => ?_))
  refine gw_iadd dX0_cellOf_21 ?_
  refine gw_bipush (v := 64) dX0_cellOf_22 bp_64 ?_
  refine gw_iadd dX0_cellOf_24 ?_
  exact gw_rI dX0_cellOf_25 rfl (by decide) (by decide) h
