set_option maxHeartbeats 4000000 in
set_option maxRecDepth 20000 in
theorem eX11_init {l : Launch} {v0 : Nat} {σ : Sg} {K : Sg → Prop} (h : v0 ≠ 0 ∧ (shp (σ.1 + 1)).1 = 4 ∧ σ.1 + 1 ≤ 1000 ∧ ∀ x3 σ3, x3 = σ.1 + 1 → σ3 = nw σ → x3 ≠ 0 ∧ Con l mX4_init [.inr x3] σ3 (PV (fun σ4 => Ob σ4 v0 11 ∧ x3 ≤ σ4.1 ∧ ∀ σ8, σ8 = w2 σ4 v0 2 x3 → Ob σ8 (σ8.2.2 v0 2) 4 ∧ (σ8.2.2 (σ8.2.2 v0 2) 0) ≤ σ8.1 ∧ ∀ σ11, σ11 = w2 σ8 v0 0 (σ8.2.2 (σ8.2.2 v0 2) 0) → Ob σ11 (σ11.2.2 v0 2) 4 ∧ (σ11.2.2 (σ11.2.2 v0 2) 1) ≤ σ11.1 ∧ ∀ σ14, σ14 = w2 σ11 v0 1 (σ11.2.2 (σ11.2.2 v0 2) 1) → (shp (σ14.1 + 1)).1 = 2 ∧ σ14.1 + 1 ≤ 1000 ∧ ∀ x16 σ16, x16 = σ14.1 + 1 → σ16 = nw σ14 → x16 ≠ 0 ∧ Con l mX2_init [.inr x16] σ16 (PV (fun σ17 => x16 ≤ σ17.1 ∧ ∀ σ20, σ20 = w2 σ17 v0 3 x16 → (shp (σ20.1 + 1)).1 = 8 ∧ σ20.1 + 1 ≤ 1000 ∧ ∀ x22 σ22, x22 = σ20.1 + 1 → σ22 = nw σ20 → x22 ≠ 0 ∧ Con l mX8_init [.inr x22] σ22 (PV (fun σ23 => x22 ≤ σ23.1 ∧ ∀ σ26, σ26 = w2 σ23 v0 4 x22 → (shp (σ26.1 + 1)).1 = 1 ∧ σ26.1 + 1 ≤ 1000 ∧ ∀ x28 σ28, x28 = σ26.1 + 1 → σ28 = nw σ26 → x28 ≠ 0 ∧ Con l mX1_init [.inr x28] σ28 (PV (fun σ29 => x28 ≤ σ29.1 ∧ ∀ σ32, σ32 = w2 σ29 v0 5 x28 → (shp (σ32.1 + 1)).1 = 5 ∧ σ32.1 + 1 ≤ 1000 ∧ ∀ x34 σ34, x34 = σ32.1 + 1 → σ34 = nw σ32 → x34 ≠ 0 ∧ Con l mX5_init [.inr x34] σ34 (PV (fun σ35 => x34 ≤ σ35.1 ∧ ∀ σ38, σ38 = w2 σ35 v0 6 x34 → (shp (σ38.1 + 1)).1 = 6 ∧ σ38.1 + 1 ≤ 1000 ∧ ∀ x40 σ40, x40 = σ38.1 + 1 → σ40 = nw σ38 → x40 ≠ 0 ∧ Con l mX6_init [.inr x40] σ40 (PV (fun σ41 => x40 ≤ σ41.1 ∧ ∀ σ44, σ44 = w2 σ41 v0 7 x40 → ∀ σ45, σ45 = w1 σ44 v0 9 10 → ∀ σ46, σ46 = w1 σ45 v0 10 (-1) → ∀ σ47, σ47 = w1 σ46 v0 11 (-1) → K σ47))))))))))))) : Con l mX11_init [.inr v0] σ (PV K) := by
  refine con_gw rfl (Nat.le_of_ble_eq_true rfl) ?_
  show GW l mX11_init 0 [(0, .inr v0)] [] σ 0 0 (PV K)
  refine gw_aload_n (q := 0) dX11_init_0 rfl rfl ?_
  obtain ⟨g1, h⟩ := h
  refine gw_objInit oiX11_1 oi_in oi_cd dX11_init_1 (by decide) (Nat.le_of_ble_eq_true rfl) g1 ?_
  refine gw_aload_n (q := 0) dX11_init_4 rfl rfl ?_
  obtain ⟨g2, g3, h⟩ := h
  refine gw_new ci4 clX11_7 it_X4 in_X4 df4 dX11_init_5 g2 (by decide) (by decide) g3 (fun x3 σ3 ex3 e3 => ?_)
  replace h := h x3 σ3 ex3 e3
  refine gw_dup dX11_init_8 ?_
  obtain ⟨g5, h⟩ := h
  refine gw_iC (bs := []) (st := [.inr x3, .inr v0]) xmX4_init lX11_9 dX11_init_9 ⟨by decide, rfl, rfl, by decide, by decide⟩ (Nat.le_of_ble_eq_true rfl) rfl rfl g5 h (kV (fun σ4 h n4 => ?_))
  obtain ⟨g6, h⟩ := h
  obtain ⟨z7, h⟩ := h
  refine gw_pRF fX11_10 (Or.inl ⟨_, rfl⟩) rfl rfl (fun C T N hc => by cases hc; exact xfX11_10) dX11_init_12 z7 g6 (fun σ8 e8 => ?_)
  replace h := h σ8 e8
  refine gw_aload_n (q := 0) dX11_init_15 rfl rfl ?_
  refine gw_aload_n (q := 0) dX11_init_16 rfl rfl ?_
  refine gw_gR fX11_10 dX11_init_17 (g6.up (n_w2 e8)) ?_
  obtain ⟨g9, h⟩ := h
  refine gw_gR fX11_16 dX11_init_20 g9 ?_
  obtain ⟨z10, h⟩ := h
  refine gw_pRF fX11_20 (Or.inl ⟨_, rfl⟩) rfl rfl (fun C T N hc => by cases hc; exact xfX11_20) dX11_init_23 z10 (g6.up (n_w2 e8)) (fun σ11 e11 => ?_)
  replace h := h σ11 e11
  refine gw_aload_n (q := 0) dX11_init_26 rfl rfl ?_
  refine gw_aload_n (q := 0) dX11_init_27 rfl rfl ?_
  refine gw_gR fX11_10 dX11_init_28 ((g6.up (n_w2 e8)).up (n_w2 e11)) ?_
  obtain ⟨g12, h⟩ := h
  refine gw_gR fX11_21 dX11_init_31 g12 ?_
  obtain ⟨z13, h⟩ := h
  refine gw_pRF fX11_25 (Or.inl ⟨_, rfl⟩) rfl rfl (fun C T N hc => by cases hc; exact xfX11_25) dX11_init_34 z13 ((g6.up (n_w2 e8)).up (n_w2 e11)) (fun σ14 e14 => ?_)
  replace h := h σ14 e14
  refine gw_aload_n (q := 0) dX11_init_37 rfl rfl ?_
  obtain ⟨g15, g16, h⟩ := h
  refine gw_new ci2 clX11_26 it_X2 in_X2 df2 dX11_init_38 g15 (by decide) (by decide) g16 (fun x16 σ16 ex16 e16 => ?_)
  replace h := h x16 σ16 ex16 e16
  refine gw_dup dX11_init_41 ?_
  obtain ⟨g18, h⟩ := h
  refine gw_iC (bs := []) (st := [.inr x16, .inr v0]) xmX2_init lX11_28 dX11_init_42 ⟨by decide, rfl, rfl, by decide, by decide⟩ (Nat.le_of_ble_eq_true rfl) rfl rfl g18 h (kV (fun σ17 h n17 => ?_))
  obtain ⟨z19, h⟩ := h
  refine gw_pRF fX11_29 (Or.inl ⟨_, rfl⟩) rfl rfl (fun C T N hc => by cases hc; exact xfX11_29) dX11_init_45 z19 (((((g6.up (n_w2 e8)).up (n_w2 e11)).up (n_w2 e14)).up (n_nw e16)).up n17) (fun σ20 e20 => ?_)
  replace h := h σ20 e20
  refine gw_aload_n (q := 0) dX11_init_48 rfl rfl ?_
  obtain ⟨g21, g22, h⟩ := h
  refine gw_new ci8 clX11_33 it_X8 in_X8 df8 dX11_init_49 g21 (by decide) (by decide) g22 (fun x22 σ22 ex22 e22 => ?_)
  replace h := h x22 σ22 ex22 e22
  refine gw_dup dX11_init_52 ?_
  obtain ⟨g24, h⟩ := h
  refine gw_iC (bs := []) (st := [.inr x22, .inr v0]) xmX8_init lX11_35 dX11_init_53 ⟨by decide, rfl, rfl, by decide, by decide⟩ (Nat.le_of_ble_eq_true rfl) rfl rfl g24 h (kV (fun σ23 h n23 => ?_))
  obtain ⟨z25, h⟩ := h
  refine gw_pRF fX11_36 (Or.inl ⟨_, rfl⟩) rfl rfl (fun C T N hc => by cases hc; exact xfX11_36) dX11_init_56 z25 ((((((((g6.up (n_w2 e8)).up (n_w2 e11)).up (n_w2 e14)).up (n_nw e16)).up n17).up (n_w2 e20)).up (n_nw e22)).up n23) (fun σ26 e26 => ?_)
  replace h := h σ26 e26
  refine gw_aload_n (q := 0) dX11_init_59 rfl rfl ?_
  obtain ⟨g27, g28, h⟩ := h
  refine gw_new ci1 clX11_40 it_X1 in_X1 df1 dX11_init_60 g27 (by decide) (by decide) g28 (fun x28 σ28 ex28 e28 => ?_)
  replace h := h x28 σ28 ex28 e28
  refine gw_dup dX11_init_63 ?_
  obtain ⟨g30, h⟩ := h
  refine gw_iC (bs := []) (st := [.inr x28, .inr v0]) xmX1_init lX11_42 dX11_init_64 ⟨by decide, rfl, rfl, by decide, by decide⟩ (Nat.le_of_ble_eq_true rfl) rfl rfl g30 h (kV (fun σ29 h n29 => ?_))
  obtain ⟨z31, h⟩ := h
  refine gw_pRF fX11_43 (Or.inl ⟨_, rfl⟩) rfl rfl (fun C T N hc => by cases hc; exact xfX11_43) dX11_init_67 z31 (((((((((((g6.up (n_w2 e8)).up (n_w2 e11)).up (n_w2 e14)).up (n_nw e16)).up n17).up (n_w2 e20)).up (n_nw e22)).up n23).up (n_w2 e26)).up (n_nw e28)).up n29) (fun σ32 e32 => ?_)
  replace h := h σ32 e32
  refine gw_aload_n (q := 0) dX11_init_70 rfl rfl ?_
  obtain ⟨g33, g34, h⟩ := h
  refine gw_new ci5 clX11_47 it_X5 in_X5 df5 dX11_init_71 g33 (by decide) (by decide) g34 (fun x34 σ34 ex34 e34 => ?_)
  replace h := h x34 σ34 ex34 e34
  refine gw_dup dX11_init_74 ?_
  obtain ⟨g36, h⟩ := h
  refine gw_iC (bs := []) (st := [.inr x34, .inr v0]) xmX5_init lX11_49 dX11_init_75 ⟨by decide, rfl, rfl, by decide, by decide⟩ (Nat.le_of_ble_eq_true rfl) rfl rfl g36 h (kV (fun σ35 h n35 => ?_))
  obtain ⟨z37, h⟩ := h
  refine gw_pRF fX11_50 (Or.inl ⟨_, rfl⟩) rfl rfl (fun C T N hc => by cases hc; exact xfX11_50) dX11_init_78 z37 ((((((((((((((g6.up (n_w2 e8)).up (n_w2 e11)).up (n_w2 e14)).up (n_nw e16)).up n17).up (n_w2 e20)).up (n_nw e22)).up n23).up (n_w2 e26)).up (n_nw e28)).up n29).up (n_w2 e32)).up (n_nw e34)).up n35) (fun σ38 e38 => ?_)
  replace h := h σ38 e38
  refine gw_aload_n (q := 0) dX11_init_81 rfl rfl ?_
  obtain ⟨g39, g40, h⟩ := h
  refine gw_new ci6 clX11_54 it_X6 in_X6 df6 dX11_init_82 g39 (by decide) (by decide) g40 (fun x40 σ40 ex40 e40 => ?_)
  replace h := h x40 σ40 ex40 e40
  refine gw_dup dX11_init_85 ?_
  obtain ⟨g42, h⟩ := h
  refine gw_iC (bs := []) (st := [.inr x40, .inr v0]) xmX6_init lX11_56 dX11_init_86 ⟨by decide, rfl, rfl, by decide, by decide⟩ (Nat.le_of_ble_eq_true rfl) rfl rfl g42 h (kV (fun σ41 h n41 => ?_))
  obtain ⟨z43, h⟩ := h
  refine gw_pRF fX11_57 (Or.inl ⟨_, rfl⟩) rfl rfl (fun C T N hc => by cases hc; exact xfX11_57) dX11_init_89 z43 (((((((((((((((((g6.up (n_w2 e8)).up (n_w2 e11)).up (n_w2 e14)).up (n_nw e16)).up n17).up (n_w2 e20)).up (n_nw e22)).up n23).up (n_w2 e26)).up (n_nw e28)).up n29).up (n_w2 e32)).up (n_nw e34)).up n35).up (n_w2 e38)).up (n_nw e40)).up n41) (fun σ44 e44 => ?_)
  replace h := h σ44 e44
  refine gw_aload_n (q := 0) dX11_init_92 rfl rfl ?_
  refine gw_bipush (v := 10) dX11_init_93 bp_10 ?_
  refine gw_pI fX11_61 dX11_init_95 ((((((((((((((((((g6.up (n_w2 e8)).up (n_w2 e11)).up (n_w2 e14)).up (n_nw e16)).up n17).up (n_w2 e20)).up (n_nw e22)).up n23).up (n_w2 e26)).up (n_nw e28)).up n29).up (n_w2 e32)).up (n_nw e34)).up n35).up (n_w2 e38)).up (n_nw e40)).up n41).up (n_w2 e44)) (fun σ45 e45 => ?_)
  replace h := h σ45 e45
  refine gw_aload_n (q := 0) dX11_init_98 rfl rfl ?_
  refine gw_iconst (v := (-1)) dX11_init_99 ic_m1 ?_
  refine gw_pI fX11_65 dX11_init_100 (((((((((((((((((((g6.up (n_w2 e8)).up (n_w2 e11)).up (n_w2 e14)).up (n_nw e16)).up n17).up (n_w2 e20)).up (n_nw e22)).up n23).up (n_w2 e26)).up (n_nw e28)).up n29).up (n_w2 e32)).up (n_nw e34)).up n35).up (n_w2 e38)).up (n_nw e40)).up n41).up (n_w2 e44)).up (n_w1 e45)) (fun σ46 e46 => ?_)
  replace h := h σ46 e46
  refine gw_aload_n (q := 0) dX11_init_103 rfl rfl ?_
  refine gw_iconst (v := (-1)) dX11_init_104 ic_m1 ?_
  refine gw_pI fX11_68 dX11_init_105 ((((((((((((((((((((g6.up (n_w2 e8)).up (n_w2 e11)).up (n_w2 e14)).up (n_nw e16)).up n17).up (n_w2 e20)).up (n_nw e22)).up n23).up (n_w2 e26)).up (n_nw e28)).up n29).up (n_w2 e32)).up (n_nw e34)).up n35).up (n_w2 e38)).up (n_nw e40)).up n41).up (n_w2 e44)).up (n_w1 e45)).up (n_w1 e46)) (fun σ47 e47 => ?_)
  replace h := h σ47 e47
  exact gw_rV dX11_init_108 rfl (by decide) (by decide) h
set_option maxHeartbeats 4000000 in
set_option maxRecDepth 20000 in
theorem eX11_feed {l : Launch} {v0 : Nat} {v1 : Int32} {v2 : Int32} {v3 : Int32} {v4 : Int32} {v5 : Int32} {σ : Sg} {K : Int32 → Sg → Prop} (h : Ob σ v0 11 ∧ Ob σ (σ.2.2 v0 1) 10 ∧ Con l mX10_hasRoom [.inr (σ.2.2 v0 1)] σ (PI (fun x2 σ2 => ((¬ x2 = 0 → Ob σ2 (σ2.2.2 v0 1) 10 ∧ Con l mX10_addFour [.inr (σ2.2.2 v0 1), .inl v1] σ2 (PV (fun σ5 => Ob σ5 (σ5.2.2 v0 1) 10 ∧ Con l mX10_addFour [.inr (σ5.2.2 v0 1), .inl v2] σ5 (PV (fun σ7 => Ob σ7 (σ7.2.2 v0 1) 10 ∧ Con l mX10_addFour [.inr (σ7.2.2 v0 1), .inl v3] σ7 (PV (fun σ9 => Ob σ9 (σ9.2.2 v0 1) 10 ∧ Con l mX10_addFour [.inr (σ9.2.2 v0 1), .inl v4] σ9 (PV (fun σ11 => Ob σ11 (σ11.2.2 v0 1) 10 ∧ Con l mX10_addFour [.inr (σ11.2.2 v0 1), .inl v5] σ11 (PV (fun σ13 => Ob σ13 (σ13.2.2 v0 1) 10 ∧ K (σ13.2.1 (σ13.2.2 v0 1) 4) σ13))))))))))) ∧ (x2 = 0 → K (-1) σ2))))) : Con l mX11_feed [.inr v0, .inl v1, .inl v2, .inl v3, .inl v4, .inl v5] σ (PI K) := by
  refine con_gw rfl (Nat.le_of_ble_eq_true rfl) ?_
  show GW l mX11_feed 0 [(0, .inr v0), (1, .inl v1), (2, .inl v2), (3, .inl v3), (4, .inl v4), (5, .inl v5)] [] σ 0 0 (PI K)
  refine gw_aload_n (q := 0) dX11_feed_0 rfl rfl ?_
  obtain ⟨g1, h⟩ := h
  refine gw_gR fX11_25 dX11_feed_1 g1 ?_
  obtain ⟨g3, h⟩ := h
  refine gw_vC (bs := []) (st := []) (vmX10_hasRoom) lX11_71 dX11_feed_4 ⟨by decide, rfl, rfl, by decide, by decide⟩ (Nat.le_of_ble_eq_true rfl) rfl rfl g3 h (kI (fun x2 σ2 h n2 => ?_))
  refine gw_if_ne (tgt := 12) dX11_feed_7 (by decide) (fun c4 => ?_) (fun c4 => ?_)
  · replace h := h.1 c4
    refine gw_aload_n (q := 0) dX11_feed_12 rfl rfl ?_
    refine gw_gR fX11_25 dX11_feed_13 (g1.up n2) ?_
    refine gw_iload_n (q := 1) dX11_feed_16 rfl rfl ?_
    obtain ⟨g6, h⟩ := h
    refine gw_vC (bs := [.inl v1]) (st := []) (vmX10_addFour) lX11_77 dX11_feed_17 ⟨by decide, rfl, rfl, by decide, by decide⟩ (Nat.le_of_ble_eq_true rfl) rfl rfl g6 h (kV (fun σ5 h n5 => ?_))
    refine gw_aload_n (q := 0) dX11_feed_20 rfl rfl ?_
    refine gw_gR fX11_25 dX11_feed_21 ((g1.up n2).up n5) ?_
    refine gw_iload_n (q := 2) dX11_feed_24 rfl rfl ?_
    obtain ⟨g8, h⟩ := h
    refine gw_vC (bs := [.inl v2]) (st := []) (vmX10_addFour) lX11_77 dX11_feed_25 ⟨by decide, rfl, rfl, by decide, by decide⟩ (Nat.le_of_ble_eq_true rfl) rfl rfl g8 h (kV (fun σ7 h n7 => ?_))
    refine gw_aload_n (q := 0) dX11_feed_28 rfl rfl ?_
    refine gw_gR fX11_25 dX11_feed_29 (((g1.up n2).up n5).up n7) ?_
    refine gw_iload_n (q := 3) dX11_feed_32 rfl rfl ?_
    obtain ⟨g10, h⟩ := h
    refine gw_vC (bs := [.inl v3]) (st := []) (vmX10_addFour) lX11_77 dX11_feed_33 ⟨by decide, rfl, rfl, by decide, by decide⟩ (Nat.le_of_ble_eq_true rfl) rfl rfl g10 h (kV (fun σ9 h n9 => ?_))
    refine gw_aload_n (q := 0) dX11_feed_36 rfl rfl ?_
    refine gw_gR fX11_25 dX11_feed_37 ((((g1.up n2).up n5).up n7).up n9) ?_
    refine gw_iload (q := 4) dX11_feed_40 rfl ?_
    obtain ⟨g12, h⟩ := h
    refine gw_vC (bs := [.inl v4]) (st := []) (vmX10_addFour) lX11_77 dX11_feed_42 ⟨by decide, rfl, rfl, by decide, by decide⟩ (Nat.le_of_ble_eq_true rfl) rfl rfl g12 h (kV (fun σ11 h n11 => ?_))
    refine gw_aload_n (q := 0) dX11_feed_45 rfl rfl ?_
    refine gw_gR fX11_25 dX11_feed_46 (((((g1.up n2).up n5).up n7).up n9).up n11) ?_
    refine gw_iload (q := 5) dX11_feed_49 rfl ?_
    obtain ⟨g14, h⟩ := h
    refine gw_vC (bs := [.inl v5]) (st := []) (vmX10_addFour) lX11_77 dX11_feed_51 ⟨by decide, rfl, rfl, by decide, by decide⟩ (Nat.le_of_ble_eq_true rfl) rfl rfl g14 h (kV (fun σ13 h n13 => ?_))
    refine gw_aload_n (q := 0) dX11_feed_54 rfl rfl ?_
    refine gw_gR fX11_25 dX11_feed_55 ((((((g1.up n2).up n5).up n7).up n9).up n11).up n13) ?_
    obtain ⟨g15, h⟩ := h
    refine gw_gI fX11_81 dX11_feed_58 g15 ?_
    exact gw_rI dX11_feed_61 rfl (by decide) (by decide) h
  · replace h := h.2 c4
    refine gw_iconst (v := (-1)) dX11_feed_10 ic_m1 ?_
    exact gw_rI dX11_feed_11 rfl (by decide) (by decide) h
set_option maxHeartbeats 4000000 in
set_option maxRecDepth 20000 in
theorem eX11_make {l : Launch} {v0 : Nat} {v1 : Int32} {σ : Sg} {K : Int32 → Sg → Prop} (h : ((v1 < 0 → K (-2) σ) ∧ (¬ v1 < 0 → Ob σ v0 11 ∧ Ob σ (σ.2.2 v0 1) 10 ∧ ((v1 ≤ (σ.2.1 (σ.2.2 v0 1) 4) → Ob σ (σ.2.2 v0 2) 4 ∧ Con l mX4_readText [.inr (σ.2.2 v0 2), .inl v1] σ (PI (fun x5 σ5 => K x5 σ5))) ∧ (¬ v1 ≤ (σ.2.1 (σ.2.2 v0 1) 4) → K (-2) σ))))) : Con l mX11_make [.inr v0, .inl v1] σ (PI K) := by
  refine con_gw rfl (Nat.le_of_ble_eq_true rfl) ?_
  show GW l mX11_make 0 [(0, .inr v0), (1, .inl v1)] [] σ 0 0 (PI K)
  refine gw_iload_n (q := 1) dX11_make_0 rfl rfl ?_
  refine gw_if_lt (tgt := 15) dX11_make_1 (by decide) (fun c1 => ?_) (fun c1 => ?_)
  · replace h := h.1 c1
    refine gw_bipush (v := (-2)) dX11_make_15 bp_m2 ?_
    exact gw_rI dX11_make_17 rfl (by decide) (by decide) h
  · replace h := h.2 c1
    refine gw_iload_n (q := 1) dX11_make_4 rfl rfl ?_
    refine gw_aload_n (q := 0) dX11_make_5 rfl rfl ?_
    obtain ⟨g2, h⟩ := h
    refine gw_gR fX11_25 dX11_make_6 g2 ?_
    obtain ⟨g3, h⟩ := h
    refine gw_gI fX11_81 dX11_make_9 g3 ?_
    refine gw_icmp_le (tgt := 18) dX11_make_12 (by decide) (fun c4 => ?_) (fun c4 => ?_)
    · replace h := h.1 c4
      refine gw_aload_n (q := 0) dX11_make_18 rfl rfl ?_
      refine gw_gR fX11_10 dX11_make_19 g2 ?_
      refine gw_iload_n (q := 1) dX11_make_22 rfl rfl ?_
      obtain ⟨g6, h⟩ := h
      refine gw_vC (bs := [.inl v1]) (st := []) (vmX4_readText) lX11_84 dX11_make_23 ⟨by decide, rfl, rfl, by decide, by decide⟩ (Nat.le_of_ble_eq_true rfl) rfl rfl g6 h (kI (fun x5 σ5 h n5 => ?_))
      exact gw_rI dX11_make_26 rfl (by decide) (by decide) h
    · replace h := h.2 c4
      refine gw_bipush (v := (-2)) dX11_make_15 bp_m2 ?_
      exact gw_rI dX11_make_17 rfl (by decide) (by decide) h
set_option maxHeartbeats 4000000 in
set_option maxRecDepth 20000 in
theorem eX11_fault {l : Launch} {v0 : Nat} {v1 : Int32} {σ : Sg} {K : Int32 → Sg → Prop} (h : ((¬ v1 = 0 → ((¬ v1 = 1 → K (-1) σ) ∧ (v1 = 1 → Ob σ v0 11 ∧ Ob σ (σ.2.2 v0 2) 4 ∧ K (σ.2.1 (σ.2.2 v0 2) 7) σ))) ∧ (v1 = 0 → Ob σ v0 11 ∧ Ob σ (σ.2.2 v0 2) 4 ∧ K (σ.2.1 (σ.2.2 v0 2) 6) σ))) : Con l mX11_fault [.inr v0, .inl v1] σ (PI K) := by
  refine con_gw rfl (Nat.le_of_ble_eq_true rfl) ?_
  show GW l mX11_fault 0 [(0, .inr v0), (1, .inl v1)] [] σ 0 0 (PI K)
  refine gw_iload_n (q := 1) dX11_fault_0 rfl rfl ?_
  refine gw_if_ne (tgt := 12) dX11_fault_1 (by decide) (fun c1 => ?_) (fun c1 => ?_)
  · replace h := h.1 c1
    refine gw_iload_n (q := 1) dX11_fault_12 rfl rfl ?_
    refine gw_iconst (v := 1) dX11_fault_13 ic_1 ?_
    refine gw_icmp_ne (tgt := 27) dX11_fault_14 (by decide) (fun c2 => ?_) (fun c2 => ?_)
    · replace h := h.1 c2
      refine gw_iconst (v := (-1)) dX11_fault_27 ic_m1 ?_
      exact gw_rI dX11_fault_28 rfl (by decide) (by decide) h
    · replace h := h.2 c2
      refine gw_aload_n (q := 0) dX11_fault_17 rfl rfl ?_
      obtain ⟨g3, h⟩ := h
      refine gw_gR fX11_10 dX11_fault_18 g3 ?_
      obtain ⟨g4, h⟩ := h
      refine gw_gI fX11_91 dX11_fault_21 g4 ?_
      refine gw_goto (tgt := 28) dX11_fault_24 (by decide) ?_
      exact gw_rI dX11_fault_28 rfl (by decide) (by decide) h
  · replace h := h.2 c1
    refine gw_aload_n (q := 0) dX11_fault_4 rfl rfl ?_
    obtain ⟨g5, h⟩ := h
    refine gw_gR fX11_10 dX11_fault_5 g5 ?_
    obtain ⟨g6, h⟩ := h
    refine gw_gI fX11_88 dX11_fault_8 g6 ?_
    exact gw_rI dX11_fault_11 rfl (by decide) (by decide) h
set_option maxHeartbeats 4000000 in
set_option maxRecDepth 20000 in
theorem eX11_arm {l : Launch} {v0 : Nat} {v1 : Int32} {v2 : Int32} {σ : Sg} {K : Int32 → Sg → Prop} (h : Con l mX11_within [.inl v1, .inl 0, .inl 20] σ (PI (fun x1 σ1 => ((x1 = 0 → K (-1) σ1) ∧ (¬ x1 = 0 → Con l mX11_within [.inl v2, .inl 0, .inl 20] σ1 (PI (fun x3 σ3 => ((¬ x3 = 0 → Ob σ3 v0 11 ∧ Ob σ3 (σ3.2.2 v0 0) 7 ∧ Con l mX7_addArm [.inr (σ3.2.2 v0 0), .inl v1, .inl v2] σ3 (PI (fun x6 σ6 => K x6 σ6))) ∧ (x3 = 0 → K (-1) σ3))))))))) : Con l mX11_arm [.inr v0, .inl v1, .inl v2] σ (PI K) := by
  refine con_gw rfl (Nat.le_of_ble_eq_true rfl) ?_
  show GW l mX11_arm 0 [(0, .inr v0), (1, .inl v1), (2, .inl v2)] [] σ 0 0 (PI K)
  refine gw_iload_n (q := 1) dX11_arm_0 rfl rfl ?_
  refine gw_iconst (v := 0) dX11_arm_1 ic_0 ?_
  refine gw_bipush (v := 20) dX11_arm_2 bp_20 ?_
  refine gw_sC (bs := [.inl v1, .inl 0, .inl 20]) (st := []) smX11_within lX11_94 dX11_arm_4 ⟨by decide, rfl, rfl, by decide, by decide⟩ (Nat.le_of_ble_eq_true rfl) rfl rfl h (kI (fun x1 σ1 h n1 => ?_))
  refine gw_if_eq (tgt := 20) dX11_arm_7 (by decide) (fun c2 => ?_) (fun c2 => ?_)
  · replace h := h.1 c2
    refine gw_iconst (v := (-1)) dX11_arm_20 ic_m1 ?_
    exact gw_rI dX11_arm_21 rfl (by decide) (by decide) h
  · replace h := h.2 c2
    refine gw_iload_n (q := 2) dX11_arm_10 rfl rfl ?_
    refine gw_iconst (v := 0) dX11_arm_11 ic_0 ?_
    refine gw_bipush (v := 20) dX11_arm_12 bp_20 ?_
    refine gw_sC (bs := [.inl v2, .inl 0, .inl 20]) (st := []) smX11_within lX11_94 dX11_arm_14 ⟨by decide, rfl, rfl, by decide, by decide⟩ (Nat.le_of_ble_eq_true rfl) rfl rfl h (kI (fun x3 σ3 h n3 => ?_))
    refine gw_if_ne (tgt := 22) dX11_arm_17 (by decide) (fun c4 => ?_) (fun c4 => ?_)
    · replace h := h.1 c4
      refine gw_aload_n (q := 0) dX11_arm_22 rfl rfl ?_
      obtain ⟨g5, h⟩ := h
      refine gw_gR fX11_20 dX11_arm_23 g5 ?_
      refine gw_iload_n (q := 1) dX11_arm_26 rfl rfl ?_
      refine gw_iload_n (q := 2) dX11_arm_27 rfl rfl ?_
      obtain ⟨g7, h⟩ := h
      refine gw_vC (bs := [.inl v1, .inl v2]) (st := []) (vmX7_addArm) lX11_98 dX11_arm_28 ⟨by decide, rfl, rfl, by decide, by decide⟩ (Nat.le_of_ble_eq_true rfl) rfl rfl g7 h (kI (fun x6 σ6 h n6 => ?_))
      exact gw_rI dX11_arm_31 rfl (by decide) (by decide) h
    · replace h := h.2 c4
      refine gw_iconst (v := (-1)) dX11_arm_20 ic_m1 ?_
      exact gw_rI dX11_arm_21 rfl (by decide) (by decide) h
set_option maxHeartbeats 4000000 in
set_option maxRecDepth 20000 in
theorem eX11_joint {l : Launch} {v0 : Nat} {v1 : Int32} {v2 : Int32} {v3 : Int32} {v4 : Int32} {v5 : Int32} {σ : Sg} {K : Int32 → Sg → Prop} (h : Ob σ v0 11 ∧ Ob σ (σ.2.2 v0 0) 7 ∧ Con l mX7_armAt [.inr (σ.2.2 v0 0), .inl v1] σ (PR (fun x2 σ2 => ((x2 = 0 → K (-1) σ2) ∧ (¬ x2 = 0 → Ob σ2 (σ2.2.2 v0 0) 7 ∧ Con l mX7_hasTapes [.inr (σ2.2.2 v0 0), .inl v1] σ2 (PI (fun x5 σ5 => ((¬ x5 = 0 → K (-1) σ5) ∧ (x5 = 0 → Con l mX11_within [.inl v2, .inl 1, .inl 6] σ5 (PI (fun x8 σ8 => ((x8 = 0 → K (-1) σ8) ∧ (¬ x8 = 0 → Con l mX11_within [.inl v5, .inl 1, .inl 3] σ8 (PI (fun x10 σ10 => ((¬ x10 = 0 → Con l mX11_within [.inl v3, .inl 0, .inl 15] σ10 (PI (fun x12 σ12 => ((x12 = 0 → K (-1) σ12) ∧ (¬ x12 = 0 → Con l mX11_within [.inl v4, .inl v3, .inl 15] σ12 (PI (fun x14 σ14 => ((¬ x14 = 0 → Ob σ14 x2 0 ∧ Con l mX0_addJoint [.inr x2, .inl v2, .inl v3, .inl v4, .inl v5] σ14 (PI (fun x16 σ16 => K x16 σ16))) ∧ (x14 = 0 → K (-1) σ14))))))))) ∧ (x10 = 0 → K (-1) σ10))))))))))))))))) : Con l mX11_joint [.inr v0, .inl v1, .inl v2, .inl v3, .inl v4, .inl v5] σ (PI K) := by
  refine con_gw rfl (Nat.le_of_ble_eq_true rfl) ?_
  show GW l mX11_joint 0 [(0, .inr v0), (1, .inl v1), (2, .inl v2), (3, .inl v3), (4, .inl v4), (5, .inl v5)] [] σ 0 0 (PI K)
  refine gw_aload_n (q := 0) dX11_joint_0 rfl rfl ?_
  obtain ⟨g1, h⟩ := h
  refine gw_gR fX11_20 dX11_joint_1 g1 ?_
  refine gw_iload_n (q := 1) dX11_joint_4 rfl rfl ?_
  obtain ⟨g3, h⟩ := h
  refine gw_vC (bs := [.inl v1]) (st := []) (vmX7_armAt) lX11_104 dX11_joint_5 ⟨by decide, rfl, rfl, by decide, by decide⟩ (Nat.le_of_ble_eq_true rfl) rfl rfl g3 h (kR (fun x2 σ2 h n2 => ?_))
  refine gw_astore (lo' := [(0, .inr v0), (1, .inl v1), (2, .inl v2), (3, .inl v3), (4, .inl v4), (5, .inl v5), (6, .inr x2)]) dX11_joint_8 (by decide) rfl ?_
  refine gw_aload (q := 6) dX11_joint_10 rfl ?_
  refine gw_ifnull (tgt := 46) dX11_joint_12 (by decide) (fun c4 => ?_) (fun c4 => ?_)
  · replace h := h.1 c4
    refine gw_iconst (v := (-1)) dX11_joint_46 ic_m1 ?_
    exact gw_rI dX11_joint_47 rfl (by decide) (by decide) h
  · replace h := h.2 c4
    refine gw_aload_n (q := 0) dX11_joint_15 rfl rfl ?_
    refine gw_gR fX11_20 dX11_joint_16 (g1.up n2) ?_
    refine gw_iload_n (q := 1) dX11_joint_19 rfl rfl ?_
    obtain ⟨g6, h⟩ := h
    refine gw_vC (bs := [.inl v1]) (st := []) (vmX7_hasTapes) lX11_108 dX11_joint_20 ⟨by decide, rfl, rfl, by decide, by decide⟩ (Nat.le_of_ble_eq_true rfl) rfl rfl g6 h (kI (fun x5 σ5 h n5 => ?_))
    refine gw_if_ne (tgt := 46) dX11_joint_23 (by decide) (fun c7 => ?_) (fun c7 => ?_)
    · replace h := h.1 c7
      refine gw_iconst (v := (-1)) dX11_joint_46 ic_m1 ?_
      exact gw_rI dX11_joint_47 rfl (by decide) (by decide) h
    · replace h := h.2 c7
      refine gw_iload_n (q := 2) dX11_joint_26 rfl rfl ?_
      refine gw_iconst (v := 1) dX11_joint_27 ic_1 ?_
      refine gw_bipush (v := 6) dX11_joint_28 bp_6 ?_
      refine gw_sC (bs := [.inl v2, .inl 1, .inl 6]) (st := []) smX11_within lX11_94 dX11_joint_30 ⟨by decide, rfl, rfl, by decide, by decide⟩ (Nat.le_of_ble_eq_true rfl) rfl rfl h (kI (fun x8 σ8 h n8 => ?_))
      refine gw_if_eq (tgt := 46) dX11_joint_33 (by decide) (fun c9 => ?_) (fun c9 => ?_)
      · replace h := h.1 c9
        refine gw_iconst (v := (-1)) dX11_joint_46 ic_m1 ?_
        exact gw_rI dX11_joint_47 rfl (by decide) (by decide) h
      · replace h := h.2 c9
        refine gw_iload (q := 5) dX11_joint_36 rfl ?_
        refine gw_iconst (v := 1) dX11_joint_38 ic_1 ?_
        refine gw_iconst (v := 3) dX11_joint_39 ic_3 ?_
        refine gw_sC (bs := [.inl v5, .inl 1, .inl 3]) (st := []) smX11_within lX11_94 dX11_joint_40 ⟨by decide, rfl, rfl, by decide, by decide⟩ (Nat.le_of_ble_eq_true rfl) rfl rfl h (kI (fun x10 σ10 h n10 => ?_))
        refine gw_if_ne (tgt := 48) dX11_joint_43 (by decide) (fun c11 => ?_) (fun c11 => ?_)
        · replace h := h.1 c11
          refine gw_iload_n (q := 3) dX11_joint_48 rfl rfl ?_
          refine gw_iconst (v := 0) dX11_joint_49 ic_0 ?_
          refine gw_bipush (v := 15) dX11_joint_50 bp_15 ?_
          refine gw_sC (bs := [.inl v3, .inl 0, .inl 15]) (st := []) smX11_within lX11_94 dX11_joint_52 ⟨by decide, rfl, rfl, by decide, by decide⟩ (Nat.le_of_ble_eq_true rfl) rfl rfl h (kI (fun x12 σ12 h n12 => ?_))
          refine gw_if_eq (tgt := 69) dX11_joint_55 (by decide) (fun c13 => ?_) (fun c13 => ?_)
          · replace h := h.1 c13
            refine gw_iconst (v := (-1)) dX11_joint_69 ic_m1 ?_
            exact gw_rI dX11_joint_70 rfl (by decide) (by decide) h
          · replace h := h.2 c13
            refine gw_iload (q := 4) dX11_joint_58 rfl ?_
            refine gw_iload_n (q := 3) dX11_joint_60 rfl rfl ?_
            refine gw_bipush (v := 15) dX11_joint_61 bp_15 ?_
            refine gw_sC (bs := [.inl v4, .inl v3, .inl 15]) (st := []) smX11_within lX11_94 dX11_joint_63 ⟨by decide, rfl, rfl, by decide, by decide⟩ (Nat.le_of_ble_eq_true rfl) rfl rfl h (kI (fun x14 σ14 h n14 => ?_))
            refine gw_if_ne (tgt := 71) dX11_joint_66 (by decide) (fun c15 => ?_) (fun c15 => ?_)
            · replace h := h.1 c15
              refine gw_aload (q := 6) dX11_joint_71 rfl ?_
              refine gw_iload_n (q := 2) dX11_joint_73 rfl rfl ?_
              refine gw_iload_n (q := 3) dX11_joint_74 rfl rfl ?_
              refine gw_iload (q := 4) dX11_joint_75 rfl ?_
              refine gw_iload (q := 5) dX11_joint_77 rfl ?_
              obtain ⟨g17, h⟩ := h
              refine gw_vC (bs := [.inl v2, .inl v3, .inl v4, .inl v5]) (st := []) (vmX0_addJoint) lX11_112 dX11_joint_79 ⟨by decide, rfl, rfl, by decide, by decide⟩ (Nat.le_of_ble_eq_true rfl) rfl rfl g17 h (kI (fun x16 σ16 h n16 => ?_))
              exact gw_rI dX11_joint_82 rfl (by decide) (by decide) h
            · replace h := h.2 c15
              refine gw_iconst (v := (-1)) dX11_joint_69 ic_m1 ?_
              exact gw_rI dX11_joint_70 rfl (by decide) (by decide) h
        · replace h := h.2 c11
          refine gw_iconst (v := (-1)) dX11_joint_46 ic_m1 ?_
          exact gw_rI dX11_joint_47 rfl (by decide) (by decide) h
set_option maxHeartbeats 4000000 in
set_option maxRecDepth 20000 in
theorem eX11_point {l : Launch} {v0 : Nat} {v1 : Int32} {v2 : Int32} {v3 : Int32} {v4 : Int32} {σ : Sg} {K : Int32 → Sg → Prop} (h : Ob σ v0 11 ∧ Ob σ (σ.2.2 v0 0) 7 ∧ Con l mX7_armAt [.inr (σ.2.2 v0 0), .inl v1] σ (PR (fun x2 σ2 => ((x2 = 0 → K (-2147483648) σ2) ∧ (¬ x2 = 0 → Ob σ2 x2 0 ∧ Con l mX0_hasPose [.inr x2, .inl v2] σ2 (PI (fun x5 σ5 => ((x5 = 0 → K (-2147483648) σ5) ∧ (¬ x5 = 0 → Con l mX11_within [.inl v3, .inl 0, .inl (σ5.2.1 x2 6)] σ5 (PI (fun x8 σ8 => ((x8 = 0 → K (-2147483648) σ8) ∧ (¬ x8 = 0 → Con l mX11_within [.inl v4, .inl 0, .inl 1] σ8 (PI (fun x10 σ10 => ((¬ x10 = 0 → ((¬ v4 = 0 → Con l mX0_pointY [.inr x2, .inl v2, .inl v3] σ10 (PI (fun x13 σ13 => K x13 σ13))) ∧ (v4 = 0 → Con l mX0_pointX [.inr x2, .inl v2, .inl v3] σ10 (PI (fun x14 σ14 => K x14 σ14))))) ∧ (x10 = 0 → K (-2147483648) σ10))))))))))))))))) : Con l mX11_point [.inr v0, .inl v1, .inl v2, .inl v3, .inl v4] σ (PI K) := by
  refine con_gw rfl (Nat.le_of_ble_eq_true rfl) ?_
  show GW l mX11_point 0 [(0, .inr v0), (1, .inl v1), (2, .inl v2), (3, .inl v3), (4, .inl v4)] [] σ 0 0 (PI K)
  refine gw_aload_n (q := 0) dX11_point_0 rfl rfl ?_
  obtain ⟨g1, h⟩ := h
  refine gw_gR fX11_20 dX11_point_1 g1 ?_
  refine gw_iload_n (q := 1) dX11_point_4 rfl rfl ?_
  obtain ⟨g3, h⟩ := h
  refine gw_vC (bs := [.inl v1]) (st := []) (vmX7_armAt) lX11_104 dX11_point_5 ⟨by decide, rfl, rfl, by decide, by decide⟩ (Nat.le_of_ble_eq_true rfl) rfl rfl g3 h (kR (fun x2 σ2 h n2 => ?_))
  refine gw_astore (lo' := [(0, .inr v0), (1, .inl v1), (2, .inl v2), (3, .inl v3), (4, .inl v4), (5, .inr x2)]) dX11_point_8 (by decide) rfl ?_
  refine gw_aload (q := 5) dX11_point_10 rfl ?_
  refine gw_ifnull (tgt := 47) dX11_point_12 (by decide) (fun c4 => ?_) (fun c4 => ?_)
  · replace h := h.1 c4
    refine gw_ldc (v := (-2147483648)) kX11_126 dX11_point_47 ?_
    exact gw_rI dX11_point_49 rfl (by decide) (by decide) h
  · replace h := h.2 c4
    refine gw_aload (q := 5) dX11_point_15 rfl ?_
    refine gw_iload_n (q := 2) dX11_point_17 rfl rfl ?_
    obtain ⟨g6, h⟩ := h
    refine gw_vC (bs := [.inl v2]) (st := []) (vmX0_hasPose) lX11_118 dX11_point_18 ⟨by decide, rfl, rfl, by decide, by decide⟩ (Nat.le_of_ble_eq_true rfl) rfl rfl g6 h (kI (fun x5 σ5 h n5 => ?_))
    refine gw_if_eq (tgt := 47) dX11_point_21 (by decide) (fun c7 => ?_) (fun c7 => ?_)
    · replace h := h.1 c7
      refine gw_ldc (v := (-2147483648)) kX11_126 dX11_point_47 ?_
      exact gw_rI dX11_point_49 rfl (by decide) (by decide) h
    · replace h := h.2 c7
      refine gw_iload_n (q := 3) dX11_point_24 rfl rfl ?_
      refine gw_iconst (v := 0) dX11_point_25 ic_0 ?_
      refine gw_aload (q := 5) dX11_point_26 rfl ?_
      refine gw_gI fX11_121 dX11_point_28 (g6.up n5) ?_
      refine gw_sC (bs := [.inl v3, .inl 0, .inl (σ5.2.1 x2 6)]) (st := []) smX11_within lX11_94 dX11_point_31 ⟨by decide, rfl, rfl, by decide, by decide⟩ (Nat.le_of_ble_eq_true rfl) rfl rfl h (kI (fun x8 σ8 h n8 => ?_))
      refine gw_if_eq (tgt := 47) dX11_point_34 (by decide) (fun c9 => ?_) (fun c9 => ?_)
      · replace h := h.1 c9
        refine gw_ldc (v := (-2147483648)) kX11_126 dX11_point_47 ?_
        exact gw_rI dX11_point_49 rfl (by decide) (by decide) h
      · replace h := h.2 c9
        refine gw_iload (q := 4) dX11_point_37 rfl ?_
        refine gw_iconst (v := 0) dX11_point_39 ic_0 ?_
        refine gw_iconst (v := 1) dX11_point_40 ic_1 ?_
        refine gw_sC (bs := [.inl v4, .inl 0, .inl 1]) (st := []) smX11_within lX11_94 dX11_point_41 ⟨by decide, rfl, rfl, by decide, by decide⟩ (Nat.le_of_ble_eq_true rfl) rfl rfl h (kI (fun x10 σ10 h n10 => ?_))
        refine gw_if_ne (tgt := 50) dX11_point_44 (by decide) (fun c11 => ?_) (fun c11 => ?_)
        · replace h := h.1 c11
          refine gw_iload (q := 4) dX11_point_50 rfl ?_
          refine gw_if_ne (tgt := 65) dX11_point_52 (by decide) (fun c12 => ?_) (fun c12 => ?_)
          · replace h := h.1 c12
            refine gw_aload (q := 5) dX11_point_65 rfl ?_
            refine gw_iload_n (q := 2) dX11_point_67 rfl rfl ?_
            refine gw_iload_n (q := 3) dX11_point_68 rfl rfl ?_
            refine gw_vC (bs := [.inl v2, .inl v3]) (st := []) (vmX0_pointY) lX11_130 dX11_point_69 ⟨by decide, rfl, rfl, by decide, by decide⟩ (Nat.le_of_ble_eq_true rfl) rfl rfl (((g6.up n5).up n8).up n10) h (kI (fun x13 σ13 h n13 => ?_))
            exact gw_rI dX11_point_72 rfl (by decide) (by decide) h
          · replace h := h.2 c12
            refine gw_aload (q := 5) dX11_point_55 rfl ?_
            refine gw_iload_n (q := 2) dX11_point_57 rfl rfl ?_
            refine gw_iload_n (q := 3) dX11_point_58 rfl rfl ?_
            refine gw_vC (bs := [.inl v2, .inl v3]) (st := []) (vmX0_pointX) lX11_127 dX11_point_59 ⟨by decide, rfl, rfl, by decide, by decide⟩ (Nat.le_of_ble_eq_true rfl) rfl rfl (((g6.up n5).up n8).up n10) h (kI (fun x14 σ14 h n14 => ?_))
            refine gw_goto (tgt := 72) dX11_point_62 (by decide) ?_
            exact gw_rI dX11_point_72 rfl (by decide) (by decide) h
        · replace h := h.2 c11
          refine gw_ldc (v := (-2147483648)) kX11_126 dX11_point_47 ?_
          exact gw_rI dX11_point_49 rfl (by decide) (by decide) h
set_option maxHeartbeats 4000000 in
set_option maxRecDepth 20000 in
theorem eX11_hop {l : Launch} {v0 : Nat} {v1 : Int32} {v2 : Int32} {v3 : Int32} {σ : Sg} {K : Int32 → Sg → Prop} (h : Ob σ v0 11 ∧ Ob σ (σ.2.2 v0 0) 7 ∧ Con l mX7_armAt [.inr (σ.2.2 v0 0), .inl v1] σ (PR (fun x2 σ2 => ((x2 = 0 → K (-1) σ2) ∧ (¬ x2 = 0 → Ob σ2 x2 0 ∧ Con l mX0_hasPose [.inr x2, .inl v2] σ2 (PI (fun x5 σ5 => ((x5 = 0 → K (-1) σ5) ∧ (¬ x5 = 0 → Con l mX0_hasPose [.inr x2, .inl v3] σ5 (PI (fun x8 σ8 => ((¬ x8 = 0 → Con l mX0_hopBetween [.inr x2, .inl v2, .inl v3] σ8 (PI (fun x10 σ10 => K x10 σ10))) ∧ (x8 = 0 → K (-1) σ8))))))))))))) : Con l mX11_hop [.inr v0, .inl v1, .inl v2, .inl v3] σ (PI K) := by
  refine con_gw rfl (Nat.le_of_ble_eq_true rfl) ?_
  show GW l mX11_hop 0 [(0, .inr v0), (1, .inl v1), (2, .inl v2), (3, .inl v3)] [] σ 0 0 (PI K)
  refine gw_aload_n (q := 0) dX11_hop_0 rfl rfl ?_
  obtain ⟨g1, h⟩ := h
  refine gw_gR fX11_20 dX11_hop_1 g1 ?_
  refine gw_iload_n (q := 1) dX11_hop_4 rfl rfl ?_
  obtain ⟨g3, h⟩ := h
  refine gw_vC (bs := [.inl v1]) (st := []) (vmX7_armAt) lX11_104 dX11_hop_5 ⟨by decide, rfl, rfl, by decide, by decide⟩ (Nat.le_of_ble_eq_true rfl) rfl rfl g3 h (kR (fun x2 σ2 h n2 => ?_))
  refine gw_astore (lo' := [(0, .inr v0), (1, .inl v1), (2, .inl v2), (3, .inl v3), (4, .inr x2)]) dX11_hop_8 (by decide) rfl ?_
  refine gw_aload (q := 4) dX11_hop_10 rfl ?_
  refine gw_ifnull (tgt := 33) dX11_hop_12 (by decide) (fun c4 => ?_) (fun c4 => ?_)
  · replace h := h.1 c4
    refine gw_iconst (v := (-1)) dX11_hop_33 ic_m1 ?_
    exact gw_rI dX11_hop_34 rfl (by decide) (by decide) h
  · replace h := h.2 c4
    refine gw_aload (q := 4) dX11_hop_15 rfl ?_
    refine gw_iload_n (q := 2) dX11_hop_17 rfl rfl ?_
    obtain ⟨g6, h⟩ := h
    refine gw_vC (bs := [.inl v2]) (st := []) (vmX0_hasPose) lX11_118 dX11_hop_18 ⟨by decide, rfl, rfl, by decide, by decide⟩ (Nat.le_of_ble_eq_true rfl) rfl rfl g6 h (kI (fun x5 σ5 h n5 => ?_))
    refine gw_if_eq (tgt := 33) dX11_hop_21 (by decide) (fun c7 => ?_) (fun c7 => ?_)
    · replace h := h.1 c7
      refine gw_iconst (v := (-1)) dX11_hop_33 ic_m1 ?_
      exact gw_rI dX11_hop_34 rfl (by decide) (by decide) h
    · replace h := h.2 c7
      refine gw_aload (q := 4) dX11_hop_24 rfl ?_
      refine gw_iload_n (q := 3) dX11_hop_26 rfl rfl ?_
      refine gw_vC (bs := [.inl v3]) (st := []) (vmX0_hasPose) lX11_118 dX11_hop_27 ⟨by decide, rfl, rfl, by decide, by decide⟩ (Nat.le_of_ble_eq_true rfl) rfl rfl (g6.up n5) h (kI (fun x8 σ8 h n8 => ?_))
      refine gw_if_ne (tgt := 35) dX11_hop_30 (by decide) (fun c9 => ?_) (fun c9 => ?_)
      · replace h := h.1 c9
        refine gw_aload (q := 4) dX11_hop_35 rfl ?_
        refine gw_iload_n (q := 2) dX11_hop_37 rfl rfl ?_
        refine gw_iload_n (q := 3) dX11_hop_38 rfl rfl ?_
        refine gw_vC (bs := [.inl v2, .inl v3]) (st := []) (vmX0_hopBetween) lX11_133 dX11_hop_39 ⟨by decide, rfl, rfl, by decide, by decide⟩ (Nat.le_of_ble_eq_true rfl) rfl rfl ((g6.up n5).up n8) h (kI (fun x10 σ10 h n10 => ?_))
        exact gw_rI dX11_hop_42 rfl (by decide) (by decide) h
      · replace h := h.2 c9
        refine gw_iconst (v := (-1)) dX11_hop_33 ic_m1 ?_
        exact gw_rI dX11_hop_34 rfl (by decide) (by decide) h
set_option maxHeartbeats 4000000 in
set_option maxRecDepth 20000 in
theorem eX11_tape {l : Launch} {v0 : Nat} {v1 : Int32} {σ : Sg} {K : Int32 → Sg → Prop} (h : Ob σ v0 11 ∧ Ob σ (σ.2.2 v0 0) 7 ∧ Con l mX7_armAt [.inr (σ.2.2 v0 0), .inl v1] σ (PR (fun x2 σ2 => ((x2 = 0 → K (-1) σ2) ∧ (¬ x2 = 0 → Ob σ2 x2 0 ∧ ((¬ (σ2.2.1 x2 6) = 0 → Ob σ2 (σ2.2.2 v0 0) 7 ∧ Con l mX7_addTape [.inr (σ2.2.2 v0 0), .inl v1] σ2 (PI (fun x7 σ7 => K x7 σ7))) ∧ ((σ2.2.1 x2 6) = 0 → K (-1) σ2))))))) : Con l mX11_tape [.inr v0, .inl v1] σ (PI K) := by
  refine con_gw rfl (Nat.le_of_ble_eq_true rfl) ?_
  show GW l mX11_tape 0 [(0, .inr v0), (1, .inl v1)] [] σ 0 0 (PI K)
  refine gw_aload_n (q := 0) dX11_tape_0 rfl rfl ?_
  obtain ⟨g1, h⟩ := h
  refine gw_gR fX11_20 dX11_tape_1 g1 ?_
  refine gw_iload_n (q := 1) dX11_tape_4 rfl rfl ?_
  obtain ⟨g3, h⟩ := h
  refine gw_vC (bs := [.inl v1]) (st := []) (vmX7_armAt) lX11_104 dX11_tape_5 ⟨by decide, rfl, rfl, by decide, by decide⟩ (Nat.le_of_ble_eq_true rfl) rfl rfl g3 h (kR (fun x2 σ2 h n2 => ?_))
  refine gw_astore_n (lo' := [(0, .inr v0), (1, .inl v1), (2, .inr x2)]) dX11_tape_8 rfl (by decide) rfl ?_
  refine gw_aload_n (q := 2) dX11_tape_9 rfl rfl ?_
  refine gw_ifnull (tgt := 20) dX11_tape_10 (by decide) (fun c4 => ?_) (fun c4 => ?_)
  · replace h := h.1 c4
    refine gw_iconst (v := (-1)) dX11_tape_20 ic_m1 ?_
    exact gw_rI dX11_tape_21 rfl (by decide) (by decide) h
  · replace h := h.2 c4
    refine gw_aload_n (q := 2) dX11_tape_13 rfl rfl ?_
    obtain ⟨g5, h⟩ := h
    refine gw_gI fX11_121 dX11_tape_14 g5 ?_
    refine gw_if_ne (tgt := 22) dX11_tape_17 (by decide) (fun c6 => ?_) (fun c6 => ?_)
    · replace h := h.1 c6
      refine gw_aload_n (q := 0) dX11_tape_22 rfl rfl ?_
      refine gw_gR fX11_20 dX11_tape_23 (g1.up n2) ?_
      refine gw_iload_n (q := 1) dX11_tape_26 rfl rfl ?_
      obtain ⟨g8, h⟩ := h
      refine gw_vC (bs := [.inl v1]) (st := []) (vmX7_addTape) lX11_136 dX11_tape_27 ⟨by decide, rfl, rfl, by decide, by decide⟩ (Nat.le_of_ble_eq_true rfl) rfl rfl g8 h (kI (fun x7 σ7 h n7 => ?_))
      exact gw_rI dX11_tape_30 rfl (by decide) (by decide) h
    · replace h := h.2 c6
      refine gw_iconst (v := (-1)) dX11_tape_20 ic_m1 ?_
      exact gw_rI dX11_tape_21 rfl (by decide) (by decide) h
set_option maxHeartbeats 4000000 in
set_option maxRecDepth 20000 in
theorem gX11_lead_77 {l : Launch} {v0 : Nat} {v1 : Int32} {v2 : Int32} {v3 : Int32} {v4 : Nat} {v5 : Nat} {σ : Sg} {K : Int32 → Sg → Prop} (h : Ob σ v4 9 ∧ Con l mX9_addTick [.inr v4, .inl v2, .inl v3] σ (PI (fun x1 σ1 => ((x1 = 0 → K (-1) σ1) ∧ (¬ x1 = 0 → K (σ1.2.1 v4 3) σ1))))) : GW l mX11_lead 77 [(0, .inr v0), (1, .inl v1), (2, .inl v2), (3, .inl v3), (4, .inr v4), (5, .inr v5)] [] σ 0 0 (PI K) := by
  refine gw_aload (q := 4) dX11_lead_77 rfl ?_
  refine gw_iload_n (q := 2) dX11_lead_79 rfl rfl ?_
  refine gw_iload_n (q := 3) dX11_lead_80 rfl rfl ?_
  obtain ⟨g2, h⟩ := h
  refine gw_vC (bs := [.inl v2, .inl v3]) (st := []) (vmX9_addTick) lX11_156 dX11_lead_81 ⟨by decide, rfl, rfl, by decide, by decide⟩ (Nat.le_of_ble_eq_true rfl) rfl rfl g2 h (kI (fun x1 σ1 h n1 => ?_))
  refine gw_if_eq (tgt := 95) dX11_lead_84 (by decide) (fun c3 => ?_) (fun c3 => ?_)
  · replace h := h.1 c3
    refine gw_iconst (v := (-1)) dX11_lead_95 ic_m1 ?_
    exact gw_rI dX11_lead_96 rfl (by decide) (by decide) h
  · replace h := h.2 c3
    refine gw_aload (q := 4) dX11_lead_87 rfl ?_
    refine gw_gI fX11_147 dX11_lead_89 (g2.up n1) ?_
    refine gw_goto (tgt := 96) dX11_lead_92 (by decide) ?_
    exact gw_rI dX11_lead_96 rfl (by decide) (by decide) h
set_option maxHeartbeats 4000000 in
set_option maxRecDepth 20000 in
theorem eX11_lead {l : Launch} {v0 : Nat} {v1 : Int32} {v2 : Int32} {v3 : Int32} {σ : Sg} {K : Int32 → Sg → Prop} (h : Ob σ v0 11 ∧ Ob σ (σ.2.2 v0 0) 7 ∧ Con l mX7_tapeAt [.inr (σ.2.2 v0 0), .inl v1] σ (PR (fun x2 σ2 => Ob σ2 (σ2.2.2 v0 0) 7 ∧ Con l mX7_armOf [.inr (σ2.2.2 v0 0), .inr x2] σ2 (PR (fun x4 σ4 => ((x2 = 0 → K (-1) σ4) ∧ (¬ x2 = 0 → ((x4 = 0 → K (-1) σ4) ∧ (¬ x4 = 0 → Ob σ4 x4 0 ∧ Con l mX0_hasPose [.inr x4, .inl v2] σ4 (PI (fun x8 σ8 => ((x8 = 0 → K (-1) σ8) ∧ (¬ x8 = 0 → Con l mX11_within [.inl v3, .inl 0, .inl 9] σ8 (PI (fun x11 σ11 => ((¬ x11 = 0 → Ob σ11 x2 9 ∧ (((σ11.2.1 x2 3) ≤ 0 → GW l mX11_lead 77 [(0, .inr v0), (1, .inl v1), (2, .inl v2), (3, .inl v3), (4, .inr x2), (5, .inr x4)] [] σ11 0 0 (PI K)) ∧ (¬ (σ11.2.1 x2 3) ≤ 0 → Con l mX9_lastPose [.inr x2] σ11 (PI (fun x15 σ15 => Con l mX0_hopBetween [.inr x4, .inl x15, .inl v2] σ15 (PI (fun x16 σ16 => ((x16 ≤ 1 → GW l mX11_lead 77 [(0, .inr v0), (1, .inl v1), (2, .inl v2), (3, .inl v3), (4, .inr x2), (5, .inr x4)] [] σ16 0 0 (PI K)) ∧ (¬ x16 ≤ 1 → K (-1) σ16))))))))) ∧ (x11 = 0 → K (-1) σ11))))))))))))))))) : Con l mX11_lead [.inr v0, .inl v1, .inl v2, .inl v3] σ (PI K) := by
  refine con_gw rfl (Nat.le_of_ble_eq_true rfl) ?_
  show GW l mX11_lead 0 [(0, .inr v0), (1, .inl v1), (2, .inl v2), (3, .inl v3)] [] σ 0 0 (PI K)
  refine gw_aload_n (q := 0) dX11_lead_0 rfl rfl ?_
  obtain ⟨g1, h⟩ := h
  refine gw_gR fX11_20 dX11_lead_1 g1 ?_
  refine gw_iload_n (q := 1) dX11_lead_4 rfl rfl ?_
  obtain ⟨g3, h⟩ := h
  refine gw_vC (bs := [.inl v1]) (st := []) (vmX7_tapeAt) lX11_139 dX11_lead_5 ⟨by decide, rfl, rfl, by decide, by decide⟩ (Nat.le_of_ble_eq_true rfl) rfl rfl g3 h (kR (fun x2 σ2 h n2 => ?_))
  refine gw_astore (lo' := [(0, .inr v0), (1, .inl v1), (2, .inl v2), (3, .inl v3), (4, .inr x2)]) dX11_lead_8 (by decide) rfl ?_
  refine gw_aload_n (q := 0) dX11_lead_10 rfl rfl ?_
  refine gw_gR fX11_20 dX11_lead_11 (g1.up n2) ?_
  refine gw_aload (q := 4) dX11_lead_14 rfl ?_
  obtain ⟨g5, h⟩ := h
  refine gw_vC (bs := [.inr x2]) (st := []) (vmX7_armOf) lX11_143 dX11_lead_16 ⟨by decide, rfl, rfl, by decide, by decide⟩ (Nat.le_of_ble_eq_true rfl) rfl rfl g5 h (kR (fun x4 σ4 h n4 => ?_))
  refine gw_astore (lo' := [(0, .inr v0), (1, .inl v1), (2, .inl v2), (3, .inl v3), (4, .inr x2), (5, .inr x4)]) dX11_lead_19 (by decide) rfl ?_
  refine gw_aload (q := 4) dX11_lead_21 rfl ?_
  refine gw_ifnull (tgt := 50) dX11_lead_23 (by decide) (fun c6 => ?_) (fun c6 => ?_)
  · replace h := h.1 c6
    refine gw_iconst (v := (-1)) dX11_lead_50 ic_m1 ?_
    exact gw_rI dX11_lead_51 rfl (by decide) (by decide) h
  · replace h := h.2 c6
    refine gw_aload (q := 5) dX11_lead_26 rfl ?_
    refine gw_ifnull (tgt := 50) dX11_lead_28 (by decide) (fun c7 => ?_) (fun c7 => ?_)
    · replace h := h.1 c7
      refine gw_iconst (v := (-1)) dX11_lead_50 ic_m1 ?_
      exact gw_rI dX11_lead_51 rfl (by decide) (by decide) h
    · replace h := h.2 c7
      refine gw_aload (q := 5) dX11_lead_31 rfl ?_
      refine gw_iload_n (q := 2) dX11_lead_33 rfl rfl ?_
      obtain ⟨g9, h⟩ := h
      refine gw_vC (bs := [.inl v2]) (st := []) (vmX0_hasPose) lX11_118 dX11_lead_34 ⟨by decide, rfl, rfl, by decide, by decide⟩ (Nat.le_of_ble_eq_true rfl) rfl rfl g9 h (kI (fun x8 σ8 h n8 => ?_))
      refine gw_if_eq (tgt := 50) dX11_lead_37 (by decide) (fun c10 => ?_) (fun c10 => ?_)
      · replace h := h.1 c10
        refine gw_iconst (v := (-1)) dX11_lead_50 ic_m1 ?_
        exact gw_rI dX11_lead_51 rfl (by decide) (by decide) h
      · replace h := h.2 c10
        refine gw_iload_n (q := 3) dX11_lead_40 rfl rfl ?_
        refine gw_iconst (v := 0) dX11_lead_41 ic_0 ?_
        refine gw_bipush (v := 9) dX11_lead_42 bp_9 ?_
        refine gw_sC (bs := [.inl v3, .inl 0, .inl 9]) (st := []) smX11_within lX11_94 dX11_lead_44 ⟨by decide, rfl, rfl, by decide, by decide⟩ (Nat.le_of_ble_eq_true rfl) rfl rfl h (kI (fun x11 σ11 h n11 => ?_))
        refine gw_if_ne (tgt := 52) dX11_lead_47 (by decide) (fun c12 => ?_) (fun c12 => ?_)
        · replace h := h.1 c12
          refine gw_aload (q := 4) dX11_lead_52 rfl ?_
          obtain ⟨g13, h⟩ := h
          refine gw_gI fX11_147 dX11_lead_54 g13 ?_
          refine gw_if_le (tgt := 77) dX11_lead_57 (by decide) (fun c14 => ?_) (fun c14 => ?_)
          · replace h := h.1 c14
            exact h
          · replace h := h.2 c14
            refine gw_aload (q := 5) dX11_lead_60 rfl ?_
            refine gw_aload (q := 4) dX11_lead_62 rfl ?_
            refine gw_vC (bs := []) (st := [.inr x4]) (vmX9_lastPose) lX11_152 dX11_lead_64 ⟨by decide, rfl, rfl, by decide, by decide⟩ (Nat.le_of_ble_eq_true rfl) rfl rfl g13 h (kI (fun x15 σ15 h n15 => ?_))
            refine gw_iload_n (q := 2) dX11_lead_67 rfl rfl ?_
            refine gw_vC (bs := [.inl x15, .inl v2]) (st := []) (vmX0_hopBetween) lX11_133 dX11_lead_68 ⟨by decide, rfl, rfl, by decide, by decide⟩ (Nat.le_of_ble_eq_true rfl) rfl rfl (((g9.up n8).up n11).up n15) h (kI (fun x16 σ16 h n16 => ?_))
            refine gw_iconst (v := 1) dX11_lead_71 ic_1 ?_
            refine gw_icmp_le (tgt := 77) dX11_lead_72 (by decide) (fun c17 => ?_) (fun c17 => ?_)
            · replace h := h.1 c17
              exact h
            · replace h := h.2 c17
              refine gw_iconst (v := (-1)) dX11_lead_75 ic_m1 ?_
              exact gw_rI dX11_lead_76 rfl (by decide) (by decide) h
        · replace h := h.2 c12
          refine gw_iconst (v := (-1)) dX11_lead_50 ic_m1 ?_
          exact gw_rI dX11_lead_51 rfl (by decide) (by decide) h
set_option maxHeartbeats 4000000 in
set_option maxRecDepth 20000 in
theorem eX11_about {l : Launch} {v0 : Nat} {v1 : Int32} {v2 : Int32} {σ : Sg} {K : Int32 → Sg → Prop} (h : Ob σ v0 11 ∧ Ob σ (σ.2.2 v0 0) 7 ∧ Con l mX7_tapeAt [.inr (σ.2.2 v0 0), .inl v1] σ (PR (fun x2 σ2 => ((x2 = 0 → K (-1) σ2) ∧ (¬ x2 = 0 → Con l mX11_within [.inl v2, .inl 0, .inl 1] σ2 (PI (fun x5 σ5 => ((¬ x5 = 0 → ((¬ v2 = 0 → Ob σ5 x2 9 ∧ K (σ5.2.1 x2 3) σ5) ∧ (v2 = 0 → Ob σ5 x2 9 ∧ K (σ5.2.1 x2 2) σ5))) ∧ (x5 = 0 → K (-1) σ5))))))))) : Con l mX11_about [.inr v0, .inl v1, .inl v2] σ (PI K) := by
  refine con_gw rfl (Nat.le_of_ble_eq_true rfl) ?_
  show GW l mX11_about 0 [(0, .inr v0), (1, .inl v1), (2, .inl v2)] [] σ 0 0 (PI K)
  refine gw_aload_n (q := 0) dX11_about_0 rfl rfl ?_
  obtain ⟨g1, h⟩ := h
  refine gw_gR fX11_20 dX11_about_1 g1 ?_
  refine gw_iload_n (q := 1) dX11_about_4 rfl rfl ?_
  obtain ⟨g3, h⟩ := h
  refine gw_vC (bs := [.inl v1]) (st := []) (vmX7_tapeAt) lX11_139 dX11_about_5 ⟨by decide, rfl, rfl, by decide, by decide⟩ (Nat.le_of_ble_eq_true rfl) rfl rfl g3 h (kR (fun x2 σ2 h n2 => ?_))
  refine gw_astore_n (lo' := [(0, .inr v0), (1, .inl v1), (2, .inl v2), (3, .inr x2)]) dX11_about_8 rfl (by decide) rfl ?_
  refine gw_aload_n (q := 3) dX11_about_9 rfl rfl ?_
  refine gw_ifnull (tgt := 22) dX11_about_10 (by decide) (fun c4 => ?_) (fun c4 => ?_)
  · replace h := h.1 c4
    refine gw_iconst (v := (-1)) dX11_about_22 ic_m1 ?_
    exact gw_rI dX11_about_23 rfl (by decide) (by decide) h
  · replace h := h.2 c4
    refine gw_iload_n (q := 2) dX11_about_13 rfl rfl ?_
    refine gw_iconst (v := 0) dX11_about_14 ic_0 ?_
    refine gw_iconst (v := 1) dX11_about_15 ic_1 ?_
    refine gw_sC (bs := [.inl v2, .inl 0, .inl 1]) (st := []) smX11_within lX11_94 dX11_about_16 ⟨by decide, rfl, rfl, by decide, by decide⟩ (Nat.le_of_ble_eq_true rfl) rfl rfl h (kI (fun x5 σ5 h n5 => ?_))
    refine gw_if_ne (tgt := 24) dX11_about_19 (by decide) (fun c6 => ?_) (fun c6 => ?_)
    · replace h := h.1 c6
      refine gw_iload_n (q := 2) dX11_about_24 rfl rfl ?_
      refine gw_if_ne (tgt := 35) dX11_about_25 (by decide) (fun c7 => ?_) (fun c7 => ?_)
      · replace h := h.1 c7
        refine gw_aload_n (q := 3) dX11_about_35 rfl rfl ?_
        obtain ⟨g8, h⟩ := h
        refine gw_gI fX11_147 dX11_about_36 g8 ?_
        exact gw_rI dX11_about_39 rfl (by decide) (by decide) h
      · replace h := h.2 c7
        refine gw_aload_n (q := 3) dX11_about_28 rfl rfl ?_
        obtain ⟨g9, h⟩ := h
        refine gw_gI fX11_184 dX11_about_29 g9 ?_
        refine gw_goto (tgt := 39) dX11_about_32 (by decide) ?_
        exact gw_rI dX11_about_39 rfl (by decide) (by decide) h
    · replace h := h.2 c6
      refine gw_iconst (v := (-1)) dX11_about_22 ic_m1 ?_
      exact gw_rI dX11_about_23 rfl (by decide) (by decide) h
set_option maxHeartbeats 4000000 in
set_option maxRecDepth 20000 in
theorem eX11_play {l : Launch} {v0 : Nat} {v1 : Int32} {v2 : Int32} {v3 : Int32} {σ : Sg} {K : Int32 → Sg → Prop} (h : Ob σ v0 11 ∧ Con l mX11_aimed [.inr v0, .inl v1, .inl v2, .inl v3] σ (PR (fun x1 σ1 => ((¬ x1 = 0 → Ob σ1 x1 0 ∧ Ob σ1 (σ1.2.2 v0 4) 8 ∧ Con l mX8_draw [.inr (σ1.2.2 v0 4), .inl (σ1.2.1 x1 7), .inl (σ1.2.1 x1 8), .inl (σ1.2.1 x1 9), .inl (σ1.2.1 x1 10)] σ1 (PV (fun σ5 => Ob σ5 (σ5.2.2 v0 3) 2 ∧ Con l mX2_lay [.inr (σ5.2.2 v0 3), .inr (σ5.2.2 v0 4)] σ5 (PI (fun x7 σ7 => K x7 σ7))))) ∧ (x1 = 0 → K (-1) σ1))))) : Con l mX11_play [.inr v0, .inl v1, .inl v2, .inl v3] σ (PI K) := by
  refine con_gw rfl (Nat.le_of_ble_eq_true rfl) ?_
  show GW l mX11_play 0 [(0, .inr v0), (1, .inl v1), (2, .inl v2), (3, .inl v3)] [] σ 0 0 (PI K)
  refine gw_aload_n (q := 0) dX11_play_0 rfl rfl ?_
  refine gw_iload_n (q := 1) dX11_play_1 rfl rfl ?_
  refine gw_iload_n (q := 2) dX11_play_2 rfl rfl ?_
  refine gw_iload_n (q := 3) dX11_play_3 rfl rfl ?_
  obtain ⟨g2, h⟩ := h
  refine gw_vC (bs := [.inl v1, .inl v2, .inl v3]) (st := []) (vmX11_aimed) lX11_187 dX11_play_4 ⟨by decide, rfl, rfl, by decide, by decide⟩ (Nat.le_of_ble_eq_true rfl) rfl rfl g2 h (kR (fun x1 σ1 h n1 => ?_))
  refine gw_astore (lo' := [(0, .inr v0), (1, .inl v1), (2, .inl v2), (3, .inl v3), (4, .inr x1)]) dX11_play_7 (by decide) rfl ?_
  refine gw_aload (q := 4) dX11_play_9 rfl ?_
  refine gw_ifnonnull (tgt := 16) dX11_play_11 (by decide) (fun c3 => ?_) (fun c3 => ?_)
  · replace h := h.1 c3
    refine gw_aload_n (q := 0) dX11_play_16 rfl rfl ?_
    refine gw_gR fX11_36 dX11_play_17 (g2.up n1) ?_
    refine gw_aload (q := 4) dX11_play_20 rfl ?_
    obtain ⟨g4, h⟩ := h
    refine gw_gI fX11_191 dX11_play_22 g4 ?_
    refine gw_aload (q := 4) dX11_play_25 rfl ?_
    refine gw_gI fX11_194 dX11_play_27 g4 ?_
    refine gw_aload (q := 4) dX11_play_30 rfl ?_
    refine gw_gI fX11_197 dX11_play_32 g4 ?_
    refine gw_aload (q := 4) dX11_play_35 rfl ?_
    refine gw_gI fX11_200 dX11_play_37 g4 ?_
    obtain ⟨g6, h⟩ := h
    refine gw_vC (bs := [.inl (σ1.2.1 x1 7), .inl (σ1.2.1 x1 8), .inl (σ1.2.1 x1 9), .inl (σ1.2.1 x1 10)]) (st := []) (vmX8_draw) lX11_203 dX11_play_40 ⟨by decide, rfl, rfl, by decide, by decide⟩ (Nat.le_of_ble_eq_true rfl) rfl rfl g6 h (kV (fun σ5 h n5 => ?_))
    refine gw_aload_n (q := 0) dX11_play_43 rfl rfl ?_
    refine gw_gR fX11_29 dX11_play_44 ((g2.up n1).up n5) ?_
    refine gw_aload_n (q := 0) dX11_play_47 rfl rfl ?_
    refine gw_gR fX11_36 dX11_play_48 ((g2.up n1).up n5) ?_
    obtain ⟨g8, h⟩ := h
    refine gw_vC (bs := [.inr (σ5.2.2 v0 4)]) (st := []) (vmX2_lay) lX11_207 dX11_play_51 ⟨by decide, rfl, rfl, by decide, by decide⟩ (Nat.le_of_ble_eq_true rfl) rfl rfl g8 h (kI (fun x7 σ7 h n7 => ?_))
    exact gw_rI dX11_play_54 rfl (by decide) (by decide) h
  · replace h := h.2 c3
    refine gw_iconst (v := (-1)) dX11_play_14 ic_m1 ?_
    exact gw_rI dX11_play_15 rfl (by decide) (by decide) h
set_option maxHeartbeats 4000000 in
set_option maxRecDepth 20000 in
theorem eX11_nozzle {l : Launch} {v0 : Nat} {v1 : Int32} {σ : Sg} {K : Int32 → Sg → Prop} (h : Con l mX11_within [.inl v1, .inl 0, .inl 30] σ (PI (fun x1 σ1 => ((¬ x1 = 0 → Ob σ1 v0 11 ∧ ∀ σ4, σ4 = w1 σ1 v0 9 v1 → K 1 σ4) ∧ (x1 = 0 → K 0 σ1))))) : Con l mX11_nozzle [.inr v0, .inl v1] σ (PI K) := by
  refine con_gw rfl (Nat.le_of_ble_eq_true rfl) ?_
  show GW l mX11_nozzle 0 [(0, .inr v0), (1, .inl v1)] [] σ 0 0 (PI K)
  refine gw_iload_n (q := 1) dX11_nozzle_0 rfl rfl ?_
  refine gw_iconst (v := 0) dX11_nozzle_1 ic_0 ?_
  refine gw_bipush (v := 30) dX11_nozzle_2 bp_30 ?_
  refine gw_sC (bs := [.inl v1, .inl 0, .inl 30]) (st := []) smX11_within lX11_94 dX11_nozzle_4 ⟨by decide, rfl, rfl, by decide, by decide⟩ (Nat.le_of_ble_eq_true rfl) rfl rfl h (kI (fun x1 σ1 h n1 => ?_))
  refine gw_if_ne (tgt := 12) dX11_nozzle_7 (by decide) (fun c2 => ?_) (fun c2 => ?_)
  · replace h := h.1 c2
    refine gw_aload_n (q := 0) dX11_nozzle_12 rfl rfl ?_
    refine gw_iload_n (q := 1) dX11_nozzle_13 rfl rfl ?_
    obtain ⟨g3, h⟩ := h
    refine gw_pI fX11_61 dX11_nozzle_14 g3 (fun σ4 e4 => ?_)
    replace h := h σ4 e4
    refine gw_iconst (v := 1) dX11_nozzle_17 ic_1 ?_
    exact gw_rZ dX11_nozzle_18 rfl (by decide) (by decide) (by decide) h
  · replace h := h.2 c2
    refine gw_iconst (v := 0) dX11_nozzle_10 ic_0 ?_
    exact gw_rZ dX11_nozzle_11 rfl (by decide) (by decide) (by decide) h
set_option maxHeartbeats 4000000 in
set_option maxRecDepth 20000 in
theorem eX11_thick {l : Launch} {v0 : Nat} {v1 : Int32} {v2 : Int32} {v3 : Int32} {v4 : Int32} {v5 : Int32} {σ : Sg} {K : Int32 → Sg → Prop} (h : Con l mX11_within [.inl v1, .inl 0, .inl 15] σ (PI (fun x1 σ1 => ((x1 = 0 → K (-1) σ1) ∧ (¬ x1 = 0 → Con l mX11_within [.inl v2, .inl 0, .inl 15] σ1 (PI (fun x3 σ3 => ((x3 = 0 → K (-1) σ3) ∧ (¬ x3 = 0 → Con l mX11_within [.inl v5, .inl 0, .inl 3] σ3 (PI (fun x5 σ5 => ((¬ x5 = 0 → Con l mX11_within [.inl v3, .inl v1, .inl 15] σ5 (PI (fun x7 σ7 => ((x7 = 0 → K (-1) σ7) ∧ (¬ x7 = 0 → Con l mX11_within [.inl v4, .inl v2, .inl 15] σ7 (PI (fun x9 σ9 => ((¬ x9 = 0 → Ob σ9 v0 11 ∧ Ob σ9 (σ9.2.2 v0 3) 2 ∧ Con l mX2_measure [.inr (σ9.2.2 v0 3), .inl v1, .inl v2, .inl v3, .inl v4, .inl v5] σ9 (PI (fun x12 σ12 => K x12 σ12))) ∧ (x9 = 0 → K (-1) σ9))))))))) ∧ (x5 = 0 → K (-1) σ5))))))))))))) : Con l mX11_thick [.inr v0, .inl v1, .inl v2, .inl v3, .inl v4, .inl v5] σ (PI K) := by
  refine con_gw rfl (Nat.le_of_ble_eq_true rfl) ?_
  show GW l mX11_thick 0 [(0, .inr v0), (1, .inl v1), (2, .inl v2), (3, .inl v3), (4, .inl v4), (5, .inl v5)] [] σ 0 0 (PI K)
  refine gw_iload_n (q := 1) dX11_thick_0 rfl rfl ?_
  refine gw_iconst (v := 0) dX11_thick_1 ic_0 ?_
  refine gw_bipush (v := 15) dX11_thick_2 bp_15 ?_
  refine gw_sC (bs := [.inl v1, .inl 0, .inl 15]) (st := []) smX11_within lX11_94 dX11_thick_4 ⟨by decide, rfl, rfl, by decide, by decide⟩ (Nat.le_of_ble_eq_true rfl) rfl rfl h (kI (fun x1 σ1 h n1 => ?_))
  refine gw_if_eq (tgt := 30) dX11_thick_7 (by decide) (fun c2 => ?_) (fun c2 => ?_)
  · replace h := h.1 c2
    refine gw_iconst (v := (-1)) dX11_thick_30 ic_m1 ?_
    exact gw_rI dX11_thick_31 rfl (by decide) (by decide) h
  · replace h := h.2 c2
    refine gw_iload_n (q := 2) dX11_thick_10 rfl rfl ?_
    refine gw_iconst (v := 0) dX11_thick_11 ic_0 ?_
    refine gw_bipush (v := 15) dX11_thick_12 bp_15 ?_
    refine gw_sC (bs := [.inl v2, .inl 0, .inl 15]) (st := []) smX11_within lX11_94 dX11_thick_14 ⟨by decide, rfl, rfl, by decide, by decide⟩ (Nat.le_of_ble_eq_true rfl) rfl rfl h (kI (fun x3 σ3 h n3 => ?_))
    refine gw_if_eq (tgt := 30) dX11_thick_17 (by decide) (fun c4 => ?_) (fun c4 => ?_)
    · replace h := h.1 c4
      refine gw_iconst (v := (-1)) dX11_thick_30 ic_m1 ?_
      exact gw_rI dX11_thick_31 rfl (by decide) (by decide) h
    · replace h := h.2 c4
      refine gw_iload (q := 5) dX11_thick_20 rfl ?_
      refine gw_iconst (v := 0) dX11_thick_22 ic_0 ?_
      refine gw_iconst (v := 3) dX11_thick_23 ic_3 ?_
      refine gw_sC (bs := [.inl v5, .inl 0, .inl 3]) (st := []) smX11_within lX11_94 dX11_thick_24 ⟨by decide, rfl, rfl, by decide, by decide⟩ (Nat.le_of_ble_eq_true rfl) rfl rfl h (kI (fun x5 σ5 h n5 => ?_))
      refine gw_if_ne (tgt := 32) dX11_thick_27 (by decide) (fun c6 => ?_) (fun c6 => ?_)
      · replace h := h.1 c6
        refine gw_iload_n (q := 3) dX11_thick_32 rfl rfl ?_
        refine gw_iload_n (q := 1) dX11_thick_33 rfl rfl ?_
        refine gw_bipush (v := 15) dX11_thick_34 bp_15 ?_
        refine gw_sC (bs := [.inl v3, .inl v1, .inl 15]) (st := []) smX11_within lX11_94 dX11_thick_36 ⟨by decide, rfl, rfl, by decide, by decide⟩ (Nat.le_of_ble_eq_true rfl) rfl rfl h (kI (fun x7 σ7 h n7 => ?_))
        refine gw_if_eq (tgt := 53) dX11_thick_39 (by decide) (fun c8 => ?_) (fun c8 => ?_)
        · replace h := h.1 c8
          refine gw_iconst (v := (-1)) dX11_thick_53 ic_m1 ?_
          exact gw_rI dX11_thick_54 rfl (by decide) (by decide) h
        · replace h := h.2 c8
          refine gw_iload (q := 4) dX11_thick_42 rfl ?_
          refine gw_iload_n (q := 2) dX11_thick_44 rfl rfl ?_
          refine gw_bipush (v := 15) dX11_thick_45 bp_15 ?_
          refine gw_sC (bs := [.inl v4, .inl v2, .inl 15]) (st := []) smX11_within lX11_94 dX11_thick_47 ⟨by decide, rfl, rfl, by decide, by decide⟩ (Nat.le_of_ble_eq_true rfl) rfl rfl h (kI (fun x9 σ9 h n9 => ?_))
          refine gw_if_ne (tgt := 55) dX11_thick_50 (by decide) (fun c10 => ?_) (fun c10 => ?_)
          · replace h := h.1 c10
            refine gw_aload_n (q := 0) dX11_thick_55 rfl rfl ?_
            obtain ⟨g11, h⟩ := h
            refine gw_gR fX11_29 dX11_thick_56 g11 ?_
            refine gw_iload_n (q := 1) dX11_thick_59 rfl rfl ?_
            refine gw_iload_n (q := 2) dX11_thick_60 rfl rfl ?_
            refine gw_iload_n (q := 3) dX11_thick_61 rfl rfl ?_
            refine gw_iload (q := 4) dX11_thick_62 rfl ?_
            refine gw_iload (q := 5) dX11_thick_64 rfl ?_
            obtain ⟨g13, h⟩ := h
            refine gw_vC (bs := [.inl v1, .inl v2, .inl v3, .inl v4, .inl v5]) (st := []) (vmX2_measure) lX11_211 dX11_thick_66 ⟨by decide, rfl, rfl, by decide, by decide⟩ (Nat.le_of_ble_eq_true rfl) rfl rfl g13 h (kI (fun x12 σ12 h n12 => ?_))
            exact gw_rI dX11_thick_69 rfl (by decide) (by decide) h
          · replace h := h.2 c10
            refine gw_iconst (v := (-1)) dX11_thick_53 ic_m1 ?_
            exact gw_rI dX11_thick_54 rfl (by decide) (by decide) h
      · replace h := h.2 c6
        refine gw_iconst (v := (-1)) dX11_thick_30 ic_m1 ?_
        exact gw_rI dX11_thick_31 rfl (by decide) (by decide) h
set_option maxHeartbeats 4000000 in
set_option maxRecDepth 20000 in
theorem eX11_paint {l : Launch} {v0 : Nat} {v1 : Int32} {v2 : Int32} {σ : Sg} {K : Int32 → Sg → Prop} (h : Ob σ v0 11 ∧ Con l mX2_spotAt [.inl v1, .inl v2] σ (PI (fun x2 σ2 => Ob σ2 (σ.2.2 v0 3) 2 ∧ Con l mX2_paintOn [.inr (σ.2.2 v0 3), .inl x2] σ2 (PI (fun x3 σ3 => K x3 σ3))))) : Con l mX11_paint [.inr v0, .inl v1, .inl v2] σ (PI K) := by
  refine con_gw rfl (Nat.le_of_ble_eq_true rfl) ?_
  show GW l mX11_paint 0 [(0, .inr v0), (1, .inl v1), (2, .inl v2)] [] σ 0 0 (PI K)
  refine gw_aload_n (q := 0) dX11_paint_0 rfl rfl ?_
  obtain ⟨g1, h⟩ := h
  refine gw_gR fX11_29 dX11_paint_1 g1 ?_
  refine gw_iload_n (q := 1) dX11_paint_4 rfl rfl ?_
  refine gw_iload_n (q := 2) dX11_paint_5 rfl rfl ?_
  refine gw_sC (bs := [.inl v1, .inl v2]) (st := [.inr (σ.2.2 v0 3)]) smX2_spotAt lX11_215 dX11_paint_6 ⟨by decide, rfl, rfl, by decide, by decide⟩ (Nat.le_of_ble_eq_true rfl) rfl rfl h (kI (fun x2 σ2 h n2 => ?_))
  obtain ⟨g4, h⟩ := h
  refine gw_vC (bs := [.inl x2]) (st := []) (vmX2_paintOn) lX11_218 dX11_paint_9 ⟨by decide, rfl, rfl, by decide, by decide⟩ (Nat.le_of_ble_eq_true rfl) rfl rfl g4 h (kI (fun x3 σ3 h n3 => ?_))
  exact gw_rI dX11_paint_12 rfl (by decide) (by decide) h
set_option maxHeartbeats 4000000 in
set_option maxRecDepth 20000 in
theorem eX11_clean {l : Launch} {v0 : Nat} {σ : Sg} {K : Int32 → Sg → Prop} (h : Ob σ v0 11 ∧ Ob σ (σ.2.2 v0 3) 2 ∧ Con l mX2_painted [.inr (σ.2.2 v0 3)] σ (PI (fun x2 σ2 => Ob σ2 (σ2.2.2 v0 3) 2 ∧ Con l mX2_wash [.inr (σ2.2.2 v0 3)] σ2 (PV (fun σ4 => K x2 σ4))))) : Con l mX11_clean [.inr v0] σ (PI K) := by
  refine con_gw rfl (Nat.le_of_ble_eq_true rfl) ?_
  show GW l mX11_clean 0 [(0, .inr v0)] [] σ 0 0 (PI K)
  refine gw_aload_n (q := 0) dX11_clean_0 rfl rfl ?_
  obtain ⟨g1, h⟩ := h
  refine gw_gR fX11_29 dX11_clean_1 g1 ?_
  obtain ⟨g3, h⟩ := h
  refine gw_vC (bs := []) (st := []) (vmX2_painted) lX11_221 dX11_clean_4 ⟨by decide, rfl, rfl, by decide, by decide⟩ (Nat.le_of_ble_eq_true rfl) rfl rfl g3 h (kI (fun x2 σ2 h n2 => ?_))
  refine gw_istore_n (lo' := [(0, .inr v0), (1, .inl x2)]) dX11_clean_7 rfl (by decide) rfl ?_
  refine gw_aload_n (q := 0) dX11_clean_8 rfl rfl ?_
  refine gw_gR fX11_29 dX11_clean_9 (g1.up n2) ?_
  obtain ⟨g5, h⟩ := h
  refine gw_vC (bs := []) (st := []) (vmX2_wash) lX11_224 dX11_clean_12 ⟨by decide, rfl, rfl, by decide, by decide⟩ (Nat.le_of_ble_eq_true rfl) rfl rfl g5 h (kV (fun σ4 h n4 => ?_))
  refine gw_iload_n (q := 1) dX11_clean_15 rfl rfl ?_
  exact gw_rI dX11_clean_16 rfl (by decide) (by decide) h
set_option maxHeartbeats 4000000 in
set_option maxRecDepth 20000 in
theorem gX11_follow_164 {l : Launch} {v0 : Nat} {v1 : Int32} {v2 : Int32} {v3 : Int32} {v4 : Int32} {v5 : Nat} {v6 : Nat} {v7 : Nat} {v8 : Nat} {v9 : Int32} {v10 : Nat} {v11 : Int32} {σ : Sg} {K : Int32 → Sg → Prop} (h : ((v10 = 0 → K v9 σ) ∧ (¬ v10 = 0 → Ob σ v5 9 ∧ (((σ.2.1 v5 3) ≤ v11 → K v9 σ) ∧ (¬ (σ.2.1 v5 3) ≤ v11 → Ob σ v8 3 ∧ Con l mX3_poseAt [.inr v8, .inl v11] σ (PI (fun x4 σ4 => Con l mX9_sprayAt [.inr v5, .inl v11] σ4 (PI (fun x6 σ6 => Ob σ6 v10 9 ∧ Con l mX9_addTick [.inr v10, .inl x4, .inl x6] σ6 (PI (fun x7 σ7 => GW l mX11_follow 164 [(0, .inr v0), (1, .inl v1), (2, .inl v2), (3, .inl v3), (4, .inl v4), (5, .inr v5), (6, .inr v6), (7, .inr v7), (8, .inr v8), (9, .inl v9), (10, .inr v10), (11, .inl (v11 + 1))] [] σ7 0 0 (PI K)))))))))))) : GW l mX11_follow 164 [(0, .inr v0), (1, .inl v1), (2, .inl v2), (3, .inl v3), (4, .inl v4), (5, .inr v5), (6, .inr v6), (7, .inr v7), (8, .inr v8), (9, .inl v9), (10, .inr v10), (11, .inl v11)] [] σ 0 0 (PI K) := by
  refine gw_aload (q := 10) dX11_follow_164 rfl ?_
  refine gw_ifnull (tgt := 205) dX11_follow_166 (by decide) (fun c1 => ?_) (fun c1 => ?_)
  · replace h := h.1 c1
    refine gw_iload (q := 9) dX11_follow_205 rfl ?_
    exact gw_rI dX11_follow_207 rfl (by decide) (by decide) h
  · replace h := h.2 c1
    refine gw_iload (q := 11) dX11_follow_169 rfl ?_
    refine gw_aload (q := 5) dX11_follow_171 rfl ?_
    obtain ⟨g2, h⟩ := h
    refine gw_gI fX11_147 dX11_follow_173 g2 ?_
    refine gw_icmp_ge (tgt := 205) dX11_follow_176 (by decide) (fun c3 => ?_) (fun c3 => ?_)
    · replace h := h.1 c3
      refine gw_iload (q := 9) dX11_follow_205 rfl ?_
      exact gw_rI dX11_follow_207 rfl (by decide) (by decide) h
    · replace h := h.2 c3
      refine gw_aload (q := 10) dX11_follow_179 rfl ?_
      refine gw_aload (q := 8) dX11_follow_181 rfl ?_
      refine gw_iload (q := 11) dX11_follow_183 rfl ?_
      obtain ⟨g5, h⟩ := h
      refine gw_vC (bs := [.inl v11]) (st := [.inr v10]) (vmX3_poseAt) lX11_250 dX11_follow_185 ⟨by decide, rfl, rfl, by decide, by decide⟩ (Nat.le_of_ble_eq_true rfl) rfl rfl g5 h (kI (fun x4 σ4 h n4 => ?_))
      refine gw_aload (q := 5) dX11_follow_188 rfl ?_
      refine gw_iload (q := 11) dX11_follow_190 rfl ?_
      refine gw_vC (bs := [.inl v11]) (st := [.inl x4, .inr v10]) (vmX9_sprayAt) lX11_172 dX11_follow_192 ⟨by decide, rfl, rfl, by decide, by decide⟩ (Nat.le_of_ble_eq_true rfl) rfl rfl (g2.up n4) h (kI (fun x6 σ6 h n6 => ?_))
      obtain ⟨g8, h⟩ := h
      refine gw_vC (bs := [.inl x4, .inl x6]) (st := []) (vmX9_addTick) lX11_156 dX11_follow_195 ⟨by decide, rfl, rfl, by decide, by decide⟩ (Nat.le_of_ble_eq_true rfl) rfl rfl g8 h (kI (fun x7 σ7 h n7 => ?_))
      refine gw_pop dX11_follow_198 ?_
      refine gw_inc (lo' := [(0, .inr v0), (1, .inl v1), (2, .inl v2), (3, .inl v3), (4, .inl v4), (5, .inr v5), (6, .inr v6), (7, .inr v7), (8, .inr v8), (9, .inl v9), (10, .inr v10), (11, .inl (v11 + 1))]) (q := 11) (c := 1) dX11_follow_199 ic_1 rfl (by decide) rfl ?_
      refine gw_goto (tgt := 164) dX11_follow_202 (by decide) ?_
      exact h
set_option maxHeartbeats 4000000 in
set_option maxRecDepth 20000 in
theorem eX11_follow {l : Launch} {v0 : Nat} {v1 : Int32} {v2 : Int32} {v3 : Int32} {v4 : Int32} {σ : Sg} {K : Int32 → Sg → Prop} (h : Ob σ v0 11 ∧ Ob σ (σ.2.2 v0 0) 7 ∧ Con l mX7_tapeAt [.inr (σ.2.2 v0 0), .inl v1] σ (PR (fun x2 σ2 => Ob σ2 (σ2.2.2 v0 0) 7 ∧ Con l mX7_armOf [.inr (σ2.2.2 v0 0), .inr x2] σ2 (PR (fun x4 σ4 => Ob σ4 (σ4.2.2 v0 0) 7 ∧ Con l mX7_armAt [.inr (σ4.2.2 v0 0), .inl v2] σ4 (PR (fun x6 σ6 => ((x2 = 0 → K (-1) σ6) ∧ (¬ x2 = 0 → ((x4 = 0 → K (-1) σ6) ∧ (¬ x4 = 0 → ((x6 = 0 → K (-1) σ6) ∧ (¬ x6 = 0 → Ob σ6 x2 9 ∧ (((σ6.2.1 x2 3) = 0 → K (-1) σ6) ∧ (¬ (σ6.2.1 x2 3) = 0 → Ob σ6 x6 0 ∧ ((¬ (σ6.2.1 x6 6) = 0 → Con l mX11_isDrift [.inl v3] σ6 (PI (fun x15 σ15 => ((x15 = 0 → K (-1) σ15) ∧ (¬ x15 = 0 → Con l mX11_isError [.inl v4] σ15 (PI (fun x17 σ17 => ((x17 = 0 → K (-1) σ17) ∧ (¬ x17 = 0 → Ob σ17 (σ17.2.2 v0 0) 7 ∧ Con l mX7_hasRoom [.inr (σ17.2.2 v0 0)] σ17 (PI (fun x19 σ19 => ((¬ x19 = 0 → Con l mX11_readyFollower [.inr v0] σ19 (PR (fun x22 σ22 => Ob σ22 x22 3 ∧ Con l mX3_search [.inr x22, .inr x2, .inr x4, .inr x6, .inl v3, .inl v4] σ22 (PI (fun x23 σ23 => ((¬ x23 = 0 → ∀ σ26, σ26 = w1 σ23 v0 10 (-1) → ∀ σ27, σ27 = w1 σ26 v0 11 (σ26.2.1 x22 18) → Ob σ27 (σ27.2.2 v0 0) 7 ∧ Con l mX7_addTape [.inr (σ27.2.2 v0 0), .inl v2] σ27 (PI (fun x28 σ28 => Ob σ28 (σ28.2.2 v0 0) 7 ∧ Con l mX7_tapeAt [.inr (σ28.2.2 v0 0), .inl x28] σ28 (PR (fun x30 σ30 => GW l mX11_follow 164 [(0, .inr v0), (1, .inl v1), (2, .inl v2), (3, .inl v3), (4, .inl v4), (5, .inr x2), (6, .inr x4), (7, .inr x6), (8, .inr x22), (9, .inl x28), (10, .inr x30), (11, .inl 0)] [] σ30 0 0 (PI K)))))) ∧ (x23 = 0 → ∀ σ32, σ32 = w1 σ23 v0 10 (σ23.2.1 x22 17) → K (-2) σ32))))))) ∧ (x19 = 0 → K (-1) σ19))))))))))))) ∧ ((σ6.2.1 x6 6) = 0 → K (-1) σ6))))))))))))))))) : Con l mX11_follow [.inr v0, .inl v1, .inl v2, .inl v3, .inl v4] σ (PI K) := by
  refine con_gw rfl (Nat.le_of_ble_eq_true rfl) ?_
  show GW l mX11_follow 0 [(0, .inr v0), (1, .inl v1), (2, .inl v2), (3, .inl v3), (4, .inl v4)] [] σ 0 0 (PI K)
  refine gw_aload_n (q := 0) dX11_follow_0 rfl rfl ?_
  obtain ⟨g1, h⟩ := h
  refine gw_gR fX11_20 dX11_follow_1 g1 ?_
  refine gw_iload_n (q := 1) dX11_follow_4 rfl rfl ?_
  obtain ⟨g3, h⟩ := h
  refine gw_vC (bs := [.inl v1]) (st := []) (vmX7_tapeAt) lX11_139 dX11_follow_5 ⟨by decide, rfl, rfl, by decide, by decide⟩ (Nat.le_of_ble_eq_true rfl) rfl rfl g3 h (kR (fun x2 σ2 h n2 => ?_))
  refine gw_astore (lo' := [(0, .inr v0), (1, .inl v1), (2, .inl v2), (3, .inl v3), (4, .inl v4), (5, .inr x2)]) dX11_follow_8 (by decide) rfl ?_
  refine gw_aload_n (q := 0) dX11_follow_10 rfl rfl ?_
  refine gw_gR fX11_20 dX11_follow_11 (g1.up n2) ?_
  refine gw_aload (q := 5) dX11_follow_14 rfl ?_
  obtain ⟨g5, h⟩ := h
  refine gw_vC (bs := [.inr x2]) (st := []) (vmX7_armOf) lX11_143 dX11_follow_16 ⟨by decide, rfl, rfl, by decide, by decide⟩ (Nat.le_of_ble_eq_true rfl) rfl rfl g5 h (kR (fun x4 σ4 h n4 => ?_))
  refine gw_astore (lo' := [(0, .inr v0), (1, .inl v1), (2, .inl v2), (3, .inl v3), (4, .inl v4), (5, .inr x2), (6, .inr x4)]) dX11_follow_19 (by decide) rfl ?_
  refine gw_aload_n (q := 0) dX11_follow_21 rfl rfl ?_
  refine gw_gR fX11_20 dX11_follow_22 ((g1.up n2).up n4) ?_
  refine gw_iload_n (q := 2) dX11_follow_25 rfl rfl ?_
  obtain ⟨g7, h⟩ := h
  refine gw_vC (bs := [.inl v2]) (st := []) (vmX7_armAt) lX11_104 dX11_follow_26 ⟨by decide, rfl, rfl, by decide, by decide⟩ (Nat.le_of_ble_eq_true rfl) rfl rfl g7 h (kR (fun x6 σ6 h n6 => ?_))
  refine gw_astore (lo' := [(0, .inr v0), (1, .inl v1), (2, .inl v2), (3, .inl v3), (4, .inl v4), (5, .inr x2), (6, .inr x4), (7, .inr x6)]) dX11_follow_29 (by decide) rfl ?_
  refine gw_aload (q := 5) dX11_follow_31 rfl ?_
  refine gw_ifnull (tgt := 62) dX11_follow_33 (by decide) (fun c8 => ?_) (fun c8 => ?_)
  · replace h := h.1 c8
    refine gw_iconst (v := (-1)) dX11_follow_62 ic_m1 ?_
    exact gw_rI dX11_follow_63 rfl (by decide) (by decide) h
  · replace h := h.2 c8
    refine gw_aload (q := 6) dX11_follow_36 rfl ?_
    refine gw_ifnull (tgt := 62) dX11_follow_38 (by decide) (fun c9 => ?_) (fun c9 => ?_)
    · replace h := h.1 c9
      refine gw_iconst (v := (-1)) dX11_follow_62 ic_m1 ?_
      exact gw_rI dX11_follow_63 rfl (by decide) (by decide) h
    · replace h := h.2 c9
      refine gw_aload (q := 7) dX11_follow_41 rfl ?_
      refine gw_ifnull (tgt := 62) dX11_follow_43 (by decide) (fun c10 => ?_) (fun c10 => ?_)
      · replace h := h.1 c10
        refine gw_iconst (v := (-1)) dX11_follow_62 ic_m1 ?_
        exact gw_rI dX11_follow_63 rfl (by decide) (by decide) h
      · replace h := h.2 c10
        refine gw_aload (q := 5) dX11_follow_46 rfl ?_
        obtain ⟨g11, h⟩ := h
        refine gw_gI fX11_147 dX11_follow_48 g11 ?_
        refine gw_if_eq (tgt := 62) dX11_follow_51 (by decide) (fun c12 => ?_) (fun c12 => ?_)
        · replace h := h.1 c12
          refine gw_iconst (v := (-1)) dX11_follow_62 ic_m1 ?_
          exact gw_rI dX11_follow_63 rfl (by decide) (by decide) h
        · replace h := h.2 c12
          refine gw_aload (q := 7) dX11_follow_54 rfl ?_
          obtain ⟨g13, h⟩ := h
          refine gw_gI fX11_121 dX11_follow_56 g13 ?_
          refine gw_if_ne (tgt := 64) dX11_follow_59 (by decide) (fun c14 => ?_) (fun c14 => ?_)
          · replace h := h.1 c14
            refine gw_iload_n (q := 3) dX11_follow_64 rfl rfl ?_
            refine gw_sC (bs := [.inl v3]) (st := []) smX11_isDrift lX11_227 dX11_follow_65 ⟨by decide, rfl, rfl, by decide, by decide⟩ (Nat.le_of_ble_eq_true rfl) rfl rfl h (kI (fun x15 σ15 h n15 => ?_))
            refine gw_if_eq (tgt := 89) dX11_follow_68 (by decide) (fun c16 => ?_) (fun c16 => ?_)
            · replace h := h.1 c16
              refine gw_iconst (v := (-1)) dX11_follow_89 ic_m1 ?_
              exact gw_rI dX11_follow_90 rfl (by decide) (by decide) h
            · replace h := h.2 c16
              refine gw_iload (q := 4) dX11_follow_71 rfl ?_
              refine gw_sC (bs := [.inl v4]) (st := []) smX11_isError lX11_230 dX11_follow_73 ⟨by decide, rfl, rfl, by decide, by decide⟩ (Nat.le_of_ble_eq_true rfl) rfl rfl h (kI (fun x17 σ17 h n17 => ?_))
              refine gw_if_eq (tgt := 89) dX11_follow_76 (by decide) (fun c18 => ?_) (fun c18 => ?_)
              · replace h := h.1 c18
                refine gw_iconst (v := (-1)) dX11_follow_89 ic_m1 ?_
                exact gw_rI dX11_follow_90 rfl (by decide) (by decide) h
              · replace h := h.2 c18
                refine gw_aload_n (q := 0) dX11_follow_79 rfl rfl ?_
                refine gw_gR fX11_20 dX11_follow_80 (((((g1.up n2).up n4).up n6).up n15).up n17) ?_
                obtain ⟨g20, h⟩ := h
                refine gw_vC (bs := []) (st := []) (vmX7_hasRoom) lX11_233 dX11_follow_83 ⟨by decide, rfl, rfl, by decide, by decide⟩ (Nat.le_of_ble_eq_true rfl) rfl rfl g20 h (kI (fun x19 σ19 h n19 => ?_))
                refine gw_if_ne (tgt := 91) dX11_follow_86 (by decide) (fun c21 => ?_) (fun c21 => ?_)
                · replace h := h.1 c21
                  refine gw_aload_n (q := 0) dX11_follow_91 rfl rfl ?_
                  refine gw_vC (bs := []) (st := []) (vmX11_readyFollower) lX11_234 dX11_follow_92 ⟨by decide, rfl, rfl, by decide, by decide⟩ (Nat.le_of_ble_eq_true rfl) rfl rfl ((((((g1.up n2).up n4).up n6).up n15).up n17).up n19) h (kR (fun x22 σ22 h n22 => ?_))
                  refine gw_astore (lo' := [(0, .inr v0), (1, .inl v1), (2, .inl v2), (3, .inl v3), (4, .inl v4), (5, .inr x2), (6, .inr x4), (7, .inr x6), (8, .inr x22)]) dX11_follow_95 (by decide) rfl ?_
                  refine gw_aload (q := 8) dX11_follow_97 rfl ?_
                  refine gw_aload (q := 5) dX11_follow_99 rfl ?_
                  refine gw_aload (q := 6) dX11_follow_101 rfl ?_
                  refine gw_aload (q := 7) dX11_follow_103 rfl ?_
                  refine gw_iload_n (q := 3) dX11_follow_105 rfl rfl ?_
                  refine gw_iload (q := 4) dX11_follow_106 rfl ?_
                  obtain ⟨g24, h⟩ := h
                  refine gw_vC (bs := [.inr x2, .inr x4, .inr x6, .inl v3, .inl v4]) (st := []) (vmX3_search) lX11_238 dX11_follow_108 ⟨by decide, rfl, rfl, by decide, by decide⟩ (Nat.le_of_ble_eq_true rfl) rfl rfl g24 h (kI (fun x23 σ23 h n23 => ?_))
                  refine gw_if_ne (tgt := 126) dX11_follow_111 (by decide) (fun c25 => ?_) (fun c25 => ?_)
                  · replace h := h.1 c25
                    refine gw_aload_n (q := 0) dX11_follow_126 rfl rfl ?_
                    refine gw_iconst (v := (-1)) dX11_follow_127 ic_m1 ?_
                    refine gw_pI fX11_65 dX11_follow_128 ((((((((g1.up n2).up n4).up n6).up n15).up n17).up n19).up n22).up n23) (fun σ26 e26 => ?_)
                    replace h := h σ26 e26
                    refine gw_aload_n (q := 0) dX11_follow_131 rfl rfl ?_
                    refine gw_aload (q := 8) dX11_follow_132 rfl ?_
                    refine gw_gI fX11_247 dX11_follow_134 ((g24.up n23).up (n_w1 e26)) ?_
                    refine gw_pI fX11_68 dX11_follow_137 (((((((((g1.up n2).up n4).up n6).up n15).up n17).up n19).up n22).up n23).up (n_w1 e26)) (fun σ27 e27 => ?_)
                    replace h := h σ27 e27
                    refine gw_aload_n (q := 0) dX11_follow_140 rfl rfl ?_
                    refine gw_gR fX11_20 dX11_follow_141 ((((((((((g1.up n2).up n4).up n6).up n15).up n17).up n19).up n22).up n23).up (n_w1 e26)).up (n_w1 e27)) ?_
                    refine gw_iload_n (q := 2) dX11_follow_144 rfl rfl ?_
                    obtain ⟨g29, h⟩ := h
                    refine gw_vC (bs := [.inl v2]) (st := []) (vmX7_addTape) lX11_136 dX11_follow_145 ⟨by decide, rfl, rfl, by decide, by decide⟩ (Nat.le_of_ble_eq_true rfl) rfl rfl g29 h (kI (fun x28 σ28 h n28 => ?_))
                    refine gw_istore (lo' := [(0, .inr v0), (1, .inl v1), (2, .inl v2), (3, .inl v3), (4, .inl v4), (5, .inr x2), (6, .inr x4), (7, .inr x6), (8, .inr x22), (9, .inl x28)]) dX11_follow_148 (by decide) rfl ?_
                    refine gw_aload_n (q := 0) dX11_follow_150 rfl rfl ?_
                    refine gw_gR fX11_20 dX11_follow_151 (((((((((((g1.up n2).up n4).up n6).up n15).up n17).up n19).up n22).up n23).up (n_w1 e26)).up (n_w1 e27)).up n28) ?_
                    refine gw_iload (q := 9) dX11_follow_154 rfl ?_
                    obtain ⟨g31, h⟩ := h
                    refine gw_vC (bs := [.inl x28]) (st := []) (vmX7_tapeAt) lX11_139 dX11_follow_156 ⟨by decide, rfl, rfl, by decide, by decide⟩ (Nat.le_of_ble_eq_true rfl) rfl rfl g31 h (kR (fun x30 σ30 h n30 => ?_))
                    refine gw_astore (lo' := [(0, .inr v0), (1, .inl v1), (2, .inl v2), (3, .inl v3), (4, .inl v4), (5, .inr x2), (6, .inr x4), (7, .inr x6), (8, .inr x22), (9, .inl x28), (10, .inr x30)]) dX11_follow_159 (by decide) rfl ?_
                    refine gw_iconst (v := 0) dX11_follow_161 ic_0 ?_
                    refine gw_istore (lo' := [(0, .inr v0), (1, .inl v1), (2, .inl v2), (3, .inl v3), (4, .inl v4), (5, .inr x2), (6, .inr x4), (7, .inr x6), (8, .inr x22), (9, .inl x28), (10, .inr x30), (11, .inl 0)]) dX11_follow_162 (by decide) rfl ?_
                    exact h
                  · replace h := h.2 c25
                    refine gw_aload_n (q := 0) dX11_follow_114 rfl rfl ?_
                    refine gw_aload (q := 8) dX11_follow_115 rfl ?_
                    refine gw_gI fX11_244 dX11_follow_117 (g24.up n23) ?_
                    refine gw_pI fX11_65 dX11_follow_120 ((((((((g1.up n2).up n4).up n6).up n15).up n17).up n19).up n22).up n23) (fun σ32 e32 => ?_)
                    replace h := h σ32 e32
                    refine gw_bipush (v := (-2)) dX11_follow_123 bp_m2 ?_
                    exact gw_rI dX11_follow_125 rfl (by decide) (by decide) h
                · replace h := h.2 c21
                  refine gw_iconst (v := (-1)) dX11_follow_89 ic_m1 ?_
                  exact gw_rI dX11_follow_90 rfl (by decide) (by decide) h
          · replace h := h.2 c14
            refine gw_iconst (v := (-1)) dX11_follow_62 ic_m1 ?_
            exact gw_rI dX11_follow_63 rfl (by decide) (by decide) h
set_option maxHeartbeats 4000000 in
set_option maxRecDepth 20000 in
theorem gX11_followN_164 {l : Launch} {v0 : Nat} {v1 : Int32} {v2 : Int32} {v3 : Int32} {v4 : Int32} {v5 : Nat} {v6 : Nat} {v7 : Nat} {v8 : Nat} {v9 : Int32} {v10 : Nat} {v11 : Int32} {σ : Sg} {K : Int32 → Sg → Prop} (h : ((v10 = 0 → K v9 σ) ∧ (¬ v10 = 0 → Ob σ v5 9 ∧ (((σ.2.1 v5 3) ≤ v11 → K v9 σ) ∧ (¬ (σ.2.1 v5 3) ≤ v11 → Ob σ v8 3 ∧ Con l mX3_poseAt [.inr v8, .inl v11] σ (PI (fun x4 σ4 => Con l mX9_sprayAt [.inr v5, .inl v11] σ4 (PI (fun x6 σ6 => Ob σ6 v10 9 ∧ Con l mX9_addTick [.inr v10, .inl x4, .inl x6] σ6 (PI (fun x7 σ7 => GW l mX11_followN 164 [(0, .inr v0), (1, .inl v1), (2, .inl v2), (3, .inl v3), (4, .inl v4), (5, .inr v5), (6, .inr v6), (7, .inr v7), (8, .inr v8), (9, .inl v9), (10, .inr v10), (11, .inl (v11 + 1))] [] σ7 0 0 (PI K)))))))))))) : GW l mX11_followN 164 [(0, .inr v0), (1, .inl v1), (2, .inl v2), (3, .inl v3), (4, .inl v4), (5, .inr v5), (6, .inr v6), (7, .inr v7), (8, .inr v8), (9, .inl v9), (10, .inr v10), (11, .inl v11)] [] σ 0 0 (PI K) := by
  refine gw_aload (q := 10) dX11_follow_164 rfl ?_
  refine gw_ifnull (tgt := 205) dX11_follow_166 (by decide) (fun c1 => ?_) (fun c1 => ?_)
  · replace h := h.1 c1
    refine gw_iload (q := 9) dX11_follow_205 rfl ?_
    exact gw_rI dX11_follow_207 rfl (by decide) (by decide) h
  · replace h := h.2 c1
    refine gw_iload (q := 11) dX11_follow_169 rfl ?_
    refine gw_aload (q := 5) dX11_follow_171 rfl ?_
    obtain ⟨g2, h⟩ := h
    refine gw_gI fX11_147 dX11_follow_173 g2 ?_
    refine gw_icmp_ge (tgt := 205) dX11_follow_176 (by decide) (fun c3 => ?_) (fun c3 => ?_)
    · replace h := h.1 c3
      refine gw_iload (q := 9) dX11_follow_205 rfl ?_
      exact gw_rI dX11_follow_207 rfl (by decide) (by decide) h
    · replace h := h.2 c3
      refine gw_aload (q := 10) dX11_follow_179 rfl ?_
      refine gw_aload (q := 8) dX11_follow_181 rfl ?_
      refine gw_iload (q := 11) dX11_follow_183 rfl ?_
      obtain ⟨g5, h⟩ := h
      refine gw_vC (bs := [.inl v11]) (st := [.inr v10]) (vmX3_poseAt) lX11_250 dX11_follow_185 ⟨by decide, rfl, rfl, by decide, by decide⟩ (Nat.le_of_ble_eq_true rfl) rfl rfl g5 h (kI (fun x4 σ4 h n4 => ?_))
      refine gw_aload (q := 5) dX11_follow_188 rfl ?_
      refine gw_iload (q := 11) dX11_follow_190 rfl ?_
      refine gw_vC (bs := [.inl v11]) (st := [.inl x4, .inr v10]) (vmX9_sprayAt) lX11_172 dX11_follow_192 ⟨by decide, rfl, rfl, by decide, by decide⟩ (Nat.le_of_ble_eq_true rfl) rfl rfl (g2.up n4) h (kI (fun x6 σ6 h n6 => ?_))
      obtain ⟨g8, h⟩ := h
      refine gw_vC (bs := [.inl x4, .inl x6]) (st := []) (vmX9_addTick) lX11_156 dX11_follow_195 ⟨by decide, rfl, rfl, by decide, by decide⟩ (Nat.le_of_ble_eq_true rfl) rfl rfl g8 h (kI (fun x7 σ7 h n7 => ?_))
      refine gw_pop dX11_follow_198 ?_
      refine gw_inc (lo' := [(0, .inr v0), (1, .inl v1), (2, .inl v2), (3, .inl v3), (4, .inl v4), (5, .inr v5), (6, .inr v6), (7, .inr v7), (8, .inr v8), (9, .inl v9), (10, .inr v10), (11, .inl (v11 + 1))]) (q := 11) (c := 1) dX11_follow_199 ic_1 rfl (by decide) rfl ?_
      refine gw_goto (tgt := 164) dX11_follow_202 (by decide) ?_
      exact h
set_option maxHeartbeats 4000000 in
set_option maxRecDepth 20000 in
theorem eX11_followN {l : Launch} {v0 : Nat} {v1 : Int32} {v2 : Int32} {v3 : Int32} {v4 : Int32} {σ : Sg} {K : Int32 → Sg → Prop} (h : Ob σ v0 11 ∧ Ob σ (σ.2.2 v0 0) 7 ∧ Con l mX7_tapeAt [.inr (σ.2.2 v0 0), .inl v1] σ (PR (fun x2 σ2 => Ob σ2 (σ2.2.2 v0 0) 7 ∧ Con l mX7_armOf [.inr (σ2.2.2 v0 0), .inr x2] σ2 (PR (fun x4 σ4 => Ob σ4 (σ4.2.2 v0 0) 7 ∧ Con l mX7_armAt [.inr (σ4.2.2 v0 0), .inl v2] σ4 (PR (fun x6 σ6 => ((x2 = 0 → K (-1) σ6) ∧ (¬ x2 = 0 → ((x4 = 0 → K (-1) σ6) ∧ (¬ x4 = 0 → ((x6 = 0 → K (-1) σ6) ∧ (¬ x6 = 0 → Ob σ6 x2 9 ∧ (((σ6.2.1 x2 3) = 0 → K (-1) σ6) ∧ (¬ (σ6.2.1 x2 3) = 0 → Ob σ6 x6 0 ∧ ((¬ (σ6.2.1 x6 6) = 0 → Con l mX11_isDrift [.inl v3] σ6 (PI (fun x15 σ15 => ((x15 = 0 → K (-1) σ15) ∧ (¬ x15 = 0 → Con l mX11_isError [.inl v4] σ15 (PI (fun x17 σ17 => ((x17 = 0 → K (-1) σ17) ∧ (¬ x17 = 0 → Ob σ17 (σ17.2.2 v0 0) 7 ∧ Con l mX7_hasRoom [.inr (σ17.2.2 v0 0)] σ17 (PI (fun x19 σ19 => ((¬ x19 = 0 → Con l mX11_readyFollowerN [.inr v0] σ19 (PR (fun x22 σ22 => Ob σ22 x22 3 ∧ Con l mX3_search [.inr x22, .inr x2, .inr x4, .inr x6, .inl v3, .inl v4] σ22 (PI (fun x23 σ23 => ((¬ x23 = 0 → ∀ σ26, σ26 = w1 σ23 v0 10 (-1) → ∀ σ27, σ27 = w1 σ26 v0 11 (σ26.2.1 x22 18) → Ob σ27 (σ27.2.2 v0 0) 7 ∧ Con l mX7_addTape [.inr (σ27.2.2 v0 0), .inl v2] σ27 (PI (fun x28 σ28 => Ob σ28 (σ28.2.2 v0 0) 7 ∧ Con l mX7_tapeAt [.inr (σ28.2.2 v0 0), .inl x28] σ28 (PR (fun x30 σ30 => GW l mX11_followN 164 [(0, .inr v0), (1, .inl v1), (2, .inl v2), (3, .inl v3), (4, .inl v4), (5, .inr x2), (6, .inr x4), (7, .inr x6), (8, .inr x22), (9, .inl x28), (10, .inr x30), (11, .inl 0)] [] σ30 16 188578 (PI K)))))) ∧ (x23 = 0 → ∀ σ32, σ32 = w1 σ23 v0 10 (σ23.2.1 x22 17) → K (-2) σ32))))))) ∧ (x19 = 0 → K (-1) σ19))))))))))))) ∧ ((σ6.2.1 x6 6) = 0 → K (-1) σ6))))))))))))))))) : Con l mX11_followN [.inr v0, .inl v1, .inl v2, .inl v3, .inl v4] σ (PI K) := by
  refine con_gw rfl (Nat.le_of_ble_eq_true rfl) ?_
  show GW l mX11_followN 0 [(0, .inr v0), (1, .inl v1), (2, .inl v2), (3, .inl v3), (4, .inl v4)] [] σ 0 0 (PI K)
  refine gw_aload_n (q := 0) dX11_follow_0 rfl rfl ?_
  obtain ⟨g1, h⟩ := h
  refine gw_gR fX11_20 dX11_follow_1 g1 ?_
  refine gw_iload_n (q := 1) dX11_follow_4 rfl rfl ?_
  obtain ⟨g3, h⟩ := h
  refine gw_vC (bs := [.inl v1]) (st := []) (vmX7_tapeAt) lX11_139 dX11_follow_5 ⟨by decide, rfl, rfl, by decide, by decide⟩ (Nat.le_of_ble_eq_true rfl) rfl rfl g3 h (kR (fun x2 σ2 h n2 => ?_))
  refine gw_astore (lo' := [(0, .inr v0), (1, .inl v1), (2, .inl v2), (3, .inl v3), (4, .inl v4), (5, .inr x2)]) dX11_follow_8 (by decide) rfl ?_
  refine gw_aload_n (q := 0) dX11_follow_10 rfl rfl ?_
  refine gw_gR fX11_20 dX11_follow_11 (g1.up n2) ?_
  refine gw_aload (q := 5) dX11_follow_14 rfl ?_
  obtain ⟨g5, h⟩ := h
  refine gw_vC (bs := [.inr x2]) (st := []) (vmX7_armOf) lX11_143 dX11_follow_16 ⟨by decide, rfl, rfl, by decide, by decide⟩ (Nat.le_of_ble_eq_true rfl) rfl rfl g5 h (kR (fun x4 σ4 h n4 => ?_))
  refine gw_astore (lo' := [(0, .inr v0), (1, .inl v1), (2, .inl v2), (3, .inl v3), (4, .inl v4), (5, .inr x2), (6, .inr x4)]) dX11_follow_19 (by decide) rfl ?_
  refine gw_aload_n (q := 0) dX11_follow_21 rfl rfl ?_
  refine gw_gR fX11_20 dX11_follow_22 ((g1.up n2).up n4) ?_
  refine gw_iload_n (q := 2) dX11_follow_25 rfl rfl ?_
  obtain ⟨g7, h⟩ := h
  refine gw_vC (bs := [.inl v2]) (st := []) (vmX7_armAt) lX11_104 dX11_follow_26 ⟨by decide, rfl, rfl, by decide, by decide⟩ (Nat.le_of_ble_eq_true rfl) rfl rfl g7 h (kR (fun x6 σ6 h n6 => ?_))
  refine gw_astore (lo' := [(0, .inr v0), (1, .inl v1), (2, .inl v2), (3, .inl v3), (4, .inl v4), (5, .inr x2), (6, .inr x4), (7, .inr x6)]) dX11_follow_29 (by decide) rfl ?_
  refine gw_aload (q := 5) dX11_follow_31 rfl ?_
  refine gw_ifnull (tgt := 62) dX11_follow_33 (by decide) (fun c8 => ?_) (fun c8 => ?_)
  · replace h := h.1 c8
    refine gw_iconst (v := (-1)) dX11_follow_62 ic_m1 ?_
    exact gw_rI dX11_follow_63 rfl (by decide) (by decide) h
  · replace h := h.2 c8
    refine gw_aload (q := 6) dX11_follow_36 rfl ?_
    refine gw_ifnull (tgt := 62) dX11_follow_38 (by decide) (fun c9 => ?_) (fun c9 => ?_)
    · replace h := h.1 c9
      refine gw_iconst (v := (-1)) dX11_follow_62 ic_m1 ?_
      exact gw_rI dX11_follow_63 rfl (by decide) (by decide) h
    · replace h := h.2 c9
      refine gw_aload (q := 7) dX11_follow_41 rfl ?_
      refine gw_ifnull (tgt := 62) dX11_follow_43 (by decide) (fun c10 => ?_) (fun c10 => ?_)
      · replace h := h.1 c10
        refine gw_iconst (v := (-1)) dX11_follow_62 ic_m1 ?_
        exact gw_rI dX11_follow_63 rfl (by decide) (by decide) h
      · replace h := h.2 c10
        refine gw_aload (q := 5) dX11_follow_46 rfl ?_
        obtain ⟨g11, h⟩ := h
        refine gw_gI fX11_147 dX11_follow_48 g11 ?_
        refine gw_if_eq (tgt := 62) dX11_follow_51 (by decide) (fun c12 => ?_) (fun c12 => ?_)
        · replace h := h.1 c12
          refine gw_iconst (v := (-1)) dX11_follow_62 ic_m1 ?_
          exact gw_rI dX11_follow_63 rfl (by decide) (by decide) h
        · replace h := h.2 c12
          refine gw_aload (q := 7) dX11_follow_54 rfl ?_
          obtain ⟨g13, h⟩ := h
          refine gw_gI fX11_121 dX11_follow_56 g13 ?_
          refine gw_if_ne (tgt := 64) dX11_follow_59 (by decide) (fun c14 => ?_) (fun c14 => ?_)
          · replace h := h.1 c14
            refine gw_iload_n (q := 3) dX11_follow_64 rfl rfl ?_
            refine gw_sC (bs := [.inl v3]) (st := []) smX11_isDrift lX11_227 dX11_follow_65 ⟨by decide, rfl, rfl, by decide, by decide⟩ (Nat.le_of_ble_eq_true rfl) rfl rfl h (kI (fun x15 σ15 h n15 => ?_))
            refine gw_if_eq (tgt := 89) dX11_follow_68 (by decide) (fun c16 => ?_) (fun c16 => ?_)
            · replace h := h.1 c16
              refine gw_iconst (v := (-1)) dX11_follow_89 ic_m1 ?_
              exact gw_rI dX11_follow_90 rfl (by decide) (by decide) h
            · replace h := h.2 c16
              refine gw_iload (q := 4) dX11_follow_71 rfl ?_
              refine gw_sC (bs := [.inl v4]) (st := []) smX11_isError lX11_230 dX11_follow_73 ⟨by decide, rfl, rfl, by decide, by decide⟩ (Nat.le_of_ble_eq_true rfl) rfl rfl h (kI (fun x17 σ17 h n17 => ?_))
              refine gw_if_eq (tgt := 89) dX11_follow_76 (by decide) (fun c18 => ?_) (fun c18 => ?_)
              · replace h := h.1 c18
                refine gw_iconst (v := (-1)) dX11_follow_89 ic_m1 ?_
                exact gw_rI dX11_follow_90 rfl (by decide) (by decide) h
              · replace h := h.2 c18
                refine gw_aload_n (q := 0) dX11_follow_79 rfl rfl ?_
                refine gw_gR fX11_20 dX11_follow_80 (((((g1.up n2).up n4).up n6).up n15).up n17) ?_
                obtain ⟨g20, h⟩ := h
                refine gw_vC (bs := []) (st := []) (vmX7_hasRoom) lX11_233 dX11_follow_83 ⟨by decide, rfl, rfl, by decide, by decide⟩ (Nat.le_of_ble_eq_true rfl) rfl rfl g20 h (kI (fun x19 σ19 h n19 => ?_))
                refine gw_if_ne (tgt := 91) dX11_follow_86 (by decide) (fun c21 => ?_) (fun c21 => ?_)
                · replace h := h.1 c21
                  refine gw_aload_n (q := 0) dX11_follow_91 rfl rfl ?_
                  refine gw_vC (bs := []) (st := []) (vmX11_readyFollowerN) lX11_234 dX11_follow_92 ⟨by decide, rfl, rfl, by decide, by decide⟩ (Nat.le_of_ble_eq_true rfl) rfl rfl ((((((g1.up n2).up n4).up n6).up n15).up n17).up n19) h (kR (fun x22 σ22 h n22 => ?_))
                  refine gw_astore (lo' := [(0, .inr v0), (1, .inl v1), (2, .inl v2), (3, .inl v3), (4, .inl v4), (5, .inr x2), (6, .inr x4), (7, .inr x6), (8, .inr x22)]) dX11_follow_95 (by decide) rfl ?_
                  refine gw_aload (q := 8) dX11_follow_97 rfl ?_
                  refine gw_aload (q := 5) dX11_follow_99 rfl ?_
                  refine gw_aload (q := 6) dX11_follow_101 rfl ?_
                  refine gw_aload (q := 7) dX11_follow_103 rfl ?_
                  refine gw_iload_n (q := 3) dX11_follow_105 rfl rfl ?_
                  refine gw_iload (q := 4) dX11_follow_106 rfl ?_
                  obtain ⟨g24, h⟩ := h
                  refine gw_vC (bs := [.inr x2, .inr x4, .inr x6, .inl v3, .inl v4]) (st := []) (vmX3_search) lX11_238 dX11_follow_108 ⟨by decide, rfl, rfl, by decide, by decide⟩ (Nat.le_of_ble_eq_true rfl) rfl rfl g24 h (kI (fun x23 σ23 h n23 => ?_))
                  refine gw_if_ne (tgt := 126) dX11_follow_111 (by decide) (fun c25 => ?_) (fun c25 => ?_)
                  · replace h := h.1 c25
                    refine gw_aload_n (q := 0) dX11_follow_126 rfl rfl ?_
                    refine gw_iconst (v := (-1)) dX11_follow_127 ic_m1 ?_
                    refine gw_pI fX11_65 dX11_follow_128 ((((((((g1.up n2).up n4).up n6).up n15).up n17).up n19).up n22).up n23) (fun σ26 e26 => ?_)
                    replace h := h σ26 e26
                    refine gw_aload_n (q := 0) dX11_follow_131 rfl rfl ?_
                    refine gw_aload (q := 8) dX11_follow_132 rfl ?_
                    refine gw_gI fX11_247 dX11_follow_134 ((g24.up n23).up (n_w1 e26)) ?_
                    refine gw_pI fX11_68 dX11_follow_137 (((((((((g1.up n2).up n4).up n6).up n15).up n17).up n19).up n22).up n23).up (n_w1 e26)) (fun σ27 e27 => ?_)
                    replace h := h σ27 e27
                    refine gw_aload_n (q := 0) dX11_follow_140 rfl rfl ?_
                    refine gw_gR fX11_20 dX11_follow_141 ((((((((((g1.up n2).up n4).up n6).up n15).up n17).up n19).up n22).up n23).up (n_w1 e26)).up (n_w1 e27)) ?_
                    refine gw_iload_n (q := 2) dX11_follow_144 rfl rfl ?_
                    obtain ⟨g29, h⟩ := h
                    refine gw_vC (bs := [.inl v2]) (st := []) (vmX7_addTape) lX11_136 dX11_follow_145 ⟨by decide, rfl, rfl, by decide, by decide⟩ (Nat.le_of_ble_eq_true rfl) rfl rfl g29 h (kI (fun x28 σ28 h n28 => ?_))
                    refine gw_istore (lo' := [(0, .inr v0), (1, .inl v1), (2, .inl v2), (3, .inl v3), (4, .inl v4), (5, .inr x2), (6, .inr x4), (7, .inr x6), (8, .inr x22), (9, .inl x28)]) dX11_follow_148 (by decide) rfl ?_
                    refine gw_aload_n (q := 0) dX11_follow_150 rfl rfl ?_
                    refine gw_gR fX11_20 dX11_follow_151 (((((((((((g1.up n2).up n4).up n6).up n15).up n17).up n19).up n22).up n23).up (n_w1 e26)).up (n_w1 e27)).up n28) ?_
                    refine gw_iload (q := 9) dX11_follow_154 rfl ?_
                    obtain ⟨g31, h⟩ := h
                    refine gw_vC (bs := [.inl x28]) (st := []) (vmX7_tapeAt) lX11_139 dX11_follow_156 ⟨by decide, rfl, rfl, by decide, by decide⟩ (Nat.le_of_ble_eq_true rfl) rfl rfl g31 h (kR (fun x30 σ30 h n30 => ?_))
                    refine gw_astore (lo' := [(0, .inr v0), (1, .inl v1), (2, .inl v2), (3, .inl v3), (4, .inl v4), (5, .inr x2), (6, .inr x4), (7, .inr x6), (8, .inr x22), (9, .inl x28), (10, .inr x30)]) dX11_follow_159 (by decide) rfl ?_
                    refine gw_iconst (v := 0) dX11_follow_161 ic_0 ?_
                    refine gw_istore (lo' := [(0, .inr v0), (1, .inl v1), (2, .inl v2), (3, .inl v3), (4, .inl v4), (5, .inr x2), (6, .inr x4), (7, .inr x6), (8, .inr x22), (9, .inl x28), (10, .inr x30), (11, .inl 0)]) dX11_follow_162 (by decide) rfl ?_
                    exact h
                  · replace h := h.2 c25
                    refine gw_aload_n (q := 0) dX11_follow_114 rfl rfl ?_
                    refine gw_aload (q := 8) dX11_follow_115 rfl ?_
                    refine gw_gI fX11_244 dX11_follow_117 (g24.up n23) ?_
                    refine gw_pI fX11_65 dX11_follow_120 ((((((((g1.up n2).up n4).up n6).up n15).up n17).up n19).up n22).up n23) (fun σ32 e32 => ?_)
                    replace h := h σ32 e32
                    refine gw_bipush (v := (-2)) dX11_follow_123 bp_m2 ?_
                    exact gw_rI dX11_follow_125 rfl (by decide) (by decide) h
                · replace h := h.2 c21
                  refine gw_iconst (v := (-1)) dX11_follow_89 ic_m1 ?_
                  exact gw_rI dX11_follow_90 rfl (by decide) (by decide) h
          · replace h := h.2 c14
            refine gw_iconst (v := (-1)) dX11_follow_62 ic_m1 ?_
            exact gw_rI dX11_follow_63 rfl (by decide) (by decide) h
set_option maxHeartbeats 4000000 in
set_option maxRecDepth 20000 in
theorem eX11_stop {l : Launch} {v0 : Nat} {σ : Sg} {K : Int32 → Sg → Prop} (h : Ob σ v0 11 ∧ K (σ.2.1 v0 10) σ) : Con l mX11_stop [.inr v0] σ (PI K) := by
  refine con_gw rfl (Nat.le_of_ble_eq_true rfl) ?_
  show GW l mX11_stop 0 [(0, .inr v0)] [] σ 0 0 (PI K)
  refine gw_aload_n (q := 0) dX11_stop_0 rfl rfl ?_
  obtain ⟨g1, h⟩ := h
  refine gw_gI fX11_65 dX11_stop_1 g1 ?_
  exact gw_rI dX11_stop_4 rfl (by decide) (by decide) h
set_option maxHeartbeats 4000000 in
set_option maxRecDepth 20000 in
theorem eX11_way {l : Launch} {v0 : Nat} {σ : Sg} {K : Int32 → Sg → Prop} (h : Ob σ v0 11 ∧ K (σ.2.1 v0 11) σ) : Con l mX11_way [.inr v0] σ (PI K) := by
  refine con_gw rfl (Nat.le_of_ble_eq_true rfl) ?_
  show GW l mX11_way 0 [(0, .inr v0)] [] σ 0 0 (PI K)
  refine gw_aload_n (q := 0) dX11_way_0 rfl rfl ?_
  obtain ⟨g1, h⟩ := h
  refine gw_gI fX11_68 dX11_way_1 g1 ?_
  exact gw_rI dX11_way_4 rfl (by decide) (by decide) h
set_option maxHeartbeats 4000000 in
set_option maxRecDepth 20000 in
theorem eX11_meet {l : Launch} {v0 : Nat} {v1 : Int32} {v2 : Int32} {σ : Sg} {K : Int32 → Sg → Prop} (h : Ob σ v0 11 ∧ Ob σ (σ.2.2 v0 0) 7 ∧ Con l mX7_tapeAt [.inr (σ.2.2 v0 0), .inl v1] σ (PR (fun x2 σ2 => Ob σ2 (σ2.2.2 v0 0) 7 ∧ Con l mX7_tapeAt [.inr (σ2.2.2 v0 0), .inl v2] σ2 (PR (fun x4 σ4 => Ob σ4 (σ4.2.2 v0 0) 7 ∧ Con l mX7_armOf [.inr (σ4.2.2 v0 0), .inr x2] σ4 (PR (fun x6 σ6 => Ob σ6 (σ6.2.2 v0 0) 7 ∧ Con l mX7_armOf [.inr (σ6.2.2 v0 0), .inr x4] σ6 (PR (fun x8 σ8 => ((x2 = 0 → K (-1) σ8) ∧ (¬ x2 = 0 → ((x4 = 0 → K (-1) σ8) ∧ (¬ x4 = 0 → ((x6 = 0 → K (-1) σ8) ∧ (¬ x6 = 0 → ((¬ x8 = 0 → Ob σ8 x2 9 ∧ ((¬ (σ8.2.1 x2 2) = 0 → K (-1) σ8) ∧ ((σ8.2.1 x2 2) = 0 → Ob σ8 x4 9 ∧ ((¬ (σ8.2.1 x4 2) = 1 → K (-1) σ8) ∧ ((σ8.2.1 x4 2) = 1 → (((σ8.2.1 x2 3) = 0 → K (-1) σ8) ∧ (¬ (σ8.2.1 x2 3) = 0 → ((¬ (σ8.2.1 x4 3) = 0 → Ob σ8 (σ8.2.2 v0 6) 5 ∧ Con l mX5_search [.inr (σ8.2.2 v0 6), .inr x2, .inr x6, .inr x4, .inr x8] σ8 (PI (fun x20 σ20 => K x20 σ20))) ∧ ((σ8.2.1 x4 3) = 0 → K (-1) σ8))))))))) ∧ (x8 = 0 → K (-1) σ8))))))))))))))))) : Con l mX11_meet [.inr v0, .inl v1, .inl v2] σ (PI K) := by
  refine con_gw rfl (Nat.le_of_ble_eq_true rfl) ?_
  show GW l mX11_meet 0 [(0, .inr v0), (1, .inl v1), (2, .inl v2)] [] σ 0 0 (PI K)
  refine gw_aload_n (q := 0) dX11_meet_0 rfl rfl ?_
  obtain ⟨g1, h⟩ := h
  refine gw_gR fX11_20 dX11_meet_1 g1 ?_
  refine gw_iload_n (q := 1) dX11_meet_4 rfl rfl ?_
  obtain ⟨g3, h⟩ := h
  refine gw_vC (bs := [.inl v1]) (st := []) (vmX7_tapeAt) lX11_139 dX11_meet_5 ⟨by decide, rfl, rfl, by decide, by decide⟩ (Nat.le_of_ble_eq_true rfl) rfl rfl g3 h (kR (fun x2 σ2 h n2 => ?_))
  refine gw_astore_n (lo' := [(0, .inr v0), (1, .inl v1), (2, .inl v2), (3, .inr x2)]) dX11_meet_8 rfl (by decide) rfl ?_
  refine gw_aload_n (q := 0) dX11_meet_9 rfl rfl ?_
  refine gw_gR fX11_20 dX11_meet_10 (g1.up n2) ?_
  refine gw_iload_n (q := 2) dX11_meet_13 rfl rfl ?_
  obtain ⟨g5, h⟩ := h
  refine gw_vC (bs := [.inl v2]) (st := []) (vmX7_tapeAt) lX11_139 dX11_meet_14 ⟨by decide, rfl, rfl, by decide, by decide⟩ (Nat.le_of_ble_eq_true rfl) rfl rfl g5 h (kR (fun x4 σ4 h n4 => ?_))
  refine gw_astore (lo' := [(0, .inr v0), (1, .inl v1), (2, .inl v2), (3, .inr x2), (4, .inr x4)]) dX11_meet_17 (by decide) rfl ?_
  refine gw_aload_n (q := 0) dX11_meet_19 rfl rfl ?_
  refine gw_gR fX11_20 dX11_meet_20 ((g1.up n2).up n4) ?_
  refine gw_aload_n (q := 3) dX11_meet_23 rfl rfl ?_
  obtain ⟨g7, h⟩ := h
  refine gw_vC (bs := [.inr x2]) (st := []) (vmX7_armOf) lX11_143 dX11_meet_24 ⟨by decide, rfl, rfl, by decide, by decide⟩ (Nat.le_of_ble_eq_true rfl) rfl rfl g7 h (kR (fun x6 σ6 h n6 => ?_))
  refine gw_astore (lo' := [(0, .inr v0), (1, .inl v1), (2, .inl v2), (3, .inr x2), (4, .inr x4), (5, .inr x6)]) dX11_meet_27 (by decide) rfl ?_
  refine gw_aload_n (q := 0) dX11_meet_29 rfl rfl ?_
  refine gw_gR fX11_20 dX11_meet_30 (((g1.up n2).up n4).up n6) ?_
  refine gw_aload (q := 4) dX11_meet_33 rfl ?_
  obtain ⟨g9, h⟩ := h
  refine gw_vC (bs := [.inr x4]) (st := []) (vmX7_armOf) lX11_143 dX11_meet_35 ⟨by decide, rfl, rfl, by decide, by decide⟩ (Nat.le_of_ble_eq_true rfl) rfl rfl g9 h (kR (fun x8 σ8 h n8 => ?_))
  refine gw_astore (lo' := [(0, .inr v0), (1, .inl v1), (2, .inl v2), (3, .inr x2), (4, .inr x4), (5, .inr x6), (6, .inr x8)]) dX11_meet_38 (by decide) rfl ?_
  refine gw_aload_n (q := 3) dX11_meet_40 rfl rfl ?_
  refine gw_ifnull (tgt := 59) dX11_meet_41 (by decide) (fun c10 => ?_) (fun c10 => ?_)
  · replace h := h.1 c10
    refine gw_iconst (v := (-1)) dX11_meet_59 ic_m1 ?_
    exact gw_rI dX11_meet_60 rfl (by decide) (by decide) h
  · replace h := h.2 c10
    refine gw_aload (q := 4) dX11_meet_44 rfl ?_
    refine gw_ifnull (tgt := 59) dX11_meet_46 (by decide) (fun c11 => ?_) (fun c11 => ?_)
    · replace h := h.1 c11
      refine gw_iconst (v := (-1)) dX11_meet_59 ic_m1 ?_
      exact gw_rI dX11_meet_60 rfl (by decide) (by decide) h
    · replace h := h.2 c11
      refine gw_aload (q := 5) dX11_meet_49 rfl ?_
      refine gw_ifnull (tgt := 59) dX11_meet_51 (by decide) (fun c12 => ?_) (fun c12 => ?_)
      · replace h := h.1 c12
        refine gw_iconst (v := (-1)) dX11_meet_59 ic_m1 ?_
        exact gw_rI dX11_meet_60 rfl (by decide) (by decide) h
      · replace h := h.2 c12
        refine gw_aload (q := 6) dX11_meet_54 rfl ?_
        refine gw_ifnonnull (tgt := 61) dX11_meet_56 (by decide) (fun c13 => ?_) (fun c13 => ?_)
        · replace h := h.1 c13
          refine gw_aload_n (q := 3) dX11_meet_61 rfl rfl ?_
          obtain ⟨g14, h⟩ := h
          refine gw_gI fX11_184 dX11_meet_62 g14 ?_
          refine gw_if_ne (tgt := 92) dX11_meet_65 (by decide) (fun c15 => ?_) (fun c15 => ?_)
          · replace h := h.1 c15
            refine gw_iconst (v := (-1)) dX11_meet_92 ic_m1 ?_
            exact gw_rI dX11_meet_93 rfl (by decide) (by decide) h
          · replace h := h.2 c15
            refine gw_aload (q := 4) dX11_meet_68 rfl ?_
            obtain ⟨g16, h⟩ := h
            refine gw_gI fX11_184 dX11_meet_70 g16 ?_
            refine gw_iconst (v := 1) dX11_meet_73 ic_1 ?_
            refine gw_icmp_ne (tgt := 92) dX11_meet_74 (by decide) (fun c17 => ?_) (fun c17 => ?_)
            · replace h := h.1 c17
              refine gw_iconst (v := (-1)) dX11_meet_92 ic_m1 ?_
              exact gw_rI dX11_meet_93 rfl (by decide) (by decide) h
            · replace h := h.2 c17
              refine gw_aload_n (q := 3) dX11_meet_77 rfl rfl ?_
              refine gw_gI fX11_147 dX11_meet_78 g14 ?_
              refine gw_if_eq (tgt := 92) dX11_meet_81 (by decide) (fun c18 => ?_) (fun c18 => ?_)
              · replace h := h.1 c18
                refine gw_iconst (v := (-1)) dX11_meet_92 ic_m1 ?_
                exact gw_rI dX11_meet_93 rfl (by decide) (by decide) h
              · replace h := h.2 c18
                refine gw_aload (q := 4) dX11_meet_84 rfl ?_
                refine gw_gI fX11_147 dX11_meet_86 g16 ?_
                refine gw_if_ne (tgt := 94) dX11_meet_89 (by decide) (fun c19 => ?_) (fun c19 => ?_)
                · replace h := h.1 c19
                  refine gw_aload_n (q := 0) dX11_meet_94 rfl rfl ?_
                  refine gw_gR fX11_50 dX11_meet_95 ((((g1.up n2).up n4).up n6).up n8) ?_
                  refine gw_aload_n (q := 3) dX11_meet_98 rfl rfl ?_
                  refine gw_aload (q := 5) dX11_meet_99 rfl ?_
                  refine gw_aload (q := 4) dX11_meet_101 rfl ?_
                  refine gw_aload (q := 6) dX11_meet_103 rfl ?_
                  obtain ⟨g21, h⟩ := h
                  refine gw_vC (bs := [.inr x2, .inr x6, .inr x4, .inr x8]) (st := []) (vmX5_search) lX11_251 dX11_meet_105 ⟨by decide, rfl, rfl, by decide, by decide⟩ (Nat.le_of_ble_eq_true rfl) rfl rfl g21 h (kI (fun x20 σ20 h n20 => ?_))
                  exact gw_rI dX11_meet_108 rfl (by decide) (by decide) h
                · replace h := h.2 c19
                  refine gw_iconst (v := (-1)) dX11_meet_92 ic_m1 ?_
                  exact gw_rI dX11_meet_93 rfl (by decide) (by decide) h
        · replace h := h.2 c13
          refine gw_iconst (v := (-1)) dX11_meet_59 ic_m1 ?_
          exact gw_rI dX11_meet_60 rfl (by decide) (by decide) h
