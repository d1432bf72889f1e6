set_option maxHeartbeats 4000000 in
set_option maxRecDepth 20000 in
theorem eX1_init {l : Launch} {v0 : Nat} {σ : Sg} {K : Sg → Prop} (h : v0 ≠ 0 ∧ shp (σ.1 + 1) = (13, 640) ∧ σ.1 + 1 ≤ 1000 ∧ ∀ x3 σ3, x3 = σ.1 + 1 → σ3 = nw σ → Ob σ3 v0 1 ∧ x3 ≤ σ3.1 ∧ ∀ σ6, σ6 = w2 σ3 v0 0 x3 → shp (σ6.1 + 1) = (13, 40) ∧ σ6.1 + 1 ≤ 1000 ∧ ∀ x8 σ8, x8 = σ6.1 + 1 → σ8 = nw σ6 → x8 ≤ σ8.1 ∧ ∀ σ10, σ10 = w2 σ8 v0 1 x8 → shp (σ10.1 + 1) = (13, 40) ∧ σ10.1 + 1 ≤ 1000 ∧ ∀ x12 σ12, x12 = σ10.1 + 1 → σ12 = nw σ10 → x12 ≤ σ12.1 ∧ ∀ σ14, σ14 = w2 σ12 v0 2 x12 → shp (σ14.1 + 1) = (13, 256) ∧ σ14.1 + 1 ≤ 1000 ∧ ∀ x16 σ16, x16 = σ14.1 + 1 → σ16 = nw σ14 → x16 ≤ σ16.1 ∧ ∀ σ18, σ18 = w2 σ16 v0 3 x16 → shp (σ18.1 + 1) = (13, 3) ∧ σ18.1 + 1 ≤ 1000 ∧ ∀ x20 σ20, x20 = σ18.1 + 1 → σ20 = nw σ18 → x20 ≤ σ20.1 ∧ ∀ σ22, σ22 = w2 σ20 v0 4 x20 → shp (σ22.1 + 1) = (13, 3) ∧ σ22.1 + 1 ≤ 1000 ∧ ∀ x24 σ24, x24 = σ22.1 + 1 → σ24 = nw σ22 → x24 ≤ σ24.1 ∧ ∀ σ26, σ26 = w2 σ24 v0 5 x24 → K σ26) : Con l mX1_init [.inr v0] σ (PV K) := by
  refine con_gw rfl (Nat.le_of_ble_eq_true rfl) ?_
  show GW l mX1_init 0 [(0, .inr v0)] [] σ 0 0 (PV K)
  refine gw_aload_n (q := 0) dX1_init_0 rfl rfl ?_
  obtain ⟨g1, h⟩ := h
  refine gw_objInit oiX1_3 oi_in oi_cd dX1_init_1 (by decide) (Nat.le_of_ble_eq_true rfl) g1 ?_
  refine gw_aload_n (q := 0) dX1_init_4 rfl rfl ?_
  refine gw_sipush (v := 640) dX1_init_5 sp_640 ?_
  obtain ⟨g2, g3, h⟩ := h
  refine gw_newi (N := 640) ac_int dX1_init_8 g2 (by decide) (by decide) (by decide) (by decide) (by decide) g3 (fun x3 σ3 ex3 e3 => ?_)
  replace h := h x3 σ3 ex3 e3
  obtain ⟨g4, h⟩ := h
  obtain ⟨z5, h⟩ := h
  refine gw_pRF fX1_9 (Or.inr ⟨_, rfl⟩) rfl rfl (fun C T N hc => by cases hc; exact xfX1_9) dX1_init_10 z5 g4 (fun σ6 e6 => ?_)
  replace h := h σ6 e6
  refine gw_aload_n (q := 0) dX1_init_13 rfl rfl ?_
  refine gw_bipush (v := 40) dX1_init_14 bp_40 ?_
  obtain ⟨g7, g8, h⟩ := h
  refine gw_newi (N := 40) ac_int dX1_init_16 g7 (by decide) (by decide) (by decide) (by decide) (by decide) g8 (fun x8 σ8 ex8 e8 => ?_)
  replace h := h x8 σ8 ex8 e8
  obtain ⟨z9, h⟩ := h
  refine gw_pRF fX1_15 (Or.inr ⟨_, rfl⟩) rfl rfl (fun C T N hc => by cases hc; exact xfX1_15) dX1_init_18 z9 ((g4.up (n_w2 e6)).up (n_nw e8)) (fun σ10 e10 => ?_)
  replace h := h σ10 e10
  refine gw_aload_n (q := 0) dX1_init_21 rfl rfl ?_
  refine gw_bipush (v := 40) dX1_init_22 bp_40 ?_
  obtain ⟨g11, g12, h⟩ := h
  refine gw_newi (N := 40) ac_int dX1_init_24 g11 (by decide) (by decide) (by decide) (by decide) (by decide) g12 (fun x12 σ12 ex12 e12 => ?_)
  replace h := h x12 σ12 ex12 e12
  obtain ⟨z13, h⟩ := h
  refine gw_pRF fX1_18 (Or.inr ⟨_, rfl⟩) rfl rfl (fun C T N hc => by cases hc; exact xfX1_18) dX1_init_26 z13 ((((g4.up (n_w2 e6)).up (n_nw e8)).up (n_w2 e10)).up (n_nw e12)) (fun σ14 e14 => ?_)
  replace h := h σ14 e14
  refine gw_aload_n (q := 0) dX1_init_29 rfl rfl ?_
  refine gw_sipush (v := 256) dX1_init_30 sp_256 ?_
  obtain ⟨g15, g16, h⟩ := h
  refine gw_newi (N := 256) ac_int dX1_init_33 g15 (by decide) (by decide) (by decide) (by decide) (by decide) g16 (fun x16 σ16 ex16 e16 => ?_)
  replace h := h x16 σ16 ex16 e16
  obtain ⟨z17, h⟩ := h
  refine gw_pRF fX1_21 (Or.inr ⟨_, rfl⟩) rfl rfl (fun C T N hc => by cases hc; exact xfX1_21) dX1_init_35 z17 ((((((g4.up (n_w2 e6)).up (n_nw e8)).up (n_w2 e10)).up (n_nw e12)).up (n_w2 e14)).up (n_nw e16)) (fun σ18 e18 => ?_)
  replace h := h σ18 e18
  refine gw_aload_n (q := 0) dX1_init_38 rfl rfl ?_
  refine gw_iconst (v := 3) dX1_init_39 ic_3 ?_
  obtain ⟨g19, g20, h⟩ := h
  refine gw_newi (N := 3) ac_int dX1_init_40 g19 (by decide) (by decide) (by decide) (by decide) (by decide) g20 (fun x20 σ20 ex20 e20 => ?_)
  replace h := h x20 σ20 ex20 e20
  obtain ⟨z21, h⟩ := h
  refine gw_pRF fX1_24 (Or.inr ⟨_, rfl⟩) rfl rfl (fun C T N hc => by cases hc; exact xfX1_24) dX1_init_42 z21 ((((((((g4.up (n_w2 e6)).up (n_nw e8)).up (n_w2 e10)).up (n_nw e12)).up (n_w2 e14)).up (n_nw e16)).up (n_w2 e18)).up (n_nw e20)) (fun σ22 e22 => ?_)
  replace h := h σ22 e22
  refine gw_aload_n (q := 0) dX1_init_45 rfl rfl ?_
  refine gw_iconst (v := 3) dX1_init_46 ic_3 ?_
  obtain ⟨g23, g24, h⟩ := h
  refine gw_newi (N := 3) ac_int dX1_init_47 g23 (by decide) (by decide) (by decide) (by decide) (by decide) g24 (fun x24 σ24 ex24 e24 => ?_)
  replace h := h x24 σ24 ex24 e24
  obtain ⟨z25, h⟩ := h
  refine gw_pRF fX1_27 (Or.inr ⟨_, rfl⟩) rfl rfl (fun C T N hc => by cases hc; exact xfX1_27) dX1_init_49 z25 ((((((((((g4.up (n_w2 e6)).up (n_nw e8)).up (n_w2 e10)).up (n_nw e12)).up (n_w2 e14)).up (n_nw e16)).up (n_w2 e18)).up (n_nw e20)).up (n_w2 e22)).up (n_nw e24)) (fun σ26 e26 => ?_)
  replace h := h σ26 e26
  exact gw_rV dX1_init_52 rfl (by decide) (by decide) h
set_option maxHeartbeats 4000000 in
set_option maxRecDepth 20000 in
theorem gX1_search_89 {l : Launch} {v0 : Nat} {v1 : Nat} {v2 : Nat} {v3 : Int32} {σ : Sg} {K : Sg → Prop} (h : Ob σ v0 1 ∧ Con l mX1_tryJoint [.inr v0, .inr v1, .inl v3] σ (PV (fun σ1 => GW l mX1_search 23 [(0, .inr v0), (1, .inr v1), (2, .inr v2), (3, .inl (v3 + 1))] [] σ1 0 0 (PV K)))) : GW l mX1_search 89 [(0, .inr v0), (1, .inr v1), (2, .inr v2), (3, .inl v3)] [] σ 0 0 (PV K) := by
  refine gw_aload_n (q := 0) dX1_search_89 rfl rfl ?_
  refine gw_aload_n (q := 1) dX1_search_90 rfl rfl ?_
  refine gw_iload_n (q := 3) dX1_search_91 rfl rfl ?_
  obtain ⟨g2, h⟩ := h
  refine gw_vC (bs := [.inr v1, .inl v3]) (st := []) (vmX1_tryJoint) lX1_56 dX1_search_92 ⟨by decide, rfl, rfl, by decide, by decide⟩ (Nat.le_of_ble_eq_true rfl) rfl rfl g2 h (kV (fun σ1 h n1 => ?_))
  refine gw_inc (lo' := [(0, .inr v0), (1, .inr v1), (2, .inr v2), (3, .inl (v3 + 1))]) (q := 3) (c := 1) dX1_search_95 ic_1 rfl (by decide) rfl ?_
  refine gw_goto (tgt := 23) dX1_search_98 (by decide) ?_
  exact h
set_option maxHeartbeats 4000000 in
set_option maxRecDepth 20000 in
theorem gX1_search_23 {l : Launch} {v0 : Nat} {v1 : Nat} {v2 : Nat} {v3 : Int32} {σ : Sg} {K : Sg → Prop} (h : Ob σ v2 0 ∧ (((σ.2.1 v2 6) ≤ v3 → K σ) ∧ (¬ (σ.2.1 v2 6) ≤ v3 → ((3 ≤ v3 → K σ) ∧ (¬ 3 ≤ v3 → Ob σ v0 1 ∧ Ai σ (σ.2.2 v0 4) v3 ∧ ∀ σ6, σ6 = w1 σ (σ.2.2 v0 4) v3.toNatClampNeg 40 → Ai σ6 (σ6.2.2 v0 5) v3 ∧ ∀ σ8, σ8 = w1 σ6 (σ6.2.2 v0 5) v3.toNatClampNeg (-1) → Con l mX1_fillSpots [.inr v0, .inr v1, .inr v2, .inl v3] σ8 (PV (fun σ9 => ((¬ v3 = 0 → GW l mX1_search 89 [(0, .inr v0), (1, .inr v1), (2, .inr v2), (3, .inl v3)] [] σ9 0 0 (PV K)) ∧ (v3 = 0 → Con l mX1_fits [.inr v0, .inr v1, .inl 0, .inl 0, .inl 0, .inl 0] σ9 (PI (fun x11 σ11 => ((x11 = 0 → GW l mX1_search 89 [(0, .inr v0), (1, .inr v1), (2, .inr v2), (3, .inl v3)] [] σ11 0 0 (PV K)) ∧ (¬ x11 = 0 → ∀ σ13, σ13 = w1 σ11 v0 10 1 → ∀ σ14, σ14 = w1 σ13 v0 8 ((σ13.2.1 v0 8) + 1) → GW l mX1_search 89 [(0, .inr v0), (1, .inr v1), (2, .inr v2), (3, .inl v3)] [] σ14 0 0 (PV K)))))))))))))) : GW l mX1_search 23 [(0, .inr v0), (1, .inr v1), (2, .inr v2), (3, .inl v3)] [] σ 0 0 (PV K) := by
  refine gw_iload_n (q := 3) dX1_search_23 rfl rfl ?_
  refine gw_aload_n (q := 2) dX1_search_24 rfl rfl ?_
  obtain ⟨g1, h⟩ := h
  refine gw_gI fX1_45 dX1_search_25 g1 ?_
  refine gw_icmp_ge (tgt := 101) dX1_search_28 (by decide) (fun c2 => ?_) (fun c2 => ?_)
  · replace h := h.1 c2
    exact gw_rV dX1_search_101 rfl (by decide) (by decide) h
  · replace h := h.2 c2
    refine gw_iload_n (q := 3) dX1_search_31 rfl rfl ?_
    refine gw_iconst (v := 3) dX1_search_32 ic_3 ?_
    refine gw_icmp_ge (tgt := 101) dX1_search_33 (by decide) (fun c3 => ?_) (fun c3 => ?_)
    · replace h := h.1 c3
      exact gw_rV dX1_search_101 rfl (by decide) (by decide) h
    · replace h := h.2 c3
      refine gw_aload_n (q := 0) dX1_search_36 rfl rfl ?_
      obtain ⟨g4, h⟩ := h
      refine gw_gR fX1_24 dX1_search_37 g4 ?_
      refine gw_iload_n (q := 3) dX1_search_40 rfl rfl ?_
      refine gw_bipush (v := 40) dX1_search_41 bp_40 ?_
      obtain ⟨g5, h⟩ := h
      refine gw_sI dX1_search_43 g5 (fun σ6 e6 => ?_)
      replace h := h σ6 e6
      refine gw_aload_n (q := 0) dX1_search_44 rfl rfl ?_
      refine gw_gR fX1_27 dX1_search_45 (g4.up (n_w1 e6)) ?_
      refine gw_iload_n (q := 3) dX1_search_48 rfl rfl ?_
      refine gw_iconst (v := (-1)) dX1_search_49 ic_m1 ?_
      obtain ⟨g7, h⟩ := h
      refine gw_sI dX1_search_50 g7 (fun σ8 e8 => ?_)
      replace h := h σ8 e8
      refine gw_aload_n (q := 0) dX1_search_51 rfl rfl ?_
      refine gw_aload_n (q := 1) dX1_search_52 rfl rfl ?_
      refine gw_aload_n (q := 2) dX1_search_53 rfl rfl ?_
      refine gw_iload_n (q := 3) dX1_search_54 rfl rfl ?_
      refine gw_vC (bs := [.inr v1, .inr v2, .inl v3]) (st := []) (vmX1_fillSpots) lX1_48 dX1_search_55 ⟨by decide, rfl, rfl, by decide, by decide⟩ (Nat.le_of_ble_eq_true rfl) rfl rfl ((g4.up (n_w1 e6)).up (n_w1 e8)) h (kV (fun σ9 h n9 => ?_))
      refine gw_iload_n (q := 3) dX1_search_58 rfl rfl ?_
      refine gw_if_ne (tgt := 89) dX1_search_59 (by decide) (fun c10 => ?_) (fun c10 => ?_)
      · replace h := h.1 c10
        exact h
      · replace h := h.2 c10
        refine gw_aload_n (q := 0) dX1_search_62 rfl rfl ?_
        refine gw_aload_n (q := 1) dX1_search_63 rfl rfl ?_
        refine gw_iconst (v := 0) dX1_search_64 ic_0 ?_
        refine gw_iconst (v := 0) dX1_search_65 ic_0 ?_
        refine gw_iconst (v := 0) dX1_search_66 ic_0 ?_
        refine gw_iconst (v := 0) dX1_search_67 ic_0 ?_
        refine gw_vC (bs := [.inr v1, .inl 0, .inl 0, .inl 0, .inl 0]) (st := []) (vmX1_fits) lX1_52 dX1_search_68 ⟨by decide, rfl, rfl, by decide, by decide⟩ (Nat.le_of_ble_eq_true rfl) rfl rfl (((g4.up (n_w1 e6)).up (n_w1 e8)).up n9) h (kI (fun x11 σ11 h n11 => ?_))
        refine gw_if_eq (tgt := 89) dX1_search_71 (by decide) (fun c12 => ?_) (fun c12 => ?_)
        · replace h := h.1 c12
          exact h
        · replace h := h.2 c12
          refine gw_aload_n (q := 0) dX1_search_74 rfl rfl ?_
          refine gw_iconst (v := 1) dX1_search_75 ic_1 ?_
          refine gw_pZ fX1_41 dX1_search_76 (by decide) ((((g4.up (n_w1 e6)).up (n_w1 e8)).up n9).up n11) (fun σ13 e13 => ?_)
          replace h := h σ13 e13
          refine gw_aload_n (q := 0) dX1_search_79 rfl rfl ?_
          refine gw_dup dX1_search_80 ?_
          refine gw_gI fX1_34 dX1_search_81 (((((g4.up (n_w1 e6)).up (n_w1 e8)).up n9).up n11).up (n_w1 e13)) ?_
          refine gw_iconst (v := 1) dX1_search_84 ic_1 ?_
          refine gw_iadd dX1_search_85 ?_
          refine gw_pI fX1_34 dX1_search_86 (((((g4.up (n_w1 e6)).up (n_w1 e8)).up n9).up n11).up (n_w1 e13)) (fun σ14 e14 => ?_)
          replace h := h σ14 e14
          exact h
set_option maxHeartbeats 4000000 in
set_option maxRecDepth 20000 in
theorem eX1_search {l : Launch} {v0 : Nat} {v1 : Nat} {v2 : Nat} {σ : Sg} {K : Sg → Prop} (h : Ob σ v0 1 ∧ Con l mX1_takePaint [.inr v0, .inr v1, .inr v2] σ (PV (fun σ1 => ∀ σ3, σ3 = w1 σ1 v0 8 0 → ∀ σ4, σ4 = w1 σ3 v0 9 0 → ∀ σ5, σ5 = w1 σ4 v0 10 0 → GW l mX1_search 23 [(0, .inr v0), (1, .inr v1), (2, .inr v2), (3, .inl 0)] [] σ5 0 0 (PV K)))) : Con l mX1_search [.inr v0, .inr v1, .inr v2] σ (PV K) := by
  refine con_gw rfl (Nat.le_of_ble_eq_true rfl) ?_
  show GW l mX1_search 0 [(0, .inr v0), (1, .inr v1), (2, .inr v2)] [] σ 0 0 (PV K)
  refine gw_aload_n (q := 0) dX1_search_0 rfl rfl ?_
  refine gw_aload_n (q := 1) dX1_search_1 rfl rfl ?_
  refine gw_aload_n (q := 2) dX1_search_2 rfl rfl ?_
  obtain ⟨g2, h⟩ := h
  refine gw_vC (bs := [.inr v1, .inr v2]) (st := []) (vmX1_takePaint) lX1_30 dX1_search_3 ⟨by decide, rfl, rfl, by decide, by decide⟩ (Nat.le_of_ble_eq_true rfl) rfl rfl g2 h (kV (fun σ1 h n1 => ?_))
  refine gw_aload_n (q := 0) dX1_search_6 rfl rfl ?_
  refine gw_iconst (v := 0) dX1_search_7 ic_0 ?_
  refine gw_pI fX1_34 dX1_search_8 (g2.up n1) (fun σ3 e3 => ?_)
  replace h := h σ3 e3
  refine gw_aload_n (q := 0) dX1_search_11 rfl rfl ?_
  refine gw_iconst (v := 0) dX1_search_12 ic_0 ?_
  refine gw_pI fX1_38 dX1_search_13 ((g2.up n1).up (n_w1 e3)) (fun σ4 e4 => ?_)
  replace h := h σ4 e4
  refine gw_aload_n (q := 0) dX1_search_16 rfl rfl ?_
  refine gw_iconst (v := 0) dX1_search_17 ic_0 ?_
  refine gw_pZ fX1_41 dX1_search_18 (by decide) (((g2.up n1).up (n_w1 e3)).up (n_w1 e4)) (fun σ5 e5 => ?_)
  replace h := h σ5 e5
  refine gw_iconst (v := 0) dX1_search_21 ic_0 ?_
  refine gw_istore_n (lo' := [(0, .inr v0), (1, .inr v1), (2, .inr v2), (3, .inl 0)]) dX1_search_22 rfl (by decide) rfl ?_
  exact h
set_option maxHeartbeats 4000000 in
set_option maxRecDepth 20000 in
theorem gX1_takePaint_62 {l : Launch} {v0 : Nat} {v1 : Nat} {v2 : Nat} {v3 : Int32} {σ : Sg} {K : Sg → Prop} (h : Ob σ v0 1 ∧ (((σ.2.1 v0 6) ≤ v3 → K σ) ∧ (¬ (σ.2.1 v0 6) ≤ v3 → ((40 ≤ v3 → K σ) ∧ (¬ 40 ≤ v3 → Ob σ v1 8 ∧ Con l mX8_amountAt [.inr v1, .inl v3] σ (PI (fun x4 σ4 => Ai σ4 (σ.2.2 v0 2) v3 ∧ ∀ σ7, σ7 = w1 σ4 (σ.2.2 v0 2) v3.toNatClampNeg x4 → Con l mX8_spotAt [.inr v1, .inl v3] σ7 (PI (fun x8 σ8 => ((x8 < 0 → GW l mX1_takePaint 62 [(0, .inr v0), (1, .inr v1), (2, .inr v2), (3, .inl (v3 + 1))] [] σ8 0 0 (PV K)) ∧ (¬ x8 < 0 → ((256 ≤ x8 → GW l mX1_takePaint 62 [(0, .inr v0), (1, .inr v1), (2, .inr v2), (3, .inl (v3 + 1))] [] σ8 0 0 (PV K)) ∧ (¬ 256 ≤ x8 → Ai σ8 (σ8.2.2 v0 3) x8 ∧ Ai σ8 (σ8.2.2 v0 2) v3 ∧ ∀ σ13, σ13 = w1 σ8 (σ8.2.2 v0 3) x8.toNatClampNeg ((σ8.2.1 (σ8.2.2 v0 3) x8.toNatClampNeg) + (σ8.2.1 (σ8.2.2 v0 2) v3.toNatClampNeg)) → Ai σ13 (σ13.2.2 v0 2) v3 ∧ ∀ σ15, σ15 = w1 σ13 v0 7 ((σ13.2.1 v0 7) + (σ13.2.1 (σ13.2.2 v0 2) v3.toNatClampNeg)) → GW l mX1_takePaint 62 [(0, .inr v0), (1, .inr v1), (2, .inr v2), (3, .inl (v3 + 1))] [] σ15 0 0 (PV K)))))))))))))) : GW l mX1_takePaint 62 [(0, .inr v0), (1, .inr v1), (2, .inr v2), (3, .inl v3)] [] σ 0 0 (PV K) := by
  refine gw_iload_n (q := 3) dX1_takePaint_62 rfl rfl ?_
  refine gw_aload_n (q := 0) dX1_takePaint_63 rfl rfl ?_
  obtain ⟨g1, h⟩ := h
  refine gw_gI fX1_88 dX1_takePaint_64 g1 ?_
  refine gw_icmp_ge (tgt := 144) dX1_takePaint_67 (by decide) (fun c2 => ?_) (fun c2 => ?_)
  · replace h := h.1 c2
    exact gw_rV dX1_takePaint_144 rfl (by decide) (by decide) h
  · replace h := h.2 c2
    refine gw_iload_n (q := 3) dX1_takePaint_70 rfl rfl ?_
    refine gw_bipush (v := 40) dX1_takePaint_71 bp_40 ?_
    refine gw_icmp_ge (tgt := 144) dX1_takePaint_73 (by decide) (fun c3 => ?_) (fun c3 => ?_)
    · replace h := h.1 c3
      exact gw_rV dX1_takePaint_144 rfl (by decide) (by decide) h
    · replace h := h.2 c3
      refine gw_aload_n (q := 0) dX1_takePaint_76 rfl rfl ?_
      refine gw_gR fX1_18 dX1_takePaint_77 g1 ?_
      refine gw_iload_n (q := 3) dX1_takePaint_80 rfl rfl ?_
      refine gw_aload_n (q := 1) dX1_takePaint_81 rfl rfl ?_
      refine gw_iload_n (q := 3) dX1_takePaint_82 rfl rfl ?_
      obtain ⟨g5, h⟩ := h
      refine gw_vC (bs := [.inl v3]) (st := [.inl v3, .inr (σ.2.2 v0 2)]) (vmX8_amountAt) lX1_93 dX1_takePaint_83 ⟨by decide, rfl, rfl, by decide, by decide⟩ (Nat.le_of_ble_eq_true rfl) rfl rfl g5 h (kI (fun x4 σ4 h n4 => ?_))
      obtain ⟨g6, h⟩ := h
      refine gw_sI dX1_takePaint_86 g6 (fun σ7 e7 => ?_)
      replace h := h σ7 e7
      refine gw_aload_n (q := 1) dX1_takePaint_87 rfl rfl ?_
      refine gw_iload_n (q := 3) dX1_takePaint_88 rfl rfl ?_
      refine gw_vC (bs := [.inl v3]) (st := []) (vmX8_spotAt) lX1_97 dX1_takePaint_89 ⟨by decide, rfl, rfl, by decide, by decide⟩ (Nat.le_of_ble_eq_true rfl) rfl rfl ((g5.up n4).up (n_w1 e7)) h (kI (fun x8 σ8 h n8 => ?_))
      refine gw_istore (lo' := [(0, .inr v0), (1, .inr v1), (2, .inr v2), (3, .inl v3), (4, .inl x8)]) dX1_takePaint_92 (by decide) rfl ?_
      refine gw_iload (q := 4) dX1_takePaint_94 rfl ?_
      refine gw_if_lt (tgt := 138) dX1_takePaint_96 (by decide) (fun c9 => ?_) (fun c9 => ?_)
      · replace h := h.1 c9
        refine gw_inc (lo' := [(0, .inr v0), (1, .inr v1), (2, .inr v2), (3, .inl (v3 + 1)), (4, .inl x8)]) (q := 3) (c := 1) dX1_takePaint_138 ic_1 rfl (by decide) rfl ?_
        refine gw_goto (tgt := 62) dX1_takePaint_141 (by decide) ?_
        refine gw_pick [0, 1, 2, 3] rfl ?_
        exact h
      · replace h := h.2 c9
        refine gw_iload (q := 4) dX1_takePaint_99 rfl ?_
        refine gw_sipush (v := 256) dX1_takePaint_101 sp_256 ?_
        refine gw_icmp_ge (tgt := 138) dX1_takePaint_104 (by decide) (fun c10 => ?_) (fun c10 => ?_)
        · replace h := h.1 c10
          refine gw_inc (lo' := [(0, .inr v0), (1, .inr v1), (2, .inr v2), (3, .inl (v3 + 1)), (4, .inl x8)]) (q := 3) (c := 1) dX1_takePaint_138 ic_1 rfl (by decide) rfl ?_
          refine gw_goto (tgt := 62) dX1_takePaint_141 (by decide) ?_
          refine gw_pick [0, 1, 2, 3] rfl ?_
          exact h
        · replace h := h.2 c10
          refine gw_aload_n (q := 0) dX1_takePaint_107 rfl rfl ?_
          refine gw_gR fX1_21 dX1_takePaint_108 (((g1.up n4).up (n_w1 e7)).up n8) ?_
          refine gw_iload (q := 4) dX1_takePaint_111 rfl ?_
          refine gw_dup2 dX1_takePaint_113 ?_
          obtain ⟨g11, h⟩ := h
          refine gw_aI dX1_takePaint_114 g11 ?_
          refine gw_aload_n (q := 0) dX1_takePaint_115 rfl rfl ?_
          refine gw_gR fX1_18 dX1_takePaint_116 (((g1.up n4).up (n_w1 e7)).up n8) ?_
          refine gw_iload_n (q := 3) dX1_takePaint_119 rfl rfl ?_
          obtain ⟨g12, h⟩ := h
          refine gw_aI dX1_takePaint_120 g12 ?_
          refine gw_iadd dX1_takePaint_121 ?_
          refine gw_sI dX1_takePaint_122 g11 (fun σ13 e13 => ?_)
          replace h := h σ13 e13
          refine gw_aload_n (q := 0) dX1_takePaint_123 rfl rfl ?_
          refine gw_dup dX1_takePaint_124 ?_
          refine gw_gI fX1_90 dX1_takePaint_125 ((((g1.up n4).up (n_w1 e7)).up n8).up (n_w1 e13)) ?_
          refine gw_aload_n (q := 0) dX1_takePaint_128 rfl rfl ?_
          refine gw_gR fX1_18 dX1_takePaint_129 ((((g1.up n4).up (n_w1 e7)).up n8).up (n_w1 e13)) ?_
          refine gw_iload_n (q := 3) dX1_takePaint_132 rfl rfl ?_
          obtain ⟨g14, h⟩ := h
          refine gw_aI dX1_takePaint_133 g14 ?_
          refine gw_iadd dX1_takePaint_134 ?_
          refine gw_pI fX1_90 dX1_takePaint_135 ((((g1.up n4).up (n_w1 e7)).up n8).up (n_w1 e13)) (fun σ15 e15 => ?_)
          replace h := h σ15 e15
          refine gw_inc (lo' := [(0, .inr v0), (1, .inr v1), (2, .inr v2), (3, .inl (v3 + 1)), (4, .inl x8)]) (q := 3) (c := 1) dX1_takePaint_138 ic_1 rfl (by decide) rfl ?_
          refine gw_goto (tgt := 62) dX1_takePaint_141 (by decide) ?_
          refine gw_pick [0, 1, 2, 3] rfl ?_
          exact h
set_option maxHeartbeats 4000000 in
set_option maxRecDepth 20000 in
theorem gX1_takePaint_40 {l : Launch} {v0 : Nat} {v1 : Nat} {v2 : Nat} {v3 : Int32} {σ : Sg} {K : Sg → Prop} (h : ((256 ≤ v3 → GW l mX1_takePaint 62 [(0, .inr v0), (1, .inr v1), (2, .inr v2), (3, .inl 0)] [] σ 0 0 (PV K)) ∧ (¬ 256 ≤ v3 → Ob σ v0 1 ∧ Ai σ (σ.2.2 v0 3) v3 ∧ ∀ σ4, σ4 = w1 σ (σ.2.2 v0 3) v3.toNatClampNeg 0 → GW l mX1_takePaint 40 [(0, .inr v0), (1, .inr v1), (2, .inr v2), (3, .inl (v3 + 1))] [] σ4 0 0 (PV K)))) : GW l mX1_takePaint 40 [(0, .inr v0), (1, .inr v1), (2, .inr v2), (3, .inl v3)] [] σ 0 0 (PV K) := by
  refine gw_iload_n (q := 3) dX1_takePaint_40 rfl rfl ?_
  refine gw_sipush (v := 256) dX1_takePaint_41 sp_256 ?_
  refine gw_icmp_ge (tgt := 60) dX1_takePaint_44 (by decide) (fun c1 => ?_) (fun c1 => ?_)
  · replace h := h.1 c1
    refine gw_iconst (v := 0) dX1_takePaint_60 ic_0 ?_
    refine gw_istore_n (lo' := [(0, .inr v0), (1, .inr v1), (2, .inr v2), (3, .inl 0)]) dX1_takePaint_61 rfl (by decide) rfl ?_
    exact h
  · replace h := h.2 c1
    refine gw_aload_n (q := 0) dX1_takePaint_47 rfl rfl ?_
    obtain ⟨g2, h⟩ := h
    refine gw_gR fX1_21 dX1_takePaint_48 g2 ?_
    refine gw_iload_n (q := 3) dX1_takePaint_51 rfl rfl ?_
    refine gw_iconst (v := 0) dX1_takePaint_52 ic_0 ?_
    obtain ⟨g3, h⟩ := h
    refine gw_sI dX1_takePaint_53 g3 (fun σ4 e4 => ?_)
    replace h := h σ4 e4
    refine gw_inc (lo' := [(0, .inr v0), (1, .inr v1), (2, .inr v2), (3, .inl (v3 + 1))]) (q := 3) (c := 1) dX1_takePaint_54 ic_1 rfl (by decide) rfl ?_
    refine gw_goto (tgt := 40) dX1_takePaint_57 (by decide) ?_
    exact h
set_option maxHeartbeats 4000000 in
set_option maxRecDepth 20000 in
theorem eX1_takePaint {l : Launch} {v0 : Nat} {v1 : Nat} {v2 : Nat} {σ : Sg} {K : Sg → Prop} (h : Ob σ v2 0 ∧ Ob σ v1 8 ∧ Con l mX8_draw [.inr v1, .inl (σ.2.1 v2 7), .inl (σ.2.1 v2 8), .inl (σ.2.1 v2 9), .inl (σ.2.1 v2 10)] σ (PV (fun σ2 => Con l mX8_ticks [.inr v1] σ2 (PI (fun x4 σ4 => Con l mJ9_min_7cf53 [.inl x4, .inl 40] σ4 (PI (fun x5 σ5 => Ob σ5 v0 1 ∧ ∀ σ7, σ7 = w1 σ5 v0 6 x5 → ∀ σ8, σ8 = w1 σ7 v0 7 0 → GW l mX1_takePaint 40 [(0, .inr v0), (1, .inr v1), (2, .inr v2), (3, .inl 0)] [] σ8 0 0 (PV K)))))))) : Con l mX1_takePaint [.inr v0, .inr v1, .inr v2] σ (PV K) := by
  refine con_gw rfl (Nat.le_of_ble_eq_true rfl) ?_
  show GW l mX1_takePaint 0 [(0, .inr v0), (1, .inr v1), (2, .inr v2)] [] σ 0 0 (PV K)
  refine gw_aload_n (q := 1) dX1_takePaint_0 rfl rfl ?_
  refine gw_aload_n (q := 2) dX1_takePaint_1 rfl rfl ?_
  obtain ⟨g1, h⟩ := h
  refine gw_gI fX1_60 dX1_takePaint_2 g1 ?_
  refine gw_aload_n (q := 2) dX1_takePaint_5 rfl rfl ?_
  refine gw_gI fX1_63 dX1_takePaint_6 g1 ?_
  refine gw_aload_n (q := 2) dX1_takePaint_9 rfl rfl ?_
  refine gw_gI fX1_66 dX1_takePaint_10 g1 ?_
  refine gw_aload_n (q := 2) dX1_takePaint_13 rfl rfl ?_
  refine gw_gI fX1_69 dX1_takePaint_14 g1 ?_
  obtain ⟨g3, h⟩ := h
  refine gw_vC (bs := [.inl (σ.2.1 v2 7), .inl (σ.2.1 v2 8), .inl (σ.2.1 v2 9), .inl (σ.2.1 v2 10)]) (st := []) (vmX8_draw) lX1_72 dX1_takePaint_17 ⟨by decide, rfl, rfl, by decide, by decide⟩ (Nat.le_of_ble_eq_true rfl) rfl rfl g3 h (kV (fun σ2 h n2 => ?_))
  refine gw_aload_n (q := 0) dX1_takePaint_20 rfl rfl ?_
  refine gw_aload_n (q := 1) dX1_takePaint_21 rfl rfl ?_
  refine gw_vC (bs := []) (st := [.inr v0]) (vmX8_ticks) lX1_78 dX1_takePaint_22 ⟨by decide, rfl, rfl, by decide, by decide⟩ (Nat.le_of_ble_eq_true rfl) rfl rfl (g3.up n2) h (kI (fun x4 σ4 h n4 => ?_))
  refine gw_bipush (v := 40) dX1_takePaint_25 bp_40 ?_
  refine gw_sC (bs := [.inl x4, .inl 40]) (st := [.inr v0]) smJ9_min_7cf53 lX1_82 dX1_takePaint_27 ⟨by decide, rfl, rfl, by decide, by decide⟩ (Nat.le_of_ble_eq_true rfl) rfl rfl h (kI (fun x5 σ5 h n5 => ?_))
  obtain ⟨g6, h⟩ := h
  refine gw_pI fX1_88 dX1_takePaint_30 g6 (fun σ7 e7 => ?_)
  replace h := h σ7 e7
  refine gw_aload_n (q := 0) dX1_takePaint_33 rfl rfl ?_
  refine gw_iconst (v := 0) dX1_takePaint_34 ic_0 ?_
  refine gw_pI fX1_90 dX1_takePaint_35 (g6.up (n_w1 e7)) (fun σ8 e8 => ?_)
  replace h := h σ8 e8
  refine gw_iconst (v := 0) dX1_takePaint_38 ic_0 ?_
  refine gw_istore_n (lo' := [(0, .inr v0), (1, .inr v1), (2, .inr v2), (3, .inl 0)]) dX1_takePaint_39 rfl (by decide) rfl ?_
  exact h
set_option maxHeartbeats 4000000 in
set_option maxRecDepth 20000 in
theorem gX1_fillSpots_26 {l : Launch} {v0 : Nat} {v1 : Nat} {v2 : Nat} {v3 : Int32} {v4 : Int32} {v5 : Int32} {σ : Sg} {K : Sg → Prop} (h : Ob σ v2 0 ∧ Con l mX0_high [.inr v2, .inl v3] σ (PI (fun x1 σ1 => ((x1 < v5 → GW l mX1_fillSpots 3 [(0, .inr v0), (1, .inr v1), (2, .inr v2), (3, .inl v3), (4, .inl (v4 + 1))] [] σ1 0 0 (PV K)) ∧ (¬ x1 < v5 → ((16 ≤ v5 → GW l mX1_fillSpots 3 [(0, .inr v0), (1, .inr v1), (2, .inr v2), (3, .inl v3), (4, .inl (v4 + 1))] [] σ1 0 0 (PV K)) ∧ (¬ 16 ≤ v5 → Ob σ1 v0 1 ∧ Ob σ1 v1 8 ∧ Con l mX8_spotWith [.inr v1, .inl v3, .inl v5, .inl v4] σ1 (PI (fun x6 σ6 => Ai σ6 (σ1.2.2 v0 0) ((v4 * 16) + v5) ∧ ∀ σ9, σ9 = w1 σ6 (σ1.2.2 v0 0) ((v4 * 16) + v5).toNatClampNeg x6 → GW l mX1_fillSpots 26 [(0, .inr v0), (1, .inr v1), (2, .inr v2), (3, .inl v3), (4, .inl v4), (5, .inl (v5 + 1))] [] σ9 0 0 (PV K)))))))))) : GW l mX1_fillSpots 26 [(0, .inr v0), (1, .inr v1), (2, .inr v2), (3, .inl v3), (4, .inl v4), (5, .inl v5)] [] σ 0 0 (PV K) := by
  refine gw_iload (q := 5) dX1_fillSpots_26 rfl ?_
  refine gw_aload_n (q := 2) dX1_fillSpots_28 rfl rfl ?_
  refine gw_iload_n (q := 3) dX1_fillSpots_29 rfl rfl ?_
  obtain ⟨g2, h⟩ := h
  refine gw_vC (bs := [.inl v3]) (st := [.inl v5]) (vmX0_high) lX1_103 dX1_fillSpots_30 ⟨by decide, rfl, rfl, by decide, by decide⟩ (Nat.le_of_ble_eq_true rfl) rfl rfl g2 h (kI (fun x1 σ1 h n1 => ?_))
  refine gw_icmp_gt (tgt := 71) dX1_fillSpots_33 (by decide) (fun c3 => ?_) (fun c3 => ?_)
  · replace h := h.1 c3
    refine gw_inc (lo' := [(0, .inr v0), (1, .inr v1), (2, .inr v2), (3, .inl v3), (4, .inl (v4 + 1)), (5, .inl v5)]) (q := 4) (c := 1) dX1_fillSpots_71 ic_1 rfl (by decide) rfl ?_
    refine gw_goto (tgt := 3) dX1_fillSpots_74 (by decide) ?_
    refine gw_pick [0, 1, 2, 3, 4] rfl ?_
    exact h
  · replace h := h.2 c3
    refine gw_iload (q := 5) dX1_fillSpots_36 rfl ?_
    refine gw_bipush (v := 16) dX1_fillSpots_38 bp_16 ?_
    refine gw_icmp_ge (tgt := 71) dX1_fillSpots_40 (by decide) (fun c4 => ?_) (fun c4 => ?_)
    · replace h := h.1 c4
      refine gw_inc (lo' := [(0, .inr v0), (1, .inr v1), (2, .inr v2), (3, .inl v3), (4, .inl (v4 + 1)), (5, .inl v5)]) (q := 4) (c := 1) dX1_fillSpots_71 ic_1 rfl (by decide) rfl ?_
      refine gw_goto (tgt := 3) dX1_fillSpots_74 (by decide) ?_
      refine gw_pick [0, 1, 2, 3, 4] rfl ?_
      exact h
    · replace h := h.2 c4
      refine gw_aload_n (q := 0) dX1_fillSpots_43 rfl rfl ?_
      obtain ⟨g5, h⟩ := h
      refine gw_gR fX1_9 dX1_fillSpots_44 g5 ?_
      refine gw_iload (q := 4) dX1_fillSpots_47 rfl ?_
      refine gw_bipush (v := 16) dX1_fillSpots_49 bp_16 ?_
      refine gw_imul dX1_fillSpots_51 ?_
      refine gw_iload (q := 5) dX1_fillSpots_52 rfl ?_
      refine gw_iadd dX1_fillSpots_54 ?_
      refine gw_aload_n (q := 1) dX1_fillSpots_55 rfl rfl ?_
      refine gw_iload_n (q := 3) dX1_fillSpots_56 rfl rfl ?_
      refine gw_iload (q := 5) dX1_fillSpots_57 rfl ?_
      refine gw_iload (q := 4) dX1_fillSpots_59 rfl ?_
      obtain ⟨g7, h⟩ := h
      refine gw_vC (bs := [.inl v3, .inl v5, .inl v4]) (st := [.inl ((v4 * 16) + v5), .inr (σ1.2.2 v0 0)]) (vmX8_spotWith) lX1_106 dX1_fillSpots_61 ⟨by decide, rfl, rfl, by decide, by decide⟩ (Nat.le_of_ble_eq_true rfl) rfl rfl g7 h (kI (fun x6 σ6 h n6 => ?_))
      obtain ⟨g8, h⟩ := h
      refine gw_sI dX1_fillSpots_64 g8 (fun σ9 e9 => ?_)
      replace h := h σ9 e9
      refine gw_inc (lo' := [(0, .inr v0), (1, .inr v1), (2, .inr v2), (3, .inl v3), (4, .inl v4), (5, .inl (v5 + 1))]) (q := 5) (c := 1) dX1_fillSpots_65 ic_1 rfl (by decide) rfl ?_
      refine gw_goto (tgt := 26) dX1_fillSpots_68 (by decide) ?_
      exact h
set_option maxHeartbeats 4000000 in
set_option maxRecDepth 20000 in
theorem gX1_fillSpots_3 {l : Launch} {v0 : Nat} {v1 : Nat} {v2 : Nat} {v3 : Int32} {v4 : Int32} {σ : Sg} {K : Sg → Prop} (h : Ob σ v0 1 ∧ (((σ.2.1 v0 6) ≤ v4 → K σ) ∧ (¬ (σ.2.1 v0 6) ≤ v4 → ((40 ≤ v4 → K σ) ∧ (¬ 40 ≤ v4 → Ob σ v2 0 ∧ Con l mX0_low [.inr v2, .inl v3] σ (PI (fun x4 σ4 => GW l mX1_fillSpots 26 [(0, .inr v0), (1, .inr v1), (2, .inr v2), (3, .inl v3), (4, .inl v4), (5, .inl x4)] [] σ4 0 0 (PV K)))))))) : GW l mX1_fillSpots 3 [(0, .inr v0), (1, .inr v1), (2, .inr v2), (3, .inl v3), (4, .inl v4)] [] σ 0 0 (PV K) := by
  refine gw_iload (q := 4) dX1_fillSpots_3 rfl ?_
  refine gw_aload_n (q := 0) dX1_fillSpots_5 rfl rfl ?_
  obtain ⟨g1, h⟩ := h
  refine gw_gI fX1_88 dX1_fillSpots_6 g1 ?_
  refine gw_icmp_ge (tgt := 77) dX1_fillSpots_9 (by decide) (fun c2 => ?_) (fun c2 => ?_)
  · replace h := h.1 c2
    exact gw_rV dX1_fillSpots_77 rfl (by decide) (by decide) h
  · replace h := h.2 c2
    refine gw_iload (q := 4) dX1_fillSpots_12 rfl ?_
    refine gw_bipush (v := 40) dX1_fillSpots_14 bp_40 ?_
    refine gw_icmp_ge (tgt := 77) dX1_fillSpots_16 (by decide) (fun c3 => ?_) (fun c3 => ?_)
    · replace h := h.1 c3
      exact gw_rV dX1_fillSpots_77 rfl (by decide) (by decide) h
    · replace h := h.2 c3
      refine gw_aload_n (q := 2) dX1_fillSpots_19 rfl rfl ?_
      refine gw_iload_n (q := 3) dX1_fillSpots_20 rfl rfl ?_
      obtain ⟨g5, h⟩ := h
      refine gw_vC (bs := [.inl v3]) (st := []) (vmX0_low) lX1_100 dX1_fillSpots_21 ⟨by decide, rfl, rfl, by decide, by decide⟩ (Nat.le_of_ble_eq_true rfl) rfl rfl g5 h (kI (fun x4 σ4 h n4 => ?_))
      refine gw_istore (lo' := [(0, .inr v0), (1, .inr v1), (2, .inr v2), (3, .inl v3), (4, .inl v4), (5, .inl x4)]) dX1_fillSpots_24 (by decide) rfl ?_
      exact h
set_option maxHeartbeats 4000000 in
set_option maxRecDepth 20000 in
theorem eX1_fillSpots {l : Launch} {v0 : Nat} {v1 : Nat} {v2 : Nat} {v3 : Int32} {σ : Sg} {K : Sg → Prop} (h : GW l mX1_fillSpots 3 [(0, .inr v0), (1, .inr v1), (2, .inr v2), (3, .inl v3), (4, .inl 0)] [] σ 0 0 (PV K)) : Con l mX1_fillSpots [.inr v0, .inr v1, .inr v2, .inl v3] σ (PV K) := by
  refine con_gw rfl (Nat.le_of_ble_eq_true rfl) ?_
  show GW l mX1_fillSpots 0 [(0, .inr v0), (1, .inr v1), (2, .inr v2), (3, .inl v3)] [] σ 0 0 (PV K)
  refine gw_iconst (v := 0) dX1_fillSpots_0 ic_0 ?_
  refine gw_istore (lo' := [(0, .inr v0), (1, .inr v1), (2, .inr v2), (3, .inl v3), (4, .inl 0)]) dX1_fillSpots_1 (by decide) rfl ?_
  exact h
set_option maxHeartbeats 4000000 in
set_option maxRecDepth 20000 in
theorem gX1_tryJoint_19 {l : Launch} {v0 : Nat} {v1 : Nat} {v2 : Int32} {v3 : Int32} {v4 : Int32} {v5 : Int32} {σ : Sg} {K : Sg → Prop} (h : Ob σ v0 1 ∧ (((σ.2.1 v0 6) ≤ v5 → GW l mX1_tryJoint 10 [(0, .inr v0), (1, .inr v1), (2, .inl v2), (3, .inl v3), (4, .inl (v4 + 1))] [] σ 0 0 (PV K)) ∧ (¬ (σ.2.1 v0 6) ≤ v5 → Con l mX1_fits [.inr v0, .inr v1, .inl v2, .inl v3, .inl v4, .inl v5] σ (PI (fun x3 σ3 => ((x3 = 0 → GW l mX1_tryJoint 19 [(0, .inr v0), (1, .inr v1), (2, .inl v2), (3, .inl v3), (4, .inl v4), (5, .inl (v5 + 1))] [] σ3 0 0 (PV K)) ∧ (¬ x3 = 0 → Con l mX1_note [.inr v0, .inl v2, .inl v5] σ3 (PV (fun σ5 => GW l mX1_tryJoint 19 [(0, .inr v0), (1, .inr v1), (2, .inl v2), (3, .inl v3), (4, .inl v4), (5, .inl (v5 + 1))] [] σ5 0 0 (PV K)))))))))) : GW l mX1_tryJoint 19 [(0, .inr v0), (1, .inr v1), (2, .inl v2), (3, .inl v3), (4, .inl v4), (5, .inl v5)] [] σ 0 0 (PV K) := by
  refine gw_iload (q := 5) dX1_tryJoint_19 rfl ?_
  refine gw_aload_n (q := 0) dX1_tryJoint_21 rfl rfl ?_
  obtain ⟨g1, h⟩ := h
  refine gw_gI fX1_88 dX1_tryJoint_22 g1 ?_
  refine gw_icmp_ge (tgt := 55) dX1_tryJoint_25 (by decide) (fun c2 => ?_) (fun c2 => ?_)
  · replace h := h.1 c2
    refine gw_inc (lo' := [(0, .inr v0), (1, .inr v1), (2, .inl v2), (3, .inl v3), (4, .inl (v4 + 1)), (5, .inl v5)]) (q := 4) (c := 1) dX1_tryJoint_55 ic_1 rfl (by decide) rfl ?_
    refine gw_goto (tgt := 10) dX1_tryJoint_58 (by decide) ?_
    refine gw_pick [0, 1, 2, 3, 4] rfl ?_
    exact h
  · replace h := h.2 c2
    refine gw_aload_n (q := 0) dX1_tryJoint_28 rfl rfl ?_
    refine gw_aload_n (q := 1) dX1_tryJoint_29 rfl rfl ?_
    refine gw_iload_n (q := 2) dX1_tryJoint_30 rfl rfl ?_
    refine gw_iload_n (q := 3) dX1_tryJoint_31 rfl rfl ?_
    refine gw_iload (q := 4) dX1_tryJoint_32 rfl ?_
    refine gw_iload (q := 5) dX1_tryJoint_34 rfl ?_
    refine gw_vC (bs := [.inr v1, .inl v2, .inl v3, .inl v4, .inl v5]) (st := []) (vmX1_fits) lX1_52 dX1_tryJoint_36 ⟨by decide, rfl, rfl, by decide, by decide⟩ (Nat.le_of_ble_eq_true rfl) rfl rfl g1 h (kI (fun x3 σ3 h n3 => ?_))
    refine gw_if_eq (tgt := 49) dX1_tryJoint_39 (by decide) (fun c4 => ?_) (fun c4 => ?_)
    · replace h := h.1 c4
      refine gw_inc (lo' := [(0, .inr v0), (1, .inr v1), (2, .inl v2), (3, .inl v3), (4, .inl v4), (5, .inl (v5 + 1))]) (q := 5) (c := 1) dX1_tryJoint_49 ic_1 rfl (by decide) rfl ?_
      refine gw_goto (tgt := 19) dX1_tryJoint_52 (by decide) ?_
      exact h
    · replace h := h.2 c4
      refine gw_aload_n (q := 0) dX1_tryJoint_42 rfl rfl ?_
      refine gw_iload_n (q := 2) dX1_tryJoint_43 rfl rfl ?_
      refine gw_iload (q := 5) dX1_tryJoint_44 rfl ?_
      refine gw_vC (bs := [.inl v2, .inl v5]) (st := []) (vmX1_note) lX1_110 dX1_tryJoint_46 ⟨by decide, rfl, rfl, by decide, by decide⟩ (Nat.le_of_ble_eq_true rfl) rfl rfl (g1.up n3) h (kV (fun σ5 h n5 => ?_))
      refine gw_inc (lo' := [(0, .inr v0), (1, .inr v1), (2, .inl v2), (3, .inl v3), (4, .inl v4), (5, .inl (v5 + 1))]) (q := 5) (c := 1) dX1_tryJoint_49 ic_1 rfl (by decide) rfl ?_
      refine gw_goto (tgt := 19) dX1_tryJoint_52 (by decide) ?_
      exact h
set_option maxHeartbeats 4000000 in
set_option maxRecDepth 20000 in
theorem gX1_tryJoint_10 {l : Launch} {v0 : Nat} {v1 : Nat} {v2 : Int32} {v3 : Int32} {v4 : Int32} {σ : Sg} {K : Sg → Prop} (h : ((3 < v4 → GW l mX1_tryJoint 2 [(0, .inr v0), (1, .inr v1), (2, .inl v2), (3, .inl (v3 + 1))] [] σ 0 0 (PV K)) ∧ (¬ 3 < v4 → GW l mX1_tryJoint 19 [(0, .inr v0), (1, .inr v1), (2, .inl v2), (3, .inl v3), (4, .inl v4), (5, .inl 0)] [] σ 0 0 (PV K)))) : GW l mX1_tryJoint 10 [(0, .inr v0), (1, .inr v1), (2, .inl v2), (3, .inl v3), (4, .inl v4)] [] σ 0 0 (PV K) := by
  refine gw_iload (q := 4) dX1_tryJoint_10 rfl ?_
  refine gw_iconst (v := 3) dX1_tryJoint_12 ic_3 ?_
  refine gw_icmp_gt (tgt := 61) dX1_tryJoint_13 (by decide) (fun c1 => ?_) (fun c1 => ?_)
  · replace h := h.1 c1
    refine gw_inc (lo' := [(0, .inr v0), (1, .inr v1), (2, .inl v2), (3, .inl (v3 + 1)), (4, .inl v4)]) (q := 3) (c := 1) dX1_tryJoint_61 ic_1 rfl (by decide) rfl ?_
    refine gw_goto (tgt := 2) dX1_tryJoint_64 (by decide) ?_
    refine gw_pick [0, 1, 2, 3] rfl ?_
    exact h
  · replace h := h.2 c1
    refine gw_iconst (v := 0) dX1_tryJoint_16 ic_0 ?_
    refine gw_istore (lo' := [(0, .inr v0), (1, .inr v1), (2, .inl v2), (3, .inl v3), (4, .inl v4), (5, .inl 0)]) dX1_tryJoint_17 (by decide) rfl ?_
    exact h
set_option maxHeartbeats 4000000 in
set_option maxRecDepth 20000 in
theorem gX1_tryJoint_2 {l : Launch} {v0 : Nat} {v1 : Nat} {v2 : Int32} {v3 : Int32} {σ : Sg} {K : Sg → Prop} (h : ((1 < v3 → K σ) ∧ (¬ 1 < v3 → GW l mX1_tryJoint 10 [(0, .inr v0), (1, .inr v1), (2, .inl v2), (3, .inl v3), (4, .inl 1)] [] σ 0 0 (PV K)))) : GW l mX1_tryJoint 2 [(0, .inr v0), (1, .inr v1), (2, .inl v2), (3, .inl v3)] [] σ 0 0 (PV K) := by
  refine gw_iload_n (q := 3) dX1_tryJoint_2 rfl rfl ?_
  refine gw_iconst (v := 1) dX1_tryJoint_3 ic_1 ?_
  refine gw_icmp_gt (tgt := 67) dX1_tryJoint_4 (by decide) (fun c1 => ?_) (fun c1 => ?_)
  · replace h := h.1 c1
    exact gw_rV dX1_tryJoint_67 rfl (by decide) (by decide) h
  · replace h := h.2 c1
    refine gw_iconst (v := 1) dX1_tryJoint_7 ic_1 ?_
    refine gw_istore (lo' := [(0, .inr v0), (1, .inr v1), (2, .inl v2), (3, .inl v3), (4, .inl 1)]) dX1_tryJoint_8 (by decide) rfl ?_
    exact h
set_option maxHeartbeats 4000000 in
set_option maxRecDepth 20000 in
theorem eX1_tryJoint {l : Launch} {v0 : Nat} {v1 : Nat} {v2 : Int32} {σ : Sg} {K : Sg → Prop} (h : GW l mX1_tryJoint 2 [(0, .inr v0), (1, .inr v1), (2, .inl v2), (3, .inl 0)] [] σ 0 0 (PV K)) : Con l mX1_tryJoint [.inr v0, .inr v1, .inl v2] σ (PV K) := by
  refine con_gw rfl (Nat.le_of_ble_eq_true rfl) ?_
  show GW l mX1_tryJoint 0 [(0, .inr v0), (1, .inr v1), (2, .inl v2)] [] σ 0 0 (PV K)
  refine gw_iconst (v := 0) dX1_tryJoint_0 ic_0 ?_
  refine gw_istore_n (lo' := [(0, .inr v0), (1, .inr v1), (2, .inl v2), (3, .inl 0)]) dX1_tryJoint_1 rfl (by decide) rfl ?_
  exact h
set_option maxHeartbeats 4000000 in
set_option maxRecDepth 20000 in
theorem eX1_note {l : Launch} {v0 : Nat} {v1 : Int32} {v2 : Int32} {σ : Sg} {K : Sg → Prop} (h : ((v1 < 0 → K σ) ∧ (¬ v1 < 0 → ((v1 < 3 → Ob σ v0 1 ∧ ∀ σ4, σ4 = w1 σ v0 8 ((σ.2.1 v0 8) + 1) → ∀ σ5, σ5 = w1 σ4 v0 9 ((σ4.2.1 v0 9) ||| (1 <<< (v1 &&& 31))) → Ai σ5 (σ5.2.2 v0 4) v1 ∧ Con l mJ9_min_7cf53 [.inl (σ5.2.1 (σ5.2.2 v0 4) v1.toNatClampNeg), .inl v2] σ5 (PI (fun x7 σ7 => ∀ σ8, σ8 = w1 σ7 (σ5.2.2 v0 4) v1.toNatClampNeg x7 → Ai σ8 (σ8.2.2 v0 5) v1 ∧ Con l mJ9_max_7cf53 [.inl (σ8.2.1 (σ8.2.2 v0 5) v1.toNatClampNeg), .inl v2] σ8 (PI (fun x10 σ10 => ∀ σ11, σ11 = w1 σ10 (σ8.2.2 v0 5) v1.toNatClampNeg x10 → K σ11))))) ∧ (¬ v1 < 3 → K σ))))) : Con l mX1_note [.inr v0, .inl v1, .inl v2] σ (PV K) := by
  refine con_gw rfl (Nat.le_of_ble_eq_true rfl) ?_
  show GW l mX1_note 0 [(0, .inr v0), (1, .inl v1), (2, .inl v2)] [] σ 0 0 (PV K)
  refine gw_iload_n (q := 1) dX1_note_0 rfl rfl ?_
  refine gw_if_lt (tgt := 9) dX1_note_1 (by decide) (fun c1 => ?_) (fun c1 => ?_)
  · replace h := h.1 c1
    exact gw_rV dX1_note_9 rfl (by decide) (by decide) h
  · replace h := h.2 c1
    refine gw_iload_n (q := 1) dX1_note_4 rfl rfl ?_
    refine gw_iconst (v := 3) dX1_note_5 ic_3 ?_
    refine gw_icmp_lt (tgt := 10) dX1_note_6 (by decide) (fun c2 => ?_) (fun c2 => ?_)
    · replace h := h.1 c2
      refine gw_aload_n (q := 0) dX1_note_10 rfl rfl ?_
      refine gw_dup dX1_note_11 ?_
      obtain ⟨g3, h⟩ := h
      refine gw_gI fX1_34 dX1_note_12 g3 ?_
      refine gw_iconst (v := 1) dX1_note_15 ic_1 ?_
      refine gw_iadd dX1_note_16 ?_
      refine gw_pI fX1_34 dX1_note_17 g3 (fun σ4 e4 => ?_)
      replace h := h σ4 e4
      refine gw_aload_n (q := 0) dX1_note_20 rfl rfl ?_
      refine gw_dup dX1_note_21 ?_
      refine gw_gI fX1_38 dX1_note_22 (g3.up (n_w1 e4)) ?_
      refine gw_iconst (v := 1) dX1_note_25 ic_1 ?_
      refine gw_iload_n (q := 1) dX1_note_26 rfl rfl ?_
      refine gw_ishl dX1_note_27 ?_
      refine gw_ior dX1_note_28 ?_
      refine gw_pI fX1_38 dX1_note_29 (g3.up (n_w1 e4)) (fun σ5 e5 => ?_)
      replace h := h σ5 e5
      refine gw_aload_n (q := 0) dX1_note_32 rfl rfl ?_
      refine gw_gR fX1_24 dX1_note_33 ((g3.up (n_w1 e4)).up (n_w1 e5)) ?_
      refine gw_iload_n (q := 1) dX1_note_36 rfl rfl ?_
      refine gw_aload_n (q := 0) dX1_note_37 rfl rfl ?_
      refine gw_gR fX1_24 dX1_note_38 ((g3.up (n_w1 e4)).up (n_w1 e5)) ?_
      refine gw_iload_n (q := 1) dX1_note_41 rfl rfl ?_
      obtain ⟨g6, h⟩ := h
      refine gw_aI dX1_note_42 g6 ?_
      refine gw_iload_n (q := 2) dX1_note_43 rfl rfl ?_
      refine gw_sC (bs := [.inl (σ5.2.1 (σ5.2.2 v0 4) v1.toNatClampNeg), .inl v2]) (st := [.inl v1, .inr (σ5.2.2 v0 4)]) smJ9_min_7cf53 lX1_82 dX1_note_44 ⟨by decide, rfl, rfl, by decide, by decide⟩ (Nat.le_of_ble_eq_true rfl) rfl rfl h (kI (fun x7 σ7 h n7 => ?_))
      refine gw_sI dX1_note_47 (g6.up n7) (fun σ8 e8 => ?_)
      replace h := h σ8 e8
      refine gw_aload_n (q := 0) dX1_note_48 rfl rfl ?_
      refine gw_gR fX1_27 dX1_note_49 ((((g3.up (n_w1 e4)).up (n_w1 e5)).up n7).up (n_w1 e8)) ?_
      refine gw_iload_n (q := 1) dX1_note_52 rfl rfl ?_
      refine gw_aload_n (q := 0) dX1_note_53 rfl rfl ?_
      refine gw_gR fX1_27 dX1_note_54 ((((g3.up (n_w1 e4)).up (n_w1 e5)).up n7).up (n_w1 e8)) ?_
      refine gw_iload_n (q := 1) dX1_note_57 rfl rfl ?_
      obtain ⟨g9, h⟩ := h
      refine gw_aI dX1_note_58 g9 ?_
      refine gw_iload_n (q := 2) dX1_note_59 rfl rfl ?_
      refine gw_sC (bs := [.inl (σ8.2.1 (σ8.2.2 v0 5) v1.toNatClampNeg), .inl v2]) (st := [.inl v1, .inr (σ8.2.2 v0 5)]) smJ9_max_7cf53 lX1_114 dX1_note_60 ⟨by decide, rfl, rfl, by decide, by decide⟩ (Nat.le_of_ble_eq_true rfl) rfl rfl h (kI (fun x10 σ10 h n10 => ?_))
      refine gw_sI dX1_note_63 (g9.up n10) (fun σ11 e11 => ?_)
      replace h := h σ11 e11
      exact gw_rV dX1_note_64 rfl (by decide) (by decide) h
    · replace h := h.2 c2
      exact gw_rV dX1_note_9 rfl (by decide) (by decide) h
set_option maxHeartbeats 4000000 in
set_option maxRecDepth 20000 in
theorem gX1_fits_153 {l : Launch} {v0 : Nat} {v1 : Nat} {v2 : Int32} {v3 : Int32} {v4 : Int32} {v5 : Int32} {v6 : Int32} {v7 : Int32} {v8 : Int32} {v9 : Int32} {v10 : Int32} {σ : Sg} {K : Int32 → Sg → Prop} (h : ((v8 ≤ v10 → ((v9 = 0 → K 0 σ) ∧ (¬ v9 = 0 → Ob σ v0 1 ∧ ((¬ v6 = (σ.2.1 v0 7) → K 0 σ) ∧ (v6 = (σ.2.1 v0 7) → K 1 σ))))) ∧ (¬ v8 ≤ v10 → ((40 ≤ v10 → ((v9 = 0 → K 0 σ) ∧ (¬ v9 = 0 → Ob σ v0 1 ∧ ((¬ v6 = (σ.2.1 v0 7) → K 0 σ) ∧ (v6 = (σ.2.1 v0 7) → K 1 σ))))) ∧ (¬ 40 ≤ v10 → Ob σ v0 1 ∧ Ai σ (σ.2.2 v0 1) v10 ∧ (((σ.2.1 (σ.2.2 v0 1) v10.toNatClampNeg) < 0 → GW l mX1_fits 153 [(0, .inr v0), (1, .inr v1), (2, .inl v2), (3, .inl v3), (4, .inl v4), (5, .inl v5), (6, .inl v6), (7, .inl v7), (8, .inl v8), (9, .inl v9), (10, .inl (v10 + 1))] [] σ 0 0 (PI K)) ∧ (¬ (σ.2.1 (σ.2.2 v0 1) v10.toNatClampNeg) < 0 → ((256 ≤ (σ.2.1 (σ.2.2 v0 1) v10.toNatClampNeg) → GW l mX1_fits 153 [(0, .inr v0), (1, .inr v1), (2, .inl v2), (3, .inl v3), (4, .inl v4), (5, .inl v5), (6, .inl v6), (7, .inl v7), (8, .inl v8), (9, .inl v9), (10, .inl (v10 + 1))] [] σ 0 0 (PI K)) ∧ (¬ 256 ≤ (σ.2.1 (σ.2.2 v0 1) v10.toNatClampNeg) → Ai σ (σ.2.2 v0 3) (σ.2.1 (σ.2.2 v0 1) v10.toNatClampNeg) ∧ Ai σ (σ.2.2 v0 2) v10 ∧ ∀ σ15, σ15 = w1 σ (σ.2.2 v0 3) (σ.2.1 (σ.2.2 v0 1) v10.toNatClampNeg).toNatClampNeg ((σ.2.1 (σ.2.2 v0 3) (σ.2.1 (σ.2.2 v0 1) v10.toNatClampNeg).toNatClampNeg) + (σ.2.1 (σ.2.2 v0 2) v10.toNatClampNeg)) → GW l mX1_fits 153 [(0, .inr v0), (1, .inr v1), (2, .inl v2), (3, .inl v3), (4, .inl v4), (5, .inl v5), (6, .inl v6), (7, .inl v7), (8, .inl v8), (9, .inl v9), (10, .inl (v10 + 1))] [] σ15 0 0 (PI K)))))))))) : GW l mX1_fits 153 [(0, .inr v0), (1, .inr v1), (2, .inl v2), (3, .inl v3), (4, .inl v4), (5, .inl v5), (6, .inl v6), (7, .inl v7), (8, .inl v8), (9, .inl v9), (10, .inl v10)] [] σ 0 0 (PI K) := by
  refine gw_iload (q := 10) dX1_fits_153 rfl ?_
  refine gw_iload (q := 8) dX1_fits_155 rfl ?_
  refine gw_icmp_ge (tgt := 212) dX1_fits_157 (by decide) (fun c1 => ?_) (fun c1 => ?_)
  · replace h := h.1 c1
    refine gw_iload (q := 9) dX1_fits_212 rfl ?_
    refine gw_if_eq (tgt := 230) dX1_fits_214 (by decide) (fun c2 => ?_) (fun c2 => ?_)
    · replace h := h.1 c2
      refine gw_iconst (v := 0) dX1_fits_230 ic_0 ?_
      exact gw_rZ dX1_fits_231 rfl (by decide) (by decide) (by decide) h
    · replace h := h.2 c2
      refine gw_iload (q := 6) dX1_fits_217 rfl ?_
      refine gw_aload_n (q := 0) dX1_fits_219 rfl rfl ?_
      obtain ⟨g3, h⟩ := h
      refine gw_gI fX1_90 dX1_fits_220 g3 ?_
      refine gw_icmp_ne (tgt := 230) dX1_fits_223 (by decide) (fun c4 => ?_) (fun c4 => ?_)
      · replace h := h.1 c4
        refine gw_iconst (v := 0) dX1_fits_230 ic_0 ?_
        exact gw_rZ dX1_fits_231 rfl (by decide) (by decide) (by decide) h
      · replace h := h.2 c4
        refine gw_iconst (v := 1) dX1_fits_226 ic_1 ?_
        refine gw_goto (tgt := 231) dX1_fits_227 (by decide) ?_
        exact gw_rZ dX1_fits_231 rfl (by decide) (by decide) (by decide) h
  · replace h := h.2 c1
    refine gw_iload (q := 10) dX1_fits_160 rfl ?_
    refine gw_bipush (v := 40) dX1_fits_162 bp_40 ?_
    refine gw_icmp_ge (tgt := 212) dX1_fits_164 (by decide) (fun c5 => ?_) (fun c5 => ?_)
    · replace h := h.1 c5
      refine gw_iload (q := 9) dX1_fits_212 rfl ?_
      refine gw_if_eq (tgt := 230) dX1_fits_214 (by decide) (fun c6 => ?_) (fun c6 => ?_)
      · replace h := h.1 c6
        refine gw_iconst (v := 0) dX1_fits_230 ic_0 ?_
        exact gw_rZ dX1_fits_231 rfl (by decide) (by decide) (by decide) h
      · replace h := h.2 c6
        refine gw_iload (q := 6) dX1_fits_217 rfl ?_
        refine gw_aload_n (q := 0) dX1_fits_219 rfl rfl ?_
        obtain ⟨g7, h⟩ := h
        refine gw_gI fX1_90 dX1_fits_220 g7 ?_
        refine gw_icmp_ne (tgt := 230) dX1_fits_223 (by decide) (fun c8 => ?_) (fun c8 => ?_)
        · replace h := h.1 c8
          refine gw_iconst (v := 0) dX1_fits_230 ic_0 ?_
          exact gw_rZ dX1_fits_231 rfl (by decide) (by decide) (by decide) h
        · replace h := h.2 c8
          refine gw_iconst (v := 1) dX1_fits_226 ic_1 ?_
          refine gw_goto (tgt := 231) dX1_fits_227 (by decide) ?_
          exact gw_rZ dX1_fits_231 rfl (by decide) (by decide) (by decide) h
    · replace h := h.2 c5
      refine gw_aload_n (q := 0) dX1_fits_167 rfl rfl ?_
      obtain ⟨g9, h⟩ := h
      refine gw_gR fX1_15 dX1_fits_168 g9 ?_
      refine gw_iload (q := 10) dX1_fits_171 rfl ?_
      obtain ⟨g10, h⟩ := h
      refine gw_aI dX1_fits_173 g10 ?_
      refine gw_istore (lo' := [(0, .inr v0), (1, .inr v1), (2, .inl v2), (3, .inl v3), (4, .inl v4), (5, .inl v5), (6, .inl v6), (7, .inl v7), (8, .inl v8), (9, .inl v9), (10, .inl v10), (11, .inl (σ.2.1 (σ.2.2 v0 1) v10.toNatClampNeg))]) dX1_fits_174 (by decide) rfl ?_
      refine gw_iload (q := 11) dX1_fits_176 rfl ?_
      refine gw_if_lt (tgt := 206) dX1_fits_178 (by decide) (fun c11 => ?_) (fun c11 => ?_)
      · replace h := h.1 c11
        refine gw_inc (lo' := [(0, .inr v0), (1, .inr v1), (2, .inl v2), (3, .inl v3), (4, .inl v4), (5, .inl v5), (6, .inl v6), (7, .inl v7), (8, .inl v8), (9, .inl v9), (10, .inl (v10 + 1)), (11, .inl (σ.2.1 (σ.2.2 v0 1) v10.toNatClampNeg))]) (q := 10) (c := 1) dX1_fits_206 ic_1 rfl (by decide) rfl ?_
        refine gw_goto (tgt := 153) dX1_fits_209 (by decide) ?_
        refine gw_pick [0, 1, 2, 3, 4, 5, 6, 7, 8, 9, 10] rfl ?_
        exact h
      · replace h := h.2 c11
        refine gw_iload (q := 11) dX1_fits_181 rfl ?_
        refine gw_sipush (v := 256) dX1_fits_183 sp_256 ?_
        refine gw_icmp_ge (tgt := 206) dX1_fits_186 (by decide) (fun c12 => ?_) (fun c12 => ?_)
        · replace h := h.1 c12
          refine gw_inc (lo' := [(0, .inr v0), (1, .inr v1), (2, .inl v2), (3, .inl v3), (4, .inl v4), (5, .inl v5), (6, .inl v6), (7, .inl v7), (8, .inl v8), (9, .inl v9), (10, .inl (v10 + 1)), (11, .inl (σ.2.1 (σ.2.2 v0 1) v10.toNatClampNeg))]) (q := 10) (c := 1) dX1_fits_206 ic_1 rfl (by decide) rfl ?_
          refine gw_goto (tgt := 153) dX1_fits_209 (by decide) ?_
          refine gw_pick [0, 1, 2, 3, 4, 5, 6, 7, 8, 9, 10] rfl ?_
          exact h
        · replace h := h.2 c12
          refine gw_aload_n (q := 0) dX1_fits_189 rfl rfl ?_
          refine gw_gR fX1_21 dX1_fits_190 g9 ?_
          refine gw_iload (q := 11) dX1_fits_193 rfl ?_
          refine gw_dup2 dX1_fits_195 ?_
          obtain ⟨g13, h⟩ := h
          refine gw_aI dX1_fits_196 g13 ?_
          refine gw_aload_n (q := 0) dX1_fits_197 rfl rfl ?_
          refine gw_gR fX1_18 dX1_fits_198 g9 ?_
          refine gw_iload (q := 10) dX1_fits_201 rfl ?_
          obtain ⟨g14, h⟩ := h
          refine gw_aI dX1_fits_203 g14 ?_
          refine gw_iadd dX1_fits_204 ?_
          refine gw_sI dX1_fits_205 g13 (fun σ15 e15 => ?_)
          replace h := h σ15 e15
          refine gw_inc (lo' := [(0, .inr v0), (1, .inr v1), (2, .inl v2), (3, .inl v3), (4, .inl v4), (5, .inl v5), (6, .inl v6), (7, .inl v7), (8, .inl v8), (9, .inl v9), (10, .inl (v10 + 1)), (11, .inl (σ.2.1 (σ.2.2 v0 1) v10.toNatClampNeg))]) (q := 10) (c := 1) dX1_fits_206 ic_1 rfl (by decide) rfl ?_
          refine gw_goto (tgt := 153) dX1_fits_209 (by decide) ?_
          refine gw_pick [0, 1, 2, 3, 4, 5, 6, 7, 8, 9, 10] rfl ?_
          exact h
set_option maxHeartbeats 4000000 in
set_option maxRecDepth 20000 in
theorem gX1_fits_15 {l : Launch} {v0 : Nat} {v1 : Nat} {v2 : Int32} {v3 : Int32} {v4 : Int32} {v5 : Int32} {v6 : Int32} {v7 : Int32} {v8 : Int32} {v9 : Int32} {v10 : Int32} {σ : Sg} {K : Int32 → Sg → Prop} (h : Ob σ v0 1 ∧ (((σ.2.1 v0 6) ≤ v10 → GW l mX1_fits 153 [(0, .inr v0), (1, .inr v1), (2, .inl v2), (3, .inl v3), (4, .inl v4), (5, .inl v5), (6, .inl v6), (7, .inl v7), (8, .inl v8), (9, .inl v9), (10, .inl 0)] [] σ 0 0 (PI K)) ∧ (¬ (σ.2.1 v0 6) ≤ v10 → ((40 ≤ v10 → GW l mX1_fits 153 [(0, .inr v0), (1, .inr v1), (2, .inl v2), (3, .inl v3), (4, .inl v4), (5, .inl v5), (6, .inl v6), (7, .inl v7), (8, .inl v8), (9, .inl v9), (10, .inl 0)] [] σ 0 0 (PI K)) ∧ (¬ 40 ≤ v10 → ((v9 = 0 → GW l mX1_fits 153 [(0, .inr v0), (1, .inr v1), (2, .inl v2), (3, .inl v3), (4, .inl v4), (5, .inl v5), (6, .inl v6), (7, .inl v7), (8, .inl v8), (9, .inl v9), (10, .inl 0)] [] σ 0 0 (PI K)) ∧ (¬ v9 = 0 → Ob σ v1 8 ∧ Con l mX8_wornPlace [.inr v1, .inl v2, .inl v3, .inl v4, .inl v5, .inl v10, .inl v7] σ (PI (fun x5 σ5 => Ai σ5 (σ5.2.2 v0 0) ((v10 * 16) + (x5 &&& 15)) ∧ Ai σ5 (σ5.2.2 v0 1) v10 ∧ ∀ σ9, σ9 = w1 σ5 (σ5.2.2 v0 1) v10.toNatClampNeg (σ5.2.1 (σ5.2.2 v0 0) ((v10 * 16) + (x5 &&& 15)).toNatClampNeg) → (((σ5.2.1 (σ5.2.2 v0 0) ((v10 * 16) + (x5 &&& 15)).toNatClampNeg) < 0 → GW l mX1_fits 15 [(0, .inr v0), (1, .inr v1), (2, .inl v2), (3, .inl v3), (4, .inl v4), (5, .inl v5), (6, .inl v6), (7, .inl (x5 &&& 15)), (8, .inl (v10 + 1)), (9, .inl v9), (10, .inl (v10 + 1))] [] σ9 0 0 (PI K)) ∧ (¬ (σ5.2.1 (σ5.2.2 v0 0) ((v10 * 16) + (x5 &&& 15)).toNatClampNeg) < 0 → ((256 ≤ (σ5.2.1 (σ5.2.2 v0 0) ((v10 * 16) + (x5 &&& 15)).toNatClampNeg) → GW l mX1_fits 15 [(0, .inr v0), (1, .inr v1), (2, .inl v2), (3, .inl v3), (4, .inl v4), (5, .inl v5), (6, .inl v6), (7, .inl (x5 &&& 15)), (8, .inl (v10 + 1)), (9, .inl v9), (10, .inl (v10 + 1))] [] σ9 0 0 (PI K)) ∧ (¬ 256 ≤ (σ5.2.1 (σ5.2.2 v0 0) ((v10 * 16) + (x5 &&& 15)).toNatClampNeg) → Ai σ9 (σ9.2.2 v0 3) (σ5.2.1 (σ5.2.2 v0 0) ((v10 * 16) + (x5 &&& 15)).toNatClampNeg) ∧ Ai σ9 (σ9.2.2 v0 2) v10 ∧ ∀ σ14, σ14 = w1 σ9 (σ9.2.2 v0 3) (σ5.2.1 (σ5.2.2 v0 0) ((v10 * 16) + (x5 &&& 15)).toNatClampNeg).toNatClampNeg ((σ9.2.1 (σ9.2.2 v0 3) (σ5.2.1 (σ5.2.2 v0 0) ((v10 * 16) + (x5 &&& 15)).toNatClampNeg).toNatClampNeg) - (σ9.2.1 (σ9.2.2 v0 2) v10.toNatClampNeg)) → Ai σ14 (σ14.2.2 v0 2) v10 ∧ Ai σ14 (σ14.2.2 v0 3) (σ5.2.1 (σ5.2.2 v0 0) ((v10 * 16) + (x5 &&& 15)).toNatClampNeg) ∧ (((σ14.2.1 (σ14.2.2 v0 3) (σ5.2.1 (σ5.2.2 v0 0) ((v10 * 16) + (x5 &&& 15)).toNatClampNeg).toNatClampNeg) < 0 → GW l mX1_fits 15 [(0, .inr v0), (1, .inr v1), (2, .inl v2), (3, .inl v3), (4, .inl v4), (5, .inl v5), (6, .inl (v6 + (σ14.2.1 (σ14.2.2 v0 2) v10.toNatClampNeg))), (7, .inl (x5 &&& 15)), (8, .inl (v10 + 1)), (9, .inl 0), (10, .inl (v10 + 1))] [] σ14 0 0 (PI K)) ∧ (¬ (σ14.2.1 (σ14.2.2 v0 3) (σ5.2.1 (σ5.2.2 v0 0) ((v10 * 16) + (x5 &&& 15)).toNatClampNeg).toNatClampNeg) < 0 → GW l mX1_fits 15 [(0, .inr v0), (1, .inr v1), (2, .inl v2), (3, .inl v3), (4, .inl v4), (5, .inl v5), (6, .inl (v6 + (σ14.2.1 (σ14.2.2 v0 2) v10.toNatClampNeg))), (7, .inl (x5 &&& 15)), (8, .inl (v10 + 1)), (9, .inl 1), (10, .inl (v10 + 1))] [] σ14 0 0 (PI K)))))))))))))))) : GW l mX1_fits 15 [(0, .inr v0), (1, .inr v1), (2, .inl v2), (3, .inl v3), (4, .inl v4), (5, .inl v5), (6, .inl v6), (7, .inl v7), (8, .inl v8), (9, .inl v9), (10, .inl v10)] [] σ 0 0 (PI K) := by
  refine gw_iload (q := 10) dX1_fits_15 rfl ?_
  refine gw_aload_n (q := 0) dX1_fits_17 rfl rfl ?_
  obtain ⟨g1, h⟩ := h
  refine gw_gI fX1_88 dX1_fits_18 g1 ?_
  refine gw_icmp_ge (tgt := 150) dX1_fits_21 (by decide) (fun c2 => ?_) (fun c2 => ?_)
  · replace h := h.1 c2
    refine gw_iconst (v := 0) dX1_fits_150 ic_0 ?_
    refine gw_istore (lo' := [(0, .inr v0), (1, .inr v1), (2, .inl v2), (3, .inl v3), (4, .inl v4), (5, .inl v5), (6, .inl v6), (7, .inl v7), (8, .inl v8), (9, .inl v9), (10, .inl 0)]) dX1_fits_151 (by decide) rfl ?_
    exact h
  · replace h := h.2 c2
    refine gw_iload (q := 10) dX1_fits_24 rfl ?_
    refine gw_bipush (v := 40) dX1_fits_26 bp_40 ?_
    refine gw_icmp_ge (tgt := 150) dX1_fits_28 (by decide) (fun c3 => ?_) (fun c3 => ?_)
    · replace h := h.1 c3
      refine gw_iconst (v := 0) dX1_fits_150 ic_0 ?_
      refine gw_istore (lo' := [(0, .inr v0), (1, .inr v1), (2, .inl v2), (3, .inl v3), (4, .inl v4), (5, .inl v5), (6, .inl v6), (7, .inl v7), (8, .inl v8), (9, .inl v9), (10, .inl 0)]) dX1_fits_151 (by decide) rfl ?_
      exact h
    · replace h := h.2 c3
      refine gw_iload (q := 9) dX1_fits_31 rfl ?_
      refine gw_if_eq (tgt := 150) dX1_fits_33 (by decide) (fun c4 => ?_) (fun c4 => ?_)
      · replace h := h.1 c4
        refine gw_iconst (v := 0) dX1_fits_150 ic_0 ?_
        refine gw_istore (lo' := [(0, .inr v0), (1, .inr v1), (2, .inl v2), (3, .inl v3), (4, .inl v4), (5, .inl v5), (6, .inl v6), (7, .inl v7), (8, .inl v8), (9, .inl v9), (10, .inl 0)]) dX1_fits_151 (by decide) rfl ?_
        exact h
      · replace h := h.2 c4
        refine gw_aload_n (q := 1) dX1_fits_36 rfl rfl ?_
        refine gw_iload_n (q := 2) dX1_fits_37 rfl rfl ?_
        refine gw_iload_n (q := 3) dX1_fits_38 rfl rfl ?_
        refine gw_iload (q := 4) dX1_fits_39 rfl ?_
        refine gw_iload (q := 5) dX1_fits_41 rfl ?_
        refine gw_iload (q := 10) dX1_fits_43 rfl ?_
        refine gw_iload (q := 7) dX1_fits_45 rfl ?_
        obtain ⟨g6, h⟩ := h
        refine gw_vC (bs := [.inl v2, .inl v3, .inl v4, .inl v5, .inl v10, .inl v7]) (st := []) (vmX8_wornPlace) lX1_117 dX1_fits_47 ⟨by decide, rfl, rfl, by decide, by decide⟩ (Nat.le_of_ble_eq_true rfl) rfl rfl g6 h (kI (fun x5 σ5 h n5 => ?_))
        refine gw_bipush (v := 15) dX1_fits_50 bp_15 ?_
        refine gw_iand dX1_fits_52 ?_
        refine gw_istore (lo' := [(0, .inr v0), (1, .inr v1), (2, .inl v2), (3, .inl v3), (4, .inl v4), (5, .inl v5), (6, .inl v6), (7, .inl (x5 &&& 15)), (8, .inl v8), (9, .inl v9), (10, .inl v10)]) dX1_fits_53 (by decide) rfl ?_
        refine gw_aload_n (q := 0) dX1_fits_55 rfl rfl ?_
        refine gw_gR fX1_9 dX1_fits_56 (g1.up n5) ?_
        refine gw_iload (q := 10) dX1_fits_59 rfl ?_
        refine gw_bipush (v := 16) dX1_fits_61 bp_16 ?_
        refine gw_imul dX1_fits_63 ?_
        refine gw_iload (q := 7) dX1_fits_64 rfl ?_
        refine gw_iadd dX1_fits_66 ?_
        obtain ⟨g7, h⟩ := h
        refine gw_aI dX1_fits_67 g7 ?_
        refine gw_istore (lo' := [(0, .inr v0), (1, .inr v1), (2, .inl v2), (3, .inl v3), (4, .inl v4), (5, .inl v5), (6, .inl v6), (7, .inl (x5 &&& 15)), (8, .inl v8), (9, .inl v9), (10, .inl v10), (11, .inl (σ5.2.1 (σ5.2.2 v0 0) ((v10 * 16) + (x5 &&& 15)).toNatClampNeg))]) dX1_fits_68 (by decide) rfl ?_
        refine gw_aload_n (q := 0) dX1_fits_70 rfl rfl ?_
        refine gw_gR fX1_15 dX1_fits_71 (g1.up n5) ?_
        refine gw_iload (q := 10) dX1_fits_74 rfl ?_
        refine gw_iload (q := 11) dX1_fits_76 rfl ?_
        obtain ⟨g8, h⟩ := h
        refine gw_sI dX1_fits_78 g8 (fun σ9 e9 => ?_)
        replace h := h σ9 e9
        refine gw_iload (q := 10) dX1_fits_79 rfl ?_
        refine gw_iconst (v := 1) dX1_fits_81 ic_1 ?_
        refine gw_iadd dX1_fits_82 ?_
        refine gw_istore (lo' := [(0, .inr v0), (1, .inr v1), (2, .inl v2), (3, .inl v3), (4, .inl v4), (5, .inl v5), (6, .inl v6), (7, .inl (x5 &&& 15)), (8, .inl (v10 + 1)), (9, .inl v9), (10, .inl v10), (11, .inl (σ5.2.1 (σ5.2.2 v0 0) ((v10 * 16) + (x5 &&& 15)).toNatClampNeg))]) dX1_fits_83 (by decide) rfl ?_
        refine gw_iload (q := 11) dX1_fits_85 rfl ?_
        refine gw_if_lt (tgt := 144) dX1_fits_87 (by decide) (fun c10 => ?_) (fun c10 => ?_)
        · replace h := h.1 c10
          refine gw_inc (lo' := [(0, .inr v0), (1, .inr v1), (2, .inl v2), (3, .inl v3), (4, .inl v4), (5, .inl v5), (6, .inl v6), (7, .inl (x5 &&& 15)), (8, .inl (v10 + 1)), (9, .inl v9), (10, .inl (v10 + 1)), (11, .inl (σ5.2.1 (σ5.2.2 v0 0) ((v10 * 16) + (x5 &&& 15)).toNatClampNeg))]) (q := 10) (c := 1) dX1_fits_144 ic_1 rfl (by decide) rfl ?_
          refine gw_goto (tgt := 15) dX1_fits_147 (by decide) ?_
          refine gw_pick [0, 1, 2, 3, 4, 5, 6, 7, 8, 9, 10] rfl ?_
          exact h
        · replace h := h.2 c10
          refine gw_iload (q := 11) dX1_fits_90 rfl ?_
          refine gw_sipush (v := 256) dX1_fits_92 sp_256 ?_
          refine gw_icmp_ge (tgt := 144) dX1_fits_95 (by decide) (fun c11 => ?_) (fun c11 => ?_)
          · replace h := h.1 c11
            refine gw_inc (lo' := [(0, .inr v0), (1, .inr v1), (2, .inl v2), (3, .inl v3), (4, .inl v4), (5, .inl v5), (6, .inl v6), (7, .inl (x5 &&& 15)), (8, .inl (v10 + 1)), (9, .inl v9), (10, .inl (v10 + 1)), (11, .inl (σ5.2.1 (σ5.2.2 v0 0) ((v10 * 16) + (x5 &&& 15)).toNatClampNeg))]) (q := 10) (c := 1) dX1_fits_144 ic_1 rfl (by decide) rfl ?_
            refine gw_goto (tgt := 15) dX1_fits_147 (by decide) ?_
            refine gw_pick [0, 1, 2, 3, 4, 5, 6, 7, 8, 9, 10] rfl ?_
            exact h
          · replace h := h.2 c11
            refine gw_aload_n (q := 0) dX1_fits_98 rfl rfl ?_
            refine gw_gR fX1_21 dX1_fits_99 ((g1.up n5).up (n_w1 e9)) ?_
            refine gw_iload (q := 11) dX1_fits_102 rfl ?_
            refine gw_dup2 dX1_fits_104 ?_
            obtain ⟨g12, h⟩ := h
            refine gw_aI dX1_fits_105 g12 ?_
            refine gw_aload_n (q := 0) dX1_fits_106 rfl rfl ?_
            refine gw_gR fX1_18 dX1_fits_107 ((g1.up n5).up (n_w1 e9)) ?_
            refine gw_iload (q := 10) dX1_fits_110 rfl ?_
            obtain ⟨g13, h⟩ := h
            refine gw_aI dX1_fits_112 g13 ?_
            refine gw_isub dX1_fits_113 ?_
            refine gw_sI dX1_fits_114 g12 (fun σ14 e14 => ?_)
            replace h := h σ14 e14
            refine gw_iload (q := 6) dX1_fits_115 rfl ?_
            refine gw_aload_n (q := 0) dX1_fits_117 rfl rfl ?_
            refine gw_gR fX1_18 dX1_fits_118 (((g1.up n5).up (n_w1 e9)).up (n_w1 e14)) ?_
            refine gw_iload (q := 10) dX1_fits_121 rfl ?_
            obtain ⟨g15, h⟩ := h
            refine gw_aI dX1_fits_123 g15 ?_
            refine gw_iadd dX1_fits_124 ?_
            refine gw_istore (lo' := [(0, .inr v0), (1, .inr v1), (2, .inl v2), (3, .inl v3), (4, .inl v4), (5, .inl v5), (6, .inl (v6 + (σ14.2.1 (σ14.2.2 v0 2) v10.toNatClampNeg))), (7, .inl (x5 &&& 15)), (8, .inl (v10 + 1)), (9, .inl v9), (10, .inl v10), (11, .inl (σ5.2.1 (σ5.2.2 v0 0) ((v10 * 16) + (x5 &&& 15)).toNatClampNeg))]) dX1_fits_125 (by decide) rfl ?_
            refine gw_aload_n (q := 0) dX1_fits_127 rfl rfl ?_
            refine gw_gR fX1_21 dX1_fits_128 (((g1.up n5).up (n_w1 e9)).up (n_w1 e14)) ?_
            refine gw_iload (q := 11) dX1_fits_131 rfl ?_
            obtain ⟨g16, h⟩ := h
            refine gw_aI dX1_fits_133 g16 ?_
            refine gw_if_lt (tgt := 141) dX1_fits_134 (by decide) (fun c17 => ?_) (fun c17 => ?_)
            · replace h := h.1 c17
              refine gw_iconst (v := 0) dX1_fits_141 ic_0 ?_
              refine gw_istore (lo' := [(0, .inr v0), (1, .inr v1), (2, .inl v2), (3, .inl v3), (4, .inl v4), (5, .inl v5), (6, .inl (v6 + (σ14.2.1 (σ14.2.2 v0 2) v10.toNatClampNeg))), (7, .inl (x5 &&& 15)), (8, .inl (v10 + 1)), (9, .inl 0), (10, .inl v10), (11, .inl (σ5.2.1 (σ5.2.2 v0 0) ((v10 * 16) + (x5 &&& 15)).toNatClampNeg))]) dX1_fits_142 (by decide) rfl ?_
              refine gw_inc (lo' := [(0, .inr v0), (1, .inr v1), (2, .inl v2), (3, .inl v3), (4, .inl v4), (5, .inl v5), (6, .inl (v6 + (σ14.2.1 (σ14.2.2 v0 2) v10.toNatClampNeg))), (7, .inl (x5 &&& 15)), (8, .inl (v10 + 1)), (9, .inl 0), (10, .inl (v10 + 1)), (11, .inl (σ5.2.1 (σ5.2.2 v0 0) ((v10 * 16) + (x5 &&& 15)).toNatClampNeg))]) (q := 10) (c := 1) dX1_fits_144 ic_1 rfl (by decide) rfl ?_
              refine gw_goto (tgt := 15) dX1_fits_147 (by decide) ?_
              refine gw_pick [0, 1, 2, 3, 4, 5, 6, 7, 8, 9, 10] rfl ?_
              exact h
            · replace h := h.2 c17
              refine gw_iconst (v := 1) dX1_fits_137 ic_1 ?_
              refine gw_goto (tgt := 142) dX1_fits_138 (by decide) ?_
              refine gw_istore (lo' := [(0, .inr v0), (1, .inr v1), (2, .inl v2), (3, .inl v3), (4, .inl v4), (5, .inl v5), (6, .inl (v6 + (σ14.2.1 (σ14.2.2 v0 2) v10.toNatClampNeg))), (7, .inl (x5 &&& 15)), (8, .inl (v10 + 1)), (9, .inl 1), (10, .inl v10), (11, .inl (σ5.2.1 (σ5.2.2 v0 0) ((v10 * 16) + (x5 &&& 15)).toNatClampNeg))]) dX1_fits_142 (by decide) rfl ?_
              refine gw_inc (lo' := [(0, .inr v0), (1, .inr v1), (2, .inl v2), (3, .inl v3), (4, .inl v4), (5, .inl v5), (6, .inl (v6 + (σ14.2.1 (σ14.2.2 v0 2) v10.toNatClampNeg))), (7, .inl (x5 &&& 15)), (8, .inl (v10 + 1)), (9, .inl 1), (10, .inl (v10 + 1)), (11, .inl (σ5.2.1 (σ5.2.2 v0 0) ((v10 * 16) + (x5 &&& 15)).toNatClampNeg))]) (q := 10) (c := 1) dX1_fits_144 ic_1 rfl (by decide) rfl ?_
              refine gw_goto (tgt := 15) dX1_fits_147 (by decide) ?_
              refine gw_pick [0, 1, 2, 3, 4, 5, 6, 7, 8, 9, 10] rfl ?_
              exact h
set_option maxHeartbeats 4000000 in
set_option maxRecDepth 20000 in
theorem eX1_fits {l : Launch} {v0 : Nat} {v1 : Nat} {v2 : Int32} {v3 : Int32} {v4 : Int32} {v5 : Int32} {σ : Sg} {K : Int32 → Sg → Prop} (h : GW l mX1_fits 15 [(0, .inr v0), (1, .inr v1), (2, .inl v2), (3, .inl v3), (4, .inl v4), (5, .inl v5), (6, .inl 0), (7, .inl 0), (8, .inl 0), (9, .inl 1), (10, .inl 0)] [] σ 0 0 (PI K)) : Con l mX1_fits [.inr v0, .inr v1, .inl v2, .inl v3, .inl v4, .inl v5] σ (PI K) := by
  refine con_gw rfl (Nat.le_of_ble_eq_true rfl) ?_
  show GW l mX1_fits 0 [(0, .inr v0), (1, .inr v1), (2, .inl v2), (3, .inl v3), (4, .inl v4), (5, .inl v5)] [] σ 0 0 (PI K)
  refine gw_iconst (v := 0) dX1_fits_0 ic_0 ?_
  refine gw_istore (lo' := [(0, .inr v0), (1, .inr v1), (2, .inl v2), (3, .inl v3), (4, .inl v4), (5, .inl v5), (6, .inl 0)]) dX1_fits_1 (by decide) rfl ?_
  refine gw_iconst (v := 0) dX1_fits_3 ic_0 ?_
  refine gw_istore (lo' := [(0, .inr v0), (1, .inr v1), (2, .inl v2), (3, .inl v3), (4, .inl v4), (5, .inl v5), (6, .inl 0), (7, .inl 0)]) dX1_fits_4 (by decide) rfl ?_
  refine gw_iconst (v := 0) dX1_fits_6 ic_0 ?_
  refine gw_istore (lo' := [(0, .inr v0), (1, .inr v1), (2, .inl v2), (3, .inl v3), (4, .inl v4), (5, .inl v5), (6, .inl 0), (7, .inl 0), (8, .inl 0)]) dX1_fits_7 (by decide) rfl ?_
  refine gw_iconst (v := 1) dX1_fits_9 ic_1 ?_
  refine gw_istore (lo' := [(0, .inr v0), (1, .inr v1), (2, .inl v2), (3, .inl v3), (4, .inl v4), (5, .inl v5), (6, .inl 0), (7, .inl 0), (8, .inl 0), (9, .inl 1)]) dX1_fits_10 (by decide) rfl ?_
  refine gw_iconst (v := 0) dX1_fits_12 ic_0 ?_
  refine gw_istore (lo' := [(0, .inr v0), (1, .inr v1), (2, .inl v2), (3, .inl v3), (4, .inl v4), (5, .inl v5), (6, .inl 0), (7, .inl 0), (8, .inl 0), (9, .inl 1), (10, .inl 0)]) dX1_fits_13 (by decide) rfl ?_
  exact h
set_option maxHeartbeats 4000000 in
set_option maxRecDepth 20000 in
theorem gX1_tell_19 {l : Launch} {v0 : Nat} {v1 : Int32} {v2 : Int32} {t0 : Int32} {σ : Sg} {K : Int32 → Sg → Prop} (h : ((v1.toInt < 0 ∨ 4 < v1.toInt → ((t0 = 0 → K (-1) σ) ∧ (¬ t0 = 0 → Ob σ v0 1 ∧ Ai σ (σ.2.2 v0 5) v2 ∧ K (σ.2.1 (σ.2.2 v0 5) v2.toNatClampNeg) σ))) ∧ (v1.toInt = 0 → Ob σ v0 1 ∧ K (σ.2.1 v0 8) σ) ∧ (v1.toInt = 1 → Ob σ v0 1 ∧ K (σ.2.1 v0 9) σ) ∧ (v1.toInt = 2 → Ob σ v0 1 ∧ (((σ.2.1 v0 10) = 0 → K 0 σ) ∧ (¬ (σ.2.1 v0 10) = 0 → K 1 σ))) ∧ (v1.toInt = 3 → K v2 σ) ∧ (v1.toInt = 4 → ((t0 = 0 → K (-1) σ) ∧ (¬ t0 = 0 → Ob σ v0 1 ∧ Ai σ (σ.2.2 v0 4) v2 ∧ K (σ.2.1 (σ.2.2 v0 4) v2.toNatClampNeg) σ))))) : GW l mX1_tell 19 [(0, .inr v0), (1, .inl v1), (2, .inl v2)] [.inl t0] σ 0 0 (PI K) := by
  refine gw_istore_n (lo' := [(0, .inr v0), (1, .inl v1), (2, .inl v2), (3, .inl t0)]) dX1_tell_19 rfl (by decide) rfl ?_
  refine gw_iload_n (q := 1) dX1_tell_20 rfl rfl ?_
  refine gw_tab dX1_tell_21 rfl (fun c => ?_) (fun k hk hx => ?_)
  · refine ⟨96, by decide, ?_⟩
    replace h := h.1 c
    refine gw_iload_n (q := 3) dX1_tell_96 rfl rfl ?_
    refine gw_if_eq (tgt := 109) dX1_tell_97 (by decide) (fun c1 => ?_) (fun c1 => ?_)
    · replace h := h.1 c1
      refine gw_iconst (v := (-1)) dX1_tell_109 ic_m1 ?_
      exact gw_rI dX1_tell_110 rfl (by decide) (by decide) h
    · replace h := h.2 c1
      refine gw_aload_n (q := 0) dX1_tell_100 rfl rfl ?_
      obtain ⟨g2, h⟩ := h
      refine gw_gR fX1_27 dX1_tell_101 g2 ?_
      refine gw_iload_n (q := 2) dX1_tell_104 rfl rfl ?_
      obtain ⟨g3, h⟩ := h
      refine gw_aI dX1_tell_105 g3 ?_
      refine gw_goto (tgt := 110) dX1_tell_106 (by decide) ?_
      exact gw_rI dX1_tell_110 rfl (by decide) (by decide) h
  · match k, hk, hx with
    | 0, _, hx =>
      refine ⟨35, 56, rfl, by decide, ?_⟩
      replace h := h.2.1 hx
      refine gw_aload_n (q := 0) dX1_tell_56 rfl rfl ?_
      obtain ⟨g4, h⟩ := h
      refine gw_gI fX1_34 dX1_tell_57 g4 ?_
      exact gw_rI dX1_tell_60 rfl (by decide) (by decide) h
    | 1, _, hx =>
      refine ⟨40, 61, rfl, by decide, ?_⟩
      replace h := h.2.2.1 hx
      refine gw_aload_n (q := 0) dX1_tell_61 rfl rfl ?_
      obtain ⟨g5, h⟩ := h
      refine gw_gI fX1_38 dX1_tell_62 g5 ?_
      exact gw_rI dX1_tell_65 rfl (by decide) (by decide) h
    | 2, _, hx =>
      refine ⟨45, 66, rfl, by decide, ?_⟩
      replace h := h.2.2.2.1 hx
      refine gw_aload_n (q := 0) dX1_tell_66 rfl rfl ?_
      obtain ⟨g6, h⟩ := h
      refine gw_gI fX1_41 dX1_tell_67 g6 ?_
      refine gw_if_eq (tgt := 77) dX1_tell_70 (by decide) (fun c7 => ?_) (fun c7 => ?_)
      · replace h := h.1 c7
        refine gw_iconst (v := 0) dX1_tell_77 ic_0 ?_
        exact gw_rI dX1_tell_78 rfl (by decide) (by decide) h
      · replace h := h.2 c7
        refine gw_iconst (v := 1) dX1_tell_73 ic_1 ?_
        refine gw_goto (tgt := 78) dX1_tell_74 (by decide) ?_
        exact gw_rI dX1_tell_78 rfl (by decide) (by decide) h
    | 3, _, hx =>
      refine ⟨58, 79, rfl, by decide, ?_⟩
      replace h := h.2.2.2.2.1 hx
      refine gw_iload_n (q := 2) dX1_tell_79 rfl rfl ?_
      exact gw_rI dX1_tell_80 rfl (by decide) (by decide) h
    | 4, _, hx =>
      refine ⟨60, 81, rfl, by decide, ?_⟩
      replace h := h.2.2.2.2.2 hx
      refine gw_iload_n (q := 3) dX1_tell_81 rfl rfl ?_
      refine gw_if_eq (tgt := 94) dX1_tell_82 (by decide) (fun c8 => ?_) (fun c8 => ?_)
      · replace h := h.1 c8
        refine gw_iconst (v := (-1)) dX1_tell_94 ic_m1 ?_
        exact gw_rI dX1_tell_95 rfl (by decide) (by decide) h
      · replace h := h.2 c8
        refine gw_aload_n (q := 0) dX1_tell_85 rfl rfl ?_
        obtain ⟨g9, h⟩ := h
        refine gw_gR fX1_24 dX1_tell_86 g9 ?_
        refine gw_iload_n (q := 2) dX1_tell_89 rfl rfl ?_
        obtain ⟨g10, h⟩ := h
        refine gw_aI dX1_tell_90 g10 ?_
        refine gw_goto (tgt := 95) dX1_tell_91 (by decide) ?_
        exact gw_rI dX1_tell_95 rfl (by decide) (by decide) h
    | k + 5, hk, _ => exact absurd hk (by simp)
set_option maxHeartbeats 4000000 in
set_option maxRecDepth 20000 in
theorem eX1_tell {l : Launch} {v0 : Nat} {v1 : Int32} {σ : Sg} {K : Int32 → Sg → Prop} (h : Ob σ v0 1 ∧ Con l mX1_sureJoint [.inr v0] σ (PI (fun x1 σ1 => ((x1 < 0 → GW l mX1_tell 19 [(0, .inr v0), (1, .inl v1), (2, .inl x1)] [.inl 0] σ1 0 0 (PI K)) ∧ (¬ x1 < 0 → ((3 ≤ x1 → GW l mX1_tell 19 [(0, .inr v0), (1, .inl v1), (2, .inl x1)] [.inl 0] σ1 0 0 (PI K)) ∧ (¬ 3 ≤ x1 → GW l mX1_tell 19 [(0, .inr v0), (1, .inl v1), (2, .inl x1)] [.inl 1] σ1 0 0 (PI K)))))))) : Con l mX1_tell [.inr v0, .inl v1] σ (PI K) := by
  refine con_gw rfl (Nat.le_of_ble_eq_true rfl) ?_
  show GW l mX1_tell 0 [(0, .inr v0), (1, .inl v1)] [] σ 0 0 (PI K)
  refine gw_aload_n (q := 0) dX1_tell_0 rfl rfl ?_
  obtain ⟨g2, h⟩ := h
  refine gw_vC (bs := []) (st := []) (vmX1_sureJoint) lX1_121 dX1_tell_1 ⟨by decide, rfl, rfl, by decide, by decide⟩ (Nat.le_of_ble_eq_true rfl) rfl rfl g2 h (kI (fun x1 σ1 h n1 => ?_))
  refine gw_istore_n (lo' := [(0, .inr v0), (1, .inl v1), (2, .inl x1)]) dX1_tell_4 rfl (by decide) rfl ?_
  refine gw_iload_n (q := 2) dX1_tell_5 rfl rfl ?_
  refine gw_if_lt (tgt := 18) dX1_tell_6 (by decide) (fun c3 => ?_) (fun c3 => ?_)
  · replace h := h.1 c3
    refine gw_iconst (v := 0) dX1_tell_18 ic_0 ?_
    exact h
  · replace h := h.2 c3
    refine gw_iload_n (q := 2) dX1_tell_9 rfl rfl ?_
    refine gw_iconst (v := 3) dX1_tell_10 ic_3 ?_
    refine gw_icmp_ge (tgt := 18) dX1_tell_11 (by decide) (fun c4 => ?_) (fun c4 => ?_)
    · replace h := h.1 c4
      refine gw_iconst (v := 0) dX1_tell_18 ic_0 ?_
      exact h
    · replace h := h.2 c4
      refine gw_iconst (v := 1) dX1_tell_14 ic_1 ?_
      refine gw_goto (tgt := 19) dX1_tell_15 (by decide) ?_
      exact h
set_option maxHeartbeats 4000000 in
set_option maxRecDepth 20000 in
theorem eX1_sureJoint {l : Launch} {v0 : Nat} {σ : Sg} {K : Int32 → Sg → Prop} (h : Ob σ v0 1 ∧ ((¬ (σ.2.1 v0 10) = 0 → K (-1) σ) ∧ ((σ.2.1 v0 10) = 0 → Con l mJ6_bitCount_0f7a4 [.inl (σ.2.1 v0 9)] σ (PI (fun x3 σ3 => ((x3 = 1 → K ((σ3.2.1 v0 9) >>> (1 &&& 31)) σ3) ∧ (¬ x3 = 1 → K (-1) σ3))))))) : Con l mX1_sureJoint [.inr v0] σ (PI K) := by
  refine con_gw rfl (Nat.le_of_ble_eq_true rfl) ?_
  show GW l mX1_sureJoint 0 [(0, .inr v0)] [] σ 0 0 (PI K)
  refine gw_aload_n (q := 0) dX1_sureJoint_0 rfl rfl ?_
  obtain ⟨g1, h⟩ := h
  refine gw_gI fX1_41 dX1_sureJoint_1 g1 ?_
  refine gw_if_ne (tgt := 18) dX1_sureJoint_4 (by decide) (fun c2 => ?_) (fun c2 => ?_)
  · replace h := h.1 c2
    refine gw_iconst (v := (-1)) dX1_sureJoint_18 ic_m1 ?_
    exact gw_rI dX1_sureJoint_19 rfl (by decide) (by decide) h
  · replace h := h.2 c2
    refine gw_aload_n (q := 0) dX1_sureJoint_7 rfl rfl ?_
    refine gw_gI fX1_38 dX1_sureJoint_8 g1 ?_
    refine gw_sC (bs := [.inl (σ.2.1 v0 9)]) (st := []) smJ6_bitCount_0f7a4 lX1_124 dX1_sureJoint_11 ⟨by decide, rfl, rfl, by decide, by decide⟩ (Nat.le_of_ble_eq_true rfl) rfl rfl h (kI (fun x3 σ3 h n3 => ?_))
    refine gw_iconst (v := 1) dX1_sureJoint_14 ic_1 ?_
    refine gw_icmp_eq (tgt := 20) dX1_sureJoint_15 (by decide) (fun c4 => ?_) (fun c4 => ?_)
    · replace h := h.1 c4
      refine gw_aload_n (q := 0) dX1_sureJoint_20 rfl rfl ?_
      refine gw_gI fX1_38 dX1_sureJoint_21 (g1.up n3) ?_
      refine gw_iconst (v := 1) dX1_sureJoint_24 ic_1 ?_
      refine gw_ishr dX1_sureJoint_25 ?_
      exact gw_rI dX1_sureJoint_26 rfl (by decide) (by decide) h
    · replace h := h.2 c4
      refine gw_iconst (v := (-1)) dX1_sureJoint_18 ic_m1 ?_
      exact gw_rI dX1_sureJoint_19 rfl (by decide) (by decide) h
