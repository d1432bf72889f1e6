set_option maxHeartbeats 4000000 in
set_option maxRecDepth 20000 in
theorem eX3_init {l : Launch} {v0 : Nat} {σ : Sg} {K : Sg → Prop} (h : v0 ≠ 0 ∧ shp (σ.1 + 1) = (13, 163840) ∧ σ.1 + 1 ≤ 1000 ∧ ∀ x3 σ3, x3 = σ.1 + 1 → σ3 = nw σ → Ob σ3 v0 3 ∧ x3 ≤ σ3.1 ∧ ∀ σ6, σ6 = w2 σ3 v0 0 x3 → shp (σ6.1 + 1) = (13, 4096) ∧ σ6.1 + 1 ≤ 1000 ∧ ∀ x8 σ8, x8 = σ6.1 + 1 → σ8 = nw σ6 → x8 ≤ σ8.1 ∧ ∀ σ10, σ10 = w2 σ8 v0 1 x8 → shp (σ10.1 + 1) = (13, 4096) ∧ σ10.1 + 1 ≤ 1000 ∧ ∀ x12 σ12, x12 = σ10.1 + 1 → σ12 = nw σ10 → x12 ≤ σ12.1 ∧ ∀ σ14, σ14 = w2 σ12 v0 2 x12 → shp (σ14.1 + 1) = (13, 4096) ∧ σ14.1 + 1 ≤ 1000 ∧ ∀ x16 σ16, x16 = σ14.1 + 1 → σ16 = nw σ14 → x16 ≤ σ16.1 ∧ ∀ σ18, σ18 = w2 σ16 v0 3 x16 → shp (σ18.1 + 1) = (13, 4096) ∧ σ18.1 + 1 ≤ 1000 ∧ ∀ x20 σ20, x20 = σ18.1 + 1 → σ20 = nw σ18 → x20 ≤ σ20.1 ∧ ∀ σ22, σ22 = w2 σ20 v0 4 x20 → shp (σ22.1 + 1) = (13, 4096) ∧ σ22.1 + 1 ≤ 1000 ∧ ∀ x24 σ24, x24 = σ22.1 + 1 → σ24 = nw σ22 → x24 ≤ σ24.1 ∧ ∀ σ26, σ26 = w2 σ24 v0 5 x24 → shp (σ26.1 + 1) = (13, 4096) ∧ σ26.1 + 1 ≤ 1000 ∧ ∀ x28 σ28, x28 = σ26.1 + 1 → σ28 = nw σ26 → x28 ≤ σ28.1 ∧ ∀ σ30, σ30 = w2 σ28 v0 6 x28 → shp (σ30.1 + 1) = (13, 40) ∧ σ30.1 + 1 ≤ 1000 ∧ ∀ x32 σ32, x32 = σ30.1 + 1 → σ32 = nw σ30 → x32 ≤ σ32.1 ∧ ∀ σ34, σ34 = w2 σ32 v0 7 x32 → shp (σ34.1 + 1) = (13, 40) ∧ σ34.1 + 1 ≤ 1000 ∧ ∀ x36 σ36, x36 = σ34.1 + 1 → σ36 = nw σ34 → x36 ≤ σ36.1 ∧ ∀ σ38, σ38 = w2 σ36 v0 8 x36 → shp (σ38.1 + 1) = (13, 40) ∧ σ38.1 + 1 ≤ 1000 ∧ ∀ x40 σ40, x40 = σ38.1 + 1 → σ40 = nw σ38 → x40 ≤ σ40.1 ∧ ∀ σ42, σ42 = w2 σ40 v0 9 x40 → (shp (σ42.1 + 1)).1 = 0 ∧ σ42.1 + 1 ≤ 1000 ∧ ∀ x44 σ44, x44 = σ42.1 + 1 → σ44 = nw σ42 → x44 ≠ 0 ∧ Con l mX0_init [.inr x44] σ44 (PV (fun σ45 => x44 ≤ σ45.1 ∧ ∀ σ48, σ48 = w2 σ45 v0 10 x44 → K σ48))) : Con l mX3_init [.inr v0] σ (PV K) := by
  refine con_gw rfl (Nat.le_of_ble_eq_true rfl) ?_
  show GW l mX3_init 0 [(0, .inr v0)] [] σ 0 0 (PV K)
  refine gw_aload_n (q := 0) dX3_init_0 rfl rfl ?_
  obtain ⟨g1, h⟩ := h
  refine gw_objInit oiX3_3 oi_in oi_cd dX3_init_1 (by decide) (Nat.le_of_ble_eq_true rfl) g1 ?_
  refine gw_aload_n (q := 0) dX3_init_4 rfl rfl ?_
  refine gw_ldc (v := 163840) kX3_9 dX3_init_5 ?_
  obtain ⟨g2, g3, h⟩ := h
  refine gw_newi (N := 163840) ac_int dX3_init_7 g2 (by decide) (by decide) (by decide) (by decide) (by decide) g3 (fun x3 σ3 ex3 e3 => ?_)
  replace h := h x3 σ3 ex3 e3
  obtain ⟨g4, h⟩ := h
  obtain ⟨z5, h⟩ := h
  refine gw_pRF fX3_10 (Or.inr ⟨_, rfl⟩) rfl rfl (fun C T N hc => by cases hc; exact xfX3_10) dX3_init_9 z5 g4 (fun σ6 e6 => ?_)
  replace h := h σ6 e6
  refine gw_aload_n (q := 0) dX3_init_12 rfl rfl ?_
  refine gw_sipush (v := 4096) dX3_init_13 sp_4096 ?_
  obtain ⟨g7, g8, h⟩ := h
  refine gw_newi (N := 4096) ac_int dX3_init_16 g7 (by decide) (by decide) (by decide) (by decide) (by decide) g8 (fun x8 σ8 ex8 e8 => ?_)
  replace h := h x8 σ8 ex8 e8
  obtain ⟨z9, h⟩ := h
  refine gw_pRF fX3_16 (Or.inr ⟨_, rfl⟩) rfl rfl (fun C T N hc => by cases hc; exact xfX3_16) dX3_init_18 z9 ((g4.up (n_w2 e6)).up (n_nw e8)) (fun σ10 e10 => ?_)
  replace h := h σ10 e10
  refine gw_aload_n (q := 0) dX3_init_21 rfl rfl ?_
  refine gw_sipush (v := 4096) dX3_init_22 sp_4096 ?_
  obtain ⟨g11, g12, h⟩ := h
  refine gw_newi (N := 4096) ac_int dX3_init_25 g11 (by decide) (by decide) (by decide) (by decide) (by decide) g12 (fun x12 σ12 ex12 e12 => ?_)
  replace h := h x12 σ12 ex12 e12
  obtain ⟨z13, h⟩ := h
  refine gw_pRF fX3_19 (Or.inr ⟨_, rfl⟩) rfl rfl (fun C T N hc => by cases hc; exact xfX3_19) dX3_init_27 z13 ((((g4.up (n_w2 e6)).up (n_nw e8)).up (n_w2 e10)).up (n_nw e12)) (fun σ14 e14 => ?_)
  replace h := h σ14 e14
  refine gw_aload_n (q := 0) dX3_init_30 rfl rfl ?_
  refine gw_sipush (v := 4096) dX3_init_31 sp_4096 ?_
  obtain ⟨g15, g16, h⟩ := h
  refine gw_newi (N := 4096) ac_int dX3_init_34 g15 (by decide) (by decide) (by decide) (by decide) (by decide) g16 (fun x16 σ16 ex16 e16 => ?_)
  replace h := h x16 σ16 ex16 e16
  obtain ⟨z17, h⟩ := h
  refine gw_pRF fX3_22 (Or.inr ⟨_, rfl⟩) rfl rfl (fun C T N hc => by cases hc; exact xfX3_22) dX3_init_36 z17 ((((((g4.up (n_w2 e6)).up (n_nw e8)).up (n_w2 e10)).up (n_nw e12)).up (n_w2 e14)).up (n_nw e16)) (fun σ18 e18 => ?_)
  replace h := h σ18 e18
  refine gw_aload_n (q := 0) dX3_init_39 rfl rfl ?_
  refine gw_sipush (v := 4096) dX3_init_40 sp_4096 ?_
  obtain ⟨g19, g20, h⟩ := h
  refine gw_newi (N := 4096) ac_int dX3_init_43 g19 (by decide) (by decide) (by decide) (by decide) (by decide) g20 (fun x20 σ20 ex20 e20 => ?_)
  replace h := h x20 σ20 ex20 e20
  obtain ⟨z21, h⟩ := h
  refine gw_pRF fX3_25 (Or.inr ⟨_, rfl⟩) rfl rfl (fun C T N hc => by cases hc; exact xfX3_25) dX3_init_45 z21 ((((((((g4.up (n_w2 e6)).up (n_nw e8)).up (n_w2 e10)).up (n_nw e12)).up (n_w2 e14)).up (n_nw e16)).up (n_w2 e18)).up (n_nw e20)) (fun σ22 e22 => ?_)
  replace h := h σ22 e22
  refine gw_aload_n (q := 0) dX3_init_48 rfl rfl ?_
  refine gw_sipush (v := 4096) dX3_init_49 sp_4096 ?_
  obtain ⟨g23, g24, h⟩ := h
  refine gw_newi (N := 4096) ac_int dX3_init_52 g23 (by decide) (by decide) (by decide) (by decide) (by decide) g24 (fun x24 σ24 ex24 e24 => ?_)
  replace h := h x24 σ24 ex24 e24
  obtain ⟨z25, h⟩ := h
  refine gw_pRF fX3_28 (Or.inr ⟨_, rfl⟩) rfl rfl (fun C T N hc => by cases hc; exact xfX3_28) dX3_init_54 z25 ((((((((((g4.up (n_w2 e6)).up (n_nw e8)).up (n_w2 e10)).up (n_nw e12)).up (n_w2 e14)).up (n_nw e16)).up (n_w2 e18)).up (n_nw e20)).up (n_w2 e22)).up (n_nw e24)) (fun σ26 e26 => ?_)
  replace h := h σ26 e26
  refine gw_aload_n (q := 0) dX3_init_57 rfl rfl ?_
  refine gw_sipush (v := 4096) dX3_init_58 sp_4096 ?_
  obtain ⟨g27, g28, h⟩ := h
  refine gw_newi (N := 4096) ac_int dX3_init_61 g27 (by decide) (by decide) (by decide) (by decide) (by decide) g28 (fun x28 σ28 ex28 e28 => ?_)
  replace h := h x28 σ28 ex28 e28
  obtain ⟨z29, h⟩ := h
  refine gw_pRF fX3_31 (Or.inr ⟨_, rfl⟩) rfl rfl (fun C T N hc => by cases hc; exact xfX3_31) dX3_init_63 z29 ((((((((((((g4.up (n_w2 e6)).up (n_nw e8)).up (n_w2 e10)).up (n_nw e12)).up (n_w2 e14)).up (n_nw e16)).up (n_w2 e18)).up (n_nw e20)).up (n_w2 e22)).up (n_nw e24)).up (n_w2 e26)).up (n_nw e28)) (fun σ30 e30 => ?_)
  replace h := h σ30 e30
  refine gw_aload_n (q := 0) dX3_init_66 rfl rfl ?_
  refine gw_bipush (v := 40) dX3_init_67 bp_40 ?_
  obtain ⟨g31, g32, h⟩ := h
  refine gw_newi (N := 40) ac_int dX3_init_69 g31 (by decide) (by decide) (by decide) (by decide) (by decide) g32 (fun x32 σ32 ex32 e32 => ?_)
  replace h := h x32 σ32 ex32 e32
  obtain ⟨z33, h⟩ := h
  refine gw_pRF fX3_34 (Or.inr ⟨_, rfl⟩) rfl rfl (fun C T N hc => by cases hc; exact xfX3_34) dX3_init_71 z33 ((((((((((((((g4.up (n_w2 e6)).up (n_nw e8)).up (n_w2 e10)).up (n_nw e12)).up (n_w2 e14)).up (n_nw e16)).up (n_w2 e18)).up (n_nw e20)).up (n_w2 e22)).up (n_nw e24)).up (n_w2 e26)).up (n_nw e28)).up (n_w2 e30)).up (n_nw e32)) (fun σ34 e34 => ?_)
  replace h := h σ34 e34
  refine gw_aload_n (q := 0) dX3_init_74 rfl rfl ?_
  refine gw_bipush (v := 40) dX3_init_75 bp_40 ?_
  obtain ⟨g35, g36, h⟩ := h
  refine gw_newi (N := 40) ac_int dX3_init_77 g35 (by decide) (by decide) (by decide) (by decide) (by decide) g36 (fun x36 σ36 ex36 e36 => ?_)
  replace h := h x36 σ36 ex36 e36
  obtain ⟨z37, h⟩ := h
  refine gw_pRF fX3_37 (Or.inr ⟨_, rfl⟩) rfl rfl (fun C T N hc => by cases hc; exact xfX3_37) dX3_init_79 z37 ((((((((((((((((g4.up (n_w2 e6)).up (n_nw e8)).up (n_w2 e10)).up (n_nw e12)).up (n_w2 e14)).up (n_nw e16)).up (n_w2 e18)).up (n_nw e20)).up (n_w2 e22)).up (n_nw e24)).up (n_w2 e26)).up (n_nw e28)).up (n_w2 e30)).up (n_nw e32)).up (n_w2 e34)).up (n_nw e36)) (fun σ38 e38 => ?_)
  replace h := h σ38 e38
  refine gw_aload_n (q := 0) dX3_init_82 rfl rfl ?_
  refine gw_bipush (v := 40) dX3_init_83 bp_40 ?_
  obtain ⟨g39, g40, h⟩ := h
  refine gw_newi (N := 40) ac_int dX3_init_85 g39 (by decide) (by decide) (by decide) (by decide) (by decide) g40 (fun x40 σ40 ex40 e40 => ?_)
  replace h := h x40 σ40 ex40 e40
  obtain ⟨z41, h⟩ := h
  refine gw_pRF fX3_40 (Or.inr ⟨_, rfl⟩) rfl rfl (fun C T N hc => by cases hc; exact xfX3_40) dX3_init_87 z41 ((((((((((((((((((g4.up (n_w2 e6)).up (n_nw e8)).up (n_w2 e10)).up (n_nw e12)).up (n_w2 e14)).up (n_nw e16)).up (n_w2 e18)).up (n_nw e20)).up (n_w2 e22)).up (n_nw e24)).up (n_w2 e26)).up (n_nw e28)).up (n_w2 e30)).up (n_nw e32)).up (n_w2 e34)).up (n_nw e36)).up (n_w2 e38)).up (n_nw e40)) (fun σ42 e42 => ?_)
  replace h := h σ42 e42
  refine gw_aload_n (q := 0) dX3_init_90 rfl rfl ?_
  obtain ⟨g43, g44, h⟩ := h
  refine gw_new ci0 clX3_43 it_X0 in_X0 df0 dX3_init_91 g43 (by decide) (by decide) g44 (fun x44 σ44 ex44 e44 => ?_)
  replace h := h x44 σ44 ex44 e44
  refine gw_dup dX3_init_94 ?_
  obtain ⟨g46, h⟩ := h
  refine gw_iC (bs := []) (st := [.inr x44, .inr v0]) xmX0_init lX3_45 dX3_init_95 ⟨by decide, rfl, rfl, by decide, by decide⟩ (Nat.le_of_ble_eq_true rfl) rfl rfl g46 h (kV (fun σ45 h n45 => ?_))
  obtain ⟨z47, h⟩ := h
  refine gw_pR fX3_46 dX3_init_98 z47 (((((((((((((((((((((g4.up (n_w2 e6)).up (n_nw e8)).up (n_w2 e10)).up (n_nw e12)).up (n_w2 e14)).up (n_nw e16)).up (n_w2 e18)).up (n_nw e20)).up (n_w2 e22)).up (n_nw e24)).up (n_w2 e26)).up (n_nw e28)).up (n_w2 e30)).up (n_nw e32)).up (n_w2 e34)).up (n_nw e36)).up (n_w2 e38)).up (n_nw e40)).up (n_w2 e42)).up (n_nw e44)).up n45) (fun σ48 e48 => ?_)
  replace h := h σ48 e48
  exact gw_rV dX3_init_101 rfl (by decide) (by decide) h
set_option maxHeartbeats 4000000 in
set_option maxRecDepth 20000 in
theorem eX3_poseAt {l : Launch} {v0 : Nat} {v1 : Int32} {σ : Sg} {K : Int32 → Sg → Prop} (h : ((v1 < 0 → K 0 σ) ∧ (¬ v1 < 0 → ((40 ≤ v1 → K 0 σ) ∧ (¬ 40 ≤ v1 → Ob σ v0 3 ∧ Ai σ (σ.2.2 v0 9) v1 ∧ K (σ.2.1 (σ.2.2 v0 9) v1.toNatClampNeg) σ))))) : Con l mX3_poseAt [.inr v0, .inl v1] σ (PI K) := by
  refine con_gw rfl (Nat.le_of_ble_eq_true rfl) ?_
  show GW l mX3_poseAt 0 [(0, .inr v0), (1, .inl v1)] [] σ 0 0 (PI K)
  refine gw_iload_n (q := 1) dX3_poseAt_0 rfl rfl ?_
  refine gw_if_lt (tgt := 19) dX3_poseAt_1 (by decide) (fun c1 => ?_) (fun c1 => ?_)
  · replace h := h.1 c1
    refine gw_iconst (v := 0) dX3_poseAt_19 ic_0 ?_
    exact gw_rI dX3_poseAt_20 rfl (by decide) (by decide) h
  · replace h := h.2 c1
    refine gw_iload_n (q := 1) dX3_poseAt_4 rfl rfl ?_
    refine gw_bipush (v := 40) dX3_poseAt_5 bp_40 ?_
    refine gw_icmp_ge (tgt := 19) dX3_poseAt_7 (by decide) (fun c2 => ?_) (fun c2 => ?_)
    · replace h := h.1 c2
      refine gw_iconst (v := 0) dX3_poseAt_19 ic_0 ?_
      exact gw_rI dX3_poseAt_20 rfl (by decide) (by decide) h
    · replace h := h.2 c2
      refine gw_aload_n (q := 0) dX3_poseAt_10 rfl rfl ?_
      obtain ⟨g3, h⟩ := h
      refine gw_gR fX3_40 dX3_poseAt_11 g3 ?_
      refine gw_iload_n (q := 1) dX3_poseAt_14 rfl rfl ?_
      obtain ⟨g4, h⟩ := h
      refine gw_aI dX3_poseAt_15 g4 ?_
      refine gw_goto (tgt := 20) dX3_poseAt_16 (by decide) ?_
      exact gw_rI dX3_poseAt_20 rfl (by decide) (by decide) h
set_option maxHeartbeats 4000000 in
set_option maxRecDepth 20000 in
theorem gX3_search_124 {l : Launch} {v0 : Nat} {v1 : Nat} {v2 : Nat} {v3 : Nat} {v4 : Int32} {v5 : Int32} {v6 : Int32} {v7 : Int32} {v8 : Int32} {t0 : Nat} {t1 : Int32} {t2 : Int32} {σ : Sg} {K : Int32 → Sg → Prop} (h : Ob σ t0 3 ∧ Con l mX3_fillTick [.inr t0, .inl t1, .inl t2] σ (PI (fun x1 σ1 => Ob σ1 v0 3 ∧ ∀ σ4, σ4 = w1 σ1 v0 17 v8 → GW l mX3_search 94 [(0, .inr v0), (1, .inr v1), (2, .inr v2), (3, .inr v3), (4, .inl v4), (5, .inl v5), (6, .inl v6), (7, .inl x1), (8, .inl (v8 + 1))] [] σ4 0 0 (PI K)))) : GW l mX3_search 124 [(0, .inr v0), (1, .inr v1), (2, .inr v2), (3, .inr v3), (4, .inl v4), (5, .inl v5), (6, .inl v6), (7, .inl v7), (8, .inl v8)] [.inl t2, .inl t1, .inr t0] σ 0 0 (PI K) := by
  obtain ⟨g2, h⟩ := h
  refine gw_vC (bs := [.inl t1, .inl t2]) (st := []) (vmX3_fillTick) lX3_64 dX3_search_124 ⟨by decide, rfl, rfl, by decide, by decide⟩ (Nat.le_of_ble_eq_true rfl) rfl rfl g2 h (kI (fun x1 σ1 h n1 => ?_))
  refine gw_istore (lo' := [(0, .inr v0), (1, .inr v1), (2, .inr v2), (3, .inr v3), (4, .inl v4), (5, .inl v5), (6, .inl v6), (7, .inl x1), (8, .inl v8)]) dX3_search_127 (by decide) rfl ?_
  refine gw_aload_n (q := 0) dX3_search_129 rfl rfl ?_
  refine gw_iload (q := 8) dX3_search_130 rfl ?_
  obtain ⟨g3, h⟩ := h
  refine gw_pI fX3_71 dX3_search_132 g3 (fun σ4 e4 => ?_)
  replace h := h σ4 e4
  refine gw_inc (lo' := [(0, .inr v0), (1, .inr v1), (2, .inr v2), (3, .inr v3), (4, .inl v4), (5, .inl v5), (6, .inl v6), (7, .inl x1), (8, .inl (v8 + 1))]) (q := 8) (c := 1) dX3_search_135 ic_1 rfl (by decide) rfl ?_
  refine gw_goto (tgt := 94) dX3_search_138 (by decide) ?_
  exact h
set_option maxHeartbeats 4000000 in
set_option maxRecDepth 20000 in
theorem gX3_search_94 {l : Launch} {v0 : Nat} {v1 : Nat} {v2 : Nat} {v3 : Nat} {v4 : Int32} {v5 : Int32} {v6 : Int32} {v7 : Int32} {v8 : Int32} {σ : Sg} {K : Int32 → Sg → Prop} (h : Ob σ v0 3 ∧ (((σ.2.1 v0 11) ≤ v8 → K 0 σ) ∧ (¬ (σ.2.1 v0 11) ≤ v8 → ((v7 = 0 → K 0 σ) ∧ (¬ v7 = 0 → ((¬ v8 = 0 → GW l mX3_search 124 [(0, .inr v0), (1, .inr v1), (2, .inr v2), (3, .inr v3), (4, .inl v4), (5, .inl v5), (6, .inl v6), (7, .inl v7), (8, .inl v8)] [.inl (v8 - 1), .inl v8, .inr v0] σ 0 0 (PI K)) ∧ (v8 = 0 → GW l mX3_search 124 [(0, .inr v0), (1, .inr v1), (2, .inr v2), (3, .inr v3), (4, .inl v4), (5, .inl v5), (6, .inl v6), (7, .inl v7), (8, .inl v8)] [.inl (-1), .inl v8, .inr v0] σ 0 0 (PI K)))))))) : GW l mX3_search 94 [(0, .inr v0), (1, .inr v1), (2, .inr v2), (3, .inr v3), (4, .inl v4), (5, .inl v5), (6, .inl v6), (7, .inl v7), (8, .inl v8)] [] σ 0 0 (PI K) := by
  refine gw_iload (q := 8) dX3_search_94 rfl ?_
  refine gw_aload_n (q := 0) dX3_search_96 rfl rfl ?_
  obtain ⟨g1, h⟩ := h
  refine gw_gI fX3_61 dX3_search_97 g1 ?_
  refine gw_icmp_ge (tgt := 141) dX3_search_100 (by decide) (fun c2 => ?_) (fun c2 => ?_)
  · replace h := h.1 c2
    refine gw_iconst (v := 0) dX3_search_141 ic_0 ?_
    exact gw_rZ dX3_search_142 rfl (by decide) (by decide) (by decide) h
  · replace h := h.2 c2
    refine gw_iload (q := 7) dX3_search_103 rfl ?_
    refine gw_if_eq (tgt := 141) dX3_search_105 (by decide) (fun c3 => ?_) (fun c3 => ?_)
    · replace h := h.1 c3
      refine gw_iconst (v := 0) dX3_search_141 ic_0 ?_
      exact gw_rZ dX3_search_142 rfl (by decide) (by decide) (by decide) h
    · replace h := h.2 c3
      refine gw_aload_n (q := 0) dX3_search_108 rfl rfl ?_
      refine gw_iload (q := 8) dX3_search_109 rfl ?_
      refine gw_iload (q := 8) dX3_search_111 rfl ?_
      refine gw_if_ne (tgt := 120) dX3_search_113 (by decide) (fun c4 => ?_) (fun c4 => ?_)
      · replace h := h.1 c4
        refine gw_iload (q := 8) dX3_search_120 rfl ?_
        refine gw_iconst (v := 1) dX3_search_122 ic_1 ?_
        refine gw_isub dX3_search_123 ?_
        exact h
      · replace h := h.2 c4
        refine gw_iconst (v := (-1)) dX3_search_116 ic_m1 ?_
        refine gw_goto (tgt := 124) dX3_search_117 (by decide) ?_
        exact h
set_option maxHeartbeats 4000000 in
set_option maxRecDepth 20000 in
theorem gX3_search_77 {l : Launch} {v0 : Nat} {v1 : Nat} {v2 : Nat} {v3 : Nat} {v4 : Int32} {v5 : Int32} {v6 : Int32} {v7 : Int32} {σ : Sg} {K : Int32 → Sg → Prop} (h : ((v6 = 0 → GW l mX3_search 94 [(0, .inr v0), (1, .inr v1), (2, .inr v2), (3, .inr v3), (4, .inl v4), (5, .inl v5), (6, .inl v6), (7, .inl 1), (8, .inl 0)] [] σ 0 0 (PI K)) ∧ (¬ v6 = 0 → Ob σ v0 3 ∧ Con l mX3_trace [.inr v0] σ (PV (fun σ2 => K 1 σ2))))) : GW l mX3_search 77 [(0, .inr v0), (1, .inr v1), (2, .inr v2), (3, .inr v3), (4, .inl v4), (5, .inl v5), (6, .inl v6), (7, .inl v7)] [] σ 0 0 (PI K) := by
  refine gw_iload (q := 6) dX3_search_77 rfl ?_
  refine gw_if_eq (tgt := 88) dX3_search_79 (by decide) (fun c1 => ?_) (fun c1 => ?_)
  · replace h := h.1 c1
    refine gw_iconst (v := 1) dX3_search_88 ic_1 ?_
    refine gw_istore (lo' := [(0, .inr v0), (1, .inr v1), (2, .inr v2), (3, .inr v3), (4, .inl v4), (5, .inl v5), (6, .inl v6), (7, .inl 1)]) dX3_search_89 (by decide) rfl ?_
    refine gw_iconst (v := 0) dX3_search_91 ic_0 ?_
    refine gw_istore (lo' := [(0, .inr v0), (1, .inr v1), (2, .inr v2), (3, .inr v3), (4, .inl v4), (5, .inl v5), (6, .inl v6), (7, .inl 1), (8, .inl 0)]) dX3_search_92 (by decide) rfl ?_
    exact h
  · replace h := h.2 c1
    refine gw_aload_n (q := 0) dX3_search_82 rfl rfl ?_
    obtain ⟨g3, h⟩ := h
    refine gw_vC (bs := []) (st := []) (vmX3_trace) lX3_68 dX3_search_83 ⟨by decide, rfl, rfl, by decide, by decide⟩ (Nat.le_of_ble_eq_true rfl) rfl rfl g3 h (kV (fun σ2 h n2 => ?_))
    refine gw_iconst (v := 1) dX3_search_86 ic_1 ?_
    exact gw_rZ dX3_search_87 rfl (by decide) (by decide) (by decide) h
set_option maxHeartbeats 4000000 in
set_option maxRecDepth 20000 in
theorem gX3_search_34 {l : Launch} {v0 : Nat} {v1 : Nat} {v2 : Nat} {v3 : Nat} {v4 : Int32} {v5 : Int32} {v6 : Int32} {v7 : Int32} {σ : Sg} {K : Int32 → Sg → Prop} (h : ((v7 < 0 → GW l mX3_search 77 [(0, .inr v0), (1, .inr v1), (2, .inr v2), (3, .inr v3), (4, .inl v4), (5, .inl v5), (6, .inl v6), (7, .inl v7)] [] σ 0 0 (PI K)) ∧ (¬ v7 < 0 → ((v6 = 0 → GW l mX3_search 77 [(0, .inr v0), (1, .inr v1), (2, .inr v2), (3, .inr v3), (4, .inl v4), (5, .inl v5), (6, .inl v6), (7, .inl v7)] [] σ 0 0 (PI K)) ∧ (¬ v6 = 0 → Ob σ v0 3 ∧ ((¬ v7 = ((σ.2.1 v0 11) - 1) → Con l mX3_fillTick [.inr v0, .inl v7, .inl (v7 + 1)] σ (PI (fun x5 σ5 => GW l mX3_search 34 [(0, .inr v0), (1, .inr v1), (2, .inr v2), (3, .inr v3), (4, .inl v4), (5, .inl v5), (6, .inl x5), (7, .inl (v7 + (-1)))] [] σ5 0 0 (PI K)))) ∧ (v7 = ((σ.2.1 v0 11) - 1) → Con l mX3_fillTick [.inr v0, .inl v7, .inl (-1)] σ (PI (fun x6 σ6 => GW l mX3_search 34 [(0, .inr v0), (1, .inr v1), (2, .inr v2), (3, .inr v3), (4, .inl v4), (5, .inl v5), (6, .inl x6), (7, .inl (v7 + (-1)))] [] σ6 0 0 (PI K)))))))))) : GW l mX3_search 34 [(0, .inr v0), (1, .inr v1), (2, .inr v2), (3, .inr v3), (4, .inl v4), (5, .inl v5), (6, .inl v6), (7, .inl v7)] [] σ 0 0 (PI K) := by
  refine gw_iload (q := 7) dX3_search_34 rfl ?_
  refine gw_if_lt (tgt := 77) dX3_search_36 (by decide) (fun c1 => ?_) (fun c1 => ?_)
  · replace h := h.1 c1
    exact h
  · replace h := h.2 c1
    refine gw_iload (q := 6) dX3_search_39 rfl ?_
    refine gw_if_eq (tgt := 77) dX3_search_41 (by decide) (fun c2 => ?_) (fun c2 => ?_)
    · replace h := h.1 c2
      exact h
    · replace h := h.2 c2
      refine gw_aload_n (q := 0) dX3_search_44 rfl rfl ?_
      refine gw_iload (q := 7) dX3_search_45 rfl ?_
      refine gw_iload (q := 7) dX3_search_47 rfl ?_
      refine gw_aload_n (q := 0) dX3_search_49 rfl rfl ?_
      obtain ⟨g3, h⟩ := h
      refine gw_gI fX3_61 dX3_search_50 g3 ?_
      refine gw_iconst (v := 1) dX3_search_53 ic_1 ?_
      refine gw_isub dX3_search_54 ?_
      refine gw_icmp_ne (tgt := 62) dX3_search_55 (by decide) (fun c4 => ?_) (fun c4 => ?_)
      · replace h := h.1 c4
        refine gw_iload (q := 7) dX3_search_62 rfl ?_
        refine gw_iconst (v := 1) dX3_search_64 ic_1 ?_
        refine gw_iadd dX3_search_65 ?_
        refine gw_vC (bs := [.inl v7, .inl (v7 + 1)]) (st := []) (vmX3_fillTick) lX3_64 dX3_search_66 ⟨by decide, rfl, rfl, by decide, by decide⟩ (Nat.le_of_ble_eq_true rfl) rfl rfl g3 h (kI (fun x5 σ5 h n5 => ?_))
        refine gw_istore (lo' := [(0, .inr v0), (1, .inr v1), (2, .inr v2), (3, .inr v3), (4, .inl v4), (5, .inl v5), (6, .inl x5), (7, .inl v7)]) dX3_search_69 (by decide) rfl ?_
        refine gw_inc (lo' := [(0, .inr v0), (1, .inr v1), (2, .inr v2), (3, .inr v3), (4, .inl v4), (5, .inl v5), (6, .inl x5), (7, .inl (v7 + (-1)))]) (q := 7) (c := (-1)) dX3_search_71 ic_m1 rfl (by decide) rfl ?_
        refine gw_goto (tgt := 34) dX3_search_74 (by decide) ?_
        exact h
      · replace h := h.2 c4
        refine gw_iconst (v := (-1)) dX3_search_58 ic_m1 ?_
        refine gw_goto (tgt := 66) dX3_search_59 (by decide) ?_
        refine gw_vC (bs := [.inl v7, .inl (-1)]) (st := []) (vmX3_fillTick) lX3_64 dX3_search_66 ⟨by decide, rfl, rfl, by decide, by decide⟩ (Nat.le_of_ble_eq_true rfl) rfl rfl g3 h (kI (fun x6 σ6 h n6 => ?_))
        refine gw_istore (lo' := [(0, .inr v0), (1, .inr v1), (2, .inr v2), (3, .inr v3), (4, .inl v4), (5, .inl v5), (6, .inl x6), (7, .inl v7)]) dX3_search_69 (by decide) rfl ?_
        refine gw_inc (lo' := [(0, .inr v0), (1, .inr v1), (2, .inr v2), (3, .inr v3), (4, .inl v4), (5, .inl v5), (6, .inl x6), (7, .inl (v7 + (-1)))]) (q := 7) (c := (-1)) dX3_search_71 ic_m1 rfl (by decide) rfl ?_
        refine gw_goto (tgt := 34) dX3_search_74 (by decide) ?_
        exact h
set_option maxHeartbeats 4000000 in
set_option maxRecDepth 20000 in
theorem eX3_search {l : Launch} {v0 : Nat} {v1 : Nat} {v2 : Nat} {v3 : Nat} {v4 : Int32} {v5 : Int32} {σ : Sg} {K : Int32 → Sg → Prop} (h : Ob σ v0 3 ∧ v3 ≤ σ.1 ∧ ∀ σ3, σ3 = w2 σ v0 10 v3 → ∀ σ4, σ4 = w1 σ3 v0 12 v5 → Con l mX3_aim [.inr v0, .inr v1, .inr v2, .inl v4] σ4 (PV (fun σ5 => Con l mX3_gatherPoses [.inr v0] σ5 (PV (fun σ6 => GW l mX3_search 34 [(0, .inr v0), (1, .inr v1), (2, .inr v2), (3, .inr v3), (4, .inl v4), (5, .inl v5), (6, .inl 1), (7, .inl ((σ6.2.1 v0 11) - 1))] [] σ6 0 0 (PI K)))))) : Con l mX3_search [.inr v0, .inr v1, .inr v2, .inr v3, .inl v4, .inl v5] σ (PI K) := by
  refine con_gw rfl (Nat.le_of_ble_eq_true rfl) ?_
  show GW l mX3_search 0 [(0, .inr v0), (1, .inr v1), (2, .inr v2), (3, .inr v3), (4, .inl v4), (5, .inl v5)] [] σ 0 0 (PI K)
  refine gw_aload_n (q := 0) dX3_search_0 rfl rfl ?_
  refine gw_aload_n (q := 3) dX3_search_1 rfl rfl ?_
  obtain ⟨g1, h⟩ := h
  obtain ⟨z2, h⟩ := h
  refine gw_pR fX3_46 dX3_search_2 z2 g1 (fun σ3 e3 => ?_)
  replace h := h σ3 e3
  refine gw_aload_n (q := 0) dX3_search_5 rfl rfl ?_
  refine gw_iload (q := 5) dX3_search_6 rfl ?_
  refine gw_pI fX3_50 dX3_search_8 (g1.up (n_w2 e3)) (fun σ4 e4 => ?_)
  replace h := h σ4 e4
  refine gw_aload_n (q := 0) dX3_search_11 rfl rfl ?_
  refine gw_aload_n (q := 1) dX3_search_12 rfl rfl ?_
  refine gw_aload_n (q := 2) dX3_search_13 rfl rfl ?_
  refine gw_iload (q := 4) dX3_search_14 rfl ?_
  refine gw_vC (bs := [.inr v1, .inr v2, .inl v4]) (st := []) (vmX3_aim) lX3_54 dX3_search_16 ⟨by decide, rfl, rfl, by decide, by decide⟩ (Nat.le_of_ble_eq_true rfl) rfl rfl ((g1.up (n_w2 e3)).up (n_w1 e4)) h (kV (fun σ5 h n5 => ?_))
  refine gw_aload_n (q := 0) dX3_search_19 rfl rfl ?_
  refine gw_vC (bs := []) (st := []) (vmX3_gatherPoses) lX3_58 dX3_search_20 ⟨by decide, rfl, rfl, by decide, by decide⟩ (Nat.le_of_ble_eq_true rfl) rfl rfl (((g1.up (n_w2 e3)).up (n_w1 e4)).up n5) h (kV (fun σ6 h n6 => ?_))
  refine gw_iconst (v := 1) dX3_search_23 ic_1 ?_
  refine gw_istore (lo' := [(0, .inr v0), (1, .inr v1), (2, .inr v2), (3, .inr v3), (4, .inl v4), (5, .inl v5), (6, .inl 1)]) dX3_search_24 (by decide) rfl ?_
  refine gw_aload_n (q := 0) dX3_search_26 rfl rfl ?_
  refine gw_gI fX3_61 dX3_search_27 ((((g1.up (n_w2 e3)).up (n_w1 e4)).up n5).up n6) ?_
  refine gw_iconst (v := 1) dX3_search_30 ic_1 ?_
  refine gw_isub dX3_search_31 ?_
  refine gw_istore (lo' := [(0, .inr v0), (1, .inr v1), (2, .inr v2), (3, .inr v3), (4, .inl v4), (5, .inl v5), (6, .inl 1), (7, .inl ((σ6.2.1 v0 11) - 1))]) dX3_search_32 (by decide) rfl ?_
  exact h
set_option maxHeartbeats 4000000 in
set_option maxRecDepth 20000 in
theorem gX3_aim_16 {l : Launch} {v0 : Nat} {v1 : Nat} {v2 : Nat} {v3 : Int32} {v4 : Int32} {σ : Sg} {K : Sg → Prop} (h : Ob σ v0 3 ∧ (((σ.2.1 v0 11) ≤ v4 → K σ) ∧ (¬ (σ.2.1 v0 11) ≤ v4 → ((40 ≤ v4 → K σ) ∧ (¬ 40 ≤ v4 → Ob σ v1 9 ∧ Con l mX9_poseAt [.inr v1, .inl v4] σ (PI (fun x4 σ4 => Ob σ4 v2 0 ∧ Con l mX0_tipX [.inr v2, .inl x4] σ4 (PI (fun x6 σ6 => Ai σ6 (σ4.2.2 v0 7) v4 ∧ ∀ σ9, σ9 = w1 σ6 (σ4.2.2 v0 7) v4.toNatClampNeg (x6 + (v3 * v4)) → Con l mX0_tipY [.inr v2, .inl x4] σ9 (PI (fun x10 σ10 => Ai σ10 (σ9.2.2 v0 8) v4 ∧ ∀ σ12, σ12 = w1 σ10 (σ9.2.2 v0 8) v4.toNatClampNeg x10 → GW l mX3_aim 16 [(0, .inr v0), (1, .inr v1), (2, .inr v2), (3, .inl v3), (4, .inl (v4 + 1))] [] σ12 0 0 (PV K)))))))))))) : GW l mX3_aim 16 [(0, .inr v0), (1, .inr v1), (2, .inr v2), (3, .inl v3), (4, .inl v4)] [] σ 0 0 (PV K) := by
  refine gw_iload (q := 4) dX3_aim_16 rfl ?_
  refine gw_aload_n (q := 0) dX3_aim_18 rfl rfl ?_
  obtain ⟨g1, h⟩ := h
  refine gw_gI fX3_61 dX3_aim_19 g1 ?_
  refine gw_icmp_ge (tgt := 77) dX3_aim_22 (by decide) (fun c2 => ?_) (fun c2 => ?_)
  · replace h := h.1 c2
    exact gw_rV dX3_aim_77 rfl (by decide) (by decide) h
  · replace h := h.2 c2
    refine gw_iload (q := 4) dX3_aim_25 rfl ?_
    refine gw_bipush (v := 40) dX3_aim_27 bp_40 ?_
    refine gw_icmp_ge (tgt := 77) dX3_aim_29 (by decide) (fun c3 => ?_) (fun c3 => ?_)
    · replace h := h.1 c3
      exact gw_rV dX3_aim_77 rfl (by decide) (by decide) h
    · replace h := h.2 c3
      refine gw_aload_n (q := 1) dX3_aim_32 rfl rfl ?_
      refine gw_iload (q := 4) dX3_aim_33 rfl ?_
      obtain ⟨g5, h⟩ := h
      refine gw_vC (bs := [.inl v4]) (st := []) (vmX9_poseAt) lX3_83 dX3_aim_35 ⟨by decide, rfl, rfl, by decide, by decide⟩ (Nat.le_of_ble_eq_true rfl) rfl rfl g5 h (kI (fun x4 σ4 h n4 => ?_))
      refine gw_istore (lo' := [(0, .inr v0), (1, .inr v1), (2, .inr v2), (3, .inl v3), (4, .inl v4), (5, .inl x4)]) dX3_aim_38 (by decide) rfl ?_
      refine gw_aload_n (q := 0) dX3_aim_40 rfl rfl ?_
      refine gw_gR fX3_34 dX3_aim_41 (g1.up n4) ?_
      refine gw_iload (q := 4) dX3_aim_44 rfl ?_
      refine gw_aload_n (q := 2) dX3_aim_46 rfl rfl ?_
      refine gw_iload (q := 5) dX3_aim_47 rfl ?_
      obtain ⟨g7, h⟩ := h
      refine gw_vC (bs := [.inl x4]) (st := [.inl v4, .inr (σ4.2.2 v0 7)]) (vmX0_tipX) lX3_87 dX3_aim_49 ⟨by decide, rfl, rfl, by decide, by decide⟩ (Nat.le_of_ble_eq_true rfl) rfl rfl g7 h (kI (fun x6 σ6 h n6 => ?_))
      refine gw_iload_n (q := 3) dX3_aim_52 rfl rfl ?_
      refine gw_iload (q := 4) dX3_aim_53 rfl ?_
      refine gw_imul dX3_aim_55 ?_
      refine gw_iadd dX3_aim_56 ?_
      obtain ⟨g8, h⟩ := h
      refine gw_sI dX3_aim_57 g8 (fun σ9 e9 => ?_)
      replace h := h σ9 e9
      refine gw_aload_n (q := 0) dX3_aim_58 rfl rfl ?_
      refine gw_gR fX3_37 dX3_aim_59 (((g1.up n4).up n6).up (n_w1 e9)) ?_
      refine gw_iload (q := 4) dX3_aim_62 rfl ?_
      refine gw_aload_n (q := 2) dX3_aim_64 rfl rfl ?_
      refine gw_iload (q := 5) dX3_aim_65 rfl ?_
      refine gw_vC (bs := [.inl x4]) (st := [.inl v4, .inr (σ9.2.2 v0 8)]) (vmX0_tipY) lX3_90 dX3_aim_67 ⟨by decide, rfl, rfl, by decide, by decide⟩ (Nat.le_of_ble_eq_true rfl) rfl rfl ((g7.up n6).up (n_w1 e9)) h (kI (fun x10 σ10 h n10 => ?_))
      obtain ⟨g11, h⟩ := h
      refine gw_sI dX3_aim_70 g11 (fun σ12 e12 => ?_)
      replace h := h σ12 e12
      refine gw_inc (lo' := [(0, .inr v0), (1, .inr v1), (2, .inr v2), (3, .inl v3), (4, .inl (v4 + 1)), (5, .inl x4)]) (q := 4) (c := 1) dX3_aim_71 ic_1 rfl (by decide) rfl ?_
      refine gw_goto (tgt := 16) dX3_aim_74 (by decide) ?_
      refine gw_pick [0, 1, 2, 3, 4] rfl ?_
      exact h
set_option maxHeartbeats 4000000 in
set_option maxRecDepth 20000 in
theorem eX3_aim {l : Launch} {v0 : Nat} {v1 : Nat} {v2 : Nat} {v3 : Int32} {σ : Sg} {K : Sg → Prop} (h : Ob σ v1 9 ∧ Con l mJ9_min_7cf53 [.inl (σ.2.1 v1 3), .inl 40] σ (PI (fun x2 σ2 => Ob σ2 v0 3 ∧ ∀ σ4, σ4 = w1 σ2 v0 11 x2 → GW l mX3_aim 16 [(0, .inr v0), (1, .inr v1), (2, .inr v2), (3, .inl v3), (4, .inl 0)] [] σ4 0 0 (PV K)))) : Con l mX3_aim [.inr v0, .inr v1, .inr v2, .inl v3] σ (PV K) := by
  refine con_gw rfl (Nat.le_of_ble_eq_true rfl) ?_
  show GW l mX3_aim 0 [(0, .inr v0), (1, .inr v1), (2, .inr v2), (3, .inl v3)] [] σ 0 0 (PV K)
  refine gw_aload_n (q := 0) dX3_aim_0 rfl rfl ?_
  refine gw_aload_n (q := 1) dX3_aim_1 rfl rfl ?_
  obtain ⟨g1, h⟩ := h
  refine gw_gI fX3_74 dX3_aim_2 g1 ?_
  refine gw_bipush (v := 40) dX3_aim_5 bp_40 ?_
  refine gw_sC (bs := [.inl (σ.2.1 v1 3), .inl 40]) (st := [.inr v0]) smJ9_min_7cf53 lX3_77 dX3_aim_7 ⟨by decide, rfl, rfl, by decide, by decide⟩ (Nat.le_of_ble_eq_true rfl) rfl rfl h (kI (fun x2 σ2 h n2 => ?_))
  obtain ⟨g3, h⟩ := h
  refine gw_pI fX3_61 dX3_aim_10 g3 (fun σ4 e4 => ?_)
  replace h := h σ4 e4
  refine gw_iconst (v := 0) dX3_aim_13 ic_0 ?_
  refine gw_istore (lo' := [(0, .inr v0), (1, .inr v1), (2, .inr v2), (3, .inl v3), (4, .inl 0)]) dX3_aim_14 (by decide) rfl ?_
  exact h
set_option maxHeartbeats 4000000 in
set_option maxRecDepth 20000 in
theorem gX3_trace_4 {l : Launch} {v0 : Nat} {v1 : Int32} {v2 : Int32} {σ : Sg} {K : Sg → Prop} (h : Ob σ v0 3 ∧ (((σ.2.1 v0 11) ≤ v2 → K σ) ∧ (¬ (σ.2.1 v0 11) ≤ v2 → ((40 ≤ v2 → K σ) ∧ (¬ 40 ≤ v2 → ((¬ v2 = 0 → Con l mX3_seekNear [.inr v0, .inl v2, .inl v1] σ (PV (fun σ5 => Ai σ5 (σ5.2.2 v0 9) v2 ∧ ∀ σ7, σ7 = w1 σ5 (σ5.2.2 v0 9) v2.toNatClampNeg (σ5.2.1 v0 16) → GW l mX3_trace 4 [(0, .inr v0), (1, .inl (σ5.2.1 v0 16)), (2, .inl (v2 + 1))] [] σ7 0 0 (PV K)))) ∧ (v2 = 0 → Con l mX3_seekStart [.inr v0] σ (PV (fun σ8 => ∀ σ9, σ9 = w1 σ8 v0 18 (σ8.2.1 v0 15) → Ai σ9 (σ9.2.2 v0 9) v2 ∧ ∀ σ11, σ11 = w1 σ9 (σ9.2.2 v0 9) v2.toNatClampNeg (σ9.2.1 v0 16) → GW l mX3_trace 4 [(0, .inr v0), (1, .inl (σ9.2.1 v0 16)), (2, .inl (v2 + 1))] [] σ11 0 0 (PV K)))))))))) : GW l mX3_trace 4 [(0, .inr v0), (1, .inl v1), (2, .inl v2)] [] σ 0 0 (PV K) := by
  refine gw_iload_n (q := 2) dX3_trace_4 rfl rfl ?_
  refine gw_aload_n (q := 0) dX3_trace_5 rfl rfl ?_
  obtain ⟨g1, h⟩ := h
  refine gw_gI fX3_61 dX3_trace_6 g1 ?_
  refine gw_icmp_ge (tgt := 61) dX3_trace_9 (by decide) (fun c2 => ?_) (fun c2 => ?_)
  · replace h := h.1 c2
    exact gw_rV dX3_trace_61 rfl (by decide) (by decide) h
  · replace h := h.2 c2
    refine gw_iload_n (q := 2) dX3_trace_12 rfl rfl ?_
    refine gw_bipush (v := 40) dX3_trace_13 bp_40 ?_
    refine gw_icmp_ge (tgt := 61) dX3_trace_15 (by decide) (fun c3 => ?_) (fun c3 => ?_)
    · replace h := h.1 c3
      exact gw_rV dX3_trace_61 rfl (by decide) (by decide) h
    · replace h := h.2 c3
      refine gw_iload_n (q := 2) dX3_trace_18 rfl rfl ?_
      refine gw_if_ne (tgt := 37) dX3_trace_19 (by decide) (fun c4 => ?_) (fun c4 => ?_)
      · replace h := h.1 c4
        refine gw_aload_n (q := 0) dX3_trace_37 rfl rfl ?_
        refine gw_iload_n (q := 2) dX3_trace_38 rfl rfl ?_
        refine gw_iload_n (q := 1) dX3_trace_39 rfl rfl ?_
        refine gw_vC (bs := [.inl v2, .inl v1]) (st := []) (vmX3_seekNear) lX3_102 dX3_trace_40 ⟨by decide, rfl, rfl, by decide, by decide⟩ (Nat.le_of_ble_eq_true rfl) rfl rfl g1 h (kV (fun σ5 h n5 => ?_))
        refine gw_aload_n (q := 0) dX3_trace_43 rfl rfl ?_
        refine gw_gI fX3_106 dX3_trace_44 (g1.up n5) ?_
        refine gw_istore_n (lo' := [(0, .inr v0), (1, .inl (σ5.2.1 v0 16)), (2, .inl v2)]) dX3_trace_47 rfl (by decide) rfl ?_
        refine gw_aload_n (q := 0) dX3_trace_48 rfl rfl ?_
        refine gw_gR fX3_40 dX3_trace_49 (g1.up n5) ?_
        refine gw_iload_n (q := 2) dX3_trace_52 rfl rfl ?_
        refine gw_iload_n (q := 1) dX3_trace_53 rfl rfl ?_
        obtain ⟨g6, h⟩ := h
        refine gw_sI dX3_trace_54 g6 (fun σ7 e7 => ?_)
        replace h := h σ7 e7
        refine gw_inc (lo' := [(0, .inr v0), (1, .inl (σ5.2.1 v0 16)), (2, .inl (v2 + 1))]) (q := 2) (c := 1) dX3_trace_55 ic_1 rfl (by decide) rfl ?_
        refine gw_goto (tgt := 4) dX3_trace_58 (by decide) ?_
        exact h
      · replace h := h.2 c4
        refine gw_aload_n (q := 0) dX3_trace_22 rfl rfl ?_
        refine gw_vC (bs := []) (st := []) (vmX3_seekStart) lX3_93 dX3_trace_23 ⟨by decide, rfl, rfl, by decide, by decide⟩ (Nat.le_of_ble_eq_true rfl) rfl rfl g1 h (kV (fun σ8 h n8 => ?_))
        refine gw_aload_n (q := 0) dX3_trace_26 rfl rfl ?_
        refine gw_aload_n (q := 0) dX3_trace_27 rfl rfl ?_
        refine gw_gI fX3_96 dX3_trace_28 (g1.up n8) ?_
        refine gw_pI fX3_99 dX3_trace_31 (g1.up n8) (fun σ9 e9 => ?_)
        replace h := h σ9 e9
        refine gw_goto (tgt := 43) dX3_trace_34 (by decide) ?_
        refine gw_aload_n (q := 0) dX3_trace_43 rfl rfl ?_
        refine gw_gI fX3_106 dX3_trace_44 ((g1.up n8).up (n_w1 e9)) ?_
        refine gw_istore_n (lo' := [(0, .inr v0), (1, .inl (σ9.2.1 v0 16)), (2, .inl v2)]) dX3_trace_47 rfl (by decide) rfl ?_
        refine gw_aload_n (q := 0) dX3_trace_48 rfl rfl ?_
        refine gw_gR fX3_40 dX3_trace_49 ((g1.up n8).up (n_w1 e9)) ?_
        refine gw_iload_n (q := 2) dX3_trace_52 rfl rfl ?_
        refine gw_iload_n (q := 1) dX3_trace_53 rfl rfl ?_
        obtain ⟨g10, h⟩ := h
        refine gw_sI dX3_trace_54 g10 (fun σ11 e11 => ?_)
        replace h := h σ11 e11
        refine gw_inc (lo' := [(0, .inr v0), (1, .inl (σ9.2.1 v0 16)), (2, .inl (v2 + 1))]) (q := 2) (c := 1) dX3_trace_55 ic_1 rfl (by decide) rfl ?_
        refine gw_goto (tgt := 4) dX3_trace_58 (by decide) ?_
        exact h
set_option maxHeartbeats 4000000 in
set_option maxRecDepth 20000 in
theorem eX3_trace {l : Launch} {v0 : Nat} {σ : Sg} {K : Sg → Prop} (h : GW l mX3_trace 4 [(0, .inr v0), (1, .inl 0), (2, .inl 0)] [] σ 0 0 (PV K)) : Con l mX3_trace [.inr v0] σ (PV K) := by
  refine con_gw rfl (Nat.le_of_ble_eq_true rfl) ?_
  show GW l mX3_trace 0 [(0, .inr v0)] [] σ 0 0 (PV K)
  refine gw_iconst (v := 0) dX3_trace_0 ic_0 ?_
  refine gw_istore_n (lo' := [(0, .inr v0), (1, .inl 0)]) dX3_trace_1 rfl (by decide) rfl ?_
  refine gw_iconst (v := 0) dX3_trace_2 ic_0 ?_
  refine gw_istore_n (lo' := [(0, .inr v0), (1, .inl 0), (2, .inl 0)]) dX3_trace_3 rfl (by decide) rfl ?_
  exact h
set_option maxHeartbeats 4000000 in
set_option maxRecDepth 20000 in
theorem gX3_gatherPoses_7 {l : Launch} {v0 : Nat} {v1 : Int32} {σ : Sg} {K : Sg → Prop} (h : ((4096 ≤ v1 → K σ) ∧ (¬ 4096 ≤ v1 → Ob σ v0 3 ∧ Ob σ (σ.2.2 v0 10) 0 ∧ Con l mX0_hasPose [.inr (σ.2.2 v0 10), .inl v1] σ (PI (fun x3 σ3 => ((x3 = 0 → GW l mX3_gatherPoses 7 [(0, .inr v0), (1, .inl (v1 + 1))] [] σ3 0 0 (PV K)) ∧ (¬ x3 = 0 → ((4096 ≤ (σ3.2.1 v0 14) → GW l mX3_gatherPoses 7 [(0, .inr v0), (1, .inl (v1 + 1))] [] σ3 0 0 (PV K)) ∧ (¬ 4096 ≤ (σ3.2.1 v0 14) → Ai σ3 (σ3.2.2 v0 1) (σ3.2.1 v0 14) ∧ ∀ σ8, σ8 = w1 σ3 (σ3.2.2 v0 1) (σ3.2.1 v0 14).toNatClampNeg v1 → Ob σ8 (σ8.2.2 v0 10) 0 ∧ Con l mX0_tipX [.inr (σ8.2.2 v0 10), .inl v1] σ8 (PI (fun x9 σ9 => Ai σ9 (σ8.2.2 v0 2) (σ8.2.1 v0 14) ∧ ∀ σ12, σ12 = w1 σ9 (σ8.2.2 v0 2) (σ8.2.1 v0 14).toNatClampNeg x9 → Ob σ12 (σ12.2.2 v0 10) 0 ∧ Con l mX0_tipY [.inr (σ12.2.2 v0 10), .inl v1] σ12 (PI (fun x13 σ13 => Ai σ13 (σ12.2.2 v0 3) (σ12.2.1 v0 14) ∧ ∀ σ16, σ16 = w1 σ13 (σ12.2.2 v0 3) (σ12.2.1 v0 14).toNatClampNeg x13 → ∀ σ17, σ17 = w1 σ16 v0 14 ((σ16.2.1 v0 14) + 1) → GW l mX3_gatherPoses 7 [(0, .inr v0), (1, .inl (v1 + 1))] [] σ17 0 0 (PV K)))))))))))))) : GW l mX3_gatherPoses 7 [(0, .inr v0), (1, .inl v1)] [] σ 0 0 (PV K) := by
  refine gw_iload_n (q := 1) dX3_gatherPoses_7 rfl rfl ?_
  refine gw_sipush (v := 4096) dX3_gatherPoses_8 sp_4096 ?_
  refine gw_icmp_ge (tgt := 95) dX3_gatherPoses_11 (by decide) (fun c1 => ?_) (fun c1 => ?_)
  · replace h := h.1 c1
    exact gw_rV dX3_gatherPoses_95 rfl (by decide) (by decide) h
  · replace h := h.2 c1
    refine gw_aload_n (q := 0) dX3_gatherPoses_14 rfl rfl ?_
    obtain ⟨g2, h⟩ := h
    refine gw_gR fX3_46 dX3_gatherPoses_15 g2 ?_
    refine gw_iload_n (q := 1) dX3_gatherPoses_18 rfl rfl ?_
    obtain ⟨g4, h⟩ := h
    refine gw_vC (bs := [.inl v1]) (st := []) (vmX0_hasPose) lX3_112 dX3_gatherPoses_19 ⟨by decide, rfl, rfl, by decide, by decide⟩ (Nat.le_of_ble_eq_true rfl) rfl rfl g4 h (kI (fun x3 σ3 h n3 => ?_))
    refine gw_if_eq (tgt := 89) dX3_gatherPoses_22 (by decide) (fun c5 => ?_) (fun c5 => ?_)
    · replace h := h.1 c5
      refine gw_inc (lo' := [(0, .inr v0), (1, .inl (v1 + 1))]) (q := 1) (c := 1) dX3_gatherPoses_89 ic_1 rfl (by decide) rfl ?_
      refine gw_goto (tgt := 7) dX3_gatherPoses_92 (by decide) ?_
      exact h
    · replace h := h.2 c5
      refine gw_aload_n (q := 0) dX3_gatherPoses_25 rfl rfl ?_
      refine gw_gI fX3_109 dX3_gatherPoses_26 (g2.up n3) ?_
      refine gw_sipush (v := 4096) dX3_gatherPoses_29 sp_4096 ?_
      refine gw_icmp_ge (tgt := 89) dX3_gatherPoses_32 (by decide) (fun c6 => ?_) (fun c6 => ?_)
      · replace h := h.1 c6
        refine gw_inc (lo' := [(0, .inr v0), (1, .inl (v1 + 1))]) (q := 1) (c := 1) dX3_gatherPoses_89 ic_1 rfl (by decide) rfl ?_
        refine gw_goto (tgt := 7) dX3_gatherPoses_92 (by decide) ?_
        exact h
      · replace h := h.2 c6
        refine gw_aload_n (q := 0) dX3_gatherPoses_35 rfl rfl ?_
        refine gw_gR fX3_16 dX3_gatherPoses_36 (g2.up n3) ?_
        refine gw_aload_n (q := 0) dX3_gatherPoses_39 rfl rfl ?_
        refine gw_gI fX3_109 dX3_gatherPoses_40 (g2.up n3) ?_
        refine gw_iload_n (q := 1) dX3_gatherPoses_43 rfl rfl ?_
        obtain ⟨g7, h⟩ := h
        refine gw_sI dX3_gatherPoses_44 g7 (fun σ8 e8 => ?_)
        replace h := h σ8 e8
        refine gw_aload_n (q := 0) dX3_gatherPoses_45 rfl rfl ?_
        refine gw_gR fX3_19 dX3_gatherPoses_46 ((g2.up n3).up (n_w1 e8)) ?_
        refine gw_aload_n (q := 0) dX3_gatherPoses_49 rfl rfl ?_
        refine gw_gI fX3_109 dX3_gatherPoses_50 ((g2.up n3).up (n_w1 e8)) ?_
        refine gw_aload_n (q := 0) dX3_gatherPoses_53 rfl rfl ?_
        refine gw_gR fX3_46 dX3_gatherPoses_54 ((g2.up n3).up (n_w1 e8)) ?_
        refine gw_iload_n (q := 1) dX3_gatherPoses_57 rfl rfl ?_
        obtain ⟨g10, h⟩ := h
        refine gw_vC (bs := [.inl v1]) (st := [.inl (σ8.2.1 v0 14), .inr (σ8.2.2 v0 2)]) (vmX0_tipX) lX3_87 dX3_gatherPoses_58 ⟨by decide, rfl, rfl, by decide, by decide⟩ (Nat.le_of_ble_eq_true rfl) rfl rfl g10 h (kI (fun x9 σ9 h n9 => ?_))
        obtain ⟨g11, h⟩ := h
        refine gw_sI dX3_gatherPoses_61 g11 (fun σ12 e12 => ?_)
        replace h := h σ12 e12
        refine gw_aload_n (q := 0) dX3_gatherPoses_62 rfl rfl ?_
        refine gw_gR fX3_22 dX3_gatherPoses_63 ((((g2.up n3).up (n_w1 e8)).up n9).up (n_w1 e12)) ?_
        refine gw_aload_n (q := 0) dX3_gatherPoses_66 rfl rfl ?_
        refine gw_gI fX3_109 dX3_gatherPoses_67 ((((g2.up n3).up (n_w1 e8)).up n9).up (n_w1 e12)) ?_
        refine gw_aload_n (q := 0) dX3_gatherPoses_70 rfl rfl ?_
        refine gw_gR fX3_46 dX3_gatherPoses_71 ((((g2.up n3).up (n_w1 e8)).up n9).up (n_w1 e12)) ?_
        refine gw_iload_n (q := 1) dX3_gatherPoses_74 rfl rfl ?_
        obtain ⟨g14, h⟩ := h
        refine gw_vC (bs := [.inl v1]) (st := [.inl (σ12.2.1 v0 14), .inr (σ12.2.2 v0 3)]) (vmX0_tipY) lX3_90 dX3_gatherPoses_75 ⟨by decide, rfl, rfl, by decide, by decide⟩ (Nat.le_of_ble_eq_true rfl) rfl rfl g14 h (kI (fun x13 σ13 h n13 => ?_))
        obtain ⟨g15, h⟩ := h
        refine gw_sI dX3_gatherPoses_78 g15 (fun σ16 e16 => ?_)
        replace h := h σ16 e16
        refine gw_aload_n (q := 0) dX3_gatherPoses_79 rfl rfl ?_
        refine gw_dup dX3_gatherPoses_80 ?_
        refine gw_gI fX3_109 dX3_gatherPoses_81 ((((((g2.up n3).up (n_w1 e8)).up n9).up (n_w1 e12)).up n13).up (n_w1 e16)) ?_
        refine gw_iconst (v := 1) dX3_gatherPoses_84 ic_1 ?_
        refine gw_iadd dX3_gatherPoses_85 ?_
        refine gw_pI fX3_109 dX3_gatherPoses_86 ((((((g2.up n3).up (n_w1 e8)).up n9).up (n_w1 e12)).up n13).up (n_w1 e16)) (fun σ17 e17 => ?_)
        replace h := h σ17 e17
        refine gw_inc (lo' := [(0, .inr v0), (1, .inl (v1 + 1))]) (q := 1) (c := 1) dX3_gatherPoses_89 ic_1 rfl (by decide) rfl ?_
        refine gw_goto (tgt := 7) dX3_gatherPoses_92 (by decide) ?_
        exact h
set_option maxHeartbeats 4000000 in
set_option maxRecDepth 20000 in
theorem eX3_gatherPoses {l : Launch} {v0 : Nat} {σ : Sg} {K : Sg → Prop} (h : Ob σ v0 3 ∧ ∀ σ2, σ2 = w1 σ v0 14 0 → GW l mX3_gatherPoses 7 [(0, .inr v0), (1, .inl 0)] [] σ2 0 0 (PV K)) : Con l mX3_gatherPoses [.inr v0] σ (PV K) := by
  refine con_gw rfl (Nat.le_of_ble_eq_true rfl) ?_
  show GW l mX3_gatherPoses 0 [(0, .inr v0)] [] σ 0 0 (PV K)
  refine gw_aload_n (q := 0) dX3_gatherPoses_0 rfl rfl ?_
  refine gw_iconst (v := 0) dX3_gatherPoses_1 ic_0 ?_
  obtain ⟨g1, h⟩ := h
  refine gw_pI fX3_109 dX3_gatherPoses_2 g1 (fun σ2 e2 => ?_)
  replace h := h σ2 e2
  refine gw_iconst (v := 0) dX3_gatherPoses_5 ic_0 ?_
  refine gw_istore_n (lo' := [(0, .inr v0), (1, .inl 0)]) dX3_gatherPoses_6 rfl (by decide) rfl ?_
  exact h
set_option maxHeartbeats 4000000 in
set_option maxRecDepth 20000 in
theorem gX3_fillTick_107 {l : Launch} {v0 : Nat} {v1 : Int32} {v2 : Int32} {v3 : Int32} {v4 : Int32} {v5 : Int32} {v6 : Int32} {v7 : Int32} {σ : Sg} {K : Int32 → Sg → Prop} (h : Ob σ v0 3 ∧ Con l mX3_setWay [.inr v0, .inl v1, .inl v6, .inl v7] σ (PV (fun σ1 => ((¬ v3 = 0 → GW l mX3_fillTick 39 [(0, .inr v0), (1, .inl v1), (2, .inl v2), (3, .inl 1), (4, .inl v4), (5, .inl (v5 + 1))] [] σ1 0 0 (PI K)) ∧ (v3 = 0 → ((1000000 ≤ v7 → GW l mX3_fillTick 39 [(0, .inr v0), (1, .inl v1), (2, .inl v2), (3, .inl 0), (4, .inl v4), (5, .inl (v5 + 1))] [] σ1 0 0 (PI K)) ∧ (¬ 1000000 ≤ v7 → GW l mX3_fillTick 39 [(0, .inr v0), (1, .inl v1), (2, .inl v2), (3, .inl 1), (4, .inl v4), (5, .inl (v5 + 1))] [] σ1 0 0 (PI K)))))))) : GW l mX3_fillTick 107 [(0, .inr v0), (1, .inl v1), (2, .inl v2), (3, .inl v3), (4, .inl v4), (5, .inl v5), (6, .inl v6), (7, .inl v7)] [] σ 0 0 (PI K) := by
  refine gw_aload_n (q := 0) dX3_fillTick_107 rfl rfl ?_
  refine gw_iload_n (q := 1) dX3_fillTick_108 rfl rfl ?_
  refine gw_iload (q := 6) dX3_fillTick_109 rfl ?_
  refine gw_iload (q := 7) dX3_fillTick_111 rfl ?_
  obtain ⟨g2, h⟩ := h
  refine gw_vC (bs := [.inl v1, .inl v6, .inl v7]) (st := []) (vmX3_setWay) lX3_130 dX3_fillTick_113 ⟨by decide, rfl, rfl, by decide, by decide⟩ (Nat.le_of_ble_eq_true rfl) rfl rfl g2 h (kV (fun σ1 h n1 => ?_))
  refine gw_iload_n (q := 3) dX3_fillTick_116 rfl rfl ?_
  refine gw_if_ne (tgt := 127) dX3_fillTick_117 (by decide) (fun c3 => ?_) (fun c3 => ?_)
  · replace h := h.1 c3
    refine gw_iconst (v := 1) dX3_fillTick_127 ic_1 ?_
    refine gw_goto (tgt := 132) dX3_fillTick_128 (by decide) ?_
    refine gw_istore_n (lo' := [(0, .inr v0), (1, .inl v1), (2, .inl v2), (3, .inl 1), (4, .inl v4), (5, .inl v5), (6, .inl v6), (7, .inl v7)]) dX3_fillTick_132 rfl (by decide) rfl ?_
    refine gw_inc (lo' := [(0, .inr v0), (1, .inl v1), (2, .inl v2), (3, .inl 1), (4, .inl v4), (5, .inl (v5 + 1)), (6, .inl v6), (7, .inl v7)]) (q := 5) (c := 1) dX3_fillTick_133 ic_1 rfl (by decide) rfl ?_
    refine gw_goto (tgt := 39) dX3_fillTick_136 (by decide) ?_
    refine gw_pick [0, 1, 2, 3, 4, 5] rfl ?_
    exact h
  · replace h := h.2 c3
    refine gw_iload (q := 7) dX3_fillTick_120 rfl ?_
    refine gw_ldc (v := 1000000) kX3_134 dX3_fillTick_122 ?_
    refine gw_icmp_ge (tgt := 131) dX3_fillTick_124 (by decide) (fun c4 => ?_) (fun c4 => ?_)
    · replace h := h.1 c4
      refine gw_iconst (v := 0) dX3_fillTick_131 ic_0 ?_
      refine gw_istore_n (lo' := [(0, .inr v0), (1, .inl v1), (2, .inl v2), (3, .inl 0), (4, .inl v4), (5, .inl v5), (6, .inl v6), (7, .inl v7)]) dX3_fillTick_132 rfl (by decide) rfl ?_
      refine gw_inc (lo' := [(0, .inr v0), (1, .inl v1), (2, .inl v2), (3, .inl 0), (4, .inl v4), (5, .inl (v5 + 1)), (6, .inl v6), (7, .inl v7)]) (q := 5) (c := 1) dX3_fillTick_133 ic_1 rfl (by decide) rfl ?_
      refine gw_goto (tgt := 39) dX3_fillTick_136 (by decide) ?_
      refine gw_pick [0, 1, 2, 3, 4, 5] rfl ?_
      exact h
    · replace h := h.2 c4
      refine gw_iconst (v := 1) dX3_fillTick_127 ic_1 ?_
      refine gw_goto (tgt := 132) dX3_fillTick_128 (by decide) ?_
      refine gw_istore_n (lo' := [(0, .inr v0), (1, .inl v1), (2, .inl v2), (3, .inl 1), (4, .inl v4), (5, .inl v5), (6, .inl v6), (7, .inl v7)]) dX3_fillTick_132 rfl (by decide) rfl ?_
      refine gw_inc (lo' := [(0, .inr v0), (1, .inl v1), (2, .inl v2), (3, .inl 1), (4, .inl v4), (5, .inl (v5 + 1)), (6, .inl v6), (7, .inl v7)]) (q := 5) (c := 1) dX3_fillTick_133 ic_1 rfl (by decide) rfl ?_
      refine gw_goto (tgt := 39) dX3_fillTick_136 (by decide) ?_
      refine gw_pick [0, 1, 2, 3, 4, 5] rfl ?_
      exact h
set_option maxHeartbeats 4000000 in
set_option maxRecDepth 20000 in
theorem gX3_fillTick_39 {l : Launch} {v0 : Nat} {v1 : Int32} {v2 : Int32} {v3 : Int32} {v4 : Int32} {v5 : Int32} {σ : Sg} {K : Int32 → Sg → Prop} (h : Ob σ v0 3 ∧ (((σ.2.1 v0 13) ≤ v5 → (v3 = 0 ∨ v3 = 1) ∧ K v3 σ) ∧ (¬ (σ.2.1 v0 13) ≤ v5 → ((4096 ≤ v5 → (v3 = 0 ∨ v3 = 1) ∧ K v3 σ) ∧ (¬ 4096 ≤ v5 → Ai σ (σ.2.2 v0 4) v5 ∧ ((v4 = 0 → ((v2 = (-1) → GW l mX3_fillTick 107 [(0, .inr v0), (1, .inl v1), (2, .inl v2), (3, .inl v3), (4, .inl v4), (5, .inl v5), (6, .inl ((σ.2.1 (σ.2.2 v0 4) v5.toNatClampNeg) &&& 4095)), (7, .inl 0)] [] σ 0 0 (PI K)) ∧ (¬ v2 = (-1) → Con l mX3_seekNear [.inr v0, .inl v2, .inl ((σ.2.1 (σ.2.2 v0 4) v5.toNatClampNeg) &&& 4095)] σ (PV (fun σ9 => GW l mX3_fillTick 107 [(0, .inr v0), (1, .inl v1), (2, .inl v2), (3, .inl v3), (4, .inl v4), (5, .inl v5), (6, .inl ((σ.2.1 (σ.2.2 v0 4) v5.toNatClampNeg) &&& 4095)), (7, .inl (σ9.2.1 v0 15))] [] σ9 0 0 (PI K)))))) ∧ (¬ v4 = 0 → Ai σ (σ.2.2 v0 5) ((σ.2.1 (σ.2.2 v0 4) v5.toNatClampNeg) &&& 4095) ∧ GW l mX3_fillTick 107 [(0, .inr v0), (1, .inl v1), (2, .inl v2), (3, .inl v3), (4, .inl v4), (5, .inl v5), (6, .inl ((σ.2.1 (σ.2.2 v0 4) v5.toNatClampNeg) &&& 4095)), (7, .inl (σ.2.1 (σ.2.2 v0 5) ((σ.2.1 (σ.2.2 v0 4) v5.toNatClampNeg) &&& 4095).toNatClampNeg))] [] σ 0 0 (PI K)))))))) : GW l mX3_fillTick 39 [(0, .inr v0), (1, .inl v1), (2, .inl v2), (3, .inl v3), (4, .inl v4), (5, .inl v5)] [] σ 0 0 (PI K) := by
  refine gw_iload (q := 5) dX3_fillTick_39 rfl ?_
  refine gw_aload_n (q := 0) dX3_fillTick_41 rfl rfl ?_
  obtain ⟨g1, h⟩ := h
  refine gw_gI fX3_127 dX3_fillTick_42 g1 ?_
  refine gw_icmp_ge (tgt := 139) dX3_fillTick_45 (by decide) (fun c2 => ?_) (fun c2 => ?_)
  · replace h := h.1 c2
    refine gw_iload_n (q := 3) dX3_fillTick_139 rfl rfl ?_
    obtain ⟨z3, h⟩ := h
    exact gw_rZ dX3_fillTick_140 rfl z3 (by decide) (by decide) h
  · replace h := h.2 c2
    refine gw_iload (q := 5) dX3_fillTick_48 rfl ?_
    refine gw_sipush (v := 4096) dX3_fillTick_50 sp_4096 ?_
    refine gw_icmp_ge (tgt := 139) dX3_fillTick_53 (by decide) (fun c4 => ?_) (fun c4 => ?_)
    · replace h := h.1 c4
      refine gw_iload_n (q := 3) dX3_fillTick_139 rfl rfl ?_
      obtain ⟨z5, h⟩ := h
      exact gw_rZ dX3_fillTick_140 rfl z5 (by decide) (by decide) h
    · replace h := h.2 c4
      refine gw_aload_n (q := 0) dX3_fillTick_56 rfl rfl ?_
      refine gw_gR fX3_25 dX3_fillTick_57 g1 ?_
      refine gw_iload (q := 5) dX3_fillTick_60 rfl ?_
      obtain ⟨g6, h⟩ := h
      refine gw_aI dX3_fillTick_62 g6 ?_
      refine gw_sipush (v := 4095) dX3_fillTick_63 sp_4095 ?_
      refine gw_iand dX3_fillTick_66 ?_
      refine gw_istore (lo' := [(0, .inr v0), (1, .inl v1), (2, .inl v2), (3, .inl v3), (4, .inl v4), (5, .inl v5), (6, .inl ((σ.2.1 (σ.2.2 v0 4) v5.toNatClampNeg) &&& 4095))]) dX3_fillTick_67 (by decide) rfl ?_
      refine gw_iconst (v := 0) dX3_fillTick_69 ic_0 ?_
      refine gw_istore (lo' := [(0, .inr v0), (1, .inl v1), (2, .inl v2), (3, .inl v3), (4, .inl v4), (5, .inl v5), (6, .inl ((σ.2.1 (σ.2.2 v0 4) v5.toNatClampNeg) &&& 4095)), (7, .inl 0)]) dX3_fillTick_70 (by decide) rfl ?_
      refine gw_iload (q := 4) dX3_fillTick_72 rfl ?_
      refine gw_if_eq (tgt := 89) dX3_fillTick_74 (by decide) (fun c7 => ?_) (fun c7 => ?_)
      · replace h := h.1 c7
        refine gw_iload_n (q := 2) dX3_fillTick_89 rfl rfl ?_
        refine gw_iconst (v := (-1)) dX3_fillTick_90 ic_m1 ?_
        refine gw_icmp_eq (tgt := 107) dX3_fillTick_91 (by decide) (fun c8 => ?_) (fun c8 => ?_)
        · replace h := h.1 c8
          exact h
        · replace h := h.2 c8
          refine gw_aload_n (q := 0) dX3_fillTick_94 rfl rfl ?_
          refine gw_iload_n (q := 2) dX3_fillTick_95 rfl rfl ?_
          refine gw_iload (q := 6) dX3_fillTick_96 rfl ?_
          refine gw_vC (bs := [.inl v2, .inl ((σ.2.1 (σ.2.2 v0 4) v5.toNatClampNeg) &&& 4095)]) (st := []) (vmX3_seekNear) lX3_102 dX3_fillTick_98 ⟨by decide, rfl, rfl, by decide, by decide⟩ (Nat.le_of_ble_eq_true rfl) rfl rfl g1 h (kV (fun σ9 h n9 => ?_))
          refine gw_aload_n (q := 0) dX3_fillTick_101 rfl rfl ?_
          refine gw_gI fX3_96 dX3_fillTick_102 (g1.up n9) ?_
          refine gw_istore (lo' := [(0, .inr v0), (1, .inl v1), (2, .inl v2), (3, .inl v3), (4, .inl v4), (5, .inl v5), (6, .inl ((σ.2.1 (σ.2.2 v0 4) v5.toNatClampNeg) &&& 4095)), (7, .inl (σ9.2.1 v0 15))]) dX3_fillTick_105 (by decide) rfl ?_
          exact h
      · replace h := h.2 c7
        refine gw_aload_n (q := 0) dX3_fillTick_77 rfl rfl ?_
        refine gw_gR fX3_28 dX3_fillTick_78 g1 ?_
        refine gw_iload (q := 6) dX3_fillTick_81 rfl ?_
        obtain ⟨g10, h⟩ := h
        refine gw_aI dX3_fillTick_83 g10 ?_
        refine gw_istore (lo' := [(0, .inr v0), (1, .inl v1), (2, .inl v2), (3, .inl v3), (4, .inl v4), (5, .inl v5), (6, .inl ((σ.2.1 (σ.2.2 v0 4) v5.toNatClampNeg) &&& 4095)), (7, .inl (σ.2.1 (σ.2.2 v0 5) ((σ.2.1 (σ.2.2 v0 4) v5.toNatClampNeg) &&& 4095).toNatClampNeg))]) dX3_fillTick_84 (by decide) rfl ?_
        refine gw_goto (tgt := 107) dX3_fillTick_86 (by decide) ?_
        exact h
set_option maxHeartbeats 4000000 in
set_option maxRecDepth 20000 in
theorem gX3_fillTick_24 {l : Launch} {v0 : Nat} {v1 : Int32} {v2 : Int32} {v3 : Int32} {t0 : Int32} {σ : Sg} {K : Int32 → Sg → Prop} (h : ((t0 = 0 → GW l mX3_fillTick 39 [(0, .inr v0), (1, .inl v1), (2, .inl v2), (3, .inl v3), (4, .inl t0), (5, .inl 0)] [] σ 0 0 (PI K)) ∧ (¬ t0 = 0 → Ob σ v0 3 ∧ Con l mX3_spreadTick [.inr v0, .inl v2] σ (PV (fun σ2 => GW l mX3_fillTick 39 [(0, .inr v0), (1, .inl v1), (2, .inl v2), (3, .inl v3), (4, .inl t0), (5, .inl 0)] [] σ2 0 0 (PI K)))))) : GW l mX3_fillTick 24 [(0, .inr v0), (1, .inl v1), (2, .inl v2), (3, .inl v3)] [.inl t0] σ 0 0 (PI K) := by
  refine gw_istore (lo' := [(0, .inr v0), (1, .inl v1), (2, .inl v2), (3, .inl v3), (4, .inl t0)]) dX3_fillTick_24 (by decide) rfl ?_
  refine gw_iload (q := 4) dX3_fillTick_26 rfl ?_
  refine gw_if_eq (tgt := 36) dX3_fillTick_28 (by decide) (fun c1 => ?_) (fun c1 => ?_)
  · replace h := h.1 c1
    refine gw_iconst (v := 0) dX3_fillTick_36 ic_0 ?_
    refine gw_istore (lo' := [(0, .inr v0), (1, .inl v1), (2, .inl v2), (3, .inl v3), (4, .inl t0), (5, .inl 0)]) dX3_fillTick_37 (by decide) rfl ?_
    exact h
  · replace h := h.2 c1
    refine gw_aload_n (q := 0) dX3_fillTick_31 rfl rfl ?_
    refine gw_iload_n (q := 2) dX3_fillTick_32 rfl rfl ?_
    obtain ⟨g3, h⟩ := h
    refine gw_vC (bs := [.inl v2]) (st := []) (vmX3_spreadTick) lX3_124 dX3_fillTick_33 ⟨by decide, rfl, rfl, by decide, by decide⟩ (Nat.le_of_ble_eq_true rfl) rfl rfl g3 h (kV (fun σ2 h n2 => ?_))
    refine gw_iconst (v := 0) dX3_fillTick_36 ic_0 ?_
    refine gw_istore (lo' := [(0, .inr v0), (1, .inl v1), (2, .inl v2), (3, .inl v3), (4, .inl t0), (5, .inl 0)]) dX3_fillTick_37 (by decide) rfl ?_
    exact h
set_option maxHeartbeats 4000000 in
set_option maxRecDepth 20000 in
theorem eX3_fillTick {l : Launch} {v0 : Nat} {v1 : Int32} {v2 : Int32} {σ : Sg} {K : Int32 → Sg → Prop} (h : Ob σ v0 3 ∧ Con l mX3_gatherNear [.inr v0, .inl v1] σ (PV (fun σ1 => ((v2 = (-1) → GW l mX3_fillTick 24 [(0, .inr v0), (1, .inl v1), (2, .inl v2), (3, .inl 0)] [.inl 0] σ1 0 0 (PI K)) ∧ (¬ v2 = (-1) → Con l mX3_isSpreadCheaper [.inr v0] σ1 (PI (fun x4 σ4 => ((x4 = 0 → GW l mX3_fillTick 24 [(0, .inr v0), (1, .inl v1), (2, .inl v2), (3, .inl 0)] [.inl 0] σ4 0 0 (PI K)) ∧ (¬ x4 = 0 → GW l mX3_fillTick 24 [(0, .inr v0), (1, .inl v1), (2, .inl v2), (3, .inl 0)] [.inl 1] σ4 0 0 (PI K)))))))))) : Con l mX3_fillTick [.inr v0, .inl v1, .inl v2] σ (PI K) := by
  refine con_gw rfl (Nat.le_of_ble_eq_true rfl) ?_
  show GW l mX3_fillTick 0 [(0, .inr v0), (1, .inl v1), (2, .inl v2)] [] σ 0 0 (PI K)
  refine gw_aload_n (q := 0) dX3_fillTick_0 rfl rfl ?_
  refine gw_iload_n (q := 1) dX3_fillTick_1 rfl rfl ?_
  obtain ⟨g2, h⟩ := h
  refine gw_vC (bs := [.inl v1]) (st := []) (vmX3_gatherNear) lX3_116 dX3_fillTick_2 ⟨by decide, rfl, rfl, by decide, by decide⟩ (Nat.le_of_ble_eq_true rfl) rfl rfl g2 h (kV (fun σ1 h n1 => ?_))
  refine gw_iconst (v := 0) dX3_fillTick_5 ic_0 ?_
  refine gw_istore_n (lo' := [(0, .inr v0), (1, .inl v1), (2, .inl v2), (3, .inl 0)]) dX3_fillTick_6 rfl (by decide) rfl ?_
  refine gw_iload_n (q := 2) dX3_fillTick_7 rfl rfl ?_
  refine gw_iconst (v := (-1)) dX3_fillTick_8 ic_m1 ?_
  refine gw_icmp_eq (tgt := 23) dX3_fillTick_9 (by decide) (fun c3 => ?_) (fun c3 => ?_)
  · replace h := h.1 c3
    refine gw_iconst (v := 0) dX3_fillTick_23 ic_0 ?_
    exact h
  · replace h := h.2 c3
    refine gw_aload_n (q := 0) dX3_fillTick_12 rfl rfl ?_
    refine gw_vC (bs := []) (st := []) (vmX3_isSpreadCheaper) lX3_120 dX3_fillTick_13 ⟨by decide, rfl, rfl, by decide, by decide⟩ (Nat.le_of_ble_eq_true rfl) rfl rfl (g2.up n1) h (kI (fun x4 σ4 h n4 => ?_))
    refine gw_if_eq (tgt := 23) dX3_fillTick_16 (by decide) (fun c5 => ?_) (fun c5 => ?_)
    · replace h := h.1 c5
      refine gw_iconst (v := 0) dX3_fillTick_23 ic_0 ?_
      exact h
    · replace h := h.2 c5
      refine gw_iconst (v := 1) dX3_fillTick_19 ic_1 ?_
      refine gw_goto (tgt := 24) dX3_fillTick_20 (by decide) ?_
      exact h
set_option maxHeartbeats 4000000 in
set_option maxRecDepth 20000 in
theorem eX3_wayAt {l : Launch} {v0 : Nat} {v1 : Int32} {v2 : Int32} {σ : Sg} {K : Int32 → Sg → Prop} (h : ((v1 < 0 → K 1000000 σ) ∧ (¬ v1 < 0 → ((40 ≤ v1 → K 1000000 σ) ∧ (¬ 40 ≤ v1 → Ob σ v0 3 ∧ Ai σ (σ.2.2 v0 0) ((v1 * 4096) + (v2 &&& 4095)) ∧ K (σ.2.1 (σ.2.2 v0 0) ((v1 * 4096) + (v2 &&& 4095)).toNatClampNeg) σ))))) : Con l mX3_wayAt [.inr v0, .inl v1, .inl v2] σ (PI K) := by
  refine con_gw rfl (Nat.le_of_ble_eq_true rfl) ?_
  show GW l mX3_wayAt 0 [(0, .inr v0), (1, .inl v1), (2, .inl v2)] [] σ 0 0 (PI K)
  refine gw_iload_n (q := 1) dX3_wayAt_0 rfl rfl ?_
  refine gw_if_lt (tgt := 29) dX3_wayAt_1 (by decide) (fun c1 => ?_) (fun c1 => ?_)
  · replace h := h.1 c1
    refine gw_ldc (v := 1000000) kX3_134 dX3_wayAt_29 ?_
    exact gw_rI dX3_wayAt_31 rfl (by decide) (by decide) h
  · replace h := h.2 c1
    refine gw_iload_n (q := 1) dX3_wayAt_4 rfl rfl ?_
    refine gw_bipush (v := 40) dX3_wayAt_5 bp_40 ?_
    refine gw_icmp_ge (tgt := 29) dX3_wayAt_7 (by decide) (fun c2 => ?_) (fun c2 => ?_)
    · replace h := h.1 c2
      refine gw_ldc (v := 1000000) kX3_134 dX3_wayAt_29 ?_
      exact gw_rI dX3_wayAt_31 rfl (by decide) (by decide) h
    · replace h := h.2 c2
      refine gw_aload_n (q := 0) dX3_wayAt_10 rfl rfl ?_
      obtain ⟨g3, h⟩ := h
      refine gw_gR fX3_10 dX3_wayAt_11 g3 ?_
      refine gw_iload_n (q := 1) dX3_wayAt_14 rfl rfl ?_
      refine gw_sipush (v := 4096) dX3_wayAt_15 sp_4096 ?_
      refine gw_imul dX3_wayAt_18 ?_
      refine gw_iload_n (q := 2) dX3_wayAt_19 rfl rfl ?_
      refine gw_sipush (v := 4095) dX3_wayAt_20 sp_4095 ?_
      refine gw_iand dX3_wayAt_23 ?_
      refine gw_iadd dX3_wayAt_24 ?_
      obtain ⟨g4, h⟩ := h
      refine gw_aI dX3_wayAt_25 g4 ?_
      refine gw_goto (tgt := 31) dX3_wayAt_26 (by decide) ?_
      exact gw_rI dX3_wayAt_31 rfl (by decide) (by decide) h
set_option maxHeartbeats 4000000 in
set_option maxRecDepth 20000 in
theorem eX3_setWay {l : Launch} {v0 : Nat} {v1 : Int32} {v2 : Int32} {v3 : Int32} {σ : Sg} {K : Sg → Prop} (h : ((v1 < 0 → K σ) ∧ (¬ v1 < 0 → ((40 ≤ v1 → K σ) ∧ (¬ 40 ≤ v1 → Ob σ v0 3 ∧ Con l mJ9_min_7cf53 [.inl v3, .inl 1000000] σ (PI (fun x4 σ4 => Ai σ4 (σ.2.2 v0 0) ((v1 * 4096) + (v2 &&& 4095)) ∧ ∀ σ6, σ6 = w1 σ4 (σ.2.2 v0 0) ((v1 * 4096) + (v2 &&& 4095)).toNatClampNeg x4 → K σ6))))))) : Con l mX3_setWay [.inr v0, .inl v1, .inl v2, .inl v3] σ (PV K) := by
  refine con_gw rfl (Nat.le_of_ble_eq_true rfl) ?_
  show GW l mX3_setWay 0 [(0, .inr v0), (1, .inl v1), (2, .inl v2), (3, .inl v3)] [] σ 0 0 (PV K)
  refine gw_iload_n (q := 1) dX3_setWay_0 rfl rfl ?_
  refine gw_if_lt (tgt := 32) dX3_setWay_1 (by decide) (fun c1 => ?_) (fun c1 => ?_)
  · replace h := h.1 c1
    exact gw_rV dX3_setWay_32 rfl (by decide) (by decide) h
  · replace h := h.2 c1
    refine gw_iload_n (q := 1) dX3_setWay_4 rfl rfl ?_
    refine gw_bipush (v := 40) dX3_setWay_5 bp_40 ?_
    refine gw_icmp_ge (tgt := 32) dX3_setWay_7 (by decide) (fun c2 => ?_) (fun c2 => ?_)
    · replace h := h.1 c2
      exact gw_rV dX3_setWay_32 rfl (by decide) (by decide) h
    · replace h := h.2 c2
      refine gw_aload_n (q := 0) dX3_setWay_10 rfl rfl ?_
      obtain ⟨g3, h⟩ := h
      refine gw_gR fX3_10 dX3_setWay_11 g3 ?_
      refine gw_iload_n (q := 1) dX3_setWay_14 rfl rfl ?_
      refine gw_sipush (v := 4096) dX3_setWay_15 sp_4096 ?_
      refine gw_imul dX3_setWay_18 ?_
      refine gw_iload_n (q := 2) dX3_setWay_19 rfl rfl ?_
      refine gw_sipush (v := 4095) dX3_setWay_20 sp_4095 ?_
      refine gw_iand dX3_setWay_23 ?_
      refine gw_iadd dX3_setWay_24 ?_
      refine gw_iload_n (q := 3) dX3_setWay_25 rfl rfl ?_
      refine gw_ldc (v := 1000000) kX3_134 dX3_setWay_26 ?_
      refine gw_sC (bs := [.inl v3, .inl 1000000]) (st := [.inl ((v1 * 4096) + (v2 &&& 4095)), .inr (σ.2.2 v0 0)]) smJ9_min_7cf53 lX3_77 dX3_setWay_28 ⟨by decide, rfl, rfl, by decide, by decide⟩ (Nat.le_of_ble_eq_true rfl) rfl rfl h (kI (fun x4 σ4 h n4 => ?_))
      obtain ⟨g5, h⟩ := h
      refine gw_sI dX3_setWay_31 g5 (fun σ6 e6 => ?_)
      replace h := h σ6 e6
      exact gw_rV dX3_setWay_32 rfl (by decide) (by decide) h
set_option maxHeartbeats 4000000 in
set_option maxRecDepth 20000 in
theorem gX3_gatherNear_33 {l : Launch} {v0 : Nat} {v1 : Int32} {v2 : Int32} {v3 : Int32} {v4 : Int32} {σ : Sg} {K : Sg → Prop} (h : Ob σ v0 3 ∧ (((σ.2.1 v0 14) ≤ v4 → K σ) ∧ (¬ (σ.2.1 v0 14) ≤ v4 → ((4096 ≤ v4 → K σ) ∧ (¬ 4096 ≤ v4 → Ai σ (σ.2.2 v0 1) v4 ∧ Ai σ (σ.2.2 v0 0) ((v1 * 4096) + ((σ.2.1 (σ.2.2 v0 1) v4.toNatClampNeg) &&& 4095)) ∧ ∀ σ6, σ6 = w1 σ (σ.2.2 v0 0) ((v1 * 4096) + ((σ.2.1 (σ.2.2 v0 1) v4.toNatClampNeg) &&& 4095)).toNatClampNeg 1000000 → Ai σ6 (σ6.2.2 v0 2) v4 ∧ Ai σ6 (σ6.2.2 v0 3) v4 ∧ (((σ6.2.1 v0 12) < ((σ6.2.1 (σ6.2.2 v0 2) v4.toNatClampNeg) - v2) → GW l mX3_gatherNear 33 [(0, .inr v0), (1, .inl v1), (2, .inl v2), (3, .inl v3), (4, .inl (v4 + 1))] [] σ6 0 0 (PV K)) ∧ (¬ (σ6.2.1 v0 12) < ((σ6.2.1 (σ6.2.2 v0 2) v4.toNatClampNeg) - v2) → (((σ6.2.1 v0 12) < (-((σ6.2.1 (σ6.2.2 v0 2) v4.toNatClampNeg) - v2)) → GW l mX3_gatherNear 33 [(0, .inr v0), (1, .inl v1), (2, .inl v2), (3, .inl v3), (4, .inl (v4 + 1))] [] σ6 0 0 (PV K)) ∧ (¬ (σ6.2.1 v0 12) < (-((σ6.2.1 (σ6.2.2 v0 2) v4.toNatClampNeg) - v2)) → (((σ6.2.1 v0 12) < ((σ6.2.1 (σ6.2.2 v0 3) v4.toNatClampNeg) - v3) → GW l mX3_gatherNear 33 [(0, .inr v0), (1, .inl v1), (2, .inl v2), (3, .inl v3), (4, .inl (v4 + 1))] [] σ6 0 0 (PV K)) ∧ (¬ (σ6.2.1 v0 12) < ((σ6.2.1 (σ6.2.2 v0 3) v4.toNatClampNeg) - v3) → (((σ6.2.1 v0 12) < (-((σ6.2.1 (σ6.2.2 v0 3) v4.toNatClampNeg) - v3)) → GW l mX3_gatherNear 33 [(0, .inr v0), (1, .inl v1), (2, .inl v2), (3, .inl v3), (4, .inl (v4 + 1))] [] σ6 0 0 (PV K)) ∧ (¬ (σ6.2.1 v0 12) < (-((σ6.2.1 (σ6.2.2 v0 3) v4.toNatClampNeg) - v3)) → ((4096 ≤ (σ6.2.1 v0 13) → GW l mX3_gatherNear 33 [(0, .inr v0), (1, .inl v1), (2, .inl v2), (3, .inl v3), (4, .inl (v4 + 1))] [] σ6 0 0 (PV K)) ∧ (¬ 4096 ≤ (σ6.2.1 v0 13) → Ai σ6 (σ6.2.2 v0 4) (σ6.2.1 v0 13) ∧ ∀ σ15, σ15 = w1 σ6 (σ6.2.2 v0 4) (σ6.2.1 v0 13).toNatClampNeg ((σ.2.1 (σ.2.2 v0 1) v4.toNatClampNeg) &&& 4095) → ∀ σ16, σ16 = w1 σ15 v0 13 ((σ15.2.1 v0 13) + 1) → GW l mX3_gatherNear 33 [(0, .inr v0), (1, .inl v1), (2, .inl v2), (3, .inl v3), (4, .inl (v4 + 1))] [] σ16 0 0 (PV K)))))))))))))))) : GW l mX3_gatherNear 33 [(0, .inr v0), (1, .inl v1), (2, .inl v2), (3, .inl v3), (4, .inl v4)] [] σ 0 0 (PV K) := by
  refine gw_iload (q := 4) dX3_gatherNear_33 rfl ?_
  refine gw_aload_n (q := 0) dX3_gatherNear_35 rfl rfl ?_
  obtain ⟨g1, h⟩ := h
  refine gw_gI fX3_109 dX3_gatherNear_36 g1 ?_
  refine gw_icmp_ge (tgt := 175) dX3_gatherNear_39 (by decide) (fun c2 => ?_) (fun c2 => ?_)
  · replace h := h.1 c2
    exact gw_rV dX3_gatherNear_175 rfl (by decide) (by decide) h
  · replace h := h.2 c2
    refine gw_iload (q := 4) dX3_gatherNear_42 rfl ?_
    refine gw_sipush (v := 4096) dX3_gatherNear_44 sp_4096 ?_
    refine gw_icmp_ge (tgt := 175) dX3_gatherNear_47 (by decide) (fun c3 => ?_) (fun c3 => ?_)
    · replace h := h.1 c3
      exact gw_rV dX3_gatherNear_175 rfl (by decide) (by decide) h
    · replace h := h.2 c3
      refine gw_aload_n (q := 0) dX3_gatherNear_50 rfl rfl ?_
      refine gw_gR fX3_16 dX3_gatherNear_51 g1 ?_
      refine gw_iload (q := 4) dX3_gatherNear_54 rfl ?_
      obtain ⟨g4, h⟩ := h
      refine gw_aI dX3_gatherNear_56 g4 ?_
      refine gw_sipush (v := 4095) dX3_gatherNear_57 sp_4095 ?_
      refine gw_iand dX3_gatherNear_60 ?_
      refine gw_istore (lo' := [(0, .inr v0), (1, .inl v1), (2, .inl v2), (3, .inl v3), (4, .inl v4), (5, .inl ((σ.2.1 (σ.2.2 v0 1) v4.toNatClampNeg) &&& 4095))]) dX3_gatherNear_61 (by decide) rfl ?_
      refine gw_aload_n (q := 0) dX3_gatherNear_63 rfl rfl ?_
      refine gw_gR fX3_10 dX3_gatherNear_64 g1 ?_
      refine gw_iload_n (q := 1) dX3_gatherNear_67 rfl rfl ?_
      refine gw_sipush (v := 4096) dX3_gatherNear_68 sp_4096 ?_
      refine gw_imul dX3_gatherNear_71 ?_
      refine gw_iload (q := 5) dX3_gatherNear_72 rfl ?_
      refine gw_iadd dX3_gatherNear_74 ?_
      refine gw_ldc (v := 1000000) kX3_134 dX3_gatherNear_75 ?_
      obtain ⟨g5, h⟩ := h
      refine gw_sI dX3_gatherNear_77 g5 (fun σ6 e6 => ?_)
      replace h := h σ6 e6
      refine gw_aload_n (q := 0) dX3_gatherNear_78 rfl rfl ?_
      refine gw_gR fX3_19 dX3_gatherNear_79 (g1.up (n_w1 e6)) ?_
      refine gw_iload (q := 4) dX3_gatherNear_82 rfl ?_
      obtain ⟨g7, h⟩ := h
      refine gw_aI dX3_gatherNear_84 g7 ?_
      refine gw_iload_n (q := 2) dX3_gatherNear_85 rfl rfl ?_
      refine gw_isub dX3_gatherNear_86 ?_
      refine gw_istore (lo' := [(0, .inr v0), (1, .inl v1), (2, .inl v2), (3, .inl v3), (4, .inl v4), (5, .inl ((σ.2.1 (σ.2.2 v0 1) v4.toNatClampNeg) &&& 4095)), (6, .inl ((σ6.2.1 (σ6.2.2 v0 2) v4.toNatClampNeg) - v2))]) dX3_gatherNear_87 (by decide) rfl ?_
      refine gw_aload_n (q := 0) dX3_gatherNear_89 rfl rfl ?_
      refine gw_gR fX3_22 dX3_gatherNear_90 (g1.up (n_w1 e6)) ?_
      refine gw_iload (q := 4) dX3_gatherNear_93 rfl ?_
      obtain ⟨g8, h⟩ := h
      refine gw_aI dX3_gatherNear_95 g8 ?_
      refine gw_iload_n (q := 3) dX3_gatherNear_96 rfl rfl ?_
      refine gw_isub dX3_gatherNear_97 ?_
      refine gw_istore (lo' := [(0, .inr v0), (1, .inl v1), (2, .inl v2), (3, .inl v3), (4, .inl v4), (5, .inl ((σ.2.1 (σ.2.2 v0 1) v4.toNatClampNeg) &&& 4095)), (6, .inl ((σ6.2.1 (σ6.2.2 v0 2) v4.toNatClampNeg) - v2)), (7, .inl ((σ6.2.1 (σ6.2.2 v0 3) v4.toNatClampNeg) - v3))]) dX3_gatherNear_98 (by decide) rfl ?_
      refine gw_iload (q := 6) dX3_gatherNear_100 rfl ?_
      refine gw_aload_n (q := 0) dX3_gatherNear_102 rfl rfl ?_
      refine gw_gI fX3_50 dX3_gatherNear_103 (g1.up (n_w1 e6)) ?_
      refine gw_icmp_gt (tgt := 169) dX3_gatherNear_106 (by decide) (fun c9 => ?_) (fun c9 => ?_)
      · replace h := h.1 c9
        refine gw_inc (lo' := [(0, .inr v0), (1, .inl v1), (2, .inl v2), (3, .inl v3), (4, .inl (v4 + 1)), (5, .inl ((σ.2.1 (σ.2.2 v0 1) v4.toNatClampNeg) &&& 4095)), (6, .inl ((σ6.2.1 (σ6.2.2 v0 2) v4.toNatClampNeg) - v2)), (7, .inl ((σ6.2.1 (σ6.2.2 v0 3) v4.toNatClampNeg) - v3))]) (q := 4) (c := 1) dX3_gatherNear_169 ic_1 rfl (by decide) rfl ?_
        refine gw_goto (tgt := 33) dX3_gatherNear_172 (by decide) ?_
        refine gw_pick [0, 1, 2, 3, 4] rfl ?_
        exact h
      · replace h := h.2 c9
        refine gw_iload (q := 6) dX3_gatherNear_109 rfl ?_
        refine gw_ineg dX3_gatherNear_111 ?_
        refine gw_aload_n (q := 0) dX3_gatherNear_112 rfl rfl ?_
        refine gw_gI fX3_50 dX3_gatherNear_113 (g1.up (n_w1 e6)) ?_
        refine gw_icmp_gt (tgt := 169) dX3_gatherNear_116 (by decide) (fun c10 => ?_) (fun c10 => ?_)
        · replace h := h.1 c10
          refine gw_inc (lo' := [(0, .inr v0), (1, .inl v1), (2, .inl v2), (3, .inl v3), (4, .inl (v4 + 1)), (5, .inl ((σ.2.1 (σ.2.2 v0 1) v4.toNatClampNeg) &&& 4095)), (6, .inl ((σ6.2.1 (σ6.2.2 v0 2) v4.toNatClampNeg) - v2)), (7, .inl ((σ6.2.1 (σ6.2.2 v0 3) v4.toNatClampNeg) - v3))]) (q := 4) (c := 1) dX3_gatherNear_169 ic_1 rfl (by decide) rfl ?_
          refine gw_goto (tgt := 33) dX3_gatherNear_172 (by decide) ?_
          refine gw_pick [0, 1, 2, 3, 4] rfl ?_
          exact h
        · replace h := h.2 c10
          refine gw_iload (q := 7) dX3_gatherNear_119 rfl ?_
          refine gw_aload_n (q := 0) dX3_gatherNear_121 rfl rfl ?_
          refine gw_gI fX3_50 dX3_gatherNear_122 (g1.up (n_w1 e6)) ?_
          refine gw_icmp_gt (tgt := 169) dX3_gatherNear_125 (by decide) (fun c11 => ?_) (fun c11 => ?_)
          · replace h := h.1 c11
            refine gw_inc (lo' := [(0, .inr v0), (1, .inl v1), (2, .inl v2), (3, .inl v3), (4, .inl (v4 + 1)), (5, .inl ((σ.2.1 (σ.2.2 v0 1) v4.toNatClampNeg) &&& 4095)), (6, .inl ((σ6.2.1 (σ6.2.2 v0 2) v4.toNatClampNeg) - v2)), (7, .inl ((σ6.2.1 (σ6.2.2 v0 3) v4.toNatClampNeg) - v3))]) (q := 4) (c := 1) dX3_gatherNear_169 ic_1 rfl (by decide) rfl ?_
            refine gw_goto (tgt := 33) dX3_gatherNear_172 (by decide) ?_
            refine gw_pick [0, 1, 2, 3, 4] rfl ?_
            exact h
          · replace h := h.2 c11
            refine gw_iload (q := 7) dX3_gatherNear_128 rfl ?_
            refine gw_ineg dX3_gatherNear_130 ?_
            refine gw_aload_n (q := 0) dX3_gatherNear_131 rfl rfl ?_
            refine gw_gI fX3_50 dX3_gatherNear_132 (g1.up (n_w1 e6)) ?_
            refine gw_icmp_gt (tgt := 169) dX3_gatherNear_135 (by decide) (fun c12 => ?_) (fun c12 => ?_)
            · replace h := h.1 c12
              refine gw_inc (lo' := [(0, .inr v0), (1, .inl v1), (2, .inl v2), (3, .inl v3), (4, .inl (v4 + 1)), (5, .inl ((σ.2.1 (σ.2.2 v0 1) v4.toNatClampNeg) &&& 4095)), (6, .inl ((σ6.2.1 (σ6.2.2 v0 2) v4.toNatClampNeg) - v2)), (7, .inl ((σ6.2.1 (σ6.2.2 v0 3) v4.toNatClampNeg) - v3))]) (q := 4) (c := 1) dX3_gatherNear_169 ic_1 rfl (by decide) rfl ?_
              refine gw_goto (tgt := 33) dX3_gatherNear_172 (by decide) ?_
              refine gw_pick [0, 1, 2, 3, 4] rfl ?_
              exact h
            · replace h := h.2 c12
              refine gw_aload_n (q := 0) dX3_gatherNear_138 rfl rfl ?_
              refine gw_gI fX3_127 dX3_gatherNear_139 (g1.up (n_w1 e6)) ?_
              refine gw_sipush (v := 4096) dX3_gatherNear_142 sp_4096 ?_
              refine gw_icmp_ge (tgt := 169) dX3_gatherNear_145 (by decide) (fun c13 => ?_) (fun c13 => ?_)
              · replace h := h.1 c13
                refine gw_inc (lo' := [(0, .inr v0), (1, .inl v1), (2, .inl v2), (3, .inl v3), (4, .inl (v4 + 1)), (5, .inl ((σ.2.1 (σ.2.2 v0 1) v4.toNatClampNeg) &&& 4095)), (6, .inl ((σ6.2.1 (σ6.2.2 v0 2) v4.toNatClampNeg) - v2)), (7, .inl ((σ6.2.1 (σ6.2.2 v0 3) v4.toNatClampNeg) - v3))]) (q := 4) (c := 1) dX3_gatherNear_169 ic_1 rfl (by decide) rfl ?_
                refine gw_goto (tgt := 33) dX3_gatherNear_172 (by decide) ?_
                refine gw_pick [0, 1, 2, 3, 4] rfl ?_
                exact h
              · replace h := h.2 c13
                refine gw_aload_n (q := 0) dX3_gatherNear_148 rfl rfl ?_
                refine gw_gR fX3_25 dX3_gatherNear_149 (g1.up (n_w1 e6)) ?_
                refine gw_aload_n (q := 0) dX3_gatherNear_152 rfl rfl ?_
                refine gw_gI fX3_127 dX3_gatherNear_153 (g1.up (n_w1 e6)) ?_
                refine gw_iload (q := 5) dX3_gatherNear_156 rfl ?_
                obtain ⟨g14, h⟩ := h
                refine gw_sI dX3_gatherNear_158 g14 (fun σ15 e15 => ?_)
                replace h := h σ15 e15
                refine gw_aload_n (q := 0) dX3_gatherNear_159 rfl rfl ?_
                refine gw_dup dX3_gatherNear_160 ?_
                refine gw_gI fX3_127 dX3_gatherNear_161 ((g1.up (n_w1 e6)).up (n_w1 e15)) ?_
                refine gw_iconst (v := 1) dX3_gatherNear_164 ic_1 ?_
                refine gw_iadd dX3_gatherNear_165 ?_
                refine gw_pI fX3_127 dX3_gatherNear_166 ((g1.up (n_w1 e6)).up (n_w1 e15)) (fun σ16 e16 => ?_)
                replace h := h σ16 e16
                refine gw_inc (lo' := [(0, .inr v0), (1, .inl v1), (2, .inl v2), (3, .inl v3), (4, .inl (v4 + 1)), (5, .inl ((σ.2.1 (σ.2.2 v0 1) v4.toNatClampNeg) &&& 4095)), (6, .inl ((σ6.2.1 (σ6.2.2 v0 2) v4.toNatClampNeg) - v2)), (7, .inl ((σ6.2.1 (σ6.2.2 v0 3) v4.toNatClampNeg) - v3))]) (q := 4) (c := 1) dX3_gatherNear_169 ic_1 rfl (by decide) rfl ?_
                refine gw_goto (tgt := 33) dX3_gatherNear_172 (by decide) ?_
                refine gw_pick [0, 1, 2, 3, 4] rfl ?_
                exact h
set_option maxHeartbeats 4000000 in
set_option maxRecDepth 20000 in
theorem eX3_gatherNear {l : Launch} {v0 : Nat} {v1 : Int32} {σ : Sg} {K : Sg → Prop} (h : Ob σ v0 3 ∧ ∀ σ2, σ2 = w1 σ v0 13 0 → ((v1 < 0 → K σ2) ∧ (¬ v1 < 0 → ((v1 < 40 → Ai σ2 (σ2.2.2 v0 7) v1 ∧ Ai σ2 (σ2.2.2 v0 8) v1 ∧ GW l mX3_gatherNear 33 [(0, .inr v0), (1, .inl v1), (2, .inl (σ2.2.1 (σ2.2.2 v0 7) v1.toNatClampNeg)), (3, .inl (σ2.2.1 (σ2.2.2 v0 8) v1.toNatClampNeg)), (4, .inl 0)] [] σ2 0 0 (PV K)) ∧ (¬ v1 < 40 → K σ2))))) : Con l mX3_gatherNear [.inr v0, .inl v1] σ (PV K) := by
  refine con_gw rfl (Nat.le_of_ble_eq_true rfl) ?_
  show GW l mX3_gatherNear 0 [(0, .inr v0), (1, .inl v1)] [] σ 0 0 (PV K)
  refine gw_aload_n (q := 0) dX3_gatherNear_0 rfl rfl ?_
  refine gw_iconst (v := 0) dX3_gatherNear_1 ic_0 ?_
  obtain ⟨g1, h⟩ := h
  refine gw_pI fX3_127 dX3_gatherNear_2 g1 (fun σ2 e2 => ?_)
  replace h := h σ2 e2
  refine gw_iload_n (q := 1) dX3_gatherNear_5 rfl rfl ?_
  refine gw_if_lt (tgt := 15) dX3_gatherNear_6 (by decide) (fun c3 => ?_) (fun c3 => ?_)
  · replace h := h.1 c3
    exact gw_rV dX3_gatherNear_15 rfl (by decide) (by decide) h
  · replace h := h.2 c3
    refine gw_iload_n (q := 1) dX3_gatherNear_9 rfl rfl ?_
    refine gw_bipush (v := 40) dX3_gatherNear_10 bp_40 ?_
    refine gw_icmp_lt (tgt := 16) dX3_gatherNear_12 (by decide) (fun c4 => ?_) (fun c4 => ?_)
    · replace h := h.1 c4
      refine gw_aload_n (q := 0) dX3_gatherNear_16 rfl rfl ?_
      refine gw_gR fX3_34 dX3_gatherNear_17 (g1.up (n_w1 e2)) ?_
      refine gw_iload_n (q := 1) dX3_gatherNear_20 rfl rfl ?_
      obtain ⟨g5, h⟩ := h
      refine gw_aI dX3_gatherNear_21 g5 ?_
      refine gw_istore_n (lo' := [(0, .inr v0), (1, .inl v1), (2, .inl (σ2.2.1 (σ2.2.2 v0 7) v1.toNatClampNeg))]) dX3_gatherNear_22 rfl (by decide) rfl ?_
      refine gw_aload_n (q := 0) dX3_gatherNear_23 rfl rfl ?_
      refine gw_gR fX3_37 dX3_gatherNear_24 (g1.up (n_w1 e2)) ?_
      refine gw_iload_n (q := 1) dX3_gatherNear_27 rfl rfl ?_
      obtain ⟨g6, h⟩ := h
      refine gw_aI dX3_gatherNear_28 g6 ?_
      refine gw_istore_n (lo' := [(0, .inr v0), (1, .inl v1), (2, .inl (σ2.2.1 (σ2.2.2 v0 7) v1.toNatClampNeg)), (3, .inl (σ2.2.1 (σ2.2.2 v0 8) v1.toNatClampNeg))]) dX3_gatherNear_29 rfl (by decide) rfl ?_
      refine gw_iconst (v := 0) dX3_gatherNear_30 ic_0 ?_
      refine gw_istore (lo' := [(0, .inr v0), (1, .inl v1), (2, .inl (σ2.2.1 (σ2.2.2 v0 7) v1.toNatClampNeg)), (3, .inl (σ2.2.1 (σ2.2.2 v0 8) v1.toNatClampNeg)), (4, .inl 0)]) dX3_gatherNear_31 (by decide) rfl ?_
      exact h
    · replace h := h.2 c4
      exact gw_rV dX3_gatherNear_15 rfl (by decide) (by decide) h
set_option maxHeartbeats 4000000 in
set_option maxRecDepth 20000 in
theorem gX3_isSpreadCheaper_6 {l : Launch} {v0 : Nat} {v1 : Int32} {v2 : Int32} {v3 : Int32} {σ : Sg} {K : Int32 → Sg → Prop} (h : ((3 ≤ v3 → Ob σ v0 3 ∧ ((((σ.2.1 v0 13) * v1) ≤ ((σ.2.1 v0 14) * v2) → K 0 σ) ∧ (¬ ((σ.2.1 v0 13) * v1) ≤ ((σ.2.1 v0 14) * v2) → K 1 σ))) ∧ (¬ 3 ≤ v3 → Ob σ v0 3 ∧ Ob σ (σ.2.2 v0 10) 0 ∧ Con l mX0_speed [.inr (σ.2.2 v0 10), .inl v3] σ (PI (fun x5 σ5 => Ob σ5 (σ5.2.2 v0 10) 0 ∧ Con l mX0_speed [.inr (σ5.2.2 v0 10), .inl v3] σ5 (PI (fun x7 σ7 => GW l mX3_isSpreadCheaper 6 [(0, .inr v0), (1, .inl (v1 * ((2 * x5) + 1))), (2, .inl (v2 + ((2 * x7) + 1))), (3, .inl (v3 + 1))] [] σ7 0 0 (PI K)))))))) : GW l mX3_isSpreadCheaper 6 [(0, .inr v0), (1, .inl v1), (2, .inl v2), (3, .inl v3)] [] σ 0 0 (PI K) := by
  refine gw_iload_n (q := 3) dX3_isSpreadCheaper_6 rfl rfl ?_
  refine gw_iconst (v := 3) dX3_isSpreadCheaper_7 ic_3 ?_
  refine gw_icmp_ge (tgt := 47) dX3_isSpreadCheaper_8 (by decide) (fun c1 => ?_) (fun c1 => ?_)
  · replace h := h.1 c1
    refine gw_aload_n (q := 0) dX3_isSpreadCheaper_47 rfl rfl ?_
    obtain ⟨g2, h⟩ := h
    refine gw_gI fX3_127 dX3_isSpreadCheaper_48 g2 ?_
    refine gw_iload_n (q := 1) dX3_isSpreadCheaper_51 rfl rfl ?_
    refine gw_imul dX3_isSpreadCheaper_52 ?_
    refine gw_aload_n (q := 0) dX3_isSpreadCheaper_53 rfl rfl ?_
    refine gw_gI fX3_109 dX3_isSpreadCheaper_54 g2 ?_
    refine gw_iload_n (q := 2) dX3_isSpreadCheaper_57 rfl rfl ?_
    refine gw_imul dX3_isSpreadCheaper_58 ?_
    refine gw_icmp_le (tgt := 66) dX3_isSpreadCheaper_59 (by decide) (fun c3 => ?_) (fun c3 => ?_)
    · replace h := h.1 c3
      refine gw_iconst (v := 0) dX3_isSpreadCheaper_66 ic_0 ?_
      exact gw_rZ dX3_isSpreadCheaper_67 rfl (by decide) (by decide) (by decide) h
    · replace h := h.2 c3
      refine gw_iconst (v := 1) dX3_isSpreadCheaper_62 ic_1 ?_
      refine gw_goto (tgt := 67) dX3_isSpreadCheaper_63 (by decide) ?_
      exact gw_rZ dX3_isSpreadCheaper_67 rfl (by decide) (by decide) (by decide) h
  · replace h := h.2 c1
    refine gw_iload_n (q := 1) dX3_isSpreadCheaper_11 rfl rfl ?_
    refine gw_iconst (v := 2) dX3_isSpreadCheaper_12 ic_2 ?_
    refine gw_aload_n (q := 0) dX3_isSpreadCheaper_13 rfl rfl ?_
    obtain ⟨g4, h⟩ := h
    refine gw_gR fX3_46 dX3_isSpreadCheaper_14 g4 ?_
    refine gw_iload_n (q := 3) dX3_isSpreadCheaper_17 rfl rfl ?_
    obtain ⟨g6, h⟩ := h
    refine gw_vC (bs := [.inl v3]) (st := [.inl 2, .inl v1]) (vmX0_speed) lX3_135 dX3_isSpreadCheaper_18 ⟨by decide, rfl, rfl, by decide, by decide⟩ (Nat.le_of_ble_eq_true rfl) rfl rfl g6 h (kI (fun x5 σ5 h n5 => ?_))
    refine gw_imul dX3_isSpreadCheaper_21 ?_
    refine gw_iconst (v := 1) dX3_isSpreadCheaper_22 ic_1 ?_
    refine gw_iadd dX3_isSpreadCheaper_23 ?_
    refine gw_imul dX3_isSpreadCheaper_24 ?_
    refine gw_istore_n (lo' := [(0, .inr v0), (1, .inl (v1 * ((2 * x5) + 1))), (2, .inl v2), (3, .inl v3)]) dX3_isSpreadCheaper_25 rfl (by decide) rfl ?_
    refine gw_iload_n (q := 2) dX3_isSpreadCheaper_26 rfl rfl ?_
    refine gw_iconst (v := 2) dX3_isSpreadCheaper_27 ic_2 ?_
    refine gw_aload_n (q := 0) dX3_isSpreadCheaper_28 rfl rfl ?_
    refine gw_gR fX3_46 dX3_isSpreadCheaper_29 (g4.up n5) ?_
    refine gw_iload_n (q := 3) dX3_isSpreadCheaper_32 rfl rfl ?_
    obtain ⟨g8, h⟩ := h
    refine gw_vC (bs := [.inl v3]) (st := [.inl 2, .inl v2]) (vmX0_speed) lX3_135 dX3_isSpreadCheaper_33 ⟨by decide, rfl, rfl, by decide, by decide⟩ (Nat.le_of_ble_eq_true rfl) rfl rfl g8 h (kI (fun x7 σ7 h n7 => ?_))
    refine gw_imul dX3_isSpreadCheaper_36 ?_
    refine gw_iconst (v := 1) dX3_isSpreadCheaper_37 ic_1 ?_
    refine gw_iadd dX3_isSpreadCheaper_38 ?_
    refine gw_iadd dX3_isSpreadCheaper_39 ?_
    refine gw_istore_n (lo' := [(0, .inr v0), (1, .inl (v1 * ((2 * x5) + 1))), (2, .inl (v2 + ((2 * x7) + 1))), (3, .inl v3)]) dX3_isSpreadCheaper_40 rfl (by decide) rfl ?_
    refine gw_inc (lo' := [(0, .inr v0), (1, .inl (v1 * ((2 * x5) + 1))), (2, .inl (v2 + ((2 * x7) + 1))), (3, .inl (v3 + 1))]) (q := 3) (c := 1) dX3_isSpreadCheaper_41 ic_1 rfl (by decide) rfl ?_
    refine gw_goto (tgt := 6) dX3_isSpreadCheaper_44 (by decide) ?_
    exact h
set_option maxHeartbeats 4000000 in
set_option maxRecDepth 20000 in
theorem eX3_isSpreadCheaper {l : Launch} {v0 : Nat} {σ : Sg} {K : Int32 → Sg → Prop} (h : GW l mX3_isSpreadCheaper 6 [(0, .inr v0), (1, .inl 1), (2, .inl 0), (3, .inl 0)] [] σ 0 0 (PI K)) : Con l mX3_isSpreadCheaper [.inr v0] σ (PI K) := by
  refine con_gw rfl (Nat.le_of_ble_eq_true rfl) ?_
  show GW l mX3_isSpreadCheaper 0 [(0, .inr v0)] [] σ 0 0 (PI K)
  refine gw_iconst (v := 1) dX3_isSpreadCheaper_0 ic_1 ?_
  refine gw_istore_n (lo' := [(0, .inr v0), (1, .inl 1)]) dX3_isSpreadCheaper_1 rfl (by decide) rfl ?_
  refine gw_iconst (v := 0) dX3_isSpreadCheaper_2 ic_0 ?_
  refine gw_istore_n (lo' := [(0, .inr v0), (1, .inl 1), (2, .inl 0)]) dX3_isSpreadCheaper_3 rfl (by decide) rfl ?_
  refine gw_iconst (v := 0) dX3_isSpreadCheaper_4 ic_0 ?_
  refine gw_istore_n (lo' := [(0, .inr v0), (1, .inl 1), (2, .inl 0), (3, .inl 0)]) dX3_isSpreadCheaper_5 rfl (by decide) rfl ?_
  exact h
set_option maxHeartbeats 4000000 in
set_option maxRecDepth 20000 in
theorem gX3_spreadTick_46 {l : Launch} {v0 : Nat} {v1 : Int32} {v2 : Int32} {σ : Sg} {K : Sg → Prop} (h : Ob σ v0 3 ∧ Con l mX3_sweep [.inr v0, .inr (σ.2.2 v0 6), .inr (σ.2.2 v0 5), .inl 0] σ (PV (fun σ2 => Con l mX3_sweep [.inr v0, .inr (σ2.2.2 v0 5), .inr (σ2.2.2 v0 6), .inl 1] σ2 (PV (fun σ3 => Con l mX3_sweep [.inr v0, .inr (σ3.2.2 v0 6), .inr (σ3.2.2 v0 5), .inl 2] σ3 (PV (fun σ4 => K σ4))))))) : GW l mX3_spreadTick 46 [(0, .inr v0), (1, .inl v1), (2, .inl v2)] [] σ 0 0 (PV K) := by
  refine gw_aload_n (q := 0) dX3_spreadTick_46 rfl rfl ?_
  refine gw_aload_n (q := 0) dX3_spreadTick_47 rfl rfl ?_
  obtain ⟨g1, h⟩ := h
  refine gw_gR fX3_31 dX3_spreadTick_48 g1 ?_
  refine gw_aload_n (q := 0) dX3_spreadTick_51 rfl rfl ?_
  refine gw_gR fX3_28 dX3_spreadTick_52 g1 ?_
  refine gw_iconst (v := 0) dX3_spreadTick_55 ic_0 ?_
  refine gw_vC (bs := [.inr (σ.2.2 v0 6), .inr (σ.2.2 v0 5), .inl 0]) (st := []) (vmX3_sweep) lX3_141 dX3_spreadTick_56 ⟨by decide, rfl, rfl, by decide, by decide⟩ (Nat.le_of_ble_eq_true rfl) rfl rfl g1 h (kV (fun σ2 h n2 => ?_))
  refine gw_aload_n (q := 0) dX3_spreadTick_59 rfl rfl ?_
  refine gw_aload_n (q := 0) dX3_spreadTick_60 rfl rfl ?_
  refine gw_gR fX3_28 dX3_spreadTick_61 (g1.up n2) ?_
  refine gw_aload_n (q := 0) dX3_spreadTick_64 rfl rfl ?_
  refine gw_gR fX3_31 dX3_spreadTick_65 (g1.up n2) ?_
  refine gw_iconst (v := 1) dX3_spreadTick_68 ic_1 ?_
  refine gw_vC (bs := [.inr (σ2.2.2 v0 5), .inr (σ2.2.2 v0 6), .inl 1]) (st := []) (vmX3_sweep) lX3_141 dX3_spreadTick_69 ⟨by decide, rfl, rfl, by decide, by decide⟩ (Nat.le_of_ble_eq_true rfl) rfl rfl (g1.up n2) h (kV (fun σ3 h n3 => ?_))
  refine gw_aload_n (q := 0) dX3_spreadTick_72 rfl rfl ?_
  refine gw_aload_n (q := 0) dX3_spreadTick_73 rfl rfl ?_
  refine gw_gR fX3_31 dX3_spreadTick_74 ((g1.up n2).up n3) ?_
  refine gw_aload_n (q := 0) dX3_spreadTick_77 rfl rfl ?_
  refine gw_gR fX3_28 dX3_spreadTick_78 ((g1.up n2).up n3) ?_
  refine gw_iconst (v := 2) dX3_spreadTick_81 ic_2 ?_
  refine gw_vC (bs := [.inr (σ3.2.2 v0 6), .inr (σ3.2.2 v0 5), .inl 2]) (st := []) (vmX3_sweep) lX3_141 dX3_spreadTick_82 ⟨by decide, rfl, rfl, by decide, by decide⟩ (Nat.le_of_ble_eq_true rfl) rfl rfl ((g1.up n2).up n3) h (kV (fun σ4 h n4 => ?_))
  exact gw_rV dX3_spreadTick_85 rfl (by decide) (by decide) h
set_option maxHeartbeats 4000000 in
set_option maxRecDepth 20000 in
theorem gX3_spreadTick_2 {l : Launch} {v0 : Nat} {v1 : Int32} {v2 : Int32} {σ : Sg} {K : Sg → Prop} (h : Ob σ v0 3 ∧ (((σ.2.1 v0 14) ≤ v2 → GW l mX3_spreadTick 46 [(0, .inr v0), (1, .inl v1), (2, .inl v2)] [] σ 0 0 (PV K)) ∧ (¬ (σ.2.1 v0 14) ≤ v2 → ((4096 ≤ v2 → GW l mX3_spreadTick 46 [(0, .inr v0), (1, .inl v1), (2, .inl v2)] [] σ 0 0 (PV K)) ∧ (¬ 4096 ≤ v2 → Ai σ (σ.2.2 v0 1) v2 ∧ Con l mX3_wayAt [.inr v0, .inl v1, .inl ((σ.2.1 (σ.2.2 v0 1) v2.toNatClampNeg) &&& 4095)] σ (PI (fun x5 σ5 => Ai σ5 (σ.2.2 v0 6) ((σ.2.1 (σ.2.2 v0 1) v2.toNatClampNeg) &&& 4095) ∧ ∀ σ7, σ7 = w1 σ5 (σ.2.2 v0 6) ((σ.2.1 (σ.2.2 v0 1) v2.toNatClampNeg) &&& 4095).toNatClampNeg x5 → GW l mX3_spreadTick 2 [(0, .inr v0), (1, .inl v1), (2, .inl (v2 + 1))] [] σ7 0 0 (PV K)))))))) : GW l mX3_spreadTick 2 [(0, .inr v0), (1, .inl v1), (2, .inl v2)] [] σ 0 0 (PV K) := by
  refine gw_iload_n (q := 2) dX3_spreadTick_2 rfl rfl ?_
  refine gw_aload_n (q := 0) dX3_spreadTick_3 rfl rfl ?_
  obtain ⟨g1, h⟩ := h
  refine gw_gI fX3_109 dX3_spreadTick_4 g1 ?_
  refine gw_icmp_ge (tgt := 46) dX3_spreadTick_7 (by decide) (fun c2 => ?_) (fun c2 => ?_)
  · replace h := h.1 c2
    exact h
  · replace h := h.2 c2
    refine gw_iload_n (q := 2) dX3_spreadTick_10 rfl rfl ?_
    refine gw_sipush (v := 4096) dX3_spreadTick_11 sp_4096 ?_
    refine gw_icmp_ge (tgt := 46) dX3_spreadTick_14 (by decide) (fun c3 => ?_) (fun c3 => ?_)
    · replace h := h.1 c3
      exact h
    · replace h := h.2 c3
      refine gw_aload_n (q := 0) dX3_spreadTick_17 rfl rfl ?_
      refine gw_gR fX3_16 dX3_spreadTick_18 g1 ?_
      refine gw_iload_n (q := 2) dX3_spreadTick_21 rfl rfl ?_
      obtain ⟨g4, h⟩ := h
      refine gw_aI dX3_spreadTick_22 g4 ?_
      refine gw_sipush (v := 4095) dX3_spreadTick_23 sp_4095 ?_
      refine gw_iand dX3_spreadTick_26 ?_
      refine gw_istore_n (lo' := [(0, .inr v0), (1, .inl v1), (2, .inl v2), (3, .inl ((σ.2.1 (σ.2.2 v0 1) v2.toNatClampNeg) &&& 4095))]) dX3_spreadTick_27 rfl (by decide) rfl ?_
      refine gw_aload_n (q := 0) dX3_spreadTick_28 rfl rfl ?_
      refine gw_gR fX3_31 dX3_spreadTick_29 g1 ?_
      refine gw_iload_n (q := 3) dX3_spreadTick_32 rfl rfl ?_
      refine gw_aload_n (q := 0) dX3_spreadTick_33 rfl rfl ?_
      refine gw_iload_n (q := 1) dX3_spreadTick_34 rfl rfl ?_
      refine gw_iload_n (q := 3) dX3_spreadTick_35 rfl rfl ?_
      refine gw_vC (bs := [.inl v1, .inl ((σ.2.1 (σ.2.2 v0 1) v2.toNatClampNeg) &&& 4095)]) (st := [.inl ((σ.2.1 (σ.2.2 v0 1) v2.toNatClampNeg) &&& 4095), .inr (σ.2.2 v0 6)]) (vmX3_wayAt) lX3_138 dX3_spreadTick_36 ⟨by decide, rfl, rfl, by decide, by decide⟩ (Nat.le_of_ble_eq_true rfl) rfl rfl g1 h (kI (fun x5 σ5 h n5 => ?_))
      obtain ⟨g6, h⟩ := h
      refine gw_sI dX3_spreadTick_39 g6 (fun σ7 e7 => ?_)
      replace h := h σ7 e7
      refine gw_inc (lo' := [(0, .inr v0), (1, .inl v1), (2, .inl (v2 + 1)), (3, .inl ((σ.2.1 (σ.2.2 v0 1) v2.toNatClampNeg) &&& 4095))]) (q := 2) (c := 1) dX3_spreadTick_40 ic_1 rfl (by decide) rfl ?_
      refine gw_goto (tgt := 2) dX3_spreadTick_43 (by decide) ?_
      refine gw_pick [0, 1, 2] rfl ?_
      exact h
set_option maxHeartbeats 4000000 in
set_option maxRecDepth 20000 in
theorem eX3_spreadTick {l : Launch} {v0 : Nat} {v1 : Int32} {σ : Sg} {K : Sg → Prop} (h : GW l mX3_spreadTick 2 [(0, .inr v0), (1, .inl v1), (2, .inl 0)] [] σ 0 0 (PV K)) : Con l mX3_spreadTick [.inr v0, .inl v1] σ (PV K) := by
  refine con_gw rfl (Nat.le_of_ble_eq_true rfl) ?_
  show GW l mX3_spreadTick 0 [(0, .inr v0), (1, .inl v1)] [] σ 0 0 (PV K)
  refine gw_iconst (v := 0) dX3_spreadTick_0 ic_0 ?_
  refine gw_istore_n (lo' := [(0, .inr v0), (1, .inl v1), (2, .inl 0)]) dX3_spreadTick_1 rfl (by decide) rfl ?_
  exact h
set_option maxHeartbeats 4000000 in
set_option maxRecDepth 20000 in
theorem gX3_sweep_136 {l : Launch} {v0 : Nat} {v1 : Nat} {v2 : Nat} {v3 : Int32} {v4 : Int32} {v5 : Int32} {v6 : Int32} {v7 : Int32} {v8 : Int32} {v9 : Int32} {v10 : Int32} {v11 : Int32} {v12 : Int32} {v13 : Int32} {t0 : Int32} {σ : Sg} {K : Sg → Prop} (h : ((v13 < 0 → GW l mX3_sweep 95 [(0, .inr v0), (1, .inr v1), (2, .inr v2), (3, .inl v3), (4, .inl v4), (5, .inl v5), (6, .inl v6), (7, .inl v7), (8, .inl v8), (9, .inl v9), (10, .inl v10), (11, .inl v11), (12, .inl (v12 + 1))] [] σ 0 0 (PV K)) ∧ (¬ v13 < 0 → Al σ v1 ∧ (((Int32.ofNat (shp v1).2) ≤ v13 → GW l mX3_sweep 95 [(0, .inr v0), (1, .inr v1), (2, .inr v2), (3, .inl v3), (4, .inl v4), (5, .inl v5), (6, .inl v6), (7, .inl v7), (8, .inl v8), (9, .inl v9), (10, .inl v10), (11, .inl v11), (12, .inl (v12 + 1))] [] σ 0 0 (PV K)) ∧ (¬ (Int32.ofNat (shp v1).2) ≤ v13 → Ai σ v1 v13 ∧ ((v11 ≤ ((σ.2.1 v1 v13.toNatClampNeg) + t0) → GW l mX3_sweep 95 [(0, .inr v0), (1, .inr v1), (2, .inr v2), (3, .inl v3), (4, .inl v4), (5, .inl v5), (6, .inl v6), (7, .inl v7), (8, .inl v8), (9, .inl v9), (10, .inl v10), (11, .inl v11), (12, .inl (v12 + 1))] [] σ 0 0 (PV K)) ∧ (¬ v11 ≤ ((σ.2.1 v1 v13.toNatClampNeg) + t0) → GW l mX3_sweep 95 [(0, .inr v0), (1, .inr v1), (2, .inr v2), (3, .inl v3), (4, .inl v4), (5, .inl v5), (6, .inl v6), (7, .inl v7), (8, .inl v8), (9, .inl v9), (10, .inl v10), (11, .inl ((σ.2.1 v1 v13.toNatClampNeg) + t0)), (12, .inl (v12 + 1))] [] σ 0 0 (PV K)))))))) : GW l mX3_sweep 136 [(0, .inr v0), (1, .inr v1), (2, .inr v2), (3, .inl v3), (4, .inl v4), (5, .inl v5), (6, .inl v6), (7, .inl v7), (8, .inl v8), (9, .inl v9), (10, .inl v10), (11, .inl v11), (12, .inl v12), (13, .inl v13)] [.inl t0] σ 0 0 (PV K) := by
  refine gw_istore (lo' := [(0, .inr v0), (1, .inr v1), (2, .inr v2), (3, .inl v3), (4, .inl v4), (5, .inl v5), (6, .inl v6), (7, .inl v7), (8, .inl v8), (9, .inl v9), (10, .inl v10), (11, .inl v11), (12, .inl v12), (13, .inl v13), (14, .inl t0)]) dX3_sweep_136 (by decide) rfl ?_
  refine gw_iload (q := 13) dX3_sweep_138 rfl ?_
  refine gw_if_lt (tgt := 171) dX3_sweep_140 (by decide) (fun c1 => ?_) (fun c1 => ?_)
  · replace h := h.1 c1
    refine gw_inc (lo' := [(0, .inr v0), (1, .inr v1), (2, .inr v2), (3, .inl v3), (4, .inl v4), (5, .inl v5), (6, .inl v6), (7, .inl v7), (8, .inl v8), (9, .inl v9), (10, .inl v10), (11, .inl v11), (12, .inl (v12 + 1)), (13, .inl v13), (14, .inl t0)]) (q := 12) (c := 1) dX3_sweep_171 ic_1 rfl (by decide) rfl ?_
    refine gw_goto (tgt := 95) dX3_sweep_174 (by decide) ?_
    refine gw_pick [0, 1, 2, 3, 4, 5, 6, 7, 8, 9, 10, 11, 12] rfl ?_
    exact h
  · replace h := h.2 c1
    refine gw_iload (q := 13) dX3_sweep_143 rfl ?_
    refine gw_aload_n (q := 1) dX3_sweep_145 rfl rfl ?_
    obtain ⟨g2, h⟩ := h
    refine gw_aL dX3_sweep_146 g2 ?_
    refine gw_icmp_ge (tgt := 171) dX3_sweep_147 (by decide) (fun c3 => ?_) (fun c3 => ?_)
    · replace h := h.1 c3
      refine gw_inc (lo' := [(0, .inr v0), (1, .inr v1), (2, .inr v2), (3, .inl v3), (4, .inl v4), (5, .inl v5), (6, .inl v6), (7, .inl v7), (8, .inl v8), (9, .inl v9), (10, .inl v10), (11, .inl v11), (12, .inl (v12 + 1)), (13, .inl v13), (14, .inl t0)]) (q := 12) (c := 1) dX3_sweep_171 ic_1 rfl (by decide) rfl ?_
      refine gw_goto (tgt := 95) dX3_sweep_174 (by decide) ?_
      refine gw_pick [0, 1, 2, 3, 4, 5, 6, 7, 8, 9, 10, 11, 12] rfl ?_
      exact h
    · replace h := h.2 c3
      refine gw_aload_n (q := 1) dX3_sweep_150 rfl rfl ?_
      refine gw_iload (q := 13) dX3_sweep_151 rfl ?_
      obtain ⟨g4, h⟩ := h
      refine gw_aI dX3_sweep_153 g4 ?_
      refine gw_iload (q := 14) dX3_sweep_154 rfl ?_
      refine gw_iadd dX3_sweep_156 ?_
      refine gw_iload (q := 11) dX3_sweep_157 rfl ?_
      refine gw_icmp_ge (tgt := 171) dX3_sweep_159 (by decide) (fun c5 => ?_) (fun c5 => ?_)
      · replace h := h.1 c5
        refine gw_inc (lo' := [(0, .inr v0), (1, .inr v1), (2, .inr v2), (3, .inl v3), (4, .inl v4), (5, .inl v5), (6, .inl v6), (7, .inl v7), (8, .inl v8), (9, .inl v9), (10, .inl v10), (11, .inl v11), (12, .inl (v12 + 1)), (13, .inl v13), (14, .inl t0)]) (q := 12) (c := 1) dX3_sweep_171 ic_1 rfl (by decide) rfl ?_
        refine gw_goto (tgt := 95) dX3_sweep_174 (by decide) ?_
        refine gw_pick [0, 1, 2, 3, 4, 5, 6, 7, 8, 9, 10, 11, 12] rfl ?_
        exact h
      · replace h := h.2 c5
        refine gw_aload_n (q := 1) dX3_sweep_162 rfl rfl ?_
        refine gw_iload (q := 13) dX3_sweep_163 rfl ?_
        refine gw_aI dX3_sweep_165 g4 ?_
        refine gw_iload (q := 14) dX3_sweep_166 rfl ?_
        refine gw_iadd dX3_sweep_168 ?_
        refine gw_istore (lo' := [(0, .inr v0), (1, .inr v1), (2, .inr v2), (3, .inl v3), (4, .inl v4), (5, .inl v5), (6, .inl v6), (7, .inl v7), (8, .inl v8), (9, .inl v9), (10, .inl v10), (11, .inl ((σ.2.1 v1 v13.toNatClampNeg) + t0)), (12, .inl v12), (13, .inl v13), (14, .inl t0)]) dX3_sweep_169 (by decide) rfl ?_
        refine gw_inc (lo' := [(0, .inr v0), (1, .inr v1), (2, .inr v2), (3, .inl v3), (4, .inl v4), (5, .inl v5), (6, .inl v6), (7, .inl v7), (8, .inl v8), (9, .inl v9), (10, .inl v10), (11, .inl ((σ.2.1 v1 v13.toNatClampNeg) + t0)), (12, .inl (v12 + 1)), (13, .inl v13), (14, .inl t0)]) (q := 12) (c := 1) dX3_sweep_171 ic_1 rfl (by decide) rfl ?_
        refine gw_goto (tgt := 95) dX3_sweep_174 (by decide) ?_
        refine gw_pick [0, 1, 2, 3, 4, 5, 6, 7, 8, 9, 10, 11, 12] rfl ?_
        exact h
set_option maxHeartbeats 4000000 in
set_option maxRecDepth 20000 in
theorem gX3_sweep_95 {l : Launch} {v0 : Nat} {v1 : Nat} {v2 : Nat} {v3 : Int32} {v4 : Int32} {v5 : Int32} {v6 : Int32} {v7 : Int32} {v8 : Int32} {v9 : Int32} {v10 : Int32} {v11 : Int32} {v12 : Int32} {σ : Sg} {K : Sg → Prop} (h : ((v10 < v12 → ((v8 < 0 → GW l mX3_sweep 33 [(0, .inr v0), (1, .inr v1), (2, .inr v2), (3, .inl v3), (4, .inl v4), (5, .inl v5), (6, .inl v6), (7, .inl (v7 + 1))] [] σ 0 0 (PV K)) ∧ (¬ v8 < 0 → Al σ v2 ∧ (((Int32.ofNat (shp v2).2) ≤ v8 → GW l mX3_sweep 33 [(0, .inr v0), (1, .inr v1), (2, .inr v2), (3, .inl v3), (4, .inl v4), (5, .inl v5), (6, .inl v6), (7, .inl (v7 + 1))] [] σ 0 0 (PV K)) ∧ (¬ (Int32.ofNat (shp v2).2) ≤ v8 → Ai σ v2 v8 ∧ ∀ σ6, σ6 = w1 σ v2 v8.toNatClampNeg v11 → GW l mX3_sweep 33 [(0, .inr v0), (1, .inr v1), (2, .inr v2), (3, .inl v3), (4, .inl v4), (5, .inl v5), (6, .inl v6), (7, .inl (v7 + 1))] [] σ6 0 0 (PV K)))))) ∧ (¬ v10 < v12 → ((v9 ≤ v12 → GW l mX3_sweep 136 [(0, .inr v0), (1, .inr v1), (2, .inr v2), (3, .inl v3), (4, .inl v4), (5, .inl v5), (6, .inl v6), (7, .inl v7), (8, .inl v8), (9, .inl v9), (10, .inl v10), (11, .inl v11), (12, .inl v12), (13, .inl (v8 + ((v12 - v9) <<< ((4 * v3) &&& 31))))] [.inl (v12 - v9)] σ 0 0 (PV K)) ∧ (¬ v9 ≤ v12 → GW l mX3_sweep 136 [(0, .inr v0), (1, .inr v1), (2, .inr v2), (3, .inl v3), (4, .inl v4), (5, .inl v5), (6, .inl v6), (7, .inl v7), (8, .inl v8), (9, .inl v9), (10, .inl v10), (11, .inl v11), (12, .inl v12), (13, .inl (v8 + ((v12 - v9) <<< ((4 * v3) &&& 31))))] [.inl (v9 - v12)] σ 0 0 (PV K)))))) : GW l mX3_sweep 95 [(0, .inr v0), (1, .inr v1), (2, .inr v2), (3, .inl v3), (4, .inl v4), (5, .inl v5), (6, .inl v6), (7, .inl v7), (8, .inl v8), (9, .inl v9), (10, .inl v10), (11, .inl v11), (12, .inl v12)] [] σ 0 0 (PV K) := by
  refine gw_iload (q := 12) dX3_sweep_95 rfl ?_
  refine gw_iload (q := 10) dX3_sweep_97 rfl ?_
  refine gw_icmp_gt (tgt := 177) dX3_sweep_99 (by decide) (fun c1 => ?_) (fun c1 => ?_)
  · replace h := h.1 c1
    refine gw_iload (q := 8) dX3_sweep_177 rfl ?_
    refine gw_if_lt (tgt := 195) dX3_sweep_179 (by decide) (fun c2 => ?_) (fun c2 => ?_)
    · replace h := h.1 c2
      refine gw_inc (lo' := [(0, .inr v0), (1, .inr v1), (2, .inr v2), (3, .inl v3), (4, .inl v4), (5, .inl v5), (6, .inl v6), (7, .inl (v7 + 1)), (8, .inl v8), (9, .inl v9), (10, .inl v10), (11, .inl v11), (12, .inl v12)]) (q := 7) (c := 1) dX3_sweep_195 ic_1 rfl (by decide) rfl ?_
      refine gw_goto (tgt := 33) dX3_sweep_198 (by decide) ?_
      refine gw_pick [0, 1, 2, 3, 4, 5, 6, 7] rfl ?_
      exact h
    · replace h := h.2 c2
      refine gw_iload (q := 8) dX3_sweep_182 rfl ?_
      refine gw_aload_n (q := 2) dX3_sweep_184 rfl rfl ?_
      obtain ⟨g3, h⟩ := h
      refine gw_aL dX3_sweep_185 g3 ?_
      refine gw_icmp_ge (tgt := 195) dX3_sweep_186 (by decide) (fun c4 => ?_) (fun c4 => ?_)
      · replace h := h.1 c4
        refine gw_inc (lo' := [(0, .inr v0), (1, .inr v1), (2, .inr v2), (3, .inl v3), (4, .inl v4), (5, .inl v5), (6, .inl v6), (7, .inl (v7 + 1)), (8, .inl v8), (9, .inl v9), (10, .inl v10), (11, .inl v11), (12, .inl v12)]) (q := 7) (c := 1) dX3_sweep_195 ic_1 rfl (by decide) rfl ?_
        refine gw_goto (tgt := 33) dX3_sweep_198 (by decide) ?_
        refine gw_pick [0, 1, 2, 3, 4, 5, 6, 7] rfl ?_
        exact h
      · replace h := h.2 c4
        refine gw_aload_n (q := 2) dX3_sweep_189 rfl rfl ?_
        refine gw_iload (q := 8) dX3_sweep_190 rfl ?_
        refine gw_iload (q := 11) dX3_sweep_192 rfl ?_
        obtain ⟨g5, h⟩ := h
        refine gw_sI dX3_sweep_194 g5 (fun σ6 e6 => ?_)
        replace h := h σ6 e6
        refine gw_inc (lo' := [(0, .inr v0), (1, .inr v1), (2, .inr v2), (3, .inl v3), (4, .inl v4), (5, .inl v5), (6, .inl v6), (7, .inl (v7 + 1)), (8, .inl v8), (9, .inl v9), (10, .inl v10), (11, .inl v11), (12, .inl v12)]) (q := 7) (c := 1) dX3_sweep_195 ic_1 rfl (by decide) rfl ?_
        refine gw_goto (tgt := 33) dX3_sweep_198 (by decide) ?_
        refine gw_pick [0, 1, 2, 3, 4, 5, 6, 7] rfl ?_
        exact h
  · replace h := h.2 c1
    refine gw_iload (q := 8) dX3_sweep_102 rfl ?_
    refine gw_iload (q := 12) dX3_sweep_104 rfl ?_
    refine gw_iload (q := 9) dX3_sweep_106 rfl ?_
    refine gw_isub dX3_sweep_108 ?_
    refine gw_iconst (v := 4) dX3_sweep_109 ic_4 ?_
    refine gw_iload_n (q := 3) dX3_sweep_110 rfl rfl ?_
    refine gw_imul dX3_sweep_111 ?_
    refine gw_ishl dX3_sweep_112 ?_
    refine gw_iadd dX3_sweep_113 ?_
    refine gw_istore (lo' := [(0, .inr v0), (1, .inr v1), (2, .inr v2), (3, .inl v3), (4, .inl v4), (5, .inl v5), (6, .inl v6), (7, .inl v7), (8, .inl v8), (9, .inl v9), (10, .inl v10), (11, .inl v11), (12, .inl v12), (13, .inl (v8 + ((v12 - v9) <<< ((4 * v3) &&& 31))))]) dX3_sweep_114 (by decide) rfl ?_
    refine gw_iload (q := 12) dX3_sweep_116 rfl ?_
    refine gw_iload (q := 9) dX3_sweep_118 rfl ?_
    refine gw_icmp_ge (tgt := 131) dX3_sweep_120 (by decide) (fun c7 => ?_) (fun c7 => ?_)
    · replace h := h.1 c7
      refine gw_iload (q := 12) dX3_sweep_131 rfl ?_
      refine gw_iload (q := 9) dX3_sweep_133 rfl ?_
      refine gw_isub dX3_sweep_135 ?_
      exact h
    · replace h := h.2 c7
      refine gw_iload (q := 9) dX3_sweep_123 rfl ?_
      refine gw_iload (q := 12) dX3_sweep_125 rfl ?_
      refine gw_isub dX3_sweep_127 ?_
      refine gw_goto (tgt := 136) dX3_sweep_128 (by decide) ?_
      exact h
set_option maxHeartbeats 4000000 in
set_option maxRecDepth 20000 in
theorem gX3_sweep_33 {l : Launch} {v0 : Nat} {v1 : Nat} {v2 : Nat} {v3 : Int32} {v4 : Int32} {v5 : Int32} {v6 : Int32} {v7 : Int32} {σ : Sg} {K : Sg → Prop} (h : Ob σ v0 3 ∧ (((σ.2.1 v0 14) ≤ v7 → K σ) ∧ (¬ (σ.2.1 v0 14) ≤ v7 → ((4096 ≤ v7 → K σ) ∧ (¬ 4096 ≤ v7 → Ai σ (σ.2.2 v0 1) v7 ∧ Con l mX11_placeOf [.inl (σ.2.1 (σ.2.2 v0 1) v7.toNatClampNeg), .inl v3] σ (PI (fun x5 σ5 => Con l mJ9_min_7cf53 [.inl v6, .inl (x5 + v4)] σ5 (PI (fun x6 σ6 => Con l mJ9_max_7cf53 [.inl v5, .inl (x5 - v4)] σ6 (PI (fun x7 σ7 => GW l mX3_sweep 95 [(0, .inr v0), (1, .inr v1), (2, .inr v2), (3, .inl v3), (4, .inl v4), (5, .inl v5), (6, .inl v6), (7, .inl v7), (8, .inl (σ.2.1 (σ.2.2 v0 1) v7.toNatClampNeg)), (9, .inl x5), (10, .inl x6), (11, .inl 1000000), (12, .inl x7)] [] σ7 0 0 (PV K)))))))))))) : GW l mX3_sweep 33 [(0, .inr v0), (1, .inr v1), (2, .inr v2), (3, .inl v3), (4, .inl v4), (5, .inl v5), (6, .inl v6), (7, .inl v7)] [] σ 0 0 (PV K) := by
  refine gw_iload (q := 7) dX3_sweep_33 rfl ?_
  refine gw_aload_n (q := 0) dX3_sweep_35 rfl rfl ?_
  obtain ⟨g1, h⟩ := h
  refine gw_gI fX3_109 dX3_sweep_36 g1 ?_
  refine gw_icmp_ge (tgt := 201) dX3_sweep_39 (by decide) (fun c2 => ?_) (fun c2 => ?_)
  · replace h := h.1 c2
    exact gw_rV dX3_sweep_201 rfl (by decide) (by decide) h
  · replace h := h.2 c2
    refine gw_iload (q := 7) dX3_sweep_42 rfl ?_
    refine gw_sipush (v := 4096) dX3_sweep_44 sp_4096 ?_
    refine gw_icmp_ge (tgt := 201) dX3_sweep_47 (by decide) (fun c3 => ?_) (fun c3 => ?_)
    · replace h := h.1 c3
      exact gw_rV dX3_sweep_201 rfl (by decide) (by decide) h
    · replace h := h.2 c3
      refine gw_aload_n (q := 0) dX3_sweep_50 rfl rfl ?_
      refine gw_gR fX3_16 dX3_sweep_51 g1 ?_
      refine gw_iload (q := 7) dX3_sweep_54 rfl ?_
      obtain ⟨g4, h⟩ := h
      refine gw_aI dX3_sweep_56 g4 ?_
      refine gw_istore (lo' := [(0, .inr v0), (1, .inr v1), (2, .inr v2), (3, .inl v3), (4, .inl v4), (5, .inl v5), (6, .inl v6), (7, .inl v7), (8, .inl (σ.2.1 (σ.2.2 v0 1) v7.toNatClampNeg))]) dX3_sweep_57 (by decide) rfl ?_
      refine gw_iload (q := 8) dX3_sweep_59 rfl ?_
      refine gw_iload_n (q := 3) dX3_sweep_61 rfl rfl ?_
      refine gw_sC (bs := [.inl (σ.2.1 (σ.2.2 v0 1) v7.toNatClampNeg), .inl v3]) (st := []) smX11_placeOf lX3_151 dX3_sweep_62 ⟨by decide, rfl, rfl, by decide, by decide⟩ (Nat.le_of_ble_eq_true rfl) rfl rfl h (kI (fun x5 σ5 h n5 => ?_))
      refine gw_istore (lo' := [(0, .inr v0), (1, .inr v1), (2, .inr v2), (3, .inl v3), (4, .inl v4), (5, .inl v5), (6, .inl v6), (7, .inl v7), (8, .inl (σ.2.1 (σ.2.2 v0 1) v7.toNatClampNeg)), (9, .inl x5)]) dX3_sweep_65 (by decide) rfl ?_
      refine gw_iload (q := 6) dX3_sweep_67 rfl ?_
      refine gw_iload (q := 9) dX3_sweep_69 rfl ?_
      refine gw_iload (q := 4) dX3_sweep_71 rfl ?_
      refine gw_iadd dX3_sweep_73 ?_
      refine gw_sC (bs := [.inl v6, .inl (x5 + v4)]) (st := []) smJ9_min_7cf53 lX3_77 dX3_sweep_74 ⟨by decide, rfl, rfl, by decide, by decide⟩ (Nat.le_of_ble_eq_true rfl) rfl rfl h (kI (fun x6 σ6 h n6 => ?_))
      refine gw_istore (lo' := [(0, .inr v0), (1, .inr v1), (2, .inr v2), (3, .inl v3), (4, .inl v4), (5, .inl v5), (6, .inl v6), (7, .inl v7), (8, .inl (σ.2.1 (σ.2.2 v0 1) v7.toNatClampNeg)), (9, .inl x5), (10, .inl x6)]) dX3_sweep_77 (by decide) rfl ?_
      refine gw_ldc (v := 1000000) kX3_134 dX3_sweep_79 ?_
      refine gw_istore (lo' := [(0, .inr v0), (1, .inr v1), (2, .inr v2), (3, .inl v3), (4, .inl v4), (5, .inl v5), (6, .inl v6), (7, .inl v7), (8, .inl (σ.2.1 (σ.2.2 v0 1) v7.toNatClampNeg)), (9, .inl x5), (10, .inl x6), (11, .inl 1000000)]) dX3_sweep_81 (by decide) rfl ?_
      refine gw_iload (q := 5) dX3_sweep_83 rfl ?_
      refine gw_iload (q := 9) dX3_sweep_85 rfl ?_
      refine gw_iload (q := 4) dX3_sweep_87 rfl ?_
      refine gw_isub dX3_sweep_89 ?_
      refine gw_sC (bs := [.inl v5, .inl (x5 - v4)]) (st := []) smJ9_max_7cf53 lX3_154 dX3_sweep_90 ⟨by decide, rfl, rfl, by decide, by decide⟩ (Nat.le_of_ble_eq_true rfl) rfl rfl h (kI (fun x7 σ7 h n7 => ?_))
      refine gw_istore (lo' := [(0, .inr v0), (1, .inr v1), (2, .inr v2), (3, .inl v3), (4, .inl v4), (5, .inl v5), (6, .inl v6), (7, .inl v7), (8, .inl (σ.2.1 (σ.2.2 v0 1) v7.toNatClampNeg)), (9, .inl x5), (10, .inl x6), (11, .inl 1000000), (12, .inl x7)]) dX3_sweep_93 (by decide) rfl ?_
      exact h
set_option maxHeartbeats 4000000 in
set_option maxRecDepth 20000 in
theorem eX3_sweep {l : Launch} {v0 : Nat} {v1 : Nat} {v2 : Nat} {v3 : Int32} {σ : Sg} {K : Sg → Prop} (h : Ob σ v0 3 ∧ Ob σ (σ.2.2 v0 10) 0 ∧ Con l mX0_speed [.inr (σ.2.2 v0 10), .inl v3] σ (PI (fun x2 σ2 => Ob σ2 (σ2.2.2 v0 10) 0 ∧ Con l mX0_low [.inr (σ2.2.2 v0 10), .inl v3] σ2 (PI (fun x4 σ4 => Ob σ4 (σ4.2.2 v0 10) 0 ∧ Con l mX0_high [.inr (σ4.2.2 v0 10), .inl v3] σ4 (PI (fun x6 σ6 => GW l mX3_sweep 33 [(0, .inr v0), (1, .inr v1), (2, .inr v2), (3, .inl v3), (4, .inl x2), (5, .inl x4), (6, .inl x6), (7, .inl 0)] [] σ6 0 0 (PV K)))))))) : Con l mX3_sweep [.inr v0, .inr v1, .inr v2, .inl v3] σ (PV K) := by
  refine con_gw rfl (Nat.le_of_ble_eq_true rfl) ?_
  show GW l mX3_sweep 0 [(0, .inr v0), (1, .inr v1), (2, .inr v2), (3, .inl v3)] [] σ 0 0 (PV K)
  refine gw_aload_n (q := 0) dX3_sweep_0 rfl rfl ?_
  obtain ⟨g1, h⟩ := h
  refine gw_gR fX3_46 dX3_sweep_1 g1 ?_
  refine gw_iload_n (q := 3) dX3_sweep_4 rfl rfl ?_
  obtain ⟨g3, h⟩ := h
  refine gw_vC (bs := [.inl v3]) (st := []) (vmX0_speed) lX3_135 dX3_sweep_5 ⟨by decide, rfl, rfl, by decide, by decide⟩ (Nat.le_of_ble_eq_true rfl) rfl rfl g3 h (kI (fun x2 σ2 h n2 => ?_))
  refine gw_istore (lo' := [(0, .inr v0), (1, .inr v1), (2, .inr v2), (3, .inl v3), (4, .inl x2)]) dX3_sweep_8 (by decide) rfl ?_
  refine gw_aload_n (q := 0) dX3_sweep_10 rfl rfl ?_
  refine gw_gR fX3_46 dX3_sweep_11 (g1.up n2) ?_
  refine gw_iload_n (q := 3) dX3_sweep_14 rfl rfl ?_
  obtain ⟨g5, h⟩ := h
  refine gw_vC (bs := [.inl v3]) (st := []) (vmX0_low) lX3_145 dX3_sweep_15 ⟨by decide, rfl, rfl, by decide, by decide⟩ (Nat.le_of_ble_eq_true rfl) rfl rfl g5 h (kI (fun x4 σ4 h n4 => ?_))
  refine gw_istore (lo' := [(0, .inr v0), (1, .inr v1), (2, .inr v2), (3, .inl v3), (4, .inl x2), (5, .inl x4)]) dX3_sweep_18 (by decide) rfl ?_
  refine gw_aload_n (q := 0) dX3_sweep_20 rfl rfl ?_
  refine gw_gR fX3_46 dX3_sweep_21 ((g1.up n2).up n4) ?_
  refine gw_iload_n (q := 3) dX3_sweep_24 rfl rfl ?_
  obtain ⟨g7, h⟩ := h
  refine gw_vC (bs := [.inl v3]) (st := []) (vmX0_high) lX3_148 dX3_sweep_25 ⟨by decide, rfl, rfl, by decide, by decide⟩ (Nat.le_of_ble_eq_true rfl) rfl rfl g7 h (kI (fun x6 σ6 h n6 => ?_))
  refine gw_istore (lo' := [(0, .inr v0), (1, .inr v1), (2, .inr v2), (3, .inl v3), (4, .inl x2), (5, .inl x4), (6, .inl x6)]) dX3_sweep_28 (by decide) rfl ?_
  refine gw_iconst (v := 0) dX3_sweep_30 ic_0 ?_
  refine gw_istore (lo' := [(0, .inr v0), (1, .inr v1), (2, .inr v2), (3, .inl v3), (4, .inl x2), (5, .inl x4), (6, .inl x6), (7, .inl 0)]) dX3_sweep_31 (by decide) rfl ?_
  exact h
