set_option maxHeartbeats 4000000 in
set_option maxRecDepth 20000 in
theorem eX4_init {l : Launch} {v0 : Nat} {σ : Sg} {K : Sg → Prop} (h : v0 ≠ 0 ∧ (shp (σ.1 + 1)).1 = 7 ∧ σ.1 + 1 ≤ 1000 ∧ ∀ x3 σ3, x3 = σ.1 + 1 → σ3 = nw σ → x3 ≠ 0 ∧ Con l mX7_init [.inr x3] σ3 (PV (fun σ4 => Ob σ4 v0 4 ∧ x3 ≤ σ4.1 ∧ ∀ σ8, σ8 = w2 σ4 v0 0 x3 → (shp (σ8.1 + 1)).1 = 10 ∧ σ8.1 + 1 ≤ 1000 ∧ ∀ x10 σ10, x10 = σ8.1 + 1 → σ10 = nw σ8 → x10 ≠ 0 ∧ Con l mX10_init [.inr x10] σ10 (PV (fun σ11 => x10 ≤ σ11.1 ∧ ∀ σ14, σ14 = w2 σ11 v0 1 x10 → (shp (σ14.1 + 1)).1 = 9 ∧ σ14.1 + 1 ≤ 1000 ∧ ∀ x16 σ16, x16 = σ14.1 + 1 → σ16 = nw σ14 → x16 ≠ 0 ∧ Con l mX9_init [.inr x16] σ16 (PV (fun σ17 => x16 ≤ σ17.1 ∧ ∀ σ20, σ20 = w2 σ17 v0 2 x16 → (shp (σ20.1 + 1)).1 = 9 ∧ σ20.1 + 1 ≤ 1000 ∧ ∀ x22 σ22, x22 = σ20.1 + 1 → σ22 = nw σ20 → x22 ≠ 0 ∧ Con l mX9_init [.inr x22] σ22 (PV (fun σ23 => x22 ≤ σ23.1 ∧ ∀ σ26, σ26 = w2 σ23 v0 3 x22 → ∀ σ27, σ27 = w1 σ26 v0 7 (-1) → K σ27))))))))) : Con l mX4_init [.inr v0] σ (PV K) := by
  refine con_gw rfl (Nat.le_of_ble_eq_true rfl) ?_
  show GW l mX4_init 0 [(0, .inr v0)] [] σ 0 0 (PV K)
  refine gw_aload_n (q := 0) dX4_init_0 rfl rfl ?_
  obtain ⟨g1, h⟩ := h
  refine gw_objInit oiX4_3 oi_in oi_cd dX4_init_1 (by decide) (Nat.le_of_ble_eq_true rfl) g1 ?_
  refine gw_aload_n (q := 0) dX4_init_4 rfl rfl ?_
  obtain ⟨g2, g3, h⟩ := h
  refine gw_new ci7 clX4_9 it_X7 in_X7 df7 dX4_init_5 g2 (by decide) (by decide) g3 (fun x3 σ3 ex3 e3 => ?_)
  replace h := h x3 σ3 ex3 e3
  refine gw_dup dX4_init_8 ?_
  obtain ⟨g5, h⟩ := h
  refine gw_iC (bs := []) (st := [.inr x3, .inr v0]) xmX7_init lX4_11 dX4_init_9 ⟨by decide, rfl, rfl, by decide, by decide⟩ (Nat.le_of_ble_eq_true rfl) rfl rfl g5 h (kV (fun σ4 h n4 => ?_))
  obtain ⟨g6, h⟩ := h
  obtain ⟨z7, h⟩ := h
  refine gw_pRF fX4_12 (Or.inl ⟨_, rfl⟩) rfl rfl (fun C T N hc => by cases hc; exact xfX4_12) dX4_init_12 z7 g6 (fun σ8 e8 => ?_)
  replace h := h σ8 e8
  refine gw_aload_n (q := 0) dX4_init_15 rfl rfl ?_
  obtain ⟨g9, g10, h⟩ := h
  refine gw_new ci10 clX4_18 it_X10 in_X10 df10 dX4_init_16 g9 (by decide) (by decide) g10 (fun x10 σ10 ex10 e10 => ?_)
  replace h := h x10 σ10 ex10 e10
  refine gw_dup dX4_init_19 ?_
  obtain ⟨g12, h⟩ := h
  refine gw_iC (bs := []) (st := [.inr x10, .inr v0]) xmX10_init lX4_20 dX4_init_20 ⟨by decide, rfl, rfl, by decide, by decide⟩ (Nat.le_of_ble_eq_true rfl) rfl rfl g12 h (kV (fun σ11 h n11 => ?_))
  obtain ⟨z13, h⟩ := h
  refine gw_pRF fX4_21 (Or.inl ⟨_, rfl⟩) rfl rfl (fun C T N hc => by cases hc; exact xfX4_21) dX4_init_23 z13 (((g6.up (n_w2 e8)).up (n_nw e10)).up n11) (fun σ14 e14 => ?_)
  replace h := h σ14 e14
  refine gw_aload_n (q := 0) dX4_init_26 rfl rfl ?_
  obtain ⟨g15, g16, h⟩ := h
  refine gw_new ci9 clX4_25 it_X9 in_X9 df9 dX4_init_27 g15 (by decide) (by decide) g16 (fun x16 σ16 ex16 e16 => ?_)
  replace h := h x16 σ16 ex16 e16
  refine gw_dup dX4_init_30 ?_
  obtain ⟨g18, h⟩ := h
  refine gw_iC (bs := []) (st := [.inr x16, .inr v0]) xmX9_init lX4_27 dX4_init_31 ⟨by decide, rfl, rfl, by decide, by decide⟩ (Nat.le_of_ble_eq_true rfl) rfl rfl g18 h (kV (fun σ17 h n17 => ?_))
  obtain ⟨z19, h⟩ := h
  refine gw_pRF fX4_28 (Or.inl ⟨_, rfl⟩) rfl rfl (fun C T N hc => by cases hc; exact xfX4_28) dX4_init_34 z19 ((((((g6.up (n_w2 e8)).up (n_nw e10)).up n11).up (n_w2 e14)).up (n_nw e16)).up n17) (fun σ20 e20 => ?_)
  replace h := h σ20 e20
  refine gw_aload_n (q := 0) dX4_init_37 rfl rfl ?_
  obtain ⟨g21, g22, h⟩ := h
  refine gw_new ci9 clX4_25 it_X9 in_X9 df9 dX4_init_38 g21 (by decide) (by decide) g22 (fun x22 σ22 ex22 e22 => ?_)
  replace h := h x22 σ22 ex22 e22
  refine gw_dup dX4_init_41 ?_
  obtain ⟨g24, h⟩ := h
  refine gw_iC (bs := []) (st := [.inr x22, .inr v0]) xmX9_init lX4_27 dX4_init_42 ⟨by decide, rfl, rfl, by decide, by decide⟩ (Nat.le_of_ble_eq_true rfl) rfl rfl g24 h (kV (fun σ23 h n23 => ?_))
  obtain ⟨z25, h⟩ := h
  refine gw_pRF fX4_32 (Or.inl ⟨_, rfl⟩) rfl rfl (fun C T N hc => by cases hc; exact xfX4_32) dX4_init_45 z25 (((((((((g6.up (n_w2 e8)).up (n_nw e10)).up n11).up (n_w2 e14)).up (n_nw e16)).up n17).up (n_w2 e20)).up (n_nw e22)).up n23) (fun σ26 e26 => ?_)
  replace h := h σ26 e26
  refine gw_aload_n (q := 0) dX4_init_48 rfl rfl ?_
  refine gw_iconst (v := (-1)) dX4_init_49 ic_m1 ?_
  refine gw_pI fX4_35 dX4_init_50 ((((((((((g6.up (n_w2 e8)).up (n_nw e10)).up n11).up (n_w2 e14)).up (n_nw e16)).up n17).up (n_w2 e20)).up (n_nw e22)).up n23).up (n_w2 e26)) (fun σ27 e27 => ?_)
  replace h := h σ27 e27
  exact gw_rV dX4_init_53 rfl (by decide) (by decide) h
set_option maxHeartbeats 4000000 in
set_option maxRecDepth 20000 in
theorem gX4_readText_61 {l : Launch} {v0 : Nat} {v1 : Int32} {v2 : Int32} {σ : Sg} {K : Int32 → Sg → Prop} (h : Ob σ v0 4 ∧ (((σ.2.1 v0 6) = 0 → Ob σ (σ.2.2 v0 0) 7 ∧ Con l mX7_keepStaged [.inr (σ.2.2 v0 0)] σ (PI (fun x3 σ3 => K x3 σ3))) ∧ (¬ (σ.2.1 v0 6) = 0 → Ob σ (σ.2.2 v0 1) 10 ∧ Con l mX10_placeAt [.inr (σ.2.2 v0 1), .inl (σ.2.1 v0 4)] σ (PI (fun x5 σ5 => ∀ σ7, σ7 = w1 σ5 v0 7 x5 → Ob σ7 (σ7.2.2 v0 0) 7 ∧ Con l mX7_dropStaged [.inr (σ7.2.2 v0 0)] σ7 (PV (fun σ8 => K (-1) σ8))))))) : GW l mX4_readText 61 [(0, .inr v0), (1, .inl v1), (2, .inl v2)] [] σ 0 0 (PI K) := by
  refine gw_aload_n (q := 0) dX4_readText_61 rfl rfl ?_
  obtain ⟨g1, h⟩ := h
  refine gw_gI fX4_46 dX4_readText_62 g1 ?_
  refine gw_if_eq (tgt := 92) dX4_readText_65 (by decide) (fun c2 => ?_) (fun c2 => ?_)
  · replace h := h.1 c2
    refine gw_aload_n (q := 0) dX4_readText_92 rfl rfl ?_
    refine gw_gR fX4_12 dX4_readText_93 g1 ?_
    obtain ⟨g4, h⟩ := h
    refine gw_vC (bs := []) (st := []) (vmX7_keepStaged) lX4_62 dX4_readText_96 ⟨by decide, rfl, rfl, by decide, by decide⟩ (Nat.le_of_ble_eq_true rfl) rfl rfl g4 h (kI (fun x3 σ3 h n3 => ?_))
    exact gw_rI dX4_readText_99 rfl (by decide) (by decide) h
  · replace h := h.2 c2
    refine gw_aload_n (q := 0) dX4_readText_68 rfl rfl ?_
    refine gw_aload_n (q := 0) dX4_readText_69 rfl rfl ?_
    refine gw_gR fX4_21 dX4_readText_70 g1 ?_
    refine gw_aload_n (q := 0) dX4_readText_73 rfl rfl ?_
    refine gw_gI fX4_43 dX4_readText_74 g1 ?_
    obtain ⟨g6, h⟩ := h
    refine gw_vC (bs := [.inl (σ.2.1 v0 4)]) (st := [.inr v0]) (vmX10_placeAt) lX4_56 dX4_readText_77 ⟨by decide, rfl, rfl, by decide, by decide⟩ (Nat.le_of_ble_eq_true rfl) rfl rfl g6 h (kI (fun x5 σ5 h n5 => ?_))
    refine gw_pI fX4_35 dX4_readText_80 (g1.up n5) (fun σ7 e7 => ?_)
    replace h := h σ7 e7
    refine gw_aload_n (q := 0) dX4_readText_83 rfl rfl ?_
    refine gw_gR fX4_12 dX4_readText_84 ((g1.up n5).up (n_w1 e7)) ?_
    obtain ⟨g9, h⟩ := h
    refine gw_vC (bs := []) (st := []) (vmX7_dropStaged) lX4_59 dX4_readText_87 ⟨by decide, rfl, rfl, by decide, by decide⟩ (Nat.le_of_ble_eq_true rfl) rfl rfl g9 h (kV (fun σ8 h n8 => ?_))
    refine gw_iconst (v := (-1)) dX4_readText_90 ic_m1 ?_
    exact gw_rI dX4_readText_91 rfl (by decide) (by decide) h
set_option maxHeartbeats 4000000 in
set_option maxRecDepth 20000 in
theorem gX4_readText_25 {l : Launch} {v0 : Nat} {v1 : Int32} {v2 : Int32} {σ : Sg} {K : Int32 → Sg → Prop} (h : ((v1 < v2 → GW l mX4_readText 61 [(0, .inr v0), (1, .inl v1), (2, .inl v2)] [] σ 0 0 (PI K)) ∧ (¬ v1 < v2 → Ob σ v0 4 ∧ ((¬ (σ.2.1 v0 6) = 0 → GW l mX4_readText 61 [(0, .inr v0), (1, .inl v1), (2, .inl v2)] [] σ 0 0 (PI K)) ∧ ((σ.2.1 v0 6) = 0 → Ob σ (σ.2.2 v0 1) 10 ∧ Con l mX10_kindAt [.inr (σ.2.2 v0 1), .inl (σ.2.1 v0 4)] σ (PI (fun x4 σ4 => ((x4 = 0 → GW l mX4_readText 61 [(0, .inr v0), (1, .inl v1), (2, .inl v2)] [] σ4 0 0 (PI K)) ∧ (¬ x4 = 0 → Con l mX4_readLine [.inr v0] σ4 (PV (fun σ7 => GW l mX4_readText 25 [(0, .inr v0), (1, .inl v1), (2, .inl (v2 + 1))] [] σ7 0 0 (PI K)))))))))))) : GW l mX4_readText 25 [(0, .inr v0), (1, .inl v1), (2, .inl v2)] [] σ 0 0 (PI K) := by
  refine gw_iload_n (q := 2) dX4_readText_25 rfl rfl ?_
  refine gw_iload_n (q := 1) dX4_readText_26 rfl rfl ?_
  refine gw_icmp_gt (tgt := 61) dX4_readText_27 (by decide) (fun c1 => ?_) (fun c1 => ?_)
  · replace h := h.1 c1
    exact h
  · replace h := h.2 c1
    refine gw_aload_n (q := 0) dX4_readText_30 rfl rfl ?_
    obtain ⟨g2, h⟩ := h
    refine gw_gI fX4_46 dX4_readText_31 g2 ?_
    refine gw_if_ne (tgt := 61) dX4_readText_34 (by decide) (fun c3 => ?_) (fun c3 => ?_)
    · replace h := h.1 c3
      exact h
    · replace h := h.2 c3
      refine gw_aload_n (q := 0) dX4_readText_37 rfl rfl ?_
      refine gw_gR fX4_21 dX4_readText_38 g2 ?_
      refine gw_aload_n (q := 0) dX4_readText_41 rfl rfl ?_
      refine gw_gI fX4_43 dX4_readText_42 g2 ?_
      obtain ⟨g5, h⟩ := h
      refine gw_vC (bs := [.inl (σ.2.1 v0 4)]) (st := []) (vmX10_kindAt) lX4_49 dX4_readText_45 ⟨by decide, rfl, rfl, by decide, by decide⟩ (Nat.le_of_ble_eq_true rfl) rfl rfl g5 h (kI (fun x4 σ4 h n4 => ?_))
      refine gw_if_eq (tgt := 61) dX4_readText_48 (by decide) (fun c6 => ?_) (fun c6 => ?_)
      · replace h := h.1 c6
        exact h
      · replace h := h.2 c6
        refine gw_aload_n (q := 0) dX4_readText_51 rfl rfl ?_
        refine gw_vC (bs := []) (st := []) (vmX4_readLine) lX4_53 dX4_readText_52 ⟨by decide, rfl, rfl, by decide, by decide⟩ (Nat.le_of_ble_eq_true rfl) rfl rfl (g2.up n4) h (kV (fun σ7 h n7 => ?_))
        refine gw_inc (lo' := [(0, .inr v0), (1, .inl v1), (2, .inl (v2 + 1))]) (q := 2) (c := 1) dX4_readText_55 ic_1 rfl (by decide) rfl ?_
        refine gw_goto (tgt := 25) dX4_readText_58 (by decide) ?_
        exact h
set_option maxHeartbeats 4000000 in
set_option maxRecDepth 20000 in
theorem eX4_readText {l : Launch} {v0 : Nat} {v1 : Int32} {σ : Sg} {K : Int32 → Sg → Prop} (h : Ob σ v0 4 ∧ Ob σ (σ.2.2 v0 1) 10 ∧ Con l mX10_split [.inr (σ.2.2 v0 1), .inl v1] σ (PV (fun σ2 => ∀ σ4, σ4 = w1 σ2 v0 4 0 → ∀ σ5, σ5 = w1 σ4 v0 6 0 → ∀ σ6, σ6 = w1 σ5 v0 7 (-1) → GW l mX4_readText 25 [(0, .inr v0), (1, .inl v1), (2, .inl 0)] [] σ6 0 0 (PI K)))) : Con l mX4_readText [.inr v0, .inl v1] σ (PI K) := by
  refine con_gw rfl (Nat.le_of_ble_eq_true rfl) ?_
  show GW l mX4_readText 0 [(0, .inr v0), (1, .inl v1)] [] σ 0 0 (PI K)
  refine gw_aload_n (q := 0) dX4_readText_0 rfl rfl ?_
  obtain ⟨g1, h⟩ := h
  refine gw_gR fX4_21 dX4_readText_1 g1 ?_
  refine gw_iload_n (q := 1) dX4_readText_4 rfl rfl ?_
  obtain ⟨g3, h⟩ := h
  refine gw_vC (bs := [.inl v1]) (st := []) (vmX10_split) lX4_39 dX4_readText_5 ⟨by decide, rfl, rfl, by decide, by decide⟩ (Nat.le_of_ble_eq_true rfl) rfl rfl g3 h (kV (fun σ2 h n2 => ?_))
  refine gw_aload_n (q := 0) dX4_readText_8 rfl rfl ?_
  refine gw_iconst (v := 0) dX4_readText_9 ic_0 ?_
  refine gw_pI fX4_43 dX4_readText_10 (g1.up n2) (fun σ4 e4 => ?_)
  replace h := h σ4 e4
  refine gw_aload_n (q := 0) dX4_readText_13 rfl rfl ?_
  refine gw_iconst (v := 0) dX4_readText_14 ic_0 ?_
  refine gw_pI fX4_46 dX4_readText_15 ((g1.up n2).up (n_w1 e4)) (fun σ5 e5 => ?_)
  replace h := h σ5 e5
  refine gw_aload_n (q := 0) dX4_readText_18 rfl rfl ?_
  refine gw_iconst (v := (-1)) dX4_readText_19 ic_m1 ?_
  refine gw_pI fX4_35 dX4_readText_20 (((g1.up n2).up (n_w1 e4)).up (n_w1 e5)) (fun σ6 e6 => ?_)
  replace h := h σ6 e6
  refine gw_iconst (v := 0) dX4_readText_23 ic_0 ?_
  refine gw_istore_n (lo' := [(0, .inr v0), (1, .inl v1), (2, .inl 0)]) dX4_readText_24 rfl (by decide) rfl ?_
  exact h
set_option maxHeartbeats 4000000 in
set_option maxRecDepth 20000 in
theorem eX4_fail {l : Launch} {v0 : Nat} {v1 : Int32} {σ : Sg} {K : Sg → Prop} (h : Ob σ v0 4 ∧ ∀ σ2, σ2 = w1 σ v0 6 v1 → K σ2) : Con l mX4_fail [.inr v0, .inl v1] σ (PV K) := by
  refine con_gw rfl (Nat.le_of_ble_eq_true rfl) ?_
  show GW l mX4_fail 0 [(0, .inr v0), (1, .inl v1)] [] σ 0 0 (PV K)
  refine gw_aload_n (q := 0) dX4_fail_0 rfl rfl ?_
  refine gw_iload_n (q := 1) dX4_fail_1 rfl rfl ?_
  obtain ⟨g1, h⟩ := h
  refine gw_pI fX4_46 dX4_fail_2 g1 (fun σ2 e2 => ?_)
  replace h := h σ2 e2
  exact gw_rV dX4_fail_5 rfl (by decide) (by decide) h
set_option maxHeartbeats 4000000 in
set_option maxRecDepth 20000 in
theorem eX4_take {l : Launch} {v0 : Nat} {v1 : Int32} {σ : Sg} {K : Int32 → Sg → Prop} (h : Ob σ v0 4 ∧ Ob σ (σ.2.2 v0 1) 10 ∧ Con l mX10_kindAt [.inr (σ.2.2 v0 1), .inl (σ.2.1 v0 4)] σ (PI (fun x2 σ2 => ((x2 = v1 → ∀ σ5, σ5 = w1 σ2 v0 4 ((σ2.2.1 v0 4) + 1) → K 1 σ5) ∧ (¬ x2 = v1 → Con l mX4_fail [.inr v0, .inl 1] σ2 (PV (fun σ6 => K 0 σ6))))))) : Con l mX4_take [.inr v0, .inl v1] σ (PI K) := by
  refine con_gw rfl (Nat.le_of_ble_eq_true rfl) ?_
  show GW l mX4_take 0 [(0, .inr v0), (1, .inl v1)] [] σ 0 0 (PI K)
  refine gw_aload_n (q := 0) dX4_take_0 rfl rfl ?_
  obtain ⟨g1, h⟩ := h
  refine gw_gR fX4_21 dX4_take_1 g1 ?_
  refine gw_aload_n (q := 0) dX4_take_4 rfl rfl ?_
  refine gw_gI fX4_43 dX4_take_5 g1 ?_
  obtain ⟨g3, h⟩ := h
  refine gw_vC (bs := [.inl (σ.2.1 v0 4)]) (st := []) (vmX10_kindAt) lX4_49 dX4_take_8 ⟨by decide, rfl, rfl, by decide, by decide⟩ (Nat.le_of_ble_eq_true rfl) rfl rfl g3 h (kI (fun x2 σ2 h n2 => ?_))
  refine gw_iload_n (q := 1) dX4_take_11 rfl rfl ?_
  refine gw_icmp_eq (tgt := 22) dX4_take_12 (by decide) (fun c4 => ?_) (fun c4 => ?_)
  · replace h := h.1 c4
    refine gw_aload_n (q := 0) dX4_take_22 rfl rfl ?_
    refine gw_dup dX4_take_23 ?_
    refine gw_gI fX4_43 dX4_take_24 (g1.up n2) ?_
    refine gw_iconst (v := 1) dX4_take_27 ic_1 ?_
    refine gw_iadd dX4_take_28 ?_
    refine gw_pI fX4_43 dX4_take_29 (g1.up n2) (fun σ5 e5 => ?_)
    replace h := h σ5 e5
    refine gw_iconst (v := 1) dX4_take_32 ic_1 ?_
    exact gw_rZ dX4_take_33 rfl (by decide) (by decide) (by decide) h
  · replace h := h.2 c4
    refine gw_aload_n (q := 0) dX4_take_15 rfl rfl ?_
    refine gw_iconst (v := 1) dX4_take_16 ic_1 ?_
    refine gw_vC (bs := [.inl 1]) (st := []) (vmX4_fail) lX4_66 dX4_take_17 ⟨by decide, rfl, rfl, by decide, by decide⟩ (Nat.le_of_ble_eq_true rfl) rfl rfl (g1.up n2) h (kV (fun σ6 h n6 => ?_))
    refine gw_iconst (v := 0) dX4_take_20 ic_0 ?_
    exact gw_rZ dX4_take_21 rfl (by decide) (by decide) (by decide) h
set_option maxHeartbeats 4000000 in
set_option maxRecDepth 20000 in
theorem gX4_readLine_98 {l : Launch} {v0 : Nat} {v1 : Int32} {v2 : Int32} {σ : Sg} {K : Sg → Prop} (h : ((v1 = 0 → Ob σ v0 4 ∧ Con l mX4_closeLine [.inr v0] σ (PV (fun σ2 => K σ2))) ∧ (¬ v1 = 0 → Ob σ v0 4 ∧ Con l mX4_fail [.inr v0, .inl 2] σ (PV (fun σ4 => K σ4))))) : GW l mX4_readLine 98 [(0, .inr v0), (1, .inl v1), (2, .inl v2)] [] σ 0 0 (PV K) := by
  refine gw_iload_n (q := 1) dX4_readLine_98 rfl rfl ?_
  refine gw_if_eq (tgt := 110) dX4_readLine_99 (by decide) (fun c1 => ?_) (fun c1 => ?_)
  · replace h := h.1 c1
    refine gw_aload_n (q := 0) dX4_readLine_110 rfl rfl ?_
    obtain ⟨g3, h⟩ := h
    refine gw_vC (bs := []) (st := []) (vmX4_closeLine) lX4_84 dX4_readLine_111 ⟨by decide, rfl, rfl, by decide, by decide⟩ (Nat.le_of_ble_eq_true rfl) rfl rfl g3 h (kV (fun σ2 h n2 => ?_))
    exact gw_rV dX4_readLine_114 rfl (by decide) (by decide) h
  · replace h := h.2 c1
    refine gw_aload_n (q := 0) dX4_readLine_102 rfl rfl ?_
    refine gw_iconst (v := 2) dX4_readLine_103 ic_2 ?_
    obtain ⟨g5, h⟩ := h
    refine gw_vC (bs := [.inl 2]) (st := []) (vmX4_fail) lX4_66 dX4_readLine_104 ⟨by decide, rfl, rfl, by decide, by decide⟩ (Nat.le_of_ble_eq_true rfl) rfl rfl g5 h (kV (fun σ4 h n4 => ?_))
    refine gw_goto (tgt := 114) dX4_readLine_107 (by decide) ?_
    exact gw_rV dX4_readLine_114 rfl (by decide) (by decide) h
set_option maxHeartbeats 4000000 in
set_option maxRecDepth 20000 in
theorem gX4_readLine_56 {l : Launch} {v0 : Nat} {v1 : Int32} {v2 : Int32} {t0 : Nat} {t1 : Int32} {σ : Sg} {K : Sg → Prop} (h : Ob σ t0 4 ∧ Con l mX4_readPart [.inr t0, .inl t1] σ (PV (fun σ1 => Ob σ1 v0 4 ∧ (((σ1.2.1 v0 6) = 0 → Con l mX4_joinPart [.inr v0] σ1 (PV (fun σ5 => Ob σ5 (σ5.2.2 v0 1) 10 ∧ Con l mX10_kindAt [.inr (σ5.2.2 v0 1), .inl (σ5.2.1 v0 4)] σ5 (PI (fun x6 σ6 => ((¬ x6 = 5 → GW l mX4_readLine 18 [(0, .inr v0), (1, .inl 0), (2, .inl (v2 + 1))] [] σ6 0 0 (PV K)) ∧ (x6 = 5 → GW l mX4_readLine 18 [(0, .inr v0), (1, .inl 1), (2, .inl (v2 + 1))] [] σ6 0 0 (PV K)))))))) ∧ (¬ (σ1.2.1 v0 6) = 0 → K σ1))))) : GW l mX4_readLine 56 [(0, .inr v0), (1, .inl v1), (2, .inl v2)] [.inl t1, .inr t0] σ 0 0 (PV K) := by
  obtain ⟨g2, h⟩ := h
  refine gw_vC (bs := [.inl t1]) (st := []) (vmX4_readPart) lX4_77 dX4_readLine_56 ⟨by decide, rfl, rfl, by decide, by decide⟩ (Nat.le_of_ble_eq_true rfl) rfl rfl g2 h (kV (fun σ1 h n1 => ?_))
  refine gw_aload_n (q := 0) dX4_readLine_59 rfl rfl ?_
  obtain ⟨g3, h⟩ := h
  refine gw_gI fX4_46 dX4_readLine_60 g3 ?_
  refine gw_if_eq (tgt := 67) dX4_readLine_63 (by decide) (fun c4 => ?_) (fun c4 => ?_)
  · replace h := h.1 c4
    refine gw_aload_n (q := 0) dX4_readLine_67 rfl rfl ?_
    refine gw_vC (bs := []) (st := []) (vmX4_joinPart) lX4_81 dX4_readLine_68 ⟨by decide, rfl, rfl, by decide, by decide⟩ (Nat.le_of_ble_eq_true rfl) rfl rfl g3 h (kV (fun σ5 h n5 => ?_))
    refine gw_aload_n (q := 0) dX4_readLine_71 rfl rfl ?_
    refine gw_gR fX4_21 dX4_readLine_72 (g3.up n5) ?_
    refine gw_aload_n (q := 0) dX4_readLine_75 rfl rfl ?_
    refine gw_gI fX4_43 dX4_readLine_76 (g3.up n5) ?_
    obtain ⟨g7, h⟩ := h
    refine gw_vC (bs := [.inl (σ5.2.1 v0 4)]) (st := []) (vmX10_kindAt) lX4_49 dX4_readLine_79 ⟨by decide, rfl, rfl, by decide, by decide⟩ (Nat.le_of_ble_eq_true rfl) rfl rfl g7 h (kI (fun x6 σ6 h n6 => ?_))
    refine gw_iconst (v := 5) dX4_readLine_82 ic_5 ?_
    refine gw_icmp_ne (tgt := 90) dX4_readLine_83 (by decide) (fun c8 => ?_) (fun c8 => ?_)
    · replace h := h.1 c8
      refine gw_iconst (v := 0) dX4_readLine_90 ic_0 ?_
      refine gw_istore_n (lo' := [(0, .inr v0), (1, .inl 0), (2, .inl v2)]) dX4_readLine_91 rfl (by decide) rfl ?_
      refine gw_inc (lo' := [(0, .inr v0), (1, .inl 0), (2, .inl (v2 + 1))]) (q := 2) (c := 1) dX4_readLine_92 ic_1 rfl (by decide) rfl ?_
      refine gw_goto (tgt := 18) dX4_readLine_95 (by decide) ?_
      exact h
    · replace h := h.2 c8
      refine gw_iconst (v := 1) dX4_readLine_86 ic_1 ?_
      refine gw_goto (tgt := 91) dX4_readLine_87 (by decide) ?_
      refine gw_istore_n (lo' := [(0, .inr v0), (1, .inl 1), (2, .inl v2)]) dX4_readLine_91 rfl (by decide) rfl ?_
      refine gw_inc (lo' := [(0, .inr v0), (1, .inl 1), (2, .inl (v2 + 1))]) (q := 2) (c := 1) dX4_readLine_92 ic_1 rfl (by decide) rfl ?_
      refine gw_goto (tgt := 18) dX4_readLine_95 (by decide) ?_
      exact h
  · replace h := h.2 c4
    exact gw_rV dX4_readLine_66 rfl (by decide) (by decide) h
set_option maxHeartbeats 4000000 in
set_option maxRecDepth 20000 in
theorem gX4_readLine_18 {l : Launch} {v0 : Nat} {v1 : Int32} {v2 : Int32} {σ : Sg} {K : Sg → Prop} (h : ((8 ≤ v2 → GW l mX4_readLine 98 [(0, .inr v0), (1, .inl v1), (2, .inl v2)] [] σ 0 0 (PV K)) ∧ (¬ 8 ≤ v2 → ((v1 = 0 → GW l mX4_readLine 98 [(0, .inr v0), (1, .inl v1), (2, .inl v2)] [] σ 0 0 (PV K)) ∧ (¬ v1 = 0 → Ob σ v0 4 ∧ ((¬ v2 = 0 → ∀ σ5, σ5 = w1 σ v0 4 ((σ.2.1 v0 4) + 1) → ((¬ v2 = 0 → GW l mX4_readLine 56 [(0, .inr v0), (1, .inl v1), (2, .inl v2)] [.inl 0, .inr v0] σ5 0 0 (PV K)) ∧ (v2 = 0 → GW l mX4_readLine 56 [(0, .inr v0), (1, .inl v1), (2, .inl v2)] [.inl 1, .inr v0] σ5 0 0 (PV K)))) ∧ (v2 = 0 → ∀ σ7, σ7 = w1 σ v0 4 ((σ.2.1 v0 4) + 0) → ((¬ v2 = 0 → GW l mX4_readLine 56 [(0, .inr v0), (1, .inl v1), (2, .inl v2)] [.inl 0, .inr v0] σ7 0 0 (PV K)) ∧ (v2 = 0 → GW l mX4_readLine 56 [(0, .inr v0), (1, .inl v1), (2, .inl v2)] [.inl 1, .inr v0] σ7 0 0 (PV K)))))))))) : GW l mX4_readLine 18 [(0, .inr v0), (1, .inl v1), (2, .inl v2)] [] σ 0 0 (PV K) := by
  refine gw_iload_n (q := 2) dX4_readLine_18 rfl rfl ?_
  refine gw_bipush (v := 8) dX4_readLine_19 bp_8 ?_
  refine gw_icmp_ge (tgt := 98) dX4_readLine_21 (by decide) (fun c1 => ?_) (fun c1 => ?_)
  · replace h := h.1 c1
    exact h
  · replace h := h.2 c1
    refine gw_iload_n (q := 1) dX4_readLine_24 rfl rfl ?_
    refine gw_if_eq (tgt := 98) dX4_readLine_25 (by decide) (fun c2 => ?_) (fun c2 => ?_)
    · replace h := h.1 c2
      exact h
    · replace h := h.2 c2
      refine gw_aload_n (q := 0) dX4_readLine_28 rfl rfl ?_
      refine gw_dup dX4_readLine_29 ?_
      obtain ⟨g3, h⟩ := h
      refine gw_gI fX4_43 dX4_readLine_30 g3 ?_
      refine gw_iload_n (q := 2) dX4_readLine_33 rfl rfl ?_
      refine gw_if_ne (tgt := 41) dX4_readLine_34 (by decide) (fun c4 => ?_) (fun c4 => ?_)
      · replace h := h.1 c4
        refine gw_iconst (v := 1) dX4_readLine_41 ic_1 ?_
        refine gw_iadd dX4_readLine_42 ?_
        refine gw_pI fX4_43 dX4_readLine_43 g3 (fun σ5 e5 => ?_)
        replace h := h σ5 e5
        refine gw_aload_n (q := 0) dX4_readLine_46 rfl rfl ?_
        refine gw_iload_n (q := 2) dX4_readLine_47 rfl rfl ?_
        refine gw_if_ne (tgt := 55) dX4_readLine_48 (by decide) (fun c6 => ?_) (fun c6 => ?_)
        · replace h := h.1 c6
          refine gw_iconst (v := 0) dX4_readLine_55 ic_0 ?_
          exact h
        · replace h := h.2 c6
          refine gw_iconst (v := 1) dX4_readLine_51 ic_1 ?_
          refine gw_goto (tgt := 56) dX4_readLine_52 (by decide) ?_
          exact h
      · replace h := h.2 c4
        refine gw_iconst (v := 0) dX4_readLine_37 ic_0 ?_
        refine gw_goto (tgt := 42) dX4_readLine_38 (by decide) ?_
        refine gw_iadd dX4_readLine_42 ?_
        refine gw_pI fX4_43 dX4_readLine_43 g3 (fun σ7 e7 => ?_)
        replace h := h σ7 e7
        refine gw_aload_n (q := 0) dX4_readLine_46 rfl rfl ?_
        refine gw_iload_n (q := 2) dX4_readLine_47 rfl rfl ?_
        refine gw_if_ne (tgt := 55) dX4_readLine_48 (by decide) (fun c8 => ?_) (fun c8 => ?_)
        · replace h := h.1 c8
          refine gw_iconst (v := 0) dX4_readLine_55 ic_0 ?_
          exact h
        · replace h := h.2 c8
          refine gw_iconst (v := 1) dX4_readLine_51 ic_1 ?_
          refine gw_goto (tgt := 56) dX4_readLine_52 (by decide) ?_
          exact h
set_option maxHeartbeats 4000000 in
set_option maxRecDepth 20000 in
theorem eX4_readLine {l : Launch} {v0 : Nat} {σ : Sg} {K : Sg → Prop} (h : Ob σ v0 4 ∧ Con l mX4_take [.inr v0, .inl 4] σ (PI (fun x1 σ1 => ((¬ x1 = 0 → ∀ σ4, σ4 = w1 σ1 v0 5 0 → GW l mX4_readLine 18 [(0, .inr v0), (1, .inl 1), (2, .inl 0)] [] σ4 0 0 (PV K)) ∧ (x1 = 0 → K σ1))))) : Con l mX4_readLine [.inr v0] σ (PV K) := by
  refine con_gw rfl (Nat.le_of_ble_eq_true rfl) ?_
  show GW l mX4_readLine 0 [(0, .inr v0)] [] σ 0 0 (PV K)
  refine gw_aload_n (q := 0) dX4_readLine_0 rfl rfl ?_
  refine gw_iconst (v := 4) dX4_readLine_1 ic_4 ?_
  obtain ⟨g2, h⟩ := h
  refine gw_vC (bs := [.inl 4]) (st := []) (vmX4_take) lX4_69 dX4_readLine_2 ⟨by decide, rfl, rfl, by decide, by decide⟩ (Nat.le_of_ble_eq_true rfl) rfl rfl g2 h (kI (fun x1 σ1 h n1 => ?_))
  refine gw_if_ne (tgt := 9) dX4_readLine_5 (by decide) (fun c3 => ?_) (fun c3 => ?_)
  · replace h := h.1 c3
    refine gw_aload_n (q := 0) dX4_readLine_9 rfl rfl ?_
    refine gw_iconst (v := 0) dX4_readLine_10 ic_0 ?_
    refine gw_pZ fX4_73 dX4_readLine_11 (by decide) (g2.up n1) (fun σ4 e4 => ?_)
    replace h := h σ4 e4
    refine gw_iconst (v := 1) dX4_readLine_14 ic_1 ?_
    refine gw_istore_n (lo' := [(0, .inr v0), (1, .inl 1)]) dX4_readLine_15 rfl (by decide) rfl ?_
    refine gw_iconst (v := 0) dX4_readLine_16 ic_0 ?_
    refine gw_istore_n (lo' := [(0, .inr v0), (1, .inl 1), (2, .inl 0)]) dX4_readLine_17 rfl (by decide) rfl ?_
    exact h
  · replace h := h.2 c3
    exact gw_rV dX4_readLine_8 rfl (by decide) (by decide) h
set_option maxHeartbeats 4000000 in
set_option maxRecDepth 20000 in
theorem eX4_closeLine {l : Launch} {v0 : Nat} {σ : Sg} {K : Sg → Prop} (h : Ob σ v0 4 ∧ Ob σ (σ.2.2 v0 1) 10 ∧ Con l mX10_kindAt [.inr (σ.2.2 v0 1), .inl (σ.2.1 v0 4)] σ (PI (fun x2 σ2 => ((x2 = 3 → ((¬ (σ2.2.1 v0 5) = 0 → Con l mX4_fail [.inr v0, .inl 5] σ2 (PV (fun σ6 => K σ6))) ∧ ((σ2.2.1 v0 5) = 0 → Ob σ2 (σ2.2.2 v0 0) 7 ∧ Con l mX7_stage [.inr (σ2.2.2 v0 0), .inr (σ2.2.2 v0 2)] σ2 (PI (fun x7 σ7 => ((¬ x7 = 0 → ∀ σ10, σ10 = w1 σ7 v0 4 ((σ7.2.1 v0 4) + 1) → K σ10) ∧ (x7 = 0 → Con l mX4_fail [.inr v0, .inl 5] σ7 (PV (fun σ11 => K σ11))))))))) ∧ (¬ x2 = 3 → Con l mX4_fail [.inr v0, .inl 1] σ2 (PV (fun σ12 => K σ12))))))) : Con l mX4_closeLine [.inr v0] σ (PV K) := by
  refine con_gw rfl (Nat.le_of_ble_eq_true rfl) ?_
  show GW l mX4_closeLine 0 [(0, .inr v0)] [] σ 0 0 (PV K)
  refine gw_aload_n (q := 0) dX4_closeLine_0 rfl rfl ?_
  obtain ⟨g1, h⟩ := h
  refine gw_gR fX4_21 dX4_closeLine_1 g1 ?_
  refine gw_aload_n (q := 0) dX4_closeLine_4 rfl rfl ?_
  refine gw_gI fX4_43 dX4_closeLine_5 g1 ?_
  obtain ⟨g3, h⟩ := h
  refine gw_vC (bs := [.inl (σ.2.1 v0 4)]) (st := []) (vmX10_kindAt) lX4_49 dX4_closeLine_8 ⟨by decide, rfl, rfl, by decide, by decide⟩ (Nat.le_of_ble_eq_true rfl) rfl rfl g3 h (kI (fun x2 σ2 h n2 => ?_))
  refine gw_iconst (v := 3) dX4_closeLine_11 ic_3 ?_
  refine gw_icmp_eq (tgt := 23) dX4_closeLine_12 (by decide) (fun c4 => ?_) (fun c4 => ?_)
  · replace h := h.1 c4
    refine gw_aload_n (q := 0) dX4_closeLine_23 rfl rfl ?_
    refine gw_gI fX4_73 dX4_closeLine_24 (g1.up n2) ?_
    refine gw_if_ne (tgt := 44) dX4_closeLine_27 (by decide) (fun c5 => ?_) (fun c5 => ?_)
    · replace h := h.1 c5
      refine gw_aload_n (q := 0) dX4_closeLine_44 rfl rfl ?_
      refine gw_iconst (v := 5) dX4_closeLine_45 ic_5 ?_
      refine gw_vC (bs := [.inl 5]) (st := []) (vmX4_fail) lX4_66 dX4_closeLine_46 ⟨by decide, rfl, rfl, by decide, by decide⟩ (Nat.le_of_ble_eq_true rfl) rfl rfl (g1.up n2) h (kV (fun σ6 h n6 => ?_))
      refine gw_goto (tgt := 62) dX4_closeLine_49 (by decide) ?_
      exact gw_rV dX4_closeLine_62 rfl (by decide) (by decide) h
    · replace h := h.2 c5
      refine gw_aload_n (q := 0) dX4_closeLine_30 rfl rfl ?_
      refine gw_gR fX4_12 dX4_closeLine_31 (g1.up n2) ?_
      refine gw_aload_n (q := 0) dX4_closeLine_34 rfl rfl ?_
      refine gw_gR fX4_28 dX4_closeLine_35 (g1.up n2) ?_
      obtain ⟨g8, h⟩ := h
      refine gw_vC (bs := [.inr (σ2.2.2 v0 2)]) (st := []) (vmX7_stage) lX4_87 dX4_closeLine_38 ⟨by decide, rfl, rfl, by decide, by decide⟩ (Nat.le_of_ble_eq_true rfl) rfl rfl g8 h (kI (fun x7 σ7 h n7 => ?_))
      refine gw_if_ne (tgt := 52) dX4_closeLine_41 (by decide) (fun c9 => ?_) (fun c9 => ?_)
      · replace h := h.1 c9
        refine gw_aload_n (q := 0) dX4_closeLine_52 rfl rfl ?_
        refine gw_dup dX4_closeLine_53 ?_
        refine gw_gI fX4_43 dX4_closeLine_54 ((g1.up n2).up n7) ?_
        refine gw_iconst (v := 1) dX4_closeLine_57 ic_1 ?_
        refine gw_iadd dX4_closeLine_58 ?_
        refine gw_pI fX4_43 dX4_closeLine_59 ((g1.up n2).up n7) (fun σ10 e10 => ?_)
        replace h := h σ10 e10
        exact gw_rV dX4_closeLine_62 rfl (by decide) (by decide) h
      · replace h := h.2 c9
        refine gw_aload_n (q := 0) dX4_closeLine_44 rfl rfl ?_
        refine gw_iconst (v := 5) dX4_closeLine_45 ic_5 ?_
        refine gw_vC (bs := [.inl 5]) (st := []) (vmX4_fail) lX4_66 dX4_closeLine_46 ⟨by decide, rfl, rfl, by decide, by decide⟩ (Nat.le_of_ble_eq_true rfl) rfl rfl ((g1.up n2).up n7) h (kV (fun σ11 h n11 => ?_))
        refine gw_goto (tgt := 62) dX4_closeLine_49 (by decide) ?_
        exact gw_rV dX4_closeLine_62 rfl (by decide) (by decide) h
  · replace h := h.2 c4
    refine gw_aload_n (q := 0) dX4_closeLine_15 rfl rfl ?_
    refine gw_iconst (v := 1) dX4_closeLine_16 ic_1 ?_
    refine gw_vC (bs := [.inl 1]) (st := []) (vmX4_fail) lX4_66 dX4_closeLine_17 ⟨by decide, rfl, rfl, by decide, by decide⟩ (Nat.le_of_ble_eq_true rfl) rfl rfl (g1.up n2) h (kV (fun σ12 h n12 => ?_))
    refine gw_goto (tgt := 62) dX4_closeLine_20 (by decide) ?_
    exact gw_rV dX4_closeLine_62 rfl (by decide) (by decide) h
set_option maxHeartbeats 4000000 in
set_option maxRecDepth 20000 in
theorem eX4_readPart {l : Launch} {v0 : Nat} {v1 : Int32} {σ : Sg} {K : Sg → Prop} (h : Ob σ v0 4 ∧ Con l mX4_readTape [.inr v0, .inl v1] σ (PR (fun x1 σ1 => ((¬ x1 = 0 → Ob σ1 x1 9 ∧ Ob σ1 (σ1.2.2 v0 3) 9 ∧ Con l mX9_begin [.inr (σ1.2.2 v0 3), .inl (σ1.2.1 x1 2)] σ1 (PV (fun σ5 => Con l mX4_readCut [.inr v0, .inr x1] σ5 (PV (fun σ7 => ((¬ (σ7.2.1 v0 6) = 0 → K σ7) ∧ ((σ7.2.1 v0 6) = 0 → Con l mX4_readChanges [.inr v0] σ7 (PV (fun σ9 => K σ9))))))))) ∧ (x1 = 0 → K σ1))))) : Con l mX4_readPart [.inr v0, .inl v1] σ (PV K) := by
  refine con_gw rfl (Nat.le_of_ble_eq_true rfl) ?_
  show GW l mX4_readPart 0 [(0, .inr v0), (1, .inl v1)] [] σ 0 0 (PV K)
  refine gw_aload_n (q := 0) dX4_readPart_0 rfl rfl ?_
  refine gw_iload_n (q := 1) dX4_readPart_1 rfl rfl ?_
  obtain ⟨g2, h⟩ := h
  refine gw_vC (bs := [.inl v1]) (st := []) (vmX4_readTape) lX4_91 dX4_readPart_2 ⟨by decide, rfl, rfl, by decide, by decide⟩ (Nat.le_of_ble_eq_true rfl) rfl rfl g2 h (kR (fun x1 σ1 h n1 => ?_))
  refine gw_astore_n (lo' := [(0, .inr v0), (1, .inl v1), (2, .inr x1)]) dX4_readPart_5 rfl (by decide) rfl ?_
  refine gw_aload_n (q := 2) dX4_readPart_6 rfl rfl ?_
  refine gw_ifnonnull (tgt := 11) dX4_readPart_7 (by decide) (fun c3 => ?_) (fun c3 => ?_)
  · replace h := h.1 c3
    refine gw_aload_n (q := 0) dX4_readPart_11 rfl rfl ?_
    refine gw_gR fX4_32 dX4_readPart_12 (g2.up n1) ?_
    refine gw_aload_n (q := 2) dX4_readPart_15 rfl rfl ?_
    obtain ⟨g4, h⟩ := h
    refine gw_gI fX4_95 dX4_readPart_16 g4 ?_
    obtain ⟨g6, h⟩ := h
    refine gw_vC (bs := [.inl (σ1.2.1 x1 2)]) (st := []) (vmX9_begin) lX4_98 dX4_readPart_19 ⟨by decide, rfl, rfl, by decide, by decide⟩ (Nat.le_of_ble_eq_true rfl) rfl rfl g6 h (kV (fun σ5 h n5 => ?_))
    refine gw_aload_n (q := 0) dX4_readPart_22 rfl rfl ?_
    refine gw_aload_n (q := 2) dX4_readPart_23 rfl rfl ?_
    refine gw_vC (bs := [.inr x1]) (st := []) (vmX4_readCut) lX4_101 dX4_readPart_24 ⟨by decide, rfl, rfl, by decide, by decide⟩ (Nat.le_of_ble_eq_true rfl) rfl rfl ((g2.up n1).up n5) h (kV (fun σ7 h n7 => ?_))
    refine gw_aload_n (q := 0) dX4_readPart_27 rfl rfl ?_
    refine gw_gI fX4_46 dX4_readPart_28 (((g2.up n1).up n5).up n7) ?_
    refine gw_if_ne (tgt := 38) dX4_readPart_31 (by decide) (fun c8 => ?_) (fun c8 => ?_)
    · replace h := h.1 c8
      exact gw_rV dX4_readPart_38 rfl (by decide) (by decide) h
    · replace h := h.2 c8
      refine gw_aload_n (q := 0) dX4_readPart_34 rfl rfl ?_
      refine gw_vC (bs := []) (st := []) (vmX4_readChanges) lX4_105 dX4_readPart_35 ⟨by decide, rfl, rfl, by decide, by decide⟩ (Nat.le_of_ble_eq_true rfl) rfl rfl (((g2.up n1).up n5).up n7) h (kV (fun σ9 h n9 => ?_))
      exact gw_rV dX4_readPart_38 rfl (by decide) (by decide) h
  · replace h := h.2 c3
    exact gw_rV dX4_readPart_10 rfl (by decide) (by decide) h
set_option maxHeartbeats 4000000 in
set_option maxRecDepth 20000 in
theorem eX4_readTape {l : Launch} {v0 : Nat} {v1 : Int32} {σ : Sg} {K : Nat → Sg → Prop} (h : Ob σ v0 4 ∧ Con l mX4_number [.inr v0, .inl 0, .inl 99] σ (PI (fun x1 σ1 => Ob σ1 (σ1.2.2 v0 0) 7 ∧ Con l mX7_tapeOrStagedAt [.inr (σ1.2.2 v0 0), .inl x1] σ1 (PR (fun x3 σ3 => ((¬ x1 = (-1) → ((¬ x3 = 0 → ((v1 = 0 → Ob σ3 (σ3.2.2 v0 2) 9 ∧ Ob σ3 x3 9 ∧ (((σ3.2.1 (σ3.2.2 v0 2) 2) = (σ3.2.1 x3 2) → ∀ σ11, σ11 = w1 σ3 v0 4 ((σ3.2.1 v0 4) + 1) → K x3 σ11) ∧ (¬ (σ3.2.1 (σ3.2.2 v0 2) 2) = (σ3.2.1 x3 2) → Con l mX4_fail [.inr v0, .inl 4] σ3 (PV (fun σ12 => K 0 σ12))))) ∧ (¬ v1 = 0 → Ob σ3 x3 9 ∧ Ob σ3 (σ3.2.2 v0 2) 9 ∧ Con l mX9_begin [.inr (σ3.2.2 v0 2), .inl (σ3.2.1 x3 2)] σ3 (PV (fun σ14 => ∀ σ16, σ16 = w1 σ14 v0 4 ((σ14.2.1 v0 4) + 1) → K x3 σ16))))) ∧ (x3 = 0 → Con l mX4_fail [.inr v0, .inl 3] σ3 (PV (fun σ17 => K 0 σ17))))) ∧ (x1 = (-1) → K 0 σ3))))))) : Con l mX4_readTape [.inr v0, .inl v1] σ (PR K) := by
  refine con_gw rfl (Nat.le_of_ble_eq_true rfl) ?_
  show GW l mX4_readTape 0 [(0, .inr v0), (1, .inl v1)] [] σ 0 0 (PR K)
  refine gw_aload_n (q := 0) dX4_readTape_0 rfl rfl ?_
  refine gw_iconst (v := 0) dX4_readTape_1 ic_0 ?_
  refine gw_bipush (v := 99) dX4_readTape_2 bp_99 ?_
  obtain ⟨g2, h⟩ := h
  refine gw_vC (bs := [.inl 0, .inl 99]) (st := []) (vmX4_number) lX4_108 dX4_readTape_4 ⟨by decide, rfl, rfl, by decide, by decide⟩ (Nat.le_of_ble_eq_true rfl) rfl rfl g2 h (kI (fun x1 σ1 h n1 => ?_))
  refine gw_istore_n (lo' := [(0, .inr v0), (1, .inl v1), (2, .inl x1)]) dX4_readTape_7 rfl (by decide) rfl ?_
  refine gw_aload_n (q := 0) dX4_readTape_8 rfl rfl ?_
  refine gw_gR fX4_12 dX4_readTape_9 (g2.up n1) ?_
  refine gw_iload_n (q := 2) dX4_readTape_12 rfl rfl ?_
  obtain ⟨g4, h⟩ := h
  refine gw_vC (bs := [.inl x1]) (st := []) (vmX7_tapeOrStagedAt) lX4_112 dX4_readTape_13 ⟨by decide, rfl, rfl, by decide, by decide⟩ (Nat.le_of_ble_eq_true rfl) rfl rfl g4 h (kR (fun x3 σ3 h n3 => ?_))
  refine gw_astore_n (lo' := [(0, .inr v0), (1, .inl v1), (2, .inl x1), (3, .inr x3)]) dX4_readTape_16 rfl (by decide) rfl ?_
  refine gw_iload_n (q := 2) dX4_readTape_17 rfl rfl ?_
  refine gw_iconst (v := (-1)) dX4_readTape_18 ic_m1 ?_
  refine gw_icmp_ne (tgt := 24) dX4_readTape_19 (by decide) (fun c5 => ?_) (fun c5 => ?_)
  · replace h := h.1 c5
    refine gw_aload_n (q := 3) dX4_readTape_24 rfl rfl ?_
    refine gw_ifnonnull (tgt := 35) dX4_readTape_25 (by decide) (fun c6 => ?_) (fun c6 => ?_)
    · replace h := h.1 c6
      refine gw_iload_n (q := 1) dX4_readTape_35 rfl rfl ?_
      refine gw_if_eq (tgt := 53) dX4_readTape_36 (by decide) (fun c7 => ?_) (fun c7 => ?_)
      · replace h := h.1 c7
        refine gw_aload_n (q := 0) dX4_readTape_53 rfl rfl ?_
        refine gw_gR fX4_28 dX4_readTape_54 ((g2.up n1).up n3) ?_
        obtain ⟨g8, h⟩ := h
        refine gw_gI fX4_95 dX4_readTape_57 g8 ?_
        refine gw_aload_n (q := 3) dX4_readTape_60 rfl rfl ?_
        obtain ⟨g9, h⟩ := h
        refine gw_gI fX4_95 dX4_readTape_61 g9 ?_
        refine gw_icmp_eq (tgt := 74) dX4_readTape_64 (by decide) (fun c10 => ?_) (fun c10 => ?_)
        · replace h := h.1 c10
          refine gw_aload_n (q := 0) dX4_readTape_74 rfl rfl ?_
          refine gw_dup dX4_readTape_75 ?_
          refine gw_gI fX4_43 dX4_readTape_76 ((g2.up n1).up n3) ?_
          refine gw_iconst (v := 1) dX4_readTape_79 ic_1 ?_
          refine gw_iadd dX4_readTape_80 ?_
          refine gw_pI fX4_43 dX4_readTape_81 ((g2.up n1).up n3) (fun σ11 e11 => ?_)
          replace h := h σ11 e11
          refine gw_aload_n (q := 3) dX4_readTape_84 rfl rfl ?_
          exact gw_rR dX4_readTape_85 rfl (by decide) (by decide) h
        · replace h := h.2 c10
          refine gw_aload_n (q := 0) dX4_readTape_67 rfl rfl ?_
          refine gw_iconst (v := 4) dX4_readTape_68 ic_4 ?_
          refine gw_vC (bs := [.inl 4]) (st := []) (vmX4_fail) lX4_66 dX4_readTape_69 ⟨by decide, rfl, rfl, by decide, by decide⟩ (Nat.le_of_ble_eq_true rfl) rfl rfl ((g2.up n1).up n3) h (kV (fun σ12 h n12 => ?_))
          refine gw_null dX4_readTape_72 ?_
          exact gw_rR dX4_readTape_73 rfl (by decide) (by decide) h
      · replace h := h.2 c7
        refine gw_aload_n (q := 0) dX4_readTape_39 rfl rfl ?_
        refine gw_gR fX4_28 dX4_readTape_40 ((g2.up n1).up n3) ?_
        refine gw_aload_n (q := 3) dX4_readTape_43 rfl rfl ?_
        obtain ⟨g13, h⟩ := h
        refine gw_gI fX4_95 dX4_readTape_44 g13 ?_
        obtain ⟨g15, h⟩ := h
        refine gw_vC (bs := [.inl (σ3.2.1 x3 2)]) (st := []) (vmX9_begin) lX4_98 dX4_readTape_47 ⟨by decide, rfl, rfl, by decide, by decide⟩ (Nat.le_of_ble_eq_true rfl) rfl rfl g15 h (kV (fun σ14 h n14 => ?_))
        refine gw_goto (tgt := 74) dX4_readTape_50 (by decide) ?_
        refine gw_aload_n (q := 0) dX4_readTape_74 rfl rfl ?_
        refine gw_dup dX4_readTape_75 ?_
        refine gw_gI fX4_43 dX4_readTape_76 (((g2.up n1).up n3).up n14) ?_
        refine gw_iconst (v := 1) dX4_readTape_79 ic_1 ?_
        refine gw_iadd dX4_readTape_80 ?_
        refine gw_pI fX4_43 dX4_readTape_81 (((g2.up n1).up n3).up n14) (fun σ16 e16 => ?_)
        replace h := h σ16 e16
        refine gw_aload_n (q := 3) dX4_readTape_84 rfl rfl ?_
        exact gw_rR dX4_readTape_85 rfl (by decide) (by decide) h
    · replace h := h.2 c6
      refine gw_aload_n (q := 0) dX4_readTape_28 rfl rfl ?_
      refine gw_iconst (v := 3) dX4_readTape_29 ic_3 ?_
      refine gw_vC (bs := [.inl 3]) (st := []) (vmX4_fail) lX4_66 dX4_readTape_30 ⟨by decide, rfl, rfl, by decide, by decide⟩ (Nat.le_of_ble_eq_true rfl) rfl rfl ((g2.up n1).up n3) h (kV (fun σ17 h n17 => ?_))
      refine gw_null dX4_readTape_33 ?_
      exact gw_rR dX4_readTape_34 rfl (by decide) (by decide) h
  · replace h := h.2 c5
    refine gw_null dX4_readTape_22 ?_
    exact gw_rR dX4_readTape_23 rfl (by decide) (by decide) h
set_option maxHeartbeats 4000000 in
set_option maxRecDepth 20000 in
theorem eX4_readCut {l : Launch} {v0 : Nat} {v1 : Nat} {σ : Sg} {K : Sg → Prop} (h : Ob σ v0 4 ∧ Ob σ (σ.2.2 v0 1) 10 ∧ Con l mX10_kindAt [.inr (σ.2.2 v0 1), .inl (σ.2.1 v0 4)] σ (PI (fun x2 σ2 => ((x2 = 6 → ∀ σ5, σ5 = w1 σ2 v0 4 ((σ2.2.1 v0 4) + 1) → Con l mX4_tickNumber [.inr v0, .inr v1, .inl 0] σ5 (PI (fun x6 σ6 => ((x6 = (-1) → K σ6) ∧ (¬ x6 = (-1) → Con l mX4_take [.inr v0, .inl 7] σ6 (PI (fun x8 σ8 => ((¬ x8 = 0 → Con l mX4_tickNumber [.inr v0, .inr v1, .inl x6] σ8 (PI (fun x10 σ10 => ((x10 = (-1) → K σ10) ∧ (¬ x10 = (-1) → Ob σ10 (σ10.2.2 v0 3) 9 ∧ Con l mX9_addCut [.inr (σ10.2.2 v0 3), .inr v1, .inl x6, .inl x10] σ10 (PV (fun σ12 => K σ12))))))) ∧ (x8 = 0 → K σ8))))))))) ∧ (¬ x2 = 6 → Ob σ2 v1 9 ∧ Ob σ2 (σ2.2.2 v0 3) 9 ∧ Con l mX9_addCut [.inr (σ2.2.2 v0 3), .inr v1, .inl 0, .inl ((σ2.2.1 v1 3) - 1)] σ2 (PV (fun σ15 => K σ15))))))) : Con l mX4_readCut [.inr v0, .inr v1] σ (PV K) := by
  refine con_gw rfl (Nat.le_of_ble_eq_true rfl) ?_
  show GW l mX4_readCut 0 [(0, .inr v0), (1, .inr v1)] [] σ 0 0 (PV K)
  refine gw_aload_n (q := 0) dX4_readCut_0 rfl rfl ?_
  obtain ⟨g1, h⟩ := h
  refine gw_gR fX4_21 dX4_readCut_1 g1 ?_
  refine gw_aload_n (q := 0) dX4_readCut_4 rfl rfl ?_
  refine gw_gI fX4_43 dX4_readCut_5 g1 ?_
  obtain ⟨g3, h⟩ := h
  refine gw_vC (bs := [.inl (σ.2.1 v0 4)]) (st := []) (vmX10_kindAt) lX4_49 dX4_readCut_8 ⟨by decide, rfl, rfl, by decide, by decide⟩ (Nat.le_of_ble_eq_true rfl) rfl rfl g3 h (kI (fun x2 σ2 h n2 => ?_))
  refine gw_bipush (v := 6) dX4_readCut_11 bp_6 ?_
  refine gw_icmp_eq (tgt := 32) dX4_readCut_13 (by decide) (fun c4 => ?_) (fun c4 => ?_)
  · replace h := h.1 c4
    refine gw_aload_n (q := 0) dX4_readCut_32 rfl rfl ?_
    refine gw_dup dX4_readCut_33 ?_
    refine gw_gI fX4_43 dX4_readCut_34 (g1.up n2) ?_
    refine gw_iconst (v := 1) dX4_readCut_37 ic_1 ?_
    refine gw_iadd dX4_readCut_38 ?_
    refine gw_pI fX4_43 dX4_readCut_39 (g1.up n2) (fun σ5 e5 => ?_)
    replace h := h σ5 e5
    refine gw_aload_n (q := 0) dX4_readCut_42 rfl rfl ?_
    refine gw_aload_n (q := 1) dX4_readCut_43 rfl rfl ?_
    refine gw_iconst (v := 0) dX4_readCut_44 ic_0 ?_
    refine gw_vC (bs := [.inr v1, .inl 0]) (st := []) (vmX4_tickNumber) lX4_123 dX4_readCut_45 ⟨by decide, rfl, rfl, by decide, by decide⟩ (Nat.le_of_ble_eq_true rfl) rfl rfl ((g1.up n2).up (n_w1 e5)) h (kI (fun x6 σ6 h n6 => ?_))
    refine gw_istore_n (lo' := [(0, .inr v0), (1, .inr v1), (2, .inl x6)]) dX4_readCut_48 rfl (by decide) rfl ?_
    refine gw_iload_n (q := 2) dX4_readCut_49 rfl rfl ?_
    refine gw_iconst (v := (-1)) dX4_readCut_50 ic_m1 ?_
    refine gw_icmp_eq (tgt := 63) dX4_readCut_51 (by decide) (fun c7 => ?_) (fun c7 => ?_)
    · replace h := h.1 c7
      exact gw_rV dX4_readCut_63 rfl (by decide) (by decide) h
    · replace h := h.2 c7
      refine gw_aload_n (q := 0) dX4_readCut_54 rfl rfl ?_
      refine gw_bipush (v := 7) dX4_readCut_55 bp_7 ?_
      refine gw_vC (bs := [.inl 7]) (st := []) (vmX4_take) lX4_69 dX4_readCut_57 ⟨by decide, rfl, rfl, by decide, by decide⟩ (Nat.le_of_ble_eq_true rfl) rfl rfl (((g1.up n2).up (n_w1 e5)).up n6) h (kI (fun x8 σ8 h n8 => ?_))
      refine gw_if_ne (tgt := 64) dX4_readCut_60 (by decide) (fun c9 => ?_) (fun c9 => ?_)
      · replace h := h.1 c9
        refine gw_aload_n (q := 0) dX4_readCut_64 rfl rfl ?_
        refine gw_aload_n (q := 1) dX4_readCut_65 rfl rfl ?_
        refine gw_iload_n (q := 2) dX4_readCut_66 rfl rfl ?_
        refine gw_vC (bs := [.inr v1, .inl x6]) (st := []) (vmX4_tickNumber) lX4_123 dX4_readCut_67 ⟨by decide, rfl, rfl, by decide, by decide⟩ (Nat.le_of_ble_eq_true rfl) rfl rfl ((((g1.up n2).up (n_w1 e5)).up n6).up n8) h (kI (fun x10 σ10 h n10 => ?_))
        refine gw_istore_n (lo' := [(0, .inr v0), (1, .inr v1), (2, .inl x6), (3, .inl x10)]) dX4_readCut_70 rfl (by decide) rfl ?_
        refine gw_iload_n (q := 3) dX4_readCut_71 rfl rfl ?_
        refine gw_iconst (v := (-1)) dX4_readCut_72 ic_m1 ?_
        refine gw_icmp_eq (tgt := 86) dX4_readCut_73 (by decide) (fun c11 => ?_) (fun c11 => ?_)
        · replace h := h.1 c11
          exact gw_rV dX4_readCut_86 rfl (by decide) (by decide) h
        · replace h := h.2 c11
          refine gw_aload_n (q := 0) dX4_readCut_76 rfl rfl ?_
          refine gw_gR fX4_32 dX4_readCut_77 (((((g1.up n2).up (n_w1 e5)).up n6).up n8).up n10) ?_
          refine gw_aload_n (q := 1) dX4_readCut_80 rfl rfl ?_
          refine gw_iload_n (q := 2) dX4_readCut_81 rfl rfl ?_
          refine gw_iload_n (q := 3) dX4_readCut_82 rfl rfl ?_
          obtain ⟨g13, h⟩ := h
          refine gw_vC (bs := [.inr v1, .inl x6, .inl x10]) (st := []) (vmX9_addCut) lX4_119 dX4_readCut_83 ⟨by decide, rfl, rfl, by decide, by decide⟩ (Nat.le_of_ble_eq_true rfl) rfl rfl g13 h (kV (fun σ12 h n12 => ?_))
          exact gw_rV dX4_readCut_86 rfl (by decide) (by decide) h
      · replace h := h.2 c9
        exact gw_rV dX4_readCut_63 rfl (by decide) (by decide) h
  · replace h := h.2 c4
    refine gw_aload_n (q := 0) dX4_readCut_16 rfl rfl ?_
    refine gw_gR fX4_32 dX4_readCut_17 (g1.up n2) ?_
    refine gw_aload_n (q := 1) dX4_readCut_20 rfl rfl ?_
    refine gw_iconst (v := 0) dX4_readCut_21 ic_0 ?_
    refine gw_aload_n (q := 1) dX4_readCut_22 rfl rfl ?_
    obtain ⟨g14, h⟩ := h
    refine gw_gI fX4_116 dX4_readCut_23 g14 ?_
    refine gw_iconst (v := 1) dX4_readCut_26 ic_1 ?_
    refine gw_isub dX4_readCut_27 ?_
    obtain ⟨g16, h⟩ := h
    refine gw_vC (bs := [.inr v1, .inl 0, .inl ((σ2.2.1 v1 3) - 1)]) (st := []) (vmX9_addCut) lX4_119 dX4_readCut_28 ⟨by decide, rfl, rfl, by decide, by decide⟩ (Nat.le_of_ble_eq_true rfl) rfl rfl g16 h (kV (fun σ15 h n15 => ?_))
    exact gw_rV dX4_readCut_31 rfl (by decide) (by decide) h
set_option maxHeartbeats 4000000 in
set_option maxRecDepth 20000 in
theorem eX4_tickNumber {l : Launch} {v0 : Nat} {v1 : Nat} {v2 : Int32} {σ : Sg} {K : Int32 → Sg → Prop} (h : Ob σ v0 4 ∧ Con l mX4_number [.inr v0, .inl 0, .inl 99] σ (PI (fun x1 σ1 => ((¬ x1 = (-1) → ((x1 < v2 → Con l mX4_fail [.inr v0, .inl 3] σ1 (PV (fun σ5 => K (-1) σ5))) ∧ (¬ x1 < v2 → Ob σ1 v1 9 ∧ Con l mX9_has [.inr v1, .inl x1] σ1 (PI (fun x6 σ6 => ((¬ x6 = 0 → ∀ σ9, σ9 = w1 σ6 v0 4 ((σ6.2.1 v0 4) + 1) → K x1 σ9) ∧ (x6 = 0 → Con l mX4_fail [.inr v0, .inl 3] σ6 (PV (fun σ10 => K (-1) σ10))))))))) ∧ (x1 = (-1) → K (-1) σ1))))) : Con l mX4_tickNumber [.inr v0, .inr v1, .inl v2] σ (PI K) := by
  refine con_gw rfl (Nat.le_of_ble_eq_true rfl) ?_
  show GW l mX4_tickNumber 0 [(0, .inr v0), (1, .inr v1), (2, .inl v2)] [] σ 0 0 (PI K)
  refine gw_aload_n (q := 0) dX4_tickNumber_0 rfl rfl ?_
  refine gw_iconst (v := 0) dX4_tickNumber_1 ic_0 ?_
  refine gw_bipush (v := 99) dX4_tickNumber_2 bp_99 ?_
  obtain ⟨g2, h⟩ := h
  refine gw_vC (bs := [.inl 0, .inl 99]) (st := []) (vmX4_number) lX4_108 dX4_tickNumber_4 ⟨by decide, rfl, rfl, by decide, by decide⟩ (Nat.le_of_ble_eq_true rfl) rfl rfl g2 h (kI (fun x1 σ1 h n1 => ?_))
  refine gw_istore_n (lo' := [(0, .inr v0), (1, .inr v1), (2, .inl v2), (3, .inl x1)]) dX4_tickNumber_7 rfl (by decide) rfl ?_
  refine gw_iload_n (q := 3) dX4_tickNumber_8 rfl rfl ?_
  refine gw_iconst (v := (-1)) dX4_tickNumber_9 ic_m1 ?_
  refine gw_icmp_ne (tgt := 15) dX4_tickNumber_10 (by decide) (fun c3 => ?_) (fun c3 => ?_)
  · replace h := h.1 c3
    refine gw_iload_n (q := 3) dX4_tickNumber_15 rfl rfl ?_
    refine gw_iload_n (q := 2) dX4_tickNumber_16 rfl rfl ?_
    refine gw_icmp_lt (tgt := 28) dX4_tickNumber_17 (by decide) (fun c4 => ?_) (fun c4 => ?_)
    · replace h := h.1 c4
      refine gw_aload_n (q := 0) dX4_tickNumber_28 rfl rfl ?_
      refine gw_iconst (v := 3) dX4_tickNumber_29 ic_3 ?_
      refine gw_vC (bs := [.inl 3]) (st := []) (vmX4_fail) lX4_66 dX4_tickNumber_30 ⟨by decide, rfl, rfl, by decide, by decide⟩ (Nat.le_of_ble_eq_true rfl) rfl rfl (g2.up n1) h (kV (fun σ5 h n5 => ?_))
      refine gw_iconst (v := (-1)) dX4_tickNumber_33 ic_m1 ?_
      exact gw_rI dX4_tickNumber_34 rfl (by decide) (by decide) h
    · replace h := h.2 c4
      refine gw_aload_n (q := 1) dX4_tickNumber_20 rfl rfl ?_
      refine gw_iload_n (q := 3) dX4_tickNumber_21 rfl rfl ?_
      obtain ⟨g7, h⟩ := h
      refine gw_vC (bs := [.inl x1]) (st := []) (vmX9_has) lX4_127 dX4_tickNumber_22 ⟨by decide, rfl, rfl, by decide, by decide⟩ (Nat.le_of_ble_eq_true rfl) rfl rfl g7 h (kI (fun x6 σ6 h n6 => ?_))
      refine gw_if_ne (tgt := 35) dX4_tickNumber_25 (by decide) (fun c8 => ?_) (fun c8 => ?_)
      · replace h := h.1 c8
        refine gw_aload_n (q := 0) dX4_tickNumber_35 rfl rfl ?_
        refine gw_dup dX4_tickNumber_36 ?_
        refine gw_gI fX4_43 dX4_tickNumber_37 ((g2.up n1).up n6) ?_
        refine gw_iconst (v := 1) dX4_tickNumber_40 ic_1 ?_
        refine gw_iadd dX4_tickNumber_41 ?_
        refine gw_pI fX4_43 dX4_tickNumber_42 ((g2.up n1).up n6) (fun σ9 e9 => ?_)
        replace h := h σ9 e9
        refine gw_iload_n (q := 3) dX4_tickNumber_45 rfl rfl ?_
        exact gw_rI dX4_tickNumber_46 rfl (by decide) (by decide) h
      · replace h := h.2 c8
        refine gw_aload_n (q := 0) dX4_tickNumber_28 rfl rfl ?_
        refine gw_iconst (v := 3) dX4_tickNumber_29 ic_3 ?_
        refine gw_vC (bs := [.inl 3]) (st := []) (vmX4_fail) lX4_66 dX4_tickNumber_30 ⟨by decide, rfl, rfl, by decide, by decide⟩ (Nat.le_of_ble_eq_true rfl) rfl rfl ((g2.up n1).up n6) h (kV (fun σ10 h n10 => ?_))
        refine gw_iconst (v := (-1)) dX4_tickNumber_33 ic_m1 ?_
        exact gw_rI dX4_tickNumber_34 rfl (by decide) (by decide) h
  · replace h := h.2 c3
    refine gw_iconst (v := (-1)) dX4_tickNumber_13 ic_m1 ?_
    exact gw_rI dX4_tickNumber_14 rfl (by decide) (by decide) h
set_option maxHeartbeats 4000000 in
set_option maxRecDepth 20000 in
theorem eX4_number {l : Launch} {v0 : Nat} {v1 : Int32} {v2 : Int32} {σ : Sg} {K : Int32 → Sg → Prop} (h : Ob σ v0 4 ∧ Ob σ (σ.2.2 v0 1) 10 ∧ Con l mX10_kindAt [.inr (σ.2.2 v0 1), .inl (σ.2.1 v0 4)] σ (PI (fun x2 σ2 => ((x2 = 2 → Ob σ2 (σ2.2.2 v0 1) 10 ∧ Con l mX10_valueAt [.inr (σ2.2.2 v0 1), .inl (σ2.2.1 v0 4)] σ2 (PI (fun x5 σ5 => Con l mX11_within [.inl x5, .inl v1, .inl v2] σ5 (PI (fun x7 σ7 => ((¬ x7 = 0 → K x5 σ7) ∧ (x7 = 0 → Con l mX4_fail [.inr v0, .inl 2] σ7 (PV (fun σ9 => K (-1) σ9))))))))) ∧ (¬ x2 = 2 → Con l mX4_fail [.inr v0, .inl 1] σ2 (PV (fun σ10 => K (-1) σ10))))))) : Con l mX4_number [.inr v0, .inl v1, .inl v2] σ (PI K) := by
  refine con_gw rfl (Nat.le_of_ble_eq_true rfl) ?_
  show GW l mX4_number 0 [(0, .inr v0), (1, .inl v1), (2, .inl v2)] [] σ 0 0 (PI K)
  refine gw_aload_n (q := 0) dX4_number_0 rfl rfl ?_
  obtain ⟨g1, h⟩ := h
  refine gw_gR fX4_21 dX4_number_1 g1 ?_
  refine gw_aload_n (q := 0) dX4_number_4 rfl rfl ?_
  refine gw_gI fX4_43 dX4_number_5 g1 ?_
  obtain ⟨g3, h⟩ := h
  refine gw_vC (bs := [.inl (σ.2.1 v0 4)]) (st := []) (vmX10_kindAt) lX4_49 dX4_number_8 ⟨by decide, rfl, rfl, by decide, by decide⟩ (Nat.le_of_ble_eq_true rfl) rfl rfl g3 h (kI (fun x2 σ2 h n2 => ?_))
  refine gw_iconst (v := 2) dX4_number_11 ic_2 ?_
  refine gw_icmp_eq (tgt := 22) dX4_number_12 (by decide) (fun c4 => ?_) (fun c4 => ?_)
  · replace h := h.1 c4
    refine gw_aload_n (q := 0) dX4_number_22 rfl rfl ?_
    refine gw_gR fX4_21 dX4_number_23 (g1.up n2) ?_
    refine gw_aload_n (q := 0) dX4_number_26 rfl rfl ?_
    refine gw_gI fX4_43 dX4_number_27 (g1.up n2) ?_
    obtain ⟨g6, h⟩ := h
    refine gw_vC (bs := [.inl (σ2.2.1 v0 4)]) (st := []) (vmX10_valueAt) lX4_130 dX4_number_30 ⟨by decide, rfl, rfl, by decide, by decide⟩ (Nat.le_of_ble_eq_true rfl) rfl rfl g6 h (kI (fun x5 σ5 h n5 => ?_))
    refine gw_istore_n (lo' := [(0, .inr v0), (1, .inl v1), (2, .inl v2), (3, .inl x5)]) dX4_number_33 rfl (by decide) rfl ?_
    refine gw_iload_n (q := 3) dX4_number_34 rfl rfl ?_
    refine gw_iload_n (q := 1) dX4_number_35 rfl rfl ?_
    refine gw_iload_n (q := 2) dX4_number_36 rfl rfl ?_
    refine gw_sC (bs := [.inl x5, .inl v1, .inl v2]) (st := []) smX11_within lX4_133 dX4_number_37 ⟨by decide, rfl, rfl, by decide, by decide⟩ (Nat.le_of_ble_eq_true rfl) rfl rfl h (kI (fun x7 σ7 h n7 => ?_))
    refine gw_if_ne (tgt := 50) dX4_number_40 (by decide) (fun c8 => ?_) (fun c8 => ?_)
    · replace h := h.1 c8
      refine gw_iload_n (q := 3) dX4_number_50 rfl rfl ?_
      exact gw_rI dX4_number_51 rfl (by decide) (by decide) h
    · replace h := h.2 c8
      refine gw_aload_n (q := 0) dX4_number_43 rfl rfl ?_
      refine gw_iconst (v := 2) dX4_number_44 ic_2 ?_
      refine gw_vC (bs := [.inl 2]) (st := []) (vmX4_fail) lX4_66 dX4_number_45 ⟨by decide, rfl, rfl, by decide, by decide⟩ (Nat.le_of_ble_eq_true rfl) rfl rfl (((g1.up n2).up n5).up n7) h (kV (fun σ9 h n9 => ?_))
      refine gw_iconst (v := (-1)) dX4_number_48 ic_m1 ?_
      exact gw_rI dX4_number_49 rfl (by decide) (by decide) h
  · replace h := h.2 c4
    refine gw_aload_n (q := 0) dX4_number_15 rfl rfl ?_
    refine gw_iconst (v := 1) dX4_number_16 ic_1 ?_
    refine gw_vC (bs := [.inl 1]) (st := []) (vmX4_fail) lX4_66 dX4_number_17 ⟨by decide, rfl, rfl, by decide, by decide⟩ (Nat.le_of_ble_eq_true rfl) rfl rfl (g1.up n2) h (kV (fun σ10 h n10 => ?_))
    refine gw_iconst (v := (-1)) dX4_number_20 ic_m1 ?_
    exact gw_rI dX4_number_21 rfl (by decide) (by decide) h
set_option maxHeartbeats 4000000 in
set_option maxRecDepth 20000 in
theorem gX4_readChanges_4 {l : Launch} {v0 : Nat} {v1 : Int32} {v2 : Int32} {σ : Sg} {K : Sg → Prop} (h : ((400 ≤ v2 → K σ) ∧ (¬ 400 ≤ v2 → ((v1 = 0 → K σ) ∧ (¬ v1 = 0 → Ob σ v0 4 ∧ ((¬ (σ.2.1 v0 6) = 0 → K σ) ∧ ((σ.2.1 v0 6) = 0 → Con l mX4_readChange [.inr v0] σ (PI (fun x5 σ5 => GW l mX4_readChanges 4 [(0, .inr v0), (1, .inl x5), (2, .inl (v2 + 1))] [] σ5 0 0 (PV K)))))))))) : GW l mX4_readChanges 4 [(0, .inr v0), (1, .inl v1), (2, .inl v2)] [] σ 0 0 (PV K) := by
  refine gw_iload_n (q := 2) dX4_readChanges_4 rfl rfl ?_
  refine gw_sipush (v := 400) dX4_readChanges_5 sp_400 ?_
  refine gw_icmp_ge (tgt := 33) dX4_readChanges_8 (by decide) (fun c1 => ?_) (fun c1 => ?_)
  · replace h := h.1 c1
    exact gw_rV dX4_readChanges_33 rfl (by decide) (by decide) h
  · replace h := h.2 c1
    refine gw_iload_n (q := 1) dX4_readChanges_11 rfl rfl ?_
    refine gw_if_eq (tgt := 33) dX4_readChanges_12 (by decide) (fun c2 => ?_) (fun c2 => ?_)
    · replace h := h.1 c2
      exact gw_rV dX4_readChanges_33 rfl (by decide) (by decide) h
    · replace h := h.2 c2
      refine gw_aload_n (q := 0) dX4_readChanges_15 rfl rfl ?_
      obtain ⟨g3, h⟩ := h
      refine gw_gI fX4_46 dX4_readChanges_16 g3 ?_
      refine gw_if_ne (tgt := 33) dX4_readChanges_19 (by decide) (fun c4 => ?_) (fun c4 => ?_)
      · replace h := h.1 c4
        exact gw_rV dX4_readChanges_33 rfl (by decide) (by decide) h
      · replace h := h.2 c4
        refine gw_aload_n (q := 0) dX4_readChanges_22 rfl rfl ?_
        refine gw_vC (bs := []) (st := []) (vmX4_readChange) lX4_137 dX4_readChanges_23 ⟨by decide, rfl, rfl, by decide, by decide⟩ (Nat.le_of_ble_eq_true rfl) rfl rfl g3 h (kI (fun x5 σ5 h n5 => ?_))
        refine gw_istore_n (lo' := [(0, .inr v0), (1, .inl x5), (2, .inl v2)]) dX4_readChanges_26 rfl (by decide) rfl ?_
        refine gw_inc (lo' := [(0, .inr v0), (1, .inl x5), (2, .inl (v2 + 1))]) (q := 2) (c := 1) dX4_readChanges_27 ic_1 rfl (by decide) rfl ?_
        refine gw_goto (tgt := 4) dX4_readChanges_30 (by decide) ?_
        exact h
set_option maxHeartbeats 4000000 in
set_option maxRecDepth 20000 in
theorem eX4_readChanges {l : Launch} {v0 : Nat} {σ : Sg} {K : Sg → Prop} (h : GW l mX4_readChanges 4 [(0, .inr v0), (1, .inl 1), (2, .inl 0)] [] σ 0 0 (PV K)) : Con l mX4_readChanges [.inr v0] σ (PV K) := by
  refine con_gw rfl (Nat.le_of_ble_eq_true rfl) ?_
  show GW l mX4_readChanges 0 [(0, .inr v0)] [] σ 0 0 (PV K)
  refine gw_iconst (v := 1) dX4_readChanges_0 ic_1 ?_
  refine gw_istore_n (lo' := [(0, .inr v0), (1, .inl 1)]) dX4_readChanges_1 rfl (by decide) rfl ?_
  refine gw_iconst (v := 0) dX4_readChanges_2 ic_0 ?_
  refine gw_istore_n (lo' := [(0, .inr v0), (1, .inl 1), (2, .inl 0)]) dX4_readChanges_3 rfl (by decide) rfl ?_
  exact h
set_option maxHeartbeats 4000000 in
set_option maxRecDepth 20000 in
theorem gX4_readChange_111 {l : Launch} {v0 : Nat} {σ : Sg} {K : Int32 → Sg → Prop} (h : Ob σ v0 4 ∧ ((¬ (σ.2.1 v0 6) = 0 → ∀ σ3, σ3 = w1 σ v0 4 ((σ.2.1 v0 4) + 0) → K 1 σ3) ∧ ((σ.2.1 v0 6) = 0 → ∀ σ4, σ4 = w1 σ v0 4 ((σ.2.1 v0 4) + 1) → K 1 σ4))) : GW l mX4_readChange 111 [(0, .inr v0)] [] σ 0 0 (PI K) := by
  refine gw_aload_n (q := 0) dX4_readChange_111 rfl rfl ?_
  refine gw_dup dX4_readChange_112 ?_
  obtain ⟨g1, h⟩ := h
  refine gw_gI fX4_43 dX4_readChange_113 g1 ?_
  refine gw_aload_n (q := 0) dX4_readChange_116 rfl rfl ?_
  refine gw_gI fX4_46 dX4_readChange_117 g1 ?_
  refine gw_if_ne (tgt := 127) dX4_readChange_120 (by decide) (fun c2 => ?_) (fun c2 => ?_)
  · replace h := h.1 c2
    refine gw_iconst (v := 0) dX4_readChange_127 ic_0 ?_
    refine gw_iadd dX4_readChange_128 ?_
    refine gw_pI fX4_43 dX4_readChange_129 g1 (fun σ3 e3 => ?_)
    replace h := h σ3 e3
    refine gw_iconst (v := 1) dX4_readChange_132 ic_1 ?_
    exact gw_rZ dX4_readChange_133 rfl (by decide) (by decide) (by decide) h
  · replace h := h.2 c2
    refine gw_iconst (v := 1) dX4_readChange_123 ic_1 ?_
    refine gw_goto (tgt := 128) dX4_readChange_124 (by decide) ?_
    refine gw_iadd dX4_readChange_128 ?_
    refine gw_pI fX4_43 dX4_readChange_129 g1 (fun σ4 e4 => ?_)
    replace h := h σ4 e4
    refine gw_iconst (v := 1) dX4_readChange_132 ic_1 ?_
    exact gw_rZ dX4_readChange_133 rfl (by decide) (by decide) (by decide) h
set_option maxHeartbeats 4000000 in
set_option maxRecDepth 20000 in
theorem eX4_readChange {l : Launch} {v0 : Nat} {σ : Sg} {K : Int32 → Sg → Prop} (h : Ob σ v0 4 ∧ Ob σ (σ.2.2 v0 1) 10 ∧ Con l mX10_kindAt [.inr (σ.2.2 v0 1), .inl (σ.2.1 v0 4)] σ (PI (fun x2 σ2 => ((x2.toInt < 8 ∨ 10 < x2.toInt → K 0 σ2) ∧ (x2.toInt = 8 → Ob σ2 (σ2.2.2 v0 3) 9 ∧ Con l mX9_turnRound [.inr (σ2.2.2 v0 3)] σ2 (PV (fun σ4 => GW l mX4_readChange 111 [(0, .inr v0)] [] σ4 0 0 (PI K)))) ∧ (x2.toInt = 9 → ∀ σ6, σ6 = w1 σ2 v0 4 ((σ2.2.1 v0 4) + 1) → Con l mX4_number [.inr v0, .inl 1, .inl 9] σ6 (PI (fun x7 σ7 => ((¬ (σ7.2.1 v0 5) = 0 → ∀ σ9, σ9 = w1 σ7 v0 5 1 → GW l mX4_readChange 111 [(0, .inr v0)] [] σ9 0 0 (PI K)) ∧ ((σ7.2.1 v0 5) = 0 → ((x7 = (-1) → ∀ σ11, σ11 = w1 σ7 v0 5 0 → GW l mX4_readChange 111 [(0, .inr v0)] [] σ11 0 0 (PI K)) ∧ (¬ x7 = (-1) → Ob σ7 (σ7.2.2 v0 3) 9 ∧ Con l mX9_slowDown [.inr (σ7.2.2 v0 3), .inl x7] σ7 (PI (fun x12 σ12 => ((¬ x12 = 0 → ∀ σ15, σ15 = w1 σ12 v0 5 0 → GW l mX4_readChange 111 [(0, .inr v0)] [] σ15 0 0 (PI K)) ∧ (x12 = 0 → ∀ σ16, σ16 = w1 σ12 v0 5 1 → GW l mX4_readChange 111 [(0, .inr v0)] [] σ16 0 0 (PI K)))))))))))) ∧ (x2.toInt = 10 → Ob σ2 (σ2.2.2 v0 3) 9 ∧ Con l mX9_dryUp [.inr (σ2.2.2 v0 3)] σ2 (PV (fun σ17 => GW l mX4_readChange 111 [(0, .inr v0)] [] σ17 0 0 (PI K)))))))) : Con l mX4_readChange [.inr v0] σ (PI K) := by
  refine con_gw rfl (Nat.le_of_ble_eq_true rfl) ?_
  show GW l mX4_readChange 0 [(0, .inr v0)] [] σ 0 0 (PI K)
  refine gw_aload_n (q := 0) dX4_readChange_0 rfl rfl ?_
  obtain ⟨g1, h⟩ := h
  refine gw_gR fX4_21 dX4_readChange_1 g1 ?_
  refine gw_aload_n (q := 0) dX4_readChange_4 rfl rfl ?_
  refine gw_gI fX4_43 dX4_readChange_5 g1 ?_
  obtain ⟨g3, h⟩ := h
  refine gw_vC (bs := [.inl (σ.2.1 v0 4)]) (st := []) (vmX10_kindAt) lX4_49 dX4_readChange_8 ⟨by decide, rfl, rfl, by decide, by decide⟩ (Nat.le_of_ble_eq_true rfl) rfl rfl g3 h (kI (fun x2 σ2 h n2 => ?_))
  refine gw_tab dX4_readChange_11 rfl (fun c => ?_) (fun k hk hx => ?_)
  · refine ⟨109, by decide, ?_⟩
    replace h := h.1 c
    refine gw_iconst (v := 0) dX4_readChange_109 ic_0 ?_
    exact gw_rZ dX4_readChange_110 rfl (by decide) (by decide) (by decide) h
  · match k, hk, hx with
    | 0, _, hx =>
      refine ⟨25, 36, rfl, by decide, ?_⟩
      replace h := h.2.1 hx
      refine gw_aload_n (q := 0) dX4_readChange_36 rfl rfl ?_
      refine gw_gR fX4_32 dX4_readChange_37 (g1.up n2) ?_
      obtain ⟨g5, h⟩ := h
      refine gw_vC (bs := []) (st := []) (vmX9_turnRound) lX4_141 dX4_readChange_40 ⟨by decide, rfl, rfl, by decide, by decide⟩ (Nat.le_of_ble_eq_true rfl) rfl rfl g5 h (kV (fun σ4 h n4 => ?_))
      refine gw_goto (tgt := 111) dX4_readChange_43 (by decide) ?_
      exact h
    | 1, _, hx =>
      refine ⟨45, 56, rfl, by decide, ?_⟩
      replace h := h.2.2.1 hx
      refine gw_aload_n (q := 0) dX4_readChange_56 rfl rfl ?_
      refine gw_dup dX4_readChange_57 ?_
      refine gw_gI fX4_43 dX4_readChange_58 (g1.up n2) ?_
      refine gw_iconst (v := 1) dX4_readChange_61 ic_1 ?_
      refine gw_iadd dX4_readChange_62 ?_
      refine gw_pI fX4_43 dX4_readChange_63 (g1.up n2) (fun σ6 e6 => ?_)
      replace h := h σ6 e6
      refine gw_aload_n (q := 0) dX4_readChange_66 rfl rfl ?_
      refine gw_iconst (v := 1) dX4_readChange_67 ic_1 ?_
      refine gw_bipush (v := 9) dX4_readChange_68 bp_9 ?_
      refine gw_vC (bs := [.inl 1, .inl 9]) (st := []) (vmX4_number) lX4_108 dX4_readChange_70 ⟨by decide, rfl, rfl, by decide, by decide⟩ (Nat.le_of_ble_eq_true rfl) rfl rfl ((g1.up n2).up (n_w1 e6)) h (kI (fun x7 σ7 h n7 => ?_))
      refine gw_istore_n (lo' := [(0, .inr v0), (1, .inl x7)]) dX4_readChange_73 rfl (by decide) rfl ?_
      refine gw_aload_n (q := 0) dX4_readChange_74 rfl rfl ?_
      refine gw_aload_n (q := 0) dX4_readChange_75 rfl rfl ?_
      refine gw_gI fX4_73 dX4_readChange_76 (((g1.up n2).up (n_w1 e6)).up n7) ?_
      refine gw_if_ne (tgt := 98) dX4_readChange_79 (by decide) (fun c8 => ?_) (fun c8 => ?_)
      · replace h := h.1 c8
        refine gw_iconst (v := 1) dX4_readChange_98 ic_1 ?_
        refine gw_goto (tgt := 103) dX4_readChange_99 (by decide) ?_
        refine gw_pZ fX4_73 dX4_readChange_103 (by decide) (((g1.up n2).up (n_w1 e6)).up n7) (fun σ9 e9 => ?_)
        replace h := h σ9 e9
        refine gw_goto (tgt := 111) dX4_readChange_106 (by decide) ?_
        refine gw_pick [0] rfl ?_
        exact h
      · replace h := h.2 c8
        refine gw_iload_n (q := 1) dX4_readChange_82 rfl rfl ?_
        refine gw_iconst (v := (-1)) dX4_readChange_83 ic_m1 ?_
        refine gw_icmp_eq (tgt := 102) dX4_readChange_84 (by decide) (fun c10 => ?_) (fun c10 => ?_)
        · replace h := h.1 c10
          refine gw_iconst (v := 0) dX4_readChange_102 ic_0 ?_
          refine gw_pZ fX4_73 dX4_readChange_103 (by decide) (((g1.up n2).up (n_w1 e6)).up n7) (fun σ11 e11 => ?_)
          replace h := h σ11 e11
          refine gw_goto (tgt := 111) dX4_readChange_106 (by decide) ?_
          refine gw_pick [0] rfl ?_
          exact h
        · replace h := h.2 c10
          refine gw_aload_n (q := 0) dX4_readChange_87 rfl rfl ?_
          refine gw_gR fX4_32 dX4_readChange_88 (((g1.up n2).up (n_w1 e6)).up n7) ?_
          refine gw_iload_n (q := 1) dX4_readChange_91 rfl rfl ?_
          obtain ⟨g13, h⟩ := h
          refine gw_vC (bs := [.inl x7]) (st := [.inr v0]) (vmX9_slowDown) lX4_147 dX4_readChange_92 ⟨by decide, rfl, rfl, by decide, by decide⟩ (Nat.le_of_ble_eq_true rfl) rfl rfl g13 h (kI (fun x12 σ12 h n12 => ?_))
          refine gw_if_ne (tgt := 102) dX4_readChange_95 (by decide) (fun c14 => ?_) (fun c14 => ?_)
          · replace h := h.1 c14
            refine gw_iconst (v := 0) dX4_readChange_102 ic_0 ?_
            refine gw_pZ fX4_73 dX4_readChange_103 (by decide) ((((g1.up n2).up (n_w1 e6)).up n7).up n12) (fun σ15 e15 => ?_)
            replace h := h σ15 e15
            refine gw_goto (tgt := 111) dX4_readChange_106 (by decide) ?_
            refine gw_pick [0] rfl ?_
            exact h
          · replace h := h.2 c14
            refine gw_iconst (v := 1) dX4_readChange_98 ic_1 ?_
            refine gw_goto (tgt := 103) dX4_readChange_99 (by decide) ?_
            refine gw_pZ fX4_73 dX4_readChange_103 (by decide) ((((g1.up n2).up (n_w1 e6)).up n7).up n12) (fun σ16 e16 => ?_)
            replace h := h σ16 e16
            refine gw_goto (tgt := 111) dX4_readChange_106 (by decide) ?_
            refine gw_pick [0] rfl ?_
            exact h
    | 2, _, hx =>
      refine ⟨35, 46, rfl, by decide, ?_⟩
      replace h := h.2.2.2 hx
      refine gw_aload_n (q := 0) dX4_readChange_46 rfl rfl ?_
      refine gw_gR fX4_32 dX4_readChange_47 (g1.up n2) ?_
      obtain ⟨g18, h⟩ := h
      refine gw_vC (bs := []) (st := []) (vmX9_dryUp) lX4_144 dX4_readChange_50 ⟨by decide, rfl, rfl, by decide, by decide⟩ (Nat.le_of_ble_eq_true rfl) rfl rfl g18 h (kV (fun σ17 h n17 => ?_))
      refine gw_goto (tgt := 111) dX4_readChange_53 (by decide) ?_
      exact h
    | k + 3, hk, _ => exact absurd hk (by simp)
set_option maxHeartbeats 4000000 in
set_option maxRecDepth 20000 in
theorem gX4_joinPart_105 {l : Launch} {v0 : Nat} {v1 : Nat} {v2 : Int32} {v3 : Int32} {v4 : Int32} {v5 : Int32} {σ : Sg} {K : Sg → Prop} (h : ((v4 < v5 → Ob σ v0 4 ∧ Ob σ (σ.2.2 v0 3) 9 ∧ Ob σ (σ.2.2 v0 2) 9 ∧ Con l mX9_addCut [.inr (σ.2.2 v0 2), .inr (σ.2.2 v0 3), .inl 0, .inl ((σ.2.1 (σ.2.2 v0 3) 3) - 1)] σ (PV (fun σ4 => K σ4))) ∧ (¬ v4 < v5 → Ob σ v0 4 ∧ Ob σ v1 0 ∧ Con l mX0_poseOnWay [.inr v1, .inl v2, .inl v3, .inl v5, .inl (v4 + 1)] σ (PI (fun x7 σ7 => Ob σ7 (σ.2.2 v0 2) 9 ∧ Con l mX9_addTick [.inr (σ.2.2 v0 2), .inl x7, .inl 0] σ7 (PI (fun x9 σ9 => GW l mX4_joinPart 105 [(0, .inr v0), (1, .inr v1), (2, .inl v2), (3, .inl v3), (4, .inl v4), (5, .inl (v5 + 1))] [] σ9 0 0 (PV K)))))))) : GW l mX4_joinPart 105 [(0, .inr v0), (1, .inr v1), (2, .inl v2), (3, .inl v3), (4, .inl v4), (5, .inl v5)] [] σ 0 0 (PV K) := by
  refine gw_iload (q := 5) dX4_joinPart_105 rfl ?_
  refine gw_iload (q := 4) dX4_joinPart_107 rfl ?_
  refine gw_icmp_gt (tgt := 139) dX4_joinPart_109 (by decide) (fun c1 => ?_) (fun c1 => ?_)
  · replace h := h.1 c1
    refine gw_aload_n (q := 0) dX4_joinPart_139 rfl rfl ?_
    obtain ⟨g2, h⟩ := h
    refine gw_gR fX4_28 dX4_joinPart_140 g2 ?_
    refine gw_aload_n (q := 0) dX4_joinPart_143 rfl rfl ?_
    refine gw_gR fX4_32 dX4_joinPart_144 g2 ?_
    refine gw_iconst (v := 0) dX4_joinPart_147 ic_0 ?_
    refine gw_aload_n (q := 0) dX4_joinPart_148 rfl rfl ?_
    refine gw_gR fX4_32 dX4_joinPart_149 g2 ?_
    obtain ⟨g3, h⟩ := h
    refine gw_gI fX4_116 dX4_joinPart_152 g3 ?_
    refine gw_iconst (v := 1) dX4_joinPart_155 ic_1 ?_
    refine gw_isub dX4_joinPart_156 ?_
    obtain ⟨g5, h⟩ := h
    refine gw_vC (bs := [.inr (σ.2.2 v0 3), .inl 0, .inl ((σ.2.1 (σ.2.2 v0 3) 3) - 1)]) (st := []) (vmX9_addCut) lX4_119 dX4_joinPart_157 ⟨by decide, rfl, rfl, by decide, by decide⟩ (Nat.le_of_ble_eq_true rfl) rfl rfl g5 h (kV (fun σ4 h n4 => ?_))
    exact gw_rV dX4_joinPart_160 rfl (by decide) (by decide) h
  · replace h := h.2 c1
    refine gw_aload_n (q := 0) dX4_joinPart_112 rfl rfl ?_
    obtain ⟨g6, h⟩ := h
    refine gw_gR fX4_28 dX4_joinPart_113 g6 ?_
    refine gw_aload_n (q := 1) dX4_joinPart_116 rfl rfl ?_
    refine gw_iload_n (q := 2) dX4_joinPart_117 rfl rfl ?_
    refine gw_iload_n (q := 3) dX4_joinPart_118 rfl rfl ?_
    refine gw_iload (q := 5) dX4_joinPart_119 rfl ?_
    refine gw_iload (q := 4) dX4_joinPart_121 rfl ?_
    refine gw_iconst (v := 1) dX4_joinPart_123 ic_1 ?_
    refine gw_iadd dX4_joinPart_124 ?_
    obtain ⟨g8, h⟩ := h
    refine gw_vC (bs := [.inl v2, .inl v3, .inl v5, .inl (v4 + 1)]) (st := [.inr (σ.2.2 v0 2)]) (vmX0_poseOnWay) lX4_165 dX4_joinPart_125 ⟨by decide, rfl, rfl, by decide, by decide⟩ (Nat.le_of_ble_eq_true rfl) rfl rfl g8 h (kI (fun x7 σ7 h n7 => ?_))
    refine gw_iconst (v := 0) dX4_joinPart_128 ic_0 ?_
    obtain ⟨g10, h⟩ := h
    refine gw_vC (bs := [.inl x7, .inl 0]) (st := []) (vmX9_addTick) lX4_169 dX4_joinPart_129 ⟨by decide, rfl, rfl, by decide, by decide⟩ (Nat.le_of_ble_eq_true rfl) rfl rfl g10 h (kI (fun x9 σ9 h n9 => ?_))
    refine gw_pop dX4_joinPart_132 ?_
    refine gw_inc (lo' := [(0, .inr v0), (1, .inr v1), (2, .inl v2), (3, .inl v3), (4, .inl v4), (5, .inl (v5 + 1))]) (q := 5) (c := 1) dX4_joinPart_133 ic_1 rfl (by decide) rfl ?_
    refine gw_goto (tgt := 105) dX4_joinPart_136 (by decide) ?_
    exact h
set_option maxHeartbeats 4000000 in
set_option maxRecDepth 20000 in
theorem gX4_joinPart_71 {l : Launch} {v0 : Nat} {v1 : Nat} {v2 : Int32} {v3 : Int32} {t0 : Int32} {σ : Sg} {K : Sg → Prop} (h : Ob σ v0 4 ∧ Ob σ (σ.2.2 v0 2) 9 ∧ Ob σ (σ.2.2 v0 3) 9 ∧ (((((σ.2.1 (σ.2.2 v0 2) 3) + t0) + (σ.2.1 (σ.2.2 v0 3) 3)) ≤ 40 → GW l mX4_joinPart 105 [(0, .inr v0), (1, .inr v1), (2, .inl v2), (3, .inl v3), (4, .inl t0), (5, .inl 1)] [] σ 0 0 (PV K)) ∧ (¬ (((σ.2.1 (σ.2.2 v0 2) 3) + t0) + (σ.2.1 (σ.2.2 v0 3) 3)) ≤ 40 → ∀ σ5, σ5 = w1 σ v0 5 1 → K σ5))) : GW l mX4_joinPart 71 [(0, .inr v0), (1, .inr v1), (2, .inl v2), (3, .inl v3)] [.inl t0] σ 0 0 (PV K) := by
  refine gw_istore (lo' := [(0, .inr v0), (1, .inr v1), (2, .inl v2), (3, .inl v3), (4, .inl t0)]) dX4_joinPart_71 (by decide) rfl ?_
  refine gw_aload_n (q := 0) dX4_joinPart_73 rfl rfl ?_
  obtain ⟨g1, h⟩ := h
  refine gw_gR fX4_28 dX4_joinPart_74 g1 ?_
  obtain ⟨g2, h⟩ := h
  refine gw_gI fX4_116 dX4_joinPart_77 g2 ?_
  refine gw_iload (q := 4) dX4_joinPart_80 rfl ?_
  refine gw_iadd dX4_joinPart_82 ?_
  refine gw_aload_n (q := 0) dX4_joinPart_83 rfl rfl ?_
  refine gw_gR fX4_32 dX4_joinPart_84 g1 ?_
  obtain ⟨g3, h⟩ := h
  refine gw_gI fX4_116 dX4_joinPart_87 g3 ?_
  refine gw_iadd dX4_joinPart_90 ?_
  refine gw_bipush (v := 40) dX4_joinPart_91 bp_40 ?_
  refine gw_icmp_le (tgt := 102) dX4_joinPart_93 (by decide) (fun c4 => ?_) (fun c4 => ?_)
  · replace h := h.1 c4
    refine gw_iconst (v := 1) dX4_joinPart_102 ic_1 ?_
    refine gw_istore (lo' := [(0, .inr v0), (1, .inr v1), (2, .inl v2), (3, .inl v3), (4, .inl t0), (5, .inl 1)]) dX4_joinPart_103 (by decide) rfl ?_
    exact h
  · replace h := h.2 c4
    refine gw_aload_n (q := 0) dX4_joinPart_96 rfl rfl ?_
    refine gw_iconst (v := 1) dX4_joinPart_97 ic_1 ?_
    refine gw_pZ fX4_73 dX4_joinPart_98 (by decide) g1 (fun σ5 e5 => ?_)
    replace h := h σ5 e5
    exact gw_rV dX4_joinPart_101 rfl (by decide) (by decide) h
set_option maxHeartbeats 4000000 in
set_option maxRecDepth 20000 in
theorem eX4_joinPart {l : Launch} {v0 : Nat} {σ : Sg} {K : Sg → Prop} (h : Ob σ v0 4 ∧ Ob σ (σ.2.2 v0 0) 7 ∧ Con l mX7_armOf [.inr (σ.2.2 v0 0), .inr (σ.2.2 v0 2)] σ (PR (fun x2 σ2 => ((x2 = 0 → K σ2) ∧ (¬ x2 = 0 → ((¬ (σ2.2.1 v0 5) = 0 → K σ2) ∧ ((σ2.2.1 v0 5) = 0 → Ob σ2 (σ2.2.2 v0 3) 9 ∧ ((¬ (σ2.2.1 (σ2.2.2 v0 3) 3) = 0 → Ob σ2 (σ2.2.2 v0 2) 9 ∧ Con l mX9_lastPose [.inr (σ2.2.2 v0 2)] σ2 (PI (fun x8 σ8 => Ob σ8 (σ8.2.2 v0 3) 9 ∧ Con l mX9_poseAt [.inr (σ8.2.2 v0 3), .inl 0] σ8 (PI (fun x10 σ10 => Ob σ10 (σ10.2.2 v0 2) 9 ∧ ((¬ (σ10.2.1 (σ10.2.2 v0 2) 3) = 0 → Ob σ10 x2 0 ∧ Con l mX0_ticksBetween [.inr x2, .inl x8, .inl x10] σ10 (PI (fun x14 σ14 => GW l mX4_joinPart 71 [(0, .inr v0), (1, .inr x2), (2, .inl x8), (3, .inl x10)] [.inl x14] σ14 0 0 (PV K)))) ∧ ((σ10.2.1 (σ10.2.2 v0 2) 3) = 0 → GW l mX4_joinPart 71 [(0, .inr v0), (1, .inr x2), (2, .inl x8), (3, .inl x10)] [.inl 0] σ10 0 0 (PV K)))))))) ∧ ((σ2.2.1 (σ2.2.2 v0 3) 3) = 0 → K σ2))))))))) : Con l mX4_joinPart [.inr v0] σ (PV K) := by
  refine con_gw rfl (Nat.le_of_ble_eq_true rfl) ?_
  show GW l mX4_joinPart 0 [(0, .inr v0)] [] σ 0 0 (PV K)
  refine gw_aload_n (q := 0) dX4_joinPart_0 rfl rfl ?_
  obtain ⟨g1, h⟩ := h
  refine gw_gR fX4_12 dX4_joinPart_1 g1 ?_
  refine gw_aload_n (q := 0) dX4_joinPart_4 rfl rfl ?_
  refine gw_gR fX4_28 dX4_joinPart_5 g1 ?_
  obtain ⟨g3, h⟩ := h
  refine gw_vC (bs := [.inr (σ.2.2 v0 2)]) (st := []) (vmX7_armOf) lX4_150 dX4_joinPart_8 ⟨by decide, rfl, rfl, by decide, by decide⟩ (Nat.le_of_ble_eq_true rfl) rfl rfl g3 h (kR (fun x2 σ2 h n2 => ?_))
  refine gw_astore_n (lo' := [(0, .inr v0), (1, .inr x2)]) dX4_joinPart_11 rfl (by decide) rfl ?_
  refine gw_aload_n (q := 1) dX4_joinPart_12 rfl rfl ?_
  refine gw_ifnull (tgt := 33) dX4_joinPart_13 (by decide) (fun c4 => ?_) (fun c4 => ?_)
  · replace h := h.1 c4
    exact gw_rV dX4_joinPart_33 rfl (by decide) (by decide) h
  · replace h := h.2 c4
    refine gw_aload_n (q := 0) dX4_joinPart_16 rfl rfl ?_
    refine gw_gI fX4_73 dX4_joinPart_17 (g1.up n2) ?_
    refine gw_if_ne (tgt := 33) dX4_joinPart_20 (by decide) (fun c5 => ?_) (fun c5 => ?_)
    · replace h := h.1 c5
      exact gw_rV dX4_joinPart_33 rfl (by decide) (by decide) h
    · replace h := h.2 c5
      refine gw_aload_n (q := 0) dX4_joinPart_23 rfl rfl ?_
      refine gw_gR fX4_32 dX4_joinPart_24 (g1.up n2) ?_
      obtain ⟨g6, h⟩ := h
      refine gw_gI fX4_116 dX4_joinPart_27 g6 ?_
      refine gw_if_ne (tgt := 34) dX4_joinPart_30 (by decide) (fun c7 => ?_) (fun c7 => ?_)
      · replace h := h.1 c7
        refine gw_aload_n (q := 0) dX4_joinPart_34 rfl rfl ?_
        refine gw_gR fX4_28 dX4_joinPart_35 (g1.up n2) ?_
        obtain ⟨g9, h⟩ := h
        refine gw_vC (bs := []) (st := []) (vmX9_lastPose) lX4_154 dX4_joinPart_38 ⟨by decide, rfl, rfl, by decide, by decide⟩ (Nat.le_of_ble_eq_true rfl) rfl rfl g9 h (kI (fun x8 σ8 h n8 => ?_))
        refine gw_istore_n (lo' := [(0, .inr v0), (1, .inr x2), (2, .inl x8)]) dX4_joinPart_41 rfl (by decide) rfl ?_
        refine gw_aload_n (q := 0) dX4_joinPart_42 rfl rfl ?_
        refine gw_gR fX4_32 dX4_joinPart_43 ((g1.up n2).up n8) ?_
        refine gw_iconst (v := 0) dX4_joinPart_46 ic_0 ?_
        obtain ⟨g11, h⟩ := h
        refine gw_vC (bs := [.inl 0]) (st := []) (vmX9_poseAt) lX4_157 dX4_joinPart_47 ⟨by decide, rfl, rfl, by decide, by decide⟩ (Nat.le_of_ble_eq_true rfl) rfl rfl g11 h (kI (fun x10 σ10 h n10 => ?_))
        refine gw_istore_n (lo' := [(0, .inr v0), (1, .inr x2), (2, .inl x8), (3, .inl x10)]) dX4_joinPart_50 rfl (by decide) rfl ?_
        refine gw_aload_n (q := 0) dX4_joinPart_51 rfl rfl ?_
        refine gw_gR fX4_28 dX4_joinPart_52 (((g1.up n2).up n8).up n10) ?_
        obtain ⟨g12, h⟩ := h
        refine gw_gI fX4_116 dX4_joinPart_55 g12 ?_
        refine gw_if_ne (tgt := 65) dX4_joinPart_58 (by decide) (fun c13 => ?_) (fun c13 => ?_)
        · replace h := h.1 c13
          refine gw_aload_n (q := 1) dX4_joinPart_65 rfl rfl ?_
          refine gw_iload_n (q := 2) dX4_joinPart_66 rfl rfl ?_
          refine gw_iload_n (q := 3) dX4_joinPart_67 rfl rfl ?_
          obtain ⟨g15, h⟩ := h
          refine gw_vC (bs := [.inl x8, .inl x10]) (st := []) (vmX0_ticksBetween) lX4_160 dX4_joinPart_68 ⟨by decide, rfl, rfl, by decide, by decide⟩ (Nat.le_of_ble_eq_true rfl) rfl rfl g15 h (kI (fun x14 σ14 h n14 => ?_))
          exact h
        · replace h := h.2 c13
          refine gw_iconst (v := 0) dX4_joinPart_61 ic_0 ?_
          refine gw_goto (tgt := 71) dX4_joinPart_62 (by decide) ?_
          exact h
      · replace h := h.2 c7
        exact gw_rV dX4_joinPart_33 rfl (by decide) (by decide) h
