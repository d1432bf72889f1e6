set_option maxHeartbeats 4000000 in
set_option maxRecDepth 20000 in
theorem eX6_init {l : Launch} {v0 : Nat} {σ : Sg} {K : Sg → Prop} (h : v0 ≠ 0 ∧ shp (σ.1 + 1) = (13, 10) ∧ σ.1 + 1 ≤ 1000 ∧ ∀ x3 σ3, x3 = σ.1 + 1 → σ3 = nw σ → Ob σ3 v0 6 ∧ x3 ≤ σ3.1 ∧ ∀ σ6, σ6 = w2 σ3 v0 0 x3 → shp (σ6.1 + 1) = (13, 10) ∧ σ6.1 + 1 ≤ 1000 ∧ ∀ x8 σ8, x8 = σ6.1 + 1 → σ8 = nw σ6 → x8 ≤ σ8.1 ∧ ∀ σ10, σ10 = w2 σ8 v0 1 x8 → shp (σ10.1 + 1) = (13, 5) ∧ σ10.1 + 1 ≤ 1000 ∧ ∀ x12 σ12, x12 = σ10.1 + 1 → σ12 = nw σ10 → x12 ≤ σ12.1 ∧ ∀ σ14, σ14 = w2 σ12 v0 2 x12 → shp (σ14.1 + 1) = (13, 5) ∧ σ14.1 + 1 ≤ 1000 ∧ ∀ x16 σ16, x16 = σ14.1 + 1 → σ16 = nw σ14 → x16 ≤ σ16.1 ∧ ∀ σ18, σ18 = w2 σ16 v0 3 x16 → shp (σ18.1 + 1) = (14, 10) ∧ σ18.1 + 1 ≤ 1000 ∧ ∀ x20 σ20, x20 = σ18.1 + 1 → σ20 = nw σ18 → x20 ≤ σ20.1 ∧ ∀ σ22, σ22 = w2 σ20 v0 4 x20 → shp (σ22.1 + 1) = (13, 64) ∧ σ22.1 + 1 ≤ 1000 ∧ ∀ x24 σ24, x24 = σ22.1 + 1 → σ24 = nw σ22 → x24 ≤ σ24.1 ∧ ∀ σ26, σ26 = w2 σ24 v0 5 x24 → shp (σ26.1 + 1) = (13, 160) ∧ σ26.1 + 1 ≤ 1000 ∧ ∀ x28 σ28, x28 = σ26.1 + 1 → σ28 = nw σ26 → x28 ≤ σ28.1 ∧ ∀ σ30, σ30 = w2 σ28 v0 6 x28 → K σ30) : Con l mX6_init [.inr v0] σ (PV K) := by
  refine con_gw rfl (Nat.le_of_ble_eq_true rfl) ?_
  show GW l mX6_init 0 [(0, .inr v0)] [] σ 0 0 (PV K)
  refine gw_aload_n (q := 0) dX6_init_0 rfl rfl ?_
  obtain ⟨g1, h⟩ := h
  refine gw_objInit oiX6_3 oi_in oi_cd dX6_init_1 (by decide) (Nat.le_of_ble_eq_true rfl) g1 ?_
  refine gw_aload_n (q := 0) dX6_init_4 rfl rfl ?_
  refine gw_bipush (v := 10) dX6_init_5 bp_10 ?_
  obtain ⟨g2, g3, h⟩ := h
  refine gw_newi (N := 10) ac_int dX6_init_7 g2 (by decide) (by decide) (by decide) (by decide) (by decide) g3 (fun x3 σ3 ex3 e3 => ?_)
  replace h := h x3 σ3 ex3 e3
  obtain ⟨g4, h⟩ := h
  obtain ⟨z5, h⟩ := h
  refine gw_pRF fX6_9 (Or.inr ⟨_, rfl⟩) rfl rfl (fun C T N hc => by cases hc; exact xfX6_9) dX6_init_9 z5 g4 (fun σ6 e6 => ?_)
  replace h := h σ6 e6
  refine gw_aload_n (q := 0) dX6_init_12 rfl rfl ?_
  refine gw_bipush (v := 10) dX6_init_13 bp_10 ?_
  obtain ⟨g7, g8, h⟩ := h
  refine gw_newi (N := 10) ac_int dX6_init_15 g7 (by decide) (by decide) (by decide) (by decide) (by decide) g8 (fun x8 σ8 ex8 e8 => ?_)
  replace h := h x8 σ8 ex8 e8
  obtain ⟨z9, h⟩ := h
  refine gw_pRF fX6_15 (Or.inr ⟨_, rfl⟩) rfl rfl (fun C T N hc => by cases hc; exact xfX6_15) dX6_init_17 z9 ((g4.up (n_w2 e6)).up (n_nw e8)) (fun σ10 e10 => ?_)
  replace h := h σ10 e10
  refine gw_aload_n (q := 0) dX6_init_20 rfl rfl ?_
  refine gw_iconst (v := 5) dX6_init_21 ic_5 ?_
  obtain ⟨g11, g12, h⟩ := h
  refine gw_newi (N := 5) ac_int dX6_init_22 g11 (by decide) (by decide) (by decide) (by decide) (by decide) g12 (fun x12 σ12 ex12 e12 => ?_)
  replace h := h x12 σ12 ex12 e12
  obtain ⟨z13, h⟩ := h
  refine gw_pRF fX6_18 (Or.inr ⟨_, rfl⟩) rfl rfl (fun C T N hc => by cases hc; exact xfX6_18) dX6_init_24 z13 ((((g4.up (n_w2 e6)).up (n_nw e8)).up (n_w2 e10)).up (n_nw e12)) (fun σ14 e14 => ?_)
  replace h := h σ14 e14
  refine gw_aload_n (q := 0) dX6_init_27 rfl rfl ?_
  refine gw_iconst (v := 5) dX6_init_28 ic_5 ?_
  obtain ⟨g15, g16, h⟩ := h
  refine gw_newi (N := 5) ac_int dX6_init_29 g15 (by decide) (by decide) (by decide) (by decide) (by decide) g16 (fun x16 σ16 ex16 e16 => ?_)
  replace h := h x16 σ16 ex16 e16
  obtain ⟨z17, h⟩ := h
  refine gw_pRF fX6_21 (Or.inr ⟨_, rfl⟩) rfl rfl (fun C T N hc => by cases hc; exact xfX6_21) dX6_init_31 z17 ((((((g4.up (n_w2 e6)).up (n_nw e8)).up (n_w2 e10)).up (n_nw e12)).up (n_w2 e14)).up (n_nw e16)) (fun σ18 e18 => ?_)
  replace h := h σ18 e18
  refine gw_aload_n (q := 0) dX6_init_34 rfl rfl ?_
  refine gw_bipush (v := 10) dX6_init_35 bp_10 ?_
  obtain ⟨g19, g20, h⟩ := h
  refine gw_newz (N := 10) ac_boolean dX6_init_37 g19 (by decide) (by decide) (by decide) (by decide) (by decide) g20 (fun x20 σ20 ex20 e20 => ?_)
  replace h := h x20 σ20 ex20 e20
  obtain ⟨z21, h⟩ := h
  refine gw_pRF fX6_24 (Or.inr ⟨_, rfl⟩) rfl rfl (fun C T N hc => by cases hc; exact xfX6_24) dX6_init_39 z21 ((((((((g4.up (n_w2 e6)).up (n_nw e8)).up (n_w2 e10)).up (n_nw e12)).up (n_w2 e14)).up (n_nw e16)).up (n_w2 e18)).up (n_nw e20)) (fun σ22 e22 => ?_)
  replace h := h σ22 e22
  refine gw_aload_n (q := 0) dX6_init_42 rfl rfl ?_
  refine gw_bipush (v := 64) dX6_init_43 bp_64 ?_
  obtain ⟨g23, g24, h⟩ := h
  refine gw_newi (N := 64) ac_int dX6_init_45 g23 (by decide) (by decide) (by decide) (by decide) (by decide) g24 (fun x24 σ24 ex24 e24 => ?_)
  replace h := h x24 σ24 ex24 e24
  obtain ⟨z25, h⟩ := h
  refine gw_pRF fX6_28 (Or.inr ⟨_, rfl⟩) rfl rfl (fun C T N hc => by cases hc; exact xfX6_28) dX6_init_47 z25 ((((((((((g4.up (n_w2 e6)).up (n_nw e8)).up (n_w2 e10)).up (n_nw e12)).up (n_w2 e14)).up (n_nw e16)).up (n_w2 e18)).up (n_nw e20)).up (n_w2 e22)).up (n_nw e24)) (fun σ26 e26 => ?_)
  replace h := h σ26 e26
  refine gw_aload_n (q := 0) dX6_init_50 rfl rfl ?_
  refine gw_sipush (v := 160) dX6_init_51 sp_160 ?_
  obtain ⟨g27, g28, h⟩ := h
  refine gw_newi (N := 160) ac_int dX6_init_54 g27 (by decide) (by decide) (by decide) (by decide) (by decide) g28 (fun x28 σ28 ex28 e28 => ?_)
  replace h := h x28 σ28 ex28 e28
  obtain ⟨z29, h⟩ := h
  refine gw_pRF fX6_31 (Or.inr ⟨_, rfl⟩) rfl rfl (fun C T N hc => by cases hc; exact xfX6_31) dX6_init_56 z29 ((((((((((((g4.up (n_w2 e6)).up (n_nw e8)).up (n_w2 e10)).up (n_nw e12)).up (n_w2 e14)).up (n_nw e16)).up (n_w2 e18)).up (n_nw e20)).up (n_w2 e22)).up (n_nw e24)).up (n_w2 e26)).up (n_nw e28)) (fun σ30 e30 => ?_)
  replace h := h σ30 e30
  exact gw_rV dX6_init_59 rfl (by decide) (by decide) h
set_option maxHeartbeats 4000000 in
set_option maxRecDepth 20000 in
theorem gX6_search_117 {l : Launch} {v0 : Nat} {v1 : Nat} {v2 : Nat} {v3 : Int32} {v4 : Int32} {v5 : Int32} {σ : Sg} {K : Sg → Prop} (h : ((2 ≤ v5 → Ob σ v0 6 ∧ Con l mX6_choose [.inr v0] σ (PV (fun σ2 => K σ2))) ∧ (¬ 2 ≤ v5 → Ob σ v1 7 ∧ Con l mX7_armAt [.inr v1, .inl v5] σ (PR (fun x4 σ4 => ((x4 = 0 → GW l mX6_search 117 [(0, .inr v0), (1, .inr v1), (2, .inr v2), (3, .inl v3), (4, .inl v4), (5, .inl (v5 + 1))] [] σ4 0 0 (PV K)) ∧ (¬ x4 = 0 → Ob σ4 v0 6 ∧ Con l mX6_fillTimes [.inr v0, .inr x4, .inl v5] σ4 (PV (fun σ7 => GW l mX6_search 117 [(0, .inr v0), (1, .inr v1), (2, .inr v2), (3, .inl v3), (4, .inl v4), (5, .inl (v5 + 1))] [] σ7 0 0 (PV K)))))))))) : GW l mX6_search 117 [(0, .inr v0), (1, .inr v1), (2, .inr v2), (3, .inl v3), (4, .inl v4), (5, .inl v5)] [] σ 0 0 (PV K) := by
  refine gw_iload (q := 5) dX6_search_117 rfl ?_
  refine gw_iconst (v := 2) dX6_search_119 ic_2 ?_
  refine gw_icmp_ge (tgt := 150) dX6_search_120 (by decide) (fun c1 => ?_) (fun c1 => ?_)
  · replace h := h.1 c1
    refine gw_aload_n (q := 0) dX6_search_150 rfl rfl ?_
    obtain ⟨g3, h⟩ := h
    refine gw_vC (bs := []) (st := []) (vmX6_choose) lX6_60 dX6_search_151 ⟨by decide, rfl, rfl, by decide, by decide⟩ (Nat.le_of_ble_eq_true rfl) rfl rfl g3 h (kV (fun σ2 h n2 => ?_))
    exact gw_rV dX6_search_154 rfl (by decide) (by decide) h
  · replace h := h.2 c1
    refine gw_aload_n (q := 1) dX6_search_123 rfl rfl ?_
    refine gw_iload (q := 5) dX6_search_124 rfl ?_
    obtain ⟨g5, h⟩ := h
    refine gw_vC (bs := [.inl v5]) (st := []) (vmX7_armAt) lX6_52 dX6_search_126 ⟨by decide, rfl, rfl, by decide, by decide⟩ (Nat.le_of_ble_eq_true rfl) rfl rfl g5 h (kR (fun x4 σ4 h n4 => ?_))
    refine gw_astore (lo' := [(0, .inr v0), (1, .inr v1), (2, .inr v2), (3, .inl v3), (4, .inl v4), (5, .inl v5), (6, .inr x4)]) dX6_search_129 (by decide) rfl ?_
    refine gw_aload (q := 6) dX6_search_131 rfl ?_
    refine gw_ifnull (tgt := 144) dX6_search_133 (by decide) (fun c6 => ?_) (fun c6 => ?_)
    · replace h := h.1 c6
      refine gw_inc (lo' := [(0, .inr v0), (1, .inr v1), (2, .inr v2), (3, .inl v3), (4, .inl v4), (5, .inl (v5 + 1)), (6, .inr x4)]) (q := 5) (c := 1) dX6_search_144 ic_1 rfl (by decide) rfl ?_
      refine gw_goto (tgt := 117) dX6_search_147 (by decide) ?_
      refine gw_pick [0, 1, 2, 3, 4, 5] rfl ?_
      exact h
    · replace h := h.2 c6
      refine gw_aload_n (q := 0) dX6_search_136 rfl rfl ?_
      refine gw_aload (q := 6) dX6_search_137 rfl ?_
      refine gw_iload (q := 5) dX6_search_139 rfl ?_
      obtain ⟨g8, h⟩ := h
      refine gw_vC (bs := [.inr x4, .inl v5]) (st := []) (vmX6_fillTimes) lX6_56 dX6_search_141 ⟨by decide, rfl, rfl, by decide, by decide⟩ (Nat.le_of_ble_eq_true rfl) rfl rfl g8 h (kV (fun σ7 h n7 => ?_))
      refine gw_inc (lo' := [(0, .inr v0), (1, .inr v1), (2, .inr v2), (3, .inl v3), (4, .inl v4), (5, .inl (v5 + 1)), (6, .inr x4)]) (q := 5) (c := 1) dX6_search_144 ic_1 rfl (by decide) rfl ?_
      refine gw_goto (tgt := 117) dX6_search_147 (by decide) ?_
      refine gw_pick [0, 1, 2, 3, 4, 5] rfl ?_
      exact h
set_option maxHeartbeats 4000000 in
set_option maxRecDepth 20000 in
theorem gX6_search_74 {l : Launch} {v0 : Nat} {v1 : Nat} {v2 : Nat} {v3 : Int32} {v4 : Int32} {v5 : Int32} {v6 : Nat} {v7 : Int32} {σ : Sg} {K : Sg → Prop} (h : ((2 ≤ v7 → Ob σ v0 6 ∧ ∀ σ3, σ3 = w1 σ v0 7 ((σ.2.1 v0 7) + 1) → GW l mX6_search 8 [(0, .inr v0), (1, .inr v1), (2, .inr v2), (3, .inl v3), (4, .inl v4), (5, .inl (v5 + 1))] [] σ3 0 0 (PV K)) ∧ (¬ 2 ≤ v7 → Ob σ v0 6 ∧ Con l mX6_putTape [.inr v0, .inr v1, .inr v2, .inr v6, .inl v7, .inl v4] σ (PV (fun σ4 => GW l mX6_search 74 [(0, .inr v0), (1, .inr v1), (2, .inr v2), (3, .inl v3), (4, .inl v4), (5, .inl v5), (6, .inr v6), (7, .inl (v7 + 1))] [] σ4 0 0 (PV K)))))) : GW l mX6_search 74 [(0, .inr v0), (1, .inr v1), (2, .inr v2), (3, .inl v3), (4, .inl v4), (5, .inl v5), (6, .inr v6), (7, .inl v7)] [] σ 0 0 (PV K) := by
  refine gw_iload (q := 7) dX6_search_74 rfl ?_
  refine gw_iconst (v := 2) dX6_search_76 ic_2 ?_
  refine gw_icmp_ge (tgt := 98) dX6_search_77 (by decide) (fun c1 => ?_) (fun c1 => ?_)
  · replace h := h.1 c1
    refine gw_aload_n (q := 0) dX6_search_98 rfl rfl ?_
    refine gw_dup dX6_search_99 ?_
    obtain ⟨g2, h⟩ := h
    refine gw_gI fX6_34 dX6_search_100 g2 ?_
    refine gw_iconst (v := 1) dX6_search_103 ic_1 ?_
    refine gw_iadd dX6_search_104 ?_
    refine gw_pI fX6_34 dX6_search_105 g2 (fun σ3 e3 => ?_)
    replace h := h σ3 e3
    refine gw_inc (lo' := [(0, .inr v0), (1, .inr v1), (2, .inr v2), (3, .inl v3), (4, .inl v4), (5, .inl (v5 + 1)), (6, .inr v6), (7, .inl v7)]) (q := 5) (c := 1) dX6_search_108 ic_1 rfl (by decide) rfl ?_
    refine gw_goto (tgt := 8) dX6_search_111 (by decide) ?_
    refine gw_pick [0, 1, 2, 3, 4, 5] rfl ?_
    exact h
  · replace h := h.2 c1
    refine gw_aload_n (q := 0) dX6_search_80 rfl rfl ?_
    refine gw_aload_n (q := 1) dX6_search_81 rfl rfl ?_
    refine gw_aload_n (q := 2) dX6_search_82 rfl rfl ?_
    refine gw_aload (q := 6) dX6_search_83 rfl ?_
    refine gw_iload (q := 7) dX6_search_85 rfl ?_
    refine gw_iload (q := 4) dX6_search_87 rfl ?_
    obtain ⟨g5, h⟩ := h
    refine gw_vC (bs := [.inr v1, .inr v2, .inr v6, .inl v7, .inl v4]) (st := []) (vmX6_putTape) lX6_48 dX6_search_89 ⟨by decide, rfl, rfl, by decide, by decide⟩ (Nat.le_of_ble_eq_true rfl) rfl rfl g5 h (kV (fun σ4 h n4 => ?_))
    refine gw_inc (lo' := [(0, .inr v0), (1, .inr v1), (2, .inr v2), (3, .inl v3), (4, .inl v4), (5, .inl v5), (6, .inr v6), (7, .inl (v7 + 1))]) (q := 7) (c := 1) dX6_search_92 ic_1 rfl (by decide) rfl ?_
    refine gw_goto (tgt := 74) dX6_search_95 (by decide) ?_
    exact h
set_option maxHeartbeats 4000000 in
set_option maxRecDepth 20000 in
theorem gX6_search_8 {l : Launch} {v0 : Nat} {v1 : Nat} {v2 : Nat} {v3 : Int32} {v4 : Int32} {v5 : Int32} {σ : Sg} {K : Sg → Prop} (h : ((10 ≤ v5 → GW l mX6_search 117 [(0, .inr v0), (1, .inr v1), (2, .inr v2), (3, .inl v3), (4, .inl v4), (5, .inl 0)] [] σ 0 0 (PV K)) ∧ (¬ 10 ≤ v5 → Ob σ v1 7 ∧ Con l mX7_tapeAt [.inr v1, .inl v5] σ (PR (fun x2 σ2 => ((x2 = 0 → GW l mX6_search 8 [(0, .inr v0), (1, .inr v1), (2, .inr v2), (3, .inl v3), (4, .inl v4), (5, .inl (v5 + 1))] [] σ2 0 0 (PV K)) ∧ (¬ x2 = 0 → ((¬ ((v3 >>> (v5 &&& 31)) &&& 1) = 1 → GW l mX6_search 8 [(0, .inr v0), (1, .inr v1), (2, .inr v2), (3, .inl v3), (4, .inl v4), (5, .inl (v5 + 1))] [] σ2 0 0 (PV K)) ∧ (((v3 >>> (v5 &&& 31)) &&& 1) = 1 → Ob σ2 v0 6 ∧ ((5 ≤ (σ2.2.1 v0 7) → GW l mX6_search 8 [(0, .inr v0), (1, .inr v1), (2, .inr v2), (3, .inl v3), (4, .inl v4), (5, .inl (v5 + 1))] [] σ2 0 0 (PV K)) ∧ (¬ 5 ≤ (σ2.2.1 v0 7) → Ai σ2 (σ2.2.2 v0 3) (σ2.2.1 v0 7) ∧ ∀ σ9, σ9 = w1 σ2 (σ2.2.2 v0 3) (σ2.2.1 v0 7).toNatClampNeg v5 → Ob σ9 x2 9 ∧ Ai σ9 (σ9.2.2 v0 2) (σ9.2.1 v0 7) ∧ ∀ σ12, σ12 = w1 σ9 (σ9.2.2 v0 2) (σ9.2.1 v0 7).toNatClampNeg (σ9.2.1 x2 3) → GW l mX6_search 74 [(0, .inr v0), (1, .inr v1), (2, .inr v2), (3, .inl v3), (4, .inl v4), (5, .inl v5), (6, .inr x2), (7, .inl 0)] [] σ12 0 0 (PV K)))))))))))) : GW l mX6_search 8 [(0, .inr v0), (1, .inr v1), (2, .inr v2), (3, .inl v3), (4, .inl v4), (5, .inl v5)] [] σ 0 0 (PV K) := by
  refine gw_iload (q := 5) dX6_search_8 rfl ?_
  refine gw_bipush (v := 10) dX6_search_10 bp_10 ?_
  refine gw_icmp_ge (tgt := 114) dX6_search_12 (by decide) (fun c1 => ?_) (fun c1 => ?_)
  · replace h := h.1 c1
    refine gw_iconst (v := 0) dX6_search_114 ic_0 ?_
    refine gw_istore (lo' := [(0, .inr v0), (1, .inr v1), (2, .inr v2), (3, .inl v3), (4, .inl v4), (5, .inl 0)]) dX6_search_115 (by decide) rfl ?_
    exact h
  · replace h := h.2 c1
    refine gw_aload_n (q := 1) dX6_search_15 rfl rfl ?_
    refine gw_iload (q := 5) dX6_search_16 rfl ?_
    obtain ⟨g3, h⟩ := h
    refine gw_vC (bs := [.inl v5]) (st := []) (vmX7_tapeAt) lX6_38 dX6_search_18 ⟨by decide, rfl, rfl, by decide, by decide⟩ (Nat.le_of_ble_eq_true rfl) rfl rfl g3 h (kR (fun x2 σ2 h n2 => ?_))
    refine gw_astore (lo' := [(0, .inr v0), (1, .inr v1), (2, .inr v2), (3, .inl v3), (4, .inl v4), (5, .inl v5), (6, .inr x2)]) dX6_search_21 (by decide) rfl ?_
    refine gw_aload (q := 6) dX6_search_23 rfl ?_
    refine gw_ifnull (tgt := 108) dX6_search_25 (by decide) (fun c4 => ?_) (fun c4 => ?_)
    · replace h := h.1 c4
      refine gw_inc (lo' := [(0, .inr v0), (1, .inr v1), (2, .inr v2), (3, .inl v3), (4, .inl v4), (5, .inl (v5 + 1)), (6, .inr x2)]) (q := 5) (c := 1) dX6_search_108 ic_1 rfl (by decide) rfl ?_
      refine gw_goto (tgt := 8) dX6_search_111 (by decide) ?_
      refine gw_pick [0, 1, 2, 3, 4, 5] rfl ?_
      exact h
    · replace h := h.2 c4
      refine gw_iload_n (q := 3) dX6_search_28 rfl rfl ?_
      refine gw_iload (q := 5) dX6_search_29 rfl ?_
      refine gw_ishr dX6_search_31 ?_
      refine gw_iconst (v := 1) dX6_search_32 ic_1 ?_
      refine gw_iand dX6_search_33 ?_
      refine gw_iconst (v := 1) dX6_search_34 ic_1 ?_
      refine gw_icmp_ne (tgt := 108) dX6_search_35 (by decide) (fun c5 => ?_) (fun c5 => ?_)
      · replace h := h.1 c5
        refine gw_inc (lo' := [(0, .inr v0), (1, .inr v1), (2, .inr v2), (3, .inl v3), (4, .inl v4), (5, .inl (v5 + 1)), (6, .inr x2)]) (q := 5) (c := 1) dX6_search_108 ic_1 rfl (by decide) rfl ?_
        refine gw_goto (tgt := 8) dX6_search_111 (by decide) ?_
        refine gw_pick [0, 1, 2, 3, 4, 5] rfl ?_
        exact h
      · replace h := h.2 c5
        refine gw_aload_n (q := 0) dX6_search_38 rfl rfl ?_
        obtain ⟨g6, h⟩ := h
        refine gw_gI fX6_34 dX6_search_39 g6 ?_
        refine gw_iconst (v := 5) dX6_search_42 ic_5 ?_
        refine gw_icmp_ge (tgt := 108) dX6_search_43 (by decide) (fun c7 => ?_) (fun c7 => ?_)
        · replace h := h.1 c7
          refine gw_inc (lo' := [(0, .inr v0), (1, .inr v1), (2, .inr v2), (3, .inl v3), (4, .inl v4), (5, .inl (v5 + 1)), (6, .inr x2)]) (q := 5) (c := 1) dX6_search_108 ic_1 rfl (by decide) rfl ?_
          refine gw_goto (tgt := 8) dX6_search_111 (by decide) ?_
          refine gw_pick [0, 1, 2, 3, 4, 5] rfl ?_
          exact h
        · replace h := h.2 c7
          refine gw_aload_n (q := 0) dX6_search_46 rfl rfl ?_
          refine gw_gR fX6_21 dX6_search_47 g6 ?_
          refine gw_aload_n (q := 0) dX6_search_50 rfl rfl ?_
          refine gw_gI fX6_34 dX6_search_51 g6 ?_
          refine gw_iload (q := 5) dX6_search_54 rfl ?_
          obtain ⟨g8, h⟩ := h
          refine gw_sI dX6_search_56 g8 (fun σ9 e9 => ?_)
          replace h := h σ9 e9
          refine gw_aload_n (q := 0) dX6_search_57 rfl rfl ?_
          refine gw_gR fX6_18 dX6_search_58 (g6.up (n_w1 e9)) ?_
          refine gw_aload_n (q := 0) dX6_search_61 rfl rfl ?_
          refine gw_gI fX6_34 dX6_search_62 (g6.up (n_w1 e9)) ?_
          refine gw_aload (q := 6) dX6_search_65 rfl ?_
          obtain ⟨g10, h⟩ := h
          refine gw_gI fX6_44 dX6_search_67 g10 ?_
          obtain ⟨g11, h⟩ := h
          refine gw_sI dX6_search_70 g11 (fun σ12 e12 => ?_)
          replace h := h σ12 e12
          refine gw_iconst (v := 0) dX6_search_71 ic_0 ?_
          refine gw_istore (lo' := [(0, .inr v0), (1, .inr v1), (2, .inr v2), (3, .inl v3), (4, .inl v4), (5, .inl v5), (6, .inr x2), (7, .inl 0)]) dX6_search_72 (by decide) rfl ?_
          exact h
set_option maxHeartbeats 4000000 in
set_option maxRecDepth 20000 in
theorem eX6_search {l : Launch} {v0 : Nat} {v1 : Nat} {v2 : Nat} {v3 : Int32} {v4 : Int32} {σ : Sg} {K : Sg → Prop} (h : Ob σ v0 6 ∧ ∀ σ2, σ2 = w1 σ v0 7 0 → GW l mX6_search 8 [(0, .inr v0), (1, .inr v1), (2, .inr v2), (3, .inl v3), (4, .inl v4), (5, .inl 0)] [] σ2 0 0 (PV K)) : Con l mX6_search [.inr v0, .inr v1, .inr v2, .inl v3, .inl v4] σ (PV K) := by
  refine con_gw rfl (Nat.le_of_ble_eq_true rfl) ?_
  show GW l mX6_search 0 [(0, .inr v0), (1, .inr v1), (2, .inr v2), (3, .inl v3), (4, .inl v4)] [] σ 0 0 (PV K)
  refine gw_aload_n (q := 0) dX6_search_0 rfl rfl ?_
  refine gw_iconst (v := 0) dX6_search_1 ic_0 ?_
  obtain ⟨g1, h⟩ := h
  refine gw_pI fX6_34 dX6_search_2 g1 (fun σ2 e2 => ?_)
  replace h := h σ2 e2
  refine gw_iconst (v := 0) dX6_search_5 ic_0 ?_
  refine gw_istore (lo' := [(0, .inr v0), (1, .inr v1), (2, .inr v2), (3, .inl v3), (4, .inl v4), (5, .inl 0)]) dX6_search_6 (by decide) rfl ?_
  exact h
set_option maxHeartbeats 4000000 in
set_option maxRecDepth 20000 in
theorem eX6_putTape {l : Launch} {v0 : Nat} {v1 : Nat} {v2 : Nat} {v3 : Nat} {v4 : Int32} {v5 : Int32} {σ : Sg} {K : Sg → Prop} (h : Ob σ v0 6 ∧ Ob σ v1 7 ∧ Con l mX7_armOf [.inr v1, .inr v3] σ (PR (fun x2 σ2 => Con l mX7_armAt [.inr v1, .inl v4] σ2 (PR (fun x4 σ4 => ((x2 = 0 → K σ4) ∧ (¬ x2 = 0 → ((x4 = 0 → K σ4) ∧ (¬ x4 = 0 → ((((v4 * 5) + (σ.2.1 v0 7)) < 0 → K σ4) ∧ (¬ ((v4 * 5) + (σ.2.1 v0 7)) < 0 → Al σ4 (σ4.2.2 v0 4) ∧ ((((v4 * 5) + (σ.2.1 v0 7)) < (Int32.ofNat (shp (σ4.2.2 v0 4)).2) → Ob σ4 v3 9 ∧ ((¬ (σ4.2.1 v3 2) = v4 → Ob σ4 v2 3 ∧ Con l mX3_search [.inr v2, .inr v3, .inr x2, .inr x4, .inl 0, .inl v5] σ4 (PI (fun x12 σ12 => Az σ12 (σ4.2.2 v0 4) ((v4 * 5) + (σ.2.1 v0 7)) ∧ (x12 = 0 ∨ x12 = 1) ∧ ∀ σ16, σ16 = w1 σ12 (σ4.2.2 v0 4) ((v4 * 5) + (σ.2.1 v0 7)).toNatClampNeg x12 → Con l mX3_poseAt [.inr v2, .inl 0] σ16 (PI (fun x17 σ17 => Ai σ17 (σ16.2.2 v0 0) ((v4 * 5) + (σ.2.1 v0 7)) ∧ ∀ σ19, σ19 = w1 σ17 (σ16.2.2 v0 0) ((v4 * 5) + (σ.2.1 v0 7)).toNatClampNeg x17 → Con l mX3_poseAt [.inr v2, .inl ((σ19.2.1 v3 3) - 1)] σ19 (PI (fun x20 σ20 => Ai σ20 (σ19.2.2 v0 1) ((v4 * 5) + (σ.2.1 v0 7)) ∧ ∀ σ22, σ22 = w1 σ20 (σ19.2.2 v0 1) ((v4 * 5) + (σ.2.1 v0 7)).toNatClampNeg x20 → K σ22))))))) ∧ ((σ4.2.1 v3 2) = v4 → Az σ4 (σ4.2.2 v0 4) ((v4 * 5) + (σ.2.1 v0 7)) ∧ ∀ σ24, σ24 = w1 σ4 (σ4.2.2 v0 4) ((v4 * 5) + (σ.2.1 v0 7)).toNatClampNeg 1 → Con l mX9_poseAt [.inr v3, .inl 0] σ24 (PI (fun x25 σ25 => Ai σ25 (σ24.2.2 v0 0) ((v4 * 5) + (σ.2.1 v0 7)) ∧ ∀ σ27, σ27 = w1 σ25 (σ24.2.2 v0 0) ((v4 * 5) + (σ.2.1 v0 7)).toNatClampNeg x25 → Con l mX9_lastPose [.inr v3] σ27 (PI (fun x28 σ28 => Ai σ28 (σ27.2.2 v0 1) ((v4 * 5) + (σ.2.1 v0 7)) ∧ ∀ σ30, σ30 = w1 σ28 (σ27.2.2 v0 1) ((v4 * 5) + (σ.2.1 v0 7)).toNatClampNeg x28 → K σ30))))))) ∧ (¬ ((v4 * 5) + (σ.2.1 v0 7)) < (Int32.ofNat (shp (σ4.2.2 v0 4)).2) → K σ4))))))))))))) : Con l mX6_putTape [.inr v0, .inr v1, .inr v2, .inr v3, .inl v4, .inl v5] σ (PV K) := by
  refine con_gw rfl (Nat.le_of_ble_eq_true rfl) ?_
  show GW l mX6_putTape 0 [(0, .inr v0), (1, .inr v1), (2, .inr v2), (3, .inr v3), (4, .inl v4), (5, .inl v5)] [] σ 0 0 (PV K)
  refine gw_iload (q := 4) dX6_putTape_0 rfl ?_
  refine gw_iconst (v := 5) dX6_putTape_2 ic_5 ?_
  refine gw_imul dX6_putTape_3 ?_
  refine gw_aload_n (q := 0) dX6_putTape_4 rfl rfl ?_
  obtain ⟨g1, h⟩ := h
  refine gw_gI fX6_34 dX6_putTape_5 g1 ?_
  refine gw_iadd dX6_putTape_8 ?_
  refine gw_istore (lo' := [(0, .inr v0), (1, .inr v1), (2, .inr v2), (3, .inr v3), (4, .inl v4), (5, .inl v5), (6, .inl ((v4 * 5) + (σ.2.1 v0 7)))]) dX6_putTape_9 (by decide) rfl ?_
  refine gw_aload_n (q := 1) dX6_putTape_11 rfl rfl ?_
  refine gw_aload_n (q := 3) dX6_putTape_12 rfl rfl ?_
  obtain ⟨g3, h⟩ := h
  refine gw_vC (bs := [.inr v3]) (st := []) (vmX7_armOf) lX6_63 dX6_putTape_13 ⟨by decide, rfl, rfl, by decide, by decide⟩ (Nat.le_of_ble_eq_true rfl) rfl rfl g3 h (kR (fun x2 σ2 h n2 => ?_))
  refine gw_astore (lo' := [(0, .inr v0), (1, .inr v1), (2, .inr v2), (3, .inr v3), (4, .inl v4), (5, .inl v5), (6, .inl ((v4 * 5) + (σ.2.1 v0 7))), (7, .inr x2)]) dX6_putTape_16 (by decide) rfl ?_
  refine gw_aload_n (q := 1) dX6_putTape_18 rfl rfl ?_
  refine gw_iload (q := 4) dX6_putTape_19 rfl ?_
  refine gw_vC (bs := [.inl v4]) (st := []) (vmX7_armAt) lX6_52 dX6_putTape_21 ⟨by decide, rfl, rfl, by decide, by decide⟩ (Nat.le_of_ble_eq_true rfl) rfl rfl (g3.up n2) h (kR (fun x4 σ4 h n4 => ?_))
  refine gw_astore (lo' := [(0, .inr v0), (1, .inr v1), (2, .inr v2), (3, .inr v3), (4, .inl v4), (5, .inl v5), (6, .inl ((v4 * 5) + (σ.2.1 v0 7))), (7, .inr x2), (8, .inr x4)]) dX6_putTape_24 (by decide) rfl ?_
  refine gw_aload (q := 7) dX6_putTape_26 rfl ?_
  refine gw_ifnull (tgt := 51) dX6_putTape_28 (by decide) (fun c5 => ?_) (fun c5 => ?_)
  · replace h := h.1 c5
    exact gw_rV dX6_putTape_51 rfl (by decide) (by decide) h
  · replace h := h.2 c5
    refine gw_aload (q := 8) dX6_putTape_31 rfl ?_
    refine gw_ifnull (tgt := 51) dX6_putTape_33 (by decide) (fun c6 => ?_) (fun c6 => ?_)
    · replace h := h.1 c6
      exact gw_rV dX6_putTape_51 rfl (by decide) (by decide) h
    · replace h := h.2 c6
      refine gw_iload (q := 6) dX6_putTape_36 rfl ?_
      refine gw_if_lt (tgt := 51) dX6_putTape_38 (by decide) (fun c7 => ?_) (fun c7 => ?_)
      · replace h := h.1 c7
        exact gw_rV dX6_putTape_51 rfl (by decide) (by decide) h
      · replace h := h.2 c7
        refine gw_iload (q := 6) dX6_putTape_41 rfl ?_
        refine gw_aload_n (q := 0) dX6_putTape_43 rfl rfl ?_
        refine gw_gR fX6_24 dX6_putTape_44 ((g1.up n2).up n4) ?_
        obtain ⟨g8, h⟩ := h
        refine gw_aL dX6_putTape_47 g8 ?_
        refine gw_icmp_lt (tgt := 52) dX6_putTape_48 (by decide) (fun c9 => ?_) (fun c9 => ?_)
        · replace h := h.1 c9
          refine gw_aload_n (q := 3) dX6_putTape_52 rfl rfl ?_
          obtain ⟨g10, h⟩ := h
          refine gw_gI fX6_67 dX6_putTape_53 g10 ?_
          refine gw_iload (q := 4) dX6_putTape_56 rfl ?_
          refine gw_icmp_ne (tgt := 95) dX6_putTape_58 (by decide) (fun c11 => ?_) (fun c11 => ?_)
          · replace h := h.1 c11
            refine gw_aload_n (q := 0) dX6_putTape_95 rfl rfl ?_
            refine gw_gR fX6_24 dX6_putTape_96 ((g1.up n2).up n4) ?_
            refine gw_iload (q := 6) dX6_putTape_99 rfl ?_
            refine gw_aload_n (q := 2) dX6_putTape_101 rfl rfl ?_
            refine gw_aload_n (q := 3) dX6_putTape_102 rfl rfl ?_
            refine gw_aload (q := 7) dX6_putTape_103 rfl ?_
            refine gw_aload (q := 8) dX6_putTape_105 rfl ?_
            refine gw_iconst (v := 0) dX6_putTape_107 ic_0 ?_
            refine gw_iload (q := 5) dX6_putTape_108 rfl ?_
            obtain ⟨g13, h⟩ := h
            refine gw_vC (bs := [.inr v3, .inr x2, .inr x4, .inl 0, .inl v5]) (st := [.inl ((v4 * 5) + (σ.2.1 v0 7)), .inr (σ4.2.2 v0 4)]) (vmX3_search) lX6_78 dX6_putTape_110 ⟨by decide, rfl, rfl, by decide, by decide⟩ (Nat.le_of_ble_eq_true rfl) rfl rfl g13 h (kI (fun x12 σ12 h n12 => ?_))
            obtain ⟨g14, h⟩ := h
            obtain ⟨z15, h⟩ := h
            refine gw_sZ dX6_putTape_113 z15 g14 (fun σ16 e16 => ?_)
            replace h := h σ16 e16
            refine gw_aload_n (q := 0) dX6_putTape_114 rfl rfl ?_
            refine gw_gR fX6_9 dX6_putTape_115 ((((g1.up n2).up n4).up n12).up (n_w1 e16)) ?_
            refine gw_iload (q := 6) dX6_putTape_118 rfl ?_
            refine gw_aload_n (q := 2) dX6_putTape_120 rfl rfl ?_
            refine gw_iconst (v := 0) dX6_putTape_121 ic_0 ?_
            refine gw_vC (bs := [.inl 0]) (st := [.inl ((v4 * 5) + (σ.2.1 v0 7)), .inr (σ16.2.2 v0 0)]) (vmX3_poseAt) lX6_84 dX6_putTape_122 ⟨by decide, rfl, rfl, by decide, by decide⟩ (Nat.le_of_ble_eq_true rfl) rfl rfl ((g13.up n12).up (n_w1 e16)) h (kI (fun x17 σ17 h n17 => ?_))
            obtain ⟨g18, h⟩ := h
            refine gw_sI dX6_putTape_125 g18 (fun σ19 e19 => ?_)
            replace h := h σ19 e19
            refine gw_aload_n (q := 0) dX6_putTape_126 rfl rfl ?_
            refine gw_gR fX6_15 dX6_putTape_127 ((((((g1.up n2).up n4).up n12).up (n_w1 e16)).up n17).up (n_w1 e19)) ?_
            refine gw_iload (q := 6) dX6_putTape_130 rfl ?_
            refine gw_aload_n (q := 2) dX6_putTape_132 rfl rfl ?_
            refine gw_aload_n (q := 3) dX6_putTape_133 rfl rfl ?_
            refine gw_gI fX6_44 dX6_putTape_134 ((((g10.up n12).up (n_w1 e16)).up n17).up (n_w1 e19)) ?_
            refine gw_iconst (v := 1) dX6_putTape_137 ic_1 ?_
            refine gw_isub dX6_putTape_138 ?_
            refine gw_vC (bs := [.inl ((σ19.2.1 v3 3) - 1)]) (st := [.inl ((v4 * 5) + (σ.2.1 v0 7)), .inr (σ19.2.2 v0 1)]) (vmX3_poseAt) lX6_84 dX6_putTape_139 ⟨by decide, rfl, rfl, by decide, by decide⟩ (Nat.le_of_ble_eq_true rfl) rfl rfl ((((g13.up n12).up (n_w1 e16)).up n17).up (n_w1 e19)) h (kI (fun x20 σ20 h n20 => ?_))
            obtain ⟨g21, h⟩ := h
            refine gw_sI dX6_putTape_142 g21 (fun σ22 e22 => ?_)
            replace h := h σ22 e22
            exact gw_rV dX6_putTape_143 rfl (by decide) (by decide) h
          · replace h := h.2 c11
            refine gw_aload_n (q := 0) dX6_putTape_61 rfl rfl ?_
            refine gw_gR fX6_24 dX6_putTape_62 ((g1.up n2).up n4) ?_
            refine gw_iload (q := 6) dX6_putTape_65 rfl ?_
            refine gw_iconst (v := 1) dX6_putTape_67 ic_1 ?_
            obtain ⟨g23, h⟩ := h
            refine gw_sZ dX6_putTape_68 (by decide) g23 (fun σ24 e24 => ?_)
            replace h := h σ24 e24
            refine gw_aload_n (q := 0) dX6_putTape_69 rfl rfl ?_
            refine gw_gR fX6_9 dX6_putTape_70 (((g1.up n2).up n4).up (n_w1 e24)) ?_
            refine gw_iload (q := 6) dX6_putTape_73 rfl ?_
            refine gw_aload_n (q := 3) dX6_putTape_75 rfl rfl ?_
            refine gw_iconst (v := 0) dX6_putTape_76 ic_0 ?_
            refine gw_vC (bs := [.inl 0]) (st := [.inl ((v4 * 5) + (σ.2.1 v0 7)), .inr (σ24.2.2 v0 0)]) (vmX9_poseAt) lX6_70 dX6_putTape_77 ⟨by decide, rfl, rfl, by decide, by decide⟩ (Nat.le_of_ble_eq_true rfl) rfl rfl (g10.up (n_w1 e24)) h (kI (fun x25 σ25 h n25 => ?_))
            obtain ⟨g26, h⟩ := h
            refine gw_sI dX6_putTape_80 g26 (fun σ27 e27 => ?_)
            replace h := h σ27 e27
            refine gw_aload_n (q := 0) dX6_putTape_81 rfl rfl ?_
            refine gw_gR fX6_15 dX6_putTape_82 (((((g1.up n2).up n4).up (n_w1 e24)).up n25).up (n_w1 e27)) ?_
            refine gw_iload (q := 6) dX6_putTape_85 rfl ?_
            refine gw_aload_n (q := 3) dX6_putTape_87 rfl rfl ?_
            refine gw_vC (bs := []) (st := [.inl ((v4 * 5) + (σ.2.1 v0 7)), .inr (σ27.2.2 v0 1)]) (vmX9_lastPose) lX6_74 dX6_putTape_88 ⟨by decide, rfl, rfl, by decide, by decide⟩ (Nat.le_of_ble_eq_true rfl) rfl rfl (((g10.up (n_w1 e24)).up n25).up (n_w1 e27)) h (kI (fun x28 σ28 h n28 => ?_))
            obtain ⟨g29, h⟩ := h
            refine gw_sI dX6_putTape_91 g29 (fun σ30 e30 => ?_)
            replace h := h σ30 e30
            refine gw_goto (tgt := 143) dX6_putTape_92 (by decide) ?_
            exact gw_rV dX6_putTape_143 rfl (by decide) (by decide) h
        · replace h := h.2 c9
          exact gw_rV dX6_putTape_51 rfl (by decide) (by decide) h
set_option maxHeartbeats 4000000 in
set_option maxRecDepth 20000 in
theorem gX6_fillTimes_112 {l : Launch} {v0 : Nat} {v1 : Nat} {v2 : Int32} {v3 : Int32} {v4 : Int32} {v5 : Int32} {v6 : Int32} {σ : Sg} {K : Sg → Prop} (h : Con l mJ9_min_7cf53 [.inl (v4 + v5), .inl 1000000] σ (PI (fun x1 σ1 => Ob σ1 v0 6 ∧ Con l mX6_setTime [.inr v0, .inl v2, .inl v3, .inl x1] σ1 (PV (fun σ2 => GW l mX6_fillTimes 2 [(0, .inr v0), (1, .inr v1), (2, .inl v2), (3, .inl (v3 + 1))] [] σ2 0 0 (PV K)))))) : GW l mX6_fillTimes 112 [(0, .inr v0), (1, .inr v1), (2, .inl v2), (3, .inl v3), (4, .inl v4), (5, .inl v5), (6, .inl v6)] [] σ 0 0 (PV K) := by
  refine gw_aload_n (q := 0) dX6_fillTimes_112 rfl rfl ?_
  refine gw_iload_n (q := 2) dX6_fillTimes_113 rfl rfl ?_
  refine gw_iload_n (q := 3) dX6_fillTimes_114 rfl rfl ?_
  refine gw_iload (q := 4) dX6_fillTimes_115 rfl ?_
  refine gw_iload (q := 5) dX6_fillTimes_117 rfl ?_
  refine gw_iadd dX6_fillTimes_119 ?_
  refine gw_ldc (v := 1000000) kX6_85 dX6_fillTimes_120 ?_
  refine gw_sC (bs := [.inl (v4 + v5), .inl 1000000]) (st := [.inl v3, .inl v2, .inr v0]) smJ9_min_7cf53 lX6_90 dX6_fillTimes_122 ⟨by decide, rfl, rfl, by decide, by decide⟩ (Nat.le_of_ble_eq_true rfl) rfl rfl h (kI (fun x1 σ1 h n1 => ?_))
  obtain ⟨g3, h⟩ := h
  refine gw_vC (bs := [.inl v2, .inl v3, .inl x1]) (st := []) (vmX6_setTime) lX6_96 dX6_fillTimes_125 ⟨by decide, rfl, rfl, by decide, by decide⟩ (Nat.le_of_ble_eq_true rfl) rfl rfl g3 h (kV (fun σ2 h n2 => ?_))
  refine gw_inc (lo' := [(0, .inr v0), (1, .inr v1), (2, .inl v2), (3, .inl (v3 + 1)), (4, .inl v4), (5, .inl v5), (6, .inl v6)]) (q := 3) (c := 1) dX6_fillTimes_128 ic_1 rfl (by decide) rfl ?_
  refine gw_goto (tgt := 2) dX6_fillTimes_131 (by decide) ?_
  refine gw_pick [0, 1, 2, 3] rfl ?_
  exact h
set_option maxHeartbeats 4000000 in
set_option maxRecDepth 20000 in
theorem gX6_fillTimes_36 {l : Launch} {v0 : Nat} {v1 : Nat} {v2 : Int32} {v3 : Int32} {v4 : Int32} {v5 : Int32} {v6 : Int32} {σ : Sg} {K : Sg → Prop} (h : Ob σ v0 6 ∧ (((σ.2.1 v0 7) ≤ v6 → GW l mX6_fillTimes 112 [(0, .inr v0), (1, .inr v1), (2, .inl v2), (3, .inl v3), (4, .inl v4), (5, .inl v5), (6, .inl v6)] [] σ 0 0 (PV K)) ∧ (¬ (σ.2.1 v0 7) ≤ v6 → ((5 ≤ v6 → GW l mX6_fillTimes 112 [(0, .inr v0), (1, .inr v1), (2, .inl v2), (3, .inl v3), (4, .inl v4), (5, .inl v5), (6, .inl v6)] [] σ 0 0 (PV K)) ∧ (¬ 5 ≤ v6 → ((¬ ((v3 >>> (v6 &&& 31)) &&& 1) = 1 → GW l mX6_fillTimes 36 [(0, .inr v0), (1, .inr v1), (2, .inl v2), (3, .inl v3), (4, .inl v4), (5, .inl v5), (6, .inl (v6 + 1))] [] σ 0 0 (PV K)) ∧ (((v3 >>> (v6 &&& 31)) &&& 1) = 1 → Con l mX6_leastEnd [.inr v0, .inr v1, .inl v2, .inl v3, .inl v6] σ (PI (fun x5 σ5 => Ai σ5 (σ5.2.2 v0 6) ((v3 * 5) + v6) ∧ ∀ σ7, σ7 = w1 σ5 (σ5.2.2 v0 6) ((v3 * 5) + v6).toNatClampNeg x5 → Con l mJ9_min_7cf53 [.inl v4, .inl x5] σ7 (PI (fun x8 σ8 => Ai σ8 (σ8.2.2 v0 2) v6 ∧ GW l mX6_fillTimes 36 [(0, .inr v0), (1, .inr v1), (2, .inl v2), (3, .inl v3), (4, .inl x8), (5, .inl (v5 + (σ8.2.1 (σ8.2.2 v0 2) v6.toNatClampNeg))), (6, .inl (v6 + 1))] [] σ8 0 0 (PV K)))))))))))) : GW l mX6_fillTimes 36 [(0, .inr v0), (1, .inr v1), (2, .inl v2), (3, .inl v3), (4, .inl v4), (5, .inl v5), (6, .inl v6)] [] σ 0 0 (PV K) := by
  refine gw_iload (q := 6) dX6_fillTimes_36 rfl ?_
  refine gw_aload_n (q := 0) dX6_fillTimes_38 rfl rfl ?_
  obtain ⟨g1, h⟩ := h
  refine gw_gI fX6_34 dX6_fillTimes_39 g1 ?_
  refine gw_icmp_ge (tgt := 112) dX6_fillTimes_42 (by decide) (fun c2 => ?_) (fun c2 => ?_)
  · replace h := h.1 c2
    exact h
  · replace h := h.2 c2
    refine gw_iload (q := 6) dX6_fillTimes_45 rfl ?_
    refine gw_iconst (v := 5) dX6_fillTimes_47 ic_5 ?_
    refine gw_icmp_ge (tgt := 112) dX6_fillTimes_48 (by decide) (fun c3 => ?_) (fun c3 => ?_)
    · replace h := h.1 c3
      exact h
    · replace h := h.2 c3
      refine gw_iload_n (q := 3) dX6_fillTimes_51 rfl rfl ?_
      refine gw_iload (q := 6) dX6_fillTimes_52 rfl ?_
      refine gw_ishr dX6_fillTimes_54 ?_
      refine gw_iconst (v := 1) dX6_fillTimes_55 ic_1 ?_
      refine gw_iand dX6_fillTimes_56 ?_
      refine gw_iconst (v := 1) dX6_fillTimes_57 ic_1 ?_
      refine gw_icmp_ne (tgt := 106) dX6_fillTimes_58 (by decide) (fun c4 => ?_) (fun c4 => ?_)
      · replace h := h.1 c4
        refine gw_inc (lo' := [(0, .inr v0), (1, .inr v1), (2, .inl v2), (3, .inl v3), (4, .inl v4), (5, .inl v5), (6, .inl (v6 + 1))]) (q := 6) (c := 1) dX6_fillTimes_106 ic_1 rfl (by decide) rfl ?_
        refine gw_goto (tgt := 36) dX6_fillTimes_109 (by decide) ?_
        exact h
      · replace h := h.2 c4
        refine gw_aload_n (q := 0) dX6_fillTimes_61 rfl rfl ?_
        refine gw_aload_n (q := 1) dX6_fillTimes_62 rfl rfl ?_
        refine gw_iload_n (q := 2) dX6_fillTimes_63 rfl rfl ?_
        refine gw_iload_n (q := 3) dX6_fillTimes_64 rfl rfl ?_
        refine gw_iload (q := 6) dX6_fillTimes_65 rfl ?_
        refine gw_vC (bs := [.inr v1, .inl v2, .inl v3, .inl v6]) (st := []) (vmX6_leastEnd) lX6_86 dX6_fillTimes_67 ⟨by decide, rfl, rfl, by decide, by decide⟩ (Nat.le_of_ble_eq_true rfl) rfl rfl g1 h (kI (fun x5 σ5 h n5 => ?_))
        refine gw_istore (lo' := [(0, .inr v0), (1, .inr v1), (2, .inl v2), (3, .inl v3), (4, .inl v4), (5, .inl v5), (6, .inl v6), (7, .inl x5)]) dX6_fillTimes_70 (by decide) rfl ?_
        refine gw_aload_n (q := 0) dX6_fillTimes_72 rfl rfl ?_
        refine gw_gR fX6_31 dX6_fillTimes_73 (g1.up n5) ?_
        refine gw_iload_n (q := 3) dX6_fillTimes_76 rfl rfl ?_
        refine gw_iconst (v := 5) dX6_fillTimes_77 ic_5 ?_
        refine gw_imul dX6_fillTimes_78 ?_
        refine gw_iload (q := 6) dX6_fillTimes_79 rfl ?_
        refine gw_iadd dX6_fillTimes_81 ?_
        refine gw_iload (q := 7) dX6_fillTimes_82 rfl ?_
        obtain ⟨g6, h⟩ := h
        refine gw_sI dX6_fillTimes_84 g6 (fun σ7 e7 => ?_)
        replace h := h σ7 e7
        refine gw_iload (q := 4) dX6_fillTimes_85 rfl ?_
        refine gw_iload (q := 7) dX6_fillTimes_87 rfl ?_
        refine gw_sC (bs := [.inl v4, .inl x5]) (st := []) smJ9_min_7cf53 lX6_90 dX6_fillTimes_89 ⟨by decide, rfl, rfl, by decide, by decide⟩ (Nat.le_of_ble_eq_true rfl) rfl rfl h (kI (fun x8 σ8 h n8 => ?_))
        refine gw_istore (lo' := [(0, .inr v0), (1, .inr v1), (2, .inl v2), (3, .inl v3), (4, .inl x8), (5, .inl v5), (6, .inl v6), (7, .inl x5)]) dX6_fillTimes_92 (by decide) rfl ?_
        refine gw_iload (q := 5) dX6_fillTimes_94 rfl ?_
        refine gw_aload_n (q := 0) dX6_fillTimes_96 rfl rfl ?_
        refine gw_gR fX6_18 dX6_fillTimes_97 (((g1.up n5).up (n_w1 e7)).up n8) ?_
        refine gw_iload (q := 6) dX6_fillTimes_100 rfl ?_
        obtain ⟨g9, h⟩ := h
        refine gw_aI dX6_fillTimes_102 g9 ?_
        refine gw_iadd dX6_fillTimes_103 ?_
        refine gw_istore (lo' := [(0, .inr v0), (1, .inr v1), (2, .inl v2), (3, .inl v3), (4, .inl x8), (5, .inl (v5 + (σ8.2.1 (σ8.2.2 v0 2) v6.toNatClampNeg))), (6, .inl v6), (7, .inl x5)]) dX6_fillTimes_104 (by decide) rfl ?_
        refine gw_inc (lo' := [(0, .inr v0), (1, .inr v1), (2, .inl v2), (3, .inl v3), (4, .inl x8), (5, .inl (v5 + (σ8.2.1 (σ8.2.2 v0 2) v6.toNatClampNeg))), (6, .inl (v6 + 1)), (7, .inl x5)]) (q := 6) (c := 1) dX6_fillTimes_106 ic_1 rfl (by decide) rfl ?_
        refine gw_goto (tgt := 36) dX6_fillTimes_109 (by decide) ?_
        refine gw_pick [0, 1, 2, 3, 4, 5, 6] rfl ?_
        exact h
set_option maxHeartbeats 4000000 in
set_option maxRecDepth 20000 in
theorem gX6_fillTimes_2 {l : Launch} {v0 : Nat} {v1 : Nat} {v2 : Int32} {v3 : Int32} {σ : Sg} {K : Sg → Prop} (h : Ob σ v0 6 ∧ (((1 <<< ((σ.2.1 v0 7) &&& 31)) ≤ v3 → K σ) ∧ (¬ (1 <<< ((σ.2.1 v0 7) &&& 31)) ≤ v3 → ((32 ≤ v3 → K σ) ∧ (¬ 32 ≤ v3 → ((¬ v3 = 0 → GW l mX6_fillTimes 36 [(0, .inr v0), (1, .inr v1), (2, .inl v2), (3, .inl v3), (4, .inl 1000000), (5, .inl 0), (6, .inl 0)] [] σ 0 0 (PV K)) ∧ (v3 = 0 → GW l mX6_fillTimes 36 [(0, .inr v0), (1, .inr v1), (2, .inl v2), (3, .inl v3), (4, .inl 0), (5, .inl 0), (6, .inl 0)] [] σ 0 0 (PV K)))))))) : GW l mX6_fillTimes 2 [(0, .inr v0), (1, .inr v1), (2, .inl v2), (3, .inl v3)] [] σ 0 0 (PV K) := by
  refine gw_iload_n (q := 3) dX6_fillTimes_2 rfl rfl ?_
  refine gw_iconst (v := 1) dX6_fillTimes_3 ic_1 ?_
  refine gw_aload_n (q := 0) dX6_fillTimes_4 rfl rfl ?_
  obtain ⟨g1, h⟩ := h
  refine gw_gI fX6_34 dX6_fillTimes_5 g1 ?_
  refine gw_ishl dX6_fillTimes_8 ?_
  refine gw_icmp_ge (tgt := 134) dX6_fillTimes_9 (by decide) (fun c2 => ?_) (fun c2 => ?_)
  · replace h := h.1 c2
    exact gw_rV dX6_fillTimes_134 rfl (by decide) (by decide) h
  · replace h := h.2 c2
    refine gw_iload_n (q := 3) dX6_fillTimes_12 rfl rfl ?_
    refine gw_bipush (v := 32) dX6_fillTimes_13 bp_32 ?_
    refine gw_icmp_ge (tgt := 134) dX6_fillTimes_15 (by decide) (fun c3 => ?_) (fun c3 => ?_)
    · replace h := h.1 c3
      exact gw_rV dX6_fillTimes_134 rfl (by decide) (by decide) h
    · replace h := h.2 c3
      refine gw_iload_n (q := 3) dX6_fillTimes_18 rfl rfl ?_
      refine gw_if_ne (tgt := 26) dX6_fillTimes_19 (by decide) (fun c4 => ?_) (fun c4 => ?_)
      · replace h := h.1 c4
        refine gw_ldc (v := 1000000) kX6_85 dX6_fillTimes_26 ?_
        refine gw_istore (lo' := [(0, .inr v0), (1, .inr v1), (2, .inl v2), (3, .inl v3), (4, .inl 1000000)]) dX6_fillTimes_28 (by decide) rfl ?_
        refine gw_iconst (v := 0) dX6_fillTimes_30 ic_0 ?_
        refine gw_istore (lo' := [(0, .inr v0), (1, .inr v1), (2, .inl v2), (3, .inl v3), (4, .inl 1000000), (5, .inl 0)]) dX6_fillTimes_31 (by decide) rfl ?_
        refine gw_iconst (v := 0) dX6_fillTimes_33 ic_0 ?_
        refine gw_istore (lo' := [(0, .inr v0), (1, .inr v1), (2, .inl v2), (3, .inl v3), (4, .inl 1000000), (5, .inl 0), (6, .inl 0)]) dX6_fillTimes_34 (by decide) rfl ?_
        exact h
      · replace h := h.2 c4
        refine gw_iconst (v := 0) dX6_fillTimes_22 ic_0 ?_
        refine gw_goto (tgt := 28) dX6_fillTimes_23 (by decide) ?_
        refine gw_istore (lo' := [(0, .inr v0), (1, .inr v1), (2, .inl v2), (3, .inl v3), (4, .inl 0)]) dX6_fillTimes_28 (by decide) rfl ?_
        refine gw_iconst (v := 0) dX6_fillTimes_30 ic_0 ?_
        refine gw_istore (lo' := [(0, .inr v0), (1, .inr v1), (2, .inl v2), (3, .inl v3), (4, .inl 0), (5, .inl 0)]) dX6_fillTimes_31 (by decide) rfl ?_
        refine gw_iconst (v := 0) dX6_fillTimes_33 ic_0 ?_
        refine gw_istore (lo' := [(0, .inr v0), (1, .inr v1), (2, .inl v2), (3, .inl v3), (4, .inl 0), (5, .inl 0), (6, .inl 0)]) dX6_fillTimes_34 (by decide) rfl ?_
        exact h
set_option maxHeartbeats 4000000 in
set_option maxRecDepth 20000 in
theorem eX6_fillTimes {l : Launch} {v0 : Nat} {v1 : Nat} {v2 : Int32} {σ : Sg} {K : Sg → Prop} (h : GW l mX6_fillTimes 2 [(0, .inr v0), (1, .inr v1), (2, .inl v2), (3, .inl 0)] [] σ 0 0 (PV K)) : Con l mX6_fillTimes [.inr v0, .inr v1, .inl v2] σ (PV K) := by
  refine con_gw rfl (Nat.le_of_ble_eq_true rfl) ?_
  show GW l mX6_fillTimes 0 [(0, .inr v0), (1, .inr v1), (2, .inl v2)] [] σ 0 0 (PV K)
  refine gw_iconst (v := 0) dX6_fillTimes_0 ic_0 ?_
  refine gw_istore_n (lo' := [(0, .inr v0), (1, .inr v1), (2, .inl v2), (3, .inl 0)]) dX6_fillTimes_1 rfl (by decide) rfl ?_
  exact h
set_option maxHeartbeats 4000000 in
set_option maxRecDepth 20000 in
theorem gX6_leastEnd_64 {l : Launch} {v0 : Nat} {v1 : Nat} {v2 : Int32} {v3 : Int32} {v4 : Int32} {v5 : Int32} {v6 : Int32} {v7 : Int32} {v8 : Int32} {σ : Sg} {K : Int32 → Sg → Prop} (h : Ob σ v0 6 ∧ (((σ.2.1 v0 7) ≤ v8 → K v7 σ) ∧ (¬ (σ.2.1 v0 7) ≤ v8 → ((5 ≤ v8 → K v7 σ) ∧ (¬ 5 ≤ v8 → ((¬ ((v6 >>> (v8 &&& 31)) &&& 1) = 1 → GW l mX6_leastEnd 64 [(0, .inr v0), (1, .inr v1), (2, .inl v2), (3, .inl v3), (4, .inl v4), (5, .inl v5), (6, .inl v6), (7, .inl v7), (8, .inl (v8 + 1))] [] σ 0 0 (PI K)) ∧ (((v6 >>> (v8 &&& 31)) &&& 1) = 1 → Ai σ (σ.2.2 v0 1) (v5 + v8) ∧ Ai σ (σ.2.2 v0 0) (v5 + v4) ∧ Ob σ v1 0 ∧ Con l mX0_ticksBetween [.inr v1, .inl (σ.2.1 (σ.2.2 v0 1) (v5 + v8).toNatClampNeg), .inl (σ.2.1 (σ.2.2 v0 0) (v5 + v4).toNatClampNeg)] σ (PI (fun x7 σ7 => Con l mX6_endAt [.inr v0, .inl v6, .inl v8] σ7 (PI (fun x9 σ9 => Con l mJ9_min_7cf53 [.inl v7, .inl (x9 + x7)] σ9 (PI (fun x10 σ10 => GW l mX6_leastEnd 64 [(0, .inr v0), (1, .inr v1), (2, .inl v2), (3, .inl v3), (4, .inl v4), (5, .inl v5), (6, .inl v6), (7, .inl x10), (8, .inl (v8 + 1))] [] σ10 0 0 (PI K)))))))))))))) : GW l mX6_leastEnd 64 [(0, .inr v0), (1, .inr v1), (2, .inl v2), (3, .inl v3), (4, .inl v4), (5, .inl v5), (6, .inl v6), (7, .inl v7), (8, .inl v8)] [] σ 0 0 (PI K) := by
  refine gw_iload (q := 8) dX6_leastEnd_64 rfl ?_
  refine gw_aload_n (q := 0) dX6_leastEnd_66 rfl rfl ?_
  obtain ⟨g1, h⟩ := h
  refine gw_gI fX6_34 dX6_leastEnd_67 g1 ?_
  refine gw_icmp_ge (tgt := 140) dX6_leastEnd_70 (by decide) (fun c2 => ?_) (fun c2 => ?_)
  · replace h := h.1 c2
    refine gw_iload (q := 7) dX6_leastEnd_140 rfl ?_
    exact gw_rI dX6_leastEnd_142 rfl (by decide) (by decide) h
  · replace h := h.2 c2
    refine gw_iload (q := 8) dX6_leastEnd_73 rfl ?_
    refine gw_iconst (v := 5) dX6_leastEnd_75 ic_5 ?_
    refine gw_icmp_ge (tgt := 140) dX6_leastEnd_76 (by decide) (fun c3 => ?_) (fun c3 => ?_)
    · replace h := h.1 c3
      refine gw_iload (q := 7) dX6_leastEnd_140 rfl ?_
      exact gw_rI dX6_leastEnd_142 rfl (by decide) (by decide) h
    · replace h := h.2 c3
      refine gw_iload (q := 6) dX6_leastEnd_79 rfl ?_
      refine gw_iload (q := 8) dX6_leastEnd_81 rfl ?_
      refine gw_ishr dX6_leastEnd_83 ?_
      refine gw_iconst (v := 1) dX6_leastEnd_84 ic_1 ?_
      refine gw_iand dX6_leastEnd_85 ?_
      refine gw_iconst (v := 1) dX6_leastEnd_86 ic_1 ?_
      refine gw_icmp_ne (tgt := 134) dX6_leastEnd_87 (by decide) (fun c4 => ?_) (fun c4 => ?_)
      · replace h := h.1 c4
        refine gw_inc (lo' := [(0, .inr v0), (1, .inr v1), (2, .inl v2), (3, .inl v3), (4, .inl v4), (5, .inl v5), (6, .inl v6), (7, .inl v7), (8, .inl (v8 + 1))]) (q := 8) (c := 1) dX6_leastEnd_134 ic_1 rfl (by decide) rfl ?_
        refine gw_goto (tgt := 64) dX6_leastEnd_137 (by decide) ?_
        exact h
      · replace h := h.2 c4
        refine gw_aload_n (q := 1) dX6_leastEnd_90 rfl rfl ?_
        refine gw_aload_n (q := 0) dX6_leastEnd_91 rfl rfl ?_
        refine gw_gR fX6_15 dX6_leastEnd_92 g1 ?_
        refine gw_iload (q := 5) dX6_leastEnd_95 rfl ?_
        refine gw_iload (q := 8) dX6_leastEnd_97 rfl ?_
        refine gw_iadd dX6_leastEnd_99 ?_
        obtain ⟨g5, h⟩ := h
        refine gw_aI dX6_leastEnd_100 g5 ?_
        refine gw_aload_n (q := 0) dX6_leastEnd_101 rfl rfl ?_
        refine gw_gR fX6_9 dX6_leastEnd_102 g1 ?_
        refine gw_iload (q := 5) dX6_leastEnd_105 rfl ?_
        refine gw_iload (q := 4) dX6_leastEnd_107 rfl ?_
        refine gw_iadd dX6_leastEnd_109 ?_
        obtain ⟨g6, h⟩ := h
        refine gw_aI dX6_leastEnd_110 g6 ?_
        obtain ⟨g8, h⟩ := h
        refine gw_vC (bs := [.inl (σ.2.1 (σ.2.2 v0 1) (v5 + v8).toNatClampNeg), .inl (σ.2.1 (σ.2.2 v0 0) (v5 + v4).toNatClampNeg)]) (st := []) (vmX0_ticksBetween) lX6_100 dX6_leastEnd_111 ⟨by decide, rfl, rfl, by decide, by decide⟩ (Nat.le_of_ble_eq_true rfl) rfl rfl g8 h (kI (fun x7 σ7 h n7 => ?_))
        refine gw_istore (lo' := [(0, .inr v0), (1, .inr v1), (2, .inl v2), (3, .inl v3), (4, .inl v4), (5, .inl v5), (6, .inl v6), (7, .inl v7), (8, .inl v8), (9, .inl x7)]) dX6_leastEnd_114 (by decide) rfl ?_
        refine gw_iload (q := 7) dX6_leastEnd_116 rfl ?_
        refine gw_aload_n (q := 0) dX6_leastEnd_118 rfl rfl ?_
        refine gw_iload (q := 6) dX6_leastEnd_119 rfl ?_
        refine gw_iload (q := 8) dX6_leastEnd_121 rfl ?_
        refine gw_vC (bs := [.inl v6, .inl v8]) (st := [.inl v7]) (vmX6_endAt) lX6_105 dX6_leastEnd_123 ⟨by decide, rfl, rfl, by decide, by decide⟩ (Nat.le_of_ble_eq_true rfl) rfl rfl (g1.up n7) h (kI (fun x9 σ9 h n9 => ?_))
        refine gw_iload (q := 9) dX6_leastEnd_126 rfl ?_
        refine gw_iadd dX6_leastEnd_128 ?_
        refine gw_sC (bs := [.inl v7, .inl (x9 + x7)]) (st := []) smJ9_min_7cf53 lX6_90 dX6_leastEnd_129 ⟨by decide, rfl, rfl, by decide, by decide⟩ (Nat.le_of_ble_eq_true rfl) rfl rfl h (kI (fun x10 σ10 h n10 => ?_))
        refine gw_istore (lo' := [(0, .inr v0), (1, .inr v1), (2, .inl v2), (3, .inl v3), (4, .inl v4), (5, .inl v5), (6, .inl v6), (7, .inl x10), (8, .inl v8), (9, .inl x7)]) dX6_leastEnd_132 (by decide) rfl ?_
        refine gw_inc (lo' := [(0, .inr v0), (1, .inr v1), (2, .inl v2), (3, .inl v3), (4, .inl v4), (5, .inl v5), (6, .inl v6), (7, .inl x10), (8, .inl (v8 + 1)), (9, .inl x7)]) (q := 8) (c := 1) dX6_leastEnd_134 ic_1 rfl (by decide) rfl ?_
        refine gw_goto (tgt := 64) dX6_leastEnd_137 (by decide) ?_
        refine gw_pick [0, 1, 2, 3, 4, 5, 6, 7, 8] rfl ?_
        exact h
set_option maxHeartbeats 4000000 in
set_option maxRecDepth 20000 in
theorem eX6_leastEnd {l : Launch} {v0 : Nat} {v1 : Nat} {v2 : Int32} {v3 : Int32} {v4 : Int32} {σ : Sg} {K : Int32 → Sg → Prop} (h : (((v2 * 5) < 0 → K 1000000 σ) ∧ (¬ (v2 * 5) < 0 → Ob σ v0 6 ∧ Al σ (σ.2.2 v0 4) ∧ (((Int32.ofNat (shp (σ.2.2 v0 4)).2) < ((v2 * 5) + 5) → K 1000000 σ) ∧ (¬ (Int32.ofNat (shp (σ.2.2 v0 4)).2) < ((v2 * 5) + 5) → Az σ (σ.2.2 v0 4) ((v2 * 5) + v4) ∧ ((¬ (σ.2.1 (σ.2.2 v0 4) ((v2 * 5) + v4).toNatClampNeg) = 0 → ((¬ (v3 &&& ((1 <<< (v4 &&& 31)) ^^^ (-1))) = 0 → GW l mX6_leastEnd 64 [(0, .inr v0), (1, .inr v1), (2, .inl v2), (3, .inl v3), (4, .inl v4), (5, .inl (v2 * 5)), (6, .inl (v3 &&& ((1 <<< (v4 &&& 31)) ^^^ (-1)))), (7, .inl 1000000), (8, .inl 0)] [] σ 0 0 (PI K)) ∧ ((v3 &&& ((1 <<< (v4 &&& 31)) ^^^ (-1))) = 0 → GW l mX6_leastEnd 64 [(0, .inr v0), (1, .inr v1), (2, .inl v2), (3, .inl v3), (4, .inl v4), (5, .inl (v2 * 5)), (6, .inl (v3 &&& ((1 <<< (v4 &&& 31)) ^^^ (-1)))), (7, .inl 0), (8, .inl 0)] [] σ 0 0 (PI K)))) ∧ ((σ.2.1 (σ.2.2 v0 4) ((v2 * 5) + v4).toNatClampNeg) = 0 → K 1000000 σ))))))) : Con l mX6_leastEnd [.inr v0, .inr v1, .inl v2, .inl v3, .inl v4] σ (PI K) := by
  refine con_gw rfl (Nat.le_of_ble_eq_true rfl) ?_
  show GW l mX6_leastEnd 0 [(0, .inr v0), (1, .inr v1), (2, .inl v2), (3, .inl v3), (4, .inl v4)] [] σ 0 0 (PI K)
  refine gw_iload_n (q := 2) dX6_leastEnd_0 rfl rfl ?_
  refine gw_iconst (v := 5) dX6_leastEnd_1 ic_5 ?_
  refine gw_imul dX6_leastEnd_2 ?_
  refine gw_istore (lo' := [(0, .inr v0), (1, .inr v1), (2, .inl v2), (3, .inl v3), (4, .inl v4), (5, .inl (v2 * 5))]) dX6_leastEnd_3 (by decide) rfl ?_
  refine gw_iload_n (q := 3) dX6_leastEnd_5 rfl rfl ?_
  refine gw_iconst (v := 1) dX6_leastEnd_6 ic_1 ?_
  refine gw_iload (q := 4) dX6_leastEnd_7 rfl ?_
  refine gw_ishl dX6_leastEnd_9 ?_
  refine gw_iconst (v := (-1)) dX6_leastEnd_10 ic_m1 ?_
  refine gw_ixor dX6_leastEnd_11 ?_
  refine gw_iand dX6_leastEnd_12 ?_
  refine gw_istore (lo' := [(0, .inr v0), (1, .inr v1), (2, .inl v2), (3, .inl v3), (4, .inl v4), (5, .inl (v2 * 5)), (6, .inl (v3 &&& ((1 <<< (v4 &&& 31)) ^^^ (-1))))]) dX6_leastEnd_13 (by decide) rfl ?_
  refine gw_iload (q := 5) dX6_leastEnd_15 rfl ?_
  refine gw_if_lt (tgt := 45) dX6_leastEnd_17 (by decide) (fun c1 => ?_) (fun c1 => ?_)
  · replace h := h.1 c1
    refine gw_ldc (v := 1000000) kX6_85 dX6_leastEnd_45 ?_
    exact gw_rI dX6_leastEnd_47 rfl (by decide) (by decide) h
  · replace h := h.2 c1
    refine gw_iload (q := 5) dX6_leastEnd_20 rfl ?_
    refine gw_iconst (v := 5) dX6_leastEnd_22 ic_5 ?_
    refine gw_iadd dX6_leastEnd_23 ?_
    refine gw_aload_n (q := 0) dX6_leastEnd_24 rfl rfl ?_
    obtain ⟨g2, h⟩ := h
    refine gw_gR fX6_24 dX6_leastEnd_25 g2 ?_
    obtain ⟨g3, h⟩ := h
    refine gw_aL dX6_leastEnd_28 g3 ?_
    refine gw_icmp_gt (tgt := 45) dX6_leastEnd_29 (by decide) (fun c4 => ?_) (fun c4 => ?_)
    · replace h := h.1 c4
      refine gw_ldc (v := 1000000) kX6_85 dX6_leastEnd_45 ?_
      exact gw_rI dX6_leastEnd_47 rfl (by decide) (by decide) h
    · replace h := h.2 c4
      refine gw_aload_n (q := 0) dX6_leastEnd_32 rfl rfl ?_
      refine gw_gR fX6_24 dX6_leastEnd_33 g2 ?_
      refine gw_iload (q := 5) dX6_leastEnd_36 rfl ?_
      refine gw_iload (q := 4) dX6_leastEnd_38 rfl ?_
      refine gw_iadd dX6_leastEnd_40 ?_
      obtain ⟨g5, h⟩ := h
      refine gw_aZ dX6_leastEnd_41 g5 ?_
      refine gw_if_ne (tgt := 48) dX6_leastEnd_42 (by decide) (fun c6 => ?_) (fun c6 => ?_)
      · replace h := h.1 c6
        refine gw_iload (q := 6) dX6_leastEnd_48 rfl ?_
        refine gw_if_ne (tgt := 57) dX6_leastEnd_50 (by decide) (fun c7 => ?_) (fun c7 => ?_)
        · replace h := h.1 c7
          refine gw_ldc (v := 1000000) kX6_85 dX6_leastEnd_57 ?_
          refine gw_istore (lo' := [(0, .inr v0), (1, .inr v1), (2, .inl v2), (3, .inl v3), (4, .inl v4), (5, .inl (v2 * 5)), (6, .inl (v3 &&& ((1 <<< (v4 &&& 31)) ^^^ (-1)))), (7, .inl 1000000)]) dX6_leastEnd_59 (by decide) rfl ?_
          refine gw_iconst (v := 0) dX6_leastEnd_61 ic_0 ?_
          refine gw_istore (lo' := [(0, .inr v0), (1, .inr v1), (2, .inl v2), (3, .inl v3), (4, .inl v4), (5, .inl (v2 * 5)), (6, .inl (v3 &&& ((1 <<< (v4 &&& 31)) ^^^ (-1)))), (7, .inl 1000000), (8, .inl 0)]) dX6_leastEnd_62 (by decide) rfl ?_
          exact h
        · replace h := h.2 c7
          refine gw_iconst (v := 0) dX6_leastEnd_53 ic_0 ?_
          refine gw_goto (tgt := 59) dX6_leastEnd_54 (by decide) ?_
          refine gw_istore (lo' := [(0, .inr v0), (1, .inr v1), (2, .inl v2), (3, .inl v3), (4, .inl v4), (5, .inl (v2 * 5)), (6, .inl (v3 &&& ((1 <<< (v4 &&& 31)) ^^^ (-1)))), (7, .inl 0)]) dX6_leastEnd_59 (by decide) rfl ?_
          refine gw_iconst (v := 0) dX6_leastEnd_61 ic_0 ?_
          refine gw_istore (lo' := [(0, .inr v0), (1, .inr v1), (2, .inl v2), (3, .inl v3), (4, .inl v4), (5, .inl (v2 * 5)), (6, .inl (v3 &&& ((1 <<< (v4 &&& 31)) ^^^ (-1)))), (7, .inl 0), (8, .inl 0)]) dX6_leastEnd_62 (by decide) rfl ?_
          exact h
      · replace h := h.2 c6
        refine gw_ldc (v := 1000000) kX6_85 dX6_leastEnd_45 ?_
        exact gw_rI dX6_leastEnd_47 rfl (by decide) (by decide) h
set_option maxHeartbeats 4000000 in
set_option maxRecDepth 20000 in
theorem eX6_endAt {l : Launch} {v0 : Nat} {v1 : Int32} {v2 : Int32} {σ : Sg} {K : Int32 → Sg → Prop} (h : ((((v1 * 5) + v2) < 0 → K 1000000 σ) ∧ (¬ ((v1 * 5) + v2) < 0 → Ob σ v0 6 ∧ Al σ (σ.2.2 v0 6) ∧ (((Int32.ofNat (shp (σ.2.2 v0 6)).2) ≤ ((v1 * 5) + v2) → K 1000000 σ) ∧ (¬ (Int32.ofNat (shp (σ.2.2 v0 6)).2) ≤ ((v1 * 5) + v2) → Ai σ (σ.2.2 v0 6) ((v1 * 5) + v2) ∧ K (σ.2.1 (σ.2.2 v0 6) ((v1 * 5) + v2).toNatClampNeg) σ))))) : Con l mX6_endAt [.inr v0, .inl v1, .inl v2] σ (PI K) := by
  refine con_gw rfl (Nat.le_of_ble_eq_true rfl) ?_
  show GW l mX6_endAt 0 [(0, .inr v0), (1, .inl v1), (2, .inl v2)] [] σ 0 0 (PI K)
  refine gw_iload_n (q := 1) dX6_endAt_0 rfl rfl ?_
  refine gw_iconst (v := 5) dX6_endAt_1 ic_5 ?_
  refine gw_imul dX6_endAt_2 ?_
  refine gw_iload_n (q := 2) dX6_endAt_3 rfl rfl ?_
  refine gw_iadd dX6_endAt_4 ?_
  refine gw_istore_n (lo' := [(0, .inr v0), (1, .inl v1), (2, .inl v2), (3, .inl ((v1 * 5) + v2))]) dX6_endAt_5 rfl (by decide) rfl ?_
  refine gw_iload_n (q := 3) dX6_endAt_6 rfl rfl ?_
  refine gw_if_lt (tgt := 28) dX6_endAt_7 (by decide) (fun c1 => ?_) (fun c1 => ?_)
  · replace h := h.1 c1
    refine gw_ldc (v := 1000000) kX6_85 dX6_endAt_28 ?_
    exact gw_rI dX6_endAt_30 rfl (by decide) (by decide) h
  · replace h := h.2 c1
    refine gw_iload_n (q := 3) dX6_endAt_10 rfl rfl ?_
    refine gw_aload_n (q := 0) dX6_endAt_11 rfl rfl ?_
    obtain ⟨g2, h⟩ := h
    refine gw_gR fX6_31 dX6_endAt_12 g2 ?_
    obtain ⟨g3, h⟩ := h
    refine gw_aL dX6_endAt_15 g3 ?_
    refine gw_icmp_ge (tgt := 28) dX6_endAt_16 (by decide) (fun c4 => ?_) (fun c4 => ?_)
    · replace h := h.1 c4
      refine gw_ldc (v := 1000000) kX6_85 dX6_endAt_28 ?_
      exact gw_rI dX6_endAt_30 rfl (by decide) (by decide) h
    · replace h := h.2 c4
      refine gw_aload_n (q := 0) dX6_endAt_19 rfl rfl ?_
      refine gw_gR fX6_31 dX6_endAt_20 g2 ?_
      refine gw_iload_n (q := 3) dX6_endAt_23 rfl rfl ?_
      obtain ⟨g5, h⟩ := h
      refine gw_aI dX6_endAt_24 g5 ?_
      refine gw_goto (tgt := 30) dX6_endAt_25 (by decide) ?_
      exact gw_rI dX6_endAt_30 rfl (by decide) (by decide) h
set_option maxHeartbeats 4000000 in
set_option maxRecDepth 20000 in
theorem eX6_setTime {l : Launch} {v0 : Nat} {v1 : Int32} {v2 : Int32} {v3 : Int32} {σ : Sg} {K : Sg → Prop} (h : ((((v1 * 32) + v2) < 0 → K σ) ∧ (¬ ((v1 * 32) + v2) < 0 → Ob σ v0 6 ∧ Al σ (σ.2.2 v0 5) ∧ (((Int32.ofNat (shp (σ.2.2 v0 5)).2) ≤ ((v1 * 32) + v2) → K σ) ∧ (¬ (Int32.ofNat (shp (σ.2.2 v0 5)).2) ≤ ((v1 * 32) + v2) → Ai σ (σ.2.2 v0 5) ((v1 * 32) + v2) ∧ ∀ σ6, σ6 = w1 σ (σ.2.2 v0 5) ((v1 * 32) + v2).toNatClampNeg v3 → K σ6))))) : Con l mX6_setTime [.inr v0, .inl v1, .inl v2, .inl v3] σ (PV K) := by
  refine con_gw rfl (Nat.le_of_ble_eq_true rfl) ?_
  show GW l mX6_setTime 0 [(0, .inr v0), (1, .inl v1), (2, .inl v2), (3, .inl v3)] [] σ 0 0 (PV K)
  refine gw_iload_n (q := 1) dX6_setTime_0 rfl rfl ?_
  refine gw_bipush (v := 32) dX6_setTime_1 bp_32 ?_
  refine gw_imul dX6_setTime_3 ?_
  refine gw_iload_n (q := 2) dX6_setTime_4 rfl rfl ?_
  refine gw_iadd dX6_setTime_5 ?_
  refine gw_istore (lo' := [(0, .inr v0), (1, .inl v1), (2, .inl v2), (3, .inl v3), (4, .inl ((v1 * 32) + v2))]) dX6_setTime_6 (by decide) rfl ?_
  refine gw_iload (q := 4) dX6_setTime_8 rfl ?_
  refine gw_if_lt (tgt := 31) dX6_setTime_10 (by decide) (fun c1 => ?_) (fun c1 => ?_)
  · replace h := h.1 c1
    exact gw_rV dX6_setTime_31 rfl (by decide) (by decide) h
  · replace h := h.2 c1
    refine gw_iload (q := 4) dX6_setTime_13 rfl ?_
    refine gw_aload_n (q := 0) dX6_setTime_15 rfl rfl ?_
    obtain ⟨g2, h⟩ := h
    refine gw_gR fX6_28 dX6_setTime_16 g2 ?_
    obtain ⟨g3, h⟩ := h
    refine gw_aL dX6_setTime_19 g3 ?_
    refine gw_icmp_ge (tgt := 31) dX6_setTime_20 (by decide) (fun c4 => ?_) (fun c4 => ?_)
    · replace h := h.1 c4
      exact gw_rV dX6_setTime_31 rfl (by decide) (by decide) h
    · replace h := h.2 c4
      refine gw_aload_n (q := 0) dX6_setTime_23 rfl rfl ?_
      refine gw_gR fX6_28 dX6_setTime_24 g2 ?_
      refine gw_iload (q := 4) dX6_setTime_27 rfl ?_
      refine gw_iload_n (q := 3) dX6_setTime_29 rfl rfl ?_
      obtain ⟨g5, h⟩ := h
      refine gw_sI dX6_setTime_30 g5 (fun σ6 e6 => ?_)
      replace h := h σ6 e6
      exact gw_rV dX6_setTime_31 rfl (by decide) (by decide) h
set_option maxHeartbeats 4000000 in
set_option maxRecDepth 20000 in
theorem eX6_timeAt {l : Launch} {v0 : Nat} {v1 : Int32} {v2 : Int32} {σ : Sg} {K : Int32 → Sg → Prop} (h : ((((v1 * 32) + v2) < 0 → K 1000000 σ) ∧ (¬ ((v1 * 32) + v2) < 0 → Ob σ v0 6 ∧ Al σ (σ.2.2 v0 5) ∧ (((Int32.ofNat (shp (σ.2.2 v0 5)).2) ≤ ((v1 * 32) + v2) → K 1000000 σ) ∧ (¬ (Int32.ofNat (shp (σ.2.2 v0 5)).2) ≤ ((v1 * 32) + v2) → Ai σ (σ.2.2 v0 5) ((v1 * 32) + v2) ∧ K (σ.2.1 (σ.2.2 v0 5) ((v1 * 32) + v2).toNatClampNeg) σ))))) : Con l mX6_timeAt [.inr v0, .inl v1, .inl v2] σ (PI K) := by
  refine con_gw rfl (Nat.le_of_ble_eq_true rfl) ?_
  show GW l mX6_timeAt 0 [(0, .inr v0), (1, .inl v1), (2, .inl v2)] [] σ 0 0 (PI K)
  refine gw_iload_n (q := 1) dX6_timeAt_0 rfl rfl ?_
  refine gw_bipush (v := 32) dX6_timeAt_1 bp_32 ?_
  refine gw_imul dX6_timeAt_3 ?_
  refine gw_iload_n (q := 2) dX6_timeAt_4 rfl rfl ?_
  refine gw_iadd dX6_timeAt_5 ?_
  refine gw_istore_n (lo' := [(0, .inr v0), (1, .inl v1), (2, .inl v2), (3, .inl ((v1 * 32) + v2))]) dX6_timeAt_6 rfl (by decide) rfl ?_
  refine gw_iload_n (q := 3) dX6_timeAt_7 rfl rfl ?_
  refine gw_if_lt (tgt := 29) dX6_timeAt_8 (by decide) (fun c1 => ?_) (fun c1 => ?_)
  · replace h := h.1 c1
    refine gw_ldc (v := 1000000) kX6_85 dX6_timeAt_29 ?_
    exact gw_rI dX6_timeAt_31 rfl (by decide) (by decide) h
  · replace h := h.2 c1
    refine gw_iload_n (q := 3) dX6_timeAt_11 rfl rfl ?_
    refine gw_aload_n (q := 0) dX6_timeAt_12 rfl rfl ?_
    obtain ⟨g2, h⟩ := h
    refine gw_gR fX6_28 dX6_timeAt_13 g2 ?_
    obtain ⟨g3, h⟩ := h
    refine gw_aL dX6_timeAt_16 g3 ?_
    refine gw_icmp_ge (tgt := 29) dX6_timeAt_17 (by decide) (fun c4 => ?_) (fun c4 => ?_)
    · replace h := h.1 c4
      refine gw_ldc (v := 1000000) kX6_85 dX6_timeAt_29 ?_
      exact gw_rI dX6_timeAt_31 rfl (by decide) (by decide) h
    · replace h := h.2 c4
      refine gw_aload_n (q := 0) dX6_timeAt_20 rfl rfl ?_
      refine gw_gR fX6_28 dX6_timeAt_21 g2 ?_
      refine gw_iload_n (q := 3) dX6_timeAt_24 rfl rfl ?_
      obtain ⟨g5, h⟩ := h
      refine gw_aI dX6_timeAt_25 g5 ?_
      refine gw_goto (tgt := 31) dX6_timeAt_26 (by decide) ?_
      exact gw_rI dX6_timeAt_31 rfl (by decide) (by decide) h
set_option maxHeartbeats 4000000 in
set_option maxRecDepth 20000 in
theorem gX6_choose_81 {l : Launch} {v0 : Nat} {v1 : Int32} {v2 : Int32} {v3 : Int32} {σ : Sg} {K : Sg → Prop} (h : Ob σ v0 6 ∧ (((σ.2.1 v0 7) ≤ v3 → K σ) ∧ (¬ (σ.2.1 v0 7) ≤ v3 → ((5 ≤ v3 → K σ) ∧ (¬ 5 ≤ v3 → Ai σ (σ.2.2 v0 3) v3 ∧ ∀ σ5, σ5 = w1 σ v0 9 ((σ.2.1 v0 9) ||| (((v1 >>> (v3 &&& 31)) &&& 1) <<< ((σ.2.1 (σ.2.2 v0 3) v3.toNatClampNeg) &&& 31))) → GW l mX6_choose 81 [(0, .inr v0), (1, .inl v1), (2, .inl v2), (3, .inl (v3 + 1))] [] σ5 0 0 (PV K)))))) : GW l mX6_choose 81 [(0, .inr v0), (1, .inl v1), (2, .inl v2), (3, .inl v3)] [] σ 0 0 (PV K) := by
  refine gw_iload_n (q := 3) dX6_choose_81 rfl rfl ?_
  refine gw_aload_n (q := 0) dX6_choose_82 rfl rfl ?_
  obtain ⟨g1, h⟩ := h
  refine gw_gI fX6_34 dX6_choose_83 g1 ?_
  refine gw_icmp_ge (tgt := 121) dX6_choose_86 (by decide) (fun c2 => ?_) (fun c2 => ?_)
  · replace h := h.1 c2
    exact gw_rV dX6_choose_121 rfl (by decide) (by decide) h
  · replace h := h.2 c2
    refine gw_iload_n (q := 3) dX6_choose_89 rfl rfl ?_
    refine gw_iconst (v := 5) dX6_choose_90 ic_5 ?_
    refine gw_icmp_ge (tgt := 121) dX6_choose_91 (by decide) (fun c3 => ?_) (fun c3 => ?_)
    · replace h := h.1 c3
      exact gw_rV dX6_choose_121 rfl (by decide) (by decide) h
    · replace h := h.2 c3
      refine gw_aload_n (q := 0) dX6_choose_94 rfl rfl ?_
      refine gw_dup dX6_choose_95 ?_
      refine gw_gI fX6_117 dX6_choose_96 g1 ?_
      refine gw_iload_n (q := 1) dX6_choose_99 rfl rfl ?_
      refine gw_iload_n (q := 3) dX6_choose_100 rfl rfl ?_
      refine gw_ishr dX6_choose_101 ?_
      refine gw_iconst (v := 1) dX6_choose_102 ic_1 ?_
      refine gw_iand dX6_choose_103 ?_
      refine gw_aload_n (q := 0) dX6_choose_104 rfl rfl ?_
      refine gw_gR fX6_21 dX6_choose_105 g1 ?_
      refine gw_iload_n (q := 3) dX6_choose_108 rfl rfl ?_
      obtain ⟨g4, h⟩ := h
      refine gw_aI dX6_choose_109 g4 ?_
      refine gw_ishl dX6_choose_110 ?_
      refine gw_ior dX6_choose_111 ?_
      refine gw_pI fX6_117 dX6_choose_112 g1 (fun σ5 e5 => ?_)
      replace h := h σ5 e5
      refine gw_inc (lo' := [(0, .inr v0), (1, .inl v1), (2, .inl v2), (3, .inl (v3 + 1))]) (q := 3) (c := 1) dX6_choose_115 ic_1 rfl (by decide) rfl ?_
      refine gw_goto (tgt := 81) dX6_choose_118 (by decide) ?_
      exact h
set_option maxHeartbeats 4000000 in
set_option maxRecDepth 20000 in
theorem gX6_choose_19 {l : Launch} {v0 : Nat} {v1 : Int32} {v2 : Int32} {v3 : Int32} {σ : Sg} {K : Sg → Prop} (h : ((v2 < v3 → Ob σ v0 6 ∧ ∀ σ3, σ3 = w1 σ v0 9 0 → GW l mX6_choose 81 [(0, .inr v0), (1, .inl v1), (2, .inl v2), (3, .inl 0)] [] σ3 0 0 (PV K)) ∧ (¬ v2 < v3 → ((32 ≤ v3 → Ob σ v0 6 ∧ ∀ σ6, σ6 = w1 σ v0 9 0 → GW l mX6_choose 81 [(0, .inr v0), (1, .inl v1), (2, .inl v2), (3, .inl 0)] [] σ6 0 0 (PV K)) ∧ (¬ 32 ≤ v3 → Ob σ v0 6 ∧ Con l mX6_timeAt [.inr v0, .inl 0, .inl (v2 &&& (v3 ^^^ (-1)))] σ (PI (fun x7 σ7 => Con l mX6_timeAt [.inr v0, .inl 1, .inl v3] σ7 (PI (fun x9 σ9 => Con l mJ9_max_7cf53 [.inl x7, .inl x9] σ9 (PI (fun x10 σ10 => (((σ10.2.1 v0 8) ≤ x10 → GW l mX6_choose 19 [(0, .inr v0), (1, .inl v1), (2, .inl v2), (3, .inl (v3 + 1))] [] σ10 0 0 (PV K)) ∧ (¬ (σ10.2.1 v0 8) ≤ x10 → ∀ σ12, σ12 = w1 σ10 v0 8 x10 → GW l mX6_choose 19 [(0, .inr v0), (1, .inl v3), (2, .inl v2), (3, .inl (v3 + 1))] [] σ12 0 0 (PV K)))))))))))))) : GW l mX6_choose 19 [(0, .inr v0), (1, .inl v1), (2, .inl v2), (3, .inl v3)] [] σ 0 0 (PV K) := by
  refine gw_iload_n (q := 3) dX6_choose_19 rfl rfl ?_
  refine gw_iload_n (q := 2) dX6_choose_20 rfl rfl ?_
  refine gw_icmp_gt (tgt := 74) dX6_choose_21 (by decide) (fun c1 => ?_) (fun c1 => ?_)
  · replace h := h.1 c1
    refine gw_aload_n (q := 0) dX6_choose_74 rfl rfl ?_
    refine gw_iconst (v := 0) dX6_choose_75 ic_0 ?_
    obtain ⟨g2, h⟩ := h
    refine gw_pI fX6_117 dX6_choose_76 g2 (fun σ3 e3 => ?_)
    replace h := h σ3 e3
    refine gw_iconst (v := 0) dX6_choose_79 ic_0 ?_
    refine gw_istore_n (lo' := [(0, .inr v0), (1, .inl v1), (2, .inl v2), (3, .inl 0)]) dX6_choose_80 rfl (by decide) rfl ?_
    exact h
  · replace h := h.2 c1
    refine gw_iload_n (q := 3) dX6_choose_24 rfl rfl ?_
    refine gw_bipush (v := 32) dX6_choose_25 bp_32 ?_
    refine gw_icmp_ge (tgt := 74) dX6_choose_27 (by decide) (fun c4 => ?_) (fun c4 => ?_)
    · replace h := h.1 c4
      refine gw_aload_n (q := 0) dX6_choose_74 rfl rfl ?_
      refine gw_iconst (v := 0) dX6_choose_75 ic_0 ?_
      obtain ⟨g5, h⟩ := h
      refine gw_pI fX6_117 dX6_choose_76 g5 (fun σ6 e6 => ?_)
      replace h := h σ6 e6
      refine gw_iconst (v := 0) dX6_choose_79 ic_0 ?_
      refine gw_istore_n (lo' := [(0, .inr v0), (1, .inl v1), (2, .inl v2), (3, .inl 0)]) dX6_choose_80 rfl (by decide) rfl ?_
      exact h
    · replace h := h.2 c4
      refine gw_aload_n (q := 0) dX6_choose_30 rfl rfl ?_
      refine gw_iconst (v := 0) dX6_choose_31 ic_0 ?_
      refine gw_iload_n (q := 2) dX6_choose_32 rfl rfl ?_
      refine gw_iload_n (q := 3) dX6_choose_33 rfl rfl ?_
      refine gw_iconst (v := (-1)) dX6_choose_34 ic_m1 ?_
      refine gw_ixor dX6_choose_35 ?_
      refine gw_iand dX6_choose_36 ?_
      obtain ⟨g8, h⟩ := h
      refine gw_vC (bs := [.inl 0, .inl (v2 &&& (v3 ^^^ (-1)))]) (st := []) (vmX6_timeAt) lX6_111 dX6_choose_37 ⟨by decide, rfl, rfl, by decide, by decide⟩ (Nat.le_of_ble_eq_true rfl) rfl rfl g8 h (kI (fun x7 σ7 h n7 => ?_))
      refine gw_aload_n (q := 0) dX6_choose_40 rfl rfl ?_
      refine gw_iconst (v := 1) dX6_choose_41 ic_1 ?_
      refine gw_iload_n (q := 3) dX6_choose_42 rfl rfl ?_
      refine gw_vC (bs := [.inl 1, .inl v3]) (st := [.inl x7]) (vmX6_timeAt) lX6_111 dX6_choose_43 ⟨by decide, rfl, rfl, by decide, by decide⟩ (Nat.le_of_ble_eq_true rfl) rfl rfl (g8.up n7) h (kI (fun x9 σ9 h n9 => ?_))
      refine gw_sC (bs := [.inl x7, .inl x9]) (st := []) smJ9_max_7cf53 lX6_114 dX6_choose_46 ⟨by decide, rfl, rfl, by decide, by decide⟩ (Nat.le_of_ble_eq_true rfl) rfl rfl h (kI (fun x10 σ10 h n10 => ?_))
      refine gw_istore (lo' := [(0, .inr v0), (1, .inl v1), (2, .inl v2), (3, .inl v3), (4, .inl x10)]) dX6_choose_49 (by decide) rfl ?_
      refine gw_iload (q := 4) dX6_choose_51 rfl ?_
      refine gw_aload_n (q := 0) dX6_choose_53 rfl rfl ?_
      refine gw_gI fX6_108 dX6_choose_54 (((g8.up n7).up n9).up n10) ?_
      refine gw_icmp_ge (tgt := 68) dX6_choose_57 (by decide) (fun c11 => ?_) (fun c11 => ?_)
      · replace h := h.1 c11
        refine gw_inc (lo' := [(0, .inr v0), (1, .inl v1), (2, .inl v2), (3, .inl (v3 + 1)), (4, .inl x10)]) (q := 3) (c := 1) dX6_choose_68 ic_1 rfl (by decide) rfl ?_
        refine gw_goto (tgt := 19) dX6_choose_71 (by decide) ?_
        refine gw_pick [0, 1, 2, 3] rfl ?_
        exact h
      · replace h := h.2 c11
        refine gw_aload_n (q := 0) dX6_choose_60 rfl rfl ?_
        refine gw_iload (q := 4) dX6_choose_61 rfl ?_
        refine gw_pI fX6_108 dX6_choose_63 (((g8.up n7).up n9).up n10) (fun σ12 e12 => ?_)
        replace h := h σ12 e12
        refine gw_iload_n (q := 3) dX6_choose_66 rfl rfl ?_
        refine gw_istore_n (lo' := [(0, .inr v0), (1, .inl v3), (2, .inl v2), (3, .inl v3), (4, .inl x10)]) dX6_choose_67 rfl (by decide) rfl ?_
        refine gw_inc (lo' := [(0, .inr v0), (1, .inl v3), (2, .inl v2), (3, .inl (v3 + 1)), (4, .inl x10)]) (q := 3) (c := 1) dX6_choose_68 ic_1 rfl (by decide) rfl ?_
        refine gw_goto (tgt := 19) dX6_choose_71 (by decide) ?_
        refine gw_pick [0, 1, 2, 3] rfl ?_
        exact h
set_option maxHeartbeats 4000000 in
set_option maxRecDepth 20000 in
theorem eX6_choose {l : Launch} {v0 : Nat} {σ : Sg} {K : Sg → Prop} (h : Ob σ v0 6 ∧ ∀ σ2, σ2 = w1 σ v0 8 1000000 → GW l mX6_choose 19 [(0, .inr v0), (1, .inl 0), (2, .inl ((1 <<< ((σ2.2.1 v0 7) &&& 31)) - 1)), (3, .inl 0)] [] σ2 0 0 (PV K)) : Con l mX6_choose [.inr v0] σ (PV K) := by
  refine con_gw rfl (Nat.le_of_ble_eq_true rfl) ?_
  show GW l mX6_choose 0 [(0, .inr v0)] [] σ 0 0 (PV K)
  refine gw_aload_n (q := 0) dX6_choose_0 rfl rfl ?_
  refine gw_ldc (v := 1000000) kX6_85 dX6_choose_1 ?_
  obtain ⟨g1, h⟩ := h
  refine gw_pI fX6_108 dX6_choose_3 g1 (fun σ2 e2 => ?_)
  replace h := h σ2 e2
  refine gw_iconst (v := 0) dX6_choose_6 ic_0 ?_
  refine gw_istore_n (lo' := [(0, .inr v0), (1, .inl 0)]) dX6_choose_7 rfl (by decide) rfl ?_
  refine gw_iconst (v := 1) dX6_choose_8 ic_1 ?_
  refine gw_aload_n (q := 0) dX6_choose_9 rfl rfl ?_
  refine gw_gI fX6_34 dX6_choose_10 (g1.up (n_w1 e2)) ?_
  refine gw_ishl dX6_choose_13 ?_
  refine gw_iconst (v := 1) dX6_choose_14 ic_1 ?_
  refine gw_isub dX6_choose_15 ?_
  refine gw_istore_n (lo' := [(0, .inr v0), (1, .inl 0), (2, .inl ((1 <<< ((σ2.2.1 v0 7) &&& 31)) - 1))]) dX6_choose_16 rfl (by decide) rfl ?_
  refine gw_iconst (v := 0) dX6_choose_17 ic_0 ?_
  refine gw_istore_n (lo' := [(0, .inr v0), (1, .inl 0), (2, .inl ((1 <<< ((σ2.2.1 v0 7) &&& 31)) - 1)), (3, .inl 0)]) dX6_choose_18 rfl (by decide) rfl ?_
  exact h
