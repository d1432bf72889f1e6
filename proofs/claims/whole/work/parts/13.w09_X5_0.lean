set_option maxHeartbeats 4000000 in
set_option maxRecDepth 20000 in
theorem eX5_init {l : Launch} {v0 : Nat} {σ : Sg} {K : Sg → Prop} (h : v0 ≠ 0 ∧ shp (σ.1 + 1) = (13, 240) ∧ σ.1 + 1 ≤ 1000 ∧ ∀ x3 σ3, x3 = σ.1 + 1 → σ3 = nw σ → Ob σ3 v0 5 ∧ x3 ≤ σ3.1 ∧ ∀ σ6, σ6 = w2 σ3 v0 0 x3 → shp (σ6.1 + 1) = (13, 240) ∧ σ6.1 + 1 ≤ 1000 ∧ ∀ x8 σ8, x8 = σ6.1 + 1 → σ8 = nw σ6 → x8 ≤ σ8.1 ∧ ∀ σ10, σ10 = w2 σ8 v0 1 x8 → shp (σ10.1 + 1) = (13, 1600) ∧ σ10.1 + 1 ≤ 1000 ∧ ∀ x12 σ12, x12 = σ10.1 + 1 → σ12 = nw σ10 → x12 ≤ σ12.1 ∧ ∀ σ14, σ14 = w2 σ12 v0 2 x12 → shp (σ14.1 + 1) = (13, 80) ∧ σ14.1 + 1 ≤ 1000 ∧ ∀ x16 σ16, x16 = σ14.1 + 1 → σ16 = nw σ14 → x16 ≤ σ16.1 ∧ ∀ σ18, σ18 = w2 σ16 v0 3 x16 → K σ18) : Con l mX5_init [.inr v0] σ (PV K) := by
  refine con_gw rfl (Nat.le_of_ble_eq_true rfl) ?_
  show GW l mX5_init 0 [(0, .inr v0)] [] σ 0 0 (PV K)
  refine gw_aload_n (q := 0) dX5_init_0 rfl rfl ?_
  obtain ⟨g1, h⟩ := h
  refine gw_objInit oiX5_3 oi_in oi_cd dX5_init_1 (by decide) (Nat.le_of_ble_eq_true rfl) g1 ?_
  refine gw_aload_n (q := 0) dX5_init_4 rfl rfl ?_
  refine gw_sipush (v := 240) dX5_init_5 sp_240 ?_
  obtain ⟨g2, g3, h⟩ := h
  refine gw_newi (N := 240) ac_int dX5_init_8 g2 (by decide) (by decide) (by decide) (by decide) (by decide) g3 (fun x3 σ3 ex3 e3 => ?_)
  replace h := h x3 σ3 ex3 e3
  obtain ⟨g4, h⟩ := h
  obtain ⟨z5, h⟩ := h
  refine gw_pRF fX5_11 (Or.inr ⟨_, rfl⟩) rfl rfl (fun C T N hc => by cases hc; exact xfX5_11) dX5_init_10 z5 g4 (fun σ6 e6 => ?_)
  replace h := h σ6 e6
  refine gw_aload_n (q := 0) dX5_init_13 rfl rfl ?_
  refine gw_sipush (v := 240) dX5_init_14 sp_240 ?_
  obtain ⟨g7, g8, h⟩ := h
  refine gw_newi (N := 240) ac_int dX5_init_17 g7 (by decide) (by decide) (by decide) (by decide) (by decide) g8 (fun x8 σ8 ex8 e8 => ?_)
  replace h := h x8 σ8 ex8 e8
  obtain ⟨z9, h⟩ := h
  refine gw_pRF fX5_15 (Or.inr ⟨_, rfl⟩) rfl rfl (fun C T N hc => by cases hc; exact xfX5_15) dX5_init_19 z9 ((g4.up (n_w2 e6)).up (n_nw e8)) (fun σ10 e10 => ?_)
  replace h := h σ10 e10
  refine gw_aload_n (q := 0) dX5_init_22 rfl rfl ?_
  refine gw_sipush (v := 1600) dX5_init_23 sp_1600 ?_
  obtain ⟨g11, g12, h⟩ := h
  refine gw_newi (N := 1600) ac_int dX5_init_26 g11 (by decide) (by decide) (by decide) (by decide) (by decide) g12 (fun x12 σ12 ex12 e12 => ?_)
  replace h := h x12 σ12 ex12 e12
  obtain ⟨z13, h⟩ := h
  refine gw_pRF fX5_18 (Or.inr ⟨_, rfl⟩) rfl rfl (fun C T N hc => by cases hc; exact xfX5_18) dX5_init_28 z13 ((((g4.up (n_w2 e6)).up (n_nw e8)).up (n_w2 e10)).up (n_nw e12)) (fun σ14 e14 => ?_)
  replace h := h σ14 e14
  refine gw_aload_n (q := 0) dX5_init_31 rfl rfl ?_
  refine gw_bipush (v := 80) dX5_init_32 bp_80 ?_
  obtain ⟨g15, g16, h⟩ := h
  refine gw_newi (N := 80) ac_int dX5_init_34 g15 (by decide) (by decide) (by decide) (by decide) (by decide) g16 (fun x16 σ16 ex16 e16 => ?_)
  replace h := h x16 σ16 ex16 e16
  obtain ⟨z17, h⟩ := h
  refine gw_pRF fX5_21 (Or.inr ⟨_, rfl⟩) rfl rfl (fun C T N hc => by cases hc; exact xfX5_21) dX5_init_36 z17 ((((((g4.up (n_w2 e6)).up (n_nw e8)).up (n_w2 e10)).up (n_nw e12)).up (n_w2 e14)).up (n_nw e16)) (fun σ18 e18 => ?_)
  replace h := h σ18 e18
  exact gw_rV dX5_init_39 rfl (by decide) (by decide) h
set_option maxHeartbeats 4000000 in
set_option maxRecDepth 20000 in
theorem eX5_timeAt {l : Launch} {v0 : Nat} {v1 : Int32} {σ : Sg} {K : Int32 → Sg → Prop} (h : ((v1 < 0 → K (-1) σ) ∧ (¬ v1 < 0 → Ob σ v0 5 ∧ (((σ.2.1 v0 8) ≤ v1 → K (-1) σ) ∧ (¬ (σ.2.1 v0 8) ≤ v1 → ((80 ≤ v1 → K (-1) σ) ∧ (¬ 80 ≤ v1 → Ai σ (σ.2.2 v0 3) v1 ∧ K (σ.2.1 (σ.2.2 v0 3) v1.toNatClampNeg) σ))))))) : Con l mX5_timeAt [.inr v0, .inl v1] σ (PI K) := by
  refine con_gw rfl (Nat.le_of_ble_eq_true rfl) ?_
  show GW l mX5_timeAt 0 [(0, .inr v0), (1, .inl v1)] [] σ 0 0 (PI K)
  refine gw_iload_n (q := 1) dX5_timeAt_0 rfl rfl ?_
  refine gw_if_lt (tgt := 27) dX5_timeAt_1 (by decide) (fun c1 => ?_) (fun c1 => ?_)
  · replace h := h.1 c1
    refine gw_iconst (v := (-1)) dX5_timeAt_27 ic_m1 ?_
    exact gw_rI dX5_timeAt_28 rfl (by decide) (by decide) h
  · replace h := h.2 c1
    refine gw_iload_n (q := 1) dX5_timeAt_4 rfl rfl ?_
    refine gw_aload_n (q := 0) dX5_timeAt_5 rfl rfl ?_
    obtain ⟨g2, h⟩ := h
    refine gw_gI fX5_24 dX5_timeAt_6 g2 ?_
    refine gw_icmp_ge (tgt := 27) dX5_timeAt_9 (by decide) (fun c3 => ?_) (fun c3 => ?_)
    · replace h := h.1 c3
      refine gw_iconst (v := (-1)) dX5_timeAt_27 ic_m1 ?_
      exact gw_rI dX5_timeAt_28 rfl (by decide) (by decide) h
    · replace h := h.2 c3
      refine gw_iload_n (q := 1) dX5_timeAt_12 rfl rfl ?_
      refine gw_bipush (v := 80) dX5_timeAt_13 bp_80 ?_
      refine gw_icmp_ge (tgt := 27) dX5_timeAt_15 (by decide) (fun c4 => ?_) (fun c4 => ?_)
      · replace h := h.1 c4
        refine gw_iconst (v := (-1)) dX5_timeAt_27 ic_m1 ?_
        exact gw_rI dX5_timeAt_28 rfl (by decide) (by decide) h
      · replace h := h.2 c4
        refine gw_aload_n (q := 0) dX5_timeAt_18 rfl rfl ?_
        refine gw_gR fX5_21 dX5_timeAt_19 g2 ?_
        refine gw_iload_n (q := 1) dX5_timeAt_22 rfl rfl ?_
        obtain ⟨g5, h⟩ := h
        refine gw_aI dX5_timeAt_23 g5 ?_
        refine gw_goto (tgt := 28) dX5_timeAt_24 (by decide) ?_
        exact gw_rI dX5_timeAt_28 rfl (by decide) (by decide) h
set_option maxHeartbeats 4000000 in
set_option maxRecDepth 20000 in
theorem gX5_search_91 {l : Launch} {v0 : Nat} {v1 : Nat} {v2 : Nat} {v3 : Nat} {v4 : Nat} {v5 : Int32} {σ : Sg} {K : Int32 → Sg → Prop} (h : Ob σ v0 5 ∧ (((σ.2.1 v0 7) < v5 → Con l mX5_fillTimes [.inr v0] σ (PV (fun σ3 => Con l mX5_timesFrom [.inr v0, .inl 0, .inl 0] σ3 (PI (fun x4 σ4 => ((x4 < 1000000 → Con l mX5_trace [.inr v0, .inl x4] σ4 (PV (fun σ6 => K x4 σ6))) ∧ (¬ x4 < 1000000 → K (-2) σ4))))))) ∧ (¬ (σ.2.1 v0 7) < v5 → Ob σ v3 9 ∧ Con l mX9_poseAt [.inr v3, .inl v5] σ (PI (fun x7 σ7 => Ob σ7 v4 0 ∧ Con l mX0_fillBody [.inr v4, .inl x7, .inr (σ7.2.2 v0 1), .inl (v5 * 6)] σ7 (PV (fun σ9 => GW l mX5_search 91 [(0, .inr v0), (1, .inr v1), (2, .inr v2), (3, .inr v3), (4, .inr v4), (5, .inl (v5 + 1))] [] σ9 0 0 (PI K)))))))) : GW l mX5_search 91 [(0, .inr v0), (1, .inr v1), (2, .inr v2), (3, .inr v3), (4, .inr v4), (5, .inl v5)] [] σ 0 0 (PI K) := by
  refine gw_iload (q := 5) dX5_search_91 rfl ?_
  refine gw_aload_n (q := 0) dX5_search_93 rfl rfl ?_
  obtain ⟨g1, h⟩ := h
  refine gw_gI fX5_53 dX5_search_94 g1 ?_
  refine gw_icmp_gt (tgt := 126) dX5_search_97 (by decide) (fun c2 => ?_) (fun c2 => ?_)
  · replace h := h.1 c2
    refine gw_aload_n (q := 0) dX5_search_126 rfl rfl ?_
    refine gw_vC (bs := []) (st := []) (vmX5_fillTimes) lX5_64 dX5_search_127 ⟨by decide, rfl, rfl, by decide, by decide⟩ (Nat.le_of_ble_eq_true rfl) rfl rfl g1 h (kV (fun σ3 h n3 => ?_))
    refine gw_aload_n (q := 0) dX5_search_130 rfl rfl ?_
    refine gw_iconst (v := 0) dX5_search_131 ic_0 ?_
    refine gw_iconst (v := 0) dX5_search_132 ic_0 ?_
    refine gw_vC (bs := [.inl 0, .inl 0]) (st := []) (vmX5_timesFrom) lX5_67 dX5_search_133 ⟨by decide, rfl, rfl, by decide, by decide⟩ (Nat.le_of_ble_eq_true rfl) rfl rfl (g1.up n3) h (kI (fun x4 σ4 h n4 => ?_))
    refine gw_istore (lo' := [(0, .inr v0), (1, .inr v1), (2, .inr v2), (3, .inr v3), (4, .inr v4), (5, .inl x4)]) dX5_search_136 (by decide) rfl ?_
    refine gw_iload (q := 5) dX5_search_138 rfl ?_
    refine gw_ldc (v := 1000000) kX5_70 dX5_search_140 ?_
    refine gw_icmp_lt (tgt := 148) dX5_search_142 (by decide) (fun c5 => ?_) (fun c5 => ?_)
    · replace h := h.1 c5
      refine gw_aload_n (q := 0) dX5_search_148 rfl rfl ?_
      refine gw_iload (q := 5) dX5_search_149 rfl ?_
      refine gw_vC (bs := [.inl x4]) (st := []) (vmX5_trace) lX5_71 dX5_search_151 ⟨by decide, rfl, rfl, by decide, by decide⟩ (Nat.le_of_ble_eq_true rfl) rfl rfl ((g1.up n3).up n4) h (kV (fun σ6 h n6 => ?_))
      refine gw_iload (q := 5) dX5_search_154 rfl ?_
      exact gw_rI dX5_search_156 rfl (by decide) (by decide) h
    · replace h := h.2 c5
      refine gw_bipush (v := (-2)) dX5_search_145 bp_m2 ?_
      exact gw_rI dX5_search_147 rfl (by decide) (by decide) h
  · replace h := h.2 c2
    refine gw_aload (q := 4) dX5_search_100 rfl ?_
    refine gw_aload_n (q := 3) dX5_search_102 rfl rfl ?_
    refine gw_iload (q := 5) dX5_search_103 rfl ?_
    obtain ⟨g8, h⟩ := h
    refine gw_vC (bs := [.inl v5]) (st := [.inr v4]) (vmX9_poseAt) lX5_56 dX5_search_105 ⟨by decide, rfl, rfl, by decide, by decide⟩ (Nat.le_of_ble_eq_true rfl) rfl rfl g8 h (kI (fun x7 σ7 h n7 => ?_))
    refine gw_aload_n (q := 0) dX5_search_108 rfl rfl ?_
    refine gw_gR fX5_15 dX5_search_109 (g1.up n7) ?_
    refine gw_iload (q := 5) dX5_search_112 rfl ?_
    refine gw_bipush (v := 6) dX5_search_114 bp_6 ?_
    refine gw_imul dX5_search_116 ?_
    obtain ⟨g10, h⟩ := h
    refine gw_vC (bs := [.inl x7, .inr (σ7.2.2 v0 1), .inl (v5 * 6)]) (st := []) (vmX0_fillBody) lX5_60 dX5_search_117 ⟨by decide, rfl, rfl, by decide, by decide⟩ (Nat.le_of_ble_eq_true rfl) rfl rfl g10 h (kV (fun σ9 h n9 => ?_))
    refine gw_inc (lo' := [(0, .inr v0), (1, .inr v1), (2, .inr v2), (3, .inr v3), (4, .inr v4), (5, .inl (v5 + 1))]) (q := 5) (c := 1) dX5_search_120 ic_1 rfl (by decide) rfl ?_
    refine gw_goto (tgt := 91) dX5_search_123 (by decide) ?_
    exact h
set_option maxHeartbeats 4000000 in
set_option maxRecDepth 20000 in
theorem gX5_search_54 {l : Launch} {v0 : Nat} {v1 : Nat} {v2 : Nat} {v3 : Nat} {v4 : Nat} {v5 : Int32} {σ : Sg} {K : Int32 → Sg → Prop} (h : Ob σ v0 5 ∧ (((σ.2.1 v0 6) < v5 → GW l mX5_search 91 [(0, .inr v0), (1, .inr v1), (2, .inr v2), (3, .inr v3), (4, .inr v4), (5, .inl 0)] [] σ 0 0 (PI K)) ∧ (¬ (σ.2.1 v0 6) < v5 → Ob σ v1 9 ∧ Con l mX9_poseAt [.inr v1, .inl v5] σ (PI (fun x3 σ3 => Ob σ3 v2 0 ∧ Con l mX0_fillBody [.inr v2, .inl x3, .inr (σ3.2.2 v0 0), .inl (v5 * 6)] σ3 (PV (fun σ5 => GW l mX5_search 54 [(0, .inr v0), (1, .inr v1), (2, .inr v2), (3, .inr v3), (4, .inr v4), (5, .inl (v5 + 1))] [] σ5 0 0 (PI K)))))))) : GW l mX5_search 54 [(0, .inr v0), (1, .inr v1), (2, .inr v2), (3, .inr v3), (4, .inr v4), (5, .inl v5)] [] σ 0 0 (PI K) := by
  refine gw_iload (q := 5) dX5_search_54 rfl ?_
  refine gw_aload_n (q := 0) dX5_search_56 rfl rfl ?_
  obtain ⟨g1, h⟩ := h
  refine gw_gI fX5_50 dX5_search_57 g1 ?_
  refine gw_icmp_gt (tgt := 88) dX5_search_60 (by decide) (fun c2 => ?_) (fun c2 => ?_)
  · replace h := h.1 c2
    refine gw_iconst (v := 0) dX5_search_88 ic_0 ?_
    refine gw_istore (lo' := [(0, .inr v0), (1, .inr v1), (2, .inr v2), (3, .inr v3), (4, .inr v4), (5, .inl 0)]) dX5_search_89 (by decide) rfl ?_
    exact h
  · replace h := h.2 c2
    refine gw_aload_n (q := 2) dX5_search_63 rfl rfl ?_
    refine gw_aload_n (q := 1) dX5_search_64 rfl rfl ?_
    refine gw_iload (q := 5) dX5_search_65 rfl ?_
    obtain ⟨g4, h⟩ := h
    refine gw_vC (bs := [.inl v5]) (st := [.inr v2]) (vmX9_poseAt) lX5_56 dX5_search_67 ⟨by decide, rfl, rfl, by decide, by decide⟩ (Nat.le_of_ble_eq_true rfl) rfl rfl g4 h (kI (fun x3 σ3 h n3 => ?_))
    refine gw_aload_n (q := 0) dX5_search_70 rfl rfl ?_
    refine gw_gR fX5_11 dX5_search_71 (g1.up n3) ?_
    refine gw_iload (q := 5) dX5_search_74 rfl ?_
    refine gw_bipush (v := 6) dX5_search_76 bp_6 ?_
    refine gw_imul dX5_search_78 ?_
    obtain ⟨g6, h⟩ := h
    refine gw_vC (bs := [.inl x3, .inr (σ3.2.2 v0 0), .inl (v5 * 6)]) (st := []) (vmX0_fillBody) lX5_60 dX5_search_79 ⟨by decide, rfl, rfl, by decide, by decide⟩ (Nat.le_of_ble_eq_true rfl) rfl rfl g6 h (kV (fun σ5 h n5 => ?_))
    refine gw_inc (lo' := [(0, .inr v0), (1, .inr v1), (2, .inr v2), (3, .inr v3), (4, .inr v4), (5, .inl (v5 + 1))]) (q := 5) (c := 1) dX5_search_82 ic_1 rfl (by decide) rfl ?_
    refine gw_goto (tgt := 54) dX5_search_85 (by decide) ?_
    exact h
set_option maxHeartbeats 4000000 in
set_option maxRecDepth 20000 in
theorem eX5_search {l : Launch} {v0 : Nat} {v1 : Nat} {v2 : Nat} {v3 : Nat} {v4 : Nat} {σ : Sg} {K : Int32 → Sg → Prop} (h : Ob σ v2 0 ∧ Ob σ v0 5 ∧ ∀ σ3, σ3 = w1 σ v0 4 (2 * (σ.2.1 v2 6)) → Ob σ3 v4 0 ∧ ∀ σ5, σ5 = w1 σ3 v0 5 (2 * (σ3.2.1 v4 6)) → Ob σ5 v1 9 ∧ Con l mJ9_min_7cf53 [.inl (σ5.2.1 v1 3), .inl 40] σ5 (PI (fun x7 σ7 => ∀ σ8, σ8 = w1 σ7 v0 6 (x7 - 1) → Ob σ8 v3 9 ∧ Con l mJ9_min_7cf53 [.inl (σ8.2.1 v3 3), .inl 40] σ8 (PI (fun x10 σ10 => ∀ σ11, σ11 = w1 σ10 v0 7 (x10 - 1) → GW l mX5_search 54 [(0, .inr v0), (1, .inr v1), (2, .inr v2), (3, .inr v3), (4, .inr v4), (5, .inl 0)] [] σ11 0 0 (PI K)))))) : Con l mX5_search [.inr v0, .inr v1, .inr v2, .inr v3, .inr v4] σ (PI K) := by
  refine con_gw rfl (Nat.le_of_ble_eq_true rfl) ?_
  show GW l mX5_search 0 [(0, .inr v0), (1, .inr v1), (2, .inr v2), (3, .inr v3), (4, .inr v4)] [] σ 0 0 (PI K)
  refine gw_aload_n (q := 0) dX5_search_0 rfl rfl ?_
  refine gw_iconst (v := 2) dX5_search_1 ic_2 ?_
  refine gw_aload_n (q := 2) dX5_search_2 rfl rfl ?_
  obtain ⟨g1, h⟩ := h
  refine gw_gI fX5_28 dX5_search_3 g1 ?_
  refine gw_imul dX5_search_6 ?_
  obtain ⟨g2, h⟩ := h
  refine gw_pI fX5_33 dX5_search_7 g2 (fun σ3 e3 => ?_)
  replace h := h σ3 e3
  refine gw_aload_n (q := 0) dX5_search_10 rfl rfl ?_
  refine gw_iconst (v := 2) dX5_search_11 ic_2 ?_
  refine gw_aload (q := 4) dX5_search_12 rfl ?_
  obtain ⟨g4, h⟩ := h
  refine gw_gI fX5_28 dX5_search_14 g4 ?_
  refine gw_imul dX5_search_17 ?_
  refine gw_pI fX5_36 dX5_search_18 (g2.up (n_w1 e3)) (fun σ5 e5 => ?_)
  replace h := h σ5 e5
  refine gw_aload_n (q := 0) dX5_search_21 rfl rfl ?_
  refine gw_aload_n (q := 1) dX5_search_22 rfl rfl ?_
  obtain ⟨g6, h⟩ := h
  refine gw_gI fX5_39 dX5_search_23 g6 ?_
  refine gw_bipush (v := 40) dX5_search_26 bp_40 ?_
  refine gw_sC (bs := [.inl (σ5.2.1 v1 3), .inl 40]) (st := [.inr v0]) smJ9_min_7cf53 lX5_44 dX5_search_28 ⟨by decide, rfl, rfl, by decide, by decide⟩ (Nat.le_of_ble_eq_true rfl) rfl rfl h (kI (fun x7 σ7 h n7 => ?_))
  refine gw_iconst (v := 1) dX5_search_31 ic_1 ?_
  refine gw_isub dX5_search_32 ?_
  refine gw_pI fX5_50 dX5_search_33 (((g2.up (n_w1 e3)).up (n_w1 e5)).up n7) (fun σ8 e8 => ?_)
  replace h := h σ8 e8
  refine gw_aload_n (q := 0) dX5_search_36 rfl rfl ?_
  refine gw_aload_n (q := 3) dX5_search_37 rfl rfl ?_
  obtain ⟨g9, h⟩ := h
  refine gw_gI fX5_39 dX5_search_38 g9 ?_
  refine gw_bipush (v := 40) dX5_search_41 bp_40 ?_
  refine gw_sC (bs := [.inl (σ8.2.1 v3 3), .inl 40]) (st := [.inr v0]) smJ9_min_7cf53 lX5_44 dX5_search_43 ⟨by decide, rfl, rfl, by decide, by decide⟩ (Nat.le_of_ble_eq_true rfl) rfl rfl h (kI (fun x10 σ10 h n10 => ?_))
  refine gw_iconst (v := 1) dX5_search_46 ic_1 ?_
  refine gw_isub dX5_search_47 ?_
  refine gw_pI fX5_53 dX5_search_48 (((((g2.up (n_w1 e3)).up (n_w1 e5)).up n7).up (n_w1 e8)).up n10) (fun σ11 e11 => ?_)
  replace h := h σ11 e11
  refine gw_iconst (v := 0) dX5_search_51 ic_0 ?_
  refine gw_istore (lo' := [(0, .inr v0), (1, .inr v1), (2, .inr v2), (3, .inr v3), (4, .inr v4), (5, .inl 0)]) dX5_search_52 (by decide) rfl ?_
  exact h
set_option maxHeartbeats 4000000 in
set_option maxRecDepth 20000 in
theorem gX5_fillTimes_46 {l : Launch} {v0 : Nat} {v1 : Int32} {v2 : Int32} {t0 : Int32} {σ : Sg} {K : Sg → Prop} (h : Ob σ v0 5 ∧ Con l mX5_touch [.inr v0, .inl v1, .inl v2] σ (PI (fun x2 σ2 => ((x2 = 0 → Con l mJ9_min_7cf53 [.inl t0, .inl 1000000] σ2 (PI (fun x4 σ4 => Ai σ4 (σ.2.2 v0 2) ((v1 * 40) + v2) ∧ ∀ σ6, σ6 = w1 σ4 (σ.2.2 v0 2) ((v1 * 40) + v2).toNatClampNeg x4 → GW l mX5_fillTimes 14 [(0, .inr v0), (1, .inl v1), (2, .inl (v2 + (-1)))] [] σ6 0 0 (PV K)))) ∧ (¬ x2 = 0 → Ai σ2 (σ.2.2 v0 2) ((v1 * 40) + v2) ∧ ∀ σ8, σ8 = w1 σ2 (σ.2.2 v0 2) ((v1 * 40) + v2).toNatClampNeg 1000000 → GW l mX5_fillTimes 14 [(0, .inr v0), (1, .inl v1), (2, .inl (v2 + (-1)))] [] σ8 0 0 (PV K)))))) : GW l mX5_fillTimes 46 [(0, .inr v0), (1, .inl v1), (2, .inl v2)] [.inl t0] σ 0 0 (PV K) := by
  refine gw_istore_n (lo' := [(0, .inr v0), (1, .inl v1), (2, .inl v2), (3, .inl t0)]) dX5_fillTimes_46 rfl (by decide) rfl ?_
  refine gw_aload_n (q := 0) dX5_fillTimes_47 rfl rfl ?_
  obtain ⟨g1, h⟩ := h
  refine gw_gR fX5_18 dX5_fillTimes_48 g1 ?_
  refine gw_iload_n (q := 1) dX5_fillTimes_51 rfl rfl ?_
  refine gw_bipush (v := 40) dX5_fillTimes_52 bp_40 ?_
  refine gw_imul dX5_fillTimes_54 ?_
  refine gw_iload_n (q := 2) dX5_fillTimes_55 rfl rfl ?_
  refine gw_iadd dX5_fillTimes_56 ?_
  refine gw_aload_n (q := 0) dX5_fillTimes_57 rfl rfl ?_
  refine gw_iload_n (q := 1) dX5_fillTimes_58 rfl rfl ?_
  refine gw_iload_n (q := 2) dX5_fillTimes_59 rfl rfl ?_
  refine gw_vC (bs := [.inl v1, .inl v2]) (st := [.inl ((v1 * 40) + v2), .inr (σ.2.2 v0 2)]) (vmX5_touch) lX5_78 dX5_fillTimes_60 ⟨by decide, rfl, rfl, by decide, by decide⟩ (Nat.le_of_ble_eq_true rfl) rfl rfl g1 h (kI (fun x2 σ2 h n2 => ?_))
  refine gw_if_eq (tgt := 71) dX5_fillTimes_63 (by decide) (fun c3 => ?_) (fun c3 => ?_)
  · replace h := h.1 c3
    refine gw_iload_n (q := 3) dX5_fillTimes_71 rfl rfl ?_
    refine gw_ldc (v := 1000000) kX5_70 dX5_fillTimes_72 ?_
    refine gw_sC (bs := [.inl t0, .inl 1000000]) (st := [.inl ((v1 * 40) + v2), .inr (σ.2.2 v0 2)]) smJ9_min_7cf53 lX5_44 dX5_fillTimes_74 ⟨by decide, rfl, rfl, by decide, by decide⟩ (Nat.le_of_ble_eq_true rfl) rfl rfl h (kI (fun x4 σ4 h n4 => ?_))
    obtain ⟨g5, h⟩ := h
    refine gw_sI dX5_fillTimes_77 g5 (fun σ6 e6 => ?_)
    replace h := h σ6 e6
    refine gw_inc (lo' := [(0, .inr v0), (1, .inl v1), (2, .inl (v2 + (-1))), (3, .inl t0)]) (q := 2) (c := (-1)) dX5_fillTimes_78 ic_m1 rfl (by decide) rfl ?_
    refine gw_goto (tgt := 14) dX5_fillTimes_81 (by decide) ?_
    refine gw_pick [0, 1, 2] rfl ?_
    exact h
  · replace h := h.2 c3
    refine gw_ldc (v := 1000000) kX5_70 dX5_fillTimes_66 ?_
    refine gw_goto (tgt := 77) dX5_fillTimes_68 (by decide) ?_
    obtain ⟨g7, h⟩ := h
    refine gw_sI dX5_fillTimes_77 g7 (fun σ8 e8 => ?_)
    replace h := h σ8 e8
    refine gw_inc (lo' := [(0, .inr v0), (1, .inl v1), (2, .inl (v2 + (-1))), (3, .inl t0)]) (q := 2) (c := (-1)) dX5_fillTimes_78 ic_m1 rfl (by decide) rfl ?_
    refine gw_goto (tgt := 14) dX5_fillTimes_81 (by decide) ?_
    refine gw_pick [0, 1, 2] rfl ?_
    exact h
set_option maxHeartbeats 4000000 in
set_option maxRecDepth 20000 in
theorem gX5_fillTimes_38 {l : Launch} {v0 : Nat} {v1 : Int32} {v2 : Int32} {σ : Sg} {K : Sg → Prop} (h : Ob σ v0 5 ∧ Con l mX5_leastAfter [.inr v0, .inl v1, .inl v2] σ (PI (fun x1 σ1 => GW l mX5_fillTimes 46 [(0, .inr v0), (1, .inl v1), (2, .inl v2)] [.inl (1 + x1)] σ1 0 0 (PV K)))) : GW l mX5_fillTimes 38 [(0, .inr v0), (1, .inl v1), (2, .inl v2)] [] σ 0 0 (PV K) := by
  refine gw_iconst (v := 1) dX5_fillTimes_38 ic_1 ?_
  refine gw_aload_n (q := 0) dX5_fillTimes_39 rfl rfl ?_
  refine gw_iload_n (q := 1) dX5_fillTimes_40 rfl rfl ?_
  refine gw_iload_n (q := 2) dX5_fillTimes_41 rfl rfl ?_
  obtain ⟨g2, h⟩ := h
  refine gw_vC (bs := [.inl v1, .inl v2]) (st := [.inl 1]) (vmX5_leastAfter) lX5_75 dX5_fillTimes_42 ⟨by decide, rfl, rfl, by decide, by decide⟩ (Nat.le_of_ble_eq_true rfl) rfl rfl g2 h (kI (fun x1 σ1 h n1 => ?_))
  refine gw_iadd dX5_fillTimes_45 ?_
  exact h
set_option maxHeartbeats 4000000 in
set_option maxRecDepth 20000 in
theorem gX5_fillTimes_14 {l : Launch} {v0 : Nat} {v1 : Int32} {v2 : Int32} {σ : Sg} {K : Sg → Prop} (h : ((v2 < 0 → GW l mX5_fillTimes 5 [(0, .inr v0), (1, .inl (v1 + (-1)))] [] σ 0 0 (PV K)) ∧ (¬ v2 < 0 → Ob σ v0 5 ∧ ((¬ v1 = (σ.2.1 v0 6) → GW l mX5_fillTimes 38 [(0, .inr v0), (1, .inl v1), (2, .inl v2)] [] σ 0 0 (PV K)) ∧ (v1 = (σ.2.1 v0 6) → ((¬ v2 = (σ.2.1 v0 7) → GW l mX5_fillTimes 38 [(0, .inr v0), (1, .inl v1), (2, .inl v2)] [] σ 0 0 (PV K)) ∧ (v2 = (σ.2.1 v0 7) → GW l mX5_fillTimes 46 [(0, .inr v0), (1, .inl v1), (2, .inl v2)] [.inl 0] σ 0 0 (PV K)))))))) : GW l mX5_fillTimes 14 [(0, .inr v0), (1, .inl v1), (2, .inl v2)] [] σ 0 0 (PV K) := by
  refine gw_iload_n (q := 2) dX5_fillTimes_14 rfl rfl ?_
  refine gw_if_lt (tgt := 84) dX5_fillTimes_15 (by decide) (fun c1 => ?_) (fun c1 => ?_)
  · replace h := h.1 c1
    refine gw_inc (lo' := [(0, .inr v0), (1, .inl (v1 + (-1))), (2, .inl v2)]) (q := 1) (c := (-1)) dX5_fillTimes_84 ic_m1 rfl (by decide) rfl ?_
    refine gw_goto (tgt := 5) dX5_fillTimes_87 (by decide) ?_
    refine gw_pick [0, 1] rfl ?_
    exact h
  · replace h := h.2 c1
    refine gw_iload_n (q := 1) dX5_fillTimes_18 rfl rfl ?_
    refine gw_aload_n (q := 0) dX5_fillTimes_19 rfl rfl ?_
    obtain ⟨g2, h⟩ := h
    refine gw_gI fX5_50 dX5_fillTimes_20 g2 ?_
    refine gw_icmp_ne (tgt := 38) dX5_fillTimes_23 (by decide) (fun c3 => ?_) (fun c3 => ?_)
    · replace h := h.1 c3
      exact h
    · replace h := h.2 c3
      refine gw_iload_n (q := 2) dX5_fillTimes_26 rfl rfl ?_
      refine gw_aload_n (q := 0) dX5_fillTimes_27 rfl rfl ?_
      refine gw_gI fX5_53 dX5_fillTimes_28 g2 ?_
      refine gw_icmp_ne (tgt := 38) dX5_fillTimes_31 (by decide) (fun c4 => ?_) (fun c4 => ?_)
      · replace h := h.1 c4
        exact h
      · replace h := h.2 c4
        refine gw_iconst (v := 0) dX5_fillTimes_34 ic_0 ?_
        refine gw_goto (tgt := 46) dX5_fillTimes_35 (by decide) ?_
        exact h
set_option maxHeartbeats 4000000 in
set_option maxRecDepth 20000 in
theorem gX5_fillTimes_5 {l : Launch} {v0 : Nat} {v1 : Int32} {σ : Sg} {K : Sg → Prop} (h : ((v1 < 0 → K σ) ∧ (¬ v1 < 0 → Ob σ v0 5 ∧ GW l mX5_fillTimes 14 [(0, .inr v0), (1, .inl v1), (2, .inl (σ.2.1 v0 7))] [] σ 0 0 (PV K)))) : GW l mX5_fillTimes 5 [(0, .inr v0), (1, .inl v1)] [] σ 0 0 (PV K) := by
  refine gw_iload_n (q := 1) dX5_fillTimes_5 rfl rfl ?_
  refine gw_if_lt (tgt := 90) dX5_fillTimes_6 (by decide) (fun c1 => ?_) (fun c1 => ?_)
  · replace h := h.1 c1
    exact gw_rV dX5_fillTimes_90 rfl (by decide) (by decide) h
  · replace h := h.2 c1
    refine gw_aload_n (q := 0) dX5_fillTimes_9 rfl rfl ?_
    obtain ⟨g2, h⟩ := h
    refine gw_gI fX5_53 dX5_fillTimes_10 g2 ?_
    refine gw_istore_n (lo' := [(0, .inr v0), (1, .inl v1), (2, .inl (σ.2.1 v0 7))]) dX5_fillTimes_13 rfl (by decide) rfl ?_
    exact h
set_option maxHeartbeats 4000000 in
set_option maxRecDepth 20000 in
theorem eX5_fillTimes {l : Launch} {v0 : Nat} {σ : Sg} {K : Sg → Prop} (h : Ob σ v0 5 ∧ GW l mX5_fillTimes 5 [(0, .inr v0), (1, .inl (σ.2.1 v0 6))] [] σ 0 0 (PV K)) : Con l mX5_fillTimes [.inr v0] σ (PV K) := by
  refine con_gw rfl (Nat.le_of_ble_eq_true rfl) ?_
  show GW l mX5_fillTimes 0 [(0, .inr v0)] [] σ 0 0 (PV K)
  refine gw_aload_n (q := 0) dX5_fillTimes_0 rfl rfl ?_
  obtain ⟨g1, h⟩ := h
  refine gw_gI fX5_50 dX5_fillTimes_1 g1 ?_
  refine gw_istore_n (lo' := [(0, .inr v0), (1, .inl (σ.2.1 v0 6))]) dX5_fillTimes_4 rfl (by decide) rfl ?_
  exact h
set_option maxHeartbeats 4000000 in
set_option maxRecDepth 20000 in
theorem eX5_leastAfter {l : Launch} {v0 : Nat} {v1 : Int32} {v2 : Int32} {σ : Sg} {K : Int32 → Sg → Prop} (h : Ob σ v0 5 ∧ Con l mX5_timesFrom [.inr v0, .inl (v1 + 1), .inl v2] σ (PI (fun x1 σ1 => Con l mX5_timesFrom [.inr v0, .inl v1, .inl (v2 + 1)] σ1 (PI (fun x3 σ3 => Con l mJ9_min_7cf53 [.inl x1, .inl x3] σ3 (PI (fun x4 σ4 => Con l mX5_timesFrom [.inr v0, .inl (v1 + 1), .inl (v2 + 1)] σ4 (PI (fun x5 σ5 => Con l mJ9_min_7cf53 [.inl x5, .inl x4] σ5 (PI (fun x6 σ6 => K x6 σ6))))))))))) : Con l mX5_leastAfter [.inr v0, .inl v1, .inl v2] σ (PI K) := by
  refine con_gw rfl (Nat.le_of_ble_eq_true rfl) ?_
  show GW l mX5_leastAfter 0 [(0, .inr v0), (1, .inl v1), (2, .inl v2)] [] σ 0 0 (PI K)
  refine gw_aload_n (q := 0) dX5_leastAfter_0 rfl rfl ?_
  refine gw_iload_n (q := 1) dX5_leastAfter_1 rfl rfl ?_
  refine gw_iconst (v := 1) dX5_leastAfter_2 ic_1 ?_
  refine gw_iadd dX5_leastAfter_3 ?_
  refine gw_iload_n (q := 2) dX5_leastAfter_4 rfl rfl ?_
  obtain ⟨g2, h⟩ := h
  refine gw_vC (bs := [.inl (v1 + 1), .inl v2]) (st := []) (vmX5_timesFrom) lX5_67 dX5_leastAfter_5 ⟨by decide, rfl, rfl, by decide, by decide⟩ (Nat.le_of_ble_eq_true rfl) rfl rfl g2 h (kI (fun x1 σ1 h n1 => ?_))
  refine gw_aload_n (q := 0) dX5_leastAfter_8 rfl rfl ?_
  refine gw_iload_n (q := 1) dX5_leastAfter_9 rfl rfl ?_
  refine gw_iload_n (q := 2) dX5_leastAfter_10 rfl rfl ?_
  refine gw_iconst (v := 1) dX5_leastAfter_11 ic_1 ?_
  refine gw_iadd dX5_leastAfter_12 ?_
  refine gw_vC (bs := [.inl v1, .inl (v2 + 1)]) (st := [.inl x1]) (vmX5_timesFrom) lX5_67 dX5_leastAfter_13 ⟨by decide, rfl, rfl, by decide, by decide⟩ (Nat.le_of_ble_eq_true rfl) rfl rfl (g2.up n1) h (kI (fun x3 σ3 h n3 => ?_))
  refine gw_sC (bs := [.inl x1, .inl x3]) (st := []) smJ9_min_7cf53 lX5_44 dX5_leastAfter_16 ⟨by decide, rfl, rfl, by decide, by decide⟩ (Nat.le_of_ble_eq_true rfl) rfl rfl h (kI (fun x4 σ4 h n4 => ?_))
  refine gw_istore_n (lo' := [(0, .inr v0), (1, .inl v1), (2, .inl v2), (3, .inl x4)]) dX5_leastAfter_19 rfl (by decide) rfl ?_
  refine gw_aload_n (q := 0) dX5_leastAfter_20 rfl rfl ?_
  refine gw_iload_n (q := 1) dX5_leastAfter_21 rfl rfl ?_
  refine gw_iconst (v := 1) dX5_leastAfter_22 ic_1 ?_
  refine gw_iadd dX5_leastAfter_23 ?_
  refine gw_iload_n (q := 2) dX5_leastAfter_24 rfl rfl ?_
  refine gw_iconst (v := 1) dX5_leastAfter_25 ic_1 ?_
  refine gw_iadd dX5_leastAfter_26 ?_
  refine gw_vC (bs := [.inl (v1 + 1), .inl (v2 + 1)]) (st := []) (vmX5_timesFrom) lX5_67 dX5_leastAfter_27 ⟨by decide, rfl, rfl, by decide, by decide⟩ (Nat.le_of_ble_eq_true rfl) rfl rfl (((g2.up n1).up n3).up n4) h (kI (fun x5 σ5 h n5 => ?_))
  refine gw_iload_n (q := 3) dX5_leastAfter_30 rfl rfl ?_
  refine gw_sC (bs := [.inl x5, .inl x4]) (st := []) smJ9_min_7cf53 lX5_44 dX5_leastAfter_31 ⟨by decide, rfl, rfl, by decide, by decide⟩ (Nat.le_of_ble_eq_true rfl) rfl rfl h (kI (fun x6 σ6 h n6 => ?_))
  exact gw_rI dX5_leastAfter_34 rfl (by decide) (by decide) h
set_option maxHeartbeats 4000000 in
set_option maxRecDepth 20000 in
theorem gX5_timesFrom_29 {l : Launch} {v0 : Nat} {v1 : Int32} {v2 : Int32} {t0 : Int32} {σ : Sg} {K : Int32 → Sg → Prop} (h : ((t0 = 0 → K 1000000 σ) ∧ (¬ t0 = 0 → ((((v1 * 40) + v2) < 0 → K 1000000 σ) ∧ (¬ ((v1 * 40) + v2) < 0 → Ob σ v0 5 ∧ Al σ (σ.2.2 v0 2) ∧ (((Int32.ofNat (shp (σ.2.2 v0 2)).2) ≤ ((v1 * 40) + v2) → K 1000000 σ) ∧ (¬ (Int32.ofNat (shp (σ.2.2 v0 2)).2) ≤ ((v1 * 40) + v2) → Ai σ (σ.2.2 v0 2) ((v1 * 40) + v2) ∧ K (σ.2.1 (σ.2.2 v0 2) ((v1 * 40) + v2).toNatClampNeg) σ))))))) : GW l mX5_timesFrom 29 [(0, .inr v0), (1, .inl v1), (2, .inl v2)] [.inl t0] σ 0 0 (PI K) := by
  refine gw_istore_n (lo' := [(0, .inr v0), (1, .inl v1), (2, .inl v2), (3, .inl t0)]) dX5_timesFrom_29 rfl (by decide) rfl ?_
  refine gw_iload_n (q := 1) dX5_timesFrom_30 rfl rfl ?_
  refine gw_bipush (v := 40) dX5_timesFrom_31 bp_40 ?_
  refine gw_imul dX5_timesFrom_33 ?_
  refine gw_iload_n (q := 2) dX5_timesFrom_34 rfl rfl ?_
  refine gw_iadd dX5_timesFrom_35 ?_
  refine gw_istore (lo' := [(0, .inr v0), (1, .inl v1), (2, .inl v2), (3, .inl t0), (4, .inl ((v1 * 40) + v2))]) dX5_timesFrom_36 (by decide) rfl ?_
  refine gw_iload_n (q := 3) dX5_timesFrom_38 rfl rfl ?_
  refine gw_if_eq (tgt := 67) dX5_timesFrom_39 (by decide) (fun c1 => ?_) (fun c1 => ?_)
  · replace h := h.1 c1
    refine gw_ldc (v := 1000000) kX5_70 dX5_timesFrom_67 ?_
    exact gw_rI dX5_timesFrom_69 rfl (by decide) (by decide) h
  · replace h := h.2 c1
    refine gw_iload (q := 4) dX5_timesFrom_42 rfl ?_
    refine gw_if_lt (tgt := 67) dX5_timesFrom_44 (by decide) (fun c2 => ?_) (fun c2 => ?_)
    · replace h := h.1 c2
      refine gw_ldc (v := 1000000) kX5_70 dX5_timesFrom_67 ?_
      exact gw_rI dX5_timesFrom_69 rfl (by decide) (by decide) h
    · replace h := h.2 c2
      refine gw_iload (q := 4) dX5_timesFrom_47 rfl ?_
      refine gw_aload_n (q := 0) dX5_timesFrom_49 rfl rfl ?_
      obtain ⟨g3, h⟩ := h
      refine gw_gR fX5_18 dX5_timesFrom_50 g3 ?_
      obtain ⟨g4, h⟩ := h
      refine gw_aL dX5_timesFrom_53 g4 ?_
      refine gw_icmp_ge (tgt := 67) dX5_timesFrom_54 (by decide) (fun c5 => ?_) (fun c5 => ?_)
      · replace h := h.1 c5
        refine gw_ldc (v := 1000000) kX5_70 dX5_timesFrom_67 ?_
        exact gw_rI dX5_timesFrom_69 rfl (by decide) (by decide) h
      · replace h := h.2 c5
        refine gw_aload_n (q := 0) dX5_timesFrom_57 rfl rfl ?_
        refine gw_gR fX5_18 dX5_timesFrom_58 g3 ?_
        refine gw_iload (q := 4) dX5_timesFrom_61 rfl ?_
        obtain ⟨g6, h⟩ := h
        refine gw_aI dX5_timesFrom_63 g6 ?_
        refine gw_goto (tgt := 69) dX5_timesFrom_64 (by decide) ?_
        exact gw_rI dX5_timesFrom_69 rfl (by decide) (by decide) h
set_option maxHeartbeats 4000000 in
set_option maxRecDepth 20000 in
theorem eX5_timesFrom {l : Launch} {v0 : Nat} {v1 : Int32} {v2 : Int32} {σ : Sg} {K : Int32 → Sg → Prop} (h : Ob σ v0 5 ∧ Con l mX11_within [.inl v1, .inl 0, .inl (σ.2.1 v0 6)] σ (PI (fun x2 σ2 => ((x2 = 0 → GW l mX5_timesFrom 29 [(0, .inr v0), (1, .inl v1), (2, .inl v2)] [.inl 0] σ2 0 0 (PI K)) ∧ (¬ x2 = 0 → Con l mX11_within [.inl v2, .inl 0, .inl (σ2.2.1 v0 7)] σ2 (PI (fun x4 σ4 => ((x4 = 0 → GW l mX5_timesFrom 29 [(0, .inr v0), (1, .inl v1), (2, .inl v2)] [.inl 0] σ4 0 0 (PI K)) ∧ (¬ x4 = 0 → GW l mX5_timesFrom 29 [(0, .inr v0), (1, .inl v1), (2, .inl v2)] [.inl 1] σ4 0 0 (PI K)))))))))) : Con l mX5_timesFrom [.inr v0, .inl v1, .inl v2] σ (PI K) := by
  refine con_gw rfl (Nat.le_of_ble_eq_true rfl) ?_
  show GW l mX5_timesFrom 0 [(0, .inr v0), (1, .inl v1), (2, .inl v2)] [] σ 0 0 (PI K)
  refine gw_iload_n (q := 1) dX5_timesFrom_0 rfl rfl ?_
  refine gw_iconst (v := 0) dX5_timesFrom_1 ic_0 ?_
  refine gw_aload_n (q := 0) dX5_timesFrom_2 rfl rfl ?_
  obtain ⟨g1, h⟩ := h
  refine gw_gI fX5_50 dX5_timesFrom_3 g1 ?_
  refine gw_sC (bs := [.inl v1, .inl 0, .inl (σ.2.1 v0 6)]) (st := []) smX11_within lX5_82 dX5_timesFrom_6 ⟨by decide, rfl, rfl, by decide, by decide⟩ (Nat.le_of_ble_eq_true rfl) rfl rfl h (kI (fun x2 σ2 h n2 => ?_))
  refine gw_if_eq (tgt := 28) dX5_timesFrom_9 (by decide) (fun c3 => ?_) (fun c3 => ?_)
  · replace h := h.1 c3
    refine gw_iconst (v := 0) dX5_timesFrom_28 ic_0 ?_
    exact h
  · replace h := h.2 c3
    refine gw_iload_n (q := 2) dX5_timesFrom_12 rfl rfl ?_
    refine gw_iconst (v := 0) dX5_timesFrom_13 ic_0 ?_
    refine gw_aload_n (q := 0) dX5_timesFrom_14 rfl rfl ?_
    refine gw_gI fX5_53 dX5_timesFrom_15 (g1.up n2) ?_
    refine gw_sC (bs := [.inl v2, .inl 0, .inl (σ2.2.1 v0 7)]) (st := []) smX11_within lX5_82 dX5_timesFrom_18 ⟨by decide, rfl, rfl, by decide, by decide⟩ (Nat.le_of_ble_eq_true rfl) rfl rfl h (kI (fun x4 σ4 h n4 => ?_))
    refine gw_if_eq (tgt := 28) dX5_timesFrom_21 (by decide) (fun c5 => ?_) (fun c5 => ?_)
    · replace h := h.1 c5
      refine gw_iconst (v := 0) dX5_timesFrom_28 ic_0 ?_
      exact h
    · replace h := h.2 c5
      refine gw_iconst (v := 1) dX5_timesFrom_24 ic_1 ?_
      refine gw_goto (tgt := 29) dX5_timesFrom_25 (by decide) ?_
      exact h
set_option maxHeartbeats 4000000 in
set_option maxRecDepth 20000 in
theorem gX5_touch_19 {l : Launch} {v0 : Nat} {v1 : Int32} {v2 : Int32} {v3 : Int32} {v4 : Int32} {σ : Sg} {K : Int32 → Sg → Prop} (h : Ob σ v0 5 ∧ (((σ.2.1 v0 5) ≤ v4 → GW l mX5_touch 2 [(0, .inr v0), (1, .inl v1), (2, .inl v2), (3, .inl (v3 + 1))] [] σ 0 0 (PI K)) ∧ (¬ (σ.2.1 v0 5) ≤ v4 → ((6 ≤ v4 → GW l mX5_touch 2 [(0, .inr v0), (1, .inl v1), (2, .inl v2), (3, .inl (v3 + 1))] [] σ 0 0 (PI K)) ∧ (¬ 6 ≤ v4 → Ai σ (σ.2.2 v0 0) ((v1 * 6) + v3) ∧ Ai σ (σ.2.2 v0 1) ((v2 * 6) + v4) ∧ ((¬ (σ.2.1 (σ.2.2 v0 0) ((v1 * 6) + v3).toNatClampNeg) = (σ.2.1 (σ.2.2 v0 1) ((v2 * 6) + v4).toNatClampNeg) → GW l mX5_touch 19 [(0, .inr v0), (1, .inl v1), (2, .inl v2), (3, .inl v3), (4, .inl (v4 + 1))] [] σ 0 0 (PI K)) ∧ ((σ.2.1 (σ.2.2 v0 0) ((v1 * 6) + v3).toNatClampNeg) = (σ.2.1 (σ.2.2 v0 1) ((v2 * 6) + v4).toNatClampNeg) → K 1 σ))))))) : GW l mX5_touch 19 [(0, .inr v0), (1, .inl v1), (2, .inl v2), (3, .inl v3), (4, .inl v4)] [] σ 0 0 (PI K) := by
  refine gw_iload (q := 4) dX5_touch_19 rfl ?_
  refine gw_aload_n (q := 0) dX5_touch_21 rfl rfl ?_
  obtain ⟨g1, h⟩ := h
  refine gw_gI fX5_36 dX5_touch_22 g1 ?_
  refine gw_icmp_ge (tgt := 69) dX5_touch_25 (by decide) (fun c2 => ?_) (fun c2 => ?_)
  · replace h := h.1 c2
    refine gw_inc (lo' := [(0, .inr v0), (1, .inl v1), (2, .inl v2), (3, .inl (v3 + 1)), (4, .inl v4)]) (q := 3) (c := 1) dX5_touch_69 ic_1 rfl (by decide) rfl ?_
    refine gw_goto (tgt := 2) dX5_touch_72 (by decide) ?_
    refine gw_pick [0, 1, 2, 3] rfl ?_
    exact h
  · replace h := h.2 c2
    refine gw_iload (q := 4) dX5_touch_28 rfl ?_
    refine gw_bipush (v := 6) dX5_touch_30 bp_6 ?_
    refine gw_icmp_ge (tgt := 69) dX5_touch_32 (by decide) (fun c3 => ?_) (fun c3 => ?_)
    · replace h := h.1 c3
      refine gw_inc (lo' := [(0, .inr v0), (1, .inl v1), (2, .inl v2), (3, .inl (v3 + 1)), (4, .inl v4)]) (q := 3) (c := 1) dX5_touch_69 ic_1 rfl (by decide) rfl ?_
      refine gw_goto (tgt := 2) dX5_touch_72 (by decide) ?_
      refine gw_pick [0, 1, 2, 3] rfl ?_
      exact h
    · replace h := h.2 c3
      refine gw_aload_n (q := 0) dX5_touch_35 rfl rfl ?_
      refine gw_gR fX5_11 dX5_touch_36 g1 ?_
      refine gw_iload_n (q := 1) dX5_touch_39 rfl rfl ?_
      refine gw_bipush (v := 6) dX5_touch_40 bp_6 ?_
      refine gw_imul dX5_touch_42 ?_
      refine gw_iload_n (q := 3) dX5_touch_43 rfl rfl ?_
      refine gw_iadd dX5_touch_44 ?_
      obtain ⟨g4, h⟩ := h
      refine gw_aI dX5_touch_45 g4 ?_
      refine gw_aload_n (q := 0) dX5_touch_46 rfl rfl ?_
      refine gw_gR fX5_15 dX5_touch_47 g1 ?_
      refine gw_iload_n (q := 2) dX5_touch_50 rfl rfl ?_
      refine gw_bipush (v := 6) dX5_touch_51 bp_6 ?_
      refine gw_imul dX5_touch_53 ?_
      refine gw_iload (q := 4) dX5_touch_54 rfl ?_
      refine gw_iadd dX5_touch_56 ?_
      obtain ⟨g5, h⟩ := h
      refine gw_aI dX5_touch_57 g5 ?_
      refine gw_icmp_ne (tgt := 63) dX5_touch_58 (by decide) (fun c6 => ?_) (fun c6 => ?_)
      · replace h := h.1 c6
        refine gw_inc (lo' := [(0, .inr v0), (1, .inl v1), (2, .inl v2), (3, .inl v3), (4, .inl (v4 + 1))]) (q := 4) (c := 1) dX5_touch_63 ic_1 rfl (by decide) rfl ?_
        refine gw_goto (tgt := 19) dX5_touch_66 (by decide) ?_
        exact h
      · replace h := h.2 c6
        refine gw_iconst (v := 1) dX5_touch_61 ic_1 ?_
        exact gw_rZ dX5_touch_62 rfl (by decide) (by decide) (by decide) h
set_option maxHeartbeats 4000000 in
set_option maxRecDepth 20000 in
theorem gX5_touch_2 {l : Launch} {v0 : Nat} {v1 : Int32} {v2 : Int32} {v3 : Int32} {σ : Sg} {K : Int32 → Sg → Prop} (h : Ob σ v0 5 ∧ (((σ.2.1 v0 4) ≤ v3 → K 0 σ) ∧ (¬ (σ.2.1 v0 4) ≤ v3 → ((6 ≤ v3 → K 0 σ) ∧ (¬ 6 ≤ v3 → GW l mX5_touch 19 [(0, .inr v0), (1, .inl v1), (2, .inl v2), (3, .inl v3), (4, .inl 0)] [] σ 0 0 (PI K)))))) : GW l mX5_touch 2 [(0, .inr v0), (1, .inl v1), (2, .inl v2), (3, .inl v3)] [] σ 0 0 (PI K) := by
  refine gw_iload_n (q := 3) dX5_touch_2 rfl rfl ?_
  refine gw_aload_n (q := 0) dX5_touch_3 rfl rfl ?_
  obtain ⟨g1, h⟩ := h
  refine gw_gI fX5_33 dX5_touch_4 g1 ?_
  refine gw_icmp_ge (tgt := 75) dX5_touch_7 (by decide) (fun c2 => ?_) (fun c2 => ?_)
  · replace h := h.1 c2
    refine gw_iconst (v := 0) dX5_touch_75 ic_0 ?_
    exact gw_rZ dX5_touch_76 rfl (by decide) (by decide) (by decide) h
  · replace h := h.2 c2
    refine gw_iload_n (q := 3) dX5_touch_10 rfl rfl ?_
    refine gw_bipush (v := 6) dX5_touch_11 bp_6 ?_
    refine gw_icmp_ge (tgt := 75) dX5_touch_13 (by decide) (fun c3 => ?_) (fun c3 => ?_)
    · replace h := h.1 c3
      refine gw_iconst (v := 0) dX5_touch_75 ic_0 ?_
      exact gw_rZ dX5_touch_76 rfl (by decide) (by decide) (by decide) h
    · replace h := h.2 c3
      refine gw_iconst (v := 0) dX5_touch_16 ic_0 ?_
      refine gw_istore (lo' := [(0, .inr v0), (1, .inl v1), (2, .inl v2), (3, .inl v3), (4, .inl 0)]) dX5_touch_17 (by decide) rfl ?_
      exact h
set_option maxHeartbeats 4000000 in
set_option maxRecDepth 20000 in
theorem eX5_touch {l : Launch} {v0 : Nat} {v1 : Int32} {v2 : Int32} {σ : Sg} {K : Int32 → Sg → Prop} (h : GW l mX5_touch 2 [(0, .inr v0), (1, .inl v1), (2, .inl v2), (3, .inl 0)] [] σ 0 0 (PI K)) : Con l mX5_touch [.inr v0, .inl v1, .inl v2] σ (PI K) := by
  refine con_gw rfl (Nat.le_of_ble_eq_true rfl) ?_
  show GW l mX5_touch 0 [(0, .inr v0), (1, .inl v1), (2, .inl v2)] [] σ 0 0 (PI K)
  refine gw_iconst (v := 0) dX5_touch_0 ic_0 ?_
  refine gw_istore_n (lo' := [(0, .inr v0), (1, .inl v1), (2, .inl v2), (3, .inl 0)]) dX5_touch_1 rfl (by decide) rfl ?_
  exact h
set_option maxHeartbeats 4000000 in
set_option maxRecDepth 20000 in
theorem gX5_trace_112 {l : Launch} {v0 : Nat} {v1 : Int32} {v2 : Int32} {v3 : Int32} {v4 : Int32} {v5 : Int32} {v6 : Int32} {v7 : Int32} {t0 : Int32} {t1 : Int32} {σ : Sg} {K : Sg → Prop} (h : ((¬ v6 = 0 → GW l mX5_trace 12 [(0, .inr v0), (1, .inl v1), (2, .inl (t0 + t1)), (3, .inl (v3 + 1)), (4, .inl (v4 + 1))] [] σ 0 0 (PV K)) ∧ (v6 = 0 → ((¬ v7 = 0 → GW l mX5_trace 12 [(0, .inr v0), (1, .inl v1), (2, .inl (t0 + t1)), (3, .inl (v3 + 0)), (4, .inl (v4 + 1))] [] σ 0 0 (PV K)) ∧ (v7 = 0 → GW l mX5_trace 12 [(0, .inr v0), (1, .inl v1), (2, .inl (t0 + t1)), (3, .inl (v3 + 1)), (4, .inl (v4 + 1))] [] σ 0 0 (PV K)))))) : GW l mX5_trace 112 [(0, .inr v0), (1, .inl v1), (2, .inl v2), (3, .inl v3), (4, .inl v4), (5, .inl v5), (6, .inl v6), (7, .inl v7)] [.inl t1, .inl t0] σ 0 0 (PV K) := by
  refine gw_iadd dX5_trace_112 ?_
  refine gw_istore_n (lo' := [(0, .inr v0), (1, .inl v1), (2, .inl (t0 + t1)), (3, .inl v3), (4, .inl v4), (5, .inl v5), (6, .inl v6), (7, .inl v7)]) dX5_trace_113 rfl (by decide) rfl ?_
  refine gw_iload_n (q := 3) dX5_trace_114 rfl rfl ?_
  refine gw_iload (q := 6) dX5_trace_115 rfl ?_
  refine gw_if_ne (tgt := 125) dX5_trace_117 (by decide) (fun c1 => ?_) (fun c1 => ?_)
  · replace h := h.1 c1
    refine gw_iconst (v := 1) dX5_trace_125 ic_1 ?_
    refine gw_goto (tgt := 130) dX5_trace_126 (by decide) ?_
    refine gw_iadd dX5_trace_130 ?_
    refine gw_istore_n (lo' := [(0, .inr v0), (1, .inl v1), (2, .inl (t0 + t1)), (3, .inl (v3 + 1)), (4, .inl v4), (5, .inl v5), (6, .inl v6), (7, .inl v7)]) dX5_trace_131 rfl (by decide) rfl ?_
    refine gw_inc (lo' := [(0, .inr v0), (1, .inl v1), (2, .inl (t0 + t1)), (3, .inl (v3 + 1)), (4, .inl (v4 + 1)), (5, .inl v5), (6, .inl v6), (7, .inl v7)]) (q := 4) (c := 1) dX5_trace_132 ic_1 rfl (by decide) rfl ?_
    refine gw_goto (tgt := 12) dX5_trace_135 (by decide) ?_
    refine gw_pick [0, 1, 2, 3, 4] rfl ?_
    exact h
  · replace h := h.2 c1
    refine gw_iload (q := 7) dX5_trace_120 rfl ?_
    refine gw_if_ne (tgt := 129) dX5_trace_122 (by decide) (fun c2 => ?_) (fun c2 => ?_)
    · replace h := h.1 c2
      refine gw_iconst (v := 0) dX5_trace_129 ic_0 ?_
      refine gw_iadd dX5_trace_130 ?_
      refine gw_istore_n (lo' := [(0, .inr v0), (1, .inl v1), (2, .inl (t0 + t1)), (3, .inl (v3 + 0)), (4, .inl v4), (5, .inl v5), (6, .inl v6), (7, .inl v7)]) dX5_trace_131 rfl (by decide) rfl ?_
      refine gw_inc (lo' := [(0, .inr v0), (1, .inl v1), (2, .inl (t0 + t1)), (3, .inl (v3 + 0)), (4, .inl (v4 + 1)), (5, .inl v5), (6, .inl v6), (7, .inl v7)]) (q := 4) (c := 1) dX5_trace_132 ic_1 rfl (by decide) rfl ?_
      refine gw_goto (tgt := 12) dX5_trace_135 (by decide) ?_
      refine gw_pick [0, 1, 2, 3, 4] rfl ?_
      exact h
    · replace h := h.2 c2
      refine gw_iconst (v := 1) dX5_trace_125 ic_1 ?_
      refine gw_goto (tgt := 130) dX5_trace_126 (by decide) ?_
      refine gw_iadd dX5_trace_130 ?_
      refine gw_istore_n (lo' := [(0, .inr v0), (1, .inl v1), (2, .inl (t0 + t1)), (3, .inl (v3 + 1)), (4, .inl v4), (5, .inl v5), (6, .inl v6), (7, .inl v7)]) dX5_trace_131 rfl (by decide) rfl ?_
      refine gw_inc (lo' := [(0, .inr v0), (1, .inl v1), (2, .inl (t0 + t1)), (3, .inl (v3 + 1)), (4, .inl (v4 + 1)), (5, .inl v5), (6, .inl v6), (7, .inl v7)]) (q := 4) (c := 1) dX5_trace_132 ic_1 rfl (by decide) rfl ?_
      refine gw_goto (tgt := 12) dX5_trace_135 (by decide) ?_
      refine gw_pick [0, 1, 2, 3, 4] rfl ?_
      exact h
set_option maxHeartbeats 4000000 in
set_option maxRecDepth 20000 in
theorem gX5_trace_74 {l : Launch} {v0 : Nat} {v1 : Int32} {v2 : Int32} {v3 : Int32} {v4 : Int32} {v5 : Int32} {t0 : Int32} {σ : Sg} {K : Sg → Prop} (h : ((¬ t0 = 0 → GW l mX5_trace 112 [(0, .inr v0), (1, .inl v1), (2, .inl v2), (3, .inl v3), (4, .inl v4), (5, .inl v5), (6, .inl t0), (7, .inl 1)] [.inl 1, .inl v2] σ 0 0 (PV K)) ∧ (t0 = 0 → Ob σ v0 5 ∧ Con l mX5_timesFrom [.inr v0, .inl (v2 + 1), .inl v3] σ (PI (fun x3 σ3 => ((¬ x3 = v5 → GW l mX5_trace 112 [(0, .inr v0), (1, .inl v1), (2, .inl v2), (3, .inl v3), (4, .inl v4), (5, .inl v5), (6, .inl t0), (7, .inl 0)] [.inl 0, .inl v2] σ3 0 0 (PV K)) ∧ (x3 = v5 → GW l mX5_trace 112 [(0, .inr v0), (1, .inl v1), (2, .inl v2), (3, .inl v3), (4, .inl v4), (5, .inl v5), (6, .inl t0), (7, .inl 1)] [.inl 1, .inl v2] σ3 0 0 (PV K)))))))) : GW l mX5_trace 74 [(0, .inr v0), (1, .inl v1), (2, .inl v2), (3, .inl v3), (4, .inl v4), (5, .inl v5)] [.inl t0] σ 0 0 (PV K) := by
  refine gw_istore (lo' := [(0, .inr v0), (1, .inl v1), (2, .inl v2), (3, .inl v3), (4, .inl v4), (5, .inl v5), (6, .inl t0)]) dX5_trace_74 (by decide) rfl ?_
  refine gw_iload (q := 6) dX5_trace_76 rfl ?_
  refine gw_if_ne (tgt := 94) dX5_trace_78 (by decide) (fun c1 => ?_) (fun c1 => ?_)
  · replace h := h.1 c1
    refine gw_iconst (v := 1) dX5_trace_94 ic_1 ?_
    refine gw_goto (tgt := 99) dX5_trace_95 (by decide) ?_
    refine gw_istore (lo' := [(0, .inr v0), (1, .inl v1), (2, .inl v2), (3, .inl v3), (4, .inl v4), (5, .inl v5), (6, .inl t0), (7, .inl 1)]) dX5_trace_99 (by decide) rfl ?_
    refine gw_iload_n (q := 2) dX5_trace_101 rfl rfl ?_
    refine gw_iload (q := 7) dX5_trace_102 rfl ?_
    refine gw_if_eq (tgt := 111) dX5_trace_104 (by decide) (fun c => absurd c (by decide)) (fun _ => ?_)
    refine gw_iconst (v := 1) dX5_trace_107 ic_1 ?_
    refine gw_goto (tgt := 112) dX5_trace_108 (by decide) ?_
    exact h
  · replace h := h.2 c1
    refine gw_aload_n (q := 0) dX5_trace_81 rfl rfl ?_
    refine gw_iload_n (q := 2) dX5_trace_82 rfl rfl ?_
    refine gw_iconst (v := 1) dX5_trace_83 ic_1 ?_
    refine gw_iadd dX5_trace_84 ?_
    refine gw_iload_n (q := 3) dX5_trace_85 rfl rfl ?_
    obtain ⟨g4, h⟩ := h
    refine gw_vC (bs := [.inl (v2 + 1), .inl v3]) (st := []) (vmX5_timesFrom) lX5_67 dX5_trace_86 ⟨by decide, rfl, rfl, by decide, by decide⟩ (Nat.le_of_ble_eq_true rfl) rfl rfl g4 h (kI (fun x3 σ3 h n3 => ?_))
    refine gw_iload (q := 5) dX5_trace_89 rfl ?_
    refine gw_icmp_ne (tgt := 98) dX5_trace_91 (by decide) (fun c5 => ?_) (fun c5 => ?_)
    · replace h := h.1 c5
      refine gw_iconst (v := 0) dX5_trace_98 ic_0 ?_
      refine gw_istore (lo' := [(0, .inr v0), (1, .inl v1), (2, .inl v2), (3, .inl v3), (4, .inl v4), (5, .inl v5), (6, .inl t0), (7, .inl 0)]) dX5_trace_99 (by decide) rfl ?_
      refine gw_iload_n (q := 2) dX5_trace_101 rfl rfl ?_
      refine gw_iload (q := 7) dX5_trace_102 rfl ?_
      refine gw_if_eq (tgt := 111) dX5_trace_104 (by decide) (fun _ => ?_) (fun c => absurd c (by decide))
      refine gw_iconst (v := 0) dX5_trace_111 ic_0 ?_
      exact h
    · replace h := h.2 c5
      refine gw_iconst (v := 1) dX5_trace_94 ic_1 ?_
      refine gw_goto (tgt := 99) dX5_trace_95 (by decide) ?_
      refine gw_istore (lo' := [(0, .inr v0), (1, .inl v1), (2, .inl v2), (3, .inl v3), (4, .inl v4), (5, .inl v5), (6, .inl t0), (7, .inl 1)]) dX5_trace_99 (by decide) rfl ?_
      refine gw_iload_n (q := 2) dX5_trace_101 rfl rfl ?_
      refine gw_iload (q := 7) dX5_trace_102 rfl ?_
      refine gw_if_eq (tgt := 111) dX5_trace_104 (by decide) (fun c => absurd c (by decide)) (fun _ => ?_)
      refine gw_iconst (v := 1) dX5_trace_107 ic_1 ?_
      refine gw_goto (tgt := 112) dX5_trace_108 (by decide) ?_
      exact h
set_option maxHeartbeats 4000000 in
set_option maxRecDepth 20000 in
theorem gX5_trace_12 {l : Launch} {v0 : Nat} {v1 : Int32} {v2 : Int32} {v3 : Int32} {v4 : Int32} {σ : Sg} {K : Sg → Prop} (h : ((v1 < v4 → K σ) ∧ (¬ v1 < v4 → ((80 ≤ v4 → K σ) ∧ (¬ 80 ≤ v4 → Ob σ v0 5 ∧ Ai σ (σ.2.2 v0 3) v4 ∧ ∀ σ5, σ5 = w1 σ (σ.2.2 v0 3) v4.toNatClampNeg (v2 + (64 * v3)) → ∀ σ6, σ6 = w1 σ5 v0 8 (v4 + 1) → Con l mX5_timesFrom [.inr v0, .inl (v2 + 1), .inl (v3 + 1)] σ6 (PI (fun x7 σ7 => ((¬ x7 = ((v1 - v4) - 1) → GW l mX5_trace 74 [(0, .inr v0), (1, .inl v1), (2, .inl v2), (3, .inl v3), (4, .inl v4), (5, .inl ((v1 - v4) - 1))] [.inl 0] σ7 0 0 (PV K)) ∧ (x7 = ((v1 - v4) - 1) → GW l mX5_trace 74 [(0, .inr v0), (1, .inl v1), (2, .inl v2), (3, .inl v3), (4, .inl v4), (5, .inl ((v1 - v4) - 1))] [.inl 1] σ7 0 0 (PV K)))))))))) : GW l mX5_trace 12 [(0, .inr v0), (1, .inl v1), (2, .inl v2), (3, .inl v3), (4, .inl v4)] [] σ 0 0 (PV K) := by
  refine gw_iload (q := 4) dX5_trace_12 rfl ?_
  refine gw_iload_n (q := 1) dX5_trace_14 rfl rfl ?_
  refine gw_icmp_gt (tgt := 138) dX5_trace_15 (by decide) (fun c1 => ?_) (fun c1 => ?_)
  · replace h := h.1 c1
    exact gw_rV dX5_trace_138 rfl (by decide) (by decide) h
  · replace h := h.2 c1
    refine gw_iload (q := 4) dX5_trace_18 rfl ?_
    refine gw_bipush (v := 80) dX5_trace_20 bp_80 ?_
    refine gw_icmp_ge (tgt := 138) dX5_trace_22 (by decide) (fun c2 => ?_) (fun c2 => ?_)
    · replace h := h.1 c2
      exact gw_rV dX5_trace_138 rfl (by decide) (by decide) h
    · replace h := h.2 c2
      refine gw_aload_n (q := 0) dX5_trace_25 rfl rfl ?_
      obtain ⟨g3, h⟩ := h
      refine gw_gR fX5_21 dX5_trace_26 g3 ?_
      refine gw_iload (q := 4) dX5_trace_29 rfl ?_
      refine gw_iload_n (q := 2) dX5_trace_31 rfl rfl ?_
      refine gw_bipush (v := 64) dX5_trace_32 bp_64 ?_
      refine gw_iload_n (q := 3) dX5_trace_34 rfl rfl ?_
      refine gw_imul dX5_trace_35 ?_
      refine gw_iadd dX5_trace_36 ?_
      obtain ⟨g4, h⟩ := h
      refine gw_sI dX5_trace_37 g4 (fun σ5 e5 => ?_)
      replace h := h σ5 e5
      refine gw_aload_n (q := 0) dX5_trace_38 rfl rfl ?_
      refine gw_iload (q := 4) dX5_trace_39 rfl ?_
      refine gw_iconst (v := 1) dX5_trace_41 ic_1 ?_
      refine gw_iadd dX5_trace_42 ?_
      refine gw_pI fX5_24 dX5_trace_43 (g3.up (n_w1 e5)) (fun σ6 e6 => ?_)
      replace h := h σ6 e6
      refine gw_iload_n (q := 1) dX5_trace_46 rfl rfl ?_
      refine gw_iload (q := 4) dX5_trace_47 rfl ?_
      refine gw_isub dX5_trace_49 ?_
      refine gw_iconst (v := 1) dX5_trace_50 ic_1 ?_
      refine gw_isub dX5_trace_51 ?_
      refine gw_istore (lo' := [(0, .inr v0), (1, .inl v1), (2, .inl v2), (3, .inl v3), (4, .inl v4), (5, .inl ((v1 - v4) - 1))]) dX5_trace_52 (by decide) rfl ?_
      refine gw_aload_n (q := 0) dX5_trace_54 rfl rfl ?_
      refine gw_iload_n (q := 2) dX5_trace_55 rfl rfl ?_
      refine gw_iconst (v := 1) dX5_trace_56 ic_1 ?_
      refine gw_iadd dX5_trace_57 ?_
      refine gw_iload_n (q := 3) dX5_trace_58 rfl rfl ?_
      refine gw_iconst (v := 1) dX5_trace_59 ic_1 ?_
      refine gw_iadd dX5_trace_60 ?_
      refine gw_vC (bs := [.inl (v2 + 1), .inl (v3 + 1)]) (st := []) (vmX5_timesFrom) lX5_67 dX5_trace_61 ⟨by decide, rfl, rfl, by decide, by decide⟩ (Nat.le_of_ble_eq_true rfl) rfl rfl ((g3.up (n_w1 e5)).up (n_w1 e6)) h (kI (fun x7 σ7 h n7 => ?_))
      refine gw_iload (q := 5) dX5_trace_64 rfl ?_
      refine gw_icmp_ne (tgt := 73) dX5_trace_66 (by decide) (fun c8 => ?_) (fun c8 => ?_)
      · replace h := h.1 c8
        refine gw_iconst (v := 0) dX5_trace_73 ic_0 ?_
        exact h
      · replace h := h.2 c8
        refine gw_iconst (v := 1) dX5_trace_69 ic_1 ?_
        refine gw_goto (tgt := 74) dX5_trace_70 (by decide) ?_
        exact h
set_option maxHeartbeats 4000000 in
set_option maxRecDepth 20000 in
theorem eX5_trace {l : Launch} {v0 : Nat} {v1 : Int32} {σ : Sg} {K : Sg → Prop} (h : Ob σ v0 5 ∧ ∀ σ2, σ2 = w1 σ v0 8 0 → GW l mX5_trace 12 [(0, .inr v0), (1, .inl v1), (2, .inl 0), (3, .inl 0), (4, .inl 0)] [] σ2 0 0 (PV K)) : Con l mX5_trace [.inr v0, .inl v1] σ (PV K) := by
  refine con_gw rfl (Nat.le_of_ble_eq_true rfl) ?_
  show GW l mX5_trace 0 [(0, .inr v0), (1, .inl v1)] [] σ 0 0 (PV K)
  refine gw_iconst (v := 0) dX5_trace_0 ic_0 ?_
  refine gw_istore_n (lo' := [(0, .inr v0), (1, .inl v1), (2, .inl 0)]) dX5_trace_1 rfl (by decide) rfl ?_
  refine gw_iconst (v := 0) dX5_trace_2 ic_0 ?_
  refine gw_istore_n (lo' := [(0, .inr v0), (1, .inl v1), (2, .inl 0), (3, .inl 0)]) dX5_trace_3 rfl (by decide) rfl ?_
  refine gw_aload_n (q := 0) dX5_trace_4 rfl rfl ?_
  refine gw_iconst (v := 0) dX5_trace_5 ic_0 ?_
  obtain ⟨g1, h⟩ := h
  refine gw_pI fX5_24 dX5_trace_6 g1 (fun σ2 e2 => ?_)
  replace h := h σ2 e2
  refine gw_iconst (v := 0) dX5_trace_9 ic_0 ?_
  refine gw_istore (lo' := [(0, .inr v0), (1, .inl v1), (2, .inl 0), (3, .inl 0), (4, .inl 0)]) dX5_trace_10 (by decide) rfl ?_
  exact h
