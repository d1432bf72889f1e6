set_option maxHeartbeats 4000000 in
set_option maxRecDepth 20000 in
theorem eX2_init {l : Launch} {v0 : Nat} {σ : Sg} {K : Sg → Prop} (h : v0 ≠ 0 ∧ shp (σ.1 + 1) = (13, 256) ∧ σ.1 + 1 ≤ 1000 ∧ ∀ x3 σ3, x3 = σ.1 + 1 → σ3 = nw σ → Ob σ3 v0 2 ∧ x3 ≤ σ3.1 ∧ ∀ σ6, σ6 = w2 σ3 v0 0 x3 → shp (σ6.1 + 1) = (13, 256) ∧ σ6.1 + 1 ≤ 1000 ∧ ∀ x8 σ8, x8 = σ6.1 + 1 → σ8 = nw σ6 → x8 ≤ σ8.1 ∧ ∀ σ10, σ10 = w2 σ8 v0 1 x8 → K σ10) : Con l mX2_init [.inr v0] σ (PV K) := by
  refine con_gw rfl (Nat.le_of_ble_eq_true rfl) ?_
  show GW l mX2_init 0 [(0, .inr v0)] [] σ 0 0 (PV K)
  refine gw_aload_n (q := 0) dX2_init_0 rfl rfl ?_
  obtain ⟨g1, h⟩ := h
  refine gw_objInit oiX2_3 oi_in oi_cd dX2_init_1 (by decide) (Nat.le_of_ble_eq_true rfl) g1 ?_
  refine gw_aload_n (q := 0) dX2_init_4 rfl rfl ?_
  refine gw_sipush (v := 256) dX2_init_5 sp_256 ?_
  obtain ⟨g2, g3, h⟩ := h
  refine gw_newi (N := 256) ac_int dX2_init_8 g2 (by decide) (by decide) (by decide) (by decide) (by decide) g3 (fun x3 σ3 ex3 e3 => ?_)
  replace h := h x3 σ3 ex3 e3
  obtain ⟨g4, h⟩ := h
  obtain ⟨z5, h⟩ := h
  refine gw_pRF fX2_9 (Or.inr ⟨_, rfl⟩) rfl rfl (fun C T N hc => by cases hc; exact xfX2_9) dX2_init_10 z5 g4 (fun σ6 e6 => ?_)
  replace h := h σ6 e6
  refine gw_aload_n (q := 0) dX2_init_13 rfl rfl ?_
  refine gw_sipush (v := 256) dX2_init_14 sp_256 ?_
  obtain ⟨g7, g8, h⟩ := h
  refine gw_newi (N := 256) ac_int dX2_init_17 g7 (by decide) (by decide) (by decide) (by decide) (by decide) g8 (fun x8 σ8 ex8 e8 => ?_)
  replace h := h x8 σ8 ex8 e8
  obtain ⟨z9, h⟩ := h
  refine gw_pRF fX2_15 (Or.inr ⟨_, rfl⟩) rfl rfl (fun C T N hc => by cases hc; exact xfX2_15) dX2_init_19 z9 ((g4.up (n_w2 e6)).up (n_nw e8)) (fun σ10 e10 => ?_)
  replace h := h σ10 e10
  exact gw_rV dX2_init_22 rfl (by decide) (by decide) h
set_option maxHeartbeats 4000000 in
set_option maxRecDepth 20000 in
theorem eX2_spotAt {l : Launch} {v0 : Int32} {v1 : Int32} {σ : Sg} {K : Int32 → Sg → Prop} (h : Con l mX11_within [.inl v0, .inl 0, .inl 15] σ (PI (fun x1 σ1 => ((x1 = 0 → K (-1) σ1) ∧ (¬ x1 = 0 → Con l mX11_within [.inl v1, .inl 0, .inl 15] σ1 (PI (fun x3 σ3 => ((x3 = 0 → K (-1) σ3) ∧ (¬ x3 = 0 → K ((v1 * 16) + v0) σ3))))))))) : Con l mX2_spotAt [.inl v0, .inl v1] σ (PI K) := by
  refine con_gw rfl (Nat.le_of_ble_eq_true rfl) ?_
  show GW l mX2_spotAt 0 [(0, .inl v0), (1, .inl v1)] [] σ 0 0 (PI K)
  refine gw_iload_n (q := 0) dX2_spotAt_0 rfl rfl ?_
  refine gw_iconst (v := 0) dX2_spotAt_1 ic_0 ?_
  refine gw_bipush (v := 15) dX2_spotAt_2 bp_15 ?_
  refine gw_sC (bs := [.inl v0, .inl 0, .inl 15]) (st := []) smX11_within lX2_18 dX2_spotAt_4 ⟨by decide, rfl, rfl, by decide, by decide⟩ (Nat.le_of_ble_eq_true rfl) rfl rfl h (kI (fun x1 σ1 h n1 => ?_))
  refine gw_if_eq (tgt := 29) dX2_spotAt_7 (by decide) (fun c2 => ?_) (fun c2 => ?_)
  · replace h := h.1 c2
    refine gw_iconst (v := (-1)) dX2_spotAt_29 ic_m1 ?_
    exact gw_rI dX2_spotAt_30 rfl (by decide) (by decide) h
  · replace h := h.2 c2
    refine gw_iload_n (q := 1) dX2_spotAt_10 rfl rfl ?_
    refine gw_iconst (v := 0) dX2_spotAt_11 ic_0 ?_
    refine gw_bipush (v := 15) dX2_spotAt_12 bp_15 ?_
    refine gw_sC (bs := [.inl v1, .inl 0, .inl 15]) (st := []) smX11_within lX2_18 dX2_spotAt_14 ⟨by decide, rfl, rfl, by decide, by decide⟩ (Nat.le_of_ble_eq_true rfl) rfl rfl h (kI (fun x3 σ3 h n3 => ?_))
    refine gw_if_eq (tgt := 29) dX2_spotAt_17 (by decide) (fun c4 => ?_) (fun c4 => ?_)
    · replace h := h.1 c4
      refine gw_iconst (v := (-1)) dX2_spotAt_29 ic_m1 ?_
      exact gw_rI dX2_spotAt_30 rfl (by decide) (by decide) h
    · replace h := h.2 c4
      refine gw_iload_n (q := 1) dX2_spotAt_20 rfl rfl ?_
      refine gw_bipush (v := 16) dX2_spotAt_21 bp_16 ?_
      refine gw_imul dX2_spotAt_23 ?_
      refine gw_iload_n (q := 0) dX2_spotAt_24 rfl rfl ?_
      refine gw_iadd dX2_spotAt_25 ?_
      refine gw_goto (tgt := 30) dX2_spotAt_26 (by decide) ?_
      exact gw_rI dX2_spotAt_30 rfl (by decide) (by decide) h
set_option maxHeartbeats 4000000 in
set_option maxRecDepth 20000 in
theorem eX2_paintOn {l : Launch} {v0 : Nat} {v1 : Int32} {σ : Sg} {K : Int32 → Sg → Prop} (h : ((v1 < 0 → K (-1) σ) ∧ (¬ v1 < 0 → ((256 ≤ v1 → K (-1) σ) ∧ (¬ 256 ≤ v1 → Ob σ v0 2 ∧ Ai σ (σ.2.2 v0 0) v1 ∧ K (σ.2.1 (σ.2.2 v0 0) v1.toNatClampNeg) σ))))) : Con l mX2_paintOn [.inr v0, .inl v1] σ (PI K) := by
  refine con_gw rfl (Nat.le_of_ble_eq_true rfl) ?_
  show GW l mX2_paintOn 0 [(0, .inr v0), (1, .inl v1)] [] σ 0 0 (PI K)
  refine gw_iload_n (q := 1) dX2_paintOn_0 rfl rfl ?_
  refine gw_if_lt (tgt := 20) dX2_paintOn_1 (by decide) (fun c1 => ?_) (fun c1 => ?_)
  · replace h := h.1 c1
    refine gw_iconst (v := (-1)) dX2_paintOn_20 ic_m1 ?_
    exact gw_rI dX2_paintOn_21 rfl (by decide) (by decide) h
  · replace h := h.2 c1
    refine gw_iload_n (q := 1) dX2_paintOn_4 rfl rfl ?_
    refine gw_sipush (v := 256) dX2_paintOn_5 sp_256 ?_
    refine gw_icmp_ge (tgt := 20) dX2_paintOn_8 (by decide) (fun c2 => ?_) (fun c2 => ?_)
    · replace h := h.1 c2
      refine gw_iconst (v := (-1)) dX2_paintOn_20 ic_m1 ?_
      exact gw_rI dX2_paintOn_21 rfl (by decide) (by decide) h
    · replace h := h.2 c2
      refine gw_aload_n (q := 0) dX2_paintOn_11 rfl rfl ?_
      obtain ⟨g3, h⟩ := h
      refine gw_gR fX2_9 dX2_paintOn_12 g3 ?_
      refine gw_iload_n (q := 1) dX2_paintOn_15 rfl rfl ?_
      obtain ⟨g4, h⟩ := h
      refine gw_aI dX2_paintOn_16 g4 ?_
      refine gw_goto (tgt := 21) dX2_paintOn_17 (by decide) ?_
      exact gw_rI dX2_paintOn_21 rfl (by decide) (by decide) h
set_option maxHeartbeats 4000000 in
set_option maxRecDepth 20000 in
theorem gX2_lay_4 {l : Launch} {v0 : Nat} {v1 : Nat} {v2 : Int32} {v3 : Int32} {σ : Sg} {K : Int32 → Sg → Prop} (h : Ob σ v1 8 ∧ Con l mX8_ticks [.inr v1] σ (PI (fun x1 σ1 => ((x1 ≤ v3 → K v2 σ1) ∧ (¬ x1 ≤ v3 → Con l mX8_spotAt [.inr v1, .inl v3] σ1 (PI (fun x4 σ4 => ((x4 < 0 → GW l mX2_lay 4 [(0, .inr v0), (1, .inr v1), (2, .inl v2), (3, .inl (v3 + 1))] [] σ4 0 0 (PI K)) ∧ (¬ x4 < 0 → ((256 ≤ x4 → GW l mX2_lay 4 [(0, .inr v0), (1, .inr v1), (2, .inl v2), (3, .inl (v3 + 1))] [] σ4 0 0 (PI K)) ∧ (¬ 256 ≤ x4 → Ob σ4 v0 2 ∧ Ai σ4 (σ4.2.2 v0 0) x4 ∧ Con l mX8_amountAt [.inr v1, .inl v3] σ4 (PI (fun x9 σ9 => ∀ σ10, σ10 = w1 σ9 (σ4.2.2 v0 0) x4.toNatClampNeg ((σ4.2.1 (σ4.2.2 v0 0) x4.toNatClampNeg) + x9) → Con l mX8_amountAt [.inr v1, .inl v3] σ10 (PI (fun x11 σ11 => GW l mX2_lay 4 [(0, .inr v0), (1, .inr v1), (2, .inl (v2 + x11)), (3, .inl (v3 + 1))] [] σ11 0 0 (PI K)))))))))))))))) : GW l mX2_lay 4 [(0, .inr v0), (1, .inr v1), (2, .inl v2), (3, .inl v3)] [] σ 0 0 (PI K) := by
  refine gw_iload_n (q := 3) dX2_lay_4 rfl rfl ?_
  refine gw_aload_n (q := 1) dX2_lay_5 rfl rfl ?_
  obtain ⟨g2, h⟩ := h
  refine gw_vC (bs := []) (st := [.inl v3]) (vmX8_ticks) lX2_22 dX2_lay_6 ⟨by decide, rfl, rfl, by decide, by decide⟩ (Nat.le_of_ble_eq_true rfl) rfl rfl g2 h (kI (fun x1 σ1 h n1 => ?_))
  refine gw_icmp_ge (tgt := 61) dX2_lay_9 (by decide) (fun c3 => ?_) (fun c3 => ?_)
  · replace h := h.1 c3
    refine gw_iload_n (q := 2) dX2_lay_61 rfl rfl ?_
    exact gw_rI dX2_lay_62 rfl (by decide) (by decide) h
  · replace h := h.2 c3
    refine gw_aload_n (q := 1) dX2_lay_12 rfl rfl ?_
    refine gw_iload_n (q := 3) dX2_lay_13 rfl rfl ?_
    refine gw_vC (bs := [.inl v3]) (st := []) (vmX8_spotAt) lX2_28 dX2_lay_14 ⟨by decide, rfl, rfl, by decide, by decide⟩ (Nat.le_of_ble_eq_true rfl) rfl rfl (g2.up n1) h (kI (fun x4 σ4 h n4 => ?_))
    refine gw_istore (lo' := [(0, .inr v0), (1, .inr v1), (2, .inl v2), (3, .inl v3), (4, .inl x4)]) dX2_lay_17 (by decide) rfl ?_
    refine gw_iload (q := 4) dX2_lay_19 rfl ?_
    refine gw_if_lt (tgt := 55) dX2_lay_21 (by decide) (fun c5 => ?_) (fun c5 => ?_)
    · replace h := h.1 c5
      refine gw_inc (lo' := [(0, .inr v0), (1, .inr v1), (2, .inl v2), (3, .inl (v3 + 1)), (4, .inl x4)]) (q := 3) (c := 1) dX2_lay_55 ic_1 rfl (by decide) rfl ?_
      refine gw_goto (tgt := 4) dX2_lay_58 (by decide) ?_
      refine gw_pick [0, 1, 2, 3] rfl ?_
      exact h
    · replace h := h.2 c5
      refine gw_iload (q := 4) dX2_lay_24 rfl ?_
      refine gw_sipush (v := 256) dX2_lay_26 sp_256 ?_
      refine gw_icmp_ge (tgt := 55) dX2_lay_29 (by decide) (fun c6 => ?_) (fun c6 => ?_)
      · replace h := h.1 c6
        refine gw_inc (lo' := [(0, .inr v0), (1, .inr v1), (2, .inl v2), (3, .inl (v3 + 1)), (4, .inl x4)]) (q := 3) (c := 1) dX2_lay_55 ic_1 rfl (by decide) rfl ?_
        refine gw_goto (tgt := 4) dX2_lay_58 (by decide) ?_
        refine gw_pick [0, 1, 2, 3] rfl ?_
        exact h
      · replace h := h.2 c6
        refine gw_aload_n (q := 0) dX2_lay_32 rfl rfl ?_
        obtain ⟨g7, h⟩ := h
        refine gw_gR fX2_9 dX2_lay_33 g7 ?_
        refine gw_iload (q := 4) dX2_lay_36 rfl ?_
        refine gw_dup2 dX2_lay_38 ?_
        obtain ⟨g8, h⟩ := h
        refine gw_aI dX2_lay_39 g8 ?_
        refine gw_aload_n (q := 1) dX2_lay_40 rfl rfl ?_
        refine gw_iload_n (q := 3) dX2_lay_41 rfl rfl ?_
        refine gw_vC (bs := [.inl v3]) (st := [.inl (σ4.2.1 (σ4.2.2 v0 0) x4.toNatClampNeg), .inl x4, .inr (σ4.2.2 v0 0)]) (vmX8_amountAt) lX2_32 dX2_lay_42 ⟨by decide, rfl, rfl, by decide, by decide⟩ (Nat.le_of_ble_eq_true rfl) rfl rfl ((g2.up n1).up n4) h (kI (fun x9 σ9 h n9 => ?_))
        refine gw_iadd dX2_lay_45 ?_
        refine gw_sI dX2_lay_46 (g8.up n9) (fun σ10 e10 => ?_)
        replace h := h σ10 e10
        refine gw_iload_n (q := 2) dX2_lay_47 rfl rfl ?_
        refine gw_aload_n (q := 1) dX2_lay_48 rfl rfl ?_
        refine gw_iload_n (q := 3) dX2_lay_49 rfl rfl ?_
        refine gw_vC (bs := [.inl v3]) (st := [.inl v2]) (vmX8_amountAt) lX2_32 dX2_lay_50 ⟨by decide, rfl, rfl, by decide, by decide⟩ (Nat.le_of_ble_eq_true rfl) rfl rfl ((((g2.up n1).up n4).up n9).up (n_w1 e10)) h (kI (fun x11 σ11 h n11 => ?_))
        refine gw_iadd dX2_lay_53 ?_
        refine gw_istore_n (lo' := [(0, .inr v0), (1, .inr v1), (2, .inl (v2 + x11)), (3, .inl v3), (4, .inl x4)]) dX2_lay_54 rfl (by decide) rfl ?_
        refine gw_inc (lo' := [(0, .inr v0), (1, .inr v1), (2, .inl (v2 + x11)), (3, .inl (v3 + 1)), (4, .inl x4)]) (q := 3) (c := 1) dX2_lay_55 ic_1 rfl (by decide) rfl ?_
        refine gw_goto (tgt := 4) dX2_lay_58 (by decide) ?_
        refine gw_pick [0, 1, 2, 3] rfl ?_
        exact h
set_option maxHeartbeats 4000000 in
set_option maxRecDepth 20000 in
theorem eX2_lay {l : Launch} {v0 : Nat} {v1 : Nat} {σ : Sg} {K : Int32 → Sg → Prop} (h : GW l mX2_lay 4 [(0, .inr v0), (1, .inr v1), (2, .inl 0), (3, .inl 0)] [] σ 0 0 (PI K)) : Con l mX2_lay [.inr v0, .inr v1] σ (PI K) := by
  refine con_gw rfl (Nat.le_of_ble_eq_true rfl) ?_
  show GW l mX2_lay 0 [(0, .inr v0), (1, .inr v1)] [] σ 0 0 (PI K)
  refine gw_iconst (v := 0) dX2_lay_0 ic_0 ?_
  refine gw_istore_n (lo' := [(0, .inr v0), (1, .inr v1), (2, .inl 0)]) dX2_lay_1 rfl (by decide) rfl ?_
  refine gw_iconst (v := 0) dX2_lay_2 ic_0 ?_
  refine gw_istore_n (lo' := [(0, .inr v0), (1, .inr v1), (2, .inl 0), (3, .inl 0)]) dX2_lay_3 rfl (by decide) rfl ?_
  exact h
set_option maxHeartbeats 4000000 in
set_option maxRecDepth 20000 in
theorem gX2_measure_80 {l : Launch} {v0 : Nat} {v1 : Int32} {v2 : Int32} {v3 : Int32} {v4 : Int32} {v5 : Int32} {v6 : Int32} {v7 : Int32} {v8 : Int32} {v9 : Int32} {v10 : Int32} {v11 : Int32} {v12 : Int32} {t0 : Int32} {σ : Sg} {K : Int32 → Sg → Prop} (h : Con l mJ9_min_7cf53 [.inl v6, .inl v12] σ (PI (fun x1 σ1 => Con l mJ9_max_7cf53 [.inl v7, .inl v12] σ1 (PI (fun x2 σ2 => GW l mX2_measure 34 [(0, .inr v0), (1, .inl v1), (2, .inl v2), (3, .inl v3), (4, .inl v4), (5, .inl v5), (6, .inl x1), (7, .inl x2), (8, .inl (v8 + v12)), (9, .inl t0), (10, .inl v10), (11, .inl (v11 + 1))] [] σ2 0 0 (PI K)))))) : GW l mX2_measure 80 [(0, .inr v0), (1, .inl v1), (2, .inl v2), (3, .inl v3), (4, .inl v4), (5, .inl v5), (6, .inl v6), (7, .inl v7), (8, .inl v8), (9, .inl v9), (10, .inl v10), (11, .inl v11), (12, .inl v12)] [.inl t0] σ 0 0 (PI K) := by
  refine gw_istore (lo' := [(0, .inr v0), (1, .inl v1), (2, .inl v2), (3, .inl v3), (4, .inl v4), (5, .inl v5), (6, .inl v6), (7, .inl v7), (8, .inl v8), (9, .inl t0), (10, .inl v10), (11, .inl v11), (12, .inl v12)]) dX2_measure_80 (by decide) rfl ?_
  refine gw_iload (q := 6) dX2_measure_82 rfl ?_
  refine gw_iload (q := 12) dX2_measure_84 rfl ?_
  refine gw_sC (bs := [.inl v6, .inl v12]) (st := []) smJ9_min_7cf53 lX2_41 dX2_measure_86 ⟨by decide, rfl, rfl, by decide, by decide⟩ (Nat.le_of_ble_eq_true rfl) rfl rfl h (kI (fun x1 σ1 h n1 => ?_))
  refine gw_istore (lo' := [(0, .inr v0), (1, .inl v1), (2, .inl v2), (3, .inl v3), (4, .inl v4), (5, .inl v5), (6, .inl x1), (7, .inl v7), (8, .inl v8), (9, .inl t0), (10, .inl v10), (11, .inl v11), (12, .inl v12)]) dX2_measure_89 (by decide) rfl ?_
  refine gw_iload (q := 7) dX2_measure_91 rfl ?_
  refine gw_iload (q := 12) dX2_measure_93 rfl ?_
  refine gw_sC (bs := [.inl v7, .inl v12]) (st := []) smJ9_max_7cf53 lX2_46 dX2_measure_95 ⟨by decide, rfl, rfl, by decide, by decide⟩ (Nat.le_of_ble_eq_true rfl) rfl rfl h (kI (fun x2 σ2 h n2 => ?_))
  refine gw_istore (lo' := [(0, .inr v0), (1, .inl v1), (2, .inl v2), (3, .inl v3), (4, .inl v4), (5, .inl v5), (6, .inl x1), (7, .inl x2), (8, .inl v8), (9, .inl t0), (10, .inl v10), (11, .inl v11), (12, .inl v12)]) dX2_measure_98 (by decide) rfl ?_
  refine gw_iload (q := 8) dX2_measure_100 rfl ?_
  refine gw_iload (q := 12) dX2_measure_102 rfl ?_
  refine gw_iadd dX2_measure_104 ?_
  refine gw_istore (lo' := [(0, .inr v0), (1, .inl v1), (2, .inl v2), (3, .inl v3), (4, .inl v4), (5, .inl v5), (6, .inl x1), (7, .inl x2), (8, .inl (v8 + v12)), (9, .inl t0), (10, .inl v10), (11, .inl v11), (12, .inl v12)]) dX2_measure_105 (by decide) rfl ?_
  refine gw_inc (lo' := [(0, .inr v0), (1, .inl v1), (2, .inl v2), (3, .inl v3), (4, .inl v4), (5, .inl v5), (6, .inl x1), (7, .inl x2), (8, .inl (v8 + v12)), (9, .inl t0), (10, .inl v10), (11, .inl (v11 + 1)), (12, .inl v12)]) (q := 11) (c := 1) dX2_measure_107 ic_1 rfl (by decide) rfl ?_
  refine gw_goto (tgt := 34) dX2_measure_110 (by decide) ?_
  refine gw_pick [0, 1, 2, 3, 4, 5, 6, 7, 8, 9, 10, 11] rfl ?_
  exact h
set_option maxHeartbeats 4000000 in
set_option maxRecDepth 20000 in
theorem gX2_measure_34 {l : Launch} {v0 : Nat} {v1 : Int32} {v2 : Int32} {v3 : Int32} {v4 : Int32} {v5 : Int32} {v6 : Int32} {v7 : Int32} {v8 : Int32} {v9 : Int32} {v10 : Int32} {v11 : Int32} {σ : Sg} {K : Int32 → Sg → Prop} (h : ((v3 < v11 → GW l mX2_measure 24 [(0, .inr v0), (1, .inl v1), (2, .inl v2), (3, .inl v3), (4, .inl v4), (5, .inl v5), (6, .inl v6), (7, .inl v7), (8, .inl v8), (9, .inl v9), (10, .inl (v10 + 1))] [] σ 0 0 (PI K)) ∧ (¬ v3 < v11 → Con l mX2_spotAt [.inl v11, .inl v10] σ (PI (fun x2 σ2 => Ob σ2 v0 2 ∧ Con l mX2_paintOn [.inr v0, .inl x2] σ2 (PI (fun x3 σ3 => ((v6 ≤ x3 → ((¬ x3 = v6 → GW l mX2_measure 80 [(0, .inr v0), (1, .inl v1), (2, .inl v2), (3, .inl v3), (4, .inl v4), (5, .inl v5), (6, .inl v6), (7, .inl v7), (8, .inl v8), (9, .inl v9), (10, .inl v10), (11, .inl v11), (12, .inl x3)] [.inl v9] σ3 0 0 (PI K)) ∧ (x3 = v6 → GW l mX2_measure 80 [(0, .inr v0), (1, .inl v1), (2, .inl v2), (3, .inl v3), (4, .inl v4), (5, .inl v5), (6, .inl v6), (7, .inl v7), (8, .inl v8), (9, .inl v9), (10, .inl v10), (11, .inl v11), (12, .inl x3)] [.inl (v9 + 1)] σ3 0 0 (PI K)))) ∧ (¬ v6 ≤ x3 → GW l mX2_measure 80 [(0, .inr v0), (1, .inl v1), (2, .inl v2), (3, .inl v3), (4, .inl v4), (5, .inl v5), (6, .inl v6), (7, .inl v7), (8, .inl v8), (9, .inl v9), (10, .inl v10), (11, .inl v11), (12, .inl x3)] [.inl 1] σ3 0 0 (PI K)))))))))) : GW l mX2_measure 34 [(0, .inr v0), (1, .inl v1), (2, .inl v2), (3, .inl v3), (4, .inl v4), (5, .inl v5), (6, .inl v6), (7, .inl v7), (8, .inl v8), (9, .inl v9), (10, .inl v10), (11, .inl v11)] [] σ 0 0 (PI K) := by
  refine gw_iload (q := 11) dX2_measure_34 rfl ?_
  refine gw_iload_n (q := 3) dX2_measure_36 rfl rfl ?_
  refine gw_icmp_gt (tgt := 113) dX2_measure_37 (by decide) (fun c1 => ?_) (fun c1 => ?_)
  · replace h := h.1 c1
    refine gw_inc (lo' := [(0, .inr v0), (1, .inl v1), (2, .inl v2), (3, .inl v3), (4, .inl v4), (5, .inl v5), (6, .inl v6), (7, .inl v7), (8, .inl v8), (9, .inl v9), (10, .inl (v10 + 1)), (11, .inl v11)]) (q := 10) (c := 1) dX2_measure_113 ic_1 rfl (by decide) rfl ?_
    refine gw_goto (tgt := 24) dX2_measure_116 (by decide) ?_
    refine gw_pick [0, 1, 2, 3, 4, 5, 6, 7, 8, 9, 10] rfl ?_
    exact h
  · replace h := h.2 c1
    refine gw_aload_n (q := 0) dX2_measure_40 rfl rfl ?_
    refine gw_iload (q := 11) dX2_measure_41 rfl ?_
    refine gw_iload (q := 10) dX2_measure_43 rfl ?_
    refine gw_sC (bs := [.inl v11, .inl v10]) (st := [.inr v0]) smX2_spotAt lX2_35 dX2_measure_45 ⟨by decide, rfl, rfl, by decide, by decide⟩ (Nat.le_of_ble_eq_true rfl) rfl rfl h (kI (fun x2 σ2 h n2 => ?_))
    obtain ⟨g4, h⟩ := h
    refine gw_vC (bs := [.inl x2]) (st := []) (vmX2_paintOn) lX2_38 dX2_measure_48 ⟨by decide, rfl, rfl, by decide, by decide⟩ (Nat.le_of_ble_eq_true rfl) rfl rfl g4 h (kI (fun x3 σ3 h n3 => ?_))
    refine gw_istore (lo' := [(0, .inr v0), (1, .inl v1), (2, .inl v2), (3, .inl v3), (4, .inl v4), (5, .inl v5), (6, .inl v6), (7, .inl v7), (8, .inl v8), (9, .inl v9), (10, .inl v10), (11, .inl v11), (12, .inl x3)]) dX2_measure_51 (by decide) rfl ?_
    refine gw_iload (q := 12) dX2_measure_53 rfl ?_
    refine gw_iload (q := 6) dX2_measure_55 rfl ?_
    refine gw_icmp_ge (tgt := 64) dX2_measure_57 (by decide) (fun c5 => ?_) (fun c5 => ?_)
    · replace h := h.1 c5
      refine gw_iload (q := 12) dX2_measure_64 rfl ?_
      refine gw_iload (q := 6) dX2_measure_66 rfl ?_
      refine gw_icmp_ne (tgt := 78) dX2_measure_68 (by decide) (fun c6 => ?_) (fun c6 => ?_)
      · replace h := h.1 c6
        refine gw_iload (q := 9) dX2_measure_78 rfl ?_
        exact h
      · replace h := h.2 c6
        refine gw_iload (q := 9) dX2_measure_71 rfl ?_
        refine gw_iconst (v := 1) dX2_measure_73 ic_1 ?_
        refine gw_iadd dX2_measure_74 ?_
        refine gw_goto (tgt := 80) dX2_measure_75 (by decide) ?_
        exact h
    · replace h := h.2 c5
      refine gw_iconst (v := 1) dX2_measure_60 ic_1 ?_
      refine gw_goto (tgt := 80) dX2_measure_61 (by decide) ?_
      exact h
set_option maxHeartbeats 4000000 in
set_option maxRecDepth 20000 in
theorem gX2_measure_24 {l : Launch} {v0 : Nat} {v1 : Int32} {v2 : Int32} {v3 : Int32} {v4 : Int32} {v5 : Int32} {v6 : Int32} {v7 : Int32} {v8 : Int32} {v9 : Int32} {v10 : Int32} {σ : Sg} {K : Int32 → Sg → Prop} (h : ((v4 < v10 → ((v5.toInt < 0 ∨ 2 < v5.toInt → K v9 σ) ∧ (v5.toInt = 0 → K v6 σ) ∧ (v5.toInt = 1 → K v7 σ) ∧ (v5.toInt = 2 → K v8 σ))) ∧ (¬ v4 < v10 → GW l mX2_measure 34 [(0, .inr v0), (1, .inl v1), (2, .inl v2), (3, .inl v3), (4, .inl v4), (5, .inl v5), (6, .inl v6), (7, .inl v7), (8, .inl v8), (9, .inl v9), (10, .inl v10), (11, .inl v1)] [] σ 0 0 (PI K)))) : GW l mX2_measure 24 [(0, .inr v0), (1, .inl v1), (2, .inl v2), (3, .inl v3), (4, .inl v4), (5, .inl v5), (6, .inl v6), (7, .inl v7), (8, .inl v8), (9, .inl v9), (10, .inl v10)] [] σ 0 0 (PI K) := by
  refine gw_iload (q := 10) dX2_measure_24 rfl ?_
  refine gw_iload (q := 4) dX2_measure_26 rfl ?_
  refine gw_icmp_gt (tgt := 119) dX2_measure_28 (by decide) (fun c1 => ?_) (fun c1 => ?_)
  · replace h := h.1 c1
    refine gw_iload (q := 5) dX2_measure_119 rfl ?_
    refine gw_tab dX2_measure_121 rfl (fun c => ?_) (fun k hk hx => ?_)
    · refine ⟨157, by decide, ?_⟩
      replace h := h.1 c
      refine gw_iload (q := 9) dX2_measure_157 rfl ?_
      exact gw_rI dX2_measure_159 rfl (by decide) (by decide) h
    · match k, hk, hx with
      | 0, _, hx =>
        refine ⟨27, 148, rfl, by decide, ?_⟩
        replace h := h.2.1 hx
        refine gw_iload (q := 6) dX2_measure_148 rfl ?_
        exact gw_rI dX2_measure_150 rfl (by decide) (by decide) h
      | 1, _, hx =>
        refine ⟨30, 151, rfl, by decide, ?_⟩
        replace h := h.2.2.1 hx
        refine gw_iload (q := 7) dX2_measure_151 rfl ?_
        exact gw_rI dX2_measure_153 rfl (by decide) (by decide) h
      | 2, _, hx =>
        refine ⟨33, 154, rfl, by decide, ?_⟩
        replace h := h.2.2.2 hx
        refine gw_iload (q := 8) dX2_measure_154 rfl ?_
        exact gw_rI dX2_measure_156 rfl (by decide) (by decide) h
      | k + 3, hk, _ => exact absurd hk (by simp)
  · replace h := h.2 c1
    refine gw_iload_n (q := 1) dX2_measure_31 rfl rfl ?_
    refine gw_istore (lo' := [(0, .inr v0), (1, .inl v1), (2, .inl v2), (3, .inl v3), (4, .inl v4), (5, .inl v5), (6, .inl v6), (7, .inl v7), (8, .inl v8), (9, .inl v9), (10, .inl v10), (11, .inl v1)]) dX2_measure_32 (by decide) rfl ?_
    exact h
set_option maxHeartbeats 4000000 in
set_option maxRecDepth 20000 in
theorem eX2_measure {l : Launch} {v0 : Nat} {v1 : Int32} {v2 : Int32} {v3 : Int32} {v4 : Int32} {v5 : Int32} {σ : Sg} {K : Int32 → Sg → Prop} (h : Con l mX2_spotAt [.inl v1, .inl v2] σ (PI (fun x1 σ1 => Ob σ1 v0 2 ∧ Con l mX2_paintOn [.inr v0, .inl x1] σ1 (PI (fun x2 σ2 => GW l mX2_measure 24 [(0, .inr v0), (1, .inl v1), (2, .inl v2), (3, .inl v3), (4, .inl v4), (5, .inl v5), (6, .inl x2), (7, .inl x2), (8, .inl 0), (9, .inl 0), (10, .inl v2)] [] σ2 0 0 (PI K)))))) : Con l mX2_measure [.inr v0, .inl v1, .inl v2, .inl v3, .inl v4, .inl v5] σ (PI K) := by
  refine con_gw rfl (Nat.le_of_ble_eq_true rfl) ?_
  show GW l mX2_measure 0 [(0, .inr v0), (1, .inl v1), (2, .inl v2), (3, .inl v3), (4, .inl v4), (5, .inl v5)] [] σ 0 0 (PI K)
  refine gw_aload_n (q := 0) dX2_measure_0 rfl rfl ?_
  refine gw_iload_n (q := 1) dX2_measure_1 rfl rfl ?_
  refine gw_iload_n (q := 2) dX2_measure_2 rfl rfl ?_
  refine gw_sC (bs := [.inl v1, .inl v2]) (st := [.inr v0]) smX2_spotAt lX2_35 dX2_measure_3 ⟨by decide, rfl, rfl, by decide, by decide⟩ (Nat.le_of_ble_eq_true rfl) rfl rfl h (kI (fun x1 σ1 h n1 => ?_))
  obtain ⟨g3, h⟩ := h
  refine gw_vC (bs := [.inl x1]) (st := []) (vmX2_paintOn) lX2_38 dX2_measure_6 ⟨by decide, rfl, rfl, by decide, by decide⟩ (Nat.le_of_ble_eq_true rfl) rfl rfl g3 h (kI (fun x2 σ2 h n2 => ?_))
  refine gw_istore (lo' := [(0, .inr v0), (1, .inl v1), (2, .inl v2), (3, .inl v3), (4, .inl v4), (5, .inl v5), (6, .inl x2)]) dX2_measure_9 (by decide) rfl ?_
  refine gw_iload (q := 6) dX2_measure_11 rfl ?_
  refine gw_istore (lo' := [(0, .inr v0), (1, .inl v1), (2, .inl v2), (3, .inl v3), (4, .inl v4), (5, .inl v5), (6, .inl x2), (7, .inl x2)]) dX2_measure_13 (by decide) rfl ?_
  refine gw_iconst (v := 0) dX2_measure_15 ic_0 ?_
  refine gw_istore (lo' := [(0, .inr v0), (1, .inl v1), (2, .inl v2), (3, .inl v3), (4, .inl v4), (5, .inl v5), (6, .inl x2), (7, .inl x2), (8, .inl 0)]) dX2_measure_16 (by decide) rfl ?_
  refine gw_iconst (v := 0) dX2_measure_18 ic_0 ?_
  refine gw_istore (lo' := [(0, .inr v0), (1, .inl v1), (2, .inl v2), (3, .inl v3), (4, .inl v4), (5, .inl v5), (6, .inl x2), (7, .inl x2), (8, .inl 0), (9, .inl 0)]) dX2_measure_19 (by decide) rfl ?_
  refine gw_iload_n (q := 2) dX2_measure_21 rfl rfl ?_
  refine gw_istore (lo' := [(0, .inr v0), (1, .inl v1), (2, .inl v2), (3, .inl v3), (4, .inl v4), (5, .inl v5), (6, .inl x2), (7, .inl x2), (8, .inl 0), (9, .inl 0), (10, .inl v2)]) dX2_measure_22 (by decide) rfl ?_
  exact h
set_option maxHeartbeats 4000000 in
set_option maxRecDepth 20000 in
theorem gX2_painted_4 {l : Launch} {v0 : Nat} {v1 : Int32} {v2 : Int32} {σ : Sg} {K : Int32 → Sg → Prop} (h : ((256 ≤ v2 → K v1 σ) ∧ (¬ 256 ≤ v2 → Ob σ v0 2 ∧ Ai σ (σ.2.2 v0 0) v2 ∧ (((σ.2.1 (σ.2.2 v0 0) v2.toNatClampNeg) ≤ 0 → GW l mX2_painted 4 [(0, .inr v0), (1, .inl (v1 + 0)), (2, .inl (v2 + 1))] [] σ 0 0 (PI K)) ∧ (¬ (σ.2.1 (σ.2.2 v0 0) v2.toNatClampNeg) ≤ 0 → GW l mX2_painted 4 [(0, .inr v0), (1, .inl (v1 + 1)), (2, .inl (v2 + 1))] [] σ 0 0 (PI K)))))) : GW l mX2_painted 4 [(0, .inr v0), (1, .inl v1), (2, .inl v2)] [] σ 0 0 (PI K) := by
  refine gw_iload_n (q := 2) dX2_painted_4 rfl rfl ?_
  refine gw_sipush (v := 256) dX2_painted_5 sp_256 ?_
  refine gw_icmp_ge (tgt := 34) dX2_painted_8 (by decide) (fun c1 => ?_) (fun c1 => ?_)
  · replace h := h.1 c1
    refine gw_iload_n (q := 1) dX2_painted_34 rfl rfl ?_
    exact gw_rI dX2_painted_35 rfl (by decide) (by decide) h
  · replace h := h.2 c1
    refine gw_iload_n (q := 1) dX2_painted_11 rfl rfl ?_
    refine gw_aload_n (q := 0) dX2_painted_12 rfl rfl ?_
    obtain ⟨g2, h⟩ := h
    refine gw_gR fX2_9 dX2_painted_13 g2 ?_
    refine gw_iload_n (q := 2) dX2_painted_16 rfl rfl ?_
    obtain ⟨g3, h⟩ := h
    refine gw_aI dX2_painted_17 g3 ?_
    refine gw_if_le (tgt := 25) dX2_painted_18 (by decide) (fun c4 => ?_) (fun c4 => ?_)
    · replace h := h.1 c4
      refine gw_iconst (v := 0) dX2_painted_25 ic_0 ?_
      refine gw_iadd dX2_painted_26 ?_
      refine gw_istore_n (lo' := [(0, .inr v0), (1, .inl (v1 + 0)), (2, .inl v2)]) dX2_painted_27 rfl (by decide) rfl ?_
      refine gw_inc (lo' := [(0, .inr v0), (1, .inl (v1 + 0)), (2, .inl (v2 + 1))]) (q := 2) (c := 1) dX2_painted_28 ic_1 rfl (by decide) rfl ?_
      refine gw_goto (tgt := 4) dX2_painted_31 (by decide) ?_
      exact h
    · replace h := h.2 c4
      refine gw_iconst (v := 1) dX2_painted_21 ic_1 ?_
      refine gw_goto (tgt := 26) dX2_painted_22 (by decide) ?_
      refine gw_iadd dX2_painted_26 ?_
      refine gw_istore_n (lo' := [(0, .inr v0), (1, .inl (v1 + 1)), (2, .inl v2)]) dX2_painted_27 rfl (by decide) rfl ?_
      refine gw_inc (lo' := [(0, .inr v0), (1, .inl (v1 + 1)), (2, .inl (v2 + 1))]) (q := 2) (c := 1) dX2_painted_28 ic_1 rfl (by decide) rfl ?_
      refine gw_goto (tgt := 4) dX2_painted_31 (by decide) ?_
      exact h
set_option maxHeartbeats 4000000 in
set_option maxRecDepth 20000 in
theorem eX2_painted {l : Launch} {v0 : Nat} {σ : Sg} {K : Int32 → Sg → Prop} (h : GW l mX2_painted 4 [(0, .inr v0), (1, .inl 0), (2, .inl 0)] [] σ 0 0 (PI K)) : Con l mX2_painted [.inr v0] σ (PI K) := by
  refine con_gw rfl (Nat.le_of_ble_eq_true rfl) ?_
  show GW l mX2_painted 0 [(0, .inr v0)] [] σ 0 0 (PI K)
  refine gw_iconst (v := 0) dX2_painted_0 ic_0 ?_
  refine gw_istore_n (lo' := [(0, .inr v0), (1, .inl 0)]) dX2_painted_1 rfl (by decide) rfl ?_
  refine gw_iconst (v := 0) dX2_painted_2 ic_0 ?_
  refine gw_istore_n (lo' := [(0, .inr v0), (1, .inl 0), (2, .inl 0)]) dX2_painted_3 rfl (by decide) rfl ?_
  exact h
set_option maxHeartbeats 4000000 in
set_option maxRecDepth 20000 in
theorem gX2_wash_2 {l : Launch} {v0 : Nat} {v1 : Int32} {σ : Sg} {K : Sg → Prop} (h : ((256 ≤ v1 → K σ) ∧ (¬ 256 ≤ v1 → Ob σ v0 2 ∧ Ai σ (σ.2.2 v0 0) v1 ∧ ∀ σ4, σ4 = w1 σ (σ.2.2 v0 0) v1.toNatClampNeg 0 → GW l mX2_wash 2 [(0, .inr v0), (1, .inl (v1 + 1))] [] σ4 0 0 (PV K)))) : GW l mX2_wash 2 [(0, .inr v0), (1, .inl v1)] [] σ 0 0 (PV K) := by
  refine gw_iload_n (q := 1) dX2_wash_2 rfl rfl ?_
  refine gw_sipush (v := 256) dX2_wash_3 sp_256 ?_
  refine gw_icmp_ge (tgt := 22) dX2_wash_6 (by decide) (fun c1 => ?_) (fun c1 => ?_)
  · replace h := h.1 c1
    exact gw_rV dX2_wash_22 rfl (by decide) (by decide) h
  · replace h := h.2 c1
    refine gw_aload_n (q := 0) dX2_wash_9 rfl rfl ?_
    obtain ⟨g2, h⟩ := h
    refine gw_gR fX2_9 dX2_wash_10 g2 ?_
    refine gw_iload_n (q := 1) dX2_wash_13 rfl rfl ?_
    refine gw_iconst (v := 0) dX2_wash_14 ic_0 ?_
    obtain ⟨g3, h⟩ := h
    refine gw_sI dX2_wash_15 g3 (fun σ4 e4 => ?_)
    replace h := h σ4 e4
    refine gw_inc (lo' := [(0, .inr v0), (1, .inl (v1 + 1))]) (q := 1) (c := 1) dX2_wash_16 ic_1 rfl (by decide) rfl ?_
    refine gw_goto (tgt := 2) dX2_wash_19 (by decide) ?_
    exact h
set_option maxHeartbeats 4000000 in
set_option maxRecDepth 20000 in
theorem eX2_wash {l : Launch} {v0 : Nat} {σ : Sg} {K : Sg → Prop} (h : GW l mX2_wash 2 [(0, .inr v0), (1, .inl 0)] [] σ 0 0 (PV K)) : Con l mX2_wash [.inr v0] σ (PV K) := by
  refine con_gw rfl (Nat.le_of_ble_eq_true rfl) ?_
  show GW l mX2_wash 0 [(0, .inr v0)] [] σ 0 0 (PV K)
  refine gw_iconst (v := 0) dX2_wash_0 ic_0 ?_
  refine gw_istore_n (lo' := [(0, .inr v0), (1, .inl 0)]) dX2_wash_1 rfl (by decide) rfl ?_
  exact h
set_option maxHeartbeats 4000000 in
set_option maxRecDepth 20000 in
theorem gX2_findCut_109 {l : Launch} {v0 : Nat} {v1 : Nat} {v2 : Int32} {v3 : Int32} {v4 : Int32} {v5 : Int32} {σ : Sg} {K : Int32 → Sg → Prop} (h : Ob σ v0 2 ∧ Con l mX2_change [.inr v0, .inr v1, .inl v5, .inl (-1)] σ (PV (fun σ1 => GW l mX2_findCut 36 [(0, .inr v0), (1, .inr v1), (2, .inl v2), (3, .inl v3), (4, .inl v4), (5, .inl (v5 + 1))] [] σ1 0 0 (PI K)))) : GW l mX2_findCut 109 [(0, .inr v0), (1, .inr v1), (2, .inl v2), (3, .inl v3), (4, .inl v4), (5, .inl v5)] [] σ 0 0 (PI K) := by
  refine gw_aload_n (q := 0) dX2_findCut_109 rfl rfl ?_
  refine gw_aload_n (q := 1) dX2_findCut_110 rfl rfl ?_
  refine gw_iload (q := 5) dX2_findCut_111 rfl ?_
  refine gw_iconst (v := (-1)) dX2_findCut_113 ic_m1 ?_
  obtain ⟨g2, h⟩ := h
  refine gw_vC (bs := [.inr v1, .inl v5, .inl (-1)]) (st := []) (vmX2_change) lX2_63 dX2_findCut_114 ⟨by decide, rfl, rfl, by decide, by decide⟩ (Nat.le_of_ble_eq_true rfl) rfl rfl g2 h (kV (fun σ1 h n1 => ?_))
  refine gw_inc (lo' := [(0, .inr v0), (1, .inr v1), (2, .inl v2), (3, .inl v3), (4, .inl v4), (5, .inl (v5 + 1))]) (q := 5) (c := 1) dX2_findCut_117 ic_1 rfl (by decide) rfl ?_
  refine gw_goto (tgt := 36) dX2_findCut_120 (by decide) ?_
  exact h
set_option maxHeartbeats 4000000 in
set_option maxRecDepth 20000 in
theorem gX2_findCut_69 {l : Launch} {v0 : Nat} {v1 : Nat} {v2 : Int32} {v3 : Int32} {v4 : Int32} {v5 : Int32} {σ : Sg} {K : Int32 → Sg → Prop} (h : Ob σ v0 2 ∧ ((¬ (σ.2.1 v0 2) = 0 → GW l mX2_findCut 109 [(0, .inr v0), (1, .inr v1), (2, .inl v2), (3, .inl v3), (4, .inl v4), (5, .inl v5)] [] σ 0 0 (PI K)) ∧ ((σ.2.1 v0 2) = 0 → ((((σ.2.1 v0 4) - (σ.2.1 v0 3)) ≤ ((v4 - 1) - v5) → GW l mX2_findCut 109 [(0, .inr v0), (1, .inr v1), (2, .inl v2), (3, .inl v3), (4, .inl v4), (5, .inl v5)] [] σ 0 0 (PI K)) ∧ (¬ ((σ.2.1 v0 4) - (σ.2.1 v0 3)) ≤ ((v4 - 1) - v5) → ∀ σ4, σ4 = w1 σ v0 3 v5 → ∀ σ5, σ5 = w1 σ4 v0 4 (v4 - 1) → GW l mX2_findCut 109 [(0, .inr v0), (1, .inr v1), (2, .inl v2), (3, .inl v3), (4, .inl v4), (5, .inl v5)] [] σ5 0 0 (PI K)))))) : GW l mX2_findCut 69 [(0, .inr v0), (1, .inr v1), (2, .inl v2), (3, .inl v3), (4, .inl v4), (5, .inl v5)] [] σ 0 0 (PI K) := by
  refine gw_aload_n (q := 0) dX2_findCut_69 rfl rfl ?_
  obtain ⟨g1, h⟩ := h
  refine gw_gI fX2_53 dX2_findCut_70 g1 ?_
  refine gw_if_ne (tgt := 109) dX2_findCut_73 (by decide) (fun c2 => ?_) (fun c2 => ?_)
  · replace h := h.1 c2
    exact h
  · replace h := h.2 c2
    refine gw_iload (q := 4) dX2_findCut_76 rfl ?_
    refine gw_iconst (v := 1) dX2_findCut_78 ic_1 ?_
    refine gw_isub dX2_findCut_79 ?_
    refine gw_iload (q := 5) dX2_findCut_80 rfl ?_
    refine gw_isub dX2_findCut_82 ?_
    refine gw_aload_n (q := 0) dX2_findCut_83 rfl rfl ?_
    refine gw_gI fX2_60 dX2_findCut_84 g1 ?_
    refine gw_aload_n (q := 0) dX2_findCut_87 rfl rfl ?_
    refine gw_gI fX2_57 dX2_findCut_88 g1 ?_
    refine gw_isub dX2_findCut_91 ?_
    refine gw_icmp_ge (tgt := 109) dX2_findCut_92 (by decide) (fun c3 => ?_) (fun c3 => ?_)
    · replace h := h.1 c3
      exact h
    · replace h := h.2 c3
      refine gw_aload_n (q := 0) dX2_findCut_95 rfl rfl ?_
      refine gw_iload (q := 5) dX2_findCut_96 rfl ?_
      refine gw_pI fX2_57 dX2_findCut_98 g1 (fun σ4 e4 => ?_)
      replace h := h σ4 e4
      refine gw_aload_n (q := 0) dX2_findCut_101 rfl rfl ?_
      refine gw_iload (q := 4) dX2_findCut_102 rfl ?_
      refine gw_iconst (v := 1) dX2_findCut_104 ic_1 ?_
      refine gw_isub dX2_findCut_105 ?_
      refine gw_pI fX2_60 dX2_findCut_106 (g1.up (n_w1 e4)) (fun σ5 e5 => ?_)
      replace h := h σ5 e5
      exact h
set_option maxHeartbeats 4000000 in
set_option maxRecDepth 20000 in
theorem gX2_findCut_42 {l : Launch} {v0 : Nat} {v1 : Nat} {v2 : Int32} {v3 : Int32} {v4 : Int32} {v5 : Int32} {σ : Sg} {K : Int32 → Sg → Prop} (h : Ob σ v0 2 ∧ (((σ.2.1 v0 2) ≤ 0 → GW l mX2_findCut 69 [(0, .inr v0), (1, .inr v1), (2, .inl v2), (3, .inl v3), (4, .inl v4), (5, .inl v5)] [] σ 0 0 (PI K)) ∧ (¬ (σ.2.1 v0 2) ≤ 0 → ((v3 ≤ v4 → GW l mX2_findCut 69 [(0, .inr v0), (1, .inr v1), (2, .inl v2), (3, .inl v3), (4, .inl v4), (5, .inl v5)] [] σ 0 0 (PI K)) ∧ (¬ v3 ≤ v4 → Con l mX2_change [.inr v0, .inr v1, .inl v4, .inl 1] σ (PV (fun σ4 => GW l mX2_findCut 42 [(0, .inr v0), (1, .inr v1), (2, .inl v2), (3, .inl v3), (4, .inl (v4 + 1)), (5, .inl v5)] [] σ4 0 0 (PI K)))))))) : GW l mX2_findCut 42 [(0, .inr v0), (1, .inr v1), (2, .inl v2), (3, .inl v3), (4, .inl v4), (5, .inl v5)] [] σ 0 0 (PI K) := by
  refine gw_aload_n (q := 0) dX2_findCut_42 rfl rfl ?_
  obtain ⟨g1, h⟩ := h
  refine gw_gI fX2_53 dX2_findCut_43 g1 ?_
  refine gw_if_le (tgt := 69) dX2_findCut_46 (by decide) (fun c2 => ?_) (fun c2 => ?_)
  · replace h := h.1 c2
    exact h
  · replace h := h.2 c2
    refine gw_iload (q := 4) dX2_findCut_49 rfl ?_
    refine gw_iload_n (q := 3) dX2_findCut_51 rfl rfl ?_
    refine gw_icmp_ge (tgt := 69) dX2_findCut_52 (by decide) (fun c3 => ?_) (fun c3 => ?_)
    · replace h := h.1 c3
      exact h
    · replace h := h.2 c3
      refine gw_aload_n (q := 0) dX2_findCut_55 rfl rfl ?_
      refine gw_aload_n (q := 1) dX2_findCut_56 rfl rfl ?_
      refine gw_iload (q := 4) dX2_findCut_57 rfl ?_
      refine gw_iconst (v := 1) dX2_findCut_59 ic_1 ?_
      refine gw_vC (bs := [.inr v1, .inl v4, .inl 1]) (st := []) (vmX2_change) lX2_63 dX2_findCut_60 ⟨by decide, rfl, rfl, by decide, by decide⟩ (Nat.le_of_ble_eq_true rfl) rfl rfl g1 h (kV (fun σ4 h n4 => ?_))
      refine gw_inc (lo' := [(0, .inr v0), (1, .inr v1), (2, .inl v2), (3, .inl v3), (4, .inl (v4 + 1)), (5, .inl v5)]) (q := 4) (c := 1) dX2_findCut_63 ic_1 rfl (by decide) rfl ?_
      refine gw_goto (tgt := 42) dX2_findCut_66 (by decide) ?_
      exact h
set_option maxHeartbeats 4000000 in
set_option maxRecDepth 20000 in
theorem gX2_findCut_36 {l : Launch} {v0 : Nat} {v1 : Nat} {v2 : Int32} {v3 : Int32} {v4 : Int32} {v5 : Int32} {σ : Sg} {K : Int32 → Sg → Prop} (h : ((v3 ≤ v5 → K 1 σ) ∧ (¬ v3 ≤ v5 → GW l mX2_findCut 42 [(0, .inr v0), (1, .inr v1), (2, .inl v2), (3, .inl v3), (4, .inl v4), (5, .inl v5)] [] σ 0 0 (PI K)))) : GW l mX2_findCut 36 [(0, .inr v0), (1, .inr v1), (2, .inl v2), (3, .inl v3), (4, .inl v4), (5, .inl v5)] [] σ 0 0 (PI K) := by
  refine gw_iload (q := 5) dX2_findCut_36 rfl ?_
  refine gw_iload_n (q := 3) dX2_findCut_38 rfl rfl ?_
  refine gw_icmp_ge (tgt := 123) dX2_findCut_39 (by decide) (fun c1 => ?_) (fun c1 => ?_)
  · replace h := h.1 c1
    refine gw_iconst (v := 1) dX2_findCut_123 ic_1 ?_
    exact gw_rZ dX2_findCut_124 rfl (by decide) (by decide) (by decide) h
  · replace h := h.2 c1
    exact h
set_option maxHeartbeats 4000000 in
set_option maxRecDepth 20000 in
theorem eX2_findCut {l : Launch} {v0 : Nat} {v1 : Nat} {v2 : Int32} {σ : Sg} {K : Int32 → Sg → Prop} (h : Ob σ v0 2 ∧ Con l mX2_seekLacks [.inr v0, .inr v1, .inl v2] σ (PV (fun σ1 => ((¬ (σ1.2.1 v0 2) = 0 → Ob σ1 v1 8 ∧ Con l mX8_ticks [.inr v1] σ1 (PI (fun x4 σ4 => ∀ σ6, σ6 = w1 σ4 v0 3 0 → ∀ σ7, σ7 = w1 σ6 v0 4 x4 → GW l mX2_findCut 36 [(0, .inr v0), (1, .inr v1), (2, .inl v2), (3, .inl x4), (4, .inl 0), (5, .inl 0)] [] σ7 0 0 (PI K)))) ∧ ((σ1.2.1 v0 2) = 0 → K 0 σ1))))) : Con l mX2_findCut [.inr v0, .inr v1, .inl v2] σ (PI K) := by
  refine con_gw rfl (Nat.le_of_ble_eq_true rfl) ?_
  show GW l mX2_findCut 0 [(0, .inr v0), (1, .inr v1), (2, .inl v2)] [] σ 0 0 (PI K)
  refine gw_aload_n (q := 0) dX2_findCut_0 rfl rfl ?_
  refine gw_aload_n (q := 1) dX2_findCut_1 rfl rfl ?_
  refine gw_iload_n (q := 2) dX2_findCut_2 rfl rfl ?_
  obtain ⟨g2, h⟩ := h
  refine gw_vC (bs := [.inr v1, .inl v2]) (st := []) (vmX2_seekLacks) lX2_49 dX2_findCut_3 ⟨by decide, rfl, rfl, by decide, by decide⟩ (Nat.le_of_ble_eq_true rfl) rfl rfl g2 h (kV (fun σ1 h n1 => ?_))
  refine gw_aload_n (q := 0) dX2_findCut_6 rfl rfl ?_
  refine gw_gI fX2_53 dX2_findCut_7 (g2.up n1) ?_
  refine gw_if_ne (tgt := 15) dX2_findCut_10 (by decide) (fun c3 => ?_) (fun c3 => ?_)
  · replace h := h.1 c3
    refine gw_aload_n (q := 1) dX2_findCut_15 rfl rfl ?_
    obtain ⟨g5, h⟩ := h
    refine gw_vC (bs := []) (st := []) (vmX8_ticks) lX2_22 dX2_findCut_16 ⟨by decide, rfl, rfl, by decide, by decide⟩ (Nat.le_of_ble_eq_true rfl) rfl rfl g5 h (kI (fun x4 σ4 h n4 => ?_))
    refine gw_istore_n (lo' := [(0, .inr v0), (1, .inr v1), (2, .inl v2), (3, .inl x4)]) dX2_findCut_19 rfl (by decide) rfl ?_
    refine gw_iconst (v := 0) dX2_findCut_20 ic_0 ?_
    refine gw_istore (lo' := [(0, .inr v0), (1, .inr v1), (2, .inl v2), (3, .inl x4), (4, .inl 0)]) dX2_findCut_21 (by decide) rfl ?_
    refine gw_aload_n (q := 0) dX2_findCut_23 rfl rfl ?_
    refine gw_iconst (v := 0) dX2_findCut_24 ic_0 ?_
    refine gw_pI fX2_57 dX2_findCut_25 ((g2.up n1).up n4) (fun σ6 e6 => ?_)
    replace h := h σ6 e6
    refine gw_aload_n (q := 0) dX2_findCut_28 rfl rfl ?_
    refine gw_iload_n (q := 3) dX2_findCut_29 rfl rfl ?_
    refine gw_pI fX2_60 dX2_findCut_30 (((g2.up n1).up n4).up (n_w1 e6)) (fun σ7 e7 => ?_)
    replace h := h σ7 e7
    refine gw_iconst (v := 0) dX2_findCut_33 ic_0 ?_
    refine gw_istore (lo' := [(0, .inr v0), (1, .inr v1), (2, .inl v2), (3, .inl x4), (4, .inl 0), (5, .inl 0)]) dX2_findCut_34 (by decide) rfl ?_
    exact h
  · replace h := h.2 c3
    refine gw_iconst (v := 0) dX2_findCut_13 ic_0 ?_
    exact gw_rZ dX2_findCut_14 rfl (by decide) (by decide) (by decide) h
set_option maxHeartbeats 4000000 in
set_option maxRecDepth 20000 in
theorem gX2_seekLacks_136 {l : Launch} {v0 : Nat} {v1 : Nat} {v2 : Int32} {v3 : Int32} {v4 : Int32} {t0 : Nat} {t1 : Int32} {t2 : Int32} {σ : Sg} {K : Sg → Prop} (h : Ai σ t0 t1 ∧ ∀ σ2, σ2 = w1 σ t0 t1.toNatClampNeg t2 → Ob σ2 v0 2 ∧ ((v4 = 0 → ∀ σ5, σ5 = w1 σ2 v0 2 ((σ2.2.1 v0 2) + 0) → GW l mX2_seekLacks 80 [(0, .inr v0), (1, .inr v1), (2, .inl v2), (3, .inl (v3 + 1))] [] σ5 0 0 (PV K)) ∧ (¬ v4 = 0 → ∀ σ6, σ6 = w1 σ2 v0 2 ((σ2.2.1 v0 2) + 1) → GW l mX2_seekLacks 80 [(0, .inr v0), (1, .inr v1), (2, .inl v2), (3, .inl (v3 + 1))] [] σ6 0 0 (PV K)))) : GW l mX2_seekLacks 136 [(0, .inr v0), (1, .inr v1), (2, .inl v2), (3, .inl v3), (4, .inl v4)] [.inl t2, .inl t1, .inr t0] σ 0 0 (PV K) := by
  obtain ⟨g1, h⟩ := h
  refine gw_sI dX2_seekLacks_136 g1 (fun σ2 e2 => ?_)
  replace h := h σ2 e2
  refine gw_aload_n (q := 0) dX2_seekLacks_137 rfl rfl ?_
  refine gw_dup dX2_seekLacks_138 ?_
  obtain ⟨g3, h⟩ := h
  refine gw_gI fX2_53 dX2_seekLacks_139 g3 ?_
  refine gw_iload (q := 4) dX2_seekLacks_142 rfl ?_
  refine gw_if_eq (tgt := 151) dX2_seekLacks_144 (by decide) (fun c4 => ?_) (fun c4 => ?_)
  · replace h := h.1 c4
    refine gw_iconst (v := 0) dX2_seekLacks_151 ic_0 ?_
    refine gw_iadd dX2_seekLacks_152 ?_
    refine gw_pI fX2_53 dX2_seekLacks_153 g3 (fun σ5 e5 => ?_)
    replace h := h σ5 e5
    refine gw_inc (lo' := [(0, .inr v0), (1, .inr v1), (2, .inl v2), (3, .inl (v3 + 1)), (4, .inl v4)]) (q := 3) (c := 1) dX2_seekLacks_156 ic_1 rfl (by decide) rfl ?_
    refine gw_goto (tgt := 80) dX2_seekLacks_159 (by decide) ?_
    refine gw_pick [0, 1, 2, 3] rfl ?_
    exact h
  · replace h := h.2 c4
    refine gw_iconst (v := 1) dX2_seekLacks_147 ic_1 ?_
    refine gw_goto (tgt := 152) dX2_seekLacks_148 (by decide) ?_
    refine gw_iadd dX2_seekLacks_152 ?_
    refine gw_pI fX2_53 dX2_seekLacks_153 g3 (fun σ6 e6 => ?_)
    replace h := h σ6 e6
    refine gw_inc (lo' := [(0, .inr v0), (1, .inr v1), (2, .inl v2), (3, .inl (v3 + 1)), (4, .inl v4)]) (q := 3) (c := 1) dX2_seekLacks_156 ic_1 rfl (by decide) rfl ?_
    refine gw_goto (tgt := 80) dX2_seekLacks_159 (by decide) ?_
    refine gw_pick [0, 1, 2, 3] rfl ?_
    exact h
set_option maxHeartbeats 4000000 in
set_option maxRecDepth 20000 in
theorem gX2_seekLacks_112 {l : Launch} {v0 : Nat} {v1 : Nat} {v2 : Int32} {v3 : Int32} {t0 : Int32} {σ : Sg} {K : Sg → Prop} (h : Ob σ v0 2 ∧ ((t0 = 0 → GW l mX2_seekLacks 136 [(0, .inr v0), (1, .inr v1), (2, .inl v2), (3, .inl v3), (4, .inl t0)] [.inl 0, .inl v3, .inr (σ.2.2 v0 1)] σ 0 0 (PV K)) ∧ (¬ t0 = 0 → Ai σ (σ.2.2 v0 0) v3 ∧ GW l mX2_seekLacks 136 [(0, .inr v0), (1, .inr v1), (2, .inl v2), (3, .inl v3), (4, .inl t0)] [.inl (v2 - (σ.2.1 (σ.2.2 v0 0) v3.toNatClampNeg)), .inl v3, .inr (σ.2.2 v0 1)] σ 0 0 (PV K)))) : GW l mX2_seekLacks 112 [(0, .inr v0), (1, .inr v1), (2, .inl v2), (3, .inl v3)] [.inl t0] σ 0 0 (PV K) := by
  refine gw_istore (lo' := [(0, .inr v0), (1, .inr v1), (2, .inl v2), (3, .inl v3), (4, .inl t0)]) dX2_seekLacks_112 (by decide) rfl ?_
  refine gw_aload_n (q := 0) dX2_seekLacks_114 rfl rfl ?_
  obtain ⟨g1, h⟩ := h
  refine gw_gR fX2_15 dX2_seekLacks_115 g1 ?_
  refine gw_iload_n (q := 3) dX2_seekLacks_118 rfl rfl ?_
  refine gw_iload (q := 4) dX2_seekLacks_119 rfl ?_
  refine gw_if_eq (tgt := 135) dX2_seekLacks_121 (by decide) (fun c2 => ?_) (fun c2 => ?_)
  · replace h := h.1 c2
    refine gw_iconst (v := 0) dX2_seekLacks_135 ic_0 ?_
    exact h
  · replace h := h.2 c2
    refine gw_iload_n (q := 2) dX2_seekLacks_124 rfl rfl ?_
    refine gw_aload_n (q := 0) dX2_seekLacks_125 rfl rfl ?_
    refine gw_gR fX2_9 dX2_seekLacks_126 g1 ?_
    refine gw_iload_n (q := 3) dX2_seekLacks_129 rfl rfl ?_
    obtain ⟨g3, h⟩ := h
    refine gw_aI dX2_seekLacks_130 g3 ?_
    refine gw_isub dX2_seekLacks_131 ?_
    refine gw_goto (tgt := 136) dX2_seekLacks_132 (by decide) ?_
    exact h
set_option maxHeartbeats 4000000 in
set_option maxRecDepth 20000 in
theorem gX2_seekLacks_80 {l : Launch} {v0 : Nat} {v1 : Nat} {v2 : Int32} {v3 : Int32} {σ : Sg} {K : Sg → Prop} (h : ((256 ≤ v3 → K σ) ∧ (¬ 256 ≤ v3 → Ob σ v0 2 ∧ Ai σ (σ.2.2 v0 0) v3 ∧ ((v2 ≤ (σ.2.1 (σ.2.2 v0 0) v3.toNatClampNeg) → GW l mX2_seekLacks 112 [(0, .inr v0), (1, .inr v1), (2, .inl v2), (3, .inl v3)] [.inl 0] σ 0 0 (PV K)) ∧ (¬ v2 ≤ (σ.2.1 (σ.2.2 v0 0) v3.toNatClampNeg) → Ai σ (σ.2.2 v0 1) v3 ∧ (((σ.2.1 (σ.2.2 v0 1) v3.toNatClampNeg) < v2 → GW l mX2_seekLacks 112 [(0, .inr v0), (1, .inr v1), (2, .inl v2), (3, .inl v3)] [.inl 0] σ 0 0 (PV K)) ∧ (¬ (σ.2.1 (σ.2.2 v0 1) v3.toNatClampNeg) < v2 → GW l mX2_seekLacks 112 [(0, .inr v0), (1, .inr v1), (2, .inl v2), (3, .inl v3)] [.inl 1] σ 0 0 (PV K)))))))) : GW l mX2_seekLacks 80 [(0, .inr v0), (1, .inr v1), (2, .inl v2), (3, .inl v3)] [] σ 0 0 (PV K) := by
  refine gw_iload_n (q := 3) dX2_seekLacks_80 rfl rfl ?_
  refine gw_sipush (v := 256) dX2_seekLacks_81 sp_256 ?_
  refine gw_icmp_ge (tgt := 162) dX2_seekLacks_84 (by decide) (fun c1 => ?_) (fun c1 => ?_)
  · replace h := h.1 c1
    exact gw_rV dX2_seekLacks_162 rfl (by decide) (by decide) h
  · replace h := h.2 c1
    refine gw_aload_n (q := 0) dX2_seekLacks_87 rfl rfl ?_
    obtain ⟨g2, h⟩ := h
    refine gw_gR fX2_9 dX2_seekLacks_88 g2 ?_
    refine gw_iload_n (q := 3) dX2_seekLacks_91 rfl rfl ?_
    obtain ⟨g3, h⟩ := h
    refine gw_aI dX2_seekLacks_92 g3 ?_
    refine gw_iload_n (q := 2) dX2_seekLacks_93 rfl rfl ?_
    refine gw_icmp_ge (tgt := 111) dX2_seekLacks_94 (by decide) (fun c4 => ?_) (fun c4 => ?_)
    · replace h := h.1 c4
      refine gw_iconst (v := 0) dX2_seekLacks_111 ic_0 ?_
      exact h
    · replace h := h.2 c4
      refine gw_aload_n (q := 0) dX2_seekLacks_97 rfl rfl ?_
      refine gw_gR fX2_15 dX2_seekLacks_98 g2 ?_
      refine gw_iload_n (q := 3) dX2_seekLacks_101 rfl rfl ?_
      obtain ⟨g5, h⟩ := h
      refine gw_aI dX2_seekLacks_102 g5 ?_
      refine gw_iload_n (q := 2) dX2_seekLacks_103 rfl rfl ?_
      refine gw_icmp_lt (tgt := 111) dX2_seekLacks_104 (by decide) (fun c6 => ?_) (fun c6 => ?_)
      · replace h := h.1 c6
        refine gw_iconst (v := 0) dX2_seekLacks_111 ic_0 ?_
        exact h
      · replace h := h.2 c6
        refine gw_iconst (v := 1) dX2_seekLacks_107 ic_1 ?_
        refine gw_goto (tgt := 112) dX2_seekLacks_108 (by decide) ?_
        exact h
set_option maxHeartbeats 4000000 in
set_option maxRecDepth 20000 in
theorem gX2_seekLacks_24 {l : Launch} {v0 : Nat} {v1 : Nat} {v2 : Int32} {v3 : Int32} {σ : Sg} {K : Sg → Prop} (h : Ob σ v1 8 ∧ Con l mX8_ticks [.inr v1] σ (PI (fun x1 σ1 => ((x1 ≤ v3 → Ob σ1 v0 2 ∧ ∀ σ5, σ5 = w1 σ1 v0 2 0 → GW l mX2_seekLacks 80 [(0, .inr v0), (1, .inr v1), (2, .inl v2), (3, .inl 0)] [] σ5 0 0 (PV K)) ∧ (¬ x1 ≤ v3 → Con l mX8_spotAt [.inr v1, .inl v3] σ1 (PI (fun x6 σ6 => ((x6 < 0 → GW l mX2_seekLacks 24 [(0, .inr v0), (1, .inr v1), (2, .inl v2), (3, .inl (v3 + 1))] [] σ6 0 0 (PV K)) ∧ (¬ x6 < 0 → ((256 ≤ x6 → GW l mX2_seekLacks 24 [(0, .inr v0), (1, .inr v1), (2, .inl v2), (3, .inl (v3 + 1))] [] σ6 0 0 (PV K)) ∧ (¬ 256 ≤ x6 → Ob σ6 v0 2 ∧ Ai σ6 (σ6.2.2 v0 1) x6 ∧ Con l mX8_amountAt [.inr v1, .inl v3] σ6 (PI (fun x11 σ11 => ∀ σ12, σ12 = w1 σ11 (σ6.2.2 v0 1) x6.toNatClampNeg ((σ6.2.1 (σ6.2.2 v0 1) x6.toNatClampNeg) + x11) → GW l mX2_seekLacks 24 [(0, .inr v0), (1, .inr v1), (2, .inl v2), (3, .inl (v3 + 1))] [] σ12 0 0 (PV K)))))))))))))) : GW l mX2_seekLacks 24 [(0, .inr v0), (1, .inr v1), (2, .inl v2), (3, .inl v3)] [] σ 0 0 (PV K) := by
  refine gw_iload_n (q := 3) dX2_seekLacks_24 rfl rfl ?_
  refine gw_aload_n (q := 1) dX2_seekLacks_25 rfl rfl ?_
  obtain ⟨g2, h⟩ := h
  refine gw_vC (bs := []) (st := [.inl v3]) (vmX8_ticks) lX2_22 dX2_seekLacks_26 ⟨by decide, rfl, rfl, by decide, by decide⟩ (Nat.le_of_ble_eq_true rfl) rfl rfl g2 h (kI (fun x1 σ1 h n1 => ?_))
  refine gw_icmp_ge (tgt := 73) dX2_seekLacks_29 (by decide) (fun c3 => ?_) (fun c3 => ?_)
  · replace h := h.1 c3
    refine gw_aload_n (q := 0) dX2_seekLacks_73 rfl rfl ?_
    refine gw_iconst (v := 0) dX2_seekLacks_74 ic_0 ?_
    obtain ⟨g4, h⟩ := h
    refine gw_pI fX2_53 dX2_seekLacks_75 g4 (fun σ5 e5 => ?_)
    replace h := h σ5 e5
    refine gw_iconst (v := 0) dX2_seekLacks_78 ic_0 ?_
    refine gw_istore_n (lo' := [(0, .inr v0), (1, .inr v1), (2, .inl v2), (3, .inl 0)]) dX2_seekLacks_79 rfl (by decide) rfl ?_
    exact h
  · replace h := h.2 c3
    refine gw_aload_n (q := 1) dX2_seekLacks_32 rfl rfl ?_
    refine gw_iload_n (q := 3) dX2_seekLacks_33 rfl rfl ?_
    refine gw_vC (bs := [.inl v3]) (st := []) (vmX8_spotAt) lX2_28 dX2_seekLacks_34 ⟨by decide, rfl, rfl, by decide, by decide⟩ (Nat.le_of_ble_eq_true rfl) rfl rfl (g2.up n1) h (kI (fun x6 σ6 h n6 => ?_))
    refine gw_istore (lo' := [(0, .inr v0), (1, .inr v1), (2, .inl v2), (3, .inl v3), (4, .inl x6)]) dX2_seekLacks_37 (by decide) rfl ?_
    refine gw_iload (q := 4) dX2_seekLacks_39 rfl ?_
    refine gw_if_lt (tgt := 67) dX2_seekLacks_41 (by decide) (fun c7 => ?_) (fun c7 => ?_)
    · replace h := h.1 c7
      refine gw_inc (lo' := [(0, .inr v0), (1, .inr v1), (2, .inl v2), (3, .inl (v3 + 1)), (4, .inl x6)]) (q := 3) (c := 1) dX2_seekLacks_67 ic_1 rfl (by decide) rfl ?_
      refine gw_goto (tgt := 24) dX2_seekLacks_70 (by decide) ?_
      refine gw_pick [0, 1, 2, 3] rfl ?_
      exact h
    · replace h := h.2 c7
      refine gw_iload (q := 4) dX2_seekLacks_44 rfl ?_
      refine gw_sipush (v := 256) dX2_seekLacks_46 sp_256 ?_
      refine gw_icmp_ge (tgt := 67) dX2_seekLacks_49 (by decide) (fun c8 => ?_) (fun c8 => ?_)
      · replace h := h.1 c8
        refine gw_inc (lo' := [(0, .inr v0), (1, .inr v1), (2, .inl v2), (3, .inl (v3 + 1)), (4, .inl x6)]) (q := 3) (c := 1) dX2_seekLacks_67 ic_1 rfl (by decide) rfl ?_
        refine gw_goto (tgt := 24) dX2_seekLacks_70 (by decide) ?_
        refine gw_pick [0, 1, 2, 3] rfl ?_
        exact h
      · replace h := h.2 c8
        refine gw_aload_n (q := 0) dX2_seekLacks_52 rfl rfl ?_
        obtain ⟨g9, h⟩ := h
        refine gw_gR fX2_15 dX2_seekLacks_53 g9 ?_
        refine gw_iload (q := 4) dX2_seekLacks_56 rfl ?_
        refine gw_dup2 dX2_seekLacks_58 ?_
        obtain ⟨g10, h⟩ := h
        refine gw_aI dX2_seekLacks_59 g10 ?_
        refine gw_aload_n (q := 1) dX2_seekLacks_60 rfl rfl ?_
        refine gw_iload_n (q := 3) dX2_seekLacks_61 rfl rfl ?_
        refine gw_vC (bs := [.inl v3]) (st := [.inl (σ6.2.1 (σ6.2.2 v0 1) x6.toNatClampNeg), .inl x6, .inr (σ6.2.2 v0 1)]) (vmX8_amountAt) lX2_32 dX2_seekLacks_62 ⟨by decide, rfl, rfl, by decide, by decide⟩ (Nat.le_of_ble_eq_true rfl) rfl rfl ((g2.up n1).up n6) h (kI (fun x11 σ11 h n11 => ?_))
        refine gw_iadd dX2_seekLacks_65 ?_
        refine gw_sI dX2_seekLacks_66 (g10.up n11) (fun σ12 e12 => ?_)
        replace h := h σ12 e12
        refine gw_inc (lo' := [(0, .inr v0), (1, .inr v1), (2, .inl v2), (3, .inl (v3 + 1)), (4, .inl x6)]) (q := 3) (c := 1) dX2_seekLacks_67 ic_1 rfl (by decide) rfl ?_
        refine gw_goto (tgt := 24) dX2_seekLacks_70 (by decide) ?_
        refine gw_pick [0, 1, 2, 3] rfl ?_
        exact h
set_option maxHeartbeats 4000000 in
set_option maxRecDepth 20000 in
theorem gX2_seekLacks_2 {l : Launch} {v0 : Nat} {v1 : Nat} {v2 : Int32} {v3 : Int32} {σ : Sg} {K : Sg → Prop} (h : ((256 ≤ v3 → GW l mX2_seekLacks 24 [(0, .inr v0), (1, .inr v1), (2, .inl v2), (3, .inl 0)] [] σ 0 0 (PV K)) ∧ (¬ 256 ≤ v3 → Ob σ v0 2 ∧ Ai σ (σ.2.2 v0 1) v3 ∧ ∀ σ4, σ4 = w1 σ (σ.2.2 v0 1) v3.toNatClampNeg 0 → GW l mX2_seekLacks 2 [(0, .inr v0), (1, .inr v1), (2, .inl v2), (3, .inl (v3 + 1))] [] σ4 0 0 (PV K)))) : GW l mX2_seekLacks 2 [(0, .inr v0), (1, .inr v1), (2, .inl v2), (3, .inl v3)] [] σ 0 0 (PV K) := by
  refine gw_iload_n (q := 3) dX2_seekLacks_2 rfl rfl ?_
  refine gw_sipush (v := 256) dX2_seekLacks_3 sp_256 ?_
  refine gw_icmp_ge (tgt := 22) dX2_seekLacks_6 (by decide) (fun c1 => ?_) (fun c1 => ?_)
  · replace h := h.1 c1
    refine gw_iconst (v := 0) dX2_seekLacks_22 ic_0 ?_
    refine gw_istore_n (lo' := [(0, .inr v0), (1, .inr v1), (2, .inl v2), (3, .inl 0)]) dX2_seekLacks_23 rfl (by decide) rfl ?_
    exact h
  · replace h := h.2 c1
    refine gw_aload_n (q := 0) dX2_seekLacks_9 rfl rfl ?_
    obtain ⟨g2, h⟩ := h
    refine gw_gR fX2_15 dX2_seekLacks_10 g2 ?_
    refine gw_iload_n (q := 3) dX2_seekLacks_13 rfl rfl ?_
    refine gw_iconst (v := 0) dX2_seekLacks_14 ic_0 ?_
    obtain ⟨g3, h⟩ := h
    refine gw_sI dX2_seekLacks_15 g3 (fun σ4 e4 => ?_)
    replace h := h σ4 e4
    refine gw_inc (lo' := [(0, .inr v0), (1, .inr v1), (2, .inl v2), (3, .inl (v3 + 1))]) (q := 3) (c := 1) dX2_seekLacks_16 ic_1 rfl (by decide) rfl ?_
    refine gw_goto (tgt := 2) dX2_seekLacks_19 (by decide) ?_
    exact h
set_option maxHeartbeats 4000000 in
set_option maxRecDepth 20000 in
theorem eX2_seekLacks {l : Launch} {v0 : Nat} {v1 : Nat} {v2 : Int32} {σ : Sg} {K : Sg → Prop} (h : GW l mX2_seekLacks 2 [(0, .inr v0), (1, .inr v1), (2, .inl v2), (3, .inl 0)] [] σ 0 0 (PV K)) : Con l mX2_seekLacks [.inr v0, .inr v1, .inl v2] σ (PV K) := by
  refine con_gw rfl (Nat.le_of_ble_eq_true rfl) ?_
  show GW l mX2_seekLacks 0 [(0, .inr v0), (1, .inr v1), (2, .inl v2)] [] σ 0 0 (PV K)
  refine gw_iconst (v := 0) dX2_seekLacks_0 ic_0 ?_
  refine gw_istore_n (lo' := [(0, .inr v0), (1, .inr v1), (2, .inl v2), (3, .inl 0)]) dX2_seekLacks_1 rfl (by decide) rfl ?_
  exact h
set_option maxHeartbeats 4000000 in
set_option maxRecDepth 20000 in
theorem gX2_change_36 {l : Launch} {v0 : Nat} {v1 : Nat} {v2 : Int32} {v3 : Int32} {v4 : Int32} {t0 : Int32} {σ : Sg} {K : Sg → Prop} (h : Ob σ v0 2 ∧ Ai σ (σ.2.2 v0 1) v4 ∧ Ob σ v1 8 ∧ Con l mX8_amountAt [.inr v1, .inl v2] σ (PI (fun x3 σ3 => ∀ σ5, σ5 = w1 σ3 (σ.2.2 v0 1) v4.toNatClampNeg ((σ.2.1 (σ.2.2 v0 1) v4.toNatClampNeg) - (v3 * x3)) → Ai σ5 (σ5.2.2 v0 1) v4 ∧ (((σ5.2.1 (σ5.2.2 v0 1) v4.toNatClampNeg) ≤ 0 → ∀ σ8, σ8 = w1 σ5 v0 2 ((σ5.2.1 v0 2) + (0 - t0)) → K σ8) ∧ (¬ (σ5.2.1 (σ5.2.2 v0 1) v4.toNatClampNeg) ≤ 0 → ∀ σ9, σ9 = w1 σ5 v0 2 ((σ5.2.1 v0 2) + (1 - t0)) → K σ9))))) : GW l mX2_change 36 [(0, .inr v0), (1, .inr v1), (2, .inl v2), (3, .inl v3), (4, .inl v4)] [.inl t0] σ 0 0 (PV K) := by
  refine gw_istore (lo' := [(0, .inr v0), (1, .inr v1), (2, .inl v2), (3, .inl v3), (4, .inl v4), (5, .inl t0)]) dX2_change_36 (by decide) rfl ?_
  refine gw_aload_n (q := 0) dX2_change_38 rfl rfl ?_
  obtain ⟨g1, h⟩ := h
  refine gw_gR fX2_15 dX2_change_39 g1 ?_
  refine gw_iload (q := 4) dX2_change_42 rfl ?_
  refine gw_dup2 dX2_change_44 ?_
  obtain ⟨g2, h⟩ := h
  refine gw_aI dX2_change_45 g2 ?_
  refine gw_iload_n (q := 3) dX2_change_46 rfl rfl ?_
  refine gw_aload_n (q := 1) dX2_change_47 rfl rfl ?_
  refine gw_iload_n (q := 2) dX2_change_48 rfl rfl ?_
  obtain ⟨g4, h⟩ := h
  refine gw_vC (bs := [.inl v2]) (st := [.inl v3, .inl (σ.2.1 (σ.2.2 v0 1) v4.toNatClampNeg), .inl v4, .inr (σ.2.2 v0 1)]) (vmX8_amountAt) lX2_32 dX2_change_49 ⟨by decide, rfl, rfl, by decide, by decide⟩ (Nat.le_of_ble_eq_true rfl) rfl rfl g4 h (kI (fun x3 σ3 h n3 => ?_))
  refine gw_imul dX2_change_52 ?_
  refine gw_isub dX2_change_53 ?_
  refine gw_sI dX2_change_54 (g2.up n3) (fun σ5 e5 => ?_)
  replace h := h σ5 e5
  refine gw_aload_n (q := 0) dX2_change_55 rfl rfl ?_
  refine gw_gR fX2_15 dX2_change_56 ((g1.up n3).up (n_w1 e5)) ?_
  refine gw_iload (q := 4) dX2_change_59 rfl ?_
  obtain ⟨g6, h⟩ := h
  refine gw_aI dX2_change_61 g6 ?_
  refine gw_if_le (tgt := 69) dX2_change_62 (by decide) (fun c7 => ?_) (fun c7 => ?_)
  · replace h := h.1 c7
    refine gw_iconst (v := 0) dX2_change_69 ic_0 ?_
    refine gw_istore (lo' := [(0, .inr v0), (1, .inr v1), (2, .inl v2), (3, .inl v3), (4, .inl v4), (5, .inl t0), (6, .inl 0)]) dX2_change_70 (by decide) rfl ?_
    refine gw_aload_n (q := 0) dX2_change_72 rfl rfl ?_
    refine gw_dup dX2_change_73 ?_
    refine gw_gI fX2_53 dX2_change_74 ((g1.up n3).up (n_w1 e5)) ?_
    refine gw_iload (q := 6) dX2_change_77 rfl ?_
    refine gw_iload (q := 5) dX2_change_79 rfl ?_
    refine gw_isub dX2_change_81 ?_
    refine gw_iadd dX2_change_82 ?_
    refine gw_pI fX2_53 dX2_change_83 ((g1.up n3).up (n_w1 e5)) (fun σ8 e8 => ?_)
    replace h := h σ8 e8
    exact gw_rV dX2_change_86 rfl (by decide) (by decide) h
  · replace h := h.2 c7
    refine gw_iconst (v := 1) dX2_change_65 ic_1 ?_
    refine gw_goto (tgt := 70) dX2_change_66 (by decide) ?_
    refine gw_istore (lo' := [(0, .inr v0), (1, .inr v1), (2, .inl v2), (3, .inl v3), (4, .inl v4), (5, .inl t0), (6, .inl 1)]) dX2_change_70 (by decide) rfl ?_
    refine gw_aload_n (q := 0) dX2_change_72 rfl rfl ?_
    refine gw_dup dX2_change_73 ?_
    refine gw_gI fX2_53 dX2_change_74 ((g1.up n3).up (n_w1 e5)) ?_
    refine gw_iload (q := 6) dX2_change_77 rfl ?_
    refine gw_iload (q := 5) dX2_change_79 rfl ?_
    refine gw_isub dX2_change_81 ?_
    refine gw_iadd dX2_change_82 ?_
    refine gw_pI fX2_53 dX2_change_83 ((g1.up n3).up (n_w1 e5)) (fun σ9 e9 => ?_)
    replace h := h σ9 e9
    exact gw_rV dX2_change_86 rfl (by decide) (by decide) h
set_option maxHeartbeats 4000000 in
set_option maxRecDepth 20000 in
theorem eX2_change {l : Launch} {v0 : Nat} {v1 : Nat} {v2 : Int32} {v3 : Int32} {σ : Sg} {K : Sg → Prop} (h : Ob σ v1 8 ∧ Con l mX8_spotAt [.inr v1, .inl v2] σ (PI (fun x1 σ1 => ((x1 < 0 → K σ1) ∧ (¬ x1 < 0 → ((x1 < 256 → Ob σ1 v0 2 ∧ Ai σ1 (σ1.2.2 v0 1) x1 ∧ (((σ1.2.1 (σ1.2.2 v0 1) x1.toNatClampNeg) ≤ 0 → GW l mX2_change 36 [(0, .inr v0), (1, .inr v1), (2, .inl v2), (3, .inl v3), (4, .inl x1)] [.inl 0] σ1 0 0 (PV K)) ∧ (¬ (σ1.2.1 (σ1.2.2 v0 1) x1.toNatClampNeg) ≤ 0 → GW l mX2_change 36 [(0, .inr v0), (1, .inr v1), (2, .inl v2), (3, .inl v3), (4, .inl x1)] [.inl 1] σ1 0 0 (PV K)))) ∧ (¬ x1 < 256 → K σ1))))))) : Con l mX2_change [.inr v0, .inr v1, .inl v2, .inl v3] σ (PV K) := by
  refine con_gw rfl (Nat.le_of_ble_eq_true rfl) ?_
  show GW l mX2_change 0 [(0, .inr v0), (1, .inr v1), (2, .inl v2), (3, .inl v3)] [] σ 0 0 (PV K)
  refine gw_aload_n (q := 1) dX2_change_0 rfl rfl ?_
  refine gw_iload_n (q := 2) dX2_change_1 rfl rfl ?_
  obtain ⟨g2, h⟩ := h
  refine gw_vC (bs := [.inl v2]) (st := []) (vmX8_spotAt) lX2_28 dX2_change_2 ⟨by decide, rfl, rfl, by decide, by decide⟩ (Nat.le_of_ble_eq_true rfl) rfl rfl g2 h (kI (fun x1 σ1 h n1 => ?_))
  refine gw_istore (lo' := [(0, .inr v0), (1, .inr v1), (2, .inl v2), (3, .inl v3), (4, .inl x1)]) dX2_change_5 (by decide) rfl ?_
  refine gw_iload (q := 4) dX2_change_7 rfl ?_
  refine gw_if_lt (tgt := 20) dX2_change_9 (by decide) (fun c3 => ?_) (fun c3 => ?_)
  · replace h := h.1 c3
    exact gw_rV dX2_change_20 rfl (by decide) (by decide) h
  · replace h := h.2 c3
    refine gw_iload (q := 4) dX2_change_12 rfl ?_
    refine gw_sipush (v := 256) dX2_change_14 sp_256 ?_
    refine gw_icmp_lt (tgt := 21) dX2_change_17 (by decide) (fun c4 => ?_) (fun c4 => ?_)
    · replace h := h.1 c4
      refine gw_aload_n (q := 0) dX2_change_21 rfl rfl ?_
      obtain ⟨g5, h⟩ := h
      refine gw_gR fX2_15 dX2_change_22 g5 ?_
      refine gw_iload (q := 4) dX2_change_25 rfl ?_
      obtain ⟨g6, h⟩ := h
      refine gw_aI dX2_change_27 g6 ?_
      refine gw_if_le (tgt := 35) dX2_change_28 (by decide) (fun c7 => ?_) (fun c7 => ?_)
      · replace h := h.1 c7
        refine gw_iconst (v := 0) dX2_change_35 ic_0 ?_
        exact h
      · replace h := h.2 c7
        refine gw_iconst (v := 1) dX2_change_31 ic_1 ?_
        refine gw_goto (tgt := 36) dX2_change_32 (by decide) ?_
        exact h
    · replace h := h.2 c4
      exact gw_rV dX2_change_20 rfl (by decide) (by decide) h
