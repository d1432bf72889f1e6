set_option maxHeartbeats 4000000 in
set_option maxRecDepth 20000 in
theorem gX12_lays_6 {l : Launch} {v0 : Nat} {v1 : Nat} {v2 : Int32} {v3 : Int32} {v4 : Int32} {v5 : Int32} {v6 : Int32} {v7 : Int32} {v8 : Int32} {v9 : Int32} {v10 : Int32} {v11 : Int32} {v12 : Int32} {σ : Sg} {K : Int32 → Sg → Prop} (h : ((v4 < v12 → K v11 σ) ∧ (¬ v4 < v12 → Ob σ v0 12 ∧ Ai σ (σ.2.2 v0 17) v2 ∧ Con l mX12_worn [.inr v0, .inl v2, .inl v12, .inl v7, .inl v8, .inl v9, .inl v10] σ (PI (fun x4 σ4 => Con l mX12_spotOf [.inr v0, .inl (σ.2.1 (σ.2.2 v0 17) v2.toNatClampNeg), .inl x4, .inl v12, .inl v5, .inl v6] σ4 (PI (fun x5 σ5 => ((¬ x5 = (-1) → Ai σ5 v1 x5 ∧ Ai σ5 (σ5.2.2 v0 20) ((40 * v2) + v12) ∧ ∀ σ9, σ9 = w1 σ5 v1 x5.toNatClampNeg ((σ5.2.1 v1 x5.toNatClampNeg) + (((σ5.2.1 (σ5.2.2 v0 20) ((40 * v2) + v12).toNatClampNeg) * (σ5.2.1 v0 39)) / 10)) → Ai σ9 (σ9.2.2 v0 20) ((40 * v2) + v12) ∧ GW l mX12_lays 6 [(0, .inr v0), (1, .inr v1), (2, .inl v2), (3, .inl v3), (4, .inl v4), (5, .inl v5), (6, .inl v6), (7, .inl v7), (8, .inl v8), (9, .inl v9), (10, .inl v10), (11, .inl (v11 + (((σ9.2.1 (σ9.2.2 v0 20) ((40 * v2) + v12).toNatClampNeg) * (σ9.2.1 v0 39)) / 10))), (12, .inl (v12 + 1))] [] σ9 0 0 (PI K)) ∧ (x5 = (-1) → GW l mX12_lays 6 [(0, .inr v0), (1, .inr v1), (2, .inl v2), (3, .inl v3), (4, .inl v4), (5, .inl v5), (6, .inl v6), (7, .inl v7), (8, .inl v8), (9, .inl v9), (10, .inl v10), (11, .inl v11), (12, .inl (v12 + 1))] [] σ5 0 0 (PI K)))))))))) : GW l mX12_lays 6 [(0, .inr v0), (1, .inr v1), (2, .inl v2), (3, .inl v3), (4, .inl v4), (5, .inl v5), (6, .inl v6), (7, .inl v7), (8, .inl v8), (9, .inl v9), (10, .inl v10), (11, .inl v11), (12, .inl v12)] [] σ 0 0 (PI K) := by
  refine gw_iload (q := 12) dX12_lays_6 rfl ?_
  refine gw_iload (q := 4) dX12_lays_8 rfl ?_
  refine gw_icmp_gt (tgt := 113) dX12_lays_10 (by decide) (fun c1 => ?_) (fun c1 => ?_)
  · replace h := h.1 c1
    refine gw_iload (q := 11) dX12_lays_113 rfl ?_
    exact gw_rI dX12_lays_115 rfl (by decide) (by decide) h
  · replace h := h.2 c1
    refine gw_aload_n (q := 0) dX12_lays_13 rfl rfl ?_
    refine gw_aload_n (q := 0) dX12_lays_14 rfl rfl ?_
    obtain ⟨g2, h⟩ := h
    refine gw_gR fX12_51 dX12_lays_15 g2 ?_
    refine gw_iload_n (q := 2) dX12_lays_18 rfl rfl ?_
    obtain ⟨g3, h⟩ := h
    refine gw_aI dX12_lays_19 g3 ?_
    refine gw_aload_n (q := 0) dX12_lays_20 rfl rfl ?_
    refine gw_iload_n (q := 2) dX12_lays_21 rfl rfl ?_
    refine gw_iload (q := 12) dX12_lays_22 rfl ?_
    refine gw_iload (q := 7) dX12_lays_24 rfl ?_
    refine gw_iload (q := 8) dX12_lays_26 rfl ?_
    refine gw_iload (q := 9) dX12_lays_28 rfl ?_
    refine gw_iload (q := 10) dX12_lays_30 rfl ?_
    refine gw_vC (bs := [.inl v2, .inl v12, .inl v7, .inl v8, .inl v9, .inl v10]) (st := [.inl (σ.2.1 (σ.2.2 v0 17) v2.toNatClampNeg), .inr v0]) (vmX12_worn) lX12_285 dX12_lays_32 ⟨by decide, rfl, rfl, by decide, by decide⟩ (Nat.le_of_ble_eq_true rfl) rfl rfl g2 h (kI (fun x4 σ4 h n4 => ?_))
    refine gw_iload (q := 12) dX12_lays_35 rfl ?_
    refine gw_iload (q := 5) dX12_lays_37 rfl ?_
    refine gw_iload (q := 6) dX12_lays_39 rfl ?_
    refine gw_vC (bs := [.inl (σ.2.1 (σ.2.2 v0 17) v2.toNatClampNeg), .inl x4, .inl v12, .inl v5, .inl v6]) (st := []) (vmX12_spotOf) lX12_289 dX12_lays_41 ⟨by decide, rfl, rfl, by decide, by decide⟩ (Nat.le_of_ble_eq_true rfl) rfl rfl (g2.up n4) h (kI (fun x5 σ5 h n5 => ?_))
    refine gw_istore (lo' := [(0, .inr v0), (1, .inr v1), (2, .inl v2), (3, .inl v3), (4, .inl v4), (5, .inl v5), (6, .inl v6), (7, .inl v7), (8, .inl v8), (9, .inl v9), (10, .inl v10), (11, .inl v11), (12, .inl v12), (13, .inl x5)]) dX12_lays_44 (by decide) rfl ?_
    refine gw_iload (q := 13) dX12_lays_46 rfl ?_
    refine gw_iconst (v := (-1)) dX12_lays_48 ic_m1 ?_
    refine gw_icmp_ne (tgt := 55) dX12_lays_49 (by decide) (fun c6 => ?_) (fun c6 => ?_)
    · replace h := h.1 c6
      refine gw_aload_n (q := 1) dX12_lays_55 rfl rfl ?_
      refine gw_iload (q := 13) dX12_lays_56 rfl ?_
      refine gw_dup2 dX12_lays_58 ?_
      obtain ⟨g7, h⟩ := h
      refine gw_aI dX12_lays_59 g7 ?_
      refine gw_aload_n (q := 0) dX12_lays_60 rfl rfl ?_
      refine gw_gR fX12_60 dX12_lays_61 ((g2.up n4).up n5) ?_
      refine gw_bipush (v := 40) dX12_lays_64 bp_40 ?_
      refine gw_iload_n (q := 2) dX12_lays_66 rfl rfl ?_
      refine gw_imul dX12_lays_67 ?_
      refine gw_iload (q := 12) dX12_lays_68 rfl ?_
      refine gw_iadd dX12_lays_70 ?_
      obtain ⟨g8, h⟩ := h
      refine gw_aI dX12_lays_71 g8 ?_
      refine gw_aload_n (q := 0) dX12_lays_72 rfl rfl ?_
      refine gw_gI fX12_82 dX12_lays_73 ((g2.up n4).up n5) ?_
      refine gw_imul dX12_lays_76 ?_
      refine gw_bipush (v := 10) dX12_lays_77 bp_10 ?_
      refine gw_idiv dX12_lays_79 (by decide) ?_
      refine gw_iadd dX12_lays_80 ?_
      refine gw_sI dX12_lays_81 g7 (fun σ9 e9 => ?_)
      replace h := h σ9 e9
      refine gw_iload (q := 11) dX12_lays_82 rfl ?_
      refine gw_aload_n (q := 0) dX12_lays_84 rfl rfl ?_
      refine gw_gR fX12_60 dX12_lays_85 (((g2.up n4).up n5).up (n_w1 e9)) ?_
      refine gw_bipush (v := 40) dX12_lays_88 bp_40 ?_
      refine gw_iload_n (q := 2) dX12_lays_90 rfl rfl ?_
      refine gw_imul dX12_lays_91 ?_
      refine gw_iload (q := 12) dX12_lays_92 rfl ?_
      refine gw_iadd dX12_lays_94 ?_
      obtain ⟨g10, h⟩ := h
      refine gw_aI dX12_lays_95 g10 ?_
      refine gw_aload_n (q := 0) dX12_lays_96 rfl rfl ?_
      refine gw_gI fX12_82 dX12_lays_97 (((g2.up n4).up n5).up (n_w1 e9)) ?_
      refine gw_imul dX12_lays_100 ?_
      refine gw_bipush (v := 10) dX12_lays_101 bp_10 ?_
      refine gw_idiv dX12_lays_103 (by decide) ?_
      refine gw_iadd dX12_lays_104 ?_
      refine gw_istore (lo' := [(0, .inr v0), (1, .inr v1), (2, .inl v2), (3, .inl v3), (4, .inl v4), (5, .inl v5), (6, .inl v6), (7, .inl v7), (8, .inl v8), (9, .inl v9), (10, .inl v10), (11, .inl (v11 + (((σ9.2.1 (σ9.2.2 v0 20) ((40 * v2) + v12).toNatClampNeg) * (σ9.2.1 v0 39)) / 10))), (12, .inl v12), (13, .inl x5)]) dX12_lays_105 (by decide) rfl ?_
      refine gw_inc (lo' := [(0, .inr v0), (1, .inr v1), (2, .inl v2), (3, .inl v3), (4, .inl v4), (5, .inl v5), (6, .inl v6), (7, .inl v7), (8, .inl v8), (9, .inl v9), (10, .inl v10), (11, .inl (v11 + (((σ9.2.1 (σ9.2.2 v0 20) ((40 * v2) + v12).toNatClampNeg) * (σ9.2.1 v0 39)) / 10))), (12, .inl (v12 + 1)), (13, .inl x5)]) (q := 12) (c := 1) dX12_lays_107 ic_1 rfl (by decide) rfl ?_
      refine gw_goto (tgt := 6) dX12_lays_110 (by decide) ?_
      refine gw_pick [0, 1, 2, 3, 4, 5, 6, 7, 8, 9, 10, 11, 12] rfl ?_
      exact h
    · replace h := h.2 c6
      refine gw_goto (tgt := 107) dX12_lays_52 (by decide) ?_
      refine gw_inc (lo' := [(0, .inr v0), (1, .inr v1), (2, .inl v2), (3, .inl v3), (4, .inl v4), (5, .inl v5), (6, .inl v6), (7, .inl v7), (8, .inl v8), (9, .inl v9), (10, .inl v10), (11, .inl v11), (12, .inl (v12 + 1)), (13, .inl x5)]) (q := 12) (c := 1) dX12_lays_107 ic_1 rfl (by decide) rfl ?_
      refine gw_goto (tgt := 6) dX12_lays_110 (by decide) ?_
      refine gw_pick [0, 1, 2, 3, 4, 5, 6, 7, 8, 9, 10, 11, 12] rfl ?_
      exact h
set_option maxHeartbeats 4000000 in
set_option maxRecDepth 20000 in
theorem eX12_lays {l : Launch} {v0 : Nat} {v1 : Nat} {v2 : Int32} {v3 : Int32} {v4 : Int32} {v5 : Int32} {v6 : Int32} {v7 : Int32} {v8 : Int32} {v9 : Int32} {v10 : Int32} {σ : Sg} {K : Int32 → Sg → Prop} (h : GW l mX12_lays 6 [(0, .inr v0), (1, .inr v1), (2, .inl v2), (3, .inl v3), (4, .inl v4), (5, .inl v5), (6, .inl v6), (7, .inl v7), (8, .inl v8), (9, .inl v9), (10, .inl v10), (11, .inl 0), (12, .inl v3)] [] σ 0 0 (PI K)) : Con l mX12_lays [.inr v0, .inr v1, .inl v2, .inl v3, .inl v4, .inl v5, .inl v6, .inl v7, .inl v8, .inl v9, .inl v10] σ (PI K) := by
  refine con_gw rfl (Nat.le_of_ble_eq_true rfl) ?_
  show GW l mX12_lays 0 [(0, .inr v0), (1, .inr v1), (2, .inl v2), (3, .inl v3), (4, .inl v4), (5, .inl v5), (6, .inl v6), (7, .inl v7), (8, .inl v8), (9, .inl v9), (10, .inl v10)] [] σ 0 0 (PI K)
  refine gw_iconst (v := 0) dX12_lays_0 ic_0 ?_
  refine gw_istore (lo' := [(0, .inr v0), (1, .inr v1), (2, .inl v2), (3, .inl v3), (4, .inl v4), (5, .inl v5), (6, .inl v6), (7, .inl v7), (8, .inl v8), (9, .inl v9), (10, .inl v10), (11, .inl 0)]) dX12_lays_1 (by decide) rfl ?_
  refine gw_iload_n (q := 3) dX12_lays_3 rfl rfl ?_
  refine gw_istore (lo' := [(0, .inr v0), (1, .inr v1), (2, .inl v2), (3, .inl v3), (4, .inl v4), (5, .inl v5), (6, .inl v6), (7, .inl v7), (8, .inl v8), (9, .inl v9), (10, .inl v10), (11, .inl 0), (12, .inl v3)]) dX12_lays_4 (by decide) rfl ?_
  exact h
set_option maxHeartbeats 4000000 in
set_option maxRecDepth 20000 in
theorem gX12_empties_2 {l : Launch} {v0 : Nat} {v1 : Int32} {σ : Sg} {K : Sg → Prop} (h : Al σ v0 ∧ (((Int32.ofNat (shp v0).2) ≤ v1 → K σ) ∧ (¬ (Int32.ofNat (shp v0).2) ≤ v1 → Ai σ v0 v1 ∧ ∀ σ4, σ4 = w1 σ v0 v1.toNatClampNeg 0 → GW l mX12_empties 2 [(0, .inr v0), (1, .inl (v1 + 1))] [] σ4 0 0 (PV K)))) : GW l mX12_empties 2 [(0, .inr v0), (1, .inl v1)] [] σ 0 0 (PV K) := by
  refine gw_iload_n (q := 1) dX12_empties_2 rfl rfl ?_
  refine gw_aload_n (q := 0) dX12_empties_3 rfl rfl ?_
  obtain ⟨g1, h⟩ := h
  refine gw_aL dX12_empties_4 g1 ?_
  refine gw_icmp_ge (tgt := 18) dX12_empties_5 (by decide) (fun c2 => ?_) (fun c2 => ?_)
  · replace h := h.1 c2
    exact gw_rV dX12_empties_18 rfl (by decide) (by decide) h
  · replace h := h.2 c2
    refine gw_aload_n (q := 0) dX12_empties_8 rfl rfl ?_
    refine gw_iload_n (q := 1) dX12_empties_9 rfl rfl ?_
    refine gw_iconst (v := 0) dX12_empties_10 ic_0 ?_
    obtain ⟨g3, h⟩ := h
    refine gw_sI dX12_empties_11 g3 (fun σ4 e4 => ?_)
    replace h := h σ4 e4
    refine gw_inc (lo' := [(0, .inr v0), (1, .inl (v1 + 1))]) (q := 1) (c := 1) dX12_empties_12 ic_1 rfl (by decide) rfl ?_
    refine gw_goto (tgt := 2) dX12_empties_15 (by decide) ?_
    exact h
set_option maxHeartbeats 4000000 in
set_option maxRecDepth 20000 in
theorem eX12_empties {l : Launch} {v0 : Nat} {σ : Sg} {K : Sg → Prop} (h : GW l mX12_empties 2 [(0, .inr v0), (1, .inl 0)] [] σ 0 0 (PV K)) : Con l mX12_empties [.inr v0] σ (PV K) := by
  refine con_gw rfl (Nat.le_of_ble_eq_true rfl) ?_
  show GW l mX12_empties 0 [(0, .inr v0)] [] σ 0 0 (PV K)
  refine gw_iconst (v := 0) dX12_empties_0 ic_0 ?_
  refine gw_istore_n (lo' := [(0, .inr v0), (1, .inl 0)]) dX12_empties_1 rfl (by decide) rfl ?_
  exact h
set_option maxHeartbeats 4000000 in
set_option maxRecDepth 20000 in
theorem eX12_play {l : Launch} {v0 : Nat} {v1 : Int32} {v2 : Int32} {v3 : Int32} {σ : Sg} {K : Int32 → Sg → Prop} (h : Ob σ v0 12 ∧ ∀ σ2, σ2 = w1 σ v0 0 0 → Con l mX12_isTape [.inr v0, .inl v1] σ2 (PI (fun x3 σ3 => ((x3 = 0 → K (-1) σ3) ∧ (¬ x3 = 0 → Con l mX12_isDrift [.inl v2] σ3 (PI (fun x5 σ5 => ((x5 = 0 → K (-1) σ5) ∧ (¬ x5 = 0 → Con l mX12_isOffset [.inl v3] σ5 (PI (fun x7 σ7 => ((¬ x7 = 0 → Ai σ7 (σ7.2.2 v0 17) v1 ∧ Ai σ7 (σ7.2.2 v0 18) v1 ∧ Ai σ7 (σ7.2.2 v0 12) (σ7.2.1 (σ7.2.2 v0 17) v1.toNatClampNeg) ∧ Ai σ7 (σ7.2.2 v0 13) (σ7.2.1 (σ7.2.2 v0 17) v1.toNatClampNeg) ∧ Ai σ7 (σ7.2.2 v0 14) (σ7.2.1 (σ7.2.2 v0 17) v1.toNatClampNeg) ∧ Ai σ7 (σ7.2.2 v0 15) (σ7.2.1 (σ7.2.2 v0 17) v1.toNatClampNeg) ∧ Con l mX12_lays [.inr v0, .inr (σ7.2.2 v0 38), .inl v1, .inl 0, .inl ((σ7.2.1 (σ7.2.2 v0 18) v1.toNatClampNeg) - 1), .inl v2, .inl v3, .inl (σ7.2.1 (σ7.2.2 v0 12) (σ7.2.1 (σ7.2.2 v0 17) v1.toNatClampNeg).toNatClampNeg), .inl (σ7.2.1 (σ7.2.2 v0 13) (σ7.2.1 (σ7.2.2 v0 17) v1.toNatClampNeg).toNatClampNeg), .inl (σ7.2.1 (σ7.2.2 v0 14) (σ7.2.1 (σ7.2.2 v0 17) v1.toNatClampNeg).toNatClampNeg), .inl (σ7.2.1 (σ7.2.2 v0 15) (σ7.2.1 (σ7.2.2 v0 17) v1.toNatClampNeg).toNatClampNeg)] σ7 (PI (fun x15 σ15 => K x15 σ15))) ∧ (x7 = 0 → K (-1) σ7))))))))))))) : Con l mX12_play [.inr v0, .inl v1, .inl v2, .inl v3] σ (PI K) := by
  refine con_gw rfl (Nat.le_of_ble_eq_true rfl) ?_
  show GW l mX12_play 0 [(0, .inr v0), (1, .inl v1), (2, .inl v2), (3, .inl v3)] [] σ 0 0 (PI K)
  refine gw_aload_n (q := 0) dX12_play_0 rfl rfl ?_
  refine gw_iconst (v := 0) dX12_play_1 ic_0 ?_
  obtain ⟨g1, h⟩ := h
  refine gw_pI fX12_135 dX12_play_2 g1 (fun σ2 e2 => ?_)
  replace h := h σ2 e2
  refine gw_aload_n (q := 0) dX12_play_5 rfl rfl ?_
  refine gw_iload_n (q := 1) dX12_play_6 rfl rfl ?_
  refine gw_vC (bs := [.inl v1]) (st := []) (vmX12_isTape) lX12_181 dX12_play_7 ⟨by decide, rfl, rfl, by decide, by decide⟩ (Nat.le_of_ble_eq_true rfl) rfl rfl (g1.up (n_w1 e2)) h (kI (fun x3 σ3 h n3 => ?_))
  refine gw_if_eq (tgt := 27) dX12_play_10 (by decide) (fun c4 => ?_) (fun c4 => ?_)
  · replace h := h.1 c4
    refine gw_iconst (v := (-1)) dX12_play_27 ic_m1 ?_
    exact gw_rI dX12_play_28 rfl (by decide) (by decide) h
  · replace h := h.2 c4
    refine gw_iload_n (q := 2) dX12_play_13 rfl rfl ?_
    refine gw_sC (bs := [.inl v2]) (st := []) smX12_isDrift lX12_293 dX12_play_14 ⟨by decide, rfl, rfl, by decide, by decide⟩ (Nat.le_of_ble_eq_true rfl) rfl rfl h (kI (fun x5 σ5 h n5 => ?_))
    refine gw_if_eq (tgt := 27) dX12_play_17 (by decide) (fun c6 => ?_) (fun c6 => ?_)
    · replace h := h.1 c6
      refine gw_iconst (v := (-1)) dX12_play_27 ic_m1 ?_
      exact gw_rI dX12_play_28 rfl (by decide) (by decide) h
    · replace h := h.2 c6
      refine gw_iload_n (q := 3) dX12_play_20 rfl rfl ?_
      refine gw_sC (bs := [.inl v3]) (st := []) smX12_isOffset lX12_296 dX12_play_21 ⟨by decide, rfl, rfl, by decide, by decide⟩ (Nat.le_of_ble_eq_true rfl) rfl rfl h (kI (fun x7 σ7 h n7 => ?_))
      refine gw_if_ne (tgt := 29) dX12_play_24 (by decide) (fun c8 => ?_) (fun c8 => ?_)
      · replace h := h.1 c8
        refine gw_aload_n (q := 0) dX12_play_29 rfl rfl ?_
        refine gw_gR fX12_51 dX12_play_30 ((((g1.up (n_w1 e2)).up n3).up n5).up n7) ?_
        refine gw_iload_n (q := 1) dX12_play_33 rfl rfl ?_
        obtain ⟨g9, h⟩ := h
        refine gw_aI dX12_play_34 g9 ?_
        refine gw_istore (lo' := [(0, .inr v0), (1, .inl v1), (2, .inl v2), (3, .inl v3), (4, .inl (σ7.2.1 (σ7.2.2 v0 17) v1.toNatClampNeg))]) dX12_play_35 (by decide) rfl ?_
        refine gw_aload_n (q := 0) dX12_play_37 rfl rfl ?_
        refine gw_aload_n (q := 0) dX12_play_38 rfl rfl ?_
        refine gw_gR fX12_79 dX12_play_39 ((((g1.up (n_w1 e2)).up n3).up n5).up n7) ?_
        refine gw_iload_n (q := 1) dX12_play_42 rfl rfl ?_
        refine gw_iconst (v := 0) dX12_play_43 ic_0 ?_
        refine gw_aload_n (q := 0) dX12_play_44 rfl rfl ?_
        refine gw_gR fX12_54 dX12_play_45 ((((g1.up (n_w1 e2)).up n3).up n5).up n7) ?_
        refine gw_iload_n (q := 1) dX12_play_48 rfl rfl ?_
        obtain ⟨g10, h⟩ := h
        refine gw_aI dX12_play_49 g10 ?_
        refine gw_iconst (v := 1) dX12_play_50 ic_1 ?_
        refine gw_isub dX12_play_51 ?_
        refine gw_iload_n (q := 2) dX12_play_52 rfl rfl ?_
        refine gw_iload_n (q := 3) dX12_play_53 rfl rfl ?_
        refine gw_aload_n (q := 0) dX12_play_54 rfl rfl ?_
        refine gw_gR fX12_39 dX12_play_55 ((((g1.up (n_w1 e2)).up n3).up n5).up n7) ?_
        refine gw_iload (q := 4) dX12_play_58 rfl ?_
        obtain ⟨g11, h⟩ := h
        refine gw_aI dX12_play_60 g11 ?_
        refine gw_aload_n (q := 0) dX12_play_61 rfl rfl ?_
        refine gw_gR fX12_42 dX12_play_62 ((((g1.up (n_w1 e2)).up n3).up n5).up n7) ?_
        refine gw_iload (q := 4) dX12_play_65 rfl ?_
        obtain ⟨g12, h⟩ := h
        refine gw_aI dX12_play_67 g12 ?_
        refine gw_aload_n (q := 0) dX12_play_68 rfl rfl ?_
        refine gw_gR fX12_45 dX12_play_69 ((((g1.up (n_w1 e2)).up n3).up n5).up n7) ?_
        refine gw_iload (q := 4) dX12_play_72 rfl ?_
        obtain ⟨g13, h⟩ := h
        refine gw_aI dX12_play_74 g13 ?_
        refine gw_aload_n (q := 0) dX12_play_75 rfl rfl ?_
        refine gw_gR fX12_48 dX12_play_76 ((((g1.up (n_w1 e2)).up n3).up n5).up n7) ?_
        refine gw_iload (q := 4) dX12_play_79 rfl ?_
        obtain ⟨g14, h⟩ := h
        refine gw_aI dX12_play_81 g14 ?_
        refine gw_vC (bs := [.inr (σ7.2.2 v0 38), .inl v1, .inl 0, .inl ((σ7.2.1 (σ7.2.2 v0 18) v1.toNatClampNeg) - 1), .inl v2, .inl v3, .inl (σ7.2.1 (σ7.2.2 v0 12) (σ7.2.1 (σ7.2.2 v0 17) v1.toNatClampNeg).toNatClampNeg), .inl (σ7.2.1 (σ7.2.2 v0 13) (σ7.2.1 (σ7.2.2 v0 17) v1.toNatClampNeg).toNatClampNeg), .inl (σ7.2.1 (σ7.2.2 v0 14) (σ7.2.1 (σ7.2.2 v0 17) v1.toNatClampNeg).toNatClampNeg), .inl (σ7.2.1 (σ7.2.2 v0 15) (σ7.2.1 (σ7.2.2 v0 17) v1.toNatClampNeg).toNatClampNeg)]) (st := []) (vmX12_lays) lX12_299 dX12_play_82 ⟨by decide, rfl, rfl, by decide, by decide⟩ (Nat.le_of_ble_eq_true rfl) rfl rfl ((((g1.up (n_w1 e2)).up n3).up n5).up n7) h (kI (fun x15 σ15 h n15 => ?_))
        exact gw_rI dX12_play_85 rfl (by decide) (by decide) h
      · replace h := h.2 c8
        refine gw_iconst (v := (-1)) dX12_play_27 ic_m1 ?_
        exact gw_rI dX12_play_28 rfl (by decide) (by decide) h
set_option maxHeartbeats 4000000 in
set_option maxRecDepth 20000 in
theorem eX12_nozzle {l : Launch} {v0 : Nat} {v1 : Int32} {σ : Sg} {K : Int32 → Sg → Prop} (h : Ob σ v0 12 ∧ ∀ σ2, σ2 = w1 σ v0 0 0 → Con l mX12_in [.inl v1, .inl 0, .inl 30] σ2 (PI (fun x3 σ3 => ((¬ x3 = 0 → ∀ σ5, σ5 = w1 σ3 v0 39 v1 → K 1 σ5) ∧ (x3 = 0 → K 0 σ3))))) : Con l mX12_nozzle [.inr v0, .inl v1] σ (PI K) := by
  refine con_gw rfl (Nat.le_of_ble_eq_true rfl) ?_
  show GW l mX12_nozzle 0 [(0, .inr v0), (1, .inl v1)] [] σ 0 0 (PI K)
  refine gw_aload_n (q := 0) dX12_nozzle_0 rfl rfl ?_
  refine gw_iconst (v := 0) dX12_nozzle_1 ic_0 ?_
  obtain ⟨g1, h⟩ := h
  refine gw_pI fX12_135 dX12_nozzle_2 g1 (fun σ2 e2 => ?_)
  replace h := h σ2 e2
  refine gw_iload_n (q := 1) dX12_nozzle_5 rfl rfl ?_
  refine gw_iconst (v := 0) dX12_nozzle_6 ic_0 ?_
  refine gw_bipush (v := 30) dX12_nozzle_7 bp_30 ?_
  refine gw_sC (bs := [.inl v1, .inl 0, .inl 30]) (st := []) smX12_in lX12_144 dX12_nozzle_9 ⟨by decide, rfl, rfl, by decide, by decide⟩ (Nat.le_of_ble_eq_true rfl) rfl rfl h (kI (fun x3 σ3 h n3 => ?_))
  refine gw_if_ne (tgt := 17) dX12_nozzle_12 (by decide) (fun c4 => ?_) (fun c4 => ?_)
  · replace h := h.1 c4
    refine gw_aload_n (q := 0) dX12_nozzle_17 rfl rfl ?_
    refine gw_iload_n (q := 1) dX12_nozzle_18 rfl rfl ?_
    refine gw_pI fX12_82 dX12_nozzle_19 ((g1.up (n_w1 e2)).up n3) (fun σ5 e5 => ?_)
    replace h := h σ5 e5
    refine gw_iconst (v := 1) dX12_nozzle_22 ic_1 ?_
    exact gw_rZ dX12_nozzle_23 rfl (by decide) (by decide) (by decide) h
  · replace h := h.2 c4
    refine gw_iconst (v := 0) dX12_nozzle_15 ic_0 ?_
    exact gw_rZ dX12_nozzle_16 rfl (by decide) (by decide) (by decide) h
set_option maxHeartbeats 4000000 in
set_option maxRecDepth 20000 in
theorem gX12_thick_133 {l : Launch} {v0 : Nat} {v1 : Int32} {v2 : Int32} {v3 : Int32} {v4 : Int32} {v5 : Int32} {v6 : Int32} {v7 : Int32} {v8 : Int32} {v9 : Int32} {v10 : Int32} {v11 : Int32} {v12 : Int32} {t0 : Int32} {σ : Sg} {K : Int32 → Sg → Prop} (h : Con l mJ9_min_7cf53 [.inl v6, .inl v12] σ (PI (fun x1 σ1 => Con l mJ9_max_7cf53 [.inl v7, .inl v12] σ1 (PI (fun x2 σ2 => GW l mX12_thick 85 [(0, .inr v0), (1, .inl v1), (2, .inl v2), (3, .inl v3), (4, .inl v4), (5, .inl v5), (6, .inl x1), (7, .inl x2), (8, .inl (v8 + v12)), (9, .inl t0), (10, .inl v10), (11, .inl (v11 + 1))] [] σ2 0 0 (PI K)))))) : GW l mX12_thick 133 [(0, .inr v0), (1, .inl v1), (2, .inl v2), (3, .inl v3), (4, .inl v4), (5, .inl v5), (6, .inl v6), (7, .inl v7), (8, .inl v8), (9, .inl v9), (10, .inl v10), (11, .inl v11), (12, .inl v12)] [.inl t0] σ 0 0 (PI K) := by
  refine gw_istore (lo' := [(0, .inr v0), (1, .inl v1), (2, .inl v2), (3, .inl v3), (4, .inl v4), (5, .inl v5), (6, .inl v6), (7, .inl v7), (8, .inl v8), (9, .inl t0), (10, .inl v10), (11, .inl v11), (12, .inl v12)]) dX12_thick_133 (by decide) rfl ?_
  refine gw_iload (q := 6) dX12_thick_135 rfl ?_
  refine gw_iload (q := 12) dX12_thick_137 rfl ?_
  refine gw_sC (bs := [.inl v6, .inl v12]) (st := []) smJ9_min_7cf53 lX12_269 dX12_thick_139 ⟨by decide, rfl, rfl, by decide, by decide⟩ (Nat.le_of_ble_eq_true rfl) rfl rfl h (kI (fun x1 σ1 h n1 => ?_))
  refine gw_istore (lo' := [(0, .inr v0), (1, .inl v1), (2, .inl v2), (3, .inl v3), (4, .inl v4), (5, .inl v5), (6, .inl x1), (7, .inl v7), (8, .inl v8), (9, .inl t0), (10, .inl v10), (11, .inl v11), (12, .inl v12)]) dX12_thick_142 (by decide) rfl ?_
  refine gw_iload (q := 7) dX12_thick_144 rfl ?_
  refine gw_iload (q := 12) dX12_thick_146 rfl ?_
  refine gw_sC (bs := [.inl v7, .inl v12]) (st := []) smJ9_max_7cf53 lX12_174 dX12_thick_148 ⟨by decide, rfl, rfl, by decide, by decide⟩ (Nat.le_of_ble_eq_true rfl) rfl rfl h (kI (fun x2 σ2 h n2 => ?_))
  refine gw_istore (lo' := [(0, .inr v0), (1, .inl v1), (2, .inl v2), (3, .inl v3), (4, .inl v4), (5, .inl v5), (6, .inl x1), (7, .inl x2), (8, .inl v8), (9, .inl t0), (10, .inl v10), (11, .inl v11), (12, .inl v12)]) dX12_thick_151 (by decide) rfl ?_
  refine gw_iload (q := 8) dX12_thick_153 rfl ?_
  refine gw_iload (q := 12) dX12_thick_155 rfl ?_
  refine gw_iadd dX12_thick_157 ?_
  refine gw_istore (lo' := [(0, .inr v0), (1, .inl v1), (2, .inl v2), (3, .inl v3), (4, .inl v4), (5, .inl v5), (6, .inl x1), (7, .inl x2), (8, .inl (v8 + v12)), (9, .inl t0), (10, .inl v10), (11, .inl v11), (12, .inl v12)]) dX12_thick_158 (by decide) rfl ?_
  refine gw_inc (lo' := [(0, .inr v0), (1, .inl v1), (2, .inl v2), (3, .inl v3), (4, .inl v4), (5, .inl v5), (6, .inl x1), (7, .inl x2), (8, .inl (v8 + v12)), (9, .inl t0), (10, .inl v10), (11, .inl (v11 + 1)), (12, .inl v12)]) (q := 11) (c := 1) dX12_thick_160 ic_1 rfl (by decide) rfl ?_
  refine gw_goto (tgt := 85) dX12_thick_163 (by decide) ?_
  refine gw_pick [0, 1, 2, 3, 4, 5, 6, 7, 8, 9, 10, 11] rfl ?_
  exact h
set_option maxHeartbeats 4000000 in
set_option maxRecDepth 20000 in
theorem gX12_thick_85 {l : Launch} {v0 : Nat} {v1 : Int32} {v2 : Int32} {v3 : Int32} {v4 : Int32} {v5 : Int32} {v6 : Int32} {v7 : Int32} {v8 : Int32} {v9 : Int32} {v10 : Int32} {v11 : Int32} {σ : Sg} {K : Int32 → Sg → Prop} (h : ((v3 < v11 → GW l mX12_thick 75 [(0, .inr v0), (1, .inl v1), (2, .inl v2), (3, .inl v3), (4, .inl v4), (5, .inl v5), (6, .inl v6), (7, .inl v7), (8, .inl v8), (9, .inl v9), (10, .inl (v10 + 1))] [] σ 0 0 (PI K)) ∧ (¬ v3 < v11 → Ob σ v0 12 ∧ Ai σ (σ.2.2 v0 38) ((16 * v10) + v11) ∧ ((v6 ≤ (σ.2.1 (σ.2.2 v0 38) ((16 * v10) + v11).toNatClampNeg) → ((¬ (σ.2.1 (σ.2.2 v0 38) ((16 * v10) + v11).toNatClampNeg) = v6 → GW l mX12_thick 133 [(0, .inr v0), (1, .inl v1), (2, .inl v2), (3, .inl v3), (4, .inl v4), (5, .inl v5), (6, .inl v6), (7, .inl v7), (8, .inl v8), (9, .inl v9), (10, .inl v10), (11, .inl v11), (12, .inl (σ.2.1 (σ.2.2 v0 38) ((16 * v10) + v11).toNatClampNeg))] [.inl v9] σ 0 0 (PI K)) ∧ ((σ.2.1 (σ.2.2 v0 38) ((16 * v10) + v11).toNatClampNeg) = v6 → GW l mX12_thick 133 [(0, .inr v0), (1, .inl v1), (2, .inl v2), (3, .inl v3), (4, .inl v4), (5, .inl v5), (6, .inl v6), (7, .inl v7), (8, .inl v8), (9, .inl v9), (10, .inl v10), (11, .inl v11), (12, .inl (σ.2.1 (σ.2.2 v0 38) ((16 * v10) + v11).toNatClampNeg))] [.inl (v9 + 1)] σ 0 0 (PI K)))) ∧ (¬ v6 ≤ (σ.2.1 (σ.2.2 v0 38) ((16 * v10) + v11).toNatClampNeg) → GW l mX12_thick 133 [(0, .inr v0), (1, .inl v1), (2, .inl v2), (3, .inl v3), (4, .inl v4), (5, .inl v5), (6, .inl v6), (7, .inl v7), (8, .inl v8), (9, .inl v9), (10, .inl v10), (11, .inl v11), (12, .inl (σ.2.1 (σ.2.2 v0 38) ((16 * v10) + v11).toNatClampNeg))] [.inl 1] σ 0 0 (PI K)))))) : GW l mX12_thick 85 [(0, .inr v0), (1, .inl v1), (2, .inl v2), (3, .inl v3), (4, .inl v4), (5, .inl v5), (6, .inl v6), (7, .inl v7), (8, .inl v8), (9, .inl v9), (10, .inl v10), (11, .inl v11)] [] σ 0 0 (PI K) := by
  refine gw_iload (q := 11) dX12_thick_85 rfl ?_
  refine gw_iload_n (q := 3) dX12_thick_87 rfl rfl ?_
  refine gw_icmp_gt (tgt := 166) dX12_thick_88 (by decide) (fun c1 => ?_) (fun c1 => ?_)
  · replace h := h.1 c1
    refine gw_inc (lo' := [(0, .inr v0), (1, .inl v1), (2, .inl v2), (3, .inl v3), (4, .inl v4), (5, .inl v5), (6, .inl v6), (7, .inl v7), (8, .inl v8), (9, .inl v9), (10, .inl (v10 + 1)), (11, .inl v11)]) (q := 10) (c := 1) dX12_thick_166 ic_1 rfl (by decide) rfl ?_
    refine gw_goto (tgt := 75) dX12_thick_169 (by decide) ?_
    refine gw_pick [0, 1, 2, 3, 4, 5, 6, 7, 8, 9, 10] rfl ?_
    exact h
  · replace h := h.2 c1
    refine gw_aload_n (q := 0) dX12_thick_91 rfl rfl ?_
    obtain ⟨g2, h⟩ := h
    refine gw_gR fX12_79 dX12_thick_92 g2 ?_
    refine gw_bipush (v := 16) dX12_thick_95 bp_16 ?_
    refine gw_iload (q := 10) dX12_thick_97 rfl ?_
    refine gw_imul dX12_thick_99 ?_
    refine gw_iload (q := 11) dX12_thick_100 rfl ?_
    refine gw_iadd dX12_thick_102 ?_
    obtain ⟨g3, h⟩ := h
    refine gw_aI dX12_thick_103 g3 ?_
    refine gw_istore (lo' := [(0, .inr v0), (1, .inl v1), (2, .inl v2), (3, .inl v3), (4, .inl v4), (5, .inl v5), (6, .inl v6), (7, .inl v7), (8, .inl v8), (9, .inl v9), (10, .inl v10), (11, .inl v11), (12, .inl (σ.2.1 (σ.2.2 v0 38) ((16 * v10) + v11).toNatClampNeg))]) dX12_thick_104 (by decide) rfl ?_
    refine gw_iload (q := 12) dX12_thick_106 rfl ?_
    refine gw_iload (q := 6) dX12_thick_108 rfl ?_
    refine gw_icmp_ge (tgt := 117) dX12_thick_110 (by decide) (fun c4 => ?_) (fun c4 => ?_)
    · replace h := h.1 c4
      refine gw_iload (q := 12) dX12_thick_117 rfl ?_
      refine gw_iload (q := 6) dX12_thick_119 rfl ?_
      refine gw_icmp_ne (tgt := 131) dX12_thick_121 (by decide) (fun c5 => ?_) (fun c5 => ?_)
      · replace h := h.1 c5
        refine gw_iload (q := 9) dX12_thick_131 rfl ?_
        exact h
      · replace h := h.2 c5
        refine gw_iload (q := 9) dX12_thick_124 rfl ?_
        refine gw_iconst (v := 1) dX12_thick_126 ic_1 ?_
        refine gw_iadd dX12_thick_127 ?_
        refine gw_goto (tgt := 133) dX12_thick_128 (by decide) ?_
        exact h
    · replace h := h.2 c4
      refine gw_iconst (v := 1) dX12_thick_113 ic_1 ?_
      refine gw_goto (tgt := 133) dX12_thick_114 (by decide) ?_
      exact h
set_option maxHeartbeats 4000000 in
set_option maxRecDepth 20000 in
theorem gX12_thick_75 {l : Launch} {v0 : Nat} {v1 : Int32} {v2 : Int32} {v3 : Int32} {v4 : Int32} {v5 : Int32} {v6 : Int32} {v7 : Int32} {v8 : Int32} {v9 : Int32} {v10 : Int32} {σ : Sg} {K : Int32 → Sg → Prop} (h : ((v4 < v10 → ((¬ v5 = 0 → ((¬ v5 = 1 → ((¬ v5 = 2 → K v9 σ) ∧ (v5 = 2 → K v8 σ))) ∧ (v5 = 1 → K v7 σ))) ∧ (v5 = 0 → K v6 σ))) ∧ (¬ v4 < v10 → GW l mX12_thick 85 [(0, .inr v0), (1, .inl v1), (2, .inl v2), (3, .inl v3), (4, .inl v4), (5, .inl v5), (6, .inl v6), (7, .inl v7), (8, .inl v8), (9, .inl v9), (10, .inl v10), (11, .inl v1)] [] σ 0 0 (PI K)))) : GW l mX12_thick 75 [(0, .inr v0), (1, .inl v1), (2, .inl v2), (3, .inl v3), (4, .inl v4), (5, .inl v5), (6, .inl v6), (7, .inl v7), (8, .inl v8), (9, .inl v9), (10, .inl v10)] [] σ 0 0 (PI K) := by
  refine gw_iload (q := 10) dX12_thick_75 rfl ?_
  refine gw_iload (q := 4) dX12_thick_77 rfl ?_
  refine gw_icmp_gt (tgt := 172) dX12_thick_79 (by decide) (fun c1 => ?_) (fun c1 => ?_)
  · replace h := h.1 c1
    refine gw_iload (q := 5) dX12_thick_172 rfl ?_
    refine gw_if_ne (tgt := 182) dX12_thick_174 (by decide) (fun c2 => ?_) (fun c2 => ?_)
    · replace h := h.1 c2
      refine gw_iload (q := 5) dX12_thick_182 rfl ?_
      refine gw_iconst (v := 1) dX12_thick_184 ic_1 ?_
      refine gw_icmp_ne (tgt := 193) dX12_thick_185 (by decide) (fun c3 => ?_) (fun c3 => ?_)
      · replace h := h.1 c3
        refine gw_iload (q := 5) dX12_thick_193 rfl ?_
        refine gw_iconst (v := 2) dX12_thick_195 ic_2 ?_
        refine gw_icmp_ne (tgt := 204) dX12_thick_196 (by decide) (fun c4 => ?_) (fun c4 => ?_)
        · replace h := h.1 c4
          refine gw_iload (q := 9) dX12_thick_204 rfl ?_
          exact gw_rI dX12_thick_206 rfl (by decide) (by decide) h
        · replace h := h.2 c4
          refine gw_iload (q := 8) dX12_thick_199 rfl ?_
          refine gw_goto (tgt := 206) dX12_thick_201 (by decide) ?_
          exact gw_rI dX12_thick_206 rfl (by decide) (by decide) h
      · replace h := h.2 c3
        refine gw_iload (q := 7) dX12_thick_188 rfl ?_
        refine gw_goto (tgt := 206) dX12_thick_190 (by decide) ?_
        exact gw_rI dX12_thick_206 rfl (by decide) (by decide) h
    · replace h := h.2 c2
      refine gw_iload (q := 6) dX12_thick_177 rfl ?_
      refine gw_goto (tgt := 206) dX12_thick_179 (by decide) ?_
      exact gw_rI dX12_thick_206 rfl (by decide) (by decide) h
  · replace h := h.2 c1
    refine gw_iload_n (q := 1) dX12_thick_82 rfl rfl ?_
    refine gw_istore (lo' := [(0, .inr v0), (1, .inl v1), (2, .inl v2), (3, .inl v3), (4, .inl v4), (5, .inl v5), (6, .inl v6), (7, .inl v7), (8, .inl v8), (9, .inl v9), (10, .inl v10), (11, .inl v1)]) dX12_thick_83 (by decide) rfl ?_
    exact h
set_option maxHeartbeats 4000000 in
set_option maxRecDepth 20000 in
theorem eX12_thick {l : Launch} {v0 : Nat} {v1 : Int32} {v2 : Int32} {v3 : Int32} {v4 : Int32} {v5 : Int32} {σ : Sg} {K : Int32 → Sg → Prop} (h : Ob σ v0 12 ∧ ∀ σ2, σ2 = w1 σ v0 0 0 → ((v1 < 0 → K (-1) σ2) ∧ (¬ v1 < 0 → ((v2 < 0 → K (-1) σ2) ∧ (¬ v2 < 0 → ((15 < v3 → K (-1) σ2) ∧ (¬ 15 < v3 → ((15 < v4 → K (-1) σ2) ∧ (¬ 15 < v4 → ((v3 < v1 → K (-1) σ2) ∧ (¬ v3 < v1 → ((v4 < v2 → K (-1) σ2) ∧ (¬ v4 < v2 → ((v5 < 0 → K (-1) σ2) ∧ (¬ v5 < 0 → ((v5 ≤ 3 → Ai σ2 (σ2.2.2 v0 38) ((16 * v2) + v1) ∧ GW l mX12_thick 75 [(0, .inr v0), (1, .inl v1), (2, .inl v2), (3, .inl v3), (4, .inl v4), (5, .inl v5), (6, .inl (σ2.2.1 (σ2.2.2 v0 38) ((16 * v2) + v1).toNatClampNeg)), (7, .inl 0), (8, .inl 0), (9, .inl 0), (10, .inl v2)] [] σ2 0 0 (PI K)) ∧ (¬ v5 ≤ 3 → K (-1) σ2))))))))))))))))) : Con l mX12_thick [.inr v0, .inl v1, .inl v2, .inl v3, .inl v4, .inl v5] σ (PI K) := by
  refine con_gw rfl (Nat.le_of_ble_eq_true rfl) ?_
  show GW l mX12_thick 0 [(0, .inr v0), (1, .inl v1), (2, .inl v2), (3, .inl v3), (4, .inl v4), (5, .inl v5)] [] σ 0 0 (PI K)
  refine gw_aload_n (q := 0) dX12_thick_0 rfl rfl ?_
  refine gw_iconst (v := 0) dX12_thick_1 ic_0 ?_
  obtain ⟨g1, h⟩ := h
  refine gw_pI fX12_135 dX12_thick_2 g1 (fun σ2 e2 => ?_)
  replace h := h σ2 e2
  refine gw_iload_n (q := 1) dX12_thick_5 rfl rfl ?_
  refine gw_if_lt (tgt := 48) dX12_thick_6 (by decide) (fun c3 => ?_) (fun c3 => ?_)
  · replace h := h.1 c3
    refine gw_iconst (v := (-1)) dX12_thick_48 ic_m1 ?_
    exact gw_rI dX12_thick_49 rfl (by decide) (by decide) h
  · replace h := h.2 c3
    refine gw_iload_n (q := 2) dX12_thick_9 rfl rfl ?_
    refine gw_if_lt (tgt := 48) dX12_thick_10 (by decide) (fun c4 => ?_) (fun c4 => ?_)
    · replace h := h.1 c4
      refine gw_iconst (v := (-1)) dX12_thick_48 ic_m1 ?_
      exact gw_rI dX12_thick_49 rfl (by decide) (by decide) h
    · replace h := h.2 c4
      refine gw_iload_n (q := 3) dX12_thick_13 rfl rfl ?_
      refine gw_bipush (v := 15) dX12_thick_14 bp_15 ?_
      refine gw_icmp_gt (tgt := 48) dX12_thick_16 (by decide) (fun c5 => ?_) (fun c5 => ?_)
      · replace h := h.1 c5
        refine gw_iconst (v := (-1)) dX12_thick_48 ic_m1 ?_
        exact gw_rI dX12_thick_49 rfl (by decide) (by decide) h
      · replace h := h.2 c5
        refine gw_iload (q := 4) dX12_thick_19 rfl ?_
        refine gw_bipush (v := 15) dX12_thick_21 bp_15 ?_
        refine gw_icmp_gt (tgt := 48) dX12_thick_23 (by decide) (fun c6 => ?_) (fun c6 => ?_)
        · replace h := h.1 c6
          refine gw_iconst (v := (-1)) dX12_thick_48 ic_m1 ?_
          exact gw_rI dX12_thick_49 rfl (by decide) (by decide) h
        · replace h := h.2 c6
          refine gw_iload_n (q := 3) dX12_thick_26 rfl rfl ?_
          refine gw_iload_n (q := 1) dX12_thick_27 rfl rfl ?_
          refine gw_icmp_lt (tgt := 48) dX12_thick_28 (by decide) (fun c7 => ?_) (fun c7 => ?_)
          · replace h := h.1 c7
            refine gw_iconst (v := (-1)) dX12_thick_48 ic_m1 ?_
            exact gw_rI dX12_thick_49 rfl (by decide) (by decide) h
          · replace h := h.2 c7
            refine gw_iload (q := 4) dX12_thick_31 rfl ?_
            refine gw_iload_n (q := 2) dX12_thick_33 rfl rfl ?_
            refine gw_icmp_lt (tgt := 48) dX12_thick_34 (by decide) (fun c8 => ?_) (fun c8 => ?_)
            · replace h := h.1 c8
              refine gw_iconst (v := (-1)) dX12_thick_48 ic_m1 ?_
              exact gw_rI dX12_thick_49 rfl (by decide) (by decide) h
            · replace h := h.2 c8
              refine gw_iload (q := 5) dX12_thick_37 rfl ?_
              refine gw_if_lt (tgt := 48) dX12_thick_39 (by decide) (fun c9 => ?_) (fun c9 => ?_)
              · replace h := h.1 c9
                refine gw_iconst (v := (-1)) dX12_thick_48 ic_m1 ?_
                exact gw_rI dX12_thick_49 rfl (by decide) (by decide) h
              · replace h := h.2 c9
                refine gw_iload (q := 5) dX12_thick_42 rfl ?_
                refine gw_iconst (v := 3) dX12_thick_44 ic_3 ?_
                refine gw_icmp_le (tgt := 50) dX12_thick_45 (by decide) (fun c10 => ?_) (fun c10 => ?_)
                · replace h := h.1 c10
                  refine gw_aload_n (q := 0) dX12_thick_50 rfl rfl ?_
                  refine gw_gR fX12_79 dX12_thick_51 (g1.up (n_w1 e2)) ?_
                  refine gw_bipush (v := 16) dX12_thick_54 bp_16 ?_
                  refine gw_iload_n (q := 2) dX12_thick_56 rfl rfl ?_
                  refine gw_imul dX12_thick_57 ?_
                  refine gw_iload_n (q := 1) dX12_thick_58 rfl rfl ?_
                  refine gw_iadd dX12_thick_59 ?_
                  obtain ⟨g11, h⟩ := h
                  refine gw_aI dX12_thick_60 g11 ?_
                  refine gw_istore (lo' := [(0, .inr v0), (1, .inl v1), (2, .inl v2), (3, .inl v3), (4, .inl v4), (5, .inl v5), (6, .inl (σ2.2.1 (σ2.2.2 v0 38) ((16 * v2) + v1).toNatClampNeg))]) dX12_thick_61 (by decide) rfl ?_
                  refine gw_iconst (v := 0) dX12_thick_63 ic_0 ?_
                  refine gw_istore (lo' := [(0, .inr v0), (1, .inl v1), (2, .inl v2), (3, .inl v3), (4, .inl v4), (5, .inl v5), (6, .inl (σ2.2.1 (σ2.2.2 v0 38) ((16 * v2) + v1).toNatClampNeg)), (7, .inl 0)]) dX12_thick_64 (by decide) rfl ?_
                  refine gw_iconst (v := 0) dX12_thick_66 ic_0 ?_
                  refine gw_istore (lo' := [(0, .inr v0), (1, .inl v1), (2, .inl v2), (3, .inl v3), (4, .inl v4), (5, .inl v5), (6, .inl (σ2.2.1 (σ2.2.2 v0 38) ((16 * v2) + v1).toNatClampNeg)), (7, .inl 0), (8, .inl 0)]) dX12_thick_67 (by decide) rfl ?_
                  refine gw_iconst (v := 0) dX12_thick_69 ic_0 ?_
                  refine gw_istore (lo' := [(0, .inr v0), (1, .inl v1), (2, .inl v2), (3, .inl v3), (4, .inl v4), (5, .inl v5), (6, .inl (σ2.2.1 (σ2.2.2 v0 38) ((16 * v2) + v1).toNatClampNeg)), (7, .inl 0), (8, .inl 0), (9, .inl 0)]) dX12_thick_70 (by decide) rfl ?_
                  refine gw_iload_n (q := 2) dX12_thick_72 rfl rfl ?_
                  refine gw_istore (lo' := [(0, .inr v0), (1, .inl v1), (2, .inl v2), (3, .inl v3), (4, .inl v4), (5, .inl v5), (6, .inl (σ2.2.1 (σ2.2.2 v0 38) ((16 * v2) + v1).toNatClampNeg)), (7, .inl 0), (8, .inl 0), (9, .inl 0), (10, .inl v2)]) dX12_thick_73 (by decide) rfl ?_
                  exact h
                · replace h := h.2 c10
                  refine gw_iconst (v := (-1)) dX12_thick_48 ic_m1 ?_
                  exact gw_rI dX12_thick_49 rfl (by decide) (by decide) h
set_option maxHeartbeats 4000000 in
set_option maxRecDepth 20000 in
theorem eX12_paint {l : Launch} {v0 : Nat} {v1 : Int32} {v2 : Int32} {σ : Sg} {K : Int32 → Sg → Prop} (h : Ob σ v0 12 ∧ ∀ σ2, σ2 = w1 σ v0 0 0 → Con l mX12_in [.inl v1, .inl 0, .inl 15] σ2 (PI (fun x3 σ3 => ((x3 = 0 → K (-1) σ3) ∧ (¬ x3 = 0 → Con l mX12_in [.inl v2, .inl 0, .inl 15] σ3 (PI (fun x5 σ5 => ((x5 = 0 → K (-1) σ5) ∧ (¬ x5 = 0 → Ai σ5 (σ5.2.2 v0 38) ((16 * v2) + v1) ∧ K (σ5.2.1 (σ5.2.2 v0 38) ((16 * v2) + v1).toNatClampNeg) σ5))))))))) : Con l mX12_paint [.inr v0, .inl v1, .inl v2] σ (PI K) := by
  refine con_gw rfl (Nat.le_of_ble_eq_true rfl) ?_
  show GW l mX12_paint 0 [(0, .inr v0), (1, .inl v1), (2, .inl v2)] [] σ 0 0 (PI K)
  refine gw_aload_n (q := 0) dX12_paint_0 rfl rfl ?_
  refine gw_iconst (v := 0) dX12_paint_1 ic_0 ?_
  obtain ⟨g1, h⟩ := h
  refine gw_pI fX12_135 dX12_paint_2 g1 (fun σ2 e2 => ?_)
  replace h := h σ2 e2
  refine gw_iload_n (q := 1) dX12_paint_5 rfl rfl ?_
  refine gw_iconst (v := 0) dX12_paint_6 ic_0 ?_
  refine gw_bipush (v := 15) dX12_paint_7 bp_15 ?_
  refine gw_sC (bs := [.inl v1, .inl 0, .inl 15]) (st := []) smX12_in lX12_144 dX12_paint_9 ⟨by decide, rfl, rfl, by decide, by decide⟩ (Nat.le_of_ble_eq_true rfl) rfl rfl h (kI (fun x3 σ3 h n3 => ?_))
  refine gw_if_eq (tgt := 39) dX12_paint_12 (by decide) (fun c4 => ?_) (fun c4 => ?_)
  · replace h := h.1 c4
    refine gw_iconst (v := (-1)) dX12_paint_39 ic_m1 ?_
    exact gw_rI dX12_paint_40 rfl (by decide) (by decide) h
  · replace h := h.2 c4
    refine gw_iload_n (q := 2) dX12_paint_15 rfl rfl ?_
    refine gw_iconst (v := 0) dX12_paint_16 ic_0 ?_
    refine gw_bipush (v := 15) dX12_paint_17 bp_15 ?_
    refine gw_sC (bs := [.inl v2, .inl 0, .inl 15]) (st := []) smX12_in lX12_144 dX12_paint_19 ⟨by decide, rfl, rfl, by decide, by decide⟩ (Nat.le_of_ble_eq_true rfl) rfl rfl h (kI (fun x5 σ5 h n5 => ?_))
    refine gw_if_eq (tgt := 39) dX12_paint_22 (by decide) (fun c6 => ?_) (fun c6 => ?_)
    · replace h := h.1 c6
      refine gw_iconst (v := (-1)) dX12_paint_39 ic_m1 ?_
      exact gw_rI dX12_paint_40 rfl (by decide) (by decide) h
    · replace h := h.2 c6
      refine gw_aload_n (q := 0) dX12_paint_25 rfl rfl ?_
      refine gw_gR fX12_79 dX12_paint_26 (((g1.up (n_w1 e2)).up n3).up n5) ?_
      refine gw_bipush (v := 16) dX12_paint_29 bp_16 ?_
      refine gw_iload_n (q := 2) dX12_paint_31 rfl rfl ?_
      refine gw_imul dX12_paint_32 ?_
      refine gw_iload_n (q := 1) dX12_paint_33 rfl rfl ?_
      refine gw_iadd dX12_paint_34 ?_
      obtain ⟨g7, h⟩ := h
      refine gw_aI dX12_paint_35 g7 ?_
      refine gw_goto (tgt := 40) dX12_paint_36 (by decide) ?_
      exact gw_rI dX12_paint_40 rfl (by decide) (by decide) h
set_option maxHeartbeats 4000000 in
set_option maxRecDepth 20000 in
theorem gX12_painted_4 {l : Launch} {v0 : Nat} {v1 : Int32} {v2 : Int32} {σ : Sg} {K : Int32 → Sg → Prop} (h : Ob σ v0 12 ∧ Al σ (σ.2.2 v0 38) ∧ (((Int32.ofNat (shp (σ.2.2 v0 38)).2) ≤ v2 → K v1 σ) ∧ (¬ (Int32.ofNat (shp (σ.2.2 v0 38)).2) ≤ v2 → Ai σ (σ.2.2 v0 38) v2 ∧ (((σ.2.1 (σ.2.2 v0 38) v2.toNatClampNeg) ≤ 0 → GW l mX12_painted 4 [(0, .inr v0), (1, .inl (v1 + 0)), (2, .inl (v2 + 1))] [] σ 0 0 (PI K)) ∧ (¬ (σ.2.1 (σ.2.2 v0 38) v2.toNatClampNeg) ≤ 0 → GW l mX12_painted 4 [(0, .inr v0), (1, .inl (v1 + 1)), (2, .inl (v2 + 1))] [] σ 0 0 (PI K)))))) : GW l mX12_painted 4 [(0, .inr v0), (1, .inl v1), (2, .inl v2)] [] σ 0 0 (PI K) := by
  refine gw_iload_n (q := 2) dX12_painted_4 rfl rfl ?_
  refine gw_aload_n (q := 0) dX12_painted_5 rfl rfl ?_
  obtain ⟨g1, h⟩ := h
  refine gw_gR fX12_79 dX12_painted_6 g1 ?_
  obtain ⟨g2, h⟩ := h
  refine gw_aL dX12_painted_9 g2 ?_
  refine gw_icmp_ge (tgt := 36) dX12_painted_10 (by decide) (fun c3 => ?_) (fun c3 => ?_)
  · replace h := h.1 c3
    refine gw_iload_n (q := 1) dX12_painted_36 rfl rfl ?_
    exact gw_rI dX12_painted_37 rfl (by decide) (by decide) h
  · replace h := h.2 c3
    refine gw_iload_n (q := 1) dX12_painted_13 rfl rfl ?_
    refine gw_aload_n (q := 0) dX12_painted_14 rfl rfl ?_
    refine gw_gR fX12_79 dX12_painted_15 g1 ?_
    refine gw_iload_n (q := 2) dX12_painted_18 rfl rfl ?_
    obtain ⟨g4, h⟩ := h
    refine gw_aI dX12_painted_19 g4 ?_
    refine gw_if_le (tgt := 27) dX12_painted_20 (by decide) (fun c5 => ?_) (fun c5 => ?_)
    · replace h := h.1 c5
      refine gw_iconst (v := 0) dX12_painted_27 ic_0 ?_
      refine gw_iadd dX12_painted_28 ?_
      refine gw_istore_n (lo' := [(0, .inr v0), (1, .inl (v1 + 0)), (2, .inl v2)]) dX12_painted_29 rfl (by decide) rfl ?_
      refine gw_inc (lo' := [(0, .inr v0), (1, .inl (v1 + 0)), (2, .inl (v2 + 1))]) (q := 2) (c := 1) dX12_painted_30 ic_1 rfl (by decide) rfl ?_
      refine gw_goto (tgt := 4) dX12_painted_33 (by decide) ?_
      exact h
    · replace h := h.2 c5
      refine gw_iconst (v := 1) dX12_painted_23 ic_1 ?_
      refine gw_goto (tgt := 28) dX12_painted_24 (by decide) ?_
      refine gw_iadd dX12_painted_28 ?_
      refine gw_istore_n (lo' := [(0, .inr v0), (1, .inl (v1 + 1)), (2, .inl v2)]) dX12_painted_29 rfl (by decide) rfl ?_
      refine gw_inc (lo' := [(0, .inr v0), (1, .inl (v1 + 1)), (2, .inl (v2 + 1))]) (q := 2) (c := 1) dX12_painted_30 ic_1 rfl (by decide) rfl ?_
      refine gw_goto (tgt := 4) dX12_painted_33 (by decide) ?_
      exact h
set_option maxHeartbeats 4000000 in
set_option maxRecDepth 20000 in
theorem eX12_painted {l : Launch} {v0 : Nat} {σ : Sg} {K : Int32 → Sg → Prop} (h : GW l mX12_painted 4 [(0, .inr v0), (1, .inl 0), (2, .inl 0)] [] σ 0 0 (PI K)) : Con l mX12_painted [.inr v0] σ (PI K) := by
  refine con_gw rfl (Nat.le_of_ble_eq_true rfl) ?_
  show GW l mX12_painted 0 [(0, .inr v0)] [] σ 0 0 (PI K)
  refine gw_iconst (v := 0) dX12_painted_0 ic_0 ?_
  refine gw_istore_n (lo' := [(0, .inr v0), (1, .inl 0)]) dX12_painted_1 rfl (by decide) rfl ?_
  refine gw_iconst (v := 0) dX12_painted_2 ic_0 ?_
  refine gw_istore_n (lo' := [(0, .inr v0), (1, .inl 0), (2, .inl 0)]) dX12_painted_3 rfl (by decide) rfl ?_
  exact h
set_option maxHeartbeats 4000000 in
set_option maxRecDepth 20000 in
theorem eX12_clean {l : Launch} {v0 : Nat} {σ : Sg} {K : Int32 → Sg → Prop} (h : Ob σ v0 12 ∧ ∀ σ2, σ2 = w1 σ v0 0 0 → Con l mX12_painted [.inr v0] σ2 (PI (fun x3 σ3 => Con l mX12_empties [.inr (σ3.2.2 v0 38)] σ3 (PV (fun σ4 => K x3 σ4))))) : Con l mX12_clean [.inr v0] σ (PI K) := by
  refine con_gw rfl (Nat.le_of_ble_eq_true rfl) ?_
  show GW l mX12_clean 0 [(0, .inr v0)] [] σ 0 0 (PI K)
  refine gw_aload_n (q := 0) dX12_clean_0 rfl rfl ?_
  refine gw_iconst (v := 0) dX12_clean_1 ic_0 ?_
  obtain ⟨g1, h⟩ := h
  refine gw_pI fX12_135 dX12_clean_2 g1 (fun σ2 e2 => ?_)
  replace h := h σ2 e2
  refine gw_aload_n (q := 0) dX12_clean_5 rfl rfl ?_
  refine gw_vC (bs := []) (st := []) (vmX12_painted) lX12_303 dX12_clean_6 ⟨by decide, rfl, rfl, by decide, by decide⟩ (Nat.le_of_ble_eq_true rfl) rfl rfl (g1.up (n_w1 e2)) h (kI (fun x3 σ3 h n3 => ?_))
  refine gw_istore_n (lo' := [(0, .inr v0), (1, .inl x3)]) dX12_clean_9 rfl (by decide) rfl ?_
  refine gw_aload_n (q := 0) dX12_clean_10 rfl rfl ?_
  refine gw_gR fX12_79 dX12_clean_11 ((g1.up (n_w1 e2)).up n3) ?_
  refine gw_sC (bs := [.inr (σ3.2.2 v0 38)]) (st := []) smX12_empties lX12_306 dX12_clean_14 ⟨by decide, rfl, rfl, by decide, by decide⟩ (Nat.le_of_ble_eq_true rfl) rfl rfl h (kV (fun σ4 h n4 => ?_))
  refine gw_iload_n (q := 1) dX12_clean_17 rfl rfl ?_
  exact gw_rI dX12_clean_18 rfl (by decide) (by decide) h
set_option maxHeartbeats 4000000 in
set_option maxRecDepth 20000 in
theorem eX12_isThere {l : Launch} {v0 : Nat} {v1 : Int32} {v2 : Int32} {v3 : Int32} {v4 : Int32} {v5 : Int32} {v6 : Int32} {σ : Sg} {K : Int32 → Sg → Prop} (h : Ob σ v0 12 ∧ Con l mX12_isPose [.inr v0, .inl v2, .inl v6] σ (PI (fun x1 σ1 => ((¬ x1 = 0 → Ai σ1 (σ1.2.2 v0 19) ((40 * v1) + v3) ∧ Con l mX12_tip [.inr v0, .inl v2, .inl v6, .inl 1] σ1 (PI (fun x5 σ5 => Ai σ5 (σ5.2.2 v0 17) v1 ∧ Con l mX12_tip [.inr v0, .inl (σ5.2.1 (σ5.2.2 v0 17) v1.toNatClampNeg), .inl (σ1.2.1 (σ1.2.2 v0 19) ((40 * v1) + v3).toNatClampNeg), .inl 1] σ5 (PI (fun x7 σ7 => Con l mJ9_abs_0f7a4 [.inl ((x5 - x7) - (v4 * v3))] σ7 (PI (fun x8 σ8 => ((v5 < x8 → K 0 σ8) ∧ (¬ v5 < x8 → Con l mX12_tip [.inr v0, .inl v2, .inl v6, .inl 0] σ8 (PI (fun x10 σ10 => Ai σ10 (σ10.2.2 v0 17) v1 ∧ Con l mX12_tip [.inr v0, .inl (σ10.2.1 (σ10.2.2 v0 17) v1.toNatClampNeg), .inl (σ1.2.1 (σ1.2.2 v0 19) ((40 * v1) + v3).toNatClampNeg), .inl 0] σ10 (PI (fun x12 σ12 => Con l mJ9_abs_0f7a4 [.inl (x10 - x12)] σ12 (PI (fun x13 σ13 => ((v5 < x13 → K 0 σ13) ∧ (¬ v5 < x13 → K 1 σ13))))))))))))))))) ∧ (x1 = 0 → K 0 σ1))))) : Con l mX12_isThere [.inr v0, .inl v1, .inl v2, .inl v3, .inl v4, .inl v5, .inl v6] σ (PI K) := by
  refine con_gw rfl (Nat.le_of_ble_eq_true rfl) ?_
  show GW l mX12_isThere 0 [(0, .inr v0), (1, .inl v1), (2, .inl v2), (3, .inl v3), (4, .inl v4), (5, .inl v5), (6, .inl v6)] [] σ 0 0 (PI K)
  refine gw_aload_n (q := 0) dX12_isThere_0 rfl rfl ?_
  refine gw_iload_n (q := 2) dX12_isThere_1 rfl rfl ?_
  refine gw_iload (q := 6) dX12_isThere_2 rfl ?_
  obtain ⟨g2, h⟩ := h
  refine gw_vC (bs := [.inl v2, .inl v6]) (st := []) (vmX12_isPose) lX12_163 dX12_isThere_4 ⟨by decide, rfl, rfl, by decide, by decide⟩ (Nat.le_of_ble_eq_true rfl) rfl rfl g2 h (kI (fun x1 σ1 h n1 => ?_))
  refine gw_if_ne (tgt := 12) dX12_isThere_7 (by decide) (fun c3 => ?_) (fun c3 => ?_)
  · replace h := h.1 c3
    refine gw_aload_n (q := 0) dX12_isThere_12 rfl rfl ?_
    refine gw_gR fX12_57 dX12_isThere_13 (g2.up n1) ?_
    refine gw_bipush (v := 40) dX12_isThere_16 bp_40 ?_
    refine gw_iload_n (q := 1) dX12_isThere_18 rfl rfl ?_
    refine gw_imul dX12_isThere_19 ?_
    refine gw_iload_n (q := 3) dX12_isThere_20 rfl rfl ?_
    refine gw_iadd dX12_isThere_21 ?_
    obtain ⟨g4, h⟩ := h
    refine gw_aI dX12_isThere_22 g4 ?_
    refine gw_istore (lo' := [(0, .inr v0), (1, .inl v1), (2, .inl v2), (3, .inl v3), (4, .inl v4), (5, .inl v5), (6, .inl v6), (7, .inl (σ1.2.1 (σ1.2.2 v0 19) ((40 * v1) + v3).toNatClampNeg))]) dX12_isThere_23 (by decide) rfl ?_
    refine gw_aload_n (q := 0) dX12_isThere_25 rfl rfl ?_
    refine gw_iload_n (q := 2) dX12_isThere_26 rfl rfl ?_
    refine gw_iload (q := 6) dX12_isThere_27 rfl ?_
    refine gw_iconst (v := 1) dX12_isThere_29 ic_1 ?_
    refine gw_vC (bs := [.inl v2, .inl v6, .inl 1]) (st := []) (vmX12_tip) lX12_184 dX12_isThere_30 ⟨by decide, rfl, rfl, by decide, by decide⟩ (Nat.le_of_ble_eq_true rfl) rfl rfl (g2.up n1) h (kI (fun x5 σ5 h n5 => ?_))
    refine gw_aload_n (q := 0) dX12_isThere_33 rfl rfl ?_
    refine gw_aload_n (q := 0) dX12_isThere_34 rfl rfl ?_
    refine gw_gR fX12_51 dX12_isThere_35 ((g2.up n1).up n5) ?_
    refine gw_iload_n (q := 1) dX12_isThere_38 rfl rfl ?_
    obtain ⟨g6, h⟩ := h
    refine gw_aI dX12_isThere_39 g6 ?_
    refine gw_iload (q := 7) dX12_isThere_40 rfl ?_
    refine gw_iconst (v := 1) dX12_isThere_42 ic_1 ?_
    refine gw_vC (bs := [.inl (σ5.2.1 (σ5.2.2 v0 17) v1.toNatClampNeg), .inl (σ1.2.1 (σ1.2.2 v0 19) ((40 * v1) + v3).toNatClampNeg), .inl 1]) (st := [.inl x5]) (vmX12_tip) lX12_184 dX12_isThere_43 ⟨by decide, rfl, rfl, by decide, by decide⟩ (Nat.le_of_ble_eq_true rfl) rfl rfl ((g2.up n1).up n5) h (kI (fun x7 σ7 h n7 => ?_))
    refine gw_isub dX12_isThere_46 ?_
    refine gw_iload (q := 4) dX12_isThere_47 rfl ?_
    refine gw_iload_n (q := 3) dX12_isThere_49 rfl rfl ?_
    refine gw_imul dX12_isThere_50 ?_
    refine gw_isub dX12_isThere_51 ?_
    refine gw_sC (bs := [.inl ((x5 - x7) - (v4 * v3))]) (st := []) smJ9_abs_0f7a4 lX12_168 dX12_isThere_52 ⟨by decide, rfl, rfl, by decide, by decide⟩ (Nat.le_of_ble_eq_true rfl) rfl rfl h (kI (fun x8 σ8 h n8 => ?_))
    refine gw_iload (q := 5) dX12_isThere_55 rfl ?_
    refine gw_icmp_gt (tgt := 94) dX12_isThere_57 (by decide) (fun c9 => ?_) (fun c9 => ?_)
    · replace h := h.1 c9
      refine gw_iconst (v := 0) dX12_isThere_94 ic_0 ?_
      exact gw_rZ dX12_isThere_95 rfl (by decide) (by decide) (by decide) h
    · replace h := h.2 c9
      refine gw_aload_n (q := 0) dX12_isThere_60 rfl rfl ?_
      refine gw_iload_n (q := 2) dX12_isThere_61 rfl rfl ?_
      refine gw_iload (q := 6) dX12_isThere_62 rfl ?_
      refine gw_iconst (v := 0) dX12_isThere_64 ic_0 ?_
      refine gw_vC (bs := [.inl v2, .inl v6, .inl 0]) (st := []) (vmX12_tip) lX12_184 dX12_isThere_65 ⟨by decide, rfl, rfl, by decide, by decide⟩ (Nat.le_of_ble_eq_true rfl) rfl rfl ((((g2.up n1).up n5).up n7).up n8) h (kI (fun x10 σ10 h n10 => ?_))
      refine gw_aload_n (q := 0) dX12_isThere_68 rfl rfl ?_
      refine gw_aload_n (q := 0) dX12_isThere_69 rfl rfl ?_
      refine gw_gR fX12_51 dX12_isThere_70 (((((g2.up n1).up n5).up n7).up n8).up n10) ?_
      refine gw_iload_n (q := 1) dX12_isThere_73 rfl rfl ?_
      obtain ⟨g11, h⟩ := h
      refine gw_aI dX12_isThere_74 g11 ?_
      refine gw_iload (q := 7) dX12_isThere_75 rfl ?_
      refine gw_iconst (v := 0) dX12_isThere_77 ic_0 ?_
      refine gw_vC (bs := [.inl (σ10.2.1 (σ10.2.2 v0 17) v1.toNatClampNeg), .inl (σ1.2.1 (σ1.2.2 v0 19) ((40 * v1) + v3).toNatClampNeg), .inl 0]) (st := [.inl x10]) (vmX12_tip) lX12_184 dX12_isThere_78 ⟨by decide, rfl, rfl, by decide, by decide⟩ (Nat.le_of_ble_eq_true rfl) rfl rfl (((((g2.up n1).up n5).up n7).up n8).up n10) h (kI (fun x12 σ12 h n12 => ?_))
      refine gw_isub dX12_isThere_81 ?_
      refine gw_sC (bs := [.inl (x10 - x12)]) (st := []) smJ9_abs_0f7a4 lX12_168 dX12_isThere_82 ⟨by decide, rfl, rfl, by decide, by decide⟩ (Nat.le_of_ble_eq_true rfl) rfl rfl h (kI (fun x13 σ13 h n13 => ?_))
      refine gw_iload (q := 5) dX12_isThere_85 rfl ?_
      refine gw_icmp_gt (tgt := 94) dX12_isThere_87 (by decide) (fun c14 => ?_) (fun c14 => ?_)
      · replace h := h.1 c14
        refine gw_iconst (v := 0) dX12_isThere_94 ic_0 ?_
        exact gw_rZ dX12_isThere_95 rfl (by decide) (by decide) (by decide) h
      · replace h := h.2 c14
        refine gw_iconst (v := 1) dX12_isThere_90 ic_1 ?_
        refine gw_goto (tgt := 95) dX12_isThere_91 (by decide) ?_
        exact gw_rZ dX12_isThere_95 rfl (by decide) (by decide) (by decide) h
  · replace h := h.2 c3
    refine gw_iconst (v := 0) dX12_isThere_10 ic_0 ?_
    exact gw_rZ dX12_isThere_11 rfl (by decide) (by decide) (by decide) h
set_option maxHeartbeats 4000000 in
set_option maxRecDepth 20000 in
theorem gX12_beside_16 {l : Launch} {v0 : Nat} {v1 : Int32} {v2 : Int32} {v3 : Int32} {v4 : Int32} {v5 : Int32} {v6 : Int32} {σ : Sg} {K : Int32 → Sg → Prop} (h : ((v6 < 0 → K v5 σ) ∧ (¬ v6 < 0 → Ob σ v0 12 ∧ Ai σ (σ.2.2 v0 11) ((3 * v1) + v6) ∧ Con l mX12_placeOf [.inl v2, .inl v6] σ (PI (fun x4 σ4 => Con l mX12_besides [.inr v0, .inl v1, .inl v6] σ4 (PI (fun x5 σ5 => ¬ x5 = 0 ∧ Con l mX12_besides [.inr v0, .inl v1, .inl v6] σ5 (PI (fun x7 σ7 => ¬ x7 = 0 ∧ Ai σ7 (σ7.2.2 v0 9) ((3 * v1) + v6) ∧ Ai σ7 (σ7.2.2 v0 10) ((3 * v1) + v6) ∧ Con l mX12_in [.inl ((x4 - (σ.2.1 (σ.2.2 v0 11) ((3 * v1) + v6).toNatClampNeg)) + (v4 / x5)), .inl (σ7.2.1 (σ7.2.2 v0 9) ((3 * v1) + v6).toNatClampNeg), .inl (σ7.2.1 (σ7.2.2 v0 10) ((3 * v1) + v6).toNatClampNeg)] σ7 (PI (fun x11 σ11 => ((¬ x11 = 0 → GW l mX12_beside 16 [(0, .inr v0), (1, .inl v1), (2, .inl v2), (3, .inl v3), (4, .inl (v4 - v4 / x7 * x7)), (5, .inl (v5 ||| (((x4 - (σ.2.1 (σ.2.2 v0 11) ((3 * v1) + v6).toNatClampNeg)) + (v4 / x5)) <<< ((4 * v6) &&& 31)))), (6, .inl (v6 + (-1)))] [] σ11 0 0 (PI K)) ∧ (x11 = 0 → K (-1) σ11))))))))))))) : GW l mX12_beside 16 [(0, .inr v0), (1, .inl v1), (2, .inl v2), (3, .inl v3), (4, .inl v4), (5, .inl v5), (6, .inl v6)] [] σ 0 0 (PI K) := by
  refine gw_iload (q := 6) dX12_beside_16 rfl ?_
  refine gw_if_lt (tgt := 118) dX12_beside_18 (by decide) (fun c1 => ?_) (fun c1 => ?_)
  · replace h := h.1 c1
    refine gw_iload (q := 5) dX12_beside_118 rfl ?_
    exact gw_rI dX12_beside_120 rfl (by decide) (by decide) h
  · replace h := h.2 c1
    refine gw_aload_n (q := 0) dX12_beside_21 rfl rfl ?_
    obtain ⟨g2, h⟩ := h
    refine gw_gR fX12_36 dX12_beside_22 g2 ?_
    refine gw_iconst (v := 3) dX12_beside_25 ic_3 ?_
    refine gw_iload_n (q := 1) dX12_beside_26 rfl rfl ?_
    refine gw_imul dX12_beside_27 ?_
    refine gw_iload (q := 6) dX12_beside_28 rfl ?_
    refine gw_iadd dX12_beside_30 ?_
    obtain ⟨g3, h⟩ := h
    refine gw_aI dX12_beside_31 g3 ?_
    refine gw_istore (lo' := [(0, .inr v0), (1, .inl v1), (2, .inl v2), (3, .inl v3), (4, .inl v4), (5, .inl v5), (6, .inl v6), (7, .inl (σ.2.1 (σ.2.2 v0 11) ((3 * v1) + v6).toNatClampNeg))]) dX12_beside_32 (by decide) rfl ?_
    refine gw_iload_n (q := 2) dX12_beside_34 rfl rfl ?_
    refine gw_iload (q := 6) dX12_beside_35 rfl ?_
    refine gw_sC (bs := [.inl v2, .inl v6]) (st := []) smX12_placeOf lX12_155 dX12_beside_37 ⟨by decide, rfl, rfl, by decide, by decide⟩ (Nat.le_of_ble_eq_true rfl) rfl rfl h (kI (fun x4 σ4 h n4 => ?_))
    refine gw_iload (q := 7) dX12_beside_40 rfl ?_
    refine gw_isub dX12_beside_42 ?_
    refine gw_iload (q := 4) dX12_beside_43 rfl ?_
    refine gw_aload_n (q := 0) dX12_beside_45 rfl rfl ?_
    refine gw_iload_n (q := 1) dX12_beside_46 rfl rfl ?_
    refine gw_iload (q := 6) dX12_beside_47 rfl ?_
    refine gw_vC (bs := [.inl v1, .inl v6]) (st := [.inl v4, .inl (x4 - (σ.2.1 (σ.2.2 v0 11) ((3 * v1) + v6).toNatClampNeg))]) (vmX12_besides) lX12_310 dX12_beside_49 ⟨by decide, rfl, rfl, by decide, by decide⟩ (Nat.le_of_ble_eq_true rfl) rfl rfl (g2.up n4) h (kI (fun x5 σ5 h n5 => ?_))
    obtain ⟨g6, h⟩ := h
    refine gw_idiv dX12_beside_52 g6 ?_
    refine gw_iadd dX12_beside_53 ?_
    refine gw_istore (lo' := [(0, .inr v0), (1, .inl v1), (2, .inl v2), (3, .inl v3), (4, .inl v4), (5, .inl v5), (6, .inl v6), (7, .inl (σ.2.1 (σ.2.2 v0 11) ((3 * v1) + v6).toNatClampNeg)), (8, .inl ((x4 - (σ.2.1 (σ.2.2 v0 11) ((3 * v1) + v6).toNatClampNeg)) + (v4 / x5)))]) dX12_beside_54 (by decide) rfl ?_
    refine gw_iload (q := 4) dX12_beside_56 rfl ?_
    refine gw_aload_n (q := 0) dX12_beside_58 rfl rfl ?_
    refine gw_iload_n (q := 1) dX12_beside_59 rfl rfl ?_
    refine gw_iload (q := 6) dX12_beside_60 rfl ?_
    refine gw_vC (bs := [.inl v1, .inl v6]) (st := [.inl v4]) (vmX12_besides) lX12_310 dX12_beside_62 ⟨by decide, rfl, rfl, by decide, by decide⟩ (Nat.le_of_ble_eq_true rfl) rfl rfl ((g2.up n4).up n5) h (kI (fun x7 σ7 h n7 => ?_))
    obtain ⟨g8, h⟩ := h
    refine gw_irem dX12_beside_65 g8 ?_
    refine gw_istore (lo' := [(0, .inr v0), (1, .inl v1), (2, .inl v2), (3, .inl v3), (4, .inl (v4 - v4 / x7 * x7)), (5, .inl v5), (6, .inl v6), (7, .inl (σ.2.1 (σ.2.2 v0 11) ((3 * v1) + v6).toNatClampNeg)), (8, .inl ((x4 - (σ.2.1 (σ.2.2 v0 11) ((3 * v1) + v6).toNatClampNeg)) + (v4 / x5)))]) dX12_beside_66 (by decide) rfl ?_
    refine gw_iload (q := 8) dX12_beside_68 rfl ?_
    refine gw_aload_n (q := 0) dX12_beside_70 rfl rfl ?_
    refine gw_gR fX12_30 dX12_beside_71 (((g2.up n4).up n5).up n7) ?_
    refine gw_iconst (v := 3) dX12_beside_74 ic_3 ?_
    refine gw_iload_n (q := 1) dX12_beside_75 rfl rfl ?_
    refine gw_imul dX12_beside_76 ?_
    refine gw_iload (q := 6) dX12_beside_77 rfl ?_
    refine gw_iadd dX12_beside_79 ?_
    obtain ⟨g9, h⟩ := h
    refine gw_aI dX12_beside_80 g9 ?_
    refine gw_aload_n (q := 0) dX12_beside_81 rfl rfl ?_
    refine gw_gR fX12_33 dX12_beside_82 (((g2.up n4).up n5).up n7) ?_
    refine gw_iconst (v := 3) dX12_beside_85 ic_3 ?_
    refine gw_iload_n (q := 1) dX12_beside_86 rfl rfl ?_
    refine gw_imul dX12_beside_87 ?_
    refine gw_iload (q := 6) dX12_beside_88 rfl ?_
    refine gw_iadd dX12_beside_90 ?_
    obtain ⟨g10, h⟩ := h
    refine gw_aI dX12_beside_91 g10 ?_
    refine gw_sC (bs := [.inl ((x4 - (σ.2.1 (σ.2.2 v0 11) ((3 * v1) + v6).toNatClampNeg)) + (v4 / x5)), .inl (σ7.2.1 (σ7.2.2 v0 9) ((3 * v1) + v6).toNatClampNeg), .inl (σ7.2.1 (σ7.2.2 v0 10) ((3 * v1) + v6).toNatClampNeg)]) (st := []) smX12_in lX12_144 dX12_beside_92 ⟨by decide, rfl, rfl, by decide, by decide⟩ (Nat.le_of_ble_eq_true rfl) rfl rfl h (kI (fun x11 σ11 h n11 => ?_))
    refine gw_if_ne (tgt := 100) dX12_beside_95 (by decide) (fun c12 => ?_) (fun c12 => ?_)
    · replace h := h.1 c12
      refine gw_iload (q := 5) dX12_beside_100 rfl ?_
      refine gw_iload (q := 8) dX12_beside_102 rfl ?_
      refine gw_iconst (v := 4) dX12_beside_104 ic_4 ?_
      refine gw_iload (q := 6) dX12_beside_105 rfl ?_
      refine gw_imul dX12_beside_107 ?_
      refine gw_ishl dX12_beside_108 ?_
      refine gw_ior dX12_beside_109 ?_
      refine gw_istore (lo' := [(0, .inr v0), (1, .inl v1), (2, .inl v2), (3, .inl v3), (4, .inl (v4 - v4 / x7 * x7)), (5, .inl (v5 ||| (((x4 - (σ.2.1 (σ.2.2 v0 11) ((3 * v1) + v6).toNatClampNeg)) + (v4 / x5)) <<< ((4 * v6) &&& 31)))), (6, .inl v6), (7, .inl (σ.2.1 (σ.2.2 v0 11) ((3 * v1) + v6).toNatClampNeg)), (8, .inl ((x4 - (σ.2.1 (σ.2.2 v0 11) ((3 * v1) + v6).toNatClampNeg)) + (v4 / x5)))]) dX12_beside_110 (by decide) rfl ?_
      refine gw_inc (lo' := [(0, .inr v0), (1, .inl v1), (2, .inl v2), (3, .inl v3), (4, .inl (v4 - v4 / x7 * x7)), (5, .inl (v5 ||| (((x4 - (σ.2.1 (σ.2.2 v0 11) ((3 * v1) + v6).toNatClampNeg)) + (v4 / x5)) <<< ((4 * v6) &&& 31)))), (6, .inl (v6 + (-1))), (7, .inl (σ.2.1 (σ.2.2 v0 11) ((3 * v1) + v6).toNatClampNeg)), (8, .inl ((x4 - (σ.2.1 (σ.2.2 v0 11) ((3 * v1) + v6).toNatClampNeg)) + (v4 / x5)))]) (q := 6) (c := (-1)) dX12_beside_112 ic_m1 rfl (by decide) rfl ?_
      refine gw_goto (tgt := 16) dX12_beside_115 (by decide) ?_
      refine gw_pick [0, 1, 2, 3, 4, 5, 6] rfl ?_
      exact h
    · replace h := h.2 c12
      refine gw_iconst (v := (-1)) dX12_beside_98 ic_m1 ?_
      exact gw_rI dX12_beside_99 rfl (by decide) (by decide) h
set_option maxHeartbeats 4000000 in
set_option maxRecDepth 20000 in
theorem eX12_beside {l : Launch} {v0 : Nat} {v1 : Int32} {v2 : Int32} {v3 : Int32} {σ : Sg} {K : Int32 → Sg → Prop} (h : Ob σ v0 12 ∧ Ai σ (σ.2.2 v0 7) v1 ∧ GW l mX12_beside 16 [(0, .inr v0), (1, .inl v1), (2, .inl v2), (3, .inl v3), (4, .inl v3), (5, .inl 0), (6, .inl ((σ.2.1 (σ.2.2 v0 7) v1.toNatClampNeg) - 1))] [] σ 0 0 (PI K)) : Con l mX12_beside [.inr v0, .inl v1, .inl v2, .inl v3] σ (PI K) := by
  refine con_gw rfl (Nat.le_of_ble_eq_true rfl) ?_
  show GW l mX12_beside 0 [(0, .inr v0), (1, .inl v1), (2, .inl v2), (3, .inl v3)] [] σ 0 0 (PI K)
  refine gw_iload_n (q := 3) dX12_beside_0 rfl rfl ?_
  refine gw_istore (lo' := [(0, .inr v0), (1, .inl v1), (2, .inl v2), (3, .inl v3), (4, .inl v3)]) dX12_beside_1 (by decide) rfl ?_
  refine gw_iconst (v := 0) dX12_beside_3 ic_0 ?_
  refine gw_istore (lo' := [(0, .inr v0), (1, .inl v1), (2, .inl v2), (3, .inl v3), (4, .inl v3), (5, .inl 0)]) dX12_beside_4 (by decide) rfl ?_
  refine gw_aload_n (q := 0) dX12_beside_6 rfl rfl ?_
  obtain ⟨g1, h⟩ := h
  refine gw_gR fX12_24 dX12_beside_7 g1 ?_
  refine gw_iload_n (q := 1) dX12_beside_10 rfl rfl ?_
  obtain ⟨g2, h⟩ := h
  refine gw_aI dX12_beside_11 g2 ?_
  refine gw_iconst (v := 1) dX12_beside_12 ic_1 ?_
  refine gw_isub dX12_beside_13 ?_
  refine gw_istore (lo' := [(0, .inr v0), (1, .inl v1), (2, .inl v2), (3, .inl v3), (4, .inl v3), (5, .inl 0), (6, .inl ((σ.2.1 (σ.2.2 v0 7) v1.toNatClampNeg) - 1))]) dX12_beside_14 (by decide) rfl ?_
  exact h
set_option maxHeartbeats 4000000 in
set_option maxRecDepth 20000 in
theorem gX12_besides_5 {l : Launch} {v0 : Nat} {v1 : Int32} {v2 : Int32} {v3 : Int32} {v4 : Int32} {σ : Sg} {K : Int32 → Sg → Prop} (h : ((v2 ≤ v4 → K v3 σ) ∧ (¬ v2 ≤ v4 → Ob σ v0 12 ∧ Ai σ (σ.2.2 v0 11) ((3 * v1) + v4) ∧ GW l mX12_besides 5 [(0, .inr v0), (1, .inl v1), (2, .inl v2), (3, .inl (v3 * ((2 * (σ.2.1 (σ.2.2 v0 11) ((3 * v1) + v4).toNatClampNeg)) + 1))), (4, .inl (v4 + 1))] [] σ 0 0 (PI K)))) : GW l mX12_besides 5 [(0, .inr v0), (1, .inl v1), (2, .inl v2), (3, .inl v3), (4, .inl v4)] [] σ 0 0 (PI K) := by
  refine gw_iload (q := 4) dX12_besides_5 rfl ?_
  refine gw_iload_n (q := 2) dX12_besides_7 rfl rfl ?_
  refine gw_icmp_ge (tgt := 35) dX12_besides_8 (by decide) (fun c1 => ?_) (fun c1 => ?_)
  · replace h := h.1 c1
    refine gw_iload_n (q := 3) dX12_besides_35 rfl rfl ?_
    exact gw_rI dX12_besides_36 rfl (by decide) (by decide) h
  · replace h := h.2 c1
    refine gw_iload_n (q := 3) dX12_besides_11 rfl rfl ?_
    refine gw_iconst (v := 2) dX12_besides_12 ic_2 ?_
    refine gw_aload_n (q := 0) dX12_besides_13 rfl rfl ?_
    obtain ⟨g2, h⟩ := h
    refine gw_gR fX12_36 dX12_besides_14 g2 ?_
    refine gw_iconst (v := 3) dX12_besides_17 ic_3 ?_
    refine gw_iload_n (q := 1) dX12_besides_18 rfl rfl ?_
    refine gw_imul dX12_besides_19 ?_
    refine gw_iload (q := 4) dX12_besides_20 rfl ?_
    refine gw_iadd dX12_besides_22 ?_
    obtain ⟨g3, h⟩ := h
    refine gw_aI dX12_besides_23 g3 ?_
    refine gw_imul dX12_besides_24 ?_
    refine gw_iconst (v := 1) dX12_besides_25 ic_1 ?_
    refine gw_iadd dX12_besides_26 ?_
    refine gw_imul dX12_besides_27 ?_
    refine gw_istore_n (lo' := [(0, .inr v0), (1, .inl v1), (2, .inl v2), (3, .inl (v3 * ((2 * (σ.2.1 (σ.2.2 v0 11) ((3 * v1) + v4).toNatClampNeg)) + 1))), (4, .inl v4)]) dX12_besides_28 rfl (by decide) rfl ?_
    refine gw_inc (lo' := [(0, .inr v0), (1, .inl v1), (2, .inl v2), (3, .inl (v3 * ((2 * (σ.2.1 (σ.2.2 v0 11) ((3 * v1) + v4).toNatClampNeg)) + 1))), (4, .inl (v4 + 1))]) (q := 4) (c := 1) dX12_besides_29 ic_1 rfl (by decide) rfl ?_
    refine gw_goto (tgt := 5) dX12_besides_32 (by decide) ?_
    exact h
set_option maxHeartbeats 4000000 in
set_option maxRecDepth 20000 in
theorem eX12_besides {l : Launch} {v0 : Nat} {v1 : Int32} {v2 : Int32} {σ : Sg} {K : Int32 → Sg → Prop} (h : GW l mX12_besides 5 [(0, .inr v0), (1, .inl v1), (2, .inl v2), (3, .inl 1), (4, .inl 0)] [] σ 0 0 (PI K)) : Con l mX12_besides [.inr v0, .inl v1, .inl v2] σ (PI K) := by
  refine con_gw rfl (Nat.le_of_ble_eq_true rfl) ?_
  show GW l mX12_besides 0 [(0, .inr v0), (1, .inl v1), (2, .inl v2)] [] σ 0 0 (PI K)
  refine gw_iconst (v := 1) dX12_besides_0 ic_1 ?_
  refine gw_istore_n (lo' := [(0, .inr v0), (1, .inl v1), (2, .inl v2), (3, .inl 1)]) dX12_besides_1 rfl (by decide) rfl ?_
  refine gw_iconst (v := 0) dX12_besides_2 ic_0 ?_
  refine gw_istore (lo' := [(0, .inr v0), (1, .inl v1), (2, .inl v2), (3, .inl 1), (4, .inl 0)]) dX12_besides_3 (by decide) rfl ?_
  exact h
set_option maxHeartbeats 4000000 in
set_option maxRecDepth 20000 in
theorem gX12_wayBetween_5 {l : Launch} {v0 : Nat} {v1 : Int32} {v2 : Int32} {v3 : Int32} {v4 : Int32} {σ : Sg} {K : Int32 → Sg → Prop} (h : ((3 ≤ v4 → K v3 σ) ∧ (¬ 3 ≤ v4 → Con l mX12_placeOf [.inl v1, .inl v4] σ (PI (fun x2 σ2 => Con l mX12_placeOf [.inl v2, .inl v4] σ2 (PI (fun x3 σ3 => Con l mJ9_abs_0f7a4 [.inl (x2 - x3)] σ3 (PI (fun x4 σ4 => GW l mX12_wayBetween 5 [(0, .inr v0), (1, .inl v1), (2, .inl v2), (3, .inl (v3 + x4)), (4, .inl (v4 + 1))] [] σ4 0 0 (PI K)))))))))) : GW l mX12_wayBetween 5 [(0, .inr v0), (1, .inl v1), (2, .inl v2), (3, .inl v3), (4, .inl v4)] [] σ 0 0 (PI K) := by
  refine gw_iload (q := 4) dX12_wayBetween_5 rfl ?_
  refine gw_iconst (v := 3) dX12_wayBetween_7 ic_3 ?_
  refine gw_icmp_ge (tgt := 36) dX12_wayBetween_8 (by decide) (fun c1 => ?_) (fun c1 => ?_)
  · replace h := h.1 c1
    refine gw_iload_n (q := 3) dX12_wayBetween_36 rfl rfl ?_
    exact gw_rI dX12_wayBetween_37 rfl (by decide) (by decide) h
  · replace h := h.2 c1
    refine gw_iload_n (q := 3) dX12_wayBetween_11 rfl rfl ?_
    refine gw_iload_n (q := 1) dX12_wayBetween_12 rfl rfl ?_
    refine gw_iload (q := 4) dX12_wayBetween_13 rfl ?_
    refine gw_sC (bs := [.inl v1, .inl v4]) (st := [.inl v3]) smX12_placeOf lX12_155 dX12_wayBetween_15 ⟨by decide, rfl, rfl, by decide, by decide⟩ (Nat.le_of_ble_eq_true rfl) rfl rfl h (kI (fun x2 σ2 h n2 => ?_))
    refine gw_iload_n (q := 2) dX12_wayBetween_18 rfl rfl ?_
    refine gw_iload (q := 4) dX12_wayBetween_19 rfl ?_
    refine gw_sC (bs := [.inl v2, .inl v4]) (st := [.inl x2, .inl v3]) smX12_placeOf lX12_155 dX12_wayBetween_21 ⟨by decide, rfl, rfl, by decide, by decide⟩ (Nat.le_of_ble_eq_true rfl) rfl rfl h (kI (fun x3 σ3 h n3 => ?_))
    refine gw_isub dX12_wayBetween_24 ?_
    refine gw_sC (bs := [.inl (x2 - x3)]) (st := [.inl v3]) smJ9_abs_0f7a4 lX12_168 dX12_wayBetween_25 ⟨by decide, rfl, rfl, by decide, by decide⟩ (Nat.le_of_ble_eq_true rfl) rfl rfl h (kI (fun x4 σ4 h n4 => ?_))
    refine gw_iadd dX12_wayBetween_28 ?_
    refine gw_istore_n (lo' := [(0, .inr v0), (1, .inl v1), (2, .inl v2), (3, .inl (v3 + x4)), (4, .inl v4)]) dX12_wayBetween_29 rfl (by decide) rfl ?_
    refine gw_inc (lo' := [(0, .inr v0), (1, .inl v1), (2, .inl v2), (3, .inl (v3 + x4)), (4, .inl (v4 + 1))]) (q := 4) (c := 1) dX12_wayBetween_30 ic_1 rfl (by decide) rfl ?_
    refine gw_goto (tgt := 5) dX12_wayBetween_33 (by decide) ?_
    exact h
set_option maxHeartbeats 4000000 in
set_option maxRecDepth 20000 in
theorem eX12_wayBetween {l : Launch} {v0 : Nat} {v1 : Int32} {v2 : Int32} {σ : Sg} {K : Int32 → Sg → Prop} (h : GW l mX12_wayBetween 5 [(0, .inr v0), (1, .inl v1), (2, .inl v2), (3, .inl 0), (4, .inl 0)] [] σ 0 0 (PI K)) : Con l mX12_wayBetween [.inr v0, .inl v1, .inl v2] σ (PI K) := by
  refine con_gw rfl (Nat.le_of_ble_eq_true rfl) ?_
  show GW l mX12_wayBetween 0 [(0, .inr v0), (1, .inl v1), (2, .inl v2)] [] σ 0 0 (PI K)
  refine gw_iconst (v := 0) dX12_wayBetween_0 ic_0 ?_
  refine gw_istore_n (lo' := [(0, .inr v0), (1, .inl v1), (2, .inl v2), (3, .inl 0)]) dX12_wayBetween_1 rfl (by decide) rfl ?_
  refine gw_iconst (v := 0) dX12_wayBetween_2 ic_0 ?_
  refine gw_istore (lo' := [(0, .inr v0), (1, .inl v1), (2, .inl v2), (3, .inl 0), (4, .inl 0)]) dX12_wayBetween_3 (by decide) rfl ?_
  exact h
set_option maxHeartbeats 4000000 in
set_option maxRecDepth 20000 in
theorem gX12_follows_345 {l : Launch} {v0 : Nat} {v1 : Int32} {v2 : Int32} {v3 : Int32} {v4 : Int32} {v5 : Int32} {v6 : Int32} {v7 : Int32} {v8 : Int32} {v9 : Int32} {v10 : Int32} {σ : Sg} {K : Int32 → Sg → Prop} (h : ((v6 ≤ v10 → GW l mX12_follows 323 [(0, .inr v0), (1, .inl v1), (2, .inl v2), (3, .inl v3), (4, .inl v4), (5, .inl v5), (6, .inl v6), (7, .inl v9), (8, .inl (v8 + 1))] [] σ 0 0 (PI K)) ∧ (¬ v6 ≤ v10 → ((v5 ≤ v8 → GW l mX12_follows 323 [(0, .inr v0), (1, .inl v1), (2, .inl v2), (3, .inl v3), (4, .inl v4), (5, .inl v5), (6, .inl v6), (7, .inl v9), (8, .inl (v8 + 1))] [] σ 0 0 (PI K)) ∧ (¬ v5 ≤ v8 → Ob σ v0 12 ∧ Con l mX12_beside [.inr v0, .inl v2, .inl v7, .inl v10] σ (PI (fun x3 σ3 => ((x3 = (-1) → GW l mX12_follows 345 [(0, .inr v0), (1, .inl v1), (2, .inl v2), (3, .inl v3), (4, .inl v4), (5, .inl v5), (6, .inl v6), (7, .inl v7), (8, .inl v8), (9, .inl v9), (10, .inl (v10 + 1))] [] σ3 0 0 (PI K)) ∧ (¬ x3 = (-1) → Ai σ3 (σ3.2.2 v0 43) (((4096 * v8) + 4096) + x3) ∧ (((σ3.2.1 (σ3.2.2 v0 43) (((4096 * v8) + 4096) + x3).toNatClampNeg) = (-1) → GW l mX12_follows 345 [(0, .inr v0), (1, .inl v1), (2, .inl v2), (3, .inl v3), (4, .inl v4), (5, .inl v5), (6, .inl v6), (7, .inl v7), (8, .inl v8), (9, .inl v9), (10, .inl (v10 + 1))] [] σ3 0 0 (PI K)) ∧ (¬ (σ3.2.1 (σ3.2.2 v0 43) (((4096 * v8) + 4096) + x3).toNatClampNeg) = (-1) → Con l mX12_wayBetween [.inr v0, .inl v7, .inl x3] σ3 (PI (fun x9 σ9 => Ai σ9 (σ9.2.2 v0 43) ((4096 * v8) + v7) ∧ ((¬ ((σ3.2.1 (σ3.2.2 v0 43) (((4096 * v8) + 4096) + x3).toNatClampNeg) + x9) = (σ9.2.1 (σ9.2.2 v0 43) ((4096 * v8) + v7).toNatClampNeg) → GW l mX12_follows 345 [(0, .inr v0), (1, .inl v1), (2, .inl v2), (3, .inl v3), (4, .inl v4), (5, .inl v5), (6, .inl v6), (7, .inl v7), (8, .inl v8), (9, .inl v9), (10, .inl (v10 + 1))] [] σ9 0 0 (PI K)) ∧ (((σ3.2.1 (σ3.2.2 v0 43) (((4096 * v8) + 4096) + x3).toNatClampNeg) + x9) = (σ9.2.1 (σ9.2.2 v0 43) ((4096 * v8) + v7).toNatClampNeg) → ((¬ v9 = (-1) → GW l mX12_follows 345 [(0, .inr v0), (1, .inl v1), (2, .inl v2), (3, .inl v3), (4, .inl v4), (5, .inl v5), (6, .inl v6), (7, .inl v7), (8, .inl v8), (9, .inl v9), (10, .inl (v10 + 1))] [] σ9 0 0 (PI K)) ∧ (v9 = (-1) → GW l mX12_follows 345 [(0, .inr v0), (1, .inl v1), (2, .inl v2), (3, .inl v3), (4, .inl v4), (5, .inl v5), (6, .inl v6), (7, .inl v7), (8, .inl v8), (9, .inl x3), (10, .inl (v10 + 1))] [] σ9 0 0 (PI K)))))))))))))))))) : GW l mX12_follows 345 [(0, .inr v0), (1, .inl v1), (2, .inl v2), (3, .inl v3), (4, .inl v4), (5, .inl v5), (6, .inl v6), (7, .inl v7), (8, .inl v8), (9, .inl v9), (10, .inl v10)] [] σ 0 0 (PI K) := by
  refine gw_iload (q := 10) dX12_follows_345 rfl ?_
  refine gw_iload (q := 6) dX12_follows_347 rfl ?_
  refine gw_icmp_ge (tgt := 458) dX12_follows_349 (by decide) (fun c1 => ?_) (fun c1 => ?_)
  · replace h := h.1 c1
    refine gw_iload (q := 9) dX12_follows_458 rfl ?_
    refine gw_istore (lo' := [(0, .inr v0), (1, .inl v1), (2, .inl v2), (3, .inl v3), (4, .inl v4), (5, .inl v5), (6, .inl v6), (7, .inl v9), (8, .inl v8), (9, .inl v9), (10, .inl v10)]) dX12_follows_460 (by decide) rfl ?_
    refine gw_inc (lo' := [(0, .inr v0), (1, .inl v1), (2, .inl v2), (3, .inl v3), (4, .inl v4), (5, .inl v5), (6, .inl v6), (7, .inl v9), (8, .inl (v8 + 1)), (9, .inl v9), (10, .inl v10)]) (q := 8) (c := 1) dX12_follows_462 ic_1 rfl (by decide) rfl ?_
    refine gw_goto (tgt := 323) dX12_follows_465 (by decide) ?_
    refine gw_pick [0, 1, 2, 3, 4, 5, 6, 7, 8] rfl ?_
    exact h
  · replace h := h.2 c1
    refine gw_iload (q := 8) dX12_follows_352 rfl ?_
    refine gw_iload (q := 5) dX12_follows_354 rfl ?_
    refine gw_icmp_ge (tgt := 458) dX12_follows_356 (by decide) (fun c2 => ?_) (fun c2 => ?_)
    · replace h := h.1 c2
      refine gw_iload (q := 9) dX12_follows_458 rfl ?_
      refine gw_istore (lo' := [(0, .inr v0), (1, .inl v1), (2, .inl v2), (3, .inl v3), (4, .inl v4), (5, .inl v5), (6, .inl v6), (7, .inl v9), (8, .inl v8), (9, .inl v9), (10, .inl v10)]) dX12_follows_460 (by decide) rfl ?_
      refine gw_inc (lo' := [(0, .inr v0), (1, .inl v1), (2, .inl v2), (3, .inl v3), (4, .inl v4), (5, .inl v5), (6, .inl v6), (7, .inl v9), (8, .inl (v8 + 1)), (9, .inl v9), (10, .inl v10)]) (q := 8) (c := 1) dX12_follows_462 ic_1 rfl (by decide) rfl ?_
      refine gw_goto (tgt := 323) dX12_follows_465 (by decide) ?_
      refine gw_pick [0, 1, 2, 3, 4, 5, 6, 7, 8] rfl ?_
      exact h
    · replace h := h.2 c2
      refine gw_aload_n (q := 0) dX12_follows_359 rfl rfl ?_
      refine gw_iload_n (q := 2) dX12_follows_360 rfl rfl ?_
      refine gw_iload (q := 7) dX12_follows_361 rfl ?_
      refine gw_iload (q := 10) dX12_follows_363 rfl ?_
      obtain ⟨g4, h⟩ := h
      refine gw_vC (bs := [.inl v2, .inl v7, .inl v10]) (st := []) (vmX12_beside) lX12_317 dX12_follows_365 ⟨by decide, rfl, rfl, by decide, by decide⟩ (Nat.le_of_ble_eq_true rfl) rfl rfl g4 h (kI (fun x3 σ3 h n3 => ?_))
      refine gw_istore (lo' := [(0, .inr v0), (1, .inl v1), (2, .inl v2), (3, .inl v3), (4, .inl v4), (5, .inl v5), (6, .inl v6), (7, .inl v7), (8, .inl v8), (9, .inl v9), (10, .inl v10), (11, .inl x3)]) dX12_follows_368 (by decide) rfl ?_
      refine gw_iload (q := 11) dX12_follows_370 rfl ?_
      refine gw_iconst (v := (-1)) dX12_follows_372 ic_m1 ?_
      refine gw_icmp_eq (tgt := 452) dX12_follows_373 (by decide) (fun c5 => ?_) (fun c5 => ?_)
      · replace h := h.1 c5
        refine gw_inc (lo' := [(0, .inr v0), (1, .inl v1), (2, .inl v2), (3, .inl v3), (4, .inl v4), (5, .inl v5), (6, .inl v6), (7, .inl v7), (8, .inl v8), (9, .inl v9), (10, .inl (v10 + 1)), (11, .inl x3)]) (q := 10) (c := 1) dX12_follows_452 ic_1 rfl (by decide) rfl ?_
        refine gw_goto (tgt := 345) dX12_follows_455 (by decide) ?_
        refine gw_pick [0, 1, 2, 3, 4, 5, 6, 7, 8, 9, 10] rfl ?_
        exact h
      · replace h := h.2 c5
        refine gw_aload_n (q := 0) dX12_follows_376 rfl rfl ?_
        refine gw_gR fX12_92 dX12_follows_377 (g4.up n3) ?_
        refine gw_sipush (v := 4096) dX12_follows_380 sp_4096 ?_
        refine gw_iload (q := 8) dX12_follows_383 rfl ?_
        refine gw_imul dX12_follows_385 ?_
        refine gw_sipush (v := 4096) dX12_follows_386 sp_4096 ?_
        refine gw_iadd dX12_follows_389 ?_
        refine gw_iload (q := 11) dX12_follows_390 rfl ?_
        refine gw_iadd dX12_follows_392 ?_
        obtain ⟨g6, h⟩ := h
        refine gw_aI dX12_follows_393 g6 ?_
        refine gw_iconst (v := (-1)) dX12_follows_394 ic_m1 ?_
        refine gw_icmp_eq (tgt := 452) dX12_follows_395 (by decide) (fun c7 => ?_) (fun c7 => ?_)
        · replace h := h.1 c7
          refine gw_inc (lo' := [(0, .inr v0), (1, .inl v1), (2, .inl v2), (3, .inl v3), (4, .inl v4), (5, .inl v5), (6, .inl v6), (7, .inl v7), (8, .inl v8), (9, .inl v9), (10, .inl (v10 + 1)), (11, .inl x3)]) (q := 10) (c := 1) dX12_follows_452 ic_1 rfl (by decide) rfl ?_
          refine gw_goto (tgt := 345) dX12_follows_455 (by decide) ?_
          refine gw_pick [0, 1, 2, 3, 4, 5, 6, 7, 8, 9, 10] rfl ?_
          exact h
        · replace h := h.2 c7
          refine gw_aload_n (q := 0) dX12_follows_398 rfl rfl ?_
          refine gw_gR fX12_92 dX12_follows_399 (g4.up n3) ?_
          refine gw_sipush (v := 4096) dX12_follows_402 sp_4096 ?_
          refine gw_iload (q := 8) dX12_follows_405 rfl ?_
          refine gw_imul dX12_follows_407 ?_
          refine gw_sipush (v := 4096) dX12_follows_408 sp_4096 ?_
          refine gw_iadd dX12_follows_411 ?_
          refine gw_iload (q := 11) dX12_follows_412 rfl ?_
          refine gw_iadd dX12_follows_414 ?_
          refine gw_aI dX12_follows_415 g6 ?_
          refine gw_aload_n (q := 0) dX12_follows_416 rfl rfl ?_
          refine gw_iload (q := 7) dX12_follows_417 rfl ?_
          refine gw_iload (q := 11) dX12_follows_419 rfl ?_
          refine gw_vC (bs := [.inl v7, .inl x3]) (st := [.inl (σ3.2.1 (σ3.2.2 v0 43) (((4096 * v8) + 4096) + x3).toNatClampNeg)]) (vmX12_wayBetween) lX12_320 dX12_follows_421 ⟨by decide, rfl, rfl, by decide, by decide⟩ (Nat.le_of_ble_eq_true rfl) rfl rfl (g4.up n3) h (kI (fun x9 σ9 h n9 => ?_))
          refine gw_iadd dX12_follows_424 ?_
          refine gw_aload_n (q := 0) dX12_follows_425 rfl rfl ?_
          refine gw_gR fX12_92 dX12_follows_426 ((g4.up n3).up n9) ?_
          refine gw_sipush (v := 4096) dX12_follows_429 sp_4096 ?_
          refine gw_iload (q := 8) dX12_follows_432 rfl ?_
          refine gw_imul dX12_follows_434 ?_
          refine gw_iload (q := 7) dX12_follows_435 rfl ?_
          refine gw_iadd dX12_follows_437 ?_
          obtain ⟨g10, h⟩ := h
          refine gw_aI dX12_follows_438 g10 ?_
          refine gw_icmp_ne (tgt := 452) dX12_follows_439 (by decide) (fun c11 => ?_) (fun c11 => ?_)
          · replace h := h.1 c11
            refine gw_inc (lo' := [(0, .inr v0), (1, .inl v1), (2, .inl v2), (3, .inl v3), (4, .inl v4), (5, .inl v5), (6, .inl v6), (7, .inl v7), (8, .inl v8), (9, .inl v9), (10, .inl (v10 + 1)), (11, .inl x3)]) (q := 10) (c := 1) dX12_follows_452 ic_1 rfl (by decide) rfl ?_
            refine gw_goto (tgt := 345) dX12_follows_455 (by decide) ?_
            refine gw_pick [0, 1, 2, 3, 4, 5, 6, 7, 8, 9, 10] rfl ?_
            exact h
          · replace h := h.2 c11
            refine gw_iload (q := 9) dX12_follows_442 rfl ?_
            refine gw_iconst (v := (-1)) dX12_follows_444 ic_m1 ?_
            refine gw_icmp_ne (tgt := 452) dX12_follows_445 (by decide) (fun c12 => ?_) (fun c12 => ?_)
            · replace h := h.1 c12
              refine gw_inc (lo' := [(0, .inr v0), (1, .inl v1), (2, .inl v2), (3, .inl v3), (4, .inl v4), (5, .inl v5), (6, .inl v6), (7, .inl v7), (8, .inl v8), (9, .inl v9), (10, .inl (v10 + 1)), (11, .inl x3)]) (q := 10) (c := 1) dX12_follows_452 ic_1 rfl (by decide) rfl ?_
              refine gw_goto (tgt := 345) dX12_follows_455 (by decide) ?_
              refine gw_pick [0, 1, 2, 3, 4, 5, 6, 7, 8, 9, 10] rfl ?_
              exact h
            · replace h := h.2 c12
              refine gw_iload (q := 11) dX12_follows_448 rfl ?_
              refine gw_istore (lo' := [(0, .inr v0), (1, .inl v1), (2, .inl v2), (3, .inl v3), (4, .inl v4), (5, .inl v5), (6, .inl v6), (7, .inl v7), (8, .inl v8), (9, .inl x3), (10, .inl v10), (11, .inl x3)]) dX12_follows_450 (by decide) rfl ?_
              refine gw_inc (lo' := [(0, .inr v0), (1, .inl v1), (2, .inl v2), (3, .inl v3), (4, .inl v4), (5, .inl v5), (6, .inl v6), (7, .inl v7), (8, .inl v8), (9, .inl x3), (10, .inl (v10 + 1)), (11, .inl x3)]) (q := 10) (c := 1) dX12_follows_452 ic_1 rfl (by decide) rfl ?_
              refine gw_goto (tgt := 345) dX12_follows_455 (by decide) ?_
              refine gw_pick [0, 1, 2, 3, 4, 5, 6, 7, 8, 9, 10] rfl ?_
              exact h
set_option maxHeartbeats 4000000 in
set_option maxRecDepth 20000 in
theorem gX12_follows_323 {l : Launch} {v0 : Nat} {v1 : Int32} {v2 : Int32} {v3 : Int32} {v4 : Int32} {v5 : Int32} {v6 : Int32} {v7 : Int32} {v8 : Int32} {σ : Sg} {K : Int32 → Sg → Prop} (h : ((v5 < v8 → K 1 σ) ∧ (¬ v5 < v8 → Ob σ v0 12 ∧ Ai σ (σ.2.2 v0 45) v8 ∧ ∀ σ4, σ4 = w1 σ (σ.2.2 v0 45) v8.toNatClampNeg v7 → GW l mX12_follows 345 [(0, .inr v0), (1, .inl v1), (2, .inl v2), (3, .inl v3), (4, .inl v4), (5, .inl v5), (6, .inl v6), (7, .inl v7), (8, .inl v8), (9, .inl (-1)), (10, .inl 0)] [] σ4 0 0 (PI K)))) : GW l mX12_follows 323 [(0, .inr v0), (1, .inl v1), (2, .inl v2), (3, .inl v3), (4, .inl v4), (5, .inl v5), (6, .inl v6), (7, .inl v7), (8, .inl v8)] [] σ 0 0 (PI K) := by
  refine gw_iload (q := 8) dX12_follows_323 rfl ?_
  refine gw_iload (q := 5) dX12_follows_325 rfl ?_
  refine gw_icmp_gt (tgt := 468) dX12_follows_327 (by decide) (fun c1 => ?_) (fun c1 => ?_)
  · replace h := h.1 c1
    refine gw_iconst (v := 1) dX12_follows_468 ic_1 ?_
    exact gw_rZ dX12_follows_469 rfl (by decide) (by decide) (by decide) h
  · replace h := h.2 c1
    refine gw_aload_n (q := 0) dX12_follows_330 rfl rfl ?_
    obtain ⟨g2, h⟩ := h
    refine gw_gR fX12_99 dX12_follows_331 g2 ?_
    refine gw_iload (q := 8) dX12_follows_334 rfl ?_
    refine gw_iload (q := 7) dX12_follows_336 rfl ?_
    obtain ⟨g3, h⟩ := h
    refine gw_sI dX12_follows_338 g3 (fun σ4 e4 => ?_)
    replace h := h σ4 e4
    refine gw_iconst (v := (-1)) dX12_follows_339 ic_m1 ?_
    refine gw_istore (lo' := [(0, .inr v0), (1, .inl v1), (2, .inl v2), (3, .inl v3), (4, .inl v4), (5, .inl v5), (6, .inl v6), (7, .inl v7), (8, .inl v8), (9, .inl (-1))]) dX12_follows_340 (by decide) rfl ?_
    refine gw_iconst (v := 0) dX12_follows_342 ic_0 ?_
    refine gw_istore (lo' := [(0, .inr v0), (1, .inl v1), (2, .inl v2), (3, .inl v3), (4, .inl v4), (5, .inl v5), (6, .inl v6), (7, .inl v7), (8, .inl v8), (9, .inl (-1)), (10, .inl 0)]) dX12_follows_343 (by decide) rfl ?_
    exact h
set_option maxHeartbeats 4000000 in
set_option maxRecDepth 20000 in
theorem gX12_follows_236 {l : Launch} {v0 : Nat} {v1 : Int32} {v2 : Int32} {v3 : Int32} {v4 : Int32} {v5 : Int32} {v6 : Int32} {v7 : Int32} {v8 : Int32} {σ : Sg} {K : Int32 → Sg → Prop} (h : ((4096 ≤ v8 → ((¬ v7 = (-1) → Ob σ v0 12 ∧ Ai σ (σ.2.2 v0 43) v7 ∧ ∀ σ5, σ5 = w1 σ v0 42 (σ.2.1 (σ.2.2 v0 43) v7.toNatClampNeg) → GW l mX12_follows 323 [(0, .inr v0), (1, .inl v1), (2, .inl v2), (3, .inl v3), (4, .inl v4), (5, .inl v5), (6, .inl v6), (7, .inl v7), (8, .inl 0)] [] σ5 0 0 (PI K)) ∧ (v7 = (-1) → Ob σ v0 12 ∧ Con l mX12_stops [.inr v0, .inl v1, .inl v2, .inl v3, .inl v4] σ (PI (fun x6 σ6 => ∀ σ8, σ8 = w1 σ6 v0 40 x6 → K 0 σ8))))) ∧ (¬ 4096 ≤ v8 → Ob σ v0 12 ∧ Ai σ (σ.2.2 v0 43) v8 ∧ (((σ.2.1 (σ.2.2 v0 43) v8.toNatClampNeg) = (-1) → GW l mX12_follows 236 [(0, .inr v0), (1, .inl v1), (2, .inl v2), (3, .inl v3), (4, .inl v4), (5, .inl v5), (6, .inl v6), (7, .inl v7), (8, .inl (v8 + 1))] [] σ 0 0 (PI K)) ∧ (¬ (σ.2.1 (σ.2.2 v0 43) v8.toNatClampNeg) = (-1) → ((v7 = (-1) → GW l mX12_follows 236 [(0, .inr v0), (1, .inl v1), (2, .inl v2), (3, .inl v3), (4, .inl v4), (5, .inl v5), (6, .inl v6), (7, .inl v8), (8, .inl (v8 + 1))] [] σ 0 0 (PI K)) ∧ (¬ v7 = (-1) → Ai σ (σ.2.2 v0 43) v7 ∧ (((σ.2.1 (σ.2.2 v0 43) v7.toNatClampNeg) ≤ (σ.2.1 (σ.2.2 v0 43) v8.toNatClampNeg) → GW l mX12_follows 236 [(0, .inr v0), (1, .inl v1), (2, .inl v2), (3, .inl v3), (4, .inl v4), (5, .inl v5), (6, .inl v6), (7, .inl v7), (8, .inl (v8 + 1))] [] σ 0 0 (PI K)) ∧ (¬ (σ.2.1 (σ.2.2 v0 43) v7.toNatClampNeg) ≤ (σ.2.1 (σ.2.2 v0 43) v8.toNatClampNeg) → GW l mX12_follows 236 [(0, .inr v0), (1, .inl v1), (2, .inl v2), (3, .inl v3), (4, .inl v4), (5, .inl v5), (6, .inl v6), (7, .inl v8), (8, .inl (v8 + 1))] [] σ 0 0 (PI K)))))))))) : GW l mX12_follows 236 [(0, .inr v0), (1, .inl v1), (2, .inl v2), (3, .inl v3), (4, .inl v4), (5, .inl v5), (6, .inl v6), (7, .inl v7), (8, .inl v8)] [] σ 0 0 (PI K) := by
  refine gw_iload (q := 8) dX12_follows_236 rfl ?_
  refine gw_sipush (v := 4096) dX12_follows_238 sp_4096 ?_
  refine gw_icmp_ge (tgt := 288) dX12_follows_241 (by decide) (fun c1 => ?_) (fun c1 => ?_)
  · replace h := h.1 c1
    refine gw_iload (q := 7) dX12_follows_288 rfl ?_
    refine gw_iconst (v := (-1)) dX12_follows_290 ic_m1 ?_
    refine gw_icmp_ne (tgt := 309) dX12_follows_291 (by decide) (fun c2 => ?_) (fun c2 => ?_)
    · replace h := h.1 c2
      refine gw_aload_n (q := 0) dX12_follows_309 rfl rfl ?_
      refine gw_aload_n (q := 0) dX12_follows_310 rfl rfl ?_
      obtain ⟨g3, h⟩ := h
      refine gw_gR fX12_92 dX12_follows_311 g3 ?_
      refine gw_iload (q := 7) dX12_follows_314 rfl ?_
      obtain ⟨g4, h⟩ := h
      refine gw_aI dX12_follows_316 g4 ?_
      refine gw_pI fX12_327 dX12_follows_317 g3 (fun σ5 e5 => ?_)
      replace h := h σ5 e5
      refine gw_iconst (v := 0) dX12_follows_320 ic_0 ?_
      refine gw_istore (lo' := [(0, .inr v0), (1, .inl v1), (2, .inl v2), (3, .inl v3), (4, .inl v4), (5, .inl v5), (6, .inl v6), (7, .inl v7), (8, .inl 0)]) dX12_follows_321 (by decide) rfl ?_
      exact h
    · replace h := h.2 c2
      refine gw_aload_n (q := 0) dX12_follows_294 rfl rfl ?_
      refine gw_aload_n (q := 0) dX12_follows_295 rfl rfl ?_
      refine gw_iload_n (q := 1) dX12_follows_296 rfl rfl ?_
      refine gw_iload_n (q := 2) dX12_follows_297 rfl rfl ?_
      refine gw_iload_n (q := 3) dX12_follows_298 rfl rfl ?_
      refine gw_iload (q := 4) dX12_follows_299 rfl ?_
      obtain ⟨g7, h⟩ := h
      refine gw_vC (bs := [.inl v1, .inl v2, .inl v3, .inl v4]) (st := [.inr v0]) (vmX12_stops) lX12_323 dX12_follows_301 ⟨by decide, rfl, rfl, by decide, by decide⟩ (Nat.le_of_ble_eq_true rfl) rfl rfl g7 h (kI (fun x6 σ6 h n6 => ?_))
      refine gw_pI fX12_85 dX12_follows_304 (g7.up n6) (fun σ8 e8 => ?_)
      replace h := h σ8 e8
      refine gw_iconst (v := 0) dX12_follows_307 ic_0 ?_
      exact gw_rZ dX12_follows_308 rfl (by decide) (by decide) (by decide) h
  · replace h := h.2 c1
    refine gw_aload_n (q := 0) dX12_follows_244 rfl rfl ?_
    obtain ⟨g9, h⟩ := h
    refine gw_gR fX12_92 dX12_follows_245 g9 ?_
    refine gw_iload (q := 8) dX12_follows_248 rfl ?_
    obtain ⟨g10, h⟩ := h
    refine gw_aI dX12_follows_250 g10 ?_
    refine gw_iconst (v := (-1)) dX12_follows_251 ic_m1 ?_
    refine gw_icmp_eq (tgt := 282) dX12_follows_252 (by decide) (fun c11 => ?_) (fun c11 => ?_)
    · replace h := h.1 c11
      refine gw_inc (lo' := [(0, .inr v0), (1, .inl v1), (2, .inl v2), (3, .inl v3), (4, .inl v4), (5, .inl v5), (6, .inl v6), (7, .inl v7), (8, .inl (v8 + 1))]) (q := 8) (c := 1) dX12_follows_282 ic_1 rfl (by decide) rfl ?_
      refine gw_goto (tgt := 236) dX12_follows_285 (by decide) ?_
      exact h
    · replace h := h.2 c11
      refine gw_iload (q := 7) dX12_follows_255 rfl ?_
      refine gw_iconst (v := (-1)) dX12_follows_257 ic_m1 ?_
      refine gw_icmp_eq (tgt := 278) dX12_follows_258 (by decide) (fun c12 => ?_) (fun c12 => ?_)
      · replace h := h.1 c12
        refine gw_iload (q := 8) dX12_follows_278 rfl ?_
        refine gw_istore (lo' := [(0, .inr v0), (1, .inl v1), (2, .inl v2), (3, .inl v3), (4, .inl v4), (5, .inl v5), (6, .inl v6), (7, .inl v8), (8, .inl v8)]) dX12_follows_280 (by decide) rfl ?_
        refine gw_inc (lo' := [(0, .inr v0), (1, .inl v1), (2, .inl v2), (3, .inl v3), (4, .inl v4), (5, .inl v5), (6, .inl v6), (7, .inl v8), (8, .inl (v8 + 1))]) (q := 8) (c := 1) dX12_follows_282 ic_1 rfl (by decide) rfl ?_
        refine gw_goto (tgt := 236) dX12_follows_285 (by decide) ?_
        exact h
      · replace h := h.2 c12
        refine gw_aload_n (q := 0) dX12_follows_261 rfl rfl ?_
        refine gw_gR fX12_92 dX12_follows_262 g9 ?_
        refine gw_iload (q := 8) dX12_follows_265 rfl ?_
        refine gw_aI dX12_follows_267 g10 ?_
        refine gw_aload_n (q := 0) dX12_follows_268 rfl rfl ?_
        refine gw_gR fX12_92 dX12_follows_269 g9 ?_
        refine gw_iload (q := 7) dX12_follows_272 rfl ?_
        obtain ⟨g14, h⟩ := h
        refine gw_aI dX12_follows_274 g14 ?_
        refine gw_icmp_ge (tgt := 282) dX12_follows_275 (by decide) (fun c15 => ?_) (fun c15 => ?_)
        · replace h := h.1 c15
          refine gw_inc (lo' := [(0, .inr v0), (1, .inl v1), (2, .inl v2), (3, .inl v3), (4, .inl v4), (5, .inl v5), (6, .inl v6), (7, .inl v7), (8, .inl (v8 + 1))]) (q := 8) (c := 1) dX12_follows_282 ic_1 rfl (by decide) rfl ?_
          refine gw_goto (tgt := 236) dX12_follows_285 (by decide) ?_
          exact h
        · replace h := h.2 c15
          refine gw_iload (q := 8) dX12_follows_278 rfl ?_
          refine gw_istore (lo' := [(0, .inr v0), (1, .inl v1), (2, .inl v2), (3, .inl v3), (4, .inl v4), (5, .inl v5), (6, .inl v6), (7, .inl v8), (8, .inl v8)]) dX12_follows_280 (by decide) rfl ?_
          refine gw_inc (lo' := [(0, .inr v0), (1, .inl v1), (2, .inl v2), (3, .inl v3), (4, .inl v4), (5, .inl v5), (6, .inl v6), (7, .inl v8), (8, .inl (v8 + 1))]) (q := 8) (c := 1) dX12_follows_282 ic_1 rfl (by decide) rfl ?_
          refine gw_goto (tgt := 236) dX12_follows_285 (by decide) ?_
          exact h
set_option maxHeartbeats 4000000 in
set_option maxRecDepth 20000 in
theorem gX12_follows_94 {l : Launch} {v0 : Nat} {v1 : Int32} {v2 : Int32} {v3 : Int32} {v4 : Int32} {v5 : Int32} {v6 : Int32} {v7 : Int32} {v8 : Int32} {v9 : Int32} {v10 : Int32} {σ : Sg} {K : Int32 → Sg → Prop} (h : ((v6 ≤ v10 → Ob σ v0 12 ∧ Ai σ (σ.2.2 v0 43) ((4096 * v7) + v8) ∧ ∀ σ4, σ4 = w1 σ (σ.2.2 v0 43) ((4096 * v7) + v8).toNatClampNeg v9 → GW l mX12_follows 35 [(0, .inr v0), (1, .inl v1), (2, .inl v2), (3, .inl v3), (4, .inl v4), (5, .inl v5), (6, .inl v6), (7, .inl v7), (8, .inl (v8 + 1))] [] σ4 0 0 (PI K)) ∧ (¬ v6 ≤ v10 → ((v5 ≤ v7 → Ob σ v0 12 ∧ Ai σ (σ.2.2 v0 43) ((4096 * v7) + v8) ∧ ∀ σ8, σ8 = w1 σ (σ.2.2 v0 43) ((4096 * v7) + v8).toNatClampNeg v9 → GW l mX12_follows 35 [(0, .inr v0), (1, .inl v1), (2, .inl v2), (3, .inl v3), (4, .inl v4), (5, .inl v5), (6, .inl v6), (7, .inl v7), (8, .inl (v8 + 1))] [] σ8 0 0 (PI K)) ∧ (¬ v5 ≤ v7 → Ob σ v0 12 ∧ Con l mX12_beside [.inr v0, .inl v2, .inl v8, .inl v10] σ (PI (fun x9 σ9 => ((x9 = (-1) → GW l mX12_follows 94 [(0, .inr v0), (1, .inl v1), (2, .inl v2), (3, .inl v3), (4, .inl v4), (5, .inl v5), (6, .inl v6), (7, .inl v7), (8, .inl v8), (9, .inl v9), (10, .inl (v10 + 1))] [] σ9 0 0 (PI K)) ∧ (¬ x9 = (-1) → Ai σ9 (σ9.2.2 v0 43) (((4096 * v7) + 4096) + x9) ∧ ((¬ (σ9.2.1 (σ9.2.2 v0 43) (((4096 * v7) + 4096) + x9).toNatClampNeg) = (-1) → Con l mX12_wayBetween [.inr v0, .inl v8, .inl x9] σ9 (PI (fun x15 σ15 => ((v9 = (-1) → GW l mX12_follows 94 [(0, .inr v0), (1, .inl v1), (2, .inl v2), (3, .inl v3), (4, .inl v4), (5, .inl v5), (6, .inl v6), (7, .inl v7), (8, .inl v8), (9, .inl ((σ9.2.1 (σ9.2.2 v0 43) (((4096 * v7) + 4096) + x9).toNatClampNeg) + x15)), (10, .inl (v10 + 1))] [] σ15 0 0 (PI K)) ∧ (¬ v9 = (-1) → ((v9 ≤ ((σ9.2.1 (σ9.2.2 v0 43) (((4096 * v7) + 4096) + x9).toNatClampNeg) + x15) → GW l mX12_follows 94 [(0, .inr v0), (1, .inl v1), (2, .inl v2), (3, .inl v3), (4, .inl v4), (5, .inl v5), (6, .inl v6), (7, .inl v7), (8, .inl v8), (9, .inl v9), (10, .inl (v10 + 1))] [] σ15 0 0 (PI K)) ∧ (¬ v9 ≤ ((σ9.2.1 (σ9.2.2 v0 43) (((4096 * v7) + 4096) + x9).toNatClampNeg) + x15) → GW l mX12_follows 94 [(0, .inr v0), (1, .inl v1), (2, .inl v2), (3, .inl v3), (4, .inl v4), (5, .inl v5), (6, .inl v6), (7, .inl v7), (8, .inl v8), (9, .inl ((σ9.2.1 (σ9.2.2 v0 43) (((4096 * v7) + 4096) + x9).toNatClampNeg) + x15)), (10, .inl (v10 + 1))] [] σ15 0 0 (PI K)))))))) ∧ ((σ9.2.1 (σ9.2.2 v0 43) (((4096 * v7) + 4096) + x9).toNatClampNeg) = (-1) → GW l mX12_follows 94 [(0, .inr v0), (1, .inl v1), (2, .inl v2), (3, .inl v3), (4, .inl v4), (5, .inl v5), (6, .inl v6), (7, .inl v7), (8, .inl v8), (9, .inl v9), (10, .inl (v10 + 1))] [] σ9 0 0 (PI K)))))))))))) : GW l mX12_follows 94 [(0, .inr v0), (1, .inl v1), (2, .inl v2), (3, .inl v3), (4, .inl v4), (5, .inl v5), (6, .inl v6), (7, .inl v7), (8, .inl v8), (9, .inl v9), (10, .inl v10)] [] σ 0 0 (PI K) := by
  refine gw_iload (q := 10) dX12_follows_94 rfl ?_
  refine gw_iload (q := 6) dX12_follows_96 rfl ?_
  refine gw_icmp_ge (tgt := 202) dX12_follows_98 (by decide) (fun c1 => ?_) (fun c1 => ?_)
  · replace h := h.1 c1
    refine gw_aload_n (q := 0) dX12_follows_202 rfl rfl ?_
    obtain ⟨g2, h⟩ := h
    refine gw_gR fX12_92 dX12_follows_203 g2 ?_
    refine gw_sipush (v := 4096) dX12_follows_206 sp_4096 ?_
    refine gw_iload (q := 7) dX12_follows_209 rfl ?_
    refine gw_imul dX12_follows_211 ?_
    refine gw_iload (q := 8) dX12_follows_212 rfl ?_
    refine gw_iadd dX12_follows_214 ?_
    refine gw_iload (q := 9) dX12_follows_215 rfl ?_
    obtain ⟨g3, h⟩ := h
    refine gw_sI dX12_follows_217 g3 (fun σ4 e4 => ?_)
    replace h := h σ4 e4
    refine gw_inc (lo' := [(0, .inr v0), (1, .inl v1), (2, .inl v2), (3, .inl v3), (4, .inl v4), (5, .inl v5), (6, .inl v6), (7, .inl v7), (8, .inl (v8 + 1)), (9, .inl v9), (10, .inl v10)]) (q := 8) (c := 1) dX12_follows_218 ic_1 rfl (by decide) rfl ?_
    refine gw_goto (tgt := 35) dX12_follows_221 (by decide) ?_
    refine gw_pick [0, 1, 2, 3, 4, 5, 6, 7, 8] rfl ?_
    exact h
  · replace h := h.2 c1
    refine gw_iload (q := 7) dX12_follows_101 rfl ?_
    refine gw_iload (q := 5) dX12_follows_103 rfl ?_
    refine gw_icmp_ge (tgt := 202) dX12_follows_105 (by decide) (fun c5 => ?_) (fun c5 => ?_)
    · replace h := h.1 c5
      refine gw_aload_n (q := 0) dX12_follows_202 rfl rfl ?_
      obtain ⟨g6, h⟩ := h
      refine gw_gR fX12_92 dX12_follows_203 g6 ?_
      refine gw_sipush (v := 4096) dX12_follows_206 sp_4096 ?_
      refine gw_iload (q := 7) dX12_follows_209 rfl ?_
      refine gw_imul dX12_follows_211 ?_
      refine gw_iload (q := 8) dX12_follows_212 rfl ?_
      refine gw_iadd dX12_follows_214 ?_
      refine gw_iload (q := 9) dX12_follows_215 rfl ?_
      obtain ⟨g7, h⟩ := h
      refine gw_sI dX12_follows_217 g7 (fun σ8 e8 => ?_)
      replace h := h σ8 e8
      refine gw_inc (lo' := [(0, .inr v0), (1, .inl v1), (2, .inl v2), (3, .inl v3), (4, .inl v4), (5, .inl v5), (6, .inl v6), (7, .inl v7), (8, .inl (v8 + 1)), (9, .inl v9), (10, .inl v10)]) (q := 8) (c := 1) dX12_follows_218 ic_1 rfl (by decide) rfl ?_
      refine gw_goto (tgt := 35) dX12_follows_221 (by decide) ?_
      refine gw_pick [0, 1, 2, 3, 4, 5, 6, 7, 8] rfl ?_
      exact h
    · replace h := h.2 c5
      refine gw_aload_n (q := 0) dX12_follows_108 rfl rfl ?_
      refine gw_iload_n (q := 2) dX12_follows_109 rfl rfl ?_
      refine gw_iload (q := 8) dX12_follows_110 rfl ?_
      refine gw_iload (q := 10) dX12_follows_112 rfl ?_
      obtain ⟨g10, h⟩ := h
      refine gw_vC (bs := [.inl v2, .inl v8, .inl v10]) (st := []) (vmX12_beside) lX12_317 dX12_follows_114 ⟨by decide, rfl, rfl, by decide, by decide⟩ (Nat.le_of_ble_eq_true rfl) rfl rfl g10 h (kI (fun x9 σ9 h n9 => ?_))
      refine gw_istore (lo' := [(0, .inr v0), (1, .inl v1), (2, .inl v2), (3, .inl v3), (4, .inl v4), (5, .inl v5), (6, .inl v6), (7, .inl v7), (8, .inl v8), (9, .inl v9), (10, .inl v10), (11, .inl x9)]) dX12_follows_117 (by decide) rfl ?_
      refine gw_iload (q := 11) dX12_follows_119 rfl ?_
      refine gw_iconst (v := (-1)) dX12_follows_121 ic_m1 ?_
      refine gw_icmp_eq (tgt := 196) dX12_follows_122 (by decide) (fun c11 => ?_) (fun c11 => ?_)
      · replace h := h.1 c11
        refine gw_inc (lo' := [(0, .inr v0), (1, .inl v1), (2, .inl v2), (3, .inl v3), (4, .inl v4), (5, .inl v5), (6, .inl v6), (7, .inl v7), (8, .inl v8), (9, .inl v9), (10, .inl (v10 + 1)), (11, .inl x9)]) (q := 10) (c := 1) dX12_follows_196 ic_1 rfl (by decide) rfl ?_
        refine gw_goto (tgt := 94) dX12_follows_199 (by decide) ?_
        refine gw_pick [0, 1, 2, 3, 4, 5, 6, 7, 8, 9, 10] rfl ?_
        exact h
      · replace h := h.2 c11
        refine gw_aload_n (q := 0) dX12_follows_125 rfl rfl ?_
        refine gw_gR fX12_92 dX12_follows_126 (g10.up n9) ?_
        refine gw_sipush (v := 4096) dX12_follows_129 sp_4096 ?_
        refine gw_iload (q := 7) dX12_follows_132 rfl ?_
        refine gw_imul dX12_follows_134 ?_
        refine gw_sipush (v := 4096) dX12_follows_135 sp_4096 ?_
        refine gw_iadd dX12_follows_138 ?_
        refine gw_iload (q := 11) dX12_follows_139 rfl ?_
        refine gw_iadd dX12_follows_141 ?_
        obtain ⟨g12, h⟩ := h
        refine gw_aI dX12_follows_142 g12 ?_
        refine gw_iconst (v := (-1)) dX12_follows_143 ic_m1 ?_
        refine gw_icmp_ne (tgt := 150) dX12_follows_144 (by decide) (fun c13 => ?_) (fun c13 => ?_)
        · replace h := h.1 c13
          refine gw_aload_n (q := 0) dX12_follows_150 rfl rfl ?_
          refine gw_gR fX12_92 dX12_follows_151 (g10.up n9) ?_
          refine gw_sipush (v := 4096) dX12_follows_154 sp_4096 ?_
          refine gw_iload (q := 7) dX12_follows_157 rfl ?_
          refine gw_imul dX12_follows_159 ?_
          refine gw_sipush (v := 4096) dX12_follows_160 sp_4096 ?_
          refine gw_iadd dX12_follows_163 ?_
          refine gw_iload (q := 11) dX12_follows_164 rfl ?_
          refine gw_iadd dX12_follows_166 ?_
          refine gw_aI dX12_follows_167 g12 ?_
          refine gw_aload_n (q := 0) dX12_follows_168 rfl rfl ?_
          refine gw_iload (q := 8) dX12_follows_169 rfl ?_
          refine gw_iload (q := 11) dX12_follows_171 rfl ?_
          refine gw_vC (bs := [.inl v8, .inl x9]) (st := [.inl (σ9.2.1 (σ9.2.2 v0 43) (((4096 * v7) + 4096) + x9).toNatClampNeg)]) (vmX12_wayBetween) lX12_320 dX12_follows_173 ⟨by decide, rfl, rfl, by decide, by decide⟩ (Nat.le_of_ble_eq_true rfl) rfl rfl (g10.up n9) h (kI (fun x15 σ15 h n15 => ?_))
          refine gw_iadd dX12_follows_176 ?_
          refine gw_istore (lo' := [(0, .inr v0), (1, .inl v1), (2, .inl v2), (3, .inl v3), (4, .inl v4), (5, .inl v5), (6, .inl v6), (7, .inl v7), (8, .inl v8), (9, .inl v9), (10, .inl v10), (11, .inl x9), (12, .inl ((σ9.2.1 (σ9.2.2 v0 43) (((4096 * v7) + 4096) + x9).toNatClampNeg) + x15))]) dX12_follows_177 (by decide) rfl ?_
          refine gw_iload (q := 9) dX12_follows_179 rfl ?_
          refine gw_iconst (v := (-1)) dX12_follows_181 ic_m1 ?_
          refine gw_icmp_eq (tgt := 192) dX12_follows_182 (by decide) (fun c16 => ?_) (fun c16 => ?_)
          · replace h := h.1 c16
            refine gw_iload (q := 12) dX12_follows_192 rfl ?_
            refine gw_istore (lo' := [(0, .inr v0), (1, .inl v1), (2, .inl v2), (3, .inl v3), (4, .inl v4), (5, .inl v5), (6, .inl v6), (7, .inl v7), (8, .inl v8), (9, .inl ((σ9.2.1 (σ9.2.2 v0 43) (((4096 * v7) + 4096) + x9).toNatClampNeg) + x15)), (10, .inl v10), (11, .inl x9), (12, .inl ((σ9.2.1 (σ9.2.2 v0 43) (((4096 * v7) + 4096) + x9).toNatClampNeg) + x15))]) dX12_follows_194 (by decide) rfl ?_
            refine gw_inc (lo' := [(0, .inr v0), (1, .inl v1), (2, .inl v2), (3, .inl v3), (4, .inl v4), (5, .inl v5), (6, .inl v6), (7, .inl v7), (8, .inl v8), (9, .inl ((σ9.2.1 (σ9.2.2 v0 43) (((4096 * v7) + 4096) + x9).toNatClampNeg) + x15)), (10, .inl (v10 + 1)), (11, .inl x9), (12, .inl ((σ9.2.1 (σ9.2.2 v0 43) (((4096 * v7) + 4096) + x9).toNatClampNeg) + x15))]) (q := 10) (c := 1) dX12_follows_196 ic_1 rfl (by decide) rfl ?_
            refine gw_goto (tgt := 94) dX12_follows_199 (by decide) ?_
            refine gw_pick [0, 1, 2, 3, 4, 5, 6, 7, 8, 9, 10] rfl ?_
            exact h
          · replace h := h.2 c16
            refine gw_iload (q := 12) dX12_follows_185 rfl ?_
            refine gw_iload (q := 9) dX12_follows_187 rfl ?_
            refine gw_icmp_ge (tgt := 196) dX12_follows_189 (by decide) (fun c17 => ?_) (fun c17 => ?_)
            · replace h := h.1 c17
              refine gw_inc (lo' := [(0, .inr v0), (1, .inl v1), (2, .inl v2), (3, .inl v3), (4, .inl v4), (5, .inl v5), (6, .inl v6), (7, .inl v7), (8, .inl v8), (9, .inl v9), (10, .inl (v10 + 1)), (11, .inl x9), (12, .inl ((σ9.2.1 (σ9.2.2 v0 43) (((4096 * v7) + 4096) + x9).toNatClampNeg) + x15))]) (q := 10) (c := 1) dX12_follows_196 ic_1 rfl (by decide) rfl ?_
              refine gw_goto (tgt := 94) dX12_follows_199 (by decide) ?_
              refine gw_pick [0, 1, 2, 3, 4, 5, 6, 7, 8, 9, 10] rfl ?_
              exact h
            · replace h := h.2 c17
              refine gw_iload (q := 12) dX12_follows_192 rfl ?_
              refine gw_istore (lo' := [(0, .inr v0), (1, .inl v1), (2, .inl v2), (3, .inl v3), (4, .inl v4), (5, .inl v5), (6, .inl v6), (7, .inl v7), (8, .inl v8), (9, .inl ((σ9.2.1 (σ9.2.2 v0 43) (((4096 * v7) + 4096) + x9).toNatClampNeg) + x15)), (10, .inl v10), (11, .inl x9), (12, .inl ((σ9.2.1 (σ9.2.2 v0 43) (((4096 * v7) + 4096) + x9).toNatClampNeg) + x15))]) dX12_follows_194 (by decide) rfl ?_
              refine gw_inc (lo' := [(0, .inr v0), (1, .inl v1), (2, .inl v2), (3, .inl v3), (4, .inl v4), (5, .inl v5), (6, .inl v6), (7, .inl v7), (8, .inl v8), (9, .inl ((σ9.2.1 (σ9.2.2 v0 43) (((4096 * v7) + 4096) + x9).toNatClampNeg) + x15)), (10, .inl (v10 + 1)), (11, .inl x9), (12, .inl ((σ9.2.1 (σ9.2.2 v0 43) (((4096 * v7) + 4096) + x9).toNatClampNeg) + x15))]) (q := 10) (c := 1) dX12_follows_196 ic_1 rfl (by decide) rfl ?_
              refine gw_goto (tgt := 94) dX12_follows_199 (by decide) ?_
              refine gw_pick [0, 1, 2, 3, 4, 5, 6, 7, 8, 9, 10] rfl ?_
              exact h
        · replace h := h.2 c13
          refine gw_goto (tgt := 196) dX12_follows_147 (by decide) ?_
          refine gw_inc (lo' := [(0, .inr v0), (1, .inl v1), (2, .inl v2), (3, .inl v3), (4, .inl v4), (5, .inl v5), (6, .inl v6), (7, .inl v7), (8, .inl v8), (9, .inl v9), (10, .inl (v10 + 1)), (11, .inl x9)]) (q := 10) (c := 1) dX12_follows_196 ic_1 rfl (by decide) rfl ?_
          refine gw_goto (tgt := 94) dX12_follows_199 (by decide) ?_
          refine gw_pick [0, 1, 2, 3, 4, 5, 6, 7, 8, 9, 10] rfl ?_
          exact h
set_option maxHeartbeats 4000000 in
set_option maxRecDepth 20000 in
theorem gX12_follows_35 {l : Launch} {v0 : Nat} {v1 : Int32} {v2 : Int32} {v3 : Int32} {v4 : Int32} {v5 : Int32} {v6 : Int32} {v7 : Int32} {v8 : Int32} {σ : Sg} {K : Int32 → Sg → Prop} (h : ((4096 ≤ v8 → GW l mX12_follows 27 [(0, .inr v0), (1, .inl v1), (2, .inl v2), (3, .inl v3), (4, .inl v4), (5, .inl v5), (6, .inl v6), (7, .inl (v7 + (-1)))] [] σ 0 0 (PI K)) ∧ (¬ 4096 ≤ v8 → Ob σ v0 12 ∧ Ai σ (σ.2.2 v0 43) ((4096 * v7) + v8) ∧ ∀ σ4, σ4 = w1 σ (σ.2.2 v0 43) ((4096 * v7) + v8).toNatClampNeg (-1) → Con l mX12_isThere [.inr v0, .inl v1, .inl v2, .inl v7, .inl v3, .inl v4, .inl v8] σ4 (PI (fun x5 σ5 => ((¬ x5 = 0 → ((¬ v7 = v5 → GW l mX12_follows 94 [(0, .inr v0), (1, .inl v1), (2, .inl v2), (3, .inl v3), (4, .inl v4), (5, .inl v5), (6, .inl v6), (7, .inl v7), (8, .inl v8), (9, .inl (-1)), (10, .inl 0)] [] σ5 0 0 (PI K)) ∧ (v7 = v5 → GW l mX12_follows 94 [(0, .inr v0), (1, .inl v1), (2, .inl v2), (3, .inl v3), (4, .inl v4), (5, .inl v5), (6, .inl v6), (7, .inl v7), (8, .inl v8), (9, .inl 0), (10, .inl 0)] [] σ5 0 0 (PI K)))) ∧ (x5 = 0 → GW l mX12_follows 35 [(0, .inr v0), (1, .inl v1), (2, .inl v2), (3, .inl v3), (4, .inl v4), (5, .inl v5), (6, .inl v6), (7, .inl v7), (8, .inl (v8 + 1))] [] σ5 0 0 (PI K)))))))) : GW l mX12_follows 35 [(0, .inr v0), (1, .inl v1), (2, .inl v2), (3, .inl v3), (4, .inl v4), (5, .inl v5), (6, .inl v6), (7, .inl v7), (8, .inl v8)] [] σ 0 0 (PI K) := by
  refine gw_iload (q := 8) dX12_follows_35 rfl ?_
  refine gw_sipush (v := 4096) dX12_follows_37 sp_4096 ?_
  refine gw_icmp_ge (tgt := 224) dX12_follows_40 (by decide) (fun c1 => ?_) (fun c1 => ?_)
  · replace h := h.1 c1
    refine gw_inc (lo' := [(0, .inr v0), (1, .inl v1), (2, .inl v2), (3, .inl v3), (4, .inl v4), (5, .inl v5), (6, .inl v6), (7, .inl (v7 + (-1))), (8, .inl v8)]) (q := 7) (c := (-1)) dX12_follows_224 ic_m1 rfl (by decide) rfl ?_
    refine gw_goto (tgt := 27) dX12_follows_227 (by decide) ?_
    refine gw_pick [0, 1, 2, 3, 4, 5, 6, 7] rfl ?_
    exact h
  · replace h := h.2 c1
    refine gw_aload_n (q := 0) dX12_follows_43 rfl rfl ?_
    obtain ⟨g2, h⟩ := h
    refine gw_gR fX12_92 dX12_follows_44 g2 ?_
    refine gw_sipush (v := 4096) dX12_follows_47 sp_4096 ?_
    refine gw_iload (q := 7) dX12_follows_50 rfl ?_
    refine gw_imul dX12_follows_52 ?_
    refine gw_iload (q := 8) dX12_follows_53 rfl ?_
    refine gw_iadd dX12_follows_55 ?_
    refine gw_iconst (v := (-1)) dX12_follows_56 ic_m1 ?_
    obtain ⟨g3, h⟩ := h
    refine gw_sI dX12_follows_57 g3 (fun σ4 e4 => ?_)
    replace h := h σ4 e4
    refine gw_aload_n (q := 0) dX12_follows_58 rfl rfl ?_
    refine gw_iload_n (q := 1) dX12_follows_59 rfl rfl ?_
    refine gw_iload_n (q := 2) dX12_follows_60 rfl rfl ?_
    refine gw_iload (q := 7) dX12_follows_61 rfl ?_
    refine gw_iload_n (q := 3) dX12_follows_63 rfl rfl ?_
    refine gw_iload (q := 4) dX12_follows_64 rfl ?_
    refine gw_iload (q := 8) dX12_follows_66 rfl ?_
    refine gw_vC (bs := [.inl v1, .inl v2, .inl v7, .inl v3, .inl v4, .inl v8]) (st := []) (vmX12_isThere) lX12_313 dX12_follows_68 ⟨by decide, rfl, rfl, by decide, by decide⟩ (Nat.le_of_ble_eq_true rfl) rfl rfl (g2.up (n_w1 e4)) h (kI (fun x5 σ5 h n5 => ?_))
    refine gw_if_ne (tgt := 77) dX12_follows_71 (by decide) (fun c6 => ?_) (fun c6 => ?_)
    · replace h := h.1 c6
      refine gw_iload (q := 7) dX12_follows_77 rfl ?_
      refine gw_iload (q := 5) dX12_follows_79 rfl ?_
      refine gw_icmp_ne (tgt := 88) dX12_follows_81 (by decide) (fun c7 => ?_) (fun c7 => ?_)
      · replace h := h.1 c7
        refine gw_iconst (v := (-1)) dX12_follows_88 ic_m1 ?_
        refine gw_istore (lo' := [(0, .inr v0), (1, .inl v1), (2, .inl v2), (3, .inl v3), (4, .inl v4), (5, .inl v5), (6, .inl v6), (7, .inl v7), (8, .inl v8), (9, .inl (-1))]) dX12_follows_89 (by decide) rfl ?_
        refine gw_iconst (v := 0) dX12_follows_91 ic_0 ?_
        refine gw_istore (lo' := [(0, .inr v0), (1, .inl v1), (2, .inl v2), (3, .inl v3), (4, .inl v4), (5, .inl v5), (6, .inl v6), (7, .inl v7), (8, .inl v8), (9, .inl (-1)), (10, .inl 0)]) dX12_follows_92 (by decide) rfl ?_
        exact h
      · replace h := h.2 c7
        refine gw_iconst (v := 0) dX12_follows_84 ic_0 ?_
        refine gw_goto (tgt := 89) dX12_follows_85 (by decide) ?_
        refine gw_istore (lo' := [(0, .inr v0), (1, .inl v1), (2, .inl v2), (3, .inl v3), (4, .inl v4), (5, .inl v5), (6, .inl v6), (7, .inl v7), (8, .inl v8), (9, .inl 0)]) dX12_follows_89 (by decide) rfl ?_
        refine gw_iconst (v := 0) dX12_follows_91 ic_0 ?_
        refine gw_istore (lo' := [(0, .inr v0), (1, .inl v1), (2, .inl v2), (3, .inl v3), (4, .inl v4), (5, .inl v5), (6, .inl v6), (7, .inl v7), (8, .inl v8), (9, .inl 0), (10, .inl 0)]) dX12_follows_92 (by decide) rfl ?_
        exact h
    · replace h := h.2 c6
      refine gw_goto (tgt := 218) dX12_follows_74 (by decide) ?_
      refine gw_inc (lo' := [(0, .inr v0), (1, .inl v1), (2, .inl v2), (3, .inl v3), (4, .inl v4), (5, .inl v5), (6, .inl v6), (7, .inl v7), (8, .inl (v8 + 1))]) (q := 8) (c := 1) dX12_follows_218 ic_1 rfl (by decide) rfl ?_
      refine gw_goto (tgt := 35) dX12_follows_221 (by decide) ?_
      exact h
set_option maxHeartbeats 4000000 in
set_option maxRecDepth 20000 in
theorem gX12_follows_27 {l : Launch} {v0 : Nat} {v1 : Int32} {v2 : Int32} {v3 : Int32} {v4 : Int32} {v5 : Int32} {v6 : Int32} {v7 : Int32} {σ : Sg} {K : Int32 → Sg → Prop} (h : ((v7 < 0 → GW l mX12_follows 236 [(0, .inr v0), (1, .inl v1), (2, .inl v2), (3, .inl v3), (4, .inl v4), (5, .inl v5), (6, .inl v6), (7, .inl (-1)), (8, .inl 0)] [] σ 0 0 (PI K)) ∧ (¬ v7 < 0 → GW l mX12_follows 35 [(0, .inr v0), (1, .inl v1), (2, .inl v2), (3, .inl v3), (4, .inl v4), (5, .inl v5), (6, .inl v6), (7, .inl v7), (8, .inl 0)] [] σ 0 0 (PI K)))) : GW l mX12_follows 27 [(0, .inr v0), (1, .inl v1), (2, .inl v2), (3, .inl v3), (4, .inl v4), (5, .inl v5), (6, .inl v6), (7, .inl v7)] [] σ 0 0 (PI K) := by
  refine gw_iload (q := 7) dX12_follows_27 rfl ?_
  refine gw_if_lt (tgt := 230) dX12_follows_29 (by decide) (fun c1 => ?_) (fun c1 => ?_)
  · replace h := h.1 c1
    refine gw_iconst (v := (-1)) dX12_follows_230 ic_m1 ?_
    refine gw_istore (lo' := [(0, .inr v0), (1, .inl v1), (2, .inl v2), (3, .inl v3), (4, .inl v4), (5, .inl v5), (6, .inl v6), (7, .inl (-1))]) dX12_follows_231 (by decide) rfl ?_
    refine gw_iconst (v := 0) dX12_follows_233 ic_0 ?_
    refine gw_istore (lo' := [(0, .inr v0), (1, .inl v1), (2, .inl v2), (3, .inl v3), (4, .inl v4), (5, .inl v5), (6, .inl v6), (7, .inl (-1)), (8, .inl 0)]) dX12_follows_234 (by decide) rfl ?_
    exact h
  · replace h := h.2 c1
    refine gw_iconst (v := 0) dX12_follows_32 ic_0 ?_
    refine gw_istore (lo' := [(0, .inr v0), (1, .inl v1), (2, .inl v2), (3, .inl v3), (4, .inl v4), (5, .inl v5), (6, .inl v6), (7, .inl v7), (8, .inl 0)]) dX12_follows_33 (by decide) rfl ?_
    exact h
set_option maxHeartbeats 4000000 in
set_option maxRecDepth 20000 in
theorem eX12_follows {l : Launch} {v0 : Nat} {v1 : Int32} {v2 : Int32} {v3 : Int32} {v4 : Int32} {σ : Sg} {K : Int32 → Sg → Prop} (h : Ob σ v0 12 ∧ Ai σ (σ.2.2 v0 18) v1 ∧ Ai σ (σ.2.2 v0 7) v2 ∧ Con l mX12_besides [.inr v0, .inl v2, .inl (σ.2.1 (σ.2.2 v0 7) v2.toNatClampNeg)] σ (PI (fun x4 σ4 => GW l mX12_follows 27 [(0, .inr v0), (1, .inl v1), (2, .inl v2), (3, .inl v3), (4, .inl v4), (5, .inl ((σ.2.1 (σ.2.2 v0 18) v1.toNatClampNeg) - 1)), (6, .inl x4), (7, .inl ((σ.2.1 (σ.2.2 v0 18) v1.toNatClampNeg) - 1))] [] σ4 0 0 (PI K)))) : Con l mX12_follows [.inr v0, .inl v1, .inl v2, .inl v3, .inl v4] σ (PI K) := by
  refine con_gw rfl (Nat.le_of_ble_eq_true rfl) ?_
  show GW l mX12_follows 0 [(0, .inr v0), (1, .inl v1), (2, .inl v2), (3, .inl v3), (4, .inl v4)] [] σ 0 0 (PI K)
  refine gw_aload_n (q := 0) dX12_follows_0 rfl rfl ?_
  obtain ⟨g1, h⟩ := h
  refine gw_gR fX12_54 dX12_follows_1 g1 ?_
  refine gw_iload_n (q := 1) dX12_follows_4 rfl rfl ?_
  obtain ⟨g2, h⟩ := h
  refine gw_aI dX12_follows_5 g2 ?_
  refine gw_iconst (v := 1) dX12_follows_6 ic_1 ?_
  refine gw_isub dX12_follows_7 ?_
  refine gw_istore (lo' := [(0, .inr v0), (1, .inl v1), (2, .inl v2), (3, .inl v3), (4, .inl v4), (5, .inl ((σ.2.1 (σ.2.2 v0 18) v1.toNatClampNeg) - 1))]) dX12_follows_8 (by decide) rfl ?_
  refine gw_aload_n (q := 0) dX12_follows_10 rfl rfl ?_
  refine gw_iload_n (q := 2) dX12_follows_11 rfl rfl ?_
  refine gw_aload_n (q := 0) dX12_follows_12 rfl rfl ?_
  refine gw_gR fX12_24 dX12_follows_13 g1 ?_
  refine gw_iload_n (q := 2) dX12_follows_16 rfl rfl ?_
  obtain ⟨g3, h⟩ := h
  refine gw_aI dX12_follows_17 g3 ?_
  refine gw_vC (bs := [.inl v2, .inl (σ.2.1 (σ.2.2 v0 7) v2.toNatClampNeg)]) (st := []) (vmX12_besides) lX12_310 dX12_follows_18 ⟨by decide, rfl, rfl, by decide, by decide⟩ (Nat.le_of_ble_eq_true rfl) rfl rfl g1 h (kI (fun x4 σ4 h n4 => ?_))
  refine gw_istore (lo' := [(0, .inr v0), (1, .inl v1), (2, .inl v2), (3, .inl v3), (4, .inl v4), (5, .inl ((σ.2.1 (σ.2.2 v0 18) v1.toNatClampNeg) - 1)), (6, .inl x4)]) dX12_follows_21 (by decide) rfl ?_
  refine gw_iload (q := 5) dX12_follows_23 rfl ?_
  refine gw_istore (lo' := [(0, .inr v0), (1, .inl v1), (2, .inl v2), (3, .inl v3), (4, .inl v4), (5, .inl ((σ.2.1 (σ.2.2 v0 18) v1.toNatClampNeg) - 1)), (6, .inl x4), (7, .inl ((σ.2.1 (σ.2.2 v0 18) v1.toNatClampNeg) - 1))]) dX12_follows_25 (by decide) rfl ?_
  exact h
