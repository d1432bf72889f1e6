set_option maxHeartbeats 4000000 in
set_option maxRecDepth 20000 in
theorem gX12_timeOf_83 {l : Launch} {d : Nat} {v0 : Nat} {v1 : Int32} {v2 : Int32} {v3 : Int32} {v4 : Int32} {v5 : Int32} {v6 : Int32} {t0 : Int32} {σ : Sg} {K : Int32 → Sg → Prop} (h : Ob σ v0 12 ∧ Ai σ (σ.2.2 v0 18) v6 ∧ Con l (mX12_timeOf d) [.inr v0, .inl v1, .inl (v2 &&& ((1 <<< (v6 &&& 31)) ^^^ (-1))), .inl v6] σ (PI (fun x3 σ3 => ((v4 = (-1) → GW l (mX12_timeOf (d + 1)) 12 [(0, .inr v0), (1, .inl v1), (2, .inl v2), (3, .inl v3), (4, .inl ((t0 + (σ.2.1 (σ.2.2 v0 18) v6.toNatClampNeg)) + x3)), (5, .inl (v5 + 1))] [] σ3 0 0 (PI K)) ∧ (¬ v4 = (-1) → ((v4 ≤ ((t0 + (σ.2.1 (σ.2.2 v0 18) v6.toNatClampNeg)) + x3) → GW l (mX12_timeOf (d + 1)) 12 [(0, .inr v0), (1, .inl v1), (2, .inl v2), (3, .inl v3), (4, .inl v4), (5, .inl (v5 + 1))] [] σ3 0 0 (PI K)) ∧ (¬ v4 ≤ ((t0 + (σ.2.1 (σ.2.2 v0 18) v6.toNatClampNeg)) + x3) → GW l (mX12_timeOf (d + 1)) 12 [(0, .inr v0), (1, .inl v1), (2, .inl v2), (3, .inl v3), (4, .inl ((t0 + (σ.2.1 (σ.2.2 v0 18) v6.toNatClampNeg)) + x3)), (5, .inl (v5 + 1))] [] σ3 0 0 (PI K)))))))) : GW l (mX12_timeOf (d + 1)) 83 [(0, .inr v0), (1, .inl v1), (2, .inl v2), (3, .inl v3), (4, .inl v4), (5, .inl v5), (6, .inl v6)] [.inl t0] σ 0 0 (PI K) := by
  refine gw_istore (lo' := [(0, .inr v0), (1, .inl v1), (2, .inl v2), (3, .inl v3), (4, .inl v4), (5, .inl v5), (6, .inl v6), (7, .inl t0)]) dX12_timeOf_83 (Nat.le_of_ble_eq_true rfl) rfl ?_
  refine gw_iload (q := 7) dX12_timeOf_85 rfl ?_
  refine gw_aload_n (q := 0) dX12_timeOf_87 rfl rfl ?_
  obtain ⟨g1, h⟩ := h
  refine gw_gR fX12_54 dX12_timeOf_88 g1 ?_
  refine gw_iload (q := 6) dX12_timeOf_91 rfl ?_
  obtain ⟨g2, h⟩ := h
  refine gw_aI dX12_timeOf_93 g2 ?_
  refine gw_iadd dX12_timeOf_94 ?_
  refine gw_aload_n (q := 0) dX12_timeOf_95 rfl rfl ?_
  refine gw_iload_n (q := 1) dX12_timeOf_96 rfl rfl ?_
  refine gw_iload_n (q := 2) dX12_timeOf_97 rfl rfl ?_
  refine gw_iconst (v := 1) dX12_timeOf_98 ic_1 ?_
  refine gw_iload (q := 6) dX12_timeOf_99 rfl ?_
  refine gw_ishl dX12_timeOf_101 ?_
  refine gw_iconst (v := (-1)) dX12_timeOf_102 ic_m1 ?_
  refine gw_ixor dX12_timeOf_103 ?_
  refine gw_iand dX12_timeOf_104 ?_
  refine gw_iload (q := 6) dX12_timeOf_105 rfl ?_
  refine gw_vC (bs := [.inl v1, .inl (v2 &&& ((1 <<< (v6 &&& 31)) ^^^ (-1))), .inl v6]) (st := [.inl (t0 + (σ.2.1 (σ.2.2 v0 18) v6.toNatClampNeg))]) (vmX12_timeOf d) lX12_358 dX12_timeOf_107 ⟨Nat.le_refl _, rfl, rfl, Nat.le_of_ble_eq_true rfl, Nat.le_of_ble_eq_true rfl⟩ (Nat.le_of_ble_eq_true rfl) rfl rfl g1 h (kI (fun x3 σ3 h n3 => ?_))
  refine gw_iadd dX12_timeOf_110 ?_
  refine gw_istore (lo' := [(0, .inr v0), (1, .inl v1), (2, .inl v2), (3, .inl v3), (4, .inl v4), (5, .inl v5), (6, .inl v6), (7, .inl t0), (8, .inl ((t0 + (σ.2.1 (σ.2.2 v0 18) v6.toNatClampNeg)) + x3))]) dX12_timeOf_111 (Nat.le_of_ble_eq_true rfl) rfl ?_
  refine gw_iload (q := 4) dX12_timeOf_113 rfl ?_
  refine gw_iconst (v := (-1)) dX12_timeOf_115 ic_m1 ?_
  refine gw_icmp_eq (tgt := 126) dX12_timeOf_116 (by decide) (fun c4 => ?_) (fun c4 => ?_)
  · replace h := h.1 c4
    refine gw_iload (q := 8) dX12_timeOf_126 rfl ?_
    refine gw_istore (lo' := [(0, .inr v0), (1, .inl v1), (2, .inl v2), (3, .inl v3), (4, .inl ((t0 + (σ.2.1 (σ.2.2 v0 18) v6.toNatClampNeg)) + x3)), (5, .inl v5), (6, .inl v6), (7, .inl t0), (8, .inl ((t0 + (σ.2.1 (σ.2.2 v0 18) v6.toNatClampNeg)) + x3))]) dX12_timeOf_128 (Nat.le_of_ble_eq_true rfl) rfl ?_
    refine gw_inc (lo' := [(0, .inr v0), (1, .inl v1), (2, .inl v2), (3, .inl v3), (4, .inl ((t0 + (σ.2.1 (σ.2.2 v0 18) v6.toNatClampNeg)) + x3)), (5, .inl (v5 + 1)), (6, .inl v6), (7, .inl t0), (8, .inl ((t0 + (σ.2.1 (σ.2.2 v0 18) v6.toNatClampNeg)) + x3))]) (q := 5) (c := 1) dX12_timeOf_130 ic_1 rfl (Nat.le_of_ble_eq_true rfl) rfl ?_
    refine gw_goto (tgt := 12) dX12_timeOf_133 (by decide) ?_
    refine gw_pick [0, 1, 2, 3, 4, 5] rfl ?_
    exact h
  · replace h := h.2 c4
    refine gw_iload (q := 8) dX12_timeOf_119 rfl ?_
    refine gw_iload (q := 4) dX12_timeOf_121 rfl ?_
    refine gw_icmp_ge (tgt := 130) dX12_timeOf_123 (by decide) (fun c5 => ?_) (fun c5 => ?_)
    · replace h := h.1 c5
      refine gw_inc (lo' := [(0, .inr v0), (1, .inl v1), (2, .inl v2), (3, .inl v3), (4, .inl v4), (5, .inl (v5 + 1)), (6, .inl v6), (7, .inl t0), (8, .inl ((t0 + (σ.2.1 (σ.2.2 v0 18) v6.toNatClampNeg)) + x3))]) (q := 5) (c := 1) dX12_timeOf_130 ic_1 rfl (Nat.le_of_ble_eq_true rfl) rfl ?_
      refine gw_goto (tgt := 12) dX12_timeOf_133 (by decide) ?_
      refine gw_pick [0, 1, 2, 3, 4, 5] rfl ?_
      exact h
    · replace h := h.2 c5
      refine gw_iload (q := 8) dX12_timeOf_126 rfl ?_
      refine gw_istore (lo' := [(0, .inr v0), (1, .inl v1), (2, .inl v2), (3, .inl v3), (4, .inl ((t0 + (σ.2.1 (σ.2.2 v0 18) v6.toNatClampNeg)) + x3)), (5, .inl v5), (6, .inl v6), (7, .inl t0), (8, .inl ((t0 + (σ.2.1 (σ.2.2 v0 18) v6.toNatClampNeg)) + x3))]) dX12_timeOf_128 (Nat.le_of_ble_eq_true rfl) rfl ?_
      refine gw_inc (lo' := [(0, .inr v0), (1, .inl v1), (2, .inl v2), (3, .inl v3), (4, .inl ((t0 + (σ.2.1 (σ.2.2 v0 18) v6.toNatClampNeg)) + x3)), (5, .inl (v5 + 1)), (6, .inl v6), (7, .inl t0), (8, .inl ((t0 + (σ.2.1 (σ.2.2 v0 18) v6.toNatClampNeg)) + x3))]) (q := 5) (c := 1) dX12_timeOf_130 ic_1 rfl (Nat.le_of_ble_eq_true rfl) rfl ?_
      refine gw_goto (tgt := 12) dX12_timeOf_133 (by decide) ?_
      refine gw_pick [0, 1, 2, 3, 4, 5] rfl ?_
      exact h
set_option maxHeartbeats 4000000 in
set_option maxRecDepth 20000 in
theorem gX12_timeOf_12 {l : Launch} {d : Nat} {v0 : Nat} {v1 : Int32} {v2 : Int32} {v3 : Int32} {v4 : Int32} {v5 : Int32} {σ : Sg} {K : Int32 → Sg → Prop} (h : Ob σ v0 12 ∧ (((σ.2.1 v0 54) ≤ v5 → K v4 σ) ∧ (¬ (σ.2.1 v0 54) ≤ v5 → Ai σ (σ.2.2 v0 53) v5 ∧ ((¬ ((v2 >>> ((σ.2.1 (σ.2.2 v0 53) v5.toNatClampNeg) &&& 31)) &&& 1) = 0 → ((¬ v3 = (-1) → Ai σ (σ.2.2 v0 52) ((2 * v3) + v1) ∧ Ai σ (σ.2.2 v0 51) ((2 * (σ.2.1 (σ.2.2 v0 53) v5.toNatClampNeg)) + v1) ∧ Con l mX12_hopOf [.inr v0, .inl v1, .inl (σ.2.1 (σ.2.2 v0 52) ((2 * v3) + v1).toNatClampNeg), .inl (σ.2.1 (σ.2.2 v0 51) ((2 * (σ.2.1 (σ.2.2 v0 53) v5.toNatClampNeg)) + v1).toNatClampNeg)] σ (PI (fun x8 σ8 => Con l mJ9_max_7cf53 [.inl 0, .inl (x8 - 1)] σ8 (PI (fun x9 σ9 => GW l (mX12_timeOf (d + 1)) 83 [(0, .inr v0), (1, .inl v1), (2, .inl v2), (3, .inl v3), (4, .inl v4), (5, .inl v5), (6, .inl (σ.2.1 (σ.2.2 v0 53) v5.toNatClampNeg))] [.inl x9] σ9 0 0 (PI K)))))) ∧ (v3 = (-1) → GW l (mX12_timeOf (d + 1)) 83 [(0, .inr v0), (1, .inl v1), (2, .inl v2), (3, .inl v3), (4, .inl v4), (5, .inl v5), (6, .inl (σ.2.1 (σ.2.2 v0 53) v5.toNatClampNeg))] [.inl 0] σ 0 0 (PI K)))) ∧ (((v2 >>> ((σ.2.1 (σ.2.2 v0 53) v5.toNatClampNeg) &&& 31)) &&& 1) = 0 → GW l (mX12_timeOf (d + 1)) 12 [(0, .inr v0), (1, .inl v1), (2, .inl v2), (3, .inl v3), (4, .inl v4), (5, .inl (v5 + 1))] [] σ 0 0 (PI K)))))) : GW l (mX12_timeOf (d + 1)) 12 [(0, .inr v0), (1, .inl v1), (2, .inl v2), (3, .inl v3), (4, .inl v4), (5, .inl v5)] [] σ 0 0 (PI K) := by
  refine gw_iload (q := 5) dX12_timeOf_12 rfl ?_
  refine gw_aload_n (q := 0) dX12_timeOf_14 rfl rfl ?_
  obtain ⟨g1, h⟩ := h
  refine gw_gI fX12_355 dX12_timeOf_15 g1 ?_
  refine gw_icmp_ge (tgt := 136) dX12_timeOf_18 (by decide) (fun c2 => ?_) (fun c2 => ?_)
  · replace h := h.1 c2
    refine gw_iload (q := 4) dX12_timeOf_136 rfl ?_
    exact gw_rI dX12_timeOf_138 rfl (Nat.le_of_ble_eq_true rfl) (Nat.le_of_ble_eq_true rfl) h
  · replace h := h.2 c2
    refine gw_aload_n (q := 0) dX12_timeOf_21 rfl rfl ?_
    refine gw_gR fX12_120 dX12_timeOf_22 g1 ?_
    refine gw_iload (q := 5) dX12_timeOf_25 rfl ?_
    obtain ⟨g3, h⟩ := h
    refine gw_aI dX12_timeOf_27 g3 ?_
    refine gw_istore (lo' := [(0, .inr v0), (1, .inl v1), (2, .inl v2), (3, .inl v3), (4, .inl v4), (5, .inl v5), (6, .inl (σ.2.1 (σ.2.2 v0 53) v5.toNatClampNeg))]) dX12_timeOf_28 (Nat.le_of_ble_eq_true rfl) rfl ?_
    refine gw_iload_n (q := 2) dX12_timeOf_30 rfl rfl ?_
    refine gw_iload (q := 6) dX12_timeOf_31 rfl ?_
    refine gw_ishr dX12_timeOf_33 ?_
    refine gw_iconst (v := 1) dX12_timeOf_34 ic_1 ?_
    refine gw_iand dX12_timeOf_35 ?_
    refine gw_if_ne (tgt := 42) dX12_timeOf_36 (by decide) (fun c4 => ?_) (fun c4 => ?_)
    · replace h := h.1 c4
      refine gw_iload_n (q := 3) dX12_timeOf_42 rfl rfl ?_
      refine gw_iconst (v := (-1)) dX12_timeOf_43 ic_m1 ?_
      refine gw_icmp_ne (tgt := 51) dX12_timeOf_44 (by decide) (fun c5 => ?_) (fun c5 => ?_)
      · replace h := h.1 c5
        refine gw_iconst (v := 0) dX12_timeOf_51 ic_0 ?_
        refine gw_aload_n (q := 0) dX12_timeOf_52 rfl rfl ?_
        refine gw_iload_n (q := 1) dX12_timeOf_53 rfl rfl ?_
        refine gw_aload_n (q := 0) dX12_timeOf_54 rfl rfl ?_
        refine gw_gR fX12_117 dX12_timeOf_55 g1 ?_
        refine gw_iconst (v := 2) dX12_timeOf_58 ic_2 ?_
        refine gw_iload_n (q := 3) dX12_timeOf_59 rfl rfl ?_
        refine gw_imul dX12_timeOf_60 ?_
        refine gw_iload_n (q := 1) dX12_timeOf_61 rfl rfl ?_
        refine gw_iadd dX12_timeOf_62 ?_
        obtain ⟨g6, h⟩ := h
        refine gw_aI dX12_timeOf_63 g6 ?_
        refine gw_aload_n (q := 0) dX12_timeOf_64 rfl rfl ?_
        refine gw_gR fX12_114 dX12_timeOf_65 g1 ?_
        refine gw_iconst (v := 2) dX12_timeOf_68 ic_2 ?_
        refine gw_iload (q := 6) dX12_timeOf_69 rfl ?_
        refine gw_imul dX12_timeOf_71 ?_
        refine gw_iload_n (q := 1) dX12_timeOf_72 rfl rfl ?_
        refine gw_iadd dX12_timeOf_73 ?_
        obtain ⟨g7, h⟩ := h
        refine gw_aI dX12_timeOf_74 g7 ?_
        refine gw_vC (bs := [.inl v1, .inl (σ.2.1 (σ.2.2 v0 52) ((2 * v3) + v1).toNatClampNeg), .inl (σ.2.1 (σ.2.2 v0 51) ((2 * (σ.2.1 (σ.2.2 v0 53) v5.toNatClampNeg)) + v1).toNatClampNeg)]) (st := [.inl 0]) (vmX12_hopOf) lX12_177 dX12_timeOf_75 ⟨Nat.le_of_ble_eq_true rfl, rfl, rfl, Nat.le_of_ble_eq_true rfl, Nat.le_of_ble_eq_true rfl⟩ (Nat.le_of_ble_eq_true rfl) rfl rfl g1 h (kI (fun x8 σ8 h n8 => ?_))
        refine gw_iconst (v := 1) dX12_timeOf_78 ic_1 ?_
        refine gw_isub dX12_timeOf_79 ?_
        refine gw_sC (bs := [.inl 0, .inl (x8 - 1)]) (st := []) smJ9_max_7cf53 lX12_174 dX12_timeOf_80 ⟨Nat.le_of_ble_eq_true rfl, rfl, rfl, Nat.le_of_ble_eq_true rfl, Nat.le_of_ble_eq_true rfl⟩ (Nat.le_of_ble_eq_true rfl) rfl rfl h (kI (fun x9 σ9 h n9 => ?_))
        exact h
      · replace h := h.2 c5
        refine gw_iconst (v := 0) dX12_timeOf_47 ic_0 ?_
        refine gw_goto (tgt := 83) dX12_timeOf_48 (by decide) ?_
        exact h
    · replace h := h.2 c4
      refine gw_goto (tgt := 130) dX12_timeOf_39 (by decide) ?_
      refine gw_inc (lo' := [(0, .inr v0), (1, .inl v1), (2, .inl v2), (3, .inl v3), (4, .inl v4), (5, .inl (v5 + 1)), (6, .inl (σ.2.1 (σ.2.2 v0 53) v5.toNatClampNeg))]) (q := 5) (c := 1) dX12_timeOf_130 ic_1 rfl (Nat.le_of_ble_eq_true rfl) rfl ?_
      refine gw_goto (tgt := 12) dX12_timeOf_133 (by decide) ?_
      refine gw_pick [0, 1, 2, 3, 4, 5] rfl ?_
      exact h
set_option maxHeartbeats 4000000 in
set_option maxRecDepth 20000 in
theorem eX12_timeOf {l : Launch} {d : Nat} {v0 : Nat} {v1 : Int32} {v2 : Int32} {v3 : Int32} {σ : Sg} {K : Int32 → Sg → Prop} (h : ((¬ v2 = 0 → GW l (mX12_timeOf (d + 1)) 12 [(0, .inr v0), (1, .inl v1), (2, .inl v2), (3, .inl v3), (4, .inl (-1)), (5, .inl 0)] [] σ 0 0 (PI K)) ∧ (v2 = 0 → K 0 σ))) : Con l (mX12_timeOf (d + 1)) [.inr v0, .inl v1, .inl v2, .inl v3] σ (PI K) := by
  refine con_gw rfl (Nat.le_of_ble_eq_true rfl) ?_
  show GW l (mX12_timeOf (d + 1)) 0 [(0, .inr v0), (1, .inl v1), (2, .inl v2), (3, .inl v3)] [] σ 0 0 (PI K)
  refine gw_iload_n (q := 2) dX12_timeOf_0 rfl rfl ?_
  refine gw_if_ne (tgt := 6) dX12_timeOf_1 (by decide) (fun c1 => ?_) (fun c1 => ?_)
  · replace h := h.1 c1
    refine gw_iconst (v := (-1)) dX12_timeOf_6 ic_m1 ?_
    refine gw_istore (lo' := [(0, .inr v0), (1, .inl v1), (2, .inl v2), (3, .inl v3), (4, .inl (-1))]) dX12_timeOf_7 (Nat.le_of_ble_eq_true rfl) rfl ?_
    refine gw_iconst (v := 0) dX12_timeOf_9 ic_0 ?_
    refine gw_istore (lo' := [(0, .inr v0), (1, .inl v1), (2, .inl v2), (3, .inl v3), (4, .inl (-1)), (5, .inl 0)]) dX12_timeOf_10 (Nat.le_of_ble_eq_true rfl) rfl ?_
    exact h
  · replace h := h.2 c1
    refine gw_iconst (v := 0) dX12_timeOf_4 ic_0 ?_
    exact gw_rI dX12_timeOf_5 rfl (Nat.le_of_ble_eq_true rfl) (Nat.le_of_ble_eq_true rfl) h
set_option maxHeartbeats 4000000 in
set_option maxRecDepth 20000 in
theorem gX12_share_395 {l : Launch} {v0 : Nat} {v1 : Int32} {v2 : Int32} {v3 : Int32} {v4 : Int32} {v5 : Int32} {v6 : Int32} {v7 : Int32} {v8 : Int32} {v9 : Int32} {σ : Sg} {K : Int32 → Sg → Prop} (h : Ob σ v0 12 ∧ (((σ.2.1 v0 54) ≤ v9 → ((¬ v8 = 0 → Con l (mX12_timeOf 7) [.inr v0, .inl 0, .inl (v1 &&& (v7 ^^^ (-1))), .inl (-1)] σ (PI (fun x4 σ4 => Con l (mX12_timeOf 7) [.inr v0, .inl 1, .inl v7, .inl (-1)] σ4 (PI (fun x5 σ5 => Con l mJ9_max_7cf53 [.inl x4, .inl x5] σ5 (PI (fun x6 σ6 => ((v5 = (-1) → GW l mX12_share 366 [(0, .inr v0), (1, .inl v1), (2, .inl v2), (3, .inl v3), (4, .inl v4), (5, .inl v7), (6, .inl x6), (7, .inl (v7 + 1))] [] σ6 0 0 (PI K)) ∧ (¬ v5 = (-1) → ((x6 < v6 → GW l mX12_share 366 [(0, .inr v0), (1, .inl v1), (2, .inl v2), (3, .inl v3), (4, .inl v4), (5, .inl v7), (6, .inl x6), (7, .inl (v7 + 1))] [] σ6 0 0 (PI K)) ∧ (¬ x6 < v6 → GW l mX12_share 366 [(0, .inr v0), (1, .inl v1), (2, .inl v2), (3, .inl v3), (4, .inl v4), (5, .inl v5), (6, .inl v6), (7, .inl (v7 + 1))] [] σ6 0 0 (PI K)))))))))))) ∧ (v8 = 0 → GW l mX12_share 366 [(0, .inr v0), (1, .inl v1), (2, .inl v2), (3, .inl v3), (4, .inl v4), (5, .inl v5), (6, .inl v6), (7, .inl (v7 + 1))] [] σ 0 0 (PI K)))) ∧ (¬ (σ.2.1 v0 54) ≤ v9 → ((v8 = 0 → GW l mX12_share 395 [(0, .inr v0), (1, .inl v1), (2, .inl v2), (3, .inl v3), (4, .inl v4), (5, .inl v5), (6, .inl v6), (7, .inl v7), (8, .inl 0), (9, .inl (v9 + 1))] [] σ 0 0 (PI K)) ∧ (¬ v8 = 0 → Ai σ (σ.2.2 v0 53) v9 ∧ Az σ (σ.2.2 v0 50) ((2 * (σ.2.1 (σ.2.2 v0 53) v9.toNatClampNeg)) + ((v7 >>> ((σ.2.1 (σ.2.2 v0 53) v9.toNatClampNeg) &&& 31)) &&& 1)) ∧ (((σ.2.1 (σ.2.2 v0 50) ((2 * (σ.2.1 (σ.2.2 v0 53) v9.toNatClampNeg)) + ((v7 >>> ((σ.2.1 (σ.2.2 v0 53) v9.toNatClampNeg) &&& 31)) &&& 1)).toNatClampNeg) = 0 → GW l mX12_share 395 [(0, .inr v0), (1, .inl v1), (2, .inl v2), (3, .inl v3), (4, .inl v4), (5, .inl v5), (6, .inl v6), (7, .inl v7), (8, .inl 0), (9, .inl (v9 + 1))] [] σ 0 0 (PI K)) ∧ (¬ (σ.2.1 (σ.2.2 v0 50) ((2 * (σ.2.1 (σ.2.2 v0 53) v9.toNatClampNeg)) + ((v7 >>> ((σ.2.1 (σ.2.2 v0 53) v9.toNatClampNeg) &&& 31)) &&& 1)).toNatClampNeg) = 0 → GW l mX12_share 395 [(0, .inr v0), (1, .inl v1), (2, .inl v2), (3, .inl v3), (4, .inl v4), (5, .inl v5), (6, .inl v6), (7, .inl v7), (8, .inl 1), (9, .inl (v9 + 1))] [] σ 0 0 (PI K)))))))) : GW l mX12_share 395 [(0, .inr v0), (1, .inl v1), (2, .inl v2), (3, .inl v3), (4, .inl v4), (5, .inl v5), (6, .inl v6), (7, .inl v7), (8, .inl v8), (9, .inl v9)] [] σ 0 0 (PI K) := by
  refine gw_iload (q := 9) dX12_share_395 rfl ?_
  refine gw_aload_n (q := 0) dX12_share_397 rfl rfl ?_
  obtain ⟨g1, h⟩ := h
  refine gw_gI fX12_355 dX12_share_398 g1 ?_
  refine gw_icmp_ge (tgt := 452) dX12_share_401 (by decide) (fun c2 => ?_) (fun c2 => ?_)
  · replace h := h.1 c2
    refine gw_iload (q := 8) dX12_share_452 rfl ?_
    refine gw_if_ne (tgt := 460) dX12_share_454 (by decide) (fun c3 => ?_) (fun c3 => ?_)
    · replace h := h.1 c3
      refine gw_aload_n (q := 0) dX12_share_460 rfl rfl ?_
      refine gw_iconst (v := 0) dX12_share_461 ic_0 ?_
      refine gw_iload_n (q := 1) dX12_share_462 rfl rfl ?_
      refine gw_iload (q := 7) dX12_share_463 rfl ?_
      refine gw_iconst (v := (-1)) dX12_share_465 ic_m1 ?_
      refine gw_ixor dX12_share_466 ?_
      refine gw_iand dX12_share_467 ?_
      refine gw_iconst (v := (-1)) dX12_share_468 ic_m1 ?_
      refine gw_vC (bs := [.inl 0, .inl (v1 &&& (v7 ^^^ (-1))), .inl (-1)]) (st := []) (vmX12_timeOf 7) lX12_358 dX12_share_469 ⟨by decide, rfl, rfl, by decide, by decide⟩ (Nat.le_of_ble_eq_true rfl) rfl rfl g1 h (kI (fun x4 σ4 h n4 => ?_))
      refine gw_aload_n (q := 0) dX12_share_472 rfl rfl ?_
      refine gw_iconst (v := 1) dX12_share_473 ic_1 ?_
      refine gw_iload (q := 7) dX12_share_474 rfl ?_
      refine gw_iconst (v := (-1)) dX12_share_476 ic_m1 ?_
      refine gw_vC (bs := [.inl 1, .inl v7, .inl (-1)]) (st := [.inl x4]) (vmX12_timeOf 7) lX12_358 dX12_share_477 ⟨by decide, rfl, rfl, by decide, by decide⟩ (Nat.le_of_ble_eq_true rfl) rfl rfl (g1.up n4) h (kI (fun x5 σ5 h n5 => ?_))
      refine gw_sC (bs := [.inl x4, .inl x5]) (st := []) smJ9_max_7cf53 lX12_174 dX12_share_480 ⟨by decide, rfl, rfl, by decide, by decide⟩ (Nat.le_of_ble_eq_true rfl) rfl rfl h (kI (fun x6 σ6 h n6 => ?_))
      refine gw_istore (lo' := [(0, .inr v0), (1, .inl v1), (2, .inl v2), (3, .inl v3), (4, .inl v4), (5, .inl v5), (6, .inl v6), (7, .inl v7), (8, .inl v8), (9, .inl x6)]) dX12_share_483 (by decide) rfl ?_
      refine gw_iload (q := 5) dX12_share_485 rfl ?_
      refine gw_iconst (v := (-1)) dX12_share_487 ic_m1 ?_
      refine gw_icmp_eq (tgt := 501) dX12_share_488 (by decide) (fun c7 => ?_) (fun c7 => ?_)
      · replace h := h.1 c7
        refine gw_iload (q := 7) dX12_share_501 rfl ?_
        refine gw_istore (lo' := [(0, .inr v0), (1, .inl v1), (2, .inl v2), (3, .inl v3), (4, .inl v4), (5, .inl v7), (6, .inl v6), (7, .inl v7), (8, .inl v8), (9, .inl x6)]) dX12_share_503 (by decide) rfl ?_
        refine gw_iload (q := 9) dX12_share_505 rfl ?_
        refine gw_istore (lo' := [(0, .inr v0), (1, .inl v1), (2, .inl v2), (3, .inl v3), (4, .inl v4), (5, .inl v7), (6, .inl x6), (7, .inl v7), (8, .inl v8), (9, .inl x6)]) dX12_share_507 (by decide) rfl ?_
        refine gw_inc (lo' := [(0, .inr v0), (1, .inl v1), (2, .inl v2), (3, .inl v3), (4, .inl v4), (5, .inl v7), (6, .inl x6), (7, .inl (v7 + 1)), (8, .inl v8), (9, .inl x6)]) (q := 7) (c := 1) dX12_share_509 ic_1 rfl (by decide) rfl ?_
        refine gw_goto (tgt := 366) dX12_share_512 (by decide) ?_
        refine gw_pick [0, 1, 2, 3, 4, 5, 6, 7] rfl ?_
        exact h
      · replace h := h.2 c7
        refine gw_iload (q := 9) dX12_share_491 rfl ?_
        refine gw_iload (q := 6) dX12_share_493 rfl ?_
        refine gw_icmp_lt (tgt := 501) dX12_share_495 (by decide) (fun c8 => ?_) (fun c8 => ?_)
        · replace h := h.1 c8
          refine gw_iload (q := 7) dX12_share_501 rfl ?_
          refine gw_istore (lo' := [(0, .inr v0), (1, .inl v1), (2, .inl v2), (3, .inl v3), (4, .inl v4), (5, .inl v7), (6, .inl v6), (7, .inl v7), (8, .inl v8), (9, .inl x6)]) dX12_share_503 (by decide) rfl ?_
          refine gw_iload (q := 9) dX12_share_505 rfl ?_
          refine gw_istore (lo' := [(0, .inr v0), (1, .inl v1), (2, .inl v2), (3, .inl v3), (4, .inl v4), (5, .inl v7), (6, .inl x6), (7, .inl v7), (8, .inl v8), (9, .inl x6)]) dX12_share_507 (by decide) rfl ?_
          refine gw_inc (lo' := [(0, .inr v0), (1, .inl v1), (2, .inl v2), (3, .inl v3), (4, .inl v4), (5, .inl v7), (6, .inl x6), (7, .inl (v7 + 1)), (8, .inl v8), (9, .inl x6)]) (q := 7) (c := 1) dX12_share_509 ic_1 rfl (by decide) rfl ?_
          refine gw_goto (tgt := 366) dX12_share_512 (by decide) ?_
          refine gw_pick [0, 1, 2, 3, 4, 5, 6, 7] rfl ?_
          exact h
        · replace h := h.2 c8
          refine gw_goto (tgt := 509) dX12_share_498 (by decide) ?_
          refine gw_inc (lo' := [(0, .inr v0), (1, .inl v1), (2, .inl v2), (3, .inl v3), (4, .inl v4), (5, .inl v5), (6, .inl v6), (7, .inl (v7 + 1)), (8, .inl v8), (9, .inl x6)]) (q := 7) (c := 1) dX12_share_509 ic_1 rfl (by decide) rfl ?_
          refine gw_goto (tgt := 366) dX12_share_512 (by decide) ?_
          refine gw_pick [0, 1, 2, 3, 4, 5, 6, 7] rfl ?_
          exact h
    · replace h := h.2 c3
      refine gw_goto (tgt := 509) dX12_share_457 (by decide) ?_
      refine gw_inc (lo' := [(0, .inr v0), (1, .inl v1), (2, .inl v2), (3, .inl v3), (4, .inl v4), (5, .inl v5), (6, .inl v6), (7, .inl (v7 + 1)), (8, .inl v8), (9, .inl v9)]) (q := 7) (c := 1) dX12_share_509 ic_1 rfl (by decide) rfl ?_
      refine gw_goto (tgt := 366) dX12_share_512 (by decide) ?_
      refine gw_pick [0, 1, 2, 3, 4, 5, 6, 7] rfl ?_
      exact h
  · replace h := h.2 c2
    refine gw_iload (q := 8) dX12_share_404 rfl ?_
    refine gw_if_eq (tgt := 443) dX12_share_406 (by decide) (fun c9 => ?_) (fun c9 => ?_)
    · replace h := h.1 c9
      refine gw_iconst (v := 0) dX12_share_443 ic_0 ?_
      refine gw_istore (lo' := [(0, .inr v0), (1, .inl v1), (2, .inl v2), (3, .inl v3), (4, .inl v4), (5, .inl v5), (6, .inl v6), (7, .inl v7), (8, .inl 0), (9, .inl v9)]) dX12_share_444 (by decide) rfl ?_
      refine gw_inc (lo' := [(0, .inr v0), (1, .inl v1), (2, .inl v2), (3, .inl v3), (4, .inl v4), (5, .inl v5), (6, .inl v6), (7, .inl v7), (8, .inl 0), (9, .inl (v9 + 1))]) (q := 9) (c := 1) dX12_share_446 ic_1 rfl (by decide) rfl ?_
      refine gw_goto (tgt := 395) dX12_share_449 (by decide) ?_
      exact h
    · replace h := h.2 c9
      refine gw_aload_n (q := 0) dX12_share_409 rfl rfl ?_
      refine gw_gR fX12_111 dX12_share_410 g1 ?_
      refine gw_iconst (v := 2) dX12_share_413 ic_2 ?_
      refine gw_aload_n (q := 0) dX12_share_414 rfl rfl ?_
      refine gw_gR fX12_120 dX12_share_415 g1 ?_
      refine gw_iload (q := 9) dX12_share_418 rfl ?_
      obtain ⟨g10, h⟩ := h
      refine gw_aI dX12_share_420 g10 ?_
      refine gw_imul dX12_share_421 ?_
      refine gw_iload (q := 7) dX12_share_422 rfl ?_
      refine gw_aload_n (q := 0) dX12_share_424 rfl rfl ?_
      refine gw_gR fX12_120 dX12_share_425 g1 ?_
      refine gw_iload (q := 9) dX12_share_428 rfl ?_
      refine gw_aI dX12_share_430 g10 ?_
      refine gw_ishr dX12_share_431 ?_
      refine gw_iconst (v := 1) dX12_share_432 ic_1 ?_
      refine gw_iand dX12_share_433 ?_
      refine gw_iadd dX12_share_434 ?_
      obtain ⟨g12, h⟩ := h
      refine gw_aZ dX12_share_435 g12 ?_
      refine gw_if_eq (tgt := 443) dX12_share_436 (by decide) (fun c13 => ?_) (fun c13 => ?_)
      · replace h := h.1 c13
        refine gw_iconst (v := 0) dX12_share_443 ic_0 ?_
        refine gw_istore (lo' := [(0, .inr v0), (1, .inl v1), (2, .inl v2), (3, .inl v3), (4, .inl v4), (5, .inl v5), (6, .inl v6), (7, .inl v7), (8, .inl 0), (9, .inl v9)]) dX12_share_444 (by decide) rfl ?_
        refine gw_inc (lo' := [(0, .inr v0), (1, .inl v1), (2, .inl v2), (3, .inl v3), (4, .inl v4), (5, .inl v5), (6, .inl v6), (7, .inl v7), (8, .inl 0), (9, .inl (v9 + 1))]) (q := 9) (c := 1) dX12_share_446 ic_1 rfl (by decide) rfl ?_
        refine gw_goto (tgt := 395) dX12_share_449 (by decide) ?_
        exact h
      · replace h := h.2 c13
        refine gw_iconst (v := 1) dX12_share_439 ic_1 ?_
        refine gw_goto (tgt := 444) dX12_share_440 (by decide) ?_
        refine gw_istore (lo' := [(0, .inr v0), (1, .inl v1), (2, .inl v2), (3, .inl v3), (4, .inl v4), (5, .inl v5), (6, .inl v6), (7, .inl v7), (8, .inl 1), (9, .inl v9)]) dX12_share_444 (by decide) rfl ?_
        refine gw_inc (lo' := [(0, .inr v0), (1, .inl v1), (2, .inl v2), (3, .inl v3), (4, .inl v4), (5, .inl v5), (6, .inl v6), (7, .inl v7), (8, .inl 1), (9, .inl (v9 + 1))]) (q := 9) (c := 1) dX12_share_446 ic_1 rfl (by decide) rfl ?_
        refine gw_goto (tgt := 395) dX12_share_449 (by decide) ?_
        exact h
set_option maxHeartbeats 4000000 in
set_option maxRecDepth 20000 in
theorem gX12_share_366 {l : Launch} {v0 : Nat} {v1 : Int32} {v2 : Int32} {v3 : Int32} {v4 : Int32} {v5 : Int32} {v6 : Int32} {v7 : Int32} {σ : Sg} {K : Int32 → Sg → Prop} (h : Ob σ v0 12 ∧ (((1 <<< ((σ.2.1 v0 16) &&& 31)) ≤ v7 → ((¬ v3 = 0 → K v5 σ) ∧ (v3 = 0 → K v6 σ))) ∧ (¬ (1 <<< ((σ.2.1 v0 16) &&& 31)) ≤ v7 → (((v7 &&& (v1 ^^^ (-1))) = 0 → GW l mX12_share 395 [(0, .inr v0), (1, .inl v1), (2, .inl v2), (3, .inl v3), (4, .inl v4), (5, .inl v5), (6, .inl v6), (7, .inl v7), (8, .inl 1), (9, .inl 0)] [] σ 0 0 (PI K)) ∧ (¬ (v7 &&& (v1 ^^^ (-1))) = 0 → GW l mX12_share 366 [(0, .inr v0), (1, .inl v1), (2, .inl v2), (3, .inl v3), (4, .inl v4), (5, .inl v5), (6, .inl v6), (7, .inl (v7 + 1))] [] σ 0 0 (PI K)))))) : GW l mX12_share 366 [(0, .inr v0), (1, .inl v1), (2, .inl v2), (3, .inl v3), (4, .inl v4), (5, .inl v5), (6, .inl v6), (7, .inl v7)] [] σ 0 0 (PI K) := by
  refine gw_iload (q := 7) dX12_share_366 rfl ?_
  refine gw_iconst (v := 1) dX12_share_368 ic_1 ?_
  refine gw_aload_n (q := 0) dX12_share_369 rfl rfl ?_
  obtain ⟨g1, h⟩ := h
  refine gw_gI fX12_152 dX12_share_370 g1 ?_
  refine gw_ishl dX12_share_373 ?_
  refine gw_icmp_ge (tgt := 515) dX12_share_374 (by decide) (fun c2 => ?_) (fun c2 => ?_)
  · replace h := h.1 c2
    refine gw_iload_n (q := 3) dX12_share_515 rfl rfl ?_
    refine gw_if_ne (tgt := 524) dX12_share_516 (by decide) (fun c3 => ?_) (fun c3 => ?_)
    · replace h := h.1 c3
      refine gw_iload (q := 5) dX12_share_524 rfl ?_
      exact gw_rI dX12_share_526 rfl (by decide) (by decide) h
    · replace h := h.2 c3
      refine gw_iload (q := 6) dX12_share_519 rfl ?_
      refine gw_goto (tgt := 526) dX12_share_521 (by decide) ?_
      exact gw_rI dX12_share_526 rfl (by decide) (by decide) h
  · replace h := h.2 c2
    refine gw_iload (q := 7) dX12_share_377 rfl ?_
    refine gw_iload_n (q := 1) dX12_share_379 rfl rfl ?_
    refine gw_iconst (v := (-1)) dX12_share_380 ic_m1 ?_
    refine gw_ixor dX12_share_381 ?_
    refine gw_iand dX12_share_382 ?_
    refine gw_if_eq (tgt := 389) dX12_share_383 (by decide) (fun c4 => ?_) (fun c4 => ?_)
    · replace h := h.1 c4
      refine gw_iconst (v := 1) dX12_share_389 ic_1 ?_
      refine gw_istore (lo' := [(0, .inr v0), (1, .inl v1), (2, .inl v2), (3, .inl v3), (4, .inl v4), (5, .inl v5), (6, .inl v6), (7, .inl v7), (8, .inl 1)]) dX12_share_390 (by decide) rfl ?_
      refine gw_iconst (v := 0) dX12_share_392 ic_0 ?_
      refine gw_istore (lo' := [(0, .inr v0), (1, .inl v1), (2, .inl v2), (3, .inl v3), (4, .inl v4), (5, .inl v5), (6, .inl v6), (7, .inl v7), (8, .inl 1), (9, .inl 0)]) dX12_share_393 (by decide) rfl ?_
      exact h
    · replace h := h.2 c4
      refine gw_goto (tgt := 509) dX12_share_386 (by decide) ?_
      refine gw_inc (lo' := [(0, .inr v0), (1, .inl v1), (2, .inl v2), (3, .inl v3), (4, .inl v4), (5, .inl v5), (6, .inl v6), (7, .inl (v7 + 1))]) (q := 7) (c := 1) dX12_share_509 ic_1 rfl (by decide) rfl ?_
      refine gw_goto (tgt := 366) dX12_share_512 (by decide) ?_
      exact h
set_option maxHeartbeats 4000000 in
set_option maxRecDepth 20000 in
theorem gX12_share_277 {l : Launch} {v0 : Nat} {v1 : Int32} {v2 : Int32} {v3 : Int32} {v4 : Int32} {v5 : Int32} {v6 : Int32} {v7 : Int32} {t0 : Nat} {t1 : Int32} {t2 : Int32} {σ : Sg} {K : Int32 → Sg → Prop} (h : Ai σ t0 t1 ∧ ∀ σ2, σ2 = w1 σ t0 t1.toNatClampNeg t2 → Ob σ2 v0 12 ∧ Ai σ2 (σ2.2.2 v0 17) v6 ∧ ((¬ v7 = (σ2.2.1 (σ2.2.2 v0 17) v6.toNatClampNeg) → Ai σ2 (σ2.2.2 v0 18) v6 ∧ Ai σ2 (σ2.2.2 v0 45) ((σ2.2.1 (σ2.2.2 v0 18) v6.toNatClampNeg) - 1) ∧ Ai σ2 (σ2.2.2 v0 52) ((2 * v6) + v7) ∧ ∀ σ9, σ9 = w1 σ2 (σ2.2.2 v0 52) ((2 * v6) + v7).toNatClampNeg (σ2.2.1 (σ2.2.2 v0 45) ((σ2.2.1 (σ2.2.2 v0 18) v6.toNatClampNeg) - 1).toNatClampNeg) → GW l mX12_share 169 [(0, .inr v0), (1, .inl v1), (2, .inl v2), (3, .inl v3), (4, .inl v4), (5, .inl v5), (6, .inl v6), (7, .inl (v7 + 1))] [] σ9 0 0 (PI K)) ∧ (v7 = (σ2.2.1 (σ2.2.2 v0 17) v6.toNatClampNeg) → Ai σ2 (σ2.2.2 v0 18) v6 ∧ Ai σ2 (σ2.2.2 v0 19) (((40 * v6) + (σ2.2.1 (σ2.2.2 v0 18) v6.toNatClampNeg)) - 1) ∧ Ai σ2 (σ2.2.2 v0 52) ((2 * v6) + v7) ∧ ∀ σ13, σ13 = w1 σ2 (σ2.2.2 v0 52) ((2 * v6) + v7).toNatClampNeg (σ2.2.1 (σ2.2.2 v0 19) (((40 * v6) + (σ2.2.1 (σ2.2.2 v0 18) v6.toNatClampNeg)) - 1).toNatClampNeg) → GW l mX12_share 169 [(0, .inr v0), (1, .inl v1), (2, .inl v2), (3, .inl v3), (4, .inl v4), (5, .inl v5), (6, .inl v6), (7, .inl (v7 + 1))] [] σ13 0 0 (PI K)))) : GW l mX12_share 277 [(0, .inr v0), (1, .inl v1), (2, .inl v2), (3, .inl v3), (4, .inl v4), (5, .inl v5), (6, .inl v6), (7, .inl v7)] [.inl t2, .inl t1, .inr t0] σ 0 0 (PI K) := by
  obtain ⟨g1, h⟩ := h
  refine gw_sI dX12_share_277 g1 (fun σ2 e2 => ?_)
  replace h := h σ2 e2
  refine gw_aload_n (q := 0) dX12_share_278 rfl rfl ?_
  obtain ⟨g3, h⟩ := h
  refine gw_gR fX12_117 dX12_share_279 g3 ?_
  refine gw_iconst (v := 2) dX12_share_282 ic_2 ?_
  refine gw_iload (q := 6) dX12_share_283 rfl ?_
  refine gw_imul dX12_share_285 ?_
  refine gw_iload (q := 7) dX12_share_286 rfl ?_
  refine gw_iadd dX12_share_288 ?_
  refine gw_iload (q := 7) dX12_share_289 rfl ?_
  refine gw_aload_n (q := 0) dX12_share_291 rfl rfl ?_
  refine gw_gR fX12_51 dX12_share_292 g3 ?_
  refine gw_iload (q := 6) dX12_share_295 rfl ?_
  obtain ⟨g4, h⟩ := h
  refine gw_aI dX12_share_297 g4 ?_
  refine gw_icmp_ne (tgt := 324) dX12_share_298 (by decide) (fun c5 => ?_) (fun c5 => ?_)
  · replace h := h.1 c5
    refine gw_aload_n (q := 0) dX12_share_324 rfl rfl ?_
    refine gw_gR fX12_99 dX12_share_325 g3 ?_
    refine gw_aload_n (q := 0) dX12_share_328 rfl rfl ?_
    refine gw_gR fX12_54 dX12_share_329 g3 ?_
    refine gw_iload (q := 6) dX12_share_332 rfl ?_
    obtain ⟨g6, h⟩ := h
    refine gw_aI dX12_share_334 g6 ?_
    refine gw_iconst (v := 1) dX12_share_335 ic_1 ?_
    refine gw_isub dX12_share_336 ?_
    obtain ⟨g7, h⟩ := h
    refine gw_aI dX12_share_337 g7 ?_
    obtain ⟨g8, h⟩ := h
    refine gw_sI dX12_share_338 g8 (fun σ9 e9 => ?_)
    replace h := h σ9 e9
    refine gw_inc (lo' := [(0, .inr v0), (1, .inl v1), (2, .inl v2), (3, .inl v3), (4, .inl v4), (5, .inl v5), (6, .inl v6), (7, .inl (v7 + 1))]) (q := 7) (c := 1) dX12_share_339 ic_1 rfl (by decide) rfl ?_
    refine gw_goto (tgt := 169) dX12_share_342 (by decide) ?_
    exact h
  · replace h := h.2 c5
    refine gw_aload_n (q := 0) dX12_share_301 rfl rfl ?_
    refine gw_gR fX12_57 dX12_share_302 g3 ?_
    refine gw_bipush (v := 40) dX12_share_305 bp_40 ?_
    refine gw_iload (q := 6) dX12_share_307 rfl ?_
    refine gw_imul dX12_share_309 ?_
    refine gw_aload_n (q := 0) dX12_share_310 rfl rfl ?_
    refine gw_gR fX12_54 dX12_share_311 g3 ?_
    refine gw_iload (q := 6) dX12_share_314 rfl ?_
    obtain ⟨g10, h⟩ := h
    refine gw_aI dX12_share_316 g10 ?_
    refine gw_iadd dX12_share_317 ?_
    refine gw_iconst (v := 1) dX12_share_318 ic_1 ?_
    refine gw_isub dX12_share_319 ?_
    obtain ⟨g11, h⟩ := h
    refine gw_aI dX12_share_320 g11 ?_
    refine gw_goto (tgt := 338) dX12_share_321 (by decide) ?_
    obtain ⟨g12, h⟩ := h
    refine gw_sI dX12_share_338 g12 (fun σ13 e13 => ?_)
    replace h := h σ13 e13
    refine gw_inc (lo' := [(0, .inr v0), (1, .inl v1), (2, .inl v2), (3, .inl v3), (4, .inl v4), (5, .inl v5), (6, .inl v6), (7, .inl (v7 + 1))]) (q := 7) (c := 1) dX12_share_339 ic_1 rfl (by decide) rfl ?_
    refine gw_goto (tgt := 169) dX12_share_342 (by decide) ?_
    exact h
set_option maxHeartbeats 4000000 in
set_option maxRecDepth 20000 in
theorem gX12_share_216 {l : Launch} {v0 : Nat} {v1 : Int32} {v2 : Int32} {v3 : Int32} {v4 : Int32} {v5 : Int32} {v6 : Int32} {v7 : Int32} {t0 : Nat} {t1 : Int32} {t2 : Int32} {σ : Sg} {K : Int32 → Sg → Prop} (h : Az σ t0 t1 ∧ (t2 = 0 ∨ t2 = 1) ∧ ∀ σ3, σ3 = w1 σ t0 t1.toNatClampNeg t2 → Ob σ3 v0 12 ∧ Az σ3 (σ3.2.2 v0 50) ((2 * v6) + v7) ∧ ((¬ (σ3.2.1 (σ3.2.2 v0 50) ((2 * v6) + v7).toNatClampNeg) = 0 → Ai σ3 (σ3.2.2 v0 17) v6 ∧ ((¬ v7 = (σ3.2.1 (σ3.2.2 v0 17) v6.toNatClampNeg) → Ai σ3 (σ3.2.2 v0 45) 0 ∧ GW l mX12_share 277 [(0, .inr v0), (1, .inl v1), (2, .inl v2), (3, .inl v3), (4, .inl v4), (5, .inl v5), (6, .inl v6), (7, .inl v7)] [.inl (σ3.2.1 (σ3.2.2 v0 45) (0 : Int32).toNatClampNeg), .inl ((2 * v6) + v7), .inr (σ3.2.2 v0 51)] σ3 0 0 (PI K)) ∧ (v7 = (σ3.2.1 (σ3.2.2 v0 17) v6.toNatClampNeg) → Ai σ3 (σ3.2.2 v0 19) (40 * v6) ∧ GW l mX12_share 277 [(0, .inr v0), (1, .inl v1), (2, .inl v2), (3, .inl v3), (4, .inl v4), (5, .inl v5), (6, .inl v6), (7, .inl v7)] [.inl (σ3.2.1 (σ3.2.2 v0 19) (40 * v6).toNatClampNeg), .inl ((2 * v6) + v7), .inr (σ3.2.2 v0 51)] σ3 0 0 (PI K)))) ∧ ((σ3.2.1 (σ3.2.2 v0 50) ((2 * v6) + v7).toNatClampNeg) = 0 → GW l mX12_share 169 [(0, .inr v0), (1, .inl v1), (2, .inl v2), (3, .inl v3), (4, .inl v4), (5, .inl v5), (6, .inl v6), (7, .inl (v7 + 1))] [] σ3 0 0 (PI K)))) : GW l mX12_share 216 [(0, .inr v0), (1, .inl v1), (2, .inl v2), (3, .inl v3), (4, .inl v4), (5, .inl v5), (6, .inl v6), (7, .inl v7)] [.inl t2, .inl t1, .inr t0] σ 0 0 (PI K) := by
  obtain ⟨g1, h⟩ := h
  obtain ⟨z2, h⟩ := h
  refine gw_sZ dX12_share_216 z2 g1 (fun σ3 e3 => ?_)
  replace h := h σ3 e3
  refine gw_aload_n (q := 0) dX12_share_217 rfl rfl ?_
  obtain ⟨g4, h⟩ := h
  refine gw_gR fX12_111 dX12_share_218 g4 ?_
  refine gw_iconst (v := 2) dX12_share_221 ic_2 ?_
  refine gw_iload (q := 6) dX12_share_222 rfl ?_
  refine gw_imul dX12_share_224 ?_
  refine gw_iload (q := 7) dX12_share_225 rfl ?_
  refine gw_iadd dX12_share_227 ?_
  obtain ⟨g5, h⟩ := h
  refine gw_aZ dX12_share_228 g5 ?_
  refine gw_if_ne (tgt := 235) dX12_share_229 (by decide) (fun c6 => ?_) (fun c6 => ?_)
  · replace h := h.1 c6
    refine gw_aload_n (q := 0) dX12_share_235 rfl rfl ?_
    refine gw_gR fX12_114 dX12_share_236 g4 ?_
    refine gw_iconst (v := 2) dX12_share_239 ic_2 ?_
    refine gw_iload (q := 6) dX12_share_240 rfl ?_
    refine gw_imul dX12_share_242 ?_
    refine gw_iload (q := 7) dX12_share_243 rfl ?_
    refine gw_iadd dX12_share_245 ?_
    refine gw_iload (q := 7) dX12_share_246 rfl ?_
    refine gw_aload_n (q := 0) dX12_share_248 rfl rfl ?_
    refine gw_gR fX12_51 dX12_share_249 g4 ?_
    refine gw_iload (q := 6) dX12_share_252 rfl ?_
    obtain ⟨g7, h⟩ := h
    refine gw_aI dX12_share_254 g7 ?_
    refine gw_icmp_ne (tgt := 271) dX12_share_255 (by decide) (fun c8 => ?_) (fun c8 => ?_)
    · replace h := h.1 c8
      refine gw_aload_n (q := 0) dX12_share_271 rfl rfl ?_
      refine gw_gR fX12_99 dX12_share_272 g4 ?_
      refine gw_iconst (v := 0) dX12_share_275 ic_0 ?_
      obtain ⟨g9, h⟩ := h
      refine gw_aI dX12_share_276 g9 ?_
      exact h
    · replace h := h.2 c8
      refine gw_aload_n (q := 0) dX12_share_258 rfl rfl ?_
      refine gw_gR fX12_57 dX12_share_259 g4 ?_
      refine gw_bipush (v := 40) dX12_share_262 bp_40 ?_
      refine gw_iload (q := 6) dX12_share_264 rfl ?_
      refine gw_imul dX12_share_266 ?_
      obtain ⟨g10, h⟩ := h
      refine gw_aI dX12_share_267 g10 ?_
      refine gw_goto (tgt := 277) dX12_share_268 (by decide) ?_
      exact h
  · replace h := h.2 c6
    refine gw_goto (tgt := 339) dX12_share_232 (by decide) ?_
    refine gw_inc (lo' := [(0, .inr v0), (1, .inl v1), (2, .inl v2), (3, .inl v3), (4, .inl v4), (5, .inl v5), (6, .inl v6), (7, .inl (v7 + 1))]) (q := 7) (c := 1) dX12_share_339 ic_1 rfl (by decide) rfl ?_
    refine gw_goto (tgt := 169) dX12_share_342 (by decide) ?_
    exact h
set_option maxHeartbeats 4000000 in
set_option maxRecDepth 20000 in
theorem gX12_share_169 {l : Launch} {v0 : Nat} {v1 : Int32} {v2 : Int32} {v3 : Int32} {v4 : Int32} {v5 : Int32} {v6 : Int32} {v7 : Int32} {σ : Sg} {K : Int32 → Sg → Prop} (h : ((2 ≤ v7 → GW l mX12_share 148 [(0, .inr v0), (1, .inl v1), (2, .inl v2), (3, .inl v3), (4, .inl v4), (5, .inl (v5 + 1))] [] σ 0 0 (PI K)) ∧ (¬ 2 ≤ v7 → Ob σ v0 12 ∧ Ai σ (σ.2.2 v0 17) v6 ∧ ((v7 = (σ.2.1 (σ.2.2 v0 17) v6.toNatClampNeg) → GW l mX12_share 216 [(0, .inr v0), (1, .inl v1), (2, .inl v2), (3, .inl v3), (4, .inl v4), (5, .inl v5), (6, .inl v6), (7, .inl v7)] [.inl 1, .inl ((2 * v6) + v7), .inr (σ.2.2 v0 50)] σ 0 0 (PI K)) ∧ (¬ v7 = (σ.2.1 (σ.2.2 v0 17) v6.toNatClampNeg) → Con l mX12_follows [.inr v0, .inl v6, .inl v7, .inl 0, .inl v2] σ (PI (fun x5 σ5 => ((x5 = 0 → GW l mX12_share 216 [(0, .inr v0), (1, .inl v1), (2, .inl v2), (3, .inl v3), (4, .inl v4), (5, .inl v5), (6, .inl v6), (7, .inl v7)] [.inl 0, .inl ((2 * v6) + v7), .inr (σ.2.2 v0 50)] σ5 0 0 (PI K)) ∧ (¬ x5 = 0 → GW l mX12_share 216 [(0, .inr v0), (1, .inl v1), (2, .inl v2), (3, .inl v3), (4, .inl v4), (5, .inl v5), (6, .inl v6), (7, .inl v7)] [.inl 1, .inl ((2 * v6) + v7), .inr (σ.2.2 v0 50)] σ5 0 0 (PI K)))))))))) : GW l mX12_share 169 [(0, .inr v0), (1, .inl v1), (2, .inl v2), (3, .inl v3), (4, .inl v4), (5, .inl v5), (6, .inl v6), (7, .inl v7)] [] σ 0 0 (PI K) := by
  refine gw_iload (q := 7) dX12_share_169 rfl ?_
  refine gw_iconst (v := 2) dX12_share_171 ic_2 ?_
  refine gw_icmp_ge (tgt := 345) dX12_share_172 (by decide) (fun c1 => ?_) (fun c1 => ?_)
  · replace h := h.1 c1
    refine gw_inc (lo' := [(0, .inr v0), (1, .inl v1), (2, .inl v2), (3, .inl v3), (4, .inl v4), (5, .inl (v5 + 1)), (6, .inl v6), (7, .inl v7)]) (q := 5) (c := 1) dX12_share_345 ic_1 rfl (by decide) rfl ?_
    refine gw_goto (tgt := 148) dX12_share_348 (by decide) ?_
    refine gw_pick [0, 1, 2, 3, 4, 5] rfl ?_
    exact h
  · replace h := h.2 c1
    refine gw_aload_n (q := 0) dX12_share_175 rfl rfl ?_
    obtain ⟨g2, h⟩ := h
    refine gw_gR fX12_111 dX12_share_176 g2 ?_
    refine gw_iconst (v := 2) dX12_share_179 ic_2 ?_
    refine gw_iload (q := 6) dX12_share_180 rfl ?_
    refine gw_imul dX12_share_182 ?_
    refine gw_iload (q := 7) dX12_share_183 rfl ?_
    refine gw_iadd dX12_share_185 ?_
    refine gw_iload (q := 7) dX12_share_186 rfl ?_
    refine gw_aload_n (q := 0) dX12_share_188 rfl rfl ?_
    refine gw_gR fX12_51 dX12_share_189 g2 ?_
    refine gw_iload (q := 6) dX12_share_192 rfl ?_
    obtain ⟨g3, h⟩ := h
    refine gw_aI dX12_share_194 g3 ?_
    refine gw_icmp_eq (tgt := 211) dX12_share_195 (by decide) (fun c4 => ?_) (fun c4 => ?_)
    · replace h := h.1 c4
      refine gw_iconst (v := 1) dX12_share_211 ic_1 ?_
      refine gw_goto (tgt := 216) dX12_share_212 (by decide) ?_
      exact h
    · replace h := h.2 c4
      refine gw_aload_n (q := 0) dX12_share_198 rfl rfl ?_
      refine gw_iload (q := 6) dX12_share_199 rfl ?_
      refine gw_iload (q := 7) dX12_share_201 rfl ?_
      refine gw_iconst (v := 0) dX12_share_203 ic_0 ?_
      refine gw_iload_n (q := 2) dX12_share_204 rfl rfl ?_
      refine gw_vC (bs := [.inl v6, .inl v7, .inl 0, .inl v2]) (st := [.inl ((2 * v6) + v7), .inr (σ.2.2 v0 50)]) (vmX12_follows) lX12_333 dX12_share_205 ⟨by decide, rfl, rfl, by decide, by decide⟩ (Nat.le_of_ble_eq_true rfl) rfl rfl g2 h (kI (fun x5 σ5 h n5 => ?_))
      refine gw_if_eq (tgt := 215) dX12_share_208 (by decide) (fun c6 => ?_) (fun c6 => ?_)
      · replace h := h.1 c6
        refine gw_iconst (v := 0) dX12_share_215 ic_0 ?_
        exact h
      · replace h := h.2 c6
        refine gw_iconst (v := 1) dX12_share_211 ic_1 ?_
        refine gw_goto (tgt := 216) dX12_share_212 (by decide) ?_
        exact h
set_option maxHeartbeats 4000000 in
set_option maxRecDepth 20000 in
theorem gX12_share_148 {l : Launch} {v0 : Nat} {v1 : Int32} {v2 : Int32} {v3 : Int32} {v4 : Int32} {v5 : Int32} {σ : Sg} {K : Int32 → Sg → Prop} (h : Ob σ v0 12 ∧ (((σ.2.1 v0 54) ≤ v5 → ∀ σ3, σ3 = w1 σ v0 40 v4 → GW l mX12_share 366 [(0, .inr v0), (1, .inl v1), (2, .inl v2), (3, .inl v3), (4, .inl v4), (5, .inl (-1)), (6, .inl 0), (7, .inl 0)] [] σ3 0 0 (PI K)) ∧ (¬ (σ.2.1 v0 54) ≤ v5 → Ai σ (σ.2.2 v0 53) v5 ∧ GW l mX12_share 169 [(0, .inr v0), (1, .inl v1), (2, .inl v2), (3, .inl v3), (4, .inl v4), (5, .inl v5), (6, .inl (σ.2.1 (σ.2.2 v0 53) v5.toNatClampNeg)), (7, .inl 0)] [] σ 0 0 (PI K)))) : GW l mX12_share 148 [(0, .inr v0), (1, .inl v1), (2, .inl v2), (3, .inl v3), (4, .inl v4), (5, .inl v5)] [] σ 0 0 (PI K) := by
  refine gw_iload (q := 5) dX12_share_148 rfl ?_
  refine gw_aload_n (q := 0) dX12_share_150 rfl rfl ?_
  obtain ⟨g1, h⟩ := h
  refine gw_gI fX12_355 dX12_share_151 g1 ?_
  refine gw_icmp_ge (tgt := 351) dX12_share_154 (by decide) (fun c2 => ?_) (fun c2 => ?_)
  · replace h := h.1 c2
    refine gw_aload_n (q := 0) dX12_share_351 rfl rfl ?_
    refine gw_iload (q := 4) dX12_share_352 rfl ?_
    refine gw_pI fX12_85 dX12_share_354 g1 (fun σ3 e3 => ?_)
    replace h := h σ3 e3
    refine gw_iconst (v := (-1)) dX12_share_357 ic_m1 ?_
    refine gw_istore (lo' := [(0, .inr v0), (1, .inl v1), (2, .inl v2), (3, .inl v3), (4, .inl v4), (5, .inl (-1))]) dX12_share_358 (by decide) rfl ?_
    refine gw_iconst (v := 0) dX12_share_360 ic_0 ?_
    refine gw_istore (lo' := [(0, .inr v0), (1, .inl v1), (2, .inl v2), (3, .inl v3), (4, .inl v4), (5, .inl (-1)), (6, .inl 0)]) dX12_share_361 (by decide) rfl ?_
    refine gw_iconst (v := 0) dX12_share_363 ic_0 ?_
    refine gw_istore (lo' := [(0, .inr v0), (1, .inl v1), (2, .inl v2), (3, .inl v3), (4, .inl v4), (5, .inl (-1)), (6, .inl 0), (7, .inl 0)]) dX12_share_364 (by decide) rfl ?_
    exact h
  · replace h := h.2 c2
    refine gw_aload_n (q := 0) dX12_share_157 rfl rfl ?_
    refine gw_gR fX12_120 dX12_share_158 g1 ?_
    refine gw_iload (q := 5) dX12_share_161 rfl ?_
    obtain ⟨g4, h⟩ := h
    refine gw_aI dX12_share_163 g4 ?_
    refine gw_istore (lo' := [(0, .inr v0), (1, .inl v1), (2, .inl v2), (3, .inl v3), (4, .inl v4), (5, .inl v5), (6, .inl (σ.2.1 (σ.2.2 v0 53) v5.toNatClampNeg))]) dX12_share_164 (by decide) rfl ?_
    refine gw_iconst (v := 0) dX12_share_166 ic_0 ?_
    refine gw_istore (lo' := [(0, .inr v0), (1, .inl v1), (2, .inl v2), (3, .inl v3), (4, .inl v4), (5, .inl v5), (6, .inl (σ.2.1 (σ.2.2 v0 53) v5.toNatClampNeg)), (7, .inl 0)]) dX12_share_167 (by decide) rfl ?_
    exact h
set_option maxHeartbeats 4000000 in
set_option maxRecDepth 20000 in
theorem gX12_share_71 {l : Launch} {v0 : Nat} {v1 : Int32} {v2 : Int32} {v3 : Int32} {v4 : Int32} {σ : Sg} {K : Int32 → Sg → Prop} (h : Ob σ v0 12 ∧ (((σ.2.1 v0 16) ≤ v4 → GW l mX12_share 148 [(0, .inr v0), (1, .inl v1), (2, .inl v2), (3, .inl v3), (4, .inl (σ.2.1 v0 40)), (5, .inl 0)] [] σ 0 0 (PI K)) ∧ (¬ (σ.2.1 v0 16) ≤ v4 → ((¬ ((v1 >>> (v4 &&& 31)) &&& 1) = 0 → Ai σ (σ.2.2 v0 18) v4 ∧ (((σ.2.1 (σ.2.2 v0 18) v4.toNatClampNeg) = 0 → K (-1) σ) ∧ (¬ (σ.2.1 (σ.2.2 v0 18) v4.toNatClampNeg) = 0 → ((¬ (σ.2.1 v0 54) = 5 → Ai σ (σ.2.2 v0 53) (σ.2.1 v0 54) ∧ ∀ σ8, σ8 = w1 σ (σ.2.2 v0 53) (σ.2.1 v0 54).toNatClampNeg v4 → ∀ σ9, σ9 = w1 σ8 v0 54 ((σ8.2.1 v0 54) + 1) → GW l mX12_share 71 [(0, .inr v0), (1, .inl v1), (2, .inl v2), (3, .inl v3), (4, .inl (v4 + 1))] [] σ9 0 0 (PI K)) ∧ ((σ.2.1 v0 54) = 5 → K (-1) σ))))) ∧ (((v1 >>> (v4 &&& 31)) &&& 1) = 0 → GW l mX12_share 71 [(0, .inr v0), (1, .inl v1), (2, .inl v2), (3, .inl v3), (4, .inl (v4 + 1))] [] σ 0 0 (PI K)))))) : GW l mX12_share 71 [(0, .inr v0), (1, .inl v1), (2, .inl v2), (3, .inl v3), (4, .inl v4)] [] σ 0 0 (PI K) := by
  refine gw_iload (q := 4) dX12_share_71 rfl ?_
  refine gw_aload_n (q := 0) dX12_share_73 rfl rfl ?_
  obtain ⟨g1, h⟩ := h
  refine gw_gI fX12_152 dX12_share_74 g1 ?_
  refine gw_icmp_ge (tgt := 139) dX12_share_77 (by decide) (fun c2 => ?_) (fun c2 => ?_)
  · replace h := h.1 c2
    refine gw_aload_n (q := 0) dX12_share_139 rfl rfl ?_
    refine gw_gI fX12_85 dX12_share_140 g1 ?_
    refine gw_istore (lo' := [(0, .inr v0), (1, .inl v1), (2, .inl v2), (3, .inl v3), (4, .inl (σ.2.1 v0 40))]) dX12_share_143 (by decide) rfl ?_
    refine gw_iconst (v := 0) dX12_share_145 ic_0 ?_
    refine gw_istore (lo' := [(0, .inr v0), (1, .inl v1), (2, .inl v2), (3, .inl v3), (4, .inl (σ.2.1 v0 40)), (5, .inl 0)]) dX12_share_146 (by decide) rfl ?_
    exact h
  · replace h := h.2 c2
    refine gw_iload_n (q := 1) dX12_share_80 rfl rfl ?_
    refine gw_iload (q := 4) dX12_share_81 rfl ?_
    refine gw_ishr dX12_share_83 ?_
    refine gw_iconst (v := 1) dX12_share_84 ic_1 ?_
    refine gw_iand dX12_share_85 ?_
    refine gw_if_ne (tgt := 92) dX12_share_86 (by decide) (fun c3 => ?_) (fun c3 => ?_)
    · replace h := h.1 c3
      refine gw_aload_n (q := 0) dX12_share_92 rfl rfl ?_
      refine gw_gR fX12_54 dX12_share_93 g1 ?_
      refine gw_iload (q := 4) dX12_share_96 rfl ?_
      obtain ⟨g4, h⟩ := h
      refine gw_aI dX12_share_98 g4 ?_
      refine gw_if_eq (tgt := 110) dX12_share_99 (by decide) (fun c5 => ?_) (fun c5 => ?_)
      · replace h := h.1 c5
        refine gw_iconst (v := (-1)) dX12_share_110 ic_m1 ?_
        exact gw_rI dX12_share_111 rfl (by decide) (by decide) h
      · replace h := h.2 c5
        refine gw_aload_n (q := 0) dX12_share_102 rfl rfl ?_
        refine gw_gI fX12_355 dX12_share_103 g1 ?_
        refine gw_iconst (v := 5) dX12_share_106 ic_5 ?_
        refine gw_icmp_ne (tgt := 112) dX12_share_107 (by decide) (fun c6 => ?_) (fun c6 => ?_)
        · replace h := h.1 c6
          refine gw_aload_n (q := 0) dX12_share_112 rfl rfl ?_
          refine gw_gR fX12_120 dX12_share_113 g1 ?_
          refine gw_aload_n (q := 0) dX12_share_116 rfl rfl ?_
          refine gw_gI fX12_355 dX12_share_117 g1 ?_
          refine gw_iload (q := 4) dX12_share_120 rfl ?_
          obtain ⟨g7, h⟩ := h
          refine gw_sI dX12_share_122 g7 (fun σ8 e8 => ?_)
          replace h := h σ8 e8
          refine gw_aload_n (q := 0) dX12_share_123 rfl rfl ?_
          refine gw_dup dX12_share_124 ?_
          refine gw_gI fX12_355 dX12_share_125 (g1.up (n_w1 e8)) ?_
          refine gw_iconst (v := 1) dX12_share_128 ic_1 ?_
          refine gw_iadd dX12_share_129 ?_
          refine gw_pI fX12_355 dX12_share_130 (g1.up (n_w1 e8)) (fun σ9 e9 => ?_)
          replace h := h σ9 e9
          refine gw_inc (lo' := [(0, .inr v0), (1, .inl v1), (2, .inl v2), (3, .inl v3), (4, .inl (v4 + 1))]) (q := 4) (c := 1) dX12_share_133 ic_1 rfl (by decide) rfl ?_
          refine gw_goto (tgt := 71) dX12_share_136 (by decide) ?_
          exact h
        · replace h := h.2 c6
          refine gw_iconst (v := (-1)) dX12_share_110 ic_m1 ?_
          exact gw_rI dX12_share_111 rfl (by decide) (by decide) h
    · replace h := h.2 c3
      refine gw_goto (tgt := 133) dX12_share_89 (by decide) ?_
      refine gw_inc (lo' := [(0, .inr v0), (1, .inl v1), (2, .inl v2), (3, .inl v3), (4, .inl (v4 + 1))]) (q := 4) (c := 1) dX12_share_133 ic_1 rfl (by decide) rfl ?_
      refine gw_goto (tgt := 71) dX12_share_136 (by decide) ?_
      exact h
set_option maxHeartbeats 4000000 in
set_option maxRecDepth 20000 in
theorem eX12_share {l : Launch} {v0 : Nat} {v1 : Int32} {v2 : Int32} {v3 : Int32} {σ : Sg} {K : Int32 → Sg → Prop} (h : Ob σ v0 12 ∧ ∀ σ2, σ2 = w1 σ v0 0 0 → ((v1 ≤ 0 → K (-1) σ2) ∧ (¬ v1 ≤ 0 → (((1 <<< ((σ2.2.1 v0 16) &&& 31)) ≤ v1 → K (-1) σ2) ∧ (¬ (1 <<< ((σ2.2.1 v0 16) &&& 31)) ≤ v1 → Con l mX12_isError [.inl v2] σ2 (PI (fun x5 σ5 => ((x5 = 0 → K (-1) σ5) ∧ (¬ x5 = 0 → ((v3 < 0 → K (-1) σ5) ∧ (¬ v3 < 0 → ((1 < v3 → K (-1) σ5) ∧ (¬ 1 < v3 → (((σ5.2.1 v0 4) < 2 → K (-1) σ5) ∧ (¬ (σ5.2.1 v0 4) < 2 → Ai σ5 (σ5.2.2 v0 7) 0 ∧ (((σ5.2.1 (σ5.2.2 v0 7) (0 : Int32).toNatClampNeg) = 0 → K (-1) σ5) ∧ (¬ (σ5.2.1 (σ5.2.2 v0 7) (0 : Int32).toNatClampNeg) = 0 → Ai σ5 (σ5.2.2 v0 7) 1 ∧ ((¬ (σ5.2.1 (σ5.2.2 v0 7) (1 : Int32).toNatClampNeg) = 0 → ∀ σ14, σ14 = w1 σ5 v0 54 0 → GW l mX12_share 71 [(0, .inr v0), (1, .inl v1), (2, .inl v2), (3, .inl v3), (4, .inl 0)] [] σ14 0 0 (PI K)) ∧ ((σ5.2.1 (σ5.2.2 v0 7) (1 : Int32).toNatClampNeg) = 0 → K (-1) σ5))))))))))))))))))) : Con l mX12_share [.inr v0, .inl v1, .inl v2, .inl v3] σ (PI K) := by
  refine con_gw rfl (Nat.le_of_ble_eq_true rfl) ?_
  show GW l mX12_share 0 [(0, .inr v0), (1, .inl v1), (2, .inl v2), (3, .inl v3)] [] σ 0 0 (PI K)
  refine gw_aload_n (q := 0) dX12_share_0 rfl rfl ?_
  refine gw_iconst (v := 0) dX12_share_1 ic_0 ?_
  obtain ⟨g1, h⟩ := h
  refine gw_pI fX12_135 dX12_share_2 g1 (fun σ2 e2 => ?_)
  replace h := h σ2 e2
  refine gw_iload_n (q := 1) dX12_share_5 rfl rfl ?_
  refine gw_if_le (tgt := 61) dX12_share_6 (by decide) (fun c3 => ?_) (fun c3 => ?_)
  · replace h := h.1 c3
    refine gw_iconst (v := (-1)) dX12_share_61 ic_m1 ?_
    exact gw_rI dX12_share_62 rfl (by decide) (by decide) h
  · replace h := h.2 c3
    refine gw_iload_n (q := 1) dX12_share_9 rfl rfl ?_
    refine gw_iconst (v := 1) dX12_share_10 ic_1 ?_
    refine gw_aload_n (q := 0) dX12_share_11 rfl rfl ?_
    refine gw_gI fX12_152 dX12_share_12 (g1.up (n_w1 e2)) ?_
    refine gw_ishl dX12_share_15 ?_
    refine gw_icmp_ge (tgt := 61) dX12_share_16 (by decide) (fun c4 => ?_) (fun c4 => ?_)
    · replace h := h.1 c4
      refine gw_iconst (v := (-1)) dX12_share_61 ic_m1 ?_
      exact gw_rI dX12_share_62 rfl (by decide) (by decide) h
    · replace h := h.2 c4
      refine gw_iload_n (q := 2) dX12_share_19 rfl rfl ?_
      refine gw_sC (bs := [.inl v2]) (st := []) smX12_isError lX12_330 dX12_share_20 ⟨by decide, rfl, rfl, by decide, by decide⟩ (Nat.le_of_ble_eq_true rfl) rfl rfl h (kI (fun x5 σ5 h n5 => ?_))
      refine gw_if_eq (tgt := 61) dX12_share_23 (by decide) (fun c6 => ?_) (fun c6 => ?_)
      · replace h := h.1 c6
        refine gw_iconst (v := (-1)) dX12_share_61 ic_m1 ?_
        exact gw_rI dX12_share_62 rfl (by decide) (by decide) h
      · replace h := h.2 c6
        refine gw_iload_n (q := 3) dX12_share_26 rfl rfl ?_
        refine gw_if_lt (tgt := 61) dX12_share_27 (by decide) (fun c7 => ?_) (fun c7 => ?_)
        · replace h := h.1 c7
          refine gw_iconst (v := (-1)) dX12_share_61 ic_m1 ?_
          exact gw_rI dX12_share_62 rfl (by decide) (by decide) h
        · replace h := h.2 c7
          refine gw_iload_n (q := 3) dX12_share_30 rfl rfl ?_
          refine gw_iconst (v := 1) dX12_share_31 ic_1 ?_
          refine gw_icmp_gt (tgt := 61) dX12_share_32 (by decide) (fun c8 => ?_) (fun c8 => ?_)
          · replace h := h.1 c8
            refine gw_iconst (v := (-1)) dX12_share_61 ic_m1 ?_
            exact gw_rI dX12_share_62 rfl (by decide) (by decide) h
          · replace h := h.2 c8
            refine gw_aload_n (q := 0) dX12_share_35 rfl rfl ?_
            refine gw_gI fX12_141 dX12_share_36 ((g1.up (n_w1 e2)).up n5) ?_
            refine gw_iconst (v := 2) dX12_share_39 ic_2 ?_
            refine gw_icmp_lt (tgt := 61) dX12_share_40 (by decide) (fun c9 => ?_) (fun c9 => ?_)
            · replace h := h.1 c9
              refine gw_iconst (v := (-1)) dX12_share_61 ic_m1 ?_
              exact gw_rI dX12_share_62 rfl (by decide) (by decide) h
            · replace h := h.2 c9
              refine gw_aload_n (q := 0) dX12_share_43 rfl rfl ?_
              refine gw_gR fX12_24 dX12_share_44 ((g1.up (n_w1 e2)).up n5) ?_
              refine gw_iconst (v := 0) dX12_share_47 ic_0 ?_
              obtain ⟨g10, h⟩ := h
              refine gw_aI dX12_share_48 g10 ?_
              refine gw_if_eq (tgt := 61) dX12_share_49 (by decide) (fun c11 => ?_) (fun c11 => ?_)
              · replace h := h.1 c11
                refine gw_iconst (v := (-1)) dX12_share_61 ic_m1 ?_
                exact gw_rI dX12_share_62 rfl (by decide) (by decide) h
              · replace h := h.2 c11
                refine gw_aload_n (q := 0) dX12_share_52 rfl rfl ?_
                refine gw_gR fX12_24 dX12_share_53 ((g1.up (n_w1 e2)).up n5) ?_
                refine gw_iconst (v := 1) dX12_share_56 ic_1 ?_
                obtain ⟨g12, h⟩ := h
                refine gw_aI dX12_share_57 g12 ?_
                refine gw_if_ne (tgt := 63) dX12_share_58 (by decide) (fun c13 => ?_) (fun c13 => ?_)
                · replace h := h.1 c13
                  refine gw_aload_n (q := 0) dX12_share_63 rfl rfl ?_
                  refine gw_iconst (v := 0) dX12_share_64 ic_0 ?_
                  refine gw_pI fX12_355 dX12_share_65 ((g1.up (n_w1 e2)).up n5) (fun σ14 e14 => ?_)
                  replace h := h σ14 e14
                  refine gw_iconst (v := 0) dX12_share_68 ic_0 ?_
                  refine gw_istore (lo' := [(0, .inr v0), (1, .inl v1), (2, .inl v2), (3, .inl v3), (4, .inl 0)]) dX12_share_69 (by decide) rfl ?_
                  exact h
                · replace h := h.2 c13
                  refine gw_iconst (v := (-1)) dX12_share_61 ic_m1 ?_
                  exact gw_rI dX12_share_62 rfl (by decide) (by decide) h
set_option maxHeartbeats 4000000 in
set_option maxRecDepth 20000 in
theorem eX12_wear {l : Launch} {v0 : Nat} {v1 : Int32} {v2 : Int32} {v3 : Int32} {v4 : Int32} {v5 : Int32} {σ : Sg} {K : Int32 → Sg → Prop} (h : Ob σ v0 12 ∧ ∀ σ2, σ2 = w1 σ v0 0 0 → Con l mX12_isArm [.inr v0, .inl v1] σ2 (PI (fun x3 σ3 => ((x3 = 0 → K 0 σ3) ∧ (¬ x3 = 0 → ((v2 < 0 → K 0 σ3) ∧ (¬ v2 < 0 → Ai σ3 (σ3.2.2 v0 7) v1 ∧ (((σ3.2.1 (σ3.2.2 v0 7) v1.toNatClampNeg) ≤ v2 → K 0 σ3) ∧ (¬ (σ3.2.1 (σ3.2.2 v0 7) v1.toNatClampNeg) ≤ v2 → Con l mX12_in [.inl v3, .inl 0, .inl 1] σ3 (PI (fun x8 σ8 => ((x8 = 0 → K 0 σ8) ∧ (¬ x8 = 0 → Con l mX12_in [.inl v4, .inl 0, .inl 3] σ8 (PI (fun x10 σ10 => ((x10 = 0 → K 0 σ10) ∧ (¬ x10 = 0 → Con l mX12_in [.inl v5, .inl 0, .inl 39] σ10 (PI (fun x12 σ12 => ((¬ x12 = 0 → Ai σ12 (σ12.2.2 v0 12) v1 ∧ ∀ σ15, σ15 = w1 σ12 (σ12.2.2 v0 12) v1.toNatClampNeg v3 → Ai σ15 (σ15.2.2 v0 13) v1 ∧ ∀ σ17, σ17 = w1 σ15 (σ15.2.2 v0 13) v1.toNatClampNeg v2 → Ai σ17 (σ17.2.2 v0 14) v1 ∧ ∀ σ19, σ19 = w1 σ17 (σ17.2.2 v0 14) v1.toNatClampNeg v4 → Ai σ19 (σ19.2.2 v0 15) v1 ∧ ∀ σ21, σ21 = w1 σ19 (σ19.2.2 v0 15) v1.toNatClampNeg v5 → K 1 σ21) ∧ (x12 = 0 → K 0 σ12))))))))))))))))))))) : Con l mX12_wear [.inr v0, .inl v1, .inl v2, .inl v3, .inl v4, .inl v5] σ (PI K) := by
  refine con_gw rfl (Nat.le_of_ble_eq_true rfl) ?_
  show GW l mX12_wear 0 [(0, .inr v0), (1, .inl v1), (2, .inl v2), (3, .inl v3), (4, .inl v4), (5, .inl v5)] [] σ 0 0 (PI K)
  refine gw_aload_n (q := 0) dX12_wear_0 rfl rfl ?_
  refine gw_iconst (v := 0) dX12_wear_1 ic_0 ?_
  obtain ⟨g1, h⟩ := h
  refine gw_pI fX12_135 dX12_wear_2 g1 (fun σ2 e2 => ?_)
  replace h := h σ2 e2
  refine gw_aload_n (q := 0) dX12_wear_5 rfl rfl ?_
  refine gw_iload_n (q := 1) dX12_wear_6 rfl rfl ?_
  refine gw_vC (bs := [.inl v1]) (st := []) (vmX12_isArm) lX12_148 dX12_wear_7 ⟨by decide, rfl, rfl, by decide, by decide⟩ (Nat.le_of_ble_eq_true rfl) rfl rfl (g1.up (n_w1 e2)) h (kI (fun x3 σ3 h n3 => ?_))
  refine gw_if_eq (tgt := 57) dX12_wear_10 (by decide) (fun c4 => ?_) (fun c4 => ?_)
  · replace h := h.1 c4
    refine gw_iconst (v := 0) dX12_wear_57 ic_0 ?_
    exact gw_rZ dX12_wear_58 rfl (by decide) (by decide) (by decide) h
  · replace h := h.2 c4
    refine gw_iload_n (q := 2) dX12_wear_13 rfl rfl ?_
    refine gw_if_lt (tgt := 57) dX12_wear_14 (by decide) (fun c5 => ?_) (fun c5 => ?_)
    · replace h := h.1 c5
      refine gw_iconst (v := 0) dX12_wear_57 ic_0 ?_
      exact gw_rZ dX12_wear_58 rfl (by decide) (by decide) (by decide) h
    · replace h := h.2 c5
      refine gw_iload_n (q := 2) dX12_wear_17 rfl rfl ?_
      refine gw_aload_n (q := 0) dX12_wear_18 rfl rfl ?_
      refine gw_gR fX12_24 dX12_wear_19 ((g1.up (n_w1 e2)).up n3) ?_
      refine gw_iload_n (q := 1) dX12_wear_22 rfl rfl ?_
      obtain ⟨g6, h⟩ := h
      refine gw_aI dX12_wear_23 g6 ?_
      refine gw_icmp_ge (tgt := 57) dX12_wear_24 (by decide) (fun c7 => ?_) (fun c7 => ?_)
      · replace h := h.1 c7
        refine gw_iconst (v := 0) dX12_wear_57 ic_0 ?_
        exact gw_rZ dX12_wear_58 rfl (by decide) (by decide) (by decide) h
      · replace h := h.2 c7
        refine gw_iload_n (q := 3) dX12_wear_27 rfl rfl ?_
        refine gw_iconst (v := 0) dX12_wear_28 ic_0 ?_
        refine gw_iconst (v := 1) dX12_wear_29 ic_1 ?_
        refine gw_sC (bs := [.inl v3, .inl 0, .inl 1]) (st := []) smX12_in lX12_144 dX12_wear_30 ⟨by decide, rfl, rfl, by decide, by decide⟩ (Nat.le_of_ble_eq_true rfl) rfl rfl h (kI (fun x8 σ8 h n8 => ?_))
        refine gw_if_eq (tgt := 57) dX12_wear_33 (by decide) (fun c9 => ?_) (fun c9 => ?_)
        · replace h := h.1 c9
          refine gw_iconst (v := 0) dX12_wear_57 ic_0 ?_
          exact gw_rZ dX12_wear_58 rfl (by decide) (by decide) (by decide) h
        · replace h := h.2 c9
          refine gw_iload (q := 4) dX12_wear_36 rfl ?_
          refine gw_iconst (v := 0) dX12_wear_38 ic_0 ?_
          refine gw_iconst (v := 3) dX12_wear_39 ic_3 ?_
          refine gw_sC (bs := [.inl v4, .inl 0, .inl 3]) (st := []) smX12_in lX12_144 dX12_wear_40 ⟨by decide, rfl, rfl, by decide, by decide⟩ (Nat.le_of_ble_eq_true rfl) rfl rfl h (kI (fun x10 σ10 h n10 => ?_))
          refine gw_if_eq (tgt := 57) dX12_wear_43 (by decide) (fun c11 => ?_) (fun c11 => ?_)
          · replace h := h.1 c11
            refine gw_iconst (v := 0) dX12_wear_57 ic_0 ?_
            exact gw_rZ dX12_wear_58 rfl (by decide) (by decide) (by decide) h
          · replace h := h.2 c11
            refine gw_iload (q := 5) dX12_wear_46 rfl ?_
            refine gw_iconst (v := 0) dX12_wear_48 ic_0 ?_
            refine gw_bipush (v := 39) dX12_wear_49 bp_39 ?_
            refine gw_sC (bs := [.inl v5, .inl 0, .inl 39]) (st := []) smX12_in lX12_144 dX12_wear_51 ⟨by decide, rfl, rfl, by decide, by decide⟩ (Nat.le_of_ble_eq_true rfl) rfl rfl h (kI (fun x12 σ12 h n12 => ?_))
            refine gw_if_ne (tgt := 59) dX12_wear_54 (by decide) (fun c13 => ?_) (fun c13 => ?_)
            · replace h := h.1 c13
              refine gw_aload_n (q := 0) dX12_wear_59 rfl rfl ?_
              refine gw_gR fX12_39 dX12_wear_60 (((((g1.up (n_w1 e2)).up n3).up n8).up n10).up n12) ?_
              refine gw_iload_n (q := 1) dX12_wear_63 rfl rfl ?_
              refine gw_iload_n (q := 3) dX12_wear_64 rfl rfl ?_
              obtain ⟨g14, h⟩ := h
              refine gw_sI dX12_wear_65 g14 (fun σ15 e15 => ?_)
              replace h := h σ15 e15
              refine gw_aload_n (q := 0) dX12_wear_66 rfl rfl ?_
              refine gw_gR fX12_42 dX12_wear_67 ((((((g1.up (n_w1 e2)).up n3).up n8).up n10).up n12).up (n_w1 e15)) ?_
              refine gw_iload_n (q := 1) dX12_wear_70 rfl rfl ?_
              refine gw_iload_n (q := 2) dX12_wear_71 rfl rfl ?_
              obtain ⟨g16, h⟩ := h
              refine gw_sI dX12_wear_72 g16 (fun σ17 e17 => ?_)
              replace h := h σ17 e17
              refine gw_aload_n (q := 0) dX12_wear_73 rfl rfl ?_
              refine gw_gR fX12_45 dX12_wear_74 (((((((g1.up (n_w1 e2)).up n3).up n8).up n10).up n12).up (n_w1 e15)).up (n_w1 e17)) ?_
              refine gw_iload_n (q := 1) dX12_wear_77 rfl rfl ?_
              refine gw_iload (q := 4) dX12_wear_78 rfl ?_
              obtain ⟨g18, h⟩ := h
              refine gw_sI dX12_wear_80 g18 (fun σ19 e19 => ?_)
              replace h := h σ19 e19
              refine gw_aload_n (q := 0) dX12_wear_81 rfl rfl ?_
              refine gw_gR fX12_48 dX12_wear_82 ((((((((g1.up (n_w1 e2)).up n3).up n8).up n10).up n12).up (n_w1 e15)).up (n_w1 e17)).up (n_w1 e19)) ?_
              refine gw_iload_n (q := 1) dX12_wear_85 rfl rfl ?_
              refine gw_iload (q := 5) dX12_wear_86 rfl ?_
              obtain ⟨g20, h⟩ := h
              refine gw_sI dX12_wear_88 g20 (fun σ21 e21 => ?_)
              replace h := h σ21 e21
              refine gw_iconst (v := 1) dX12_wear_89 ic_1 ?_
              exact gw_rZ dX12_wear_90 rfl (by decide) (by decide) (by decide) h
            · replace h := h.2 c13
              refine gw_iconst (v := 0) dX12_wear_57 ic_0 ?_
              exact gw_rZ dX12_wear_58 rfl (by decide) (by decide) (by decide) h
set_option maxHeartbeats 4000000 in
set_option maxRecDepth 20000 in
theorem gX12_isAlike_40 {l : Launch} {v0 : Nat} {v1 : Int32} {v2 : Int32} {v3 : Int32} {v4 : Int32} {v5 : Int32} {v6 : Int32} {v7 : Int32} {v8 : Int32} {v9 : Int32} {σ : Sg} {K : Int32 → Sg → Prop} (h : Ob σ v0 12 ∧ Al σ (σ.2.2 v0 56) ∧ (((Int32.ofNat (shp (σ.2.2 v0 56)).2) ≤ v9 → ((v8 < 0 → K 0 σ) ∧ (¬ v8 < 0 → K 1 σ))) ∧ (¬ (Int32.ofNat (shp (σ.2.2 v0 56)).2) ≤ v9 → Ai σ (σ.2.2 v0 56) v9 ∧ Ai σ (σ.2.2 v0 55) v9 ∧ (((σ.2.1 (σ.2.2 v0 56) v9.toNatClampNeg) = (σ.2.1 (σ.2.2 v0 55) v9.toNatClampNeg) → GW l mX12_isAlike 40 [(0, .inr v0), (1, .inl v1), (2, .inl v2), (3, .inl v3), (4, .inl v4), (5, .inl v5), (6, .inl v6), (7, .inl v7), (8, .inl v8), (9, .inl (v9 + 1))] [] σ 0 0 (PI K)) ∧ (¬ (σ.2.1 (σ.2.2 v0 56) v9.toNatClampNeg) = (σ.2.1 (σ.2.2 v0 55) v9.toNatClampNeg) → K 0 σ))))) : GW l mX12_isAlike 40 [(0, .inr v0), (1, .inl v1), (2, .inl v2), (3, .inl v3), (4, .inl v4), (5, .inl v5), (6, .inl v6), (7, .inl v7), (8, .inl v8), (9, .inl v9)] [] σ 0 0 (PI K) := by
  refine gw_iload (q := 9) dX12_isAlike_40 rfl ?_
  refine gw_aload_n (q := 0) dX12_isAlike_42 rfl rfl ?_
  obtain ⟨g1, h⟩ := h
  refine gw_gR fX12_126 dX12_isAlike_43 g1 ?_
  obtain ⟨g2, h⟩ := h
  refine gw_aL dX12_isAlike_46 g2 ?_
  refine gw_icmp_ge (tgt := 75) dX12_isAlike_47 (by decide) (fun c3 => ?_) (fun c3 => ?_)
  · replace h := h.1 c3
    refine gw_iload (q := 8) dX12_isAlike_75 rfl ?_
    refine gw_if_lt (tgt := 84) dX12_isAlike_77 (by decide) (fun c4 => ?_) (fun c4 => ?_)
    · replace h := h.1 c4
      refine gw_iconst (v := 0) dX12_isAlike_84 ic_0 ?_
      exact gw_rZ dX12_isAlike_85 rfl (by decide) (by decide) (by decide) h
    · replace h := h.2 c4
      refine gw_iconst (v := 1) dX12_isAlike_80 ic_1 ?_
      refine gw_goto (tgt := 85) dX12_isAlike_81 (by decide) ?_
      exact gw_rZ dX12_isAlike_85 rfl (by decide) (by decide) (by decide) h
  · replace h := h.2 c3
    refine gw_aload_n (q := 0) dX12_isAlike_50 rfl rfl ?_
    refine gw_gR fX12_126 dX12_isAlike_51 g1 ?_
    refine gw_iload (q := 9) dX12_isAlike_54 rfl ?_
    obtain ⟨g5, h⟩ := h
    refine gw_aI dX12_isAlike_56 g5 ?_
    refine gw_aload_n (q := 0) dX12_isAlike_57 rfl rfl ?_
    refine gw_gR fX12_123 dX12_isAlike_58 g1 ?_
    refine gw_iload (q := 9) dX12_isAlike_61 rfl ?_
    obtain ⟨g6, h⟩ := h
    refine gw_aI dX12_isAlike_63 g6 ?_
    refine gw_icmp_eq (tgt := 69) dX12_isAlike_64 (by decide) (fun c7 => ?_) (fun c7 => ?_)
    · replace h := h.1 c7
      refine gw_inc (lo' := [(0, .inr v0), (1, .inl v1), (2, .inl v2), (3, .inl v3), (4, .inl v4), (5, .inl v5), (6, .inl v6), (7, .inl v7), (8, .inl v8), (9, .inl (v9 + 1))]) (q := 9) (c := 1) dX12_isAlike_69 ic_1 rfl (by decide) rfl ?_
      refine gw_goto (tgt := 40) dX12_isAlike_72 (by decide) ?_
      exact h
    · replace h := h.2 c7
      refine gw_iconst (v := 0) dX12_isAlike_67 ic_0 ?_
      exact gw_rZ dX12_isAlike_68 rfl (by decide) (by decide) (by decide) h
set_option maxHeartbeats 4000000 in
set_option maxRecDepth 20000 in
theorem eX12_isAlike {l : Launch} {v0 : Nat} {v1 : Int32} {v2 : Int32} {v3 : Int32} {v4 : Int32} {v5 : Int32} {v6 : Int32} {v7 : Int32} {σ : Sg} {K : Int32 → Sg → Prop} (h : Ob σ v0 12 ∧ Con l mX12_empties [.inr (σ.2.2 v0 56)] σ (PV (fun σ2 => Ai σ2 (σ2.2.2 v0 18) v1 ∧ Con l mX12_lays [.inr v0, .inr (σ2.2.2 v0 56), .inl v1, .inl 0, .inl ((σ2.2.1 (σ2.2.2 v0 18) v1.toNatClampNeg) - 1), .inl v2, .inl v3, .inl v4, .inl v5, .inl v6, .inl v7] σ2 (PI (fun x4 σ4 => GW l mX12_isAlike 40 [(0, .inr v0), (1, .inl v1), (2, .inl v2), (3, .inl v3), (4, .inl v4), (5, .inl v5), (6, .inl v6), (7, .inl v7), (8, .inl x4), (9, .inl 0)] [] σ4 0 0 (PI K)))))) : Con l mX12_isAlike [.inr v0, .inl v1, .inl v2, .inl v3, .inl v4, .inl v5, .inl v6, .inl v7] σ (PI K) := by
  refine con_gw rfl (Nat.le_of_ble_eq_true rfl) ?_
  show GW l mX12_isAlike 0 [(0, .inr v0), (1, .inl v1), (2, .inl v2), (3, .inl v3), (4, .inl v4), (5, .inl v5), (6, .inl v6), (7, .inl v7)] [] σ 0 0 (PI K)
  refine gw_aload_n (q := 0) dX12_isAlike_0 rfl rfl ?_
  obtain ⟨g1, h⟩ := h
  refine gw_gR fX12_126 dX12_isAlike_1 g1 ?_
  refine gw_sC (bs := [.inr (σ.2.2 v0 56)]) (st := []) smX12_empties lX12_306 dX12_isAlike_4 ⟨by decide, rfl, rfl, by decide, by decide⟩ (Nat.le_of_ble_eq_true rfl) rfl rfl h (kV (fun σ2 h n2 => ?_))
  refine gw_aload_n (q := 0) dX12_isAlike_7 rfl rfl ?_
  refine gw_aload_n (q := 0) dX12_isAlike_8 rfl rfl ?_
  refine gw_gR fX12_126 dX12_isAlike_9 (g1.up n2) ?_
  refine gw_iload_n (q := 1) dX12_isAlike_12 rfl rfl ?_
  refine gw_iconst (v := 0) dX12_isAlike_13 ic_0 ?_
  refine gw_aload_n (q := 0) dX12_isAlike_14 rfl rfl ?_
  refine gw_gR fX12_54 dX12_isAlike_15 (g1.up n2) ?_
  refine gw_iload_n (q := 1) dX12_isAlike_18 rfl rfl ?_
  obtain ⟨g3, h⟩ := h
  refine gw_aI dX12_isAlike_19 g3 ?_
  refine gw_iconst (v := 1) dX12_isAlike_20 ic_1 ?_
  refine gw_isub dX12_isAlike_21 ?_
  refine gw_iload_n (q := 2) dX12_isAlike_22 rfl rfl ?_
  refine gw_iload_n (q := 3) dX12_isAlike_23 rfl rfl ?_
  refine gw_iload (q := 4) dX12_isAlike_24 rfl ?_
  refine gw_iload (q := 5) dX12_isAlike_26 rfl ?_
  refine gw_iload (q := 6) dX12_isAlike_28 rfl ?_
  refine gw_iload (q := 7) dX12_isAlike_30 rfl ?_
  refine gw_vC (bs := [.inr (σ2.2.2 v0 56), .inl v1, .inl 0, .inl ((σ2.2.1 (σ2.2.2 v0 18) v1.toNatClampNeg) - 1), .inl v2, .inl v3, .inl v4, .inl v5, .inl v6, .inl v7]) (st := []) (vmX12_lays) lX12_299 dX12_isAlike_32 ⟨by decide, rfl, rfl, by decide, by decide⟩ (Nat.le_of_ble_eq_true rfl) rfl rfl (g1.up n2) h (kI (fun x4 σ4 h n4 => ?_))
  refine gw_istore (lo' := [(0, .inr v0), (1, .inl v1), (2, .inl v2), (3, .inl v3), (4, .inl v4), (5, .inl v5), (6, .inl v6), (7, .inl v7), (8, .inl x4)]) dX12_isAlike_35 (by decide) rfl ?_
  refine gw_iconst (v := 0) dX12_isAlike_37 ic_0 ?_
  refine gw_istore (lo' := [(0, .inr v0), (1, .inl v1), (2, .inl v2), (3, .inl v3), (4, .inl v4), (5, .inl v5), (6, .inl v6), (7, .inl v7), (8, .inl x4), (9, .inl 0)]) dX12_isAlike_38 (by decide) rfl ?_
  exact h
set_option maxHeartbeats 4000000 in
set_option maxRecDepth 20000 in
theorem gX12_suspect_162 {l : Launch} {v0 : Nat} {v1 : Int32} {v2 : Int32} {v3 : Int32} {v4 : Int32} {v5 : Int32} {v6 : Int32} {v7 : Int32} {v8 : Int32} {σ : Sg} {K : Sg → Prop} (h : ((6 ≤ v8 → GW l mX12_suspect 148 [(0, .inr v0), (1, .inl v1), (2, .inl v2), (3, .inl v3), (4, .inl v4), (5, .inl v5), (6, .inl v6), (7, .inl (v7 + 1))] [] σ 0 0 (PV K)) ∧ (¬ 6 ≤ v8 → Ob σ v0 12 ∧ Con l mX12_isAlike [.inr v0, .inl v1, .inl v2, .inl v3, .inl (v8 / 3), .inl v6, .inl ((v8 - v8 / 3 * 3) + 1), .inl v7] σ (PI (fun x2 σ2 => ((¬ x2 = 0 → ∀ σ5, σ5 = w1 σ2 v0 57 ((σ2.2.1 v0 57) + 1) → ∀ σ6, σ6 = w1 σ5 v0 58 ((σ5.2.1 v0 58) ||| (1 <<< (v6 &&& 31))) → Ai σ6 (σ6.2.2 v0 60) v6 ∧ ((¬ (σ6.2.1 (σ6.2.2 v0 60) v6.toNatClampNeg) = (-1) → Ai σ6 (σ6.2.2 v0 61) v6 ∧ ∀ σ10, σ10 = w1 σ6 (σ6.2.2 v0 61) v6.toNatClampNeg v7 → GW l mX12_suspect 162 [(0, .inr v0), (1, .inl v1), (2, .inl v2), (3, .inl v3), (4, .inl v4), (5, .inl v5), (6, .inl v6), (7, .inl v7), (8, .inl (v8 + 1))] [] σ10 0 0 (PV K)) ∧ ((σ6.2.1 (σ6.2.2 v0 60) v6.toNatClampNeg) = (-1) → ∀ σ11, σ11 = w1 σ6 (σ6.2.2 v0 60) v6.toNatClampNeg v7 → Ai σ11 (σ11.2.2 v0 61) v6 ∧ ∀ σ13, σ13 = w1 σ11 (σ11.2.2 v0 61) v6.toNatClampNeg v7 → GW l mX12_suspect 162 [(0, .inr v0), (1, .inl v1), (2, .inl v2), (3, .inl v3), (4, .inl v4), (5, .inl v5), (6, .inl v6), (7, .inl v7), (8, .inl (v8 + 1))] [] σ13 0 0 (PV K)))) ∧ (x2 = 0 → GW l mX12_suspect 162 [(0, .inr v0), (1, .inl v1), (2, .inl v2), (3, .inl v3), (4, .inl v4), (5, .inl v5), (6, .inl v6), (7, .inl v7), (8, .inl (v8 + 1))] [] σ2 0 0 (PV K)))))))) : GW l mX12_suspect 162 [(0, .inr v0), (1, .inl v1), (2, .inl v2), (3, .inl v3), (4, .inl v4), (5, .inl v5), (6, .inl v6), (7, .inl v7), (8, .inl v8)] [] σ 0 0 (PV K) := by
  refine gw_iload (q := 8) dX12_suspect_162 rfl ?_
  refine gw_bipush (v := 6) dX12_suspect_164 bp_6 ?_
  refine gw_icmp_ge (tgt := 254) dX12_suspect_166 (by decide) (fun c1 => ?_) (fun c1 => ?_)
  · replace h := h.1 c1
    refine gw_inc (lo' := [(0, .inr v0), (1, .inl v1), (2, .inl v2), (3, .inl v3), (4, .inl v4), (5, .inl v5), (6, .inl v6), (7, .inl (v7 + 1)), (8, .inl v8)]) (q := 7) (c := 1) dX12_suspect_254 ic_1 rfl (by decide) rfl ?_
    refine gw_goto (tgt := 148) dX12_suspect_257 (by decide) ?_
    refine gw_pick [0, 1, 2, 3, 4, 5, 6, 7] rfl ?_
    exact h
  · replace h := h.2 c1
    refine gw_aload_n (q := 0) dX12_suspect_169 rfl rfl ?_
    refine gw_iload_n (q := 1) dX12_suspect_170 rfl rfl ?_
    refine gw_iload_n (q := 2) dX12_suspect_171 rfl rfl ?_
    refine gw_iload_n (q := 3) dX12_suspect_172 rfl rfl ?_
    refine gw_iload (q := 8) dX12_suspect_173 rfl ?_
    refine gw_iconst (v := 3) dX12_suspect_175 ic_3 ?_
    refine gw_idiv dX12_suspect_176 (by decide) ?_
    refine gw_iload (q := 6) dX12_suspect_177 rfl ?_
    refine gw_iload (q := 8) dX12_suspect_179 rfl ?_
    refine gw_iconst (v := 3) dX12_suspect_181 ic_3 ?_
    refine gw_irem dX12_suspect_182 (by decide) ?_
    refine gw_iconst (v := 1) dX12_suspect_183 ic_1 ?_
    refine gw_iadd dX12_suspect_184 ?_
    refine gw_iload (q := 7) dX12_suspect_185 rfl ?_
    obtain ⟨g3, h⟩ := h
    refine gw_vC (bs := [.inl v1, .inl v2, .inl v3, .inl (v8 / 3), .inl v6, .inl ((v8 - v8 / 3 * 3) + 1), .inl v7]) (st := []) (vmX12_isAlike) lX12_361 dX12_suspect_187 ⟨by decide, rfl, rfl, by decide, by decide⟩ (Nat.le_of_ble_eq_true rfl) rfl rfl g3 h (kI (fun x2 σ2 h n2 => ?_))
    refine gw_if_ne (tgt := 196) dX12_suspect_190 (by decide) (fun c4 => ?_) (fun c4 => ?_)
    · replace h := h.1 c4
      refine gw_aload_n (q := 0) dX12_suspect_196 rfl rfl ?_
      refine gw_dup dX12_suspect_197 ?_
      refine gw_gI fX12_369 dX12_suspect_198 (g3.up n2) ?_
      refine gw_iconst (v := 1) dX12_suspect_201 ic_1 ?_
      refine gw_iadd dX12_suspect_202 ?_
      refine gw_pI fX12_369 dX12_suspect_203 (g3.up n2) (fun σ5 e5 => ?_)
      replace h := h σ5 e5
      refine gw_aload_n (q := 0) dX12_suspect_206 rfl rfl ?_
      refine gw_dup dX12_suspect_207 ?_
      refine gw_gI fX12_372 dX12_suspect_208 ((g3.up n2).up (n_w1 e5)) ?_
      refine gw_iconst (v := 1) dX12_suspect_211 ic_1 ?_
      refine gw_iload (q := 6) dX12_suspect_212 rfl ?_
      refine gw_ishl dX12_suspect_214 ?_
      refine gw_ior dX12_suspect_215 ?_
      refine gw_pI fX12_372 dX12_suspect_216 ((g3.up n2).up (n_w1 e5)) (fun σ6 e6 => ?_)
      replace h := h σ6 e6
      refine gw_aload_n (q := 0) dX12_suspect_219 rfl rfl ?_
      refine gw_gR fX12_129 dX12_suspect_220 (((g3.up n2).up (n_w1 e5)).up (n_w1 e6)) ?_
      refine gw_iload (q := 6) dX12_suspect_223 rfl ?_
      obtain ⟨g7, h⟩ := h
      refine gw_aI dX12_suspect_225 g7 ?_
      refine gw_iconst (v := (-1)) dX12_suspect_226 ic_m1 ?_
      refine gw_icmp_ne (tgt := 239) dX12_suspect_227 (by decide) (fun c8 => ?_) (fun c8 => ?_)
      · replace h := h.1 c8
        refine gw_aload_n (q := 0) dX12_suspect_239 rfl rfl ?_
        refine gw_gR fX12_132 dX12_suspect_240 (((g3.up n2).up (n_w1 e5)).up (n_w1 e6)) ?_
        refine gw_iload (q := 6) dX12_suspect_243 rfl ?_
        refine gw_iload (q := 7) dX12_suspect_245 rfl ?_
        obtain ⟨g9, h⟩ := h
        refine gw_sI dX12_suspect_247 g9 (fun σ10 e10 => ?_)
        replace h := h σ10 e10
        refine gw_inc (lo' := [(0, .inr v0), (1, .inl v1), (2, .inl v2), (3, .inl v3), (4, .inl v4), (5, .inl v5), (6, .inl v6), (7, .inl v7), (8, .inl (v8 + 1))]) (q := 8) (c := 1) dX12_suspect_248 ic_1 rfl (by decide) rfl ?_
        refine gw_goto (tgt := 162) dX12_suspect_251 (by decide) ?_
        exact h
      · replace h := h.2 c8
        refine gw_aload_n (q := 0) dX12_suspect_230 rfl rfl ?_
        refine gw_gR fX12_129 dX12_suspect_231 (((g3.up n2).up (n_w1 e5)).up (n_w1 e6)) ?_
        refine gw_iload (q := 6) dX12_suspect_234 rfl ?_
        refine gw_iload (q := 7) dX12_suspect_236 rfl ?_
        refine gw_sI dX12_suspect_238 g7 (fun σ11 e11 => ?_)
        replace h := h σ11 e11
        refine gw_aload_n (q := 0) dX12_suspect_239 rfl rfl ?_
        refine gw_gR fX12_132 dX12_suspect_240 ((((g3.up n2).up (n_w1 e5)).up (n_w1 e6)).up (n_w1 e11)) ?_
        refine gw_iload (q := 6) dX12_suspect_243 rfl ?_
        refine gw_iload (q := 7) dX12_suspect_245 rfl ?_
        obtain ⟨g12, h⟩ := h
        refine gw_sI dX12_suspect_247 g12 (fun σ13 e13 => ?_)
        replace h := h σ13 e13
        refine gw_inc (lo' := [(0, .inr v0), (1, .inl v1), (2, .inl v2), (3, .inl v3), (4, .inl v4), (5, .inl v5), (6, .inl v6), (7, .inl v7), (8, .inl (v8 + 1))]) (q := 8) (c := 1) dX12_suspect_248 ic_1 rfl (by decide) rfl ?_
        refine gw_goto (tgt := 162) dX12_suspect_251 (by decide) ?_
        exact h
    · replace h := h.2 c4
      refine gw_goto (tgt := 248) dX12_suspect_193 (by decide) ?_
      refine gw_inc (lo' := [(0, .inr v0), (1, .inl v1), (2, .inl v2), (3, .inl v3), (4, .inl v4), (5, .inl v5), (6, .inl v6), (7, .inl v7), (8, .inl (v8 + 1))]) (q := 8) (c := 1) dX12_suspect_248 ic_1 rfl (by decide) rfl ?_
      refine gw_goto (tgt := 162) dX12_suspect_251 (by decide) ?_
      exact h
set_option maxHeartbeats 4000000 in
set_option maxRecDepth 20000 in
theorem gX12_suspect_148 {l : Launch} {v0 : Nat} {v1 : Int32} {v2 : Int32} {v3 : Int32} {v4 : Int32} {v5 : Int32} {v6 : Int32} {v7 : Int32} {σ : Sg} {K : Sg → Prop} (h : Ob σ v0 12 ∧ Ai σ (σ.2.2 v0 18) v1 ∧ (((σ.2.1 (σ.2.2 v0 18) v1.toNatClampNeg) ≤ v7 → GW l mX12_suspect 117 [(0, .inr v0), (1, .inl v1), (2, .inl v2), (3, .inl v3), (4, .inl v4), (5, .inl v5), (6, .inl (v6 + 1))] [] σ 0 0 (PV K)) ∧ (¬ (σ.2.1 (σ.2.2 v0 18) v1.toNatClampNeg) ≤ v7 → GW l mX12_suspect 162 [(0, .inr v0), (1, .inl v1), (2, .inl v2), (3, .inl v3), (4, .inl v4), (5, .inl v5), (6, .inl v6), (7, .inl v7), (8, .inl 0)] [] σ 0 0 (PV K)))) : GW l mX12_suspect 148 [(0, .inr v0), (1, .inl v1), (2, .inl v2), (3, .inl v3), (4, .inl v4), (5, .inl v5), (6, .inl v6), (7, .inl v7)] [] σ 0 0 (PV K) := by
  refine gw_iload (q := 7) dX12_suspect_148 rfl ?_
  refine gw_aload_n (q := 0) dX12_suspect_150 rfl rfl ?_
  obtain ⟨g1, h⟩ := h
  refine gw_gR fX12_54 dX12_suspect_151 g1 ?_
  refine gw_iload_n (q := 1) dX12_suspect_154 rfl rfl ?_
  obtain ⟨g2, h⟩ := h
  refine gw_aI dX12_suspect_155 g2 ?_
  refine gw_icmp_ge (tgt := 260) dX12_suspect_156 (by decide) (fun c3 => ?_) (fun c3 => ?_)
  · replace h := h.1 c3
    refine gw_inc (lo' := [(0, .inr v0), (1, .inl v1), (2, .inl v2), (3, .inl v3), (4, .inl v4), (5, .inl v5), (6, .inl (v6 + 1)), (7, .inl v7)]) (q := 6) (c := 1) dX12_suspect_260 ic_1 rfl (by decide) rfl ?_
    refine gw_goto (tgt := 117) dX12_suspect_263 (by decide) ?_
    refine gw_pick [0, 1, 2, 3, 4, 5, 6] rfl ?_
    exact h
  · replace h := h.2 c3
    refine gw_iconst (v := 0) dX12_suspect_159 ic_0 ?_
    refine gw_istore (lo' := [(0, .inr v0), (1, .inl v1), (2, .inl v2), (3, .inl v3), (4, .inl v4), (5, .inl v5), (6, .inl v6), (7, .inl v7), (8, .inl 0)]) dX12_suspect_160 (by decide) rfl ?_
    exact h
set_option maxHeartbeats 4000000 in
set_option maxRecDepth 20000 in
theorem gX12_suspect_117 {l : Launch} {v0 : Nat} {v1 : Int32} {v2 : Int32} {v3 : Int32} {v4 : Int32} {v5 : Int32} {v6 : Int32} {σ : Sg} {K : Sg → Prop} (h : Ob σ v0 12 ∧ Ai σ (σ.2.2 v0 7) v4 ∧ (((σ.2.1 (σ.2.2 v0 7) v4.toNatClampNeg) ≤ v6 → K σ) ∧ (¬ (σ.2.1 (σ.2.2 v0 7) v4.toNatClampNeg) ≤ v6 → Ai σ (σ.2.2 v0 60) v6 ∧ ∀ σ5, σ5 = w1 σ (σ.2.2 v0 60) v6.toNatClampNeg (-1) → Ai σ5 (σ5.2.2 v0 61) v6 ∧ ∀ σ7, σ7 = w1 σ5 (σ5.2.2 v0 61) v6.toNatClampNeg (-1) → GW l mX12_suspect 148 [(0, .inr v0), (1, .inl v1), (2, .inl v2), (3, .inl v3), (4, .inl v4), (5, .inl v5), (6, .inl v6), (7, .inl 0)] [] σ7 0 0 (PV K)))) : GW l mX12_suspect 117 [(0, .inr v0), (1, .inl v1), (2, .inl v2), (3, .inl v3), (4, .inl v4), (5, .inl v5), (6, .inl v6)] [] σ 0 0 (PV K) := by
  refine gw_iload (q := 6) dX12_suspect_117 rfl ?_
  refine gw_aload_n (q := 0) dX12_suspect_119 rfl rfl ?_
  obtain ⟨g1, h⟩ := h
  refine gw_gR fX12_24 dX12_suspect_120 g1 ?_
  refine gw_iload (q := 4) dX12_suspect_123 rfl ?_
  obtain ⟨g2, h⟩ := h
  refine gw_aI dX12_suspect_125 g2 ?_
  refine gw_icmp_ge (tgt := 266) dX12_suspect_126 (by decide) (fun c3 => ?_) (fun c3 => ?_)
  · replace h := h.1 c3
    exact gw_rV dX12_suspect_266 rfl (by decide) (by decide) h
  · replace h := h.2 c3
    refine gw_aload_n (q := 0) dX12_suspect_129 rfl rfl ?_
    refine gw_gR fX12_129 dX12_suspect_130 g1 ?_
    refine gw_iload (q := 6) dX12_suspect_133 rfl ?_
    refine gw_iconst (v := (-1)) dX12_suspect_135 ic_m1 ?_
    obtain ⟨g4, h⟩ := h
    refine gw_sI dX12_suspect_136 g4 (fun σ5 e5 => ?_)
    replace h := h σ5 e5
    refine gw_aload_n (q := 0) dX12_suspect_137 rfl rfl ?_
    refine gw_gR fX12_132 dX12_suspect_138 (g1.up (n_w1 e5)) ?_
    refine gw_iload (q := 6) dX12_suspect_141 rfl ?_
    refine gw_iconst (v := (-1)) dX12_suspect_143 ic_m1 ?_
    obtain ⟨g6, h⟩ := h
    refine gw_sI dX12_suspect_144 g6 (fun σ7 e7 => ?_)
    replace h := h σ7 e7
    refine gw_iconst (v := 0) dX12_suspect_145 ic_0 ?_
    refine gw_istore (lo' := [(0, .inr v0), (1, .inl v1), (2, .inl v2), (3, .inl v3), (4, .inl v4), (5, .inl v5), (6, .inl v6), (7, .inl 0)]) dX12_suspect_146 (by decide) rfl ?_
    exact h
set_option maxHeartbeats 4000000 in
set_option maxRecDepth 20000 in
theorem gX12_suspect_90 {l : Launch} {v0 : Nat} {v1 : Int32} {v2 : Int32} {v3 : Int32} {v4 : Int32} {v5 : Int32} {t0 : Nat} {t1 : Int32} {σ : Sg} {K : Sg → Prop} (h : Ob σ t0 12 ∧ (t1 = 0 ∨ t1 = 1) ∧ ∀ σ3, σ3 = w1 σ t0 59 t1 → Ob σ3 v0 12 ∧ (((σ3.2.1 v0 59) = 0 → ∀ σ6, σ6 = w1 σ3 v0 57 0 → ∀ σ7, σ7 = w1 σ6 v0 58 0 → GW l mX12_suspect 117 [(0, .inr v0), (1, .inl v1), (2, .inl v2), (3, .inl v3), (4, .inl v4), (5, .inl v5), (6, .inl 0)] [] σ7 0 0 (PV K)) ∧ (¬ (σ3.2.1 v0 59) = 0 → ∀ σ8, σ8 = w1 σ3 v0 57 1 → ∀ σ9, σ9 = w1 σ8 v0 58 0 → GW l mX12_suspect 117 [(0, .inr v0), (1, .inl v1), (2, .inl v2), (3, .inl v3), (4, .inl v4), (5, .inl v5), (6, .inl 0)] [] σ9 0 0 (PV K)))) : GW l mX12_suspect 90 [(0, .inr v0), (1, .inl v1), (2, .inl v2), (3, .inl v3), (4, .inl v4), (5, .inl v5)] [.inl t1, .inr t0] σ 0 0 (PV K) := by
  obtain ⟨g1, h⟩ := h
  obtain ⟨z2, h⟩ := h
  refine gw_pZ fX12_365 dX12_suspect_90 z2 g1 (fun σ3 e3 => ?_)
  replace h := h σ3 e3
  refine gw_aload_n (q := 0) dX12_suspect_93 rfl rfl ?_
  refine gw_aload_n (q := 0) dX12_suspect_94 rfl rfl ?_
  obtain ⟨g4, h⟩ := h
  refine gw_gI fX12_365 dX12_suspect_95 g4 ?_
  refine gw_if_eq (tgt := 105) dX12_suspect_98 (by decide) (fun c5 => ?_) (fun c5 => ?_)
  · replace h := h.1 c5
    refine gw_iconst (v := 0) dX12_suspect_105 ic_0 ?_
    refine gw_pI fX12_369 dX12_suspect_106 g4 (fun σ6 e6 => ?_)
    replace h := h σ6 e6
    refine gw_aload_n (q := 0) dX12_suspect_109 rfl rfl ?_
    refine gw_iconst (v := 0) dX12_suspect_110 ic_0 ?_
    refine gw_pI fX12_372 dX12_suspect_111 (g4.up (n_w1 e6)) (fun σ7 e7 => ?_)
    replace h := h σ7 e7
    refine gw_iconst (v := 0) dX12_suspect_114 ic_0 ?_
    refine gw_istore (lo' := [(0, .inr v0), (1, .inl v1), (2, .inl v2), (3, .inl v3), (4, .inl v4), (5, .inl v5), (6, .inl 0)]) dX12_suspect_115 (by decide) rfl ?_
    exact h
  · replace h := h.2 c5
    refine gw_iconst (v := 1) dX12_suspect_101 ic_1 ?_
    refine gw_goto (tgt := 106) dX12_suspect_102 (by decide) ?_
    refine gw_pI fX12_369 dX12_suspect_106 g4 (fun σ8 e8 => ?_)
    replace h := h σ8 e8
    refine gw_aload_n (q := 0) dX12_suspect_109 rfl rfl ?_
    refine gw_iconst (v := 0) dX12_suspect_110 ic_0 ?_
    refine gw_pI fX12_372 dX12_suspect_111 (g4.up (n_w1 e8)) (fun σ9 e9 => ?_)
    replace h := h σ9 e9
    refine gw_iconst (v := 0) dX12_suspect_114 ic_0 ?_
    refine gw_istore (lo' := [(0, .inr v0), (1, .inl v1), (2, .inl v2), (3, .inl v3), (4, .inl v4), (5, .inl v5), (6, .inl 0)]) dX12_suspect_115 (by decide) rfl ?_
    exact h
set_option maxHeartbeats 4000000 in
set_option maxRecDepth 20000 in
theorem eX12_suspect {l : Launch} {v0 : Nat} {v1 : Int32} {v2 : Int32} {v3 : Int32} {σ : Sg} {K : Sg → Prop} (h : Ob σ v0 12 ∧ Ai σ (σ.2.2 v0 17) v1 ∧ Con l mX12_empties [.inr (σ.2.2 v0 55)] σ (PV (fun σ3 => Ai σ3 (σ3.2.2 v0 18) v1 ∧ Ai σ3 (σ3.2.2 v0 12) (σ.2.1 (σ.2.2 v0 17) v1.toNatClampNeg) ∧ Ai σ3 (σ3.2.2 v0 13) (σ.2.1 (σ.2.2 v0 17) v1.toNatClampNeg) ∧ Ai σ3 (σ3.2.2 v0 14) (σ.2.1 (σ.2.2 v0 17) v1.toNatClampNeg) ∧ Ai σ3 (σ3.2.2 v0 15) (σ.2.1 (σ.2.2 v0 17) v1.toNatClampNeg) ∧ Con l mX12_lays [.inr v0, .inr (σ3.2.2 v0 55), .inl v1, .inl 0, .inl ((σ3.2.1 (σ3.2.2 v0 18) v1.toNatClampNeg) - 1), .inl v2, .inl v3, .inl (σ3.2.1 (σ3.2.2 v0 12) (σ.2.1 (σ.2.2 v0 17) v1.toNatClampNeg).toNatClampNeg), .inl (σ3.2.1 (σ3.2.2 v0 13) (σ.2.1 (σ.2.2 v0 17) v1.toNatClampNeg).toNatClampNeg), .inl (σ3.2.1 (σ3.2.2 v0 14) (σ.2.1 (σ.2.2 v0 17) v1.toNatClampNeg).toNatClampNeg), .inl (σ3.2.1 (σ3.2.2 v0 15) (σ.2.1 (σ.2.2 v0 17) v1.toNatClampNeg).toNatClampNeg)] σ3 (PI (fun x9 σ9 => ((x9 < 0 → GW l mX12_suspect 90 [(0, .inr v0), (1, .inl v1), (2, .inl v2), (3, .inl v3), (4, .inl (σ.2.1 (σ.2.2 v0 17) v1.toNatClampNeg)), (5, .inl x9)] [.inl 0, .inr v0] σ9 0 0 (PV K)) ∧ (¬ x9 < 0 → Con l mX12_isAlike [.inr v0, .inl v1, .inl v2, .inl v3, .inl 0, .inl 0, .inl 0, .inl 0] σ9 (PI (fun x11 σ11 => ((x11 = 0 → GW l mX12_suspect 90 [(0, .inr v0), (1, .inl v1), (2, .inl v2), (3, .inl v3), (4, .inl (σ.2.1 (σ.2.2 v0 17) v1.toNatClampNeg)), (5, .inl x9)] [.inl 0, .inr v0] σ11 0 0 (PV K)) ∧ (¬ x11 = 0 → GW l mX12_suspect 90 [(0, .inr v0), (1, .inl v1), (2, .inl v2), (3, .inl v3), (4, .inl (σ.2.1 (σ.2.2 v0 17) v1.toNatClampNeg)), (5, .inl x9)] [.inl 1, .inr v0] σ11 0 0 (PV K)))))))))))) : Con l mX12_suspect [.inr v0, .inl v1, .inl v2, .inl v3] σ (PV K) := by
  refine con_gw rfl (Nat.le_of_ble_eq_true rfl) ?_
  show GW l mX12_suspect 0 [(0, .inr v0), (1, .inl v1), (2, .inl v2), (3, .inl v3)] [] σ 0 0 (PV K)
  refine gw_aload_n (q := 0) dX12_suspect_0 rfl rfl ?_
  obtain ⟨g1, h⟩ := h
  refine gw_gR fX12_51 dX12_suspect_1 g1 ?_
  refine gw_iload_n (q := 1) dX12_suspect_4 rfl rfl ?_
  obtain ⟨g2, h⟩ := h
  refine gw_aI dX12_suspect_5 g2 ?_
  refine gw_istore (lo' := [(0, .inr v0), (1, .inl v1), (2, .inl v2), (3, .inl v3), (4, .inl (σ.2.1 (σ.2.2 v0 17) v1.toNatClampNeg))]) dX12_suspect_6 (by decide) rfl ?_
  refine gw_aload_n (q := 0) dX12_suspect_8 rfl rfl ?_
  refine gw_gR fX12_123 dX12_suspect_9 g1 ?_
  refine gw_sC (bs := [.inr (σ.2.2 v0 55)]) (st := []) smX12_empties lX12_306 dX12_suspect_12 ⟨by decide, rfl, rfl, by decide, by decide⟩ (Nat.le_of_ble_eq_true rfl) rfl rfl h (kV (fun σ3 h n3 => ?_))
  refine gw_aload_n (q := 0) dX12_suspect_15 rfl rfl ?_
  refine gw_aload_n (q := 0) dX12_suspect_16 rfl rfl ?_
  refine gw_gR fX12_123 dX12_suspect_17 (g1.up n3) ?_
  refine gw_iload_n (q := 1) dX12_suspect_20 rfl rfl ?_
  refine gw_iconst (v := 0) dX12_suspect_21 ic_0 ?_
  refine gw_aload_n (q := 0) dX12_suspect_22 rfl rfl ?_
  refine gw_gR fX12_54 dX12_suspect_23 (g1.up n3) ?_
  refine gw_iload_n (q := 1) dX12_suspect_26 rfl rfl ?_
  obtain ⟨g4, h⟩ := h
  refine gw_aI dX12_suspect_27 g4 ?_
  refine gw_iconst (v := 1) dX12_suspect_28 ic_1 ?_
  refine gw_isub dX12_suspect_29 ?_
  refine gw_iload_n (q := 2) dX12_suspect_30 rfl rfl ?_
  refine gw_iload_n (q := 3) dX12_suspect_31 rfl rfl ?_
  refine gw_aload_n (q := 0) dX12_suspect_32 rfl rfl ?_
  refine gw_gR fX12_39 dX12_suspect_33 (g1.up n3) ?_
  refine gw_iload (q := 4) dX12_suspect_36 rfl ?_
  obtain ⟨g5, h⟩ := h
  refine gw_aI dX12_suspect_38 g5 ?_
  refine gw_aload_n (q := 0) dX12_suspect_39 rfl rfl ?_
  refine gw_gR fX12_42 dX12_suspect_40 (g1.up n3) ?_
  refine gw_iload (q := 4) dX12_suspect_43 rfl ?_
  obtain ⟨g6, h⟩ := h
  refine gw_aI dX12_suspect_45 g6 ?_
  refine gw_aload_n (q := 0) dX12_suspect_46 rfl rfl ?_
  refine gw_gR fX12_45 dX12_suspect_47 (g1.up n3) ?_
  refine gw_iload (q := 4) dX12_suspect_50 rfl ?_
  obtain ⟨g7, h⟩ := h
  refine gw_aI dX12_suspect_52 g7 ?_
  refine gw_aload_n (q := 0) dX12_suspect_53 rfl rfl ?_
  refine gw_gR fX12_48 dX12_suspect_54 (g1.up n3) ?_
  refine gw_iload (q := 4) dX12_suspect_57 rfl ?_
  obtain ⟨g8, h⟩ := h
  refine gw_aI dX12_suspect_59 g8 ?_
  refine gw_vC (bs := [.inr (σ3.2.2 v0 55), .inl v1, .inl 0, .inl ((σ3.2.1 (σ3.2.2 v0 18) v1.toNatClampNeg) - 1), .inl v2, .inl v3, .inl (σ3.2.1 (σ3.2.2 v0 12) (σ.2.1 (σ.2.2 v0 17) v1.toNatClampNeg).toNatClampNeg), .inl (σ3.2.1 (σ3.2.2 v0 13) (σ.2.1 (σ.2.2 v0 17) v1.toNatClampNeg).toNatClampNeg), .inl (σ3.2.1 (σ3.2.2 v0 14) (σ.2.1 (σ.2.2 v0 17) v1.toNatClampNeg).toNatClampNeg), .inl (σ3.2.1 (σ3.2.2 v0 15) (σ.2.1 (σ.2.2 v0 17) v1.toNatClampNeg).toNatClampNeg)]) (st := []) (vmX12_lays) lX12_299 dX12_suspect_60 ⟨by decide, rfl, rfl, by decide, by decide⟩ (Nat.le_of_ble_eq_true rfl) rfl rfl (g1.up n3) h (kI (fun x9 σ9 h n9 => ?_))
  refine gw_istore (lo' := [(0, .inr v0), (1, .inl v1), (2, .inl v2), (3, .inl v3), (4, .inl (σ.2.1 (σ.2.2 v0 17) v1.toNatClampNeg)), (5, .inl x9)]) dX12_suspect_63 (by decide) rfl ?_
  refine gw_aload_n (q := 0) dX12_suspect_65 rfl rfl ?_
  refine gw_iload (q := 5) dX12_suspect_66 rfl ?_
  refine gw_if_lt (tgt := 89) dX12_suspect_68 (by decide) (fun c10 => ?_) (fun c10 => ?_)
  · replace h := h.1 c10
    refine gw_iconst (v := 0) dX12_suspect_89 ic_0 ?_
    exact h
  · replace h := h.2 c10
    refine gw_aload_n (q := 0) dX12_suspect_71 rfl rfl ?_
    refine gw_iload_n (q := 1) dX12_suspect_72 rfl rfl ?_
    refine gw_iload_n (q := 2) dX12_suspect_73 rfl rfl ?_
    refine gw_iload_n (q := 3) dX12_suspect_74 rfl rfl ?_
    refine gw_iconst (v := 0) dX12_suspect_75 ic_0 ?_
    refine gw_iconst (v := 0) dX12_suspect_76 ic_0 ?_
    refine gw_iconst (v := 0) dX12_suspect_77 ic_0 ?_
    refine gw_iconst (v := 0) dX12_suspect_78 ic_0 ?_
    refine gw_vC (bs := [.inl v1, .inl v2, .inl v3, .inl 0, .inl 0, .inl 0, .inl 0]) (st := [.inr v0]) (vmX12_isAlike) lX12_361 dX12_suspect_79 ⟨by decide, rfl, rfl, by decide, by decide⟩ (Nat.le_of_ble_eq_true rfl) rfl rfl ((g1.up n3).up n9) h (kI (fun x11 σ11 h n11 => ?_))
    refine gw_if_eq (tgt := 89) dX12_suspect_82 (by decide) (fun c12 => ?_) (fun c12 => ?_)
    · replace h := h.1 c12
      refine gw_iconst (v := 0) dX12_suspect_89 ic_0 ?_
      exact h
    · replace h := h.2 c12
      refine gw_iconst (v := 1) dX12_suspect_85 ic_1 ?_
      refine gw_goto (tgt := 90) dX12_suspect_86 (by decide) ?_
      exact h
set_option maxHeartbeats 4000000 in
set_option maxRecDepth 20000 in
theorem gX12_suspects_84 {l : Launch} {v0 : Nat} {v1 : Int32} {v2 : Int32} {v3 : Int32} {v4 : Int32} {t0 : Int32} {σ : Sg} {K : Int32 → Sg → Prop} (h : Ob σ v0 12 ∧ ((v4.toInt < 0 ∨ 4 < v4.toInt → ((t0 = 0 → K (-1) σ) ∧ (¬ t0 = 0 → Ai σ (σ.2.2 v0 61) ((σ.2.1 v0 58) / 2) ∧ K (σ.2.1 (σ.2.2 v0 61) ((σ.2.1 v0 58) / 2).toNatClampNeg) σ))) ∧ (v4.toInt = 0 → K (σ.2.1 v0 57) σ) ∧ (v4.toInt = 1 → K (σ.2.1 v0 58) σ) ∧ (v4.toInt = 2 → (((σ.2.1 v0 59) = 0 → K 0 σ) ∧ (¬ (σ.2.1 v0 59) = 0 → K 1 σ))) ∧ (v4.toInt = 3 → ((t0 = 0 → K (-1) σ) ∧ (¬ t0 = 0 → K ((σ.2.1 v0 58) / 2) σ))) ∧ (v4.toInt = 4 → ((t0 = 0 → K (-1) σ) ∧ (¬ t0 = 0 → Ai σ (σ.2.2 v0 60) ((σ.2.1 v0 58) / 2) ∧ K (σ.2.1 (σ.2.2 v0 60) ((σ.2.1 v0 58) / 2).toNatClampNeg) σ))))) : GW l mX12_suspects 84 [(0, .inr v0), (1, .inl v1), (2, .inl v2), (3, .inl v3), (4, .inl v4)] [.inl t0] σ 0 0 (PI K) := by
  refine gw_istore (lo' := [(0, .inr v0), (1, .inl v1), (2, .inl v2), (3, .inl v3), (4, .inl v4), (5, .inl t0)]) dX12_suspects_84 (by decide) rfl ?_
  refine gw_aload_n (q := 0) dX12_suspects_86 rfl rfl ?_
  obtain ⟨g1, h⟩ := h
  refine gw_gI fX12_372 dX12_suspects_87 g1 ?_
  refine gw_iconst (v := 2) dX12_suspects_90 ic_2 ?_
  refine gw_idiv dX12_suspects_91 (by decide) ?_
  refine gw_istore (lo' := [(0, .inr v0), (1, .inl v1), (2, .inl v2), (3, .inl v3), (4, .inl v4), (5, .inl t0), (6, .inl ((σ.2.1 v0 58) / 2))]) dX12_suspects_92 (by decide) rfl ?_
  refine gw_iload (q := 4) dX12_suspects_94 rfl ?_
  refine gw_tab dX12_suspects_96 rfl (fun c => ?_) (fun k hk hx => ?_)
  · refine ⟨184, by decide, ?_⟩
    replace h := h.1 c
    refine gw_iload (q := 5) dX12_suspects_184 rfl ?_
    refine gw_if_eq (tgt := 199) dX12_suspects_186 (by decide) (fun c2 => ?_) (fun c2 => ?_)
    · replace h := h.1 c2
      refine gw_iconst (v := (-1)) dX12_suspects_199 ic_m1 ?_
      exact gw_rI dX12_suspects_200 rfl (by decide) (by decide) h
    · replace h := h.2 c2
      refine gw_aload_n (q := 0) dX12_suspects_189 rfl rfl ?_
      refine gw_gR fX12_132 dX12_suspects_190 g1 ?_
      refine gw_iload (q := 6) dX12_suspects_193 rfl ?_
      obtain ⟨g3, h⟩ := h
      refine gw_aI dX12_suspects_195 g3 ?_
      refine gw_goto (tgt := 200) dX12_suspects_196 (by decide) ?_
      exact gw_rI dX12_suspects_200 rfl (by decide) (by decide) h
  · match k, hk, hx with
    | 0, _, hx =>
      refine ⟨36, 132, rfl, by decide, ?_⟩
      replace h := h.2.1 hx
      refine gw_aload_n (q := 0) dX12_suspects_132 rfl rfl ?_
      refine gw_gI fX12_369 dX12_suspects_133 g1 ?_
      exact gw_rI dX12_suspects_136 rfl (by decide) (by decide) h
    | 1, _, hx =>
      refine ⟨41, 137, rfl, by decide, ?_⟩
      replace h := h.2.2.1 hx
      refine gw_aload_n (q := 0) dX12_suspects_137 rfl rfl ?_
      refine gw_gI fX12_372 dX12_suspects_138 g1 ?_
      exact gw_rI dX12_suspects_141 rfl (by decide) (by decide) h
    | 2, _, hx =>
      refine ⟨46, 142, rfl, by decide, ?_⟩
      replace h := h.2.2.2.1 hx
      refine gw_aload_n (q := 0) dX12_suspects_142 rfl rfl ?_
      refine gw_gI fX12_365 dX12_suspects_143 g1 ?_
      refine gw_if_eq (tgt := 153) dX12_suspects_146 (by decide) (fun c4 => ?_) (fun c4 => ?_)
      · replace h := h.1 c4
        refine gw_iconst (v := 0) dX12_suspects_153 ic_0 ?_
        exact gw_rI dX12_suspects_154 rfl (by decide) (by decide) h
      · replace h := h.2 c4
        refine gw_iconst (v := 1) dX12_suspects_149 ic_1 ?_
        refine gw_goto (tgt := 154) dX12_suspects_150 (by decide) ?_
        exact gw_rI dX12_suspects_154 rfl (by decide) (by decide) h
    | 3, _, hx =>
      refine ⟨59, 155, rfl, by decide, ?_⟩
      replace h := h.2.2.2.2.1 hx
      refine gw_iload (q := 5) dX12_suspects_155 rfl ?_
      refine gw_if_eq (tgt := 165) dX12_suspects_157 (by decide) (fun c5 => ?_) (fun c5 => ?_)
      · replace h := h.1 c5
        refine gw_iconst (v := (-1)) dX12_suspects_165 ic_m1 ?_
        exact gw_rI dX12_suspects_166 rfl (by decide) (by decide) h
      · replace h := h.2 c5
        refine gw_iload (q := 6) dX12_suspects_160 rfl ?_
        refine gw_goto (tgt := 166) dX12_suspects_162 (by decide) ?_
        exact gw_rI dX12_suspects_166 rfl (by decide) (by decide) h
    | 4, _, hx =>
      refine ⟨71, 167, rfl, by decide, ?_⟩
      replace h := h.2.2.2.2.2 hx
      refine gw_iload (q := 5) dX12_suspects_167 rfl ?_
      refine gw_if_eq (tgt := 182) dX12_suspects_169 (by decide) (fun c6 => ?_) (fun c6 => ?_)
      · replace h := h.1 c6
        refine gw_iconst (v := (-1)) dX12_suspects_182 ic_m1 ?_
        exact gw_rI dX12_suspects_183 rfl (by decide) (by decide) h
      · replace h := h.2 c6
        refine gw_aload_n (q := 0) dX12_suspects_172 rfl rfl ?_
        refine gw_gR fX12_129 dX12_suspects_173 g1 ?_
        refine gw_iload (q := 6) dX12_suspects_176 rfl ?_
        obtain ⟨g7, h⟩ := h
        refine gw_aI dX12_suspects_178 g7 ?_
        refine gw_goto (tgt := 183) dX12_suspects_179 (by decide) ?_
        exact gw_rI dX12_suspects_183 rfl (by decide) (by decide) h
    | k + 5, hk, _ => exact absurd hk (by simp)
set_option maxHeartbeats 4000000 in
set_option maxRecDepth 20000 in
theorem eX12_suspects {l : Launch} {v0 : Nat} {v1 : Int32} {v2 : Int32} {v3 : Int32} {v4 : Int32} {σ : Sg} {K : Int32 → Sg → Prop} (h : Ob σ v0 12 ∧ ∀ σ2, σ2 = w1 σ v0 0 0 → Con l mX12_isTape [.inr v0, .inl v1] σ2 (PI (fun x3 σ3 => ((x3 = 0 → K (-2) σ3) ∧ (¬ x3 = 0 → Con l mX12_isDrift [.inl v2] σ3 (PI (fun x5 σ5 => ((x5 = 0 → K (-2) σ5) ∧ (¬ x5 = 0 → Con l mX12_isOffset [.inl v3] σ5 (PI (fun x7 σ7 => ((x7 = 0 → K (-2) σ7) ∧ (¬ x7 = 0 → ((v4 < 0 → K (-2) σ7) ∧ (¬ v4 < 0 → ((v4 ≤ 5 → Con l mX12_suspect [.inr v0, .inl v1, .inl v2, .inl v3] σ7 (PV (fun σ11 => ((¬ (σ11.2.1 v0 59) = 0 → GW l mX12_suspects 84 [(0, .inr v0), (1, .inl v1), (2, .inl v2), (3, .inl v3), (4, .inl v4)] [.inl 0] σ11 0 0 (PI K)) ∧ ((σ11.2.1 v0 59) = 0 → (((σ11.2.1 v0 58) = 1 → GW l mX12_suspects 84 [(0, .inr v0), (1, .inl v1), (2, .inl v2), (3, .inl v3), (4, .inl v4)] [.inl 1] σ11 0 0 (PI K)) ∧ (¬ (σ11.2.1 v0 58) = 1 → (((σ11.2.1 v0 58) = 2 → GW l mX12_suspects 84 [(0, .inr v0), (1, .inl v1), (2, .inl v2), (3, .inl v3), (4, .inl v4)] [.inl 1] σ11 0 0 (PI K)) ∧ (¬ (σ11.2.1 v0 58) = 2 → ((¬ (σ11.2.1 v0 58) = 4 → GW l mX12_suspects 84 [(0, .inr v0), (1, .inl v1), (2, .inl v2), (3, .inl v3), (4, .inl v4)] [.inl 0] σ11 0 0 (PI K)) ∧ ((σ11.2.1 v0 58) = 4 → GW l mX12_suspects 84 [(0, .inr v0), (1, .inl v1), (2, .inl v2), (3, .inl v3), (4, .inl v4)] [.inl 1] σ11 0 0 (PI K)))))))))))) ∧ (¬ v4 ≤ 5 → K (-2) σ7))))))))))))))))) : Con l mX12_suspects [.inr v0, .inl v1, .inl v2, .inl v3, .inl v4] σ (PI K) := by
  refine con_gw rfl (Nat.le_of_ble_eq_true rfl) ?_
  show GW l mX12_suspects 0 [(0, .inr v0), (1, .inl v1), (2, .inl v2), (3, .inl v3), (4, .inl v4)] [] σ 0 0 (PI K)
  refine gw_aload_n (q := 0) dX12_suspects_0 rfl rfl ?_
  refine gw_iconst (v := 0) dX12_suspects_1 ic_0 ?_
  obtain ⟨g1, h⟩ := h
  refine gw_pI fX12_135 dX12_suspects_2 g1 (fun σ2 e2 => ?_)
  replace h := h σ2 e2
  refine gw_aload_n (q := 0) dX12_suspects_5 rfl rfl ?_
  refine gw_iload_n (q := 1) dX12_suspects_6 rfl rfl ?_
  refine gw_vC (bs := [.inl v1]) (st := []) (vmX12_isTape) lX12_181 dX12_suspects_7 ⟨by decide, rfl, rfl, by decide, by decide⟩ (Nat.le_of_ble_eq_true rfl) rfl rfl (g1.up (n_w1 e2)) h (kI (fun x3 σ3 h n3 => ?_))
  refine gw_if_eq (tgt := 38) dX12_suspects_10 (by decide) (fun c4 => ?_) (fun c4 => ?_)
  · replace h := h.1 c4
    refine gw_bipush (v := (-2)) dX12_suspects_38 bp_m2 ?_
    exact gw_rI dX12_suspects_40 rfl (by decide) (by decide) h
  · replace h := h.2 c4
    refine gw_iload_n (q := 2) dX12_suspects_13 rfl rfl ?_
    refine gw_sC (bs := [.inl v2]) (st := []) smX12_isDrift lX12_293 dX12_suspects_14 ⟨by decide, rfl, rfl, by decide, by decide⟩ (Nat.le_of_ble_eq_true rfl) rfl rfl h (kI (fun x5 σ5 h n5 => ?_))
    refine gw_if_eq (tgt := 38) dX12_suspects_17 (by decide) (fun c6 => ?_) (fun c6 => ?_)
    · replace h := h.1 c6
      refine gw_bipush (v := (-2)) dX12_suspects_38 bp_m2 ?_
      exact gw_rI dX12_suspects_40 rfl (by decide) (by decide) h
    · replace h := h.2 c6
      refine gw_iload_n (q := 3) dX12_suspects_20 rfl rfl ?_
      refine gw_sC (bs := [.inl v3]) (st := []) smX12_isOffset lX12_296 dX12_suspects_21 ⟨by decide, rfl, rfl, by decide, by decide⟩ (Nat.le_of_ble_eq_true rfl) rfl rfl h (kI (fun x7 σ7 h n7 => ?_))
      refine gw_if_eq (tgt := 38) dX12_suspects_24 (by decide) (fun c8 => ?_) (fun c8 => ?_)
      · replace h := h.1 c8
        refine gw_bipush (v := (-2)) dX12_suspects_38 bp_m2 ?_
        exact gw_rI dX12_suspects_40 rfl (by decide) (by decide) h
      · replace h := h.2 c8
        refine gw_iload (q := 4) dX12_suspects_27 rfl ?_
        refine gw_if_lt (tgt := 38) dX12_suspects_29 (by decide) (fun c9 => ?_) (fun c9 => ?_)
        · replace h := h.1 c9
          refine gw_bipush (v := (-2)) dX12_suspects_38 bp_m2 ?_
          exact gw_rI dX12_suspects_40 rfl (by decide) (by decide) h
        · replace h := h.2 c9
          refine gw_iload (q := 4) dX12_suspects_32 rfl ?_
          refine gw_iconst (v := 5) dX12_suspects_34 ic_5 ?_
          refine gw_icmp_le (tgt := 41) dX12_suspects_35 (by decide) (fun c10 => ?_) (fun c10 => ?_)
          · replace h := h.1 c10
            refine gw_aload_n (q := 0) dX12_suspects_41 rfl rfl ?_
            refine gw_iload_n (q := 1) dX12_suspects_42 rfl rfl ?_
            refine gw_iload_n (q := 2) dX12_suspects_43 rfl rfl ?_
            refine gw_iload_n (q := 3) dX12_suspects_44 rfl rfl ?_
            refine gw_vC (bs := [.inl v1, .inl v2, .inl v3]) (st := []) (vmX12_suspect) lX12_375 dX12_suspects_45 ⟨by decide, rfl, rfl, by decide, by decide⟩ (Nat.le_of_ble_eq_true rfl) rfl rfl ((((g1.up (n_w1 e2)).up n3).up n5).up n7) h (kV (fun σ11 h n11 => ?_))
            refine gw_aload_n (q := 0) dX12_suspects_48 rfl rfl ?_
            refine gw_gI fX12_365 dX12_suspects_49 (((((g1.up (n_w1 e2)).up n3).up n5).up n7).up n11) ?_
            refine gw_if_ne (tgt := 83) dX12_suspects_52 (by decide) (fun c12 => ?_) (fun c12 => ?_)
            · replace h := h.1 c12
              refine gw_iconst (v := 0) dX12_suspects_83 ic_0 ?_
              exact h
            · replace h := h.2 c12
              refine gw_aload_n (q := 0) dX12_suspects_55 rfl rfl ?_
              refine gw_gI fX12_372 dX12_suspects_56 (((((g1.up (n_w1 e2)).up n3).up n5).up n7).up n11) ?_
              refine gw_iconst (v := 1) dX12_suspects_59 ic_1 ?_
              refine gw_icmp_eq (tgt := 79) dX12_suspects_60 (by decide) (fun c13 => ?_) (fun c13 => ?_)
              · replace h := h.1 c13
                refine gw_iconst (v := 1) dX12_suspects_79 ic_1 ?_
                refine gw_goto (tgt := 84) dX12_suspects_80 (by decide) ?_
                exact h
              · replace h := h.2 c13
                refine gw_aload_n (q := 0) dX12_suspects_63 rfl rfl ?_
                refine gw_gI fX12_372 dX12_suspects_64 (((((g1.up (n_w1 e2)).up n3).up n5).up n7).up n11) ?_
                refine gw_iconst (v := 2) dX12_suspects_67 ic_2 ?_
                refine gw_icmp_eq (tgt := 79) dX12_suspects_68 (by decide) (fun c14 => ?_) (fun c14 => ?_)
                · replace h := h.1 c14
                  refine gw_iconst (v := 1) dX12_suspects_79 ic_1 ?_
                  refine gw_goto (tgt := 84) dX12_suspects_80 (by decide) ?_
                  exact h
                · replace h := h.2 c14
                  refine gw_aload_n (q := 0) dX12_suspects_71 rfl rfl ?_
                  refine gw_gI fX12_372 dX12_suspects_72 (((((g1.up (n_w1 e2)).up n3).up n5).up n7).up n11) ?_
                  refine gw_iconst (v := 4) dX12_suspects_75 ic_4 ?_
                  refine gw_icmp_ne (tgt := 83) dX12_suspects_76 (by decide) (fun c15 => ?_) (fun c15 => ?_)
                  · replace h := h.1 c15
                    refine gw_iconst (v := 0) dX12_suspects_83 ic_0 ?_
                    exact h
                  · replace h := h.2 c15
                    refine gw_iconst (v := 1) dX12_suspects_79 ic_1 ?_
                    refine gw_goto (tgt := 84) dX12_suspects_80 (by decide) ?_
                    exact h
          · replace h := h.2 c10
            refine gw_bipush (v := (-2)) dX12_suspects_38 bp_m2 ?_
            exact gw_rI dX12_suspects_40 rfl (by decide) (by decide) h
