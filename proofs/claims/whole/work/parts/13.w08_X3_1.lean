set_option maxHeartbeats 4000000 in
set_option maxRecDepth 20000 in
theorem gX3_seekNear_82 {l : Launch} {v0 : Nat} {v1 : Int32} {v2 : Int32} {v3 : Int32} {v4 : Int32} {v5 : Int32} {v6 : Int32} {v7 : Int32} {v8 : Int32} {v9 : Int32} {v10 : Int32} {σ : Sg} {K : Sg → Prop} (h : ((v6 < v10 → GW l mX3_seekNear 58 [(0, .inr v0), (1, .inl v1), (2, .inl v2), (3, .inl v3), (4, .inl v4), (5, .inl v5), (6, .inl v6), (7, .inl v7), (8, .inl (v8 + 1))] [] σ 0 0 (PV K)) ∧ (¬ v6 < v10 → Con l mX11_placeOf [.inl v2, .inl 1] σ (PI (fun x2 σ2 => Con l mJ9_abs_0f7a4 [.inl (v10 - x2)] σ2 (PI (fun x3 σ3 => Ob σ3 v0 3 ∧ (((σ3.2.1 v0 15) ≤ (v9 + x3) → GW l mX3_seekNear 82 [(0, .inr v0), (1, .inl v1), (2, .inl v2), (3, .inl v3), (4, .inl v4), (5, .inl v5), (6, .inl v6), (7, .inl v7), (8, .inl v8), (9, .inl v9), (10, .inl (v10 + 1))] [] σ3 0 0 (PV K)) ∧ (¬ (σ3.2.1 v0 15) ≤ (v9 + x3) → Con l mX3_seekInRow [.inr v0, .inl v1, .inl v2, .inl ((16 * v10) + (256 * v8)), .inl (v9 + x3), .inl v3, .inl v4] σ3 (PV (fun σ6 => GW l mX3_seekNear 82 [(0, .inr v0), (1, .inl v1), (2, .inl v2), (3, .inl v3), (4, .inl v4), (5, .inl v5), (6, .inl v6), (7, .inl v7), (8, .inl v8), (9, .inl v9), (10, .inl (v10 + 1))] [] σ6 0 0 (PV K)))))))))))) : GW l mX3_seekNear 82 [(0, .inr v0), (1, .inl v1), (2, .inl v2), (3, .inl v3), (4, .inl v4), (5, .inl v5), (6, .inl v6), (7, .inl v7), (8, .inl v8), (9, .inl v9), (10, .inl v10)] [] σ 0 0 (PV K) := by
  refine gw_iload (q := 10) dX3_seekNear_82 rfl ?_
  refine gw_iload (q := 6) dX3_seekNear_84 rfl ?_
  refine gw_icmp_gt (tgt := 143) dX3_seekNear_86 (by decide) (fun c1 => ?_) (fun c1 => ?_)
  · replace h := h.1 c1
    refine gw_inc (lo' := [(0, .inr v0), (1, .inl v1), (2, .inl v2), (3, .inl v3), (4, .inl v4), (5, .inl v5), (6, .inl v6), (7, .inl v7), (8, .inl (v8 + 1)), (9, .inl v9), (10, .inl v10)]) (q := 8) (c := 1) dX3_seekNear_143 ic_1 rfl (by decide) rfl ?_
    refine gw_goto (tgt := 58) dX3_seekNear_146 (by decide) ?_
    refine gw_pick [0, 1, 2, 3, 4, 5, 6, 7, 8] rfl ?_
    exact h
  · replace h := h.2 c1
    refine gw_iload (q := 9) dX3_seekNear_89 rfl ?_
    refine gw_iload (q := 10) dX3_seekNear_91 rfl ?_
    refine gw_iload_n (q := 2) dX3_seekNear_93 rfl rfl ?_
    refine gw_iconst (v := 1) dX3_seekNear_94 ic_1 ?_
    refine gw_sC (bs := [.inl v2, .inl 1]) (st := [.inl v10, .inl v9]) smX11_placeOf lX3_151 dX3_seekNear_95 ⟨by decide, rfl, rfl, by decide, by decide⟩ (Nat.le_of_ble_eq_true rfl) rfl rfl h (kI (fun x2 σ2 h n2 => ?_))
    refine gw_isub dX3_seekNear_98 ?_
    refine gw_sC (bs := [.inl (v10 - x2)]) (st := [.inl v9]) smJ9_abs_0f7a4 lX3_163 dX3_seekNear_99 ⟨by decide, rfl, rfl, by decide, by decide⟩ (Nat.le_of_ble_eq_true rfl) rfl rfl h (kI (fun x3 σ3 h n3 => ?_))
    refine gw_iadd dX3_seekNear_102 ?_
    refine gw_istore (lo' := [(0, .inr v0), (1, .inl v1), (2, .inl v2), (3, .inl v3), (4, .inl v4), (5, .inl v5), (6, .inl v6), (7, .inl v7), (8, .inl v8), (9, .inl v9), (10, .inl v10), (11, .inl (v9 + x3))]) dX3_seekNear_103 (by decide) rfl ?_
    refine gw_iload (q := 11) dX3_seekNear_105 rfl ?_
    refine gw_aload_n (q := 0) dX3_seekNear_107 rfl rfl ?_
    obtain ⟨g4, h⟩ := h
    refine gw_gI fX3_96 dX3_seekNear_108 g4 ?_
    refine gw_icmp_ge (tgt := 137) dX3_seekNear_111 (by decide) (fun c5 => ?_) (fun c5 => ?_)
    · replace h := h.1 c5
      refine gw_inc (lo' := [(0, .inr v0), (1, .inl v1), (2, .inl v2), (3, .inl v3), (4, .inl v4), (5, .inl v5), (6, .inl v6), (7, .inl v7), (8, .inl v8), (9, .inl v9), (10, .inl (v10 + 1)), (11, .inl (v9 + x3))]) (q := 10) (c := 1) dX3_seekNear_137 ic_1 rfl (by decide) rfl ?_
      refine gw_goto (tgt := 82) dX3_seekNear_140 (by decide) ?_
      refine gw_pick [0, 1, 2, 3, 4, 5, 6, 7, 8, 9, 10] rfl ?_
      exact h
    · replace h := h.2 c5
      refine gw_aload_n (q := 0) dX3_seekNear_114 rfl rfl ?_
      refine gw_iload_n (q := 1) dX3_seekNear_115 rfl rfl ?_
      refine gw_iload_n (q := 2) dX3_seekNear_116 rfl rfl ?_
      refine gw_bipush (v := 16) dX3_seekNear_117 bp_16 ?_
      refine gw_iload (q := 10) dX3_seekNear_119 rfl ?_
      refine gw_imul dX3_seekNear_121 ?_
      refine gw_sipush (v := 256) dX3_seekNear_122 sp_256 ?_
      refine gw_iload (q := 8) dX3_seekNear_125 rfl ?_
      refine gw_imul dX3_seekNear_127 ?_
      refine gw_iadd dX3_seekNear_128 ?_
      refine gw_iload (q := 11) dX3_seekNear_129 rfl ?_
      refine gw_iload_n (q := 3) dX3_seekNear_131 rfl rfl ?_
      refine gw_iload (q := 4) dX3_seekNear_132 rfl ?_
      refine gw_vC (bs := [.inl v1, .inl v2, .inl ((16 * v10) + (256 * v8)), .inl (v9 + x3), .inl v3, .inl v4]) (st := []) (vmX3_seekInRow) lX3_166 dX3_seekNear_134 ⟨by decide, rfl, rfl, by decide, by decide⟩ (Nat.le_of_ble_eq_true rfl) rfl rfl g4 h (kV (fun σ6 h n6 => ?_))
      refine gw_inc (lo' := [(0, .inr v0), (1, .inl v1), (2, .inl v2), (3, .inl v3), (4, .inl v4), (5, .inl v5), (6, .inl v6), (7, .inl v7), (8, .inl v8), (9, .inl v9), (10, .inl (v10 + 1)), (11, .inl (v9 + x3))]) (q := 10) (c := 1) dX3_seekNear_137 ic_1 rfl (by decide) rfl ?_
      refine gw_goto (tgt := 82) dX3_seekNear_140 (by decide) ?_
      refine gw_pick [0, 1, 2, 3, 4, 5, 6, 7, 8, 9, 10] rfl ?_
      exact h
set_option maxHeartbeats 4000000 in
set_option maxRecDepth 20000 in
theorem gX3_seekNear_58 {l : Launch} {v0 : Nat} {v1 : Int32} {v2 : Int32} {v3 : Int32} {v4 : Int32} {v5 : Int32} {v6 : Int32} {v7 : Int32} {v8 : Int32} {σ : Sg} {K : Sg → Prop} (h : ((v7 < v8 → K σ) ∧ (¬ v7 < v8 → Con l mX11_placeOf [.inl v2, .inl 2] σ (PI (fun x2 σ2 => Con l mJ9_abs_0f7a4 [.inl (v8 - x2)] σ2 (PI (fun x3 σ3 => GW l mX3_seekNear 82 [(0, .inr v0), (1, .inl v1), (2, .inl v2), (3, .inl v3), (4, .inl v4), (5, .inl v5), (6, .inl v6), (7, .inl v7), (8, .inl v8), (9, .inl x3), (10, .inl v5)] [] σ3 0 0 (PV K)))))))) : GW l mX3_seekNear 58 [(0, .inr v0), (1, .inl v1), (2, .inl v2), (3, .inl v3), (4, .inl v4), (5, .inl v5), (6, .inl v6), (7, .inl v7), (8, .inl v8)] [] σ 0 0 (PV K) := by
  refine gw_iload (q := 8) dX3_seekNear_58 rfl ?_
  refine gw_iload (q := 7) dX3_seekNear_60 rfl ?_
  refine gw_icmp_gt (tgt := 149) dX3_seekNear_62 (by decide) (fun c1 => ?_) (fun c1 => ?_)
  · replace h := h.1 c1
    exact gw_rV dX3_seekNear_149 rfl (by decide) (by decide) h
  · replace h := h.2 c1
    refine gw_iload (q := 8) dX3_seekNear_65 rfl ?_
    refine gw_iload_n (q := 2) dX3_seekNear_67 rfl rfl ?_
    refine gw_iconst (v := 2) dX3_seekNear_68 ic_2 ?_
    refine gw_sC (bs := [.inl v2, .inl 2]) (st := [.inl v8]) smX11_placeOf lX3_151 dX3_seekNear_69 ⟨by decide, rfl, rfl, by decide, by decide⟩ (Nat.le_of_ble_eq_true rfl) rfl rfl h (kI (fun x2 σ2 h n2 => ?_))
    refine gw_isub dX3_seekNear_72 ?_
    refine gw_sC (bs := [.inl (v8 - x2)]) (st := []) smJ9_abs_0f7a4 lX3_163 dX3_seekNear_73 ⟨by decide, rfl, rfl, by decide, by decide⟩ (Nat.le_of_ble_eq_true rfl) rfl rfl h (kI (fun x3 σ3 h n3 => ?_))
    refine gw_istore (lo' := [(0, .inr v0), (1, .inl v1), (2, .inl v2), (3, .inl v3), (4, .inl v4), (5, .inl v5), (6, .inl v6), (7, .inl v7), (8, .inl v8), (9, .inl x3)]) dX3_seekNear_76 (by decide) rfl ?_
    refine gw_iload (q := 5) dX3_seekNear_78 rfl ?_
    refine gw_istore (lo' := [(0, .inr v0), (1, .inl v1), (2, .inl v2), (3, .inl v3), (4, .inl v4), (5, .inl v5), (6, .inl v6), (7, .inl v7), (8, .inl v8), (9, .inl x3), (10, .inl v5)]) dX3_seekNear_80 (by decide) rfl ?_
    exact h
set_option maxHeartbeats 4000000 in
set_option maxRecDepth 20000 in
theorem eX3_seekNear {l : Launch} {v0 : Nat} {v1 : Int32} {v2 : Int32} {σ : Sg} {K : Sg → Prop} (h : Ob σ v0 3 ∧ ∀ σ2, σ2 = w1 σ v0 15 1000000 → ∀ σ3, σ3 = w1 σ2 v0 16 0 → Con l mX3_from [.inr v0, .inl v2, .inl 0] σ3 (PI (fun x4 σ4 => Con l mX3_upTo [.inr v0, .inl v2, .inl 0] σ4 (PI (fun x5 σ5 => Con l mX3_from [.inr v0, .inl v2, .inl 1] σ5 (PI (fun x6 σ6 => Con l mX3_upTo [.inr v0, .inl v2, .inl 1] σ6 (PI (fun x7 σ7 => Con l mX3_upTo [.inr v0, .inl v2, .inl 2] σ7 (PI (fun x8 σ8 => Con l mX3_from [.inr v0, .inl v2, .inl 2] σ8 (PI (fun x9 σ9 => GW l mX3_seekNear 58 [(0, .inr v0), (1, .inl v1), (2, .inl v2), (3, .inl x4), (4, .inl x5), (5, .inl x6), (6, .inl x7), (7, .inl x8), (8, .inl x9)] [] σ9 0 0 (PV K)))))))))))))) : Con l mX3_seekNear [.inr v0, .inl v1, .inl v2] σ (PV K) := by
  refine con_gw rfl (Nat.le_of_ble_eq_true rfl) ?_
  show GW l mX3_seekNear 0 [(0, .inr v0), (1, .inl v1), (2, .inl v2)] [] σ 0 0 (PV K)
  refine gw_aload_n (q := 0) dX3_seekNear_0 rfl rfl ?_
  refine gw_ldc (v := 1000000) kX3_134 dX3_seekNear_1 ?_
  obtain ⟨g1, h⟩ := h
  refine gw_pI fX3_96 dX3_seekNear_3 g1 (fun σ2 e2 => ?_)
  replace h := h σ2 e2
  refine gw_aload_n (q := 0) dX3_seekNear_6 rfl rfl ?_
  refine gw_iconst (v := 0) dX3_seekNear_7 ic_0 ?_
  refine gw_pI fX3_106 dX3_seekNear_8 (g1.up (n_w1 e2)) (fun σ3 e3 => ?_)
  replace h := h σ3 e3
  refine gw_aload_n (q := 0) dX3_seekNear_11 rfl rfl ?_
  refine gw_iload_n (q := 2) dX3_seekNear_12 rfl rfl ?_
  refine gw_iconst (v := 0) dX3_seekNear_13 ic_0 ?_
  refine gw_vC (bs := [.inl v2, .inl 0]) (st := []) (vmX3_from) lX3_157 dX3_seekNear_14 ⟨by decide, rfl, rfl, by decide, by decide⟩ (Nat.le_of_ble_eq_true rfl) rfl rfl ((g1.up (n_w1 e2)).up (n_w1 e3)) h (kI (fun x4 σ4 h n4 => ?_))
  refine gw_istore_n (lo' := [(0, .inr v0), (1, .inl v1), (2, .inl v2), (3, .inl x4)]) dX3_seekNear_17 rfl (by decide) rfl ?_
  refine gw_aload_n (q := 0) dX3_seekNear_18 rfl rfl ?_
  refine gw_iload_n (q := 2) dX3_seekNear_19 rfl rfl ?_
  refine gw_iconst (v := 0) dX3_seekNear_20 ic_0 ?_
  refine gw_vC (bs := [.inl v2, .inl 0]) (st := []) (vmX3_upTo) lX3_160 dX3_seekNear_21 ⟨by decide, rfl, rfl, by decide, by decide⟩ (Nat.le_of_ble_eq_true rfl) rfl rfl (((g1.up (n_w1 e2)).up (n_w1 e3)).up n4) h (kI (fun x5 σ5 h n5 => ?_))
  refine gw_istore (lo' := [(0, .inr v0), (1, .inl v1), (2, .inl v2), (3, .inl x4), (4, .inl x5)]) dX3_seekNear_24 (by decide) rfl ?_
  refine gw_aload_n (q := 0) dX3_seekNear_26 rfl rfl ?_
  refine gw_iload_n (q := 2) dX3_seekNear_27 rfl rfl ?_
  refine gw_iconst (v := 1) dX3_seekNear_28 ic_1 ?_
  refine gw_vC (bs := [.inl v2, .inl 1]) (st := []) (vmX3_from) lX3_157 dX3_seekNear_29 ⟨by decide, rfl, rfl, by decide, by decide⟩ (Nat.le_of_ble_eq_true rfl) rfl rfl ((((g1.up (n_w1 e2)).up (n_w1 e3)).up n4).up n5) h (kI (fun x6 σ6 h n6 => ?_))
  refine gw_istore (lo' := [(0, .inr v0), (1, .inl v1), (2, .inl v2), (3, .inl x4), (4, .inl x5), (5, .inl x6)]) dX3_seekNear_32 (by decide) rfl ?_
  refine gw_aload_n (q := 0) dX3_seekNear_34 rfl rfl ?_
  refine gw_iload_n (q := 2) dX3_seekNear_35 rfl rfl ?_
  refine gw_iconst (v := 1) dX3_seekNear_36 ic_1 ?_
  refine gw_vC (bs := [.inl v2, .inl 1]) (st := []) (vmX3_upTo) lX3_160 dX3_seekNear_37 ⟨by decide, rfl, rfl, by decide, by decide⟩ (Nat.le_of_ble_eq_true rfl) rfl rfl (((((g1.up (n_w1 e2)).up (n_w1 e3)).up n4).up n5).up n6) h (kI (fun x7 σ7 h n7 => ?_))
  refine gw_istore (lo' := [(0, .inr v0), (1, .inl v1), (2, .inl v2), (3, .inl x4), (4, .inl x5), (5, .inl x6), (6, .inl x7)]) dX3_seekNear_40 (by decide) rfl ?_
  refine gw_aload_n (q := 0) dX3_seekNear_42 rfl rfl ?_
  refine gw_iload_n (q := 2) dX3_seekNear_43 rfl rfl ?_
  refine gw_iconst (v := 2) dX3_seekNear_44 ic_2 ?_
  refine gw_vC (bs := [.inl v2, .inl 2]) (st := []) (vmX3_upTo) lX3_160 dX3_seekNear_45 ⟨by decide, rfl, rfl, by decide, by decide⟩ (Nat.le_of_ble_eq_true rfl) rfl rfl ((((((g1.up (n_w1 e2)).up (n_w1 e3)).up n4).up n5).up n6).up n7) h (kI (fun x8 σ8 h n8 => ?_))
  refine gw_istore (lo' := [(0, .inr v0), (1, .inl v1), (2, .inl v2), (3, .inl x4), (4, .inl x5), (5, .inl x6), (6, .inl x7), (7, .inl x8)]) dX3_seekNear_48 (by decide) rfl ?_
  refine gw_aload_n (q := 0) dX3_seekNear_50 rfl rfl ?_
  refine gw_iload_n (q := 2) dX3_seekNear_51 rfl rfl ?_
  refine gw_iconst (v := 2) dX3_seekNear_52 ic_2 ?_
  refine gw_vC (bs := [.inl v2, .inl 2]) (st := []) (vmX3_from) lX3_157 dX3_seekNear_53 ⟨by decide, rfl, rfl, by decide, by decide⟩ (Nat.le_of_ble_eq_true rfl) rfl rfl (((((((g1.up (n_w1 e2)).up (n_w1 e3)).up n4).up n5).up n6).up n7).up n8) h (kI (fun x9 σ9 h n9 => ?_))
  refine gw_istore (lo' := [(0, .inr v0), (1, .inl v1), (2, .inl v2), (3, .inl x4), (4, .inl x5), (5, .inl x6), (6, .inl x7), (7, .inl x8), (8, .inl x9)]) dX3_seekNear_56 (by decide) rfl ?_
  exact h
set_option maxHeartbeats 4000000 in
set_option maxRecDepth 20000 in
theorem gX3_seekInRow_75 {l : Launch} {v0 : Nat} {v1 : Int32} {v2 : Int32} {v3 : Int32} {v4 : Int32} {v5 : Int32} {v6 : Int32} {v7 : Int32} {v8 : Int32} {v9 : Int32} {t0 : Int32} {t1 : Int32} {σ : Sg} {K : Sg → Prop} (h : Ob σ v0 3 ∧ (((σ.2.1 v0 15) ≤ (t0 + t1) → GW l mX3_seekInRow 22 [(0, .inr v0), (1, .inl v1), (2, .inl v2), (3, .inl v3), (4, .inl v4), (5, .inl v5), (6, .inl v6), (7, .inl v7), (8, .inl (v8 + 1))] [] σ 0 0 (PV K)) ∧ (¬ (σ.2.1 v0 15) ≤ (t0 + t1) → ∀ σ3, σ3 = w1 σ v0 15 (t0 + t1) → ∀ σ4, σ4 = w1 σ3 v0 16 v9 → GW l mX3_seekInRow 22 [(0, .inr v0), (1, .inl v1), (2, .inl v2), (3, .inl v3), (4, .inl v4), (5, .inl v5), (6, .inl v6), (7, .inl v7), (8, .inl (v8 + 1))] [] σ4 0 0 (PV K)))) : GW l mX3_seekInRow 75 [(0, .inr v0), (1, .inl v1), (2, .inl v2), (3, .inl v3), (4, .inl v4), (5, .inl v5), (6, .inl v6), (7, .inl v7), (8, .inl v8), (9, .inl v9)] [.inl t1, .inl t0] σ 0 0 (PV K) := by
  refine gw_iadd dX3_seekInRow_75 ?_
  refine gw_istore (lo' := [(0, .inr v0), (1, .inl v1), (2, .inl v2), (3, .inl v3), (4, .inl v4), (5, .inl v5), (6, .inl v6), (7, .inl v7), (8, .inl v8), (9, .inl v9), (10, .inl (t0 + t1))]) dX3_seekInRow_76 (by decide) rfl ?_
  refine gw_iload (q := 10) dX3_seekInRow_78 rfl ?_
  refine gw_aload_n (q := 0) dX3_seekInRow_80 rfl rfl ?_
  obtain ⟨g1, h⟩ := h
  refine gw_gI fX3_96 dX3_seekInRow_81 g1 ?_
  refine gw_icmp_ge (tgt := 99) dX3_seekInRow_84 (by decide) (fun c2 => ?_) (fun c2 => ?_)
  · replace h := h.1 c2
    refine gw_inc (lo' := [(0, .inr v0), (1, .inl v1), (2, .inl v2), (3, .inl v3), (4, .inl v4), (5, .inl v5), (6, .inl v6), (7, .inl v7), (8, .inl (v8 + 1)), (9, .inl v9), (10, .inl (t0 + t1))]) (q := 8) (c := 1) dX3_seekInRow_99 ic_1 rfl (by decide) rfl ?_
    refine gw_goto (tgt := 22) dX3_seekInRow_102 (by decide) ?_
    refine gw_pick [0, 1, 2, 3, 4, 5, 6, 7, 8] rfl ?_
    exact h
  · replace h := h.2 c2
    refine gw_aload_n (q := 0) dX3_seekInRow_87 rfl rfl ?_
    refine gw_iload (q := 10) dX3_seekInRow_88 rfl ?_
    refine gw_pI fX3_96 dX3_seekInRow_90 g1 (fun σ3 e3 => ?_)
    replace h := h σ3 e3
    refine gw_aload_n (q := 0) dX3_seekInRow_93 rfl rfl ?_
    refine gw_iload (q := 9) dX3_seekInRow_94 rfl ?_
    refine gw_pI fX3_106 dX3_seekInRow_96 (g1.up (n_w1 e3)) (fun σ4 e4 => ?_)
    replace h := h σ4 e4
    refine gw_inc (lo' := [(0, .inr v0), (1, .inl v1), (2, .inl v2), (3, .inl v3), (4, .inl v4), (5, .inl v5), (6, .inl v6), (7, .inl v7), (8, .inl (v8 + 1)), (9, .inl v9), (10, .inl (t0 + t1))]) (q := 8) (c := 1) dX3_seekInRow_99 ic_1 rfl (by decide) rfl ?_
    refine gw_goto (tgt := 22) dX3_seekInRow_102 (by decide) ?_
    refine gw_pick [0, 1, 2, 3, 4, 5, 6, 7, 8] rfl ?_
    exact h
set_option maxHeartbeats 4000000 in
set_option maxRecDepth 20000 in
theorem gX3_seekInRow_22 {l : Launch} {v0 : Nat} {v1 : Int32} {v2 : Int32} {v3 : Int32} {v4 : Int32} {v5 : Int32} {v6 : Int32} {v7 : Int32} {v8 : Int32} {σ : Sg} {K : Sg → Prop} (h : ((v6 < v8 → K σ) ∧ (¬ v6 < v8 → Ob σ v0 3 ∧ Ai σ (σ.2.2 v0 0) ((v1 * 4096) + ((v3 + v8) &&& 4095)) ∧ ((v7 ≤ v8 → GW l mX3_seekInRow 75 [(0, .inr v0), (1, .inl v1), (2, .inl v2), (3, .inl v3), (4, .inl v4), (5, .inl v5), (6, .inl v6), (7, .inl v7), (8, .inl v8), (9, .inl ((v3 + v8) &&& 4095))] [.inl (v8 - v7), .inl ((σ.2.1 (σ.2.2 v0 0) ((v1 * 4096) + ((v3 + v8) &&& 4095)).toNatClampNeg) + v4)] σ 0 0 (PV K)) ∧ (¬ v7 ≤ v8 → GW l mX3_seekInRow 75 [(0, .inr v0), (1, .inl v1), (2, .inl v2), (3, .inl v3), (4, .inl v4), (5, .inl v5), (6, .inl v6), (7, .inl v7), (8, .inl v8), (9, .inl ((v3 + v8) &&& 4095))] [.inl (v7 - v8), .inl ((σ.2.1 (σ.2.2 v0 0) ((v1 * 4096) + ((v3 + v8) &&& 4095)).toNatClampNeg) + v4)] σ 0 0 (PV K)))))) : GW l mX3_seekInRow 22 [(0, .inr v0), (1, .inl v1), (2, .inl v2), (3, .inl v3), (4, .inl v4), (5, .inl v5), (6, .inl v6), (7, .inl v7), (8, .inl v8)] [] σ 0 0 (PV K) := by
  refine gw_iload (q := 8) dX3_seekInRow_22 rfl ?_
  refine gw_iload (q := 6) dX3_seekInRow_24 rfl ?_
  refine gw_icmp_gt (tgt := 105) dX3_seekInRow_26 (by decide) (fun c1 => ?_) (fun c1 => ?_)
  · replace h := h.1 c1
    exact gw_rV dX3_seekInRow_105 rfl (by decide) (by decide) h
  · replace h := h.2 c1
    refine gw_iload_n (q := 3) dX3_seekInRow_29 rfl rfl ?_
    refine gw_iload (q := 8) dX3_seekInRow_30 rfl ?_
    refine gw_iadd dX3_seekInRow_32 ?_
    refine gw_sipush (v := 4095) dX3_seekInRow_33 sp_4095 ?_
    refine gw_iand dX3_seekInRow_36 ?_
    refine gw_istore (lo' := [(0, .inr v0), (1, .inl v1), (2, .inl v2), (3, .inl v3), (4, .inl v4), (5, .inl v5), (6, .inl v6), (7, .inl v7), (8, .inl v8), (9, .inl ((v3 + v8) &&& 4095))]) dX3_seekInRow_37 (by decide) rfl ?_
    refine gw_aload_n (q := 0) dX3_seekInRow_39 rfl rfl ?_
    obtain ⟨g2, h⟩ := h
    refine gw_gR fX3_10 dX3_seekInRow_40 g2 ?_
    refine gw_iload_n (q := 1) dX3_seekInRow_43 rfl rfl ?_
    refine gw_sipush (v := 4096) dX3_seekInRow_44 sp_4096 ?_
    refine gw_imul dX3_seekInRow_47 ?_
    refine gw_iload (q := 9) dX3_seekInRow_48 rfl ?_
    refine gw_iadd dX3_seekInRow_50 ?_
    obtain ⟨g3, h⟩ := h
    refine gw_aI dX3_seekInRow_51 g3 ?_
    refine gw_iload (q := 4) dX3_seekInRow_52 rfl ?_
    refine gw_iadd dX3_seekInRow_54 ?_
    refine gw_iload (q := 8) dX3_seekInRow_55 rfl ?_
    refine gw_iload (q := 7) dX3_seekInRow_57 rfl ?_
    refine gw_icmp_ge (tgt := 70) dX3_seekInRow_59 (by decide) (fun c4 => ?_) (fun c4 => ?_)
    · replace h := h.1 c4
      refine gw_iload (q := 8) dX3_seekInRow_70 rfl ?_
      refine gw_iload (q := 7) dX3_seekInRow_72 rfl ?_
      refine gw_isub dX3_seekInRow_74 ?_
      exact h
    · replace h := h.2 c4
      refine gw_iload (q := 7) dX3_seekInRow_62 rfl ?_
      refine gw_iload (q := 8) dX3_seekInRow_64 rfl ?_
      refine gw_isub dX3_seekInRow_66 ?_
      refine gw_goto (tgt := 75) dX3_seekInRow_67 (by decide) ?_
      exact h
set_option maxHeartbeats 4000000 in
set_option maxRecDepth 20000 in
theorem eX3_seekInRow {l : Launch} {v0 : Nat} {v1 : Int32} {v2 : Int32} {v3 : Int32} {v4 : Int32} {v5 : Int32} {v6 : Int32} {σ : Sg} {K : Sg → Prop} (h : ((v1 < 0 → K σ) ∧ (¬ v1 < 0 → ((v1 < 40 → Con l mX11_placeOf [.inl v2, .inl 0] σ (PI (fun x3 σ3 => GW l mX3_seekInRow 22 [(0, .inr v0), (1, .inl v1), (2, .inl v2), (3, .inl v3), (4, .inl v4), (5, .inl v5), (6, .inl v6), (7, .inl x3), (8, .inl v5)] [] σ3 0 0 (PV K)))) ∧ (¬ v1 < 40 → K σ))))) : Con l mX3_seekInRow [.inr v0, .inl v1, .inl v2, .inl v3, .inl v4, .inl v5, .inl v6] σ (PV K) := by
  refine con_gw rfl (Nat.le_of_ble_eq_true rfl) ?_
  show GW l mX3_seekInRow 0 [(0, .inr v0), (1, .inl v1), (2, .inl v2), (3, .inl v3), (4, .inl v4), (5, .inl v5), (6, .inl v6)] [] σ 0 0 (PV K)
  refine gw_iload_n (q := 1) dX3_seekInRow_0 rfl rfl ?_
  refine gw_if_lt (tgt := 10) dX3_seekInRow_1 (by decide) (fun c1 => ?_) (fun c1 => ?_)
  · replace h := h.1 c1
    exact gw_rV dX3_seekInRow_10 rfl (by decide) (by decide) h
  · replace h := h.2 c1
    refine gw_iload_n (q := 1) dX3_seekInRow_4 rfl rfl ?_
    refine gw_bipush (v := 40) dX3_seekInRow_5 bp_40 ?_
    refine gw_icmp_lt (tgt := 11) dX3_seekInRow_7 (by decide) (fun c2 => ?_) (fun c2 => ?_)
    · replace h := h.1 c2
      refine gw_iload_n (q := 2) dX3_seekInRow_11 rfl rfl ?_
      refine gw_iconst (v := 0) dX3_seekInRow_12 ic_0 ?_
      refine gw_sC (bs := [.inl v2, .inl 0]) (st := []) smX11_placeOf lX3_151 dX3_seekInRow_13 ⟨by decide, rfl, rfl, by decide, by decide⟩ (Nat.le_of_ble_eq_true rfl) rfl rfl h (kI (fun x3 σ3 h n3 => ?_))
      refine gw_istore (lo' := [(0, .inr v0), (1, .inl v1), (2, .inl v2), (3, .inl v3), (4, .inl v4), (5, .inl v5), (6, .inl v6), (7, .inl x3)]) dX3_seekInRow_16 (by decide) rfl ?_
      refine gw_iload (q := 5) dX3_seekInRow_18 rfl ?_
      refine gw_istore (lo' := [(0, .inr v0), (1, .inl v1), (2, .inl v2), (3, .inl v3), (4, .inl v4), (5, .inl v5), (6, .inl v6), (7, .inl x3), (8, .inl v5)]) dX3_seekInRow_20 (by decide) rfl ?_
      exact h
    · replace h := h.2 c2
      exact gw_rV dX3_seekInRow_10 rfl (by decide) (by decide) h
set_option maxHeartbeats 4000000 in
set_option maxRecDepth 20000 in
theorem eX3_from {l : Launch} {v0 : Nat} {v1 : Int32} {v2 : Int32} {σ : Sg} {K : Int32 → Sg → Prop} (h : Ob σ v0 3 ∧ Ob σ (σ.2.2 v0 10) 0 ∧ Con l mX0_low [.inr (σ.2.2 v0 10), .inl v2] σ (PI (fun x2 σ2 => Con l mX11_placeOf [.inl v1, .inl v2] σ2 (PI (fun x4 σ4 => Ob σ4 (σ4.2.2 v0 10) 0 ∧ Con l mX0_speed [.inr (σ4.2.2 v0 10), .inl v2] σ4 (PI (fun x5 σ5 => Con l mJ9_max_7cf53 [.inl x2, .inl (x4 - x5)] σ5 (PI (fun x7 σ7 => K x7 σ7))))))))) : Con l mX3_from [.inr v0, .inl v1, .inl v2] σ (PI K) := by
  refine con_gw rfl (Nat.le_of_ble_eq_true rfl) ?_
  show GW l mX3_from 0 [(0, .inr v0), (1, .inl v1), (2, .inl v2)] [] σ 0 0 (PI K)
  refine gw_aload_n (q := 0) dX3_from_0 rfl rfl ?_
  obtain ⟨g1, h⟩ := h
  refine gw_gR fX3_46 dX3_from_1 g1 ?_
  refine gw_iload_n (q := 2) dX3_from_4 rfl rfl ?_
  obtain ⟨g3, h⟩ := h
  refine gw_vC (bs := [.inl v2]) (st := []) (vmX0_low) lX3_145 dX3_from_5 ⟨by decide, rfl, rfl, by decide, by decide⟩ (Nat.le_of_ble_eq_true rfl) rfl rfl g3 h (kI (fun x2 σ2 h n2 => ?_))
  refine gw_iload_n (q := 1) dX3_from_8 rfl rfl ?_
  refine gw_iload_n (q := 2) dX3_from_9 rfl rfl ?_
  refine gw_sC (bs := [.inl v1, .inl v2]) (st := [.inl x2]) smX11_placeOf lX3_151 dX3_from_10 ⟨by decide, rfl, rfl, by decide, by decide⟩ (Nat.le_of_ble_eq_true rfl) rfl rfl h (kI (fun x4 σ4 h n4 => ?_))
  refine gw_aload_n (q := 0) dX3_from_13 rfl rfl ?_
  refine gw_gR fX3_46 dX3_from_14 ((g1.up n2).up n4) ?_
  refine gw_iload_n (q := 2) dX3_from_17 rfl rfl ?_
  obtain ⟨g6, h⟩ := h
  refine gw_vC (bs := [.inl v2]) (st := [.inl x4, .inl x2]) (vmX0_speed) lX3_135 dX3_from_18 ⟨by decide, rfl, rfl, by decide, by decide⟩ (Nat.le_of_ble_eq_true rfl) rfl rfl g6 h (kI (fun x5 σ5 h n5 => ?_))
  refine gw_isub dX3_from_21 ?_
  refine gw_sC (bs := [.inl x2, .inl (x4 - x5)]) (st := []) smJ9_max_7cf53 lX3_154 dX3_from_22 ⟨by decide, rfl, rfl, by decide, by decide⟩ (Nat.le_of_ble_eq_true rfl) rfl rfl h (kI (fun x7 σ7 h n7 => ?_))
  exact gw_rI dX3_from_25 rfl (by decide) (by decide) h
set_option maxHeartbeats 4000000 in
set_option maxRecDepth 20000 in
theorem eX3_upTo {l : Launch} {v0 : Nat} {v1 : Int32} {v2 : Int32} {σ : Sg} {K : Int32 → Sg → Prop} (h : Ob σ v0 3 ∧ Ob σ (σ.2.2 v0 10) 0 ∧ Con l mX0_high [.inr (σ.2.2 v0 10), .inl v2] σ (PI (fun x2 σ2 => Con l mX11_placeOf [.inl v1, .inl v2] σ2 (PI (fun x4 σ4 => Ob σ4 (σ4.2.2 v0 10) 0 ∧ Con l mX0_speed [.inr (σ4.2.2 v0 10), .inl v2] σ4 (PI (fun x5 σ5 => Con l mJ9_min_7cf53 [.inl x2, .inl (x4 + x5)] σ5 (PI (fun x7 σ7 => K x7 σ7))))))))) : Con l mX3_upTo [.inr v0, .inl v1, .inl v2] σ (PI K) := by
  refine con_gw rfl (Nat.le_of_ble_eq_true rfl) ?_
  show GW l mX3_upTo 0 [(0, .inr v0), (1, .inl v1), (2, .inl v2)] [] σ 0 0 (PI K)
  refine gw_aload_n (q := 0) dX3_upTo_0 rfl rfl ?_
  obtain ⟨g1, h⟩ := h
  refine gw_gR fX3_46 dX3_upTo_1 g1 ?_
  refine gw_iload_n (q := 2) dX3_upTo_4 rfl rfl ?_
  obtain ⟨g3, h⟩ := h
  refine gw_vC (bs := [.inl v2]) (st := []) (vmX0_high) lX3_148 dX3_upTo_5 ⟨by decide, rfl, rfl, by decide, by decide⟩ (Nat.le_of_ble_eq_true rfl) rfl rfl g3 h (kI (fun x2 σ2 h n2 => ?_))
  refine gw_iload_n (q := 1) dX3_upTo_8 rfl rfl ?_
  refine gw_iload_n (q := 2) dX3_upTo_9 rfl rfl ?_
  refine gw_sC (bs := [.inl v1, .inl v2]) (st := [.inl x2]) smX11_placeOf lX3_151 dX3_upTo_10 ⟨by decide, rfl, rfl, by decide, by decide⟩ (Nat.le_of_ble_eq_true rfl) rfl rfl h (kI (fun x4 σ4 h n4 => ?_))
  refine gw_aload_n (q := 0) dX3_upTo_13 rfl rfl ?_
  refine gw_gR fX3_46 dX3_upTo_14 ((g1.up n2).up n4) ?_
  refine gw_iload_n (q := 2) dX3_upTo_17 rfl rfl ?_
  obtain ⟨g6, h⟩ := h
  refine gw_vC (bs := [.inl v2]) (st := [.inl x4, .inl x2]) (vmX0_speed) lX3_135 dX3_upTo_18 ⟨by decide, rfl, rfl, by decide, by decide⟩ (Nat.le_of_ble_eq_true rfl) rfl rfl g6 h (kI (fun x5 σ5 h n5 => ?_))
  refine gw_iadd dX3_upTo_21 ?_
  refine gw_sC (bs := [.inl x2, .inl (x4 + x5)]) (st := []) smJ9_min_7cf53 lX3_77 dX3_upTo_22 ⟨by decide, rfl, rfl, by decide, by decide⟩ (Nat.le_of_ble_eq_true rfl) rfl rfl h (kI (fun x7 σ7 h n7 => ?_))
  exact gw_rI dX3_upTo_25 rfl (by decide) (by decide) h
set_option maxHeartbeats 4000000 in
set_option maxRecDepth 20000 in
theorem gX3_seekStart_13 {l : Launch} {v0 : Nat} {v1 : Int32} {σ : Sg} {K : Sg → Prop} (h : Ob σ v0 3 ∧ (((σ.2.1 v0 13) ≤ v1 → K σ) ∧ (¬ (σ.2.1 v0 13) ≤ v1 → ((4096 ≤ v1 → K σ) ∧ (¬ 4096 ≤ v1 → Ai σ (σ.2.2 v0 4) v1 ∧ Con l mX3_wayAt [.inr v0, .inl 0, .inl (σ.2.1 (σ.2.2 v0 4) v1.toNatClampNeg)] σ (PI (fun x5 σ5 => (((σ5.2.1 v0 15) ≤ x5 → GW l mX3_seekStart 13 [(0, .inr v0), (1, .inl (v1 + 1))] [] σ5 0 0 (PV K)) ∧ (¬ (σ5.2.1 v0 15) ≤ x5 → ∀ σ7, σ7 = w1 σ5 v0 15 x5 → Ai σ7 (σ7.2.2 v0 4) v1 ∧ ∀ σ9, σ9 = w1 σ7 v0 16 (σ7.2.1 (σ7.2.2 v0 4) v1.toNatClampNeg) → GW l mX3_seekStart 13 [(0, .inr v0), (1, .inl (v1 + 1))] [] σ9 0 0 (PV K)))))))))) : GW l mX3_seekStart 13 [(0, .inr v0), (1, .inl v1)] [] σ 0 0 (PV K) := by
  refine gw_iload_n (q := 1) dX3_seekStart_13 rfl rfl ?_
  refine gw_aload_n (q := 0) dX3_seekStart_14 rfl rfl ?_
  obtain ⟨g1, h⟩ := h
  refine gw_gI fX3_127 dX3_seekStart_15 g1 ?_
  refine gw_icmp_ge (tgt := 69) dX3_seekStart_18 (by decide) (fun c2 => ?_) (fun c2 => ?_)
  · replace h := h.1 c2
    exact gw_rV dX3_seekStart_69 rfl (by decide) (by decide) h
  · replace h := h.2 c2
    refine gw_iload_n (q := 1) dX3_seekStart_21 rfl rfl ?_
    refine gw_sipush (v := 4096) dX3_seekStart_22 sp_4096 ?_
    refine gw_icmp_ge (tgt := 69) dX3_seekStart_25 (by decide) (fun c3 => ?_) (fun c3 => ?_)
    · replace h := h.1 c3
      exact gw_rV dX3_seekStart_69 rfl (by decide) (by decide) h
    · replace h := h.2 c3
      refine gw_aload_n (q := 0) dX3_seekStart_28 rfl rfl ?_
      refine gw_iconst (v := 0) dX3_seekStart_29 ic_0 ?_
      refine gw_aload_n (q := 0) dX3_seekStart_30 rfl rfl ?_
      refine gw_gR fX3_25 dX3_seekStart_31 g1 ?_
      refine gw_iload_n (q := 1) dX3_seekStart_34 rfl rfl ?_
      obtain ⟨g4, h⟩ := h
      refine gw_aI dX3_seekStart_35 g4 ?_
      refine gw_vC (bs := [.inl 0, .inl (σ.2.1 (σ.2.2 v0 4) v1.toNatClampNeg)]) (st := []) (vmX3_wayAt) lX3_138 dX3_seekStart_36 ⟨by decide, rfl, rfl, by decide, by decide⟩ (Nat.le_of_ble_eq_true rfl) rfl rfl g1 h (kI (fun x5 σ5 h n5 => ?_))
      refine gw_istore_n (lo' := [(0, .inr v0), (1, .inl v1), (2, .inl x5)]) dX3_seekStart_39 rfl (by decide) rfl ?_
      refine gw_iload_n (q := 2) dX3_seekStart_40 rfl rfl ?_
      refine gw_aload_n (q := 0) dX3_seekStart_41 rfl rfl ?_
      refine gw_gI fX3_96 dX3_seekStart_42 (g1.up n5) ?_
      refine gw_icmp_ge (tgt := 63) dX3_seekStart_45 (by decide) (fun c6 => ?_) (fun c6 => ?_)
      · replace h := h.1 c6
        refine gw_inc (lo' := [(0, .inr v0), (1, .inl (v1 + 1)), (2, .inl x5)]) (q := 1) (c := 1) dX3_seekStart_63 ic_1 rfl (by decide) rfl ?_
        refine gw_goto (tgt := 13) dX3_seekStart_66 (by decide) ?_
        refine gw_pick [0, 1] rfl ?_
        exact h
      · replace h := h.2 c6
        refine gw_aload_n (q := 0) dX3_seekStart_48 rfl rfl ?_
        refine gw_iload_n (q := 2) dX3_seekStart_49 rfl rfl ?_
        refine gw_pI fX3_96 dX3_seekStart_50 (g1.up n5) (fun σ7 e7 => ?_)
        replace h := h σ7 e7
        refine gw_aload_n (q := 0) dX3_seekStart_53 rfl rfl ?_
        refine gw_aload_n (q := 0) dX3_seekStart_54 rfl rfl ?_
        refine gw_gR fX3_25 dX3_seekStart_55 ((g1.up n5).up (n_w1 e7)) ?_
        refine gw_iload_n (q := 1) dX3_seekStart_58 rfl rfl ?_
        obtain ⟨g8, h⟩ := h
        refine gw_aI dX3_seekStart_59 g8 ?_
        refine gw_pI fX3_106 dX3_seekStart_60 ((g1.up n5).up (n_w1 e7)) (fun σ9 e9 => ?_)
        replace h := h σ9 e9
        refine gw_inc (lo' := [(0, .inr v0), (1, .inl (v1 + 1)), (2, .inl x5)]) (q := 1) (c := 1) dX3_seekStart_63 ic_1 rfl (by decide) rfl ?_
        refine gw_goto (tgt := 13) dX3_seekStart_66 (by decide) ?_
        refine gw_pick [0, 1] rfl ?_
        exact h
set_option maxHeartbeats 4000000 in
set_option maxRecDepth 20000 in
theorem eX3_seekStart {l : Launch} {v0 : Nat} {σ : Sg} {K : Sg → Prop} (h : Ob σ v0 3 ∧ ∀ σ2, σ2 = w1 σ v0 15 1000000 → ∀ σ3, σ3 = w1 σ2 v0 16 0 → GW l mX3_seekStart 13 [(0, .inr v0), (1, .inl 0)] [] σ3 0 0 (PV K)) : Con l mX3_seekStart [.inr v0] σ (PV K) := by
  refine con_gw rfl (Nat.le_of_ble_eq_true rfl) ?_
  show GW l mX3_seekStart 0 [(0, .inr v0)] [] σ 0 0 (PV K)
  refine gw_aload_n (q := 0) dX3_seekStart_0 rfl rfl ?_
  refine gw_ldc (v := 1000000) kX3_134 dX3_seekStart_1 ?_
  obtain ⟨g1, h⟩ := h
  refine gw_pI fX3_96 dX3_seekStart_3 g1 (fun σ2 e2 => ?_)
  replace h := h σ2 e2
  refine gw_aload_n (q := 0) dX3_seekStart_6 rfl rfl ?_
  refine gw_iconst (v := 0) dX3_seekStart_7 ic_0 ?_
  refine gw_pI fX3_106 dX3_seekStart_8 (g1.up (n_w1 e2)) (fun σ3 e3 => ?_)
  replace h := h σ3 e3
  refine gw_iconst (v := 0) dX3_seekStart_11 ic_0 ?_
  refine gw_istore_n (lo' := [(0, .inr v0), (1, .inl 0)]) dX3_seekStart_12 rfl (by decide) rfl ?_
  exact h
