set_option maxHeartbeats 4000000 in
set_option maxRecDepth 20000 in
theorem eX12_placeOf {l : Launch} {v0 : Int32} {v1 : Int32} {σ : Sg} {K : Int32 → Sg → Prop} (h : K ((v0 >>> ((4 * v1) &&& 31)) &&& 15) σ) : Con l mX12_placeOf [.inl v0, .inl v1] σ (PI K) := by
  refine con_gw rfl (Nat.le_of_ble_eq_true rfl) ?_
  show GW l mX12_placeOf 0 [(0, .inl v0), (1, .inl v1)] [] σ 0 0 (PI K)
  refine gw_iload_n (q := 0) dX12_placeOf_0 rfl rfl ?_
  refine gw_iconst (v := 4) dX12_placeOf_1 ic_4 ?_
  refine gw_iload_n (q := 1) dX12_placeOf_2 rfl rfl ?_
  refine gw_imul dX12_placeOf_3 ?_
  refine gw_ishr dX12_placeOf_4 ?_
  refine gw_bipush (v := 15) dX12_placeOf_5 bp_15 ?_
  refine gw_iand dX12_placeOf_7 ?_
  exact gw_rI dX12_placeOf_8 rfl (by decide) (by decide) h
set_option maxHeartbeats 4000000 in
set_option maxRecDepth 20000 in
theorem gX12_isPose_15 {l : Launch} {v0 : Nat} {v1 : Int32} {v2 : Int32} {v3 : Int32} {σ : Sg} {K : Int32 → Sg → Prop} (h : ((3 ≤ v3 → K 1 σ) ∧ (¬ 3 ≤ v3 → Con l mX12_placeOf [.inl v2, .inl v3] σ (PI (fun x2 σ2 => Ob σ2 v0 12 ∧ Ai σ2 (σ2.2.2 v0 7) v1 ∧ (((σ2.2.1 (σ2.2.2 v0 7) v1.toNatClampNeg) ≤ v3 → ((x2 = 0 → GW l mX12_isPose 15 [(0, .inr v0), (1, .inl v1), (2, .inl v2), (3, .inl (v3 + 1))] [] σ2 0 0 (PI K)) ∧ (¬ x2 = 0 → K 0 σ2))) ∧ (¬ (σ2.2.1 (σ2.2.2 v0 7) v1.toNatClampNeg) ≤ v3 → Ai σ2 (σ2.2.2 v0 9) ((3 * v1) + v3) ∧ ((x2 < (σ2.2.1 (σ2.2.2 v0 9) ((3 * v1) + v3).toNatClampNeg) → K 0 σ2) ∧ (¬ x2 < (σ2.2.1 (σ2.2.2 v0 9) ((3 * v1) + v3).toNatClampNeg) → Ai σ2 (σ2.2.2 v0 10) ((3 * v1) + v3) ∧ ((x2 ≤ (σ2.2.1 (σ2.2.2 v0 10) ((3 * v1) + v3).toNatClampNeg) → GW l mX12_isPose 15 [(0, .inr v0), (1, .inl v1), (2, .inl v2), (3, .inl (v3 + 1))] [] σ2 0 0 (PI K)) ∧ (¬ x2 ≤ (σ2.2.1 (σ2.2.2 v0 10) ((3 * v1) + v3).toNatClampNeg) → K 0 σ2))))))))))) : GW l mX12_isPose 15 [(0, .inr v0), (1, .inl v1), (2, .inl v2), (3, .inl v3)] [] σ 0 0 (PI K) := by
  refine gw_iload_n (q := 3) dX12_isPose_15 rfl rfl ?_
  refine gw_iconst (v := 3) dX12_isPose_16 ic_3 ?_
  refine gw_icmp_ge (tgt := 83) dX12_isPose_17 (by decide) (fun c1 => ?_) (fun c1 => ?_)
  · replace h := h.1 c1
    refine gw_iconst (v := 1) dX12_isPose_83 ic_1 ?_
    exact gw_rZ dX12_isPose_84 rfl (by decide) (by decide) (by decide) h
  · replace h := h.2 c1
    refine gw_iload_n (q := 2) dX12_isPose_20 rfl rfl ?_
    refine gw_iload_n (q := 3) dX12_isPose_21 rfl rfl ?_
    refine gw_sC (bs := [.inl v2, .inl v3]) (st := []) smX12_placeOf lX12_155 dX12_isPose_22 ⟨by decide, rfl, rfl, by decide, by decide⟩ (Nat.le_of_ble_eq_true rfl) rfl rfl h (kI (fun x2 σ2 h n2 => ?_))
    refine gw_istore (lo' := [(0, .inr v0), (1, .inl v1), (2, .inl v2), (3, .inl v3), (4, .inl x2)]) dX12_isPose_25 (by decide) rfl ?_
    refine gw_iload_n (q := 3) dX12_isPose_27 rfl rfl ?_
    refine gw_aload_n (q := 0) dX12_isPose_28 rfl rfl ?_
    obtain ⟨g3, h⟩ := h
    refine gw_gR fX12_24 dX12_isPose_29 g3 ?_
    refine gw_iload_n (q := 1) dX12_isPose_32 rfl rfl ?_
    obtain ⟨g4, h⟩ := h
    refine gw_aI dX12_isPose_33 g4 ?_
    refine gw_icmp_ge (tgt := 70) dX12_isPose_34 (by decide) (fun c5 => ?_) (fun c5 => ?_)
    · replace h := h.1 c5
      refine gw_iload (q := 4) dX12_isPose_70 rfl ?_
      refine gw_if_eq (tgt := 77) dX12_isPose_72 (by decide) (fun c6 => ?_) (fun c6 => ?_)
      · replace h := h.1 c6
        refine gw_inc (lo' := [(0, .inr v0), (1, .inl v1), (2, .inl v2), (3, .inl (v3 + 1)), (4, .inl x2)]) (q := 3) (c := 1) dX12_isPose_77 ic_1 rfl (by decide) rfl ?_
        refine gw_goto (tgt := 15) dX12_isPose_80 (by decide) ?_
        refine gw_pick [0, 1, 2, 3] rfl ?_
        exact h
      · replace h := h.2 c6
        refine gw_iconst (v := 0) dX12_isPose_75 ic_0 ?_
        exact gw_rZ dX12_isPose_76 rfl (by decide) (by decide) (by decide) h
    · replace h := h.2 c5
      refine gw_iload (q := 4) dX12_isPose_37 rfl ?_
      refine gw_aload_n (q := 0) dX12_isPose_39 rfl rfl ?_
      refine gw_gR fX12_30 dX12_isPose_40 g3 ?_
      refine gw_iconst (v := 3) dX12_isPose_43 ic_3 ?_
      refine gw_iload_n (q := 1) dX12_isPose_44 rfl rfl ?_
      refine gw_imul dX12_isPose_45 ?_
      refine gw_iload_n (q := 3) dX12_isPose_46 rfl rfl ?_
      refine gw_iadd dX12_isPose_47 ?_
      obtain ⟨g7, h⟩ := h
      refine gw_aI dX12_isPose_48 g7 ?_
      refine gw_icmp_lt (tgt := 75) dX12_isPose_49 (by decide) (fun c8 => ?_) (fun c8 => ?_)
      · replace h := h.1 c8
        refine gw_iconst (v := 0) dX12_isPose_75 ic_0 ?_
        exact gw_rZ dX12_isPose_76 rfl (by decide) (by decide) (by decide) h
      · replace h := h.2 c8
        refine gw_iload (q := 4) dX12_isPose_52 rfl ?_
        refine gw_aload_n (q := 0) dX12_isPose_54 rfl rfl ?_
        refine gw_gR fX12_33 dX12_isPose_55 g3 ?_
        refine gw_iconst (v := 3) dX12_isPose_58 ic_3 ?_
        refine gw_iload_n (q := 1) dX12_isPose_59 rfl rfl ?_
        refine gw_imul dX12_isPose_60 ?_
        refine gw_iload_n (q := 3) dX12_isPose_61 rfl rfl ?_
        refine gw_iadd dX12_isPose_62 ?_
        obtain ⟨g9, h⟩ := h
        refine gw_aI dX12_isPose_63 g9 ?_
        refine gw_icmp_le (tgt := 77) dX12_isPose_64 (by decide) (fun c10 => ?_) (fun c10 => ?_)
        · replace h := h.1 c10
          refine gw_inc (lo' := [(0, .inr v0), (1, .inl v1), (2, .inl v2), (3, .inl (v3 + 1)), (4, .inl x2)]) (q := 3) (c := 1) dX12_isPose_77 ic_1 rfl (by decide) rfl ?_
          refine gw_goto (tgt := 15) dX12_isPose_80 (by decide) ?_
          refine gw_pick [0, 1, 2, 3] rfl ?_
          exact h
        · replace h := h.2 c10
          refine gw_goto (tgt := 75) dX12_isPose_67 (by decide) ?_
          refine gw_iconst (v := 0) dX12_isPose_75 ic_0 ?_
          exact gw_rZ dX12_isPose_76 rfl (by decide) (by decide) (by decide) h
set_option maxHeartbeats 4000000 in
set_option maxRecDepth 20000 in
theorem eX12_isPose {l : Launch} {v0 : Nat} {v1 : Int32} {v2 : Int32} {σ : Sg} {K : Int32 → Sg → Prop} (h : ((v2 < 0 → K 0 σ) ∧ (¬ v2 < 0 → ((v2 < 4096 → GW l mX12_isPose 15 [(0, .inr v0), (1, .inl v1), (2, .inl v2), (3, .inl 0)] [] σ 0 0 (PI K)) ∧ (¬ v2 < 4096 → K 0 σ))))) : Con l mX12_isPose [.inr v0, .inl v1, .inl v2] σ (PI K) := by
  refine con_gw rfl (Nat.le_of_ble_eq_true rfl) ?_
  show GW l mX12_isPose 0 [(0, .inr v0), (1, .inl v1), (2, .inl v2)] [] σ 0 0 (PI K)
  refine gw_iload_n (q := 2) dX12_isPose_0 rfl rfl ?_
  refine gw_if_lt (tgt := 11) dX12_isPose_1 (by decide) (fun c1 => ?_) (fun c1 => ?_)
  · replace h := h.1 c1
    refine gw_iconst (v := 0) dX12_isPose_11 ic_0 ?_
    exact gw_rZ dX12_isPose_12 rfl (by decide) (by decide) (by decide) h
  · replace h := h.2 c1
    refine gw_iload_n (q := 2) dX12_isPose_4 rfl rfl ?_
    refine gw_sipush (v := 4096) dX12_isPose_5 sp_4096 ?_
    refine gw_icmp_lt (tgt := 13) dX12_isPose_8 (by decide) (fun c2 => ?_) (fun c2 => ?_)
    · replace h := h.1 c2
      refine gw_iconst (v := 0) dX12_isPose_13 ic_0 ?_
      refine gw_istore_n (lo' := [(0, .inr v0), (1, .inl v1), (2, .inl v2), (3, .inl 0)]) dX12_isPose_14 rfl (by decide) rfl ?_
      exact h
    · replace h := h.2 c2
      refine gw_iconst (v := 0) dX12_isPose_11 ic_0 ?_
      exact gw_rZ dX12_isPose_12 rfl (by decide) (by decide) (by decide) h
set_option maxHeartbeats 4000000 in
set_option maxRecDepth 20000 in
theorem gX12_pointOf_32 {l : Launch} {v0 : Nat} {v1 : Int32} {v2 : Int32} {v3 : Int32} {v4 : Int32} {v5 : Int32} {v6 : Int32} {v7 : Int32} {σ : Sg} {K : Int32 → Sg → Prop} (h : ((v3 ≤ v7 → K v5 σ) ∧ (¬ v3 ≤ v7 → Con l mX12_placeOf [.inl v2, .inl v7] σ (PI (fun x2 σ2 => Ob σ2 v0 12 ∧ Ai σ2 (σ2.2.2 v0 8) ((3 * v1) + v7) ∧ ((v4 = 0 → Ai σ2 (σ2.2.2 v0 3) (((v6 + x2) + 12) - ((v6 + x2) + 12) / 16 * 16) ∧ GW l mX12_pointOf 32 [(0, .inr v0), (1, .inl v1), (2, .inl v2), (3, .inl v3), (4, .inl v4), (5, .inl (v5 + ((σ2.2.1 (σ2.2.2 v0 8) ((3 * v1) + v7).toNatClampNeg) * (σ2.2.1 (σ2.2.2 v0 3) (((v6 + x2) + 12) - ((v6 + x2) + 12) / 16 * 16).toNatClampNeg)))), (6, .inl (v6 + x2)), (7, .inl (v7 + 1))] [] σ2 0 0 (PI K)) ∧ (¬ v4 = 0 → Ai σ2 (σ2.2.2 v0 3) ((v6 + x2) - (v6 + x2) / 16 * 16) ∧ GW l mX12_pointOf 32 [(0, .inr v0), (1, .inl v1), (2, .inl v2), (3, .inl v3), (4, .inl v4), (5, .inl (v5 + ((σ2.2.1 (σ2.2.2 v0 8) ((3 * v1) + v7).toNatClampNeg) * (σ2.2.1 (σ2.2.2 v0 3) ((v6 + x2) - (v6 + x2) / 16 * 16).toNatClampNeg)))), (6, .inl (v6 + x2)), (7, .inl (v7 + 1))] [] σ2 0 0 (PI K)))))))) : GW l mX12_pointOf 32 [(0, .inr v0), (1, .inl v1), (2, .inl v2), (3, .inl v3), (4, .inl v4), (5, .inl v5), (6, .inl v6), (7, .inl v7)] [] σ 0 0 (PI K) := by
  refine gw_iload (q := 7) dX12_pointOf_32 rfl ?_
  refine gw_iload_n (q := 3) dX12_pointOf_34 rfl rfl ?_
  refine gw_icmp_ge (tgt := 95) dX12_pointOf_35 (by decide) (fun c1 => ?_) (fun c1 => ?_)
  · replace h := h.1 c1
    refine gw_iload (q := 5) dX12_pointOf_95 rfl ?_
    exact gw_rI dX12_pointOf_97 rfl (by decide) (by decide) h
  · replace h := h.2 c1
    refine gw_iload (q := 6) dX12_pointOf_38 rfl ?_
    refine gw_iload_n (q := 2) dX12_pointOf_40 rfl rfl ?_
    refine gw_iload (q := 7) dX12_pointOf_41 rfl ?_
    refine gw_sC (bs := [.inl v2, .inl v7]) (st := [.inl v6]) smX12_placeOf lX12_155 dX12_pointOf_43 ⟨by decide, rfl, rfl, by decide, by decide⟩ (Nat.le_of_ble_eq_true rfl) rfl rfl h (kI (fun x2 σ2 h n2 => ?_))
    refine gw_iadd dX12_pointOf_46 ?_
    refine gw_istore (lo' := [(0, .inr v0), (1, .inl v1), (2, .inl v2), (3, .inl v3), (4, .inl v4), (5, .inl v5), (6, .inl (v6 + x2)), (7, .inl v7)]) dX12_pointOf_47 (by decide) rfl ?_
    refine gw_iload (q := 5) dX12_pointOf_49 rfl ?_
    refine gw_aload_n (q := 0) dX12_pointOf_51 rfl rfl ?_
    obtain ⟨g3, h⟩ := h
    refine gw_gR fX12_27 dX12_pointOf_52 g3 ?_
    refine gw_iconst (v := 3) dX12_pointOf_55 ic_3 ?_
    refine gw_iload_n (q := 1) dX12_pointOf_56 rfl rfl ?_
    refine gw_imul dX12_pointOf_57 ?_
    refine gw_iload (q := 7) dX12_pointOf_58 rfl ?_
    refine gw_iadd dX12_pointOf_60 ?_
    obtain ⟨g4, h⟩ := h
    refine gw_aI dX12_pointOf_61 g4 ?_
    refine gw_aload_n (q := 0) dX12_pointOf_62 rfl rfl ?_
    refine gw_gR fX12_15 dX12_pointOf_63 g3 ?_
    refine gw_iload (q := 4) dX12_pointOf_66 rfl ?_
    refine gw_if_eq (tgt := 76) dX12_pointOf_68 (by decide) (fun c5 => ?_) (fun c5 => ?_)
    · replace h := h.1 c5
      refine gw_iload (q := 6) dX12_pointOf_76 rfl ?_
      refine gw_bipush (v := 12) dX12_pointOf_78 bp_12 ?_
      refine gw_iadd dX12_pointOf_80 ?_
      refine gw_bipush (v := 16) dX12_pointOf_81 bp_16 ?_
      refine gw_irem dX12_pointOf_83 (by decide) ?_
      obtain ⟨g6, h⟩ := h
      refine gw_aI dX12_pointOf_84 g6 ?_
      refine gw_imul dX12_pointOf_85 ?_
      refine gw_iadd dX12_pointOf_86 ?_
      refine gw_istore (lo' := [(0, .inr v0), (1, .inl v1), (2, .inl v2), (3, .inl v3), (4, .inl v4), (5, .inl (v5 + ((σ2.2.1 (σ2.2.2 v0 8) ((3 * v1) + v7).toNatClampNeg) * (σ2.2.1 (σ2.2.2 v0 3) (((v6 + x2) + 12) - ((v6 + x2) + 12) / 16 * 16).toNatClampNeg)))), (6, .inl (v6 + x2)), (7, .inl v7)]) dX12_pointOf_87 (by decide) rfl ?_
      refine gw_inc (lo' := [(0, .inr v0), (1, .inl v1), (2, .inl v2), (3, .inl v3), (4, .inl v4), (5, .inl (v5 + ((σ2.2.1 (σ2.2.2 v0 8) ((3 * v1) + v7).toNatClampNeg) * (σ2.2.1 (σ2.2.2 v0 3) (((v6 + x2) + 12) - ((v6 + x2) + 12) / 16 * 16).toNatClampNeg)))), (6, .inl (v6 + x2)), (7, .inl (v7 + 1))]) (q := 7) (c := 1) dX12_pointOf_89 ic_1 rfl (by decide) rfl ?_
      refine gw_goto (tgt := 32) dX12_pointOf_92 (by decide) ?_
      exact h
    · replace h := h.2 c5
      refine gw_iload (q := 6) dX12_pointOf_71 rfl ?_
      refine gw_goto (tgt := 81) dX12_pointOf_73 (by decide) ?_
      refine gw_bipush (v := 16) dX12_pointOf_81 bp_16 ?_
      refine gw_irem dX12_pointOf_83 (by decide) ?_
      obtain ⟨g7, h⟩ := h
      refine gw_aI dX12_pointOf_84 g7 ?_
      refine gw_imul dX12_pointOf_85 ?_
      refine gw_iadd dX12_pointOf_86 ?_
      refine gw_istore (lo' := [(0, .inr v0), (1, .inl v1), (2, .inl v2), (3, .inl v3), (4, .inl v4), (5, .inl (v5 + ((σ2.2.1 (σ2.2.2 v0 8) ((3 * v1) + v7).toNatClampNeg) * (σ2.2.1 (σ2.2.2 v0 3) ((v6 + x2) - (v6 + x2) / 16 * 16).toNatClampNeg)))), (6, .inl (v6 + x2)), (7, .inl v7)]) dX12_pointOf_87 (by decide) rfl ?_
      refine gw_inc (lo' := [(0, .inr v0), (1, .inl v1), (2, .inl v2), (3, .inl v3), (4, .inl v4), (5, .inl (v5 + ((σ2.2.1 (σ2.2.2 v0 8) ((3 * v1) + v7).toNatClampNeg) * (σ2.2.1 (σ2.2.2 v0 3) ((v6 + x2) - (v6 + x2) / 16 * 16).toNatClampNeg)))), (6, .inl (v6 + x2)), (7, .inl (v7 + 1))]) (q := 7) (c := 1) dX12_pointOf_89 ic_1 rfl (by decide) rfl ?_
      refine gw_goto (tgt := 32) dX12_pointOf_92 (by decide) ?_
      exact h
set_option maxHeartbeats 4000000 in
set_option maxRecDepth 20000 in
theorem eX12_pointOf {l : Launch} {v0 : Nat} {v1 : Int32} {v2 : Int32} {v3 : Int32} {v4 : Int32} {σ : Sg} {K : Int32 → Sg → Prop} (h : ((v4 = 0 → Ob σ v0 12 ∧ Ai σ (σ.2.2 v0 6) v1 ∧ GW l mX12_pointOf 32 [(0, .inr v0), (1, .inl v1), (2, .inl v2), (3, .inl v3), (4, .inl v4), (5, .inl (1000 * (σ.2.1 (σ.2.2 v0 6) v1.toNatClampNeg))), (6, .inl 0), (7, .inl 0)] [] σ 0 0 (PI K)) ∧ (¬ v4 = 0 → Ob σ v0 12 ∧ Ai σ (σ.2.2 v0 5) v1 ∧ GW l mX12_pointOf 32 [(0, .inr v0), (1, .inl v1), (2, .inl v2), (3, .inl v3), (4, .inl v4), (5, .inl (1000 * (σ.2.1 (σ.2.2 v0 5) v1.toNatClampNeg))), (6, .inl 0), (7, .inl 0)] [] σ 0 0 (PI K)))) : Con l mX12_pointOf [.inr v0, .inl v1, .inl v2, .inl v3, .inl v4] σ (PI K) := by
  refine con_gw rfl (Nat.le_of_ble_eq_true rfl) ?_
  show GW l mX12_pointOf 0 [(0, .inr v0), (1, .inl v1), (2, .inl v2), (3, .inl v3), (4, .inl v4)] [] σ 0 0 (PI K)
  refine gw_sipush (v := 1000) dX12_pointOf_0 sp_1000 ?_
  refine gw_iload (q := 4) dX12_pointOf_3 rfl ?_
  refine gw_if_eq (tgt := 17) dX12_pointOf_5 (by decide) (fun c1 => ?_) (fun c1 => ?_)
  · replace h := h.1 c1
    refine gw_aload_n (q := 0) dX12_pointOf_17 rfl rfl ?_
    obtain ⟨g2, h⟩ := h
    refine gw_gR fX12_21 dX12_pointOf_18 g2 ?_
    refine gw_iload_n (q := 1) dX12_pointOf_21 rfl rfl ?_
    obtain ⟨g3, h⟩ := h
    refine gw_aI dX12_pointOf_22 g3 ?_
    refine gw_imul dX12_pointOf_23 ?_
    refine gw_istore (lo' := [(0, .inr v0), (1, .inl v1), (2, .inl v2), (3, .inl v3), (4, .inl v4), (5, .inl (1000 * (σ.2.1 (σ.2.2 v0 6) v1.toNatClampNeg)))]) dX12_pointOf_24 (by decide) rfl ?_
    refine gw_iconst (v := 0) dX12_pointOf_26 ic_0 ?_
    refine gw_istore (lo' := [(0, .inr v0), (1, .inl v1), (2, .inl v2), (3, .inl v3), (4, .inl v4), (5, .inl (1000 * (σ.2.1 (σ.2.2 v0 6) v1.toNatClampNeg))), (6, .inl 0)]) dX12_pointOf_27 (by decide) rfl ?_
    refine gw_iconst (v := 0) dX12_pointOf_29 ic_0 ?_
    refine gw_istore (lo' := [(0, .inr v0), (1, .inl v1), (2, .inl v2), (3, .inl v3), (4, .inl v4), (5, .inl (1000 * (σ.2.1 (σ.2.2 v0 6) v1.toNatClampNeg))), (6, .inl 0), (7, .inl 0)]) dX12_pointOf_30 (by decide) rfl ?_
    exact h
  · replace h := h.2 c1
    refine gw_aload_n (q := 0) dX12_pointOf_8 rfl rfl ?_
    obtain ⟨g4, h⟩ := h
    refine gw_gR fX12_18 dX12_pointOf_9 g4 ?_
    refine gw_iload_n (q := 1) dX12_pointOf_12 rfl rfl ?_
    obtain ⟨g5, h⟩ := h
    refine gw_aI dX12_pointOf_13 g5 ?_
    refine gw_goto (tgt := 23) dX12_pointOf_14 (by decide) ?_
    refine gw_imul dX12_pointOf_23 ?_
    refine gw_istore (lo' := [(0, .inr v0), (1, .inl v1), (2, .inl v2), (3, .inl v3), (4, .inl v4), (5, .inl (1000 * (σ.2.1 (σ.2.2 v0 5) v1.toNatClampNeg)))]) dX12_pointOf_24 (by decide) rfl ?_
    refine gw_iconst (v := 0) dX12_pointOf_26 ic_0 ?_
    refine gw_istore (lo' := [(0, .inr v0), (1, .inl v1), (2, .inl v2), (3, .inl v3), (4, .inl v4), (5, .inl (1000 * (σ.2.1 (σ.2.2 v0 5) v1.toNatClampNeg))), (6, .inl 0)]) dX12_pointOf_27 (by decide) rfl ?_
    refine gw_iconst (v := 0) dX12_pointOf_29 ic_0 ?_
    refine gw_istore (lo' := [(0, .inr v0), (1, .inl v1), (2, .inl v2), (3, .inl v3), (4, .inl v4), (5, .inl (1000 * (σ.2.1 (σ.2.2 v0 5) v1.toNatClampNeg))), (6, .inl 0), (7, .inl 0)]) dX12_pointOf_30 (by decide) rfl ?_
    exact h
set_option maxHeartbeats 4000000 in
set_option maxRecDepth 20000 in
theorem eX12_tip {l : Launch} {v0 : Nat} {v1 : Int32} {v2 : Int32} {v3 : Int32} {σ : Sg} {K : Int32 → Sg → Prop} (h : Ob σ v0 12 ∧ Ai σ (σ.2.2 v0 7) v1 ∧ Con l mX12_pointOf [.inr v0, .inl v1, .inl v2, .inl (σ.2.1 (σ.2.2 v0 7) v1.toNatClampNeg), .inl v3] σ (PI (fun x3 σ3 => K x3 σ3))) : Con l mX12_tip [.inr v0, .inl v1, .inl v2, .inl v3] σ (PI K) := by
  refine con_gw rfl (Nat.le_of_ble_eq_true rfl) ?_
  show GW l mX12_tip 0 [(0, .inr v0), (1, .inl v1), (2, .inl v2), (3, .inl v3)] [] σ 0 0 (PI K)
  refine gw_aload_n (q := 0) dX12_tip_0 rfl rfl ?_
  refine gw_iload_n (q := 1) dX12_tip_1 rfl rfl ?_
  refine gw_iload_n (q := 2) dX12_tip_2 rfl rfl ?_
  refine gw_aload_n (q := 0) dX12_tip_3 rfl rfl ?_
  obtain ⟨g1, h⟩ := h
  refine gw_gR fX12_24 dX12_tip_4 g1 ?_
  refine gw_iload_n (q := 1) dX12_tip_7 rfl rfl ?_
  obtain ⟨g2, h⟩ := h
  refine gw_aI dX12_tip_8 g2 ?_
  refine gw_iload_n (q := 3) dX12_tip_9 rfl rfl ?_
  refine gw_vC (bs := [.inl v1, .inl v2, .inl (σ.2.1 (σ.2.2 v0 7) v1.toNatClampNeg), .inl v3]) (st := []) (vmX12_pointOf) lX12_159 dX12_tip_10 ⟨by decide, rfl, rfl, by decide, by decide⟩ (Nat.le_of_ble_eq_true rfl) rfl rfl g1 h (kI (fun x3 σ3 h n3 => ?_))
  exact gw_rI dX12_tip_13 rfl (by decide) (by decide) h
set_option maxHeartbeats 4000000 in
set_option maxRecDepth 20000 in
theorem eX12_point {l : Launch} {v0 : Nat} {v1 : Int32} {v2 : Int32} {v3 : Int32} {v4 : Int32} {σ : Sg} {K : Int32 → Sg → Prop} (h : Ob σ v0 12 ∧ ∀ σ2, σ2 = w1 σ v0 0 0 → Con l mX12_isArm [.inr v0, .inl v1] σ2 (PI (fun x3 σ3 => ((x3 = 0 → K (-2147483648) σ3) ∧ (¬ x3 = 0 → Con l mX12_isPose [.inr v0, .inl v1, .inl v2] σ3 (PI (fun x5 σ5 => ((x5 = 0 → K (-2147483648) σ5) ∧ (¬ x5 = 0 → ((v3 < 0 → K (-2147483648) σ5) ∧ (¬ v3 < 0 → Ai σ5 (σ5.2.2 v0 7) v1 ∧ (((σ5.2.1 (σ5.2.2 v0 7) v1.toNatClampNeg) < v3 → K (-2147483648) σ5) ∧ (¬ (σ5.2.1 (σ5.2.2 v0 7) v1.toNatClampNeg) < v3 → ((v4 < 0 → K (-2147483648) σ5) ∧ (¬ v4 < 0 → ((v4 ≤ 1 → ((¬ v4 = 0 → Con l mX12_pointOf [.inr v0, .inl v1, .inl v2, .inl v3, .inl 0] σ5 (PI (fun x13 σ13 => K x13 σ13))) ∧ (v4 = 0 → Con l mX12_pointOf [.inr v0, .inl v1, .inl v2, .inl v3, .inl 1] σ5 (PI (fun x14 σ14 => K x14 σ14))))) ∧ (¬ v4 ≤ 1 → K (-2147483648) σ5))))))))))))))))) : Con l mX12_point [.inr v0, .inl v1, .inl v2, .inl v3, .inl v4] σ (PI K) := by
  refine con_gw rfl (Nat.le_of_ble_eq_true rfl) ?_
  show GW l mX12_point 0 [(0, .inr v0), (1, .inl v1), (2, .inl v2), (3, .inl v3), (4, .inl v4)] [] σ 0 0 (PI K)
  refine gw_aload_n (q := 0) dX12_point_0 rfl rfl ?_
  refine gw_iconst (v := 0) dX12_point_1 ic_0 ?_
  obtain ⟨g1, h⟩ := h
  refine gw_pI fX12_135 dX12_point_2 g1 (fun σ2 e2 => ?_)
  replace h := h σ2 e2
  refine gw_aload_n (q := 0) dX12_point_5 rfl rfl ?_
  refine gw_iload_n (q := 1) dX12_point_6 rfl rfl ?_
  refine gw_vC (bs := [.inl v1]) (st := []) (vmX12_isArm) lX12_148 dX12_point_7 ⟨by decide, rfl, rfl, by decide, by decide⟩ (Nat.le_of_ble_eq_true rfl) rfl rfl (g1.up (n_w1 e2)) h (kI (fun x3 σ3 h n3 => ?_))
  refine gw_if_eq (tgt := 47) dX12_point_10 (by decide) (fun c4 => ?_) (fun c4 => ?_)
  · replace h := h.1 c4
    refine gw_ldc (v := (-2147483648)) kX12_167 dX12_point_47 ?_
    refine gw_goto (tgt := 69) dX12_point_49 (by decide) ?_
    exact gw_rI dX12_point_69 rfl (by decide) (by decide) h
  · replace h := h.2 c4
    refine gw_aload_n (q := 0) dX12_point_13 rfl rfl ?_
    refine gw_iload_n (q := 1) dX12_point_14 rfl rfl ?_
    refine gw_iload_n (q := 2) dX12_point_15 rfl rfl ?_
    refine gw_vC (bs := [.inl v1, .inl v2]) (st := []) (vmX12_isPose) lX12_163 dX12_point_16 ⟨by decide, rfl, rfl, by decide, by decide⟩ (Nat.le_of_ble_eq_true rfl) rfl rfl ((g1.up (n_w1 e2)).up n3) h (kI (fun x5 σ5 h n5 => ?_))
    refine gw_if_eq (tgt := 47) dX12_point_19 (by decide) (fun c6 => ?_) (fun c6 => ?_)
    · replace h := h.1 c6
      refine gw_ldc (v := (-2147483648)) kX12_167 dX12_point_47 ?_
      refine gw_goto (tgt := 69) dX12_point_49 (by decide) ?_
      exact gw_rI dX12_point_69 rfl (by decide) (by decide) h
    · replace h := h.2 c6
      refine gw_iload_n (q := 3) dX12_point_22 rfl rfl ?_
      refine gw_if_lt (tgt := 47) dX12_point_23 (by decide) (fun c7 => ?_) (fun c7 => ?_)
      · replace h := h.1 c7
        refine gw_ldc (v := (-2147483648)) kX12_167 dX12_point_47 ?_
        refine gw_goto (tgt := 69) dX12_point_49 (by decide) ?_
        exact gw_rI dX12_point_69 rfl (by decide) (by decide) h
      · replace h := h.2 c7
        refine gw_iload_n (q := 3) dX12_point_26 rfl rfl ?_
        refine gw_aload_n (q := 0) dX12_point_27 rfl rfl ?_
        refine gw_gR fX12_24 dX12_point_28 (((g1.up (n_w1 e2)).up n3).up n5) ?_
        refine gw_iload_n (q := 1) dX12_point_31 rfl rfl ?_
        obtain ⟨g8, h⟩ := h
        refine gw_aI dX12_point_32 g8 ?_
        refine gw_icmp_gt (tgt := 47) dX12_point_33 (by decide) (fun c9 => ?_) (fun c9 => ?_)
        · replace h := h.1 c9
          refine gw_ldc (v := (-2147483648)) kX12_167 dX12_point_47 ?_
          refine gw_goto (tgt := 69) dX12_point_49 (by decide) ?_
          exact gw_rI dX12_point_69 rfl (by decide) (by decide) h
        · replace h := h.2 c9
          refine gw_iload (q := 4) dX12_point_36 rfl ?_
          refine gw_if_lt (tgt := 47) dX12_point_38 (by decide) (fun c10 => ?_) (fun c10 => ?_)
          · replace h := h.1 c10
            refine gw_ldc (v := (-2147483648)) kX12_167 dX12_point_47 ?_
            refine gw_goto (tgt := 69) dX12_point_49 (by decide) ?_
            exact gw_rI dX12_point_69 rfl (by decide) (by decide) h
          · replace h := h.2 c10
            refine gw_iload (q := 4) dX12_point_41 rfl ?_
            refine gw_iconst (v := 1) dX12_point_43 ic_1 ?_
            refine gw_icmp_le (tgt := 52) dX12_point_44 (by decide) (fun c11 => ?_) (fun c11 => ?_)
            · replace h := h.1 c11
              refine gw_aload_n (q := 0) dX12_point_52 rfl rfl ?_
              refine gw_iload_n (q := 1) dX12_point_53 rfl rfl ?_
              refine gw_iload_n (q := 2) dX12_point_54 rfl rfl ?_
              refine gw_iload_n (q := 3) dX12_point_55 rfl rfl ?_
              refine gw_iload (q := 4) dX12_point_56 rfl ?_
              refine gw_if_ne (tgt := 65) dX12_point_58 (by decide) (fun c12 => ?_) (fun c12 => ?_)
              · replace h := h.1 c12
                refine gw_iconst (v := 0) dX12_point_65 ic_0 ?_
                refine gw_vC (bs := [.inl v1, .inl v2, .inl v3, .inl 0]) (st := []) (vmX12_pointOf) lX12_159 dX12_point_66 ⟨by decide, rfl, rfl, by decide, by decide⟩ (Nat.le_of_ble_eq_true rfl) rfl rfl (((g1.up (n_w1 e2)).up n3).up n5) h (kI (fun x13 σ13 h n13 => ?_))
                exact gw_rI dX12_point_69 rfl (by decide) (by decide) h
              · replace h := h.2 c12
                refine gw_iconst (v := 1) dX12_point_61 ic_1 ?_
                refine gw_goto (tgt := 66) dX12_point_62 (by decide) ?_
                refine gw_vC (bs := [.inl v1, .inl v2, .inl v3, .inl 1]) (st := []) (vmX12_pointOf) lX12_159 dX12_point_66 ⟨by decide, rfl, rfl, by decide, by decide⟩ (Nat.le_of_ble_eq_true rfl) rfl rfl (((g1.up (n_w1 e2)).up n3).up n5) h (kI (fun x14 σ14 h n14 => ?_))
                exact gw_rI dX12_point_69 rfl (by decide) (by decide) h
            · replace h := h.2 c11
              refine gw_ldc (v := (-2147483648)) kX12_167 dX12_point_47 ?_
              refine gw_goto (tgt := 69) dX12_point_49 (by decide) ?_
              exact gw_rI dX12_point_69 rfl (by decide) (by decide) h
set_option maxHeartbeats 4000000 in
set_option maxRecDepth 20000 in
theorem gX12_hopOf_6 {l : Launch} {v0 : Nat} {v1 : Int32} {v2 : Int32} {v3 : Int32} {v4 : Int32} {v5 : Int32} {σ : Sg} {K : Int32 → Sg → Prop} (h : Ob σ v0 12 ∧ Ai σ (σ.2.2 v0 7) v1 ∧ (((σ.2.1 (σ.2.2 v0 7) v1.toNatClampNeg) ≤ v5 → K v4 σ) ∧ (¬ (σ.2.1 (σ.2.2 v0 7) v1.toNatClampNeg) ≤ v5 → Ai σ (σ.2.2 v0 11) ((3 * v1) + v5) ∧ Con l mX12_placeOf [.inl v2, .inl v5] σ (PI (fun x5 σ5 => Con l mX12_placeOf [.inl v3, .inl v5] σ5 (PI (fun x6 σ6 => Con l mJ9_abs_0f7a4 [.inl (x5 - x6)] σ6 (PI (fun x7 σ7 => ¬ (σ.2.1 (σ.2.2 v0 11) ((3 * v1) + v5).toNatClampNeg) = 0 ∧ Con l mJ9_max_7cf53 [.inl v4, .inl (((x7 + (σ.2.1 (σ.2.2 v0 11) ((3 * v1) + v5).toNatClampNeg)) - 1) / (σ.2.1 (σ.2.2 v0 11) ((3 * v1) + v5).toNatClampNeg))] σ7 (PI (fun x9 σ9 => GW l mX12_hopOf 6 [(0, .inr v0), (1, .inl v1), (2, .inl v2), (3, .inl v3), (4, .inl x9), (5, .inl (v5 + 1))] [] σ9 0 0 (PI K)))))))))))) : GW l mX12_hopOf 6 [(0, .inr v0), (1, .inl v1), (2, .inl v2), (3, .inl v3), (4, .inl v4), (5, .inl v5)] [] σ 0 0 (PI K) := by
  refine gw_iload (q := 5) dX12_hopOf_6 rfl ?_
  refine gw_aload_n (q := 0) dX12_hopOf_8 rfl rfl ?_
  obtain ⟨g1, h⟩ := h
  refine gw_gR fX12_24 dX12_hopOf_9 g1 ?_
  refine gw_iload_n (q := 1) dX12_hopOf_12 rfl rfl ?_
  obtain ⟨g2, h⟩ := h
  refine gw_aI dX12_hopOf_13 g2 ?_
  refine gw_icmp_ge (tgt := 67) dX12_hopOf_14 (by decide) (fun c3 => ?_) (fun c3 => ?_)
  · replace h := h.1 c3
    refine gw_iload (q := 4) dX12_hopOf_67 rfl ?_
    exact gw_rI dX12_hopOf_69 rfl (by decide) (by decide) h
  · replace h := h.2 c3
    refine gw_aload_n (q := 0) dX12_hopOf_17 rfl rfl ?_
    refine gw_gR fX12_36 dX12_hopOf_18 g1 ?_
    refine gw_iconst (v := 3) dX12_hopOf_21 ic_3 ?_
    refine gw_iload_n (q := 1) dX12_hopOf_22 rfl rfl ?_
    refine gw_imul dX12_hopOf_23 ?_
    refine gw_iload (q := 5) dX12_hopOf_24 rfl ?_
    refine gw_iadd dX12_hopOf_26 ?_
    obtain ⟨g4, h⟩ := h
    refine gw_aI dX12_hopOf_27 g4 ?_
    refine gw_istore (lo' := [(0, .inr v0), (1, .inl v1), (2, .inl v2), (3, .inl v3), (4, .inl v4), (5, .inl v5), (6, .inl (σ.2.1 (σ.2.2 v0 11) ((3 * v1) + v5).toNatClampNeg))]) dX12_hopOf_28 (by decide) rfl ?_
    refine gw_iload (q := 4) dX12_hopOf_30 rfl ?_
    refine gw_iload_n (q := 2) dX12_hopOf_32 rfl rfl ?_
    refine gw_iload (q := 5) dX12_hopOf_33 rfl ?_
    refine gw_sC (bs := [.inl v2, .inl v5]) (st := [.inl v4]) smX12_placeOf lX12_155 dX12_hopOf_35 ⟨by decide, rfl, rfl, by decide, by decide⟩ (Nat.le_of_ble_eq_true rfl) rfl rfl h (kI (fun x5 σ5 h n5 => ?_))
    refine gw_iload_n (q := 3) dX12_hopOf_38 rfl rfl ?_
    refine gw_iload (q := 5) dX12_hopOf_39 rfl ?_
    refine gw_sC (bs := [.inl v3, .inl v5]) (st := [.inl x5, .inl v4]) smX12_placeOf lX12_155 dX12_hopOf_41 ⟨by decide, rfl, rfl, by decide, by decide⟩ (Nat.le_of_ble_eq_true rfl) rfl rfl h (kI (fun x6 σ6 h n6 => ?_))
    refine gw_isub dX12_hopOf_44 ?_
    refine gw_sC (bs := [.inl (x5 - x6)]) (st := [.inl v4]) smJ9_abs_0f7a4 lX12_168 dX12_hopOf_45 ⟨by decide, rfl, rfl, by decide, by decide⟩ (Nat.le_of_ble_eq_true rfl) rfl rfl h (kI (fun x7 σ7 h n7 => ?_))
    refine gw_iload (q := 6) dX12_hopOf_48 rfl ?_
    refine gw_iadd dX12_hopOf_50 ?_
    refine gw_iconst (v := 1) dX12_hopOf_51 ic_1 ?_
    refine gw_isub dX12_hopOf_52 ?_
    refine gw_iload (q := 6) dX12_hopOf_53 rfl ?_
    obtain ⟨g8, h⟩ := h
    refine gw_idiv dX12_hopOf_55 g8 ?_
    refine gw_sC (bs := [.inl v4, .inl (((x7 + (σ.2.1 (σ.2.2 v0 11) ((3 * v1) + v5).toNatClampNeg)) - 1) / (σ.2.1 (σ.2.2 v0 11) ((3 * v1) + v5).toNatClampNeg))]) (st := []) smJ9_max_7cf53 lX12_174 dX12_hopOf_56 ⟨by decide, rfl, rfl, by decide, by decide⟩ (Nat.le_of_ble_eq_true rfl) rfl rfl h (kI (fun x9 σ9 h n9 => ?_))
    refine gw_istore (lo' := [(0, .inr v0), (1, .inl v1), (2, .inl v2), (3, .inl v3), (4, .inl x9), (5, .inl v5), (6, .inl (σ.2.1 (σ.2.2 v0 11) ((3 * v1) + v5).toNatClampNeg))]) dX12_hopOf_59 (by decide) rfl ?_
    refine gw_inc (lo' := [(0, .inr v0), (1, .inl v1), (2, .inl v2), (3, .inl v3), (4, .inl x9), (5, .inl (v5 + 1)), (6, .inl (σ.2.1 (σ.2.2 v0 11) ((3 * v1) + v5).toNatClampNeg))]) (q := 5) (c := 1) dX12_hopOf_61 ic_1 rfl (by decide) rfl ?_
    refine gw_goto (tgt := 6) dX12_hopOf_64 (by decide) ?_
    refine gw_pick [0, 1, 2, 3, 4, 5] rfl ?_
    exact h
set_option maxHeartbeats 4000000 in
set_option maxRecDepth 20000 in
theorem eX12_hopOf {l : Launch} {v0 : Nat} {v1 : Int32} {v2 : Int32} {v3 : Int32} {σ : Sg} {K : Int32 → Sg → Prop} (h : GW l mX12_hopOf 6 [(0, .inr v0), (1, .inl v1), (2, .inl v2), (3, .inl v3), (4, .inl 0), (5, .inl 0)] [] σ 0 0 (PI K)) : Con l mX12_hopOf [.inr v0, .inl v1, .inl v2, .inl v3] σ (PI K) := by
  refine con_gw rfl (Nat.le_of_ble_eq_true rfl) ?_
  show GW l mX12_hopOf 0 [(0, .inr v0), (1, .inl v1), (2, .inl v2), (3, .inl v3)] [] σ 0 0 (PI K)
  refine gw_iconst (v := 0) dX12_hopOf_0 ic_0 ?_
  refine gw_istore (lo' := [(0, .inr v0), (1, .inl v1), (2, .inl v2), (3, .inl v3), (4, .inl 0)]) dX12_hopOf_1 (by decide) rfl ?_
  refine gw_iconst (v := 0) dX12_hopOf_3 ic_0 ?_
  refine gw_istore (lo' := [(0, .inr v0), (1, .inl v1), (2, .inl v2), (3, .inl v3), (4, .inl 0), (5, .inl 0)]) dX12_hopOf_4 (by decide) rfl ?_
  exact h
set_option maxHeartbeats 4000000 in
set_option maxRecDepth 20000 in
theorem eX12_hop {l : Launch} {v0 : Nat} {v1 : Int32} {v2 : Int32} {v3 : Int32} {σ : Sg} {K : Int32 → Sg → Prop} (h : Ob σ v0 12 ∧ ∀ σ2, σ2 = w1 σ v0 0 0 → Con l mX12_isArm [.inr v0, .inl v1] σ2 (PI (fun x3 σ3 => ((x3 = 0 → K (-1) σ3) ∧ (¬ x3 = 0 → Con l mX12_isPose [.inr v0, .inl v1, .inl v2] σ3 (PI (fun x5 σ5 => ((x5 = 0 → K (-1) σ5) ∧ (¬ x5 = 0 → Con l mX12_isPose [.inr v0, .inl v1, .inl v3] σ5 (PI (fun x7 σ7 => ((¬ x7 = 0 → Con l mX12_hopOf [.inr v0, .inl v1, .inl v2, .inl v3] σ7 (PI (fun x9 σ9 => K x9 σ9))) ∧ (x7 = 0 → K (-1) σ7))))))))))))) : Con l mX12_hop [.inr v0, .inl v1, .inl v2, .inl v3] σ (PI K) := by
  refine con_gw rfl (Nat.le_of_ble_eq_true rfl) ?_
  show GW l mX12_hop 0 [(0, .inr v0), (1, .inl v1), (2, .inl v2), (3, .inl v3)] [] σ 0 0 (PI K)
  refine gw_aload_n (q := 0) dX12_hop_0 rfl rfl ?_
  refine gw_iconst (v := 0) dX12_hop_1 ic_0 ?_
  obtain ⟨g1, h⟩ := h
  refine gw_pI fX12_135 dX12_hop_2 g1 (fun σ2 e2 => ?_)
  replace h := h σ2 e2
  refine gw_aload_n (q := 0) dX12_hop_5 rfl rfl ?_
  refine gw_iload_n (q := 1) dX12_hop_6 rfl rfl ?_
  refine gw_vC (bs := [.inl v1]) (st := []) (vmX12_isArm) lX12_148 dX12_hop_7 ⟨by decide, rfl, rfl, by decide, by decide⟩ (Nat.le_of_ble_eq_true rfl) rfl rfl (g1.up (n_w1 e2)) h (kI (fun x3 σ3 h n3 => ?_))
  refine gw_if_eq (tgt := 31) dX12_hop_10 (by decide) (fun c4 => ?_) (fun c4 => ?_)
  · replace h := h.1 c4
    refine gw_iconst (v := (-1)) dX12_hop_31 ic_m1 ?_
    refine gw_goto (tgt := 42) dX12_hop_32 (by decide) ?_
    exact gw_rI dX12_hop_42 rfl (by decide) (by decide) h
  · replace h := h.2 c4
    refine gw_aload_n (q := 0) dX12_hop_13 rfl rfl ?_
    refine gw_iload_n (q := 1) dX12_hop_14 rfl rfl ?_
    refine gw_iload_n (q := 2) dX12_hop_15 rfl rfl ?_
    refine gw_vC (bs := [.inl v1, .inl v2]) (st := []) (vmX12_isPose) lX12_163 dX12_hop_16 ⟨by decide, rfl, rfl, by decide, by decide⟩ (Nat.le_of_ble_eq_true rfl) rfl rfl ((g1.up (n_w1 e2)).up n3) h (kI (fun x5 σ5 h n5 => ?_))
    refine gw_if_eq (tgt := 31) dX12_hop_19 (by decide) (fun c6 => ?_) (fun c6 => ?_)
    · replace h := h.1 c6
      refine gw_iconst (v := (-1)) dX12_hop_31 ic_m1 ?_
      refine gw_goto (tgt := 42) dX12_hop_32 (by decide) ?_
      exact gw_rI dX12_hop_42 rfl (by decide) (by decide) h
    · replace h := h.2 c6
      refine gw_aload_n (q := 0) dX12_hop_22 rfl rfl ?_
      refine gw_iload_n (q := 1) dX12_hop_23 rfl rfl ?_
      refine gw_iload_n (q := 3) dX12_hop_24 rfl rfl ?_
      refine gw_vC (bs := [.inl v1, .inl v3]) (st := []) (vmX12_isPose) lX12_163 dX12_hop_25 ⟨by decide, rfl, rfl, by decide, by decide⟩ (Nat.le_of_ble_eq_true rfl) rfl rfl (((g1.up (n_w1 e2)).up n3).up n5) h (kI (fun x7 σ7 h n7 => ?_))
      refine gw_if_ne (tgt := 35) dX12_hop_28 (by decide) (fun c8 => ?_) (fun c8 => ?_)
      · replace h := h.1 c8
        refine gw_aload_n (q := 0) dX12_hop_35 rfl rfl ?_
        refine gw_iload_n (q := 1) dX12_hop_36 rfl rfl ?_
        refine gw_iload_n (q := 2) dX12_hop_37 rfl rfl ?_
        refine gw_iload_n (q := 3) dX12_hop_38 rfl rfl ?_
        refine gw_vC (bs := [.inl v1, .inl v2, .inl v3]) (st := []) (vmX12_hopOf) lX12_177 dX12_hop_39 ⟨by decide, rfl, rfl, by decide, by decide⟩ (Nat.le_of_ble_eq_true rfl) rfl rfl ((((g1.up (n_w1 e2)).up n3).up n5).up n7) h (kI (fun x9 σ9 h n9 => ?_))
        exact gw_rI dX12_hop_42 rfl (by decide) (by decide) h
      · replace h := h.2 c8
        refine gw_iconst (v := (-1)) dX12_hop_31 ic_m1 ?_
        refine gw_goto (tgt := 42) dX12_hop_32 (by decide) ?_
        exact gw_rI dX12_hop_42 rfl (by decide) (by decide) h
set_option maxHeartbeats 4000000 in
set_option maxRecDepth 20000 in
theorem eX12_isTape {l : Launch} {v0 : Nat} {v1 : Int32} {σ : Sg} {K : Int32 → Sg → Prop} (h : ((v1 < 0 → K 0 σ) ∧ (¬ v1 < 0 → Ob σ v0 12 ∧ (((σ.2.1 v0 16) ≤ v1 → K 0 σ) ∧ (¬ (σ.2.1 v0 16) ≤ v1 → K 1 σ))))) : Con l mX12_isTape [.inr v0, .inl v1] σ (PI K) := by
  refine con_gw rfl (Nat.le_of_ble_eq_true rfl) ?_
  show GW l mX12_isTape 0 [(0, .inr v0), (1, .inl v1)] [] σ 0 0 (PI K)
  refine gw_iload_n (q := 1) dX12_isTape_0 rfl rfl ?_
  refine gw_if_lt (tgt := 16) dX12_isTape_1 (by decide) (fun c1 => ?_) (fun c1 => ?_)
  · replace h := h.1 c1
    refine gw_iconst (v := 0) dX12_isTape_16 ic_0 ?_
    exact gw_rZ dX12_isTape_17 rfl (by decide) (by decide) (by decide) h
  · replace h := h.2 c1
    refine gw_iload_n (q := 1) dX12_isTape_4 rfl rfl ?_
    refine gw_aload_n (q := 0) dX12_isTape_5 rfl rfl ?_
    obtain ⟨g2, h⟩ := h
    refine gw_gI fX12_152 dX12_isTape_6 g2 ?_
    refine gw_icmp_ge (tgt := 16) dX12_isTape_9 (by decide) (fun c3 => ?_) (fun c3 => ?_)
    · replace h := h.1 c3
      refine gw_iconst (v := 0) dX12_isTape_16 ic_0 ?_
      exact gw_rZ dX12_isTape_17 rfl (by decide) (by decide) (by decide) h
    · replace h := h.2 c3
      refine gw_iconst (v := 1) dX12_isTape_12 ic_1 ?_
      refine gw_goto (tgt := 17) dX12_isTape_13 (by decide) ?_
      exact gw_rZ dX12_isTape_17 rfl (by decide) (by decide) (by decide) h
set_option maxHeartbeats 4000000 in
set_option maxRecDepth 20000 in
theorem eX12_tape {l : Launch} {v0 : Nat} {v1 : Int32} {σ : Sg} {K : Int32 → Sg → Prop} (h : Ob σ v0 12 ∧ ∀ σ2, σ2 = w1 σ v0 0 0 → Con l mX12_isArm [.inr v0, .inl v1] σ2 (PI (fun x3 σ3 => ((x3 = 0 → K (-1) σ3) ∧ (¬ x3 = 0 → Ai σ3 (σ3.2.2 v0 7) v1 ∧ (((σ3.2.1 (σ3.2.2 v0 7) v1.toNatClampNeg) = 0 → K (-1) σ3) ∧ (¬ (σ3.2.1 (σ3.2.2 v0 7) v1.toNatClampNeg) = 0 → ((¬ (σ3.2.1 v0 16) = 10 → Ai σ3 (σ3.2.2 v0 17) (σ3.2.1 v0 16) ∧ ∀ σ9, σ9 = w1 σ3 (σ3.2.2 v0 17) (σ3.2.1 v0 16).toNatClampNeg v1 → Ai σ9 (σ9.2.2 v0 18) (σ9.2.1 v0 16) ∧ ∀ σ11, σ11 = w1 σ9 (σ9.2.2 v0 18) (σ9.2.1 v0 16).toNatClampNeg 0 → ∀ σ12, σ12 = w1 σ11 v0 16 ((σ11.2.1 v0 16) + 1) → K ((σ12.2.1 v0 16) - 1) σ12) ∧ ((σ3.2.1 v0 16) = 10 → K (-1) σ3))))))))) : Con l mX12_tape [.inr v0, .inl v1] σ (PI K) := by
  refine con_gw rfl (Nat.le_of_ble_eq_true rfl) ?_
  show GW l mX12_tape 0 [(0, .inr v0), (1, .inl v1)] [] σ 0 0 (PI K)
  refine gw_aload_n (q := 0) dX12_tape_0 rfl rfl ?_
  refine gw_iconst (v := 0) dX12_tape_1 ic_0 ?_
  obtain ⟨g1, h⟩ := h
  refine gw_pI fX12_135 dX12_tape_2 g1 (fun σ2 e2 => ?_)
  replace h := h σ2 e2
  refine gw_aload_n (q := 0) dX12_tape_5 rfl rfl ?_
  refine gw_iload_n (q := 1) dX12_tape_6 rfl rfl ?_
  refine gw_vC (bs := [.inl v1]) (st := []) (vmX12_isArm) lX12_148 dX12_tape_7 ⟨by decide, rfl, rfl, by decide, by decide⟩ (Nat.le_of_ble_eq_true rfl) rfl rfl (g1.up (n_w1 e2)) h (kI (fun x3 σ3 h n3 => ?_))
  refine gw_if_eq (tgt := 31) dX12_tape_10 (by decide) (fun c4 => ?_) (fun c4 => ?_)
  · replace h := h.1 c4
    refine gw_iconst (v := (-1)) dX12_tape_31 ic_m1 ?_
    exact gw_rI dX12_tape_32 rfl (by decide) (by decide) h
  · replace h := h.2 c4
    refine gw_aload_n (q := 0) dX12_tape_13 rfl rfl ?_
    refine gw_gR fX12_24 dX12_tape_14 ((g1.up (n_w1 e2)).up n3) ?_
    refine gw_iload_n (q := 1) dX12_tape_17 rfl rfl ?_
    obtain ⟨g5, h⟩ := h
    refine gw_aI dX12_tape_18 g5 ?_
    refine gw_if_eq (tgt := 31) dX12_tape_19 (by decide) (fun c6 => ?_) (fun c6 => ?_)
    · replace h := h.1 c6
      refine gw_iconst (v := (-1)) dX12_tape_31 ic_m1 ?_
      exact gw_rI dX12_tape_32 rfl (by decide) (by decide) h
    · replace h := h.2 c6
      refine gw_aload_n (q := 0) dX12_tape_22 rfl rfl ?_
      refine gw_gI fX12_152 dX12_tape_23 ((g1.up (n_w1 e2)).up n3) ?_
      refine gw_bipush (v := 10) dX12_tape_26 bp_10 ?_
      refine gw_icmp_ne (tgt := 33) dX12_tape_28 (by decide) (fun c7 => ?_) (fun c7 => ?_)
      · replace h := h.1 c7
        refine gw_aload_n (q := 0) dX12_tape_33 rfl rfl ?_
        refine gw_gR fX12_51 dX12_tape_34 ((g1.up (n_w1 e2)).up n3) ?_
        refine gw_aload_n (q := 0) dX12_tape_37 rfl rfl ?_
        refine gw_gI fX12_152 dX12_tape_38 ((g1.up (n_w1 e2)).up n3) ?_
        refine gw_iload_n (q := 1) dX12_tape_41 rfl rfl ?_
        obtain ⟨g8, h⟩ := h
        refine gw_sI dX12_tape_42 g8 (fun σ9 e9 => ?_)
        replace h := h σ9 e9
        refine gw_aload_n (q := 0) dX12_tape_43 rfl rfl ?_
        refine gw_gR fX12_54 dX12_tape_44 (((g1.up (n_w1 e2)).up n3).up (n_w1 e9)) ?_
        refine gw_aload_n (q := 0) dX12_tape_47 rfl rfl ?_
        refine gw_gI fX12_152 dX12_tape_48 (((g1.up (n_w1 e2)).up n3).up (n_w1 e9)) ?_
        refine gw_iconst (v := 0) dX12_tape_51 ic_0 ?_
        obtain ⟨g10, h⟩ := h
        refine gw_sI dX12_tape_52 g10 (fun σ11 e11 => ?_)
        replace h := h σ11 e11
        refine gw_aload_n (q := 0) dX12_tape_53 rfl rfl ?_
        refine gw_dup dX12_tape_54 ?_
        refine gw_gI fX12_152 dX12_tape_55 ((((g1.up (n_w1 e2)).up n3).up (n_w1 e9)).up (n_w1 e11)) ?_
        refine gw_iconst (v := 1) dX12_tape_58 ic_1 ?_
        refine gw_iadd dX12_tape_59 ?_
        refine gw_pI fX12_152 dX12_tape_60 ((((g1.up (n_w1 e2)).up n3).up (n_w1 e9)).up (n_w1 e11)) (fun σ12 e12 => ?_)
        replace h := h σ12 e12
        refine gw_aload_n (q := 0) dX12_tape_63 rfl rfl ?_
        refine gw_gI fX12_152 dX12_tape_64 (((((g1.up (n_w1 e2)).up n3).up (n_w1 e9)).up (n_w1 e11)).up (n_w1 e12)) ?_
        refine gw_iconst (v := 1) dX12_tape_67 ic_1 ?_
        refine gw_isub dX12_tape_68 ?_
        exact gw_rI dX12_tape_69 rfl (by decide) (by decide) h
      · replace h := h.2 c7
        refine gw_iconst (v := (-1)) dX12_tape_31 ic_m1 ?_
        exact gw_rI dX12_tape_32 rfl (by decide) (by decide) h
set_option maxHeartbeats 4000000 in
set_option maxRecDepth 20000 in
theorem gX12_lead_98 {l : Launch} {v0 : Nat} {v1 : Int32} {v2 : Int32} {v3 : Int32} {v4 : Int32} {σ : Sg} {K : Int32 → Sg → Prop} (h : Ob σ v0 12 ∧ Ai σ (σ.2.2 v0 19) v4 ∧ ∀ σ3, σ3 = w1 σ (σ.2.2 v0 19) v4.toNatClampNeg v2 → Ai σ3 (σ3.2.2 v0 20) v4 ∧ ∀ σ5, σ5 = w1 σ3 (σ3.2.2 v0 20) v4.toNatClampNeg v3 → Ai σ5 (σ5.2.2 v0 18) v1 ∧ ∀ σ7, σ7 = w1 σ5 (σ5.2.2 v0 18) v1.toNatClampNeg ((σ5.2.1 (σ5.2.2 v0 18) v1.toNatClampNeg) + 1) → Ai σ7 (σ7.2.2 v0 18) v1 ∧ K (σ7.2.1 (σ7.2.2 v0 18) v1.toNatClampNeg) σ7) : GW l mX12_lead 98 [(0, .inr v0), (1, .inl v1), (2, .inl v2), (3, .inl v3), (4, .inl v4)] [] σ 0 0 (PI K) := by
  refine gw_aload_n (q := 0) dX12_lead_98 rfl rfl ?_
  obtain ⟨g1, h⟩ := h
  refine gw_gR fX12_57 dX12_lead_99 g1 ?_
  refine gw_iload (q := 4) dX12_lead_102 rfl ?_
  refine gw_iload_n (q := 2) dX12_lead_104 rfl rfl ?_
  obtain ⟨g2, h⟩ := h
  refine gw_sI dX12_lead_105 g2 (fun σ3 e3 => ?_)
  replace h := h σ3 e3
  refine gw_aload_n (q := 0) dX12_lead_106 rfl rfl ?_
  refine gw_gR fX12_60 dX12_lead_107 (g1.up (n_w1 e3)) ?_
  refine gw_iload (q := 4) dX12_lead_110 rfl ?_
  refine gw_iload_n (q := 3) dX12_lead_112 rfl rfl ?_
  obtain ⟨g4, h⟩ := h
  refine gw_sI dX12_lead_113 g4 (fun σ5 e5 => ?_)
  replace h := h σ5 e5
  refine gw_aload_n (q := 0) dX12_lead_114 rfl rfl ?_
  refine gw_gR fX12_54 dX12_lead_115 ((g1.up (n_w1 e3)).up (n_w1 e5)) ?_
  refine gw_iload_n (q := 1) dX12_lead_118 rfl rfl ?_
  refine gw_dup2 dX12_lead_119 ?_
  obtain ⟨g6, h⟩ := h
  refine gw_aI dX12_lead_120 g6 ?_
  refine gw_iconst (v := 1) dX12_lead_121 ic_1 ?_
  refine gw_iadd dX12_lead_122 ?_
  refine gw_sI dX12_lead_123 g6 (fun σ7 e7 => ?_)
  replace h := h σ7 e7
  refine gw_aload_n (q := 0) dX12_lead_124 rfl rfl ?_
  refine gw_gR fX12_54 dX12_lead_125 (((g1.up (n_w1 e3)).up (n_w1 e5)).up (n_w1 e7)) ?_
  refine gw_iload_n (q := 1) dX12_lead_128 rfl rfl ?_
  obtain ⟨g8, h⟩ := h
  refine gw_aI dX12_lead_129 g8 ?_
  exact gw_rI dX12_lead_130 rfl (by decide) (by decide) h
set_option maxHeartbeats 4000000 in
set_option maxRecDepth 20000 in
theorem eX12_lead {l : Launch} {v0 : Nat} {v1 : Int32} {v2 : Int32} {v3 : Int32} {σ : Sg} {K : Int32 → Sg → Prop} (h : Ob σ v0 12 ∧ ∀ σ2, σ2 = w1 σ v0 0 0 → Con l mX12_isTape [.inr v0, .inl v1] σ2 (PI (fun x3 σ3 => ((x3 = 0 → K (-1) σ3) ∧ (¬ x3 = 0 → Ai σ3 (σ3.2.2 v0 17) v1 ∧ Con l mX12_isPose [.inr v0, .inl (σ3.2.1 (σ3.2.2 v0 17) v1.toNatClampNeg), .inl v2] σ3 (PI (fun x6 σ6 => ((x6 = 0 → K (-1) σ6) ∧ (¬ x6 = 0 → Con l mX12_in [.inl v3, .inl 0, .inl 9] σ6 (PI (fun x8 σ8 => ((x8 = 0 → K (-1) σ8) ∧ (¬ x8 = 0 → Ai σ8 (σ8.2.2 v0 18) v1 ∧ ((¬ (σ8.2.1 (σ8.2.2 v0 18) v1.toNatClampNeg) = 40 → (((σ8.2.1 (σ8.2.2 v0 18) v1.toNatClampNeg) ≤ 0 → GW l mX12_lead 98 [(0, .inr v0), (1, .inl v1), (2, .inl v2), (3, .inl v3), (4, .inl ((40 * v1) + (σ8.2.1 (σ8.2.2 v0 18) v1.toNatClampNeg)))] [] σ8 0 0 (PI K)) ∧ (¬ (σ8.2.1 (σ8.2.2 v0 18) v1.toNatClampNeg) ≤ 0 → Ai σ8 (σ8.2.2 v0 17) v1 ∧ Ai σ8 (σ8.2.2 v0 19) (((40 * v1) + (σ8.2.1 (σ8.2.2 v0 18) v1.toNatClampNeg)) - 1) ∧ Con l mX12_hopOf [.inr v0, .inl (σ8.2.1 (σ8.2.2 v0 17) v1.toNatClampNeg), .inl (σ8.2.1 (σ8.2.2 v0 19) (((40 * v1) + (σ8.2.1 (σ8.2.2 v0 18) v1.toNatClampNeg)) - 1).toNatClampNeg), .inl v2] σ8 (PI (fun x17 σ17 => ((x17 ≤ 1 → GW l mX12_lead 98 [(0, .inr v0), (1, .inl v1), (2, .inl v2), (3, .inl v3), (4, .inl ((40 * v1) + (σ8.2.1 (σ8.2.2 v0 18) v1.toNatClampNeg)))] [] σ17 0 0 (PI K)) ∧ (¬ x17 ≤ 1 → K (-1) σ17))))))) ∧ ((σ8.2.1 (σ8.2.2 v0 18) v1.toNatClampNeg) = 40 → K (-1) σ8))))))))))))))) : Con l mX12_lead [.inr v0, .inl v1, .inl v2, .inl v3] σ (PI K) := by
  refine con_gw rfl (Nat.le_of_ble_eq_true rfl) ?_
  show GW l mX12_lead 0 [(0, .inr v0), (1, .inl v1), (2, .inl v2), (3, .inl v3)] [] σ 0 0 (PI K)
  refine gw_aload_n (q := 0) dX12_lead_0 rfl rfl ?_
  refine gw_iconst (v := 0) dX12_lead_1 ic_0 ?_
  obtain ⟨g1, h⟩ := h
  refine gw_pI fX12_135 dX12_lead_2 g1 (fun σ2 e2 => ?_)
  replace h := h σ2 e2
  refine gw_aload_n (q := 0) dX12_lead_5 rfl rfl ?_
  refine gw_iload_n (q := 1) dX12_lead_6 rfl rfl ?_
  refine gw_vC (bs := [.inl v1]) (st := []) (vmX12_isTape) lX12_181 dX12_lead_7 ⟨by decide, rfl, rfl, by decide, by decide⟩ (Nat.le_of_ble_eq_true rfl) rfl rfl (g1.up (n_w1 e2)) h (kI (fun x3 σ3 h n3 => ?_))
  refine gw_if_eq (tgt := 48) dX12_lead_10 (by decide) (fun c4 => ?_) (fun c4 => ?_)
  · replace h := h.1 c4
    refine gw_iconst (v := (-1)) dX12_lead_48 ic_m1 ?_
    exact gw_rI dX12_lead_49 rfl (by decide) (by decide) h
  · replace h := h.2 c4
    refine gw_aload_n (q := 0) dX12_lead_13 rfl rfl ?_
    refine gw_aload_n (q := 0) dX12_lead_14 rfl rfl ?_
    refine gw_gR fX12_51 dX12_lead_15 ((g1.up (n_w1 e2)).up n3) ?_
    refine gw_iload_n (q := 1) dX12_lead_18 rfl rfl ?_
    obtain ⟨g5, h⟩ := h
    refine gw_aI dX12_lead_19 g5 ?_
    refine gw_iload_n (q := 2) dX12_lead_20 rfl rfl ?_
    refine gw_vC (bs := [.inl (σ3.2.1 (σ3.2.2 v0 17) v1.toNatClampNeg), .inl v2]) (st := []) (vmX12_isPose) lX12_163 dX12_lead_21 ⟨by decide, rfl, rfl, by decide, by decide⟩ (Nat.le_of_ble_eq_true rfl) rfl rfl ((g1.up (n_w1 e2)).up n3) h (kI (fun x6 σ6 h n6 => ?_))
    refine gw_if_eq (tgt := 48) dX12_lead_24 (by decide) (fun c7 => ?_) (fun c7 => ?_)
    · replace h := h.1 c7
      refine gw_iconst (v := (-1)) dX12_lead_48 ic_m1 ?_
      exact gw_rI dX12_lead_49 rfl (by decide) (by decide) h
    · replace h := h.2 c7
      refine gw_iload_n (q := 3) dX12_lead_27 rfl rfl ?_
      refine gw_iconst (v := 0) dX12_lead_28 ic_0 ?_
      refine gw_bipush (v := 9) dX12_lead_29 bp_9 ?_
      refine gw_sC (bs := [.inl v3, .inl 0, .inl 9]) (st := []) smX12_in lX12_144 dX12_lead_31 ⟨by decide, rfl, rfl, by decide, by decide⟩ (Nat.le_of_ble_eq_true rfl) rfl rfl h (kI (fun x8 σ8 h n8 => ?_))
      refine gw_if_eq (tgt := 48) dX12_lead_34 (by decide) (fun c9 => ?_) (fun c9 => ?_)
      · replace h := h.1 c9
        refine gw_iconst (v := (-1)) dX12_lead_48 ic_m1 ?_
        exact gw_rI dX12_lead_49 rfl (by decide) (by decide) h
      · replace h := h.2 c9
        refine gw_aload_n (q := 0) dX12_lead_37 rfl rfl ?_
        refine gw_gR fX12_54 dX12_lead_38 ((((g1.up (n_w1 e2)).up n3).up n6).up n8) ?_
        refine gw_iload_n (q := 1) dX12_lead_41 rfl rfl ?_
        obtain ⟨g10, h⟩ := h
        refine gw_aI dX12_lead_42 g10 ?_
        refine gw_bipush (v := 40) dX12_lead_43 bp_40 ?_
        refine gw_icmp_ne (tgt := 50) dX12_lead_45 (by decide) (fun c11 => ?_) (fun c11 => ?_)
        · replace h := h.1 c11
          refine gw_bipush (v := 40) dX12_lead_50 bp_40 ?_
          refine gw_iload_n (q := 1) dX12_lead_52 rfl rfl ?_
          refine gw_imul dX12_lead_53 ?_
          refine gw_aload_n (q := 0) dX12_lead_54 rfl rfl ?_
          refine gw_gR fX12_54 dX12_lead_55 ((((g1.up (n_w1 e2)).up n3).up n6).up n8) ?_
          refine gw_iload_n (q := 1) dX12_lead_58 rfl rfl ?_
          refine gw_aI dX12_lead_59 g10 ?_
          refine gw_iadd dX12_lead_60 ?_
          refine gw_istore (lo' := [(0, .inr v0), (1, .inl v1), (2, .inl v2), (3, .inl v3), (4, .inl ((40 * v1) + (σ8.2.1 (σ8.2.2 v0 18) v1.toNatClampNeg)))]) dX12_lead_61 (by decide) rfl ?_
          refine gw_aload_n (q := 0) dX12_lead_63 rfl rfl ?_
          refine gw_gR fX12_54 dX12_lead_64 ((((g1.up (n_w1 e2)).up n3).up n6).up n8) ?_
          refine gw_iload_n (q := 1) dX12_lead_67 rfl rfl ?_
          refine gw_aI dX12_lead_68 g10 ?_
          refine gw_if_le (tgt := 98) dX12_lead_69 (by decide) (fun c14 => ?_) (fun c14 => ?_)
          · replace h := h.1 c14
            exact h
          · replace h := h.2 c14
            refine gw_aload_n (q := 0) dX12_lead_72 rfl rfl ?_
            refine gw_aload_n (q := 0) dX12_lead_73 rfl rfl ?_
            refine gw_gR fX12_51 dX12_lead_74 ((((g1.up (n_w1 e2)).up n3).up n6).up n8) ?_
            refine gw_iload_n (q := 1) dX12_lead_77 rfl rfl ?_
            obtain ⟨g15, h⟩ := h
            refine gw_aI dX12_lead_78 g15 ?_
            refine gw_aload_n (q := 0) dX12_lead_79 rfl rfl ?_
            refine gw_gR fX12_57 dX12_lead_80 ((((g1.up (n_w1 e2)).up n3).up n6).up n8) ?_
            refine gw_iload (q := 4) dX12_lead_83 rfl ?_
            refine gw_iconst (v := 1) dX12_lead_85 ic_1 ?_
            refine gw_isub dX12_lead_86 ?_
            obtain ⟨g16, h⟩ := h
            refine gw_aI dX12_lead_87 g16 ?_
            refine gw_iload_n (q := 2) dX12_lead_88 rfl rfl ?_
            refine gw_vC (bs := [.inl (σ8.2.1 (σ8.2.2 v0 17) v1.toNatClampNeg), .inl (σ8.2.1 (σ8.2.2 v0 19) (((40 * v1) + (σ8.2.1 (σ8.2.2 v0 18) v1.toNatClampNeg)) - 1).toNatClampNeg), .inl v2]) (st := []) (vmX12_hopOf) lX12_177 dX12_lead_89 ⟨by decide, rfl, rfl, by decide, by decide⟩ (Nat.le_of_ble_eq_true rfl) rfl rfl ((((g1.up (n_w1 e2)).up n3).up n6).up n8) h (kI (fun x17 σ17 h n17 => ?_))
            refine gw_iconst (v := 1) dX12_lead_92 ic_1 ?_
            refine gw_icmp_le (tgt := 98) dX12_lead_93 (by decide) (fun c18 => ?_) (fun c18 => ?_)
            · replace h := h.1 c18
              exact h
            · replace h := h.2 c18
              refine gw_iconst (v := (-1)) dX12_lead_96 ic_m1 ?_
              exact gw_rI dX12_lead_97 rfl (by decide) (by decide) h
        · replace h := h.2 c11
          refine gw_iconst (v := (-1)) dX12_lead_48 ic_m1 ?_
          exact gw_rI dX12_lead_49 rfl (by decide) (by decide) h
set_option maxHeartbeats 4000000 in
set_option maxRecDepth 20000 in
theorem gX12_look_41 {l : Launch} {v0 : Nat} {v1 : Int32} {v2 : Int32} {v3 : Int32} {t0 : Nat} {t1 : Int32} {σ : Sg} {K : Int32 → Sg → Prop} (h : Ob σ t0 12 ∧ ∀ σ2, σ2 = w1 σ t0 0 t1 → Ob σ2 v0 12 ∧ (((σ2.2.1 v0 0) = 0 → ((¬ v3 = 0 → ((¬ v3 = 1 → Ai σ2 (σ2.2.2 v0 17) v1 ∧ Ai σ2 (σ2.2.2 v0 19) ((40 * v1) + v2) ∧ ((¬ v3 = 2 → Con l mX12_tip [.inr v0, .inl (σ2.2.1 (σ2.2.2 v0 17) v1.toNatClampNeg), .inl (σ2.2.1 (σ2.2.2 v0 19) ((40 * v1) + v2).toNatClampNeg), .inl 0] σ2 (PI (fun x10 σ10 => K x10 σ10))) ∧ (v3 = 2 → Con l mX12_tip [.inr v0, .inl (σ2.2.1 (σ2.2.2 v0 17) v1.toNatClampNeg), .inl (σ2.2.1 (σ2.2.2 v0 19) ((40 * v1) + v2).toNatClampNeg), .inl 1] σ2 (PI (fun x11 σ11 => K x11 σ11))))) ∧ (v3 = 1 → Ai σ2 (σ2.2.2 v0 20) ((40 * v1) + v2) ∧ K (σ2.2.1 (σ2.2.2 v0 20) ((40 * v1) + v2).toNatClampNeg) σ2))) ∧ (v3 = 0 → Ai σ2 (σ2.2.2 v0 19) ((40 * v1) + v2) ∧ K (σ2.2.1 (σ2.2.2 v0 19) ((40 * v1) + v2).toNatClampNeg) σ2))) ∧ (¬ (σ2.2.1 v0 0) = 0 → K 0 σ2))) : GW l mX12_look 41 [(0, .inr v0), (1, .inl v1), (2, .inl v2), (3, .inl v3)] [.inl t1, .inr t0] σ 0 0 (PI K) := by
  obtain ⟨g1, h⟩ := h
  refine gw_pI fX12_135 dX12_look_41 g1 (fun σ2 e2 => ?_)
  replace h := h σ2 e2
  refine gw_aload_n (q := 0) dX12_look_44 rfl rfl ?_
  obtain ⟨g3, h⟩ := h
  refine gw_gI fX12_135 dX12_look_45 g3 ?_
  refine gw_if_eq (tgt := 53) dX12_look_48 (by decide) (fun c4 => ?_) (fun c4 => ?_)
  · replace h := h.1 c4
    refine gw_bipush (v := 40) dX12_look_53 bp_40 ?_
    refine gw_iload_n (q := 1) dX12_look_55 rfl rfl ?_
    refine gw_imul dX12_look_56 ?_
    refine gw_iload_n (q := 2) dX12_look_57 rfl rfl ?_
    refine gw_iadd dX12_look_58 ?_
    refine gw_istore (lo' := [(0, .inr v0), (1, .inl v1), (2, .inl v2), (3, .inl v3), (4, .inl ((40 * v1) + v2))]) dX12_look_59 (by decide) rfl ?_
    refine gw_iload_n (q := 3) dX12_look_61 rfl rfl ?_
    refine gw_if_ne (tgt := 75) dX12_look_62 (by decide) (fun c5 => ?_) (fun c5 => ?_)
    · replace h := h.1 c5
      refine gw_iload_n (q := 3) dX12_look_75 rfl rfl ?_
      refine gw_iconst (v := 1) dX12_look_76 ic_1 ?_
      refine gw_icmp_ne (tgt := 90) dX12_look_77 (by decide) (fun c6 => ?_) (fun c6 => ?_)
      · replace h := h.1 c6
        refine gw_aload_n (q := 0) dX12_look_90 rfl rfl ?_
        refine gw_aload_n (q := 0) dX12_look_91 rfl rfl ?_
        refine gw_gR fX12_51 dX12_look_92 g3 ?_
        refine gw_iload_n (q := 1) dX12_look_95 rfl rfl ?_
        obtain ⟨g7, h⟩ := h
        refine gw_aI dX12_look_96 g7 ?_
        refine gw_aload_n (q := 0) dX12_look_97 rfl rfl ?_
        refine gw_gR fX12_57 dX12_look_98 g3 ?_
        refine gw_iload (q := 4) dX12_look_101 rfl ?_
        obtain ⟨g8, h⟩ := h
        refine gw_aI dX12_look_103 g8 ?_
        refine gw_iload_n (q := 3) dX12_look_104 rfl rfl ?_
        refine gw_iconst (v := 2) dX12_look_105 ic_2 ?_
        refine gw_icmp_ne (tgt := 113) dX12_look_106 (by decide) (fun c9 => ?_) (fun c9 => ?_)
        · replace h := h.1 c9
          refine gw_iconst (v := 0) dX12_look_113 ic_0 ?_
          refine gw_vC (bs := [.inl (σ2.2.1 (σ2.2.2 v0 17) v1.toNatClampNeg), .inl (σ2.2.1 (σ2.2.2 v0 19) ((40 * v1) + v2).toNatClampNeg), .inl 0]) (st := []) (vmX12_tip) lX12_184 dX12_look_114 ⟨by decide, rfl, rfl, by decide, by decide⟩ (Nat.le_of_ble_eq_true rfl) rfl rfl g3 h (kI (fun x10 σ10 h n10 => ?_))
          exact gw_rI dX12_look_117 rfl (by decide) (by decide) h
        · replace h := h.2 c9
          refine gw_iconst (v := 1) dX12_look_109 ic_1 ?_
          refine gw_goto (tgt := 114) dX12_look_110 (by decide) ?_
          refine gw_vC (bs := [.inl (σ2.2.1 (σ2.2.2 v0 17) v1.toNatClampNeg), .inl (σ2.2.1 (σ2.2.2 v0 19) ((40 * v1) + v2).toNatClampNeg), .inl 1]) (st := []) (vmX12_tip) lX12_184 dX12_look_114 ⟨by decide, rfl, rfl, by decide, by decide⟩ (Nat.le_of_ble_eq_true rfl) rfl rfl g3 h (kI (fun x11 σ11 h n11 => ?_))
          exact gw_rI dX12_look_117 rfl (by decide) (by decide) h
      · replace h := h.2 c6
        refine gw_aload_n (q := 0) dX12_look_80 rfl rfl ?_
        refine gw_gR fX12_60 dX12_look_81 g3 ?_
        refine gw_iload (q := 4) dX12_look_84 rfl ?_
        obtain ⟨g12, h⟩ := h
        refine gw_aI dX12_look_86 g12 ?_
        refine gw_goto (tgt := 117) dX12_look_87 (by decide) ?_
        exact gw_rI dX12_look_117 rfl (by decide) (by decide) h
    · replace h := h.2 c5
      refine gw_aload_n (q := 0) dX12_look_65 rfl rfl ?_
      refine gw_gR fX12_57 dX12_look_66 g3 ?_
      refine gw_iload (q := 4) dX12_look_69 rfl ?_
      obtain ⟨g13, h⟩ := h
      refine gw_aI dX12_look_71 g13 ?_
      refine gw_goto (tgt := 117) dX12_look_72 (by decide) ?_
      exact gw_rI dX12_look_117 rfl (by decide) (by decide) h
  · replace h := h.2 c4
    refine gw_iconst (v := 0) dX12_look_51 ic_0 ?_
    exact gw_rI dX12_look_52 rfl (by decide) (by decide) h
set_option maxHeartbeats 4000000 in
set_option maxRecDepth 20000 in
theorem eX12_look {l : Launch} {v0 : Nat} {v1 : Int32} {v2 : Int32} {v3 : Int32} {σ : Sg} {K : Int32 → Sg → Prop} (h : Ob σ v0 12 ∧ Con l mX12_isTape [.inr v0, .inl v1] σ (PI (fun x1 σ1 => ((x1 = 0 → GW l mX12_look 41 [(0, .inr v0), (1, .inl v1), (2, .inl v2), (3, .inl v3)] [.inl 1, .inr v0] σ1 0 0 (PI K)) ∧ (¬ x1 = 0 → ((v2 < 0 → GW l mX12_look 41 [(0, .inr v0), (1, .inl v1), (2, .inl v2), (3, .inl v3)] [.inl 1, .inr v0] σ1 0 0 (PI K)) ∧ (¬ v2 < 0 → Ai σ1 (σ1.2.2 v0 18) v1 ∧ ((v2 < (σ1.2.1 (σ1.2.2 v0 18) v1.toNatClampNeg) → ((v3 < 0 → GW l mX12_look 41 [(0, .inr v0), (1, .inl v1), (2, .inl v2), (3, .inl v3)] [.inl 2, .inr v0] σ1 0 0 (PI K)) ∧ (¬ v3 < 0 → ((v3 ≤ 3 → GW l mX12_look 41 [(0, .inr v0), (1, .inl v1), (2, .inl v2), (3, .inl v3)] [.inl 0, .inr v0] σ1 0 0 (PI K)) ∧ (¬ v3 ≤ 3 → GW l mX12_look 41 [(0, .inr v0), (1, .inl v1), (2, .inl v2), (3, .inl v3)] [.inl 2, .inr v0] σ1 0 0 (PI K)))))) ∧ (¬ v2 < (σ1.2.1 (σ1.2.2 v0 18) v1.toNatClampNeg) → GW l mX12_look 41 [(0, .inr v0), (1, .inl v1), (2, .inl v2), (3, .inl v3)] [.inl 1, .inr v0] σ1 0 0 (PI K)))))))))) : Con l mX12_look [.inr v0, .inl v1, .inl v2, .inl v3] σ (PI K) := by
  refine con_gw rfl (Nat.le_of_ble_eq_true rfl) ?_
  show GW l mX12_look 0 [(0, .inr v0), (1, .inl v1), (2, .inl v2), (3, .inl v3)] [] σ 0 0 (PI K)
  refine gw_aload_n (q := 0) dX12_look_0 rfl rfl ?_
  refine gw_aload_n (q := 0) dX12_look_1 rfl rfl ?_
  refine gw_iload_n (q := 1) dX12_look_2 rfl rfl ?_
  obtain ⟨g2, h⟩ := h
  refine gw_vC (bs := [.inl v1]) (st := [.inr v0]) (vmX12_isTape) lX12_181 dX12_look_3 ⟨by decide, rfl, rfl, by decide, by decide⟩ (Nat.le_of_ble_eq_true rfl) rfl rfl g2 h (kI (fun x1 σ1 h n1 => ?_))
  refine gw_if_eq (tgt := 23) dX12_look_6 (by decide) (fun c3 => ?_) (fun c3 => ?_)
  · replace h := h.1 c3
    refine gw_iconst (v := 1) dX12_look_23 ic_1 ?_
    refine gw_goto (tgt := 41) dX12_look_24 (by decide) ?_
    exact h
  · replace h := h.2 c3
    refine gw_iload_n (q := 2) dX12_look_9 rfl rfl ?_
    refine gw_if_lt (tgt := 23) dX12_look_10 (by decide) (fun c4 => ?_) (fun c4 => ?_)
    · replace h := h.1 c4
      refine gw_iconst (v := 1) dX12_look_23 ic_1 ?_
      refine gw_goto (tgt := 41) dX12_look_24 (by decide) ?_
      exact h
    · replace h := h.2 c4
      refine gw_iload_n (q := 2) dX12_look_13 rfl rfl ?_
      refine gw_aload_n (q := 0) dX12_look_14 rfl rfl ?_
      refine gw_gR fX12_54 dX12_look_15 (g2.up n1) ?_
      refine gw_iload_n (q := 1) dX12_look_18 rfl rfl ?_
      obtain ⟨g5, h⟩ := h
      refine gw_aI dX12_look_19 g5 ?_
      refine gw_icmp_lt (tgt := 27) dX12_look_20 (by decide) (fun c6 => ?_) (fun c6 => ?_)
      · replace h := h.1 c6
        refine gw_iload_n (q := 3) dX12_look_27 rfl rfl ?_
        refine gw_if_lt (tgt := 36) dX12_look_28 (by decide) (fun c7 => ?_) (fun c7 => ?_)
        · replace h := h.1 c7
          refine gw_iconst (v := 2) dX12_look_36 ic_2 ?_
          refine gw_goto (tgt := 41) dX12_look_37 (by decide) ?_
          exact h
        · replace h := h.2 c7
          refine gw_iload_n (q := 3) dX12_look_31 rfl rfl ?_
          refine gw_iconst (v := 3) dX12_look_32 ic_3 ?_
          refine gw_icmp_le (tgt := 40) dX12_look_33 (by decide) (fun c8 => ?_) (fun c8 => ?_)
          · replace h := h.1 c8
            refine gw_iconst (v := 0) dX12_look_40 ic_0 ?_
            exact h
          · replace h := h.2 c8
            refine gw_iconst (v := 2) dX12_look_36 ic_2 ?_
            refine gw_goto (tgt := 41) dX12_look_37 (by decide) ?_
            exact h
      · replace h := h.2 c6
        refine gw_iconst (v := 1) dX12_look_23 ic_1 ?_
        refine gw_goto (tgt := 41) dX12_look_24 (by decide) ?_
        exact h
set_option maxHeartbeats 4000000 in
set_option maxRecDepth 20000 in
theorem eX12_about {l : Launch} {v0 : Nat} {v1 : Int32} {v2 : Int32} {σ : Sg} {K : Int32 → Sg → Prop} (h : Ob σ v0 12 ∧ ∀ σ2, σ2 = w1 σ v0 0 0 → Con l mX12_isTape [.inr v0, .inl v1] σ2 (PI (fun x3 σ3 => ((x3 = 0 → K (-1) σ3) ∧ (¬ x3 = 0 → ((v2 < 0 → K (-1) σ3) ∧ (¬ v2 < 0 → ((v2 ≤ 1 → ((¬ v2 = 0 → Ai σ3 (σ3.2.2 v0 18) v1 ∧ K (σ3.2.1 (σ3.2.2 v0 18) v1.toNatClampNeg) σ3) ∧ (v2 = 0 → Ai σ3 (σ3.2.2 v0 17) v1 ∧ K (σ3.2.1 (σ3.2.2 v0 17) v1.toNatClampNeg) σ3))) ∧ (¬ v2 ≤ 1 → K (-1) σ3))))))))) : Con l mX12_about [.inr v0, .inl v1, .inl v2] σ (PI K) := by
  refine con_gw rfl (Nat.le_of_ble_eq_true rfl) ?_
  show GW l mX12_about 0 [(0, .inr v0), (1, .inl v1), (2, .inl v2)] [] σ 0 0 (PI K)
  refine gw_aload_n (q := 0) dX12_about_0 rfl rfl ?_
  refine gw_iconst (v := 0) dX12_about_1 ic_0 ?_
  obtain ⟨g1, h⟩ := h
  refine gw_pI fX12_135 dX12_about_2 g1 (fun σ2 e2 => ?_)
  replace h := h σ2 e2
  refine gw_aload_n (q := 0) dX12_about_5 rfl rfl ?_
  refine gw_iload_n (q := 1) dX12_about_6 rfl rfl ?_
  refine gw_vC (bs := [.inl v1]) (st := []) (vmX12_isTape) lX12_181 dX12_about_7 ⟨by decide, rfl, rfl, by decide, by decide⟩ (Nat.le_of_ble_eq_true rfl) rfl rfl (g1.up (n_w1 e2)) h (kI (fun x3 σ3 h n3 => ?_))
  refine gw_if_eq (tgt := 22) dX12_about_10 (by decide) (fun c4 => ?_) (fun c4 => ?_)
  · replace h := h.1 c4
    refine gw_iconst (v := (-1)) dX12_about_22 ic_m1 ?_
    refine gw_goto (tgt := 45) dX12_about_23 (by decide) ?_
    exact gw_rI dX12_about_45 rfl (by decide) (by decide) h
  · replace h := h.2 c4
    refine gw_iload_n (q := 2) dX12_about_13 rfl rfl ?_
    refine gw_if_lt (tgt := 22) dX12_about_14 (by decide) (fun c5 => ?_) (fun c5 => ?_)
    · replace h := h.1 c5
      refine gw_iconst (v := (-1)) dX12_about_22 ic_m1 ?_
      refine gw_goto (tgt := 45) dX12_about_23 (by decide) ?_
      exact gw_rI dX12_about_45 rfl (by decide) (by decide) h
    · replace h := h.2 c5
      refine gw_iload_n (q := 2) dX12_about_17 rfl rfl ?_
      refine gw_iconst (v := 1) dX12_about_18 ic_1 ?_
      refine gw_icmp_le (tgt := 26) dX12_about_19 (by decide) (fun c6 => ?_) (fun c6 => ?_)
      · replace h := h.1 c6
        refine gw_iload_n (q := 2) dX12_about_26 rfl rfl ?_
        refine gw_if_ne (tgt := 39) dX12_about_27 (by decide) (fun c7 => ?_) (fun c7 => ?_)
        · replace h := h.1 c7
          refine gw_aload_n (q := 0) dX12_about_39 rfl rfl ?_
          refine gw_gR fX12_54 dX12_about_40 ((g1.up (n_w1 e2)).up n3) ?_
          refine gw_iload_n (q := 1) dX12_about_43 rfl rfl ?_
          obtain ⟨g8, h⟩ := h
          refine gw_aI dX12_about_44 g8 ?_
          exact gw_rI dX12_about_45 rfl (by decide) (by decide) h
        · replace h := h.2 c7
          refine gw_aload_n (q := 0) dX12_about_30 rfl rfl ?_
          refine gw_gR fX12_51 dX12_about_31 ((g1.up (n_w1 e2)).up n3) ?_
          refine gw_iload_n (q := 1) dX12_about_34 rfl rfl ?_
          obtain ⟨g9, h⟩ := h
          refine gw_aI dX12_about_35 g9 ?_
          refine gw_goto (tgt := 45) dX12_about_36 (by decide) ?_
          exact gw_rI dX12_about_45 rfl (by decide) (by decide) h
      · replace h := h.2 c6
        refine gw_iconst (v := (-1)) dX12_about_22 ic_m1 ?_
        refine gw_goto (tgt := 45) dX12_about_23 (by decide) ?_
        exact gw_rI dX12_about_45 rfl (by decide) (by decide) h
set_option maxHeartbeats 4000000 in
set_option maxRecDepth 20000 in
theorem eX12_here {l : Launch} {v0 : Nat} {σ : Sg} {K : Int32 → Sg → Prop} (h : Ob σ v0 12 ∧ (((σ.2.1 v0 22) ≤ (σ.2.1 v0 23) → K (-1) σ) ∧ (¬ (σ.2.1 v0 22) ≤ (σ.2.1 v0 23) → Ai σ (σ.2.2 v0 1) (σ.2.1 v0 23) ∧ K (σ.2.1 (σ.2.2 v0 1) (σ.2.1 v0 23).toNatClampNeg) σ))) : Con l mX12_here [.inr v0] σ (PI K) := by
  refine con_gw rfl (Nat.le_of_ble_eq_true rfl) ?_
  show GW l mX12_here 0 [(0, .inr v0)] [] σ 0 0 (PI K)
  refine gw_aload_n (q := 0) dX12_here_0 rfl rfl ?_
  obtain ⟨g1, h⟩ := h
  refine gw_gI fX12_188 dX12_here_1 g1 ?_
  refine gw_aload_n (q := 0) dX12_here_4 rfl rfl ?_
  refine gw_gI fX12_191 dX12_here_5 g1 ?_
  refine gw_icmp_ge (tgt := 23) dX12_here_8 (by decide) (fun c2 => ?_) (fun c2 => ?_)
  · replace h := h.1 c2
    refine gw_iconst (v := (-1)) dX12_here_23 ic_m1 ?_
    exact gw_rI dX12_here_24 rfl (by decide) (by decide) h
  · replace h := h.2 c2
    refine gw_aload_n (q := 0) dX12_here_11 rfl rfl ?_
    refine gw_gR fX12_9 dX12_here_12 g1 ?_
    refine gw_aload_n (q := 0) dX12_here_15 rfl rfl ?_
    refine gw_gI fX12_188 dX12_here_16 g1 ?_
    obtain ⟨g3, h⟩ := h
    refine gw_aI dX12_here_19 g3 ?_
    refine gw_goto (tgt := 24) dX12_here_20 (by decide) ?_
    exact gw_rI dX12_here_24 rfl (by decide) (by decide) h
set_option maxHeartbeats 4000000 in
set_option maxRecDepth 20000 in
theorem eX12_isSmall {l : Launch} {v0 : Int32} {σ : Sg} {K : Int32 → Sg → Prop} (h : ((v0 < 97 → K 0 σ) ∧ (¬ v0 < 97 → ((122 < v0 → K 0 σ) ∧ (¬ 122 < v0 → K 1 σ))))) : Con l mX12_isSmall [.inl v0] σ (PI K) := by
  refine con_gw rfl (Nat.le_of_ble_eq_true rfl) ?_
  show GW l mX12_isSmall 0 [(0, .inl v0)] [] σ 0 0 (PI K)
  refine gw_iload_n (q := 0) dX12_isSmall_0 rfl rfl ?_
  refine gw_bipush (v := 97) dX12_isSmall_1 bp_97 ?_
  refine gw_icmp_lt (tgt := 16) dX12_isSmall_3 (by decide) (fun c1 => ?_) (fun c1 => ?_)
  · replace h := h.1 c1
    refine gw_iconst (v := 0) dX12_isSmall_16 ic_0 ?_
    exact gw_rZ dX12_isSmall_17 rfl (by decide) (by decide) (by decide) h
  · replace h := h.2 c1
    refine gw_iload_n (q := 0) dX12_isSmall_6 rfl rfl ?_
    refine gw_bipush (v := 122) dX12_isSmall_7 bp_122 ?_
    refine gw_icmp_gt (tgt := 16) dX12_isSmall_9 (by decide) (fun c2 => ?_) (fun c2 => ?_)
    · replace h := h.1 c2
      refine gw_iconst (v := 0) dX12_isSmall_16 ic_0 ?_
      exact gw_rZ dX12_isSmall_17 rfl (by decide) (by decide) (by decide) h
    · replace h := h.2 c2
      refine gw_iconst (v := 1) dX12_isSmall_12 ic_1 ?_
      refine gw_goto (tgt := 17) dX12_isSmall_13 (by decide) ?_
      exact gw_rZ dX12_isSmall_17 rfl (by decide) (by decide) (by decide) h
set_option maxHeartbeats 4000000 in
set_option maxRecDepth 20000 in
theorem eX12_isDigit {l : Launch} {v0 : Int32} {σ : Sg} {K : Int32 → Sg → Prop} (h : ((v0 < 48 → K 0 σ) ∧ (¬ v0 < 48 → ((57 < v0 → K 0 σ) ∧ (¬ 57 < v0 → K 1 σ))))) : Con l mX12_isDigit [.inl v0] σ (PI K) := by
  refine con_gw rfl (Nat.le_of_ble_eq_true rfl) ?_
  show GW l mX12_isDigit 0 [(0, .inl v0)] [] σ 0 0 (PI K)
  refine gw_iload_n (q := 0) dX12_isDigit_0 rfl rfl ?_
  refine gw_bipush (v := 48) dX12_isDigit_1 bp_48 ?_
  refine gw_icmp_lt (tgt := 16) dX12_isDigit_3 (by decide) (fun c1 => ?_) (fun c1 => ?_)
  · replace h := h.1 c1
    refine gw_iconst (v := 0) dX12_isDigit_16 ic_0 ?_
    exact gw_rZ dX12_isDigit_17 rfl (by decide) (by decide) (by decide) h
  · replace h := h.2 c1
    refine gw_iload_n (q := 0) dX12_isDigit_6 rfl rfl ?_
    refine gw_bipush (v := 57) dX12_isDigit_7 bp_57 ?_
    refine gw_icmp_gt (tgt := 16) dX12_isDigit_9 (by decide) (fun c2 => ?_) (fun c2 => ?_)
    · replace h := h.1 c2
      refine gw_iconst (v := 0) dX12_isDigit_16 ic_0 ?_
      exact gw_rZ dX12_isDigit_17 rfl (by decide) (by decide) (by decide) h
    · replace h := h.2 c2
      refine gw_iconst (v := 1) dX12_isDigit_12 ic_1 ?_
      refine gw_goto (tgt := 17) dX12_isDigit_13 (by decide) ?_
      exact gw_rZ dX12_isDigit_17 rfl (by decide) (by decide) (by decide) h
set_option maxHeartbeats 4000000 in
set_option maxRecDepth 20000 in
theorem gX12_next_132 {l : Launch} {v0 : Nat} {v1 : Int32} {σ : Sg} {K : Sg → Prop} (h : Ob σ v0 12 ∧ Con l mX12_here [.inr v0] σ (PI (fun x1 σ1 => Con l mX12_isDigit [.inl x1] σ1 (PI (fun x3 σ3 => ((x3 = 0 → K σ3) ∧ (¬ x3 = 0 → (((σ3.2.1 v0 26) ≤ 99 → Con l mX12_here [.inr v0] σ3 (PI (fun x6 σ6 => ∀ σ7, σ7 = w1 σ6 v0 26 (((10 * (σ3.2.1 v0 26)) + x6) - 48) → ∀ σ8, σ8 = w1 σ7 v0 23 ((σ7.2.1 v0 23) + 1) → GW l mX12_next 132 [(0, .inr v0), (1, .inl v1)] [] σ8 0 0 (PV K)))) ∧ (¬ (σ3.2.1 v0 26) ≤ 99 → ∀ σ9, σ9 = w1 σ3 v0 26 (σ3.2.1 v0 26) → ∀ σ10, σ10 = w1 σ9 v0 23 ((σ9.2.1 v0 23) + 1) → GW l mX12_next 132 [(0, .inr v0), (1, .inl v1)] [] σ10 0 0 (PV K)))))))))) : GW l mX12_next 132 [(0, .inr v0), (1, .inl v1)] [] σ 0 0 (PV K) := by
  refine gw_aload_n (q := 0) dX12_next_132 rfl rfl ?_
  obtain ⟨g2, h⟩ := h
  refine gw_vC (bs := []) (st := []) (vmX12_here) lX12_194 dX12_next_133 ⟨by decide, rfl, rfl, by decide, by decide⟩ (Nat.le_of_ble_eq_true rfl) rfl rfl g2 h (kI (fun x1 σ1 h n1 => ?_))
  refine gw_sC (bs := [.inl x1]) (st := []) smX12_isDigit lX12_213 dX12_next_136 ⟨by decide, rfl, rfl, by decide, by decide⟩ (Nat.le_of_ble_eq_true rfl) rfl rfl h (kI (fun x3 σ3 h n3 => ?_))
  refine gw_if_eq (tgt := 215) dX12_next_139 (by decide) (fun c4 => ?_) (fun c4 => ?_)
  · replace h := h.1 c4
    exact gw_rV dX12_next_215 rfl (by decide) (by decide) h
  · replace h := h.2 c4
    refine gw_aload_n (q := 0) dX12_next_142 rfl rfl ?_
    refine gw_aload_n (q := 0) dX12_next_143 rfl rfl ?_
    refine gw_gI fX12_210 dX12_next_144 ((g2.up n1).up n3) ?_
    refine gw_bipush (v := 99) dX12_next_147 bp_99 ?_
    refine gw_icmp_le (tgt := 159) dX12_next_149 (by decide) (fun c5 => ?_) (fun c5 => ?_)
    · replace h := h.1 c5
      refine gw_bipush (v := 10) dX12_next_159 bp_10 ?_
      refine gw_aload_n (q := 0) dX12_next_161 rfl rfl ?_
      refine gw_gI fX12_210 dX12_next_162 ((g2.up n1).up n3) ?_
      refine gw_imul dX12_next_165 ?_
      refine gw_aload_n (q := 0) dX12_next_166 rfl rfl ?_
      refine gw_vC (bs := []) (st := [.inl (10 * (σ3.2.1 v0 26)), .inr v0]) (vmX12_here) lX12_194 dX12_next_167 ⟨by decide, rfl, rfl, by decide, by decide⟩ (Nat.le_of_ble_eq_true rfl) rfl rfl ((g2.up n1).up n3) h (kI (fun x6 σ6 h n6 => ?_))
      refine gw_iadd dX12_next_170 ?_
      refine gw_bipush (v := 48) dX12_next_171 bp_48 ?_
      refine gw_isub dX12_next_173 ?_
      refine gw_pI fX12_210 dX12_next_174 (((g2.up n1).up n3).up n6) (fun σ7 e7 => ?_)
      replace h := h σ7 e7
      refine gw_aload_n (q := 0) dX12_next_177 rfl rfl ?_
      refine gw_dup dX12_next_178 ?_
      refine gw_gI fX12_188 dX12_next_179 ((((g2.up n1).up n3).up n6).up (n_w1 e7)) ?_
      refine gw_iconst (v := 1) dX12_next_182 ic_1 ?_
      refine gw_iadd dX12_next_183 ?_
      refine gw_pI fX12_188 dX12_next_184 ((((g2.up n1).up n3).up n6).up (n_w1 e7)) (fun σ8 e8 => ?_)
      replace h := h σ8 e8
      refine gw_goto (tgt := 132) dX12_next_187 (by decide) ?_
      exact h
    · replace h := h.2 c5
      refine gw_aload_n (q := 0) dX12_next_152 rfl rfl ?_
      refine gw_gI fX12_210 dX12_next_153 ((g2.up n1).up n3) ?_
      refine gw_goto (tgt := 174) dX12_next_156 (by decide) ?_
      refine gw_pI fX12_210 dX12_next_174 ((g2.up n1).up n3) (fun σ9 e9 => ?_)
      replace h := h σ9 e9
      refine gw_aload_n (q := 0) dX12_next_177 rfl rfl ?_
      refine gw_dup dX12_next_178 ?_
      refine gw_gI fX12_188 dX12_next_179 (((g2.up n1).up n3).up (n_w1 e9)) ?_
      refine gw_iconst (v := 1) dX12_next_182 ic_1 ?_
      refine gw_iadd dX12_next_183 ?_
      refine gw_pI fX12_188 dX12_next_184 (((g2.up n1).up n3).up (n_w1 e9)) (fun σ10 e10 => ?_)
      replace h := h σ10 e10
      refine gw_goto (tgt := 132) dX12_next_187 (by decide) ?_
      exact h
set_option maxHeartbeats 4000000 in
set_option maxRecDepth 20000 in
theorem gX12_next_64 {l : Launch} {v0 : Nat} {v1 : Int32} {σ : Sg} {K : Sg → Prop} (h : Ob σ v0 12 ∧ Con l mX12_here [.inr v0] σ (PI (fun x1 σ1 => Con l mX12_isSmall [.inl x1] σ1 (PI (fun x3 σ3 => ((x3 = 0 → Con l mX12_word [.inr v0] σ3 (PI (fun x5 σ5 => ∀ σ6, σ6 = w1 σ5 v0 26 x5 → ((¬ (σ6.2.1 v0 26) = (-1) → ∀ σ8, σ8 = w1 σ6 v0 25 0 → K σ8) ∧ ((σ6.2.1 v0 26) = (-1) → ∀ σ9, σ9 = w1 σ6 v0 25 4 → K σ9))))) ∧ (¬ x3 = 0 → ∀ σ10, σ10 = w1 σ3 v0 23 ((σ3.2.1 v0 23) + 1) → GW l mX12_next 64 [(0, .inr v0), (1, .inl v1)] [] σ10 0 0 (PV K)))))))) : GW l mX12_next 64 [(0, .inr v0), (1, .inl v1)] [] σ 0 0 (PV K) := by
  refine gw_aload_n (q := 0) dX12_next_64 rfl rfl ?_
  obtain ⟨g2, h⟩ := h
  refine gw_vC (bs := []) (st := []) (vmX12_here) lX12_194 dX12_next_65 ⟨by decide, rfl, rfl, by decide, by decide⟩ (Nat.le_of_ble_eq_true rfl) rfl rfl g2 h (kI (fun x1 σ1 h n1 => ?_))
  refine gw_sC (bs := [.inl x1]) (st := []) smX12_isSmall lX12_204 dX12_next_68 ⟨by decide, rfl, rfl, by decide, by decide⟩ (Nat.le_of_ble_eq_true rfl) rfl rfl h (kI (fun x3 σ3 h n3 => ?_))
  refine gw_if_eq (tgt := 87) dX12_next_71 (by decide) (fun c4 => ?_) (fun c4 => ?_)
  · replace h := h.1 c4
    refine gw_aload_n (q := 0) dX12_next_87 rfl rfl ?_
    refine gw_aload_n (q := 0) dX12_next_88 rfl rfl ?_
    refine gw_vC (bs := []) (st := [.inr v0]) (vmX12_word) lX12_207 dX12_next_89 ⟨by decide, rfl, rfl, by decide, by decide⟩ (Nat.le_of_ble_eq_true rfl) rfl rfl ((g2.up n1).up n3) h (kI (fun x5 σ5 h n5 => ?_))
    refine gw_pI fX12_210 dX12_next_92 (((g2.up n1).up n3).up n5) (fun σ6 e6 => ?_)
    replace h := h σ6 e6
    refine gw_aload_n (q := 0) dX12_next_95 rfl rfl ?_
    refine gw_aload_n (q := 0) dX12_next_96 rfl rfl ?_
    refine gw_gI fX12_210 dX12_next_97 ((((g2.up n1).up n3).up n5).up (n_w1 e6)) ?_
    refine gw_iconst (v := (-1)) dX12_next_100 ic_m1 ?_
    refine gw_icmp_ne (tgt := 108) dX12_next_101 (by decide) (fun c7 => ?_) (fun c7 => ?_)
    · replace h := h.1 c7
      refine gw_iconst (v := 0) dX12_next_108 ic_0 ?_
      refine gw_pI fX12_201 dX12_next_109 ((((g2.up n1).up n3).up n5).up (n_w1 e6)) (fun σ8 e8 => ?_)
      replace h := h σ8 e8
      refine gw_goto (tgt := 215) dX12_next_112 (by decide) ?_
      exact gw_rV dX12_next_215 rfl (by decide) (by decide) h
    · replace h := h.2 c7
      refine gw_iconst (v := 4) dX12_next_104 ic_4 ?_
      refine gw_goto (tgt := 109) dX12_next_105 (by decide) ?_
      refine gw_pI fX12_201 dX12_next_109 ((((g2.up n1).up n3).up n5).up (n_w1 e6)) (fun σ9 e9 => ?_)
      replace h := h σ9 e9
      refine gw_goto (tgt := 215) dX12_next_112 (by decide) ?_
      exact gw_rV dX12_next_215 rfl (by decide) (by decide) h
  · replace h := h.2 c4
    refine gw_aload_n (q := 0) dX12_next_74 rfl rfl ?_
    refine gw_dup dX12_next_75 ?_
    refine gw_gI fX12_188 dX12_next_76 ((g2.up n1).up n3) ?_
    refine gw_iconst (v := 1) dX12_next_79 ic_1 ?_
    refine gw_iadd dX12_next_80 ?_
    refine gw_pI fX12_188 dX12_next_81 ((g2.up n1).up n3) (fun σ10 e10 => ?_)
    replace h := h σ10 e10
    refine gw_goto (tgt := 64) dX12_next_84 (by decide) ?_
    exact h
set_option maxHeartbeats 4000000 in
set_option maxRecDepth 20000 in
theorem gX12_next_0 {l : Launch} {v0 : Nat} {σ : Sg} {K : Sg → Prop} (h : Ob σ v0 12 ∧ Con l mX12_here [.inr v0] σ (PI (fun x1 σ1 => ((x1 = 10 → ∀ σ4, σ4 = w1 σ1 v0 23 ((σ1.2.1 v0 23) + 1) → GW l mX12_next 0 [(0, .inr v0)] [] σ4 0 0 (PV K)) ∧ (¬ x1 = 10 → Con l mX12_here [.inr v0] σ1 (PI (fun x5 σ5 => ((¬ x5 = 32 → ∀ σ7, σ7 = w1 σ5 v0 24 (σ5.2.1 v0 23) → Con l mX12_here [.inr v0] σ7 (PI (fun x8 σ8 => ((¬ x8 = (-1) → Con l mX12_isSmall [.inl x8] σ8 (PI (fun x10 σ10 => ((x10 = 0 → Con l mX12_isDigit [.inl x8] σ10 (PI (fun x12 σ12 => ((x12 = 0 → ((¬ x8 = 59 → ∀ σ15, σ15 = w1 σ12 v0 25 4 → ∀ σ16, σ16 = w1 σ15 v0 23 ((σ15.2.1 v0 23) + 1) → K σ16) ∧ (x8 = 59 → ∀ σ17, σ17 = w1 σ12 v0 25 2 → ∀ σ18, σ18 = w1 σ17 v0 23 ((σ17.2.1 v0 23) + 1) → K σ18))) ∧ (¬ x12 = 0 → ∀ σ19, σ19 = w1 σ12 v0 25 1 → ∀ σ20, σ20 = w1 σ19 v0 26 0 → GW l mX12_next 132 [(0, .inr v0), (1, .inl x8)] [] σ20 0 0 (PV K)))))) ∧ (¬ x10 = 0 → GW l mX12_next 64 [(0, .inr v0), (1, .inl x8)] [] σ10 0 0 (PV K)))))) ∧ (x8 = (-1) → ∀ σ21, σ21 = w1 σ8 v0 25 3 → K σ21))))) ∧ (x5 = 32 → ∀ σ22, σ22 = w1 σ5 v0 23 ((σ5.2.1 v0 23) + 1) → GW l mX12_next 0 [(0, .inr v0)] [] σ22 0 0 (PV K)))))))))) : GW l mX12_next 0 [(0, .inr v0)] [] σ 0 0 (PV K) := by
  refine gw_aload_n (q := 0) dX12_next_0 rfl rfl ?_
  obtain ⟨g2, h⟩ := h
  refine gw_vC (bs := []) (st := []) (vmX12_here) lX12_194 dX12_next_1 ⟨by decide, rfl, rfl, by decide, by decide⟩ (Nat.le_of_ble_eq_true rfl) rfl rfl g2 h (kI (fun x1 σ1 h n1 => ?_))
  refine gw_bipush (v := 10) dX12_next_4 bp_10 ?_
  refine gw_icmp_eq (tgt := 18) dX12_next_6 (by decide) (fun c3 => ?_) (fun c3 => ?_)
  · replace h := h.1 c3
    refine gw_aload_n (q := 0) dX12_next_18 rfl rfl ?_
    refine gw_dup dX12_next_19 ?_
    refine gw_gI fX12_188 dX12_next_20 (g2.up n1) ?_
    refine gw_iconst (v := 1) dX12_next_23 ic_1 ?_
    refine gw_iadd dX12_next_24 ?_
    refine gw_pI fX12_188 dX12_next_25 (g2.up n1) (fun σ4 e4 => ?_)
    replace h := h σ4 e4
    refine gw_goto (tgt := 0) dX12_next_28 (by decide) ?_
    exact h
  · replace h := h.2 c3
    refine gw_aload_n (q := 0) dX12_next_9 rfl rfl ?_
    refine gw_vC (bs := []) (st := []) (vmX12_here) lX12_194 dX12_next_10 ⟨by decide, rfl, rfl, by decide, by decide⟩ (Nat.le_of_ble_eq_true rfl) rfl rfl (g2.up n1) h (kI (fun x5 σ5 h n5 => ?_))
    refine gw_bipush (v := 32) dX12_next_13 bp_32 ?_
    refine gw_icmp_ne (tgt := 31) dX12_next_15 (by decide) (fun c6 => ?_) (fun c6 => ?_)
    · replace h := h.1 c6
      refine gw_aload_n (q := 0) dX12_next_31 rfl rfl ?_
      refine gw_aload_n (q := 0) dX12_next_32 rfl rfl ?_
      refine gw_gI fX12_188 dX12_next_33 ((g2.up n1).up n5) ?_
      refine gw_pI fX12_198 dX12_next_36 ((g2.up n1).up n5) (fun σ7 e7 => ?_)
      replace h := h σ7 e7
      refine gw_aload_n (q := 0) dX12_next_39 rfl rfl ?_
      refine gw_vC (bs := []) (st := []) (vmX12_here) lX12_194 dX12_next_40 ⟨by decide, rfl, rfl, by decide, by decide⟩ (Nat.le_of_ble_eq_true rfl) rfl rfl (((g2.up n1).up n5).up (n_w1 e7)) h (kI (fun x8 σ8 h n8 => ?_))
      refine gw_istore_n (lo' := [(0, .inr v0), (1, .inl x8)]) dX12_next_43 rfl (by decide) rfl ?_
      refine gw_iload_n (q := 1) dX12_next_44 rfl rfl ?_
      refine gw_iconst (v := (-1)) dX12_next_45 ic_m1 ?_
      refine gw_icmp_ne (tgt := 57) dX12_next_46 (by decide) (fun c9 => ?_) (fun c9 => ?_)
      · replace h := h.1 c9
        refine gw_iload_n (q := 1) dX12_next_57 rfl rfl ?_
        refine gw_sC (bs := [.inl x8]) (st := []) smX12_isSmall lX12_204 dX12_next_58 ⟨by decide, rfl, rfl, by decide, by decide⟩ (Nat.le_of_ble_eq_true rfl) rfl rfl h (kI (fun x10 σ10 h n10 => ?_))
        refine gw_if_eq (tgt := 115) dX12_next_61 (by decide) (fun c11 => ?_) (fun c11 => ?_)
        · replace h := h.1 c11
          refine gw_iload_n (q := 1) dX12_next_115 rfl rfl ?_
          refine gw_sC (bs := [.inl x8]) (st := []) smX12_isDigit lX12_213 dX12_next_116 ⟨by decide, rfl, rfl, by decide, by decide⟩ (Nat.le_of_ble_eq_true rfl) rfl rfl h (kI (fun x12 σ12 h n12 => ?_))
          refine gw_if_eq (tgt := 190) dX12_next_119 (by decide) (fun c13 => ?_) (fun c13 => ?_)
          · replace h := h.1 c13
            refine gw_aload_n (q := 0) dX12_next_190 rfl rfl ?_
            refine gw_iload_n (q := 1) dX12_next_191 rfl rfl ?_
            refine gw_bipush (v := 59) dX12_next_192 bp_59 ?_
            refine gw_icmp_ne (tgt := 201) dX12_next_194 (by decide) (fun c14 => ?_) (fun c14 => ?_)
            · replace h := h.1 c14
              refine gw_iconst (v := 4) dX12_next_201 ic_4 ?_
              refine gw_pI fX12_201 dX12_next_202 ((((((g2.up n1).up n5).up (n_w1 e7)).up n8).up n10).up n12) (fun σ15 e15 => ?_)
              replace h := h σ15 e15
              refine gw_aload_n (q := 0) dX12_next_205 rfl rfl ?_
              refine gw_dup dX12_next_206 ?_
              refine gw_gI fX12_188 dX12_next_207 (((((((g2.up n1).up n5).up (n_w1 e7)).up n8).up n10).up n12).up (n_w1 e15)) ?_
              refine gw_iconst (v := 1) dX12_next_210 ic_1 ?_
              refine gw_iadd dX12_next_211 ?_
              refine gw_pI fX12_188 dX12_next_212 (((((((g2.up n1).up n5).up (n_w1 e7)).up n8).up n10).up n12).up (n_w1 e15)) (fun σ16 e16 => ?_)
              replace h := h σ16 e16
              exact gw_rV dX12_next_215 rfl (by decide) (by decide) h
            · replace h := h.2 c14
              refine gw_iconst (v := 2) dX12_next_197 ic_2 ?_
              refine gw_goto (tgt := 202) dX12_next_198 (by decide) ?_
              refine gw_pI fX12_201 dX12_next_202 ((((((g2.up n1).up n5).up (n_w1 e7)).up n8).up n10).up n12) (fun σ17 e17 => ?_)
              replace h := h σ17 e17
              refine gw_aload_n (q := 0) dX12_next_205 rfl rfl ?_
              refine gw_dup dX12_next_206 ?_
              refine gw_gI fX12_188 dX12_next_207 (((((((g2.up n1).up n5).up (n_w1 e7)).up n8).up n10).up n12).up (n_w1 e17)) ?_
              refine gw_iconst (v := 1) dX12_next_210 ic_1 ?_
              refine gw_iadd dX12_next_211 ?_
              refine gw_pI fX12_188 dX12_next_212 (((((((g2.up n1).up n5).up (n_w1 e7)).up n8).up n10).up n12).up (n_w1 e17)) (fun σ18 e18 => ?_)
              replace h := h σ18 e18
              exact gw_rV dX12_next_215 rfl (by decide) (by decide) h
          · replace h := h.2 c13
            refine gw_aload_n (q := 0) dX12_next_122 rfl rfl ?_
            refine gw_iconst (v := 1) dX12_next_123 ic_1 ?_
            refine gw_pI fX12_201 dX12_next_124 ((((((g2.up n1).up n5).up (n_w1 e7)).up n8).up n10).up n12) (fun σ19 e19 => ?_)
            replace h := h σ19 e19
            refine gw_aload_n (q := 0) dX12_next_127 rfl rfl ?_
            refine gw_iconst (v := 0) dX12_next_128 ic_0 ?_
            refine gw_pI fX12_210 dX12_next_129 (((((((g2.up n1).up n5).up (n_w1 e7)).up n8).up n10).up n12).up (n_w1 e19)) (fun σ20 e20 => ?_)
            replace h := h σ20 e20
            exact h
        · replace h := h.2 c11
          exact h
      · replace h := h.2 c9
        refine gw_aload_n (q := 0) dX12_next_49 rfl rfl ?_
        refine gw_iconst (v := 3) dX12_next_50 ic_3 ?_
        refine gw_pI fX12_201 dX12_next_51 ((((g2.up n1).up n5).up (n_w1 e7)).up n8) (fun σ21 e21 => ?_)
        replace h := h σ21 e21
        refine gw_goto (tgt := 215) dX12_next_54 (by decide) ?_
        exact gw_rV dX12_next_215 rfl (by decide) (by decide) h
    · replace h := h.2 c6
      refine gw_aload_n (q := 0) dX12_next_18 rfl rfl ?_
      refine gw_dup dX12_next_19 ?_
      refine gw_gI fX12_188 dX12_next_20 ((g2.up n1).up n5) ?_
      refine gw_iconst (v := 1) dX12_next_23 ic_1 ?_
      refine gw_iadd dX12_next_24 ?_
      refine gw_pI fX12_188 dX12_next_25 ((g2.up n1).up n5) (fun σ22 e22 => ?_)
      replace h := h σ22 e22
      refine gw_goto (tgt := 0) dX12_next_28 (by decide) ?_
      exact h
set_option maxHeartbeats 4000000 in
set_option maxRecDepth 20000 in
theorem eX12_next {l : Launch} {v0 : Nat} {σ : Sg} {K : Sg → Prop} (h : GW l mX12_next 0 [(0, .inr v0)] [] σ 0 0 (PV K)) : Con l mX12_next [.inr v0] σ (PV K) := by
  refine con_gw rfl (Nat.le_of_ble_eq_true rfl) ?_
  show GW l mX12_next 0 [(0, .inr v0)] [] σ 0 0 (PV K)
  exact h
set_option maxHeartbeats 4000000 in
set_option maxRecDepth 20000 in
theorem gX12_word_97 {l : Launch} {v0 : Nat} {v1 : Int32} {v2 : Int32} {v3 : Int32} {σ : Sg} {K : Int32 → Sg → Prop} (h : Sc 1000007 v2 ∧ (((schr 1000007 v2) = 32 → GW l mX12_word 4 [(0, .inr v0), (1, .inl (v1 + 1)), (2, .inl (v2 + 1))] [] σ 0 0 (PI K)) ∧ (¬ (schr 1000007 v2) = 32 → GW l mX12_word 97 [(0, .inr v0), (1, .inl v1), (2, .inl (v2 + 1)), (3, .inl v3)] [] σ 0 0 (PI K)))) : GW l mX12_word 97 [(0, .inr v0), (1, .inl v1), (2, .inl v2), (3, .inl v3)] [] σ 0 0 (PI K) := by
  refine gw_ldcS (i := 7) rfl dX12_word_97 ?_
  refine gw_iload_n (q := 2) dX12_word_99 rfl rfl ?_
  obtain ⟨g1, h⟩ := h
  refine gw_charAt lX12_222 dX12_word_100 (by decide) (Nat.le_of_ble_eq_true rfl) g1 ?_
  refine gw_bipush (v := 32) dX12_word_103 bp_32 ?_
  refine gw_icmp_eq (tgt := 114) dX12_word_105 (by decide) (fun c2 => ?_) (fun c2 => ?_)
  · replace h := h.1 c2
    refine gw_inc (lo' := [(0, .inr v0), (1, .inl v1), (2, .inl (v2 + 1)), (3, .inl v3)]) (q := 2) (c := 1) dX12_word_114 ic_1 rfl (by decide) rfl ?_
    refine gw_inc (lo' := [(0, .inr v0), (1, .inl (v1 + 1)), (2, .inl (v2 + 1)), (3, .inl v3)]) (q := 1) (c := 1) dX12_word_117 ic_1 rfl (by decide) rfl ?_
    refine gw_goto (tgt := 4) dX12_word_120 (by decide) ?_
    refine gw_pick [0, 1, 2] rfl ?_
    exact h
  · replace h := h.2 c2
    refine gw_inc (lo' := [(0, .inr v0), (1, .inl v1), (2, .inl (v2 + 1)), (3, .inl v3)]) (q := 2) (c := 1) dX12_word_108 ic_1 rfl (by decide) rfl ?_
    refine gw_goto (tgt := 97) dX12_word_111 (by decide) ?_
    exact h
set_option maxHeartbeats 4000000 in
set_option maxRecDepth 20000 in
theorem gX12_word_69 {l : Launch} {v0 : Nat} {v1 : Int32} {v2 : Int32} {v3 : Int32} {σ : Sg} {K : Int32 → Sg → Prop} (h : Sc 1000007 (v2 + v3) ∧ ((¬ (schr 1000007 (v2 + v3)) = 32 → GW l mX12_word 97 [(0, .inr v0), (1, .inl v1), (2, .inl v2), (3, .inl v3)] [] σ 0 0 (PI K)) ∧ ((schr 1000007 (v2 + v3)) = 32 → Ob σ v0 12 ∧ ((¬ ((σ.2.1 v0 24) + v3) = (σ.2.1 v0 23) → GW l mX12_word 97 [(0, .inr v0), (1, .inl v1), (2, .inl v2), (3, .inl v3)] [] σ 0 0 (PI K)) ∧ (((σ.2.1 v0 24) + v3) = (σ.2.1 v0 23) → K v1 σ))))) : GW l mX12_word 69 [(0, .inr v0), (1, .inl v1), (2, .inl v2), (3, .inl v3)] [] σ 0 0 (PI K) := by
  refine gw_ldcS (i := 7) rfl dX12_word_69 ?_
  refine gw_iload_n (q := 2) dX12_word_71 rfl rfl ?_
  refine gw_iload_n (q := 3) dX12_word_72 rfl rfl ?_
  refine gw_iadd dX12_word_73 ?_
  obtain ⟨g1, h⟩ := h
  refine gw_charAt lX12_222 dX12_word_74 (by decide) (Nat.le_of_ble_eq_true rfl) g1 ?_
  refine gw_bipush (v := 32) dX12_word_77 bp_32 ?_
  refine gw_icmp_ne (tgt := 97) dX12_word_79 (by decide) (fun c2 => ?_) (fun c2 => ?_)
  · replace h := h.1 c2
    exact h
  · replace h := h.2 c2
    refine gw_aload_n (q := 0) dX12_word_82 rfl rfl ?_
    obtain ⟨g3, h⟩ := h
    refine gw_gI fX12_198 dX12_word_83 g3 ?_
    refine gw_iload_n (q := 3) dX12_word_86 rfl rfl ?_
    refine gw_iadd dX12_word_87 ?_
    refine gw_aload_n (q := 0) dX12_word_88 rfl rfl ?_
    refine gw_gI fX12_188 dX12_word_89 g3 ?_
    refine gw_icmp_ne (tgt := 97) dX12_word_92 (by decide) (fun c4 => ?_) (fun c4 => ?_)
    · replace h := h.1 c4
      exact h
    · replace h := h.2 c4
      refine gw_iload_n (q := 1) dX12_word_95 rfl rfl ?_
      exact gw_rI dX12_word_96 rfl (by decide) (by decide) h
set_option maxHeartbeats 4000000 in
set_option maxRecDepth 20000 in
theorem gX12_word_15 {l : Launch} {v0 : Nat} {v1 : Int32} {v2 : Int32} {v3 : Int32} {σ : Sg} {K : Int32 → Sg → Prop} (h : Sc 1000007 (v2 + v3) ∧ (((schr 1000007 (v2 + v3)) = 32 → GW l mX12_word 69 [(0, .inr v0), (1, .inl v1), (2, .inl v2), (3, .inl v3)] [] σ 0 0 (PI K)) ∧ (¬ (schr 1000007 (v2 + v3)) = 32 → Ob σ v0 12 ∧ (((σ.2.1 v0 23) ≤ ((σ.2.1 v0 24) + v3) → GW l mX12_word 69 [(0, .inr v0), (1, .inl v1), (2, .inl v2), (3, .inl v3)] [] σ 0 0 (PI K)) ∧ (¬ (σ.2.1 v0 23) ≤ ((σ.2.1 v0 24) + v3) → Ai σ (σ.2.2 v0 1) ((σ.2.1 v0 24) + v3) ∧ Sc 1000007 (v2 + v3) ∧ ((¬ (σ.2.1 (σ.2.2 v0 1) ((σ.2.1 v0 24) + v3).toNatClampNeg) = (schr 1000007 (v2 + v3)) → GW l mX12_word 69 [(0, .inr v0), (1, .inl v1), (2, .inl v2), (3, .inl v3)] [] σ 0 0 (PI K)) ∧ ((σ.2.1 (σ.2.2 v0 1) ((σ.2.1 v0 24) + v3).toNatClampNeg) = (schr 1000007 (v2 + v3)) → GW l mX12_word 15 [(0, .inr v0), (1, .inl v1), (2, .inl v2), (3, .inl (v3 + 1))] [] σ 0 0 (PI K)))))))) : GW l mX12_word 15 [(0, .inr v0), (1, .inl v1), (2, .inl v2), (3, .inl v3)] [] σ 0 0 (PI K) := by
  refine gw_ldcS (i := 7) rfl dX12_word_15 ?_
  refine gw_iload_n (q := 2) dX12_word_17 rfl rfl ?_
  refine gw_iload_n (q := 3) dX12_word_18 rfl rfl ?_
  refine gw_iadd dX12_word_19 ?_
  obtain ⟨g1, h⟩ := h
  refine gw_charAt lX12_222 dX12_word_20 (by decide) (Nat.le_of_ble_eq_true rfl) g1 ?_
  refine gw_bipush (v := 32) dX12_word_23 bp_32 ?_
  refine gw_icmp_eq (tgt := 69) dX12_word_25 (by decide) (fun c2 => ?_) (fun c2 => ?_)
  · replace h := h.1 c2
    exact h
  · replace h := h.2 c2
    refine gw_aload_n (q := 0) dX12_word_28 rfl rfl ?_
    obtain ⟨g3, h⟩ := h
    refine gw_gI fX12_198 dX12_word_29 g3 ?_
    refine gw_iload_n (q := 3) dX12_word_32 rfl rfl ?_
    refine gw_iadd dX12_word_33 ?_
    refine gw_aload_n (q := 0) dX12_word_34 rfl rfl ?_
    refine gw_gI fX12_188 dX12_word_35 g3 ?_
    refine gw_icmp_ge (tgt := 69) dX12_word_38 (by decide) (fun c4 => ?_) (fun c4 => ?_)
    · replace h := h.1 c4
      exact h
    · replace h := h.2 c4
      refine gw_aload_n (q := 0) dX12_word_41 rfl rfl ?_
      refine gw_gR fX12_9 dX12_word_42 g3 ?_
      refine gw_aload_n (q := 0) dX12_word_45 rfl rfl ?_
      refine gw_gI fX12_198 dX12_word_46 g3 ?_
      refine gw_iload_n (q := 3) dX12_word_49 rfl rfl ?_
      refine gw_iadd dX12_word_50 ?_
      obtain ⟨g5, h⟩ := h
      refine gw_aI dX12_word_51 g5 ?_
      refine gw_ldcS (i := 7) rfl dX12_word_52 ?_
      refine gw_iload_n (q := 2) dX12_word_54 rfl rfl ?_
      refine gw_iload_n (q := 3) dX12_word_55 rfl rfl ?_
      refine gw_iadd dX12_word_56 ?_
      obtain ⟨g6, h⟩ := h
      refine gw_charAt lX12_222 dX12_word_57 (by decide) (Nat.le_of_ble_eq_true rfl) g6 ?_
      refine gw_icmp_ne (tgt := 69) dX12_word_60 (by decide) (fun c7 => ?_) (fun c7 => ?_)
      · replace h := h.1 c7
        exact h
      · replace h := h.2 c7
        refine gw_inc (lo' := [(0, .inr v0), (1, .inl v1), (2, .inl v2), (3, .inl (v3 + 1))]) (q := 3) (c := 1) dX12_word_63 ic_1 rfl (by decide) rfl ?_
        refine gw_goto (tgt := 15) dX12_word_66 (by decide) ?_
        exact h
set_option maxHeartbeats 4000000 in
set_option maxRecDepth 20000 in
theorem gX12_word_4 {l : Launch} {v0 : Nat} {v1 : Int32} {v2 : Int32} {σ : Sg} {K : Int32 → Sg → Prop} (h : Sx 1000007 ∧ (((slenI 1000007) ≤ v2 → K (-1) σ) ∧ (¬ (slenI 1000007) ≤ v2 → GW l mX12_word 15 [(0, .inr v0), (1, .inl v1), (2, .inl v2), (3, .inl 0)] [] σ 0 0 (PI K)))) : GW l mX12_word 4 [(0, .inr v0), (1, .inl v1), (2, .inl v2)] [] σ 0 0 (PI K) := by
  refine gw_iload_n (q := 2) dX12_word_4 rfl rfl ?_
  refine gw_ldcS (i := 7) rfl dX12_word_5 ?_
  obtain ⟨g1, h⟩ := h
  refine gw_strlen lX12_218 dX12_word_7 (by decide) (Nat.le_of_ble_eq_true rfl) g1 ?_
  refine gw_icmp_ge (tgt := 123) dX12_word_10 (by decide) (fun c2 => ?_) (fun c2 => ?_)
  · replace h := h.1 c2
    refine gw_iconst (v := (-1)) dX12_word_123 ic_m1 ?_
    exact gw_rI dX12_word_124 rfl (by decide) (by decide) h
  · replace h := h.2 c2
    refine gw_iconst (v := 0) dX12_word_13 ic_0 ?_
    refine gw_istore_n (lo' := [(0, .inr v0), (1, .inl v1), (2, .inl v2), (3, .inl 0)]) dX12_word_14 rfl (by decide) rfl ?_
    exact h
set_option maxHeartbeats 4000000 in
set_option maxRecDepth 20000 in
theorem eX12_word {l : Launch} {v0 : Nat} {σ : Sg} {K : Int32 → Sg → Prop} (h : GW l mX12_word 4 [(0, .inr v0), (1, .inl 0), (2, .inl 0)] [] σ 0 0 (PI K)) : Con l mX12_word [.inr v0] σ (PI K) := by
  refine con_gw rfl (Nat.le_of_ble_eq_true rfl) ?_
  show GW l mX12_word 0 [(0, .inr v0)] [] σ 0 0 (PI K)
  refine gw_iconst (v := 0) dX12_word_0 ic_0 ?_
  refine gw_istore_n (lo' := [(0, .inr v0), (1, .inl 0)]) dX12_word_1 rfl (by decide) rfl ?_
  refine gw_iconst (v := 0) dX12_word_2 ic_0 ?_
  refine gw_istore_n (lo' := [(0, .inr v0), (1, .inl 0), (2, .inl 0)]) dX12_word_3 rfl (by decide) rfl ?_
  exact h
set_option maxHeartbeats 4000000 in
set_option maxRecDepth 20000 in
theorem eX12_wrong {l : Launch} {v0 : Nat} {v1 : Int32} {σ : Sg} {K : Sg → Prop} (h : Ob σ v0 12 ∧ (((σ.2.1 v0 27) = 0 → ∀ σ3, σ3 = w1 σ v0 27 v1 → ∀ σ4, σ4 = w1 σ3 v0 28 (σ3.2.1 v0 24) → K σ4) ∧ (¬ (σ.2.1 v0 27) = 0 → K σ))) : Con l mX12_wrong [.inr v0, .inl v1] σ (PV K) := by
  refine con_gw rfl (Nat.le_of_ble_eq_true rfl) ?_
  show GW l mX12_wrong 0 [(0, .inr v0), (1, .inl v1)] [] σ 0 0 (PV K)
  refine gw_aload_n (q := 0) dX12_wrong_0 rfl rfl ?_
  obtain ⟨g1, h⟩ := h
  refine gw_gI fX12_226 dX12_wrong_1 g1 ?_
  refine gw_if_eq (tgt := 8) dX12_wrong_4 (by decide) (fun c2 => ?_) (fun c2 => ?_)
  · replace h := h.1 c2
    refine gw_aload_n (q := 0) dX12_wrong_8 rfl rfl ?_
    refine gw_iload_n (q := 1) dX12_wrong_9 rfl rfl ?_
    refine gw_pI fX12_226 dX12_wrong_10 g1 (fun σ3 e3 => ?_)
    replace h := h σ3 e3
    refine gw_aload_n (q := 0) dX12_wrong_13 rfl rfl ?_
    refine gw_aload_n (q := 0) dX12_wrong_14 rfl rfl ?_
    refine gw_gI fX12_198 dX12_wrong_15 (g1.up (n_w1 e3)) ?_
    refine gw_pI fX12_229 dX12_wrong_18 (g1.up (n_w1 e3)) (fun σ4 e4 => ?_)
    replace h := h σ4 e4
    exact gw_rV dX12_wrong_21 rfl (by decide) (by decide) h
  · replace h := h.2 c2
    exact gw_rV dX12_wrong_7 rfl (by decide) (by decide) h
set_option maxHeartbeats 4000000 in
set_option maxRecDepth 20000 in
theorem eX12_isWord {l : Launch} {v0 : Nat} {v1 : Int32} {σ : Sg} {K : Int32 → Sg → Prop} (h : Ob σ v0 12 ∧ ((¬ (σ.2.1 v0 27) = 0 → K 0 σ) ∧ ((σ.2.1 v0 27) = 0 → ((¬ (σ.2.1 v0 25) = 0 → K 0 σ) ∧ ((σ.2.1 v0 25) = 0 → ((¬ (σ.2.1 v0 26) = v1 → K 0 σ) ∧ ((σ.2.1 v0 26) = v1 → K 1 σ))))))) : Con l mX12_isWord [.inr v0, .inl v1] σ (PI K) := by
  refine con_gw rfl (Nat.le_of_ble_eq_true rfl) ?_
  show GW l mX12_isWord 0 [(0, .inr v0), (1, .inl v1)] [] σ 0 0 (PI K)
  refine gw_aload_n (q := 0) dX12_isWord_0 rfl rfl ?_
  obtain ⟨g1, h⟩ := h
  refine gw_gI fX12_226 dX12_isWord_1 g1 ?_
  refine gw_if_ne (tgt := 26) dX12_isWord_4 (by decide) (fun c2 => ?_) (fun c2 => ?_)
  · replace h := h.1 c2
    refine gw_iconst (v := 0) dX12_isWord_26 ic_0 ?_
    exact gw_rZ dX12_isWord_27 rfl (by decide) (by decide) (by decide) h
  · replace h := h.2 c2
    refine gw_aload_n (q := 0) dX12_isWord_7 rfl rfl ?_
    refine gw_gI fX12_201 dX12_isWord_8 g1 ?_
    refine gw_if_ne (tgt := 26) dX12_isWord_11 (by decide) (fun c3 => ?_) (fun c3 => ?_)
    · replace h := h.1 c3
      refine gw_iconst (v := 0) dX12_isWord_26 ic_0 ?_
      exact gw_rZ dX12_isWord_27 rfl (by decide) (by decide) (by decide) h
    · replace h := h.2 c3
      refine gw_aload_n (q := 0) dX12_isWord_14 rfl rfl ?_
      refine gw_gI fX12_210 dX12_isWord_15 g1 ?_
      refine gw_iload_n (q := 1) dX12_isWord_18 rfl rfl ?_
      refine gw_icmp_ne (tgt := 26) dX12_isWord_19 (by decide) (fun c4 => ?_) (fun c4 => ?_)
      · replace h := h.1 c4
        refine gw_iconst (v := 0) dX12_isWord_26 ic_0 ?_
        exact gw_rZ dX12_isWord_27 rfl (by decide) (by decide) (by decide) h
      · replace h := h.2 c4
        refine gw_iconst (v := 1) dX12_isWord_22 ic_1 ?_
        refine gw_goto (tgt := 27) dX12_isWord_23 (by decide) ?_
        exact gw_rZ dX12_isWord_27 rfl (by decide) (by decide) (by decide) h
set_option maxHeartbeats 4000000 in
set_option maxRecDepth 20000 in
theorem gX12_isNumber_41 {l : Launch} {v0 : Nat} {v1 : Int32} {v2 : Int32} {σ : Sg} {K : Int32 → Sg → Prop} (h : Ob σ v0 12 ∧ Con l mX12_wrong [.inr v0, .inl 2] σ (PV (fun σ1 => ((¬ (σ1.2.1 v0 27) = 0 → K 0 σ1) ∧ ((σ1.2.1 v0 27) = 0 → K 1 σ1))))) : GW l mX12_isNumber 41 [(0, .inr v0), (1, .inl v1), (2, .inl v2)] [] σ 0 0 (PI K) := by
  refine gw_aload_n (q := 0) dX12_isNumber_41 rfl rfl ?_
  refine gw_iconst (v := 2) dX12_isNumber_42 ic_2 ?_
  obtain ⟨g2, h⟩ := h
  refine gw_vC (bs := [.inl 2]) (st := []) (vmX12_wrong) lX12_232 dX12_isNumber_43 ⟨by decide, rfl, rfl, by decide, by decide⟩ (Nat.le_of_ble_eq_true rfl) rfl rfl g2 h (kV (fun σ1 h n1 => ?_))
  refine gw_aload_n (q := 0) dX12_isNumber_46 rfl rfl ?_
  refine gw_gI fX12_226 dX12_isNumber_47 (g2.up n1) ?_
  refine gw_if_ne (tgt := 57) dX12_isNumber_50 (by decide) (fun c3 => ?_) (fun c3 => ?_)
  · replace h := h.1 c3
    refine gw_iconst (v := 0) dX12_isNumber_57 ic_0 ?_
    exact gw_rZ dX12_isNumber_58 rfl (by decide) (by decide) (by decide) h
  · replace h := h.2 c3
    refine gw_iconst (v := 1) dX12_isNumber_53 ic_1 ?_
    refine gw_goto (tgt := 58) dX12_isNumber_54 (by decide) ?_
    exact gw_rZ dX12_isNumber_58 rfl (by decide) (by decide) (by decide) h
set_option maxHeartbeats 4000000 in
set_option maxRecDepth 20000 in
theorem eX12_isNumber {l : Launch} {v0 : Nat} {v1 : Int32} {v2 : Int32} {σ : Sg} {K : Int32 → Sg → Prop} (h : Ob σ v0 12 ∧ (((σ.2.1 v0 27) = 0 → (((σ.2.1 v0 25) = 1 → (((σ.2.1 v0 26) < v1 → GW l mX12_isNumber 41 [(0, .inr v0), (1, .inl v1), (2, .inl v2)] [] σ 0 0 (PI K)) ∧ (¬ (σ.2.1 v0 26) < v1 → (((σ.2.1 v0 26) ≤ v2 → ((¬ (σ.2.1 v0 27) = 0 → K 0 σ) ∧ ((σ.2.1 v0 27) = 0 → K 1 σ))) ∧ (¬ (σ.2.1 v0 26) ≤ v2 → GW l mX12_isNumber 41 [(0, .inr v0), (1, .inl v1), (2, .inl v2)] [] σ 0 0 (PI K)))))) ∧ (¬ (σ.2.1 v0 25) = 1 → Con l mX12_wrong [.inr v0, .inl 1] σ (PV (fun σ7 => ((¬ (σ7.2.1 v0 27) = 0 → K 0 σ7) ∧ ((σ7.2.1 v0 27) = 0 → K 1 σ7))))))) ∧ (¬ (σ.2.1 v0 27) = 0 → K 0 σ))) : Con l mX12_isNumber [.inr v0, .inl v1, .inl v2] σ (PI K) := by
  refine con_gw rfl (Nat.le_of_ble_eq_true rfl) ?_
  show GW l mX12_isNumber 0 [(0, .inr v0), (1, .inl v1), (2, .inl v2)] [] σ 0 0 (PI K)
  refine gw_aload_n (q := 0) dX12_isNumber_0 rfl rfl ?_
  obtain ⟨g1, h⟩ := h
  refine gw_gI fX12_226 dX12_isNumber_1 g1 ?_
  refine gw_if_eq (tgt := 9) dX12_isNumber_4 (by decide) (fun c2 => ?_) (fun c2 => ?_)
  · replace h := h.1 c2
    refine gw_aload_n (q := 0) dX12_isNumber_9 rfl rfl ?_
    refine gw_gI fX12_201 dX12_isNumber_10 g1 ?_
    refine gw_iconst (v := 1) dX12_isNumber_13 ic_1 ?_
    refine gw_icmp_eq (tgt := 25) dX12_isNumber_14 (by decide) (fun c3 => ?_) (fun c3 => ?_)
    · replace h := h.1 c3
      refine gw_aload_n (q := 0) dX12_isNumber_25 rfl rfl ?_
      refine gw_gI fX12_210 dX12_isNumber_26 g1 ?_
      refine gw_iload_n (q := 1) dX12_isNumber_29 rfl rfl ?_
      refine gw_icmp_lt (tgt := 41) dX12_isNumber_30 (by decide) (fun c4 => ?_) (fun c4 => ?_)
      · replace h := h.1 c4
        exact h
      · replace h := h.2 c4
        refine gw_aload_n (q := 0) dX12_isNumber_33 rfl rfl ?_
        refine gw_gI fX12_210 dX12_isNumber_34 g1 ?_
        refine gw_iload_n (q := 2) dX12_isNumber_37 rfl rfl ?_
        refine gw_icmp_le (tgt := 46) dX12_isNumber_38 (by decide) (fun c5 => ?_) (fun c5 => ?_)
        · replace h := h.1 c5
          refine gw_aload_n (q := 0) dX12_isNumber_46 rfl rfl ?_
          refine gw_gI fX12_226 dX12_isNumber_47 g1 ?_
          refine gw_if_ne (tgt := 57) dX12_isNumber_50 (by decide) (fun c6 => ?_) (fun c6 => ?_)
          · replace h := h.1 c6
            refine gw_iconst (v := 0) dX12_isNumber_57 ic_0 ?_
            exact gw_rZ dX12_isNumber_58 rfl (by decide) (by decide) (by decide) h
          · replace h := h.2 c6
            refine gw_iconst (v := 1) dX12_isNumber_53 ic_1 ?_
            refine gw_goto (tgt := 58) dX12_isNumber_54 (by decide) ?_
            exact gw_rZ dX12_isNumber_58 rfl (by decide) (by decide) (by decide) h
        · replace h := h.2 c5
          exact h
    · replace h := h.2 c3
      refine gw_aload_n (q := 0) dX12_isNumber_17 rfl rfl ?_
      refine gw_iconst (v := 1) dX12_isNumber_18 ic_1 ?_
      refine gw_vC (bs := [.inl 1]) (st := []) (vmX12_wrong) lX12_232 dX12_isNumber_19 ⟨by decide, rfl, rfl, by decide, by decide⟩ (Nat.le_of_ble_eq_true rfl) rfl rfl g1 h (kV (fun σ7 h n7 => ?_))
      refine gw_goto (tgt := 46) dX12_isNumber_22 (by decide) ?_
      refine gw_aload_n (q := 0) dX12_isNumber_46 rfl rfl ?_
      refine gw_gI fX12_226 dX12_isNumber_47 (g1.up n7) ?_
      refine gw_if_ne (tgt := 57) dX12_isNumber_50 (by decide) (fun c8 => ?_) (fun c8 => ?_)
      · replace h := h.1 c8
        refine gw_iconst (v := 0) dX12_isNumber_57 ic_0 ?_
        exact gw_rZ dX12_isNumber_58 rfl (by decide) (by decide) (by decide) h
      · replace h := h.2 c8
        refine gw_iconst (v := 1) dX12_isNumber_53 ic_1 ?_
        refine gw_goto (tgt := 58) dX12_isNumber_54 (by decide) ?_
        exact gw_rZ dX12_isNumber_58 rfl (by decide) (by decide) (by decide) h
  · replace h := h.2 c2
    refine gw_iconst (v := 0) dX12_isNumber_7 ic_0 ?_
    exact gw_rZ dX12_isNumber_8 rfl (by decide) (by decide) (by decide) h
