set_option maxHeartbeats 4000000 in
set_option maxRecDepth 20000 in
theorem eJ9_floorDiv_7cf53 {l : Launch} {v0 : Int32} {v1 : Int32} {σ : Sg} {K : Int32 → Sg → Prop} (h : ¬ v1 = 0 ∧ ((0 ≤ (v0 ^^^ v1) → K (v0 / v1) σ) ∧ (¬ 0 ≤ (v0 ^^^ v1) → ((((v0 / v1) * v1) = v0 → K (v0 / v1) σ) ∧ (¬ ((v0 / v1) * v1) = v0 → K ((v0 / v1) - 1) σ))))) : Con l mJ9_floorDiv_7cf53 [.inl v0, .inl v1] σ (PI K) := by
  refine con_gwF (by decide +kernel) (Nat.le_of_ble_eq_true rfl) ?_
  show GW l mJ9_floorDiv_7cf53 0 [(0, .inl v0), (1, .inl v1)] [] σ 0 0 (PI K)
  refine gw_iload_n (q := 0) dJ9_floorDiv_7cf53_0 rfl rfl ?_
  refine gw_iload_n (q := 1) dJ9_floorDiv_7cf53_1 rfl rfl ?_
  obtain ⟨g1, h⟩ := h
  refine gw_idiv dJ9_floorDiv_7cf53_2 g1 ?_
  refine gw_istore_n (lo' := [(0, .inl v0), (1, .inl v1), (2, .inl (v0 / v1))]) dJ9_floorDiv_7cf53_3 rfl (by decide) rfl ?_
  refine gw_iload_n (q := 0) dJ9_floorDiv_7cf53_4 rfl rfl ?_
  refine gw_iload_n (q := 1) dJ9_floorDiv_7cf53_5 rfl rfl ?_
  refine gw_ixor dJ9_floorDiv_7cf53_6 ?_
  refine gw_if_ge (tgt := 21) dJ9_floorDiv_7cf53_7 (by decide) (fun c2 => ?_) (fun c2 => ?_)
  · replace h := h.1 c2
    refine gw_iload_n (q := 2) dJ9_floorDiv_7cf53_21 rfl rfl ?_
    exact gw_rI dJ9_floorDiv_7cf53_22 rfl (by decide) (by decide) h
  · replace h := h.2 c2
    refine gw_iload_n (q := 2) dJ9_floorDiv_7cf53_10 rfl rfl ?_
    refine gw_iload_n (q := 1) dJ9_floorDiv_7cf53_11 rfl rfl ?_
    refine gw_imul dJ9_floorDiv_7cf53_12 ?_
    refine gw_iload_n (q := 0) dJ9_floorDiv_7cf53_13 rfl rfl ?_
    refine gw_icmp_eq (tgt := 21) dJ9_floorDiv_7cf53_14 (by decide) (fun c3 => ?_) (fun c3 => ?_)
    · replace h := h.1 c3
      refine gw_iload_n (q := 2) dJ9_floorDiv_7cf53_21 rfl rfl ?_
      exact gw_rI dJ9_floorDiv_7cf53_22 rfl (by decide) (by decide) h
    · replace h := h.2 c3
      refine gw_iload_n (q := 2) dJ9_floorDiv_7cf53_17 rfl rfl ?_
      refine gw_iconst (v := 1) dJ9_floorDiv_7cf53_18 ic_1 ?_
      refine gw_isub dJ9_floorDiv_7cf53_19 ?_
      exact gw_rI dJ9_floorDiv_7cf53_20 rfl (by decide) (by decide) h
set_option maxHeartbeats 4000000 in
set_option maxRecDepth 20000 in
theorem eJ9_abs_0f7a4 {l : Launch} {v0 : Int32} {σ : Sg} {K : Int32 → Sg → Prop} (h : ((0 ≤ v0 → K v0 σ) ∧ (¬ 0 ≤ v0 → K (-v0) σ))) : Con l mJ9_abs_0f7a4 [.inl v0] σ (PI K) := by
  refine con_gwF (by decide +kernel) (Nat.le_of_ble_eq_true rfl) ?_
  show GW l mJ9_abs_0f7a4 0 [(0, .inl v0)] [] σ 0 0 (PI K)
  refine gw_iload_n (q := 0) dJ9_abs_0f7a4_0 rfl rfl ?_
  refine gw_if_ge (tgt := 9) dJ9_abs_0f7a4_1 (by decide) (fun c1 => ?_) (fun c1 => ?_)
  · replace h := h.1 c1
    refine gw_iload_n (q := 0) dJ9_abs_0f7a4_9 rfl rfl ?_
    exact gw_rI dJ9_abs_0f7a4_10 rfl (by decide) (by decide) h
  · replace h := h.2 c1
    refine gw_iload_n (q := 0) dJ9_abs_0f7a4_4 rfl rfl ?_
    refine gw_ineg dJ9_abs_0f7a4_5 ?_
    refine gw_goto (tgt := 10) dJ9_abs_0f7a4_6 (by decide) ?_
    exact gw_rI dJ9_abs_0f7a4_10 rfl (by decide) (by decide) h
set_option maxHeartbeats 4000000 in
set_option maxRecDepth 20000 in
theorem eJ9_max_7cf53 {l : Launch} {v0 : Int32} {v1 : Int32} {σ : Sg} {K : Int32 → Sg → Prop} (h : ((v0 < v1 → K v1 σ) ∧ (¬ v0 < v1 → K v0 σ))) : Con l mJ9_max_7cf53 [.inl v0, .inl v1] σ (PI K) := by
  refine con_gwF (by decide +kernel) (Nat.le_of_ble_eq_true rfl) ?_
  show GW l mJ9_max_7cf53 0 [(0, .inl v0), (1, .inl v1)] [] σ 0 0 (PI K)
  refine gw_iload_n (q := 0) dJ9_max_7cf53_0 rfl rfl ?_
  refine gw_iload_n (q := 1) dJ9_max_7cf53_1 rfl rfl ?_
  refine gw_icmp_lt (tgt := 9) dJ9_max_7cf53_2 (by decide) (fun c1 => ?_) (fun c1 => ?_)
  · replace h := h.1 c1
    refine gw_iload_n (q := 1) dJ9_max_7cf53_9 rfl rfl ?_
    exact gw_rI dJ9_max_7cf53_10 rfl (by decide) (by decide) h
  · replace h := h.2 c1
    refine gw_iload_n (q := 0) dJ9_max_7cf53_5 rfl rfl ?_
    refine gw_goto (tgt := 10) dJ9_max_7cf53_6 (by decide) ?_
    exact gw_rI dJ9_max_7cf53_10 rfl (by decide) (by decide) h
set_option maxHeartbeats 4000000 in
set_option maxRecDepth 20000 in
theorem eJ9_min_7cf53 {l : Launch} {v0 : Int32} {v1 : Int32} {σ : Sg} {K : Int32 → Sg → Prop} (h : ((v1 < v0 → K v1 σ) ∧ (¬ v1 < v0 → K v0 σ))) : Con l mJ9_min_7cf53 [.inl v0, .inl v1] σ (PI K) := by
  refine con_gwF (by decide +kernel) (Nat.le_of_ble_eq_true rfl) ?_
  show GW l mJ9_min_7cf53 0 [(0, .inl v0), (1, .inl v1)] [] σ 0 0 (PI K)
  refine gw_iload_n (q := 0) dJ9_min_7cf53_0 rfl rfl ?_
  refine gw_iload_n (q := 1) dJ9_min_7cf53_1 rfl rfl ?_
  refine gw_icmp_gt (tgt := 9) dJ9_min_7cf53_2 (by decide) (fun c1 => ?_) (fun c1 => ?_)
  · replace h := h.1 c1
    refine gw_iload_n (q := 1) dJ9_min_7cf53_9 rfl rfl ?_
    exact gw_rI dJ9_min_7cf53_10 rfl (by decide) (by decide) h
  · replace h := h.2 c1
    refine gw_iload_n (q := 0) dJ9_min_7cf53_5 rfl rfl ?_
    refine gw_goto (tgt := 10) dJ9_min_7cf53_6 (by decide) ?_
    exact gw_rI dJ9_min_7cf53_10 rfl (by decide) (by decide) h
