set_option maxHeartbeats 4000000 in
set_option maxRecDepth 20000 in
theorem gX7_init_49 {l : Launch} {v0 : Nat} {v1 : Int32} {σ : Sg} {K : Sg → Prop} (h : ((10 ≤ v1 → K σ) ∧ (¬ 10 ≤ v1 → Ob σ v0 7 ∧ (shp (σ.1 + 1)).1 = 9 ∧ σ.1 + 1 ≤ 1000 ∧ ∀ x4 σ4, x4 = σ.1 + 1 → σ4 = nw σ → x4 ≠ 0 ∧ Con l mX9_init [.inr x4] σ4 (PV (fun σ5 => ((σ.2.2 v0 1) ≠ 0 ∧ (shp (σ.2.2 v0 1)).1 = 16 ∧ (σ.2.2 v0 1) ≤ σ5.1 ∧ vp_in v1 (shp (σ.2.2 v0 1)).2) ∧ Ob σ5 x4 9 ∧ ∀ σA8, σA8 = w2 σ5 (σ.2.2 v0 1) v1.toNatClampNeg x4 → GW l mX7_init 49 [(0, .inr v0), (1, .inl (v1 + 1))] [] σA8 3 84 (PV K)))))) : GW l mX7_init 49 [(0, .inr v0), (1, .inl v1)] [] σ 0 0 (PV K) := by
  refine gw_iload_n (q := 1) dX7_init_49 rfl rfl ?_
  refine gw_bipush (v := 10) dX7_init_50 bp_10 ?_
  refine gw_icmp_ge (tgt := 74) dX7_init_52 (by decide) (fun c1 => ?_) (fun c1 => ?_)
  · replace h := h.1 c1
    exact gw_rV dX7_init_74 rfl (by decide) (by decide) h
  · replace h := h.2 c1
    refine gw_aload_n (q := 0) dX7_init_55 rfl rfl ?_
    obtain ⟨g2, h⟩ := h
    refine gw_gR fX7_19 dX7_init_56 g2 ?_
    refine gw_iload_n (q := 1) dX7_init_59 rfl rfl ?_
    obtain ⟨g3, g4, h⟩ := h
    refine gw_new ci9 clX7_17 it_X9 in_X9 df9 dX7_init_60 g3 (by decide) (by decide) g4 (fun x4 σ4 ex4 e4 => ?_)
    replace h := h x4 σ4 ex4 e4
    refine gw_dup dX7_init_63 ?_
    obtain ⟨g6, h⟩ := h
    refine gw_iC (bs := []) (st := [.inr x4, .inl v1, .inr (σ.2.2 v0 1)]) xmX9_init lX7_24 dX7_init_64 ⟨by decide, rfl, rfl, by decide, by decide⟩ (Nat.le_of_ble_eq_true rfl) rfl rfl g6 h (kV (fun σ5 h n5 => ?_))
    obtain ⟨g7, g8, h⟩ := h
    refine gw_aast dX7_init_67 (kd := 16) (ci := 9) (shp_pair g7.2.1) (by omega) g7.1 g7.2.2.1 g8.1 g8.2.2 g8.2.1 g7.2.2.2 (fun σA8 eA8 => ?_)
    replace h := h σA8 eA8
    refine gw_inc (lo' := [(0, .inr v0), (1, .inl (v1 + 1))]) (q := 1) (c := 1) dX7_init_68 ic_1 rfl (by decide) rfl ?_
    refine gw_goto (tgt := 49) dX7_init_71 (by decide) ?_
    exact h
set_option maxHeartbeats 4000000 in
set_option maxRecDepth 20000 in
theorem gX7_init_23 {l : Launch} {v0 : Nat} {v1 : Int32} {σ : Sg} {K : Sg → Prop} (h : ((2 ≤ v1 → GW l mX7_init 49 [(0, .inr v0), (1, .inl 0)] [] σ 0 0 (PV K)) ∧ (¬ 2 ≤ v1 → Ob σ v0 7 ∧ (shp (σ.1 + 1)).1 = 0 ∧ σ.1 + 1 ≤ 1000 ∧ ∀ x4 σ4, x4 = σ.1 + 1 → σ4 = nw σ → x4 ≠ 0 ∧ Con l mX0_init [.inr x4] σ4 (PV (fun σ5 => ((σ.2.2 v0 0) ≠ 0 ∧ (shp (σ.2.2 v0 0)).1 = 15 ∧ (σ.2.2 v0 0) ≤ σ5.1 ∧ vp_in v1 (shp (σ.2.2 v0 0)).2) ∧ Ob σ5 x4 0 ∧ ∀ σA8, σA8 = w2 σ5 (σ.2.2 v0 0) v1.toNatClampNeg x4 → GW l mX7_init 23 [(0, .inr v0), (1, .inl (v1 + 1))] [] σA8 5 23 (PV K)))))) : GW l mX7_init 23 [(0, .inr v0), (1, .inl v1)] [] σ 0 0 (PV K) := by
  refine gw_iload_n (q := 1) dX7_init_23 rfl rfl ?_
  refine gw_iconst (v := 2) dX7_init_24 ic_2 ?_
  refine gw_icmp_ge (tgt := 47) dX7_init_25 (by decide) (fun c1 => ?_) (fun c1 => ?_)
  · replace h := h.1 c1
    refine gw_iconst (v := 0) dX7_init_47 ic_0 ?_
    refine gw_istore_n (lo' := [(0, .inr v0), (1, .inl 0)]) dX7_init_48 rfl (by decide) rfl ?_
    exact h
  · replace h := h.2 c1
    refine gw_aload_n (q := 0) dX7_init_28 rfl rfl ?_
    obtain ⟨g2, h⟩ := h
    refine gw_gR fX7_11 dX7_init_29 g2 ?_
    refine gw_iload_n (q := 1) dX7_init_32 rfl rfl ?_
    obtain ⟨g3, g4, h⟩ := h
    refine gw_new ci0 clX7_9 it_X0 in_X0 df0 dX7_init_33 g3 (by decide) (by decide) g4 (fun x4 σ4 ex4 e4 => ?_)
    replace h := h x4 σ4 ex4 e4
    refine gw_dup dX7_init_36 ?_
    obtain ⟨g6, h⟩ := h
    refine gw_iC (bs := []) (st := [.inr x4, .inl v1, .inr (σ.2.2 v0 0)]) xmX0_init lX7_23 dX7_init_37 ⟨by decide, rfl, rfl, by decide, by decide⟩ (Nat.le_of_ble_eq_true rfl) rfl rfl g6 h (kV (fun σ5 h n5 => ?_))
    obtain ⟨g7, g8, h⟩ := h
    refine gw_aast dX7_init_40 (kd := 15) (ci := 0) (shp_pair g7.2.1) (by omega) g7.1 g7.2.2.1 g8.1 g8.2.2 g8.2.1 g7.2.2.2 (fun σA8 eA8 => ?_)
    replace h := h σA8 eA8
    refine gw_inc (lo' := [(0, .inr v0), (1, .inl (v1 + 1))]) (q := 1) (c := 1) dX7_init_41 ic_1 rfl (by decide) rfl ?_
    refine gw_goto (tgt := 23) dX7_init_44 (by decide) ?_
    exact h
set_option maxHeartbeats 4000000 in
set_option maxRecDepth 20000 in
theorem eX7_init {l : Launch} {v0 : Nat} {σ : Sg} {K : Sg → Prop} (h : v0 ≠ 0 ∧ shp (σ.1 + 1) = (15, 2) ∧ σ.1 + 1 ≤ 1000 ∧ ∀ x3 σ3, x3 = σ.1 + 1 → σ3 = nw σ → Ob σ3 v0 7 ∧ x3 ≤ σ3.1 ∧ ∀ σ6, σ6 = w2 σ3 v0 0 x3 → shp (σ6.1 + 1) = (16, 10) ∧ σ6.1 + 1 ≤ 1000 ∧ ∀ x8 σ8, x8 = σ6.1 + 1 → σ8 = nw σ6 → x8 ≤ σ8.1 ∧ ∀ σ10, σ10 = w2 σ8 v0 1 x8 → GW l mX7_init 23 [(0, .inr v0), (1, .inl 0)] [] σ10 2 12 (PV K)) : Con l mX7_init [.inr v0] σ (PV K) := by
  refine con_gw rfl (Nat.le_of_ble_eq_true rfl) ?_
  show GW l mX7_init 0 [(0, .inr v0)] [] σ 0 0 (PV K)
  refine gw_aload_n (q := 0) dX7_init_0 rfl rfl ?_
  obtain ⟨g1, h⟩ := h
  refine gw_objInit oiX7_3 oi_in oi_cd dX7_init_1 (by decide) (Nat.le_of_ble_eq_true rfl) g1 ?_
  refine gw_aload_n (q := 0) dX7_init_4 rfl rfl ?_
  refine gw_iconst (v := 2) dX7_init_5 ic_2 ?_
  obtain ⟨g2, g3, h⟩ := h
  refine gw_newA (N := 2) clX7_9 dX7_init_6 g2 (by decide) (by decide) (by decide) (by decide) (by decide) g3 (fun x3 σ3 ex3 e3 => ?_)
  replace h := h x3 σ3 ex3 e3
  obtain ⟨g4, h⟩ := h
  obtain ⟨z5, h⟩ := h
  refine gw_pRF fX7_11 (Or.inr ⟨_, rfl⟩) rfl rfl (fun C T N hc => by cases hc; exact xfX7_11) dX7_init_9 z5 g4 (fun σ6 e6 => ?_)
  replace h := h σ6 e6
  refine gw_aload_n (q := 0) dX7_init_12 rfl rfl ?_
  refine gw_bipush (v := 10) dX7_init_13 bp_10 ?_
  obtain ⟨g7, g8, h⟩ := h
  refine gw_newT (N := 10) clX7_17 dX7_init_15 g7 (by decide) (by decide) (by decide) (by decide) (by decide) g8 (fun x8 σ8 ex8 e8 => ?_)
  replace h := h x8 σ8 ex8 e8
  obtain ⟨z9, h⟩ := h
  refine gw_pRF fX7_19 (Or.inr ⟨_, rfl⟩) rfl rfl (fun C T N hc => by cases hc; exact xfX7_19) dX7_init_18 z9 ((g4.up (n_w2 e6)).up (n_nw e8)) (fun σ10 e10 => ?_)
  replace h := h σ10 e10
  refine gw_iconst (v := 0) dX7_init_21 ic_0 ?_
  refine gw_istore_n (lo' := [(0, .inr v0), (1, .inl 0)]) dX7_init_22 rfl (by decide) rfl ?_
  exact h
set_option maxHeartbeats 4000000 in
set_option maxRecDepth 20000 in
theorem eX7_armAt {l : Launch} {v0 : Nat} {v1 : Int32} {σ : Sg} {K : Nat → Sg → Prop} (h : ((v1 < 0 → K 0 σ) ∧ (¬ v1 < 0 → Ob σ v0 7 ∧ (((σ.2.1 v0 2) ≤ v1 → K 0 σ) ∧ (¬ (σ.2.1 v0 2) ≤ v1 → ((2 ≤ v1 → K 0 σ) ∧ (¬ 2 ≤ v1 → Aq σ (σ.2.2 v0 0) v1 ∧ K (σ.2.2 (σ.2.2 v0 0) v1.toNatClampNeg) σ))))))) : Con l mX7_armAt [.inr v0, .inl v1] σ (PR K) := by
  refine con_gw rfl (Nat.le_of_ble_eq_true rfl) ?_
  show GW l mX7_armAt 0 [(0, .inr v0), (1, .inl v1)] [] σ 0 0 (PR K)
  refine gw_iload_n (q := 1) dX7_armAt_0 rfl rfl ?_
  refine gw_if_lt (tgt := 26) dX7_armAt_1 (by decide) (fun c1 => ?_) (fun c1 => ?_)
  · replace h := h.1 c1
    refine gw_null dX7_armAt_26 ?_
    exact gw_rR dX7_armAt_27 rfl (by decide) (by decide) h
  · replace h := h.2 c1
    refine gw_iload_n (q := 1) dX7_armAt_4 rfl rfl ?_
    refine gw_aload_n (q := 0) dX7_armAt_5 rfl rfl ?_
    obtain ⟨g2, h⟩ := h
    refine gw_gI fX7_25 dX7_armAt_6 g2 ?_
    refine gw_icmp_ge (tgt := 26) dX7_armAt_9 (by decide) (fun c3 => ?_) (fun c3 => ?_)
    · replace h := h.1 c3
      refine gw_null dX7_armAt_26 ?_
      exact gw_rR dX7_armAt_27 rfl (by decide) (by decide) h
    · replace h := h.2 c3
      refine gw_iload_n (q := 1) dX7_armAt_12 rfl rfl ?_
      refine gw_iconst (v := 2) dX7_armAt_13 ic_2 ?_
      refine gw_icmp_ge (tgt := 26) dX7_armAt_14 (by decide) (fun c4 => ?_) (fun c4 => ?_)
      · replace h := h.1 c4
        refine gw_null dX7_armAt_26 ?_
        exact gw_rR dX7_armAt_27 rfl (by decide) (by decide) h
      · replace h := h.2 c4
        refine gw_aload_n (q := 0) dX7_armAt_17 rfl rfl ?_
        refine gw_gR fX7_11 dX7_armAt_18 g2 ?_
        refine gw_iload_n (q := 1) dX7_armAt_21 rfl rfl ?_
        obtain ⟨g5, h⟩ := h
        refine gw_aR dX7_armAt_22 g5 ?_
        refine gw_goto (tgt := 27) dX7_armAt_23 (by decide) ?_
        exact gw_rR dX7_armAt_27 rfl (by decide) (by decide) h
set_option maxHeartbeats 4000000 in
set_option maxRecDepth 20000 in
theorem eX7_tapeAt {l : Launch} {v0 : Nat} {v1 : Int32} {σ : Sg} {K : Nat → Sg → Prop} (h : ((v1 < 0 → K 0 σ) ∧ (¬ v1 < 0 → Ob σ v0 7 ∧ (((σ.2.1 v0 3) ≤ v1 → K 0 σ) ∧ (¬ (σ.2.1 v0 3) ≤ v1 → ((10 ≤ v1 → K 0 σ) ∧ (¬ 10 ≤ v1 → Aq σ (σ.2.2 v0 1) v1 ∧ K (σ.2.2 (σ.2.2 v0 1) v1.toNatClampNeg) σ))))))) : Con l mX7_tapeAt [.inr v0, .inl v1] σ (PR K) := by
  refine con_gw rfl (Nat.le_of_ble_eq_true rfl) ?_
  show GW l mX7_tapeAt 0 [(0, .inr v0), (1, .inl v1)] [] σ 0 0 (PR K)
  refine gw_iload_n (q := 1) dX7_tapeAt_0 rfl rfl ?_
  refine gw_if_lt (tgt := 27) dX7_tapeAt_1 (by decide) (fun c1 => ?_) (fun c1 => ?_)
  · replace h := h.1 c1
    refine gw_null dX7_tapeAt_27 ?_
    exact gw_rR dX7_tapeAt_28 rfl (by decide) (by decide) h
  · replace h := h.2 c1
    refine gw_iload_n (q := 1) dX7_tapeAt_4 rfl rfl ?_
    refine gw_aload_n (q := 0) dX7_tapeAt_5 rfl rfl ?_
    obtain ⟨g2, h⟩ := h
    refine gw_gI fX7_29 dX7_tapeAt_6 g2 ?_
    refine gw_icmp_ge (tgt := 27) dX7_tapeAt_9 (by decide) (fun c3 => ?_) (fun c3 => ?_)
    · replace h := h.1 c3
      refine gw_null dX7_tapeAt_27 ?_
      exact gw_rR dX7_tapeAt_28 rfl (by decide) (by decide) h
    · replace h := h.2 c3
      refine gw_iload_n (q := 1) dX7_tapeAt_12 rfl rfl ?_
      refine gw_bipush (v := 10) dX7_tapeAt_13 bp_10 ?_
      refine gw_icmp_ge (tgt := 27) dX7_tapeAt_15 (by decide) (fun c4 => ?_) (fun c4 => ?_)
      · replace h := h.1 c4
        refine gw_null dX7_tapeAt_27 ?_
        exact gw_rR dX7_tapeAt_28 rfl (by decide) (by decide) h
      · replace h := h.2 c4
        refine gw_aload_n (q := 0) dX7_tapeAt_18 rfl rfl ?_
        refine gw_gR fX7_19 dX7_tapeAt_19 g2 ?_
        refine gw_iload_n (q := 1) dX7_tapeAt_22 rfl rfl ?_
        obtain ⟨g5, h⟩ := h
        refine gw_aR dX7_tapeAt_23 g5 ?_
        refine gw_goto (tgt := 28) dX7_tapeAt_24 (by decide) ?_
        exact gw_rR dX7_tapeAt_28 rfl (by decide) (by decide) h
set_option maxHeartbeats 4000000 in
set_option maxRecDepth 20000 in
theorem eX7_tapeOrStagedAt {l : Launch} {v0 : Nat} {v1 : Int32} {σ : Sg} {K : Nat → Sg → Prop} (h : ((v1 < 0 → K 0 σ) ∧ (¬ v1 < 0 → Ob σ v0 7 ∧ ((((σ.2.1 v0 3) + (σ.2.1 v0 4)) ≤ v1 → K 0 σ) ∧ (¬ ((σ.2.1 v0 3) + (σ.2.1 v0 4)) ≤ v1 → ((10 ≤ v1 → K 0 σ) ∧ (¬ 10 ≤ v1 → Aq σ (σ.2.2 v0 1) v1 ∧ K (σ.2.2 (σ.2.2 v0 1) v1.toNatClampNeg) σ))))))) : Con l mX7_tapeOrStagedAt [.inr v0, .inl v1] σ (PR K) := by
  refine con_gw rfl (Nat.le_of_ble_eq_true rfl) ?_
  show GW l mX7_tapeOrStagedAt 0 [(0, .inr v0), (1, .inl v1)] [] σ 0 0 (PR K)
  refine gw_iload_n (q := 1) dX7_tapeOrStagedAt_0 rfl rfl ?_
  refine gw_if_lt (tgt := 32) dX7_tapeOrStagedAt_1 (by decide) (fun c1 => ?_) (fun c1 => ?_)
  · replace h := h.1 c1
    refine gw_null dX7_tapeOrStagedAt_32 ?_
    exact gw_rR dX7_tapeOrStagedAt_33 rfl (by decide) (by decide) h
  · replace h := h.2 c1
    refine gw_iload_n (q := 1) dX7_tapeOrStagedAt_4 rfl rfl ?_
    refine gw_aload_n (q := 0) dX7_tapeOrStagedAt_5 rfl rfl ?_
    obtain ⟨g2, h⟩ := h
    refine gw_gI fX7_29 dX7_tapeOrStagedAt_6 g2 ?_
    refine gw_aload_n (q := 0) dX7_tapeOrStagedAt_9 rfl rfl ?_
    refine gw_gI fX7_32 dX7_tapeOrStagedAt_10 g2 ?_
    refine gw_iadd dX7_tapeOrStagedAt_13 ?_
    refine gw_icmp_ge (tgt := 32) dX7_tapeOrStagedAt_14 (by decide) (fun c3 => ?_) (fun c3 => ?_)
    · replace h := h.1 c3
      refine gw_null dX7_tapeOrStagedAt_32 ?_
      exact gw_rR dX7_tapeOrStagedAt_33 rfl (by decide) (by decide) h
    · replace h := h.2 c3
      refine gw_iload_n (q := 1) dX7_tapeOrStagedAt_17 rfl rfl ?_
      refine gw_bipush (v := 10) dX7_tapeOrStagedAt_18 bp_10 ?_
      refine gw_icmp_ge (tgt := 32) dX7_tapeOrStagedAt_20 (by decide) (fun c4 => ?_) (fun c4 => ?_)
      · replace h := h.1 c4
        refine gw_null dX7_tapeOrStagedAt_32 ?_
        exact gw_rR dX7_tapeOrStagedAt_33 rfl (by decide) (by decide) h
      · replace h := h.2 c4
        refine gw_aload_n (q := 0) dX7_tapeOrStagedAt_23 rfl rfl ?_
        refine gw_gR fX7_19 dX7_tapeOrStagedAt_24 g2 ?_
        refine gw_iload_n (q := 1) dX7_tapeOrStagedAt_27 rfl rfl ?_
        obtain ⟨g5, h⟩ := h
        refine gw_aR dX7_tapeOrStagedAt_28 g5 ?_
        refine gw_goto (tgt := 33) dX7_tapeOrStagedAt_29 (by decide) ?_
        exact gw_rR dX7_tapeOrStagedAt_33 rfl (by decide) (by decide) h
set_option maxHeartbeats 4000000 in
set_option maxRecDepth 20000 in
theorem eX7_armOf {l : Launch} {v0 : Nat} {v1 : Nat} {σ : Sg} {K : Nat → Sg → Prop} (h : ((¬ v1 = 0 → Ob σ v1 9 ∧ Ob σ v0 7 ∧ Con l mX7_armAt [.inr v0, .inl (σ.2.1 v1 2)] σ (PR (fun x3 σ3 => K x3 σ3))) ∧ (v1 = 0 → K 0 σ))) : Con l mX7_armOf [.inr v0, .inr v1] σ (PR K) := by
  refine con_gw rfl (Nat.le_of_ble_eq_true rfl) ?_
  show GW l mX7_armOf 0 [(0, .inr v0), (1, .inr v1)] [] σ 0 0 (PR K)
  refine gw_aload_n (q := 1) dX7_armOf_0 rfl rfl ?_
  refine gw_ifnonnull (tgt := 8) dX7_armOf_1 (by decide) (fun c1 => ?_) (fun c1 => ?_)
  · replace h := h.1 c1
    refine gw_aload_n (q := 0) dX7_armOf_8 rfl rfl ?_
    refine gw_aload_n (q := 1) dX7_armOf_9 rfl rfl ?_
    obtain ⟨g2, h⟩ := h
    refine gw_gI fX7_35 dX7_armOf_10 g2 ?_
    obtain ⟨g4, h⟩ := h
    refine gw_vC (bs := [.inl (σ.2.1 v1 2)]) (st := []) (vmX7_armAt) lX7_38 dX7_armOf_13 ⟨by decide, rfl, rfl, by decide, by decide⟩ (Nat.le_of_ble_eq_true rfl) rfl rfl g4 h (kR (fun x3 σ3 h n3 => ?_))
    exact gw_rR dX7_armOf_16 rfl (by decide) (by decide) h
  · replace h := h.2 c1
    refine gw_null dX7_armOf_4 ?_
    refine gw_goto (tgt := 16) dX7_armOf_5 (by decide) ?_
    exact gw_rR dX7_armOf_16 rfl (by decide) (by decide) h
set_option maxHeartbeats 4000000 in
set_option maxRecDepth 20000 in
theorem eX7_addArm {l : Launch} {v0 : Nat} {v1 : Int32} {v2 : Int32} {σ : Sg} {K : Int32 → Sg → Prop} (h : Ob σ v0 7 ∧ (((σ.2.1 v0 2) < 0 → K (-1) σ) ∧ (¬ (σ.2.1 v0 2) < 0 → (((σ.2.1 v0 2) < 2 → Aq σ (σ.2.2 v0 0) (σ.2.1 v0 2) ∧ ((¬ (σ.2.2 (σ.2.2 v0 0) (σ.2.1 v0 2).toNatClampNeg) = 0 → Ob σ (σ.2.2 (σ.2.2 v0 0) (σ.2.1 v0 2).toNatClampNeg) 0 ∧ Con l mX0_stand [.inr (σ.2.2 (σ.2.2 v0 0) (σ.2.1 v0 2).toNatClampNeg), .inl v1, .inl v2] σ (PV (fun σ6 => ∀ σ8, σ8 = w1 σ6 v0 2 ((σ6.2.1 v0 2) + 1) → K ((σ8.2.1 v0 2) - 1) σ8))) ∧ ((σ.2.2 (σ.2.2 v0 0) (σ.2.1 v0 2).toNatClampNeg) = 0 → K (-1) σ))) ∧ (¬ (σ.2.1 v0 2) < 2 → K (-1) σ))))) : Con l mX7_addArm [.inr v0, .inl v1, .inl v2] σ (PI K) := by
  refine con_gw rfl (Nat.le_of_ble_eq_true rfl) ?_
  show GW l mX7_addArm 0 [(0, .inr v0), (1, .inl v1), (2, .inl v2)] [] σ 0 0 (PI K)
  refine gw_aload_n (q := 0) dX7_addArm_0 rfl rfl ?_
  obtain ⟨g1, h⟩ := h
  refine gw_gI fX7_25 dX7_addArm_1 g1 ?_
  refine gw_if_lt (tgt := 15) dX7_addArm_4 (by decide) (fun c2 => ?_) (fun c2 => ?_)
  · replace h := h.1 c2
    refine gw_iconst (v := (-1)) dX7_addArm_15 ic_m1 ?_
    exact gw_rI dX7_addArm_16 rfl (by decide) (by decide) h
  · replace h := h.2 c2
    refine gw_aload_n (q := 0) dX7_addArm_7 rfl rfl ?_
    refine gw_gI fX7_25 dX7_addArm_8 g1 ?_
    refine gw_iconst (v := 2) dX7_addArm_11 ic_2 ?_
    refine gw_icmp_lt (tgt := 17) dX7_addArm_12 (by decide) (fun c3 => ?_) (fun c3 => ?_)
    · replace h := h.1 c3
      refine gw_aload_n (q := 0) dX7_addArm_17 rfl rfl ?_
      refine gw_gR fX7_11 dX7_addArm_18 g1 ?_
      refine gw_aload_n (q := 0) dX7_addArm_21 rfl rfl ?_
      refine gw_gI fX7_25 dX7_addArm_22 g1 ?_
      obtain ⟨g4, h⟩ := h
      refine gw_aR dX7_addArm_25 g4 ?_
      refine gw_astore_n (lo' := [(0, .inr v0), (1, .inl v1), (2, .inl v2), (3, .inr (σ.2.2 (σ.2.2 v0 0) (σ.2.1 v0 2).toNatClampNeg))]) dX7_addArm_26 rfl (by decide) rfl ?_
      refine gw_aload_n (q := 3) dX7_addArm_27 rfl rfl ?_
      refine gw_ifnonnull (tgt := 33) dX7_addArm_28 (by decide) (fun c5 => ?_) (fun c5 => ?_)
      · replace h := h.1 c5
        refine gw_aload_n (q := 3) dX7_addArm_33 rfl rfl ?_
        refine gw_iload_n (q := 1) dX7_addArm_34 rfl rfl ?_
        refine gw_iload_n (q := 2) dX7_addArm_35 rfl rfl ?_
        obtain ⟨g7, h⟩ := h
        refine gw_vC (bs := [.inl v1, .inl v2]) (st := []) (vmX0_stand) lX7_42 dX7_addArm_36 ⟨by decide, rfl, rfl, by decide, by decide⟩ (Nat.le_of_ble_eq_true rfl) rfl rfl g7 h (kV (fun σ6 h n6 => ?_))
        refine gw_aload_n (q := 0) dX7_addArm_39 rfl rfl ?_
        refine gw_dup dX7_addArm_40 ?_
        refine gw_gI fX7_25 dX7_addArm_41 (g1.up n6) ?_
        refine gw_iconst (v := 1) dX7_addArm_44 ic_1 ?_
        refine gw_iadd dX7_addArm_45 ?_
        refine gw_pI fX7_25 dX7_addArm_46 (g1.up n6) (fun σ8 e8 => ?_)
        replace h := h σ8 e8
        refine gw_aload_n (q := 0) dX7_addArm_49 rfl rfl ?_
        refine gw_gI fX7_25 dX7_addArm_50 ((g1.up n6).up (n_w1 e8)) ?_
        refine gw_iconst (v := 1) dX7_addArm_53 ic_1 ?_
        refine gw_isub dX7_addArm_54 ?_
        exact gw_rI dX7_addArm_55 rfl (by decide) (by decide) h
      · replace h := h.2 c5
        refine gw_iconst (v := (-1)) dX7_addArm_31 ic_m1 ?_
        exact gw_rI dX7_addArm_32 rfl (by decide) (by decide) h
    · replace h := h.2 c3
      refine gw_iconst (v := (-1)) dX7_addArm_15 ic_m1 ?_
      exact gw_rI dX7_addArm_16 rfl (by decide) (by decide) h
set_option maxHeartbeats 4000000 in
set_option maxRecDepth 20000 in
theorem eX7_hasRoom {l : Launch} {v0 : Nat} {σ : Sg} {K : Int32 → Sg → Prop} (h : Ob σ v0 7 ∧ ((10 ≤ ((σ.2.1 v0 3) + (σ.2.1 v0 4)) → K 0 σ) ∧ (¬ 10 ≤ ((σ.2.1 v0 3) + (σ.2.1 v0 4)) → K 1 σ))) : Con l mX7_hasRoom [.inr v0] σ (PI K) := by
  refine con_gw rfl (Nat.le_of_ble_eq_true rfl) ?_
  show GW l mX7_hasRoom 0 [(0, .inr v0)] [] σ 0 0 (PI K)
  refine gw_aload_n (q := 0) dX7_hasRoom_0 rfl rfl ?_
  obtain ⟨g1, h⟩ := h
  refine gw_gI fX7_29 dX7_hasRoom_1 g1 ?_
  refine gw_aload_n (q := 0) dX7_hasRoom_4 rfl rfl ?_
  refine gw_gI fX7_32 dX7_hasRoom_5 g1 ?_
  refine gw_iadd dX7_hasRoom_8 ?_
  refine gw_bipush (v := 10) dX7_hasRoom_9 bp_10 ?_
  refine gw_icmp_ge (tgt := 18) dX7_hasRoom_11 (by decide) (fun c2 => ?_) (fun c2 => ?_)
  · replace h := h.1 c2
    refine gw_iconst (v := 0) dX7_hasRoom_18 ic_0 ?_
    exact gw_rZ dX7_hasRoom_19 rfl (by decide) (by decide) (by decide) h
  · replace h := h.2 c2
    refine gw_iconst (v := 1) dX7_hasRoom_14 ic_1 ?_
    refine gw_goto (tgt := 19) dX7_hasRoom_15 (by decide) ?_
    exact gw_rZ dX7_hasRoom_19 rfl (by decide) (by decide) (by decide) h
set_option maxHeartbeats 4000000 in
set_option maxRecDepth 20000 in
theorem eX7_addTape {l : Launch} {v0 : Nat} {v1 : Int32} {σ : Sg} {K : Int32 → Sg → Prop} (h : Ob σ v0 7 ∧ Con l mX7_nextTape [.inr v0] σ (PR (fun x1 σ1 => ((¬ x1 = 0 → Ob σ1 x1 9 ∧ Con l mX9_begin [.inr x1, .inl v1] σ1 (PV (fun σ4 => ∀ σ6, σ6 = w1 σ4 v0 3 ((σ4.2.1 v0 3) + 1) → K ((σ6.2.1 v0 3) - 1) σ6))) ∧ (x1 = 0 → K (-1) σ1))))) : Con l mX7_addTape [.inr v0, .inl v1] σ (PI K) := by
  refine con_gw rfl (Nat.le_of_ble_eq_true rfl) ?_
  show GW l mX7_addTape 0 [(0, .inr v0), (1, .inl v1)] [] σ 0 0 (PI K)
  refine gw_aload_n (q := 0) dX7_addTape_0 rfl rfl ?_
  obtain ⟨g2, h⟩ := h
  refine gw_vC (bs := []) (st := []) (vmX7_nextTape) lX7_46 dX7_addTape_1 ⟨by decide, rfl, rfl, by decide, by decide⟩ (Nat.le_of_ble_eq_true rfl) rfl rfl g2 h (kR (fun x1 σ1 h n1 => ?_))
  refine gw_astore_n (lo' := [(0, .inr v0), (1, .inl v1), (2, .inr x1)]) dX7_addTape_4 rfl (by decide) rfl ?_
  refine gw_aload_n (q := 2) dX7_addTape_5 rfl rfl ?_
  refine gw_ifnonnull (tgt := 11) dX7_addTape_6 (by decide) (fun c3 => ?_) (fun c3 => ?_)
  · replace h := h.1 c3
    refine gw_aload_n (q := 2) dX7_addTape_11 rfl rfl ?_
    refine gw_iload_n (q := 1) dX7_addTape_12 rfl rfl ?_
    obtain ⟨g5, h⟩ := h
    refine gw_vC (bs := [.inl v1]) (st := []) (vmX9_begin) lX7_50 dX7_addTape_13 ⟨by decide, rfl, rfl, by decide, by decide⟩ (Nat.le_of_ble_eq_true rfl) rfl rfl g5 h (kV (fun σ4 h n4 => ?_))
    refine gw_aload_n (q := 0) dX7_addTape_16 rfl rfl ?_
    refine gw_dup dX7_addTape_17 ?_
    refine gw_gI fX7_29 dX7_addTape_18 ((g2.up n1).up n4) ?_
    refine gw_iconst (v := 1) dX7_addTape_21 ic_1 ?_
    refine gw_iadd dX7_addTape_22 ?_
    refine gw_pI fX7_29 dX7_addTape_23 ((g2.up n1).up n4) (fun σ6 e6 => ?_)
    replace h := h σ6 e6
    refine gw_aload_n (q := 0) dX7_addTape_26 rfl rfl ?_
    refine gw_gI fX7_29 dX7_addTape_27 (((g2.up n1).up n4).up (n_w1 e6)) ?_
    refine gw_iconst (v := 1) dX7_addTape_30 ic_1 ?_
    refine gw_isub dX7_addTape_31 ?_
    exact gw_rI dX7_addTape_32 rfl (by decide) (by decide) h
  · replace h := h.2 c3
    refine gw_iconst (v := (-1)) dX7_addTape_9 ic_m1 ?_
    exact gw_rI dX7_addTape_10 rfl (by decide) (by decide) h
set_option maxHeartbeats 4000000 in
set_option maxRecDepth 20000 in
theorem eX7_stage {l : Launch} {v0 : Nat} {v1 : Nat} {σ : Sg} {K : Int32 → Sg → Prop} (h : Ob σ v0 7 ∧ Con l mX7_nextTape [.inr v0] σ (PR (fun x1 σ1 => ((¬ x1 = 0 → Ob σ1 v1 9 ∧ Ob σ1 x1 9 ∧ Con l mX9_begin [.inr x1, .inl (σ1.2.1 v1 2)] σ1 (PV (fun σ5 => Con l mX9_addCut [.inr x1, .inr v1, .inl 0, .inl ((σ5.2.1 v1 3) - 1)] σ5 (PV (fun σ7 => ∀ σ8, σ8 = w1 σ7 v0 4 ((σ7.2.1 v0 4) + 1) → K 1 σ8))))) ∧ (x1 = 0 → K 0 σ1))))) : Con l mX7_stage [.inr v0, .inr v1] σ (PI K) := by
  refine con_gw rfl (Nat.le_of_ble_eq_true rfl) ?_
  show GW l mX7_stage 0 [(0, .inr v0), (1, .inr v1)] [] σ 0 0 (PI K)
  refine gw_aload_n (q := 0) dX7_stage_0 rfl rfl ?_
  obtain ⟨g2, h⟩ := h
  refine gw_vC (bs := []) (st := []) (vmX7_nextTape) lX7_46 dX7_stage_1 ⟨by decide, rfl, rfl, by decide, by decide⟩ (Nat.le_of_ble_eq_true rfl) rfl rfl g2 h (kR (fun x1 σ1 h n1 => ?_))
  refine gw_astore_n (lo' := [(0, .inr v0), (1, .inr v1), (2, .inr x1)]) dX7_stage_4 rfl (by decide) rfl ?_
  refine gw_aload_n (q := 2) dX7_stage_5 rfl rfl ?_
  refine gw_ifnonnull (tgt := 11) dX7_stage_6 (by decide) (fun c3 => ?_) (fun c3 => ?_)
  · replace h := h.1 c3
    refine gw_aload_n (q := 2) dX7_stage_11 rfl rfl ?_
    refine gw_aload_n (q := 1) dX7_stage_12 rfl rfl ?_
    obtain ⟨g4, h⟩ := h
    refine gw_gI fX7_35 dX7_stage_13 g4 ?_
    obtain ⟨g6, h⟩ := h
    refine gw_vC (bs := [.inl (σ1.2.1 v1 2)]) (st := []) (vmX9_begin) lX7_50 dX7_stage_16 ⟨by decide, rfl, rfl, by decide, by decide⟩ (Nat.le_of_ble_eq_true rfl) rfl rfl g6 h (kV (fun σ5 h n5 => ?_))
    refine gw_aload_n (q := 2) dX7_stage_19 rfl rfl ?_
    refine gw_aload_n (q := 1) dX7_stage_20 rfl rfl ?_
    refine gw_iconst (v := 0) dX7_stage_21 ic_0 ?_
    refine gw_aload_n (q := 1) dX7_stage_22 rfl rfl ?_
    refine gw_gI fX7_54 dX7_stage_23 (g4.up n5) ?_
    refine gw_iconst (v := 1) dX7_stage_26 ic_1 ?_
    refine gw_isub dX7_stage_27 ?_
    refine gw_vC (bs := [.inr v1, .inl 0, .inl ((σ5.2.1 v1 3) - 1)]) (st := []) (vmX9_addCut) lX7_57 dX7_stage_28 ⟨by decide, rfl, rfl, by decide, by decide⟩ (Nat.le_of_ble_eq_true rfl) rfl rfl (g6.up n5) h (kV (fun σ7 h n7 => ?_))
    refine gw_aload_n (q := 0) dX7_stage_31 rfl rfl ?_
    refine gw_dup dX7_stage_32 ?_
    refine gw_gI fX7_32 dX7_stage_33 (((g2.up n1).up n5).up n7) ?_
    refine gw_iconst (v := 1) dX7_stage_36 ic_1 ?_
    refine gw_iadd dX7_stage_37 ?_
    refine gw_pI fX7_32 dX7_stage_38 (((g2.up n1).up n5).up n7) (fun σ8 e8 => ?_)
    replace h := h σ8 e8
    refine gw_iconst (v := 1) dX7_stage_41 ic_1 ?_
    exact gw_rZ dX7_stage_42 rfl (by decide) (by decide) (by decide) h
  · replace h := h.2 c3
    refine gw_iconst (v := 0) dX7_stage_9 ic_0 ?_
    exact gw_rZ dX7_stage_10 rfl (by decide) (by decide) (by decide) h
set_option maxHeartbeats 4000000 in
set_option maxRecDepth 20000 in
theorem eX7_nextTape {l : Launch} {v0 : Nat} {σ : Sg} {K : Nat → Sg → Prop} (h : Ob σ v0 7 ∧ ((((σ.2.1 v0 3) + (σ.2.1 v0 4)) < 0 → K 0 σ) ∧ (¬ ((σ.2.1 v0 3) + (σ.2.1 v0 4)) < 0 → ((10 ≤ ((σ.2.1 v0 3) + (σ.2.1 v0 4)) → K 0 σ) ∧ (¬ 10 ≤ ((σ.2.1 v0 3) + (σ.2.1 v0 4)) → Aq σ (σ.2.2 v0 1) ((σ.2.1 v0 3) + (σ.2.1 v0 4)) ∧ K (σ.2.2 (σ.2.2 v0 1) ((σ.2.1 v0 3) + (σ.2.1 v0 4)).toNatClampNeg) σ))))) : Con l mX7_nextTape [.inr v0] σ (PR K) := by
  refine con_gw rfl (Nat.le_of_ble_eq_true rfl) ?_
  show GW l mX7_nextTape 0 [(0, .inr v0)] [] σ 0 0 (PR K)
  refine gw_aload_n (q := 0) dX7_nextTape_0 rfl rfl ?_
  obtain ⟨g1, h⟩ := h
  refine gw_gI fX7_29 dX7_nextTape_1 g1 ?_
  refine gw_aload_n (q := 0) dX7_nextTape_4 rfl rfl ?_
  refine gw_gI fX7_32 dX7_nextTape_5 g1 ?_
  refine gw_iadd dX7_nextTape_8 ?_
  refine gw_istore_n (lo' := [(0, .inr v0), (1, .inl ((σ.2.1 v0 3) + (σ.2.1 v0 4)))]) dX7_nextTape_9 rfl (by decide) rfl ?_
  refine gw_iload_n (q := 1) dX7_nextTape_10 rfl rfl ?_
  refine gw_if_lt (tgt := 29) dX7_nextTape_11 (by decide) (fun c2 => ?_) (fun c2 => ?_)
  · replace h := h.1 c2
    refine gw_null dX7_nextTape_29 ?_
    exact gw_rR dX7_nextTape_30 rfl (by decide) (by decide) h
  · replace h := h.2 c2
    refine gw_iload_n (q := 1) dX7_nextTape_14 rfl rfl ?_
    refine gw_bipush (v := 10) dX7_nextTape_15 bp_10 ?_
    refine gw_icmp_ge (tgt := 29) dX7_nextTape_17 (by decide) (fun c3 => ?_) (fun c3 => ?_)
    · replace h := h.1 c3
      refine gw_null dX7_nextTape_29 ?_
      exact gw_rR dX7_nextTape_30 rfl (by decide) (by decide) h
    · replace h := h.2 c3
      refine gw_aload_n (q := 0) dX7_nextTape_20 rfl rfl ?_
      refine gw_gR fX7_19 dX7_nextTape_21 g1 ?_
      refine gw_iload_n (q := 1) dX7_nextTape_24 rfl rfl ?_
      obtain ⟨g4, h⟩ := h
      refine gw_aR dX7_nextTape_25 g4 ?_
      refine gw_goto (tgt := 30) dX7_nextTape_26 (by decide) ?_
      exact gw_rR dX7_nextTape_30 rfl (by decide) (by decide) h
set_option maxHeartbeats 4000000 in
set_option maxRecDepth 20000 in
theorem eX7_keepStaged {l : Launch} {v0 : Nat} {σ : Sg} {K : Int32 → Sg → Prop} (h : Ob σ v0 7 ∧ ∀ σ2, σ2 = w1 σ v0 3 ((σ.2.1 v0 3) + (σ.2.1 v0 4)) → ∀ σ3, σ3 = w1 σ2 v0 4 0 → K (σ.2.1 v0 4) σ3) : Con l mX7_keepStaged [.inr v0] σ (PI K) := by
  refine con_gw rfl (Nat.le_of_ble_eq_true rfl) ?_
  show GW l mX7_keepStaged 0 [(0, .inr v0)] [] σ 0 0 (PI K)
  refine gw_aload_n (q := 0) dX7_keepStaged_0 rfl rfl ?_
  obtain ⟨g1, h⟩ := h
  refine gw_gI fX7_32 dX7_keepStaged_1 g1 ?_
  refine gw_istore_n (lo' := [(0, .inr v0), (1, .inl (σ.2.1 v0 4))]) dX7_keepStaged_4 rfl (by decide) rfl ?_
  refine gw_aload_n (q := 0) dX7_keepStaged_5 rfl rfl ?_
  refine gw_dup dX7_keepStaged_6 ?_
  refine gw_gI fX7_29 dX7_keepStaged_7 g1 ?_
  refine gw_iload_n (q := 1) dX7_keepStaged_10 rfl rfl ?_
  refine gw_iadd dX7_keepStaged_11 ?_
  refine gw_pI fX7_29 dX7_keepStaged_12 g1 (fun σ2 e2 => ?_)
  replace h := h σ2 e2
  refine gw_aload_n (q := 0) dX7_keepStaged_15 rfl rfl ?_
  refine gw_iconst (v := 0) dX7_keepStaged_16 ic_0 ?_
  refine gw_pI fX7_32 dX7_keepStaged_17 (g1.up (n_w1 e2)) (fun σ3 e3 => ?_)
  replace h := h σ3 e3
  refine gw_iload_n (q := 1) dX7_keepStaged_20 rfl rfl ?_
  exact gw_rI dX7_keepStaged_21 rfl (by decide) (by decide) h
set_option maxHeartbeats 4000000 in
set_option maxRecDepth 20000 in
theorem eX7_dropStaged {l : Launch} {v0 : Nat} {σ : Sg} {K : Sg → Prop} (h : Ob σ v0 7 ∧ ∀ σ2, σ2 = w1 σ v0 4 0 → K σ2) : Con l mX7_dropStaged [.inr v0] σ (PV K) := by
  refine con_gw rfl (Nat.le_of_ble_eq_true rfl) ?_
  show GW l mX7_dropStaged 0 [(0, .inr v0)] [] σ 0 0 (PV K)
  refine gw_aload_n (q := 0) dX7_dropStaged_0 rfl rfl ?_
  refine gw_iconst (v := 0) dX7_dropStaged_1 ic_0 ?_
  obtain ⟨g1, h⟩ := h
  refine gw_pI fX7_32 dX7_dropStaged_2 g1 (fun σ2 e2 => ?_)
  replace h := h σ2 e2
  exact gw_rV dX7_dropStaged_5 rfl (by decide) (by decide) h
set_option maxHeartbeats 4000000 in
set_option maxRecDepth 20000 in
theorem gX7_hasTapes_4 {l : Launch} {v0 : Nat} {v1 : Int32} {v2 : Int32} {v3 : Int32} {σ : Sg} {K : Int32 → Sg → Prop} (h : Ob σ v0 7 ∧ (((σ.2.1 v0 3) ≤ v3 → (v2 = 0 ∨ v2 = 1) ∧ K v2 σ) ∧ (¬ (σ.2.1 v0 3) ≤ v3 → Con l mX7_tapeAt [.inr v0, .inl v3] σ (PR (fun x4 σ4 => ((¬ v2 = 0 → GW l mX7_hasTapes 4 [(0, .inr v0), (1, .inl v1), (2, .inl 1), (3, .inl (v3 + 1))] [] σ4 0 0 (PI K)) ∧ (v2 = 0 → ((x4 = 0 → GW l mX7_hasTapes 4 [(0, .inr v0), (1, .inl v1), (2, .inl 0), (3, .inl (v3 + 1))] [] σ4 0 0 (PI K)) ∧ (¬ x4 = 0 → Ob σ4 x4 9 ∧ ((¬ (σ4.2.1 x4 2) = v1 → GW l mX7_hasTapes 4 [(0, .inr v0), (1, .inl v1), (2, .inl 0), (3, .inl (v3 + 1))] [] σ4 0 0 (PI K)) ∧ ((σ4.2.1 x4 2) = v1 → GW l mX7_hasTapes 4 [(0, .inr v0), (1, .inl v1), (2, .inl 1), (3, .inl (v3 + 1))] [] σ4 0 0 (PI K)))))))))))) : GW l mX7_hasTapes 4 [(0, .inr v0), (1, .inl v1), (2, .inl v2), (3, .inl v3)] [] σ 0 0 (PI K) := by
  refine gw_iload_n (q := 3) dX7_hasTapes_4 rfl rfl ?_
  refine gw_aload_n (q := 0) dX7_hasTapes_5 rfl rfl ?_
  obtain ⟨g1, h⟩ := h
  refine gw_gI fX7_29 dX7_hasTapes_6 g1 ?_
  refine gw_icmp_ge (tgt := 49) dX7_hasTapes_9 (by decide) (fun c2 => ?_) (fun c2 => ?_)
  · replace h := h.1 c2
    refine gw_iload_n (q := 2) dX7_hasTapes_49 rfl rfl ?_
    obtain ⟨z3, h⟩ := h
    exact gw_rZ dX7_hasTapes_50 rfl z3 (by decide) (by decide) h
  · replace h := h.2 c2
    refine gw_aload_n (q := 0) dX7_hasTapes_12 rfl rfl ?_
    refine gw_iload_n (q := 3) dX7_hasTapes_13 rfl rfl ?_
    refine gw_vC (bs := [.inl v3]) (st := []) (vmX7_tapeAt) lX7_61 dX7_hasTapes_14 ⟨by decide, rfl, rfl, by decide, by decide⟩ (Nat.le_of_ble_eq_true rfl) rfl rfl g1 h (kR (fun x4 σ4 h n4 => ?_))
    refine gw_astore (lo' := [(0, .inr v0), (1, .inl v1), (2, .inl v2), (3, .inl v3), (4, .inr x4)]) dX7_hasTapes_17 (by decide) rfl ?_
    refine gw_iload_n (q := 2) dX7_hasTapes_19 rfl rfl ?_
    refine gw_if_ne (tgt := 37) dX7_hasTapes_20 (by decide) (fun c5 => ?_) (fun c5 => ?_)
    · replace h := h.1 c5
      refine gw_iconst (v := 1) dX7_hasTapes_37 ic_1 ?_
      refine gw_goto (tgt := 42) dX7_hasTapes_38 (by decide) ?_
      refine gw_istore_n (lo' := [(0, .inr v0), (1, .inl v1), (2, .inl 1), (3, .inl v3), (4, .inr x4)]) dX7_hasTapes_42 rfl (by decide) rfl ?_
      refine gw_inc (lo' := [(0, .inr v0), (1, .inl v1), (2, .inl 1), (3, .inl (v3 + 1)), (4, .inr x4)]) (q := 3) (c := 1) dX7_hasTapes_43 ic_1 rfl (by decide) rfl ?_
      refine gw_goto (tgt := 4) dX7_hasTapes_46 (by decide) ?_
      refine gw_pick [0, 1, 2, 3] rfl ?_
      exact h
    · replace h := h.2 c5
      refine gw_aload (q := 4) dX7_hasTapes_23 rfl ?_
      refine gw_ifnull (tgt := 41) dX7_hasTapes_25 (by decide) (fun c6 => ?_) (fun c6 => ?_)
      · replace h := h.1 c6
        refine gw_iconst (v := 0) dX7_hasTapes_41 ic_0 ?_
        refine gw_istore_n (lo' := [(0, .inr v0), (1, .inl v1), (2, .inl 0), (3, .inl v3), (4, .inr x4)]) dX7_hasTapes_42 rfl (by decide) rfl ?_
        refine gw_inc (lo' := [(0, .inr v0), (1, .inl v1), (2, .inl 0), (3, .inl (v3 + 1)), (4, .inr x4)]) (q := 3) (c := 1) dX7_hasTapes_43 ic_1 rfl (by decide) rfl ?_
        refine gw_goto (tgt := 4) dX7_hasTapes_46 (by decide) ?_
        refine gw_pick [0, 1, 2, 3] rfl ?_
        exact h
      · replace h := h.2 c6
        refine gw_aload (q := 4) dX7_hasTapes_28 rfl ?_
        obtain ⟨g7, h⟩ := h
        refine gw_gI fX7_35 dX7_hasTapes_30 g7 ?_
        refine gw_iload_n (q := 1) dX7_hasTapes_33 rfl rfl ?_
        refine gw_icmp_ne (tgt := 41) dX7_hasTapes_34 (by decide) (fun c8 => ?_) (fun c8 => ?_)
        · replace h := h.1 c8
          refine gw_iconst (v := 0) dX7_hasTapes_41 ic_0 ?_
          refine gw_istore_n (lo' := [(0, .inr v0), (1, .inl v1), (2, .inl 0), (3, .inl v3), (4, .inr x4)]) dX7_hasTapes_42 rfl (by decide) rfl ?_
          refine gw_inc (lo' := [(0, .inr v0), (1, .inl v1), (2, .inl 0), (3, .inl (v3 + 1)), (4, .inr x4)]) (q := 3) (c := 1) dX7_hasTapes_43 ic_1 rfl (by decide) rfl ?_
          refine gw_goto (tgt := 4) dX7_hasTapes_46 (by decide) ?_
          refine gw_pick [0, 1, 2, 3] rfl ?_
          exact h
        · replace h := h.2 c8
          refine gw_iconst (v := 1) dX7_hasTapes_37 ic_1 ?_
          refine gw_goto (tgt := 42) dX7_hasTapes_38 (by decide) ?_
          refine gw_istore_n (lo' := [(0, .inr v0), (1, .inl v1), (2, .inl 1), (3, .inl v3), (4, .inr x4)]) dX7_hasTapes_42 rfl (by decide) rfl ?_
          refine gw_inc (lo' := [(0, .inr v0), (1, .inl v1), (2, .inl 1), (3, .inl (v3 + 1)), (4, .inr x4)]) (q := 3) (c := 1) dX7_hasTapes_43 ic_1 rfl (by decide) rfl ?_
          refine gw_goto (tgt := 4) dX7_hasTapes_46 (by decide) ?_
          refine gw_pick [0, 1, 2, 3] rfl ?_
          exact h
set_option maxHeartbeats 4000000 in
set_option maxRecDepth 20000 in
theorem eX7_hasTapes {l : Launch} {v0 : Nat} {v1 : Int32} {σ : Sg} {K : Int32 → Sg → Prop} (h : GW l mX7_hasTapes 4 [(0, .inr v0), (1, .inl v1), (2, .inl 0), (3, .inl 0)] [] σ 0 0 (PI K)) : Con l mX7_hasTapes [.inr v0, .inl v1] σ (PI K) := by
  refine con_gw rfl (Nat.le_of_ble_eq_true rfl) ?_
  show GW l mX7_hasTapes 0 [(0, .inr v0), (1, .inl v1)] [] σ 0 0 (PI K)
  refine gw_iconst (v := 0) dX7_hasTapes_0 ic_0 ?_
  refine gw_istore_n (lo' := [(0, .inr v0), (1, .inl v1), (2, .inl 0)]) dX7_hasTapes_1 rfl (by decide) rfl ?_
  refine gw_iconst (v := 0) dX7_hasTapes_2 ic_0 ?_
  refine gw_istore_n (lo' := [(0, .inr v0), (1, .inl v1), (2, .inl 0), (3, .inl 0)]) dX7_hasTapes_3 rfl (by decide) rfl ?_
  exact h
set_option maxHeartbeats 4000000 in
set_option maxRecDepth 20000 in
theorem gX7_allTicks_4 {l : Launch} {v0 : Nat} {v1 : Int32} {v2 : Int32} {σ : Sg} {K : Int32 → Sg → Prop} (h : Ob σ v0 7 ∧ (((σ.2.1 v0 3) ≤ v2 → K v1 σ) ∧ (¬ (σ.2.1 v0 3) ≤ v2 → Con l mX7_tapeAt [.inr v0, .inl v2] σ (PR (fun x3 σ3 => ((¬ x3 = 0 → Ob σ3 x3 9 ∧ GW l mX7_allTicks 4 [(0, .inr v0), (1, .inl (v1 + (σ3.2.1 x3 3))), (2, .inl (v2 + 1))] [] σ3 0 0 (PI K)) ∧ (x3 = 0 → GW l mX7_allTicks 4 [(0, .inr v0), (1, .inl (v1 + 0)), (2, .inl (v2 + 1))] [] σ3 0 0 (PI K)))))))) : GW l mX7_allTicks 4 [(0, .inr v0), (1, .inl v1), (2, .inl v2)] [] σ 0 0 (PI K) := by
  refine gw_iload_n (q := 2) dX7_allTicks_4 rfl rfl ?_
  refine gw_aload_n (q := 0) dX7_allTicks_5 rfl rfl ?_
  obtain ⟨g1, h⟩ := h
  refine gw_gI fX7_29 dX7_allTicks_6 g1 ?_
  refine gw_icmp_ge (tgt := 39) dX7_allTicks_9 (by decide) (fun c2 => ?_) (fun c2 => ?_)
  · replace h := h.1 c2
    refine gw_iload_n (q := 1) dX7_allTicks_39 rfl rfl ?_
    exact gw_rI dX7_allTicks_40 rfl (by decide) (by decide) h
  · replace h := h.2 c2
    refine gw_aload_n (q := 0) dX7_allTicks_12 rfl rfl ?_
    refine gw_iload_n (q := 2) dX7_allTicks_13 rfl rfl ?_
    refine gw_vC (bs := [.inl v2]) (st := []) (vmX7_tapeAt) lX7_61 dX7_allTicks_14 ⟨by decide, rfl, rfl, by decide, by decide⟩ (Nat.le_of_ble_eq_true rfl) rfl rfl g1 h (kR (fun x3 σ3 h n3 => ?_))
    refine gw_astore_n (lo' := [(0, .inr v0), (1, .inl v1), (2, .inl v2), (3, .inr x3)]) dX7_allTicks_17 rfl (by decide) rfl ?_
    refine gw_iload_n (q := 1) dX7_allTicks_18 rfl rfl ?_
    refine gw_aload_n (q := 3) dX7_allTicks_19 rfl rfl ?_
    refine gw_ifnonnull (tgt := 27) dX7_allTicks_20 (by decide) (fun c4 => ?_) (fun c4 => ?_)
    · replace h := h.1 c4
      refine gw_aload_n (q := 3) dX7_allTicks_27 rfl rfl ?_
      obtain ⟨g5, h⟩ := h
      refine gw_gI fX7_54 dX7_allTicks_28 g5 ?_
      refine gw_iadd dX7_allTicks_31 ?_
      refine gw_istore_n (lo' := [(0, .inr v0), (1, .inl (v1 + (σ3.2.1 x3 3))), (2, .inl v2), (3, .inr x3)]) dX7_allTicks_32 rfl (by decide) rfl ?_
      refine gw_inc (lo' := [(0, .inr v0), (1, .inl (v1 + (σ3.2.1 x3 3))), (2, .inl (v2 + 1)), (3, .inr x3)]) (q := 2) (c := 1) dX7_allTicks_33 ic_1 rfl (by decide) rfl ?_
      refine gw_goto (tgt := 4) dX7_allTicks_36 (by decide) ?_
      refine gw_pick [0, 1, 2] rfl ?_
      exact h
    · replace h := h.2 c4
      refine gw_iconst (v := 0) dX7_allTicks_23 ic_0 ?_
      refine gw_goto (tgt := 31) dX7_allTicks_24 (by decide) ?_
      refine gw_iadd dX7_allTicks_31 ?_
      refine gw_istore_n (lo' := [(0, .inr v0), (1, .inl (v1 + 0)), (2, .inl v2), (3, .inr x3)]) dX7_allTicks_32 rfl (by decide) rfl ?_
      refine gw_inc (lo' := [(0, .inr v0), (1, .inl (v1 + 0)), (2, .inl (v2 + 1)), (3, .inr x3)]) (q := 2) (c := 1) dX7_allTicks_33 ic_1 rfl (by decide) rfl ?_
      refine gw_goto (tgt := 4) dX7_allTicks_36 (by decide) ?_
      refine gw_pick [0, 1, 2] rfl ?_
      exact h
set_option maxHeartbeats 4000000 in
set_option maxRecDepth 20000 in
theorem eX7_allTicks {l : Launch} {v0 : Nat} {σ : Sg} {K : Int32 → Sg → Prop} (h : GW l mX7_allTicks 4 [(0, .inr v0), (1, .inl 0), (2, .inl 0)] [] σ 0 0 (PI K)) : Con l mX7_allTicks [.inr v0] σ (PI K) := by
  refine con_gw rfl (Nat.le_of_ble_eq_true rfl) ?_
  show GW l mX7_allTicks 0 [(0, .inr v0)] [] σ 0 0 (PI K)
  refine gw_iconst (v := 0) dX7_allTicks_0 ic_0 ?_
  refine gw_istore_n (lo' := [(0, .inr v0), (1, .inl 0)]) dX7_allTicks_1 rfl (by decide) rfl ?_
  refine gw_iconst (v := 0) dX7_allTicks_2 ic_0 ?_
  refine gw_istore_n (lo' := [(0, .inr v0), (1, .inl 0), (2, .inl 0)]) dX7_allTicks_3 rfl (by decide) rfl ?_
  exact h
set_option maxHeartbeats 4000000 in
set_option maxRecDepth 20000 in
theorem gX7_canShare_60 {l : Launch} {v0 : Nat} {v1 : Int32} {v2 : Int32} {v3 : Int32} {σ : Sg} {K : Int32 → Sg → Prop} (h : Ob σ v0 7 ∧ (((σ.2.1 v0 3) ≤ v3 → (v2 = 0 ∨ v2 = 1) ∧ K v2 σ) ∧ (¬ (σ.2.1 v0 3) ≤ v3 → Con l mX7_tapeAt [.inr v0, .inl v3] σ (PR (fun x4 σ4 => ((v2 = 0 → GW l mX7_canShare 60 [(0, .inr v0), (1, .inl v1), (2, .inl 0), (3, .inl (v3 + 1))] [] σ4 0 0 (PI K)) ∧ (¬ v2 = 0 → ((((v1 >>> (v3 &&& 31)) &&& 1) = 0 → GW l mX7_canShare 60 [(0, .inr v0), (1, .inl v1), (2, .inl 1), (3, .inl (v3 + 1))] [] σ4 0 0 (PI K)) ∧ (¬ ((v1 >>> (v3 &&& 31)) &&& 1) = 0 → ((x4 = 0 → GW l mX7_canShare 60 [(0, .inr v0), (1, .inl v1), (2, .inl 0), (3, .inl (v3 + 1))] [] σ4 0 0 (PI K)) ∧ (¬ x4 = 0 → Ob σ4 x4 9 ∧ (((σ4.2.1 x4 3) ≤ 0 → GW l mX7_canShare 60 [(0, .inr v0), (1, .inl v1), (2, .inl 0), (3, .inl (v3 + 1))] [] σ4 0 0 (PI K)) ∧ (¬ (σ4.2.1 x4 3) ≤ 0 → GW l mX7_canShare 60 [(0, .inr v0), (1, .inl v1), (2, .inl 1), (3, .inl (v3 + 1))] [] σ4 0 0 (PI K)))))))))))))) : GW l mX7_canShare 60 [(0, .inr v0), (1, .inl v1), (2, .inl v2), (3, .inl v3)] [] σ 0 0 (PI K) := by
  refine gw_iload_n (q := 3) dX7_canShare_60 rfl rfl ?_
  refine gw_aload_n (q := 0) dX7_canShare_61 rfl rfl ?_
  obtain ⟨g1, h⟩ := h
  refine gw_gI fX7_29 dX7_canShare_62 g1 ?_
  refine gw_icmp_ge (tgt := 112) dX7_canShare_65 (by decide) (fun c2 => ?_) (fun c2 => ?_)
  · replace h := h.1 c2
    refine gw_iload_n (q := 2) dX7_canShare_112 rfl rfl ?_
    obtain ⟨z3, h⟩ := h
    exact gw_rZ dX7_canShare_113 rfl z3 (by decide) (by decide) h
  · replace h := h.2 c2
    refine gw_aload_n (q := 0) dX7_canShare_68 rfl rfl ?_
    refine gw_iload_n (q := 3) dX7_canShare_69 rfl rfl ?_
    refine gw_vC (bs := [.inl v3]) (st := []) (vmX7_tapeAt) lX7_61 dX7_canShare_70 ⟨by decide, rfl, rfl, by decide, by decide⟩ (Nat.le_of_ble_eq_true rfl) rfl rfl g1 h (kR (fun x4 σ4 h n4 => ?_))
    refine gw_astore (lo' := [(0, .inr v0), (1, .inl v1), (2, .inl v2), (3, .inl v3), (4, .inr x4)]) dX7_canShare_73 (by decide) rfl ?_
    refine gw_iload_n (q := 2) dX7_canShare_75 rfl rfl ?_
    refine gw_if_eq (tgt := 104) dX7_canShare_76 (by decide) (fun c5 => ?_) (fun c5 => ?_)
    · replace h := h.1 c5
      refine gw_iconst (v := 0) dX7_canShare_104 ic_0 ?_
      refine gw_istore_n (lo' := [(0, .inr v0), (1, .inl v1), (2, .inl 0), (3, .inl v3), (4, .inr x4)]) dX7_canShare_105 rfl (by decide) rfl ?_
      refine gw_inc (lo' := [(0, .inr v0), (1, .inl v1), (2, .inl 0), (3, .inl (v3 + 1)), (4, .inr x4)]) (q := 3) (c := 1) dX7_canShare_106 ic_1 rfl (by decide) rfl ?_
      refine gw_goto (tgt := 60) dX7_canShare_109 (by decide) ?_
      refine gw_pick [0, 1, 2, 3] rfl ?_
      exact h
    · replace h := h.2 c5
      refine gw_iload_n (q := 1) dX7_canShare_79 rfl rfl ?_
      refine gw_iload_n (q := 3) dX7_canShare_80 rfl rfl ?_
      refine gw_ishr dX7_canShare_81 ?_
      refine gw_iconst (v := 1) dX7_canShare_82 ic_1 ?_
      refine gw_iand dX7_canShare_83 ?_
      refine gw_if_eq (tgt := 100) dX7_canShare_84 (by decide) (fun c6 => ?_) (fun c6 => ?_)
      · replace h := h.1 c6
        refine gw_iconst (v := 1) dX7_canShare_100 ic_1 ?_
        refine gw_goto (tgt := 105) dX7_canShare_101 (by decide) ?_
        refine gw_istore_n (lo' := [(0, .inr v0), (1, .inl v1), (2, .inl 1), (3, .inl v3), (4, .inr x4)]) dX7_canShare_105 rfl (by decide) rfl ?_
        refine gw_inc (lo' := [(0, .inr v0), (1, .inl v1), (2, .inl 1), (3, .inl (v3 + 1)), (4, .inr x4)]) (q := 3) (c := 1) dX7_canShare_106 ic_1 rfl (by decide) rfl ?_
        refine gw_goto (tgt := 60) dX7_canShare_109 (by decide) ?_
        refine gw_pick [0, 1, 2, 3] rfl ?_
        exact h
      · replace h := h.2 c6
        refine gw_aload (q := 4) dX7_canShare_87 rfl ?_
        refine gw_ifnull (tgt := 104) dX7_canShare_89 (by decide) (fun c7 => ?_) (fun c7 => ?_)
        · replace h := h.1 c7
          refine gw_iconst (v := 0) dX7_canShare_104 ic_0 ?_
          refine gw_istore_n (lo' := [(0, .inr v0), (1, .inl v1), (2, .inl 0), (3, .inl v3), (4, .inr x4)]) dX7_canShare_105 rfl (by decide) rfl ?_
          refine gw_inc (lo' := [(0, .inr v0), (1, .inl v1), (2, .inl 0), (3, .inl (v3 + 1)), (4, .inr x4)]) (q := 3) (c := 1) dX7_canShare_106 ic_1 rfl (by decide) rfl ?_
          refine gw_goto (tgt := 60) dX7_canShare_109 (by decide) ?_
          refine gw_pick [0, 1, 2, 3] rfl ?_
          exact h
        · replace h := h.2 c7
          refine gw_aload (q := 4) dX7_canShare_92 rfl ?_
          obtain ⟨g8, h⟩ := h
          refine gw_gI fX7_54 dX7_canShare_94 g8 ?_
          refine gw_if_le (tgt := 104) dX7_canShare_97 (by decide) (fun c9 => ?_) (fun c9 => ?_)
          · replace h := h.1 c9
            refine gw_iconst (v := 0) dX7_canShare_104 ic_0 ?_
            refine gw_istore_n (lo' := [(0, .inr v0), (1, .inl v1), (2, .inl 0), (3, .inl v3), (4, .inr x4)]) dX7_canShare_105 rfl (by decide) rfl ?_
            refine gw_inc (lo' := [(0, .inr v0), (1, .inl v1), (2, .inl 0), (3, .inl (v3 + 1)), (4, .inr x4)]) (q := 3) (c := 1) dX7_canShare_106 ic_1 rfl (by decide) rfl ?_
            refine gw_goto (tgt := 60) dX7_canShare_109 (by decide) ?_
            refine gw_pick [0, 1, 2, 3] rfl ?_
            exact h
          · replace h := h.2 c9
            refine gw_iconst (v := 1) dX7_canShare_100 ic_1 ?_
            refine gw_goto (tgt := 105) dX7_canShare_101 (by decide) ?_
            refine gw_istore_n (lo' := [(0, .inr v0), (1, .inl v1), (2, .inl 1), (3, .inl v3), (4, .inr x4)]) dX7_canShare_105 rfl (by decide) rfl ?_
            refine gw_inc (lo' := [(0, .inr v0), (1, .inl v1), (2, .inl 1), (3, .inl (v3 + 1)), (4, .inr x4)]) (q := 3) (c := 1) dX7_canShare_106 ic_1 rfl (by decide) rfl ?_
            refine gw_goto (tgt := 60) dX7_canShare_109 (by decide) ?_
            refine gw_pick [0, 1, 2, 3] rfl ?_
            exact h
set_option maxHeartbeats 4000000 in
set_option maxRecDepth 20000 in
theorem gX7_canShare_2 {l : Launch} {v0 : Nat} {v1 : Int32} {v2 : Int32} {σ : Sg} {K : Int32 → Sg → Prop} (h : ((2 ≤ v2 → ((v1 ≤ 0 → K 0 σ) ∧ (¬ v1 ≤ 0 → Ob σ v0 7 ∧ (((1 <<< ((σ.2.1 v0 3) &&& 31)) ≤ v1 → K 0 σ) ∧ (¬ (1 <<< ((σ.2.1 v0 3) &&& 31)) ≤ v1 → Con l mJ6_bitCount_0f7a4 [.inl v1] σ (PI (fun x5 σ5 => ((x5 ≤ 5 → GW l mX7_canShare 60 [(0, .inr v0), (1, .inl v1), (2, .inl 1), (3, .inl 0)] [] σ5 0 0 (PI K)) ∧ (¬ x5 ≤ 5 → K 0 σ5))))))))) ∧ (¬ 2 ≤ v2 → Ob σ v0 7 ∧ Con l mX7_armAt [.inr v0, .inl v2] σ (PR (fun x7 σ7 => ((x7 = 0 → K 0 σ7) ∧ (¬ x7 = 0 → Ob σ7 x7 0 ∧ ((¬ (σ7.2.1 x7 6) = 0 → GW l mX7_canShare 2 [(0, .inr v0), (1, .inl v1), (2, .inl (v2 + 1))] [] σ7 0 0 (PI K)) ∧ ((σ7.2.1 x7 6) = 0 → K 0 σ7))))))))) : GW l mX7_canShare 2 [(0, .inr v0), (1, .inl v1), (2, .inl v2)] [] σ 0 0 (PI K) := by
  refine gw_iload_n (q := 2) dX7_canShare_2 rfl rfl ?_
  refine gw_iconst (v := 2) dX7_canShare_3 ic_2 ?_
  refine gw_icmp_ge (tgt := 32) dX7_canShare_4 (by decide) (fun c1 => ?_) (fun c1 => ?_)
  · replace h := h.1 c1
    refine gw_iload_n (q := 1) dX7_canShare_32 rfl rfl ?_
    refine gw_if_le (tgt := 54) dX7_canShare_33 (by decide) (fun c2 => ?_) (fun c2 => ?_)
    · replace h := h.1 c2
      refine gw_iconst (v := 0) dX7_canShare_54 ic_0 ?_
      exact gw_rZ dX7_canShare_55 rfl (by decide) (by decide) (by decide) h
    · replace h := h.2 c2
      refine gw_iload_n (q := 1) dX7_canShare_36 rfl rfl ?_
      refine gw_iconst (v := 1) dX7_canShare_37 ic_1 ?_
      refine gw_aload_n (q := 0) dX7_canShare_38 rfl rfl ?_
      obtain ⟨g3, h⟩ := h
      refine gw_gI fX7_29 dX7_canShare_39 g3 ?_
      refine gw_ishl dX7_canShare_42 ?_
      refine gw_icmp_ge (tgt := 54) dX7_canShare_43 (by decide) (fun c4 => ?_) (fun c4 => ?_)
      · replace h := h.1 c4
        refine gw_iconst (v := 0) dX7_canShare_54 ic_0 ?_
        exact gw_rZ dX7_canShare_55 rfl (by decide) (by decide) (by decide) h
      · replace h := h.2 c4
        refine gw_iload_n (q := 1) dX7_canShare_46 rfl rfl ?_
        refine gw_sC (bs := [.inl v1]) (st := []) smJ6_bitCount_0f7a4 lX7_68 dX7_canShare_47 ⟨by decide, rfl, rfl, by decide, by decide⟩ (Nat.le_of_ble_eq_true rfl) rfl rfl h (kI (fun x5 σ5 h n5 => ?_))
        refine gw_iconst (v := 5) dX7_canShare_50 ic_5 ?_
        refine gw_icmp_le (tgt := 56) dX7_canShare_51 (by decide) (fun c6 => ?_) (fun c6 => ?_)
        · replace h := h.1 c6
          refine gw_iconst (v := 1) dX7_canShare_56 ic_1 ?_
          refine gw_istore_n (lo' := [(0, .inr v0), (1, .inl v1), (2, .inl 1)]) dX7_canShare_57 rfl (by decide) rfl ?_
          refine gw_iconst (v := 0) dX7_canShare_58 ic_0 ?_
          refine gw_istore_n (lo' := [(0, .inr v0), (1, .inl v1), (2, .inl 1), (3, .inl 0)]) dX7_canShare_59 rfl (by decide) rfl ?_
          exact h
        · replace h := h.2 c6
          refine gw_iconst (v := 0) dX7_canShare_54 ic_0 ?_
          exact gw_rZ dX7_canShare_55 rfl (by decide) (by decide) (by decide) h
  · replace h := h.2 c1
    refine gw_aload_n (q := 0) dX7_canShare_7 rfl rfl ?_
    refine gw_iload_n (q := 2) dX7_canShare_8 rfl rfl ?_
    obtain ⟨g8, h⟩ := h
    refine gw_vC (bs := [.inl v2]) (st := []) (vmX7_armAt) lX7_38 dX7_canShare_9 ⟨by decide, rfl, rfl, by decide, by decide⟩ (Nat.le_of_ble_eq_true rfl) rfl rfl g8 h (kR (fun x7 σ7 h n7 => ?_))
    refine gw_astore_n (lo' := [(0, .inr v0), (1, .inl v1), (2, .inl v2), (3, .inr x7)]) dX7_canShare_12 rfl (by decide) rfl ?_
    refine gw_aload_n (q := 3) dX7_canShare_13 rfl rfl ?_
    refine gw_ifnull (tgt := 24) dX7_canShare_14 (by decide) (fun c9 => ?_) (fun c9 => ?_)
    · replace h := h.1 c9
      refine gw_iconst (v := 0) dX7_canShare_24 ic_0 ?_
      exact gw_rZ dX7_canShare_25 rfl (by decide) (by decide) (by decide) h
    · replace h := h.2 c9
      refine gw_aload_n (q := 3) dX7_canShare_17 rfl rfl ?_
      obtain ⟨g10, h⟩ := h
      refine gw_gI fX7_65 dX7_canShare_18 g10 ?_
      refine gw_if_ne (tgt := 26) dX7_canShare_21 (by decide) (fun c11 => ?_) (fun c11 => ?_)
      · replace h := h.1 c11
        refine gw_inc (lo' := [(0, .inr v0), (1, .inl v1), (2, .inl (v2 + 1)), (3, .inr x7)]) (q := 2) (c := 1) dX7_canShare_26 ic_1 rfl (by decide) rfl ?_
        refine gw_goto (tgt := 2) dX7_canShare_29 (by decide) ?_
        refine gw_pick [0, 1, 2] rfl ?_
        exact h
      · replace h := h.2 c11
        refine gw_iconst (v := 0) dX7_canShare_24 ic_0 ?_
        exact gw_rZ dX7_canShare_25 rfl (by decide) (by decide) (by decide) h
set_option maxHeartbeats 4000000 in
set_option maxRecDepth 20000 in
theorem eX7_canShare {l : Launch} {v0 : Nat} {v1 : Int32} {σ : Sg} {K : Int32 → Sg → Prop} (h : GW l mX7_canShare 2 [(0, .inr v0), (1, .inl v1), (2, .inl 0)] [] σ 0 0 (PI K)) : Con l mX7_canShare [.inr v0, .inl v1] σ (PI K) := by
  refine con_gw rfl (Nat.le_of_ble_eq_true rfl) ?_
  show GW l mX7_canShare 0 [(0, .inr v0), (1, .inl v1)] [] σ 0 0 (PI K)
  refine gw_iconst (v := 0) dX7_canShare_0 ic_0 ?_
  refine gw_istore_n (lo' := [(0, .inr v0), (1, .inl v1), (2, .inl 0)]) dX7_canShare_1 rfl (by decide) rfl ?_
  exact h
