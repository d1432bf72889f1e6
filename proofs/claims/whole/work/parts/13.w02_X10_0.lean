set_option maxHeartbeats 4000000 in
set_option maxRecDepth 20000 in
theorem eX10_init {l : Launch} {v0 : Nat} {σ : Sg} {K : Sg → Prop} (h : v0 ≠ 0 ∧ shp (σ.1 + 1) = (13, 400) ∧ σ.1 + 1 ≤ 1000 ∧ ∀ x3 σ3, x3 = σ.1 + 1 → σ3 = nw σ → Ob σ3 v0 10 ∧ x3 ≤ σ3.1 ∧ ∀ σ6, σ6 = w2 σ3 v0 0 x3 → shp (σ6.1 + 1) = (13, 401) ∧ σ6.1 + 1 ≤ 1000 ∧ ∀ x8 σ8, x8 = σ6.1 + 1 → σ8 = nw σ6 → x8 ≤ σ8.1 ∧ ∀ σ10, σ10 = w2 σ8 v0 1 x8 → shp (σ10.1 + 1) = (13, 401) ∧ σ10.1 + 1 ≤ 1000 ∧ ∀ x12 σ12, x12 = σ10.1 + 1 → σ12 = nw σ10 → x12 ≤ σ12.1 ∧ ∀ σ14, σ14 = w2 σ12 v0 2 x12 → shp (σ14.1 + 1) = (13, 401) ∧ σ14.1 + 1 ≤ 1000 ∧ ∀ x16 σ16, x16 = σ14.1 + 1 → σ16 = nw σ14 → x16 ≤ σ16.1 ∧ ∀ σ18, σ18 = w2 σ16 v0 3 x16 → K σ18) : Con l mX10_init [.inr v0] σ (PV K) := by
  refine con_gw rfl (Nat.le_of_ble_eq_true rfl) ?_
  show GW l mX10_init 0 [(0, .inr v0)] [] σ 0 0 (PV K)
  refine gw_aload_n (q := 0) dX10_init_0 rfl rfl ?_
  obtain ⟨g1, h⟩ := h
  refine gw_objInit oiX10_3 oi_in oi_cd dX10_init_1 (by decide) (Nat.le_of_ble_eq_true rfl) g1 ?_
  refine gw_aload_n (q := 0) dX10_init_4 rfl rfl ?_
  refine gw_sipush (v := 400) dX10_init_5 sp_400 ?_
  obtain ⟨g2, g3, h⟩ := h
  refine gw_newi (N := 400) ac_int dX10_init_8 g2 (by decide) (by decide) (by decide) (by decide) (by decide) g3 (fun x3 σ3 ex3 e3 => ?_)
  replace h := h x3 σ3 ex3 e3
  obtain ⟨g4, h⟩ := h
  obtain ⟨z5, h⟩ := h
  refine gw_pRF fX10_11 (Or.inr ⟨_, rfl⟩) rfl rfl (fun C T N hc => by cases hc; exact xfX10_11) dX10_init_10 z5 g4 (fun σ6 e6 => ?_)
  replace h := h σ6 e6
  refine gw_aload_n (q := 0) dX10_init_13 rfl rfl ?_
  refine gw_sipush (v := 401) dX10_init_14 sp_401 ?_
  obtain ⟨g7, g8, h⟩ := h
  refine gw_newi (N := 401) ac_int dX10_init_17 g7 (by decide) (by decide) (by decide) (by decide) (by decide) g8 (fun x8 σ8 ex8 e8 => ?_)
  replace h := h x8 σ8 ex8 e8
  obtain ⟨z9, h⟩ := h
  refine gw_pRF fX10_15 (Or.inr ⟨_, rfl⟩) rfl rfl (fun C T N hc => by cases hc; exact xfX10_15) dX10_init_19 z9 ((g4.up (n_w2 e6)).up (n_nw e8)) (fun σ10 e10 => ?_)
  replace h := h σ10 e10
  refine gw_aload_n (q := 0) dX10_init_22 rfl rfl ?_
  refine gw_sipush (v := 401) dX10_init_23 sp_401 ?_
  obtain ⟨g11, g12, h⟩ := h
  refine gw_newi (N := 401) ac_int dX10_init_26 g11 (by decide) (by decide) (by decide) (by decide) (by decide) g12 (fun x12 σ12 ex12 e12 => ?_)
  replace h := h x12 σ12 ex12 e12
  obtain ⟨z13, h⟩ := h
  refine gw_pRF fX10_18 (Or.inr ⟨_, rfl⟩) rfl rfl (fun C T N hc => by cases hc; exact xfX10_18) dX10_init_28 z13 ((((g4.up (n_w2 e6)).up (n_nw e8)).up (n_w2 e10)).up (n_nw e12)) (fun σ14 e14 => ?_)
  replace h := h σ14 e14
  refine gw_aload_n (q := 0) dX10_init_31 rfl rfl ?_
  refine gw_sipush (v := 401) dX10_init_32 sp_401 ?_
  obtain ⟨g15, g16, h⟩ := h
  refine gw_newi (N := 401) ac_int dX10_init_35 g15 (by decide) (by decide) (by decide) (by decide) (by decide) g16 (fun x16 σ16 ex16 e16 => ?_)
  replace h := h x16 σ16 ex16 e16
  obtain ⟨z17, h⟩ := h
  refine gw_pRF fX10_21 (Or.inr ⟨_, rfl⟩) rfl rfl (fun C T N hc => by cases hc; exact xfX10_21) dX10_init_37 z17 ((((((g4.up (n_w2 e6)).up (n_nw e8)).up (n_w2 e10)).up (n_nw e12)).up (n_w2 e14)).up (n_nw e16)) (fun σ18 e18 => ?_)
  replace h := h σ18 e18
  exact gw_rV dX10_init_40 rfl (by decide) (by decide) h
set_option maxHeartbeats 4000000 in
set_option maxRecDepth 20000 in
theorem eX10_hasRoom {l : Launch} {v0 : Nat} {σ : Sg} {K : Int32 → Sg → Prop} (h : Ob σ v0 10 ∧ ((400 < ((σ.2.1 v0 4) + 20) → K 0 σ) ∧ (¬ 400 < ((σ.2.1 v0 4) + 20) → K 1 σ))) : Con l mX10_hasRoom [.inr v0] σ (PI K) := by
  refine con_gw rfl (Nat.le_of_ble_eq_true rfl) ?_
  show GW l mX10_hasRoom 0 [(0, .inr v0)] [] σ 0 0 (PI K)
  refine gw_aload_n (q := 0) dX10_hasRoom_0 rfl rfl ?_
  obtain ⟨g1, h⟩ := h
  refine gw_gI fX10_24 dX10_hasRoom_1 g1 ?_
  refine gw_bipush (v := 20) dX10_hasRoom_4 bp_20 ?_
  refine gw_iadd dX10_hasRoom_6 ?_
  refine gw_sipush (v := 400) dX10_hasRoom_7 sp_400 ?_
  refine gw_icmp_gt (tgt := 17) dX10_hasRoom_10 (by decide) (fun c2 => ?_) (fun c2 => ?_)
  · replace h := h.1 c2
    refine gw_iconst (v := 0) dX10_hasRoom_17 ic_0 ?_
    exact gw_rZ dX10_hasRoom_18 rfl (by decide) (by decide) (by decide) h
  · replace h := h.2 c2
    refine gw_iconst (v := 1) dX10_hasRoom_13 ic_1 ?_
    refine gw_goto (tgt := 18) dX10_hasRoom_14 (by decide) ?_
    exact gw_rZ dX10_hasRoom_18 rfl (by decide) (by decide) (by decide) h
set_option maxHeartbeats 4000000 in
set_option maxRecDepth 20000 in
theorem gX10_addFour_3 {l : Launch} {v0 : Nat} {v1 : Int32} {v2 : Int32} {σ : Sg} {K : Sg → Prop} (h : ((v2 < 0 → K σ) ∧ (¬ v2 < 0 → Ob σ v0 10 ∧ ((400 ≤ (σ.2.1 v0 4) → K σ) ∧ (¬ 400 ≤ (σ.2.1 v0 4) → Ai σ (σ.2.2 v0 0) (σ.2.1 v0 4) ∧ ∀ σ5, σ5 = w1 σ (σ.2.2 v0 0) (σ.2.1 v0 4).toNatClampNeg ((v1 >>> (v2 &&& 31)) &&& 255) → ∀ σ6, σ6 = w1 σ5 v0 4 ((σ5.2.1 v0 4) + 1) → GW l mX10_addFour 3 [(0, .inr v0), (1, .inl v1), (2, .inl (v2 + (-8)))] [] σ6 0 0 (PV K)))))) : GW l mX10_addFour 3 [(0, .inr v0), (1, .inl v1), (2, .inl v2)] [] σ 0 0 (PV K) := by
  refine gw_iload_n (q := 2) dX10_addFour_3 rfl rfl ?_
  refine gw_if_lt (tgt := 49) dX10_addFour_4 (by decide) (fun c1 => ?_) (fun c1 => ?_)
  · replace h := h.1 c1
    exact gw_rV dX10_addFour_49 rfl (by decide) (by decide) h
  · replace h := h.2 c1
    refine gw_aload_n (q := 0) dX10_addFour_7 rfl rfl ?_
    obtain ⟨g2, h⟩ := h
    refine gw_gI fX10_24 dX10_addFour_8 g2 ?_
    refine gw_sipush (v := 400) dX10_addFour_11 sp_400 ?_
    refine gw_icmp_ge (tgt := 49) dX10_addFour_14 (by decide) (fun c3 => ?_) (fun c3 => ?_)
    · replace h := h.1 c3
      exact gw_rV dX10_addFour_49 rfl (by decide) (by decide) h
    · replace h := h.2 c3
      refine gw_aload_n (q := 0) dX10_addFour_17 rfl rfl ?_
      refine gw_gR fX10_11 dX10_addFour_18 g2 ?_
      refine gw_aload_n (q := 0) dX10_addFour_21 rfl rfl ?_
      refine gw_gI fX10_24 dX10_addFour_22 g2 ?_
      refine gw_iload_n (q := 1) dX10_addFour_25 rfl rfl ?_
      refine gw_iload_n (q := 2) dX10_addFour_26 rfl rfl ?_
      refine gw_ishr dX10_addFour_27 ?_
      refine gw_sipush (v := 255) dX10_addFour_28 sp_255 ?_
      refine gw_iand dX10_addFour_31 ?_
      obtain ⟨g4, h⟩ := h
      refine gw_sI dX10_addFour_32 g4 (fun σ5 e5 => ?_)
      replace h := h σ5 e5
      refine gw_aload_n (q := 0) dX10_addFour_33 rfl rfl ?_
      refine gw_dup dX10_addFour_34 ?_
      refine gw_gI fX10_24 dX10_addFour_35 (g2.up (n_w1 e5)) ?_
      refine gw_iconst (v := 1) dX10_addFour_38 ic_1 ?_
      refine gw_iadd dX10_addFour_39 ?_
      refine gw_pI fX10_24 dX10_addFour_40 (g2.up (n_w1 e5)) (fun σ6 e6 => ?_)
      replace h := h σ6 e6
      refine gw_inc (lo' := [(0, .inr v0), (1, .inl v1), (2, .inl (v2 + (-8)))]) (q := 2) (c := (-8)) dX10_addFour_43 ic_m8 rfl (by decide) rfl ?_
      refine gw_goto (tgt := 3) dX10_addFour_46 (by decide) ?_
      exact h
set_option maxHeartbeats 4000000 in
set_option maxRecDepth 20000 in
theorem eX10_addFour {l : Launch} {v0 : Nat} {v1 : Int32} {σ : Sg} {K : Sg → Prop} (h : GW l mX10_addFour 3 [(0, .inr v0), (1, .inl v1), (2, .inl 24)] [] σ 0 0 (PV K)) : Con l mX10_addFour [.inr v0, .inl v1] σ (PV K) := by
  refine con_gw rfl (Nat.le_of_ble_eq_true rfl) ?_
  show GW l mX10_addFour 0 [(0, .inr v0), (1, .inl v1)] [] σ 0 0 (PV K)
  refine gw_bipush (v := 24) dX10_addFour_0 bp_24 ?_
  refine gw_istore_n (lo' := [(0, .inr v0), (1, .inl v1), (2, .inl 24)]) dX10_addFour_2 rfl (by decide) rfl ?_
  exact h
set_option maxHeartbeats 4000000 in
set_option maxRecDepth 20000 in
theorem gX10_split_32 {l : Launch} {v0 : Nat} {v1 : Int32} {v2 : Int32} {v3 : Int32} {σ : Sg} {K : Sg → Prop} (h : Ob σ v0 10 ∧ Con l mX10_put [.inr v0, .inl 0, .inl v1, .inl 0] σ (PV (fun σ1 => ∀ σ3, σ3 = w1 σ1 v0 4 0 → K σ3))) : GW l mX10_split 32 [(0, .inr v0), (1, .inl v1), (2, .inl v2), (3, .inl v3)] [] σ 0 0 (PV K) := by
  refine gw_aload_n (q := 0) dX10_split_32 rfl rfl ?_
  refine gw_iconst (v := 0) dX10_split_33 ic_0 ?_
  refine gw_iload_n (q := 1) dX10_split_34 rfl rfl ?_
  refine gw_iconst (v := 0) dX10_split_35 ic_0 ?_
  obtain ⟨g2, h⟩ := h
  refine gw_vC (bs := [.inl 0, .inl v1, .inl 0]) (st := []) (vmX10_put) lX10_35 dX10_split_36 ⟨by decide, rfl, rfl, by decide, by decide⟩ (Nat.le_of_ble_eq_true rfl) rfl rfl g2 h (kV (fun σ1 h n1 => ?_))
  refine gw_aload_n (q := 0) dX10_split_39 rfl rfl ?_
  refine gw_iconst (v := 0) dX10_split_40 ic_0 ?_
  refine gw_pI fX10_24 dX10_split_41 (g2.up n1) (fun σ3 e3 => ?_)
  replace h := h σ3 e3
  exact gw_rV dX10_split_44 rfl (by decide) (by decide) h
set_option maxHeartbeats 4000000 in
set_option maxRecDepth 20000 in
theorem gX10_split_9 {l : Launch} {v0 : Nat} {v1 : Int32} {v2 : Int32} {v3 : Int32} {σ : Sg} {K : Sg → Prop} (h : ((v1 ≤ v3 → GW l mX10_split 32 [(0, .inr v0), (1, .inl v1), (2, .inl v2), (3, .inl v3)] [] σ 0 0 (PV K)) ∧ (¬ v1 ≤ v3 → ((v1 ≤ v2 → GW l mX10_split 32 [(0, .inr v0), (1, .inl v1), (2, .inl v2), (3, .inl v3)] [] σ 0 0 (PV K)) ∧ (¬ v1 ≤ v2 → Ob σ v0 10 ∧ Con l mX10_takeToken [.inr v0, .inl v2, .inl v1] σ (PI (fun x3 σ3 => GW l mX10_split 9 [(0, .inr v0), (1, .inl v1), (2, .inl x3), (3, .inl (v3 + 1))] [] σ3 0 0 (PV K)))))))) : GW l mX10_split 9 [(0, .inr v0), (1, .inl v1), (2, .inl v2), (3, .inl v3)] [] σ 0 0 (PV K) := by
  refine gw_iload_n (q := 3) dX10_split_9 rfl rfl ?_
  refine gw_iload_n (q := 1) dX10_split_10 rfl rfl ?_
  refine gw_icmp_ge (tgt := 32) dX10_split_11 (by decide) (fun c1 => ?_) (fun c1 => ?_)
  · replace h := h.1 c1
    exact h
  · replace h := h.2 c1
    refine gw_iload_n (q := 2) dX10_split_14 rfl rfl ?_
    refine gw_iload_n (q := 1) dX10_split_15 rfl rfl ?_
    refine gw_icmp_ge (tgt := 32) dX10_split_16 (by decide) (fun c2 => ?_) (fun c2 => ?_)
    · replace h := h.1 c2
      exact h
    · replace h := h.2 c2
      refine gw_aload_n (q := 0) dX10_split_19 rfl rfl ?_
      refine gw_iload_n (q := 2) dX10_split_20 rfl rfl ?_
      refine gw_iload_n (q := 1) dX10_split_21 rfl rfl ?_
      obtain ⟨g4, h⟩ := h
      refine gw_vC (bs := [.inl v2, .inl v1]) (st := []) (vmX10_takeToken) lX10_31 dX10_split_22 ⟨by decide, rfl, rfl, by decide, by decide⟩ (Nat.le_of_ble_eq_true rfl) rfl rfl g4 h (kI (fun x3 σ3 h n3 => ?_))
      refine gw_istore_n (lo' := [(0, .inr v0), (1, .inl v1), (2, .inl x3), (3, .inl v3)]) dX10_split_25 rfl (by decide) rfl ?_
      refine gw_inc (lo' := [(0, .inr v0), (1, .inl v1), (2, .inl x3), (3, .inl (v3 + 1))]) (q := 3) (c := 1) dX10_split_26 ic_1 rfl (by decide) rfl ?_
      refine gw_goto (tgt := 9) dX10_split_29 (by decide) ?_
      exact h
set_option maxHeartbeats 4000000 in
set_option maxRecDepth 20000 in
theorem eX10_split {l : Launch} {v0 : Nat} {v1 : Int32} {σ : Sg} {K : Sg → Prop} (h : Ob σ v0 10 ∧ ∀ σ2, σ2 = w1 σ v0 5 0 → GW l mX10_split 9 [(0, .inr v0), (1, .inl v1), (2, .inl 0), (3, .inl 0)] [] σ2 0 0 (PV K)) : Con l mX10_split [.inr v0, .inl v1] σ (PV K) := by
  refine con_gw rfl (Nat.le_of_ble_eq_true rfl) ?_
  show GW l mX10_split 0 [(0, .inr v0), (1, .inl v1)] [] σ 0 0 (PV K)
  refine gw_aload_n (q := 0) dX10_split_0 rfl rfl ?_
  refine gw_iconst (v := 0) dX10_split_1 ic_0 ?_
  obtain ⟨g1, h⟩ := h
  refine gw_pI fX10_28 dX10_split_2 g1 (fun σ2 e2 => ?_)
  replace h := h σ2 e2
  refine gw_iconst (v := 0) dX10_split_5 ic_0 ?_
  refine gw_istore_n (lo' := [(0, .inr v0), (1, .inl v1), (2, .inl 0)]) dX10_split_6 rfl (by decide) rfl ?_
  refine gw_iconst (v := 0) dX10_split_7 ic_0 ?_
  refine gw_istore_n (lo' := [(0, .inr v0), (1, .inl v1), (2, .inl 0), (3, .inl 0)]) dX10_split_8 rfl (by decide) rfl ?_
  exact h
set_option maxHeartbeats 4000000 in
set_option maxRecDepth 20000 in
theorem gX10_takeToken_114 {l : Launch} {v0 : Nat} {v1 : Int32} {v2 : Int32} {v3 : Int32} {t0 : Nat} {t1 : Int32} {σ : Sg} {K : Int32 → Sg → Prop} (h : Ob σ t0 10 ∧ Con l mX10_put [.inr t0, .inl t1, .inl v1, .inl 0] σ (PV (fun σ1 => K (v1 + 1) σ1))) : GW l mX10_takeToken 114 [(0, .inr v0), (1, .inl v1), (2, .inl v2), (3, .inl v3)] [.inl t1, .inr t0] σ 0 0 (PI K) := by
  refine gw_iload_n (q := 1) dX10_takeToken_114 rfl rfl ?_
  refine gw_iconst (v := 0) dX10_takeToken_115 ic_0 ?_
  obtain ⟨g2, h⟩ := h
  refine gw_vC (bs := [.inl t1, .inl v1, .inl 0]) (st := []) (vmX10_put) lX10_35 dX10_takeToken_116 ⟨by decide, rfl, rfl, by decide, by decide⟩ (Nat.le_of_ble_eq_true rfl) rfl rfl g2 h (kV (fun σ1 h n1 => ?_))
  refine gw_iload_n (q := 1) dX10_takeToken_119 rfl rfl ?_
  refine gw_iconst (v := 1) dX10_takeToken_120 ic_1 ?_
  refine gw_iadd dX10_takeToken_121 ?_
  exact gw_rI dX10_takeToken_122 rfl (by decide) (by decide) h
set_option maxHeartbeats 4000000 in
set_option maxRecDepth 20000 in
theorem eX10_takeToken {l : Launch} {v0 : Nat} {v1 : Int32} {v2 : Int32} {σ : Sg} {K : Int32 → Sg → Prop} (h : Ob σ v0 10 ∧ Con l mX10_byteAt [.inr v0, .inl v1] σ (PI (fun x1 σ1 => ((x1 = 32 → K (v1 + 1) σ1) ∧ (¬ x1 = 32 → ((¬ x1 = 10 → Con l mX11_within [.inl x1, .inl 97, .inl 122] σ1 (PI (fun x5 σ5 => ((x5 = 0 → Con l mX11_within [.inl x1, .inl 48, .inl 57] σ5 (PI (fun x7 σ7 => ((x7 = 0 → ((¬ x1 = 59 → GW l mX10_takeToken 114 [(0, .inr v0), (1, .inl v1), (2, .inl v2), (3, .inl x1)] [.inl 1, .inr v0] σ7 0 0 (PI K)) ∧ (x1 = 59 → GW l mX10_takeToken 114 [(0, .inr v0), (1, .inl v1), (2, .inl v2), (3, .inl x1)] [.inl 3, .inr v0] σ7 0 0 (PI K)))) ∧ (¬ x7 = 0 → Con l mX10_endOfRow [.inr v0, .inl v1, .inl v2, .inl 48, .inl 57] σ7 (PI (fun x10 σ10 => Con l mX10_valueOf [.inr v0, .inl v1, .inl x10] σ10 (PI (fun x11 σ11 => Con l mX10_put [.inr v0, .inl 2, .inl v1, .inl x11] σ11 (PV (fun σ12 => K x10 σ12))))))))))) ∧ (¬ x5 = 0 → Con l mX10_endOfRow [.inr v0, .inl v1, .inl v2, .inl 97, .inl 122] σ5 (PI (fun x13 σ13 => Con l mX10_wordKind [.inr v0, .inl v1, .inl (x13 - v1)] σ13 (PI (fun x14 σ14 => Con l mX10_put [.inr v0, .inl x14, .inl v1, .inl 0] σ14 (PV (fun σ15 => K x13 σ15))))))))))) ∧ (x1 = 10 → K (v1 + 1) σ1))))))) : Con l mX10_takeToken [.inr v0, .inl v1, .inl v2] σ (PI K) := by
  refine con_gw rfl (Nat.le_of_ble_eq_true rfl) ?_
  show GW l mX10_takeToken 0 [(0, .inr v0), (1, .inl v1), (2, .inl v2)] [] σ 0 0 (PI K)
  refine gw_aload_n (q := 0) dX10_takeToken_0 rfl rfl ?_
  refine gw_iload_n (q := 1) dX10_takeToken_1 rfl rfl ?_
  obtain ⟨g2, h⟩ := h
  refine gw_vC (bs := [.inl v1]) (st := []) (vmX10_byteAt) lX10_39 dX10_takeToken_2 ⟨by decide, rfl, rfl, by decide, by decide⟩ (Nat.le_of_ble_eq_true rfl) rfl rfl g2 h (kI (fun x1 σ1 h n1 => ?_))
  refine gw_istore_n (lo' := [(0, .inr v0), (1, .inl v1), (2, .inl v2), (3, .inl x1)]) dX10_takeToken_5 rfl (by decide) rfl ?_
  refine gw_iload_n (q := 3) dX10_takeToken_6 rfl rfl ?_
  refine gw_bipush (v := 32) dX10_takeToken_7 bp_32 ?_
  refine gw_icmp_eq (tgt := 18) dX10_takeToken_9 (by decide) (fun c3 => ?_) (fun c3 => ?_)
  · replace h := h.1 c3
    refine gw_iload_n (q := 1) dX10_takeToken_18 rfl rfl ?_
    refine gw_iconst (v := 1) dX10_takeToken_19 ic_1 ?_
    refine gw_iadd dX10_takeToken_20 ?_
    exact gw_rI dX10_takeToken_21 rfl (by decide) (by decide) h
  · replace h := h.2 c3
    refine gw_iload_n (q := 3) dX10_takeToken_12 rfl rfl ?_
    refine gw_bipush (v := 10) dX10_takeToken_13 bp_10 ?_
    refine gw_icmp_ne (tgt := 22) dX10_takeToken_15 (by decide) (fun c4 => ?_) (fun c4 => ?_)
    · replace h := h.1 c4
      refine gw_iload_n (q := 3) dX10_takeToken_22 rfl rfl ?_
      refine gw_bipush (v := 97) dX10_takeToken_23 bp_97 ?_
      refine gw_bipush (v := 122) dX10_takeToken_25 bp_122 ?_
      refine gw_sC (bs := [.inl x1, .inl 97, .inl 122]) (st := []) smX11_within lX10_43 dX10_takeToken_27 ⟨by decide, rfl, rfl, by decide, by decide⟩ (Nat.le_of_ble_eq_true rfl) rfl rfl h (kI (fun x5 σ5 h n5 => ?_))
      refine gw_if_eq (tgt := 63) dX10_takeToken_30 (by decide) (fun c6 => ?_) (fun c6 => ?_)
      · replace h := h.1 c6
        refine gw_iload_n (q := 3) dX10_takeToken_63 rfl rfl ?_
        refine gw_bipush (v := 48) dX10_takeToken_64 bp_48 ?_
        refine gw_bipush (v := 57) dX10_takeToken_66 bp_57 ?_
        refine gw_sC (bs := [.inl x1, .inl 48, .inl 57]) (st := []) smX11_within lX10_43 dX10_takeToken_68 ⟨by decide, rfl, rfl, by decide, by decide⟩ (Nat.le_of_ble_eq_true rfl) rfl rfl h (kI (fun x7 σ7 h n7 => ?_))
        refine gw_if_eq (tgt := 102) dX10_takeToken_71 (by decide) (fun c8 => ?_) (fun c8 => ?_)
        · replace h := h.1 c8
          refine gw_aload_n (q := 0) dX10_takeToken_102 rfl rfl ?_
          refine gw_iload_n (q := 3) dX10_takeToken_103 rfl rfl ?_
          refine gw_bipush (v := 59) dX10_takeToken_104 bp_59 ?_
          refine gw_icmp_ne (tgt := 113) dX10_takeToken_106 (by decide) (fun c9 => ?_) (fun c9 => ?_)
          · replace h := h.1 c9
            refine gw_iconst (v := 1) dX10_takeToken_113 ic_1 ?_
            exact h
          · replace h := h.2 c9
            refine gw_iconst (v := 3) dX10_takeToken_109 ic_3 ?_
            refine gw_goto (tgt := 114) dX10_takeToken_110 (by decide) ?_
            exact h
        · replace h := h.2 c8
          refine gw_aload_n (q := 0) dX10_takeToken_74 rfl rfl ?_
          refine gw_iload_n (q := 1) dX10_takeToken_75 rfl rfl ?_
          refine gw_iload_n (q := 2) dX10_takeToken_76 rfl rfl ?_
          refine gw_bipush (v := 48) dX10_takeToken_77 bp_48 ?_
          refine gw_bipush (v := 57) dX10_takeToken_79 bp_57 ?_
          refine gw_vC (bs := [.inl v1, .inl v2, .inl 48, .inl 57]) (st := []) (vmX10_endOfRow) lX10_47 dX10_takeToken_81 ⟨by decide, rfl, rfl, by decide, by decide⟩ (Nat.le_of_ble_eq_true rfl) rfl rfl (((g2.up n1).up n5).up n7) h (kI (fun x10 σ10 h n10 => ?_))
          refine gw_istore (lo' := [(0, .inr v0), (1, .inl v1), (2, .inl v2), (3, .inl x1), (4, .inl x10)]) dX10_takeToken_84 (by decide) rfl ?_
          refine gw_aload_n (q := 0) dX10_takeToken_86 rfl rfl ?_
          refine gw_iconst (v := 2) dX10_takeToken_87 ic_2 ?_
          refine gw_iload_n (q := 1) dX10_takeToken_88 rfl rfl ?_
          refine gw_aload_n (q := 0) dX10_takeToken_89 rfl rfl ?_
          refine gw_iload_n (q := 1) dX10_takeToken_90 rfl rfl ?_
          refine gw_iload (q := 4) dX10_takeToken_91 rfl ?_
          refine gw_vC (bs := [.inl v1, .inl x10]) (st := [.inl v1, .inl 2, .inr v0]) (vmX10_valueOf) lX10_54 dX10_takeToken_93 ⟨by decide, rfl, rfl, by decide, by decide⟩ (Nat.le_of_ble_eq_true rfl) rfl rfl ((((g2.up n1).up n5).up n7).up n10) h (kI (fun x11 σ11 h n11 => ?_))
          refine gw_vC (bs := [.inl 2, .inl v1, .inl x11]) (st := []) (vmX10_put) lX10_35 dX10_takeToken_96 ⟨by decide, rfl, rfl, by decide, by decide⟩ (Nat.le_of_ble_eq_true rfl) rfl rfl (((((g2.up n1).up n5).up n7).up n10).up n11) h (kV (fun σ12 h n12 => ?_))
          refine gw_iload (q := 4) dX10_takeToken_99 rfl ?_
          exact gw_rI dX10_takeToken_101 rfl (by decide) (by decide) h
      · replace h := h.2 c6
        refine gw_aload_n (q := 0) dX10_takeToken_33 rfl rfl ?_
        refine gw_iload_n (q := 1) dX10_takeToken_34 rfl rfl ?_
        refine gw_iload_n (q := 2) dX10_takeToken_35 rfl rfl ?_
        refine gw_bipush (v := 97) dX10_takeToken_36 bp_97 ?_
        refine gw_bipush (v := 122) dX10_takeToken_38 bp_122 ?_
        refine gw_vC (bs := [.inl v1, .inl v2, .inl 97, .inl 122]) (st := []) (vmX10_endOfRow) lX10_47 dX10_takeToken_40 ⟨by decide, rfl, rfl, by decide, by decide⟩ (Nat.le_of_ble_eq_true rfl) rfl rfl ((g2.up n1).up n5) h (kI (fun x13 σ13 h n13 => ?_))
        refine gw_istore (lo' := [(0, .inr v0), (1, .inl v1), (2, .inl v2), (3, .inl x1), (4, .inl x13)]) dX10_takeToken_43 (by decide) rfl ?_
        refine gw_aload_n (q := 0) dX10_takeToken_45 rfl rfl ?_
        refine gw_aload_n (q := 0) dX10_takeToken_46 rfl rfl ?_
        refine gw_iload_n (q := 1) dX10_takeToken_47 rfl rfl ?_
        refine gw_iload (q := 4) dX10_takeToken_48 rfl ?_
        refine gw_iload_n (q := 1) dX10_takeToken_50 rfl rfl ?_
        refine gw_isub dX10_takeToken_51 ?_
        refine gw_vC (bs := [.inl v1, .inl (x13 - v1)]) (st := [.inr v0]) (vmX10_wordKind) lX10_51 dX10_takeToken_52 ⟨by decide, rfl, rfl, by decide, by decide⟩ (Nat.le_of_ble_eq_true rfl) rfl rfl (((g2.up n1).up n5).up n13) h (kI (fun x14 σ14 h n14 => ?_))
        refine gw_iload_n (q := 1) dX10_takeToken_55 rfl rfl ?_
        refine gw_iconst (v := 0) dX10_takeToken_56 ic_0 ?_
        refine gw_vC (bs := [.inl x14, .inl v1, .inl 0]) (st := []) (vmX10_put) lX10_35 dX10_takeToken_57 ⟨by decide, rfl, rfl, by decide, by decide⟩ (Nat.le_of_ble_eq_true rfl) rfl rfl ((((g2.up n1).up n5).up n13).up n14) h (kV (fun σ15 h n15 => ?_))
        refine gw_iload (q := 4) dX10_takeToken_60 rfl ?_
        exact gw_rI dX10_takeToken_62 rfl (by decide) (by decide) h
    · replace h := h.2 c4
      refine gw_iload_n (q := 1) dX10_takeToken_18 rfl rfl ?_
      refine gw_iconst (v := 1) dX10_takeToken_19 ic_1 ?_
      refine gw_iadd dX10_takeToken_20 ?_
      exact gw_rI dX10_takeToken_21 rfl (by decide) (by decide) h
set_option maxHeartbeats 4000000 in
set_option maxRecDepth 20000 in
theorem eX10_byteAt {l : Launch} {v0 : Nat} {v1 : Int32} {σ : Sg} {K : Int32 → Sg → Prop} (h : ((v1 < 0 → K 0 σ) ∧ (¬ v1 < 0 → ((400 ≤ v1 → K 0 σ) ∧ (¬ 400 ≤ v1 → Ob σ v0 10 ∧ Ai σ (σ.2.2 v0 0) v1 ∧ K (σ.2.1 (σ.2.2 v0 0) v1.toNatClampNeg) σ))))) : Con l mX10_byteAt [.inr v0, .inl v1] σ (PI K) := by
  refine con_gw rfl (Nat.le_of_ble_eq_true rfl) ?_
  show GW l mX10_byteAt 0 [(0, .inr v0), (1, .inl v1)] [] σ 0 0 (PI K)
  refine gw_iload_n (q := 1) dX10_byteAt_0 rfl rfl ?_
  refine gw_if_lt (tgt := 20) dX10_byteAt_1 (by decide) (fun c1 => ?_) (fun c1 => ?_)
  · replace h := h.1 c1
    refine gw_iconst (v := 0) dX10_byteAt_20 ic_0 ?_
    exact gw_rI dX10_byteAt_21 rfl (by decide) (by decide) h
  · replace h := h.2 c1
    refine gw_iload_n (q := 1) dX10_byteAt_4 rfl rfl ?_
    refine gw_sipush (v := 400) dX10_byteAt_5 sp_400 ?_
    refine gw_icmp_ge (tgt := 20) dX10_byteAt_8 (by decide) (fun c2 => ?_) (fun c2 => ?_)
    · replace h := h.1 c2
      refine gw_iconst (v := 0) dX10_byteAt_20 ic_0 ?_
      exact gw_rI dX10_byteAt_21 rfl (by decide) (by decide) h
    · replace h := h.2 c2
      refine gw_aload_n (q := 0) dX10_byteAt_11 rfl rfl ?_
      obtain ⟨g3, h⟩ := h
      refine gw_gR fX10_11 dX10_byteAt_12 g3 ?_
      refine gw_iload_n (q := 1) dX10_byteAt_15 rfl rfl ?_
      obtain ⟨g4, h⟩ := h
      refine gw_aI dX10_byteAt_16 g4 ?_
      refine gw_goto (tgt := 21) dX10_byteAt_17 (by decide) ?_
      exact gw_rI dX10_byteAt_21 rfl (by decide) (by decide) h
set_option maxHeartbeats 4000000 in
set_option maxRecDepth 20000 in
theorem gX10_endOfRow_5 {l : Launch} {v0 : Nat} {v1 : Int32} {v2 : Int32} {v3 : Int32} {v4 : Int32} {v5 : Int32} {σ : Sg} {K : Int32 → Sg → Prop} (h : ((v2 ≤ v5 → K v5 σ) ∧ (¬ v2 ≤ v5 → Ob σ v0 10 ∧ Con l mX10_byteAt [.inr v0, .inl v5] σ (PI (fun x2 σ2 => Con l mX11_within [.inl x2, .inl v3, .inl v4] σ2 (PI (fun x4 σ4 => ((x4 = 0 → K v5 σ4) ∧ (¬ x4 = 0 → GW l mX10_endOfRow 5 [(0, .inr v0), (1, .inl v1), (2, .inl v2), (3, .inl v3), (4, .inl v4), (5, .inl (v5 + 1))] [] σ4 0 0 (PI K)))))))))) : GW l mX10_endOfRow 5 [(0, .inr v0), (1, .inl v1), (2, .inl v2), (3, .inl v3), (4, .inl v4), (5, .inl v5)] [] σ 0 0 (PI K) := by
  refine gw_iload (q := 5) dX10_endOfRow_5 rfl ?_
  refine gw_iload_n (q := 2) dX10_endOfRow_7 rfl rfl ?_
  refine gw_icmp_ge (tgt := 32) dX10_endOfRow_8 (by decide) (fun c1 => ?_) (fun c1 => ?_)
  · replace h := h.1 c1
    refine gw_iload (q := 5) dX10_endOfRow_32 rfl ?_
    exact gw_rI dX10_endOfRow_34 rfl (by decide) (by decide) h
  · replace h := h.2 c1
    refine gw_aload_n (q := 0) dX10_endOfRow_11 rfl rfl ?_
    refine gw_iload (q := 5) dX10_endOfRow_12 rfl ?_
    obtain ⟨g3, h⟩ := h
    refine gw_vC (bs := [.inl v5]) (st := []) (vmX10_byteAt) lX10_39 dX10_endOfRow_14 ⟨by decide, rfl, rfl, by decide, by decide⟩ (Nat.le_of_ble_eq_true rfl) rfl rfl g3 h (kI (fun x2 σ2 h n2 => ?_))
    refine gw_iload_n (q := 3) dX10_endOfRow_17 rfl rfl ?_
    refine gw_iload (q := 4) dX10_endOfRow_18 rfl ?_
    refine gw_sC (bs := [.inl x2, .inl v3, .inl v4]) (st := []) smX11_within lX10_43 dX10_endOfRow_20 ⟨by decide, rfl, rfl, by decide, by decide⟩ (Nat.le_of_ble_eq_true rfl) rfl rfl h (kI (fun x4 σ4 h n4 => ?_))
    refine gw_if_eq (tgt := 32) dX10_endOfRow_23 (by decide) (fun c5 => ?_) (fun c5 => ?_)
    · replace h := h.1 c5
      refine gw_iload (q := 5) dX10_endOfRow_32 rfl ?_
      exact gw_rI dX10_endOfRow_34 rfl (by decide) (by decide) h
    · replace h := h.2 c5
      refine gw_inc (lo' := [(0, .inr v0), (1, .inl v1), (2, .inl v2), (3, .inl v3), (4, .inl v4), (5, .inl (v5 + 1))]) (q := 5) (c := 1) dX10_endOfRow_26 ic_1 rfl (by decide) rfl ?_
      refine gw_goto (tgt := 5) dX10_endOfRow_29 (by decide) ?_
      exact h
set_option maxHeartbeats 4000000 in
set_option maxRecDepth 20000 in
theorem eX10_endOfRow {l : Launch} {v0 : Nat} {v1 : Int32} {v2 : Int32} {v3 : Int32} {v4 : Int32} {σ : Sg} {K : Int32 → Sg → Prop} (h : GW l mX10_endOfRow 5 [(0, .inr v0), (1, .inl v1), (2, .inl v2), (3, .inl v3), (4, .inl v4), (5, .inl (v1 + 1))] [] σ 0 0 (PI K)) : Con l mX10_endOfRow [.inr v0, .inl v1, .inl v2, .inl v3, .inl v4] σ (PI K) := by
  refine con_gw rfl (Nat.le_of_ble_eq_true rfl) ?_
  show GW l mX10_endOfRow 0 [(0, .inr v0), (1, .inl v1), (2, .inl v2), (3, .inl v3), (4, .inl v4)] [] σ 0 0 (PI K)
  refine gw_iload_n (q := 1) dX10_endOfRow_0 rfl rfl ?_
  refine gw_iconst (v := 1) dX10_endOfRow_1 ic_1 ?_
  refine gw_iadd dX10_endOfRow_2 ?_
  refine gw_istore (lo' := [(0, .inr v0), (1, .inl v1), (2, .inl v2), (3, .inl v3), (4, .inl v4), (5, .inl (v1 + 1))]) dX10_endOfRow_3 (by decide) rfl ?_
  exact h
set_option maxHeartbeats 4000000 in
set_option maxRecDepth 20000 in
theorem gX10_valueOf_5 {l : Launch} {v0 : Nat} {v1 : Int32} {v2 : Int32} {v3 : Int32} {v4 : Int32} {σ : Sg} {K : Int32 → Sg → Prop} (h : ((v2 ≤ v4 → K v3 σ) ∧ (¬ v2 ≤ v4 → Ob σ v0 10 ∧ Con l mX10_byteAt [.inr v0, .inl v4] σ (PI (fun x2 σ2 => Con l mJ9_min_7cf53 [.inl (((v3 * 10) + x2) - 48), .inl 100] σ2 (PI (fun x4 σ4 => GW l mX10_valueOf 5 [(0, .inr v0), (1, .inl v1), (2, .inl v2), (3, .inl x4), (4, .inl (v4 + 1))] [] σ4 0 0 (PI K)))))))) : GW l mX10_valueOf 5 [(0, .inr v0), (1, .inl v1), (2, .inl v2), (3, .inl v3), (4, .inl v4)] [] σ 0 0 (PI K) := by
  refine gw_iload (q := 4) dX10_valueOf_5 rfl ?_
  refine gw_iload_n (q := 2) dX10_valueOf_7 rfl rfl ?_
  refine gw_icmp_ge (tgt := 37) dX10_valueOf_8 (by decide) (fun c1 => ?_) (fun c1 => ?_)
  · replace h := h.1 c1
    refine gw_iload_n (q := 3) dX10_valueOf_37 rfl rfl ?_
    exact gw_rI dX10_valueOf_38 rfl (by decide) (by decide) h
  · replace h := h.2 c1
    refine gw_iload_n (q := 3) dX10_valueOf_11 rfl rfl ?_
    refine gw_bipush (v := 10) dX10_valueOf_12 bp_10 ?_
    refine gw_imul dX10_valueOf_14 ?_
    refine gw_aload_n (q := 0) dX10_valueOf_15 rfl rfl ?_
    refine gw_iload (q := 4) dX10_valueOf_16 rfl ?_
    obtain ⟨g3, h⟩ := h
    refine gw_vC (bs := [.inl v4]) (st := [.inl (v3 * 10)]) (vmX10_byteAt) lX10_39 dX10_valueOf_18 ⟨by decide, rfl, rfl, by decide, by decide⟩ (Nat.le_of_ble_eq_true rfl) rfl rfl g3 h (kI (fun x2 σ2 h n2 => ?_))
    refine gw_iadd dX10_valueOf_21 ?_
    refine gw_bipush (v := 48) dX10_valueOf_22 bp_48 ?_
    refine gw_isub dX10_valueOf_24 ?_
    refine gw_bipush (v := 100) dX10_valueOf_25 bp_100 ?_
    refine gw_sC (bs := [.inl (((v3 * 10) + x2) - 48), .inl 100]) (st := []) smJ9_min_7cf53 lX10_57 dX10_valueOf_27 ⟨by decide, rfl, rfl, by decide, by decide⟩ (Nat.le_of_ble_eq_true rfl) rfl rfl h (kI (fun x4 σ4 h n4 => ?_))
    refine gw_istore_n (lo' := [(0, .inr v0), (1, .inl v1), (2, .inl v2), (3, .inl x4), (4, .inl v4)]) dX10_valueOf_30 rfl (by decide) rfl ?_
    refine gw_inc (lo' := [(0, .inr v0), (1, .inl v1), (2, .inl v2), (3, .inl x4), (4, .inl (v4 + 1))]) (q := 4) (c := 1) dX10_valueOf_31 ic_1 rfl (by decide) rfl ?_
    refine gw_goto (tgt := 5) dX10_valueOf_34 (by decide) ?_
    exact h
set_option maxHeartbeats 4000000 in
set_option maxRecDepth 20000 in
theorem eX10_valueOf {l : Launch} {v0 : Nat} {v1 : Int32} {v2 : Int32} {σ : Sg} {K : Int32 → Sg → Prop} (h : GW l mX10_valueOf 5 [(0, .inr v0), (1, .inl v1), (2, .inl v2), (3, .inl 0), (4, .inl v1)] [] σ 0 0 (PI K)) : Con l mX10_valueOf [.inr v0, .inl v1, .inl v2] σ (PI K) := by
  refine con_gw rfl (Nat.le_of_ble_eq_true rfl) ?_
  show GW l mX10_valueOf 0 [(0, .inr v0), (1, .inl v1), (2, .inl v2)] [] σ 0 0 (PI K)
  refine gw_iconst (v := 0) dX10_valueOf_0 ic_0 ?_
  refine gw_istore_n (lo' := [(0, .inr v0), (1, .inl v1), (2, .inl v2), (3, .inl 0)]) dX10_valueOf_1 rfl (by decide) rfl ?_
  refine gw_iload_n (q := 1) dX10_valueOf_2 rfl rfl ?_
  refine gw_istore (lo' := [(0, .inr v0), (1, .inl v1), (2, .inl v2), (3, .inl 0), (4, .inl v1)]) dX10_valueOf_3 (by decide) rfl ?_
  exact h
set_option maxHeartbeats 4000000 in
set_option maxRecDepth 20000 in
theorem eX10_wordKind {l : Launch} {v0 : Nat} {v1 : Int32} {v2 : Int32} {σ : Sg} {K : Int32 → Sg → Prop} (h : Ob σ v0 10 ∧ Con l mX10_isWord [.inr v0, .inl v1, .inl v2, .inr 1000000] σ (PI (fun x1 σ1 => ((x1 = 0 → Con l mX10_isWord [.inr v0, .inl v1, .inl v2, .inr 1000001] σ1 (PI (fun x4 σ4 => ((x4 = 0 → Con l mX10_isWord [.inr v0, .inl v1, .inl v2, .inr 1000002] σ4 (PI (fun x6 σ6 => ((x6 = 0 → Con l mX10_isWord [.inr v0, .inl v1, .inl v2, .inr 1000003] σ6 (PI (fun x8 σ8 => ((x8 = 0 → Con l mX10_isWord [.inr v0, .inl v1, .inl v2, .inr 1000004] σ8 (PI (fun x10 σ10 => ((x10 = 0 → Con l mX10_isWord [.inr v0, .inl v1, .inl v2, .inr 1000005] σ10 (PI (fun x12 σ12 => ((x12 = 0 → Con l mX10_isWord [.inr v0, .inl v1, .inl v2, .inr 1000006] σ12 (PI (fun x14 σ14 => ((x14 = 0 → K 1 σ14) ∧ (¬ x14 = 0 → K 10 σ14))))) ∧ (¬ x12 = 0 → K 9 σ12))))) ∧ (¬ x10 = 0 → K 8 σ10))))) ∧ (¬ x8 = 0 → K 7 σ8))))) ∧ (¬ x6 = 0 → K 6 σ6))))) ∧ (¬ x4 = 0 → K 5 σ4))))) ∧ (¬ x1 = 0 → K 4 σ1))))) : Con l mX10_wordKind [.inr v0, .inl v1, .inl v2] σ (PI K) := by
  refine con_gw rfl (Nat.le_of_ble_eq_true rfl) ?_
  show GW l mX10_wordKind 0 [(0, .inr v0), (1, .inl v1), (2, .inl v2)] [] σ 0 0 (PI K)
  refine gw_aload_n (q := 0) dX10_wordKind_0 rfl rfl ?_
  refine gw_iload_n (q := 1) dX10_wordKind_1 rfl rfl ?_
  refine gw_iload_n (q := 2) dX10_wordKind_2 rfl rfl ?_
  refine gw_ldcS (i := 0) rfl dX10_wordKind_3 ?_
  obtain ⟨g2, h⟩ := h
  refine gw_vC (bs := [.inl v1, .inl v2, .inr 1000000]) (st := []) (vmX10_isWord) lX10_64 dX10_wordKind_5 ⟨by decide, rfl, rfl, by decide, by decide⟩ (Nat.le_of_ble_eq_true rfl) rfl rfl g2 h (kI (fun x1 σ1 h n1 => ?_))
  refine gw_if_eq (tgt := 13) dX10_wordKind_8 (by decide) (fun c3 => ?_) (fun c3 => ?_)
  · replace h := h.1 c3
    refine gw_aload_n (q := 0) dX10_wordKind_13 rfl rfl ?_
    refine gw_iload_n (q := 1) dX10_wordKind_14 rfl rfl ?_
    refine gw_iload_n (q := 2) dX10_wordKind_15 rfl rfl ?_
    refine gw_ldcS (i := 1) rfl dX10_wordKind_16 ?_
    refine gw_vC (bs := [.inl v1, .inl v2, .inr 1000001]) (st := []) (vmX10_isWord) lX10_64 dX10_wordKind_18 ⟨by decide, rfl, rfl, by decide, by decide⟩ (Nat.le_of_ble_eq_true rfl) rfl rfl (g2.up n1) h (kI (fun x4 σ4 h n4 => ?_))
    refine gw_if_eq (tgt := 26) dX10_wordKind_21 (by decide) (fun c5 => ?_) (fun c5 => ?_)
    · replace h := h.1 c5
      refine gw_aload_n (q := 0) dX10_wordKind_26 rfl rfl ?_
      refine gw_iload_n (q := 1) dX10_wordKind_27 rfl rfl ?_
      refine gw_iload_n (q := 2) dX10_wordKind_28 rfl rfl ?_
      refine gw_ldcS (i := 2) rfl dX10_wordKind_29 ?_
      refine gw_vC (bs := [.inl v1, .inl v2, .inr 1000002]) (st := []) (vmX10_isWord) lX10_64 dX10_wordKind_31 ⟨by decide, rfl, rfl, by decide, by decide⟩ (Nat.le_of_ble_eq_true rfl) rfl rfl ((g2.up n1).up n4) h (kI (fun x6 σ6 h n6 => ?_))
      refine gw_if_eq (tgt := 40) dX10_wordKind_34 (by decide) (fun c7 => ?_) (fun c7 => ?_)
      · replace h := h.1 c7
        refine gw_aload_n (q := 0) dX10_wordKind_40 rfl rfl ?_
        refine gw_iload_n (q := 1) dX10_wordKind_41 rfl rfl ?_
        refine gw_iload_n (q := 2) dX10_wordKind_42 rfl rfl ?_
        refine gw_ldcS (i := 3) rfl dX10_wordKind_43 ?_
        refine gw_vC (bs := [.inl v1, .inl v2, .inr 1000003]) (st := []) (vmX10_isWord) lX10_64 dX10_wordKind_45 ⟨by decide, rfl, rfl, by decide, by decide⟩ (Nat.le_of_ble_eq_true rfl) rfl rfl (((g2.up n1).up n4).up n6) h (kI (fun x8 σ8 h n8 => ?_))
        refine gw_if_eq (tgt := 54) dX10_wordKind_48 (by decide) (fun c9 => ?_) (fun c9 => ?_)
        · replace h := h.1 c9
          refine gw_aload_n (q := 0) dX10_wordKind_54 rfl rfl ?_
          refine gw_iload_n (q := 1) dX10_wordKind_55 rfl rfl ?_
          refine gw_iload_n (q := 2) dX10_wordKind_56 rfl rfl ?_
          refine gw_ldcS (i := 4) rfl dX10_wordKind_57 ?_
          refine gw_vC (bs := [.inl v1, .inl v2, .inr 1000004]) (st := []) (vmX10_isWord) lX10_64 dX10_wordKind_59 ⟨by decide, rfl, rfl, by decide, by decide⟩ (Nat.le_of_ble_eq_true rfl) rfl rfl ((((g2.up n1).up n4).up n6).up n8) h (kI (fun x10 σ10 h n10 => ?_))
          refine gw_if_eq (tgt := 68) dX10_wordKind_62 (by decide) (fun c11 => ?_) (fun c11 => ?_)
          · replace h := h.1 c11
            refine gw_aload_n (q := 0) dX10_wordKind_68 rfl rfl ?_
            refine gw_iload_n (q := 1) dX10_wordKind_69 rfl rfl ?_
            refine gw_iload_n (q := 2) dX10_wordKind_70 rfl rfl ?_
            refine gw_ldcS (i := 5) rfl dX10_wordKind_71 ?_
            refine gw_vC (bs := [.inl v1, .inl v2, .inr 1000005]) (st := []) (vmX10_isWord) lX10_64 dX10_wordKind_73 ⟨by decide, rfl, rfl, by decide, by decide⟩ (Nat.le_of_ble_eq_true rfl) rfl rfl (((((g2.up n1).up n4).up n6).up n8).up n10) h (kI (fun x12 σ12 h n12 => ?_))
            refine gw_if_eq (tgt := 82) dX10_wordKind_76 (by decide) (fun c13 => ?_) (fun c13 => ?_)
            · replace h := h.1 c13
              refine gw_aload_n (q := 0) dX10_wordKind_82 rfl rfl ?_
              refine gw_iload_n (q := 1) dX10_wordKind_83 rfl rfl ?_
              refine gw_iload_n (q := 2) dX10_wordKind_84 rfl rfl ?_
              refine gw_ldcS (i := 6) rfl dX10_wordKind_85 ?_
              refine gw_vC (bs := [.inl v1, .inl v2, .inr 1000006]) (st := []) (vmX10_isWord) lX10_64 dX10_wordKind_87 ⟨by decide, rfl, rfl, by decide, by decide⟩ (Nat.le_of_ble_eq_true rfl) rfl rfl ((((((g2.up n1).up n4).up n6).up n8).up n10).up n12) h (kI (fun x14 σ14 h n14 => ?_))
              refine gw_if_eq (tgt := 98) dX10_wordKind_90 (by decide) (fun c15 => ?_) (fun c15 => ?_)
              · replace h := h.1 c15
                refine gw_iconst (v := 1) dX10_wordKind_98 ic_1 ?_
                exact gw_rI dX10_wordKind_99 rfl (by decide) (by decide) h
              · replace h := h.2 c15
                refine gw_bipush (v := 10) dX10_wordKind_93 bp_10 ?_
                refine gw_goto (tgt := 99) dX10_wordKind_95 (by decide) ?_
                exact gw_rI dX10_wordKind_99 rfl (by decide) (by decide) h
            · replace h := h.2 c13
              refine gw_bipush (v := 9) dX10_wordKind_79 bp_9 ?_
              exact gw_rI dX10_wordKind_81 rfl (by decide) (by decide) h
          · replace h := h.2 c11
            refine gw_bipush (v := 8) dX10_wordKind_65 bp_8 ?_
            exact gw_rI dX10_wordKind_67 rfl (by decide) (by decide) h
        · replace h := h.2 c9
          refine gw_bipush (v := 7) dX10_wordKind_51 bp_7 ?_
          exact gw_rI dX10_wordKind_53 rfl (by decide) (by decide) h
      · replace h := h.2 c7
        refine gw_bipush (v := 6) dX10_wordKind_37 bp_6 ?_
        exact gw_rI dX10_wordKind_39 rfl (by decide) (by decide) h
    · replace h := h.2 c5
      refine gw_iconst (v := 5) dX10_wordKind_24 ic_5 ?_
      exact gw_rI dX10_wordKind_25 rfl (by decide) (by decide) h
  · replace h := h.2 c3
    refine gw_iconst (v := 4) dX10_wordKind_11 ic_4 ?_
    exact gw_rI dX10_wordKind_12 rfl (by decide) (by decide) h
set_option maxHeartbeats 4000000 in
set_option maxRecDepth 20000 in
theorem gX10_isWord_18 {l : Launch} {v0 : Nat} {v1 : Int32} {v2 : Int32} {v3 : Nat} {v4 : Int32} {v5 : Int32} {σ : Sg} {K : Int32 → Sg → Prop} (h : Sx v3 ∧ (((slenI v3) ≤ v5 → (v4 = 0 ∨ v4 = 1) ∧ K v4 σ) ∧ (¬ (slenI v3) ≤ v5 → ((v4 = 0 → (v4 = 0 ∨ v4 = 1) ∧ K v4 σ) ∧ (¬ v4 = 0 → Ob σ v0 10 ∧ Con l mX10_byteAt [.inr v0, .inl (v1 + v5)] σ (PI (fun x6 σ6 => Sc v3 v5 ∧ ((¬ x6 = (schr v3 v5) → GW l mX10_isWord 18 [(0, .inr v0), (1, .inl v1), (2, .inl v2), (3, .inr v3), (4, .inl 0), (5, .inl (v5 + 1))] [] σ6 0 0 (PI K)) ∧ (x6 = (schr v3 v5) → GW l mX10_isWord 18 [(0, .inr v0), (1, .inl v1), (2, .inl v2), (3, .inr v3), (4, .inl 1), (5, .inl (v5 + 1))] [] σ6 0 0 (PI K)))))))))) : GW l mX10_isWord 18 [(0, .inr v0), (1, .inl v1), (2, .inl v2), (3, .inr v3), (4, .inl v4), (5, .inl v5)] [] σ 0 0 (PI K) := by
  refine gw_iload (q := 5) dX10_isWord_18 rfl ?_
  refine gw_aload_n (q := 3) dX10_isWord_20 rfl rfl ?_
  obtain ⟨g1, h⟩ := h
  refine gw_strlen lX10_80 dX10_isWord_21 (by decide) (Nat.le_of_ble_eq_true rfl) g1 ?_
  refine gw_icmp_ge (tgt := 62) dX10_isWord_24 (by decide) (fun c2 => ?_) (fun c2 => ?_)
  · replace h := h.1 c2
    refine gw_iload (q := 4) dX10_isWord_62 rfl ?_
    obtain ⟨z3, h⟩ := h
    exact gw_rZ dX10_isWord_64 rfl z3 (by decide) (by decide) h
  · replace h := h.2 c2
    refine gw_iload (q := 4) dX10_isWord_27 rfl ?_
    refine gw_if_eq (tgt := 62) dX10_isWord_29 (by decide) (fun c4 => ?_) (fun c4 => ?_)
    · replace h := h.1 c4
      refine gw_iload (q := 4) dX10_isWord_62 rfl ?_
      obtain ⟨z5, h⟩ := h
      exact gw_rZ dX10_isWord_64 rfl z5 (by decide) (by decide) h
    · replace h := h.2 c4
      refine gw_aload_n (q := 0) dX10_isWord_32 rfl rfl ?_
      refine gw_iload_n (q := 1) dX10_isWord_33 rfl rfl ?_
      refine gw_iload (q := 5) dX10_isWord_34 rfl ?_
      refine gw_iadd dX10_isWord_36 ?_
      obtain ⟨g7, h⟩ := h
      refine gw_vC (bs := [.inl (v1 + v5)]) (st := []) (vmX10_byteAt) lX10_39 dX10_isWord_37 ⟨by decide, rfl, rfl, by decide, by decide⟩ (Nat.le_of_ble_eq_true rfl) rfl rfl g7 h (kI (fun x6 σ6 h n6 => ?_))
      refine gw_aload_n (q := 3) dX10_isWord_40 rfl rfl ?_
      refine gw_iload (q := 5) dX10_isWord_41 rfl ?_
      obtain ⟨g8, h⟩ := h
      refine gw_charAt lX10_86 dX10_isWord_43 (by decide) (Nat.le_of_ble_eq_true rfl) g8 ?_
      refine gw_icmp_ne (tgt := 53) dX10_isWord_46 (by decide) (fun c9 => ?_) (fun c9 => ?_)
      · replace h := h.1 c9
        refine gw_iconst (v := 0) dX10_isWord_53 ic_0 ?_
        refine gw_istore (lo' := [(0, .inr v0), (1, .inl v1), (2, .inl v2), (3, .inr v3), (4, .inl 0), (5, .inl v5)]) dX10_isWord_54 (by decide) rfl ?_
        refine gw_inc (lo' := [(0, .inr v0), (1, .inl v1), (2, .inl v2), (3, .inr v3), (4, .inl 0), (5, .inl (v5 + 1))]) (q := 5) (c := 1) dX10_isWord_56 ic_1 rfl (by decide) rfl ?_
        refine gw_goto (tgt := 18) dX10_isWord_59 (by decide) ?_
        exact h
      · replace h := h.2 c9
        refine gw_iconst (v := 1) dX10_isWord_49 ic_1 ?_
        refine gw_goto (tgt := 54) dX10_isWord_50 (by decide) ?_
        refine gw_istore (lo' := [(0, .inr v0), (1, .inl v1), (2, .inl v2), (3, .inr v3), (4, .inl 1), (5, .inl v5)]) dX10_isWord_54 (by decide) rfl ?_
        refine gw_inc (lo' := [(0, .inr v0), (1, .inl v1), (2, .inl v2), (3, .inr v3), (4, .inl 1), (5, .inl (v5 + 1))]) (q := 5) (c := 1) dX10_isWord_56 ic_1 rfl (by decide) rfl ?_
        refine gw_goto (tgt := 18) dX10_isWord_59 (by decide) ?_
        exact h
set_option maxHeartbeats 4000000 in
set_option maxRecDepth 20000 in
theorem eX10_isWord {l : Launch} {v0 : Nat} {v1 : Int32} {v2 : Int32} {v3 : Nat} {σ : Sg} {K : Int32 → Sg → Prop} (h : Sx v3 ∧ ((¬ v2 = (slenI v3) → GW l mX10_isWord 18 [(0, .inr v0), (1, .inl v1), (2, .inl v2), (3, .inr v3), (4, .inl 0), (5, .inl 0)] [] σ 0 0 (PI K)) ∧ (v2 = (slenI v3) → GW l mX10_isWord 18 [(0, .inr v0), (1, .inl v1), (2, .inl v2), (3, .inr v3), (4, .inl 1), (5, .inl 0)] [] σ 0 0 (PI K)))) : Con l mX10_isWord [.inr v0, .inl v1, .inl v2, .inr v3] σ (PI K) := by
  refine con_gw rfl (Nat.le_of_ble_eq_true rfl) ?_
  show GW l mX10_isWord 0 [(0, .inr v0), (1, .inl v1), (2, .inl v2), (3, .inr v3)] [] σ 0 0 (PI K)
  refine gw_iload_n (q := 2) dX10_isWord_0 rfl rfl ?_
  refine gw_aload_n (q := 3) dX10_isWord_1 rfl rfl ?_
  obtain ⟨g1, h⟩ := h
  refine gw_strlen lX10_80 dX10_isWord_2 (by decide) (Nat.le_of_ble_eq_true rfl) g1 ?_
  refine gw_icmp_ne (tgt := 12) dX10_isWord_5 (by decide) (fun c2 => ?_) (fun c2 => ?_)
  · replace h := h.1 c2
    refine gw_iconst (v := 0) dX10_isWord_12 ic_0 ?_
    refine gw_istore (lo' := [(0, .inr v0), (1, .inl v1), (2, .inl v2), (3, .inr v3), (4, .inl 0)]) dX10_isWord_13 (by decide) rfl ?_
    refine gw_iconst (v := 0) dX10_isWord_15 ic_0 ?_
    refine gw_istore (lo' := [(0, .inr v0), (1, .inl v1), (2, .inl v2), (3, .inr v3), (4, .inl 0), (5, .inl 0)]) dX10_isWord_16 (by decide) rfl ?_
    exact h
  · replace h := h.2 c2
    refine gw_iconst (v := 1) dX10_isWord_8 ic_1 ?_
    refine gw_goto (tgt := 13) dX10_isWord_9 (by decide) ?_
    refine gw_istore (lo' := [(0, .inr v0), (1, .inl v1), (2, .inl v2), (3, .inr v3), (4, .inl 1)]) dX10_isWord_13 (by decide) rfl ?_
    refine gw_iconst (v := 0) dX10_isWord_15 ic_0 ?_
    refine gw_istore (lo' := [(0, .inr v0), (1, .inl v1), (2, .inl v2), (3, .inr v3), (4, .inl 1), (5, .inl 0)]) dX10_isWord_16 (by decide) rfl ?_
    exact h
set_option maxHeartbeats 4000000 in
set_option maxRecDepth 20000 in
theorem eX10_put {l : Launch} {v0 : Nat} {v1 : Int32} {v2 : Int32} {v3 : Int32} {σ : Sg} {K : Sg → Prop} (h : Ob σ v0 10 ∧ (((σ.2.1 v0 5) < 0 → K σ) ∧ (¬ (σ.2.1 v0 5) < 0 → ((400 < (σ.2.1 v0 5) → K σ) ∧ (¬ 400 < (σ.2.1 v0 5) → Ai σ (σ.2.2 v0 1) (σ.2.1 v0 5) ∧ ∀ σ5, σ5 = w1 σ (σ.2.2 v0 1) (σ.2.1 v0 5).toNatClampNeg v1 → Ai σ5 (σ5.2.2 v0 2) (σ5.2.1 v0 5) ∧ ∀ σ7, σ7 = w1 σ5 (σ5.2.2 v0 2) (σ5.2.1 v0 5).toNatClampNeg v2 → Ai σ7 (σ7.2.2 v0 3) (σ7.2.1 v0 5) ∧ ∀ σ9, σ9 = w1 σ7 (σ7.2.2 v0 3) (σ7.2.1 v0 5).toNatClampNeg v3 → ∀ σ10, σ10 = w1 σ9 v0 5 ((σ9.2.1 v0 5) + 1) → K σ10))))) : Con l mX10_put [.inr v0, .inl v1, .inl v2, .inl v3] σ (PV K) := by
  refine con_gw rfl (Nat.le_of_ble_eq_true rfl) ?_
  show GW l mX10_put 0 [(0, .inr v0), (1, .inl v1), (2, .inl v2), (3, .inl v3)] [] σ 0 0 (PV K)
  refine gw_aload_n (q := 0) dX10_put_0 rfl rfl ?_
  obtain ⟨g1, h⟩ := h
  refine gw_gI fX10_28 dX10_put_1 g1 ?_
  refine gw_if_lt (tgt := 57) dX10_put_4 (by decide) (fun c2 => ?_) (fun c2 => ?_)
  · replace h := h.1 c2
    exact gw_rV dX10_put_57 rfl (by decide) (by decide) h
  · replace h := h.2 c2
    refine gw_aload_n (q := 0) dX10_put_7 rfl rfl ?_
    refine gw_gI fX10_28 dX10_put_8 g1 ?_
    refine gw_sipush (v := 400) dX10_put_11 sp_400 ?_
    refine gw_icmp_gt (tgt := 57) dX10_put_14 (by decide) (fun c3 => ?_) (fun c3 => ?_)
    · replace h := h.1 c3
      exact gw_rV dX10_put_57 rfl (by decide) (by decide) h
    · replace h := h.2 c3
      refine gw_aload_n (q := 0) dX10_put_17 rfl rfl ?_
      refine gw_gR fX10_15 dX10_put_18 g1 ?_
      refine gw_aload_n (q := 0) dX10_put_21 rfl rfl ?_
      refine gw_gI fX10_28 dX10_put_22 g1 ?_
      refine gw_iload_n (q := 1) dX10_put_25 rfl rfl ?_
      obtain ⟨g4, h⟩ := h
      refine gw_sI dX10_put_26 g4 (fun σ5 e5 => ?_)
      replace h := h σ5 e5
      refine gw_aload_n (q := 0) dX10_put_27 rfl rfl ?_
      refine gw_gR fX10_18 dX10_put_28 (g1.up (n_w1 e5)) ?_
      refine gw_aload_n (q := 0) dX10_put_31 rfl rfl ?_
      refine gw_gI fX10_28 dX10_put_32 (g1.up (n_w1 e5)) ?_
      refine gw_iload_n (q := 2) dX10_put_35 rfl rfl ?_
      obtain ⟨g6, h⟩ := h
      refine gw_sI dX10_put_36 g6 (fun σ7 e7 => ?_)
      replace h := h σ7 e7
      refine gw_aload_n (q := 0) dX10_put_37 rfl rfl ?_
      refine gw_gR fX10_21 dX10_put_38 ((g1.up (n_w1 e5)).up (n_w1 e7)) ?_
      refine gw_aload_n (q := 0) dX10_put_41 rfl rfl ?_
      refine gw_gI fX10_28 dX10_put_42 ((g1.up (n_w1 e5)).up (n_w1 e7)) ?_
      refine gw_iload_n (q := 3) dX10_put_45 rfl rfl ?_
      obtain ⟨g8, h⟩ := h
      refine gw_sI dX10_put_46 g8 (fun σ9 e9 => ?_)
      replace h := h σ9 e9
      refine gw_aload_n (q := 0) dX10_put_47 rfl rfl ?_
      refine gw_dup dX10_put_48 ?_
      refine gw_gI fX10_28 dX10_put_49 (((g1.up (n_w1 e5)).up (n_w1 e7)).up (n_w1 e9)) ?_
      refine gw_iconst (v := 1) dX10_put_52 ic_1 ?_
      refine gw_iadd dX10_put_53 ?_
      refine gw_pI fX10_28 dX10_put_54 (((g1.up (n_w1 e5)).up (n_w1 e7)).up (n_w1 e9)) (fun σ10 e10 => ?_)
      replace h := h σ10 e10
      exact gw_rV dX10_put_57 rfl (by decide) (by decide) h
set_option maxHeartbeats 4000000 in
set_option maxRecDepth 20000 in
theorem eX10_kindAt {l : Launch} {v0 : Nat} {v1 : Int32} {σ : Sg} {K : Int32 → Sg → Prop} (h : ((v1 < 0 → K 0 σ) ∧ (¬ v1 < 0 → ((400 < v1 → K 0 σ) ∧ (¬ 400 < v1 → Ob σ v0 10 ∧ Ai σ (σ.2.2 v0 1) v1 ∧ K (σ.2.1 (σ.2.2 v0 1) v1.toNatClampNeg) σ))))) : Con l mX10_kindAt [.inr v0, .inl v1] σ (PI K) := by
  refine con_gw rfl (Nat.le_of_ble_eq_true rfl) ?_
  show GW l mX10_kindAt 0 [(0, .inr v0), (1, .inl v1)] [] σ 0 0 (PI K)
  refine gw_iload_n (q := 1) dX10_kindAt_0 rfl rfl ?_
  refine gw_if_lt (tgt := 20) dX10_kindAt_1 (by decide) (fun c1 => ?_) (fun c1 => ?_)
  · replace h := h.1 c1
    refine gw_iconst (v := 0) dX10_kindAt_20 ic_0 ?_
    exact gw_rI dX10_kindAt_21 rfl (by decide) (by decide) h
  · replace h := h.2 c1
    refine gw_iload_n (q := 1) dX10_kindAt_4 rfl rfl ?_
    refine gw_sipush (v := 400) dX10_kindAt_5 sp_400 ?_
    refine gw_icmp_gt (tgt := 20) dX10_kindAt_8 (by decide) (fun c2 => ?_) (fun c2 => ?_)
    · replace h := h.1 c2
      refine gw_iconst (v := 0) dX10_kindAt_20 ic_0 ?_
      exact gw_rI dX10_kindAt_21 rfl (by decide) (by decide) h
    · replace h := h.2 c2
      refine gw_aload_n (q := 0) dX10_kindAt_11 rfl rfl ?_
      obtain ⟨g3, h⟩ := h
      refine gw_gR fX10_15 dX10_kindAt_12 g3 ?_
      refine gw_iload_n (q := 1) dX10_kindAt_15 rfl rfl ?_
      obtain ⟨g4, h⟩ := h
      refine gw_aI dX10_kindAt_16 g4 ?_
      refine gw_goto (tgt := 21) dX10_kindAt_17 (by decide) ?_
      exact gw_rI dX10_kindAt_21 rfl (by decide) (by decide) h
set_option maxHeartbeats 4000000 in
set_option maxRecDepth 20000 in
theorem eX10_placeAt {l : Launch} {v0 : Nat} {v1 : Int32} {σ : Sg} {K : Int32 → Sg → Prop} (h : ((v1 < 0 → K (-1) σ) ∧ (¬ v1 < 0 → ((400 < v1 → K (-1) σ) ∧ (¬ 400 < v1 → Ob σ v0 10 ∧ Ai σ (σ.2.2 v0 2) v1 ∧ K (σ.2.1 (σ.2.2 v0 2) v1.toNatClampNeg) σ))))) : Con l mX10_placeAt [.inr v0, .inl v1] σ (PI K) := by
  refine con_gw rfl (Nat.le_of_ble_eq_true rfl) ?_
  show GW l mX10_placeAt 0 [(0, .inr v0), (1, .inl v1)] [] σ 0 0 (PI K)
  refine gw_iload_n (q := 1) dX10_placeAt_0 rfl rfl ?_
  refine gw_if_lt (tgt := 20) dX10_placeAt_1 (by decide) (fun c1 => ?_) (fun c1 => ?_)
  · replace h := h.1 c1
    refine gw_iconst (v := (-1)) dX10_placeAt_20 ic_m1 ?_
    exact gw_rI dX10_placeAt_21 rfl (by decide) (by decide) h
  · replace h := h.2 c1
    refine gw_iload_n (q := 1) dX10_placeAt_4 rfl rfl ?_
    refine gw_sipush (v := 400) dX10_placeAt_5 sp_400 ?_
    refine gw_icmp_gt (tgt := 20) dX10_placeAt_8 (by decide) (fun c2 => ?_) (fun c2 => ?_)
    · replace h := h.1 c2
      refine gw_iconst (v := (-1)) dX10_placeAt_20 ic_m1 ?_
      exact gw_rI dX10_placeAt_21 rfl (by decide) (by decide) h
    · replace h := h.2 c2
      refine gw_aload_n (q := 0) dX10_placeAt_11 rfl rfl ?_
      obtain ⟨g3, h⟩ := h
      refine gw_gR fX10_18 dX10_placeAt_12 g3 ?_
      refine gw_iload_n (q := 1) dX10_placeAt_15 rfl rfl ?_
      obtain ⟨g4, h⟩ := h
      refine gw_aI dX10_placeAt_16 g4 ?_
      refine gw_goto (tgt := 21) dX10_placeAt_17 (by decide) ?_
      exact gw_rI dX10_placeAt_21 rfl (by decide) (by decide) h
set_option maxHeartbeats 4000000 in
set_option maxRecDepth 20000 in
theorem eX10_valueAt {l : Launch} {v0 : Nat} {v1 : Int32} {σ : Sg} {K : Int32 → Sg → Prop} (h : ((v1 < 0 → K 0 σ) ∧ (¬ v1 < 0 → ((400 < v1 → K 0 σ) ∧ (¬ 400 < v1 → Ob σ v0 10 ∧ Ai σ (σ.2.2 v0 3) v1 ∧ K (σ.2.1 (σ.2.2 v0 3) v1.toNatClampNeg) σ))))) : Con l mX10_valueAt [.inr v0, .inl v1] σ (PI K) := by
  refine con_gw rfl (Nat.le_of_ble_eq_true rfl) ?_
  show GW l mX10_valueAt 0 [(0, .inr v0), (1, .inl v1)] [] σ 0 0 (PI K)
  refine gw_iload_n (q := 1) dX10_valueAt_0 rfl rfl ?_
  refine gw_if_lt (tgt := 20) dX10_valueAt_1 (by decide) (fun c1 => ?_) (fun c1 => ?_)
  · replace h := h.1 c1
    refine gw_iconst (v := 0) dX10_valueAt_20 ic_0 ?_
    exact gw_rI dX10_valueAt_21 rfl (by decide) (by decide) h
  · replace h := h.2 c1
    refine gw_iload_n (q := 1) dX10_valueAt_4 rfl rfl ?_
    refine gw_sipush (v := 400) dX10_valueAt_5 sp_400 ?_
    refine gw_icmp_gt (tgt := 20) dX10_valueAt_8 (by decide) (fun c2 => ?_) (fun c2 => ?_)
    · replace h := h.1 c2
      refine gw_iconst (v := 0) dX10_valueAt_20 ic_0 ?_
      exact gw_rI dX10_valueAt_21 rfl (by decide) (by decide) h
    · replace h := h.2 c2
      refine gw_aload_n (q := 0) dX10_valueAt_11 rfl rfl ?_
      obtain ⟨g3, h⟩ := h
      refine gw_gR fX10_21 dX10_valueAt_12 g3 ?_
      refine gw_iload_n (q := 1) dX10_valueAt_15 rfl rfl ?_
      obtain ⟨g4, h⟩ := h
      refine gw_aI dX10_valueAt_16 g4 ?_
      refine gw_goto (tgt := 21) dX10_valueAt_17 (by decide) ?_
      exact gw_rI dX10_valueAt_21 rfl (by decide) (by decide) h
