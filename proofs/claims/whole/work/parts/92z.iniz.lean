/-! one cell more, over the shapes in the order of making -/
section INIz
variable {l : Launch} {n r k : Nat} {ps : List (Nat × Nat × Nat)} {is : List (Nat × Nat × Int32)}
theorem chA_m {X : Nat × Nat} {G : Sg → Prop} (hx : shp_m (n + 1) = X) (hn : n + 1 ≤ 1000) (F : Fr n ps) (F' : Fr n is) (hG : G (SgL (n + 1) ((r, k, n + 1) :: ps) is)) : shp_m ((SgL n ps is).1 + 1) = X ∧ (SgL n ps is).1 + 1 ≤ 1000 ∧ ∀ x3 σ3, x3 = (SgL n ps is).1 + 1 → σ3 = nw (SgL n ps is) → x3 ≤ σ3.1 ∧ ∀ σ6, σ6 = w2 σ3 r k x3 → G σ6 := by
  refine ⟨hx, hn, fun x3 σ3 e1 e2 => ?_⟩
  subst e1
  rw [nw_SgL F F'] at e2
  subst e2
  exact ⟨Nat.le_refl _, fun σ6 e => by subst e; exact hG⟩
theorem chO_m {X : Nat × Nat} {ci : Nat} {G : Sg → Prop} (hr : r ≠ 0) (ho : (shp_m r).1 = ci) (hrn : r ≤ n) (hx : shp_m (n + 1) = X) (hn : n + 1 ≤ 1000) (F : Fr n ps) (F' : Fr n is) (hG : G (SgL (n + 1) ((r, k, n + 1) :: ps) is)) : r ≠ 0 ∧ shp_m ((SgL n ps is).1 + 1) = X ∧ (SgL n ps is).1 + 1 ≤ 1000 ∧ ∀ x3 σ3, x3 = (SgL n ps is).1 + 1 → σ3 = nw (SgL n ps is) → Ob_m σ3 r ci ∧ x3 ≤ σ3.1 ∧ ∀ σ6, σ6 = w2 σ3 r k x3 → G σ6 := by
  refine ⟨hr, hx, hn, fun x3 σ3 e1 e2 => ?_⟩
  subst e1
  rw [nw_SgL F F'] at e2
  subst e2
  exact ⟨⟨hr, ho, by show r ≤ n + 1; omega⟩, Nat.le_refl _, fun σ6 e => by subst e; exact hG⟩
theorem chN_m {ci : Nat} {G : Nat → Sg → Prop} (hx : (shp_m (n + 1)).1 = ci) (hn : n + 1 ≤ 1000) (F : Fr n ps) (F' : Fr n is) (hG : G (n + 1) (SgL (n + 1) ps is)) : (shp_m ((SgL n ps is).1 + 1)).1 = ci ∧ (SgL n ps is).1 + 1 ≤ 1000 ∧ ∀ x3 σ3, x3 = (SgL n ps is).1 + 1 → σ3 = nw (SgL n ps is) → x3 ≠ 0 ∧ G x3 σ3 := by
  refine ⟨hx, hn, fun x3 σ3 e1 e2 => ?_⟩
  subst e1
  rw [nw_SgL F F'] at e2
  subst e2
  exact ⟨Nat.succ_ne_zero _, hG⟩
theorem i_X0_m {K : Sg → Prop} (hr : r ≠ 0) (ho : (shp_m r).1 = 0) (hrn : r ≤ n) (hn : n + 4 ≤ 1000) (s1 : shp_m (n + 1) = (13, 3)) (s2 : shp_m (n + 1 + 1) = (13, 3)) (s3 : shp_m (n + 1 + 1 + 1) = (13, 3)) (s4 : shp_m (n + 1 + 1 + 1 + 1) = (13, 3)) (F : Fr n ps) (F' : Fr n is) (hK : K (SgL (n + 1 + 1 + 1 + 1) ((r, 3, n + 1 + 1 + 1 + 1) :: (r, 2, n + 1 + 1 + 1) :: (r, 1, n + 1 + 1) :: (r, 0, n + 1) :: ps) is)) : Con_m l mX0_init [.inr r] (SgL n ps is) (PV K) := eX0_init_m (chO_m hr ho hrn s1 (by omega) F F' (chA_m s2 (by omega) (F.c hrn) F'.u (chA_m s3 (by omega) ((F.c hrn).c (by omega)) F'.u.u (chA_m s4 (by omega) (((F.c hrn).c (by omega)).c (by omega)) F'.u.u.u (hK)))))
theorem i_X9_m {K : Sg → Prop} (hr : r ≠ 0) (ho : (shp_m r).1 = 9) (hrn : r ≤ n) (hn : n + 2 ≤ 1000) (s1 : shp_m (n + 1) = (13, 40)) (s2 : shp_m (n + 1 + 1) = (13, 40)) (F : Fr n ps) (F' : Fr n is) (hK : K (SgL (n + 1 + 1) ((r, 1, n + 1 + 1) :: (r, 0, n + 1) :: ps) is)) : Con_m l mX9_init [.inr r] (SgL n ps is) (PV K) := eX9_init_m (chO_m hr ho hrn s1 (by omega) F F' (chA_m s2 (by omega) (F.c hrn) F'.u (hK)))
theorem i_X10_m {K : Sg → Prop} (hr : r ≠ 0) (ho : (shp_m r).1 = 10) (hrn : r ≤ n) (hn : n + 4 ≤ 1000) (s1 : shp_m (n + 1) = (13, 400)) (s2 : shp_m (n + 1 + 1) = (13, 401)) (s3 : shp_m (n + 1 + 1 + 1) = (13, 401)) (s4 : shp_m (n + 1 + 1 + 1 + 1) = (13, 401)) (F : Fr n ps) (F' : Fr n is) (hK : K (SgL (n + 1 + 1 + 1 + 1) ((r, 3, n + 1 + 1 + 1 + 1) :: (r, 2, n + 1 + 1 + 1) :: (r, 1, n + 1 + 1) :: (r, 0, n + 1) :: ps) is)) : Con_m l mX10_init [.inr r] (SgL n ps is) (PV K) := eX10_init_m (chO_m hr ho hrn s1 (by omega) F F' (chA_m s2 (by omega) (F.c hrn) F'.u (chA_m s3 (by omega) ((F.c hrn).c (by omega)) F'.u.u (chA_m s4 (by omega) (((F.c hrn).c (by omega)).c (by omega)) F'.u.u.u (hK)))))
theorem i_X2_m {K : Sg → Prop} (hr : r ≠ 0) (ho : (shp_m r).1 = 2) (hrn : r ≤ n) (hn : n + 2 ≤ 1000) (s1 : shp_m (n + 1) = (13, 256)) (s2 : shp_m (n + 1 + 1) = (13, 256)) (F : Fr n ps) (F' : Fr n is) (hK : K (SgL (n + 1 + 1) ((r, 1, n + 1 + 1) :: (r, 0, n + 1) :: ps) is)) : Con_m l mX2_init [.inr r] (SgL n ps is) (PV K) := eX2_init_m (chO_m hr ho hrn s1 (by omega) F F' (chA_m s2 (by omega) (F.c hrn) F'.u (hK)))
theorem i_X8_m {K : Sg → Prop} (hr : r ≠ 0) (ho : (shp_m r).1 = 8) (hrn : r ≤ n) (hn : n + 1 ≤ 1000) (s1 : shp_m (n + 1) = (13, 40)) (F : Fr n ps) (F' : Fr n is) (hK : K (SgL (n + 1) ((r, 0, n + 1) :: ps) is)) : Con_m l mX8_init [.inr r] (SgL n ps is) (PV K) := eX8_init_m (chO_m hr ho hrn s1 (by omega) F F' (hK))
theorem i_X1_m {K : Sg → Prop} (hr : r ≠ 0) (ho : (shp_m r).1 = 1) (hrn : r ≤ n) (hn : n + 6 ≤ 1000) (s1 : shp_m (n + 1) = (13, 640)) (s2 : shp_m (n + 1 + 1) = (13, 40)) (s3 : shp_m (n + 1 + 1 + 1) = (13, 40)) (s4 : shp_m (n + 1 + 1 + 1 + 1) = (13, 256)) (s5 : shp_m (n + 1 + 1 + 1 + 1 + 1) = (13, 3)) (s6 : shp_m (n + 1 + 1 + 1 + 1 + 1 + 1) = (13, 3)) (F : Fr n ps) (F' : Fr n is) (hK : K (SgL (n + 1 + 1 + 1 + 1 + 1 + 1) ((r, 5, n + 1 + 1 + 1 + 1 + 1 + 1) :: (r, 4, n + 1 + 1 + 1 + 1 + 1) :: (r, 3, n + 1 + 1 + 1 + 1) :: (r, 2, n + 1 + 1 + 1) :: (r, 1, n + 1 + 1) :: (r, 0, n + 1) :: ps) is)) : Con_m l mX1_init [.inr r] (SgL n ps is) (PV K) := eX1_init_m (chO_m hr ho hrn s1 (by omega) F F' (chA_m s2 (by omega) (F.c hrn) F'.u (chA_m s3 (by omega) ((F.c hrn).c (by omega)) F'.u.u (chA_m s4 (by omega) (((F.c hrn).c (by omega)).c (by omega)) F'.u.u.u (chA_m s5 (by omega) ((((F.c hrn).c (by omega)).c (by omega)).c (by omega)) F'.u.u.u.u (chA_m s6 (by omega) (((((F.c hrn).c (by omega)).c (by omega)).c (by omega)).c (by omega)) F'.u.u.u.u.u (hK)))))))
theorem i_X5_m {K : Sg → Prop} (hr : r ≠ 0) (ho : (shp_m r).1 = 5) (hrn : r ≤ n) (hn : n + 4 ≤ 1000) (s1 : shp_m (n + 1) = (13, 240)) (s2 : shp_m (n + 1 + 1) = (13, 240)) (s3 : shp_m (n + 1 + 1 + 1) = (13, 1600)) (s4 : shp_m (n + 1 + 1 + 1 + 1) = (13, 80)) (F : Fr n ps) (F' : Fr n is) (hK : K (SgL (n + 1 + 1 + 1 + 1) ((r, 3, n + 1 + 1 + 1 + 1) :: (r, 2, n + 1 + 1 + 1) :: (r, 1, n + 1 + 1) :: (r, 0, n + 1) :: ps) is)) : Con_m l mX5_init [.inr r] (SgL n ps is) (PV K) := eX5_init_m (chO_m hr ho hrn s1 (by omega) F F' (chA_m s2 (by omega) (F.c hrn) F'.u (chA_m s3 (by omega) ((F.c hrn).c (by omega)) F'.u.u (chA_m s4 (by omega) (((F.c hrn).c (by omega)).c (by omega)) F'.u.u.u (hK)))))
theorem i_X6_m {K : Sg → Prop} (hr : r ≠ 0) (ho : (shp_m r).1 = 6) (hrn : r ≤ n) (hn : n + 7 ≤ 1000) (s1 : shp_m (n + 1) = (13, 10)) (s2 : shp_m (n + 1 + 1) = (13, 10)) (s3 : shp_m (n + 1 + 1 + 1) = (13, 5)) (s4 : shp_m (n + 1 + 1 + 1 + 1) = (13, 5)) (s5 : shp_m (n + 1 + 1 + 1 + 1 + 1) = (14, 10)) (s6 : shp_m (n + 1 + 1 + 1 + 1 + 1 + 1) = (13, 64)) (s7 : shp_m (n + 1 + 1 + 1 + 1 + 1 + 1 + 1) = (13, 160)) (F : Fr n ps) (F' : Fr n is) (hK : K (SgL (n + 1 + 1 + 1 + 1 + 1 + 1 + 1) ((r, 6, n + 1 + 1 + 1 + 1 + 1 + 1 + 1) :: (r, 5, n + 1 + 1 + 1 + 1 + 1 + 1) :: (r, 4, n + 1 + 1 + 1 + 1 + 1) :: (r, 3, n + 1 + 1 + 1 + 1) :: (r, 2, n + 1 + 1 + 1) :: (r, 1, n + 1 + 1) :: (r, 0, n + 1) :: ps) is)) : Con_m l mX6_init [.inr r] (SgL n ps is) (PV K) := eX6_init_m (chO_m hr ho hrn s1 (by omega) F F' (chA_m s2 (by omega) (F.c hrn) F'.u (chA_m s3 (by omega) ((F.c hrn).c (by omega)) F'.u.u (chA_m s4 (by omega) (((F.c hrn).c (by omega)).c (by omega)) F'.u.u.u (chA_m s5 (by omega) ((((F.c hrn).c (by omega)).c (by omega)).c (by omega)) F'.u.u.u.u (chA_m s6 (by omega) (((((F.c hrn).c (by omega)).c (by omega)).c (by omega)).c (by omega)) F'.u.u.u.u.u (chA_m s7 (by omega) ((((((F.c hrn).c (by omega)).c (by omega)).c (by omega)).c (by omega)).c (by omega)) F'.u.u.u.u.u.u (hK))))))))
set_option maxHeartbeats 4000000 in
set_option maxRecDepth 20000 in
theorem gX7_init_49k_m {kc ks : Nat} {l : Launch} {v0 : Nat} {v1 : Int32} {σ : Sg} {K : Sg → Prop} (hk : kc ≤ 42 ∧ ks ≤ 898) (h : ((10 ≤ v1 → K σ) ∧ (¬ 10 ≤ v1 → (kc + 3 ≤ 42 ∧ ks + 84 ≤ 898) ∧ Ob_m σ v0 7 ∧ (shp_m (σ.1 + 1)).1 = 9 ∧ σ.1 + 1 ≤ 1000 ∧ ∀ x4 σ4, x4 = σ.1 + 1 → σ4 = nw σ → x4 ≠ 0 ∧ Con_m l mX9_init [.inr x4] σ4 (PV (fun σ5 => ((σ.2.2 v0 1) ≠ 0 ∧ (shp_m (σ.2.2 v0 1)).1 = 16 ∧ (σ.2.2 v0 1) ≤ σ5.1 ∧ vp_in v1 (shp_m (σ.2.2 v0 1)).2) ∧ Ob_m σ5 x4 9 ∧ ∀ σA8, σA8 = w2 σ5 (σ.2.2 v0 1) v1.toNatClampNeg x4 → GW_m l mX7_init 49 [(0, .inr v0), (1, .inl (v1 + 1))] [] σA8 (kc + 3) (ks + 84) (PV K)))))) : GW_m l mX7_init 49 [(0, .inr v0), (1, .inl v1)] [] σ kc ks (PV K) := by
  refine gw_iload_n_m (q := 1) dX7_init_49 rfl rfl ?_
  refine gw_bipush_m (v := 10) dX7_init_50 bp_10 ?_
  refine gw_icmp_ge_m (tgt := 74) dX7_init_52 (by decide) (fun c1 => ?_) (fun c1 => ?_)
  · replace h := h.1 c1
    exact gw_rV_m dX7_init_74 rfl hk.1 hk.2 h
  · replace h := h.2 c1
    obtain ⟨hq, h⟩ := h
    refine gw_aload_n_m (q := 0) dX7_init_55 rfl rfl ?_
    obtain ⟨g2, h⟩ := h
    refine gw_gR_m fX7_19 dX7_init_56 g2 ?_
    refine gw_iload_n_m (q := 1) dX7_init_59 rfl rfl ?_
    obtain ⟨g3, g4, h⟩ := h
    refine gw_new_m ci9 clX7_17 it_X9 in_X9 df9 dX7_init_60 g3 (show kc + 1 ≤ 42 by omega) (show ks + 4 ≤ 898 by omega) g4 (fun x4 σ4 ex4 e4 => ?_)
    replace h := h x4 σ4 ex4 e4
    refine gw_dup_m dX7_init_63 ?_
    obtain ⟨g6, h⟩ := h
    refine gw_iC_m (bs := []) (st := [.inr x4, .inl v1, .inr (σ.2.2 v0 1)]) xmX9_init lX7_24 dX7_init_64 ⟨by decide, rfl, rfl, show kc + 1 + 2 ≤ 42 by omega, show ks + 4 + 80 ≤ 898 by omega⟩ (Nat.le_of_ble_eq_true rfl) rfl rfl g6 h (kV_m (fun σ5 h n5 => ?_))
    obtain ⟨g7, g8, h⟩ := h
    refine gw_aast_m dX7_init_67 (kd := 16) (ci := 9) (shp_pair_m g7.2.1) (by omega) g7.1 g7.2.2.1 g8.1 g8.2.2 g8.2.1 g7.2.2.2 (fun σA8 eA8 => ?_)
    replace h := h σA8 eA8
    refine gw_inc_m (lo' := [(0, .inr v0), (1, .inl (v1 + 1))]) (q := 1) (c := 1) dX7_init_68 ic_1 rfl (by decide) rfl ?_
    refine gw_goto_m (tgt := 49) dX7_init_71 (by decide) ?_
    exact h
set_option maxHeartbeats 4000000 in
set_option maxRecDepth 20000 in
theorem gX7_init_23k_m {kc ks : Nat} {l : Launch} {v0 : Nat} {v1 : Int32} {σ : Sg} {K : Sg → Prop} (hk : kc ≤ 42 ∧ ks ≤ 898) (h : ((2 ≤ v1 → GW_m l mX7_init 49 [(0, .inr v0), (1, .inl 0)] [] σ kc ks (PV K)) ∧ (¬ 2 ≤ v1 → (kc + 5 ≤ 42 ∧ ks + 23 ≤ 898) ∧ Ob_m σ v0 7 ∧ (shp_m (σ.1 + 1)).1 = 0 ∧ σ.1 + 1 ≤ 1000 ∧ ∀ x4 σ4, x4 = σ.1 + 1 → σ4 = nw σ → x4 ≠ 0 ∧ Con_m l mX0_init [.inr x4] σ4 (PV (fun σ5 => ((σ.2.2 v0 0) ≠ 0 ∧ (shp_m (σ.2.2 v0 0)).1 = 15 ∧ (σ.2.2 v0 0) ≤ σ5.1 ∧ vp_in v1 (shp_m (σ.2.2 v0 0)).2) ∧ Ob_m σ5 x4 0 ∧ ∀ σA8, σA8 = w2 σ5 (σ.2.2 v0 0) v1.toNatClampNeg x4 → GW_m l mX7_init 23 [(0, .inr v0), (1, .inl (v1 + 1))] [] σA8 (kc + 5) (ks + 23) (PV K)))))) : GW_m l mX7_init 23 [(0, .inr v0), (1, .inl v1)] [] σ kc ks (PV K) := by
  refine gw_iload_n_m (q := 1) dX7_init_23 rfl rfl ?_
  refine gw_iconst_m (v := 2) dX7_init_24 ic_2 ?_
  refine gw_icmp_ge_m (tgt := 47) dX7_init_25 (by decide) (fun c1 => ?_) (fun c1 => ?_)
  · replace h := h.1 c1
    refine gw_iconst_m (v := 0) dX7_init_47 ic_0 ?_
    refine gw_istore_n_m (lo' := [(0, .inr v0), (1, .inl 0)]) dX7_init_48 rfl (by decide) rfl ?_
    exact h
  · replace h := h.2 c1
    obtain ⟨hq, h⟩ := h
    refine gw_aload_n_m (q := 0) dX7_init_28 rfl rfl ?_
    obtain ⟨g2, h⟩ := h
    refine gw_gR_m fX7_11 dX7_init_29 g2 ?_
    refine gw_iload_n_m (q := 1) dX7_init_32 rfl rfl ?_
    obtain ⟨g3, g4, h⟩ := h
    refine gw_new_m ci0 clX7_9 it_X0 in_X0 df0 dX7_init_33 g3 (show kc + 1 ≤ 42 by omega) (show ks + 11 ≤ 898 by omega) g4 (fun x4 σ4 ex4 e4 => ?_)
    replace h := h x4 σ4 ex4 e4
    refine gw_dup_m dX7_init_36 ?_
    obtain ⟨g6, h⟩ := h
    refine gw_iC_m (bs := []) (st := [.inr x4, .inl v1, .inr (σ.2.2 v0 0)]) xmX0_init lX7_23 dX7_init_37 ⟨by decide, rfl, rfl, show kc + 1 + 4 ≤ 42 by omega, show ks + 11 + 12 ≤ 898 by omega⟩ (Nat.le_of_ble_eq_true rfl) rfl rfl g6 h (kV_m (fun σ5 h n5 => ?_))
    obtain ⟨g7, g8, h⟩ := h
    refine gw_aast_m dX7_init_40 (kd := 15) (ci := 0) (shp_pair_m g7.2.1) (by omega) g7.1 g7.2.2.1 g8.1 g8.2.2 g8.2.1 g7.2.2.2 (fun σA8 eA8 => ?_)
    replace h := h σA8 eA8
    refine gw_inc_m (lo' := [(0, .inr v0), (1, .inl (v1 + 1))]) (q := 1) (c := 1) dX7_init_41 ic_1 rfl (by decide) rfl ?_
    refine gw_goto_m (tgt := 23) dX7_init_44 (by decide) ?_
    exact h
end INIz
