set_option maxHeartbeats 4000000 in
set_option maxRecDepth 20000 in
theorem eX12_init {l : Launch} {v0 : Nat} {σ : Sg} {K : Sg → Prop} (h : v0 ≠ 0 ∧ shp (σ.1 + 1) = (13, 400) ∧ σ.1 + 1 ≤ 1000 ∧ ∀ x3 σ3, x3 = σ.1 + 1 → σ3 = nw σ → Ob σ3 v0 12 ∧ x3 ≤ σ3.1 ∧ ∀ σ6, σ6 = w2 σ3 v0 1 x3 → shp (σ6.1 + 1) = (13, 16) ∧ σ6.1 + 1 ≤ 1000 ∧ ∀ x8 σ8, x8 = σ6.1 + 1 → σ8 = nw σ6 → Ai σ8 x8 0 ∧ ∀ σ10, σ10 = w1 σ8 x8 (0 : Int32).toNatClampNeg 1000 → Ai σ10 x8 1 ∧ ∀ σ12, σ12 = w1 σ10 x8 (1 : Int32).toNatClampNeg 924 → Ai σ12 x8 2 ∧ ∀ σ14, σ14 = w1 σ12 x8 (2 : Int32).toNatClampNeg 707 → Ai σ14 x8 3 ∧ ∀ σ16, σ16 = w1 σ14 x8 (3 : Int32).toNatClampNeg 383 → Ai σ16 x8 4 ∧ ∀ σ18, σ18 = w1 σ16 x8 (4 : Int32).toNatClampNeg 0 → Ai σ18 x8 5 ∧ ∀ σ20, σ20 = w1 σ18 x8 (5 : Int32).toNatClampNeg (-383) → Ai σ20 x8 6 ∧ ∀ σ22, σ22 = w1 σ20 x8 (6 : Int32).toNatClampNeg (-707) → Ai σ22 x8 7 ∧ ∀ σ24, σ24 = w1 σ22 x8 (7 : Int32).toNatClampNeg (-924) → Ai σ24 x8 8 ∧ ∀ σ26, σ26 = w1 σ24 x8 (8 : Int32).toNatClampNeg (-1000) → Ai σ26 x8 9 ∧ ∀ σ28, σ28 = w1 σ26 x8 (9 : Int32).toNatClampNeg (-924) → Ai σ28 x8 10 ∧ ∀ σ30, σ30 = w1 σ28 x8 (10 : Int32).toNatClampNeg (-707) → Ai σ30 x8 11 ∧ ∀ σ32, σ32 = w1 σ30 x8 (11 : Int32).toNatClampNeg (-383) → Ai σ32 x8 12 ∧ ∀ σ34, σ34 = w1 σ32 x8 (12 : Int32).toNatClampNeg 0 → Ai σ34 x8 13 ∧ ∀ σ36, σ36 = w1 σ34 x8 (13 : Int32).toNatClampNeg 383 → Ai σ36 x8 14 ∧ ∀ σ38, σ38 = w1 σ36 x8 (14 : Int32).toNatClampNeg 707 → Ai σ38 x8 15 ∧ ∀ σ40, σ40 = w1 σ38 x8 (15 : Int32).toNatClampNeg 924 → x8 ≤ σ40.1 ∧ ∀ σ42, σ42 = w2 σ40 v0 3 x8 → shp (σ42.1 + 1) = (13, 2) ∧ σ42.1 + 1 ≤ 1000 ∧ ∀ x44 σ44, x44 = σ42.1 + 1 → σ44 = nw σ42 → x44 ≤ σ44.1 ∧ ∀ σ46, σ46 = w2 σ44 v0 5 x44 → shp (σ46.1 + 1) = (13, 2) ∧ σ46.1 + 1 ≤ 1000 ∧ ∀ x48 σ48, x48 = σ46.1 + 1 → σ48 = nw σ46 → x48 ≤ σ48.1 ∧ ∀ σ50, σ50 = w2 σ48 v0 6 x48 → shp (σ50.1 + 1) = (13, 2) ∧ σ50.1 + 1 ≤ 1000 ∧ ∀ x52 σ52, x52 = σ50.1 + 1 → σ52 = nw σ50 → x52 ≤ σ52.1 ∧ ∀ σ54, σ54 = w2 σ52 v0 7 x52 → shp (σ54.1 + 1) = (13, 6) ∧ σ54.1 + 1 ≤ 1000 ∧ ∀ x56 σ56, x56 = σ54.1 + 1 → σ56 = nw σ54 → x56 ≤ σ56.1 ∧ ∀ σ58, σ58 = w2 σ56 v0 8 x56 → shp (σ58.1 + 1) = (13, 6) ∧ σ58.1 + 1 ≤ 1000 ∧ ∀ x60 σ60, x60 = σ58.1 + 1 → σ60 = nw σ58 → x60 ≤ σ60.1 ∧ ∀ σ62, σ62 = w2 σ60 v0 9 x60 → shp (σ62.1 + 1) = (13, 6) ∧ σ62.1 + 1 ≤ 1000 ∧ ∀ x64 σ64, x64 = σ62.1 + 1 → σ64 = nw σ62 → x64 ≤ σ64.1 ∧ ∀ σ66, σ66 = w2 σ64 v0 10 x64 → shp (σ66.1 + 1) = (13, 6) ∧ σ66.1 + 1 ≤ 1000 ∧ ∀ x68 σ68, x68 = σ66.1 + 1 → σ68 = nw σ66 → x68 ≤ σ68.1 ∧ ∀ σ70, σ70 = w2 σ68 v0 11 x68 → shp (σ70.1 + 1) = (13, 2) ∧ σ70.1 + 1 ≤ 1000 ∧ ∀ x72 σ72, x72 = σ70.1 + 1 → σ72 = nw σ70 → x72 ≤ σ72.1 ∧ ∀ σ74, σ74 = w2 σ72 v0 12 x72 → shp (σ74.1 + 1) = (13, 2) ∧ σ74.1 + 1 ≤ 1000 ∧ ∀ x76 σ76, x76 = σ74.1 + 1 → σ76 = nw σ74 → x76 ≤ σ76.1 ∧ ∀ σ78, σ78 = w2 σ76 v0 13 x76 → shp (σ78.1 + 1) = (13, 2) ∧ σ78.1 + 1 ≤ 1000 ∧ ∀ x80 σ80, x80 = σ78.1 + 1 → σ80 = nw σ78 → x80 ≤ σ80.1 ∧ ∀ σ82, σ82 = w2 σ80 v0 14 x80 → shp (σ82.1 + 1) = (13, 2) ∧ σ82.1 + 1 ≤ 1000 ∧ ∀ x84 σ84, x84 = σ82.1 + 1 → σ84 = nw σ82 → x84 ≤ σ84.1 ∧ ∀ σ86, σ86 = w2 σ84 v0 15 x84 → shp (σ86.1 + 1) = (13, 11) ∧ σ86.1 + 1 ≤ 1000 ∧ ∀ x88 σ88, x88 = σ86.1 + 1 → σ88 = nw σ86 → x88 ≤ σ88.1 ∧ ∀ σ90, σ90 = w2 σ88 v0 17 x88 → shp (σ90.1 + 1) = (13, 11) ∧ σ90.1 + 1 ≤ 1000 ∧ ∀ x92 σ92, x92 = σ90.1 + 1 → σ92 = nw σ90 → x92 ≤ σ92.1 ∧ ∀ σ94, σ94 = w2 σ92 v0 18 x92 → shp (σ94.1 + 1) = (13, 440) ∧ σ94.1 + 1 ≤ 1000 ∧ ∀ x96 σ96, x96 = σ94.1 + 1 → σ96 = nw σ94 → x96 ≤ σ96.1 ∧ ∀ σ98, σ98 = w2 σ96 v0 19 x96 → shp (σ98.1 + 1) = (13, 440) ∧ σ98.1 + 1 ≤ 1000 ∧ ∀ x100 σ100, x100 = σ98.1 + 1 → σ100 = nw σ98 → x100 ≤ σ100.1 ∧ ∀ σ102, σ102 = w2 σ100 v0 20 x100 → ∀ σ103, σ103 = w1 σ102 v0 30 (-1) → shp (σ103.1 + 1) = (13, 41) ∧ σ103.1 + 1 ≤ 1000 ∧ ∀ x105 σ105, x105 = σ103.1 + 1 → σ105 = nw σ103 → x105 ≤ σ105.1 ∧ ∀ σ107, σ107 = w2 σ105 v0 31 x105 → shp (σ107.1 + 1) = (13, 41) ∧ σ107.1 + 1 ≤ 1000 ∧ ∀ x109 σ109, x109 = σ107.1 + 1 → σ109 = nw σ107 → x109 ≤ σ109.1 ∧ ∀ σ111, σ111 = w2 σ109 v0 32 x109 → shp (σ111.1 + 1) = (13, 41) ∧ σ111.1 + 1 ≤ 1000 ∧ ∀ x113 σ113, x113 = σ111.1 + 1 → σ113 = nw σ111 → x113 ≤ σ113.1 ∧ ∀ σ115, σ115 = w2 σ113 v0 34 x113 → shp (σ115.1 + 1) = (13, 41) ∧ σ115.1 + 1 ≤ 1000 ∧ ∀ x117 σ117, x117 = σ115.1 + 1 → σ117 = nw σ115 → x117 ≤ σ117.1 ∧ ∀ σ119, σ119 = w2 σ117 v0 35 x117 → shp (σ119.1 + 1) = (13, 256) ∧ σ119.1 + 1 ≤ 1000 ∧ ∀ x121 σ121, x121 = σ119.1 + 1 → σ121 = nw σ119 → x121 ≤ σ121.1 ∧ ∀ σ123, σ123 = w2 σ121 v0 38 x121 → ∀ σ124, σ124 = w1 σ123 v0 39 10 → ∀ σ125, σ125 = w1 σ124 v0 40 (-1) → ∀ σ126, σ126 = w1 σ125 v0 41 (-1) → shp (σ126.1 + 1) = (13, 163840) ∧ σ126.1 + 1 ≤ 1000 ∧ ∀ x128 σ128, x128 = σ126.1 + 1 → σ128 = nw σ126 → x128 ≤ σ128.1 ∧ ∀ σ130, σ130 = w2 σ128 v0 43 x128 → shp (σ130.1 + 1) = (14, 8192) ∧ σ130.1 + 1 ≤ 1000 ∧ ∀ x132 σ132, x132 = σ130.1 + 1 → σ132 = nw σ130 → x132 ≤ σ132.1 ∧ ∀ σ134, σ134 = w2 σ132 v0 44 x132 → shp (σ134.1 + 1) = (13, 40) ∧ σ134.1 + 1 ≤ 1000 ∧ ∀ x136 σ136, x136 = σ134.1 + 1 → σ136 = nw σ134 → x136 ≤ σ136.1 ∧ ∀ σ138, σ138 = w2 σ136 v0 45 x136 → shp (σ138.1 + 1) = (13, 1600) ∧ σ138.1 + 1 ≤ 1000 ∧ ∀ x140 σ140, x140 = σ138.1 + 1 → σ140 = nw σ138 → x140 ≤ σ140.1 ∧ ∀ σ142, σ142 = w2 σ140 v0 46 x140 → shp (σ142.1 + 1) = (13, 80) ∧ σ142.1 + 1 ≤ 1000 ∧ ∀ x144 σ144, x144 = σ142.1 + 1 → σ144 = nw σ142 → x144 ≤ σ144.1 ∧ ∀ σ146, σ146 = w2 σ144 v0 47 x144 → shp (σ146.1 + 1) = (13, 12) ∧ σ146.1 + 1 ≤ 1000 ∧ ∀ x148 σ148, x148 = σ146.1 + 1 → σ148 = nw σ146 → x148 ≤ σ148.1 ∧ ∀ σ150, σ150 = w2 σ148 v0 49 x148 → shp (σ150.1 + 1) = (14, 20) ∧ σ150.1 + 1 ≤ 1000 ∧ ∀ x152 σ152, x152 = σ150.1 + 1 → σ152 = nw σ150 → x152 ≤ σ152.1 ∧ ∀ σ154, σ154 = w2 σ152 v0 50 x152 → shp (σ154.1 + 1) = (13, 20) ∧ σ154.1 + 1 ≤ 1000 ∧ ∀ x156 σ156, x156 = σ154.1 + 1 → σ156 = nw σ154 → x156 ≤ σ156.1 ∧ ∀ σ158, σ158 = w2 σ156 v0 51 x156 → shp (σ158.1 + 1) = (13, 20) ∧ σ158.1 + 1 ≤ 1000 ∧ ∀ x160 σ160, x160 = σ158.1 + 1 → σ160 = nw σ158 → x160 ≤ σ160.1 ∧ ∀ σ162, σ162 = w2 σ160 v0 52 x160 → shp (σ162.1 + 1) = (13, 5) ∧ σ162.1 + 1 ≤ 1000 ∧ ∀ x164 σ164, x164 = σ162.1 + 1 → σ164 = nw σ162 → x164 ≤ σ164.1 ∧ ∀ σ166, σ166 = w2 σ164 v0 53 x164 → shp (σ166.1 + 1) = (13, 256) ∧ σ166.1 + 1 ≤ 1000 ∧ ∀ x168 σ168, x168 = σ166.1 + 1 → σ168 = nw σ166 → x168 ≤ σ168.1 ∧ ∀ σ170, σ170 = w2 σ168 v0 55 x168 → shp (σ170.1 + 1) = (13, 256) ∧ σ170.1 + 1 ≤ 1000 ∧ ∀ x172 σ172, x172 = σ170.1 + 1 → σ172 = nw σ170 → x172 ≤ σ172.1 ∧ ∀ σ174, σ174 = w2 σ172 v0 56 x172 → shp (σ174.1 + 1) = (13, 3) ∧ σ174.1 + 1 ≤ 1000 ∧ ∀ x176 σ176, x176 = σ174.1 + 1 → σ176 = nw σ174 → x176 ≤ σ176.1 ∧ ∀ σ178, σ178 = w2 σ176 v0 60 x176 → shp (σ178.1 + 1) = (13, 3) ∧ σ178.1 + 1 ≤ 1000 ∧ ∀ x180 σ180, x180 = σ178.1 + 1 → σ180 = nw σ178 → x180 ≤ σ180.1 ∧ ∀ σ182, σ182 = w2 σ180 v0 61 x180 → K σ182) : Con l mX12_init [.inr v0] σ (PV K) := by
  refine con_gw rfl (Nat.le_of_ble_eq_true rfl) ?_
  show GW l mX12_init 0 [(0, .inr v0)] [] σ 0 0 (PV K)
  refine gw_aload_n (q := 0) dX12_init_0 rfl rfl ?_
  obtain ⟨g1, h⟩ := h
  refine gw_objInit oiX12_3 oi_in oi_cd dX12_init_1 (by decide) (Nat.le_of_ble_eq_true rfl) g1 ?_
  refine gw_aload_n (q := 0) dX12_init_4 rfl rfl ?_
  refine gw_sipush (v := 400) dX12_init_5 sp_400 ?_
  obtain ⟨g2, g3, h⟩ := h
  refine gw_newi (N := 400) ac_int dX12_init_8 g2 (by decide) (by decide) (by decide) (by decide) (by decide) g3 (fun x3 σ3 ex3 e3 => ?_)
  replace h := h x3 σ3 ex3 e3
  obtain ⟨g4, h⟩ := h
  obtain ⟨z5, h⟩ := h
  refine gw_pRF fX12_9 (Or.inr ⟨_, rfl⟩) rfl rfl (fun C T N hc => by cases hc; exact xfX12_9) dX12_init_10 z5 g4 (fun σ6 e6 => ?_)
  replace h := h σ6 e6
  refine gw_aload_n (q := 0) dX12_init_13 rfl rfl ?_
  refine gw_bipush (v := 16) dX12_init_14 bp_16 ?_
  obtain ⟨g7, g8, h⟩ := h
  refine gw_newi (N := 16) ac_int dX12_init_16 g7 (by decide) (by decide) (by decide) (by decide) (by decide) g8 (fun x8 σ8 ex8 e8 => ?_)
  replace h := h x8 σ8 ex8 e8
  refine gw_dup dX12_init_18 ?_
  refine gw_iconst (v := 0) dX12_init_19 ic_0 ?_
  refine gw_sipush (v := 1000) dX12_init_20 sp_1000 ?_
  obtain ⟨g9, h⟩ := h
  refine gw_sI dX12_init_23 g9 (fun σ10 e10 => ?_)
  replace h := h σ10 e10
  refine gw_dup dX12_init_24 ?_
  refine gw_iconst (v := 1) dX12_init_25 ic_1 ?_
  refine gw_sipush (v := 924) dX12_init_26 sp_924 ?_
  obtain ⟨g11, h⟩ := h
  refine gw_sI dX12_init_29 g11 (fun σ12 e12 => ?_)
  replace h := h σ12 e12
  refine gw_dup dX12_init_30 ?_
  refine gw_iconst (v := 2) dX12_init_31 ic_2 ?_
  refine gw_sipush (v := 707) dX12_init_32 sp_707 ?_
  obtain ⟨g13, h⟩ := h
  refine gw_sI dX12_init_35 g13 (fun σ14 e14 => ?_)
  replace h := h σ14 e14
  refine gw_dup dX12_init_36 ?_
  refine gw_iconst (v := 3) dX12_init_37 ic_3 ?_
  refine gw_sipush (v := 383) dX12_init_38 sp_383 ?_
  obtain ⟨g15, h⟩ := h
  refine gw_sI dX12_init_41 g15 (fun σ16 e16 => ?_)
  replace h := h σ16 e16
  refine gw_dup dX12_init_42 ?_
  refine gw_iconst (v := 4) dX12_init_43 ic_4 ?_
  refine gw_iconst (v := 0) dX12_init_44 ic_0 ?_
  obtain ⟨g17, h⟩ := h
  refine gw_sI dX12_init_45 g17 (fun σ18 e18 => ?_)
  replace h := h σ18 e18
  refine gw_dup dX12_init_46 ?_
  refine gw_iconst (v := 5) dX12_init_47 ic_5 ?_
  refine gw_sipush (v := (-383)) dX12_init_48 sp_m383 ?_
  obtain ⟨g19, h⟩ := h
  refine gw_sI dX12_init_51 g19 (fun σ20 e20 => ?_)
  replace h := h σ20 e20
  refine gw_dup dX12_init_52 ?_
  refine gw_bipush (v := 6) dX12_init_53 bp_6 ?_
  refine gw_sipush (v := (-707)) dX12_init_55 sp_m707 ?_
  obtain ⟨g21, h⟩ := h
  refine gw_sI dX12_init_58 g21 (fun σ22 e22 => ?_)
  replace h := h σ22 e22
  refine gw_dup dX12_init_59 ?_
  refine gw_bipush (v := 7) dX12_init_60 bp_7 ?_
  refine gw_sipush (v := (-924)) dX12_init_62 sp_m924 ?_
  obtain ⟨g23, h⟩ := h
  refine gw_sI dX12_init_65 g23 (fun σ24 e24 => ?_)
  replace h := h σ24 e24
  refine gw_dup dX12_init_66 ?_
  refine gw_bipush (v := 8) dX12_init_67 bp_8 ?_
  refine gw_sipush (v := (-1000)) dX12_init_69 sp_m1000 ?_
  obtain ⟨g25, h⟩ := h
  refine gw_sI dX12_init_72 g25 (fun σ26 e26 => ?_)
  replace h := h σ26 e26
  refine gw_dup dX12_init_73 ?_
  refine gw_bipush (v := 9) dX12_init_74 bp_9 ?_
  refine gw_sipush (v := (-924)) dX12_init_76 sp_m924 ?_
  obtain ⟨g27, h⟩ := h
  refine gw_sI dX12_init_79 g27 (fun σ28 e28 => ?_)
  replace h := h σ28 e28
  refine gw_dup dX12_init_80 ?_
  refine gw_bipush (v := 10) dX12_init_81 bp_10 ?_
  refine gw_sipush (v := (-707)) dX12_init_83 sp_m707 ?_
  obtain ⟨g29, h⟩ := h
  refine gw_sI dX12_init_86 g29 (fun σ30 e30 => ?_)
  replace h := h σ30 e30
  refine gw_dup dX12_init_87 ?_
  refine gw_bipush (v := 11) dX12_init_88 bp_11 ?_
  refine gw_sipush (v := (-383)) dX12_init_90 sp_m383 ?_
  obtain ⟨g31, h⟩ := h
  refine gw_sI dX12_init_93 g31 (fun σ32 e32 => ?_)
  replace h := h σ32 e32
  refine gw_dup dX12_init_94 ?_
  refine gw_bipush (v := 12) dX12_init_95 bp_12 ?_
  refine gw_iconst (v := 0) dX12_init_97 ic_0 ?_
  obtain ⟨g33, h⟩ := h
  refine gw_sI dX12_init_98 g33 (fun σ34 e34 => ?_)
  replace h := h σ34 e34
  refine gw_dup dX12_init_99 ?_
  refine gw_bipush (v := 13) dX12_init_100 bp_13 ?_
  refine gw_sipush (v := 383) dX12_init_102 sp_383 ?_
  obtain ⟨g35, h⟩ := h
  refine gw_sI dX12_init_105 g35 (fun σ36 e36 => ?_)
  replace h := h σ36 e36
  refine gw_dup dX12_init_106 ?_
  refine gw_bipush (v := 14) dX12_init_107 bp_14 ?_
  refine gw_sipush (v := 707) dX12_init_109 sp_707 ?_
  obtain ⟨g37, h⟩ := h
  refine gw_sI dX12_init_112 g37 (fun σ38 e38 => ?_)
  replace h := h σ38 e38
  refine gw_dup dX12_init_113 ?_
  refine gw_bipush (v := 15) dX12_init_114 bp_15 ?_
  refine gw_sipush (v := 924) dX12_init_116 sp_924 ?_
  obtain ⟨g39, h⟩ := h
  refine gw_sI dX12_init_119 g39 (fun σ40 e40 => ?_)
  replace h := h σ40 e40
  obtain ⟨z41, h⟩ := h
  refine gw_pRF fX12_15 (Or.inr ⟨_, rfl⟩) rfl rfl (fun C T N hc => by cases hc; exact xfX12_15) dX12_init_120 z41 ((((((((((((((((((g4.up (n_w2 e6)).up (n_nw e8)).up (n_w1 e10)).up (n_w1 e12)).up (n_w1 e14)).up (n_w1 e16)).up (n_w1 e18)).up (n_w1 e20)).up (n_w1 e22)).up (n_w1 e24)).up (n_w1 e26)).up (n_w1 e28)).up (n_w1 e30)).up (n_w1 e32)).up (n_w1 e34)).up (n_w1 e36)).up (n_w1 e38)).up (n_w1 e40)) (fun σ42 e42 => ?_)
  replace h := h σ42 e42
  refine gw_aload_n (q := 0) dX12_init_123 rfl rfl ?_
  refine gw_iconst (v := 2) dX12_init_124 ic_2 ?_
  obtain ⟨g43, g44, h⟩ := h
  refine gw_newi (N := 2) ac_int dX12_init_125 g43 (by decide) (by decide) (by decide) (by decide) (by decide) g44 (fun x44 σ44 ex44 e44 => ?_)
  replace h := h x44 σ44 ex44 e44
  obtain ⟨z45, h⟩ := h
  refine gw_pRF fX12_18 (Or.inr ⟨_, rfl⟩) rfl rfl (fun C T N hc => by cases hc; exact xfX12_18) dX12_init_127 z45 ((((((((((((((((((((g4.up (n_w2 e6)).up (n_nw e8)).up (n_w1 e10)).up (n_w1 e12)).up (n_w1 e14)).up (n_w1 e16)).up (n_w1 e18)).up (n_w1 e20)).up (n_w1 e22)).up (n_w1 e24)).up (n_w1 e26)).up (n_w1 e28)).up (n_w1 e30)).up (n_w1 e32)).up (n_w1 e34)).up (n_w1 e36)).up (n_w1 e38)).up (n_w1 e40)).up (n_w2 e42)).up (n_nw e44)) (fun σ46 e46 => ?_)
  replace h := h σ46 e46
  refine gw_aload_n (q := 0) dX12_init_130 rfl rfl ?_
  refine gw_iconst (v := 2) dX12_init_131 ic_2 ?_
  obtain ⟨g47, g48, h⟩ := h
  refine gw_newi (N := 2) ac_int dX12_init_132 g47 (by decide) (by decide) (by decide) (by decide) (by decide) g48 (fun x48 σ48 ex48 e48 => ?_)
  replace h := h x48 σ48 ex48 e48
  obtain ⟨z49, h⟩ := h
  refine gw_pRF fX12_21 (Or.inr ⟨_, rfl⟩) rfl rfl (fun C T N hc => by cases hc; exact xfX12_21) dX12_init_134 z49 ((((((((((((((((((((((g4.up (n_w2 e6)).up (n_nw e8)).up (n_w1 e10)).up (n_w1 e12)).up (n_w1 e14)).up (n_w1 e16)).up (n_w1 e18)).up (n_w1 e20)).up (n_w1 e22)).up (n_w1 e24)).up (n_w1 e26)).up (n_w1 e28)).up (n_w1 e30)).up (n_w1 e32)).up (n_w1 e34)).up (n_w1 e36)).up (n_w1 e38)).up (n_w1 e40)).up (n_w2 e42)).up (n_nw e44)).up (n_w2 e46)).up (n_nw e48)) (fun σ50 e50 => ?_)
  replace h := h σ50 e50
  refine gw_aload_n (q := 0) dX12_init_137 rfl rfl ?_
  refine gw_iconst (v := 2) dX12_init_138 ic_2 ?_
  obtain ⟨g51, g52, h⟩ := h
  refine gw_newi (N := 2) ac_int dX12_init_139 g51 (by decide) (by decide) (by decide) (by decide) (by decide) g52 (fun x52 σ52 ex52 e52 => ?_)
  replace h := h x52 σ52 ex52 e52
  obtain ⟨z53, h⟩ := h
  refine gw_pRF fX12_24 (Or.inr ⟨_, rfl⟩) rfl rfl (fun C T N hc => by cases hc; exact xfX12_24) dX12_init_141 z53 ((((((((((((((((((((((((g4.up (n_w2 e6)).up (n_nw e8)).up (n_w1 e10)).up (n_w1 e12)).up (n_w1 e14)).up (n_w1 e16)).up (n_w1 e18)).up (n_w1 e20)).up (n_w1 e22)).up (n_w1 e24)).up (n_w1 e26)).up (n_w1 e28)).up (n_w1 e30)).up (n_w1 e32)).up (n_w1 e34)).up (n_w1 e36)).up (n_w1 e38)).up (n_w1 e40)).up (n_w2 e42)).up (n_nw e44)).up (n_w2 e46)).up (n_nw e48)).up (n_w2 e50)).up (n_nw e52)) (fun σ54 e54 => ?_)
  replace h := h σ54 e54
  refine gw_aload_n (q := 0) dX12_init_144 rfl rfl ?_
  refine gw_bipush (v := 6) dX12_init_145 bp_6 ?_
  obtain ⟨g55, g56, h⟩ := h
  refine gw_newi (N := 6) ac_int dX12_init_147 g55 (by decide) (by decide) (by decide) (by decide) (by decide) g56 (fun x56 σ56 ex56 e56 => ?_)
  replace h := h x56 σ56 ex56 e56
  obtain ⟨z57, h⟩ := h
  refine gw_pRF fX12_27 (Or.inr ⟨_, rfl⟩) rfl rfl (fun C T N hc => by cases hc; exact xfX12_27) dX12_init_149 z57 ((((((((((((((((((((((((((g4.up (n_w2 e6)).up (n_nw e8)).up (n_w1 e10)).up (n_w1 e12)).up (n_w1 e14)).up (n_w1 e16)).up (n_w1 e18)).up (n_w1 e20)).up (n_w1 e22)).up (n_w1 e24)).up (n_w1 e26)).up (n_w1 e28)).up (n_w1 e30)).up (n_w1 e32)).up (n_w1 e34)).up (n_w1 e36)).up (n_w1 e38)).up (n_w1 e40)).up (n_w2 e42)).up (n_nw e44)).up (n_w2 e46)).up (n_nw e48)).up (n_w2 e50)).up (n_nw e52)).up (n_w2 e54)).up (n_nw e56)) (fun σ58 e58 => ?_)
  replace h := h σ58 e58
  refine gw_aload_n (q := 0) dX12_init_152 rfl rfl ?_
  refine gw_bipush (v := 6) dX12_init_153 bp_6 ?_
  obtain ⟨g59, g60, h⟩ := h
  refine gw_newi (N := 6) ac_int dX12_init_155 g59 (by decide) (by decide) (by decide) (by decide) (by decide) g60 (fun x60 σ60 ex60 e60 => ?_)
  replace h := h x60 σ60 ex60 e60
  obtain ⟨z61, h⟩ := h
  refine gw_pRF fX12_30 (Or.inr ⟨_, rfl⟩) rfl rfl (fun C T N hc => by cases hc; exact xfX12_30) dX12_init_157 z61 ((((((((((((((((((((((((((((g4.up (n_w2 e6)).up (n_nw e8)).up (n_w1 e10)).up (n_w1 e12)).up (n_w1 e14)).up (n_w1 e16)).up (n_w1 e18)).up (n_w1 e20)).up (n_w1 e22)).up (n_w1 e24)).up (n_w1 e26)).up (n_w1 e28)).up (n_w1 e30)).up (n_w1 e32)).up (n_w1 e34)).up (n_w1 e36)).up (n_w1 e38)).up (n_w1 e40)).up (n_w2 e42)).up (n_nw e44)).up (n_w2 e46)).up (n_nw e48)).up (n_w2 e50)).up (n_nw e52)).up (n_w2 e54)).up (n_nw e56)).up (n_w2 e58)).up (n_nw e60)) (fun σ62 e62 => ?_)
  replace h := h σ62 e62
  refine gw_aload_n (q := 0) dX12_init_160 rfl rfl ?_
  refine gw_bipush (v := 6) dX12_init_161 bp_6 ?_
  obtain ⟨g63, g64, h⟩ := h
  refine gw_newi (N := 6) ac_int dX12_init_163 g63 (by decide) (by decide) (by decide) (by decide) (by decide) g64 (fun x64 σ64 ex64 e64 => ?_)
  replace h := h x64 σ64 ex64 e64
  obtain ⟨z65, h⟩ := h
  refine gw_pRF fX12_33 (Or.inr ⟨_, rfl⟩) rfl rfl (fun C T N hc => by cases hc; exact xfX12_33) dX12_init_165 z65 ((((((((((((((((((((((((((((((g4.up (n_w2 e6)).up (n_nw e8)).up (n_w1 e10)).up (n_w1 e12)).up (n_w1 e14)).up (n_w1 e16)).up (n_w1 e18)).up (n_w1 e20)).up (n_w1 e22)).up (n_w1 e24)).up (n_w1 e26)).up (n_w1 e28)).up (n_w1 e30)).up (n_w1 e32)).up (n_w1 e34)).up (n_w1 e36)).up (n_w1 e38)).up (n_w1 e40)).up (n_w2 e42)).up (n_nw e44)).up (n_w2 e46)).up (n_nw e48)).up (n_w2 e50)).up (n_nw e52)).up (n_w2 e54)).up (n_nw e56)).up (n_w2 e58)).up (n_nw e60)).up (n_w2 e62)).up (n_nw e64)) (fun σ66 e66 => ?_)
  replace h := h σ66 e66
  refine gw_aload_n (q := 0) dX12_init_168 rfl rfl ?_
  refine gw_bipush (v := 6) dX12_init_169 bp_6 ?_
  obtain ⟨g67, g68, h⟩ := h
  refine gw_newi (N := 6) ac_int dX12_init_171 g67 (by decide) (by decide) (by decide) (by decide) (by decide) g68 (fun x68 σ68 ex68 e68 => ?_)
  replace h := h x68 σ68 ex68 e68
  obtain ⟨z69, h⟩ := h
  refine gw_pRF fX12_36 (Or.inr ⟨_, rfl⟩) rfl rfl (fun C T N hc => by cases hc; exact xfX12_36) dX12_init_173 z69 ((((((((((((((((((((((((((((((((g4.up (n_w2 e6)).up (n_nw e8)).up (n_w1 e10)).up (n_w1 e12)).up (n_w1 e14)).up (n_w1 e16)).up (n_w1 e18)).up (n_w1 e20)).up (n_w1 e22)).up (n_w1 e24)).up (n_w1 e26)).up (n_w1 e28)).up (n_w1 e30)).up (n_w1 e32)).up (n_w1 e34)).up (n_w1 e36)).up (n_w1 e38)).up (n_w1 e40)).up (n_w2 e42)).up (n_nw e44)).up (n_w2 e46)).up (n_nw e48)).up (n_w2 e50)).up (n_nw e52)).up (n_w2 e54)).up (n_nw e56)).up (n_w2 e58)).up (n_nw e60)).up (n_w2 e62)).up (n_nw e64)).up (n_w2 e66)).up (n_nw e68)) (fun σ70 e70 => ?_)
  replace h := h σ70 e70
  refine gw_aload_n (q := 0) dX12_init_176 rfl rfl ?_
  refine gw_iconst (v := 2) dX12_init_177 ic_2 ?_
  obtain ⟨g71, g72, h⟩ := h
  refine gw_newi (N := 2) ac_int dX12_init_178 g71 (by decide) (by decide) (by decide) (by decide) (by decide) g72 (fun x72 σ72 ex72 e72 => ?_)
  replace h := h x72 σ72 ex72 e72
  obtain ⟨z73, h⟩ := h
  refine gw_pRF fX12_39 (Or.inr ⟨_, rfl⟩) rfl rfl (fun C T N hc => by cases hc; exact xfX12_39) dX12_init_180 z73 ((((((((((((((((((((((((((((((((((g4.up (n_w2 e6)).up (n_nw e8)).up (n_w1 e10)).up (n_w1 e12)).up (n_w1 e14)).up (n_w1 e16)).up (n_w1 e18)).up (n_w1 e20)).up (n_w1 e22)).up (n_w1 e24)).up (n_w1 e26)).up (n_w1 e28)).up (n_w1 e30)).up (n_w1 e32)).up (n_w1 e34)).up (n_w1 e36)).up (n_w1 e38)).up (n_w1 e40)).up (n_w2 e42)).up (n_nw e44)).up (n_w2 e46)).up (n_nw e48)).up (n_w2 e50)).up (n_nw e52)).up (n_w2 e54)).up (n_nw e56)).up (n_w2 e58)).up (n_nw e60)).up (n_w2 e62)).up (n_nw e64)).up (n_w2 e66)).up (n_nw e68)).up (n_w2 e70)).up (n_nw e72)) (fun σ74 e74 => ?_)
  replace h := h σ74 e74
  refine gw_aload_n (q := 0) dX12_init_183 rfl rfl ?_
  refine gw_iconst (v := 2) dX12_init_184 ic_2 ?_
  obtain ⟨g75, g76, h⟩ := h
  refine gw_newi (N := 2) ac_int dX12_init_185 g75 (by decide) (by decide) (by decide) (by decide) (by decide) g76 (fun x76 σ76 ex76 e76 => ?_)
  replace h := h x76 σ76 ex76 e76
  obtain ⟨z77, h⟩ := h
  refine gw_pRF fX12_42 (Or.inr ⟨_, rfl⟩) rfl rfl (fun C T N hc => by cases hc; exact xfX12_42) dX12_init_187 z77 ((((((((((((((((((((((((((((((((((((g4.up (n_w2 e6)).up (n_nw e8)).up (n_w1 e10)).up (n_w1 e12)).up (n_w1 e14)).up (n_w1 e16)).up (n_w1 e18)).up (n_w1 e20)).up (n_w1 e22)).up (n_w1 e24)).up (n_w1 e26)).up (n_w1 e28)).up (n_w1 e30)).up (n_w1 e32)).up (n_w1 e34)).up (n_w1 e36)).up (n_w1 e38)).up (n_w1 e40)).up (n_w2 e42)).up (n_nw e44)).up (n_w2 e46)).up (n_nw e48)).up (n_w2 e50)).up (n_nw e52)).up (n_w2 e54)).up (n_nw e56)).up (n_w2 e58)).up (n_nw e60)).up (n_w2 e62)).up (n_nw e64)).up (n_w2 e66)).up (n_nw e68)).up (n_w2 e70)).up (n_nw e72)).up (n_w2 e74)).up (n_nw e76)) (fun σ78 e78 => ?_)
  replace h := h σ78 e78
  refine gw_aload_n (q := 0) dX12_init_190 rfl rfl ?_
  refine gw_iconst (v := 2) dX12_init_191 ic_2 ?_
  obtain ⟨g79, g80, h⟩ := h
  refine gw_newi (N := 2) ac_int dX12_init_192 g79 (by decide) (by decide) (by decide) (by decide) (by decide) g80 (fun x80 σ80 ex80 e80 => ?_)
  replace h := h x80 σ80 ex80 e80
  obtain ⟨z81, h⟩ := h
  refine gw_pRF fX12_45 (Or.inr ⟨_, rfl⟩) rfl rfl (fun C T N hc => by cases hc; exact xfX12_45) dX12_init_194 z81 ((((((((((((((((((((((((((((((((((((((g4.up (n_w2 e6)).up (n_nw e8)).up (n_w1 e10)).up (n_w1 e12)).up (n_w1 e14)).up (n_w1 e16)).up (n_w1 e18)).up (n_w1 e20)).up (n_w1 e22)).up (n_w1 e24)).up (n_w1 e26)).up (n_w1 e28)).up (n_w1 e30)).up (n_w1 e32)).up (n_w1 e34)).up (n_w1 e36)).up (n_w1 e38)).up (n_w1 e40)).up (n_w2 e42)).up (n_nw e44)).up (n_w2 e46)).up (n_nw e48)).up (n_w2 e50)).up (n_nw e52)).up (n_w2 e54)).up (n_nw e56)).up (n_w2 e58)).up (n_nw e60)).up (n_w2 e62)).up (n_nw e64)).up (n_w2 e66)).up (n_nw e68)).up (n_w2 e70)).up (n_nw e72)).up (n_w2 e74)).up (n_nw e76)).up (n_w2 e78)).up (n_nw e80)) (fun σ82 e82 => ?_)
  replace h := h σ82 e82
  refine gw_aload_n (q := 0) dX12_init_197 rfl rfl ?_
  refine gw_iconst (v := 2) dX12_init_198 ic_2 ?_
  obtain ⟨g83, g84, h⟩ := h
  refine gw_newi (N := 2) ac_int dX12_init_199 g83 (by decide) (by decide) (by decide) (by decide) (by decide) g84 (fun x84 σ84 ex84 e84 => ?_)
  replace h := h x84 σ84 ex84 e84
  obtain ⟨z85, h⟩ := h
  refine gw_pRF fX12_48 (Or.inr ⟨_, rfl⟩) rfl rfl (fun C T N hc => by cases hc; exact xfX12_48) dX12_init_201 z85 ((((((((((((((((((((((((((((((((((((((((g4.up (n_w2 e6)).up (n_nw e8)).up (n_w1 e10)).up (n_w1 e12)).up (n_w1 e14)).up (n_w1 e16)).up (n_w1 e18)).up (n_w1 e20)).up (n_w1 e22)).up (n_w1 e24)).up (n_w1 e26)).up (n_w1 e28)).up (n_w1 e30)).up (n_w1 e32)).up (n_w1 e34)).up (n_w1 e36)).up (n_w1 e38)).up (n_w1 e40)).up (n_w2 e42)).up (n_nw e44)).up (n_w2 e46)).up (n_nw e48)).up (n_w2 e50)).up (n_nw e52)).up (n_w2 e54)).up (n_nw e56)).up (n_w2 e58)).up (n_nw e60)).up (n_w2 e62)).up (n_nw e64)).up (n_w2 e66)).up (n_nw e68)).up (n_w2 e70)).up (n_nw e72)).up (n_w2 e74)).up (n_nw e76)).up (n_w2 e78)).up (n_nw e80)).up (n_w2 e82)).up (n_nw e84)) (fun σ86 e86 => ?_)
  replace h := h σ86 e86
  refine gw_aload_n (q := 0) dX12_init_204 rfl rfl ?_
  refine gw_bipush (v := 11) dX12_init_205 bp_11 ?_
  obtain ⟨g87, g88, h⟩ := h
  refine gw_newi (N := 11) ac_int dX12_init_207 g87 (by decide) (by decide) (by decide) (by decide) (by decide) g88 (fun x88 σ88 ex88 e88 => ?_)
  replace h := h x88 σ88 ex88 e88
  obtain ⟨z89, h⟩ := h
  refine gw_pRF fX12_51 (Or.inr ⟨_, rfl⟩) rfl rfl (fun C T N hc => by cases hc; exact xfX12_51) dX12_init_209 z89 ((((((((((((((((((((((((((((((((((((((((((g4.up (n_w2 e6)).up (n_nw e8)).up (n_w1 e10)).up (n_w1 e12)).up (n_w1 e14)).up (n_w1 e16)).up (n_w1 e18)).up (n_w1 e20)).up (n_w1 e22)).up (n_w1 e24)).up (n_w1 e26)).up (n_w1 e28)).up (n_w1 e30)).up (n_w1 e32)).up (n_w1 e34)).up (n_w1 e36)).up (n_w1 e38)).up (n_w1 e40)).up (n_w2 e42)).up (n_nw e44)).up (n_w2 e46)).up (n_nw e48)).up (n_w2 e50)).up (n_nw e52)).up (n_w2 e54)).up (n_nw e56)).up (n_w2 e58)).up (n_nw e60)).up (n_w2 e62)).up (n_nw e64)).up (n_w2 e66)).up (n_nw e68)).up (n_w2 e70)).up (n_nw e72)).up (n_w2 e74)).up (n_nw e76)).up (n_w2 e78)).up (n_nw e80)).up (n_w2 e82)).up (n_nw e84)).up (n_w2 e86)).up (n_nw e88)) (fun σ90 e90 => ?_)
  replace h := h σ90 e90
  refine gw_aload_n (q := 0) dX12_init_212 rfl rfl ?_
  refine gw_bipush (v := 11) dX12_init_213 bp_11 ?_
  obtain ⟨g91, g92, h⟩ := h
  refine gw_newi (N := 11) ac_int dX12_init_215 g91 (by decide) (by decide) (by decide) (by decide) (by decide) g92 (fun x92 σ92 ex92 e92 => ?_)
  replace h := h x92 σ92 ex92 e92
  obtain ⟨z93, h⟩ := h
  refine gw_pRF fX12_54 (Or.inr ⟨_, rfl⟩) rfl rfl (fun C T N hc => by cases hc; exact xfX12_54) dX12_init_217 z93 ((((((((((((((((((((((((((((((((((((((((((((g4.up (n_w2 e6)).up (n_nw e8)).up (n_w1 e10)).up (n_w1 e12)).up (n_w1 e14)).up (n_w1 e16)).up (n_w1 e18)).up (n_w1 e20)).up (n_w1 e22)).up (n_w1 e24)).up (n_w1 e26)).up (n_w1 e28)).up (n_w1 e30)).up (n_w1 e32)).up (n_w1 e34)).up (n_w1 e36)).up (n_w1 e38)).up (n_w1 e40)).up (n_w2 e42)).up (n_nw e44)).up (n_w2 e46)).up (n_nw e48)).up (n_w2 e50)).up (n_nw e52)).up (n_w2 e54)).up (n_nw e56)).up (n_w2 e58)).up (n_nw e60)).up (n_w2 e62)).up (n_nw e64)).up (n_w2 e66)).up (n_nw e68)).up (n_w2 e70)).up (n_nw e72)).up (n_w2 e74)).up (n_nw e76)).up (n_w2 e78)).up (n_nw e80)).up (n_w2 e82)).up (n_nw e84)).up (n_w2 e86)).up (n_nw e88)).up (n_w2 e90)).up (n_nw e92)) (fun σ94 e94 => ?_)
  replace h := h σ94 e94
  refine gw_aload_n (q := 0) dX12_init_220 rfl rfl ?_
  refine gw_sipush (v := 440) dX12_init_221 sp_440 ?_
  obtain ⟨g95, g96, h⟩ := h
  refine gw_newi (N := 440) ac_int dX12_init_224 g95 (by decide) (by decide) (by decide) (by decide) (by decide) g96 (fun x96 σ96 ex96 e96 => ?_)
  replace h := h x96 σ96 ex96 e96
  obtain ⟨z97, h⟩ := h
  refine gw_pRF fX12_57 (Or.inr ⟨_, rfl⟩) rfl rfl (fun C T N hc => by cases hc; exact xfX12_57) dX12_init_226 z97 ((((((((((((((((((((((((((((((((((((((((((((((g4.up (n_w2 e6)).up (n_nw e8)).up (n_w1 e10)).up (n_w1 e12)).up (n_w1 e14)).up (n_w1 e16)).up (n_w1 e18)).up (n_w1 e20)).up (n_w1 e22)).up (n_w1 e24)).up (n_w1 e26)).up (n_w1 e28)).up (n_w1 e30)).up (n_w1 e32)).up (n_w1 e34)).up (n_w1 e36)).up (n_w1 e38)).up (n_w1 e40)).up (n_w2 e42)).up (n_nw e44)).up (n_w2 e46)).up (n_nw e48)).up (n_w2 e50)).up (n_nw e52)).up (n_w2 e54)).up (n_nw e56)).up (n_w2 e58)).up (n_nw e60)).up (n_w2 e62)).up (n_nw e64)).up (n_w2 e66)).up (n_nw e68)).up (n_w2 e70)).up (n_nw e72)).up (n_w2 e74)).up (n_nw e76)).up (n_w2 e78)).up (n_nw e80)).up (n_w2 e82)).up (n_nw e84)).up (n_w2 e86)).up (n_nw e88)).up (n_w2 e90)).up (n_nw e92)).up (n_w2 e94)).up (n_nw e96)) (fun σ98 e98 => ?_)
  replace h := h σ98 e98
  refine gw_aload_n (q := 0) dX12_init_229 rfl rfl ?_
  refine gw_sipush (v := 440) dX12_init_230 sp_440 ?_
  obtain ⟨g99, g100, h⟩ := h
  refine gw_newi (N := 440) ac_int dX12_init_233 g99 (by decide) (by decide) (by decide) (by decide) (by decide) g100 (fun x100 σ100 ex100 e100 => ?_)
  replace h := h x100 σ100 ex100 e100
  obtain ⟨z101, h⟩ := h
  refine gw_pRF fX12_60 (Or.inr ⟨_, rfl⟩) rfl rfl (fun C T N hc => by cases hc; exact xfX12_60) dX12_init_235 z101 ((((((((((((((((((((((((((((((((((((((((((((((((g4.up (n_w2 e6)).up (n_nw e8)).up (n_w1 e10)).up (n_w1 e12)).up (n_w1 e14)).up (n_w1 e16)).up (n_w1 e18)).up (n_w1 e20)).up (n_w1 e22)).up (n_w1 e24)).up (n_w1 e26)).up (n_w1 e28)).up (n_w1 e30)).up (n_w1 e32)).up (n_w1 e34)).up (n_w1 e36)).up (n_w1 e38)).up (n_w1 e40)).up (n_w2 e42)).up (n_nw e44)).up (n_w2 e46)).up (n_nw e48)).up (n_w2 e50)).up (n_nw e52)).up (n_w2 e54)).up (n_nw e56)).up (n_w2 e58)).up (n_nw e60)).up (n_w2 e62)).up (n_nw e64)).up (n_w2 e66)).up (n_nw e68)).up (n_w2 e70)).up (n_nw e72)).up (n_w2 e74)).up (n_nw e76)).up (n_w2 e78)).up (n_nw e80)).up (n_w2 e82)).up (n_nw e84)).up (n_w2 e86)).up (n_nw e88)).up (n_w2 e90)).up (n_nw e92)).up (n_w2 e94)).up (n_nw e96)).up (n_w2 e98)).up (n_nw e100)) (fun σ102 e102 => ?_)
  replace h := h σ102 e102
  refine gw_aload_n (q := 0) dX12_init_238 rfl rfl ?_
  refine gw_iconst (v := (-1)) dX12_init_239 ic_m1 ?_
  refine gw_pI fX12_63 dX12_init_240 (((((((((((((((((((((((((((((((((((((((((((((((((g4.up (n_w2 e6)).up (n_nw e8)).up (n_w1 e10)).up (n_w1 e12)).up (n_w1 e14)).up (n_w1 e16)).up (n_w1 e18)).up (n_w1 e20)).up (n_w1 e22)).up (n_w1 e24)).up (n_w1 e26)).up (n_w1 e28)).up (n_w1 e30)).up (n_w1 e32)).up (n_w1 e34)).up (n_w1 e36)).up (n_w1 e38)).up (n_w1 e40)).up (n_w2 e42)).up (n_nw e44)).up (n_w2 e46)).up (n_nw e48)).up (n_w2 e50)).up (n_nw e52)).up (n_w2 e54)).up (n_nw e56)).up (n_w2 e58)).up (n_nw e60)).up (n_w2 e62)).up (n_nw e64)).up (n_w2 e66)).up (n_nw e68)).up (n_w2 e70)).up (n_nw e72)).up (n_w2 e74)).up (n_nw e76)).up (n_w2 e78)).up (n_nw e80)).up (n_w2 e82)).up (n_nw e84)).up (n_w2 e86)).up (n_nw e88)).up (n_w2 e90)).up (n_nw e92)).up (n_w2 e94)).up (n_nw e96)).up (n_w2 e98)).up (n_nw e100)).up (n_w2 e102)) (fun σ103 e103 => ?_)
  replace h := h σ103 e103
  refine gw_aload_n (q := 0) dX12_init_243 rfl rfl ?_
  refine gw_bipush (v := 41) dX12_init_244 bp_41 ?_
  obtain ⟨g104, g105, h⟩ := h
  refine gw_newi (N := 41) ac_int dX12_init_246 g104 (by decide) (by decide) (by decide) (by decide) (by decide) g105 (fun x105 σ105 ex105 e105 => ?_)
  replace h := h x105 σ105 ex105 e105
  obtain ⟨z106, h⟩ := h
  refine gw_pRF fX12_67 (Or.inr ⟨_, rfl⟩) rfl rfl (fun C T N hc => by cases hc; exact xfX12_67) dX12_init_248 z106 (((((((((((((((((((((((((((((((((((((((((((((((((((g4.up (n_w2 e6)).up (n_nw e8)).up (n_w1 e10)).up (n_w1 e12)).up (n_w1 e14)).up (n_w1 e16)).up (n_w1 e18)).up (n_w1 e20)).up (n_w1 e22)).up (n_w1 e24)).up (n_w1 e26)).up (n_w1 e28)).up (n_w1 e30)).up (n_w1 e32)).up (n_w1 e34)).up (n_w1 e36)).up (n_w1 e38)).up (n_w1 e40)).up (n_w2 e42)).up (n_nw e44)).up (n_w2 e46)).up (n_nw e48)).up (n_w2 e50)).up (n_nw e52)).up (n_w2 e54)).up (n_nw e56)).up (n_w2 e58)).up (n_nw e60)).up (n_w2 e62)).up (n_nw e64)).up (n_w2 e66)).up (n_nw e68)).up (n_w2 e70)).up (n_nw e72)).up (n_w2 e74)).up (n_nw e76)).up (n_w2 e78)).up (n_nw e80)).up (n_w2 e82)).up (n_nw e84)).up (n_w2 e86)).up (n_nw e88)).up (n_w2 e90)).up (n_nw e92)).up (n_w2 e94)).up (n_nw e96)).up (n_w2 e98)).up (n_nw e100)).up (n_w2 e102)).up (n_w1 e103)).up (n_nw e105)) (fun σ107 e107 => ?_)
  replace h := h σ107 e107
  refine gw_aload_n (q := 0) dX12_init_251 rfl rfl ?_
  refine gw_bipush (v := 41) dX12_init_252 bp_41 ?_
  obtain ⟨g108, g109, h⟩ := h
  refine gw_newi (N := 41) ac_int dX12_init_254 g108 (by decide) (by decide) (by decide) (by decide) (by decide) g109 (fun x109 σ109 ex109 e109 => ?_)
  replace h := h x109 σ109 ex109 e109
  obtain ⟨z110, h⟩ := h
  refine gw_pRF fX12_70 (Or.inr ⟨_, rfl⟩) rfl rfl (fun C T N hc => by cases hc; exact xfX12_70) dX12_init_256 z110 (((((((((((((((((((((((((((((((((((((((((((((((((((((g4.up (n_w2 e6)).up (n_nw e8)).up (n_w1 e10)).up (n_w1 e12)).up (n_w1 e14)).up (n_w1 e16)).up (n_w1 e18)).up (n_w1 e20)).up (n_w1 e22)).up (n_w1 e24)).up (n_w1 e26)).up (n_w1 e28)).up (n_w1 e30)).up (n_w1 e32)).up (n_w1 e34)).up (n_w1 e36)).up (n_w1 e38)).up (n_w1 e40)).up (n_w2 e42)).up (n_nw e44)).up (n_w2 e46)).up (n_nw e48)).up (n_w2 e50)).up (n_nw e52)).up (n_w2 e54)).up (n_nw e56)).up (n_w2 e58)).up (n_nw e60)).up (n_w2 e62)).up (n_nw e64)).up (n_w2 e66)).up (n_nw e68)).up (n_w2 e70)).up (n_nw e72)).up (n_w2 e74)).up (n_nw e76)).up (n_w2 e78)).up (n_nw e80)).up (n_w2 e82)).up (n_nw e84)).up (n_w2 e86)).up (n_nw e88)).up (n_w2 e90)).up (n_nw e92)).up (n_w2 e94)).up (n_nw e96)).up (n_w2 e98)).up (n_nw e100)).up (n_w2 e102)).up (n_w1 e103)).up (n_nw e105)).up (n_w2 e107)).up (n_nw e109)) (fun σ111 e111 => ?_)
  replace h := h σ111 e111
  refine gw_aload_n (q := 0) dX12_init_259 rfl rfl ?_
  refine gw_bipush (v := 41) dX12_init_260 bp_41 ?_
  obtain ⟨g112, g113, h⟩ := h
  refine gw_newi (N := 41) ac_int dX12_init_262 g112 (by decide) (by decide) (by decide) (by decide) (by decide) g113 (fun x113 σ113 ex113 e113 => ?_)
  replace h := h x113 σ113 ex113 e113
  obtain ⟨z114, h⟩ := h
  refine gw_pRF fX12_73 (Or.inr ⟨_, rfl⟩) rfl rfl (fun C T N hc => by cases hc; exact xfX12_73) dX12_init_264 z114 (((((((((((((((((((((((((((((((((((((((((((((((((((((((g4.up (n_w2 e6)).up (n_nw e8)).up (n_w1 e10)).up (n_w1 e12)).up (n_w1 e14)).up (n_w1 e16)).up (n_w1 e18)).up (n_w1 e20)).up (n_w1 e22)).up (n_w1 e24)).up (n_w1 e26)).up (n_w1 e28)).up (n_w1 e30)).up (n_w1 e32)).up (n_w1 e34)).up (n_w1 e36)).up (n_w1 e38)).up (n_w1 e40)).up (n_w2 e42)).up (n_nw e44)).up (n_w2 e46)).up (n_nw e48)).up (n_w2 e50)).up (n_nw e52)).up (n_w2 e54)).up (n_nw e56)).up (n_w2 e58)).up (n_nw e60)).up (n_w2 e62)).up (n_nw e64)).up (n_w2 e66)).up (n_nw e68)).up (n_w2 e70)).up (n_nw e72)).up (n_w2 e74)).up (n_nw e76)).up (n_w2 e78)).up (n_nw e80)).up (n_w2 e82)).up (n_nw e84)).up (n_w2 e86)).up (n_nw e88)).up (n_w2 e90)).up (n_nw e92)).up (n_w2 e94)).up (n_nw e96)).up (n_w2 e98)).up (n_nw e100)).up (n_w2 e102)).up (n_w1 e103)).up (n_nw e105)).up (n_w2 e107)).up (n_nw e109)).up (n_w2 e111)).up (n_nw e113)) (fun σ115 e115 => ?_)
  replace h := h σ115 e115
  refine gw_aload_n (q := 0) dX12_init_267 rfl rfl ?_
  refine gw_bipush (v := 41) dX12_init_268 bp_41 ?_
  obtain ⟨g116, g117, h⟩ := h
  refine gw_newi (N := 41) ac_int dX12_init_270 g116 (by decide) (by decide) (by decide) (by decide) (by decide) g117 (fun x117 σ117 ex117 e117 => ?_)
  replace h := h x117 σ117 ex117 e117
  obtain ⟨z118, h⟩ := h
  refine gw_pRF fX12_76 (Or.inr ⟨_, rfl⟩) rfl rfl (fun C T N hc => by cases hc; exact xfX12_76) dX12_init_272 z118 (((((((((((((((((((((((((((((((((((((((((((((((((((((((((g4.up (n_w2 e6)).up (n_nw e8)).up (n_w1 e10)).up (n_w1 e12)).up (n_w1 e14)).up (n_w1 e16)).up (n_w1 e18)).up (n_w1 e20)).up (n_w1 e22)).up (n_w1 e24)).up (n_w1 e26)).up (n_w1 e28)).up (n_w1 e30)).up (n_w1 e32)).up (n_w1 e34)).up (n_w1 e36)).up (n_w1 e38)).up (n_w1 e40)).up (n_w2 e42)).up (n_nw e44)).up (n_w2 e46)).up (n_nw e48)).up (n_w2 e50)).up (n_nw e52)).up (n_w2 e54)).up (n_nw e56)).up (n_w2 e58)).up (n_nw e60)).up (n_w2 e62)).up (n_nw e64)).up (n_w2 e66)).up (n_nw e68)).up (n_w2 e70)).up (n_nw e72)).up (n_w2 e74)).up (n_nw e76)).up (n_w2 e78)).up (n_nw e80)).up (n_w2 e82)).up (n_nw e84)).up (n_w2 e86)).up (n_nw e88)).up (n_w2 e90)).up (n_nw e92)).up (n_w2 e94)).up (n_nw e96)).up (n_w2 e98)).up (n_nw e100)).up (n_w2 e102)).up (n_w1 e103)).up (n_nw e105)).up (n_w2 e107)).up (n_nw e109)).up (n_w2 e111)).up (n_nw e113)).up (n_w2 e115)).up (n_nw e117)) (fun σ119 e119 => ?_)
  replace h := h σ119 e119
  refine gw_aload_n (q := 0) dX12_init_275 rfl rfl ?_
  refine gw_sipush (v := 256) dX12_init_276 sp_256 ?_
  obtain ⟨g120, g121, h⟩ := h
  refine gw_newi (N := 256) ac_int dX12_init_279 g120 (by decide) (by decide) (by decide) (by decide) (by decide) g121 (fun x121 σ121 ex121 e121 => ?_)
  replace h := h x121 σ121 ex121 e121
  obtain ⟨z122, h⟩ := h
  refine gw_pRF fX12_79 (Or.inr ⟨_, rfl⟩) rfl rfl (fun C T N hc => by cases hc; exact xfX12_79) dX12_init_281 z122 (((((((((((((((((((((((((((((((((((((((((((((((((((((((((((g4.up (n_w2 e6)).up (n_nw e8)).up (n_w1 e10)).up (n_w1 e12)).up (n_w1 e14)).up (n_w1 e16)).up (n_w1 e18)).up (n_w1 e20)).up (n_w1 e22)).up (n_w1 e24)).up (n_w1 e26)).up (n_w1 e28)).up (n_w1 e30)).up (n_w1 e32)).up (n_w1 e34)).up (n_w1 e36)).up (n_w1 e38)).up (n_w1 e40)).up (n_w2 e42)).up (n_nw e44)).up (n_w2 e46)).up (n_nw e48)).up (n_w2 e50)).up (n_nw e52)).up (n_w2 e54)).up (n_nw e56)).up (n_w2 e58)).up (n_nw e60)).up (n_w2 e62)).up (n_nw e64)).up (n_w2 e66)).up (n_nw e68)).up (n_w2 e70)).up (n_nw e72)).up (n_w2 e74)).up (n_nw e76)).up (n_w2 e78)).up (n_nw e80)).up (n_w2 e82)).up (n_nw e84)).up (n_w2 e86)).up (n_nw e88)).up (n_w2 e90)).up (n_nw e92)).up (n_w2 e94)).up (n_nw e96)).up (n_w2 e98)).up (n_nw e100)).up (n_w2 e102)).up (n_w1 e103)).up (n_nw e105)).up (n_w2 e107)).up (n_nw e109)).up (n_w2 e111)).up (n_nw e113)).up (n_w2 e115)).up (n_nw e117)).up (n_w2 e119)).up (n_nw e121)) (fun σ123 e123 => ?_)
  replace h := h σ123 e123
  refine gw_aload_n (q := 0) dX12_init_284 rfl rfl ?_
  refine gw_bipush (v := 10) dX12_init_285 bp_10 ?_
  refine gw_pI fX12_82 dX12_init_287 ((((((((((((((((((((((((((((((((((((((((((((((((((((((((((((g4.up (n_w2 e6)).up (n_nw e8)).up (n_w1 e10)).up (n_w1 e12)).up (n_w1 e14)).up (n_w1 e16)).up (n_w1 e18)).up (n_w1 e20)).up (n_w1 e22)).up (n_w1 e24)).up (n_w1 e26)).up (n_w1 e28)).up (n_w1 e30)).up (n_w1 e32)).up (n_w1 e34)).up (n_w1 e36)).up (n_w1 e38)).up (n_w1 e40)).up (n_w2 e42)).up (n_nw e44)).up (n_w2 e46)).up (n_nw e48)).up (n_w2 e50)).up (n_nw e52)).up (n_w2 e54)).up (n_nw e56)).up (n_w2 e58)).up (n_nw e60)).up (n_w2 e62)).up (n_nw e64)).up (n_w2 e66)).up (n_nw e68)).up (n_w2 e70)).up (n_nw e72)).up (n_w2 e74)).up (n_nw e76)).up (n_w2 e78)).up (n_nw e80)).up (n_w2 e82)).up (n_nw e84)).up (n_w2 e86)).up (n_nw e88)).up (n_w2 e90)).up (n_nw e92)).up (n_w2 e94)).up (n_nw e96)).up (n_w2 e98)).up (n_nw e100)).up (n_w2 e102)).up (n_w1 e103)).up (n_nw e105)).up (n_w2 e107)).up (n_nw e109)).up (n_w2 e111)).up (n_nw e113)).up (n_w2 e115)).up (n_nw e117)).up (n_w2 e119)).up (n_nw e121)).up (n_w2 e123)) (fun σ124 e124 => ?_)
  replace h := h σ124 e124
  refine gw_aload_n (q := 0) dX12_init_290 rfl rfl ?_
  refine gw_iconst (v := (-1)) dX12_init_291 ic_m1 ?_
  refine gw_pI fX12_85 dX12_init_292 (((((((((((((((((((((((((((((((((((((((((((((((((((((((((((((g4.up (n_w2 e6)).up (n_nw e8)).up (n_w1 e10)).up (n_w1 e12)).up (n_w1 e14)).up (n_w1 e16)).up (n_w1 e18)).up (n_w1 e20)).up (n_w1 e22)).up (n_w1 e24)).up (n_w1 e26)).up (n_w1 e28)).up (n_w1 e30)).up (n_w1 e32)).up (n_w1 e34)).up (n_w1 e36)).up (n_w1 e38)).up (n_w1 e40)).up (n_w2 e42)).up (n_nw e44)).up (n_w2 e46)).up (n_nw e48)).up (n_w2 e50)).up (n_nw e52)).up (n_w2 e54)).up (n_nw e56)).up (n_w2 e58)).up (n_nw e60)).up (n_w2 e62)).up (n_nw e64)).up (n_w2 e66)).up (n_nw e68)).up (n_w2 e70)).up (n_nw e72)).up (n_w2 e74)).up (n_nw e76)).up (n_w2 e78)).up (n_nw e80)).up (n_w2 e82)).up (n_nw e84)).up (n_w2 e86)).up (n_nw e88)).up (n_w2 e90)).up (n_nw e92)).up (n_w2 e94)).up (n_nw e96)).up (n_w2 e98)).up (n_nw e100)).up (n_w2 e102)).up (n_w1 e103)).up (n_nw e105)).up (n_w2 e107)).up (n_nw e109)).up (n_w2 e111)).up (n_nw e113)).up (n_w2 e115)).up (n_nw e117)).up (n_w2 e119)).up (n_nw e121)).up (n_w2 e123)).up (n_w1 e124)) (fun σ125 e125 => ?_)
  replace h := h σ125 e125
  refine gw_aload_n (q := 0) dX12_init_295 rfl rfl ?_
  refine gw_iconst (v := (-1)) dX12_init_296 ic_m1 ?_
  refine gw_pI fX12_88 dX12_init_297 ((((((((((((((((((((((((((((((((((((((((((((((((((((((((((((((g4.up (n_w2 e6)).up (n_nw e8)).up (n_w1 e10)).up (n_w1 e12)).up (n_w1 e14)).up (n_w1 e16)).up (n_w1 e18)).up (n_w1 e20)).up (n_w1 e22)).up (n_w1 e24)).up (n_w1 e26)).up (n_w1 e28)).up (n_w1 e30)).up (n_w1 e32)).up (n_w1 e34)).up (n_w1 e36)).up (n_w1 e38)).up (n_w1 e40)).up (n_w2 e42)).up (n_nw e44)).up (n_w2 e46)).up (n_nw e48)).up (n_w2 e50)).up (n_nw e52)).up (n_w2 e54)).up (n_nw e56)).up (n_w2 e58)).up (n_nw e60)).up (n_w2 e62)).up (n_nw e64)).up (n_w2 e66)).up (n_nw e68)).up (n_w2 e70)).up (n_nw e72)).up (n_w2 e74)).up (n_nw e76)).up (n_w2 e78)).up (n_nw e80)).up (n_w2 e82)).up (n_nw e84)).up (n_w2 e86)).up (n_nw e88)).up (n_w2 e90)).up (n_nw e92)).up (n_w2 e94)).up (n_nw e96)).up (n_w2 e98)).up (n_nw e100)).up (n_w2 e102)).up (n_w1 e103)).up (n_nw e105)).up (n_w2 e107)).up (n_nw e109)).up (n_w2 e111)).up (n_nw e113)).up (n_w2 e115)).up (n_nw e117)).up (n_w2 e119)).up (n_nw e121)).up (n_w2 e123)).up (n_w1 e124)).up (n_w1 e125)) (fun σ126 e126 => ?_)
  replace h := h σ126 e126
  refine gw_aload_n (q := 0) dX12_init_300 rfl rfl ?_
  refine gw_ldc (v := 163840) kX12_91 dX12_init_301 ?_
  obtain ⟨g127, g128, h⟩ := h
  refine gw_newi (N := 163840) ac_int dX12_init_303 g127 (by decide) (by decide) (by decide) (by decide) (by decide) g128 (fun x128 σ128 ex128 e128 => ?_)
  replace h := h x128 σ128 ex128 e128
  obtain ⟨z129, h⟩ := h
  refine gw_pRF fX12_92 (Or.inr ⟨_, rfl⟩) rfl rfl (fun C T N hc => by cases hc; exact xfX12_92) dX12_init_305 z129 ((((((((((((((((((((((((((((((((((((((((((((((((((((((((((((((((g4.up (n_w2 e6)).up (n_nw e8)).up (n_w1 e10)).up (n_w1 e12)).up (n_w1 e14)).up (n_w1 e16)).up (n_w1 e18)).up (n_w1 e20)).up (n_w1 e22)).up (n_w1 e24)).up (n_w1 e26)).up (n_w1 e28)).up (n_w1 e30)).up (n_w1 e32)).up (n_w1 e34)).up (n_w1 e36)).up (n_w1 e38)).up (n_w1 e40)).up (n_w2 e42)).up (n_nw e44)).up (n_w2 e46)).up (n_nw e48)).up (n_w2 e50)).up (n_nw e52)).up (n_w2 e54)).up (n_nw e56)).up (n_w2 e58)).up (n_nw e60)).up (n_w2 e62)).up (n_nw e64)).up (n_w2 e66)).up (n_nw e68)).up (n_w2 e70)).up (n_nw e72)).up (n_w2 e74)).up (n_nw e76)).up (n_w2 e78)).up (n_nw e80)).up (n_w2 e82)).up (n_nw e84)).up (n_w2 e86)).up (n_nw e88)).up (n_w2 e90)).up (n_nw e92)).up (n_w2 e94)).up (n_nw e96)).up (n_w2 e98)).up (n_nw e100)).up (n_w2 e102)).up (n_w1 e103)).up (n_nw e105)).up (n_w2 e107)).up (n_nw e109)).up (n_w2 e111)).up (n_nw e113)).up (n_w2 e115)).up (n_nw e117)).up (n_w2 e119)).up (n_nw e121)).up (n_w2 e123)).up (n_w1 e124)).up (n_w1 e125)).up (n_w1 e126)).up (n_nw e128)) (fun σ130 e130 => ?_)
  replace h := h σ130 e130
  refine gw_aload_n (q := 0) dX12_init_308 rfl rfl ?_
  refine gw_sipush (v := 8192) dX12_init_309 sp_8192 ?_
  obtain ⟨g131, g132, h⟩ := h
  refine gw_newz (N := 8192) ac_boolean dX12_init_312 g131 (by decide) (by decide) (by decide) (by decide) (by decide) g132 (fun x132 σ132 ex132 e132 => ?_)
  replace h := h x132 σ132 ex132 e132
  obtain ⟨z133, h⟩ := h
  refine gw_pRF fX12_95 (Or.inr ⟨_, rfl⟩) rfl rfl (fun C T N hc => by cases hc; exact xfX12_95) dX12_init_314 z133 ((((((((((((((((((((((((((((((((((((((((((((((((((((((((((((((((((g4.up (n_w2 e6)).up (n_nw e8)).up (n_w1 e10)).up (n_w1 e12)).up (n_w1 e14)).up (n_w1 e16)).up (n_w1 e18)).up (n_w1 e20)).up (n_w1 e22)).up (n_w1 e24)).up (n_w1 e26)).up (n_w1 e28)).up (n_w1 e30)).up (n_w1 e32)).up (n_w1 e34)).up (n_w1 e36)).up (n_w1 e38)).up (n_w1 e40)).up (n_w2 e42)).up (n_nw e44)).up (n_w2 e46)).up (n_nw e48)).up (n_w2 e50)).up (n_nw e52)).up (n_w2 e54)).up (n_nw e56)).up (n_w2 e58)).up (n_nw e60)).up (n_w2 e62)).up (n_nw e64)).up (n_w2 e66)).up (n_nw e68)).up (n_w2 e70)).up (n_nw e72)).up (n_w2 e74)).up (n_nw e76)).up (n_w2 e78)).up (n_nw e80)).up (n_w2 e82)).up (n_nw e84)).up (n_w2 e86)).up (n_nw e88)).up (n_w2 e90)).up (n_nw e92)).up (n_w2 e94)).up (n_nw e96)).up (n_w2 e98)).up (n_nw e100)).up (n_w2 e102)).up (n_w1 e103)).up (n_nw e105)).up (n_w2 e107)).up (n_nw e109)).up (n_w2 e111)).up (n_nw e113)).up (n_w2 e115)).up (n_nw e117)).up (n_w2 e119)).up (n_nw e121)).up (n_w2 e123)).up (n_w1 e124)).up (n_w1 e125)).up (n_w1 e126)).up (n_nw e128)).up (n_w2 e130)).up (n_nw e132)) (fun σ134 e134 => ?_)
  replace h := h σ134 e134
  refine gw_aload_n (q := 0) dX12_init_317 rfl rfl ?_
  refine gw_bipush (v := 40) dX12_init_318 bp_40 ?_
  obtain ⟨g135, g136, h⟩ := h
  refine gw_newi (N := 40) ac_int dX12_init_320 g135 (by decide) (by decide) (by decide) (by decide) (by decide) g136 (fun x136 σ136 ex136 e136 => ?_)
  replace h := h x136 σ136 ex136 e136
  obtain ⟨z137, h⟩ := h
  refine gw_pRF fX12_99 (Or.inr ⟨_, rfl⟩) rfl rfl (fun C T N hc => by cases hc; exact xfX12_99) dX12_init_322 z137 ((((((((((((((((((((((((((((((((((((((((((((((((((((((((((((((((((((g4.up (n_w2 e6)).up (n_nw e8)).up (n_w1 e10)).up (n_w1 e12)).up (n_w1 e14)).up (n_w1 e16)).up (n_w1 e18)).up (n_w1 e20)).up (n_w1 e22)).up (n_w1 e24)).up (n_w1 e26)).up (n_w1 e28)).up (n_w1 e30)).up (n_w1 e32)).up (n_w1 e34)).up (n_w1 e36)).up (n_w1 e38)).up (n_w1 e40)).up (n_w2 e42)).up (n_nw e44)).up (n_w2 e46)).up (n_nw e48)).up (n_w2 e50)).up (n_nw e52)).up (n_w2 e54)).up (n_nw e56)).up (n_w2 e58)).up (n_nw e60)).up (n_w2 e62)).up (n_nw e64)).up (n_w2 e66)).up (n_nw e68)).up (n_w2 e70)).up (n_nw e72)).up (n_w2 e74)).up (n_nw e76)).up (n_w2 e78)).up (n_nw e80)).up (n_w2 e82)).up (n_nw e84)).up (n_w2 e86)).up (n_nw e88)).up (n_w2 e90)).up (n_nw e92)).up (n_w2 e94)).up (n_nw e96)).up (n_w2 e98)).up (n_nw e100)).up (n_w2 e102)).up (n_w1 e103)).up (n_nw e105)).up (n_w2 e107)).up (n_nw e109)).up (n_w2 e111)).up (n_nw e113)).up (n_w2 e115)).up (n_nw e117)).up (n_w2 e119)).up (n_nw e121)).up (n_w2 e123)).up (n_w1 e124)).up (n_w1 e125)).up (n_w1 e126)).up (n_nw e128)).up (n_w2 e130)).up (n_nw e132)).up (n_w2 e134)).up (n_nw e136)) (fun σ138 e138 => ?_)
  replace h := h σ138 e138
  refine gw_aload_n (q := 0) dX12_init_325 rfl rfl ?_
  refine gw_sipush (v := 1600) dX12_init_326 sp_1600 ?_
  obtain ⟨g139, g140, h⟩ := h
  refine gw_newi (N := 1600) ac_int dX12_init_329 g139 (by decide) (by decide) (by decide) (by decide) (by decide) g140 (fun x140 σ140 ex140 e140 => ?_)
  replace h := h x140 σ140 ex140 e140
  obtain ⟨z141, h⟩ := h
  refine gw_pRF fX12_102 (Or.inr ⟨_, rfl⟩) rfl rfl (fun C T N hc => by cases hc; exact xfX12_102) dX12_init_331 z141 ((((((((((((((((((((((((((((((((((((((((((((((((((((((((((((((((((((((g4.up (n_w2 e6)).up (n_nw e8)).up (n_w1 e10)).up (n_w1 e12)).up (n_w1 e14)).up (n_w1 e16)).up (n_w1 e18)).up (n_w1 e20)).up (n_w1 e22)).up (n_w1 e24)).up (n_w1 e26)).up (n_w1 e28)).up (n_w1 e30)).up (n_w1 e32)).up (n_w1 e34)).up (n_w1 e36)).up (n_w1 e38)).up (n_w1 e40)).up (n_w2 e42)).up (n_nw e44)).up (n_w2 e46)).up (n_nw e48)).up (n_w2 e50)).up (n_nw e52)).up (n_w2 e54)).up (n_nw e56)).up (n_w2 e58)).up (n_nw e60)).up (n_w2 e62)).up (n_nw e64)).up (n_w2 e66)).up (n_nw e68)).up (n_w2 e70)).up (n_nw e72)).up (n_w2 e74)).up (n_nw e76)).up (n_w2 e78)).up (n_nw e80)).up (n_w2 e82)).up (n_nw e84)).up (n_w2 e86)).up (n_nw e88)).up (n_w2 e90)).up (n_nw e92)).up (n_w2 e94)).up (n_nw e96)).up (n_w2 e98)).up (n_nw e100)).up (n_w2 e102)).up (n_w1 e103)).up (n_nw e105)).up (n_w2 e107)).up (n_nw e109)).up (n_w2 e111)).up (n_nw e113)).up (n_w2 e115)).up (n_nw e117)).up (n_w2 e119)).up (n_nw e121)).up (n_w2 e123)).up (n_w1 e124)).up (n_w1 e125)).up (n_w1 e126)).up (n_nw e128)).up (n_w2 e130)).up (n_nw e132)).up (n_w2 e134)).up (n_nw e136)).up (n_w2 e138)).up (n_nw e140)) (fun σ142 e142 => ?_)
  replace h := h σ142 e142
  refine gw_aload_n (q := 0) dX12_init_334 rfl rfl ?_
  refine gw_bipush (v := 80) dX12_init_335 bp_80 ?_
  obtain ⟨g143, g144, h⟩ := h
  refine gw_newi (N := 80) ac_int dX12_init_337 g143 (by decide) (by decide) (by decide) (by decide) (by decide) g144 (fun x144 σ144 ex144 e144 => ?_)
  replace h := h x144 σ144 ex144 e144
  obtain ⟨z145, h⟩ := h
  refine gw_pRF fX12_105 (Or.inr ⟨_, rfl⟩) rfl rfl (fun C T N hc => by cases hc; exact xfX12_105) dX12_init_339 z145 ((((((((((((((((((((((((((((((((((((((((((((((((((((((((((((((((((((((((g4.up (n_w2 e6)).up (n_nw e8)).up (n_w1 e10)).up (n_w1 e12)).up (n_w1 e14)).up (n_w1 e16)).up (n_w1 e18)).up (n_w1 e20)).up (n_w1 e22)).up (n_w1 e24)).up (n_w1 e26)).up (n_w1 e28)).up (n_w1 e30)).up (n_w1 e32)).up (n_w1 e34)).up (n_w1 e36)).up (n_w1 e38)).up (n_w1 e40)).up (n_w2 e42)).up (n_nw e44)).up (n_w2 e46)).up (n_nw e48)).up (n_w2 e50)).up (n_nw e52)).up (n_w2 e54)).up (n_nw e56)).up (n_w2 e58)).up (n_nw e60)).up (n_w2 e62)).up (n_nw e64)).up (n_w2 e66)).up (n_nw e68)).up (n_w2 e70)).up (n_nw e72)).up (n_w2 e74)).up (n_nw e76)).up (n_w2 e78)).up (n_nw e80)).up (n_w2 e82)).up (n_nw e84)).up (n_w2 e86)).up (n_nw e88)).up (n_w2 e90)).up (n_nw e92)).up (n_w2 e94)).up (n_nw e96)).up (n_w2 e98)).up (n_nw e100)).up (n_w2 e102)).up (n_w1 e103)).up (n_nw e105)).up (n_w2 e107)).up (n_nw e109)).up (n_w2 e111)).up (n_nw e113)).up (n_w2 e115)).up (n_nw e117)).up (n_w2 e119)).up (n_nw e121)).up (n_w2 e123)).up (n_w1 e124)).up (n_w1 e125)).up (n_w1 e126)).up (n_nw e128)).up (n_w2 e130)).up (n_nw e132)).up (n_w2 e134)).up (n_nw e136)).up (n_w2 e138)).up (n_nw e140)).up (n_w2 e142)).up (n_nw e144)) (fun σ146 e146 => ?_)
  replace h := h σ146 e146
  refine gw_aload_n (q := 0) dX12_init_342 rfl rfl ?_
  refine gw_bipush (v := 12) dX12_init_343 bp_12 ?_
  obtain ⟨g147, g148, h⟩ := h
  refine gw_newi (N := 12) ac_int dX12_init_345 g147 (by decide) (by decide) (by decide) (by decide) (by decide) g148 (fun x148 σ148 ex148 e148 => ?_)
  replace h := h x148 σ148 ex148 e148
  obtain ⟨z149, h⟩ := h
  refine gw_pRF fX12_108 (Or.inr ⟨_, rfl⟩) rfl rfl (fun C T N hc => by cases hc; exact xfX12_108) dX12_init_347 z149 ((((((((((((((((((((((((((((((((((((((((((((((((((((((((((((((((((((((((((g4.up (n_w2 e6)).up (n_nw e8)).up (n_w1 e10)).up (n_w1 e12)).up (n_w1 e14)).up (n_w1 e16)).up (n_w1 e18)).up (n_w1 e20)).up (n_w1 e22)).up (n_w1 e24)).up (n_w1 e26)).up (n_w1 e28)).up (n_w1 e30)).up (n_w1 e32)).up (n_w1 e34)).up (n_w1 e36)).up (n_w1 e38)).up (n_w1 e40)).up (n_w2 e42)).up (n_nw e44)).up (n_w2 e46)).up (n_nw e48)).up (n_w2 e50)).up (n_nw e52)).up (n_w2 e54)).up (n_nw e56)).up (n_w2 e58)).up (n_nw e60)).up (n_w2 e62)).up (n_nw e64)).up (n_w2 e66)).up (n_nw e68)).up (n_w2 e70)).up (n_nw e72)).up (n_w2 e74)).up (n_nw e76)).up (n_w2 e78)).up (n_nw e80)).up (n_w2 e82)).up (n_nw e84)).up (n_w2 e86)).up (n_nw e88)).up (n_w2 e90)).up (n_nw e92)).up (n_w2 e94)).up (n_nw e96)).up (n_w2 e98)).up (n_nw e100)).up (n_w2 e102)).up (n_w1 e103)).up (n_nw e105)).up (n_w2 e107)).up (n_nw e109)).up (n_w2 e111)).up (n_nw e113)).up (n_w2 e115)).up (n_nw e117)).up (n_w2 e119)).up (n_nw e121)).up (n_w2 e123)).up (n_w1 e124)).up (n_w1 e125)).up (n_w1 e126)).up (n_nw e128)).up (n_w2 e130)).up (n_nw e132)).up (n_w2 e134)).up (n_nw e136)).up (n_w2 e138)).up (n_nw e140)).up (n_w2 e142)).up (n_nw e144)).up (n_w2 e146)).up (n_nw e148)) (fun σ150 e150 => ?_)
  replace h := h σ150 e150
  refine gw_aload_n (q := 0) dX12_init_350 rfl rfl ?_
  refine gw_bipush (v := 20) dX12_init_351 bp_20 ?_
  obtain ⟨g151, g152, h⟩ := h
  refine gw_newz (N := 20) ac_boolean dX12_init_353 g151 (by decide) (by decide) (by decide) (by decide) (by decide) g152 (fun x152 σ152 ex152 e152 => ?_)
  replace h := h x152 σ152 ex152 e152
  obtain ⟨z153, h⟩ := h
  refine gw_pRF fX12_111 (Or.inr ⟨_, rfl⟩) rfl rfl (fun C T N hc => by cases hc; exact xfX12_111) dX12_init_355 z153 ((((((((((((((((((((((((((((((((((((((((((((((((((((((((((((((((((((((((((((g4.up (n_w2 e6)).up (n_nw e8)).up (n_w1 e10)).up (n_w1 e12)).up (n_w1 e14)).up (n_w1 e16)).up (n_w1 e18)).up (n_w1 e20)).up (n_w1 e22)).up (n_w1 e24)).up (n_w1 e26)).up (n_w1 e28)).up (n_w1 e30)).up (n_w1 e32)).up (n_w1 e34)).up (n_w1 e36)).up (n_w1 e38)).up (n_w1 e40)).up (n_w2 e42)).up (n_nw e44)).up (n_w2 e46)).up (n_nw e48)).up (n_w2 e50)).up (n_nw e52)).up (n_w2 e54)).up (n_nw e56)).up (n_w2 e58)).up (n_nw e60)).up (n_w2 e62)).up (n_nw e64)).up (n_w2 e66)).up (n_nw e68)).up (n_w2 e70)).up (n_nw e72)).up (n_w2 e74)).up (n_nw e76)).up (n_w2 e78)).up (n_nw e80)).up (n_w2 e82)).up (n_nw e84)).up (n_w2 e86)).up (n_nw e88)).up (n_w2 e90)).up (n_nw e92)).up (n_w2 e94)).up (n_nw e96)).up (n_w2 e98)).up (n_nw e100)).up (n_w2 e102)).up (n_w1 e103)).up (n_nw e105)).up (n_w2 e107)).up (n_nw e109)).up (n_w2 e111)).up (n_nw e113)).up (n_w2 e115)).up (n_nw e117)).up (n_w2 e119)).up (n_nw e121)).up (n_w2 e123)).up (n_w1 e124)).up (n_w1 e125)).up (n_w1 e126)).up (n_nw e128)).up (n_w2 e130)).up (n_nw e132)).up (n_w2 e134)).up (n_nw e136)).up (n_w2 e138)).up (n_nw e140)).up (n_w2 e142)).up (n_nw e144)).up (n_w2 e146)).up (n_nw e148)).up (n_w2 e150)).up (n_nw e152)) (fun σ154 e154 => ?_)
  replace h := h σ154 e154
  refine gw_aload_n (q := 0) dX12_init_358 rfl rfl ?_
  refine gw_bipush (v := 20) dX12_init_359 bp_20 ?_
  obtain ⟨g155, g156, h⟩ := h
  refine gw_newi (N := 20) ac_int dX12_init_361 g155 (by decide) (by decide) (by decide) (by decide) (by decide) g156 (fun x156 σ156 ex156 e156 => ?_)
  replace h := h x156 σ156 ex156 e156
  obtain ⟨z157, h⟩ := h
  refine gw_pRF fX12_114 (Or.inr ⟨_, rfl⟩) rfl rfl (fun C T N hc => by cases hc; exact xfX12_114) dX12_init_363 z157 ((((((((((((((((((((((((((((((((((((((((((((((((((((((((((((((((((((((((((((((g4.up (n_w2 e6)).up (n_nw e8)).up (n_w1 e10)).up (n_w1 e12)).up (n_w1 e14)).up (n_w1 e16)).up (n_w1 e18)).up (n_w1 e20)).up (n_w1 e22)).up (n_w1 e24)).up (n_w1 e26)).up (n_w1 e28)).up (n_w1 e30)).up (n_w1 e32)).up (n_w1 e34)).up (n_w1 e36)).up (n_w1 e38)).up (n_w1 e40)).up (n_w2 e42)).up (n_nw e44)).up (n_w2 e46)).up (n_nw e48)).up (n_w2 e50)).up (n_nw e52)).up (n_w2 e54)).up (n_nw e56)).up (n_w2 e58)).up (n_nw e60)).up (n_w2 e62)).up (n_nw e64)).up (n_w2 e66)).up (n_nw e68)).up (n_w2 e70)).up (n_nw e72)).up (n_w2 e74)).up (n_nw e76)).up (n_w2 e78)).up (n_nw e80)).up (n_w2 e82)).up (n_nw e84)).up (n_w2 e86)).up (n_nw e88)).up (n_w2 e90)).up (n_nw e92)).up (n_w2 e94)).up (n_nw e96)).up (n_w2 e98)).up (n_nw e100)).up (n_w2 e102)).up (n_w1 e103)).up (n_nw e105)).up (n_w2 e107)).up (n_nw e109)).up (n_w2 e111)).up (n_nw e113)).up (n_w2 e115)).up (n_nw e117)).up (n_w2 e119)).up (n_nw e121)).up (n_w2 e123)).up (n_w1 e124)).up (n_w1 e125)).up (n_w1 e126)).up (n_nw e128)).up (n_w2 e130)).up (n_nw e132)).up (n_w2 e134)).up (n_nw e136)).up (n_w2 e138)).up (n_nw e140)).up (n_w2 e142)).up (n_nw e144)).up (n_w2 e146)).up (n_nw e148)).up (n_w2 e150)).up (n_nw e152)).up (n_w2 e154)).up (n_nw e156)) (fun σ158 e158 => ?_)
  replace h := h σ158 e158
  refine gw_aload_n (q := 0) dX12_init_366 rfl rfl ?_
  refine gw_bipush (v := 20) dX12_init_367 bp_20 ?_
  obtain ⟨g159, g160, h⟩ := h
  refine gw_newi (N := 20) ac_int dX12_init_369 g159 (by decide) (by decide) (by decide) (by decide) (by decide) g160 (fun x160 σ160 ex160 e160 => ?_)
  replace h := h x160 σ160 ex160 e160
  obtain ⟨z161, h⟩ := h
  refine gw_pRF fX12_117 (Or.inr ⟨_, rfl⟩) rfl rfl (fun C T N hc => by cases hc; exact xfX12_117) dX12_init_371 z161 ((((((((((((((((((((((((((((((((((((((((((((((((((((((((((((((((((((((((((((((((g4.up (n_w2 e6)).up (n_nw e8)).up (n_w1 e10)).up (n_w1 e12)).up (n_w1 e14)).up (n_w1 e16)).up (n_w1 e18)).up (n_w1 e20)).up (n_w1 e22)).up (n_w1 e24)).up (n_w1 e26)).up (n_w1 e28)).up (n_w1 e30)).up (n_w1 e32)).up (n_w1 e34)).up (n_w1 e36)).up (n_w1 e38)).up (n_w1 e40)).up (n_w2 e42)).up (n_nw e44)).up (n_w2 e46)).up (n_nw e48)).up (n_w2 e50)).up (n_nw e52)).up (n_w2 e54)).up (n_nw e56)).up (n_w2 e58)).up (n_nw e60)).up (n_w2 e62)).up (n_nw e64)).up (n_w2 e66)).up (n_nw e68)).up (n_w2 e70)).up (n_nw e72)).up (n_w2 e74)).up (n_nw e76)).up (n_w2 e78)).up (n_nw e80)).up (n_w2 e82)).up (n_nw e84)).up (n_w2 e86)).up (n_nw e88)).up (n_w2 e90)).up (n_nw e92)).up (n_w2 e94)).up (n_nw e96)).up (n_w2 e98)).up (n_nw e100)).up (n_w2 e102)).up (n_w1 e103)).up (n_nw e105)).up (n_w2 e107)).up (n_nw e109)).up (n_w2 e111)).up (n_nw e113)).up (n_w2 e115)).up (n_nw e117)).up (n_w2 e119)).up (n_nw e121)).up (n_w2 e123)).up (n_w1 e124)).up (n_w1 e125)).up (n_w1 e126)).up (n_nw e128)).up (n_w2 e130)).up (n_nw e132)).up (n_w2 e134)).up (n_nw e136)).up (n_w2 e138)).up (n_nw e140)).up (n_w2 e142)).up (n_nw e144)).up (n_w2 e146)).up (n_nw e148)).up (n_w2 e150)).up (n_nw e152)).up (n_w2 e154)).up (n_nw e156)).up (n_w2 e158)).up (n_nw e160)) (fun σ162 e162 => ?_)
  replace h := h σ162 e162
  refine gw_aload_n (q := 0) dX12_init_374 rfl rfl ?_
  refine gw_iconst (v := 5) dX12_init_375 ic_5 ?_
  obtain ⟨g163, g164, h⟩ := h
  refine gw_newi (N := 5) ac_int dX12_init_376 g163 (by decide) (by decide) (by decide) (by decide) (by decide) g164 (fun x164 σ164 ex164 e164 => ?_)
  replace h := h x164 σ164 ex164 e164
  obtain ⟨z165, h⟩ := h
  refine gw_pRF fX12_120 (Or.inr ⟨_, rfl⟩) rfl rfl (fun C T N hc => by cases hc; exact xfX12_120) dX12_init_378 z165 ((((((((((((((((((((((((((((((((((((((((((((((((((((((((((((((((((((((((((((((((((g4.up (n_w2 e6)).up (n_nw e8)).up (n_w1 e10)).up (n_w1 e12)).up (n_w1 e14)).up (n_w1 e16)).up (n_w1 e18)).up (n_w1 e20)).up (n_w1 e22)).up (n_w1 e24)).up (n_w1 e26)).up (n_w1 e28)).up (n_w1 e30)).up (n_w1 e32)).up (n_w1 e34)).up (n_w1 e36)).up (n_w1 e38)).up (n_w1 e40)).up (n_w2 e42)).up (n_nw e44)).up (n_w2 e46)).up (n_nw e48)).up (n_w2 e50)).up (n_nw e52)).up (n_w2 e54)).up (n_nw e56)).up (n_w2 e58)).up (n_nw e60)).up (n_w2 e62)).up (n_nw e64)).up (n_w2 e66)).up (n_nw e68)).up (n_w2 e70)).up (n_nw e72)).up (n_w2 e74)).up (n_nw e76)).up (n_w2 e78)).up (n_nw e80)).up (n_w2 e82)).up (n_nw e84)).up (n_w2 e86)).up (n_nw e88)).up (n_w2 e90)).up (n_nw e92)).up (n_w2 e94)).up (n_nw e96)).up (n_w2 e98)).up (n_nw e100)).up (n_w2 e102)).up (n_w1 e103)).up (n_nw e105)).up (n_w2 e107)).up (n_nw e109)).up (n_w2 e111)).up (n_nw e113)).up (n_w2 e115)).up (n_nw e117)).up (n_w2 e119)).up (n_nw e121)).up (n_w2 e123)).up (n_w1 e124)).up (n_w1 e125)).up (n_w1 e126)).up (n_nw e128)).up (n_w2 e130)).up (n_nw e132)).up (n_w2 e134)).up (n_nw e136)).up (n_w2 e138)).up (n_nw e140)).up (n_w2 e142)).up (n_nw e144)).up (n_w2 e146)).up (n_nw e148)).up (n_w2 e150)).up (n_nw e152)).up (n_w2 e154)).up (n_nw e156)).up (n_w2 e158)).up (n_nw e160)).up (n_w2 e162)).up (n_nw e164)) (fun σ166 e166 => ?_)
  replace h := h σ166 e166
  refine gw_aload_n (q := 0) dX12_init_381 rfl rfl ?_
  refine gw_sipush (v := 256) dX12_init_382 sp_256 ?_
  obtain ⟨g167, g168, h⟩ := h
  refine gw_newi (N := 256) ac_int dX12_init_385 g167 (by decide) (by decide) (by decide) (by decide) (by decide) g168 (fun x168 σ168 ex168 e168 => ?_)
  replace h := h x168 σ168 ex168 e168
  obtain ⟨z169, h⟩ := h
  refine gw_pRF fX12_123 (Or.inr ⟨_, rfl⟩) rfl rfl (fun C T N hc => by cases hc; exact xfX12_123) dX12_init_387 z169 ((((((((((((((((((((((((((((((((((((((((((((((((((((((((((((((((((((((((((((((((((((g4.up (n_w2 e6)).up (n_nw e8)).up (n_w1 e10)).up (n_w1 e12)).up (n_w1 e14)).up (n_w1 e16)).up (n_w1 e18)).up (n_w1 e20)).up (n_w1 e22)).up (n_w1 e24)).up (n_w1 e26)).up (n_w1 e28)).up (n_w1 e30)).up (n_w1 e32)).up (n_w1 e34)).up (n_w1 e36)).up (n_w1 e38)).up (n_w1 e40)).up (n_w2 e42)).up (n_nw e44)).up (n_w2 e46)).up (n_nw e48)).up (n_w2 e50)).up (n_nw e52)).up (n_w2 e54)).up (n_nw e56)).up (n_w2 e58)).up (n_nw e60)).up (n_w2 e62)).up (n_nw e64)).up (n_w2 e66)).up (n_nw e68)).up (n_w2 e70)).up (n_nw e72)).up (n_w2 e74)).up (n_nw e76)).up (n_w2 e78)).up (n_nw e80)).up (n_w2 e82)).up (n_nw e84)).up (n_w2 e86)).up (n_nw e88)).up (n_w2 e90)).up (n_nw e92)).up (n_w2 e94)).up (n_nw e96)).up (n_w2 e98)).up (n_nw e100)).up (n_w2 e102)).up (n_w1 e103)).up (n_nw e105)).up (n_w2 e107)).up (n_nw e109)).up (n_w2 e111)).up (n_nw e113)).up (n_w2 e115)).up (n_nw e117)).up (n_w2 e119)).up (n_nw e121)).up (n_w2 e123)).up (n_w1 e124)).up (n_w1 e125)).up (n_w1 e126)).up (n_nw e128)).up (n_w2 e130)).up (n_nw e132)).up (n_w2 e134)).up (n_nw e136)).up (n_w2 e138)).up (n_nw e140)).up (n_w2 e142)).up (n_nw e144)).up (n_w2 e146)).up (n_nw e148)).up (n_w2 e150)).up (n_nw e152)).up (n_w2 e154)).up (n_nw e156)).up (n_w2 e158)).up (n_nw e160)).up (n_w2 e162)).up (n_nw e164)).up (n_w2 e166)).up (n_nw e168)) (fun σ170 e170 => ?_)
  replace h := h σ170 e170
  refine gw_aload_n (q := 0) dX12_init_390 rfl rfl ?_
  refine gw_sipush (v := 256) dX12_init_391 sp_256 ?_
  obtain ⟨g171, g172, h⟩ := h
  refine gw_newi (N := 256) ac_int dX12_init_394 g171 (by decide) (by decide) (by decide) (by decide) (by decide) g172 (fun x172 σ172 ex172 e172 => ?_)
  replace h := h x172 σ172 ex172 e172
  obtain ⟨z173, h⟩ := h
  refine gw_pRF fX12_126 (Or.inr ⟨_, rfl⟩) rfl rfl (fun C T N hc => by cases hc; exact xfX12_126) dX12_init_396 z173 ((((((((((((((((((((((((((((((((((((((((((((((((((((((((((((((((((((((((((((((((((((((g4.up (n_w2 e6)).up (n_nw e8)).up (n_w1 e10)).up (n_w1 e12)).up (n_w1 e14)).up (n_w1 e16)).up (n_w1 e18)).up (n_w1 e20)).up (n_w1 e22)).up (n_w1 e24)).up (n_w1 e26)).up (n_w1 e28)).up (n_w1 e30)).up (n_w1 e32)).up (n_w1 e34)).up (n_w1 e36)).up (n_w1 e38)).up (n_w1 e40)).up (n_w2 e42)).up (n_nw e44)).up (n_w2 e46)).up (n_nw e48)).up (n_w2 e50)).up (n_nw e52)).up (n_w2 e54)).up (n_nw e56)).up (n_w2 e58)).up (n_nw e60)).up (n_w2 e62)).up (n_nw e64)).up (n_w2 e66)).up (n_nw e68)).up (n_w2 e70)).up (n_nw e72)).up (n_w2 e74)).up (n_nw e76)).up (n_w2 e78)).up (n_nw e80)).up (n_w2 e82)).up (n_nw e84)).up (n_w2 e86)).up (n_nw e88)).up (n_w2 e90)).up (n_nw e92)).up (n_w2 e94)).up (n_nw e96)).up (n_w2 e98)).up (n_nw e100)).up (n_w2 e102)).up (n_w1 e103)).up (n_nw e105)).up (n_w2 e107)).up (n_nw e109)).up (n_w2 e111)).up (n_nw e113)).up (n_w2 e115)).up (n_nw e117)).up (n_w2 e119)).up (n_nw e121)).up (n_w2 e123)).up (n_w1 e124)).up (n_w1 e125)).up (n_w1 e126)).up (n_nw e128)).up (n_w2 e130)).up (n_nw e132)).up (n_w2 e134)).up (n_nw e136)).up (n_w2 e138)).up (n_nw e140)).up (n_w2 e142)).up (n_nw e144)).up (n_w2 e146)).up (n_nw e148)).up (n_w2 e150)).up (n_nw e152)).up (n_w2 e154)).up (n_nw e156)).up (n_w2 e158)).up (n_nw e160)).up (n_w2 e162)).up (n_nw e164)).up (n_w2 e166)).up (n_nw e168)).up (n_w2 e170)).up (n_nw e172)) (fun σ174 e174 => ?_)
  replace h := h σ174 e174
  refine gw_aload_n (q := 0) dX12_init_399 rfl rfl ?_
  refine gw_iconst (v := 3) dX12_init_400 ic_3 ?_
  obtain ⟨g175, g176, h⟩ := h
  refine gw_newi (N := 3) ac_int dX12_init_401 g175 (by decide) (by decide) (by decide) (by decide) (by decide) g176 (fun x176 σ176 ex176 e176 => ?_)
  replace h := h x176 σ176 ex176 e176
  obtain ⟨z177, h⟩ := h
  refine gw_pRF fX12_129 (Or.inr ⟨_, rfl⟩) rfl rfl (fun C T N hc => by cases hc; exact xfX12_129) dX12_init_403 z177 ((((((((((((((((((((((((((((((((((((((((((((((((((((((((((((((((((((((((((((((((((((((((g4.up (n_w2 e6)).up (n_nw e8)).up (n_w1 e10)).up (n_w1 e12)).up (n_w1 e14)).up (n_w1 e16)).up (n_w1 e18)).up (n_w1 e20)).up (n_w1 e22)).up (n_w1 e24)).up (n_w1 e26)).up (n_w1 e28)).up (n_w1 e30)).up (n_w1 e32)).up (n_w1 e34)).up (n_w1 e36)).up (n_w1 e38)).up (n_w1 e40)).up (n_w2 e42)).up (n_nw e44)).up (n_w2 e46)).up (n_nw e48)).up (n_w2 e50)).up (n_nw e52)).up (n_w2 e54)).up (n_nw e56)).up (n_w2 e58)).up (n_nw e60)).up (n_w2 e62)).up (n_nw e64)).up (n_w2 e66)).up (n_nw e68)).up (n_w2 e70)).up (n_nw e72)).up (n_w2 e74)).up (n_nw e76)).up (n_w2 e78)).up (n_nw e80)).up (n_w2 e82)).up (n_nw e84)).up (n_w2 e86)).up (n_nw e88)).up (n_w2 e90)).up (n_nw e92)).up (n_w2 e94)).up (n_nw e96)).up (n_w2 e98)).up (n_nw e100)).up (n_w2 e102)).up (n_w1 e103)).up (n_nw e105)).up (n_w2 e107)).up (n_nw e109)).up (n_w2 e111)).up (n_nw e113)).up (n_w2 e115)).up (n_nw e117)).up (n_w2 e119)).up (n_nw e121)).up (n_w2 e123)).up (n_w1 e124)).up (n_w1 e125)).up (n_w1 e126)).up (n_nw e128)).up (n_w2 e130)).up (n_nw e132)).up (n_w2 e134)).up (n_nw e136)).up (n_w2 e138)).up (n_nw e140)).up (n_w2 e142)).up (n_nw e144)).up (n_w2 e146)).up (n_nw e148)).up (n_w2 e150)).up (n_nw e152)).up (n_w2 e154)).up (n_nw e156)).up (n_w2 e158)).up (n_nw e160)).up (n_w2 e162)).up (n_nw e164)).up (n_w2 e166)).up (n_nw e168)).up (n_w2 e170)).up (n_nw e172)).up (n_w2 e174)).up (n_nw e176)) (fun σ178 e178 => ?_)
  replace h := h σ178 e178
  refine gw_aload_n (q := 0) dX12_init_406 rfl rfl ?_
  refine gw_iconst (v := 3) dX12_init_407 ic_3 ?_
  obtain ⟨g179, g180, h⟩ := h
  refine gw_newi (N := 3) ac_int dX12_init_408 g179 (by decide) (by decide) (by decide) (by decide) (by decide) g180 (fun x180 σ180 ex180 e180 => ?_)
  replace h := h x180 σ180 ex180 e180
  obtain ⟨z181, h⟩ := h
  refine gw_pRF fX12_132 (Or.inr ⟨_, rfl⟩) rfl rfl (fun C T N hc => by cases hc; exact xfX12_132) dX12_init_410 z181 ((((((((((((((((((((((((((((((((((((((((((((((((((((((((((((((((((((((((((((((((((((((((((g4.up (n_w2 e6)).up (n_nw e8)).up (n_w1 e10)).up (n_w1 e12)).up (n_w1 e14)).up (n_w1 e16)).up (n_w1 e18)).up (n_w1 e20)).up (n_w1 e22)).up (n_w1 e24)).up (n_w1 e26)).up (n_w1 e28)).up (n_w1 e30)).up (n_w1 e32)).up (n_w1 e34)).up (n_w1 e36)).up (n_w1 e38)).up (n_w1 e40)).up (n_w2 e42)).up (n_nw e44)).up (n_w2 e46)).up (n_nw e48)).up (n_w2 e50)).up (n_nw e52)).up (n_w2 e54)).up (n_nw e56)).up (n_w2 e58)).up (n_nw e60)).up (n_w2 e62)).up (n_nw e64)).up (n_w2 e66)).up (n_nw e68)).up (n_w2 e70)).up (n_nw e72)).up (n_w2 e74)).up (n_nw e76)).up (n_w2 e78)).up (n_nw e80)).up (n_w2 e82)).up (n_nw e84)).up (n_w2 e86)).up (n_nw e88)).up (n_w2 e90)).up (n_nw e92)).up (n_w2 e94)).up (n_nw e96)).up (n_w2 e98)).up (n_nw e100)).up (n_w2 e102)).up (n_w1 e103)).up (n_nw e105)).up (n_w2 e107)).up (n_nw e109)).up (n_w2 e111)).up (n_nw e113)).up (n_w2 e115)).up (n_nw e117)).up (n_w2 e119)).up (n_nw e121)).up (n_w2 e123)).up (n_w1 e124)).up (n_w1 e125)).up (n_w1 e126)).up (n_nw e128)).up (n_w2 e130)).up (n_nw e132)).up (n_w2 e134)).up (n_nw e136)).up (n_w2 e138)).up (n_nw e140)).up (n_w2 e142)).up (n_nw e144)).up (n_w2 e146)).up (n_nw e148)).up (n_w2 e150)).up (n_nw e152)).up (n_w2 e154)).up (n_nw e156)).up (n_w2 e158)).up (n_nw e160)).up (n_w2 e162)).up (n_nw e164)).up (n_w2 e166)).up (n_nw e168)).up (n_w2 e170)).up (n_nw e172)).up (n_w2 e174)).up (n_nw e176)).up (n_w2 e178)).up (n_nw e180)) (fun σ182 e182 => ?_)
  replace h := h σ182 e182
  exact gw_rV dX12_init_413 rfl (by decide) (by decide) h
set_option maxHeartbeats 4000000 in
set_option maxRecDepth 20000 in
theorem eX12_thrown {l : Launch} {v0 : Nat} {σ : Sg} {K : Int32 → Sg → Prop} (h : Ob σ v0 12 ∧ K (σ.2.1 v0 0) σ) : Con l mX12_thrown [.inr v0] σ (PI K) := by
  refine con_gw rfl (Nat.le_of_ble_eq_true rfl) ?_
  show GW l mX12_thrown 0 [(0, .inr v0)] [] σ 0 0 (PI K)
  refine gw_aload_n (q := 0) dX12_thrown_0 rfl rfl ?_
  obtain ⟨g1, h⟩ := h
  refine gw_gI fX12_135 dX12_thrown_1 g1 ?_
  exact gw_rI dX12_thrown_4 rfl (by decide) (by decide) h
set_option maxHeartbeats 4000000 in
set_option maxRecDepth 20000 in
theorem gX12_feed_73 {l : Launch} {v0 : Nat} {v1 : Int32} {v2 : Int32} {v3 : Int32} {v4 : Int32} {v5 : Int32} {v6 : Int32} {t0 : Int32} {σ : Sg} {K : Int32 → Sg → Prop} (h : Ob σ v0 12 ∧ Ai σ (σ.2.2 v0 1) ((σ.2.1 v0 2) + v6) ∧ ∀ σ3, σ3 = w1 σ (σ.2.2 v0 1) ((σ.2.1 v0 2) + v6).toNatClampNeg ((t0 >>> ((24 - (8 * (v6 - v6 / 4 * 4))) &&& 31)) &&& 255) → GW l mX12_feed 20 [(0, .inr v0), (1, .inl v1), (2, .inl v2), (3, .inl v3), (4, .inl v4), (5, .inl v5), (6, .inl (v6 + 1))] [] σ3 0 0 (PI K)) : GW l mX12_feed 73 [(0, .inr v0), (1, .inl v1), (2, .inl v2), (3, .inl v3), (4, .inl v4), (5, .inl v5), (6, .inl v6)] [.inl t0] σ 0 0 (PI K) := by
  refine gw_istore (lo' := [(0, .inr v0), (1, .inl v1), (2, .inl v2), (3, .inl v3), (4, .inl v4), (5, .inl v5), (6, .inl v6), (7, .inl t0)]) dX12_feed_73 (by decide) rfl ?_
  refine gw_aload_n (q := 0) dX12_feed_75 rfl rfl ?_
  obtain ⟨g1, h⟩ := h
  refine gw_gR fX12_9 dX12_feed_76 g1 ?_
  refine gw_aload_n (q := 0) dX12_feed_79 rfl rfl ?_
  refine gw_gI fX12_138 dX12_feed_80 g1 ?_
  refine gw_iload (q := 6) dX12_feed_83 rfl ?_
  refine gw_iadd dX12_feed_85 ?_
  refine gw_iload (q := 7) dX12_feed_86 rfl ?_
  refine gw_bipush (v := 24) dX12_feed_88 bp_24 ?_
  refine gw_bipush (v := 8) dX12_feed_90 bp_8 ?_
  refine gw_iload (q := 6) dX12_feed_92 rfl ?_
  refine gw_iconst (v := 4) dX12_feed_94 ic_4 ?_
  refine gw_irem dX12_feed_95 (by decide) ?_
  refine gw_imul dX12_feed_96 ?_
  refine gw_isub dX12_feed_97 ?_
  refine gw_ishr dX12_feed_98 ?_
  refine gw_sipush (v := 255) dX12_feed_99 sp_255 ?_
  refine gw_iand dX12_feed_102 ?_
  obtain ⟨g2, h⟩ := h
  refine gw_sI dX12_feed_103 g2 (fun σ3 e3 => ?_)
  replace h := h σ3 e3
  refine gw_inc (lo' := [(0, .inr v0), (1, .inl v1), (2, .inl v2), (3, .inl v3), (4, .inl v4), (5, .inl v5), (6, .inl (v6 + 1)), (7, .inl t0)]) (q := 6) (c := 1) dX12_feed_104 ic_1 rfl (by decide) rfl ?_
  refine gw_goto (tgt := 20) dX12_feed_107 (by decide) ?_
  refine gw_pick [0, 1, 2, 3, 4, 5, 6] rfl ?_
  exact h
set_option maxHeartbeats 4000000 in
set_option maxRecDepth 20000 in
theorem gX12_feed_20 {l : Launch} {v0 : Nat} {v1 : Int32} {v2 : Int32} {v3 : Int32} {v4 : Int32} {v5 : Int32} {v6 : Int32} {σ : Sg} {K : Int32 → Sg → Prop} (h : ((20 ≤ v6 → Ob σ v0 12 ∧ ∀ σ3, σ3 = w1 σ v0 2 ((σ.2.1 v0 2) + 20) → K (σ3.2.1 v0 2) σ3) ∧ (¬ 20 ≤ v6 → ((4 ≤ v6 → ((8 ≤ v6 → ((12 ≤ v6 → ((16 ≤ v6 → GW l mX12_feed 73 [(0, .inr v0), (1, .inl v1), (2, .inl v2), (3, .inl v3), (4, .inl v4), (5, .inl v5), (6, .inl v6)] [.inl v5] σ 0 0 (PI K)) ∧ (¬ 16 ≤ v6 → GW l mX12_feed 73 [(0, .inr v0), (1, .inl v1), (2, .inl v2), (3, .inl v3), (4, .inl v4), (5, .inl v5), (6, .inl v6)] [.inl v4] σ 0 0 (PI K)))) ∧ (¬ 12 ≤ v6 → GW l mX12_feed 73 [(0, .inr v0), (1, .inl v1), (2, .inl v2), (3, .inl v3), (4, .inl v4), (5, .inl v5), (6, .inl v6)] [.inl v3] σ 0 0 (PI K)))) ∧ (¬ 8 ≤ v6 → GW l mX12_feed 73 [(0, .inr v0), (1, .inl v1), (2, .inl v2), (3, .inl v3), (4, .inl v4), (5, .inl v5), (6, .inl v6)] [.inl v2] σ 0 0 (PI K)))) ∧ (¬ 4 ≤ v6 → GW l mX12_feed 73 [(0, .inr v0), (1, .inl v1), (2, .inl v2), (3, .inl v3), (4, .inl v4), (5, .inl v5), (6, .inl v6)] [.inl v1] σ 0 0 (PI K)))))) : GW l mX12_feed 20 [(0, .inr v0), (1, .inl v1), (2, .inl v2), (3, .inl v3), (4, .inl v4), (5, .inl v5), (6, .inl v6)] [] σ 0 0 (PI K) := by
  refine gw_iload (q := 6) dX12_feed_20 rfl ?_
  refine gw_bipush (v := 20) dX12_feed_22 bp_20 ?_
  refine gw_icmp_ge (tgt := 110) dX12_feed_24 (by decide) (fun c1 => ?_) (fun c1 => ?_)
  · replace h := h.1 c1
    refine gw_aload_n (q := 0) dX12_feed_110 rfl rfl ?_
    refine gw_dup dX12_feed_111 ?_
    obtain ⟨g2, h⟩ := h
    refine gw_gI fX12_138 dX12_feed_112 g2 ?_
    refine gw_bipush (v := 20) dX12_feed_115 bp_20 ?_
    refine gw_iadd dX12_feed_117 ?_
    refine gw_pI fX12_138 dX12_feed_118 g2 (fun σ3 e3 => ?_)
    replace h := h σ3 e3
    refine gw_aload_n (q := 0) dX12_feed_121 rfl rfl ?_
    refine gw_gI fX12_138 dX12_feed_122 (g2.up (n_w1 e3)) ?_
    exact gw_rI dX12_feed_125 rfl (by decide) (by decide) h
  · replace h := h.2 c1
    refine gw_iload (q := 6) dX12_feed_27 rfl ?_
    refine gw_iconst (v := 4) dX12_feed_29 ic_4 ?_
    refine gw_icmp_ge (tgt := 37) dX12_feed_30 (by decide) (fun c4 => ?_) (fun c4 => ?_)
    · replace h := h.1 c4
      refine gw_iload (q := 6) dX12_feed_37 rfl ?_
      refine gw_bipush (v := 8) dX12_feed_39 bp_8 ?_
      refine gw_icmp_ge (tgt := 48) dX12_feed_41 (by decide) (fun c5 => ?_) (fun c5 => ?_)
      · replace h := h.1 c5
        refine gw_iload (q := 6) dX12_feed_48 rfl ?_
        refine gw_bipush (v := 12) dX12_feed_50 bp_12 ?_
        refine gw_icmp_ge (tgt := 59) dX12_feed_52 (by decide) (fun c6 => ?_) (fun c6 => ?_)
        · replace h := h.1 c6
          refine gw_iload (q := 6) dX12_feed_59 rfl ?_
          refine gw_bipush (v := 16) dX12_feed_61 bp_16 ?_
          refine gw_icmp_ge (tgt := 71) dX12_feed_63 (by decide) (fun c7 => ?_) (fun c7 => ?_)
          · replace h := h.1 c7
            refine gw_iload (q := 5) dX12_feed_71 rfl ?_
            exact h
          · replace h := h.2 c7
            refine gw_iload (q := 4) dX12_feed_66 rfl ?_
            refine gw_goto (tgt := 73) dX12_feed_68 (by decide) ?_
            exact h
        · replace h := h.2 c6
          refine gw_iload_n (q := 3) dX12_feed_55 rfl rfl ?_
          refine gw_goto (tgt := 73) dX12_feed_56 (by decide) ?_
          exact h
      · replace h := h.2 c5
        refine gw_iload_n (q := 2) dX12_feed_44 rfl rfl ?_
        refine gw_goto (tgt := 73) dX12_feed_45 (by decide) ?_
        exact h
    · replace h := h.2 c4
      refine gw_iload_n (q := 1) dX12_feed_33 rfl rfl ?_
      refine gw_goto (tgt := 73) dX12_feed_34 (by decide) ?_
      exact h
set_option maxHeartbeats 4000000 in
set_option maxRecDepth 20000 in
theorem eX12_feed {l : Launch} {v0 : Nat} {v1 : Int32} {v2 : Int32} {v3 : Int32} {v4 : Int32} {v5 : Int32} {σ : Sg} {K : Int32 → Sg → Prop} (h : Ob σ v0 12 ∧ ∀ σ2, σ2 = w1 σ v0 0 0 → (((σ2.2.1 v0 2) ≤ 380 → GW l mX12_feed 20 [(0, .inr v0), (1, .inl v1), (2, .inl v2), (3, .inl v3), (4, .inl v4), (5, .inl v5), (6, .inl 0)] [] σ2 0 0 (PI K)) ∧ (¬ (σ2.2.1 v0 2) ≤ 380 → K (-1) σ2))) : Con l mX12_feed [.inr v0, .inl v1, .inl v2, .inl v3, .inl v4, .inl v5] σ (PI K) := by
  refine con_gw rfl (Nat.le_of_ble_eq_true rfl) ?_
  show GW l mX12_feed 0 [(0, .inr v0), (1, .inl v1), (2, .inl v2), (3, .inl v3), (4, .inl v4), (5, .inl v5)] [] σ 0 0 (PI K)
  refine gw_aload_n (q := 0) dX12_feed_0 rfl rfl ?_
  refine gw_iconst (v := 0) dX12_feed_1 ic_0 ?_
  obtain ⟨g1, h⟩ := h
  refine gw_pI fX12_135 dX12_feed_2 g1 (fun σ2 e2 => ?_)
  replace h := h σ2 e2
  refine gw_aload_n (q := 0) dX12_feed_5 rfl rfl ?_
  refine gw_gI fX12_138 dX12_feed_6 (g1.up (n_w1 e2)) ?_
  refine gw_sipush (v := 380) dX12_feed_9 sp_380 ?_
  refine gw_icmp_le (tgt := 17) dX12_feed_12 (by decide) (fun c3 => ?_) (fun c3 => ?_)
  · replace h := h.1 c3
    refine gw_iconst (v := 0) dX12_feed_17 ic_0 ?_
    refine gw_istore (lo' := [(0, .inr v0), (1, .inl v1), (2, .inl v2), (3, .inl v3), (4, .inl v4), (5, .inl v5), (6, .inl 0)]) dX12_feed_18 (by decide) rfl ?_
    exact h
  · replace h := h.2 c3
    refine gw_iconst (v := (-1)) dX12_feed_15 ic_m1 ?_
    exact gw_rI dX12_feed_16 rfl (by decide) (by decide) h
set_option maxHeartbeats 4000000 in
set_option maxRecDepth 20000 in
theorem eX12_in {l : Launch} {v0 : Int32} {v1 : Int32} {v2 : Int32} {σ : Sg} {K : Int32 → Sg → Prop} (h : ((v0 < v1 → K 0 σ) ∧ (¬ v0 < v1 → ((v2 < v0 → K 0 σ) ∧ (¬ v2 < v0 → K 1 σ))))) : Con l mX12_in [.inl v0, .inl v1, .inl v2] σ (PI K) := by
  refine con_gw rfl (Nat.le_of_ble_eq_true rfl) ?_
  show GW l mX12_in 0 [(0, .inl v0), (1, .inl v1), (2, .inl v2)] [] σ 0 0 (PI K)
  refine gw_iload_n (q := 0) dX12_in_0 rfl rfl ?_
  refine gw_iload_n (q := 1) dX12_in_1 rfl rfl ?_
  refine gw_icmp_lt (tgt := 14) dX12_in_2 (by decide) (fun c1 => ?_) (fun c1 => ?_)
  · replace h := h.1 c1
    refine gw_iconst (v := 0) dX12_in_14 ic_0 ?_
    exact gw_rZ dX12_in_15 rfl (by decide) (by decide) (by decide) h
  · replace h := h.2 c1
    refine gw_iload_n (q := 0) dX12_in_5 rfl rfl ?_
    refine gw_iload_n (q := 2) dX12_in_6 rfl rfl ?_
    refine gw_icmp_gt (tgt := 14) dX12_in_7 (by decide) (fun c2 => ?_) (fun c2 => ?_)
    · replace h := h.1 c2
      refine gw_iconst (v := 0) dX12_in_14 ic_0 ?_
      exact gw_rZ dX12_in_15 rfl (by decide) (by decide) (by decide) h
    · replace h := h.2 c2
      refine gw_iconst (v := 1) dX12_in_10 ic_1 ?_
      refine gw_goto (tgt := 15) dX12_in_11 (by decide) ?_
      exact gw_rZ dX12_in_15 rfl (by decide) (by decide) (by decide) h
set_option maxHeartbeats 4000000 in
set_option maxRecDepth 20000 in
theorem eX12_isArm {l : Launch} {v0 : Nat} {v1 : Int32} {σ : Sg} {K : Int32 → Sg → Prop} (h : ((v1 < 0 → K 0 σ) ∧ (¬ v1 < 0 → Ob σ v0 12 ∧ (((σ.2.1 v0 4) ≤ v1 → K 0 σ) ∧ (¬ (σ.2.1 v0 4) ≤ v1 → K 1 σ))))) : Con l mX12_isArm [.inr v0, .inl v1] σ (PI K) := by
  refine con_gw rfl (Nat.le_of_ble_eq_true rfl) ?_
  show GW l mX12_isArm 0 [(0, .inr v0), (1, .inl v1)] [] σ 0 0 (PI K)
  refine gw_iload_n (q := 1) dX12_isArm_0 rfl rfl ?_
  refine gw_if_lt (tgt := 16) dX12_isArm_1 (by decide) (fun c1 => ?_) (fun c1 => ?_)
  · replace h := h.1 c1
    refine gw_iconst (v := 0) dX12_isArm_16 ic_0 ?_
    exact gw_rZ dX12_isArm_17 rfl (by decide) (by decide) (by decide) h
  · replace h := h.2 c1
    refine gw_iload_n (q := 1) dX12_isArm_4 rfl rfl ?_
    refine gw_aload_n (q := 0) dX12_isArm_5 rfl rfl ?_
    obtain ⟨g2, h⟩ := h
    refine gw_gI fX12_141 dX12_isArm_6 g2 ?_
    refine gw_icmp_ge (tgt := 16) dX12_isArm_9 (by decide) (fun c3 => ?_) (fun c3 => ?_)
    · replace h := h.1 c3
      refine gw_iconst (v := 0) dX12_isArm_16 ic_0 ?_
      exact gw_rZ dX12_isArm_17 rfl (by decide) (by decide) (by decide) h
    · replace h := h.2 c3
      refine gw_iconst (v := 1) dX12_isArm_12 ic_1 ?_
      refine gw_goto (tgt := 17) dX12_isArm_13 (by decide) ?_
      exact gw_rZ dX12_isArm_17 rfl (by decide) (by decide) (by decide) h
set_option maxHeartbeats 4000000 in
set_option maxRecDepth 20000 in
theorem eX12_arm {l : Launch} {v0 : Nat} {v1 : Int32} {v2 : Int32} {σ : Sg} {K : Int32 → Sg → Prop} (h : Ob σ v0 12 ∧ ∀ σ2, σ2 = w1 σ v0 0 0 → Con l mX12_in [.inl v1, .inl 0, .inl 20] σ2 (PI (fun x3 σ3 => ((x3 = 0 → K (-1) σ3) ∧ (¬ x3 = 0 → Con l mX12_in [.inl v2, .inl 0, .inl 20] σ3 (PI (fun x5 σ5 => ((x5 = 0 → K (-1) σ5) ∧ (¬ x5 = 0 → ((¬ (σ5.2.1 v0 4) = 2 → Ai σ5 (σ5.2.2 v0 5) (σ5.2.1 v0 4) ∧ ∀ σ9, σ9 = w1 σ5 (σ5.2.2 v0 5) (σ5.2.1 v0 4).toNatClampNeg v1 → Ai σ9 (σ9.2.2 v0 6) (σ9.2.1 v0 4) ∧ ∀ σ11, σ11 = w1 σ9 (σ9.2.2 v0 6) (σ9.2.1 v0 4).toNatClampNeg v2 → Ai σ11 (σ11.2.2 v0 7) (σ11.2.1 v0 4) ∧ ∀ σ13, σ13 = w1 σ11 (σ11.2.2 v0 7) (σ11.2.1 v0 4).toNatClampNeg 0 → ∀ σ14, σ14 = w1 σ13 v0 4 ((σ13.2.1 v0 4) + 1) → K ((σ14.2.1 v0 4) - 1) σ14) ∧ ((σ5.2.1 v0 4) = 2 → K (-1) σ5))))))))))) : Con l mX12_arm [.inr v0, .inl v1, .inl v2] σ (PI K) := by
  refine con_gw rfl (Nat.le_of_ble_eq_true rfl) ?_
  show GW l mX12_arm 0 [(0, .inr v0), (1, .inl v1), (2, .inl v2)] [] σ 0 0 (PI K)
  refine gw_aload_n (q := 0) dX12_arm_0 rfl rfl ?_
  refine gw_iconst (v := 0) dX12_arm_1 ic_0 ?_
  obtain ⟨g1, h⟩ := h
  refine gw_pI fX12_135 dX12_arm_2 g1 (fun σ2 e2 => ?_)
  replace h := h σ2 e2
  refine gw_iload_n (q := 1) dX12_arm_5 rfl rfl ?_
  refine gw_iconst (v := 0) dX12_arm_6 ic_0 ?_
  refine gw_bipush (v := 20) dX12_arm_7 bp_20 ?_
  refine gw_sC (bs := [.inl v1, .inl 0, .inl 20]) (st := []) smX12_in lX12_144 dX12_arm_9 ⟨by decide, rfl, rfl, by decide, by decide⟩ (Nat.le_of_ble_eq_true rfl) rfl rfl h (kI (fun x3 σ3 h n3 => ?_))
  refine gw_if_eq (tgt := 33) dX12_arm_12 (by decide) (fun c4 => ?_) (fun c4 => ?_)
  · replace h := h.1 c4
    refine gw_iconst (v := (-1)) dX12_arm_33 ic_m1 ?_
    exact gw_rI dX12_arm_34 rfl (by decide) (by decide) h
  · replace h := h.2 c4
    refine gw_iload_n (q := 2) dX12_arm_15 rfl rfl ?_
    refine gw_iconst (v := 0) dX12_arm_16 ic_0 ?_
    refine gw_bipush (v := 20) dX12_arm_17 bp_20 ?_
    refine gw_sC (bs := [.inl v2, .inl 0, .inl 20]) (st := []) smX12_in lX12_144 dX12_arm_19 ⟨by decide, rfl, rfl, by decide, by decide⟩ (Nat.le_of_ble_eq_true rfl) rfl rfl h (kI (fun x5 σ5 h n5 => ?_))
    refine gw_if_eq (tgt := 33) dX12_arm_22 (by decide) (fun c6 => ?_) (fun c6 => ?_)
    · replace h := h.1 c6
      refine gw_iconst (v := (-1)) dX12_arm_33 ic_m1 ?_
      exact gw_rI dX12_arm_34 rfl (by decide) (by decide) h
    · replace h := h.2 c6
      refine gw_aload_n (q := 0) dX12_arm_25 rfl rfl ?_
      refine gw_gI fX12_141 dX12_arm_26 (((g1.up (n_w1 e2)).up n3).up n5) ?_
      refine gw_iconst (v := 2) dX12_arm_29 ic_2 ?_
      refine gw_icmp_ne (tgt := 35) dX12_arm_30 (by decide) (fun c7 => ?_) (fun c7 => ?_)
      · replace h := h.1 c7
        refine gw_aload_n (q := 0) dX12_arm_35 rfl rfl ?_
        refine gw_gR fX12_18 dX12_arm_36 (((g1.up (n_w1 e2)).up n3).up n5) ?_
        refine gw_aload_n (q := 0) dX12_arm_39 rfl rfl ?_
        refine gw_gI fX12_141 dX12_arm_40 (((g1.up (n_w1 e2)).up n3).up n5) ?_
        refine gw_iload_n (q := 1) dX12_arm_43 rfl rfl ?_
        obtain ⟨g8, h⟩ := h
        refine gw_sI dX12_arm_44 g8 (fun σ9 e9 => ?_)
        replace h := h σ9 e9
        refine gw_aload_n (q := 0) dX12_arm_45 rfl rfl ?_
        refine gw_gR fX12_21 dX12_arm_46 ((((g1.up (n_w1 e2)).up n3).up n5).up (n_w1 e9)) ?_
        refine gw_aload_n (q := 0) dX12_arm_49 rfl rfl ?_
        refine gw_gI fX12_141 dX12_arm_50 ((((g1.up (n_w1 e2)).up n3).up n5).up (n_w1 e9)) ?_
        refine gw_iload_n (q := 2) dX12_arm_53 rfl rfl ?_
        obtain ⟨g10, h⟩ := h
        refine gw_sI dX12_arm_54 g10 (fun σ11 e11 => ?_)
        replace h := h σ11 e11
        refine gw_aload_n (q := 0) dX12_arm_55 rfl rfl ?_
        refine gw_gR fX12_24 dX12_arm_56 (((((g1.up (n_w1 e2)).up n3).up n5).up (n_w1 e9)).up (n_w1 e11)) ?_
        refine gw_aload_n (q := 0) dX12_arm_59 rfl rfl ?_
        refine gw_gI fX12_141 dX12_arm_60 (((((g1.up (n_w1 e2)).up n3).up n5).up (n_w1 e9)).up (n_w1 e11)) ?_
        refine gw_iconst (v := 0) dX12_arm_63 ic_0 ?_
        obtain ⟨g12, h⟩ := h
        refine gw_sI dX12_arm_64 g12 (fun σ13 e13 => ?_)
        replace h := h σ13 e13
        refine gw_aload_n (q := 0) dX12_arm_65 rfl rfl ?_
        refine gw_dup dX12_arm_66 ?_
        refine gw_gI fX12_141 dX12_arm_67 ((((((g1.up (n_w1 e2)).up n3).up n5).up (n_w1 e9)).up (n_w1 e11)).up (n_w1 e13)) ?_
        refine gw_iconst (v := 1) dX12_arm_70 ic_1 ?_
        refine gw_iadd dX12_arm_71 ?_
        refine gw_pI fX12_141 dX12_arm_72 ((((((g1.up (n_w1 e2)).up n3).up n5).up (n_w1 e9)).up (n_w1 e11)).up (n_w1 e13)) (fun σ14 e14 => ?_)
        replace h := h σ14 e14
        refine gw_aload_n (q := 0) dX12_arm_75 rfl rfl ?_
        refine gw_gI fX12_141 dX12_arm_76 (((((((g1.up (n_w1 e2)).up n3).up n5).up (n_w1 e9)).up (n_w1 e11)).up (n_w1 e13)).up (n_w1 e14)) ?_
        refine gw_iconst (v := 1) dX12_arm_79 ic_1 ?_
        refine gw_isub dX12_arm_80 ?_
        exact gw_rI dX12_arm_81 rfl (by decide) (by decide) h
      · replace h := h.2 c7
        refine gw_iconst (v := (-1)) dX12_arm_33 ic_m1 ?_
        exact gw_rI dX12_arm_34 rfl (by decide) (by decide) h
set_option maxHeartbeats 4000000 in
set_option maxRecDepth 20000 in
theorem gX12_joint_69 {l : Launch} {v0 : Nat} {v1 : Int32} {v2 : Int32} {v3 : Int32} {v4 : Int32} {v5 : Int32} {v6 : Int32} {σ : Sg} {K : Int32 → Sg → Prop} (h : Ob σ v0 12 ∧ (((σ.2.1 v0 16) ≤ v6 → Ai σ (σ.2.2 v0 7) v1 ∧ Ai σ (σ.2.2 v0 8) ((3 * v1) + (σ.2.1 (σ.2.2 v0 7) v1.toNatClampNeg)) ∧ ∀ σ5, σ5 = w1 σ (σ.2.2 v0 8) ((3 * v1) + (σ.2.1 (σ.2.2 v0 7) v1.toNatClampNeg)).toNatClampNeg v2 → Ai σ5 (σ5.2.2 v0 9) ((3 * v1) + (σ.2.1 (σ.2.2 v0 7) v1.toNatClampNeg)) ∧ ∀ σ7, σ7 = w1 σ5 (σ5.2.2 v0 9) ((3 * v1) + (σ.2.1 (σ.2.2 v0 7) v1.toNatClampNeg)).toNatClampNeg v3 → Ai σ7 (σ7.2.2 v0 10) ((3 * v1) + (σ.2.1 (σ.2.2 v0 7) v1.toNatClampNeg)) ∧ ∀ σ9, σ9 = w1 σ7 (σ7.2.2 v0 10) ((3 * v1) + (σ.2.1 (σ.2.2 v0 7) v1.toNatClampNeg)).toNatClampNeg v4 → Ai σ9 (σ9.2.2 v0 11) ((3 * v1) + (σ.2.1 (σ.2.2 v0 7) v1.toNatClampNeg)) ∧ ∀ σ11, σ11 = w1 σ9 (σ9.2.2 v0 11) ((3 * v1) + (σ.2.1 (σ.2.2 v0 7) v1.toNatClampNeg)).toNatClampNeg v5 → Ai σ11 (σ11.2.2 v0 7) v1 ∧ ∀ σ13, σ13 = w1 σ11 (σ11.2.2 v0 7) v1.toNatClampNeg ((σ11.2.1 (σ11.2.2 v0 7) v1.toNatClampNeg) + 1) → Ai σ13 (σ13.2.2 v0 7) v1 ∧ K ((σ13.2.1 (σ13.2.2 v0 7) v1.toNatClampNeg) - 1) σ13) ∧ (¬ (σ.2.1 v0 16) ≤ v6 → Ai σ (σ.2.2 v0 17) v6 ∧ ((¬ (σ.2.1 (σ.2.2 v0 17) v6.toNatClampNeg) = v1 → GW l mX12_joint 69 [(0, .inr v0), (1, .inl v1), (2, .inl v2), (3, .inl v3), (4, .inl v4), (5, .inl v5), (6, .inl (v6 + 1))] [] σ 0 0 (PI K)) ∧ ((σ.2.1 (σ.2.2 v0 17) v6.toNatClampNeg) = v1 → K (-1) σ))))) : GW l mX12_joint 69 [(0, .inr v0), (1, .inl v1), (2, .inl v2), (3, .inl v3), (4, .inl v4), (5, .inl v5), (6, .inl v6)] [] σ 0 0 (PI K) := by
  refine gw_iload (q := 6) dX12_joint_69 rfl ?_
  refine gw_aload_n (q := 0) dX12_joint_71 rfl rfl ?_
  obtain ⟨g1, h⟩ := h
  refine gw_gI fX12_152 dX12_joint_72 g1 ?_
  refine gw_icmp_ge (tgt := 97) dX12_joint_75 (by decide) (fun c2 => ?_) (fun c2 => ?_)
  · replace h := h.1 c2
    refine gw_iconst (v := 3) dX12_joint_97 ic_3 ?_
    refine gw_iload_n (q := 1) dX12_joint_98 rfl rfl ?_
    refine gw_imul dX12_joint_99 ?_
    refine gw_aload_n (q := 0) dX12_joint_100 rfl rfl ?_
    refine gw_gR fX12_24 dX12_joint_101 g1 ?_
    refine gw_iload_n (q := 1) dX12_joint_104 rfl rfl ?_
    obtain ⟨g3, h⟩ := h
    refine gw_aI dX12_joint_105 g3 ?_
    refine gw_iadd dX12_joint_106 ?_
    refine gw_istore (lo' := [(0, .inr v0), (1, .inl v1), (2, .inl v2), (3, .inl v3), (4, .inl v4), (5, .inl v5), (6, .inl ((3 * v1) + (σ.2.1 (σ.2.2 v0 7) v1.toNatClampNeg)))]) dX12_joint_107 (by decide) rfl ?_
    refine gw_aload_n (q := 0) dX12_joint_109 rfl rfl ?_
    refine gw_gR fX12_27 dX12_joint_110 g1 ?_
    refine gw_iload (q := 6) dX12_joint_113 rfl ?_
    refine gw_iload_n (q := 2) dX12_joint_115 rfl rfl ?_
    obtain ⟨g4, h⟩ := h
    refine gw_sI dX12_joint_116 g4 (fun σ5 e5 => ?_)
    replace h := h σ5 e5
    refine gw_aload_n (q := 0) dX12_joint_117 rfl rfl ?_
    refine gw_gR fX12_30 dX12_joint_118 (g1.up (n_w1 e5)) ?_
    refine gw_iload (q := 6) dX12_joint_121 rfl ?_
    refine gw_iload_n (q := 3) dX12_joint_123 rfl rfl ?_
    obtain ⟨g6, h⟩ := h
    refine gw_sI dX12_joint_124 g6 (fun σ7 e7 => ?_)
    replace h := h σ7 e7
    refine gw_aload_n (q := 0) dX12_joint_125 rfl rfl ?_
    refine gw_gR fX12_33 dX12_joint_126 ((g1.up (n_w1 e5)).up (n_w1 e7)) ?_
    refine gw_iload (q := 6) dX12_joint_129 rfl ?_
    refine gw_iload (q := 4) dX12_joint_131 rfl ?_
    obtain ⟨g8, h⟩ := h
    refine gw_sI dX12_joint_133 g8 (fun σ9 e9 => ?_)
    replace h := h σ9 e9
    refine gw_aload_n (q := 0) dX12_joint_134 rfl rfl ?_
    refine gw_gR fX12_36 dX12_joint_135 (((g1.up (n_w1 e5)).up (n_w1 e7)).up (n_w1 e9)) ?_
    refine gw_iload (q := 6) dX12_joint_138 rfl ?_
    refine gw_iload (q := 5) dX12_joint_140 rfl ?_
    obtain ⟨g10, h⟩ := h
    refine gw_sI dX12_joint_142 g10 (fun σ11 e11 => ?_)
    replace h := h σ11 e11
    refine gw_aload_n (q := 0) dX12_joint_143 rfl rfl ?_
    refine gw_gR fX12_24 dX12_joint_144 ((((g1.up (n_w1 e5)).up (n_w1 e7)).up (n_w1 e9)).up (n_w1 e11)) ?_
    refine gw_iload_n (q := 1) dX12_joint_147 rfl rfl ?_
    refine gw_dup2 dX12_joint_148 ?_
    obtain ⟨g12, h⟩ := h
    refine gw_aI dX12_joint_149 g12 ?_
    refine gw_iconst (v := 1) dX12_joint_150 ic_1 ?_
    refine gw_iadd dX12_joint_151 ?_
    refine gw_sI dX12_joint_152 g12 (fun σ13 e13 => ?_)
    replace h := h σ13 e13
    refine gw_aload_n (q := 0) dX12_joint_153 rfl rfl ?_
    refine gw_gR fX12_24 dX12_joint_154 (((((g1.up (n_w1 e5)).up (n_w1 e7)).up (n_w1 e9)).up (n_w1 e11)).up (n_w1 e13)) ?_
    refine gw_iload_n (q := 1) dX12_joint_157 rfl rfl ?_
    obtain ⟨g14, h⟩ := h
    refine gw_aI dX12_joint_158 g14 ?_
    refine gw_iconst (v := 1) dX12_joint_159 ic_1 ?_
    refine gw_isub dX12_joint_160 ?_
    exact gw_rI dX12_joint_161 rfl (by decide) (by decide) h
  · replace h := h.2 c2
    refine gw_aload_n (q := 0) dX12_joint_78 rfl rfl ?_
    refine gw_gR fX12_51 dX12_joint_79 g1 ?_
    refine gw_iload (q := 6) dX12_joint_82 rfl ?_
    obtain ⟨g15, h⟩ := h
    refine gw_aI dX12_joint_84 g15 ?_
    refine gw_iload_n (q := 1) dX12_joint_85 rfl rfl ?_
    refine gw_icmp_ne (tgt := 91) dX12_joint_86 (by decide) (fun c16 => ?_) (fun c16 => ?_)
    · replace h := h.1 c16
      refine gw_inc (lo' := [(0, .inr v0), (1, .inl v1), (2, .inl v2), (3, .inl v3), (4, .inl v4), (5, .inl v5), (6, .inl (v6 + 1))]) (q := 6) (c := 1) dX12_joint_91 ic_1 rfl (by decide) rfl ?_
      refine gw_goto (tgt := 69) dX12_joint_94 (by decide) ?_
      exact h
    · replace h := h.2 c16
      refine gw_iconst (v := (-1)) dX12_joint_89 ic_m1 ?_
      exact gw_rI dX12_joint_90 rfl (by decide) (by decide) h
set_option maxHeartbeats 4000000 in
set_option maxRecDepth 20000 in
theorem eX12_joint {l : Launch} {v0 : Nat} {v1 : Int32} {v2 : Int32} {v3 : Int32} {v4 : Int32} {v5 : Int32} {σ : Sg} {K : Int32 → Sg → Prop} (h : Ob σ v0 12 ∧ ∀ σ2, σ2 = w1 σ v0 0 0 → Con l mX12_isArm [.inr v0, .inl v1] σ2 (PI (fun x3 σ3 => ((x3 = 0 → K (-1) σ3) ∧ (¬ x3 = 0 → Ai σ3 (σ3.2.2 v0 7) v1 ∧ (((σ3.2.1 (σ3.2.2 v0 7) v1.toNatClampNeg) = 3 → K (-1) σ3) ∧ (¬ (σ3.2.1 (σ3.2.2 v0 7) v1.toNatClampNeg) = 3 → Con l mX12_in [.inl v2, .inl 1, .inl 6] σ3 (PI (fun x7 σ7 => ((x7 = 0 → K (-1) σ7) ∧ (¬ x7 = 0 → Con l mX12_in [.inl v3, .inl 0, .inl 15] σ7 (PI (fun x9 σ9 => ((x9 = 0 → K (-1) σ9) ∧ (¬ x9 = 0 → Con l mX12_in [.inl v4, .inl v3, .inl 15] σ9 (PI (fun x11 σ11 => ((x11 = 0 → K (-1) σ11) ∧ (¬ x11 = 0 → Con l mX12_in [.inl v5, .inl 1, .inl 3] σ11 (PI (fun x13 σ13 => ((¬ x13 = 0 → GW l mX12_joint 69 [(0, .inr v0), (1, .inl v1), (2, .inl v2), (3, .inl v3), (4, .inl v4), (5, .inl v5), (6, .inl 0)] [] σ13 0 0 (PI K)) ∧ (x13 = 0 → K (-1) σ13))))))))))))))))))))))) : Con l mX12_joint [.inr v0, .inl v1, .inl v2, .inl v3, .inl v4, .inl v5] σ (PI K) := by
  refine con_gw rfl (Nat.le_of_ble_eq_true rfl) ?_
  show GW l mX12_joint 0 [(0, .inr v0), (1, .inl v1), (2, .inl v2), (3, .inl v3), (4, .inl v4), (5, .inl v5)] [] σ 0 0 (PI K)
  refine gw_aload_n (q := 0) dX12_joint_0 rfl rfl ?_
  refine gw_iconst (v := 0) dX12_joint_1 ic_0 ?_
  obtain ⟨g1, h⟩ := h
  refine gw_pI fX12_135 dX12_joint_2 g1 (fun σ2 e2 => ?_)
  replace h := h σ2 e2
  refine gw_aload_n (q := 0) dX12_joint_5 rfl rfl ?_
  refine gw_iload_n (q := 1) dX12_joint_6 rfl rfl ?_
  refine gw_vC (bs := [.inl v1]) (st := []) (vmX12_isArm) lX12_148 dX12_joint_7 ⟨by decide, rfl, rfl, by decide, by decide⟩ (Nat.le_of_ble_eq_true rfl) rfl rfl (g1.up (n_w1 e2)) h (kI (fun x3 σ3 h n3 => ?_))
  refine gw_if_eq (tgt := 64) dX12_joint_10 (by decide) (fun c4 => ?_) (fun c4 => ?_)
  · replace h := h.1 c4
    refine gw_iconst (v := (-1)) dX12_joint_64 ic_m1 ?_
    exact gw_rI dX12_joint_65 rfl (by decide) (by decide) h
  · replace h := h.2 c4
    refine gw_aload_n (q := 0) dX12_joint_13 rfl rfl ?_
    refine gw_gR fX12_24 dX12_joint_14 ((g1.up (n_w1 e2)).up n3) ?_
    refine gw_iload_n (q := 1) dX12_joint_17 rfl rfl ?_
    obtain ⟨g5, h⟩ := h
    refine gw_aI dX12_joint_18 g5 ?_
    refine gw_iconst (v := 3) dX12_joint_19 ic_3 ?_
    refine gw_icmp_eq (tgt := 64) dX12_joint_20 (by decide) (fun c6 => ?_) (fun c6 => ?_)
    · replace h := h.1 c6
      refine gw_iconst (v := (-1)) dX12_joint_64 ic_m1 ?_
      exact gw_rI dX12_joint_65 rfl (by decide) (by decide) h
    · replace h := h.2 c6
      refine gw_iload_n (q := 2) dX12_joint_23 rfl rfl ?_
      refine gw_iconst (v := 1) dX12_joint_24 ic_1 ?_
      refine gw_bipush (v := 6) dX12_joint_25 bp_6 ?_
      refine gw_sC (bs := [.inl v2, .inl 1, .inl 6]) (st := []) smX12_in lX12_144 dX12_joint_27 ⟨by decide, rfl, rfl, by decide, by decide⟩ (Nat.le_of_ble_eq_true rfl) rfl rfl h (kI (fun x7 σ7 h n7 => ?_))
      refine gw_if_eq (tgt := 64) dX12_joint_30 (by decide) (fun c8 => ?_) (fun c8 => ?_)
      · replace h := h.1 c8
        refine gw_iconst (v := (-1)) dX12_joint_64 ic_m1 ?_
        exact gw_rI dX12_joint_65 rfl (by decide) (by decide) h
      · replace h := h.2 c8
        refine gw_iload_n (q := 3) dX12_joint_33 rfl rfl ?_
        refine gw_iconst (v := 0) dX12_joint_34 ic_0 ?_
        refine gw_bipush (v := 15) dX12_joint_35 bp_15 ?_
        refine gw_sC (bs := [.inl v3, .inl 0, .inl 15]) (st := []) smX12_in lX12_144 dX12_joint_37 ⟨by decide, rfl, rfl, by decide, by decide⟩ (Nat.le_of_ble_eq_true rfl) rfl rfl h (kI (fun x9 σ9 h n9 => ?_))
        refine gw_if_eq (tgt := 64) dX12_joint_40 (by decide) (fun c10 => ?_) (fun c10 => ?_)
        · replace h := h.1 c10
          refine gw_iconst (v := (-1)) dX12_joint_64 ic_m1 ?_
          exact gw_rI dX12_joint_65 rfl (by decide) (by decide) h
        · replace h := h.2 c10
          refine gw_iload (q := 4) dX12_joint_43 rfl ?_
          refine gw_iload_n (q := 3) dX12_joint_45 rfl rfl ?_
          refine gw_bipush (v := 15) dX12_joint_46 bp_15 ?_
          refine gw_sC (bs := [.inl v4, .inl v3, .inl 15]) (st := []) smX12_in lX12_144 dX12_joint_48 ⟨by decide, rfl, rfl, by decide, by decide⟩ (Nat.le_of_ble_eq_true rfl) rfl rfl h (kI (fun x11 σ11 h n11 => ?_))
          refine gw_if_eq (tgt := 64) dX12_joint_51 (by decide) (fun c12 => ?_) (fun c12 => ?_)
          · replace h := h.1 c12
            refine gw_iconst (v := (-1)) dX12_joint_64 ic_m1 ?_
            exact gw_rI dX12_joint_65 rfl (by decide) (by decide) h
          · replace h := h.2 c12
            refine gw_iload (q := 5) dX12_joint_54 rfl ?_
            refine gw_iconst (v := 1) dX12_joint_56 ic_1 ?_
            refine gw_iconst (v := 3) dX12_joint_57 ic_3 ?_
            refine gw_sC (bs := [.inl v5, .inl 1, .inl 3]) (st := []) smX12_in lX12_144 dX12_joint_58 ⟨by decide, rfl, rfl, by decide, by decide⟩ (Nat.le_of_ble_eq_true rfl) rfl rfl h (kI (fun x13 σ13 h n13 => ?_))
            refine gw_if_ne (tgt := 66) dX12_joint_61 (by decide) (fun c14 => ?_) (fun c14 => ?_)
            · replace h := h.1 c14
              refine gw_iconst (v := 0) dX12_joint_66 ic_0 ?_
              refine gw_istore (lo' := [(0, .inr v0), (1, .inl v1), (2, .inl v2), (3, .inl v3), (4, .inl v4), (5, .inl v5), (6, .inl 0)]) dX12_joint_67 (by decide) rfl ?_
              exact h
            · replace h := h.2 c14
              refine gw_iconst (v := (-1)) dX12_joint_64 ic_m1 ?_
              exact gw_rI dX12_joint_65 rfl (by decide) (by decide) h
