set_option maxHeartbeats 4000000 in
set_option maxRecDepth 20000 in
theorem gX12_stops_167 {l : Launch} {v0 : Nat} {v1 : Int32} {v2 : Int32} {v3 : Int32} {v4 : Int32} {v5 : Int32} {v6 : Int32} {v7 : Int32} {v8 : Int32} {v9 : Int32} {v10 : Int32} {v11 : Int32} {σ : Sg} {K : Int32 → Sg → Prop} (h : ((¬ v9 = 0 → GW l mX12_stops 51 [(0, .inr v0), (1, .inl v1), (2, .inl v2), (3, .inl v3), (4, .inl v4), (5, .inl v5), (6, .inl v6), (7, .inl v7), (8, .inl v8), (9, .inl 1), (10, .inl (v10 + 1))] [] σ 0 0 (PI K)) ∧ (v9 = 0 → Ob σ v0 12 ∧ Az σ (σ.2.2 v0 44) (v7 + v10) ∧ (((σ.2.1 (σ.2.2 v0 44) (v7 + v10).toNatClampNeg) = 0 → GW l mX12_stops 51 [(0, .inr v0), (1, .inl v1), (2, .inl v2), (3, .inl v3), (4, .inl v4), (5, .inl v5), (6, .inl v6), (7, .inl v7), (8, .inl v8), (9, .inl 0), (10, .inl (v10 + 1))] [] σ 0 0 (PI K)) ∧ (¬ (σ.2.1 (σ.2.2 v0 44) (v7 + v10).toNatClampNeg) = 0 → GW l mX12_stops 51 [(0, .inr v0), (1, .inl v1), (2, .inl v2), (3, .inl v3), (4, .inl v4), (5, .inl v5), (6, .inl v6), (7, .inl v7), (8, .inl v8), (9, .inl 1), (10, .inl (v10 + 1))] [] σ 0 0 (PI K)))))) : GW l mX12_stops 167 [(0, .inr v0), (1, .inl v1), (2, .inl v2), (3, .inl v3), (4, .inl v4), (5, .inl v5), (6, .inl v6), (7, .inl v7), (8, .inl v8), (9, .inl v9), (10, .inl v10), (11, .inl v11)] [] σ 0 0 (PI K) := by
  refine gw_iload (q := 9) dX12_stops_167 rfl ?_
  refine gw_if_ne (tgt := 185) dX12_stops_169 (by decide) (fun c1 => ?_) (fun c1 => ?_)
  · replace h := h.1 c1
    refine gw_iconst (v := 1) dX12_stops_185 ic_1 ?_
    refine gw_goto (tgt := 190) dX12_stops_186 (by decide) ?_
    refine gw_istore (lo' := [(0, .inr v0), (1, .inl v1), (2, .inl v2), (3, .inl v3), (4, .inl v4), (5, .inl v5), (6, .inl v6), (7, .inl v7), (8, .inl v8), (9, .inl 1), (10, .inl v10), (11, .inl v11)]) dX12_stops_190 (by decide) rfl ?_
    refine gw_inc (lo' := [(0, .inr v0), (1, .inl v1), (2, .inl v2), (3, .inl v3), (4, .inl v4), (5, .inl v5), (6, .inl v6), (7, .inl v7), (8, .inl v8), (9, .inl 1), (10, .inl (v10 + 1)), (11, .inl v11)]) (q := 10) (c := 1) dX12_stops_192 ic_1 rfl (by decide) rfl ?_
    refine gw_goto (tgt := 51) dX12_stops_195 (by decide) ?_
    refine gw_pick [0, 1, 2, 3, 4, 5, 6, 7, 8, 9, 10] rfl ?_
    exact h
  · replace h := h.2 c1
    refine gw_aload_n (q := 0) dX12_stops_172 rfl rfl ?_
    obtain ⟨g2, h⟩ := h
    refine gw_gR fX12_95 dX12_stops_173 g2 ?_
    refine gw_iload (q := 7) dX12_stops_176 rfl ?_
    refine gw_iload (q := 10) dX12_stops_178 rfl ?_
    refine gw_iadd dX12_stops_180 ?_
    obtain ⟨g3, h⟩ := h
    refine gw_aZ dX12_stops_181 g3 ?_
    refine gw_if_eq (tgt := 189) dX12_stops_182 (by decide) (fun c4 => ?_) (fun c4 => ?_)
    · replace h := h.1 c4
      refine gw_iconst (v := 0) dX12_stops_189 ic_0 ?_
      refine gw_istore (lo' := [(0, .inr v0), (1, .inl v1), (2, .inl v2), (3, .inl v3), (4, .inl v4), (5, .inl v5), (6, .inl v6), (7, .inl v7), (8, .inl v8), (9, .inl 0), (10, .inl v10), (11, .inl v11)]) dX12_stops_190 (by decide) rfl ?_
      refine gw_inc (lo' := [(0, .inr v0), (1, .inl v1), (2, .inl v2), (3, .inl v3), (4, .inl v4), (5, .inl v5), (6, .inl v6), (7, .inl v7), (8, .inl v8), (9, .inl 0), (10, .inl (v10 + 1)), (11, .inl v11)]) (q := 10) (c := 1) dX12_stops_192 ic_1 rfl (by decide) rfl ?_
      refine gw_goto (tgt := 51) dX12_stops_195 (by decide) ?_
      refine gw_pick [0, 1, 2, 3, 4, 5, 6, 7, 8, 9, 10] rfl ?_
      exact h
    · replace h := h.2 c4
      refine gw_iconst (v := 1) dX12_stops_185 ic_1 ?_
      refine gw_goto (tgt := 190) dX12_stops_186 (by decide) ?_
      refine gw_istore (lo' := [(0, .inr v0), (1, .inl v1), (2, .inl v2), (3, .inl v3), (4, .inl v4), (5, .inl v5), (6, .inl v6), (7, .inl v7), (8, .inl v8), (9, .inl 1), (10, .inl v10), (11, .inl v11)]) dX12_stops_190 (by decide) rfl ?_
      refine gw_inc (lo' := [(0, .inr v0), (1, .inl v1), (2, .inl v2), (3, .inl v3), (4, .inl v4), (5, .inl v5), (6, .inl v6), (7, .inl v7), (8, .inl v8), (9, .inl 1), (10, .inl (v10 + 1)), (11, .inl v11)]) (q := 10) (c := 1) dX12_stops_192 ic_1 rfl (by decide) rfl ?_
      refine gw_goto (tgt := 51) dX12_stops_195 (by decide) ?_
      refine gw_pick [0, 1, 2, 3, 4, 5, 6, 7, 8, 9, 10] rfl ?_
      exact h
set_option maxHeartbeats 4000000 in
set_option maxRecDepth 20000 in
theorem gX12_stops_92 {l : Launch} {v0 : Nat} {v1 : Int32} {v2 : Int32} {v3 : Int32} {v4 : Int32} {v5 : Int32} {v6 : Int32} {v7 : Int32} {v8 : Int32} {v9 : Int32} {v10 : Int32} {v11 : Int32} {σ : Sg} {K : Int32 → Sg → Prop} (h : ((v5 ≤ v11 → ((¬ v6 = 0 → GW l mX12_stops 167 [(0, .inr v0), (1, .inl v1), (2, .inl v2), (3, .inl v3), (4, .inl v4), (5, .inl v5), (6, .inl v6), (7, .inl v7), (8, .inl v8), (9, .inl v9), (10, .inl v10), (11, .inl v11)] [] σ 0 0 (PI K)) ∧ (v6 = 0 → Ob σ v0 12 ∧ Az σ (σ.2.2 v0 44) (v7 + v10) ∧ ∀ σ5, σ5 = w1 σ (σ.2.2 v0 44) (v7 + v10).toNatClampNeg 1 → GW l mX12_stops 167 [(0, .inr v0), (1, .inl v1), (2, .inl v2), (3, .inl v3), (4, .inl v4), (5, .inl v5), (6, .inl v6), (7, .inl v7), (8, .inl v8), (9, .inl v9), (10, .inl v10), (11, .inl v11)] [] σ5 0 0 (PI K)))) ∧ (¬ v5 ≤ v11 → ((v6 ≤ 0 → ((¬ v6 = 0 → GW l mX12_stops 167 [(0, .inr v0), (1, .inl v1), (2, .inl v2), (3, .inl v3), (4, .inl v4), (5, .inl v5), (6, .inl v6), (7, .inl v7), (8, .inl v8), (9, .inl v9), (10, .inl v10), (11, .inl v11)] [] σ 0 0 (PI K)) ∧ (v6 = 0 → Ob σ v0 12 ∧ Az σ (σ.2.2 v0 44) (v7 + v10) ∧ ∀ σ10, σ10 = w1 σ (σ.2.2 v0 44) (v7 + v10).toNatClampNeg 1 → GW l mX12_stops 167 [(0, .inr v0), (1, .inl v1), (2, .inl v2), (3, .inl v3), (4, .inl v4), (5, .inl v5), (6, .inl v6), (7, .inl v7), (8, .inl v8), (9, .inl v9), (10, .inl v10), (11, .inl v11)] [] σ10 0 0 (PI K)))) ∧ (¬ v6 ≤ 0 → Ob σ v0 12 ∧ Con l mX12_beside [.inr v0, .inl v2, .inl v10, .inl v11] σ (PI (fun x11 σ11 => ((x11 = (-1) → GW l mX12_stops 92 [(0, .inr v0), (1, .inl v1), (2, .inl v2), (3, .inl v3), (4, .inl v4), (5, .inl v5), (6, .inl v6), (7, .inl v7), (8, .inl v8), (9, .inl v9), (10, .inl v10), (11, .inl (v11 + 1))] [] σ11 0 0 (PI K)) ∧ (¬ x11 = (-1) → Az σ11 (σ11.2.2 v0 44) (v8 + x11) ∧ (((σ11.2.1 (σ11.2.2 v0 44) (v8 + x11).toNatClampNeg) = 0 → GW l mX12_stops 92 [(0, .inr v0), (1, .inl v1), (2, .inl v2), (3, .inl v3), (4, .inl v4), (5, .inl v5), (6, .inl v6), (7, .inl v7), (8, .inl v8), (9, .inl v9), (10, .inl v10), (11, .inl (v11 + 1))] [] σ11 0 0 (PI K)) ∧ (¬ (σ11.2.1 (σ11.2.2 v0 44) (v8 + x11).toNatClampNeg) = 0 → Az σ11 (σ11.2.2 v0 44) (v7 + v10) ∧ ∀ σ17, σ17 = w1 σ11 (σ11.2.2 v0 44) (v7 + v10).toNatClampNeg 1 → GW l mX12_stops 92 [(0, .inr v0), (1, .inl v1), (2, .inl v2), (3, .inl v3), (4, .inl v4), (5, .inl v5), (6, .inl v6), (7, .inl v7), (8, .inl v8), (9, .inl v9), (10, .inl v10), (11, .inl (v11 + 1))] [] σ17 0 0 (PI K)))))))))))) : GW l mX12_stops 92 [(0, .inr v0), (1, .inl v1), (2, .inl v2), (3, .inl v3), (4, .inl v4), (5, .inl v5), (6, .inl v6), (7, .inl v7), (8, .inl v8), (9, .inl v9), (10, .inl v10), (11, .inl v11)] [] σ 0 0 (PI K) := by
  refine gw_iload (q := 11) dX12_stops_92 rfl ?_
  refine gw_iload (q := 5) dX12_stops_94 rfl ?_
  refine gw_icmp_ge (tgt := 151) dX12_stops_96 (by decide) (fun c1 => ?_) (fun c1 => ?_)
  · replace h := h.1 c1
    refine gw_iload (q := 6) dX12_stops_151 rfl ?_
    refine gw_if_ne (tgt := 167) dX12_stops_153 (by decide) (fun c2 => ?_) (fun c2 => ?_)
    · replace h := h.1 c2
      exact h
    · replace h := h.2 c2
      refine gw_aload_n (q := 0) dX12_stops_156 rfl rfl ?_
      obtain ⟨g3, h⟩ := h
      refine gw_gR fX12_95 dX12_stops_157 g3 ?_
      refine gw_iload (q := 7) dX12_stops_160 rfl ?_
      refine gw_iload (q := 10) dX12_stops_162 rfl ?_
      refine gw_iadd dX12_stops_164 ?_
      refine gw_iconst (v := 1) dX12_stops_165 ic_1 ?_
      obtain ⟨g4, h⟩ := h
      refine gw_sZ dX12_stops_166 (by decide) g4 (fun σ5 e5 => ?_)
      replace h := h σ5 e5
      exact h
  · replace h := h.2 c1
    refine gw_iload (q := 6) dX12_stops_99 rfl ?_
    refine gw_if_le (tgt := 151) dX12_stops_101 (by decide) (fun c6 => ?_) (fun c6 => ?_)
    · replace h := h.1 c6
      refine gw_iload (q := 6) dX12_stops_151 rfl ?_
      refine gw_if_ne (tgt := 167) dX12_stops_153 (by decide) (fun c7 => ?_) (fun c7 => ?_)
      · replace h := h.1 c7
        exact h
      · replace h := h.2 c7
        refine gw_aload_n (q := 0) dX12_stops_156 rfl rfl ?_
        obtain ⟨g8, h⟩ := h
        refine gw_gR fX12_95 dX12_stops_157 g8 ?_
        refine gw_iload (q := 7) dX12_stops_160 rfl ?_
        refine gw_iload (q := 10) dX12_stops_162 rfl ?_
        refine gw_iadd dX12_stops_164 ?_
        refine gw_iconst (v := 1) dX12_stops_165 ic_1 ?_
        obtain ⟨g9, h⟩ := h
        refine gw_sZ dX12_stops_166 (by decide) g9 (fun σ10 e10 => ?_)
        replace h := h σ10 e10
        exact h
    · replace h := h.2 c6
      refine gw_aload_n (q := 0) dX12_stops_104 rfl rfl ?_
      refine gw_iload_n (q := 2) dX12_stops_105 rfl rfl ?_
      refine gw_iload (q := 10) dX12_stops_106 rfl ?_
      refine gw_iload (q := 11) dX12_stops_108 rfl ?_
      obtain ⟨g12, h⟩ := h
      refine gw_vC (bs := [.inl v2, .inl v10, .inl v11]) (st := []) (vmX12_beside) lX12_317 dX12_stops_110 ⟨by decide, rfl, rfl, by decide, by decide⟩ (Nat.le_of_ble_eq_true rfl) rfl rfl g12 h (kI (fun x11 σ11 h n11 => ?_))
      refine gw_istore (lo' := [(0, .inr v0), (1, .inl v1), (2, .inl v2), (3, .inl v3), (4, .inl v4), (5, .inl v5), (6, .inl v6), (7, .inl v7), (8, .inl v8), (9, .inl v9), (10, .inl v10), (11, .inl v11), (12, .inl x11)]) dX12_stops_113 (by decide) rfl ?_
      refine gw_iload (q := 12) dX12_stops_115 rfl ?_
      refine gw_iconst (v := (-1)) dX12_stops_117 ic_m1 ?_
      refine gw_icmp_eq (tgt := 145) dX12_stops_118 (by decide) (fun c13 => ?_) (fun c13 => ?_)
      · replace h := h.1 c13
        refine gw_inc (lo' := [(0, .inr v0), (1, .inl v1), (2, .inl v2), (3, .inl v3), (4, .inl v4), (5, .inl v5), (6, .inl v6), (7, .inl v7), (8, .inl v8), (9, .inl v9), (10, .inl v10), (11, .inl (v11 + 1)), (12, .inl x11)]) (q := 11) (c := 1) dX12_stops_145 ic_1 rfl (by decide) rfl ?_
        refine gw_goto (tgt := 92) dX12_stops_148 (by decide) ?_
        refine gw_pick [0, 1, 2, 3, 4, 5, 6, 7, 8, 9, 10, 11] rfl ?_
        exact h
      · replace h := h.2 c13
        refine gw_aload_n (q := 0) dX12_stops_121 rfl rfl ?_
        refine gw_gR fX12_95 dX12_stops_122 (g12.up n11) ?_
        refine gw_iload (q := 8) dX12_stops_125 rfl ?_
        refine gw_iload (q := 12) dX12_stops_127 rfl ?_
        refine gw_iadd dX12_stops_129 ?_
        obtain ⟨g14, h⟩ := h
        refine gw_aZ dX12_stops_130 g14 ?_
        refine gw_if_eq (tgt := 145) dX12_stops_131 (by decide) (fun c15 => ?_) (fun c15 => ?_)
        · replace h := h.1 c15
          refine gw_inc (lo' := [(0, .inr v0), (1, .inl v1), (2, .inl v2), (3, .inl v3), (4, .inl v4), (5, .inl v5), (6, .inl v6), (7, .inl v7), (8, .inl v8), (9, .inl v9), (10, .inl v10), (11, .inl (v11 + 1)), (12, .inl x11)]) (q := 11) (c := 1) dX12_stops_145 ic_1 rfl (by decide) rfl ?_
          refine gw_goto (tgt := 92) dX12_stops_148 (by decide) ?_
          refine gw_pick [0, 1, 2, 3, 4, 5, 6, 7, 8, 9, 10, 11] rfl ?_
          exact h
        · replace h := h.2 c15
          refine gw_aload_n (q := 0) dX12_stops_134 rfl rfl ?_
          refine gw_gR fX12_95 dX12_stops_135 (g12.up n11) ?_
          refine gw_iload (q := 7) dX12_stops_138 rfl ?_
          refine gw_iload (q := 10) dX12_stops_140 rfl ?_
          refine gw_iadd dX12_stops_142 ?_
          refine gw_iconst (v := 1) dX12_stops_143 ic_1 ?_
          obtain ⟨g16, h⟩ := h
          refine gw_sZ dX12_stops_144 (by decide) g16 (fun σ17 e17 => ?_)
          replace h := h σ17 e17
          refine gw_inc (lo' := [(0, .inr v0), (1, .inl v1), (2, .inl v2), (3, .inl v3), (4, .inl v4), (5, .inl v5), (6, .inl v6), (7, .inl v7), (8, .inl v8), (9, .inl v9), (10, .inl v10), (11, .inl (v11 + 1)), (12, .inl x11)]) (q := 11) (c := 1) dX12_stops_145 ic_1 rfl (by decide) rfl ?_
          refine gw_goto (tgt := 92) dX12_stops_148 (by decide) ?_
          refine gw_pick [0, 1, 2, 3, 4, 5, 6, 7, 8, 9, 10, 11] rfl ?_
          exact h
set_option maxHeartbeats 4000000 in
set_option maxRecDepth 20000 in
theorem gX12_stops_51 {l : Launch} {v0 : Nat} {v1 : Int32} {v2 : Int32} {v3 : Int32} {v4 : Int32} {v5 : Int32} {v6 : Int32} {v7 : Int32} {v8 : Int32} {v9 : Int32} {v10 : Int32} {σ : Sg} {K : Int32 → Sg → Prop} (h : ((4096 ≤ v10 → ((¬ v9 = 0 → GW l mX12_stops 16 [(0, .inr v0), (1, .inl v1), (2, .inl v2), (3, .inl v3), (4, .inl v4), (5, .inl v5), (6, .inl (v6 + 1))] [] σ 0 0 (PI K)) ∧ (v9 = 0 → K v6 σ))) ∧ (¬ 4096 ≤ v10 → Ob σ v0 12 ∧ Az σ (σ.2.2 v0 44) (v7 + v10) ∧ ∀ σ5, σ5 = w1 σ (σ.2.2 v0 44) (v7 + v10).toNatClampNeg 0 → Con l mX12_isThere [.inr v0, .inl v1, .inl v2, .inl v6, .inl v3, .inl v4, .inl v10] σ5 (PI (fun x6 σ6 => ((¬ x6 = 0 → GW l mX12_stops 92 [(0, .inr v0), (1, .inl v1), (2, .inl v2), (3, .inl v3), (4, .inl v4), (5, .inl v5), (6, .inl v6), (7, .inl v7), (8, .inl v8), (9, .inl v9), (10, .inl v10), (11, .inl 0)] [] σ6 0 0 (PI K)) ∧ (x6 = 0 → GW l mX12_stops 51 [(0, .inr v0), (1, .inl v1), (2, .inl v2), (3, .inl v3), (4, .inl v4), (5, .inl v5), (6, .inl v6), (7, .inl v7), (8, .inl v8), (9, .inl v9), (10, .inl (v10 + 1))] [] σ6 0 0 (PI K)))))))) : GW l mX12_stops 51 [(0, .inr v0), (1, .inl v1), (2, .inl v2), (3, .inl v3), (4, .inl v4), (5, .inl v5), (6, .inl v6), (7, .inl v7), (8, .inl v8), (9, .inl v9), (10, .inl v10)] [] σ 0 0 (PI K) := by
  refine gw_iload (q := 10) dX12_stops_51 rfl ?_
  refine gw_sipush (v := 4096) dX12_stops_53 sp_4096 ?_
  refine gw_icmp_ge (tgt := 198) dX12_stops_56 (by decide) (fun c1 => ?_) (fun c1 => ?_)
  · replace h := h.1 c1
    refine gw_iload (q := 9) dX12_stops_198 rfl ?_
    refine gw_if_ne (tgt := 206) dX12_stops_200 (by decide) (fun c2 => ?_) (fun c2 => ?_)
    · replace h := h.1 c2
      refine gw_inc (lo' := [(0, .inr v0), (1, .inl v1), (2, .inl v2), (3, .inl v3), (4, .inl v4), (5, .inl v5), (6, .inl (v6 + 1)), (7, .inl v7), (8, .inl v8), (9, .inl v9), (10, .inl v10)]) (q := 6) (c := 1) dX12_stops_206 ic_1 rfl (by decide) rfl ?_
      refine gw_goto (tgt := 16) dX12_stops_209 (by decide) ?_
      refine gw_pick [0, 1, 2, 3, 4, 5, 6] rfl ?_
      exact h
    · replace h := h.2 c2
      refine gw_iload (q := 6) dX12_stops_203 rfl ?_
      exact gw_rI dX12_stops_205 rfl (by decide) (by decide) h
  · replace h := h.2 c1
    refine gw_aload_n (q := 0) dX12_stops_59 rfl rfl ?_
    obtain ⟨g3, h⟩ := h
    refine gw_gR fX12_95 dX12_stops_60 g3 ?_
    refine gw_iload (q := 7) dX12_stops_63 rfl ?_
    refine gw_iload (q := 10) dX12_stops_65 rfl ?_
    refine gw_iadd dX12_stops_67 ?_
    refine gw_iconst (v := 0) dX12_stops_68 ic_0 ?_
    obtain ⟨g4, h⟩ := h
    refine gw_sZ dX12_stops_69 (by decide) g4 (fun σ5 e5 => ?_)
    replace h := h σ5 e5
    refine gw_aload_n (q := 0) dX12_stops_70 rfl rfl ?_
    refine gw_iload_n (q := 1) dX12_stops_71 rfl rfl ?_
    refine gw_iload_n (q := 2) dX12_stops_72 rfl rfl ?_
    refine gw_iload (q := 6) dX12_stops_73 rfl ?_
    refine gw_iload_n (q := 3) dX12_stops_75 rfl rfl ?_
    refine gw_iload (q := 4) dX12_stops_76 rfl ?_
    refine gw_iload (q := 10) dX12_stops_78 rfl ?_
    refine gw_vC (bs := [.inl v1, .inl v2, .inl v6, .inl v3, .inl v4, .inl v10]) (st := []) (vmX12_isThere) lX12_313 dX12_stops_80 ⟨by decide, rfl, rfl, by decide, by decide⟩ (Nat.le_of_ble_eq_true rfl) rfl rfl (g3.up (n_w1 e5)) h (kI (fun x6 σ6 h n6 => ?_))
    refine gw_if_ne (tgt := 89) dX12_stops_83 (by decide) (fun c7 => ?_) (fun c7 => ?_)
    · replace h := h.1 c7
      refine gw_iconst (v := 0) dX12_stops_89 ic_0 ?_
      refine gw_istore (lo' := [(0, .inr v0), (1, .inl v1), (2, .inl v2), (3, .inl v3), (4, .inl v4), (5, .inl v5), (6, .inl v6), (7, .inl v7), (8, .inl v8), (9, .inl v9), (10, .inl v10), (11, .inl 0)]) dX12_stops_90 (by decide) rfl ?_
      exact h
    · replace h := h.2 c7
      refine gw_goto (tgt := 192) dX12_stops_86 (by decide) ?_
      refine gw_inc (lo' := [(0, .inr v0), (1, .inl v1), (2, .inl v2), (3, .inl v3), (4, .inl v4), (5, .inl v5), (6, .inl v6), (7, .inl v7), (8, .inl v8), (9, .inl v9), (10, .inl (v10 + 1))]) (q := 10) (c := 1) dX12_stops_192 ic_1 rfl (by decide) rfl ?_
      refine gw_goto (tgt := 51) dX12_stops_195 (by decide) ?_
      exact h
set_option maxHeartbeats 4000000 in
set_option maxRecDepth 20000 in
theorem gX12_stops_16 {l : Launch} {v0 : Nat} {v1 : Int32} {v2 : Int32} {v3 : Int32} {v4 : Int32} {v5 : Int32} {v6 : Int32} {σ : Sg} {K : Int32 → Sg → Prop} (h : Ob σ v0 12 ∧ Ai σ (σ.2.2 v0 18) v1 ∧ (((σ.2.1 (σ.2.2 v0 18) v1.toNatClampNeg) ≤ v6 → K (-1) σ) ∧ (¬ (σ.2.1 (σ.2.2 v0 18) v1.toNatClampNeg) ≤ v6 → GW l mX12_stops 51 [(0, .inr v0), (1, .inl v1), (2, .inl v2), (3, .inl v3), (4, .inl v4), (5, .inl v5), (6, .inl v6), (7, .inl (4096 * (v6 - v6 / 2 * 2))), (8, .inl (4096 - (4096 * (v6 - v6 / 2 * 2)))), (9, .inl 0), (10, .inl 0)] [] σ 0 0 (PI K)))) : GW l mX12_stops 16 [(0, .inr v0), (1, .inl v1), (2, .inl v2), (3, .inl v3), (4, .inl v4), (5, .inl v5), (6, .inl v6)] [] σ 0 0 (PI K) := by
  refine gw_iload (q := 6) dX12_stops_16 rfl ?_
  refine gw_aload_n (q := 0) dX12_stops_18 rfl rfl ?_
  obtain ⟨g1, h⟩ := h
  refine gw_gR fX12_54 dX12_stops_19 g1 ?_
  refine gw_iload_n (q := 1) dX12_stops_22 rfl rfl ?_
  obtain ⟨g2, h⟩ := h
  refine gw_aI dX12_stops_23 g2 ?_
  refine gw_icmp_ge (tgt := 212) dX12_stops_24 (by decide) (fun c3 => ?_) (fun c3 => ?_)
  · replace h := h.1 c3
    refine gw_iconst (v := (-1)) dX12_stops_212 ic_m1 ?_
    exact gw_rI dX12_stops_213 rfl (by decide) (by decide) h
  · replace h := h.2 c3
    refine gw_sipush (v := 4096) dX12_stops_27 sp_4096 ?_
    refine gw_iload (q := 6) dX12_stops_30 rfl ?_
    refine gw_iconst (v := 2) dX12_stops_32 ic_2 ?_
    refine gw_irem dX12_stops_33 (by decide) ?_
    refine gw_imul dX12_stops_34 ?_
    refine gw_istore (lo' := [(0, .inr v0), (1, .inl v1), (2, .inl v2), (3, .inl v3), (4, .inl v4), (5, .inl v5), (6, .inl v6), (7, .inl (4096 * (v6 - v6 / 2 * 2)))]) dX12_stops_35 (by decide) rfl ?_
    refine gw_sipush (v := 4096) dX12_stops_37 sp_4096 ?_
    refine gw_iload (q := 7) dX12_stops_40 rfl ?_
    refine gw_isub dX12_stops_42 ?_
    refine gw_istore (lo' := [(0, .inr v0), (1, .inl v1), (2, .inl v2), (3, .inl v3), (4, .inl v4), (5, .inl v5), (6, .inl v6), (7, .inl (4096 * (v6 - v6 / 2 * 2))), (8, .inl (4096 - (4096 * (v6 - v6 / 2 * 2))))]) dX12_stops_43 (by decide) rfl ?_
    refine gw_iconst (v := 0) dX12_stops_45 ic_0 ?_
    refine gw_istore (lo' := [(0, .inr v0), (1, .inl v1), (2, .inl v2), (3, .inl v3), (4, .inl v4), (5, .inl v5), (6, .inl v6), (7, .inl (4096 * (v6 - v6 / 2 * 2))), (8, .inl (4096 - (4096 * (v6 - v6 / 2 * 2)))), (9, .inl 0)]) dX12_stops_46 (by decide) rfl ?_
    refine gw_iconst (v := 0) dX12_stops_48 ic_0 ?_
    refine gw_istore (lo' := [(0, .inr v0), (1, .inl v1), (2, .inl v2), (3, .inl v3), (4, .inl v4), (5, .inl v5), (6, .inl v6), (7, .inl (4096 * (v6 - v6 / 2 * 2))), (8, .inl (4096 - (4096 * (v6 - v6 / 2 * 2)))), (9, .inl 0), (10, .inl 0)]) dX12_stops_49 (by decide) rfl ?_
    exact h
set_option maxHeartbeats 4000000 in
set_option maxRecDepth 20000 in
theorem eX12_stops {l : Launch} {v0 : Nat} {v1 : Int32} {v2 : Int32} {v3 : Int32} {v4 : Int32} {σ : Sg} {K : Int32 → Sg → Prop} (h : Ob σ v0 12 ∧ Ai σ (σ.2.2 v0 7) v2 ∧ Con l mX12_besides [.inr v0, .inl v2, .inl (σ.2.1 (σ.2.2 v0 7) v2.toNatClampNeg)] σ (PI (fun x3 σ3 => GW l mX12_stops 16 [(0, .inr v0), (1, .inl v1), (2, .inl v2), (3, .inl v3), (4, .inl v4), (5, .inl x3), (6, .inl 0)] [] σ3 0 0 (PI K)))) : Con l mX12_stops [.inr v0, .inl v1, .inl v2, .inl v3, .inl v4] σ (PI K) := by
  refine con_gw rfl (Nat.le_of_ble_eq_true rfl) ?_
  show GW l mX12_stops 0 [(0, .inr v0), (1, .inl v1), (2, .inl v2), (3, .inl v3), (4, .inl v4)] [] σ 0 0 (PI K)
  refine gw_aload_n (q := 0) dX12_stops_0 rfl rfl ?_
  refine gw_iload_n (q := 2) dX12_stops_1 rfl rfl ?_
  refine gw_aload_n (q := 0) dX12_stops_2 rfl rfl ?_
  obtain ⟨g1, h⟩ := h
  refine gw_gR fX12_24 dX12_stops_3 g1 ?_
  refine gw_iload_n (q := 2) dX12_stops_6 rfl rfl ?_
  obtain ⟨g2, h⟩ := h
  refine gw_aI dX12_stops_7 g2 ?_
  refine gw_vC (bs := [.inl v2, .inl (σ.2.1 (σ.2.2 v0 7) v2.toNatClampNeg)]) (st := []) (vmX12_besides) lX12_310 dX12_stops_8 ⟨by decide, rfl, rfl, by decide, by decide⟩ (Nat.le_of_ble_eq_true rfl) rfl rfl g1 h (kI (fun x3 σ3 h n3 => ?_))
  refine gw_istore (lo' := [(0, .inr v0), (1, .inl v1), (2, .inl v2), (3, .inl v3), (4, .inl v4), (5, .inl x3)]) dX12_stops_11 (by decide) rfl ?_
  refine gw_iconst (v := 0) dX12_stops_13 ic_0 ?_
  refine gw_istore (lo' := [(0, .inr v0), (1, .inl v1), (2, .inl v2), (3, .inl v3), (4, .inl v4), (5, .inl x3), (6, .inl 0)]) dX12_stops_14 (by decide) rfl ?_
  exact h
set_option maxHeartbeats 4000000 in
set_option maxRecDepth 20000 in
theorem eX12_isError {l : Launch} {v0 : Int32} {σ : Sg} {K : Int32 → Sg → Prop} (h : Con l mX12_in [.inl v0, .inl 0, .inl 2000] σ (PI (fun x1 σ1 => (x1 = 0 ∨ x1 = 1) ∧ K x1 σ1))) : Con l mX12_isError [.inl v0] σ (PI K) := by
  refine con_gw rfl (Nat.le_of_ble_eq_true rfl) ?_
  show GW l mX12_isError 0 [(0, .inl v0)] [] σ 0 0 (PI K)
  refine gw_iload_n (q := 0) dX12_isError_0 rfl rfl ?_
  refine gw_iconst (v := 0) dX12_isError_1 ic_0 ?_
  refine gw_sipush (v := 2000) dX12_isError_2 sp_2000 ?_
  refine gw_sC (bs := [.inl v0, .inl 0, .inl 2000]) (st := []) smX12_in lX12_144 dX12_isError_5 ⟨by decide, rfl, rfl, by decide, by decide⟩ (Nat.le_of_ble_eq_true rfl) rfl rfl h (kI (fun x1 σ1 h n1 => ?_))
  obtain ⟨z2, h⟩ := h
  exact gw_rZ dX12_isError_8 rfl z2 (by decide) (by decide) h
set_option maxHeartbeats 4000000 in
set_option maxRecDepth 20000 in
theorem gX12_follow_121 {l : Launch} {v0 : Nat} {v1 : Int32} {v2 : Int32} {v3 : Int32} {v4 : Int32} {v5 : Int32} {σ : Sg} {K : Int32 → Sg → Prop} (h : Ob σ v0 12 ∧ Ai σ (σ.2.2 v0 18) v1 ∧ (((σ.2.1 (σ.2.2 v0 18) v1.toNatClampNeg) ≤ v5 → ∀ σ4, σ4 = w1 σ v0 16 ((σ.2.1 v0 16) + 1) → K ((σ4.2.1 v0 16) - 1) σ4) ∧ (¬ (σ.2.1 (σ.2.2 v0 18) v1.toNatClampNeg) ≤ v5 → Ai σ (σ.2.2 v0 45) v5 ∧ Ai σ (σ.2.2 v0 19) ((40 * (σ.2.1 v0 16)) + v5) ∧ ∀ σ7, σ7 = w1 σ (σ.2.2 v0 19) ((40 * (σ.2.1 v0 16)) + v5).toNatClampNeg (σ.2.1 (σ.2.2 v0 45) v5.toNatClampNeg) → Ai σ7 (σ7.2.2 v0 20) ((40 * v1) + v5) ∧ Ai σ7 (σ7.2.2 v0 20) ((40 * (σ7.2.1 v0 16)) + v5) ∧ ∀ σ10, σ10 = w1 σ7 (σ7.2.2 v0 20) ((40 * (σ7.2.1 v0 16)) + v5).toNatClampNeg (σ7.2.1 (σ7.2.2 v0 20) ((40 * v1) + v5).toNatClampNeg) → GW l mX12_follow 121 [(0, .inr v0), (1, .inl v1), (2, .inl v2), (3, .inl v3), (4, .inl v4), (5, .inl (v5 + 1))] [] σ10 0 0 (PI K)))) : GW l mX12_follow 121 [(0, .inr v0), (1, .inl v1), (2, .inl v2), (3, .inl v3), (4, .inl v4), (5, .inl v5)] [] σ 0 0 (PI K) := by
  refine gw_iload (q := 5) dX12_follow_121 rfl ?_
  refine gw_aload_n (q := 0) dX12_follow_123 rfl rfl ?_
  obtain ⟨g1, h⟩ := h
  refine gw_gR fX12_54 dX12_follow_124 g1 ?_
  refine gw_iload_n (q := 1) dX12_follow_127 rfl rfl ?_
  obtain ⟨g2, h⟩ := h
  refine gw_aI dX12_follow_128 g2 ?_
  refine gw_icmp_ge (tgt := 187) dX12_follow_129 (by decide) (fun c3 => ?_) (fun c3 => ?_)
  · replace h := h.1 c3
    refine gw_aload_n (q := 0) dX12_follow_187 rfl rfl ?_
    refine gw_dup dX12_follow_188 ?_
    refine gw_gI fX12_152 dX12_follow_189 g1 ?_
    refine gw_iconst (v := 1) dX12_follow_192 ic_1 ?_
    refine gw_iadd dX12_follow_193 ?_
    refine gw_pI fX12_152 dX12_follow_194 g1 (fun σ4 e4 => ?_)
    replace h := h σ4 e4
    refine gw_aload_n (q := 0) dX12_follow_197 rfl rfl ?_
    refine gw_gI fX12_152 dX12_follow_198 (g1.up (n_w1 e4)) ?_
    refine gw_iconst (v := 1) dX12_follow_201 ic_1 ?_
    refine gw_isub dX12_follow_202 ?_
    exact gw_rI dX12_follow_203 rfl (by decide) (by decide) h
  · replace h := h.2 c3
    refine gw_aload_n (q := 0) dX12_follow_132 rfl rfl ?_
    refine gw_gR fX12_57 dX12_follow_133 g1 ?_
    refine gw_bipush (v := 40) dX12_follow_136 bp_40 ?_
    refine gw_aload_n (q := 0) dX12_follow_138 rfl rfl ?_
    refine gw_gI fX12_152 dX12_follow_139 g1 ?_
    refine gw_imul dX12_follow_142 ?_
    refine gw_iload (q := 5) dX12_follow_143 rfl ?_
    refine gw_iadd dX12_follow_145 ?_
    refine gw_aload_n (q := 0) dX12_follow_146 rfl rfl ?_
    refine gw_gR fX12_99 dX12_follow_147 g1 ?_
    refine gw_iload (q := 5) dX12_follow_150 rfl ?_
    obtain ⟨g5, h⟩ := h
    refine gw_aI dX12_follow_152 g5 ?_
    obtain ⟨g6, h⟩ := h
    refine gw_sI dX12_follow_153 g6 (fun σ7 e7 => ?_)
    replace h := h σ7 e7
    refine gw_aload_n (q := 0) dX12_follow_154 rfl rfl ?_
    refine gw_gR fX12_60 dX12_follow_155 (g1.up (n_w1 e7)) ?_
    refine gw_bipush (v := 40) dX12_follow_158 bp_40 ?_
    refine gw_aload_n (q := 0) dX12_follow_160 rfl rfl ?_
    refine gw_gI fX12_152 dX12_follow_161 (g1.up (n_w1 e7)) ?_
    refine gw_imul dX12_follow_164 ?_
    refine gw_iload (q := 5) dX12_follow_165 rfl ?_
    refine gw_iadd dX12_follow_167 ?_
    refine gw_aload_n (q := 0) dX12_follow_168 rfl rfl ?_
    refine gw_gR fX12_60 dX12_follow_169 (g1.up (n_w1 e7)) ?_
    refine gw_bipush (v := 40) dX12_follow_172 bp_40 ?_
    refine gw_iload_n (q := 1) dX12_follow_174 rfl rfl ?_
    refine gw_imul dX12_follow_175 ?_
    refine gw_iload (q := 5) dX12_follow_176 rfl ?_
    refine gw_iadd dX12_follow_178 ?_
    obtain ⟨g8, h⟩ := h
    refine gw_aI dX12_follow_179 g8 ?_
    obtain ⟨g9, h⟩ := h
    refine gw_sI dX12_follow_180 g9 (fun σ10 e10 => ?_)
    replace h := h σ10 e10
    refine gw_inc (lo' := [(0, .inr v0), (1, .inl v1), (2, .inl v2), (3, .inl v3), (4, .inl v4), (5, .inl (v5 + 1))]) (q := 5) (c := 1) dX12_follow_181 ic_1 rfl (by decide) rfl ?_
    refine gw_goto (tgt := 121) dX12_follow_184 (by decide) ?_
    exact h
set_option maxHeartbeats 4000000 in
set_option maxRecDepth 20000 in
theorem eX12_follow {l : Launch} {v0 : Nat} {v1 : Int32} {v2 : Int32} {v3 : Int32} {v4 : Int32} {σ : Sg} {K : Int32 → Sg → Prop} (h : Ob σ v0 12 ∧ ∀ σ2, σ2 = w1 σ v0 0 0 → Con l mX12_isTape [.inr v0, .inl v1] σ2 (PI (fun x3 σ3 => ((x3 = 0 → K (-1) σ3) ∧ (¬ x3 = 0 → Ai σ3 (σ3.2.2 v0 18) v1 ∧ (((σ3.2.1 (σ3.2.2 v0 18) v1.toNatClampNeg) = 0 → K (-1) σ3) ∧ (¬ (σ3.2.1 (σ3.2.2 v0 18) v1.toNatClampNeg) = 0 → Con l mX12_isArm [.inr v0, .inl v2] σ3 (PI (fun x7 σ7 => ((x7 = 0 → K (-1) σ7) ∧ (¬ x7 = 0 → Ai σ7 (σ7.2.2 v0 7) v2 ∧ (((σ7.2.1 (σ7.2.2 v0 7) v2.toNatClampNeg) = 0 → K (-1) σ7) ∧ (¬ (σ7.2.1 (σ7.2.2 v0 7) v2.toNatClampNeg) = 0 → Con l mX12_isDrift [.inl v3] σ7 (PI (fun x11 σ11 => ((x11 = 0 → K (-1) σ11) ∧ (¬ x11 = 0 → Con l mX12_isError [.inl v4] σ11 (PI (fun x13 σ13 => ((x13 = 0 → K (-1) σ13) ∧ (¬ x13 = 0 → ((¬ (σ13.2.1 v0 16) = 10 → Con l mX12_follows [.inr v0, .inl v1, .inl v2, .inl v3, .inl v4] σ13 (PI (fun x16 σ16 => ((¬ x16 = 0 → ∀ σ18, σ18 = w1 σ16 v0 40 (-1) → ∀ σ19, σ19 = w1 σ18 v0 41 (σ18.2.1 v0 42) → Ai σ19 (σ19.2.2 v0 17) (σ19.2.1 v0 16) ∧ ∀ σ21, σ21 = w1 σ19 (σ19.2.2 v0 17) (σ19.2.1 v0 16).toNatClampNeg v2 → Ai σ21 (σ21.2.2 v0 18) v1 ∧ Ai σ21 (σ21.2.2 v0 18) (σ21.2.1 v0 16) ∧ ∀ σ24, σ24 = w1 σ21 (σ21.2.2 v0 18) (σ21.2.1 v0 16).toNatClampNeg (σ21.2.1 (σ21.2.2 v0 18) v1.toNatClampNeg) → GW l mX12_follow 121 [(0, .inr v0), (1, .inl v1), (2, .inl v2), (3, .inl v3), (4, .inl v4), (5, .inl 0)] [] σ24 0 0 (PI K)) ∧ (x16 = 0 → K (-2) σ16))))) ∧ ((σ13.2.1 v0 16) = 10 → K (-1) σ13))))))))))))))))))))))) : Con l mX12_follow [.inr v0, .inl v1, .inl v2, .inl v3, .inl v4] σ (PI K) := by
  refine con_gw rfl (Nat.le_of_ble_eq_true rfl) ?_
  show GW l mX12_follow 0 [(0, .inr v0), (1, .inl v1), (2, .inl v2), (3, .inl v3), (4, .inl v4)] [] σ 0 0 (PI K)
  refine gw_aload_n (q := 0) dX12_follow_0 rfl rfl ?_
  refine gw_iconst (v := 0) dX12_follow_1 ic_0 ?_
  obtain ⟨g1, h⟩ := h
  refine gw_pI fX12_135 dX12_follow_2 g1 (fun σ2 e2 => ?_)
  replace h := h σ2 e2
  refine gw_aload_n (q := 0) dX12_follow_5 rfl rfl ?_
  refine gw_iload_n (q := 1) dX12_follow_6 rfl rfl ?_
  refine gw_vC (bs := [.inl v1]) (st := []) (vmX12_isTape) lX12_181 dX12_follow_7 ⟨by decide, rfl, rfl, by decide, by decide⟩ (Nat.le_of_ble_eq_true rfl) rfl rfl (g1.up (n_w1 e2)) h (kI (fun x3 σ3 h n3 => ?_))
  refine gw_if_eq (tgt := 63) dX12_follow_10 (by decide) (fun c4 => ?_) (fun c4 => ?_)
  · replace h := h.1 c4
    refine gw_iconst (v := (-1)) dX12_follow_63 ic_m1 ?_
    exact gw_rI dX12_follow_64 rfl (by decide) (by decide) h
  · replace h := h.2 c4
    refine gw_aload_n (q := 0) dX12_follow_13 rfl rfl ?_
    refine gw_gR fX12_54 dX12_follow_14 ((g1.up (n_w1 e2)).up n3) ?_
    refine gw_iload_n (q := 1) dX12_follow_17 rfl rfl ?_
    obtain ⟨g5, h⟩ := h
    refine gw_aI dX12_follow_18 g5 ?_
    refine gw_if_eq (tgt := 63) dX12_follow_19 (by decide) (fun c6 => ?_) (fun c6 => ?_)
    · replace h := h.1 c6
      refine gw_iconst (v := (-1)) dX12_follow_63 ic_m1 ?_
      exact gw_rI dX12_follow_64 rfl (by decide) (by decide) h
    · replace h := h.2 c6
      refine gw_aload_n (q := 0) dX12_follow_22 rfl rfl ?_
      refine gw_iload_n (q := 2) dX12_follow_23 rfl rfl ?_
      refine gw_vC (bs := [.inl v2]) (st := []) (vmX12_isArm) lX12_148 dX12_follow_24 ⟨by decide, rfl, rfl, by decide, by decide⟩ (Nat.le_of_ble_eq_true rfl) rfl rfl ((g1.up (n_w1 e2)).up n3) h (kI (fun x7 σ7 h n7 => ?_))
      refine gw_if_eq (tgt := 63) dX12_follow_27 (by decide) (fun c8 => ?_) (fun c8 => ?_)
      · replace h := h.1 c8
        refine gw_iconst (v := (-1)) dX12_follow_63 ic_m1 ?_
        exact gw_rI dX12_follow_64 rfl (by decide) (by decide) h
      · replace h := h.2 c8
        refine gw_aload_n (q := 0) dX12_follow_30 rfl rfl ?_
        refine gw_gR fX12_24 dX12_follow_31 (((g1.up (n_w1 e2)).up n3).up n7) ?_
        refine gw_iload_n (q := 2) dX12_follow_34 rfl rfl ?_
        obtain ⟨g9, h⟩ := h
        refine gw_aI dX12_follow_35 g9 ?_
        refine gw_if_eq (tgt := 63) dX12_follow_36 (by decide) (fun c10 => ?_) (fun c10 => ?_)
        · replace h := h.1 c10
          refine gw_iconst (v := (-1)) dX12_follow_63 ic_m1 ?_
          exact gw_rI dX12_follow_64 rfl (by decide) (by decide) h
        · replace h := h.2 c10
          refine gw_iload_n (q := 3) dX12_follow_39 rfl rfl ?_
          refine gw_sC (bs := [.inl v3]) (st := []) smX12_isDrift lX12_293 dX12_follow_40 ⟨by decide, rfl, rfl, by decide, by decide⟩ (Nat.le_of_ble_eq_true rfl) rfl rfl h (kI (fun x11 σ11 h n11 => ?_))
          refine gw_if_eq (tgt := 63) dX12_follow_43 (by decide) (fun c12 => ?_) (fun c12 => ?_)
          · replace h := h.1 c12
            refine gw_iconst (v := (-1)) dX12_follow_63 ic_m1 ?_
            exact gw_rI dX12_follow_64 rfl (by decide) (by decide) h
          · replace h := h.2 c12
            refine gw_iload (q := 4) dX12_follow_46 rfl ?_
            refine gw_sC (bs := [.inl v4]) (st := []) smX12_isError lX12_330 dX12_follow_48 ⟨by decide, rfl, rfl, by decide, by decide⟩ (Nat.le_of_ble_eq_true rfl) rfl rfl h (kI (fun x13 σ13 h n13 => ?_))
            refine gw_if_eq (tgt := 63) dX12_follow_51 (by decide) (fun c14 => ?_) (fun c14 => ?_)
            · replace h := h.1 c14
              refine gw_iconst (v := (-1)) dX12_follow_63 ic_m1 ?_
              exact gw_rI dX12_follow_64 rfl (by decide) (by decide) h
            · replace h := h.2 c14
              refine gw_aload_n (q := 0) dX12_follow_54 rfl rfl ?_
              refine gw_gI fX12_152 dX12_follow_55 (((((g1.up (n_w1 e2)).up n3).up n7).up n11).up n13) ?_
              refine gw_bipush (v := 10) dX12_follow_58 bp_10 ?_
              refine gw_icmp_ne (tgt := 65) dX12_follow_60 (by decide) (fun c15 => ?_) (fun c15 => ?_)
              · replace h := h.1 c15
                refine gw_aload_n (q := 0) dX12_follow_65 rfl rfl ?_
                refine gw_iload_n (q := 1) dX12_follow_66 rfl rfl ?_
                refine gw_iload_n (q := 2) dX12_follow_67 rfl rfl ?_
                refine gw_iload_n (q := 3) dX12_follow_68 rfl rfl ?_
                refine gw_iload (q := 4) dX12_follow_69 rfl ?_
                refine gw_vC (bs := [.inl v1, .inl v2, .inl v3, .inl v4]) (st := []) (vmX12_follows) lX12_333 dX12_follow_71 ⟨by decide, rfl, rfl, by decide, by decide⟩ (Nat.le_of_ble_eq_true rfl) rfl rfl (((((g1.up (n_w1 e2)).up n3).up n7).up n11).up n13) h (kI (fun x16 σ16 h n16 => ?_))
                refine gw_if_ne (tgt := 80) dX12_follow_74 (by decide) (fun c17 => ?_) (fun c17 => ?_)
                · replace h := h.1 c17
                  refine gw_aload_n (q := 0) dX12_follow_80 rfl rfl ?_
                  refine gw_iconst (v := (-1)) dX12_follow_81 ic_m1 ?_
                  refine gw_pI fX12_85 dX12_follow_82 ((((((g1.up (n_w1 e2)).up n3).up n7).up n11).up n13).up n16) (fun σ18 e18 => ?_)
                  replace h := h σ18 e18
                  refine gw_aload_n (q := 0) dX12_follow_85 rfl rfl ?_
                  refine gw_aload_n (q := 0) dX12_follow_86 rfl rfl ?_
                  refine gw_gI fX12_327 dX12_follow_87 (((((((g1.up (n_w1 e2)).up n3).up n7).up n11).up n13).up n16).up (n_w1 e18)) ?_
                  refine gw_pI fX12_88 dX12_follow_90 (((((((g1.up (n_w1 e2)).up n3).up n7).up n11).up n13).up n16).up (n_w1 e18)) (fun σ19 e19 => ?_)
                  replace h := h σ19 e19
                  refine gw_aload_n (q := 0) dX12_follow_93 rfl rfl ?_
                  refine gw_gR fX12_51 dX12_follow_94 ((((((((g1.up (n_w1 e2)).up n3).up n7).up n11).up n13).up n16).up (n_w1 e18)).up (n_w1 e19)) ?_
                  refine gw_aload_n (q := 0) dX12_follow_97 rfl rfl ?_
                  refine gw_gI fX12_152 dX12_follow_98 ((((((((g1.up (n_w1 e2)).up n3).up n7).up n11).up n13).up n16).up (n_w1 e18)).up (n_w1 e19)) ?_
                  refine gw_iload_n (q := 2) dX12_follow_101 rfl rfl ?_
                  obtain ⟨g20, h⟩ := h
                  refine gw_sI dX12_follow_102 g20 (fun σ21 e21 => ?_)
                  replace h := h σ21 e21
                  refine gw_aload_n (q := 0) dX12_follow_103 rfl rfl ?_
                  refine gw_gR fX12_54 dX12_follow_104 (((((((((g1.up (n_w1 e2)).up n3).up n7).up n11).up n13).up n16).up (n_w1 e18)).up (n_w1 e19)).up (n_w1 e21)) ?_
                  refine gw_aload_n (q := 0) dX12_follow_107 rfl rfl ?_
                  refine gw_gI fX12_152 dX12_follow_108 (((((((((g1.up (n_w1 e2)).up n3).up n7).up n11).up n13).up n16).up (n_w1 e18)).up (n_w1 e19)).up (n_w1 e21)) ?_
                  refine gw_aload_n (q := 0) dX12_follow_111 rfl rfl ?_
                  refine gw_gR fX12_54 dX12_follow_112 (((((((((g1.up (n_w1 e2)).up n3).up n7).up n11).up n13).up n16).up (n_w1 e18)).up (n_w1 e19)).up (n_w1 e21)) ?_
                  refine gw_iload_n (q := 1) dX12_follow_115 rfl rfl ?_
                  obtain ⟨g22, h⟩ := h
                  refine gw_aI dX12_follow_116 g22 ?_
                  obtain ⟨g23, h⟩ := h
                  refine gw_sI dX12_follow_117 g23 (fun σ24 e24 => ?_)
                  replace h := h σ24 e24
                  refine gw_iconst (v := 0) dX12_follow_118 ic_0 ?_
                  refine gw_istore (lo' := [(0, .inr v0), (1, .inl v1), (2, .inl v2), (3, .inl v3), (4, .inl v4), (5, .inl 0)]) dX12_follow_119 (by decide) rfl ?_
                  exact h
                · replace h := h.2 c17
                  refine gw_bipush (v := (-2)) dX12_follow_77 bp_m2 ?_
                  exact gw_rI dX12_follow_79 rfl (by decide) (by decide) h
              · replace h := h.2 c15
                refine gw_iconst (v := (-1)) dX12_follow_63 ic_m1 ?_
                exact gw_rI dX12_follow_64 rfl (by decide) (by decide) h
set_option maxHeartbeats 4000000 in
set_option maxRecDepth 20000 in
theorem eX12_stop {l : Launch} {v0 : Nat} {σ : Sg} {K : Int32 → Sg → Prop} (h : Ob σ v0 12 ∧ ∀ σ2, σ2 = w1 σ v0 0 0 → K (σ2.2.1 v0 40) σ2) : Con l mX12_stop [.inr v0] σ (PI K) := by
  refine con_gw rfl (Nat.le_of_ble_eq_true rfl) ?_
  show GW l mX12_stop 0 [(0, .inr v0)] [] σ 0 0 (PI K)
  refine gw_aload_n (q := 0) dX12_stop_0 rfl rfl ?_
  refine gw_iconst (v := 0) dX12_stop_1 ic_0 ?_
  obtain ⟨g1, h⟩ := h
  refine gw_pI fX12_135 dX12_stop_2 g1 (fun σ2 e2 => ?_)
  replace h := h σ2 e2
  refine gw_aload_n (q := 0) dX12_stop_5 rfl rfl ?_
  refine gw_gI fX12_85 dX12_stop_6 (g1.up (n_w1 e2)) ?_
  exact gw_rI dX12_stop_9 rfl (by decide) (by decide) h
set_option maxHeartbeats 4000000 in
set_option maxRecDepth 20000 in
theorem eX12_way {l : Launch} {v0 : Nat} {σ : Sg} {K : Int32 → Sg → Prop} (h : Ob σ v0 12 ∧ ∀ σ2, σ2 = w1 σ v0 0 0 → K (σ2.2.1 v0 41) σ2) : Con l mX12_way [.inr v0] σ (PI K) := by
  refine con_gw rfl (Nat.le_of_ble_eq_true rfl) ?_
  show GW l mX12_way 0 [(0, .inr v0)] [] σ 0 0 (PI K)
  refine gw_aload_n (q := 0) dX12_way_0 rfl rfl ?_
  refine gw_iconst (v := 0) dX12_way_1 ic_0 ?_
  obtain ⟨g1, h⟩ := h
  refine gw_pI fX12_135 dX12_way_2 g1 (fun σ2 e2 => ?_)
  replace h := h σ2 e2
  refine gw_aload_n (q := 0) dX12_way_5 rfl rfl ?_
  refine gw_gI fX12_88 dX12_way_6 (g1.up (n_w1 e2)) ?_
  exact gw_rI dX12_way_9 rfl (by decide) (by decide) h
set_option maxHeartbeats 4000000 in
set_option maxRecDepth 20000 in
theorem eX12_cellOf {l : Launch} {v0 : Int32} {v1 : Int32} {σ : Sg} {K : Int32 → Sg → Prop} (h : Con l mJ9_floorDiv_7cf53 [.inl v1, .inl 1000] σ (PI (fun x1 σ1 => Con l mJ9_floorDiv_7cf53 [.inl v0, .inl 1000] σ1 (PI (fun x2 σ2 => K ((1000 * x1) + x2) σ2))))) : Con l mX12_cellOf [.inl v0, .inl v1] σ (PI K) := by
  refine con_gw rfl (Nat.le_of_ble_eq_true rfl) ?_
  show GW l mX12_cellOf 0 [(0, .inl v0), (1, .inl v1)] [] σ 0 0 (PI K)
  refine gw_sipush (v := 1000) dX12_cellOf_0 sp_1000 ?_
  refine gw_iload_n (q := 1) dX12_cellOf_3 rfl rfl ?_
  refine gw_sipush (v := 1000) dX12_cellOf_4 sp_1000 ?_
  refine gw_sC (bs := [.inl v1, .inl 1000]) (st := [.inl 1000]) smJ9_floorDiv_7cf53 lX12_282 dX12_cellOf_7 ⟨by decide, rfl, rfl, by decide, by decide⟩ (Nat.le_of_ble_eq_true rfl) rfl rfl h (kI (fun x1 σ1 h n1 => ?_))
  refine gw_imul dX12_cellOf_10 ?_
  refine gw_iload_n (q := 0) dX12_cellOf_11 rfl rfl ?_
  refine gw_sipush (v := 1000) dX12_cellOf_12 sp_1000 ?_
  refine gw_sC (bs := [.inl v0, .inl 1000]) (st := [.inl (1000 * x1)]) smJ9_floorDiv_7cf53 lX12_282 dX12_cellOf_15 ⟨by decide, rfl, rfl, by decide, by decide⟩ (Nat.le_of_ble_eq_true rfl) rfl rfl h (kI (fun x2 σ2 h n2 => ?_))
  refine gw_iadd dX12_cellOf_18 ?_
  exact gw_rI dX12_cellOf_19 rfl (by decide) (by decide) h
set_option maxHeartbeats 4000000 in
set_option maxRecDepth 20000 in
theorem eX12_middle {l : Launch} {v0 : Int32} {v1 : Int32} {σ : Sg} {K : Int32 → Sg → Prop} (h : Con l mJ9_floorDiv_7cf53 [.inl (v0 + v1), .inl 2] σ (PI (fun x1 σ1 => K x1 σ1))) : Con l mX12_middle [.inl v0, .inl v1] σ (PI K) := by
  refine con_gw rfl (Nat.le_of_ble_eq_true rfl) ?_
  show GW l mX12_middle 0 [(0, .inl v0), (1, .inl v1)] [] σ 0 0 (PI K)
  refine gw_iload_n (q := 0) dX12_middle_0 rfl rfl ?_
  refine gw_iload_n (q := 1) dX12_middle_1 rfl rfl ?_
  refine gw_iadd dX12_middle_2 ?_
  refine gw_iconst (v := 2) dX12_middle_3 ic_2 ?_
  refine gw_sC (bs := [.inl (v0 + v1), .inl 2]) (st := []) smJ9_floorDiv_7cf53 lX12_282 dX12_middle_4 ⟨by decide, rfl, rfl, by decide, by decide⟩ (Nat.le_of_ble_eq_true rfl) rfl rfl h (kI (fun x1 σ1 h n1 => ?_))
  exact gw_rI dX12_middle_7 rfl (by decide) (by decide) h
set_option maxHeartbeats 4000000 in
set_option maxRecDepth 20000 in
theorem gX12_bodyOf_6 {l : Launch} {v0 : Nat} {v1 : Int32} {v2 : Int32} {v3 : Int32} {v4 : Int32} {v5 : Int32} {σ : Sg} {K : Int32 → Sg → Prop} (h : Ob σ v0 12 ∧ Ai σ (σ.2.2 v0 7) v1 ∧ (((σ.2.1 (σ.2.2 v0 7) v1.toNatClampNeg) < v5 → K v4 σ) ∧ (¬ (σ.2.1 (σ.2.2 v0 7) v1.toNatClampNeg) < v5 → Con l mX12_pointOf [.inr v0, .inl v1, .inl v2, .inl v5, .inl 1] σ (PI (fun x4 σ4 => Con l mX12_pointOf [.inr v0, .inl v1, .inl v2, .inl v5, .inl 0] σ4 (PI (fun x5 σ5 => Con l mX12_pointOf [.inr v0, .inl v1, .inl v2, .inl (v5 - 1), .inl 1] σ5 (PI (fun x6 σ6 => Con l mX12_pointOf [.inr v0, .inl v1, .inl v2, .inl (v5 - 1), .inl 0] σ6 (PI (fun x7 σ7 => Con l mX12_cellOf [.inl x4, .inl x5] σ7 (PI (fun x8 σ8 => Ai σ8 (σ7.2.2 v0 49) v4 ∧ ∀ σ10, σ10 = w1 σ8 (σ7.2.2 v0 49) v4.toNatClampNeg x8 → Con l mX12_middle [.inl x6, .inl x4] σ10 (PI (fun x11 σ11 => Con l mX12_middle [.inl x7, .inl x5] σ11 (PI (fun x12 σ12 => Con l mX12_cellOf [.inl x11, .inl x12] σ12 (PI (fun x13 σ13 => Ai σ13 (σ10.2.2 v0 49) (v4 + 1) ∧ ∀ σ15, σ15 = w1 σ13 (σ10.2.2 v0 49) (v4 + 1).toNatClampNeg x13 → GW l mX12_bodyOf 6 [(0, .inr v0), (1, .inl v1), (2, .inl v2), (3, .inl v3), (4, .inl (v4 + 2)), (5, .inl (v5 + 1))] [] σ15 0 0 (PI K)))))))))))))))))))) : GW l mX12_bodyOf 6 [(0, .inr v0), (1, .inl v1), (2, .inl v2), (3, .inl v3), (4, .inl v4), (5, .inl v5)] [] σ 0 0 (PI K) := by
  refine gw_iload (q := 5) dX12_bodyOf_6 rfl ?_
  refine gw_aload_n (q := 0) dX12_bodyOf_8 rfl rfl ?_
  obtain ⟨g1, h⟩ := h
  refine gw_gR fX12_24 dX12_bodyOf_9 g1 ?_
  refine gw_iload_n (q := 1) dX12_bodyOf_12 rfl rfl ?_
  obtain ⟨g2, h⟩ := h
  refine gw_aI dX12_bodyOf_13 g2 ?_
  refine gw_icmp_gt (tgt := 114) dX12_bodyOf_14 (by decide) (fun c3 => ?_) (fun c3 => ?_)
  · replace h := h.1 c3
    refine gw_iload (q := 4) dX12_bodyOf_114 rfl ?_
    exact gw_rI dX12_bodyOf_116 rfl (by decide) (by decide) h
  · replace h := h.2 c3
    refine gw_aload_n (q := 0) dX12_bodyOf_17 rfl rfl ?_
    refine gw_iload_n (q := 1) dX12_bodyOf_18 rfl rfl ?_
    refine gw_iload_n (q := 2) dX12_bodyOf_19 rfl rfl ?_
    refine gw_iload (q := 5) dX12_bodyOf_20 rfl ?_
    refine gw_iconst (v := 1) dX12_bodyOf_22 ic_1 ?_
    refine gw_vC (bs := [.inl v1, .inl v2, .inl v5, .inl 1]) (st := []) (vmX12_pointOf) lX12_159 dX12_bodyOf_23 ⟨by decide, rfl, rfl, by decide, by decide⟩ (Nat.le_of_ble_eq_true rfl) rfl rfl g1 h (kI (fun x4 σ4 h n4 => ?_))
    refine gw_istore (lo' := [(0, .inr v0), (1, .inl v1), (2, .inl v2), (3, .inl v3), (4, .inl v4), (5, .inl v5), (6, .inl x4)]) dX12_bodyOf_26 (by decide) rfl ?_
    refine gw_aload_n (q := 0) dX12_bodyOf_28 rfl rfl ?_
    refine gw_iload_n (q := 1) dX12_bodyOf_29 rfl rfl ?_
    refine gw_iload_n (q := 2) dX12_bodyOf_30 rfl rfl ?_
    refine gw_iload (q := 5) dX12_bodyOf_31 rfl ?_
    refine gw_iconst (v := 0) dX12_bodyOf_33 ic_0 ?_
    refine gw_vC (bs := [.inl v1, .inl v2, .inl v5, .inl 0]) (st := []) (vmX12_pointOf) lX12_159 dX12_bodyOf_34 ⟨by decide, rfl, rfl, by decide, by decide⟩ (Nat.le_of_ble_eq_true rfl) rfl rfl (g1.up n4) h (kI (fun x5 σ5 h n5 => ?_))
    refine gw_istore (lo' := [(0, .inr v0), (1, .inl v1), (2, .inl v2), (3, .inl v3), (4, .inl v4), (5, .inl v5), (6, .inl x4), (7, .inl x5)]) dX12_bodyOf_37 (by decide) rfl ?_
    refine gw_aload_n (q := 0) dX12_bodyOf_39 rfl rfl ?_
    refine gw_iload_n (q := 1) dX12_bodyOf_40 rfl rfl ?_
    refine gw_iload_n (q := 2) dX12_bodyOf_41 rfl rfl ?_
    refine gw_iload (q := 5) dX12_bodyOf_42 rfl ?_
    refine gw_iconst (v := 1) dX12_bodyOf_44 ic_1 ?_
    refine gw_isub dX12_bodyOf_45 ?_
    refine gw_iconst (v := 1) dX12_bodyOf_46 ic_1 ?_
    refine gw_vC (bs := [.inl v1, .inl v2, .inl (v5 - 1), .inl 1]) (st := []) (vmX12_pointOf) lX12_159 dX12_bodyOf_47 ⟨by decide, rfl, rfl, by decide, by decide⟩ (Nat.le_of_ble_eq_true rfl) rfl rfl ((g1.up n4).up n5) h (kI (fun x6 σ6 h n6 => ?_))
    refine gw_istore (lo' := [(0, .inr v0), (1, .inl v1), (2, .inl v2), (3, .inl v3), (4, .inl v4), (5, .inl v5), (6, .inl x4), (7, .inl x5), (8, .inl x6)]) dX12_bodyOf_50 (by decide) rfl ?_
    refine gw_aload_n (q := 0) dX12_bodyOf_52 rfl rfl ?_
    refine gw_iload_n (q := 1) dX12_bodyOf_53 rfl rfl ?_
    refine gw_iload_n (q := 2) dX12_bodyOf_54 rfl rfl ?_
    refine gw_iload (q := 5) dX12_bodyOf_55 rfl ?_
    refine gw_iconst (v := 1) dX12_bodyOf_57 ic_1 ?_
    refine gw_isub dX12_bodyOf_58 ?_
    refine gw_iconst (v := 0) dX12_bodyOf_59 ic_0 ?_
    refine gw_vC (bs := [.inl v1, .inl v2, .inl (v5 - 1), .inl 0]) (st := []) (vmX12_pointOf) lX12_159 dX12_bodyOf_60 ⟨by decide, rfl, rfl, by decide, by decide⟩ (Nat.le_of_ble_eq_true rfl) rfl rfl (((g1.up n4).up n5).up n6) h (kI (fun x7 σ7 h n7 => ?_))
    refine gw_istore (lo' := [(0, .inr v0), (1, .inl v1), (2, .inl v2), (3, .inl v3), (4, .inl v4), (5, .inl v5), (6, .inl x4), (7, .inl x5), (8, .inl x6), (9, .inl x7)]) dX12_bodyOf_63 (by decide) rfl ?_
    refine gw_aload_n (q := 0) dX12_bodyOf_65 rfl rfl ?_
    refine gw_gR fX12_108 dX12_bodyOf_66 ((((g1.up n4).up n5).up n6).up n7) ?_
    refine gw_iload (q := 4) dX12_bodyOf_69 rfl ?_
    refine gw_iload (q := 6) dX12_bodyOf_71 rfl ?_
    refine gw_iload (q := 7) dX12_bodyOf_73 rfl ?_
    refine gw_sC (bs := [.inl x4, .inl x5]) (st := [.inl v4, .inr (σ7.2.2 v0 49)]) smX12_cellOf lX12_337 dX12_bodyOf_75 ⟨by decide, rfl, rfl, by decide, by decide⟩ (Nat.le_of_ble_eq_true rfl) rfl rfl h (kI (fun x8 σ8 h n8 => ?_))
    obtain ⟨g9, h⟩ := h
    refine gw_sI dX12_bodyOf_78 g9 (fun σ10 e10 => ?_)
    replace h := h σ10 e10
    refine gw_aload_n (q := 0) dX12_bodyOf_79 rfl rfl ?_
    refine gw_gR fX12_108 dX12_bodyOf_80 ((((((g1.up n4).up n5).up n6).up n7).up n8).up (n_w1 e10)) ?_
    refine gw_iload (q := 4) dX12_bodyOf_83 rfl ?_
    refine gw_iconst (v := 1) dX12_bodyOf_85 ic_1 ?_
    refine gw_iadd dX12_bodyOf_86 ?_
    refine gw_iload (q := 8) dX12_bodyOf_87 rfl ?_
    refine gw_iload (q := 6) dX12_bodyOf_89 rfl ?_
    refine gw_sC (bs := [.inl x6, .inl x4]) (st := [.inl (v4 + 1), .inr (σ10.2.2 v0 49)]) smX12_middle lX12_340 dX12_bodyOf_91 ⟨by decide, rfl, rfl, by decide, by decide⟩ (Nat.le_of_ble_eq_true rfl) rfl rfl h (kI (fun x11 σ11 h n11 => ?_))
    refine gw_iload (q := 9) dX12_bodyOf_94 rfl ?_
    refine gw_iload (q := 7) dX12_bodyOf_96 rfl ?_
    refine gw_sC (bs := [.inl x7, .inl x5]) (st := [.inl x11, .inl (v4 + 1), .inr (σ10.2.2 v0 49)]) smX12_middle lX12_340 dX12_bodyOf_98 ⟨by decide, rfl, rfl, by decide, by decide⟩ (Nat.le_of_ble_eq_true rfl) rfl rfl h (kI (fun x12 σ12 h n12 => ?_))
    refine gw_sC (bs := [.inl x11, .inl x12]) (st := [.inl (v4 + 1), .inr (σ10.2.2 v0 49)]) smX12_cellOf lX12_337 dX12_bodyOf_101 ⟨by decide, rfl, rfl, by decide, by decide⟩ (Nat.le_of_ble_eq_true rfl) rfl rfl h (kI (fun x13 σ13 h n13 => ?_))
    obtain ⟨g14, h⟩ := h
    refine gw_sI dX12_bodyOf_104 g14 (fun σ15 e15 => ?_)
    replace h := h σ15 e15
    refine gw_inc (lo' := [(0, .inr v0), (1, .inl v1), (2, .inl v2), (3, .inl v3), (4, .inl (v4 + 2)), (5, .inl v5), (6, .inl x4), (7, .inl x5), (8, .inl x6), (9, .inl x7)]) (q := 4) (c := 2) dX12_bodyOf_105 ic_2 rfl (by decide) rfl ?_
    refine gw_inc (lo' := [(0, .inr v0), (1, .inl v1), (2, .inl v2), (3, .inl v3), (4, .inl (v4 + 2)), (5, .inl (v5 + 1)), (6, .inl x4), (7, .inl x5), (8, .inl x6), (9, .inl x7)]) (q := 5) (c := 1) dX12_bodyOf_108 ic_1 rfl (by decide) rfl ?_
    refine gw_goto (tgt := 6) dX12_bodyOf_111 (by decide) ?_
    refine gw_pick [0, 1, 2, 3, 4, 5] rfl ?_
    exact h
set_option maxHeartbeats 4000000 in
set_option maxRecDepth 20000 in
theorem eX12_bodyOf {l : Launch} {v0 : Nat} {v1 : Int32} {v2 : Int32} {v3 : Int32} {σ : Sg} {K : Int32 → Sg → Prop} (h : GW l mX12_bodyOf 6 [(0, .inr v0), (1, .inl v1), (2, .inl v2), (3, .inl v3), (4, .inl v3), (5, .inl 1)] [] σ 0 0 (PI K)) : Con l mX12_bodyOf [.inr v0, .inl v1, .inl v2, .inl v3] σ (PI K) := by
  refine con_gw rfl (Nat.le_of_ble_eq_true rfl) ?_
  show GW l mX12_bodyOf 0 [(0, .inr v0), (1, .inl v1), (2, .inl v2), (3, .inl v3)] [] σ 0 0 (PI K)
  refine gw_iload_n (q := 3) dX12_bodyOf_0 rfl rfl ?_
  refine gw_istore (lo' := [(0, .inr v0), (1, .inl v1), (2, .inl v2), (3, .inl v3), (4, .inl v3)]) dX12_bodyOf_1 (by decide) rfl ?_
  refine gw_iconst (v := 1) dX12_bodyOf_3 ic_1 ?_
  refine gw_istore (lo' := [(0, .inr v0), (1, .inl v1), (2, .inl v2), (3, .inl v3), (4, .inl v3), (5, .inl 1)]) dX12_bodyOf_4 (by decide) rfl ?_
  exact h
set_option maxHeartbeats 4000000 in
set_option maxRecDepth 20000 in
theorem gX12_isClear_29 {l : Launch} {v0 : Nat} {v1 : Int32} {v2 : Int32} {v3 : Int32} {v4 : Int32} {v5 : Int32} {v6 : Int32} {σ : Sg} {K : Int32 → Sg → Prop} (h : ((v4 ≤ v6 → GW l mX12_isClear 20 [(0, .inr v0), (1, .inl v1), (2, .inl v2), (3, .inl v3), (4, .inl v4), (5, .inl (v5 + 1))] [] σ 0 0 (PI K)) ∧ (¬ v4 ≤ v6 → Ob σ v0 12 ∧ Ai σ (σ.2.2 v0 49) v5 ∧ Ai σ (σ.2.2 v0 49) v6 ∧ ((¬ (σ.2.1 (σ.2.2 v0 49) v5.toNatClampNeg) = (σ.2.1 (σ.2.2 v0 49) v6.toNatClampNeg) → GW l mX12_isClear 29 [(0, .inr v0), (1, .inl v1), (2, .inl v2), (3, .inl v3), (4, .inl v4), (5, .inl v5), (6, .inl (v6 + 1))] [] σ 0 0 (PI K)) ∧ ((σ.2.1 (σ.2.2 v0 49) v5.toNatClampNeg) = (σ.2.1 (σ.2.2 v0 49) v6.toNatClampNeg) → K 0 σ))))) : GW l mX12_isClear 29 [(0, .inr v0), (1, .inl v1), (2, .inl v2), (3, .inl v3), (4, .inl v4), (5, .inl v5), (6, .inl v6)] [] σ 0 0 (PI K) := by
  refine gw_iload (q := 6) dX12_isClear_29 rfl ?_
  refine gw_iload (q := 4) dX12_isClear_31 rfl ?_
  refine gw_icmp_ge (tgt := 61) dX12_isClear_33 (by decide) (fun c1 => ?_) (fun c1 => ?_)
  · replace h := h.1 c1
    refine gw_inc (lo' := [(0, .inr v0), (1, .inl v1), (2, .inl v2), (3, .inl v3), (4, .inl v4), (5, .inl (v5 + 1)), (6, .inl v6)]) (q := 5) (c := 1) dX12_isClear_61 ic_1 rfl (by decide) rfl ?_
    refine gw_goto (tgt := 20) dX12_isClear_64 (by decide) ?_
    refine gw_pick [0, 1, 2, 3, 4, 5] rfl ?_
    exact h
  · replace h := h.2 c1
    refine gw_aload_n (q := 0) dX12_isClear_36 rfl rfl ?_
    obtain ⟨g2, h⟩ := h
    refine gw_gR fX12_108 dX12_isClear_37 g2 ?_
    refine gw_iload (q := 5) dX12_isClear_40 rfl ?_
    obtain ⟨g3, h⟩ := h
    refine gw_aI dX12_isClear_42 g3 ?_
    refine gw_aload_n (q := 0) dX12_isClear_43 rfl rfl ?_
    refine gw_gR fX12_108 dX12_isClear_44 g2 ?_
    refine gw_iload (q := 6) dX12_isClear_47 rfl ?_
    obtain ⟨g4, h⟩ := h
    refine gw_aI dX12_isClear_49 g4 ?_
    refine gw_icmp_ne (tgt := 55) dX12_isClear_50 (by decide) (fun c5 => ?_) (fun c5 => ?_)
    · replace h := h.1 c5
      refine gw_inc (lo' := [(0, .inr v0), (1, .inl v1), (2, .inl v2), (3, .inl v3), (4, .inl v4), (5, .inl v5), (6, .inl (v6 + 1))]) (q := 6) (c := 1) dX12_isClear_55 ic_1 rfl (by decide) rfl ?_
      refine gw_goto (tgt := 29) dX12_isClear_58 (by decide) ?_
      exact h
    · replace h := h.2 c5
      refine gw_iconst (v := 0) dX12_isClear_53 ic_0 ?_
      exact gw_rZ dX12_isClear_54 rfl (by decide) (by decide) (by decide) h
set_option maxHeartbeats 4000000 in
set_option maxRecDepth 20000 in
theorem gX12_isClear_20 {l : Launch} {v0 : Nat} {v1 : Int32} {v2 : Int32} {v3 : Int32} {v4 : Int32} {v5 : Int32} {σ : Sg} {K : Int32 → Sg → Prop} (h : ((v3 ≤ v5 → K 1 σ) ∧ (¬ v3 ≤ v5 → GW l mX12_isClear 29 [(0, .inr v0), (1, .inl v1), (2, .inl v2), (3, .inl v3), (4, .inl v4), (5, .inl v5), (6, .inl v3)] [] σ 0 0 (PI K)))) : GW l mX12_isClear 20 [(0, .inr v0), (1, .inl v1), (2, .inl v2), (3, .inl v3), (4, .inl v4), (5, .inl v5)] [] σ 0 0 (PI K) := by
  refine gw_iload (q := 5) dX12_isClear_20 rfl ?_
  refine gw_iload_n (q := 3) dX12_isClear_22 rfl rfl ?_
  refine gw_icmp_ge (tgt := 67) dX12_isClear_23 (by decide) (fun c1 => ?_) (fun c1 => ?_)
  · replace h := h.1 c1
    refine gw_iconst (v := 1) dX12_isClear_67 ic_1 ?_
    exact gw_rZ dX12_isClear_68 rfl (by decide) (by decide) (by decide) h
  · replace h := h.2 c1
    refine gw_iload_n (q := 3) dX12_isClear_26 rfl rfl ?_
    refine gw_istore (lo' := [(0, .inr v0), (1, .inl v1), (2, .inl v2), (3, .inl v3), (4, .inl v4), (5, .inl v5), (6, .inl v3)]) dX12_isClear_27 (by decide) rfl ?_
    exact h
set_option maxHeartbeats 4000000 in
set_option maxRecDepth 20000 in
theorem eX12_isClear {l : Launch} {v0 : Nat} {v1 : Int32} {v2 : Int32} {σ : Sg} {K : Int32 → Sg → Prop} (h : Ob σ v0 12 ∧ Con l mX12_bodyOf [.inr v0, .inl 0, .inl v1, .inl 0] σ (PI (fun x1 σ1 => Con l mX12_bodyOf [.inr v0, .inl 1, .inl v2, .inl x1] σ1 (PI (fun x3 σ3 => GW l mX12_isClear 20 [(0, .inr v0), (1, .inl v1), (2, .inl v2), (3, .inl x1), (4, .inl x3), (5, .inl 0)] [] σ3 0 0 (PI K)))))) : Con l mX12_isClear [.inr v0, .inl v1, .inl v2] σ (PI K) := by
  refine con_gw rfl (Nat.le_of_ble_eq_true rfl) ?_
  show GW l mX12_isClear 0 [(0, .inr v0), (1, .inl v1), (2, .inl v2)] [] σ 0 0 (PI K)
  refine gw_aload_n (q := 0) dX12_isClear_0 rfl rfl ?_
  refine gw_iconst (v := 0) dX12_isClear_1 ic_0 ?_
  refine gw_iload_n (q := 1) dX12_isClear_2 rfl rfl ?_
  refine gw_iconst (v := 0) dX12_isClear_3 ic_0 ?_
  obtain ⟨g2, h⟩ := h
  refine gw_vC (bs := [.inl 0, .inl v1, .inl 0]) (st := []) (vmX12_bodyOf) lX12_343 dX12_isClear_4 ⟨by decide, rfl, rfl, by decide, by decide⟩ (Nat.le_of_ble_eq_true rfl) rfl rfl g2 h (kI (fun x1 σ1 h n1 => ?_))
  refine gw_istore_n (lo' := [(0, .inr v0), (1, .inl v1), (2, .inl v2), (3, .inl x1)]) dX12_isClear_7 rfl (by decide) rfl ?_
  refine gw_aload_n (q := 0) dX12_isClear_8 rfl rfl ?_
  refine gw_iconst (v := 1) dX12_isClear_9 ic_1 ?_
  refine gw_iload_n (q := 2) dX12_isClear_10 rfl rfl ?_
  refine gw_iload_n (q := 3) dX12_isClear_11 rfl rfl ?_
  refine gw_vC (bs := [.inl 1, .inl v2, .inl x1]) (st := []) (vmX12_bodyOf) lX12_343 dX12_isClear_12 ⟨by decide, rfl, rfl, by decide, by decide⟩ (Nat.le_of_ble_eq_true rfl) rfl rfl (g2.up n1) h (kI (fun x3 σ3 h n3 => ?_))
  refine gw_istore (lo' := [(0, .inr v0), (1, .inl v1), (2, .inl v2), (3, .inl x1), (4, .inl x3)]) dX12_isClear_15 (by decide) rfl ?_
  refine gw_iconst (v := 0) dX12_isClear_17 ic_0 ?_
  refine gw_istore (lo' := [(0, .inr v0), (1, .inl v1), (2, .inl v2), (3, .inl x1), (4, .inl x3), (5, .inl 0)]) dX12_isClear_18 (by decide) rfl ?_
  exact h
set_option maxHeartbeats 4000000 in
set_option maxRecDepth 20000 in
theorem eX12_restOf {l : Launch} {v0 : Nat} {v1 : Int32} {v2 : Int32} {v3 : Int32} {v4 : Int32} {σ : Sg} {K : Int32 → Sg → Prop} (h : Ob σ v0 12 ∧ Ai σ (σ.2.2 v0 18) v3 ∧ (((σ.2.1 (σ.2.2 v0 18) v3.toNatClampNeg) ≤ v1 → K (-1) σ) ∧ (¬ (σ.2.1 (σ.2.2 v0 18) v3.toNatClampNeg) ≤ v1 → Ai σ (σ.2.2 v0 18) v4 ∧ ((v2 < (σ.2.1 (σ.2.2 v0 18) v4.toNatClampNeg) → Ai σ (σ.2.2 v0 46) ((40 * v1) + v2) ∧ K (σ.2.1 (σ.2.2 v0 46) ((40 * v1) + v2).toNatClampNeg) σ) ∧ (¬ v2 < (σ.2.1 (σ.2.2 v0 18) v4.toNatClampNeg) → K (-1) σ))))) : Con l mX12_restOf [.inr v0, .inl v1, .inl v2, .inl v3, .inl v4] σ (PI K) := by
  refine con_gw rfl (Nat.le_of_ble_eq_true rfl) ?_
  show GW l mX12_restOf 0 [(0, .inr v0), (1, .inl v1), (2, .inl v2), (3, .inl v3), (4, .inl v4)] [] σ 0 0 (PI K)
  refine gw_iload_n (q := 1) dX12_restOf_0 rfl rfl ?_
  refine gw_aload_n (q := 0) dX12_restOf_1 rfl rfl ?_
  obtain ⟨g1, h⟩ := h
  refine gw_gR fX12_54 dX12_restOf_2 g1 ?_
  refine gw_iload_n (q := 3) dX12_restOf_5 rfl rfl ?_
  obtain ⟨g2, h⟩ := h
  refine gw_aI dX12_restOf_6 g2 ?_
  refine gw_icmp_ge (tgt := 21) dX12_restOf_7 (by decide) (fun c3 => ?_) (fun c3 => ?_)
  · replace h := h.1 c3
    refine gw_iconst (v := (-1)) dX12_restOf_21 ic_m1 ?_
    refine gw_goto (tgt := 36) dX12_restOf_22 (by decide) ?_
    exact gw_rI dX12_restOf_36 rfl (by decide) (by decide) h
  · replace h := h.2 c3
    refine gw_iload_n (q := 2) dX12_restOf_10 rfl rfl ?_
    refine gw_aload_n (q := 0) dX12_restOf_11 rfl rfl ?_
    refine gw_gR fX12_54 dX12_restOf_12 g1 ?_
    refine gw_iload (q := 4) dX12_restOf_15 rfl ?_
    obtain ⟨g4, h⟩ := h
    refine gw_aI dX12_restOf_17 g4 ?_
    refine gw_icmp_lt (tgt := 25) dX12_restOf_18 (by decide) (fun c5 => ?_) (fun c5 => ?_)
    · replace h := h.1 c5
      refine gw_aload_n (q := 0) dX12_restOf_25 rfl rfl ?_
      refine gw_gR fX12_102 dX12_restOf_26 g1 ?_
      refine gw_bipush (v := 40) dX12_restOf_29 bp_40 ?_
      refine gw_iload_n (q := 1) dX12_restOf_31 rfl rfl ?_
      refine gw_imul dX12_restOf_32 ?_
      refine gw_iload_n (q := 2) dX12_restOf_33 rfl rfl ?_
      refine gw_iadd dX12_restOf_34 ?_
      obtain ⟨g6, h⟩ := h
      refine gw_aI dX12_restOf_35 g6 ?_
      exact gw_rI dX12_restOf_36 rfl (by decide) (by decide) h
    · replace h := h.2 c5
      refine gw_iconst (v := (-1)) dX12_restOf_21 ic_m1 ?_
      refine gw_goto (tgt := 36) dX12_restOf_22 (by decide) ?_
      exact gw_rI dX12_restOf_36 rfl (by decide) (by decide) h
set_option maxHeartbeats 4000000 in
set_option maxRecDepth 20000 in
theorem gX12_meet_391 {l : Launch} {v0 : Nat} {v1 : Int32} {v2 : Int32} {v3 : Int32} {v4 : Int32} {v5 : Int32} {v6 : Int32} {t0 : Int32} {t1 : Int32} {σ : Sg} {K : Int32 → Sg → Prop} (h : Ob σ v0 12 ∧ Ai σ (σ.2.2 v0 47) (σ.2.1 v0 48) ∧ ∀ σ3, σ3 = w1 σ (σ.2.2 v0 47) (σ.2.1 v0 48).toNatClampNeg (v3 + (64 * (t0 + t1))) → ∀ σ4, σ4 = w1 σ3 v0 48 ((σ3.2.1 v0 48) + 1) → GW l mX12_meet 288 [(0, .inr v0), (1, .inl v1), (2, .inl v2), (3, .inl v3), (4, .inl (t0 + t1))] [] σ4 0 0 (PI K)) : GW l mX12_meet 391 [(0, .inr v0), (1, .inl v1), (2, .inl v2), (3, .inl v3), (4, .inl v4), (5, .inl v5), (6, .inl v6)] [.inl t1, .inl t0] σ 0 0 (PI K) := by
  refine gw_iadd dX12_meet_391 ?_
  refine gw_istore (lo' := [(0, .inr v0), (1, .inl v1), (2, .inl v2), (3, .inl v3), (4, .inl (t0 + t1)), (5, .inl v5), (6, .inl v6)]) dX12_meet_392 (by decide) rfl ?_
  refine gw_aload_n (q := 0) dX12_meet_394 rfl rfl ?_
  obtain ⟨g1, h⟩ := h
  refine gw_gR fX12_105 dX12_meet_395 g1 ?_
  refine gw_aload_n (q := 0) dX12_meet_398 rfl rfl ?_
  refine gw_gI fX12_352 dX12_meet_399 g1 ?_
  refine gw_iload_n (q := 3) dX12_meet_402 rfl rfl ?_
  refine gw_bipush (v := 64) dX12_meet_403 bp_64 ?_
  refine gw_iload (q := 4) dX12_meet_405 rfl ?_
  refine gw_imul dX12_meet_407 ?_
  refine gw_iadd dX12_meet_408 ?_
  obtain ⟨g2, h⟩ := h
  refine gw_sI dX12_meet_409 g2 (fun σ3 e3 => ?_)
  replace h := h σ3 e3
  refine gw_aload_n (q := 0) dX12_meet_410 rfl rfl ?_
  refine gw_dup dX12_meet_411 ?_
  refine gw_gI fX12_352 dX12_meet_412 (g1.up (n_w1 e3)) ?_
  refine gw_iconst (v := 1) dX12_meet_415 ic_1 ?_
  refine gw_iadd dX12_meet_416 ?_
  refine gw_pI fX12_352 dX12_meet_417 (g1.up (n_w1 e3)) (fun σ4 e4 => ?_)
  replace h := h σ4 e4
  refine gw_goto (tgt := 288) dX12_meet_420 (by decide) ?_
  refine gw_pick [0, 1, 2, 3, 4] rfl ?_
  exact h
set_option maxHeartbeats 4000000 in
set_option maxRecDepth 20000 in
theorem gX12_meet_362 {l : Launch} {v0 : Nat} {v1 : Int32} {v2 : Int32} {v3 : Int32} {v4 : Int32} {v5 : Int32} {t0 : Int32} {σ : Sg} {K : Int32 → Sg → Prop} (h : ((2 ≤ t0 → ((¬ t0 = 1 → GW l mX12_meet 391 [(0, .inr v0), (1, .inl v1), (2, .inl v2), (3, .inl (v3 + 0)), (4, .inl v4), (5, .inl v5), (6, .inl t0)] [.inl 1, .inl v4] σ 0 0 (PI K)) ∧ (t0 = 1 → GW l mX12_meet 391 [(0, .inr v0), (1, .inl v1), (2, .inl v2), (3, .inl (v3 + 0)), (4, .inl v4), (5, .inl v5), (6, .inl t0)] [.inl 0, .inl v4] σ 0 0 (PI K)))) ∧ (¬ 2 ≤ t0 → ((¬ t0 = 1 → GW l mX12_meet 391 [(0, .inr v0), (1, .inl v1), (2, .inl v2), (3, .inl (v3 + 1)), (4, .inl v4), (5, .inl v5), (6, .inl t0)] [.inl 1, .inl v4] σ 0 0 (PI K)) ∧ (t0 = 1 → GW l mX12_meet 391 [(0, .inr v0), (1, .inl v1), (2, .inl v2), (3, .inl (v3 + 1)), (4, .inl v4), (5, .inl v5), (6, .inl t0)] [.inl 0, .inl v4] σ 0 0 (PI K)))))) : GW l mX12_meet 362 [(0, .inr v0), (1, .inl v1), (2, .inl v2), (3, .inl v3), (4, .inl v4), (5, .inl v5)] [.inl t0] σ 0 0 (PI K) := by
  refine gw_istore (lo' := [(0, .inr v0), (1, .inl v1), (2, .inl v2), (3, .inl v3), (4, .inl v4), (5, .inl v5), (6, .inl t0)]) dX12_meet_362 (by decide) rfl ?_
  refine gw_iload_n (q := 3) dX12_meet_364 rfl rfl ?_
  refine gw_iload (q := 6) dX12_meet_365 rfl ?_
  refine gw_iconst (v := 2) dX12_meet_367 ic_2 ?_
  refine gw_icmp_ge (tgt := 375) dX12_meet_368 (by decide) (fun c1 => ?_) (fun c1 => ?_)
  · replace h := h.1 c1
    refine gw_iconst (v := 0) dX12_meet_375 ic_0 ?_
    refine gw_iadd dX12_meet_376 ?_
    refine gw_istore_n (lo' := [(0, .inr v0), (1, .inl v1), (2, .inl v2), (3, .inl (v3 + 0)), (4, .inl v4), (5, .inl v5), (6, .inl t0)]) dX12_meet_377 rfl (by decide) rfl ?_
    refine gw_iload (q := 4) dX12_meet_378 rfl ?_
    refine gw_iload (q := 6) dX12_meet_380 rfl ?_
    refine gw_iconst (v := 1) dX12_meet_382 ic_1 ?_
    refine gw_icmp_ne (tgt := 390) dX12_meet_383 (by decide) (fun c2 => ?_) (fun c2 => ?_)
    · replace h := h.1 c2
      refine gw_iconst (v := 1) dX12_meet_390 ic_1 ?_
      exact h
    · replace h := h.2 c2
      refine gw_iconst (v := 0) dX12_meet_386 ic_0 ?_
      refine gw_goto (tgt := 391) dX12_meet_387 (by decide) ?_
      exact h
  · replace h := h.2 c1
    refine gw_iconst (v := 1) dX12_meet_371 ic_1 ?_
    refine gw_goto (tgt := 376) dX12_meet_372 (by decide) ?_
    refine gw_iadd dX12_meet_376 ?_
    refine gw_istore_n (lo' := [(0, .inr v0), (1, .inl v1), (2, .inl v2), (3, .inl (v3 + 1)), (4, .inl v4), (5, .inl v5), (6, .inl t0)]) dX12_meet_377 rfl (by decide) rfl ?_
    refine gw_iload (q := 4) dX12_meet_378 rfl ?_
    refine gw_iload (q := 6) dX12_meet_380 rfl ?_
    refine gw_iconst (v := 1) dX12_meet_382 ic_1 ?_
    refine gw_icmp_ne (tgt := 390) dX12_meet_383 (by decide) (fun c3 => ?_) (fun c3 => ?_)
    · replace h := h.1 c3
      refine gw_iconst (v := 1) dX12_meet_390 ic_1 ?_
      exact h
    · replace h := h.2 c3
      refine gw_iconst (v := 0) dX12_meet_386 ic_0 ?_
      refine gw_goto (tgt := 391) dX12_meet_387 (by decide) ?_
      exact h
set_option maxHeartbeats 4000000 in
set_option maxRecDepth 20000 in
theorem gX12_meet_288 {l : Launch} {v0 : Nat} {v1 : Int32} {v2 : Int32} {v3 : Int32} {v4 : Int32} {σ : Sg} {K : Int32 → Sg → Prop} (h : Ob σ v0 12 ∧ Ai σ (σ.2.2 v0 46) ((40 * v3) + v4) ∧ (((σ.2.1 (σ.2.2 v0 46) ((40 * v3) + v4).toNatClampNeg) ≤ 0 → K ((σ.2.1 v0 48) - 1) σ) ∧ (¬ (σ.2.1 (σ.2.2 v0 46) ((40 * v3) + v4).toNatClampNeg) ≤ 0 → Con l mX12_restOf [.inr v0, .inl (v3 + 1), .inl (v4 + 1), .inl v1, .inl v2] σ (PI (fun x5 σ5 => ((¬ x5 = ((σ.2.1 (σ.2.2 v0 46) ((40 * v3) + v4).toNatClampNeg) - 1) → Con l mX12_restOf [.inr v0, .inl (v3 + 1), .inl v4, .inl v1, .inl v2] σ5 (PI (fun x7 σ7 => ((¬ x7 = ((σ.2.1 (σ.2.2 v0 46) ((40 * v3) + v4).toNatClampNeg) - 1) → GW l mX12_meet 362 [(0, .inr v0), (1, .inl v1), (2, .inl v2), (3, .inl v3), (4, .inl v4), (5, .inl ((σ.2.1 (σ.2.2 v0 46) ((40 * v3) + v4).toNatClampNeg) - 1))] [.inl 2] σ7 0 0 (PI K)) ∧ (x7 = ((σ.2.1 (σ.2.2 v0 46) ((40 * v3) + v4).toNatClampNeg) - 1) → GW l mX12_meet 362 [(0, .inr v0), (1, .inl v1), (2, .inl v2), (3, .inl v3), (4, .inl v4), (5, .inl ((σ.2.1 (σ.2.2 v0 46) ((40 * v3) + v4).toNatClampNeg) - 1))] [.inl 1] σ7 0 0 (PI K)))))) ∧ (x5 = ((σ.2.1 (σ.2.2 v0 46) ((40 * v3) + v4).toNatClampNeg) - 1) → GW l mX12_meet 362 [(0, .inr v0), (1, .inl v1), (2, .inl v2), (3, .inl v3), (4, .inl v4), (5, .inl ((σ.2.1 (σ.2.2 v0 46) ((40 * v3) + v4).toNatClampNeg) - 1))] [.inl 0] σ5 0 0 (PI K)))))))) : GW l mX12_meet 288 [(0, .inr v0), (1, .inl v1), (2, .inl v2), (3, .inl v3), (4, .inl v4)] [] σ 0 0 (PI K) := by
  refine gw_aload_n (q := 0) dX12_meet_288 rfl rfl ?_
  obtain ⟨g1, h⟩ := h
  refine gw_gR fX12_102 dX12_meet_289 g1 ?_
  refine gw_bipush (v := 40) dX12_meet_292 bp_40 ?_
  refine gw_iload_n (q := 3) dX12_meet_294 rfl rfl ?_
  refine gw_imul dX12_meet_295 ?_
  refine gw_iload (q := 4) dX12_meet_296 rfl ?_
  refine gw_iadd dX12_meet_298 ?_
  obtain ⟨g2, h⟩ := h
  refine gw_aI dX12_meet_299 g2 ?_
  refine gw_if_le (tgt := 423) dX12_meet_300 (by decide) (fun c3 => ?_) (fun c3 => ?_)
  · replace h := h.1 c3
    refine gw_aload_n (q := 0) dX12_meet_423 rfl rfl ?_
    refine gw_gI fX12_352 dX12_meet_424 g1 ?_
    refine gw_iconst (v := 1) dX12_meet_427 ic_1 ?_
    refine gw_isub dX12_meet_428 ?_
    exact gw_rI dX12_meet_429 rfl (by decide) (by decide) h
  · replace h := h.2 c3
    refine gw_aload_n (q := 0) dX12_meet_303 rfl rfl ?_
    refine gw_gR fX12_102 dX12_meet_304 g1 ?_
    refine gw_bipush (v := 40) dX12_meet_307 bp_40 ?_
    refine gw_iload_n (q := 3) dX12_meet_309 rfl rfl ?_
    refine gw_imul dX12_meet_310 ?_
    refine gw_iload (q := 4) dX12_meet_311 rfl ?_
    refine gw_iadd dX12_meet_313 ?_
    refine gw_aI dX12_meet_314 g2 ?_
    refine gw_iconst (v := 1) dX12_meet_315 ic_1 ?_
    refine gw_isub dX12_meet_316 ?_
    refine gw_istore (lo' := [(0, .inr v0), (1, .inl v1), (2, .inl v2), (3, .inl v3), (4, .inl v4), (5, .inl ((σ.2.1 (σ.2.2 v0 46) ((40 * v3) + v4).toNatClampNeg) - 1))]) dX12_meet_317 (by decide) rfl ?_
    refine gw_aload_n (q := 0) dX12_meet_319 rfl rfl ?_
    refine gw_iload_n (q := 3) dX12_meet_320 rfl rfl ?_
    refine gw_iconst (v := 1) dX12_meet_321 ic_1 ?_
    refine gw_iadd dX12_meet_322 ?_
    refine gw_iload (q := 4) dX12_meet_323 rfl ?_
    refine gw_iconst (v := 1) dX12_meet_325 ic_1 ?_
    refine gw_iadd dX12_meet_326 ?_
    refine gw_iload_n (q := 1) dX12_meet_327 rfl rfl ?_
    refine gw_iload_n (q := 2) dX12_meet_328 rfl rfl ?_
    refine gw_vC (bs := [.inl (v3 + 1), .inl (v4 + 1), .inl v1, .inl v2]) (st := []) (vmX12_restOf) lX12_346 dX12_meet_329 ⟨by decide, rfl, rfl, by decide, by decide⟩ (Nat.le_of_ble_eq_true rfl) rfl rfl g1 h (kI (fun x5 σ5 h n5 => ?_))
    refine gw_iload (q := 5) dX12_meet_332 rfl ?_
    refine gw_icmp_ne (tgt := 341) dX12_meet_334 (by decide) (fun c6 => ?_) (fun c6 => ?_)
    · replace h := h.1 c6
      refine gw_aload_n (q := 0) dX12_meet_341 rfl rfl ?_
      refine gw_iload_n (q := 3) dX12_meet_342 rfl rfl ?_
      refine gw_iconst (v := 1) dX12_meet_343 ic_1 ?_
      refine gw_iadd dX12_meet_344 ?_
      refine gw_iload (q := 4) dX12_meet_345 rfl ?_
      refine gw_iload_n (q := 1) dX12_meet_347 rfl rfl ?_
      refine gw_iload_n (q := 2) dX12_meet_348 rfl rfl ?_
      refine gw_vC (bs := [.inl (v3 + 1), .inl v4, .inl v1, .inl v2]) (st := []) (vmX12_restOf) lX12_346 dX12_meet_349 ⟨by decide, rfl, rfl, by decide, by decide⟩ (Nat.le_of_ble_eq_true rfl) rfl rfl (g1.up n5) h (kI (fun x7 σ7 h n7 => ?_))
      refine gw_iload (q := 5) dX12_meet_352 rfl ?_
      refine gw_icmp_ne (tgt := 361) dX12_meet_354 (by decide) (fun c8 => ?_) (fun c8 => ?_)
      · replace h := h.1 c8
        refine gw_iconst (v := 2) dX12_meet_361 ic_2 ?_
        exact h
      · replace h := h.2 c8
        refine gw_iconst (v := 1) dX12_meet_357 ic_1 ?_
        refine gw_goto (tgt := 362) dX12_meet_358 (by decide) ?_
        exact h
    · replace h := h.2 c6
      refine gw_iconst (v := 0) dX12_meet_337 ic_0 ?_
      refine gw_goto (tgt := 362) dX12_meet_338 (by decide) ?_
      exact h
set_option maxHeartbeats 4000000 in
set_option maxRecDepth 20000 in
theorem gX12_meet_158 {l : Launch} {v0 : Nat} {v1 : Int32} {v2 : Int32} {v3 : Int32} {v4 : Int32} {v5 : Int32} {v6 : Int32} {t0 : Nat} {t1 : Int32} {t2 : Int32} {σ : Sg} {K : Int32 → Sg → Prop} (h : Ob σ t0 12 ∧ Con l mX12_restOf [.inr t0, .inl t1, .inl t2, .inl v1, .inl v2] σ (PI (fun x1 σ1 => ((x1 = (-1) → GW l mX12_meet 123 [(0, .inr v0), (1, .inl v1), (2, .inl v2), (3, .inl v3), (4, .inl v4), (5, .inl v5), (6, .inl (v6 + 1))] [] σ1 0 0 (PI K)) ∧ (¬ x1 = (-1) → ((v5 = (-1) → GW l mX12_meet 123 [(0, .inr v0), (1, .inl v1), (2, .inl v2), (3, .inl v3), (4, .inl v4), (5, .inl (x1 + 1)), (6, .inl (v6 + 1))] [] σ1 0 0 (PI K)) ∧ (¬ v5 = (-1) → ((v5 ≤ (x1 + 1) → GW l mX12_meet 123 [(0, .inr v0), (1, .inl v1), (2, .inl v2), (3, .inl v3), (4, .inl v4), (5, .inl v5), (6, .inl (v6 + 1))] [] σ1 0 0 (PI K)) ∧ (¬ v5 ≤ (x1 + 1) → GW l mX12_meet 123 [(0, .inr v0), (1, .inl v1), (2, .inl v2), (3, .inl v3), (4, .inl v4), (5, .inl (x1 + 1)), (6, .inl (v6 + 1))] [] σ1 0 0 (PI K)))))))))) : GW l mX12_meet 158 [(0, .inr v0), (1, .inl v1), (2, .inl v2), (3, .inl v3), (4, .inl v4), (5, .inl v5), (6, .inl v6)] [.inl t2, .inl t1, .inr t0] σ 0 0 (PI K) := by
  refine gw_iload_n (q := 1) dX12_meet_158 rfl rfl ?_
  refine gw_iload_n (q := 2) dX12_meet_159 rfl rfl ?_
  obtain ⟨g2, h⟩ := h
  refine gw_vC (bs := [.inl t1, .inl t2, .inl v1, .inl v2]) (st := []) (vmX12_restOf) lX12_346 dX12_meet_160 ⟨by decide, rfl, rfl, by decide, by decide⟩ (Nat.le_of_ble_eq_true rfl) rfl rfl g2 h (kI (fun x1 σ1 h n1 => ?_))
  refine gw_istore (lo' := [(0, .inr v0), (1, .inl v1), (2, .inl v2), (3, .inl v3), (4, .inl v4), (5, .inl v5), (6, .inl v6), (7, .inl x1)]) dX12_meet_163 (by decide) rfl ?_
  refine gw_iload (q := 7) dX12_meet_165 rfl ?_
  refine gw_iconst (v := (-1)) dX12_meet_167 ic_m1 ?_
  refine gw_icmp_eq (tgt := 192) dX12_meet_168 (by decide) (fun c3 => ?_) (fun c3 => ?_)
  · replace h := h.1 c3
    refine gw_inc (lo' := [(0, .inr v0), (1, .inl v1), (2, .inl v2), (3, .inl v3), (4, .inl v4), (5, .inl v5), (6, .inl (v6 + 1)), (7, .inl x1)]) (q := 6) (c := 1) dX12_meet_192 ic_1 rfl (by decide) rfl ?_
    refine gw_goto (tgt := 123) dX12_meet_195 (by decide) ?_
    refine gw_pick [0, 1, 2, 3, 4, 5, 6] rfl ?_
    exact h
  · replace h := h.2 c3
    refine gw_iload (q := 5) dX12_meet_171 rfl ?_
    refine gw_iconst (v := (-1)) dX12_meet_173 ic_m1 ?_
    refine gw_icmp_eq (tgt := 186) dX12_meet_174 (by decide) (fun c4 => ?_) (fun c4 => ?_)
    · replace h := h.1 c4
      refine gw_iload (q := 7) dX12_meet_186 rfl ?_
      refine gw_iconst (v := 1) dX12_meet_188 ic_1 ?_
      refine gw_iadd dX12_meet_189 ?_
      refine gw_istore (lo' := [(0, .inr v0), (1, .inl v1), (2, .inl v2), (3, .inl v3), (4, .inl v4), (5, .inl (x1 + 1)), (6, .inl v6), (7, .inl x1)]) dX12_meet_190 (by decide) rfl ?_
      refine gw_inc (lo' := [(0, .inr v0), (1, .inl v1), (2, .inl v2), (3, .inl v3), (4, .inl v4), (5, .inl (x1 + 1)), (6, .inl (v6 + 1)), (7, .inl x1)]) (q := 6) (c := 1) dX12_meet_192 ic_1 rfl (by decide) rfl ?_
      refine gw_goto (tgt := 123) dX12_meet_195 (by decide) ?_
      refine gw_pick [0, 1, 2, 3, 4, 5, 6] rfl ?_
      exact h
    · replace h := h.2 c4
      refine gw_iload (q := 7) dX12_meet_177 rfl ?_
      refine gw_iconst (v := 1) dX12_meet_179 ic_1 ?_
      refine gw_iadd dX12_meet_180 ?_
      refine gw_iload (q := 5) dX12_meet_181 rfl ?_
      refine gw_icmp_ge (tgt := 192) dX12_meet_183 (by decide) (fun c5 => ?_) (fun c5 => ?_)
      · replace h := h.1 c5
        refine gw_inc (lo' := [(0, .inr v0), (1, .inl v1), (2, .inl v2), (3, .inl v3), (4, .inl v4), (5, .inl v5), (6, .inl (v6 + 1)), (7, .inl x1)]) (q := 6) (c := 1) dX12_meet_192 ic_1 rfl (by decide) rfl ?_
        refine gw_goto (tgt := 123) dX12_meet_195 (by decide) ?_
        refine gw_pick [0, 1, 2, 3, 4, 5, 6] rfl ?_
        exact h
      · replace h := h.2 c5
        refine gw_iload (q := 7) dX12_meet_186 rfl ?_
        refine gw_iconst (v := 1) dX12_meet_188 ic_1 ?_
        refine gw_iadd dX12_meet_189 ?_
        refine gw_istore (lo' := [(0, .inr v0), (1, .inl v1), (2, .inl v2), (3, .inl v3), (4, .inl v4), (5, .inl (x1 + 1)), (6, .inl v6), (7, .inl x1)]) dX12_meet_190 (by decide) rfl ?_
        refine gw_inc (lo' := [(0, .inr v0), (1, .inl v1), (2, .inl v2), (3, .inl v3), (4, .inl v4), (5, .inl (x1 + 1)), (6, .inl (v6 + 1)), (7, .inl x1)]) (q := 6) (c := 1) dX12_meet_192 ic_1 rfl (by decide) rfl ?_
        refine gw_goto (tgt := 123) dX12_meet_195 (by decide) ?_
        refine gw_pick [0, 1, 2, 3, 4, 5, 6] rfl ?_
        exact h
set_option maxHeartbeats 4000000 in
set_option maxRecDepth 20000 in
theorem gX12_meet_123 {l : Launch} {v0 : Nat} {v1 : Int32} {v2 : Int32} {v3 : Int32} {v4 : Int32} {v5 : Int32} {v6 : Int32} {σ : Sg} {K : Int32 → Sg → Prop} (h : ((3 ≤ v6 → Ob σ v0 12 ∧ Ai σ (σ.2.2 v0 19) ((40 * v1) + v3) ∧ Ai σ (σ.2.2 v0 19) ((40 * v2) + v4) ∧ Con l mX12_isClear [.inr v0, .inl (σ.2.1 (σ.2.2 v0 19) ((40 * v1) + v3).toNatClampNeg), .inl (σ.2.1 (σ.2.2 v0 19) ((40 * v2) + v4).toNatClampNeg)] σ (PI (fun x5 σ5 => ((x5 = 0 → Ai σ5 (σ.2.2 v0 46) ((40 * v3) + v4) ∧ ∀ σ8, σ8 = w1 σ5 (σ.2.2 v0 46) ((40 * v3) + v4).toNatClampNeg (-1) → GW l mX12_meet 83 [(0, .inr v0), (1, .inl v1), (2, .inl v2), (3, .inl v3), (4, .inl (v4 + (-1)))] [] σ8 0 0 (PI K)) ∧ (¬ x5 = 0 → Ai σ5 (σ.2.2 v0 46) ((40 * v3) + v4) ∧ ∀ σ10, σ10 = w1 σ5 (σ.2.2 v0 46) ((40 * v3) + v4).toNatClampNeg v5 → GW l mX12_meet 83 [(0, .inr v0), (1, .inl v1), (2, .inl v2), (3, .inl v3), (4, .inl (v4 + (-1)))] [] σ10 0 0 (PI K)))))) ∧ (¬ 3 ≤ v6 → ((2 ≤ v6 → ((¬ v6 = 1 → GW l mX12_meet 158 [(0, .inr v0), (1, .inl v1), (2, .inl v2), (3, .inl v3), (4, .inl v4), (5, .inl v5), (6, .inl v6)] [.inl (v4 + 1), .inl v3, .inr v0] σ 0 0 (PI K)) ∧ (v6 = 1 → GW l mX12_meet 158 [(0, .inr v0), (1, .inl v1), (2, .inl v2), (3, .inl v3), (4, .inl v4), (5, .inl v5), (6, .inl v6)] [.inl v4, .inl v3, .inr v0] σ 0 0 (PI K)))) ∧ (¬ 2 ≤ v6 → ((¬ v6 = 1 → GW l mX12_meet 158 [(0, .inr v0), (1, .inl v1), (2, .inl v2), (3, .inl v3), (4, .inl v4), (5, .inl v5), (6, .inl v6)] [.inl (v4 + 1), .inl (v3 + 1), .inr v0] σ 0 0 (PI K)) ∧ (v6 = 1 → GW l mX12_meet 158 [(0, .inr v0), (1, .inl v1), (2, .inl v2), (3, .inl v3), (4, .inl v4), (5, .inl v5), (6, .inl v6)] [.inl v4, .inl (v3 + 1), .inr v0] σ 0 0 (PI K)))))))) : GW l mX12_meet 123 [(0, .inr v0), (1, .inl v1), (2, .inl v2), (3, .inl v3), (4, .inl v4), (5, .inl v5), (6, .inl v6)] [] σ 0 0 (PI K) := by
  refine gw_iload (q := 6) dX12_meet_123 rfl ?_
  refine gw_iconst (v := 3) dX12_meet_125 ic_3 ?_
  refine gw_icmp_ge (tgt := 198) dX12_meet_126 (by decide) (fun c1 => ?_) (fun c1 => ?_)
  · replace h := h.1 c1
    refine gw_aload_n (q := 0) dX12_meet_198 rfl rfl ?_
    obtain ⟨g2, h⟩ := h
    refine gw_gR fX12_102 dX12_meet_199 g2 ?_
    refine gw_bipush (v := 40) dX12_meet_202 bp_40 ?_
    refine gw_iload_n (q := 3) dX12_meet_204 rfl rfl ?_
    refine gw_imul dX12_meet_205 ?_
    refine gw_iload (q := 4) dX12_meet_206 rfl ?_
    refine gw_iadd dX12_meet_208 ?_
    refine gw_aload_n (q := 0) dX12_meet_209 rfl rfl ?_
    refine gw_aload_n (q := 0) dX12_meet_210 rfl rfl ?_
    refine gw_gR fX12_57 dX12_meet_211 g2 ?_
    refine gw_bipush (v := 40) dX12_meet_214 bp_40 ?_
    refine gw_iload_n (q := 1) dX12_meet_216 rfl rfl ?_
    refine gw_imul dX12_meet_217 ?_
    refine gw_iload_n (q := 3) dX12_meet_218 rfl rfl ?_
    refine gw_iadd dX12_meet_219 ?_
    obtain ⟨g3, h⟩ := h
    refine gw_aI dX12_meet_220 g3 ?_
    refine gw_aload_n (q := 0) dX12_meet_221 rfl rfl ?_
    refine gw_gR fX12_57 dX12_meet_222 g2 ?_
    refine gw_bipush (v := 40) dX12_meet_225 bp_40 ?_
    refine gw_iload_n (q := 2) dX12_meet_227 rfl rfl ?_
    refine gw_imul dX12_meet_228 ?_
    refine gw_iload (q := 4) dX12_meet_229 rfl ?_
    refine gw_iadd dX12_meet_231 ?_
    obtain ⟨g4, h⟩ := h
    refine gw_aI dX12_meet_232 g4 ?_
    refine gw_vC (bs := [.inl (σ.2.1 (σ.2.2 v0 19) ((40 * v1) + v3).toNatClampNeg), .inl (σ.2.1 (σ.2.2 v0 19) ((40 * v2) + v4).toNatClampNeg)]) (st := [.inl ((40 * v3) + v4), .inr (σ.2.2 v0 46)]) (vmX12_isClear) lX12_349 dX12_meet_233 ⟨by decide, rfl, rfl, by decide, by decide⟩ (Nat.le_of_ble_eq_true rfl) rfl rfl g2 h (kI (fun x5 σ5 h n5 => ?_))
    refine gw_if_eq (tgt := 244) dX12_meet_236 (by decide) (fun c6 => ?_) (fun c6 => ?_)
    · replace h := h.1 c6
      refine gw_iconst (v := (-1)) dX12_meet_244 ic_m1 ?_
      obtain ⟨g7, h⟩ := h
      refine gw_sI dX12_meet_245 g7 (fun σ8 e8 => ?_)
      replace h := h σ8 e8
      refine gw_inc (lo' := [(0, .inr v0), (1, .inl v1), (2, .inl v2), (3, .inl v3), (4, .inl (v4 + (-1))), (5, .inl v5), (6, .inl v6)]) (q := 4) (c := (-1)) dX12_meet_246 ic_m1 rfl (by decide) rfl ?_
      refine gw_goto (tgt := 83) dX12_meet_249 (by decide) ?_
      refine gw_pick [0, 1, 2, 3, 4] rfl ?_
      exact h
    · replace h := h.2 c6
      refine gw_iload (q := 5) dX12_meet_239 rfl ?_
      refine gw_goto (tgt := 245) dX12_meet_241 (by decide) ?_
      obtain ⟨g9, h⟩ := h
      refine gw_sI dX12_meet_245 g9 (fun σ10 e10 => ?_)
      replace h := h σ10 e10
      refine gw_inc (lo' := [(0, .inr v0), (1, .inl v1), (2, .inl v2), (3, .inl v3), (4, .inl (v4 + (-1))), (5, .inl v5), (6, .inl v6)]) (q := 4) (c := (-1)) dX12_meet_246 ic_m1 rfl (by decide) rfl ?_
      refine gw_goto (tgt := 83) dX12_meet_249 (by decide) ?_
      refine gw_pick [0, 1, 2, 3, 4] rfl ?_
      exact h
  · replace h := h.2 c1
    refine gw_aload_n (q := 0) dX12_meet_129 rfl rfl ?_
    refine gw_iload (q := 6) dX12_meet_130 rfl ?_
    refine gw_iconst (v := 2) dX12_meet_132 ic_2 ?_
    refine gw_icmp_ge (tgt := 142) dX12_meet_133 (by decide) (fun c11 => ?_) (fun c11 => ?_)
    · replace h := h.1 c11
      refine gw_iload_n (q := 3) dX12_meet_142 rfl rfl ?_
      refine gw_iload (q := 6) dX12_meet_143 rfl ?_
      refine gw_iconst (v := 1) dX12_meet_145 ic_1 ?_
      refine gw_icmp_ne (tgt := 154) dX12_meet_146 (by decide) (fun c12 => ?_) (fun c12 => ?_)
      · replace h := h.1 c12
        refine gw_iload (q := 4) dX12_meet_154 rfl ?_
        refine gw_iconst (v := 1) dX12_meet_156 ic_1 ?_
        refine gw_iadd dX12_meet_157 ?_
        exact h
      · replace h := h.2 c12
        refine gw_iload (q := 4) dX12_meet_149 rfl ?_
        refine gw_goto (tgt := 158) dX12_meet_151 (by decide) ?_
        exact h
    · replace h := h.2 c11
      refine gw_iload_n (q := 3) dX12_meet_136 rfl rfl ?_
      refine gw_iconst (v := 1) dX12_meet_137 ic_1 ?_
      refine gw_iadd dX12_meet_138 ?_
      refine gw_goto (tgt := 143) dX12_meet_139 (by decide) ?_
      refine gw_iload (q := 6) dX12_meet_143 rfl ?_
      refine gw_iconst (v := 1) dX12_meet_145 ic_1 ?_
      refine gw_icmp_ne (tgt := 154) dX12_meet_146 (by decide) (fun c13 => ?_) (fun c13 => ?_)
      · replace h := h.1 c13
        refine gw_iload (q := 4) dX12_meet_154 rfl ?_
        refine gw_iconst (v := 1) dX12_meet_156 ic_1 ?_
        refine gw_iadd dX12_meet_157 ?_
        exact h
      · replace h := h.2 c13
        refine gw_iload (q := 4) dX12_meet_149 rfl ?_
        refine gw_goto (tgt := 158) dX12_meet_151 (by decide) ?_
        exact h
set_option maxHeartbeats 4000000 in
set_option maxRecDepth 20000 in
theorem gX12_meet_83 {l : Launch} {v0 : Nat} {v1 : Int32} {v2 : Int32} {v3 : Int32} {v4 : Int32} {σ : Sg} {K : Int32 → Sg → Prop} (h : ((v4 < 0 → GW l mX12_meet 69 [(0, .inr v0), (1, .inl v1), (2, .inl v2), (3, .inl (v3 + (-1)))] [] σ 0 0 (PI K)) ∧ (¬ v4 < 0 → Ob σ v0 12 ∧ Ai σ (σ.2.2 v0 18) v1 ∧ ((¬ v3 = ((σ.2.1 (σ.2.2 v0 18) v1.toNatClampNeg) - 1) → GW l mX12_meet 123 [(0, .inr v0), (1, .inl v1), (2, .inl v2), (3, .inl v3), (4, .inl v4), (5, .inl (-1)), (6, .inl 0)] [] σ 0 0 (PI K)) ∧ (v3 = ((σ.2.1 (σ.2.2 v0 18) v1.toNatClampNeg) - 1) → Ai σ (σ.2.2 v0 18) v2 ∧ ((¬ v4 = ((σ.2.1 (σ.2.2 v0 18) v2.toNatClampNeg) - 1) → GW l mX12_meet 123 [(0, .inr v0), (1, .inl v1), (2, .inl v2), (3, .inl v3), (4, .inl v4), (5, .inl (-1)), (6, .inl 0)] [] σ 0 0 (PI K)) ∧ (v4 = ((σ.2.1 (σ.2.2 v0 18) v2.toNatClampNeg) - 1) → GW l mX12_meet 123 [(0, .inr v0), (1, .inl v1), (2, .inl v2), (3, .inl v3), (4, .inl v4), (5, .inl 0), (6, .inl 0)] [] σ 0 0 (PI K)))))))) : GW l mX12_meet 83 [(0, .inr v0), (1, .inl v1), (2, .inl v2), (3, .inl v3), (4, .inl v4)] [] σ 0 0 (PI K) := by
  refine gw_iload (q := 4) dX12_meet_83 rfl ?_
  refine gw_if_lt (tgt := 252) dX12_meet_85 (by decide) (fun c1 => ?_) (fun c1 => ?_)
  · replace h := h.1 c1
    refine gw_inc (lo' := [(0, .inr v0), (1, .inl v1), (2, .inl v2), (3, .inl (v3 + (-1))), (4, .inl v4)]) (q := 3) (c := (-1)) dX12_meet_252 ic_m1 rfl (by decide) rfl ?_
    refine gw_goto (tgt := 69) dX12_meet_255 (by decide) ?_
    refine gw_pick [0, 1, 2, 3] rfl ?_
    exact h
  · replace h := h.2 c1
    refine gw_iload_n (q := 3) dX12_meet_88 rfl rfl ?_
    refine gw_aload_n (q := 0) dX12_meet_89 rfl rfl ?_
    obtain ⟨g2, h⟩ := h
    refine gw_gR fX12_54 dX12_meet_90 g2 ?_
    refine gw_iload_n (q := 1) dX12_meet_93 rfl rfl ?_
    obtain ⟨g3, h⟩ := h
    refine gw_aI dX12_meet_94 g3 ?_
    refine gw_iconst (v := 1) dX12_meet_95 ic_1 ?_
    refine gw_isub dX12_meet_96 ?_
    refine gw_icmp_ne (tgt := 117) dX12_meet_97 (by decide) (fun c4 => ?_) (fun c4 => ?_)
    · replace h := h.1 c4
      refine gw_iconst (v := (-1)) dX12_meet_117 ic_m1 ?_
      refine gw_istore (lo' := [(0, .inr v0), (1, .inl v1), (2, .inl v2), (3, .inl v3), (4, .inl v4), (5, .inl (-1))]) dX12_meet_118 (by decide) rfl ?_
      refine gw_iconst (v := 0) dX12_meet_120 ic_0 ?_
      refine gw_istore (lo' := [(0, .inr v0), (1, .inl v1), (2, .inl v2), (3, .inl v3), (4, .inl v4), (5, .inl (-1)), (6, .inl 0)]) dX12_meet_121 (by decide) rfl ?_
      exact h
    · replace h := h.2 c4
      refine gw_iload (q := 4) dX12_meet_100 rfl ?_
      refine gw_aload_n (q := 0) dX12_meet_102 rfl rfl ?_
      refine gw_gR fX12_54 dX12_meet_103 g2 ?_
      refine gw_iload_n (q := 2) dX12_meet_106 rfl rfl ?_
      obtain ⟨g5, h⟩ := h
      refine gw_aI dX12_meet_107 g5 ?_
      refine gw_iconst (v := 1) dX12_meet_108 ic_1 ?_
      refine gw_isub dX12_meet_109 ?_
      refine gw_icmp_ne (tgt := 117) dX12_meet_110 (by decide) (fun c6 => ?_) (fun c6 => ?_)
      · replace h := h.1 c6
        refine gw_iconst (v := (-1)) dX12_meet_117 ic_m1 ?_
        refine gw_istore (lo' := [(0, .inr v0), (1, .inl v1), (2, .inl v2), (3, .inl v3), (4, .inl v4), (5, .inl (-1))]) dX12_meet_118 (by decide) rfl ?_
        refine gw_iconst (v := 0) dX12_meet_120 ic_0 ?_
        refine gw_istore (lo' := [(0, .inr v0), (1, .inl v1), (2, .inl v2), (3, .inl v3), (4, .inl v4), (5, .inl (-1)), (6, .inl 0)]) dX12_meet_121 (by decide) rfl ?_
        exact h
      · replace h := h.2 c6
        refine gw_iconst (v := 0) dX12_meet_113 ic_0 ?_
        refine gw_goto (tgt := 118) dX12_meet_114 (by decide) ?_
        refine gw_istore (lo' := [(0, .inr v0), (1, .inl v1), (2, .inl v2), (3, .inl v3), (4, .inl v4), (5, .inl 0)]) dX12_meet_118 (by decide) rfl ?_
        refine gw_iconst (v := 0) dX12_meet_120 ic_0 ?_
        refine gw_istore (lo' := [(0, .inr v0), (1, .inl v1), (2, .inl v2), (3, .inl v3), (4, .inl v4), (5, .inl 0), (6, .inl 0)]) dX12_meet_121 (by decide) rfl ?_
        exact h
set_option maxHeartbeats 4000000 in
set_option maxRecDepth 20000 in
theorem gX12_meet_69 {l : Launch} {v0 : Nat} {v1 : Int32} {v2 : Int32} {v3 : Int32} {σ : Sg} {K : Int32 → Sg → Prop} (h : ((v3 < 0 → Ob σ v0 12 ∧ Ai σ (σ.2.2 v0 46) 0 ∧ ((¬ (σ.2.1 (σ.2.2 v0 46) (0 : Int32).toNatClampNeg) = (-1) → ∀ σ5, σ5 = w1 σ v0 48 1 → Ai σ5 (σ5.2.2 v0 47) 0 ∧ ∀ σ7, σ7 = w1 σ5 (σ5.2.2 v0 47) (0 : Int32).toNatClampNeg 0 → GW l mX12_meet 288 [(0, .inr v0), (1, .inl v1), (2, .inl v2), (3, .inl 0), (4, .inl 0)] [] σ7 0 0 (PI K)) ∧ ((σ.2.1 (σ.2.2 v0 46) (0 : Int32).toNatClampNeg) = (-1) → K (-2) σ))) ∧ (¬ v3 < 0 → Ob σ v0 12 ∧ Ai σ (σ.2.2 v0 18) v2 ∧ GW l mX12_meet 83 [(0, .inr v0), (1, .inl v1), (2, .inl v2), (3, .inl v3), (4, .inl ((σ.2.1 (σ.2.2 v0 18) v2.toNatClampNeg) - 1))] [] σ 0 0 (PI K)))) : GW l mX12_meet 69 [(0, .inr v0), (1, .inl v1), (2, .inl v2), (3, .inl v3)] [] σ 0 0 (PI K) := by
  refine gw_iload_n (q := 3) dX12_meet_69 rfl rfl ?_
  refine gw_if_lt (tgt := 258) dX12_meet_70 (by decide) (fun c1 => ?_) (fun c1 => ?_)
  · replace h := h.1 c1
    refine gw_aload_n (q := 0) dX12_meet_258 rfl rfl ?_
    obtain ⟨g2, h⟩ := h
    refine gw_gR fX12_102 dX12_meet_259 g2 ?_
    refine gw_iconst (v := 0) dX12_meet_262 ic_0 ?_
    obtain ⟨g3, h⟩ := h
    refine gw_aI dX12_meet_263 g3 ?_
    refine gw_iconst (v := (-1)) dX12_meet_264 ic_m1 ?_
    refine gw_icmp_ne (tgt := 271) dX12_meet_265 (by decide) (fun c4 => ?_) (fun c4 => ?_)
    · replace h := h.1 c4
      refine gw_iconst (v := 0) dX12_meet_271 ic_0 ?_
      refine gw_istore_n (lo' := [(0, .inr v0), (1, .inl v1), (2, .inl v2), (3, .inl 0)]) dX12_meet_272 rfl (by decide) rfl ?_
      refine gw_iconst (v := 0) dX12_meet_273 ic_0 ?_
      refine gw_istore (lo' := [(0, .inr v0), (1, .inl v1), (2, .inl v2), (3, .inl 0), (4, .inl 0)]) dX12_meet_274 (by decide) rfl ?_
      refine gw_aload_n (q := 0) dX12_meet_276 rfl rfl ?_
      refine gw_iconst (v := 1) dX12_meet_277 ic_1 ?_
      refine gw_pI fX12_352 dX12_meet_278 g2 (fun σ5 e5 => ?_)
      replace h := h σ5 e5
      refine gw_aload_n (q := 0) dX12_meet_281 rfl rfl ?_
      refine gw_gR fX12_105 dX12_meet_282 (g2.up (n_w1 e5)) ?_
      refine gw_iconst (v := 0) dX12_meet_285 ic_0 ?_
      refine gw_iconst (v := 0) dX12_meet_286 ic_0 ?_
      obtain ⟨g6, h⟩ := h
      refine gw_sI dX12_meet_287 g6 (fun σ7 e7 => ?_)
      replace h := h σ7 e7
      exact h
    · replace h := h.2 c4
      refine gw_bipush (v := (-2)) dX12_meet_268 bp_m2 ?_
      exact gw_rI dX12_meet_270 rfl (by decide) (by decide) h
  · replace h := h.2 c1
    refine gw_aload_n (q := 0) dX12_meet_73 rfl rfl ?_
    obtain ⟨g8, h⟩ := h
    refine gw_gR fX12_54 dX12_meet_74 g8 ?_
    refine gw_iload_n (q := 2) dX12_meet_77 rfl rfl ?_
    obtain ⟨g9, h⟩ := h
    refine gw_aI dX12_meet_78 g9 ?_
    refine gw_iconst (v := 1) dX12_meet_79 ic_1 ?_
    refine gw_isub dX12_meet_80 ?_
    refine gw_istore (lo' := [(0, .inr v0), (1, .inl v1), (2, .inl v2), (3, .inl v3), (4, .inl ((σ.2.1 (σ.2.2 v0 18) v2.toNatClampNeg) - 1))]) dX12_meet_81 (by decide) rfl ?_
    exact h
set_option maxHeartbeats 4000000 in
set_option maxRecDepth 20000 in
theorem eX12_meet {l : Launch} {v0 : Nat} {v1 : Int32} {v2 : Int32} {σ : Sg} {K : Int32 → Sg → Prop} (h : Ob σ v0 12 ∧ ∀ σ2, σ2 = w1 σ v0 0 0 → Con l mX12_isTape [.inr v0, .inl v1] σ2 (PI (fun x3 σ3 => ((x3 = 0 → K (-1) σ3) ∧ (¬ x3 = 0 → Con l mX12_isTape [.inr v0, .inl v2] σ3 (PI (fun x5 σ5 => ((x5 = 0 → K (-1) σ5) ∧ (¬ x5 = 0 → Ai σ5 (σ5.2.2 v0 17) v1 ∧ ((¬ (σ5.2.1 (σ5.2.2 v0 17) v1.toNatClampNeg) = 0 → K (-1) σ5) ∧ ((σ5.2.1 (σ5.2.2 v0 17) v1.toNatClampNeg) = 0 → Ai σ5 (σ5.2.2 v0 17) v2 ∧ ((¬ (σ5.2.1 (σ5.2.2 v0 17) v2.toNatClampNeg) = 1 → K (-1) σ5) ∧ ((σ5.2.1 (σ5.2.2 v0 17) v2.toNatClampNeg) = 1 → Ai σ5 (σ5.2.2 v0 18) v1 ∧ (((σ5.2.1 (σ5.2.2 v0 18) v1.toNatClampNeg) = 0 → K (-1) σ5) ∧ (¬ (σ5.2.1 (σ5.2.2 v0 18) v1.toNatClampNeg) = 0 → Ai σ5 (σ5.2.2 v0 18) v2 ∧ ((¬ (σ5.2.1 (σ5.2.2 v0 18) v2.toNatClampNeg) = 0 → GW l mX12_meet 69 [(0, .inr v0), (1, .inl v1), (2, .inl v2), (3, .inl ((σ5.2.1 (σ5.2.2 v0 18) v1.toNatClampNeg) - 1))] [] σ5 0 0 (PI K)) ∧ ((σ5.2.1 (σ5.2.2 v0 18) v2.toNatClampNeg) = 0 → K (-1) σ5))))))))))))))))) : Con l mX12_meet [.inr v0, .inl v1, .inl v2] σ (PI K) := by
  refine con_gw rfl (Nat.le_of_ble_eq_true rfl) ?_
  show GW l mX12_meet 0 [(0, .inr v0), (1, .inl v1), (2, .inl v2)] [] σ 0 0 (PI K)
  refine gw_aload_n (q := 0) dX12_meet_0 rfl rfl ?_
  refine gw_iconst (v := 0) dX12_meet_1 ic_0 ?_
  obtain ⟨g1, h⟩ := h
  refine gw_pI fX12_135 dX12_meet_2 g1 (fun σ2 e2 => ?_)
  replace h := h σ2 e2
  refine gw_aload_n (q := 0) dX12_meet_5 rfl rfl ?_
  refine gw_iload_n (q := 1) dX12_meet_6 rfl rfl ?_
  refine gw_vC (bs := [.inl v1]) (st := []) (vmX12_isTape) lX12_181 dX12_meet_7 ⟨by decide, rfl, rfl, by decide, by decide⟩ (Nat.le_of_ble_eq_true rfl) rfl rfl (g1.up (n_w1 e2)) h (kI (fun x3 σ3 h n3 => ?_))
  refine gw_if_eq (tgt := 58) dX12_meet_10 (by decide) (fun c4 => ?_) (fun c4 => ?_)
  · replace h := h.1 c4
    refine gw_iconst (v := (-1)) dX12_meet_58 ic_m1 ?_
    exact gw_rI dX12_meet_59 rfl (by decide) (by decide) h
  · replace h := h.2 c4
    refine gw_aload_n (q := 0) dX12_meet_13 rfl rfl ?_
    refine gw_iload_n (q := 2) dX12_meet_14 rfl rfl ?_
    refine gw_vC (bs := [.inl v2]) (st := []) (vmX12_isTape) lX12_181 dX12_meet_15 ⟨by decide, rfl, rfl, by decide, by decide⟩ (Nat.le_of_ble_eq_true rfl) rfl rfl ((g1.up (n_w1 e2)).up n3) h (kI (fun x5 σ5 h n5 => ?_))
    refine gw_if_eq (tgt := 58) dX12_meet_18 (by decide) (fun c6 => ?_) (fun c6 => ?_)
    · replace h := h.1 c6
      refine gw_iconst (v := (-1)) dX12_meet_58 ic_m1 ?_
      exact gw_rI dX12_meet_59 rfl (by decide) (by decide) h
    · replace h := h.2 c6
      refine gw_aload_n (q := 0) dX12_meet_21 rfl rfl ?_
      refine gw_gR fX12_51 dX12_meet_22 (((g1.up (n_w1 e2)).up n3).up n5) ?_
      refine gw_iload_n (q := 1) dX12_meet_25 rfl rfl ?_
      obtain ⟨g7, h⟩ := h
      refine gw_aI dX12_meet_26 g7 ?_
      refine gw_if_ne (tgt := 58) dX12_meet_27 (by decide) (fun c8 => ?_) (fun c8 => ?_)
      · replace h := h.1 c8
        refine gw_iconst (v := (-1)) dX12_meet_58 ic_m1 ?_
        exact gw_rI dX12_meet_59 rfl (by decide) (by decide) h
      · replace h := h.2 c8
        refine gw_aload_n (q := 0) dX12_meet_30 rfl rfl ?_
        refine gw_gR fX12_51 dX12_meet_31 (((g1.up (n_w1 e2)).up n3).up n5) ?_
        refine gw_iload_n (q := 2) dX12_meet_34 rfl rfl ?_
        obtain ⟨g9, h⟩ := h
        refine gw_aI dX12_meet_35 g9 ?_
        refine gw_iconst (v := 1) dX12_meet_36 ic_1 ?_
        refine gw_icmp_ne (tgt := 58) dX12_meet_37 (by decide) (fun c10 => ?_) (fun c10 => ?_)
        · replace h := h.1 c10
          refine gw_iconst (v := (-1)) dX12_meet_58 ic_m1 ?_
          exact gw_rI dX12_meet_59 rfl (by decide) (by decide) h
        · replace h := h.2 c10
          refine gw_aload_n (q := 0) dX12_meet_40 rfl rfl ?_
          refine gw_gR fX12_54 dX12_meet_41 (((g1.up (n_w1 e2)).up n3).up n5) ?_
          refine gw_iload_n (q := 1) dX12_meet_44 rfl rfl ?_
          obtain ⟨g11, h⟩ := h
          refine gw_aI dX12_meet_45 g11 ?_
          refine gw_if_eq (tgt := 58) dX12_meet_46 (by decide) (fun c12 => ?_) (fun c12 => ?_)
          · replace h := h.1 c12
            refine gw_iconst (v := (-1)) dX12_meet_58 ic_m1 ?_
            exact gw_rI dX12_meet_59 rfl (by decide) (by decide) h
          · replace h := h.2 c12
            refine gw_aload_n (q := 0) dX12_meet_49 rfl rfl ?_
            refine gw_gR fX12_54 dX12_meet_50 (((g1.up (n_w1 e2)).up n3).up n5) ?_
            refine gw_iload_n (q := 2) dX12_meet_53 rfl rfl ?_
            obtain ⟨g13, h⟩ := h
            refine gw_aI dX12_meet_54 g13 ?_
            refine gw_if_ne (tgt := 60) dX12_meet_55 (by decide) (fun c14 => ?_) (fun c14 => ?_)
            · replace h := h.1 c14
              refine gw_aload_n (q := 0) dX12_meet_60 rfl rfl ?_
              refine gw_gR fX12_54 dX12_meet_61 (((g1.up (n_w1 e2)).up n3).up n5) ?_
              refine gw_iload_n (q := 1) dX12_meet_64 rfl rfl ?_
              refine gw_aI dX12_meet_65 g11 ?_
              refine gw_iconst (v := 1) dX12_meet_66 ic_1 ?_
              refine gw_isub dX12_meet_67 ?_
              refine gw_istore_n (lo' := [(0, .inr v0), (1, .inl v1), (2, .inl v2), (3, .inl ((σ5.2.1 (σ5.2.2 v0 18) v1.toNatClampNeg) - 1))]) dX12_meet_68 rfl (by decide) rfl ?_
              exact h
            · replace h := h.2 c14
              refine gw_iconst (v := (-1)) dX12_meet_58 ic_m1 ?_
              exact gw_rI dX12_meet_59 rfl (by decide) (by decide) h
set_option maxHeartbeats 4000000 in
set_option maxRecDepth 20000 in
theorem eX12_met {l : Launch} {v0 : Nat} {v1 : Int32} {σ : Sg} {K : Int32 → Sg → Prop} (h : Ob σ v0 12 ∧ ∀ σ2, σ2 = w1 σ v0 0 0 → ((v1 < 0 → K (-1) σ2) ∧ (¬ v1 < 0 → ((v1 < (σ2.2.1 v0 48) → Ai σ2 (σ2.2.2 v0 47) v1 ∧ K (σ2.2.1 (σ2.2.2 v0 47) v1.toNatClampNeg) σ2) ∧ (¬ v1 < (σ2.2.1 v0 48) → K (-1) σ2))))) : Con l mX12_met [.inr v0, .inl v1] σ (PI K) := by
  refine con_gw rfl (Nat.le_of_ble_eq_true rfl) ?_
  show GW l mX12_met 0 [(0, .inr v0), (1, .inl v1)] [] σ 0 0 (PI K)
  refine gw_aload_n (q := 0) dX12_met_0 rfl rfl ?_
  refine gw_iconst (v := 0) dX12_met_1 ic_0 ?_
  obtain ⟨g1, h⟩ := h
  refine gw_pI fX12_135 dX12_met_2 g1 (fun σ2 e2 => ?_)
  replace h := h σ2 e2
  refine gw_iload_n (q := 1) dX12_met_5 rfl rfl ?_
  refine gw_if_lt (tgt := 17) dX12_met_6 (by decide) (fun c3 => ?_) (fun c3 => ?_)
  · replace h := h.1 c3
    refine gw_iconst (v := (-1)) dX12_met_17 ic_m1 ?_
    refine gw_goto (tgt := 27) dX12_met_18 (by decide) ?_
    exact gw_rI dX12_met_27 rfl (by decide) (by decide) h
  · replace h := h.2 c3
    refine gw_iload_n (q := 1) dX12_met_9 rfl rfl ?_
    refine gw_aload_n (q := 0) dX12_met_10 rfl rfl ?_
    refine gw_gI fX12_352 dX12_met_11 (g1.up (n_w1 e2)) ?_
    refine gw_icmp_lt (tgt := 21) dX12_met_14 (by decide) (fun c4 => ?_) (fun c4 => ?_)
    · replace h := h.1 c4
      refine gw_aload_n (q := 0) dX12_met_21 rfl rfl ?_
      refine gw_gR fX12_105 dX12_met_22 (g1.up (n_w1 e2)) ?_
      refine gw_iload_n (q := 1) dX12_met_25 rfl rfl ?_
      obtain ⟨g5, h⟩ := h
      refine gw_aI dX12_met_26 g5 ?_
      exact gw_rI dX12_met_27 rfl (by decide) (by decide) h
    · replace h := h.2 c4
      refine gw_iconst (v := (-1)) dX12_met_17 ic_m1 ?_
      refine gw_goto (tgt := 27) dX12_met_18 (by decide) ?_
      exact gw_rI dX12_met_27 rfl (by decide) (by decide) h
