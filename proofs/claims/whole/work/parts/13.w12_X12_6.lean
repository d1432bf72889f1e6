set_option maxHeartbeats 4000000 in
set_option maxRecDepth 20000 in
theorem gX12_cuts_159 {l : Launch} {v0 : Nat} {v1 : Int32} {v2 : Int32} {v3 : Int32} {v4 : Int32} {v5 : Int32} {v6 : Int32} {v7 : Int32} {v8 : Int32} {v9 : Int32} {σ : Sg} {K : Int32 → Sg → Prop} (h : (((v5 + 1) < (v9 + v8) → GW l mX12_cuts 147 [(0, .inr v0), (1, .inl v1), (2, .inl v2), (3, .inl v3), (4, .inl v4), (5, .inl v5), (6, .inl v6), (7, .inl v7), (8, .inl (v8 + 1))] [] σ 0 0 (PI K)) ∧ (¬ (v5 + 1) < (v9 + v8) → Ob σ v0 12 ∧ Con l mX12_enough [.inr v0, .inl v1, .inl v9, .inl ((v9 + v8) - 1), .inl v2, .inl v3, .inl v4] σ (PI (fun x2 σ2 => ((¬ x2 = 0 → ∀ σ5, σ5 = w1 σ2 v0 62 v9 → ∀ σ6, σ6 = w1 σ5 v0 63 ((v9 + v8) - 1) → K 1 σ6) ∧ (x2 = 0 → GW l mX12_cuts 159 [(0, .inr v0), (1, .inl v1), (2, .inl v2), (3, .inl v3), (4, .inl v4), (5, .inl v5), (6, .inl v6), (7, .inl v7), (8, .inl v8), (9, .inl (v9 + 1))] [] σ2 0 0 (PI K)))))))) : GW l mX12_cuts 159 [(0, .inr v0), (1, .inl v1), (2, .inl v2), (3, .inl v3), (4, .inl v4), (5, .inl v5), (6, .inl v6), (7, .inl v7), (8, .inl v8), (9, .inl v9)] [] σ 0 0 (PI K) := by
  refine gw_iload (q := 9) dX12_cuts_159 rfl ?_
  refine gw_iload (q := 8) dX12_cuts_161 rfl ?_
  refine gw_iadd dX12_cuts_163 ?_
  refine gw_iload (q := 5) dX12_cuts_164 rfl ?_
  refine gw_iconst (v := 1) dX12_cuts_166 ic_1 ?_
  refine gw_iadd dX12_cuts_167 ?_
  refine gw_icmp_gt (tgt := 220) dX12_cuts_168 (by decide) (fun c1 => ?_) (fun c1 => ?_)
  · replace h := h.1 c1
    refine gw_inc (lo' := [(0, .inr v0), (1, .inl v1), (2, .inl v2), (3, .inl v3), (4, .inl v4), (5, .inl v5), (6, .inl v6), (7, .inl v7), (8, .inl (v8 + 1)), (9, .inl v9)]) (q := 8) (c := 1) dX12_cuts_220 ic_1 rfl (by decide) rfl ?_
    refine gw_goto (tgt := 147) dX12_cuts_223 (by decide) ?_
    refine gw_pick [0, 1, 2, 3, 4, 5, 6, 7, 8] rfl ?_
    exact h
  · replace h := h.2 c1
    refine gw_aload_n (q := 0) dX12_cuts_171 rfl rfl ?_
    refine gw_iload_n (q := 1) dX12_cuts_172 rfl rfl ?_
    refine gw_iload (q := 9) dX12_cuts_173 rfl ?_
    refine gw_iload (q := 9) dX12_cuts_175 rfl ?_
    refine gw_iload (q := 8) dX12_cuts_177 rfl ?_
    refine gw_iadd dX12_cuts_179 ?_
    refine gw_iconst (v := 1) dX12_cuts_180 ic_1 ?_
    refine gw_isub dX12_cuts_181 ?_
    refine gw_iload_n (q := 2) dX12_cuts_182 rfl rfl ?_
    refine gw_iload_n (q := 3) dX12_cuts_183 rfl rfl ?_
    refine gw_iload (q := 4) dX12_cuts_184 rfl ?_
    obtain ⟨g3, h⟩ := h
    refine gw_vC (bs := [.inl v1, .inl v9, .inl ((v9 + v8) - 1), .inl v2, .inl v3, .inl v4]) (st := []) (vmX12_enough) lX12_379 dX12_cuts_186 ⟨by decide, rfl, rfl, by decide, by decide⟩ (Nat.le_of_ble_eq_true rfl) rfl rfl g3 h (kI (fun x2 σ2 h n2 => ?_))
    refine gw_if_ne (tgt := 195) dX12_cuts_189 (by decide) (fun c4 => ?_) (fun c4 => ?_)
    · replace h := h.1 c4
      refine gw_aload_n (q := 0) dX12_cuts_195 rfl rfl ?_
      refine gw_iload (q := 9) dX12_cuts_196 rfl ?_
      refine gw_pI fX12_382 dX12_cuts_198 (g3.up n2) (fun σ5 e5 => ?_)
      replace h := h σ5 e5
      refine gw_aload_n (q := 0) dX12_cuts_201 rfl rfl ?_
      refine gw_iload (q := 9) dX12_cuts_202 rfl ?_
      refine gw_iload (q := 8) dX12_cuts_204 rfl ?_
      refine gw_iadd dX12_cuts_206 ?_
      refine gw_iconst (v := 1) dX12_cuts_207 ic_1 ?_
      refine gw_isub dX12_cuts_208 ?_
      refine gw_pI fX12_385 dX12_cuts_209 ((g3.up n2).up (n_w1 e5)) (fun σ6 e6 => ?_)
      replace h := h σ6 e6
      refine gw_iconst (v := 1) dX12_cuts_212 ic_1 ?_
      exact gw_rZ dX12_cuts_213 rfl (by decide) (by decide) (by decide) h
    · replace h := h.2 c4
      refine gw_goto (tgt := 214) dX12_cuts_192 (by decide) ?_
      refine gw_inc (lo' := [(0, .inr v0), (1, .inl v1), (2, .inl v2), (3, .inl v3), (4, .inl v4), (5, .inl v5), (6, .inl v6), (7, .inl v7), (8, .inl v8), (9, .inl (v9 + 1))]) (q := 9) (c := 1) dX12_cuts_214 ic_1 rfl (by decide) rfl ?_
      refine gw_goto (tgt := 159) dX12_cuts_217 (by decide) ?_
      exact h
set_option maxHeartbeats 4000000 in
set_option maxRecDepth 20000 in
theorem gX12_cuts_147 {l : Launch} {v0 : Nat} {v1 : Int32} {v2 : Int32} {v3 : Int32} {v4 : Int32} {v5 : Int32} {v6 : Int32} {v7 : Int32} {v8 : Int32} {σ : Sg} {K : Int32 → Sg → Prop} (h : (((v5 + 1) < v8 → K 0 σ) ∧ (¬ (v5 + 1) < v8 → GW l mX12_cuts 159 [(0, .inr v0), (1, .inl v1), (2, .inl v2), (3, .inl v3), (4, .inl v4), (5, .inl v5), (6, .inl v6), (7, .inl v7), (8, .inl v8), (9, .inl 0)] [] σ 0 0 (PI K)))) : GW l mX12_cuts 147 [(0, .inr v0), (1, .inl v1), (2, .inl v2), (3, .inl v3), (4, .inl v4), (5, .inl v5), (6, .inl v6), (7, .inl v7), (8, .inl v8)] [] σ 0 0 (PI K) := by
  refine gw_iload (q := 8) dX12_cuts_147 rfl ?_
  refine gw_iload (q := 5) dX12_cuts_149 rfl ?_
  refine gw_iconst (v := 1) dX12_cuts_151 ic_1 ?_
  refine gw_iadd dX12_cuts_152 ?_
  refine gw_icmp_gt (tgt := 226) dX12_cuts_153 (by decide) (fun c1 => ?_) (fun c1 => ?_)
  · replace h := h.1 c1
    refine gw_iconst (v := 0) dX12_cuts_226 ic_0 ?_
    exact gw_rZ dX12_cuts_227 rfl (by decide) (by decide) (by decide) h
  · replace h := h.2 c1
    refine gw_iconst (v := 0) dX12_cuts_156 ic_0 ?_
    refine gw_istore (lo' := [(0, .inr v0), (1, .inl v1), (2, .inl v2), (3, .inl v3), (4, .inl v4), (5, .inl v5), (6, .inl v6), (7, .inl v7), (8, .inl v8), (9, .inl 0)]) dX12_cuts_157 (by decide) rfl ?_
    exact h
set_option maxHeartbeats 4000000 in
set_option maxRecDepth 20000 in
theorem gX12_cuts_113 {l : Launch} {v0 : Nat} {v1 : Int32} {v2 : Int32} {v3 : Int32} {v4 : Int32} {v5 : Int32} {v6 : Int32} {v7 : Int32} {v8 : Int32} {v9 : Int32} {t0 : Nat} {t1 : Int32} {t2 : Int32} {σ : Sg} {K : Int32 → Sg → Prop} (h : Ai σ t0 t1 ∧ ∀ σ2, σ2 = w1 σ t0 t1.toNatClampNeg t2 → ((¬ v7 = 0 → GW l mX12_cuts 51 [(0, .inr v0), (1, .inl v1), (2, .inl v2), (3, .inl v3), (4, .inl v4), (5, .inl v5), (6, .inl v6), (7, .inl 1), (8, .inl (v8 + 1))] [] σ2 0 0 (PI K)) ∧ (v7 = 0 → ((v9 = 0 → GW l mX12_cuts 51 [(0, .inr v0), (1, .inl v1), (2, .inl v2), (3, .inl v3), (4, .inl v4), (5, .inl v5), (6, .inl v6), (7, .inl 0), (8, .inl (v8 + 1))] [] σ2 0 0 (PI K)) ∧ (¬ v9 = 0 → GW l mX12_cuts 51 [(0, .inr v0), (1, .inl v1), (2, .inl v2), (3, .inl v3), (4, .inl v4), (5, .inl v5), (6, .inl v6), (7, .inl 1), (8, .inl (v8 + 1))] [] σ2 0 0 (PI K)))))) : GW l mX12_cuts 113 [(0, .inr v0), (1, .inl v1), (2, .inl v2), (3, .inl v3), (4, .inl v4), (5, .inl v5), (6, .inl v6), (7, .inl v7), (8, .inl v8), (9, .inl v9)] [.inl t2, .inl t1, .inr t0] σ 0 0 (PI K) := by
  obtain ⟨g1, h⟩ := h
  refine gw_sI dX12_cuts_113 g1 (fun σ2 e2 => ?_)
  replace h := h σ2 e2
  refine gw_iload (q := 7) dX12_cuts_114 rfl ?_
  refine gw_if_ne (tgt := 124) dX12_cuts_116 (by decide) (fun c3 => ?_) (fun c3 => ?_)
  · replace h := h.1 c3
    refine gw_iconst (v := 1) dX12_cuts_124 ic_1 ?_
    refine gw_goto (tgt := 129) dX12_cuts_125 (by decide) ?_
    refine gw_istore (lo' := [(0, .inr v0), (1, .inl v1), (2, .inl v2), (3, .inl v3), (4, .inl v4), (5, .inl v5), (6, .inl v6), (7, .inl 1), (8, .inl v8), (9, .inl v9)]) dX12_cuts_129 (by decide) rfl ?_
    refine gw_inc (lo' := [(0, .inr v0), (1, .inl v1), (2, .inl v2), (3, .inl v3), (4, .inl v4), (5, .inl v5), (6, .inl v6), (7, .inl 1), (8, .inl (v8 + 1)), (9, .inl v9)]) (q := 8) (c := 1) dX12_cuts_131 ic_1 rfl (by decide) rfl ?_
    refine gw_goto (tgt := 51) dX12_cuts_134 (by decide) ?_
    refine gw_pick [0, 1, 2, 3, 4, 5, 6, 7, 8] rfl ?_
    exact h
  · replace h := h.2 c3
    refine gw_iload (q := 9) dX12_cuts_119 rfl ?_
    refine gw_if_eq (tgt := 128) dX12_cuts_121 (by decide) (fun c4 => ?_) (fun c4 => ?_)
    · replace h := h.1 c4
      refine gw_iconst (v := 0) dX12_cuts_128 ic_0 ?_
      refine gw_istore (lo' := [(0, .inr v0), (1, .inl v1), (2, .inl v2), (3, .inl v3), (4, .inl v4), (5, .inl v5), (6, .inl v6), (7, .inl 0), (8, .inl v8), (9, .inl v9)]) dX12_cuts_129 (by decide) rfl ?_
      refine gw_inc (lo' := [(0, .inr v0), (1, .inl v1), (2, .inl v2), (3, .inl v3), (4, .inl v4), (5, .inl v5), (6, .inl v6), (7, .inl 0), (8, .inl (v8 + 1)), (9, .inl v9)]) (q := 8) (c := 1) dX12_cuts_131 ic_1 rfl (by decide) rfl ?_
      refine gw_goto (tgt := 51) dX12_cuts_134 (by decide) ?_
      refine gw_pick [0, 1, 2, 3, 4, 5, 6, 7, 8] rfl ?_
      exact h
    · replace h := h.2 c4
      refine gw_iconst (v := 1) dX12_cuts_124 ic_1 ?_
      refine gw_goto (tgt := 129) dX12_cuts_125 (by decide) ?_
      refine gw_istore (lo' := [(0, .inr v0), (1, .inl v1), (2, .inl v2), (3, .inl v3), (4, .inl v4), (5, .inl v5), (6, .inl v6), (7, .inl 1), (8, .inl v8), (9, .inl v9)]) dX12_cuts_129 (by decide) rfl ?_
      refine gw_inc (lo' := [(0, .inr v0), (1, .inl v1), (2, .inl v2), (3, .inl v3), (4, .inl v4), (5, .inl v5), (6, .inl v6), (7, .inl 1), (8, .inl (v8 + 1)), (9, .inl v9)]) (q := 8) (c := 1) dX12_cuts_131 ic_1 rfl (by decide) rfl ?_
      refine gw_goto (tgt := 51) dX12_cuts_134 (by decide) ?_
      refine gw_pick [0, 1, 2, 3, 4, 5, 6, 7, 8] rfl ?_
      exact h
set_option maxHeartbeats 4000000 in
set_option maxRecDepth 20000 in
theorem gX12_cuts_51 {l : Launch} {v0 : Nat} {v1 : Int32} {v2 : Int32} {v3 : Int32} {v4 : Int32} {v5 : Int32} {v6 : Int32} {v7 : Int32} {v8 : Int32} {σ : Sg} {K : Int32 → Sg → Prop} (h : Ob σ v0 12 ∧ Al σ (σ.2.2 v0 55) ∧ (((Int32.ofNat (shp (σ.2.2 v0 55)).2) ≤ v8 → ((¬ v7 = 0 → GW l mX12_cuts 147 [(0, .inr v0), (1, .inl v1), (2, .inl v2), (3, .inl v3), (4, .inl v4), (5, .inl v5), (6, .inl v6), (7, .inl v7), (8, .inl 1)] [] σ 0 0 (PI K)) ∧ (v7 = 0 → K 0 σ))) ∧ (¬ (Int32.ofNat (shp (σ.2.2 v0 55)).2) ≤ v8 → ((v6 = 0 → GW l mX12_cuts 113 [(0, .inr v0), (1, .inl v1), (2, .inl v2), (3, .inl v3), (4, .inl v4), (5, .inl v5), (6, .inl v6), (7, .inl v7), (8, .inl v8), (9, .inl 0)] [.inl 0, .inl v8, .inr (σ.2.2 v0 55)] σ 0 0 (PI K)) ∧ (¬ v6 = 0 → Ai σ (σ.2.2 v0 38) v8 ∧ ((v4 ≤ (σ.2.1 (σ.2.2 v0 38) v8.toNatClampNeg) → GW l mX12_cuts 113 [(0, .inr v0), (1, .inl v1), (2, .inl v2), (3, .inl v3), (4, .inl v4), (5, .inl v5), (6, .inl v6), (7, .inl v7), (8, .inl v8), (9, .inl 0)] [.inl 0, .inl v8, .inr (σ.2.2 v0 55)] σ 0 0 (PI K)) ∧ (¬ v4 ≤ (σ.2.1 (σ.2.2 v0 38) v8.toNatClampNeg) → Ai σ (σ.2.2 v0 55) v8 ∧ (((σ.2.1 (σ.2.2 v0 55) v8.toNatClampNeg) < v4 → GW l mX12_cuts 113 [(0, .inr v0), (1, .inl v1), (2, .inl v2), (3, .inl v3), (4, .inl v4), (5, .inl v5), (6, .inl v6), (7, .inl v7), (8, .inl v8), (9, .inl 0)] [.inl 0, .inl v8, .inr (σ.2.2 v0 55)] σ 0 0 (PI K)) ∧ (¬ (σ.2.1 (σ.2.2 v0 55) v8.toNatClampNeg) < v4 → GW l mX12_cuts 113 [(0, .inr v0), (1, .inl v1), (2, .inl v2), (3, .inl v3), (4, .inl v4), (5, .inl v5), (6, .inl v6), (7, .inl v7), (8, .inl v8), (9, .inl 1)] [.inl 1, .inl v8, .inr (σ.2.2 v0 55)] σ 0 0 (PI K)))))))))) : GW l mX12_cuts 51 [(0, .inr v0), (1, .inl v1), (2, .inl v2), (3, .inl v3), (4, .inl v4), (5, .inl v5), (6, .inl v6), (7, .inl v7), (8, .inl v8)] [] σ 0 0 (PI K) := by
  refine gw_iload (q := 8) dX12_cuts_51 rfl ?_
  refine gw_aload_n (q := 0) dX12_cuts_53 rfl rfl ?_
  obtain ⟨g1, h⟩ := h
  refine gw_gR fX12_123 dX12_cuts_54 g1 ?_
  obtain ⟨g2, h⟩ := h
  refine gw_aL dX12_cuts_57 g2 ?_
  refine gw_icmp_ge (tgt := 137) dX12_cuts_58 (by decide) (fun c3 => ?_) (fun c3 => ?_)
  · replace h := h.1 c3
    refine gw_iload (q := 7) dX12_cuts_137 rfl ?_
    refine gw_if_ne (tgt := 144) dX12_cuts_139 (by decide) (fun c4 => ?_) (fun c4 => ?_)
    · replace h := h.1 c4
      refine gw_iconst (v := 1) dX12_cuts_144 ic_1 ?_
      refine gw_istore (lo' := [(0, .inr v0), (1, .inl v1), (2, .inl v2), (3, .inl v3), (4, .inl v4), (5, .inl v5), (6, .inl v6), (7, .inl v7), (8, .inl 1)]) dX12_cuts_145 (by decide) rfl ?_
      exact h
    · replace h := h.2 c4
      refine gw_iconst (v := 0) dX12_cuts_142 ic_0 ?_
      exact gw_rZ dX12_cuts_143 rfl (by decide) (by decide) (by decide) h
  · replace h := h.2 c3
    refine gw_iload (q := 6) dX12_cuts_61 rfl ?_
    refine gw_if_eq (tgt := 94) dX12_cuts_63 (by decide) (fun c5 => ?_) (fun c5 => ?_)
    · replace h := h.1 c5
      refine gw_iconst (v := 0) dX12_cuts_94 ic_0 ?_
      refine gw_istore (lo' := [(0, .inr v0), (1, .inl v1), (2, .inl v2), (3, .inl v3), (4, .inl v4), (5, .inl v5), (6, .inl v6), (7, .inl v7), (8, .inl v8), (9, .inl 0)]) dX12_cuts_95 (by decide) rfl ?_
      refine gw_aload_n (q := 0) dX12_cuts_97 rfl rfl ?_
      refine gw_gR fX12_123 dX12_cuts_98 g1 ?_
      refine gw_iload (q := 8) dX12_cuts_101 rfl ?_
      refine gw_iload (q := 9) dX12_cuts_103 rfl ?_
      refine gw_if_eq (tgt := 112) dX12_cuts_105 (by decide) (fun _ => ?_) (fun c => absurd c (by decide))
      refine gw_iconst (v := 0) dX12_cuts_112 ic_0 ?_
      exact h
    · replace h := h.2 c5
      refine gw_aload_n (q := 0) dX12_cuts_66 rfl rfl ?_
      refine gw_gR fX12_79 dX12_cuts_67 g1 ?_
      refine gw_iload (q := 8) dX12_cuts_70 rfl ?_
      obtain ⟨g7, h⟩ := h
      refine gw_aI dX12_cuts_72 g7 ?_
      refine gw_iload (q := 4) dX12_cuts_73 rfl ?_
      refine gw_icmp_ge (tgt := 94) dX12_cuts_75 (by decide) (fun c8 => ?_) (fun c8 => ?_)
      · replace h := h.1 c8
        refine gw_iconst (v := 0) dX12_cuts_94 ic_0 ?_
        refine gw_istore (lo' := [(0, .inr v0), (1, .inl v1), (2, .inl v2), (3, .inl v3), (4, .inl v4), (5, .inl v5), (6, .inl v6), (7, .inl v7), (8, .inl v8), (9, .inl 0)]) dX12_cuts_95 (by decide) rfl ?_
        refine gw_aload_n (q := 0) dX12_cuts_97 rfl rfl ?_
        refine gw_gR fX12_123 dX12_cuts_98 g1 ?_
        refine gw_iload (q := 8) dX12_cuts_101 rfl ?_
        refine gw_iload (q := 9) dX12_cuts_103 rfl ?_
        refine gw_if_eq (tgt := 112) dX12_cuts_105 (by decide) (fun _ => ?_) (fun c => absurd c (by decide))
        refine gw_iconst (v := 0) dX12_cuts_112 ic_0 ?_
        exact h
      · replace h := h.2 c8
        refine gw_aload_n (q := 0) dX12_cuts_78 rfl rfl ?_
        refine gw_gR fX12_123 dX12_cuts_79 g1 ?_
        refine gw_iload (q := 8) dX12_cuts_82 rfl ?_
        obtain ⟨g10, h⟩ := h
        refine gw_aI dX12_cuts_84 g10 ?_
        refine gw_iload (q := 4) dX12_cuts_85 rfl ?_
        refine gw_icmp_lt (tgt := 94) dX12_cuts_87 (by decide) (fun c11 => ?_) (fun c11 => ?_)
        · replace h := h.1 c11
          refine gw_iconst (v := 0) dX12_cuts_94 ic_0 ?_
          refine gw_istore (lo' := [(0, .inr v0), (1, .inl v1), (2, .inl v2), (3, .inl v3), (4, .inl v4), (5, .inl v5), (6, .inl v6), (7, .inl v7), (8, .inl v8), (9, .inl 0)]) dX12_cuts_95 (by decide) rfl ?_
          refine gw_aload_n (q := 0) dX12_cuts_97 rfl rfl ?_
          refine gw_gR fX12_123 dX12_cuts_98 g1 ?_
          refine gw_iload (q := 8) dX12_cuts_101 rfl ?_
          refine gw_iload (q := 9) dX12_cuts_103 rfl ?_
          refine gw_if_eq (tgt := 112) dX12_cuts_105 (by decide) (fun _ => ?_) (fun c => absurd c (by decide))
          refine gw_iconst (v := 0) dX12_cuts_112 ic_0 ?_
          exact h
        · replace h := h.2 c11
          refine gw_iconst (v := 1) dX12_cuts_90 ic_1 ?_
          refine gw_goto (tgt := 95) dX12_cuts_91 (by decide) ?_
          refine gw_istore (lo' := [(0, .inr v0), (1, .inl v1), (2, .inl v2), (3, .inl v3), (4, .inl v4), (5, .inl v5), (6, .inl v6), (7, .inl v7), (8, .inl v8), (9, .inl 1)]) dX12_cuts_95 (by decide) rfl ?_
          refine gw_aload_n (q := 0) dX12_cuts_97 rfl rfl ?_
          refine gw_gR fX12_123 dX12_cuts_98 g1 ?_
          refine gw_iload (q := 8) dX12_cuts_101 rfl ?_
          refine gw_iload (q := 9) dX12_cuts_103 rfl ?_
          refine gw_if_eq (tgt := 112) dX12_cuts_105 (by decide) (fun c => absurd c (by decide)) (fun _ => ?_)
          refine gw_iconst (v := 1) dX12_cuts_108 ic_1 ?_
          refine gw_goto (tgt := 113) dX12_cuts_109 (by decide) ?_
          exact h
set_option maxHeartbeats 4000000 in
set_option maxRecDepth 20000 in
theorem eX12_cuts {l : Launch} {v0 : Nat} {v1 : Int32} {v2 : Int32} {v3 : Int32} {v4 : Int32} {σ : Sg} {K : Int32 → Sg → Prop} (h : Ob σ v0 12 ∧ Ai σ (σ.2.2 v0 18) v1 ∧ Con l mX12_empties [.inr (σ.2.2 v0 55)] σ (PV (fun σ3 => Con l mX12_lays [.inr v0, .inr (σ3.2.2 v0 55), .inl v1, .inl 0, .inl ((σ.2.1 (σ.2.2 v0 18) v1.toNatClampNeg) - 1), .inl v2, .inl v3, .inl 0, .inl 0, .inl 0, .inl 0] σ3 (PI (fun x4 σ4 => ((x4 ≤ 0 → GW l mX12_cuts 51 [(0, .inr v0), (1, .inl v1), (2, .inl v2), (3, .inl v3), (4, .inl v4), (5, .inl ((σ.2.1 (σ.2.2 v0 18) v1.toNatClampNeg) - 1)), (6, .inl 0), (7, .inl 0), (8, .inl 0)] [] σ4 0 0 (PI K)) ∧ (¬ x4 ≤ 0 → GW l mX12_cuts 51 [(0, .inr v0), (1, .inl v1), (2, .inl v2), (3, .inl v3), (4, .inl v4), (5, .inl ((σ.2.1 (σ.2.2 v0 18) v1.toNatClampNeg) - 1)), (6, .inl 1), (7, .inl 0), (8, .inl 0)] [] σ4 0 0 (PI K)))))))) : Con l mX12_cuts [.inr v0, .inl v1, .inl v2, .inl v3, .inl v4] σ (PI K) := by
  refine con_gw rfl (Nat.le_of_ble_eq_true rfl) ?_
  show GW l mX12_cuts 0 [(0, .inr v0), (1, .inl v1), (2, .inl v2), (3, .inl v3), (4, .inl v4)] [] σ 0 0 (PI K)
  refine gw_aload_n (q := 0) dX12_cuts_0 rfl rfl ?_
  obtain ⟨g1, h⟩ := h
  refine gw_gR fX12_54 dX12_cuts_1 g1 ?_
  refine gw_iload_n (q := 1) dX12_cuts_4 rfl rfl ?_
  obtain ⟨g2, h⟩ := h
  refine gw_aI dX12_cuts_5 g2 ?_
  refine gw_iconst (v := 1) dX12_cuts_6 ic_1 ?_
  refine gw_isub dX12_cuts_7 ?_
  refine gw_istore (lo' := [(0, .inr v0), (1, .inl v1), (2, .inl v2), (3, .inl v3), (4, .inl v4), (5, .inl ((σ.2.1 (σ.2.2 v0 18) v1.toNatClampNeg) - 1))]) dX12_cuts_8 (by decide) rfl ?_
  refine gw_aload_n (q := 0) dX12_cuts_10 rfl rfl ?_
  refine gw_gR fX12_123 dX12_cuts_11 g1 ?_
  refine gw_sC (bs := [.inr (σ.2.2 v0 55)]) (st := []) smX12_empties lX12_306 dX12_cuts_14 ⟨by decide, rfl, rfl, by decide, by decide⟩ (Nat.le_of_ble_eq_true rfl) rfl rfl h (kV (fun σ3 h n3 => ?_))
  refine gw_aload_n (q := 0) dX12_cuts_17 rfl rfl ?_
  refine gw_aload_n (q := 0) dX12_cuts_18 rfl rfl ?_
  refine gw_gR fX12_123 dX12_cuts_19 (g1.up n3) ?_
  refine gw_iload_n (q := 1) dX12_cuts_22 rfl rfl ?_
  refine gw_iconst (v := 0) dX12_cuts_23 ic_0 ?_
  refine gw_iload (q := 5) dX12_cuts_24 rfl ?_
  refine gw_iload_n (q := 2) dX12_cuts_26 rfl rfl ?_
  refine gw_iload_n (q := 3) dX12_cuts_27 rfl rfl ?_
  refine gw_iconst (v := 0) dX12_cuts_28 ic_0 ?_
  refine gw_iconst (v := 0) dX12_cuts_29 ic_0 ?_
  refine gw_iconst (v := 0) dX12_cuts_30 ic_0 ?_
  refine gw_iconst (v := 0) dX12_cuts_31 ic_0 ?_
  refine gw_vC (bs := [.inr (σ3.2.2 v0 55), .inl v1, .inl 0, .inl ((σ.2.1 (σ.2.2 v0 18) v1.toNatClampNeg) - 1), .inl v2, .inl v3, .inl 0, .inl 0, .inl 0, .inl 0]) (st := []) (vmX12_lays) lX12_299 dX12_cuts_32 ⟨by decide, rfl, rfl, by decide, by decide⟩ (Nat.le_of_ble_eq_true rfl) rfl rfl (g1.up n3) h (kI (fun x4 σ4 h n4 => ?_))
  refine gw_if_le (tgt := 42) dX12_cuts_35 (by decide) (fun c5 => ?_) (fun c5 => ?_)
  · replace h := h.1 c5
    refine gw_iconst (v := 0) dX12_cuts_42 ic_0 ?_
    refine gw_istore (lo' := [(0, .inr v0), (1, .inl v1), (2, .inl v2), (3, .inl v3), (4, .inl v4), (5, .inl ((σ.2.1 (σ.2.2 v0 18) v1.toNatClampNeg) - 1)), (6, .inl 0)]) dX12_cuts_43 (by decide) rfl ?_
    refine gw_iconst (v := 0) dX12_cuts_45 ic_0 ?_
    refine gw_istore (lo' := [(0, .inr v0), (1, .inl v1), (2, .inl v2), (3, .inl v3), (4, .inl v4), (5, .inl ((σ.2.1 (σ.2.2 v0 18) v1.toNatClampNeg) - 1)), (6, .inl 0), (7, .inl 0)]) dX12_cuts_46 (by decide) rfl ?_
    refine gw_iconst (v := 0) dX12_cuts_48 ic_0 ?_
    refine gw_istore (lo' := [(0, .inr v0), (1, .inl v1), (2, .inl v2), (3, .inl v3), (4, .inl v4), (5, .inl ((σ.2.1 (σ.2.2 v0 18) v1.toNatClampNeg) - 1)), (6, .inl 0), (7, .inl 0), (8, .inl 0)]) dX12_cuts_49 (by decide) rfl ?_
    exact h
  · replace h := h.2 c5
    refine gw_iconst (v := 1) dX12_cuts_38 ic_1 ?_
    refine gw_goto (tgt := 43) dX12_cuts_39 (by decide) ?_
    refine gw_istore (lo' := [(0, .inr v0), (1, .inl v1), (2, .inl v2), (3, .inl v3), (4, .inl v4), (5, .inl ((σ.2.1 (σ.2.2 v0 18) v1.toNatClampNeg) - 1)), (6, .inl 1)]) dX12_cuts_43 (by decide) rfl ?_
    refine gw_iconst (v := 0) dX12_cuts_45 ic_0 ?_
    refine gw_istore (lo' := [(0, .inr v0), (1, .inl v1), (2, .inl v2), (3, .inl v3), (4, .inl v4), (5, .inl ((σ.2.1 (σ.2.2 v0 18) v1.toNatClampNeg) - 1)), (6, .inl 1), (7, .inl 0)]) dX12_cuts_46 (by decide) rfl ?_
    refine gw_iconst (v := 0) dX12_cuts_48 ic_0 ?_
    refine gw_istore (lo' := [(0, .inr v0), (1, .inl v1), (2, .inl v2), (3, .inl v3), (4, .inl v4), (5, .inl ((σ.2.1 (σ.2.2 v0 18) v1.toNatClampNeg) - 1)), (6, .inl 1), (7, .inl 0), (8, .inl 0)]) dX12_cuts_49 (by decide) rfl ?_
    exact h
set_option maxHeartbeats 4000000 in
set_option maxRecDepth 20000 in
theorem gX12_enough_31 {l : Launch} {v0 : Nat} {v1 : Int32} {v2 : Int32} {v3 : Int32} {v4 : Int32} {v5 : Int32} {v6 : Int32} {v7 : Int32} {v8 : Int32} {σ : Sg} {K : Int32 → Sg → Prop} (h : Ob σ v0 12 ∧ Al σ (σ.2.2 v0 56) ∧ (((Int32.ofNat (shp (σ.2.2 v0 56)).2) ≤ v8 → ((v7 < 0 → K 0 σ) ∧ (¬ v7 < 0 → K 1 σ))) ∧ (¬ (Int32.ofNat (shp (σ.2.2 v0 56)).2) ≤ v8 → Ai σ (σ.2.2 v0 55) v8 ∧ ((¬ (σ.2.1 (σ.2.2 v0 55) v8.toNatClampNeg) = 1 → GW l mX12_enough 31 [(0, .inr v0), (1, .inl v1), (2, .inl v2), (3, .inl v3), (4, .inl v4), (5, .inl v5), (6, .inl v6), (7, .inl v7), (8, .inl (v8 + 1))] [] σ 0 0 (PI K)) ∧ ((σ.2.1 (σ.2.2 v0 55) v8.toNatClampNeg) = 1 → Ai σ (σ.2.2 v0 38) v8 ∧ Ai σ (σ.2.2 v0 56) v8 ∧ ((v6 ≤ ((σ.2.1 (σ.2.2 v0 38) v8.toNatClampNeg) + (σ.2.1 (σ.2.2 v0 56) v8.toNatClampNeg)) → GW l mX12_enough 31 [(0, .inr v0), (1, .inl v1), (2, .inl v2), (3, .inl v3), (4, .inl v4), (5, .inl v5), (6, .inl v6), (7, .inl v7), (8, .inl (v8 + 1))] [] σ 0 0 (PI K)) ∧ (¬ v6 ≤ ((σ.2.1 (σ.2.2 v0 38) v8.toNatClampNeg) + (σ.2.1 (σ.2.2 v0 56) v8.toNatClampNeg)) → K 0 σ))))))) : GW l mX12_enough 31 [(0, .inr v0), (1, .inl v1), (2, .inl v2), (3, .inl v3), (4, .inl v4), (5, .inl v5), (6, .inl v6), (7, .inl v7), (8, .inl v8)] [] σ 0 0 (PI K) := by
  refine gw_iload (q := 8) dX12_enough_31 rfl ?_
  refine gw_aload_n (q := 0) dX12_enough_33 rfl rfl ?_
  obtain ⟨g1, h⟩ := h
  refine gw_gR fX12_126 dX12_enough_34 g1 ?_
  obtain ⟨g2, h⟩ := h
  refine gw_aL dX12_enough_37 g2 ?_
  refine gw_icmp_ge (tgt := 80) dX12_enough_38 (by decide) (fun c3 => ?_) (fun c3 => ?_)
  · replace h := h.1 c3
    refine gw_iload (q := 7) dX12_enough_80 rfl ?_
    refine gw_if_lt (tgt := 89) dX12_enough_82 (by decide) (fun c4 => ?_) (fun c4 => ?_)
    · replace h := h.1 c4
      refine gw_iconst (v := 0) dX12_enough_89 ic_0 ?_
      exact gw_rZ dX12_enough_90 rfl (by decide) (by decide) (by decide) h
    · replace h := h.2 c4
      refine gw_iconst (v := 1) dX12_enough_85 ic_1 ?_
      refine gw_goto (tgt := 90) dX12_enough_86 (by decide) ?_
      exact gw_rZ dX12_enough_90 rfl (by decide) (by decide) (by decide) h
  · replace h := h.2 c3
    refine gw_aload_n (q := 0) dX12_enough_41 rfl rfl ?_
    refine gw_gR fX12_123 dX12_enough_42 g1 ?_
    refine gw_iload (q := 8) dX12_enough_45 rfl ?_
    obtain ⟨g5, h⟩ := h
    refine gw_aI dX12_enough_47 g5 ?_
    refine gw_iconst (v := 1) dX12_enough_48 ic_1 ?_
    refine gw_icmp_ne (tgt := 74) dX12_enough_49 (by decide) (fun c6 => ?_) (fun c6 => ?_)
    · replace h := h.1 c6
      refine gw_inc (lo' := [(0, .inr v0), (1, .inl v1), (2, .inl v2), (3, .inl v3), (4, .inl v4), (5, .inl v5), (6, .inl v6), (7, .inl v7), (8, .inl (v8 + 1))]) (q := 8) (c := 1) dX12_enough_74 ic_1 rfl (by decide) rfl ?_
      refine gw_goto (tgt := 31) dX12_enough_77 (by decide) ?_
      exact h
    · replace h := h.2 c6
      refine gw_aload_n (q := 0) dX12_enough_52 rfl rfl ?_
      refine gw_gR fX12_79 dX12_enough_53 g1 ?_
      refine gw_iload (q := 8) dX12_enough_56 rfl ?_
      obtain ⟨g7, h⟩ := h
      refine gw_aI dX12_enough_58 g7 ?_
      refine gw_aload_n (q := 0) dX12_enough_59 rfl rfl ?_
      refine gw_gR fX12_126 dX12_enough_60 g1 ?_
      refine gw_iload (q := 8) dX12_enough_63 rfl ?_
      obtain ⟨g8, h⟩ := h
      refine gw_aI dX12_enough_65 g8 ?_
      refine gw_iadd dX12_enough_66 ?_
      refine gw_iload (q := 6) dX12_enough_67 rfl ?_
      refine gw_icmp_ge (tgt := 74) dX12_enough_69 (by decide) (fun c9 => ?_) (fun c9 => ?_)
      · replace h := h.1 c9
        refine gw_inc (lo' := [(0, .inr v0), (1, .inl v1), (2, .inl v2), (3, .inl v3), (4, .inl v4), (5, .inl v5), (6, .inl v6), (7, .inl v7), (8, .inl (v8 + 1))]) (q := 8) (c := 1) dX12_enough_74 ic_1 rfl (by decide) rfl ?_
        refine gw_goto (tgt := 31) dX12_enough_77 (by decide) ?_
        exact h
      · replace h := h.2 c9
        refine gw_iconst (v := 0) dX12_enough_72 ic_0 ?_
        exact gw_rZ dX12_enough_73 rfl (by decide) (by decide) (by decide) h
set_option maxHeartbeats 4000000 in
set_option maxRecDepth 20000 in
theorem eX12_enough {l : Launch} {v0 : Nat} {v1 : Int32} {v2 : Int32} {v3 : Int32} {v4 : Int32} {v5 : Int32} {v6 : Int32} {σ : Sg} {K : Int32 → Sg → Prop} (h : Ob σ v0 12 ∧ Con l mX12_empties [.inr (σ.2.2 v0 56)] σ (PV (fun σ2 => Con l mX12_lays [.inr v0, .inr (σ2.2.2 v0 56), .inl v1, .inl v2, .inl v3, .inl v4, .inl v5, .inl 0, .inl 0, .inl 0, .inl 0] σ2 (PI (fun x3 σ3 => GW l mX12_enough 31 [(0, .inr v0), (1, .inl v1), (2, .inl v2), (3, .inl v3), (4, .inl v4), (5, .inl v5), (6, .inl v6), (7, .inl x3), (8, .inl 0)] [] σ3 0 0 (PI K)))))) : Con l mX12_enough [.inr v0, .inl v1, .inl v2, .inl v3, .inl v4, .inl v5, .inl v6] σ (PI K) := by
  refine con_gw rfl (Nat.le_of_ble_eq_true rfl) ?_
  show GW l mX12_enough 0 [(0, .inr v0), (1, .inl v1), (2, .inl v2), (3, .inl v3), (4, .inl v4), (5, .inl v5), (6, .inl v6)] [] σ 0 0 (PI K)
  refine gw_aload_n (q := 0) dX12_enough_0 rfl rfl ?_
  obtain ⟨g1, h⟩ := h
  refine gw_gR fX12_126 dX12_enough_1 g1 ?_
  refine gw_sC (bs := [.inr (σ.2.2 v0 56)]) (st := []) smX12_empties lX12_306 dX12_enough_4 ⟨by decide, rfl, rfl, by decide, by decide⟩ (Nat.le_of_ble_eq_true rfl) rfl rfl h (kV (fun σ2 h n2 => ?_))
  refine gw_aload_n (q := 0) dX12_enough_7 rfl rfl ?_
  refine gw_aload_n (q := 0) dX12_enough_8 rfl rfl ?_
  refine gw_gR fX12_126 dX12_enough_9 (g1.up n2) ?_
  refine gw_iload_n (q := 1) dX12_enough_12 rfl rfl ?_
  refine gw_iload_n (q := 2) dX12_enough_13 rfl rfl ?_
  refine gw_iload_n (q := 3) dX12_enough_14 rfl rfl ?_
  refine gw_iload (q := 4) dX12_enough_15 rfl ?_
  refine gw_iload (q := 5) dX12_enough_17 rfl ?_
  refine gw_iconst (v := 0) dX12_enough_19 ic_0 ?_
  refine gw_iconst (v := 0) dX12_enough_20 ic_0 ?_
  refine gw_iconst (v := 0) dX12_enough_21 ic_0 ?_
  refine gw_iconst (v := 0) dX12_enough_22 ic_0 ?_
  refine gw_vC (bs := [.inr (σ2.2.2 v0 56), .inl v1, .inl v2, .inl v3, .inl v4, .inl v5, .inl 0, .inl 0, .inl 0, .inl 0]) (st := []) (vmX12_lays) lX12_299 dX12_enough_23 ⟨by decide, rfl, rfl, by decide, by decide⟩ (Nat.le_of_ble_eq_true rfl) rfl rfl (g1.up n2) h (kI (fun x3 σ3 h n3 => ?_))
  refine gw_istore (lo' := [(0, .inr v0), (1, .inl v1), (2, .inl v2), (3, .inl v3), (4, .inl v4), (5, .inl v5), (6, .inl v6), (7, .inl x3)]) dX12_enough_26 (by decide) rfl ?_
  refine gw_iconst (v := 0) dX12_enough_28 ic_0 ?_
  refine gw_istore (lo' := [(0, .inr v0), (1, .inl v1), (2, .inl v2), (3, .inl v3), (4, .inl v4), (5, .inl v5), (6, .inl v6), (7, .inl x3), (8, .inl 0)]) dX12_enough_29 (by decide) rfl ?_
  exact h
set_option maxHeartbeats 4000000 in
set_option maxRecDepth 20000 in
theorem eX12_anew {l : Launch} {v0 : Nat} {v1 : Int32} {v2 : Int32} {v3 : Int32} {v4 : Int32} {v5 : Int32} {σ : Sg} {K : Int32 → Sg → Prop} (h : Ob σ v0 12 ∧ ∀ σ2, σ2 = w1 σ v0 0 0 → Con l mX12_isTape [.inr v0, .inl v1] σ2 (PI (fun x3 σ3 => ((x3 = 0 → K (-1) σ3) ∧ (¬ x3 = 0 → Con l mX12_isDrift [.inl v2] σ3 (PI (fun x5 σ5 => ((x5 = 0 → K (-1) σ5) ∧ (¬ x5 = 0 → Con l mX12_isOffset [.inl v3] σ5 (PI (fun x7 σ7 => ((x7 = 0 → K (-1) σ7) ∧ (¬ x7 = 0 → Con l mX12_in [.inl v4, .inl 1, .inl 99] σ7 (PI (fun x9 σ9 => ((x9 = 0 → K (-1) σ9) ∧ (¬ x9 = 0 → ((v5 < 0 → K (-1) σ9) ∧ (¬ v5 < 0 → ((v5 ≤ 1 → Con l mX12_cuts [.inr v0, .inl v1, .inl v2, .inl v3, .inl v4] σ9 (PI (fun x13 σ13 => ((¬ x13 = 0 → ((¬ v5 = 0 → K (σ13.2.1 v0 63) σ13) ∧ (v5 = 0 → K (σ13.2.1 v0 62) σ13))) ∧ (x13 = 0 → K (-2) σ13))))) ∧ (¬ v5 ≤ 1 → K (-1) σ9))))))))))))))))))))) : Con l mX12_anew [.inr v0, .inl v1, .inl v2, .inl v3, .inl v4, .inl v5] σ (PI K) := by
  refine con_gw rfl (Nat.le_of_ble_eq_true rfl) ?_
  show GW l mX12_anew 0 [(0, .inr v0), (1, .inl v1), (2, .inl v2), (3, .inl v3), (4, .inl v4), (5, .inl v5)] [] σ 0 0 (PI K)
  refine gw_aload_n (q := 0) dX12_anew_0 rfl rfl ?_
  refine gw_iconst (v := 0) dX12_anew_1 ic_0 ?_
  obtain ⟨g1, h⟩ := h
  refine gw_pI fX12_135 dX12_anew_2 g1 (fun σ2 e2 => ?_)
  replace h := h σ2 e2
  refine gw_aload_n (q := 0) dX12_anew_5 rfl rfl ?_
  refine gw_iload_n (q := 1) dX12_anew_6 rfl rfl ?_
  refine gw_vC (bs := [.inl v1]) (st := []) (vmX12_isTape) lX12_181 dX12_anew_7 ⟨by decide, rfl, rfl, by decide, by decide⟩ (Nat.le_of_ble_eq_true rfl) rfl rfl (g1.up (n_w1 e2)) h (kI (fun x3 σ3 h n3 => ?_))
  refine gw_if_eq (tgt := 49) dX12_anew_10 (by decide) (fun c4 => ?_) (fun c4 => ?_)
  · replace h := h.1 c4
    refine gw_iconst (v := (-1)) dX12_anew_49 ic_m1 ?_
    exact gw_rI dX12_anew_50 rfl (by decide) (by decide) h
  · replace h := h.2 c4
    refine gw_iload_n (q := 2) dX12_anew_13 rfl rfl ?_
    refine gw_sC (bs := [.inl v2]) (st := []) smX12_isDrift lX12_293 dX12_anew_14 ⟨by decide, rfl, rfl, by decide, by decide⟩ (Nat.le_of_ble_eq_true rfl) rfl rfl h (kI (fun x5 σ5 h n5 => ?_))
    refine gw_if_eq (tgt := 49) dX12_anew_17 (by decide) (fun c6 => ?_) (fun c6 => ?_)
    · replace h := h.1 c6
      refine gw_iconst (v := (-1)) dX12_anew_49 ic_m1 ?_
      exact gw_rI dX12_anew_50 rfl (by decide) (by decide) h
    · replace h := h.2 c6
      refine gw_iload_n (q := 3) dX12_anew_20 rfl rfl ?_
      refine gw_sC (bs := [.inl v3]) (st := []) smX12_isOffset lX12_296 dX12_anew_21 ⟨by decide, rfl, rfl, by decide, by decide⟩ (Nat.le_of_ble_eq_true rfl) rfl rfl h (kI (fun x7 σ7 h n7 => ?_))
      refine gw_if_eq (tgt := 49) dX12_anew_24 (by decide) (fun c8 => ?_) (fun c8 => ?_)
      · replace h := h.1 c8
        refine gw_iconst (v := (-1)) dX12_anew_49 ic_m1 ?_
        exact gw_rI dX12_anew_50 rfl (by decide) (by decide) h
      · replace h := h.2 c8
        refine gw_iload (q := 4) dX12_anew_27 rfl ?_
        refine gw_iconst (v := 1) dX12_anew_29 ic_1 ?_
        refine gw_bipush (v := 99) dX12_anew_30 bp_99 ?_
        refine gw_sC (bs := [.inl v4, .inl 1, .inl 99]) (st := []) smX12_in lX12_144 dX12_anew_32 ⟨by decide, rfl, rfl, by decide, by decide⟩ (Nat.le_of_ble_eq_true rfl) rfl rfl h (kI (fun x9 σ9 h n9 => ?_))
        refine gw_if_eq (tgt := 49) dX12_anew_35 (by decide) (fun c10 => ?_) (fun c10 => ?_)
        · replace h := h.1 c10
          refine gw_iconst (v := (-1)) dX12_anew_49 ic_m1 ?_
          exact gw_rI dX12_anew_50 rfl (by decide) (by decide) h
        · replace h := h.2 c10
          refine gw_iload (q := 5) dX12_anew_38 rfl ?_
          refine gw_if_lt (tgt := 49) dX12_anew_40 (by decide) (fun c11 => ?_) (fun c11 => ?_)
          · replace h := h.1 c11
            refine gw_iconst (v := (-1)) dX12_anew_49 ic_m1 ?_
            exact gw_rI dX12_anew_50 rfl (by decide) (by decide) h
          · replace h := h.2 c11
            refine gw_iload (q := 5) dX12_anew_43 rfl ?_
            refine gw_iconst (v := 1) dX12_anew_45 ic_1 ?_
            refine gw_icmp_le (tgt := 51) dX12_anew_46 (by decide) (fun c12 => ?_) (fun c12 => ?_)
            · replace h := h.1 c12
              refine gw_aload_n (q := 0) dX12_anew_51 rfl rfl ?_
              refine gw_iload_n (q := 1) dX12_anew_52 rfl rfl ?_
              refine gw_iload_n (q := 2) dX12_anew_53 rfl rfl ?_
              refine gw_iload_n (q := 3) dX12_anew_54 rfl rfl ?_
              refine gw_iload (q := 4) dX12_anew_55 rfl ?_
              refine gw_vC (bs := [.inl v1, .inl v2, .inl v3, .inl v4]) (st := []) (vmX12_cuts) lX12_388 dX12_anew_57 ⟨by decide, rfl, rfl, by decide, by decide⟩ (Nat.le_of_ble_eq_true rfl) rfl rfl (((((g1.up (n_w1 e2)).up n3).up n5).up n7).up n9) h (kI (fun x13 σ13 h n13 => ?_))
              refine gw_if_ne (tgt := 66) dX12_anew_60 (by decide) (fun c14 => ?_) (fun c14 => ?_)
              · replace h := h.1 c14
                refine gw_iload (q := 5) dX12_anew_66 rfl ?_
                refine gw_if_ne (tgt := 78) dX12_anew_68 (by decide) (fun c15 => ?_) (fun c15 => ?_)
                · replace h := h.1 c15
                  refine gw_aload_n (q := 0) dX12_anew_78 rfl rfl ?_
                  refine gw_gI fX12_385 dX12_anew_79 ((((((g1.up (n_w1 e2)).up n3).up n5).up n7).up n9).up n13) ?_
                  exact gw_rI dX12_anew_82 rfl (by decide) (by decide) h
                · replace h := h.2 c15
                  refine gw_aload_n (q := 0) dX12_anew_71 rfl rfl ?_
                  refine gw_gI fX12_382 dX12_anew_72 ((((((g1.up (n_w1 e2)).up n3).up n5).up n7).up n9).up n13) ?_
                  refine gw_goto (tgt := 82) dX12_anew_75 (by decide) ?_
                  exact gw_rI dX12_anew_82 rfl (by decide) (by decide) h
              · replace h := h.2 c14
                refine gw_bipush (v := (-2)) dX12_anew_63 bp_m2 ?_
                exact gw_rI dX12_anew_65 rfl (by decide) (by decide) h
            · replace h := h.2 c12
              refine gw_iconst (v := (-1)) dX12_anew_49 ic_m1 ?_
              exact gw_rI dX12_anew_50 rfl (by decide) (by decide) h
set_option maxHeartbeats 4000000 in
set_option maxRecDepth 20000 in
theorem gX12_apart_59 {l : Launch} {v0 : Nat} {v1 : Int32} {v2 : Int32} {v3 : Int32} {v4 : Int32} {v5 : Int32} {v6 : Int32} {σ : Sg} {K : Int32 → Sg → Prop} (h : Ob σ v0 12 ∧ Ai σ (σ.2.2 v0 18) v1 ∧ Ai σ (σ.2.2 v0 18) v2 ∧ Con l mJ9_min_7cf53 [.inl (σ.2.1 (σ.2.2 v0 18) v1.toNatClampNeg), .inl (σ.2.1 (σ.2.2 v0 18) v2.toNatClampNeg)] σ (PI (fun x4 σ4 => ((x4 ≤ v6 → ((¬ v3 = 0 → K v5 σ4) ∧ (v3 = 0 → K v4 σ4))) ∧ (¬ x4 ≤ v6 → Ai σ4 (σ4.2.2 v0 19) ((40 * v1) + v6) ∧ Ai σ4 (σ4.2.2 v0 19) ((40 * v2) + v6) ∧ Ai σ4 (σ4.2.2 v0 17) v1 ∧ Con l mX12_tip [.inr v0, .inl (σ4.2.1 (σ4.2.2 v0 17) v1.toNatClampNeg), .inl (σ4.2.1 (σ4.2.2 v0 19) ((40 * v1) + v6).toNatClampNeg), .inl 1] σ4 (PI (fun x10 σ10 => Ai σ10 (σ10.2.2 v0 17) v2 ∧ Con l mX12_tip [.inr v0, .inl (σ10.2.1 (σ10.2.2 v0 17) v2.toNatClampNeg), .inl (σ4.2.1 (σ4.2.2 v0 19) ((40 * v2) + v6).toNatClampNeg), .inl 1] σ10 (PI (fun x12 σ12 => Con l mJ9_abs_0f7a4 [.inl (x10 - x12)] σ12 (PI (fun x13 σ13 => Ai σ13 (σ13.2.2 v0 17) v1 ∧ Con l mX12_tip [.inr v0, .inl (σ13.2.1 (σ13.2.2 v0 17) v1.toNatClampNeg), .inl (σ4.2.1 (σ4.2.2 v0 19) ((40 * v1) + v6).toNatClampNeg), .inl 0] σ13 (PI (fun x15 σ15 => Ai σ15 (σ15.2.2 v0 17) v2 ∧ Con l mX12_tip [.inr v0, .inl (σ15.2.1 (σ15.2.2 v0 17) v2.toNatClampNeg), .inl (σ4.2.1 (σ4.2.2 v0 19) ((40 * v2) + v6).toNatClampNeg), .inl 0] σ15 (PI (fun x17 σ17 => Con l mJ9_abs_0f7a4 [.inl (x15 - x17)] σ17 (PI (fun x18 σ18 => Con l mJ9_max_7cf53 [.inl x13, .inl x18] σ18 (PI (fun x19 σ19 => ((v4 < x19 → GW l mX12_apart 59 [(0, .inr v0), (1, .inl v1), (2, .inl v2), (3, .inl v3), (4, .inl x19), (5, .inl v6), (6, .inl (v6 + 1))] [] σ19 0 0 (PI K)) ∧ (¬ v4 < x19 → GW l mX12_apart 59 [(0, .inr v0), (1, .inl v1), (2, .inl v2), (3, .inl v3), (4, .inl v4), (5, .inl v5), (6, .inl (v6 + 1))] [] σ19 0 0 (PI K)))))))))))))))))))))) : GW l mX12_apart 59 [(0, .inr v0), (1, .inl v1), (2, .inl v2), (3, .inl v3), (4, .inl v4), (5, .inl v5), (6, .inl v6)] [] σ 0 0 (PI K) := by
  refine gw_iload (q := 6) dX12_apart_59 rfl ?_
  refine gw_aload_n (q := 0) dX12_apart_61 rfl rfl ?_
  obtain ⟨g1, h⟩ := h
  refine gw_gR fX12_54 dX12_apart_62 g1 ?_
  refine gw_iload_n (q := 1) dX12_apart_65 rfl rfl ?_
  obtain ⟨g2, h⟩ := h
  refine gw_aI dX12_apart_66 g2 ?_
  refine gw_aload_n (q := 0) dX12_apart_67 rfl rfl ?_
  refine gw_gR fX12_54 dX12_apart_68 g1 ?_
  refine gw_iload_n (q := 2) dX12_apart_71 rfl rfl ?_
  obtain ⟨g3, h⟩ := h
  refine gw_aI dX12_apart_72 g3 ?_
  refine gw_sC (bs := [.inl (σ.2.1 (σ.2.2 v0 18) v1.toNatClampNeg), .inl (σ.2.1 (σ.2.2 v0 18) v2.toNatClampNeg)]) (st := [.inl v6]) smJ9_min_7cf53 lX12_269 dX12_apart_73 ⟨by decide, rfl, rfl, by decide, by decide⟩ (Nat.le_of_ble_eq_true rfl) rfl rfl h (kI (fun x4 σ4 h n4 => ?_))
  refine gw_icmp_ge (tgt := 196) dX12_apart_76 (by decide) (fun c5 => ?_) (fun c5 => ?_)
  · replace h := h.1 c5
    refine gw_iload_n (q := 3) dX12_apart_196 rfl rfl ?_
    refine gw_if_ne (tgt := 205) dX12_apart_197 (by decide) (fun c6 => ?_) (fun c6 => ?_)
    · replace h := h.1 c6
      refine gw_iload (q := 5) dX12_apart_205 rfl ?_
      exact gw_rI dX12_apart_207 rfl (by decide) (by decide) h
    · replace h := h.2 c6
      refine gw_iload (q := 4) dX12_apart_200 rfl ?_
      refine gw_goto (tgt := 207) dX12_apart_202 (by decide) ?_
      exact gw_rI dX12_apart_207 rfl (by decide) (by decide) h
  · replace h := h.2 c5
    refine gw_aload_n (q := 0) dX12_apart_79 rfl rfl ?_
    refine gw_gR fX12_57 dX12_apart_80 (g1.up n4) ?_
    refine gw_bipush (v := 40) dX12_apart_83 bp_40 ?_
    refine gw_iload_n (q := 1) dX12_apart_85 rfl rfl ?_
    refine gw_imul dX12_apart_86 ?_
    refine gw_iload (q := 6) dX12_apart_87 rfl ?_
    refine gw_iadd dX12_apart_89 ?_
    obtain ⟨g7, h⟩ := h
    refine gw_aI dX12_apart_90 g7 ?_
    refine gw_istore (lo' := [(0, .inr v0), (1, .inl v1), (2, .inl v2), (3, .inl v3), (4, .inl v4), (5, .inl v5), (6, .inl v6), (7, .inl (σ4.2.1 (σ4.2.2 v0 19) ((40 * v1) + v6).toNatClampNeg))]) dX12_apart_91 (by decide) rfl ?_
    refine gw_aload_n (q := 0) dX12_apart_93 rfl rfl ?_
    refine gw_gR fX12_57 dX12_apart_94 (g1.up n4) ?_
    refine gw_bipush (v := 40) dX12_apart_97 bp_40 ?_
    refine gw_iload_n (q := 2) dX12_apart_99 rfl rfl ?_
    refine gw_imul dX12_apart_100 ?_
    refine gw_iload (q := 6) dX12_apart_101 rfl ?_
    refine gw_iadd dX12_apart_103 ?_
    obtain ⟨g8, h⟩ := h
    refine gw_aI dX12_apart_104 g8 ?_
    refine gw_istore (lo' := [(0, .inr v0), (1, .inl v1), (2, .inl v2), (3, .inl v3), (4, .inl v4), (5, .inl v5), (6, .inl v6), (7, .inl (σ4.2.1 (σ4.2.2 v0 19) ((40 * v1) + v6).toNatClampNeg)), (8, .inl (σ4.2.1 (σ4.2.2 v0 19) ((40 * v2) + v6).toNatClampNeg))]) dX12_apart_105 (by decide) rfl ?_
    refine gw_aload_n (q := 0) dX12_apart_107 rfl rfl ?_
    refine gw_aload_n (q := 0) dX12_apart_108 rfl rfl ?_
    refine gw_gR fX12_51 dX12_apart_109 (g1.up n4) ?_
    refine gw_iload_n (q := 1) dX12_apart_112 rfl rfl ?_
    obtain ⟨g9, h⟩ := h
    refine gw_aI dX12_apart_113 g9 ?_
    refine gw_iload (q := 7) dX12_apart_114 rfl ?_
    refine gw_iconst (v := 1) dX12_apart_116 ic_1 ?_
    refine gw_vC (bs := [.inl (σ4.2.1 (σ4.2.2 v0 17) v1.toNatClampNeg), .inl (σ4.2.1 (σ4.2.2 v0 19) ((40 * v1) + v6).toNatClampNeg), .inl 1]) (st := []) (vmX12_tip) lX12_184 dX12_apart_117 ⟨by decide, rfl, rfl, by decide, by decide⟩ (Nat.le_of_ble_eq_true rfl) rfl rfl (g1.up n4) h (kI (fun x10 σ10 h n10 => ?_))
    refine gw_aload_n (q := 0) dX12_apart_120 rfl rfl ?_
    refine gw_aload_n (q := 0) dX12_apart_121 rfl rfl ?_
    refine gw_gR fX12_51 dX12_apart_122 ((g1.up n4).up n10) ?_
    refine gw_iload_n (q := 2) dX12_apart_125 rfl rfl ?_
    obtain ⟨g11, h⟩ := h
    refine gw_aI dX12_apart_126 g11 ?_
    refine gw_iload (q := 8) dX12_apart_127 rfl ?_
    refine gw_iconst (v := 1) dX12_apart_129 ic_1 ?_
    refine gw_vC (bs := [.inl (σ10.2.1 (σ10.2.2 v0 17) v2.toNatClampNeg), .inl (σ4.2.1 (σ4.2.2 v0 19) ((40 * v2) + v6).toNatClampNeg), .inl 1]) (st := [.inl x10]) (vmX12_tip) lX12_184 dX12_apart_130 ⟨by decide, rfl, rfl, by decide, by decide⟩ (Nat.le_of_ble_eq_true rfl) rfl rfl ((g1.up n4).up n10) h (kI (fun x12 σ12 h n12 => ?_))
    refine gw_isub dX12_apart_133 ?_
    refine gw_sC (bs := [.inl (x10 - x12)]) (st := []) smJ9_abs_0f7a4 lX12_168 dX12_apart_134 ⟨by decide, rfl, rfl, by decide, by decide⟩ (Nat.le_of_ble_eq_true rfl) rfl rfl h (kI (fun x13 σ13 h n13 => ?_))
    refine gw_aload_n (q := 0) dX12_apart_137 rfl rfl ?_
    refine gw_aload_n (q := 0) dX12_apart_138 rfl rfl ?_
    refine gw_gR fX12_51 dX12_apart_139 ((((g1.up n4).up n10).up n12).up n13) ?_
    refine gw_iload_n (q := 1) dX12_apart_142 rfl rfl ?_
    obtain ⟨g14, h⟩ := h
    refine gw_aI dX12_apart_143 g14 ?_
    refine gw_iload (q := 7) dX12_apart_144 rfl ?_
    refine gw_iconst (v := 0) dX12_apart_146 ic_0 ?_
    refine gw_vC (bs := [.inl (σ13.2.1 (σ13.2.2 v0 17) v1.toNatClampNeg), .inl (σ4.2.1 (σ4.2.2 v0 19) ((40 * v1) + v6).toNatClampNeg), .inl 0]) (st := [.inl x13]) (vmX12_tip) lX12_184 dX12_apart_147 ⟨by decide, rfl, rfl, by decide, by decide⟩ (Nat.le_of_ble_eq_true rfl) rfl rfl ((((g1.up n4).up n10).up n12).up n13) h (kI (fun x15 σ15 h n15 => ?_))
    refine gw_aload_n (q := 0) dX12_apart_150 rfl rfl ?_
    refine gw_aload_n (q := 0) dX12_apart_151 rfl rfl ?_
    refine gw_gR fX12_51 dX12_apart_152 (((((g1.up n4).up n10).up n12).up n13).up n15) ?_
    refine gw_iload_n (q := 2) dX12_apart_155 rfl rfl ?_
    obtain ⟨g16, h⟩ := h
    refine gw_aI dX12_apart_156 g16 ?_
    refine gw_iload (q := 8) dX12_apart_157 rfl ?_
    refine gw_iconst (v := 0) dX12_apart_159 ic_0 ?_
    refine gw_vC (bs := [.inl (σ15.2.1 (σ15.2.2 v0 17) v2.toNatClampNeg), .inl (σ4.2.1 (σ4.2.2 v0 19) ((40 * v2) + v6).toNatClampNeg), .inl 0]) (st := [.inl x15, .inl x13]) (vmX12_tip) lX12_184 dX12_apart_160 ⟨by decide, rfl, rfl, by decide, by decide⟩ (Nat.le_of_ble_eq_true rfl) rfl rfl (((((g1.up n4).up n10).up n12).up n13).up n15) h (kI (fun x17 σ17 h n17 => ?_))
    refine gw_isub dX12_apart_163 ?_
    refine gw_sC (bs := [.inl (x15 - x17)]) (st := [.inl x13]) smJ9_abs_0f7a4 lX12_168 dX12_apart_164 ⟨by decide, rfl, rfl, by decide, by decide⟩ (Nat.le_of_ble_eq_true rfl) rfl rfl h (kI (fun x18 σ18 h n18 => ?_))
    refine gw_sC (bs := [.inl x13, .inl x18]) (st := []) smJ9_max_7cf53 lX12_174 dX12_apart_167 ⟨by decide, rfl, rfl, by decide, by decide⟩ (Nat.le_of_ble_eq_true rfl) rfl rfl h (kI (fun x19 σ19 h n19 => ?_))
    refine gw_istore (lo' := [(0, .inr v0), (1, .inl v1), (2, .inl v2), (3, .inl v3), (4, .inl v4), (5, .inl v5), (6, .inl v6), (7, .inl (σ4.2.1 (σ4.2.2 v0 19) ((40 * v1) + v6).toNatClampNeg)), (8, .inl (σ4.2.1 (σ4.2.2 v0 19) ((40 * v2) + v6).toNatClampNeg)), (9, .inl x19)]) dX12_apart_170 (by decide) rfl ?_
    refine gw_iload (q := 9) dX12_apart_172 rfl ?_
    refine gw_iload (q := 4) dX12_apart_174 rfl ?_
    refine gw_icmp_gt (tgt := 182) dX12_apart_176 (by decide) (fun c20 => ?_) (fun c20 => ?_)
    · replace h := h.1 c20
      refine gw_iload (q := 9) dX12_apart_182 rfl ?_
      refine gw_istore (lo' := [(0, .inr v0), (1, .inl v1), (2, .inl v2), (3, .inl v3), (4, .inl x19), (5, .inl v5), (6, .inl v6), (7, .inl (σ4.2.1 (σ4.2.2 v0 19) ((40 * v1) + v6).toNatClampNeg)), (8, .inl (σ4.2.1 (σ4.2.2 v0 19) ((40 * v2) + v6).toNatClampNeg)), (9, .inl x19)]) dX12_apart_184 (by decide) rfl ?_
      refine gw_iload (q := 6) dX12_apart_186 rfl ?_
      refine gw_istore (lo' := [(0, .inr v0), (1, .inl v1), (2, .inl v2), (3, .inl v3), (4, .inl x19), (5, .inl v6), (6, .inl v6), (7, .inl (σ4.2.1 (σ4.2.2 v0 19) ((40 * v1) + v6).toNatClampNeg)), (8, .inl (σ4.2.1 (σ4.2.2 v0 19) ((40 * v2) + v6).toNatClampNeg)), (9, .inl x19)]) dX12_apart_188 (by decide) rfl ?_
      refine gw_inc (lo' := [(0, .inr v0), (1, .inl v1), (2, .inl v2), (3, .inl v3), (4, .inl x19), (5, .inl v6), (6, .inl (v6 + 1)), (7, .inl (σ4.2.1 (σ4.2.2 v0 19) ((40 * v1) + v6).toNatClampNeg)), (8, .inl (σ4.2.1 (σ4.2.2 v0 19) ((40 * v2) + v6).toNatClampNeg)), (9, .inl x19)]) (q := 6) (c := 1) dX12_apart_190 ic_1 rfl (by decide) rfl ?_
      refine gw_goto (tgt := 59) dX12_apart_193 (by decide) ?_
      refine gw_pick [0, 1, 2, 3, 4, 5, 6] rfl ?_
      exact h
    · replace h := h.2 c20
      refine gw_goto (tgt := 190) dX12_apart_179 (by decide) ?_
      refine gw_inc (lo' := [(0, .inr v0), (1, .inl v1), (2, .inl v2), (3, .inl v3), (4, .inl v4), (5, .inl v5), (6, .inl (v6 + 1)), (7, .inl (σ4.2.1 (σ4.2.2 v0 19) ((40 * v1) + v6).toNatClampNeg)), (8, .inl (σ4.2.1 (σ4.2.2 v0 19) ((40 * v2) + v6).toNatClampNeg)), (9, .inl x19)]) (q := 6) (c := 1) dX12_apart_190 ic_1 rfl (by decide) rfl ?_
      refine gw_goto (tgt := 59) dX12_apart_193 (by decide) ?_
      refine gw_pick [0, 1, 2, 3, 4, 5, 6] rfl ?_
      exact h
set_option maxHeartbeats 4000000 in
set_option maxRecDepth 20000 in
theorem eX12_apart {l : Launch} {v0 : Nat} {v1 : Int32} {v2 : Int32} {v3 : Int32} {σ : Sg} {K : Int32 → Sg → Prop} (h : Ob σ v0 12 ∧ ∀ σ2, σ2 = w1 σ v0 0 0 → Con l mX12_isTape [.inr v0, .inl v1] σ2 (PI (fun x3 σ3 => ((x3 = 0 → K (-1) σ3) ∧ (¬ x3 = 0 → Con l mX12_isTape [.inr v0, .inl v2] σ3 (PI (fun x5 σ5 => ((x5 = 0 → K (-1) σ5) ∧ (¬ x5 = 0 → Ai σ5 (σ5.2.2 v0 18) v1 ∧ (((σ5.2.1 (σ5.2.2 v0 18) v1.toNatClampNeg) = 0 → K (-1) σ5) ∧ (¬ (σ5.2.1 (σ5.2.2 v0 18) v1.toNatClampNeg) = 0 → Ai σ5 (σ5.2.2 v0 18) v2 ∧ (((σ5.2.1 (σ5.2.2 v0 18) v2.toNatClampNeg) = 0 → K (-1) σ5) ∧ (¬ (σ5.2.1 (σ5.2.2 v0 18) v2.toNatClampNeg) = 0 → ((v3 < 0 → K (-1) σ5) ∧ (¬ v3 < 0 → ((v3 ≤ 1 → GW l mX12_apart 59 [(0, .inr v0), (1, .inl v1), (2, .inl v2), (3, .inl v3), (4, .inl (-1)), (5, .inl 0), (6, .inl 0)] [] σ5 0 0 (PI K)) ∧ (¬ v3 ≤ 1 → K (-1) σ5))))))))))))))))) : Con l mX12_apart [.inr v0, .inl v1, .inl v2, .inl v3] σ (PI K) := by
  refine con_gw rfl (Nat.le_of_ble_eq_true rfl) ?_
  show GW l mX12_apart 0 [(0, .inr v0), (1, .inl v1), (2, .inl v2), (3, .inl v3)] [] σ 0 0 (PI K)
  refine gw_aload_n (q := 0) dX12_apart_0 rfl rfl ?_
  refine gw_iconst (v := 0) dX12_apart_1 ic_0 ?_
  obtain ⟨g1, h⟩ := h
  refine gw_pI fX12_135 dX12_apart_2 g1 (fun σ2 e2 => ?_)
  replace h := h σ2 e2
  refine gw_aload_n (q := 0) dX12_apart_5 rfl rfl ?_
  refine gw_iload_n (q := 1) dX12_apart_6 rfl rfl ?_
  refine gw_vC (bs := [.inl v1]) (st := []) (vmX12_isTape) lX12_181 dX12_apart_7 ⟨by decide, rfl, rfl, by decide, by decide⟩ (Nat.le_of_ble_eq_true rfl) rfl rfl (g1.up (n_w1 e2)) h (kI (fun x3 σ3 h n3 => ?_))
  refine gw_if_eq (tgt := 48) dX12_apart_10 (by decide) (fun c4 => ?_) (fun c4 => ?_)
  · replace h := h.1 c4
    refine gw_iconst (v := (-1)) dX12_apart_48 ic_m1 ?_
    exact gw_rI dX12_apart_49 rfl (by decide) (by decide) h
  · replace h := h.2 c4
    refine gw_aload_n (q := 0) dX12_apart_13 rfl rfl ?_
    refine gw_iload_n (q := 2) dX12_apart_14 rfl rfl ?_
    refine gw_vC (bs := [.inl v2]) (st := []) (vmX12_isTape) lX12_181 dX12_apart_15 ⟨by decide, rfl, rfl, by decide, by decide⟩ (Nat.le_of_ble_eq_true rfl) rfl rfl ((g1.up (n_w1 e2)).up n3) h (kI (fun x5 σ5 h n5 => ?_))
    refine gw_if_eq (tgt := 48) dX12_apart_18 (by decide) (fun c6 => ?_) (fun c6 => ?_)
    · replace h := h.1 c6
      refine gw_iconst (v := (-1)) dX12_apart_48 ic_m1 ?_
      exact gw_rI dX12_apart_49 rfl (by decide) (by decide) h
    · replace h := h.2 c6
      refine gw_aload_n (q := 0) dX12_apart_21 rfl rfl ?_
      refine gw_gR fX12_54 dX12_apart_22 (((g1.up (n_w1 e2)).up n3).up n5) ?_
      refine gw_iload_n (q := 1) dX12_apart_25 rfl rfl ?_
      obtain ⟨g7, h⟩ := h
      refine gw_aI dX12_apart_26 g7 ?_
      refine gw_if_eq (tgt := 48) dX12_apart_27 (by decide) (fun c8 => ?_) (fun c8 => ?_)
      · replace h := h.1 c8
        refine gw_iconst (v := (-1)) dX12_apart_48 ic_m1 ?_
        exact gw_rI dX12_apart_49 rfl (by decide) (by decide) h
      · replace h := h.2 c8
        refine gw_aload_n (q := 0) dX12_apart_30 rfl rfl ?_
        refine gw_gR fX12_54 dX12_apart_31 (((g1.up (n_w1 e2)).up n3).up n5) ?_
        refine gw_iload_n (q := 2) dX12_apart_34 rfl rfl ?_
        obtain ⟨g9, h⟩ := h
        refine gw_aI dX12_apart_35 g9 ?_
        refine gw_if_eq (tgt := 48) dX12_apart_36 (by decide) (fun c10 => ?_) (fun c10 => ?_)
        · replace h := h.1 c10
          refine gw_iconst (v := (-1)) dX12_apart_48 ic_m1 ?_
          exact gw_rI dX12_apart_49 rfl (by decide) (by decide) h
        · replace h := h.2 c10
          refine gw_iload_n (q := 3) dX12_apart_39 rfl rfl ?_
          refine gw_if_lt (tgt := 48) dX12_apart_40 (by decide) (fun c11 => ?_) (fun c11 => ?_)
          · replace h := h.1 c11
            refine gw_iconst (v := (-1)) dX12_apart_48 ic_m1 ?_
            exact gw_rI dX12_apart_49 rfl (by decide) (by decide) h
          · replace h := h.2 c11
            refine gw_iload_n (q := 3) dX12_apart_43 rfl rfl ?_
            refine gw_iconst (v := 1) dX12_apart_44 ic_1 ?_
            refine gw_icmp_le (tgt := 50) dX12_apart_45 (by decide) (fun c12 => ?_) (fun c12 => ?_)
            · replace h := h.1 c12
              refine gw_iconst (v := (-1)) dX12_apart_50 ic_m1 ?_
              refine gw_istore (lo' := [(0, .inr v0), (1, .inl v1), (2, .inl v2), (3, .inl v3), (4, .inl (-1))]) dX12_apart_51 (by decide) rfl ?_
              refine gw_iconst (v := 0) dX12_apart_53 ic_0 ?_
              refine gw_istore (lo' := [(0, .inr v0), (1, .inl v1), (2, .inl v2), (3, .inl v3), (4, .inl (-1)), (5, .inl 0)]) dX12_apart_54 (by decide) rfl ?_
              refine gw_iconst (v := 0) dX12_apart_56 ic_0 ?_
              refine gw_istore (lo' := [(0, .inr v0), (1, .inl v1), (2, .inl v2), (3, .inl v3), (4, .inl (-1)), (5, .inl 0), (6, .inl 0)]) dX12_apart_57 (by decide) rfl ?_
              exact h
            · replace h := h.2 c12
              refine gw_iconst (v := (-1)) dX12_apart_48 ic_m1 ?_
              exact gw_rI dX12_apart_49 rfl (by decide) (by decide) h
set_option maxHeartbeats 4000000 in
set_option maxRecDepth 20000 in
theorem gX12_count_87 {l : Launch} {v0 : Nat} {v1 : Int32} {v2 : Int32} {v3 : Int32} {σ : Sg} {K : Int32 → Sg → Prop} (h : Ob σ v0 12 ∧ Al σ (σ.2.2 v0 38) ∧ (((Int32.ofNat (shp (σ.2.2 v0 38)).2) ≤ v3 → K v2 σ) ∧ (¬ (Int32.ofNat (shp (σ.2.2 v0 38)).2) ≤ v3 → Ai σ (σ.2.2 v0 38) v3 ∧ GW l mX12_count 87 [(0, .inr v0), (1, .inl v1), (2, .inl (v2 + (σ.2.1 (σ.2.2 v0 38) v3.toNatClampNeg))), (3, .inl (v3 + 1))] [] σ 0 0 (PI K)))) : GW l mX12_count 87 [(0, .inr v0), (1, .inl v1), (2, .inl v2), (3, .inl v3)] [] σ 0 0 (PI K) := by
  refine gw_iload_n (q := 3) dX12_count_87 rfl rfl ?_
  refine gw_aload_n (q := 0) dX12_count_88 rfl rfl ?_
  obtain ⟨g1, h⟩ := h
  refine gw_gR fX12_79 dX12_count_89 g1 ?_
  obtain ⟨g2, h⟩ := h
  refine gw_aL dX12_count_92 g2 ?_
  refine gw_icmp_ge (tgt := 111) dX12_count_93 (by decide) (fun c3 => ?_) (fun c3 => ?_)
  · replace h := h.1 c3
    refine gw_iload_n (q := 2) dX12_count_111 rfl rfl ?_
    exact gw_rI dX12_count_112 rfl (by decide) (by decide) h
  · replace h := h.2 c3
    refine gw_iload_n (q := 2) dX12_count_96 rfl rfl ?_
    refine gw_aload_n (q := 0) dX12_count_97 rfl rfl ?_
    refine gw_gR fX12_79 dX12_count_98 g1 ?_
    refine gw_iload_n (q := 3) dX12_count_101 rfl rfl ?_
    obtain ⟨g4, h⟩ := h
    refine gw_aI dX12_count_102 g4 ?_
    refine gw_iadd dX12_count_103 ?_
    refine gw_istore_n (lo' := [(0, .inr v0), (1, .inl v1), (2, .inl (v2 + (σ.2.1 (σ.2.2 v0 38) v3.toNatClampNeg))), (3, .inl v3)]) dX12_count_104 rfl (by decide) rfl ?_
    refine gw_inc (lo' := [(0, .inr v0), (1, .inl v1), (2, .inl (v2 + (σ.2.1 (σ.2.2 v0 38) v3.toNatClampNeg))), (3, .inl (v3 + 1))]) (q := 3) (c := 1) dX12_count_105 ic_1 rfl (by decide) rfl ?_
    refine gw_goto (tgt := 87) dX12_count_108 (by decide) ?_
    exact h
set_option maxHeartbeats 4000000 in
set_option maxRecDepth 20000 in
theorem gX12_count_60 {l : Launch} {v0 : Nat} {v1 : Int32} {v2 : Int32} {v3 : Int32} {σ : Sg} {K : Int32 → Sg → Prop} (h : Ob σ v0 12 ∧ (((σ.2.1 v0 16) ≤ v3 → K v2 σ) ∧ (¬ (σ.2.1 v0 16) ≤ v3 → Ai σ (σ.2.2 v0 18) v3 ∧ GW l mX12_count 60 [(0, .inr v0), (1, .inl v1), (2, .inl (v2 + (σ.2.1 (σ.2.2 v0 18) v3.toNatClampNeg))), (3, .inl (v3 + 1))] [] σ 0 0 (PI K)))) : GW l mX12_count 60 [(0, .inr v0), (1, .inl v1), (2, .inl v2), (3, .inl v3)] [] σ 0 0 (PI K) := by
  refine gw_iload_n (q := 3) dX12_count_60 rfl rfl ?_
  refine gw_aload_n (q := 0) dX12_count_61 rfl rfl ?_
  obtain ⟨g1, h⟩ := h
  refine gw_gI fX12_152 dX12_count_62 g1 ?_
  refine gw_icmp_ge (tgt := 83) dX12_count_65 (by decide) (fun c2 => ?_) (fun c2 => ?_)
  · replace h := h.1 c2
    refine gw_iload_n (q := 2) dX12_count_83 rfl rfl ?_
    exact gw_rI dX12_count_84 rfl (by decide) (by decide) h
  · replace h := h.2 c2
    refine gw_iload_n (q := 2) dX12_count_68 rfl rfl ?_
    refine gw_aload_n (q := 0) dX12_count_69 rfl rfl ?_
    refine gw_gR fX12_54 dX12_count_70 g1 ?_
    refine gw_iload_n (q := 3) dX12_count_73 rfl rfl ?_
    obtain ⟨g3, h⟩ := h
    refine gw_aI dX12_count_74 g3 ?_
    refine gw_iadd dX12_count_75 ?_
    refine gw_istore_n (lo' := [(0, .inr v0), (1, .inl v1), (2, .inl (v2 + (σ.2.1 (σ.2.2 v0 18) v3.toNatClampNeg))), (3, .inl v3)]) dX12_count_76 rfl (by decide) rfl ?_
    refine gw_inc (lo' := [(0, .inr v0), (1, .inl v1), (2, .inl (v2 + (σ.2.1 (σ.2.2 v0 18) v3.toNatClampNeg))), (3, .inl (v3 + 1))]) (q := 3) (c := 1) dX12_count_77 ic_1 rfl (by decide) rfl ?_
    refine gw_goto (tgt := 60) dX12_count_80 (by decide) ?_
    exact h
set_option maxHeartbeats 4000000 in
set_option maxRecDepth 20000 in
theorem eX12_count {l : Launch} {v0 : Nat} {v1 : Int32} {σ : Sg} {K : Int32 → Sg → Prop} (h : Ob σ v0 12 ∧ ∀ σ2, σ2 = w1 σ v0 0 0 → ((v1.toInt < 0 ∨ 5 < v1.toInt → K (-1) σ2) ∧ (v1.toInt = 0 → K (σ2.2.1 v0 4) σ2) ∧ (v1.toInt = 1 → K (σ2.2.1 v0 16) σ2) ∧ (v1.toInt = 2 → GW l mX12_count 60 [(0, .inr v0), (1, .inl v1), (2, .inl 0), (3, .inl 0)] [] σ2 0 0 (PI K)) ∧ (v1.toInt = 3 → GW l mX12_count 87 [(0, .inr v0), (1, .inl v1), (2, .inl 0), (3, .inl 0)] [] σ2 0 0 (PI K)) ∧ (v1.toInt = 4 → Con l mX12_painted [.inr v0] σ2 (PI (fun x3 σ3 => K x3 σ3))) ∧ (v1.toInt = 5 → K (σ2.2.1 v0 39) σ2))) : Con l mX12_count [.inr v0, .inl v1] σ (PI K) := by
  refine con_gw rfl (Nat.le_of_ble_eq_true rfl) ?_
  show GW l mX12_count 0 [(0, .inr v0), (1, .inl v1)] [] σ 0 0 (PI K)
  refine gw_aload_n (q := 0) dX12_count_0 rfl rfl ?_
  refine gw_iconst (v := 0) dX12_count_1 ic_0 ?_
  obtain ⟨g1, h⟩ := h
  refine gw_pI fX12_135 dX12_count_2 g1 (fun σ2 e2 => ?_)
  replace h := h σ2 e2
  refine gw_iconst (v := 0) dX12_count_5 ic_0 ?_
  refine gw_istore_n (lo' := [(0, .inr v0), (1, .inl v1), (2, .inl 0)]) dX12_count_6 rfl (by decide) rfl ?_
  refine gw_iload_n (q := 1) dX12_count_7 rfl rfl ?_
  refine gw_tab dX12_count_8 rfl (fun c => ?_) (fun k hk hx => ?_)
  · refine ⟨123, by decide, ?_⟩
    replace h := h.1 c
    refine gw_iconst (v := (-1)) dX12_count_123 ic_m1 ?_
    exact gw_rI dX12_count_124 rfl (by decide) (by decide) h
  · match k, hk, hx with
    | 0, _, hx =>
      refine ⟨40, 48, rfl, by decide, ?_⟩
      replace h := h.2.1 hx
      refine gw_aload_n (q := 0) dX12_count_48 rfl rfl ?_
      refine gw_gI fX12_141 dX12_count_49 (g1.up (n_w1 e2)) ?_
      exact gw_rI dX12_count_52 rfl (by decide) (by decide) h
    | 1, _, hx =>
      refine ⟨45, 53, rfl, by decide, ?_⟩
      replace h := h.2.2.1 hx
      refine gw_aload_n (q := 0) dX12_count_53 rfl rfl ?_
      refine gw_gI fX12_152 dX12_count_54 (g1.up (n_w1 e2)) ?_
      exact gw_rI dX12_count_57 rfl (by decide) (by decide) h
    | 2, _, hx =>
      refine ⟨50, 58, rfl, by decide, ?_⟩
      replace h := h.2.2.2.1 hx
      refine gw_iconst (v := 0) dX12_count_58 ic_0 ?_
      refine gw_istore_n (lo' := [(0, .inr v0), (1, .inl v1), (2, .inl 0), (3, .inl 0)]) dX12_count_59 rfl (by decide) rfl ?_
      exact h
    | 3, _, hx =>
      refine ⟨77, 85, rfl, by decide, ?_⟩
      replace h := h.2.2.2.2.1 hx
      refine gw_iconst (v := 0) dX12_count_85 ic_0 ?_
      refine gw_istore_n (lo' := [(0, .inr v0), (1, .inl v1), (2, .inl 0), (3, .inl 0)]) dX12_count_86 rfl (by decide) rfl ?_
      exact h
    | 4, _, hx =>
      refine ⟨105, 113, rfl, by decide, ?_⟩
      replace h := h.2.2.2.2.2.1 hx
      refine gw_aload_n (q := 0) dX12_count_113 rfl rfl ?_
      refine gw_vC (bs := []) (st := []) (vmX12_painted) lX12_303 dX12_count_114 ⟨by decide, rfl, rfl, by decide, by decide⟩ (Nat.le_of_ble_eq_true rfl) rfl rfl (g1.up (n_w1 e2)) h (kI (fun x3 σ3 h n3 => ?_))
      exact gw_rI dX12_count_117 rfl (by decide) (by decide) h
    | 5, _, hx =>
      refine ⟨110, 118, rfl, by decide, ?_⟩
      replace h := h.2.2.2.2.2.2 hx
      refine gw_aload_n (q := 0) dX12_count_118 rfl rfl ?_
      refine gw_gI fX12_82 dX12_count_119 (g1.up (n_w1 e2)) ?_
      exact gw_rI dX12_count_122 rfl (by decide) (by decide) h
    | k + 6, hk, _ => exact absurd hk (by simp)
