set_option maxHeartbeats 4000000 in
set_option maxRecDepth 20000 in
theorem gX12_line_161 {l : Launch} {v0 : Nat} {v1 : Int32} {σ : Sg} {K : Sg → Prop} (h : Ob σ v0 12 ∧ (((σ.2.1 v0 36) ≤ v1 → ∀ σ3, σ3 = w1 σ v0 21 ((σ.2.1 v0 21) + 1) → Con l mX12_next [.inr v0] σ3 (PV (fun σ4 => K σ4))) ∧ (¬ (σ.2.1 v0 36) ≤ v1 → Ai σ (σ.2.2 v0 34) v1 ∧ Ai σ (σ.2.2 v0 19) ((40 * (σ.2.1 v0 21)) + v1) ∧ ∀ σ7, σ7 = w1 σ (σ.2.2 v0 19) ((40 * (σ.2.1 v0 21)) + v1).toNatClampNeg (σ.2.1 (σ.2.2 v0 34) v1.toNatClampNeg) → Ai σ7 (σ7.2.2 v0 35) v1 ∧ Ai σ7 (σ7.2.2 v0 20) ((40 * (σ7.2.1 v0 21)) + v1) ∧ ∀ σ10, σ10 = w1 σ7 (σ7.2.2 v0 20) ((40 * (σ7.2.1 v0 21)) + v1).toNatClampNeg (σ7.2.1 (σ7.2.2 v0 35) v1.toNatClampNeg) → GW l mX12_line 161 [(0, .inr v0), (1, .inl (v1 + 1))] [] σ10 0 0 (PV K)))) : GW l mX12_line 161 [(0, .inr v0), (1, .inl v1)] [] σ 0 0 (PV K) := by
  refine gw_iload_n (q := 1) dX12_line_161 rfl rfl ?_
  refine gw_aload_n (q := 0) dX12_line_162 rfl rfl ?_
  obtain ⟨g1, h⟩ := h
  refine gw_gI fX12_242 dX12_line_163 g1 ?_
  refine gw_icmp_ge (tgt := 215) dX12_line_166 (by decide) (fun c2 => ?_) (fun c2 => ?_)
  · replace h := h.1 c2
    refine gw_aload_n (q := 0) dX12_line_215 rfl rfl ?_
    refine gw_dup dX12_line_216 ?_
    refine gw_gI fX12_254 dX12_line_217 g1 ?_
    refine gw_iconst (v := 1) dX12_line_220 ic_1 ?_
    refine gw_iadd dX12_line_221 ?_
    refine gw_pI fX12_254 dX12_line_222 g1 (fun σ3 e3 => ?_)
    replace h := h σ3 e3
    refine gw_aload_n (q := 0) dX12_line_225 rfl rfl ?_
    refine gw_vC (bs := []) (st := []) (vmX12_next) lX12_239 dX12_line_226 ⟨by decide, rfl, rfl, by decide, by decide⟩ (Nat.le_of_ble_eq_true rfl) rfl rfl (g1.up (n_w1 e3)) h (kV (fun σ4 h n4 => ?_))
    exact gw_rV dX12_line_229 rfl (by decide) (by decide) h
  · replace h := h.2 c2
    refine gw_aload_n (q := 0) dX12_line_169 rfl rfl ?_
    refine gw_gR fX12_57 dX12_line_170 g1 ?_
    refine gw_bipush (v := 40) dX12_line_173 bp_40 ?_
    refine gw_aload_n (q := 0) dX12_line_175 rfl rfl ?_
    refine gw_gI fX12_254 dX12_line_176 g1 ?_
    refine gw_imul dX12_line_179 ?_
    refine gw_iload_n (q := 1) dX12_line_180 rfl rfl ?_
    refine gw_iadd dX12_line_181 ?_
    refine gw_aload_n (q := 0) dX12_line_182 rfl rfl ?_
    refine gw_gR fX12_73 dX12_line_183 g1 ?_
    refine gw_iload_n (q := 1) dX12_line_186 rfl rfl ?_
    obtain ⟨g5, h⟩ := h
    refine gw_aI dX12_line_187 g5 ?_
    obtain ⟨g6, h⟩ := h
    refine gw_sI dX12_line_188 g6 (fun σ7 e7 => ?_)
    replace h := h σ7 e7
    refine gw_aload_n (q := 0) dX12_line_189 rfl rfl ?_
    refine gw_gR fX12_60 dX12_line_190 (g1.up (n_w1 e7)) ?_
    refine gw_bipush (v := 40) dX12_line_193 bp_40 ?_
    refine gw_aload_n (q := 0) dX12_line_195 rfl rfl ?_
    refine gw_gI fX12_254 dX12_line_196 (g1.up (n_w1 e7)) ?_
    refine gw_imul dX12_line_199 ?_
    refine gw_iload_n (q := 1) dX12_line_200 rfl rfl ?_
    refine gw_iadd dX12_line_201 ?_
    refine gw_aload_n (q := 0) dX12_line_202 rfl rfl ?_
    refine gw_gR fX12_76 dX12_line_203 (g1.up (n_w1 e7)) ?_
    refine gw_iload_n (q := 1) dX12_line_206 rfl rfl ?_
    obtain ⟨g8, h⟩ := h
    refine gw_aI dX12_line_207 g8 ?_
    obtain ⟨g9, h⟩ := h
    refine gw_sI dX12_line_208 g9 (fun σ10 e10 => ?_)
    replace h := h σ10 e10
    refine gw_inc (lo' := [(0, .inr v0), (1, .inl (v1 + 1))]) (q := 1) (c := 1) dX12_line_209 ic_1 rfl (by decide) rfl ?_
    refine gw_goto (tgt := 161) dX12_line_212 (by decide) ?_
    exact h
set_option maxHeartbeats 4000000 in
set_option maxRecDepth 20000 in
theorem gX12_line_125 {l : Launch} {v0 : Nat} {v1 : Int32} {σ : Sg} {K : Sg → Prop} (h : Ob σ v0 12 ∧ (((σ.2.1 v0 27) = 0 → Ai σ (σ.2.2 v0 17) (σ.2.1 v0 21) ∧ ∀ σ4, σ4 = w1 σ (σ.2.2 v0 17) (σ.2.1 v0 21).toNatClampNeg (σ.2.1 v0 37) → Ai σ4 (σ4.2.2 v0 18) (σ4.2.1 v0 21) ∧ ∀ σ6, σ6 = w1 σ4 (σ4.2.2 v0 18) (σ4.2.1 v0 21).toNatClampNeg (σ4.2.1 v0 36) → GW l mX12_line 161 [(0, .inr v0), (1, .inl 0)] [] σ6 0 0 (PV K)) ∧ (¬ (σ.2.1 v0 27) = 0 → K σ))) : GW l mX12_line 125 [(0, .inr v0), (1, .inl v1)] [] σ 0 0 (PV K) := by
  refine gw_aload_n (q := 0) dX12_line_125 rfl rfl ?_
  obtain ⟨g1, h⟩ := h
  refine gw_gI fX12_226 dX12_line_126 g1 ?_
  refine gw_if_eq (tgt := 133) dX12_line_129 (by decide) (fun c2 => ?_) (fun c2 => ?_)
  · replace h := h.1 c2
    refine gw_aload_n (q := 0) dX12_line_133 rfl rfl ?_
    refine gw_gR fX12_51 dX12_line_134 g1 ?_
    refine gw_aload_n (q := 0) dX12_line_137 rfl rfl ?_
    refine gw_gI fX12_254 dX12_line_138 g1 ?_
    refine gw_aload_n (q := 0) dX12_line_141 rfl rfl ?_
    refine gw_gI fX12_245 dX12_line_142 g1 ?_
    obtain ⟨g3, h⟩ := h
    refine gw_sI dX12_line_145 g3 (fun σ4 e4 => ?_)
    replace h := h σ4 e4
    refine gw_aload_n (q := 0) dX12_line_146 rfl rfl ?_
    refine gw_gR fX12_54 dX12_line_147 (g1.up (n_w1 e4)) ?_
    refine gw_aload_n (q := 0) dX12_line_150 rfl rfl ?_
    refine gw_gI fX12_254 dX12_line_151 (g1.up (n_w1 e4)) ?_
    refine gw_aload_n (q := 0) dX12_line_154 rfl rfl ?_
    refine gw_gI fX12_242 dX12_line_155 (g1.up (n_w1 e4)) ?_
    obtain ⟨g5, h⟩ := h
    refine gw_sI dX12_line_158 g5 (fun σ6 e6 => ?_)
    replace h := h σ6 e6
    refine gw_iconst (v := 0) dX12_line_159 ic_0 ?_
    refine gw_istore_n (lo' := [(0, .inr v0), (1, .inl 0)]) dX12_line_160 rfl (by decide) rfl ?_
    exact h
  · replace h := h.2 c2
    exact gw_rV dX12_line_132 rfl (by decide) (by decide) h
set_option maxHeartbeats 4000000 in
set_option maxRecDepth 20000 in
theorem gX12_line_64 {l : Launch} {v0 : Nat} {v1 : Int32} {σ : Sg} {K : Sg → Prop} (h : Ob σ v0 12 ∧ Con l mX12_part [.inr v0] σ (PV (fun σ1 => Con l mX12_joinPart [.inr v0] σ1 (PV (fun σ3 => GW l mX12_line 38 [(0, .inr v0), (1, .inl (v1 + 1))] [] σ3 0 0 (PV K)))))) : GW l mX12_line 64 [(0, .inr v0), (1, .inl v1)] [] σ 0 0 (PV K) := by
  refine gw_aload_n (q := 0) dX12_line_64 rfl rfl ?_
  obtain ⟨g2, h⟩ := h
  refine gw_vC (bs := []) (st := []) (vmX12_part) lX12_248 dX12_line_65 ⟨by decide, rfl, rfl, by decide, by decide⟩ (Nat.le_of_ble_eq_true rfl) rfl rfl g2 h (kV (fun σ1 h n1 => ?_))
  refine gw_aload_n (q := 0) dX12_line_68 rfl rfl ?_
  refine gw_vC (bs := []) (st := []) (vmX12_joinPart) lX12_251 dX12_line_69 ⟨by decide, rfl, rfl, by decide, by decide⟩ (Nat.le_of_ble_eq_true rfl) rfl rfl (g2.up n1) h (kV (fun σ3 h n3 => ?_))
  refine gw_inc (lo' := [(0, .inr v0), (1, .inl (v1 + 1))]) (q := 1) (c := 1) dX12_line_72 ic_1 rfl (by decide) rfl ?_
  refine gw_goto (tgt := 38) dX12_line_75 (by decide) ?_
  exact h
set_option maxHeartbeats 4000000 in
set_option maxRecDepth 20000 in
theorem gX12_line_38 {l : Launch} {v0 : Nat} {v1 : Int32} {σ : Sg} {K : Sg → Prop} (h : Ob σ v0 12 ∧ Con l mX12_isWord [.inr v0, .inl 1] σ (PI (fun x1 σ1 => ((x1 = 0 → (((σ1.2.1 v0 27) = 0 → (((σ1.2.1 v0 25) = 2 → ((40 < (σ1.2.1 v0 36) → Con l mX12_wrong [.inr v0, .inl 5] σ1 (PV (fun σ7 => GW l mX12_line 125 [(0, .inr v0), (1, .inl v1)] [] σ7 0 0 (PV K)))) ∧ (¬ 40 < (σ1.2.1 v0 36) → ((¬ (σ1.2.1 v0 21) = 10 → GW l mX12_line 125 [(0, .inr v0), (1, .inl v1)] [] σ1 0 0 (PV K)) ∧ ((σ1.2.1 v0 21) = 10 → Con l mX12_wrong [.inr v0, .inl 5] σ1 (PV (fun σ9 => GW l mX12_line 125 [(0, .inr v0), (1, .inl v1)] [] σ9 0 0 (PV K)))))))) ∧ (¬ (σ1.2.1 v0 25) = 2 → Con l mX12_wrong [.inr v0, .inl 1] σ1 (PV (fun σ10 => GW l mX12_line 125 [(0, .inr v0), (1, .inl v1)] [] σ10 0 0 (PV K)))))) ∧ (¬ (σ1.2.1 v0 27) = 0 → K σ1))) ∧ (¬ x1 = 0 → ((¬ v1 = 8 → Con l mX12_next [.inr v0] σ1 (PV (fun σ12 => GW l mX12_line 64 [(0, .inr v0), (1, .inl v1)] [] σ12 0 0 (PV K)))) ∧ (v1 = 8 → Con l mX12_wrong [.inr v0, .inl 2] σ1 (PV (fun σ13 => GW l mX12_line 64 [(0, .inr v0), (1, .inl v1)] [] σ13 0 0 (PV K)))))))))) : GW l mX12_line 38 [(0, .inr v0), (1, .inl v1)] [] σ 0 0 (PV K) := by
  refine gw_aload_n (q := 0) dX12_line_38 rfl rfl ?_
  refine gw_iconst (v := 1) dX12_line_39 ic_1 ?_
  obtain ⟨g2, h⟩ := h
  refine gw_vC (bs := [.inl 1]) (st := []) (vmX12_isWord) lX12_236 dX12_line_40 ⟨by decide, rfl, rfl, by decide, by decide⟩ (Nat.le_of_ble_eq_true rfl) rfl rfl g2 h (kI (fun x1 σ1 h n1 => ?_))
  refine gw_if_eq (tgt := 78) dX12_line_43 (by decide) (fun c3 => ?_) (fun c3 => ?_)
  · replace h := h.1 c3
    refine gw_aload_n (q := 0) dX12_line_78 rfl rfl ?_
    refine gw_gI fX12_226 dX12_line_79 (g2.up n1) ?_
    refine gw_if_eq (tgt := 86) dX12_line_82 (by decide) (fun c4 => ?_) (fun c4 => ?_)
    · replace h := h.1 c4
      refine gw_aload_n (q := 0) dX12_line_86 rfl rfl ?_
      refine gw_gI fX12_201 dX12_line_87 (g2.up n1) ?_
      refine gw_iconst (v := 2) dX12_line_90 ic_2 ?_
      refine gw_icmp_eq (tgt := 102) dX12_line_91 (by decide) (fun c5 => ?_) (fun c5 => ?_)
      · replace h := h.1 c5
        refine gw_aload_n (q := 0) dX12_line_102 rfl rfl ?_
        refine gw_gI fX12_242 dX12_line_103 (g2.up n1) ?_
        refine gw_bipush (v := 40) dX12_line_106 bp_40 ?_
        refine gw_icmp_gt (tgt := 120) dX12_line_108 (by decide) (fun c6 => ?_) (fun c6 => ?_)
        · replace h := h.1 c6
          refine gw_aload_n (q := 0) dX12_line_120 rfl rfl ?_
          refine gw_iconst (v := 5) dX12_line_121 ic_5 ?_
          refine gw_vC (bs := [.inl 5]) (st := []) (vmX12_wrong) lX12_232 dX12_line_122 ⟨by decide, rfl, rfl, by decide, by decide⟩ (Nat.le_of_ble_eq_true rfl) rfl rfl (g2.up n1) h (kV (fun σ7 h n7 => ?_))
          exact h
        · replace h := h.2 c6
          refine gw_aload_n (q := 0) dX12_line_111 rfl rfl ?_
          refine gw_gI fX12_254 dX12_line_112 (g2.up n1) ?_
          refine gw_bipush (v := 10) dX12_line_115 bp_10 ?_
          refine gw_icmp_ne (tgt := 125) dX12_line_117 (by decide) (fun c8 => ?_) (fun c8 => ?_)
          · replace h := h.1 c8
            exact h
          · replace h := h.2 c8
            refine gw_aload_n (q := 0) dX12_line_120 rfl rfl ?_
            refine gw_iconst (v := 5) dX12_line_121 ic_5 ?_
            refine gw_vC (bs := [.inl 5]) (st := []) (vmX12_wrong) lX12_232 dX12_line_122 ⟨by decide, rfl, rfl, by decide, by decide⟩ (Nat.le_of_ble_eq_true rfl) rfl rfl (g2.up n1) h (kV (fun σ9 h n9 => ?_))
            exact h
      · replace h := h.2 c5
        refine gw_aload_n (q := 0) dX12_line_94 rfl rfl ?_
        refine gw_iconst (v := 1) dX12_line_95 ic_1 ?_
        refine gw_vC (bs := [.inl 1]) (st := []) (vmX12_wrong) lX12_232 dX12_line_96 ⟨by decide, rfl, rfl, by decide, by decide⟩ (Nat.le_of_ble_eq_true rfl) rfl rfl (g2.up n1) h (kV (fun σ10 h n10 => ?_))
        refine gw_goto (tgt := 125) dX12_line_99 (by decide) ?_
        exact h
    · replace h := h.2 c4
      exact gw_rV dX12_line_85 rfl (by decide) (by decide) h
  · replace h := h.2 c3
    refine gw_iload_n (q := 1) dX12_line_46 rfl rfl ?_
    refine gw_bipush (v := 8) dX12_line_47 bp_8 ?_
    refine gw_icmp_ne (tgt := 60) dX12_line_49 (by decide) (fun c11 => ?_) (fun c11 => ?_)
    · replace h := h.1 c11
      refine gw_aload_n (q := 0) dX12_line_60 rfl rfl ?_
      refine gw_vC (bs := []) (st := []) (vmX12_next) lX12_239 dX12_line_61 ⟨by decide, rfl, rfl, by decide, by decide⟩ (Nat.le_of_ble_eq_true rfl) rfl rfl (g2.up n1) h (kV (fun σ12 h n12 => ?_))
      exact h
    · replace h := h.2 c11
      refine gw_aload_n (q := 0) dX12_line_52 rfl rfl ?_
      refine gw_iconst (v := 2) dX12_line_53 ic_2 ?_
      refine gw_vC (bs := [.inl 2]) (st := []) (vmX12_wrong) lX12_232 dX12_line_54 ⟨by decide, rfl, rfl, by decide, by decide⟩ (Nat.le_of_ble_eq_true rfl) rfl rfl (g2.up n1) h (kV (fun σ13 h n13 => ?_))
      refine gw_goto (tgt := 64) dX12_line_57 (by decide) ?_
      exact h
set_option maxHeartbeats 4000000 in
set_option maxRecDepth 20000 in
theorem eX12_line {l : Launch} {v0 : Nat} {σ : Sg} {K : Sg → Prop} (h : Ob σ v0 12 ∧ Con l mX12_isWord [.inr v0, .inl 0] σ (PI (fun x1 σ1 => ((¬ x1 = 0 → Con l mX12_next [.inr v0] σ1 (PV (fun σ4 => ∀ σ5, σ5 = w1 σ4 v0 36 0 → ∀ σ6, σ6 = w1 σ5 v0 37 (-1) → Con l mX12_part [.inr v0] σ6 (PV (fun σ7 => Con l mX12_joinPart [.inr v0] σ7 (PV (fun σ8 => GW l mX12_line 38 [(0, .inr v0), (1, .inl 1)] [] σ8 0 0 (PV K)))))))) ∧ (x1 = 0 → Con l mX12_wrong [.inr v0, .inl 1] σ1 (PV (fun σ9 => K σ9))))))) : Con l mX12_line [.inr v0] σ (PV K) := by
  refine con_gw rfl (Nat.le_of_ble_eq_true rfl) ?_
  show GW l mX12_line 0 [(0, .inr v0)] [] σ 0 0 (PV K)
  refine gw_aload_n (q := 0) dX12_line_0 rfl rfl ?_
  refine gw_iconst (v := 0) dX12_line_1 ic_0 ?_
  obtain ⟨g2, h⟩ := h
  refine gw_vC (bs := [.inl 0]) (st := []) (vmX12_isWord) lX12_236 dX12_line_2 ⟨by decide, rfl, rfl, by decide, by decide⟩ (Nat.le_of_ble_eq_true rfl) rfl rfl g2 h (kI (fun x1 σ1 h n1 => ?_))
  refine gw_if_ne (tgt := 14) dX12_line_5 (by decide) (fun c3 => ?_) (fun c3 => ?_)
  · replace h := h.1 c3
    refine gw_aload_n (q := 0) dX12_line_14 rfl rfl ?_
    refine gw_vC (bs := []) (st := []) (vmX12_next) lX12_239 dX12_line_15 ⟨by decide, rfl, rfl, by decide, by decide⟩ (Nat.le_of_ble_eq_true rfl) rfl rfl (g2.up n1) h (kV (fun σ4 h n4 => ?_))
    refine gw_aload_n (q := 0) dX12_line_18 rfl rfl ?_
    refine gw_iconst (v := 0) dX12_line_19 ic_0 ?_
    refine gw_pI fX12_242 dX12_line_20 ((g2.up n1).up n4) (fun σ5 e5 => ?_)
    replace h := h σ5 e5
    refine gw_aload_n (q := 0) dX12_line_23 rfl rfl ?_
    refine gw_iconst (v := (-1)) dX12_line_24 ic_m1 ?_
    refine gw_pI fX12_245 dX12_line_25 (((g2.up n1).up n4).up (n_w1 e5)) (fun σ6 e6 => ?_)
    replace h := h σ6 e6
    refine gw_aload_n (q := 0) dX12_line_28 rfl rfl ?_
    refine gw_vC (bs := []) (st := []) (vmX12_part) lX12_248 dX12_line_29 ⟨by decide, rfl, rfl, by decide, by decide⟩ (Nat.le_of_ble_eq_true rfl) rfl rfl ((((g2.up n1).up n4).up (n_w1 e5)).up (n_w1 e6)) h (kV (fun σ7 h n7 => ?_))
    refine gw_aload_n (q := 0) dX12_line_32 rfl rfl ?_
    refine gw_vC (bs := []) (st := []) (vmX12_joinPart) lX12_251 dX12_line_33 ⟨by decide, rfl, rfl, by decide, by decide⟩ (Nat.le_of_ble_eq_true rfl) rfl rfl (((((g2.up n1).up n4).up (n_w1 e5)).up (n_w1 e6)).up n7) h (kV (fun σ8 h n8 => ?_))
    refine gw_iconst (v := 1) dX12_line_36 ic_1 ?_
    refine gw_istore_n (lo' := [(0, .inr v0), (1, .inl 1)]) dX12_line_37 rfl (by decide) rfl ?_
    exact h
  · replace h := h.2 c3
    refine gw_aload_n (q := 0) dX12_line_8 rfl rfl ?_
    refine gw_iconst (v := 1) dX12_line_9 ic_1 ?_
    refine gw_vC (bs := [.inl 1]) (st := []) (vmX12_wrong) lX12_232 dX12_line_10 ⟨by decide, rfl, rfl, by decide, by decide⟩ (Nat.le_of_ble_eq_true rfl) rfl rfl (g2.up n1) h (kV (fun σ9 h n9 => ?_))
    exact gw_rV dX12_line_13 rfl (by decide) (by decide) h
set_option maxHeartbeats 4000000 in
set_option maxRecDepth 20000 in
theorem gX12_part_291 {l : Launch} {v0 : Nat} {v1 : Int32} {v2 : Int32} {v3 : Int32} {v4 : Int32} {σ : Sg} {K : Sg → Prop} (h : Ob σ v0 12 ∧ Con l mX12_isWord [.inr v0, .inl 4] σ (PI (fun x1 σ1 => ((¬ x1 = 0 → Con l mX12_changes [.inr v0] σ1 (PV (fun σ4 => GW l mX12_part 291 [(0, .inr v0), (1, .inl v1), (2, .inl v2), (3, .inl v3), (4, .inl v4)] [] σ4 0 0 (PV K)))) ∧ (x1 = 0 → Con l mX12_isWord [.inr v0, .inl 5] σ1 (PI (fun x5 σ5 => ((¬ x5 = 0 → Con l mX12_changes [.inr v0] σ5 (PV (fun σ7 => GW l mX12_part 291 [(0, .inr v0), (1, .inl v1), (2, .inl v2), (3, .inl v3), (4, .inl v4)] [] σ7 0 0 (PV K)))) ∧ (x5 = 0 → Con l mX12_isWord [.inr v0, .inl 6] σ5 (PI (fun x8 σ8 => ((x8 = 0 → K σ8) ∧ (¬ x8 = 0 → Con l mX12_changes [.inr v0] σ8 (PV (fun σ10 => GW l mX12_part 291 [(0, .inr v0), (1, .inl v1), (2, .inl v2), (3, .inl v3), (4, .inl v4)] [] σ10 0 0 (PV K)))))))))))))))) : GW l mX12_part 291 [(0, .inr v0), (1, .inl v1), (2, .inl v2), (3, .inl v3), (4, .inl v4)] [] σ 0 0 (PV K) := by
  refine gw_aload_n (q := 0) dX12_part_291 rfl rfl ?_
  refine gw_iconst (v := 4) dX12_part_292 ic_4 ?_
  obtain ⟨g2, h⟩ := h
  refine gw_vC (bs := [.inl 4]) (st := []) (vmX12_isWord) lX12_236 dX12_part_293 ⟨by decide, rfl, rfl, by decide, by decide⟩ (Nat.le_of_ble_eq_true rfl) rfl rfl g2 h (kI (fun x1 σ1 h n1 => ?_))
  refine gw_if_ne (tgt := 316) dX12_part_296 (by decide) (fun c3 => ?_) (fun c3 => ?_)
  · replace h := h.1 c3
    refine gw_aload_n (q := 0) dX12_part_316 rfl rfl ?_
    refine gw_vC (bs := []) (st := []) (vmX12_changes) lX12_263 dX12_part_317 ⟨by decide, rfl, rfl, by decide, by decide⟩ (Nat.le_of_ble_eq_true rfl) rfl rfl (g2.up n1) h (kV (fun σ4 h n4 => ?_))
    refine gw_goto (tgt := 291) dX12_part_320 (by decide) ?_
    exact h
  · replace h := h.2 c3
    refine gw_aload_n (q := 0) dX12_part_299 rfl rfl ?_
    refine gw_iconst (v := 5) dX12_part_300 ic_5 ?_
    refine gw_vC (bs := [.inl 5]) (st := []) (vmX12_isWord) lX12_236 dX12_part_301 ⟨by decide, rfl, rfl, by decide, by decide⟩ (Nat.le_of_ble_eq_true rfl) rfl rfl (g2.up n1) h (kI (fun x5 σ5 h n5 => ?_))
    refine gw_if_ne (tgt := 316) dX12_part_304 (by decide) (fun c6 => ?_) (fun c6 => ?_)
    · replace h := h.1 c6
      refine gw_aload_n (q := 0) dX12_part_316 rfl rfl ?_
      refine gw_vC (bs := []) (st := []) (vmX12_changes) lX12_263 dX12_part_317 ⟨by decide, rfl, rfl, by decide, by decide⟩ (Nat.le_of_ble_eq_true rfl) rfl rfl ((g2.up n1).up n5) h (kV (fun σ7 h n7 => ?_))
      refine gw_goto (tgt := 291) dX12_part_320 (by decide) ?_
      exact h
    · replace h := h.2 c6
      refine gw_aload_n (q := 0) dX12_part_307 rfl rfl ?_
      refine gw_bipush (v := 6) dX12_part_308 bp_6 ?_
      refine gw_vC (bs := [.inl 6]) (st := []) (vmX12_isWord) lX12_236 dX12_part_310 ⟨by decide, rfl, rfl, by decide, by decide⟩ (Nat.le_of_ble_eq_true rfl) rfl rfl ((g2.up n1).up n5) h (kI (fun x8 σ8 h n8 => ?_))
      refine gw_if_eq (tgt := 323) dX12_part_313 (by decide) (fun c9 => ?_) (fun c9 => ?_)
      · replace h := h.1 c9
        exact gw_rV dX12_part_323 rfl (by decide) (by decide) h
      · replace h := h.2 c9
        refine gw_aload_n (q := 0) dX12_part_316 rfl rfl ?_
        refine gw_vC (bs := []) (st := []) (vmX12_changes) lX12_263 dX12_part_317 ⟨by decide, rfl, rfl, by decide, by decide⟩ (Nat.le_of_ble_eq_true rfl) rfl rfl (((g2.up n1).up n5).up n8) h (kV (fun σ10 h n10 => ?_))
        refine gw_goto (tgt := 291) dX12_part_320 (by decide) ?_
        exact h
set_option maxHeartbeats 4000000 in
set_option maxRecDepth 20000 in
theorem gX12_part_227 {l : Launch} {v0 : Nat} {v1 : Int32} {v2 : Int32} {v3 : Int32} {v4 : Int32} {σ : Sg} {K : Sg → Prop} (h : ((v3 < v4 → GW l mX12_part 291 [(0, .inr v0), (1, .inl v1), (2, .inl v2), (3, .inl v3), (4, .inl v4)] [] σ 0 0 (PV K)) ∧ (¬ v3 < v4 → Ob σ v0 12 ∧ Ai σ (σ.2.2 v0 19) ((40 * v1) + v4) ∧ Ai σ (σ.2.2 v0 31) (σ.2.1 v0 33) ∧ ∀ σ5, σ5 = w1 σ (σ.2.2 v0 31) (σ.2.1 v0 33).toNatClampNeg (σ.2.1 (σ.2.2 v0 19) ((40 * v1) + v4).toNatClampNeg) → Ai σ5 (σ5.2.2 v0 20) ((40 * v1) + v4) ∧ Ai σ5 (σ5.2.2 v0 32) (σ5.2.1 v0 33) ∧ ∀ σ8, σ8 = w1 σ5 (σ5.2.2 v0 32) (σ5.2.1 v0 33).toNatClampNeg (σ5.2.1 (σ5.2.2 v0 20) ((40 * v1) + v4).toNatClampNeg) → ∀ σ9, σ9 = w1 σ8 v0 33 ((σ8.2.1 v0 33) + 1) → GW l mX12_part 227 [(0, .inr v0), (1, .inl v1), (2, .inl v2), (3, .inl v3), (4, .inl (v4 + 1))] [] σ9 0 0 (PV K)))) : GW l mX12_part 227 [(0, .inr v0), (1, .inl v1), (2, .inl v2), (3, .inl v3), (4, .inl v4)] [] σ 0 0 (PV K) := by
  refine gw_iload (q := 4) dX12_part_227 rfl ?_
  refine gw_iload_n (q := 3) dX12_part_229 rfl rfl ?_
  refine gw_icmp_gt (tgt := 291) dX12_part_230 (by decide) (fun c1 => ?_) (fun c1 => ?_)
  · replace h := h.1 c1
    exact h
  · replace h := h.2 c1
    refine gw_aload_n (q := 0) dX12_part_233 rfl rfl ?_
    obtain ⟨g2, h⟩ := h
    refine gw_gR fX12_67 dX12_part_234 g2 ?_
    refine gw_aload_n (q := 0) dX12_part_237 rfl rfl ?_
    refine gw_gI fX12_260 dX12_part_238 g2 ?_
    refine gw_aload_n (q := 0) dX12_part_241 rfl rfl ?_
    refine gw_gR fX12_57 dX12_part_242 g2 ?_
    refine gw_bipush (v := 40) dX12_part_245 bp_40 ?_
    refine gw_iload_n (q := 1) dX12_part_247 rfl rfl ?_
    refine gw_imul dX12_part_248 ?_
    refine gw_iload (q := 4) dX12_part_249 rfl ?_
    refine gw_iadd dX12_part_251 ?_
    obtain ⟨g3, h⟩ := h
    refine gw_aI dX12_part_252 g3 ?_
    obtain ⟨g4, h⟩ := h
    refine gw_sI dX12_part_253 g4 (fun σ5 e5 => ?_)
    replace h := h σ5 e5
    refine gw_aload_n (q := 0) dX12_part_254 rfl rfl ?_
    refine gw_gR fX12_70 dX12_part_255 (g2.up (n_w1 e5)) ?_
    refine gw_aload_n (q := 0) dX12_part_258 rfl rfl ?_
    refine gw_gI fX12_260 dX12_part_259 (g2.up (n_w1 e5)) ?_
    refine gw_aload_n (q := 0) dX12_part_262 rfl rfl ?_
    refine gw_gR fX12_60 dX12_part_263 (g2.up (n_w1 e5)) ?_
    refine gw_bipush (v := 40) dX12_part_266 bp_40 ?_
    refine gw_iload_n (q := 1) dX12_part_268 rfl rfl ?_
    refine gw_imul dX12_part_269 ?_
    refine gw_iload (q := 4) dX12_part_270 rfl ?_
    refine gw_iadd dX12_part_272 ?_
    obtain ⟨g6, h⟩ := h
    refine gw_aI dX12_part_273 g6 ?_
    obtain ⟨g7, h⟩ := h
    refine gw_sI dX12_part_274 g7 (fun σ8 e8 => ?_)
    replace h := h σ8 e8
    refine gw_aload_n (q := 0) dX12_part_275 rfl rfl ?_
    refine gw_dup dX12_part_276 ?_
    refine gw_gI fX12_260 dX12_part_277 ((g2.up (n_w1 e5)).up (n_w1 e8)) ?_
    refine gw_iconst (v := 1) dX12_part_280 ic_1 ?_
    refine gw_iadd dX12_part_281 ?_
    refine gw_pI fX12_260 dX12_part_282 ((g2.up (n_w1 e5)).up (n_w1 e8)) (fun σ9 e9 => ?_)
    replace h := h σ9 e9
    refine gw_inc (lo' := [(0, .inr v0), (1, .inl v1), (2, .inl v2), (3, .inl v3), (4, .inl (v4 + 1))]) (q := 4) (c := 1) dX12_part_285 ic_1 rfl (by decide) rfl ?_
    refine gw_goto (tgt := 227) dX12_part_288 (by decide) ?_
    exact h
set_option maxHeartbeats 4000000 in
set_option maxRecDepth 20000 in
theorem gX12_part_207 {l : Launch} {v0 : Nat} {v1 : Int32} {v2 : Int32} {v3 : Int32} {σ : Sg} {K : Sg → Prop} (h : Ob σ v0 12 ∧ (((σ.2.1 v0 27) = 0 → Con l mX12_next [.inr v0] σ (PV (fun σ3 => ∀ σ4, σ4 = w1 σ3 v0 33 0 → GW l mX12_part 227 [(0, .inr v0), (1, .inl v1), (2, .inl v2), (3, .inl v3), (4, .inl v2)] [] σ4 0 0 (PV K)))) ∧ (¬ (σ.2.1 v0 27) = 0 → K σ))) : GW l mX12_part 207 [(0, .inr v0), (1, .inl v1), (2, .inl v2), (3, .inl v3)] [] σ 0 0 (PV K) := by
  refine gw_aload_n (q := 0) dX12_part_207 rfl rfl ?_
  obtain ⟨g1, h⟩ := h
  refine gw_gI fX12_226 dX12_part_208 g1 ?_
  refine gw_if_eq (tgt := 215) dX12_part_211 (by decide) (fun c2 => ?_) (fun c2 => ?_)
  · replace h := h.1 c2
    refine gw_aload_n (q := 0) dX12_part_215 rfl rfl ?_
    refine gw_vC (bs := []) (st := []) (vmX12_next) lX12_239 dX12_part_216 ⟨by decide, rfl, rfl, by decide, by decide⟩ (Nat.le_of_ble_eq_true rfl) rfl rfl g1 h (kV (fun σ3 h n3 => ?_))
    refine gw_aload_n (q := 0) dX12_part_219 rfl rfl ?_
    refine gw_iconst (v := 0) dX12_part_220 ic_0 ?_
    refine gw_pI fX12_260 dX12_part_221 (g1.up n3) (fun σ4 e4 => ?_)
    replace h := h σ4 e4
    refine gw_iload_n (q := 2) dX12_part_224 rfl rfl ?_
    refine gw_istore (lo' := [(0, .inr v0), (1, .inl v1), (2, .inl v2), (3, .inl v3), (4, .inl v2)]) dX12_part_225 (by decide) rfl ?_
    exact h
  · replace h := h.2 c2
    exact gw_rV dX12_part_214 rfl (by decide) (by decide) h
set_option maxHeartbeats 4000000 in
set_option maxRecDepth 20000 in
theorem gX12_part_159 {l : Launch} {v0 : Nat} {v1 : Int32} {v2 : Int32} {v3 : Int32} {σ : Sg} {K : Sg → Prop} (h : Ob σ v0 12 ∧ (((σ.2.1 v0 27) = 0 → Con l mX12_next [.inr v0] σ (PV (fun σ3 => Con l mX12_isNumber [.inr v0, .inl 0, .inl 99] σ3 (PI (fun x4 σ4 => ((¬ x4 = 0 → Ai σ4 (σ4.2.2 v0 18) v1 ∧ (((σ4.2.1 (σ4.2.2 v0 18) v1.toNatClampNeg) ≤ (σ4.2.1 v0 26) → Con l mX12_wrong [.inr v0, .inl 3] σ4 (PV (fun σ8 => GW l mX12_part 207 [(0, .inr v0), (1, .inl v1), (2, .inl v2), (3, .inl (σ4.2.1 v0 26))] [] σ8 0 0 (PV K)))) ∧ (¬ (σ4.2.1 (σ4.2.2 v0 18) v1.toNatClampNeg) ≤ (σ4.2.1 v0 26) → ((v2 ≤ (σ4.2.1 v0 26) → GW l mX12_part 207 [(0, .inr v0), (1, .inl v1), (2, .inl v2), (3, .inl (σ4.2.1 v0 26))] [] σ4 0 0 (PV K)) ∧ (¬ v2 ≤ (σ4.2.1 v0 26) → Con l mX12_wrong [.inr v0, .inl 3] σ4 (PV (fun σ10 => GW l mX12_part 207 [(0, .inr v0), (1, .inl v1), (2, .inl v2), (3, .inl (σ4.2.1 v0 26))] [] σ10 0 0 (PV K)))))))) ∧ (x4 = 0 → K σ4))))))) ∧ (¬ (σ.2.1 v0 27) = 0 → K σ))) : GW l mX12_part 159 [(0, .inr v0), (1, .inl v1), (2, .inl v2), (3, .inl v3)] [] σ 0 0 (PV K) := by
  refine gw_aload_n (q := 0) dX12_part_159 rfl rfl ?_
  obtain ⟨g1, h⟩ := h
  refine gw_gI fX12_226 dX12_part_160 g1 ?_
  refine gw_if_eq (tgt := 167) dX12_part_163 (by decide) (fun c2 => ?_) (fun c2 => ?_)
  · replace h := h.1 c2
    refine gw_aload_n (q := 0) dX12_part_167 rfl rfl ?_
    refine gw_vC (bs := []) (st := []) (vmX12_next) lX12_239 dX12_part_168 ⟨by decide, rfl, rfl, by decide, by decide⟩ (Nat.le_of_ble_eq_true rfl) rfl rfl g1 h (kV (fun σ3 h n3 => ?_))
    refine gw_aload_n (q := 0) dX12_part_171 rfl rfl ?_
    refine gw_iconst (v := 0) dX12_part_172 ic_0 ?_
    refine gw_bipush (v := 99) dX12_part_173 bp_99 ?_
    refine gw_vC (bs := [.inl 0, .inl 99]) (st := []) (vmX12_isNumber) lX12_257 dX12_part_175 ⟨by decide, rfl, rfl, by decide, by decide⟩ (Nat.le_of_ble_eq_true rfl) rfl rfl (g1.up n3) h (kI (fun x4 σ4 h n4 => ?_))
    refine gw_if_ne (tgt := 182) dX12_part_178 (by decide) (fun c5 => ?_) (fun c5 => ?_)
    · replace h := h.1 c5
      refine gw_aload_n (q := 0) dX12_part_182 rfl rfl ?_
      refine gw_gI fX12_210 dX12_part_183 ((g1.up n3).up n4) ?_
      refine gw_istore_n (lo' := [(0, .inr v0), (1, .inl v1), (2, .inl v2), (3, .inl (σ4.2.1 v0 26))]) dX12_part_186 rfl (by decide) rfl ?_
      refine gw_iload_n (q := 3) dX12_part_187 rfl rfl ?_
      refine gw_aload_n (q := 0) dX12_part_188 rfl rfl ?_
      refine gw_gR fX12_54 dX12_part_189 ((g1.up n3).up n4) ?_
      refine gw_iload_n (q := 1) dX12_part_192 rfl rfl ?_
      obtain ⟨g6, h⟩ := h
      refine gw_aI dX12_part_193 g6 ?_
      refine gw_icmp_ge (tgt := 202) dX12_part_194 (by decide) (fun c7 => ?_) (fun c7 => ?_)
      · replace h := h.1 c7
        refine gw_aload_n (q := 0) dX12_part_202 rfl rfl ?_
        refine gw_iconst (v := 3) dX12_part_203 ic_3 ?_
        refine gw_vC (bs := [.inl 3]) (st := []) (vmX12_wrong) lX12_232 dX12_part_204 ⟨by decide, rfl, rfl, by decide, by decide⟩ (Nat.le_of_ble_eq_true rfl) rfl rfl ((g1.up n3).up n4) h (kV (fun σ8 h n8 => ?_))
        exact h
      · replace h := h.2 c7
        refine gw_iload_n (q := 3) dX12_part_197 rfl rfl ?_
        refine gw_iload_n (q := 2) dX12_part_198 rfl rfl ?_
        refine gw_icmp_ge (tgt := 207) dX12_part_199 (by decide) (fun c9 => ?_) (fun c9 => ?_)
        · replace h := h.1 c9
          exact h
        · replace h := h.2 c9
          refine gw_aload_n (q := 0) dX12_part_202 rfl rfl ?_
          refine gw_iconst (v := 3) dX12_part_203 ic_3 ?_
          refine gw_vC (bs := [.inl 3]) (st := []) (vmX12_wrong) lX12_232 dX12_part_204 ⟨by decide, rfl, rfl, by decide, by decide⟩ (Nat.le_of_ble_eq_true rfl) rfl rfl ((g1.up n3).up n4) h (kV (fun σ10 h n10 => ?_))
          exact h
    · replace h := h.2 c5
      exact gw_rV dX12_part_181 rfl (by decide) (by decide) h
  · replace h := h.2 c2
    exact gw_rV dX12_part_166 rfl (by decide) (by decide) h
set_option maxHeartbeats 4000000 in
set_option maxRecDepth 20000 in
theorem gX12_part_134 {l : Launch} {v0 : Nat} {v1 : Int32} {v2 : Int32} {v3 : Int32} {σ : Sg} {K : Sg → Prop} (h : Ob σ v0 12 ∧ (((σ.2.1 v0 27) = 0 → Con l mX12_next [.inr v0] σ (PV (fun σ3 => Con l mX12_isWord [.inr v0, .inl 3] σ3 (PI (fun x4 σ4 => ((¬ x4 = 0 → GW l mX12_part 159 [(0, .inr v0), (1, .inl v1), (2, .inl v2), (3, .inl v3)] [] σ4 0 0 (PV K)) ∧ (x4 = 0 → Con l mX12_wrong [.inr v0, .inl 1] σ4 (PV (fun σ6 => GW l mX12_part 159 [(0, .inr v0), (1, .inl v1), (2, .inl v2), (3, .inl v3)] [] σ6 0 0 (PV K)))))))))) ∧ (¬ (σ.2.1 v0 27) = 0 → K σ))) : GW l mX12_part 134 [(0, .inr v0), (1, .inl v1), (2, .inl v2), (3, .inl v3)] [] σ 0 0 (PV K) := by
  refine gw_aload_n (q := 0) dX12_part_134 rfl rfl ?_
  obtain ⟨g1, h⟩ := h
  refine gw_gI fX12_226 dX12_part_135 g1 ?_
  refine gw_if_eq (tgt := 142) dX12_part_138 (by decide) (fun c2 => ?_) (fun c2 => ?_)
  · replace h := h.1 c2
    refine gw_aload_n (q := 0) dX12_part_142 rfl rfl ?_
    refine gw_vC (bs := []) (st := []) (vmX12_next) lX12_239 dX12_part_143 ⟨by decide, rfl, rfl, by decide, by decide⟩ (Nat.le_of_ble_eq_true rfl) rfl rfl g1 h (kV (fun σ3 h n3 => ?_))
    refine gw_aload_n (q := 0) dX12_part_146 rfl rfl ?_
    refine gw_iconst (v := 3) dX12_part_147 ic_3 ?_
    refine gw_vC (bs := [.inl 3]) (st := []) (vmX12_isWord) lX12_236 dX12_part_148 ⟨by decide, rfl, rfl, by decide, by decide⟩ (Nat.le_of_ble_eq_true rfl) rfl rfl (g1.up n3) h (kI (fun x4 σ4 h n4 => ?_))
    refine gw_if_ne (tgt := 159) dX12_part_151 (by decide) (fun c5 => ?_) (fun c5 => ?_)
    · replace h := h.1 c5
      exact h
    · replace h := h.2 c5
      refine gw_aload_n (q := 0) dX12_part_154 rfl rfl ?_
      refine gw_iconst (v := 1) dX12_part_155 ic_1 ?_
      refine gw_vC (bs := [.inl 1]) (st := []) (vmX12_wrong) lX12_232 dX12_part_156 ⟨by decide, rfl, rfl, by decide, by decide⟩ (Nat.le_of_ble_eq_true rfl) rfl rfl ((g1.up n3).up n4) h (kV (fun σ6 h n6 => ?_))
      exact h
  · replace h := h.2 c2
    exact gw_rV dX12_part_141 rfl (by decide) (by decide) h
set_option maxHeartbeats 4000000 in
set_option maxRecDepth 20000 in
theorem gX12_part_58 {l : Launch} {v0 : Nat} {v1 : Int32} {σ : Sg} {K : Sg → Prop} (h : Ob σ v0 12 ∧ (((σ.2.1 v0 27) = 0 → Ai σ (σ.2.2 v0 17) v1 ∧ ∀ σ4, σ4 = w1 σ v0 37 (σ.2.1 (σ.2.2 v0 17) v1.toNatClampNeg) → Con l mX12_next [.inr v0] σ4 (PV (fun σ5 => Ai σ5 (σ5.2.2 v0 18) v1 ∧ Con l mX12_isWord [.inr v0, .inl 2] σ5 (PI (fun x7 σ7 => ((x7 = 0 → ∀ σ9, σ9 = w1 σ7 v0 33 0 → GW l mX12_part 227 [(0, .inr v0), (1, .inl v1), (2, .inl 0), (3, .inl ((σ5.2.1 (σ5.2.2 v0 18) v1.toNatClampNeg) - 1)), (4, .inl 0)] [] σ9 0 0 (PV K)) ∧ (¬ x7 = 0 → Con l mX12_next [.inr v0] σ7 (PV (fun σ10 => Con l mX12_isNumber [.inr v0, .inl 0, .inl 99] σ10 (PI (fun x11 σ11 => ((¬ x11 = 0 → Ai σ11 (σ11.2.2 v0 18) v1 ∧ (((σ11.2.1 v0 26) < (σ11.2.1 (σ11.2.2 v0 18) v1.toNatClampNeg) → GW l mX12_part 134 [(0, .inr v0), (1, .inl v1), (2, .inl (σ11.2.1 v0 26)), (3, .inl ((σ5.2.1 (σ5.2.2 v0 18) v1.toNatClampNeg) - 1))] [] σ11 0 0 (PV K)) ∧ (¬ (σ11.2.1 v0 26) < (σ11.2.1 (σ11.2.2 v0 18) v1.toNatClampNeg) → Con l mX12_wrong [.inr v0, .inl 3] σ11 (PV (fun σ15 => GW l mX12_part 134 [(0, .inr v0), (1, .inl v1), (2, .inl (σ11.2.1 v0 26)), (3, .inl ((σ5.2.1 (σ5.2.2 v0 18) v1.toNatClampNeg) - 1))] [] σ15 0 0 (PV K)))))) ∧ (x11 = 0 → K σ11))))))))))))) ∧ (¬ (σ.2.1 v0 27) = 0 → K σ))) : GW l mX12_part 58 [(0, .inr v0), (1, .inl v1)] [] σ 0 0 (PV K) := by
  refine gw_aload_n (q := 0) dX12_part_58 rfl rfl ?_
  obtain ⟨g1, h⟩ := h
  refine gw_gI fX12_226 dX12_part_59 g1 ?_
  refine gw_if_eq (tgt := 66) dX12_part_62 (by decide) (fun c2 => ?_) (fun c2 => ?_)
  · replace h := h.1 c2
    refine gw_aload_n (q := 0) dX12_part_66 rfl rfl ?_
    refine gw_aload_n (q := 0) dX12_part_67 rfl rfl ?_
    refine gw_gR fX12_51 dX12_part_68 g1 ?_
    refine gw_iload_n (q := 1) dX12_part_71 rfl rfl ?_
    obtain ⟨g3, h⟩ := h
    refine gw_aI dX12_part_72 g3 ?_
    refine gw_pI fX12_245 dX12_part_73 g1 (fun σ4 e4 => ?_)
    replace h := h σ4 e4
    refine gw_aload_n (q := 0) dX12_part_76 rfl rfl ?_
    refine gw_vC (bs := []) (st := []) (vmX12_next) lX12_239 dX12_part_77 ⟨by decide, rfl, rfl, by decide, by decide⟩ (Nat.le_of_ble_eq_true rfl) rfl rfl (g1.up (n_w1 e4)) h (kV (fun σ5 h n5 => ?_))
    refine gw_iconst (v := 0) dX12_part_80 ic_0 ?_
    refine gw_istore_n (lo' := [(0, .inr v0), (1, .inl v1), (2, .inl 0)]) dX12_part_81 rfl (by decide) rfl ?_
    refine gw_aload_n (q := 0) dX12_part_82 rfl rfl ?_
    refine gw_gR fX12_54 dX12_part_83 ((g1.up (n_w1 e4)).up n5) ?_
    refine gw_iload_n (q := 1) dX12_part_86 rfl rfl ?_
    obtain ⟨g6, h⟩ := h
    refine gw_aI dX12_part_87 g6 ?_
    refine gw_iconst (v := 1) dX12_part_88 ic_1 ?_
    refine gw_isub dX12_part_89 ?_
    refine gw_istore_n (lo' := [(0, .inr v0), (1, .inl v1), (2, .inl 0), (3, .inl ((σ5.2.1 (σ5.2.2 v0 18) v1.toNatClampNeg) - 1))]) dX12_part_90 rfl (by decide) rfl ?_
    refine gw_aload_n (q := 0) dX12_part_91 rfl rfl ?_
    refine gw_iconst (v := 2) dX12_part_92 ic_2 ?_
    refine gw_vC (bs := [.inl 2]) (st := []) (vmX12_isWord) lX12_236 dX12_part_93 ⟨by decide, rfl, rfl, by decide, by decide⟩ (Nat.le_of_ble_eq_true rfl) rfl rfl ((g1.up (n_w1 e4)).up n5) h (kI (fun x7 σ7 h n7 => ?_))
    refine gw_if_eq (tgt := 219) dX12_part_96 (by decide) (fun c8 => ?_) (fun c8 => ?_)
    · replace h := h.1 c8
      refine gw_aload_n (q := 0) dX12_part_219 rfl rfl ?_
      refine gw_iconst (v := 0) dX12_part_220 ic_0 ?_
      refine gw_pI fX12_260 dX12_part_221 (((g1.up (n_w1 e4)).up n5).up n7) (fun σ9 e9 => ?_)
      replace h := h σ9 e9
      refine gw_iload_n (q := 2) dX12_part_224 rfl rfl ?_
      refine gw_istore (lo' := [(0, .inr v0), (1, .inl v1), (2, .inl 0), (3, .inl ((σ5.2.1 (σ5.2.2 v0 18) v1.toNatClampNeg) - 1)), (4, .inl 0)]) dX12_part_225 (by decide) rfl ?_
      exact h
    · replace h := h.2 c8
      refine gw_aload_n (q := 0) dX12_part_99 rfl rfl ?_
      refine gw_vC (bs := []) (st := []) (vmX12_next) lX12_239 dX12_part_100 ⟨by decide, rfl, rfl, by decide, by decide⟩ (Nat.le_of_ble_eq_true rfl) rfl rfl (((g1.up (n_w1 e4)).up n5).up n7) h (kV (fun σ10 h n10 => ?_))
      refine gw_aload_n (q := 0) dX12_part_103 rfl rfl ?_
      refine gw_iconst (v := 0) dX12_part_104 ic_0 ?_
      refine gw_bipush (v := 99) dX12_part_105 bp_99 ?_
      refine gw_vC (bs := [.inl 0, .inl 99]) (st := []) (vmX12_isNumber) lX12_257 dX12_part_107 ⟨by decide, rfl, rfl, by decide, by decide⟩ (Nat.le_of_ble_eq_true rfl) rfl rfl ((((g1.up (n_w1 e4)).up n5).up n7).up n10) h (kI (fun x11 σ11 h n11 => ?_))
      refine gw_if_ne (tgt := 114) dX12_part_110 (by decide) (fun c12 => ?_) (fun c12 => ?_)
      · replace h := h.1 c12
        refine gw_aload_n (q := 0) dX12_part_114 rfl rfl ?_
        refine gw_gI fX12_210 dX12_part_115 (((((g1.up (n_w1 e4)).up n5).up n7).up n10).up n11) ?_
        refine gw_istore_n (lo' := [(0, .inr v0), (1, .inl v1), (2, .inl (σ11.2.1 v0 26)), (3, .inl ((σ5.2.1 (σ5.2.2 v0 18) v1.toNatClampNeg) - 1))]) dX12_part_118 rfl (by decide) rfl ?_
        refine gw_iload_n (q := 2) dX12_part_119 rfl rfl ?_
        refine gw_aload_n (q := 0) dX12_part_120 rfl rfl ?_
        refine gw_gR fX12_54 dX12_part_121 (((((g1.up (n_w1 e4)).up n5).up n7).up n10).up n11) ?_
        refine gw_iload_n (q := 1) dX12_part_124 rfl rfl ?_
        obtain ⟨g13, h⟩ := h
        refine gw_aI dX12_part_125 g13 ?_
        refine gw_icmp_lt (tgt := 134) dX12_part_126 (by decide) (fun c14 => ?_) (fun c14 => ?_)
        · replace h := h.1 c14
          exact h
        · replace h := h.2 c14
          refine gw_aload_n (q := 0) dX12_part_129 rfl rfl ?_
          refine gw_iconst (v := 3) dX12_part_130 ic_3 ?_
          refine gw_vC (bs := [.inl 3]) (st := []) (vmX12_wrong) lX12_232 dX12_part_131 ⟨by decide, rfl, rfl, by decide, by decide⟩ (Nat.le_of_ble_eq_true rfl) rfl rfl (((((g1.up (n_w1 e4)).up n5).up n7).up n10).up n11) h (kV (fun σ15 h n15 => ?_))
          exact h
      · replace h := h.2 c12
        exact gw_rV dX12_part_113 rfl (by decide) (by decide) h
  · replace h := h.2 c2
    exact gw_rV dX12_part_65 rfl (by decide) (by decide) h
set_option maxHeartbeats 4000000 in
set_option maxRecDepth 20000 in
theorem eX12_part {l : Launch} {v0 : Nat} {σ : Sg} {K : Sg → Prop} (h : Ob σ v0 12 ∧ Con l mX12_isNumber [.inr v0, .inl 0, .inl 99] σ (PI (fun x1 σ1 => ((¬ x1 = 0 → (((σ1.2.1 v0 26) < (σ1.2.1 v0 21) → (((σ1.2.1 v0 37) = (-1) → GW l mX12_part 58 [(0, .inr v0), (1, .inl (σ1.2.1 v0 26))] [] σ1 0 0 (PV K)) ∧ (¬ (σ1.2.1 v0 37) = (-1) → Ai σ1 (σ1.2.2 v0 17) (σ1.2.1 v0 26) ∧ (((σ1.2.1 (σ1.2.2 v0 17) (σ1.2.1 v0 26).toNatClampNeg) = (σ1.2.1 v0 37) → GW l mX12_part 58 [(0, .inr v0), (1, .inl (σ1.2.1 v0 26))] [] σ1 0 0 (PV K)) ∧ (¬ (σ1.2.1 (σ1.2.2 v0 17) (σ1.2.1 v0 26).toNatClampNeg) = (σ1.2.1 v0 37) → Con l mX12_wrong [.inr v0, .inl 4] σ1 (PV (fun σ8 => GW l mX12_part 58 [(0, .inr v0), (1, .inl (σ1.2.1 v0 26))] [] σ8 0 0 (PV K)))))))) ∧ (¬ (σ1.2.1 v0 26) < (σ1.2.1 v0 21) → Con l mX12_wrong [.inr v0, .inl 3] σ1 (PV (fun σ9 => GW l mX12_part 58 [(0, .inr v0), (1, .inl (σ1.2.1 v0 26))] [] σ9 0 0 (PV K)))))) ∧ (x1 = 0 → K σ1))))) : Con l mX12_part [.inr v0] σ (PV K) := by
  refine con_gw rfl (Nat.le_of_ble_eq_true rfl) ?_
  show GW l mX12_part 0 [(0, .inr v0)] [] σ 0 0 (PV K)
  refine gw_aload_n (q := 0) dX12_part_0 rfl rfl ?_
  refine gw_iconst (v := 0) dX12_part_1 ic_0 ?_
  refine gw_bipush (v := 99) dX12_part_2 bp_99 ?_
  obtain ⟨g2, h⟩ := h
  refine gw_vC (bs := [.inl 0, .inl 99]) (st := []) (vmX12_isNumber) lX12_257 dX12_part_4 ⟨by decide, rfl, rfl, by decide, by decide⟩ (Nat.le_of_ble_eq_true rfl) rfl rfl g2 h (kI (fun x1 σ1 h n1 => ?_))
  refine gw_if_ne (tgt := 11) dX12_part_7 (by decide) (fun c3 => ?_) (fun c3 => ?_)
  · replace h := h.1 c3
    refine gw_aload_n (q := 0) dX12_part_11 rfl rfl ?_
    refine gw_gI fX12_210 dX12_part_12 (g2.up n1) ?_
    refine gw_istore_n (lo' := [(0, .inr v0), (1, .inl (σ1.2.1 v0 26))]) dX12_part_15 rfl (by decide) rfl ?_
    refine gw_iload_n (q := 1) dX12_part_16 rfl rfl ?_
    refine gw_aload_n (q := 0) dX12_part_17 rfl rfl ?_
    refine gw_gI fX12_254 dX12_part_18 (g2.up n1) ?_
    refine gw_icmp_lt (tgt := 32) dX12_part_21 (by decide) (fun c4 => ?_) (fun c4 => ?_)
    · replace h := h.1 c4
      refine gw_aload_n (q := 0) dX12_part_32 rfl rfl ?_
      refine gw_gI fX12_245 dX12_part_33 (g2.up n1) ?_
      refine gw_iconst (v := (-1)) dX12_part_36 ic_m1 ?_
      refine gw_icmp_eq (tgt := 58) dX12_part_37 (by decide) (fun c5 => ?_) (fun c5 => ?_)
      · replace h := h.1 c5
        exact h
      · replace h := h.2 c5
        refine gw_aload_n (q := 0) dX12_part_40 rfl rfl ?_
        refine gw_gR fX12_51 dX12_part_41 (g2.up n1) ?_
        refine gw_iload_n (q := 1) dX12_part_44 rfl rfl ?_
        obtain ⟨g6, h⟩ := h
        refine gw_aI dX12_part_45 g6 ?_
        refine gw_aload_n (q := 0) dX12_part_46 rfl rfl ?_
        refine gw_gI fX12_245 dX12_part_47 (g2.up n1) ?_
        refine gw_icmp_eq (tgt := 58) dX12_part_50 (by decide) (fun c7 => ?_) (fun c7 => ?_)
        · replace h := h.1 c7
          exact h
        · replace h := h.2 c7
          refine gw_aload_n (q := 0) dX12_part_53 rfl rfl ?_
          refine gw_iconst (v := 4) dX12_part_54 ic_4 ?_
          refine gw_vC (bs := [.inl 4]) (st := []) (vmX12_wrong) lX12_232 dX12_part_55 ⟨by decide, rfl, rfl, by decide, by decide⟩ (Nat.le_of_ble_eq_true rfl) rfl rfl (g2.up n1) h (kV (fun σ8 h n8 => ?_))
          exact h
    · replace h := h.2 c4
      refine gw_aload_n (q := 0) dX12_part_24 rfl rfl ?_
      refine gw_iconst (v := 3) dX12_part_25 ic_3 ?_
      refine gw_vC (bs := [.inl 3]) (st := []) (vmX12_wrong) lX12_232 dX12_part_26 ⟨by decide, rfl, rfl, by decide, by decide⟩ (Nat.le_of_ble_eq_true rfl) rfl rfl (g2.up n1) h (kV (fun σ9 h n9 => ?_))
      refine gw_goto (tgt := 58) dX12_part_29 (by decide) ?_
      exact h
  · replace h := h.2 c3
    exact gw_rV dX12_part_10 rfl (by decide) (by decide) h
set_option maxHeartbeats 4000000 in
set_option maxRecDepth 20000 in
theorem gX12_changes_68 {l : Launch} {v0 : Nat} {v1 : Int32} {v2 : Int32} {σ : Sg} {K : Sg → Prop} (h : Ob σ v0 12 ∧ ((((σ.2.1 v0 33) / 2) ≤ v2 → K σ) ∧ (¬ ((σ.2.1 v0 33) / 2) ≤ v2 → ((¬ v1 = 4 → K σ) ∧ (v1 = 4 → Ai σ (σ.2.2 v0 31) v2 ∧ Ai σ (σ.2.2 v0 32) v2 ∧ Ai σ (σ.2.2 v0 31) (((σ.2.1 v0 33) - 1) - v2) ∧ ∀ σ7, σ7 = w1 σ (σ.2.2 v0 31) v2.toNatClampNeg (σ.2.1 (σ.2.2 v0 31) (((σ.2.1 v0 33) - 1) - v2).toNatClampNeg) → Ai σ7 (σ7.2.2 v0 32) (((σ.2.1 v0 33) - 1) - v2) ∧ Ai σ7 (σ7.2.2 v0 32) v2 ∧ ∀ σ10, σ10 = w1 σ7 (σ7.2.2 v0 32) v2.toNatClampNeg (σ7.2.1 (σ7.2.2 v0 32) (((σ.2.1 v0 33) - 1) - v2).toNatClampNeg) → Ai σ10 (σ10.2.2 v0 31) (((σ.2.1 v0 33) - 1) - v2) ∧ ∀ σ12, σ12 = w1 σ10 (σ10.2.2 v0 31) (((σ.2.1 v0 33) - 1) - v2).toNatClampNeg (σ.2.1 (σ.2.2 v0 31) v2.toNatClampNeg) → Ai σ12 (σ12.2.2 v0 32) (((σ.2.1 v0 33) - 1) - v2) ∧ ∀ σ14, σ14 = w1 σ12 (σ12.2.2 v0 32) (((σ.2.1 v0 33) - 1) - v2).toNatClampNeg (σ.2.1 (σ.2.2 v0 32) v2.toNatClampNeg) → GW l mX12_changes 68 [(0, .inr v0), (1, .inl v1), (2, .inl (v2 + 1))] [] σ14 0 0 (PV K)))))) : GW l mX12_changes 68 [(0, .inr v0), (1, .inl v1), (2, .inl v2)] [] σ 0 0 (PV K) := by
  refine gw_iload_n (q := 2) dX12_changes_68 rfl rfl ?_
  refine gw_aload_n (q := 0) dX12_changes_69 rfl rfl ?_
  obtain ⟨g1, h⟩ := h
  refine gw_gI fX12_260 dX12_changes_70 g1 ?_
  refine gw_iconst (v := 2) dX12_changes_73 ic_2 ?_
  refine gw_idiv dX12_changes_74 (by decide) ?_
  refine gw_icmp_ge (tgt := 154) dX12_changes_75 (by decide) (fun c2 => ?_) (fun c2 => ?_)
  · replace h := h.1 c2
    exact gw_rV dX12_changes_154 rfl (by decide) (by decide) h
  · replace h := h.2 c2
    refine gw_iload_n (q := 1) dX12_changes_78 rfl rfl ?_
    refine gw_iconst (v := 4) dX12_changes_79 ic_4 ?_
    refine gw_icmp_ne (tgt := 154) dX12_changes_80 (by decide) (fun c3 => ?_) (fun c3 => ?_)
    · replace h := h.1 c3
      exact gw_rV dX12_changes_154 rfl (by decide) (by decide) h
    · replace h := h.2 c3
      refine gw_aload_n (q := 0) dX12_changes_83 rfl rfl ?_
      refine gw_gI fX12_260 dX12_changes_84 g1 ?_
      refine gw_iconst (v := 1) dX12_changes_87 ic_1 ?_
      refine gw_isub dX12_changes_88 ?_
      refine gw_iload_n (q := 2) dX12_changes_89 rfl rfl ?_
      refine gw_isub dX12_changes_90 ?_
      refine gw_istore_n (lo' := [(0, .inr v0), (1, .inl v1), (2, .inl v2), (3, .inl (((σ.2.1 v0 33) - 1) - v2))]) dX12_changes_91 rfl (by decide) rfl ?_
      refine gw_aload_n (q := 0) dX12_changes_92 rfl rfl ?_
      refine gw_gR fX12_67 dX12_changes_93 g1 ?_
      refine gw_iload_n (q := 2) dX12_changes_96 rfl rfl ?_
      obtain ⟨g4, h⟩ := h
      refine gw_aI dX12_changes_97 g4 ?_
      refine gw_istore (lo' := [(0, .inr v0), (1, .inl v1), (2, .inl v2), (3, .inl (((σ.2.1 v0 33) - 1) - v2)), (4, .inl (σ.2.1 (σ.2.2 v0 31) v2.toNatClampNeg))]) dX12_changes_98 (by decide) rfl ?_
      refine gw_aload_n (q := 0) dX12_changes_100 rfl rfl ?_
      refine gw_gR fX12_70 dX12_changes_101 g1 ?_
      refine gw_iload_n (q := 2) dX12_changes_104 rfl rfl ?_
      obtain ⟨g5, h⟩ := h
      refine gw_aI dX12_changes_105 g5 ?_
      refine gw_istore (lo' := [(0, .inr v0), (1, .inl v1), (2, .inl v2), (3, .inl (((σ.2.1 v0 33) - 1) - v2)), (4, .inl (σ.2.1 (σ.2.2 v0 31) v2.toNatClampNeg)), (5, .inl (σ.2.1 (σ.2.2 v0 32) v2.toNatClampNeg))]) dX12_changes_106 (by decide) rfl ?_
      refine gw_aload_n (q := 0) dX12_changes_108 rfl rfl ?_
      refine gw_gR fX12_67 dX12_changes_109 g1 ?_
      refine gw_iload_n (q := 2) dX12_changes_112 rfl rfl ?_
      refine gw_aload_n (q := 0) dX12_changes_113 rfl rfl ?_
      refine gw_gR fX12_67 dX12_changes_114 g1 ?_
      refine gw_iload_n (q := 3) dX12_changes_117 rfl rfl ?_
      obtain ⟨g6, h⟩ := h
      refine gw_aI dX12_changes_118 g6 ?_
      refine gw_sI dX12_changes_119 g4 (fun σ7 e7 => ?_)
      replace h := h σ7 e7
      refine gw_aload_n (q := 0) dX12_changes_120 rfl rfl ?_
      refine gw_gR fX12_70 dX12_changes_121 (g1.up (n_w1 e7)) ?_
      refine gw_iload_n (q := 2) dX12_changes_124 rfl rfl ?_
      refine gw_aload_n (q := 0) dX12_changes_125 rfl rfl ?_
      refine gw_gR fX12_70 dX12_changes_126 (g1.up (n_w1 e7)) ?_
      refine gw_iload_n (q := 3) dX12_changes_129 rfl rfl ?_
      obtain ⟨g8, h⟩ := h
      refine gw_aI dX12_changes_130 g8 ?_
      obtain ⟨g9, h⟩ := h
      refine gw_sI dX12_changes_131 g9 (fun σ10 e10 => ?_)
      replace h := h σ10 e10
      refine gw_aload_n (q := 0) dX12_changes_132 rfl rfl ?_
      refine gw_gR fX12_67 dX12_changes_133 ((g1.up (n_w1 e7)).up (n_w1 e10)) ?_
      refine gw_iload_n (q := 3) dX12_changes_136 rfl rfl ?_
      refine gw_iload (q := 4) dX12_changes_137 rfl ?_
      obtain ⟨g11, h⟩ := h
      refine gw_sI dX12_changes_139 g11 (fun σ12 e12 => ?_)
      replace h := h σ12 e12
      refine gw_aload_n (q := 0) dX12_changes_140 rfl rfl ?_
      refine gw_gR fX12_70 dX12_changes_141 (((g1.up (n_w1 e7)).up (n_w1 e10)).up (n_w1 e12)) ?_
      refine gw_iload_n (q := 3) dX12_changes_144 rfl rfl ?_
      refine gw_iload (q := 5) dX12_changes_145 rfl ?_
      obtain ⟨g13, h⟩ := h
      refine gw_sI dX12_changes_147 g13 (fun σ14 e14 => ?_)
      replace h := h σ14 e14
      refine gw_inc (lo' := [(0, .inr v0), (1, .inl v1), (2, .inl (v2 + 1)), (3, .inl (((σ.2.1 v0 33) - 1) - v2)), (4, .inl (σ.2.1 (σ.2.2 v0 31) v2.toNatClampNeg)), (5, .inl (σ.2.1 (σ.2.2 v0 32) v2.toNatClampNeg))]) (q := 2) (c := 1) dX12_changes_148 ic_1 rfl (by decide) rfl ?_
      refine gw_goto (tgt := 68) dX12_changes_151 (by decide) ?_
      refine gw_pick [0, 1, 2] rfl ?_
      exact h
set_option maxHeartbeats 4000000 in
set_option maxRecDepth 20000 in
theorem gX12_changes_39 {l : Launch} {v0 : Nat} {v1 : Int32} {v2 : Int32} {σ : Sg} {K : Sg → Prop} (h : Ob σ v0 12 ∧ (((σ.2.1 v0 33) ≤ v2 → GW l mX12_changes 68 [(0, .inr v0), (1, .inl v1), (2, .inl 0)] [] σ 0 0 (PV K)) ∧ (¬ (σ.2.1 v0 33) ≤ v2 → ((¬ v1 = 6 → GW l mX12_changes 68 [(0, .inr v0), (1, .inl v1), (2, .inl 0)] [] σ 0 0 (PV K)) ∧ (v1 = 6 → Ai σ (σ.2.2 v0 32) v2 ∧ ∀ σ5, σ5 = w1 σ (σ.2.2 v0 32) v2.toNatClampNeg 0 → GW l mX12_changes 39 [(0, .inr v0), (1, .inl v1), (2, .inl (v2 + 1))] [] σ5 0 0 (PV K)))))) : GW l mX12_changes 39 [(0, .inr v0), (1, .inl v1), (2, .inl v2)] [] σ 0 0 (PV K) := by
  refine gw_iload_n (q := 2) dX12_changes_39 rfl rfl ?_
  refine gw_aload_n (q := 0) dX12_changes_40 rfl rfl ?_
  obtain ⟨g1, h⟩ := h
  refine gw_gI fX12_260 dX12_changes_41 g1 ?_
  refine gw_icmp_ge (tgt := 66) dX12_changes_44 (by decide) (fun c2 => ?_) (fun c2 => ?_)
  · replace h := h.1 c2
    refine gw_iconst (v := 0) dX12_changes_66 ic_0 ?_
    refine gw_istore_n (lo' := [(0, .inr v0), (1, .inl v1), (2, .inl 0)]) dX12_changes_67 rfl (by decide) rfl ?_
    exact h
  · replace h := h.2 c2
    refine gw_iload_n (q := 1) dX12_changes_47 rfl rfl ?_
    refine gw_bipush (v := 6) dX12_changes_48 bp_6 ?_
    refine gw_icmp_ne (tgt := 66) dX12_changes_50 (by decide) (fun c3 => ?_) (fun c3 => ?_)
    · replace h := h.1 c3
      refine gw_iconst (v := 0) dX12_changes_66 ic_0 ?_
      refine gw_istore_n (lo' := [(0, .inr v0), (1, .inl v1), (2, .inl 0)]) dX12_changes_67 rfl (by decide) rfl ?_
      exact h
    · replace h := h.2 c3
      refine gw_aload_n (q := 0) dX12_changes_53 rfl rfl ?_
      refine gw_gR fX12_70 dX12_changes_54 g1 ?_
      refine gw_iload_n (q := 2) dX12_changes_57 rfl rfl ?_
      refine gw_iconst (v := 0) dX12_changes_58 ic_0 ?_
      obtain ⟨g4, h⟩ := h
      refine gw_sI dX12_changes_59 g4 (fun σ5 e5 => ?_)
      replace h := h σ5 e5
      refine gw_inc (lo' := [(0, .inr v0), (1, .inl v1), (2, .inl (v2 + 1))]) (q := 2) (c := 1) dX12_changes_60 ic_1 rfl (by decide) rfl ?_
      refine gw_goto (tgt := 39) dX12_changes_63 (by decide) ?_
      exact h
set_option maxHeartbeats 4000000 in
set_option maxRecDepth 20000 in
theorem eX12_changes {l : Launch} {v0 : Nat} {σ : Sg} {K : Sg → Prop} (h : Ob σ v0 12 ∧ Con l mX12_next [.inr v0] σ (PV (fun σ2 => ((¬ (σ.2.1 v0 26) = 5 → GW l mX12_changes 39 [(0, .inr v0), (1, .inl (σ.2.1 v0 26)), (2, .inl 0)] [] σ2 0 0 (PV K)) ∧ ((σ.2.1 v0 26) = 5 → Con l mX12_isNumber [.inr v0, .inl 1, .inl 9] σ2 (PI (fun x4 σ4 => ((¬ x4 = 0 → Con l mX12_slows [.inr v0, .inl (σ4.2.1 v0 26)] σ4 (PV (fun σ6 => Con l mX12_next [.inr v0] σ6 (PV (fun σ7 => GW l mX12_changes 39 [(0, .inr v0), (1, .inl (σ.2.1 v0 26)), (2, .inl 0)] [] σ7 0 0 (PV K)))))) ∧ (x4 = 0 → K σ4))))))))) : Con l mX12_changes [.inr v0] σ (PV K) := by
  refine con_gw rfl (Nat.le_of_ble_eq_true rfl) ?_
  show GW l mX12_changes 0 [(0, .inr v0)] [] σ 0 0 (PV K)
  refine gw_aload_n (q := 0) dX12_changes_0 rfl rfl ?_
  obtain ⟨g1, h⟩ := h
  refine gw_gI fX12_210 dX12_changes_1 g1 ?_
  refine gw_istore_n (lo' := [(0, .inr v0), (1, .inl (σ.2.1 v0 26))]) dX12_changes_4 rfl (by decide) rfl ?_
  refine gw_aload_n (q := 0) dX12_changes_5 rfl rfl ?_
  refine gw_vC (bs := []) (st := []) (vmX12_next) lX12_239 dX12_changes_6 ⟨by decide, rfl, rfl, by decide, by decide⟩ (Nat.le_of_ble_eq_true rfl) rfl rfl g1 h (kV (fun σ2 h n2 => ?_))
  refine gw_iload_n (q := 1) dX12_changes_9 rfl rfl ?_
  refine gw_iconst (v := 5) dX12_changes_10 ic_5 ?_
  refine gw_icmp_ne (tgt := 37) dX12_changes_11 (by decide) (fun c3 => ?_) (fun c3 => ?_)
  · replace h := h.1 c3
    refine gw_iconst (v := 0) dX12_changes_37 ic_0 ?_
    refine gw_istore_n (lo' := [(0, .inr v0), (1, .inl (σ.2.1 v0 26)), (2, .inl 0)]) dX12_changes_38 rfl (by decide) rfl ?_
    exact h
  · replace h := h.2 c3
    refine gw_aload_n (q := 0) dX12_changes_14 rfl rfl ?_
    refine gw_iconst (v := 1) dX12_changes_15 ic_1 ?_
    refine gw_bipush (v := 9) dX12_changes_16 bp_9 ?_
    refine gw_vC (bs := [.inl 1, .inl 9]) (st := []) (vmX12_isNumber) lX12_257 dX12_changes_18 ⟨by decide, rfl, rfl, by decide, by decide⟩ (Nat.le_of_ble_eq_true rfl) rfl rfl (g1.up n2) h (kI (fun x4 σ4 h n4 => ?_))
    refine gw_if_ne (tgt := 25) dX12_changes_21 (by decide) (fun c5 => ?_) (fun c5 => ?_)
    · replace h := h.1 c5
      refine gw_aload_n (q := 0) dX12_changes_25 rfl rfl ?_
      refine gw_aload_n (q := 0) dX12_changes_26 rfl rfl ?_
      refine gw_gI fX12_210 dX12_changes_27 ((g1.up n2).up n4) ?_
      refine gw_vC (bs := [.inl (σ4.2.1 v0 26)]) (st := []) (vmX12_slows) lX12_266 dX12_changes_30 ⟨by decide, rfl, rfl, by decide, by decide⟩ (Nat.le_of_ble_eq_true rfl) rfl rfl ((g1.up n2).up n4) h (kV (fun σ6 h n6 => ?_))
      refine gw_aload_n (q := 0) dX12_changes_33 rfl rfl ?_
      refine gw_vC (bs := []) (st := []) (vmX12_next) lX12_239 dX12_changes_34 ⟨by decide, rfl, rfl, by decide, by decide⟩ (Nat.le_of_ble_eq_true rfl) rfl rfl (((g1.up n2).up n4).up n6) h (kV (fun σ7 h n7 => ?_))
      refine gw_iconst (v := 0) dX12_changes_37 ic_0 ?_
      refine gw_istore_n (lo' := [(0, .inr v0), (1, .inl (σ.2.1 v0 26)), (2, .inl 0)]) dX12_changes_38 rfl (by decide) rfl ?_
      exact h
    · replace h := h.2 c5
      exact gw_rV dX12_changes_24 rfl (by decide) (by decide) h
set_option maxHeartbeats 4000000 in
set_option maxRecDepth 20000 in
theorem gX12_slows_16 {l : Launch} {v0 : Nat} {v1 : Int32} {v2 : Int32} {v3 : Int32} {σ : Sg} {K : Sg → Prop} (h : ((v3 < 0 → Ob σ v0 12 ∧ ∀ σ3, σ3 = w1 σ v0 33 v2 → K σ3) ∧ (¬ v3 < 0 → Ob σ v0 12 ∧ ¬ v1 = 0 ∧ Ai σ (σ.2.2 v0 31) (v3 / v1) ∧ Ai σ (σ.2.2 v0 31) v3 ∧ ∀ σ8, σ8 = w1 σ (σ.2.2 v0 31) v3.toNatClampNeg (σ.2.1 (σ.2.2 v0 31) (v3 / v1).toNatClampNeg) → ¬ v1 = 0 ∧ Ai σ8 (σ8.2.2 v0 32) (v3 / v1) ∧ Ai σ8 (σ8.2.2 v0 32) v3 ∧ ∀ σ12, σ12 = w1 σ8 (σ8.2.2 v0 32) v3.toNatClampNeg (σ8.2.1 (σ8.2.2 v0 32) (v3 / v1).toNatClampNeg) → GW l mX12_slows 16 [(0, .inr v0), (1, .inl v1), (2, .inl v2), (3, .inl (v3 + (-1)))] [] σ12 0 0 (PV K)))) : GW l mX12_slows 16 [(0, .inr v0), (1, .inl v1), (2, .inl v2), (3, .inl v3)] [] σ 0 0 (PV K) := by
  refine gw_iload_n (q := 3) dX12_slows_16 rfl rfl ?_
  refine gw_if_lt (tgt := 54) dX12_slows_17 (by decide) (fun c1 => ?_) (fun c1 => ?_)
  · replace h := h.1 c1
    refine gw_aload_n (q := 0) dX12_slows_54 rfl rfl ?_
    refine gw_iload_n (q := 2) dX12_slows_55 rfl rfl ?_
    obtain ⟨g2, h⟩ := h
    refine gw_pI fX12_260 dX12_slows_56 g2 (fun σ3 e3 => ?_)
    replace h := h σ3 e3
    exact gw_rV dX12_slows_59 rfl (by decide) (by decide) h
  · replace h := h.2 c1
    refine gw_aload_n (q := 0) dX12_slows_20 rfl rfl ?_
    obtain ⟨g4, h⟩ := h
    refine gw_gR fX12_67 dX12_slows_21 g4 ?_
    refine gw_iload_n (q := 3) dX12_slows_24 rfl rfl ?_
    refine gw_aload_n (q := 0) dX12_slows_25 rfl rfl ?_
    refine gw_gR fX12_67 dX12_slows_26 g4 ?_
    refine gw_iload_n (q := 3) dX12_slows_29 rfl rfl ?_
    refine gw_iload_n (q := 1) dX12_slows_30 rfl rfl ?_
    obtain ⟨g5, h⟩ := h
    refine gw_idiv dX12_slows_31 g5 ?_
    obtain ⟨g6, h⟩ := h
    refine gw_aI dX12_slows_32 g6 ?_
    obtain ⟨g7, h⟩ := h
    refine gw_sI dX12_slows_33 g7 (fun σ8 e8 => ?_)
    replace h := h σ8 e8
    refine gw_aload_n (q := 0) dX12_slows_34 rfl rfl ?_
    refine gw_gR fX12_70 dX12_slows_35 (g4.up (n_w1 e8)) ?_
    refine gw_iload_n (q := 3) dX12_slows_38 rfl rfl ?_
    refine gw_aload_n (q := 0) dX12_slows_39 rfl rfl ?_
    refine gw_gR fX12_70 dX12_slows_40 (g4.up (n_w1 e8)) ?_
    refine gw_iload_n (q := 3) dX12_slows_43 rfl rfl ?_
    refine gw_iload_n (q := 1) dX12_slows_44 rfl rfl ?_
    obtain ⟨g9, h⟩ := h
    refine gw_idiv dX12_slows_45 g9 ?_
    obtain ⟨g10, h⟩ := h
    refine gw_aI dX12_slows_46 g10 ?_
    obtain ⟨g11, h⟩ := h
    refine gw_sI dX12_slows_47 g11 (fun σ12 e12 => ?_)
    replace h := h σ12 e12
    refine gw_inc (lo' := [(0, .inr v0), (1, .inl v1), (2, .inl v2), (3, .inl (v3 + (-1)))]) (q := 3) (c := (-1)) dX12_slows_48 ic_m1 rfl (by decide) rfl ?_
    refine gw_goto (tgt := 16) dX12_slows_51 (by decide) ?_
    exact h
set_option maxHeartbeats 4000000 in
set_option maxRecDepth 20000 in
theorem eX12_slows {l : Launch} {v0 : Nat} {v1 : Int32} {σ : Sg} {K : Sg → Prop} (h : Ob σ v0 12 ∧ Con l mJ9_min_7cf53 [.inl 41, .inl ((σ.2.1 v0 33) * v1)] σ (PI (fun x2 σ2 => GW l mX12_slows 16 [(0, .inr v0), (1, .inl v1), (2, .inl x2), (3, .inl (x2 - 1))] [] σ2 0 0 (PV K)))) : Con l mX12_slows [.inr v0, .inl v1] σ (PV K) := by
  refine con_gw rfl (Nat.le_of_ble_eq_true rfl) ?_
  show GW l mX12_slows 0 [(0, .inr v0), (1, .inl v1)] [] σ 0 0 (PV K)
  refine gw_bipush (v := 41) dX12_slows_0 bp_41 ?_
  refine gw_aload_n (q := 0) dX12_slows_2 rfl rfl ?_
  obtain ⟨g1, h⟩ := h
  refine gw_gI fX12_260 dX12_slows_3 g1 ?_
  refine gw_iload_n (q := 1) dX12_slows_6 rfl rfl ?_
  refine gw_imul dX12_slows_7 ?_
  refine gw_sC (bs := [.inl 41, .inl ((σ.2.1 v0 33) * v1)]) (st := []) smJ9_min_7cf53 lX12_269 dX12_slows_8 ⟨by decide, rfl, rfl, by decide, by decide⟩ (Nat.le_of_ble_eq_true rfl) rfl rfl h (kI (fun x2 σ2 h n2 => ?_))
  refine gw_istore_n (lo' := [(0, .inr v0), (1, .inl v1), (2, .inl x2)]) dX12_slows_11 rfl (by decide) rfl ?_
  refine gw_iload_n (q := 2) dX12_slows_12 rfl rfl ?_
  refine gw_iconst (v := 1) dX12_slows_13 ic_1 ?_
  refine gw_isub dX12_slows_14 ?_
  refine gw_istore_n (lo' := [(0, .inr v0), (1, .inl v1), (2, .inl x2), (3, .inl (x2 - 1))]) dX12_slows_15 rfl (by decide) rfl ?_
  exact h
set_option maxHeartbeats 4000000 in
set_option maxRecDepth 20000 in
theorem eX12_out {l : Launch} {v0 : Nat} {v1 : Int32} {v2 : Int32} {σ : Sg} {K : Sg → Prop} (h : Ob σ v0 12 ∧ (((σ.2.1 v0 36) ≤ 40 → Ai σ (σ.2.2 v0 34) (σ.2.1 v0 36) ∧ ∀ σ4, σ4 = w1 σ (σ.2.2 v0 34) (σ.2.1 v0 36).toNatClampNeg v1 → Ai σ4 (σ4.2.2 v0 35) (σ4.2.1 v0 36) ∧ ∀ σ6, σ6 = w1 σ4 (σ4.2.2 v0 35) (σ4.2.1 v0 36).toNatClampNeg v2 → ∀ σ7, σ7 = w1 σ6 v0 36 ((σ6.2.1 v0 36) + 1) → K σ7) ∧ (¬ (σ.2.1 v0 36) ≤ 40 → K σ))) : Con l mX12_out [.inr v0, .inl v1, .inl v2] σ (PV K) := by
  refine con_gw rfl (Nat.le_of_ble_eq_true rfl) ?_
  show GW l mX12_out 0 [(0, .inr v0), (1, .inl v1), (2, .inl v2)] [] σ 0 0 (PV K)
  refine gw_aload_n (q := 0) dX12_out_0 rfl rfl ?_
  obtain ⟨g1, h⟩ := h
  refine gw_gI fX12_242 dX12_out_1 g1 ?_
  refine gw_bipush (v := 40) dX12_out_4 bp_40 ?_
  refine gw_icmp_le (tgt := 10) dX12_out_6 (by decide) (fun c2 => ?_) (fun c2 => ?_)
  · replace h := h.1 c2
    refine gw_aload_n (q := 0) dX12_out_10 rfl rfl ?_
    refine gw_gR fX12_73 dX12_out_11 g1 ?_
    refine gw_aload_n (q := 0) dX12_out_14 rfl rfl ?_
    refine gw_gI fX12_242 dX12_out_15 g1 ?_
    refine gw_iload_n (q := 1) dX12_out_18 rfl rfl ?_
    obtain ⟨g3, h⟩ := h
    refine gw_sI dX12_out_19 g3 (fun σ4 e4 => ?_)
    replace h := h σ4 e4
    refine gw_aload_n (q := 0) dX12_out_20 rfl rfl ?_
    refine gw_gR fX12_76 dX12_out_21 (g1.up (n_w1 e4)) ?_
    refine gw_aload_n (q := 0) dX12_out_24 rfl rfl ?_
    refine gw_gI fX12_242 dX12_out_25 (g1.up (n_w1 e4)) ?_
    refine gw_iload_n (q := 2) dX12_out_28 rfl rfl ?_
    obtain ⟨g5, h⟩ := h
    refine gw_sI dX12_out_29 g5 (fun σ6 e6 => ?_)
    replace h := h σ6 e6
    refine gw_aload_n (q := 0) dX12_out_30 rfl rfl ?_
    refine gw_dup dX12_out_31 ?_
    refine gw_gI fX12_242 dX12_out_32 ((g1.up (n_w1 e4)).up (n_w1 e6)) ?_
    refine gw_iconst (v := 1) dX12_out_35 ic_1 ?_
    refine gw_iadd dX12_out_36 ?_
    refine gw_pI fX12_242 dX12_out_37 ((g1.up (n_w1 e4)).up (n_w1 e6)) (fun σ7 e7 => ?_)
    replace h := h σ7 e7
    exact gw_rV dX12_out_40 rfl (by decide) (by decide) h
  · replace h := h.2 c2
    exact gw_rV dX12_out_9 rfl (by decide) (by decide) h
set_option maxHeartbeats 4000000 in
set_option maxRecDepth 20000 in
theorem gX12_joinPart_129 {l : Launch} {v0 : Nat} {v1 : Int32} {σ : Sg} {K : Sg → Prop} (h : Ob σ v0 12 ∧ (((σ.2.1 v0 33) ≤ v1 → K σ) ∧ (¬ (σ.2.1 v0 33) ≤ v1 → Ai σ (σ.2.2 v0 31) v1 ∧ Ai σ (σ.2.2 v0 32) v1 ∧ Con l mX12_out [.inr v0, .inl (σ.2.1 (σ.2.2 v0 31) v1.toNatClampNeg), .inl (σ.2.1 (σ.2.2 v0 32) v1.toNatClampNeg)] σ (PV (fun σ5 => GW l mX12_joinPart 129 [(0, .inr v0), (1, .inl (v1 + 1))] [] σ5 0 0 (PV K)))))) : GW l mX12_joinPart 129 [(0, .inr v0), (1, .inl v1)] [] σ 0 0 (PV K) := by
  refine gw_iload_n (q := 1) dX12_joinPart_129 rfl rfl ?_
  refine gw_aload_n (q := 0) dX12_joinPart_130 rfl rfl ?_
  obtain ⟨g1, h⟩ := h
  refine gw_gI fX12_260 dX12_joinPart_131 g1 ?_
  refine gw_icmp_ge (tgt := 159) dX12_joinPart_134 (by decide) (fun c2 => ?_) (fun c2 => ?_)
  · replace h := h.1 c2
    exact gw_rV dX12_joinPart_159 rfl (by decide) (by decide) h
  · replace h := h.2 c2
    refine gw_aload_n (q := 0) dX12_joinPart_137 rfl rfl ?_
    refine gw_aload_n (q := 0) dX12_joinPart_138 rfl rfl ?_
    refine gw_gR fX12_67 dX12_joinPart_139 g1 ?_
    refine gw_iload_n (q := 1) dX12_joinPart_142 rfl rfl ?_
    obtain ⟨g3, h⟩ := h
    refine gw_aI dX12_joinPart_143 g3 ?_
    refine gw_aload_n (q := 0) dX12_joinPart_144 rfl rfl ?_
    refine gw_gR fX12_70 dX12_joinPart_145 g1 ?_
    refine gw_iload_n (q := 1) dX12_joinPart_148 rfl rfl ?_
    obtain ⟨g4, h⟩ := h
    refine gw_aI dX12_joinPart_149 g4 ?_
    refine gw_vC (bs := [.inl (σ.2.1 (σ.2.2 v0 31) v1.toNatClampNeg), .inl (σ.2.1 (σ.2.2 v0 32) v1.toNatClampNeg)]) (st := []) (vmX12_out) lX12_272 dX12_joinPart_150 ⟨by decide, rfl, rfl, by decide, by decide⟩ (Nat.le_of_ble_eq_true rfl) rfl rfl g1 h (kV (fun σ5 h n5 => ?_))
    refine gw_inc (lo' := [(0, .inr v0), (1, .inl (v1 + 1))]) (q := 1) (c := 1) dX12_joinPart_153 ic_1 rfl (by decide) rfl ?_
    refine gw_goto (tgt := 129) dX12_joinPart_156 (by decide) ?_
    exact h
set_option maxHeartbeats 4000000 in
set_option maxRecDepth 20000 in
theorem gX12_joinPart_67 {l : Launch} {v0 : Nat} {v1 : Int32} {v2 : Int32} {v3 : Int32} {v4 : Int32} {v5 : Int32} {v6 : Int32} {σ : Sg} {K : Sg → Prop} (h : ((3 ≤ v6 → Ob σ v0 12 ∧ Con l mX12_out [.inr v0, .inl v5, .inl 0] σ (PV (fun σ2 => GW l mX12_joinPart 55 [(0, .inr v0), (1, .inl v1), (2, .inl v2), (3, .inl v3), (4, .inl (v4 + 1))] [] σ2 0 0 (PV K)))) ∧ (¬ 3 ≤ v6 → Con l mX12_placeOf [.inl v1, .inl v6] σ (PI (fun x4 σ4 => Con l mX12_placeOf [.inl v2, .inl v6] σ4 (PI (fun x5 σ5 => Con l mX12_placeOf [.inl v1, .inl v6] σ5 (PI (fun x6 σ6 => ¬ v3 = 0 ∧ GW l mX12_joinPart 67 [(0, .inr v0), (1, .inl v1), (2, .inl v2), (3, .inl v3), (4, .inl v4), (5, .inl (v5 ||| ((x4 + (((x5 - x6) * v4) / v3)) <<< ((4 * v6) &&& 31)))), (6, .inl (v6 + 1))] [] σ6 0 0 (PV K)))))))))) : GW l mX12_joinPart 67 [(0, .inr v0), (1, .inl v1), (2, .inl v2), (3, .inl v3), (4, .inl v4), (5, .inl v5), (6, .inl v6)] [] σ 0 0 (PV K) := by
  refine gw_iload (q := 6) dX12_joinPart_67 rfl ?_
  refine gw_iconst (v := 3) dX12_joinPart_69 ic_3 ?_
  refine gw_icmp_ge (tgt := 114) dX12_joinPart_70 (by decide) (fun c1 => ?_) (fun c1 => ?_)
  · replace h := h.1 c1
    refine gw_aload_n (q := 0) dX12_joinPart_114 rfl rfl ?_
    refine gw_iload (q := 5) dX12_joinPart_115 rfl ?_
    refine gw_iconst (v := 0) dX12_joinPart_117 ic_0 ?_
    obtain ⟨g3, h⟩ := h
    refine gw_vC (bs := [.inl v5, .inl 0]) (st := []) (vmX12_out) lX12_272 dX12_joinPart_118 ⟨by decide, rfl, rfl, by decide, by decide⟩ (Nat.le_of_ble_eq_true rfl) rfl rfl g3 h (kV (fun σ2 h n2 => ?_))
    refine gw_inc (lo' := [(0, .inr v0), (1, .inl v1), (2, .inl v2), (3, .inl v3), (4, .inl (v4 + 1)), (5, .inl v5), (6, .inl v6)]) (q := 4) (c := 1) dX12_joinPart_121 ic_1 rfl (by decide) rfl ?_
    refine gw_goto (tgt := 55) dX12_joinPart_124 (by decide) ?_
    refine gw_pick [0, 1, 2, 3, 4] rfl ?_
    exact h
  · replace h := h.2 c1
    refine gw_iload (q := 5) dX12_joinPart_73 rfl ?_
    refine gw_iload_n (q := 1) dX12_joinPart_75 rfl rfl ?_
    refine gw_iload (q := 6) dX12_joinPart_76 rfl ?_
    refine gw_sC (bs := [.inl v1, .inl v6]) (st := [.inl v5]) smX12_placeOf lX12_155 dX12_joinPart_78 ⟨by decide, rfl, rfl, by decide, by decide⟩ (Nat.le_of_ble_eq_true rfl) rfl rfl h (kI (fun x4 σ4 h n4 => ?_))
    refine gw_iload_n (q := 2) dX12_joinPart_81 rfl rfl ?_
    refine gw_iload (q := 6) dX12_joinPart_82 rfl ?_
    refine gw_sC (bs := [.inl v2, .inl v6]) (st := [.inl x4, .inl v5]) smX12_placeOf lX12_155 dX12_joinPart_84 ⟨by decide, rfl, rfl, by decide, by decide⟩ (Nat.le_of_ble_eq_true rfl) rfl rfl h (kI (fun x5 σ5 h n5 => ?_))
    refine gw_iload_n (q := 1) dX12_joinPart_87 rfl rfl ?_
    refine gw_iload (q := 6) dX12_joinPart_88 rfl ?_
    refine gw_sC (bs := [.inl v1, .inl v6]) (st := [.inl x5, .inl x4, .inl v5]) smX12_placeOf lX12_155 dX12_joinPart_90 ⟨by decide, rfl, rfl, by decide, by decide⟩ (Nat.le_of_ble_eq_true rfl) rfl rfl h (kI (fun x6 σ6 h n6 => ?_))
    refine gw_isub dX12_joinPart_93 ?_
    refine gw_iload (q := 4) dX12_joinPart_94 rfl ?_
    refine gw_imul dX12_joinPart_96 ?_
    refine gw_iload_n (q := 3) dX12_joinPart_97 rfl rfl ?_
    obtain ⟨g7, h⟩ := h
    refine gw_idiv dX12_joinPart_98 g7 ?_
    refine gw_iadd dX12_joinPart_99 ?_
    refine gw_iconst (v := 4) dX12_joinPart_100 ic_4 ?_
    refine gw_iload (q := 6) dX12_joinPart_101 rfl ?_
    refine gw_imul dX12_joinPart_103 ?_
    refine gw_ishl dX12_joinPart_104 ?_
    refine gw_ior dX12_joinPart_105 ?_
    refine gw_istore (lo' := [(0, .inr v0), (1, .inl v1), (2, .inl v2), (3, .inl v3), (4, .inl v4), (5, .inl (v5 ||| ((x4 + (((x5 - x6) * v4) / v3)) <<< ((4 * v6) &&& 31)))), (6, .inl v6)]) dX12_joinPart_106 (by decide) rfl ?_
    refine gw_inc (lo' := [(0, .inr v0), (1, .inl v1), (2, .inl v2), (3, .inl v3), (4, .inl v4), (5, .inl (v5 ||| ((x4 + (((x5 - x6) * v4) / v3)) <<< ((4 * v6) &&& 31)))), (6, .inl (v6 + 1))]) (q := 6) (c := 1) dX12_joinPart_108 ic_1 rfl (by decide) rfl ?_
    refine gw_goto (tgt := 67) dX12_joinPart_111 (by decide) ?_
    exact h
set_option maxHeartbeats 4000000 in
set_option maxRecDepth 20000 in
theorem gX12_joinPart_55 {l : Launch} {v0 : Nat} {v1 : Int32} {v2 : Int32} {v3 : Int32} {v4 : Int32} {σ : Sg} {K : Sg → Prop} (h : ((v3 ≤ v4 → GW l mX12_joinPart 129 [(0, .inr v0), (1, .inl 0)] [] σ 0 0 (PV K)) ∧ (¬ v3 ≤ v4 → GW l mX12_joinPart 67 [(0, .inr v0), (1, .inl v1), (2, .inl v2), (3, .inl v3), (4, .inl v4), (5, .inl 0), (6, .inl 0)] [] σ 0 0 (PV K)))) : GW l mX12_joinPart 55 [(0, .inr v0), (1, .inl v1), (2, .inl v2), (3, .inl v3), (4, .inl v4)] [] σ 0 0 (PV K) := by
  refine gw_iload (q := 4) dX12_joinPart_55 rfl ?_
  refine gw_iload_n (q := 3) dX12_joinPart_57 rfl rfl ?_
  refine gw_icmp_ge (tgt := 127) dX12_joinPart_58 (by decide) (fun c1 => ?_) (fun c1 => ?_)
  · replace h := h.1 c1
    refine gw_iconst (v := 0) dX12_joinPart_127 ic_0 ?_
    refine gw_istore_n (lo' := [(0, .inr v0), (1, .inl 0), (2, .inl v2), (3, .inl v3), (4, .inl v4)]) dX12_joinPart_128 rfl (by decide) rfl ?_
    refine gw_pick [0, 1] rfl ?_
    exact h
  · replace h := h.2 c1
    refine gw_iconst (v := 0) dX12_joinPart_61 ic_0 ?_
    refine gw_istore (lo' := [(0, .inr v0), (1, .inl v1), (2, .inl v2), (3, .inl v3), (4, .inl v4), (5, .inl 0)]) dX12_joinPart_62 (by decide) rfl ?_
    refine gw_iconst (v := 0) dX12_joinPart_64 ic_0 ?_
    refine gw_istore (lo' := [(0, .inr v0), (1, .inl v1), (2, .inl v2), (3, .inl v3), (4, .inl v4), (5, .inl 0), (6, .inl 0)]) dX12_joinPart_65 (by decide) rfl ?_
    exact h
set_option maxHeartbeats 4000000 in
set_option maxRecDepth 20000 in
theorem eX12_joinPart {l : Launch} {v0 : Nat} {σ : Sg} {K : Sg → Prop} (h : Ob σ v0 12 ∧ ((¬ (σ.2.1 v0 27) = 0 → K σ) ∧ ((σ.2.1 v0 27) = 0 → ((¬ (σ.2.1 v0 33) = 0 → (((σ.2.1 v0 36) ≤ 0 → GW l mX12_joinPart 129 [(0, .inr v0), (1, .inl 0)] [] σ 0 0 (PV K)) ∧ (¬ (σ.2.1 v0 36) ≤ 0 → Ai σ (σ.2.2 v0 34) ((σ.2.1 v0 36) - 1) ∧ Ai σ (σ.2.2 v0 31) 0 ∧ Con l mX12_hopOf [.inr v0, .inl (σ.2.1 v0 37), .inl (σ.2.1 (σ.2.2 v0 34) ((σ.2.1 v0 36) - 1).toNatClampNeg), .inl (σ.2.1 (σ.2.2 v0 31) (0 : Int32).toNatClampNeg)] σ (PI (fun x7 σ7 => GW l mX12_joinPart 55 [(0, .inr v0), (1, .inl (σ.2.1 (σ.2.2 v0 34) ((σ.2.1 v0 36) - 1).toNatClampNeg)), (2, .inl (σ.2.1 (σ.2.2 v0 31) (0 : Int32).toNatClampNeg)), (3, .inl x7), (4, .inl 1)] [] σ7 0 0 (PV K)))))) ∧ ((σ.2.1 v0 33) = 0 → K σ))))) : Con l mX12_joinPart [.inr v0] σ (PV K) := by
  refine con_gw rfl (Nat.le_of_ble_eq_true rfl) ?_
  show GW l mX12_joinPart 0 [(0, .inr v0)] [] σ 0 0 (PV K)
  refine gw_aload_n (q := 0) dX12_joinPart_0 rfl rfl ?_
  obtain ⟨g1, h⟩ := h
  refine gw_gI fX12_226 dX12_joinPart_1 g1 ?_
  refine gw_if_ne (tgt := 14) dX12_joinPart_4 (by decide) (fun c2 => ?_) (fun c2 => ?_)
  · replace h := h.1 c2
    exact gw_rV dX12_joinPart_14 rfl (by decide) (by decide) h
  · replace h := h.2 c2
    refine gw_aload_n (q := 0) dX12_joinPart_7 rfl rfl ?_
    refine gw_gI fX12_260 dX12_joinPart_8 g1 ?_
    refine gw_if_ne (tgt := 15) dX12_joinPart_11 (by decide) (fun c3 => ?_) (fun c3 => ?_)
    · replace h := h.1 c3
      refine gw_aload_n (q := 0) dX12_joinPart_15 rfl rfl ?_
      refine gw_gI fX12_242 dX12_joinPart_16 g1 ?_
      refine gw_if_le (tgt := 127) dX12_joinPart_19 (by decide) (fun c4 => ?_) (fun c4 => ?_)
      · replace h := h.1 c4
        refine gw_iconst (v := 0) dX12_joinPart_127 ic_0 ?_
        refine gw_istore_n (lo' := [(0, .inr v0), (1, .inl 0)]) dX12_joinPart_128 rfl (by decide) rfl ?_
        exact h
      · replace h := h.2 c4
        refine gw_aload_n (q := 0) dX12_joinPart_22 rfl rfl ?_
        refine gw_gR fX12_73 dX12_joinPart_23 g1 ?_
        refine gw_aload_n (q := 0) dX12_joinPart_26 rfl rfl ?_
        refine gw_gI fX12_242 dX12_joinPart_27 g1 ?_
        refine gw_iconst (v := 1) dX12_joinPart_30 ic_1 ?_
        refine gw_isub dX12_joinPart_31 ?_
        obtain ⟨g5, h⟩ := h
        refine gw_aI dX12_joinPart_32 g5 ?_
        refine gw_istore_n (lo' := [(0, .inr v0), (1, .inl (σ.2.1 (σ.2.2 v0 34) ((σ.2.1 v0 36) - 1).toNatClampNeg))]) dX12_joinPart_33 rfl (by decide) rfl ?_
        refine gw_aload_n (q := 0) dX12_joinPart_34 rfl rfl ?_
        refine gw_gR fX12_67 dX12_joinPart_35 g1 ?_
        refine gw_iconst (v := 0) dX12_joinPart_38 ic_0 ?_
        obtain ⟨g6, h⟩ := h
        refine gw_aI dX12_joinPart_39 g6 ?_
        refine gw_istore_n (lo' := [(0, .inr v0), (1, .inl (σ.2.1 (σ.2.2 v0 34) ((σ.2.1 v0 36) - 1).toNatClampNeg)), (2, .inl (σ.2.1 (σ.2.2 v0 31) (0 : Int32).toNatClampNeg))]) dX12_joinPart_40 rfl (by decide) rfl ?_
        refine gw_aload_n (q := 0) dX12_joinPart_41 rfl rfl ?_
        refine gw_aload_n (q := 0) dX12_joinPart_42 rfl rfl ?_
        refine gw_gI fX12_245 dX12_joinPart_43 g1 ?_
        refine gw_iload_n (q := 1) dX12_joinPart_46 rfl rfl ?_
        refine gw_iload_n (q := 2) dX12_joinPart_47 rfl rfl ?_
        refine gw_vC (bs := [.inl (σ.2.1 v0 37), .inl (σ.2.1 (σ.2.2 v0 34) ((σ.2.1 v0 36) - 1).toNatClampNeg), .inl (σ.2.1 (σ.2.2 v0 31) (0 : Int32).toNatClampNeg)]) (st := []) (vmX12_hopOf) lX12_177 dX12_joinPart_48 ⟨by decide, rfl, rfl, by decide, by decide⟩ (Nat.le_of_ble_eq_true rfl) rfl rfl g1 h (kI (fun x7 σ7 h n7 => ?_))
        refine gw_istore_n (lo' := [(0, .inr v0), (1, .inl (σ.2.1 (σ.2.2 v0 34) ((σ.2.1 v0 36) - 1).toNatClampNeg)), (2, .inl (σ.2.1 (σ.2.2 v0 31) (0 : Int32).toNatClampNeg)), (3, .inl x7)]) dX12_joinPart_51 rfl (by decide) rfl ?_
        refine gw_iconst (v := 1) dX12_joinPart_52 ic_1 ?_
        refine gw_istore (lo' := [(0, .inr v0), (1, .inl (σ.2.1 (σ.2.2 v0 34) ((σ.2.1 v0 36) - 1).toNatClampNeg)), (2, .inl (σ.2.1 (σ.2.2 v0 31) (0 : Int32).toNatClampNeg)), (3, .inl x7), (4, .inl 1)]) dX12_joinPart_53 (by decide) rfl ?_
        exact h
    · replace h := h.2 c3
      exact gw_rV dX12_joinPart_14 rfl (by decide) (by decide) h
set_option maxHeartbeats 4000000 in
set_option maxRecDepth 20000 in
theorem gX12_make_79 {l : Launch} {v0 : Nat} {v1 : Int32} {σ : Sg} {K : Int32 → Sg → Prop} (h : Ob σ v0 12 ∧ ∀ σ2, σ2 = w1 σ v0 29 (σ.2.1 v0 27) → ∀ σ3, σ3 = w1 σ2 v0 30 (σ2.2.1 v0 28) → (((σ3.2.1 v0 27) = 0 → ∀ σ5, σ5 = w1 σ3 v0 16 (σ3.2.1 v0 21) → K ((σ3.2.1 v0 21) - (σ3.2.1 v0 16)) σ5) ∧ (¬ (σ3.2.1 v0 27) = 0 → K (-1) σ3))) : GW l mX12_make 79 [(0, .inr v0), (1, .inl v1)] [] σ 0 0 (PI K) := by
  refine gw_aload_n (q := 0) dX12_make_79 rfl rfl ?_
  refine gw_aload_n (q := 0) dX12_make_80 rfl rfl ?_
  obtain ⟨g1, h⟩ := h
  refine gw_gI fX12_226 dX12_make_81 g1 ?_
  refine gw_pI fX12_279 dX12_make_84 g1 (fun σ2 e2 => ?_)
  replace h := h σ2 e2
  refine gw_aload_n (q := 0) dX12_make_87 rfl rfl ?_
  refine gw_aload_n (q := 0) dX12_make_88 rfl rfl ?_
  refine gw_gI fX12_229 dX12_make_89 (g1.up (n_w1 e2)) ?_
  refine gw_pI fX12_63 dX12_make_92 (g1.up (n_w1 e2)) (fun σ3 e3 => ?_)
  replace h := h σ3 e3
  refine gw_aload_n (q := 0) dX12_make_95 rfl rfl ?_
  refine gw_gI fX12_226 dX12_make_96 ((g1.up (n_w1 e2)).up (n_w1 e3)) ?_
  refine gw_if_eq (tgt := 104) dX12_make_99 (by decide) (fun c4 => ?_) (fun c4 => ?_)
  · replace h := h.1 c4
    refine gw_aload_n (q := 0) dX12_make_104 rfl rfl ?_
    refine gw_gI fX12_254 dX12_make_105 ((g1.up (n_w1 e2)).up (n_w1 e3)) ?_
    refine gw_aload_n (q := 0) dX12_make_108 rfl rfl ?_
    refine gw_gI fX12_152 dX12_make_109 ((g1.up (n_w1 e2)).up (n_w1 e3)) ?_
    refine gw_isub dX12_make_112 ?_
    refine gw_istore_n (lo' := [(0, .inr v0), (1, .inl v1), (2, .inl ((σ3.2.1 v0 21) - (σ3.2.1 v0 16)))]) dX12_make_113 rfl (by decide) rfl ?_
    refine gw_aload_n (q := 0) dX12_make_114 rfl rfl ?_
    refine gw_aload_n (q := 0) dX12_make_115 rfl rfl ?_
    refine gw_gI fX12_254 dX12_make_116 ((g1.up (n_w1 e2)).up (n_w1 e3)) ?_
    refine gw_pI fX12_152 dX12_make_119 ((g1.up (n_w1 e2)).up (n_w1 e3)) (fun σ5 e5 => ?_)
    replace h := h σ5 e5
    refine gw_iload_n (q := 2) dX12_make_122 rfl rfl ?_
    exact gw_rI dX12_make_123 rfl (by decide) (by decide) h
  · replace h := h.2 c4
    refine gw_iconst (v := (-1)) dX12_make_102 ic_m1 ?_
    exact gw_rI dX12_make_103 rfl (by decide) (by decide) h
set_option maxHeartbeats 4000000 in
set_option maxRecDepth 20000 in
theorem gX12_make_57 {l : Launch} {v0 : Nat} {v1 : Int32} {σ : Sg} {K : Int32 → Sg → Prop} (h : Ob σ v0 12 ∧ ((¬ (σ.2.1 v0 27) = 0 → GW l mX12_make 79 [(0, .inr v0), (1, .inl v1)] [] σ 0 0 (PI K)) ∧ ((σ.2.1 v0 27) = 0 → (((σ.2.1 v0 25) = 3 → GW l mX12_make 79 [(0, .inr v0), (1, .inl v1)] [] σ 0 0 (PI K)) ∧ (¬ (σ.2.1 v0 25) = 3 → Con l mX12_line [.inr v0] σ (PV (fun σ4 => GW l mX12_make 57 [(0, .inr v0), (1, .inl v1)] [] σ4 0 0 (PI K)))))))) : GW l mX12_make 57 [(0, .inr v0), (1, .inl v1)] [] σ 0 0 (PI K) := by
  refine gw_aload_n (q := 0) dX12_make_57 rfl rfl ?_
  obtain ⟨g1, h⟩ := h
  refine gw_gI fX12_226 dX12_make_58 g1 ?_
  refine gw_if_ne (tgt := 79) dX12_make_61 (by decide) (fun c2 => ?_) (fun c2 => ?_)
  · replace h := h.1 c2
    exact h
  · replace h := h.2 c2
    refine gw_aload_n (q := 0) dX12_make_64 rfl rfl ?_
    refine gw_gI fX12_201 dX12_make_65 g1 ?_
    refine gw_iconst (v := 3) dX12_make_68 ic_3 ?_
    refine gw_icmp_eq (tgt := 79) dX12_make_69 (by decide) (fun c3 => ?_) (fun c3 => ?_)
    · replace h := h.1 c3
      exact h
    · replace h := h.2 c3
      refine gw_aload_n (q := 0) dX12_make_72 rfl rfl ?_
      refine gw_vC (bs := []) (st := []) (vmX12_line) lX12_276 dX12_make_73 ⟨by decide, rfl, rfl, by decide, by decide⟩ (Nat.le_of_ble_eq_true rfl) rfl rfl g1 h (kV (fun σ4 h n4 => ?_))
      refine gw_goto (tgt := 57) dX12_make_76 (by decide) ?_
      exact h
set_option maxHeartbeats 4000000 in
set_option maxRecDepth 20000 in
theorem eX12_make {l : Launch} {v0 : Nat} {v1 : Int32} {σ : Sg} {K : Int32 → Sg → Prop} (h : Ob σ v0 12 ∧ ∀ σ2, σ2 = w1 σ v0 0 0 → ((v1 < 0 → K (-2) σ2) ∧ (¬ v1 < 0 → ((v1 ≤ (σ2.2.1 v0 2) → ∀ σ5, σ5 = w1 σ2 v0 22 v1 → ∀ σ6, σ6 = w1 σ5 v0 2 0 → ∀ σ7, σ7 = w1 σ6 v0 23 0 → ∀ σ8, σ8 = w1 σ7 v0 27 0 → ∀ σ9, σ9 = w1 σ8 v0 28 (-1) → ∀ σ10, σ10 = w1 σ9 v0 21 (σ9.2.1 v0 16) → Con l mX12_next [.inr v0] σ10 (PV (fun σ11 => GW l mX12_make 57 [(0, .inr v0), (1, .inl v1)] [] σ11 0 0 (PI K)))) ∧ (¬ v1 ≤ (σ2.2.1 v0 2) → K (-2) σ2))))) : Con l mX12_make [.inr v0, .inl v1] σ (PI K) := by
  refine con_gw rfl (Nat.le_of_ble_eq_true rfl) ?_
  show GW l mX12_make 0 [(0, .inr v0), (1, .inl v1)] [] σ 0 0 (PI K)
  refine gw_aload_n (q := 0) dX12_make_0 rfl rfl ?_
  refine gw_iconst (v := 0) dX12_make_1 ic_0 ?_
  obtain ⟨g1, h⟩ := h
  refine gw_pI fX12_135 dX12_make_2 g1 (fun σ2 e2 => ?_)
  replace h := h σ2 e2
  refine gw_iload_n (q := 1) dX12_make_5 rfl rfl ?_
  refine gw_if_lt (tgt := 17) dX12_make_6 (by decide) (fun c3 => ?_) (fun c3 => ?_)
  · replace h := h.1 c3
    refine gw_bipush (v := (-2)) dX12_make_17 bp_m2 ?_
    exact gw_rI dX12_make_19 rfl (by decide) (by decide) h
  · replace h := h.2 c3
    refine gw_iload_n (q := 1) dX12_make_9 rfl rfl ?_
    refine gw_aload_n (q := 0) dX12_make_10 rfl rfl ?_
    refine gw_gI fX12_138 dX12_make_11 (g1.up (n_w1 e2)) ?_
    refine gw_icmp_le (tgt := 20) dX12_make_14 (by decide) (fun c4 => ?_) (fun c4 => ?_)
    · replace h := h.1 c4
      refine gw_aload_n (q := 0) dX12_make_20 rfl rfl ?_
      refine gw_iload_n (q := 1) dX12_make_21 rfl rfl ?_
      refine gw_pI fX12_191 dX12_make_22 (g1.up (n_w1 e2)) (fun σ5 e5 => ?_)
      replace h := h σ5 e5
      refine gw_aload_n (q := 0) dX12_make_25 rfl rfl ?_
      refine gw_iconst (v := 0) dX12_make_26 ic_0 ?_
      refine gw_pI fX12_138 dX12_make_27 ((g1.up (n_w1 e2)).up (n_w1 e5)) (fun σ6 e6 => ?_)
      replace h := h σ6 e6
      refine gw_aload_n (q := 0) dX12_make_30 rfl rfl ?_
      refine gw_iconst (v := 0) dX12_make_31 ic_0 ?_
      refine gw_pI fX12_188 dX12_make_32 (((g1.up (n_w1 e2)).up (n_w1 e5)).up (n_w1 e6)) (fun σ7 e7 => ?_)
      replace h := h σ7 e7
      refine gw_aload_n (q := 0) dX12_make_35 rfl rfl ?_
      refine gw_iconst (v := 0) dX12_make_36 ic_0 ?_
      refine gw_pI fX12_226 dX12_make_37 ((((g1.up (n_w1 e2)).up (n_w1 e5)).up (n_w1 e6)).up (n_w1 e7)) (fun σ8 e8 => ?_)
      replace h := h σ8 e8
      refine gw_aload_n (q := 0) dX12_make_40 rfl rfl ?_
      refine gw_iconst (v := (-1)) dX12_make_41 ic_m1 ?_
      refine gw_pI fX12_229 dX12_make_42 (((((g1.up (n_w1 e2)).up (n_w1 e5)).up (n_w1 e6)).up (n_w1 e7)).up (n_w1 e8)) (fun σ9 e9 => ?_)
      replace h := h σ9 e9
      refine gw_aload_n (q := 0) dX12_make_45 rfl rfl ?_
      refine gw_aload_n (q := 0) dX12_make_46 rfl rfl ?_
      refine gw_gI fX12_152 dX12_make_47 ((((((g1.up (n_w1 e2)).up (n_w1 e5)).up (n_w1 e6)).up (n_w1 e7)).up (n_w1 e8)).up (n_w1 e9)) ?_
      refine gw_pI fX12_254 dX12_make_50 ((((((g1.up (n_w1 e2)).up (n_w1 e5)).up (n_w1 e6)).up (n_w1 e7)).up (n_w1 e8)).up (n_w1 e9)) (fun σ10 e10 => ?_)
      replace h := h σ10 e10
      refine gw_aload_n (q := 0) dX12_make_53 rfl rfl ?_
      refine gw_vC (bs := []) (st := []) (vmX12_next) lX12_239 dX12_make_54 ⟨by decide, rfl, rfl, by decide, by decide⟩ (Nat.le_of_ble_eq_true rfl) rfl rfl (((((((g1.up (n_w1 e2)).up (n_w1 e5)).up (n_w1 e6)).up (n_w1 e7)).up (n_w1 e8)).up (n_w1 e9)).up (n_w1 e10)) h (kV (fun σ11 h n11 => ?_))
      exact h
    · replace h := h.2 c4
      refine gw_bipush (v := (-2)) dX12_make_17 bp_m2 ?_
      exact gw_rI dX12_make_19 rfl (by decide) (by decide) h
set_option maxHeartbeats 4000000 in
set_option maxRecDepth 20000 in
theorem eX12_fault {l : Launch} {v0 : Nat} {v1 : Int32} {σ : Sg} {K : Int32 → Sg → Prop} (h : Ob σ v0 12 ∧ ∀ σ2, σ2 = w1 σ v0 0 0 → ((¬ v1 = 0 → ((¬ v1 = 1 → K (-1) σ2) ∧ (v1 = 1 → K (σ2.2.1 v0 30) σ2))) ∧ (v1 = 0 → K (σ2.2.1 v0 29) σ2))) : Con l mX12_fault [.inr v0, .inl v1] σ (PI K) := by
  refine con_gw rfl (Nat.le_of_ble_eq_true rfl) ?_
  show GW l mX12_fault 0 [(0, .inr v0), (1, .inl v1)] [] σ 0 0 (PI K)
  refine gw_aload_n (q := 0) dX12_fault_0 rfl rfl ?_
  refine gw_iconst (v := 0) dX12_fault_1 ic_0 ?_
  obtain ⟨g1, h⟩ := h
  refine gw_pI fX12_135 dX12_fault_2 g1 (fun σ2 e2 => ?_)
  replace h := h σ2 e2
  refine gw_iload_n (q := 1) dX12_fault_5 rfl rfl ?_
  refine gw_if_ne (tgt := 16) dX12_fault_6 (by decide) (fun c3 => ?_) (fun c3 => ?_)
  · replace h := h.1 c3
    refine gw_iload_n (q := 1) dX12_fault_16 rfl rfl ?_
    refine gw_iconst (v := 1) dX12_fault_17 ic_1 ?_
    refine gw_icmp_ne (tgt := 28) dX12_fault_18 (by decide) (fun c4 => ?_) (fun c4 => ?_)
    · replace h := h.1 c4
      refine gw_iconst (v := (-1)) dX12_fault_28 ic_m1 ?_
      exact gw_rI dX12_fault_29 rfl (by decide) (by decide) h
    · replace h := h.2 c4
      refine gw_aload_n (q := 0) dX12_fault_21 rfl rfl ?_
      refine gw_gI fX12_63 dX12_fault_22 (g1.up (n_w1 e2)) ?_
      refine gw_goto (tgt := 29) dX12_fault_25 (by decide) ?_
      exact gw_rI dX12_fault_29 rfl (by decide) (by decide) h
  · replace h := h.2 c3
    refine gw_aload_n (q := 0) dX12_fault_9 rfl rfl ?_
    refine gw_gI fX12_279 dX12_fault_10 (g1.up (n_w1 e2)) ?_
    refine gw_goto (tgt := 29) dX12_fault_13 (by decide) ?_
    exact gw_rI dX12_fault_29 rfl (by decide) (by decide) h
set_option maxHeartbeats 4000000 in
set_option maxRecDepth 20000 in
theorem eX12_isDrift {l : Launch} {v0 : Int32} {σ : Sg} {K : Int32 → Sg → Prop} (h : Con l mX12_in [.inl v0, .inl (-2000), .inl 2000] σ (PI (fun x1 σ1 => (x1 = 0 ∨ x1 = 1) ∧ K x1 σ1))) : Con l mX12_isDrift [.inl v0] σ (PI K) := by
  refine con_gw rfl (Nat.le_of_ble_eq_true rfl) ?_
  show GW l mX12_isDrift 0 [(0, .inl v0)] [] σ 0 0 (PI K)
  refine gw_iload_n (q := 0) dX12_isDrift_0 rfl rfl ?_
  refine gw_sipush (v := (-2000)) dX12_isDrift_1 sp_m2000 ?_
  refine gw_sipush (v := 2000) dX12_isDrift_4 sp_2000 ?_
  refine gw_sC (bs := [.inl v0, .inl (-2000), .inl 2000]) (st := []) smX12_in lX12_144 dX12_isDrift_7 ⟨by decide, rfl, rfl, by decide, by decide⟩ (Nat.le_of_ble_eq_true rfl) rfl rfl h (kI (fun x1 σ1 h n1 => ?_))
  obtain ⟨z2, h⟩ := h
  exact gw_rZ dX12_isDrift_10 rfl z2 (by decide) (by decide) h
set_option maxHeartbeats 4000000 in
set_option maxRecDepth 20000 in
theorem eX12_isOffset {l : Launch} {v0 : Int32} {σ : Sg} {K : Int32 → Sg → Prop} (h : Con l mX12_in [.inl v0, .inl (-20000), .inl 20000] σ (PI (fun x1 σ1 => (x1 = 0 ∨ x1 = 1) ∧ K x1 σ1))) : Con l mX12_isOffset [.inl v0] σ (PI K) := by
  refine con_gw rfl (Nat.le_of_ble_eq_true rfl) ?_
  show GW l mX12_isOffset 0 [(0, .inl v0)] [] σ 0 0 (PI K)
  refine gw_iload_n (q := 0) dX12_isOffset_0 rfl rfl ?_
  refine gw_sipush (v := (-20000)) dX12_isOffset_1 sp_m20000 ?_
  refine gw_sipush (v := 20000) dX12_isOffset_4 sp_20000 ?_
  refine gw_sC (bs := [.inl v0, .inl (-20000), .inl 20000]) (st := []) smX12_in lX12_144 dX12_isOffset_7 ⟨by decide, rfl, rfl, by decide, by decide⟩ (Nat.le_of_ble_eq_true rfl) rfl rfl h (kI (fun x1 σ1 h n1 => ?_))
  obtain ⟨z2, h⟩ := h
  exact gw_rZ dX12_isOffset_10 rfl z2 (by decide) (by decide) h
set_option maxHeartbeats 4000000 in
set_option maxRecDepth 20000 in
theorem eX12_spotOf {l : Launch} {v0 : Nat} {v1 : Int32} {v2 : Int32} {v3 : Int32} {v4 : Int32} {v5 : Int32} {σ : Sg} {K : Int32 → Sg → Prop} (h : Ob σ v0 12 ∧ Con l mX12_tip [.inr v0, .inl v1, .inl v2, .inl 1] σ (PI (fun x1 σ1 => Con l mJ9_floorDiv_7cf53 [.inl ((x1 - v5) - (v4 * v3)), .inl 1000] σ1 (PI (fun x3 σ3 => Con l mX12_tip [.inr v0, .inl v1, .inl v2, .inl 0] σ3 (PI (fun x4 σ4 => Con l mJ9_floorDiv_7cf53 [.inl x4, .inl 1000] σ4 (PI (fun x5 σ5 => Con l mX12_in [.inl x3, .inl 0, .inl 15] σ5 (PI (fun x6 σ6 => ((x6 = 0 → K (-1) σ6) ∧ (¬ x6 = 0 → Con l mX12_in [.inl x5, .inl 0, .inl 15] σ6 (PI (fun x8 σ8 => ((x8 = 0 → K (-1) σ8) ∧ (¬ x8 = 0 → K ((16 * x5) + x3) σ8))))))))))))))))) : Con l mX12_spotOf [.inr v0, .inl v1, .inl v2, .inl v3, .inl v4, .inl v5] σ (PI K) := by
  refine con_gw rfl (Nat.le_of_ble_eq_true rfl) ?_
  show GW l mX12_spotOf 0 [(0, .inr v0), (1, .inl v1), (2, .inl v2), (3, .inl v3), (4, .inl v4), (5, .inl v5)] [] σ 0 0 (PI K)
  refine gw_aload_n (q := 0) dX12_spotOf_0 rfl rfl ?_
  refine gw_iload_n (q := 1) dX12_spotOf_1 rfl rfl ?_
  refine gw_iload_n (q := 2) dX12_spotOf_2 rfl rfl ?_
  refine gw_iconst (v := 1) dX12_spotOf_3 ic_1 ?_
  obtain ⟨g2, h⟩ := h
  refine gw_vC (bs := [.inl v1, .inl v2, .inl 1]) (st := []) (vmX12_tip) lX12_184 dX12_spotOf_4 ⟨by decide, rfl, rfl, by decide, by decide⟩ (Nat.le_of_ble_eq_true rfl) rfl rfl g2 h (kI (fun x1 σ1 h n1 => ?_))
  refine gw_iload (q := 5) dX12_spotOf_7 rfl ?_
  refine gw_isub dX12_spotOf_9 ?_
  refine gw_iload (q := 4) dX12_spotOf_10 rfl ?_
  refine gw_iload_n (q := 3) dX12_spotOf_12 rfl rfl ?_
  refine gw_imul dX12_spotOf_13 ?_
  refine gw_isub dX12_spotOf_14 ?_
  refine gw_sipush (v := 1000) dX12_spotOf_15 sp_1000 ?_
  refine gw_sC (bs := [.inl ((x1 - v5) - (v4 * v3)), .inl 1000]) (st := []) smJ9_floorDiv_7cf53 lX12_282 dX12_spotOf_18 ⟨by decide, rfl, rfl, by decide, by decide⟩ (Nat.le_of_ble_eq_true rfl) rfl rfl h (kI (fun x3 σ3 h n3 => ?_))
  refine gw_istore (lo' := [(0, .inr v0), (1, .inl v1), (2, .inl v2), (3, .inl v3), (4, .inl v4), (5, .inl v5), (6, .inl x3)]) dX12_spotOf_21 (by decide) rfl ?_
  refine gw_aload_n (q := 0) dX12_spotOf_23 rfl rfl ?_
  refine gw_iload_n (q := 1) dX12_spotOf_24 rfl rfl ?_
  refine gw_iload_n (q := 2) dX12_spotOf_25 rfl rfl ?_
  refine gw_iconst (v := 0) dX12_spotOf_26 ic_0 ?_
  refine gw_vC (bs := [.inl v1, .inl v2, .inl 0]) (st := []) (vmX12_tip) lX12_184 dX12_spotOf_27 ⟨by decide, rfl, rfl, by decide, by decide⟩ (Nat.le_of_ble_eq_true rfl) rfl rfl ((g2.up n1).up n3) h (kI (fun x4 σ4 h n4 => ?_))
  refine gw_sipush (v := 1000) dX12_spotOf_30 sp_1000 ?_
  refine gw_sC (bs := [.inl x4, .inl 1000]) (st := []) smJ9_floorDiv_7cf53 lX12_282 dX12_spotOf_33 ⟨by decide, rfl, rfl, by decide, by decide⟩ (Nat.le_of_ble_eq_true rfl) rfl rfl h (kI (fun x5 σ5 h n5 => ?_))
  refine gw_istore (lo' := [(0, .inr v0), (1, .inl v1), (2, .inl v2), (3, .inl v3), (4, .inl v4), (5, .inl v5), (6, .inl x3), (7, .inl x5)]) dX12_spotOf_36 (by decide) rfl ?_
  refine gw_iload (q := 6) dX12_spotOf_38 rfl ?_
  refine gw_iconst (v := 0) dX12_spotOf_40 ic_0 ?_
  refine gw_bipush (v := 15) dX12_spotOf_41 bp_15 ?_
  refine gw_sC (bs := [.inl x3, .inl 0, .inl 15]) (st := []) smX12_in lX12_144 dX12_spotOf_43 ⟨by decide, rfl, rfl, by decide, by decide⟩ (Nat.le_of_ble_eq_true rfl) rfl rfl h (kI (fun x6 σ6 h n6 => ?_))
  refine gw_if_eq (tgt := 71) dX12_spotOf_46 (by decide) (fun c7 => ?_) (fun c7 => ?_)
  · replace h := h.1 c7
    refine gw_iconst (v := (-1)) dX12_spotOf_71 ic_m1 ?_
    exact gw_rI dX12_spotOf_72 rfl (by decide) (by decide) h
  · replace h := h.2 c7
    refine gw_iload (q := 7) dX12_spotOf_49 rfl ?_
    refine gw_iconst (v := 0) dX12_spotOf_51 ic_0 ?_
    refine gw_bipush (v := 15) dX12_spotOf_52 bp_15 ?_
    refine gw_sC (bs := [.inl x5, .inl 0, .inl 15]) (st := []) smX12_in lX12_144 dX12_spotOf_54 ⟨by decide, rfl, rfl, by decide, by decide⟩ (Nat.le_of_ble_eq_true rfl) rfl rfl h (kI (fun x8 σ8 h n8 => ?_))
    refine gw_if_eq (tgt := 71) dX12_spotOf_57 (by decide) (fun c9 => ?_) (fun c9 => ?_)
    · replace h := h.1 c9
      refine gw_iconst (v := (-1)) dX12_spotOf_71 ic_m1 ?_
      exact gw_rI dX12_spotOf_72 rfl (by decide) (by decide) h
    · replace h := h.2 c9
      refine gw_bipush (v := 16) dX12_spotOf_60 bp_16 ?_
      refine gw_iload (q := 7) dX12_spotOf_62 rfl ?_
      refine gw_imul dX12_spotOf_64 ?_
      refine gw_iload (q := 6) dX12_spotOf_65 rfl ?_
      refine gw_iadd dX12_spotOf_67 ?_
      refine gw_goto (tgt := 72) dX12_spotOf_68 (by decide) ?_
      exact gw_rI dX12_spotOf_72 rfl (by decide) (by decide) h
set_option maxHeartbeats 4000000 in
set_option maxRecDepth 20000 in
theorem gX12_worn_141 {l : Launch} {v0 : Nat} {v1 : Int32} {v2 : Int32} {v3 : Int32} {v4 : Int32} {v5 : Int32} {v6 : Int32} {v7 : Int32} {v8 : Int32} {σ : Sg} {K : Int32 → Sg → Prop} (h : K ((v7 &&& ((15 <<< ((4 * v4) &&& 31)) ^^^ (-1))) ||| (v8 <<< ((4 * v4) &&& 31))) σ) : GW l mX12_worn 141 [(0, .inr v0), (1, .inl v1), (2, .inl v2), (3, .inl v3), (4, .inl v4), (5, .inl v5), (6, .inl v6), (7, .inl v7), (8, .inl v8)] [] σ 0 0 (PI K) := by
  refine gw_iload (q := 7) dX12_worn_141 rfl ?_
  refine gw_bipush (v := 15) dX12_worn_143 bp_15 ?_
  refine gw_iconst (v := 4) dX12_worn_145 ic_4 ?_
  refine gw_iload (q := 4) dX12_worn_146 rfl ?_
  refine gw_imul dX12_worn_148 ?_
  refine gw_ishl dX12_worn_149 ?_
  refine gw_iconst (v := (-1)) dX12_worn_150 ic_m1 ?_
  refine gw_ixor dX12_worn_151 ?_
  refine gw_iand dX12_worn_152 ?_
  refine gw_iload (q := 8) dX12_worn_153 rfl ?_
  refine gw_iconst (v := 4) dX12_worn_155 ic_4 ?_
  refine gw_iload (q := 4) dX12_worn_156 rfl ?_
  refine gw_imul dX12_worn_158 ?_
  refine gw_ishl dX12_worn_159 ?_
  refine gw_ior dX12_worn_160 ?_
  exact gw_rI dX12_worn_161 rfl (by decide) (by decide) h
set_option maxHeartbeats 4000000 in
set_option maxRecDepth 20000 in
theorem gX12_worn_93 {l : Launch} {v0 : Nat} {v1 : Int32} {v2 : Int32} {v3 : Int32} {v4 : Int32} {v5 : Int32} {v6 : Int32} {v7 : Int32} {v8 : Int32} {v9 : Int32} {σ : Sg} {K : Int32 → Sg → Prop} (h : ((v2 < v9 → GW l mX12_worn 141 [(0, .inr v0), (1, .inl v1), (2, .inl v2), (3, .inl v3), (4, .inl v4), (5, .inl v5), (6, .inl v6), (7, .inl v7), (8, .inl v8)] [] σ 0 0 (PI K)) ∧ (¬ v2 < v9 → Ob σ v0 12 ∧ Ai σ (σ.2.2 v0 19) ((40 * v1) + v9) ∧ Con l mX12_placeOf [.inl (σ.2.1 (σ.2.2 v0 19) ((40 * v1) + v9).toNatClampNeg), .inl v4] σ (PI (fun x4 σ4 => Con l mJ9_min_7cf53 [.inl x4, .inl v8] σ4 (PI (fun x5 σ5 => Con l mJ9_max_7cf53 [.inl (x4 - v5), .inl x5] σ5 (PI (fun x6 σ6 => GW l mX12_worn 93 [(0, .inr v0), (1, .inl v1), (2, .inl v2), (3, .inl v3), (4, .inl v4), (5, .inl v5), (6, .inl v6), (7, .inl v7), (8, .inl x6), (9, .inl (v9 + 1))] [] σ6 0 0 (PI K)))))))))) : GW l mX12_worn 93 [(0, .inr v0), (1, .inl v1), (2, .inl v2), (3, .inl v3), (4, .inl v4), (5, .inl v5), (6, .inl v6), (7, .inl v7), (8, .inl v8), (9, .inl v9)] [] σ 0 0 (PI K) := by
  refine gw_iload (q := 9) dX12_worn_93 rfl ?_
  refine gw_iload_n (q := 2) dX12_worn_95 rfl rfl ?_
  refine gw_icmp_gt (tgt := 141) dX12_worn_96 (by decide) (fun c1 => ?_) (fun c1 => ?_)
  · replace h := h.1 c1
    refine gw_pick [0, 1, 2, 3, 4, 5, 6, 7, 8] rfl ?_
    exact h
  · replace h := h.2 c1
    refine gw_aload_n (q := 0) dX12_worn_99 rfl rfl ?_
    obtain ⟨g2, h⟩ := h
    refine gw_gR fX12_57 dX12_worn_100 g2 ?_
    refine gw_bipush (v := 40) dX12_worn_103 bp_40 ?_
    refine gw_iload_n (q := 1) dX12_worn_105 rfl rfl ?_
    refine gw_imul dX12_worn_106 ?_
    refine gw_iload (q := 9) dX12_worn_107 rfl ?_
    refine gw_iadd dX12_worn_109 ?_
    obtain ⟨g3, h⟩ := h
    refine gw_aI dX12_worn_110 g3 ?_
    refine gw_iload (q := 4) dX12_worn_111 rfl ?_
    refine gw_sC (bs := [.inl (σ.2.1 (σ.2.2 v0 19) ((40 * v1) + v9).toNatClampNeg), .inl v4]) (st := []) smX12_placeOf lX12_155 dX12_worn_113 ⟨by decide, rfl, rfl, by decide, by decide⟩ (Nat.le_of_ble_eq_true rfl) rfl rfl h (kI (fun x4 σ4 h n4 => ?_))
    refine gw_istore (lo' := [(0, .inr v0), (1, .inl v1), (2, .inl v2), (3, .inl v3), (4, .inl v4), (5, .inl v5), (6, .inl v6), (7, .inl v7), (8, .inl v8), (9, .inl v9), (10, .inl x4)]) dX12_worn_116 (by decide) rfl ?_
    refine gw_iload (q := 10) dX12_worn_118 rfl ?_
    refine gw_iload (q := 5) dX12_worn_120 rfl ?_
    refine gw_isub dX12_worn_122 ?_
    refine gw_iload (q := 10) dX12_worn_123 rfl ?_
    refine gw_iload (q := 8) dX12_worn_125 rfl ?_
    refine gw_sC (bs := [.inl x4, .inl v8]) (st := [.inl (x4 - v5)]) smJ9_min_7cf53 lX12_269 dX12_worn_127 ⟨by decide, rfl, rfl, by decide, by decide⟩ (Nat.le_of_ble_eq_true rfl) rfl rfl h (kI (fun x5 σ5 h n5 => ?_))
    refine gw_sC (bs := [.inl (x4 - v5), .inl x5]) (st := []) smJ9_max_7cf53 lX12_174 dX12_worn_130 ⟨by decide, rfl, rfl, by decide, by decide⟩ (Nat.le_of_ble_eq_true rfl) rfl rfl h (kI (fun x6 σ6 h n6 => ?_))
    refine gw_istore (lo' := [(0, .inr v0), (1, .inl v1), (2, .inl v2), (3, .inl v3), (4, .inl v4), (5, .inl v5), (6, .inl v6), (7, .inl v7), (8, .inl x6), (9, .inl v9), (10, .inl x4)]) dX12_worn_133 (by decide) rfl ?_
    refine gw_inc (lo' := [(0, .inr v0), (1, .inl v1), (2, .inl v2), (3, .inl v3), (4, .inl v4), (5, .inl v5), (6, .inl v6), (7, .inl v7), (8, .inl x6), (9, .inl (v9 + 1)), (10, .inl x4)]) (q := 9) (c := 1) dX12_worn_135 ic_1 rfl (by decide) rfl ?_
    refine gw_goto (tgt := 93) dX12_worn_138 (by decide) ?_
    refine gw_pick [0, 1, 2, 3, 4, 5, 6, 7, 8, 9] rfl ?_
    exact h
set_option maxHeartbeats 4000000 in
set_option maxRecDepth 20000 in
theorem eX12_worn {l : Launch} {v0 : Nat} {v1 : Int32} {v2 : Int32} {v3 : Int32} {v4 : Int32} {v5 : Int32} {v6 : Int32} {σ : Sg} {K : Int32 → Sg → Prop} (h : Ob σ v0 12 ∧ Ai σ (σ.2.2 v0 19) ((40 * v1) + v2) ∧ ((v5 = 0 → K (σ.2.1 (σ.2.2 v0 19) ((40 * v1) + v2).toNatClampNeg) σ) ∧ (¬ v5 = 0 → ((v6 ≤ v2 → Con l mX12_placeOf [.inl (σ.2.1 (σ.2.2 v0 19) ((40 * v1) + v2).toNatClampNeg), .inl v4] σ (PI (fun x5 σ5 => ((¬ v3 = 0 → Ai σ5 (σ5.2.2 v0 19) ((40 * v1) + v6) ∧ Con l mX12_placeOf [.inl (σ5.2.1 (σ5.2.2 v0 19) ((40 * v1) + v6).toNatClampNeg), .inl v4] σ5 (PI (fun x8 σ8 => GW l mX12_worn 93 [(0, .inr v0), (1, .inl v1), (2, .inl v2), (3, .inl v3), (4, .inl v4), (5, .inl v5), (6, .inl v6), (7, .inl (σ.2.1 (σ.2.2 v0 19) ((40 * v1) + v2).toNatClampNeg)), (8, .inl x8), (9, .inl (v6 + 1))] [] σ8 0 0 (PI K)))) ∧ (v3 = 0 → Con l mJ9_max_7cf53 [.inl 0, .inl (v2 - v5)] σ5 (PI (fun x9 σ9 => Ai σ9 (σ5.2.2 v0 19) ((40 * v1) + x9) ∧ Con l mX12_placeOf [.inl (σ9.2.1 (σ5.2.2 v0 19) ((40 * v1) + x9).toNatClampNeg), .inl v4] σ9 (PI (fun x11 σ11 => GW l mX12_worn 141 [(0, .inr v0), (1, .inl v1), (2, .inl v2), (3, .inl v3), (4, .inl v4), (5, .inl v5), (6, .inl v6), (7, .inl (σ.2.1 (σ.2.2 v0 19) ((40 * v1) + v2).toNatClampNeg)), (8, .inl x11)] [] σ11 0 0 (PI K)))))))))) ∧ (¬ v6 ≤ v2 → K (σ.2.1 (σ.2.2 v0 19) ((40 * v1) + v2).toNatClampNeg) σ))))) : Con l mX12_worn [.inr v0, .inl v1, .inl v2, .inl v3, .inl v4, .inl v5, .inl v6] σ (PI K) := by
  refine con_gw rfl (Nat.le_of_ble_eq_true rfl) ?_
  show GW l mX12_worn 0 [(0, .inr v0), (1, .inl v1), (2, .inl v2), (3, .inl v3), (4, .inl v4), (5, .inl v5), (6, .inl v6)] [] σ 0 0 (PI K)
  refine gw_aload_n (q := 0) dX12_worn_0 rfl rfl ?_
  obtain ⟨g1, h⟩ := h
  refine gw_gR fX12_57 dX12_worn_1 g1 ?_
  refine gw_bipush (v := 40) dX12_worn_4 bp_40 ?_
  refine gw_iload_n (q := 1) dX12_worn_6 rfl rfl ?_
  refine gw_imul dX12_worn_7 ?_
  refine gw_iload_n (q := 2) dX12_worn_8 rfl rfl ?_
  refine gw_iadd dX12_worn_9 ?_
  obtain ⟨g2, h⟩ := h
  refine gw_aI dX12_worn_10 g2 ?_
  refine gw_istore (lo' := [(0, .inr v0), (1, .inl v1), (2, .inl v2), (3, .inl v3), (4, .inl v4), (5, .inl v5), (6, .inl v6), (7, .inl (σ.2.1 (σ.2.2 v0 19) ((40 * v1) + v2).toNatClampNeg))]) dX12_worn_11 (by decide) rfl ?_
  refine gw_iload (q := 5) dX12_worn_13 rfl ?_
  refine gw_if_eq (tgt := 24) dX12_worn_15 (by decide) (fun c3 => ?_) (fun c3 => ?_)
  · replace h := h.1 c3
    refine gw_iload (q := 7) dX12_worn_24 rfl ?_
    exact gw_rI dX12_worn_26 rfl (by decide) (by decide) h
  · replace h := h.2 c3
    refine gw_iload_n (q := 2) dX12_worn_18 rfl rfl ?_
    refine gw_iload (q := 6) dX12_worn_19 rfl ?_
    refine gw_icmp_ge (tgt := 27) dX12_worn_21 (by decide) (fun c4 => ?_) (fun c4 => ?_)
    · replace h := h.1 c4
      refine gw_iload (q := 7) dX12_worn_27 rfl ?_
      refine gw_iload (q := 4) dX12_worn_29 rfl ?_
      refine gw_sC (bs := [.inl (σ.2.1 (σ.2.2 v0 19) ((40 * v1) + v2).toNatClampNeg), .inl v4]) (st := []) smX12_placeOf lX12_155 dX12_worn_31 ⟨by decide, rfl, rfl, by decide, by decide⟩ (Nat.le_of_ble_eq_true rfl) rfl rfl h (kI (fun x5 σ5 h n5 => ?_))
      refine gw_istore (lo' := [(0, .inr v0), (1, .inl v1), (2, .inl v2), (3, .inl v3), (4, .inl v4), (5, .inl v5), (6, .inl v6), (7, .inl (σ.2.1 (σ.2.2 v0 19) ((40 * v1) + v2).toNatClampNeg)), (8, .inl x5)]) dX12_worn_34 (by decide) rfl ?_
      refine gw_iload_n (q := 3) dX12_worn_36 rfl rfl ?_
      refine gw_if_ne (tgt := 68) dX12_worn_37 (by decide) (fun c6 => ?_) (fun c6 => ?_)
      · replace h := h.1 c6
        refine gw_aload_n (q := 0) dX12_worn_68 rfl rfl ?_
        refine gw_gR fX12_57 dX12_worn_69 (g1.up n5) ?_
        refine gw_bipush (v := 40) dX12_worn_72 bp_40 ?_
        refine gw_iload_n (q := 1) dX12_worn_74 rfl rfl ?_
        refine gw_imul dX12_worn_75 ?_
        refine gw_iload (q := 6) dX12_worn_76 rfl ?_
        refine gw_iadd dX12_worn_78 ?_
        obtain ⟨g7, h⟩ := h
        refine gw_aI dX12_worn_79 g7 ?_
        refine gw_iload (q := 4) dX12_worn_80 rfl ?_
        refine gw_sC (bs := [.inl (σ5.2.1 (σ5.2.2 v0 19) ((40 * v1) + v6).toNatClampNeg), .inl v4]) (st := []) smX12_placeOf lX12_155 dX12_worn_82 ⟨by decide, rfl, rfl, by decide, by decide⟩ (Nat.le_of_ble_eq_true rfl) rfl rfl h (kI (fun x8 σ8 h n8 => ?_))
        refine gw_istore (lo' := [(0, .inr v0), (1, .inl v1), (2, .inl v2), (3, .inl v3), (4, .inl v4), (5, .inl v5), (6, .inl v6), (7, .inl (σ.2.1 (σ.2.2 v0 19) ((40 * v1) + v2).toNatClampNeg)), (8, .inl x8)]) dX12_worn_85 (by decide) rfl ?_
        refine gw_iload (q := 6) dX12_worn_87 rfl ?_
        refine gw_iconst (v := 1) dX12_worn_89 ic_1 ?_
        refine gw_iadd dX12_worn_90 ?_
        refine gw_istore (lo' := [(0, .inr v0), (1, .inl v1), (2, .inl v2), (3, .inl v3), (4, .inl v4), (5, .inl v5), (6, .inl v6), (7, .inl (σ.2.1 (σ.2.2 v0 19) ((40 * v1) + v2).toNatClampNeg)), (8, .inl x8), (9, .inl (v6 + 1))]) dX12_worn_91 (by decide) rfl ?_
        exact h
      · replace h := h.2 c6
        refine gw_aload_n (q := 0) dX12_worn_40 rfl rfl ?_
        refine gw_gR fX12_57 dX12_worn_41 (g1.up n5) ?_
        refine gw_bipush (v := 40) dX12_worn_44 bp_40 ?_
        refine gw_iload_n (q := 1) dX12_worn_46 rfl rfl ?_
        refine gw_imul dX12_worn_47 ?_
        refine gw_iconst (v := 0) dX12_worn_48 ic_0 ?_
        refine gw_iload_n (q := 2) dX12_worn_49 rfl rfl ?_
        refine gw_iload (q := 5) dX12_worn_50 rfl ?_
        refine gw_isub dX12_worn_52 ?_
        refine gw_sC (bs := [.inl 0, .inl (v2 - v5)]) (st := [.inl (40 * v1), .inr (σ5.2.2 v0 19)]) smJ9_max_7cf53 lX12_174 dX12_worn_53 ⟨by decide, rfl, rfl, by decide, by decide⟩ (Nat.le_of_ble_eq_true rfl) rfl rfl h (kI (fun x9 σ9 h n9 => ?_))
        refine gw_iadd dX12_worn_56 ?_
        obtain ⟨g10, h⟩ := h
        refine gw_aI dX12_worn_57 g10 ?_
        refine gw_iload (q := 4) dX12_worn_58 rfl ?_
        refine gw_sC (bs := [.inl (σ9.2.1 (σ5.2.2 v0 19) ((40 * v1) + x9).toNatClampNeg), .inl v4]) (st := []) smX12_placeOf lX12_155 dX12_worn_60 ⟨by decide, rfl, rfl, by decide, by decide⟩ (Nat.le_of_ble_eq_true rfl) rfl rfl h (kI (fun x11 σ11 h n11 => ?_))
        refine gw_istore (lo' := [(0, .inr v0), (1, .inl v1), (2, .inl v2), (3, .inl v3), (4, .inl v4), (5, .inl v5), (6, .inl v6), (7, .inl (σ.2.1 (σ.2.2 v0 19) ((40 * v1) + v2).toNatClampNeg)), (8, .inl x11)]) dX12_worn_63 (by decide) rfl ?_
        refine gw_goto (tgt := 141) dX12_worn_65 (by decide) ?_
        exact h
    · replace h := h.2 c4
      refine gw_iload (q := 7) dX12_worn_24 rfl ?_
      exact gw_rI dX12_worn_26 rfl (by decide) (by decide) h
