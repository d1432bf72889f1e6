/-! look on the class's side -/
abbrev mX11_lookX : Mth := (yX11_look, cX11_look, 7, (some .int), 6, 1, 6)
section CLK
variable {l : Launch} {σ : Sg} {v : Vt} {c : Nat}
set_option maxHeartbeats 4000000 in
set_option maxRecDepth 20000 in
theorem wX11_look {v0 : Nat} {v1 v2 v3 : Int32} {K : Int32 → Sg → Prop} {Ψ : Nat → Sg → Prop}
    (h : Ob σ v0 11 ∧ Ob σ (σ.2.2 v0 0) 7 ∧ Con l mX7_tapeAt [.inr (σ.2.2 v0 0), .inl v1] σ (PR (fun x2 σ2 => Ob σ2 (σ2.2.2 v0 0) 7 ∧ Con l mX7_armOf [.inr (σ2.2.2 v0 0), .inr x2] σ2 (PR (fun x4 σ4 => (x2 = 0 → Ψ 46 σ4) ∧ (¬ x2 = 0 → (x4 = 0 → Ψ 46 σ4) ∧ (¬ x4 = 0 → Ob σ4 x2 9 ∧ Con l mX11_within [.inl v2, .inl 0, .inl (σ4.2.1 x2 3 - 1)] σ4 (PI (fun x8 σ8 => (x8 = 0 → Ψ 46 σ8) ∧ (¬ x8 = 0 → Con l mX11_within [.inl v3, .inl 0, .inl 3] σ8 (PI (fun x9 σ9 => (x9 = 0 → Ψ 65 σ9) ∧ (¬ x9 = 0 → (v3 = 1 → Ob σ9 x2 9 ∧ Con l mX9_sprayAt [.inr x2, .inl v2] σ9 (PI K)) ∧ (¬ v3 = 1 → Ob σ9 x2 9 ∧ Con l mX9_poseAt [.inr x2, .inl v2] σ9 (PI (fun xA σA => (v3 = 0 → K xA σA) ∧ (¬ v3 = 0 → (v3 = 2 → Ob σA x4 0 ∧ Con l mX0_tipX [.inr x4, .inl xA] σA (PI K)) ∧ (¬ v3 = 2 → Ob σA x4 0 ∧ Con l mX0_tipY [.inr x4, .inl xA] σA (PI K))))))))))))))))))) :
    XW (LkE l 7 Ψ) l mX11_lookX 0 [(0, .inr v0), (1, .inl v1), (2, .inl v2), (3, .inl v3)] [] σ 0 0 (PI K) := by
  refine xw_aload_n (q := 0) dX11_look_0 rfl rfl ?_
  obtain ⟨g1, h⟩ := h
  refine xw_gR fX11_20 dX11_look_1 g1 ?_
  refine xw_iload_n (q := 1) dX11_look_4 rfl rfl ?_
  obtain ⟨g3, h⟩ := h
  refine xw_vC (bs := [.inl v1]) (st := []) (vmX7_tapeAt) lX11_139 dX11_look_5 ⟨by decide, rfl, rfl, by decide, by decide⟩ (Nat.le_of_ble_eq_true rfl) rfl rfl g3 h (xkR (fun x2 σ2 h n2 => ?_))
  refine xw_astore (lo' := [(0, .inr v0), (1, .inl v1), (2, .inl v2), (3, .inl v3), (4, .inr x2)]) dX11_look_8 (by decide) rfl ?_
  refine xw_aload_n (q := 0) dX11_look_10 rfl rfl ?_
  refine xw_gR fX11_20 dX11_look_11 (g1.up n2) ?_
  refine xw_aload (q := 4) dX11_look_14 rfl ?_
  obtain ⟨g5, h⟩ := h
  refine xw_vC (bs := [.inr x2]) (st := []) (vmX7_armOf) lX11_143 dX11_look_16 ⟨by decide, rfl, rfl, by decide, by decide⟩ (Nat.le_of_ble_eq_true rfl) rfl rfl g5 h (xkR (fun x4 σ4 h n4 => ?_))
  refine xw_astore (lo' := [(0, .inr v0), (1, .inl v1), (2, .inl v2), (3, .inl v3), (4, .inr x2), (5, .inr x4)]) dX11_look_19 (by decide) rfl ?_
  refine xw_aload (q := 4) dX11_look_21 rfl ?_
  refine xw_ifnull (tgt := 46) dX11_look_23 (by decide) (fun c6 => ?_) (fun c6 => ?_)
  · exact xw_x (h.1 c6)
  replace h := h.2 c6
  refine xw_aload (q := 5) dX11_look_26 rfl ?_
  refine xw_ifnull (tgt := 46) dX11_look_28 (by decide) (fun c7 => ?_) (fun c7 => ?_)
  · exact xw_x (h.1 c7)
  obtain ⟨g8, h⟩ := h.2 c7
  refine xw_iload_n (q := 2) dX11_look_31 rfl rfl ?_
  refine xw_iconst (v := 0) dX11_look_32 ic_0 ?_
  refine xw_aload (q := 4) dX11_look_33 rfl ?_
  refine xw_gI fX11_147 dX11_look_35 g8 ?_
  refine xw_iconst (v := 1) dX11_look_38 ic_1 ?_
  refine xw_isub dX11_look_39 ?_
  refine xw_sC (bs := [.inl v2, .inl 0, .inl (σ4.2.1 x2 3 - 1)]) (st := []) smX11_within lX11_94 dX11_look_40 ⟨by decide, rfl, rfl, by decide, by decide⟩ (Nat.le_of_ble_eq_true rfl) rfl rfl h (xkI (fun x8 σ8 h n8 => ?_))
  refine xw_if_ne (tgt := 56) dX11_look_43 (by decide) (fun c8 => ?_) (fun c8 => ?_)
  case refine_2 => exact xw_x (h.1 c8)
  replace h := h.2 c8
  refine xw_iload_n (q := 3) dX11_look_56 rfl rfl ?_
  refine xw_iconst (v := 0) dX11_look_57 ic_0 ?_
  refine xw_iconst (v := 3) dX11_look_58 ic_3 ?_
  refine xw_sC (bs := [.inl v3, .inl 0, .inl 3]) (st := []) smX11_within lX11_94 dX11_look_59 ⟨by decide, rfl, rfl, by decide, by decide⟩ (Nat.le_of_ble_eq_true rfl) rfl rfl h (xkI (fun x9 σ9 h n9 => ?_))
  refine xw_if_ne (tgt := 75) dX11_look_62 (by decide) (fun c9 => ?_) (fun c9 => ?_)
  case refine_2 => exact xw_x (h.1 c9)
  replace h := h.2 c9
  refine xw_iload_n (q := 3) dX11_look_75 rfl rfl ?_
  refine xw_iconst (v := 1) dX11_look_76 ic_1 ?_
  refine xw_icmp_ne (tgt := 87) dX11_look_77 (by decide) (fun cA => ?_) (fun cA => ?_)
  case refine_2 =>
    obtain ⟨gA, h⟩ := h.1 cA
    refine xw_aload (q := 4) dX11_look_80 rfl ?_
    refine xw_iload_n (q := 2) dX11_look_82 rfl rfl ?_
    refine xw_vC (bs := [.inl v2]) (st := []) (vmX9_sprayAt) lX11_172 dX11_look_83 ⟨by decide, rfl, rfl, by decide, by decide⟩ (Nat.le_of_ble_eq_true rfl) rfl rfl gA h (xkI (fun xB σB h nB => ?_))
    exact xw_rI dX11_look_86 rfl (by decide) (by decide) h
  obtain ⟨gA, h⟩ := h.2 cA
  refine xw_aload (q := 4) dX11_look_87 rfl ?_
  refine xw_iload_n (q := 2) dX11_look_89 rfl rfl ?_
  refine xw_vC (bs := [.inl v2]) (st := []) (vmX9_poseAt) lX11_175 dX11_look_90 ⟨by decide, rfl, rfl, by decide, by decide⟩ (Nat.le_of_ble_eq_true rfl) rfl rfl gA h (xkI (fun xA σA h nA => ?_))
  refine xw_istore (lo' := [(0, .inr v0), (1, .inl v1), (2, .inl v2), (3, .inl v3), (4, .inr x2), (5, .inr x4), (6, .inl xA)]) dX11_look_93 (by decide) rfl ?_
  refine xw_iload_n (q := 3) dX11_look_95 rfl rfl ?_
  refine xw_if_ne (tgt := 102) dX11_look_96 (by decide) (fun cB => ?_) (fun cB => ?_)
  case refine_2 =>
    refine xw_iload (q := 6) dX11_look_99 rfl ?_
    exact xw_rI dX11_look_101 rfl (by decide) (by decide) (h.1 cB)
  replace h := h.2 cB
  refine xw_iload_n (q := 3) dX11_look_102 rfl rfl ?_
  refine xw_iconst (v := 2) dX11_look_103 ic_2 ?_
  refine xw_icmp_ne (tgt := 117) dX11_look_104 (by decide) (fun cC => ?_) (fun cC => ?_)
  · obtain ⟨gC, h⟩ := h.2 cC
    refine xw_aload (q := 5) dX11_look_117 rfl ?_
    refine xw_iload (q := 6) dX11_look_119 rfl ?_
    refine xw_vC (bs := [.inl xA]) (st := []) (vmX0_tipY) lX11_181 dX11_look_121 ⟨by decide, rfl, rfl, by decide, by decide⟩ (Nat.le_of_ble_eq_true rfl) rfl rfl gC h (xkI (fun xB σB h nB => ?_))
    exact xw_rI dX11_look_124 rfl (by decide) (by decide) h
  · obtain ⟨gC, h⟩ := h.1 cC
    refine xw_aload (q := 5) dX11_look_107 rfl ?_
    refine xw_iload (q := 6) dX11_look_109 rfl ?_
    refine xw_vC (bs := [.inl xA]) (st := []) (vmX0_tipX) lX11_178 dX11_look_111 ⟨by decide, rfl, rfl, by decide, by decide⟩ (Nat.le_of_ble_eq_true rfl) rfl rfl gC h (xkI (fun xB σB h nB => ?_))
    refine xw_goto (tgt := 124) dX11_look_114 (by decide) ?_
    exact xw_rI dX11_look_124 rfl (by decide) (by decide) h
/-- the ways out of look by a throw -/
def LkP (v : Vt) (t i w : Int) (σ : Sg) : Nat → Sg → Prop := fun k σ' => σ' = σ ∧ ((k = 46 ∧ tLk v t i w = 1) ∨ (k = 65 ∧ tLk v t i w = 2))
def LkK (v : Vt) (t i w : Int) (σ : Sg) : Int32 → Sg → Prop := fun q σ' => q = I (aLk v t i w) ∧ tLk v t i w = 0 ∧ σ' = σ
theorem X_look {t i w : Int} (h : CR σ v) (hw : WF c v) (ht : Rg t) (hi : Rg i) (hr : Rg w) : XW (LkE l 7 (LkP v t i w σ)) l mX11_lookX 0 [(0, .inr 1), (1, .inl (I t)), (2, .inl (I i)), (3, .inl (I w))] [] σ 0 0 (PI (LkK v t i w σ)) := by
  have w0 := hw.1
  have a1 := hi.1; have a2 := hi.2; have b1 := hr.1; have b2 := hr.2
  refine wX11_look ⟨h.1.o1, by rw [h.1.p1_0]; exact h.1.o2, ?_⟩
  rw [h.1.p1_0]
  refine h.tp hw ht (fun n e hn h10 => ?_) (fun nt => ?_)
  · rw [h.1.p1_0]
    refine ⟨h.1.o2, h.ao hw hn (fun a ea ha2 ha1 => ⟨fun q => absurd q (by omega), fun _ => ⟨fun q => absurd q (by omega), fun _ => ⟨(h.P h10).ob, ?_⟩⟩⟩)⟩
    subst e
    have wt := hw.2.2.2.1 n hn
    rw [(h.D hn).2.1, show I (v.2.1 n 0 1) - 1 = I (v.2.1 n 0 1 - 1) from I_sub _ 1]
    have n1 : ¬ okLk v n i → tLk v n i w = 1 := fun nk => by unfold tLk; rw [cif_f nk]
    refine q_within (b := 0) ⟨a1, a2⟩ ⟨by omega, by omega⟩ ⟨by omega, by omega⟩ (fun i0 i1 => ⟨fun z => absurd z (by decide), fun _ => ?_⟩) (fun q => ⟨fun _ => ⟨rfl, Or.inl ⟨rfl, n1 (fun k => q ⟨k.2.1, ?_⟩)⟩⟩, fun z => absurd rfl z⟩)
    case refine_2 => have := k.2.2; rw [I_tn] at this; omega
    have ok : okLk v n i := ⟨⟨by omega, hn⟩, i0, by rw [I_tn]; omega⟩
    refine q_within (b := 0) (c := 3) ⟨b1, b2⟩ ⟨by omega, by omega⟩ ⟨by omega, by omega⟩ (fun z0 z3 => ⟨fun z => absurd z (by decide), fun _ => ?_⟩) (fun q => ⟨fun _ => ⟨rfl, Or.inr ⟨rfl, by unfold tLk; rw [cif_t ok, cif_f q]⟩⟩, fun z => absurd rfl z⟩)
    have tz : tLk v n i w = 0 := by unfold tLk; rw [cif_t ok, cif_t ⟨z0, z3⟩]
    have okw : okLk v n i ∧ 0 ≤ w ∧ w ≤ 3 := ⟨ok, z0, z3⟩
    obtain ⟨j, ej⟩ : ∃ j : Nat, i = j := ⟨i.toNat, by omega⟩
    subst ej
    have po := (wt.2.2.2.2.2 j (by omega)).1
    rw [I_0, I_eq' hr.1 hr.2 (by omega) (by omega), I_1, I_eq' hr.1 hr.2 (by omega) (by omega), show (2 : Int32) = I 2 from rfl, I_eq' hr.1 hr.2 (by omega) (by omega)]
    refine ⟨fun w1 => ⟨(h.P h10).ob, q_sprayAt (h.P h10) (h.D hn) wt.2.2.2.1 wt.2.2.2.2.1 ⟨a1, a2⟩ (fun _ _ => ⟨?_, tz, rfl⟩) (fun q => absurd ⟨i0, by omega⟩ q)⟩, fun w1 => ⟨(h.P h10).ob, q_poseAt (h.P h10) (h.D hn) wt.2.2.2.1 wt.2.2.2.2.1 ⟨a1, a2⟩ (fun _ _ => ⟨fun w0' => ⟨?_, tz, rfl⟩, fun w0' => ⟨fun w2 => ⟨(h.A ha2).ob, q_tipX (h.A ha2) (hw.2.2.1 a ha2).1 ?_ ?_ ⟨?_, tz, rfl⟩⟩, fun w2 => ⟨(h.A ha2).ob, q_tipY (h.A ha2) (hw.2.2.1 a ha2).1 ?_ ?_ ⟨?_, tz, rfl⟩⟩⟩⟩) (fun q => absurd ⟨i0, by omega⟩ q)⟩⟩
    · unfold aLk; rw [cif_t okw, if_neg (by omega), if_pos w1]; simp only [I_tn]
    · unfold aLk; rw [cif_t okw, if_pos w0']; simp only [I_tn]
    · rw [I_tn]; exact po.1
    · rw [I_tn]; have := po.2.1; omega
    · unfold aLk; rw [cif_t okw, if_neg w0', if_neg w1, if_pos w2]; simp only [I_tn, ea]
    · rw [I_tn]; exact po.1
    · rw [I_tn]; have := po.2.1; omega
    · unfold aLk; rw [cif_t okw, if_neg w0', if_neg w1, if_neg w2]; simp only [I_tn, ea]
  · rw [h.1.p1_0]
    refine ⟨h.1.o2, q_armOf0 ⟨fun _ => ⟨rfl, Or.inl ⟨rfl, ?_⟩⟩, fun q => absurd rfl q⟩⟩
    unfold tLk; rw [cif_f (fun k => nt k.1)]
end CLK
