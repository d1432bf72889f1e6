/-! a step of the law, on both sides -/
section STP
variable {l : Launch} {σ σ' : Sg} {v : Vt} {c : Nat}
theorem exI (x : Int32) : ∃ z, x = I z ∧ Rg z := ⟨x.toInt, (I_toInt x).symm, ⟨Int32.le_toInt x, Int32.toInt_lt x⟩⟩
theorem con_pi {g : Mth} {as : List Av} {K K' : Int32 → Sg → Prop} (k : Con l g as σ (PI K)) (h : ∀ x σ', K x σ' → K' x σ') : Con l g as σ (PI K') := con_imp (fun r σ' ⟨x, q1, q2⟩ => ⟨x, q1, h x σ' q2⟩) k
/-- one call on either side, with the same answer -/
def Sp2 (l : Launch) (m1 m2 : Mth) (as : List Av) (c : Nat) (σ : Sg) : Prop := Con l m1 (.inr 1 :: as) σ (PI fun x σ1 => Con l m2 (.inr 82 :: as) σ1 (PI fun y σ2 => x = y ∧ ∃ v, Bo (c + 1) σ2 v))
theorem S_feed (h : Bo c σ v) (hc : c + 1 ≤ 512) (x1 x2 x3 x4 x5 : Int32) : Sp2 l mX11_feed mX12_feed [.inl x1, .inl x2, .inl x3, .inl x4, .inl x5] c σ := by
  obtain ⟨z1, e1, r1⟩ := exI x1; subst e1
  obtain ⟨z2, e2, r2⟩ := exI x2; subst e2
  obtain ⟨z3, e3, r3⟩ := exI x3; subst e3
  obtain ⟨z4, e4, r4⟩ := exI x4; subst e4
  obtain ⟨z5, e5, r5⟩ := exI x5; subst e5
  refine con_pi (C_feed h.1 h.2.2 ) (fun x σ1 ⟨e1, h1, f1⟩ => con_pi (M_feed (h.2.1.cf f1) h.2.2 ) (fun y σ2 ⟨e2, h2, f2⟩ => ⟨e1.trans e2.symm, _, h.step h1 f1 h2 f2 (W_feed h.2.2 |>.up (Nat.le_succ c) hc)⟩))
theorem S_make (h : Bo c σ v) (hc : c + 1 ≤ 512) (x1 : Int32) : Sp2 l mX11_make mX12_make [.inl x1] c σ := by
  obtain ⟨z1, e1, r1⟩ := exI x1; subst e1
  refine con_pi (C_make h.1 h.2.2 r1) (fun x σ1 ⟨e1, h1, f1⟩ => con_pi (M_make (h.2.1.cf f1) h.2.2 r1) (fun y σ2 ⟨e2, h2, f2⟩ => ⟨e1.trans e2.symm, _, h.step h1 f1 h2 f2 (W_make h.2.2 |>.up (Nat.le_succ c) hc)⟩))
theorem S_fault (h : Bo c σ v) (hc : c + 1 ≤ 512) (x1 : Int32) : Sp2 l mX11_fault mX12_fault [.inl x1] c σ := by
  obtain ⟨z1, e1, r1⟩ := exI x1; subst e1
  refine con_pi (C_fault h.1 r1) (fun x σ1 ⟨e1, h1, f1⟩ => con_pi (M_fault (h.2.1.cf f1) r1) (fun y σ2 ⟨e2, h2, f2⟩ => ⟨e1.trans e2.symm, _, h.step h1 f1 h2 f2 (h.2.2.up (Nat.le_succ c) hc)⟩))
theorem S_arm (h : Bo c σ v) (hc : c + 1 ≤ 512) (x1 x2 : Int32) : Sp2 l mX11_arm mX12_arm [.inl x1, .inl x2] c σ := by
  obtain ⟨z1, e1, r1⟩ := exI x1; subst e1
  obtain ⟨z2, e2, r2⟩ := exI x2; subst e2
  refine con_pi (C_arm h.1 h.2.2 r1 r2) (fun x σ1 ⟨e1, h1, f1⟩ => con_pi (M_arm (h.2.1.cf f1) h.2.2 r1 r2) (fun y σ2 ⟨e2, h2, f2⟩ => ⟨e1.trans e2.symm, _, h.step h1 f1 h2 f2 (W_armF h.2.2 |>.up (Nat.le_succ c) hc)⟩))
theorem S_joint (h : Bo c σ v) (hc : c + 1 ≤ 512) (x1 x2 x3 x4 x5 : Int32) : Sp2 l mX11_joint mX12_joint [.inl x1, .inl x2, .inl x3, .inl x4, .inl x5] c σ := by
  obtain ⟨z1, e1, r1⟩ := exI x1; subst e1
  obtain ⟨z2, e2, r2⟩ := exI x2; subst e2
  obtain ⟨z3, e3, r3⟩ := exI x3; subst e3
  obtain ⟨z4, e4, r4⟩ := exI x4; subst e4
  obtain ⟨z5, e5, r5⟩ := exI x5; subst e5
  refine con_pi (C_joint h.1 h.2.2 r1 r2 r3 r4 r5) (fun x σ1 ⟨e1, h1, f1⟩ => con_pi (M_joint (h.2.1.cf f1) h.2.2 r1 r2 r3 r4 r5) (fun y σ2 ⟨e2, h2, f2⟩ => ⟨e1.trans e2.symm, _, h.step h1 f1 h2 f2 (W_joint h.2.2 |>.up (Nat.le_succ c) hc)⟩))
theorem S_point (h : Bo c σ v) (hc : c + 1 ≤ 512) (x1 x2 x3 x4 : Int32) : Sp2 l mX11_point mX12_point [.inl x1, .inl x2, .inl x3, .inl x4] c σ := by
  obtain ⟨z1, e1, r1⟩ := exI x1; subst e1
  obtain ⟨z2, e2, r2⟩ := exI x2; subst e2
  obtain ⟨z3, e3, r3⟩ := exI x3; subst e3
  obtain ⟨z4, e4, r4⟩ := exI x4; subst e4
  refine con_pi (C_point h.1 h.2.2 r1 r2 r3 r4) (fun x σ1 ⟨e1, h1, f1⟩ => con_pi (M_point (h.2.1.cf f1) h.2.2 r1 r2 r3 r4) (fun y σ2 ⟨e2, h2, f2⟩ => ⟨e1.trans e2.symm, _, h.step h1 f1 h2 f2 (h.2.2.up (Nat.le_succ c) hc)⟩))
theorem S_hop (h : Bo c σ v) (hc : c + 1 ≤ 512) (x1 x2 x3 : Int32) : Sp2 l mX11_hop mX12_hop [.inl x1, .inl x2, .inl x3] c σ := by
  obtain ⟨z1, e1, r1⟩ := exI x1; subst e1
  obtain ⟨z2, e2, r2⟩ := exI x2; subst e2
  obtain ⟨z3, e3, r3⟩ := exI x3; subst e3
  refine con_pi (C_hop h.1 h.2.2 r1 r2 r3) (fun x σ1 ⟨e1, h1, f1⟩ => con_pi (M_hop (h.2.1.cf f1) h.2.2 r1 r2 r3) (fun y σ2 ⟨e2, h2, f2⟩ => ⟨e1.trans e2.symm, _, h.step h1 f1 h2 f2 (h.2.2.up (Nat.le_succ c) hc)⟩))
theorem S_tape (h : Bo c σ v) (hc : c + 1 ≤ 512) (x1 : Int32) : Sp2 l mX11_tape mX12_tape [.inl x1] c σ := by
  obtain ⟨z1, e1, r1⟩ := exI x1; subst e1
  refine con_pi (C_tape h.1 h.2.2 r1) (fun x σ1 ⟨e1, h1, f1⟩ => con_pi (M_tape (h.2.1.cf f1) h.2.2 r1) (fun y σ2 ⟨e2, h2, f2⟩ => ⟨e1.trans e2.symm, _, h.step h1 f1 h2 f2 (W_tape h.2.2 |>.up (Nat.le_succ c) hc)⟩))
theorem S_lead (h : Bo c σ v) (hc : c + 1 ≤ 512) (x1 x2 x3 : Int32) : Sp2 l mX11_lead mX12_lead [.inl x1, .inl x2, .inl x3] c σ := by
  obtain ⟨z1, e1, r1⟩ := exI x1; subst e1
  obtain ⟨z2, e2, r2⟩ := exI x2; subst e2
  obtain ⟨z3, e3, r3⟩ := exI x3; subst e3
  refine con_pi (C_lead h.1 h.2.2 r1 r2 r3) (fun x σ1 ⟨e1, h1, f1⟩ => con_pi (M_lead (h.2.1.cf f1) h.2.2 r1 r2 r3) (fun y σ2 ⟨e2, h2, f2⟩ => ⟨e1.trans e2.symm, _, h.step h1 f1 h2 f2 (W_lead h.2.2 |>.up (Nat.le_succ c) hc)⟩))
theorem S_about (h : Bo c σ v) (hc : c + 1 ≤ 512) (x1 x2 : Int32) : Sp2 l mX11_about mX12_about [.inl x1, .inl x2] c σ := by
  obtain ⟨z1, e1, r1⟩ := exI x1; subst e1
  obtain ⟨z2, e2, r2⟩ := exI x2; subst e2
  refine con_pi (C_about h.1 h.2.2 r1 r2) (fun x σ1 ⟨e1, h1, f1⟩ => con_pi (M_about (h.2.1.cf f1) h.2.2 r1 r2) (fun y σ2 ⟨e2, h2, f2⟩ => ⟨e1.trans e2.symm, _, h.step h1 f1 h2 f2 (h.2.2.up (Nat.le_succ c) hc)⟩))
theorem S_play (h : Bo c σ v) (hc : c + 1 ≤ 512) (x1 x2 x3 : Int32) : Sp2 l mX11_play mX12_play [.inl x1, .inl x2, .inl x3] c σ := by
  obtain ⟨z1, e1, r1⟩ := exI x1; subst e1
  obtain ⟨z2, e2, r2⟩ := exI x2; subst e2
  obtain ⟨z3, e3, r3⟩ := exI x3; subst e3
  refine con_pi (C_play h.1 h.2.2 hc r1 r2 r3) (fun x σ1 ⟨e1, h1, f1⟩ => con_pi (M_play (h.2.1.cf f1) h.2.2 r1 r2 r3) (fun y σ2 ⟨e2, h2, f2⟩ => ⟨e1.trans e2.symm, _, h.step h1 f1 h2 f2 (W_play h.2.2 hc)⟩))
theorem S_nozzle (h : Bo c σ v) (hc : c + 1 ≤ 512) (x1 : Int32) : Sp2 l mX11_nozzle mX12_nozzle [.inl x1] c σ := by
  obtain ⟨z1, e1, r1⟩ := exI x1; subst e1
  refine con_pi (C_nozzle h.1 h.2.2 r1) (fun x σ1 ⟨e1, h1, f1⟩ => con_pi (M_nozzle (h.2.1.cf f1) h.2.2 r1) (fun y σ2 ⟨e2, h2, f2⟩ => ⟨e1.trans e2.symm, _, h.step h1 f1 h2 f2 (W_nozzle h.2.2 |>.up (Nat.le_succ c) hc)⟩))
theorem S_thick (h : Bo c σ v) (hc : c + 1 ≤ 512) (x1 x2 x3 x4 x5 : Int32) : Sp2 l mX11_thick mX12_thick [.inl x1, .inl x2, .inl x3, .inl x4, .inl x5] c σ := by
  obtain ⟨z1, e1, r1⟩ := exI x1; subst e1
  obtain ⟨z2, e2, r2⟩ := exI x2; subst e2
  obtain ⟨z3, e3, r3⟩ := exI x3; subst e3
  obtain ⟨z4, e4, r4⟩ := exI x4; subst e4
  obtain ⟨z5, e5, r5⟩ := exI x5; subst e5
  refine con_pi (C_thick h.1 h.2.2 r1 r2 r3 r4 r5) (fun x σ1 ⟨e1, h1, f1⟩ => con_pi (M_thick (h.2.1.cf f1) h.2.2 r1 r2 r3 r4 r5) (fun y σ2 ⟨e2, h2, f2⟩ => ⟨e1.trans e2.symm, _, h.step h1 f1 h2 f2 (h.2.2.up (Nat.le_succ c) hc)⟩))
theorem S_paint (h : Bo c σ v) (hc : c + 1 ≤ 512) (x1 x2 : Int32) : Sp2 l mX11_paint mX12_paint [.inl x1, .inl x2] c σ := by
  obtain ⟨z1, e1, r1⟩ := exI x1; subst e1
  obtain ⟨z2, e2, r2⟩ := exI x2; subst e2
  refine con_pi (C_paint h.1 r1 r2) (fun x σ1 ⟨e1, h1, f1⟩ => con_pi (M_paint (h.2.1.cf f1) r1 r2) (fun y σ2 ⟨e2, h2, f2⟩ => ⟨e1.trans e2.symm, _, h.step h1 f1 h2 f2 (h.2.2.up (Nat.le_succ c) hc)⟩))
theorem S_clean (h : Bo c σ v) (hc : c + 1 ≤ 512) : Sp2 l mX11_clean mX12_clean [] c σ := by
  refine con_pi (C_clean h.1 h.2.2 ) (fun x σ1 ⟨e1, h1, f1⟩ => con_pi (M_clean (h.2.1.cf f1) h.2.2 ) (fun y σ2 ⟨e2, h2, f2⟩ => ⟨e1.trans e2.symm, _, h.step h1 f1 h2 f2 (W_clean h.2.2 |>.up (Nat.le_succ c) hc)⟩))
theorem S_follow (h : Bo c σ v) (hc : c + 1 ≤ 512) (hz : σ.2.2 1 8 = 120) (x1 x2 x3 x4 : Int32) : Sp2 l mX11_follow mX12_follow [.inl x1, .inl x2, .inl x3, .inl x4] c σ := by
  obtain ⟨z1, e1, r1⟩ := exI x1; subst e1
  obtain ⟨z2, e2, r2⟩ := exI x2; subst e2
  obtain ⟨z3, e3, r3⟩ := exI x3; subst e3
  obtain ⟨z4, e4, r4⟩ := exI x4; subst e4
  refine con_pi (C_follow h.1 h.2.2 hz r1 r2 r3 r4) (fun x σ1 ⟨e1, h1, f1⟩ => con_pi (M_follow (h.2.1.cf f1) h.2.2 r1 r2 r3 r4) (fun y σ2 ⟨e2, h2, f2⟩ => ⟨e1.trans e2.symm, _, h.step h1 f1 h2 f2 (W_follow h.2.2 |>.up (Nat.le_succ c) hc)⟩))
theorem S_followN (h : Bo c σ v) (hc : c + 1 ≤ 512) (hz : σ.2.2 1 8 = 0) (x1 x2 x3 x4 : Int32) : Sp2 l mX11_followN mX12_follow [.inl x1, .inl x2, .inl x3, .inl x4] c σ := by
  obtain ⟨z1, e1, r1⟩ := exI x1; subst e1
  obtain ⟨z2, e2, r2⟩ := exI x2; subst e2
  obtain ⟨z3, e3, r3⟩ := exI x3; subst e3
  obtain ⟨z4, e4, r4⟩ := exI x4; subst e4
  refine con_pi (C_followN h.1 h.2.2 hz r1 r2 r3 r4) (fun x σ1 ⟨e1, h1, f1⟩ => con_pi (M_follow (h.2.1.cf f1) h.2.2 r1 r2 r3 r4) (fun y σ2 ⟨e2, h2, f2⟩ => ⟨e1.trans e2.symm, _, h.step h1 f1 h2 f2 (W_follow h.2.2 |>.up (Nat.le_succ c) hc)⟩))
theorem S_stop (h : Bo c σ v) (hc : c + 1 ≤ 512) : Sp2 l mX11_stop mX12_stop [] c σ := by
  refine con_pi (C_stop h.1 ) (fun x σ1 ⟨e1, h1, f1⟩ => con_pi (M_stop (h.2.1.cf f1) ) (fun y σ2 ⟨e2, h2, f2⟩ => ⟨e1.trans e2.symm, _, h.step h1 f1 h2 f2 (h.2.2.up (Nat.le_succ c) hc)⟩))
theorem S_way (h : Bo c σ v) (hc : c + 1 ≤ 512) : Sp2 l mX11_way mX12_way [] c σ := by
  refine con_pi (C_way h.1 ) (fun x σ1 ⟨e1, h1, f1⟩ => con_pi (M_way (h.2.1.cf f1) ) (fun y σ2 ⟨e2, h2, f2⟩ => ⟨e1.trans e2.symm, _, h.step h1 f1 h2 f2 (h.2.2.up (Nat.le_succ c) hc)⟩))
theorem S_meet (h : Bo c σ v) (hc : c + 1 ≤ 512) (x1 x2 : Int32) : Sp2 l mX11_meet mX12_meet [.inl x1, .inl x2] c σ := by
  obtain ⟨z1, e1, r1⟩ := exI x1; subst e1
  obtain ⟨z2, e2, r2⟩ := exI x2; subst e2
  refine con_pi (C_meet h.1 h.2.2 r1 r2) (fun x σ1 ⟨e1, h1, f1⟩ => con_pi (M_meet (h.2.1.cf f1) h.2.2 r1 r2) (fun y σ2 ⟨e2, h2, f2⟩ => ⟨e1.trans e2.symm, _, h.step h1 f1 h2 f2 (W_meet h.2.2 |>.up (Nat.le_succ c) hc)⟩))
theorem S_met (h : Bo c σ v) (hc : c + 1 ≤ 512) (x1 : Int32) : Sp2 l mX11_met mX12_met [.inl x1] c σ := by
  obtain ⟨z1, e1, r1⟩ := exI x1; subst e1
  refine con_pi (C_met h.1 h.2.2 r1) (fun x σ1 ⟨e1, h1, f1⟩ => con_pi (M_met (h.2.1.cf f1) h.2.2 r1) (fun y σ2 ⟨e2, h2, f2⟩ => ⟨e1.trans e2.symm, _, h.step h1 f1 h2 f2 (h.2.2.up (Nat.le_succ c) hc)⟩))
theorem S_share (h : Bo c σ v) (hc : c + 1 ≤ 512) (hz : σ.2.2 1 8 = 120) (x1 x2 x3 : Int32) : Sp2 l mX11_share mX12_share [.inl x1, .inl x2, .inl x3] c σ := by
  obtain ⟨z1, e1, r1⟩ := exI x1; subst e1
  obtain ⟨z2, e2, r2⟩ := exI x2; subst e2
  obtain ⟨z3, e3, r3⟩ := exI x3; subst e3
  refine con_pi (C_share h.1 h.2.2 hz r1 r2 r3) (fun x σ1 ⟨e1, h1, f1⟩ => con_pi (M_share (h.2.1.cf f1) h.2.2 r1 r2 r3) (fun y σ2 ⟨e2, h2, f2⟩ => ⟨e1.trans e2.symm, _, h.step h1 f1 h2 f2 (h.2.2.up (Nat.le_succ c) hc)⟩))
theorem S_shareN (h : Bo c σ v) (hc : c + 1 ≤ 512) (hz : σ.2.2 1 8 = 0) (x1 x2 x3 : Int32) : Sp2 l mX11_shareN mX12_share [.inl x1, .inl x2, .inl x3] c σ := by
  obtain ⟨z1, e1, r1⟩ := exI x1; subst e1
  obtain ⟨z2, e2, r2⟩ := exI x2; subst e2
  obtain ⟨z3, e3, r3⟩ := exI x3; subst e3
  refine con_pi (C_shareN h.1 h.2.2 hz r1 r2 r3) (fun x σ1 ⟨e1, h1, f1⟩ => con_pi (M_share (h.2.1.cf f1) h.2.2 r1 r2 r3) (fun y σ2 ⟨e2, h2, f2⟩ => ⟨e1.trans e2.symm, _, h.step h1 f1 h2 f2 (h.2.2.up (Nat.le_succ c) hc)⟩))
theorem S_wear (h : Bo c σ v) (hc : c + 1 ≤ 512) (x1 x2 x3 x4 x5 : Int32) : Sp2 l mX11_wear mX12_wear [.inl x1, .inl x2, .inl x3, .inl x4, .inl x5] c σ := by
  obtain ⟨z1, e1, r1⟩ := exI x1; subst e1
  obtain ⟨z2, e2, r2⟩ := exI x2; subst e2
  obtain ⟨z3, e3, r3⟩ := exI x3; subst e3
  obtain ⟨z4, e4, r4⟩ := exI x4; subst e4
  obtain ⟨z5, e5, r5⟩ := exI x5; subst e5
  refine con_pi (C_wear h.1 h.2.2 r1 r2 r3 r4 r5) (fun x σ1 ⟨e1, h1, f1⟩ => con_pi (M_wear (h.2.1.cf f1) h.2.2 r1 r2 r3 r4 r5) (fun y σ2 ⟨e2, h2, f2⟩ => ⟨e1.trans e2.symm, _, h.step h1 f1 h2 f2 (W_wear h.2.2 |>.up (Nat.le_succ c) hc)⟩))
theorem S_suspects (h : Bo c σ v) (hc : c + 1 ≤ 512) (x1 x2 x3 x4 : Int32) : Sp2 l mX11_suspects mX12_suspects [.inl x1, .inl x2, .inl x3, .inl x4] c σ := by
  obtain ⟨z1, e1, r1⟩ := exI x1; subst e1
  obtain ⟨z2, e2, r2⟩ := exI x2; subst e2
  obtain ⟨z3, e3, r3⟩ := exI x3; subst e3
  obtain ⟨z4, e4, r4⟩ := exI x4; subst e4
  refine con_pi (C_suspects h.1 h.2.2 r1 r2 r3 r4) (fun x σ1 ⟨e1, h1, f1⟩ => con_pi (M_suspects (h.2.1.cf f1) h.2.2 r1 r2 r3 r4) (fun y σ2 ⟨e2, h2, f2⟩ => ⟨e1.trans e2.symm, _, h.step h1 f1 h2 f2 (h.2.2.up (Nat.le_succ c) hc)⟩))
theorem S_anew (h : Bo c σ v) (hc : c + 1 ≤ 512) (x1 x2 x3 x4 x5 : Int32) : Sp2 l mX11_anew mX12_anew [.inl x1, .inl x2, .inl x3, .inl x4, .inl x5] c σ := by
  obtain ⟨z1, e1, r1⟩ := exI x1; subst e1
  obtain ⟨z2, e2, r2⟩ := exI x2; subst e2
  obtain ⟨z3, e3, r3⟩ := exI x3; subst e3
  obtain ⟨z4, e4, r4⟩ := exI x4; subst e4
  obtain ⟨z5, e5, r5⟩ := exI x5; subst e5
  refine con_pi (C_anew h.1 h.2.2 r1 r2 r3 r4 r5) (fun x σ1 ⟨e1, h1, f1⟩ => con_pi (M_anew (h.2.1.cf f1) h.2.2 r1 r2 r3 r4 r5) (fun y σ2 ⟨e2, h2, f2⟩ => ⟨e1.trans e2.symm, _, h.step h1 f1 h2 f2 (h.2.2.up (Nat.le_succ c) hc)⟩))
theorem S_apart (h : Bo c σ v) (hc : c + 1 ≤ 512) (x1 x2 x3 : Int32) : Sp2 l mX11_apart mX12_apart [.inl x1, .inl x2, .inl x3] c σ := by
  obtain ⟨z1, e1, r1⟩ := exI x1; subst e1
  obtain ⟨z2, e2, r2⟩ := exI x2; subst e2
  obtain ⟨z3, e3, r3⟩ := exI x3; subst e3
  refine con_pi (C_apart h.1 h.2.2 r1 r2 r3) (fun x σ1 ⟨e1, h1, f1⟩ => con_pi (M_apart (h.2.1.cf f1) h.2.2 r1 r2 r3) (fun y σ2 ⟨e2, h2, f2⟩ => ⟨e1.trans e2.symm, _, h.step h1 f1 h2 f2 (h.2.2.up (Nat.le_succ c) hc)⟩))
theorem S_count (h : Bo c σ v) (hc : c + 1 ≤ 512) (x1 : Int32) : Sp2 l mX11_count mX12_count [.inl x1] c σ := by
  obtain ⟨z1, e1, r1⟩ := exI x1; subst e1
  refine con_pi (C_count h.1 h.2.2 r1) (fun x σ1 ⟨e1, h1, f1⟩ => con_pi (M_count (h.2.1.cf f1) h.2.2 r1) (fun y σ2 ⟨e2, h2, f2⟩ => ⟨e1.trans e2.symm, _, h.step h1 f1 h2 f2 (h.2.2.up (Nat.le_succ c) hc)⟩))
end STP
