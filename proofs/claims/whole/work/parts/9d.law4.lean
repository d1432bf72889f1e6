/-! the law's beginning -/
section LAW4
variable {l : Launch} {sL : Nat} {sx : Nat → Int32}
set_option maxHeartbeats 1000000 in
set_option maxRecDepth 20000 in
theorem law_all (hlook : LookOK l sL sx) (hL : sL ≤ 3072) : SW sL sx l mL_law 0 [(0, .inr 3000000)] [] (SgL 0 [] []) 0 0 (PI fun x _ => x = 1) := by
  refine sw_new ci11 clL_8 it_X11 in_X11 df11 dL_law_0 (by decide) (by decide) (by decide) (by decide) (fun x σ e1 e2 => ?_)
  have e1 : x = 1 := e1
  have e2 : σ = SgL 1 [] [] := e2.trans (nw_SgL (by decide) (by decide))
  rw [e1, e2]
  refine sw_dup dL_law_3 ?_
  refine sw_iC (bs := []) (st := [.inr 1]) (kc' := 81) (ks' := 6699) xmX11_init lL_17 dL_law_4 ⟨by decide, rfl, rfl, by decide, by decide⟩ (by decide) rfl rfl (by decide) (i_X11 rfl) (fun q σ1 hq n1 => ?_)
  obtain ⟨q0, hq⟩ := hq
  subst q0
  rw [← hq]
  refine sw_astore_n (lo' := [(0, .inr 3000000), (1, .inr 1)]) dL_law_7 rfl (by decide) rfl ?_
  refine sw_new ci12 clL_18 it_X12 in_X12 df12 dL_law_8 (by decide) (by decide) (by decide) (by decide) (fun x σ e1 e2 => ?_)
  have e1 : x = 82 := e1
  have e2 := e2.trans (nw_SgL (by decide) (by decide))
  rw [e1, e2]
  refine sw_dup dL_law_11 ?_
  refine sw_iC (bs := []) (st := [.inr 82]) (kc' := 118) (ks' := 182886) xmX12_init lL_20 dL_law_12 ⟨by decide, rfl, rfl, by decide, by decide⟩ (by decide) rfl rfl (by decide) (i_X12 rfl) (fun q σ1 hq n1 => ?_)
  obtain ⟨q0, hq⟩ := hq
  subst q0
  rw [← hq]
  refine sw_astore_n (lo' := [(0, .inr 3000000), (1, .inr 1), (2, .inr 82)]) dL_law_15 rfl (by decide) rfl ?_
  refine sw_iconst (v := 1) dL_law_16 rfl ?_
  refine sw_newl (N := 1) ac_long dL_law_17 (by decide) (by decide) (by decide) (by decide) (by decide) (by decide) (by decide) (fun x σ e1 e2 => ?_)
  have e1 : x = 119 := e1
  have e2 : σ = SgL 119 psI isI := e2.trans (nw_SgL (by decide) (by decide))
  rw [e1, e2]
  refine sw_astore_n (lo' := [(0, .inr 3000000), (1, .inr 1), (2, .inr 82), (3, .inr 119)]) dL_law_19 rfl (by decide) rfl ?_
  refine sw_iconst (v := 0) dL_law_20 rfl ?_
  refine sw_istore (lo' := LO (6 * 0)) dL_law_21 (by decide) rfl ?_
  exact law_loop hlook hL 513 0 (by omega) _ v00 119 182887 ⟨CR_00, MR_00, v00_wf⟩ ⟨fun _ => by omega, by omega, by omega⟩
end LAW4
