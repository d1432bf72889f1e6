/-! the law's loop; the case of look is a premise here -/
/-- the case of look -/
def LookOK (l : Launch) (sL : Nat) (sx : Nat → Int32) : Prop := ∀ (Φ : Option Av → Sg → Prop) (c i kc ks : Nat) (σ : Sg) (v : Vt), Bo c σ v → c + 1 ≤ 512 → i + 6 ≤ sL → sL ≤ 3072 → (kc + 1173 ≤ 601024 ∧ ks + 13518 ≤ 7293034) → (∀ σ' v', Bo (c + 1) σ' v' → σ.1 ≤ σ'.1 → SW sL sx l mL_law 1374 (LO i) [] σ' (kc + 1173) (ks + 13518) Φ) → SW sL sx l mL_law 581 (LO i) [] σ kc ks Φ
/-- the room after c calls -/
def Inv (c : Nat) (σ : Sg) (kc ks : Nat) : Prop := (σ.2.2 1 8 = 0 → kc ≤ 119 + 1173 * c ∧ ks ≤ 182887 + 13518 * c) ∧ kc ≤ 135 + 1173 * c ∧ ks ≤ 371465 + 13518 * c
section LAW3
variable {l : Launch} {sL : Nat} {sx : Nat → Int32} {σ σ' : Sg} {v v' : Vt} {c kc ks : Nat}
theorem Bo.nul (h : Bo c σ v) (h' : Bo (c + 1) σ' v') (hn : σ.1 ≤ σ'.1) (hz : σ'.2.2 1 8 = 0) : σ.2.2 1 8 = 0 := by
  rcases h.1.2.1 with q | q
  · exact q.1
  · rcases h'.1.2.1 with r | r
    · have := q.2.1.1; have := r.2; omega
    · have := r.1; omega
theorem Inv.same (h : Inv c σ kc ks) (hb : Bo c σ v) (hb' : Bo (c + 1) σ' v') (hn : σ.1 ≤ σ'.1) : Inv (c + 1) σ' kc ks := ⟨fun hz => by have := h.1 (hb.nul hb' hn hz); omega, by have := h.2.1; omega, by have := h.2.2; omega⟩
theorem Inv.look (h : Inv c σ kc ks) (hb : Bo c σ v) (hb' : Bo (c + 1) σ' v') (hn : σ.1 ≤ σ'.1) : Inv (c + 1) σ' (kc + 1173) (ks + 13518) := ⟨fun hz => by have := h.1 (hb.nul hb' hn hz); omega, by have := h.2.1; omega, by have := h.2.2; omega⟩
theorem Inv.mk (h : Inv c σ kc ks) (hz : σ.2.2 1 8 = 0) (hb' : Bo (c + 1) σ' v') (hn : 120 ≤ σ'.1) : Inv (c + 1) σ' (kc + 16) (ks + 188578) := by
  have := h.1 hz
  refine ⟨fun hz' => ?_, by omega, by omega⟩
  rcases hb'.1.2.1 with r | r
  · have := r.2; omega
  · have := r.1; omega
set_option maxHeartbeats 1000000 in
theorem law_loop (hlook : LookOK l sL sx) (hL : sL ≤ 3072) : ∀ n c : Nat, c + n = 513 → ∀ (σ : Sg) (v : Vt) (kc ks : Nat), Bo c σ v → Inv c σ kc ks → SW sL sx l mL_law 23 (LO (6 * c)) [] σ kc ks (PI fun x _ => x = 1) := by
  intro n
  induction n with
  | zero => intro c hc σ v kc ks h _; have := h.2.2.2.2.2.2.2.2; omega
  | succ n ih =>
    intro c hc σ v kc ks h hv
    have c512 := h.2.2.2.2.2.2.2.2
    refine sw_iload (q := 4) dL_law_23 rfl (sw_aload_n (q := 0) dL_law_25 rfl rfl (sw_len dL_law_26 (sw_bipush (v := 6) dL_law_27 rfl (sw_isub dL_law_29 ?_))))
    rw [show Int32.ofNat sL = I (sL : Int) from I_nat sL, show (6 : Int32) = I 6 from rfl, I_sub]
    refine sw_icmp_gt (tgt := 1380) dL_law_30 (by decide) (fun _ => ?_) (fun q => ?_)
    · exact sw_iconst (v := 1) dL_law_1380 rfl (sw_iret .boolean dL_law_1381 rfl rfl (by have := hv.2.1; show kc ≤ 601024; omega) (by have := hv.2.2; show ks ≤ 7293034; omega) ⟨1, rfl, rfl⟩)
    · rw [I_lt ⟨by omega, by omega⟩ ⟨by omega, by omega⟩] at q
      have hi : 6 * c + 6 ≤ sL := by omega
      have c1 : c + 1 ≤ 512 := by omega
      have hk : kc ≤ 601024 ∧ ks ≤ 7293034 := by have := hv.2; omega
      have hk1 : σ.2.2 1 8 = 0 → kc + 16 ≤ 601024 ∧ ks + 188578 ≤ 7293034 := fun hz => by have := hv.1 hz; omega
      have hk2 : kc + 1173 ≤ 601024 ∧ ks + 13518 ≤ 7293034 := by have := hv.2; omega
      have nxt : ∀ σ' v' kc' ks', Bo (c + 1) σ' v' → Inv (c + 1) σ' kc' ks' → SW sL sx l mL_law 1374 (LO (6 * c)) [] σ' kc' ks' (PI fun x _ => x = 1) := fun σ' v' kc' ks' h' hv' => by
        refine sw_inc (lo' := LO (6 * (c + 1))) (q := 4) (c := 6) dL_law_1374 rfl rfl (by decide) ?_ (sw_goto (tgt := 23) dL_law_1377 (by decide) (ih (c + 1) (by omega) σ' v' kc' ks' h' hv'))
        show [((0 : Nat), (.inr 3000000 : Av)), (1, .inr 1), (2, .inr 82), (3, .inr 119), (4, .inl (I ((6 * c : Nat) : Int) + 6))] = [(0, .inr 3000000), (1, .inr 1), (2, .inr 82), (3, .inr 119), (4, .inl (I ((6 * (c + 1) : Nat) : Int)))]
        rw [show (6 : Int32) = I 6 from rfl, I_add, show ((6 * c : Nat) : Int) + 6 = ((6 * (c + 1) : Nat) : Int) by omega]
      have one : ∀ σ' v', Bo (c + 1) σ' v' → σ.1 ≤ σ'.1 → SW sL sx l mL_law 1374 (LO (6 * c)) [] σ' kc ks (PI fun x _ => x = 1) := fun σ' v' h' hn => nxt σ' v' kc ks h' (hv.same h h' hn)
      have two : ∀ σ' v' kc' ks', Bo (c + 1) σ' v' → σ.1 ≤ σ'.1 → ((kc' = kc ∧ ks' = ks) ∨ (σ.2.2 1 8 = 0 ∧ 120 ≤ σ'.1 ∧ kc' = kc + 16 ∧ ks' = ks + 188578)) → SW sL sx l mL_law 1374 (LO (6 * c)) [] σ' kc' ks' (PI fun x _ => x = 1) := fun σ' v' kc' ks' h' hn hq => by
        rcases hq with ⟨q1, q2⟩ | ⟨q1, q2, q3, q4⟩
        · rw [q1, q2]; exact one σ' v' h' hn
        · rw [q3, q4]; exact nxt σ' v' _ _ h' (hv.mk q1 h' q2)
      refine sw_aload_n (q := 0) dL_law_33 rfl rfl (sw_iload (q := 4) dL_law_34 rfl (sw_ld dL_law_36 ((I_in ⟨by omega, by omega⟩).mpr ⟨by omega, by omega⟩) (sw_bipush (v := 31) dL_law_37 rfl (sw_iand dL_law_39 ?_))))
      refine sw_tab dL_law_40 (by decide) (fun _ => ⟨1374, by decide, one σ v ⟨h.1, h.2.1, h.2.2.up (Nat.le_succ c) c1⟩ (Nat.le_refl _)⟩) (fun k hk0 _ => ?_)
      have hk0 : k < 27 := hk0
      have hkk : k = 0 ∨ k = 1 ∨ k = 2 ∨ k = 3 ∨ k = 4 ∨ k = 5 ∨ k = 6 ∨ k = 7 ∨ k = 8 ∨ k = 9 ∨ k = 10 ∨ k = 11 ∨ k = 12 ∨ k = 13 ∨ k = 14 ∨ k = 15 ∨ k = 16 ∨ k = 17 ∨ k = 18 ∨ k = 19 ∨ k = 20 ∨ k = 21 ∨ k = 22 ∨ k = 23 ∨ k = 24 ∨ k = 25 ∨ k = 26 := by omega
      rcases hkk with rfl | rfl | rfl | rfl | rfl | rfl | rfl | rfl | rfl | rfl | rfl | rfl | rfl | rfl | rfl | rfl | rfl | rfl | rfl | rfl | rfl | rfl | rfl | rfl | rfl | rfl | rfl
      · exact ⟨124, 164, rfl, by decide, c_feed h c1 hi hL hk one⟩
      · exact ⟨197, 237, rfl, by decide, c_make h c1 hi hL hk one⟩
      · exact ⟨222, 262, rfl, by decide, c_fault h c1 hi hL hk one⟩
      · exact ⟨247, 287, rfl, by decide, c_arm h c1 hi hL hk one⟩
      · exact ⟨284, 324, rfl, by decide, c_joint h c1 hi hL hk one⟩
      · exact ⟨357, 397, rfl, by decide, c_point h c1 hi hL hk one⟩
      · exact ⟨418, 458, rfl, by decide, c_hop h c1 hi hL hk one⟩
      · exact ⟨467, 507, rfl, by decide, c_tape h c1 hi hL hk one⟩
      · exact ⟨492, 532, rfl, by decide, c_lead h c1 hi hL hk one⟩
      · exact ⟨541, 581, rfl, by decide, hlook _ c (6 * c) kc ks σ v h c1 hi hL hk2 (fun σ' v' h' hn => nxt σ' v' _ _ h' (hv.look h h' hn))⟩
      · exact ⟨621, 661, rfl, by decide, c_about h c1 hi hL hk one⟩
      · exact ⟨658, 698, rfl, by decide, c_play h c1 hi hL hk one⟩
      · exact ⟨707, 747, rfl, by decide, c_nozzle h c1 hi hL hk one⟩
      · exact ⟨732, 772, rfl, by decide, c_thick h c1 hi hL hk one⟩
      · exact ⟨805, 845, rfl, by decide, c_paint h c1 hi hL hk one⟩
      · exact ⟨842, 882, rfl, by decide, c_clean h c1 hi hL hk one⟩
      · exact ⟨855, 895, rfl, by decide, c_follow h c1 hi hL hk hk1 two⟩
      · exact ⟨916, 956, rfl, by decide, c_stop h c1 hi hL hk one⟩
      · exact ⟨929, 969, rfl, by decide, c_way h c1 hi hL hk one⟩
      · exact ⟨942, 982, rfl, by decide, c_meet h c1 hi hL hk one⟩
      · exact ⟨979, 1019, rfl, by decide, c_met h c1 hi hL hk one⟩
      · exact ⟨1004, 1044, rfl, by decide, c_share h c1 hi hL hk hk1 two⟩
      · exact ⟨1053, 1093, rfl, by decide, c_wear h c1 hi hL hk one⟩
      · exact ⟨1126, 1166, rfl, by decide, c_suspects h c1 hi hL hk one⟩
      · exact ⟨1187, 1227, rfl, by decide, c_anew h c1 hi hL hk one⟩
      · exact ⟨1260, 1300, rfl, by decide, c_apart h c1 hi hL hk one⟩
      · exact ⟨1309, 1349, rfl, by decide, c_count h c1 hi hL hk one⟩
end LAW3
