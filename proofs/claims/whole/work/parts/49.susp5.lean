/-! suspects: what is told -/
noncomputable def sure (v : Vt) (t : Nat) (d o : Int) (n J : Nat) : Prop := non v t d o = 0 ∧ (Btj v t d o n J = 1 ∨ Btj v t d o n J = 2 ∨ Btj v t d o n J = 4)
noncomputable def tel (v : Vt) (t : Nat) (d o : Int) (n J : Nat) (w : Int) : Int :=
  if w = 0 then non v t d o + sumP (cnj v t d o n) J else if w = 1 then Btj v t d o n J else if w = 2 then non v t d o else
  cif (sure v t d o n J) (if w = 3 then ((Btj v t d o n J / 2 : Nat) : Int) else if w = 4 then loE v t d o n (Btj v t d o n J / 2) else hiE v t d o n (Btj v t d o n J / 2)) (-1)
def okSus (v : Vt) (z d o w : Int) : Prop := okAim v z d o ∧ (0 ≤ w ∧ w ≤ 5)
noncomputable def aSus (v : Vt) (z d o w : Int) : Int := cif (okSus v z d o w) (tel v z.toNat d o (v.2.1 z.toNat 0 1).toNat (v.1 (v.2.1 z.toNat 0 0).toNat 0 2).toNat w) (-2)
section SUS3
variable {l : Launch} {σ σ' : Sg} {v v' : Vt} {c : Nat} {t a n : Nat} {d o : Int} {f : Nat → Int}
theorem non_01 : non v t d o = 0 ∨ non v t d o = 1 := by
  by_cases h : alk v t d o 0 0 0 0
  · exact Or.inr (cif_t h)
  · exact Or.inl (cif_f h)
theorem pw3 {J : Nat} (hJ : J ≤ 3) (b : Nat) (h : b < 2 ^ J) : b < 8 := by
  have : J = 0 ∨ J = 1 ∨ J = 2 ∨ J = 3 := by omega
  rcases this with rfl | rfl | rfl | rfl <;> omega
/-- the joint that is sure has its bit -/
theorem sure_j {J : Nat} (hJ : J ≤ 3) (h : Btj v t d o n J = 1 ∨ Btj v t d o n J = 2 ∨ Btj v t d o n J = 4) : Btj v t d o n J / 2 < J ∧ hbj v t d o n (Btj v t d o n J / 2) = 1 := by
  have h0 := hbj_lt (v := v) (t := t) (d := d) (o := o) (n := n) (j := 0)
  have h1 := hbj_lt (v := v) (t := t) (d := d) (o := o) (n := n) (j := 1)
  have h2 := hbj_lt (v := v) (t := t) (d := d) (o := o) (n := n) (j := 2)
  have b0 : Btj v t d o n 0 = 0 := rfl
  have b1 : Btj v t d o n 1 = Btj v t d o n 0 + hbj v t d o n 0 * 2 ^ 0 := rfl
  have b2 : Btj v t d o n 2 = Btj v t d o n 1 + hbj v t d o n 1 * 2 ^ 1 := rfl
  have b3 : Btj v t d o n 3 = Btj v t d o n 2 + hbj v t d o n 2 * 2 ^ 2 := rfl
  have : J = 0 ∨ J = 1 ∨ J = 2 ∨ J = 3 := by omega
  rcases this with rfl | rfl | rfl | rfl
  · omega
  · rcases h with e | e | e
    · rw [e]; exact ⟨by omega, by show hbj v t d o n 0 = 1; omega⟩
    · omega
    · omega
  · rcases h with e | e | e
    · rw [e]; exact ⟨by omega, by show hbj v t d o n 0 = 1; omega⟩
    · rw [e]; exact ⟨by omega, by show hbj v t d o n 1 = 1; omega⟩
    · omega
  · rcases h with e | e | e
    · rw [e]; exact ⟨by omega, by show hbj v t d o n 0 = 1; omega⟩
    · rw [e]; exact ⟨by omega, by show hbj v t d o n 1 = 1; omega⟩
    · rw [e]; exact ⟨by omega, by show hbj v t d o n 2 = 1; omega⟩
theorem bit1 : ∀ b : Nat, b < 8 → (I ([0, 1, 1, 2, 1, 2, 2, 3].getD b 0) = 1 ↔ (b = 1 ∨ b = 2 ∨ b = 4)) := by decide
theorem q_tell {K : Int32 → Sg → Prop} {J : Nat} {w : Int} (hC : Cp σ) (hJ : 1 ≤ J ∧ J ≤ 3) (hw : 0 ≤ w ∧ w ≤ 5) (hF : SuF σ v t d o n J) (hK : K (I (tel v t d o n J w)) σ) : Con l mX1_tell [.inr 62, .inl (I w)] σ (PI K) := by
  obtain ⟨F1, F2, F3, F4⟩ := hF
  rw [if_neg (by omega)] at F1 F3
  have nn := non_01 (v := v) (t := t) (d := d) (o := o)
  have b8 := pw3 hJ.2 _ (Btj_lt (v := v) (t := t) (d := d) (o := o) (n := n) J)
  have hwi : (I w).toInt = w := toInt_I (by omega) (by omega)
  -- not sure
  have N : ¬ sure v t d o n J → GW l mX1_tell 19 [(0, .inr 62), (1, .inl (I w)), (2, .inl (-1))] [.inl 0] σ 0 0 (PI K) := by
    intro hs
    refine gX1_tell_19 ?_
    rw [hwi, F1, F2, F3]
    refine ⟨fun q => ⟨fun _ => ?_, fun z => absurd rfl z⟩, fun q => ⟨hC.o62, ?_⟩, fun q => ⟨hC.o62, ?_⟩, fun q => ⟨hC.o62, fun z => ?_, fun z => ?_⟩, fun q => ?_, fun q => ⟨fun _ => ?_, fun z => absurd rfl z⟩⟩
    · unfold tel at hK; rw [if_neg (by omega), if_neg (by omega), if_neg (by omega), cif_f hs] at hK; exact hK
    · unfold tel at hK; rw [if_pos q] at hK; exact hK
    · unfold tel at hK; rw [if_neg (by omega), if_pos q] at hK; exact hK
    · unfold tel at hK; rw [if_neg (by omega), if_neg (by omega), if_pos q] at hK
      rw [I_0, I_eq ⟨by omega, by omega⟩ ⟨by omega, by omega⟩] at z
      rw [z] at hK; exact hK
    · unfold tel at hK; rw [if_neg (by omega), if_neg (by omega), if_pos q] at hK
      rw [I_0, I_eq ⟨by omega, by omega⟩ ⟨by omega, by omega⟩] at z
      rw [show non v t d o = 1 by omega] at hK; exact hK
    · unfold tel at hK; rw [if_neg (by omega), if_neg (by omega), if_neg (by omega), cif_f hs] at hK; exact hK
    · unfold tel at hK; rw [if_neg (by omega), if_neg (by omega), if_neg (by omega), cif_f hs] at hK; exact hK
  have Y : sure v t d o n J → GW l mX1_tell 19 [(0, .inr 62), (1, .inl (I w)), (2, .inl (I ((Btj v t d o n J / 2 : Nat) : Int)))] [.inl 1] σ 0 0 (PI K) := by
    intro hs
    obtain ⟨s1, s2⟩ := sure_j hJ.2 hs.2
    obtain ⟨lo, hi, y1, y2, y3, y4⟩ := F4 _ s1 s2
    have l1 : σ.2.1 (σ.2.2 62 4) (I ((Btj v t d o n J / 2 : Nat) : Int)).toNatClampNeg = I (loE v t d o n (Btj v t d o n J / 2)) := by rw [hC.p62_4, I_cln (by omega), y1, loE_eq y3]
    have l2 : σ.2.1 (σ.2.2 62 5) (I ((Btj v t d o n J / 2 : Nat) : Int)).toNatClampNeg = I (hiE v t d o n (Btj v t d o n J / 2)) := by rw [hC.p62_5, I_cln (by omega), y2, hiE_eq y4]
    refine gX1_tell_19 ?_
    rw [hwi, F1, F2, F3, l1, l2]
    refine ⟨fun q => ⟨fun z => absurd z (by decide), fun _ => ⟨hC.o62, hC.a62_5 (by omega) (by omega), ?_⟩⟩, fun q => ⟨hC.o62, ?_⟩, fun q => ⟨hC.o62, ?_⟩, fun q => ⟨hC.o62, fun z => ?_, fun z => ?_⟩, fun q => ?_, fun q => ⟨fun z => absurd z (by decide), fun _ => ⟨hC.o62, hC.a62_4 (by omega) (by omega), ?_⟩⟩⟩
    · unfold tel at hK; rw [if_neg (by omega), if_neg (by omega), if_neg (by omega), cif_t hs, if_neg (by omega), if_neg (by omega)] at hK; exact hK
    · unfold tel at hK; rw [if_pos q] at hK; exact hK
    · unfold tel at hK; rw [if_neg (by omega), if_pos q] at hK; exact hK
    · unfold tel at hK; rw [if_neg (by omega), if_neg (by omega), if_pos q] at hK
      rw [I_0, I_eq ⟨by omega, by omega⟩ ⟨by omega, by omega⟩] at z
      rw [z] at hK; exact hK
    · unfold tel at hK; rw [if_neg (by omega), if_neg (by omega), if_pos q] at hK
      rw [I_0, I_eq ⟨by omega, by omega⟩ ⟨by omega, by omega⟩] at z
      rw [show non v t d o = 1 by omega] at hK; exact hK
    · unfold tel at hK; rw [if_neg (by omega), if_neg (by omega), if_neg (by omega), cif_t hs, if_pos q] at hK; exact hK
    · unfold tel at hK; rw [if_neg (by omega), if_neg (by omega), if_neg (by omega), cif_t hs, if_neg (by omega), if_pos q] at hK; exact hK
  refine eX1_tell ⟨hC.o62, eX1_sureJoint ⟨hC.o62, fun q => ?_, fun q => ?_⟩⟩
  · rw [F3, I_0, I_eq ⟨by omega, by omega⟩ ⟨by omega, by omega⟩] at q
    exact ⟨fun _ => N (fun z => q z.1), fun z => absurd (by decide) z⟩
  · rw [F3, I_0, I_eq ⟨by omega, by omega⟩ ⟨by omega, by omega⟩] at q
    refine eJ6_bitCount_0f7a4 ?_
    rw [F2, shr_8 _ b8]
    show (bc32 (I (Btj v t d o n J : Int)) = 1 → _) ∧ (¬ bc32 (I (Btj v t d o n J : Int)) = 1 → _)
    rw [bc_8 _ b8, bit1 _ b8]
    refine ⟨fun z => ?_, fun z => ⟨fun _ => N (fun y => z y.2), fun y => absurd (by decide) y⟩⟩
    have s := sure_j hJ.2 z
    refine ⟨fun y => ?_, fun _ => ⟨fun y => ?_, fun _ => Y ⟨q, z⟩⟩⟩
    · rw [I_0, I_lt ⟨by omega, by omega⟩ ⟨by omega, by omega⟩] at y; omega
    · rw [L_lit, I_le ⟨by omega, by omega⟩ ⟨by omega, by omega⟩] at y; omega
theorem C_suspects {z d o w : Int} (h : CR σ v) (hw : WF c v) (hz : Rg z) (hd : Rg d) (ho : Rg o) (hr : Rg w) : Con l mX11_suspects [.inr 1, .inl (I z), .inl (I d), .inl (I o), .inl (I w)] σ (PI fun x σ' => x = I (aSus v z d o w) ∧ CR σ' v ∧ CF σ σ') := by
  have no : ∀ {q : Int32}, q = -2 → ¬ okSus v z d o w → q = I (aSus v z d o w) ∧ CR σ v ∧ CF σ σ := by
    intro q e hq
    unfold aSus; rw [cif_f hq]; exact ⟨e, h, CF.rf _⟩
  refine eX11_suspects (q_within (b := 0) (c := 5) hr ⟨by omega, by omega⟩ ⟨by omega, by omega⟩ (fun b1 b2 => ⟨fun q => absurd q (by decide), fun _ => ⟨h.1.o1, ?_⟩⟩) (fun q => ⟨fun _ => gX11_suspects_21 ⟨fun z => absurd rfl z, fun _ => no rfl (fun y => q y.2)⟩, fun q => absurd rfl q⟩))
  refine q_aimed h hw hz hd ho (fun t a σ1 et ht ea ha hj ok h1 f1 E hA => gX11_suspects_21 ⟨fun _ => ⟨h1.1.o1, by rw [h1.1.p1_5]; exact h1.1.o62, ?_⟩, fun q => absurd q (by omega)⟩) (fun q => gX11_suspects_21 ⟨fun z => absurd rfl z, fun _ => no rfl (fun y => q y.1)⟩)
  have n0 := (hw.2.2.2.1 t hA.1).2.2.2.1
  have w1' := (hw.2.2.1 a ha).1.1
  obtain ⟨n, hn⟩ : ∃ n : Nat, v.2.1 t 0 1 = n := ⟨(v.2.1 t 0 1).toNat, by omega⟩
  obtain ⟨J, hJ⟩ : ∃ J : Nat, v.1 a 0 2 = J := ⟨(v.1 a 0 2).toNat, by omega⟩
  rw [h1.1.p1_5, h1.1.p1_4]
  refine q_search1 h1 hw hA ea hn hJ (fun σ3 o3 F3 => ?_)
  obtain ⟨h3, f3⟩ := h1.onl hw o3 (by decide)
  refine ⟨by rw [h3.1.p1_5]; exact h3.1.o62, ?_⟩
  rw [h3.1.p1_5]
  refine q_tell h3.1 (by omega) ⟨b1, b2⟩ F3 ⟨?_, h3, f1.tr f3⟩
  unfold aSus
  rw [cif_t (show okSus v z d o w from ⟨ok, b1, b2⟩), et, I_tn, hn, I_tn, ea, I_tn, hJ, I_tn]
end SUS3
