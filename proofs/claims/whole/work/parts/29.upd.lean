/-! changes of a state, and of what it means -/
def upA (A : Nat → Nat → Int) (i j : Nat) (z : Int) : Nat → Nat → Int := fun i' j' => if i' = i ∧ j' = j then z else A i' j'
def setA (v : Vt) (a i j : Nat) (z : Int) : Vt := (fun a' => if a' = a then upA (v.1 a) i j z else v.1 a', v.2.1, v.2.2.1, v.2.2.2)
def setT (v : Vt) (t i j : Nat) (z : Int) : Vt := (v.1, fun t' => if t' = t then upA (v.2.1 t) i j z else v.2.1 t', v.2.2.1, v.2.2.2)
def setS (v : Vt) (k : Nat) (z : Int) : Vt := (v.1, v.2.1, fun k' => if k' = k then z else v.2.2.1 k', v.2.2.2)
def setR (v : Vt) (q i : Nat) (z : Int) : Vt := (v.1, v.2.1, v.2.2.1, fun q' i' => if q' = q ∧ i' = i then z else v.2.2.2 q' i')
theorem upA_at (A : Nat → Nat → Int) (i j : Nat) (z : Int) : upA A i j z i j = z := by unfold upA; simp
theorem upA_off {A : Nat → Nat → Int} {i j i' j' : Nat} {z : Int} (h : ¬ (i' = i ∧ j' = j)) : upA A i j z i' j' = A i' j' := by unfold upA; rw [if_neg h]
theorem setA_a (v : Vt) (a i j : Nat) (z : Int) : (setA v a i j z).1 a = upA (v.1 a) i j z := by unfold setA; simp
theorem setA_o {v : Vt} {a i j b : Nat} {z : Int} (h : b ≠ a) : (setA v a i j z).1 b = v.1 b := by unfold setA; simp [h]
theorem setT_t (v : Vt) (t i j : Nat) (z : Int) : (setT v t i j z).2.1 t = upA (v.2.1 t) i j z := by unfold setT; simp
theorem setT_o {v : Vt} {t i j b : Nat} {z : Int} (h : b ≠ t) : (setT v t i j z).2.1 b = v.2.1 b := by unfold setT; simp [h]
theorem setS_k (v : Vt) (k : Nat) (z : Int) : (setS v k z).2.2.1 k = z := by unfold setS; simp
theorem setS_o {v : Vt} {k b : Nat} {z : Int} (h : b ≠ k) : (setS v k z).2.2.1 b = v.2.2.1 b := by unfold setS; simp [h]
theorem ArmAt.w_own {σ : Sg} {r : Nat} {A : Nat → Nat → Int} (h : ArmAt σ r A) {i : Nat} (hi : i < 3) (z : Int) : ArmAt (w1 σ r (4 + i) (I z)) r (upA A 0 i z) := by
  refine ⟨h.1, h.2.1, fun k j hk hj => ?_, fun k hk => ?_, fun k hk => ?_⟩
  · rw [w1_r (by omega), upA_off (by omega)]; exact h.2.2.1 k j hk hj
  · by_cases e : k = i
    · subst e; rw [w1_at, upA_at]
    · rw [w1_k (by omega), upA_off (by omega)]; exact h.2.2.2.1 k hk
  · rw [w1_k (by omega), upA_off (by omega)]; exact h.2.2.2.2 k hk
theorem ArmAt.w_wear {σ : Sg} {r : Nat} {A : Nat → Nat → Int} (h : ArmAt σ r A) {i : Nat} (hi : i < 4) (z : Int) : ArmAt (w1 σ r (7 + i) (I z)) r (upA A 5 i z) := by
  refine ⟨h.1, h.2.1, fun k j hk hj => ?_, fun k hk => ?_, fun k hk => ?_⟩
  · rw [w1_r (by omega), upA_off (by omega)]; exact h.2.2.1 k j hk hj
  · rw [w1_k (by omega), upA_off (by omega)]; exact h.2.2.2.1 k hk
  · by_cases e : k = i
    · subst e; rw [w1_at, upA_at]
    · rw [w1_k (by omega), upA_off (by omega)]; exact h.2.2.2.2 k hk
theorem ArmAt.w_arr {σ : Sg} {r : Nat} {A : Nat → Nat → Int} (h : ArmAt σ r A) {i j : Nat} (hi : i < 4) (hj : j < 3) (z : Int) : ArmAt (w1 σ (r + 1 + i) j (I z)) r (upA A (i + 1) j z) := by
  refine ⟨h.1, h.2.1, fun k b hk hb => ?_, fun k hk => ?_, fun k hk => ?_⟩
  · by_cases e : k = i
    · subst e
      by_cases e2 : b = j
      · subst e2; rw [w1_at, upA_at]
      · rw [w1_k e2, upA_off (by omega)]; exact h.2.2.1 k b hk hb
    · rw [w1_r (by omega), upA_off (by omega)]; exact h.2.2.1 k b hk hb
  · rw [w1_r (by omega), upA_off (by omega)]; exact h.2.2.2.1 k hk
  · rw [w1_r (by omega), upA_off (by omega)]; exact h.2.2.2.2 k hk
theorem ArmAt.w_off {σ : Sg} {r c b : Nat} {A : Nat → Nat → Int} {x : Int32} (h : ArmAt σ r A) (hc : c < r ∨ r + 4 < c) : ArmAt (w1 σ c b x) r A :=
  h.eq (Nat.le_refl _) (fun k hk => ⟨w1_r (by omega), rfl⟩)
section UP
variable {σ σ' : Sg} {v v' : Vt}
theorem CRa.eq (h : CRa σ v) (hn : σ.1 ≤ σ'.1) (h2 : σ'.2.1 2 2 = σ.2.1 2 2) (he : ∀ r, 5 ≤ r → r ≤ 14 → Eqc σ σ' r) (hv : v'.1 = v.1) (h0 : v'.2.2.1 0 = v.2.2.1 0) : CRa σ' v' := by
  refine ⟨by rw [h2, h0]; exact h.1, fun a ha => ?_⟩
  rw [hv]
  exact (h.2 a ha).eq hn (fun k hk => he _ (by omega) (by omega))
theorem CRt.eq (h : CRt σ v) (hn : σ.1 ≤ σ'.1) (h3 : σ'.2.1 2 3 = σ.2.1 2 3) (h4 : σ'.2.1 2 4 = σ.2.1 2 4) (he : ∀ r, 15 ≤ r → r ≤ 44 → Eqc σ σ' r) (h51 : σ'.2.2 51 = σ.2.2 51) (h54 : σ'.2.2 54 = σ.2.2 54) (hv : v'.2.1 = v.2.1) (h1 : v'.2.2.1 1 = v.2.2.1 1) (h10 : v.2.2.1 1 ≤ 10) : CRt σ' v' := by
  refine ⟨by rw [h3, h1]; exact h.1, by rw [h4]; exact h.2.1, fun t ht => (h.2.2.1 t ht).eq hn (he _ (by omega) (by omega)).2, h.2.2.2.1.eq hn h51, h.2.2.2.2.1.eq hn h54, fun t ht => ?_⟩
  rw [h1] at ht
  rw [hv]
  exact (h.2.2.2.2.2 t ht).eq (fun k hk => he _ (by omega) (by omega))
theorem CRx.eq (h : CRx σ v) (h1 : σ'.2.1 45 4 = σ.2.1 45 4) (h2 : σ'.2.1 46 = σ.2.1 46) (h3 : σ'.2.1 50 6 = σ.2.1 50 6) (h4 : σ'.2.1 50 7 = σ.2.1 50 7) (e2 : v'.2.2.1 2 = v.2.2.1 2) (e3 : v'.2.2.1 3 = v.2.2.1 3) (e4 : v'.2.2.1 4 = v.2.2.1 4) (er : v'.2.2.2 0 = v.2.2.2 0) : CRx σ' v' := by
  refine ⟨by rw [h1, e2]; exact h.1, fun i hi => ?_, by rw [h3, e3]; exact h.2.2.1, by rw [h4, e4]; exact h.2.2.2⟩
  rw [h2, er]; exact h.2.1 i (by rw [← e2]; exact hi)
theorem CRp.eq (h : CRp σ v) (h1 : σ'.2.1 58 = σ.2.1 58) (h2 : σ'.2.1 1 = σ.2.1 1) (h3 : σ'.2.1 69 8 = σ.2.1 69 8) (h4 : σ'.2.1 73 = σ.2.1 73) (e5 : v'.2.2.1 5 = v.2.2.1 5) (e6 : v'.2.2.1 6 = v.2.2.1 6) (e7 : v'.2.2.1 7 = v.2.2.1 7) (e8 : v'.2.2.1 8 = v.2.2.1 8) (r1 : v'.2.2.2 1 = v.2.2.2 1) (r2 : v'.2.2.2 2 = v.2.2.2 2) : CRp σ' v' := by
  refine ⟨fun s hs => by rw [h1, r1]; exact h.1 s hs, by rw [h2, e5]; exact h.2.1, by rw [h2, e6]; exact h.2.2.1, by rw [h2, e7]; exact h.2.2.2.1, by rw [h3, e8]; exact h.2.2.2.2.1, fun k hk => ?_⟩
  rw [h4, r2]; exact h.2.2.2.2.2 k (by rw [← e8]; exact hk)
/-- no reference was written -/
theorem CR.mk2 (h : CR σ v) (hn : σ'.1 = σ.1) (h2 : σ'.2.2 = σ.2.2) (ha : CRa σ' v') (ht : CRt σ' v') (hx : CRx σ' v') (hp : CRp σ' v') : CR σ' v' := by
  refine ⟨⟨by rw [hn]; exact h.1.1, by rw [h2]; exact h.1.2⟩, ?_, ha, ht, hx, hp⟩
  rcases h.2.1 with q | ⟨q1, q2, q3⟩
  · exact Or.inl ⟨by rw [h2]; exact q.1, by rw [hn]; exact q.2⟩
  · exact Or.inr ⟨by rw [h2]; exact q1, ⟨by rw [hn]; exact q2.1, by rw [h2]; exact q2.2⟩, by rw [h2]; exact q3⟩
theorem MR.mk2 (h : MR σ v) (hn : σ'.1 = σ.1) (h2 : σ'.2.2 = σ.2.2) (ha : σ'.2.1 82 4 = I (v'.2.2.1 0) ∧ MArms σ' v'.1) (ht : MRt σ' v') (hx : MRx σ' v') (hp : MRp σ' v') : MR σ' v' :=
  ⟨⟨by rw [hn]; exact h.1.1, by rw [h2]; exact h.1.2⟩, ha, ht, hx, hp⟩
theorem MArms.eq {V : Nat → Nat → Nat → Int} (h : MArms σ V) (he : ∀ r, 84 ≤ r → r ≤ 95 → σ'.2.1 r = σ.2.1 r) : MArms σ' V := by
  refine ⟨fun k hk => by rw [he 84 (by omega) (by omega)]; exact h.1 k hk, fun a ha => ?_⟩
  rw [he 85 (by omega) (by omega), he 86 (by omega) (by omega), he 87 (by omega) (by omega), he 88 (by omega) (by omega), he 89 (by omega) (by omega), he 90 (by omega) (by omega), he 91 (by omega) (by omega), he 92 (by omega) (by omega), he 93 (by omega) (by omega), he 94 (by omega) (by omega), he 95 (by omega) (by omega)]
  exact h.2 a ha
theorem MRt.eq (h : MRt σ v) (h1 : σ'.2.1 82 16 = σ.2.1 82 16) (he : ∀ r, 96 ≤ r → r ≤ 99 → σ'.2.1 r = σ.2.1 r) (hv : v'.2.1 = v.2.1) (e1 : v'.2.2.1 1 = v.2.2.1 1) : MRt σ' v' := by
  refine ⟨by rw [h1, e1]; exact h.1, fun t ht => ?_⟩
  rw [he 96 (by omega) (by omega), he 97 (by omega) (by omega), he 98 (by omega) (by omega), he 99 (by omega) (by omega), hv]
  exact h.2 t (by rw [← e1]; exact ht)
theorem MRx.eq (h : MRx σ v) (h1 : σ'.2.1 82 2 = σ.2.1 82 2) (h2 : σ'.2.1 83 = σ.2.1 83) (h3 : σ'.2.1 82 29 = σ.2.1 82 29) (h4 : σ'.2.1 82 30 = σ.2.1 82 30) (e2 : v'.2.2.1 2 = v.2.2.1 2) (e3 : v'.2.2.1 3 = v.2.2.1 3) (e4 : v'.2.2.1 4 = v.2.2.1 4) (er : v'.2.2.2 0 = v.2.2.2 0) : MRx σ' v' := by
  refine ⟨by rw [h1, e2]; exact h.1, fun i hi => ?_, by rw [h3, e3]; exact h.2.2.1, by rw [h4, e4]; exact h.2.2.2⟩
  rw [h2, er]; exact h.2.1 i (by rw [← e2]; exact hi)
theorem MRp.eq (h : MRp σ v) (h1 : σ'.2.1 104 = σ.2.1 104) (hk : ∀ k ∈ [39, 40, 41, 48], σ'.2.1 82 k = σ.2.1 82 k) (h4 : σ'.2.1 109 = σ.2.1 109) (e5 : v'.2.2.1 5 = v.2.2.1 5) (e6 : v'.2.2.1 6 = v.2.2.1 6) (e7 : v'.2.2.1 7 = v.2.2.1 7) (e8 : v'.2.2.1 8 = v.2.2.1 8) (r1 : v'.2.2.2 1 = v.2.2.2 1) (r2 : v'.2.2.2 2 = v.2.2.2 2) : MRp σ' v' := by
  refine ⟨fun s hs => by rw [h1, r1]; exact h.1 s hs, by rw [hk 39 (by decide), e5]; exact h.2.1, by rw [hk 40 (by decide), e6]; exact h.2.2.1, by rw [hk 41 (by decide), e7]; exact h.2.2.2.1, by rw [hk 48 (by decide), e8]; exact h.2.2.2.2.1, fun k hk => ?_⟩
  rw [h4, r2]; exact h.2.2.2.2.2 k (by rw [← e8]; exact hk)
end UP
section P2
variable {l : Launch} {σ : Sg} {v : Vt} {c : Nat}
/-! nozzle -/
noncomputable def nNozzle (v : Vt) (z : Int) : Vt := @ite Vt (0 ≤ z ∧ z ≤ 30) (Classical.propDecidable _) (setS v 5 z) v
noncomputable def aNozzle (z : Int) : Int := cif (0 ≤ z ∧ z ≤ 30) 1 0
theorem C_nozzle {z : Int} (h : CR σ v) (hw : WF c v) (hz : Rg z) : Con l mX11_nozzle [.inr 1, .inl (I z)] σ (PI fun x σ' => x = I (aNozzle z) ∧ CR σ' (nNozzle v z) ∧ CF σ σ') := by
  have hw0 := hw.1
  refine eX11_nozzle (q_within (b := 0) (c := 30) hz ⟨by omega, by omega⟩ ⟨by omega, by omega⟩ (fun a b => ⟨fun _ => ⟨h.1.o1, fun σ4 e4 => ?_⟩, fun q => absurd q (by decide)⟩) (fun q => ⟨fun q => absurd rfl q, fun _ => ?_⟩))
  · have ho : Only [1] σ σ4 := by rw [e4]; exact Only.w List.mem_cons_self
    refine ⟨by unfold aNozzle; rw [cif_t ⟨a, b⟩]; rfl, ?_, ho.CF (fun r hr => by rw [List.mem_singleton.mp hr]; omega)⟩
    have hv : nNozzle v z = setS v 5 z := by unfold nNozzle; exact if_pos ⟨a, b⟩
    rw [hv]
    have E : ∀ r, r ≠ 1 → Eqc σ σ4 r := fun r hr => ho.2 r (fun q => hr (List.mem_singleton.mp q))
    have h2 : σ4.2.2 = σ.2.2 := by rw [e4]; rfl
    refine h.mk2 ho.1 h2 (h.2.2.1.eq (Nat.le_of_eq ho.1.symm) (by rw [(E 2 (by omega)).1]) (fun r a b => E r (by omega)) rfl rfl) (h.2.2.2.1.eq (Nat.le_of_eq ho.1.symm) (by rw [(E 2 (by omega)).1]) (by rw [(E 2 (by omega)).1]) (fun r a b => E r (by omega)) (by rw [h2]) (by rw [h2]) rfl rfl (by omega)) (h.2.2.2.2.1.eq (by rw [(E 45 (by omega)).1]) (E 46 (by omega)).1 (by rw [(E 50 (by omega)).1]) (by rw [(E 50 (by omega)).1]) rfl rfl rfl rfl) ?_
    have hp := h.2.2.2.2.2
    refine ⟨fun s hs => by rw [(E 58 (by omega)).1]; exact hp.1 s hs, ?_, ?_, ?_, by rw [(E 69 (by omega)).1]; exact hp.2.2.2.2.1, fun k hk => by rw [(E 73 (by omega)).1]; exact hp.2.2.2.2.2 k hk⟩
    · rw [e4, w1_at, setS_k]
    · rw [e4, w1_k (by omega), setS_o (by omega)]; exact hp.2.2.1
    · rw [e4, w1_k (by omega), setS_o (by omega)]; exact hp.2.2.2.1
  · have hv : nNozzle v z = v := by unfold nNozzle; exact if_neg q
    rw [hv]
    exact ⟨by unfold aNozzle; rw [cif_f q]; rfl, h, CF.rf _⟩
theorem M_nozzle {z : Int} (h : MR σ v) (hw : WF c v) (hz : Rg z) : Con l mX12_nozzle [.inr 82, .inl (I z)] σ (PI fun x σ' => x = I (aNozzle z) ∧ MR σ' (nNozzle v z) ∧ MF σ σ') := by
  refine eX12_nozzle ⟨h.1.ob, fun σ2 e2 => ?_⟩
  obtain ⟨h, f⟩ := h.w e2 (by decide)
  refine q_in (b := 0) (c := 30) hz ⟨by omega, by omega⟩ ⟨by omega, by omega⟩ (fun a b => ⟨fun _ σ4 e4 => ?_, fun q => absurd q (by decide)⟩) (fun q => ⟨fun q => absurd rfl q, fun _ => ?_⟩)
  · have ho : Only [82] σ2 σ4 := by rw [e4]; exact Only.w List.mem_cons_self
    refine ⟨by unfold aNozzle; rw [cif_t ⟨a, b⟩]; rfl, ?_, f.tr (ho.MF (fun r hr => by rw [List.mem_singleton.mp hr]; omega))⟩
    have hv : nNozzle v z = setS v 5 z := by unfold nNozzle; exact if_pos ⟨a, b⟩
    rw [hv]
    have E : ∀ r, r ≠ 82 → σ4.2.1 r = σ2.2.1 r := fun r hr => (ho.2 r (fun q => hr (List.mem_singleton.mp q))).1
    have Ek : ∀ k, k ≠ 39 → σ4.2.1 82 k = σ2.2.1 82 k := fun k hk => by rw [e4, w1_k hk]
    have h2 : σ4.2.2 = σ2.2.2 := by rw [e4]; rfl
    refine h.mk2 ho.1 h2 ⟨by rw [Ek 4 (by omega)]; exact h.2.1.1, h.2.1.2.eq (fun r a b => E r (by omega))⟩ (h.2.2.1.eq (Ek 16 (by omega)) (fun r a b => E r (by omega)) rfl rfl) (h.2.2.2.1.eq (Ek 2 (by omega)) (E 83 (by omega)) (Ek 29 (by omega)) (Ek 30 (by omega)) rfl rfl rfl rfl) ?_
    have hp := h.2.2.2.2
    refine ⟨fun s hs => by rw [E 104 (by omega)]; exact hp.1 s hs, ?_, by rw [Ek 40 (by omega)]; exact hp.2.2.1, by rw [Ek 41 (by omega)]; exact hp.2.2.2.1, by rw [Ek 48 (by omega)]; exact hp.2.2.2.2.1, fun k hk => by rw [E 109 (by omega)]; exact hp.2.2.2.2.2 k hk⟩
    rw [e4, w1_at, setS_k]
  · have hv : nNozzle v z = v := by unfold nNozzle; exact if_neg q
    rw [hv]
    exact ⟨by unfold aNozzle; rw [cif_f q]; rfl, h, f⟩
end P2
