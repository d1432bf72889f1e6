/-! public methods, 1: those that only read -/
noncomputable def cif (p : Prop) (a b : Int) : Int := @ite Int p (Classical.propDecidable p) a b
theorem cif_t {p : Prop} {a b : Int} (h : p) : cif p a b = a := by unfold cif; exact if_pos h
theorem cif_f {p : Prop} {a b : Int} (h : ¬ p) : cif p a b = b := by unfold cif; exact if_neg h
/-- a call of the class leaves the reference's cells, and the law's own -/
def CF (σ σ' : Sg) : Prop := σ.1 ≤ σ'.1 ∧ ∀ r, 82 ≤ r → r ≤ 119 → Eqc σ σ' r
/-- a call of the reference leaves all cells but its own -/
def MF (σ σ' : Sg) : Prop := σ'.1 = σ.1 ∧ ∀ r, ¬ (82 ≤ r ∧ r ≤ 118) → Eqc σ σ' r
theorem CF.rf (σ : Sg) : CF σ σ := ⟨Nat.le_refl _, fun _ _ _ => ⟨rfl, rfl⟩⟩
theorem MF.rf (σ : Sg) : MF σ σ := ⟨rfl, fun _ _ => ⟨rfl, rfl⟩⟩
theorem Eqc.tr {σ σ1 σ2 : Sg} {r : Nat} (h1 : Eqc σ σ1 r) (h2 : Eqc σ1 σ2 r) : Eqc σ σ2 r := ⟨h2.1.trans h1.1, h2.2.trans h1.2⟩
theorem CF.tr {σ σ1 σ2 : Sg} (h1 : CF σ σ1) (h2 : CF σ1 σ2) : CF σ σ2 := ⟨Nat.le_trans h1.1 h2.1, fun r a b => (h1.2 r a b).tr (h2.2 r a b)⟩
theorem MF.tr {σ σ1 σ2 : Sg} (h1 : MF σ σ1) (h2 : MF σ1 σ2) : MF σ σ2 := ⟨h2.1.trans h1.1, fun r a => (h1.2 r a).tr (h2.2 r a)⟩
theorem Only.CF {S : List Nat} {σ σ' : Sg} (h : Only S σ σ') (hs : ∀ r ∈ S, ¬ (82 ≤ r ∧ r ≤ 119)) : CF σ σ' := ⟨Nat.le_of_eq h.1.symm, fun r a b => h.2 r (fun q => hs r q ⟨a, b⟩)⟩
theorem Only.MF {S : List Nat} {σ σ' : Sg} (h : Only S σ σ') (hs : ∀ r ∈ S, 82 ≤ r ∧ r ≤ 118) : MF σ σ' := ⟨h.1, fun r a => h.2 r (fun q => a (hs r q))⟩
section P1
variable {l : Launch} {σ : Sg} {v : Vt} {c : Nat}
theorem MR.same {σ' : Sg} (h : MR σ v) (hn : σ.1 ≤ σ'.1) (he : ∀ r, 83 ≤ r → r ≤ 118 → Eqc σ σ' r) (h2 : σ'.2.2 82 = σ.2.2 82) (hk : ∀ k ∈ [2, 4, 16, 29, 30, 39, 40, 41, 48], σ'.2.1 82 k = σ.2.1 82 k) : MR σ' v := by
  obtain ⟨⟨p1, p2⟩, ⟨a1, a2, a3⟩, ⟨t1, t2⟩, ⟨x1, x2, x3, x4⟩, ⟨q1, q2, q3, q4, q5, q6⟩⟩ := h
  refine ⟨⟨Nat.le_trans p1 hn, fun q hq => by rw [h2]; exact p2 q hq⟩, ⟨by rw [hk 4 (by decide)]; exact a1, fun k hk => by rw [(he 84 (by omega) (by omega)).1]; exact a2 k hk, fun a ha => ?_⟩, ⟨by rw [hk 16 (by decide)]; exact t1, fun t ht => ?_⟩, ⟨by rw [hk 2 (by decide)]; exact x1, fun i hi => by rw [(he 83 (by omega) (by omega)).1]; exact x2 i hi, by rw [hk 29 (by decide)]; exact x3, by rw [hk 30 (by decide)]; exact x4⟩, ⟨fun s hs => by rw [(he 104 (by omega) (by omega)).1]; exact q1 s hs, by rw [hk 39 (by decide)]; exact q2, by rw [hk 40 (by decide)]; exact q3, by rw [hk 41 (by decide)]; exact q4, by rw [hk 48 (by decide)]; exact q5, fun k hk => by rw [(he 109 (by omega) (by omega)).1]; exact q6 k hk⟩⟩
  · rw [(he 85 (by omega) (by omega)).1, (he 86 (by omega) (by omega)).1, (he 87 (by omega) (by omega)).1, (he 88 (by omega) (by omega)).1, (he 89 (by omega) (by omega)).1, (he 90 (by omega) (by omega)).1, (he 91 (by omega) (by omega)).1, (he 92 (by omega) (by omega)).1, (he 93 (by omega) (by omega)).1, (he 94 (by omega) (by omega)).1, (he 95 (by omega) (by omega)).1]
    exact a3 a ha
  · rw [(he 96 (by omega) (by omega)).1, (he 97 (by omega) (by omega)).1, (he 98 (by omega) (by omega)).1, (he 99 (by omega) (by omega)).1]
    exact t2 t ht
/-- a write to the reference's own numbers that v doesn't speak of -/
theorem MR.w {k : Nat} {x : Int32} {σ' : Sg} (h : MR σ v) (e : σ' = w1 σ 82 k x) (hk : k ∉ [2, 4, 16, 29, 30, 39, 40, 41, 48]) : MR σ' v ∧ MF σ σ' := by
  subst e
  refine ⟨h.same (Nat.le_refl _) (fun r a b => ⟨w1_r (by omega), rfl⟩) rfl (fun b hb => w1_k (fun q => hk (q ▸ hb))), ?_⟩
  exact (Only.w (S := [82]) List.mem_cons_self).MF (fun r hr => by rw [List.mem_singleton.mp hr]; omega)
theorem MR.isArm (h : MR σ v) (hw : WF c v) {K : Int32 → Sg → Prop} {z : Int} (hz : Rg z) (h1 : ∀ a : Nat, z = a → (a : Int) < v.2.2.1 0 → a < 2 → K 1 σ) (h0 : ¬ (0 ≤ z ∧ z < v.2.2.1 0) → K 0 σ) : Con l mX12_isArm [.inr 82, .inl (I z)] σ (PI K) := by
  have a := hz.1; have b := hz.2; have hw0 := hw.1
  refine eX12_isArm ?_
  rw [h.2.1.1]
  simp (disch := omega) only [L_lit, I_lt', I_le']
  exact ⟨fun c => h0 (by omega), fun c => ⟨h.1.ob, fun c2 => h0 (by omega), fun c2 => h1 z.toNat (by omega) (by omega) (by omega)⟩⟩
theorem MR.isTape (h : MR σ v) (hw : WF c v) {K : Int32 → Sg → Prop} {z : Int} (hz : Rg z) (h1 : ∀ t : Nat, z = t → (t : Int) < v.2.2.1 1 → t < 10 → K 1 σ) (h0 : ¬ (0 ≤ z ∧ z < v.2.2.1 1) → K 0 σ) : Con l mX12_isTape [.inr 82, .inl (I z)] σ (PI K) := by
  have a := hz.1; have b := hz.2; have hw0 := hw.1
  refine eX12_isTape ?_
  rw [h.2.2.1.1]
  simp (disch := omega) only [L_lit, I_lt', I_le']
  exact ⟨fun c => h0 (by omega), fun c => ⟨h.1.ob, fun c2 => h0 (by omega), fun c2 => h1 z.toNat (by omega) (by omega) (by omega)⟩⟩
theorem I_tn {n : Nat} : ((n : Int)).toNat = n := by omega
theorem MR.ow (h : MR σ v) {t : Nat} (ht : (t : Int) < v.2.2.1 1) (h10 : t < 10) : σ.2.1 (σ.2.2 82 17) (I t).toNatClampNeg = I (v.2.1 t 0 0) := by rw [h.1.d17 (by omega) (by omega), I_tn]; exact (h.2.2.1.2 t ht).1
theorem MR.tk (h : MR σ v) {t : Nat} (ht : (t : Int) < v.2.2.1 1) (h10 : t < 10) : σ.2.1 (σ.2.2 82 18) (I t).toNatClampNeg = I (v.2.1 t 0 1) := by rw [h.1.d18 (by omega) (by omega), I_tn]; exact (h.2.2.1.2 t ht).2.1
noncomputable def aFault (v : Vt) (w : Int) : Int := if w = 0 then v.2.2.1 3 else if w = 1 then v.2.2.1 4 else -1
theorem C_fault {w : Int} (h : CR σ v) (hr : Rg w) : Con l mX11_fault [.inr 1, .inl (I w)] σ (PI fun x σ' => x = I (aFault v w) ∧ CR σ' v ∧ CF σ σ') := by
  have a := hr.1; have b := hr.2
  refine eX11_fault ?_
  rw [h.1.p1_2, h.2.2.2.2.1.2.2.1, h.2.2.2.2.1.2.2.2]
  simp (disch := omega) only [L_lit, I_eq']
  refine ⟨fun c => ⟨fun c2 => ⟨?_, h, CF.rf _⟩, fun c2 => ⟨h.1.o1, h.1.o50, ?_, h, CF.rf _⟩⟩, fun c => ⟨h.1.o1, h.1.o50, ?_, h, CF.rf _⟩⟩
  · unfold aFault; rw [if_neg c, if_neg c2]; rfl
  · unfold aFault; rw [if_neg c, if_pos c2]
  · unfold aFault; rw [if_pos c]
theorem M_fault {w : Int} (h : MR σ v) (hr : Rg w) : Con l mX12_fault [.inr 82, .inl (I w)] σ (PI fun x σ' => x = I (aFault v w) ∧ MR σ' v ∧ MF σ σ') := by
  have a := hr.1; have b := hr.2
  refine eX12_fault ⟨h.1.ob, fun σ2 e2 => ?_⟩
  obtain ⟨h, f⟩ := h.w e2 (by decide)
  rw [h.2.2.2.1.2.2.1, h.2.2.2.1.2.2.2]
  simp (disch := omega) only [L_lit, I_eq']
  refine ⟨fun c => ⟨fun c2 => ⟨?_, h, f⟩, fun c2 => ⟨?_, h, f⟩⟩, fun c => ⟨?_, h, f⟩⟩
  · unfold aFault; rw [if_neg c, if_neg c2]; rfl
  · unfold aFault; rw [if_neg c, if_pos c2]
  · unfold aFault; rw [if_pos c]
theorem C_stop (h : CR σ v) : Con l mX11_stop [.inr 1] σ (PI fun x σ' => x = I (v.2.2.1 6) ∧ CR σ' v ∧ CF σ σ') := eX11_stop ⟨h.1.o1, h.2.2.2.2.2.2.2.1, h, CF.rf _⟩
theorem M_stop (h : MR σ v) : Con l mX12_stop [.inr 82] σ (PI fun x σ' => x = I (v.2.2.1 6) ∧ MR σ' v ∧ MF σ σ') := eX12_stop ⟨h.1.ob, fun σ2 e2 => by
  obtain ⟨h, f⟩ := h.w e2 (by decide)
  exact ⟨h.2.2.2.2.2.2.1, h, f⟩⟩
theorem C_way (h : CR σ v) : Con l mX11_way [.inr 1] σ (PI fun x σ' => x = I (v.2.2.1 7) ∧ CR σ' v ∧ CF σ σ') := eX11_way ⟨h.1.o1, h.2.2.2.2.2.2.2.2.1, h, CF.rf _⟩
theorem M_way (h : MR σ v) : Con l mX12_way [.inr 82] σ (PI fun x σ' => x = I (v.2.2.1 7) ∧ MR σ' v ∧ MF σ σ') := eX12_way ⟨h.1.ob, fun σ2 e2 => by
  obtain ⟨h, f⟩ := h.w e2 (by decide)
  exact ⟨h.2.2.2.2.2.2.2.1, h, f⟩⟩
noncomputable def aAbout (v : Vt) (t w : Int) : Int := cif (0 ≤ t ∧ t < v.2.2.1 1 ∧ 0 ≤ w ∧ w ≤ 1) (v.2.1 t.toNat 0 w.toNat) (-1)
theorem C_about {t w : Int} (h : CR σ v) (hw : WF c v) (ht : Rg t) (hr : Rg w) : Con l mX11_about [.inr 1, .inl (I t), .inl (I w)] σ (PI fun x σ' => x = I (aAbout v t w) ∧ CR σ' v ∧ CF σ σ') := by
  have a := hr.1; have b := hr.2
  refine eX11_about ⟨h.1.o1, by rw [h.1.p1_0]; exact h.1.o2, ?_⟩
  rw [h.1.p1_0]
  refine h.tp hw ht (fun n e hn h10 => ⟨fun q => absurd q (by omega), fun _ => ?_⟩) (fun q => ⟨fun _ => ⟨?_, h, CF.rf _⟩, fun q => absurd rfl q⟩)
  · refine q_within (b := 0) (c := 1) ⟨a, b⟩ ⟨by omega, by omega⟩ ⟨by omega, by omega⟩ (fun a1 a2 => ⟨fun _ => ⟨fun c => ⟨(h.P h10).ob, ?_, h, CF.rf _⟩, fun c => ⟨(h.P h10).ob, ?_, h, CF.rf _⟩⟩, fun q => absurd q (by decide)⟩) (fun q => ⟨fun c => absurd rfl c, fun _ => ⟨?_, h, CF.rf _⟩⟩)
    · rw [I_0, I_eq ⟨by omega, by omega⟩ ⟨by omega, by omega⟩] at c
      rw [(h.D hn).2.1]; unfold aAbout
      rw [cif_t ⟨by omega, by omega, by omega, by omega⟩, e, I_tn, show w = 1 by omega]; rfl
    · rw [I_0, I_eq ⟨by omega, by omega⟩ ⟨by omega, by omega⟩] at c
      rw [(h.D hn).1]; unfold aAbout
      rw [cif_t ⟨by omega, by omega, by omega, by omega⟩, e, I_tn, c]; rfl
    · unfold aAbout; rw [cif_f (by omega)]; rfl
  · unfold aAbout; rw [cif_f (by omega)]; rfl
theorem M_about {t w : Int} (h : MR σ v) (hw : WF c v) (ht : Rg t) (hr : Rg w) : Con l mX12_about [.inr 82, .inl (I t), .inl (I w)] σ (PI fun x σ' => x = I (aAbout v t w) ∧ MR σ' v ∧ MF σ σ') := by
  have a := hr.1; have b := hr.2
  refine eX12_about ⟨h.1.ob, fun σ2 e2 => ?_⟩
  obtain ⟨h, f⟩ := h.w e2 (by decide)
  refine h.isTape hw ht (fun n e hn h10 => ⟨fun q => absurd q (by decide), fun _ => ?_⟩) (fun q => ⟨fun _ => ⟨?_, h, f⟩, fun q => absurd rfl q⟩)
  · subst e
    rw [h.ow hn h10, h.tk hn h10]
    simp (disch := omega) only [L_lit, I_lt', I_le', I_eq']
    refine ⟨fun c => ⟨?_, h, f⟩, fun c => ⟨fun c2 => ⟨fun c3 => ⟨h.1.a18 (by omega) (by omega), ?_, h, f⟩, fun c3 => ⟨h.1.a17 (by omega) (by omega), ?_, h, f⟩⟩, fun c2 => ⟨?_, h, f⟩⟩⟩
    · unfold aAbout; rw [cif_f (by omega)]; rfl
    · unfold aAbout
      rw [cif_t ⟨by omega, by omega, by omega, by omega⟩, I_tn, show w = 1 by omega]; rfl
    · unfold aAbout
      rw [cif_t ⟨by omega, by omega, by omega, by omega⟩, I_tn, c3]; rfl
    · unfold aAbout; rw [cif_f (by omega)]; rfl
  · unfold aAbout; rw [cif_f (by omega)]; rfl
noncomputable def aPoint (v : Vt) (a p k w : Int) : Int := cif ((0 ≤ a ∧ a < v.2.2.1 0) ∧ isPo (v.1 a.toNat) p ∧ (0 ≤ k ∧ k ≤ v.1 a.toNat 0 2) ∧ 0 ≤ w ∧ w ≤ 1) (pnt (v.1 a.toNat) p k.toNat w.toNat) (-2147483648)
theorem C_point {a p k w : Int} (h : CR σ v) (hw : WF c v) (ha : Rg a) (hp : Rg p) (hk : Rg k) (hr : Rg w) : Con l mX11_point [.inr 1, .inl (I a), .inl (I p), .inl (I k), .inl (I w)] σ (PI fun x σ' => x = I (aPoint v a p k w) ∧ CR σ' v ∧ CF σ σ') := by
  have a1 := hr.1; have a2 := hr.2; have a3 := hk.1; have a4 := hk.2
  refine eX11_point ⟨h.1.o1, by rw [h.1.p1_0]; exact h.1.o2, ?_⟩
  rw [h.1.p1_0]
  refine h.ar hw ha (fun n e hn h2 => ⟨fun q => absurd q (by omega), fun _ => ⟨(h.A h2).ob, ?_⟩⟩) (fun q => ⟨fun _ => ⟨?_, h, CF.rf _⟩, fun q => absurd rfl q⟩)
  · subst e
    have hwf := (hw.2.2.1 n h2).1
    have hw1 := hwf.1
    refine q_hasPose (h.A h2) hwf hp (fun hq => ⟨fun q => absurd q (by decide), fun _ => ?_⟩) (fun hq => ⟨fun _ => ⟨?_, h, CF.rf _⟩, fun q => absurd rfl q⟩)
    · rw [(h.A h2).jn]
      refine q_within (b := 0) hk ⟨by omega, by omega⟩ ⟨by omega, by omega⟩ (fun b1 b2 => ⟨fun q => absurd q (by decide), fun _ => ?_⟩) (fun q => ⟨fun _ => ⟨?_, h, CF.rf _⟩, fun q => absurd rfl q⟩)
      · refine q_within (b := 0) (c := 1) hr ⟨by omega, by omega⟩ ⟨by omega, by omega⟩ (fun c1 c2 => ⟨fun _ => ⟨fun d => ?_, fun d => ?_⟩, fun q => absurd q (by decide)⟩) (fun q => ⟨fun q => absurd rfl q, fun _ => ⟨?_, h, CF.rf _⟩⟩)
        · rw [I_0, I_eq ⟨by omega, by omega⟩ ⟨by omega, by omega⟩] at d
          rw [show k = ((k.toNat : Nat) : Int) by omega]
          refine q_pointY (h.A h2) (by omega) hq.1 (by have := hq.2.1; omega) ⟨?_, h, CF.rf _⟩
          unfold aPoint
          rw [cif_t ⟨⟨by omega, by omega⟩, hq, ⟨by omega, by rw [I_tn]; omega⟩, by omega, by omega⟩, I_tn, I_tn, show w = 1 by omega]; rfl
        · rw [I_0, I_eq ⟨by omega, by omega⟩ ⟨by omega, by omega⟩] at d
          rw [show k = ((k.toNat : Nat) : Int) by omega]
          refine q_pointX (h.A h2) (by omega) hq.1 (by have := hq.2.1; omega) ⟨?_, h, CF.rf _⟩
          unfold aPoint
          rw [cif_t ⟨⟨by omega, by omega⟩, hq, ⟨by omega, by rw [I_tn]; omega⟩, by omega, by omega⟩, I_tn, I_tn, d]; rfl
        · unfold aPoint; rw [cif_f (fun z => q ⟨z.2.2.2.1, z.2.2.2.2⟩)]; rfl
      · unfold aPoint; rw [cif_f (fun z => q z.2.2.1)]; rfl
    · unfold aPoint; rw [cif_f (fun z => hq z.2.1)]; rfl
  · unfold aPoint; rw [cif_f (fun z => q z.1)]; rfl
theorem M_point {a p k w : Int} (h : MR σ v) (hw : WF c v) (ha : Rg a) (hp : Rg p) (hk : Rg k) (hr : Rg w) : Con l mX12_point [.inr 82, .inl (I a), .inl (I p), .inl (I k), .inl (I w)] σ (PI fun x σ' => x = I (aPoint v a p k w) ∧ MR σ' v ∧ MF σ σ') := by
  have a1 := hr.1; have a2 := hr.2; have a3 := hk.1; have a4 := hk.2
  refine eX12_point ⟨h.1.ob, fun σ2 e2 => ?_⟩
  obtain ⟨h, f⟩ := h.w e2 (by decide)
  refine h.isArm hw ha (fun n e hn h2 => ⟨fun q => absurd q (by decide), fun _ => ?_⟩) (fun q => ⟨fun _ => ⟨?_, h, f⟩, fun q => absurd rfl q⟩)
  · subst e
    have hwf := (hw.2.2.1 n h2).1
    have hw1 := hwf.1
    refine m_isPose h.1 h.2.1.2 h2 hwf hp (fun hq => ⟨fun q => absurd q (by decide), fun _ => ?_⟩) (fun hq => ⟨fun _ => ⟨?_, h, f⟩, fun q => absurd rfl q⟩)
    · rw [h.2.1.2.jn h.1 h2]
      simp (disch := omega) only [L_lit, I_lt', I_le', I_eq']
      refine ⟨fun c => ⟨?_, h, f⟩, fun c => ⟨h.1.a7 (by omega) (by omega), fun c2 => ⟨?_, h, f⟩, fun c2 => ⟨fun c3 => ⟨?_, h, f⟩, fun c3 => ⟨fun c4 => ⟨fun c5 => ?_, fun c5 => ?_⟩, fun c4 => ⟨?_, h, f⟩⟩⟩⟩⟩
      · unfold aPoint; rw [cif_f (fun z => by have := z.2.2.1; omega)]; rfl
      · unfold aPoint; rw [cif_f (fun z => by have := z.2.2.1; rw [I_tn] at this; omega)]; rfl
      · unfold aPoint; rw [cif_f (fun z => by have := z.2.2.2; omega)]; rfl
      · rw [show k = ((k.toNat : Nat) : Int) by omega]
        refine m_pointOf (w := 1) h.1 h.2.1.2 h2 hq.1 (by have := hq.2.1; omega) (by omega) (Or.inr rfl) ⟨?_, h, f⟩
        unfold aPoint
        rw [cif_t ⟨⟨by omega, by omega⟩, hq, ⟨by omega, by rw [I_tn]; omega⟩, by omega, by omega⟩, I_tn, I_tn, show w = 1 by omega]; rfl
      · rw [show k = ((k.toNat : Nat) : Int) by omega]
        refine m_pointOf (w := 0) h.1 h.2.1.2 h2 hq.1 (by have := hq.2.1; omega) (by omega) (Or.inl rfl) ⟨?_, h, f⟩
        unfold aPoint
        rw [cif_t ⟨⟨by omega, by omega⟩, hq, ⟨by omega, by rw [I_tn]; omega⟩, by omega, by omega⟩, I_tn, I_tn, c5]; rfl
      · unfold aPoint; rw [cif_f (fun z => by have := z.2.2.2; omega)]; rfl
    · unfold aPoint; rw [cif_f (fun z => hq z.2.1)]; rfl
  · unfold aPoint; rw [cif_f (fun z => q z.1)]; rfl
noncomputable def aHop (v : Vt) (a p q : Int) : Int := cif ((0 ≤ a ∧ a < v.2.2.1 0) ∧ isPo (v.1 a.toNat) p ∧ isPo (v.1 a.toNat) q) (hop (v.1 a.toNat) p q) (-1)
theorem C_hop {a p q : Int} (h : CR σ v) (hw : WF c v) (ha : Rg a) (hp : Rg p) (hq : Rg q) : Con l mX11_hop [.inr 1, .inl (I a), .inl (I p), .inl (I q)] σ (PI fun x σ' => x = I (aHop v a p q) ∧ CR σ' v ∧ CF σ σ') := by
  refine eX11_hop ⟨h.1.o1, by rw [h.1.p1_0]; exact h.1.o2, ?_⟩
  rw [h.1.p1_0]
  refine h.ar hw ha (fun n e hn h2 => ⟨fun q => absurd q (by omega), fun _ => ⟨(h.A h2).ob, ?_⟩⟩) (fun q => ⟨fun _ => ⟨?_, h, CF.rf _⟩, fun q => absurd rfl q⟩)
  · subst e
    have hwf := (hw.2.2.1 n h2).1
    refine q_hasPose (h.A h2) hwf hp (fun b1 => ⟨fun q => absurd q (by decide), fun _ => ?_⟩) (fun b1 => ⟨fun _ => ⟨?_, h, CF.rf _⟩, fun q => absurd rfl q⟩)
    · refine q_hasPose (h.A h2) hwf hq (fun b2 => ⟨fun _ => ?_, fun q => absurd q (by decide)⟩) (fun b2 => ⟨fun q => absurd rfl q, fun _ => ⟨?_, h, CF.rf _⟩⟩)
      · refine q_hop (h.A h2) hwf b1.1 (by have := b1.2.1; omega) b2.1 (by have := b2.2.1; omega) ⟨?_, h, CF.rf _⟩
        unfold aHop; rw [cif_t ⟨⟨by omega, by omega⟩, b1, b2⟩, I_tn]
      · unfold aHop; rw [cif_f (fun z => b2 z.2.2)]; rfl
    · unfold aHop; rw [cif_f (fun z => b1 z.2.1)]; rfl
  · unfold aHop; rw [cif_f (fun z => q z.1)]; rfl
theorem M_hop {a p q : Int} (h : MR σ v) (hw : WF c v) (ha : Rg a) (hp : Rg p) (hq : Rg q) : Con l mX12_hop [.inr 82, .inl (I a), .inl (I p), .inl (I q)] σ (PI fun x σ' => x = I (aHop v a p q) ∧ MR σ' v ∧ MF σ σ') := by
  refine eX12_hop ⟨h.1.ob, fun σ2 e2 => ?_⟩
  obtain ⟨h, f⟩ := h.w e2 (by decide)
  refine h.isArm hw ha (fun n e hn h2 => ⟨fun q => absurd q (by decide), fun _ => ?_⟩) (fun q => ⟨fun _ => ⟨?_, h, f⟩, fun q => absurd rfl q⟩)
  · subst e
    have hwf := (hw.2.2.1 n h2).1
    refine m_isPose h.1 h.2.1.2 h2 hwf hp (fun b1 => ⟨fun q => absurd q (by decide), fun _ => ?_⟩) (fun b1 => ⟨fun _ => ⟨?_, h, f⟩, fun q => absurd rfl q⟩)
    · refine m_isPose h.1 h.2.1.2 h2 hwf hq (fun b2 => ⟨fun _ => ?_, fun q => absurd q (by decide)⟩) (fun b2 => ⟨fun q => absurd rfl q, fun _ => ⟨?_, h, f⟩⟩)
      · refine m_hop h.1 h.2.1.2 h2 hwf b1.1 (by have := b1.2.1; omega) b2.1 (by have := b2.2.1; omega) ⟨?_, h, f⟩
        unfold aHop; rw [cif_t ⟨⟨by omega, by omega⟩, b1, b2⟩, I_tn]
      · unfold aHop; rw [cif_f (fun z => b2 z.2.2)]; rfl
    · unfold aHop; rw [cif_f (fun z => b1 z.2.1)]; rfl
  · unfold aHop; rw [cif_f (fun z => q z.1)]; rfl
noncomputable def aMet (v : Vt) (k : Int) : Int := cif (0 ≤ k ∧ k < v.2.2.1 8) (v.2.2.2 2 k.toNat) (-1)
theorem C_met {k : Int} (h : CR σ v) (hw : WF c v) (hk : Rg k) : Con l mX11_met [.inr 1, .inl (I k)] σ (PI fun x σ' => x = I (aMet v k) ∧ CR σ' v ∧ CF σ σ') := by
  have a1 := hk.1; have a2 := hk.2; have a3 := hw.2.1
  refine eX11_met ⟨h.1.o1, by rw [h.1.p1_6]; exact h.1.o69, ?_⟩
  rw [h.1.p1_6]
  refine eX5_timeAt ?_
  rw [h.2.2.2.2.2.2.2.2.2.1]
  simp (disch := omega) only [L_lit, I_lt', I_le']
  refine ⟨fun c => ⟨?_, h, CF.rf _⟩, fun c => ⟨h.1.o69, fun c2 => ⟨?_, h, CF.rf _⟩, fun c2 => ⟨fun c3 => ⟨?_, h, CF.rf _⟩, fun c3 => ⟨h.1.a69_3 (by omega) (by omega), ?_, h, CF.rf _⟩⟩⟩⟩
  · unfold aMet; rw [cif_f (by omega)]; rfl
  · unfold aMet; rw [cif_f (by omega)]; rfl
  · unfold aMet; rw [cif_f (by omega)]; rfl
  · rw [h.1.d69_3 (by omega) (by omega)]; unfold aMet; rw [cif_t (by omega)]
    exact h.2.2.2.2.2.2.2.2.2.2 k.toNat (by omega)
theorem M_met {k : Int} (h : MR σ v) (hw : WF c v) (hk : Rg k) : Con l mX12_met [.inr 82, .inl (I k)] σ (PI fun x σ' => x = I (aMet v k) ∧ MR σ' v ∧ MF σ σ') := by
  have a1 := hk.1; have a2 := hk.2; have a3 := hw.2.1
  refine eX12_met ⟨h.1.ob, fun σ2 e2 => ?_⟩
  obtain ⟨h, f⟩ := h.w e2 (by decide)
  rw [h.2.2.2.2.2.2.2.2.1]
  simp (disch := omega) only [L_lit, I_lt', I_le']
  refine ⟨fun c => ⟨?_, h, f⟩, fun c => ⟨fun c2 => ⟨h.1.a47 (by omega) (by omega), ?_, h, f⟩, fun c2 => ⟨?_, h, f⟩⟩⟩
  · unfold aMet; rw [cif_f (by omega)]; rfl
  · rw [h.1.d47 (by omega) (by omega)]; unfold aMet; rw [cif_t (by omega)]
    exact h.2.2.2.2.2.2.2.2.2 k.toNat (by omega)
  · unfold aMet; rw [cif_f (by omega)]; rfl
end P1
