/-! share: the class -/
def okSet (v : Vt) (s : Int) : Prop := v.2.2.1 0 = 2 ∧ v.1 0 0 2 ≠ 0 ∧ v.1 1 0 2 ≠ 0 ∧ 0 < s ∧ s < ((2 ^ (v.2.2.1 1).toNat : Nat) : Int) ∧ cntB s.toNat 10 ≤ 5 ∧ ∀ t : Nat, (t : Int) < v.2.2.1 1 → s.toNat.testBit t = true → v.2.1 t 0 1 ≠ 0
def okSh (v : Vt) (s e w : Int) : Prop := (0 ≤ e ∧ e ≤ 2000) ∧ (0 ≤ w ∧ w ≤ 1) ∧ okSet v s
noncomputable def lbS (v : Vt) (s : Nat) (e : Int) : Int × Nat := Classical.epsilon (fun p : Int × Nat => AnsV v s e p.1 p.2)
theorem lbS_eq {v : Vt} {s bs : Nat} {e lt : Int} (h : AnsV v s e lt bs) : (lbS v s e).1 = lt ∧ (lbS v s e).2 = bs := by
  have : AnsV v s e (lbS v s e).1 (lbS v s e).2 := Classical.epsilon_spec (p := fun p : Int × Nat => AnsV v s e p.1 p.2) ⟨(lt, bs), h⟩
  exact this.un h
noncomputable def aShare (v : Vt) (s e w : Int) : Int := cif (okSh v s e w) (if w = 0 then (lbS v s.toNat e).1 else ((lbS v s.toNat e).2 : Nat)) (-1)
theorem bc_all : ∀ x : Nat, x < 32 → ∀ y : Nat, y < 32 → bc32 (I ((32 * x + y : Nat) : Int)) = I (cntB (32 * x + y) 10 : Nat) := by decide +kernel
section SHK
variable {l : Launch} {σ σ' τ : Sg} {v : Vt} {c N s : Nat} {e : Int}
set_option maxHeartbeats 1000000 in
theorem q_canShare {K : Int32 → Sg → Prop} {z : Int} (h : CR σ v) (hw : WF c v) (hz : Rg z) (h1 : okSet v z → K 1 σ) (h0 : ¬ okSet v z → K 0 σ) : Con l mX7_canShare [.inr 2, .inl (I z)] σ (PI K) := by
  have w0 := hw.1
  obtain ⟨N, hN⟩ : ∃ N : Nat, v.2.2.1 1 = N := ⟨(v.2.2.1 1).toNat, by omega⟩
  have N10 : N ≤ 10 := by omega
  have pN : 2 ^ N ≤ 2 ^ 10 := Nat.pow_le_pow_right (by omega) N10
  have pN0 : 0 < 2 ^ N := Nat.two_pow_pos N
  have tN : (v.2.2.1 1).toNat = N := by omega
  have a0 := (hw.2.2.1 0 (by omega)).1.1
  have a1 := (hw.2.2.1 1 (by omega)).1.1
  have rest : v.2.2.1 0 = 2 → v.1 0 0 2 ≠ 0 → v.1 1 0 2 ≠ 0 → GW l mX7_canShare 2 [(0, .inr 2), (1, .inl (I z)), (2, .inl 2)] [] σ 0 0 (PI K) := by
    intro h2 j0 j1
    refine gX7_canShare_2 ⟨fun _ => ?_, fun q => absurd (by decide) q⟩
    rw [I_0, I_le' hz.1 hz.2 (by omega) (by omega)]
    refine ⟨fun q => h0 (fun k => by have := k.2.2.2.1; omega), fun z0 => ⟨h.1.o2, ?_⟩⟩
    rw [h.2.2.2.1.1, hN, onI N (by omega), I_le' (by omega) (by omega) hz.1 hz.2]
    refine ⟨fun q => h0 (fun k => by have := k.2.2.2.2.1; rw [tN] at this; omega), fun z1 => ?_⟩
    obtain ⟨s, es⟩ : ∃ s : Nat, z = s := ⟨z.toNat, by omega⟩
    subst es
    have s10 : s < 1024 := by omega
    refine eJ6_bitCount_0f7a4 ?_
    show (bc32 (I (s : Int)) ≤ 5 → _) ∧ (¬ bc32 (I (s : Int)) ≤ 5 → _)
    have eb : bc32 (I (s : Int)) = I (cntB s 10 : Nat) := by
      have := bc_all (s / 32) (by omega) (s % 32) (by omega)
      rw [show 32 * (s / 32) + s % 32 = s by omega] at this; exact this
    have cl := cntB_le (s := s) 10
    rw [eb, show (5 : Int32) = I 5 from rfl, I_le' (by omega) (by omega) (by omega) (by omega)]
    refine ⟨fun m5 => ?_, fun m5 => h0 (fun k => by have := k.2.2.2.2.2.1; rw [I_tn] at this; omega)⟩
    have F0 : (∃ t : Nat, (t : Int) < v.2.2.1 1 ∧ s.testBit t = true ∧ v.2.1 t 0 1 = 0) → ∀ i, i ≤ N → GW l mX7_canShare 60 [(0, .inr 2), (1, .inl (I s)), (2, .inl 0), (3, .inl (I i))] [] σ 0 0 (PI K) := by
      rintro ⟨t, t1, t2, t3⟩
      refine lp ?_ ?_
      · refine gX7_canShare_60 ⟨h.1.o2, fun _ => ⟨Or.inl rfl, h0 (fun k => k.2.2.2.2.2.2 t t1 (by rw [I_tn]; exact t2) t3)⟩, fun q => absurd ?_ q⟩
        rw [h.2.2.2.1.1, hN]; exact (I_le ⟨by omega, by omega⟩ ⟨by omega, by omega⟩).mpr (Int.le_refl _)
      · intro i hi ih
        refine gX7_canShare_60 ⟨h.1.o2, fun q => ?_, fun _ => h.tp hw ⟨by omega, by omega⟩ (fun t _ _ _ => ⟨fun _ => ?_, fun q => absurd rfl q⟩) (fun q => absurd ⟨by omega, by omega⟩ q)⟩
        · rw [h.2.2.2.1.1, hN, I_le ⟨by omega, by omega⟩ ⟨by omega, by omega⟩] at q; exact absurd q (by omega)
        · rw [I_1, I_add]; exact ih
    have F1 := lp (N := N) (P := fun i => (∀ t : Nat, t < i → s.testBit t = true → v.2.1 t 0 1 ≠ 0) → GW l mX7_canShare 60 [(0, .inr 2), (1, .inl (I s)), (2, .inl 1), (3, .inl (I i))] [] σ 0 0 (PI K)) ?_ ?_ 0 (by omega)
    · exact F1 (fun t ht => absurd ht (by omega))
    · intro al
      refine gX7_canShare_60 ⟨h.1.o2, fun _ => ⟨Or.inr rfl, h1 ⟨h2, j0, j1, by omega, by rw [tN]; omega, by rw [I_tn]; omega, fun t t1 t2 => al t (by omega) (by rw [I_tn] at t2; exact t2)⟩⟩, fun q => absurd ?_ q⟩
      rw [h.2.2.2.1.1, hN]; exact (I_le ⟨by omega, by omega⟩ ⟨by omega, by omega⟩).mpr (Int.le_refl _)
    · intro i hi ih al
      refine gX7_canShare_60 ⟨h.1.o2, fun q => ?_, fun _ => h.tp hw ⟨by omega, by omega⟩ (fun t et htn t10 => ⟨fun q => absurd q (by decide), fun _ => ?_⟩) (fun q => absurd ⟨by omega, by omega⟩ q)⟩
      · rw [h.2.2.2.1.1, hN, I_le ⟨by omega, by omega⟩ ⟨by omega, by omega⟩] at q; exact absurd q (by omega)
      have et : t = i := by omega
      subst et
      have wt := hw.2.2.2.1 t htn
      rw [bitI (by omega) (by omega), (h.D htn).2.1, I_0, I_le' (by omega) (by omega) (by omega) (by omega), I_1, I_add]
      refine ⟨fun q => ih (fun t' q1 q2 => ?_), fun q => ⟨fun w => absurd w (by omega), fun _ => ⟨(h.P t10).ob, fun w => ?_, fun w => ih (fun t' q1 q2 => ?_)⟩⟩⟩
      · by_cases e : t' = t
        · subst e
          rw [if_pos q2] at q; exact absurd q (by decide)
        · exact al t' (by omega) q2
      · have tb : s.testBit t = true := by
          by_cases y : s.testBit t = true
          · exact y
          · rw [if_neg y] at q; exact absurd rfl q
        exact F0 ⟨t, htn, tb, by omega⟩ (t + 1) (by omega)
      · by_cases e : t' = t
        · subst e; omega
        · exact al t' (by omega) q2
  refine eX7_canShare (gX7_canShare_2 ⟨fun q => absurd q (by decide), fun _ => ⟨h.1.o2, h.ar (z := 0) hw ⟨by omega, by omega⟩ (fun a ea ha a2 => ⟨fun q => absurd q (by omega), fun _ => ⟨(h.A a2).ob, ?_⟩⟩) (fun q => ⟨fun _ => h0 (fun k => q ⟨by omega, by have := k.1; omega⟩), fun q => absurd rfl q⟩)⟩⟩)
  have ea : a = 0 := by omega
  subst ea
  rw [(h.A a2).jn, I_0, I_eq' (by omega) (by omega) (by omega) (by omega)]
  refine ⟨fun j0 => ?_, fun j0 => h0 (fun k => k.2.1 j0)⟩
  refine gX7_canShare_2 ⟨fun q => absurd q (by decide), fun _ => ⟨h.1.o2, h.ar (z := 1) hw ⟨by omega, by omega⟩ (fun a ea ha a2 => ⟨fun q => absurd q (by omega), fun _ => ⟨(h.A a2).ob, ?_⟩⟩) (fun q => ⟨fun _ => h0 (fun k => q ⟨by omega, by have := k.1; omega⟩), fun q => absurd rfl q⟩)⟩⟩
  have ea : a = 1 := by omega
  subst ea
  rw [(h.A a2).jn, I_0, I_eq' (by omega) (by omega) (by omega) (by omega)]
  exact ⟨fun j1 => rest (by omega) j0 j1, fun j1 => h0 (fun k => k.2.2.1 j1)⟩
theorem C_share {s e w : Int} (h : CR σ v) (hw : WF c v) (hz : σ.2.2 1 8 = 120) (hs : Rg s) (he : Rg e) (hq : Rg w) : Con l mX11_share [.inr 1, .inl (I s), .inl (I e), .inl (I w)] σ (PI fun q σ' => q = I (aShare v s e w) ∧ CR σ' v ∧ CF σ σ') := by
  have w0 := hw.1
  have no : ∀ {q : Int32}, q = -1 → ¬ okSh v s e w → q = I (aShare v s e w) ∧ CR σ v ∧ CF σ σ := by
    intro q e1 hq
    unfold aShare
    rw [cif_f hq]
    exact ⟨e1, h, CF.rf _⟩
  refine eX11_share (eX11_isError (q_within (b := 0) (c := 2000) he ⟨by omega, by omega⟩ ⟨by omega, by omega⟩ (fun e1 e2 => ⟨Or.inr rfl, fun z => absurd z (by decide), fun _ => ?_⟩) (fun e1 => ⟨Or.inl rfl, fun _ => no rfl (fun k => e1 k.1), fun z => absurd rfl z⟩)))
  refine q_within (b := 0) (c := 1) hq ⟨by omega, by omega⟩ ⟨by omega, by omega⟩ (fun e3 e4 => ⟨fun z => absurd z (by decide), fun _ => ⟨h.1.o1, by rw [h.1.p1_0]; exact h.1.o2, ?_⟩⟩) (fun e3 => ⟨fun _ => no rfl (fun k => e3 k.2.1), fun z => absurd rfl z⟩)
  rw [h.1.p1_0]
  refine q_canShare h hw hs (fun ok => ⟨fun _ => ?_, fun z => absurd z (by decide)⟩) (fun nk => ⟨fun z => absurd rfl z, fun _ => no rfl (fun k => nk k.2.2)⟩)
  rw [h.1.p1_7, h.1.p1_0]
  have okS : okSh v s e w := ⟨⟨e1, e2⟩, ⟨e3, e4⟩, ok⟩
  unfold aShare
  rw [cif_t okS]
  obtain ⟨o1, _, _, o4, o5, o6, o7⟩ := ok
  obtain ⟨N, hN⟩ : ∃ N : Nat, v.2.2.1 1 = N := ⟨(v.2.2.1 1).toNat, by omega⟩
  obtain ⟨S, eS⟩ : ∃ S : Nat, s = S := ⟨s.toNat, by omega⟩
  subst eS
  rw [I_tn] at o6
  have sN : S < 2 ^ N := by rw [show (v.2.2.1 1).toNat = N by omega] at o5; omega
  have h' := h
  have cf' := CF.rf σ
  have hz' := hz
  refine q_ready h hz ?_
  refine ⟨h'.1.o74, q_shSearch h' hw hz' o1 hN sN o6 (fun t t1 t2 => o7 t (by omega) (by rw [I_tn]; exact t2)) ⟨e1, e2⟩ (fun σ2 lt bs c2 an b1 b2 => ?_)⟩
  obtain ⟨h2, f2⟩ := h'.cs c2 (by omega)
  have lb := lbS_eq an
  rw [h2.1.p1_7, I_tn, I_0, I_eq' (by omega) (by omega) (by omega) (by omega)]
  refine ⟨fun z => ⟨h2.1.o74, ?_, h2, cf'.tr f2⟩, fun z => ⟨h2.1.o74, ?_, h2, cf'.tr f2⟩⟩
  · rw [if_neg z, b2, lb.2]
  · rw [if_pos z, b1, lb.1]
theorem C_shareN {s e w : Int} (h : CR σ v) (hw : WF c v) (hz : σ.2.2 1 8 = 0) (hs : Rg s) (he : Rg e) (hq : Rg w) : Con l mX11_shareN [.inr 1, .inl (I s), .inl (I e), .inl (I w)] σ (PI fun q σ' => q = I (aShare v s e w) ∧ CR σ' v ∧ CF σ σ') := by
  have w0 := hw.1
  have no : ∀ {q : Int32}, q = -1 → ¬ okSh v s e w → q = I (aShare v s e w) ∧ CR σ v ∧ CF σ σ := by
    intro q e1 hq
    unfold aShare
    rw [cif_f hq]
    exact ⟨e1, h, CF.rf _⟩
  refine eX11_shareN (eX11_isError (q_within (b := 0) (c := 2000) he ⟨by omega, by omega⟩ ⟨by omega, by omega⟩ (fun e1 e2 => ⟨Or.inr rfl, fun z => absurd z (by decide), fun _ => ?_⟩) (fun e1 => ⟨Or.inl rfl, fun _ => no rfl (fun k => e1 k.1), fun z => absurd rfl z⟩)))
  refine q_within (b := 0) (c := 1) hq ⟨by omega, by omega⟩ ⟨by omega, by omega⟩ (fun e3 e4 => ⟨fun z => absurd z (by decide), fun _ => ⟨h.1.o1, by rw [h.1.p1_0]; exact h.1.o2, ?_⟩⟩) (fun e3 => ⟨fun _ => no rfl (fun k => e3 k.2.1), fun z => absurd rfl z⟩)
  rw [h.1.p1_0]
  refine q_canShare h hw hs (fun ok => ⟨fun _ => ?_, fun z => absurd z (by decide)⟩) (fun nk => ⟨fun z => absurd rfl z, fun _ => no rfl (fun k => nk k.2.2)⟩)
  rw [h.1.p1_7, h.1.p1_0]
  have okS : okSh v s e w := ⟨⟨e1, e2⟩, ⟨e3, e4⟩, ok⟩
  unfold aShare
  rw [cif_t okS]
  obtain ⟨o1, _, _, o4, o5, o6, o7⟩ := ok
  obtain ⟨N, hN⟩ : ∃ N : Nat, v.2.2.1 1 = N := ⟨(v.2.2.1 1).toNat, by omega⟩
  obtain ⟨S, eS⟩ : ∃ S : Nat, s = S := ⟨s.toNat, by omega⟩
  subst eS
  rw [I_tn] at o6
  have sN : S < 2 ^ N := by rw [show (v.2.2.1 1).toNat = N by omega] at o5; omega
  refine q_readyN h hw hz (fun σ1 h' cf' hz' _ => ?_)
  refine ⟨h'.1.o74, q_shSearch h' hw hz' o1 hN sN o6 (fun t t1 t2 => o7 t (by omega) (by rw [I_tn]; exact t2)) ⟨e1, e2⟩ (fun σ2 lt bs c2 an b1 b2 => ?_)⟩
  obtain ⟨h2, f2⟩ := h'.cs c2 (by omega)
  have lb := lbS_eq an
  rw [h2.1.p1_7, I_tn, I_0, I_eq' (by omega) (by omega) (by omega) (by omega)]
  refine ⟨fun z => ⟨h2.1.o74, ?_, h2, cf'.tr f2⟩, fun z => ⟨h2.1.o74, ?_, h2, cf'.tr f2⟩⟩
  · rw [if_neg z, b2, lb.2]
  · rw [if_pos z, b1, lb.1]
end SHK
