/-! public methods, 3: joint, wear -/
section P4
variable {l : Launch} {σ σ' : Sg} {v v' : Vt} {c : Nat}
theorem q_hasTapes {a : Int} {K : Int32 → Sg → Prop} (h : CR σ v) (hw : WF c v) (ha : Rg a) (h1 : (∃ t : Nat, (t : Int) < v.2.2.1 1 ∧ v.2.1 t 0 0 = a) → K 1 σ) (h0 : ¬ (∃ t : Nat, (t : Int) < v.2.2.1 1 ∧ v.2.1 t 0 0 = a) → K 0 σ) : Con l mX7_hasTapes [.inr 2, .inl (I a)] σ (PI K) := by
  have hw0 := hw.1
  have F : ∀ n j : Nat, (j : Int) + n = v.2.2.1 1 → (((∃ t : Nat, t < j ∧ v.2.1 t 0 0 = a) → GW l mX7_hasTapes 4 [(0, .inr 2), (1, .inl (I a)), (2, .inl 1), (3, .inl (I j))] [] σ 0 0 (PI K)) ∧ (¬ (∃ t : Nat, t < j ∧ v.2.1 t 0 0 = a) → GW l mX7_hasTapes 4 [(0, .inr 2), (1, .inl (I a)), (2, .inl 0), (3, .inl (I j))] [] σ 0 0 (PI K))) := by
    intro n
    induction n with
    | zero =>
      intro j hj
      refine ⟨fun ⟨t, ht, e⟩ => gX7_hasTapes_4 ⟨h.1.o2, fun _ => ⟨Or.inr rfl, h1 ⟨t, by omega, e⟩⟩, fun q => absurd ?_ q⟩, fun q0 => gX7_hasTapes_4 ⟨h.1.o2, fun _ => ⟨Or.inl rfl, h0 (fun ⟨t, ht, e⟩ => q0 ⟨t, by omega, e⟩)⟩, fun q => absurd ?_ q⟩⟩
      · rw [h.2.2.2.1.1]; exact (I_le ⟨by omega, by omega⟩ ⟨by omega, by omega⟩).mpr (by omega)
      · rw [h.2.2.2.1.1]; exact (I_le ⟨by omega, by omega⟩ ⟨by omega, by omega⟩).mpr (by omega)
    | succ n ih =>
      intro j hj
      have nx := ih (j + 1) (by omega)
      have hwt := hw.2.2.2.1 j (by omega)
      have e1 : I (j : Int) + 1 = I ((j + 1 : Nat) : Int) := by rw [I_1, I_add]; rfl
      refine ⟨fun ⟨t, ht, e⟩ => gX7_hasTapes_4 ⟨h.1.o2, fun q => ?_, fun _ => h.tp hw ⟨by omega, by omega⟩ (fun t' e' _ _ => ⟨fun _ => ?_, fun q => absurd q (by decide)⟩) (fun q => absurd ⟨by omega, by omega⟩ q)⟩, fun q0 => gX7_hasTapes_4 ⟨h.1.o2, fun q => ?_, fun _ => h.tp hw ⟨by omega, by omega⟩ (fun t' e' ht' h10 => ⟨fun q => absurd rfl q, fun _ => ⟨fun q => absurd q (by omega), fun _ => ⟨(h.P h10).ob, fun q => ?_, fun q => ?_⟩⟩⟩) (fun q => absurd ⟨by omega, by omega⟩ q)⟩⟩
      · rw [h.2.2.2.1.1, I_le ⟨by omega, by omega⟩ ⟨by omega, by omega⟩] at q; omega
      · rw [e1]; exact nx.1 ⟨t, by omega, e⟩
      · rw [h.2.2.2.1.1, I_le ⟨by omega, by omega⟩ ⟨by omega, by omega⟩] at q; omega
      · have : t' = j := by omega
        subst this
        rw [(h.D ht').1, I_eq ⟨by omega, by omega⟩ ha] at q
        rw [e1]
        exact nx.2 (fun ⟨t, ht, e⟩ => by
          rcases Nat.lt_or_ge t t' with z | z
          · exact q0 ⟨t, z, e⟩
          · exact q (by rw [show t' = t by omega]; exact e))
      · have : t' = j := by omega
        subst this
        rw [(h.D ht').1, I_eq ⟨by omega, by omega⟩ ha] at q
        rw [e1]
        exact nx.1 ⟨t', by omega, q⟩
  exact eX7_hasTapes ((F (v.2.2.1 1).toNat 0 (by omega)).2 (fun ⟨t, ht, _⟩ => absurd ht (by omega)))
def okJ (v : Vt) (a z lo hi sp : Int) : Prop := (0 ≤ a ∧ a < v.2.2.1 0) ∧ v.1 a.toNat 0 2 < 3 ∧ (¬ ∃ t : Nat, (t : Int) < v.2.2.1 1 ∧ v.2.1 t 0 0 = a) ∧ (1 ≤ z ∧ z ≤ 6) ∧ (0 ≤ lo ∧ lo ≤ 15) ∧ (lo ≤ hi ∧ hi ≤ 15) ∧ (1 ≤ sp ∧ sp ≤ 3)
def jA (A : Nat → Nat → Int) (z lo hi sp : Int) : Nat → Nat → Int := upA (upA (upA (upA (upA A 1 (A 0 2).toNat z) 2 (A 0 2).toNat lo) 3 (A 0 2).toNat hi) 4 (A 0 2).toNat sp) 0 2 (A 0 2 + 1)
def dJ (v : Vt) (a : Nat) (z lo hi sp : Int) : Vt := (fun b => if b = a then jA (v.1 a) z lo hi sp else v.1 b, v.2.1, v.2.2.1, v.2.2.2)
noncomputable def nJoint (v : Vt) (a z lo hi sp : Int) : Vt := vif (okJ v a z lo hi sp) (dJ v a.toNat z lo hi sp) v
noncomputable def aJoint (v : Vt) (a z lo hi sp : Int) : Int := cif (okJ v a z lo hi sp) (v.1 a.toNat 0 2) (-1)
theorem dJ_a {a : Nat} {z lo hi sp : Int} : (dJ v a z lo hi sp).1 a = jA (v.1 a) z lo hi sp := by unfold dJ; simp
theorem dJ_o {a b : Nat} {z lo hi sp : Int} (h : b ≠ a) : (dJ v a z lo hi sp).1 b = v.1 b := by unfold dJ; simp [h]
/-- addJoint of an arm -/
theorem q_addJoint {r : Nat} {A : Nat → Nat → Int} {z lo hi sp : Int} {K : Int32 → Sg → Prop} (hA : ArmAt σ r A) (hw : ArmWf A) (h1 : A 0 2 < 3 → ∀ σ', σ'.1 = σ.1 → σ'.2.2 = σ.2.2 → (∀ q, ¬ (r ≤ q ∧ q ≤ r + 4) → σ'.2.1 q = σ.2.1 q) → ArmAt σ' r (jA A z lo hi sp) → K (I (A 0 2)) σ') (h0 : ¬ A 0 2 < 3 → K (-1) σ) : Con l mX0_addJoint [.inr r, .inl (I z), .inl (I lo), .inl (I hi), .inl (I sp)] σ (PI K) := by
  have hw0 := hw.1
  obtain ⟨n, hn⟩ : ∃ n : Nat, A 0 2 = n := ⟨(A 0 2).toNat, by omega⟩
  refine eX0_addJoint ?_
  rw [hA.jn, hn]
  refine ⟨hA.ob, fun q => ?_, fun _ => ⟨fun q => ?_, fun q => ?_⟩⟩
  · rw [I_0, I_lt ⟨by omega, by omega⟩ ⟨by omega, by omega⟩] at q; omega
  · rw [L_lit, I_lt ⟨by omega, by omega⟩ ⟨by omega, by omega⟩] at q
    have h3 : n < 3 := by omega
    refine ⟨hA.ai (k := 0) (by omega) h3, fun σ5 e5 => ?_⟩
    rw [(hA.2.1 0 (by omega)).1, I_cln (by omega)] at e5
    have A5 : ArmAt σ5 r (upA A 1 n z) := by rw [e5]; exact hA.w_arr (i := 0) (by omega) h3 z
    rw [A5.jn, upA_off (by omega), hn]
    refine ⟨A5.ai (k := 1) (by omega) h3, fun σ7 e7 => ?_⟩
    rw [(A5.2.1 1 (by omega)).1, I_cln (by omega)] at e7
    have A7 : ArmAt σ7 r (upA (upA A 1 n z) 2 n lo) := by rw [e7]; exact A5.w_arr (i := 1) (by omega) h3 lo
    rw [A7.jn, upA_off (by omega), upA_off (by omega), hn]
    refine ⟨A7.ai (k := 2) (by omega) h3, fun σ9 e9 => ?_⟩
    rw [(A7.2.1 2 (by omega)).1, I_cln (by omega)] at e9
    have A9 : ArmAt σ9 r (upA (upA (upA A 1 n z) 2 n lo) 3 n hi) := by rw [e9]; exact A7.w_arr (i := 2) (by omega) h3 hi
    rw [A9.jn, upA_off (by omega), upA_off (by omega), upA_off (by omega), hn]
    refine ⟨A9.ai (k := 3) (by omega) h3, fun σ11 e11 σ12 e12 => ?_⟩
    rw [(A9.2.1 3 (by omega)).1, I_cln (by omega)] at e11
    have A11 : ArmAt σ11 r (upA (upA (upA (upA A 1 n z) 2 n lo) 3 n hi) 4 n sp) := by rw [e11]; exact A9.w_arr (i := 3) (by omega) h3 sp
    have j11 : σ11.2.1 r 6 = I n := by rw [A11.jn, upA_off (by omega), upA_off (by omega), upA_off (by omega), upA_off (by omega), hn]
    rw [j11, I_1, I_add] at e12
    have A12 : ArmAt σ12 r (jA A z lo hi sp) := by rw [e12]; unfold jA; rw [hn, I_tn]; exact A11.w_own (i := 2) (by omega) ((n : Int) + 1)
    have hj : σ12.2.1 r 6 - 1 = I n := by
      rw [e12, w1_at, I_1, I_sub]; congr 1; omega
    rw [hj, ← hn]
    refine h1 (by omega) σ12 ?_ ?_ (fun q hq => ?_) A12
    · rw [e12, e11, e9, e7, e5]; rfl
    · rw [e12, e11, e9, e7, e5]; rfl
    · rw [e12, w1_r (by omega), e11, w1_r (by omega), e9, w1_r (by omega), e7, w1_r (by omega), e5, w1_r (by omega)]
  · rw [L_lit, I_lt ⟨by omega, by omega⟩ ⟨by omega, by omega⟩] at q
    exact h0 (by omega)
theorem C_joint {a z lo hi sp : Int} (h : CR σ v) (hw : WF c v) (ha : Rg a) (hz : Rg z) (hl : Rg lo) (hh : Rg hi) (hs : Rg sp) : Con l mX11_joint [.inr 1, .inl (I a), .inl (I z), .inl (I lo), .inl (I hi), .inl (I sp)] σ (PI fun q σ' => q = I (aJoint v a z lo hi sp) ∧ CR σ' (nJoint v a z lo hi sp) ∧ CF σ σ') := by
  have hw0 := hw.1
  have no : ∀ {q : Int32}, q = -1 → ¬ okJ v a z lo hi sp → q = I (aJoint v a z lo hi sp) ∧ CR σ (nJoint v a z lo hi sp) ∧ CF σ σ := by
    intro q e hq
    unfold nJoint aJoint
    rw [vif_f hq, cif_f hq]
    exact ⟨e, h, CF.rf _⟩
  refine eX11_joint ⟨h.1.o1, by rw [h.1.p1_0]; exact h.1.o2, ?_⟩
  rw [h.1.p1_0]
  refine h.ar hw ha (fun n e hn h2 => ⟨fun q => absurd q (by omega), fun _ => ⟨by rw [h.1.p1_0]; exact h.1.o2, ?_⟩⟩) (fun q => ⟨fun _ => no rfl (fun k => q k.1), fun q => absurd rfl q⟩)
  rw [h.1.p1_0]
  refine q_hasTapes h hw ha (fun k1 => ⟨fun _ => no rfl (fun k => k.2.2.1 k1), fun q => absurd q (by decide)⟩) (fun k1 => ⟨fun q => absurd rfl q, fun _ => ?_⟩)
  refine q_within (b := 1) (c := 6) hz ⟨by omega, by omega⟩ ⟨by omega, by omega⟩ (fun z1 z2 => ⟨fun q => absurd q (by decide), fun _ => ?_⟩) (fun q => ⟨fun _ => no rfl (fun k => q k.2.2.2.1), fun q => absurd rfl q⟩)
  refine q_within (b := 1) (c := 3) hs ⟨by omega, by omega⟩ ⟨by omega, by omega⟩ (fun s1 s2 => ⟨fun _ => ?_, fun q => absurd q (by decide)⟩) (fun q => ⟨fun q => absurd rfl q, fun _ => no rfl (fun k => q k.2.2.2.2.2.2)⟩)
  refine q_within (b := 0) (c := 15) hl ⟨by omega, by omega⟩ ⟨by omega, by omega⟩ (fun l1 l2 => ⟨fun q => absurd q (by decide), fun _ => ?_⟩) (fun q => ⟨fun _ => no rfl (fun k => q k.2.2.2.2.1), fun q => absurd rfl q⟩)
  refine q_within (c := 15) hh hl ⟨by omega, by omega⟩ (fun g1 g2 => ⟨fun _ => ⟨(h.A h2).ob, ?_⟩, fun q => absurd q (by decide)⟩) (fun q => ⟨fun q => absurd rfl q, fun _ => no rfl (fun k => q k.2.2.2.2.2.1)⟩)
  subst e
  refine q_addJoint (h.A h2) (hw.2.2.1 n h2).1 (fun j3 σ' hn' h2' E A' => ?_) (fun j3 => no rfl (fun k => j3 (by have := k.2.1; rw [I_tn] at this; exact this)))
  have ok : okJ v n z lo hi sp := ⟨⟨by omega, hn⟩, by rw [I_tn]; exact j3, k1, ⟨z1, z2⟩, ⟨l1, l2⟩, ⟨g1, g2⟩, s1, s2⟩
  unfold nJoint aJoint
  rw [vif_t ok, cif_t ok, I_tn]
  refine ⟨rfl, h.armsOnly (by omega) hn' h2' (fun r p q => E r (by omega)) (by rw [E 2 (by omega)]) (by rw [E 2 (by omega)]) ⟨by rw [E 2 (by omega)]; exact h.2.2.1.1, fun b hb => ?_⟩ rfl (fun _ _ => rfl) rfl⟩
  by_cases e : b = n
  · subst e; rw [dJ_a]; exact A'
  · rw [dJ_o e]
    exact (h.A hb).eq (Nat.le_of_eq hn'.symm) (fun k hk => ⟨E _ (by omega), by rw [h2']⟩)
/-! wear -/
def okW (v : Vt) (a j k s t : Int) : Prop := (0 ≤ a ∧ a < v.2.2.1 0) ∧ (0 ≤ j ∧ j < v.1 a.toNat 0 2) ∧ (0 ≤ k ∧ k ≤ 1) ∧ (0 ≤ s ∧ s ≤ 3) ∧ (0 ≤ t ∧ t ≤ 39)
def wA (A : Nat → Nat → Int) (j k s t : Int) : Nat → Nat → Int := upA (upA (upA (upA A 5 0 j) 5 1 k) 5 2 s) 5 3 t
def dW (v : Vt) (a : Nat) (j k s t : Int) : Vt := (fun b => if b = a then wA (v.1 a) j k s t else v.1 b, v.2.1, v.2.2.1, v.2.2.2)
noncomputable def nWear (v : Vt) (a j k s t : Int) : Vt := vif (okW v a j k s t) (dW v a.toNat j k s t) v
noncomputable def aWear (v : Vt) (a j k s t : Int) : Int := cif (okW v a j k s t) 1 0
theorem dW_a {a : Nat} {j k s t : Int} : (dW v a j k s t).1 a = wA (v.1 a) j k s t := by unfold dW; simp
theorem dW_o {a b : Nat} {j k s t : Int} (h : b ≠ a) : (dW v a j k s t).1 b = v.1 b := by unfold dW; simp [h]
theorem C_wear {a j k s t : Int} (h : CR σ v) (hw : WF c v) (ha : Rg a) (hj : Rg j) (hk : Rg k) (hs : Rg s) (ht : Rg t) : Con l mX11_wear [.inr 1, .inl (I a), .inl (I j), .inl (I k), .inl (I s), .inl (I t)] σ (PI fun q σ' => q = I (aWear v a j k s t) ∧ CR σ' (nWear v a j k s t) ∧ CF σ σ') := by
  have hw0 := hw.1
  have no : ∀ {q : Int32}, q = 0 → ¬ okW v a j k s t → q = I (aWear v a j k s t) ∧ CR σ (nWear v a j k s t) ∧ CF σ σ := by
    intro q e hq
    unfold nWear aWear
    rw [vif_f hq, cif_f hq]
    exact ⟨e, h, CF.rf _⟩
  refine eX11_wear ⟨h.1.o1, by rw [h.1.p1_0]; exact h.1.o2, ?_⟩
  rw [h.1.p1_0]
  refine h.ar hw ha (fun n e hn h2 => ⟨fun q => absurd q (by omega), fun _ => ⟨(h.A h2).ob, ?_⟩⟩) (fun q => ⟨fun _ => no rfl (fun k => q k.1), fun q => absurd rfl q⟩)
  subst e
  have hwf := (hw.2.2.1 n h2).1
  have hw1 := hwf.1
  rw [(h.A h2).jn, I_1, I_sub]
  refine q_within (b := 0) hj ⟨by omega, by omega⟩ ⟨by omega, by omega⟩ (fun z1 z2 => ⟨fun q => absurd q (by decide), fun _ => ?_⟩) (fun q => ⟨fun _ => no rfl (fun k => q (by have := k.2.1; rw [I_tn] at this; omega)), fun q => absurd rfl q⟩)
  refine q_within (b := 0) (c := 1) hk ⟨by omega, by omega⟩ ⟨by omega, by omega⟩ (fun s1 s2 => ⟨fun _ => ?_, fun q => absurd q (by decide)⟩) (fun q => ⟨fun q => absurd rfl q, fun _ => no rfl (fun k => q k.2.2.1)⟩)
  refine q_within (b := 0) (c := 3) hs ⟨by omega, by omega⟩ ⟨by omega, by omega⟩ (fun l1 l2 => ⟨fun q => absurd q (by decide), fun _ => ?_⟩) (fun q => ⟨fun _ => no rfl (fun k => q k.2.2.2.1), fun q => absurd rfl q⟩)
  refine q_within (b := 0) (c := 39) ht ⟨by omega, by omega⟩ ⟨by omega, by omega⟩ (fun g1 g2 => ⟨fun _ => ?_, fun q => absurd q (by decide)⟩) (fun q => ⟨fun q => absurd rfl q, fun _ => no rfl (fun k => q k.2.2.2.2)⟩)
  refine eX0_wearOut ⟨(h.A h2).ob, fun σ2 e2 σ3 e3 σ4 e4 σ5 e5 => ?_⟩
  have ok : okW v n j k s t := ⟨⟨by omega, hn⟩, ⟨z1, by rw [I_tn]; omega⟩, ⟨s1, s2⟩, ⟨l1, l2⟩, g1, g2⟩
  have A' : ArmAt σ5 (5 + 5 * n) (wA (v.1 n) j k s t) := by
    rw [e5, e4, e3, e2]
    exact ((((h.A h2).w_wear (i := 0) (by omega) j).w_wear (i := 1) (by omega) k).w_wear (i := 2) (by omega) s).w_wear (i := 3) (by omega) t
  have E : ∀ r, r ≠ 5 + 5 * n → σ5.2.1 r = σ.2.1 r := fun r hr => by rw [e5, w1_r hr, e4, w1_r hr, e3, w1_r hr, e2, w1_r hr]
  have hn' : σ5.1 = σ.1 := by rw [e5, e4, e3, e2]; rfl
  have h2' : σ5.2.2 = σ.2.2 := by rw [e5, e4, e3, e2]; rfl
  unfold nWear aWear
  rw [vif_t ok, cif_t ok, I_tn]
  refine ⟨rfl, h.armsOnly (by omega) hn' h2' (fun r p q => E r (by omega)) (by rw [E 2 (by omega)]) (by rw [E 2 (by omega)]) ⟨by rw [E 2 (by omega)]; exact h.2.2.1.1, fun b hb => ?_⟩ rfl (fun _ _ => rfl) rfl⟩
  by_cases e : b = n
  · subst e; rw [dW_a]; exact A'
  · rw [dW_o e]
    exact (h.A hb).eq (Nat.le_of_eq hn'.symm) (fun k hk => ⟨E _ (by omega), by rw [h2']⟩)
end P4
