/-! meet -/
def okMeet (v : Vt) (a b : Int) : Prop := (0 ≤ a ∧ a < v.2.2.1 1) ∧ (0 ≤ b ∧ b < v.2.2.1 1) ∧ v.2.1 a.toNat 0 0 = 0 ∧ v.2.1 b.toNat 0 0 = 1 ∧ v.2.1 a.toNat 0 1 ≠ 0 ∧ v.2.1 b.toNat 0 1 ≠ 0
noncomputable def tMeet (v : Vt) (a b : Nat) : Int := MT (v.2.1 a 0 1).toNat (v.2.1 b 0 1).toNat (tcc v a b) 0 0
noncomputable def aMeet (v : Vt) (a b : Int) : Int := cif (okMeet v a b) (cif (tMeet v a.toNat b.toNat < 1000000) (tMeet v a.toNat b.toNat) (-2)) (-1)
noncomputable def nMeet (v : Vt) (a b : Int) : Vt := vif (okMeet v a b ∧ tMeet v a.toNat b.toNat < 1000000) (setM v (tMeet v a.toNat b.toNat + 1) (tolds (v.2.1 a.toNat 0 1).toNat (v.2.1 b.toNat 0 1).toNat (tcc v a.toNat b.toNat))) v
section MEC3
variable {l : Launch} {σ σ' : Sg} {v v' : Vt} {c : Nat} {a b n m J0 J1 : Nat} {tc : Nat → Nat → Prop}
theorem q_meetSearch {K : Int32 → Sg → Prop} (h : CR σ v) (hw : WF c v) (ha1 : (a : Int) < v.2.2.1 1) (hb1 : (b : Int) < v.2.2.1 1) (oa : v.2.1 a 0 0 = 0) (ob : v.2.1 b 0 0 = 1) (hn : v.2.1 a 0 1 = n) (hm : v.2.1 b 0 1 = m) (n1 : 1 ≤ n) (m1 : 1 ≤ m)
    (h1 : ∀ σ', MT n m (tcc v a b) 0 0 < 1000000 → CR σ' (setM v (MT n m (tcc v a b) 0 0 + 1) (tolds n m (tcc v a b))) → CF σ σ' → K (I (MT n m (tcc v a b) 0 0)) σ') (h0 : ∀ σ', ¬ MT n m (tcc v a b) 0 0 < 1000000 → CR σ' v → CF σ σ' → K (-2) σ') : Con l mX5_search [.inr 69, .inr (15 + 3 * a), .inr 5, .inr (15 + 3 * b), .inr 10] σ (PI K) := by
  have hw0 := hw.1
  have ga := hw.2.2.2.1 a ha1
  have gb := hw.2.2.2.1 b hb1
  have wA := (hw.2.2.1 0 (by omega)).1
  have wB := (hw.2.2.1 1 (by omega)).1
  have wA0 := wA.1; have wB0 := wB.1
  obtain ⟨J0, hJ0⟩ : ∃ J : Nat, v.1 0 0 2 = J := ⟨(v.1 0 0 2).toNat, by omega⟩
  obtain ⟨J1, hJ1⟩ : ∃ J : Nat, v.1 1 0 2 = J := ⟨(v.1 1 0 2).toNat, by omega⟩
  have h10 : v.2.2.1 1 ≤ 10 := by omega
  have A0 : ArmAt σ 5 (v.1 0) := h.A (a := 0) (by omega)
  have A1 : ArmAt σ 10 (v.1 1) := h.A (a := 1) (by omega)
  refine eX5_search ⟨A0.ob, h.1.o69, fun σ3 e3 => ?_⟩
  rw [A0.jn, hJ0, L_lit, I_mul] at e3
  have o3 : Onl [69, 70, 71, 72] σ σ3 := Onl.w e3 (by decide)
  obtain ⟨c3, f3⟩ := h.met0 h10 o3 (by rw [e3, w1_k (by omega)])
  have A13 : ArmAt σ3 10 (v.1 1) := c3.A (a := 1) (by omega)
  refine ⟨A13.ob, fun σ5 e5 => ?_⟩
  rw [A13.jn, hJ1, L_lit, I_mul] at e5
  have o5 : Onl [69, 70, 71, 72] σ σ5 := o3.tr (Onl.w e5 (by decide))
  obtain ⟨c5, f5⟩ := h.met0 h10 o5 (by rw [e5, w1_k (by omega), e3, w1_k (by omega)])
  refine ⟨(c5.P (by omega)).ob, ?_⟩
  rw [(c5.D ha1).2.1, hn]
  refine q_min (b := 40) ⟨by omega, by omega⟩ ⟨by omega, by omega⟩ (fun σ8 e8 => ?_)
  rw [I_1, I_sub, show min (n : Int) 40 = n by omega] at e8
  have o8 : Onl [69, 70, 71, 72] σ σ8 := o5.tr (Onl.w e8 (by decide))
  obtain ⟨c8, f8⟩ := h.met0 h10 o8 (by rw [e8, w1_k (by omega), e5, w1_k (by omega), e3, w1_k (by omega)])
  refine ⟨(c8.P (by omega)).ob, ?_⟩
  rw [(c8.D hb1).2.1, hm]
  refine q_min (b := 40) ⟨by omega, by omega⟩ ⟨by omega, by omega⟩ (fun σ11 e11 => ?_)
  rw [I_1, I_sub, show min (m : Int) 40 = m by omega] at e11
  have o11 : Onl [69, 70, 71, 72] σ σ11 := o8.tr (Onl.w e11 (by decide))
  have k8 : σ11.2.1 69 8 = σ.2.1 69 8 := by rw [e11, w1_k (by omega), e8, w1_k (by omega), e5, w1_k (by omega), e3, w1_k (by omega)]
  have N11 : MeN σ11 n m J0 J1 := by
    refine ⟨?_, ?_, ?_, ?_⟩
    · rw [e11, w1_k (by omega), e8, w1_k (by omega), e5, w1_k (by omega), e3, w1_at]; rfl
    · rw [e11, w1_k (by omega), e8, w1_k (by omega), e5, w1_at]; rfl
    · rw [e11, w1_k (by omega), e8, w1_at]
    · rw [e11, w1_at]
  have frm : ∀ {σ'}, Onl [70, 71, 72] σ11 σ' → CR σ' v ∧ CF σ σ' := fun o => h.met0 h10 (o11.tr (o.up (by decide))) (by rw [o.2.2 69 (by decide)]; exact k8)
  have G91 : ∀ i, i ≤ m → ∀ σ', Onl [70, 71, 72] σ11 σ' → BdS σ' 70 (v.1 0) (v.2.1 a 1) n J0 → BdS σ' 71 (v.1 1) (v.2.1 b 1) i J1 → GW l mX5_search 91 [(0, .inr 69), (1, .inr (15 + 3 * a)), (2, .inr 5), (3, .inr (15 + 3 * b)), (4, .inr 10), (5, .inl (I i))] [] σ' 0 0 (PI K) := by
    refine lp ?_ ?_
    · intro σ' o' B0 B1
      obtain ⟨c', f'⟩ := frm o'
      have N' := N11.onl o' (by decide)
      refine gX5_search_91 ⟨c'.1.o69, fun _ => ?_, fun q => absurd ?_ q⟩
      · refine q_fillTimes (tc := tcc v a b) c'.1 N' wA wB (by omega) (by omega) B0 B1 (by omega) (by omega) (fun i j _ _ => by unfold tcc; rw [hJ0, hJ1, I_tn, I_tn]) (fun σ3 o3 ht => ?_)
        have o3' : Onl [70, 71, 72] σ11 σ3 := o'.tr (o3.up (by decide))
        obtain ⟨c3, f3⟩ := frm o3'
        have N3 := N11.onl o3' (by decide)
        have r0 := MT_rg (n := n) (m := m) (tc := tcc v a b) 0 0
        have := q_timesFrom (l := l) (K := fun x4 σ4 => ((x4 < 1000000 → Con l mX5_trace [.inr 69, .inl x4] σ4 (PV (fun σ6 => K x4 σ6))) ∧ (¬ x4 < 1000000 → K (-2) σ4))) (tc := tcc v a b) (i := 0) (j := 0) c3.1 N3 (by omega) (by omega) (by omega) (by omega) (fun z1 z2 => ht 0 0 z1 z2) ?_
        · exact this
        · show ((I (MT n m (tcc v a b) 0 0) < 1000000 → _) ∧ (¬ I (MT n m (tcc v a b) 0 0) < 1000000 → _))
          rw [show (1000000 : Int32) = I 1000000 by decide, I_lt' (by omega) (by omega) (by omega) (by omega)]
          refine ⟨fun q => ?_, fun q => h0 σ3 q c3 f3⟩
          obtain ⟨L, hL⟩ : ∃ L : Nat, MT n m (tcc v a b) 0 0 = L := ⟨(MT n m (tcc v a b) 0 0).toNat, by omega⟩
          rw [hL]
          refine q_trace (tc := tcc v a b) c3.1 N3 (by omega) (by omega) hL (by omega) ht (fun σ6 o6 e8 e73 => ?_)
          rw [hL] at h1
          have key := h.met (σ' := σ6) (N := (L : Int) + 1) (f := tolds n m (tcc v a b)) h10 ((o11.up (by decide)).tr ((o3'.up (by decide)).tr (o6.up (by decide)))) e8 (fun k hk => e73 k (by omega))
          exact h1 σ6 (by omega) key.1 key.2
      · rw [N'.2.2.2]; exact (I_lt ⟨by omega, by omega⟩ ⟨by omega, by omega⟩).mpr (by omega)
    · intro i hi ih σ' o' B0 B1
      obtain ⟨c', f'⟩ := frm o'
      have N' := N11.onl o' (by decide)
      have pi := (gb.2.2.2.2.2 i (by omega)).1
      refine gX5_search_91 ⟨c'.1.o69, fun q => ?_, fun _ => ⟨(c'.P (by omega)).ob, q_poseAt (c'.P (by omega)) (c'.D hb1) (by omega) (by omega) ⟨by omega, by omega⟩ (fun _ _ => ?_) (fun q => absurd ⟨by omega, by omega⟩ q)⟩⟩
      · rw [N'.2.2.2, I_lt ⟨by omega, by omega⟩ ⟨by omega, by omega⟩] at q; omega
      · rw [I_tn, c'.1.p69_1]
        have A1' : ArmAt σ' 10 (v.1 1) := c'.A (a := 1) (by omega)
        refine ⟨A1'.ob, q_fillBody A1' wB hJ1 ⟨pi.1, pi.2.1⟩ (Or.inr rfl) (by omega) c'.1.1 (by omega) (fun σ9 o9 w1' w2' => ?_)⟩
        rw [I_1, I_add]
        refine ih σ9 (o'.tr (o9.up (by decide))) (fun i' k y1 y2 => by rw [o9.2.2 70 (by decide)]; exact B0 i' k y1 y2) (fun i' k y1 y2 => ?_)
        by_cases z : i' = i
        · rw [z]; exact w1' k y2
        · rw [w2' _ (by omega)]; exact B1 i' k (by omega) y2
  have G54 : ∀ i, i ≤ n → ∀ σ', Onl [70, 71, 72] σ11 σ' → BdS σ' 70 (v.1 0) (v.2.1 a 1) i J0 → GW l mX5_search 54 [(0, .inr 69), (1, .inr (15 + 3 * a)), (2, .inr 5), (3, .inr (15 + 3 * b)), (4, .inr 10), (5, .inl (I i))] [] σ' 0 0 (PI K) := by
    refine lp ?_ ?_
    · intro σ' o' B0
      obtain ⟨c', f'⟩ := frm o'
      have N' := N11.onl o' (by decide)
      refine gX5_search_54 ⟨c'.1.o69, fun _ => G91 0 (by omega) σ' o' B0 (fun i k y => absurd y (by omega)), fun q => absurd ?_ q⟩
      rw [N'.2.2.1]; exact (I_lt ⟨by omega, by omega⟩ ⟨by omega, by omega⟩).mpr (by omega)
    · intro i hi ih σ' o' B0
      obtain ⟨c', f'⟩ := frm o'
      have N' := N11.onl o' (by decide)
      have pi := (ga.2.2.2.2.2 i (by omega)).1
      refine gX5_search_54 ⟨c'.1.o69, fun q => ?_, fun _ => ⟨(c'.P (by omega)).ob, q_poseAt (c'.P (by omega)) (c'.D ha1) (by omega) (by omega) ⟨by omega, by omega⟩ (fun _ _ => ?_) (fun q => absurd ⟨by omega, by omega⟩ q)⟩⟩
      · rw [N'.2.2.1, I_lt ⟨by omega, by omega⟩ ⟨by omega, by omega⟩] at q; omega
      · rw [I_tn, c'.1.p69_0]
        have A0' : ArmAt σ' 5 (v.1 0) := c'.A (a := 0) (by omega)
        refine ⟨A0'.ob, q_fillBody A0' wA hJ0 ⟨pi.1, pi.2.1⟩ (Or.inl rfl) (by omega) c'.1.1 (by omega) (fun σ9 o9 w1' w2' => ?_)⟩
        rw [I_1, I_add]
        refine ih σ9 (o'.tr (o9.up (by decide))) (fun i' k y1 y2 => ?_)
        by_cases z : i' = i
        · rw [z]; exact w1' k y2
        · rw [w2' _ (by omega)]; exact B0 i' k (by omega) y2
  exact G54 0 (by omega) σ11 (Onl.rf _ _) (fun i k y => absurd y (by omega))
theorem C_meet {x y : Int} (h : CR σ v) (hw : WF c v) (hx : Rg x) (hy : Rg y) : Con l mX11_meet [.inr 1, .inl (I x), .inl (I y)] σ (PI fun q σ' => q = I (aMeet v x y) ∧ CR σ' (nMeet v x y) ∧ CF σ σ') := by
  have hw0 := hw.1
  have no : ∀ {q : Int32}, q = -1 → ¬ okMeet v x y → q = I (aMeet v x y) ∧ CR σ (nMeet v x y) ∧ CF σ σ := by
    intro q e hq
    unfold aMeet nMeet; rw [cif_f hq, vif_f (fun z => hq z.1)]; exact ⟨e, h, CF.rf _⟩
  refine eX11_meet ⟨h.1.o1, h.1.os, h.tp' hw hx (fun a ea ha1 ha => ⟨h.1.os, h.tp' hw hy (fun b eb hb1 hb => ⟨h.1.os, h.ao' hw ha1 (fun r er hr hrj => ⟨h.1.os, h.ao' hw hb1 (fun s es hs hsj => ?_)⟩)⟩) (fun z => ⟨h.1.os, h.ao' hw ha1 (fun r er hr hrj => ⟨h.1.os, h.ao0' ⟨fun q => absurd q (by omega), fun _ => ⟨fun _ => no rfl (fun w => z w.2.1), fun q => absurd rfl q⟩⟩⟩)⟩)⟩) (fun z => ⟨h.1.os, h.tp' hw hy (fun b eb hb1 hb => ⟨h.1.os, h.ao0' ⟨h.1.os, h.ao' hw hb1 (fun s es hs hsj => ⟨fun _ => no rfl (fun w => z w.1), fun q => absurd rfl q⟩)⟩⟩) (fun _ => ⟨h.1.os, h.ao0' ⟨h.1.os, h.ao0' ⟨fun _ => no rfl (fun w => z w.1), fun q => absurd rfl q⟩⟩⟩)⟩)⟩
  subst ea eb
  have ga := hw.2.2.2.1 a ha1
  have gb := hw.2.2.2.1 b hb1
  obtain ⟨n, hn⟩ : ∃ n : Nat, v.2.1 a 0 1 = n := ⟨(v.2.1 a 0 1).toNat, by omega⟩
  obtain ⟨m, hm⟩ : ∃ m : Nat, v.2.1 b 0 1 = m := ⟨(v.2.1 b 0 1).toNat, by omega⟩
  refine ⟨fun q => absurd q (by omega), fun _ => ⟨fun q => absurd q (by omega), fun _ => ⟨fun q => absurd q (by omega), fun _ => ⟨fun _ => ⟨(h.P ha).ob, ?_⟩, fun q => absurd q (by omega)⟩⟩⟩⟩
  rw [(h.D ha1).1, (h.D ha1).2.1, (h.D hb1).1, (h.D hb1).2.1, I_0, I_1, I_eq' (b := 0) (by omega) (by omega) (by omega) (by omega), I_eq' (b := 1) (by omega) (by omega) (by omega) (by omega), I_eq' (b := 0) (by omega) (by omega) (by omega) (by omega), I_eq' (b := 0) (by omega) (by omega) (by omega) (by omega)]
  refine ⟨fun q => no rfl (fun w => q (by have := w.2.2.1; rwa [I_tn] at this)), fun q => ⟨(h.P hb).ob, fun q2 => no rfl (fun w => q2 (by have := w.2.2.2.1; rwa [I_tn] at this)), fun q2 => ⟨fun q3 => no rfl (fun w => by have := w.2.2.2.2.1; rw [I_tn] at this; exact this q3), fun q3 => ⟨fun q4 => ⟨by rw [h.1.p1_6]; exact h.1.o69, ?_⟩, fun q4 => no rfl (fun w => by have := w.2.2.2.2.2; rw [I_tn] at this; exact this q4)⟩⟩⟩⟩
  have ok : okMeet v a b := ⟨⟨by omega, ha1⟩, ⟨by omega, hb1⟩, by rw [I_tn]; exact q, by rw [I_tn]; exact q2, by rw [I_tn]; exact q3, by rw [I_tn]; exact q4⟩
  have r0 : r = 0 := by omega
  have s1 : s = 1 := by omega
  subst r0 s1
  have eT : tMeet v a b = MT n m (tcc v a b) 0 0 := by unfold tMeet; rw [hn, hm, I_tn, I_tn]
  rw [h.1.p1_6]
  refine q_meetSearch h hw ha1 hb1 q q2 hn hm (by omega) (by omega) (fun σ' hlt c' f' => ?_) (fun σ' hlt c' f' => ?_)
  · unfold aMeet nMeet
    rw [I_tn, I_tn, eT, cif_t ok, cif_t hlt, vif_t ⟨ok, hlt⟩, hn, hm, I_tn, I_tn]
    exact ⟨rfl, c', f'⟩
  · unfold aMeet nMeet
    rw [I_tn, I_tn, eT, cif_t ok, cif_f hlt, vif_f (fun z => hlt z.2)]
    exact ⟨rfl, c', f'⟩
end MEC3
