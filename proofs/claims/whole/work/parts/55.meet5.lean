/-! meet: the reference's loops -/
section MEM2
variable {l : Launch} {σ σ' : Sg} {v v' : Vt} {c : Nat} {a b n m J0 J1 : Nat} {tc : Nat → Nat → Prop}
theorem M_meet {x y : Int} (h : MR σ v) (hw : WF c v) (hx : Rg x) (hy : Rg y) : Con l mX12_meet [.inr 82, .inl (I x), .inl (I y)] σ (PI fun q σ' => q = I (aMeet v x y) ∧ MR σ' (nMeet v x y) ∧ MF σ σ') := by
  have hw0 := hw.1
  refine eX12_meet ⟨h.1.ob, fun σ2 e2 => ?_⟩
  obtain ⟨h, f⟩ := h.w e2 (by decide)
  have no : ∀ {q : Int32}, q = -1 → ¬ okMeet v x y → q = I (aMeet v x y) ∧ MR σ2 (nMeet v x y) ∧ MF σ σ2 := by
    intro q e hq
    unfold aMeet nMeet; rw [cif_f hq, vif_f (fun z => hq z.1)]; exact ⟨e, h, f⟩
  refine h.isTape hw hx (fun a ea ha1 ha => ⟨fun q => absurd q (by decide), fun _ => ?_⟩) (fun q => ⟨fun _ => no rfl (fun w => q w.1), fun q => absurd rfl q⟩)
  refine h.isTape hw hy (fun b eb hb1 hb => ⟨fun q => absurd q (by decide), fun _ => ?_⟩) (fun q => ⟨fun _ => no rfl (fun w => q w.2.1), fun q => absurd rfl q⟩)
  subst ea eb
  have ga := hw.2.2.2.1 a ha1
  have gb := hw.2.2.2.1 b hb1
  obtain ⟨n, hn⟩ : ∃ n : Nat, v.2.1 a 0 1 = n := ⟨(v.2.1 a 0 1).toNat, by omega⟩
  obtain ⟨m, hm⟩ : ∃ m : Nat, v.2.1 b 0 1 = m := ⟨(v.2.1 b 0 1).toNat, by omega⟩
  have n40 : n ≤ 40 := by omega
  have m40 : m ≤ 40 := by omega
  rw [h.ow ha1 ha, h.ow hb1 hb, h.tk ha1 ha, h.tk hb1 hb, I_0, I_1, I_eq' (b := 0) (by omega) (by omega) (by omega) (by omega), I_eq' (b := 1) (by omega) (by omega) (by omega) (by omega), I_eq' (b := 0) (by omega) (by omega) (by omega) (by omega), I_eq' (b := 0) (by omega) (by omega) (by omega) (by omega), hn, I_sub]
  refine ⟨h.1.a17 (by omega) (by omega), fun q => no rfl (fun w => q (by have := w.2.2.1; rwa [I_tn] at this)), fun q => ⟨h.1.a17 (by omega) (by omega), fun q2 => no rfl (fun w => q2 (by have := w.2.2.2.1; rwa [I_tn] at this)), fun q2 => ⟨h.1.a18 (by omega) (by omega), fun q3 => no rfl (fun w => by have := w.2.2.2.2.1; rw [I_tn, hn] at this; exact this q3), fun q3 => ⟨h.1.a18 (by omega) (by omega), fun q4 => ?_, fun q4 => no rfl (fun w => by have := w.2.2.2.2.2; rw [I_tn] at this; exact this q4)⟩⟩⟩⟩
  have ok : okMeet v a b := ⟨⟨by omega, ha1⟩, ⟨by omega, hb1⟩, by rw [I_tn]; exact q, by rw [I_tn]; exact q2, by rw [I_tn]; omega, by rw [I_tn]; exact q4⟩
  have wA := (hw.2.2.1 0 (by omega)).1
  have wB := (hw.2.2.1 1 (by omega)).1
  have wA0 := wA.1; have wB0 := wB.1
  obtain ⟨J0, hJ0⟩ : ∃ J : Nat, v.1 0 0 2 = J := ⟨(v.1 0 0 2).toNat, by omega⟩
  obtain ⟨J1, hJ1⟩ : ∃ J : Nat, v.1 1 0 2 = J := ⟨(v.1 1 0 2).toNat, by omega⟩
  have eT : tMeet v a b = MT n m (tcc v a b) 0 0 := by unfold tMeet; rw [hn, hm, I_tn, I_tn]
  obtain ⟨tc, etc⟩ : ∃ tc, tc = tcc v a b := ⟨_, rfl⟩
  have htc : ∀ i j, tc i j ↔ ∃ r s, r < 2 * J0 ∧ s < 2 * J1 ∧ clr (v.1 0) (v.2.1 a 1 i) r = clr (v.1 1) (v.2.1 b 1 j) s := fun i j => by rw [etc]; unfold tcc; rw [hJ0, hJ1, I_tn, I_tn]
  rw [← etc] at eT
  obtain ⟨Φ, eΦ⟩ : ∃ Φ : Int32 → Sg → Prop, Φ = fun q σ' => q = I (aMeet v a b) ∧ MR σ' (nMeet v a b) ∧ MF σ σ' := ⟨_, rfl⟩
  rw [← eΦ]
  have r0 := MT_rg (n := n) (m := m) (tc := tc) 0 0
  -- the way
  have G288 : ∀ L : Nat, MT n m tc 0 0 = L → L < 1000000 → ∀ k, k ≤ L → ∀ σ', Onl [82, 108, 109, 110] σ2 σ' → (∀ q, q ≠ 48 → σ'.2.1 82 q = σ2.2.1 82 q) → σ'.2.1 82 48 = I ((k : Int) + 1) → (∀ i j, i < n → j < m → σ'.2.1 108 (40 * i + j) = I (rcd (MT n m tc i j))) → (∀ k', k' < k + 1 → σ'.2.1 109 k' = I (tolds n m tc k')) → GW l mX12_meet 288 [(0, .inr 82), (1, .inl (I a)), (2, .inl (I b)), (3, .inl (I ((pth n m tc k).1 : Int))), (4, .inl (I ((pth n m tc k).2 : Int)))] [] σ' 0 0 (PI Φ) := by
    intro L hL hL2
    have r00 := r0.2 (by omega)
    have L78 : L ≤ 78 := by omega
    have mk : ∀ σ' (k : Nat), Onl [82, 108, 109, 110] σ2 σ' → (∀ q, q ≠ 48 → σ'.2.1 82 q = σ2.2.1 82 q) → σ'.2.1 82 48 = I ((k : Int) + 1) → (∀ k', k' < k + 1 → σ'.2.1 109 k' = I (tolds n m tc k')) → MR σ' (setM v ((k : Int) + 1) (tolds n m tc)) ∧ MF σ2 σ' := fun σ' k o' e82 e48 e109 => h.met o'.1 o'.2.1 (fun r b1 b2 b3 b4 => o'.2.2 r (by simp only [List.mem_cons, List.not_mem_nil, or_false]; omega)) e82 e48 (fun k' hk' => e109 k' (by omega))
    refine lp ?_ ?_
    · intro σ' o' e82 e48 ht e109
      have hM := pth_ok (n := n) (m := m) (tc := tc) (by omega) L (by omega)
      have rk := (MT_rg (n := n) (m := m) (tc := tc) (pth n m tc L).1 (pth n m tc L).2).2 (by omega)
      obtain ⟨h', f'⟩ := mk σ' L o' e82 e48 e109
      refine gX12_meet_288 ⟨h'.1.ob, by rw [ix40]; exact h'.1.a46 (by omega) (by omega), fun _ => ?_, fun z => absurd ?_ z⟩
      · rw [eΦ, e48, I_1, I_sub]
        have hlt : MT n m tc 0 0 < 1000000 := by omega
        unfold aMeet nMeet
        rw [I_tn, I_tn, eT, cif_t ok, cif_t hlt, vif_t ⟨ok, hlt⟩, hn, hm, I_tn, I_tn, ← etc, hL]
        exact ⟨by congr 1; omega, h', f.tr f'⟩
      · rw [ix40, h'.1.k46, I_cln (by omega), ht _ _ rk.1 rk.2.1, hM, hL, show ((L : Int) - L) = 0 by omega]; decide
    · intro k hk ih σ' o' e82 e48 ht e109
      have hM := pth_ok (n := n) (m := m) (tc := tc) (by omega) k (by omega)
      obtain ⟨px, ex⟩ : ∃ px, px = (pth n m tc k).1 := ⟨_, rfl⟩
      obtain ⟨py, ey⟩ : ∃ py, py = (pth n m tc k).2 := ⟨_, rfl⟩
      rw [← ex, ← ey, hL] at hM
      rw [← ex, ← ey]
      have rk := (MT_rg (n := n) (m := m) (tc := tc) px py).2 (by omega)
      have a1 := MT_rg (n := n) (m := m) (tc := tc) (px + 1) (py + 1)
      have a2 := MT_rg (n := n) (m := m) (tc := tc) (px + 1) py
      obtain ⟨h', f'⟩ := mk σ' k o' e82 e48 e109
      have v46 : σ'.2.1 (σ'.2.2 82 46) ((40 * I (px : Int)) + I (py : Int)).toNatClampNeg = I ((L : Int) - k) := by
        rw [ix40, h'.1.k46, I_cln (by omega), ht _ _ rk.1 rk.2.1]; unfold rcd; rw [if_pos (by omega), hM]
      have ps : pth n m tc (k + 1) = if MT n m tc (px + 1) (py + 1) = (L : Int) - k - 1 then (px + 1, py + 1) else if MT n m tc (px + 1) py = (L : Int) - k - 1 then (px + 1, py) else (px, py + 1) := by
        show (let p := pth n m tc k; if MT n m tc (p.1 + 1) (p.2 + 1) = MT n m tc 0 0 - k - 1 then (p.1 + 1, p.2 + 1) else if MT n m tc (p.1 + 1) p.2 = MT n m tc 0 0 - k - 1 then (p.1 + 1, p.2) else (p.1, p.2 + 1)) = _
        simp only []
        rw [← ex, ← ey, hL]
      have nx : ∀ (x' y' : Nat) (v4 v5 v6 : Int32) (u w : Int), (pth n m tc (k + 1)).1 = x' → (pth n m tc (k + 1)).2 = y' → u + w = y' → GW l mX12_meet 391 [(0, .inr 82), (1, .inl (I a)), (2, .inl (I b)), (3, .inl (I x')), (4, .inl v4), (5, .inl v5), (6, .inl v6)] [.inl (I w), .inl (I u)] σ' 0 0 (PI Φ) := by
        intro x' y' v4 v5 v6 u w hx' hy' huw
        refine gX12_meet_391 ⟨h'.1.ob, ?_⟩
        rw [e48, I_add, huw, L_lit, I_mul, I_add]
        refine ⟨h'.1.a47 (by omega) (by omega), fun σ3 e3 σ4 e4 => ?_⟩
        rw [h'.1.k47, I_cl (by omega) (by omega), show ((k : Int) + 1).toNat = k + 1 by omega] at e3
        have v48 : σ3.2.1 82 48 = I ((k : Int) + 1) := by rw [e3, w1_r (by omega)]; exact e48
        rw [v48, I_1, I_add] at e4
        have := ih σ4 (o'.tr ((Onl.w e3 (by decide)).tr (Onl.w e4 (by decide)))) (fun q hq => by rw [e4, w1_k hq, e3, w1_r (by omega)]; exact e82 q hq) (by rw [e4, w1_at]; rfl) (fun i j z1 z2 => by rw [e4, w1_r (by omega), e3, w1_r (by omega)]; exact ht i j z1 z2) (fun k' hk' => by
          rw [e4, w1_r (by omega), e3]
          by_cases z : k' = k + 1
          · rw [z, w1_at]; unfold tolds; rw [hx', hy']
          · rw [w1_k z]; exact e109 k' (by omega))
        rw [hx', hy'] at this
        exact this
      refine gX12_meet_288 ⟨h'.1.ob, by rw [ix40]; exact h'.1.a46 (by omega) (by omega), ?_⟩
      rw [v46, I_1, I_sub, I_add, I_add, show ((px : Int) + 1) = ((px + 1 : Nat) : Int) by omega, show ((py : Int) + 1) = ((py + 1 : Nat) : Int) by omega]
      refine ⟨fun z => ?_, fun _ => ?_⟩
      · rw [I_0, I_le ⟨by omega, by omega⟩ ⟨by omega, by omega⟩] at z; omega
      have rcq : ∀ X : Int, 0 ≤ X → X ≤ 1000000 → (I (rcd X) = I ((L : Int) - k - 1) ↔ X = (L : Int) - k - 1) := by
        intro X h0 h1
        have : -1 ≤ rcd X ∧ rcd X ≤ 1000000 := by unfold rcd; split <;> omega
        rw [I_eq ⟨by omega, by omega⟩ ⟨by omega, by omega⟩]
        unfold rcd; split <;> omega
      refine m_restOf (tc := tc) h' ha hb ha1 hb1 hn hm n40 m40 (by omega) (by omega) (fun z1 z2 => ht _ _ z1 z2) ?_
      rw [rcq _ a1.1.1 a1.1.2]
      refine ⟨fun z => ?_, fun z => ?_⟩
      · refine m_restOf (tc := tc) h' ha hb ha1 hb1 hn hm n40 m40 (by omega) (by omega) (fun z1 z2 => ht _ _ z1 z2) ?_
        rw [rcq _ a2.1.1 a2.1.2]
        refine ⟨fun z2 => gX12_meet_362 ⟨fun _ => ⟨fun _ => ?_, fun w => absurd w (by decide)⟩, fun w => absurd (by decide) w⟩, fun z2 => gX12_meet_362 ⟨fun w => absurd w (by decide), fun _ => ⟨fun w => absurd rfl w, fun _ => ?_⟩⟩⟩
        · rw [I_0, I_add, show ((px : Int) + 0) = px by omega]
          exact nx px (py + 1) _ _ _ py 1 (by rw [ps, if_neg z, if_neg z2]) (by rw [ps, if_neg z, if_neg z2]) (by omega)
        · rw [I_1, I_add, show ((px : Int) + 1) = ((px + 1 : Nat) : Int) by omega]
          exact nx (px + 1) py _ _ _ py 0 (by rw [ps, if_neg z, if_pos z2]) (by rw [ps, if_neg z, if_pos z2]) (by omega)
      · refine gX12_meet_362 ⟨fun w => absurd w (by decide), fun _ => ⟨fun _ => ?_, fun w => absurd w (by decide)⟩⟩
        rw [I_1, I_add, show ((px : Int) + 1) = ((px + 1 : Nat) : Int) by omega]
        exact nx (px + 1) (py + 1) _ _ _ py 1 (by rw [ps, if_pos z]) (by rw [ps, if_pos z]) (by omega)
  -- the table
  have P : ∀ i, i ≤ n → ∀ σ', Onl [108, 110] σ2 σ' → (∀ i' j, i ≤ i' → i' < n → j < m → σ'.2.1 108 (40 * i' + j) = I (rcd (MT n m tc i' j))) → GW l mX12_meet 69 [(0, .inr 82), (1, .inl (I a)), (2, .inl (I b)), (3, .inl (I ((i : Int) - 1)))] [] σ' 0 0 (PI Φ) := by
    intro i
    induction i with
    | zero =>
      intro _ σ' o' ht
      obtain ⟨h', f'⟩ := h.sm (o'.ms (by decide))
      have v0 : σ'.2.1 (σ'.2.2 82 46) (0 : Int32).toNatClampNeg = I (rcd (MT n m tc 0 0)) := by
        rw [h'.1.k46]; exact ht 0 0 (by omega) (by omega) (by omega)
      refine gX12_meet_69 ⟨fun _ => ⟨h'.1.ob, h'.1.a46 (z := 0) (by omega) (by omega), ?_⟩, fun z => absurd (by decide) z⟩
      have rr : -1 ≤ rcd (MT n m tc 0 0) ∧ rcd (MT n m tc 0 0) ≤ 1000000 := by unfold rcd; split <;> omega
      rw [v0, I_m1, I_eq' (by omega) (by omega) (by omega) (by omega)]
      refine ⟨fun z σ5 e5 => ?_, fun z => ?_⟩
      · have hlt : MT n m tc 0 0 < 1000000 := by unfold rcd at z; split at z <;> omega
        obtain ⟨L, hL⟩ : ∃ L : Nat, MT n m tc 0 0 = L := ⟨(MT n m tc 0 0).toNat, by omega⟩
        have o5 : Onl [82, 108, 109, 110] σ2 σ5 := (o'.up (by decide)).tr (Onl.w e5 (by decide))
        have M5 := o5.M h.1
        refine ⟨M5.a47 (z := 0) (by omega) (by omega), fun σ7 e7 => ?_⟩
        rw [M5.k47] at e7
        refine G288 L hL (by omega) 0 (by omega) σ7 (o5.tr (Onl.w e7 (by decide))) (fun q hq => by rw [e7, w1_r (by omega), e5, w1_k hq, o'.2.2 82 (by decide)]) (by rw [e7, w1_r (by omega), e5, w1_at]; rfl) (fun i j z1 z2 => by rw [e7, w1_r (by omega), e5, w1_r (by omega)]; exact ht i j (by omega) z1 z2) (fun k' hk' => ?_)
        rw [show k' = 0 by omega, e7]
        exact w1_at _ _ _ _
      · have hlt : ¬ MT n m tc 0 0 < 1000000 := by unfold rcd at z; split at z <;> omega
        rw [eΦ]
        unfold aMeet nMeet
        rw [I_tn, I_tn, eT, cif_t ok, cif_f hlt, vif_f (fun z => hlt z.2)]
        exact ⟨rfl, h', f.tr f'⟩
    | succ i ih =>
      intro hi σ' o' ht
      obtain ⟨h', f'⟩ := h.sm (o'.ms (by decide))
      refine gX12_meet_69 ⟨fun z => ?_, fun _ => ⟨h'.1.ob, h'.1.a18 (by omega) (by omega), ?_⟩⟩
      · rw [I_0, I_lt ⟨by omega, by omega⟩ ⟨by omega, by omega⟩] at z; omega
      rw [h'.tk hb1 hb, hm, I_1, I_sub, show (((i + 1 : Nat) : Int) - 1) = i by omega]
      have Q : ∀ j, j ≤ m → ∀ σ', Onl [108, 110] σ2 σ' → (∀ i' j', (i < i' ∨ (i' = i ∧ j ≤ j')) → i' < n → j' < m → σ'.2.1 108 (40 * i' + j') = I (rcd (MT n m tc i' j'))) → GW l mX12_meet 83 [(0, .inr 82), (1, .inl (I a)), (2, .inl (I b)), (3, .inl (I i)), (4, .inl (I ((j : Int) - 1)))] [] σ' 0 0 (PI Φ) := by
        intro j
        induction j with
        | zero =>
          intro _ σ' o' ht
          refine gX12_meet_83 ⟨fun _ => ?_, fun z => absurd (by decide) z⟩
          rw [I_m1, I_add]
          exact ih (by omega) σ' o' (fun i' j' a b c => ht i' j' (by omega) b c)
        | succ j ihj =>
          intro hj σ' o' ht
          obtain ⟨h', f'⟩ := h.sm (o'.ms (by decide))
          have jn : j < m := by omega
          have im : i < n := by omega
          rw [show (((j + 1 : Nat) : Int) - 1) = j by omega]
          have a1 := MT_rg (n := n) (m := m) (tc := tc) (i + 1) (j + 1)
          have a2 := MT_rg (n := n) (m := m) (tc := tc) (i + 1) j
          have a3 := MT_rg (n := n) (m := m) (tc := tc) i (j + 1)
          have pa := (ga.2.2.2.2.2 i (by omega)).1
          have pb := (gb.2.2.2.2.2 j (by omega)).1
          -- after the three ways
          have G3 : ∀ X : Int, (0 ≤ X ∧ X ≤ 1000000) → (¬ tc i j → MT n m tc i j = X) → GW l mX12_meet 123 [(0, .inr 82), (1, .inl (I a)), (2, .inl (I b)), (3, .inl (I i)), (4, .inl (I j)), (5, .inl (I (rcd X))), (6, .inl (I 3))] [] σ' 0 0 (PI Φ) := by
            intro X hX hv
            refine gX12_meet_123 ⟨fun _ => ⟨h'.1.ob, by rw [ix40]; exact h'.1.a19 (by omega) (by omega), by rw [ix40]; exact h'.1.a19 (by omega) (by omega), ?_⟩, fun z => absurd (by decide) z⟩
            rw [ix40, ix40, ix40, h'.ps ha1 ha (by omega) (by omega), h'.ps hb1 hb (by omega) (by omega)]
            have wr : ∀ σ5 σ8, Onl [110] σ' σ5 → σ8 = w1 σ5 (σ'.2.2 82 46) (I ((40 * i + j : Nat) : Int)).toNatClampNeg (I (rcd (MT n m tc i j))) → GW l mX12_meet 83 [(0, .inr 82), (1, .inl (I a)), (2, .inl (I b)), (3, .inl (I i)), (4, .inl (I (j : Int) + (-1)))] [] σ8 0 0 (PI Φ) := by
              intro σ5 σ8 o5 e8
              rw [h'.1.k46, I_cln (by omega)] at e8
              rw [I_m1, I_add]
              refine ihj (by omega) σ8 (o'.tr ((o5.up (by decide)).tr (Onl.w e8 (by decide)))) (fun i' j' z1 z2 z3 => ?_)
              rw [e8]
              by_cases y : i' = i ∧ j' = j
              · rw [y.1, y.2, w1_at]
              · rw [w1_k (by omega), o5.2.2 108 (by decide)]; exact ht i' j' (by omega) z2 z3
            have ai : ∀ {σ5}, Onl [110] σ' σ5 → Ai σ5 (σ'.2.2 82 46) (I ((40 * i + j : Nat) : Int)) := fun o5 => by
              have := (o5.M h'.1).a46 (z := ((40 * i + j : Nat) : Int)) (by omega) (by omega)
              rw [o5.2.1] at this; exact this
            refine m_isClear h' wA wB hJ0 hJ1 ⟨pa.1, pa.2.1⟩ ⟨pb.1, pb.2.1⟩ (fun σ5 o5 hc => ⟨fun z => absurd z (by decide), fun _ => ⟨ai o5, fun σ10 e10 => wr σ5 σ10 o5 ?_⟩⟩) (fun σ5 o5 hc => ⟨fun _ => ⟨ai o5, fun σ8 e8 => wr σ5 σ8 o5 ?_⟩, fun z => absurd rfl z⟩)
            · rw [hv (fun z => hc ((htc i j).mp z))]; exact e10
            · rw [MT_in im jn, cif_t ((htc i j).mpr hc)]; exact e8
          have step : ∀ (w x' y' : Nat) (X : Int) (y1 y2 : Int32), w < 3 → (0 ≤ X ∧ X ≤ 1000000) → y1 = I x' → y2 = I y' → x' ≤ 100 → y' ≤ 100 → (x' < n → y' < m → σ'.2.1 108 (40 * x' + y') = I (rcd (MT n m tc x' y'))) → GW l mX12_meet 123 [(0, .inr 82), (1, .inl (I a)), (2, .inl (I b)), (3, .inl (I i)), (4, .inl (I j)), (5, .inl (I (rcd (min X (min (MT n m tc x' y' + 1) 1000000))))), (6, .inl (I (w : Int) + 1))] [] σ' 0 0 (PI Φ) → GW l mX12_meet 158 [(0, .inr 82), (1, .inl (I a)), (2, .inl (I b)), (3, .inl (I i)), (4, .inl (I j)), (5, .inl (I (rcd X))), (6, .inl (I (w : Int)))] [.inl y2, .inl y1, .inr 82] σ' 0 0 (PI Φ) := by
            intro w x' y' X y1 y2 hw3 hX e1 e2 hx' hy' hT nx
            subst e1 e2
            have aY := MT_rg (n := n) (m := m) (tc := tc) x' y'
            refine gX12_meet_158 ⟨h'.1.ob, m_restOf (tc := tc) h' ha hb ha1 hb1 hn hm n40 m40 hx' hy' hT ?_⟩
            obtain ⟨Y, eY⟩ : ∃ Y, Y = MT n m tc x' y' := ⟨_, rfl⟩
            rw [← eY] at aY nx ⊢
            have rY : -1 ≤ rcd Y ∧ rcd Y ≤ 1000000 := by unfold rcd; split <;> omega
            have rX : -1 ≤ rcd X ∧ rcd X ≤ 1000000 := by unfold rcd; split <;> omega
            rw [I_m1, I_eq' (by omega) (by omega) (by omega) (by omega), I_eq' (by omega) (by omega) (by omega) (by omega), I_1, I_add (rcd Y) 1, I_le' (by omega) (by omega) (by omega) (by omega), ← I_1]
            refine ⟨fun z => ?_, fun z => ⟨fun z2 => ?_, fun z2 => ⟨fun z3 => ?_, fun z3 => ?_⟩⟩⟩
            · rw [show min X (min (Y + 1) 1000000) = X by unfold rcd at z; split at z <;> omega] at nx; exact nx
            · rw [show rcd (min X (min (Y + 1) 1000000)) = rcd Y + 1 by unfold rcd at z z2 ⊢; split at z <;> split at z2 <;> split <;> omega] at nx; exact nx
            · rw [show rcd (min X (min (Y + 1) 1000000)) = rcd X by unfold rcd at z z2 z3 ⊢; split at z <;> split at z2 <;> split <;> omega] at nx; exact nx
            · rw [show rcd (min X (min (Y + 1) 1000000)) = rcd Y + 1 by unfold rcd at z z2 z3 ⊢; split at z <;> split at z2 <;> split <;> omega] at nx; exact nx
          have chain : ∀ X : Int, (0 ≤ X ∧ X ≤ 1000000) → (¬ tc i j → MT n m tc i j = min (min (min X (min (MT n m tc (i + 1) (j + 1) + 1) 1000000)) (min (MT n m tc (i + 1) j + 1) 1000000)) (min (MT n m tc i (j + 1) + 1) 1000000)) → GW l mX12_meet 123 [(0, .inr 82), (1, .inl (I a)), (2, .inl (I b)), (3, .inl (I i)), (4, .inl (I j)), (5, .inl (I (rcd X))), (6, .inl (I 0))] [] σ' 0 0 (PI Φ) := by
            intro X hX hv
            have i1 : I (i : Int) + 1 = I ((i + 1 : Nat) : Int) := by rw [I_1, I_add]; rfl
            have j1 : I (j : Int) + 1 = I ((j + 1 : Nat) : Int) := by rw [I_1, I_add]; rfl
            refine gX12_meet_123 ⟨fun z => absurd z (by decide), fun _ => ⟨fun z => absurd z (by decide), fun _ => ⟨fun _ => ?_, fun z => absurd z (by decide)⟩⟩⟩
            refine step 0 (i + 1) (j + 1) X _ _ (by omega) hX i1 j1 (by omega) (by omega) (fun z1 z2 => ht _ _ (by omega) z1 z2) ?_
            refine gX12_meet_123 ⟨fun z => absurd z (by decide), fun _ => ⟨fun z => absurd z (by decide), fun _ => ⟨fun z => absurd (by decide) z, fun _ => ?_⟩⟩⟩
            refine step 1 (i + 1) j _ _ _ (by omega) (by omega) i1 rfl (by omega) (by omega) (fun z1 z2 => ht _ _ (by omega) z1 z2) ?_
            refine gX12_meet_123 ⟨fun z => absurd z (by decide), fun _ => ⟨fun _ => ⟨fun _ => ?_, fun z => absurd z (by decide)⟩, fun z => absurd (by decide) z⟩⟩
            refine step 2 i (j + 1) _ _ _ (by omega) (by omega) rfl j1 (by omega) (by omega) (fun z1 z2 => ht _ _ (by omega) z1 z2) ?_
            exact G3 _ (by omega) hv
          refine gX12_meet_83 ⟨fun z => ?_, fun _ => ⟨h'.1.ob, h'.1.a18 (by omega) (by omega), ?_⟩⟩
          · rw [I_0, I_lt ⟨by omega, by omega⟩ ⟨by omega, by omega⟩] at z; omega
          · rw [h'.tk ha1 ha, h'.tk hb1 hb, hn, hm, I_1, I_sub, I_sub, I_eq' (by omega) (by omega) (by omega) (by omega), I_eq' (by omega) (by omega) (by omega) (by omega)]
            have nl : ¬ (i + 1 = n ∧ j + 1 = m) → GW l mX12_meet 123 [(0, .inr 82), (1, .inl (I a)), (2, .inl (I b)), (3, .inl (I i)), (4, .inl (I j)), (5, .inl (I (-1))), (6, .inl (I 0))] [] σ' 0 0 (PI Φ) := by
              intro hl
              refine chain 1000000 (by omega) (fun w => ?_)
              rw [MT_in im jn, cif_f w, if_neg hl]; omega
            refine ⟨fun z => nl (by omega), fun z => ⟨h'.1.a18 (by omega) (by omega), fun y => nl (by omega), fun y => ?_⟩⟩
            refine chain 0 (by omega) (fun w => ?_)
            rw [MT_in im jn, cif_f w, if_pos (by omega)]; omega
      exact Q m (Nat.le_refl _) σ' o' (fun i' j' z1 z2 z3 => ht i' j' (by omega) z2 z3)
  exact P n (Nat.le_refl _) σ2 (Onl.rf _ _) (fun i' j z1 z2 z3 => absurd z2 (by omega))
end MEM2
