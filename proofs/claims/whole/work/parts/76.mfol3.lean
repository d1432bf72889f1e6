/-! the reference: follows -/
section MFW
variable {l : Launch} {σ σ' : Sg} {v : Vt} {a o tt t p n : Nat} {d e : Int}
theorem AhS.c {G : Nat → Int} {x : Nat} {y : Int32} (h : AhS σ t G) (e1 : σ' = w1 σ 105 x y) (hx : ¬ (4096 * t ≤ x ∧ x < 4096 * t + 4096)) : AhS σ' t G := fun q hq => by rw [e1, w1_k (by omega)]; exact h q hq
theorem m_follows {K : Int32 → Sg → Prop} {X Y : Nat → Int} (h : MBs σ v) (hT : TpF v tt o n) (ha : a < 2) (hw : ArmWf (v.1 a)) (n1 : 1 ≤ n) (hd : -2000 ≤ d ∧ d ≤ 2000) (he : 0 ≤ e ∧ e ≤ 2000) (eX : X = wX (v.1 o) (v.2.1 tt) d) (eY : Y = wY (v.1 o) (v.2.1 tt))
    (h1 : fok (v.1 a) X Y e n → ∀ σ', Ws [42] [105, 106, 107] σ σ' → σ'.2.1 82 42 = I (mnF (nrP (v.1 a) X Y e 0) (WB (v.1 a) X Y e n 0) 4096) → (∀ i, i < n → σ'.2.1 107 i = I (frw (v.1 a) X Y e n i : Nat)) → K 1 σ')
    (h0 : ¬ fok (v.1 a) X Y e n → ∀ σ', Ws [40, 42] [105, 106, 107] σ σ' → σ'.2.1 82 40 = I (stpF (v.1 a) X Y e n : Nat) → K 0 σ') : Con l mX12_follows [.inr 82, .inl (I (tt : Nat)), .inl (I (a : Nat)), .inl (I d), .inl (I e)] σ (PI K) := by
  have n40 := hT.2.2.2.2.2.2.1
  have tt10 := hT.2.1
  have w0 := hw.1
  obtain ⟨J, hJ⟩ : ∃ J : Nat, v.1 a 0 2 = J := ⟨(v.1 a 0 2).toNat, by omega⟩
  have b3 := bsd_343 hw (m := 3) (by omega)
  have gok : ∀ i, Gok 400 (WB (v.1 a) X Y e n i) := fun i => (WB_ok hw n40 i).up
  -- the row
  have R : fok (v.1 a) X Y e n → ∀ i, i ≤ n → ∀ (b : Int) σ1, Ws [42] [105, 106, 107] σ σ1 → (∀ t, t < n → AhS σ1 t (WB (v.1 a) X Y e n t)) → σ1.2.1 82 42 = I (mnF (nrP (v.1 a) X Y e 0) (WB (v.1 a) X Y e n 0) 4096) → (∀ i', i' < i → σ1.2.1 107 i' = I (frw (v.1 a) X Y e n i' : Nat)) → (i < n → b = (frw (v.1 a) X Y e n i : Nat)) → GW l mX12_follows 323 [(0, .inr 82), (1, .inl (I (tt : Nat))), (2, .inl (I (a : Nat))), (3, .inl (I d)), (4, .inl (I e)), (5, .inl (I ((n : Int) - 1))), (6, .inl (I (bsd (v.1 a) 3 : Nat))), (7, .inl (I b)), (8, .inl (I (i : Nat)))] [] σ1 0 0 (PI K) := by
    intro hf
    refine lp ?_ ?_
    · intro b σ1 w1' ah h42 hr _
      refine gX12_follows_323 ⟨fun _ => h1 hf σ1 w1' h42 hr, fun z => absurd ((I_lt ⟨by omega, by omega⟩ ⟨by omega, by omega⟩).mpr (by omega)) z⟩
    · intro i hi ih b σ1 w1' ah h42 hr hb
      have fr := frw_ok hf i hi
      have hb := hb hi
      subst hb
      have M1 := w1'.M h.1
      refine gX12_follows_323 ⟨fun z => ?_, fun _ => ⟨M1.ob, M1.a45 (by omega) (by omega), fun σ4 e4 => ?_⟩⟩
      · rw [I_lt ⟨by omega, by omega⟩ ⟨by omega, by omega⟩] at z; omega
      rw [M1.k45, I_cln (by omega)] at e4
      have w4 : Ws [42] [105, 106, 107] σ σ4 := w1'.tr (Ws.c e4 (by decide) (by omega))
      have h4 := h.ws w4 (by decide) (by decide)
      have ah4 : ∀ t, t < n → AhS σ4 t (WB (v.1 a) X Y e n t) := fun t ht q hq => by rw [e4, w1_r (by omega)]; exact ah t ht q hq
      have r4 : ∀ i', i' < i + 1 → σ4.2.1 107 i' = I (frw (v.1 a) X Y e n i' : Nat) := fun i' hi' => by
        by_cases z : i' = i
        · rw [z, e4, w1_at]
        · rw [e4, w1_k z]; exact hr i' (by omega)
      have h42' : σ4.2.1 82 42 = I (mnF (nrP (v.1 a) X Y e 0) (WB (v.1 a) X Y e n 0) 4096) := by rw [e4, w1_r (by omega)]; exact h42
      by_cases last : i + 1 = n
      · -- the last tick
        refine gX12_follows_345 ⟨fun z => ?_, fun _ => ⟨fun _ => ?_, fun z => absurd ((I_le ⟨by omega, by omega⟩ ⟨by omega, by omega⟩).mpr (by omega)) z⟩⟩
        · rw [I_0, I_le ⟨by omega, by omega⟩ ⟨by omega, by omega⟩] at z; omega
        · rw [I_1, I_add]
          exact ih (-1) σ4 w4 ah4 h42' r4 (fun z => absurd z (by omega))
      · have W0 : WB (v.1 a) X Y e n i (frw (v.1 a) X Y e n i) = stW (v.1 a) (WB (v.1 a) X Y e n (i + 1)) (frw (v.1 a) X Y e n i) := by rw [WB_in (by omega), cif_t fr.2.1]
        obtain ⟨p, ep⟩ : ∃ p, p = frw (v.1 a) X Y e n i := ⟨_, rfl⟩
        rw [← ep] at fr W0 ⊢
        have fst : frw (v.1 a) X Y e n (i + 1) = fsF (fun q => adj (v.1 a) p q) (fun q => wyb p q + WB (v.1 a) X Y e n (i + 1) q) 4096 := by rw [ep]; rfl
        have sl : stW (v.1 a) (WB (v.1 a) X Y e n (i + 1)) p < 1000000 := by rw [← W0]; exact fr.2.2
        have s0 := (stW_ok hw (gok (i + 1)) p).1
        have Kl : ∀ k, k ≤ bsd (v.1 a) 3 → ∀ af : Int, ((af = -1 ∧ ∀ k', k' < k → okb (v.1 a) p k' → wyb p (pok (v.1 a) p k') + WB (v.1 a) X Y e n (i + 1) (pok (v.1 a) p k') ≠ stW (v.1 a) (WB (v.1 a) X Y e n (i + 1)) p) ∨ af = (frw (v.1 a) X Y e n (i + 1) : Nat)) → GW l mX12_follows 345 [(0, .inr 82), (1, .inl (I (tt : Nat))), (2, .inl (I (a : Nat))), (3, .inl (I d)), (4, .inl (I e)), (5, .inl (I ((n : Int) - 1))), (6, .inl (I (bsd (v.1 a) 3 : Nat))), (7, .inl (I (p : Nat))), (8, .inl (I (i : Nat))), (9, .inl (I af)), (10, .inl (I (k : Nat)))] [] σ4 0 0 (PI K) := by
          refine lp ?_ ?_
          · intro af haf
            refine gX12_follows_345 ⟨fun _ => ?_, fun z => absurd ((I_le ⟨by omega, by omega⟩ ⟨by omega, by omega⟩).mpr (by omega)) z⟩
            rw [I_1, I_add]
            refine ih af σ4 w4 ah4 h42' r4 (fun _ => ?_)
            rcases haf with ⟨_, no⟩ | haf
            · exfalso
              obtain ⟨q, c1, c2, c3⟩ := mnF_at (P := fun q => adj (v.1 a) p q) (g := fun q => wyb p q + WB (v.1 a) X Y e n (i + 1) q) 4096 sl
              obtain ⟨k, d1, d2, d3⟩ := adj_pok hw c2
              exact no k d1 d2 (by rw [d3]; exact c3)
            · exact haf
          · intro k hk ihk af haf
            have fl := (frw_ok hf (i + 1) (by omega)).1
            have afr : -1 ≤ af ∧ af < 4096 := by rcases haf with ⟨z, _⟩ | z <;> omega
            have on : (okb (v.1 a) p k → wyb p (pok (v.1 a) p k) + WB (v.1 a) X Y e n (i + 1) (pok (v.1 a) p k) = stW (v.1 a) (WB (v.1 a) X Y e n (i + 1)) p → af ≠ -1) → GW l mX12_follows 345 [(0, .inr 82), (1, .inl (I (tt : Nat))), (2, .inl (I (a : Nat))), (3, .inl (I d)), (4, .inl (I e)), (5, .inl (I ((n : Int) - 1))), (6, .inl (I (bsd (v.1 a) 3 : Nat))), (7, .inl (I (p : Nat))), (8, .inl (I (i : Nat))), (9, .inl (I af)), (10, .inl (I (k : Nat) + 1))] [] σ4 0 0 (PI K) := by
              intro hno
              rw [I_1, I_add]
              refine ihk af ?_
              rcases haf with ⟨z, no⟩ | z
              · refine Or.inl ⟨z, fun k' c1 c2 c3 => ?_⟩
                by_cases y : k' = k
                · rw [y] at c2 c3; exact hno c2 c3 z
                · exact no k' (by omega) c2 c3
              · exact Or.inr z
            refine gX12_follows_345 ⟨fun z => ?_, fun _ => ⟨fun z => ?_, fun _ => ⟨h4.1.ob, ?_⟩⟩⟩
            · rw [I_le ⟨by omega, by omega⟩ ⟨by omega, by omega⟩] at z; omega
            · rw [I_le ⟨by omega, by omega⟩ ⟨by omega, by omega⟩] at z; omega
            refine m_beside h4.1 h4.2.1 ha hw fr.2.1.1 hk (fun ok => ⟨fun z => ?_, fun _ => ?_⟩) (fun no => ⟨fun _ => on (fun c => absurd c no), fun z => absurd rfl z⟩)
            · rw [I_m1, I_eq ⟨by omega, by have := (pok_pl hw ok).1; omega⟩ ⟨by omega, by omega⟩] at z; omega
            have q4 := (pok_pl hw ok).1
            have g := gok (i + 1) _ q4
            have rg := rcd_rg g.1
            have w := wyb_rg hw (pok_adj hw ok)
            rw [ixr]
            refine ⟨h4.1.a43 (by omega) (by omega), ?_⟩
            rw [h4.1.d43 (by omega) (by omega), I_tn, ah4 (i + 1) (by omega) _ q4, I_m1, I_eq' (by omega) (by omega) (by omega) (by omega)]
            refine ⟨fun z => on (fun _ y => ?_), fun z => m_wayBetween fr.1 q4 ?_⟩
            · have := rg.2.2.mp z; omega
            have gl : WB (v.1 a) X Y e n (i + 1) (pok (v.1 a) p k) < 1000000 := Classical.byContradiction fun y => z (rg.2.2.mpr y)
            have g4 := g.2.2 gl
            rw [ixa]
            refine ⟨h4.1.a43 (by omega) (by omega), ?_⟩
            rw [h4.1.d43 (by omega) (by omega), I_tn, ah4 i hi p fr.1, rcd_lt gl, rcd_lt fr.2.2, W0, I_add, I_eq' (by omega) (by omega) (by omega) (by omega), I_eq' (by omega) (by omega) (by omega) (by omega)]
            refine ⟨fun y => on (fun _ x => absurd (by omega) y), fun y => ⟨fun x => on (fun _ _ => x), fun x => ?_⟩⟩
            rw [I_1, I_add]
            refine ihk _ (Or.inr ?_)
            rcases haf with ⟨_, no⟩ | z
            · rw [fst, fsk_eq hw sl hk ok (by omega) (fun k' c1 c2 => no k' c1 c2)]
            · omega
        exact Kl 0 (by omega) (-1) (Or.inl ⟨rfl, fun k' hk' => absurd hk' (by omega)⟩)
  -- the best start
  have B : ∀ p, p ≤ 4096 → ∀ σ1, Ws [] [105] σ σ1 → (∀ t, t < n → AhS σ1 t (WB (v.1 a) X Y e n t)) → ∀ b : Int, ((b = -1 ∧ ¬ mnF (nrP (v.1 a) X Y e 0) (WB (v.1 a) X Y e n 0) p < 1000000) ∨ (b = (fsF (nrP (v.1 a) X Y e 0) (WB (v.1 a) X Y e n 0) p : Nat) ∧ mnF (nrP (v.1 a) X Y e 0) (WB (v.1 a) X Y e n 0) p < 1000000)) → GW l mX12_follows 236 [(0, .inr 82), (1, .inl (I (tt : Nat))), (2, .inl (I (a : Nat))), (3, .inl (I d)), (4, .inl (I e)), (5, .inl (I ((n : Int) - 1))), (6, .inl (I (bsd (v.1 a) 3 : Nat))), (7, .inl (I b)), (8, .inl (I (p : Nat)))] [] σ1 0 0 (PI K) := by
    refine lp ?_ ?_
    · intro σ1 w1' ah b hb
      have h1' := h.ws w1' (by decide) (by decide)
      refine gX12_follows_236 ⟨fun _ => ?_, fun z => absurd ((I_le (a := 4096) ⟨by omega, by omega⟩ ⟨by omega, by omega⟩).mpr (by omega)) z⟩
      rcases hb with ⟨b1, nf⟩ | ⟨b1, hf⟩
      · rw [b1]
        refine ⟨fun z => absurd rfl z, fun _ => ⟨h1'.1.ob, m_stops h1' hT ha hw n1 hd he eX eY nf (fun σ6 w6 σ8 e8 => ?_)⟩⟩
        refine h0 nf σ8 (((w1'.up (by decide) (by decide)).tr (w6.up (by decide) (by decide))).tr (Ws.w e8 (by decide))) (by rw [e8, w1_at])
      · obtain ⟨c1, c2, c3, c4⟩ := fsF_ok 4096 hf
        rw [b1]
        refine ⟨fun _ => ⟨h1'.1.ob, h1'.1.a43 (by omega) (by omega), fun σ5 e5 => ?_⟩, fun z => ?_⟩
        · have rd := ah 0 (by omega) _ c1
          rw [Nat.mul_zero, Nat.zero_add] at rd
          rw [h1'.1.d43 (by omega) (by omega), I_tn, rd, c3, rcd_lt hf] at e5
          have w5 : Ws [42] [105, 106, 107] σ σ5 := (w1'.up (by decide) (by decide)).tr (Ws.w e5 (by decide))
          exact R hf 0 (by omega) _ σ5 w5 (fun t ht q hq => by rw [e5, w1_r (by omega)]; exact ah t ht q hq) (by rw [e5, w1_at]) (fun i' hi' => absurd hi' (by omega)) (fun _ => rfl)
        · rw [I_m1, I_eq ⟨by omega, by omega⟩ ⟨by omega, by omega⟩] at z; omega
    · intro p hp ih σ1 w1' ah b hb
      have h1' := h.ws w1' (by decide) (by decide)
      have rd := ah 0 (by omega) p hp
      rw [Nat.mul_zero, Nat.zero_add] at rd
      have g := gok 0 p hp
      have rg := rcd_rg g.1
      have nf : ∀ {q : Nat}, q < 4096 → fsF (nrP (v.1 a) X Y e 0) (WB (v.1 a) X Y e n 0) q < 4096 ∨ ¬ mnF (nrP (v.1 a) X Y e 0) (WB (v.1 a) X Y e n 0) q < 1000000 := fun {q} hq => by
        by_cases z : mnF (nrP (v.1 a) X Y e 0) (WB (v.1 a) X Y e n 0) q < 1000000
        · have := (fsF_ok q z).1; exact Or.inl (by omega)
        · exact Or.inr z
      have br : -1 ≤ b ∧ b < 4096 := by
        rcases hb with ⟨z, _⟩ | ⟨z, y⟩
        · omega
        · rcases nf hp with x | x
          · omega
          · exact absurd y x
      have m0 : 0 ≤ mnF (nrP (v.1 a) X Y e 0) (WB (v.1 a) X Y e n 0) p := mnF_nn (fun q hq _ => (gok 0 q (by omega)).1)
      have same : ¬ (nrP (v.1 a) X Y e 0 p ∧ WB (v.1 a) X Y e n 0 p < mnF (nrP (v.1 a) X Y e 0) (WB (v.1 a) X Y e n 0) p) → mnF (nrP (v.1 a) X Y e 0) (WB (v.1 a) X Y e n 0) (p + 1) = mnF (nrP (v.1 a) X Y e 0) (WB (v.1 a) X Y e n 0) p ∧ fsF (nrP (v.1 a) X Y e 0) (WB (v.1 a) X Y e n 0) (p + 1) = fsF (nrP (v.1 a) X Y e 0) (WB (v.1 a) X Y e n 0) p := fun no => mnF_to (by omega) (fun q a1 a2 a3 => by
        have : q = p := by omega
        subst this
        exact Classical.byContradiction fun z => no ⟨a3, by omega⟩)
      have other : nrP (v.1 a) X Y e 0 p → WB (v.1 a) X Y e n 0 p < mnF (nrP (v.1 a) X Y e 0) (WB (v.1 a) X Y e n 0) p → mnF (nrP (v.1 a) X Y e 0) (WB (v.1 a) X Y e n 0) (p + 1) = WB (v.1 a) X Y e n 0 p ∧ fsF (nrP (v.1 a) X Y e 0) (WB (v.1 a) X Y e n 0) (p + 1) = p := fun c1 c2 => by
        refine ⟨by rw [mnF_yes c1]; omega, ?_⟩
        show nif _ _ _ = _
        exact nif_t ⟨c1, c2⟩
      have keep : ¬ (nrP (v.1 a) X Y e 0 p ∧ WB (v.1 a) X Y e n 0 p < mnF (nrP (v.1 a) X Y e 0) (WB (v.1 a) X Y e n 0) p) → GW l mX12_follows 236 [(0, .inr 82), (1, .inl (I (tt : Nat))), (2, .inl (I (a : Nat))), (3, .inl (I d)), (4, .inl (I e)), (5, .inl (I ((n : Int) - 1))), (6, .inl (I (bsd (v.1 a) 3 : Nat))), (7, .inl (I b)), (8, .inl (I (p : Nat) + 1))] [] σ1 0 0 (PI K) := by
        intro no
        rw [I_1, I_add]
        refine ih σ1 w1' ah b ?_
        rw [(same no).1, (same no).2]; exact hb
      have take : nrP (v.1 a) X Y e 0 p → WB (v.1 a) X Y e n 0 p < mnF (nrP (v.1 a) X Y e 0) (WB (v.1 a) X Y e n 0) p → GW l mX12_follows 236 [(0, .inr 82), (1, .inl (I (tt : Nat))), (2, .inl (I (a : Nat))), (3, .inl (I d)), (4, .inl (I e)), (5, .inl (I ((n : Int) - 1))), (6, .inl (I (bsd (v.1 a) 3 : Nat))), (7, .inl (I (p : Nat))), (8, .inl (I (p : Nat) + 1))] [] σ1 0 0 (PI K) := by
        intro c1 c2
        rw [I_1, I_add]
        refine ih σ1 w1' ah (p : Nat) (Or.inr ?_)
        rw [(other c1 c2).1, (other c1 c2).2]
        have := mnF_1M (P := nrP (v.1 a) X Y e 0) (g := WB (v.1 a) X Y e n 0) p
        exact ⟨rfl, by omega⟩
      refine gX12_follows_236 ⟨fun z => ?_, fun _ => ⟨h1'.1.ob, h1'.1.a43 (by omega) (by omega), ?_⟩⟩
      · rw [show (4096 : Int32) = I 4096 from rfl, I_le ⟨by omega, by omega⟩ ⟨by omega, by omega⟩] at z; omega
      rw [h1'.1.d43 (by omega) (by omega), I_tn, rd, I_m1, I_eq' (by omega) (by omega) (by omega) (by omega), I_eq' (by omega) (by omega) (by omega) (by omega)]
      have m1 := mnF_1M (P := nrP (v.1 a) X Y e 0) (g := WB (v.1 a) X Y e n 0) p
      refine ⟨fun z => keep (fun y => ?_), fun z => ?_⟩
      · have := rg.2.2.mp z; have := y.2; omega
      have gl : WB (v.1 a) X Y e n 0 p < 1000000 := Classical.byContradiction fun y => z (rg.2.2.mpr y)
      have nr := WB_nr (by omega) gl
      refine ⟨fun y => ?_, fun y => ?_⟩
      · rcases hb with ⟨_, nf'⟩ | ⟨b1, _⟩
        · exact take nr (by omega)
        · omega
      · rcases hb with ⟨b1, _⟩ | ⟨b1, hf⟩
        · exact absurd b1 y
        · obtain ⟨c1, c2, c3, c4⟩ := fsF_ok p hf
          have rd2 := ah 0 (by omega) (fsF (nrP (v.1 a) X Y e 0) (WB (v.1 a) X Y e n 0) p) (by omega)
          rw [Nat.mul_zero, Nat.zero_add, c3, rcd_lt hf] at rd2
          have keep := keep
          rw [b1] at keep ⊢
          refine ⟨h1'.1.a43 (by omega) (by omega), ?_⟩
          rw [h1'.1.d43 (by omega) (by omega), I_tn, rd2, rcd_lt gl, I_le' (by omega) (by omega) (by omega) (by omega)]
          exact ⟨fun x => keep (fun u => by have := u.2; omega), fun x => take nr (by omega)⟩
  -- tick by tick, backwards: k ticks are left
  have L : ∀ k, k ≤ n → ∀ σ1, Ws [] [105] σ σ1 → (∀ t, k ≤ t → t < n → AhS σ1 t (WB (v.1 a) X Y e n t)) → GW l mX12_follows 27 [(0, .inr 82), (1, .inl (I (tt : Nat))), (2, .inl (I (a : Nat))), (3, .inl (I d)), (4, .inl (I e)), (5, .inl (I ((n : Int) - 1))), (6, .inl (I (bsd (v.1 a) 3 : Nat))), (7, .inl (I ((k : Int) - 1)))] [] σ1 0 0 (PI K) := by
    intro k
    induction k with
    | zero =>
      intro _ σ1 w1' ah
      refine gX12_follows_27 ⟨fun _ => ?_, fun z => absurd ?_ z⟩
      · exact B 0 (by omega) σ1 w1' (fun t ht => ah t (by omega) ht) (-1) (Or.inl ⟨rfl, by show ¬ (1000000 : Int) < 1000000; omega⟩)
      · rw [I_0]; exact (I_lt ⟨by omega, by omega⟩ ⟨by omega, by omega⟩).mpr (by omega)
    | succ t ihL =>
      intro hk σ1 w1' ah
      rw [show ((t + 1 : Nat) : Int) - 1 = (t : Int) by omega]
      refine gX12_follows_27 ⟨fun z => ?_, fun _ => ?_⟩
      · rw [I_0, I_lt ⟨by omega, by omega⟩ ⟨by omega, by omega⟩] at z; omega
      have P : ∀ p, p ≤ 4096 → ∀ σ2, Ws [] [105] σ σ2 → (∀ t', t + 1 ≤ t' → t' < n → AhS σ2 t' (WB (v.1 a) X Y e n t')) → (∀ q, q < p → σ2.2.1 105 (4096 * t + q) = I (rcd (WB (v.1 a) X Y e n t q))) → GW l mX12_follows 35 [(0, .inr 82), (1, .inl (I (tt : Nat))), (2, .inl (I (a : Nat))), (3, .inl (I d)), (4, .inl (I e)), (5, .inl (I ((n : Int) - 1))), (6, .inl (I (bsd (v.1 a) 3 : Nat))), (7, .inl (I (t : Nat))), (8, .inl (I (p : Nat)))] [] σ2 0 0 (PI K) := by
        refine lp ?_ ?_
        · intro σ2 w2' ah2 now
          refine gX12_follows_35 ⟨fun _ => ?_, fun z => absurd ((I_le (a := 4096) ⟨by omega, by omega⟩ ⟨by omega, by omega⟩).mpr (by omega)) z⟩
          rw [I_m1, I_add, show (t : Int) + -1 = (t : Int) - 1 by omega]
          refine ihL (by omega) σ2 w2' (fun t' b1 b2 => ?_)
          by_cases z : t' = t
          · rw [z]; exact now
          · exact ah2 t' (by omega) b2
        · intro p hp ihp σ2 w2' ah2 now
          have h2 := h.ws w2' (by decide) (by decide)
          refine gX12_follows_35 ⟨fun z => ?_, fun _ => ⟨h2.1.ob, ?_⟩⟩
          · rw [show (4096 : Int32) = I 4096 from rfl, I_le ⟨by omega, by omega⟩ ⟨by omega, by omega⟩] at z; omega
          rw [ixa]
          refine ⟨h2.1.a43 (by omega) (by omega), fun σ4 e4 => ?_⟩
          rw [h2.1.k43, I_cln (by omega)] at e4
          have w4 : Ws [] [105] σ σ4 := w2'.tr (Ws.c e4 (by decide) (by omega))
          have h4 := h.ws w4 (by decide) (by decide)
          have ah4 : ∀ t', t + 1 ≤ t' → t' < n → AhS σ4 t' (WB (v.1 a) X Y e n t') := fun t' b1 b2 => (ah2 t' b1 b2).c e4 (by omega)
          -- the pose's way is written
          have fin : ∀ (z : Int) σ5, σ5 = w1 σ4 105 (4096 * t + p) (I z) → z = rcd (WB (v.1 a) X Y e n t p) → GW l mX12_follows 35 [(0, .inr 82), (1, .inl (I (tt : Nat))), (2, .inl (I (a : Nat))), (3, .inl (I d)), (4, .inl (I e)), (5, .inl (I ((n : Int) - 1))), (6, .inl (I (bsd (v.1 a) 3 : Nat))), (7, .inl (I (t : Nat))), (8, .inl (I ((p + 1 : Nat) : Int)))] [] σ5 0 0 (PI K) := by
            intro z σ5 e5 ez
            refine ihp σ5 (w4.tr (Ws.c e5 (by decide) (by omega))) (fun t' b1 b2 => (ah4 t' b1 b2).c e5 (by omega)) (fun q hq => ?_)
            by_cases y : q = p
            · rw [y, e5, w1_at, ez]
            · rw [e5, w1_k (by omega), e4, w1_k (by omega)]; exact now q (by omega)
          refine m_isThere h4 hT ha hw (by omega) hp hd he (fun yes => ⟨fun _ => ?_, fun z => absurd z (by decide)⟩) (fun no => ⟨fun z => absurd rfl z, fun _ => ?_⟩)
          · rw [← eX, ← eY] at yes
            rw [I_eq' (by omega) (by omega) (by omega) (by omega)]
            refine ⟨fun z => ?_, fun z => ?_⟩
            · refine m_least h4 ha hw yes.1 (by omega) n40 (gok (t + 1)) (ah4 (t + 1) (by omega) (by omega)) (fun σ5 e5 => fin _ σ5 e5 ?_)
              rw [WB_in (by omega), cif_t yes]
            · refine gX12_follows_94 ⟨fun y => ?_, fun _ => ⟨fun _ => ⟨h4.1.ob, ?_⟩, fun y => absurd ((I_le ⟨by omega, by omega⟩ ⟨by omega, by omega⟩).mpr (by omega)) y⟩⟩
              · rw [I_0, I_le ⟨by omega, by omega⟩ ⟨by omega, by omega⟩] at y; omega
              rw [ixa]
              refine ⟨h4.1.a43 (by omega) (by omega), fun σ8 e8 => ?_⟩
              rw [h4.1.k43, I_cln (by omega)] at e8
              rw [I_1, I_add]
              refine fin 0 σ8 e8 ?_
              have et : t = n - 1 := by omega
              have : WB (v.1 a) X Y e n t p = 0 := by
                rw [et] at yes ⊢
                rw [WB_last n1, cif_t yes]
              rw [this]; rfl
          · rw [← eX, ← eY] at no
            rw [I_1, I_add]
            refine ihp σ4 w4 ah4 (fun q hq => ?_)
            by_cases y : q = p
            · rw [y, e4, w1_at, rcd_ge (fun z => no (WB_nr (by omega) z))]; rfl
            · rw [e4, w1_k (by omega)]; exact now q (by omega)
      exact P 0 (by omega) σ1 w1' (fun t' b1 b2 => ah t' b1 b2) (fun q hq => absurd hq (by omega))
  refine eX12_follows ⟨h.1.ob, h.1.a18 (by omega) (by omega), h.1.a7 (by omega) (by omega), ?_⟩
  rw [h.2.1.jn h.1 ha, hJ, h.tk hT.1 tt10, hT.2.2.2.2.2.1, I_1, I_sub]
  refine m_besides h.1 h.2.1 ha hw (by omega) ?_
  rw [← bsd_top hw hJ]
  exact L n (Nat.le_refl _) σ (Ws.rf _ _ _) (fun t b1 b2 => absurd b1 (by omega))
end MFW
