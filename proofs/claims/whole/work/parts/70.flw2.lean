/-! the class's Follower, 2: sweeps, lists, ticks -/
theorem shl_j : ∀ z : Nat, z < 31 → ∀ j : Nat, j < 3 → I ((z : Int) - 15) <<< ((4 * I (j : Int)) &&& 31) = I (((z : Int) - 15) * 16 ^ j) := by decide
section FLX
variable {l : Launch} {σ σ' : Sg} {A : Nat → Nat → Int} {a N : Nat} {en : Nat → Nat} {G : Nat → Int} {t p : Nat}
def RwS (σ : Sg) (A : Nat → Nat → Int) (r : Nat) (G : Nat → Int) : Prop := ∀ q : Nat, isPo A q → σ.2.1 r q = I (G q)
theorem FlS.inj (h : FlS σ A a N en) {i j : Nat} (hi : i < N) (hj : j < N) (he : en i = en j) : i = j := by
  by_cases x : i < j
  · have := h.2.2.2.2.1 i j x hj; omega
  · by_cases y : j < i
    · have := h.2.2.2.2.1 j i y hi; omega
    · omega
theorem q_sweep {K : Sg → Prop} {R1 R2 j : Nat} (h : FlS σ A a N en) (hw : ArmWf A) (hR : (R1 = 126 ∧ R2 = 127) ∨ (R1 = 127 ∧ R2 = 126)) (hj : j < 3) (hG : ∀ q : Nat, q < 4096 → 0 ≤ G q ∧ G q ≤ 1000000) (hS : RwS σ A R1 G) (hK : ∀ σ', Onl [R2] σ σ' → RwS σ' A R2 (swp A j G) → K σ') : Con l mX3_sweep [.inr 120, .inr R1, .inr R2, .inl (I (j : Nat))] σ (PV K) := by
  have w := hw.2.1 j hj
  have N4 := h.2.1
  have s1 : shp R1 = (13, 4096) := by rcases hR with ⟨rfl, rfl⟩ | ⟨rfl, rfl⟩ <;> decide
  have s2 : shp R2 = (13, 4096) := by rcases hR with ⟨rfl, rfl⟩ | ⟨rfl, rfl⟩ <;> decide
  have h135 := h.1.F.1
  refine eX3_sweep ⟨h.1.F.o120, h.1.oa, ?_⟩
  rw [h.1.2.1.1]
  refine q_speed h.1.2.2 hj ⟨h.1.oa, ?_⟩
  rw [h.1.2.1.1]
  refine q_low h.1.2.2 hj ⟨h.1.oa, ?_⟩
  rw [h.1.2.1.1]
  refine q_high h.1.2.2 hj ?_
  have F : ∀ i, i ≤ N → ∀ σ1, Onl [R2] σ σ1 → (∀ i', i' < i → σ1.2.1 R2 (en i') = I (swp A j G (en i'))) → GW l mX3_sweep 33 [(0, .inr 120), (1, .inr R1), (2, .inr R2), (3, .inl (I (j : Nat))), (4, .inl (I (A 4 j))), (5, .inl (I (A 2 j))), (6, .inl (I (A 3 j))), (7, .inl (I (i : Nat)))] [] σ1 0 0 (PV K) := by
    refine lp ?_ ?_
    · intro σ1 ho hd
      have S1 := h.onl ho (fun r hr => by rw [List.mem_singleton.mp hr]; omega) (by simp; omega) (by simp; omega) (by simp; omega) (by rw [ho.2.2 120 (by simp; omega)])
      refine gX3_sweep_33 ⟨S1.1.F.o120, fun _ => hK σ1 ho (fun q hq => ?_), fun q => absurd ?_ q⟩
      · obtain ⟨i, hi, e⟩ := h.2.2.2.2.2 q hq
        rw [← e]; exact hd i hi
      · rw [S1.2.2.1]; exact (I_le ⟨by omega, by omega⟩ ⟨by omega, by omega⟩).mpr (by omega)
    · intro i hi ih σ1 ho hd
      have S1 := h.onl ho (fun r hr => by rw [List.mem_singleton.mp hr]; omega) (by simp; omega) (by simp; omega) (by simp; omega) (by rw [ho.2.2 120 (by simp; omega)])
      have H := S1.2.2.2.1 i hi
      have hp := H.2.2.2
      obtain ⟨p, ep⟩ : ∃ p, p = en i := ⟨_, rfl⟩
      rw [← ep] at H hp
      have p0 := hp.1; have p4 := hp.2.1
      have r := plc_rg p j
      have pr := hp.2.2 j hj
      refine gX3_sweep_33 ⟨S1.1.F.o120, fun q => ?_, fun _ => ⟨fun q => ?_, fun _ => ⟨S1.1.F.a120_1 (by omega) (by omega), ?_⟩⟩⟩
      · rw [S1.2.2.1, I_le ⟨by omega, by omega⟩ ⟨by omega, by omega⟩] at q; omega
      · rw [show (4096 : Int32) = I 4096 from rfl, I_le ⟨by omega, by omega⟩ ⟨by omega, by omega⟩] at q; omega
      rw [S1.1.F.d120_1 (by omega) (by omega), I_tn, H.1]
      refine q_placeOf p0 (by omega) hj ?_
      rw [I_add, I_sub]
      refine q_min ⟨by omega, by omega⟩ ⟨by omega, by omega⟩ (q_max ⟨by omega, by omega⟩ ⟨by omega, by omega⟩ ?_)
      obtain ⟨lo, hlo⟩ : ∃ lo : Nat, max (A 2 j) (plc p j - A 4 j) = lo := ⟨(max (A 2 j) (plc p j - A 4 j)).toNat, by omega⟩
      obtain ⟨hi', hhi⟩ : ∃ hi : Nat, min (A 3 j) (plc p j + A 4 j) = hi := ⟨(min (A 3 j) (plc p j + A 4 j)).toNat, by omega⟩
      rw [hlo, hhi]
      have X : ∀ x, x ≤ hi' + 1 → lo ≤ x → GW l mX3_sweep 95 [(0, .inr 120), (1, .inr R1), (2, .inr R2), (3, .inl (I (j : Nat))), (4, .inl (I (A 4 j))), (5, .inl (I (A 2 j))), (6, .inl (I (A 3 j))), (7, .inl (I (i : Nat))), (8, .inl (I (p : Int))), (9, .inl (I (plc p j))), (10, .inl (I (hi' : Int))), (11, .inl (I (mnF (swR A j p) (fun x => G (wpo p j x).toNat + ab ((x : Int) - plc p j)) x))), (12, .inl (I (x : Int)))] [] σ1 0 0 (PV K) := by
        refine lp ?_ ?_
        · intro _
          have e16 : mnF (swR A j p) (fun x => G (wpo p j x).toNat + ab ((x : Int) - plc p j)) (hi' + 1) = swp A j G p := by
            unfold swp
            refine (mnF_to (by omega) (fun q a1 a2 a3 => ?_)).1.symm
            have := a3.1; have := a3.2; omega
          rw [e16]
          refine gX3_sweep_95 ⟨fun _ => ?_, fun q => absurd ((I_lt ⟨by omega, by omega⟩ ⟨by omega, by omega⟩).mpr (by omega)) q⟩
          rw [s2, I_0, I_lt' (by omega) (by omega) (by omega) (by omega), show Int32.ofNat (13, 4096).2 = I 4096 from rfl, I_le' (by omega) (by omega) (by omega) (by omega)]
          refine ⟨fun q => absurd q (by omega), fun _ => ⟨⟨by omega, by rw [s2]; exact Or.inl rfl, by rw [ho.1]; omega⟩, fun q => absurd q (by omega), fun _ => ⟨ai_of s2 (by omega) (by rw [ho.1]; omega) (by omega) (by omega) (by omega), fun σ6 e6 => ?_⟩⟩⟩
          rw [I_cln (by omega)] at e6
          rw [I_1, I_add]
          refine ih σ6 (ho.tr (Onl.w e6 (by simp))) (fun i' hi' => ?_)
          by_cases z : i' = i
          · rw [z, ← ep, e6, w1_at]
          · rw [e6, w1_k (fun y => z (h.inj (by omega) hi (by rw [y, ep])))]
            exact hd i' (by omega)
        · intro x hx ihx hl
          have sx : swR A j p x := ⟨⟨by omega, by omega⟩, by omega, by omega⟩
          have wl := wpo_pl (p := p) (x := x) (j := j) (by omega) (by omega) hj
          have po := swR_po hp hj (by omega) sx
          have g := hG _ wl.1
          have nx := ab_nn ((x : Int) - plc p j)
          have rd : σ1.2.1 R1 (wpo p j x).toNat = I (G (wpo p j x).toNat) := by
            rw [ho.2.2 R1 (by simp; omega)]; exact hS _ po
          have sh : I (p : Int) + ((I (x : Int) - I (plc p j)) <<< ((4 * I (j : Int)) &&& 31)) = I (((wpo p j x).toNat : Nat) : Int) := by
            rw [I_sub]
            have k := shl_j ((x : Int) - plc p j + 15).toNat (by omega) j hj
            rw [show (((((x : Int) - plc p j + 15).toNat : Nat) : Int) - 15) = (x : Int) - plc p j by omega] at k
            rw [k, I_add, wl.2.1]
            rfl
          have mb : 0 ≤ mnF (swR A j p) (fun x => G (wpo p j x).toNat + ab ((x : Int) - plc p j)) x ∧ mnF (swR A j p) (fun x => G (wpo p j x).toNat + ab ((x : Int) - plc p j)) x ≤ 1000000 := by
            refine ⟨mnF_nn (fun q hq _ => ?_), mnF_1M _⟩
            have wq := wpo_pl (p := p) (x := q) (j := j) (by omega) (by omega) hj
            have := hG _ wq.1
            have := ab_nn ((q : Int) - plc p j)
            show 0 ≤ G (wpo p j q).toNat + ab ((q : Int) - plc p j)
            omega
          have ms := mnF_yes (P := swR A j p) (g := fun x => G (wpo p j x).toNat + ab ((x : Int) - plc p j)) sx
          have ms : mnF (swR A j p) (fun x => G (wpo p j x).toNat + ab ((x : Int) - plc p j)) (x + 1) = min (mnF (swR A j p) (fun x => G (wpo p j x).toNat + ab ((x : Int) - plc p j)) x) (G (wpo p j x).toNat + ab ((x : Int) - plc p j)) := ms
          have J : ∀ y : Int, y = ab ((x : Int) - plc p j) → GW l mX3_sweep 136 [(0, .inr 120), (1, .inr R1), (2, .inr R2), (3, .inl (I (j : Nat))), (4, .inl (I (A 4 j))), (5, .inl (I (A 2 j))), (6, .inl (I (A 3 j))), (7, .inl (I (i : Nat))), (8, .inl (I (p : Int))), (9, .inl (I (plc p j))), (10, .inl (I (hi' : Int))), (11, .inl (I (mnF (swR A j p) (fun x => G (wpo p j x).toNat + ab ((x : Int) - plc p j)) x))), (12, .inl (I (x : Int))), (13, .inl (I (((wpo p j x).toNat : Nat) : Int)))] [.inl (I y)] σ1 0 0 (PV K) := by
            intro y ey
            refine gX3_sweep_136 ?_
            rw [s1, I_0, I_lt' (by omega) (by omega) (by omega) (by omega), show Int32.ofNat (13, 4096).2 = I 4096 from rfl, I_le' (by omega) (by omega) (by omega) (by omega), I_cln (by omega), rd, I_add, I_le' (by omega) (by omega) (by omega) (by omega), I_1, I_add]
            refine ⟨fun q => absurd q (by omega), fun _ => ⟨⟨by omega, by rw [s1]; exact Or.inl rfl, by rw [ho.1]; omega⟩, fun q => absurd q (by omega), fun _ => ⟨ai_of s1 (by omega) (by rw [ho.1]; omega) (by omega) (by omega) (by omega), fun q => ?_, fun q => ?_⟩⟩⟩
            · have := ihx (by omega)
              rw [ms, show min (mnF (swR A j p) (fun x => G (wpo p j x).toNat + ab ((x : Int) - plc p j)) x) (G (wpo p j x).toNat + ab ((x : Int) - plc p j)) = mnF (swR A j p) (fun x => G (wpo p j x).toNat + ab ((x : Int) - plc p j)) x by omega] at this
              exact this
            · have := ihx (by omega)
              rw [ms, show min (mnF (swR A j p) (fun x => G (wpo p j x).toNat + ab ((x : Int) - plc p j)) x) (G (wpo p j x).toNat + ab ((x : Int) - plc p j)) = G (wpo p j x).toNat + y by omega] at this
              exact this
          refine gX3_sweep_95 ⟨fun q => ?_, fun _ => ?_⟩
          · rw [I_lt ⟨by omega, by omega⟩ ⟨by omega, by omega⟩] at q; omega
          rw [sh, I_le' (by omega) (by omega) (by omega) (by omega), I_sub, I_sub]
          refine ⟨fun q => J _ ?_, fun q => J _ ?_⟩
          · unfold ab; rw [if_pos (by omega)]
          · unfold ab; rw [if_neg (by omega)]; omega
      have x0 := X lo (by omega) (Nat.le_refl _)
      rw [(mnF_none (P := swR A j p) (g := fun x => G (wpo p j x).toNat + ab ((x : Int) - plc p j)) (k := lo) (fun q hq z => by have := z.1; have := z.2; omega)).1] at x0
      exact x0
  exact F 0 (by omega) σ (Onl.rf _ _) (fun i' hi' => absurd hi' (by omega))
theorem swp_ok (hG : ∀ q : Nat, q < 4096 → 0 ≤ G q ∧ G q ≤ 1000000) {j : Nat} (hj : j < 3) : ∀ q : Nat, q < 4096 → 0 ≤ swp A j G q ∧ swp A j G q ≤ 1000000 := by
  intro q hq
  refine ⟨mnF_nn (fun x hx _ => ?_), mnF_1M _⟩
  have wq := wpo_pl (p := q) (x := x) (j := j) hq hx hj
  have := hG _ wq.1
  have := ab_nn ((x : Int) - plc q j)
  show 0 ≤ G (wpo q j x).toNat + ab ((x : Int) - plc q j)
  omega
theorem q_spreadTick {K : Sg → Prop} (h : FlS σ A a N en) (hw : ArmWf A) (ht : t < 40) (hG : ∀ q : Nat, q < 4096 → 0 ≤ G q ∧ G q ≤ 1000000) (hW : WyS σ A t G) (hK : ∀ σ', Onl [126, 127] σ σ' → RwS σ' A 126 (stW A G) → K σ') : Con l mX3_spreadTick [.inr 120, .inl (I (t : Int))] σ (PV K) := by
  have N4 := h.2.1
  have E : ∀ (y : Int32) σ1, Onl [126, 127] σ σ1 → RwS σ1 A 127 G → GW l mX3_spreadTick 46 [(0, .inr 120), (1, .inl (I (t : Int))), (2, .inl y)] [] σ1 0 0 (PV K) := by
    intro y σ1 ho hr
    have S1 := h.onl ho (by decide) (by decide) (by decide) (by decide) (by rw [ho.2.2 120 (by decide)])
    refine gX3_spreadTick_46 ⟨S1.1.F.o120, ?_⟩
    rw [S1.1.F.p120_6, S1.1.F.p120_5]
    refine q_sweep (R1 := 127) (R2 := 126) (j := 0) S1 hw (Or.inr ⟨rfl, rfl⟩) (by omega) hG hr (fun σ2 o2 r2 => ?_)
    have S2 := S1.onl o2 (by decide) (by decide) (by decide) (by decide) (by rw [o2.2.2 120 (by decide)])
    rw [S2.1.F.p120_6, S2.1.F.p120_5]
    refine q_sweep (R1 := 126) (R2 := 127) (j := 1) S2 hw (Or.inl ⟨rfl, rfl⟩) (by omega) (swp_ok hG (by omega)) r2 (fun σ3 o3 r3 => ?_)
    have S3 := S2.onl o3 (by decide) (by decide) (by decide) (by decide) (by rw [o3.2.2 120 (by decide)])
    rw [S3.1.F.p120_6, S3.1.F.p120_5]
    refine q_sweep (R1 := 127) (R2 := 126) (j := 2) S3 hw (Or.inr ⟨rfl, rfl⟩) (by omega) (swp_ok (swp_ok hG (by omega)) (by omega)) r3 (fun σ4 o4 r4 => ?_)
    refine hK σ4 (((ho.tr (o2.up (by decide))).tr (o3.up (by decide))).tr (o4.up (by decide))) (fun q hq => ?_)
    rw [r4 q hq, sw3 hq (fun p hp => ⟨(hG p hp).1, (hG p hp).2, fun _ => (hG p hp).2⟩)]
  have F : ∀ i, i ≤ N → ∀ σ1, Onl [126, 127] σ σ1 → (∀ i', i' < i → σ1.2.1 127 (en i') = I (G (en i'))) → GW l mX3_spreadTick 2 [(0, .inr 120), (1, .inl (I (t : Int))), (2, .inl (I (i : Nat)))] [] σ1 0 0 (PV K) := by
    refine lp ?_ ?_
    · intro σ1 ho hd
      have S1 := h.onl ho (by decide) (by decide) (by decide) (by decide) (by rw [ho.2.2 120 (by decide)])
      refine gX3_spreadTick_2 ⟨S1.1.F.o120, fun _ => E _ σ1 ho (fun q hq => ?_), fun q => absurd ?_ q⟩
      · obtain ⟨i, hi, e⟩ := h.2.2.2.2.2 q hq
        rw [← e]; exact hd i hi
      · rw [S1.2.2.1]; exact (I_le ⟨by omega, by omega⟩ ⟨by omega, by omega⟩).mpr (by omega)
    · intro i hi ih σ1 ho hd
      have S1 := h.onl ho (by decide) (by decide) (by decide) (by decide) (by rw [ho.2.2 120 (by decide)])
      have H := S1.2.2.2.1 i hi
      have hp := H.2.2.2
      have p0 := hp.1; have p4 := hp.2.1
      refine gX3_spreadTick_2 ⟨S1.1.F.o120, fun q => ?_, fun _ => ⟨fun q => ?_, fun _ => ⟨S1.1.F.a120_1 (by omega) (by omega), ?_⟩⟩⟩
      · rw [S1.2.2.1, I_le ⟨by omega, by omega⟩ ⟨by omega, by omega⟩] at q; omega
      · rw [show (4096 : Int32) = I 4096 from rfl, I_le ⟨by omega, by omega⟩ ⟨by omega, by omega⟩] at q; omega
      rw [S1.1.F.d120_1 (by omega) (by omega), I_tn, H.1, and4095 (by omega)]
      refine q_wayAt S1.1 ht (by omega) ?_
      rw [(hW.onl ho (by decide)) _ hp]
      refine ⟨S1.1.F.a120_6 (by omega) (by omega), fun σ7 e7 => ?_⟩
      rw [S1.1.F.p120_6, I_cln (by omega)] at e7
      rw [I_1, I_add]
      refine ih σ7 (ho.tr (Onl.w e7 (by decide))) (fun i' hi' => ?_)
      by_cases z : i' = i
      · rw [z, e7, w1_at]
      · rw [e7, w1_k (fun y => z (h.inj (by omega) hi y))]
        exact hd i' (by omega)
  exact eX3_spreadTick (F 0 (by omega) σ (Onl.rf _ _) (fun i' hi' => absurd hi' (by omega)))
theorem q_cheaper {K : Int32 → Sg → Prop} (h : FlB σ A a) (h0 : K 0 σ) (h1 : K 1 σ) : Con l mX3_isSpreadCheaper [.inr 120] σ (PI K) := by
  have F : ∀ j, j ≤ 3 → ∀ x y : Int32, GW l mX3_isSpreadCheaper 6 [(0, .inr 120), (1, .inl x), (2, .inl y), (3, .inl (I (j : Nat)))] [] σ 0 0 (PI K) := by
    refine lp ?_ ?_
    · intro x y
      exact gX3_isSpreadCheaper_6 ⟨fun _ => ⟨h.F.o120, fun _ => h0, fun _ => h1⟩, fun q => absurd ((I_le (a := 3) ⟨by omega, by omega⟩ ⟨by omega, by omega⟩).mpr (by omega)) q⟩
    · intro j hj ih x y
      refine gX3_isSpreadCheaper_6 ⟨fun q => ?_, fun _ => ⟨h.F.o120, h.oa, ?_⟩⟩
      · rw [L_lit, I_le ⟨by omega, by omega⟩ ⟨by omega, by omega⟩] at q; omega
      rw [h.2.1.1]
      refine q_speed h.2.2 hj ⟨h.oa, ?_⟩
      rw [h.2.1.1]
      refine q_speed h.2.2 hj ?_
      rw [show I ((j : Nat) : Int) + 1 = I ((j + 1 : Nat) : Int) by rw [I_1, I_add]; rfl]
      exact ih _ _
  exact eX3_isSpreadCheaper (F 0 (by omega) 1 0)
/-- the near poses of a tick -/
def NrS (σ : Sg) (A : Nat → Nat → Int) (X Y : Nat → Int) (e : Int) (t M : Nat) (nn : Nat → Nat) : Prop := M ≤ 4096 ∧ σ.2.1 120 13 = I (M : Nat) ∧ (∀ i, i < M → σ.2.1 125 i = I (nn i : Nat)) ∧ (∀ i j, i < j → j < M → nn i < nn j) ∧ ∀ p : Nat, nrP A X Y e t p ↔ ∃ i, i < M ∧ nn i = p
/-- what is wanted -/
def WnS (σ : Sg) (X Y : Nat → Int) (e : Int) (n : Nat) : Prop := σ.2.1 120 12 = I e ∧ (0 ≤ e ∧ e ≤ 2000) ∧ n ≤ 40 ∧ ∀ i, i < n → σ.2.1 128 i = I (X i) ∧ σ.2.1 129 i = I (Y i) ∧ (-200000 ≤ X i ∧ X i ≤ 200000) ∧ (-200000 ≤ Y i ∧ Y i ≤ 200000)
theorem q_gatherNear {K : Sg → Prop} {X Y : Nat → Int} {e : Int} {n : Nat} (h : FlS σ A a N en) (hw : ArmWf A) (hn : WnS σ X Y e n) (ht : t < n)
    (hK : ∀ (M : Nat) (nn : Nat → Nat) σ', Onl [120, 121, 125] σ σ' → (∀ k, k ≠ 13 → σ'.2.1 120 k = σ.2.1 120 k) → WyS σ' A t (fun _ => 1000000) → (∀ y, ¬ (4096 * t ≤ y ∧ y < 4096 * t + 4096) → σ'.2.1 121 y = σ.2.1 121 y) → NrS σ' A X Y e t M nn → K σ') : Con l mX3_gatherNear [.inr 120, .inl (I (t : Int))] σ (PV K) := by
  have N4 := h.2.1
  have n40 := hn.2.2.1
  have w0 := hn.2.2.2 t ht
  have e0 := hn.2.1
  have F : ∀ i, i ≤ N → ∀ (M : Nat) (nn : Nat → Nat) σ1, M ≤ i → Onl [120, 121, 125] σ σ1 → (∀ k, k ≠ 13 → σ1.2.1 120 k = σ.2.1 120 k) → (∀ i', i' < i → σ1.2.1 121 (4096 * t + en i') = I 1000000) → (∀ y, ¬ (4096 * t ≤ y ∧ y < 4096 * t + 4096) → σ1.2.1 121 y = σ.2.1 121 y) → σ1.2.1 120 13 = I (M : Nat) → (∀ k, k < M → σ1.2.1 125 k = I (nn k : Nat)) → (∀ k j, k < j → j < M → nn k < nn j) → (∀ p : Nat, (nrP A X Y e t p ∧ ∃ i', i' < i ∧ en i' = p) ↔ ∃ k, k < M ∧ nn k = p) → GW l mX3_gatherNear 33 [(0, .inr 120), (1, .inl (I (t : Int))), (2, .inl (I (X t))), (3, .inl (I (Y t))), (4, .inl (I (i : Nat)))] [] σ1 0 0 (PV K) := by
    refine lp ?_ ?_
    · intro M nn σ1 hM ho hk hd hy h13 hl hi hc
      have S1 := h.onl ho (by decide) (by decide) (by decide) (by decide) (hk 14 (by omega))
      refine gX3_gatherNear_33 ⟨S1.1.F.o120, fun _ => hK M nn σ1 ho hk (fun q hq => ?_) hy ⟨by omega, h13, hl, hi, fun p => ⟨fun z => ?_, fun z => ((hc p).mpr z).1⟩⟩, fun q => absurd ?_ q⟩
      · obtain ⟨i, hi, e⟩ := h.2.2.2.2.2 q hq
        rw [← e]; exact hd i hi
      · exact (hc p).mp ⟨z, h.2.2.2.2.2 p z.1⟩
      · rw [S1.2.2.1]; exact (I_le ⟨by omega, by omega⟩ ⟨by omega, by omega⟩).mpr (by omega)
    · intro i hi ih M nn σ1 hM ho hk hd hy h13 hl hi' hc
      have S1 := h.onl ho (by decide) (by decide) (by decide) (by decide) (hk 14 (by omega))
      have H := S1.2.2.2.1 i hi
      have hp := H.2.2.2
      have p0 := hp.1; have p4 := hp.2.1
      have tx := tip_rg (w := 0) hw (p := (en i : Int)) (Or.inl rfl)
      have ty := tip_rg (w := 1) hw (p := (en i : Int)) (Or.inr rfl)
      refine gX3_gatherNear_33 ⟨S1.1.F.o120, fun q => ?_, fun _ => ⟨fun q => ?_, fun _ => ⟨S1.1.F.a120_1 (by omega) (by omega), ?_⟩⟩⟩
      · rw [S1.2.2.1, I_le ⟨by omega, by omega⟩ ⟨by omega, by omega⟩] at q; omega
      · rw [show (4096 : Int32) = I 4096 from rfl, I_le ⟨by omega, by omega⟩ ⟨by omega, by omega⟩] at q; omega
      rw [S1.1.F.d120_1 (by omega) (by omega), I_tn, H.1, and4095 (by omega), ix4096]
      refine ⟨S1.1.F.a120_0 (by omega) (by omega), fun σ6 e6 => ?_⟩
      rw [S1.1.F.p120_0, I_cln (by omega)] at e6
      have o6 : Onl [120, 121, 125] σ σ6 := ho.tr (Onl.w e6 (by decide))
      have k6 : ∀ k, k ≠ 13 → σ6.2.1 120 k = σ.2.1 120 k := fun k hk' => by rw [e6, w1_r (by omega)]; exact hk k hk'
      have S6 := h.onl o6 (by decide) (by decide) (by decide) (by decide) (k6 14 (by omega))
      have H6 := S6.2.2.2.1 i hi
      have d6 : ∀ i', i' < i + 1 → σ6.2.1 121 (4096 * t + en i') = I 1000000 := fun i' hi' => by
        by_cases z : i' = i
        · rw [z, e6, w1_at]; rfl
        · rw [e6, w1_k (fun y => z (h.inj (by omega) hi (by omega)))]; exact hd i' (by omega)
      have y6 : ∀ y, ¬ (4096 * t ≤ y ∧ y < 4096 * t + 4096) → σ6.2.1 121 y = σ.2.1 121 y := fun y hy' => by
        rw [e6, w1_k (by omega)]; exact hy y hy'
      have m6 : σ6.2.1 120 13 = I (M : Nat) := by rw [e6, w1_r (by omega)]; exact h13
      have l6 : ∀ k, k < M → σ6.2.1 125 k = I (nn k : Nat) := fun k hk' => by rw [e6, w1_r (by omega)]; exact hl k hk'
      refine ⟨S6.1.F.a120_2 (by omega) (by omega), S6.1.F.a120_3 (by omega) (by omega), ?_⟩
      rw [S6.1.F.d120_2 (by omega) (by omega), S6.1.F.d120_3 (by omega) (by omega), I_tn, H6.2.1, H6.2.2.1, k6 12 (by omega), hn.1, m6, I_sub, I_sub, I_neg, I_neg, I_1, I_add, I_lt' (by omega) (by omega) (by omega) (by omega), I_lt' (by omega) (by omega) (by omega) (by omega), I_lt' (by omega) (by omega) (by omega) (by omega), I_lt' (by omega) (by omega) (by omega) (by omega), show (4096 : Int32) = I 4096 from rfl, I_le' (by omega) (by omega) (by omega) (by omega)]
      -- not near
      have no : ¬ nrP A X Y e t (en i) → GW l mX3_gatherNear 33 [(0, .inr 120), (1, .inl (I (t : Int))), (2, .inl (I (X t))), (3, .inl (I (Y t))), (4, .inl (I ((i : Int) + 1)))] [] σ6 0 0 (PV K) := by
        intro nz
        refine ih M nn σ6 (by omega) o6 k6 d6 y6 m6 l6 hi' (fun p => ?_)
        rw [← hc p]
        constructor
        · intro ⟨a1, i', a2, a3⟩
          refine ⟨a1, i', ?_, a3⟩
          by_cases z : i' = i
          · rw [z] at a3; rw [← a3] at a1; exact absurd a1 nz
          · omega
        · intro ⟨a1, i', a2, a3⟩
          exact ⟨a1, i', by omega, a3⟩
      refine ⟨fun q => no (fun z => by have := z.2.1; omega), fun q1 => ⟨fun q => no (fun z => by have := z.2.1; omega), fun q2 => ⟨fun q => no (fun z => by have := z.2.2; omega), fun q3 => ⟨fun q => no (fun z => by have := z.2.2; omega), fun q4 => ⟨fun q => absurd q (by omega), fun _ => ⟨S6.1.F.a120_4 (by omega) (by omega), fun σ15 e15 σ16 e16 => ?_⟩⟩⟩⟩⟩⟩
      have yes : nrP A X Y e t (en i) := ⟨hp, by omega, by omega⟩
      rw [S6.1.F.p120_4, I_cln (by omega)] at e15
      have m15 : σ15.2.1 120 13 = I (M : Nat) := by rw [e15, w1_r (by omega)]; exact m6
      rw [m15, I_add] at e16
      refine ih (M + 1) (fun k => if k = M then en i else nn k) σ16 (by omega) ((o6.tr (Onl.w e15 (by decide))).tr (Onl.w e16 (by decide))) (fun k hk' => by rw [e16, w1_k hk', e15, w1_r (by omega)]; exact k6 k hk') (fun i' hi' => by rw [e16, w1_r (by omega), e15, w1_r (by omega)]; exact d6 i' hi') (fun y hy' => by rw [e16, w1_r (by omega), e15, w1_r (by omega)]; exact y6 y hy') (by rw [e16, w1_at]; rfl) (fun k hk' => ?_) (fun k j hkj hj => ?_) (fun p => ?_)
      · rw [e16, w1_r (by omega), e15]
        show _ = I ((if k = M then en i else nn k : Nat) : Int)
        by_cases z : k = M
        · rw [if_pos z, z, w1_at]
        · rw [if_neg z, w1_k z]; exact l6 k (by omega)
      · show (if k = M then en i else nn k) < (if j = M then en i else nn j)
        rw [if_neg (by omega)]
        by_cases z : j = M
        · rw [if_pos z]
          obtain ⟨_, i', b1, b2⟩ := (hc (nn k)).mpr ⟨k, by omega, rfl⟩
          rw [← b2]; exact h.2.2.2.2.1 i' i b1 hi
        · rw [if_neg z]; exact hi' k j hkj (by omega)
      · constructor
        · intro ⟨a1, i', a2, a3⟩
          by_cases z : i' = i
          · exact ⟨M, by omega, by show (if M = M then en i else nn M) = p; rw [if_pos rfl, ← z]; exact a3⟩
          · obtain ⟨k, b1, b2⟩ := (hc p).mp ⟨a1, i', by omega, a3⟩
            exact ⟨k, by omega, by show (if k = M then en i else nn k) = p; rw [if_neg (by omega)]; exact b2⟩
        · intro ⟨k, b1, b2⟩
          have b2 : (if k = M then en i else nn k) = p := b2
          by_cases z : k = M
          · rw [if_pos z] at b2
            exact ⟨by rw [← b2]; exact yes, i, by omega, b2⟩
          · rw [if_neg z] at b2
            obtain ⟨c1, i', c2, c3⟩ := (hc p).mpr ⟨k, by omega, b2⟩
            exact ⟨c1, i', by omega, c3⟩
  refine eX3_gatherNear ⟨h.1.F.o120, fun σ2 e2 => ?_⟩
  have o2 : Onl [120, 121, 125] σ σ2 := Onl.w e2 (by decide)
  have B2 := h.1.onl o2 (by decide)
  rw [I_0, I_lt' (by omega) (by omega) (by omega) (by omega), show (40 : Int32) = I 40 from rfl, I_lt' (by omega) (by omega) (by omega) (by omega)]
  refine ⟨fun q => absurd q (by omega), fun _ => ⟨fun _ => ⟨B2.F.a120_7 (by omega) (by omega), B2.F.a120_8 (by omega) (by omega), ?_⟩, fun q => absurd (by omega) q⟩⟩
  rw [B2.F.d120_7 (by omega) (by omega), B2.F.d120_8 (by omega) (by omega), I_tn, o2.2.2 128 (by decide), o2.2.2 129 (by decide), w0.1, w0.2.1]
  exact F 0 (by omega) 0 (fun _ => 0) σ2 (by omega) o2 (fun k hk => by rw [e2, w1_k hk]) (fun i' hi' => absurd hi' (by omega)) (fun y _ => by rw [e2, w1_r (by omega)]) (by rw [e2, w1_at]; rfl) (fun k hk => absurd hk (by omega)) (fun k j _ hj => absurd hj (by omega)) (fun p => ⟨fun ⟨_, i', a2, _⟩ => absurd a2 (by omega), fun ⟨k, b1, _⟩ => absurd b1 (by omega)⟩)
end FLX
