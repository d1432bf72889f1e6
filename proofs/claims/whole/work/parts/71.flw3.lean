/-! the class's Follower, 3: ticks -/
section FLT
variable {l : Launch} {σ σ' : Sg} {A : Nat → Nat → Int} {a N : Nat} {en : Nat → Nat} {G : Nat → Int} {t p : Nat} {X Y : Nat → Int} {e : Int} {n : Nat}
def Fk (t : Nat) (σ σ2 : Sg) : Prop := Onl [120, 121, 125, 126, 127] σ σ2 ∧ (∀ k, k ≠ 13 → k ≠ 15 → k ≠ 16 → σ2.2.1 120 k = σ.2.1 120 k) ∧ ∀ y, ¬ (4096 * t ≤ y ∧ y < 4096 * t + 4096) → σ2.2.1 121 y = σ.2.1 121 y
theorem Fk.tr {σ1 σ2 : Sg} (h : Fk t σ σ1) (h' : Fk t σ1 σ2) : Fk t σ σ2 := ⟨h.1.tr h'.1, fun k a b c => (h'.2.1 k a b c).trans (h.2.1 k a b c), fun y hy => (h'.2.2 y hy).trans (h.2.2 y hy)⟩
theorem Fk.rf (t : Nat) (σ : Sg) : Fk t σ σ := ⟨Onl.rf _ _, fun _ _ _ _ => rfl, fun _ _ => rfl⟩
theorem Fk.S (h : Fk t σ σ') (hS : FlS σ A a N en) : FlS σ' A a N en := hS.onl h.1 (by decide) (by decide) (by decide) (by decide) (h.2.1 14 (by omega) (by omega) (by omega))
theorem Fk.W (h : Fk t σ σ') {b : Nat} (hb : b ≠ t) (hW : WyS σ A b G) : WyS σ' A b G := fun q hq => by
  have := hq.2.1; have := hq.1
  rw [h.2.2 (4096 * b + q) (by omega)]; exact hW q hq
theorem Fk.Wn (h : Fk t σ σ') (hn : WnS σ X Y e n) : WnS σ' X Y e n := ⟨by rw [h.2.1 12 (by omega) (by omega) (by omega)]; exact hn.1, hn.2.1, hn.2.2.1, fun i hi => by rw [h.1.2.2 128 (by decide), h.1.2.2 129 (by decide)]; exact hn.2.2.2 i hi⟩
theorem q_fillTick {K : Int32 → Sg → Prop} {bs : Int} {g : Nat → Int} (h : FlS σ A a N en) (hw : ArmWf A) (hn : WnS σ X Y e n) (ht : t < n) (hb : (bs = -1 ∧ g = fun _ => 0) ∨ ∃ (b : Nat) (G : Nat → Int), bs = b ∧ b < 40 ∧ b ≠ t ∧ Gok 400 G ∧ WyS σ A b G ∧ g = stW A G) (hg : ∀ p, p < 4096 → 0 ≤ g p ∧ g p ≤ 1000000)
    (hK : ∀ (M : Nat) (nn : Nat → Nat) (x : Int) σ', Fk t σ σ' → WyS σ' A t (fun p => cif (nrP A X Y e t p) (g p) 1000000) → NrS σ' A X Y e t M nn → ((x = 1 ∧ ∃ p : Nat, p < 4096 ∧ cif (nrP A X Y e t p) (g p) 1000000 < 1000000) ∨ (x = 0 ∧ ∀ p : Nat, p < 4096 → ¬ cif (nrP A X Y e t p) (g p) 1000000 < 1000000)) → K (I x) σ') : Con l mX3_fillTick [.inr 120, .inl (I (t : Int)), .inl (I bs)] σ (PI K) := by
  have t40 : t < 40 := by have := hn.2.2.1; omega
  refine eX3_fillTick ⟨h.1.F.o120, q_gatherNear h hw hn ht (fun M nn σ1 o1 k1 w1' y1 nr => ?_)⟩
  have f1 : Fk t σ σ1 := ⟨o1.up (by decide), fun k a _ _ => k1 k a, y1⟩
  have S1 := f1.S h
  have M4 := nr.1
  have bs_rg : -1 ≤ bs ∧ bs < 40 := by
    rcases hb with hb | ⟨b, G, e1, e2, _⟩
    · omega
    · omega
  have po : ∀ k, k < M → nrP A X Y e t (nn k) := fun k hk => (nr.2.2.2.2 (nn k)).mpr ⟨k, hk, rfl⟩
  -- one pose after the other
  have F : ∀ i, i ≤ M → ∀ (wd s : Int) σ2, (wd = 0 ∨ (wd = 1 ∧ RwS σ2 A 126 g)) → Fk t σ1 σ2 → (∀ k, k < M → σ2.2.1 125 k = I (nn k : Nat)) → σ2.2.1 120 13 = I (M : Nat) → WyS σ2 A t (fun p => cif (∃ k, k < i ∧ nn k = p) (g p) 1000000) → ((s = 1 ∧ ∃ k, k < i ∧ g (nn k) < 1000000) ∨ (s = 0 ∧ ∀ k, k < i → ¬ g (nn k) < 1000000)) → GW l mX3_fillTick 39 [(0, .inr 120), (1, .inl (I (t : Int))), (2, .inl (I bs)), (3, .inl (I s)), (4, .inl (I wd)), (5, .inl (I (i : Nat)))] [] σ2 0 0 (PI K) := by
    refine lp ?_ ?_
    · intro wd s σ2 hwd f2 l2 m2 w2' hs
      have S2 := f2.S S1
      have s01 : s = 0 ∨ s = 1 := by rcases hs with hs | hs <;> omega
      have ev : ∀ p : Nat, cif (∃ k, k < M ∧ nn k = p) (g p) 1000000 = cif (nrP A X Y e t p) (g p) 1000000 := fun p => by
        by_cases z : nrP A X Y e t p
        · rw [cif_t z, cif_t ((nr.2.2.2.2 p).mp z)]
        · rw [cif_f z, cif_f (fun y => z ((nr.2.2.2.2 p).mpr y))]
      refine gX3_fillTick_39 ⟨S2.1.F.o120, fun _ => ⟨?_, ?_⟩, fun q => absurd ?_ q⟩
      · rcases s01 with z | z <;> rw [z]
        · exact Or.inl rfl
        · exact Or.inr rfl
      · refine hK M nn s σ2 (f1.tr f2) (fun q hq => by rw [w2' q hq]; exact congrArg I (ev q)) ⟨M4, m2, l2, nr.2.2.2.1, nr.2.2.2.2⟩ ?_
        rcases hs with ⟨e1, k, e2, e3⟩ | ⟨e1, e2⟩
        · left
          refine ⟨e1, nn k, ?_, by rw [cif_t (po k e2)]; exact e3⟩
          have := (po k e2).1.2.1; omega
        · right
          refine ⟨e1, fun p hp z => ?_⟩
          by_cases y : nrP A X Y e t p
          · rw [cif_t y] at z
            obtain ⟨k, b1, b2⟩ := (nr.2.2.2.2 p).mp y
            rw [← b2] at z; exact e2 k b1 z
          · rw [cif_f y] at z; omega
      · rw [m2]; exact (I_le ⟨by omega, by omega⟩ ⟨by omega, by omega⟩).mpr (by omega)
    · intro i hi ih wd s σ2 hwd f2 l2 m2 w2' hs
      have S2 := f2.S S1
      have hp := po i hi
      obtain ⟨p, ep⟩ : ∃ p, p = nn i := ⟨_, rfl⟩
      rw [← ep] at hp
      have p0 := hp.1.1; have p4 := hp.1.2.1
      have gp := hg p (by omega)
      -- the way of this pose is known
      have E : ∀ σ3, Fk t σ2 σ3 → (∀ k, k < M → σ3.2.1 125 k = I (nn k : Nat)) → σ3.2.1 120 13 = I (M : Nat) → WyS σ3 A t (fun p => cif (∃ k, k < i ∧ nn k = p) (g p) 1000000) → (wd = 0 ∨ (wd = 1 ∧ RwS σ3 A 126 g)) → GW l mX3_fillTick 107 [(0, .inr 120), (1, .inl (I (t : Int))), (2, .inl (I bs)), (3, .inl (I s)), (4, .inl (I wd)), (5, .inl (I (i : Nat))), (6, .inl (I (p : Int))), (7, .inl (I (g p)))] [] σ3 0 0 (PI K) := by
        intro σ3 f3 l3 m3 w3' hwd3
        have S3 := f3.S S2
        refine gX3_fillTick_107 ⟨S3.1.F.o120, q_setWay S3.1 t40 (by omega) gp (fun σ4 e4 => ?_)⟩
        have f4 : Fk t σ3 σ4 := ⟨Onl.w e4 (by decide), fun k _ _ _ => by rw [e4, w1_r (by omega)], fun y hy => by rw [e4, w1_k (by omega)]⟩
        have go : ∀ s' : Int, ((s' = 1 ∧ ∃ k, k < i + 1 ∧ g (nn k) < 1000000) ∨ (s' = 0 ∧ ∀ k, k < i + 1 → ¬ g (nn k) < 1000000)) → GW l mX3_fillTick 39 [(0, .inr 120), (1, .inl (I (t : Int))), (2, .inl (I bs)), (3, .inl (I s')), (4, .inl (I wd)), (5, .inl (I (i : Nat) + 1))] [] σ4 0 0 (PI K) := by
          intro s' hs'
          rw [I_1, I_add]
          refine ih wd s' σ4 ?_ ((f2.tr f3).tr f4) (fun k hk => by rw [e4, w1_r (by omega)]; exact l3 k hk) (by rw [e4, w1_r (by omega)]; exact m3) (fun q hq => ?_) hs'
          · rcases hwd3 with z | ⟨z, r3⟩
            · exact Or.inl z
            · exact Or.inr ⟨z, fun q hq => by rw [e4, w1_r (by omega)]; exact r3 q hq⟩
          · show σ4.2.1 121 (4096 * t + q) = I (cif (∃ k, k < i + 1 ∧ nn k = q) (g q) 1000000)
            by_cases z : q = p
            · rw [cif_t ⟨i, by omega, by rw [z, ep]⟩, z, e4, w1_at]
            · rw [e4, w1_k (by omega), w3' q hq]
              show I (cif (∃ k, k < i ∧ nn k = q) (g q) 1000000) = _
              congr 1
              by_cases y : ∃ k, k < i ∧ nn k = q
              · obtain ⟨k, b1, b2⟩ := y
                rw [cif_t ⟨k, b1, b2⟩, cif_t ⟨k, by omega, b2⟩]
              · rw [cif_f y, cif_f]
                intro ⟨k, b1, b2⟩
                by_cases u : k = i
                · rw [u, ← ep] at b2; exact z b2.symm
                · exact y ⟨k, by omega, b2⟩
        rcases hs with ⟨e1, k, e2, e3⟩ | ⟨e1, e2⟩
        · rw [e1]
          exact ⟨fun _ => go 1 (Or.inl ⟨rfl, k, by omega, e3⟩), fun z => absurd z (by decide)⟩
        · rw [e1]
          refine ⟨fun z => absurd rfl z, fun _ => ?_⟩
          rw [show (1000000 : Int32) = I 1000000 from rfl, I_le' (by omega) (by omega) (by omega) (by omega)]
          refine ⟨fun z => go 0 (Or.inr ⟨rfl, fun k hk => ?_⟩), fun z => go 1 (Or.inl ⟨rfl, i, by omega, by rw [← ep]; omega⟩)⟩
          by_cases u : k = i
          · rw [u, ← ep]; omega
          · exact e2 k (by omega)
      have wr : wd = 0 ∨ wd = 1 := by rcases hwd with z | ⟨z, _⟩ <;> omega
      refine gX3_fillTick_39 ⟨S2.1.F.o120, fun q => ?_, fun _ => ⟨fun q => ?_, fun _ => ⟨S2.1.F.a120_4 (by omega) (by omega), ?_⟩⟩⟩
      · rw [m2, I_le ⟨by omega, by omega⟩ ⟨by omega, by omega⟩] at q; omega
      · rw [show (4096 : Int32) = I 4096 from rfl, I_le ⟨by omega, by omega⟩ ⟨by omega, by omega⟩] at q; omega
      rw [S2.1.F.d120_4 (by omega) (by omega), I_tn, l2 i hi, ← ep, and4095 (by omega), I_0, I_eq' (by omega) (by omega) (by omega) (by omega)]
      refine ⟨fun z => ?_, fun z => ?_⟩
      · rw [I_m1, I_eq' (by omega) (by omega) (by omega) (by omega)]
        rcases hb with ⟨b1, b2⟩ | ⟨b, G, b1, b2, b3, b4, b5, b6⟩
        · refine ⟨fun _ => ?_, fun y => absurd b1 y⟩
          have := E σ2 (Fk.rf _ _) l2 m2 w2' hwd
          rw [b2] at this
          exact this
        · refine ⟨fun y => absurd y (by omega), fun _ => ?_⟩
          rw [b1]
          refine q_seekNear S2.1 hw b2 hp.1 b4 (f2.W b3 (f1.W b3 b5)) (fun σ9 o9 k9 s9 => ?_)
          have f9 : Fk t σ2 σ9 := ⟨o9.up (by decide), fun k _ c d => k9 k c d, fun y _ => by rw [o9.2.2 121 (by decide)]⟩
          have e9 : σ9.2.1 120 15 = I (g p) := by rw [s9.1, b6]; rfl
          rw [e9, ← b1]
          refine E σ9 f9 (fun k hk => by rw [o9.2.2 125 (by decide)]; exact l2 k hk) (by rw [k9 13 (by omega) (by omega)]; exact m2) (w2'.onl o9 (by decide)) ?_
          exact Or.inl z
      · rcases hwd with y | ⟨y, r2⟩
        · exact absurd y z
        · refine ⟨S2.1.F.a120_5 (by omega) (by omega), ?_⟩
          rw [S2.1.F.d120_5 (by omega) (by omega), I_tn, r2 p hp.1]
          exact E σ2 (Fk.rf _ _) l2 m2 w2' (Or.inr ⟨y, r2⟩)
  have start : ∀ (wd : Int) σ2, (wd = 0 ∨ (wd = 1 ∧ RwS σ2 A 126 g)) → Fk t σ1 σ2 → Onl [126, 127] σ1 σ2 → GW l mX3_fillTick 39 [(0, .inr 120), (1, .inl (I (t : Int))), (2, .inl (I bs)), (3, .inl 0), (4, .inl (I wd)), (5, .inl 0)] [] σ2 0 0 (PI K) := by
    intro wd σ2 hwd f2 o2
    refine F 0 (by omega) wd 0 σ2 hwd f2 (fun k hk => by rw [o2.2.2 125 (by decide)]; exact nr.2.2.1 k hk) (by rw [o2.2.2 120 (by decide)]; exact nr.2.1) (fun q hq => ?_) (Or.inr ⟨rfl, fun k hk => absurd hk (by omega)⟩)
    rw [o2.2.2 121 (by decide), w1' q hq]
    show I 1000000 = I (cif (∃ k, k < 0 ∧ nn k = q) (g q) 1000000)
    rw [cif_f (fun ⟨k, b1, _⟩ => absurd b1 (by omega))]
  have narrow : GW l mX3_fillTick 24 [(0, .inr 120), (1, .inl (I (t : Int))), (2, .inl (I bs)), (3, .inl 0)] [.inl 0] σ1 0 0 (PI K) := gX3_fillTick_24 ⟨fun _ => start 0 σ1 (Or.inl rfl) (Fk.rf _ _) (Onl.rf _ _), fun z => absurd rfl z⟩
  rw [I_m1, I_eq' (by omega) (by omega) (by omega) (by omega)]
  refine ⟨fun _ => narrow, fun nz => q_cheaper S1.1 ⟨fun _ => narrow, fun z => absurd rfl z⟩ ⟨fun z => absurd z (by decide), fun _ => gX3_fillTick_24 ⟨fun z => absurd z (by decide), fun _ => ⟨S1.1.F.o120, ?_⟩⟩⟩⟩
  rcases hb with ⟨b1, b2⟩ | ⟨b, G, b1, b2, b3, b4, b5, b6⟩
  · exact absurd b1 nz
  · rw [b1]
    refine q_spreadTick S1 hw b2 (fun q hq => ⟨(b4 q hq).1, (b4 q hq).2.1⟩) (f1.W b3 b5) (fun σ2 o2 r2 => ?_)
    rw [← b6] at r2
    rw [← b1]
    exact start 1 σ2 (Or.inr ⟨rfl, r2⟩) ⟨o2.up (by decide), fun k _ _ _ => by rw [o2.2.2 120 (by decide)], fun y _ => by rw [o2.2.2 121 (by decide)]⟩ o2
theorem q_gatherPoses {K : Sg → Prop} (h : FlB σ A a) (hw : ArmWf A) (hK : ∀ (N : Nat) (en : Nat → Nat) σ', Onl [120, 122, 123, 124] σ σ' → (∀ k, k ≠ 14 → σ'.2.1 120 k = σ.2.1 120 k) → FlS σ' A a N en → K σ') : Con l mX3_gatherPoses [.inr 120] σ (PV K) := by
  have F : ∀ p, p ≤ 4096 → ∀ (N : Nat) (en : Nat → Nat) σ1, N ≤ p → Onl [120, 122, 123, 124] σ σ1 → (∀ k, k ≠ 14 → σ1.2.1 120 k = σ.2.1 120 k) → σ1.2.1 120 14 = I (N : Nat) → (∀ i, i < N → (σ1.2.1 122 i = I (en i : Nat) ∧ σ1.2.1 123 i = I (tip A (en i : Nat) 0) ∧ σ1.2.1 124 i = I (tip A (en i : Nat) 1) ∧ isPo A (en i : Nat)) ∧ en i < p) → (∀ i j, i < j → j < N → en i < en j) → (∀ q : Nat, q < p → isPo A q → ∃ i, i < N ∧ en i = q) → GW l mX3_gatherPoses 7 [(0, .inr 120), (1, .inl (I (p : Nat)))] [] σ1 0 0 (PV K) := by
    refine lp ?_ ?_
    · intro N en σ1 hN ho hk h14 hd hi hc
      refine gX3_gatherPoses_7 ⟨fun _ => hK N en σ1 ho hk ⟨h.onl ho (by decide), hN, h14, fun i hi' => (hd i hi').1, hi, fun q hq => hc q ?_ hq⟩, fun q => absurd ((I_le (a := 4096) ⟨by omega, by omega⟩ ⟨by omega, by omega⟩).mpr (by omega)) q⟩
      have := hq.2.1; omega
    · intro p hp ih N en σ1 hN ho hk h14 hd hi hc
      have B1 := h.onl ho (by decide)
      refine gX3_gatherPoses_7 ⟨fun q => ?_, fun _ => ⟨B1.F.o120, B1.oa, ?_⟩⟩
      · rw [show (4096 : Int32) = I 4096 from rfl, I_le ⟨by omega, by omega⟩ ⟨by omega, by omega⟩] at q; omega
      rw [B1.2.1.1]
      refine q_hasPose B1.2.2 hw ⟨by omega, by omega⟩ (fun yes => ⟨fun z => absurd z (by decide), fun _ => ?_⟩) (fun no => ⟨fun _ => ?_, fun z => absurd rfl z⟩)
      · rw [h14, show (4096 : Int32) = I 4096 from rfl, I_le' (by omega) (by omega) (by omega) (by omega)]
        refine ⟨fun q => absurd q (by omega), fun _ => ⟨B1.F.a120_1 (by omega) (by omega), fun σ8 e8 => ?_⟩⟩
        rw [B1.F.p120_1, I_cln (by omega)] at e8
        have o8 : Onl [120, 122, 123, 124] σ σ8 := ho.tr (Onl.w e8 (by decide))
        have B8 := h.onl o8 (by decide)
        have m8 : σ8.2.1 120 14 = I (N : Nat) := by rw [e8, w1_r (by omega)]; exact h14
        refine ⟨B8.oa, ?_⟩
        rw [B8.2.1.1, m8]
        refine q_tipX B8.2.2 hw (by omega) (by omega) ⟨B8.F.a120_2 (by omega) (by omega), fun σ12 e12 => ?_⟩
        rw [B8.F.p120_2, I_cln (by omega)] at e12
        have o12 : Onl [120, 122, 123, 124] σ σ12 := o8.tr (Onl.w e12 (by decide))
        have B12 := h.onl o12 (by decide)
        have m12 : σ12.2.1 120 14 = I (N : Nat) := by rw [e12, w1_r (by omega)]; exact m8
        refine ⟨B12.oa, ?_⟩
        rw [B12.2.1.1, m12]
        refine q_tipY B12.2.2 hw (by omega) (by omega) ⟨B12.F.a120_3 (by omega) (by omega), fun σ16 e16 σ17 e17 => ?_⟩
        rw [B12.F.p120_3, I_cln (by omega)] at e16
        have m16 : σ16.2.1 120 14 = I (N : Nat) := by rw [e16, w1_r (by omega)]; exact m12
        rw [m16, I_1, I_add] at e17
        rw [I_1, I_add]
        refine ih (N + 1) (fun i => if i = N then p else en i) σ17 (by omega) ((o12.tr (Onl.w e16 (by decide))).tr (Onl.w e17 (by decide))) (fun k hk' => by rw [e17, w1_k hk', e16, w1_r (by omega), e12, w1_r (by omega), e8, w1_r (by omega)]; exact hk k hk') (by rw [e17, w1_at]; rfl) (fun i hi' => ?_) (fun i j hij hj => ?_) (fun q hq hpo => ?_)
        · by_cases z : i = N
          · rw [if_pos z, z]
            refine ⟨⟨?_, ?_, ?_, yes⟩, by omega⟩
            · rw [e17, w1_r (by omega), e16, w1_r (by omega), e12, w1_r (by omega), e8, w1_at]
            · rw [e17, w1_r (by omega), e16, w1_r (by omega), e12, w1_at]
            · rw [e17, w1_r (by omega), e16, w1_at]
          · rw [if_neg z]
            have d := hd i (by omega)
            refine ⟨⟨?_, ?_, ?_, d.1.2.2.2⟩, by omega⟩
            · rw [e17, w1_r (by omega), e16, w1_r (by omega), e12, w1_r (by omega), e8, w1_k z]; exact d.1.1
            · rw [e17, w1_r (by omega), e16, w1_r (by omega), e12, w1_k z, e8, w1_r (by omega)]; exact d.1.2.1
            · rw [e17, w1_r (by omega), e16, w1_k z, e12, w1_r (by omega), e8, w1_r (by omega)]; exact d.1.2.2.1
        · show (if i = N then p else en i) < (if j = N then p else en j)
          rw [if_neg (by omega)]
          by_cases z : j = N
          · rw [if_pos z]; exact (hd i (by omega)).2
          · rw [if_neg z]; exact hi i j hij (by omega)
        · by_cases z : q = p
          · exact ⟨N, by omega, by show (if N = N then p else en N) = q; rw [if_pos rfl, z]⟩
          · obtain ⟨i, b1, b2⟩ := hc q (by omega) hpo
            exact ⟨i, by omega, by show (if i = N then p else en i) = q; rw [if_neg (by omega)]; exact b2⟩
      · rw [I_1, I_add]
        refine ih N en σ1 (by omega) ho hk h14 (fun i hi' => ⟨(hd i hi').1, by have := (hd i hi').2; omega⟩) hi (fun q hq hpo => ?_)
        by_cases z : q = p
        · rw [z] at hpo; exact absurd hpo no
        · exact hc q (by omega) hpo
  refine eX3_gatherPoses ⟨h.F.o120, fun σ2 e2 => ?_⟩
  exact F 0 (by omega) 0 (fun _ => 0) σ2 (by omega) (Onl.w e2 (by decide)) (fun k hk => by rw [e2, w1_k hk]) (by rw [e2, w1_at]; rfl) (fun i hi => absurd hi (by omega)) (fun i j _ hj => absurd hj (by omega)) (fun q hq => absurd hq (by omega))
/-- the first of the near poses of tick 0 that has the least way -/
theorem q_seekStart {K : Sg → Prop} {M : Nat} {nn : Nat → Nat} (h : FlB σ A a) (hr : NrS σ A X Y e 0 M nn) (hG : Gok 400 G) (hW : WyS σ A 0 G) (hK : ∀ σ', Onl [120] σ σ' → (∀ k, k ≠ 15 → k ≠ 16 → σ'.2.1 120 k = σ.2.1 120 k) → σ'.2.1 120 15 = I (mnF (nrP A X Y e 0) G 4096) → σ'.2.1 120 16 = I (fsF (nrP A X Y e 0) G 4096 : Nat) → K σ') : Con l mX3_seekStart [.inr 120] σ (PV K) := by
  have M4 := hr.1
  have po : ∀ k, k < M → nrP A X Y e 0 (nn k) := fun k hk => (hr.2.2.2.2 (nn k)).mpr ⟨k, hk, rfl⟩
  have lt : ∀ k, k < M → nn k < 4096 := fun k hk => by have := (po k hk).1.2.1; omega
  have mono : ∀ i j, i < M → j < M → nn i < nn j → i < j := fun i j hi hj hl => by
    by_cases z : i < j
    · exact z
    · by_cases y : i = j
      · rw [y] at hl; omega
      · have := hr.2.2.2.1 j i (by omega) hi; omega
  have F : ∀ i, i ≤ M → ∀ σ1, Onl [120] σ σ1 → (∀ k, k ≠ 15 → k ≠ 16 → σ1.2.1 120 k = σ.2.1 120 k) → σ1.2.1 120 15 = I (mnF (nrP A X Y e 0) G (if i < M then nn i else 4096)) → σ1.2.1 120 16 = I (fsF (nrP A X Y e 0) G (if i < M then nn i else 4096) : Nat) → GW l mX3_seekStart 13 [(0, .inr 120), (1, .inl (I (i : Nat)))] [] σ1 0 0 (PV K) := by
    refine lp ?_ ?_
    · intro σ1 ho hk h15 h16
      rw [if_neg (by omega)] at h15 h16
      refine gX3_seekStart_13 ⟨(h.onl ho (by decide)).F.o120, fun _ => hK σ1 ho hk h15 h16, fun q => absurd ?_ q⟩
      rw [hk 13 (by omega) (by omega), hr.2.1]; exact (I_le ⟨by omega, by omega⟩ ⟨by omega, by omega⟩).mpr (by omega)
    · intro i hi ih σ1 ho hk h15 h16
      rw [if_pos hi] at h15 h16
      have B1 := h.onl ho (by decide)
      have g := hG (nn i) (lt i hi)
      have mb : 0 ≤ mnF (nrP A X Y e 0) G (nn i) ∧ mnF (nrP A X Y e 0) G (nn i) ≤ 1000000 := ⟨mnF_nn (fun q hq _ => (hG q (by have := lt i hi; omega)).1), mnF_1M _⟩
      have l1 : σ1.2.1 125 i = I (nn i : Nat) := by rw [ho.2.2 125 (by decide)]; exact hr.2.2.1 i hi
      -- on to the next near pose
      have nxt' : mnF (nrP A X Y e 0) G (if i + 1 < M then nn (i + 1) else 4096) = mnF (nrP A X Y e 0) G (nn i + 1) ∧ fsF (nrP A X Y e 0) G (if i + 1 < M then nn (i + 1) else 4096) = fsF (nrP A X Y e 0) G (nn i + 1) := by
        refine mnF_to ?_ (fun q a1 a2 a3 => ?_)
        · by_cases z : i + 1 < M
          · rw [if_pos z]; have := hr.2.2.2.1 i (i + 1) (by omega) z; omega
          · rw [if_neg z]; have := lt i hi; omega
        · exfalso
          obtain ⟨k, b1, b2⟩ := (hr.2.2.2.2 q).mp a3
          have k1 := mono i k hi b1 (by omega)
          by_cases z : i + 1 < M
          · rw [if_pos z] at a2
            have := mono k (i + 1) b1 z (by omega)
            omega
          · omega
      have ms : mnF (nrP A X Y e 0) G (nn i + 1) = min (mnF (nrP A X Y e 0) G (nn i)) (G (nn i)) := mnF_yes (po i hi)
      refine gX3_seekStart_13 ⟨B1.F.o120, fun q => ?_, fun _ => ⟨fun q => ?_, fun _ => ⟨B1.F.a120_4 (by omega) (by omega), ?_⟩⟩⟩
      · rw [hk 13 (by omega) (by omega), hr.2.1, I_le ⟨by omega, by omega⟩ ⟨by omega, by omega⟩] at q; omega
      · rw [show (4096 : Int32) = I 4096 from rfl, I_le ⟨by omega, by omega⟩ ⟨by omega, by omega⟩] at q; omega
      rw [B1.F.d120_4 (by omega) (by omega), I_tn, l1]
      refine q_wayAt (t := 0) B1 (by omega) (lt i hi) ?_
      rw [(hW.onl ho (by decide)) _ (po i hi).1, h15, I_le' (by omega) (by omega) (by omega) (by omega), I_1, I_add]
      refine ⟨fun q => ih σ1 ho hk ?_ ?_, fun q σ7 e7 => ⟨?_, fun σ9 e9 => ?_⟩⟩
      · rw [nxt'.1, ms, h15]; congr 1; omega
      · rw [nxt'.2, h16]
        have : fsF (nrP A X Y e 0) G (nn i + 1) = fsF (nrP A X Y e 0) G (nn i) := by
          show nif _ _ _ = _
          exact nif_f (fun z => by have := z.2; omega)
        rw [this]
      · have o7 : Onl [120] σ σ7 := ho.tr (Onl.w e7 (by simp))
        exact (h.onl o7 (by decide)).F.a120_4 (by omega) (by omega)
      · have o7 : Onl [120] σ σ7 := ho.tr (Onl.w e7 (by simp))
        have B7 := h.onl o7 (by decide)
        rw [B7.F.d120_4 (by omega) (by omega), I_tn, o7.2.2 125 (by decide), hr.2.2.1 i hi] at e9
        refine ih σ9 (o7.tr (Onl.w e9 (by simp))) (fun k a1 a2 => by rw [e9, w1_k a2, e7, w1_k a1]; exact hk k a1 a2) ?_ ?_
        · rw [nxt'.1, ms, e9, w1_k (by omega), e7, w1_at]; congr 1; omega
        · rw [nxt'.2, e9, w1_at]
          have : fsF (nrP A X Y e 0) G (nn i + 1) = nn i := by
            show nif _ _ _ = _
            exact nif_t ⟨po i hi, by omega⟩
          rw [this]
  refine eX3_seekStart ⟨h.F.o120, fun σ2 e2 σ3 e3 => ?_⟩
  have o3 : Onl [120] σ σ3 := (Onl.w e2 (by simp)).tr (Onl.w e3 (by simp))
  have n0 : mnF (nrP A X Y e 0) G (if 0 < M then nn 0 else 4096) = 1000000 ∧ fsF (nrP A X Y e 0) G (if 0 < M then nn 0 else 4096) = 0 := by
    refine mnF_none (fun q hq z => ?_)
    obtain ⟨k, b1, b2⟩ := (hr.2.2.2.2 q).mp z
    rw [if_pos (by omega)] at hq
    have := mono k 0 b1 (by omega) (by omega)
    omega
  refine F 0 (by omega) σ3 o3 (fun k a1 a2 => by rw [e3, w1_k a2, e2, w1_k a1]) ?_ ?_
  · rw [n0.1, e3, w1_k (by omega), e2, w1_at]; rfl
  · rw [n0.2, e3, w1_at]; rfl
end FLT
