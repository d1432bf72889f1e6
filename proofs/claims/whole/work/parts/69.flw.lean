/-! the class's Follower, 1: looking round -/
theorem and4095 {p : Nat} (h : p < 4096) : I (p : Int) &&& 4095 = I (p : Int) := by
  rw [← I_nat, pk_andN (by omega) 12 (by decide), Nat.mod_eq_of_lt (by omega)]
def FlB (σ : Sg) (A : Nat → Nat → Int) (a : Nat) : Prop := (Cp σ ∧ Fp σ) ∧ (σ.2.2 120 10 = 5 + 5 * a ∧ a < 2) ∧ ArmAt σ (5 + 5 * a) A
def FlS (σ : Sg) (A : Nat → Nat → Int) (a N : Nat) (en : Nat → Nat) : Prop := FlB σ A a ∧ N ≤ 4096 ∧ σ.2.1 120 14 = I (N : Nat) ∧ (∀ i, i < N → σ.2.1 122 i = I (en i : Nat) ∧ σ.2.1 123 i = I (tip A (en i : Nat) 0) ∧ σ.2.1 124 i = I (tip A (en i : Nat) 1) ∧ isPo A (en i : Nat)) ∧ (∀ i j, i < j → j < N → en i < en j) ∧ ∀ p : Nat, isPo A p → ∃ i, i < N ∧ en i = p
section FLW
variable {l : Launch} {σ σ' : Sg} {A : Nat → Nat → Int} {a N : Nat} {en : Nat → Nat} {G : Nat → Int} {t p : Nat}
theorem FlB.onl {S : List Nat} (h : FlB σ A a) (ho : Onl S σ σ') (hs : ∀ r ∈ S, 120 ≤ r) : FlB σ' A a := by
  refine ⟨⟨ho.C h.1.1, ⟨by rw [ho.1]; exact h.1.2.1, by rw [ho.2.1]; exact h.1.2.2⟩⟩, by rw [ho.2.1]; exact h.2.1, h.2.2.eq (Nat.le_of_eq ho.1.symm) (fun k hk => ⟨ho.2.2 _ (fun q => ?_), by rw [ho.2.1]⟩)⟩
  have := hs _ q; have := h.2.1.2; omega
theorem FlS.onl {S : List Nat} (h : FlS σ A a N en) (ho : Onl S σ σ') (hs : ∀ r ∈ S, 120 ≤ r) (h1 : 122 ∉ S) (h2 : 123 ∉ S) (h3 : 124 ∉ S) (h4 : σ'.2.1 120 14 = σ.2.1 120 14) : FlS σ' A a N en := by
  refine ⟨h.1.onl ho hs, h.2.1, by rw [h4]; exact h.2.2.1, fun i hi => ?_, h.2.2.2.2⟩
  rw [ho.2.2 122 h1, ho.2.2 123 h2, ho.2.2 124 h3]; exact h.2.2.2.1 i hi
theorem FlB.F (h : FlB σ A a) : Fp σ := h.1.2
theorem FlB.oa (h : FlB σ A a) : Ob σ (σ.2.2 120 10) 0 := by rw [h.2.1.1]; exact h.2.2.ob
theorem q_from {K : Int32 → Sg → Prop} {j : Nat} (h : FlB σ A a) (hw : ArmWf A) (hp : p < 4096) (hj : j < 3) (hK : K (I (max (A 2 j) (plc p j - A 4 j))) σ) : Con l mX3_from [.inr 120, .inl (I (p : Int)), .inl (I (j : Nat))] σ (PI K) := by
  have w := hw.2.1 j hj
  have r := plc_rg p j
  refine eX3_from ⟨h.F.o120, h.oa, ?_⟩
  rw [h.2.1.1]
  refine q_low h.2.2 hj (q_placeOf (by omega) (by omega) hj ⟨h.oa, ?_⟩)
  rw [h.2.1.1]
  refine q_speed h.2.2 hj ?_
  rw [I_sub]
  exact q_max ⟨by omega, by omega⟩ ⟨by omega, by omega⟩ hK
theorem q_upTo {K : Int32 → Sg → Prop} {j : Nat} (h : FlB σ A a) (hw : ArmWf A) (hp : p < 4096) (hj : j < 3) (hK : K (I (min (A 3 j) (plc p j + A 4 j))) σ) : Con l mX3_upTo [.inr 120, .inl (I (p : Int)), .inl (I (j : Nat))] σ (PI K) := by
  have w := hw.2.1 j hj
  have r := plc_rg p j
  refine eX3_upTo ⟨h.F.o120, h.oa, ?_⟩
  rw [h.2.1.1]
  refine q_high h.2.2 hj (q_placeOf (by omega) (by omega) hj ⟨h.oa, ?_⟩)
  rw [h.2.1.1]
  refine q_speed h.2.2 hj ?_
  rw [I_add]
  exact q_min ⟨by omega, by omega⟩ ⟨by omega, by omega⟩ hK
theorem ix4096 {t p : Nat} : (I (t : Int) * 4096) + I (p : Int) = I ((4096 * t + p : Nat) : Int) := by
  rw [show (4096 : Int32) = I 4096 from rfl, I_mul, I_add]; congr 1; omega
theorem q_wayAt {K : Int32 → Sg → Prop} (h : FlB σ A a) (ht : t < 40) (hp : p < 4096) (hK : K (σ.2.1 121 (4096 * t + p)) σ) : Con l mX3_wayAt [.inr 120, .inl (I (t : Int)), .inl (I (p : Int))] σ (PI K) := by
  refine eX3_wayAt ?_
  rw [and4095 hp, ix4096, I_0, I_lt' (by omega) (by omega) (by omega) (by omega), show (40 : Int32) = I 40 from rfl, I_le' (by omega) (by omega) (by omega) (by omega)]
  refine ⟨fun q => absurd q (by omega), fun _ => ⟨fun q => absurd q (by omega), fun _ => ⟨h.F.o120, h.F.a120_0 (by omega) (by omega), ?_⟩⟩⟩
  rw [h.F.d120_0 (by omega) (by omega), I_tn]; exact hK
theorem q_setWay {K : Sg → Prop} {z : Int} (h : FlB σ A a) (ht : t < 40) (hp : p < 4096) (hz : 0 ≤ z ∧ z ≤ 1000000) (hK : ∀ σ', σ' = w1 σ 121 (4096 * t + p) (I z) → K σ') : Con l mX3_setWay [.inr 120, .inl (I (t : Int)), .inl (I (p : Int)), .inl (I z)] σ (PV K) := by
  refine eX3_setWay ?_
  rw [I_0, I_lt' (by omega) (by omega) (by omega) (by omega), show (40 : Int32) = I 40 from rfl, I_le' (by omega) (by omega) (by omega) (by omega)]
  refine ⟨fun q => absurd q (by omega), fun _ => ⟨fun q => absurd q (by omega), fun _ => ⟨h.F.o120, q_min (b := 1000000) ⟨by omega, by omega⟩ ⟨by omega, by omega⟩ ?_⟩⟩⟩
  rw [and4095 hp, ix4096]
  refine ⟨h.F.a120_0 (by omega) (by omega), fun σ6 e6 => hK σ6 ?_⟩
  rw [h.F.p120_0, I_cln (by omega), show min z 1000000 = z by omega] at e6
  exact e6
/-- ways of a tick -/
def WyS (σ : Sg) (A : Nat → Nat → Int) (t : Nat) (G : Nat → Int) : Prop := ∀ q : Nat, isPo A q → σ.2.1 121 (4096 * t + q) = I (G q)
theorem WyS.onl {S : List Nat} (h : WyS σ A t G) (ho : Onl S σ σ') (hs : 121 ∉ S) : WyS σ' A t G := fun q hq => by rw [ho.2.2 121 hs]; exact h q hq
theorem adj_abc {x b c : Nat} (hx : x < 16) (hb : b < 16) (hc : c < 16) : adj A p (256 * c + 16 * b + x) ↔ ((A 2 0 ≤ x ∧ (x : Int) ≤ A 3 0 ∧ plc p 0 - A 4 0 ≤ x ∧ (x : Int) ≤ plc p 0 + A 4 0) ∧ (A 2 1 ≤ b ∧ (b : Int) ≤ A 3 1 ∧ plc p 1 - A 4 1 ≤ b ∧ (b : Int) ≤ plc p 1 + A 4 1) ∧ (A 2 2 ≤ c ∧ (c : Int) ≤ A 3 2 ∧ plc p 2 - A 4 2 ≤ c ∧ (c : Int) ≤ plc p 2 + A 4 2)) := by
  obtain ⟨e0, e1, e2⟩ := plc_abc hx hb hc
  constructor
  · intro h
    have b0 := h.2 0 (by omega); have b1 := h.2 1 (by omega); have b2 := h.2 2 (by omega)
    have c0 := h.1.2.2 0 (by omega); have c1 := h.1.2.2 1 (by omega); have c2 := h.1.2.2 2 (by omega)
    rw [e0] at b0 c0
    rw [e1] at b1 c1
    rw [e2] at b2 c2
    omega
  · intro h
    refine ⟨⟨by omega, by omega, fun j hj => ?_⟩, fun j hj => ?_⟩
    · match j, hj with
      | 0, _ => rw [e0]; omega
      | 1, _ => rw [e1]; omega
      | 2, _ => rw [e2]; omega
    · match j, hj with
      | 0, _ => rw [e0]; omega
      | 1, _ => rw [e1]; omega
      | 2, _ => rw [e2]; omega
theorem wyb_abc {x b c : Nat} (hx : x < 16) (hb : b < 16) (hc : c < 16) : wyb p (256 * c + 16 * b + x) = ab ((x : Int) - plc p 0) + ab ((b : Int) - plc p 1) + ab ((c : Int) - plc p 2) := by
  obtain ⟨e0, e1, e2⟩ := plc_abc hx hb hc
  unfold wyb
  rw [e0, e1, e2]
/-- what has been seen among the poses below k -/
def Seen (σ : Sg) (A : Nat → Nat → Int) (G : Nat → Int) (p k : Nat) : Prop := σ.2.1 120 15 = I (mnF (fun q => adj A p q) (fun q => wyb p q + G q) k) ∧ σ.2.1 120 16 = I (fsF (fun q => adj A p q) (fun q => wyb p q + G q) k : Nat)
theorem Seen.to {k k' : Nat} (h : Seen σ A G p k) (hk : k ≤ k') (hq : ∀ q, k ≤ q → q < k' → adj A p q → mnF (fun q => adj A p q) (fun q => wyb p q + G q) k ≤ wyb p q + G q) : Seen σ A G p k' := by
  obtain ⟨a, b⟩ := mnF_to (P := fun q => adj A p q) (g := fun q => wyb p q + G q) hk hq
  unfold Seen
  rw [a, b]; exact h
theorem seen_rg (hG : Gok 400 G) (k : Nat) (hk : k ≤ 4096) : 0 ≤ mnF (fun q => adj A p q) (fun q => wyb p q + G q) k ∧ mnF (fun q => adj A p q) (fun q => wyb p q + G q) k ≤ 1000000 := by
  refine ⟨mnF_nn (fun q hq _ => ?_), mnF_1M _⟩
  have := hG q (by omega); have := wyb_nn p q; omega
theorem q_seekInRow {K : Sg → Prop} {b c : Nat} (h : FlB σ A a) (hw : ArmWf A) (ht : t < 40) (hp : isPo A p) (hG : Gok 400 G) (hW : WyS σ A t G) (hb : b < 16) (hc : c < 16) (ib : A 2 1 ≤ b ∧ (b : Int) ≤ A 3 1 ∧ plc p 1 - A 4 1 ≤ b ∧ (b : Int) ≤ plc p 1 + A 4 1) (ic : A 2 2 ≤ c ∧ (c : Int) ≤ A 3 2 ∧ plc p 2 - A 4 2 ≤ c ∧ (c : Int) ≤ plc p 2 + A 4 2) (hS : Seen σ A G p (256 * c + 16 * b))
    (hK : ∀ σ', Onl [120] σ σ' → (∀ k, k ≠ 15 → k ≠ 16 → σ'.2.1 120 k = σ.2.1 120 k) → Seen σ' A G p (256 * c + 16 * b + 16) → K σ') : Con l mX3_seekInRow [.inr 120, .inl (I (t : Int)), .inl (I (p : Int)), .inl (I (16 * (b : Int) + 256 * c)), .inl (I (ab ((c : Int) - plc p 2) + ab ((b : Int) - plc p 1))), .inl (I (max (A 2 0) (plc p 0 - A 4 0))), .inl (I (min (A 3 0) (plc p 0 + A 4 0)))] σ (PV K) := by
  have p0 := hp.1; have p4 := hp.2.1
  have w := hw.2.1 0 (by omega)
  have r := plc_rg p 0
  have pr := hp.2.2 0 (by omega)
  have nb := ab_nn ((b : Int) - plc p 1); have nc := ab_nn ((c : Int) - plc p 2)
  have rb := plc_rg p 1; have rc := plc_rg p 2
  obtain ⟨lo, hlo⟩ : ∃ lo : Nat, max (A 2 0) (plc p 0 - A 4 0) = lo := ⟨(max (A 2 0) (plc p 0 - A 4 0)).toNat, by omega⟩
  obtain ⟨hi, hhi⟩ : ∃ hi : Nat, min (A 3 0) (plc p 0 + A 4 0) = hi := ⟨(min (A 3 0) (plc p 0 + A 4 0)).toNat, by omega⟩
  rw [hlo, hhi]
  have off : ∀ x : Nat, x < 16 → (x < lo ∨ hi < x) → ¬ adj A p (256 * c + 16 * b + x) := fun x hx ho q => by
    have := (adj_abc hx hb hc).mp q; omega
  refine eX3_seekInRow ?_
  rw [I_0, I_lt' (by omega) (by omega) (by omega) (by omega), show (40 : Int32) = I 40 from rfl, I_lt' (by omega) (by omega) (by omega) (by omega)]
  refine ⟨fun q => absurd q (by omega), fun _ => ⟨fun _ => ?_, fun q => absurd (by omega) q⟩⟩
  refine q_placeOf (j := 0) p0 (by omega) (by omega) ?_
  have F : ∀ x, x ≤ hi + 1 → lo ≤ x → ∀ σ1, Onl [120] σ σ1 → (∀ k, k ≠ 15 → k ≠ 16 → σ1.2.1 120 k = σ.2.1 120 k) → Seen σ1 A G p (256 * c + 16 * b + x) → GW l mX3_seekInRow 22 [(0, .inr 120), (1, .inl (I (t : Int))), (2, .inl (I (p : Int))), (3, .inl (I (16 * (b : Int) + 256 * c))), (4, .inl (I (ab ((c : Int) - plc p 2) + ab ((b : Int) - plc p 1)))), (5, .inl (I (lo : Int))), (6, .inl (I (hi : Int))), (7, .inl (I (plc p 0))), (8, .inl (I (x : Nat)))] [] σ1 0 0 (PV K) := by
    refine lp ?_ ?_
    · intro _ σ1 ho hk hS1
      refine gX3_seekInRow_22 ⟨fun _ => hK σ1 ho hk (hS1.to (by omega) (fun q a1 a2 a3 => ?_)), fun q => absurd ((I_lt ⟨by omega, by omega⟩ ⟨by omega, by omega⟩).mpr (by omega)) q⟩
      refine absurd a3 ?_
      rw [show q = 256 * c + 16 * b + (q - (256 * c + 16 * b)) by omega]
      exact off _ (by omega) (by omega)
    · intro x hx ih hl σ1 ho hk hS1
      have B1 := h.onl ho (by decide)
      have aq : adj A p (256 * c + 16 * b + x) := (adj_abc (by omega) hb hc).mpr ⟨by omega, ib, ic⟩
      have gq := hG _ (adj_lt aq)
      have wq := wyb_abc (p := p) (x := x) (b := b) (c := c) (by omega) hb hc
      have nx := ab_nn ((x : Int) - plc p 0)
      have sr := seen_rg (A := A) (p := p) hG (256 * c + 16 * b + x) (by omega)
      have e1 : I (16 * (b : Int) + 256 * c) + I (x : Int) = I ((256 * c + 16 * b + x : Nat) : Int) := by rw [I_add]; congr 1; omega
      have W1 := (hW.onl ho (by decide)) _ aq.1
      refine gX3_seekInRow_22 ⟨fun q => ?_, fun _ => ⟨B1.F.o120, ?_⟩⟩
      · rw [I_lt ⟨by omega, by omega⟩ ⟨by omega, by omega⟩] at q; omega
      rw [e1, and4095 (by omega), ix4096]
      refine ⟨B1.F.a120_0 (by omega) (by omega), ?_⟩
      rw [B1.F.d120_0 (by omega) (by omega), I_tn, W1, I_add]
      have J : ∀ y : Int, y = ab ((x : Int) - plc p 0) → GW l mX3_seekInRow 75 [(0, .inr 120), (1, .inl (I (t : Int))), (2, .inl (I (p : Int))), (3, .inl (I (16 * (b : Int) + 256 * c))), (4, .inl (I (ab ((c : Int) - plc p 2) + ab ((b : Int) - plc p 1)))), (5, .inl (I (lo : Int))), (6, .inl (I (hi : Int))), (7, .inl (I (plc p 0))), (8, .inl (I (x : Nat))), (9, .inl (I ((256 * c + 16 * b + x : Nat) : Int)))] [.inl (I y), .inl (I (G (256 * c + 16 * b + x) + (ab ((c : Int) - plc p 2) + ab ((b : Int) - plc p 1))))] σ1 0 0 (PV K) := by
        intro y ey
        have ev : G (256 * c + 16 * b + x) + (ab ((c : Int) - plc p 2) + ab ((b : Int) - plc p 1)) + y = wyb p (256 * c + 16 * b + x) + G (256 * c + 16 * b + x) := by rw [wq, ey]; omega
        refine gX3_seekInRow_75 ⟨B1.F.o120, ?_⟩
        rw [I_add, ev, hS1.1, I_le' (by omega) (by omega) (by omega) (by omega), I_1, I_add]
        have ms := mnF_yes (P := fun q => adj A p q) (g := fun q => wyb p q + G q) aq
        refine ⟨fun q => ih (by omega) σ1 ho hk (hS1.to (by omega) (fun q' a1 a2 a3 => ?_)), fun q σ3 e3 σ4 e4 => ?_⟩
        · rw [show q' = 256 * c + 16 * b + x by omega]; exact q
        · refine ih (by omega) σ4 ((ho.tr (Onl.w e3 (by simp))).tr (Onl.w e4 (by simp))) (fun k a1 a2 => by rw [e4, w1_k a2, e3, w1_k a1]; exact hk k a1 a2) ⟨?_, ?_⟩
          · rw [e4, w1_k (by omega), e3, w1_at]
            show _ = I (mnF (fun q => adj A p q) (fun q => wyb p q + G q) (256 * c + 16 * b + x + 1))
            rw [ms]; congr 1
            show _ = min _ (wyb p (256 * c + 16 * b + x) + G (256 * c + 16 * b + x))
            omega
          · rw [e4, w1_at]
            have : fsF (fun q => adj A p q) (fun q => wyb p q + G q) (256 * c + 16 * b + x + 1) = 256 * c + 16 * b + x := by
              show nif _ _ _ = _
              exact nif_t ⟨aq, by show wyb p (256 * c + 16 * b + x) + G (256 * c + 16 * b + x) < _; omega⟩
            show _ = I (fsF (fun q => adj A p q) (fun q => wyb p q + G q) (256 * c + 16 * b + x + 1) : Nat)
            rw [this]
      rw [I_le' (by omega) (by omega) (by omega) (by omega), I_sub, I_sub]
      refine ⟨fun q => J _ ?_, fun q => J _ ?_⟩
      · unfold ab; rw [if_pos (by omega)]
      · unfold ab; rw [if_neg (by omega)]; omega
  refine F lo (by omega) (Nat.le_refl _) σ (Onl.rf _ _) (fun _ _ _ => rfl) (hS.to (by omega) (fun q a1 a2 a3 => ?_))
  refine absurd a3 ?_
  rw [show q = 256 * c + 16 * b + (q - (256 * c + 16 * b)) by omega]
  exact off _ (by omega) (by omega)
theorem q_seekNear {K : Sg → Prop} (h : FlB σ A a) (hw : ArmWf A) (ht : t < 40) (hp : isPo A p) (hG : Gok 400 G) (hW : WyS σ A t G)
    (hK : ∀ σ', Onl [120] σ σ' → (∀ k, k ≠ 15 → k ≠ 16 → σ'.2.1 120 k = σ.2.1 120 k) → Seen σ' A G p 4096 → K σ') : Con l mX3_seekNear [.inr 120, .inl (I (t : Int)), .inl (I (p : Int))] σ (PV K) := by
  have p0 := hp.1; have p4 := hp.2.1
  have w1' := hw.2.1 1 (by omega); have w2' := hw.2.1 2 (by omega)
  have r1 := plc_rg p 1; have r2 := plc_rg p 2
  have q1 := hp.2.2 1 (by omega); have q2 := hp.2.2 2 (by omega)
  obtain ⟨lb, hlb⟩ : ∃ x : Nat, max (A 2 1) (plc p 1 - A 4 1) = x := ⟨(max (A 2 1) (plc p 1 - A 4 1)).toNat, by omega⟩
  obtain ⟨hb, hhb⟩ : ∃ x : Nat, min (A 3 1) (plc p 1 + A 4 1) = x := ⟨(min (A 3 1) (plc p 1 + A 4 1)).toNat, by omega⟩
  obtain ⟨lc, hlc⟩ : ∃ x : Nat, max (A 2 2) (plc p 2 - A 4 2) = x := ⟨(max (A 2 2) (plc p 2 - A 4 2)).toNat, by omega⟩
  obtain ⟨hc, hhc⟩ : ∃ x : Nat, min (A 3 2) (plc p 2 + A 4 2) = x := ⟨(min (A 3 2) (plc p 2 + A 4 2)).toNat, by omega⟩
  have off : ∀ q : Nat, q < 4096 → (q / 16 % 16 < lb ∨ hb < q / 16 % 16 ∨ q / 256 < lc ∨ hc < q / 256) → ¬ adj A p q := fun q hq ho z => by
    rw [show q = 256 * (q / 256) + 16 * (q / 16 % 16) + q % 16 by omega] at z
    have := (adj_abc (by omega) (by omega) (by omega)).mp z; omega
  have B : ∀ c, lc ≤ c → c ≤ hc → (∀ σ1, Onl [120] σ σ1 → (∀ k, k ≠ 15 → k ≠ 16 → σ1.2.1 120 k = σ.2.1 120 k) → Seen σ1 A G p (256 * (c + 1)) → GW l mX3_seekNear 58 [(0, .inr 120), (1, .inl (I (t : Int))), (2, .inl (I (p : Int))), (3, .inl (I (max (A 2 0) (plc p 0 - A 4 0)))), (4, .inl (I (min (A 3 0) (plc p 0 + A 4 0)))), (5, .inl (I (lb : Int))), (6, .inl (I (hb : Int))), (7, .inl (I (hc : Int))), (8, .inl (I ((c + 1 : Nat) : Int)))] [] σ1 0 0 (PV K)) → ∀ b, b ≤ hb + 1 → lb ≤ b → ∀ σ1, Onl [120] σ σ1 → (∀ k, k ≠ 15 → k ≠ 16 → σ1.2.1 120 k = σ.2.1 120 k) → Seen σ1 A G p (256 * c + 16 * b) → GW l mX3_seekNear 82 [(0, .inr 120), (1, .inl (I (t : Int))), (2, .inl (I (p : Int))), (3, .inl (I (max (A 2 0) (plc p 0 - A 4 0)))), (4, .inl (I (min (A 3 0) (plc p 0 + A 4 0)))), (5, .inl (I (lb : Int))), (6, .inl (I (hb : Int))), (7, .inl (I (hc : Int))), (8, .inl (I (c : Int))), (9, .inl (I (ab ((c : Int) - plc p 2)))), (10, .inl (I (b : Int)))] [] σ1 0 0 (PV K) := by
    intro c c1 c2 next
    refine lp ?_ ?_
    · intro _ σ1 ho hk hS1
      refine gX3_seekNear_82 ⟨fun _ => ?_, fun q => absurd ((I_lt ⟨by omega, by omega⟩ ⟨by omega, by omega⟩).mpr (by omega)) q⟩
      rw [I_1, I_add]
      exact next σ1 ho hk (hS1.to (by omega) (fun q a1 a2 a3 => absurd a3 (off q (by omega) (by omega))))
    · intro b hbb ih hl σ1 ho hk hS1
      have B1 := h.onl ho (by decide)
      have nb := ab_nn ((b : Int) - plc p 1); have nc := ab_nn ((c : Int) - plc p 2)
      have sr := seen_rg (A := A) (p := p) hG (256 * c + 16 * b) (by omega)
      refine gX3_seekNear_82 ⟨fun q => ?_, fun _ => q_placeOf (j := 1) p0 (by omega) (by omega) ?_⟩
      · rw [I_lt ⟨by omega, by omega⟩ ⟨by omega, by omega⟩] at q; omega
      rw [I_sub]
      refine q_abs (by omega) (by omega) ⟨B1.F.o120, ?_⟩
      have eb : (if 0 ≤ (b : Int) - plc p 1 then (b : Int) - plc p 1 else -((b : Int) - plc p 1)) = ab ((b : Int) - plc p 1) := rfl
      rw [eb, I_add, hS1.1, I_le' (by omega) (by omega) (by omega) (by omega), I_1, I_add]
      refine ⟨fun q => ih (by omega) σ1 ho hk (hS1.to (by omega) (fun q' a1 a2 a3 => ?_)), fun q => ?_⟩
      · have g := hG q' (by omega)
        rw [show q' = 256 * c + 16 * b + (q' - (256 * c + 16 * b)) by omega] at g ⊢
        rw [wyb_abc (by omega) (by omega) (by omega)]
        have nx := ab_nn (((q' - (256 * c + 16 * b) : Nat) : Int) - plc p 0)
        omega
      · rw [show (16 : Int32) = I 16 from rfl, show (256 : Int32) = I 256 from rfl, I_mul, I_mul, I_add]
        refine q_seekInRow B1 hw ht hp hG (hW.onl ho (by decide)) (by omega) (by omega) (by omega) (by omega) hS1 (fun σ2 ho2 hk2 hS2 => ?_)
        exact ih (by omega) σ2 (ho.tr ho2) (fun k a1 a2 => by rw [hk2 k a1 a2]; exact hk k a1 a2) hS2
  have C : ∀ c, c ≤ hc + 1 → lc ≤ c → ∀ σ1, Onl [120] σ σ1 → (∀ k, k ≠ 15 → k ≠ 16 → σ1.2.1 120 k = σ.2.1 120 k) → Seen σ1 A G p (256 * c) → GW l mX3_seekNear 58 [(0, .inr 120), (1, .inl (I (t : Int))), (2, .inl (I (p : Int))), (3, .inl (I (max (A 2 0) (plc p 0 - A 4 0)))), (4, .inl (I (min (A 3 0) (plc p 0 + A 4 0)))), (5, .inl (I (lb : Int))), (6, .inl (I (hb : Int))), (7, .inl (I (hc : Int))), (8, .inl (I (c : Int)))] [] σ1 0 0 (PV K) := by
    refine lp ?_ ?_
    · intro _ σ1 ho hk hS1
      exact gX3_seekNear_58 ⟨fun _ => hK σ1 ho hk (hS1.to (by omega) (fun q a1 a2 a3 => absurd a3 (off q a2 (by omega)))), fun q => absurd ((I_lt ⟨by omega, by omega⟩ ⟨by omega, by omega⟩).mpr (by omega)) q⟩
    · intro c hcc ih hl σ1 ho hk hS1
      refine gX3_seekNear_58 ⟨fun q => ?_, fun _ => q_placeOf (j := 2) p0 (by omega) (by omega) ?_⟩
      · rw [I_lt ⟨by omega, by omega⟩ ⟨by omega, by omega⟩] at q; omega
      rw [I_sub]
      refine q_abs (by omega) (by omega) ?_
      exact B c hl (by omega) (fun σ2 a1 a2 a3 => ih (by omega) σ2 a1 a2 a3) lb (by omega) (Nat.le_refl _) σ1 ho hk (hS1.to (by omega) (fun q a1 a2 a3 => absurd a3 (off q (by omega) (by omega))))
  refine eX3_seekNear ⟨h.F.o120, fun σ2 e2 σ3 e3 => ?_⟩
  have o3 : Onl [120] σ σ3 := (Onl.w e2 (by simp)).tr (Onl.w e3 (by simp))
  have B3 := h.onl o3 (by decide)
  refine q_from (j := 0) B3 hw (by omega) (by omega) (q_upTo (j := 0) B3 hw (by omega) (by omega) (q_from (j := 1) B3 hw (by omega) (by omega) (q_upTo (j := 1) B3 hw (by omega) (by omega) (q_upTo (j := 2) B3 hw (by omega) (by omega) (q_from (j := 2) B3 hw (by omega) (by omega) ?_)))))
  rw [hlb, hhb, hlc, hhc]
  refine C lc (by omega) (Nat.le_refl _) σ3 o3 (fun k a1 a2 => by rw [e3, w1_k a2, e2, w1_k a1]) ?_
  obtain ⟨m1, m2⟩ := mnF_none (P := fun q => adj A p q) (g := fun q => wyb p q + G q) (k := 256 * lc) (fun q hq => off q (by omega) (by omega))
  unfold Seen
  rw [m1, m2]
  exact ⟨by rw [e3, w1_k (by omega), e2, w1_at]; rfl, by rw [e3, w1_at]; rfl⟩
end FLW
