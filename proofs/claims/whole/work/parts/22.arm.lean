/-! Arm: A 0 0, A 0 1 the base, A 0 2 how many joints; A 1 lengths, A 2 lows, A 3 highs, A 4 speeds; A 5 the wear: joint, kind, size, since -/
def ArmAt (σ : Sg) (r : Nat) (A : Nat → Nat → Int) : Prop :=
  (r ≠ 0 ∧ (shp r).1 = 0 ∧ r + 4 ≤ σ.1) ∧ (∀ k, k < 4 → σ.2.2 r k = r + 1 + k ∧ shp (r + 1 + k) = (13, 3)) ∧
  (∀ k j, k < 4 → j < 3 → σ.2.1 (r + 1 + k) j = I (A (k + 1) j)) ∧ (∀ k, k < 3 → σ.2.1 r (4 + k) = I (A 0 k)) ∧ (∀ k, k < 4 → σ.2.1 r (7 + k) = I (A 5 k))
def ArmWf (A : Nat → Nat → Int) : Prop :=
  (0 ≤ A 0 0 ∧ A 0 0 ≤ 20 ∧ 0 ≤ A 0 1 ∧ A 0 1 ≤ 20 ∧ 0 ≤ A 0 2 ∧ A 0 2 ≤ 3) ∧
  (∀ j, j < 3 → 0 ≤ A 1 j ∧ A 1 j ≤ 6 ∧ 0 ≤ A 2 j ∧ A 2 j ≤ A 3 j ∧ A 3 j ≤ 15 ∧ 0 ≤ A 4 j ∧ A 4 j ≤ 3) ∧
  (∀ j : Nat, j < 3 → (j : Int) < A 0 2 → 1 ≤ A 4 j ∧ 1 ≤ A 1 j) ∧ (∀ j : Nat, j < 3 → A 0 2 ≤ (j : Int) → A 2 j = 0 ∧ A 3 j = 0 ∧ A 4 j = 0 ∧ A 1 j = 0) ∧
  (0 ≤ A 5 0 ∧ A 5 0 ≤ 2 ∧ 0 ≤ A 5 1 ∧ A 5 1 ≤ 1 ∧ 0 ≤ A 5 2 ∧ A 5 2 ≤ 3 ∧ 0 ≤ A 5 3 ∧ A 5 3 ≤ 39)
theorem ArmAt.ob {σ : Sg} {r : Nat} {A : Nat → Nat → Int} (h : ArmAt σ r A) : Ob σ r 0 := ⟨h.1.1, h.1.2.1, Nat.le_trans (Nat.le_add_right _ _) h.1.2.2⟩
theorem ArmAt.ai {σ : Sg} {r : Nat} {A : Nat → Nat → Int} (h : ArmAt σ r A) {k j : Nat} (hk : k < 4) (hj : j < 3) : Ai σ (σ.2.2 r k) (I j) := by
  rw [(h.2.1 k hk).1]
  have hs := (h.2.1 k hk).2
  refine ⟨by omega, by rw [hs], ?_, ?_⟩
  · have := h.1.2.2; omega
  · rw [hs, I_in ⟨by omega, by omega⟩]; omega
theorem I_cln {j : Nat} (hj : j < 2147483648) : (I (j : Int)).toNatClampNeg = j := by rw [I_cl (by omega) (by omega)]; omega
theorem ArmAt.rd {σ : Sg} {r : Nat} {A : Nat → Nat → Int} (h : ArmAt σ r A) {k j : Nat} (hk : k < 4) (hj : j < 3) : σ.2.1 (σ.2.2 r k) (I j).toNatClampNeg = I (A (k + 1) j) := by
  rw [(h.2.1 k hk).1, I_cln (by omega)]; exact h.2.2.1 k j hk hj
theorem ArmAt.r1 {σ : Sg} {r : Nat} {A : Nat → Nat → Int} (h : ArmAt σ r A) {j : Nat} (hj : j < 3) : σ.2.1 (σ.2.2 r 0) (I j).toNatClampNeg = I (A 1 j) := h.rd (by omega) hj
theorem ArmAt.r2 {σ : Sg} {r : Nat} {A : Nat → Nat → Int} (h : ArmAt σ r A) {j : Nat} (hj : j < 3) : σ.2.1 (σ.2.2 r 1) (I j).toNatClampNeg = I (A 2 j) := h.rd (by omega) hj
theorem ArmAt.r3 {σ : Sg} {r : Nat} {A : Nat → Nat → Int} (h : ArmAt σ r A) {j : Nat} (hj : j < 3) : σ.2.1 (σ.2.2 r 2) (I j).toNatClampNeg = I (A 3 j) := h.rd (by omega) hj
theorem ArmAt.r4 {σ : Sg} {r : Nat} {A : Nat → Nat → Int} (h : ArmAt σ r A) {j : Nat} (hj : j < 3) : σ.2.1 (σ.2.2 r 3) (I j).toNatClampNeg = I (A 4 j) := h.rd (by omega) hj
theorem ArmAt.jn {σ : Sg} {r : Nat} {A : Nat → Nat → Int} (h : ArmAt σ r A) : σ.2.1 r 6 = I (A 0 2) := h.2.2.2.1 2 (by omega)
theorem ArmAt.bx {σ : Sg} {r : Nat} {A : Nat → Nat → Int} (h : ArmAt σ r A) : σ.2.1 r 4 = I (A 0 0) := h.2.2.2.1 0 (by omega)
theorem ArmAt.by {σ : Sg} {r : Nat} {A : Nat → Nat → Int} (h : ArmAt σ r A) : σ.2.1 r 5 = I (A 0 1) := h.2.2.2.1 1 (by omega)
/-- the pose p is one of the arm's -/
def isPo (A : Nat → Nat → Int) (p : Int) : Prop := 0 ≤ p ∧ p < 4096 ∧ ∀ j, j < 3 → A 2 j ≤ plc p j ∧ plc p j ≤ A 3 j
def xtl : List Int := [1000, 924, 707, 383, 0, -383, -707, -924, -1000, -924, -707, -383, 0, 383, 707, 924]
def xti (d : Int) : Int := xtl.getD (d % 16).toNat 0
theorem xt_all : ∀ k : Nat, k < 16 → xtab.getD k 0 = I (xtl.getD k 0) := by decide
theorem xt_bd : ∀ k : Nat, k < 16 → -1000 ≤ xtl.getD k 0 ∧ xtl.getD k 0 ≤ 1000 := by decide
def dsm (p : Int) : Nat → Int
  | 0 => 0
  | k + 1 => dsm p k + plc p k
def rch (A : Nat → Nat → Int) (p : Int) (t : Int) : Nat → Int
  | 0 => 0
  | k + 1 => rch A p t k + A 1 k * xti (t + dsm p (k + 1))
def hpj (A : Nat → Nat → Int) (p q : Int) (j : Nat) : Int := (((if 0 ≤ plc p j - plc q j then plc p j - plc q j else -(plc p j - plc q j)) + A 4 j - 1) / A 4 j)
def hps (A : Nat → Nat → Int) (p q : Int) : Nat → Int
  | 0 => 0
  | k + 1 => max (hps A p q k) (hpj A p q k)
/-- the hop between two poses -/
def hop (A : Nat → Nat → Int) (p q : Int) : Int := hps A p q (A 0 2).toNat
/-- the point k of a pose, w = 0: x, else y -/
def pnt (A : Nat → Nat → Int) (p : Int) (k : Nat) (w : Nat) : Int := 1000 * A 0 w + rch A p (if w = 0 then 0 else 12) k
def tip (A : Nat → Nat → Int) (p : Int) (w : Nat) : Int := pnt A p (A 0 2).toNat w
theorem dsm_rg (p : Int) : ∀ k, 0 ≤ dsm p k ∧ dsm p k ≤ 15 * k := by
  intro k
  induction k with
  | zero => exact ⟨Int.le_refl _, Int.le_refl _⟩
  | succ k ih => have := plc_rg p k; simp only [dsm]; omega
theorem and15 {d : Int} (h : 0 ≤ d) (h2 : d < 2147483648) : I d &&& 15 = I (d % 16) := by
  obtain ⟨n, rfl⟩ : ∃ n : Nat, d = n := ⟨d.toNat, by omega⟩
  rw [← I_nat, pk_andN (by omega) 4 (by decide)]
  rfl
theorem xti_at {d : Int} (h : 0 ≤ d) (h2 : d < 2147483648) : xtab.getD (I d &&& 15).toNatClampNeg 0 = I (xti d) := by
  rw [and15 h h2, I_cl (by omega) (by omega)]
  exact xt_all _ (by omega)
theorem xti_rg (d : Int) : -1000 ≤ xti d ∧ xti d ≤ 1000 := by
  exact xt_bd _ (by omega)
theorem hpj_rg {A : Nat → Nat → Int} (p q : Int) {j : Nat} (h1 : 1 ≤ A 4 j) (h2 : A 4 j ≤ 3) : 0 ≤ hpj A p q j ∧ hpj A p q j ≤ 15 := by
  have a := plc_rg p j; have b := plc_rg q j
  unfold hpj
  have h3 : A 4 j = 1 ∨ A 4 j = 2 ∨ A 4 j = 3 := by omega
  split <;> rcases h3 with h3 | h3 | h3 <;> rw [h3] <;> omega
theorem hps_rg {A : Nat → Nat → Int} (hw : ArmWf A) (p q : Int) : ∀ k : Nat, (k : Int) ≤ A 0 2 → 0 ≤ hps A p q k ∧ hps A p q k ≤ 15 := by
  intro k
  induction k with
  | zero => intro _; exact ⟨Int.le_refl _, by show (0 : Int) ≤ 15; omega⟩
  | succ k ih =>
    intro hk
    have := ih (by omega)
    have h3 := hw.1
    have h4 := hw.2.2.1 k (by omega) (by omega)
    have h5 := hw.2.1 k (by omega)
    have := hpj_rg p q (j := k) h4.1 h5.2.2.2.2.2.2
    simp only [hps]; omega
section AR
variable {l : Launch} {σ : Sg} {r : Nat} {A : Nat → Nat → Int} {K : Int32 → Sg → Prop}
theorem q_low {j : Nat} (hA : ArmAt σ r A) (hj : j < 3) (h : K (I (A 2 j)) σ) : Con l mX0_low [.inr r, .inl (I j)] σ (PI K) := by
  refine eX0_low ?_
  simp (disch := omega) only [L_lit, I_lt', I_le']
  refine ⟨fun c => absurd c (by omega), fun c => ⟨fun c2 => absurd c2 (by omega), fun c2 => ⟨hA.ob, hA.ai (k := 1) (by omega) hj, ?_⟩⟩⟩
  rw [hA.r2 hj]; exact h
theorem q_high {j : Nat} (hA : ArmAt σ r A) (hj : j < 3) (h : K (I (A 3 j)) σ) : Con l mX0_high [.inr r, .inl (I j)] σ (PI K) := by
  refine eX0_high ?_
  simp (disch := omega) only [L_lit, I_lt', I_le']
  refine ⟨fun c => absurd c (by omega), fun c => ⟨fun c2 => absurd c2 (by omega), fun c2 => ⟨hA.ob, hA.ai (k := 2) (by omega) hj, ?_⟩⟩⟩
  rw [hA.r3 hj]; exact h
theorem q_speed {j : Nat} (hA : ArmAt σ r A) (hj : j < 3) (h : K (I (A 4 j)) σ) : Con l mX0_speed [.inr r, .inl (I j)] σ (PI K) := by
  refine eX0_speed ?_
  simp (disch := omega) only [L_lit, I_lt', I_le']
  refine ⟨fun c => absurd c (by omega), fun c => ⟨fun c2 => absurd c2 (by omega), fun c2 => ⟨hA.ob, hA.ai (k := 3) (by omega) hj, ?_⟩⟩⟩
  rw [hA.r4 hj]; exact h
theorem q_hasPose {p : Int} (hA : ArmAt σ r A) (hw : ArmWf A) (hp : Rg p) (h1 : isPo A p → K 1 σ) (h0 : ¬ isPo A p → K 0 σ) : Con l mX0_hasPose [.inr r, .inl (I p)] σ (PI K) := by
  have F0 : ∀ j : Nat, j ≤ 3 → ¬ isPo A p → GW l mX0_hasPose 19 [(0, .inr r), (1, .inl (I p)), (2, .inl 0), (3, .inl (I j))] [] σ 0 0 (PI K) := by
    intro j hj hn
    refine gX0_hasPose_19 ⟨fun c => ⟨Or.inl rfl, h0 hn⟩, fun c => ⟨fun c2 => ⟨Or.inl rfl, h0 hn⟩, fun c2 => absurd rfl c2⟩⟩
  have F1 : ∀ n j : Nat, j + n = 3 → 0 ≤ p → p < 4096 → (∀ i, i < j → A 2 i ≤ plc p i ∧ plc p i ≤ A 3 i) → GW l mX0_hasPose 19 [(0, .inr r), (1, .inl (I p)), (2, .inl 1), (3, .inl (I j))] [] σ 0 0 (PI K) := by
    intro n
    induction n with
    | zero =>
      intro j hj c1 c2 hd
      have hi : isPo A p := ⟨c1, c2, fun i hi => hd i (by omega)⟩
      refine gX0_hasPose_19 ?_
      simp (disch := omega) only [L_lit, I_lt', I_le', I_eq']
      exact ⟨fun c => ⟨Or.inr trivial, h1 hi⟩, fun c => absurd c (by omega)⟩
    | succ n ih =>
      intro j hj c1 c2 hd
      refine gX0_hasPose_19 ⟨fun c => ?_, fun c => ⟨fun c3 => absurd c3 (by decide), fun c3 => ?_⟩⟩
      · rw [L_lit, I_le ⟨by omega, by omega⟩ ⟨by omega, by omega⟩] at c
        exact absurd c (by omega)
      · refine q_placeOf c1 (by omega) (by omega) ?_
        have hb := hw.2.1 j (by omega)
        have hpl := plc_rg p j
        refine ⟨hA.ob, hA.ai (k := 1) (by omega) (by omega), hA.ai (k := 2) (by omega) (by omega), ?_⟩
        rw [hA.r2 (by omega), hA.r3 (by omega)]
        refine q_within ⟨by omega, by omega⟩ ⟨by omega, by omega⟩ ⟨by omega, by omega⟩ (fun a1 a2 => ?_) (fun a => ?_)
        · rw [I_1, I_add]
          exact ih (j + 1) (by omega) c1 c2 (fun i hi => by
            rcases Nat.lt_or_ge i j with q | q
            · exact hd i q
            · rw [show i = j by omega]; exact ⟨a1, a2⟩)
        · rw [I_1, I_add]
          exact F0 (j + 1) (by omega) (fun q => a (q.2.2 j (by omega)))
  refine eX0_hasPose ?_
  have hr := hp.1; have hr2 := hp.2
  simp (disch := omega) only [L_lit, I_lt', I_le']
  refine ⟨fun c => F0 0 (by omega) (fun q => by have := q.1; omega), fun c => ⟨fun c2 => F0 0 (by omega) (fun q => by have := q.2.1; omega), fun c2 => F1 3 0 rfl (by omega) (by omega) (fun i hi => absurd hi (by omega))⟩⟩
theorem q_reach {p t : Int} {k : Nat} (hA : ArmAt σ r A) (hk : k ≤ 3) (hp : 0 ≤ p) (hp2 : p < 2147483648) (ht : 0 ≤ t) (ht2 : t ≤ 12) (h : K (I (rch A p t k)) σ) : Con l mX0_reach [.inr r, .inl (I p), .inl (I k), .inl (I t)] σ (PI K) := by
  have F : ∀ n j : Nat, j + n = k → GW l mX0_reach 9 [(0, .inr r), (1, .inl (I p)), (2, .inl (I k)), (3, .inl (I t)), (4, .inl (I (rch A p t j))), (5, .inl (I (t + dsm p j))), (6, .inl (I j))] [] σ 0 0 (PI K) := by
    intro n
    induction n with
    | zero =>
      intro j hj
      have hj : j = k := by omega
      subst hj
      refine gX0_reach_9 ⟨fun c => h, fun c => absurd ?_ c⟩
      exact (I_le ⟨by omega, by omega⟩ ⟨by omega, by omega⟩).mpr (Int.le_refl _)
    | succ n ih =>
      intro j hj
      have hd := dsm_rg p j
      have hpl := plc_rg p j
      refine gX0_reach_9 ⟨fun c => ?_, fun c => ⟨fun c2 => ?_, fun c2 => ?_⟩⟩
      · rw [I_le ⟨by omega, by omega⟩ ⟨by omega, by omega⟩] at c; exact absurd c (by omega)
      · rw [L_lit, I_le ⟨by omega, by omega⟩ ⟨by omega, by omega⟩] at c2; exact absurd c2 (by omega)
      · refine q_placeOf hp hp2 (by omega) ⟨hA.ob, hA.ai (k := 0) (by omega) (by omega), ?_, ?_⟩
        · rw [I_add, and15 (by omega) (by omega), I_in ⟨by omega, by omega⟩]; omega
        · rw [I_add, xti_at (by omega) (by omega), hA.r1 (by omega), I_mul, I_add, I_1, I_add, show t + dsm p j + plc p j = t + dsm p (j + 1) by simp only [dsm]; omega]
          exact ih (j + 1) (by omega)
  refine eX0_reach ?_
  have h0 := F k 0 (by omega)
  rw [show t + dsm p 0 = t by simp only [dsm]; omega] at h0
  exact h0
theorem q_pointX {p : Int} {k : Nat} (hA : ArmAt σ r A) (hk : k ≤ 3) (hp : 0 ≤ p) (hp2 : p < 2147483648) (h : K (I (pnt A p k 0)) σ) : Con l mX0_pointX [.inr r, .inl (I p), .inl (I k)] σ (PI K) := by
  refine eX0_pointX ⟨hA.ob, q_reach (t := 0) hA hk hp hp2 (by omega) (by omega) ?_⟩
  rw [hA.bx, L_lit, I_mul, I_add]; exact h
theorem q_pointY {p : Int} {k : Nat} (hA : ArmAt σ r A) (hk : k ≤ 3) (hp : 0 ≤ p) (hp2 : p < 2147483648) (h : K (I (pnt A p k 1)) σ) : Con l mX0_pointY [.inr r, .inl (I p), .inl (I k)] σ (PI K) := by
  refine eX0_pointY ⟨hA.ob, q_reach (t := 12) hA hk hp hp2 (by omega) (by omega) ?_⟩
  rw [hA.by, L_lit, I_mul, I_add]; exact h
theorem q_tipX {p : Int} (hA : ArmAt σ r A) (hw : ArmWf A) (hp : 0 ≤ p) (hp2 : p < 2147483648) (h : K (I (tip A p 0)) σ) : Con l mX0_tipX [.inr r, .inl (I p)] σ (PI K) := by
  have hj := hw.1
  refine eX0_tipX ⟨hA.ob, ?_⟩
  rw [hA.jn, show A 0 2 = ((A 0 2).toNat : Int) by omega]
  refine q_reach (t := 0) hA (by omega) hp hp2 (by omega) (by omega) ?_
  rw [hA.bx, L_lit, I_mul, I_add]; exact h
theorem q_tipY {p : Int} (hA : ArmAt σ r A) (hw : ArmWf A) (hp : 0 ≤ p) (hp2 : p < 2147483648) (h : K (I (tip A p 1)) σ) : Con l mX0_tipY [.inr r, .inl (I p)] σ (PI K) := by
  have hj := hw.1
  refine eX0_tipY ⟨hA.ob, ?_⟩
  rw [hA.jn, show A 0 2 = ((A 0 2).toNat : Int) by omega]
  refine q_reach (t := 12) hA (by omega) hp hp2 (by omega) (by omega) ?_
  rw [hA.by, L_lit, I_mul, I_add]; exact h
theorem q_hop {p q : Int} (hA : ArmAt σ r A) (hw : ArmWf A) (hp : 0 ≤ p) (hp2 : p < 2147483648) (hq : 0 ≤ q) (hq2 : q < 2147483648) (h : K (I (hop A p q)) σ) : Con l mX0_hopBetween [.inr r, .inl (I p), .inl (I q)] σ (PI K) := by
  have hj3 := hw.1
  have F : ∀ n j : Nat, j + n = (A 0 2).toNat → GW l mX0_hopBetween 5 [(0, .inr r), (1, .inl (I p)), (2, .inl (I q)), (3, .inl (I (hps A p q j))), (4, .inl (I j))] [] σ 0 0 (PI K) := by
    intro n
    induction n with
    | zero =>
      intro j hj
      have hj : j = (A 0 2).toNat := by omega
      subst hj
      refine gX0_hopBetween_5 ⟨hA.ob, fun c => h, fun c => absurd ?_ c⟩
      rw [hA.jn]
      exact (I_le ⟨by omega, by omega⟩ ⟨by omega, by omega⟩).mpr (by omega)
    | succ n ih =>
      intro j hj
      have a1 := plc_rg p j
      have a2 := plc_rg q j
      have a3 := hw.2.2.1 j (by omega) (by omega)
      have a4 := hw.2.1 j (by omega)
      have a5 := hps_rg hw p q j (by omega)
      have a6 := hpj_rg (A := A) p q (j := j) a3.1 a4.2.2.2.2.2.2
      refine gX0_hopBetween_5 ⟨hA.ob, fun c => ?_, fun c => ⟨fun c2 => ?_, fun c2 => ?_⟩⟩
      · rw [hA.jn, I_le ⟨by omega, by omega⟩ ⟨by omega, by omega⟩] at c; exact absurd c (by omega)
      · rw [L_lit, I_le ⟨by omega, by omega⟩ ⟨by omega, by omega⟩] at c2; exact absurd c2 (by omega)
      · refine q_placeOf hp hp2 (by omega) (q_placeOf hq hq2 (by omega) ?_)
        rw [I_sub]
        refine q_abs (by omega) (by omega) ⟨hA.ai (k := 3) (by omega) (by omega), fun c3 => ?_, fun c3 => ?_⟩
        · rw [hA.r4 (by omega), I_0, I_le ⟨by omega, by omega⟩ ⟨by omega, by omega⟩] at c3; exact absurd c3 (by omega)
        · rw [hA.r4 (by omega), I_0, I_1, I_add, I_sub]
          refine ⟨?_, ?_⟩
          · rw [I_eq ⟨by omega, by omega⟩ ⟨by omega, by omega⟩]; omega
          · have hd : ((if 0 ≤ plc p j - plc q j then plc p j - plc q j else -(plc p j - plc q j)) + A 4 j - 1).tdiv (A 4 j) = hpj A p q j := by
              unfold hpj
              rw [Int.tdiv_eq_ediv_of_nonneg (by split <;> omega)]
            rw [I_div ⟨by split <;> omega, by split <;> omega⟩ ⟨by omega, by omega⟩ (by rw [hd]; exact ⟨by omega, by omega⟩), hd]
            refine q_max ⟨by omega, by omega⟩ ⟨by omega, by omega⟩ ?_
            rw [I_add]
            exact ih (j + 1) (by omega)
  exact eX0_hopBetween (F (A 0 2).toNat 0 (by omega))
end AR
