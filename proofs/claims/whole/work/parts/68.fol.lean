/-! following: least ways -/
noncomputable def nif (p : Prop) (a b : Nat) : Nat := @ite Nat p (Classical.propDecidable p) a b
theorem nif_t {p : Prop} {a b : Nat} (h : p) : nif p a b = a := by unfold nif; exact if_pos h
theorem nif_f {p : Prop} {a b : Nat} (h : ¬ p) : nif p a b = b := by unfold nif; exact if_neg h
/-- the least of g over the q < N with P, 1000000 if none is less; and the first q that has it -/
noncomputable def mnF (P : Nat → Prop) (g : Nat → Int) : Nat → Int
  | 0 => 1000000
  | k + 1 => cif (P k) (min (mnF P g k) (g k)) (mnF P g k)
noncomputable def fsF (P : Nat → Prop) (g : Nat → Int) : Nat → Nat
  | 0 => 0
  | k + 1 => nif (P k ∧ g k < mnF P g k) k (fsF P g k)
section MNF
variable {P : Nat → Prop} {g : Nat → Int}
theorem mnF_yes {k : Nat} (h : P k) : mnF P g (k + 1) = min (mnF P g k) (g k) := by show cif _ _ _ = _; rw [cif_t h]
theorem mnF_no {k : Nat} (h : ¬ P k) : mnF P g (k + 1) = mnF P g k := by show cif _ _ _ = _; rw [cif_f h]
theorem mnF_1M : ∀ N, mnF P g N ≤ 1000000 := by
  intro N
  induction N with
  | zero => exact Int.le_refl _
  | succ k ih =>
    by_cases h : P k
    · rw [mnF_yes h]; omega
    · rw [mnF_no h]; exact ih
theorem mnF_le : ∀ N, ∀ q, q < N → P q → mnF P g N ≤ g q := by
  intro N
  induction N with
  | zero => intro q hq; omega
  | succ k ih =>
    intro q hq hp
    by_cases h : P k
    · rw [mnF_yes h]
      by_cases e : q = k
      · rw [e]; omega
      · have := ih q (by omega) hp; omega
    · rw [mnF_no h]
      by_cases e : q = k
      · rw [e] at hp; exact absurd hp h
      · exact ih q (by omega) hp
theorem mnF_at : ∀ N, mnF P g N < 1000000 → ∃ q, q < N ∧ P q ∧ g q = mnF P g N := by
  intro N
  induction N with
  | zero => intro h; exact absurd h (by show ¬ (1000000 : Int) < 1000000; omega)
  | succ k ih =>
    intro h
    by_cases hp : P k
    · rw [mnF_yes hp] at h ⊢
      by_cases e : g k ≤ mnF P g k
      · exact ⟨k, by omega, hp, by omega⟩
      · obtain ⟨q, a, b, c⟩ := ih (by omega)
        exact ⟨q, by omega, b, by omega⟩
    · rw [mnF_no hp] at h ⊢
      obtain ⟨q, a, b, c⟩ := ih h
      exact ⟨q, by omega, b, c⟩
theorem mnF_eq {N : Nat} {x : Int} (h1 : ∀ q, q < N → P q → x ≤ g q) (h2 : x ≤ 1000000) (h3 : x = 1000000 ∨ ∃ q, q < N ∧ P q ∧ g q ≤ x) : mnF P g N = x := by
  have a := mnF_1M (P := P) (g := g) N
  have b : x ≤ mnF P g N := by
    by_cases z : mnF P g N < 1000000
    · obtain ⟨q, c, d, e⟩ := mnF_at N z
      have := h1 q c d; omega
    · omega
  rcases h3 with h3 | ⟨q, c, d, e⟩
  · omega
  · have := mnF_le (g := g) N q c d; omega
theorem mnF_nn {N : Nat} (h : ∀ q, q < N → P q → 0 ≤ g q) : 0 ≤ mnF P g N := by
  by_cases z : mnF P g N < 1000000
  · obtain ⟨q, c, d, e⟩ := mnF_at N z
    have := h q c d; omega
  · omega
theorem mnF_same {k : Nat} : ∀ d : Nat, (∀ q, k ≤ q → q < k + d → P q → mnF P g k ≤ g q) → mnF P g (k + d) = mnF P g k ∧ fsF P g (k + d) = fsF P g k := by
  intro d
  induction d with
  | zero => intro _; exact ⟨rfl, rfl⟩
  | succ d ih =>
    intro h
    obtain ⟨a, b⟩ := ih (fun q c e => h q c (by omega))
    show cif (P (k + d)) (min (mnF P g (k + d)) (g (k + d))) (mnF P g (k + d)) = _ ∧ nif (P (k + d) ∧ g (k + d) < mnF P g (k + d)) (k + d) (fsF P g (k + d)) = _
    rw [a, b]
    refine ⟨?_, ?_⟩
    · by_cases z : P (k + d)
      · rw [cif_t z]; have := h (k + d) (by omega) (by omega) z; omega
      · rw [cif_f z]
    · rw [nif_f]
      intro z
      have := h (k + d) (by omega) (by omega) z.1
      have := z.2
      omega
theorem mnF_to {k k' : Nat} (hk : k ≤ k') (h : ∀ q, k ≤ q → q < k' → P q → mnF P g k ≤ g q) : mnF P g k' = mnF P g k ∧ fsF P g k' = fsF P g k := by
  obtain ⟨d, rfl⟩ : ∃ d, k' = k + d := ⟨k' - k, by omega⟩
  exact mnF_same d h
theorem mnF_none {k : Nat} (h : ∀ q, q < k → ¬ P q) : mnF P g k = 1000000 ∧ fsF P g k = 0 := by
  have := mnF_to (P := P) (g := g) (k := 0) (k' := k) (by omega) (fun q _ b c => absurd c (h q b))
  exact this
theorem fsF_ok : ∀ N, mnF P g N < 1000000 → fsF P g N < N ∧ P (fsF P g N) ∧ g (fsF P g N) = mnF P g N ∧ ∀ q, q < fsF P g N → P q → mnF P g N < g q := by
  intro N
  induction N with
  | zero => intro h; exact absurd h (by show ¬ (1000000 : Int) < 1000000; omega)
  | succ k ih =>
    intro h
    by_cases z : P k ∧ g k < mnF P g k
    · have e1 : fsF P g (k + 1) = k := by show nif _ _ _ = _; rw [nif_t z]
      have e2 : mnF P g (k + 1) = g k := by rw [mnF_yes z.1]; omega
      rw [e1, e2]
      exact ⟨by omega, z.1, rfl, fun q a b => by have := mnF_le (g := g) k q a b; omega⟩
    · have e1 : fsF P g (k + 1) = fsF P g k := by show nif _ _ _ = _; rw [nif_f z]
      have e2 : mnF P g (k + 1) = mnF P g k := by
        by_cases y : P k
        · rw [mnF_yes y]
          by_cases w : g k < mnF P g k
          · exact absurd ⟨y, w⟩ z
          · omega
        · exact mnF_no y
      rw [e1, e2]
      rw [e2] at h
      obtain ⟨a, b, c, d⟩ := ih h
      exact ⟨by omega, b, c, d⟩
theorem fsF_un {N q : Nat} (h0 : mnF P g N < 1000000) (h1 : q < N) (h2 : P q) (h3 : g q = mnF P g N) (h4 : ∀ q', q' < q → P q' → g q' ≠ mnF P g N) : fsF P g N = q := by
  obtain ⟨a, b, c, d⟩ := fsF_ok N h0
  by_cases e : fsF P g N < q
  · exact absurd c (h4 _ e b)
  · by_cases f : q < fsF P g N
    · have := d q f h2; omega
    · omega
theorem mnF_congr {P' : Nat → Prop} {g' : Nat → Int} : ∀ N, (∀ q, q < N → (P q ↔ P' q)) → (∀ q, q < N → P q → g q = g' q) → mnF P g N = mnF P' g' N ∧ fsF P g N = fsF P' g' N := by
  intro N
  induction N with
  | zero => intro _ _; exact ⟨rfl, rfl⟩
  | succ k ih =>
    intro h1 h2
    obtain ⟨a, b⟩ := ih (fun q c => h1 q (by omega)) (fun q c d => h2 q (by omega) d)
    show cif _ _ _ = cif _ _ _ ∧ nif _ _ _ = nif _ _ _
    rw [a, b]
    by_cases z : P k
    · have z' := (h1 k (by omega)).mp z
      have e := h2 k (by omega) z
      rw [cif_t z, cif_t z', e]
      refine ⟨rfl, ?_⟩
      by_cases w : g' k < mnF P' g' k
      · rw [nif_t ⟨z, w⟩, nif_t ⟨z', w⟩]
      · rw [nif_f (fun y => w y.2), nif_f (fun y => w y.2)]
    · have z' : ¬ P' k := fun y => z ((h1 k (by omega)).mpr y)
      rw [cif_f z, cif_f z', nif_f (fun y => z y.1), nif_f (fun y => z' y.1)]
      exact ⟨rfl, rfl⟩
end MNF
/-! poses beside each other -/
def ab (x : Int) : Int := if 0 ≤ x then x else -x
theorem ab_nn (x : Int) : 0 ≤ ab x ∧ x ≤ ab x ∧ -x ≤ ab x ∧ (ab x = x ∨ ab x = -x) := by unfold ab; split <;> omega
def adj (A : Nat → Nat → Int) (p q : Nat) : Prop := isPo A q ∧ ∀ j, j < 3 → -(A 4 j) ≤ plc p j - plc q j ∧ plc p j - plc q j ≤ A 4 j
def wyb (p q : Nat) : Int := ab (plc q 0 - plc p 0) + ab (plc q 1 - plc p 1) + ab (plc q 2 - plc p 2)
theorem wyb_rg {A : Nat → Nat → Int} (hw : ArmWf A) {p q : Nat} (h : adj A p q) : 0 ≤ wyb p q ∧ wyb p q ≤ 9 := by
  have a0 := ab_nn (plc q 0 - plc p 0); have a1 := ab_nn (plc q 1 - plc p 1); have a2 := ab_nn (plc q 2 - plc p 2)
  have b0 := h.2 0 (by omega); have b1 := h.2 1 (by omega); have b2 := h.2 2 (by omega)
  have c0 := hw.2.1 0 (by omega); have c1 := hw.2.1 1 (by omega); have c2 := hw.2.1 2 (by omega)
  unfold wyb
  omega
theorem wyb_nn (p q : Nat) : 0 ≤ wyb p q := by
  have a0 := ab_nn (plc q 0 - plc p 0); have a1 := ab_nn (plc q 1 - plc p 1); have a2 := ab_nn (plc q 2 - plc p 2)
  unfold wyb
  omega
theorem pose_ext {p : Nat} (h : p < 4096) : (p : Int) = plc p 0 + 16 * plc p 1 + 256 * plc p 2 := by
  unfold plc
  show (p : Int) = (p : Int) / 1 % 16 + 16 * ((p : Int) / 16 % 16) + 256 * ((p : Int) / 256 % 16)
  omega
theorem plc_abc {a b c : Nat} (ha : a < 16) (hb : b < 16) (hc : c < 16) : plc ((256 * c + 16 * b + a : Nat) : Int) 0 = a ∧ plc ((256 * c + 16 * b + a : Nat) : Int) 1 = b ∧ plc ((256 * c + 16 * b + a : Nat) : Int) 2 = c := by
  have := plc_mk (x := (a : Int)) (y := (b : Int)) (z := (c : Int)) (by omega) (by omega) (by omega)
  rw [show (a : Int) + 16 * b + 256 * c = ((256 * c + 16 * b + a : Nat) : Int) by omega] at this
  exact this
theorem abc_of {p : Nat} (h : p < 4096) : ∃ a b c : Nat, a < 16 ∧ b < 16 ∧ c < 16 ∧ p = 256 * c + 16 * b + a ∧ plc p 0 = a ∧ plc p 1 = b ∧ plc p 2 = c := by
  have e := pose_ext h
  have r0 := plc_rg p 0; have r1 := plc_rg p 1; have r2 := plc_rg p 2
  refine ⟨(plc p 0).toNat, (plc p 1).toNat, (plc p 2).toNat, by omega, by omega, by omega, by omega, by omega, by omega, by omega⟩
/-! ways to the end, and from the start -/
def nrP (A : Nat → Nat → Int) (X Y : Nat → Int) (e : Int) (i p : Nat) : Prop := isPo A p ∧ (-e ≤ tip A p 0 - X i ∧ tip A p 0 - X i ≤ e) ∧ (-e ≤ tip A p 1 - Y i ∧ tip A p 1 - Y i ≤ e)
noncomputable def stW (A : Nat → Nat → Int) (G : Nat → Int) (p : Nat) : Int := mnF (fun q => adj A p q) (fun q => wyb p q + G q) 4096
noncomputable def wbk (A : Nat → Nat → Int) (X Y : Nat → Int) (e : Int) (n : Nat) : Nat → Nat → Int
  | 0, p => cif (nrP A X Y e (n - 1) p) 0 1000000
  | d + 1, p => cif (nrP A X Y e (n - 1 - (d + 1)) p) (stW A (wbk A X Y e n d) p) 1000000
noncomputable def WB (A : Nat → Nat → Int) (X Y : Nat → Int) (e : Int) (n : Nat) (i p : Nat) : Int := wbk A X Y e n (n - 1 - i) p
noncomputable def fwd (A : Nat → Nat → Int) (X Y : Nat → Int) (e : Int) : Nat → Nat → Int
  | 0, p => cif (nrP A X Y e 0 p) 0 1000000
  | i + 1, p => cif (nrP A X Y e (i + 1) p) (stW A (fwd A X Y e i) p) 1000000
/-- what a table of ways keeps to -/
def Gok (B : Int) (G : Nat → Int) : Prop := ∀ p, p < 4096 → 0 ≤ G p ∧ G p ≤ 1000000 ∧ (G p < 1000000 → G p ≤ B)
section WAY
variable {A : Nat → Nat → Int} {X Y : Nat → Int} {e : Int} {n : Nat}
theorem adj_lt {p q : Nat} (h : adj A p q) : q < 4096 := by have := h.1.2.1; omega
theorem stW_ok (hw : ArmWf A) {G : Nat → Int} {B : Int} (hG : Gok B G) (p : Nat) : 0 ≤ stW A G p ∧ stW A G p ≤ 1000000 ∧ (stW A G p < 1000000 → stW A G p ≤ B + 9) := by
  refine ⟨mnF_nn (fun q hq a => ?_), mnF_1M _, fun h => ?_⟩
  · have := hG q hq; have := wyb_nn p q; omega
  · obtain ⟨q, a, b, c⟩ := mnF_at (P := fun q => adj A p q) (g := fun q => wyb p q + G q) 4096 h
    have c : wyb p q + G q = stW A G p := c
    have g := hG q a
    have w := wyb_rg hw b
    have := g.2.2 (by omega)
    omega
theorem wbk_ok (hw : ArmWf A) : ∀ d : Nat, Gok (9 * (d : Int)) (wbk A X Y e n d) := by
  intro d
  induction d with
  | zero =>
    intro p hp
    show 0 ≤ cif _ _ _ ∧ cif _ _ _ ≤ 1000000 ∧ (cif _ _ _ < 1000000 → cif _ _ _ ≤ 9 * ((0 : Nat) : Int))
    by_cases z : nrP A X Y e (n - 1) p
    · rw [cif_t z]; omega
    · rw [cif_f z]; omega
  | succ d ih =>
    intro p hp
    have s := stW_ok hw ih p
    show 0 ≤ cif _ _ _ ∧ cif _ _ _ ≤ 1000000 ∧ (cif _ _ _ < 1000000 → cif _ _ _ ≤ 9 * ((d + 1 : Nat) : Int))
    by_cases z : nrP A X Y e (n - 1 - (d + 1)) p
    · rw [cif_t z]; omega
    · rw [cif_f z]; omega
theorem fwd_ok (hw : ArmWf A) : ∀ i : Nat, Gok (9 * (i : Int)) (fwd A X Y e i) := by
  intro i
  induction i with
  | zero =>
    intro p hp
    show 0 ≤ cif _ _ _ ∧ cif _ _ _ ≤ 1000000 ∧ (cif _ _ _ < 1000000 → cif _ _ _ ≤ 9 * ((0 : Nat) : Int))
    by_cases z : nrP A X Y e 0 p
    · rw [cif_t z]; omega
    · rw [cif_f z]; omega
  | succ d ih =>
    intro p hp
    have s := stW_ok hw ih p
    show 0 ≤ cif _ _ _ ∧ cif _ _ _ ≤ 1000000 ∧ (cif _ _ _ < 1000000 → cif _ _ _ ≤ 9 * ((d + 1 : Nat) : Int))
    by_cases z : nrP A X Y e (d + 1) p
    · rw [cif_t z]; omega
    · rw [cif_f z]; omega
theorem WB_last (h : 1 ≤ n) (p : Nat) : WB A X Y e n (n - 1) p = cif (nrP A X Y e (n - 1) p) 0 1000000 := by
  unfold WB; rw [show n - 1 - (n - 1) = 0 by omega]; rfl
theorem WB_in {i : Nat} (h : i + 1 < n) (p : Nat) : WB A X Y e n i p = cif (nrP A X Y e i p) (stW A (WB A X Y e n (i + 1)) p) 1000000 := by
  have e1 : n - 1 - i = (n - 1 - (i + 1)) + 1 := by omega
  have e2 : n - 1 - ((n - 1 - (i + 1)) + 1) = i := by omega
  unfold WB
  rw [e1]
  show cif (nrP A X Y e (n - 1 - ((n - 1 - (i + 1)) + 1)) p) _ _ = _
  rw [e2]
theorem WB_ok (hw : ArmWf A) (hn : n ≤ 40) (i : Nat) : Gok 360 (WB A X Y e n i) := by
  intro p hp
  have := wbk_ok (X := X) (Y := Y) (e := e) (n := n) hw (n - 1 - i) p hp
  unfold WB
  omega
theorem WB_nr {i p : Nat} (hi : i < n) (h : WB A X Y e n i p < 1000000) : nrP A X Y e i p := by
  refine Classical.byContradiction fun z => ?_
  by_cases l : i + 1 < n
  · rw [WB_in l, cif_f z] at h; omega
  · have : i = n - 1 := by omega
    subst this
    rw [WB_last (by omega), cif_f z] at h; omega
/-- a row from a start goes to the end -/
def fok (A : Nat → Nat → Int) (X Y : Nat → Int) (e : Int) (n : Nat) : Prop := mnF (nrP A X Y e 0) (WB A X Y e n 0) 4096 < 1000000
noncomputable def frw (A : Nat → Nat → Int) (X Y : Nat → Int) (e : Int) (n : Nat) : Nat → Nat
  | 0 => fsF (nrP A X Y e 0) (WB A X Y e n 0) 4096
  | i + 1 => fsF (fun q => adj A (frw A X Y e n i) q) (fun q => wyb (frw A X Y e n i) q + WB A X Y e n (i + 1) q) 4096
theorem frw_ok (h : fok A X Y e n) : ∀ i, i < n → frw A X Y e n i < 4096 ∧ nrP A X Y e i (frw A X Y e n i) ∧ WB A X Y e n i (frw A X Y e n i) < 1000000 := by
  intro i
  induction i with
  | zero =>
    intro hi
    obtain ⟨a, b, c, d⟩ := fsF_ok 4096 h
    exact ⟨a, b, by unfold fok at h; show WB A X Y e n 0 (fsF _ _ 4096) < 1000000; omega⟩
  | succ i ih =>
    intro hi
    obtain ⟨a, b, c⟩ := ih (by omega)
    rw [WB_in hi, cif_t b] at c
    obtain ⟨a1, b1, c1, d1⟩ := fsF_ok (P := fun q => adj A (frw A X Y e n i) q) (g := fun q => wyb (frw A X Y e n i) q + WB A X Y e n (i + 1) q) 4096 c
    have c1 : wyb (frw A X Y e n i) (frw A X Y e n (i + 1)) + WB A X Y e n (i + 1) (frw A X Y e n (i + 1)) = stW A (WB A X Y e n (i + 1)) (frw A X Y e n i) := c1
    have w := wyb_nn (frw A X Y e n i) (frw A X Y e n (i + 1))
    have k : WB A X Y e n (i + 1) (frw A X Y e n (i + 1)) < 1000000 := by omega
    exact ⟨a1, WB_nr hi k, k⟩
theorem fok_iff (h1 : 1 ≤ n) : fok A X Y e n ↔ ∃ p, p < 4096 ∧ WB A X Y e n 0 p < 1000000 := by
  constructor
  · intro h
    obtain ⟨q, a, b, c⟩ := mnF_at 4096 h
    unfold fok at h
    exact ⟨q, a, by omega⟩
  · intro ⟨p, a, b⟩
    have := mnF_le (P := nrP A X Y e 0) (g := WB A X Y e n 0) 4096 p a (WB_nr (by omega) b)
    unfold fok; omega
/-- each tick has a pose from which the end is reached -/
theorem fok_all (hw : ArmWf A) (h1 : 1 ≤ n) (h : fok A X Y e n) : ∀ i, i < n → ∃ p, p < 4096 ∧ WB A X Y e n i p < 1000000 := fun i hi => ⟨_, (frw_ok h i hi).1, (frw_ok h i hi).2.2⟩
theorem adj_sym {p q : Nat} (hp : isPo A p) (h : adj A p q) : adj A q p := ⟨hp, fun j hj => by have := h.2 j hj; omega⟩
/-- what the start reaches and goes to the end is a row -/
theorem fwd_back (hw : ArmWf A) (h40 : n ≤ 40) (h1 : 1 ≤ n) : ∀ i, i < n → ∀ p, p < 4096 → fwd A X Y e i p < 1000000 → WB A X Y e n i p < 1000000 → fok A X Y e n := by
  intro i
  induction i with
  | zero => intro _ p hp _ h; exact (fok_iff h1).mpr ⟨p, hp, h⟩
  | succ i ih =>
    intro hi p hp hf hb
    have hn : nrP A X Y e (i + 1) p := WB_nr hi hb
    have hf : cif (nrP A X Y e (i + 1) p) (stW A (fwd A X Y e i) p) 1000000 < 1000000 := hf
    rw [cif_t hn] at hf
    obtain ⟨q, a, b, c⟩ := mnF_at (P := fun q => adj A p q) (g := fun q => wyb p q + fwd A X Y e i q) 4096 hf
    have c : wyb p q + fwd A X Y e i q = stW A (fwd A X Y e i) p := c
    have w := wyb_nn p q
    have fq : fwd A X Y e i q < 1000000 := by omega
    have nq : nrP A X Y e i q := by
      refine Classical.byContradiction fun z => ?_
      cases i with
      | zero =>
        have fq : cif (nrP A X Y e 0 q) 0 1000000 < 1000000 := fq
        rw [cif_f z] at fq; omega
      | succ k =>
        have fq : cif (nrP A X Y e (k + 1) q) (stW A (fwd A X Y e k) q) 1000000 < 1000000 := fq
        rw [cif_f z] at fq; omega
    refine ih (by omega) q a fq ?_
    rw [WB_in hi, cif_t nq]
    have := mnF_le (P := fun r => adj A q r) (g := fun r => wyb q r + WB A X Y e n (i + 1) r) 4096 p hp (adj_sym hn.1 b)
    have this : stW A (WB A X Y e n (i + 1)) q ≤ wyb q p + WB A X Y e n (i + 1) p := this
    have w2 := wyb_rg hw (adj_sym hn.1 b)
    have g := WB_ok (X := X) (Y := Y) (e := e) hw h40 (i + 1) p hp
    have := g.2.2 hb
    omega
/-- the first tick that no row from the start reaches -/
def IsStop (A : Nat → Nat → Int) (X Y : Nat → Int) (e : Int) (n t : Nat) : Prop := t < n ∧ (∀ p, p < 4096 → ¬ fwd A X Y e t p < 1000000) ∧ ∀ t', t' < t → ∃ p, p < 4096 ∧ fwd A X Y e t' p < 1000000
noncomputable def stpF (A : Nat → Nat → Int) (X Y : Nat → Int) (e : Int) (n : Nat) : Nat := Classical.epsilon (fun t => IsStop A X Y e n t)
theorem stop_un {t t' : Nat} (h : IsStop A X Y e n t) (h' : IsStop A X Y e n t') : t = t' := by
  by_cases a : t < t'
  · obtain ⟨p, b, c⟩ := h'.2.2 t a
    exact absurd c (h.2.1 p b)
  · by_cases a' : t' < t
    · obtain ⟨p, b, c⟩ := h.2.2 t' a'
      exact absurd c (h'.2.1 p b)
    · omega
theorem stpF_eq {t : Nat} (h : IsStop A X Y e n t) : stpF A X Y e n = t := stop_un (Classical.epsilon_spec (p := fun t => IsStop A X Y e n t) ⟨t, h⟩) h
theorem fwd_last {i p : Nat} (h : fwd A X Y e i p < 1000000) : nrP A X Y e i p := by
  refine Classical.byContradiction fun z => ?_
  cases i with
  | zero =>
    have h : cif (nrP A X Y e 0 p) 0 1000000 < 1000000 := h
    rw [cif_f z] at h; omega
  | succ k =>
    have h : cif (nrP A X Y e (k + 1) p) (stW A (fwd A X Y e k) p) 1000000 < 1000000 := h
    rw [cif_f z] at h; omega
theorem stop_ex (hw : ArmWf A) (h40 : n ≤ 40) (h1 : 1 ≤ n) (hf : ¬ fok A X Y e n) : ∃ t, IsStop A X Y e n t := by
  have F : ∀ k, k ≤ n → (∃ t, IsStop A X Y e n t) ∨ ∀ t, t < k → ∃ p, p < 4096 ∧ fwd A X Y e t p < 1000000 := by
    intro k
    induction k with
    | zero => intro _; exact Or.inr (fun t ht => absurd ht (by omega))
    | succ k ih =>
      intro hk
      rcases ih (by omega) with h | h
      · exact Or.inl h
      · by_cases z : ∃ p, p < 4096 ∧ fwd A X Y e k p < 1000000
        · refine Or.inr (fun t ht => ?_)
          by_cases y : t = k
          · rw [y]; exact z
          · exact h t (by omega)
        · exact Or.inl ⟨k, by omega, fun p hp q => z ⟨p, hp, q⟩, h⟩
  rcases F n (Nat.le_refl _) with h | h
  · exact h
  · obtain ⟨p, a, b⟩ := h (n - 1) (by omega)
    refine absurd (fwd_back hw h40 h1 (n - 1) (by omega) p a b ?_) hf
    rw [WB_last h1, cif_t (fwd_last b)]; omega
end WAY
/-! three sweeps, one for each joint -/
theorem wpo_pl {p x : Nat} {j : Nat} (hp : p < 4096) (hx : x < 16) (hj : j < 3) : (wpo p j x).toNat < 4096 ∧ (((wpo p j x).toNat : Nat) : Int) = wpo p j x ∧ plc ((wpo p j x).toNat : Nat) j = x ∧ ∀ j', j' < 3 → j' ≠ j → plc ((wpo p j x).toNat : Nat) j' = plc p j' := by
  have r := wpo_rg (p := (p : Int)) (q := (x : Int)) (by omega) (by omega) hj (by omega) (by omega)
  have e : (((wpo p j x).toNat : Nat) : Int) = wpo p j x := by omega
  refine ⟨by omega, e, ?_, fun j' h1 h2 => ?_⟩
  · rw [e]
    unfold wpo plc
    match j, hj with
    | 0, _ => show ((p : Int) + ((x : Int) - (p : Int) / 1 % 16) * 1) / 1 % 16 = x; omega
    | 1, _ => show ((p : Int) + ((x : Int) - (p : Int) / 16 % 16) * 16) / 16 % 16 = x; omega
    | 2, _ => show ((p : Int) + ((x : Int) - (p : Int) / 256 % 16) * 256) / 256 % 16 = x; omega
  · rw [e]
    unfold wpo plc
    match j, hj, j', h1, h2 with
    | 0, _, 1, _, _ => show ((p : Int) + ((x : Int) - (p : Int) / 1 % 16) * 1) / 16 % 16 = (p : Int) / 16 % 16; omega
    | 0, _, 2, _, _ => show ((p : Int) + ((x : Int) - (p : Int) / 1 % 16) * 1) / 256 % 16 = (p : Int) / 256 % 16; omega
    | 1, _, 0, _, _ => show ((p : Int) + ((x : Int) - (p : Int) / 16 % 16) * 16) / 1 % 16 = (p : Int) / 1 % 16; omega
    | 1, _, 2, _, _ => show ((p : Int) + ((x : Int) - (p : Int) / 16 % 16) * 16) / 256 % 16 = (p : Int) / 256 % 16; omega
    | 2, _, 0, _, _ => show ((p : Int) + ((x : Int) - (p : Int) / 256 % 16) * 256) / 1 % 16 = (p : Int) / 1 % 16; omega
    | 2, _, 1, _, _ => show ((p : Int) + ((x : Int) - (p : Int) / 256 % 16) * 256) / 16 % 16 = (p : Int) / 16 % 16; omega
    | 0, _, 0, _, h => exact absurd rfl h
    | 1, _, 1, _, h => exact absurd rfl h
    | 2, _, 2, _, h => exact absurd rfl h
def swR (A : Nat → Nat → Int) (j p x : Nat) : Prop := (A 2 j ≤ x ∧ (x : Int) ≤ A 3 j) ∧ (plc p j - A 4 j ≤ x ∧ (x : Int) ≤ plc p j + A 4 j)
noncomputable def swp (A : Nat → Nat → Int) (j : Nat) (G : Nat → Int) (p : Nat) : Int := mnF (swR A j p) (fun x => G (wpo p j x).toNat + ab ((x : Int) - plc p j)) 16
section SWP
variable {A : Nat → Nat → Int} {G : Nat → Int}
theorem swR_po {j p x : Nat} (hp : isPo A p) (hj : j < 3) (hx : x < 16) (h : swR A j p x) : isPo A ((wpo p j x).toNat : Nat) := by
  have p4 := hp.2.1
  have w := wpo_pl (p := p) (x := x) (j := j) (by omega) hx hj
  refine ⟨by omega, by omega, fun j' hj' => ?_⟩
  by_cases z : j' = j
  · rw [z, w.2.2.1]; exact h.1
  · rw [w.2.2.2 j' hj' z]; exact hp.2.2 j' hj'
theorem pl_eq {p q : Nat} (hp : p < 4096) (hq : q < 4096) (h : ∀ j, j < 3 → plc p j = plc q j) : p = q := by
  have a := pose_ext hp; have b := pose_ext hq
  have h0 := h 0 (by omega); have h1 := h 1 (by omega); have h2 := h 2 (by omega)
  omega
theorem sw3 {p : Nat} (hp : isPo A p) (hG : Gok 1000000 G) : swp A 2 (swp A 1 (swp A 0 G)) p = stW A G p := by
  have p4 := hp.2.1
  symm
  refine mnF_eq (fun q hq h => ?_) (mnF_1M _) ?_
  · -- p, then joint 2, then joint 1, then joint 0
    have r0 := plc_rg q 0; have r1 := plc_rg q 1; have r2 := plc_rg q 2
    have b0 := h.2 0 (by omega); have b1 := h.2 1 (by omega); have b2 := h.2 2 (by omega)
    have c0 := h.1.2.2 0 (by omega); have c1 := h.1.2.2 1 (by omega); have c2 := h.1.2.2 2 (by omega)
    obtain ⟨x2, e2⟩ : ∃ x : Nat, plc q 2 = x := ⟨(plc q 2).toNat, by omega⟩
    obtain ⟨x1, e1⟩ : ∃ x : Nat, plc q 1 = x := ⟨(plc q 1).toNat, by omega⟩
    obtain ⟨x0, e0⟩ : ∃ x : Nat, plc q 0 = x := ⟨(plc q 0).toNat, by omega⟩
    have w2 := wpo_pl (p := p) (x := x2) (j := 2) (by omega) (by omega) (by omega)
    obtain ⟨p2, ep2⟩ : ∃ y : Nat, y = (wpo p 2 x2).toNat := ⟨_, rfl⟩
    rw [← ep2] at w2
    have w1 := wpo_pl (p := p2) (x := x1) (j := 1) w2.1 (by omega) (by omega)
    obtain ⟨p1, ep1⟩ : ∃ y : Nat, y = (wpo p2 1 x1).toNat := ⟨_, rfl⟩
    rw [← ep1] at w1
    have w0 := wpo_pl (p := p1) (x := x0) (j := 0) w1.1 (by omega) (by omega)
    obtain ⟨p0, ep0⟩ : ∃ y : Nat, y = (wpo p1 0 x0).toNat := ⟨_, rfl⟩
    rw [← ep0] at w0
    have f20 := w2.2.2.2 0 (by omega) (by omega)
    have f21 := w2.2.2.2 1 (by omega) (by omega)
    have f10 := w1.2.2.2 0 (by omega) (by omega)
    have f12 := w1.2.2.2 2 (by omega) (by omega)
    have f01 := w0.2.2.2 1 (by omega) (by omega)
    have f02 := w0.2.2.2 2 (by omega) (by omega)
    have eq : p0 = q := by
      refine pl_eq w0.1 hq (fun j hj => ?_)
      match j, hj with
      | 0, _ => rw [w0.2.2.1, e0]
      | 1, _ => rw [f01, w1.2.2.1, e1]
      | 2, _ => rw [f02, f12, w2.2.2.1, e2]
    have s2 := mnF_le (P := swR A 2 p) (g := fun x => swp A 1 (swp A 0 G) (wpo p 2 x).toNat + ab ((x : Int) - plc p 2)) 16 x2 (by omega) ⟨⟨by omega, by omega⟩, by omega, by omega⟩
    have s1 := mnF_le (P := swR A 1 p2) (g := fun x => swp A 0 G (wpo p2 1 x).toNat + ab ((x : Int) - plc p2 1)) 16 x1 (by omega) ⟨⟨by omega, by omega⟩, by omega, by omega⟩
    have s0 := mnF_le (P := swR A 0 p1) (g := fun x => G (wpo p1 0 x).toNat + ab ((x : Int) - plc p1 0)) 16 x0 (by omega) ⟨⟨by omega, by omega⟩, by omega, by omega⟩
    have s2 : swp A 2 (swp A 1 (swp A 0 G)) p ≤ swp A 1 (swp A 0 G) (wpo p 2 x2).toNat + ab ((x2 : Int) - plc p 2) := s2
    have s1 : swp A 1 (swp A 0 G) p2 ≤ swp A 0 G (wpo p2 1 x1).toNat + ab ((x1 : Int) - plc p2 1) := s1
    have s0 : swp A 0 G p1 ≤ G (wpo p1 0 x0).toNat + ab ((x0 : Int) - plc p1 0) := s0
    rw [← ep2] at s2
    rw [← ep1, f21] at s1
    rw [← ep0, f10, f20, eq] at s0
    show _ ≤ ab (plc q 0 - plc p 0) + ab (plc q 1 - plc p 1) + ab (plc q 2 - plc p 2) + G q
    rw [e0, e1, e2]
    omega
  · by_cases z : swp A 2 (swp A 1 (swp A 0 G)) p < 1000000
    · right
      obtain ⟨x2, k2, h2, g2⟩ := mnF_at 16 z
      have w2 := wpo_pl (p := p) (x := x2) (j := 2) (by omega) k2 (by omega)
      have q2 := swR_po hp (by omega) k2 h2
      obtain ⟨p2, ep2⟩ : ∃ y : Nat, y = (wpo p 2 x2).toNat := ⟨_, rfl⟩
      have g2 : swp A 1 (swp A 0 G) (wpo p 2 x2).toNat + ab ((x2 : Int) - plc p 2) = swp A 2 (swp A 1 (swp A 0 G)) p := g2
      rw [← ep2] at w2 q2 g2
      have a2 := ab_nn ((x2 : Int) - plc p 2)
      obtain ⟨x1, k1, h1, g1⟩ := mnF_at (P := swR A 1 p2) (g := fun x => swp A 0 G (wpo p2 1 x).toNat + ab ((x : Int) - plc p2 1)) 16 (show swp A 1 (swp A 0 G) p2 < 1000000 by omega)
      have w1 := wpo_pl (p := p2) (x := x1) (j := 1) w2.1 k1 (by omega)
      have q1 := swR_po q2 (by omega) k1 h1
      obtain ⟨p1, ep1⟩ : ∃ y : Nat, y = (wpo p2 1 x1).toNat := ⟨_, rfl⟩
      have g1 : swp A 0 G (wpo p2 1 x1).toNat + ab ((x1 : Int) - plc p2 1) = swp A 1 (swp A 0 G) p2 := g1
      rw [← ep1] at w1 q1 g1
      have a1 := ab_nn ((x1 : Int) - plc p2 1)
      obtain ⟨x0, k0, h0, g0⟩ := mnF_at (P := swR A 0 p1) (g := fun x => G (wpo p1 0 x).toNat + ab ((x : Int) - plc p1 0)) 16 (show swp A 0 G p1 < 1000000 by omega)
      have w0 := wpo_pl (p := p1) (x := x0) (j := 0) w1.1 k0 (by omega)
      have q0 := swR_po q1 (by omega) k0 h0
      obtain ⟨p0, ep0⟩ : ∃ y : Nat, y = (wpo p1 0 x0).toNat := ⟨_, rfl⟩
      have g0 : G (wpo p1 0 x0).toNat + ab ((x0 : Int) - plc p1 0) = swp A 0 G p1 := g0
      rw [← ep0] at w0 q0 g0
      have f20 := w2.2.2.2 0 (by omega) (by omega)
      have f21 := w2.2.2.2 1 (by omega) (by omega)
      have f10 := w1.2.2.2 0 (by omega) (by omega)
      have f12 := w1.2.2.2 2 (by omega) (by omega)
      have f01 := w0.2.2.2 1 (by omega) (by omega)
      have f02 := w0.2.2.2 2 (by omega) (by omega)
      have l0 : plc p0 0 = x0 := w0.2.2.1
      have l1 : plc p0 1 = x1 := by rw [f01, w1.2.2.1]
      have l2 : plc p0 2 = x2 := by rw [f02, f12, w2.2.2.1]
      have d0 := h0.2; have d1 := h1.2; have d2 := h2.2
      refine ⟨p0, w0.1, ⟨q0, fun j hj => ?_⟩, ?_⟩
      · match j, hj with
        | 0, _ => rw [l0]; omega
        | 1, _ => rw [l1]; omega
        | 2, _ => rw [l2]; omega
      · show ab (plc p0 0 - plc p 0) + ab (plc p0 1 - plc p 1) + ab (plc p0 2 - plc p 2) + G p0 ≤ _
        rw [l0, l1, l2]
        rw [f21] at g1
        rw [f10, f20] at g0
        omega
    · left
      have := mnF_1M (P := swR A 2 p) (g := fun x => swp A 1 (swp A 0 G) (wpo p 2 x).toNat + ab ((x : Int) - plc p 2)) 16
      have this : swp A 2 (swp A 1 (swp A 0 G)) p ≤ 1000000 := this
      omega
end SWP
