/-! what a text makes: tokens in, tapes out; a state: token, fault, line, part -/
abbrev Mt : Type := Nat × Int × (Nat → Nat → Int) × (Nat → Nat → Int)
section PTX
variable (kd vl : Nat → Int)
def numF (lo hi : Int) (i : Nat) : Int := if kd i = 2 then (if lo ≤ vl i ∧ vl i ≤ hi then 0 else 2) else 1
def chg1 (x : Mt) : Mt := if kd x.1 = 8 then (x.1 + 1, 0, x.2.2.1, rvT x.2.2.2) else if kd x.1 = 10 then (x.1 + 1, 0, x.2.2.1, dryT x.2.2.2) else if numF kd vl 1 9 (x.1 + 1) = 0 then (x.1 + 2, 0, x.2.2.1, slw x.2.2.2 (vl (x.1 + 1)).toNat) else (x.1 + 1, numF kd vl 1 9 (x.1 + 1), x.2.2.1, x.2.2.2)
def chgs : Nat → Mt → Mt
  | 0, x => x
  | d + 1, x => if x.2.1 = 0 ∧ 8 ≤ kd x.1 ∧ kd x.1 ≤ 10 then chgs d (chg1 kd vl x) else x
def cut0 (S : Nat → Nat → Int) (i : Nat) (L P : Nat → Nat → Int) : Mt :=
  if kd i ≠ 6 then (i, 0, L, cpy P S 0 (S 0 1).toNat)
  else if numF kd vl 0 99 (i + 1) ≠ 0 then (i + 1, numF kd vl 0 99 (i + 1), L, P)
  else if S 0 1 ≤ vl (i + 1) then (i + 1, 3, L, P)
  else if kd (i + 2) ≠ 7 then (i + 2, 1, L, P)
  else if numF kd vl 0 99 (i + 3) ≠ 0 then (i + 3, numF kd vl 0 99 (i + 3), L, P)
  else if S 0 1 ≤ vl (i + 3) ∨ vl (i + 3) < vl (i + 1) then (i + 3, 3, L, P)
  else (i + 4, 0, L, cpy P S (vl (i + 1)).toNat (vl (i + 3) - vl (i + 1) + 1).toNat)
def prtG (fs : Bool) (S : Nat → Nat → Int) (i : Nat) (L : Nat → Nat → Int) : Mt := cut0 kd vl S (i + 1) (if fs = true then bgn (S 0 0) else L) (bgn (S 0 0))
def prt (T : Nat → Nat → Nat → Int) (cnt : Nat) (fs : Bool) (i : Nat) (L P : Nat → Nat → Int) : Mt :=
  if numF kd vl 0 99 i ≠ 0 then (i, numF kd vl 0 99 i, L, P)
  else if (cnt : Int) ≤ vl i then (i, 3, L, P)
  else if fs = false ∧ L 0 0 ≠ T (vl i).toNat 0 0 then (i, 4, L, P)
  else if (prtG kd vl fs (T (vl i).toNat) i L).2.1 = 0 then chgs kd vl 400 (prtG kd vl fs (T (vl i).toNat) i L) else prtG kd vl fs (T (vl i).toNat) i L
def jnM (A : Nat → Nat → Nat → Int) (x : Mt) : Mt := (x.1, x.2.1, jnP (A (x.2.2.1 0 0).toNat) x.2.2.1 x.2.2.2, x.2.2.2)
def clo (cnt : Nat) (x : Mt) : Mt := if kd x.1 ≠ 3 then (x.1, 1, x.2.2.1, x.2.2.2) else if 40 < x.2.2.1 0 1 ∨ 10 ≤ cnt then (x.1, 5, x.2.2.1, x.2.2.2) else (x.1 + 1, 0, x.2.2.1, x.2.2.2)
def lnT (A : Nat → Nat → Nat → Int) (T : Nat → Nat → Nat → Int) (cnt : Nat) : Nat → Mt → Mt
  | 0, x => if kd x.1 = 5 then (x.1, 2, x.2.2.1, x.2.2.2) else clo kd cnt x
  | r + 1, x => if kd x.1 = 5 then (if (prt kd vl T cnt false (x.1 + 1) x.2.2.1 x.2.2.2).2.1 = 0 then lnT A T cnt r (jnM A (prt kd vl T cnt false (x.1 + 1) x.2.2.1 x.2.2.2)) else prt kd vl T cnt false (x.1 + 1) x.2.2.1 x.2.2.2) else clo kd cnt x
def lin (A : Nat → Nat → Nat → Int) (T : Nat → Nat → Nat → Int) (cnt : Nat) (x : Mt) : Mt := if kd x.1 = 4 then (if (prt kd vl T cnt true (x.1 + 1) x.2.2.1 x.2.2.2).2.1 = 0 then lnT kd vl A T cnt 7 (jnM A (prt kd vl T cnt true (x.1 + 1) x.2.2.1 x.2.2.2)) else prt kd vl T cnt true (x.1 + 1) x.2.2.1 x.2.2.2) else (x.1, 1, x.2.2.1, x.2.2.2)
abbrev Tt : Type := (Nat → Nat → Nat → Int) × Nat × Mt
def lin1 (A : Nat → Nat → Nat → Int) (s : Tt) : Tt := if (lin kd vl A s.1 s.2.1 s.2.2).2.1 = 0 then (fun t => if t = s.2.1 then (lin kd vl A s.1 s.2.1 s.2.2).2.2.1 else s.1 t, s.2.1 + 1, lin kd vl A s.1 s.2.1 s.2.2) else (s.1, s.2.1, lin kd vl A s.1 s.2.1 s.2.2)
def txt (A : Nat → Nat → Nat → Int) : Nat → Tt → Tt
  | 0, s => s
  | d + 1, s => if s.2.2.2.1 = 0 ∧ kd s.2.2.1 ≠ 0 then txt A d (lin1 kd vl A s) else s
end PTX
section PTL
variable {kd vl : Nat → Int} {A : Nat → Nat → Nat → Int} {na : Int} {T : Nat → Nat → Nat → Int} {cnt : Nat} {x : Mt}
theorem rvT_00 {P : Nat → Nat → Int} : rvT P 0 0 = P 0 0 := by unfold rvT; rw [if_neg (by omega)]
theorem dryT_00 {P : Nat → Nat → Int} : dryT P 0 0 = P 0 0 := by unfold dryT; rw [if_neg (by omega)]
theorem numF_0 {lo hi : Int} {i : Nat} : numF kd vl lo hi i = 0 ↔ (kd i = 2 ∧ lo ≤ vl i ∧ vl i ≤ hi) := by
  unfold numF
  constructor
  · intro h
    split at h
    · rename_i q
      split at h
      · rename_i z; exact ⟨q, z⟩
      · omega
    · omega
  · intro h; rw [if_pos h.1, if_pos h.2]
theorem numF_rg {lo hi : Int} {i : Nat} : 0 ≤ numF kd vl lo hi i ∧ numF kd vl lo hi i ≤ 2 := by
  unfold numF
  split
  · split <;> omega
  · omega
def Iv (A : Nat → Nat → Nat → Int) (na : Int) (x : Mt) : Prop := TW A na x.2.2.1 ∧ TW A na x.2.2.2 ∧ x.2.2.2 0 0 = x.2.2.1 0 0
def TWs (A : Nat → Nat → Nat → Int) (na : Int) (T : Nat → Nat → Nat → Int) (cnt : Nat) : Prop := ∀ t : Nat, t < cnt → TW A na (T t) ∧ T t 0 1 ≤ 40
/-- a fault's number, and how far it went -/
def Fg (i : Nat) (y : Mt) : Prop := 0 ≤ y.2.1 ∧ y.2.1 ≤ 5 ∧ i ≤ y.1
theorem chg1_iv (h : Iv A na x) : Iv A na (chg1 kd vl x) ∧ Fg (x.1 + 1) (chg1 kd vl x) := by
  have r := numF_rg (kd := kd) (vl := vl) (lo := 1) (hi := 9) (i := x.1 + 1)
  unfold chg1
  split
  · exact ⟨⟨h.1, h.2.1.rv, rvT_00.trans h.2.2⟩, by show (0 : Int) ≤ 0; omega, by show (0 : Int) ≤ 5; omega, Nat.le_refl _⟩
  · split
    · exact ⟨⟨h.1, h.2.1.dry, dryT_00.trans h.2.2⟩, by show (0 : Int) ≤ 0; omega, by show (0 : Int) ≤ 5; omega, Nat.le_refl _⟩
    · split
      · rename_i q
        have := numF_0.mp q
        exact ⟨⟨h.1, h.2.1.ss (by omega), h.2.2⟩, by show (0 : Int) ≤ 0; omega, by show (0 : Int) ≤ 5; omega, by show x.1 + 1 ≤ x.1 + 2; omega⟩
      · exact ⟨h, r.1, by show numF kd vl 1 9 (x.1 + 1) ≤ 5; omega, Nat.le_refl _⟩
theorem chgs_iv : ∀ d (x : Mt), Iv A na x → (0 ≤ x.2.1 ∧ x.2.1 ≤ 5) → Iv A na (chgs kd vl d x) ∧ Fg x.1 (chgs kd vl d x) := by
  intro d
  induction d with
  | zero => intro x h hf; exact ⟨h, hf.1, hf.2, Nat.le_refl _⟩
  | succ d ih =>
    intro x h hf
    show Iv A na (if _ then _ else _) ∧ Fg x.1 (if _ then _ else _)
    split
    · have k := chg1_iv (kd := kd) (vl := vl) h
      have k2 := ih _ k.1 ⟨k.2.1, k.2.2.1⟩
      exact ⟨k2.1, k2.2.1, k2.2.2.1, by have := k2.2.2.2; have := k.2.2.2; omega⟩
    · exact ⟨h, hf.1, hf.2, Nat.le_refl _⟩
theorem cut0_iv {S L : Nat → Nat → Int} {i : Nat} (hS : TW A na S) (h4 : S 0 1 ≤ 40) (hL : TW A na L) (ho : S 0 0 = L 0 0) : Iv A na (cut0 kd vl S i L (bgn (S 0 0))) ∧ Fg i (cut0 kd vl S i L (bgn (S 0 0))) := by
  have hb : TW A na (bgn (S 0 0)) := TW.bb hS.1
  have b0 : Iv A na (i, 0, L, bgn (S 0 0)) := ⟨hL, hb, ho⟩
  have r1 := numF_rg (kd := kd) (vl := vl) (lo := 0) (hi := 99) (i := i + 1)
  have r3 := numF_rg (kd := kd) (vl := vl) (lo := 0) (hi := 99) (i := i + 3)
  have s0 := hS.2.1
  unfold cut0
  split
  · exact ⟨⟨hL, hb.cc hS rfl _ (by omega), (cpy_00 _).trans ho⟩, by show (0 : Int) ≤ 0; omega, by show (0 : Int) ≤ 5; omega, Nat.le_refl _⟩
  · split
    · exact ⟨b0, r1.1, by show numF kd vl 0 99 (i + 1) ≤ 5; omega, by show i ≤ i + 1; omega⟩
    · rename_i q1
      have n1 := numF_0.mp (Classical.not_not.mp q1)
      split
      · exact ⟨b0, by show (0 : Int) ≤ 3; omega, by show (3 : Int) ≤ 5; omega, by show i ≤ i + 1; omega⟩
      · split
        · exact ⟨b0, by show (0 : Int) ≤ 1; omega, by show (1 : Int) ≤ 5; omega, by show i ≤ i + 2; omega⟩
        · split
          · exact ⟨b0, r3.1, by show numF kd vl 0 99 (i + 3) ≤ 5; omega, by show i ≤ i + 3; omega⟩
          · split
            · exact ⟨b0, by show (0 : Int) ≤ 3; omega, by show (3 : Int) ≤ 5; omega, by show i ≤ i + 3; omega⟩
            · rename_i q3
              exact ⟨⟨hL, hb.cc hS rfl _ (by omega), (cpy_00 _).trans ho⟩, by show (0 : Int) ≤ 0; omega, by show (0 : Int) ≤ 5; omega, by show i ≤ i + 4; omega⟩
theorem prt_iv {fs : Bool} {i : Nat} {L P : Nat → Nat → Int} (hT : TWs A na T cnt) (hL : fs = false → TW A na L) : ((prt kd vl T cnt fs i L P).2.1 = 0 → Iv A na (prt kd vl T cnt fs i L P)) ∧ Fg i (prt kd vl T cnt fs i L P) := by
  have r1 := numF_rg (kd := kd) (vl := vl) (lo := 0) (hi := 99) (i := i)
  unfold prt
  split
  · rename_i q; exact ⟨fun z => absurd z q, r1.1, by show numF kd vl 0 99 i ≤ 5; omega, Nat.le_refl _⟩
  · rename_i q1
    have n1 := numF_0.mp (Classical.not_not.mp q1)
    split
    · exact ⟨fun z => absurd z (by show ¬ (3 : Int) = 0; omega), by show (0 : Int) ≤ 3; omega, by show (3 : Int) ≤ 5; omega, Nat.le_refl _⟩
    · rename_i q2
      split
      · exact ⟨fun z => absurd z (by show ¬ (4 : Int) = 0; omega), by show (0 : Int) ≤ 4; omega, by show (4 : Int) ≤ 5; omega, Nat.le_refl _⟩
      · rename_i q3
        have ht := hT (vl i).toNat (by omega)
        have k : Iv A na (prtG kd vl fs (T (vl i).toNat) i L) ∧ Fg (i + 1) (prtG kd vl fs (T (vl i).toNat) i L) := by
          unfold prtG
          cases fs with
          | true => exact cut0_iv ht.1 ht.2 (TW.bb ht.1.1) rfl
          | false => exact cut0_iv ht.1 ht.2 (hL rfl) (Classical.byContradiction fun z => q3 ⟨rfl, fun y => z y.symm⟩)
        split
        · have k2 := chgs_iv (kd := kd) (vl := vl) 400 _ k.1 ⟨k.2.1, k.2.2.1⟩
          exact ⟨fun _ => k2.1, k2.2.1, k2.2.2.1, by have := k2.2.2.2; have := k.2.2.2; omega⟩
        · exact ⟨fun _ => k.1, k.2.1, k.2.2.1, by have := k.2.2.2; omega⟩
theorem jnM_iv (h : Iv A na x) : TW A na (jnM A x).2.2.1 ∧ (x.2.2.2 0 1 = 41 → (jnM A x).2.2.1 0 1 = 41) ∧ (x.2.2.1 0 1 = 41 → (jnM A x).2.2.1 0 1 = 41) := by
  have l0 := h.1.2.1; have p0 := h.2.1.2.1
  refine ⟨h.1.jn h.2.1 h.2.2, fun q => ?_, fun q => ?_⟩
  · show jnP _ _ _ 0 1 = 41
    rw [jnP_01 l0 (by omega)]; omega
  · show jnP _ _ _ 0 1 = 41
    by_cases z : x.2.2.2 0 1 = 0
    · unfold jnP; rw [if_pos z]; exact q
    · rw [jnP_01 l0 (by omega)]; omega
theorem clo_iv (h : TW A na x.2.2.1) : ((clo kd cnt x).2.1 = 0 → TW A na (clo kd cnt x).2.2.1 ∧ (clo kd cnt x).2.2.1 0 1 ≤ 40 ∧ cnt < 10) ∧ Fg x.1 (clo kd cnt x) := by
  unfold clo
  split
  · exact ⟨fun z => absurd z (by show ¬ (1 : Int) = 0; omega), by show (0 : Int) ≤ 1; omega, by show (1 : Int) ≤ 5; omega, Nat.le_refl _⟩
  · split
    · exact ⟨fun z => absurd z (by show ¬ (5 : Int) = 0; omega), by show (0 : Int) ≤ 5; omega, by show (5 : Int) ≤ 5; omega, Nat.le_refl _⟩
    · rename_i q
      exact ⟨fun _ => ⟨h, by show x.2.2.1 0 1 ≤ 40; omega, by omega⟩, by show (0 : Int) ≤ 0; omega, by show (0 : Int) ≤ 5; omega, by show x.1 ≤ x.1 + 1; omega⟩
theorem lnT_iv (hT : TWs A na T cnt) : ∀ r (x : Mt), TW A na x.2.2.1 → ((lnT kd vl A T cnt r x).2.1 = 0 → TW A na (lnT kd vl A T cnt r x).2.2.1 ∧ (lnT kd vl A T cnt r x).2.2.1 0 1 ≤ 40 ∧ cnt < 10) ∧ Fg x.1 (lnT kd vl A T cnt r x) := by
  intro r
  induction r with
  | zero =>
    intro x h
    show ((if _ then _ else _ : Mt).2.1 = 0 → TW A na (if _ then _ else _ : Mt).2.2.1 ∧ (if _ then _ else _ : Mt).2.2.1 0 1 ≤ 40 ∧ cnt < 10) ∧ Fg x.1 (if _ then _ else _)
    split
    · exact ⟨fun z => absurd z (by show ¬ (2 : Int) = 0; omega), by show (0 : Int) ≤ 2; omega, by show (2 : Int) ≤ 5; omega, Nat.le_refl _⟩
    · exact clo_iv h
  | succ r ih =>
    intro x h
    show ((if _ then _ else _ : Mt).2.1 = 0 → TW A na (if _ then _ else _ : Mt).2.2.1 ∧ (if _ then _ else _ : Mt).2.2.1 0 1 ≤ 40 ∧ cnt < 10) ∧ Fg x.1 (if _ then _ else _)
    by_cases q : kd x.1 = 5
    · rw [if_pos q]
      have k := prt_iv (kd := kd) (vl := vl) (fs := false) (i := x.1 + 1) (L := x.2.2.1) (P := x.2.2.2) hT (fun _ => h)
      by_cases z : (prt kd vl T cnt false (x.1 + 1) x.2.2.1 x.2.2.2).2.1 = 0
      · rw [if_pos z]
        have j := ih _ (jnM_iv (k.1 z)).1
        exact ⟨j.1, j.2.1, j.2.2.1, by have a := j.2.2.2; have b := k.2.2.2; have c : (jnM A (prt kd vl T cnt false (x.1 + 1) x.2.2.1 x.2.2.2)).1 = (prt kd vl T cnt false (x.1 + 1) x.2.2.1 x.2.2.2).1 := rfl; omega⟩
      · rw [if_neg z]
        exact ⟨fun y => absurd y z, k.2.1, k.2.2.1, by have := k.2.2.2; omega⟩
    · rw [if_neg q]; exact clo_iv h
theorem lin_iv (hT : TWs A na T cnt) (x : Mt) : ((lin kd vl A T cnt x).2.1 = 0 → TW A na (lin kd vl A T cnt x).2.2.1 ∧ (lin kd vl A T cnt x).2.2.1 0 1 ≤ 40 ∧ cnt < 10 ∧ x.1 + 1 ≤ (lin kd vl A T cnt x).1) ∧ Fg x.1 (lin kd vl A T cnt x) := by
  unfold lin
  by_cases q : kd x.1 = 4
  · rw [if_pos q]
    have k := prt_iv (kd := kd) (vl := vl) (fs := true) (i := x.1 + 1) (L := x.2.2.1) (P := x.2.2.2) hT (fun z => absurd z (by decide))
    by_cases z : (prt kd vl T cnt true (x.1 + 1) x.2.2.1 x.2.2.2).2.1 = 0
    · rw [if_pos z]
      have j := lnT_iv (kd := kd) (vl := vl) hT 7 _ (jnM_iv (k.1 z)).1
      have c : (jnM A (prt kd vl T cnt true (x.1 + 1) x.2.2.1 x.2.2.2)).1 = (prt kd vl T cnt true (x.1 + 1) x.2.2.1 x.2.2.2).1 := rfl
      have a := j.2.2.2; have b := k.2.2.2
      exact ⟨fun y => ⟨(j.1 y).1, (j.1 y).2.1, (j.1 y).2.2, by omega⟩, j.2.1, j.2.2.1, by omega⟩
    · rw [if_neg z]
      exact ⟨fun y => absurd y z, k.2.1, k.2.2.1, by have := k.2.2.2; omega⟩
  · rw [if_neg q]
    exact ⟨fun z => absurd z (by show ¬ (1 : Int) = 0; omega), by show (0 : Int) ≤ 1; omega, by show (1 : Int) ≤ 5; omega, Nat.le_refl _⟩
/-- what stays true of the tapes, line by line -/
def Tv (A : Nat → Nat → Nat → Int) (na : Int) (T0 : Nat → Nat → Nat → Int) (c0 : Nat) (s : Tt) : Prop := TWs A na s.1 s.2.1 ∧ (c0 ≤ s.2.1 ∧ s.2.1 ≤ 10) ∧ (∀ t, t < c0 → s.1 t = T0 t) ∧ 0 ≤ s.2.2.2.1 ∧ s.2.2.2.1 ≤ 5
theorem lin1_iv {T0 : Nat → Nat → Nat → Int} {c0 : Nat} {s : Tt} (h : Tv A na T0 c0 s) : Tv A na T0 c0 (lin1 kd vl A s) ∧ ((lin1 kd vl A s).2.2.2.1 = 0 → s.2.2.1 + 1 ≤ (lin1 kd vl A s).2.2.1) := by
  have k := lin_iv (kd := kd) (vl := vl) h.1 s.2.2
  have h1 := h.2.1
  unfold lin1
  split
  · rename_i q
    have j := k.1 q
    refine ⟨⟨fun t ht => ?_, ⟨by show c0 ≤ s.2.1 + 1; omega, by show s.2.1 + 1 ≤ 10; omega⟩, fun t ht => ?_, k.2.1, k.2.2.1⟩, fun _ => j.2.2.2⟩
    · show TW A na (if t = s.2.1 then _ else s.1 t) ∧ (if t = s.2.1 then _ else s.1 t) 0 1 ≤ 40
      have ht' : t < s.2.1 + 1 := ht
      split
      · exact ⟨j.1, j.2.1⟩
      · exact h.1 t (by omega)
    · show (if t = s.2.1 then _ else s.1 t) = T0 t
      rw [if_neg (by omega)]; exact h.2.2.1 t ht
  · rename_i q
    exact ⟨⟨h.1, h.2.1, h.2.2.1, k.2.1, k.2.2.1⟩, fun z => absurd z q⟩
theorem txt_iv {T0 : Nat → Nat → Nat → Int} {c0 : Nat} : ∀ d (s : Tt), Tv A na T0 c0 s → Tv A na T0 c0 (txt kd vl A d s) := by
  intro d
  induction d with
  | zero => intro s h; exact h
  | succ d ih =>
    intro s h
    show Tv A na T0 c0 (if _ then _ else _)
    split
    · exact ih _ (lin1_iv h).1
    · exact h
end PTL
/-- the kinds and values of the tokens of a text -/
noncomputable def kdB (B : Nat → Int) (n : Nat) (i : Nat) : Int := knd B n (tk B n i)
def vlB (B : Nat → Int) (n : Nat) (i : Nat) : Int := vlu B n (tk B n i)
theorem wkd_rg (B : Nat → Int) (q e : Nat) : -1 ≤ wkd B q e ∧ wkd B q e ≤ 6 := by
  unfold wkd cif
  repeat (first | split | omega)
theorem knd_rg (B : Nat → Int) (n q : Nat) : 0 ≤ knd B n q ∧ knd B n q ≤ 10 := by
  have r := wkd_rg B q (nxt B n q)
  unfold knd
  split
  · omega
  · split
    · split <;> omega
    · split
      · omega
      · split <;> omega
theorem vlu_rg (B : Nat → Int) (n q : Nat) : 0 ≤ vlu B n q ∧ vlu B n q ≤ 999 := by
  unfold vlu
  split
  · omega
  · rename_i h1
    split
    · omega
    · rename_i h2
      split
      · rename_i h3
        refine vrF_rg _ (fun i hi => ?_)
        by_cases z : i = 0
        · rw [z]; exact dg_iff.mp h3
        · have e : nxt B n q = run (isDgF B) n (q + 1) := by unfold nxt; rw [if_neg h1, if_neg h2, if_pos h3]
          exact dg_iff.mp (run_all (n := n) _ (q + 1) (isDgF B) rfl (by omega) (q + i) (by omega) (by omega))
      · omega
theorem kdB_rg (B : Nat → Int) (n i : Nat) : 0 ≤ kdB B n i ∧ kdB B n i ≤ 10 := knd_rg _ _ _
theorem vlB_rg (B : Nat → Int) (n i : Nat) : 0 ≤ vlB B n i ∧ vlB B n i ≤ 999 := vlu_rg _ _ _
theorem kdB_0 {B : Nat → Int} {n i : Nat} : kdB B n i = 0 ↔ tk B n i = n := knd_0
theorem kdB_far {B : Nat → Int} {n i : Nat} (h : n ≤ i) : kdB B n i = 0 := by
  rw [kdB_0]
  have a := tk_ge (B := B) (n := n) i
  have b := tk_le (B := B) (n := n) i
  omega
