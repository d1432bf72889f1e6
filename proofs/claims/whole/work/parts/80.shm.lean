/-! share: sets of tapes -/
theorem tb_hi {S i : Nat} (hS : S < 1024) (hi : 10 ≤ i) : S.testBit i = false := Nat.testBit_lt_two_pow (Nat.lt_of_lt_of_le hS (by rw [show (1024 : Nat) = 2 ^ 10 from rfl]; exact Nat.pow_le_pow_right (by omega) hi))
theorem ext10 {S S' : Nat} (hS : S < 1024) (hS' : S' < 1024) (h : ∀ i, i < 10 → S.testBit i = S'.testBit i) : S = S' := by
  refine Nat.eq_of_testBit_eq (fun i => ?_)
  by_cases z : i < 10
  · exact h i z
  · rw [tb_hi hS (by omega), tb_hi hS' (by omega)]
theorem bitI {s i : Nat} (hs : s < 2147483648) (hi : i < 10) : (I (s : Int) >>> (I (i : Int) &&& 31)) &&& 1 = I (if s.testBit i = true then 1 else 0) := by
  have e : ∀ k, I ((s / 2 ^ k % 2 : Nat) : Int) = I (if s.testBit k = true then 1 else 0) := fun k => by
    rw [Nat.testBit_eq_decide_div_mod_eq]
    congr 1
    by_cases z : s / 2 ^ k % 2 = 1
    · rw [if_pos (decide_eq_true z), z]; rfl
    · rw [if_neg (by rw [decide_eq_true_eq]; exact z)]; omega
  have d : ∀ k, s / 2 ^ k < 4294967296 := fun k => Nat.lt_of_le_of_lt (Nat.div_le_self _ _) (by omega)
  rw [← e, ← I_nat, ← I_nat, ← I_nat]
  have h : i = 0 ∨ i = 1 ∨ i = 2 ∨ i = 3 ∨ i = 4 ∨ i = 5 ∨ i = 6 ∨ i = 7 ∨ i = 8 ∨ i = 9 := by omega
  rcases h with rfl | rfl | rfl | rfl | rfl | rfl | rfl | rfl | rfl | rfl
  · rw [pk_shrN hs _ 0 (by decide), pk_andN (d 0) 1 (by decide)]
  · rw [pk_shrN hs _ 1 (by decide), pk_andN (d 1) 1 (by decide)]
  · rw [pk_shrN hs _ 2 (by decide), pk_andN (d 2) 1 (by decide)]
  · rw [pk_shrN hs _ 3 (by decide), pk_andN (d 3) 1 (by decide)]
  · rw [pk_shrN hs _ 4 (by decide), pk_andN (d 4) 1 (by decide)]
  · rw [pk_shrN hs _ 5 (by decide), pk_andN (d 5) 1 (by decide)]
  · rw [pk_shrN hs _ 6 (by decide), pk_andN (d 6) 1 (by decide)]
  · rw [pk_shrN hs _ 7 (by decide), pk_andN (d 7) 1 (by decide)]
  · rw [pk_shrN hs _ 8 (by decide), pk_andN (d 8) 1 (by decide)]
  · rw [pk_shrN hs _ 9 (by decide), pk_andN (d 9) 1 (by decide)]
def dl (S t : Nat) : Nat := S &&& (1023 - 2 ^ t)
def df (S y : Nat) : Nat := S &&& (1023 - y)
theorem msk_bit : ∀ t : Nat, t < 10 → ∀ i : Nat, i < 10 → (1023 - 2 ^ t).testBit i = decide (i ≠ t) := by decide
theorem msk_big : ∀ t : Nat, t < 10 → ∀ i : Nat, i < 10 → (4294967295 - 2 ^ t).testBit i = decide (i ≠ t) := by decide
theorem msk_I : ∀ t : Nat, t < 10 → (((1 : Int32) <<< (I (t : Int) &&& 31)) ^^^ (-1)).toBitVec.toNat = 4294967295 - 2 ^ t := by decide
theorem and_lt {S y : Nat} (hS : S < 1024) : S &&& y < 1024 := Nat.lt_of_le_of_lt Nat.and_le_left hS
theorem dl_lt {S t : Nat} (hS : S < 1024) : dl S t < 1024 := and_lt hS
theorem df_lt {S t : Nat} (hS : S < 1024) : df S t < 1024 := and_lt hS
theorem dl_bit {S t i : Nat} (ht : t < 10) (hi : i < 10) : (dl S t).testBit i = (S.testBit i && decide (i ≠ t)) := by
  unfold dl; rw [Nat.testBit_and, msk_bit t ht i hi]
theorem df_bit {S y i : Nat} (hy : y < 1024) (hi : i < 10) : (df S y).testBit i = (S.testBit i && !y.testBit i) := by
  unfold df
  rw [Nat.testBit_and, show 1023 - y = 2 ^ 10 - (y + 1) by omega, Nat.testBit_two_pow_sub_succ hy]
  simp [hi]
theorem clrI {S t : Nat} (hS : S < 1024) (ht : t < 10) : I (S : Int) &&& (((1 : Int32) <<< (I (t : Int) &&& 31)) ^^^ (-1)) = I (dl S t : Nat) := by
  rw [← I_nat S, and_nI (k := 4294967295 - 2 ^ t) (by omega) (msk_I t ht), I_nat]
  congr 2
  refine ext10 (and_lt hS) (dl_lt hS) (fun i hi => ?_)
  rw [Nat.testBit_and, msk_big t ht i hi, dl_bit ht hi]
theorem dffI {s y : Nat} (hs : s < 1024) (hy : y < 1024) : I (s : Int) &&& (I (y : Int) ^^^ (-1)) = I (df s y : Nat) := by
  have e : (I (y : Int) ^^^ (-1)).toBitVec.toNat = 4294967295 - y := by
    show ((I (y : Int)).toBitVec ^^^ (-1 : Int32).toBitVec).toNat = _
    rw [show (-1 : Int32).toBitVec = BitVec.allOnes 32 from rfl, BitVec.xor_allOnes, BitVec.toNat_not, ← I_nat, nI_bv (by omega)]
  rw [← I_nat s, and_nI (k := 4294967295 - y) (by omega) e, I_nat]
  congr 2
  refine ext10 (and_lt hs) (df_lt hs) (fun i hi => ?_)
  rw [Nat.testBit_and, show 4294967295 - y = 2 ^ 32 - (y + 1) by omega, Nat.testBit_two_pow_sub_succ (by omega), df_bit hy hi, decide_eq_true (show i < 32 by omega), Bool.true_and]
theorem onI : ∀ m : Nat, m < 11 → (1 : Int32) <<< (I (m : Int) &&& 31) = I (2 ^ m : Nat) := by decide
theorem shbI : ∀ b : Nat, b < 2 → ∀ t : Nat, t < 10 → nI b <<< (I (t : Int) &&& 31) = nI (b * 2 ^ t) := by decide
theorem orI {x b t : Nat} (hx : x < 1024) (hb : b < 2) (ht : t < 10) : I (x : Int) ||| (I (b : Int) <<< (I (t : Int) &&& 31)) = I (x ||| (b * 2 ^ t) : Nat) := by
  have k : b * 2 ^ t ≤ 1 * 2 ^ 9 := Nat.mul_le_mul (by omega) (Nat.pow_le_pow_right (by omega) (by omega))
  rw [← I_nat x, ← I_nat b, shbI b hb t ht, or_nI (by omega) (by omega), I_nat]
/-! orders of a set -/
def pc5 (c : Nat) : Nat := c % 2 + c / 2 % 2 + c / 4 % 2 + c / 8 % 2 + c / 16 % 2
theorem pc5_dl : ∀ c : Nat, c < 32 → ∀ k : Nat, k < 5 → c.testBit k = true → pc5 (dl c k) + 1 = pc5 c ∧ dl c k < c := by decide
theorem pc5_0 : ∀ c : Nat, c < 32 → pc5 c = 0 → c = 0 := by decide
theorem pc5_le : ∀ c : Nat, c < 32 → pc5 c ≤ 5 := by decide
theorem bit_ex : ∀ c : Nat, c < 32 → c ≠ 0 → ∃ k, k < 5 ∧ c.testBit k = true := by decide
theorem dl32 {c k : Nat} (hc : c < 32) : dl c k < 32 := Nat.lt_of_le_of_lt Nat.and_le_left hc
def Pm (m : Nat) : Nat → List Nat → Prop
  | c, [] => c = 0
  | c, k :: l => k < m ∧ c.testBit k = true ∧ Pm m (dl c k) l
def cst (bt : Nat → Nat → Int) : Nat → List Nat → Int
  | _, [] => 0
  | x, y :: l => bt x y + cst bt y l
def crv (bt : Nat → Nat → Int) : Nat → List Nat → Int
  | _, [] => 0
  | x, y :: l => bt y x + crv bt y l
def c0 (bt : Nat → Nat → Int) : List Nat → Int
  | [] => 0
  | x :: l => cst bt x l
def cr0 (bt : Nat → Nat → Int) : List Nat → Int
  | [] => 0
  | x :: l => crv bt x l
section ORD
variable {bt : Nat → Nat → Int} {tm : Nat → Int} {m : Nat}
theorem dl_dl {c k x : Nat} (hc : c < 32) (hk : k < 5) (hx : x < 5) : dl (dl c k) x = dl (dl c x) k := by
  refine ext10 (dl_lt (dl_lt (by omega))) (dl_lt (dl_lt (by omega))) (fun i hi => ?_)
  rw [dl_bit (by omega) hi, dl_bit (by omega) hi, dl_bit (by omega) hi, dl_bit (by omega) hi]
  cases c.testBit i <;> simp [Bool.and_comm]
theorem dl_in {c k x : Nat} (hk : k < 5) (hx : x < 5) : (dl c k).testBit x = true ↔ (c.testBit x = true ∧ x ≠ k) := by
  rw [dl_bit (by omega) (by omega), Bool.and_eq_true, decide_eq_true_eq]
theorem Pm.snoc (hm : m ≤ 5) {x : Nat} : ∀ (l : List Nat) (c : Nat), c < 32 → (Pm m c (l ++ [x]) ↔ (x < m ∧ c.testBit x = true ∧ Pm m (dl c x) l)) := by
  intro l
  induction l with
  | nil => intro c _; exact Iff.rfl
  | cons k l ih =>
    intro c hc
    show (k < m ∧ c.testBit k = true ∧ Pm m (dl c k) (l ++ [x])) ↔ (x < m ∧ c.testBit x = true ∧ k < m ∧ (dl c x).testBit k = true ∧ Pm m (dl (dl c x) k) l)
    rw [ih (dl c k) (dl32 hc)]
    constructor
    · intro ⟨a1, a2, a3, a4, a5⟩
      have a4' := (dl_in (by omega) (by omega)).mp a4
      refine ⟨a3, a4'.1, a1, (dl_in (by omega) (by omega)).mpr ⟨a2, fun z => a4'.2 z.symm⟩, ?_⟩
      rw [dl_dl hc (by omega) (by omega)]; exact a5
    · intro ⟨a1, a2, a3, a4, a5⟩
      have a4' := (dl_in (by omega) (by omega)).mp a4
      refine ⟨a3, a4'.1, a1, (dl_in (by omega) (by omega)).mpr ⟨a2, fun z => a4'.2 z.symm⟩, ?_⟩
      rw [dl_dl hc (by omega) (by omega)]; exact a5
theorem Pm.rev (hm : m ≤ 5) : ∀ (l : List Nat) (c : Nat), c < 32 → Pm m c l → Pm m c l.reverse := by
  intro l
  induction l with
  | nil => intro c _ h; exact h
  | cons k l ih =>
    intro c hc h
    rw [List.reverse_cons]
    exact (Pm.snoc hm l.reverse c hc).mpr ⟨h.1, h.2.1, ih _ (dl32 hc) h.2.2⟩
theorem cst_snoc {y x : Nat} : ∀ (l : List Nat) (z : Nat), cst bt z (l ++ [y] ++ [x]) = cst bt z (l ++ [y]) + bt y x := by
  intro l
  induction l with
  | nil => intro z; show bt z y + (bt y x + 0) = bt z y + 0 + bt y x; omega
  | cons k l ih => intro z; show bt z k + cst bt k (l ++ [y] ++ [x]) = bt z k + cst bt k (l ++ [y]) + bt y x; rw [ih k]; omega
theorem c0_snoc {y x : Nat} (l : List Nat) : c0 bt (l ++ [y] ++ [x]) = c0 bt (l ++ [y]) + bt y x := by
  cases l with
  | nil => show bt y x + 0 = 0 + bt y x; omega
  | cons k l => exact cst_snoc l k
theorem crv_rev : ∀ (l : List Nat), cr0 bt l = c0 bt l.reverse := by
  intro l
  induction l with
  | nil => rfl
  | cons x l ih =>
    cases l with
    | nil => rfl
    | cons y l =>
      rw [List.reverse_cons, List.reverse_cons, c0_snoc]
      rw [List.reverse_cons] at ih
      rw [← ih]
      show bt y x + crv bt y l = crv bt y l + bt y x
      omega
theorem Pm.len (hm : m ≤ 5) : ∀ (l : List Nat) (c : Nat), c < 32 → Pm m c l → l.length = pc5 c := by
  intro l
  induction l with
  | nil =>
    intro c _ h
    have h : c = 0 := h
    rw [h]; rfl
  | cons k l ih =>
    intro c hc h
    have := ih _ (dl32 hc) h.2.2
    have := pc5_dl c hc k (by have := h.1; omega) h.2.1
    show l.length + 1 = pc5 c
    omega
theorem cst_rg (hb : ∀ x y, 0 ≤ bt x y ∧ bt x y ≤ 15) : ∀ (l : List Nat) (z : Nat), 0 ≤ cst bt z l ∧ cst bt z l ≤ 15 * (l.length : Int) := by
  intro l
  induction l with
  | nil => intro z; exact ⟨Int.le_refl 0, Int.le_refl 0⟩
  | cons k l ih =>
    intro z
    have := ih k; have := hb z k
    show 0 ≤ bt z k + cst bt k l ∧ bt z k + cst bt k l ≤ 15 * ((l.length + 1 : Nat) : Int)
    omega
theorem crv_rg (hb : ∀ x y, 0 ≤ bt x y ∧ bt x y ≤ 15) : ∀ (l : List Nat) (z : Nat), 0 ≤ crv bt z l ∧ crv bt z l ≤ 15 * (l.length : Int) := by
  intro l
  induction l with
  | nil => intro z; exact ⟨Int.le_refl 0, Int.le_refl 0⟩
  | cons k l ih =>
    intro z
    have := ih k; have := hb k z
    show 0 ≤ bt k z + crv bt k l ∧ bt k z + crv bt k l ≤ 15 * ((l.length + 1 : Nat) : Int)
    omega
/-- the cost of an order behind b -/
def wfb (bt : Nat → Nat → Int) (b : Option Nat) (l : List Nat) : Int := match b with
  | none => c0 bt l
  | some y => cst bt y l
def hbk (bt : Nat → Nat → Int) (b : Option Nat) (k : Nat) : Int := match b with
  | none => 0
  | some y => bt y k
theorem wfb_cons (b : Option Nat) (k : Nat) (l : List Nat) : wfb bt b (k :: l) = hbk bt b k + wfb bt (some k) l := by
  cases b with
  | none => show cst bt k l = 0 + cst bt k l; omega
  | some y => rfl
def tmS (tm : Nat → Int) (c : Nat) : Nat → Int
  | 0 => 0
  | j + 1 => tmS tm c j + if c.testBit j = true then tm j else 0
theorem tmS_dl {c k : Nat} (hk : k < 5) (hc : c.testBit k = true) : ∀ j, j ≤ 5 → tmS tm (dl c k) j + (if k < j then tm k else 0) = tmS tm c j := by
  intro j
  induction j with
  | zero => intro _; rw [if_neg (by omega)]; rfl
  | succ j ih =>
    intro hj
    have i := ih (by omega)
    show tmS tm (dl c k) j + (if (dl c k).testBit j = true then tm j else 0) + (if k < j + 1 then tm k else 0) = tmS tm c j + if c.testBit j = true then tm j else 0
    by_cases z : j = k
    · subst z
      rw [if_neg (fun y => ((dl_in hk hk).mp y).2 rfl), if_pos (by omega), if_pos hc]
      rw [if_neg (by omega)] at i
      omega
    · have e : ((dl c k).testBit j = true) ↔ (c.testBit j = true) := by rw [dl_in hk (by omega)]; exact ⟨fun y => y.1, fun y => ⟨y, z⟩⟩
      by_cases y : c.testBit j = true
      · rw [if_pos (e.mpr y), if_pos y]
        by_cases u : k < j
        · rw [if_pos u] at i; rw [if_pos (by omega)]; omega
        · rw [if_neg u] at i; rw [if_neg (by omega)]; omega
      · rw [if_neg (fun x => y (e.mp x)), if_neg y]
        by_cases u : k < j
        · rw [if_pos u] at i; rw [if_pos (by omega)]; omega
        · rw [if_neg u] at i; rw [if_neg (by omega)]; omega
theorem tmS_rg (ht : ∀ k, 0 ≤ tm k ∧ tm k ≤ 40) {c : Nat} : ∀ j : Nat, 0 ≤ tmS tm c j ∧ tmS tm c j ≤ 40 * (j : Int) := by
  intro j
  induction j with
  | zero => exact ⟨Int.le_refl 0, Int.le_refl 0⟩
  | succ j ih =>
    have := ht j
    show 0 ≤ tmS tm c j + (if c.testBit j = true then tm j else 0) ∧ tmS tm c j + (if c.testBit j = true then tm j else 0) ≤ 40 * ((j + 1 : Nat) : Int)
    split <;> omega
/-- x is the least time of the set c behind b -/
def GV (bt : Nat → Nat → Int) (tm : Nat → Int) (m c : Nat) (b : Option Nat) (x : Int) : Prop := (∀ l, Pm m c l → x ≤ wfb bt b l + tmS tm c m) ∧ ∃ l, Pm m c l ∧ x = wfb bt b l + tmS tm c m
theorem GV.un {c : Nat} {b : Option Nat} {x y : Int} (h : GV bt tm m c b x) (h' : GV bt tm m c b y) : x = y := by
  obtain ⟨l, a1, a2⟩ := h.2
  obtain ⟨l', b1, b2⟩ := h'.2
  have := h.1 l' b1; have := h'.1 l a1
  omega
theorem GV.rg (hm : m ≤ 5) (hb : ∀ x y, 0 ≤ bt x y ∧ bt x y ≤ 15) (ht : ∀ k, 0 ≤ tm k ∧ tm k ≤ 40) {c : Nat} (hc : c < 32) {b : Option Nat} {x : Int} (h : GV bt tm m c b x) : 0 ≤ x ∧ x ≤ 1000 := by
  obtain ⟨l, a1, a2⟩ := h.2
  have ln := Pm.len hm l c hc a1
  have p := pc5_le c hc
  have t := tmS_rg ht (c := c) m
  have w : 0 ≤ wfb bt b l ∧ wfb bt b l ≤ 15 * (l.length : Int) := by
    cases b with
    | some y => exact cst_rg hb l y
    | none =>
      cases l with
      | nil => exact ⟨Int.le_refl 0, Int.le_refl 0⟩
      | cons k l =>
        have := cst_rg hb l k
        show 0 ≤ cst bt k l ∧ cst bt k l ≤ 15 * ((l.length + 1 : Nat) : Int)
        omega
  omega
theorem GV.zero {b : Option Nat} : GV bt tm m 0 b 0 := by
  have tz : ∀ j, tmS tm 0 j = 0 := by
    intro j
    induction j with
    | zero => rfl
    | succ j ih => show tmS tm 0 j + _ = 0; rw [ih, if_neg (by rw [Nat.zero_testBit]; decide)]; rfl
  have wn : wfb bt b [] = 0 := by cases b <;> rfl
  refine ⟨fun l hl => ?_, [], rfl, by rw [tz, wn]; rfl⟩
  cases l with
  | nil => rw [tz, wn]; omega
  | cons k l => have := hl.2.1; rw [Nat.zero_testBit] at this; exact absurd this (by decide)
/-- from the sets with one less -/
theorem GV.step (hm : m ≤ 5) {c : Nat} (hc : c < 32) (h0 : c ≠ 0) {b : Option Nat} {x : Int} {f : Nat → Int} (hf : ∀ k, k < m → c.testBit k = true → GV bt tm m (dl c k) (some k) (f k)) (h1 : ∀ k, k < m → c.testBit k = true → x ≤ hbk bt b k + tm k + f k) (h2 : ∃ k, k < m ∧ c.testBit k = true ∧ x = hbk bt b k + tm k + f k) : GV bt tm m c b x := by
  refine ⟨fun l hl => ?_, ?_⟩
  · cases l with
    | nil => exact absurd hl h0
    | cons k l =>
      obtain ⟨a1, a2, a3⟩ := hl
      have t := tmS_dl (tm := tm) (c := c) (k := k) (by omega) a2 m hm
      rw [if_pos a1] at t
      have := (hf k a1 a2).1 l a3
      have := h1 k a1 a2
      rw [wfb_cons]
      omega
  · obtain ⟨k, a1, a2, a3⟩ := h2
    obtain ⟨l, b1, b2⟩ := (hf k a1 a2).2
    have t := tmS_dl (tm := tm) (c := c) (k := k) (by omega) a2 m hm
    rw [if_pos a1] at t
    exact ⟨k :: l, ⟨a1, a2, b1⟩, by rw [wfb_cons]; omega⟩
/-- the class's least way between, i being the last -/
def EV (bt : Nat → Nat → Int) (able : Nat → Prop) (m c i : Nat) (x : Int) : Prop := ((∀ k, k < m → c.testBit k = true → able k) → (∀ r, Pm m c (i :: r) → x ≤ crv bt i r) ∧ ∃ r, Pm m c (i :: r) ∧ x = crv bt i r) ∧ (¬ (∀ k, k < m → c.testBit k = true → able k) → x = 1000000)
theorem EV.rg (hm : m ≤ 5) (hb : ∀ x y, 0 ≤ bt x y ∧ bt x y ≤ 15) {able : Nat → Prop} {c i : Nat} (hc : c < 32) {x : Int} (h : EV bt able m c i x) : 0 ≤ x ∧ x ≤ 1000000 := by
  by_cases z : ∀ k, k < m → c.testBit k = true → able k
  · obtain ⟨_, r, a1, a2⟩ := h.1 z
    have ln := Pm.len hm (i :: r) c hc a1
    have p := pc5_le c hc
    have := crv_rg hb r i
    have ln : r.length + 1 = pc5 c := ln
    omega
  · have := h.2 z; omega
/-- the class's time of a set -/
def TV (bt : Nat → Nat → Int) (tm : Nat → Int) (able : Nat → Prop) (m c : Nat) (x : Int) : Prop := ((∀ k, k < m → c.testBit k = true → able k) → GV bt tm m c none x) ∧ (¬ (∀ k, k < m → c.testBit k = true → able k) → x = 1000000)
end ORD
