/-! whole numbers for Int32: I is a map of rings -/
def I (z : Int) : Int32 := Int32.ofInt z
theorem I_toInt (x : Int32) : I x.toInt = x := Int32.ofInt_toInt x
theorem toInt_I {z : Int} (h : -2147483648 ≤ z) (h' : z < 2147483648) : (I z).toInt = z := Int32.toInt_ofInt_of_le h h'
theorem I_add (a b : Int) : I a + I b = I (a + b) := (Int32.ofInt_add a b).symm
theorem I_sub (a b : Int) : I a - I b = I (a - b) := (Int32.ofInt_sub a b).symm
theorem I_mul (a b : Int) : I a * I b = I (a * b) := (Int32.ofInt_mul a b).symm
theorem I_neg (a : Int) : -I a = I (-a) := (Int32.ofInt_neg a).symm
theorem I_lit (n : Nat) : (OfNat.ofNat n : Int32) = I (OfNat.ofNat n : Nat) := rfl
theorem I_nat (n : Nat) : nI n = I n := rfl
theorem I_0 : (0 : Int32) = I 0 := rfl
theorem I_1 : (1 : Int32) = I 1 := rfl
theorem I_m1 : (-1 : Int32) = I (-1) := rfl
theorem I_m2 : (-2 : Int32) = I (-2) := rfl
def Rg (z : Int) : Prop := -2147483648 ≤ z ∧ z < 2147483648
theorem I_lt {a b : Int} (ha : Rg a) (hb : Rg b) : I a < I b ↔ a < b := by rw [Int32.lt_iff_toInt_lt, toInt_I ha.1 ha.2, toInt_I hb.1 hb.2]
theorem I_le {a b : Int} (ha : Rg a) (hb : Rg b) : I a ≤ I b ↔ a ≤ b := by rw [Int32.le_iff_toInt_le, toInt_I ha.1 ha.2, toInt_I hb.1 hb.2]
theorem I_eq {a b : Int} (ha : Rg a) (hb : Rg b) : I a = I b ↔ a = b := by rw [← Int32.toInt_inj, toInt_I ha.1 ha.2, toInt_I hb.1 hb.2]
theorem I_rg (x : Int32) : Rg x.toInt := ⟨Int32.le_toInt x, Int32.toInt_lt x⟩
theorem I_cl {z : Int} (h : 0 ≤ z) (h' : z < 2147483648) : (I z).toNatClampNeg = z.toNat := Int32.toNatClampNeg_ofInt_of_le (by omega) h'
theorem I_in {z : Int} {n : Nat} (hz : Rg z) : vp_in (I z) n ↔ 0 ≤ z ∧ z < n := by rw [vp_in_iff, toInt_I hz.1 hz.2]
theorem I_div {a b : Int} (ha : Rg a) (hb : Rg b) (hn : Rg (a.tdiv b)) : I a / I b = I (a.tdiv b) := by
  apply Int32.toInt_inj.mp
  rw [Int32.toInt_div, toInt_I ha.1 ha.2, toInt_I hb.1 hb.2, toInt_I hn.1 hn.2]
  exact Int.bmod_eq_of_le (by have := hn.1; omega) (by have := hn.2; omega)
theorem rg_of {z : Int} (h : -2147483648 ≤ z) (h' : z < 2147483648) : Rg z := ⟨h, h'⟩
/-- places of a pose -/
def plc (p : Int) (j : Nat) : Int := p / 16 ^ j % 16
theorem plc_rg (p : Int) (j : Nat) : 0 ≤ plc p j ∧ plc p j < 16 := by unfold plc; omega
theorem plc_nat {n j : Nat} : plc n j = ((n / 16 ^ j % 16 : Nat) : Int) := by unfold plc; push_cast; rfl
theorem place_I {p : Int} {j : Nat} (h0 : 0 ≤ p) (h1 : p < 2147483648) (hj : j < 3) : (I p >>> ((4 * I j) &&& 31)) &&& 15 = I (plc p j) := by
  obtain ⟨n, rfl⟩ : ∃ n : Nat, p = n := ⟨p.toNat, by omega⟩
  rw [plc_nat, ← I_nat, ← I_nat, ← I_nat]
  have hn : n < 2 ^ 31 := by omega
  match j, hj with
  | 0, _ => rw [pk_shrN hn _ 0 (by decide), pk_andN (by omega) 4 (by decide)]
  | 1, _ => rw [pk_shrN hn _ 4 (by decide), pk_andN (by omega) 4 (by decide)]
  | 2, _ => rw [pk_shrN hn _ 8 (by decide), pk_andN (by omega) 4 (by decide)]
