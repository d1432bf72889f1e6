/-! the reference: poses beside a pose, by their number -/
def bsd (A : Nat → Nat → Int) : Nat → Nat
  | 0 => 1
  | m + 1 => bsd A m * (2 * A 4 m + 1).toNat
def dgk (A : Nat → Nat → Int) (k j : Nat) : Nat := k / bsd A j % (2 * A 4 j + 1).toNat
def plk (A : Nat → Nat → Int) (p k j : Nat) : Int := plc p j - A 4 j + dgk A k j
def okb (A : Nat → Nat → Int) (p k : Nat) : Prop := ∀ j, j < 3 → A 2 j ≤ plk A p k j ∧ plk A p k j ≤ A 3 j
def pok (A : Nat → Nat → Int) (p k : Nat) : Nat := (plk A p k 0 + 16 * plk A p k 1 + 256 * plk A p k 2).toNat
section BSD
variable {A : Nat → Nat → Int} {G : Nat → Int}
theorem c_rg (hw : ArmWf A) {j : Nat} (hj : j < 3) : 1 ≤ (2 * A 4 j + 1).toNat ∧ (2 * A 4 j + 1).toNat ≤ 7 ∧ (((2 * A 4 j + 1).toNat : Nat) : Int) = 2 * A 4 j + 1 := by
  have w := hw.2.1 j hj
  omega
theorem bsd_rg (hw : ArmWf A) : ∀ m, m ≤ 3 → 1 ≤ bsd A m ∧ bsd A m ≤ 7 ^ m := by
  intro m
  induction m with
  | zero => intro _; exact ⟨Nat.le_refl _, Nat.le_refl _⟩
  | succ m ih =>
    intro hm
    have i := ih (by omega)
    have c := c_rg hw (j := m) (by omega)
    refine ⟨Nat.mul_pos (by omega) (by omega), ?_⟩
    show bsd A m * (2 * A 4 m + 1).toNat ≤ 7 ^ m * 7
    exact Nat.mul_le_mul i.2 c.2.1
theorem bsd_343 (hw : ArmWf A) {m : Nat} (hm : m ≤ 3) : 1 ≤ bsd A m ∧ bsd A m ≤ 343 := by
  have h := bsd_rg hw m hm
  have : 7 ^ m ≤ 7 ^ 3 := Nat.pow_le_pow_right (by omega) hm
  have : (7 : Nat) ^ 3 = 343 := by decide
  omega
/-- more joints than there are add nothing -/
theorem bsd_top (hw : ArmWf A) {J : Nat} (hJ : A 0 2 = J) : bsd A 3 = bsd A J := by
  have w0 := hw.1
  have z : ∀ j, j < 3 → J ≤ j → (2 * A 4 j + 1).toNat = 1 := fun j hj hl => by
    have := hw.2.2.2.1 j hj (by omega); omega
  have h3 : J = 0 ∨ J = 1 ∨ J = 2 ∨ J = 3 := by omega
  rcases h3 with rfl | rfl | rfl | rfl
  · show 1 * (2 * A 4 0 + 1).toNat * (2 * A 4 1 + 1).toNat * (2 * A 4 2 + 1).toNat = 1
    rw [z 0 (by omega) (by omega), z 1 (by omega) (by omega), z 2 (by omega) (by omega)]
  · show 1 * (2 * A 4 0 + 1).toNat * (2 * A 4 1 + 1).toNat * (2 * A 4 2 + 1).toNat = 1 * (2 * A 4 0 + 1).toNat
    rw [z 1 (by omega) (by omega), z 2 (by omega) (by omega)]; omega
  · show 1 * (2 * A 4 0 + 1).toNat * (2 * A 4 1 + 1).toNat * (2 * A 4 2 + 1).toNat = 1 * (2 * A 4 0 + 1).toNat * (2 * A 4 1 + 1).toNat
    rw [z 2 (by omega) (by omega)]; omega
  · rfl
theorem dg_lt (hw : ArmWf A) (k : Nat) {j : Nat} (hj : j < 3) : (dgk A k j : Int) ≤ 2 * A 4 j := by
  have c := c_rg hw hj
  have : dgk A k j < (2 * A 4 j + 1).toNat := Nat.mod_lt _ (by omega)
  omega
theorem dg_eq (A : Nat → Nat → Int) (k j : Nat) : (k % bsd A (j + 1)) / bsd A j = dgk A k j := Nat.mod_mul_right_div_self k (bsd A j) _
theorem md_eq (A : Nat → Nat → Int) (k j : Nat) : (k % bsd A (j + 1)) % bsd A j = k % bsd A j := Nat.mod_mod_of_dvd k (Nat.dvd_mul_right _ _)
theorem pok_pl (hw : ArmWf A) {p k : Nat} (h : okb A p k) : pok A p k < 4096 ∧ ∀ j, j < 3 → plc (pok A p k) j = plk A p k j := by
  have h0 := h 0 (by omega); have h1 := h 1 (by omega); have h2 := h 2 (by omega)
  have w0 := hw.2.1 0 (by omega); have w1 := hw.2.1 1 (by omega); have w2 := hw.2.1 2 (by omega)
  have e : ((pok A p k : Nat) : Int) = plk A p k 0 + 16 * plk A p k 1 + 256 * plk A p k 2 := by unfold pok; omega
  have m := plc_mk (x := plk A p k 0) (y := plk A p k 1) (z := plk A p k 2) (by omega) (by omega) (by omega)
  refine ⟨by omega, fun j hj => ?_⟩
  rw [e]
  match j, hj with
  | 0, _ => exact m.1
  | 1, _ => exact m.2.1
  | 2, _ => exact m.2.2
theorem pok_adj (hw : ArmWf A) {p k : Nat} (h : okb A p k) : adj A p (pok A p k) := by
  have m := pok_pl hw h
  refine ⟨⟨by omega, by omega, fun j hj => ?_⟩, fun j hj => ?_⟩
  · rw [m.2 j hj]; exact h j hj
  · rw [m.2 j hj]
    have d := dg_lt hw k hj
    have w := hw.2.1 j hj
    unfold plk
    omega
/-- three digits -/
theorem dg3 (hw : ArmWf A) {d0 d1 d2 : Nat} (h0 : (d0 : Int) ≤ 2 * A 4 0) (h1 : (d1 : Int) ≤ 2 * A 4 1) (h2 : (d2 : Int) ≤ 2 * A 4 2) : ∃ k, k < bsd A 3 ∧ dgk A k 0 = d0 ∧ dgk A k 1 = d1 ∧ dgk A k 2 = d2 := by
  have c0 := c_rg hw (j := 0) (by omega); have c1 := c_rg hw (j := 1) (by omega); have c2 := c_rg hw (j := 2) (by omega)
  obtain ⟨x0, e0⟩ : ∃ x, x = (2 * A 4 0 + 1).toNat := ⟨_, rfl⟩
  obtain ⟨x1, e1⟩ : ∃ x, x = (2 * A 4 1 + 1).toNat := ⟨_, rfl⟩
  obtain ⟨x2, e2⟩ : ∃ x, x = (2 * A 4 2 + 1).toNat := ⟨_, rfl⟩
  have b1 : bsd A 1 = x0 := by show 1 * (2 * A 4 0 + 1).toNat = x0; rw [← e0, Nat.one_mul]
  have b2 : bsd A 2 = x0 * x1 := by show bsd A 1 * (2 * A 4 1 + 1).toNat = _; rw [b1, ← e1]
  have b3 : bsd A 3 = x0 * x1 * x2 := by show bsd A 2 * (2 * A 4 2 + 1).toNat = _; rw [b2, ← e2]
  rw [← e0] at c0; rw [← e1] at c1; rw [← e2] at c2
  have y1 : (d1 + x1 * d2) / x1 = d2 := by rw [Nat.add_mul_div_left _ _ (by omega), Nat.div_eq_of_lt (by omega), Nat.zero_add]
  have y2 : (d1 + x1 * d2) % x1 = d1 := by rw [Nat.add_mul_mod_self_left, Nat.mod_eq_of_lt (by omega)]
  have z1 : (d0 + x0 * (d1 + x1 * d2)) / x0 = d1 + x1 * d2 := by rw [Nat.add_mul_div_left _ _ (by omega), Nat.div_eq_of_lt (by omega), Nat.zero_add]
  have z2 : (d0 + x0 * (d1 + x1 * d2)) % x0 = d0 := by rw [Nat.add_mul_mod_self_left, Nat.mod_eq_of_lt (by omega)]
  refine ⟨d0 + x0 * (d1 + x1 * d2), ?_, ?_, ?_, ?_⟩
  · rw [b3]
    have a1 : d1 + x1 * d2 < x1 * x2 := by
      have : x1 * (d2 + 1) ≤ x1 * x2 := Nat.mul_le_mul_left _ (by omega)
      rw [Nat.mul_add, Nat.mul_one] at this; omega
    have a2 : x0 * (d1 + x1 * d2 + 1) ≤ x0 * (x1 * x2) := Nat.mul_le_mul_left _ (by omega)
    rw [Nat.mul_add x0 (d1 + x1 * d2) 1, Nat.mul_one] at a2
    rw [Nat.mul_assoc]; omega
  · show _ / 1 % (2 * A 4 0 + 1).toNat = d0
    rw [← e0, Nat.div_one, z2]
  · show _ / bsd A 1 % (2 * A 4 1 + 1).toNat = d1
    rw [b1, ← e1, z1, y2]
  · show _ / bsd A 2 % (2 * A 4 2 + 1).toNat = d2
    rw [b2, ← e2, ← Nat.div_div_eq_div_mul, z1, y1, Nat.mod_eq_of_lt (by omega)]
theorem adj_pok (hw : ArmWf A) {p q : Nat} (h : adj A p q) : ∃ k, k < bsd A 3 ∧ okb A p k ∧ pok A p k = q := by
  have b0 := h.2 0 (by omega); have b1 := h.2 1 (by omega); have b2 := h.2 2 (by omega)
  obtain ⟨k, hk, e0, e1, e2⟩ := dg3 (A := A) hw (d0 := (plc q 0 - plc p 0 + A 4 0).toNat) (d1 := (plc q 1 - plc p 1 + A 4 1).toNat) (d2 := (plc q 2 - plc p 2 + A 4 2).toNat) (by omega) (by omega) (by omega)
  have l : ∀ j, j < 3 → plk A p k j = plc q j := fun j hj => by
    unfold plk
    match j, hj with
    | 0, _ => rw [e0]; omega
    | 1, _ => rw [e1]; omega
    | 2, _ => rw [e2]; omega
  have ok : okb A p k := fun j hj => by rw [l j hj]; exact h.1.2.2 j hj
  refine ⟨k, hk, ok, ?_⟩
  have m := pok_pl hw ok
  exact pl_eq m.1 (adj_lt h) (fun j hj => by rw [m.2 j hj, l j hj])
theorem lexi {a a' c y y' : Nat} (ha : a < c) (ha' : a' < c) (h : a + c * y < a' + c * y') : y < y' ∨ (y = y' ∧ a < a') := by
  by_cases z : y < y'
  · exact Or.inl z
  · by_cases e : y = y'
    · right; subst e; exact ⟨rfl, by omega⟩
    · have : c * (y' + 1) ≤ c * y := Nat.mul_le_mul_left _ (by omega)
      rw [Nat.mul_add, Nat.mul_one] at this; omega
/-- a greater number, a greater pose -/
theorem pok_mono (hw : ArmWf A) {p k k' : Nat} (hk : k < bsd A 3) (hk' : k' < bsd A 3) (ho : okb A p k) (ho' : okb A p k') (h : k < k') : pok A p k < pok A p k' := by
  have c0 := c_rg hw (j := 0) (by omega); have c1 := c_rg hw (j := 1) (by omega); have c2 := c_rg hw (j := 2) (by omega)
  obtain ⟨x0, e0⟩ : ∃ x, x = (2 * A 4 0 + 1).toNat := ⟨_, rfl⟩
  obtain ⟨x1, e1⟩ : ∃ x, x = (2 * A 4 1 + 1).toNat := ⟨_, rfl⟩
  obtain ⟨x2, e2⟩ : ∃ x, x = (2 * A 4 2 + 1).toNat := ⟨_, rfl⟩
  have b1 : bsd A 1 = x0 := by show 1 * (2 * A 4 0 + 1).toNat = x0; rw [← e0, Nat.one_mul]
  have b2 : bsd A 2 = x0 * x1 := by show bsd A 1 * (2 * A 4 1 + 1).toNat = _; rw [b1, ← e1]
  have b3 : bsd A 3 = x0 * x1 * x2 := by show bsd A 2 * (2 * A 4 2 + 1).toNat = _; rw [b2, ← e2]
  rw [← e0] at c0; rw [← e1] at c1; rw [← e2] at c2
  have dec : ∀ i, i < bsd A 3 → dgk A i 0 = i % x0 ∧ dgk A i 1 = i / x0 % x1 ∧ dgk A i 2 = i / x0 / x1 := fun i hi => by
    refine ⟨?_, ?_, ?_⟩
    · show _ / 1 % (2 * A 4 0 + 1).toNat = _; rw [← e0, Nat.div_one]
    · show _ / bsd A 1 % (2 * A 4 1 + 1).toNat = _; rw [b1, ← e1]
    · show _ / bsd A 2 % (2 * A 4 2 + 1).toNat = _
      rw [b2, ← e2, ← Nat.div_div_eq_div_mul]
      refine Nat.mod_eq_of_lt ?_
      rw [Nat.div_div_eq_div_mul]
      refine Nat.div_lt_of_lt_mul ?_
      rw [b3] at hi; exact hi
  obtain ⟨f0, f1, f2⟩ := dec k hk
  obtain ⟨g0, g1, g2⟩ := dec k' hk'
  have l1 := lexi (a := k % x0) (a' := k' % x0) (c := x0) (y := k / x0) (y' := k' / x0) (Nat.mod_lt _ (by omega)) (Nat.mod_lt _ (by omega)) (by rw [Nat.mod_add_div, Nat.mod_add_div]; exact h)
  have m := pok_pl hw ho; have m' := pok_pl hw ho'
  have i0 := ho 0 (by omega); have i1 := ho 1 (by omega); have i2 := ho 2 (by omega)
  have j0 := ho' 0 (by omega); have j1 := ho' 1 (by omega); have j2 := ho' 2 (by omega)
  have w0 := hw.2.1 0 (by omega); have w1 := hw.2.1 1 (by omega); have w2 := hw.2.1 2 (by omega)
  have t : ∀ i j, plk A p i j = plc p j - A 4 j + dgk A i j := fun _ _ => rfl
  have u := t k 0; have u1 := t k 1; have u2 := t k 2
  have v := t k' 0; have v1 := t k' 1; have v2 := t k' 2
  have ek : ((pok A p k : Nat) : Int) = plk A p k 0 + 16 * plk A p k 1 + 256 * plk A p k 2 := by unfold pok; omega
  have ek' : ((pok A p k' : Nat) : Int) = plk A p k' 0 + 16 * plk A p k' 1 + 256 * plk A p k' 2 := by unfold pok; omega
  rcases l1 with l1 | ⟨l1, l1'⟩
  · have l2 := lexi (a := k / x0 % x1) (a' := k' / x0 % x1) (c := x1) (y := k / x0 / x1) (y' := k' / x0 / x1) (Nat.mod_lt _ (by omega)) (Nat.mod_lt _ (by omega)) (by rw [Nat.mod_add_div, Nat.mod_add_div]; exact l1)
    omega
  · have s1 : dgk A k 1 = dgk A k' 1 := by rw [f1, g1, l1]
    have s2 : dgk A k 2 = dgk A k' 2 := by rw [f2, g2, l1]
    omega
/-- the least of them, by their numbers -/
theorem mnk_eq (hw : ArmWf A) {p : Nat} : mnF (okb A p) (fun k => wyb p (pok A p k) + G (pok A p k)) (bsd A 3) = stW A G p := by
  refine mnF_eq (fun k hk ho => ?_) (mnF_1M _) ?_
  · have a := pok_adj hw ho
    exact mnF_le (P := fun q => adj A p q) (g := fun q => wyb p q + G q) 4096 _ (adj_lt a) a
  · by_cases z : stW A G p < 1000000
    · right
      obtain ⟨q, a, b, c⟩ := mnF_at (P := fun q => adj A p q) (g := fun q => wyb p q + G q) 4096 z
      obtain ⟨k, h1, h2, h3⟩ := adj_pok hw b
      refine ⟨k, h1, h2, ?_⟩
      show wyb p (pok A p k) + G (pok A p k) ≤ stW A G p
      rw [h3]
      have c : wyb p q + G q = stW A G p := c
      omega
    · left
      have := mnF_1M (P := fun q => adj A p q) (g := fun q => wyb p q + G q) 4096
      have this : stW A G p ≤ 1000000 := this
      omega
/-- the first of them that has the least -/
theorem fsk_eq (hw : ArmWf A) {p k : Nat} (h0 : stW A G p < 1000000) (hk : k < bsd A 3) (ho : okb A p k) (h1 : wyb p (pok A p k) + G (pok A p k) = stW A G p) (h2 : ∀ k', k' < k → okb A p k' → wyb p (pok A p k') + G (pok A p k') ≠ stW A G p) : fsF (fun q => adj A p q) (fun q => wyb p q + G q) 4096 = pok A p k := by
  have a := pok_adj hw ho
  refine fsF_un h0 (adj_lt a) a h1 (fun q' hq' ha' he => ?_)
  obtain ⟨k', b1, b2, b3⟩ := adj_pok hw ha'
  have he : wyb p q' + G q' = stW A G p := he
  by_cases z : k' < k
  · exact h2 k' z b2 (by rw [b3]; exact he)
  · by_cases y : k' = k
    · rw [y] at b3; omega
    · have := pok_mono hw hk b1 ho b2 (by omega); omega
end BSD
/-! the reference's leaves of follow -/
theorem or_up {V q : Int} {j : Nat} (hj : j < 3) (h0 : 0 ≤ V) (h1 : V < 4096) (h2 : V % 16 ^ (j + 1) = 0) (g0 : 0 ≤ q) (g1 : q < 16) : I V ||| (I q <<< ((4 * I j) &&& 31)) = I (V + q * 16 ^ j) := by
  obtain ⟨a, rfl⟩ : ∃ a : Nat, V = a := ⟨V.toNat, by omega⟩
  obtain ⟨m, rfl⟩ : ∃ m : Nat, q = m := ⟨q.toNat, by omega⟩
  rw [← I_nat a, ← I_nat m]
  have S := shl_all m (by omega)
  have hj3 : j = 0 ∨ j = 1 ∨ j = 2 := by omega
  rcases hj3 with rfl | rfl | rfl
  · have h2 : (a : Int) % 16 = 0 := by rw [show (16 : Int) ^ (0 + 1) = 16 from rfl] at h2; exact h2
    have O := orm (a / 256) (by omega) (a / 16 % 16) (by omega) m (by omega)
    rw [S.1, or_nI (by omega) (by omega), show a ||| m = a + m by have := O.1; rw [show 16 * (16 * (a / 256) + a / 16 % 16) = a by omega] at this; exact this, I_nat, show (16 : Int) ^ 0 = 1 from rfl]
    congr 1
    omega
  · have h2 : (a : Int) % 256 = 0 := by rw [show (16 : Int) ^ (1 + 1) = 256 from rfl] at h2; exact h2
    have O := orm (a / 256) (by omega) 0 (by omega) m (by omega)
    rw [S.2.1, or_nI (by omega) (by omega), show a ||| (16 * m) = a + 16 * m by have := O.2.1; rw [show 256 * (a / 256) + 0 = a by omega] at this; exact this, I_nat, show (16 : Int) ^ 1 = 16 from rfl]
    congr 1
    omega
  · have h2 : (a : Int) % 4096 = 0 := by rw [show (16 : Int) ^ (2 + 1) = 4096 from rfl] at h2; exact h2
    have O := orm 0 (by omega) 0 (by omega) m (by omega)
    have az : a = 0 := by omega
    subst az
    rw [S.2.2, or_nI (by omega) (by omega), show 0 ||| (256 * m) = 0 + 256 * m by have := O.2.2; rw [show 16 * 0 + 0 = 0 by omega] at this; exact this, I_nat, show (16 : Int) ^ 2 = 256 from rfl]
    congr 1
    omega
section MBS
variable {l : Launch} {σ σ' : Sg} {V : Nat → Nat → Nat → Int} {a p k : Nat}
theorem m_besides {K : Int32 → Sg → Prop} {m : Nat} (hM : Mp σ) (hA : MArms σ V) (ha : a < 2) (hw : ArmWf (V a)) (hm : m ≤ 3) (hK : K (I (bsd (V a) m : Nat)) σ) : Con l mX12_besides [.inr 82, .inl (I (a : Nat)), .inl (I (m : Nat))] σ (PI K) := by
  have F : ∀ j, j ≤ m → GW l mX12_besides 5 [(0, .inr 82), (1, .inl (I (a : Nat))), (2, .inl (I (m : Nat))), (3, .inl (I (bsd (V a) j : Nat))), (4, .inl (I (j : Nat)))] [] σ 0 0 (PI K) := by
    refine lp ?_ ?_
    · exact gX12_besides_5 ⟨fun _ => hK, fun q => absurd ((I_le ⟨by omega, by omega⟩ ⟨by omega, by omega⟩).mpr (by omega)) q⟩
    · intro j hj ih
      refine gX12_besides_5 ⟨fun q => ?_, fun _ => ⟨hM.ob, ?_⟩⟩
      · rw [I_le ⟨by omega, by omega⟩ ⟨by omega, by omega⟩] at q; omega
      have c := c_rg hw (j := j) (by omega)
      rw [ix3]
      refine ⟨hM.a11 (by omega) (by omega), ?_⟩
      rw [hA.r4 hM ha (by omega), show (2 : Int32) = I 2 from rfl, I_1, I_mul, I_add, I_mul, I_add]
      have e : ((bsd (V a) j : Nat) : Int) * (2 * V a 4 j + 1) = ((bsd (V a) (j + 1) : Nat) : Int) := by
        show _ = ((bsd (V a) j * (2 * V a 4 j + 1).toNat : Nat) : Int)
        rw [← c.2.2]; push_cast; rfl
      rw [e]; exact ih
  exact eX12_besides (F 0 (by omega))
/-- the places from joint i on -/
def pov (A : Nat → Nat → Int) (p k : Nat) : Nat → Int
  | 0 => plk A p k 0 + 16 * plk A p k 1 + 256 * plk A p k 2
  | 1 => 16 * plk A p k 1 + 256 * plk A p k 2
  | 2 => 256 * plk A p k 2
  | _ => 0
theorem m_beside {K : Int32 → Sg → Prop} (hM : Mp σ) (hA : MArms σ V) (ha : a < 2) (hw : ArmWf (V a)) (hp : isPo (V a) (p : Nat)) (hk : k < bsd (V a) 3) (h1 : okb (V a) p k → K (I (pok (V a) p k : Nat)) σ) (h0 : ¬ okb (V a) p k → K (-1) σ) : Con l mX12_beside [.inr 82, .inl (I (a : Nat)), .inl (I (p : Nat)), .inl (I (k : Nat))] σ (PI K) := by
  have p0 := hp.1; have p4 := hp.2.1
  have w0 := hw.1
  have b3 := bsd_343 hw (m := 3) (by omega)
  obtain ⟨J, hJ⟩ : ∃ J : Nat, V a 0 2 = J := ⟨(V a 0 2).toNat, by omega⟩
  have top := bsd_top hw hJ
  -- joints that there are not
  have zer : ∀ j, j < 3 → J ≤ j → plk (V a) p k j = 0 ∧ (V a 2 j ≤ plk (V a) p k j ∧ plk (V a) p k j ≤ V a 3 j) := fun j hj hl => by
    have w := hw.2.2.2.1 j hj (by omega)
    have q := hp.2.2 j hj
    have r := plc_rg p j
    have d := dg_lt hw k hj
    unfold plk
    omega
  have F : ∀ i, i ≤ J → (∀ j, i ≤ j → j < 3 → V a 2 j ≤ plk (V a) p k j ∧ plk (V a) p k j ≤ V a 3 j) → GW l mX12_beside 16 [(0, .inr 82), (1, .inl (I (a : Nat))), (2, .inl (I (p : Nat))), (3, .inl (I (k : Nat))), (4, .inl (I ((k % bsd (V a) i : Nat) : Int))), (5, .inl (I (pov (V a) p k i))), (6, .inl (I ((i : Int) - 1)))] [] σ 0 0 (PI K) := by
    intro i
    induction i with
    | zero =>
      intro _ hd
      have ok : okb (V a) p k := fun j hj => hd j (by omega) hj
      refine gX12_beside_16 ⟨fun _ => ?_, fun q => absurd ?_ q⟩
      · have h := h1 ok
        have m := pok_pl hw ok
        have e : ((pok (V a) p k : Nat) : Int) = pov (V a) p k 0 := by
          have i0 := ok 0 (by omega); have i1 := ok 1 (by omega); have i2 := ok 2 (by omega)
          have x0 := hw.2.1 0 (by omega); have x1 := hw.2.1 1 (by omega); have x2 := hw.2.1 2 (by omega)
          show ((plk (V a) p k 0 + 16 * plk (V a) p k 1 + 256 * plk (V a) p k 2).toNat : Int) = plk (V a) p k 0 + 16 * plk (V a) p k 1 + 256 * plk (V a) p k 2
          omega
        rw [e] at h; exact h
      · rw [I_0]; exact (I_lt ⟨by omega, by omega⟩ ⟨by omega, by omega⟩).mpr (by omega)
    | succ j ih =>
      intro hi hd
      have hj : j < 3 := by omega
      have bj := bsd_343 hw (m := j) (by omega)
      have w := hw.2.1 j hj
      have r := plc_rg p j
      have d := dg_lt hw k hj
      have md : k % bsd (V a) (j + 1) ≤ k := Nat.mod_le _ _
      rw [show ((j + 1 : Nat) : Int) - 1 = (j : Int) by omega]
      refine gX12_beside_16 ⟨fun q => ?_, fun _ => ⟨hM.ob, ?_⟩⟩
      · rw [I_0, I_lt ⟨by omega, by omega⟩ ⟨by omega, by omega⟩] at q; omega
      rw [ix3]
      refine ⟨hM.a11 (by omega) (by omega), q_placeOfM p0 (by omega) hj (m_besides hM hA ha hw (by omega) ⟨?_, m_besides hM hA ha hw (by omega) ⟨?_, hM.a9 (by omega) (by omega), hM.a10 (by omega) (by omega), ?_⟩⟩)⟩
      · rw [I_0, I_eq ⟨by omega, by omega⟩ ⟨by omega, by omega⟩]; omega
      · rw [I_0, I_eq ⟨by omega, by omega⟩ ⟨by omega, by omega⟩]; omega
      have tq : ((k % bsd (V a) (j + 1) : Nat) : Int).tdiv ((bsd (V a) j : Nat) : Int) = (dgk (V a) k j : Int) := by
        rw [Int.tdiv_eq_ediv_of_nonneg (by omega), ← Int.natCast_ediv, dg_eq]
      have dv : I ((k % bsd (V a) (j + 1) : Nat) : Int) / I ((bsd (V a) j : Nat) : Int) = I (dgk (V a) k j : Nat) := by
        rw [I_div ⟨by omega, by omega⟩ ⟨by omega, by omega⟩ (by rw [tq]; exact ⟨by omega, by omega⟩), tq]
      have rm : I ((k % bsd (V a) (j + 1) : Nat) : Int) - I (dgk (V a) k j : Nat) * I ((bsd (V a) j : Nat) : Int) = I ((k % bsd (V a) j : Nat) : Int) := by
        rw [I_mul, I_sub]
        congr 1
        have e1 := Nat.div_add_mod (k % bsd (V a) (j + 1)) (bsd (V a) j)
        rw [dg_eq, md_eq] at e1
        have e2 : ((k % bsd (V a) (j + 1) : Nat) : Int) = ((bsd (V a) j * dgk (V a) k j + k % bsd (V a) j : Nat) : Int) := by rw [e1]
        rw [e2]
        push_cast
        rw [Int.mul_comm ((dgk (V a) k j : Nat) : Int)]
        omega
      have pl : (I (plc p j) - I (V a 4 j)) + I (dgk (V a) k j : Nat) = I (plk (V a) p k j) := by
        rw [I_sub, I_add]; rfl
      rw [dv, rm, hA.r4 hM ha hj, hA.r2 hM ha hj, hA.r3 hM ha hj, pl]
      have pr : -3 ≤ plk (V a) p k j ∧ plk (V a) p k j ≤ 30 := by unfold plk; omega
      refine q_in ⟨by omega, by omega⟩ ⟨by omega, by omega⟩ ⟨by omega, by omega⟩ (fun a1 a2 => ⟨fun _ => ?_, fun z => absurd z (by decide)⟩) (fun no => ⟨fun z => absurd rfl z, fun _ => h0 (fun ok => no (ok j hj))⟩)
      have hd' : ∀ j', j ≤ j' → j' < 3 → V a 2 j' ≤ plk (V a) p k j' ∧ plk (V a) p k j' ≤ V a 3 j' := fun j' b1 b2 => by
        by_cases z : j' = j
        · rw [z]; exact ⟨a1, a2⟩
        · exact hd j' (by omega) b2
      have x1 := hw.2.1 1 (by omega); have x2 := hw.2.1 2 (by omega)
      have vs : (0 ≤ pov (V a) p k (j + 1) ∧ pov (V a) p k (j + 1) < 4096 ∧ pov (V a) p k (j + 1) % 16 ^ (j + 1) = 0) ∧ pov (V a) p k (j + 1) + plk (V a) p k j * 16 ^ j = pov (V a) p k j := by
        have h3 : j = 0 ∨ j = 1 ∨ j = 2 := by omega
        rcases h3 with rfl | rfl | rfl
        · have y1 := hd' 1 (by omega) (by omega); have y2 := hd' 2 (by omega) (by omega)
          show (0 ≤ 16 * plk (V a) p k 1 + 256 * plk (V a) p k 2 ∧ 16 * plk (V a) p k 1 + 256 * plk (V a) p k 2 < 4096 ∧ (16 * plk (V a) p k 1 + 256 * plk (V a) p k 2) % 16 = 0) ∧ 16 * plk (V a) p k 1 + 256 * plk (V a) p k 2 + plk (V a) p k 0 * 1 = plk (V a) p k 0 + 16 * plk (V a) p k 1 + 256 * plk (V a) p k 2
          omega
        · have y2 := hd' 2 (by omega) (by omega)
          show (0 ≤ 256 * plk (V a) p k 2 ∧ 256 * plk (V a) p k 2 < 4096 ∧ (256 * plk (V a) p k 2) % 256 = 0) ∧ 256 * plk (V a) p k 2 + plk (V a) p k 1 * 16 = 16 * plk (V a) p k 1 + 256 * plk (V a) p k 2
          omega
        · show (0 ≤ (0 : Int) ∧ (0 : Int) < 4096 ∧ (0 : Int) % 4096 = 0) ∧ 0 + plk (V a) p k 2 * 256 = 256 * plk (V a) p k 2
          omega
      rw [or_up hj vs.1.1 vs.1.2.1 vs.1.2.2 (by omega) (by omega), vs.2, I_m1, I_add, show (j : Int) + -1 = (j : Int) - 1 by omega]
      exact ih (by omega) hd'
  have F0 := F J (Nat.le_refl _) (fun j b1 b2 => (zer j b2 b1).2)
  refine eX12_beside ⟨hM.ob, hM.a7 (by omega) (by omega), ?_⟩
  rw [hA.jn hM ha, hJ, I_1, I_sub]
  have e1 : k % bsd (V a) J = k := Nat.mod_eq_of_lt (by omega)
  have e2 : pov (V a) p k J = 0 := by
    have h3 : J = 0 ∨ J = 1 ∨ J = 2 ∨ J = 3 := by omega
    rcases h3 with rfl | rfl | rfl | rfl
    · show plk (V a) p k 0 + 16 * plk (V a) p k 1 + 256 * plk (V a) p k 2 = 0
      rw [(zer 0 (by omega) (by omega)).1, (zer 1 (by omega) (by omega)).1, (zer 2 (by omega) (by omega)).1]; rfl
    · show 16 * plk (V a) p k 1 + 256 * plk (V a) p k 2 = 0
      rw [(zer 1 (by omega) (by omega)).1, (zer 2 (by omega) (by omega)).1]; rfl
    · show 256 * plk (V a) p k 2 = 0
      rw [(zer 2 (by omega) (by omega)).1]; rfl
    · rfl
  rw [e1, e2] at F0
  exact F0
theorem ab_neg (x : Int) : ab (-x) = ab x := by unfold ab; split <;> split <;> omega
theorem m_wayBetween {K : Int32 → Sg → Prop} {q : Nat} (hp : p < 4096) (hq : q < 4096) (hK : K (I (wyb p q)) σ) : Con l mX12_wayBetween [.inr 82, .inl (I (p : Nat)), .inl (I (q : Nat))] σ (PI K) := by
  have step : ∀ (j : Nat) (s : Int), j < 3 → GW l mX12_wayBetween 5 [(0, .inr 82), (1, .inl (I (p : Nat))), (2, .inl (I (q : Nat))), (3, .inl (I (s + ab (plc q j - plc p j)))), (4, .inl (I ((j + 1 : Nat) : Int)))] [] σ 0 0 (PI K) → GW l mX12_wayBetween 5 [(0, .inr 82), (1, .inl (I (p : Nat))), (2, .inl (I (q : Nat))), (3, .inl (I s)), (4, .inl (I (j : Nat)))] [] σ 0 0 (PI K) := by
    intro j s hj g
    have r := plc_rg p j; have r2 := plc_rg q j
    refine gX12_wayBetween_5 ⟨fun z => ?_, fun _ => q_placeOfM (by omega) (by omega) hj (q_placeOfM (by omega) (by omega) hj ?_)⟩
    · rw [L_lit, I_le ⟨by omega, by omega⟩ ⟨by omega, by omega⟩] at z; omega
    rw [I_sub]
    refine q_abs (by omega) (by omega) ?_
    have e : (if 0 ≤ plc p j - plc q j then plc p j - plc q j else -(plc p j - plc q j)) = ab (plc q j - plc p j) := by
      rw [← ab_neg, show -(plc q j - plc p j) = plc p j - plc q j by omega]; rfl
    rw [e, I_add, I_1, I_add]
    exact g
  refine eX12_wayBetween (step 0 0 (by omega) (step 1 _ (by omega) (step 2 _ (by omega) (gX12_wayBetween_5 ⟨fun _ => ?_, fun z => absurd ((I_le (a := 3) ⟨by omega, by omega⟩ ⟨by omega, by omega⟩).mpr (by omega)) z⟩))))
  rw [Int.zero_add]
  exact hK
end MBS
