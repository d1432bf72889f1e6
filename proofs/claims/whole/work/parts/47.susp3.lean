/-! suspects: the class -/
def bc32 (v0 : Int32) : Int32 := ((((((((v0 - ((ushr v0 1) &&& 1431655765)) &&& 858993459) + ((ushr (v0 - ((ushr v0 1) &&& 1431655765)) 2) &&& 858993459)) + (ushr (((v0 - ((ushr v0 1) &&& 1431655765)) &&& 858993459) + ((ushr (v0 - ((ushr v0 1) &&& 1431655765)) 2) &&& 858993459)) 4)) &&& 252645135) + (ushr (((((v0 - ((ushr v0 1) &&& 1431655765)) &&& 858993459) + ((ushr (v0 - ((ushr v0 1) &&& 1431655765)) 2) &&& 858993459)) + (ushr (((v0 - ((ushr v0 1) &&& 1431655765)) &&& 858993459) + ((ushr (v0 - ((ushr v0 1) &&& 1431655765)) 2) &&& 858993459)) 4)) &&& 252645135) 8)) + (ushr ((((((v0 - ((ushr v0 1) &&& 1431655765)) &&& 858993459) + ((ushr (v0 - ((ushr v0 1) &&& 1431655765)) 2) &&& 858993459)) + (ushr (((v0 - ((ushr v0 1) &&& 1431655765)) &&& 858993459) + ((ushr (v0 - ((ushr v0 1) &&& 1431655765)) 2) &&& 858993459)) 4)) &&& 252645135) + (ushr (((((v0 - ((ushr v0 1) &&& 1431655765)) &&& 858993459) + ((ushr (v0 - ((ushr v0 1) &&& 1431655765)) 2) &&& 858993459)) + (ushr (((v0 - ((ushr v0 1) &&& 1431655765)) &&& 858993459) + ((ushr (v0 - ((ushr v0 1) &&& 1431655765)) 2) &&& 858993459)) 4)) &&& 252645135) 8)) 16)) &&& 63)
theorem bc_8 : ∀ b : Nat, b < 8 → bc32 (I b) = I ([0, 1, 1, 2, 1, 2, 2, 3].getD b 0) := by decide
theorem or_bit : ∀ j : Nat, j < 3 → ∀ b : Nat, b < 2 ^ j → ∀ x : Nat, x < 2 → I ((b + x * 2 ^ j : Nat) : Int) ||| (1 <<< (I (j : Int) &&& 31)) = I ((b + 2 ^ j : Nat) : Int) := by decide
theorem shr_8 : ∀ b : Nat, b < 8 → I (b : Int) >>> (1 &&& 31) = I ((b / 2 : Nat) : Int) := by decide
theorem div_8 : ∀ b : Nat, b < 8 → I (b : Int) / 2 = I ((b / 2 : Nat) : Int) := by decide
/-- wear q (kind, size) since e of joint j lays the same -/
def Acq (v : Vt) (t : Nat) (d o : Int) (j q e : Nat) : Prop := alk v t d o j ((q / 3 : Nat) : Int) ((q % 3 + 1 : Nat) : Int) e
noncomputable def inq (v : Vt) (t : Nat) (d o : Int) (j q e : Nat) : Int := cif (Acq v t d o j q e) 1 0
def Ace (v : Vt) (t : Nat) (d o : Int) (j e : Nat) : Prop := ∃ q, q < 6 ∧ Acq v t d o j q e
noncomputable def hbj (v : Vt) (t : Nat) (d o : Int) (n j : Nat) : Nat := @ite Nat (∃ e, e < n ∧ Ace v t d o j e) (Classical.propDecidable _) 1 0
noncomputable def Btj (v : Vt) (t : Nat) (d o : Int) (n : Nat) : Nat → Nat
  | 0 => 0
  | j + 1 => Btj v t d o n j + hbj v t d o n j * 2 ^ j
noncomputable def cnj (v : Vt) (t : Nat) (d o : Int) (n j : Nat) : Int := sumP (fun q => sumP (fun e => inq v t d o j q e) n) 6
def IsLo (v : Vt) (t : Nat) (d o : Int) (n j : Nat) (z : Int) : Prop := ∃ e : Nat, z = e ∧ (e < n ∧ Ace v t d o j e) ∧ ∀ e', e' < n → Ace v t d o j e' → e ≤ e'
def IsHi (v : Vt) (t : Nat) (d o : Int) (n j : Nat) (z : Int) : Prop := ∃ e : Nat, z = e ∧ (e < n ∧ Ace v t d o j e) ∧ ∀ e', e' < n → Ace v t d o j e' → e' ≤ e
noncomputable def loE (v : Vt) (t : Nat) (d o : Int) (n j : Nat) : Int := Classical.epsilon (IsLo v t d o n j)
noncomputable def hiE (v : Vt) (t : Nat) (d o : Int) (n j : Nat) : Int := Classical.epsilon (IsHi v t d o n j)
section SUS
variable {l : Launch} {σ σ' : Sg} {v v' : Vt} {c : Nat} {t a n : Nat} {d o : Int} {f : Nat → Int}
theorem loE_eq {j : Nat} {z : Int} (h : IsLo v t d o n j z) : loE v t d o n j = z := by
  obtain ⟨e, e1, e2, e3⟩ := h
  obtain ⟨e', e1', e2', e3'⟩ := Classical.epsilon_spec (p := IsLo v t d o n j) ⟨z, e, e1, e2, e3⟩
  have a := e3 e' e2'.1 e2'.2
  have b := e3' e e2.1 e2.2
  unfold loE; omega
theorem hiE_eq {j : Nat} {z : Int} (h : IsHi v t d o n j z) : hiE v t d o n j = z := by
  obtain ⟨e, e1, e2, e3⟩ := h
  obtain ⟨e', e1', e2', e3'⟩ := Classical.epsilon_spec (p := IsHi v t d o n j) ⟨z, e, e1, e2, e3⟩
  have a := e3 e' e2'.1 e2'.2
  have b := e3' e e2.1 e2.2
  unfold hiE; omega
theorem hbj_1 {j : Nat} (h : ∃ e, e < n ∧ Ace v t d o j e) : hbj v t d o n j = 1 := by unfold hbj; exact if_pos h
theorem hbj_0 {j : Nat} (h : ¬ ∃ e, e < n ∧ Ace v t d o j e) : hbj v t d o n j = 0 := by unfold hbj; exact if_neg h
theorem hbj_lt {j : Nat} : hbj v t d o n j < 2 := by
  by_cases h : ∃ e, e < n ∧ Ace v t d o j e
  · rw [hbj_1 h]; omega
  · rw [hbj_0 h]; omega
theorem Btj_lt : ∀ j, Btj v t d o n j < 2 ^ j := by
  intro j
  induction j with
  | zero => exact Nat.one_pos
  | succ j ih =>
    have h2 := hbj_lt (v := v) (t := t) (d := d) (o := o) (n := n) (j := j)
    show Btj v t d o n j + hbj v t d o n j * 2 ^ j < 2 ^ (j + 1)
    have : hbj v t d o n j = 0 ∨ hbj v t d o n j = 1 := by omega
    rcases this with e | e <;> rw [e, Nat.pow_succ] <;> omega
/-- which ticks fit so far: none, or from lo to hi -/
def SmS (S : Nat → Prop) (x : Nat) (lo hi : Int) : Prop := (x = 0 ∧ (∀ e, ¬ S e) ∧ lo = 40 ∧ hi = -1) ∨ (x = 1 ∧ (∃ e : Nat, S e ∧ lo = e) ∧ (∃ e : Nat, S e ∧ hi = e) ∧ ∀ e : Nat, S e → lo ≤ e ∧ (e : Int) ≤ hi)
theorem SmS.same {S S' : Nat → Prop} {x : Nat} {lo hi : Int} (h : SmS S x lo hi) (he : ∀ e, S' e ↔ S e) : SmS S' x lo hi := by
  rcases h with ⟨h1, h2, h3⟩ | ⟨h1, ⟨e1, h2, h2'⟩, ⟨e2, h3, h3'⟩, h4⟩
  · exact Or.inl ⟨h1, fun e z => h2 e ((he e).mp z), h3⟩
  · exact Or.inr ⟨h1, ⟨e1, (he e1).mpr h2, h2'⟩, ⟨e2, (he e2).mpr h3, h3'⟩, fun e z => h4 e ((he e).mp z)⟩
theorem SmS.add {S S' : Nat → Prop} {x : Nat} {lo hi : Int} {e0 : Nat} (h : SmS S x lo hi) (h40 : e0 < 40) (he : ∀ e, S' e ↔ S e ∨ e = e0) : SmS S' 1 (min lo e0) (max hi e0) := by
  refine Or.inr ⟨rfl, ?_, ?_, fun e z => ?_⟩
  · rcases h with ⟨h1, h2, h3, h4⟩ | ⟨h1, ⟨e1, h2, h2'⟩, ⟨e2, h3, h3'⟩, h4⟩
    · exact ⟨e0, (he e0).mpr (Or.inr rfl), by omega⟩
    · by_cases q : e1 ≤ e0
      · exact ⟨e1, (he e1).mpr (Or.inl h2), by omega⟩
      · exact ⟨e0, (he e0).mpr (Or.inr rfl), by omega⟩
  · rcases h with ⟨h1, h2, h3, h4⟩ | ⟨h1, ⟨e1, h2, h2'⟩, ⟨e2, h3, h3'⟩, h4⟩
    · exact ⟨e0, (he e0).mpr (Or.inr rfl), by omega⟩
    · by_cases q : e0 ≤ e2
      · exact ⟨e2, (he e2).mpr (Or.inl h3), by omega⟩
      · exact ⟨e0, (he e0).mpr (Or.inr rfl), by omega⟩
  · rcases (he e).mp z with z | z
    · rcases h with ⟨h1, h2, h3, h4⟩ | ⟨h1, ⟨e1, h2, h2'⟩, ⟨e2, h3, h3'⟩, h4⟩
      · exact absurd z (h2 e)
      · have := h4 e z; omega
    · omega
theorem SmS.fin {S : Nat → Prop} {x : Nat} {lo hi : Int} {j : Nat} (h : SmS S x lo hi) (he : ∀ e, S e ↔ e < n ∧ Ace v t d o j e) : x = hbj v t d o n j ∧ (x = 1 → IsLo v t d o n j lo ∧ IsHi v t d o n j hi) := by
  rcases h with ⟨h1, h2, h3⟩ | ⟨h1, ⟨e1, h2, h2'⟩, ⟨e2, h3, h3'⟩, h4⟩
  · exact ⟨by rw [hbj_0 (fun ⟨e, z⟩ => h2 e ((he e).mpr z))]; exact h1, fun q => by omega⟩
  · refine ⟨by rw [hbj_1 ⟨e1, (he e1).mp h2⟩]; exact h1, fun _ => ⟨⟨e1, h2', (he e1).mp h2, fun e' y1 y2 => ?_⟩, ⟨e2, h3', (he e2).mp h3, fun e' y1 y2 => ?_⟩⟩⟩
    · have := (h4 e' ((he e').mpr ⟨y1, y2⟩)).1; omega
    · have := (h4 e' ((he e').mpr ⟨y1, y2⟩)).2; omega
/-- the numbers of the doubt while joint j is tried -/
def JSt (σ : Sg) (j : Nat) (N : Int) (b : Nat) (S : Nat → Prop) : Prop := σ.2.1 62 8 = I N ∧ ∃ (x : Nat) (lo hi : Int), x < 2 ∧ (0 ≤ lo ∧ lo ≤ 40 ∧ -1 ≤ hi ∧ hi ≤ 40) ∧ σ.2.1 62 9 = I ((b + x * 2 ^ j : Nat) : Int) ∧ σ.2.1 67 j = I lo ∧ σ.2.1 68 j = I hi ∧ SmS S x lo hi
theorem q_note {K : Sg → Prop} {j e b : Nat} {N : Int} {S S' : Nat → Prop} (hC : Cp σ) (hj : j < 3) (he : e < 40) (hb : b < 2 ^ j) (hJ : JSt σ j N b S) (hS : ∀ e', S' e' ↔ S e' ∨ e' = e) (hK : ∀ σ', Onl [62, 67, 68] σ σ' → (∀ k, k ≠ 8 → k ≠ 9 → σ'.2.1 62 k = σ.2.1 62 k) → (∀ j', j' ≠ j → σ'.2.1 67 j' = σ.2.1 67 j' ∧ σ'.2.1 68 j' = σ.2.1 68 j') → JSt σ' j (N + 1) b S' → K σ') : Con l mX1_note [.inr 62, .inl (I j), .inl (I e)] σ (PV K) := by
  obtain ⟨j1, x, lo, hi, hx, hr, j2, j3, j4, j5⟩ := hJ
  refine eX1_note ?_
  rw [I_0, I_lt' (by omega) (by omega) (by omega) (by omega), show (3 : Int32) = I 3 from rfl, I_lt' (by omega) (by omega) (by omega) (by omega)]
  refine ⟨fun q => absurd q (by omega), fun _ => ⟨fun _ => ⟨hC.o62, fun σ4 e4 σ5 e5 => ?_⟩, fun q => absurd (by omega) q⟩⟩
  rw [j1, I_1, I_add] at e4
  have v9 : σ4.2.1 62 9 = I ((b + x * 2 ^ j : Nat) : Int) := by rw [e4, w1_k (by omega)]; exact j2
  rw [v9, or_bit j hj b hb x hx] at e5
  have o5 : Onl [62, 67, 68] σ σ5 := (Onl.w e4 (by decide)).tr (Onl.w e5 (by decide))
  have C5 := o5.C hC
  have v67 : σ5.2.1 (σ5.2.2 62 4) (I (j : Int)).toNatClampNeg = I lo := by rw [C5.p62_4, I_cln (by omega), e5, w1_r (by omega), e4, w1_r (by omega)]; exact j3
  rw [v67]
  refine ⟨C5.a62_4 (by omega) (by omega), q_min ⟨by omega, by omega⟩ ⟨by omega, by omega⟩ (fun σ8 e8 => ?_)⟩
  rw [C5.p62_4, I_cln (by omega)] at e8
  have o8 := o5.tr (Onl.w e8 (by decide))
  have C8 := o8.C hC
  have v68 : σ8.2.1 (σ8.2.2 62 5) (I (j : Int)).toNatClampNeg = I hi := by rw [C8.p62_5, I_cln (by omega), e8, w1_r (by omega), e5, w1_r (by omega), e4, w1_r (by omega)]; exact j4
  rw [v68]
  refine ⟨C8.a62_5 (by omega) (by omega), q_max ⟨by omega, by omega⟩ ⟨by omega, by omega⟩ (fun σ11 e11 => ?_)⟩
  rw [C8.p62_5, I_cln (by omega)] at e11
  refine hK σ11 (o8.tr (Onl.w e11 (by decide))) (fun k h8 h9 => by rw [e11, w1_r (by omega), e8, w1_r (by omega), e5, w1_k h9, e4, w1_k h8]) (fun j' hj' => ⟨?_, ?_⟩) ⟨?_, 1, min lo e, max hi e, by omega, by omega, ?_, ?_, ?_, j5.add he hS⟩
  · rw [e11, w1_r (by omega), e8, w1_k hj', e5, w1_r (by omega), e4, w1_r (by omega)]
  · rw [e11, w1_k hj', e8, w1_r (by omega), e5, w1_r (by omega), e4, w1_r (by omega)]
  · rw [e11, w1_r (by omega), e8, w1_r (by omega), e5, w1_k (by omega), e4, w1_at]
  · rw [e11, w1_r (by omega), e8, w1_r (by omega), e5, w1_at, Nat.one_mul]
  · rw [e11, w1_r (by omega), e8, w1_at]
  · rw [e11, w1_at]
end SUS
