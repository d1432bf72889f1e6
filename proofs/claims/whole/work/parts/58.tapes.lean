/-! tapes as lists: what a text makes of them (at most 41 ticks: 41 stands for too many) -/
def bgn (o : Int) : Nat → Nat → Int := fun i j => if i = 0 ∧ j = 0 then o else 0
def psh (T : Nat → Nat → Int) (p s : Int) : Nat → Nat → Int := if T 0 1 ≤ 40 then tA T p s else T
def cpy (P S : Nat → Nat → Int) (a : Nat) : Nat → Nat → Nat → Int
  | 0 => P
  | k + 1 => psh (cpy P S a k) (S 1 (a + k)) (S 2 (a + k))
def rvT (P : Nat → Nat → Int) : Nat → Nat → Int := fun i j => if (i = 1 ∨ i = 2) ∧ (j : Int) < P 0 1 then P i ((P 0 1).toNat - 1 - j) else P i j
def dryT (P : Nat → Nat → Int) : Nat → Nat → Int := fun i j => if i = 2 ∧ (j : Int) < P 0 1 then 0 else P i j
def slw (P : Nat → Nat → Int) (n : Nat) : Nat → Nat → Int := fun i j => if i = 0 then (if j = 1 then min 41 (P 0 1 * n) else P i j) else P i (j / n)
def ipj (a b i h : Int) (j : Nat) : Int := plc a j + ((plc b j - plc a j) * i).tdiv h
def ipo (a b i h : Int) : Int := ipj a b i h 0 + 16 * ipj a b i h 1 + 256 * ipj a b i h 2
def itp (a b h : Int) (L : Nat → Nat → Int) : Nat → Nat → Nat → Int
  | 0 => L
  | k + 1 => psh (itp a b h L k) (ipo a b ((k + 1 : Nat) : Int) h) 0
def jnP (A L P : Nat → Nat → Int) : Nat → Nat → Int := if P 0 1 = 0 then L else cpy (if L 0 1 = 0 then L else itp (L 1 (L 0 1 - 1).toNat) (P 1 0) (hop A (L 1 (L 0 1 - 1).toNat) (P 1 0)) L (hop A (L 1 (L 0 1 - 1).toNat) (P 1 0) - 1).toNat) P 0 (P 0 1).toNat
/-- a tape of an arm that there is -/
def TW (A : Nat → Nat → Nat → Int) (na : Int) (T : Nat → Nat → Int) : Prop := (0 ≤ T 0 0 ∧ T 0 0 < na ∧ 1 ≤ A (T 0 0).toNat 0 2) ∧ (0 ≤ T 0 1 ∧ T 0 1 ≤ 41) ∧ ∀ i : Nat, (i : Int) < T 0 1 → isPo (A (T 0 0).toNat) (T 1 i) ∧ 0 ≤ T 2 i ∧ T 2 i ≤ 9
theorem plc_mk {x y z : Int} (hx : 0 ≤ x ∧ x < 16) (hy : 0 ≤ y ∧ y < 16) (hz : 0 ≤ z ∧ z < 16) : plc (x + 16 * y + 256 * z) 0 = x ∧ plc (x + 16 * y + 256 * z) 1 = y ∧ plc (x + 16 * y + 256 * z) 2 = z := by
  unfold plc
  refine ⟨?_, ?_, ?_⟩
  · show (x + 16 * y + 256 * z) / 1 % 16 = x; omega
  · show (x + 16 * y + 256 * z) / 16 % 16 = y; omega
  · show (x + 16 * y + 256 * z) / 256 % 16 = z; omega
theorem tdiv_pos {d i h : Int} (hd : 0 ≤ d) (h0 : 0 ≤ i) (h1 : i ≤ h) (h2 : 1 ≤ h) : 0 ≤ (d * i).tdiv h ∧ (d * i).tdiv h ≤ d := by
  have a1 : 0 ≤ d * i := Int.mul_nonneg hd h0
  rw [Int.tdiv_eq_ediv_of_nonneg a1]
  refine ⟨Int.ediv_nonneg a1 (by omega), ?_⟩
  have a2 : d * i ≤ d * h := Int.mul_le_mul_of_nonneg_left h1 hd
  calc d * i / h ≤ d * h / h := Int.ediv_le_ediv (by omega) a2
    _ = d := Int.mul_ediv_cancel d (by omega)
theorem ipj_rg (a b : Int) (j : Nat) {i h : Int} (h0 : 0 ≤ i) (h1 : i ≤ h) (h2 : 1 ≤ h) : min (plc a j) (plc b j) ≤ ipj a b i h j ∧ ipj a b i h j ≤ max (plc a j) (plc b j) := by
  unfold ipj
  by_cases hd : 0 ≤ plc b j - plc a j
  · have := tdiv_pos hd h0 h1 h2
    omega
  · have := tdiv_pos (d := -(plc b j - plc a j)) (by omega) h0 h1 h2
    rw [Int.neg_mul, Int.neg_tdiv] at this
    omega
theorem ipo_plc (a b : Int) {i h : Int} (h0 : 0 ≤ i) (h1 : i ≤ h) (h2 : 1 ≤ h) : (0 ≤ ipo a b i h ∧ ipo a b i h < 4096) ∧ ∀ j, j < 3 → plc (ipo a b i h) j = ipj a b i h j := by
  have p0 := plc_rg a 0; have q0 := plc_rg b 0; have r0 := ipj_rg a b 0 h0 h1 h2
  have p1 := plc_rg a 1; have q1 := plc_rg b 1; have r1 := ipj_rg a b 1 h0 h1 h2
  have p2 := plc_rg a 2; have q2 := plc_rg b 2; have r2 := ipj_rg a b 2 h0 h1 h2
  have m := plc_mk (x := ipj a b i h 0) (y := ipj a b i h 1) (z := ipj a b i h 2) (by omega) (by omega) (by omega)
  refine ⟨by unfold ipo; omega, fun j hj => ?_⟩
  match j, hj with
  | 0, _ => exact m.1
  | 1, _ => exact m.2.1
  | 2, _ => exact m.2.2
theorem isPo_ipo {A : Nat → Nat → Int} {a b i h : Int} (ha : isPo A a) (hb : isPo A b) (h0 : 0 ≤ i) (h1 : i ≤ h) (h2 : 1 ≤ h) : isPo A (ipo a b i h) := by
  have k := ipo_plc a b h0 h1 h2
  refine ⟨k.1.1, k.1.2, fun j hj => ?_⟩
  rw [k.2 j hj]
  have r := ipj_rg a b j h0 h1 h2
  have x := ha.2.2 j hj; have y := hb.2.2 j hj
  omega
section TWS
variable {A : Nat → Nat → Nat → Int} {na : Int} {T P S L : Nat → Nat → Int}
theorem tA_00 {p s : Int} : tA T p s 0 0 = T 0 0 := by unfold tA; rw [upA_off (by omega), upA_off (by omega), upA_off (by omega)]
theorem tA_01 {p s : Int} : tA T p s 0 1 = T 0 1 + 1 := by unfold tA; rw [upA_at]
theorem tA_1 {p s : Int} {i : Nat} : tA T p s 1 i = if i = (T 0 1).toNat then p else T 1 i := by
  unfold tA
  rw [upA_off (by omega), upA_off (by omega)]
  split
  · rename_i h; rw [h, upA_at]
  · rename_i h; rw [upA_off (by omega)]
theorem tA_2 {p s : Int} {i : Nat} : tA T p s 2 i = if i = (T 0 1).toNat then s else T 2 i := by
  unfold tA
  rw [upA_off (by omega)]
  split
  · rename_i h; rw [h, upA_at]
  · rename_i h; rw [upA_off (by omega), upA_off (by omega)]
theorem psh_t {p s : Int} (h : T 0 1 ≤ 40) : psh T p s = tA T p s := by unfold psh; rw [if_pos h]
theorem psh_00 {p s : Int} : psh T p s 0 0 = T 0 0 := by unfold psh; split; exact tA_00; rfl
theorem psh_01 {p s : Int} (h : T 0 1 ≤ 41) : psh T p s 0 1 = min 41 (T 0 1 + 1) := by
  unfold psh
  split
  · rw [tA_01]; omega
  · omega
theorem TW.pp {p s : Int} (h : TW A na T) (hp : isPo (A (T 0 0).toNat) p) (hs : 0 ≤ s ∧ s ≤ 9) : TW A na (psh T p s) := by
  by_cases q : T 0 1 ≤ 40
  · rw [psh_t q]
    refine ⟨by rw [tA_00]; exact h.1, by rw [tA_01]; have := h.2.1; omega, fun i hi => ?_⟩
    rw [tA_01] at hi
    rw [tA_00, tA_1, tA_2]
    split
    · exact ⟨hp, hs⟩
    · exact h.2.2 i (by have := h.2.1; omega)
  · have : psh T p s = T := by unfold psh; rw [if_neg q]
    rw [this]; exact h
theorem cpy_00 {a : Nat} : ∀ k, cpy P S a k 0 0 = P 0 0 := by
  intro k
  induction k with
  | zero => rfl
  | succ k ih => show psh _ _ _ 0 0 = _; rw [psh_00, ih]
theorem cpy_01 {a : Nat} (h : 0 ≤ P 0 1 ∧ P 0 1 ≤ 41) : ∀ k : Nat, cpy P S a k 0 1 = min 41 (P 0 1 + k) := by
  intro k
  induction k with
  | zero => show P 0 1 = _; omega
  | succ k ih => show psh _ _ _ 0 1 = _; rw [psh_01 (by rw [ih]; omega), ih]; omega
theorem TW.cc {a : Nat} (h : TW A na P) (hs : TW A na S) (ho : S 0 0 = P 0 0) : ∀ k : Nat, ((a + k : Nat) : Int) ≤ S 0 1 → TW A na (cpy P S a k) := by
  intro k
  induction k with
  | zero => intro _; exact h
  | succ k ih =>
    intro hk
    have e := hs.2.2 (a + k) (by omega)
    refine (ih (by omega)).pp ?_ e.2
    rw [cpy_00, ← ho]; exact e.1
theorem TW.bb {o : Int} (h : 0 ≤ o ∧ o < na ∧ 1 ≤ A o.toNat 0 2) : TW A na (bgn o) := ⟨h, by show 0 ≤ (0 : Int) ∧ (0 : Int) ≤ 41; omega, fun i hi => by have : (i : Int) < 0 := hi; omega⟩
theorem TW.rv (h : TW A na P) : TW A na (rvT P) := by
  have e0 : rvT P 0 0 = P 0 0 := by unfold rvT; rw [if_neg (by omega)]
  have e1 : rvT P 0 1 = P 0 1 := by unfold rvT; rw [if_neg (by omega)]
  refine ⟨by rw [e0]; exact h.1, by rw [e1]; exact h.2.1, fun i hi => ?_⟩
  rw [e1] at hi
  rw [e0]
  unfold rvT
  rw [if_pos ⟨Or.inl rfl, hi⟩, if_pos ⟨Or.inr rfl, hi⟩]
  exact h.2.2 _ (by omega)
theorem TW.dry (h : TW A na P) : TW A na (dryT P) := by
  have e0 : dryT P 0 0 = P 0 0 := by unfold dryT; rw [if_neg (by omega)]
  have e1 : dryT P 0 1 = P 0 1 := by unfold dryT; rw [if_neg (by omega)]
  refine ⟨by rw [e0]; exact h.1, by rw [e1]; exact h.2.1, fun i hi => ?_⟩
  rw [e1] at hi
  rw [e0]
  unfold dryT
  rw [if_neg (by omega), if_pos ⟨rfl, hi⟩]
  exact ⟨(h.2.2 i hi).1, by omega, by omega⟩
theorem slw_00 {n : Nat} : slw P n 0 0 = P 0 0 := rfl
theorem slw_01 {n : Nat} : slw P n 0 1 = min 41 (P 0 1 * n) := rfl
theorem div_lt' {i n : Nat} {m : Int} (hn : 1 ≤ n) (h : (i : Int) < m * n) : ((i / n : Nat) : Int) < m := by
  have h0 : 0 ≤ m := by
    by_cases q : 0 ≤ m
    · exact q
    · exfalso
      have : m * (n : Int) ≤ 0 := Int.mul_nonpos_of_nonpos_of_nonneg (by omega) (by omega)
      omega
  obtain ⟨k, rfl⟩ : ∃ k : Nat, m = k := ⟨m.toNat, by omega⟩
  have h1 : i < k * n := by
    have : ((k * n : Nat) : Int) = (k : Int) * n := by push_cast; rfl
    omega
  have := (Nat.div_lt_iff_lt_mul (by omega)).mpr h1
  omega
theorem TW.ss {n : Nat} (h : TW A na P) (hn : 1 ≤ n) : TW A na (slw P n) := by
  have h0 := h.2.1
  have hm : 0 ≤ P 0 1 * n := Int.mul_nonneg h0.1 (by omega)
  refine ⟨h.1, by rw [slw_01]; omega, fun i hi => ?_⟩
  rw [slw_01] at hi
  show isPo (A (P 0 0).toNat) (P 1 (i / n)) ∧ 0 ≤ P 2 (i / n) ∧ P 2 (i / n) ≤ 9
  exact h.2.2 _ (div_lt' hn (by omega))
theorem itp_00 {a b h : Int} : ∀ k, itp a b h L k 0 0 = L 0 0 := by
  intro k
  induction k with
  | zero => rfl
  | succ k ih => show psh _ _ _ 0 0 = _; rw [psh_00, ih]
theorem itp_01 {a b h : Int} (hl : 0 ≤ L 0 1 ∧ L 0 1 ≤ 41) : ∀ k : Nat, itp a b h L k 0 1 = min 41 (L 0 1 + k) := by
  intro k
  induction k with
  | zero => show L 0 1 = _; omega
  | succ k ih => show psh _ _ _ 0 1 = _; rw [psh_01 (by rw [ih]; omega), ih]; omega
theorem TW.ii {a b h : Int} (hl : TW A na L) (ha : isPo (A (L 0 0).toNat) a) (hb : isPo (A (L 0 0).toNat) b) : ∀ k : Nat, (k : Int) < h → TW A na (itp a b h L k) := by
  intro k
  induction k with
  | zero => intro _; exact hl
  | succ k ih =>
    intro hk
    refine (ih (by omega)).pp ?_ ⟨by omega, by omega⟩
    rw [itp_00]
    exact isPo_ipo ha hb (by omega) (by omega) (by omega)
/-- ticks that stand between -/
def btw (A L P : Nat → Nat → Int) : Nat := if L 0 1 = 0 then 0 else (hop A (L 1 (L 0 1 - 1).toNat) (P 1 0) - 1).toNat
theorem jnP_00 {A0 : Nat → Nat → Int} : jnP A0 L P 0 0 = L 0 0 := by
  unfold jnP
  split
  · rfl
  · rw [cpy_00]
    split
    · rfl
    · rw [itp_00]
theorem jnP_01 {A0 : Nat → Nat → Int} (hl : 0 ≤ L 0 1 ∧ L 0 1 ≤ 41) (hp : 0 < P 0 1) : jnP A0 L P 0 1 = min 41 (L 0 1 + btw A0 L P + P 0 1) := by
  unfold jnP btw
  rw [if_neg (by omega)]
  by_cases q : L 0 1 = 0
  · rw [if_pos q, if_pos q, cpy_01 hl]; omega
  · rw [if_neg q, if_neg q, cpy_01 (by rw [itp_01 hl]; omega), itp_01 hl]; omega
theorem TW.jn (hl : TW A na L) (hp : TW A na P) (ho : P 0 0 = L 0 0) : TW A na (jnP (A (L 0 0).toNat) L P) := by
  unfold jnP
  have l0 := hl.2.1
  have p0 := hp.2.1
  split
  · exact hl
  · rename_i q
    have e0 : ∀ X : Nat → Nat → Int, TW A na X → X 0 0 = L 0 0 → TW A na (cpy X P 0 (P 0 1).toNat) := fun X hX e => hX.cc hp (by rw [e, ho]) _ (by omega)
    by_cases z : L 0 1 = 0
    · rw [if_pos z]; exact e0 L hl rfl
    · rw [if_neg z]
      refine e0 _ ?_ (itp_00 _)
      have b0 := hp.2.2 0 (by omega)
      rw [ho] at b0
      by_cases y : hop (A (L 0 0).toNat) (L 1 (L 0 1 - 1).toNat) (P 1 0) ≤ 1
      · rw [show (hop (A (L 0 0).toNat) (L 1 (L 0 1 - 1).toNat) (P 1 0) - 1).toNat = 0 by omega]; exact hl
      · exact hl.ii (hl.2.2 _ (by omega)).1 b0.1 _ (by omega)
end TWS
section TOP
variable {l : Launch} {σ σ' : Sg} {r s : Nat} {P S : Nat → Nat → Int}
theorem TapeD.same {Q : Nat → Nat → Int} (h : TapeD σ r P) (h0 : Q 0 0 = P 0 0) (h1 : Q 0 1 = P 0 1) (h2 : ∀ i : Nat, (i : Int) < P 0 1 → Q 1 i = P 1 i ∧ Q 2 i = P 2 i) : TapeD σ r Q := by
  refine ⟨by rw [h0]; exact h.1, by rw [h1]; exact h.2.1, fun i hi => ?_⟩
  rw [h1] at hi
  rw [(h2 i hi).1, (h2 i hi).2]; exact h.2.2 i hi
theorem TapeP.onl {Z : List Nat} (h : TapeP σ r) (ho : Onl Z σ σ') : TapeP σ' r := h.eq (Nat.le_of_eq ho.1.symm) (by rw [ho.2.1])
theorem TapeD.onl {Z : List Nat} (h : TapeD σ r P) (ho : Onl Z σ σ') (h0 : r ∉ Z) (h1 : r + 1 ∉ Z) (h2 : r + 2 ∉ Z) : TapeD σ' r P := by
  refine ⟨by rw [ho.2.2 r h0]; exact h.1, by rw [ho.2.2 r h0]; exact h.2.1, fun i hi => ?_⟩
  rw [ho.2.2 _ h1, ho.2.2 _ h2]; exact h.2.2 i hi
theorem not3 {q r : Nat} (h : q + 2 < r ∨ r + 2 < q) : q ∉ [r, r + 1, r + 2] ∧ q + 1 ∉ [r, r + 1, r + 2] ∧ q + 2 ∉ [r, r + 1, r + 2] := by
  simp only [List.mem_cons, List.not_mem_nil, or_false, not_or]; omega
theorem q_addCut {K : Sg → Prop} {a k : Nat} {b : Int} (hr : TapeP σ r) (hs : TapeP σ s) (hne : s + 2 < r ∨ r + 2 < s) (hP : TapeD σ r P) (hS : TapeD σ s S) (p0 : 0 ≤ P 0 1) (pk : P 0 1 + k ≤ 40) (sk : ((a + k : Nat) : Int) ≤ S 0 1) (s4 : S 0 1 ≤ 40) (hb : b = (a : Int) + k - 1) (hK : ∀ σ', Onl [r, r + 1, r + 2] σ σ' → TapeD σ' r (cpy P S a k) → K σ') : Con l mX9_addCut [.inr r, .inr s, .inl (I a), .inl (I b)] σ (PV K) := by
  have F : ∀ j, j ≤ k → ∀ σ1, Onl [r, r + 1, r + 2] σ σ1 → TapeD σ1 r (cpy P S a j) → GW l mX9_addCut 3 [(0, .inr r), (1, .inr s), (2, .inl (I a)), (3, .inl (I b)), (4, .inl (I ((a + j : Nat) : Int)))] [] σ1 0 0 (PV K) := by
    refine lp ?_ ?_
    · intro σ1 ho hD
      exact gX9_addCut_3 ⟨fun _ => hK σ1 ho hD, fun q => absurd ((I_lt ⟨by omega, by omega⟩ ⟨by omega, by omega⟩).mpr (by omega)) q⟩
    · intro j hj ih σ1 ho hD
      have r1 := hr.onl ho
      have s1 := hs.onl ho
      have S1 : TapeD σ1 s S := hS.onl ho (not3 hne).1 (not3 hne).2.1 (not3 hne).2.2
      have ct : cpy P S a j 0 1 = P 0 1 + j := by rw [cpy_01 ⟨p0, by omega⟩]; omega
      refine gX9_addCut_3 ⟨fun q => ?_, fun _ => ⟨s1.ob, q_has s1 S1.2.1 (by omega) s4 ⟨by omega, by omega⟩ (fun a1 a2 => ⟨fun q => absurd q (by decide), fun _ => ?_⟩) (fun q => absurd ⟨by omega, by omega⟩ q)⟩⟩
      · rw [I_lt ⟨by omega, by omega⟩ ⟨by omega, by omega⟩] at q; omega
      refine q_poseAt s1 S1 (by omega) s4 ⟨by omega, by omega⟩ (fun _ _ => q_sprayAt s1 S1 (by omega) s4 ⟨by omega, by omega⟩ (fun _ _ => ⟨r1.ob, ?_⟩) (fun q => absurd ⟨by omega, by omega⟩ q)) (fun q => absurd ⟨by omega, by omega⟩ q)
      rw [I_tn]
      refine q_addTick r1 hD (by omega) (by omega) (fun lt σ2 n2 p2 E2 D2 => ?_) (fun q => absurd (by omega) q)
      rw [I_1, I_add]
      refine ih σ2 (ho.tr ⟨n2, p2, fun q hq => E2 q (fun z => hq ?_)⟩) ?_
      · simp only [List.mem_cons, List.not_mem_nil, or_false]; omega
      · show TapeD σ2 r (psh _ _ _)
        rw [psh_t (by omega)]; exact D2
  exact eX9_addCut (F 0 (by omega) σ (Onl.rf _ _) hP)
theorem q_dryUp {K : Sg → Prop} (hr : TapeP σ r) (hP : TapeD σ r P) (p0 : 0 ≤ P 0 1) (p4 : P 0 1 ≤ 40) (hK : ∀ σ', Onl [r, r + 1, r + 2] σ σ' → TapeD σ' r (dryT P) → K σ') : Con l mX9_dryUp [.inr r] σ (PV K) := by
  obtain ⟨n, hn⟩ : ∃ n : Nat, P 0 1 = n := ⟨(P 0 1).toNat, by omega⟩
  have F : ∀ j, j ≤ n → ∀ σ1, Onl [r, r + 1, r + 2] σ σ1 → σ1.2.1 r = σ.2.1 r → σ1.2.1 (r + 1) = σ.2.1 (r + 1) → (∀ i, i < n → σ1.2.1 (r + 2) i = if i < j then I 0 else σ.2.1 (r + 2) i) → GW l mX9_dryUp 2 [(0, .inr r), (1, .inl (I (j : Nat)))] [] σ1 0 0 (PV K) := by
    refine lp ?_ ?_
    · intro σ1 ho h0 h1 h2
      refine gX9_dryUp_2 ⟨(hr.onl ho).ob, fun _ => hK σ1 ho ?_, fun q => absurd ?_ q⟩
      · refine ⟨by rw [h0]; exact hP.1, by rw [h0]; exact hP.2.1, fun i hi => ?_⟩
        have hi' : (i : Int) < P 0 1 := hi
        have e : dryT P 1 i = P 1 i ∧ dryT P 2 i = 0 := by unfold dryT; rw [if_neg (by omega), if_pos ⟨rfl, hi'⟩]; exact ⟨rfl, rfl⟩
        rw [e.1, e.2, h1, h2 i (by omega), if_pos (by omega)]
        exact ⟨(hP.2.2 i hi').1, rfl⟩
      · rw [h0, hP.2.1, hn]; exact (I_le ⟨by omega, by omega⟩ ⟨by omega, by omega⟩).mpr (by omega)
    · intro j hj ih σ1 ho h0 h1 h2
      refine gX9_dryUp_2 ⟨(hr.onl ho).ob, fun q => ?_, fun _ => ⟨fun q => ?_, fun _ => ⟨(hr.onl ho).a1 (by omega) (by omega), fun σ5 e5 => ?_⟩⟩⟩
      · rw [h0, hP.2.1, hn, I_le ⟨by omega, by omega⟩ ⟨by omega, by omega⟩] at q; omega
      · rw [L_lit, I_le ⟨by omega, by omega⟩ ⟨by omega, by omega⟩] at q; omega
      · rw [(hr.onl ho).2.2.1, I_cln (by omega)] at e5
        rw [I_1, I_add]
        refine ih σ5 (ho.tr (Onl.w e5 (by simp))) (by rw [e5, w1_r (by omega), h0]) (by rw [e5, w1_r (by omega), h1]) (fun i hi => ?_)
        rw [e5]
        by_cases e : i = j
        · rw [e, w1_at, if_pos (by omega)]; rfl
        · rw [w1_k e, h2 i hi]
          by_cases z : i < j
          · rw [if_pos z, if_pos (by omega)]
          · rw [if_neg z, if_neg (by omega)]
  exact eX9_dryUp (F 0 (by omega) σ (Onl.rf _ _) rfl rfl (fun i hi => by rw [if_neg (by omega)]))
theorem q_turnRound {K : Sg → Prop} (hr : TapeP σ r) (hP : TapeD σ r P) (p0 : 0 ≤ P 0 1) (p4 : P 0 1 ≤ 40) (hK : ∀ σ', Onl [r, r + 1, r + 2] σ σ' → TapeD σ' r (rvT P) → K σ') : Con l mX9_turnRound [.inr r] σ (PV K) := by
  obtain ⟨n, hn⟩ : ∃ n : Nat, P 0 1 = n := ⟨(P 0 1).toNat, by omega⟩
  have fin : ∀ i σ1, n - 1 ≤ i + i → Onl [r, r + 1, r + 2] σ σ1 → σ1.2.1 r = σ.2.1 r → (∀ z, z = 1 ∨ z = 2 → ∀ x, x < n → σ1.2.1 (r + z) x = if x < i ∨ n - 1 < i + x then σ.2.1 (r + z) (n - 1 - x) else σ.2.1 (r + z) x) → K σ1 := by
    intro i σ1 hi ho h0 h1
    refine hK σ1 ho ⟨by rw [h0]; exact hP.1, by rw [h0]; exact hP.2.1, fun x hx => ?_⟩
    have hx' : (x : Int) < P 0 1 := hx
    have e : rvT P 1 x = P 1 (n - 1 - x) ∧ rvT P 2 x = P 2 (n - 1 - x) := by
      unfold rvT; rw [if_pos ⟨Or.inl rfl, hx'⟩, if_pos ⟨Or.inr rfl, hx'⟩, hn, I_tn]; exact ⟨rfl, rfl⟩
    have g : ∀ z, z = 1 ∨ z = 2 → σ1.2.1 (r + z) x = σ.2.1 (r + z) (n - 1 - x) := fun z hz => by
      rw [h1 z hz x (by omega)]
      split
      · rfl
      · rename_i q; rw [show n - 1 - x = x by omega]
    rw [e.1, e.2, g 1 (Or.inl rfl), g 2 (Or.inr rfl)]
    exact hP.2.2 (n - 1 - x) (by omega)
  have F : ∀ d i σ1, n - i ≤ d → i ≤ n → Onl [r, r + 1, r + 2] σ σ1 → σ1.2.1 r = σ.2.1 r → (∀ z, z = 1 ∨ z = 2 → ∀ x, x < n → σ1.2.1 (r + z) x = if x < i ∨ n - 1 < i + x then σ.2.1 (r + z) (n - 1 - x) else σ.2.1 (r + z) x) → GW l mX9_turnRound 9 [(0, .inr r), (1, .inl (I ((n : Int) - 1 - i))), (2, .inl (I (i : Nat)))] [] σ1 0 0 (PV K) := by
    intro d
    induction d with
    | zero =>
      intro i σ1 hd hi ho h0 h1
      exact gX9_turnRound_9 ⟨fun _ => fin i σ1 (by omega) ho h0 h1, fun q => absurd ((I_le ⟨by omega, by omega⟩ ⟨by omega, by omega⟩).mpr (by omega)) q⟩
    | succ d ih =>
      intro i σ1 hd hi ho h0 h1
      have r1 := hr.onl ho
      have t1 : σ1.2.1 r 3 = I n := by rw [h0, hP.2.1, hn]
      refine gX9_turnRound_9 ⟨fun q => fin i σ1 ?_ ho h0 h1, fun q => ⟨r1.ob, ?_⟩⟩
      · rw [I_le ⟨by omega, by omega⟩ ⟨by omega, by omega⟩] at q; omega
      rw [I_le ⟨by omega, by omega⟩ ⟨by omega, by omega⟩] at q
      refine q_has r1 t1 (by omega) (by omega) ⟨by omega, by omega⟩ (fun _ _ => ⟨fun q => absurd q (by decide), fun _ => q_has r1 t1 (by omega) (by omega) ⟨by omega, by omega⟩ (fun _ _ => ⟨fun q => absurd q (by decide), fun _ => ?_⟩) (fun q => absurd ⟨by omega, by omega⟩ q)⟩) (fun q => absurd ⟨by omega, by omega⟩ q)
      have ej : (n : Int) - 1 - i = ((n - 1 - i : Nat) : Int) := by omega
      refine ⟨r1.a0 (by omega) (by omega), r1.a1 (by omega) (by omega), r1.a0 (by omega) (by omega), fun σ10 e10 => ?_⟩
      have r10 : TapeP σ10 r := r1.eq (by rw [e10]; exact Nat.le_refl _) (by rw [e10]; rfl)
      refine ⟨r10.a1 (by omega) (by omega), r10.a1 (by omega) (by omega), fun σ13 e13 => ?_⟩
      have r13 : TapeP σ13 r := r10.eq (by rw [e13]; exact Nat.le_refl _) (by rw [e13]; rfl)
      refine ⟨r13.a0 (by omega) (by omega), fun σ15 e15 => ?_⟩
      have r15 : TapeP σ15 r := r13.eq (by rw [e15]; exact Nat.le_refl _) (by rw [e15]; rfl)
      refine ⟨r15.a1 (by omega) (by omega), fun σ17 e17 => ?_⟩
      rw [ej] at e10 e13 e15 e17
      rw [r1.2.1.1, I_cln (by omega), I_cln (by omega)] at e10
      rw [r10.2.2.1, I_cln (by omega), I_cln (by omega)] at e13
      rw [r13.2.1.1, r1.2.1.1, I_cln (by omega), I_cln (by omega)] at e15
      rw [r15.2.2.1, r1.2.2.1, I_cln (by omega), I_cln (by omega)] at e17
      rw [show (-1 : Int32) = I (-1) from rfl, I_add, I_1, I_add, show (n : Int) - 1 - i + -1 = (n : Int) - 1 - ((i + 1 : Nat) : Int) by omega]
      have o10 : Onl [r, r + 1, r + 2] σ1 σ10 := Onl.w e10 (by simp)
      have o13 : Onl [r, r + 1, r + 2] σ10 σ13 := Onl.w e13 (by simp)
      have o15 : Onl [r, r + 1, r + 2] σ13 σ15 := Onl.w e15 (by simp)
      have o17 : Onl [r, r + 1, r + 2] σ15 σ17 := Onl.w e17 (by simp)
      refine ih (i + 1) σ17 (by omega) (by omega) ((((ho.tr o10).tr o13).tr o15).tr o17) (by rw [e17, w1_r (by omega), e15, w1_r (by omega), e13, w1_r (by omega), e10, w1_r (by omega), h0]) (fun z hz x hx => ?_)
      have g1 : σ17.2.1 (r + 1) x = if x = n - 1 - i then σ1.2.1 (r + 1) i else if x = i then σ1.2.1 (r + 1) (n - 1 - i) else σ1.2.1 (r + 1) x := by
        rw [e17, w1_r (by omega), e15]
        split
        · rename_i y; rw [y, w1_at]
        · rename_i y
          rw [w1_k y, e13, w1_r (by omega), e10]
          split
          · rename_i w; rw [w, w1_at]
          · rename_i w; rw [w1_k w]
      have g2 : σ17.2.1 (r + 2) x = if x = n - 1 - i then σ1.2.1 (r + 2) i else if x = i then σ1.2.1 (r + 2) (n - 1 - i) else σ1.2.1 (r + 2) x := by
        rw [e17]
        split
        · rename_i y; rw [y, w1_at]
        · rename_i y
          rw [w1_k y, e15, w1_r (by omega), e13]
          split
          · rename_i w; rw [w, w1_at, e10, w1_r (by omega)]
          · rename_i w; rw [w1_k w, e10, w1_r (by omega)]
      have g : σ17.2.1 (r + z) x = if x = n - 1 - i then σ1.2.1 (r + z) i else if x = i then σ1.2.1 (r + z) (n - 1 - i) else σ1.2.1 (r + z) x := by
        rcases hz with rfl | rfl
        · exact g1
        · exact g2
      rw [g]
      by_cases y : x = n - 1 - i
      · rw [if_pos y, h1 z hz i (by omega), if_neg (by omega), if_pos (by omega), show n - 1 - x = i by omega]
      · rw [if_neg y]
        by_cases w : x = i
        · rw [if_pos w, h1 z hz (n - 1 - i) (by omega), if_neg (by omega), if_pos (by omega), w]
        · rw [if_neg w, h1 z hz x hx]
          by_cases u : x < i ∨ n - 1 < i + x
          · rw [if_pos u, if_pos (by omega)]
          · rw [if_neg u, if_neg (by omega)]
  refine eX9_turnRound ⟨hr.ob, ?_⟩
  rw [hP.2.1, hn, I_1, I_sub]
  have := F n 0 σ (by omega) (by omega) (Onl.rf _ _) rfl (fun z hz x hx => by rw [if_neg (by omega)])
  rw [show (n : Int) - 1 - ((0 : Nat) : Int) = (n : Int) - 1 by omega] at this
  exact this
theorem q_slowDown {K : Int32 → Sg → Prop} {m : Nat} (hr : TapeP σ r) (hP : TapeD σ r P) (p0 : 0 ≤ P 0 1) (p4 : P 0 1 ≤ 40) (m1 : 1 ≤ m) (m9 : m ≤ 9) (h1 : P 0 1 * m ≤ 40 → ∀ σ', Onl [r, r + 1, r + 2] σ σ' → TapeD σ' r (slw P m) → K 1 σ') (h0 : ¬ P 0 1 * m ≤ 40 → K 0 σ) : Con l mX9_slowDown [.inr r, .inl (I m)] σ (PI K) := by
  obtain ⟨n, hn⟩ : ∃ n : Nat, P 0 1 = n := ⟨(P 0 1).toNat, by omega⟩
  have hnm : P 0 1 * m = ((n * m : Nat) : Int) := by rw [hn]; push_cast; rfl
  have big : n * m ≤ 360 := Nat.mul_le_mul (show n ≤ 40 by omega) m9
  refine eX9_slowDown ⟨fun q => ?_, fun _ => ⟨hr.ob, ?_⟩⟩
  · rw [I_1, I_lt ⟨by omega, by omega⟩ ⟨by omega, by omega⟩] at q; omega
  rw [hP.2.1, I_mul, hnm, L_lit, I_le' (by omega) (by omega) (by omega) (by omega)]
  refine ⟨fun q => ?_, fun q => h0 (by rw [hnm]; exact q)⟩
  have F : ∀ d, d ≤ n * m → ∀ σ1, Onl [r, r + 1, r + 2] σ σ1 → σ1.2.1 r = σ.2.1 r → (∀ z, z = 1 ∨ z = 2 → (∀ x, d ≤ x → x < n * m → σ1.2.1 (r + z) x = σ.2.1 (r + z) (x / m)) ∧ ∀ x, x < d → σ1.2.1 (r + z) x = σ.2.1 (r + z) x) → GW l mX9_slowDown 27 [(0, .inr r), (1, .inl (I m)), (2, .inl (I ((d : Int) - 1)))] [] σ1 0 0 (PI K) := by
    intro d
    induction d with
    | zero =>
      intro hd σ1 ho e0 hz
      refine gX9_slowDown_27 ⟨fun _ => ⟨(hr.onl ho).ob, fun σ3 e3 => ?_⟩, fun q => absurd ?_ q⟩
      · rw [e0, hP.2.1, I_mul, hnm] at e3
        refine h1 (by rw [hnm]; exact q) σ3 (ho.tr (Onl.w e3 (by simp))) ⟨?_, ?_, fun i hi => ?_⟩
        · rw [e3, w1_k (by omega), e0]; exact hP.1
        · rw [e3, w1_at, slw_01, hnm]; congr 1; omega
        · rw [slw_01, hnm] at hi
          rw [e3, w1_r (by omega), w1_r (by omega), (hz 1 (Or.inl rfl)).1 i (by omega) (by omega), (hz 2 (Or.inr rfl)).1 i (by omega) (by omega)]
          exact hP.2.2 (i / m) (div_lt' m1 (by rw [hnm]; omega))
      · rw [I_0]; exact (I_lt ⟨by omega, by omega⟩ ⟨by omega, by omega⟩).mpr (by omega)
    | succ d ih =>
      intro hd σ1 ho e0 hz
      have r1 := hr.onl ho
      obtain ⟨w, hw⟩ : ∃ w, w = d / m := ⟨_, rfl⟩
      have dm : w < n := by rw [hw]; exact (Nat.div_lt_iff_lt_mul (by omega)).mpr (by omega)
      have dle : w ≤ d := by rw [hw]; exact Nat.div_le_self _ _
      have ed : ((d + 1 : Nat) : Int) - 1 = (d : Int) := by omega
      rw [ed]
      have td : (d : Int).tdiv (m : Int) = (w : Int) := by rw [Int.tdiv_eq_ediv_of_nonneg (by omega), hw, Int.natCast_ediv]
      have dv : I (d : Int) / I (m : Int) = I (w : Int) := by
        rw [I_div ⟨by omega, by omega⟩ ⟨by omega, by omega⟩ (by rw [td]; exact ⟨by omega, by omega⟩), td]
      have mz : ¬ I (m : Int) = 0 := by rw [I_0, I_eq ⟨by omega, by omega⟩ ⟨by omega, by omega⟩]; omega
      refine gX9_slowDown_27 ⟨fun q => ?_, fun _ => ⟨r1.ob, mz, ?_⟩⟩
      · rw [I_0, I_lt ⟨by omega, by omega⟩ ⟨by omega, by omega⟩] at q; omega
      rw [dv]
      refine ⟨r1.a0 (by omega) (by omega), r1.a0 (by omega) (by omega), fun σ8 e8 => ⟨mz, ?_⟩⟩
      rw [r1.2.1.1, I_cln (by omega), I_cln (by omega)] at e8
      have r8 : TapeP σ8 r := r1.eq (by rw [e8]; exact Nat.le_refl _) (by rw [e8]; rfl)
      refine ⟨r8.a1 (by omega) (by omega), r8.a1 (by omega) (by omega), fun σ12 e12 => ?_⟩
      rw [r8.2.2.1, I_cln (by omega), I_cln (by omega)] at e12
      rw [show (-1 : Int32) = I (-1) from rfl, I_add, show (d : Int) + -1 = (d : Int) - 1 by omega]
      have v1 : σ8.2.1 (r + 1) d = σ.2.1 (r + 1) (d / m) := by rw [e8, w1_at, ← hw]; exact (hz 1 (Or.inl rfl)).2 _ (by omega)
      refine ih (by omega) σ12 ((ho.tr (Onl.w e8 (by simp))).tr (Onl.w e12 (by simp))) (by rw [e12, w1_r (by omega), e8, w1_r (by omega), e0]) (fun z hzz => ?_)
      rcases hzz with rfl | rfl
      · refine ⟨fun x hx hx2 => ?_, fun x hx => ?_⟩
        · rw [e12, w1_r (by omega)]
          by_cases y : x = d
          · rw [y, v1]
          · rw [e8, w1_k y]; exact (hz 1 (Or.inl rfl)).1 x (by omega) hx2
        · rw [e12, w1_r (by omega), e8, w1_k (by omega)]; exact (hz 1 (Or.inl rfl)).2 x (by omega)
      · refine ⟨fun x hx hx2 => ?_, fun x hx => ?_⟩
        · rw [e12]
          by_cases y : x = d
          · rw [y, w1_at, e8, w1_r (by omega), ← hw]; exact (hz 2 (Or.inr rfl)).2 _ (by omega)
          · rw [w1_k y, e8, w1_r (by omega)]; exact (hz 2 (Or.inr rfl)).1 x (by omega) hx2
        · rw [e12, w1_k (by omega), e8, w1_r (by omega)]; exact (hz 2 (Or.inr rfl)).2 x (by omega)
  have := F (n * m) (Nat.le_refl _) σ (Onl.rf _ _) rfl (fun z _ => ⟨fun x a b => absurd b (by omega), fun x _ => rfl⟩)
  rw [I_1, I_sub]
  exact this
end TOP
