/-! play: strokes -/
theorem lp {P : Nat → Prop} {N : Nat} (h1 : P N) (h2 : ∀ j, j < N → P (j + 1) → P j) : ∀ j, j ≤ N → P j := by
  intro j hj
  obtain ⟨d, hd⟩ : ∃ d, j + d = N := ⟨N - j, by omega⟩
  induction d generalizing j with
  | zero => rw [show j = N by omega]; exact h1
  | succ d ih => exact h2 j (by omega) (ih (j + 1) (by omega) (by omega))
/-- a pose with a joint at another place -/
def wpo (p : Int) (j : Nat) (q : Int) : Int := p + (q - plc p j) * 16 ^ j
theorem andm : ∀ a : Nat, a < 64 → ∀ b : Nat, b < 64 → (64 * a + b) &&& 4294967280 = (64 * a + b) / 16 * 16 ∧ (64 * a + b) &&& 4294967055 = (64 * a + b) / 256 * 256 + (64 * a + b) % 16 ∧ (64 * a + b) &&& 4294963455 = (64 * a + b) % 256 := by decide
theorem orm : ∀ a : Nat, a < 16 → ∀ b : Nat, b < 16 → ∀ q : Nat, q < 16 → (16 * (16 * a + b)) ||| q = 16 * (16 * a + b) + q ∧ (256 * a + b) ||| (16 * q) = 256 * a + b + 16 * q ∧ (16 * a + b) ||| (256 * q) = 16 * a + b + 256 * q := by decide
theorem nI_bvof {x : Int32} {n : Nat} (h : x.toBitVec.toNat = n) : x = nI n := by
  subst h
  apply Int32.toBitVec_inj.mp
  show x.toBitVec = BitVec.ofInt 32 (x.toBitVec.toNat : Int)
  rw [BitVec.ofInt_natCast, BitVec.ofNat_toNat, BitVec.setWidth_eq]
theorem nI_bv {n : Nat} (h : n < 2 ^ 32) : (nI n).toBitVec.toNat = n := by
  show (BitVec.ofInt 32 (n : Int)).toNat = n
  rw [BitVec.ofInt_natCast, BitVec.toNat_ofNat]; omega
theorem and_nI {n : Nat} {m : Int32} {k : Nat} (h : n < 2 ^ 32) (hm : m.toBitVec.toNat = k) : nI n &&& m = nI (n &&& k) := by
  apply nI_bvof
  show ((nI n).toBitVec &&& m.toBitVec).toNat = _
  rw [BitVec.toNat_and, nI_bv h, hm]
theorem or_nI {n m : Nat} (h : n < 2 ^ 32) (hm : m < 2 ^ 32) : nI n ||| nI m = nI (n ||| m) := by
  apply nI_bvof
  show ((nI n).toBitVec ||| (nI m).toBitVec).toNat = _
  rw [BitVec.toNat_or, nI_bv h, nI_bv hm]
theorem shl_all : ∀ q : Nat, q < 16 → nI q <<< ((4 * I (0 : Nat)) &&& 31) = nI q ∧ nI q <<< ((4 * I (1 : Nat)) &&& 31) = nI (16 * q) ∧ nI q <<< ((4 * I (2 : Nat)) &&& 31) = nI (256 * q) := by decide
theorem wp_I {p q : Int} {j : Nat} (h0 : 0 ≤ p) (h1 : p < 4096) (hj : j < 3) (g0 : 0 ≤ q) (g1 : q < 16) : (I p &&& ((15 <<< ((4 * I j) &&& 31)) ^^^ (-1))) ||| (I q <<< ((4 * I j) &&& 31)) = I (wpo p j q) := by
  obtain ⟨n, rfl⟩ : ∃ n : Nat, p = n := ⟨p.toNat, by omega⟩
  obtain ⟨m, rfl⟩ : ∃ m : Nat, q = m := ⟨q.toNat, by omega⟩
  unfold wpo
  rw [plc_nat, ← I_nat n, ← I_nat m]
  have A := andm (n / 64) (by omega) (n % 64) (by omega)
  rw [show 64 * (n / 64) + n % 64 = n by omega] at A
  have S := shl_all m (by omega)
  match j, hj with
  | 0, _ =>
    have O := orm (n / 256) (by omega) (n / 16 % 16) (by omega) m (by omega)
    rw [S.1, and_nI (k := 4294967280) (by omega) (by decide), A.1, or_nI (by omega) (by omega), show n / 16 * 16 = 16 * (16 * (n / 256) + n / 16 % 16) by omega, O.1, I_nat]
    congr 1; omega
  | 1, _ =>
    have O := orm (n / 256) (by omega) (n % 16) (by omega) m (by omega)
    rw [S.2.1, and_nI (k := 4294967055) (by omega) (by decide), A.2.1, or_nI (by omega) (by omega), show n / 256 * 256 + n % 16 = 256 * (n / 256) + n % 16 by omega, O.2.1, I_nat]
    congr 1; omega
  | 2, _ =>
    have O := orm (n % 256 / 16) (by omega) (n % 16) (by omega) m (by omega)
    rw [S.2.2, and_nI (k := 4294963455) (by omega) (by decide), A.2.2, or_nI (by omega) (by omega), show n % 256 = 16 * (n % 256 / 16) + n % 16 by omega, O.2.2, I_nat]
    congr 1; omega
theorem wpo_rg {p q : Int} {j : Nat} (h0 : 0 ≤ p) (h1 : p < 4096) (hj : j < 3) (g0 : 0 ≤ q) (g1 : q < 16) : 0 ≤ wpo p j q ∧ wpo p j q < 4096 := by
  unfold wpo plc
  match j, hj with
  | 0, _ => omega
  | 1, _ => omega
  | 2, _ => omega
theorem wpo_same (p : Int) (j : Nat) : wpo p j (plc p j) = p := by unfold wpo; rw [Int.sub_self, Int.zero_mul, Int.add_zero]
/-- a worn joint's place, tick by tick -/
def wps (T : Nat → Nat → Int) (j : Nat) (k s c : Int) (i : Nat) (b : Int) : Int :=
  if s = 0 ∨ (i : Int) < c then plc (T 1 i) j else if k = 0 then plc (T 1 (max ((i : Int) - s) 0).toNat) j else if (i : Int) = c then plc (T 1 i) j else min (max b (plc (T 1 i) j - s)) (plc (T 1 i) j)
def wpl (T : Nat → Nat → Int) (j : Nat) (k s c : Int) : Nat → Int
  | 0 => wps T j k s c 0 0
  | i + 1 => wps T j k s c (i + 1) (wpl T j k s c i)
theorem wps_rg (T : Nat → Nat → Int) (j : Nat) (k c : Int) {s : Int} (i : Nat) {b : Int} (hs : 0 ≤ s) (hb : 0 ≤ b ∧ b < 16) : 0 ≤ wps T j k s c i b ∧ wps T j k s c i b < 16 := by
  have h1 := plc_rg (T 1 i) j
  have h2 := plc_rg (T 1 (max ((i : Int) - s) 0).toNat) j
  unfold wps
  split
  · exact h1
  · split
    · exact h2
    · split
      · exact h1
      · omega
theorem wpl_rg (T : Nat → Nat → Int) (j : Nat) (k c : Int) {s : Int} (hs : 0 ≤ s) : ∀ i, 0 ≤ wpl T j k s c i ∧ wpl T j k s c i < 16 := by
  intro i
  induction i with
  | zero => exact wps_rg T j k c 0 hs (by omega)
  | succ i ih => exact wps_rg T j k c (i + 1) hs ih
/-- the spot under the tip -/
def sptX (A : Nat → Nat → Int) (d o : Int) (p : Int) (i : Nat) : Int := (tip A p 0 - o - d * i) / 1000
def spt (A : Nat → Nat → Int) (d o : Int) (p : Int) (i : Nat) : Int :=
  if (0 ≤ sptX A d o p i ∧ sptX A d o p i ≤ 15) ∧ (0 ≤ tip A p 1 / 1000 ∧ tip A p 1 / 1000 ≤ 15) then 16 * (tip A p 1 / 1000) + sptX A d o p i else -1
theorem spt_rg (A : Nat → Nat → Int) (d o p : Int) (i : Nat) : -1 ≤ spt A d o p i ∧ spt A d o p i < 256 := by
  unfold spt; split <;> omega
def amt (T : Nat → Nat → Int) (z : Int) (i : Nat) : Int := T 2 i * z / 10
theorem mul2000 {d : Int} {i : Nat} (h1 : -2000 ≤ d) (h2 : d ≤ 2000) (hi : i < 40) : -80000 ≤ d * i ∧ d * i ≤ 80000 := by
  have a1 : (-2000) * (i : Int) ≤ d * i := Int.mul_le_mul_of_nonneg_right h1 (by omega)
  have a2 : d * (i : Int) ≤ 2000 * i := Int.mul_le_mul_of_nonneg_right h2 (by omega)
  omega
theorem amt_rg {x z : Int} (h0 : 0 ≤ x) (h9 : x ≤ 9) (g0 : 0 ≤ z) (g30 : z ≤ 30) : 0 ≤ x * z ∧ x * z ≤ 270 := by
  have a1 : x * z ≤ 9 * z := Int.mul_le_mul_of_nonneg_right h9 g0
  have a2 : 0 ≤ x * z := Int.mul_nonneg h0 g0
  omega
/-- what ticks a .. a + n - 1 lay -/
def lyP (f g P : Nat → Int) (a : Nat) : Nat → Nat → Int
  | 0, s => P s
  | n + 1, s => lyP f g P a n s + if f (a + n) = s then g (a + n) else 0
def lyN (f g : Nat → Int) (a : Nat) : Nat → Int
  | 0 => 0
  | n + 1 => lyN f g a n + if f (a + n) = -1 then 0 else g (a + n)
theorem lyP_rg {f g P : Nat → Int} {a : Nat} {B : Int} (s : Nat) (hP : 0 ≤ P s ∧ P s ≤ B) : ∀ n : Nat, (∀ i, a ≤ i → i < a + n → 0 ≤ g i ∧ g i ≤ 27) → 0 ≤ lyP f g P a n s ∧ lyP f g P a n s ≤ B + 27 * n := by
  intro n
  induction n with
  | zero => intro _; exact ⟨hP.1, by have := hP.2; show P s ≤ _; omega⟩
  | succ n ih =>
    intro h
    have h1 := ih (fun i a b => h i a (by omega))
    have h2 := h (a + n) (by omega) (by omega)
    show 0 ≤ lyP f g P a n s + (if f (a + n) = s then g (a + n) else 0) ∧ lyP f g P a n s + (if f (a + n) = s then g (a + n) else 0) ≤ _
    split <;> omega
section STK
variable {l : Launch} {σ σ' : Sg} {v v' : Vt} {c : Nat}
abbrev Scr (r : Nat) : Prop := 46 < r ∧ r ≠ 50 ∧ r ≠ 58 ∧ r ≠ 69 ∧ r ≠ 73 ∧ (r < 82 ∨ 119 < r)
def Onl (S : List Nat) (σ σ' : Sg) : Prop := σ'.1 = σ.1 ∧ σ'.2.2 = σ.2.2 ∧ ∀ r, r ∉ S → σ'.2.1 r = σ.2.1 r
theorem Onl.rf (S : List Nat) (σ : Sg) : Onl S σ σ := ⟨rfl, rfl, fun _ _ => rfl⟩
theorem Onl.tr {S : List Nat} {σ σ1 σ2 : Sg} (h1 : Onl S σ σ1) (h2 : Onl S σ1 σ2) : Onl S σ σ2 := ⟨h2.1.trans h1.1, h2.2.1.trans h1.2.1, fun r hr => (h2.2.2 r hr).trans (h1.2.2 r hr)⟩
theorem Onl.up {S S' : List Nat} {σ σ1 : Sg} (h : Onl S σ σ1) (hs : ∀ r ∈ S, r ∈ S') : Onl S' σ σ1 := ⟨h.1, h.2.1, fun r hr => h.2.2 r (fun q => hr (hs r q))⟩
theorem Onl.w {S : List Nat} {σ σ1 : Sg} {r k : Nat} {x : Int32} (e : σ1 = w1 σ r k x) (hr : r ∈ S) : Onl S σ σ1 := by
  subst e
  exact ⟨rfl, rfl, fun a ha => w1_r (fun q => ha (q ▸ hr))⟩
theorem Onl.C {S : List Nat} (h : Onl S σ σ') (hC : Cp σ) : Cp σ' := ⟨by rw [h.1]; exact hC.1, by rw [h.2.1]; exact hC.2⟩
theorem Onl.M {S : List Nat} (h : Onl S σ σ') (hM : Mp σ) : Mp σ' := ⟨by rw [h.1]; exact hM.1, by rw [h.2.1]; exact hM.2⟩
/-- the class's own scratch cells; the strokes' and the follower's pointers may change -/
def CSm (σ σ' : Sg) : Prop := σ'.1 = σ.1 ∧ (∀ r k, ¬ (r = 60 ∧ (k = 1 ∨ k = 2)) → ¬ (r = 120 ∧ k = 10) → σ'.2.2 r k = σ.2.2 r k) ∧ ∀ r, ¬ Scr r → σ'.2.1 r = σ.2.1 r
theorem CSm.rf (σ : Sg) : CSm σ σ := ⟨rfl, fun _ _ _ _ => rfl, fun _ _ => rfl⟩
theorem CSm.tr {σ σ1 σ2 : Sg} (h1 : CSm σ σ1) (h2 : CSm σ1 σ2) : CSm σ σ2 := ⟨h2.1.trans h1.1, fun r k a b => (h2.2.1 r k a b).trans (h1.2.1 r k a b), fun r hr => (h2.2.2 r hr).trans (h1.2.2 r hr)⟩
theorem Onl.cs {S : List Nat} (h : Onl S σ σ') (hs : ∀ r ∈ S, Scr r) : CSm σ σ' := ⟨h.1, fun r k _ _ => by rw [h.2.1], fun r hr => h.2.2 r (fun q => hr (hs r q))⟩
theorem ArmAt.cs {r : Nat} {A : Nat → Nat → Int} (h : ArmAt σ r A) (hc : CSm σ σ') (hr : r ≤ 10) : ArmAt σ' r A := by
  refine h.eq (Nat.le_of_eq hc.1.symm) (fun k hk => ⟨hc.2.2 _ (by omega), ?_⟩)
  funext b
  exact hc.2.1 _ _ (by omega) (by omega)
theorem CR.cs (h : CR σ v) (hc : CSm σ σ') (h10 : v.2.2.1 1 ≤ 10) : CR σ' v ∧ CF σ σ' := by
  obtain ⟨hn, h2, E⟩ := hc
  have R : ∀ r, r ≠ 60 → r ≠ 120 → σ'.2.2 r = σ.2.2 r := fun r a b => by
    funext k; exact h2 r k (by omega) (by omega)
  have E2 : ∀ r, r ≠ 60 → r ≠ 120 → ¬ Scr r → Eqc σ σ' r := fun r a b q => ⟨E r q, R r a b⟩
  obtain ⟨hC, hF, ha, ht, hx, hp⟩ := h
  refine ⟨⟨⟨by rw [hn]; exact hC.1, fun q hq => ?_⟩, ?_, ha.eq (Nat.le_of_eq hn.symm) (by rw [E 2 (by omega)]) (fun r a b => E2 r (by omega) (by omega) (by omega)) rfl rfl, ?_, hx.eq (by rw [E 45 (by omega)]) (E 46 (by omega)) (by rw [E 50 (by omega)]) (by rw [E 50 (by omega)]) rfl rfl rfl rfl, hp.eq (E 58 (by omega)) (E 1 (by omega)) (by rw [E 69 (by omega)]) (E 73 (by omega)) rfl rfl rfl rfl rfl rfl⟩, ⟨Nat.le_of_eq hn.symm, fun r a b => E2 r (by omega) (by omega) (by omega)⟩⟩
  · rw [h2 q.1 q.2.1]
    · exact hC.2 q hq
    · intro z
      have : ∀ q ∈ cptr, ¬ (q.1 = 60 ∧ (q.2.1 = 1 ∨ q.2.1 = 2)) := by decide
      exact this q hq z
    · intro z
      have : ∀ q ∈ cptr, ¬ (q.1 = 120 ∧ q.2.1 = 10) := by decide
      exact this q hq z
  · rcases hF with hF | ⟨f1, f2, f3⟩
    · left; rw [R 1 (by omega) (by omega), hn]; exact hF
    · right
      refine ⟨by rw [R 1 (by omega) (by omega)]; exact f1, ⟨by rw [hn]; exact f2.1, fun q hq => ?_⟩, fun k hk => by rw [R 131 (by omega) (by omega)]; exact f3 k hk⟩
      rw [h2 q.1 q.2.1]
      · exact f2.2 q hq
      · intro z
        have : ∀ q ∈ fptr, ¬ (q.1 = 60 ∧ (q.2.1 = 1 ∨ q.2.1 = 2)) := by decide
        exact this q hq z
      · intro z
        have : ∀ q ∈ fptr, ¬ (q.1 = 120 ∧ q.2.1 = 10) := by decide
        exact this q hq z
  · exact ht.eq (Nat.le_of_eq hn.symm) (by rw [E 2 (by omega)]) (by rw [E 2 (by omega)]) (fun r a b => E2 r (by omega) (by omega) (by omega)) (R 51 (by omega) (by omega)) (R 54 (by omega) (by omega)) rfl rfl h10
theorem CR.onl {S : List Nat} (h : CR σ v) (hw : WF c v) (ho : Onl S σ σ') (hs : ∀ r ∈ S, Scr r) : CR σ' v ∧ CF σ σ' := h.cs (ho.cs hs) (by have := hw.1; omega)
/-- the strokes are set on tape t -/
def Aim (σ : Sg) (v : Vt) (t : Nat) (d o : Int) : Prop := (t : Int) < v.2.2.1 1 ∧ (-2000 ≤ d ∧ d ≤ 2000) ∧ (-20000 ≤ o ∧ o ≤ 20000) ∧ σ.2.2 60 1 = 5 + 5 * (v.2.1 t 0 0).toNat ∧ σ.2.2 60 2 = 15 + 3 * t ∧ σ.2.1 60 3 = I d ∧ σ.2.1 60 4 = I o ∧ σ.2.1 60 5 = I (v.2.2.1 5)
theorem Aim.onl {S : List Nat} {t : Nat} {d o : Int} (h : Aim σ v t d o) (ho : Onl S σ σ') (hs : 60 ∉ S) : Aim σ' v t d o := by
  obtain ⟨h1, h2, h3, h4, h5, h6, h7, h8⟩ := h
  refine ⟨h1, h2, h3, by rw [ho.2.1]; exact h4, by rw [ho.2.1]; exact h5, by rw [ho.2.2 60 hs]; exact h6, by rw [ho.2.2 60 hs]; exact h7, by rw [ho.2.2 60 hs]; exact h8⟩
def okAim (v : Vt) (t d o : Int) : Prop := (0 ≤ t ∧ t < v.2.2.1 1) ∧ (-2000 ≤ d ∧ d ≤ 2000) ∧ (-20000 ≤ o ∧ o ≤ 20000)
theorem q_isDrift {K : Int32 → Sg → Prop} {d : Int} (hd : Rg d) (h1 : (-2000 ≤ d ∧ d ≤ 2000) → K 1 σ) (h0 : ¬ (-2000 ≤ d ∧ d ≤ 2000) → K 0 σ) : Con l mX11_isDrift [.inl (I d)] σ (PI K) :=
  eX11_isDrift (q_within (b := -2000) (c := 2000) hd ⟨by omega, by omega⟩ ⟨by omega, by omega⟩ (fun a b => ⟨Or.inr rfl, h1 ⟨a, b⟩⟩) (fun q => ⟨Or.inl rfl, h0 q⟩))
theorem q_aimed {K : Nat → Sg → Prop} {z d o : Int} (h : CR σ v) (hw : WF c v) (hz : Rg z) (hd : Rg d) (ho : Rg o) (h1 : ∀ (t a : Nat) σ', z = t → t < 10 → v.2.1 t 0 0 = a → a < 2 → 1 ≤ v.1 a 0 2 → okAim v z d o → CR σ' v → CF σ σ' → (∀ r, r ≠ 60 → σ'.2.1 r = σ.2.1 r) → Aim σ' v t d o → K (5 + 5 * a) σ') (h0 : ¬ okAim v z d o → K 0 σ) : Con l mX11_aimed [.inr 1, .inl (I z), .inl (I d), .inl (I o)] σ (PR K) := by
  have hw0 := hw.1
  refine eX11_aimed ⟨h.1.o1, h.1.os, h.tp' hw hz (fun t et ht h10 => ⟨h.1.os, h.ao' hw ht (fun a ea ha hj => ?_)⟩) (fun q => ⟨h.1.os, h.ao0' ⟨fun _ => h0 (fun y => q y.1), fun q => absurd rfl q⟩⟩)⟩
  refine ⟨fun q => absurd q (by omega), fun _ => ⟨fun q => absurd q (by omega), fun _ => ?_⟩⟩
  refine q_isDrift hd (fun b1 => ⟨fun q => absurd q (by decide), fun _ => ?_⟩) (fun q => ⟨fun _ => h0 (fun y => q y.2.1), fun q => absurd rfl q⟩)
  rw [show (-20000 : Int32) = I (-20000) by decide, show (20000 : Int32) = I 20000 by decide]
  refine q_within (b := -20000) (c := 20000) ho ⟨by omega, by omega⟩ ⟨by omega, by omega⟩ (fun c1 c2 => ⟨fun _ => ⟨by rw [h.1.p1_4]; exact h.1.o60, ?_⟩, fun q => absurd q (by decide)⟩) (fun q => ⟨fun q => absurd rfl q, fun _ => h0 (fun y => q y.2.2)⟩)
  rw [h.1.p1_4]
  have n0 := h.1.1
  refine eX8_aim ⟨h.1.o60, by omega, fun σ3 e3 => ⟨by rw [e3]; show _ ≤ σ.1; omega, fun σ5 e5 σ6 e6 σ7 e7 σ8 e8 => ?_⟩⟩
  have n8 : σ8.1 = σ.1 := by rw [e8, e7, e6, e5, e3]; rfl
  have E : ∀ r, r ≠ 60 → σ8.2.1 r = σ.2.1 r := fun r hr => by rw [e8, w1_r hr, e7, w1_r hr, e6, w1_r hr, e5, e3]; rfl
  have p8 : ∀ r k, σ8.2.2 r k = if r = 60 ∧ k = 2 then 15 + 3 * t else if r = 60 ∧ k = 1 then 5 + 5 * a else σ.2.2 r k := fun r k => by rw [e8, e7, e6, e5, e3]; rfl
  have hcs : CSm σ σ8 := ⟨n8, fun r k a b => by rw [p8, if_neg (by omega), if_neg (by omega)], fun r hr => E r (by omega)⟩
  obtain ⟨hc, hf⟩ := h.cs hcs (by omega)
  have hA : Aim σ8 v t d o := by
    refine ⟨ht, b1, ⟨c1, c2⟩, ?_, ?_, ?_, ?_, ?_⟩
    · rw [p8, if_neg (by omega), if_pos (by omega), ea, I_tn]
    · rw [p8, if_pos (by omega)]
    · rw [e8, w1_k (by omega), e7, w1_k (by omega), e6, w1_at]
    · rw [e8, w1_k (by omega), e7, w1_at]
    · rw [e8, w1_at]; exact h.2.2.2.2.2.2.1
  exact h1 t a σ8 et h10 ea ha hj ⟨⟨by omega, by omega⟩, b1, c1, c2⟩ hc hf E hA
end STK
