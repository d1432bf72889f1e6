/-! anew: what is missing, and the least cut -/
def zeroP : Nat → Int := fun _ => 0
def mis (f g P : Nat → Int) (n : Nat) (B : Int) (s : Nat) : Prop := P s < B ∧ B ≤ lyP f g zeroP 0 n s
def eno (f g P : Nat → Int) (n : Nat) (B : Int) (a m : Nat) : Prop := ∀ s, s < 256 → mis f g P n B s → B ≤ P s + lyP f g zeroP a m s
def Best (f g P : Nat → Int) (n : Nat) (B : Int) (p : Int × Int) : Prop := ∃ a m : Nat, p = ((a : Int), (a : Int) + m - 1) ∧ 1 ≤ m ∧ a + m ≤ n ∧ eno f g P n B a m ∧ ∀ a' m' : Nat, 1 ≤ m' → a' + m' ≤ n → eno f g P n B a' m' → m ≤ m' ∧ (m' = m → a ≤ a')
theorem Best.un {f g P : Nat → Int} {n : Nat} {B : Int} {p q : Int × Int} (h : Best f g P n B p) (h' : Best f g P n B q) : p = q := by
  obtain ⟨a, m, e, h1, h2, h3, h4⟩ := h
  obtain ⟨a', m', e', h1', h2', h3', h4'⟩ := h'
  have x := h4 a' m' h1' h2' h3'
  have y := h4' a m h1 h2 h3
  have : m = m' := by omega
  have : a = a' := by
    have := x.2 (by omega)
    have := y.2 (by omega)
    omega
  subst_vars; rfl
noncomputable def bst (f g P : Nat → Int) (n : Nat) (B : Int) : Int × Int := Classical.epsilon (Best f g P n B)
theorem bst_eq {f g P : Nat → Int} {n : Nat} {B : Int} {p : Int × Int} (h : Best f g P n B p) : bst f g P n B = p := (Classical.epsilon_spec (p := Best f g P n B) ⟨p, h⟩).un h
section LYM
variable {f g P : Nat → Int} {n : Nat} {B : Int}
theorem lyP_z (a : Nat) (m : Nat) (s : Nat) : lyP f g zeroP a (m + 1) s = lyP f g zeroP a m s + if f (a + m) = s then g (a + m) else 0 := rfl
theorem lyP_front (a : Nat) (s : Nat) : ∀ m, lyP f g zeroP a (m + 1) s = (if f a = s then g a else 0) + lyP f g zeroP (a + 1) m s := by
  intro m
  induction m with
  | zero => rw [lyP_z]; show (0 : Int) + (if f (a + 0) = s then g (a + 0) else 0) = _ + 0; rw [Nat.add_zero]; omega
  | succ m ih => rw [lyP_z, ih, lyP_z, show a + (m + 1) = a + 1 + m by omega]; omega
theorem lyP_pos (hg : ∀ i, i < n → 0 ≤ g i) (a : Nat) (s : Nat) : ∀ m, a + m ≤ n → 0 ≤ lyP f g zeroP a m s := by
  intro m
  induction m with
  | zero => intro _; exact Int.le_refl 0
  | succ m ih =>
    intro h
    have h1 := ih (by omega)
    have h2 := hg (a + m) (by omega)
    rw [lyP_z]; split <;> omega
theorem lyP_grow (hg : ∀ i, i < n → 0 ≤ g i) (a : Nat) (s : Nat) (m : Nat) (h : a + (m + 1) ≤ n) : lyP f g zeroP a m s ≤ lyP f g zeroP a (m + 1) s := by
  have h2 := hg (a + m) (by omega)
  rw [lyP_z]; split <;> omega
theorem lyP_shrink (hg : ∀ i, i < n → 0 ≤ g i) (a : Nat) (s : Nat) (m : Nat) (h : a + (m + 1) ≤ n) : lyP f g zeroP (a + 1) m s ≤ lyP f g zeroP a (m + 1) s := by
  have h2 := hg a (by omega)
  rw [lyP_front]; split <;> omega
theorem eno_shrink (hg : ∀ i, i < n → 0 ≤ g i) {a m : Nat} (h : a + (m + 1) ≤ n) (he : eno f g P n B (a + 1) m) : eno f g P n B a (m + 1) := by
  intro s hs hm
  have h1 := he s hs hm
  have h2 := lyP_shrink (f := f) hg a s m h
  omega
theorem eno_all (hP : ∀ s, s < 256 → 0 ≤ P s) : eno f g P n B 0 n := by
  intro s hs hm
  have h1 := hP s hs
  have h2 := hm.2
  omega
theorem cntP_nn (Z : Nat → Int) : ∀ k, 0 ≤ cntP Z k ∧ cntP Z k ≤ k := by
  intro k
  induction k with
  | zero => exact ⟨Int.le_refl 0, Int.le_refl 0⟩
  | succ k ih => show 0 ≤ cntP Z k + (if Z k ≤ 0 then 0 else 1) ∧ cntP Z k + (if Z k ≤ 0 then 0 else 1) ≤ _; split <;> omega
theorem cntP_0 (Z : Nat → Int) : ∀ k, cntP Z k = 0 ↔ ∀ s, s < k → Z s ≤ 0 := by
  intro k
  induction k with
  | zero => exact ⟨fun _ s hs => absurd hs (by omega), fun _ => rfl⟩
  | succ k ih =>
    have h1 := cntP_nn Z k
    show cntP Z k + (if Z k ≤ 0 then 0 else 1) = 0 ↔ _
    refine ⟨fun h s hs => ?_, fun h => ?_⟩
    · by_cases e : Z k ≤ 0
      · rw [if_pos e] at h
        by_cases q : s = k
        · rw [q]; exact e
        · exact (ih.mp (by omega)) s (by omega)
      · rw [if_neg e] at h; omega
    · rw [if_pos (h k (by omega)), ih.mpr (fun s hs => h s (by omega))]; rfl
theorem cntP_congr {Z Z' : Nat → Int} : ∀ k, (∀ s, s < k → Z s = Z' s) → cntP Z k = cntP Z' k := by
  intro k
  induction k with
  | zero => intro _; rfl
  | succ k ih => intro h; show cntP Z k + (if Z k ≤ 0 then 0 else 1) = cntP Z' k + (if Z' k ≤ 0 then 0 else 1); rw [ih (fun s hs => h s (by omega)), h k (by omega)]
theorem cntP_upd {Z Z' : Nat → Int} {s : Nat} (h : ∀ s', s' ≠ s → Z' s' = Z s') : ∀ k, s < k → cntP Z' k = cntP Z k + (if Z' s ≤ 0 then 0 else 1) - (if Z s ≤ 0 then 0 else 1) := by
  intro k
  induction k with
  | zero => intro q; omega
  | succ k ih =>
    intro hs
    show cntP Z' k + (if Z' k ≤ 0 then 0 else 1) = cntP Z k + (if Z k ≤ 0 then 0 else 1) + _ - _
    by_cases e : s = k
    · subst e
      rw [cntP_congr s (fun s' hs' => h s' (by omega))]; omega
    · rw [ih (by omega), h k (by omega)]; omega
/-- what a spot lacks, when ticks a .. a + m - 1 are in the cut -/
noncomputable def lck (f g P : Nat → Int) (n : Nat) (B : Int) (a m : Nat) (s : Nat) : Int := cif (mis f g P n B s) (B - P s) 0 - lyP f g zeroP a m s
theorem lck_en (hg : ∀ i, i < n → 0 ≤ g i) {a m : Nat} (h : a + m ≤ n) : cntP (lck f g P n B a m) 256 = 0 ↔ eno f g P n B a m := by
  rw [cntP_0]
  refine ⟨fun h1 s hs hm => ?_, fun h1 s hs => ?_⟩
  · have := h1 s hs
    unfold lck at this
    rw [cif_t hm] at this; omega
  · unfold lck
    by_cases hm : mis f g P n B s
    · have := h1 s hs hm
      rw [cif_t hm]; omega
    · have := lyP_pos (f := f) hg a s m h
      rw [cif_f hm]; omega
theorem lck_0 : cntP (lck f g P n B 0 0) 256 = 0 ↔ ¬ ∃ s, s < 256 ∧ mis f g P n B s := by
  rw [cntP_0]
  refine ⟨fun h1 ⟨s, hs, hm⟩ => ?_, fun h1 s hs => ?_⟩
  · have := h1 s hs
    unfold lck at this
    rw [cif_t hm] at this
    have h2 := hm.1
    have : lyP f g zeroP 0 0 s = 0 := rfl
    omega
  · unfold lck
    rw [cif_f (fun hm => h1 ⟨s, hs, hm⟩)]
    show (0 : Int) - 0 ≤ 0; omega
theorem lck_rg (hB : 1 ≤ B ∧ B ≤ 99) (hP : ∀ s, s < 256 → 0 ≤ P s) (hg : ∀ i, i < n → 0 ≤ g i ∧ g i ≤ 27) (hn : n ≤ 40) {a m : Nat} (h : a + m ≤ n) {s : Nat} (hs : s < 256) : -2000 ≤ lck f g P n B a m s ∧ lck f g P n B a m s ≤ 2000 := by
  have h1 := lyP_rg (f := f) (g := g) (P := zeroP) (a := a) (B := 0) s ⟨Int.le_refl 0, Int.le_refl 0⟩ m (fun i a b => hg i (by omega))
  have h2 := hP s hs
  unfold lck
  by_cases hm : mis f g P n B s
  · have := hm.1
    rw [cif_t hm]; omega
  · rw [cif_f hm]; omega
end LYM
section ANW
variable {l : Launch} {σ σ' : Sg} {v v' : Vt} {c : Nat} {t : Nat} {d o : Int} {f : Nat → Int}
/-- spots are drawn -/
def Drw (σ : Sg) (v : Vt) (t : Nat) (f : Nat → Int) : Prop := ∀ i : Nat, (i : Int) < v.2.1 t 0 1 → σ.2.1 61 i = I (f i) ∧ -1 ≤ f i ∧ f i < 256
theorem Drw.onl {S : List Nat} (h : Drw σ v t f) (ho : Onl S σ σ') (hs : 61 ∉ S) : Drw σ' v t f := fun i hi => by rw [ho.2.2 61 hs]; exact h i hi
def LkS (σ : Sg) (Z : Nat → Int) : Prop := (∀ s, s < 256 → σ.2.1 59 s = I (Z s)) ∧ σ.2.1 57 2 = I (cntP Z 256)
theorem q_change {K : Sg → Prop} {i : Nat} {Z : Nat → Int} {y : Int} (h : CR σ v) (hw : WF c v) (hA : Aim σ v t d o) (hD : Drw σ v t f) (hi : (i : Int) < v.2.1 t 0 1) (hL : LkS σ Z) (hZ : ∀ s, s < 256 → -2000 ≤ Z s ∧ Z s ≤ 2000) (hy : y = 1 ∨ y = -1) (hK : ∀ σ', Onl [57, 59] σ σ' → (∀ k, k ≠ 2 → σ'.2.1 57 k = σ.2.1 57 k) → LkS σ' (fun s => Z s - if f i = s then y * amt (v.2.1 t) (v.2.2.1 5) i else 0) → K σ') : Con l mX2_change [.inr 57, .inr 60, .inl (I i), .inl (I y)] σ (PV K) := by
  obtain ⟨a, ea, ha, ht, ht1, hwf, hj1, n0, n40, hpo⟩ := hA.w hw
  have hw0 := hw.1
  have hfi := hD i hi
  have ar := amt_rg (z := v.2.2.1 5) (hpo i hi).2.1 (hpo i hi).2.2 (by omega) (by omega)
  have ar2 : 0 ≤ amt (v.2.1 t) (v.2.2.1 5) i ∧ amt (v.2.1 t) (v.2.2.1 5) i ≤ 27 := by unfold amt; omega
  refine eX2_change ⟨h.1.o60, q_spotAt8 h (by omega) ?_⟩
  rw [hfi.1]
  simp (disch := omega) only [I_0, L_lit, I_lt']
  refine ⟨fun q => ?_, fun q => ⟨fun _ => ?_, fun q => absurd (by omega) q⟩⟩
  · refine hK σ (Onl.rf _ _) (fun _ _ => rfl) ?_
    have : (fun s : Nat => Z s - if f i = (s : Int) then y * amt (v.2.1 t) (v.2.2.1 5) i else 0) = Z := by
      funext s; rw [if_neg (by omega), Int.sub_zero]
    rw [this]; exact hL
  · obtain ⟨s, hs⟩ : ∃ s : Nat, f i = s := ⟨(f i).toNat, by omega⟩
    have s256 : s < 256 := by omega
    have zs := hZ s s256
    have yb : -27 ≤ y * amt (v.2.1 t) (v.2.2.1 5) i ∧ y * amt (v.2.1 t) (v.2.2.1 5) i ≤ 27 := by
      rcases hy with rfl | rfl <;> omega
    have key : ∀ w : Int, w = (if Z s ≤ 0 then 0 else 1) → GW l mX2_change 36 [(0, .inr 57), (1, .inr 60), (2, .inl (I i)), (3, .inl (I y)), (4, .inl (I s))] [.inl (I w)] σ 0 0 (PV K) := by
      intro w ew
      refine gX2_change_36 ⟨h.1.o57, h.1.a57_1 (by omega) (by omega), h.1.o60, q_amount h hw hA hi (fun σ5 e5 => ?_)⟩
      rw [h.1.p57_1, I_cln (by omega), hL.1 s s256, I_mul, I_sub] at e5
      have o5 : Onl [57, 59] σ σ5 := Onl.w e5 (by decide)
      have C5 := o5.C h.1
      have v5 : σ5.2.1 (σ5.2.2 57 1) (I (s : Int)).toNatClampNeg = I (Z s - y * amt (v.2.1 t) (v.2.2.1 5) i) := by rw [C5.p57_1, I_cln (by omega), e5, w1_at]
      have c5 : σ5.2.1 57 2 = I (cntP Z 256) := by rw [e5, w1_r (by omega)]; exact hL.2
      rw [v5, c5]
      have up := cntP_upd (Z := Z) (Z' := fun s' => Z s' - if f i = s' then y * amt (v.2.1 t) (v.2.2.1 5) i else 0) (s := s) (fun s' hs' => by rw [if_neg (by omega), Int.sub_zero]) 256 s256
      rw [if_pos hs] at up
      have done : ∀ (x : Int) σ9, x = (if Z s - y * amt (v.2.1 t) (v.2.2.1 5) i ≤ 0 then 0 else 1) → σ9 = w1 σ5 57 2 (I (cntP Z 256) + (I x - I w)) → K σ9 := by
        intro x σ9 ex e9
        rw [I_sub, I_add] at e9
        refine hK σ9 (o5.tr (Onl.w e9 (by decide))) (fun k hk => by rw [e9, w1_k hk, e5, w1_r (by omega)]) ⟨fun s' hs' => ?_, ?_⟩
        · rw [e9, w1_r (by omega), e5]
          show _ = I (Z s' - if f i = (s' : Int) then y * amt (v.2.1 t) (v.2.2.1 5) i else 0)
          by_cases q : s' = s
          · rw [q, w1_at, if_pos hs]
          · rw [w1_k q, hL.1 s' hs', if_neg (by omega), Int.sub_zero]
        · rw [e9, w1_at, up, ← ex, ← ew, Int.add_sub_assoc]
      refine ⟨C5.a57_1 (by omega) (by omega), fun q σ8 e8 => ?_, fun q σ9 e9 => ?_⟩
      · rw [I_0, I_le ⟨by omega, by omega⟩ ⟨by omega, by omega⟩] at q
        exact done 0 σ8 (by rw [if_pos q]) e8
      · rw [I_0, I_le ⟨by omega, by omega⟩ ⟨by omega, by omega⟩] at q
        exact done 1 σ9 (by rw [if_neg q]) e9
    rw [hs]
    refine ⟨h.1.o57, h.1.a57_1 (by omega) (by omega), fun q => ?_, fun q => ?_⟩
    · rw [h.1.d57_1 (by omega) (by omega), I_tn, hL.1 s s256, I_le ⟨by omega, by omega⟩ ⟨by omega, by omega⟩] at q
      exact key 0 (by rw [if_pos q])
    · rw [h.1.d57_1 (by omega) (by omega), I_tn, hL.1 s s256, I_le ⟨by omega, by omega⟩ ⟨by omega, by omega⟩] at q
      exact key 1 (by rw [if_neg q])
end ANW
