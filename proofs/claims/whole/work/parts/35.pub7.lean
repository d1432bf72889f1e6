/-! public methods, 7: thick, count -/
section P8
variable {l : Launch} {σ σ' : Sg} {v v' : Vt} {c : Nat}
theorem m_thickL {B : Int} {x y w m : Nat} {k : Int} {K : Int32 → Sg → Prop} (hR : MR σ v) (hB : ∀ s, s < 256 → 0 ≤ v.2.2.2 1 s ∧ v.2.2.2 1 s ≤ B) (hB2 : B < 2147483648) (hx : x + w ≤ 16) (hw : 1 ≤ w) (hy : y + m ≤ 16) (hm : 1 ≤ m) (hk : Rg k) (h : ∀ a, a = recS (v.2.2.2 1) y x w m (v.2.2.2 1 (16 * y + x), 0, 0, 0) → (k = 0 → K (I a.1) σ) ∧ (k = 1 → K (I a.2.1) σ) ∧ (k = 2 → K (I a.2.2.1) σ) ∧ (¬ (0 ≤ k ∧ k ≤ 2) → K (I a.2.2.2) σ)) : GW l mX12_thick 75 [(0, .inr 82), (1, .inl (I x)), (2, .inl (I y)), (3, .inl (I ((x + w : Nat) - 1 : Int))), (4, .inl (I ((y + m : Nat) - 1 : Int))), (5, .inl (I k)), (6, .inl (I (v.2.2.2 1 (16 * y + x)))), (7, .inl (I 0)), (8, .inl (I 0)), (9, .inl (I 0)), (10, .inl (I y))] [] σ 0 0 (PI K) := by
  have hp0 := hB (16 * y + x) (by omega)
  have hinit : okS B (v.2.2.2 1 (16 * y + x), 0, 0, 0) := by unfold okS; dsimp only; omega
  have FI : ∀ n i j : Nat, i + n = w → j < m → (GW l mX12_thick 75 [(0, .inr 82), (1, .inl (I x)), (2, .inl (I y)), (3, .inl (I ((x + w : Nat) - 1 : Int))), (4, .inl (I ((y + m : Nat) - 1 : Int))), (5, .inl (I k)), (6, .inl (I (recS (v.2.2.2 1) y x w (j + 1) (v.2.2.2 1 (16 * y + x), 0, 0, 0)).1)), (7, .inl (I (recS (v.2.2.2 1) y x w (j + 1) (v.2.2.2 1 (16 * y + x), 0, 0, 0)).2.1)), (8, .inl (I (recS (v.2.2.2 1) y x w (j + 1) (v.2.2.2 1 (16 * y + x), 0, 0, 0)).2.2.1)), (9, .inl (I (recS (v.2.2.2 1) y x w (j + 1) (v.2.2.2 1 (16 * y + x), 0, 0, 0)).2.2.2)), (10, .inl (I ((y + j + 1 : Nat) : Int)))] [] σ 0 0 (PI K)) →
      ∀ a, a = rowS (v.2.2.2 1) (y + j) x i (recS (v.2.2.2 1) y x w j (v.2.2.2 1 (16 * y + x), 0, 0, 0)) → GW l mX12_thick 85 [(0, .inr 82), (1, .inl (I x)), (2, .inl (I y)), (3, .inl (I ((x + w : Nat) - 1 : Int))), (4, .inl (I ((y + m : Nat) - 1 : Int))), (5, .inl (I k)), (6, .inl (I a.1)), (7, .inl (I a.2.1)), (8, .inl (I a.2.2.1)), (9, .inl (I a.2.2.2)), (10, .inl (I ((y + j : Nat) : Int))), (11, .inl (I ((x + i : Nat) : Int)))] [] σ 0 0 (PI K) := by
    intro n
    induction n with
    | zero =>
      intro i j hi hj out a ea
      have : i = w := by omega
      subst this
      refine gX12_thick_85 ⟨fun _ => ?_, fun q => absurd ?_ q⟩
      · rw [I_1, I_add, ea]; exact out
      · exact (I_lt ⟨by omega, by omega⟩ ⟨by omega, by omega⟩).mpr (by omega)
    | succ n ih =>
      intro i j hi hj out a ea
      have hpj := hB (16 * (y + j) + (x + i)) (by omega)
      have hok : okS B a := by rw [ea]; exact rowS_ok hB (recS_ok hB hinit (by omega) j (by omega)) (by omega) i (by omega)
      obtain ⟨o1, o2, o3, o4⟩ := hok
      have nx := ih (i + 1) j (by omega) hj out (stp (v.2.2.2 1 (16 * (y + j) + (x + i))) a) (by rw [ea]; rfl)
      refine gX12_thick_85 ⟨fun q => ?_, fun _ => ⟨hR.1.ob, ?_⟩⟩
      · rw [I_lt ⟨by omega, by omega⟩ ⟨by omega, by omega⟩] at q; omega
      · rw [ix16, hR.pt (by omega) (by omega), show (16 * ((y + j : Nat) : Int) + ((x + i : Nat) : Int)).toNat = 16 * (y + j) + (x + i) by omega]
        refine ⟨hR.1.a38 (by omega) (by omega), ?_⟩
        have G : ∀ t0 : Int, (stp (v.2.2.2 1 (16 * (y + j) + (x + i))) a).2.2.2 = t0 → GW l mX12_thick 133 [(0, .inr 82), (1, .inl (I x)), (2, .inl (I y)), (3, .inl (I ((x + w : Nat) - 1 : Int))), (4, .inl (I ((y + m : Nat) - 1 : Int))), (5, .inl (I k)), (6, .inl (I a.1)), (7, .inl (I a.2.1)), (8, .inl (I a.2.2.1)), (9, .inl (I a.2.2.2)), (10, .inl (I ((y + j : Nat) : Int))), (11, .inl (I ((x + i : Nat) : Int))), (12, .inl (I (v.2.2.2 1 (16 * (y + j) + (x + i)))))] [.inl (I t0)] σ 0 0 (PI K) := by
          intro t0 e0
          refine gX12_thick_133 (q_min ⟨by omega, by omega⟩ ⟨by omega, by omega⟩ (q_max ⟨by omega, by omega⟩ ⟨by omega, by omega⟩ ?_))
          rw [I_1, I_add, I_add, ← e0]
          exact nx
        refine ⟨fun q => ⟨fun q2 => ?_, fun q2 => ?_⟩, fun q => ?_⟩
        · rw [I_le ⟨by omega, by omega⟩ ⟨by omega, by omega⟩] at q
          rw [I_eq ⟨by omega, by omega⟩ ⟨by omega, by omega⟩] at q2
          exact G _ (by unfold stp; dsimp only; rw [if_neg (by omega), if_neg q2])
        · rw [I_le ⟨by omega, by omega⟩ ⟨by omega, by omega⟩] at q
          rw [I_eq ⟨by omega, by omega⟩ ⟨by omega, by omega⟩] at q2
          rw [I_1, I_add]
          exact G _ (by unfold stp; dsimp only; rw [if_neg (by omega), if_pos q2])
        · rw [I_le ⟨by omega, by omega⟩ ⟨by omega, by omega⟩] at q
          exact G 1 (by unfold stp; dsimp only; rw [if_pos (by omega)])
  have FO : ∀ n j : Nat, j + n = m → ∀ a, a = recS (v.2.2.2 1) y x w j (v.2.2.2 1 (16 * y + x), 0, 0, 0) → GW l mX12_thick 75 [(0, .inr 82), (1, .inl (I x)), (2, .inl (I y)), (3, .inl (I ((x + w : Nat) - 1 : Int))), (4, .inl (I ((y + m : Nat) - 1 : Int))), (5, .inl (I k)), (6, .inl (I a.1)), (7, .inl (I a.2.1)), (8, .inl (I a.2.2.1)), (9, .inl (I a.2.2.2)), (10, .inl (I ((y + j : Nat) : Int)))] [] σ 0 0 (PI K) := by
    intro n
    induction n with
    | zero =>
      intro j hj a ea
      have : j = m := by omega
      subst this
      have hh := h a ea
      have k1 := hk.1; have k2 := hk.2
      refine gX12_thick_75 ⟨fun _ => ?_, fun q => absurd ?_ q⟩
      · simp (disch := omega) only [L_lit, I_eq']
        exact ⟨fun q => ⟨fun q2 => ⟨fun q3 => hh.2.2.2 (by omega), fun q3 => hh.2.2.1 q3⟩, fun q2 => hh.2.1 q2⟩, fun q => hh.1 q⟩
      · exact (I_lt ⟨by omega, by omega⟩ ⟨by omega, by omega⟩).mpr (by omega)
    | succ n ih =>
      intro j hj a ea
      refine gX12_thick_75 ⟨fun q => ?_, fun _ => ?_⟩
      · rw [I_lt ⟨by omega, by omega⟩ ⟨by omega, by omega⟩] at q; omega
      · exact FI w 0 j (by omega) (by omega) (ih (j + 1) (by omega) _ rfl) a ea
  exact FO m 0 (by omega) _ rfl
/-- the two beginnings of the greatest -/
theorem rowS_g {P : Nat → Int} {y x : Nat} {L G S N : Int} : ∀ n, (rowS P y x n (L, G, S, N)).1 = (rowS P y x n (L, 0, S, N)).1 ∧ (rowS P y x n (L, G, S, N)).2.2 = (rowS P y x n (L, 0, S, N)).2.2 := by
  intro n
  induction n with
  | zero => exact ⟨rfl, rfl⟩
  | succ n ih =>
    simp only [rowS, stp]
    rw [ih.1, ih.2]
    exact ⟨rfl, rfl⟩
/-- states alike but for the greatest -/
def Ak (a b : Int × Int × Int × Int) : Prop := a.1 = b.1 ∧ a.2.2 = b.2.2
theorem Ak.stp {a b : Int × Int × Int × Int} (h : Ak a b) (p : Int) : Ak (stp p a) (stp p b) := by
  obtain ⟨h1, h2⟩ := h
  refine ⟨?_, ?_⟩
  · show min a.1 p = min b.1 p; rw [h1]
  · show (a.2.2.1 + p, if p < a.1 then 1 else if p = a.1 then a.2.2.2 + 1 else a.2.2.2) = (b.2.2.1 + p, if p < b.1 then 1 else if p = b.1 then b.2.2.2 + 1 else b.2.2.2)
    rw [h1, h2]
theorem Ak.row {P : Nat → Int} {y x : Nat} {a b : Int × Int × Int × Int} (h : Ak a b) : ∀ n, Ak (rowS P y x n a) (rowS P y x n b) := by
  intro n
  induction n with
  | zero => exact h
  | succ n ih => exact ih.stp _
theorem Ak.rec {P : Nat → Int} {y x w : Nat} {a b : Int × Int × Int × Int} (h : Ak a b) : ∀ m, Ak (recS P y x w m a) (recS P y x w m b) := by
  intro m
  induction m with
  | zero => exact h
  | succ m ih => exact ih.row w
/-- a's greatest is the greater of g and b's -/
def Gg (g : Int) (a b : Int × Int × Int × Int) : Prop := a.2.1 = max g b.2.1
theorem Gg.row {P : Nat → Int} {y x : Nat} {g : Int} {a b : Int × Int × Int × Int} (h : Gg g a b) : ∀ n, Gg g (rowS P y x n a) (rowS P y x n b) := by
  intro n
  induction n with
  | zero => exact h
  | succ n ih =>
    show max (rowS P y x n a).2.1 _ = max g (max (rowS P y x n b).2.1 _)
    rw [ih]; omega
theorem Gg.rec {P : Nat → Int} {y x w : Nat} {g : Int} {a b : Int × Int × Int × Int} (h : Gg g a b) : ∀ m, Gg g (recS P y x w m a) (recS P y x w m b) := by
  intro m
  induction m with
  | zero => exact h
  | succ m ih => exact ih.row w
theorem rowS_up {P : Nat → Int} {y x : Nat} {a : Int × Int × Int × Int} : ∀ n, a.2.1 ≤ (rowS P y x n a).2.1 := by
  intro n
  induction n with
  | zero => exact Int.le_refl _
  | succ n ih => show a.2.1 ≤ max (rowS P y x n a).2.1 _; omega
theorem rowS_first {P : Nat → Int} {y x : Nat} {a : Int × Int × Int × Int} : ∀ n, P (16 * y + x) ≤ (rowS P y x (n + 1) a).2.1 := by
  intro n
  induction n with
  | zero => show P (16 * y + x) ≤ max a.2.1 (P (16 * y + (x + 0))); rw [Nat.add_zero]; omega
  | succ n ih => show P (16 * y + x) ≤ max (rowS P y x (n + 1) a).2.1 _; omega
theorem recS_first {P : Nat → Int} {y x w : Nat} {a : Int × Int × Int × Int} (hw : 1 ≤ w) : ∀ m, P (16 * y + x) ≤ (recS P y x w (m + 1) a).2.1 := by
  intro m
  induction m with
  | zero =>
    obtain ⟨n, rfl⟩ : ∃ n, w = n + 1 := ⟨w - 1, by omega⟩
    exact rowS_first n
  | succ m ih =>
    have := rowS_up (P := P) (y := y + (m + 1)) (x := x) (a := recS P y x w (m + 1) a) w
    show P (16 * y + x) ≤ (rowS P (y + (m + 1)) x w (recS P y x w (m + 1) a)).2.1
    omega
theorem recS_same {P : Nat → Int} {y x w m : Nat} (hw : 1 ≤ w) (hm : 1 ≤ m) (h0 : 0 ≤ P (16 * y + x)) : recS P y x w m (P (16 * y + x), P (16 * y + x), 0, 0) = recS P y x w m (P (16 * y + x), 0, 0, 0) := by
  obtain ⟨n, rfl⟩ : ∃ n, m = n + 1 := ⟨m - 1, by omega⟩
  have h1 : Ak (P (16 * y + x), P (16 * y + x), (0 : Int), (0 : Int)) (P (16 * y + x), 0, 0, 0) := ⟨rfl, rfl⟩
  have h2 : Gg (P (16 * y + x)) (P (16 * y + x), P (16 * y + x), (0 : Int), (0 : Int)) (P (16 * y + x), 0, 0, 0) := by show P (16 * y + x) = max (P (16 * y + x)) 0; omega
  have a := h1.rec (P := P) (y := y) (x := x) (w := w) (n + 1)
  have b : _ = max _ _ := h2.rec (P := P) (y := y) (x := x) (w := w) (n + 1)
  have f := recS_first (P := P) (y := y) (x := x) (w := w) (a := (P (16 * y + x), 0, 0, 0)) hw n
  have e : (recS P y x w (n + 1) (P (16 * y + x), P (16 * y + x), 0, 0)).2.1 = (recS P y x w (n + 1) (P (16 * y + x), 0, 0, 0)).2.1 := by rw [b]; omega
  exact Prod.ext a.1 (Prod.ext e a.2)
def okTh (x y u w k : Int) : Prop := (0 ≤ x ∧ x ≤ 15) ∧ (0 ≤ y ∧ y ≤ 15) ∧ (0 ≤ k ∧ k ≤ 3) ∧ (x ≤ u ∧ u ≤ 15) ∧ (y ≤ w ∧ w ≤ 15)
def thR (v : Vt) (x y u w : Int) : Int × Int × Int × Int := recS (v.2.2.2 1) y.toNat x.toNat (u - x + 1).toNat (w - y + 1).toNat (v.2.2.2 1 (16 * y.toNat + x.toNat), 0, 0, 0)
noncomputable def aThick (v : Vt) (x y u w k : Int) : Int := cif (okTh x y u w k) (if k = 0 then (thR v x y u w).1 else if k = 1 then (thR v x y u w).2.1 else if k = 2 then (thR v x y u w).2.2.1 else (thR v x y u w).2.2.2) (-1)
theorem C_thick {x y u w k : Int} (h : CR σ v) (hw : WF c v) (hx : Rg x) (hy : Rg y) (hu : Rg u) (hv : Rg w) (hk : Rg k) : Con l mX11_thick [.inr 1, .inl (I x), .inl (I y), .inl (I u), .inl (I w), .inl (I k)] σ (PI fun q σ' => q = I (aThick v x y u w k) ∧ CR σ' v ∧ CF σ σ') := by
  have no : ∀ {q : Int32}, q = -1 → ¬ okTh x y u w k → q = I (aThick v x y u w k) ∧ CR σ v ∧ CF σ σ := by
    intro q e hq
    unfold aThick; rw [cif_f hq]; exact ⟨e, h, CF.rf _⟩
  refine eX11_thick (q_within (b := 0) (c := 15) hx ⟨by omega, by omega⟩ ⟨by omega, by omega⟩ (fun x1 x2 => ⟨fun q => absurd q (by decide), fun _ => ?_⟩) (fun q => ⟨fun _ => no rfl (fun z => q z.1), fun q => absurd rfl q⟩))
  refine q_within (b := 0) (c := 15) hy ⟨by omega, by omega⟩ ⟨by omega, by omega⟩ (fun y1 y2 => ⟨fun q => absurd q (by decide), fun _ => ?_⟩) (fun q => ⟨fun _ => no rfl (fun z => q z.2.1), fun q => absurd rfl q⟩)
  refine q_within (b := 0) (c := 3) hk ⟨by omega, by omega⟩ ⟨by omega, by omega⟩ (fun k1 k2 => ⟨fun _ => ?_, fun q => absurd q (by decide)⟩) (fun q => ⟨fun q => absurd rfl q, fun _ => no rfl (fun z => q z.2.2.1)⟩)
  refine q_within (c := 15) hu hx ⟨by omega, by omega⟩ (fun u1 u2 => ⟨fun q => absurd q (by decide), fun _ => ?_⟩) (fun q => ⟨fun _ => no rfl (fun z => q z.2.2.2.1), fun q => absurd rfl q⟩)
  refine q_within (c := 15) hv hy ⟨by omega, by omega⟩ (fun w1 w2 => ⟨fun _ => ⟨h.1.o1, by rw [h.1.p1_3]; exact h.1.o57, ?_⟩, fun q => absurd q (by decide)⟩) (fun q => ⟨fun q => absurd rfl q, fun _ => no rfl (fun z => q z.2.2.2.2)⟩)
  rw [h.1.p1_3]
  have hb := hw.2.2.2.2.2.1
  have hc := hw.2.2.2.2.2.2
  have key := q_measure (l := l) (σ := σ) (P := v.2.2.2 1) (B := 1080 * c) (x := x.toNat) (y := y.toNat) (w := (u - x + 1).toNat) (m := (w - y + 1).toNat) (k := k) (K := fun q σ' => q = I (aThick v x y u w k) ∧ CR σ' v ∧ CF σ σ') h.1 h.2.2.2.2.2.1 hb (by omega) (by omega) (by omega) (by omega) (by omega) hk ?_
  · rw [show ((x.toNat : Nat) : Int) = x by omega, show ((y.toNat : Nat) : Int) = y by omega, show ((x.toNat + (u - x + 1).toNat : Nat) : Int) - 1 = u by omega, show ((y.toNat + (w - y + 1).toNat : Nat) : Int) - 1 = w by omega] at key
    exact key
  · intro a ea
    rw [recS_same (by omega) (by omega) (hb _ (by omega)).1] at ea
    have ok : okTh x y u w k := ⟨⟨x1, x2⟩, ⟨y1, y2⟩, ⟨k1, k2⟩, ⟨u1, u2⟩, w1, w2⟩
    have et : thR v x y u w = a := ea.symm
    unfold aThick
    rw [cif_t ok, et]
    exact ⟨fun q => ⟨by rw [if_pos q], h, CF.rf _⟩, fun q => ⟨by rw [if_neg (by omega), if_pos q], h, CF.rf _⟩, fun q => ⟨by rw [if_neg (by omega), if_neg (by omega), if_pos q], h, CF.rf _⟩, fun q => ⟨by rw [if_neg (by omega), if_neg (by omega), if_neg (by omega)], h, CF.rf _⟩⟩
theorem M_thick {x y u w k : Int} (h : MR σ v) (hw : WF c v) (hx : Rg x) (hy : Rg y) (hu : Rg u) (hv : Rg w) (hk : Rg k) : Con l mX12_thick [.inr 82, .inl (I x), .inl (I y), .inl (I u), .inl (I w), .inl (I k)] σ (PI fun q σ' => q = I (aThick v x y u w k) ∧ MR σ' v ∧ MF σ σ') := by
  have a1 := hx.1; have a2 := hx.2; have a3 := hy.1; have a4 := hy.2; have a5 := hu.1; have a6 := hu.2; have a7 := hv.1; have a8 := hv.2; have a9 := hk.1; have a10 := hk.2
  refine eX12_thick ⟨h.1.ob, fun σ2 e2 => ?_⟩
  obtain ⟨h, f⟩ := h.w e2 (by decide)
  have no : ∀ {q : Int32}, q = -1 → ¬ okTh x y u w k → q = I (aThick v x y u w k) ∧ MR σ2 v ∧ MF σ σ2 := by
    intro q e hq
    unfold aThick; rw [cif_f hq]; exact ⟨e, h, f⟩
  rw [ix16]
  have lit : ∀ n : Int32, n = n := fun _ => rfl
  refine ⟨fun q => ?_, fun q1 => ⟨fun q => ?_, fun q2 => ⟨fun q => ?_, fun q3 => ⟨fun q => ?_, fun q4 => ⟨fun q => ?_, fun q5 => ⟨fun q => ?_, fun q6 => ⟨fun q => ?_, fun q7 => ⟨fun q => ?_, fun q => ?_⟩⟩⟩⟩⟩⟩⟩⟩
  · rw [I_0, I_lt ⟨by omega, by omega⟩ ⟨by omega, by omega⟩] at q; exact no rfl (fun z => by have := z.1; omega)
  · rw [I_0, I_lt ⟨by omega, by omega⟩ ⟨by omega, by omega⟩] at q; exact no rfl (fun z => by have := z.2.1; omega)
  · rw [L_lit, I_lt ⟨by omega, by omega⟩ ⟨by omega, by omega⟩] at q; exact no rfl (fun z => by have := z.2.2.2.1; omega)
  · rw [L_lit, I_lt ⟨by omega, by omega⟩ ⟨by omega, by omega⟩] at q; exact no rfl (fun z => by have := z.2.2.2.2; omega)
  · rw [I_lt ⟨by omega, by omega⟩ ⟨by omega, by omega⟩] at q; exact no rfl (fun z => by have := z.2.2.2.1; omega)
  · rw [I_lt ⟨by omega, by omega⟩ ⟨by omega, by omega⟩] at q; exact no rfl (fun z => by have := z.2.2.2.2; omega)
  · rw [I_0, I_lt ⟨by omega, by omega⟩ ⟨by omega, by omega⟩] at q; exact no rfl (fun z => by have := z.2.2.1; omega)
  · rw [L_lit, I_le ⟨by omega, by omega⟩ ⟨by omega, by omega⟩] at q
    rw [I_0, I_lt ⟨by omega, by omega⟩ ⟨by omega, by omega⟩] at q1 q2 q7
    rw [L_lit, I_lt ⟨by omega, by omega⟩ ⟨by omega, by omega⟩] at q3 q4
    rw [I_lt ⟨by omega, by omega⟩ ⟨by omega, by omega⟩] at q5 q6
    refine ⟨h.1.a38 (by omega) (by omega), ?_⟩
    rw [h.pt (by omega) (by omega)]
    have hb := hw.2.2.2.2.2.1
    have hc := hw.2.2.2.2.2.2
    have ok : okTh x y u w k := ⟨⟨by omega, by omega⟩, ⟨by omega, by omega⟩, ⟨by omega, by omega⟩, ⟨by omega, by omega⟩, by omega, by omega⟩
    have key := m_thickL (l := l) (σ := σ2) (v := v) (B := 1080 * c) (x := x.toNat) (y := y.toNat) (w := (u - x + 1).toNat) (m := (w - y + 1).toNat) (k := k) (K := fun q σ' => q = I (aThick v x y u w k) ∧ MR σ' v ∧ MF σ σ') h hb (by omega) (by omega) (by omega) (by omega) (by omega) hk ?_
    · rw [show ((x.toNat : Nat) : Int) = x by omega, show ((y.toNat : Nat) : Int) = y by omega, show ((x.toNat + (u - x + 1).toNat : Nat) : Int) - 1 = u by omega, show ((y.toNat + (w - y + 1).toNat : Nat) : Int) - 1 = w by omega, show 16 * y.toNat + x.toNat = (16 * y + x).toNat by omega] at key
      exact key
    · intro a ea
      have et : thR v x y u w = a := ea.symm
      unfold aThick
      rw [cif_t ok, et]
      exact ⟨fun q => ⟨by rw [if_pos q], h, f⟩, fun q => ⟨by rw [if_neg (by omega), if_pos q], h, f⟩, fun q => ⟨by rw [if_neg (by omega), if_neg (by omega), if_pos q], h, f⟩, fun q => ⟨by rw [if_neg (by omega), if_neg (by omega), if_neg (by omega)], h, f⟩⟩
  · rw [L_lit, I_le ⟨by omega, by omega⟩ ⟨by omega, by omega⟩] at q; exact no rfl (fun z => by have := z.2.2.1; omega)
/-! count -/
def tks (v : Vt) : Nat → Int
  | 0 => 0
  | n + 1 => tks v n + v.2.1 n 0 1
def sumP (P : Nat → Int) : Nat → Int
  | 0 => 0
  | n + 1 => sumP P n + P n
theorem rowS_s {P : Nat → Int} {y : Nat} {a : Int × Int × Int × Int} : ∀ n, (rowS P y 0 n a).2.2.1 + sumP P (16 * y) = a.2.2.1 + sumP P (16 * y + n) := by
  intro n
  induction n with
  | zero => rfl
  | succ n ih =>
    show (rowS P y 0 n a).2.2.1 + P (16 * y + (0 + n)) + sumP P (16 * y) = a.2.2.1 + (sumP P (16 * y + n) + P (16 * y + n))
    rw [Nat.zero_add]; omega
theorem recS_s0 {P : Nat → Int} {a : Int × Int × Int × Int} : ∀ m, (recS P 0 0 16 m a).2.2.1 = a.2.2.1 + sumP P (16 * m) := by
  intro m
  induction m with
  | zero => show a.2.2.1 = a.2.2.1 + 0; omega
  | succ m ih =>
    have h := rowS_s (P := P) (y := m) (a := recS P 0 0 16 m a) 16
    show (rowS P (0 + m) 0 16 (recS P 0 0 16 m a)).2.2.1 = _
    rw [Nat.zero_add, show 16 * (m + 1) = 16 * m + 16 by omega]
    omega
theorem recS_s {P : Nat → Int} {a : Int × Int × Int × Int} (m : Nat) {z : Nat} (e : 16 * m = z) : (recS P 0 0 16 m a).2.2.1 = a.2.2.1 + sumP P z := by
  subst e; exact recS_s0 m
noncomputable def aCount (v : Vt) (k : Int) : Int := if k = 0 then v.2.2.1 0 else if k = 1 then v.2.2.1 1 else if k = 2 then tks v (v.2.2.1 1).toNat else if k = 3 then sumP (v.2.2.2 1) 256 else if k = 4 then cntP (v.2.2.2 1) 256 else if k = 5 then v.2.2.1 5 else -1
theorem q_allTicks {K : Int32 → Sg → Prop} (h : CR σ v) (hw : WF c v) (hK : K (I (tks v (v.2.2.1 1).toNat)) σ) : Con l mX7_allTicks [.inr 2] σ (PI K) := by
  have hw0 := hw.1
  have F : ∀ n j : Nat, (j : Int) + n = v.2.2.1 1 → GW l mX7_allTicks 4 [(0, .inr 2), (1, .inl (I (tks v j))), (2, .inl (I j))] [] σ 0 0 (PI K) := by
    intro n
    induction n with
    | zero =>
      intro j hj
      refine gX7_allTicks_4 ⟨h.1.o2, fun _ => ?_, fun q => absurd ?_ q⟩
      · rw [show (v.2.2.1 1).toNat = j by omega] at hK; exact hK
      · rw [h.2.2.2.1.1]; exact (I_le ⟨by omega, by omega⟩ ⟨by omega, by omega⟩).mpr (by omega)
    | succ n ih =>
      intro j hj
      refine gX7_allTicks_4 ⟨h.1.o2, fun q => ?_, fun _ => h.tp hw ⟨by omega, by omega⟩ (fun t e ht h10 => ⟨fun _ => ⟨(h.P h10).ob, ?_⟩, fun q => absurd q (by omega)⟩) (fun q => absurd ⟨by omega, by omega⟩ q)⟩
      · rw [h.2.2.2.1.1, I_le ⟨by omega, by omega⟩ ⟨by omega, by omega⟩] at q; omega
      · have : t = j := by omega
        subst this
        rw [(h.D ht).2.1, I_add, I_1, I_add]
        exact ih (t + 1) (by omega)
  exact eX7_allTicks (F (v.2.2.1 1).toNat 0 (by omega))
theorem C_count {k : Int} (h : CR σ v) (hw : WF c v) (hk : Rg k) : Con l mX11_count [.inr 1, .inl (I k)] σ (PI fun q σ' => q = I (aCount v k) ∧ CR σ' v ∧ CF σ σ') := by
  have hb := hw.2.2.2.2.2.1
  have hc := hw.2.2.2.2.2.2
  refine eX11_count ?_
  rw [toInt_I hk.1 hk.2, h.1.p1_0, h.1.p1_3]
  refine ⟨fun q => ⟨?_, h, CF.rf _⟩, fun q => ⟨h.1.o1, h.1.o2, ?_, h, CF.rf _⟩, fun q => ⟨h.1.o1, h.1.o2, ?_, h, CF.rf _⟩, fun q => ⟨h.1.o1, h.1.o2, q_allTicks h hw ⟨?_, h, CF.rf _⟩⟩, fun q => ⟨h.1.o1, h.1.o57, ?_⟩, fun q => ⟨h.1.o1, h.1.o57, q_painted h.1 h.2.2.2.2.2.1 hw.pb ⟨?_, h, CF.rf _⟩⟩, fun q => ⟨h.1.o1, ?_, h, CF.rf _⟩⟩
  · unfold aCount; rw [if_neg (by omega), if_neg (by omega), if_neg (by omega), if_neg (by omega), if_neg (by omega), if_neg (by omega)]; rfl
  · unfold aCount; rw [if_pos q]; exact h.2.2.1.1
  · unfold aCount; rw [if_neg (by omega), if_pos q]; exact h.2.2.2.1.1
  · unfold aCount; rw [if_neg (by omega), if_neg (by omega), if_pos q]
  · have key := q_measure (l := l) (σ := σ) (P := v.2.2.2 1) (B := 1080 * c) (x := 0) (y := 0) (w := 16) (m := 16) (k := 2) (K := fun q σ' => q = I (aCount v k) ∧ CR σ' v ∧ CF σ σ') h.1 h.2.2.2.2.2.1 hb (by omega) (by omega) (by omega) (by omega) (by omega) ⟨by omega, by omega⟩ ?_
    · exact key
    · intro a ea
      refine ⟨fun q => absurd q (by omega), fun q => absurd q (by omega), fun _ => ⟨?_, h, CF.rf _⟩, fun q => absurd (by omega) q⟩
      unfold aCount
      rw [if_neg (by omega), if_neg (by omega), if_neg (by omega), if_pos q, ea, recS_s 16 (show 16 * 16 = 256 by decide)]
      show I (0 + _) = _
      rw [Int.zero_add]
  · unfold aCount; rw [if_neg (by omega), if_neg (by omega), if_neg (by omega), if_neg (by omega), if_pos q]
  · unfold aCount; rw [if_neg (by omega), if_neg (by omega), if_neg (by omega), if_neg (by omega), if_neg (by omega), if_pos q]; exact h.2.2.2.2.2.2.1
theorem M_count {k : Int} (h : MR σ v) (hw : WF c v) (hk : Rg k) : Con l mX12_count [.inr 82, .inl (I k)] σ (PI fun q σ' => q = I (aCount v k) ∧ MR σ' v ∧ MF σ σ') := by
  have hw0 := hw.1
  refine eX12_count ⟨h.1.ob, fun σ2 e2 => ?_⟩
  obtain ⟨h, f⟩ := h.w e2 (by decide)
  rw [toInt_I hk.1 hk.2]
  have hal : Al σ2 (σ2.2.2 82 38) := by rw [h.1.k38]; exact ⟨by decide, by decide, Nat.le_trans (by decide) h.1.1⟩
  have hln : Int32.ofNat (shp (σ2.2.2 82 38)).2 = I 256 := by rw [h.1.k38]; rfl
  refine ⟨fun q => ⟨?_, h, f⟩, fun q => ⟨?_, h, f⟩, fun q => ⟨?_, h, f⟩, fun q => ?_, fun q => ?_, fun q => m_painted h hw.pb ⟨?_, h, f⟩, fun q => ⟨?_, h, f⟩⟩
  · unfold aCount; rw [if_neg (by omega), if_neg (by omega), if_neg (by omega), if_neg (by omega), if_neg (by omega), if_neg (by omega)]; rfl
  · unfold aCount; rw [if_pos q]; exact h.2.1.1
  · unfold aCount; rw [if_neg (by omega), if_pos q]; exact h.2.2.1.1
  · have F : ∀ n j : Nat, (j : Int) + n = v.2.2.1 1 → GW l mX12_count 60 [(0, .inr 82), (1, .inl (I k)), (2, .inl (I (tks v j))), (3, .inl (I j))] [] σ2 0 0 (PI fun q σ' => q = I (aCount v k) ∧ MR σ' v ∧ MF σ σ') := by
      intro n
      induction n with
      | zero =>
        intro j hj
        refine gX12_count_60 ⟨h.1.ob, fun _ => ⟨?_, h, f⟩, fun q => absurd ?_ q⟩
        · unfold aCount; rw [if_neg (by omega), if_neg (by omega), if_pos q, show (v.2.2.1 1).toNat = j by omega]
        · rw [h.2.2.1.1]; exact (I_le ⟨by omega, by omega⟩ ⟨by omega, by omega⟩).mpr (by omega)
      | succ n ih =>
        intro j hj
        refine gX12_count_60 ⟨h.1.ob, fun q => ?_, fun _ => ⟨h.1.a18 (by omega) (by omega), ?_⟩⟩
        · rw [h.2.2.1.1, I_le ⟨by omega, by omega⟩ ⟨by omega, by omega⟩] at q; omega
        · rw [h.tk (by omega) (by omega), I_add, I_1, I_add]
          exact ih (j + 1) (by omega)
    exact F (v.2.2.1 1).toNat 0 (by omega)
  · have F : ∀ n j : Nat, j + n = 256 → GW l mX12_count 87 [(0, .inr 82), (1, .inl (I k)), (2, .inl (I (sumP (v.2.2.2 1) j))), (3, .inl (I j))] [] σ2 0 0 (PI fun q σ' => q = I (aCount v k) ∧ MR σ' v ∧ MF σ σ') := by
      intro n
      induction n with
      | zero =>
        intro j hj
        have : j = 256 := by omega
        subst this
        refine gX12_count_87 ⟨h.1.ob, hal, fun _ => ⟨?_, h, f⟩, fun q => absurd ?_ q⟩
        · unfold aCount; rw [if_neg (by omega), if_neg (by omega), if_neg (by omega), if_pos q]
        · rw [hln]; exact (I_le ⟨by omega, by omega⟩ ⟨by omega, by omega⟩).mpr (by omega)
      | succ n ih =>
        intro j hj
        refine gX12_count_87 ⟨h.1.ob, hal, fun q => ?_, fun _ => ⟨h.1.a38 (by omega) (by omega), ?_⟩⟩
        · rw [hln, I_le ⟨by omega, by omega⟩ ⟨by omega, by omega⟩] at q; omega
        · rw [h.pt (by omega) (by omega), I_tn, I_add, I_1, I_add]
          exact ih (j + 1) (by omega)
    exact F 256 0 (by omega)
  · unfold aCount; rw [if_neg (by omega), if_neg (by omega), if_neg (by omega), if_neg (by omega), if_pos q]
  · unfold aCount; rw [if_neg (by omega), if_neg (by omega), if_neg (by omega), if_neg (by omega), if_neg (by omega), if_pos q]; exact h.2.2.2.2.2.1
end P8
