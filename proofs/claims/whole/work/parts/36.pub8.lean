/-! public methods, 8: apart, feed -/
section P8b
variable {l : Launch} {σ σ' : Sg} {v v' : Vt} {c : Nat}
theorem Cp.os (h : Cp σ) : Ob σ (σ.2.2 1 0) 7 := by rw [h.p1_0]; exact h.o2
theorem CR.tp' (h : CR σ v) (hw : WF c v) {K : Nat → Sg → Prop} {z : Int} (hz : Rg z) (h1 : ∀ t : Nat, z = t → (t : Int) < v.2.2.1 1 → t < 10 → K (15 + 3 * t) σ) (h0 : ¬ (0 ≤ z ∧ z < v.2.2.1 1) → K 0 σ) : Con l mX7_tapeAt [.inr (σ.2.2 1 0), .inl (I z)] σ (PR K) := by
  rw [h.1.p1_0]; exact h.tp hw hz h1 h0
theorem CR.ar' (h : CR σ v) (hw : WF c v) {K : Nat → Sg → Prop} {z : Int} (hz : Rg z) (h1 : ∀ a : Nat, z = a → (a : Int) < v.2.2.1 0 → a < 2 → K (5 + 5 * a) σ) (h0 : ¬ (0 ≤ z ∧ z < v.2.2.1 0) → K 0 σ) : Con l mX7_armAt [.inr (σ.2.2 1 0), .inl (I z)] σ (PR K) := by
  rw [h.1.p1_0]; exact h.ar hw hz h1 h0
theorem CR.ao' (h : CR σ v) (hw : WF c v) {K : Nat → Sg → Prop} {t : Nat} (ht : (t : Int) < v.2.2.1 1) (hk : ∀ a : Nat, v.2.1 t 0 0 = a → a < 2 → 1 ≤ v.1 a 0 2 → K (5 + 5 * a) σ) : Con l mX7_armOf [.inr (σ.2.2 1 0), .inr (15 + 3 * t)] σ (PR K) := by
  rw [h.1.p1_0]; exact h.ao hw ht hk
theorem CR.ao0' (h : CR σ v) {K : Nat → Sg → Prop} (hk : K 0 σ) : Con l mX7_armOf [.inr (σ.2.2 1 0), .inr 0] σ (PR K) := by
  rw [h.1.p1_0]; exact q_armOf0 hk
theorem mul6 {a x : Int} (h0 : 0 ≤ a) (h6 : a ≤ 6) (h1 : -1000 ≤ x) (h2 : x ≤ 1000) : -6000 ≤ a * x ∧ a * x ≤ 6000 := by
  have : a = 0 ∨ a = 1 ∨ a = 2 ∨ a = 3 ∨ a = 4 ∨ a = 5 ∨ a = 6 := by omega
  rcases this with rfl | rfl | rfl | rfl | rfl | rfl | rfl <;> omega
theorem rch_rg {A : Nat → Nat → Int} (hw : ArmWf A) (p t : Int) : ∀ k : Nat, k ≤ 3 → -6000 * (k : Int) ≤ rch A p t k ∧ rch A p t k ≤ 6000 * (k : Int) := by
  intro k
  induction k with
  | zero => intro _; exact ⟨by show _ ≤ (0 : Int); omega, by show (0 : Int) ≤ _; omega⟩
  | succ k ih =>
    intro hk
    have h1 := ih (by omega)
    have h2 := hw.2.1 k (by omega)
    have h3 := mul6 h2.1 h2.2.1 (xti_rg (t + dsm p (k + 1))).1 (xti_rg (t + dsm p (k + 1))).2
    show _ ≤ rch A p t k + A 1 k * xti (t + dsm p (k + 1)) ∧ rch A p t k + A 1 k * xti (t + dsm p (k + 1)) ≤ _
    omega
theorem pnt_rg {A : Nat → Nat → Int} (hw : ArmWf A) (p : Int) {k w : Nat} (hk : k ≤ 3) (h : w = 0 ∨ w = 1) : -18000 ≤ pnt A p k w ∧ pnt A p k w ≤ 38000 := by
  have h1 := hw.1
  have h2 := rch_rg hw p (if w = 0 then 0 else 12) k hk
  unfold pnt
  rcases h with rfl | rfl <;> omega
theorem tip_rg {A : Nat → Nat → Int} (hw : ArmWf A) (p : Int) {w : Nat} (h : w = 0 ∨ w = 1) : -18000 ≤ tip A p w ∧ tip A p w ≤ 38000 := by
  have h1 := hw.1
  exact pnt_rg hw p (by omega) h
def iab (z : Int) : Int := if 0 ≤ z then z else -z
theorem iab_rg {z b : Int} (h1 : -b ≤ z) (h2 : z ≤ b) : 0 ≤ iab z ∧ iab z ≤ b := by unfold iab; split <;> omega
/-- how far the tips of two tapes are apart at a tick -/
def tpa (v : Vt) (a b i : Nat) : Int := max (iab (tip (v.1 (v.2.1 a 0 0).toNat) (v.2.1 a 1 i) 0 - tip (v.1 (v.2.1 b 0 0).toNat) (v.2.1 b 1 i) 0)) (iab (tip (v.1 (v.2.1 a 0 0).toNat) (v.2.1 a 1 i) 1 - tip (v.1 (v.2.1 b 0 0).toNat) (v.2.1 b 1 i) 1))
theorem tpa_rg (hw : WF c v) {a b : Nat} (i : Nat) (ha : (a : Int) < v.2.2.1 1) (hb : (b : Int) < v.2.2.1 1) : 0 ≤ tpa v a b i ∧ tpa v a b i ≤ 56000 := by
  have hw0 := hw.1
  have h1 := hw.2.2.2.1 a ha
  have h2 := hw.2.2.2.1 b hb
  have w1 := (hw.2.2.1 (v.2.1 a 0 0).toNat (by omega)).1
  have w2 := (hw.2.2.1 (v.2.1 b 0 0).toNat (by omega)).1
  have e1 := tip_rg w1 (v.2.1 a 1 i) (Or.inl rfl)
  have e2 := tip_rg w2 (v.2.1 b 1 i) (Or.inl rfl)
  have e3 := tip_rg w1 (v.2.1 a 1 i) (Or.inr rfl)
  have e4 := tip_rg w2 (v.2.1 b 1 i) (Or.inr rfl)
  have f1 := iab_rg (z := tip (v.1 (v.2.1 a 0 0).toNat) (v.2.1 a 1 i) 0 - tip (v.1 (v.2.1 b 0 0).toNat) (v.2.1 b 1 i) 0) (b := 56000) (by omega) (by omega)
  have f2 := iab_rg (z := tip (v.1 (v.2.1 a 0 0).toNat) (v.2.1 a 1 i) 1 - tip (v.1 (v.2.1 b 0 0).toNat) (v.2.1 b 1 i) 1) (b := 56000) (by omega) (by omega)
  unfold tpa
  omega
theorem q_tipsApart {K : Int32 → Sg → Prop} {a b i : Nat} (h : CR σ v) (hw : WF c v) (ha : (a : Int) < v.2.2.1 1) (hb : (b : Int) < v.2.2.1 1) (hi : (i : Int) < v.2.1 a 0 1) (hj : (i : Int) < v.2.1 b 0 1) (hK : K (I (tpa v a b i)) σ) : Con l mX11_tipsApart [.inr 1, .inr (15 + 3 * a), .inr (15 + 3 * b), .inl (I i)] σ (PI K) := by
  have hw0 := hw.1
  have ga := hw.2.2.2.1 a ha
  have gb := hw.2.2.2.1 b hb
  have pa := (ga.2.2.2.2.2 i hi).1
  have pb := (gb.2.2.2.2.2 i hj).1
  refine eX11_tipsApart ⟨h.1.o1, h.1.os, ?_⟩
  refine h.ao' hw ha (fun m em hm1 hm2 => ⟨h.1.os, h.ao' hw hb (fun n en hn1 hn2 => ⟨fun q => absurd q (by omega), fun _ => ⟨fun _ => ?_, fun q => absurd q (by omega)⟩⟩)⟩)
  have wa := (hw.2.2.1 m hm1).1
  have wb := (hw.2.2.1 n hn1).1
  rw [em, I_tn] at pa
  rw [en, I_tn] at pb
  have e1 := tip_rg wa (v.2.1 a 1 i) (Or.inl rfl)
  have e2 := tip_rg wb (v.2.1 b 1 i) (Or.inl rfl)
  have e3 := tip_rg wa (v.2.1 a 1 i) (Or.inr rfl)
  have e4 := tip_rg wb (v.2.1 b 1 i) (Or.inr rfl)
  have f1 := iab_rg (z := tip (v.1 m) (v.2.1 a 1 i) 0 - tip (v.1 n) (v.2.1 b 1 i) 0) (b := 56000) (by omega) (by omega)
  have f2 := iab_rg (z := tip (v.1 m) (v.2.1 a 1 i) 1 - tip (v.1 n) (v.2.1 b 1 i) 1) (b := 56000) (by omega) (by omega)
  refine ⟨(h.P (by omega)).ob, q_poseAt (h.P (by omega)) (h.D ha) (by omega) (by omega) ⟨by omega, by omega⟩ (fun _ _ => ?_) (fun q => absurd ⟨by omega, by omega⟩ q)⟩
  refine ⟨(h.P (by omega)).ob, q_poseAt (h.P (by omega)) (h.D hb) (by omega) (by omega) ⟨by omega, by omega⟩ (fun _ _ => ?_) (fun q => absurd ⟨by omega, by omega⟩ q)⟩
  rw [I_tn]
  refine ⟨(h.A hm1).ob, q_tipX (h.A hm1) wa pa.1 (by have := pa.2.1; omega) ⟨(h.A hn1).ob, q_tipX (h.A hn1) wb pb.1 (by have := pb.2.1; omega) ?_⟩⟩
  rw [I_sub]
  refine q_abs (by omega) (by omega) (q_tipY (h.A hm1) wa pa.1 (by have := pa.2.1; omega) (q_tipY (h.A hn1) wb pb.1 (by have := pb.2.1; omega) ?_))
  rw [I_sub]
  refine q_abs (by omega) (by omega) (q_max (a := iab _) (b := iab _) ⟨by omega, by omega⟩ ⟨by omega, by omega⟩ ?_)
  unfold tpa at hK
  rw [em, en, I_tn, I_tn] at hK
  exact hK
def apS (f : Nat → Int) (s : Int × Int) : Nat → Int × Int
  | 0 => s
  | n + 1 => if f n ≤ (apS f s n).1 then apS f s n else (f n, (n : Int))
theorem apS_rg {f : Nat → Int} {x : Int} (hf : ∀ i, 0 ≤ f i ∧ f i ≤ 56000) : ∀ n, -1 ≤ (apS f (-1, x) n).1 ∧ (apS f (-1, x) n).1 ≤ 56000 := by
  intro n
  induction n with
  | zero => exact ⟨by show (-1 : Int) ≤ -1; omega, by show (-1 : Int) ≤ 56000; omega⟩
  | succ n ih =>
    have h0 := hf n
    show -1 ≤ (if f n ≤ (apS f (-1, x) n).1 then apS f (-1, x) n else (f n, (n : Int))).1 ∧ (if f n ≤ (apS f (-1, x) n).1 then apS f (-1, x) n else (f n, (n : Int))).1 ≤ 56000
    split
    · exact ih
    · exact ⟨by show -1 ≤ f n; omega, h0.2⟩
theorem apS_same {f : Nat → Int} {x y : Int} (hf : ∀ i, 0 ≤ f i ∧ f i ≤ 56000) : ∀ n, apS f (-1, x) (n + 1) = apS f (-1, y) (n + 1) := by
  intro n
  induction n with
  | zero =>
    have h0 := hf 0
    show (if f 0 ≤ -1 then _ else _) = (if f 0 ≤ -1 then _ else _)
    rw [if_neg (by omega), if_neg (by omega)]
  | succ n ih =>
    show (if f (n + 1) ≤ (apS f (-1, x) (n + 1)).1 then _ else _) = (if f (n + 1) ≤ (apS f (-1, y) (n + 1)).1 then _ else _)
    rw [ih]
def okApart (v : Vt) (a b w : Int) : Prop := (0 ≤ a ∧ a < v.2.2.1 1) ∧ (0 ≤ b ∧ b < v.2.2.1 1) ∧ (0 ≤ w ∧ w ≤ 1)
noncomputable def aApart (v : Vt) (a b w : Int) : Int := cif (okApart v a b w) (if w = 0 then (apS (tpa v a.toNat b.toNat) (-1, -1) (min (v.2.1 a.toNat 0 1) (v.2.1 b.toNat 0 1)).toNat).1 else (apS (tpa v a.toNat b.toNat) (-1, -1) (min (v.2.1 a.toNat 0 1) (v.2.1 b.toNat 0 1)).toNat).2) (-1)
theorem C_apart {a b w : Int} (h : CR σ v) (hw : WF c v) (ha : Rg a) (hb : Rg b) (hr : Rg w) : Con l mX11_apart [.inr 1, .inl (I a), .inl (I b), .inl (I w)] σ (PI fun x σ' => x = I (aApart v a b w) ∧ CR σ' v ∧ CF σ σ') := by
  have hw0 := hw.1
  have no : ∀ {q : Int32}, q = -1 → ¬ okApart v a b w → q = I (aApart v a b w) ∧ CR σ v ∧ CF σ σ := by
    intro q e hq
    unfold aApart; rw [cif_f hq]; exact ⟨e, h, CF.rf _⟩
  refine eX11_apart ⟨h.1.o1, h.1.os, ?_⟩
  refine h.tp' hw ha (fun m em hm1 hm2 => ⟨h.1.os, ?_⟩) (fun z => ⟨h.1.os, h.tp' hw hb (fun n en hn1 hn2 => ⟨fun _ => no rfl (fun y => z y.1), fun q => absurd rfl q⟩) (fun _ => ⟨fun _ => no rfl (fun y => z y.1), fun q => absurd rfl q⟩)⟩)
  refine h.tp' hw hb (fun n en hn1 hn2 => ⟨fun q => absurd q (by omega), fun _ => ⟨fun q => absurd q (by omega), fun _ => ?_⟩⟩) (fun z => ⟨fun q => absurd q (by omega), fun _ => ⟨fun _ => no rfl (fun y => z y.2.1), fun q => absurd rfl q⟩⟩)
  refine q_within (b := 0) (c := 1) hr ⟨by omega, by omega⟩ ⟨by omega, by omega⟩ (fun a1 a2 => ⟨fun _ => ?_, fun q => absurd q (by decide)⟩) (fun q => ⟨fun q => absurd rfl q, fun _ => no rfl (fun y => q y.2.2)⟩)
  subst em en
  have ga := hw.2.2.2.1 m hm1
  have gb := hw.2.2.2.1 n hn1
  have fr : ∀ i, 0 ≤ tpa v m n i ∧ tpa v m n i ≤ 56000 := fun i => tpa_rg hw i hm1 hn1
  have fin : ∀ j : Nat, (j : Int) = min (v.2.1 m 0 1) (v.2.1 n 0 1) → ((¬ (I w) = 0 → (I (apS (tpa v m n) (-1, -1) j).2) = I (aApart v m n w) ∧ CR σ v ∧ CF σ σ) ∧ ((I w) = 0 → (I (apS (tpa v m n) (-1, -1) j).1) = I (aApart v m n w) ∧ CR σ v ∧ CF σ σ)) := by
    intro j hj
    have ok : okApart v m n w := ⟨⟨by omega, hm1⟩, ⟨by omega, hn1⟩, a1, a2⟩
    have e : aApart v m n w = if w = 0 then (apS (tpa v m n) (-1, -1) j).1 else (apS (tpa v m n) (-1, -1) j).2 := by
      unfold aApart; rw [cif_t ok, I_tn, I_tn, ← hj, I_tn]
    rw [e, I_0, I_eq ⟨by omega, by omega⟩ ⟨by omega, by omega⟩]
    exact ⟨fun q => ⟨by rw [if_neg q], h, CF.rf _⟩, fun q => ⟨by rw [if_pos q], h, CF.rf _⟩⟩
  have F : ∀ n' j : Nat, (j : Int) + n' = min (v.2.1 m 0 1) (v.2.1 n 0 1) → GW l mX11_apart 50 [(0, .inr 1), (1, .inl (I m)), (2, .inl (I n)), (3, .inl (I w)), (4, .inr (15 + 3 * m)), (5, .inr (15 + 3 * n)), (6, .inl (I (apS (tpa v m n) (-1, -1) j).1)), (7, .inl (I (apS (tpa v m n) (-1, -1) j).2)), (8, .inl (I j))] [] σ 0 0 (PI fun x σ' => x = I (aApart v m n w) ∧ CR σ' v ∧ CF σ σ') := by
    intro n'
    induction n' with
    | zero =>
      intro j hj
      have hf := fin j (by omega)
      refine gX11_apart_50 ⟨(h.P hm2).ob, fun _ => hf, fun q => ⟨(h.P hn2).ob, fun _ => hf, fun q2 => absurd ?_ q2⟩⟩
      rw [(h.D hm1).2.1, I_le ⟨by omega, by omega⟩ ⟨by omega, by omega⟩] at q
      rw [(h.D hn1).2.1, I_le ⟨by omega, by omega⟩ ⟨by omega, by omega⟩]
      omega
    | succ n' ih =>
      intro j hj
      have hx := ih (j + 1) (by omega)
      have hr := apS_rg (x := -1) fr j
      have hj0 := fr j
      refine gX11_apart_50 ⟨(h.P hm2).ob, fun q => ?_, fun _ => ⟨(h.P hn2).ob, fun q => ?_, fun _ => ⟨h.1.o1, q_tipsApart h hw hm1 hn1 (by omega) (by omega) ⟨fun q => ?_, fun q => ?_⟩⟩⟩⟩
      · rw [(h.D hm1).2.1, I_le ⟨by omega, by omega⟩ ⟨by omega, by omega⟩] at q; omega
      · rw [(h.D hn1).2.1, I_le ⟨by omega, by omega⟩ ⟨by omega, by omega⟩] at q; omega
      · rw [I_le ⟨by omega, by omega⟩ ⟨by omega, by omega⟩] at q
        have e : apS (tpa v m n) (-1, -1) (j + 1) = apS (tpa v m n) (-1, -1) j := if_pos q
        rw [e] at hx
        rw [I_1, I_add]; exact hx
      · rw [I_le ⟨by omega, by omega⟩ ⟨by omega, by omega⟩] at q
        have e : apS (tpa v m n) (-1, -1) (j + 1) = (tpa v m n j, (j : Int)) := if_neg q
        rw [e] at hx
        rw [I_1, I_add]; exact hx
  exact F (min (v.2.1 m 0 1) (v.2.1 n 0 1)).toNat 0 (by omega)
theorem M_apart {a b w : Int} (h : MR σ v) (hw : WF c v) (ha : Rg a) (hb : Rg b) (hr : Rg w) : Con l mX12_apart [.inr 82, .inl (I a), .inl (I b), .inl (I w)] σ (PI fun x σ' => x = I (aApart v a b w) ∧ MR σ' v ∧ MF σ σ') := by
  have hw0 := hw.1
  have w1 := hr.1; have w2 := hr.2
  refine eX12_apart ⟨h.1.ob, fun σ2 e2 => ?_⟩
  obtain ⟨h, f⟩ := h.w e2 (by decide)
  have no : ∀ {q : Int32}, q = -1 → ¬ okApart v a b w → q = I (aApart v a b w) ∧ MR σ2 v ∧ MF σ σ2 := by
    intro q e hq
    unfold aApart; rw [cif_f hq]; exact ⟨e, h, f⟩
  refine h.isTape hw ha (fun m em hm1 hm2 => ⟨fun q => absurd q (by decide), fun _ => ?_⟩) (fun z => ⟨fun _ => no rfl (fun y => z y.1), fun q => absurd rfl q⟩)
  refine h.isTape hw hb (fun n en hn1 hn2 => ⟨fun q => absurd q (by decide), fun _ => ?_⟩) (fun z => ⟨fun _ => no rfl (fun y => z y.2.1), fun q => absurd rfl q⟩)
  subst em en
  have ga := hw.2.2.2.1 m hm1
  have gb := hw.2.2.2.1 n hn1
  have fr : ∀ i, 0 ≤ tpa v m n i ∧ tpa v m n i ≤ 56000 := fun i => tpa_rg hw i hm1 hn1
  have emp : min (v.2.1 m 0 1) (v.2.1 n 0 1) = 0 → ∀ {q : Int32}, q = -1 → q = I (aApart v m n w) ∧ MR σ2 v ∧ MF σ σ2 := by
    intro h0 q e
    by_cases ok : okApart v m n w
    · refine ⟨?_, h, f⟩
      unfold aApart
      rw [cif_t ok, I_tn, I_tn, h0]
      show q = I (if w = 0 then -1 else -1)
      rw [e]; split <;> rfl
    · exact no e ok
  rw [h.tk hm1 hm2, h.tk hn1 hn2]
  refine ⟨h.1.a18 (by omega) (by omega), fun q => ?_, fun q => ⟨h.1.a18 (by omega) (by omega), fun q2 => ?_, fun q2 => ⟨fun q3 => ?_, fun q3 => ⟨fun q4 => ?_, fun q4 => ?_⟩⟩⟩⟩
  · rw [I_0, I_eq ⟨by omega, by omega⟩ ⟨by omega, by omega⟩] at q
    exact emp (by omega) rfl
  · rw [I_0, I_eq ⟨by omega, by omega⟩ ⟨by omega, by omega⟩] at q2
    exact emp (by omega) rfl
  · rw [I_0, I_lt ⟨by omega, by omega⟩ ⟨by omega, by omega⟩] at q3
    exact no rfl (fun y => by have := y.2.2; omega)
  rotate_left
  · rw [I_1, I_le ⟨by omega, by omega⟩ ⟨by omega, by omega⟩] at q4
    exact no rfl (fun y => by have := y.2.2; omega)
  rw [I_0, I_eq ⟨by omega, by omega⟩ ⟨by omega, by omega⟩] at q q2
  rw [I_0, I_lt ⟨by omega, by omega⟩ ⟨by omega, by omega⟩] at q3
  rw [I_1, I_le ⟨by omega, by omega⟩ ⟨by omega, by omega⟩] at q4
  have fin : ∀ j : Nat, (j : Int) = min (v.2.1 m 0 1) (v.2.1 n 0 1) → ((¬ (I w) = 0 → (I (apS (tpa v m n) (-1, 0) j).2) = I (aApart v m n w) ∧ MR σ2 v ∧ MF σ σ2) ∧ ((I w) = 0 → (I (apS (tpa v m n) (-1, 0) j).1) = I (aApart v m n w) ∧ MR σ2 v ∧ MF σ σ2)) := by
    intro j hj
    have ok : okApart v m n w := ⟨⟨by omega, hm1⟩, ⟨by omega, hn1⟩, by omega, by omega⟩
    have e : aApart v m n w = if w = 0 then (apS (tpa v m n) (-1, -1) j).1 else (apS (tpa v m n) (-1, -1) j).2 := by
      unfold aApart; rw [cif_t ok, I_tn, I_tn, ← hj, I_tn]
    obtain ⟨j', rfl⟩ : ∃ j', j = j' + 1 := ⟨j - 1, by omega⟩
    rw [e, apS_same (x := -1) (y := 0) fr, I_0, I_eq ⟨by omega, by omega⟩ ⟨by omega, by omega⟩]
    exact ⟨fun q => ⟨by rw [if_neg q], h, f⟩, fun q => ⟨by rw [if_pos q], h, f⟩⟩
  have F : ∀ n' j : Nat, (j : Int) + n' = min (v.2.1 m 0 1) (v.2.1 n 0 1) → GW l mX12_apart 59 [(0, .inr 82), (1, .inl (I m)), (2, .inl (I n)), (3, .inl (I w)), (4, .inl (I (apS (tpa v m n) (-1, 0) j).1)), (5, .inl (I (apS (tpa v m n) (-1, 0) j).2)), (6, .inl (I j))] [] σ2 0 0 (PI fun x σ' => x = I (aApart v m n w) ∧ MR σ' v ∧ MF σ σ') := by
    intro n'
    induction n' with
    | zero =>
      intro j hj
      have hf := fin j (by omega)
      refine gX12_apart_59 ⟨h.1.ob, h.1.a18 (by omega) (by omega), h.1.a18 (by omega) (by omega), ?_⟩
      rw [h.tk hm1 hm2, h.tk hn1 hn2]
      refine q_min ⟨by omega, by omega⟩ ⟨by omega, by omega⟩ ⟨fun _ => hf, fun q => absurd ?_ q⟩
      exact (I_le ⟨by omega, by omega⟩ ⟨by omega, by omega⟩).mpr (by omega)
    | succ n' ih =>
      intro j hj
      have hx := ih (j + 1) (by omega)
      have hr := apS_rg (x := 0) fr j
      have hj0 := fr j
      have pa := (ga.2.2.2.2.2 j (by omega)).1
      have pb := (gb.2.2.2.2.2 j (by omega)).1
      obtain ⟨ra, era⟩ : ∃ ra : Nat, v.2.1 m 0 0 = ra := ⟨(v.2.1 m 0 0).toNat, by omega⟩
      obtain ⟨rb, erb⟩ : ∃ rb : Nat, v.2.1 n 0 0 = rb := ⟨(v.2.1 n 0 0).toNat, by omega⟩
      rw [era, I_tn] at pa
      rw [erb, I_tn] at pb
      have ra2 : ra < 2 := by omega
      have rb2 : rb < 2 := by omega
      have wa := (hw.2.2.1 ra ra2).1
      have wb := (hw.2.2.1 rb rb2).1
      have e1 := tip_rg wa (v.2.1 m 1 j) (Or.inl rfl)
      have e2 := tip_rg wb (v.2.1 n 1 j) (Or.inl rfl)
      have e3 := tip_rg wa (v.2.1 m 1 j) (Or.inr rfl)
      have e4 := tip_rg wb (v.2.1 n 1 j) (Or.inr rfl)
      have f1 := iab_rg (z := tip (v.1 ra) (v.2.1 m 1 j) 0 - tip (v.1 rb) (v.2.1 n 1 j) 0) (b := 56000) (by omega) (by omega)
      have f2 := iab_rg (z := tip (v.1 ra) (v.2.1 m 1 j) 1 - tip (v.1 rb) (v.2.1 n 1 j) 1) (b := 56000) (by omega) (by omega)
      have et : tpa v m n j = max (iab (tip (v.1 ra) (v.2.1 m 1 j) 0 - tip (v.1 rb) (v.2.1 n 1 j) 0)) (iab (tip (v.1 ra) (v.2.1 m 1 j) 1 - tip (v.1 rb) (v.2.1 n 1 j) 1)) := by
        unfold tpa; rw [era, erb, I_tn, I_tn]
      refine gX12_apart_59 ⟨h.1.ob, h.1.a18 (by omega) (by omega), h.1.a18 (by omega) (by omega), ?_⟩
      rw [h.tk hm1 hm2, h.tk hn1 hn2]
      refine q_min ⟨by omega, by omega⟩ ⟨by omega, by omega⟩ ⟨fun q => absurd q ?_, fun _ => ?_⟩
      · rw [I_le ⟨by omega, by omega⟩ ⟨by omega, by omega⟩]; omega
      · rw [ix40, ix40, h.ow hm1 hm2, h.ps hm1 hm2 (by omega) (by omega), h.ps hn1 hn2 (by omega) (by omega), era]
        refine ⟨h.1.a19 (by omega) (by omega), h.1.a19 (by omega) (by omega), h.1.a17 (by omega) (by omega), ?_⟩
        refine m_tip (w := 0) h.1 h.2.1.2 ra2 wa pa.1 (by have := pa.2.1; omega) (Or.inl rfl) ⟨h.1.a17 (by omega) (by omega), ?_⟩
        rw [h.ow hn1 hn2, erb]
        refine m_tip (w := 0) h.1 h.2.1.2 rb2 wb pb.1 (by have := pb.2.1; omega) (Or.inl rfl) ?_
        rw [I_sub]
        refine q_abs (by omega) (by omega) ⟨h.1.a17 (by omega) (by omega), ?_⟩
        rw [h.ow hm1 hm2, era]
        refine m_tip (w := 1) h.1 h.2.1.2 ra2 wa pa.1 (by have := pa.2.1; omega) (Or.inr rfl) ⟨h.1.a17 (by omega) (by omega), ?_⟩
        rw [h.ow hn1 hn2, erb]
        refine m_tip (w := 1) h.1 h.2.1.2 rb2 wb pb.1 (by have := pb.2.1; omega) (Or.inr rfl) ?_
        rw [I_sub]
        refine q_abs (by omega) (by omega) (q_max (a := iab _) (b := iab _) ⟨by omega, by omega⟩ ⟨by omega, by omega⟩ ?_)
        rw [← et]
        refine ⟨fun q => ?_, fun q => ?_⟩
        · rw [I_lt ⟨by omega, by omega⟩ ⟨by omega, by omega⟩] at q
          have e : apS (tpa v m n) (-1, 0) (j + 1) = (tpa v m n j, (j : Int)) := if_neg (by omega)
          rw [e] at hx
          rw [I_1, I_add]; exact hx
        · rw [I_lt ⟨by omega, by omega⟩ ⟨by omega, by omega⟩] at q
          have e : apS (tpa v m n) (-1, 0) (j + 1) = apS (tpa v m n) (-1, 0) j := if_pos (by omega)
          rw [e] at hx
          rw [I_1, I_add]; exact hx
  exact F (min (v.2.1 m 0 1) (v.2.1 n 0 1)).toNat 0 (by omega)
end P8b
