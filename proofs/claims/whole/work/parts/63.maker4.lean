/-! the class's Maker, 4: lines, the text; make -/
section MKI
variable {l : Launch} {σ0 σ σ' : Sg} {v : Vt} {B : Nat → Int} {n N c : Nat} {T : Nat → Nat → Nat → Int} {cnt i : Nat} {f : Int} {L P : Nat → Nat → Int}
theorem cpy_bgn {S : Nat → Nat → Int} {o : Int} : ∀ k : Nat, k ≤ 41 → ∀ i, i < k → cpy (bgn o) S 0 k 1 i = S 1 i ∧ cpy (bgn o) S 0 k 2 i = S 2 i := by
  intro k
  induction k with
  | zero => intro _ i hi; omega
  | succ k ih =>
    intro hk i hi
    have ct : cpy (bgn o) S 0 k 0 1 = k := by rw [cpy_01 (by show 0 ≤ (0 : Int) ∧ (0 : Int) ≤ 41; omega)]; show min 41 ((0 : Int) + k) = k; omega
    show psh _ _ _ 1 i = _ ∧ psh _ _ _ 2 i = _
    rw [psh_t (by omega), tA_1, tA_2, ct, I_tn]
    by_cases e : i = k
    · rw [if_pos e, if_pos e, e, Nat.zero_add]; exact ⟨rfl, rfl⟩
    · rw [if_neg e, if_neg e]; exact ih (by omega) i (by omega)
theorem MkH.closeLine (H : MkH σ0 v B n N c) {K : Sg → Prop} (x : Mt) (h : MkS σ0 σ v T cnt x.1 0) (hi : x.1 ≤ N) (hL : Lr σ x.2.2.1) (hw : TW v.1 (v.2.2.1 0) x.2.2.1)
    (h1 : (clo (kdB B n) cnt x).2.1 ≠ 0 → ∀ σ', MkS σ0 σ' v T cnt (clo (kdB B n) cnt x).1 (clo (kdB B n) cnt x).2.1 → (clo (kdB B n) cnt x).1 ≤ N → K σ')
    (h2 : (clo (kdB B n) cnt x).2.1 = 0 → ∀ σ', MkS σ0 σ' v (fun t => if t = cnt then (clo (kdB B n) cnt x).2.2.1 else T t) (cnt + 1) (clo (kdB B n) cnt x).1 0 → (clo (kdB B n) cnt x).1 ≤ N → K σ') : Con l mX4_closeLine [.inr 50] σ (PV K) := by
  have r := kdB_rg B n x.1
  have h10 := h.2.1.2.1
  have hC := h.1.C H.1
  have w0 := H.2.2.2.2.2.2.2.1
  have hlt := h.2.1.1
  obtain ⟨L', g1, g2, g3, g4⟩ := hL
  unfold clo at h1 h2
  refine eX4_closeLine ⟨H.ob0 h.1, H.ob1 h.1, H.kd h hi ?_⟩
  rw [show (3 : Int32) = I 3 from rfl, I_eq' (by omega) (by omega) (by omega) (by omega)]
  refine ⟨fun q => ?_, fun q => H.fail (x := 1) h (fun σ1 e1 => ?_)⟩
  · rw [if_neg (Classical.not_not.mpr q)] at h1 h2
    rcases g4 with ⟨u1, u2, u3⟩ | ⟨u1, u2⟩
    · subst u3
      rw [u1]
      refine ⟨fun z => absurd rfl z, fun _ => ⟨H.ob2 h.1, ?_⟩⟩
      rw [hC.p50_0, hC.p50_2]
      refine eX7_stage ⟨hC.o2, ?_⟩
      refine eX7_nextTape ⟨hC.o2, ?_⟩
      rw [h.1.2.2.2.2, H.2.2.2.2.2.2.1, h.2.2.1, I_add, show v.2.2.1 1 + ((cnt : Int) - v.2.2.1 1) = cnt by omega, I_0, I_lt' (by omega) (by omega) (by omega) (by omega), show (10 : Int32) = I 10 from rfl, I_le' (by omega) (by omega) (by omega) (by omega), hC.p2_1]
      refine ⟨fun z => absurd z (by omega), fun _ => ⟨fun z => ⟨fun y => absurd rfl y, fun _ => ?_⟩, fun z => ⟨aq_of (kd := 16) (n := 10) (by decide) (by decide) (by decide) (Nat.le_trans (by decide) hC.1) (by omega) (by omega) (by decide), ?_⟩⟩⟩
      · refine ⟨fun y => absurd rfl y, fun _ => H.fail (x := 5) h (fun σ1 e1 => ?_)⟩
        rw [if_pos (Or.inr (by omega))] at h1
        exact h1 (by show ¬ (5 : Int) = 0; omega) σ1 (h.w6 e1) hi
      · rw [if_neg (by omega)] at h2
        rw [I_cl (by omega) (by omega), I_tn, hC.tr (by omega)]
        have p51 := h.1.tp H.2.2.2.1
        have pr := h.1.tp (H.2.2.1 cnt (by omega))
        refine ⟨fun _ => ⟨p51.ob, pr.ob, ?_⟩, fun y => absurd y (by omega)⟩
        rw [g1.1]
        refine q_begin pr (fun σ5 e5 => ?_)
        have o5 : Onl [15 + 3 * cnt, 15 + 3 * cnt + 1, 15 + 3 * cnt + 2] σ σ5 := by
          rw [e5]
          exact ⟨rfl, rfl, fun r hr => by
            have : r ≠ 15 + 3 * cnt := fun y => hr (by rw [y]; simp)
            rw [w1_r this, w1_r this]⟩
        have n51 := not3 (q := 51) (r := 15 + 3 * cnt) (by omega)
        have G1 := g1.onl o5 n51.1 n51.2.1 n51.2.2
        have D5 : TapeD σ5 (15 + 3 * cnt) (bgn (x.2.2.1 0 0)) := by
          refine ⟨?_, ?_, fun i hi => ?_⟩
          · rw [e5, w1_k (by omega), w1_at]; rfl
          · rw [e5, w1_at]; rfl
          · have : (i : Int) < 0 := hi; omega
        rw [G1.2.1, I_1, I_sub, show I 0 = I ((0 : Nat) : Int) from rfl]
        refine q_addCut (k := (x.2.2.1 0 1).toNat) (pr.onl o5) (p51.onl o5) (by omega) D5 G1 (by show (0 : Int) ≤ 0; omega) (by show (0 : Int) + _ ≤ 40; omega) (by omega) g3.2 (by omega) (fun σ7 o7 D7 σ8 e8 => ⟨fun _ σ10 e10 => ?_, fun y => absurd y (by decide)⟩)
        have E7 : ∀ r, ¬ (15 + 3 * cnt ≤ r ∧ r ≤ 15 + 3 * cnt + 2) → σ7.2.1 r = σ.2.1 r := fun r hr => by
          have : r ∉ [15 + 3 * cnt, 15 + 3 * cnt + 1, 15 + 3 * cnt + 2] := by simp only [List.mem_cons, List.not_mem_nil, or_false, not_or]; omega
          rw [o7.2.2 r this, o5.2.2 r this]
        have s7 : σ7.2.1 2 4 = I ((cnt : Int) - v.2.2.1 1) := by rw [E7 2 (by omega)]; exact h.2.2.1
        rw [s7, I_add] at e8
        have E8 : ∀ r, r ≠ 2 → ¬ (15 + 3 * cnt ≤ r ∧ r ≤ 15 + 3 * cnt + 2) → σ8.2.1 r = σ.2.1 r := fun r h2 hr => by rw [e8, w1_r h2, E7 r hr]
        have R8 : σ8.2.2 = σ.2.2 := by rw [e8]; show σ7.2.2 = _; rw [o7.2.1, o5.2.1]
        have N8 : σ8.1 = σ.1 := by rw [e8]; show σ7.1 = _; rw [o7.1, o5.1]
        have S8 : MkS σ0 σ8 v (fun t => if t = cnt then x.2.2.1 else T t) (cnt + 1) x.1 0 := by
          refine ⟨⟨N8.trans h.1.1, R8.trans h.1.2.1, fun r a b d => (E8 r a (by omega)).trans (h.1.2.2.1 r a b d), ?_, ?_⟩, ⟨by omega, by omega, by rw [E8 50 (by omega) (by omega)]; exact h.2.1.2.2⟩, ?_, fun t ht => ?_, by rw [E8 50 (by omega) (by omega)]; exact h.2.2.2.2.1, by rw [E8 50 (by omega) (by omega)]; exact h.2.2.2.2.2⟩
          · rw [e8, w1_k (by omega), E7 2 (by omega)]; exact h.1.2.2.2.1
          · rw [e8, w1_k (by omega), E7 2 (by omega)]; exact h.1.2.2.2.2
          · rw [e8, w1_at]; congr 1; omega
          · show TapeD σ8 (15 + 3 * t) (if t = cnt then x.2.2.1 else T t)
            by_cases et : t = cnt
            · rw [if_pos et, et]
              have c1 : cpy (bgn (x.2.2.1 0 0)) x.2.2.1 0 (x.2.2.1 0 1).toNat 0 1 = x.2.2.1 0 1 := by
                rw [cpy_01 (by show 0 ≤ (0 : Int) ∧ (0 : Int) ≤ 41; omega)]
                show min 41 ((0 : Int) + _) = _; omega
              have D8 : TapeD σ8 (15 + 3 * cnt) (cpy (bgn (x.2.2.1 0 0)) x.2.2.1 0 (x.2.2.1 0 1).toNat) := D7.eq (fun k hk => ⟨by rw [e8, w1_r (by omega)], by rw [e8]; rfl⟩)
              refine D8.same (by rw [cpy_00]; rfl) c1.symm (fun i hi => ?_)
              rw [c1] at hi
              have := cpy_bgn (S := x.2.2.1) (o := x.2.2.1 0 0) (x.2.2.1 0 1).toNat (by omega) i (by omega)
              exact ⟨this.1.symm, this.2.symm⟩
            · rw [if_neg et]
              exact (h.2.2.2.1 t (by omega)).eq (fun k hk => ⟨E8 _ (by omega) (by omega), by rw [R8]⟩)
        exact h2 rfl σ10 (S8.inc e10) (H.nx hi (by omega))
    · rw [u1]
      refine ⟨fun _ => H.fail (x := 5) h (fun σ1 e1 => ?_), fun z => absurd z (by decide)⟩
      rw [if_pos (Or.inl (by omega))] at h1
      exact h1 (by show ¬ (5 : Int) = 0; omega) σ1 (h.w6 e1) hi
  · rw [if_pos q] at h1
    exact h1 (by show ¬ (1 : Int) = 0; omega) σ1 (h.w6 e1) hi
theorem MkH.readLine (H : MkH σ0 v B n N c) {K : Sg → Prop} (x : Mt) (h : MkS σ0 σ v T cnt x.1 0) (hi : x.1 ≤ N) (hT : TWs v.1 (v.2.2.1 0) T cnt)
    (h1 : (lin (kdB B n) (vlB B n) v.1 T cnt x).2.1 ≠ 0 → ∀ σ', MkS σ0 σ' v T cnt (lin (kdB B n) (vlB B n) v.1 T cnt x).1 (lin (kdB B n) (vlB B n) v.1 T cnt x).2.1 → (lin (kdB B n) (vlB B n) v.1 T cnt x).1 ≤ N → K σ')
    (h2 : (lin (kdB B n) (vlB B n) v.1 T cnt x).2.1 = 0 → ∀ σ', MkS σ0 σ' v (fun t => if t = cnt then (lin (kdB B n) (vlB B n) v.1 T cnt x).2.2.1 else T t) (cnt + 1) (lin (kdB B n) (vlB B n) v.1 T cnt x).1 0 → (lin (kdB B n) (vlB B n) v.1 T cnt x).1 ≤ N → K σ') : Con l mX4_readLine [.inr 50] σ (PV K) := by
  -- after k parts, r more may come
  have F : ∀ (r k : Nat) (y : Mt) (σ : Sg), k + r = 8 → 1 ≤ k → MkS σ0 σ v T cnt y.1 0 → y.1 ≤ N → Lr σ y.2.2.1 → TW v.1 (v.2.2.1 0) y.2.2.1 → lnT (kdB B n) (vlB B n) v.1 T cnt r y = lin (kdB B n) (vlB B n) v.1 T cnt x → ∀ m : Int, (m = 1 ∧ kdB B n y.1 = 5) ∨ (m = 0 ∧ kdB B n y.1 ≠ 5) → GW l mX4_readLine 18 [(0, .inr 50), (1, .inl (I m)), (2, .inl (I (k : Nat)))] [] σ 0 0 (PV K) := by
    intro r
    -- the end of a line
    have E : ∀ (k : Nat) (y : Mt) (σ : Sg), MkS σ0 σ v T cnt y.1 0 → y.1 ≤ N → Lr σ y.2.2.1 → TW v.1 (v.2.2.1 0) y.2.2.1 → clo (kdB B n) cnt y = lin (kdB B n) (vlB B n) v.1 T cnt x → GW l mX4_readLine 98 [(0, .inr 50), (1, .inl (I 0)), (2, .inl (I (k : Nat)))] [] σ 0 0 (PV K) := by
      intro k y σ hs hi hL hw ey
      rw [← ey] at h1 h2
      exact gX4_readLine_98 ⟨fun _ => ⟨H.ob0 hs.1, H.closeLine y hs hi hL hw (fun z σ' a b => h1 z σ' a b) (fun z σ' a b => h2 z σ' a b)⟩, fun z => absurd rfl z⟩
    induction r with
    | zero =>
      intro k y σ hk hk1 hs hi hL hw ey m hm
      have ey : (if kdB B n y.1 = 5 then (y.1, (2 : Int), y.2.2.1, y.2.2.2) else clo (kdB B n) cnt y) = lin (kdB B n) (vlB B n) v.1 T cnt x := ey
      have G : GW l mX4_readLine 98 [(0, .inr 50), (1, .inl (I m)), (2, .inl (I (k : Nat)))] [] σ 0 0 (PV K) := by
        rcases hm with ⟨m1, k5⟩ | ⟨m0, k5⟩
        · rw [if_pos k5] at ey
          rw [m1]
          refine gX4_readLine_98 ⟨fun z => absurd z (by decide), fun _ => ⟨H.ob0 hs.1, H.fail (x := 2) hs (fun σ1 e1 => ?_)⟩⟩
          rw [← ey] at h1
          exact h1 (by show ¬ (2 : Int) = 0; omega) σ1 (hs.w6 e1) hi
        · rw [if_neg k5] at ey
          rw [m0]
          exact E k y σ hs hi hL hw ey
      exact gX4_readLine_18 ⟨fun _ => G, fun z => absurd ((I_le (a := 8) (b := (k : Int)) ⟨by omega, by omega⟩ ⟨by omega, by omega⟩).mpr (by omega)) z⟩
    | succ r ih =>
      intro k y σ hk hk1 hs hi hL hw ey m hm
      have ey : (if kdB B n y.1 = 5 then (if (prt (kdB B n) (vlB B n) T cnt false (y.1 + 1) y.2.2.1 y.2.2.2).2.1 = 0 then lnT (kdB B n) (vlB B n) v.1 T cnt r (jnM v.1 (prt (kdB B n) (vlB B n) T cnt false (y.1 + 1) y.2.2.1 y.2.2.2)) else prt (kdB B n) (vlB B n) T cnt false (y.1 + 1) y.2.2.1 y.2.2.2) else clo (kdB B n) cnt y) = lin (kdB B n) (vlB B n) v.1 T cnt x := ey
      refine gX4_readLine_18 ⟨fun z => ?_, fun _ => ⟨fun z => ?_, fun z => ⟨H.ob0 hs.1, fun _ σ5 e5 => ⟨fun _ => ?_, fun y => ?_⟩, fun y => ?_⟩⟩⟩
      · rw [show (8 : Int32) = I 8 from rfl, I_le ⟨by omega, by omega⟩ ⟨by omega, by omega⟩] at z; omega
      · have m0 : m = 0 := by
          rcases hm with ⟨m1, _⟩ | ⟨m0, _⟩
          · rw [m1] at z; exact absurd z (by decide)
          · exact m0
        rcases hm with ⟨m1, _⟩ | ⟨_, k5⟩
        · omega
        · rw [if_neg k5] at ey
          rw [m0]
          exact E k y σ hs hi hL hw ey
      · have k5 : kdB B n y.1 = 5 := by
          rcases hm with ⟨_, k5⟩ | ⟨m0, _⟩
          · exact k5
          · rw [m0] at z; exact absurd rfl z
        rw [if_pos k5] at ey
        have h5 := hs.inc e5
        have i5 := H.nx hi (by omega)
        have L5 := hL.w e5 (by omega)
        refine gX4_readLine_56 ⟨H.ob0 h5.1, H.readPart (fs := false) (L := y.2.2.1) (P := y.2.2.2) h5 i5 hT (fun _ => L5) (fun _ => hw) (fun q => absurd q (by decide)) (fun σ6 h6 i6 x6 => ⟨H.ob0 h6.1, ?_⟩)⟩
        have pv := prt_iv (kd := kdB B n) (vl := vlB B n) (fs := false) (i := y.1 + 1) (L := y.2.2.1) (P := y.2.2.2) hT (fun _ => hw)
        have pr := pv.2
        rw [h6.2.2.2.2.2, I_0, I_eq' (by have := pr.1; omega) (by have := pr.2.1; omega) (by omega) (by omega)]
        refine ⟨fun q => ?_, fun q => ?_⟩
        · rw [if_pos q] at ey
          rw [q] at h6
          refine H.joinPart _ h6 (pv.1 q) (x6 q) (fun σ7 h7 L7 => ⟨H.ob1 h7.1, H.kd h7 i6 ?_⟩)
          have r7 := kdB_rg B n (prt (kdB B n) (vlB B n) T cnt false (y.1 + 1) y.2.2.1 y.2.2.2).1
          rw [show (5 : Int32) = I 5 from rfl, I_eq' (by omega) (by omega) (by omega) (by omega), I_1, I_add]
          exact ⟨fun q5 => ih (k + 1) (jnM v.1 (prt (kdB B n) (vlB B n) T cnt false (y.1 + 1) y.2.2.1 y.2.2.2)) σ7 (by omega) (by omega) h7 i6 L7 (jnM_iv (pv.1 q)).1 ey 0 (Or.inr ⟨rfl, q5⟩), fun q5 => ih (k + 1) (jnM v.1 (prt (kdB B n) (vlB B n) T cnt false (y.1 + 1) y.2.2.1 y.2.2.2)) σ7 (by omega) (by omega) h7 i6 L7 (jnM_iv (pv.1 q)).1 ey 1 (Or.inl ⟨rfl, q5⟩)⟩
        · rw [if_neg q] at ey
          rw [← ey] at h1
          exact h1 q σ6 h6 i6
      · rw [I_0, I_eq ⟨by omega, by omega⟩ ⟨by omega, by omega⟩] at y; omega
      · rw [I_0, I_eq ⟨by omega, by omega⟩ ⟨by omega, by omega⟩] at y; omega
  refine eX4_readLine ⟨H.ob0 h.1, H.take (k := 4) h hi ⟨by omega, by omega⟩ (fun k4 σ1 e1 => ⟨fun _ σ4 e4 => ?_, fun z => absurd z (by decide)⟩) (fun k4 σ1 e1 => ⟨fun z => absurd rfl z, fun _ => ?_⟩)⟩
  · have s1 := h.inc e1
    have s4 := s1.w5 e4
    have i4 := H.nx hi (by omega)
    have el : lin (kdB B n) (vlB B n) v.1 T cnt x = if (prt (kdB B n) (vlB B n) T cnt true (x.1 + 1) x.2.2.1 x.2.2.2).2.1 = 0 then lnT (kdB B n) (vlB B n) v.1 T cnt 7 (jnM v.1 (prt (kdB B n) (vlB B n) T cnt true (x.1 + 1) x.2.2.1 x.2.2.2)) else prt (kdB B n) (vlB B n) T cnt true (x.1 + 1) x.2.2.1 x.2.2.2 := by unfold lin; rw [if_pos k4]
    refine gX4_readLine_18 ⟨fun z => absurd z (by decide), fun _ => ⟨fun z => absurd z (by decide), fun _ => ⟨H.ob0 s4.1, fun z => absurd rfl z, fun _ σ7 e7 => ⟨fun z => absurd rfl z, fun _ => ?_⟩⟩⟩⟩
    have s7 : MkS σ0 σ7 v T cnt (x.1 + 1) 0 := by
      refine s4.w4 ?_
      rw [e7, s4.2.2.2.2.1, I_0, I_add]
      congr 2
    have ov : σ7.2.1 50 5 = I 0 := by rw [e7, w1_k (by omega), e4, w1_at]; rfl
    refine gX4_readLine_56 ⟨H.ob0 s7.1, H.readPart (fs := true) (L := x.2.2.1) (P := x.2.2.2) s7 i4 hT (fun q => absurd q (by decide)) (fun q => absurd q (by decide)) (fun _ => ov) (fun σ6 h6 i6 x6 => ⟨H.ob0 h6.1, ?_⟩)⟩
    have pv := prt_iv (kd := kdB B n) (vl := vlB B n) (fs := true) (i := x.1 + 1) (L := x.2.2.1) (P := x.2.2.2) hT (fun q => absurd q (by decide))
    have pr := pv.2
    rw [h6.2.2.2.2.2, I_0, I_eq' (by have := pr.1; omega) (by have := pr.2.1; omega) (by omega) (by omega)]
    refine ⟨fun q => ?_, fun q => ?_⟩
    · rw [if_pos q] at el
      rw [q] at h6
      refine H.joinPart _ h6 (pv.1 q) (x6 q) (fun σ8 h8 L8 => ⟨H.ob1 h8.1, H.kd h8 i6 ?_⟩)
      have r7 := kdB_rg B n (prt (kdB B n) (vlB B n) T cnt true (x.1 + 1) x.2.2.1 x.2.2.2).1
      rw [show (5 : Int32) = I 5 from rfl, I_eq' (by omega) (by omega) (by omega) (by omega), show I 0 + 1 = I ((1 : Nat) : Int) from rfl]
      exact ⟨fun q5 => F 7 1 (jnM v.1 (prt (kdB B n) (vlB B n) T cnt true (x.1 + 1) x.2.2.1 x.2.2.2)) σ8 (by omega) (by omega) h8 i6 L8 (jnM_iv (pv.1 q)).1 el.symm 0 (Or.inr ⟨rfl, q5⟩), fun q5 => F 7 1 (jnM v.1 (prt (kdB B n) (vlB B n) T cnt true (x.1 + 1) x.2.2.1 x.2.2.2)) σ8 (by omega) (by omega) h8 i6 L8 (jnM_iv (pv.1 q)).1 el.symm 1 (Or.inl ⟨rfl, q5⟩)⟩
    · rw [if_neg q] at el
      rw [el] at h1
      exact h1 q σ6 h6 i6
  · have el : lin (kdB B n) (vlB B n) v.1 T cnt x = (x.1, 1, x.2.2.1, x.2.2.2) := by unfold lin; rw [if_neg k4]
    rw [el] at h1
    exact h1 (by show ¬ (1 : Int) = 0; omega) σ1 (h.w6 e1) hi
end MKI
/-! make -/
noncomputable def mkR (v : Vt) (n : Nat) : Tt := txt (kdB (v.2.2.2 0) n) (vlB (v.2.2.2 0) n) v.1 (n + 1) (v.2.1, (v.2.2.1 1).toNat, 0, 0, bgn 0, bgn 0)
def okMk (v : Vt) (z : Int) : Prop := 0 ≤ z ∧ z ≤ v.2.2.1 2
noncomputable def nMk (v : Vt) (n : Nat) : Vt := if (mkR v n).2.2.2.1 = 0 then (v.1, (mkR v n).1, fun k => if k = 1 then ((mkR v n).2.1 : Int) else if k = 2 then 0 else if k = 3 then 0 else if k = 4 then -1 else v.2.2.1 k, v.2.2.2) else (v.1, v.2.1, fun k => if k = 2 then 0 else if k = 3 then (mkR v n).2.2.2.1 else if k = 4 then (tk (v.2.2.2 0) n (mkR v n).2.2.1 : Nat) else v.2.2.1 k, v.2.2.2)
noncomputable def nMake (v : Vt) (z : Int) : Vt := vif (okMk v z) (nMk v z.toNat) v
noncomputable def aMake (v : Vt) (z : Int) : Int := cif (okMk v z) (if (mkR v z.toNat).2.2.2.1 = 0 then ((mkR v z.toNat).2.1 : Int) - v.2.2.1 1 else -1) (-2)
section MKJ
variable {l : Launch} {σ : Sg} {v : Vt} {c n : Nat}
theorem WF.tws (hw : WF c v) : TWs v.1 (v.2.2.1 0) v.2.1 (v.2.2.1 1).toNat := by
  intro t ht
  have h := hw.2.2.2.1 t (by omega)
  exact ⟨⟨⟨h.1, h.2.1, h.2.2.1⟩, ⟨h.2.2.2.1, by omega⟩, h.2.2.2.2.2⟩, h.2.2.2.2.1⟩
theorem mkR_iv (hw : WF c v) : Tv v.1 (v.2.2.1 0) v.2.1 (v.2.2.1 1).toNat (mkR v n) := by
  have w0 := hw.1
  refine txt_iv _ _ ⟨hw.tws, ⟨Nat.le_refl _, by show (v.2.2.1 1).toNat ≤ 10; omega⟩, fun _ _ => rfl, by show (0 : Int) ≤ 0; omega, by show (0 : Int) ≤ 5; omega⟩
theorem W_make {z : Int} (hw : WF c v) : WF c (nMake v z) := by
  have w0 := hw.1
  have w1' := hw.2.1
  by_cases ok : okMk v z
  · unfold nMake
    rw [vif_t ok]
    have iv := mkR_iv (n := z.toNat) hw
    unfold nMk
    have g2 := ok.2
    split
    · refine ⟨?_, ?_, hw.2.2.1, fun t ht => ?_, fun i hi => ?_, hw.2.2.2.2.2⟩
      · have a := iv.2.1
        refine ⟨w0.1, w0.2.1, ?_, ?_, ?_, ?_, w0.2.2.2.2.2.2.1, w0.2.2.2.2.2.2.2⟩
        · show (0 : Int) ≤ ((mkR v z.toNat).2.1 : Int); omega
        · show ((mkR v z.toNat).2.1 : Int) ≤ 10; omega
        · show (0 : Int) ≤ 0; omega
        · show (0 : Int) ≤ 400; omega
      · exact ⟨by show (0 : Int) ≤ 0; omega, by show (0 : Int) ≤ 5; omega, by show (-1 : Int) ≤ -1; omega, by show (-1 : Int) ≤ 400; omega, w1'.2.2.2.2⟩
      · have ht' : (t : Int) < ((mkR v z.toNat).2.1 : Int) := ht
        have k := iv.1 t (by omega)
        exact ⟨k.1.1.1, k.1.1.2.1, k.1.1.2.2, k.1.2.1.1, k.2, k.1.2.2⟩
      · have : (i : Int) < 0 := hi; omega
    · refine ⟨?_, ?_, hw.2.2.1, hw.2.2.2.1, fun i hi => ?_, hw.2.2.2.2.2⟩
      · refine ⟨w0.1, w0.2.1, w0.2.2.1, w0.2.2.2.1, ?_, ?_, w0.2.2.2.2.2.2.1, w0.2.2.2.2.2.2.2⟩
        · show (0 : Int) ≤ 0; omega
        · show (0 : Int) ≤ 400; omega
      · have tl := tk_le (B := v.2.2.2 0) (n := z.toNat) (mkR v z.toNat).2.2.1
        refine ⟨iv.2.2.2.1, iv.2.2.2.2, ?_, ?_, w1'.2.2.2.2⟩
        · show (-1 : Int) ≤ (tk (v.2.2.2 0) z.toNat (mkR v z.toNat).2.2.1 : Nat); omega
        · show ((tk (v.2.2.2 0) z.toNat (mkR v z.toNat).2.2.1 : Nat) : Int) ≤ 400
          have := ok.1; omega
      · have : (i : Int) < 0 := hi; omega
  · unfold nMake; rw [vif_f ok]; exact hw
theorem C_make {z : Int} (h : CR σ v) (hw : WF c v) (hz : Rg z) : Con l mX11_make [.inr 1, .inl (I z)] σ (PI fun x σ' => x = I (aMake v z) ∧ CR σ' (nMake v z) ∧ CF σ σ') := by
  have w0 := hw.1
  have a := hz.1; have b := hz.2
  have no : ∀ {q : Int32}, q = -2 → ¬ okMk v z → q = I (aMake v z) ∧ CR σ (nMake v z) ∧ CF σ σ := by
    intro q e hq
    unfold nMake aMake
    rw [vif_f hq, cif_f hq]
    exact ⟨e, h, CF.rf _⟩
  refine eX11_make ⟨fun q => no rfl (fun k => ?_), fun q => ⟨h.1.o1, ?_, ?_⟩⟩
  · rw [I_0, I_lt hz ⟨by omega, by omega⟩] at q; have := k.1; omega
  · rw [h.1.p1_1]; exact h.1.o45
  rw [I_0, I_lt hz ⟨by omega, by omega⟩] at q
  rw [h.1.p1_1, h.2.2.2.2.1.1, I_le' (by omega) (by omega) (by omega) (by omega)]
  refine ⟨fun q2 => ⟨by rw [h.1.p1_2]; exact h.1.o50, ?_⟩, fun q2 => no rfl (fun k => q2 k.2)⟩
  rw [h.1.p1_2]
  have ok : okMk v z := ⟨by omega, q2⟩
  unfold nMake aMake
  rw [vif_t ok, cif_t ok]
  obtain ⟨n, hn⟩ : ∃ n : Nat, z = n := ⟨z.toNat, by omega⟩
  subst hn
  rw [I_tn]
  have hB : TxB σ (v.2.2.2 0) n := ⟨by omega, fun i hi => h.2.2.2.2.1.2.1 i (by omega), fun i hi => hw.2.2.2.2.1 i (by omega)⟩
  refine eX4_readText ⟨h.1.o50, by rw [h.1.p50_1]; exact h.1.o45, ?_⟩
  rw [h.1.p50_1]
  refine q_split h.1 hB (fun N σ0 o0 z0 t0 σ4 e4 σ5 e5 σ6 e6 => ?_)
  have E0 : ∀ r, r ≠ 45 → r ≠ 47 → r ≠ 48 → r ≠ 49 → σ0.2.1 r = σ.2.1 r := fun r a b d e => o0.2.2 r (by simp only [List.mem_cons, List.not_mem_nil, or_false, not_or]; exact ⟨a, b, d, e⟩)
  have H : MkH σ0 v (v.2.2.2 0) n N c := ⟨o0.C h.1, h.2.2.1.eq (Nat.le_of_eq o0.1.symm) (by rw [E0 2 (by omega) (by omega) (by omega) (by omega)]) (fun r a b => ⟨E0 r (by omega) (by omega) (by omega) (by omega), by rw [o0.2.1]⟩) rfl rfl, fun t ht => (h.P ht).onl o0, h.2.2.2.1.2.2.2.1.onl o0, h.2.2.2.1.2.2.2.2.1.onl o0, t0, by rw [E0 2 (by omega) (by omega) (by omega) (by omega)]; exact h.2.2.2.1.1, hw⟩
  have o6 : Onl [50] σ0 σ6 := ((Onl.w e4 (by simp)).tr (Onl.w e5 (by simp))).tr (Onl.w e6 (by simp))
  have f0 : MkF σ0 σ0 := ⟨rfl, rfl, fun _ _ _ _ => rfl, rfl, rfl⟩
  have S6 : MkS σ0 σ6 v v.2.1 (v.2.2.1 1).toNat 0 0 := by
    refine ⟨f0.onl o6 (fun r hr => by rw [List.mem_singleton.mp hr]; omega), ⟨by omega, by omega, by rw [e6, w1_at]; rfl⟩, ?_, fun t ht => ?_, ?_, ?_⟩
    · rw [o6.2.2 2 (by decide), E0 2 (by omega) (by omega) (by omega) (by omega), h.2.2.2.1.2.1]; congr 1; omega
    · exact (h.D (by omega)).eq (fun k hk => ⟨by rw [o6.2.2 _ (by simp only [List.mem_cons, List.not_mem_nil, or_false]; omega), E0 _ (by omega) (by omega) (by omega) (by omega)], by rw [o6.2.1, o0.2.1]⟩)
    · rw [e6, w1_k (by omega), e5, w1_k (by omega), e4, w1_at]; rfl
    · rw [e6, w1_k (by omega), e5, w1_at]; rfl
  generalize hR : mkR v n = R
  have iv : Tv v.1 (v.2.2.1 0) v.2.1 (v.2.2.1 1).toNat R := by rw [← hR]; exact mkR_iv hw
  -- the end
  have fin : ∀ (σ1 : Sg) (i : Nat), R.2.2.1 ≤ N → MkS σ0 σ1 v R.1 R.2.1 R.2.2.1 R.2.2.2.1 → GW l mX4_readText 61 [(0, .inr 50), (1, .inl (I n)), (2, .inl (I (i : Nat)))] [] σ1 0 0 (PI fun x σ' => x = I (if R.2.2.2.1 = 0 then (R.2.1 : Int) - v.2.2.1 1 else -1) ∧ CR σ' (nMk v n) ∧ CF σ σ') := by
    intro σ1 i iN s1
    have C1 := s1.1.C H.1
    have rr := iv.2.1
    have E1 : ∀ r, r ≠ 2 → ¬ (15 ≤ r ∧ r ≤ 44) → ¬ (45 ≤ r ∧ r ≤ 56 ∧ r ≠ 46) → σ1.2.1 r = σ.2.1 r := fun r a b d => by rw [s1.1.2.2.1 r a b (by omega), E0 r (by omega) (by omega) (by omega) (by omega)]
    have R1 : σ1.2.2 = σ.2.2 := by rw [s1.1.2.1, o0.2.1]
    have N1 : σ1.1 = σ.1 := by rw [s1.1.1, o0.1]
    have z45 : σ1.2.1 45 4 = I 0 := by rw [s1.1.2.2.1 45 (by omega) (by omega) (by omega)]; exact z0
    -- from a last state to CR
    have cr : ∀ (σ2 : Sg) (v' : Vt), σ2.1 = σ1.1 → σ2.2.2 = σ1.2.2 → (∀ r, r ≠ 2 → r ≠ 50 → σ2.2.1 r = σ1.2.1 r) → σ2.2.1 2 2 = σ1.2.1 2 2 → σ2.2.1 2 3 = I (v'.2.2.1 1) → σ2.2.1 2 4 = I 0 → σ2.2.1 50 6 = I (v'.2.2.1 3) → σ2.2.1 50 7 = I (v'.2.2.1 4) → v'.1 = v.1 → v'.2.2.2 = v.2.2.2 → v'.2.2.1 2 = 0 → (∀ k, k ≠ 1 → k ≠ 2 → k ≠ 3 → k ≠ 4 → v'.2.2.1 k = v.2.2.1 k) → v'.2.2.1 1 ≤ R.2.1 → (∀ t : Nat, (t : Int) < v'.2.2.1 1 → v'.2.1 t = R.1 t) → CR σ2 v' ∧ CF σ σ2 := by
      intro σ2 v' n2 r2 E2 q2 q3 q4 q6 q7 ev er e2 ek el et
      have X : ∀ r, r ≠ 2 → ¬ (15 ≤ r ∧ r ≤ 44) → ¬ (45 ≤ r ∧ r ≤ 56 ∧ r ≠ 46) → σ2.2.1 r = σ.2.1 r := fun r a b d => by rw [E2 r a (by omega), E1 r a b d]
      have RR : σ2.2.2 = σ.2.2 := by rw [r2, R1]
      have NN : σ2.1 = σ.1 := by rw [n2, N1]
      have q22 : σ2.2.1 2 2 = σ.2.1 2 2 := by rw [q2, s1.1.2.2.2.1, E0 2 (by omega) (by omega) (by omega) (by omega)]
      refine ⟨h.mk2 NN RR ?_ ?_ ?_ ?_, ⟨Nat.le_of_eq NN.symm, fun r a b => ⟨X r (by omega) (by omega) (by omega), by rw [RR]⟩⟩⟩
      · exact h.2.2.1.eq (Nat.le_of_eq NN.symm) q22 (fun r a b => ⟨X r (by omega) (by omega) (by omega), by rw [RR]⟩) ev (ek 0 (by omega) (by omega) (by omega) (by omega))
      · refine ⟨q3, q4, fun t ht => (h.P ht).eq (Nat.le_of_eq NN.symm) (by rw [RR]), h.2.2.2.1.2.2.2.1.eq (Nat.le_of_eq NN.symm) (by rw [RR]), h.2.2.2.1.2.2.2.2.1.eq (Nat.le_of_eq NN.symm) (by rw [RR]), fun t ht => ?_⟩
        rw [et t ht]
        exact (s1.2.2.2.1 t (by omega)).eq (fun k hk => ⟨E2 _ (by omega) (by omega), by rw [r2]⟩)
      · refine ⟨by rw [E2 45 (by omega) (by omega), z45, e2], fun i hi => ?_, q6, q7⟩
        rw [e2] at hi; omega
      · exact h.2.2.2.2.2.eq (X 58 (by omega) (by omega) (by omega)) (X 1 (by omega) (by omega) (by omega)) (by rw [X 69 (by omega) (by omega) (by omega)]) (X 73 (by omega) (by omega) (by omega)) (ek 5 (by omega) (by omega) (by omega) (by omega)) (ek 6 (by omega) (by omega) (by omega) (by omega)) (ek 7 (by omega) (by omega) (by omega) (by omega)) (ek 8 (by omega) (by omega) (by omega) (by omega)) (by rw [er]) (by rw [er])
    have fr := iv.2.2.2
    have s23 : σ1.2.1 2 3 = I (v.2.2.1 1) := by rw [s1.1.2.2.2.2]; exact H.2.2.2.2.2.2.1
    refine gX4_readText_61 ⟨H.ob0 s1.1, ?_⟩
    rw [s1.2.2.2.2.2, I_0, I_eq' (by omega) (by omega) (by omega) (by omega)]
    refine ⟨fun fz => ⟨H.ob2 s1.1, ?_⟩, fun fz => ⟨H.ob1 s1.1, H.pl s1 iN (fun σ7 e7 => ?_)⟩⟩
    · rw [C1.p50_0]
      refine eX7_keepStaged ⟨C1.o2, fun σ2 e2 σ3 e3 => ?_⟩
      rw [s23, s1.2.2.1, I_add, show v.2.2.1 1 + ((R.2.1 : Int) - v.2.2.1 1) = R.2.1 by omega] at e2
      rw [if_pos fz, s1.2.2.1]
      refine ⟨rfl, ?_⟩
      unfold nMk
      rw [hR, if_pos fz]
      refine cr σ3 _ (by rw [e3, e2]; rfl) (by rw [e3, e2]; rfl) (fun r a b => by rw [e3, w1_r a, e2, w1_r a]) (by rw [e3, w1_k (by omega), e2, w1_k (by omega)]) ?_ (by rw [e3, w1_at]; rfl) ?_ ?_ rfl rfl rfl (fun k a b d e => ?_) ?_ (fun t ht => rfl)
      · rw [e3, w1_k (by omega), e2, w1_at]; rfl
      · rw [e3, w1_r (by omega), e2, w1_r (by omega), s1.2.2.2.2.2, fz]; rfl
      · rw [e3, w1_r (by omega), e2, w1_r (by omega), s1.2.1.2.2]; rfl
      · show (if k = 1 then _ else if k = 2 then _ else if k = 3 then _ else if k = 4 then _ else v.2.2.1 k) = _
        rw [if_neg a, if_neg b, if_neg d, if_neg e]
      · show ((R.2.1 : Nat) : Int) ≤ R.2.1; omega
    · have C7 : Cp σ7 := ⟨by rw [e7]; exact C1.1, by rw [e7]; exact C1.2⟩
      rw [C7.p50_0]
      refine ⟨C7.o2, eX7_dropStaged ⟨C7.o2, fun σ2 e2 => ?_⟩⟩
      rw [if_neg fz]
      refine ⟨rfl, ?_⟩
      unfold nMk
      rw [hR, if_neg fz]
      refine cr σ2 _ (by rw [e2, e7]; rfl) (by rw [e2, e7]; rfl) (fun r a b => by rw [e2, w1_r a, e7, w1_r b]) (by rw [e2, w1_k (by omega), e7, w1_r (by omega)]) ?_ (by rw [e2, w1_at]; rfl) ?_ ?_ rfl rfl rfl (fun k a b d e => ?_) ?_ (fun t ht => ?_)
      · rw [e2, w1_k (by omega), e7, w1_r (by omega), s23]; rfl
      · rw [e2, w1_r (by omega), e7, w1_k (by omega), s1.2.2.2.2.2]; rfl
      · rw [e2, w1_r (by omega), e7, w1_at]; rfl
      · show (if k = 2 then _ else if k = 3 then _ else if k = 4 then _ else v.2.2.1 k) = _
        rw [if_neg b, if_neg d, if_neg e]
      · show v.2.2.1 1 ≤ R.2.1; omega
      · have ht' : (t : Int) < v.2.2.1 1 := ht
        exact (iv.2.2.1 t (by omega)).symm
  have F : ∀ (d j : Nat) (s : Tt) (σ1 : Sg), j + d = n + 1 → Tv v.1 (v.2.2.1 0) v.2.1 (v.2.2.1 1).toNat s → s.2.2.1 ≤ N → MkS σ0 σ1 v s.1 s.2.1 s.2.2.1 s.2.2.2.1 → txt (kdB (v.2.2.2 0) n) (vlB (v.2.2.2 0) n) v.1 d s = R → GW l mX4_readText 25 [(0, .inr 50), (1, .inl (I n)), (2, .inl (I (j : Nat)))] [] σ1 0 0 (PI fun x σ' => x = I (if R.2.2.2.1 = 0 then (R.2.1 : Int) - v.2.2.1 1 else -1) ∧ CR σ' (nMk v n) ∧ CF σ σ') := by
    intro d
    induction d with
    | zero =>
      intro j s σ1 hj tv iN s1 ht
      have ht : s = R := ht
      subst ht
      exact gX4_readText_25 ⟨fun _ => fin σ1 j iN s1, fun y => absurd ((I_lt (a := (n : Int)) (b := (j : Int)) ⟨by omega, by omega⟩ ⟨by omega, by omega⟩).mpr (by omega)) y⟩
    | succ d ih =>
      intro j s σ1 hj tv iN s1 ht
      have ht : (if s.2.2.2.1 = 0 ∧ kdB (v.2.2.2 0) n s.2.2.1 ≠ 0 then txt (kdB (v.2.2.2 0) n) (vlB (v.2.2.2 0) n) v.1 d (lin1 (kdB (v.2.2.2 0) n) (vlB (v.2.2.2 0) n) v.1 s) else s) = R := ht
      have fr := tv.2.2.2
      have kr := kdB_rg (v.2.2.2 0) n s.2.2.1
      refine gX4_readText_25 ⟨fun y => ?_, fun _ => ⟨H.ob0 s1.1, ?_⟩⟩
      · rw [I_lt ⟨by omega, by omega⟩ ⟨by omega, by omega⟩] at y; omega
      rw [s1.2.2.2.2.2, I_0, I_eq' (by omega) (by omega) (by omega) (by omega)]
      refine ⟨fun y => ?_, fun y => ⟨H.ob1 s1.1, H.kd s1 iN ?_⟩⟩
      · rw [if_neg (fun w => y w.1)] at ht
        subst ht
        exact fin σ1 j iN s1
      · rw [I_eq' (by omega) (by omega) (by omega) (by omega)]
        refine ⟨fun w => ?_, fun w => ?_⟩
        · rw [if_neg (fun u => u.2 w)] at ht
          subst ht
          exact fin σ1 j iN s1
        · rw [if_pos ⟨y, w⟩] at ht
          rw [y] at s1
          have tv' := (lin1_iv (kd := kdB (v.2.2.2 0) n) (vl := vlB (v.2.2.2 0) n) tv).1
          refine H.readLine s.2.2 s1 iN tv.1 (fun u σ2 s2 i2 => ?_) (fun u σ2 s2 i2 => ?_)
          · have el : lin1 (kdB (v.2.2.2 0) n) (vlB (v.2.2.2 0) n) v.1 s = (s.1, s.2.1, lin (kdB (v.2.2.2 0) n) (vlB (v.2.2.2 0) n) v.1 s.1 s.2.1 s.2.2) := by unfold lin1; rw [if_neg u]
            rw [el] at ht tv'
            rw [I_1, I_add]
            exact ih (j + 1) _ σ2 (by omega) tv' i2 s2 ht
          · have el : lin1 (kdB (v.2.2.2 0) n) (vlB (v.2.2.2 0) n) v.1 s = (fun t => if t = s.2.1 then (lin (kdB (v.2.2.2 0) n) (vlB (v.2.2.2 0) n) v.1 s.1 s.2.1 s.2.2).2.2.1 else s.1 t, s.2.1 + 1, lin (kdB (v.2.2.2 0) n) (vlB (v.2.2.2 0) n) v.1 s.1 s.2.1 s.2.2) := by unfold lin1; rw [if_pos u]
            rw [el] at ht tv'
            rw [I_1, I_add]
            exact ih (j + 1) _ σ2 (by omega) tv' i2 (by show MkS σ0 σ2 v _ (s.2.1 + 1) _ (lin (kdB (v.2.2.2 0) n) (vlB (v.2.2.2 0) n) v.1 s.1 s.2.1 s.2.2).2.1; rw [u]; exact s2) ht
  exact F (n + 1) 0 (v.2.1, (v.2.2.1 1).toNat, 0, 0, bgn 0, bgn 0) σ6 (by omega) ⟨hw.tws, ⟨Nat.le_refl _, by show (v.2.2.1 1).toNat ≤ 10; omega⟩, fun _ _ => rfl, by show (0 : Int) ≤ 0; omega, by show (0 : Int) ≤ 5; omega⟩ (Nat.zero_le _) S6 hR
end MKJ
