/-! share: what it answers -/
def tmV (v : Vt) (s k : Nat) : Int := if k < cntB s 10 then v.2.1 (nth s 10 k) 0 1 else 0
def abV (v : Vt) (s : Nat) (e : Int) (a k : Nat) : Prop := abT v e a (nth s 10 k)
noncomputable def bwV (v : Vt) (s : Nat) (e : Int) (a : Nat) : Nat → Nat → Int := bwS (v.1 a) (fun k => fsT v e a (nth s 10 k)) (fun k => lsT v e a (nth s 10 k))
def FnV (v : Vt) (s : Nat) (e : Int) (f : Nat → Int) : Prop := ∀ c, c < 2 ^ cntB s 10 → ∃ x0 x1 : Int, TV (bwV v s e 0) (tmV v s) (abV v s e 0) (cntB s 10) (df (2 ^ cntB s 10 - 1) c) x0 ∧ TV (bwV v s e 1) (tmV v s) (abV v s e 1) (cntB s 10) c x1 ∧ f c = max x0 x1
def AnsV (v : Vt) (s : Nat) (e : Int) (lt : Int) (bs : Nat) : Prop := ∃ f : Nat → Int, ∃ c : Nat, FnV v s e f ∧ c < 2 ^ cntB s 10 ∧ lt = f c ∧ (∀ c', c' < 2 ^ cntB s 10 → f c ≤ f c') ∧ (∀ c', c' < c → f c < f c') ∧ bs = rl (nth s 10) c (cntB s 10)
theorem AnsV.un {v : Vt} {s : Nat} {e lt lt' : Int} {bs bs' : Nat} (h : AnsV v s e lt bs) (h' : AnsV v s e lt' bs') : lt = lt' ∧ bs = bs' := by
  obtain ⟨f, c, a1, a2, a3, a4, a5, a6⟩ := h
  obtain ⟨f', c', b1, b2, b3, b4, b5, b6⟩ := h'
  have ff : ∀ d, d < 2 ^ cntB s 10 → f d = f' d := fun d hd => by
    obtain ⟨x0, x1, p0, p1, p2⟩ := a1 d hd
    obtain ⟨y0, y1, q0, q1, q2⟩ := b1 d hd
    rw [p2, q2, p0.un q0, p1.un q1]
  have e1 := ff c a2
  have e2 := ff c' b2
  have := a4 c' b2
  have := b4 c a2
  have ec : c = c' := by
    rcases Nat.lt_trichotomy c c' with q | q | q
    · have := b5 c q; omega
    · exact q
    · have := a5 c' q; omega
  subst ec
  exact ⟨by omega, by rw [a6, b6]⟩
theorem setE (P : Nat → Prop) : ∀ m : Nat, ∃ c, c < 2 ^ m ∧ ∀ k, k < m → (c.testBit k = true ↔ P k) := by
  intro m
  induction m with
  | zero => exact ⟨0, by decide, fun k h => absurd h (by omega)⟩
  | succ m ih =>
    obtain ⟨c, c1, c2⟩ := ih
    have tb : c.testBit m = false := Nat.testBit_lt_two_pow c1
    by_cases z : P m
    · refine ⟨2 ^ m + c, by rw [Nat.pow_succ]; omega, fun k hk => ?_⟩
      by_cases q : k = m
      · rw [q, Nat.testBit_two_pow_add_eq, tb]; exact ⟨fun _ => z, fun _ => rfl⟩
      · rw [Nat.testBit_two_pow_add_gt (by omega)]; exact c2 k (by omega)
    · refine ⟨c, by rw [Nat.pow_succ]; omega, fun k hk => ?_⟩
      by_cases q : k = m
      · rw [q, tb]; exact ⟨fun y => absurd y (by decide), fun y => absurd y z⟩
      · exact c2 k (by omega)
theorem ful_bit {m c k : Nat} (hm : m ≤ 5) (hc : c < 2 ^ m) (hk : k < 10) : (df (2 ^ m - 1) c).testBit k = true ↔ k < m ∧ ¬ c.testBit k = true := by
  have p : 2 ^ m ≤ 2 ^ 5 := Nat.pow_le_pow_right (by omega) hm
  rw [df_bit (by omega) hk, Nat.testBit_two_pow_sub_one, Bool.and_eq_true, decide_eq_true_eq]
  cases c.testBit k <;> simp
theorem TV.rg {bt : Nat → Nat → Int} {tm : Nat → Int} {ab : Nat → Prop} {m c : Nat} {x : Int} (hm : m ≤ 5) (hb : ∀ x y, 0 ≤ bt x y ∧ bt x y ≤ 15) (ht : ∀ k, 0 ≤ tm k ∧ tm k ≤ 40) (hc : c < 32) (h : TV bt tm ab m c x) : 0 ≤ x ∧ x ≤ 1000000 := by
  by_cases z : ∀ k, k < m → c.testBit k = true → ab k
  · have := (h.1 z).rg hm hb ht hc; omega
  · have := h.2 z; omega
section SHS
variable {l : Launch} {σ σ' τ : Sg} {v : Vt} {c N s : Nat} {e : Int}
theorem tmV_rg (hw : WF c v) (hN : v.2.2.1 1 = N) (hs : s < 2 ^ N) (N10 : N ≤ 10) : (∀ k, k < cntB s 10 → nth s 10 k < N ∧ s.testBit (nth s 10 k) = true) ∧ ∀ k, 0 ≤ tmV v s k ∧ tmV v s k ≤ 40 := by
  have q : ∀ k, k < cntB s 10 → nth s 10 k < N ∧ s.testBit (nth s 10 k) = true := fun k hk => by
    have st := cnt_stab hs 10 N10
    rw [st.1] at hk
    have := nth_ok N k hk
    rw [st.2]; exact ⟨this.1, this.2.1⟩
  refine ⟨q, fun k => ?_⟩
  unfold tmV
  by_cases z : k < cntB s 10
  · rw [if_pos z]
    have := hw.2.2.2.1 (nth s 10 k) (by have := q k z; omega)
    exact ⟨this.2.2.2.1, this.2.2.2.2.1⟩
  · rw [if_neg z]; omega
/-- what the class holds of its k-th tape -/
def ShD (v : Vt) (e : Int) (τ : Sg) (k t : Nat) : Prop := τ.2.1 78 k = I t ∧ τ.2.1 77 k = I (v.2.1 t 0 1) ∧ ∀ a, a < 2 → (abT v e a t → τ.2.1 79 (5 * a + k) = 1 ∧ τ.2.1 75 (5 * a + k) = I (fsT v e a t) ∧ τ.2.1 76 (5 * a + k) = I (lsT v e a t)) ∧ (¬ abT v e a t → τ.2.1 79 (5 * a + k) = 0)
set_option maxHeartbeats 1000000 in
theorem q_sh117 {K : Sg → Prop} (h : CR τ v) (hw : WF c v) (h2 : v.2.2.1 0 = 2) (hN : v.2.2.1 1 = N) (hs : s < 2 ^ N) (m5 : cntB s 10 ≤ 5) (tks : ∀ t, t < N → s.testBit t = true → v.2.1 t 0 1 ≠ 0) (h7 : τ.2.1 74 7 = I (cntB s 10 : Nat)) (hD : ∀ k, k < cntB s 10 → ShD v e τ k (nth s 10 k))
    (hK : ∀ σ' lt bs, CSm τ σ' → AnsV v s e lt bs → σ'.2.1 74 8 = I lt → σ'.2.1 74 9 = I (bs : Nat) → K σ') : GW l mX6_search 117 [(0, .inr 74), (1, .inr 2), (2, .inr 120), (3, .inl (I s)), (4, .inl (I e)), (5, .inl 0)] [] τ 0 0 (PV K) := by
  have w0 := hw.1
  have N10 : N ≤ 10 := by omega
  obtain ⟨hq, ht⟩ := tmV_rg hw hN hs N10
  have p : 2 ^ cntB s 10 ≤ 2 ^ 5 := Nat.pow_le_pow_right (by omega) m5
  have p1 : 0 < 2 ^ cntB s 10 := Nat.two_pow_pos _
  have hr : ∀ a k, k < cntB s 10 → abV v s e a k → (0 ≤ fsT v e a (nth s 10 k) ∧ fsT v e a (nth s 10 k) < 4096) ∧ 0 ≤ lsT v e a (nth s 10 k) ∧ lsT v e a (nth s 10 k) < 4096 := fun a k hk hb => fs_rg hw (by have := hq k hk; omega) (tks _ (hq k hk).1 (hq k hk).2) hb
  have hS : ∀ a, a < 2 → ShA (cntB s 10) (tmV v s) (abV v s e a) (fun k => fsT v e a (nth s 10 k)) (fun k => lsT v e a (nth s 10 k)) a τ := fun a ha => by
    refine ⟨h7, fun k hk => ?_, fun k hk => (hD k hk).2.2 a ha⟩
    unfold tmV; rw [if_pos hk]; exact (hD k hk).2.1
  have hwf : ∀ a, a < 2 → ArmWf (v.1 a) := fun a ha => (hw.2.2.1 a ha).1
  have hbt : ∀ a, a < 2 → ∀ x y, 0 ≤ bwV v s e a x y ∧ bwV v s e a x y ≤ 15 := fun a ha => bwS_rg (hwf a ha) _ _
  refine gX6_search_117 ⟨fun q => absurd q (by decide), fun _ => ⟨h.1.o2, h.ar (z := 0) hw ⟨by omega, by omega⟩ (fun a ea _ _ => ?_) (fun q => absurd ⟨by omega, by omega⟩ q)⟩⟩
  have ea : a = 0 := by omega
  subst ea
  refine ⟨fun q => absurd q (by omega), fun _ => ⟨h.1.o74, ?_⟩⟩
  refine q_fill (a := 0) h.1 (by omega) (h.A (a := 0) (by omega)) (hwf 0 (by omega)) m5 (hS 0 (by omega)) (hr 0) ht (fun τ1 o1 _ T1 => ?_)
  have h1 := (h.onl hw o1 (by decide)).1
  refine gX6_search_117 ⟨fun q => absurd q (by decide), fun _ => ⟨h1.1.o2, h1.ar (z := 1) hw ⟨by omega, by omega⟩ (fun a ea _ _ => ?_) (fun q => absurd ⟨by omega, by omega⟩ q)⟩⟩
  have ea : a = 1 := by omega
  subst ea
  refine ⟨fun q => absurd q (by omega), fun _ => ⟨h1.1.o74, ?_⟩⟩
  refine q_fill (a := 1) h1.1 (by omega) (h1.A (a := 1) (by omega)) (hwf 1 (by omega)) m5 ((hS 1 (by omega)).onl o1 (by rw [o1.2.2 74 (by decide)]) (by decide)) (hr 1) ht (fun τ2 o2 k2 T2 => ?_)
  have h3 := (h1.onl hw o2 (by decide)).1
  have o3 := o1.tr o2
  refine gX6_search_117 ⟨fun _ => ⟨h3.1.o74, ?_⟩, fun q => absurd (by decide) q⟩
  have y0 : ∀ d, ∃ x : Int, d < 2 ^ cntB s 10 → τ2.2.1 80 d = I x ∧ TV (bwV v s e 0) (tmV v s) (abV v s e 0) (cntB s 10) d x := fun d => by
    by_cases q : d < 2 ^ cntB s 10
    · obtain ⟨x, x1, x2⟩ := T1 d q
      refine ⟨x, fun _ => ⟨?_, x2⟩⟩
      rw [k2 d (by omega), ← x1, show 32 * 0 + d = d by omega]
    · exact ⟨0, fun w => absurd w q⟩
  have y1 : ∀ d, ∃ x : Int, d < 2 ^ cntB s 10 → τ2.2.1 80 (32 + d) = I x ∧ TV (bwV v s e 1) (tmV v s) (abV v s e 1) (cntB s 10) d x := fun d => by
    by_cases q : d < 2 ^ cntB s 10
    · obtain ⟨x, x1, x2⟩ := T2 d q
      exact ⟨x, fun _ => ⟨by rw [← x1], x2⟩⟩
    · exact ⟨0, fun w => absurd w q⟩
  obtain ⟨t0, Y0⟩ := Classical.axiomOfChoice y0
  obtain ⟨t1, Y1⟩ := Classical.axiomOfChoice y1
  have dfl : ∀ d, df (2 ^ cntB s 10 - 1) d < 2 ^ cntB s 10 := fun d => Nat.lt_of_le_of_lt Nat.and_le_left (by omega)
  have FN : FnV v s e (fun d => max (t0 (df (2 ^ cntB s 10 - 1) d)) (t1 d)) := fun d hd => ⟨_, _, (Y0 _ (dfl d)).2, (Y1 d hd).2, rfl⟩
  refine q_choose (f := fun d => max (t0 (df (2 ^ cntB s 10 - 1) d)) (t1 d)) (nu := nth s 10) (t0 := t0) (t1 := t1) h3.1 m5 (by rw [o3.2.2 74 (by decide)]; exact h7) (fun k hk => ⟨by rw [o3.2.2 78 (by decide)]; exact (hD k hk).1, by have := hq k hk; omega⟩) (fun d hd => ⟨(Y0 d hd).1, (Y0 d hd).2.rg m5 (hbt 0 (by omega)) ht (by omega)⟩) (fun d hd => ⟨(Y1 d hd).1, (Y1 d hd).2.rg m5 (hbt 1 (by omega)) ht (by omega)⟩) (fun d hd => rfl) ?_ (fun σ' d o4 d1 d2 d3 d4 d5 => ?_)
  · obtain ⟨d, d1, d2⟩ := setE (fun k => v.2.1 (nth s 10 k) 0 0 = 1) (cntB s 10)
    refine ⟨d, d1, ?_⟩
    have g1 := ((Y1 d d1).2.1 (fun k hk hb => Or.inl ((d2 k hk).mp hb))).rg m5 (hbt 1 (by omega)) ht (by omega)
    have g0 := ((Y0 _ (dfl d)).2.1 (fun k hk hb => Or.inl (by
      have := ((ful_bit m5 d1 (by omega)).mp hb).2
      rw [d2 k hk] at this
      have w := hw.2.2.2.1 (nth s 10 k) (by have := hq k hk; omega)
      show v.2.1 (nth s 10 k) 0 0 = ((0 : Nat) : Int)
      omega))).rg m5 (hbt 0 (by omega)) ht (by have := dfl d; omega)
    show max (t0 (df (2 ^ cntB s 10 - 1) d)) (t1 d) < 1000000
    omega
  · exact hK σ' _ _ ((o3.cs (by decide)).tr (o4.cs (by decide))) ⟨_, d, FN, d1, rfl, d4, d5, rfl⟩ d2 d3
set_option maxHeartbeats 1000000 in
theorem q_shSearch {K : Sg → Prop} (h : CR σ v) (hw : WF c v) (hz : σ.2.2 1 8 = 120) (h2 : v.2.2.1 0 = 2) (hN : v.2.2.1 1 = N) (hs : s < 2 ^ N) (m5 : cntB s 10 ≤ 5) (tks : ∀ t, t < N → s.testBit t = true → v.2.1 t 0 1 ≠ 0) (he : 0 ≤ e ∧ e ≤ 2000)
    (hK : ∀ σ' lt bs, CSm σ σ' → AnsV v s e lt bs → σ'.2.1 74 8 = I lt → σ'.2.1 74 9 = I (bs : Nat) → K σ') : Con l mX6_search [.inr 74, .inr 2, .inr 120, .inl (I s), .inl (I e)] σ (PV K) := by
  have w0 := hw.1
  have N10 : N ≤ 10 := by omega
  have s10 : s < 1024 := Nat.lt_of_lt_of_le hs (by rw [show (1024 : Nat) = 2 ^ 10 from rfl]; exact Nat.pow_le_pow_right (by omega) N10)
  have tR : ∀ {τ}, CSm σ τ → CR τ v := fun q => (h.cs q (by omega)).1
  refine eX6_search ⟨h.1.o74, fun σ2 e2 => ?_⟩
  have F := lp (N := 10) (P := fun i => ∀ τ, CSm σ τ → τ.2.1 74 7 = I (cntB s i : Nat) → (∀ k, k < cntB s i → ShD v e τ k (nth s i k)) → GW l mX6_search 8 [(0, .inr 74), (1, .inr 2), (2, .inr 120), (3, .inl (I s)), (4, .inl (I e)), (5, .inl (I i))] [] τ 0 0 (PV K)) ?_ ?_ 0 (by omega)
  · exact F σ2 ((Onl.w (S := [74]) e2 (by decide)).cs (by decide)) (by rw [e2, w1_at]; rfl) (fun k hk => absurd hk (by show ¬ k < 0; omega))
  · intro τ cs s7 hD
    refine gX6_search_8 ⟨fun _ => ?_, fun q => absurd (by decide) q⟩
    exact q_sh117 (tR cs) hw h2 hN hs m5 tks s7 hD (fun σ' lt bs a b c' d => hK σ' lt bs (cs.tr a) b c' d)
  · intro i hi ih τ cs s7 hD
    have hT := tR cs
    have skip : ¬ s.testBit i = true → GW l mX6_search 8 [(0, .inr 74), (1, .inr 2), (2, .inr 120), (3, .inl (I s)), (4, .inl (I e)), (5, .inl (I i + 1))] [] τ 0 0 (PV K) := fun nb => by
      rw [I_1, I_add]
      have ec : cntB s (i + 1) = cntB s i := by rw [cntB_s, if_neg nb, Nat.add_zero]
      refine ih τ cs (by rw [ec]; exact s7) (fun k hk => ?_)
      rw [ec] at hk
      rw [nth_s, if_neg (fun q => nb q.1)]
      exact hD k hk
    refine gX6_search_8 ⟨fun q => ?_, fun _ => ⟨hT.1.o2, hT.tp hw ⟨by omega, by omega⟩ (fun t et htn t10 => ?_) (fun nt => ⟨fun _ => skip ?_, fun q => absurd rfl q⟩)⟩⟩
    · rw [L_lit, I_le ⟨by omega, by omega⟩ ⟨by omega, by omega⟩] at q; exact absurd q (by omega)
    · have et : t = i := by omega
      subst et
      refine ⟨fun q => absurd q (by omega), fun _ => ⟨fun q => skip (fun w => q ((bitS (by omega) (by omega)).mpr w)), fun q => ⟨hT.1.o74, ?_⟩⟩⟩
      rw [bitS (by omega) (by omega)] at q
      have tz := tks t (by omega) q
      have k5 : cntB s t < 5 := by have := (nth_at q 10 hi).1; omega
      rw [s7]
      refine ⟨fun z => ?_, fun _ => ⟨hT.1.a74_3 (by omega) (by omega), fun σ9 e9 => ?_⟩⟩
      · rw [L_lit, I_le ⟨by omega, by omega⟩ ⟨by omega, by omega⟩] at z; exact absurd z (by omega)
      rw [hT.1.p74_3, I_cln (by omega)] at e9
      have o9 : Onl [78] τ σ9 := Onl.w e9 (by decide)
      have C9 := o9.C hT.1
      have s79 : σ9.2.1 74 7 = I (cntB s t : Nat) := by rw [o9.2.2 74 (by decide)]; exact s7
      rw [s79]
      refine ⟨((hT.P t10).onl o9).ob, C9.a74_2 (by omega) (by omega), fun σ12 e12 => ?_⟩
      have t3 : σ9.2.1 (15 + 3 * t) 3 = I (v.2.1 t 0 1) := by rw [e9, w1_r (by omega)]; exact (hT.D htn).2.1
      rw [C9.p74_2, I_cln (by omega), t3] at e12
      have o12 : Onl [77] σ9 σ12 := Onl.w e12 (by decide)
      have oa : Onl [77, 78] τ σ12 := (o9.up (by decide)).tr (o12.up (by decide))
      have c12 := cs.tr (oa.cs (by decide))
      have h12 := tR c12
      have s712 : σ12.2.1 74 7 = I (cntB s t : Nat) := by rw [oa.2.2 74 (by decide)]; exact s7
      refine gX6_search_74 ⟨fun z => absurd z (by decide), fun _ => ⟨h12.1.o74, ?_⟩⟩
      refine q_putTape (a := 0) h12 hw (by rw [c12.z8]; exact hz) h2 htn t10 tz (by omega) he s712 k5 (fun τ1 c1 f1 g1 d1 => ?_)
      have cc1 := c12.tr c1
      have h13 := tR cc1
      have s713 : τ1.2.1 74 7 = I (cntB s t : Nat) := by rw [f1 74 (by omega) (by omega) (by omega) (by omega)]; exact s712
      refine gX6_search_74 ⟨fun z => absurd z (by decide), fun _ => ⟨h13.1.o74, ?_⟩⟩
      refine q_putTape (a := 1) h13 hw (by rw [cc1.z8]; exact hz) h2 htn t10 tz (by omega) he s713 k5 (fun τ2 c2 f2 g2 d2 => ?_)
      have cc2 := cc1.tr c2
      have h14 := tR cc2
      have s714 : τ2.2.1 74 7 = I (cntB s t : Nat) := by rw [f2 74 (by omega) (by omega) (by omega) (by omega)]; exact s713
      refine gX6_search_74 ⟨fun _ => ⟨h14.1.o74, fun σ3 e3 => ?_⟩, fun z => absurd (by decide) z⟩
      rw [s714, I_1, I_add] at e3
      have o3 : Onl [74] τ2 σ3 := Onl.w e3 (by decide)
      rw [I_1, I_add]
      have ec : cntB s (t + 1) = cntB s t + 1 := by rw [cntB_s, if_pos q]
      refine ih σ3 (cc2.tr (o3.cs (by decide))) (by rw [e3, w1_at, ec]; rfl) (fun k hk => ?_)
      rw [ec] at hk
      have U : ∀ r b, r < 120 → r ≠ 74 → b ≠ cntB s t → b ≠ 5 + cntB s t → σ3.2.1 r b = σ12.2.1 r b := fun r b r1 r2 r3 r4 => by
        rw [o3.2.2 r (by simp only [List.mem_cons, List.not_mem_nil, or_false]; exact r2), g2 r b r1 (by omega), g1 r b r1 (by omega)]
      have U' : ∀ r, r < 120 → r ≠ 74 → r ≠ 75 → r ≠ 76 → r ≠ 79 → σ3.2.1 r = σ12.2.1 r := fun r r1 r2 r3 r4 r5 => by
        rw [o3.2.2 r (by simp only [List.mem_cons, List.not_mem_nil, or_false]; exact r2), f2 r r1 r3 r4 r5, f1 r r1 r3 r4 r5]
      rw [nth_s]
      unfold ShD
      rw [U' 78 (by omega) (by omega) (by omega) (by omega) (by omega), U' 77 (by omega) (by omega) (by omega) (by omega) (by omega)]
      by_cases z : k = cntB s t
      · rw [if_pos ⟨q, z⟩, z]
        refine ⟨by rw [e12, w1_r (by omega), e9, w1_at], by rw [e12, w1_at], fun a ha => ?_⟩
        rw [o3.2.2 79 (by decide), o3.2.2 75 (by decide), o3.2.2 76 (by decide)]
        have ha : a = 0 ∨ a = 1 := by omega
        rcases ha with rfl | rfl
        · rw [g2 79 _ (by omega) (by omega), g2 75 _ (by omega) (by omega), g2 76 _ (by omega) (by omega)]; exact d1
        · exact d2
      · rw [if_neg (fun w => z w.2)]
        have hd := hD k (by omega)
        have V : ∀ r b, r < 120 → r ≠ 74 → r ≠ 77 → r ≠ 78 → b ≠ cntB s t → b ≠ 5 + cntB s t → σ3.2.1 r b = τ.2.1 r b := fun r b r1 r2 r3 r4 r5 r6 => by
          rw [U r b r1 r2 r5 r6, oa.2.2 r (by simp only [List.mem_cons, List.not_mem_nil, or_false, not_or]; exact ⟨r3, r4⟩)]
        refine ⟨by rw [e12, w1_r (by omega), e9, w1_k z]; exact hd.1, by rw [e12, w1_k z, e9, w1_r (by omega)]; exact hd.2.1, fun a ha => ?_⟩
        rw [V 79 _ (by omega) (by omega) (by omega) (by omega) (by omega) (by omega), V 75 _ (by omega) (by omega) (by omega) (by omega) (by omega) (by omega), V 76 _ (by omega) (by omega) (by omega) (by omega) (by omega) (by omega)]
        exact hd.2.2 a ha
    · intro w
      have : s.testBit i = false := Nat.testBit_lt_two_pow (Nat.lt_of_lt_of_le hs (Nat.pow_le_pow_right (by omega) (by omega)))
      rw [this] at w; exact absurd w (by decide)
end SHS
