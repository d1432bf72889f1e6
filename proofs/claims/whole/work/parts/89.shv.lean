/-! share: the reference chooses -/
theorem minEx {f : Nat → Int} {P : Nat → Prop} : ∀ m : Nat, (∃ k, k < m ∧ P k) → ∃ k, k < m ∧ P k ∧ ∀ k', k' < m → P k' → f k ≤ f k' := by
  intro m
  induction m with
  | zero => rintro ⟨k, h, _⟩; omega
  | succ m ih =>
    intro h
    by_cases z : ∃ k, k < m ∧ P k
    · obtain ⟨k, k1, k2, k3⟩ := ih z
      by_cases y : P m ∧ f m < f k
      · refine ⟨m, by omega, y.1, fun k' q1 q2 => ?_⟩
        by_cases e : k' = m
        · rw [e]; exact Int.le_refl _
        · have := k3 k' (by omega) q2; have := y.2; omega
      · refine ⟨k, by omega, k2, fun k' q1 q2 => ?_⟩
        by_cases e : k' = m
        · subst e
          by_cases u : f k' < f k
          · exact absurd ⟨q2, u⟩ y
          · omega
        · exact k3 k' (by omega) q2
    · obtain ⟨k, k1, k2⟩ := h
      have e : k = m := by
        by_cases e : k = m
        · exact e
        · exact absurd ⟨k, by omega, k2⟩ z
      subst e
      refine ⟨k, by omega, k2, fun k' q1 q2 => ?_⟩
      by_cases e : k' = k
      · rw [e]; exact Int.le_refl _
      · exact absurd ⟨k', by omega, q2⟩ z
theorem GV.ex {bt : Nat → Nat → Int} {tm : Nat → Int} {m : Nat} (hm : m ≤ 5) : ∀ (d c : Nat) (b : Option Nat), c < 2 ^ m → pc5 c ≤ d → ∃ x, GV bt tm m c b x := by
  have p : 2 ^ m ≤ 2 ^ 5 := Nat.pow_le_pow_right (by omega) hm
  intro d
  induction d with
  | zero => intro c b h1 h2; rw [pc5_0 c (by omega) (by omega)]; exact ⟨0, GV.zero⟩
  | succ d ih =>
    intro c b h1 h2
    by_cases c0 : c = 0
    · rw [c0]; exact ⟨0, GV.zero⟩
    · have hy : ∀ k, ∃ y : Int, k < m → c.testBit k = true → GV bt tm m (dl c k) (some k) y := fun k => by
        by_cases q : k < m ∧ c.testBit k = true
        · obtain ⟨y, q2⟩ := ih (dl c k) (some k) (dl_lt2 h1) (by have := pc5_dl c (by omega) k (by omega) q.2; omega)
          exact ⟨y, fun _ _ => q2⟩
        · exact ⟨0, fun u1 u2 => absurd ⟨u1, u2⟩ q⟩
      obtain ⟨f, hf⟩ := Classical.axiomOfChoice hy
      obtain ⟨k, k1, k2, k3⟩ := minEx (f := fun k => hbk bt b k + tm k + f k) (P := fun k => c.testBit k = true) m (bit_exm hm h1 c0)
      exact ⟨hbk bt b k + tm k + f k, GV.step (f := f) hm (by omega) c0 hf (fun k' q1 q2 => k3 k' q1 q2) ⟨k, k1, k2, rfl⟩⟩
theorem TV.ex {bt : Nat → Nat → Int} {tm : Nat → Int} {ab : Nat → Prop} {m c : Nat} (hm : m ≤ 5) (hc : c < 2 ^ m) : ∃ x, TV bt tm ab m c x := by
  have p : 2 ^ m ≤ 2 ^ 5 := Nat.pow_le_pow_right (by omega) hm
  by_cases z : ∀ k, k < m → c.testBit k = true → ab k
  · obtain ⟨x, hx⟩ := GV.ex (bt := bt) (tm := tm) hm 5 c none hc (pc5_le c (by omega))
    exact ⟨x, fun _ => hx, fun q => absurd z q⟩
  · exact ⟨1000000, fun q => absurd q z, fun _ => rfl⟩
theorem FnV.ex (v : Vt) (s : Nat) (e : Int) (hm : cntB s 10 ≤ 5) : ∃ f, FnV v s e f := by
  have p1 : 0 < 2 ^ cntB s 10 := Nat.two_pow_pos _
  have h : ∀ c, ∃ x : Int, c < 2 ^ cntB s 10 → ∃ x0 x1 : Int, TV (bwV v s e 0) (tmV v s) (abV v s e 0) (cntB s 10) (df (2 ^ cntB s 10 - 1) c) x0 ∧ TV (bwV v s e 1) (tmV v s) (abV v s e 1) (cntB s 10) c x1 ∧ x = max x0 x1 := fun c => by
    by_cases q : c < 2 ^ cntB s 10
    · obtain ⟨x0, h0⟩ := TV.ex (bt := bwV v s e 0) (tm := tmV v s) (ab := abV v s e 0) (c := df (2 ^ cntB s 10 - 1) c) hm (Nat.lt_of_le_of_lt Nat.and_le_left (by omega))
      obtain ⟨x1, h1⟩ := TV.ex (bt := bwV v s e 1) (tm := tmV v s) (ab := abV v s e 1) (c := c) hm q
      exact ⟨max x0 x1, fun _ => ⟨x0, x1, h0, h1, rfl⟩⟩
    · exact ⟨0, fun u => absurd u q⟩
  obtain ⟨f, hf⟩ := Classical.axiomOfChoice h
  exact ⟨f, hf⟩
section SHV
variable {l : Launch} {σ σ' τ : Sg} {v : Vt} {w0 N s m a : Nat} {e : Int}
/-- larger small sets are larger sets -/
theorem Chs.mono (h : Chs v s m) {c c' : Nat} (hc : c < c') : ∀ hc' : c' < 2 ^ m, rl (nth s 10) c m < rl (nth s 10) c' m := by
  have K : ∀ j, j ≤ m → rl (nth s 10) c j < 2 ^ (if j = 0 then 0 else nth s 10 (j - 1) + 1) ∧ rl (nth s 10) c' j < 2 ^ (if j = 0 then 0 else nth s 10 (j - 1) + 1) ∧ (c % 2 ^ j < c' % 2 ^ j → rl (nth s 10) c j < rl (nth s 10) c' j) ∧ (c % 2 ^ j = c' % 2 ^ j → rl (nth s 10) c j = rl (nth s 10) c' j) := by
    intro j
    induction j with
    | zero => intro _; exact ⟨Nat.two_pow_pos _, Nat.two_pow_pos _, fun q => by rw [Nat.pow_zero, Nat.mod_one, Nat.mod_one] at q; omega, fun _ => rfl⟩
    | succ j ih =>
      intro hj
      obtain ⟨i1, i2, i3, i4⟩ := ih (by omega)
      have lo : ∀ x, x < 2 ^ (if j = 0 then 0 else nth s 10 (j - 1) + 1) → x < 2 ^ nth s 10 j := fun x hx => by
        by_cases z : j = 0
        · rw [if_pos z] at hx
          exact Nat.lt_of_lt_of_le hx (Nat.pow_le_pow_right (by omega) (by omega))
        · rw [if_neg z] at hx
          have := nth_inc (s := s) (i := 10) (k := j - 1) (k' := j) (by omega) (by rw [← h.1]; omega)
          exact Nat.lt_of_lt_of_le hx (Nat.pow_le_pow_right (by omega) (by omega))
      have l1 := lo _ i1
      have l2 := lo _ i2
      have R : ∀ d x : Nat, x < 2 ^ nth s 10 j → x ||| ((if d.testBit j = true then 1 else 0) * 2 ^ nth s 10 j) = x + (if d.testBit j = true then 1 else 0) * 2 ^ nth s 10 j := fun d x hx => by
        by_cases z : d.testBit j = true
        · have t := Nat.two_pow_add_eq_or_of_lt hx 1
          rw [Nat.mul_one] at t
          rw [if_pos z, Nat.one_mul, Nat.or_comm, ← t, Nat.add_comm]
        · rw [if_neg z, Nat.zero_mul, Nat.or_zero, Nat.add_zero]
      rw [rl_s, rl_s, R c _ l1, R c' _ l2, if_neg (show ¬ j + 1 = 0 by omega), Nat.add_sub_cancel, Nat.pow_succ 2 (nth s 10 j)]
      have md : ∀ d : Nat, d % 2 ^ (j + 1) = d % 2 ^ j + (if d.testBit j = true then 1 else 0) * 2 ^ j := fun d => by
        rw [Nat.mod_pow_succ, Nat.testBit_eq_decide_div_mod_eq]
        by_cases z : d / 2 ^ j % 2 = 1
        · rw [if_pos (decide_eq_true z), z, Nat.one_mul, Nat.mul_one]
        · rw [if_neg (by rw [decide_eq_true_eq]; exact z), show d / 2 ^ j % 2 = 0 by omega, Nat.mul_zero, Nat.zero_mul]
      rw [md c, md c']
      have m1 := Nat.mod_lt c (Nat.two_pow_pos j)
      have m2 := Nat.mod_lt c' (Nat.two_pow_pos j)
      by_cases z : c.testBit j = true <;> by_cases y : c'.testBit j = true
      · rw [if_pos z, if_pos y]
        refine ⟨by omega, by omega, fun q => ?_, fun q => ?_⟩
        · have := i3 (by omega); omega
        · have := i4 (by omega); omega
      · rw [if_pos z, if_neg y]
        exact ⟨by omega, by omega, fun q => by omega, fun q => by omega⟩
      · rw [if_neg z, if_pos y]
        exact ⟨by omega, by omega, fun q => by omega, fun q => by omega⟩
      · rw [if_neg z, if_neg y]
        refine ⟨by omega, by omega, fun q => ?_, fun q => ?_⟩
        · have := i3 (by omega); omega
        · have := i4 (by omega); omega
  intro hc'
  refine (K m (Nat.le_refl _)).2.2.1 ?_
  rw [Nat.mod_eq_of_lt (by omega), Nat.mod_eq_of_lt hc']; exact hc
theorem Chs.sub (h : Chs v s m) (hs : s < 1024) {o : Nat} (ho : o < 1024) (hd : df o s = 0) : ∃ c, c < 2 ^ m ∧ rl (nth s 10) c m = o := by
  obtain ⟨c, c1, c2⟩ := setE (fun k => o.testBit (nth s 10 k) = true) m
  refine ⟨c, c1, ext10 (h.lt c) ho (fun i hi => bool_ext ?_)⟩
  rw [rl_bit]
  constructor
  · rintro ⟨k, k1, k2, k3⟩
    have := (c2 k k1).mp k3
    rw [k2] at this; exact this
  · intro hi2
    have sb : s.testBit i = true := by
      have := df_bit (S := o) (y := s) (i := i) hs hi
      rw [hd, Nat.zero_testBit, hi2] at this
      cases hq : s.testBit i
      · rw [hq] at this; exact absurd this (by decide)
      · rfl
    obtain ⟨a1, a2⟩ := nth_at sb 10 hi
    rw [← h.1] at a1
    exact ⟨cntB s i, a1, a2, (c2 _ a1).mpr (by rw [a2]; exact hi2)⟩
theorem Chs.in (h : Chs v s m) (hs : s < 1024) (c : Nat) : df (rl (nth s 10) c m) s = 0 := by
  refine ext10 (df_lt (h.lt c)) (by decide) (fun i hi => ?_)
  rw [df_bit hs hi, Nat.zero_testBit]
  cases hq : (rl (nth s 10) c m).testBit i
  · rfl
  · obtain ⟨k, k1, k2, _⟩ := (rl_bit m).mp hq
    have := (h.2.2 k k1).2.2.1
    rw [k2] at this
    rw [this]; rfl
theorem Chs.cpl (h : Chs v s m) (hs : s < 1024) {c : Nat} (hc : c < 2 ^ m) : df s (rl (nth s 10) c m) = rl (nth s 10) (df (2 ^ m - 1) c) m := by
  refine ext10 (df_lt hs) (h.lt _) (fun i hi => bool_ext ?_)
  have m5 := h.2.1
  rw [df_bit (h.lt c) hi, rl_bit, Bool.and_eq_true]
  constructor
  · rintro ⟨a, b⟩
    obtain ⟨a1, a2⟩ := nth_at a 10 hi
    rw [← h.1] at a1
    refine ⟨cntB s i, a1, a2, (ful_bit m5 hc (by omega)).mpr ⟨a1, fun q => ?_⟩⟩
    have := (h.bit a1).mpr q
    rw [a2] at this
    rw [this] at b; exact absurd b (by decide)
  · rintro ⟨k, k1, k2, k3⟩
    have q := ((ful_bit m5 hc (by omega)).mp k3).2
    refine ⟨by rw [← k2]; exact (h.2.2 k k1).2.2.1, ?_⟩
    cases hq : (rl (nth s 10) c m).testBit i
    · rfl
    · rw [← k2] at hq; exact absurd ((h.bit k1).mp hq) q
/-- all of a division can be drawn -/
def AbC (v : Vt) (s : Nat) (e : Int) (m c : Nat) : Prop := ∀ k, k < m → abV v s e (if c.testBit k = true then 1 else 0) k
theorem AbC.two (hm : m ≤ 5) {c : Nat} (hc : c < 2 ^ m) : AbC v s e m c ↔ (∀ k, k < m → (df (2 ^ m - 1) c).testBit k = true → abV v s e 0 k) ∧ ∀ k, k < m → c.testBit k = true → abV v s e 1 k := by
  constructor
  · intro h
    refine ⟨fun k k1 k2 => ?_, fun k k1 k2 => ?_⟩
    · have := h k k1
      rw [if_neg ((ful_bit hm hc (by omega)).mp k2).2] at this; exact this
    · have := h k k1
      rw [if_pos k2] at this; exact this
  · intro h k k1
    by_cases z : c.testBit k = true
    · rw [if_pos z]; exact h.2 k k1 z
    · rw [if_neg z]; exact h.1 k k1 ((ful_bit hm hc (by omega)).mpr ⟨k1, z⟩)
theorem FnV.no {f : Nat → Int} (h : FnV v s e f) (hm : cntB s 10 ≤ 5) (hw : WF w0 v) (hc : Chs v s (cntB s 10)) {c : Nat} (h1 : c < 2 ^ cntB s 10) (hn : ¬ AbC v s e (cntB s 10) c) : 1000000 ≤ f c := by
  obtain ⟨x0, x1, a0, a1, a2⟩ := h c h1
  rw [AbC.two hm h1] at hn
  by_cases z : ∀ k, k < cntB s 10 → (df (2 ^ cntB s 10 - 1) c).testBit k = true → abV v s e 0 k
  · have := a1.2 (fun q => hn ⟨z, q⟩); omega
  · have := a0.2 z; omega
theorem Chs.ht (hc : Chs v s m) (hw : WF w0 v) : ∀ k, 0 ≤ tmV v s k ∧ tmV v s k ≤ 40 := fun k => by
  unfold tmV
  by_cases z : k < cntB s 10
  · rw [if_pos z]
    have := hw.2.2.2.1 (nth s 10 k) (hc.2.2 k (by rw [hc.1]; exact z)).1
    exact ⟨this.2.2.2.1, this.2.2.2.2.1⟩
  · rw [if_neg z]; omega
set_option maxHeartbeats 1000000 in
theorem m_sh366 {K : Int32 → Sg → Prop} {v2 v4 : Int32} {w : Int} (hB : MBs σ v) (hw : WF w0 v) (hN : v.2.2.1 1 = N) (hs : s < 2 ^ N) (hc : Chs v s m) (hR : Rs v s e m σ) (hq : 0 ≤ w ∧ w ≤ 1) (hK : ∀ lt bs, AnsV v s e lt bs → K (I (if w = 0 then lt else (bs : Nat))) σ) : GW l mX12_share 366 [(0, .inr 82), (1, .inl (I s)), (2, .inl v2), (3, .inl (I w)), (4, .inl v4), (5, .inl (-1)), (6, .inl 0), (7, .inl 0)] [] σ 0 0 (PI K) := by
  have wo := hw.1
  have m5 := hc.2.1
  have em := hc.1
  have N10 : N ≤ 10 := by omega
  have pN : 2 ^ N ≤ 2 ^ 10 := Nat.pow_le_pow_right (by omega) N10
  have pN0 : 0 < 2 ^ N := Nat.two_pow_pos N
  have p : 2 ^ m ≤ 2 ^ 5 := Nat.pow_le_pow_right (by omega) m5
  have p0 : 0 < 2 ^ m := Nat.two_pow_pos m
  have s10 : s < 1024 := by omega
  have ht := hc.ht hw
  have hbt : ∀ a, a < 2 → ∀ x y, 0 ≤ bwV v s e a x y ∧ bwV v s e a x y ≤ 15 := fun a ha => bwS_rg (hw.2.2.1 a ha).1 _ _
  have h16 : σ.2.1 82 16 = I (N : Int) := by rw [hB.2.2.1, hN]
  obtain ⟨f, hf⟩ := FnV.ex v s e (by rw [← em]; exact m5)
  have hf' : ∀ c, c < 2 ^ m → ∃ x0 x1 : Int, TV (bwV v s e 0) (tmV v s) (abV v s e 0) m (df (2 ^ m - 1) c) x0 ∧ TV (bwV v s e 1) (tmV v s) (abV v s e 1) m c x1 ∧ f c = max x0 x1 := by rw [em]; exact hf
  have dfl : ∀ d, df (2 ^ m - 1) d < 2 ^ m := fun d => Nat.lt_of_le_of_lt Nat.and_le_left (by omega)
  have sml : ∀ c, c < 2 ^ m → AbC v s e m c → 0 ≤ f c ∧ f c ≤ 1000 := fun c h1 h2 => by
    obtain ⟨x0, x1, a0, a1, a2⟩ := hf' c h1
    rw [AbC.two m5 h1] at h2
    have g0 := (a0.1 h2.1).rg m5 (hbt 0 (by omega)) ht (by have := dfl c; omega)
    have g1 := (a1.1 h2.2).rg m5 (hbt 1 (by omega)) ht (by omega)
    omega
  have big : ∀ c, c < 2 ^ m → ¬ AbC v s e m c → 1000000 ≤ f c := fun c h1 h2 => by
    rw [em] at h1 h2
    exact hf.no (by rw [← em]; exact m5) hw (by rw [← em]; exact hc) h1 h2
  have F := lp (N := 2 ^ N) (P := fun o => ∀ best least : Int, ((best = -1 ∧ least = 0 ∧ ∀ c, c < 2 ^ m → rl (nth s 10) c m < o → ¬ AbC v s e m c) ∨ (∃ cb, cb < 2 ^ m ∧ rl (nth s 10) cb m < o ∧ AbC v s e m cb ∧ best = (rl (nth s 10) cb m : Nat) ∧ least = f cb ∧ (∀ c, c < 2 ^ m → rl (nth s 10) c m < o → AbC v s e m c → f cb ≤ f c) ∧ ∀ c, c < 2 ^ m → rl (nth s 10) c m < rl (nth s 10) cb m → AbC v s e m c → f cb < f c)) → GW l mX12_share 366 [(0, .inr 82), (1, .inl (I s)), (2, .inl v2), (3, .inl (I w)), (4, .inl v4), (5, .inl (I best)), (6, .inl (I least)), (7, .inl (I o))] [] σ 0 0 (PI K)) ?_ ?_ 0 (by omega)
  · exact F (-1) 0 (Or.inl ⟨rfl, rfl, fun c _ h => absurd h (by omega)⟩)
  · intro best least hx
    refine gX12_share_366 ⟨hB.1.ob, fun _ => ?_, fun q => absurd ?_ q⟩
    · have lt : ∀ c, c < 2 ^ m → rl (nth s 10) c m < 2 ^ N := fun c h1 => by
        refine Nat.lt_of_lt_of_le (Nat.lt_of_le_of_lt ?_ hs) (Nat.le_refl _)
        have : rl (nth s 10) c m = rl (nth s 10) c m &&& s := by
          refine ext10 (hc.lt c) (and_lt (hc.lt c)) (fun i hi => bool_ext ?_)
          rw [Nat.testBit_and, Bool.and_eq_true]
          refine ⟨fun q => ⟨q, ?_⟩, fun q => q.1⟩
          obtain ⟨k, k1, k2, _⟩ := (rl_bit m).mp q
          rw [← k2]; exact (hc.2.2 k k1).2.2.1
        rw [this]; exact Nat.and_le_right
      have fin : ∃ cb, cb < 2 ^ m ∧ AbC v s e m cb ∧ best = (rl (nth s 10) cb m : Nat) ∧ least = f cb ∧ AnsV v s e least (rl (nth s 10) cb m) := by
        rcases hx with ⟨_, _, q⟩ | ⟨cb, c1, c2, c3, c4, c5, c6, c7⟩
        · obtain ⟨d, d1, d2⟩ := setE (fun k => v.2.1 (nth s 10 k) 0 0 = 1) m
          refine absurd (fun k hk => ?_) (q d d1 (lt d d1))
          by_cases z : d.testBit k = true
          · rw [if_pos z]; exact Or.inl ((d2 k hk).mp z)
          · rw [if_neg z]
            rw [d2 k hk] at z
            have wk := hw.2.2.2.1 (nth s 10 k) (hc.2.2 k hk).1
            exact Or.inl (by show v.2.1 (nth s 10 k) 0 0 = ((0 : Nat) : Int); omega)
        · refine ⟨cb, c1, c3, c4, c5, f, cb, hf, by rw [← em]; exact c1, c5, fun c' h1 => ?_, fun c' h1 => ?_, by rw [← em]⟩
          · rw [← em] at h1
            by_cases z : AbC v s e m c'
            · exact c6 c' h1 (lt c' h1) z
            · have := big c' h1 z; have := sml cb c1 c3; omega
          · by_cases z : AbC v s e m c'
            · exact c7 c' (by omega) (hc.mono h1 c1) z
            · have := big c' (by omega) z; have := sml cb c1 c3; omega
      obtain ⟨cb, _, _, eb, el, an⟩ := fin
      have := hK _ _ an
      rw [I_0, I_eq' (by omega) (by omega) (by omega) (by omega)]
      refine ⟨fun q => ?_, fun q => ?_⟩
      · rw [if_neg q] at this; rw [eb]; exact this
      · rw [if_pos q] at this; exact this
    · rw [h16, onI N (by omega)]; exact (I_le ⟨by omega, by omega⟩ ⟨by omega, by omega⟩).mpr (Int.le_refl _)
  · intro o ho ih best least hx
    have o10 : o < 1024 := by omega
    refine gX12_share_366 ⟨hB.1.ob, fun q => ?_, fun _ => ?_⟩
    · rw [h16, onI N (by omega), I_le ⟨by omega, by omega⟩ ⟨by omega, by omega⟩] at q; exact absurd q (by omega)
    have dlt := df_lt (t := s) o10
    rw [dffI o10 s10, I_0, I_eq' (by omega) (by omega) (by omega) (by omega), I_1, I_add]
    -- a set that is left out
    have skip : (∀ c, c < 2 ^ m → rl (nth s 10) c m = o → ¬ AbC v s e m c) → GW l mX12_share 366 [(0, .inr 82), (1, .inl (I s)), (2, .inl v2), (3, .inl (I w)), (4, .inl v4), (5, .inl (I best)), (6, .inl (I least)), (7, .inl (I ((o : Int) + 1)))] [] σ 0 0 (PI K) := fun nb => by
      refine ih best least ?_
      rcases hx with ⟨a1, a2, a3⟩ | ⟨cb, c1, c2, c3, c4, c5, c6, c7⟩
      · refine Or.inl ⟨a1, a2, fun c h1 h2 => ?_⟩
        by_cases z : rl (nth s 10) c m = o
        · exact nb c h1 z
        · exact a3 c h1 (by omega)
      · refine Or.inr ⟨cb, c1, by omega, c3, c4, c5, fun c h1 h2 h3 => ?_, c7⟩
        by_cases z : rl (nth s 10) c m = o
        · exact absurd h3 (nb c h1 z)
        · exact c6 c h1 (by omega) h3
    refine ⟨fun dz => ?_, fun dz => skip (fun c h1 h2 => absurd (by rw [← h2, hc.in s10 c]; rfl) dz)⟩
    obtain ⟨c, c1, c2⟩ := hc.sub s10 o10 (by omega)
    have un : ∀ c', c' < 2 ^ m → rl (nth s 10) c' m = o → c' = c := fun c' h1 h2 => by
      rcases Nat.lt_trichotomy c' c with q | q | q
      · have := hc.mono q c1; omega
      · exact q
      · have := hc.mono q h1; omega
    have rd : ∀ k, k < m → σ.2.1 (σ.2.2 82 53) (I (k : Int)).toNatClampNeg = I (nth s 10 k : Nat) := fun k hk => by rw [hB.1.d53 (by omega) (by omega), I_tn]; exact (hR.2 k hk).1
    have F0 : ¬ AbC v s e m c → ∀ k, k ≤ m → GW l mX12_share 395 [(0, .inr 82), (1, .inl (I s)), (2, .inl v2), (3, .inl (I w)), (4, .inl v4), (5, .inl (I best)), (6, .inl (I least)), (7, .inl (I o)), (8, .inl 0), (9, .inl (I k))] [] σ 0 0 (PI K) := fun na => by
      refine lp ?_ ?_
      · refine gX12_share_395 ⟨hB.1.ob, fun _ => ⟨fun q => absurd rfl q, fun _ => ?_⟩, fun q => absurd ?_ q⟩
        · rw [I_1, I_add]; exact skip (fun c' h1 h2 => by rw [un c' h1 h2]; exact na)
        · rw [hR.1]; exact (I_le ⟨by omega, by omega⟩ ⟨by omega, by omega⟩).mpr (Int.le_refl _)
      · intro k hk ihk
        refine gX12_share_395 ⟨hB.1.ob, fun q => ?_, fun _ => ⟨fun _ => ?_, fun q => absurd rfl q⟩⟩
        · rw [hR.1, I_le ⟨by omega, by omega⟩ ⟨by omega, by omega⟩] at q; exact absurd q (by omega)
        · rw [I_1, I_add]; exact ihk
    have F1 := lp (N := m) (P := fun k => (∀ k', k' < k → abV v s e (if c.testBit k' = true then 1 else 0) k') → GW l mX12_share 395 [(0, .inr 82), (1, .inl (I s)), (2, .inl v2), (3, .inl (I w)), (4, .inl v4), (5, .inl (I best)), (6, .inl (I least)), (7, .inl (I o)), (8, .inl 1), (9, .inl (I k))] [] σ 0 0 (PI K)) ?_ ?_ 0 (by omega)
    · exact F1 (fun k hk => absurd hk (by omega))
    · intro al
      have al : AbC v s e m c := al
      refine gX12_share_395 ⟨hB.1.ob, fun _ => ⟨fun _ => ?_, fun q => absurd q (by decide)⟩, fun q => absurd ?_ q⟩
      · rw [dffI s10 o10, ← c2, hc.cpl s10 c1, show (-1 : Int32) = I (bI s none) from rfl]
        have al2 := (AbC.two m5 c1).mp al
        refine m_timeOf (a := 0) hB hw (by omega) hc hR 6 _ none _ (dfl c) (Nat.le_trans (pc5_le _ (by have := dfl c; omega)) (by omega)) al2.1 (fun k q => by cases q) (fun x0 g0 => ?_)
        refine m_timeOf (a := 1) hB hw (by omega) hc hR 6 c none _ c1 (Nat.le_trans (pc5_le _ (by omega)) (by omega)) al2.2 (fun k q => by cases q) (fun x1 g1 => ?_)
        have r0 := g0.rg m5 (hbt 0 (by omega)) ht (by have := dfl c; omega)
        have r1 := g1.rg m5 (hbt 1 (by omega)) ht (by omega)
        refine q_max ⟨by omega, by omega⟩ ⟨by omega, by omega⟩ ?_
        have ef : max x0 x1 = f c := by
          obtain ⟨y0, y1, a0, a1, a2⟩ := hf' c c1
          rw [a2, GV.un (a0.1 al2.1) g0, GV.un (a1.1 al2.2) g1]
        rw [ef, c2]
        have fr := sml c c1 al
        have br : -1 ≤ best ∧ best < 1024 ∧ 0 ≤ least ∧ least ≤ 1000 := by
          rcases hx with q | ⟨cb, q1, q2, q3, q4, q5, _⟩
          · omega
          · have := sml cb q1 q3; omega
        show (I best = I (-1) → _) ∧ (¬ I best = I (-1) → _)
        rw [I_eq' (by omega) (by omega) (by omega) (by omega), I_lt' (by omega) (by omega) (by omega) (by omega), I_1, I_add]
        have take : (best = -1 ∨ f c < least) → GW l mX12_share 366 [(0, .inr 82), (1, .inl (I s)), (2, .inl v2), (3, .inl (I w)), (4, .inl v4), (5, .inl (I o)), (6, .inl (I (f c))), (7, .inl (I ((o : Int) + 1)))] [] σ 0 0 (PI K) := fun hb => by
          have key : ∀ c', c' < 2 ^ m → rl (nth s 10) c' m < o → AbC v s e m c' → f c < f c' := fun c' h1 h2 h3 => by
            rcases hx with ⟨q1, _, q2⟩ | ⟨cb, q1, q2, q3, q4, q5, q6, _⟩
            · exact absurd h3 (q2 c' h1 h2)
            · have := q6 c' h1 h2 h3; omega
          refine ih o (f c) (Or.inr ⟨c, c1, by omega, al, by rw [c2], rfl, fun c' h1 h2 h3 => ?_, fun c' h1 h2 h3 => key c' h1 (by omega) h3⟩)
          by_cases z : rl (nth s 10) c' m = o
          · rw [un c' h1 z]; exact Int.le_refl _
          · have := key c' h1 (by omega) h3; omega
        refine ⟨fun q => take (Or.inl q), fun q => ⟨fun q2 => take (Or.inr q2), fun q2 => ?_⟩⟩
        refine ih best least ?_
        rcases hx with ⟨a1, _⟩ | ⟨cb, d1, d2, d3, d4, d5, d6, d7⟩
        · exact absurd a1 q
        · refine Or.inr ⟨cb, d1, by omega, d3, d4, d5, fun c' h1 h2 h3 => ?_, d7⟩
          by_cases z : rl (nth s 10) c' m = o
          · rw [un c' h1 z]; omega
          · exact d6 c' h1 (by omega) h3
      · rw [hR.1]; exact (I_le ⟨by omega, by omega⟩ ⟨by omega, by omega⟩).mpr (Int.le_refl _)
    · intro k hk ihk al
      have hk' := hc.2.2 k hk
      refine gX12_share_395 ⟨hB.1.ob, fun q => ?_, fun _ => ⟨fun q => absurd q (by decide), fun _ => ⟨hB.1.a53 (by omega) (by omega), ?_⟩⟩⟩
      · rw [hR.1, I_le ⟨by omega, by omega⟩ ⟨by omega, by omega⟩] at q; exact absurd q (by omega)
      have eb : (if o.testBit (nth s 10 k) = true then (1 : Int) else 0) = ((if c.testBit k = true then 1 else 0 : Nat) : Int) := by
        by_cases z : c.testBit k = true
        · rw [if_pos z, if_pos (by rw [← c2]; exact (hc.bit hk).mpr z)]; rfl
        · rw [if_neg z, if_neg (fun q => z (by rw [← c2] at q; exact (hc.bit hk).mp q))]; rfl
      rw [rd k hk, bitI (by omega) hk'.2.1, eb, show (2 : Int32) = I 2 from rfl, I_mul, I_add]
      generalize hb : (if c.testBit k = true then 1 else 0 : Nat) = b
      have b2 : b < 2 := by rw [← hb]; split <;> omega
      refine ⟨hB.1.a50 (by omega) (by omega), ?_⟩
      rw [hB.1.d50 (by omega) (by omega), show (2 * (nth s 10 k : Int) + (b : Int)).toNat = 2 * nth s 10 k + b by omega, I_1, I_add]
      have rk := (hR.2 k hk).2 b b2
      refine ⟨fun q => ?_, fun q => ?_⟩
      · refine F0 (fun ac => ?_) (k + 1) (by omega)
        have := ac k hk
        rw [hb] at this
        rw [(rk.1 this).1] at q; exact absurd q (by decide)
      · refine ihk (fun k' hk' => ?_)
        by_cases z : k' = k
        · rw [z, hb]
          by_cases y : abV v s e b k
          · exact y
          · exact absurd (rk.2 y) q
        · exact al k' (by omega)
end SHV
