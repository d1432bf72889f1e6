/-! share: the class fills its table, and chooses -/
section SHF
variable {l : Launch} {σ σ' : Sg} {A : Nat → Nat → Int} {tm : Nat → Int} {ab : Nat → Prop} {m a : Nat} {fs ls : Nat → Int}
theorem tmS_s {c i : Nat} : tmS tm c (i + 1) = tmS tm c i + if c.testBit i = true then tm i else 0 := rfl
/-- the table's part for the sets below c -/
def Tb (A : Nat → Nat → Int) (tm : Nat → Int) (ab : Nat → Prop) (fs ls : Nat → Int) (m a : Nat) (σ : Sg) (c : Nat) (τ : Sg) : Prop := Onl [80, 81] σ τ ∧ (∀ k, ¬ (32 * a ≤ k ∧ k < 32 * a + 32) → τ.2.1 80 k = σ.2.1 80 k) ∧ (∀ c', c' < c → ∃ x : Int, τ.2.1 80 (32 * a + c') = I x ∧ TV (bwS A fs ls) tm ab m c' x) ∧ ∀ c', c' < c → ∀ i, i < m → c'.testBit i = true → ∃ y : Int, τ.2.1 81 (5 * c' + i) = I y ∧ EV (bwS A fs ls) ab m c' i y
set_option maxHeartbeats 1000000 in
theorem q_fill {K : Sg → Prop} (hC : Cp σ) (ha : a < 2) (hA : ArmAt σ (5 + 5 * a) A) (hw : ArmWf A) (hm : m ≤ 5) (hS : ShA m tm ab fs ls a σ) (hr : ∀ k, k < m → ab k → (0 ≤ fs k ∧ fs k < 4096) ∧ 0 ≤ ls k ∧ ls k < 4096) (ht : ∀ k, 0 ≤ tm k ∧ tm k ≤ 40)
    (hK : ∀ τ, Onl [80, 81] σ τ → (∀ k, ¬ (32 * a ≤ k ∧ k < 32 * a + 32) → τ.2.1 80 k = σ.2.1 80 k) → (∀ c, c < 2 ^ m → ∃ x : Int, τ.2.1 80 (32 * a + c) = I x ∧ TV (bwS A fs ls) tm ab m c x) → K τ) : Con l mX6_fillTimes [.inr 74, .inr (5 + 5 * a), .inl (I a)] σ (PV K) := by
  have p : 2 ^ m ≤ 2 ^ 5 := Nat.pow_le_pow_right (by omega) hm
  have p1 : 0 < 2 ^ m := Nat.two_pow_pos m
  have hbt := bwS_rg hw fs ls
  have tC : ∀ {τ}, Onl [80, 81] σ τ → Cp τ := fun h => h.C hC
  have tA : ∀ {τ}, Onl [80, 81] σ τ → ArmAt τ (5 + 5 * a) A := fun h => hA.cs (h.cs (by decide)) (by omega)
  have t74 : ∀ {τ}, Onl [80, 81] σ τ → τ.2.1 74 7 = σ.2.1 74 7 := fun h => by rw [h.2.2 74 (by decide)]
  have tS : ∀ {τ}, Onl [80, 81] σ τ → ShA m tm ab fs ls a τ := fun h => hS.onl h (t74 h) (by decide)
  have sz : ∀ {τ}, Onl [80, 81] σ τ → τ.2.1 74 7 = I m := fun h => (tS h).1
  have al : ∀ {τ}, Onl [80, 81] σ τ → Al τ (τ.2.2 74 5) := fun h => by rw [(tC h).p74_5]; exact ⟨by decide, by decide, Nat.le_trans (by decide) (tC h).1⟩
  have ln : ∀ {τ}, Onl [80, 81] σ τ → Int32.ofNat (shp (τ.2.2 74 5)).2 = I 64 := fun h => by rw [(tC h).p74_5]; rfl
  refine eX6_fillTimes ?_
  have F := lp (N := 2 ^ m) (P := fun c => ∀ τ, Tb A tm ab fs ls m a σ c τ → GW l mX6_fillTimes 2 [(0, .inr 74), (1, .inr (5 + 5 * a)), (2, .inl (I a)), (3, .inl (I c))] [] τ 0 0 (PV K)) ?_ ?_ 0 (by omega)
  · exact F σ ⟨Onl.rf _ _, fun _ _ => rfl, fun c' q => absurd q (by omega), fun c' q => absurd q (by omega)⟩
  · intro τ hT
    refine gX6_fillTimes_2 ⟨(tC hT.1).o74, fun _ => hK τ hT.1 hT.2.1 hT.2.2.1, fun q => absurd ?_ q⟩
    rw [sz hT.1, onI m (by omega)]
    exact (I_le ⟨by omega, by omega⟩ ⟨by omega, by omega⟩).mpr (Int.le_refl _)
  · intro c hc ih τ hT
    have c32 : c < 32 := by omega
    have G := lp (N := m) (P := fun i => ∀ τ, ∀ x : Int, Tb A tm ab fs ls m a σ c τ → 0 ≤ x → x ≤ 1000000 → (∀ i', i' < i → c.testBit i' = true → ∃ y : Int, τ.2.1 81 (5 * c + i') = I y ∧ EV (bwS A fs ls) ab m c i' y ∧ x ≤ y) → (c = 0 → x = 0) → (c ≠ 0 → x = 1000000 ∨ ∃ i', i' < i ∧ c.testBit i' = true ∧ EV (bwS A fs ls) ab m c i' x) → GW l mX6_fillTimes 36 [(0, .inr 74), (1, .inr (5 + 5 * a)), (2, .inl (I a)), (3, .inl (I c)), (4, .inl (I x)), (5, .inl (I (tmS tm c i))), (6, .inl (I i))] [] τ 0 0 (PV K)) ?_ ?_ 0 (by omega)
    · refine gX6_fillTimes_2 ⟨(tC hT.1).o74, fun q => ?_, fun _ => ⟨fun q => ?_, fun _ => ⟨fun q => ?_, fun q => ?_⟩⟩⟩
      · rw [sz hT.1, onI m (by omega), I_le ⟨by omega, by omega⟩ ⟨by omega, by omega⟩] at q; exact absurd q (by omega)
      · rw [L_lit, I_le ⟨by omega, by omega⟩ ⟨by omega, by omega⟩] at q; exact absurd q (by omega)
      · exact G τ 1000000 hT (by omega) (by omega) (fun i' q => absurd q (by omega)) (fun e => absurd (by rw [e]; rfl) q) (fun _ => Or.inl rfl)
      · have c0 : c = 0 := by rw [I_0, I_eq ⟨by omega, by omega⟩ ⟨by omega, by omega⟩] at q; omega
        exact G τ 0 hT (by omega) (by omega) (fun i' q => absurd q (by omega)) (fun _ => rfl) (fun e => absurd c0 e)
    · intro τ x hT x0 x1 h1 h2 h3
      have tg := tmS_rg ht (c := c) m
      have V : TV (bwS A fs ls) tm ab m c (min (x + tmS tm c m) 1000000) := by
        by_cases c0 : c = 0
        · have tz : ∀ j, tmS tm 0 j = 0 := by
            intro j
            induction j with
            | zero => rfl
            | succ j ih => rw [tmS_s, ih, if_neg (by rw [Nat.zero_testBit]; decide)]; rfl
          rw [c0, tz, h2 c0]
          exact TV.zero
        · have hy' : ∀ i, ∃ y : Int, i < m → c.testBit i = true → EV (bwS A fs ls) ab m c i y ∧ x ≤ y := fun i => by
            by_cases q : i < m ∧ c.testBit i = true
            · obtain ⟨y, _, q2⟩ := h1 i q.1 q.2; exact ⟨y, fun _ _ => q2⟩
            · exact ⟨0, fun q1 q2 => absurd ⟨q1, q2⟩ q⟩
          obtain ⟨y, hY⟩ := Classical.axiomOfChoice hy'
          refine TV.mk (y := y) hm c32 c0 hbt ht (bit_exm hm hc c0) (fun i q1 q2 => (hY i q1 q2).1) (fun i q1 q2 => (hY i q1 q2).2) ?_
          rcases h3 c0 with q | ⟨i, q1, q2, q3⟩
          · exact Or.inl q
          · exact Or.inr ⟨i, q1, q2, q3.un (hY i q1 q2).1⟩
      have E : GW l mX6_fillTimes 112 [(0, .inr 74), (1, .inr (5 + 5 * a)), (2, .inl (I a)), (3, .inl (I c)), (4, .inl (I x)), (5, .inl (I (tmS tm c m))), (6, .inl (I m))] [] τ 0 0 (PV K) := by
        refine gX6_fillTimes_112 ?_
        rw [I_add, L_lit]
        refine q_min ⟨by omega, by omega⟩ ⟨by omega, by omega⟩ ⟨(tC hT.1).o74, ?_⟩
        refine eX6_setTime ?_
        rw [ln hT.1, show (32 : Int32) = I 32 from rfl, I_mul, I_add]
        refine ⟨fun z => ?_, fun _ => ⟨(tC hT.1).o74, al hT.1, fun z => ?_, fun _ => ⟨(tC hT.1).a74_5 (by omega) (by omega), fun σ6 e6 => ?_⟩⟩⟩
        · rw [I_0, I_lt ⟨by omega, by omega⟩ ⟨by omega, by omega⟩] at z; exact absurd z (by omega)
        · rw [I_le ⟨by omega, by omega⟩ ⟨by omega, by omega⟩] at z; exact absurd z (by omega)
        · rw [(tC hT.1).p74_5, I_cl (by omega) (by omega), show ((a : Int) * 32 + (c : Int)).toNat = 32 * a + c by omega] at e6
          have o6 : Onl [80, 81] τ σ6 := Onl.w e6 (by decide)
          rw [I_1, I_add]
          refine ih σ6 ⟨hT.1.tr o6, fun k hk => ?_, fun c' hc' => ?_, fun c' hc' i hi hb => ?_⟩
          · rw [e6, w1_k (by omega)]; exact hT.2.1 k hk
          · by_cases e : c' = c
            · rw [e, e6, w1_at]; exact ⟨_, rfl, V⟩
            · rw [e6, w1_k (by omega)]; exact hT.2.2.1 c' (by omega)
          · rw [e6, w1_r (by omega)]
            by_cases e : c' = c
            · rw [e] at hb ⊢
              obtain ⟨y, y1, y2, _⟩ := h1 i hi hb
              exact ⟨y, y1, y2⟩
            · exact hT.2.2.2 c' (by omega) i hi hb
      refine gX6_fillTimes_36 ⟨(tC hT.1).o74, fun _ => E, fun q => absurd ?_ q⟩
      rw [sz hT.1]; exact (I_le ⟨by omega, by omega⟩ ⟨by omega, by omega⟩).mpr (Int.le_refl _)
    · intro i hi ihi τ x hT x0 x1 h1 h2 h3
      refine gX6_fillTimes_36 ⟨(tC hT.1).o74, fun q => ?_, fun _ => ⟨fun q => ?_, fun _ => ⟨fun q => ?_, fun q => ?_⟩⟩⟩
      · rw [sz hT.1, I_le ⟨by omega, by omega⟩ ⟨by omega, by omega⟩] at q; exact absurd q (by omega)
      · rw [L_lit, I_le ⟨by omega, by omega⟩ ⟨by omega, by omega⟩] at q; exact absurd q (by omega)
      · rw [bitS (by omega) (by omega)] at q
        have := ihi τ x hT x0 x1 (fun i' j1 j2 => ?_) h2 (fun e => ?_)
        · rw [tmS_s, if_neg q, Int.add_zero] at this
          rw [I_1, I_add]
          exact this
        · by_cases e : i' = i
          · exact absurd (e ▸ j2) q
          · exact h1 i' (by omega) j2
        · rcases h3 e with q | ⟨i', q1, q2, q3⟩
          · exact Or.inl q
          · exact Or.inr ⟨i', by omega, q2, q3⟩
      · rw [bitS (by omega) (by omega)] at q
        have cz : c ≠ 0 := fun e => by rw [e, Nat.zero_testBit] at q; exact absurd q (by decide)
        refine q_leastEnd (tC hT.1) ha (tA hT.1) hw hm (tS hT.1) hr hc hi q (fun j j1 j2 => hT.2.2.2 _ (pc5_dl c c32 i (by omega) q).2 j j1 j2) (fun y hy => ?_)
        have yr := hy.rg hm hbt c32
        rw [show (5 : Int32) = I 5 from rfl, I_mul, I_add]
        refine ⟨(tC hT.1).a74_6 (by omega) (by omega), fun σ7 e7 => ?_⟩
        rw [(tC hT.1).p74_6, I_cl (by omega) (by omega), at5] at e7
        have o7 : Onl [80, 81] τ σ7 := Onl.w e7 (by decide)
        have o8 := hT.1.tr o7
        refine q_min ⟨by omega, by omega⟩ ⟨by omega, by omega⟩ ⟨(tC o8).a74_2 (by omega) (by omega), ?_⟩
        rw [(tC o8).d74_2 (by omega) (by omega), I_tn, (tS o8).2.1 i hi, I_add, I_1, I_add]
        have := ihi σ7 (min x y) ⟨o8, fun k hk => by rw [e7, w1_r (by omega)]; exact hT.2.1 k hk, fun c' hc' => by rw [e7, w1_r (by omega)]; exact hT.2.2.1 c' hc', fun c' hc' j hj hb => by rw [e7, w1_k (by omega)]; exact hT.2.2.2 c' hc' j hj hb⟩ (by omega) (by omega) (fun i' j1 j2 => ?_) (fun e => absurd e cz) (fun e => ?_)
        · rw [tmS_s, if_pos q] at this
          exact this
        · by_cases e : i' = i
          · rw [e, e7, w1_at]; exact ⟨y, rfl, hy, by omega⟩
          · obtain ⟨z, z1, z2, z3⟩ := h1 i' (by omega) j2
            rw [e7, w1_k (by omega)]
            exact ⟨z, z1, z2, by omega⟩
        · by_cases u : x ≤ y
          · rw [Int.min_eq_left u]
            rcases h3 e with q | ⟨i', q1, q2, q3⟩
            · exact Or.inl q
            · exact Or.inr ⟨i', by omega, q2, q3⟩
          · rw [Int.min_eq_right (by omega)]
            exact Or.inr ⟨i, by omega, q, hy⟩
/-- the real set of a small one -/
def rl (nu : Nat → Nat) (c : Nat) : Nat → Nat
  | 0 => 0
  | k + 1 => rl nu c k ||| ((if c.testBit k = true then 1 else 0) * 2 ^ nu k)
theorem rl_s {nu : Nat → Nat} {c k : Nat} : rl nu c (k + 1) = rl nu c k ||| ((if c.testBit k = true then 1 else 0) * 2 ^ nu k) := rfl
theorem rl_lt {nu : Nat → Nat} {c : Nat} : ∀ k : Nat, (∀ j, j < k → nu j < 10) → rl nu c k < 1024 := by
  intro k
  induction k with
  | zero => intro _; show 0 < 1024; decide
  | succ k ih =>
    intro h
    rw [rl_s]
    refine Nat.or_lt_two_pow (n := 10) (ih (fun j hj => h j (by omega))) ?_
    have : 2 ^ nu k ≤ 2 ^ 9 := Nat.pow_le_pow_right (by omega) (by have := h k (by omega); omega)
    split <;> omega
set_option maxHeartbeats 1000000 in
theorem q_choose {K : Sg → Prop} {nu : Nat → Nat} {t0 t1 f : Nat → Int} (hC : Cp σ) (hm : m ≤ 5) (h7 : σ.2.1 74 7 = I m) (hnu : ∀ k, k < m → σ.2.1 78 k = I (nu k : Nat) ∧ nu k < 10) (h0 : ∀ c, c < 2 ^ m → σ.2.1 80 c = I (t0 c) ∧ 0 ≤ t0 c ∧ t0 c ≤ 1000000) (h1 : ∀ c, c < 2 ^ m → σ.2.1 80 (32 + c) = I (t1 c) ∧ 0 ≤ t1 c ∧ t1 c ≤ 1000000) (hf : ∀ c, c < 2 ^ m → f c = max (t0 (df (2 ^ m - 1) c)) (t1 c)) (hex : ∃ c, c < 2 ^ m ∧ f c < 1000000)
    (hK : ∀ τ c, Onl [74] σ τ → c < 2 ^ m → τ.2.1 74 8 = I (f c) → τ.2.1 74 9 = I (rl nu c m : Nat) → (∀ c', c' < 2 ^ m → f c ≤ f c') → (∀ c', c' < c → f c < f c') → K τ) : Con l mX6_choose [.inr 74] σ (PV K) := by
  have p : 2 ^ m ≤ 2 ^ 5 := Nat.pow_le_pow_right (by omega) hm
  have p1 : 0 < 2 ^ m := Nat.two_pow_pos m
  have tC : ∀ {τ}, Onl [74] σ τ → Cp τ := fun h => h.C hC
  have al : ∀ {τ}, Onl [74] σ τ → Al τ (τ.2.2 74 5) := fun h => by rw [(tC h).p74_5]; exact ⟨by decide, by decide, Nat.le_trans (by decide) (tC h).1⟩
  have ln : ∀ {τ}, Onl [74] σ τ → Int32.ofNat (shp (τ.2.2 74 5)).2 = I 64 := fun h => by rw [(tC h).p74_5]; rfl
  have ta : ∀ {τ : Sg} {K' : Int32 → Sg → Prop} (w c : Nat), Onl [74] σ τ → w < 2 → c < 32 → K' (σ.2.1 80 (32 * w + c)) τ → Con l mX6_timeAt [.inr 74, .inl (I w), .inl (I c)] τ (PI K') := by
    intro τ K' w c o hw hc hK'
    refine eX6_timeAt ?_
    rw [ln o, show (32 : Int32) = I 32 from rfl, I_mul, I_add]
    refine ⟨fun z => ?_, fun _ => ⟨(tC o).o74, al o, fun z => ?_, fun _ => ⟨(tC o).a74_5 (by omega) (by omega), ?_⟩⟩⟩
    · rw [I_0, I_lt ⟨by omega, by omega⟩ ⟨by omega, by omega⟩] at z; exact absurd z (by omega)
    · rw [I_le ⟨by omega, by omega⟩ ⟨by omega, by omega⟩] at z; exact absurd z (by omega)
    · rw [(tC o).d74_5 (by omega) (by omega), o.2.2 80 (by decide), show ((w : Int) * 32 + (c : Int)).toNat = 32 * w + c by omega]; exact hK'
  refine eX6_choose ⟨hC.o74, fun σ2 e2 => ?_⟩
  have o2 : Onl [74] σ σ2 := Onl.w e2 (by decide)
  have s2 : σ2.2.1 74 7 = I m := by rw [e2, w1_k (by omega)]; exact h7
  rw [s2, onI m (by omega), I_1, I_sub, show ((2 ^ m : Nat) : Int) - 1 = ((2 ^ m - 1 : Nat) : Int) by omega]
  have F := lp (N := 2 ^ m) (P := fun c => ∀ τ, ∀ x : Int, ∀ ch : Nat, Onl [74] σ τ → τ.2.1 74 7 = I m → τ.2.1 74 8 = I x → 0 ≤ x → (∀ c', c' < c → x ≤ f c') → ((x = 1000000 ∧ ch = 0) ∨ (ch < c ∧ x = f ch ∧ x < 1000000 ∧ ∀ c', c' < ch → x < f c')) → GW l mX6_choose 19 [(0, .inr 74), (1, .inl (I ch)), (2, .inl (I ((2 ^ m - 1 : Nat) : Int))), (3, .inl (I c))] [] τ 0 0 (PV K)) ?_ ?_ 0 (by omega)
  · exact F σ2 1000000 0 o2 s2 (by rw [e2, w1_at]; rfl) (by omega) (fun c' q => absurd q (by omega)) (Or.inl ⟨rfl, rfl⟩)
  · intro τ x ch o s7 s8 x0 b1 b2
    have b3 : ch < 2 ^ m ∧ x = f ch ∧ x < 1000000 ∧ ∀ c', c' < ch → x < f c' := by
      rcases b2 with q | q
      · obtain ⟨c, c1, c2⟩ := hex
        have := b1 c c1
        omega
      · exact q
    refine gX6_choose_19 ⟨fun _ => ⟨(tC o).o74, fun σ3 e3 => ?_⟩, fun q => absurd ?_ q⟩
    · have o3 : Onl [74] σ σ3 := o.tr (Onl.w e3 (by decide))
      have s3 : σ3.2.1 74 7 = I m := by rw [e3, w1_k (by omega)]; exact s7
      have s38 : σ3.2.1 74 8 = I x := by rw [e3, w1_k (by omega)]; exact s8
      have G := lp (N := m) (P := fun i => ∀ τ, Onl [74] σ τ → τ.2.1 74 7 = I m → τ.2.1 74 8 = I x → τ.2.1 74 9 = I (rl nu ch i : Nat) → GW l mX6_choose 81 [(0, .inr 74), (1, .inl (I ch)), (2, .inl (I ((2 ^ m - 1 : Nat) : Int))), (3, .inl (I i))] [] τ 0 0 (PV K)) ?_ ?_ 0 (by omega)
      · exact G σ3 o3 s3 s38 (by rw [e3, w1_at]; rfl)
      · intro τ o g7 g8 g9
        refine gX6_choose_81 ⟨(tC o).o74, fun _ => hK τ ch o b3.1 (by rw [g8, b3.2.1]) g9 (fun c' q => by rw [← b3.2.1]; exact b1 c' q) (fun c' q => by rw [← b3.2.1]; exact b3.2.2.2 c' q), fun q => absurd ?_ q⟩
        rw [g7]; exact (I_le ⟨by omega, by omega⟩ ⟨by omega, by omega⟩).mpr (Int.le_refl _)
      · intro i hi ih τ o g7 g8 g9
        refine gX6_choose_81 ⟨(tC o).o74, fun q => ?_, fun _ => ⟨fun q => ?_, fun _ => ⟨(tC o).a74_3 (by omega) (by omega), fun σ5 e5 => ?_⟩⟩⟩
        · rw [g7, I_le ⟨by omega, by omega⟩ ⟨by omega, by omega⟩] at q; exact absurd q (by omega)
        · rw [L_lit, I_le ⟨by omega, by omega⟩ ⟨by omega, by omega⟩] at q; exact absurd q (by omega)
        · have rb := rl_lt (c := ch) (nu := nu) i (fun j hj => (hnu j (by omega)).2)
          rw [(tC o).d74_3 (by omega) (by omega), I_tn, o.2.2 78 (by decide), (hnu i hi).1, g9, bitI (by omega) (by omega), show (I (if ch.testBit i = true then 1 else 0)) = I (((if ch.testBit i = true then 1 else 0) : Nat) : Int) by split <;> rfl, orI rb (by split <;> omega) (hnu i hi).2, ← rl_s] at e5
          rw [I_1, I_add]
          exact ih σ5 (o.tr (Onl.w e5 (by decide))) (by rw [e5, w1_k (by omega)]; exact g7) (by rw [e5, w1_k (by omega)]; exact g8) (by rw [e5, w1_at])
    · rw [I_lt ⟨by omega, by omega⟩ ⟨by omega, by omega⟩]; omega
  · intro c hc ih τ x ch o s7 s8 x0 b1 b2
    refine gX6_choose_19 ⟨fun q => ?_, fun _ => ⟨fun q => ?_, fun _ => ⟨(tC o).o74, ?_⟩⟩⟩
    · rw [I_lt ⟨by omega, by omega⟩ ⟨by omega, by omega⟩] at q; exact absurd q (by omega)
    · rw [L_lit, I_le ⟨by omega, by omega⟩ ⟨by omega, by omega⟩] at q; exact absurd q (by omega)
    · rw [dffI (by omega) (by omega)]
      have dr : df (2 ^ m - 1) c < 2 ^ m := Nat.lt_of_le_of_lt Nat.and_le_left (by omega)
      have q0 := h0 _ dr
      have q1 := h1 c hc
      refine ta 0 _ o (by omega) (by omega) (ta 1 _ o (by omega) (by omega) ?_)
      rw [show 32 * 0 + df (2 ^ m - 1) c = df (2 ^ m - 1) c by omega, show 32 * 1 + c = 32 + c by omega, q0.1, q1.1]
      refine q_max ⟨by omega, by omega⟩ ⟨by omega, by omega⟩ ?_
      rw [← hf c hc, s8]
      have fr : 0 ≤ f c ∧ f c ≤ 1000000 := by rw [hf c hc]; omega
      have xr : x ≤ 1000000 := by rcases b2 with q | q <;> omega
      refine ⟨fun q => ?_, fun q σ9 e9 => ?_⟩
      · rw [I_le ⟨by omega, by omega⟩ ⟨by omega, by omega⟩] at q
        rw [I_1, I_add]
        refine ih τ x ch o s7 s8 x0 (fun c' hc' => ?_) ?_
        · by_cases e : c' = c
          · rw [e]; exact q
          · exact b1 c' (by omega)
        · rcases b2 with b2 | b2
          · exact Or.inl b2
          · exact Or.inr ⟨by omega, b2.2⟩
      · rw [I_le ⟨by omega, by omega⟩ ⟨by omega, by omega⟩] at q
        rw [I_1, I_add]
        refine ih σ9 (f c) c (o.tr (Onl.w e9 (by decide))) (by rw [e9, w1_k (by omega)]; exact s7) (by rw [e9, w1_at]) (by omega) (fun c' hc' => ?_) (Or.inr ⟨by omega, rfl, by omega, fun c' hc' => ?_⟩)
        · by_cases e : c' = c
          · rw [e]; exact Int.le_refl _
          · have := b1 c' (by omega); omega
        · have := b1 c' hc'; omega
end SHF
