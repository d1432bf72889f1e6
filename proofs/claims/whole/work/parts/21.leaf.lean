/-! leaf methods, in whole numbers -/
theorem L_lit (n : Nat) : (no_index (OfNat.ofNat n) : Int32) = I (no_index (OfNat.ofNat n)) := rfl
theorem I_lt' {a b : Int} (h1 : -2147483648 ≤ a) (h2 : a < 2147483648) (h3 : -2147483648 ≤ b) (h4 : b < 2147483648) : (I a < I b) = (a < b) := propext (I_lt ⟨h1, h2⟩ ⟨h3, h4⟩)
theorem I_le' {a b : Int} (h1 : -2147483648 ≤ a) (h2 : a < 2147483648) (h3 : -2147483648 ≤ b) (h4 : b < 2147483648) : (I a ≤ I b) = (a ≤ b) := propext (I_le ⟨h1, h2⟩ ⟨h3, h4⟩)
theorem I_eq' {a b : Int} (h1 : -2147483648 ≤ a) (h2 : a < 2147483648) (h3 : -2147483648 ≤ b) (h4 : b < 2147483648) : (I a = I b) = (a = b) := propext (I_eq ⟨h1, h2⟩ ⟨h3, h4⟩)
theorem I_in' {z : Int} {n : Nat} (h1 : -2147483648 ≤ z) (h2 : z < 2147483648) : vp_in (I z) n = (0 ≤ z ∧ z < n) := propext (I_in ⟨h1, h2⟩)
section LF
variable {l : Launch} {σ : Sg} {K : Int32 → Sg → Prop}
theorem q_abs {a : Int} (h1 : -2147483648 < a) (h2 : a < 2147483648) (h : K (I (if 0 ≤ a then a else -a)) σ) : Con l mJ9_abs_0f7a4 [.inl (I a)] σ (PI K) := by
  refine eJ9_abs_0f7a4 ⟨fun c => ?_, fun c => ?_⟩
  · rw [I_0, I_le ⟨by omega, by omega⟩ ⟨by omega, by omega⟩] at c
    rwa [if_pos c] at h
  · rw [I_0, I_le ⟨by omega, by omega⟩ ⟨by omega, by omega⟩] at c
    rw [if_neg c] at h
    rw [I_neg]; exact h
theorem q_max {a b : Int} (ha : Rg a) (hb : Rg b) (h : K (I (max a b)) σ) : Con l mJ9_max_7cf53 [.inl (I a), .inl (I b)] σ (PI K) := by
  refine eJ9_max_7cf53 ⟨fun c => ?_, fun c => ?_⟩
  · rw [I_lt ha hb] at c
    rwa [show max a b = b by omega] at h
  · rw [I_lt ha hb] at c
    rwa [show max a b = a by omega] at h
theorem q_min {a b : Int} (ha : Rg a) (hb : Rg b) (h : K (I (min a b)) σ) : Con l mJ9_min_7cf53 [.inl (I a), .inl (I b)] σ (PI K) := by
  refine eJ9_min_7cf53 ⟨fun c => ?_, fun c => ?_⟩
  · rw [I_lt hb ha] at c
    rwa [show min a b = b by omega] at h
  · rw [I_lt hb ha] at c
    rwa [show min a b = a by omega] at h
theorem xor_sign {a b : Int} (ha : Rg a) (hb : Rg b) : (0 ≤ (I a ^^^ I b)) = ((0 ≤ a) = (0 ≤ b)) := by
  have key : ∀ x : Int32, (0 ≤ x) = (x.toBitVec.msb = false) := by
    intro x
    apply propext
    rw [Int32.le_iff_toInt_le, show (0 : Int32).toInt = 0 from rfl]
    show (0 ≤ x.toBitVec.toInt) ↔ _
    rw [BitVec.msb_eq_toInt]
    simp
  have ka := key (I a)
  have kb := key (I b)
  rw [I_0, I_le' (by omega) (by omega) ha.1 ha.2] at ka
  rw [I_0, I_le' (by omega) (by omega) hb.1 hb.2] at kb
  rw [key, ka, kb, show (I a ^^^ I b).toBitVec = (I a).toBitVec ^^^ (I b).toBitVec from rfl, BitVec.msb_xor]
  cases (I a).toBitVec.msb <;> cases (I b).toBitVec.msb <;> simp
theorem tdiv_fl {a b : Int} (hb : 0 < b) : a / b = if 0 ≤ a ∨ a.tdiv b * b = a then a.tdiv b else a.tdiv b - 1 := by
  by_cases h : 0 ≤ a
  · rw [if_pos (Or.inl h), Int.tdiv_eq_ediv_of_nonneg h]
  · rw [Int.tdiv_eq_ediv]
    by_cases hd : b ∣ a
    · rw [if_pos (Or.inr hd)]
      have : (a / b + 0) * b = a := by rw [Int.add_zero]; exact Int.ediv_mul_cancel hd
      rw [if_pos (Or.inr this)]; omega
    · have hs : b.sign = 1 := Int.sign_eq_one_of_pos hb
      have e : (if 0 ≤ a ∨ b ∣ a then (0 : Int) else b.sign) = 1 := by
        rw [if_neg (by intro q; rcases q with q | q; exact h q; exact hd q), hs]
      rw [e]
      have : ¬ (0 ≤ a ∨ (a / b + 1) * b = a) := by
        intro q
        rcases q with q | q
        · exact h q
        · exact hd ⟨a / b + 1, by rw [Int.mul_comm]; exact q.symm⟩
      rw [if_neg this]; omega
theorem tdiv_bd {a b : Int} (ha : Rg a) (hb : 0 < b) : Rg (a.tdiv b) ∧ Rg (a.tdiv b * b) := by
  have key : ∀ c : Int, 0 ≤ c → 0 ≤ c / b ∧ c / b ≤ c ∧ 0 ≤ c / b * b ∧ c / b * b ≤ c := by
    intro c hc
    have h1 := Int.ediv_nonneg hc (Int.le_of_lt hb)
    exact ⟨h1, Int.ediv_le_self b hc, Int.mul_nonneg h1 (Int.le_of_lt hb), Int.ediv_mul_le c (Int.ne_of_gt hb)⟩
  have := ha.1; have := ha.2
  by_cases h0 : 0 ≤ a
  · rw [Int.tdiv_eq_ediv_of_nonneg h0]
    obtain ⟨k1, k2, k3, k4⟩ := key a h0
    exact ⟨⟨by omega, by omega⟩, ⟨by omega, by omega⟩⟩
  · obtain ⟨k1, k2, k3, k4⟩ := key (-a) (by omega)
    have e : a.tdiv b = -((-a) / b) := by
      rw [← Int.tdiv_eq_ediv_of_nonneg (by omega), Int.neg_tdiv, Int.neg_neg]
    rw [e, Int.neg_mul]
    exact ⟨⟨by omega, by omega⟩, ⟨by omega, by omega⟩⟩
theorem q_floorDiv {a b : Int} (ha : Rg a) (hb : 0 < b) (hb2 : b < 2147483648) (h : K (I (a / b)) σ) : Con l mJ9_floorDiv_7cf53 [.inl (I a), .inl (I b)] σ (PI K) := by
  have hbr : Rg b := ⟨by omega, hb2⟩
  obtain ⟨hd, hmul⟩ := tdiv_bd ha hb
  rw [tdiv_fl hb] at h
  refine eJ9_floorDiv_7cf53 ⟨?_, fun c => ?_, fun c => ⟨fun c2 => ?_, fun c2 => ?_⟩⟩
  · rw [I_0, I_eq hbr ⟨by omega, by omega⟩]; omega
  · rw [xor_sign ha hbr, eq_true (show 0 ≤ b by omega)] at c
    have c : 0 ≤ a := of_eq_true c
    rw [if_pos (Or.inl c)] at h
    rw [I_div ha hbr hd]; exact h
  · rw [I_div ha hbr hd] at c2 ⊢
    rw [I_mul, I_eq hmul ha] at c2
    rw [if_pos (Or.inr c2)] at h; exact h
  · rw [xor_sign ha hbr, eq_true (show 0 ≤ b by omega)] at c
    have c : ¬ 0 ≤ a := fun q => c (eq_true q)
    rw [I_div ha hbr hd] at c2 ⊢
    rw [I_mul, I_eq hmul ha] at c2
    rw [if_neg (by intro q; rcases q with q | q; exact c q; exact c2 q)] at h
    rw [I_1, I_sub]; exact h
theorem q_within {a b c : Int} (ha : Rg a) (hb : Rg b) (hc : Rg c) (h1 : b ≤ a → a ≤ c → K 1 σ) (h0 : ¬ (b ≤ a ∧ a ≤ c) → K 0 σ) : Con l mX11_within [.inl (I a), .inl (I b), .inl (I c)] σ (PI K) := by
  refine eX11_within ⟨fun c => ?_, fun c => ⟨fun c2 => ?_, fun c2 => ?_⟩⟩
  · rw [I_lt ha hb] at c; exact h0 (by omega)
  · rw [I_lt hc ha] at c2; exact h0 (by omega)
  · rw [I_lt ha hb] at c; rw [I_lt hc ha] at c2; exact h1 (by omega) (by omega)
theorem q_in {a b c : Int} (ha : Rg a) (hb : Rg b) (hc : Rg c) (h1 : b ≤ a → a ≤ c → K 1 σ) (h0 : ¬ (b ≤ a ∧ a ≤ c) → K 0 σ) : Con l mX12_in [.inl (I a), .inl (I b), .inl (I c)] σ (PI K) := by
  refine eX12_in ⟨fun c => ?_, fun c => ⟨fun c2 => ?_, fun c2 => ?_⟩⟩
  · rw [I_lt ha hb] at c; exact h0 (by omega)
  · rw [I_lt hc ha] at c2; exact h0 (by omega)
  · rw [I_lt ha hb] at c; rw [I_lt hc ha] at c2; exact h1 (by omega) (by omega)
theorem q_placeOf {p : Int} {j : Nat} (h0 : 0 ≤ p) (h1 : p < 2147483648) (hj : j < 3) (h : K (I (plc p j)) σ) : Con l mX11_placeOf [.inl (I p), .inl (I j)] σ (PI K) := by
  refine eX11_placeOf ?_
  rw [place_I h0 h1 hj]; exact h
theorem q_placeOfM {p : Int} {j : Nat} (h0 : 0 ≤ p) (h1 : p < 2147483648) (hj : j < 3) (h : K (I (plc p j)) σ) : Con l mX12_placeOf [.inl (I p), .inl (I j)] σ (PI K) := by
  refine eX12_placeOf ?_
  rw [place_I h0 h1 hj]; exact h
end LF
