/-! Tape and Shop -/
section SHP
variable {l : Launch} {σ : Sg} {r : Nat} {T : Nat → Nat → Int} {v : Vt} {c : Nat}
theorem q_has {K : Int32 → Sg → Prop} {z n : Int} (hP : TapeP σ r) (ht : σ.2.1 r 3 = I n) (hn0 : 0 ≤ n) (hn : n ≤ 40) (hz : Rg z) (h1 : 0 ≤ z → z < n → K 1 σ) (h0 : ¬ (0 ≤ z ∧ z < n) → K 0 σ) : Con l mX9_has [.inr r, .inl (I z)] σ (PI K) := by
  have a := hz.1; have b := hz.2
  refine eX9_has ?_
  rw [ht]
  simp (disch := omega) only [L_lit, I_lt', I_le']
  exact ⟨fun c => h0 (by omega), fun c => ⟨hP.ob, fun c2 => h0 (by omega), fun c2 => ⟨fun c3 => h0 (by omega), fun c3 => h1 (by omega) (by omega)⟩⟩⟩
theorem TapeD.p {σ : Sg} {r : Nat} {T : Nat → Nat → Int} (h : TapeD σ r T) (hP : TapeP σ r) {z : Int} (h0 : 0 ≤ z) (h1 : z < T 0 1) (h2 : T 0 1 ≤ 40) : σ.2.1 (σ.2.2 r 0) (I z).toNatClampNeg = I (T 1 z.toNat) := by
  rw [hP.2.1.1, I_cl h0 (by omega)]; exact (h.2.2 z.toNat (by omega)).1
theorem TapeD.s {σ : Sg} {r : Nat} {T : Nat → Nat → Int} (h : TapeD σ r T) (hP : TapeP σ r) {z : Int} (h0 : 0 ≤ z) (h1 : z < T 0 1) (h2 : T 0 1 ≤ 40) : σ.2.1 (σ.2.2 r 1) (I z).toNatClampNeg = I (T 2 z.toNat) := by
  rw [hP.2.2.1, I_cl h0 (by omega)]; exact (h.2.2 z.toNat (by omega)).2
theorem q_poseAt {K : Int32 → Sg → Prop} {z : Int} (hP : TapeP σ r) (hD : TapeD σ r T) (hn0 : 0 ≤ T 0 1) (hn : T 0 1 ≤ 40) (hz : Rg z) (h1 : 0 ≤ z → z < T 0 1 → K (I (T 1 z.toNat)) σ) (h0 : ¬ (0 ≤ z ∧ z < T 0 1) → K 0 σ) : Con l mX9_poseAt [.inr r, .inl (I z)] σ (PI K) := by
  refine eX9_poseAt ⟨hP.ob, q_has hP hD.2.1 hn0 hn hz (fun a b => ⟨fun c => absurd c (by decide), fun _ => ⟨hP.a0 a (by omega), ?_⟩⟩) (fun a => ⟨fun _ => h0 a, fun c => absurd rfl c⟩)⟩
  rw [hD.p hP a b hn]; exact h1 a b
theorem q_sprayAt {K : Int32 → Sg → Prop} {z : Int} (hP : TapeP σ r) (hD : TapeD σ r T) (hn0 : 0 ≤ T 0 1) (hn : T 0 1 ≤ 40) (hz : Rg z) (h1 : 0 ≤ z → z < T 0 1 → K (I (T 2 z.toNat)) σ) (h0 : ¬ (0 ≤ z ∧ z < T 0 1) → K 0 σ) : Con l mX9_sprayAt [.inr r, .inl (I z)] σ (PI K) := by
  refine eX9_sprayAt ⟨hP.ob, q_has hP hD.2.1 hn0 hn hz (fun a b => ⟨fun c => absurd c (by decide), fun _ => ⟨hP.a1 a (by omega), ?_⟩⟩) (fun a => ⟨fun _ => h0 a, fun c => absurd rfl c⟩)⟩
  rw [hD.s hP a b hn]; exact h1 a b
theorem q_lastPose {K : Int32 → Sg → Prop} (hP : TapeP σ r) (hD : TapeD σ r T) (hn0 : 0 ≤ T 0 1) (hn : T 0 1 ≤ 40) (h1 : 0 < T 0 1 → K (I (T 1 (T 0 1 - 1).toNat)) σ) (h0 : T 0 1 = 0 → K 0 σ) : Con l mX9_lastPose [.inr r] σ (PI K) := by
  refine eX9_lastPose ⟨hP.ob, ?_⟩
  rw [hD.2.1, I_1, I_sub]
  exact q_poseAt hP hD hn0 hn ⟨by omega, by omega⟩ (fun a b => h1 (by omega)) (fun a => h0 (by omega))
theorem aq_of {kd n : Nat} {z : Int} (hs : shp r = (kd, n)) (hk : kd = 15 ∨ kd = 16) (hr : r ≠ 0) (hle : r ≤ σ.1) (h0 : 0 ≤ z) (h1 : z < n) (hn : n < 2147483648) : Aq σ r (I z) := by
  refine ⟨hr, by rw [hs]; exact hk, hle, ?_⟩
  rw [hs, I_in ⟨by omega, by omega⟩]; exact ⟨h0, h1⟩
theorem q_armAt {K : Nat → Sg → Prop} {z n : Int} (hC : Cp σ) (hn : σ.2.1 2 2 = I n) (hn0 : 0 ≤ n) (hn2 : n ≤ 2) (hz : Rg z) (h1 : 0 ≤ z → z < n → K (5 + 5 * z.toNat) σ) (h0 : ¬ (0 ≤ z ∧ z < n) → K 0 σ) : Con l mX7_armAt [.inr 2, .inl (I z)] σ (PR K) := by
  have a := hz.1; have b := hz.2
  refine eX7_armAt ?_
  rw [hn, hC.p2_0]
  simp (disch := omega) only [L_lit, I_lt', I_le']
  refine ⟨fun c => h0 (by omega), fun c => ⟨hC.o2, fun c2 => h0 (by omega), fun c2 => ⟨fun c3 => h0 (by omega), fun c3 => ⟨aq_of (kd := 15) (n := 2) (by decide) (by decide) (by decide) (Nat.le_trans (by decide) hC.1) (by omega) (by omega) (by decide), ?_⟩⟩⟩⟩
  rw [I_cl (by omega) (by omega)]
  have h2 : z = 0 ∨ z = 1 := by omega
  rcases h2 with rfl | rfl
  · have h3 : σ.2.2 3 (0 : Int).toNat = 5 := hC.p3_0
    rw [h3]; exact h1 (by omega) (by omega)
  · have h3 : σ.2.2 3 (1 : Int).toNat = 10 := hC.p3_1
    rw [h3]; exact h1 (by omega) (by omega)
theorem Cp.tr {t : Nat} (hC : Cp σ) (ht : t < 10) : σ.2.2 4 t = 15 + 3 * t := by
  have h : t = 0 ∨ t = 1 ∨ t = 2 ∨ t = 3 ∨ t = 4 ∨ t = 5 ∨ t = 6 ∨ t = 7 ∨ t = 8 ∨ t = 9 := by omega
  rcases h with rfl | rfl | rfl | rfl | rfl | rfl | rfl | rfl | rfl | rfl
  · exact hC.p4_0
  · exact hC.p4_1
  · exact hC.p4_2
  · exact hC.p4_3
  · exact hC.p4_4
  · exact hC.p4_5
  · exact hC.p4_6
  · exact hC.p4_7
  · exact hC.p4_8
  · exact hC.p4_9
theorem q_tapeAt {K : Nat → Sg → Prop} {z n : Int} (hC : Cp σ) (hn : σ.2.1 2 3 = I n) (hn0 : 0 ≤ n) (hn2 : n ≤ 10) (hz : Rg z) (h1 : 0 ≤ z → z < n → K (15 + 3 * z.toNat) σ) (h0 : ¬ (0 ≤ z ∧ z < n) → K 0 σ) : Con l mX7_tapeAt [.inr 2, .inl (I z)] σ (PR K) := by
  have a := hz.1; have b := hz.2
  refine eX7_tapeAt ?_
  rw [hn, hC.p2_1]
  simp (disch := omega) only [L_lit, I_lt', I_le']
  refine ⟨fun c => h0 (by omega), fun c => ⟨hC.o2, fun c2 => h0 (by omega), fun c2 => ⟨fun c3 => h0 (by omega), fun c3 => ⟨aq_of (kd := 16) (n := 10) (by decide) (by decide) (by decide) (Nat.le_trans (by decide) hC.1) (by omega) (by omega) (by decide), ?_⟩⟩⟩⟩
  rw [I_cl (by omega) (by omega), hC.tr (by omega)]
  exact h1 (by omega) (by omega)
/-- the arm of a tape that there is -/
theorem q_armOf {K : Nat → Sg → Prop} (hC : Cp σ) (hc : CRa σ v) (hn0 : 0 ≤ v.2.2.1 0) (hn2 : v.2.2.1 0 ≤ 2) (hP : TapeP σ r) (hD : TapeD σ r T) (ho : 0 ≤ T 0 0) (ho2 : T 0 0 < v.2.2.1 0) (h : K (5 + 5 * (T 0 0).toNat) σ) : Con l mX7_armOf [.inr 2, .inr r] σ (PR K) := by
  refine eX7_armOf ⟨fun _ => ⟨hP.ob, hC.o2, ?_⟩, fun c => absurd c hP.1.1⟩
  rw [hD.1]
  exact q_armAt hC hc.1 hn0 hn2 ⟨by omega, by omega⟩ (fun _ _ => h) (fun q => absurd ⟨ho, ho2⟩ q)
theorem q_armOf0 {K : Nat → Sg → Prop} (h : K 0 σ) : Con l mX7_armOf [.inr 2, .inr 0] σ (PR K) := eX7_armOf ⟨fun c => absurd rfl c, fun _ => h⟩
/-- an arm by its number, and a tape by its number -/
theorem CR.ar (h : CR σ v) (hw : WF c v) {K : Nat → Sg → Prop} {z : Int} (hz : Rg z) (h1 : ∀ a : Nat, z = a → (a : Int) < v.2.2.1 0 → a < 2 → K (5 + 5 * a) σ) (h0 : ¬ (0 ≤ z ∧ z < v.2.2.1 0) → K 0 σ) : Con l mX7_armAt [.inr 2, .inl (I z)] σ (PR K) := by
  have hw0 := hw.1
  exact q_armAt h.1 h.2.2.1.1 (by omega) (by omega) hz (fun a b => h1 z.toNat (by omega) (by omega) (by omega)) h0
theorem CR.tp (h : CR σ v) (hw : WF c v) {K : Nat → Sg → Prop} {z : Int} (hz : Rg z) (h1 : ∀ t : Nat, z = t → (t : Int) < v.2.2.1 1 → t < 10 → K (15 + 3 * t) σ) (h0 : ¬ (0 ≤ z ∧ z < v.2.2.1 1) → K 0 σ) : Con l mX7_tapeAt [.inr 2, .inl (I z)] σ (PR K) := by
  have hw0 := hw.1
  exact q_tapeAt h.1 h.2.2.2.1.1 (by omega) (by omega) hz (fun a b => h1 z.toNat (by omega) (by omega) (by omega)) h0
theorem CR.P (h : CR σ v) {t : Nat} (ht : t < 10) : TapeP σ (15 + 3 * t) := h.2.2.2.1.2.2.1 t ht
theorem CR.D (h : CR σ v) {t : Nat} (ht : (t : Int) < v.2.2.1 1) : TapeD σ (15 + 3 * t) (v.2.1 t) := h.2.2.2.1.2.2.2.2.2 t ht
theorem CR.A (h : CR σ v) {a : Nat} (ha : a < 2) : ArmAt σ (5 + 5 * a) (v.1 a) := h.2.2.1.2 a ha
theorem CR.ao (h : CR σ v) (hw : WF c v) {K : Nat → Sg → Prop} {t : Nat} (ht : (t : Int) < v.2.2.1 1) (hk : ∀ a : Nat, v.2.1 t 0 0 = a → a < 2 → 1 ≤ v.1 a 0 2 → K (5 + 5 * a) σ) : Con l mX7_armOf [.inr 2, .inr (15 + 3 * t)] σ (PR K) := by
  have hw0 := hw.1
  have h3 := hw.2.2.2.1 t ht
  refine q_armOf h.1 h.2.2.1 (by omega) (by omega) (h.P (by omega)) (h.D ht) h3.1 h3.2.1 ?_
  exact hk (v.2.1 t 0 0).toNat (by omega) (by omega) h3.2.2.1
end SHP
