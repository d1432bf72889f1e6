/-! suspects: fits -/
section FIT
variable {l : Launch} {σ σ' : Sg} {v v' : Vt} {c : Nat} {t a : Nat} {d o : Int} {f : Nat → Int}
theorem q_fits {K : Int32 → Sg → Prop} {n j : Nat} {k s e : Int} (h : CR σ v) (hw : WF c v) (hA : Aim σ v t d o) (hn : v.2.1 t 0 1 = n) (hj : j < 3) (hs : 0 ≤ s ∧ s ≤ 3) (he : 0 ≤ e ∧ e ≤ 39) (hk : k = 0 ∨ k = 1) (hS : DbS σ v t d o n) (hP : DbP σ v t d o n j)
    (h1 : ∀ σ', Onl [64, 66] σ σ' → DbS σ' v t d o n → alk v t d o j k s e → K 1 σ') (h0 : ∀ σ', Onl [64, 66] σ σ' → DbS σ' v t d o n → ¬ alk v t d o j k s e → K 0 σ') : Con l mX1_fits [.inr 62, .inr 60, .inl (I j), .inl (I k), .inl (I s), .inl (I e)] σ (PI K) := by
  obtain ⟨a', ea', ha, ht, ht1, hwf, hj1, n0, n40, hpo⟩ := hA.w hw
  have hw0 := hw.1
  have wj := hwf.2.1 j hj
  unfold DbP at hP
  unfold DbS at hS h1 h0
  unfold alk at h1 h0
  rw [ea', I_tn] at hP
  rw [hn, I_tn] at h1 h0
  have g27 : ∀ i, i < n → 0 ≤ amt (v.2.1 t) (v.2.2.1 5) i ∧ amt (v.2.1 t) (v.2.2.1 5) i ≤ 27 := by
    intro i hi
    have := amt_rg (z := v.2.2.1 5) (hpo i (by omega)).2.1 (hpo i (by omega)).2.2 (by omega) (by omega)
    unfold amt; omega
  obtain ⟨g, eg⟩ : ∃ g, g = amt (v.2.1 t) (v.2.2.1 5) := ⟨_, rfl⟩
  obtain ⟨f0, ef0⟩ : ∃ f, f = fPlay v t d o := ⟨_, rfl⟩
  obtain ⟨f, ef⟩ : ∃ f, f = spw v t d o j k s e := ⟨_, rfl⟩
  rw [← eg] at hS h1 h0 g27
  rw [← ef0] at hS h1 h0
  rw [← ef] at h1 h0
  have hg : ∀ i, i < n → 0 ≤ g i := fun i hi => (g27 i hi).1
  have hf : ∀ i, i < n → -1 ≤ f i ∧ f i < 256 := fun i _ => by rw [ef]; exact spw_rg _ _ _ _ _ _ _ _ _
  have hf0 : ∀ i, i < n → -1 ≤ f0 i ∧ f0 i < 256 := fun i _ => by rw [ef0]; exact spw_rg _ _ _ _ _ _ _ _ _
  have hin := wpl_in (T := v.2.1 t) (A := v.1 a') (n := n) (k := k) hj hs.1 he.1 (fun i hi => (hpo i (by omega)).1)
  have Lr : ∀ m s', m ≤ n → 0 ≤ lyP f g zeroP 0 m s' ∧ lyP f g zeroP 0 m s' ≤ 2000 := fun m s' hm => by
    have := lyP_rg (f := f) (g := g) (P := zeroP) (a := 0) (B := 0) s' ⟨Int.le_refl 0, Int.le_refl 0⟩ m (fun i' a b => g27 i' (by omega))
    omega
  have L0r : ∀ s', 0 ≤ lyP f0 g zeroP 0 n s' ∧ lyP f0 g zeroP 0 n s' ≤ 2000 := fun s' => by
    have := lyP_rg (f := f0) (g := g) (P := zeroP) (a := 0) (B := 0) s' ⟨Int.le_refl 0, Int.le_refl 0⟩ n (fun i' a b => g27 i' (by omega))
    omega
  have Nr : ∀ m, m ≤ n → 0 ≤ lyN f g 0 m ∧ lyN f g 0 m ≤ 2000 := fun m hm => by
    have := lyP_le_N (f := f) (g := g) (a := 0) 0 m (fun i' a b => g27 i' (by omega))
    omega
  have N0r : 0 ≤ lyN f0 g 0 n ∧ lyN f0 g 0 n ≤ 2000 := by
    have := lyP_le_N (f := f0) (g := g) (a := 0) 0 n (fun i' a b => g27 i' (by omega))
    omega
  obtain ⟨s6, s7, s65, s66⟩ := hS
  -- putting back
  have G153 : ∀ (m : Nat) (en : Int) (pl : Int32), m ≤ n → (en = 1 → m = n ∧ ∀ s', s' < 256 → lyP f g zeroP 0 n s' ≤ lyP f0 g zeroP 0 n s') → (en = 0 → ∃ s', s' < 256 ∧ lyP f0 g zeroP 0 n s' < lyP f g zeroP 0 n s') → (en = 0 ∨ en = 1) → ∀ i, i ≤ m → ∀ σ', Onl [64, 66] σ σ' → (∀ i', i' < m → σ'.2.1 64 i' = I (f i')) → (∀ s', s' < 256 → σ'.2.1 66 s' = I (lyP f0 g zeroP 0 n s' - lyP f g zeroP 0 m s' + lyP f g zeroP 0 i s')) → GW l mX1_fits 153 [(0, .inr 62), (1, .inr 60), (2, .inl (I j)), (3, .inl (I k)), (4, .inl (I s)), (5, .inl (I e)), (6, .inl (I (lyN f g 0 m))), (7, .inl pl), (8, .inl (I m)), (9, .inl (I en)), (10, .inl (I i))] [] σ' 0 0 (PI K) := by
    intro m en pl hm he1 he0 hen
    have NR := Nr m hm
    refine lp ?_ ?_
    · intro σ' o' e64 e66
      have C' := o'.C h.1
      have dS : σ'.2.1 62 6 = I n ∧ σ'.2.1 62 7 = I (lyN f0 g 0 n) ∧ (∀ i, i < n → σ'.2.1 65 i = I (g i)) ∧ ∀ s, s < 256 → σ'.2.1 66 s = I (lyP f0 g zeroP 0 n s) := ⟨by rw [o'.2.2 62 (by decide)]; exact s6, by rw [o'.2.2 62 (by decide)]; exact s7, fun i hi => by rw [o'.2.2 65 (by decide)]; exact s65 i hi, fun s' hs' => by rw [e66 s' hs']; congr 1; omega⟩
      refine gX1_fits_153 ⟨fun _ => ⟨fun q => ?_, fun q => ⟨C'.o62, fun q2 => ?_, fun q2 => ?_⟩⟩, fun q => absurd ((I_le ⟨by omega, by omega⟩ ⟨by omega, by omega⟩).mpr (by omega)) q⟩
      · rw [I_0, I_eq ⟨by omega, by omega⟩ ⟨by omega, by omega⟩] at q
        obtain ⟨s', y1, y2⟩ := he0 q
        exact h0 σ' o' dS (fun z => by have := z s' y1; omega)
      · rw [I_0, I_eq ⟨by omega, by omega⟩ ⟨by omega, by omega⟩] at q
        obtain ⟨em, _⟩ := he1 (by omega)
        subst em
        rw [dS.2.1, I_eq ⟨by omega, by omega⟩ ⟨by omega, by omega⟩] at q2
        refine h0 σ' o' dS (fun z => q2 ?_)
        rw [← lyP_sum m hf, ← lyP_sum m hf0]
        exact sumP_congr 256 (fun s' hs' => z s' hs')
      · rw [I_0, I_eq ⟨by omega, by omega⟩ ⟨by omega, by omega⟩] at q
        obtain ⟨em, hle⟩ := he1 (by omega)
        subst em
        rw [dS.2.1, I_eq ⟨by omega, by omega⟩ ⟨by omega, by omega⟩] at q2
        refine h1 σ' o' dS (fun s' hs' => ?_)
        exact (sumP_le (P := lyP f g zeroP 0 m) (Q := lyP f0 g zeroP 0 m) 256 hle).2 (by rw [lyP_sum m hf, lyP_sum m hf0]; exact q2) s' hs'
    · intro i hi ih σ' o' e64 e66
      have C' := o'.C h.1
      have fi := hf i (by omega)
      have v64 : σ'.2.1 (σ'.2.2 62 1) (I (i : Int)).toNatClampNeg = I (f i) := by rw [C'.p62_1, I_cln (by omega)]; exact e64 i hi
      have v65 : σ'.2.1 (σ'.2.2 62 2) (I (i : Int)).toNatClampNeg = I (g i) := by rw [C'.p62_2, I_cln (by omega), o'.2.2 65 (by decide)]; exact s65 i (by omega)
      refine gX1_fits_153 ⟨fun q => ?_, fun _ => ⟨fun q => ?_, fun _ => ⟨C'.o62, C'.a62_1 (by omega) (by omega), ?_⟩⟩⟩
      · rw [I_le ⟨by omega, by omega⟩ ⟨by omega, by omega⟩] at q; omega
      · rw [L_lit, I_le ⟨by omega, by omega⟩ ⟨by omega, by omega⟩] at q; omega
      · rw [v64, v65, I_0, I_lt' (by omega) (by omega) (by omega) (by omega), show (256 : Int32) = I 256 from rfl, I_le' (by omega) (by omega) (by omega) (by omega), I_1, I_add]
        refine ⟨fun q => ih σ' o' e64 (fun s' hs' => ?_), fun q => ⟨fun q => absurd q (by omega), fun _ => ⟨C'.a62_3 (by omega) (by omega), C'.a62_2 (by omega) (by omega), fun σ15 e15 => ?_⟩⟩⟩
        · rw [e66 s' hs', lyP_z, Nat.zero_add, if_neg (by omega), Int.add_zero]
        · rw [C'.p62_3, I_cl (by omega) (by omega), e66 _ (by omega), I_add] at e15
          refine ih σ15 (o'.tr (Onl.w e15 (by decide))) (fun i' hi' => by rw [e15, w1_r (by omega)]; exact e64 i' hi') (fun s' hs' => ?_)
          rw [e15, lyP_z, Nat.zero_add]
          by_cases z : f i = s'
          · rw [if_pos z, show (f i).toNat = s' by omega, w1_at]; congr 1; omega
          · rw [if_neg z, w1_k (by omega), e66 s' hs', Int.add_zero]
  -- taking off
  have G15 : ∀ i, i ≤ n → ∀ σ', Onl [64, 66] σ σ' → (∀ i', i' < i → σ'.2.1 64 i' = I (f i')) → (∀ s', s' < 256 → σ'.2.1 66 s' = I (lyP f0 g zeroP 0 n s' - lyP f g zeroP 0 i s')) → (∀ s', s' < 256 → lyP f g zeroP 0 i s' ≤ lyP f0 g zeroP 0 n s') → GW l mX1_fits 15 [(0, .inr 62), (1, .inr 60), (2, .inl (I j)), (3, .inl (I k)), (4, .inl (I s)), (5, .inl (I e)), (6, .inl (I (lyN f g 0 i))), (7, .inl (I (if i = 0 then 0 else wpl (v.2.1 t) j k s e (i - 1)))), (8, .inl (I i)), (9, .inl (I 1)), (10, .inl (I i))] [] σ' 0 0 (PI K) := by
    refine lp ?_ ?_
    · intro σ' o' e64 e66 hle
      have C' := o'.C h.1
      refine gX1_fits_15 ⟨C'.o62, fun _ => ?_, fun q => absurd ?_ q⟩
      · exact G153 n 1 _ (Nat.le_refl _) (fun _ => ⟨rfl, hle⟩) (fun q => absurd q (by omega)) (Or.inr rfl) 0 (by omega) σ' o' e64 (fun s' hs' => by rw [e66 s' hs']; show _ = I (_ - _ + (0 : Int)); rw [Int.add_zero])
      · rw [o'.2.2 62 (by decide), s6]; exact (I_le ⟨by omega, by omega⟩ ⟨by omega, by omega⟩).mpr (by omega)
    · intro i hi ih σ' o' e64 e66 hle
      obtain ⟨h', f'⟩ := h.onl hw o' (by decide)
      have C' := h'.1
      have hA' := hA.onl o' (by decide)
      have fi := hf i hi
      have gi := g27 i hi
      have hb : 0 ≤ (if i = 0 then 0 else wpl (v.2.1 t) j k s e (i - 1)) ∧ (if i = 0 then 0 else wpl (v.2.1 t) j k s e (i - 1)) < 16 := by
        split
        · omega
        · exact wpl_rg _ j k e hs.1 _
      have hb2 := wpl_rg (v.2.1 t) j k e hs.1 i
      have hin2 := hin i hi
      obtain ⟨p, ep⟩ : ∃ p : Nat, wpl (v.2.1 t) j k s e i = p := ⟨(wpl (v.2.1 t) j k s e i).toNat, by omega⟩
      refine gX1_fits_15 ⟨C'.o62, fun q => ?_, fun _ => ⟨fun q => ?_, fun _ => ⟨fun q => absurd q (by decide), fun _ => ⟨C'.o60, q_wornPlace8 h' hw hA' hj hs he hk (by omega) hb ?_⟩⟩⟩⟩
      · rw [o'.2.2 62 (by decide), s6, I_le ⟨by omega, by omega⟩ ⟨by omega, by omega⟩] at q; omega
      · rw [L_lit, I_le ⟨by omega, by omega⟩ ⟨by omega, by omega⟩] at q; omega
      · rw [wpl_step, ep, and15 (by omega) (by omega), show (p : Int) % 16 = p by omega]
        have v63 : σ'.2.1 (σ'.2.2 62 0) ((I (i : Int) * 16) + I (p : Int)).toNatClampNeg = I (f i) := by
          rw [L_lit, I_mul, I_add, C'.d62_0 (by omega) (by omega), show ((i : Int) * 16 + p).toNat = 16 * i + p by omega, o'.2.2 63 (by decide), hP i p hi (by omega) (by omega), ef]
          unfold spw; rw [ea', I_tn, ep]
        have a63 : Ai σ' (σ'.2.2 62 0) ((I (i : Int) * 16) + I (p : Int)) := by
          rw [L_lit, I_mul, I_add]; exact C'.a62_0 (by omega) (by omega)
        rw [v63]
        refine ⟨a63, C'.a62_1 (by omega) (by omega), fun σ9 e9 => ?_⟩
        rw [C'.p62_1, I_cln (by omega)] at e9
        have o9 := o'.tr (Onl.w e9 (by decide))
        have C9 := o9.C h.1
        have e64' : ∀ i', i' < i + 1 → σ9.2.1 64 i' = I (f i') := fun i' hi' => by
          rw [e9]
          by_cases z : i' = i
          · rw [z, w1_at]
          · rw [w1_k z]; exact e64 i' (by omega)
        have e66' : ∀ s', s' < 256 → σ9.2.1 66 s' = I (lyP f0 g zeroP 0 n s' - lyP f g zeroP 0 i s') := fun s' hs' => by rw [e9, w1_r (by omega)]; exact e66 s' hs'
        have eN1 : lyN f g 0 (i + 1) = lyN f g 0 i + if f i = -1 then 0 else g i := by
          show lyN f g 0 i + (if f (0 + i) = -1 then 0 else g (0 + i)) = _
          rw [Nat.zero_add]
        rw [I_0, I_lt' (by omega) (by omega) (by omega) (by omega), show (256 : Int32) = I 256 from rfl, I_le' (by omega) (by omega) (by omega) (by omega), I_1, I_add]
        refine ⟨fun q => ?_, fun q => ⟨fun q => absurd q (by omega), fun _ => ⟨C9.a62_3 (by omega) (by omega), C9.a62_2 (by omega) (by omega), fun σ14 e14 => ?_⟩⟩⟩
        · have := ih σ9 o9 e64' (fun s' hs' => by rw [e66' s' hs', lyP_z, Nat.zero_add, if_neg (by omega), Int.add_zero]) (fun s' hs' => by rw [lyP_z, Nat.zero_add, if_neg (by omega), Int.add_zero]; exact hle s' hs')
          rw [if_neg (by omega), Nat.add_sub_cancel, ep, eN1, if_pos (by omega), Int.add_zero] at this
          exact this
        · have v65 : ∀ {σ3 : Sg}, Onl [64, 66] σ σ3 → σ3.2.1 (σ3.2.2 62 2) (I (i : Int)).toNatClampNeg = I (g i) := fun o3 => by rw [(o3.C h.1).p62_2, I_cln (by omega), o3.2.2 65 (by decide)]; exact s65 i hi
          rw [v65 o9, C9.p62_3, I_cl (by omega) (by omega), e66' _ (by omega), I_sub] at e14
          have o14 := o9.tr (Onl.w e14 (by decide))
          have C14 := o14.C h.1
          have L1 := Lr i (f i).toNat (by omega)
          have L2 := L0r (f i).toNat
          have v66 : σ14.2.1 (σ14.2.2 62 3) (I (f i)).toNatClampNeg = I (lyP f0 g zeroP 0 n (f i).toNat - lyP f g zeroP 0 i (f i).toNat - g i) := by rw [C14.p62_3, I_cl (by omega) (by omega), e14, w1_at]
          have e64'' : ∀ i', i' < i + 1 → σ14.2.1 64 i' = I (f i') := fun i' hi' => by rw [e14, w1_r (by omega)]; exact e64' i' hi'
          have e66'' : ∀ s', s' < 256 → σ14.2.1 66 s' = I (lyP f0 g zeroP 0 n s' - lyP f g zeroP 0 (i + 1) s') := fun s' hs' => by
            rw [e14, lyP_z, Nat.zero_add]
            by_cases z : f i = s'
            · rw [if_pos z, show (f i).toNat = s' by omega, w1_at]; congr 1; omega
            · rw [if_neg z, w1_k (by omega), e66' s' hs', Int.add_zero]
          have ls : lyP f g zeroP 0 (i + 1) (f i).toNat = lyP f g zeroP 0 i (f i).toNat + g i := by rw [lyP_z, Nat.zero_add, if_pos (by omega)]
          rw [v65 o14, v66]
          refine ⟨C14.a62_2 (by omega) (by omega), C14.a62_3 (by omega) (by omega), fun q2 => ?_, fun q2 => ?_⟩
          · rw [I_lt ⟨by omega, by omega⟩ ⟨by omega, by omega⟩] at q2
            have hm := lyP_mono (f := f) hg (f i).toNat (i + 1) (by omega)
            have go := G153 (i + 1) 0 (I p) (by omega) (fun q => absurd q (by omega)) (fun _ => ⟨(f i).toNat, by omega, by omega⟩) (Or.inl rfl) 0 (by omega) σ14 o14 e64'' (fun s' hs' => by rw [e66'' s' hs']; show _ = I (_ - _ + (0 : Int)); rw [Int.add_zero])
            rw [eN1, if_neg (by omega)] at go
            rw [I_add]
            refine gX1_fits_15 ⟨C14.o62, fun _ => go, fun q3 => ⟨fun _ => go, fun _ => ⟨fun _ => go, fun q4 => absurd rfl q4⟩⟩⟩
          · rw [I_lt ⟨by omega, by omega⟩ ⟨by omega, by omega⟩] at q2
            have := ih σ14 o14 e64'' e66'' (fun s' hs' => by
              by_cases z : s' = (f i).toNat
              · rw [z, ls]; omega
              · rw [lyP_z, Nat.zero_add, if_neg (by omega), Int.add_zero]; exact hle s' hs')
            rw [if_neg (by omega), Nat.add_sub_cancel, ep, eN1, if_neg (by omega)] at this
            rw [I_add]
            exact this
  have := G15 0 (by omega) σ (Onl.rf _ _) (fun i' hi' => absurd hi' (by omega)) (fun s' hs' => by rw [s66 s' hs']; show _ = I (_ - (0 : Int)); rw [Int.sub_zero]) (fun s' _ => by show (0 : Int) ≤ _; exact (L0r s').1)
  exact eX1_fits this
end FIT
