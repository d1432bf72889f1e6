/-! anew: the class's cut -/
def CutI (f g P : Nat → Int) (n : Nat) (B : Int) (F : Nat) (A C : Int) : Prop := (0 ≤ A ∧ A ≤ F ∧ A ≤ C ∧ C ≤ n) ∧ (∀ a m : Nat, a < F → a + m ≤ n → eno f g P n B a m → C - A + 1 ≤ m ∧ ((m : Int) = C - A + 1 → A ≤ a)) ∧ ((F = 0 ∧ A = 0 ∧ C = n) ∨ (C < n ∧ eno f g P n B A.toNat (C - A + 1).toNat))
section ANW3
variable {l : Launch} {σ σ' : Sg} {v v' : Vt} {c : Nat} {t : Nat} {d o : Int} {f : Nat → Int}
theorem q_findCut {K : Int32 → Sg → Prop} {B : Int} {n : Nat} (h : CR σ v) (hw : WF c v) (hA : Aim σ v t d o) (hD : Drw σ v t f) (hn : v.2.1 t 0 1 = n) (hB : 1 ≤ B ∧ B ≤ 99)
    (h1 : ∀ σ' A C, Onl [57, 59] σ σ' → σ'.2.1 57 3 = I A → σ'.2.1 57 4 = I C → (∃ s, s < 256 ∧ mis f (amt (v.2.1 t) (v.2.2.1 5)) (v.2.2.2 1) n B s) → Best f (amt (v.2.1 t) (v.2.2.1 5)) (v.2.2.2 1) n B (A, C) → K 1 σ')
    (h0 : ∀ σ', Onl [57, 59] σ σ' → ¬ (∃ s, s < 256 ∧ mis f (amt (v.2.1 t) (v.2.2.1 5)) (v.2.2.2 1) n B s) → K 0 σ') : Con l mX2_findCut [.inr 57, .inr 60, .inl (I B)] σ (PI K) := by
  obtain ⟨a, ea, ha, ht, ht1, hwf, hj1, n0, n40, hpo⟩ := hA.w hw
  have hw0 := hw.1
  have hpb := hw.2.2.2.2.2.1
  have g27 : ∀ i, i < n → 0 ≤ amt (v.2.1 t) (v.2.2.1 5) i ∧ amt (v.2.1 t) (v.2.2.1 5) i ≤ 27 := by
    intro i hi
    have := amt_rg (z := v.2.2.1 5) (hpo i (by omega)).2.1 (hpo i (by omega)).2.2 (by omega) (by omega)
    unfold amt; omega
  obtain ⟨g, eg⟩ : ∃ g, g = amt (v.2.1 t) (v.2.2.1 5) := ⟨_, rfl⟩
  obtain ⟨P, eP⟩ : ∃ P, P = v.2.2.2 1 := ⟨_, rfl⟩
  rw [← eP] at hpb
  rw [← eg] at g27
  have hg : ∀ i, i < n → 0 ≤ g i := fun i hi => (g27 i hi).1
  have hP : ∀ s, s < 256 → 0 ≤ P s := fun s hs => (hpb s hs).1
  refine eX2_findCut ⟨h.1.o57, q_seekLacks h hw hA hD hn hB (fun σ1 o1 k1 L1 => ?_)⟩
  rw [← eg, ← eP] at L1
  rw [← eg, ← eP] at h1 h0
  have cn := cntP_nn (lck f g P n B 0 0) 256
  obtain ⟨h1', f1'⟩ := h.onl hw o1 (by decide)
  have iff0 : σ1.2.1 57 2 = 0 ↔ ¬ ∃ s, s < 256 ∧ mis f g P n B s := by
    rw [L1.2, I_0, I_eq ⟨by omega, by omega⟩ ⟨by omega, by omega⟩]; exact lck_0
  refine ⟨fun q => ⟨h1'.1.o60, q_ticks h1' hw (hA.onl o1 (by decide)) (fun σ6 e6 σ7 e7 => ?_)⟩, fun q => h0 σ1 o1 (iff0.mp q)⟩
  have hex : ∃ s, s < 256 ∧ mis f g P n B s := Classical.byContradiction (fun z => q (iff0.mpr z))
  obtain ⟨s0, hs0, hm0⟩ := hex
  have e0 : ∀ a, ¬ eno f g P n B a 0 := fun a z => by
    have z1 := z s0 hs0 hm0
    have z2 := hm0.1
    have : lyP f g zeroP a 0 s0 = 0 := rfl
    omega
  rw [hn] at e7
  rw [hn]
  have o7 : Onl [57, 59] σ σ7 := o1.tr ((Onl.w e6 (by decide)).tr (Onl.w e7 (by decide)))
  have opn : ∀ σ' F m, F + m ≤ n → LkS σ' (lck f g P n B F m) → (σ'.2.1 57 2 = 0 ↔ eno f g P n B F m) ∧ (σ'.2.1 57 2 ≤ 0 ↔ eno f g P n B F m) := by
    intro σ' F m hm L
    have cn := cntP_nn (lck f g P n B F m) 256
    rw [L.2, I_0, I_eq ⟨by omega, by omega⟩ ⟨by omega, by omega⟩, I_le ⟨by omega, by omega⟩ ⟨by omega, by omega⟩, ← lck_en hg hm]
    exact ⟨Iff.rfl, by omega⟩
  have n40' : n ≤ 40 := by omega
  have zr : ∀ F m, F + m ≤ n → ∀ s, s < 256 → -2000 ≤ lck f g P n B F m s ∧ lck f g P n B F m s ≤ 2000 := fun F m hm s hs => lck_rg hB hP g27 n40' hm hs
  have G36 : ∀ F, F ≤ n → ∀ (T : Nat) (A C : Int) σ', Onl [57, 59] σ σ' → LkS σ' (lck f g P n B F (T - F)) → F ≤ T → T ≤ n → (∀ m, F + m < T → ¬ eno f g P n B F m) → σ'.2.1 57 3 = I A → σ'.2.1 57 4 = I C → CutI f g P n B F A C → GW l mX2_findCut 36 [(0, .inr 57), (1, .inr 60), (2, .inl (I B)), (3, .inl (I n)), (4, .inl (I T)), (5, .inl (I F))] [] σ' 0 0 (PI K) := by
    refine lp ?_ ?_
    · intro T A C σ' o' L' hFT hT hmin e3 e4 hC
      refine gX2_findCut_36 ⟨fun _ => h1 σ' A C o' e3 e4 ⟨s0, hs0, hm0⟩ ?_, fun q => absurd ((I_le ⟨by omega, by omega⟩ ⟨by omega, by omega⟩).mpr (by omega)) q⟩
      obtain ⟨c1, c2, c3⟩ := hC
      rcases c3 with ⟨z1, z2, z3⟩ | ⟨z1, z2⟩
      · subst z1
        exact absurd (eno_all hP) (e0 0)
      · have hne : 1 ≤ (C - A + 1).toNat := by omega
        refine ⟨A.toNat, (C - A + 1).toNat, ?_, hne, by omega, z2, fun a' m' y1 y2 y3 => ?_⟩
        · rw [Prod.mk.injEq]; omega
        · have := c2 a' m' (by omega) y2 y3
          omega
    · intro F hF ih T A C σ' o' L' hFT hT hmin e3 e4 hC
      refine gX2_findCut_36 ⟨fun q => ?_, fun _ => ?_⟩
      · rw [I_le ⟨by omega, by omega⟩ ⟨by omega, by omega⟩] at q; omega
      -- 109
      have G109 : ∀ (T : Nat) (A C : Int) σ', Onl [57, 59] σ σ' → LkS σ' (lck f g P n B F (T - F)) → F < T → T ≤ n → (∀ m, F + m < T → ¬ eno f g P n B F m) → σ'.2.1 57 3 = I A → σ'.2.1 57 4 = I C → CutI f g P n B (F + 1) A C → GW l mX2_findCut 109 [(0, .inr 57), (1, .inr 60), (2, .inl (I B)), (3, .inl (I n)), (4, .inl (I T)), (5, .inl (I F))] [] σ' 0 0 (PI K) := by
        intro T A C σ' o' L' hFT hT hmin e3 e4 hC
        obtain ⟨h', f'⟩ := h.onl hw o' (by decide)
        obtain ⟨m, hm⟩ : ∃ m, T = F + (m + 1) := ⟨T - F - 1, by omega⟩
        rw [show T - F = m + 1 by omega] at L'
        refine gX2_findCut_109 ⟨h'.1.o57, q_change (y := -1) h' hw (hA.onl o' (by decide)) (hD.onl o' (by decide)) (by omega) L' (zr F (m + 1) (by omega)) (Or.inr rfl) (fun σ2 o2 k2 L2 => ?_)⟩
        rw [← eg] at L2
        have eZ : (fun s : Nat => lck f g P n B F (m + 1) s - if f F = (s : Int) then -1 * g F else 0) = lck f g P n B (F + 1) (T - (F + 1)) := by
          funext s
          rw [show T - (F + 1) = m by omega]
          unfold lck
          rw [lyP_front]
          split <;> omega
        rw [eZ] at L2
        rw [I_1, I_add]
        refine ih T A C σ2 (o'.tr o2) L2 (by omega) hT (fun m' hm' z => ?_) (by rw [k2 3 (by omega)]; exact e3) (by rw [k2 4 (by omega)]; exact e4) hC
        exact hmin (m' + 1) (by omega) (eno_shrink hg (by omega) z)
      have G69 : ∀ (T : Nat) σ', Onl [57, 59] σ σ' → LkS σ' (lck f g P n B F (T - F)) → F ≤ T → T ≤ n → (∀ m, F + m < T → ¬ eno f g P n B F m) → σ'.2.1 57 3 = I A → σ'.2.1 57 4 = I C → (eno f g P n B F (T - F) ∨ T = n) → GW l mX2_findCut 69 [(0, .inr 57), (1, .inr 60), (2, .inl (I B)), (3, .inl (I n)), (4, .inl (I T)), (5, .inl (I F))] [] σ' 0 0 (PI K) := by
        intro T σ' o' L' hFT hT hmin e3 e4 hE
        have C' := o'.C h.1
        have op := (opn σ' F (T - F) (by omega) L').1
        obtain ⟨c1, c2, c3⟩ := hC
        have FT : F < T := by
          rcases hE with z | z
          · by_cases y : F = T
            · rw [y, Nat.sub_self] at z; exact absurd z (e0 T)
            · omega
          · omega
        refine gX2_findCut_69 ⟨C'.o57, fun q => ?_, fun q => ?_⟩
        · have ne : ¬ eno f g P n B F (T - F) := fun z => q (op.mpr z)
          have eT : T = n := by
            rcases hE with z | z
            · exact absurd z ne
            · exact z
          have F0 : F ≠ 0 := fun z => by
            subst z; subst eT
            rw [Nat.sub_zero] at ne
            exact ne (eno_all hP)
          refine G109 T A C σ' o' L' FT hT hmin e3 e4 ⟨⟨c1.1, by omega, c1.2.2⟩, fun a m y1 y2 y3 => ?_, ?_⟩
          · by_cases y : a = F
            · subst y
              by_cases w : a + m < T
              · exact absurd y3 (hmin m w)
              · rw [show m = T - a by omega] at y3; exact absurd y3 ne
            · exact c2 a m (by omega) y2 y3
          · rcases c3 with z | z
            · exact absurd z.1 F0
            · exact Or.inr z
        · have eE : eno f g P n B F (T - F) := op.mp q
          have minF : ∀ m, F + m ≤ n → eno f g P n B F m → T - F ≤ m := fun m _ y => by
            by_cases w : F + m < T
            · exact absurd y (hmin m w)
            · omega
          rw [e3, e4, I_1, I_sub, I_sub, I_sub]
          refine ⟨fun q => ?_, fun q σ4 e4' σ5 e5 => ?_⟩
          · rw [I_le ⟨by omega, by omega⟩ ⟨by omega, by omega⟩] at q
            refine G109 T A C σ' o' L' FT hT hmin e3 e4 ⟨⟨c1.1, by omega, c1.2.2⟩, fun a m y1 y2 y3 => ?_, ?_⟩
            · by_cases y : a = F
              · subst y
                have := minF m y2 y3
                omega
              · exact c2 a m (by omega) y2 y3
            · rcases c3 with z | z
              · omega
              · exact Or.inr z
          · rw [I_le ⟨by omega, by omega⟩ ⟨by omega, by omega⟩] at q
            have o5 : Onl [57, 59] σ' σ5 := (Onl.w e4' (by decide)).tr (Onl.w e5 (by decide))
            refine G109 T F ((T : Int) - 1) σ5 (o'.tr o5) ⟨fun s hs => ?_, ?_⟩ FT hT hmin ?_ ?_ ⟨by omega, fun a m y1 y2 y3 => ?_, Or.inr ⟨by omega, ?_⟩⟩
            · rw [e5, w1_r (by omega), e4', w1_r (by omega)]; exact L'.1 s hs
            · rw [e5, w1_k (by omega), e4', w1_k (by omega)]; exact L'.2
            · rw [e5, w1_k (by omega), e4', w1_at]
            · rw [e5, w1_at]
            · by_cases y : a = F
              · subst y
                have := minF m y2 y3
                omega
              · have := c2 a m (by omega) y2 y3
                omega
            · rw [I_tn, show ((T : Int) - 1 - F + 1).toNat = T - F by omega]; exact eE
      have G42 : ∀ T', T' ≤ n → T ≤ T' → ∀ σ', Onl [57, 59] σ σ' → LkS σ' (lck f g P n B F (T' - F)) → (∀ m, F + m < T' → ¬ eno f g P n B F m) → σ'.2.1 57 3 = I A → σ'.2.1 57 4 = I C → GW l mX2_findCut 42 [(0, .inr 57), (1, .inr 60), (2, .inl (I B)), (3, .inl (I n)), (4, .inl (I T')), (5, .inl (I F))] [] σ' 0 0 (PI K) := by
        refine lp ?_ ?_
        · intro hT' σ' o' L' hmin e3 e4
          have C' := o'.C h.1
          have go := G69 n σ' o' L' (by omega) (by omega) hmin e3 e4 (Or.inr rfl)
          exact gX2_findCut_42 ⟨C'.o57, fun _ => go, fun _ => ⟨fun _ => go, fun q => absurd ((I_le ⟨by omega, by omega⟩ ⟨by omega, by omega⟩).mpr (by omega)) q⟩⟩
        · intro T' hT'n ih' hT' σ' o' L' hmin e3 e4
          obtain ⟨h', f'⟩ := h.onl hw o' (by decide)
          have op := (opn σ' F (T' - F) (by omega) L').2
          refine gX2_findCut_42 ⟨h'.1.o57, fun q => G69 T' σ' o' L' (by omega) (by omega) hmin e3 e4 (Or.inl (op.mp q)), fun q => ⟨fun q2 => ?_, fun _ => ?_⟩⟩
          · rw [I_le ⟨by omega, by omega⟩ ⟨by omega, by omega⟩] at q2; omega
          · have ne : ¬ eno f g P n B F (T' - F) := fun z => q (op.mpr z)
            refine q_change (y := 1) h' hw (hA.onl o' (by decide)) (hD.onl o' (by decide)) (by omega) L' (zr F (T' - F) (by omega)) (Or.inl rfl) (fun σ2 o2 k2 L2 => ?_)
            rw [← eg] at L2
            have eZ : (fun s : Nat => lck f g P n B F (T' - F) s - if f T' = (s : Int) then 1 * g T' else 0) = lck f g P n B F (T' + 1 - F) := by
              funext s
              rw [show T' + 1 - F = (T' - F) + 1 by omega]
              unfold lck
              rw [lyP_z, show F + (T' - F) = T' by omega]
              split <;> omega
            rw [eZ] at L2
            rw [I_1, I_add]
            refine ih' (by omega) σ2 (o'.tr o2) L2 (fun m hm z => ?_) (by rw [k2 3 (by omega)]; exact e3) (by rw [k2 4 (by omega)]; exact e4)
            by_cases w : F + m < T'
            · exact hmin m w z
            · rw [show m = T' - F by omega] at z; exact ne z
      exact G42 T hT (Nat.le_refl _) σ' o' L' hmin e3 e4
  refine G36 0 (by omega) 0 0 n σ7 o7 ⟨fun s hs => ?_, ?_⟩ (by omega) (by omega) (fun m hm => absurd hm (by omega)) ?_ ?_ ⟨by omega, fun a m y => absurd y (by omega), Or.inl ⟨rfl, rfl, rfl⟩⟩
  · rw [e7, w1_r (by omega), e6, w1_r (by omega)]; exact L1.1 s hs
  · rw [e7, w1_k (by omega), e6, w1_k (by omega)]; exact L1.2
  · rw [e7, w1_k (by omega), e6, w1_at]; rfl
  · rw [e7, w1_at]
def okAnew (v : Vt) (z d o b w : Int) : Prop := okAim v z d o ∧ (1 ≤ b ∧ b ≤ 99) ∧ (0 ≤ w ∧ w ≤ 1)
def fTold (v : Vt) (t : Nat) (d o : Int) : Nat → Int := spw v t d o 0 0 0 0
noncomputable def aAnew (v : Vt) (z d o b w : Int) : Int := cif (okAnew v z d o b w) (cif (∃ s, s < 256 ∧ mis (fTold v z.toNat d o) (amt (v.2.1 z.toNat) (v.2.2.1 5)) (v.2.2.2 1) (v.2.1 z.toNat 0 1).toNat b s) (if w = 0 then (bst (fTold v z.toNat d o) (amt (v.2.1 z.toNat) (v.2.2.1 5)) (v.2.2.2 1) (v.2.1 z.toNat 0 1).toNat b).1 else (bst (fTold v z.toNat d o) (amt (v.2.1 z.toNat) (v.2.2.1 5)) (v.2.2.2 1) (v.2.1 z.toNat 0 1).toNat b).2) (-2)) (-1)
theorem C_anew {z d o b w : Int} (h : CR σ v) (hw : WF c v) (hz : Rg z) (hd : Rg d) (ho : Rg o) (hb : Rg b) (hr : Rg w) : Con l mX11_anew [.inr 1, .inl (I z), .inl (I d), .inl (I o), .inl (I b), .inl (I w)] σ (PI fun x σ' => x = I (aAnew v z d o b w) ∧ CR σ' v ∧ CF σ σ') := by
  have w1' := hr.1; have w2' := hr.2
  have no : ∀ {q : Int32}, q = -1 → ¬ okAnew v z d o b w → q = I (aAnew v z d o b w) ∧ CR σ v ∧ CF σ σ := by
    intro q e hq
    unfold aAnew; rw [cif_f hq]; exact ⟨e, h, CF.rf _⟩
  refine eX11_anew (q_within (b := 1) (c := 99) hb ⟨by omega, by omega⟩ ⟨by omega, by omega⟩ (fun b1 b2 => ⟨fun q => absurd q (by decide), fun _ => ?_⟩) (fun q => ⟨fun _ => no rfl (fun y => q y.2.1), fun q => absurd rfl q⟩))
  refine q_within (b := 0) (c := 1) hr ⟨by omega, by omega⟩ ⟨by omega, by omega⟩ (fun c1 c2 => ⟨fun q => absurd q (by decide), fun _ => ⟨h.1.o1, ?_⟩⟩) (fun q => ⟨fun _ => no rfl (fun y => q y.2.2), fun q => absurd rfl q⟩)
  refine q_aimed h hw hz hd ho (fun t a σ1 et ht ea ha hj ok h1 f1 E hA => ⟨fun _ => ⟨by rw [h1.1.p1_4]; exact h1.1.o60, ?_⟩, fun q => absurd q (by omega)⟩) (fun q => ⟨fun q => absurd rfl q, fun _ => no rfl (fun y => q y.1)⟩)
  rw [h1.1.p1_4]
  refine eX8_drawAsTold ⟨h1.1.o60, q_draw (j := 0) (k := 0) (s := 0) (e := 0) h1 hw hA (by omega) (by omega) (by omega) (Or.inl rfl) (fun σ5 o5 hs => ?_)⟩
  obtain ⟨h5, f5⟩ := h1.onl hw o5 (by decide)
  refine ⟨by rw [h5.1.p1_3]; exact h5.1.o57, ?_⟩
  rw [h5.1.p1_3, h5.1.p1_4]
  have okA : okAnew v z d o b w := ⟨ok, ⟨b1, b2⟩, c1, c2⟩
  have n0 := (hw.2.2.2.1 t hA.1).2.2.2.1
  obtain ⟨n, hn⟩ : ∃ n : Nat, v.2.1 t 0 1 = n := ⟨(v.2.1 t 0 1).toNat, by omega⟩
  refine q_findCut (f := fTold v t d o) h5 hw (hA.onl o5 (by decide)) (fun i hi => ⟨hs i hi, spw_rg _ _ _ _ _ _ _ _ _⟩) hn ⟨b1, b2⟩ (fun σ6 A C o6 e3 e4 hex hB => ?_) (fun σ6 o6 hex => ?_)
  · obtain ⟨h6, f6⟩ := h5.onl hw o6 (by decide)
    rw [h6.1.p1_3, e3, e4, I_0, I_eq' (by omega) (by omega) (by omega) (by omega)]
    refine ⟨fun _ => ⟨fun q => ⟨h6.1.o57, ?_, h6, f1.tr (f5.tr f6)⟩, fun q => ⟨h6.1.o57, ?_, h6, f1.tr (f5.tr f6)⟩⟩, fun q => absurd q (by decide)⟩
    · unfold aAnew; rw [cif_t okA, et, I_tn, hn, I_tn, cif_t hex, if_neg q, bst_eq hB]
    · unfold aAnew; rw [cif_t okA, et, I_tn, hn, I_tn, cif_t hex, if_pos q, bst_eq hB]
  · obtain ⟨h6, f6⟩ := h5.onl hw o6 (by decide)
    refine ⟨fun q => absurd rfl q, fun _ => ⟨?_, h6, f1.tr (f5.tr f6)⟩⟩
    unfold aAnew; rw [cif_t okA, et, I_tn, hn, I_tn, cif_f hex]; rfl
end ANW3
