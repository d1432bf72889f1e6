/-! anew: the reference -/
abbrev MSc (r : Nat) : Prop := (100 ≤ r ∧ r ≤ 103) ∨ (105 ≤ r ∧ r ≤ 108) ∨ (110 ≤ r ∧ r ≤ 118)
/-- the reference's own scratch cells and numbers -/
def MSm (σ σ' : Sg) : Prop := σ'.1 = σ.1 ∧ σ'.2.2 = σ.2.2 ∧ (∀ r, r ≠ 82 → ¬ MSc r → σ'.2.1 r = σ.2.1 r) ∧ ∀ k ∈ [2, 4, 16, 29, 30, 39, 40, 41, 48], σ'.2.1 82 k = σ.2.1 82 k
theorem MSm.rf (σ : Sg) : MSm σ σ := ⟨rfl, rfl, fun _ _ _ => rfl, fun _ _ => rfl⟩
theorem MSm.tr {σ σ1 σ2 : Sg} (h1 : MSm σ σ1) (h2 : MSm σ1 σ2) : MSm σ σ2 := ⟨h2.1.trans h1.1, h2.2.1.trans h1.2.1, fun r a b => (h2.2.2.1 r a b).trans (h1.2.2.1 r a b), fun k hk => (h2.2.2.2 k hk).trans (h1.2.2.2 k hk)⟩
section ANW4
variable {l : Launch} {σ σ' : Sg} {v v' : Vt} {c : Nat} {t a : Nat} {d o : Int} {f : Nat → Int}
theorem Onl.ms {S : List Nat} (h : Onl S σ σ') (hs : ∀ r ∈ S, MSc r) : MSm σ σ' := ⟨h.1, h.2.1, fun r _ hr => h.2.2 r (fun q => hr (hs r q)), fun k _ => by rw [h.2.2 82 (fun q => by have := hs 82 q; omega)]⟩
theorem MSm.w {r k : Nat} {x : Int32} (e : σ' = w1 σ r k x) (hr : MSc r) : MSm σ σ' := (Onl.w (S := [r]) e List.mem_cons_self).ms (fun r' hr' => by rw [List.mem_singleton.mp hr']; exact hr)
theorem MSm.w82 {k : Nat} {x : Int32} (e : σ' = w1 σ 82 k x) (hk : k ∉ [2, 4, 16, 29, 30, 39, 40, 41, 48]) : MSm σ σ' := by
  subst e
  exact ⟨rfl, rfl, fun r a _ => w1_r a, fun b hb => w1_k (fun q => hk (q ▸ hb))⟩
theorem MR.sm (h : MR σ v) (hm : MSm σ σ') : MR σ' v ∧ MF σ σ' := by
  obtain ⟨n1, n2, E, E82⟩ := hm
  refine ⟨h.mk2 n1 n2 ⟨by rw [E82 4 (by decide)]; exact h.2.1.1, h.2.1.2.eq (fun r a b => E r (by omega) (by omega))⟩ (h.2.2.1.eq (E82 16 (by decide)) (fun r a b => E r (by omega) (by omega)) rfl rfl) (h.2.2.2.1.eq (E82 2 (by decide)) (E 83 (by omega) (by omega)) (E82 29 (by decide)) (E82 30 (by decide)) rfl rfl rfl rfl) (h.2.2.2.2.eq (E 104 (by omega) (by omega)) (fun k hk => E82 k (by revert hk; simp only [List.mem_cons, List.not_mem_nil, or_false]; omega)) (E 109 (by omega) (by omega)) rfl rfl rfl rfl rfl rfl), ⟨n1, fun r a => ⟨E r (by omega) (by omega), by rw [n2]⟩⟩⟩
theorem lyP_le_N {f g : Nat → Int} {a : Nat} (s : Nat) : ∀ m : Nat, (∀ i, a ≤ i → i < a + m → 0 ≤ g i ∧ g i ≤ 27) → lyP f g zeroP a m s ≤ lyN f g a m ∧ 0 ≤ lyN f g a m ∧ lyN f g a m ≤ 27 * m := by
  intro m
  induction m with
  | zero => intro _; exact ⟨Int.le_refl 0, Int.le_refl 0, by show (0 : Int) ≤ _; omega⟩
  | succ m ih =>
    intro hg
    have h1 := ih (fun i a b => hg i a (by omega))
    have h2 := hg (a + m) (by omega) (by omega)
    show lyP f g zeroP a m s + (if f (a + m) = s then g (a + m) else 0) ≤ lyN f g a m + (if f (a + m) = -1 then 0 else g (a + m)) ∧ 0 ≤ lyN f g a m + (if f (a + m) = -1 then 0 else g (a + m)) ∧ lyN f g a m + (if f (a + m) = -1 then 0 else g (a + m)) ≤ _
    by_cases e : f (a + m) = -1
    · rw [if_pos e, if_neg (by omega)]; omega
    · rw [if_neg e]; split <;> omega
/-- lays into a scratch row that holds P0 -/
theorem m_laysS {K : Int32 → Sg → Prop} {r j m n : Nat} {k s e b : Int} (hr : r = 115 ∨ r = 116) (h : MR σ v) (hT : TapF v t a) (hj : j < 3) (hs : 0 ≤ s ∧ s ≤ 3) (he : 0 ≤ e ∧ e ≤ 39) (hk : k = 0 ∨ k = 1) (hd : -2000 ≤ d ∧ d ≤ 2000) (ho : -20000 ≤ o ∧ o ≤ 20000) (hm : ((m + n : Nat) : Int) ≤ v.2.1 t 0 1) (hb : b = (m : Int) + n - 1) (hz : ∀ s, s < 256 → σ.2.1 r s = I 0) (hK : ∀ σ', Onl [r] σ σ' → (∀ s', s' < 256 → σ'.2.1 r s' = I (lyP (spw v t d o j k s e) (amt (v.2.1 t) (v.2.2.1 5)) zeroP m n s')) → K (I (lyN (spw v t d o j k s e) (amt (v.2.1 t) (v.2.2.1 5)) m n)) σ') :
    Con l mX12_lays [.inr 82, .inr r, .inl (I t), .inl (I m), .inl (I b), .inl (I d), .inl (I o), .inl (I k), .inl (I j), .inl (I s), .inl (I e)] σ (PI K) := by
  have r1 : shp r = (13, 256) ∧ r ≠ 0 ∧ r ≤ 118 := by rcases hr with rfl | rfl <;> exact ⟨by decide, by decide, by decide⟩
  have r2 : ∀ r' ∈ [r], MSc r' := fun r' hr' => by rw [List.mem_singleton.mp hr']; omega
  refine m_lays (v := v) (a := a) (P := zeroP) (R := fun _ => v.2.2.2) (Q := fun P σ' => Onl [r] σ σ' ∧ ∀ s', s' < 256 → σ'.2.1 r s' = I (P s')) r1 (fun P σ3 h3 => ⟨(h.sm (h3.1.ms r2)).1, h3.2⟩) (fun P σ3 s y σ4 h3 hs' e4 => ⟨h3.1.tr (Onl.w e4 List.mem_cons_self), fun s' hs2 => ?_⟩) hT hj hs he hk hd ho hm hb ⟨Onl.rf _ _, hz⟩ (fun σ3 h3 => hK σ3 h3.1 h3.2)
  rw [e4]
  by_cases q : s' = s
  · rw [q, w1_at]; show _ = I (if s = s then y else P s); rw [if_pos rfl]
  · rw [w1_k q]; show _ = I (if s' = s then y else P s'); rw [if_neg q]; exact h3.2 s' hs2
theorem MR.al (h : MR σ v) : (Al σ (σ.2.2 82 55) ∧ Int32.ofNat (shp (σ.2.2 82 55)).2 = I 256) ∧ (Al σ (σ.2.2 82 56) ∧ Int32.ofNat (shp (σ.2.2 82 56)).2 = I 256) := by
  rw [h.1.k55, h.1.k56]
  exact ⟨⟨⟨by decide, by decide, Nat.le_trans (by decide) h.1.1⟩, rfl⟩, ⟨⟨by decide, by decide, Nat.le_trans (by decide) h.1.1⟩, rfl⟩⟩
theorem m_emptiesS {K : Sg → Prop} {r : Nat} (hr : r = 115 ∨ r = 116) (hM : Mp σ) (h : ∀ σ', Onl [r] σ σ' → (∀ s, s < 256 → σ'.2.1 r s = I 0) → K σ') : Con l mX12_empties [.inr r] σ (PV K) := by
  have n0 := hM.1
  have r1 : shp r = (13, 256) ∧ r ≠ 0 ∧ r ≤ 118 := by rcases hr with rfl | rfl <;> exact ⟨by decide, by decide, by decide⟩
  exact m_empties r1.1 r1.2.1 (by omega) (by decide) (fun σ' a b c d => h σ' ⟨a, b, fun q hq => c q (fun z => hq (by rw [z]; exact List.mem_cons_self))⟩ d)
theorem m_enough {K : Int32 → Sg → Prop} {n i m : Nat} {B : Int} {f g P : Nat → Int} (h : MR σ v) (hw : WF c v) (ht1 : (t : Int) < v.2.2.1 1) (hn : v.2.1 t 0 1 = n) (hd : -2000 ≤ d ∧ d ≤ 2000) (ho : -20000 ≤ o ∧ o ≤ 20000) (hB : 1 ≤ B ∧ B ≤ 99) (ef : f = fTold v t d o) (eg : g = amt (v.2.1 t) (v.2.2.1 5)) (eP : P = v.2.2.2 1) (him : i + m ≤ n) (hfl : ∀ s, s < 256 → σ.2.1 115 s = I (cif (mis f g P n B s) 1 0)) (h1 : ∀ σ', Onl [116] σ σ' → eno f g P n B i m → K 1 σ') (h0 : ∀ σ', Onl [116] σ σ' → ¬ eno f g P n B i m → K 0 σ') : Con l mX12_enough [.inr 82, .inl (I t), .inl (I i), .inl (I ((i : Int) + m - 1)), .inl (I d), .inl (I o), .inl (I B)] σ (PI K) := by
  have hT := hw.tf ht1
  have hpb := hw.2.2.2.2.2.1
  have hc5 := hw.2.2.2.2.2.2
  have hT' := hT
  obtain ⟨_, _, _, _, _, _, n0, n40, hz5, hpo⟩ := hT'
  have g27 : ∀ i, i < n → 0 ≤ g i ∧ g i ≤ 27 := by
    intro i hi
    have := amt_rg (z := v.2.2.1 5) (hpo i (by omega)).2.1 (hpo i (by omega)).2.2 (by omega) (by omega)
    rw [eg]; unfold amt; omega
  refine eX12_enough ⟨h.1.ob, ?_⟩
  rw [h.1.k56]
  refine m_emptiesS (Or.inr rfl) h.1 (fun σ2 o2 z2 => ?_)
  obtain ⟨h2, f2⟩ := h.sm (o2.ms (by decide))
  rw [h2.1.k56]
  refine m_laysS (j := 0) (k := 0) (s := 0) (e := 0) (Or.inr rfl) h2 hT (by omega) (by omega) (by omega) (Or.inl rfl) hd ho (by omega) rfl z2 (fun σ3 o3 z3 => ?_)
  have o3' : Onl [116] σ σ3 := o2.tr o3
  obtain ⟨h3, f3⟩ := h.sm (o3'.ms (by decide))
  have z3 : ∀ s', s' < 256 → σ3.2.1 116 s' = I (lyP f g zeroP i m s') := by rw [ef, eg]; exact z3
  have fl3 : ∀ s, s < 256 → σ3.2.1 115 s = I (cif (mis f g P n B s) 1 0) := fun s hs => by rw [o3'.2.2 115 (by decide)]; exact hfl s hs
  have nn := lyP_le_N (f := f) (g := g) (a := i) 0 m (fun i' a b => g27 i' (by omega))
  have F : ∀ s, s ≤ 256 → (∀ s', s' < s → mis f g P n B s' → B ≤ P s' + lyP f g zeroP i m s') → GW l mX12_enough 31 [(0, .inr 82), (1, .inl (I t)), (2, .inl (I i)), (3, .inl (I ((i : Int) + m - 1))), (4, .inl (I d)), (5, .inl (I o)), (6, .inl (I B)), (7, .inl (I (lyN f g i m))), (8, .inl (I s))] [] σ3 0 0 (PI K) := by
    refine lp ?_ ?_
    · intro hall
      refine gX12_enough_31 ⟨h3.1.ob, h3.al.2.1, fun _ => ⟨fun q => ?_, fun _ => h1 σ3 o3' hall⟩, fun q => absurd ?_ q⟩
      · rw [I_0, I_lt ⟨by omega, by omega⟩ ⟨by omega, by omega⟩] at q; omega
      · rw [h3.al.2.2]; exact (I_le ⟨by omega, by omega⟩ ⟨by omega, by omega⟩).mpr (by omega)
    · intro s hs ih hall
      have pb := hpb s hs
      rw [← eP] at pb
      have lr := lyP_rg (f := f) (g := g) (P := zeroP) (a := i) (B := 0) s ⟨Int.le_refl 0, Int.le_refl 0⟩ m (fun i' a b => g27 i' (by omega))
      refine gX12_enough_31 ⟨h3.1.ob, h3.al.2.1, fun q => ?_, fun _ => ⟨h3.1.a55 (by omega) (by omega), ?_⟩⟩
      · rw [h3.al.2.2, I_le ⟨by omega, by omega⟩ ⟨by omega, by omega⟩] at q; omega
      · rw [h3.1.d55 (by omega) (by omega), I_tn, fl3 s hs, h3.pt (by omega) (by omega), I_tn, h3.1.d56 (by omega) (by omega), I_tn, z3 s hs, ← eP, I_1, I_add, I_add]
        by_cases hm : mis f g P n B s
        · rw [cif_t hm]
          refine ⟨fun q => absurd rfl q, fun _ => ⟨h3.1.a38 (by omega) (by omega), h3.1.a56 (by omega) (by omega), fun q => ?_, fun q => ?_⟩⟩
          · rw [I_le ⟨by omega, by omega⟩ ⟨by omega, by omega⟩] at q
            refine ih (fun s' hs' hm' => ?_)
            by_cases z : s' = s
            · rw [z]; exact q
            · exact hall s' (by omega) hm'
          · rw [I_le ⟨by omega, by omega⟩ ⟨by omega, by omega⟩] at q
            exact h0 σ3 o3' (fun z => q (z s hs hm))
        · rw [cif_f hm]
          refine ⟨fun _ => ih (fun s' hs' hm' => ?_), fun q => absurd q (by decide)⟩
          by_cases z : s' = s
          · rw [z] at hm'; exact absurd hm' hm
          · exact hall s' (by omega) hm'
  have := F 0 (by omega) (fun s' hs' => absurd hs' (by omega))
  rw [ef, eg] at this
  exact this
theorem m_cuts {K : Int32 → Sg → Prop} {n : Nat} {B : Int} {f g P : Nat → Int} (h : MR σ v) (hw : WF c v) (ht1 : (t : Int) < v.2.2.1 1) (hn : v.2.1 t 0 1 = n) (hd : -2000 ≤ d ∧ d ≤ 2000) (ho : -20000 ≤ o ∧ o ≤ 20000) (hB : 1 ≤ B ∧ B ≤ 99) (ef : f = fTold v t d o) (eg : g = amt (v.2.1 t) (v.2.2.1 5)) (eP : P = v.2.2.2 1)
    (h1 : ∀ σ' A C, MR σ' v → MF σ σ' → σ'.2.1 82 62 = I A → σ'.2.1 82 63 = I C → (∃ s, s < 256 ∧ mis f g P n B s) → Best f g P n B (A, C) → K 1 σ')
    (h0 : ∀ σ', MR σ' v → MF σ σ' → ¬ (∃ s, s < 256 ∧ mis f g P n B s) → K 0 σ') : Con l mX12_cuts [.inr 82, .inl (I t), .inl (I d), .inl (I o), .inl (I B)] σ (PI K) := by
  have hT := hw.tf ht1
  have hpb := hw.2.2.2.2.2.1
  have hc5 := hw.2.2.2.2.2.2
  have hT' := hT
  obtain ⟨_, _, ht, _, _, _, n0, n40, hz5, hpo⟩ := hT'
  have g27 : ∀ i, i < n → 0 ≤ g i ∧ g i ≤ 27 := by
    intro i hi
    have := amt_rg (z := v.2.2.1 5) (hpo i (by omega)).2.1 (hpo i (by omega)).2.2 (by omega) (by omega)
    rw [eg]; unfold amt; omega
  have hP : ∀ s, s < 256 → 0 ≤ P s := fun s hs => by rw [eP]; exact (hpb s hs).1
  refine eX12_cuts ⟨h.1.ob, h.1.a18 (by omega) (by omega), ?_⟩
  rw [h.1.k55, h.tk ht1 ht, hn, I_1, I_sub]
  refine m_emptiesS (Or.inl rfl) h.1 (fun σ2 o2 z2 => ?_)
  obtain ⟨h2, f2⟩ := h.sm (o2.ms (by decide))
  rw [h2.1.k55]
  refine m_laysS (m := 0) (n := n) (j := 0) (k := 0) (s := 0) (e := 0) (Or.inl rfl) h2 hT (by omega) (by omega) (by omega) (Or.inl rfl) hd ho (by omega) (by omega) z2 (fun σ3 o3 z3 => ?_)
  have o3' : Onl [115] σ σ3 := o2.tr o3
  have z3 : ∀ s', s' < 256 → σ3.2.1 115 s' = I (lyP f g zeroP 0 n s') := by rw [ef, eg]; exact z3
  have nn := fun s => lyP_le_N (f := f) (g := g) (a := 0) s n (fun i' a b => g27 i' (by omega))
  -- search
  have G147 : ∀ σ', MSm σ σ' → (∀ s, s < 256 → σ'.2.1 115 s = I (cif (mis f g P n B s) 1 0)) → (∃ s, s < 256 ∧ mis f g P n B s) → ∀ x : Int32, GW l mX12_cuts 147 [(0, .inr 82), (1, .inl (I t)), (2, .inl (I d)), (3, .inl (I o)), (4, .inl (I B)), (5, .inl (I ((n : Int) - 1))), (6, .inl x), (7, .inl 1), (8, .inl (I 1))] [] σ' 0 0 (PI K) := by
    intro σ' s' fl' hex x
    have n1 : 1 ≤ n := by
      obtain ⟨s, _, hm⟩ := hex
      have z := hm.2
      by_cases e : n = 0
      · subst e
        have : lyP f g zeroP 0 0 s = 0 := rfl
        omega
      · omega
    have A : ∀ m, m ≤ n + 1 → 1 ≤ m → ∀ σ', MSm σ σ' → (∀ s, s < 256 → σ'.2.1 115 s = I (cif (mis f g P n B s) 1 0)) → (∀ a' m', 1 ≤ m' → m' < m → a' + m' ≤ n → ¬ eno f g P n B a' m') → GW l mX12_cuts 147 [(0, .inr 82), (1, .inl (I t)), (2, .inl (I d)), (3, .inl (I o)), (4, .inl (I B)), (5, .inl (I ((n : Int) - 1))), (6, .inl x), (7, .inl 1), (8, .inl (I m))] [] σ' 0 0 (PI K) := by
      refine lp ?_ ?_
      · intro _ σ' _ _ hno
        exact absurd (eno_all hP) (hno 0 n n1 (by omega) (by omega))
      · intro m hm ih m1 σ' s' fl' hno
        refine gX12_cuts_147 ⟨fun q => ?_, fun _ => ?_⟩
        · rw [I_1, I_add, I_lt ⟨by omega, by omega⟩ ⟨by omega, by omega⟩] at q; omega
        · have N : ∀ a, a ≤ n - m + 1 → ∀ σ', MSm σ σ' → (∀ s, s < 256 → σ'.2.1 115 s = I (cif (mis f g P n B s) 1 0)) → (∀ a', a' < a → ¬ eno f g P n B a' m) → GW l mX12_cuts 159 [(0, .inr 82), (1, .inl (I t)), (2, .inl (I d)), (3, .inl (I o)), (4, .inl (I B)), (5, .inl (I ((n : Int) - 1))), (6, .inl x), (7, .inl 1), (8, .inl (I m)), (9, .inl (I a))] [] σ' 0 0 (PI K) := by
            refine lp ?_ ?_
            · intro σ' s' fl' hna
              refine gX12_cuts_159 ⟨fun _ => ?_, fun q => absurd ?_ q⟩
              · rw [I_1, I_add]
                refine ih (by omega) σ' s' fl' (fun a' m' y1 y2 y3 => ?_)
                by_cases z : m' = m
                · rw [z]; exact hna a' (by omega)
                · exact hno a' m' y1 (by omega) y3
              · rw [I_1, I_add, I_add]; exact (I_lt ⟨by omega, by omega⟩ ⟨by omega, by omega⟩).mpr (by omega)
            · intro a ha ih2 σ' s' fl' hna
              obtain ⟨h', f'⟩ := h.sm s'
              refine gX12_cuts_159 ⟨fun q => ?_, fun _ => ⟨h'.1.ob, ?_⟩⟩
              · rw [I_1, I_add, I_add, I_lt ⟨by omega, by omega⟩ ⟨by omega, by omega⟩] at q; omega
              · rw [I_1, I_add, I_sub, I_add]
                refine m_enough h' hw ht1 hn hd ho hB ef eg eP (by omega) fl' (fun σ5 o5 he => ⟨fun _ σ6 e6 σ7 e7 => ?_, fun q => absurd q (by decide)⟩) (fun σ5 o5 he => ⟨fun q => absurd rfl q, fun _ => ?_⟩)
                · have s7 := s'.tr ((o5.ms (by decide)).tr ((MSm.w82 e6 (by decide)).tr (MSm.w82 e7 (by decide))))
                  obtain ⟨h7, f7⟩ := h.sm s7
                  refine h1 σ7 a ((a : Int) + m - 1) h7 f7 (by rw [e7, w1_k (by omega), e6, w1_at]) (by rw [e7, w1_at]) hex ⟨a, m, rfl, m1, by omega, he, fun a' m' y1 y2 y3 => ?_⟩
                  have : m ≤ m' := by
                    by_cases z : m' < m
                    · exact absurd y3 (hno a' m' y1 z y2)
                    · omega
                  refine ⟨this, fun z => ?_⟩
                  by_cases w : a' < a
                  · rw [z] at y3; exact absurd y3 (hna a' w)
                  · omega
                · refine ih2 σ5 (s'.tr (o5.ms (by decide))) (fun s hs => by rw [o5.2.2 115 (by decide)]; exact fl' s hs) (fun a' ha' => ?_)
                  by_cases z : a' = a
                  · rw [z]; exact he
                  · exact hna a' (by omega)
          exact N 0 (by omega) σ' s' fl' (fun a' ha' => absurd ha' (by omega))
    exact A 1 (by omega) (by omega) σ' s' fl' (fun a' m' y1 y2 => absurd y2 (by omega))
  -- the flags
  have G51 : ∀ x : Int32, (x = 0 → ¬ ∃ s, s < 256 ∧ mis f g P n B s) → ∀ s, s ≤ 256 → ∀ σ', Onl [115] σ σ' → (∀ s', s' < s → σ'.2.1 115 s' = I (cif (mis f g P n B s') 1 0)) → (∀ s', s ≤ s' → s' < 256 → σ'.2.1 115 s' = I (lyP f g zeroP 0 n s')) → GW l mX12_cuts 51 [(0, .inr 82), (1, .inl (I t)), (2, .inl (I d)), (3, .inl (I o)), (4, .inl (I B)), (5, .inl (I ((n : Int) - 1))), (6, .inl x), (7, .inl (I (cif (∃ s', s' < s ∧ mis f g P n B s') 1 0))), (8, .inl (I s))] [] σ' 0 0 (PI K) := by
    intro x hx
    refine lp ?_ ?_
    · intro σ' o' fl' _
      obtain ⟨h', f'⟩ := h.sm (o'.ms (by decide))
      refine gX12_cuts_51 ⟨h'.1.ob, h'.al.1.1, fun _ => ⟨fun q => ?_, fun q => ?_⟩, fun q => absurd ?_ q⟩
      · by_cases hex : ∃ s, s < 256 ∧ mis f g P n B s
        · rw [cif_t hex]; exact G147 σ' (o'.ms (by decide)) fl' hex x
        · rw [cif_f hex] at q; exact absurd rfl q
      · by_cases hex : ∃ s, s < 256 ∧ mis f g P n B s
        · rw [cif_t hex] at q; exact absurd q (by decide)
        · exact h0 σ' h' f' hex
      · rw [h'.al.1.2]; exact (I_le ⟨by omega, by omega⟩ ⟨by omega, by omega⟩).mpr (by omega)
    · intro s hs ih σ' o' fl' fl2
      obtain ⟨h', f'⟩ := h.sm (o'.ms (by decide))
      have pb := hpb s hs
      have lr := nn s
      have lr2 := lyP_rg (f := f) (g := g) (P := zeroP) (a := 0) (B := 0) s ⟨Int.le_refl 0, Int.le_refl 0⟩ n (fun i' a b => g27 i' (by omega))
      have fin : ∀ y : Int, y = cif (mis f g P n B s) 1 0 → GW l mX12_cuts 113 [(0, .inr 82), (1, .inl (I t)), (2, .inl (I d)), (3, .inl (I o)), (4, .inl (I B)), (5, .inl (I ((n : Int) - 1))), (6, .inl x), (7, .inl (I (cif (∃ s', s' < s ∧ mis f g P n B s') 1 0))), (8, .inl (I s)), (9, .inl (I y))] [.inl (I y), .inl (I s), .inr (σ'.2.2 82 55)] σ' 0 0 (PI K) := by
        intro y ey
        refine gX12_cuts_113 ⟨h'.1.a55 (by omega) (by omega), fun σ4 e4 => ?_⟩
        rw [h'.1.k55, I_cln (by omega)] at e4
        rw [I_1, I_add]
        have go := ih σ4 (o'.tr (Onl.w e4 (by decide))) (fun s' hs' => by
          rw [e4]
          by_cases z : s' = s
          · rw [z, w1_at, ey]
          · rw [w1_k z]; exact fl' s' (by omega)) (fun s' a b => by rw [e4, w1_k (by omega)]; exact fl2 s' (by omega) b)
        by_cases hm : mis f g P n B s
        · rw [cif_t (show ∃ s', s' < s + 1 ∧ mis f g P n B s' from ⟨s, by omega, hm⟩)] at go
          rw [cif_t hm] at ey
          rw [ey]
          exact ⟨fun _ => go, fun _ => ⟨fun q => absurd q (by decide), fun _ => go⟩⟩
        · rw [cif_f hm] at ey
          rw [ey]
          by_cases hex : ∃ s', s' < s ∧ mis f g P n B s'
          · have h3 : ∃ s', s' < s + 1 ∧ mis f g P n B s' := by obtain ⟨s', y1, y2⟩ := hex; exact ⟨s', by omega, y2⟩
            rw [cif_t h3] at go
            rw [cif_t hex]
            exact ⟨fun _ => go, fun q => absurd q (by decide)⟩
          · have h3 : ¬ ∃ s', s' < s + 1 ∧ mis f g P n B s' := fun ⟨s', y1, y2⟩ => by
              by_cases z : s' = s
              · rw [z] at y2; exact hm y2
              · exact hex ⟨s', by omega, y2⟩
            rw [cif_f h3] at go
            rw [cif_f hex]
            exact ⟨fun q => absurd rfl q, fun _ => ⟨fun _ => go, fun q => absurd rfl q⟩⟩
      refine gX12_cuts_51 ⟨h'.1.ob, h'.al.1.1, fun q => ?_, fun _ => ⟨fun q => fin 0 ?_, fun q => ⟨h'.1.a38 (by omega) (by omega), fun q2 => fin 0 ?_, fun q2 => ⟨h'.1.a55 (by omega) (by omega), fun q3 => fin 0 ?_, fun q3 => fin 1 ?_⟩⟩⟩⟩
      · rw [h'.al.1.2, I_le ⟨by omega, by omega⟩ ⟨by omega, by omega⟩] at q; omega
      · rw [cif_f (fun hm => hx q ⟨s, hs, hm⟩)]
      · rw [h'.pt (by omega) (by omega), I_tn, ← eP, I_le ⟨by omega, by rw [← eP] at pb; omega⟩ ⟨by rw [← eP] at pb; omega, by rw [← eP] at pb; omega⟩] at q2
        rw [cif_f (fun hm => by have := hm.1; omega)]
      · rw [h'.1.d55 (by omega) (by omega), I_tn, fl2 s (by omega) hs, I_lt ⟨by omega, by omega⟩ ⟨by omega, by omega⟩] at q3
        rw [cif_f (fun hm => by have := hm.2; omega)]
      · rw [← eP] at pb
        rw [h'.pt (by omega) (by omega), I_tn, ← eP, I_le ⟨by omega, by omega⟩ ⟨by omega, by omega⟩] at q2
        rw [h'.1.d55 (by omega) (by omega), I_tn, fl2 s (by omega) hs, I_lt ⟨by omega, by omega⟩ ⟨by omega, by omega⟩] at q3
        rw [cif_t ⟨by omega, by omega⟩]
  have st : ∀ x : Int32, (x = 0 → ¬ ∃ s, s < 256 ∧ mis f g P n B s) → GW l mX12_cuts 51 [(0, .inr 82), (1, .inl (I t)), (2, .inl (I d)), (3, .inl (I o)), (4, .inl (I B)), (5, .inl (I ((n : Int) - 1))), (6, .inl x), (7, .inl 0), (8, .inl 0)] [] σ3 0 0 (PI K) := by
    intro x hx
    have := G51 x hx 0 (by omega) σ3 o3' (fun s' hs' => absurd hs' (by omega)) (fun s' _ b => z3 s' b)
    rw [cif_f (fun ⟨s', y1, _⟩ => absurd y1 (by omega))] at this
    exact this
  have N0 := nn 0
  have eN : lyN (spw v t d o 0 0 0 0) (amt (v.2.1 t) (v.2.2.1 5)) 0 n = lyN f g 0 n := by rw [ef, eg]; rfl
  rw [eN]
  refine ⟨fun q => st 0 (fun _ ⟨s, hs, hm⟩ => ?_), fun q => st 1 (fun q => absurd q (by decide))⟩
  rw [I_0, I_le ⟨by omega, by omega⟩ ⟨by omega, by omega⟩] at q
  have := nn s
  have := hm.2
  omega
theorem M_anew {z d o b w : Int} (h : MR σ v) (hw : WF c v) (hz : Rg z) (hd : Rg d) (ho : Rg o) (hb : Rg b) (hr : Rg w) : Con l mX12_anew [.inr 82, .inl (I z), .inl (I d), .inl (I o), .inl (I b), .inl (I w)] σ (PI fun x σ' => x = I (aAnew v z d o b w) ∧ MR σ' v ∧ MF σ σ') := by
  have w1' := hr.1; have w2' := hr.2
  refine eX12_anew ⟨h.1.ob, fun σ2 e2 => ?_⟩
  obtain ⟨h, f⟩ := h.w e2 (by decide)
  have no : ∀ {q : Int32}, q = -1 → ¬ okAnew v z d o b w → q = I (aAnew v z d o b w) ∧ MR σ2 v ∧ MF σ σ2 := by
    intro q e hq
    unfold aAnew; rw [cif_f hq]; exact ⟨e, h, f⟩
  refine h.isTape hw hz (fun t et ht1 ht => ⟨fun q => absurd q (by decide), fun _ => ?_⟩) (fun q => ⟨fun _ => no rfl (fun y => q y.1.1), fun q => absurd rfl q⟩)
  refine m_isDrift hd (fun b1 => ⟨fun q => absurd q (by decide), fun _ => ?_⟩) (fun q => ⟨fun _ => no rfl (fun y => q y.1.2.1), fun q => absurd rfl q⟩)
  refine m_isOffset ho (fun b2 => ⟨fun q => absurd q (by decide), fun _ => ?_⟩) (fun q => ⟨fun _ => no rfl (fun y => q y.1.2.2), fun q => absurd rfl q⟩)
  refine q_in (b := 1) (c := 99) hb ⟨by omega, by omega⟩ ⟨by omega, by omega⟩ (fun c1 c2 => ⟨fun q => absurd q (by decide), fun _ => ?_⟩) (fun q => ⟨fun _ => no rfl (fun y => q y.2.1), fun q => absurd rfl q⟩)
  rw [I_0, I_1, I_lt' (by omega) (by omega) (by omega) (by omega), I_le' (by omega) (by omega) (by omega) (by omega)]
  refine ⟨fun q => no rfl (fun y => by have := y.2.2; omega), fun q => ⟨fun q2 => ?_, fun q2 => no rfl (fun y => by have := y.2.2; omega)⟩⟩
  have okA : okAnew v z d o b w := ⟨⟨⟨by omega, by omega⟩, b1, b2⟩, ⟨c1, c2⟩, by omega, by omega⟩
  have n0 := (hw.2.2.2.1 t ht1).2.2.2.1
  obtain ⟨n, hn⟩ : ∃ n : Nat, v.2.1 t 0 1 = n := ⟨(v.2.1 t 0 1).toNat, by omega⟩
  rw [et]
  refine m_cuts (n := n) h hw ht1 hn b1 b2 ⟨c1, c2⟩ rfl rfl rfl (fun σ6 A C h6 f6 e3 e4 hex hB => ?_) (fun σ6 h6 f6 hex => ?_)
  · rw [e3, e4, I_eq' (by omega) (by omega) (by omega) (by omega)]
    rw [et] at okA
    refine ⟨fun _ => ⟨fun q => ⟨?_, h6, f.tr f6⟩, fun q => ⟨?_, h6, f.tr f6⟩⟩, fun q => absurd q (by decide)⟩
    · unfold aAnew; rw [cif_t okA, I_tn, hn, I_tn, cif_t hex, if_neg q, bst_eq hB]
    · unfold aAnew; rw [cif_t okA, I_tn, hn, I_tn, cif_t hex, if_pos q, bst_eq hB]
  · refine ⟨fun q => absurd rfl q, fun _ => ⟨?_, h6, f.tr f6⟩⟩
    rw [et] at okA
    unfold aAnew; rw [cif_t okA, I_tn, hn, I_tn, cif_f hex]; rfl
end ANW4
