/-! suspects: the reference -/
theorem kq_all : ∀ q : Nat, q < 6 → (I (q : Int) / 3 = I ((q / 3 : Nat) : Int) ∧ (I (q : Int) - I (q : Int) / 3 * 3) + 1 = I ((q % 3 + 1 : Nat) : Int)) := by decide
def SmR (S : Nat → Prop) (x : Nat) (lo hi : Int) : Prop := (x = 0 ∧ (∀ e, ¬ S e) ∧ lo = -1 ∧ hi = -1) ∨ (x = 1 ∧ (∃ e : Nat, S e ∧ lo = e) ∧ (∃ e : Nat, S e ∧ hi = e) ∧ ∀ e : Nat, S e → lo ≤ e ∧ (e : Int) ≤ hi)
section SUS4
variable {l : Launch} {σ σ' : Sg} {v v' : Vt} {c : Nat} {t a n : Nat} {d o : Int} {f : Nat → Int}
theorem SmR.same {S S' : Nat → Prop} {x : Nat} {lo hi : Int} (h : SmR S x lo hi) (he : ∀ e, S' e ↔ S e) : SmR S' x lo hi := by
  rcases h with ⟨h1, h2, h3⟩ | ⟨h1, ⟨e1, h2, h2'⟩, ⟨e2, h3, h3'⟩, h4⟩
  · exact Or.inl ⟨h1, fun e z => h2 e ((he e).mp z), h3⟩
  · exact Or.inr ⟨h1, ⟨e1, (he e1).mpr h2, h2'⟩, ⟨e2, (he e2).mpr h3, h3'⟩, fun e z => h4 e ((he e).mp z)⟩
theorem SmR.add {S S' : Nat → Prop} {x : Nat} {lo hi : Int} {e0 : Nat} (h : SmR S x lo hi) (hle : ∀ e, S e → e ≤ e0) (he : ∀ e, S' e ↔ S e ∨ e = e0) : (lo = -1 → SmR S' 1 e0 e0) ∧ (lo ≠ -1 → SmR S' 1 lo e0) := by
  refine ⟨fun q => ?_, fun q => ?_⟩
  · rcases h with ⟨h1, h2, h3, h4⟩ | ⟨h1, ⟨e1, h2, h2'⟩, ⟨e2, h3, h3'⟩, h4⟩
    · refine Or.inr ⟨rfl, ⟨e0, (he e0).mpr (Or.inr rfl), rfl⟩, ⟨e0, (he e0).mpr (Or.inr rfl), rfl⟩, fun e z => ?_⟩
      rcases (he e).mp z with z | z
      · exact absurd z (h2 e)
      · omega
    · omega
  · rcases h with ⟨h1, h2, h3, h4⟩ | ⟨h1, ⟨e1, h2, h2'⟩, ⟨e2, h3, h3'⟩, h4⟩
    · omega
    · refine Or.inr ⟨rfl, ⟨e1, (he e1).mpr (Or.inl h2), h2'⟩, ⟨e0, (he e0).mpr (Or.inr rfl), rfl⟩, fun e z => ?_⟩
      rcases (he e).mp z with z | z
      · have := h4 e z; have := hle e z; omega
      · have := hle e1 h2; omega
theorem SmR.fin {S : Nat → Prop} {x : Nat} {lo hi : Int} {j : Nat} (h : SmR S x lo hi) (he : ∀ e, S e ↔ e < n ∧ Ace v t d o j e) : x = hbj v t d o n j ∧ (x = 1 → IsLo v t d o n j lo ∧ IsHi v t d o n j hi) := by
  rcases h with ⟨h1, h2, h3⟩ | ⟨h1, ⟨e1, h2, h2'⟩, ⟨e2, h3, h3'⟩, h4⟩
  · exact ⟨by rw [hbj_0 (fun ⟨e, z⟩ => h2 e ((he e).mpr z))]; exact h1, fun q => by omega⟩
  · refine ⟨by rw [hbj_1 ⟨e1, (he e1).mp h2⟩]; exact h1, fun _ => ⟨⟨e1, h2', (he e1).mp h2, fun e' y1 y2 => ?_⟩, ⟨e2, h3', (he e2).mp h3, fun e' y1 y2 => ?_⟩⟩⟩
    · have := (h4 e' ((he e').mpr ⟨y1, y2⟩)).1; omega
    · have := (h4 e' ((he e').mpr ⟨y1, y2⟩)).2; omega
theorem m_isAlike {K : Int32 → Sg → Prop} {j : Nat} {k s e : Int} (h : MR σ v) (hw : WF c v) (ht1 : (t : Int) < v.2.2.1 1) (hn : v.2.1 t 0 1 = n) (hd : -2000 ≤ d ∧ d ≤ 2000) (ho : -20000 ≤ o ∧ o ≤ 20000) (hj : j < 3) (hs : 0 ≤ s ∧ s ≤ 3) (he : 0 ≤ e ∧ e ≤ 39) (hk : k = 0 ∨ k = 1) (hL : ∀ s', s' < 256 → σ.2.1 115 s' = I (lyP (fPlay v t d o) (amt (v.2.1 t) (v.2.2.1 5)) zeroP 0 n s')) (h1 : ∀ σ', Onl [116] σ σ' → alk v t d o j k s e → K 1 σ') (h0 : ∀ σ', Onl [116] σ σ' → ¬ alk v t d o j k s e → K 0 σ') : Con l mX12_isAlike [.inr 82, .inl (I t), .inl (I d), .inl (I o), .inl (I k), .inl (I j), .inl (I s), .inl (I e)] σ (PI K) := by
  have hT := hw.tf ht1
  have hT' := hT
  obtain ⟨_, _, ht, _, _, _, n0, n40, hz5, hpo⟩ := hT'
  unfold alk at h1 h0
  rw [hn, I_tn] at h1 h0
  have g27 : ∀ i, i < n → 0 ≤ amt (v.2.1 t) (v.2.2.1 5) i ∧ amt (v.2.1 t) (v.2.2.1 5) i ≤ 27 := by
    intro i hi
    have := amt_rg (z := v.2.2.1 5) (hpo i (by omega)).2.1 (hpo i (by omega)).2.2 (by omega) (by omega)
    unfold amt; omega
  refine eX12_isAlike ⟨h.1.ob, ?_⟩
  rw [h.1.k56]
  refine m_emptiesS (Or.inr rfl) h.1 (fun σ2 o2 z2 => ?_)
  obtain ⟨h2, f2⟩ := h.sm (o2.ms (by decide))
  rw [h2.1.k56, h2.tk ht1 ht, hn, I_1, I_sub]
  refine ⟨h2.1.a18 (by omega) (by omega), m_laysS (m := 0) (n := n) (Or.inr rfl) h2 hT hj hs he hk hd ho (by omega) (by omega) z2 (fun σ3 o3 z3 => ?_)⟩
  have o3' : Onl [116] σ σ3 := o2.tr o3
  obtain ⟨h3, f3⟩ := h.sm (o3'.ms (by decide))
  have L3 : ∀ s', s' < 256 → σ3.2.1 115 s' = I (lyP (fPlay v t d o) (amt (v.2.1 t) (v.2.2.1 5)) zeroP 0 n s') := fun s' hs' => by rw [o3'.2.2 115 (by decide)]; exact hL s' hs'
  have nn := lyP_le_N (f := spw v t d o j k s e) (g := amt (v.2.1 t) (v.2.2.1 5)) (a := 0) 0 n (fun i' a b => g27 i' (by omega))
  have F : ∀ s', s' ≤ 256 → (∀ s'', s'' < s' → lyP (spw v t d o j k s e) (amt (v.2.1 t) (v.2.2.1 5)) zeroP 0 n s'' = lyP (fPlay v t d o) (amt (v.2.1 t) (v.2.2.1 5)) zeroP 0 n s'') → GW l mX12_isAlike 40 [(0, .inr 82), (1, .inl (I t)), (2, .inl (I d)), (3, .inl (I o)), (4, .inl (I k)), (5, .inl (I j)), (6, .inl (I s)), (7, .inl (I e)), (8, .inl (I (lyN (spw v t d o j k s e) (amt (v.2.1 t) (v.2.2.1 5)) 0 n))), (9, .inl (I s'))] [] σ3 0 0 (PI K) := by
    refine lp ?_ ?_
    · intro hall
      refine gX12_isAlike_40 ⟨h3.1.ob, h3.al.2.1, fun _ => ⟨fun q => ?_, fun _ => h1 σ3 o3' hall⟩, fun q => absurd ?_ q⟩
      · rw [I_0, I_lt ⟨by omega, by omega⟩ ⟨by omega, by omega⟩] at q; omega
      · rw [h3.al.2.2]; exact (I_le ⟨by omega, by omega⟩ ⟨by omega, by omega⟩).mpr (by omega)
    · intro s' hs' ih hall
      have lr := lyP_rg (f := spw v t d o j k s e) (g := amt (v.2.1 t) (v.2.2.1 5)) (P := zeroP) (a := 0) (B := 0) s' ⟨Int.le_refl 0, Int.le_refl 0⟩ n (fun i' a b => g27 i' (by omega))
      have lr2 := lyP_rg (f := fPlay v t d o) (g := amt (v.2.1 t) (v.2.2.1 5)) (P := zeroP) (a := 0) (B := 0) s' ⟨Int.le_refl 0, Int.le_refl 0⟩ n (fun i' a b => g27 i' (by omega))
      refine gX12_isAlike_40 ⟨h3.1.ob, h3.al.2.1, fun q => ?_, fun _ => ⟨h3.1.a56 (by omega) (by omega), h3.1.a55 (by omega) (by omega), ?_⟩⟩
      · rw [h3.al.2.2, I_le ⟨by omega, by omega⟩ ⟨by omega, by omega⟩] at q; omega
      · rw [h3.1.d55 (by omega) (by omega), h3.1.d56 (by omega) (by omega), I_tn, L3 s' hs', z3 s' hs', I_eq' (by omega) (by omega) (by omega) (by omega), I_1, I_add]
        refine ⟨fun q => ih (fun s'' hs'' => ?_), fun q => h0 σ3 o3' (fun z => q (z s' hs'))⟩
        by_cases z : s'' = s'
        · rw [z]; exact q
        · exact hall s'' (by omega)
  exact F 0 (by omega) (fun s'' hs'' => absurd hs'' (by omega))
/-- the numbers of the reference's doubt -/
def SuM (σ : Sg) (v : Vt) (t : Nat) (d o : Int) (n j : Nat) : Prop := σ.2.1 82 57 = I (non v t d o + sumP (cnj v t d o n) j) ∧ σ.2.1 82 58 = I (Btj v t d o n j) ∧ σ.2.1 82 59 = I (non v t d o) ∧ ∀ j', j' < j → hbj v t d o n j' = 1 → ∃ lo hi, σ.2.1 117 j' = I lo ∧ σ.2.1 118 j' = I hi ∧ IsLo v t d o n j' lo ∧ IsHi v t d o n j' hi
def Seq (v : Vt) (t : Nat) (d o : Int) (j e q : Nat) (e' : Nat) : Prop := ∃ q', q' < 6 ∧ (e' < e ∨ (e' = e ∧ q' < q)) ∧ Acq v t d o j q' e'
theorem m_suspect {K : Sg → Prop} {J : Nat} (h : MR σ v) (hw : WF c v) (ht1 : (t : Int) < v.2.2.1 1) (ea : v.2.1 t 0 0 = a) (hn : v.2.1 t 0 1 = n) (hJ : v.1 a 0 2 = J) (hd : -2000 ≤ d ∧ d ≤ 2000) (ho : -20000 ≤ o ∧ o ≤ 20000) (hK : ∀ σ', MSm σ σ' → SuM σ' v t d o n J → K σ') : Con l mX12_suspect [.inr 82, .inl (I t), .inl (I d), .inl (I o)] σ (PV K) := by
  have hT := hw.tf ht1
  rw [ea, I_tn] at hT
  have hT' := hT
  obtain ⟨_, ha, ht, _, hwf, hj1, n0, n40, hz5, hpo⟩ := hT'
  have w1' := hwf.1
  have wr := hwf.2.2.2.2
  have g27 : ∀ i, i < n → 0 ≤ amt (v.2.1 t) (v.2.2.1 5) i ∧ amt (v.2.1 t) (v.2.2.1 5) i ≤ 27 := by
    intro i hi
    have := amt_rg (z := v.2.2.1 5) (hpo i (by omega)).2.1 (hpo i (by omega)).2.2 (by omega) (by omega)
    unfold amt; omega
  refine eX12_suspect ⟨h.1.ob, h.1.a17 (by omega) (by omega), ?_⟩
  rw [h.1.k55, h.ow ht1 ht, ea]
  refine m_emptiesS (Or.inl rfl) h.1 (fun σ3 o3 z3 => ?_)
  obtain ⟨h3, f3⟩ := h.sm (o3.ms (by decide))
  have hW := h3.2.1.2.w h3.1 ha
  rw [h3.tk ht1 ht, hW.1, hW.2.1, hW.2.2.1, hW.2.2.2, h3.1.k55, hn, I_1, I_sub]
  refine ⟨h3.1.a18 (by omega) (by omega), h3.1.a12 (by omega) (by omega), h3.1.a13 (by omega) (by omega), h3.1.a14 (by omega) (by omega), h3.1.a15 (by omega) (by omega), ?_⟩
  rw [show v.1 a 5 0 = (((v.1 a 5 0).toNat : Nat) : Int) by omega]
  refine m_laysS (m := 0) (n := n) (Or.inl rfl) h3 hT (by omega) (by omega) (by omega) (by omega) hd ho (by omega) (by omega) z3 (fun σ9 o9 z9 => ?_)
  have o9' : Onl [115] σ σ9 := o3.tr o9
  obtain ⟨h9, f9⟩ := h.sm (o9'.ms (by decide))
  have ef : spw v t d o (v.1 a 5 0).toNat (v.1 a 5 1) (v.1 a 5 2) (v.1 a 5 3) = fPlay v t d o := by unfold fPlay; rw [ea, I_tn]
  rw [ef] at z9 ⊢
  have nn := lyP_le_N (f := fPlay v t d o) (g := amt (v.2.1 t) (v.2.2.1 5)) (a := 0) 0 n (fun i' a b => g27 i' (by omega))
  obtain ⟨x9, ex9⟩ : ∃ x : Int32, x = I (lyN (fPlay v t d o) (amt (v.2.1 t) (v.2.2.1 5)) 0 n) := ⟨_, rfl⟩
  -- the loop over joints
  have F : ∀ j, j ≤ J → ∀ σ', MSm σ σ' → (∀ s', s' < 256 → σ'.2.1 115 s' = I (lyP (fPlay v t d o) (amt (v.2.1 t) (v.2.2.1 5)) zeroP 0 n s')) → SuM σ' v t d o n j → GW l mX12_suspect 117 [(0, .inr 82), (1, .inl (I t)), (2, .inl (I d)), (3, .inl (I o)), (4, .inl (I a)), (5, .inl x9), (6, .inl (I j))] [] σ' 0 0 (PV K) := by
    refine lp ?_ ?_
    · intro σ' s' L' F'
      obtain ⟨h', f'⟩ := h.sm s'
      refine gX12_suspect_117 ⟨h'.1.ob, h'.1.a7 (by omega) (by omega), fun _ => hK σ' s' F', fun z => absurd ?_ z⟩
      rw [h'.2.1.2.jn h'.1 ha, hJ]; exact (I_le ⟨by omega, by omega⟩ ⟨by omega, by omega⟩).mpr (by omega)
    · intro j hj ih σ' s' L' F'
      obtain ⟨h', f'⟩ := h.sm s'
      have j3 : j < 3 := by omega
      refine gX12_suspect_117 ⟨h'.1.ob, h'.1.a7 (by omega) (by omega), fun z => ?_, fun _ => ⟨h'.1.a60 (by omega) (by omega), fun σ5 e5 => ?_⟩⟩
      · rw [h'.2.1.2.jn h'.1 ha, hJ, I_le ⟨by omega, by omega⟩ ⟨by omega, by omega⟩] at z; omega
      rw [h'.1.k60, I_cln (by omega)] at e5
      have o5 : Onl [82, 116, 117, 118] σ' σ5 := Onl.w e5 (by decide)
      have M5 := o5.M h'.1
      refine ⟨M5.a61 (by omega) (by omega), fun σ7 e7 => ?_⟩
      rw [M5.k61, I_cln (by omega)] at e7
      -- inside a joint
      obtain ⟨In, eIn⟩ : ∃ In : Nat → Nat → Sg → Prop, In = fun e q σ'' => Onl [82, 116, 117, 118] σ' σ'' ∧ MSm σ' σ'' ∧ (∀ j', j' ≠ j → σ''.2.1 117 j' = σ'.2.1 117 j' ∧ σ''.2.1 118 j' = σ'.2.1 118 j') ∧ σ''.2.1 82 59 = σ'.2.1 82 59 ∧ σ''.2.1 82 57 = I (non v t d o + sumP (cnj v t d o n) j + sumP (fun e => sumP (fun q => inq v t d o j q e) 6) e + sumP (fun q => inq v t d o j q e) q) ∧ ∃ (x : Nat) (lo hi : Int), x < 2 ∧ (-1 ≤ lo ∧ lo ≤ 40 ∧ -1 ≤ hi ∧ hi ≤ 40) ∧ σ''.2.1 82 58 = I ((Btj v t d o n j + x * 2 ^ j : Nat) : Int) ∧ σ''.2.1 117 j = I lo ∧ σ''.2.1 118 j = I hi ∧ SmR (Seq v t d o j e q) x lo hi := ⟨_, rfl⟩
      have G148 : ∀ e, e ≤ n → ∀ σ'', In e 0 σ'' → GW l mX12_suspect 148 [(0, .inr 82), (1, .inl (I t)), (2, .inl (I d)), (3, .inl (I o)), (4, .inl (I a)), (5, .inl x9), (6, .inl (I j)), (7, .inl (I e))] [] σ'' 0 0 (PV K) := by
        refine lp ?_ ?_
        · intro σ'' hi
          rw [eIn] at hi
          obtain ⟨i1, i2, i3, i4, i5, x, lo, hi, hx, hr, b2, b3, b4, b5⟩ := hi
          obtain ⟨h2, f2⟩ := h'.sm i2
          refine gX12_suspect_148 ⟨h2.1.ob, h2.1.a18 (by omega) (by omega), fun _ => ?_, fun z => absurd ?_ z⟩
          · rw [I_1, I_add]
            obtain ⟨x1, x2⟩ := b5.fin (n := n) (v := v) (t := t) (d := d) (o := o) (j := j) (fun e => ⟨fun ⟨q', z1, z2, z3⟩ => ⟨by omega, q', z1, z3⟩, fun ⟨z1, q', z2, z3⟩ => ⟨q', z2, by omega, z3⟩⟩)
            refine ih σ'' (s'.tr i2) (fun s2 hs2 => by rw [i1.2.2 115 (by decide)]; exact L' s2 hs2) ⟨?_, ?_, ?_, fun j' hj' hb => ?_⟩
            · rw [i5]
              show I (_ + (0 : Int)) = I (_ + (sumP (cnj v t d o n) j + cnj v t d o n j))
              rw [Int.add_zero, show cnj v t d o n j = sumP (fun e => sumP (fun q => inq v t d o j q e) 6) n from sumP_swap _ _ _, Int.add_assoc]
            · rw [b2, x1]; rfl
            · rw [i4]; exact F'.2.2.1
            · by_cases z : j' = j
              · subst z
                exact ⟨lo, hi, b3, b4, x2 (by omega)⟩
              · obtain ⟨lo', hi', y1, y2, y3⟩ := F'.2.2.2 j' (by omega) hb
                exact ⟨lo', hi', by rw [(i3 j' z).1]; exact y1, by rw [(i3 j' z).2]; exact y2, y3⟩
          · rw [h2.tk ht1 ht, hn]; exact (I_le ⟨by omega, by omega⟩ ⟨by omega, by omega⟩).mpr (by omega)
        · intro e he ihe σ'' hi
          have hi0 := hi
          rw [eIn] at hi
          obtain ⟨h2, f2⟩ := h'.sm hi.2.1
          refine gX12_suspect_148 ⟨h2.1.ob, h2.1.a18 (by omega) (by omega), fun z => ?_, fun _ => ?_⟩
          · rw [h2.tk ht1 ht, hn, I_le ⟨by omega, by omega⟩ ⟨by omega, by omega⟩] at z; omega
          have G162 : ∀ q, q ≤ 6 → ∀ σ'', In e q σ'' → GW l mX12_suspect 162 [(0, .inr 82), (1, .inl (I t)), (2, .inl (I d)), (3, .inl (I o)), (4, .inl (I a)), (5, .inl x9), (6, .inl (I j)), (7, .inl (I e)), (8, .inl (I q))] [] σ'' 0 0 (PV K) := by
            refine lp ?_ ?_
            · intro σ'' hi
              refine gX12_suspect_162 ⟨fun _ => ?_, fun z => absurd (by decide) z⟩
              rw [I_1, I_add]
              refine ihe σ'' ?_
              rw [eIn] at hi ⊢
              obtain ⟨i1, i2, i3, i4, i5, x, lo, hi, hx, hr, b2, b3, b4, b5⟩ := hi
              refine ⟨i1, i2, i3, i4, ?_, x, lo, hi, hx, hr, b2, b3, b4, b5.same (fun e' => ?_)⟩
              · rw [i5]
                show _ = I (_ + (sumP (fun e => sumP (fun q => inq v t d o j q e) 6) e + sumP (fun q => inq v t d o j q e) 6) + (0 : Int))
                rw [Int.add_zero, Int.add_assoc]
              · refine ⟨fun ⟨q', z1, z2, z3⟩ => ⟨q', z1, by omega, z3⟩, fun ⟨q', z1, z2, z3⟩ => ⟨q', z1, by omega, z3⟩⟩
            · intro q hq ihq σ'' hi
              rw [eIn] at hi
              obtain ⟨i1, i2, i3, i4, i5, x, lo, hi, hx, hr, b2, b3, b4, b5⟩ := hi
              obtain ⟨h2, f2⟩ := h'.sm i2
              refine gX12_suspect_162 ⟨fun z => ?_, fun _ => ⟨h2.1.ob, ?_⟩⟩
              · rw [L_lit, I_le ⟨by omega, by omega⟩ ⟨by omega, by omega⟩] at z; omega
              rw [(kq_all q hq).1, ← (kq_all q hq).1, (kq_all q hq).2, (kq_all q hq).1, I_1, I_add]
              have L2 : ∀ s', s' < 256 → σ''.2.1 115 s' = I (lyP (fPlay v t d o) (amt (v.2.1 t) (v.2.2.1 5)) zeroP 0 n s') := fun s2 hs2 => by rw [i1.2.2 115 (by decide)]; exact L' s2 hs2
              refine m_isAlike h2 hw ht1 hn hd ho j3 (by omega) (by omega) (by omega) L2 (fun σ2 o2 hal => ⟨fun _ σ5 e5 σ6 e6 => ?_, fun z => absurd z (by decide)⟩) (fun σ2 o2 hal => ⟨fun z => absurd rfl z, fun _ => ?_⟩)
              · have hac : Acq v t d o j q e := hal
                have v57 : σ2.2.1 82 57 = I (non v t d o + sumP (cnj v t d o n) j + sumP (fun e => sumP (fun q => inq v t d o j q e) 6) e + sumP (fun q => inq v t d o j q e) q) := by rw [o2.2.2 82 (by decide)]; exact i5
                rw [v57, I_add] at e5
                have v58 : σ5.2.1 82 58 = I ((Btj v t d o n j + x * 2 ^ j : Nat) : Int) := by rw [e5, w1_k (by omega), o2.2.2 82 (by decide)]; exact b2
                rw [v58, ← I_1, or_bit j j3 _ (Btj_lt j) x hx] at e6
                have o6 : Onl [82, 116, 117, 118] σ'' σ6 := (o2.up (by decide)).tr ((Onl.w e5 (by decide)).tr (Onl.w e6 (by decide)))
                have s6 : MSm σ'' σ6 := (o2.ms (by decide)).tr ((MSm.w82 e5 (by decide)).tr (MSm.w82 e6 (by decide)))
                have M6 := o6.M h2.1
                have v60 : σ6.2.1 (σ6.2.2 82 60) (I (j : Int)).toNatClampNeg = I lo := by rw [M6.k60, I_cln (by omega), e6, w1_r (by omega), e5, w1_r (by omega), o2.2.2 117 (by decide)]; exact b3
                have sadd := b5.add (e0 := e) (S' := Seq v t d o j e (q + 1)) (fun e' ⟨q', z1, z2, z3⟩ => by omega) (fun e' => ⟨fun ⟨q', z1, z2, z3⟩ => by
                    by_cases w : q' = q ∧ e' = e
                    · exact Or.inr w.2
                    · exact Or.inl ⟨q', z1, by omega, z3⟩, fun z => by
                    rcases z with ⟨q', z1, z2, z3⟩ | z
                    · exact ⟨q', z1, by omega, z3⟩
                    · rw [z]; exact ⟨q, hq, by omega, hac⟩⟩)
                have sN : non v t d o + sumP (cnj v t d o n) j + sumP (fun e => sumP (fun q => inq v t d o j q e) 6) e + sumP (fun q => inq v t d o j q e) (q + 1) = non v t d o + sumP (cnj v t d o n) j + sumP (fun e => sumP (fun q => inq v t d o j q e) 6) e + sumP (fun q => inq v t d o j q e) q + 1 := by
                  show _ + (sumP (fun q => inq v t d o j q e) q + inq v t d o j q e) = _
                  rw [show inq v t d o j q e = 1 from cif_t hac]; omega
                rw [v60, I_neg, I_eq' (by omega) (by omega) (by omega) (by omega)]
                refine ⟨M6.a60 (by omega) (by omega), fun z => ⟨M6.a61 (by omega) (by omega), fun σ10 e10 => ?_⟩, fun z σ11 e11 => ?_⟩
                · rw [M6.k61, I_cln (by omega)] at e10
                  refine ihq σ10 ?_
                  rw [eIn]
                  refine ⟨i1.tr (o6.tr (Onl.w e10 (by decide))), i2.tr (s6.tr (MSm.w e10 (by omega))), fun j' hj' => ?_, ?_, ?_, 1, lo, e, by omega, by omega, ?_, ?_, ?_, sadd.2 z⟩
                  · rw [e10, w1_r (by omega), w1_k hj', e6, w1_r (by omega), w1_r (by omega), e5, w1_r (by omega), w1_r (by omega), o2.2.2 117 (by decide), o2.2.2 118 (by decide)]; exact i3 j' hj'
                  · rw [e10, w1_r (by omega), e6, w1_k (by omega), e5, w1_k (by omega), o2.2.2 82 (by decide)]; exact i4
                  · rw [e10, w1_r (by omega), e6, w1_k (by omega), e5, w1_at, sN]
                  · rw [e10, w1_r (by omega), e6, w1_at, Nat.one_mul]
                  · rw [e10, w1_r (by omega), e6, w1_r (by omega), e5, w1_r (by omega), o2.2.2 117 (by decide)]; exact b3
                  · rw [e10, w1_at]
                · rw [M6.k60, I_cln (by omega)] at e11
                  have o11 : Onl [82, 116, 117, 118] σ'' σ11 := o6.tr (Onl.w e11 (by decide))
                  have M11 := o11.M h2.1
                  refine ⟨M11.a61 (by omega) (by omega), fun σ13 e13 => ?_⟩
                  rw [M11.k61, I_cln (by omega)] at e13
                  refine ihq σ13 ?_
                  rw [eIn]
                  refine ⟨i1.tr (o11.tr (Onl.w e13 (by decide))), i2.tr (s6.tr ((MSm.w e11 (by omega)).tr (MSm.w e13 (by omega)))), fun j' hj' => ?_, ?_, ?_, 1, e, e, by omega, by omega, ?_, ?_, ?_, sadd.1 z⟩
                  · rw [e13, w1_r (by omega), w1_k hj', e11, w1_k hj', w1_r (by omega), e6, w1_r (by omega), w1_r (by omega), e5, w1_r (by omega), w1_r (by omega), o2.2.2 117 (by decide), o2.2.2 118 (by decide)]; exact i3 j' hj'
                  · rw [e13, w1_r (by omega), e11, w1_r (by omega), e6, w1_k (by omega), e5, w1_k (by omega), o2.2.2 82 (by decide)]; exact i4
                  · rw [e13, w1_r (by omega), e11, w1_r (by omega), e6, w1_k (by omega), e5, w1_at, sN]
                  · rw [e13, w1_r (by omega), e11, w1_r (by omega), e6, w1_at, Nat.one_mul]
                  · rw [e13, w1_r (by omega), e11, w1_at]
                  · rw [e13, w1_at]
              · have hac : ¬ Acq v t d o j q e := hal
                refine ihq σ2 ?_
                rw [eIn]
                refine ⟨i1.tr (o2.up (by decide)), i2.tr (o2.ms (by decide)), fun j' hj' => by rw [o2.2.2 117 (by decide), o2.2.2 118 (by decide)]; exact i3 j' hj', by rw [o2.2.2 82 (by decide)]; exact i4, ?_, x, lo, hi, hx, hr, by rw [o2.2.2 82 (by decide)]; exact b2, by rw [o2.2.2 117 (by decide)]; exact b3, by rw [o2.2.2 118 (by decide)]; exact b4, b5.same (fun e' => ?_)⟩
                · rw [o2.2.2 82 (by decide), i5]
                  show _ = I (_ + (sumP (fun q => inq v t d o j q e) q + inq v t d o j q e))
                  rw [show inq v t d o j q e = 0 from cif_f hac, Int.add_zero]
                · refine ⟨fun ⟨q', z1, z2, z3⟩ => ⟨q', z1, ?_, z3⟩, fun ⟨q', z1, z2, z3⟩ => ⟨q', z1, by omega, z3⟩⟩
                  by_cases w : q' = q ∧ e' = e
                  · rw [w.1, w.2] at z3; exact absurd z3 hac
                  · omega
          exact G162 0 (by omega) σ'' hi0
      refine G148 0 (by omega) σ7 ?_
      rw [eIn]
      refine ⟨o5.tr (Onl.w e7 (by decide)), (MSm.w e5 (by omega)).tr (MSm.w e7 (by omega)), fun j' hj' => ?_, ?_, ?_, 0, -1, -1, by omega, by omega, ?_, ?_, ?_, Or.inl ⟨rfl, fun e ⟨q', z1, z2, z3⟩ => by omega, rfl, rfl⟩⟩
      · rw [e7, w1_r (by omega), w1_k hj', e5, w1_k hj', w1_r (by omega)]; exact ⟨rfl, rfl⟩
      · rw [e7, w1_r (by omega), e5, w1_r (by omega)]
      · rw [e7, w1_r (by omega), e5, w1_r (by omega), F'.1]; show _ = I (_ + (0 : Int) + (0 : Int)); rw [Int.add_zero, Int.add_zero]
      · rw [e7, w1_r (by omega), e5, w1_r (by omega), Nat.zero_mul, Nat.add_zero]; exact F'.2.1
      · rw [e7, w1_r (by omega), e5, w1_at]; rfl
      · rw [e7, w1_at]; rfl
  have st : ∀ (x : Int) σ11, x = non v t d o → Onl [116] σ9 σ11 → GW l mX12_suspect 90 [(0, .inr 82), (1, .inl (I t)), (2, .inl (I d)), (3, .inl (I o)), (4, .inl (I a)), (5, .inl x9)] [.inl (I x), .inr 82] σ11 0 0 (PV K) := by
    intro x σ11 ex o11
    have x01 : x = 0 ∨ x = 1 := by rw [ex]; exact non_01
    have s11 : MSm σ σ11 := (o9'.ms (by decide)).tr (o11.ms (by decide))
    obtain ⟨h11, f11⟩ := h.sm s11
    have L11 : ∀ s', s' < 256 → σ11.2.1 115 s' = I (lyP (fPlay v t d o) (amt (v.2.1 t) (v.2.2.1 5)) zeroP 0 n s') := fun s' hs' => by rw [o11.2.2 115 (by decide)]; exact z9 s' hs'
    refine gX12_suspect_90 ⟨h11.1.ob, ?_, fun σ13 e13 => ⟨?_, ?_⟩⟩
    · rcases x01 with z | z
      · rw [z]; exact Or.inl rfl
      · rw [z]; exact Or.inr rfl
    · rw [show (Ob σ13 82 12) = Ob σ11 82 12 by rw [e13]; rfl]; exact h11.1.ob
    have v59 : σ13.2.1 82 59 = I x := by rw [e13, w1_at]
    have go : ∀ σ6 σ7, σ6 = w1 σ13 82 57 (I x) → σ7 = w1 σ6 82 58 (I 0) → GW l mX12_suspect 117 [(0, .inr 82), (1, .inl (I t)), (2, .inl (I d)), (3, .inl (I o)), (4, .inl (I a)), (5, .inl x9), (6, .inl (I 0))] [] σ7 0 0 (PV K) := by
      intro σ6 σ7 e6 e7
      refine F 0 (by omega) σ7 (s11.tr ((MSm.w82 e13 (by decide)).tr ((MSm.w82 e6 (by decide)).tr (MSm.w82 e7 (by decide))))) (fun s' hs' => by rw [e7, w1_r (by omega), e6, w1_r (by omega), e13, w1_r (by omega)]; exact L11 s' hs') ⟨?_, ?_, ?_, fun j' hj' => absurd hj' (by omega)⟩
      · rw [e7, w1_k (by omega), e6, w1_at, ex]; show _ = I (_ + (0 : Int)); rw [Int.add_zero]
      · rw [e7, w1_at]; rfl
      · rw [e7, w1_k (by omega), e6, w1_k (by omega), e13, w1_at, ex]
    rw [v59, I_0, I_eq' (by omega) (by omega) (by omega) (by omega)]
    refine ⟨fun z σ6 e6 σ7 e7 => go σ6 σ7 (by rw [z]; exact e6) e7, fun z σ6 e6 σ7 e7 => go σ6 σ7 (by rw [show x = 1 by omega]; exact e6) e7⟩
  rw [← ex9]
  refine ⟨fun z => ?_, fun _ => ?_⟩
  · rw [ex9, I_0, I_lt ⟨by omega, by omega⟩ ⟨by omega, by omega⟩] at z; omega
  · refine m_isAlike (j := 0) (k := 0) (s := 0) (e := 0) h9 hw ht1 hn hd ho (by omega) (by omega) (by omega) (Or.inl rfl) z9 (fun σ11 o11 hal => ⟨fun z => absurd z (by decide), fun _ => st 1 σ11 (cif_t hal).symm o11⟩) (fun σ11 o11 hal => ⟨fun _ => st 0 σ11 (cif_f hal).symm o11, fun z => absurd rfl z⟩)
theorem M_suspects {z d o w : Int} (h : MR σ v) (hw : WF c v) (hz : Rg z) (hd : Rg d) (ho : Rg o) (hr : Rg w) : Con l mX12_suspects [.inr 82, .inl (I z), .inl (I d), .inl (I o), .inl (I w)] σ (PI fun x σ' => x = I (aSus v z d o w) ∧ MR σ' v ∧ MF σ σ') := by
  have w1' := hr.1; have w2' := hr.2
  refine eX12_suspects ⟨h.1.ob, fun σ2 e2 => ?_⟩
  obtain ⟨h, f⟩ := h.w e2 (by decide)
  have no : ∀ {q : Int32}, q = -2 → ¬ okSus v z d o w → q = I (aSus v z d o w) ∧ MR σ2 v ∧ MF σ σ2 := by
    intro q e hq
    unfold aSus; rw [cif_f hq]; exact ⟨e, h, f⟩
  refine h.isTape hw hz (fun t et ht1 ht => ⟨fun q => absurd q (by decide), fun _ => ?_⟩) (fun q => ⟨fun _ => no rfl (fun y => q y.1.1), fun q => absurd rfl q⟩)
  refine m_isDrift hd (fun b1 => ⟨fun q => absurd q (by decide), fun _ => ?_⟩) (fun q => ⟨fun _ => no rfl (fun y => q y.1.2.1), fun q => absurd rfl q⟩)
  refine m_isOffset ho (fun b2 => ⟨fun q => absurd q (by decide), fun _ => ?_⟩) (fun q => ⟨fun _ => no rfl (fun y => q y.1.2.2), fun q => absurd rfl q⟩)
  rw [I_0, I_lt' (by omega) (by omega) (by omega) (by omega), show (5 : Int32) = I 5 from rfl, I_le' (by omega) (by omega) (by omega) (by omega)]
  refine ⟨fun q => no rfl (fun y => by have := y.2; omega), fun q => ⟨fun q2 => ?_, fun q2 => no rfl (fun y => by have := y.2; omega)⟩⟩
  have okA : okSus v z d o w := ⟨⟨⟨by omega, by omega⟩, b1, b2⟩, by omega, by omega⟩
  have hg := hw.2.2.2.1 t ht1
  have hw0 := hw.1
  obtain ⟨a, ea⟩ : ∃ a : Nat, v.2.1 t 0 0 = a := ⟨(v.2.1 t 0 0).toNat, by omega⟩
  obtain ⟨n, hn⟩ : ∃ n : Nat, v.2.1 t 0 1 = n := ⟨(v.2.1 t 0 1).toNat, by omega⟩
  have wa := (hw.2.2.1 a (by omega)).1.1
  have hj1 : 1 ≤ v.1 a 0 2 := by have := hg.2.2.1; rw [ea, I_tn] at this; exact this
  obtain ⟨J, hJ⟩ : ∃ J : Nat, v.1 a 0 2 = J := ⟨(v.1 a 0 2).toNat, by omega⟩
  subst et
  refine m_suspect h hw ht1 ea hn hJ b1 b2 (fun σ11 s11 F11 => ?_)
  obtain ⟨h11, f11⟩ := h.sm s11
  obtain ⟨F1, F2, F3, F4⟩ := F11
  have nn := non_01 (v := v) (t := t) (d := d) (o := o)
  have b8 := pw3 (show J ≤ 3 by omega) _ (Btj_lt (v := v) (t := t) (d := d) (o := o) (n := n) J)
  have hwi : (I w).toInt = w := toInt_I (by omega) (by omega)
  have eA : aSus v t d o w = tel v t d o n J w := by
    unfold aSus; rw [cif_t okA, I_tn, hn, I_tn, ea, I_tn, hJ, I_tn]
  have hK : I (tel v t d o n J w) = I (aSus v t d o w) ∧ MR σ11 v ∧ MF σ σ11 := ⟨by rw [eA], h11, f.tr f11⟩
  rw [eA]
  rw [eA] at hK
  have N : ¬ sure v t d o n J → GW l mX12_suspects 84 [(0, .inr 82), (1, .inl (I t)), (2, .inl (I d)), (3, .inl (I o)), (4, .inl (I w))] [.inl 0] σ11 0 0 (PI fun x σ' => x = I (tel v t d o n J w) ∧ MR σ' v ∧ MF σ σ') := by
    intro hs
    refine gX12_suspects_84 ⟨h11.1.ob, ?_⟩
    rw [hwi, F1, F2, F3]
    refine ⟨fun q => ⟨fun _ => ⟨?_, h11, f.tr f11⟩, fun z => absurd rfl z⟩, fun q => ⟨?_, h11, f.tr f11⟩, fun q => ⟨?_, h11, f.tr f11⟩, fun q => ⟨fun z => ⟨?_, h11, f.tr f11⟩, fun z => ⟨?_, h11, f.tr f11⟩⟩, fun q => ⟨fun _ => ⟨?_, h11, f.tr f11⟩, fun z => absurd rfl z⟩, fun q => ⟨fun _ => ⟨?_, h11, f.tr f11⟩, fun z => absurd rfl z⟩⟩
    · unfold tel; rw [if_neg (by omega), if_neg (by omega), if_neg (by omega), cif_f hs]; rfl
    · unfold tel; rw [if_pos q]
    · unfold tel; rw [if_neg (by omega), if_pos q]
    · unfold tel; rw [if_neg (by omega), if_neg (by omega), if_pos q]
      rw [I_0, I_eq ⟨by omega, by omega⟩ ⟨by omega, by omega⟩] at z
      rw [z]; rfl
    · unfold tel; rw [if_neg (by omega), if_neg (by omega), if_pos q]
      rw [I_0, I_eq ⟨by omega, by omega⟩ ⟨by omega, by omega⟩] at z
      rw [show non v t d o = 1 by omega]; rfl
    · unfold tel; rw [if_neg (by omega), if_neg (by omega), if_neg (by omega), cif_f hs]; rfl
    · unfold tel; rw [if_neg (by omega), if_neg (by omega), if_neg (by omega), cif_f hs]; rfl
  have Y : sure v t d o n J → GW l mX12_suspects 84 [(0, .inr 82), (1, .inl (I t)), (2, .inl (I d)), (3, .inl (I o)), (4, .inl (I w))] [.inl 1] σ11 0 0 (PI fun x σ' => x = I (tel v t d o n J w) ∧ MR σ' v ∧ MF σ σ') := by
    intro hs
    obtain ⟨s1, s2⟩ := sure_j (show J ≤ 3 by omega) hs.2
    obtain ⟨lo, hi, y1, y2, y3, y4⟩ := F4 _ s1 s2
    have l1 : σ11.2.1 (σ11.2.2 82 60) (I ((Btj v t d o n J / 2 : Nat) : Int)).toNatClampNeg = I (loE v t d o n (Btj v t d o n J / 2)) := by rw [h11.1.k60, I_cln (by omega), y1, loE_eq y3]
    have l2 : σ11.2.1 (σ11.2.2 82 61) (I ((Btj v t d o n J / 2 : Nat) : Int)).toNatClampNeg = I (hiE v t d o n (Btj v t d o n J / 2)) := by rw [h11.1.k61, I_cln (by omega), y2, hiE_eq y4]
    refine gX12_suspects_84 ⟨h11.1.ob, ?_⟩
    rw [hwi, F1, F2, F3, div_8 _ b8, l1, l2]
    refine ⟨fun q => ⟨fun z => absurd z (by decide), fun _ => ⟨h11.1.a61 (by omega) (by omega), ?_, h11, f.tr f11⟩⟩, fun q => ⟨?_, h11, f.tr f11⟩, fun q => ⟨?_, h11, f.tr f11⟩, fun q => ⟨fun z => ⟨?_, h11, f.tr f11⟩, fun z => ⟨?_, h11, f.tr f11⟩⟩, fun q => ⟨fun z => absurd z (by decide), fun _ => ⟨?_, h11, f.tr f11⟩⟩, fun q => ⟨fun z => absurd z (by decide), fun _ => ⟨h11.1.a60 (by omega) (by omega), ?_, h11, f.tr f11⟩⟩⟩
    · unfold tel; rw [if_neg (by omega), if_neg (by omega), if_neg (by omega), cif_t hs, if_neg (by omega), if_neg (by omega)]
    · unfold tel; rw [if_pos q]
    · unfold tel; rw [if_neg (by omega), if_pos q]
    · unfold tel; rw [if_neg (by omega), if_neg (by omega), if_pos q]
      rw [I_0, I_eq ⟨by omega, by omega⟩ ⟨by omega, by omega⟩] at z
      rw [z]; rfl
    · unfold tel; rw [if_neg (by omega), if_neg (by omega), if_pos q]
      rw [I_0, I_eq ⟨by omega, by omega⟩ ⟨by omega, by omega⟩] at z
      rw [show non v t d o = 1 by omega]; rfl
    · unfold tel; rw [if_neg (by omega), if_neg (by omega), if_neg (by omega), cif_t hs, if_pos q]
    · unfold tel; rw [if_neg (by omega), if_neg (by omega), if_neg (by omega), cif_t hs, if_neg (by omega), if_pos q]
  rw [F2, F3]
  rw [I_eq' (b := 0) (by omega) (by omega) (by omega) (by omega), I_1, show (2 : Int32) = I 2 from rfl, show (4 : Int32) = I 4 from rfl, I_eq' (b := 1) (by omega) (by omega) (by omega) (by omega), I_eq' (b := 2) (by omega) (by omega) (by omega) (by omega), I_eq' (b := 4) (by omega) (by omega) (by omega) (by omega)]
  refine ⟨fun q => N (fun y => q y.1), fun q => ⟨fun q1 => Y ⟨q, by omega⟩, fun q1 => ⟨fun q2 => Y ⟨q, by omega⟩, fun q2 => ⟨fun q3 => N (fun y => by have := y.2; omega), fun q3 => Y ⟨q, by omega⟩⟩⟩⟩⟩
end SUS4
