/-! public methods, 6: paint, clean, thick, count -/
section P7
variable {l : Launch} {σ σ' : Sg} {v v' : Vt} {c : Nat}
theorem q_spotAt {x y : Int} {K : Int32 → Sg → Prop} (hx : Rg x) (hy : Rg y) (h1 : (0 ≤ x ∧ x ≤ 15) → (0 ≤ y ∧ y ≤ 15) → K (I (16 * y + x)) σ) (h0 : ¬ ((0 ≤ x ∧ x ≤ 15) ∧ (0 ≤ y ∧ y ≤ 15)) → K (-1) σ) : Con l mX2_spotAt [.inl (I x), .inl (I y)] σ (PI K) := by
  refine eX2_spotAt (q_within (b := 0) (c := 15) hx ⟨by omega, by omega⟩ ⟨by omega, by omega⟩ (fun a b => ⟨fun q => absurd q (by decide), fun _ => ?_⟩) (fun q => ⟨fun _ => h0 (fun z => q z.1), fun q => absurd rfl q⟩))
  refine q_within (b := 0) (c := 15) hy ⟨by omega, by omega⟩ ⟨by omega, by omega⟩ (fun a2 b2 => ⟨fun q => absurd q (by decide), fun _ => ?_⟩) (fun q => ⟨fun _ => h0 (fun z => q z.2), fun q => absurd rfl q⟩)
  rw [L_lit, I_mul, I_add, show y * 16 + x = 16 * y + x by omega]
  exact h1 ⟨a, b⟩ ⟨a2, b2⟩
theorem q_paintOn {s : Int} {P : Nat → Int} {K : Int32 → Sg → Prop} (hC : Cp σ) (hP : ∀ s, s < 256 → σ.2.1 58 s = I (P s)) (hs : Rg s) (h1 : (0 ≤ s ∧ s < 256) → K (I (P s.toNat)) σ) (h0 : ¬ (0 ≤ s ∧ s < 256) → K (-1) σ) : Con l mX2_paintOn [.inr 57, .inl (I s)] σ (PI K) := by
  have a := hs.1; have b := hs.2
  refine eX2_paintOn ?_
  simp (disch := omega) only [L_lit, I_lt', I_le']
  refine ⟨fun q => h0 (by omega), fun q => ⟨fun q2 => h0 (by omega), fun q2 => ⟨hC.o57, hC.a57_0 (by omega) (by omega), ?_⟩⟩⟩
  rw [hC.d57_0 (by omega) (by omega), hP _ (by omega)]
  exact h1 (by omega)
noncomputable def aPaint (v : Vt) (x y : Int) : Int := cif ((0 ≤ x ∧ x ≤ 15) ∧ (0 ≤ y ∧ y ≤ 15)) (v.2.2.2 1 (16 * y + x).toNat) (-1)
theorem C_paint {x y : Int} (h : CR σ v) (hx : Rg x) (hy : Rg y) : Con l mX11_paint [.inr 1, .inl (I x), .inl (I y)] σ (PI fun q σ' => q = I (aPaint v x y) ∧ CR σ' v ∧ CF σ σ') := by
  refine eX11_paint ⟨h.1.o1, q_spotAt hx hy (fun a b => ⟨by rw [h.1.p1_3]; exact h.1.o57, ?_⟩) (fun q => ⟨by rw [h.1.p1_3]; exact h.1.o57, ?_⟩)⟩
  · rw [h.1.p1_3]
    refine q_paintOn (P := v.2.2.2 1) h.1 h.2.2.2.2.2.1 ⟨by omega, by omega⟩ (fun _ => ⟨?_, h, CF.rf _⟩) (fun q => absurd (by omega) q)
    unfold aPaint; rw [cif_t ⟨a, b⟩]
  · rw [h.1.p1_3, I_m1]
    refine q_paintOn (P := v.2.2.2 1) h.1 h.2.2.2.2.2.1 ⟨by omega, by omega⟩ (fun q => absurd q (by omega)) (fun _ => ⟨?_, h, CF.rf _⟩)
    unfold aPaint; rw [cif_f q]; rfl
theorem ix16 {x y : Int} : (16 * I y) + I x = I (16 * y + x) := by rw [L_lit, I_mul, I_add]
theorem MR.pt (h : MR σ v) {s : Int} (h0 : 0 ≤ s) (h1 : s < 256) : σ.2.1 (σ.2.2 82 38) (I s).toNatClampNeg = I (v.2.2.2 1 s.toNat) := by rw [h.1.d38 h0 h1]; exact h.2.2.2.2.1 _ (by omega)
theorem M_paint {x y : Int} (h : MR σ v) (hx : Rg x) (hy : Rg y) : Con l mX12_paint [.inr 82, .inl (I x), .inl (I y)] σ (PI fun q σ' => q = I (aPaint v x y) ∧ MR σ' v ∧ MF σ σ') := by
  refine eX12_paint ⟨h.1.ob, fun σ2 e2 => ?_⟩
  obtain ⟨h, f⟩ := h.w e2 (by decide)
  have no : ∀ {q : Int32}, q = -1 → ¬ ((0 ≤ x ∧ x ≤ 15) ∧ (0 ≤ y ∧ y ≤ 15)) → q = I (aPaint v x y) ∧ MR σ2 v ∧ MF σ σ2 := by
    intro q e hq
    unfold aPaint; rw [cif_f hq]; exact ⟨e, h, f⟩
  refine q_in (b := 0) (c := 15) hx ⟨by omega, by omega⟩ ⟨by omega, by omega⟩ (fun a b => ⟨fun q => absurd q (by decide), fun _ => ?_⟩) (fun q => ⟨fun _ => no rfl (fun z => q z.1), fun q => absurd rfl q⟩)
  refine q_in (b := 0) (c := 15) hy ⟨by omega, by omega⟩ ⟨by omega, by omega⟩ (fun a2 b2 => ⟨fun q => absurd q (by decide), fun _ => ?_⟩) (fun q => ⟨fun _ => no rfl (fun z => q z.2), fun q => absurd rfl q⟩)
  rw [ix16, h.pt (by omega) (by omega)]
  refine ⟨h.1.a38 (by omega) (by omega), ?_, h, f⟩
  unfold aPaint; rw [cif_t ⟨⟨a, b⟩, a2, b2⟩]
/-! painted, clean -/
def cntP (P : Nat → Int) : Nat → Int
  | 0 => 0
  | n + 1 => cntP P n + if P n ≤ 0 then 0 else 1
theorem q_painted {P : Nat → Int} {K : Int32 → Sg → Prop} (hC : Cp σ) (hP : ∀ s, s < 256 → σ.2.1 58 s = I (P s)) (hb : ∀ s, s < 256 → Rg (P s)) (h : K (I (cntP P 256)) σ) : Con l mX2_painted [.inr 57] σ (PI K) := by
  have F : ∀ n j : Nat, j + n = 256 → GW l mX2_painted 4 [(0, .inr 57), (1, .inl (I (cntP P j))), (2, .inl (I j))] [] σ 0 0 (PI K) := by
    intro n
    induction n with
    | zero =>
      intro j hj
      have : j = 256 := by omega
      subst this
      refine gX2_painted_4 ⟨fun _ => h, fun q => absurd ?_ q⟩
      rw [L_lit]; exact (I_le ⟨by omega, by omega⟩ ⟨by omega, by omega⟩).mpr (by omega)
    | succ n ih =>
      intro j hj
      have hbj := hb j (by omega)
      refine gX2_painted_4 ⟨fun q => ?_, fun _ => ⟨hC.o57, hC.a57_0 (by omega) (by omega), ?_⟩⟩
      · rw [L_lit, I_le ⟨by omega, by omega⟩ ⟨by omega, by omega⟩] at q; omega
      · rw [hC.d57_0 (by omega) (by omega), I_tn, hP j (by omega), I_0, I_le' hbj.1 hbj.2 (by omega) (by omega), I_1, I_add, I_add, I_add]
        have nx := ih (j + 1) (by omega)
        simp only [cntP] at nx
        refine ⟨fun q => ?_, fun q => ?_⟩
        · rw [if_pos q] at nx; exact nx
        · rw [if_neg q] at nx; exact nx
  exact eX2_painted (F 256 0 (by omega))
theorem m_painted {K : Int32 → Sg → Prop} (h : MR σ v) (hb : ∀ s, s < 256 → Rg (v.2.2.2 1 s)) (hK : K (I (cntP (v.2.2.2 1) 256)) σ) : Con l mX12_painted [.inr 82] σ (PI K) := by
  have hal : Al σ (σ.2.2 82 38) := by rw [h.1.k38]; exact ⟨by decide, by decide, Nat.le_trans (by decide) h.1.1⟩
  have hln : Int32.ofNat (shp (σ.2.2 82 38)).2 = I 256 := by rw [h.1.k38]; rfl
  have F : ∀ n j : Nat, j + n = 256 → GW l mX12_painted 4 [(0, .inr 82), (1, .inl (I (cntP (v.2.2.2 1) j))), (2, .inl (I j))] [] σ 0 0 (PI K) := by
    intro n
    induction n with
    | zero =>
      intro j hj
      have : j = 256 := by omega
      subst this
      refine gX12_painted_4 ⟨h.1.ob, hal, fun _ => hK, fun q => absurd ?_ q⟩
      rw [hln]; exact (I_le ⟨by omega, by omega⟩ ⟨by omega, by omega⟩).mpr (by omega)
    | succ n ih =>
      intro j hj
      have hbj := hb j (by omega)
      refine gX12_painted_4 ⟨h.1.ob, hal, fun q => ?_, fun _ => ⟨h.1.a38 (by omega) (by omega), ?_⟩⟩
      · rw [hln, I_le ⟨by omega, by omega⟩ ⟨by omega, by omega⟩] at q; omega
      · rw [h.pt (by omega) (by omega), I_tn, I_0, I_le' hbj.1 hbj.2 (by omega) (by omega), I_1, I_add, I_add, I_add]
        have nx := ih (j + 1) (by omega)
        simp only [cntP] at nx
        refine ⟨fun q => ?_, fun q => ?_⟩
        · rw [if_pos q] at nx; exact nx
        · rw [if_neg q] at nx; exact nx
  exact eX12_painted (F 256 0 (by omega))
theorem WF.pb (hw : WF c v) : ∀ s, s < 256 → Rg (v.2.2.2 1 s) := fun s hs => by
  have := hw.2.2.2.2.2.1 s hs
  have := hw.2.2.2.2.2.2
  exact ⟨by omega, by omega⟩
/-- a row of ints is emptied: what the two loops do -/
theorem q_wash {K : Sg → Prop} (hC : Cp σ) (h : ∀ σ', σ'.1 = σ.1 → σ'.2.2 = σ.2.2 → (∀ r, r ≠ 58 → σ'.2.1 r = σ.2.1 r) → (∀ s, s < 256 → σ'.2.1 58 s = I 0) → K σ') : Con l mX2_wash [.inr 57] σ (PV K) := by
  have F : ∀ n j : Nat, j + n = 256 → ∀ τ : Sg, τ.1 = σ.1 → τ.2.2 = σ.2.2 → (∀ r, r ≠ 58 → τ.2.1 r = σ.2.1 r) → (∀ s, s < j → τ.2.1 58 s = I 0) → GW l mX2_wash 2 [(0, .inr 57), (1, .inl (I j))] [] τ 0 0 (PV K) := by
    intro n
    induction n with
    | zero =>
      intro j hj τ t1 t2 t3 t4
      have : j = 256 := by omega
      subst this
      refine gX2_wash_2 ⟨fun _ => h τ t1 t2 t3 t4, fun q => absurd ?_ q⟩
      rw [L_lit]; exact (I_le ⟨by omega, by omega⟩ ⟨by omega, by omega⟩).mpr (by omega)
    | succ n ih =>
      intro j hj τ t1 t2 t3 t4
      have hC' : Cp τ := ⟨by rw [t1]; exact hC.1, by rw [t2]; exact hC.2⟩
      refine gX2_wash_2 ⟨fun q => ?_, fun _ => ⟨hC'.o57, hC'.a57_0 (by omega) (by omega), fun σ4 e4 => ?_⟩⟩
      · rw [L_lit, I_le ⟨by omega, by omega⟩ ⟨by omega, by omega⟩] at q; omega
      · rw [hC'.p57_0, I_cln (by omega)] at e4
        rw [I_1, I_add]
        refine ih (j + 1) (by omega) σ4 (by rw [e4]; exact t1) (by rw [e4]; exact t2) (fun r hr => by rw [e4, w1_r hr]; exact t3 r hr) (fun s hs => ?_)
        rw [e4]
        by_cases es : s = j
        · subst es; rw [w1_at]; rfl
        · rw [w1_k es]; exact t4 s (by omega)
  exact eX2_wash (F 256 0 (by omega) σ rfl rfl (fun _ _ => rfl) (fun s hs => absurd hs (by omega)))
theorem m_empties {K : Sg → Prop} {r n : Nat} (hs : shp r = (13, n)) (hr : r ≠ 0) (hle : r ≤ σ.1) (hn : n < 2147483648) (h : ∀ σ', σ'.1 = σ.1 → σ'.2.2 = σ.2.2 → (∀ q, q ≠ r → σ'.2.1 q = σ.2.1 q) → (∀ s, s < n → σ'.2.1 r s = I 0) → K σ') : Con l mX12_empties [.inr r] σ (PV K) := by
  have hln : Int32.ofNat (shp r).2 = I n := by rw [hs]; rfl
  have F : ∀ m j : Nat, j + m = n → ∀ τ : Sg, τ.1 = σ.1 → τ.2.2 = σ.2.2 → (∀ q, q ≠ r → τ.2.1 q = σ.2.1 q) → (∀ s, s < j → τ.2.1 r s = I 0) → GW l mX12_empties 2 [(0, .inr r), (1, .inl (I j))] [] τ 0 0 (PV K) := by
    intro m
    induction m with
    | zero =>
      intro j hj τ t1 t2 t3 t4
      have : j = n := by omega
      subst this
      refine gX12_empties_2 ⟨⟨hr, Or.inl (by rw [hs]), by rw [t1]; exact hle⟩, fun _ => h τ t1 t2 t3 t4, fun q => absurd ?_ q⟩
      rw [hln]; exact (I_le ⟨by omega, by omega⟩ ⟨by omega, by omega⟩).mpr (by omega)
    | succ m ih =>
      intro j hj τ t1 t2 t3 t4
      refine gX12_empties_2 ⟨⟨hr, Or.inl (by rw [hs]), by rw [t1]; exact hle⟩, fun q => ?_, fun _ => ⟨ai_of hs hr (by rw [t1]; exact hle) (by omega) (by omega) hn, fun σ4 e4 => ?_⟩⟩
      · rw [hln, I_le ⟨by omega, by omega⟩ ⟨by omega, by omega⟩] at q; omega
      · rw [I_cln (by omega)] at e4
        rw [I_1, I_add]
        refine ih (j + 1) (by omega) σ4 (by rw [e4]; exact t1) (by rw [e4]; exact t2) (fun q hq => by rw [e4, w1_r hq]; exact t3 q hq) (fun s hs => ?_)
        rw [e4]
        by_cases es : s = j
        · subst es; rw [w1_at]; rfl
        · rw [w1_k es]; exact t4 s (by omega)
  exact eX12_empties (F n 0 (by omega) σ rfl rfl (fun _ _ => rfl) (fun s hs => absurd hs (by omega)))
def setP (v : Vt) (P : Nat → Int) : Vt := (v.1, v.2.1, v.2.2.1, fun q i => if q = 1 then P i else v.2.2.2 q i)
theorem CR.paintOnly {P : Nat → Int} (h : CR σ v) (h10 : v.2.2.1 1 ≤ 10) (hn : σ'.1 = σ.1) (h2 : σ'.2.2 = σ.2.2) (E : ∀ r, r ≠ 58 → r ≠ 59 → ¬ (60 ≤ r ∧ r ≤ 68) → r ≠ 57 → σ'.2.1 r = σ.2.1 r) (hP : ∀ s, s < 256 → σ'.2.1 58 s = I (P s)) : CR σ' (setP v P) ∧ CF σ σ' := by
  have E2 : ∀ r, r ≠ 58 → r ≠ 59 → ¬ (60 ≤ r ∧ r ≤ 68) → r ≠ 57 → Eqc σ σ' r := fun r a b c d => ⟨E r a b c d, by rw [h2]⟩
  have hp := h.2.2.2.2.2
  refine ⟨h.mk2 hn h2 (h.2.2.1.eq (Nat.le_of_eq hn.symm) (by rw [E 2 (by omega) (by omega) (by omega) (by omega)]) (fun r a b => E2 r (by omega) (by omega) (by omega) (by omega)) rfl rfl) (h.2.2.2.1.eq (Nat.le_of_eq hn.symm) (by rw [E 2 (by omega) (by omega) (by omega) (by omega)]) (by rw [E 2 (by omega) (by omega) (by omega) (by omega)]) (fun r a b => E2 r (by omega) (by omega) (by omega) (by omega)) (by rw [h2]) (by rw [h2]) rfl rfl h10) (h.2.2.2.2.1.eq (by rw [E 45 (by omega) (by omega) (by omega) (by omega)]) (E 46 (by omega) (by omega) (by omega) (by omega)) (by rw [E 50 (by omega) (by omega) (by omega) (by omega)]) (by rw [E 50 (by omega) (by omega) (by omega) (by omega)]) rfl rfl rfl rfl) ⟨hP, by rw [E 1 (by omega) (by omega) (by omega) (by omega)]; exact hp.2.1, by rw [E 1 (by omega) (by omega) (by omega) (by omega)]; exact hp.2.2.1, by rw [E 1 (by omega) (by omega) (by omega) (by omega)]; exact hp.2.2.2.1, by rw [E 69 (by omega) (by omega) (by omega) (by omega)]; exact hp.2.2.2.2.1, fun k hk => by rw [E 73 (by omega) (by omega) (by omega) (by omega)]; exact hp.2.2.2.2.2 k hk⟩, ⟨Nat.le_of_eq hn.symm, fun r a b => E2 r (by omega) (by omega) (by omega) (by omega)⟩⟩
theorem MR.paintOnly {P : Nat → Int} (h : MR σ v) (hn : σ'.1 = σ.1) (h2 : σ'.2.2 = σ.2.2) (E : ∀ r, r ≠ 104 → σ'.2.1 r = σ.2.1 r) (hP : ∀ s, s < 256 → σ'.2.1 104 s = I (P s)) : MR σ' (setP v P) ∧ MF σ σ' := by
  have hp := h.2.2.2.2
  refine ⟨h.mk2 hn h2 ⟨by rw [E 82 (by omega)]; exact h.2.1.1, h.2.1.2.eq (fun r a b => E r (by omega))⟩ (h.2.2.1.eq (by rw [E 82 (by omega)]) (fun r a b => E r (by omega)) rfl rfl) (h.2.2.2.1.eq (by rw [E 82 (by omega)]) (E 83 (by omega)) (by rw [E 82 (by omega)]) (by rw [E 82 (by omega)]) rfl rfl rfl rfl) ⟨hP, by rw [E 82 (by omega)]; exact hp.2.1, by rw [E 82 (by omega)]; exact hp.2.2.1, by rw [E 82 (by omega)]; exact hp.2.2.2.1, by rw [E 82 (by omega)]; exact hp.2.2.2.2.1, fun k hk => by rw [E 109 (by omega)]; exact hp.2.2.2.2.2 k hk⟩, ⟨hn, fun r a => ⟨E r (by omega), by rw [h2]⟩⟩⟩
theorem C_clean (h : CR σ v) (hw : WF c v) : Con l mX11_clean [.inr 1] σ (PI fun q σ' => q = I (cntP (v.2.2.2 1) 256) ∧ CR σ' (setP v (fun _ => 0)) ∧ CF σ σ') := by
  have hw0 := hw.1
  refine eX11_clean ⟨h.1.o1, by rw [h.1.p1_3]; exact h.1.o57, ?_⟩
  rw [h.1.p1_3]
  refine q_painted h.1 h.2.2.2.2.2.1 hw.pb ⟨by rw [h.1.p1_3]; exact h.1.o57, ?_⟩
  rw [h.1.p1_3]
  exact q_wash h.1 (fun σ' a b c d => ⟨rfl, h.paintOnly (by omega) a b (fun r x _ _ _ => c r x) d⟩)
theorem M_clean (h : MR σ v) (hw : WF c v) : Con l mX12_clean [.inr 82] σ (PI fun q σ' => q = I (cntP (v.2.2.2 1) 256) ∧ MR σ' (setP v (fun _ => 0)) ∧ MF σ σ') := by
  refine eX12_clean ⟨h.1.ob, fun σ2 e2 => ?_⟩
  obtain ⟨h, f⟩ := h.w e2 (by decide)
  refine m_painted h hw.pb ?_
  rw [h.1.k38]
  exact m_empties (n := 256) (by decide) (by decide) (Nat.le_trans (by decide) h.1.1) (by decide) (fun σ' a b c d => ⟨rfl, (h.paintOnly a b c d).1, f.tr (h.paintOnly (P := fun _ => 0) a b c d).2⟩)
/-! thick -/
def stp (p : Int) (a : Int × Int × Int × Int) : Int × Int × Int × Int := (min a.1 p, max a.2.1 p, a.2.2.1 + p, if p < a.1 then 1 else if p = a.1 then a.2.2.2 + 1 else a.2.2.2)
def rowS (P : Nat → Int) (y x : Nat) : Nat → Int × Int × Int × Int → Int × Int × Int × Int
  | 0, a => a
  | n + 1, a => stp (P (16 * y + (x + n))) (rowS P y x n a)
def recS (P : Nat → Int) (y x w : Nat) : Nat → Int × Int × Int × Int → Int × Int × Int × Int
  | 0, a => a
  | m + 1, a => rowS P (y + m) x w (recS P y x w m a)
def okS (B : Int) (a : Int × Int × Int × Int) : Prop := 0 ≤ a.1 ∧ a.1 ≤ B ∧ 0 ≤ a.2.1 ∧ a.2.1 ≤ B
theorem stp_ok {B p : Int} {a : Int × Int × Int × Int} (h : okS B a) (h0 : 0 ≤ p) (h1 : p ≤ B) : okS B (stp p a) := by
  unfold okS stp at *; dsimp only at *; omega
theorem rowS_ok {P : Nat → Int} {B : Int} (hP : ∀ s, s < 256 → 0 ≤ P s ∧ P s ≤ B) {y x : Nat} {a : Int × Int × Int × Int} (h : okS B a) (hy : y < 16) : ∀ n, x + n ≤ 16 → okS B (rowS P y x n a) := by
  intro n
  induction n with
  | zero => intro _; exact h
  | succ n ih => intro hn; have := hP (16 * y + (x + n)) (by omega); exact stp_ok (ih (by omega)) this.1 this.2
theorem recS_ok {P : Nat → Int} {B : Int} (hP : ∀ s, s < 256 → 0 ≤ P s ∧ P s ≤ B) {y x w : Nat} {a : Int × Int × Int × Int} (h : okS B a) (hw : x + w ≤ 16) : ∀ m, y + m ≤ 16 → okS B (recS P y x w m a) := by
  intro m
  induction m with
  | zero => intro _; exact h
  | succ m ih => intro hm; exact rowS_ok hP (ih (by omega)) (by omega) w hw
theorem q_measure {P : Nat → Int} {B : Int} {x y w m : Nat} {k : Int} {K : Int32 → Sg → Prop} (hC : Cp σ) (hP : ∀ s, s < 256 → σ.2.1 58 s = I (P s)) (hB : ∀ s, s < 256 → 0 ≤ P s ∧ P s ≤ B) (hB2 : B < 2147483648) (hx : x + w ≤ 16) (hw : 1 ≤ w) (hy : y + m ≤ 16) (hm : 1 ≤ m) (hk : Rg k) (h : ∀ a, a = recS P y x w m (P (16 * y + x), P (16 * y + x), 0, 0) → (k = 0 → K (I a.1) σ) ∧ (k = 1 → K (I a.2.1) σ) ∧ (k = 2 → K (I a.2.2.1) σ) ∧ (¬ (0 ≤ k ∧ k ≤ 2) → K (I a.2.2.2) σ)) : Con l mX2_measure [.inr 57, .inl (I x), .inl (I y), .inl (I ((x + w : Nat) - 1 : Int)), .inl (I ((y + m : Nat) - 1 : Int)), .inl (I k)] σ (PI K) := by
  have hp0 := hB (16 * y + x) (by omega)
  have hinit : okS B (P (16 * y + x), P (16 * y + x), 0, 0) := by unfold okS; dsimp only; omega
  have FI : ∀ n i j : Nat, i + n = w → j < m → (GW l mX2_measure 24 [(0, .inr 57), (1, .inl (I x)), (2, .inl (I y)), (3, .inl (I ((x + w : Nat) - 1 : Int))), (4, .inl (I ((y + m : Nat) - 1 : Int))), (5, .inl (I k)), (6, .inl (I (recS P y x w (j + 1) (P (16 * y + x), P (16 * y + x), 0, 0)).1)), (7, .inl (I (recS P y x w (j + 1) (P (16 * y + x), P (16 * y + x), 0, 0)).2.1)), (8, .inl (I (recS P y x w (j + 1) (P (16 * y + x), P (16 * y + x), 0, 0)).2.2.1)), (9, .inl (I (recS P y x w (j + 1) (P (16 * y + x), P (16 * y + x), 0, 0)).2.2.2)), (10, .inl (I ((y + j + 1 : Nat) : Int)))] [] σ 0 0 (PI K)) →
      ∀ a, a = rowS P (y + j) x i (recS P y x w j (P (16 * y + x), P (16 * y + x), 0, 0)) → GW l mX2_measure 34 [(0, .inr 57), (1, .inl (I x)), (2, .inl (I y)), (3, .inl (I ((x + w : Nat) - 1 : Int))), (4, .inl (I ((y + m : Nat) - 1 : Int))), (5, .inl (I k)), (6, .inl (I a.1)), (7, .inl (I a.2.1)), (8, .inl (I a.2.2.1)), (9, .inl (I a.2.2.2)), (10, .inl (I ((y + j : Nat) : Int))), (11, .inl (I ((x + i : Nat) : Int)))] [] σ 0 0 (PI K) := by
    intro n
    induction n with
    | zero =>
      intro i j hi hj out a ea
      have : i = w := by omega
      subst this
      refine gX2_measure_34 ⟨fun _ => ?_, fun q => absurd ?_ q⟩
      · rw [I_1, I_add, ea]; exact out
      · exact (I_lt ⟨by omega, by omega⟩ ⟨by omega, by omega⟩).mpr (by omega)
    | succ n ih =>
      intro i j hi hj out a ea
      have hpj := hB (16 * (y + j) + (x + i)) (by omega)
      have hok : okS B a := by rw [ea]; exact rowS_ok hB (recS_ok hB hinit (by omega) j (by omega)) (by omega) i (by omega)
      obtain ⟨o1, o2, o3, o4⟩ := hok
      have nx := ih (i + 1) j (by omega) hj out (stp (P (16 * (y + j) + (x + i))) a) (by rw [ea]; rfl)
      refine gX2_measure_34 ⟨fun q => ?_, fun _ => q_spotAt ⟨by omega, by omega⟩ ⟨by omega, by omega⟩ (fun _ _ => ⟨hC.o57, q_paintOn hC hP ⟨by omega, by omega⟩ (fun _ => ?_) (fun q => absurd (by omega) q)⟩) (fun q => absurd (by omega) q)⟩
      · rw [I_lt ⟨by omega, by omega⟩ ⟨by omega, by omega⟩] at q; omega
      · rw [show (16 * ((y + j : Nat) : Int) + ((x + i : Nat) : Int)).toNat = 16 * (y + j) + (x + i) by omega]
        have G : ∀ t0 : Int, (stp (P (16 * (y + j) + (x + i))) a).2.2.2 = t0 → GW l mX2_measure 80 [(0, .inr 57), (1, .inl (I x)), (2, .inl (I y)), (3, .inl (I ((x + w : Nat) - 1 : Int))), (4, .inl (I ((y + m : Nat) - 1 : Int))), (5, .inl (I k)), (6, .inl (I a.1)), (7, .inl (I a.2.1)), (8, .inl (I a.2.2.1)), (9, .inl (I a.2.2.2)), (10, .inl (I ((y + j : Nat) : Int))), (11, .inl (I ((x + i : Nat) : Int))), (12, .inl (I (P (16 * (y + j) + (x + i)))))] [.inl (I t0)] σ 0 0 (PI K) := by
          intro t0 e0
          refine gX2_measure_80 (q_min ⟨by omega, by omega⟩ ⟨by omega, by omega⟩ (q_max ⟨by omega, by omega⟩ ⟨by omega, by omega⟩ ?_))
          rw [I_1, I_add, I_add, ← e0]
          exact nx
        refine ⟨fun q => ⟨fun q2 => ?_, fun q2 => ?_⟩, fun q => ?_⟩
        · rw [I_le ⟨by omega, by omega⟩ ⟨by omega, by omega⟩] at q
          rw [I_eq ⟨by omega, by omega⟩ ⟨by omega, by omega⟩] at q2
          exact G _ (by unfold stp; dsimp only; rw [if_neg (by omega), if_neg q2])
        · rw [I_le ⟨by omega, by omega⟩ ⟨by omega, by omega⟩] at q
          rw [I_eq ⟨by omega, by omega⟩ ⟨by omega, by omega⟩] at q2
          rw [I_1, I_add]
          exact G _ (by unfold stp; dsimp only; rw [if_neg (by omega), if_pos q2])
        · rw [I_le ⟨by omega, by omega⟩ ⟨by omega, by omega⟩] at q
          exact G 1 (by unfold stp; dsimp only; rw [if_pos (by omega)])
  have FO : ∀ n j : Nat, j + n = m → ∀ a, a = recS P y x w j (P (16 * y + x), P (16 * y + x), 0, 0) → GW l mX2_measure 24 [(0, .inr 57), (1, .inl (I x)), (2, .inl (I y)), (3, .inl (I ((x + w : Nat) - 1 : Int))), (4, .inl (I ((y + m : Nat) - 1 : Int))), (5, .inl (I k)), (6, .inl (I a.1)), (7, .inl (I a.2.1)), (8, .inl (I a.2.2.1)), (9, .inl (I a.2.2.2)), (10, .inl (I ((y + j : Nat) : Int)))] [] σ 0 0 (PI K) := by
    intro n
    induction n with
    | zero =>
      intro j hj a ea
      have : j = m := by omega
      subst this
      have hh := h a ea
      refine gX2_measure_24 ⟨fun _ => ?_, fun q => absurd ?_ q⟩
      · rw [toInt_I hk.1 hk.2]
        exact ⟨fun q => hh.2.2.2 (by omega), hh.1, hh.2.1, hh.2.2.1⟩
      · exact (I_lt ⟨by omega, by omega⟩ ⟨by omega, by omega⟩).mpr (by omega)
    | succ n ih =>
      intro j hj a ea
      refine gX2_measure_24 ⟨fun q => ?_, fun _ => ?_⟩
      · rw [I_lt ⟨by omega, by omega⟩ ⟨by omega, by omega⟩] at q; omega
      · exact FI w 0 j (by omega) (by omega) (ih (j + 1) (by omega) _ rfl) a ea
  refine eX2_measure (q_spotAt ⟨by omega, by omega⟩ ⟨by omega, by omega⟩ (fun _ _ => ⟨hC.o57, q_paintOn hC hP ⟨by omega, by omega⟩ (fun _ => ?_) (fun q => absurd (by omega) q)⟩) (fun q => absurd (by omega) q))
  rw [show (16 * (y : Int) + (x : Int)).toNat = 16 * y + x by omega]
  exact FO m 0 (by omega) _ rfl
end P7
