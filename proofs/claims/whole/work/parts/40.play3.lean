/-! play: the reference -/
def TapF (v : Vt) (t a : Nat) : Prop := v.2.1 t 0 0 = a ∧ a < 2 ∧ t < 10 ∧ (t : Int) < v.2.2.1 1 ∧ ArmWf (v.1 a) ∧ 1 ≤ v.1 a 0 2 ∧ 0 ≤ v.2.1 t 0 1 ∧ v.2.1 t 0 1 ≤ 40 ∧ (0 ≤ v.2.2.1 5 ∧ v.2.2.1 5 ≤ 30) ∧ ∀ i : Nat, (i : Int) < v.2.1 t 0 1 → isPo (v.1 a) (v.2.1 t 1 i) ∧ 0 ≤ v.2.1 t 2 i ∧ v.2.1 t 2 i ≤ 9
section MPL
variable {l : Launch} {σ σ' : Sg} {v v' : Vt} {c : Nat} {t a : Nat} {d o : Int}
theorem WF.tf (hw : WF c v) (h1 : (t : Int) < v.2.2.1 1) : TapF v t (v.2.1 t 0 0).toNat := by
  have hw0 := hw.1
  have g := hw.2.2.2.1 t h1
  exact ⟨by omega, by omega, by omega, h1, (hw.2.2.1 _ (by omega)).1, g.2.2.1, g.2.2.2.1, g.2.2.2.2.1, by omega, g.2.2.2.2.2⟩
theorem m_spotOf {K : Int32 → Sg → Prop} {p : Int} {i : Nat} (h : MR σ v) (ha : a < 2) (hwf : ArmWf (v.1 a)) (hp : 0 ≤ p) (hp2 : p < 4096) (hi : i < 40) (hd : -2000 ≤ d ∧ d ≤ 2000) (ho : -20000 ≤ o ∧ o ≤ 20000) (hK : K (I (spt (v.1 a) d o p i)) σ) : Con l mX12_spotOf [.inr 82, .inl (I a), .inl (I p), .inl (I i), .inl (I d), .inl (I o)] σ (PI K) := by
  have t0 := tip_rg hwf p (Or.inl rfl)
  have t1 := tip_rg hwf p (Or.inr rfl)
  have dm := mul2000 (i := i) hd.1 hd.2 hi
  refine eX12_spotOf ⟨h.1.ob, m_tip (w := 0) h.1 h.2.1.2 ha hwf hp (by omega) (Or.inl rfl) ?_⟩
  rw [I_sub, I_mul, I_sub]
  refine q_floorDiv (b := 1000) ⟨by omega, by omega⟩ (by omega) (by omega) ?_
  refine m_tip (w := 1) h.1 h.2.1.2 ha hwf hp (by omega) (Or.inr rfl) (q_floorDiv (b := 1000) ⟨by omega, by omega⟩ (by omega) (by omega) ?_)
  refine q_in (b := 0) (c := 15) ⟨by omega, by omega⟩ ⟨by omega, by omega⟩ ⟨by omega, by omega⟩ (fun a1 a2 => ⟨fun q => absurd q (by decide), fun _ => ?_⟩) (fun a1 => ⟨fun _ => ?_, fun q => absurd rfl q⟩)
  · refine q_in (b := 0) (c := 15) ⟨by omega, by omega⟩ ⟨by omega, by omega⟩ ⟨by omega, by omega⟩ (fun b1 b2 => ⟨fun q => absurd q (by decide), fun _ => ?_⟩) (fun b1 => ⟨fun _ => ?_, fun q => absurd rfl q⟩)
    · unfold spt sptX at hK; rw [if_pos ⟨⟨a1, a2⟩, b1, b2⟩] at hK
      rw [ix16]; exact hK
    · unfold spt sptX at hK; rw [if_neg (fun z => b1 z.2)] at hK; exact hK
  · unfold spt sptX at hK; rw [if_neg (fun z => a1 z.1)] at hK; exact hK
theorem m_worn {K : Int32 → Sg → Prop} {j i : Nat} {k s e : Int} (h : MR σ v) (hT : TapF v t a) (hj : j < 3) (hs : 0 ≤ s ∧ s ≤ 3) (he : 0 ≤ e ∧ e ≤ 39) (hk : k = 0 ∨ k = 1) (hi : (i : Int) < v.2.1 t 0 1) (hK : K (I (wpo (v.2.1 t 1 i) j (wpl (v.2.1 t) j k s e i))) σ) : Con l mX12_worn [.inr 82, .inl (I t), .inl (I i), .inl (I k), .inl (I j), .inl (I s), .inl (I e)] σ (PI K) := by
  obtain ⟨ea, ha, ht, ht1, hwf, hj1, n0, n40, hz, hpo⟩ := hT
  have pi := (hpo i hi).1
  have r1 := plc_rg (v.2.1 t 1 i) j
  have fin : ∀ q : Int, q = wpl (v.2.1 t) j k s e i → GW l mX12_worn 141 [(0, .inr 82), (1, .inl (I t)), (2, .inl (I i)), (3, .inl (I k)), (4, .inl (I j)), (5, .inl (I s)), (6, .inl (I e)), (7, .inl (I (v.2.1 t 1 i))), (8, .inl (I q))] [] σ 0 0 (PI K) := by
    intro q eq
    have hb := wpl_rg (v.2.1 t) j k e hs.1 i
    refine gX12_worn_141 ?_
    rw [wp_I pi.1 pi.2.1 hj (by omega) (by omega), eq]; exact hK
  have W : ∀ i' : Nat, wpl (v.2.1 t) j k s e i' = wps (v.2.1 t) j k s e i' (if i' = 0 then 0 else wpl (v.2.1 t) j k s e (i' - 1)) := fun i' => (wpl_step _ _ _ _ _ _).symm
  refine eX12_worn ⟨h.1.ob, ?_⟩
  rw [ix40, h.ps ht1 ht hi n40]
  refine ⟨h.1.a19 (by omega) (by omega), ?_⟩
  rw [I_0, I_eq' (by omega) (by omega) (by omega) (by omega), I_le' (by omega) (by omega) (by omega) (by omega)]
  refine ⟨fun q => ?_, fun q => ⟨fun q2 => ?_, fun q2 => ?_⟩⟩
  · rw [W] at hK; unfold wps at hK; rw [if_pos (Or.inl q), wpo_same] at hK; exact hK
  · refine q_placeOfM pi.1 (by have := pi.2.1; omega) hj ?_
    rw [I_eq' (by omega) (by omega) (by omega) (by omega)]
    refine ⟨fun q3 => ?_, fun q3 => ?_⟩
    · obtain ⟨e', rfl⟩ : ∃ e' : Nat, e = e' := ⟨e.toNat, by omega⟩
      have pe := (hpo e' (by omega)).1
      rw [ix40, h.ps ht1 ht (by omega) n40]
      refine ⟨h.1.a19 (by omega) (by omega), q_placeOfM pe.1 (by have := pe.2.1; omega) hj ?_⟩
      have F : ∀ m, m ≤ i → e' ≤ m → GW l mX12_worn 93 [(0, .inr 82), (1, .inl (I t)), (2, .inl (I i)), (3, .inl (I k)), (4, .inl (I j)), (5, .inl (I s)), (6, .inl (I (e' : Int))), (7, .inl (I (v.2.1 t 1 i))), (8, .inl (I (wpl (v.2.1 t) j k s e' m))), (9, .inl (I ((m : Int) + 1)))] [] σ 0 0 (PI K) := by
        refine lp ?_ ?_
        · intro _
          refine gX12_worn_93 ⟨fun _ => fin _ rfl, fun q => absurd ?_ q⟩
          exact (I_lt ⟨by omega, by omega⟩ ⟨by omega, by omega⟩).mpr (by omega)
        · intro m hm ih hme
          have pm := (hpo (m + 1) (by omega)).1
          have rm := plc_rg (v.2.1 t 1 (m + 1)) j
          have rb := wpl_rg (v.2.1 t) j k e' hs.1 m
          refine gX12_worn_93 ⟨fun q => ?_, fun _ => ⟨h.1.ob, ?_⟩⟩
          · rw [I_lt ⟨by omega, by omega⟩ ⟨by omega, by omega⟩] at q; omega
          · rw [show ((m : Int) + 1) = ((m + 1 : Nat) : Int) by omega, ix40, h.ps ht1 ht (by omega) n40]
            refine ⟨h.1.a19 (by omega) (by omega), q_placeOfM pm.1 (by have := pm.2.1; omega) hj ?_⟩
            refine q_min ⟨by omega, by omega⟩ ⟨by omega, by omega⟩ ?_
            rw [I_sub]
            refine q_max ⟨by omega, by omega⟩ ⟨by omega, by omega⟩ ?_
            have e1 : max (plc (v.2.1 t 1 (m + 1)) j - s) (min (plc (v.2.1 t 1 (m + 1)) j) (wpl (v.2.1 t) j k s e' m)) = wpl (v.2.1 t) j k s e' (m + 1) := by
              show _ = wps (v.2.1 t) j k s e' (m + 1) (wpl (v.2.1 t) j k s e' m)
              unfold wps
              rw [if_neg (by omega), if_neg q3, if_neg (by omega)]
              omega
            rw [e1, I_1, I_add]
            exact ih (by omega)
      have := F e' (by omega) (by omega)
      rw [I_1, I_add]
      rw [W e'] at this
      unfold wps at this
      rw [if_neg (by omega), if_neg q3, if_pos rfl] at this
      exact this
    · rw [I_sub]
      refine q_max (a := 0) ⟨by omega, by omega⟩ ⟨by omega, by omega⟩ ?_
      obtain ⟨x, hx⟩ : ∃ x : Nat, max 0 ((i : Int) - s) = x := ⟨(max 0 ((i : Int) - s)).toNat, by omega⟩
      have px := (hpo x (by omega)).1
      rw [hx, ix40, h.ps ht1 ht (by omega) n40]
      refine ⟨h.1.a19 (by omega) (by omega), q_placeOfM px.1 (by have := px.2.1; omega) hj (fin _ ?_)⟩
      rw [W]; unfold wps
      rw [if_neg (by omega), if_pos q3, show max ((i : Int) - s) 0 = x by omega, I_tn]
  · rw [W] at hK; unfold wps at hK; rw [if_pos (by omega), wpo_same] at hK; exact hK
theorem m_lays {K : Int32 → Sg → Prop} {r : Nat} {Q : (Nat → Int) → Sg → Prop} {R : (Nat → Int) → Nat → Nat → Int} {P : Nat → Int} {j m n : Nat} {k s e b : Int} (hr : shp r = (13, 256) ∧ r ≠ 0 ∧ r ≤ 118)
    (hQ : ∀ P σ, Q P σ → MR σ (v.1, v.2.1, v.2.2.1, R P) ∧ ∀ s, s < 256 → σ.2.1 r s = I (P s))
    (hQw : ∀ P σ s z σ', Q P σ → s < 256 → σ' = w1 σ r s (I z) → Q (fun s' => if s' = s then z else P s') σ')
    (hT : TapF v t a) (hj : j < 3) (hs : 0 ≤ s ∧ s ≤ 3) (he : 0 ≤ e ∧ e ≤ 39) (hk : k = 0 ∨ k = 1) (hd : -2000 ≤ d ∧ d ≤ 2000) (ho : -20000 ≤ o ∧ o ≤ 20000) (hm : ((m + n : Nat) : Int) ≤ v.2.1 t 0 1) (hb : b = (m : Int) + n - 1) (h : Q P σ)
    (hK : ∀ σ', Q (lyP (spw v t d o j k s e) (amt (v.2.1 t) (v.2.2.1 5)) P m n) σ' → K (I (lyN (spw v t d o j k s e) (amt (v.2.1 t) (v.2.2.1 5)) m n)) σ') :
    Con l mX12_lays [.inr 82, .inr r, .inl (I t), .inl (I m), .inl (I b), .inl (I d), .inl (I o), .inl (I k), .inl (I j), .inl (I s), .inl (I e)] σ (PI K) := by
  have hT' := hT
  obtain ⟨ea, ha, ht, ht1, hwf, hj1, n0, n40, hz, hpo⟩ := hT'
  subst hb
  have F : ∀ i, i ≤ n → ∀ σ', Q (lyP (spw v t d o j k s e) (amt (v.2.1 t) (v.2.2.1 5)) P m i) σ' → GW l mX12_lays 6 [(0, .inr 82), (1, .inr r), (2, .inl (I t)), (3, .inl (I m)), (4, .inl (I ((m : Int) + n - 1))), (5, .inl (I d)), (6, .inl (I o)), (7, .inl (I k)), (8, .inl (I j)), (9, .inl (I s)), (10, .inl (I e)), (11, .inl (I (lyN (spw v t d o j k s e) (amt (v.2.1 t) (v.2.2.1 5)) m i))), (12, .inl (I ((m + i : Nat) : Int)))] [] σ' 0 0 (PI K) := by
    refine lp ?_ ?_
    · intro σ' h1
      refine gX12_lays_6 ⟨fun _ => hK σ' h1, fun q => absurd ?_ q⟩
      exact (I_lt ⟨by omega, by omega⟩ ⟨by omega, by omega⟩).mpr (by omega)
    · intro i hi ih σ' h1
      obtain ⟨M, hP⟩ := hQ _ _ h1
      have pi := (hpo (m + i) (by omega)).1
      have hb := wpl_rg (v.2.1 t) j k e hs.1 (m + i)
      have wr := wpo_rg pi.1 pi.2.1 hj hb.1 hb.2
      have sr := spw_rg v t d o j k s e (m + i)
      have g2 := (hpo (m + i) (by omega)).2
      have ar := amt_rg (z := v.2.2.1 5) g2.1 g2.2 hz.1 hz.2
      have eo := M.ow ht1 ht
      refine gX12_lays_6 ⟨fun q => ?_, fun _ => ⟨M.1.ob, M.1.a17 (by omega) (by omega), m_worn M hT hj hs he hk (by show ((m + i : Nat) : Int) < v.2.1 t 0 1; omega) ?_⟩⟩
      · rw [I_lt ⟨by omega, by omega⟩ ⟨by omega, by omega⟩] at q; omega
      · rw [eo]
        show Con l mX12_spotOf [.inr 82, .inl (I (v.2.1 t 0 0)), _, _, _, _] σ' _
        rw [ea]
        refine m_spotOf M ha hwf wr.1 wr.2 (by omega) hd ho ?_
        have es : spt (v.1 a) d o (wpo (v.2.1 t 1 (m + i)) j (wpl (v.2.1 t) j k s e (m + i))) (m + i) = spw v t d o j k s e (m + i) := by
          unfold spw; rw [ea, I_tn]
        show (¬ I (spt (v.1 a) d o (wpo (v.2.1 t 1 (m + i)) j (wpl (v.2.1 t) j k s e (m + i))) (m + i)) = -1 → _) ∧ (I (spt (v.1 a) d o (wpo (v.2.1 t 1 (m + i)) j (wpl (v.2.1 t) j k s e (m + i))) (m + i)) = -1 → _)
        rw [es]
        have nz : ∀ σ3 P3, Q P3 σ3 → Ai σ3 (σ3.2.2 82 20) ((40 * I t) + I ((m + i : Nat) : Int)) ∧ (((σ3.2.1 (σ3.2.2 82 20) ((40 * I t) + I ((m + i : Nat) : Int)).toNatClampNeg) * (σ3.2.1 82 39)) / 10) = I (amt (v.2.1 t) (v.2.2.1 5) (m + i)) := by
          intro σ3 P3 h3
          obtain ⟨M3, _⟩ := hQ _ _ h3
          have e1 := M3.sy (i := m + i) ht1 ht (by show ((m + i : Nat) : Int) < v.2.1 t 0 1; omega) n40
          have e2 : σ3.2.1 82 39 = I (v.2.2.1 5) := M3.2.2.2.2.2.1
          rw [ix40, e1, e2]
          refine ⟨M3.1.a20 (by omega) (by omega), ?_⟩
          show I (v.2.1 t 2 (m + i)) * I (v.2.2.1 5) / 10 = _
          rw [I_mul, L_lit, I_div (b := 10) ⟨by omega, by omega⟩ ⟨by omega, by omega⟩ (by rw [Int.tdiv_eq_ediv_of_nonneg ar.1]; exact ⟨by omega, by omega⟩), Int.tdiv_eq_ediv_of_nonneg ar.1]
          rfl
        refine ⟨fun q => ?_, fun q => ?_⟩
        · rw [I_m1, I_eq ⟨by omega, by omega⟩ ⟨by omega, by omega⟩] at q
          refine ⟨ai_of hr.1 hr.2.1 (Nat.le_trans hr.2.2 M.1.1) (by omega) (by omega) (by decide), (nz _ _ h1).1, fun σ9 e9 => ?_⟩
          rw [(nz _ _ h1).2, I_cl (by omega) (by omega), hP _ (by omega), I_add] at e9
          have h9 := hQw _ _ _ _ _ h1 (by omega) e9
          refine ⟨(nz _ _ h9).1, ?_⟩
          rw [(nz _ _ h9).2, I_add, I_1, I_add]
          have e3 : (fun s' => if s' = (spw v t d o j k s e (m + i)).toNat then lyP (spw v t d o j k s e) (amt (v.2.1 t) (v.2.2.1 5)) P m i (spw v t d o j k s e (m + i)).toNat + amt (v.2.1 t) (v.2.2.1 5) (m + i) else lyP (spw v t d o j k s e) (amt (v.2.1 t) (v.2.2.1 5)) P m i s') = lyP (spw v t d o j k s e) (amt (v.2.1 t) (v.2.2.1 5)) P m (i + 1) := by
            funext s'
            show _ = lyP (spw v t d o j k s e) (amt (v.2.1 t) (v.2.2.1 5)) P m i s' + if spw v t d o j k s e (m + i) = s' then _ else 0
            by_cases z : s' = (spw v t d o j k s e (m + i)).toNat
            · rw [if_pos z, if_pos (by omega), z]
            · rw [if_neg z, if_neg (by omega), Int.add_zero]
          rw [e3] at h9
          have := ih σ9 h9
          have e4 : lyN (spw v t d o j k s e) (amt (v.2.1 t) (v.2.2.1 5)) m (i + 1) = lyN (spw v t d o j k s e) (amt (v.2.1 t) (v.2.2.1 5)) m i + amt (v.2.1 t) (v.2.2.1 5) (m + i) := by
            show _ + (if spw v t d o j k s e (m + i) = -1 then 0 else _) = _
            rw [if_neg q]
          rw [e4] at this
          exact this
        · rw [I_m1, I_eq ⟨by omega, by omega⟩ ⟨by omega, by omega⟩] at q
          have e3 : lyP (spw v t d o j k s e) (amt (v.2.1 t) (v.2.2.1 5)) P m (i + 1) = lyP (spw v t d o j k s e) (amt (v.2.1 t) (v.2.2.1 5)) P m i := by
            funext s'
            show lyP (spw v t d o j k s e) (amt (v.2.1 t) (v.2.2.1 5)) P m i s' + (if spw v t d o j k s e (m + i) = s' then _ else 0) = _
            rw [if_neg (by omega), Int.add_zero]
          have e4 : lyN (spw v t d o j k s e) (amt (v.2.1 t) (v.2.2.1 5)) m (i + 1) = lyN (spw v t d o j k s e) (amt (v.2.1 t) (v.2.2.1 5)) m i := by
            show _ + (if spw v t d o j k s e (m + i) = -1 then 0 else _) = _
            rw [if_pos q, Int.add_zero]
          have := ih σ' (by rw [e3]; exact h1)
          rw [e4] at this
          rw [I_1, I_add]
          exact this
  have := F 0 (by omega) σ h
  exact eX12_lays this
theorem m_isDrift {K : Int32 → Sg → Prop} {d : Int} (hd : Rg d) (h1 : (-2000 ≤ d ∧ d ≤ 2000) → K 1 σ) (h0 : ¬ (-2000 ≤ d ∧ d ≤ 2000) → K 0 σ) : Con l mX12_isDrift [.inl (I d)] σ (PI K) :=
  eX12_isDrift (q_in (b := -2000) (c := 2000) hd ⟨by omega, by omega⟩ ⟨by omega, by omega⟩ (fun a b => ⟨Or.inr rfl, h1 ⟨a, b⟩⟩) (fun q => ⟨Or.inl rfl, h0 q⟩))
theorem m_isOffset {K : Int32 → Sg → Prop} {d : Int} (hd : Rg d) (h1 : (-20000 ≤ d ∧ d ≤ 20000) → K 1 σ) (h0 : ¬ (-20000 ≤ d ∧ d ≤ 20000) → K 0 σ) : Con l mX12_isOffset [.inl (I d)] σ (PI K) := by
  refine eX12_isOffset ?_
  rw [show (-20000 : Int32) = I (-20000) by decide, show (20000 : Int32) = I 20000 by decide]
  exact q_in (b := -20000) (c := 20000) hd ⟨by omega, by omega⟩ ⟨by omega, by omega⟩ (fun a b => ⟨Or.inr rfl, h1 ⟨a, b⟩⟩) (fun q => ⟨Or.inl rfl, h0 q⟩)
theorem MArms.w {V : Nat → Nat → Nat → Int} (h : MArms σ V) (hM : Mp σ) (ha : a < 2) : σ.2.1 (σ.2.2 82 12) (I a).toNatClampNeg = I (V a 5 1) ∧ σ.2.1 (σ.2.2 82 13) (I a).toNatClampNeg = I (V a 5 0) ∧ σ.2.1 (σ.2.2 82 14) (I a).toNatClampNeg = I (V a 5 2) ∧ σ.2.1 (σ.2.2 82 15) (I a).toNatClampNeg = I (V a 5 3) := by
  have := (h.2 a ha).2.2
  rw [hM.d12 (by omega) (by omega), hM.d13 (by omega) (by omega), hM.d14 (by omega) (by omega), hM.d15 (by omega) (by omega), I_tn]
  exact ⟨this.2.1, this.1, this.2.2.1, this.2.2.2⟩
theorem setP_same (v : Vt) : setP v (v.2.2.2 1) = v := by
  have : (fun q i => if q = 1 then v.2.2.2 1 i else v.2.2.2 q i) = v.2.2.2 := by
    funext q i
    by_cases e : q = 1
    · rw [if_pos e, e]
    · rw [if_neg e]
  show (v.1, v.2.1, v.2.2.1, fun q i => if q = 1 then v.2.2.2 1 i else v.2.2.2 q i) = v
  rw [this]
theorem M_play {z d o : Int} (h : MR σ v) (hw : WF c v) (hz : Rg z) (hd : Rg d) (ho : Rg o) : Con l mX12_play [.inr 82, .inl (I z), .inl (I d), .inl (I o)] σ (PI fun x σ' => x = I (aPlay v z d o) ∧ MR σ' (nPlay v z d o) ∧ MF σ σ') := by
  refine eX12_play ⟨h.1.ob, fun σ2 e2 => ?_⟩
  obtain ⟨h, f⟩ := h.w e2 (by decide)
  have no : ∀ {q : Int32}, q = -1 → ¬ okAim v z d o → q = I (aPlay v z d o) ∧ MR σ2 (nPlay v z d o) ∧ MF σ σ2 := by
    intro q e hq
    unfold aPlay nPlay; rw [cif_f hq, vif_f hq]; exact ⟨e, h, f⟩
  refine h.isTape hw hz (fun t et ht1 ht => ⟨fun q => absurd q (by decide), fun _ => ?_⟩) (fun q => ⟨fun _ => no rfl (fun y => q y.1), fun q => absurd rfl q⟩)
  refine m_isDrift hd (fun b1 => ⟨fun q => absurd q (by decide), fun _ => ?_⟩) (fun q => ⟨fun _ => no rfl (fun y => q y.2.1), fun q => absurd rfl q⟩)
  refine m_isOffset ho (fun b2 => ⟨fun _ => ?_, fun q => absurd q (by decide)⟩) (fun q => ⟨fun q => absurd rfl q, fun _ => no rfl (fun y => q y.2.2)⟩)
  have hT := hw.tf ht1
  obtain ⟨a, ea⟩ : ∃ a : Nat, (v.2.1 t 0 0).toNat = a := ⟨_, rfl⟩
  rw [ea] at hT
  have hT' := hT
  obtain ⟨ea', ha, _, _, hwf, hj1, n0, n40, hz5, hpo⟩ := hT'
  have ok : okAim v z d o := ⟨⟨by omega, by omega⟩, b1, b2⟩
  subst et
  have wr := hwf.2.2.2.2
  have hW := h.2.1.2.w h.1 ha
  rw [h.ow ht1 ht, h.tk ht1 ht, ea', hW.1, hW.2.1, hW.2.2.1, hW.2.2.2, h.1.k38, I_1, I_sub]
  refine ⟨h.1.a17 (by omega) (by omega), h.1.a18 (by omega) (by omega), h.1.a12 (by omega) (by omega), h.1.a13 (by omega) (by omega), h.1.a14 (by omega) (by omega), h.1.a15 (by omega) (by omega), ?_⟩
  rw [show v.1 a 5 0 = (((v.1 a 5 0).toNat : Nat) : Int) by omega]
  refine m_lays (v := v) (a := a) (m := 0) (n := (v.2.1 t 0 1).toNat) (P := v.2.2.2 1) (R := fun P => (setP v P).2.2.2) (Q := fun P σ' => MR σ' (setP v P) ∧ MF σ σ') ⟨by decide, by decide, by decide⟩ (fun P σ3 h3 => ⟨h3.1, h3.1.2.2.2.2.1⟩) (fun P σ3 s y σ4 h3 hs e4 => ?_) hT (by omega) (by omega) (by omega) (by omega) b1 b2 (by omega) (by omega) ⟨?_, f⟩ (fun σ3 h3 => ?_)
  · have := h3.1.paintOnly (σ' := σ4) (P := fun s' => if s' = s then y else P s') (by rw [e4]; rfl) (by rw [e4]; rfl) (fun r hr => by rw [e4, w1_r hr]) (fun s' hs' => by
      rw [e4]
      by_cases q : s' = s
      · rw [q, w1_at, if_pos rfl]
      · rw [w1_k q, if_neg q]; exact h3.1.2.2.2.2.1 s' hs')
    exact ⟨this.1, h3.2.tr this.2⟩
  · rw [setP_same]; exact h
  · unfold aPlay nPlay
    rw [cif_t ok, vif_t ok, I_tn]
    have e : fPlay v t d o = spw v t d o (v.1 a 5 0).toNat (v.1 a 5 1) (v.1 a 5 2) (v.1 a 5 3) := by unfold fPlay; rw [ea]
    rw [e]
    exact ⟨rfl, h3.1, h3.2⟩
end MPL
