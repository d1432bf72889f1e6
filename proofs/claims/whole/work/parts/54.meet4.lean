/-! meet: the reference -/
def rcd (z : Int) : Int := if z < 1000000 then z else -1
def rv (k : Nat) : Nat := if k % 2 = 0 then k + 1 else k - 1
theorem rv_e (k : Nat) : rv (2 * k) = 2 * k + 1 := by unfold rv; rw [if_pos (by omega)]
theorem rv_o (k : Nat) : rv (2 * k + 1) = 2 * k := by unfold rv; rw [if_neg (by omega)]; omega
section MEM
variable {l : Launch} {σ σ' : Sg} {v v' : Vt} {c : Nat} {a b n m J0 J1 : Nat} {tc : Nat → Nat → Prop}
theorem m_cellOf {K : Int32 → Sg → Prop} {x y : Int} (hx : -18000 ≤ x ∧ x ≤ 38000) (hy : -18000 ≤ y ∧ y ≤ 38000) (hK : K (I (rC (x / 1000, y / 1000))) σ) : Con l mX12_cellOf [.inl (I x), .inl (I y)] σ (PI K) := by
  refine eX12_cellOf (q_floorDiv (b := 1000) ⟨by omega, by omega⟩ (by omega) (by omega) (q_floorDiv (b := 1000) ⟨by omega, by omega⟩ (by omega) (by omega) ?_))
  rw [L_lit, I_mul, I_add]
  exact hK
theorem m_middle {K : Int32 → Sg → Prop} {x y : Int} (hx : -18000 ≤ x ∧ x ≤ 38000) (hy : -18000 ≤ y ∧ y ≤ 38000) (hK : K (I ((x + y) / 2)) σ) : Con l mX12_middle [.inl (I x), .inl (I y)] σ (PI K) := by
  refine eX12_middle ?_
  rw [I_add]
  exact q_floorDiv (b := 2) ⟨by omega, by omega⟩ (by omega) (by omega) hK
theorem m_bodyOf {K : Int32 → Sg → Prop} {r f J : Nat} {p : Int} (h : MR σ v) (hr : r < 2) (hw : ArmWf (v.1 r)) (hJ : v.1 r 0 2 = J) (hp : 0 ≤ p ∧ p < 4096) (hf : f ≤ 6) (hK : ∀ σ', Onl [110] σ σ' → (∀ k, k < 2 * J → σ'.2.1 110 (f + k) = I (rC (clr (v.1 r) p (rv k)))) → (∀ k, k < f → σ'.2.1 110 k = σ.2.1 110 k) → K (I ((f + 2 * J : Nat) : Int)) σ') : Con l mX12_bodyOf [.inr 82, .inl (I r), .inl (I p), .inl (I f)] σ (PI K) := by
  have w0 := hw.1
  have F : ∀ k, k ≤ J → ∀ σ', Onl [110] σ σ' → (∀ k', k' < 2 * k → σ'.2.1 110 (f + k') = I (rC (clr (v.1 r) p (rv k')))) → (∀ k', k' < f → σ'.2.1 110 k' = σ.2.1 110 k') → GW l mX12_bodyOf 6 [(0, .inr 82), (1, .inl (I r)), (2, .inl (I p)), (3, .inl (I f)), (4, .inl (I ((f + 2 * k : Nat) : Int))), (5, .inl (I ((k + 1 : Nat) : Int)))] [] σ' 0 0 (PI K) := by
    refine lp ?_ ?_
    · intro σ' o' h1 h2
      obtain ⟨h', _⟩ := h.sm (o'.ms (by decide))
      refine gX12_bodyOf_6 ⟨h'.1.ob, h'.1.a7 (by omega) (by omega), fun _ => hK σ' o' h1 h2, fun q => absurd ?_ q⟩
      rw [h'.2.1.2.jn h'.1 hr, hJ]; exact (I_lt ⟨by omega, by omega⟩ ⟨by omega, by omega⟩).mpr (by omega)
    · intro k hk ih σ' o' h1 h2
      obtain ⟨h', _⟩ := h.sm (o'.ms (by decide))
      have a1 := pnt_rg hw p (k := k) (w := 0) (by omega) (Or.inl rfl)
      have a2 := pnt_rg hw p (k := k) (w := 1) (by omega) (Or.inr rfl)
      have b1 := pnt_rg hw p (k := k + 1) (w := 0) (by omega) (Or.inl rfl)
      have b2 := pnt_rg hw p (k := k + 1) (w := 1) (by omega) (Or.inr rfl)
      refine gX12_bodyOf_6 ⟨h'.1.ob, h'.1.a7 (by omega) (by omega), fun q => ?_, fun _ => ?_⟩
      · rw [h'.2.1.2.jn h'.1 hr, hJ, I_lt ⟨by omega, by omega⟩ ⟨by omega, by omega⟩] at q; omega
      · refine m_pointOf (w := 0) h'.1 h'.2.1.2 hr hp.1 (by omega) (by omega) (Or.inl rfl) (m_pointOf (w := 1) h'.1 h'.2.1.2 hr hp.1 (by omega) (by omega) (Or.inr rfl) ?_)
        rw [I_1, I_sub, show (((k + 1 : Nat) : Int) - 1) = ((k : Nat) : Int) by omega]
        refine m_pointOf (w := 0) h'.1 h'.2.1.2 hr hp.1 (by omega) (by omega) (Or.inl rfl) (m_pointOf (w := 1) h'.1 h'.2.1.2 hr hp.1 (by omega) (by omega) (Or.inr rfl) ?_)
        refine m_cellOf (by omega) (by omega) ⟨h'.1.a49 (by omega) (by omega), fun σ10 e10 => ?_⟩
        rw [h'.1.k49, I_cln (by omega)] at e10
        have o10 := o'.tr (Onl.w e10 (by decide))
        obtain ⟨h10, _⟩ := h.sm (o10.ms (by decide))
        refine m_middle (by omega) (by omega) (m_middle (by omega) (by omega) (m_cellOf (by omega) (by omega) ?_))
        rw [I_add]
        refine ⟨h10.1.a49 (by omega) (by omega), fun σ15 e15 => ?_⟩
        rw [h10.1.k49, I_cl (by omega) (by omega), show (((f + 2 * k : Nat) : Int) + 1).toNat = f + 2 * k + 1 by omega] at e15
        rw [show (2 : Int32) = I 2 from rfl, I_add, I_add]
        have := ih σ15 (o10.tr (Onl.w e15 (by decide))) (fun k' hk' => ?_) (fun k' hk' => ?_)
        · rw [show (((f + 2 * (k + 1) : Nat) : Int)) = ((f + 2 * k : Nat) : Int) + 2 by omega] at this
          exact this
        · rw [e15]
          by_cases z : k' = 2 * k + 1
          · rw [z, show f + (2 * k + 1) = f + 2 * k + 1 by omega, w1_at]
            rw [rv_o]
            unfold clr
            rw [if_pos (by omega), show 2 * k / 2 = k by omega]; rfl
          · rw [w1_k (by omega), e10]
            by_cases y : k' = 2 * k
            · rw [y, w1_at]
              rw [rv_e]
              unfold clr
              rw [if_neg (by omega), show (2 * k + 1) / 2 + 1 = k + 1 by omega]; rfl
            · rw [w1_k (by omega)]; exact h1 k' (by omega)
        · rw [e15, w1_k (by omega), e10, w1_k (by omega)]; exact h2 k' hk'
  exact eX12_bodyOf (F 0 (by omega) σ (Onl.rf _ _) (fun k' hk' => absurd hk' (by omega)) (fun k' _ => rfl))
theorem m_isClear {K : Int32 → Sg → Prop} {p q : Int} (h : MR σ v) (wA : ArmWf (v.1 0)) (wB : ArmWf (v.1 1)) (hJ0 : v.1 0 0 2 = J0) (hJ1 : v.1 1 0 2 = J1) (hp : 0 ≤ p ∧ p < 4096) (hq : 0 ≤ q ∧ q < 4096) (h1 : ∀ σ', Onl [110] σ σ' → ¬ (∃ r s, r < 2 * J0 ∧ s < 2 * J1 ∧ clr (v.1 0) p r = clr (v.1 1) q s) → K 1 σ') (h0 : ∀ σ', Onl [110] σ σ' → (∃ r s, r < 2 * J0 ∧ s < 2 * J1 ∧ clr (v.1 0) p r = clr (v.1 1) q s) → K 0 σ') : Con l mX12_isClear [.inr 82, .inl (I p), .inl (I q)] σ (PI K) := by
  have w0 := wA.1; have w1' := wB.1
  have rvl : ∀ {k J : Nat}, k < 2 * J → rv k < 2 * J := by intro k J hk; unfold rv; split <;> omega
  have rvv : ∀ k : Nat, rv (rv k) = k := by
    intro k; unfold rv
    by_cases e : k % 2 = 0
    · rw [if_pos e, if_neg (by omega)]; omega
    · rw [if_neg e, if_pos (by omega)]; omega
  refine eX12_isClear ⟨h.1.ob, ?_⟩
  refine m_bodyOf (r := 0) (f := 0) h (by omega) wA hJ0 hp (by omega) (fun σ1 o1 b1 _ => ?_)
  obtain ⟨h1', _⟩ := h.sm (o1.ms (by decide))
  rw [show (0 + 2 * J0) = 2 * J0 by omega]
  refine m_bodyOf (r := 1) (f := 2 * J0) h1' (by omega) wB hJ1 hq (by omega) (fun σ3 o3 b3 k3 => ?_)
  have o3' := o1.tr o3
  obtain ⟨h3, _⟩ := h.sm (o3'.ms (by decide))
  have G20 : ∀ i, i ≤ 2 * J0 → (∀ r s, r < i → s < 2 * J1 → clr (v.1 0) p (rv r) ≠ clr (v.1 1) q (rv s)) → GW l mX12_isClear 20 [(0, .inr 82), (1, .inl (I p)), (2, .inl (I q)), (3, .inl (I ((2 * J0 : Nat) : Int))), (4, .inl (I ((2 * J0 + 2 * J1 : Nat) : Int))), (5, .inl (I i))] [] σ3 0 0 (PI K) := by
    refine lp ?_ ?_
    · intro hno
      refine gX12_isClear_20 ⟨fun _ => h1 σ3 o3' (fun ⟨r, s, y1, y2, y3⟩ => ?_), fun z => absurd ?_ z⟩
      · exact hno (rv r) (rv s) (rvl y1) (rvl y2) (by rw [rvv, rvv]; exact y3)
      · exact (I_le ⟨by omega, by omega⟩ ⟨by omega, by omega⟩).mpr (by omega)
    · intro i hi ih hno
      refine gX12_isClear_20 ⟨fun z => ?_, fun _ => ?_⟩
      · rw [I_le ⟨by omega, by omega⟩ ⟨by omega, by omega⟩] at z; omega
      · have G29 : ∀ k, k ≤ 2 * J1 → (∀ s, s < k → clr (v.1 0) p (rv i) ≠ clr (v.1 1) q (rv s)) → GW l mX12_isClear 29 [(0, .inr 82), (1, .inl (I p)), (2, .inl (I q)), (3, .inl (I ((2 * J0 : Nat) : Int))), (4, .inl (I ((2 * J0 + 2 * J1 : Nat) : Int))), (5, .inl (I i)), (6, .inl (I ((2 * J0 + k : Nat) : Int)))] [] σ3 0 0 (PI K) := by
          refine lp ?_ ?_
          · intro hnk
            refine gX12_isClear_29 ⟨fun _ => ?_, fun z => absurd ?_ z⟩
            · rw [I_1, I_add]
              refine ih (fun r s y1 y2 => ?_)
              by_cases z : r = i
              · rw [z]; exact hnk s y2
              · exact hno r s (by omega) y2
            · exact (I_le ⟨by omega, by omega⟩ ⟨by omega, by omega⟩).mpr (by omega)
          · intro k hk ih2 hnk
            have ra := clr_rg wA p (r := rv i) (by have := rvl hi; omega)
            have rb := clr_rg wB q (r := rv k) (by have := rvl hk; omega)
            have ca : -1000000 ≤ rC (clr (v.1 0) p (rv i)) ∧ rC (clr (v.1 0) p (rv i)) ≤ 1000000 := by unfold rC; omega
            have cb : -1000000 ≤ rC (clr (v.1 1) q (rv k)) ∧ rC (clr (v.1 1) q (rv k)) ≤ 1000000 := by unfold rC; omega
            have va : σ3.2.1 (σ3.2.2 82 49) (I (i : Int)).toNatClampNeg = I (rC (clr (v.1 0) p (rv i))) := by
              rw [h3.1.k49, I_cln (by omega), k3 i hi]
              have := b1 i hi
              rw [Nat.zero_add] at this; exact this
            have vb : σ3.2.1 (σ3.2.2 82 49) (I ((2 * J0 + k : Nat) : Int)).toNatClampNeg = I (rC (clr (v.1 1) q (rv k))) := by
              rw [h3.1.k49, I_cln (by omega)]; exact b3 k hk
            refine gX12_isClear_29 ⟨fun z => ?_, fun _ => ⟨h3.1.ob, h3.1.a49 (by omega) (by omega), h3.1.a49 (by omega) (by omega), ?_⟩⟩
            · rw [I_le ⟨by omega, by omega⟩ ⟨by omega, by omega⟩] at z; omega
            · rw [va, vb, I_eq' (by omega) (by omega) (by omega) (by omega), rC_inj ra rb, I_1, I_add]
              refine ⟨fun z => ih2 (fun s hs => ?_), fun z => h0 σ3 o3' ⟨rv i, rv k, rvl hi, rvl hk, z⟩⟩
              by_cases y : s = k
              · rw [y]; exact z
              · exact hnk s (by omega)
        exact G29 0 (by omega) (fun s hs => absurd hs (by omega))
  exact G20 0 (by omega) (fun r s y => absurd y (by omega))
theorem m_restOf {K : Int32 → Sg → Prop} {i j : Nat} (h : MR σ v) (ha : a < 10) (hb : b < 10) (ha1 : (a : Int) < v.2.2.1 1) (hb1 : (b : Int) < v.2.2.1 1) (hn : v.2.1 a 0 1 = n) (hm : v.2.1 b 0 1 = m) (n40 : n ≤ 40) (m40 : m ≤ 40) (hi : i ≤ 100) (hj : j ≤ 100) (ht : i < n → j < m → σ.2.1 108 (40 * i + j) = I (rcd (MT n m tc i j))) (hK : K (I (rcd (MT n m tc i j))) σ) : Con l mX12_restOf [.inr 82, .inl (I i), .inl (I j), .inl (I a), .inl (I b)] σ (PI K) := by
  have out : n ≤ i ∨ m ≤ j → K (-1) σ := fun q => by
    rw [MT_out q] at hK
    exact hK
  refine eX12_restOf ⟨h.1.ob, h.1.a18 (by omega) (by omega), ?_⟩
  rw [h.tk ha1 ha, h.tk hb1 hb, hn, hm, I_le' (by omega) (by omega) (by omega) (by omega), I_lt' (by omega) (by omega) (by omega) (by omega), ix40]
  refine ⟨fun q => out (by omega), fun q => ⟨h.1.a18 (by omega) (by omega), fun q2 => ⟨h.1.a46 (by omega) (by omega), ?_⟩, fun q2 => out (by omega)⟩⟩
  rw [h.1.k46, I_cln (by omega), ht (by omega) (by omega)]; exact hK
theorem MR.met {N : Int} {f : Nat → Int} (h : MR σ v) (hn : σ'.1 = σ.1) (h2 : σ'.2.2 = σ.2.2) (E : ∀ r, r ≠ 82 → r ≠ 108 → r ≠ 109 → r ≠ 110 → σ'.2.1 r = σ.2.1 r) (Ek : ∀ k, k ≠ 48 → σ'.2.1 82 k = σ.2.1 82 k) (h8 : σ'.2.1 82 48 = I N) (h73 : ∀ k : Nat, (k : Int) < N → σ'.2.1 109 k = I (f k)) : MR σ' (setM v N f) ∧ MF σ σ' := by
  have ek : ∀ k, k ≠ 8 → (setM v N f).2.2.1 k = v.2.2.1 k := fun k hk => if_neg hk
  have hp := h.2.2.2.2
  exact ⟨h.mk2 hn h2 ⟨by rw [Ek 4 (by omega), ek 0 (by omega)]; exact h.2.1.1, h.2.1.2.eq (fun r a b => E r (by omega) (by omega) (by omega) (by omega))⟩ (h.2.2.1.eq (Ek 16 (by omega)) (fun r a b => E r (by omega) (by omega) (by omega) (by omega)) rfl (ek 1 (by omega))) (h.2.2.2.1.eq (Ek 2 (by omega)) (E 83 (by omega) (by omega) (by omega) (by omega)) (Ek 29 (by omega)) (Ek 30 (by omega)) (ek 2 (by omega)) (ek 3 (by omega)) (ek 4 (by omega)) rfl) ⟨fun s hs => by rw [E 104 (by omega) (by omega) (by omega) (by omega)]; exact hp.1 s hs, by rw [Ek 39 (by omega), ek 5 (by omega)]; exact hp.2.1, by rw [Ek 40 (by omega), ek 6 (by omega)]; exact hp.2.2.1, by rw [Ek 41 (by omega), ek 7 (by omega)]; exact hp.2.2.2.1, h8, fun k hk => h73 k hk⟩, ⟨hn, fun r a => ⟨E r (by omega) (by omega) (by omega) (by omega), by rw [h2]⟩⟩⟩
end MEM
