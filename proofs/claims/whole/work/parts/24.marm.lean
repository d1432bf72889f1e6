/-! the reference's arms: V a is the data of arm a, as ArmAt has it -/
def MArms (σ : Sg) (V : Nat → Nat → Nat → Int) : Prop := (∀ k : Nat, k < 16 → σ.2.1 84 k = I (xtl.getD k 0)) ∧ ∀ a : Nat, a < 2 →
  (σ.2.1 85 a = I (V a 0 0) ∧ σ.2.1 86 a = I (V a 0 1) ∧ σ.2.1 87 a = I (V a 0 2)) ∧
  (∀ j : Nat, j < 3 → σ.2.1 88 (3 * a + j) = I (V a 1 j) ∧ σ.2.1 89 (3 * a + j) = I (V a 2 j) ∧ σ.2.1 90 (3 * a + j) = I (V a 3 j) ∧ σ.2.1 91 (3 * a + j) = I (V a 4 j)) ∧
  (σ.2.1 93 a = I (V a 5 0) ∧ σ.2.1 92 a = I (V a 5 1) ∧ σ.2.1 94 a = I (V a 5 2) ∧ σ.2.1 95 a = I (V a 5 3))
theorem rem16 {d : Int} (h0 : 0 ≤ d) (h1 : d < 2147483648) : I d - I d / 16 * 16 = I (d % 16) := by
  rw [L_lit, I_div ⟨by omega, by omega⟩ ⟨by omega, by omega⟩ (by rw [Int.tdiv_eq_ediv_of_nonneg h0]; exact ⟨by omega, by omega⟩), I_mul, I_sub, Int.tdiv_eq_ediv_of_nonneg h0]
  congr 1; omega
section MA
variable {l : Launch} {σ : Sg} {V : Nat → Nat → Nat → Int} {K : Int32 → Sg → Prop} {a : Nat}
theorem ix3 {a j : Nat} : (3 * I a) + I j = I ((3 * a + j : Nat) : Int) := by rw [L_lit, I_mul, I_add]; congr 1
theorem MArms.jn (h : MArms σ V) (hM : Mp σ) (ha : a < 2) : σ.2.1 (σ.2.2 82 7) (I a).toNatClampNeg = I (V a 0 2) := by rw [hM.d7 (by omega) (by omega)]; exact (h.2 a ha).1.2.2
theorem MArms.r1 (h : MArms σ V) (hM : Mp σ) (ha : a < 2) {j : Nat} (hj : j < 3) : σ.2.1 (σ.2.2 82 8) (I ((3 * a + j : Nat) : Int)).toNatClampNeg = I (V a 1 j) := by rw [hM.d8 (by omega) (by omega)]; exact ((h.2 a ha).2.1 j hj).1
theorem MArms.r2 (h : MArms σ V) (hM : Mp σ) (ha : a < 2) {j : Nat} (hj : j < 3) : σ.2.1 (σ.2.2 82 9) (I ((3 * a + j : Nat) : Int)).toNatClampNeg = I (V a 2 j) := by rw [hM.d9 (by omega) (by omega)]; exact ((h.2 a ha).2.1 j hj).2.1
theorem MArms.r3 (h : MArms σ V) (hM : Mp σ) (ha : a < 2) {j : Nat} (hj : j < 3) : σ.2.1 (σ.2.2 82 10) (I ((3 * a + j : Nat) : Int)).toNatClampNeg = I (V a 3 j) := by rw [hM.d10 (by omega) (by omega)]; exact ((h.2 a ha).2.1 j hj).2.2.1
theorem MArms.r4 (h : MArms σ V) (hM : Mp σ) (ha : a < 2) {j : Nat} (hj : j < 3) : σ.2.1 (σ.2.2 82 11) (I ((3 * a + j : Nat) : Int)).toNatClampNeg = I (V a 4 j) := by rw [hM.d11 (by omega) (by omega)]; exact ((h.2 a ha).2.1 j hj).2.2.2
theorem m_isPose {p : Int} (hM : Mp σ) (h : MArms σ V) (ha : a < 2) (hw : ArmWf (V a)) (hp : Rg p) (h1 : isPo (V a) p → K 1 σ) (h0 : ¬ isPo (V a) p → K 0 σ) : Con l mX12_isPose [.inr 82, .inl (I a), .inl (I p)] σ (PI K) := by
  have hr := hp.1; have hr2 := hp.2
  have hw0 := hw.1
  have F : ∀ n j : Nat, j + n = 3 → 0 ≤ p → p < 4096 → (∀ i, i < j → V a 2 i ≤ plc p i ∧ plc p i ≤ V a 3 i) → GW l mX12_isPose 15 [(0, .inr 82), (1, .inl (I a)), (2, .inl (I p)), (3, .inl (I j))] [] σ 0 0 (PI K) := by
    intro n
    induction n with
    | zero =>
      intro j hj c1 c2 hd
      refine gX12_isPose_15 ?_
      simp (disch := omega) only [L_lit, I_le']
      exact ⟨fun c => h1 ⟨c1, c2, fun i hi => hd i (by omega)⟩, fun c => absurd c (by omega)⟩
    | succ n ih =>
      intro j hj c1 c2 hd
      have hb := hw.2.1 j (by omega)
      have hpl := plc_rg p j
      have hgo : V a 2 j ≤ plc p j → plc p j ≤ V a 3 j → GW l mX12_isPose 15 [(0, .inr 82), (1, .inl (I a)), (2, .inl (I p)), (3, .inl (I j + 1))] [] σ 0 0 (PI K) := by
        intro a1 a2
        rw [I_1, I_add]
        exact ih (j + 1) (by omega) c1 c2 (fun i hi => by
            rcases Nat.lt_or_ge i j with q | q
            · exact hd i q
            · rw [show i = j by omega]; exact ⟨a1, a2⟩)
      refine gX12_isPose_15 ⟨fun c => ?_, fun c => q_placeOfM c1 (by omega) (by omega) ⟨hM.ob, hM.a7 (by omega) (by omega), ?_, ?_⟩⟩
      · rw [L_lit, I_le ⟨by omega, by omega⟩ ⟨by omega, by omega⟩] at c; exact absurd c (by omega)
      · rw [h.jn hM ha, I_0, I_le' (by omega) (by omega) (by omega) (by omega), I_eq' (by omega) (by omega) (by omega) (by omega)]
        intro c3
        have hz := hw.2.2.2.1 j (by omega) c3
        exact ⟨fun c4 => hgo (by omega) (by omega), fun c4 => h0 (fun q => by have := q.2.2 j (by omega); omega)⟩
      · intro c3
        rw [ix3, h.r2 hM ha (by omega), h.r3 hM ha (by omega), I_lt' (by omega) (by omega) (by omega) (by omega), I_le' (by omega) (by omega) (by omega) (by omega)]
        exact ⟨hM.a9 (by omega) (by omega), fun c4 => h0 (fun q => by have := q.2.2 j (by omega); omega), fun c4 => ⟨hM.a10 (by omega) (by omega), fun c5 => hgo (by omega) (by omega), fun c5 => h0 (fun q => by have := q.2.2 j (by omega); omega)⟩⟩
  refine eX12_isPose ?_
  simp (disch := omega) only [L_lit, I_lt']
  exact ⟨fun c => h0 (fun q => by have := q.1; omega), fun c => ⟨fun c2 => F 3 0 rfl (by omega) (by omega) (fun i hi => absurd hi (by omega)), fun c2 => h0 (fun q => by have := q.2.1; omega)⟩⟩
theorem m_pointOf {p : Int} {k w : Nat} (hM : Mp σ) (h : MArms σ V) (ha : a < 2) (hp : 0 ≤ p) (hp2 : p < 2147483648) (hk : k ≤ 3) (hw : w = 0 ∨ w = 1) (hK : K (I (pnt (V a) p k w)) σ) : Con l mX12_pointOf [.inr 82, .inl (I a), .inl (I p), .inl (I k), .inl (I (1 - (w : Int)))] σ (PI K) := by
  have F : ∀ n j : Nat, j + n = k → GW l mX12_pointOf 32 [(0, .inr 82), (1, .inl (I a)), (2, .inl (I p)), (3, .inl (I k)), (4, .inl (I (1 - (w : Int)))), (5, .inl (I (1000 * V a 0 w + rch (V a) p (if w = 0 then 0 else 12) j))), (6, .inl (I (dsm p j))), (7, .inl (I j))] [] σ 0 0 (PI K) := by
    intro n
    induction n with
    | zero =>
      intro j hj
      have hj : j = k := by omega
      subst hj
      refine gX12_pointOf_32 ⟨fun c => hK, fun c => absurd ?_ c⟩
      exact (I_le ⟨by omega, by omega⟩ ⟨by omega, by omega⟩).mpr (Int.le_refl _)
    | succ n ih =>
      intro j hj
      have hd := dsm_rg p j
      have hpl := plc_rg p j
      have hx : ∀ t : Int, 0 ≤ t → t ≤ 12 → σ.2.1 (σ.2.2 82 3) (I ((dsm p j + plc p j + t) % 16)).toNatClampNeg = I (xti (t + dsm p (j + 1))) := by
        intro t h0 h1
        rw [hM.d3 (by omega) (by omega), h.1 _ (by omega)]
        unfold xti
        rw [show t + dsm p (j + 1) = dsm p j + plc p j + t by simp only [dsm]; omega]
      refine gX12_pointOf_32 ⟨fun c => ?_, fun c => q_placeOfM hp hp2 (by omega) ⟨hM.ob, ?_, fun c2 => ?_, fun c2 => ?_⟩⟩
      · rw [I_le ⟨by omega, by omega⟩ ⟨by omega, by omega⟩] at c; exact absurd c (by omega)
      · rw [ix3]; exact hM.a8 (by omega) (by omega)
      · rw [I_0, I_eq ⟨by omega, by omega⟩ ⟨by omega, by omega⟩] at c2
        have e12 : (I (dsm p j) + I (plc p j)) + 12 = I (dsm p j + plc p j + 12) := by rw [L_lit, I_add, I_add]
        rw [e12, rem16 (by omega) (by omega), ix3, h.r1 hM ha (by omega), hx 12 (by omega) (by omega), I_mul, I_add, I_add, I_1, I_add]
        refine ⟨hM.a3 (by omega) (by omega), ?_⟩
        have hi := ih (j + 1) (by omega)
        rw [if_neg (show ¬ w = 0 by omega)] at hi ⊢
        rw [show 1000 * V a 0 w + rch (V a) p 12 j + V a 1 j * xti (12 + dsm p (j + 1)) = 1000 * V a 0 w + rch (V a) p 12 (j + 1) by simp only [rch]; omega, show dsm p j + plc p j = dsm p (j + 1) from rfl]
        exact hi
      · rw [I_0, I_eq ⟨by omega, by omega⟩ ⟨by omega, by omega⟩] at c2
        have hx0 := hx 0 (by omega) (by omega)
        rw [Int.add_zero] at hx0
        rw [I_add, rem16 (by omega) (by omega), ix3, h.r1 hM ha (by omega), hx0, I_mul, I_add, I_1, I_add]
        refine ⟨hM.a3 (by omega) (by omega), ?_⟩
        have hi := ih (j + 1) (by omega)
        rw [if_pos (show w = 0 by omega)] at hi ⊢
        rw [show 1000 * V a 0 w + rch (V a) p 0 j + V a 1 j * xti (0 + dsm p (j + 1)) = 1000 * V a 0 w + rch (V a) p 0 (j + 1) by simp only [rch]; omega, show dsm p j + plc p j = dsm p (j + 1) from rfl]
        exact hi
  have F0 := F k 0 (by omega)
  rw [show 1000 * V a 0 w + rch (V a) p (if w = 0 then 0 else 12) 0 = 1000 * V a 0 w by simp only [rch]; omega] at F0
  refine eX12_pointOf ⟨fun c => ⟨hM.ob, hM.a6 (by omega) (by omega), ?_⟩, fun c => ⟨hM.ob, hM.a5 (by omega) (by omega), ?_⟩⟩
  · rw [I_0, I_eq ⟨by omega, by omega⟩ ⟨by omega, by omega⟩] at c
    rw [hM.d6 (by omega) (by omega), show ((a : Int)).toNat = a by omega, (h.2 a ha).1.2.1, L_lit, I_mul]
    rw [show w = 1 by omega] at F0 ⊢
    exact F0
  · rw [I_0, I_eq ⟨by omega, by omega⟩ ⟨by omega, by omega⟩] at c
    rw [hM.d5 (by omega) (by omega), show ((a : Int)).toNat = a by omega, (h.2 a ha).1.1, L_lit, I_mul]
    rw [show w = 0 by omega] at F0 ⊢
    exact F0
theorem m_tip {p : Int} {w : Nat} (hM : Mp σ) (h : MArms σ V) (ha : a < 2) (hv : ArmWf (V a)) (hp : 0 ≤ p) (hp2 : p < 2147483648) (hw : w = 0 ∨ w = 1) (hK : K (I (tip (V a) p w)) σ) : Con l mX12_tip [.inr 82, .inl (I a), .inl (I p), .inl (I (1 - (w : Int)))] σ (PI K) := by
  have hv0 := hv.1
  refine eX12_tip ⟨hM.ob, hM.a7 (by omega) (by omega), ?_⟩
  rw [h.jn hM ha, show V a 0 2 = ((V a 0 2).toNat : Int) by omega]
  exact m_pointOf hM h ha hp hp2 (by omega) hw hK
theorem m_hop {p q : Int} (hM : Mp σ) (h : MArms σ V) (ha : a < 2) (hw : ArmWf (V a)) (hp : 0 ≤ p) (hp2 : p < 2147483648) (hq : 0 ≤ q) (hq2 : q < 2147483648) (hK : K (I (hop (V a) p q)) σ) : Con l mX12_hopOf [.inr 82, .inl (I a), .inl (I p), .inl (I q)] σ (PI K) := by
  have hj3 := hw.1
  have F : ∀ n j : Nat, j + n = (V a 0 2).toNat → GW l mX12_hopOf 6 [(0, .inr 82), (1, .inl (I a)), (2, .inl (I p)), (3, .inl (I q)), (4, .inl (I (hps (V a) p q j))), (5, .inl (I j))] [] σ 0 0 (PI K) := by
    intro n
    induction n with
    | zero =>
      intro j hj
      have hj : j = (V a 0 2).toNat := by omega
      subst hj
      refine gX12_hopOf_6 ⟨hM.ob, hM.a7 (by omega) (by omega), fun c => hK, fun c => absurd ?_ c⟩
      rw [h.jn hM ha]
      exact (I_le ⟨by omega, by omega⟩ ⟨by omega, by omega⟩).mpr (by omega)
    | succ n ih =>
      intro j hj
      have a1 := plc_rg p j
      have a2 := plc_rg q j
      have a3 := hw.2.2.1 j (by omega) (by omega)
      have a4 := hw.2.1 j (by omega)
      have a5 := hps_rg hw p q j (by omega)
      have a6 := hpj_rg (A := V a) p q (j := j) a3.1 a4.2.2.2.2.2.2
      refine gX12_hopOf_6 ⟨hM.ob, hM.a7 (by omega) (by omega), fun c => ?_, fun c => ⟨?_, q_placeOfM hp hp2 (by omega) (q_placeOfM hq hq2 (by omega) ?_)⟩⟩
      · rw [h.jn hM ha, I_le ⟨by omega, by omega⟩ ⟨by omega, by omega⟩] at c; exact absurd c (by omega)
      · rw [ix3]; exact hM.a11 (by omega) (by omega)
      · rw [I_sub]
        refine q_abs (by omega) (by omega) ?_
        rw [ix3, h.r4 hM ha (by omega), I_0, I_1, I_add, I_sub]
        refine ⟨?_, ?_⟩
        · rw [I_eq ⟨by omega, by omega⟩ ⟨by omega, by omega⟩]; omega
        · have hd : ((if 0 ≤ plc p j - plc q j then plc p j - plc q j else -(plc p j - plc q j)) + V a 4 j - 1).tdiv (V a 4 j) = hpj (V a) p q j := by
            unfold hpj
            rw [Int.tdiv_eq_ediv_of_nonneg (by split <;> omega)]
          rw [I_div ⟨by split <;> omega, by split <;> omega⟩ ⟨by omega, by omega⟩ (by rw [hd]; exact ⟨by omega, by omega⟩), hd]
          refine q_max ⟨by omega, by omega⟩ ⟨by omega, by omega⟩ ?_
          rw [I_add]
          exact ih (j + 1) (by omega)
  exact eX12_hopOf (F (V a 0 2).toNat 0 (by omega))
end MA
