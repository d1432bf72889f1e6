/-! share: the reference's tapes -/
section SHQ
variable {l : Launch} {σ σ' τ : Sg} {v : Vt} {w0 N s m a t : Nat} {e : Int}
set_option maxHeartbeats 1000000 in
theorem m_put {K : Int32 → Sg → Prop} {v1 v3 v4 v5 : Int32} (hB : MBs τ v) (hw : WF w0 v) (htn : (t : Int) < v.2.2.1 1) (t10 : t < 10) (tz : v.2.1 t 0 1 ≠ 0) (ha : a < 2) (he : 0 ≤ e ∧ e ≤ 2000)
    (hK : ∀ τ', Ws [40, 42] [105, 106, 107, 111, 112, 113] τ τ' → (∀ r b, 111 ≤ r → b ≠ 2 * t + a → τ'.2.1 r b = τ.2.1 r b) → ((abT v e a t → τ'.2.1 111 (2 * t + a) = 1 ∧ τ'.2.1 112 (2 * t + a) = I (fsT v e a t) ∧ τ'.2.1 113 (2 * t + a) = I (lsT v e a t)) ∧ (¬ abT v e a t → τ'.2.1 111 (2 * t + a) = 0)) → GW l mX12_share 169 [(0, .inr 82), (1, .inl v1), (2, .inl (I e)), (3, .inl v3), (4, .inl v4), (5, .inl v5), (6, .inl (I t)), (7, .inl (I ((a : Int) + 1)))] [] τ' 0 0 (PI K)) : GW l mX12_share 169 [(0, .inr 82), (1, .inl v1), (2, .inl (I e)), (3, .inl v3), (4, .inl v4), (5, .inl v5), (6, .inl (I t)), (7, .inl (I a))] [] τ 0 0 (PI K) := by
  have wt := hw.2.2.2.1 t htn
  have wo := hw.1
  have en : v.2.1 t 0 1 = (fwN v t : Nat) := by unfold fwN; omega
  have ix : (2 : Int32) * I (t : Int) + I (a : Int) = I (2 * (t : Int) + (a : Int)) := by rw [show (2 : Int32) = I 2 from rfl, I_mul, I_add]
  have ixn : (2 * (t : Int) + (a : Int)).toNat = 2 * t + a := by omega
  have hT : TpF v t (v.2.1 t 0 0).toNat (fwN v t) := ⟨htn, t10, by omega, by omega, (hw.2.2.1 _ (by omega)).1, en, by omega, fun i hi => (wt.2.2.2.2.2 i (by omega)).1⟩
  have T : ∀ τ1 : Sg, ∀ x : Int32, Ws [40, 42] [105, 106, 107] τ τ1 → (x = 0 ∨ x = 1) → (abT v e a t → x = 1 ∧ (¬ v.2.1 t 0 0 = (a : Int) → τ1.2.1 107 0 = I (fsT v e a t) ∧ τ1.2.1 107 (fwN v t - 1) = I (lsT v e a t))) → (¬ abT v e a t → x = 0) → GW l mX12_share 216 [(0, .inr 82), (1, .inl v1), (2, .inl (I e)), (3, .inl v3), (4, .inl v4), (5, .inl v5), (6, .inl (I t)), (7, .inl (I a))] [.inl x, .inl (2 * I t + I a), .inr (τ.2.2 82 50)] τ1 0 0 (PI K) := by
    intro τ1 x w1' x01 b1 b0
    have B1 := hB.ws w1' (by decide) (by decide)
    rw [ix, hB.1.k50]
    refine gX12_share_216 ⟨by have := B1.1.a50 (z := 2 * (t : Int) + (a : Int)) (by omega) (by omega); rw [B1.1.k50] at this; exact this, x01, fun σ3 e3 => ?_⟩
    rw [I_cl (by omega) (by omega), ixn] at e3
    have w3 : Ws [40, 42] [105, 106, 107, 111, 112, 113] τ1 σ3 := Ws.c e3 (by decide) (by decide)
    have W3 := (w1'.up (S' := [40, 42]) (C' := [105, 106, 107, 111, 112, 113]) (by decide) (by decide)).tr w3
    have B3 := hB.ws W3 (by decide) (by decide)
    have q3 : ∀ r b, 111 ≤ r → b ≠ 2 * t + a → σ3.2.1 r b = τ.2.1 r b := fun r b r1 r2 => by
      have : σ3.2.1 r b = τ1.2.1 r b := by
        rw [e3]
        by_cases z : r = 111
        · rw [z, w1_k r2]
        · rw [w1_r z]
      rw [this, w1'.2.2.1 r (by omega) (by simp only [List.mem_cons, List.not_mem_nil, or_false, not_or]; omega)]
    rw [ix, B3.1.d50 (by omega) (by omega), ixn, show σ3.2.1 111 (2 * t + a) = x by rw [e3, w1_at]]
    refine ⟨B3.1.ob, B3.1.a50 (by omega) (by omega), fun xn => ⟨B3.1.a17 (by omega) (by omega), ?_⟩, fun x0 => ?_⟩
    · have ab : abT v e a t := by
        by_cases q : abT v e a t
        · exact q
        · exact absurd (b0 q) xn
      obtain ⟨x1, b2⟩ := b1 ab
      have v107 : ∀ i, σ3.2.1 107 i = τ1.2.1 107 i := fun i => by rw [e3, w1_r (by omega)]
      have E : GW l mX12_share 277 [(0, .inr 82), (1, .inl v1), (2, .inl (I e)), (3, .inl v3), (4, .inl v4), (5, .inl v5), (6, .inl (I t)), (7, .inl (I a))] [.inl (I (fsT v e a t)), .inl (I (2 * (t : Int) + (a : Int))), .inr (σ3.2.2 82 51)] σ3 0 0 (PI K) := by
        refine gX12_share_277 ⟨B3.1.a51 (by omega) (by omega), fun σ4 e4 => ?_⟩
        rw [B3.1.k51, I_cl (by omega) (by omega), ixn] at e4
        have w4 : Ws [40, 42] [105, 106, 107, 111, 112, 113] σ3 σ4 := Ws.c e4 (by decide) (by decide)
        have W4 := W3.tr w4
        have B4 := hB.ws W4 (by decide) (by decide)
        have fin : ∀ σ5, σ5 = w1 σ4 113 (2 * t + a) (I (lsT v e a t)) → GW l mX12_share 169 [(0, .inr 82), (1, .inl v1), (2, .inl (I e)), (3, .inl v3), (4, .inl v4), (5, .inl v5), (6, .inl (I t)), (7, .inl (I ((a : Int) + 1)))] [] σ5 0 0 (PI K) := fun σ5 e5 => by
          refine hK σ5 (W4.tr (Ws.c e5 (by decide) (by decide))) (fun r b r1 r2 => ?_) ⟨fun _ => ⟨?_, ?_, ?_⟩, fun q => absurd ab q⟩
          · rw [e5]
            by_cases z : r = 113
            · rw [z, w1_k r2, e4, w1_r (by omega)]; exact q3 113 b (by omega) r2
            · rw [w1_r z, e4]
              by_cases z2 : r = 112
              · rw [z2, w1_k r2]; exact q3 112 b (by omega) r2
              · rw [w1_r z2]; exact q3 r b r1 r2
          · rw [e5, w1_r (by omega), e4, w1_r (by omega), e3, w1_at]; exact x1
          · rw [e5, w1_r (by omega), e4, w1_at]
          · rw [e5, w1_at]
        rw [B4.ow htn t10, I_eq' (by omega) (by omega) (by omega) (by omega), ix, B4.tk htn t10, I_1, I_add]
        refine ⟨B4.1.ob, B4.1.a17 (by omega) (by omega), fun no => ⟨B4.1.a18 (by omega) (by omega), ?_⟩, fun ow => ⟨B4.1.a18 (by omega) (by omega), ?_⟩⟩
        · rw [I_sub, show v.2.1 t 0 1 - 1 = ((fwN v t - 1 : Nat) : Int) by omega]
          refine ⟨B4.1.a45 (by omega) (by omega), B4.1.a52 (by omega) (by omega), fun σ5 e5 => fin σ5 ?_⟩
          rw [B4.1.k52, I_cl (by omega) (by omega), ixn, B4.1.d45 (by omega) (by omega), I_tn, e4, w1_r (by omega), v107, (b2 (fun q => no q.symm)).2] at e5
          rw [e4]; exact e5
        · rw [show (40 : Int32) = I 40 from rfl, I_mul, I_add, I_sub, show 40 * (t : Int) + v.2.1 t 0 1 - 1 = ((40 * t + (v.2.1 t 0 1 - 1).toNat : Nat) : Int) by omega]
          refine ⟨B4.1.a19 (by omega) (by omega), B4.1.a52 (by omega) (by omega), fun σ5 e5 => fin σ5 ?_⟩
          rw [B4.ps htn t10 (by omega) (by omega), B4.1.k52, I_cl (by omega) (by omega), ixn] at e5
          unfold lsT; rw [if_pos ow.symm]; exact e5
      rw [B3.ow htn t10, I_eq' (by omega) (by omega) (by omega) (by omega)]
      refine ⟨fun no => ⟨B3.1.a45 (z := 0) (by omega) (by omega), ?_⟩, fun ow => ?_⟩
      · rw [I_0, B3.1.d45 (by omega) (by omega), show (0 : Int).toNat = 0 from rfl, v107, (b2 (fun q => no q.symm)).1]
        exact E
      · rw [show (40 : Int32) = I 40 from rfl, I_mul, show 40 * (t : Int) = ((40 * t + 0 : Nat) : Int) by omega]
        refine ⟨B3.1.a19 (by omega) (by omega), ?_⟩
        rw [B3.ps htn t10 (by omega) (by omega)]
        have : fsT v e a t = v.2.1 t 1 0 := by unfold fsT; rw [if_pos ow.symm]
        rw [← this]
        exact E
    · rw [I_1, I_add]
      refine hK σ3 W3 q3 ⟨fun ab => ?_, fun _ => ?_⟩
      · rw [(b1 ab).1] at x0; exact absurd x0 (by decide)
      · rw [e3, w1_at]; exact x0
  refine gX12_share_169 ⟨fun q => ?_, fun _ => ⟨hB.1.ob, hB.1.a17 (by omega) (by omega), ?_⟩⟩
  · rw [L_lit, I_le ⟨by omega, by omega⟩ ⟨by omega, by omega⟩] at q; exact absurd q (by omega)
  rw [hB.ow htn t10, I_eq' (by omega) (by omega) (by omega) (by omega)]
  refine ⟨fun ow => T τ 1 (Ws.rf _ _ _) (Or.inr rfl) (fun _ => ⟨rfl, fun q => absurd ow.symm q⟩) (fun q => absurd (Or.inl ow.symm) q), fun no => ?_⟩
  have no' : ¬ v.2.1 t 0 0 = (a : Int) := fun q => no q.symm
  refine m_follows (X := fwX v t 0) (Y := fwY v t) hB hT ha (hw.2.2.1 a ha).1 (by omega) ⟨by omega, by omega⟩ he rfl rfl (fun hf σ3 w3 h42 hrow => ⟨fun z => absurd z (by decide), fun _ => ?_⟩) (fun nf σ3 w3 h40 => ⟨fun _ => ?_, fun z => absurd rfl z⟩)
  · refine T σ3 1 (w3.up (by decide) (by decide)) (Or.inr rfl) (fun _ => ⟨rfl, fun _ => ⟨?_, ?_⟩⟩) (fun q => absurd (Or.inr hf) q)
    · unfold fsT; rw [if_neg no']; exact hrow 0 (by omega)
    · unfold lsT; rw [if_neg no']; exact hrow (fwN v t - 1) (by omega)
  · exact T σ3 0 w3 (Or.inl rfl) (fun q => absurd (q.resolve_left no') nf) (fun _ => rfl)
end SHQ
