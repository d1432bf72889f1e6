/-! share: the reference -/
section SHM
variable {l : Launch} {σ σ' τ : Sg} {v : Vt} {c : Nat}
theorem M_share {s e w : Int} (h : MR σ v) (hw : WF c v) (hs : Rg s) (he : Rg e) (hq : Rg w) : Con l mX12_share [.inr 82, .inl (I s), .inl (I e), .inl (I w)] σ (PI fun q σ' => q = I (aShare v s e w) ∧ MR σ' v ∧ MF σ σ') := by
  have w0 := hw.1
  obtain ⟨N, hN⟩ : ∃ N : Nat, v.2.2.1 1 = N := ⟨(v.2.2.1 1).toNat, by omega⟩
  have N10 : N ≤ 10 := by omega
  have pN : 2 ^ N ≤ 2 ^ 10 := Nat.pow_le_pow_right (by omega) N10
  have pN0 : 0 < 2 ^ N := Nat.two_pow_pos N
  have tN : (v.2.2.1 1).toNat = N := by omega
  have a0 := (hw.2.2.1 0 (by omega)).1.1
  have a1 := (hw.2.2.1 1 (by omega)).1.1
  refine eX12_share ⟨h.1.ob, fun σ2 e2 => ?_⟩
  obtain ⟨h2, f2⟩ := h.w e2 (by decide)
  have no : ∀ {q : Int32} {τ : Sg}, q = -1 → MSm σ2 τ → ¬ okSh v s e w → q = I (aShare v s e w) ∧ MR τ v ∧ MF σ τ := by
    intro q τ e1 ms hq
    obtain ⟨h3, f3⟩ := h2.sm ms
    unfold aShare
    rw [cif_f hq]
    exact ⟨e1, h3, f2.tr f3⟩
  have no2 : ∀ {q : Int32}, q = -1 → ¬ okSh v s e w → q = I (aShare v s e w) ∧ MR σ2 v ∧ MF σ σ2 := fun e1 hq => no e1 (MSm.rf _) hq
  rw [I_0, I_le' hs.1 hs.2 (by omega) (by omega), h2.2.2.1.1, hN, onI N (by omega), I_le' (by omega) (by omega) hs.1 hs.2]
  refine ⟨fun q => no2 rfl (fun k => by have := k.2.2.2.2.2.1; omega), fun s0 => ⟨fun q => no2 rfl (fun k => by have := k.2.2.2.2.2.2.1; rw [tN] at this; omega), fun s1 => ?_⟩⟩
  refine m_isError he (fun e1 => ⟨fun z => absurd z (by decide), fun _ => ?_⟩) (fun e1 => ⟨fun _ => no2 rfl (fun k => e1 k.1), fun z => absurd rfl z⟩)
  rw [I_1, I_lt' hq.1 hq.2 (by omega) (by omega), I_lt' (by omega) (by omega) hq.1 hq.2]
  refine ⟨fun q => no2 rfl (fun k => by have := k.2.1.1; omega), fun w1' => ⟨fun q => no2 rfl (fun k => by have := k.2.1.2; omega), fun w2' => ?_⟩⟩
  rw [h2.2.1.1, show (2 : Int32) = I 2 from rfl, I_lt' (by omega) (by omega) (by omega) (by omega)]
  refine ⟨fun q => no2 rfl (fun k => by have := k.2.2.1; omega), fun ar => ⟨h2.1.a7 (z := 0) (by omega) (by omega), ?_⟩⟩
  have j0 := h2.2.1.2.jn h2.1 (a := 0) (by omega)
  have j1 := h2.2.1.2.jn h2.1 (a := 1) (by omega)
  rw [show (I ((0 : Nat) : Int)) = I 0 from rfl] at j0
  rw [show (I ((1 : Nat) : Int)) = I 1 from rfl] at j1
  rw [j0, j1, I_eq' (by omega) (by omega) (by omega) (by omega), I_eq' (by omega) (by omega) (by omega) (by omega)]
  refine ⟨fun q => no2 rfl (fun k => k.2.2.2.1 q), fun n0 => ⟨h2.1.a7 (z := 1) (by omega) (by omega), fun n1 σ14 e14 => ?_, fun q => no2 rfl (fun k => k.2.2.2.2.1 q)⟩⟩
  obtain ⟨S, eS⟩ : ∃ S : Nat, s = S := ⟨s.toNat, by omega⟩
  subst eS
  have sN : S < 2 ^ N := by omega
  have s10 : S < 1024 := by omega
  have ms1 : ∀ {τ}, Ws [54] [114] σ2 τ → MSm σ2 τ := fun q => ⟨q.1, q.2.1, fun r r1 r2 => q.2.2.1 r r1 (by simp only [List.mem_cons, List.not_mem_nil, or_false]; omega), fun k hk => q.2.2.2 k (by intro z; rw [List.mem_singleton] at z; rw [z] at hk; exact absurd hk (by decide))⟩
  have F := lp (N := N) (P := fun i => ∀ τ, Ws [54] [114] σ2 τ → τ.2.1 82 54 = I (cntB S i : Nat) → cntB S i ≤ 5 → (∀ k, k < cntB S i → τ.2.1 114 k = I (nth S i k : Nat)) → (∀ t, t < i → S.testBit t = true → v.2.1 t 0 1 ≠ 0) → GW l mX12_share 71 [(0, .inr 82), (1, .inl (I S)), (2, .inl (I e)), (3, .inl (I w)), (4, .inl (I i))] [] τ 0 0 (PI fun q σ' => q = I (aShare v S e w) ∧ MR σ' v ∧ MF σ σ')) ?_ ?_ 0 (by omega)
  · exact F σ14 (Ws.w e14 (by decide)) (by rw [e14, w1_at]; rfl) (by show 0 ≤ 5; omega) (fun k hk => absurd hk (by show ¬ k < 0; omega)) (fun t ht => absurd ht (by omega))
  · intro τ ws k54 m5 ch al
    obtain ⟨hT, fT⟩ := h2.sm (ms1 ws)
    have st := cnt_stab sN 10 N10
    rw [← st.1] at k54 m5 ch
    have ch : ∀ k, k < cntB S 10 → τ.2.1 114 k = I (nth S 10 k : Nat) := fun k hk => by rw [st.2]; exact ch k hk
    have hc : Chs v S (cntB S 10) := ⟨rfl, m5, fun k hk => by
      have q := nth_ok N k (by rw [← st.1]; exact hk)
      rw [st.2]
      exact ⟨by omega, by omega, q.2.1, al _ q.1 q.2.1⟩⟩
    have ok : okSh v S e w := ⟨e1, ⟨by omega, by omega⟩, by omega, n0, n1, by omega, by rw [tN]; omega, by rw [I_tn]; exact m5, fun t t1 t2 => al t (by omega) (by rw [I_tn] at t2; exact t2)⟩
    refine gX12_share_71 ⟨hT.1.ob, fun _ => ?_, fun q => absurd ?_ q⟩
    · have G := lp (N := cntB S 10) (P := fun k => ∀ τ', Ws [40, 42] [105, 106, 107, 111, 112, 113] τ τ' → (∀ k', k' < k → ∀ a, a < 2 → (abT v e a (nth S 10 k') → τ'.2.1 111 (2 * nth S 10 k' + a) = 1 ∧ τ'.2.1 112 (2 * nth S 10 k' + a) = I (fsT v e a (nth S 10 k')) ∧ τ'.2.1 113 (2 * nth S 10 k' + a) = I (lsT v e a (nth S 10 k'))) ∧ (¬ abT v e a (nth S 10 k') → τ'.2.1 111 (2 * nth S 10 k' + a) = 0)) → GW l mX12_share 148 [(0, .inr 82), (1, .inl (I S)), (2, .inl (I e)), (3, .inl (I w)), (4, .inl (τ.2.1 82 40)), (5, .inl (I k))] [] τ' 0 0 (PI fun q σ' => q = I (aShare v S e w) ∧ MR σ' v ∧ MF σ σ')) ?_ ?_ 0 (by omega)
      · exact G τ (Ws.rf _ _ _) (fun k' hk => absurd hk (by omega))
      · intro τ' wt en
        have M' := wt.M hT.1
        refine gX12_share_148 ⟨M'.ob, fun _ σ3 e3 => ?_, fun q => absurd ?_ q⟩
        · have w3 : Ws [40, 42] [105, 106, 107, 111, 112, 113] τ σ3 := wt.tr (Ws.w e3 (by decide))
          have ms3 : MSm τ σ3 := ⟨w3.1, w3.2.1, fun r r1 r2 => w3.2.2.1 r r1 (by simp only [List.mem_cons, List.not_mem_nil, or_false]; omega), fun k hk => by
            by_cases z : k = 40
            · rw [z, e3, w1_at]
            · exact w3.2.2.2 k (by
                intro y
                simp only [List.mem_cons, List.not_mem_nil, or_false] at y hk
                omega)⟩
          obtain ⟨h3, f3⟩ := hT.sm ms3
          refine m_sh366 (e := e) h3.bs hw hN sN hc ⟨by rw [w3.2.2.2 54 (by decide)]; exact k54, fun k hk => ⟨by rw [w3.2.2.1 114 (by decide) (by decide)]; exact ch k hk, fun a ha => ?_⟩⟩ ⟨by omega, by omega⟩ (fun lt bs an => ⟨?_, h3, (f2.tr fT).tr f3⟩)
          · have := en k hk a ha
            rw [e3, w1_r (by omega), w1_r (by omega), w1_r (by omega)]
            exact this
          · unfold aShare
            rw [cif_t ok, I_tn, (lbS_eq an).1, (lbS_eq an).2]
        · rw [wt.2.2.2 54 (by decide), k54]; exact (I_le ⟨by omega, by omega⟩ ⟨by omega, by omega⟩).mpr (Int.le_refl _)
      · intro k hk ih τ' wt en
        have M' := wt.M hT.1
        have hk' := hc.2.2 k hk
        have B' := hT.bs.ws wt (by decide) (by decide)
        refine gX12_share_148 ⟨M'.ob, fun q => ?_, fun _ => ⟨M'.a53 (by omega) (by omega), ?_⟩⟩
        · rw [wt.2.2.2 54 (by decide), k54, I_le ⟨by omega, by omega⟩ ⟨by omega, by omega⟩] at q; exact absurd q (by omega)
        rw [M'.d53 (by omega) (by omega), I_tn, wt.2.2.1 114 (by decide) (by decide), ch k hk]
        refine m_put (a := 0) B' hw hk'.1 hk'.2.1 hk'.2.2.2 (by omega) e1 (fun τ1 w1'' q1 d1 => ?_)
        have W1 := wt.tr w1''
        have B1 := hT.bs.ws W1 (by decide) (by decide)
        refine m_put (a := 1) B1 hw hk'.1 hk'.2.1 hk'.2.2.2 (by omega) e1 (fun τ2 w2'' q2 d2 => ?_)
        have W2 := W1.tr w2''
        refine gX12_share_169 ⟨fun _ => ?_, fun q => absurd (by decide) q⟩
        rw [I_1, I_add]
        refine ih τ2 W2 (fun k' kk a ha => ?_)
        by_cases z : k' = k
        · rw [z]
          have ha : a = 0 ∨ a = 1 := by omega
          rcases ha with rfl | rfl
          · rw [q2 111 _ (by omega) (by omega), q2 112 _ (by omega) (by omega), q2 113 _ (by omega) (by omega)]; exact d1
          · exact d2
        · have ne : nth S 10 k' ≠ nth S 10 k := fun y => z (hc.inj (by omega) hk y)
          rw [q2 111 _ (by omega) (by omega), q2 112 _ (by omega) (by omega), q2 113 _ (by omega) (by omega), q1 111 _ (by omega) (by omega), q1 112 _ (by omega) (by omega), q1 113 _ (by omega) (by omega)]
          exact en k' (by omega) a ha
    · rw [hT.2.2.1.1, hN]; exact (I_le ⟨by omega, by omega⟩ ⟨by omega, by omega⟩).mpr (Int.le_refl _)
  · intro i hi ih τ ws k54 m5 ch al
    obtain ⟨hT, fT⟩ := h2.sm (ms1 ws)
    have wt := hw.2.2.2.1 i (by omega)
    refine gX12_share_71 ⟨hT.1.ob, fun q => ?_, fun _ => ?_⟩
    · rw [hT.2.2.1.1, hN, I_le ⟨by omega, by omega⟩ ⟨by omega, by omega⟩] at q; exact absurd q (by omega)
    rw [bitI (by omega) (by omega)]
    by_cases z : S.testBit i = true
    · rw [if_pos z]
      have ec : cntB S (i + 1) = cntB S i + 1 := by rw [cntB_s, if_pos z]
      refine ⟨fun _ => ⟨hT.1.a18 (by omega) (by omega), ?_⟩, fun q => absurd q (by decide)⟩
      rw [hT.tk (by omega) (by omega), k54, I_0, I_eq' (by omega) (by omega) (by omega) (by omega), show (5 : Int32) = I 5 from rfl, I_eq' (by omega) (by omega) (by omega) (by omega)]
      refine ⟨fun q => no rfl (ms1 ws) (fun k => k.2.2.2.2.2.2.2.2 i (by omega) (by rw [I_tn]; exact z) q), fun tz => ⟨fun n5 => ⟨hT.1.a53 (by omega) (by omega), fun σ8 e8 σ9 e9 => ?_⟩, fun q => no rfl (ms1 ws) (fun k => ?_)⟩⟩
      · rw [hT.1.k53, I_cln (by omega)] at e8
        have s8 : σ8.2.1 82 54 = I (cntB S i : Nat) := by rw [e8, w1_r (by omega)]; exact k54
        rw [s8, I_1, I_add] at e9
        rw [I_1, I_add]
        refine ih σ9 ((ws.tr (Ws.c e8 (by decide) (by decide))).tr (Ws.w e9 (by decide))) (by rw [e9, w1_at, ec]; rfl) (by omega) (fun k hk => ?_) (fun t t1 t2 => ?_)
        · rw [ec] at hk
          rw [e9, w1_r (by omega), e8, nth_s]
          by_cases y : k = cntB S i
          · rw [if_pos ⟨z, y⟩, y, w1_at]
          · rw [if_neg (fun u => y u.2), w1_k y]; exact ch k (by omega)
        · by_cases y : t = i
          · rw [y]; exact tz
          · exact al t (by omega) t2
      · have k := k.2.2.2.2.2.2.2.1
        rw [I_tn] at k
        have := cntB_mono (s := S) 10 (show i + 1 ≤ 10 by omega)
        omega
    · rw [if_neg z]
      refine ⟨fun q => absurd rfl q, fun _ => ?_⟩
      have ec : cntB S (i + 1) = cntB S i := by rw [cntB_s, if_neg z, Nat.add_zero]
      rw [I_1, I_add]
      refine ih τ ws (by rw [ec]; exact k54) (by omega) (fun k hk => ?_) (fun t t1 t2 => ?_)
      · rw [ec] at hk
        rw [nth_s, if_neg (fun u => z u.1)]; exact ch k hk
      · by_cases y : t = i
        · exact absurd (y ▸ t2) z
        · exact al t (by omega) t2
end SHM
