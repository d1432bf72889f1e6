/-! the class's text: its tokens put down -/
section SPL
variable {l : Launch} {σ σ' : Sg} {v v' : Vt} {c : Nat} {B : Nat → Int} {n : Nat}
theorem q_put {K : Sg → Prop} {x y z : Int32} (hC : Cp σ) (h5 : σ.2.1 45 5 = I c) (hc : c ≤ 400) (hK : ∀ σ', Onl [45, 47, 48, 49] σ σ' → σ'.2.1 45 5 = I ((c + 1 : Nat) : Int) → (∀ k, k ≠ 5 → σ'.2.1 45 k = σ.2.1 45 k) → (σ'.2.1 47 c = x ∧ σ'.2.1 48 c = y ∧ σ'.2.1 49 c = z) → (∀ i, i ≠ c → σ'.2.1 47 i = σ.2.1 47 i ∧ σ'.2.1 48 i = σ.2.1 48 i ∧ σ'.2.1 49 i = σ.2.1 49 i) → K σ') : Con l mX10_put [.inr 45, .inl x, .inl y, .inl z] σ (PV K) := by
  refine eX10_put ⟨hC.o45, ?_⟩
  rw [h5]
  refine ⟨fun q => ?_, fun _ => ⟨fun q => ?_, fun _ => ⟨hC.a45_1 (by omega) (by omega), fun σ5 e5 => ?_⟩⟩⟩
  · rw [I_0, I_lt ⟨by omega, by omega⟩ ⟨by omega, by omega⟩] at q; omega
  · rw [L_lit, I_lt ⟨by omega, by omega⟩ ⟨by omega, by omega⟩] at q; omega
  rw [hC.p45_1, I_cln (by omega)] at e5
  have C5 : Cp σ5 := ⟨by rw [e5]; exact hC.1, by rw [e5]; exact hC.2⟩
  have t5 : σ5.2.1 45 5 = I c := by rw [e5, w1_r (by omega), h5]
  rw [t5]
  refine ⟨C5.a45_2 (by omega) (by omega), fun σ7 e7 => ?_⟩
  rw [C5.p45_2, I_cln (by omega)] at e7
  have C7 : Cp σ7 := ⟨by rw [e7]; exact C5.1, by rw [e7]; exact C5.2⟩
  have t7 : σ7.2.1 45 5 = I c := by rw [e7, w1_r (by omega), t5]
  rw [t7]
  refine ⟨C7.a45_3 (by omega) (by omega), fun σ9 e9 σ10 e10 => ?_⟩
  rw [C7.p45_3, I_cln (by omega)] at e9
  have t9 : σ9.2.1 45 5 = I c := by rw [e9, w1_r (by omega), t7]
  rw [t9, I_1, I_add] at e10
  refine hK σ10 ⟨by rw [e10, e9, e7, e5]; rfl, by rw [e10, e9, e7, e5]; rfl, fun r hr => ?_⟩ (by rw [e10, w1_at]; rfl) (fun k hk => by rw [e10, w1_k hk, e9, w1_r (by omega), e7, w1_r (by omega), e5, w1_r (by omega)]) ⟨?_, ?_, ?_⟩ (fun i hi => ⟨?_, ?_, ?_⟩)
  · simp only [List.mem_cons, List.not_mem_nil, or_false, not_or] at hr
    rw [e10, w1_r (by omega), e9, w1_r (by omega), e7, w1_r (by omega), e5, w1_r (by omega)]
  · rw [e10, w1_r (by omega), e9, w1_r (by omega), e7, w1_r (by omega), e5, w1_at]
  · rw [e10, w1_r (by omega), e9, w1_r (by omega), e7, w1_at]
  · rw [e10, w1_r (by omega), e9, w1_at]
  · rw [e10, w1_r (by omega), e9, w1_r (by omega), e7, w1_r (by omega), e5, w1_k hi]
  · rw [e10, w1_r (by omega), e9, w1_r (by omega), e7, w1_k hi, e5, w1_r (by omega)]
  · rw [e10, w1_r (by omega), e9, w1_k hi, e7, w1_r (by omega), e5, w1_r (by omega)]
/-- the first c tokens are put down -/
def TkS (σ : Sg) (B : Nat → Int) (n c : Nat) : Prop := ∀ i, i < c → σ.2.1 47 i = I (knd B n (tk B n i)) ∧ σ.2.1 48 i = I (tk B n i : Nat) ∧ σ.2.1 49 i = I (min (vlu B n (tk B n i)) 100)
theorem TkS.put {σ' : Sg} (h : TkS σ B n c) (h1 : σ'.2.1 47 c = I (knd B n (tk B n c)) ∧ σ'.2.1 48 c = I (tk B n c : Nat) ∧ σ'.2.1 49 c = I (min (vlu B n (tk B n c)) 100)) (h2 : ∀ i, i ≠ c → σ'.2.1 47 i = σ.2.1 47 i ∧ σ'.2.1 48 i = σ.2.1 48 i ∧ σ'.2.1 49 i = σ.2.1 49 i) : TkS σ' B n (c + 1) := by
  intro i hi
  by_cases e : i = c
  · rw [e]; exact h1
  · obtain ⟨a1, a2, a3⟩ := h2 i e
    rw [a1, a2, a3]; exact h i (by omega)
theorem ws_not {p : Nat} (h : ¬ (B p = 10 ∨ B p = 32)) : skp B n p = p := by
  unfold skp
  exact run_no (by unfold isWsF; rw [decide_eq_true_eq]; exact h)
theorem ws_yes {p : Nat} (hp : p < n) (h : B p = 10 ∨ B p = 32) : skp B n p = skp B n (p + 1) := by
  unfold skp
  exact run_yes hp (by unfold isWsF; rw [decide_eq_true_eq]; exact h)
theorem lo_iff {p : Nat} : isLoF B p = true ↔ (97 ≤ B p ∧ B p ≤ 122) := by unfold isLoF rgB; rw [decide_eq_true_eq]
theorem dg_iff {p : Nat} : isDgF B p = true ↔ (48 ≤ B p ∧ B p ≤ 57) := by unfold isDgF rgB; rw [decide_eq_true_eq]
theorem tk_lo {p : Nat} (hp : p < n) (h : 97 ≤ B p ∧ B p ≤ 122) : nxt B n p = run (isLoF B) n (p + 1) ∧ knd B n p = (if wkd B p (nxt B n p) = -1 then 1 else 4 + wkd B p (nxt B n p)) ∧ vlu B n p = 0 := by
  have h' := lo_iff.mpr h
  unfold nxt knd vlu
  rw [if_neg (show ¬ n ≤ p by omega), if_pos h', if_neg (show ¬ n ≤ p by omega), if_pos h', if_neg (show ¬ n ≤ p by omega), if_pos h']
  refine ⟨rfl, ?_, rfl⟩
  unfold nxt
  rw [if_neg (show ¬ n ≤ p by omega), if_pos h']
theorem tk_dg {p : Nat} (hp : p < n) (h : 48 ≤ B p ∧ B p ≤ 57) : nxt B n p = run (isDgF B) n (p + 1) ∧ knd B n p = 2 ∧ vlu B n p = vrF B p (nxt B n p - p) := by
  have h' := dg_iff.mpr h
  have h0 : ¬ isLoF B p = true := fun q => by have := lo_iff.mp q; omega
  unfold nxt knd vlu
  rw [if_neg (show ¬ n ≤ p by omega), if_neg h0, if_pos h', if_neg (show ¬ n ≤ p by omega), if_neg h0, if_pos h', if_neg (show ¬ n ≤ p by omega), if_neg h0, if_pos h']
  refine ⟨rfl, rfl, ?_⟩
  unfold nxt
  rw [if_neg (show ¬ n ≤ p by omega), if_neg h0, if_pos h']
theorem tk_ot {p : Nat} (hp : p < n) (h : ¬ (97 ≤ B p ∧ B p ≤ 122)) (h2 : ¬ (48 ≤ B p ∧ B p ≤ 57)) : nxt B n p = p + 1 ∧ knd B n p = (if B p = 59 then 3 else 1) ∧ vlu B n p = 0 := by
  have h' : ¬ isDgF B p = true := fun q => h2 (dg_iff.mp q)
  have h0 : ¬ isLoF B p = true := fun q => h (lo_iff.mp q)
  unfold nxt knd vlu
  rw [if_neg (show ¬ n ≤ p by omega), if_neg h0, if_neg h', if_neg (show ¬ n ≤ p by omega), if_neg h0, if_neg h', if_neg (show ¬ n ≤ p by omega), if_neg h0, if_neg h']
  exact ⟨rfl, rfl, rfl⟩
theorem q_takeToken {K : Int32 → Sg → Prop} {p : Nat} (hC : Cp σ) (hB : TxB σ B n) (hp : p < n) (h5 : σ.2.1 45 5 = I c) (hT : TkS σ B n c) (hcp : c ≤ p) (hs : skp B n p = tk B n c)
    (hK : ∀ (p' c' : Nat) σ', p < p' → p' ≤ n → c' ≤ p' → (c' = c ∨ (c' = c + 1 ∧ tk B n c < n)) → skp B n p' = tk B n c' → Onl [45, 47, 48, 49] σ σ' → σ'.2.1 45 5 = I c' → (∀ k, k ≠ 5 → σ'.2.1 45 k = σ.2.1 45 k) → TkS σ' B n c' → K (I p') σ') : Con l mX10_takeToken [.inr 45, .inl (I p), .inl (I n)] σ (PI K) := by
  have n4 := hB.1
  have bp := hB.2.2 p hp
  have ws : (B p = 10 ∨ B p = 32) → K (I p + 1) σ := fun q => by
    rw [I_1, I_add]
    exact hK (p + 1) c σ (by omega) (by omega) (by omega) (Or.inl rfl) (by rw [← ws_yes hp q]; exact hs) (Onl.rf _ _) h5 (fun _ _ => rfl) hT
  refine eX10_takeToken ⟨hC.o45, q_byteAt hC hB hp ?_⟩
  rw [show (32 : Int32) = I 32 from rfl, show (10 : Int32) = I 10 from rfl, I_eq' (by omega) (by omega) (by omega) (by omega), I_eq' (by omega) (by omega) (by omega) (by omega)]
  refine ⟨fun q => ws (Or.inr q), fun q1 => ⟨fun q2 => ?_, fun q => ws (Or.inl q)⟩⟩
  have e0 : tk B n c = p := by rw [← hs]; exact ws_not (by omega)
  have stp : tk B n (c + 1) = skp B n (nxt B n p) := by show skp B n (nxt B n (tk B n c)) = _; rw [e0]
  have ng := nxt_gt (B := B) hp
  refine q_within (b := 97) (c := 122) ⟨by omega, by omega⟩ ⟨by omega, by omega⟩ ⟨by omega, by omega⟩ (fun a b => ⟨fun q => absurd q (by decide), fun _ => ?_⟩) (fun a => ⟨fun _ => ?_, fun q => absurd rfl q⟩)
  · obtain ⟨k1, k2, k3⟩ := tk_lo hp ⟨a, b⟩
    refine q_endOfRow (lo := 97) (hi := 122) hC hB hp ⟨by omega, by omega⟩ ⟨by omega, by omega⟩ ?_
    have e1 : run (fun i => rgB 97 122 (B i)) n (p + 1) = nxt B n p := k1.symm
    rw [e1, I_sub]
    refine q_wordKind hC hB ng.1 ng.2 (q_put hC h5 (by omega) (fun σ' ho h5' hk' hp' hi' => ?_))
    rw [← k2] at hp'
    refine hK _ (c + 1) σ' ng.1 ng.2 (by omega) (Or.inr ⟨rfl, by omega⟩) stp.symm ho h5' hk' (hT.put ?_ hi')
    rw [e0, k3]; exact hp'
  · refine q_within (b := 48) (c := 57) ⟨by omega, by omega⟩ ⟨by omega, by omega⟩ ⟨by omega, by omega⟩ (fun d e => ⟨fun q => absurd q (by decide), fun _ => ?_⟩) (fun d => ⟨fun _ => ?_, fun q => absurd rfl q⟩)
    · obtain ⟨k1, k2, k3⟩ := tk_dg hp ⟨d, e⟩
      refine q_endOfRow (lo := 48) (hi := 57) hC hB hp ⟨by omega, by omega⟩ ⟨by omega, by omega⟩ ?_
      have e1 : run (fun i => rgB 48 57 (B i)) n (p + 1) = nxt B n p := k1.symm
      rw [e1]
      refine q_valueOf hC hB (by omega) ng.2 (fun i h1 h2 => ?_) (q_put hC h5 (by omega) (fun σ' ho h5' hk' hp' hi' => ?_))
      · by_cases z : i = p
        · rw [z]; exact ⟨d, e⟩
        · rw [k1] at h2
          exact dg_iff.mp (run_all _ (p + 1) (isDgF B) rfl (by omega) i (by omega) h2)
      · refine hK _ (c + 1) σ' ng.1 ng.2 (by omega) (Or.inr ⟨rfl, by omega⟩) stp.symm ho h5' hk' (hT.put ?_ hi')
        rw [e0, k3, k2]; exact hp'
    · obtain ⟨k1, k2, k3⟩ := tk_ot hp a d
      rw [k1] at stp
      have G : ∀ x : Int32, x = I (knd B n p) → GW l mX10_takeToken 114 [(0, .inr 45), (1, .inl (I p)), (2, .inl (I n)), (3, .inl (I (B p)))] [.inl x, .inr 45] σ 0 0 (PI K) := by
        intro x hx
        refine gX10_takeToken_114 ⟨hC.o45, q_put hC h5 (by omega) (fun σ' ho h5' hk' hp' hi' => ?_)⟩
        rw [I_1, I_add]
        refine hK (p + 1) (c + 1) σ' (by omega) (by omega) (by omega) (Or.inr ⟨rfl, by omega⟩) stp.symm ho h5' hk' (hT.put ?_ hi')
        rw [e0, k3, ← hx]; exact hp'
      rw [show (59 : Int32) = I 59 from rfl, I_eq' (by omega) (by omega) (by omega) (by omega)]
      refine ⟨fun q => G _ ?_, fun q => G _ ?_⟩
      · rw [k2, if_neg q]; rfl
      · rw [k2, if_pos q]; rfl
/-- all tokens of the text are put down; the last is its end -/
def TokA (σ : Sg) (B : Nat → Int) (n N : Nat) : Prop := n ≤ 400 ∧ N ≤ n ∧ TkS σ B n (N + 1) ∧ (∀ i, i < N → tk B n i < n) ∧ tk B n N = n
theorem TokA.onl {S : List Nat} {N : Nat} (h : TokA σ B n N) (ho : Onl S σ σ') (h1 : 47 ∉ S) (h2 : 48 ∉ S) (h3 : 49 ∉ S) : TokA σ' B n N := by
  refine ⟨h.1, h.2.1, fun i hi => ?_, h.2.2.2⟩
  rw [ho.2.2 47 h1, ho.2.2 48 h2, ho.2.2 49 h3]; exact h.2.2.1 i hi
theorem q_split {K : Sg → Prop} (hC : Cp σ) (hB : TxB σ B n) (hK : ∀ (N : Nat) σ', Onl [45, 47, 48, 49] σ σ' → σ'.2.1 45 4 = I 0 → TokA σ' B n N → K σ') : Con l mX10_split [.inr 45, .inl (I n)] σ (PV K) := by
  have n4 := hB.1
  have E : ∀ (p c i : Nat) (σ1 : Sg), p = n → c ≤ p → i ≤ p → skp B n p = tk B n c → (∀ i, i < c → tk B n i < n) → Onl [45, 47, 48, 49] σ σ1 → σ1.2.1 45 5 = I c → TkS σ1 B n c → GW l mX10_split 9 [(0, .inr 45), (1, .inl (I n)), (2, .inl (I p)), (3, .inl (I i))] [] σ1 0 0 (PV K) := by
    intro p c i σ1 ep hc hi hs hlt ho h5 hT
    have C1 := ho.C hC
    have et : tk B n c = n := by rw [← hs, ep]; exact run_end (Nat.le_refl _)
    have G : GW l mX10_split 32 [(0, .inr 45), (1, .inl (I n)), (2, .inl (I p)), (3, .inl (I i))] [] σ1 0 0 (PV K) := by
      refine gX10_split_32 ⟨C1.o45, q_put C1 h5 (by omega) (fun σ2 ho2 h52 hk2 hp2 hi2 σ3 e3 => ?_)⟩
      have ho3 : Onl [45, 47, 48, 49] σ2 σ3 := Onl.w e3 (by decide)
      refine hK c σ3 ((ho.tr ho2).tr ho3) (by rw [e3, w1_at]; rfl) ⟨n4, by omega, fun j hj => ?_, hlt, et⟩
      have : TkS σ2 B n (c + 1) := hT.put (by rw [et]; unfold knd vlu; rw [if_pos (Nat.le_refl n), if_pos (Nat.le_refl n)]; exact hp2) hi2
      rw [e3, w1_r (by omega), w1_r (by omega), w1_r (by omega)]
      exact this j hj
    refine gX10_split_9 ⟨fun _ => G, fun _ => ⟨fun _ => G, fun q => absurd ((I_le ⟨by omega, by omega⟩ ⟨by omega, by omega⟩).mpr (by omega)) q⟩⟩
  have F : ∀ (d p c i : Nat) (σ1 : Sg), n - p ≤ d → p ≤ n → c ≤ p → i ≤ p → skp B n p = tk B n c → (∀ i, i < c → tk B n i < n) → Onl [45, 47, 48, 49] σ σ1 → σ1.2.1 45 5 = I c → TkS σ1 B n c → GW l mX10_split 9 [(0, .inr 45), (1, .inl (I n)), (2, .inl (I p)), (3, .inl (I i))] [] σ1 0 0 (PV K) := by
    intro d
    induction d with
    | zero =>
      intro p c i σ1 hd hp hc hi hs hlt ho h5 hT
      exact E p c i σ1 (by omega) hc hi hs hlt ho h5 hT
    | succ d ih =>
      intro p c i σ1 hd hp hc hi hs hlt ho h5 hT
      by_cases ep : p = n
      · exact E p c i σ1 ep hc hi hs hlt ho h5 hT
      have C1 := ho.C hC
      have B1 : TxB σ1 B n := hB.onl ho (by decide)
      refine gX10_split_9 ⟨fun q => ?_, fun _ => ⟨fun q => ?_, fun _ => ⟨C1.o45, q_takeToken C1 B1 (by omega) h5 hT hc hs (fun p' c' σ2 h1 h2 h3 h4 h6 ho2 h52 hk2 hT2 => ?_)⟩⟩⟩
      · rw [I_le ⟨by omega, by omega⟩ ⟨by omega, by omega⟩] at q; omega
      · rw [I_le ⟨by omega, by omega⟩ ⟨by omega, by omega⟩] at q; omega
      · rw [I_1, I_add]
        refine ih p' c' (i + 1) σ2 (by omega) h2 h3 (by omega) h6 (fun j hj => ?_) (ho.tr ho2) h52 hT2
        rcases h4 with h4 | ⟨h4, h7⟩
        · exact hlt j (by omega)
        · by_cases ej : j = c
          · rw [ej]; exact h7
          · exact hlt j (by omega)
  exact eX10_split ⟨hC.o45, fun σ2 e2 => F n 0 0 0 σ2 (Nat.sub_le n 0) (by omega) (by omega) (by omega) rfl (fun i hi => absurd hi (by omega)) (Onl.w e2 (by decide)) (by rw [e2, w1_at]; rfl) (fun i hi => absurd hi (by omega))⟩
end SPL
