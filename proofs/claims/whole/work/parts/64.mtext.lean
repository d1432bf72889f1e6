/-! the reference's text: its tokens -/
def wpn (k : Nat) : Nat := [0, 5, 10, 15, 18, 23, 28, 32].getD k 0
theorem wds : slenI 1000007 = I 32 ∧ slen.getD (six 1000007) 0 = 32 ∧ ∀ k, k < 7 → (wpn k + (wrd k).length + 1 = wpn (k + 1)) ∧ schr 1000007 (I ((wpn k + (wrd k).length : Nat) : Int)) = 32 ∧ ∀ i, i < (wrd k).length → schr 1000007 (I ((wpn k + i : Nat) : Int)) = I ((wrd k).getD i 0) := by decide
theorem wpn_le : ∀ k, k < 7 → wpn k + (wrd k).length < 32 := by decide
theorem wkd_at {B : Nat → Int} {q e j : Nat} (hj : j < 7) (h0 : ∀ k, k < j → ¬ mwd B q e k) (h1 : mwd B q e j) : wkd B q e = j := by
  unfold wkd
  match j, hj with
  | 0, _ => rw [cif_t h1]; rfl
  | 1, _ => rw [cif_f (h0 0 (by omega)), cif_t h1]; rfl
  | 2, _ => rw [cif_f (h0 0 (by omega)), cif_f (h0 1 (by omega)), cif_t h1]; rfl
  | 3, _ => rw [cif_f (h0 0 (by omega)), cif_f (h0 1 (by omega)), cif_f (h0 2 (by omega)), cif_t h1]; rfl
  | 4, _ => rw [cif_f (h0 0 (by omega)), cif_f (h0 1 (by omega)), cif_f (h0 2 (by omega)), cif_f (h0 3 (by omega)), cif_t h1]; rfl
  | 5, _ => rw [cif_f (h0 0 (by omega)), cif_f (h0 1 (by omega)), cif_f (h0 2 (by omega)), cif_f (h0 3 (by omega)), cif_f (h0 4 (by omega)), cif_t h1]; rfl
  | 6, _ => rw [cif_f (h0 0 (by omega)), cif_f (h0 1 (by omega)), cif_f (h0 2 (by omega)), cif_f (h0 3 (by omega)), cif_f (h0 4 (by omega)), cif_f (h0 5 (by omega)), cif_t h1]; rfl
theorem wkd_no {B : Nat → Int} {q e : Nat} (h0 : ∀ k, k < 7 → ¬ mwd B q e k) : wkd B q e = -1 := by
  unfold wkd
  rw [cif_f (h0 0 (by omega)), cif_f (h0 1 (by omega)), cif_f (h0 2 (by omega)), cif_f (h0 3 (by omega)), cif_f (h0 4 (by omega)), cif_f (h0 5 (by omega)), cif_f (h0 6 (by omega))]
/-- only some numbers of the reference, and the ints of some cells, have changed -/
def Ws (S C : List Nat) (σ σ' : Sg) : Prop := σ'.1 = σ.1 ∧ σ'.2.2 = σ.2.2 ∧ (∀ r, r ≠ 82 → r ∉ C → σ'.2.1 r = σ.2.1 r) ∧ ∀ k, k ∉ S → σ'.2.1 82 k = σ.2.1 82 k
theorem Ws.rf (S C : List Nat) (σ : Sg) : Ws S C σ σ := ⟨rfl, rfl, fun _ _ _ => rfl, fun _ _ => rfl⟩
theorem Ws.tr {S C : List Nat} {σ σ1 σ2 : Sg} (h : Ws S C σ σ1) (h' : Ws S C σ1 σ2) : Ws S C σ σ2 := ⟨h'.1.trans h.1, h'.2.1.trans h.2.1, fun r a b => (h'.2.2.1 r a b).trans (h.2.2.1 r a b), fun k a => (h'.2.2.2 k a).trans (h.2.2.2 k a)⟩
theorem Ws.up {S C S' C' : List Nat} {σ σ1 : Sg} (h : Ws S C σ σ1) (hs : ∀ k ∈ S, k ∈ S') (hc : ∀ r ∈ C, r ∈ C') : Ws S' C' σ σ1 := ⟨h.1, h.2.1, fun r a b => h.2.2.1 r a (fun q => b (hc r q)), fun k a => h.2.2.2 k (fun q => a (hs k q))⟩
theorem Ws.w {S C : List Nat} {σ σ1 : Sg} {k : Nat} {x : Int32} (e : σ1 = w1 σ 82 k x) (hk : k ∈ S) : Ws S C σ σ1 := by
  subst e
  exact ⟨rfl, rfl, fun r a _ => w1_r a, fun b hb => w1_k (fun q => hb (q ▸ hk))⟩
theorem Ws.c {S C : List Nat} {σ σ1 : Sg} {r k : Nat} {x : Int32} (e : σ1 = w1 σ r k x) (hr : r ∈ C) (h82 : r ≠ 82) : Ws S C σ σ1 := by
  subst e
  exact ⟨rfl, rfl, fun q _ b => w1_r (fun z => b (z ▸ hr)), fun b _ => by rw [w1_r (fun z => h82 z.symm)]⟩
theorem Ws.M {S C : List Nat} {σ σ1 : Sg} (h : Ws S C σ σ1) (hM : Mp σ) : Mp σ1 := ⟨by rw [h.1]; exact hM.1, by rw [h.2.1]; exact hM.2⟩
/-- the reference's bytes -/
def TxM (σ : Sg) (B : Nat → Int) (n : Nat) : Prop := n ≤ 400 ∧ (∀ i, i < n → σ.2.1 83 i = I (B i)) ∧ ∀ i, i < n → 0 ≤ B i ∧ B i ≤ 255
theorem Ws.tx {S C : List Nat} {σ σ1 : Sg} {B : Nat → Int} {n : Nat} (h : Ws S C σ σ1) (hB : TxM σ B n) (hc : 83 ∉ C) : TxM σ1 B n := ⟨hB.1, fun i hi => by rw [h.2.2.1 83 (by omega) hc]; exact hB.2.1 i hi, hB.2.2⟩
section MTX
variable {l : Launch} {σ σ' : Sg} {v : Vt} {B : Nat → Int} {n : Nat}
theorem m_word {K : Int32 → Sg → Prop} {p e : Nat} (hM : Mp σ) (hB : TxM σ B n) (h24 : σ.2.1 82 24 = I p) (h23 : σ.2.1 82 23 = I e) (hp : p < e) (he : e ≤ n) (hK : K (I (wkd B p e)) σ) : Con l mX12_word [.inr 82] σ (PI K) := by
  have n4 := hB.1
  have hx : Sx 1000007 := ⟨by omega, by omega⟩
  have W := wds
  have sc : ∀ j : Nat, j < 32 → Sc 1000007 (I (j : Int)) := fun j hj => ⟨hx, by rw [W.2.1]; exact (I_in ⟨by omega, by omega⟩).mpr ⟨by omega, by omega⟩⟩
  have e1 : ∀ a i : Nat, I (a : Int) + I (i : Int) = I ((a + i : Nat) : Int) := fun a i => by rw [I_add]; rfl
  have S : ∀ k, k < 7 → ∀ i, i ≤ (wrd k).length → ∀ y : Int32, GW l mX12_word 4 [(0, .inr 82), (1, .inl (I ((k + 1 : Nat) : Int))), (2, .inl (I ((wpn (k + 1) : Nat) : Int)))] [] σ 0 0 (PI K) → GW l mX12_word 97 [(0, .inr 82), (1, .inl (I (k : Int))), (2, .inl (I ((wpn k + i : Nat) : Int))), (3, .inl y)] [] σ 0 0 (PI K) := by
    intro k hk
    have w := W.2.2 k hk
    have wl := wpn_le k hk
    refine lp ?_ ?_
    · intro y g
      refine gX12_word_97 ⟨sc _ (by omega), fun _ => ?_, fun q => absurd w.2.1 q⟩
      rw [I_1, I_add, I_add, show ((wpn k + (wrd k).length : Nat) : Int) + 1 = ((wpn (k + 1) : Nat) : Int) by have := w.1; omega]
      exact g
    · intro i hi ih y g
      have wr := wrd_rg k hk i hi
      refine gX12_word_97 ⟨sc _ (by omega), fun q => ?_, fun _ => ?_⟩
      · rw [w.2.2 i hi, show (32 : Int32) = I 32 from rfl, I_eq ⟨by omega, by omega⟩ ⟨by omega, by omega⟩] at q; omega
      · rw [I_1, I_add]; exact ih y g
  have N : ∀ k, k < 7 → GW l mX12_word 4 [(0, .inr 82), (1, .inl (I ((k + 1 : Nat) : Int))), (2, .inl (I ((wpn (k + 1) : Nat) : Int)))] [] σ 0 0 (PI K) → ∀ i, i < (wrd k).length → GW l mX12_word 69 [(0, .inr 82), (1, .inl (I (k : Int))), (2, .inl (I ((wpn k : Nat) : Int))), (3, .inl (I (i : Int)))] [] σ 0 0 (PI K) := by
    intro k hk g i hi
    have w := W.2.2 k hk
    have wl := wpn_le k hk
    have wr := wrd_rg k hk i hi
    refine gX12_word_69 ?_
    rw [e1]
    refine ⟨sc _ (by omega), fun _ => S k hk 0 (by omega) _ g, fun q => ?_⟩
    rw [w.2.2 i hi, show (32 : Int32) = I 32 from rfl, I_eq ⟨by omega, by omega⟩ ⟨by omega, by omega⟩] at q; omega
  have R : ∀ k, k < 7 → (∀ k', k' < k → ¬ mwd B p e k') → (¬ mwd B p e k → GW l mX12_word 4 [(0, .inr 82), (1, .inl (I ((k + 1 : Nat) : Int))), (2, .inl (I ((wpn (k + 1) : Nat) : Int)))] [] σ 0 0 (PI K)) → ∀ i, i ≤ (wrd k).length → p + i ≤ e → (∀ i', i' < i → B (p + i') = (wrd k).getD i' 0) → GW l mX12_word 15 [(0, .inr 82), (1, .inl (I (k : Int))), (2, .inl (I ((wpn k : Nat) : Int))), (3, .inl (I (i : Int)))] [] σ 0 0 (PI K) := by
    intro k hk h0 g
    have w := W.2.2 k hk
    have wl := wpn_le k hk
    refine lp ?_ ?_
    · intro hi ha
      refine gX12_word_15 ?_
      rw [e1]
      refine ⟨sc _ (by omega), fun _ => gX12_word_69 ?_, fun q => absurd w.2.1 q⟩
      rw [e1, h24, h23, e1, I_eq' (by omega) (by omega) (by omega) (by omega)]
      refine ⟨sc _ (by omega), fun q => absurd w.2.1 q, fun _ => ⟨hM.ob, fun q => S k hk 0 (by omega) _ (g (fun z => q (by have := z.1; omega))), fun q => ?_⟩⟩
      rw [wkd_at hk h0 ⟨by omega, ha⟩] at hK; exact hK
    · intro i hi ih hpe ha
      have wr := wrd_rg k hk i hi
      refine gX12_word_15 ?_
      rw [e1, h24, h23, e1]
      refine ⟨sc _ (by omega), fun q => ?_, fun _ => ⟨hM.ob, fun q => N k hk (g (fun z => ?_)) i hi, fun q => ?_⟩⟩
      · rw [w.2.2 i hi, show (32 : Int32) = I 32 from rfl, I_eq ⟨by omega, by omega⟩ ⟨by omega, by omega⟩] at q; omega
      · rw [I_le ⟨by omega, by omega⟩ ⟨by omega, by omega⟩] at q; have := z.1; omega
      · rw [I_le ⟨by omega, by omega⟩ ⟨by omega, by omega⟩] at q
        have bi := hB.2.2 (p + i) (by omega)
        refine ⟨hM.a1 (by omega) (by omega), sc _ (by omega), ?_⟩
        rw [hM.d1 (by omega) (by omega), I_tn, hB.2.1 _ (by omega), w.2.2 i hi, I_eq' (by omega) (by omega) (by omega) (by omega)]
        refine ⟨fun z => N k hk (g (fun y => z (y.2 i hi))) i hi, fun z => ?_⟩
        rw [I_1, I_add]
        refine ih (by omega) (fun i' hi' => ?_)
        by_cases y : i' = i
        · rw [y]; exact z
        · exact ha i' (by omega)
  have F : ∀ k, k ≤ 7 → (∀ k', k' < k → ¬ mwd B p e k') → GW l mX12_word 4 [(0, .inr 82), (1, .inl (I (k : Int))), (2, .inl (I ((wpn k : Nat) : Int)))] [] σ 0 0 (PI K) := by
    refine lp ?_ ?_
    · intro h0
      refine gX12_word_4 ⟨hx, fun _ => ?_, fun q => absurd ?_ q⟩
      · rw [wkd_no h0] at hK; exact hK
      · rw [W.1]; exact (I_le ⟨by omega, by omega⟩ ⟨by decide, by decide⟩).mpr (by decide)
    · intro k hk ih h0
      have wl := wpn_le k hk
      refine gX12_word_4 ⟨hx, fun q => ?_, fun _ => R k hk h0 (fun g => ih (fun k' hk' => ?_)) 0 (by omega) (by omega) (fun i' hi' => absurd hi' (by omega))⟩
      · rw [W.1, I_le ⟨by omega, by omega⟩ ⟨by omega, by omega⟩] at q; omega
      · by_cases y : k' = k
        · rw [y]; exact g
        · exact h0 k' (by omega)
  exact eX12_word (F 0 (by omega) (fun k' hk' => absurd hk' (by omega)))
theorem m_here {K : Int32 → Sg → Prop} {e : Nat} (hM : Mp σ) (hB : TxM σ B n) (h22 : σ.2.1 82 22 = I n) (h23 : σ.2.1 82 23 = I e) (h1 : e < n → K (I (B e)) σ) (h0 : n ≤ e → K (-1) σ) (he : e ≤ 400) : Con l mX12_here [.inr 82] σ (PI K) := by
  have n4 := hB.1
  refine eX12_here ⟨hM.ob, ?_⟩
  rw [h22, h23, I_le' (by omega) (by omega) (by omega) (by omega)]
  refine ⟨fun q => h0 (by omega), fun q => ⟨hM.a1 (by omega) (by omega), ?_⟩⟩
  rw [hM.d1 (by omega) (by omega), I_tn, hB.2.1 _ (by omega)]
  exact h1 (by omega)
theorem m_isSmall {K : Int32 → Sg → Prop} {b : Int} (hb : Rg b) (h1 : 97 ≤ b → b ≤ 122 → K 1 σ) (h0 : ¬ (97 ≤ b ∧ b ≤ 122) → K 0 σ) : Con l mX12_isSmall [.inl (I b)] σ (PI K) := by
  refine eX12_isSmall ?_
  rw [show (97 : Int32) = I 97 from rfl, show (122 : Int32) = I 122 from rfl, I_lt' hb.1 hb.2 (by omega) (by omega), I_lt' (by omega) (by omega) hb.1 hb.2]
  exact ⟨fun q => h0 (by omega), fun q => ⟨fun q2 => h0 (by omega), fun q2 => h1 (by omega) (by omega)⟩⟩
theorem m_isDigit {K : Int32 → Sg → Prop} {b : Int} (hb : Rg b) (h1 : 48 ≤ b → b ≤ 57 → K 1 σ) (h0 : ¬ (48 ≤ b ∧ b ≤ 57) → K 0 σ) : Con l mX12_isDigit [.inl (I b)] σ (PI K) := by
  refine eX12_isDigit ?_
  rw [show (48 : Int32) = I 48 from rfl, show (57 : Int32) = I 57 from rfl, I_lt' hb.1 hb.2 (by omega) (by omega), I_lt' (by omega) (by omega) hb.1 hb.2]
  exact ⟨fun q => h0 (by omega), fun q => ⟨fun q2 => h0 (by omega), fun q2 => h1 (by omega) (by omega)⟩⟩
/-- token i is read -/
def TkR (σ : Sg) (B : Nat → Int) (n i : Nat) : Prop := σ.2.1 82 22 = I n ∧ σ.2.1 82 24 = I (tk B n i : Nat) ∧ σ.2.1 82 23 = I (nxt B n (tk B n i) : Nat) ∧ (kdB B n i = 0 → σ.2.1 82 25 = I 3) ∧ (kdB B n i = 1 → σ.2.1 82 25 = I 4) ∧ (kdB B n i = 2 → σ.2.1 82 25 = I 1 ∧ σ.2.1 82 26 = I (vlB B n i)) ∧ (kdB B n i = 3 → σ.2.1 82 25 = I 2) ∧ (4 ≤ kdB B n i → σ.2.1 82 25 = I 0 ∧ σ.2.1 82 26 = I (kdB B n i - 4))
theorem m_next {K : Sg → Prop} {p i : Nat} (hM : Mp σ) (hB : TxM σ B n) (h22 : σ.2.1 82 22 = I n) (h23 : σ.2.1 82 23 = I p) (hp : p ≤ n) (hs : skp B n p = tk B n i) (hK : ∀ σ', Ws [23, 24, 25, 26] [] σ σ' → TkR σ' B n i → K σ') : Con l mX12_next [.inr 82] σ (PV K) := by
  have n4 := hB.1
  -- a word
  have L64 : ∀ (x : Int32) (q : Nat), q = tk B n i → q < n → (97 ≤ B q ∧ B q ≤ 122) → ∀ e, e ≤ n → q ≤ e → (q = e ∨ run (isLoF B) n e = nxt B n q) → ∀ σ1, Ws [23, 24, 25, 26] [] σ σ1 → σ1.2.1 82 24 = I q → σ1.2.1 82 23 = I e → GW l mX12_next 64 [(0, .inr 82), (1, .inl x)] [] σ1 0 0 (PV K) := by
    intro x q eq hq hl
    obtain ⟨k1, k2, k3⟩ := tk_lo hq hl
    have ng := nxt_gt (B := B) hq
    have fin : ∀ e, e = nxt B n q → ∀ σ1, Ws [23, 24, 25, 26] [] σ σ1 → σ1.2.1 82 24 = I q → σ1.2.1 82 23 = I e → Con l mX12_word [.inr 82] σ1 (PI (fun x5 σ5 => ∀ σ6, σ6 = w1 σ5 82 26 x5 → ((¬ (σ6.2.1 82 26) = (-1) → ∀ σ8, σ8 = w1 σ6 82 25 0 → K σ8) ∧ ((σ6.2.1 82 26) = (-1) → ∀ σ9, σ9 = w1 σ6 82 25 4 → K σ9)))) := by
      intro e ee σ1 w1' h24 h23
      subst ee
      have wr := wkd_rg B q (nxt B n q)
      refine m_word (w1'.M hM) (w1'.tx hB (by decide)) h24 h23 ng.1 ng.2 (fun σ6 e6 => ?_)
      have h26 : σ6.2.1 82 26 = I (wkd B q (nxt B n q)) := by rw [e6, w1_at]
      have W6 : Ws [23, 24, 25, 26] [] σ σ6 := w1'.tr (Ws.w e6 (by decide))
      rw [h26, I_m1, I_eq' (by omega) (by omega) (by omega) (by omega)]
      have ek : kdB B n i = (if wkd B q (nxt B n q) = -1 then 1 else 4 + wkd B q (nxt B n q)) := by unfold kdB; rw [← eq]; exact k2
      have tail : ∀ (y : Int32) σ8, σ8 = w1 σ6 82 25 y → σ8.2.1 82 22 = I n ∧ σ8.2.1 82 24 = I (tk B n i : Nat) ∧ σ8.2.1 82 23 = I (nxt B n (tk B n i) : Nat) ∧ σ8.2.1 82 25 = y ∧ σ8.2.1 82 26 = I (wkd B q (nxt B n q)) := by
        intro y σ8 e8
        refine ⟨?_, ?_, ?_, by rw [e8, w1_at], by rw [e8, w1_k (by omega), h26]⟩
        · rw [e8, w1_k (by omega), e6, w1_k (by omega), w1'.2.2.2 22 (by decide)]; exact h22
        · rw [e8, w1_k (by omega), e6, w1_k (by omega), h24, eq]
        · rw [e8, w1_k (by omega), e6, w1_k (by omega), h23, eq]
      refine ⟨fun z σ8 e8 => hK σ8 (W6.tr (Ws.w e8 (by decide))) ?_, fun z σ8 e8 => hK σ8 (W6.tr (Ws.w e8 (by decide))) ?_⟩
      · rw [if_neg z] at ek
        obtain ⟨t1, t2, t3, t4, t5⟩ := tail _ σ8 e8
        exact ⟨t1, t2, t3, fun y => absurd y (by omega), fun y => absurd y (by omega), fun y => absurd y (by omega), fun y => absurd y (by omega), fun _ => ⟨t4, by rw [t5, ek]; congr 1; omega⟩⟩
      · rw [if_pos z] at ek
        obtain ⟨t1, t2, t3, t4, t5⟩ := tail _ σ8 e8
        exact ⟨t1, t2, t3, fun y => absurd y (by omega), fun _ => t4, fun y => absurd y (by omega), fun y => absurd y (by omega), fun y => absurd y (by omega)⟩
    refine lp ?_ ?_
    · intro hle hr σ1 w1' h24 h23
      have er : n = nxt B n q := by
        rcases hr with hr | hr
        · omega
        · rw [run_end (Nat.le_refl _)] at hr; exact hr
      refine gX12_next_64 ⟨(w1'.M hM).ob, m_here (w1'.M hM) (w1'.tx hB (by decide)) (by rw [w1'.2.2.2 22 (by decide)]; exact h22) h23 (fun z => absurd z (by omega)) (fun _ => ?_) (by omega)⟩
      rw [I_m1]
      exact m_isSmall ⟨by omega, by omega⟩ (fun a _ => absurd a (by omega)) (fun _ => ⟨fun _ => fin n er σ1 w1' h24 h23, fun z => absurd rfl z⟩)
    · intro e he ih hle hr σ1 w1' h24 h23
      have be := hB.2.2 e he
      refine gX12_next_64 ⟨(w1'.M hM).ob, m_here (w1'.M hM) (w1'.tx hB (by decide)) (by rw [w1'.2.2.2 22 (by decide)]; exact h22) h23 (fun _ => ?_) (fun z => absurd z (by omega)) (by omega)⟩
      refine m_isSmall ⟨by omega, by omega⟩ (fun a b => ⟨fun z => absurd z (by decide), fun _ σ10 e10 => ?_⟩) (fun z => ⟨fun _ => ?_, fun z => absurd rfl z⟩)
      · rw [h23, I_1, I_add] at e10
        refine ih (by omega) (Or.inr ?_) σ10 (w1'.tr (Ws.w e10 (by decide))) (by rw [e10, w1_k (by omega)]; exact h24) (by rw [e10, w1_at]; rfl)
        rcases hr with hr | hr
        · rw [k1, hr]
        · rw [← hr, run_yes he (lo_iff.mpr ⟨a, b⟩)]
      · rcases hr with hr | hr
        · rw [← hr] at z; exact absurd hl z
        · rw [run_no (fun y => z (lo_iff.mp y))] at hr
          exact fin e hr σ1 w1' h24 h23
  -- a number
  have L132 : ∀ (x : Int32) (q : Nat), q = tk B n i → q < n → (48 ≤ B q ∧ B q ≤ 57) → ∀ k, k ≤ n - q → (k = 0 ∨ run (isDgF B) n (q + k) = nxt B n q) → (∀ j, j < k → 48 ≤ B (q + j) ∧ B (q + j) ≤ 57) → ∀ σ1, Ws [23, 24, 25, 26] [] σ σ1 → σ1.2.1 82 24 = I q → σ1.2.1 82 23 = I ((q + k : Nat) : Int) → σ1.2.1 82 25 = I 1 → σ1.2.1 82 26 = I (vrF B q k) → GW l mX12_next 132 [(0, .inr 82), (1, .inl x)] [] σ1 0 0 (PV K) := by
    intro x q eq hq hl
    obtain ⟨k1, k2, k3⟩ := tk_dg hq hl
    have ng := nxt_gt (B := B) hq
    have fin : ∀ k, q + k = nxt B n q → ∀ σ1, Ws [23, 24, 25, 26] [] σ σ1 → σ1.2.1 82 24 = I q → σ1.2.1 82 23 = I ((q + k : Nat) : Int) → σ1.2.1 82 25 = I 1 → σ1.2.1 82 26 = I (vrF B q k) → K σ1 := by
      intro k ee σ1 w1' h24 h23 h25 h26
      have ek : kdB B n i = 2 := by unfold kdB; rw [← eq]; exact k2
      refine hK σ1 w1' ⟨by rw [w1'.2.2.2 22 (by decide)]; exact h22, by rw [h24, eq], by rw [h23, ee, eq], fun y => absurd y (by omega), fun y => absurd y (by omega), fun _ => ⟨h25, ?_⟩, fun y => absurd y (by omega), fun y => absurd y (by omega)⟩
      rw [h26]
      unfold vlB
      rw [← eq, k3, show nxt B n q - q = k by omega]
    refine lp ?_ ?_
    · intro hr hd σ1 w1' h24 h23 h25 h26
      have er : q + (n - q) = nxt B n q := by
        rcases hr with hr | hr
        · omega
        · rw [run_end (by omega)] at hr; exact hr
      refine gX12_next_132 ⟨(w1'.M hM).ob, m_here (w1'.M hM) (w1'.tx hB (by decide)) (by rw [w1'.2.2.2 22 (by decide)]; exact h22) h23 (fun z => absurd z (by omega)) (fun _ => ?_) (by omega)⟩
      rw [I_m1]
      exact m_isDigit ⟨by omega, by omega⟩ (fun a _ => absurd a (by omega)) (fun _ => ⟨fun _ => fin _ er σ1 w1' h24 h23 h25 h26, fun z => absurd rfl z⟩)
    · intro k hk ih hr hd σ1 w1' h24 h23 h25 h26
      have be := hB.2.2 (q + k) (by omega)
      have vr := vrF_rg (B := B) (q := q) k hd
      have H1 := w1'.M hM
      have H2 : TxM σ1 B n := w1'.tx hB (by decide)
      have H3 : σ1.2.1 82 22 = I n := by rw [w1'.2.2.2 22 (by decide)]; exact h22
      refine gX12_next_132 ⟨H1.ob, m_here H1 H2 H3 h23 (fun _ => ?_) (fun z => absurd z (by omega)) (by omega)⟩
      refine m_isDigit ⟨by omega, by omega⟩ (fun a b => ⟨fun z => absurd z (by decide), fun _ => ?_⟩) (fun z => ⟨fun _ => ?_, fun z => absurd rfl z⟩)
      · have nr : k + 1 = 0 ∨ run (isDgF B) n (q + (k + 1)) = nxt B n q := by
          right
          rcases hr with hr | hr
          · rw [k1, hr]
          · rw [← hr, run_yes (by omega) (dg_iff.mpr ⟨a, b⟩)]; rfl
        have nd : ∀ j, j < k + 1 → 48 ≤ B (q + j) ∧ B (q + j) ≤ 57 := fun j hj => by
          by_cases y : j = k
          · rw [y]; exact ⟨a, b⟩
          · exact hd j (by omega)
        have go : ∀ (z : Int) σ7 σ8, σ7 = w1 σ1 82 26 (I z) → z = vrF B q (k + 1) → σ8 = w1 σ7 82 23 ((σ7.2.1 82 23) + 1) → GW l mX12_next 132 [(0, .inr 82), (1, .inl x)] [] σ8 0 0 (PV K) := by
          intro z σ7 σ8 e7 ez e8
          rw [e7, w1_k (by omega), h23, I_1, I_add] at e8
          rw [← e7] at e8
          refine ih nr nd σ8 ((w1'.tr (Ws.w e7 (by decide))).tr (Ws.w e8 (by decide))) ?_ ?_ ?_ ?_
          · rw [e8, w1_k (by omega), e7, w1_k (by omega)]; exact h24
          · rw [e8, w1_at]; rfl
          · rw [e8, w1_k (by omega), e7, w1_k (by omega)]; exact h25
          · rw [e8, w1_k (by omega), e7, w1_at, ez]
        have ev : vrF B q (k + 1) = if vrF B q k ≤ 99 then 10 * vrF B q k + B (q + k) - 48 else vrF B q k := rfl
        rw [h26, show (99 : Int32) = I 99 from rfl, I_le' (by omega) (by omega) (by omega) (by omega)]
        refine ⟨fun z => m_here H1 H2 H3 h23 (fun _ σ7 e7 σ8 e8 => ?_) (fun z => absurd z (by omega)) (by omega), fun z σ9 e9 σ10 e10 => go _ σ9 σ10 e9 (by rw [ev, if_neg z]) e10⟩
        rw [show (10 : Int32) = I 10 from rfl, show (48 : Int32) = I 48 from rfl, I_mul, I_add, I_sub] at e7
        exact go _ σ7 σ8 e7 (by rw [ev, if_pos z]) e8
      · rcases hr with hr | hr
        · rw [hr, Nat.add_zero] at z; exact absurd hl z
        · rw [run_no (fun y => z (dg_iff.mp y))] at hr
          exact fin k hr σ1 w1' h24 h23 h25 h26
  have F : ∀ e, e ≤ n → skp B n e = tk B n i → ∀ σ1, Ws [23, 24, 25, 26] [] σ σ1 → σ1.2.1 82 23 = I e → GW l mX12_next 0 [(0, .inr 82)] [] σ1 0 0 (PV K) := by
    refine lp ?_ ?_
    · intro es σ1 w1' h23
      have et : tk B n i = n := by rw [← es]; exact run_end (Nat.le_refl _)
      have H1 := w1'.M hM
      have H2 : TxM σ1 B n := w1'.tx hB (by decide)
      have H3 : σ1.2.1 82 22 = I n := by rw [w1'.2.2.2 22 (by decide)]; exact h22
      refine gX12_next_0 ⟨H1.ob, m_here H1 H2 H3 h23 (fun z => absurd z (by omega)) (fun _ => ⟨fun z => absurd z (by decide), fun _ => m_here H1 H2 H3 h23 (fun z => absurd z (by omega)) (fun _ => ⟨fun _ σ7 e7 => ?_, fun z => absurd z (by decide)⟩) (by omega)⟩) (by omega)⟩
      have w7 : Ws [23, 24, 25, 26] [] σ σ7 := w1'.tr (Ws.w e7 (by decide))
      refine m_here (w7.M hM) (w7.tx hB (by decide)) (by rw [w7.2.2.2 22 (by decide)]; exact h22) (by rw [e7, w1_k (by omega)]; exact h23) (fun z => absurd z (by omega)) (fun _ => ⟨fun z => absurd rfl z, fun _ σ8 e8 => ?_⟩) (by omega)
      have ek : kdB B n i = 0 := kdB_0.mpr et
      refine hK σ8 (w7.tr (Ws.w e8 (by decide))) ⟨?_, ?_, ?_, fun _ => by rw [e8, w1_at]; rfl, fun y => absurd y (by omega), fun y => absurd y (by omega), fun y => absurd y (by omega), fun y => absurd y (by omega)⟩
      · rw [e8, w1_k (by omega), w7.2.2.2 22 (by decide)]; exact h22
      · rw [e8, w1_k (by omega), e7, w1_at, h23, et]
      · rw [e8, w1_k (by omega), e7, w1_k (by omega), h23, et, nxt_end (Nat.le_refl _)]
    · intro e he ih es σ1 w1' h23
      have be := hB.2.2 e he
      have H1 := w1'.M hM
      have H2 : TxM σ1 B n := w1'.tx hB (by decide)
      have H3 : σ1.2.1 82 22 = I n := by rw [w1'.2.2.2 22 (by decide)]; exact h22
      have go : (B e = 10 ∨ B e = 32) → ∀ σ4, σ4 = w1 σ1 82 23 ((σ1.2.1 82 23) + 1) → GW l mX12_next 0 [(0, .inr 82)] [] σ4 0 0 (PV K) := by
        intro z σ4 e4
        rw [h23, I_1, I_add] at e4
        exact ih (by rw [← ws_yes he z]; exact es) σ4 (w1'.tr (Ws.w e4 (by decide))) (by rw [e4, w1_at]; rfl)
      refine gX12_next_0 ⟨H1.ob, m_here H1 H2 H3 h23 (fun _ => ?_) (fun z => absurd z (by omega)) (by omega)⟩
      rw [show (10 : Int32) = I 10 from rfl, I_eq' (by omega) (by omega) (by omega) (by omega)]
      refine ⟨fun z => go (Or.inl z), fun z1 => m_here H1 H2 H3 h23 (fun _ => ?_) (fun z => absurd z (by omega)) (by omega)⟩
      rw [show (32 : Int32) = I 32 from rfl, I_eq' (by omega) (by omega) (by omega) (by omega)]
      refine ⟨fun z2 σ7 e7 => ?_, fun z => go (Or.inr z)⟩
      have et : e = tk B n i := by rw [← es]; exact (ws_not (by omega)).symm
      have w7 : Ws [23, 24, 25, 26] [] σ σ7 := w1'.tr (Ws.w e7 (by decide))
      have G1 := w7.M hM
      have G2 : TxM σ7 B n := w7.tx hB (by decide)
      have G3 : σ7.2.1 82 22 = I n := by rw [w7.2.2.2 22 (by decide)]; exact h22
      have G4 : σ7.2.1 82 23 = I e := by rw [e7, w1_k (by omega)]; exact h23
      have G5 : σ7.2.1 82 24 = I e := by rw [e7, w1_at]; exact h23
      refine m_here G1 G2 G3 G4 (fun _ => ⟨fun _ => ?_, fun z => ?_⟩) (fun z => absurd z (by omega)) (by omega)
      · refine m_isSmall ⟨by omega, by omega⟩ (fun a b => ⟨fun z => absurd z (by decide), fun _ => ?_⟩) (fun nl => ⟨fun _ => ?_, fun z => absurd rfl z⟩)
        · exact L64 _ e et he ⟨a, b⟩ e (by omega) (Nat.le_refl _) (Or.inl rfl) σ7 w7 G5 G4
        · refine m_isDigit ⟨by omega, by omega⟩ (fun a b => ⟨fun z => absurd z (by decide), fun _ σ19 e19 σ20 e20 => ?_⟩) (fun nd => ⟨fun _ => ?_, fun z => absurd rfl z⟩)
          · have w20 : Ws [23, 24, 25, 26] [] σ σ20 := (w7.tr (Ws.w e19 (by decide))).tr (Ws.w e20 (by decide))
            refine L132 _ e et he ⟨a, b⟩ 0 (by omega) (Or.inl rfl) (fun j hj => absurd hj (by omega)) σ20 w20 ?_ ?_ ?_ ?_
            · rw [e20, w1_k (by omega), e19, w1_k (by omega)]; exact G5
            · rw [e20, w1_k (by omega), e19, w1_k (by omega)]; exact G4
            · rw [e20, w1_k (by omega), e19, w1_at]; rfl
            · rw [e20, w1_at]; rfl
          · obtain ⟨k1, k2, k3⟩ := tk_ot he nl nd
            have ek : kdB B n i = (if B e = 59 then 3 else 1) := by unfold kdB; rw [← et]; exact k2
            have fin : ∀ (y : Int32) σ15 σ16, σ15 = w1 σ7 82 25 y → σ16 = w1 σ15 82 23 ((σ15.2.1 82 23) + 1) → (Ws [23, 24, 25, 26] [] σ σ16 ∧ σ16.2.1 82 22 = I n ∧ σ16.2.1 82 24 = I (tk B n i : Nat) ∧ σ16.2.1 82 23 = I (nxt B n (tk B n i) : Nat) ∧ σ16.2.1 82 25 = y) := by
              intro y σ15 σ16 e15 e16
              have w16 : Ws [23, 24, 25, 26] [] σ σ16 := (w7.tr (Ws.w e15 (by decide))).tr (Ws.w e16 (by decide))
              refine ⟨w16, by rw [w16.2.2.2 22 (by decide)]; exact h22, ?_, ?_, ?_⟩
              · rw [e16, w1_k (by omega), e15, w1_k (by omega), G5, et]
              · rw [e16, w1_at, e15, w1_k (by omega), G4, I_1, I_add, ← et, k1]; rfl
              · rw [e16, w1_k (by omega), e15, w1_at]
            rw [show (59 : Int32) = I 59 from rfl, I_eq' (by omega) (by omega) (by omega) (by omega)]
            refine ⟨fun z σ15 e15 σ16 e16 => ?_, fun z σ15 e15 σ16 e16 => ?_⟩
            · rw [if_neg z] at ek
              obtain ⟨w16, t1, t2, t3, t4⟩ := fin _ σ15 σ16 e15 e16
              exact hK σ16 w16 ⟨t1, t2, t3, fun y => absurd y (by omega), fun _ => t4, fun y => absurd y (by omega), fun y => absurd y (by omega), fun y => absurd y (by omega)⟩
            · rw [if_pos z] at ek
              obtain ⟨w16, t1, t2, t3, t4⟩ := fin _ σ15 σ16 e15 e16
              exact hK σ16 w16 ⟨t1, t2, t3, fun y => absurd y (by omega), fun y => absurd y (by omega), fun y => absurd y (by omega), fun _ => t4, fun y => absurd y (by omega)⟩
      · rw [I_m1, I_eq ⟨by omega, by omega⟩ ⟨by omega, by omega⟩] at z; omega
  exact eX12_next (F p hp hs σ (Ws.rf _ _ _) h23)
end MTX
