/-! the class's Maker -/
section MKC
variable {l : Launch} {σ0 σ σ' : Sg} {v : Vt} {B : Nat → Int} {n N c : Nat} {T : Nat → Nat → Nat → Int} {cnt i : Nat} {f : Int} {L P : Nat → Nat → Int}
def MkF (σ0 σ : Sg) : Prop := σ.1 = σ0.1 ∧ σ.2.2 = σ0.2.2 ∧ (∀ r, r ≠ 2 → ¬ (15 ≤ r ∧ r ≤ 44) → ¬ (50 ≤ r ∧ r ≤ 56) → σ.2.1 r = σ0.2.1 r) ∧ σ.2.1 2 2 = σ0.2.1 2 2 ∧ σ.2.1 2 3 = σ0.2.1 2 3
def MkH (σ0 : Sg) (v : Vt) (B : Nat → Int) (n N c : Nat) : Prop := Cp σ0 ∧ CRa σ0 v ∧ (∀ t, t < 10 → TapeP σ0 (15 + 3 * t)) ∧ TapeP σ0 51 ∧ TapeP σ0 54 ∧ TokA σ0 B n N ∧ σ0.2.1 2 3 = I (v.2.2.1 1) ∧ WF c v
def MkS (σ0 σ : Sg) (v : Vt) (T : Nat → Nat → Nat → Int) (cnt i : Nat) (f : Int) : Prop := MkF σ0 σ ∧ (v.2.2.1 1 ≤ cnt ∧ cnt ≤ 10 ∧ σ.2.1 50 7 = I (-1)) ∧ σ.2.1 2 4 = I ((cnt : Int) - v.2.2.1 1) ∧ (∀ t : Nat, t < cnt → TapeD σ (15 + 3 * t) (T t)) ∧ σ.2.1 50 4 = I (i : Nat) ∧ σ.2.1 50 6 = I f
theorem MkF.onl {S : List Nat} (h : MkF σ0 σ) (ho : Onl S σ σ') (hs : ∀ r ∈ S, 50 ≤ r ∧ r ≤ 56) : MkF σ0 σ' := by
  have E : ∀ r, ¬ (50 ≤ r ∧ r ≤ 56) → σ'.2.1 r = σ.2.1 r := fun r hr => ho.2.2 r (fun q => hr (hs r q))
  exact ⟨ho.1.trans h.1, ho.2.1.trans h.2.1, fun r a b c => (E r c).trans (h.2.2.1 r a b c), by rw [E 2 (by omega)]; exact h.2.2.2.1, by rw [E 2 (by omega)]; exact h.2.2.2.2⟩
theorem MkF.C (h : MkF σ0 σ) (hC : Cp σ0) : Cp σ := ⟨by rw [h.1]; exact hC.1, by rw [h.2.1]; exact hC.2⟩
theorem MkF.tp {r : Nat} (h : MkF σ0 σ) (hP : TapeP σ0 r) : TapeP σ r := hP.eq (Nat.le_of_eq h.1.symm) (by rw [h.2.1])
theorem MkF.tok (h : MkF σ0 σ) (hT : TokA σ0 B n N) : TokA σ B n N := by
  refine ⟨hT.1, hT.2.1, fun i hi => ?_, hT.2.2.2⟩
  rw [h.2.2.1 47 (by omega) (by omega) (by omega), h.2.2.1 48 (by omega) (by omega) (by omega), h.2.2.1 49 (by omega) (by omega) (by omega)]
  exact hT.2.2.1 i hi
theorem MkF.arms (h : MkF σ0 σ) (ha : CRa σ0 v) : CRa σ v := ha.eq (Nat.le_of_eq h.1.symm) h.2.2.2.1 (fun r a b => ⟨h.2.2.1 r (by omega) (by omega) (by omega), by rw [h.2.1]⟩) rfl rfl
theorem MkS.onl {S : List Nat} (h : MkS σ0 σ v T cnt i f) (ho : Onl S σ σ') (hs : ∀ r ∈ S, 51 ≤ r ∧ r ≤ 56) : MkS σ0 σ' v T cnt i f := by
  have E : ∀ r, ¬ (51 ≤ r ∧ r ≤ 56) → σ'.2.1 r = σ.2.1 r := fun r hr => ho.2.2 r (fun q => hr (hs r q))
  refine ⟨h.1.onl ho (fun r hr => by have := hs r hr; omega), ⟨h.2.1.1, h.2.1.2.1, by rw [E 50 (by omega)]; exact h.2.1.2.2⟩, by rw [E 2 (by omega)]; exact h.2.2.1, fun t ht => ?_, by rw [E 50 (by omega)]; exact h.2.2.2.2.1, by rw [E 50 (by omega)]; exact h.2.2.2.2.2⟩
  have h10 := h.2.1.2.1
  exact (h.2.2.2.1 t ht).eq (fun k hk => ⟨E _ (by omega), by rw [ho.2.1]⟩)
theorem MkS.w {k : Nat} {x : Int32} (h : MkS σ0 σ v T cnt i f) (e : σ' = w1 σ 50 k x) (hk : k ≠ 7) {i' : Nat} {f' : Int} (h4 : σ'.2.1 50 4 = I (i' : Nat)) (h6 : σ'.2.1 50 6 = I f') : MkS σ0 σ' v T cnt i' f' := by
  have ho : Onl [50] σ σ' := Onl.w e (by simp)
  have E : ∀ r, r ≠ 50 → σ'.2.1 r = σ.2.1 r := fun r hr => ho.2.2 r (by simp [hr])
  refine ⟨h.1.onl ho (fun r hr => by rw [List.mem_singleton.mp hr]; omega), ⟨h.2.1.1, h.2.1.2.1, by rw [e, w1_k (fun z => hk z.symm)]; exact h.2.1.2.2⟩, by rw [E 2 (by omega)]; exact h.2.2.1, fun t ht => ?_, h4, h6⟩
  have h10 := h.2.1.2.1
  exact (h.2.2.2.1 t ht).eq (fun k hk => ⟨E _ (by omega), by rw [ho.2.1]⟩)
theorem MkS.w4 (h : MkS σ0 σ v T cnt i f) {i' : Nat} (e : σ' = w1 σ 50 4 (I (i' : Nat))) : MkS σ0 σ' v T cnt i' f := h.w e (by omega) (by rw [e, w1_at]) (by rw [e, w1_k (by omega)]; exact h.2.2.2.2.2)
theorem MkS.w5 {x : Int32} (h : MkS σ0 σ v T cnt i f) (e : σ' = w1 σ 50 5 x) : MkS σ0 σ' v T cnt i f := h.w e (by omega) (by rw [e, w1_k (by omega)]; exact h.2.2.2.2.1) (by rw [e, w1_k (by omega)]; exact h.2.2.2.2.2)
theorem MkS.w6 (h : MkS σ0 σ v T cnt i f) {f' : Int} (e : σ' = w1 σ 50 6 (I f')) : MkS σ0 σ' v T cnt i f' := h.w e (by omega) (by rw [e, w1_k (by omega)]; exact h.2.2.2.2.1) (by rw [e, w1_at])
theorem MkS.inc (h : MkS σ0 σ v T cnt i f) (e : σ' = w1 σ 50 4 ((σ.2.1 50 4) + 1)) : MkS σ0 σ' v T cnt (i + 1) f := by
  rw [h.2.2.2.2.1, I_1, I_add] at e
  exact h.w4 e
/-- line, and line with part -/
def Lr (σ : Sg) (L : Nat → Nat → Int) : Prop := ∃ L' : Nat → Nat → Int, TapeD σ 51 L' ∧ L' 0 0 = L 0 0 ∧ (0 ≤ L' 0 1 ∧ L' 0 1 ≤ 40) ∧ ((σ.2.1 50 5 = I 0 ∧ L 0 1 ≤ 40 ∧ L' = L) ∨ (σ.2.1 50 5 = I 1 ∧ L 0 1 = 41))
def LPr (σ : Sg) (L P : Nat → Nat → Int) : Prop := ∃ L' P' : Nat → Nat → Int, TapeD σ 51 L' ∧ TapeD σ 54 P' ∧ L' 0 0 = L 0 0 ∧ (0 ≤ L' 0 1 ∧ L' 0 1 ≤ 40) ∧ (0 ≤ P' 0 1 ∧ P' 0 1 ≤ 40) ∧ ((σ.2.1 50 5 = I 0 ∧ L 0 1 ≤ 40 ∧ P 0 1 ≤ 40 ∧ L' = L ∧ P' = P) ∨ (σ.2.1 50 5 = I 1 ∧ (L 0 1 = 41 ∨ P 0 1 = 41)))
theorem Lr.w {k : Nat} {x : Int32} (h : Lr σ L) (e : σ' = w1 σ 50 k x) (hk : k ≠ 5) : Lr σ' L := by
  obtain ⟨L', h1, h2, h3, h4⟩ := h
  have ho : Onl [50] σ σ' := Onl.w e (by simp)
  exact ⟨L', h1.onl ho (by decide) (by decide) (by decide), h2, h3, by rw [e, w1_k (by omega)]; exact h4⟩
theorem LPr.w {k : Nat} {x : Int32} (h : LPr σ L P) (e : σ' = w1 σ 50 k x) (hk : k ≠ 5) : LPr σ' L P := by
  obtain ⟨L', P', h1, h1p, h2, h3, h3p, h4⟩ := h
  have ho : Onl [50] σ σ' := Onl.w e (by simp)
  exact ⟨L', P', h1.onl ho (by decide) (by decide) (by decide), h1p.onl ho (by decide) (by decide) (by decide), h2, h3, h3p, by rw [e, w1_k (by omega)]; exact h4⟩
section MKD
theorem MkH.ob0 (H : MkH σ0 v B n N c) (h : MkF σ0 σ) : Ob σ 50 4 := (h.C H.1).o50
theorem MkH.ob1 (H : MkH σ0 v B n N c) (h : MkF σ0 σ) : Ob σ (σ.2.2 50 1) 10 := by rw [(h.C H.1).p50_1]; exact (h.C H.1).o45
theorem MkH.ob2 (H : MkH σ0 v B n N c) (h : MkF σ0 σ) : Ob σ (σ.2.2 50 0) 7 := by rw [(h.C H.1).p50_0]; exact (h.C H.1).o2
theorem MkH.ob3 (H : MkH σ0 v B n N c) (h : MkF σ0 σ) : Ob σ (σ.2.2 50 2) 9 := by rw [(h.C H.1).p50_2]; exact (h.tp H.2.2.2.1).ob
theorem MkH.ob4 (H : MkH σ0 v B n N c) (h : MkF σ0 σ) : Ob σ (σ.2.2 50 3) 9 := by rw [(h.C H.1).p50_3]; exact (h.tp H.2.2.2.2.1).ob
theorem MkH.kd (H : MkH σ0 v B n N c) {K : Int32 → Sg → Prop} (h : MkS σ0 σ v T cnt i f) (hi : i ≤ N) (hK : K (I (kdB B n i)) σ) : Con l mX10_kindAt [.inr (σ.2.2 50 1), .inl (σ.2.1 50 4)] σ (PI K) := by
  have hC := h.1.C H.1
  have hT := h.1.tok H.2.2.2.2.2.1
  have h4 := hT.1; have h5 := hT.2.1
  rw [hC.p50_1, h.2.2.2.2.1]
  refine eX10_kindAt ⟨fun q => ?_, fun _ => ⟨fun q => ?_, fun _ => ⟨hC.o45, hC.a45_1 (by omega) (by omega), ?_⟩⟩⟩
  · rw [I_0, I_lt ⟨by omega, by omega⟩ ⟨by omega, by omega⟩] at q; omega
  · rw [L_lit, I_lt ⟨by omega, by omega⟩ ⟨by omega, by omega⟩] at q; omega
  · rw [hC.d45_1 (by omega) (by omega), I_tn, (hT.2.2.1 i (by omega)).1]; exact hK
theorem MkH.vl (H : MkH σ0 v B n N c) {K : Int32 → Sg → Prop} (h : MkS σ0 σ v T cnt i f) (hi : i ≤ N) (hK : K (I (min (vlB B n i) 100)) σ) : Con l mX10_valueAt [.inr (σ.2.2 50 1), .inl (σ.2.1 50 4)] σ (PI K) := by
  have hC := h.1.C H.1
  have hT := h.1.tok H.2.2.2.2.2.1
  have h4 := hT.1; have h5 := hT.2.1
  rw [hC.p50_1, h.2.2.2.2.1]
  refine eX10_valueAt ⟨fun q => ?_, fun _ => ⟨fun q => ?_, fun _ => ⟨hC.o45, hC.a45_3 (by omega) (by omega), ?_⟩⟩⟩
  · rw [I_0, I_lt ⟨by omega, by omega⟩ ⟨by omega, by omega⟩] at q; omega
  · rw [L_lit, I_lt ⟨by omega, by omega⟩ ⟨by omega, by omega⟩] at q; omega
  · rw [hC.d45_3 (by omega) (by omega), I_tn, (hT.2.2.1 i (by omega)).2.2]; exact hK
theorem MkH.pl (H : MkH σ0 v B n N c) {K : Int32 → Sg → Prop} (h : MkS σ0 σ v T cnt i f) (hi : i ≤ N) (hK : K (I (tk B n i : Nat)) σ) : Con l mX10_placeAt [.inr (σ.2.2 50 1), .inl (σ.2.1 50 4)] σ (PI K) := by
  have hC := h.1.C H.1
  have hT := h.1.tok H.2.2.2.2.2.1
  have h4 := hT.1; have h5 := hT.2.1
  rw [hC.p50_1, h.2.2.2.2.1]
  refine eX10_placeAt ⟨fun q => ?_, fun _ => ⟨fun q => ?_, fun _ => ⟨hC.o45, hC.a45_2 (by omega) (by omega), ?_⟩⟩⟩
  · rw [I_0, I_lt ⟨by omega, by omega⟩ ⟨by omega, by omega⟩] at q; omega
  · rw [L_lit, I_lt ⟨by omega, by omega⟩ ⟨by omega, by omega⟩] at q; omega
  · rw [hC.d45_2 (by omega) (by omega), I_tn, (hT.2.2.1 i (by omega)).2.1]; exact hK
theorem MkH.nx (H : MkH σ0 v B n N c) (hi : i ≤ N) (h : kdB B n i ≠ 0) : i + 1 ≤ N := by
  have hT := H.2.2.2.2.2.1
  by_cases e : i = N
  · exact absurd (kdB_0.mpr (by rw [e]; exact hT.2.2.2.2)) h
  · omega
theorem MkH.fail (H : MkH σ0 v B n N c) {K : Sg → Prop} {x : Int} (h : MkS σ0 σ v T cnt i f) (hK : ∀ σ', σ' = w1 σ 50 6 (I x) → K σ') : Con l mX4_fail [.inr 50, .inl (I x)] σ (PV K) := eX4_fail ⟨H.ob0 h.1, hK⟩
theorem MkH.take (H : MkH σ0 v B n N c) {K : Int32 → Sg → Prop} {k : Int} (h : MkS σ0 σ v T cnt i f) (hi : i ≤ N) (hk : Rg k) (h1 : kdB B n i = k → ∀ σ', σ' = w1 σ 50 4 ((σ.2.1 50 4) + 1) → K 1 σ') (h2 : kdB B n i ≠ k → ∀ σ', σ' = w1 σ 50 6 (I 1) → K 0 σ') : Con l mX4_take [.inr 50, .inl (I k)] σ (PI K) := by
  have r := kdB_rg B n i
  refine eX4_take ⟨H.ob0 h.1, H.ob1 h.1, H.kd h hi ?_⟩
  rw [I_eq' (by omega) (by omega) hk.1 hk.2]
  exact ⟨fun q => h1 q, fun q => H.fail h (fun σ' e => h2 q σ' e)⟩
theorem MkH.number (H : MkH σ0 v B n N c) {K : Int32 → Sg → Prop} {lo hi : Int} (h : MkS σ0 σ v T cnt i f) (hi' : i ≤ N) (h0 : 0 ≤ lo ∧ lo ≤ 99) (h9 : 0 ≤ hi ∧ hi ≤ 99) (h1 : numF (kdB B n) (vlB B n) lo hi i = 0 → K (I (vlB B n i)) σ) (h2 : numF (kdB B n) (vlB B n) lo hi i ≠ 0 → ∀ σ', σ' = w1 σ 50 6 (I (numF (kdB B n) (vlB B n) lo hi i)) → K (-1) σ') : Con l mX4_number [.inr 50, .inl (I lo), .inl (I hi)] σ (PI K) := by
  have r := kdB_rg B n i
  have r2 := vlB_rg B n i
  refine eX4_number ⟨H.ob0 h.1, H.ob1 h.1, H.kd h hi' ?_⟩
  rw [show (2 : Int32) = I 2 from rfl, I_eq' (by omega) (by omega) (by omega) (by omega)]
  refine ⟨fun q => ⟨H.ob1 h.1, H.vl h hi' (q_within ⟨by omega, by omega⟩ ⟨by omega, by omega⟩ ⟨by omega, by omega⟩ (fun a b => ⟨fun _ => ?_, fun z => absurd z (by decide)⟩) (fun a => ⟨fun z => absurd rfl z, fun _ => H.fail (x := 2) h (fun σ' e => ?_)⟩))⟩, fun q => H.fail (x := 1) h (fun σ' e => ?_)⟩
  · rw [show min (vlB B n i) 100 = vlB B n i by omega]
    exact h1 (numF_0.mpr ⟨q, by omega, by omega⟩)
  · have e2 : numF (kdB B n) (vlB B n) lo hi i = 2 := by unfold numF; rw [if_pos q, if_neg (by omega)]
    rw [e2] at h2
    exact h2 (by omega) σ' e
  · have e2 : numF (kdB B n) (vlB B n) lo hi i = 1 := by unfold numF; rw [if_neg q]
    rw [e2] at h2
    exact h2 (by omega) σ' e
theorem MkH.nxF (H : MkH σ0 v B n N c) {lo hi : Int} (hi' : i ≤ N) (h : numF (kdB B n) (vlB B n) lo hi i = 0) : i + 1 ≤ N := H.nx hi' (by rw [(numF_0.mp h).1]; omega)
theorem MkH.tickNumber (H : MkH σ0 v B n N c) {K : Int32 → Sg → Prop} {t : Nat} {lo : Int} (h : MkS σ0 σ v T cnt i 0) (hi : i ≤ N) (ht : t < cnt) (hT : 0 ≤ T t 0 1 ∧ T t 0 1 ≤ 40) (hlo : 0 ≤ lo ∧ lo ≤ 999)
    (h1 : numF (kdB B n) (vlB B n) 0 99 i = 0 → ¬ (T t 0 1 ≤ vlB B n i ∨ vlB B n i < lo) → ∀ σ', Onl [50] σ σ' → σ'.2.1 50 5 = σ.2.1 50 5 → MkS σ0 σ' v T cnt (i + 1) 0 → K (I (vlB B n i)) σ')
    (h2 : ∀ (e : Int) σ', (numF (kdB B n) (vlB B n) 0 99 i ≠ 0 ∧ e = numF (kdB B n) (vlB B n) 0 99 i) ∨ (numF (kdB B n) (vlB B n) 0 99 i = 0 ∧ (T t 0 1 ≤ vlB B n i ∨ vlB B n i < lo) ∧ e = 3) → MkS σ0 σ' v T cnt i e → K (-1) σ') : Con l mX4_tickNumber [.inr 50, .inr (15 + 3 * t), .inl (I lo)] σ (PI K) := by
  have r2 := vlB_rg B n i
  have h10 := h.2.1.2.1
  refine eX4_tickNumber ⟨H.ob0 h.1, H.number (lo := 0) (hi := 99) h hi ⟨by omega, by omega⟩ ⟨by omega, by omega⟩ (fun q => ?_) (fun q σ' e => ⟨fun z => absurd rfl z, fun _ => h2 _ σ' (Or.inl ⟨q, rfl⟩) (h.w6 e)⟩)⟩
  have q' := numF_0.mp q
  refine ⟨fun _ => ?_, fun z => ?_⟩
  · rw [I_lt' (by omega) (by omega) (by omega) (by omega)]
    refine ⟨fun z => H.fail h (fun σ' e => h2 3 σ' (Or.inr ⟨q, Or.inr z, rfl⟩) (h.w6 e)), fun z => ⟨(h.1.tp (H.2.2.1 t (by omega))).ob, q_has (h.1.tp (H.2.2.1 t (by omega))) (h.2.2.2.1 t ht).2.1 hT.1 hT.2 ⟨by omega, by omega⟩ (fun a b => ⟨fun _ σ9 e9 => ?_, fun y => absurd y (by decide)⟩) (fun a => ⟨fun y => absurd rfl y, fun _ => H.fail h (fun σ' e => h2 3 σ' (Or.inr ⟨q, Or.inl (by omega), rfl⟩) (h.w6 e))⟩)⟩⟩
    exact h1 q (by omega) σ9 (Onl.w e9 (by simp)) (by rw [e9, w1_k (by omega)]) (h.inc e9)
  · rw [I_m1, I_eq ⟨by omega, by omega⟩ ⟨by omega, by omega⟩] at z; omega
/-- readCut: the part was begun -/
theorem MkH.readCut (H : MkH σ0 v B n N c) {K : Sg → Prop} {t : Nat} (h : MkS σ0 σ v T cnt i 0) (hi : i ≤ N) (ht : t < cnt) (hT : 0 ≤ T t 0 1 ∧ T t 0 1 ≤ 40) (hL : Lr σ L) (hP : TapeD σ 54 (bgn (T t 0 0)))
    (hK : ∀ σ', MkS σ0 σ' v T cnt (cut0 (kdB B n) (vlB B n) (T t) i L (bgn (T t 0 0))).1 (cut0 (kdB B n) (vlB B n) (T t) i L (bgn (T t 0 0))).2.1 → (cut0 (kdB B n) (vlB B n) (T t) i L (bgn (T t 0 0))).1 ≤ N → ((cut0 (kdB B n) (vlB B n) (T t) i L (bgn (T t 0 0))).2.1 = 0 → LPr σ' L (cut0 (kdB B n) (vlB B n) (T t) i L (bgn (T t 0 0))).2.2.2) → K σ') : Con l mX4_readCut [.inr 50, .inr (15 + 3 * t)] σ (PV K) := by
  have r := kdB_rg B n i
  have h10 := h.2.1.2.1
  have b1 : bgn (T t 0 0) 0 1 = 0 := rfl
  -- a cut of k ticks from a, in a state where the part is still as it was begun
  have G : ∀ (σ1 : Sg) (i' a k : Nat) (b : Int), MkS σ0 σ1 v T cnt i' 0 → Lr σ1 L → TapeD σ1 54 (bgn (T t 0 0)) → ((a + k : Nat) : Int) ≤ T t 0 1 → b = (a : Int) + k - 1 → (∀ σ', MkS σ0 σ' v T cnt i' 0 → LPr σ' L (cpy (bgn (T t 0 0)) (T t) a k) → K σ') → Con l mX9_addCut [.inr (σ1.2.2 50 3), .inr (15 + 3 * t), .inl (I a), .inl (I b)] σ1 (PV K) := by
    intro σ1 i' a k b h1 hL1 hP1 hk hb hK1
    rw [(h1.1.C H.1).p50_3]
    refine q_addCut (h1.1.tp H.2.2.2.2.1) (h1.1.tp (H.2.2.1 t (by omega))) (by omega) hP1 (h1.2.2.2.1 t ht) (by rw [b1]; omega) (by rw [b1]; omega) hk hT.2 hb (fun σ' ho hD => ?_)
    refine hK1 σ' (h1.onl ho (by decide)) ?_
    obtain ⟨L', g1, g2, g3, g4⟩ := hL1
    have ct : cpy (bgn (T t 0 0)) (T t) a k 0 1 = k := by rw [cpy_01 (by rw [b1]; omega), b1]; omega
    refine ⟨L', _, g1.onl ho (by decide) (by decide) (by decide), hD, g2, g3, by rw [ct]; omega, ?_⟩
    rw [ho.2.2 50 (by decide)]
    rcases g4 with ⟨w1, w2, w3⟩ | ⟨w1, w2⟩
    · exact Or.inl ⟨w1, w2, by rw [ct]; omega, w3, rfl⟩
    · exact Or.inr ⟨w1, Or.inl w2⟩
  unfold cut0 at hK
  refine eX4_readCut ⟨H.ob0 h.1, H.ob1 h.1, H.kd h hi ?_⟩
  rw [show (6 : Int32) = I 6 from rfl, I_eq' (by omega) (by omega) (by omega) (by omega)]
  refine ⟨fun q σ5 e5 => ?_, fun q => ?_⟩
  · rw [if_neg (by omega)] at hK
    have h5 := h.inc e5
    have i1 := H.nx hi (by omega)
    have L5 := hL.w e5 (by omega)
    have P5 : TapeD σ5 54 (bgn (T t 0 0)) := hP.onl (Onl.w (S := [50]) e5 (by simp)) (by decide) (by decide) (by decide)
    refine H.tickNumber (lo := 0) h5 i1 ht hT ⟨by omega, by omega⟩ (fun n1 c1 σ6 o6 z6 h6 => ⟨fun z => ?_, fun _ => ?_⟩) (fun e σ6 c1 h6 => ⟨fun _ => ?_, fun z => absurd rfl z⟩)
    · have := vlB_rg B n (i + 1)
      rw [I_m1, I_eq ⟨by omega, by omega⟩ ⟨by omega, by omega⟩] at z; omega
    · rw [if_neg (Classical.not_not.mpr n1), if_neg (by omega)] at hK
      have i2 := H.nxF i1 n1
      have L6 : Lr σ6 L := by
        obtain ⟨L', g1, g2, g3, g4⟩ := L5
        exact ⟨L', g1.onl o6 (by decide) (by decide) (by decide), g2, g3, by rw [z6]; exact g4⟩
      have P6 := P5.onl o6 (by decide) (by decide) (by decide)
      refine H.take (k := 7) h6 i2 ⟨by omega, by omega⟩ (fun k7 σ8 e8 => ⟨fun _ => ?_, fun z => absurd z (by decide)⟩) (fun k7 σ8 e8 => ⟨fun z => absurd rfl z, fun _ => ?_⟩)
      · rw [if_neg (Classical.not_not.mpr k7)] at hK
        have h8 := h6.inc e8
        have i3 := H.nx i2 (by rw [k7]; omega)
        have L8 := L6.w e8 (by omega)
        have P8 : TapeD σ8 54 (bgn (T t 0 0)) := P6.onl (Onl.w (S := [50]) e8 (by simp)) (by decide) (by decide) (by decide)
        have rv := vlB_rg B n (i + 1)
        refine H.tickNumber (lo := vlB B n (i + 1)) h8 i3 ht hT ⟨by omega, by omega⟩ (fun n3 c3 σ10 o10 z10 h10' => ⟨fun z => ?_, fun _ => ?_⟩) (fun e σ10 c3 h10' => ⟨fun _ => ?_, fun z => absurd rfl z⟩)
        · have := vlB_rg B n (i + 3)
          rw [I_m1, I_eq ⟨by omega, by omega⟩ ⟨by omega, by omega⟩] at z; omega
        · rw [if_neg (Classical.not_not.mpr n3), if_neg c3] at hK
          have rv3 := vlB_rg B n (i + 3)
          have c3' : ¬ (T t 0 1 ≤ vlB B n (i + 3) ∨ vlB B n (i + 3) < vlB B n (i + 1)) := c3
          have L10 : Lr σ10 L := by
            obtain ⟨L', g1, g2, g3, g4⟩ := L8
            exact ⟨L', g1.onl o10 (by decide) (by decide) (by decide), g2, g3, by rw [z10]; exact g4⟩
          refine ⟨H.ob4 h10'.1, ?_⟩
          rw [show I (vlB B n (i + 1)) = I (((vlB B n (i + 1)).toNat : Nat) : Int) by congr 1; omega]
          refine G σ10 (i + 4) _ (vlB B n (i + 3) - vlB B n (i + 1) + 1).toNat (vlB B n (i + 3)) h10' L10 (P8.onl o10 (by decide) (by decide) (by decide)) (by omega) (by omega) (fun σ' hs hl => hK σ' hs ?_ (fun _ => hl))
          exact H.nxF i3 n3
        · rcases c3 with ⟨n3, e3⟩ | ⟨n3, c3, e3⟩
          · rw [if_pos n3] at hK
            rw [e3] at h10'
            exact hK σ10 h10' i3 (fun z => absurd z n3)
          · rw [if_neg (Classical.not_not.mpr n3), if_pos c3] at hK
            rw [e3] at h10'
            exact hK σ10 h10' i3 (fun z => absurd z (by show ¬ (3 : Int) = 0; omega))
      · rw [if_pos k7] at hK
        exact hK σ8 (h6.w6 e8) i2 (fun z => absurd z (by show ¬ (1 : Int) = 0; omega))
    · rcases c1 with ⟨n1, e1⟩ | ⟨n1, c1, e1⟩
      · rw [if_pos n1] at hK
        rw [e1] at h6
        exact hK σ6 h6 i1 (fun z => absurd z n1)
      · have rv := vlB_rg B n (i + 1)
        rw [if_neg (Classical.not_not.mpr n1), if_pos (by omega)] at hK
        rw [e1] at h6
        exact hK σ6 h6 i1 (fun z => absurd z (by show ¬ (3 : Int) = 0; omega))
  · rw [if_pos q] at hK
    refine ⟨(h.1.tp (H.2.2.1 t (by omega))).ob, H.ob4 h.1, ?_⟩
    rw [(h.2.2.2.1 t ht).2.1, I_1, I_sub, show (0 : Int32) = I ((0 : Nat) : Int) from rfl]
    exact G σ i 0 (T t 0 1).toNat _ h hL hP (by omega) (by omega) (fun σ' hs hl => hK σ' hs hi (fun _ => hl))
end MKD
end MKC
