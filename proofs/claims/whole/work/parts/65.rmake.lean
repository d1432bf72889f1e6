/-! the reference's make, 1 -/
abbrev RS : List Nat := [21, 22, 23, 24, 25, 26, 27, 28, 33, 36, 37]
abbrev RC : List Nat := [96, 97, 98, 99, 100, 101, 102, 103]
def TpR (σ : Sg) (T : Nat → Nat → Nat → Int) (cnt : Nat) : Prop := ∀ t, t < cnt → σ.2.1 96 t = I (T t 0 0) ∧ σ.2.1 97 t = I (T t 0 1) ∧ ∀ i : Nat, (i : Int) < T t 0 1 → σ.2.1 98 (40 * t + i) = I (T t 1 i) ∧ σ.2.1 99 (40 * t + i) = I (T t 2 i)
def RkH (σ0 : Sg) (v : Vt) (B : Nat → Int) (n c : Nat) : Prop := Mp σ0 ∧ MArms σ0 v.1 ∧ TxM σ0 B n ∧ WF c v
def RkS (σ0 σ : Sg) (v : Vt) (B : Nat → Int) (n : Nat) (T : Nat → Nat → Nat → Int) (cnt i : Nat) (f : Int) : Prop := Ws RS RC σ0 σ ∧ (v.2.2.1 1 ≤ cnt ∧ cnt ≤ 10) ∧ σ.2.1 82 21 = I (cnt : Nat) ∧ TpR σ T cnt ∧ TkR σ B n i ∧ σ.2.1 82 27 = I f ∧ σ.2.1 82 28 = I (if f = 0 then -1 else (tk B n i : Nat))
def RLr (σ : Sg) (L : Nat → Nat → Int) : Prop := σ.2.1 82 36 = I (L 0 1) ∧ σ.2.1 82 37 = I (L 0 0) ∧ ∀ i : Nat, (i : Int) < L 0 1 → σ.2.1 102 i = I (L 1 i) ∧ σ.2.1 103 i = I (L 2 i)
def RPr (σ : Sg) (P : Nat → Nat → Int) : Prop := σ.2.1 82 33 = I (P 0 1) ∧ ∀ i : Nat, (i : Int) < P 0 1 → σ.2.1 100 i = I (P 1 i) ∧ σ.2.1 101 i = I (P 2 i)
section RMK
variable {l : Launch} {σ0 σ σ' : Sg} {v : Vt} {B : Nat → Int} {n c : Nat} {T : Nat → Nat → Nat → Int} {cnt i : Nat} {f : Int} {L P : Nat → Nat → Int}
theorem TkR.ws {S C : List Nat} (h : TkR σ B n i) (w : Ws S C σ σ') (hs : ∀ k ∈ S, ¬ (22 ≤ k ∧ k ≤ 26)) : TkR σ' B n i := by
  have E : ∀ k, 22 ≤ k → k ≤ 26 → σ'.2.1 82 k = σ.2.1 82 k := fun k a b => w.2.2.2 k (fun q => hs k q ⟨a, b⟩)
  unfold TkR at h ⊢
  rw [E 22 (by omega) (by omega), E 23 (by omega) (by omega), E 24 (by omega) (by omega), E 25 (by omega) (by omega), E 26 (by omega) (by omega)]
  exact h
theorem RLr.ws {S C : List Nat} (h : RLr σ L) (w : Ws S C σ σ') (h1 : 36 ∉ S) (h2 : 37 ∉ S) (h3 : 102 ∉ C) (h4 : 103 ∉ C) : RLr σ' L := by
  unfold RLr at h ⊢
  rw [w.2.2.2 36 h1, w.2.2.2 37 h2, w.2.2.1 102 (by omega) h3, w.2.2.1 103 (by omega) h4]
  exact h
theorem RPr.ws {S C : List Nat} (h : RPr σ P) (w : Ws S C σ σ') (h1 : 33 ∉ S) (h3 : 100 ∉ C) (h4 : 101 ∉ C) : RPr σ' P := by
  unfold RPr at h ⊢
  rw [w.2.2.2 33 h1, w.2.2.1 100 (by omega) h3, w.2.2.1 101 (by omega) h4]
  exact h
theorem RkS.mk2 {S C : List Nat} {i' : Nat} {f' : Int} (h : RkS σ0 σ v B n T cnt i f) (w : Ws S C σ σ') (hs : ∀ k ∈ S, k ∈ RS ∧ k ≠ 21) (hc : ∀ r ∈ C, 100 ≤ r ∧ r ≤ 103) (ht : TkR σ' B n i') (h27 : σ'.2.1 82 27 = I f') (h28 : σ'.2.1 82 28 = I (if f' = 0 then -1 else (tk B n i' : Nat))) : RkS σ0 σ' v B n T cnt i' f' := by
  have E : ∀ r, r ≠ 82 → ¬ (100 ≤ r ∧ r ≤ 103) → σ'.2.1 r = σ.2.1 r := fun r a b => w.2.2.1 r a (fun q => b (hc r q))
  refine ⟨h.1.tr (w.up (fun k hk => (hs k hk).1) (fun r hr => ?_)), h.2.1, ?_, fun t ht => ?_, ht, h27, h28⟩
  · have q := hc r hr
    have : r = 100 ∨ r = 101 ∨ r = 102 ∨ r = 103 := by omega
    rcases this with rfl | rfl | rfl | rfl <;> decide
  · rw [w.2.2.2 21 (fun q => (hs 21 q).2 rfl)]; exact h.2.2.1
  · rw [E 96 (by omega) (by omega), E 97 (by omega) (by omega), E 98 (by omega) (by omega), E 99 (by omega) (by omega)]
    exact h.2.2.2.1 t ht
theorem RkS.ws {S C : List Nat} (h : RkS σ0 σ v B n T cnt i f) (w : Ws S C σ σ') (hs : ∀ k ∈ S, k = 33 ∨ k = 36 ∨ k = 37) (hc : ∀ r ∈ C, 100 ≤ r ∧ r ≤ 103) : RkS σ0 σ' v B n T cnt i f := by
  refine h.mk2 w (fun k hk => ?_) hc (h.2.2.2.2.1.ws w (fun k hk => by have := hs k hk; omega)) ?_ ?_
  · rcases hs k hk with rfl | rfl | rfl <;> decide
  · rw [w.2.2.2 27 (fun q => by have := hs 27 q; omega)]; exact h.2.2.2.2.2.1
  · rw [w.2.2.2 28 (fun q => by have := hs 28 q; omega)]; exact h.2.2.2.2.2.2
theorem RkS.M (H : RkH σ0 v B n c) (h : RkS σ0 σ v B n T cnt i f) : Mp σ := h.1.M H.1
theorem RkS.arms (H : RkH σ0 v B n c) (h : RkS σ0 σ v B n T cnt i f) : MArms σ v.1 := H.2.1.eq (fun r a b => h.1.2.2.1 r (by omega) (fun q => by
  simp only [List.mem_cons, List.not_mem_nil, or_false] at q; omega))
theorem RkS.isWord (H : RkH σ0 v B n c) {K : Int32 → Sg → Prop} {w : Int} (h : RkS σ0 σ v B n T cnt i f) (hf : 0 ≤ f ∧ f ≤ 5) (hw : 0 ≤ w ∧ w ≤ 6) (h1 : f = 0 → kdB B n i = 4 + w → K 1 σ) (h0 : ¬ (f = 0 ∧ kdB B n i = 4 + w) → K 0 σ) : Con l mX12_isWord [.inr 82, .inl (I w)] σ (PI K) := by
  have r := kdB_rg B n i
  have t := h.2.2.2.2.1
  refine eX12_isWord ⟨(h.M H).ob, ?_⟩
  rw [h.2.2.2.2.2.1, I_0, I_eq' (by omega) (by omega) (by omega) (by omega)]
  refine ⟨fun q => h0 (fun z => q z.1), fun q => ?_⟩
  by_cases k4 : 4 ≤ kdB B n i
  · obtain ⟨s1, s2⟩ := t.2.2.2.2.2.2.2 k4
    rw [s1, s2, I_eq' (a := kdB B n i - 4) (b := w) (by omega) (by omega) (by omega) (by omega)]
    exact ⟨fun z => absurd rfl z, fun _ => ⟨fun z => h0 (fun y => z (by have := y.2; omega)), fun z => h1 q (by omega)⟩⟩
  · obtain ⟨s, s1, s2⟩ : ∃ s : Int, σ.2.1 82 25 = I s ∧ 1 ≤ s ∧ s ≤ 4 := by
      have : kdB B n i = 0 ∨ kdB B n i = 1 ∨ kdB B n i = 2 ∨ kdB B n i = 3 := by omega
      rcases this with e | e | e | e
      · exact ⟨3, t.2.2.2.1 e, by omega, by omega⟩
      · exact ⟨4, t.2.2.2.2.1 e, by omega, by omega⟩
      · exact ⟨1, (t.2.2.2.2.2.1 e).1, by omega, by omega⟩
      · exact ⟨2, t.2.2.2.2.2.2.1 e, by omega, by omega⟩
    rw [s1, I_eq' (by omega) (by omega) (by omega) (by omega)]
    exact ⟨fun _ => h0 (fun y => k4 (by have := y.2; omega)), fun z => absurd z (by omega)⟩
theorem RkS.wrong (H : RkH σ0 v B n c) {K : Sg → Prop} {x : Int} (h : RkS σ0 σ v B n T cnt i 0) (hx : x ≠ 0) (hK : ∀ σ', Ws [27, 28] [] σ σ' → RkS σ0 σ' v B n T cnt i x → K σ') : Con l mX12_wrong [.inr 82, .inl (I x)] σ (PV K) := by
  refine eX12_wrong ⟨(h.M H).ob, fun _ σ3 e3 σ4 e4 => ?_, fun q => absurd h.2.2.2.2.2.1 q⟩
  have w : Ws [27, 28] [] σ σ4 := (Ws.w e3 (by decide)).tr (Ws.w e4 (by decide))
  refine hK σ4 w (h.mk2 w (by decide) (by decide) (h.2.2.2.2.1.ws w (by decide)) ?_ ?_)
  · rw [e4, w1_k (by omega), e3, w1_at]
  · rw [if_neg hx, e4, w1_at, e3, w1_k (by omega)]; exact h.2.2.2.2.1.2.1
theorem RkS.wrongF (H : RkH σ0 v B n c) {K : Sg → Prop} {x : Int32} (h : RkS σ0 σ v B n T cnt i f) (hf : f ≠ 0) (h5 : 0 ≤ f ∧ f ≤ 5) (hK : K σ) : Con l mX12_wrong [.inr 82, .inl x] σ (PV K) := by
  refine eX12_wrong ⟨(h.M H).ob, fun q => ?_, fun _ => hK⟩
  rw [h.2.2.2.2.2.1, I_0, I_eq ⟨by omega, by omega⟩ ⟨by omega, by omega⟩] at q
  exact absurd q hf
theorem RkS.next (H : RkH σ0 v B n c) {K : Sg → Prop} (h : RkS σ0 σ v B n T cnt i 0) (hK : ∀ σ', Ws [23, 24, 25, 26] [] σ σ' → RkS σ0 σ' v B n T cnt (i + 1) 0 → K σ') : Con l mX12_next [.inr 82] σ (PV K) := by
  have t := h.2.2.2.2.1
  have hp : nxt B n (tk B n i) ≤ n := by
    by_cases z : tk B n i < n
    · exact (nxt_gt z).2
    · rw [nxt_end (by omega)]; exact tk_le i
  refine m_next (p := nxt B n (tk B n i)) (i := i + 1) (h.M H) (h.1.tx H.2.2.1 (by decide)) t.1 t.2.2.1 hp rfl (fun σ' w t' => hK σ' w (h.mk2 w (by decide) (by decide) t' ?_ ?_))
  · rw [w.2.2.2 27 (by decide)]; exact h.2.2.2.2.2.1
  · rw [w.2.2.2 28 (by decide)]; exact h.2.2.2.2.2.2
theorem RkS.isNumber (H : RkH σ0 v B n c) {K : Int32 → Sg → Prop} {lo hi : Int} (h : RkS σ0 σ v B n T cnt i 0) (h0 : 0 ≤ lo ∧ lo ≤ 99) (h9 : 0 ≤ hi ∧ hi ≤ 99) (h1 : numF (kdB B n) (vlB B n) lo hi i = 0 → σ.2.1 82 26 = I (vlB B n i) → K 1 σ) (h2 : numF (kdB B n) (vlB B n) lo hi i ≠ 0 → ∀ σ', Ws [27, 28] [] σ σ' → RkS σ0 σ' v B n T cnt i (numF (kdB B n) (vlB B n) lo hi i) → K 0 σ') : Con l mX12_isNumber [.inr 82, .inl (I lo), .inl (I hi)] σ (PI K) := by
  have r := kdB_rg B n i
  have r2 := vlB_rg B n i
  have t := h.2.2.2.2.1
  have h27 := h.2.2.2.2.2.1
  -- a fault x
  have bad : ∀ x : Int, x = 1 ∨ x = 2 → numF (kdB B n) (vlB B n) lo hi i = x → Con l mX12_wrong [.inr 82, .inl (I x)] σ (PV (fun σ1 => ((¬ (σ1.2.1 82 27) = 0 → K 0 σ1) ∧ ((σ1.2.1 82 27) = 0 → K 1 σ1)))) := by
    intro x hx en
    refine h.wrong H (by omega) (fun σ1 w1' s1 => ?_)
    rw [s1.2.2.2.2.2.1, I_0, I_eq' (by omega) (by omega) (by omega) (by omega)]
    rw [en] at h2
    exact ⟨fun _ => h2 (by omega) σ1 w1' s1, fun z => absurd z (by omega)⟩
  refine eX12_isNumber ⟨(h.M H).ob, fun _ => ?_, fun q => absurd h27 q⟩
  by_cases k2 : kdB B n i = 2
  · obtain ⟨s1, s2⟩ := t.2.2.2.2.2.1 k2
    rw [s1, s2, I_lt' (by omega) (by omega) (by omega) (by omega), I_le' (by omega) (by omega) (by omega) (by omega)]
    have e2 : ¬ (lo ≤ vlB B n i ∧ vlB B n i ≤ hi) → numF (kdB B n) (vlB B n) lo hi i = 2 := fun q => by unfold numF; rw [if_pos k2, if_neg q]
    refine ⟨fun _ => ⟨fun q => gX12_isNumber_41 ⟨(h.M H).ob, bad 2 (Or.inr rfl) (e2 (by omega))⟩, fun q => ⟨fun q2 => ⟨fun z => absurd h27 z, fun _ => h1 (numF_0.mpr ⟨k2, by omega, by omega⟩) s2⟩, fun q2 => gX12_isNumber_41 ⟨(h.M H).ob, bad 2 (Or.inr rfl) (e2 (by omega))⟩⟩⟩, fun z => absurd rfl z⟩
  · have e1 : numF (kdB B n) (vlB B n) lo hi i = 1 := by unfold numF; rw [if_neg k2]
    obtain ⟨s, s1, s2⟩ : ∃ s : Int, σ.2.1 82 25 = I s ∧ 0 ≤ s ∧ s ≤ 4 ∧ s ≠ 1 := by
      have : kdB B n i = 0 ∨ kdB B n i = 1 ∨ kdB B n i = 3 ∨ 4 ≤ kdB B n i := by omega
      rcases this with e | e | e | e
      · exact ⟨3, t.2.2.2.1 e, by omega, by omega, by omega⟩
      · exact ⟨4, t.2.2.2.2.1 e, by omega, by omega, by omega⟩
      · exact ⟨2, t.2.2.2.2.2.2.1 e, by omega, by omega, by omega⟩
      · exact ⟨0, (t.2.2.2.2.2.2.2 e).1, by omega, by omega, by omega⟩
    refine ⟨fun z => ?_, fun _ => bad 1 (Or.inl rfl) e1⟩
    rw [s1, I_1, I_eq ⟨by omega, by omega⟩ ⟨by omega, by omega⟩] at z
    exact absurd z s2.2.2
/-- a tick goes out -/
theorem m_out {K : Sg → Prop} {x y : Int} (hM : Mp σ) (hL : RLr σ L) (h0 : 0 ≤ L 0 1 ∧ L 0 1 ≤ 41) (hK : ∀ σ', Ws [36] [102, 103] σ σ' → RLr σ' (psh L x y) → K σ') : Con l mX12_out [.inr 82, .inl (I x), .inl (I y)] σ (PV K) := by
  refine eX12_out ⟨hM.ob, ?_⟩
  rw [hL.1, show (40 : Int32) = I 40 from rfl, I_le' (by omega) (by omega) (by omega) (by omega)]
  refine ⟨fun q => ⟨hM.a34 (by omega) (by omega), fun σ4 e4 => ?_⟩, fun q => hK σ (Ws.rf _ _ _) (by unfold psh; rw [if_neg q]; exact hL)⟩
  rw [hM.k34, I_cl (by omega) (by omega)] at e4
  have w4 : Ws [36] [102, 103] σ σ4 := Ws.c e4 (by decide) (by omega)
  have s4 : σ4.2.1 82 36 = I (L 0 1) := by rw [e4, w1_r (by omega)]; exact hL.1
  rw [s4]
  refine ⟨(w4.M hM).a35 (by omega) (by omega), fun σ6 e6 σ7 e7 => ?_⟩
  rw [(w4.M hM).k35, I_cl (by omega) (by omega)] at e6
  have w6 : Ws [36] [102, 103] σ σ6 := w4.tr (Ws.c e6 (by decide) (by omega))
  have s6 : σ6.2.1 82 36 = I (L 0 1) := by rw [e6, w1_r (by omega)]; exact s4
  rw [s6, I_1, I_add] at e7
  refine hK σ7 (w6.tr (Ws.w e7 (by decide))) ?_
  rw [psh_t q]
  refine ⟨by rw [e7, w1_at, tA_01], ?_, fun i hi => ?_⟩
  · rw [e7, w1_k (by omega), w6.2.2.2 37 (by decide), tA_00]; exact hL.2.1
  · rw [tA_01] at hi
    rw [tA_1, tA_2, e7, w1_r (by omega), w1_r (by omega), e6, w1_r (by omega), e4]
    by_cases z : i = (L 0 1).toNat
    · rw [if_pos z, if_pos z, z, w1_at, w1_at]; exact ⟨rfl, rfl⟩
    · rw [if_neg z, if_neg z, w1_k z, w1_k z, w1_r (by omega)]
      exact hL.2.2 i (by omega)
theorem or_add {p q : Int} {j : Nat} (hj : j < 3) (h0 : 0 ≤ p) (h1 : p < 16 ^ j) (g0 : 0 ≤ q) (g1 : q < 16) : I p ||| (I q <<< ((4 * I j) &&& 31)) = I (p + q * 16 ^ j) := by
  obtain ⟨a, rfl⟩ : ∃ a : Nat, p = a := ⟨p.toNat, by omega⟩
  obtain ⟨m, rfl⟩ : ∃ m : Nat, q = m := ⟨q.toNat, by omega⟩
  rw [← I_nat a, ← I_nat m]
  have S := shl_all m (by omega)
  have hj3 : j = 0 ∨ j = 1 ∨ j = 2 := by omega
  rcases hj3 with rfl | rfl | rfl
  · have h1 : (a : Int) < 1 := by rw [show (16 : Int) ^ 0 = 1 from rfl] at h1; exact h1
    have az : a = 0 := by omega
    subst az
    have O := orm 0 (by omega) 0 (by omega) m (by omega)
    rw [S.1, or_nI (by omega) (by omega), show (0 : Nat) ||| m = m from O.1.trans (by omega), I_nat, show (16 : Int) ^ 0 = 1 from rfl]
    congr 1
    omega
  · have h1 : (a : Int) < 16 := by rw [show (16 : Int) ^ 1 = 16 from rfl] at h1; exact h1
    have O := orm 0 (by omega) a (by omega) m (by omega)
    rw [S.2.1, or_nI (by omega) (by omega), show a ||| (16 * m) = a + 16 * m by have := O.2.1; rw [show 256 * 0 + a = a by omega] at this; exact this, I_nat, show (16 : Int) ^ 1 = 16 from rfl]
    congr 1
    omega
  · have h1 : (a : Int) < 256 := by rw [show (16 : Int) ^ 2 = 256 from rfl] at h1; exact h1
    have O := orm (a / 16) (by omega) (a % 16) (by omega) m (by omega)
    rw [S.2.2, or_nI (by omega) (by omega), show a ||| (256 * m) = a + 256 * m by have := O.2.2; rw [show 16 * (a / 16) + a % 16 = a by omega] at this; exact this, I_nat, show (16 : Int) ^ 2 = 256 from rfl]
    congr 1
    omega
theorem RkS.joinPart (H : RkH σ0 v B n c) {K : Sg → Prop} (x : Mt) (h : RkS σ0 σ v B n T cnt i 0) (hv : Iv v.1 (v.2.2.1 0) x) (hL : RLr σ x.2.2.1) (hP : RPr σ x.2.2.2) (hK : ∀ σ', RkS σ0 σ' v B n T cnt i 0 → RLr σ' (jnM v.1 x).2.2.1 → K σ') : Con l mX12_joinPart [.inr 82] σ (PV K) := by
  have w0 := H.2.2.2.1
  have hw := H.2.2.2
  have l0 := hv.1.2.1
  have p0 := hv.2.1.2.1
  have o0 := hv.1.1
  obtain ⟨a, ea⟩ : ∃ a : Nat, x.2.2.1 0 0 = a := ⟨(x.2.2.1 0 0).toNat, by omega⟩
  have a2 : a < 2 := by omega
  have hwf := (hw.2.2.1 a a2).1
  have ej : (jnM v.1 x).2.2.1 = jnP (v.1 a) x.2.2.1 x.2.2.2 := by show jnP (v.1 (x.2.2.1 0 0).toNat) _ _ = _; rw [ea, I_tn]
  rw [ej] at hK
  refine eX12_joinPart ⟨(h.M H).ob, fun q => absurd h.2.2.2.2.2.1 q, fun _ => ?_⟩
  rw [hP.1, hL.1, I_0, I_eq' (by omega) (by omega) (by omega) (by omega), I_le' (by omega) (by omega) (by omega) (by omega)]
  refine ⟨fun pz => ?_, fun pz => hK σ h (by unfold jnP; rw [if_pos pz]; exact hL)⟩
  -- the part's own ticks
  have G : ∀ Q : Nat → Nat → Int, (0 ≤ Q 0 1 ∧ Q 0 1 ≤ 41) → jnP (v.1 a) x.2.2.1 x.2.2.2 = cpy Q x.2.2.2 0 (x.2.2.2 0 1).toNat → ∀ j, j ≤ (x.2.2.2 0 1).toNat → ∀ σ1, Ws [36] [102, 103] σ σ1 → RLr σ1 (cpy Q x.2.2.2 0 j) → GW l mX12_joinPart 129 [(0, .inr 82), (1, .inl (I (j : Nat)))] [] σ1 0 0 (PV K) := by
    intro Q q0 eQ
    refine lp ?_ ?_
    · intro σ1 w1' D1
      have P1 : RPr σ1 x.2.2.2 := hP.ws w1' (by decide) (by decide) (by decide)
      refine gX12_joinPart_129 ⟨(w1'.M (h.M H)).ob, fun _ => hK σ1 (h.ws w1' (by decide) (by decide)) (by rw [eQ]; exact D1), fun z => absurd ?_ z⟩
      rw [P1.1]; exact (I_le ⟨by omega, by omega⟩ ⟨by omega, by omega⟩).mpr (by omega)
    · intro j hj ih σ1 w1' D1
      have P1 : RPr σ1 x.2.2.2 := hP.ws w1' (by decide) (by decide) (by decide)
      have M1 := w1'.M (h.M H)
      refine gX12_joinPart_129 ⟨M1.ob, fun z => ?_, fun _ => ⟨M1.a31 (by omega) (by omega), M1.a32 (by omega) (by omega), ?_⟩⟩
      · rw [P1.1, I_le ⟨by omega, by omega⟩ ⟨by omega, by omega⟩] at z; omega
      rw [M1.d31 (by omega) (by omega), M1.d32 (by omega) (by omega), I_tn, (P1.2 j (by omega)).1, (P1.2 j (by omega)).2]
      refine m_out M1 D1 (by rw [cpy_01 q0]; omega) (fun σ2 w2 D2 => ?_)
      rw [I_1, I_add]
      refine ih σ2 (w1'.tr w2) ?_
      show RLr σ2 (psh (cpy Q x.2.2.2 0 j) (x.2.2.2 1 (0 + j)) (x.2.2.2 2 (0 + j)))
      rw [Nat.zero_add]; exact D2
  refine ⟨fun lz => ?_, fun lz => ?_⟩
  · exact G x.2.2.1 l0 (by unfold jnP; rw [if_neg pz, if_pos (by omega)]) 0 (by omega) σ (Ws.rf _ _ _) hL
  · have M0 := h.M H
    obtain ⟨y, hy⟩ : ∃ y : Int, y = x.2.2.1 1 (x.2.2.1 0 1 - 1).toNat := ⟨_, rfl⟩
    obtain ⟨b, hb⟩ : ∃ b : Int, b = x.2.2.2 1 0 := ⟨_, rfl⟩
    have qy : isPo (v.1 a) y := by
      rw [hy]
      have := (hv.1.2.2 (x.2.2.1 0 1 - 1).toNat (by omega)).1
      rw [ea, I_tn] at this; exact this
    have qb : isPo (v.1 a) b := by
      rw [hb]
      have := (hv.2.1.2.2 0 (by omega)).1
      rw [hv.2.2, ea, I_tn] at this; exact this
    have y0 := qy.1; have y1 := qy.2.1; have b0 := qb.1; have b1 := qb.2.1
    refine ⟨?_, ?_, ?_⟩
    · rw [I_1, I_sub]; exact M0.a34 (by omega) (by omega)
    · exact M0.a31 (z := 0) (by omega) (by omega)
    have ry : σ.2.1 (σ.2.2 82 34) ((I (x.2.2.1 0 1)) - 1).toNatClampNeg = I y := by
      rw [I_1, I_sub, M0.d34 (by omega) (by omega), (hL.2.2 (x.2.2.1 0 1 - 1).toNat (by omega)).1, hy]
    have rb : σ.2.1 (σ.2.2 82 31) (I 0).toNatClampNeg = I b := by
      rw [M0.d31 (by omega) (by omega), show (0 : Int).toNat = 0 from rfl, (hP.2 0 (by omega)).1, hb]
    rw [ry, rb, hL.2.1, ea]
    have hr : 0 ≤ hop (v.1 a) y b ∧ hop (v.1 a) y b ≤ 15 := hps_rg hwf y b (v.1 a 0 2).toNat (by have := hwf.1; omega)
    refine m_hop M0 (h.arms H) a2 hwf y0 (by omega) b0 (by omega) ?_
    obtain ⟨hh, eh⟩ : ∃ hh : Nat, hop (v.1 a) y b = hh := ⟨(hop (v.1 a) y b).toNat, by omega⟩
    have eQ : jnP (v.1 a) x.2.2.1 x.2.2.2 = cpy (itp y b hh x.2.2.1 (hh - 1)) x.2.2.2 0 (x.2.2.2 0 1).toNat := by
      unfold jnP
      rw [if_neg pz, if_neg (by omega), ← hy, ← hb, eh, show ((hh : Int) - 1).toNat = hh - 1 by omega]
    rw [eh]
    have F : ∀ k, k ≤ hh - 1 → ∀ σ1, Ws [36] [102, 103] σ σ1 → RLr σ1 (itp y b hh x.2.2.1 k) → GW l mX12_joinPart 55 [(0, .inr 82), (1, .inl (I y)), (2, .inl (I b)), (3, .inl (I (hh : Int))), (4, .inl (I ((k + 1 : Nat) : Int)))] [] σ1 0 0 (PV K) := by
      refine lp ?_ ?_
      · intro σ1 w1' D1
        refine gX12_joinPart_55 ⟨fun _ => ?_, fun z => absurd ((I_le ⟨by omega, by omega⟩ ⟨by omega, by omega⟩).mpr (by omega)) z⟩
        exact G _ (by rw [itp_01 l0]; omega) eQ 0 (by omega) σ1 w1' D1
      · intro k hk ih σ1 w1' D1
        refine gX12_joinPart_55 ⟨fun z => ?_, fun _ => ?_⟩
        · rw [I_le ⟨by omega, by omega⟩ ⟨by omega, by omega⟩] at z; omega
        have J : ∀ j, j ≤ 3 → GW l mX12_joinPart 67 [(0, .inr 82), (1, .inl (I y)), (2, .inl (I b)), (3, .inl (I (hh : Int))), (4, .inl (I ((k + 1 : Nat) : Int))), (5, .inl (I (ipS y b ((k + 1 : Nat) : Int) hh j))), (6, .inl (I (j : Nat)))] [] σ1 0 0 (PV K) := by
          refine lp ?_ ?_
          · refine gX12_joinPart_67 ⟨fun _ => ⟨(w1'.M M0).ob, ?_⟩, fun z => absurd ((I_le (a := 3) ⟨by omega, by omega⟩ ⟨by omega, by omega⟩).mpr (by omega)) z⟩
            rw [ipS_3]
            refine m_out (y := 0) (w1'.M M0) D1 (by rw [itp_01 l0]; omega) (fun σ2 w2 D2 => ?_)
            rw [I_1, I_add]
            exact ih σ2 (w1'.tr w2) D2
          · intro j hj ihj
            have s := ipS_rg y b (i := ((k + 1 : Nat) : Int)) (h := (hh : Int)) (by omega) (by omega) (by omega) j (by omega)
            have g := ipj_rg16 y b j (i := ((k + 1 : Nat) : Int)) (h := (hh : Int)) (by omega) (by omega) (by omega)
            refine gX12_joinPart_67 ⟨fun z => ?_, fun _ => q_placeOfM y0 (by omega) (by omega) (q_placeOfM b0 (by omega) (by omega) (q_placeOfM y0 (by omega) (by omega) ⟨?_, ?_⟩))⟩
            · rw [L_lit, I_le ⟨by omega, by omega⟩ ⟨by omega, by omega⟩] at z; omega
            · rw [I_0, I_eq ⟨by omega, by omega⟩ ⟨by omega, by omega⟩]; omega
            · rw [way_div j (by omega) (by omega) (by omega) (by omega), or_add hj s.1.1 s.1.2 g.1 g.2, I_1, I_add]
              exact ihj
        exact J 0 (by omega)
    exact F 0 (by omega) σ (Ws.rf _ _ _) hL
theorem RkS.joinF (H : RkH σ0 v B n c) {K : Sg → Prop} (h : RkS σ0 σ v B n T cnt i f) (hf : f ≠ 0) (h5 : 0 ≤ f ∧ f ≤ 5) (hK : K σ) : Con l mX12_joinPart [.inr 82] σ (PV K) := by
  refine eX12_joinPart ⟨(h.M H).ob, fun _ => hK, fun q => ?_⟩
  rw [h.2.2.2.2.2.1, I_0, I_eq ⟨by omega, by omega⟩ ⟨by omega, by omega⟩] at q
  exact absurd q hf
theorem m_slows {K : Sg → Prop} {m : Nat} (hM : Mp σ) (hP : RPr σ P) (p0 : 0 ≤ P 0 1 ∧ P 0 1 ≤ 41) (m1 : 1 ≤ m) (m9 : m ≤ 9) (hK : ∀ σ', Ws [33] [100, 101] σ σ' → RPr σ' (slw P m) → K σ') : Con l mX12_slows [.inr 82, .inl (I m)] σ (PV K) := by
  obtain ⟨n, hn⟩ : ∃ n : Nat, P 0 1 = n := ⟨(P 0 1).toNat, by omega⟩
  have hnm : P 0 1 * m = ((n * m : Nat) : Int) := by rw [hn]; push_cast; rfl
  have big : n * m ≤ 41 * 9 := Nat.mul_le_mul (show n ≤ 41 by omega) m9
  obtain ⟨N, hN⟩ : ∃ N : Nat, N = min 41 (n * m) := ⟨_, rfl⟩
  refine eX12_slows ⟨hM.ob, ?_⟩
  rw [hP.1, I_mul, hnm, show (41 : Int32) = I 41 from rfl]
  refine q_min ⟨by omega, by omega⟩ ⟨by omega, by omega⟩ ?_
  rw [show min (41 : Int) ((n * m : Nat) : Int) = (N : Int) by omega, I_1, I_sub]
  have F : ∀ d, d ≤ N → ∀ σ1, Ws [33] [100, 101] σ σ1 → σ1.2.1 82 33 = σ.2.1 82 33 → (∀ z, z = 100 ∨ z = 101 → (∀ x, d ≤ x → x < N → σ1.2.1 z x = σ.2.1 z (x / m)) ∧ ∀ x, x < d → σ1.2.1 z x = σ.2.1 z x) → GW l mX12_slows 16 [(0, .inr 82), (1, .inl (I (m : Nat))), (2, .inl (I (N : Nat))), (3, .inl (I ((d : Int) - 1)))] [] σ1 0 0 (PV K) := by
    intro d
    induction d with
    | zero =>
      intro hd σ1 w1' e33 hz
      refine gX12_slows_16 ⟨fun _ => ⟨(w1'.M hM).ob, fun σ3 e3 => ?_⟩, fun q => absurd ?_ q⟩
      · refine hK σ3 (w1'.tr (Ws.w e3 (by decide))) ⟨?_, fun i hi => ?_⟩
        · rw [e3, w1_at, slw_01, hnm]; congr 1; omega
        · rw [slw_01, hnm] at hi
          rw [e3, w1_r (by omega), w1_r (by omega), (hz 100 (Or.inl rfl)).1 i (by omega) (by omega), (hz 101 (Or.inr rfl)).1 i (by omega) (by omega)]
          exact hP.2 (i / m) (div_lt' m1 (by rw [hnm]; omega))
      · rw [I_0]; exact (I_lt ⟨by omega, by omega⟩ ⟨by omega, by omega⟩).mpr (by omega)
    | succ d ih =>
      intro hd σ1 w1' e33 hz
      have M1 := w1'.M hM
      obtain ⟨w, hw⟩ : ∃ w, w = d / m := ⟨_, rfl⟩
      have dm : w < n := by rw [hw]; exact (Nat.div_lt_iff_lt_mul (by omega)).mpr (by omega)
      have dle : w ≤ d := by rw [hw]; exact Nat.div_le_self _ _
      have ed : ((d + 1 : Nat) : Int) - 1 = (d : Int) := by omega
      rw [ed]
      have td : (d : Int).tdiv (m : Int) = (w : Int) := by rw [Int.tdiv_eq_ediv_of_nonneg (by omega), hw, Int.natCast_ediv]
      have dv : I (d : Int) / I (m : Int) = I (w : Int) := by
        rw [I_div ⟨by omega, by omega⟩ ⟨by omega, by omega⟩ (by rw [td]; exact ⟨by omega, by omega⟩), td]
      have mz : ¬ I (m : Int) = 0 := by rw [I_0, I_eq ⟨by omega, by omega⟩ ⟨by omega, by omega⟩]; omega
      refine gX12_slows_16 ⟨fun q => ?_, fun _ => ⟨M1.ob, mz, ?_⟩⟩
      · rw [I_0, I_lt ⟨by omega, by omega⟩ ⟨by omega, by omega⟩] at q; omega
      rw [dv]
      refine ⟨M1.a31 (by omega) (by omega), M1.a31 (by omega) (by omega), fun σ8 e8 => ⟨mz, ?_⟩⟩
      rw [M1.k31, I_cln (by omega), I_cln (by omega)] at e8
      have w8 : Ws [33] [100, 101] σ σ8 := w1'.tr (Ws.c e8 (by decide) (by omega))
      have M8 := w8.M hM
      refine ⟨M8.a32 (by omega) (by omega), M8.a32 (by omega) (by omega), fun σ12 e12 => ?_⟩
      rw [M8.k32, I_cln (by omega), I_cln (by omega)] at e12
      rw [show (-1 : Int32) = I (-1) from rfl, I_add, show (d : Int) + -1 = (d : Int) - 1 by omega]
      have v1 : σ8.2.1 100 d = σ.2.1 100 (d / m) := by rw [e8, w1_at, ← hw]; exact (hz 100 (Or.inl rfl)).2 _ (by omega)
      refine ih (by omega) σ12 (w8.tr (Ws.c e12 (by decide) (by omega))) (by rw [e12, w1_r (by omega), e8, w1_r (by omega), e33]) (fun z hzz => ?_)
      rcases hzz with rfl | rfl
      · refine ⟨fun x hx hx2 => ?_, fun x hx => ?_⟩
        · rw [e12, w1_r (by omega)]
          by_cases y : x = d
          · rw [y, v1]
          · rw [e8, w1_k y]; exact (hz 100 (Or.inl rfl)).1 x (by omega) hx2
        · rw [e12, w1_r (by omega), e8, w1_k (by omega)]; exact (hz 100 (Or.inl rfl)).2 x (by omega)
      · refine ⟨fun x hx hx2 => ?_, fun x hx => ?_⟩
        · rw [e12]
          by_cases y : x = d
          · rw [y, w1_at, e8, w1_r (by omega), ← hw]; exact (hz 101 (Or.inr rfl)).2 _ (by omega)
          · rw [w1_k y, e8, w1_r (by omega)]; exact (hz 101 (Or.inr rfl)).1 x (by omega) hx2
        · rw [e12, w1_k (by omega), e8, w1_r (by omega)]; exact (hz 101 (Or.inr rfl)).2 x (by omega)
  exact F N (Nat.le_refl _) σ (Ws.rf _ _ _) rfl (fun z _ => ⟨fun x a b => absurd b (by omega), fun x _ => rfl⟩)
end RMK
