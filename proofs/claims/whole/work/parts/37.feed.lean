/-! public methods, 9: feed -/
def shf : Nat → Int32
  | 0 => 24
  | 1 => 16
  | 2 => 8
  | _ => 0
def bt (x : Int32) (i : Nat) : Int32 := (x >>> (shf i &&& 31)) &&& 255
theorem and255 (y : Int32) : 0 ≤ (y &&& 255).toInt ∧ (y &&& 255).toInt ≤ 255 := by
  have h1 : (y &&& 255).toBitVec.toNat ≤ 255 := by
    show (y.toBitVec &&& (255#32)).toNat ≤ 255
    rw [BitVec.toNat_and]; exact Nat.and_le_right
  have h2 : (y &&& 255).toInt = ((y &&& 255).toBitVec.toNat : Int) := by
    show (y &&& 255).toBitVec.toInt = _
    rw [BitVec.toInt_eq_toNat_of_lt (by omega)]
  omega
theorem shf_all : ∀ k : Nat, k < 20 → (24 - (8 * (I k - I k / 4 * 4)) : Int32) = shf (k % 4) := by decide
def arg5 (a b c d e : Int) (k : Nat) : Int := if k < 4 then a else if k < 8 then b else if k < 12 then c else if k < 16 then d else e
def fedB (v : Vt) (a b c d e : Int) (i : Nat) : Int := if v.2.2.1 2 ≤ (i : Int) then (bt (I (arg5 a b c d e (i - (v.2.2.1 2).toNat))) ((i - (v.2.2.1 2).toNat) % 4)).toInt else v.2.2.2 0 i
def dFeed (v : Vt) (a b c d e : Int) : Vt := (v.1, v.2.1, fun k => if k = 2 then v.2.2.1 2 + 20 else v.2.2.1 k, fun q => if q = 0 then fedB v a b c d e else v.2.2.2 q)
noncomputable def nFeed (v : Vt) (a b c d e : Int) : Vt := vif (v.2.2.1 2 ≤ 380) (dFeed v a b c d e) v
noncomputable def aFeed (v : Vt) : Int := cif (v.2.2.1 2 ≤ 380) (v.2.2.1 2 + 20) (-1)
section P9
variable {l : Launch} {σ σ' : Sg} {v v' : Vt} {c : Nat}
theorem fedB_old {a b c d e : Int} {i n : Nat} (hn : v.2.2.1 2 = n) (hi : i < n) : fedB v a b c d e i = v.2.2.2 0 i := by unfold fedB; rw [if_neg (by omega)]
theorem fedB_new {a b c d e : Int} {k n : Nat} (hn : v.2.2.1 2 = n) : I (fedB v a b c d e (n + k)) = bt (I (arg5 a b c d e k)) (k % 4) := by
  unfold fedB; rw [if_pos (by omega), I_toInt, hn, I_tn, show n + k - n = k by omega]
theorem fedB_rg (hw : WF c v) {a b d e f : Int} {i : Nat} (hi : (i : Int) < v.2.2.1 2 + 20) : 0 ≤ fedB v a b d e f i ∧ fedB v a b d e f i ≤ 255 := by
  unfold fedB
  split
  · exact and255 _
  · exact hw.2.2.2.2.1 i (by omega)
def Fs (σ0 : Sg) (f : Nat → Int) (n : Nat) (σ : Sg) : Prop := σ.1 = σ0.1 ∧ σ.2.2 = σ0.2.2 ∧ (∀ r, r ≠ 45 → r ≠ 46 → σ.2.1 r = σ0.2.1 r) ∧ σ.2.1 45 4 = I n ∧ ∀ i, i < n → σ.2.1 46 i = I (f i)
theorem Fs.st {σ0 : Sg} {f : Nat → Int} {n : Nat} (h : Fs σ0 f n σ) {σ1 σ2 : Sg} (e1 : σ1 = w1 σ 46 n (I (f n))) (e2 : σ2 = w1 σ1 45 4 (I (n + 1 : Nat))) : Fs σ0 f (n + 1) σ2 := by
  refine ⟨by rw [e2, e1]; exact h.1, by rw [e2, e1]; exact h.2.1, fun r a b => by rw [e2, w1_r a, e1, w1_r b]; exact h.2.2.1 r a b, by rw [e2, w1_at], fun i hi => ?_⟩
  rw [e2, w1_r (by omega), e1]
  by_cases e : i = n
  · rw [e, w1_at]
  · rw [w1_k e]; exact h.2.2.2.2 i (by omega)
theorem q_four {σ0 : Sg} {f : Nat → Int} {n : Nat} {x : Int32} {K : Sg → Prop} (hC : Cp σ0) (h : Fs σ0 f n σ) (hn : n + 4 ≤ 400) (hf : ∀ i, i < 4 → I (f (n + i)) = bt x i) (hK : ∀ σ', Fs σ0 f (n + 4) σ' → K σ') : Con l mX10_addFour [.inr 45, .inl x] σ (PV K) := by
  have step : ∀ {m i : Nat} {y z : Int32} {σ : Sg}, Fs σ0 f m σ → m < 400 → i < 4 → m = n + i → y = shf i → z = y + (-8) → (∀ σ', Fs σ0 f (m + 1) σ' → GW l mX10_addFour 3 [(0, .inr 45), (1, .inl x), (2, .inl z)] [] σ' 0 0 (PV K)) → ¬ y < 0 → GW l mX10_addFour 3 [(0, .inr 45), (1, .inl x), (2, .inl y)] [] σ 0 0 (PV K) := by
    intro m i y z σ h hm hi em ey ez hk hy
    have C : Cp σ := ⟨by rw [h.1]; exact hC.1, by rw [h.2.1]; exact hC.2⟩
    refine gX10_addFour_3 ⟨fun q => absurd q hy, fun _ => ⟨C.o45, fun q => ?_, fun _ => ?_⟩⟩
    · rw [h.2.2.2.1, L_lit, I_le ⟨by omega, by omega⟩ ⟨by omega, by omega⟩] at q; omega
    · rw [h.2.2.2.1]
      refine ⟨C.a45_0 (by omega) (by omega), fun σ5 e5 σ6 e6 => ?_⟩
      rw [C.p45_0, I_cln (by omega)] at e5
      have h5 : σ5.2.1 45 4 = I m := by rw [e5, w1_r (by omega)]; exact h.2.2.2.1
      rw [h5, I_1, I_add] at e6
      rw [← ez]
      refine hk σ6 (h.st (σ1 := σ5) ?_ ?_)
      · rw [e5, em, hf i hi, ey]; rfl
      · rw [e6]; rfl
  refine eX10_addFour (step (i := 0) h (by omega) (by omega) (by omega) rfl rfl (fun σ1 h1 => ?_) (by decide))
  refine step (i := 1) h1 (by omega) (by omega) (by omega) (by decide) rfl (fun σ2 h2 => ?_) (by decide)
  refine step (i := 2) h2 (by omega) (by omega) (by omega) (by decide) rfl (fun σ3 h3 => ?_) (by decide)
  refine step (i := 3) h3 (by omega) (by omega) (by omega) (by decide) rfl (fun σ4 h4 => ?_) (by decide)
  exact gX10_addFour_3 ⟨fun _ => hK σ4 h4, fun q => absurd (by decide) q⟩
theorem Fs.C {σ0 : Sg} {f : Nat → Int} {n : Nat} (hC : Cp σ0) (h : Fs σ0 f n σ) : Cp σ := ⟨by rw [h.1]; exact hC.1, by rw [h.2.1]; exact hC.2⟩
theorem C_feed {a b d e f : Int} (h : CR σ v) (hw : WF c v) : Con l mX11_feed [.inr 1, .inl (I a), .inl (I b), .inl (I d), .inl (I e), .inl (I f)] σ (PI fun x σ' => x = I (aFeed v) ∧ CR σ' (nFeed v a b d e f) ∧ CF σ σ') := by
  have hw0 := hw.1
  obtain ⟨n, hn⟩ : ∃ n : Nat, v.2.2.1 2 = n := ⟨(v.2.2.1 2).toNat, by omega⟩
  have O : ∀ {σ : Sg}, Cp σ → Ob σ (σ.2.2 1 1) 10 := fun C => by rw [C.p1_1]; exact C.o45
  have hs := h.2.2.2.2.1.1
  refine eX11_feed ⟨h.1.o1, O h.1, ?_⟩
  rw [h.1.p1_1]
  refine eX10_hasRoom ⟨h.1.o45, ?_⟩
  rw [hs, hn, show (400 < I (n : Int) + 20) = ((400 : Int) < n + 20) by rw [L_lit, L_lit, I_add]; exact propext (I_lt ⟨by omega, by omega⟩ ⟨by omega, by omega⟩)]
  refine ⟨fun q => ⟨fun q => absurd rfl q, fun _ => ?_⟩, fun q => ⟨fun _ => ⟨O h.1, ?_⟩, fun q => absurd q (by decide)⟩⟩
  · unfold aFeed nFeed
    rw [cif_f (by omega), vif_f (by omega)]
    exact ⟨rfl, h, CF.rf _⟩
  have F0 : Fs σ (fedB v a b d e f) n σ := ⟨rfl, rfl, fun _ _ _ => rfl, by rw [hs, hn], fun i hi => by rw [fedB_old hn hi]; exact h.2.2.2.2.1.2.1 i (by omega)⟩
  rw [h.1.p1_1]
  refine q_four h.1 F0 (by omega) (fun i hi => ?_) (fun σ5 F5 => ⟨O (F5.C h.1), ?_⟩)
  · rw [fedB_new hn]; unfold arg5; rw [if_pos (by omega), show i % 4 = i by omega]
  rw [(F5.C h.1).p1_1]
  refine q_four h.1 F5 (by omega) (fun i hi => ?_) (fun σ7 F7 => ⟨O (F7.C h.1), ?_⟩)
  · rw [show n + 4 + i = n + (4 + i) by omega, fedB_new hn]; unfold arg5; rw [if_neg (by omega), if_pos (by omega), show (4 + i) % 4 = i by omega]
  rw [(F7.C h.1).p1_1]
  refine q_four h.1 F7 (by omega) (fun i hi => ?_) (fun σ9 F9 => ⟨O (F9.C h.1), ?_⟩)
  · rw [show n + 4 + 4 + i = n + (8 + i) by omega, fedB_new hn]; unfold arg5; rw [if_neg (by omega), if_neg (by omega), if_pos (by omega), show (8 + i) % 4 = i by omega]
  rw [(F9.C h.1).p1_1]
  refine q_four h.1 F9 (by omega) (fun i hi => ?_) (fun σ11 F11 => ⟨O (F11.C h.1), ?_⟩)
  · rw [show n + 4 + 4 + 4 + i = n + (12 + i) by omega, fedB_new hn]; unfold arg5; rw [if_neg (by omega), if_neg (by omega), if_neg (by omega), if_pos (by omega), show (12 + i) % 4 = i by omega]
  rw [(F11.C h.1).p1_1]
  refine q_four h.1 F11 (by omega) (fun i hi => ?_) (fun σ13 F13 => ⟨O (F13.C h.1), ?_⟩)
  · rw [show n + 4 + 4 + 4 + 4 + i = n + (16 + i) by omega, fedB_new hn]; unfold arg5; rw [if_neg (by omega), if_neg (by omega), if_neg (by omega), if_neg (by omega), show (16 + i) % 4 = i by omega]
  rw [(F13.C h.1).p1_1, F13.2.2.2.1]
  have E := F13.2.2.1
  have e2 : (dFeed v a b d e f).2.2.1 2 = v.2.2.1 2 + 20 := rfl
  have ek : ∀ k, k ≠ 2 → (dFeed v a b d e f).2.2.1 k = v.2.2.1 k := fun k hk => if_neg hk
  have er : (dFeed v a b d e f).2.2.2 0 = fedB v a b d e f := rfl
  have er1 : (dFeed v a b d e f).2.2.2 1 = v.2.2.2 1 := rfl
  have er2 : (dFeed v a b d e f).2.2.2 2 = v.2.2.2 2 := rfl
  unfold aFeed nFeed
  rw [cif_t (by omega), vif_t (by omega)]
  have E2 : ∀ r, r ≠ 45 → r ≠ 46 → Eqc σ σ13 r := fun r a b => ⟨E r a b, by rw [F13.2.1]⟩
  refine ⟨by rw [hn]; rfl, h.mk2 F13.1 F13.2.1 (h.2.2.1.eq (Nat.le_of_eq F13.1.symm) (by rw [E 2 (by omega) (by omega)]) (fun r a b => E2 r (by omega) (by omega)) rfl (ek 0 (by omega))) (h.2.2.2.1.eq (Nat.le_of_eq F13.1.symm) (by rw [E 2 (by omega) (by omega)]) (by rw [E 2 (by omega) (by omega)]) (fun r a b => E2 r (by omega) (by omega)) (by rw [F13.2.1]) (by rw [F13.2.1]) rfl (ek 1 (by omega)) (by omega)) ⟨by rw [F13.2.2.2.1, e2, hn]; rfl, fun i hi => ?_, by rw [E 50 (by omega) (by omega), ek 3 (by omega)]; exact h.2.2.2.2.1.2.2.1, by rw [E 50 (by omega) (by omega), ek 4 (by omega)]; exact h.2.2.2.2.1.2.2.2⟩ (h.2.2.2.2.2.eq (E 58 (by omega) (by omega)) (E 1 (by omega) (by omega)) (by rw [E 69 (by omega) (by omega)]) (E 73 (by omega) (by omega)) (ek 5 (by omega)) (ek 6 (by omega)) (ek 7 (by omega)) (ek 8 (by omega)) er1 er2), ⟨Nat.le_of_eq F13.1.symm, fun r a b => E2 r (by omega) (by omega)⟩⟩
  rw [e2] at hi
  rw [er]; exact F13.2.2.2.2 i (by omega)
def Gs (σ0 : Sg) (f : Nat → Int) (n : Nat) (σ : Sg) : Prop := σ.1 = σ0.1 ∧ σ.2.2 = σ0.2.2 ∧ (∀ r, r ≠ 83 → σ.2.1 r = σ0.2.1 r) ∧ ∀ i, i < n → σ.2.1 83 i = I (f i)
theorem M_feed {a b d e f : Int} (h : MR σ v) (hw : WF c v) : Con l mX12_feed [.inr 82, .inl (I a), .inl (I b), .inl (I d), .inl (I e), .inl (I f)] σ (PI fun x σ' => x = I (aFeed v) ∧ MR σ' (nFeed v a b d e f) ∧ MF σ σ') := by
  have hw0 := hw.1
  obtain ⟨n, hn⟩ : ∃ n : Nat, v.2.2.1 2 = n := ⟨(v.2.2.1 2).toNat, by omega⟩
  refine eX12_feed ⟨h.1.ob, fun σ2 e2 => ?_⟩
  obtain ⟨h, f2⟩ := h.w e2 (by decide)
  have hs := h.2.2.2.1.1
  rw [hs, hn, L_lit, I_le ⟨by omega, by omega⟩ ⟨by omega, by omega⟩]
  refine ⟨fun q => ?_, fun q => ?_⟩
  rotate_left
  · unfold aFeed nFeed
    rw [cif_f (by omega), vif_f (by omega)]
    exact ⟨rfl, h, f2⟩
  have G0 : Gs σ2 (fedB v a b d e f) (n + 0) σ2 := ⟨rfl, rfl, fun _ _ => rfl, fun i hi => by rw [fedB_old hn hi]; exact h.2.2.2.1.2.1 i (by omega)⟩
  have F : ∀ m k : Nat, k + m = 20 → ∀ σ3, Gs σ2 (fedB v a b d e f) (n + k) σ3 → GW l mX12_feed 20 [(0, .inr 82), (1, .inl (I a)), (2, .inl (I b)), (3, .inl (I d)), (4, .inl (I e)), (5, .inl (I f)), (6, .inl (I k))] [] σ3 0 0 (PI fun x σ' => x = I (aFeed v) ∧ MR σ' (nFeed v a b d e f) ∧ MF σ σ') := by
    intro m
    induction m with
    | zero =>
      intro k hk σ3 G
      have M3 : Mp σ3 := ⟨by rw [G.1]; exact h.1.1, by rw [G.2.1]; exact h.1.2⟩
      refine gX12_feed_20 ⟨fun _ => ⟨M3.ob, fun σ4 e4 => ?_⟩, fun q => absurd ?_ q⟩
      · have s3 : σ3.2.1 82 2 = I n := by rw [G.2.2.1 82 (by omega), hs, hn]
        rw [s3, L_lit, I_add] at e4
        have ed2 : (dFeed v a b d e f).2.2.1 2 = v.2.2.1 2 + 20 := rfl
        have ek : ∀ k, k ≠ 2 → (dFeed v a b d e f).2.2.1 k = v.2.2.1 k := fun k hk => if_neg hk
        have E : ∀ r, r ≠ 82 → r ≠ 83 → σ4.2.1 r = σ2.2.1 r := fun r a b => by rw [e4, w1_r a]; exact G.2.2.1 r b
        have Ek : ∀ k, k ≠ 2 → σ4.2.1 82 k = σ2.2.1 82 k := fun k hk => by rw [e4, w1_k hk]; rw [G.2.2.1 82 (by omega)]
        have p4 : σ4.2.2 = σ2.2.2 := by rw [e4]; exact G.2.1
        have n4 : σ4.1 = σ2.1 := by rw [e4]; exact G.1
        unfold aFeed nFeed
        rw [cif_t (by omega), vif_t (by omega)]
        refine ⟨by rw [e4, w1_at, hn], h.mk2 n4 p4 ⟨by rw [Ek 4 (by omega), ek 0 (by omega)]; exact h.2.1.1, h.2.1.2.eq (fun r a b => E r (by omega) (by omega))⟩ (h.2.2.1.eq (Ek 16 (by omega)) (fun r a b => E r (by omega) (by omega)) rfl (ek 1 (by omega))) ⟨by rw [e4, w1_at, ed2, hn], fun i hi => ?_, by rw [Ek 29 (by omega), ek 3 (by omega)]; exact h.2.2.2.1.2.2.1, by rw [Ek 30 (by omega), ek 4 (by omega)]; exact h.2.2.2.1.2.2.2⟩ (h.2.2.2.2.eq (E 104 (by omega) (by omega)) (fun k hk => Ek k (fun q => by subst q; revert hk; decide)) (E 109 (by omega) (by omega)) (ek 5 (by omega)) (ek 6 (by omega)) (ek 7 (by omega)) (ek 8 (by omega)) rfl rfl), f2.tr ⟨n4, fun r a => ⟨E r (by omega) (by omega), by rw [p4]⟩⟩⟩
        rw [ed2] at hi
        rw [e4, w1_r (by omega)]
        exact G.2.2.2 i (by omega)
      · rw [L_lit]; exact (I_le ⟨by omega, by omega⟩ ⟨by omega, by omega⟩).mpr (by omega)
    | succ m ih =>
      intro k hk σ3 G
      have M3 : Mp σ3 := ⟨by rw [G.1]; exact h.1.1, by rw [G.2.1]; exact h.1.2⟩
      have s3 : σ3.2.1 82 2 = I n := by rw [G.2.2.1 82 (by omega), hs, hn]
      have J : ∀ t : Int, t = arg5 a b d e f k → GW l mX12_feed 73 [(0, .inr 82), (1, .inl (I a)), (2, .inl (I b)), (3, .inl (I d)), (4, .inl (I e)), (5, .inl (I f)), (6, .inl (I k))] [.inl (I t)] σ3 0 0 (PI fun x σ' => x = I (aFeed v) ∧ MR σ' (nFeed v a b d e f) ∧ MF σ σ') := by
        intro t et
        refine gX12_feed_73 ⟨M3.ob, ?_⟩
        rw [s3, I_add]
        refine ⟨M3.a1 (by omega) (by omega), fun σ4 e4 => ?_⟩
        rw [M3.k1, I_cl (by omega) (by omega), shf_all k (by omega)] at e4
        have en : ((n : Int) + k).toNat = n + k := by omega
        rw [en] at e4
        rw [I_1, I_add]
        refine ih (k + 1) (by omega) σ4 ⟨by rw [e4]; exact G.1, by rw [e4]; exact G.2.1, fun r a => by rw [e4, w1_r a]; exact G.2.2.1 r a, fun i hi => ?_⟩
        by_cases ei : i = n + k
        · rw [ei, e4, w1_at, fedB_new hn, ← et]; rfl
        · rw [e4, w1_k ei]; exact G.2.2.2 i (by omega)
      refine gX12_feed_20 ?_
      simp (disch := omega) only [L_lit, I_le']
      refine ⟨fun q => absurd q (by omega), fun _ => ⟨fun q4 => ⟨fun q8 => ⟨fun q12 => ⟨fun q16 => J f ?_, fun q16 => J e ?_⟩, fun q12 => J d ?_⟩, fun q8 => J b ?_⟩, fun q4 => J a ?_⟩⟩
      · unfold arg5; rw [if_neg (by omega), if_neg (by omega), if_neg (by omega), if_neg (by omega)]
      · unfold arg5; rw [if_neg (by omega), if_neg (by omega), if_neg (by omega), if_pos (by omega)]
      · unfold arg5; rw [if_neg (by omega), if_neg (by omega), if_pos (by omega)]
      · unfold arg5; rw [if_neg (by omega), if_pos (by omega)]
      · unfold arg5; rw [if_pos (by omega)]
  exact F 20 0 (by omega) σ2 G0
end P9
