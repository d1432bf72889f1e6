/-! meet: the class -/
def setM (v : Vt) (N : Int) (f : Nat → Int) : Vt := (v.1, v.2.1, fun k => if k = 8 then N else v.2.2.1 k, fun q i => if q = 2 then f i else v.2.2.2 q i)
section MEC2
variable {l : Launch} {σ σ' : Sg} {v v' : Vt} {c : Nat} {a b n m J0 J1 : Nat} {tc : Nat → Nat → Prop}
theorem CR.met {N : Int} {f : Nat → Int} (h : CR σ v) (h10 : v.2.2.1 1 ≤ 10) (ho : Onl [69, 70, 71, 72, 73] σ σ') (h8 : σ'.2.1 69 8 = I N) (h73 : ∀ k : Nat, (k : Int) < N → σ'.2.1 73 k = I (f k)) : CR σ' (setM v N f) ∧ CF σ σ' := by
  have E : ∀ r, ¬ (69 ≤ r ∧ r ≤ 73) → σ'.2.1 r = σ.2.1 r := fun r hr => ho.2.2 r (fun q => hr (by revert q; simp only [List.mem_cons, List.not_mem_nil, or_false]; omega))
  have E2 : ∀ r, ¬ (69 ≤ r ∧ r ≤ 73) → Eqc σ σ' r := fun r hr => ⟨E r hr, by rw [ho.2.1]⟩
  have ek : ∀ k, k ≠ 8 → (setM v N f).2.2.1 k = v.2.2.1 k := fun k hk => if_neg hk
  have hp := h.2.2.2.2.2
  refine ⟨h.mk2 ho.1 ho.2.1 (h.2.2.1.eq (Nat.le_of_eq ho.1.symm) (by rw [E 2 (by omega)]) (fun r a b => E2 r (by omega)) rfl (ek 0 (by omega))) (h.2.2.2.1.eq (Nat.le_of_eq ho.1.symm) (by rw [E 2 (by omega)]) (by rw [E 2 (by omega)]) (fun r a b => E2 r (by omega)) (by rw [ho.2.1]) (by rw [ho.2.1]) rfl (ek 1 (by omega)) h10) (h.2.2.2.2.1.eq (by rw [E 45 (by omega)]) (E 46 (by omega)) (by rw [E 50 (by omega)]) (by rw [E 50 (by omega)]) (ek 2 (by omega)) (ek 3 (by omega)) (ek 4 (by omega)) rfl) ⟨fun s hs => by rw [E 58 (by omega)]; exact hp.1 s hs, by rw [E 1 (by omega), ek 5 (by omega)]; exact hp.2.1, by rw [E 1 (by omega), ek 6 (by omega)]; exact hp.2.2.1, by rw [E 1 (by omega), ek 7 (by omega)]; exact hp.2.2.2.1, h8, fun k hk => h73 k hk⟩, ⟨Nat.le_of_eq ho.1.symm, fun r a b => E2 r (by omega)⟩⟩
theorem setM_same (v : Vt) : setM v (v.2.2.1 8) (v.2.2.2 2) = v := by
  have e1 : (fun k => if k = 8 then v.2.2.1 8 else v.2.2.1 k) = v.2.2.1 := by
    funext k
    by_cases e : k = 8
    · rw [if_pos e, e]
    · rw [if_neg e]
  have e2 : (fun q i => if q = 2 then v.2.2.2 2 i else v.2.2.2 q i) = v.2.2.2 := by
    funext q i
    by_cases e : q = 2
    · rw [if_pos e, e]
    · rw [if_neg e]
  show (v.1, v.2.1, (fun k => if k = 8 then v.2.2.1 8 else v.2.2.1 k), (fun q i => if q = 2 then v.2.2.2 2 i else v.2.2.2 q i)) = v
  rw [e1, e2]
theorem CR.met0 (h : CR σ v) (h10 : v.2.2.1 1 ≤ 10) (ho : Onl [69, 70, 71, 72] σ σ') (h8 : σ'.2.1 69 8 = σ.2.1 69 8) : CR σ' v ∧ CF σ σ' := by
  have := h.met (σ' := σ') (N := v.2.2.1 8) (f := v.2.2.2 2) h10 (ho.up (by decide)) (by rw [h8]; exact h.2.2.2.2.2.2.2.2.2.1) (fun k hk => by rw [ho.2.2 73 (by decide)]; exact h.2.2.2.2.2.2.2.2.2.2 k hk)
  rw [setM_same] at this; exact this
/-- the meeting's numbers -/
def MeN (σ : Sg) (n m J0 J1 : Nat) : Prop := σ.2.1 69 4 = I ((2 * J0 : Nat) : Int) ∧ σ.2.1 69 5 = I ((2 * J1 : Nat) : Int) ∧ σ.2.1 69 6 = I ((n : Int) - 1) ∧ σ.2.1 69 7 = I ((m : Int) - 1)
def BdS (σ : Sg) (R : Nat) (A : Nat → Nat → Int) (T : Nat → Int) (n J : Nat) : Prop := ∀ i k, i < n → k < 2 * J → σ.2.1 R (6 * i + k) = I (cC (clr A (T i) k))
theorem q_touch {K : Int32 → Sg → Prop} {A B : Nat → Nat → Int} {T U : Nat → Int} {i j : Nat} (hC : Cp σ) (hN : MeN σ n m J0 J1) (wA : ArmWf A) (wB : ArmWf B) (hJ0 : J0 ≤ 3) (hJ1 : J1 ≤ 3) (hA : BdS σ 70 A T n J0) (hB : BdS σ 71 B U m J1) (hn : n ≤ 40) (hm : m ≤ 40) (hi : i < n) (hj : j < m) (h1 : (∃ r s, r < 2 * J0 ∧ s < 2 * J1 ∧ clr A (T i) r = clr B (U j) s) → K 1 σ) (h0 : ¬ (∃ r s, r < 2 * J0 ∧ s < 2 * J1 ∧ clr A (T i) r = clr B (U j) s) → K 0 σ) : Con l mX5_touch [.inr 69, .inl (I i), .inl (I j)] σ (PI K) := by
  have G2 : ∀ p, p ≤ 2 * J0 → (∀ r s, r < p → s < 2 * J1 → clr A (T i) r ≠ clr B (U j) s) → GW l mX5_touch 2 [(0, .inr 69), (1, .inl (I i)), (2, .inl (I j)), (3, .inl (I p))] [] σ 0 0 (PI K) := by
    refine lp ?_ ?_
    · intro hno
      refine gX5_touch_2 ⟨hC.o69, fun _ => h0 (fun ⟨r, s, y1, y2, y3⟩ => hno r s y1 y2 y3), fun q => absurd ?_ q⟩
      rw [hN.1]; exact (I_le ⟨by omega, by omega⟩ ⟨by omega, by omega⟩).mpr (by omega)
    · intro p hp ih hno
      refine gX5_touch_2 ⟨hC.o69, fun q => ?_, fun _ => ⟨fun q => ?_, fun _ => ?_⟩⟩
      · rw [hN.1, I_le ⟨by omega, by omega⟩ ⟨by omega, by omega⟩] at q; omega
      · rw [L_lit, I_le ⟨by omega, by omega⟩ ⟨by omega, by omega⟩] at q; omega
      · have G19 : ∀ q, q ≤ 2 * J1 → (∀ s, s < q → clr A (T i) p ≠ clr B (U j) s) → GW l mX5_touch 19 [(0, .inr 69), (1, .inl (I i)), (2, .inl (I j)), (3, .inl (I p)), (4, .inl (I q))] [] σ 0 0 (PI K) := by
          refine lp ?_ ?_
          · intro hnq
            refine gX5_touch_19 ⟨hC.o69, fun _ => ?_, fun q => absurd ?_ q⟩
            · rw [I_1, I_add]
              refine ih (fun r s y1 y2 => ?_)
              by_cases z : r = p
              · rw [z]; exact hnq s y2
              · exact hno r s (by omega) y2
            · rw [hN.2.1]; exact (I_le ⟨by omega, by omega⟩ ⟨by omega, by omega⟩).mpr (by omega)
          · intro q hq ih2 hnq
            have ra := clr_rg wA (T i) (r := p) (by omega)
            have rb := clr_rg wB (U j) (r := q) (by omega)
            have ca : -1000000 ≤ cC (clr A (T i) p) ∧ cC (clr A (T i) p) ≤ 1000000 := by unfold cC; omega
            have cb : -1000000 ≤ cC (clr B (U j) q) ∧ cC (clr B (U j) q) ≤ 1000000 := by unfold cC; omega
            have va : σ.2.1 (σ.2.2 69 0) ((I (i : Int) * 6) + I (p : Int)).toNatClampNeg = I (cC (clr A (T i) p)) := by
              rw [L_lit, I_mul, I_add, hC.d69_0 (by omega) (by omega), show ((i : Int) * 6 + p).toNat = 6 * i + p by omega]; exact hA i p hi hp
            have vb : σ.2.1 (σ.2.2 69 1) ((I (j : Int) * 6) + I (q : Int)).toNatClampNeg = I (cC (clr B (U j) q)) := by
              rw [L_lit, I_mul, I_add, hC.d69_1 (by omega) (by omega), show ((j : Int) * 6 + q).toNat = 6 * j + q by omega]; exact hB j q hj hq
            refine gX5_touch_19 ⟨hC.o69, fun z => ?_, fun _ => ⟨fun z => ?_, fun _ => ⟨?_, ?_, ?_⟩⟩⟩
            · rw [hN.2.1, I_le ⟨by omega, by omega⟩ ⟨by omega, by omega⟩] at z; omega
            · rw [L_lit, I_le ⟨by omega, by omega⟩ ⟨by omega, by omega⟩] at z; omega
            · rw [L_lit, I_mul, I_add]; exact hC.a69_0 (by omega) (by omega)
            · rw [L_lit, I_mul, I_add]; exact hC.a69_1 (by omega) (by omega)
            · rw [va, vb, I_eq' (by omega) (by omega) (by omega) (by omega), cC_inj ra rb, I_1, I_add]
              refine ⟨fun z => ih2 (fun s hs => ?_), fun z => h1 ⟨p, q, hp, hq, z⟩⟩
              by_cases y : s = q
              · rw [y]; exact z
              · exact hnq s (by omega)
        exact G19 0 (by omega) (fun s hs => absurd hs (by omega))
  exact eX5_touch (G2 0 (by omega) (fun r s y => absurd y (by omega)))
theorem q_timesFrom {K : Int32 → Sg → Prop} {i j : Nat} (hC : Cp σ) (hN : MeN σ n m J0 J1) (hn : n ≤ 40) (hm : m ≤ 40) (hi : i ≤ 100) (hj : j ≤ 100) (ht : i < n → j < m → σ.2.1 72 (40 * i + j) = I (MT n m tc i j)) (hK : K (I (MT n m tc i j)) σ) : Con l mX5_timesFrom [.inr 69, .inl (I i), .inl (I j)] σ (PI K) := by
  have out : n ≤ i ∨ m ≤ j → GW l mX5_timesFrom 29 [(0, .inr 69), (1, .inl (I i)), (2, .inl (I j))] [.inl 0] σ 0 0 (PI K) := fun q => gX5_timesFrom_29 ⟨fun _ => by rw [MT_out q] at hK; exact hK, fun z => absurd rfl z⟩
  refine eX5_timesFrom ⟨hC.o69, ?_⟩
  rw [hN.2.2.1, I_0]
  refine q_within ⟨by omega, by omega⟩ ⟨by omega, by omega⟩ ⟨by omega, by omega⟩ (fun a1 a2 => ⟨fun q => absurd q (by decide), fun _ => ?_⟩) (fun a1 => ⟨fun _ => out (by omega), fun q => absurd rfl q⟩)
  rw [hN.2.2.2]
  refine q_within ⟨by omega, by omega⟩ ⟨by omega, by omega⟩ ⟨by omega, by omega⟩ (fun b1 b2 => ⟨fun q => absurd q (by decide), fun _ => ?_⟩) (fun b1 => ⟨fun _ => out (by omega), fun q => absurd rfl q⟩)
  have al : Al σ (σ.2.2 69 2) := by rw [hC.p69_2]; exact ⟨by decide, by decide, Nat.le_trans (by decide) hC.1⟩
  have ln : Int32.ofNat (shp (σ.2.2 69 2)).2 = I 1600 := by rw [hC.p69_2]; rfl
  refine gX5_timesFrom_29 ⟨fun q => absurd q (by decide), fun _ => ?_⟩
  rw [show (40 : Int32) = I 40 from rfl, I_mul, I_add, ln]
  refine ⟨fun q => ?_, fun _ => ⟨hC.o69, al, fun q => ?_, fun _ => ⟨hC.a69_2 (by omega) (by omega), ?_⟩⟩⟩
  · rw [I_0, I_lt ⟨by omega, by omega⟩ ⟨by omega, by omega⟩] at q; omega
  · rw [I_le ⟨by omega, by omega⟩ ⟨by omega, by omega⟩] at q; omega
  · rw [hC.d69_2 (by omega) (by omega), show ((i : Int) * 40 + j).toNat = 40 * i + j by omega, ht (by omega) (by omega)]
    exact hK
theorem MeN.onl {S : List Nat} (h : MeN σ n m J0 J1) (ho : Onl S σ σ') (hs : 69 ∉ S) : MeN σ' n m J0 J1 := by
  unfold MeN; rw [ho.2.2 69 hs]; exact h
theorem q_fillTimes {K : Sg → Prop} {A B : Nat → Nat → Int} {T U : Nat → Int} (hC : Cp σ) (hN : MeN σ n m J0 J1) (wA : ArmWf A) (wB : ArmWf B) (hJ0 : J0 ≤ 3) (hJ1 : J1 ≤ 3) (hA : BdS σ 70 A T n J0) (hB : BdS σ 71 B U m J1) (hn : n ≤ 40) (hm : m ≤ 40) (htc : ∀ i j, i < n → j < m → (tc i j ↔ ∃ r s, r < 2 * J0 ∧ s < 2 * J1 ∧ clr A (T i) r = clr B (U j) s)) (hK : ∀ σ', Onl [72] σ σ' → (∀ i j, i < n → j < m → σ'.2.1 72 (40 * i + j) = I (MT n m tc i j)) → K σ') : Con l mX5_fillTimes [.inr 69] σ (PV K) := by
  have P : ∀ i, i ≤ n → ∀ σ', Onl [72] σ σ' → (∀ i' j, i ≤ i' → i' < n → j < m → σ'.2.1 72 (40 * i' + j) = I (MT n m tc i' j)) → GW l mX5_fillTimes 5 [(0, .inr 69), (1, .inl (I ((i : Int) - 1)))] [] σ' 0 0 (PV K) := by
    intro i
    induction i with
    | zero =>
      intro _ σ' o' ht
      refine gX5_fillTimes_5 ⟨fun _ => hK σ' o' (fun i j a b => ht i j (by omega) a b), fun q => absurd (by decide) q⟩
    | succ i ih =>
      intro hi σ' o' ht
      refine gX5_fillTimes_5 ⟨fun q => ?_, fun _ => ⟨(o'.C hC).o69, ?_⟩⟩
      · rw [I_0, I_lt ⟨by omega, by omega⟩ ⟨by omega, by omega⟩] at q; omega
      rw [(hN.onl o' (by decide)).2.2.2, show (((i + 1 : Nat) : Int) - 1) = i by omega]
      have Q : ∀ j, j ≤ m → ∀ σ', Onl [72] σ σ' → (∀ i' j', (i < i' ∨ (i' = i ∧ j ≤ j')) → i' < n → j' < m → σ'.2.1 72 (40 * i' + j') = I (MT n m tc i' j')) → GW l mX5_fillTimes 14 [(0, .inr 69), (1, .inl (I i)), (2, .inl (I ((j : Int) - 1)))] [] σ' 0 0 (PV K) := by
        intro j
        induction j with
        | zero =>
          intro _ σ' o' ht
          refine gX5_fillTimes_14 ⟨fun _ => ?_, fun q => absurd (by decide) q⟩
          rw [I_m1, I_add]
          exact ih (by omega) σ' o' (fun i' j' a b c => ht i' j' (by omega) b c)
        | succ j ihj =>
          intro hj σ' o' ht
          have C' := o'.C hC
          have N' := hN.onl o' (by decide)
          have jn : j < m := by omega
          have im : i < n := by omega
          rw [show (((j + 1 : Nat) : Int) - 1) = j by omega]
          have a1 := MT_rg (n := n) (m := m) (tc := tc) (i + 1) (j + 1)
          have a2 := MT_rg (n := n) (m := m) (tc := tc) (i + 1) j
          have a3 := MT_rg (n := n) (m := m) (tc := tc) i (j + 1)
          have go : ∀ x : Int, (0 ≤ x ∧ x ≤ 2000000) → (¬ tc i j → MT n m tc i j = min x 1000000) → GW l mX5_fillTimes 46 [(0, .inr 69), (1, .inl (I i)), (2, .inl (I j))] [.inl (I x)] σ' 0 0 (PV K) := by
            intro x hx hv
            have wr : ∀ σ6, σ6 = w1 σ' (σ'.2.2 69 2) ((I (i : Int) * 40) + I (j : Int)).toNatClampNeg (I (MT n m tc i j)) → GW l mX5_fillTimes 14 [(0, .inr 69), (1, .inl (I i)), (2, .inl (I (j : Int) + (-1)))] [] σ6 0 0 (PV K) := by
              intro σ6 e6
              rw [show (40 : Int32) = I 40 from rfl, I_mul, I_add, C'.p69_2, I_cl (by omega) (by omega), show ((i : Int) * 40 + j).toNat = 40 * i + j by omega] at e6
              rw [I_m1, I_add]
              refine ihj (by omega) σ6 (o'.tr (Onl.w e6 (by decide))) (fun i' j' z1 z2 z3 => ?_)
              rw [e6]
              by_cases y : i' = i ∧ j' = j
              · rw [y.1, y.2, w1_at]
              · rw [w1_k (by omega)]; exact ht i' j' (by omega) z2 z3
            have ai : Ai σ' (σ'.2.2 69 2) ((I (i : Int) * 40) + I (j : Int)) := by rw [show (40 : Int32) = I 40 from rfl, I_mul, I_add]; exact C'.a69_2 (by omega) (by omega)
            refine gX5_fillTimes_46 ⟨C'.o69, q_touch C' N' wA wB hJ0 hJ1 (fun i k => by rw [o'.2.2 70 (by decide)]; exact hA i k) (fun i k => by rw [o'.2.2 71 (by decide)]; exact hB i k) hn hm im jn (fun z => ⟨fun q => absurd q (by decide), fun _ => ⟨ai, fun σ8 e8 => wr σ8 ?_⟩⟩) (fun z => ⟨fun _ => q_min (b := 1000000) ⟨by omega, by omega⟩ ⟨by omega, by omega⟩ ⟨ai, fun σ6 e6 => wr σ6 ?_⟩, fun q => absurd rfl q⟩)⟩
            · rw [MT_in im jn, cif_t ((htc i j im jn).mpr z)]; exact e8
            · rw [hv (fun y => z ((htc i j im jn).mp y))]; exact e6
          have G38 : ¬ (i + 1 = n ∧ j + 1 = m) → GW l mX5_fillTimes 38 [(0, .inr 69), (1, .inl (I i)), (2, .inl (I j))] [] σ' 0 0 (PV K) := by
            intro hl
            refine gX5_fillTimes_38 ⟨C'.o69, eX5_leastAfter ⟨C'.o69, ?_⟩⟩
            rw [I_1, I_add, show ((i : Int) + 1) = ((i + 1 : Nat) : Int) by omega]
            refine q_timesFrom (tc := tc) C' N' hn hm (by omega) (by omega) (fun z1 z2 => ht _ _ (by omega) z1 z2) ?_
            rw [I_add, show ((j : Int) + 1) = ((j + 1 : Nat) : Int) by omega]
            refine q_timesFrom (tc := tc) C' N' hn hm (by omega) (by omega) (fun z1 z2 => ht _ _ (by omega) z1 z2) ?_
            refine q_min ⟨by omega, by omega⟩ ⟨by omega, by omega⟩ ?_
            refine q_timesFrom (tc := tc) C' N' hn hm (by omega) (by omega) (fun z1 z2 => ht _ _ (by omega) z1 z2) ?_
            refine q_min ⟨by omega, by omega⟩ ⟨by omega, by omega⟩ ?_
            rw [I_add]
            refine go _ (by omega) (fun z => ?_)
            rw [MT_in im jn, cif_f z, if_neg hl]
          refine gX5_fillTimes_14 ⟨fun q => ?_, fun _ => ⟨C'.o69, ?_⟩⟩
          · rw [I_0, I_lt ⟨by omega, by omega⟩ ⟨by omega, by omega⟩] at q; omega
          · rw [N'.2.2.1, N'.2.2.2, I_eq' (by omega) (by omega) (by omega) (by omega), I_eq' (by omega) (by omega) (by omega) (by omega)]
            refine ⟨fun z => G38 (by omega), fun z => ⟨fun y => G38 (by omega), fun y => go 0 (by omega) (fun w => ?_)⟩⟩
            rw [MT_in im jn, cif_f w, if_pos (by omega)]; rfl
      exact Q m (Nat.le_refl _) σ' o' (fun i' j' z1 z2 z3 => ht i' j' (by omega) z2 z3)
  refine eX5_fillTimes ⟨hC.o69, ?_⟩
  rw [hN.2.2.1]
  exact P n (Nat.le_refl _) σ (Onl.rf _ _) (fun i' j z1 z2 z3 => absurd z2 (by omega))
noncomputable def tolds (n m : Nat) (tc : Nat → Nat → Prop) (k : Nat) : Int := ((pth n m tc k).1 : Int) + 64 * (pth n m tc k).2
theorem q_trace {K : Sg → Prop} {L : Nat} (hC : Cp σ) (hN : MeN σ n m J0 J1) (hn : n ≤ 40) (hm : m ≤ 40) (hL : MT n m tc 0 0 = L) (hL2 : L < 1000000) (ht : ∀ i j, i < n → j < m → σ.2.1 72 (40 * i + j) = I (MT n m tc i j)) (hK : ∀ σ', Onl [69, 73] σ σ' → σ'.2.1 69 8 = I ((L : Int) + 1) → (∀ k, k < L + 1 → σ'.2.1 73 k = I (tolds n m tc k)) → K σ') : Con l mX5_trace [.inr 69, .inl (I L)] σ (PV K) := by
  have r00 := (MT_rg (n := n) (m := m) (tc := tc) 0 0).2 (by omega)
  have L78 : L ≤ 78 := by omega
  refine eX5_trace ⟨hC.o69, fun σ2 e2 => ?_⟩
  have F : ∀ k, k ≤ L + 1 → ∀ (x y : Nat) σ', (k ≤ L → x = (pth n m tc k).1 ∧ y = (pth n m tc k).2) → Onl [69, 73] σ σ' → (∀ q, q ≠ 8 → σ'.2.1 69 q = σ.2.1 69 q) → σ'.2.1 69 8 = I k → (∀ k', k' < k → σ'.2.1 73 k' = I (tolds n m tc k')) → GW l mX5_trace 12 [(0, .inr 69), (1, .inl (I L)), (2, .inl (I x)), (3, .inl (I y)), (4, .inl (I k))] [] σ' 0 0 (PV K) := by
    refine lp ?_ ?_
    · intro x y σ' _ o' _ e8 e73
      refine gX5_trace_12 ⟨fun _ => hK σ' o' (by rw [e8]; rfl) e73, fun q => absurd ?_ q⟩
      exact (I_lt ⟨by omega, by omega⟩ ⟨by omega, by omega⟩).mpr (by omega)
    · intro k hk ih x y σ' hxy o' e69 e8 e73
      obtain ⟨ex, ey⟩ := hxy (by omega)
      have C' := o'.C hC
      have hM := pth_ok (n := n) (m := m) (tc := tc) (by omega) k (by omega)
      rw [← ex, ← ey, hL] at hM
      have rk := (MT_rg (n := n) (m := m) (tc := tc) x y).2 (by omega)
      have a1 := MT_rg (n := n) (m := m) (tc := tc) (x + 1) (y + 1)
      have a2 := MT_rg (n := n) (m := m) (tc := tc) (x + 1) y
      refine gX5_trace_12 ⟨fun q => ?_, fun _ => ⟨fun q => ?_, fun _ => ⟨C'.o69, C'.a69_3 (by omega) (by omega), fun σ5 e5 σ6 e6 => ?_⟩⟩⟩
      · rw [I_lt ⟨by omega, by omega⟩ ⟨by omega, by omega⟩] at q; omega
      · rw [L_lit, I_le ⟨by omega, by omega⟩ ⟨by omega, by omega⟩] at q; omega
      rw [C'.p69_3, I_cln (by omega), L_lit, I_mul, I_add] at e5
      rw [I_1, I_add] at e6
      have o6 : Onl [69, 73] σ σ6 := o'.tr ((Onl.w e5 (by decide)).tr (Onl.w e6 (by decide)))
      have e69' : ∀ q, q ≠ 8 → σ6.2.1 69 q = σ.2.1 69 q := fun q hq => by rw [e6, w1_k hq, e5, w1_r (by omega)]; exact e69 q hq
      have N6 : MeN σ6 n m J0 J1 := by unfold MeN; rw [e69' 4 (by omega), e69' 5 (by omega), e69' 6 (by omega), e69' 7 (by omega)]; exact hN
      have C6 := o6.C hC
      have t6 : ∀ i j, i < n → j < m → σ6.2.1 72 (40 * i + j) = I (MT n m tc i j) := fun i j a b => by rw [o6.2.2 72 (by decide)]; exact ht i j a b
      have e73' : ∀ k', k' < k + 1 → σ6.2.1 73 k' = I (tolds n m tc k') := fun k' hk' => by
        rw [e6, w1_r (by omega), e5]
        by_cases z : k' = k
        · rw [z, w1_at]; unfold tolds; rw [ex, ey]
        · rw [w1_k z]; exact e73 k' (by omega)
      have e8' : σ6.2.1 69 8 = I ((k + 1 : Nat) : Int) := by rw [e6, w1_at]; rfl
      have nx : ∀ x' y' : Nat, (k + 1 ≤ L → x' = (pth n m tc (k + 1)).1 ∧ y' = (pth n m tc (k + 1)).2) → GW l mX5_trace 12 [(0, .inr 69), (1, .inl (I L)), (2, .inl (I x')), (3, .inl (I y')), (4, .inl (I ((k : Int) + 1)))] [] σ6 0 0 (PV K) := fun x' y' hxy' => ih x' y' σ6 hxy' o6 e69' e8' e73'
      have ps : pth n m tc (k + 1) = if MT n m tc (x + 1) (y + 1) = (L : Int) - k - 1 then (x + 1, y + 1) else if MT n m tc (x + 1) y = (L : Int) - k - 1 then (x + 1, y) else (x, y + 1) := by
        show (let p := pth n m tc k; if MT n m tc (p.1 + 1) (p.2 + 1) = MT n m tc 0 0 - k - 1 then (p.1 + 1, p.2 + 1) else if MT n m tc (p.1 + 1) p.2 = MT n m tc 0 0 - k - 1 then (p.1 + 1, p.2) else (p.1, p.2 + 1)) = _
        simp only []
        rw [← ex, ← ey, hL]
      rw [I_1, I_add, I_add, show ((x : Int) + 1) = ((x + 1 : Nat) : Int) by omega, show ((y : Int) + 1) = ((y + 1 : Nat) : Int) by omega]
      refine q_timesFrom (tc := tc) C6 N6 hn hm (by omega) (by omega) (fun z1 z2 => t6 _ _ z1 z2) ?_
      rw [I_sub, I_sub, I_eq' (by omega) (by omega) (by omega) (by omega)]
      refine ⟨fun q => ?_, fun q => ?_⟩
      · refine gX5_trace_74 ⟨fun z => absurd rfl z, fun _ => ⟨C6.o69, ?_⟩⟩
        rw [I_1, I_add, show ((x : Int) + 1) = ((x + 1 : Nat) : Int) by omega]
        refine q_timesFrom (tc := tc) C6 N6 hn hm (by omega) (by omega) (fun z1 z2 => t6 _ _ z1 z2) ?_
        rw [I_eq' (by omega) (by omega) (by omega) (by omega)]
        refine ⟨fun q2 => ?_, fun q2 => ?_⟩
        · refine gX5_trace_112 ⟨fun z => absurd rfl z, fun _ => ⟨fun z => absurd rfl z, fun _ => ?_⟩⟩
          rw [I_1, I_add, I_add, I_0, I_add, show ((x : Int) + 0) = x by omega, show ((y : Int) + 1) = ((y + 1 : Nat) : Int) by omega]
          exact nx x (y + 1) (fun _ => by rw [ps, if_neg q, if_neg q2]; exact ⟨rfl, rfl⟩)
        · refine gX5_trace_112 ⟨fun z => absurd rfl z, fun _ => ⟨fun _ => ?_, fun z => absurd z (by decide)⟩⟩
          rw [I_0, I_1, I_add, I_add, I_add, show ((y : Int) + 0) = y by omega, show ((x : Int) + 1) = ((x + 1 : Nat) : Int) by omega]
          exact nx (x + 1) y (fun _ => by rw [ps, if_neg q, if_pos q2]; exact ⟨rfl, rfl⟩)
      · refine gX5_trace_74 ⟨fun _ => gX5_trace_112 ⟨fun _ => ?_, fun z => absurd z (by decide)⟩, fun z => absurd z (by decide)⟩
        rw [I_1, I_add, I_add, I_add, show ((x : Int) + 1) = ((x + 1 : Nat) : Int) by omega, show ((y : Int) + 1) = ((y + 1 : Nat) : Int) by omega]
        exact nx (x + 1) (y + 1) (fun _ => by rw [ps, if_pos q]; exact ⟨rfl, rfl⟩)
  exact F 0 (by omega) 0 0 σ2 (fun _ => ⟨rfl, rfl⟩) (Onl.w e2 (by decide)) (fun q hq => by rw [e2, w1_k hq]) (by rw [e2, w1_at]; rfl) (fun k' hk' => absurd hk' (by omega))
end MEC2
