/-! suspects: a joint is tried -/
section SUS2
variable {l : Launch} {σ σ' : Sg} {v v' : Vt} {c : Nat} {t a n : Nat} {d o : Int} {f : Nat → Int}
theorem DbS.onl {S : List Nat} (h : DbS σ v t d o n) (ho : Onl S σ σ') (h6 : σ'.2.1 62 6 = σ.2.1 62 6) (h7 : σ'.2.1 62 7 = σ.2.1 62 7) (hs : 65 ∉ S ∧ 66 ∉ S) : DbS σ' v t d o n := ⟨by rw [h6]; exact h.1, by rw [h7]; exact h.2.1, fun i hi => by rw [ho.2.2 65 hs.1]; exact h.2.2.1 i hi, fun s hs' => by rw [ho.2.2 66 hs.2]; exact h.2.2.2 s hs'⟩
theorem DbP.onl {S : List Nat} {j : Nat} (h : DbP σ v t d o n j) (ho : Onl S σ σ') (hs : 63 ∉ S) : DbP σ' v t d o n j := fun i p y1 y2 y3 => by rw [ho.2.2 63 hs]; exact h i p y1 y2 y3
theorem JSt.onl {S : List Nat} {j b : Nat} {N : Int} {X : Nat → Prop} (h : JSt σ j N b X) (ho : Onl S σ σ') (hs : 62 ∉ S ∧ 67 ∉ S ∧ 68 ∉ S) : JSt σ' j N b X := by
  obtain ⟨j1, x, lo, hi, hx, hr, j2, j3, j4, j5⟩ := h
  exact ⟨by rw [ho.2.2 62 hs.1]; exact j1, x, lo, hi, hx, hr, by rw [ho.2.2 62 hs.1]; exact j2, by rw [ho.2.2 67 hs.2.1]; exact j3, by rw [ho.2.2 68 hs.2.2]; exact j4, j5⟩
def Sqe (v : Vt) (t : Nat) (d o : Int) (n j q e : Nat) (e' : Nat) : Prop := ∃ q', q' < 6 ∧ ((q' < q ∧ e' < n) ∨ (q' = q ∧ e' < e)) ∧ Acq v t d o j q' e'
theorem q_tryJoint {K : Sg → Prop} {j b : Nat} {N : Int} (h : CR σ v) (hw : WF c v) (hA : Aim σ v t d o) (hn : v.2.1 t 0 1 = n) (hj : j < 3) (hS : DbS σ v t d o n) (hP : DbP σ v t d o n j) (hb : b < 2 ^ j) (hJ : JSt σ j N b (fun _ => False))
    (hK : ∀ σ', Onl [62, 64, 66, 67, 68] σ σ' → (∀ k, k ≠ 8 → k ≠ 9 → σ'.2.1 62 k = σ.2.1 62 k) → (∀ j', j' ≠ j → σ'.2.1 67 j' = σ.2.1 67 j' ∧ σ'.2.1 68 j' = σ.2.1 68 j') → DbS σ' v t d o n → JSt σ' j (N + cnj v t d o n j) b (fun e => e < n ∧ Ace v t d o j e) → K σ') : Con l mX1_tryJoint [.inr 62, .inr 60, .inl (I j)] σ (PV K) := by
  obtain ⟨a', ea', ha, ht, ht1, hwf, hj1, n0, n40, hpo⟩ := hA.w hw
  have n40' : n ≤ 40 := by omega
  obtain ⟨In, eIn⟩ : ∃ In : Nat → Nat → Sg → Prop, In = fun q e σ' => Onl [62, 64, 66, 67, 68] σ σ' ∧ (∀ k, k ≠ 8 → k ≠ 9 → σ'.2.1 62 k = σ.2.1 62 k) ∧ (∀ j', j' ≠ j → σ'.2.1 67 j' = σ.2.1 67 j' ∧ σ'.2.1 68 j' = σ.2.1 68 j') ∧ DbS σ' v t d o n ∧ JSt σ' j (N + sumP (fun q => sumP (fun e => inq v t d o j q e) n) q + sumP (fun e => inq v t d o j q e) e) b (Sqe v t d o n j q e) := ⟨_, rfl⟩
  have nxt : ∀ q σ', In q n σ' → In (q + 1) 0 σ' := by
    intro q σ' hi
    rw [eIn] at hi ⊢
    obtain ⟨i1, i2, i3, i4, i5, x, lo, hi, hx, hr, j2, j3, j4, j5⟩ := hi
    refine ⟨i1, i2, i3, i4, ?_, x, lo, hi, hx, hr, j2, j3, j4, j5.same (fun e => ?_)⟩
    · rw [i5]
      show I (N + sumP (fun q => sumP (fun e => inq v t d o j q e) n) q + sumP (fun e => inq v t d o j q e) n) = I (N + (sumP (fun q => sumP (fun e => inq v t d o j q e) n) q + sumP (fun e => inq v t d o j q e) n) + 0)
      rw [Int.add_zero, Int.add_assoc]
    · refine ⟨fun ⟨q', z1, z2, z3⟩ => ⟨q', z1, ?_, z3⟩, fun ⟨q', z1, z2, z3⟩ => ⟨q', z1, ?_, z3⟩⟩ <;> omega
  have fin : ∀ σ', In 6 0 σ' → K σ' := by
    intro σ' hi
    rw [eIn] at hi
    obtain ⟨i1, i2, i3, i4, i5, x, lo, hi, hx, hr, j2, j3, j4, j5⟩ := hi
    refine hK σ' i1 i2 i3 i4 ⟨?_, x, lo, hi, hx, hr, j2, j3, j4, j5.same (fun e => ?_)⟩
    · rw [i5]; show I (_ + (0 : Int)) = _; rw [Int.add_zero]; rfl
    · refine ⟨fun ⟨z1, q, z2, z3⟩ => ⟨q, z2, by omega, z3⟩, fun ⟨q, z1, z2, z3⟩ => ⟨by omega, q, z1, z3⟩⟩
  have P : ∀ q, q ≤ 6 → ∀ σ', In q 0 σ' → (q = 6 → K σ') ∧ (q < 6 → GW l mX1_tryJoint 19 [(0, .inr 62), (1, .inr 60), (2, .inl (I j)), (3, .inl (I ((q / 3 : Nat) : Int))), (4, .inl (I ((q % 3 + 1 : Nat) : Int))), (5, .inl (I ((0 : Nat) : Int)))] [] σ' 0 0 (PV K)) := by
    refine lp ?_ ?_
    · intro σ' hi
      exact ⟨fun _ => fin σ' hi, fun q => absurd q (by omega)⟩
    · intro q hq ih σ' hi
      refine ⟨fun z => absurd z (by omega), fun _ => ?_⟩
      have G : ∀ e, e ≤ n → ∀ σ', In q e σ' → GW l mX1_tryJoint 19 [(0, .inr 62), (1, .inr 60), (2, .inl (I j)), (3, .inl (I ((q / 3 : Nat) : Int))), (4, .inl (I ((q % 3 + 1 : Nat) : Int))), (5, .inl (I e))] [] σ' 0 0 (PV K) := by
        refine lp ?_ ?_
        · intro σ' hi
          have hi2 := nxt q σ' hi
          rw [eIn] at hi
          have C' := hi.1.C h.1
          refine gX1_tryJoint_19 ⟨C'.o62, fun _ => ?_, fun z => absurd ?_ z⟩
          · have go := ih σ' hi2
            rw [I_1, I_add]
            refine gX1_tryJoint_10 ⟨fun z => ?_, fun z => ?_⟩
            · rw [L_lit, I_lt ⟨by omega, by omega⟩ ⟨by omega, by omega⟩] at z
              rw [I_1, I_add]
              refine gX1_tryJoint_2 ⟨fun z2 => ?_, fun z2 => gX1_tryJoint_10 ⟨fun z3 => absurd z3 (by decide), fun _ => ?_⟩⟩
              · rw [I_1, I_lt ⟨by omega, by omega⟩ ⟨by omega, by omega⟩] at z2
                exact go.1 (by omega)
              · rw [I_1, I_lt ⟨by omega, by omega⟩ ⟨by omega, by omega⟩] at z2
                have := go.2 (by omega)
                rw [show (q + 1) / 3 = q / 3 + 1 by omega, show (q + 1) % 3 = 0 by omega] at this
                exact this
            · rw [L_lit, I_lt ⟨by omega, by omega⟩ ⟨by omega, by omega⟩] at z
              have := go.2 (by omega)
              rw [show (q + 1) / 3 = q / 3 by omega, show (q + 1) % 3 = q % 3 + 1 by omega] at this
              exact this
          · rw [hi.2.1 6 (by omega) (by omega), hS.1]; exact (I_le ⟨by omega, by omega⟩ ⟨by omega, by omega⟩).mpr (by omega)
        · intro e he ih2 σ' hi
          have hi0 := hi
          rw [eIn] at hi
          obtain ⟨i1, i2, i3, i4, i5⟩ := hi
          obtain ⟨h', f'⟩ := h.onl hw i1 (by decide)
          have hA' := hA.onl i1 (by decide)
          refine gX1_tryJoint_19 ⟨h'.1.o62, fun z => ?_, fun _ => ?_⟩
          · rw [i2 6 (by omega) (by omega), hS.1, I_le ⟨by omega, by omega⟩ ⟨by omega, by omega⟩] at z; omega
          · rw [I_1, I_add]
            refine q_fits h' hw hA' hn hj (by omega) (by omega) (by omega) i4 (hP.onl i1 (by decide)) (fun σ3 o3 S3 hal => ⟨fun z => absurd z (by decide), fun _ => ?_⟩) (fun σ3 o3 S3 hal => ⟨fun _ => ?_, fun z => absurd rfl z⟩)
            · have J3 := i5.onl o3 (by decide)
              have hac : Acq v t d o j q e := hal
              refine q_note (o3.C h'.1) hj (by omega) hb J3 (S' := Sqe v t d o n j q (e + 1)) (fun e' => ?_) (fun σ5 o5 k5 k6 J5 => ih2 σ5 ?_)
              · refine ⟨fun ⟨q', z1, z2, z3⟩ => ?_, fun z => ?_⟩
                · by_cases w : q' = q ∧ e' = e
                  · exact Or.inr w.2
                  · exact Or.inl ⟨q', z1, by omega, z3⟩
                · rcases z with ⟨q', z1, z2, z3⟩ | z
                  · exact ⟨q', z1, by omega, z3⟩
                  · rw [z]; exact ⟨q, hq, by omega, hac⟩
              · rw [eIn]
                have o35 := (o3.up (S' := [62, 64, 66, 67, 68]) (by decide)).tr (o5.up (by decide))
                refine ⟨i1.tr o35, fun k k8 k9 => by rw [k5 k k8 k9, o3.2.2 62 (by decide)]; exact i2 k k8 k9, fun j' hj' => ?_, S3.onl o5 (k5 6 (by omega) (by omega)) (k5 7 (by omega) (by omega)) (by decide), ?_⟩
                · rw [(k6 j' hj').1, (k6 j' hj').2, o3.2.2 67 (by decide), o3.2.2 68 (by decide)]; exact i3 j' hj'
                · have : N + sumP (fun q => sumP (fun e => inq v t d o j q e) n) q + sumP (fun e => inq v t d o j q e) (e + 1) = N + sumP (fun q => sumP (fun e => inq v t d o j q e) n) q + sumP (fun e => inq v t d o j q e) e + 1 := by
                    show _ + (sumP (fun e => inq v t d o j q e) e + inq v t d o j q e) = _
                    rw [show inq v t d o j q e = 1 from cif_t hac]; omega
                  rw [this]; exact J5
            · refine ih2 σ3 ?_
              rw [eIn]
              have hac : ¬ Acq v t d o j q e := hal
              have o35 := o3.up (S' := [62, 64, 66, 67, 68]) (by decide)
              obtain ⟨j1, x, lo, hi, hx, hr, j2, j3, j4, j5⟩ := i5.onl o3 (by decide)
              refine ⟨i1.tr o35, fun k k8 k9 => by rw [o3.2.2 62 (by decide)]; exact i2 k k8 k9, fun j' hj' => by rw [o3.2.2 67 (by decide), o3.2.2 68 (by decide)]; exact i3 j' hj', S3, ?_, x, lo, hi, hx, hr, j2, j3, j4, j5.same (fun e' => ?_)⟩
              · rw [j1]
                show _ = I (_ + (sumP (fun e => inq v t d o j q e) e + inq v t d o j q e))
                rw [show inq v t d o j q e = 0 from cif_f hac, Int.add_zero]
              · refine ⟨fun ⟨q', z1, z2, z3⟩ => ⟨q', z1, ?_, z3⟩, fun ⟨q', z1, z2, z3⟩ => ⟨q', z1, by omega, z3⟩⟩
                by_cases w : q' = q ∧ e' = e
                · rw [w.1, w.2] at z3; exact absurd z3 hac
                · omega
      exact G 0 (by omega) σ' hi
  have st : In 0 0 σ := by
    rw [eIn]
    obtain ⟨j1, x, lo, hi, hx, hr, j2, j3, j4, j5⟩ := hJ
    refine ⟨Onl.rf _ _, fun _ _ _ => rfl, fun _ _ => ⟨rfl, rfl⟩, hS, ?_, x, lo, hi, hx, hr, j2, j3, j4, j5.same (fun e => ⟨fun ⟨q', z1, z2, z3⟩ => by omega, fun z => absurd z id⟩)⟩
    rw [j1]; show _ = I (N + (0 : Int) + (0 : Int)); rw [Int.add_zero, Int.add_zero]
  exact eX1_tryJoint (gX1_tryJoint_2 ⟨fun z => absurd z (by decide), fun _ => gX1_tryJoint_10 ⟨fun z => absurd z (by decide), fun _ => (P 0 (by omega) σ st).2 (by omega)⟩⟩)
/-- what the doubt tells -/
noncomputable def non (v : Vt) (t : Nat) (d o : Int) : Int := cif (alk v t d o 0 0 0 0) 1 0
def SuF (σ : Sg) (v : Vt) (t : Nat) (d o : Int) (n j : Nat) : Prop := σ.2.1 62 8 = I ((if j = 0 then 0 else non v t d o) + sumP (cnj v t d o n) j) ∧ σ.2.1 62 9 = I (Btj v t d o n j) ∧ σ.2.1 62 10 = I (if j = 0 then 0 else non v t d o) ∧ ∀ j', j' < j → hbj v t d o n j' = 1 → ∃ lo hi, σ.2.1 67 j' = I lo ∧ σ.2.1 68 j' = I hi ∧ IsLo v t d o n j' lo ∧ IsHi v t d o n j' hi
theorem q_search1 {K : Sg → Prop} {J : Nat} (h : CR σ v) (hw : WF c v) (hA : Aim σ v t d o) (ea : v.2.1 t 0 0 = a) (hn : v.2.1 t 0 1 = n) (hJ : v.1 a 0 2 = J) (hK : ∀ σ', Onl [61, 62, 63, 64, 65, 66, 67, 68] σ σ' → SuF σ' v t d o n J → K σ') : Con l mX1_search [.inr 62, .inr 60, .inr (5 + 5 * a)] σ (PV K) := by
  obtain ⟨a', ea', ha, ht, ht1, hwf, hj1, n0, n40, hpo⟩ := hA.w hw
  have : a' = a := by omega
  subst this
  have w1' := hwf.1
  refine eX1_search ⟨h.1.o62, q_takePaint h hw hA ea hn (fun σ1 o1 S1 σ3 e3 σ4 e4 σ5 e5 => ?_)⟩
  have o5 : Onl [61, 62, 63, 64, 65, 66, 67, 68] σ σ5 := (o1.up (by decide)).tr ((Onl.w e3 (by decide)).tr ((Onl.w e4 (by decide)).tr (Onl.w e5 (by decide))))
  have o15 : Onl [62] σ1 σ5 := (Onl.w e3 (by decide)).tr ((Onl.w e4 (by decide)).tr (Onl.w e5 (by decide)))
  have S5 : DbS σ5 v t d o n := S1.onl o15 (by rw [e5, w1_k (by omega), e4, w1_k (by omega), e3, w1_k (by omega)]) (by rw [e5, w1_k (by omega), e4, w1_k (by omega), e3, w1_k (by omega)]) (by decide)
  have F5 : SuF σ5 v t d o n 0 := by
    refine ⟨by rw [e5, w1_k (by omega), e4, w1_k (by omega), e3, w1_at]; rfl, by rw [e5, w1_k (by omega), e4, w1_at]; rfl, by rw [e5, w1_at]; rfl, fun j' hj' => absurd hj' (by omega)⟩
  have F : ∀ j, j ≤ J → ∀ σ', Onl [61, 62, 63, 64, 65, 66, 67, 68] σ σ' → DbS σ' v t d o n → SuF σ' v t d o n j → GW l mX1_search 23 [(0, .inr 62), (1, .inr 60), (2, .inr (5 + 5 * a')), (3, .inl (I j))] [] σ' 0 0 (PV K) := by
    refine lp ?_ ?_
    · intro σ' o' S' F'
      obtain ⟨h', f'⟩ := h.onl hw o' (by decide)
      refine gX1_search_23 ⟨(h'.A ha).ob, fun _ => hK σ' o' F', fun z => absurd ?_ z⟩
      rw [(h'.A ha).jn, hJ]; exact (I_le ⟨by omega, by omega⟩ ⟨by omega, by omega⟩).mpr (by omega)
    · intro j hj ih σ' o' S' F'
      obtain ⟨h', f'⟩ := h.onl hw o' (by decide)
      have j3 : j < 3 := by omega
      refine gX1_search_23 ⟨(h'.A ha).ob, fun z => ?_, fun _ => ⟨fun z => ?_, fun _ => ⟨h'.1.o62, h'.1.a62_4 (by omega) (by omega), fun σ6 e6 => ?_⟩⟩⟩
      · rw [(h'.A ha).jn, hJ, I_le ⟨by omega, by omega⟩ ⟨by omega, by omega⟩] at z; omega
      · rw [L_lit, I_le ⟨by omega, by omega⟩ ⟨by omega, by omega⟩] at z; omega
      · rw [h'.1.p62_4, I_cln (by omega)] at e6
        have o6 : Onl [67, 68] σ' σ6 := Onl.w e6 (by decide)
        have C6 := o6.C h'.1
        refine ⟨C6.a62_5 (by omega) (by omega), fun σ8 e8 => ?_⟩
        rw [C6.p62_5, I_cln (by omega)] at e8
        have o8 : Onl [67, 68] σ' σ8 := o6.tr (Onl.w e8 (by decide))
        obtain ⟨h8, f8⟩ := h'.onl hw o8 (by decide)
        have hA8 := hA.onl (o'.tr (o8.up (by decide))) (by decide)
        have S8 : DbS σ8 v t d o n := S'.onl o8 (by rw [o8.2.2 62 (by decide)]) (by rw [o8.2.2 62 (by decide)]) (by decide)
        refine q_fillSpots h8 hw hA8 ea hn j3 S8.1 (fun σ9 o9 P9 => ?_)
        have o89 : Onl [63, 67, 68] σ' σ9 := (o8.up (by decide)).tr (o9.up (by decide))
        have S9 : DbS σ9 v t d o n := S8.onl o9 (by rw [o9.2.2 62 (by decide)]) (by rw [o9.2.2 62 (by decide)]) (by decide)
        have l9 : σ9.2.1 67 j = I 40 ∧ σ9.2.1 68 j = I (-1) := by
          rw [o9.2.2 67 (by decide), o9.2.2 68 (by decide), e8, w1_at, w1_r (by omega), e6, w1_at]; exact ⟨rfl, rfl⟩
        have l9' : ∀ j', j' ≠ j → σ9.2.1 67 j' = σ'.2.1 67 j' ∧ σ9.2.1 68 j' = σ'.2.1 68 j' := fun j' hj' => by
          rw [o9.2.2 67 (by decide), o9.2.2 68 (by decide), e8, w1_r (by omega), w1_k hj', e6, w1_k hj', w1_r (by omega)]; exact ⟨rfl, rfl⟩
        have go : ∀ σ11, Onl [62, 64, 66] σ9 σ11 → DbS σ11 v t d o n → σ11.2.1 62 8 = I (non v t d o + sumP (cnj v t d o n) j) → σ11.2.1 62 9 = I (Btj v t d o n j) → σ11.2.1 62 10 = I (non v t d o) → GW l mX1_search 89 [(0, .inr 62), (1, .inr 60), (2, .inr (5 + 5 * a')), (3, .inl (I j))] [] σ11 0 0 (PV K) := by
          intro σ11 o11 S11 n8 n9 n10
          have oA : Onl [61, 62, 63, 64, 65, 66, 67, 68] σ σ11 := o'.tr ((o89.up (by decide)).tr (o11.up (by decide)))
          obtain ⟨h11, f11⟩ := h.onl hw oA (by decide)
          have J11 : JSt σ11 j (non v t d o + sumP (cnj v t d o n) j) (Btj v t d o n j) (fun _ => False) := by
            refine ⟨n8, 0, 40, -1, by omega, by omega, by rw [Nat.zero_mul, Nat.add_zero]; exact n9, by rw [o11.2.2 67 (by decide)]; exact l9.1, by rw [o11.2.2 68 (by decide)]; exact l9.2, Or.inl ⟨rfl, fun _ z => z, rfl, rfl⟩⟩
          refine gX1_search_89 ⟨h11.1.o62, q_tryJoint h11 hw (hA.onl oA (by decide)) hn j3 S11 (P9.onl o11 (by decide)) (Btj_lt j) J11 (fun σ12 o12 k12 l12 S12 J12 => ?_)⟩
          rw [I_1, I_add]
          obtain ⟨j1, x, lo, hi, hx, hr, j2, jl, jh, j5⟩ := J12
          obtain ⟨x1, x2⟩ := j5.fin (fun e => Iff.rfl)
          refine ih σ12 (oA.tr (o12.up (by decide))) S12 ⟨?_, ?_, ?_, fun j' hj' hb => ?_⟩
          · rw [j1, if_neg (by omega)]
            show _ = I (_ + (sumP (cnj v t d o n) j + cnj v t d o n j))
            rw [Int.add_assoc]
          · rw [j2, x1]; rfl
          · rw [k12 10 (by omega) (by omega), n10, if_neg (by omega)]
          · by_cases z : j' = j
            · subst z
              exact ⟨lo, hi, jl, jh, x2 (by omega)⟩
            · obtain ⟨lo', hi', y1, y2, y3⟩ := F'.2.2.2 j' (by omega) hb
              exact ⟨lo', hi', by rw [(l12 j' z).1, o11.2.2 67 (by decide), (l9' j' z).1]; exact y1, by rw [(l12 j' z).2, o11.2.2 68 (by decide), (l9' j' z).2]; exact y2, y3⟩
        have m62 : σ9.2.1 62 = σ'.2.1 62 := o89.2.2 62 (by decide)
        obtain ⟨F1, F2, F3, F4⟩ := F'
        rw [I_0, I_eq' (by omega) (by omega) (by omega) (by omega)]
        refine ⟨fun z => go σ9 (Onl.rf _ _) S9 ?_ ?_ ?_, fun z => ?_⟩
        · rw [m62, F1, if_neg (by omega)]
        · rw [m62]; exact F2
        · rw [m62, F3, if_neg (by omega)]
        · have j0 : j = 0 := by omega
          subst j0
          obtain ⟨h9, f9⟩ := h8.onl hw o9 (by decide)
          refine q_fits (j := 0) (k := 0) (s := 0) (e := 0) h9 hw (hA8.onl o9 (by decide)) hn (by omega) (by omega) (by omega) (Or.inl rfl) S9 P9 (fun σ11 o11 S11 hal => ⟨fun q => absurd q (by decide), fun _ σ13 e13 σ14 e14 => ?_⟩) (fun σ11 o11 S11 hal => ⟨fun _ => ?_, fun q => absurd rfl q⟩)
          · have e1 : non v t d o = 1 := cif_t hal
            have o14 : Onl [62, 64, 66] σ11 σ14 := (Onl.w e13 (by decide)).tr (Onl.w e14 (by decide))
            have o14' : Onl [62] σ11 σ14 := (Onl.w e13 (by decide)).tr (Onl.w e14 (by decide))
            have v8 : σ13.2.1 62 8 = I 0 := by rw [e13, w1_k (by omega), o11.2.2 62 (by decide), m62, F1]; rfl
            rw [v8, I_1, I_add] at e14
            refine go σ14 ((o11.up (by decide)).tr o14) (S11.onl o14' (by rw [e14, w1_k (by omega), e13, w1_k (by omega)]) (by rw [e14, w1_k (by omega), e13, w1_k (by omega)]) (by decide)) ?_ ?_ ?_
            · rw [e14, w1_at, e1]; rfl
            · rw [e14, w1_k (by omega), e13, w1_k (by omega), o11.2.2 62 (by decide), m62]; exact F2
            · rw [e14, w1_k (by omega), e13, w1_at, e1]; rfl
          · have e1 : non v t d o = 0 := cif_f hal
            refine go σ11 (o11.up (by decide)) S11 ?_ ?_ ?_
            · rw [o11.2.2 62 (by decide), m62, F1, e1]; rfl
            · rw [o11.2.2 62 (by decide), m62]; exact F2
            · rw [o11.2.2 62 (by decide), m62, F3, e1]; rfl
  exact F 0 (by omega) σ5 o5 S5 F5
end SUS2
