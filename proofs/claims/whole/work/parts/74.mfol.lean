/-! the reference: follows -/
def MBs (σ : Sg) (v : Vt) : Prop := Mp σ ∧ MArms σ v.1 ∧ MRt σ v
section MFO
variable {l : Launch} {σ σ' : Sg} {v : Vt} {a o tt t p n : Nat} {d e : Int}
theorem MBs.ws {S C : List Nat} (h : MBs σ v) (w : Ws S C σ σ') (hs : 16 ∉ S) (hc : ∀ r ∈ C, 100 ≤ r) : MBs σ' v := by
  have E : ∀ r, 84 ≤ r → r ≤ 99 → σ'.2.1 r = σ.2.1 r := fun r a b => w.2.2.1 r (by omega) (fun q => by have := hc r q; omega)
  exact ⟨w.M h.1, h.2.1.eq (fun r a b => E r a (by omega)), h.2.2.eq (w.2.2.2 16 hs) (fun r a b => E r (by omega) b) rfl rfl⟩
theorem MBs.ow (h : MBs σ v) (ht : (tt : Int) < v.2.2.1 1) (h10 : tt < 10) : σ.2.1 (σ.2.2 82 17) (I (tt : Int)).toNatClampNeg = I (v.2.1 tt 0 0) := by rw [h.1.d17 (by omega) (by omega), I_tn]; exact (h.2.2.2 tt ht).1
theorem MBs.tk (h : MBs σ v) (ht : (tt : Int) < v.2.2.1 1) (h10 : tt < 10) : σ.2.1 (σ.2.2 82 18) (I (tt : Int)).toNatClampNeg = I (v.2.1 tt 0 1) := by rw [h.1.d18 (by omega) (by omega), I_tn]; exact (h.2.2.2 tt ht).2.1
theorem MBs.ps (h : MBs σ v) {i : Nat} (ht : (tt : Int) < v.2.2.1 1) (h10 : tt < 10) (hi : (i : Int) < v.2.1 tt 0 1) (h40 : v.2.1 tt 0 1 ≤ 40) : σ.2.1 (σ.2.2 82 19) (I ((40 * tt + i : Nat) : Int)).toNatClampNeg = I (v.2.1 tt 1 i) := by rw [h.1.d19 (by omega) (by omega), I_tn]; exact ((h.2.2.2 tt ht).2.2 i hi).1
/-- a tape's facts -/
def TpF (v : Vt) (tt o n : Nat) : Prop := (tt : Int) < v.2.2.1 1 ∧ tt < 10 ∧ v.2.1 tt 0 0 = o ∧ o < 2 ∧ ArmWf (v.1 o) ∧ v.2.1 tt 0 1 = n ∧ n ≤ 40 ∧ ∀ i, i < n → isPo (v.1 o) (v.2.1 tt 1 i)
theorem WF.tpf {c : Nat} (hw : WF c v) (ht : (tt : Int) < v.2.2.1 1) : ∃ o n : Nat, TpF v tt o n := by
  have w0 := hw.1
  have w := hw.2.2.2.1 tt ht
  refine ⟨(v.2.1 tt 0 0).toNat, (v.2.1 tt 0 1).toNat, ht, by omega, by omega, by omega, (hw.2.2.1 _ (by omega)).1, by omega, by omega, fun i hi => (w.2.2.2.2.2 i (by omega)).1⟩
theorem m_isThere {K : Int32 → Sg → Prop} (h : MBs σ v) (hT : TpF v tt o n) (ha : a < 2) (hw : ArmWf (v.1 a)) (ht : t < n) (hp : p < 4096) (hd : -2000 ≤ d ∧ d ≤ 2000) (he : 0 ≤ e ∧ e ≤ 2000) (h1 : nrP (v.1 a) (wX (v.1 o) (v.2.1 tt) d) (wY (v.1 o) (v.2.1 tt)) e t p → K 1 σ) (h0 : ¬ nrP (v.1 a) (wX (v.1 o) (v.2.1 tt) d) (wY (v.1 o) (v.2.1 tt)) e t p → K 0 σ) : Con l mX12_isThere [.inr 82, .inl (I (tt : Nat)), .inl (I (a : Nat)), .inl (I (t : Nat)), .inl (I d), .inl (I e), .inl (I (p : Nat))] σ (PI K) := by
  obtain ⟨t1, t2, t3, t4, t5, t6, t7, t8⟩ := hT
  have q := t8 t ht
  have q0 := q.1; have q4 := q.2.1
  have m := mul2000 (i := t) hd.1 hd.2 (by omega)
  have x1 := tip_rg hw (p : Int) (w := 0) (Or.inl rfl); have y1 := tip_rg hw (p : Int) (w := 1) (Or.inr rfl)
  have x2 := tip_rg t5 (v.2.1 tt 1 t) (w := 0) (Or.inl rfl); have y2 := tip_rg t5 (v.2.1 tt 1 t) (w := 1) (Or.inr rfl)
  have eX : wX (v.1 o) (v.2.1 tt) d t = tip (v.1 o) (v.2.1 tt 1 t) 0 + d * t := rfl
  have eY : wY (v.1 o) (v.2.1 tt) t = tip (v.1 o) (v.2.1 tt 1 t) 1 := rfl
  refine eX12_isThere ⟨h.1.ob, m_isPose h.1 h.2.1 ha hw ⟨by omega, by omega⟩ (fun yes => ⟨fun _ => ?_, fun z => absurd z (by decide)⟩) (fun no => ⟨fun z => absurd rfl z, fun _ => h0 (fun z => no z.1)⟩)⟩
  rw [ix40]
  refine ⟨h.1.a19 (by omega) (by omega), ?_⟩
  rw [h.ps t1 t2 (by omega) (by omega)]
  refine m_tip (w := 0) h.1 h.2.1 ha hw (by omega) (by omega) (Or.inl rfl) ⟨h.1.a17 (by omega) (by omega), ?_⟩
  rw [h.ow t1 t2, t3]
  refine m_tip (w := 0) h.1 h.2.1 t4 t5 q0 (by omega) (Or.inl rfl) ?_
  rw [I_mul, I_sub, I_sub]
  refine q_abs (by omega) (by omega) ?_
  rw [I_lt' (by omega) (by omega) (by split <;> omega) (by split <;> omega)]
  refine ⟨fun z => h0 (fun y => ?_), fun z => ?_⟩
  · have := y.2.1
    rw [eX] at this
    split at z <;> omega
  have za : -e ≤ tip (v.1 a) p 0 - wX (v.1 o) (v.2.1 tt) d t ∧ tip (v.1 a) p 0 - wX (v.1 o) (v.2.1 tt) d t ≤ e := by
    rw [eX]
    split at z <;> omega
  refine m_tip (w := 1) h.1 h.2.1 ha hw (by omega) (by omega) (Or.inr rfl) ⟨h.1.a17 (by omega) (by omega), ?_⟩
  rw [h.ow t1 t2, t3]
  refine m_tip (w := 1) h.1 h.2.1 t4 t5 q0 (by omega) (Or.inr rfl) ?_
  rw [I_sub]
  refine q_abs (by omega) (by omega) ?_
  rw [I_lt' (by omega) (by omega) (by split <;> omega) (by split <;> omega)]
  refine ⟨fun y => h0 (fun u => ?_), fun y => h1 ⟨yes, za, ?_⟩⟩
  · have := u.2.2
    rw [eY] at this
    split at y <;> omega
  · rw [eY]
    split at y <;> omega
/-- the reference's table of ways -/
def AhS (σ : Sg) (t : Nat) (G : Nat → Int) : Prop := ∀ q, q < 4096 → σ.2.1 105 (4096 * t + q) = I (rcd (G q))
theorem rcd_lt {z : Int} (h : z < 1000000) : rcd z = z := by unfold rcd; rw [if_pos h]
theorem rcd_ge {z : Int} (h : ¬ z < 1000000) : rcd z = -1 := by unfold rcd; rw [if_neg h]
theorem rcd_rg {z : Int} (h0 : 0 ≤ z) : -1 ≤ rcd z ∧ rcd z ≤ 1000000 ∧ (rcd z = -1 ↔ ¬ z < 1000000) := by unfold rcd; split <;> omega
theorem ixr {t q : Nat} : ((4096 * I (t : Int)) + 4096) + I (q : Int) = I ((4096 * (t + 1) + q : Nat) : Int) := by
  rw [show (4096 : Int32) = I 4096 from rfl, I_mul, I_add, I_add]; rfl
theorem ixa {t q : Nat} : (4096 * I (t : Int)) + I (q : Int) = I ((4096 * t + q : Nat) : Int) := by
  rw [show (4096 : Int32) = I 4096 from rfl, I_mul, I_add]; rfl
/-- the least way of a pose, over the poses beside it -/
theorem m_least {K : Int32 → Sg → Prop} {G : Nat → Int} (h : MBs σ v) (ha : a < 2) (hw : ArmWf (v.1 a)) (hp : isPo (v.1 a) (p : Nat)) (ht : t + 1 < n) (hn : n ≤ 40) (hG : Gok 400 G) (hA : AhS σ (t + 1) G)
    (hK : ∀ σ4, σ4 = w1 σ 105 (4096 * t + p) (I (rcd (stW (v.1 a) G p))) → GW l mX12_follows 35 [(0, .inr 82), (1, .inl (I (tt : Nat))), (2, .inl (I (a : Nat))), (3, .inl (I d)), (4, .inl (I e)), (5, .inl (I ((n : Int) - 1))), (6, .inl (I (bsd (v.1 a) 3 : Nat))), (7, .inl (I (t : Nat))), (8, .inl (I ((p + 1 : Nat) : Int)))] [] σ4 0 0 (PI K)) : GW l mX12_follows 94 [(0, .inr 82), (1, .inl (I (tt : Nat))), (2, .inl (I (a : Nat))), (3, .inl (I d)), (4, .inl (I e)), (5, .inl (I ((n : Int) - 1))), (6, .inl (I (bsd (v.1 a) 3 : Nat))), (7, .inl (I (t : Nat))), (8, .inl (I (p : Nat))), (9, .inl (I (-1))), (10, .inl (I (0 : Nat)))] [] σ 0 0 (PI K) := by
  have p4 := hp.2.1
  have b3 := bsd_343 hw (m := 3) (by omega)
  have F : ∀ k, k ≤ bsd (v.1 a) 3 → GW l mX12_follows 94 [(0, .inr 82), (1, .inl (I (tt : Nat))), (2, .inl (I (a : Nat))), (3, .inl (I d)), (4, .inl (I e)), (5, .inl (I ((n : Int) - 1))), (6, .inl (I (bsd (v.1 a) 3 : Nat))), (7, .inl (I (t : Nat))), (8, .inl (I (p : Nat))), (9, .inl (I (rcd (mnF (okb (v.1 a) p) (fun k => wyb p (pok (v.1 a) p k) + G (pok (v.1 a) p k)) k)))), (10, .inl (I (k : Nat)))] [] σ 0 0 (PI K) := by
    refine lp ?_ ?_
    · refine gX12_follows_94 ⟨fun _ => ⟨h.1.ob, ?_⟩, fun q => absurd ((I_le ⟨by omega, by omega⟩ ⟨by omega, by omega⟩).mpr (by omega)) q⟩
      rw [ixa]
      refine ⟨h.1.a43 (by omega) (by omega), fun σ4 e4 => ?_⟩
      rw [h.1.k43, I_cln (by omega), mnk_eq hw] at e4
      rw [I_1, I_add]
      exact hK σ4 e4
    · intro k hk ih
      have mn0 : 0 ≤ mnF (okb (v.1 a) p) (fun k => wyb p (pok (v.1 a) p k) + G (pok (v.1 a) p k)) k := mnF_nn (fun q _ ho => by
        have := hG _ (adj_lt (pok_adj hw ho)); have := wyb_nn p (pok (v.1 a) p q)
        show 0 ≤ wyb p (pok (v.1 a) p q) + G (pok (v.1 a) p q); omega)
      have mn1 := mnF_1M (P := okb (v.1 a) p) (g := fun k => wyb p (pok (v.1 a) p k) + G (pok (v.1 a) p k)) k
      generalize em : mnF (okb (v.1 a) p) (fun k => wyb p (pok (v.1 a) p k) + G (pok (v.1 a) p k)) k = m at mn0 mn1
      have rm := rcd_rg mn0
      refine gX12_follows_94 ⟨fun q => ?_, fun _ => ⟨fun q => ?_, fun _ => ⟨h.1.ob, ?_⟩⟩⟩
      · rw [I_le ⟨by omega, by omega⟩ ⟨by omega, by omega⟩] at q; omega
      · rw [I_le ⟨by omega, by omega⟩ ⟨by omega, by omega⟩] at q; omega
      have same : mnF (okb (v.1 a) p) (fun k => wyb p (pok (v.1 a) p k) + G (pok (v.1 a) p k)) (k + 1) = m → GW l mX12_follows 94 [(0, .inr 82), (1, .inl (I (tt : Nat))), (2, .inl (I (a : Nat))), (3, .inl (I d)), (4, .inl (I e)), (5, .inl (I ((n : Int) - 1))), (6, .inl (I (bsd (v.1 a) 3 : Nat))), (7, .inl (I (t : Nat))), (8, .inl (I (p : Nat))), (9, .inl (I (rcd m))), (10, .inl (I (k : Nat) + 1))] [] σ 0 0 (PI K) := by
        intro e1
        rw [e1] at ih
        rw [I_1, I_add]; exact ih
      refine m_beside h.1 h.2.1 ha hw hp hk (fun ok => ⟨fun z => ?_, fun _ => ?_⟩) (fun no => ⟨fun _ => same (by rw [mnF_no no, em]), fun z => absurd rfl z⟩)
      · rw [I_m1, I_eq ⟨by omega, by have := (pok_pl hw ok).1; omega⟩ ⟨by omega, by omega⟩] at z; omega
      have ad := pok_adj hw ok
      have q4 := adj_lt ad
      have my := mnF_yes (P := okb (v.1 a) p) (g := fun k => wyb p (pok (v.1 a) p k) + G (pok (v.1 a) p k)) ok
      have my : mnF (okb (v.1 a) p) (fun k => wyb p (pok (v.1 a) p k) + G (pok (v.1 a) p k)) (k + 1) = min m (wyb p (pok (v.1 a) p k) + G (pok (v.1 a) p k)) := by rw [← em]; exact my
      obtain ⟨q, eq⟩ : ∃ q, q = pok (v.1 a) p k := ⟨_, rfl⟩
      rw [← eq] at my ad q4 ⊢
      have g := hG q q4
      have w := wyb_rg hw ad
      have rg := rcd_rg g.1
      rw [ixr]
      refine ⟨h.1.a43 (by omega) (by omega), ?_⟩
      rw [h.1.d43 (by omega) (by omega), I_tn, hA q q4, I_m1, I_eq' (by omega) (by omega) (by omega) (by omega)]
      refine ⟨fun z => m_wayBetween (by omega) q4 ?_, fun z => same ?_⟩
      · have gl : G q < 1000000 := Classical.byContradiction fun y => z (rg.2.2.mpr y)
        have g4 := g.2.2 gl
        rw [rcd_lt gl, I_add, I_eq' (by omega) (by omega) (by omega) (by omega), I_le' (by omega) (by omega) (by omega) (by omega)]
        have set : mnF (okb (v.1 a) p) (fun k => wyb p (pok (v.1 a) p k) + G (pok (v.1 a) p k)) (k + 1) = G q + wyb p q → GW l mX12_follows 94 [(0, .inr 82), (1, .inl (I (tt : Nat))), (2, .inl (I (a : Nat))), (3, .inl (I d)), (4, .inl (I e)), (5, .inl (I ((n : Int) - 1))), (6, .inl (I (bsd (v.1 a) 3 : Nat))), (7, .inl (I (t : Nat))), (8, .inl (I (p : Nat))), (9, .inl (I (G q + wyb p q))), (10, .inl (I (k : Nat) + 1))] [] σ 0 0 (PI K) := by
          intro e1
          rw [e1, rcd_lt (by omega)] at ih
          rw [I_1, I_add]; exact ih
        refine ⟨fun y => set ?_, fun y => ⟨fun u => same ?_, fun u => set ?_⟩⟩
        · have := rm.2.2.mp y; rw [my]; omega
        · have ml : m < 1000000 := Classical.byContradiction fun x => y (rm.2.2.mpr x)
          rw [rcd_lt ml] at u
          rw [my]; omega
        · have ml : m < 1000000 := Classical.byContradiction fun x => y (rm.2.2.mpr x)
          rw [rcd_lt ml] at u
          rw [my]; omega
      · have := rg.2.2.mp z
        rw [my]; omega
  have f0 := F 0 (by omega)
  rw [show rcd (mnF (okb (v.1 a) p) (fun k => wyb p (pok (v.1 a) p k) + G (pok (v.1 a) p k)) 0) = -1 from rcd_ge (by show ¬ (1000000 : Int) < 1000000; omega)] at f0
  exact f0
end MFO
