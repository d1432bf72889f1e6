/-! what holds of the state after each call -/
section WFS
variable {v : Vt} {c : Nat}
theorem WF.up {c' : Nat} (hw : WF c v) (h : c ≤ c') (h' : c' ≤ 512) : WF c' v := ⟨hw.1, hw.2.1, hw.2.2.1, hw.2.2.2.1, hw.2.2.2.2.1, fun s hs => by have := hw.2.2.2.2.2.1 s hs; omega, h'⟩
theorem W_nozzle {z : Int} (hw : WF c v) : WF c (nNozzle v z) := by
  unfold nNozzle
  by_cases ok : 0 ≤ z ∧ z ≤ 30
  · rw [if_pos ok]
    obtain ⟨a, b⟩ := hw
    refine ⟨?_, b⟩
    rw [setS_o (by omega), setS_o (by omega), setS_o (by omega), setS_k]
    omega
  · rw [if_neg ok]; exact hw
theorem W_armF {x y : Int} (hw : WF c v) : WF c (nArm v x y) := by
  obtain ⟨a1, a2, a3, a4, a5, a6, a7⟩ := W_arm (x := x) (y := y) hw
  have w0 := hw.1
  have w1' := hw.2.1
  unfold WF
  rw [a4 1 (by omega), a4 2 (by omega), a4 3 (by omega), a4 4 (by omega), a4 5 (by omega), a4 6 (by omega), a4 7 (by omega), a4 8 (by omega), a2, a3]
  refine ⟨by omega, w1', a1, fun t ht => ?_, hw.2.2.2.2⟩
  have wt := hw.2.2.2.1 t ht
  rw [a7 (v.2.1 t 0 0).toNat (by omega)]
  exact ⟨wt.1, by omega, wt.2.2⟩
theorem jA_0 {A : Nat → Nat → Int} {z lo hi sp : Int} {k : Nat} : jA A z lo hi sp 0 k = if k = 2 then A 0 2 + 1 else A 0 k := by unfold jA upA; simp
theorem jA_1 {A : Nat → Nat → Int} {z lo hi sp : Int} {k : Nat} : jA A z lo hi sp 1 k = if k = (A 0 2).toNat then z else A 1 k := by unfold jA upA; simp
theorem jA_2 {A : Nat → Nat → Int} {z lo hi sp : Int} {k : Nat} : jA A z lo hi sp 2 k = if k = (A 0 2).toNat then lo else A 2 k := by unfold jA upA; simp
theorem jA_3 {A : Nat → Nat → Int} {z lo hi sp : Int} {k : Nat} : jA A z lo hi sp 3 k = if k = (A 0 2).toNat then hi else A 3 k := by unfold jA upA; simp
theorem jA_4 {A : Nat → Nat → Int} {z lo hi sp : Int} {k : Nat} : jA A z lo hi sp 4 k = if k = (A 0 2).toNat then sp else A 4 k := by unfold jA upA; simp
theorem jA_5 {A : Nat → Nat → Int} {z lo hi sp : Int} {k : Nat} : jA A z lo hi sp 5 k = A 5 k := by unfold jA upA; simp
theorem jA_wf {A : Nat → Nat → Int} {z lo hi sp : Int} (h : ArmWf A) (h3 : A 0 2 < 3) (hz : 1 ≤ z ∧ z ≤ 6) (hl : 0 ≤ lo ∧ lo ≤ 15) (hh : lo ≤ hi ∧ hi ≤ 15) (hs : 1 ≤ sp ∧ sp ≤ 3) : ArmWf (jA A z lo hi sp) := by
  obtain ⟨w1', w2, w3, w4, w5⟩ := h
  refine ⟨?_, fun j hj => ?_, fun j hj => ?_, fun j hj => ?_, ?_⟩
  · rw [jA_0, jA_0, jA_0, if_neg (by omega), if_neg (by omega), if_pos rfl]; omega
  · have := w2 j hj
    rw [jA_1, jA_2, jA_3, jA_4]
    by_cases q : j = (A 0 2).toNat
    · rw [if_pos q, if_pos q, if_pos q, if_pos q]; omega
    · rw [if_neg q, if_neg q, if_neg q, if_neg q]; exact this
  · rw [jA_0, if_pos rfl, jA_4, jA_1]
    intro q
    by_cases u : j = (A 0 2).toNat
    · rw [if_pos u, if_pos u]; omega
    · rw [if_neg u, if_neg u]; exact w3 j hj (by omega)
  · rw [jA_0, if_pos rfl, jA_1, jA_2, jA_3, jA_4]
    intro q
    rw [if_neg (by omega), if_neg (by omega), if_neg (by omega), if_neg (by omega)]
    exact w4 j hj (by omega)
  · rw [jA_5, jA_5, jA_5, jA_5]; exact w5
theorem W_joint {a z lo hi sp : Int} (hw : WF c v) : WF c (nJoint v a z lo hi sp) := by
  unfold nJoint
  by_cases ok : okJ v a z lo hi sp
  · rw [vif_t ok]
    obtain ⟨o1, o2, o3, o4, o5, o6, o7⟩ := ok
    have w0 := hw.1
    refine ⟨hw.1, hw.2.1, fun b hb => ?_, fun t ht => ?_, hw.2.2.2.2⟩
    · show ArmWf (if b = a.toNat then jA (v.1 a.toNat) z lo hi sp else v.1 b) ∧ (v.2.2.1 0 ≤ (b : Int) → (if b = a.toNat then jA (v.1 a.toNat) z lo hi sp else v.1 b) 0 2 = 0)
      by_cases q : b = a.toNat
      · rw [if_pos q]
        exact ⟨jA_wf (hw.2.2.1 a.toNat (by omega)).1 o2 o4 o5 o6 o7, fun u => by omega⟩
      · rw [if_neg q]; exact hw.2.2.1 b hb
    · have wt := hw.2.2.2.1 t ht
      have ne : ¬ (v.2.1 t 0 0).toNat = a.toNat := fun q => o3 ⟨t, ht, by omega⟩
      show 0 ≤ v.2.1 t 0 0 ∧ v.2.1 t 0 0 < v.2.2.1 0 ∧ 1 ≤ (if (v.2.1 t 0 0).toNat = a.toNat then jA (v.1 a.toNat) z lo hi sp else v.1 (v.2.1 t 0 0).toNat) 0 2 ∧ 0 ≤ v.2.1 t 0 1 ∧ v.2.1 t 0 1 ≤ 40 ∧ ∀ i : Nat, (i : Int) < v.2.1 t 0 1 → isPo (if (v.2.1 t 0 0).toNat = a.toNat then jA (v.1 a.toNat) z lo hi sp else v.1 (v.2.1 t 0 0).toNat) (v.2.1 t 1 i) ∧ 0 ≤ v.2.1 t 2 i ∧ v.2.1 t 2 i ≤ 9
      rw [if_neg ne]; exact wt
  · rw [vif_f ok]; exact hw
theorem wA_o {A : Nat → Nat → Int} {j k s t : Int} {i b : Nat} (h : i ≠ 5) : wA A j k s t i b = A i b := by unfold wA upA; simp [h]
theorem W_wear {a j k s t : Int} (hw : WF c v) : WF c (nWear v a j k s t) := by
  unfold nWear
  by_cases ok : okW v a j k s t
  · rw [vif_t ok]
    obtain ⟨o1, o2, o3, o4, o5⟩ := ok
    have w0 := hw.1
    have E : ∀ b i n, i ≠ 5 → (dW v a.toNat j k s t).1 b i n = v.1 b i n := fun b i n hi => by
      show (if b = a.toNat then wA (v.1 a.toNat) j k s t else v.1 b) i n = _
      by_cases q : b = a.toNat
      · rw [if_pos q, wA_o hi, q]
      · rw [if_neg q]
    refine ⟨hw.1, hw.2.1, fun b hb => ?_, fun n hn => ?_, hw.2.2.2.2⟩
    · obtain ⟨⟨w1', w2, w3, w4, w5⟩, w6⟩ := hw.2.2.1 b hb
      refine ⟨⟨?_, fun i hi => ?_, fun i hi => ?_, fun i hi => ?_, ?_⟩, ?_⟩
      · rw [E _ _ _ (by omega), E _ _ _ (by omega), E _ _ _ (by omega)]; exact w1'
      · rw [E _ _ _ (by omega), E _ _ _ (by omega), E _ _ _ (by omega), E _ _ _ (by omega)]; exact w2 i hi
      · rw [E _ _ _ (by omega), E _ _ _ (by omega), E _ _ _ (by omega)]; exact w3 i hi
      · rw [E _ _ _ (by omega), E _ _ _ (by omega), E _ _ _ (by omega), E _ _ _ (by omega), E _ _ _ (by omega)]; exact w4 i hi
      · show 0 ≤ (if b = a.toNat then wA (v.1 a.toNat) j k s t else v.1 b) 5 0 ∧ (if b = a.toNat then wA (v.1 a.toNat) j k s t else v.1 b) 5 0 ≤ 2 ∧ 0 ≤ (if b = a.toNat then wA (v.1 a.toNat) j k s t else v.1 b) 5 1 ∧ (if b = a.toNat then wA (v.1 a.toNat) j k s t else v.1 b) 5 1 ≤ 1 ∧ 0 ≤ (if b = a.toNat then wA (v.1 a.toNat) j k s t else v.1 b) 5 2 ∧ (if b = a.toNat then wA (v.1 a.toNat) j k s t else v.1 b) 5 2 ≤ 3 ∧ 0 ≤ (if b = a.toNat then wA (v.1 a.toNat) j k s t else v.1 b) 5 3 ∧ (if b = a.toNat then wA (v.1 a.toNat) j k s t else v.1 b) 5 3 ≤ 39
        by_cases q : b = a.toNat
        · rw [if_pos q]
          have e0 : wA (v.1 a.toNat) j k s t 5 0 = j := by unfold wA upA; simp
          have e1 : wA (v.1 a.toNat) j k s t 5 1 = k := by unfold wA upA; simp
          have e2 : wA (v.1 a.toNat) j k s t 5 2 = s := by unfold wA upA; simp
          have e3 : wA (v.1 a.toNat) j k s t 5 3 = t := by unfold wA upA; simp
          rw [e0, e1, e2, e3]
          have := (hw.2.2.1 a.toNat (by omega)).1.1
          omega
        · rw [if_neg q]; exact w5
      · rw [E _ _ _ (by omega)]; exact w6
    · have wt := hw.2.2.2.1 n hn
      refine ⟨wt.1, wt.2.1, by rw [E _ _ _ (by omega)]; exact wt.2.2.1, wt.2.2.2.1, wt.2.2.2.2.1, fun i hi => ⟨?_, (wt.2.2.2.2.2 i hi).2⟩⟩
      have p := (wt.2.2.2.2.2 i hi).1
      exact ⟨p.1, p.2.1, fun q hq => by rw [E _ _ _ (by omega), E _ _ _ (by omega)]; exact p.2.2 q hq⟩
  · rw [vif_f ok]; exact hw
theorem W_tape {a : Int} (hw : WF c v) : WF c (nTape v a) := by
  unfold nTape
  by_cases ok : okTp v a
  · rw [vif_t ok]
    obtain ⟨o1, o2, o3⟩ := ok
    have w0 := hw.1
    have wa := (hw.2.2.1 a.toNat (by omega)).1.1
    obtain ⟨N, hN⟩ : ∃ N : Nat, v.2.2.1 1 = N := ⟨(v.2.2.1 1).toNat, by omega⟩
    have tN : (v.2.2.1 1).toNat = N := by omega
    have K : ∀ k, k ≠ 1 → (dTp v a).2.2.1 k = v.2.2.1 k := fun k hk => by unfold dTp; rw [setS_o hk]; rfl
    have K1 : (dTp v a).2.2.1 1 = v.2.2.1 1 + 1 := by unfold dTp; rw [setS_k]
    have T : ∀ t, t ≠ N → (dTp v a).2.1 t = v.2.1 t := fun t ht => by
      show (if t = (v.2.2.1 1).toNat then _ else (if t = (v.2.2.1 1).toNat then _ else v.2.1 t)) = v.2.1 t
      rw [if_neg (by omega), if_neg (by omega)]
    have T0 : (dTp v a).2.1 N 0 0 = a ∧ (dTp v a).2.1 N 0 1 = 0 := by
      unfold dTp setS setT
      simp [tN, upA]
    refine ⟨by rw [K 0 (by omega), K1, K 2 (by omega), K 5 (by omega)]; omega, by rw [K 3 (by omega), K 4 (by omega), K 6 (by omega), K 7 (by omega), K 8 (by omega)]; exact hw.2.1, fun b hb => by rw [K 0 (by omega)]; exact hw.2.2.1 b hb, fun t ht => ?_, fun i hi => ?_, hw.2.2.2.2.2⟩
    · rw [K1] at ht
      rw [K 0 (by omega)]
      by_cases q : t = N
      · rw [q, T0.1, T0.2]
        exact ⟨o1.1, o1.2, by show 1 ≤ v.1 a.toNat 0 2; omega, by omega, by omega, fun i hi => by omega⟩
      · rw [T t q]; exact hw.2.2.2.1 t (by omega)
    · rw [K 2 (by omega)] at hi; exact hw.2.2.2.2.1 i hi
  · rw [vif_f ok]; exact hw
theorem W_lead {t p s : Int} (hw : WF c v) : WF c (nLead v t p s) := by
  unfold nLead
  by_cases ok : okLd v t p s
  · rw [vif_t ok]
    obtain ⟨o1, o2, o3, o4, o5⟩ := ok
    have w0 := hw.1
    refine ⟨hw.1, hw.2.1, hw.2.2.1, fun b hb => ?_, hw.2.2.2.2⟩
    show 0 ≤ (if b = t.toNat then tA (v.2.1 t.toNat) p s else v.2.1 b) 0 0 ∧ (if b = t.toNat then tA (v.2.1 t.toNat) p s else v.2.1 b) 0 0 < v.2.2.1 0 ∧ 1 ≤ v.1 ((if b = t.toNat then tA (v.2.1 t.toNat) p s else v.2.1 b) 0 0).toNat 0 2 ∧ 0 ≤ (if b = t.toNat then tA (v.2.1 t.toNat) p s else v.2.1 b) 0 1 ∧ (if b = t.toNat then tA (v.2.1 t.toNat) p s else v.2.1 b) 0 1 ≤ 40 ∧ ∀ i : Nat, (i : Int) < (if b = t.toNat then tA (v.2.1 t.toNat) p s else v.2.1 b) 0 1 → isPo (v.1 ((if b = t.toNat then tA (v.2.1 t.toNat) p s else v.2.1 b) 0 0).toNat) ((if b = t.toNat then tA (v.2.1 t.toNat) p s else v.2.1 b) 1 i) ∧ 0 ≤ (if b = t.toNat then tA (v.2.1 t.toNat) p s else v.2.1 b) 2 i ∧ (if b = t.toNat then tA (v.2.1 t.toNat) p s else v.2.1 b) 2 i ≤ 9
    by_cases q : b = t.toNat
    · rw [if_pos q, tA_00, tA_01]
      have wt := hw.2.2.2.1 t.toNat (by omega)
      refine ⟨wt.1, wt.2.1, wt.2.2.1, by omega, by omega, fun i hi => ?_⟩
      rw [tA_1, tA_2]
      by_cases u : i = (v.2.1 t.toNat 0 1).toNat
      · rw [if_pos u, if_pos u]; exact ⟨o2, o3⟩
      · rw [if_neg u, if_neg u]; exact wt.2.2.2.2.2 i (by omega)
    · rw [if_neg q]; exact hw.2.2.2.1 b hb
  · rw [vif_f ok]; exact hw
theorem W_feed {a b d e f : Int} (hw : WF c v) : WF c (nFeed v a b d e f) := by
  unfold nFeed
  by_cases ok : v.2.2.1 2 ≤ 380
  · rw [vif_t ok]
    have w0 := hw.1
    refine ⟨?_, hw.2.1, hw.2.2.1, hw.2.2.2.1, fun i hi => ?_, hw.2.2.2.2.2⟩
    · show 0 ≤ v.2.2.1 0 ∧ v.2.2.1 0 ≤ 2 ∧ 0 ≤ v.2.2.1 1 ∧ v.2.2.1 1 ≤ 10 ∧ 0 ≤ v.2.2.1 2 + 20 ∧ v.2.2.1 2 + 20 ≤ 400 ∧ 0 ≤ v.2.2.1 5 ∧ v.2.2.1 5 ≤ 30
      omega
    · exact fedB_rg hw (show (i : Int) < v.2.2.1 2 + 20 from hi)
  · rw [vif_f ok]; exact hw
theorem W_clean (hw : WF c v) : WF c (setP v (fun _ => 0)) := ⟨hw.1, hw.2.1, hw.2.2.1, hw.2.2.2.1, hw.2.2.2.2.1, fun s _ => by show (0 : Int) ≤ 0 ∧ (0 : Int) ≤ 1080 * c; omega, hw.2.2.2.2.2.2⟩
theorem W_meet {a b : Int} (hw : WF c v) : WF c (nMeet v a b) := by
  unfold nMeet
  by_cases ok : okMeet v a b ∧ tMeet v a.toNat b.toNat < 1000000
  · rw [vif_t ok]
    obtain ⟨⟨o1, o2, o3⟩, o4⟩ := ok
    have ta := hw.2.2.2.1 a.toNat (by omega)
    have tb := hw.2.2.2.1 b.toNat (by omega)
    unfold tMeet at o4
    have r := MT_rg (n := (v.2.1 a.toNat 0 1).toNat) (m := (v.2.1 b.toNat 0 1).toNat) (tc := tcc v a.toNat b.toNat) 0 0
    have r2 := r.2 (by omega)
    have w1' := hw.2.1
    refine ⟨hw.1, ?_, hw.2.2.1, hw.2.2.2.1, hw.2.2.2.2⟩
    show 0 ≤ v.2.2.1 3 ∧ v.2.2.1 3 ≤ 5 ∧ -1 ≤ v.2.2.1 4 ∧ v.2.2.1 4 ≤ 400 ∧ -1 ≤ v.2.2.1 6 ∧ v.2.2.1 6 ≤ 40 ∧ -1 ≤ v.2.2.1 7 ∧ v.2.2.1 7 ≤ 1000000 ∧ 0 ≤ tMeet v a.toNat b.toNat + 1 ∧ tMeet v a.toNat b.toNat + 1 ≤ 80
    unfold tMeet
    omega
  · rw [vif_f ok]; exact hw
end WFS
