/-! the reference, and what the two constructors leave -/
section INI3
variable {l : Launch} {K : Sg → Prop} {n r k x : Nat} {y : Int32} {ps : List (Nat × Nat × Nat)} {is : List (Nat × Nat × Int32)}
set_option maxRecDepth 20000 in
set_option maxHeartbeats 1000000 in
theorem i_X12 (hK : K (SgL 118 [(82, 61, 118), (82, 60, 117), (82, 56, 116), (82, 55, 115), (82, 53, 114), (82, 52, 113), (82, 51, 112), (82, 50, 111), (82, 49, 110), (82, 47, 109), (82, 46, 108), (82, 45, 107), (82, 44, 106), (82, 43, 105), (82, 38, 104), (82, 35, 103), (82, 34, 102), (82, 32, 101), (82, 31, 100), (82, 20, 99), (82, 19, 98), (82, 18, 97), (82, 17, 96), (82, 15, 95), (82, 14, 94), (82, 13, 93), (82, 12, 92), (82, 11, 91), (82, 10, 90), (82, 9, 89), (82, 8, 88), (82, 7, 87), (82, 6, 86), (82, 5, 85), (82, 3, 84), (82, 1, 83), (1, 7, 74), (74, 6, 81), (74, 5, 80), (74, 4, 79), (74, 3, 78), (74, 2, 77), (74, 1, 76), (74, 0, 75), (1, 6, 69), (69, 3, 73), (69, 2, 72), (69, 1, 71), (69, 0, 70), (1, 5, 62), (62, 5, 68), (62, 4, 67), (62, 3, 66), (62, 2, 65), (62, 1, 64), (62, 0, 63), (1, 4, 60), (60, 0, 61), (1, 3, 57), (57, 1, 59), (57, 0, 58), (1, 1, 45), (1, 0, 2), (1, 2, 50), (50, 3, 54), (54, 1, 56), (54, 0, 55), (50, 2, 51), (51, 1, 53), (51, 0, 52), (50, 1, 45), (45, 3, 49), (45, 2, 48), (45, 1, 47), (45, 0, 46), (50, 0, 2), (4, 9, 42), (42, 1, 44), (42, 0, 43), (4, 8, 39), (39, 1, 41), (39, 0, 40), (4, 7, 36), (36, 1, 38), (36, 0, 37), (4, 6, 33), (33, 1, 35), (33, 0, 34), (4, 5, 30), (30, 1, 32), (30, 0, 31), (4, 4, 27), (27, 1, 29), (27, 0, 28), (4, 3, 24), (24, 1, 26), (24, 0, 25), (4, 2, 21), (21, 1, 23), (21, 0, 22), (4, 1, 18), (18, 1, 20), (18, 0, 19), (4, 0, 15), (15, 1, 17), (15, 0, 16), (3, 1, 10), (10, 3, 14), (10, 2, 13), (10, 1, 12), (10, 0, 11), (3, 0, 5), (5, 3, 9), (5, 2, 8), (5, 1, 7), (5, 0, 6), (2, 1, 4), (2, 0, 3)] [(82, 41, (-1)), (82, 40, (-1)), (82, 39, 10), (82, 30, (-1)), (84, 15, 924), (84, 14, 707), (84, 13, 383), (84, 12, 0), (84, 11, (-383)), (84, 10, (-707)), (84, 9, (-924)), (84, 8, (-1000)), (84, 7, (-924)), (84, 6, (-707)), (84, 5, (-383)), (84, 4, 0), (84, 3, 383), (84, 2, 707), (84, 1, 924), (84, 0, 1000), (1, 11, (-1)), (1, 10, (-1)), (1, 9, 10), (50, 7, (-1))])) : Con l mX12_init [.inr 82] (SgL 82 [(1, 7, 74), (74, 6, 81), (74, 5, 80), (74, 4, 79), (74, 3, 78), (74, 2, 77), (74, 1, 76), (74, 0, 75), (1, 6, 69), (69, 3, 73), (69, 2, 72), (69, 1, 71), (69, 0, 70), (1, 5, 62), (62, 5, 68), (62, 4, 67), (62, 3, 66), (62, 2, 65), (62, 1, 64), (62, 0, 63), (1, 4, 60), (60, 0, 61), (1, 3, 57), (57, 1, 59), (57, 0, 58), (1, 1, 45), (1, 0, 2), (1, 2, 50), (50, 3, 54), (54, 1, 56), (54, 0, 55), (50, 2, 51), (51, 1, 53), (51, 0, 52), (50, 1, 45), (45, 3, 49), (45, 2, 48), (45, 1, 47), (45, 0, 46), (50, 0, 2), (4, 9, 42), (42, 1, 44), (42, 0, 43), (4, 8, 39), (39, 1, 41), (39, 0, 40), (4, 7, 36), (36, 1, 38), (36, 0, 37), (4, 6, 33), (33, 1, 35), (33, 0, 34), (4, 5, 30), (30, 1, 32), (30, 0, 31), (4, 4, 27), (27, 1, 29), (27, 0, 28), (4, 3, 24), (24, 1, 26), (24, 0, 25), (4, 2, 21), (21, 1, 23), (21, 0, 22), (4, 1, 18), (18, 1, 20), (18, 0, 19), (4, 0, 15), (15, 1, 17), (15, 0, 16), (3, 1, 10), (10, 3, 14), (10, 2, 13), (10, 1, 12), (10, 0, 11), (3, 0, 5), (5, 3, 9), (5, 2, 8), (5, 1, 7), (5, 0, 6), (2, 1, 4), (2, 0, 3)] [(1, 11, (-1)), (1, 10, (-1)), (1, 9, 10), (50, 7, (-1))]) (PV K) := by
  refine eX12_init (chO (n := 82) (by decide) (by decide) (by decide) (by decide) (by decide) (by decide) (by decide) ?_)
  refine ⟨by decide, by decide, fun x8 σ8 e1 e2 => ?_⟩
  have e1 : x8 = 84 := e1
  have e2 : σ8 = SgL 84 [(82, 1, 83), (1, 7, 74), (74, 6, 81), (74, 5, 80), (74, 4, 79), (74, 3, 78), (74, 2, 77), (74, 1, 76), (74, 0, 75), (1, 6, 69), (69, 3, 73), (69, 2, 72), (69, 1, 71), (69, 0, 70), (1, 5, 62), (62, 5, 68), (62, 4, 67), (62, 3, 66), (62, 2, 65), (62, 1, 64), (62, 0, 63), (1, 4, 60), (60, 0, 61), (1, 3, 57), (57, 1, 59), (57, 0, 58), (1, 1, 45), (1, 0, 2), (1, 2, 50), (50, 3, 54), (54, 1, 56), (54, 0, 55), (50, 2, 51), (51, 1, 53), (51, 0, 52), (50, 1, 45), (45, 3, 49), (45, 2, 48), (45, 1, 47), (45, 0, 46), (50, 0, 2), (4, 9, 42), (42, 1, 44), (42, 0, 43), (4, 8, 39), (39, 1, 41), (39, 0, 40), (4, 7, 36), (36, 1, 38), (36, 0, 37), (4, 6, 33), (33, 1, 35), (33, 0, 34), (4, 5, 30), (30, 1, 32), (30, 0, 31), (4, 4, 27), (27, 1, 29), (27, 0, 28), (4, 3, 24), (24, 1, 26), (24, 0, 25), (4, 2, 21), (21, 1, 23), (21, 0, 22), (4, 1, 18), (18, 1, 20), (18, 0, 19), (4, 0, 15), (15, 1, 17), (15, 0, 16), (3, 1, 10), (10, 3, 14), (10, 2, 13), (10, 1, 12), (10, 0, 11), (3, 0, 5), (5, 3, 9), (5, 2, 8), (5, 1, 7), (5, 0, 6), (2, 1, 4), (2, 0, 3)] [(1, 11, (-1)), (1, 10, (-1)), (1, 9, 10), (50, 7, (-1))] := e2.trans (nw_SgL (by decide) (by decide))
  rw [e1, e2]
  refine ⟨⟨by decide, by decide, by decide, (I_in (z := 0) ⟨by decide, by decide⟩).mpr ⟨by decide, by decide⟩⟩, w1S (k := 0) ?_⟩
  refine ⟨⟨by decide, by decide, by decide, (I_in (z := 1) ⟨by decide, by decide⟩).mpr ⟨by decide, by decide⟩⟩, w1S (k := 1) ?_⟩
  refine ⟨⟨by decide, by decide, by decide, (I_in (z := 2) ⟨by decide, by decide⟩).mpr ⟨by decide, by decide⟩⟩, w1S (k := 2) ?_⟩
  refine ⟨⟨by decide, by decide, by decide, (I_in (z := 3) ⟨by decide, by decide⟩).mpr ⟨by decide, by decide⟩⟩, w1S (k := 3) ?_⟩
  refine ⟨⟨by decide, by decide, by decide, (I_in (z := 4) ⟨by decide, by decide⟩).mpr ⟨by decide, by decide⟩⟩, w1S (k := 4) ?_⟩
  refine ⟨⟨by decide, by decide, by decide, (I_in (z := 5) ⟨by decide, by decide⟩).mpr ⟨by decide, by decide⟩⟩, w1S (k := 5) ?_⟩
  refine ⟨⟨by decide, by decide, by decide, (I_in (z := 6) ⟨by decide, by decide⟩).mpr ⟨by decide, by decide⟩⟩, w1S (k := 6) ?_⟩
  refine ⟨⟨by decide, by decide, by decide, (I_in (z := 7) ⟨by decide, by decide⟩).mpr ⟨by decide, by decide⟩⟩, w1S (k := 7) ?_⟩
  refine ⟨⟨by decide, by decide, by decide, (I_in (z := 8) ⟨by decide, by decide⟩).mpr ⟨by decide, by decide⟩⟩, w1S (k := 8) ?_⟩
  refine ⟨⟨by decide, by decide, by decide, (I_in (z := 9) ⟨by decide, by decide⟩).mpr ⟨by decide, by decide⟩⟩, w1S (k := 9) ?_⟩
  refine ⟨⟨by decide, by decide, by decide, (I_in (z := 10) ⟨by decide, by decide⟩).mpr ⟨by decide, by decide⟩⟩, w1S (k := 10) ?_⟩
  refine ⟨⟨by decide, by decide, by decide, (I_in (z := 11) ⟨by decide, by decide⟩).mpr ⟨by decide, by decide⟩⟩, w1S (k := 11) ?_⟩
  refine ⟨⟨by decide, by decide, by decide, (I_in (z := 12) ⟨by decide, by decide⟩).mpr ⟨by decide, by decide⟩⟩, w1S (k := 12) ?_⟩
  refine ⟨⟨by decide, by decide, by decide, (I_in (z := 13) ⟨by decide, by decide⟩).mpr ⟨by decide, by decide⟩⟩, w1S (k := 13) ?_⟩
  refine ⟨⟨by decide, by decide, by decide, (I_in (z := 14) ⟨by decide, by decide⟩).mpr ⟨by decide, by decide⟩⟩, w1S (k := 14) ?_⟩
  refine ⟨⟨by decide, by decide, by decide, (I_in (z := 15) ⟨by decide, by decide⟩).mpr ⟨by decide, by decide⟩⟩, w1S (k := 15) ?_⟩
  refine ⟨by decide, w2S ?_⟩
  refine chA (n := 84) (by decide) (by decide) (by decide) (by decide) ?_
  refine chA (n := 85) (by decide) (by decide) (by decide) (by decide) ?_
  refine chA (n := 86) (by decide) (by decide) (by decide) (by decide) ?_
  refine chA (n := 87) (by decide) (by decide) (by decide) (by decide) ?_
  refine chA (n := 88) (by decide) (by decide) (by decide) (by decide) ?_
  refine chA (n := 89) (by decide) (by decide) (by decide) (by decide) ?_
  refine chA (n := 90) (by decide) (by decide) (by decide) (by decide) ?_
  refine chA (n := 91) (by decide) (by decide) (by decide) (by decide) ?_
  refine chA (n := 92) (by decide) (by decide) (by decide) (by decide) ?_
  refine chA (n := 93) (by decide) (by decide) (by decide) (by decide) ?_
  refine chA (n := 94) (by decide) (by decide) (by decide) (by decide) ?_
  refine chA (n := 95) (by decide) (by decide) (by decide) (by decide) ?_
  refine chA (n := 96) (by decide) (by decide) (by decide) (by decide) ?_
  refine chA (n := 97) (by decide) (by decide) (by decide) (by decide) ?_
  refine chA (n := 98) (by decide) (by decide) (by decide) (by decide) ?_
  refine w1S ?_
  refine chA (n := 99) (by decide) (by decide) (by decide) (by decide) ?_
  refine chA (n := 100) (by decide) (by decide) (by decide) (by decide) ?_
  refine chA (n := 101) (by decide) (by decide) (by decide) (by decide) ?_
  refine chA (n := 102) (by decide) (by decide) (by decide) (by decide) ?_
  refine chA (n := 103) (by decide) (by decide) (by decide) (by decide) ?_
  refine w1S ?_
  refine w1S ?_
  refine w1S ?_
  refine chA (n := 104) (by decide) (by decide) (by decide) (by decide) ?_
  refine chA (n := 105) (by decide) (by decide) (by decide) (by decide) ?_
  refine chA (n := 106) (by decide) (by decide) (by decide) (by decide) ?_
  refine chA (n := 107) (by decide) (by decide) (by decide) (by decide) ?_
  refine chA (n := 108) (by decide) (by decide) (by decide) (by decide) ?_
  refine chA (n := 109) (by decide) (by decide) (by decide) (by decide) ?_
  refine chA (n := 110) (by decide) (by decide) (by decide) (by decide) ?_
  refine chA (n := 111) (by decide) (by decide) (by decide) (by decide) ?_
  refine chA (n := 112) (by decide) (by decide) (by decide) (by decide) ?_
  refine chA (n := 113) (by decide) (by decide) (by decide) (by decide) ?_
  refine chA (n := 114) (by decide) (by decide) (by decide) (by decide) ?_
  refine chA (n := 115) (by decide) (by decide) (by decide) (by decide) ?_
  refine chA (n := 116) (by decide) (by decide) (by decide) (by decide) ?_
  refine chA (n := 117) (by decide) (by decide) (by decide) (by decide) ?_
  exact hK
def psI : List (Nat × Nat × Nat) := [(82, 61, 118), (82, 60, 117), (82, 56, 116), (82, 55, 115), (82, 53, 114), (82, 52, 113), (82, 51, 112), (82, 50, 111), (82, 49, 110), (82, 47, 109), (82, 46, 108), (82, 45, 107), (82, 44, 106), (82, 43, 105), (82, 38, 104), (82, 35, 103), (82, 34, 102), (82, 32, 101), (82, 31, 100), (82, 20, 99), (82, 19, 98), (82, 18, 97), (82, 17, 96), (82, 15, 95), (82, 14, 94), (82, 13, 93), (82, 12, 92), (82, 11, 91), (82, 10, 90), (82, 9, 89), (82, 8, 88), (82, 7, 87), (82, 6, 86), (82, 5, 85), (82, 3, 84), (82, 1, 83), (1, 7, 74), (74, 6, 81), (74, 5, 80), (74, 4, 79), (74, 3, 78), (74, 2, 77), (74, 1, 76), (74, 0, 75), (1, 6, 69), (69, 3, 73), (69, 2, 72), (69, 1, 71), (69, 0, 70), (1, 5, 62), (62, 5, 68), (62, 4, 67), (62, 3, 66), (62, 2, 65), (62, 1, 64), (62, 0, 63), (1, 4, 60), (60, 0, 61), (1, 3, 57), (57, 1, 59), (57, 0, 58), (1, 1, 45), (1, 0, 2), (1, 2, 50), (50, 3, 54), (54, 1, 56), (54, 0, 55), (50, 2, 51), (51, 1, 53), (51, 0, 52), (50, 1, 45), (45, 3, 49), (45, 2, 48), (45, 1, 47), (45, 0, 46), (50, 0, 2), (4, 9, 42), (42, 1, 44), (42, 0, 43), (4, 8, 39), (39, 1, 41), (39, 0, 40), (4, 7, 36), (36, 1, 38), (36, 0, 37), (4, 6, 33), (33, 1, 35), (33, 0, 34), (4, 5, 30), (30, 1, 32), (30, 0, 31), (4, 4, 27), (27, 1, 29), (27, 0, 28), (4, 3, 24), (24, 1, 26), (24, 0, 25), (4, 2, 21), (21, 1, 23), (21, 0, 22), (4, 1, 18), (18, 1, 20), (18, 0, 19), (4, 0, 15), (15, 1, 17), (15, 0, 16), (3, 1, 10), (10, 3, 14), (10, 2, 13), (10, 1, 12), (10, 0, 11), (3, 0, 5), (5, 3, 9), (5, 2, 8), (5, 1, 7), (5, 0, 6), (2, 1, 4), (2, 0, 3)]
def isI : List (Nat × Nat × Int32) := [(82, 41, (-1)), (82, 40, (-1)), (82, 39, 10), (82, 30, (-1)), (84, 15, 924), (84, 14, 707), (84, 13, 383), (84, 12, 0), (84, 11, (-383)), (84, 10, (-707)), (84, 9, (-924)), (84, 8, (-1000)), (84, 7, (-924)), (84, 6, (-707)), (84, 5, (-383)), (84, 4, 0), (84, 3, 383), (84, 2, 707), (84, 1, 924), (84, 0, 1000), (1, 11, (-1)), (1, 10, (-1)), (1, 9, 10), (50, 7, (-1))]
/-- the state at the beginning -/
def v00 : Vt := (fun _ _ _ => 0, fun _ _ _ => 0, fun k => if k = 5 then 10 else if k = 4 then -1 else if k = 6 then -1 else if k = 7 then -1 else 0, fun _ _ => 0)
theorem lkI_ne {a b : Nat} : ∀ {is : List (Nat × Nat × Int32)}, (∀ q ∈ is, q.1 ≠ a) → lkI is a b = 0 := by
  intro is
  induction is with
  | nil => intro _; rfl
  | cons q is ih =>
    intro h
    show (if a = q.1 ∧ b = q.2.1 then q.2.2 else lkI is a b) = 0
    rw [if_neg (fun z => h q List.mem_cons_self z.1.symm)]
    exact ih (fun r hr => h r (List.mem_cons_of_mem _ hr))
theorem v00_wf : WF 0 v00 := by
  refine ⟨by decide, by decide, fun a ha => ⟨⟨by show (0 : Int) ≤ 0 ∧ (0 : Int) ≤ 20 ∧ (0 : Int) ≤ 0 ∧ (0 : Int) ≤ 20 ∧ (0 : Int) ≤ 0 ∧ (0 : Int) ≤ 3; decide, fun j _ => by show (0 : Int) ≤ 0 ∧ (0 : Int) ≤ 6 ∧ (0 : Int) ≤ 0 ∧ (0 : Int) ≤ 0 ∧ (0 : Int) ≤ 15 ∧ (0 : Int) ≤ 0 ∧ (0 : Int) ≤ 3; decide, fun j _ q => ?_, fun j _ _ => ⟨rfl, rfl, rfl, rfl⟩, by show (0 : Int) ≤ 0 ∧ (0 : Int) ≤ 2 ∧ (0 : Int) ≤ 0 ∧ (0 : Int) ≤ 1 ∧ (0 : Int) ≤ 0 ∧ (0 : Int) ≤ 3 ∧ (0 : Int) ≤ 0 ∧ (0 : Int) ≤ 39; decide⟩, fun _ => rfl⟩, fun t ht => ?_, fun i hi => ?_, fun s _ => ⟨Int.le_refl 0, Int.le_refl 0⟩, by omega⟩
  · have q : (j : Int) < 0 := q; omega
  · have q : (t : Int) < 0 := ht; omega
  · have q : (i : Int) < 0 := hi; omega
theorem z00 {a b : Nat} (h : ∀ q ∈ isI, q.1 ≠ a) : (SgL 119 psI isI).2.1 a b = 0 := lkI_ne h
set_option maxRecDepth 20000 in
theorem CR_00 : CR (SgL 119 psI isI) v00 := by
  refine ⟨⟨by decide, by decide⟩, Or.inl ⟨by decide, rfl⟩, ⟨by decide, fun a ha => ?_⟩, ⟨by decide, by decide, fun t ht => ?_, ⟨by decide, by decide, by decide⟩, ⟨by decide, by decide, by decide⟩, fun t ht => ?_⟩, ⟨by decide, fun i hi => ?_, by decide, by decide⟩, ⟨fun s _ => z00 (by decide), by decide, by decide, by decide, by decide, fun k hk => ?_⟩⟩
  · have ha : a = 0 ∨ a = 1 := by omega
    rcases ha with rfl | rfl
    · have q : ∀ k, k < 4 → ∀ q ∈ isI, q.1 ≠ 5 + 5 * 0 + 1 + k := by decide
      exact ⟨⟨by decide, by decide, by decide⟩, by decide, fun k j hk _ => z00 (q k hk), by decide, by decide⟩
    · have q : ∀ k, k < 4 → ∀ q ∈ isI, q.1 ≠ 5 + 5 * 1 + 1 + k := by decide
      exact ⟨⟨by decide, by decide, by decide⟩, by decide, fun k j hk _ => z00 (q k hk), by decide, by decide⟩
  · have : ∀ t, t < 10 → ((15 + 3 * t ≠ 0 ∧ (shp (15 + 3 * t)).1 = 9 ∧ 15 + 3 * t + 2 ≤ 119) ∧ (lkN psI (15 + 3 * t) 0 = 15 + 3 * t + 1 ∧ shp (15 + 3 * t + 1) = (13, 40)) ∧ lkN psI (15 + 3 * t) 1 = 15 + 3 * t + 2 ∧ shp (15 + 3 * t + 2) = (13, 40)) := by decide
    exact this t ht
  · have q : (t : Int) < 0 := ht; omega
  · have q : (i : Int) < 0 := hi; omega
  · have q : (k : Int) < 0 := hk; omega
set_option maxRecDepth 20000 in
theorem MR_00 : MR (SgL 119 psI isI) v00 := by
  refine ⟨⟨by decide, by decide⟩, ⟨by decide, by decide, fun a ha => ?_⟩, ⟨by decide, fun t ht => ?_⟩, ⟨by decide, fun i hi => ?_, by decide, by decide⟩, ⟨fun s _ => z00 (by decide), by decide, by decide, by decide, by decide, fun k hk => ?_⟩⟩
  · exact ⟨⟨z00 (by decide), z00 (by decide), z00 (by decide)⟩, fun j _ => ⟨z00 (by decide), z00 (by decide), z00 (by decide), z00 (by decide)⟩, z00 (by decide), z00 (by decide), z00 (by decide), z00 (by decide)⟩
  · have q : (t : Int) < 0 := ht; omega
  · have q : (i : Int) < 0 := hi; omega
  · have q : (k : Int) < 0 := hk; omega
end INI3
