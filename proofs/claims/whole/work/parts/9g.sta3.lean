/-! the law's world at its entry: the row X, and COMPACT_STRINGS -/
section STC
variable {s : State} {args : Array Value} {A : Nat → Prop}
set_option maxRecDepth 20000 in
theorem st_X (hts : ∀ w ∈ lw_tbl, w.before args s = true) (hg : (Jvm.Cond.and given_1 narrow_1).before args s = true) (hA : ∀ a : Nat, a < s.heap.size → ¬ A a) : ∃ t : Nat, va_Z "LedArms" "X" "[I" (.ref t) A s s.heap ∧ va_T .int t 16 (fun j => .int (xtab.getD j 0)) A s s.heap := by
  have hs := flat_of_before _ hg
  have hel : ∀ j : Nat, j < 16 → (Term.elem (.static "LedArms" "X" "[I") (.int (Int32.ofNat j))).eval args s none [] s = some (.int (xtab.getD j 0)) := fun j hj => by
    have h : j = 0 ∨ j = 1 ∨ j = 2 ∨ j = 3 ∨ j = 4 ∨ j = 5 ∨ j = 6 ∨ j = 7 ∨ j = 8 ∨ j = 9 ∨ j = 10 ∨ j = 11 ∨ j = 12 ∨ j = 13 ∨ j = 14 ∨ j = 15 := by omega
    rcases h with rfl | rfl | rfl | rfl | rfl | rfl | rfl | rfl | rfl | rfl | rfl | rfl | rfl | rfl | rfl | rfl
    all_goals exact va_eqt (hs _ (by decide +kernel))
  obtain ⟨t, h1, h2⟩ := va_Tof (N := 16) (ty := .int) (f := fun j => .int (xtab.getD j 0)) (A := A) (by decide) (hs (Cond.arrayOf (.static "LedArms" "X" "[I") .int) (by decide +kernel)) (va_eqt (hs (Cond.eq (.length (.static "LedArms" "X" "[I")) (.int (Int32.ofNat 16))) (by decide +kernel))) hel hA
  exact ⟨t, va_Zref (hts _ (by decide +kernel)) (hts _ (by decide +kernel)) h1 hA, h2⟩
set_option maxRecDepth 20000 in
theorem st_cs (hts : ∀ w ∈ lw_tbl, w.before args s = true) (hg : (Jvm.Cond.and given_1 narrow_1).before args s = true) (hA : ∀ a : Nat, a < s.heap.size → ¬ A a) : va_Z "java/lang/String" "COMPACT_STRINGS" "Z" (.int 1) A s s.heap := by
  have hs := flat_of_before _ hg
  exact va_Zof (hts _ (by decide +kernel)) (hts _ (by decide +kernel)) (va_eqt (hs (Cond.eq (.static "java/lang/String" "COMPACT_STRINGS" "Z") (.int 1)) (by decide +kernel))) hA
end STC
