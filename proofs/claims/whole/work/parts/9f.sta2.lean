/-! the law's world at its entry: the classes of the arrays -/
section STB
variable {s : State} {args : Array Value}
theorem st_arr {ty : FieldType} (h : (Cond.arrayClass ty).before args s = true) (hr : ∀ cA : ClassId, s.vm.findClass ("[" ++ ty.toString) = some cA → va_RA s cA ty) : ∃ cA : ClassId, ArrOfT s cA ty ∧ va_RA s cA ty := by
  obtain ⟨cA, kA, comp, h1, h2, h3⟩ := Cond.arrayClass_spec h
  exact ⟨cA, fun n z => ⟨fun k h => (by cases h), kA, h2, comp, h3⟩, hr cA h1⟩
theorem st_ref {C : String} (h : (Cond.arrayOver (.object C)).before args s = true) : ∃ cA : ClassId, ArrOfT s cA (.object C) ∧ va_RA s cA (.object C) := by
  obtain ⟨comp, cA, kA, h1, _, h2, h3, h4⟩ := Cond.arrayOver_spec h
  exact ⟨cA, fun n z => ⟨fun k h => (by cases h), kA, h2, comp, h3⟩, kA, comp, h2, h3, h1, h4⟩
theorem st_K (hts : ∀ w ∈ gt, w.before args s = true) (hA : (Cond.arrayOver (.object "LedArms$Arm")).before args s = true) (hT : (Cond.arrayOver (.object "LedArms$Tape")).before args s = true) : ∃ (D : va_G) (ca : Nat → ClassId), va_K D vcl (tys ca) s := by
  obtain ⟨D, hD⟩ := st_cl hts
  obtain ⟨c1, a1, b1⟩ := st_arr (hts _ ac_int) (fun cA h => h)
  obtain ⟨c2, a2, b2⟩ := st_arr (hts _ ac_boolean) (fun cA h => h)
  obtain ⟨c3, a3, b3⟩ := st_ref hA
  obtain ⟨c4, a4, b4⟩ := st_ref hT
  obtain ⟨c5, a5, b5⟩ := st_arr (hts _ ac_long) (fun cA h => h)
  refine ⟨D, fun k => if k = 13 then c1 else if k = 14 then c2 else if k = 15 then c3 else if k = 16 then c4 else c5, hD, fun k q hq => ?_⟩
  match k, hq with
  | 0, hq => obtain rfl := Option.some.inj hq; exact ⟨a1, b1⟩
  | 1, hq => obtain rfl := Option.some.inj hq; exact ⟨a2, b2⟩
  | 2, hq => obtain rfl := Option.some.inj hq; exact ⟨a3, b3⟩
  | 3, hq => obtain rfl := Option.some.inj hq; exact ⟨a4, b4⟩
  | 4, hq => obtain rfl := Option.some.inj hq; exact ⟨a5, b5⟩
  | k + 5, hq =>
    rw [List.getElem?_eq_none (by show 5 ≤ k + 5; omega)] at hq
    exact absurd hq (by simp)
end STB
