/-! the law's world at its entry: all that stands outside -/
section STE
variable {s : State} {args : Array Value} {A : Nat → Prop}
set_option maxRecDepth 20000 in
theorem st_Zs (hts : ∀ w ∈ lw_tbl, w.before args s = true) (hg : (Jvm.Cond.and given_1 narrow_1).before args s = true) (hA : ∀ a : Nat, a < s.heap.size → ¬ A a) : ∃ t : Nat, va_Z "jdk/internal/util/Preconditions" "SIOOBE_FORMATTER" "Ljava/util/function/BiFunction;" .null A s s.heap ∨ va_Z "jdk/internal/util/Preconditions" "SIOOBE_FORMATTER" "Ljava/util/function/BiFunction;" (.ref t) A s s.heap := by
  have hs := flat_of_before _ hg
  have h := hs (Cond.isRef (.static "jdk/internal/util/Preconditions" "SIOOBE_FORMATTER" "Ljava/util/function/BiFunction;")) (by decide +kernel)
  rcases va_Zqof (A := A) (hts (Cond.laysStatic "jdk/internal/util/Preconditions" "SIOOBE_FORMATTER" "Ljava/util/function/BiFunction;") (by decide +kernel)) (hts _ (by decide +kernel)) h hA with hr | ⟨t, hr⟩
  · exact ⟨0, Or.inl hr⟩
  · exact ⟨t, Or.inr hr⟩
set_option maxRecDepth 20000 in
theorem st_AO (hts : ∀ w ∈ lw_tbl, w.before args s = true) : (Cond.arrayOver (.object "LedArms$Arm")).before args s = true ∧ (Cond.arrayOver (.object "LedArms$Tape")).before args s = true := ⟨hts _ (by decide +kernel), hts _ (by decide +kernel)⟩
def adS (b tF tX : Nat) (adK adV : Nat → Nat) (k : Nat) : Nat := if k = 3000000 then b else if k = 2000001 then tF else if k = 2000000 then tX else if 1100000 ≤ k then adV (k - 1100000) else adK (k - 1000000)
theorem st_Stc (b : Nat) (hts : ∀ w ∈ lw_tbl, w.before args s = true) (hg : (Jvm.Cond.and given_1 narrow_1).before args s = true) (hA : ∀ a : Nat, a < s.heap.size → ¬ A a) : ∃ ad : Nat → Nat, Stc ad A s s.heap ∧ ad 3000000 = b := by
  obtain ⟨tX, x1, x2⟩ := st_X (A := A) hts hg hA
  obtain ⟨adK, adV, q1, q2⟩ := st_S (A := A) hts hg hA
  obtain ⟨tF, z⟩ := st_Zs (A := A) hts hg hA
  obtain ⟨o1, o2⟩ := st_AO hts
  have k1 : ∀ i, i < 10 → adS b tF tX adK adV (1000000 + i) = adK i := fun i hi => by
    unfold adS
    rw [if_neg (by omega), if_neg (by omega), if_neg (by omega), if_neg (by omega), Nat.add_sub_cancel_left]
  have k2 : ∀ i, i < 10 → adS b tF tX adK adV (1100000 + i) = adV i := fun i hi => by
    unfold adS
    rw [if_neg (by omega), if_neg (by omega), if_neg (by omega), if_pos (by omega), Nat.add_sub_cancel_left]
  refine ⟨adS b tF tX adK adV, ⟨x1, x2, st_cs hts hg hA, ⟨fun i hi => ?_, fun i j hi hj e => q1.2 i j hi hj ?_⟩, fun i q hq => ?_, fun w hw => va_Nw.of (gn_tab hw) (hts w (List.mem_filter.mp hw).1), va_AO.of o1, va_AO.of o2, z⟩, rfl⟩
  · have := q1.1 i hi
    dsimp only
    rw [k1 i hi, k2 i hi]; exact this
  · dsimp only at e
    rw [k1 i hi, k1 j hj] at e; exact e
  · rw [k1 i (List.getElem?_eq_some_iff.mp hq).1]; exact q2 i q hq
/-- the world at the law's entry -/
theorem st_Wd (b : Nat) (hts : ∀ w ∈ lw_tbl, w.before args s = true) (hg : (Jvm.Cond.and given_1 narrow_1).before args s = true) : ∃ (D : va_G) (ca : Nat → ClassId) (ad : Nat → Nat), Wd D ca ad (fun q => s.heap.size ≤ q) s s.heap [] (SgL 0 [] []) ∧ ad 3000000 = b := by
  obtain ⟨ad, h1, h2⟩ := st_Stc (A := fun q => s.heap.size ≤ q) b hts hg (fun a ha h => by have h : s.heap.size ≤ a := h; omega)
  obtain ⟨o1, o2⟩ := st_AO hts
  obtain ⟨D, ca, h3⟩ := st_K (fun w hw => hts w (List.mem_filter.mp hw).1) o1 o2
  refine ⟨D, ca, ad, ⟨h3, fun k q hq => ?_, ⟨fun i j p q hp => ?_, fun k q hq => ?_⟩, va_S.rf, fun q h => h, h1, fun a b => Nat.le_refl _⟩, h2⟩
  · exact absurd hq (by show ¬ ([] : va_W)[k]? = some q; simp)
  · exact absurd hp (by show ¬ ([] : va_W)[i]? = some p; simp)
  · exact absurd hq (by show ¬ ([] : va_W)[k]? = some q; simp)
end STE
