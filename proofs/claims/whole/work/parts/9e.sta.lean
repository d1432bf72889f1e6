/-! the law's world at its entry -/
section STA
variable {s : State} {args : Array Value}
theorem st_cl (hts : ∀ w ∈ gt, w.before args s = true) : ∃ D : va_G, ∀ (c : Nat) (q : vw_C), vcl[c]? = some q → u_Kn s q.1 q.2.1 q.2.2 (D.1 c) (D.2 c) := by
  have E : ∀ {ci : Nat} {C : String} {T : u_T} {N : Nat} {ty : Nat → FieldType}, CI ci C T N ty → Cond.instantiable C N ∈ gt → ∃ d : ClassId × (Nat → Nat), ∀ q, vcl[ci]? = some q → u_Kn s q.1 q.2.1 q.2.2 d.1 d.2 := by
    intro ci C T N ty hc hi
    obtain ⟨cC, iS, h⟩ := u_known hts hc.2.1 (hts _ hi)
    refine ⟨(cC, iS), fun q hq => ?_⟩
    obtain rfl := Option.some.inj (hc.1.symm.trans hq)
    exact h
  have F : ∀ c : Nat, ∃ d : ClassId × (Nat → Nat), ∀ q, vcl[c]? = some q → u_Kn s q.1 q.2.1 q.2.2 d.1 d.2 := fun c => by
    match c with
    | 0 => exact E ci0 it_X0
    | 1 => exact E ci1 it_X1
    | 2 => exact E ci2 it_X2
    | 3 => exact E ci3 it_X3
    | 4 => exact E ci4 it_X4
    | 5 => exact E ci5 it_X5
    | 6 => exact E ci6 it_X6
    | 7 => exact E ci7 it_X7
    | 8 => exact E ci8 it_X8
    | 9 => exact E ci9 it_X9
    | 10 => exact E ci10 it_X10
    | 11 => exact E ci11 it_X11
    | 12 => exact E ci12 it_X12
    | c + 13 =>
      obtain ⟨d, _⟩ := E ci0 it_X0
      exact ⟨d, fun q h => by
        have : vcl.length ≤ c + 13 := by rw [show vcl.length = 13 from rfl]; omega
        rw [List.getElem?_eq_none this] at h
        exact absurd h (by simp)⟩
  obtain ⟨f, hf⟩ := Classical.axiomOfChoice F
  exact ⟨(fun c => (f c).1, fun c => (f c).2), fun c q hq => hf c q hq⟩
end STA
