/-! the law's world at its entry: the texts -/
section STD
variable {s : State} {args : Array Value} {A : Nat → Prop}
def tmS4 (i : Nat) : Term := .string (sref.getD i ("", 0, "")).1 (sref.getD i ("", 0, "")).2.1
set_option maxRecDepth 100000 in
set_option maxHeartbeats 4000000 in
theorem st_S (hts : ∀ w ∈ lw_tbl, w.before args s = true) (hg : (Jvm.Cond.and given_1 narrow_1).before args s = true) (hA : ∀ a : Nat, a < s.heap.size → ¬ A a) : ∃ adK adV : Nat → Nat, vk_S 10 slen sbyt adK adV A s s.heap ∧ ∀ (i : Nat) (q : String × Nat × String), sref[i]? = some q → vk_R q.1 q.2.1 q.2.2 (adK i) s := by
  have hs := flat_of_before _ hg
  have h1 : ∀ i : Nat, i < 10 → (Cond.exactly (tmS4 i) "java/lang/String").before args s = true := fun i hi => hs _ ((by decide +kernel : ∀ i : Nat, i < 10 → Cond.exactly (tmS4 i) "java/lang/String" ∈ _) i hi)
  have h2 : ∀ i : Nat, i < 10 → (Cond.eq (.field (tmS4 i) "java/lang/String" "coder" "B") (.int 0)).before args s = true := fun i hi => hs _ ((by decide +kernel : ∀ i : Nat, i < 10 → Cond.eq (.field (tmS4 i) "java/lang/String" "coder" "B") (.int 0) ∈ _) i hi)
  have h3 : ∀ i : Nat, i < 10 → (Cond.arrayOf (.field (tmS4 i) "java/lang/String" "value" "[B") .byte).before args s = true := fun i hi => hs _ ((by decide +kernel : ∀ i : Nat, i < 10 → Cond.arrayOf (.field (tmS4 i) "java/lang/String" "value" "[B") .byte ∈ _) i hi)
  have h4 : ∀ i : Nat, i < 10 → (Cond.eq (.length (.field (tmS4 i) "java/lang/String" "value" "[B")) (.int (Int32.ofNat (slen.getD i 0)))).before args s = true := fun i hi => hs _ ((by decide +kernel : ∀ i : Nat, i < 10 → Cond.eq (.length (.field (tmS4 i) "java/lang/String" "value" "[B")) (.int (Int32.ofNat (slen.getD i 0))) ∈ _) i hi)
  have h5 : ∀ i : Nat, i < 10 → ∀ j : Nat, j < slen.getD i 0 → (Cond.eq (.elem (.field (tmS4 i) "java/lang/String" "value" "[B") (.int (Int32.ofNat j))) (.int ((sbyt.getD i []).getD j 0))).before args s = true := fun i hi j hj => hs _ ((by decide +kernel : ∀ i : Nat, i < 10 → ∀ j : Nat, j < slen.getD i 0 → Cond.eq (.elem (.field (tmS4 i) "java/lang/String" "value" "[B") (.int (Int32.ofNat j))) (.int ((sbyt.getD i []).getD j 0)) ∈ _) i hi j hj)
  have h6 : ∀ i j : Nat, i < 10 → j < 10 → i ≠ j → (Cond.not (Cond.eq (tmS4 i) (tmS4 j))).before args s = true ∨ (Cond.not (Cond.eq (tmS4 j) (tmS4 i))).before args s = true := fun i j hi hj hn => by
    exact ((by decide +kernel : ∀ i : Nat, i < 10 → ∀ j : Nat, j < 10 → i ≠ j → (Cond.not (Cond.eq (tmS4 i) (tmS4 j)) ∈ flatC (given_1.and narrow_1) ∨ Cond.not (Cond.eq (tmS4 j) (tmS4 i)) ∈ flatC (given_1.and narrow_1))) i hi j hj hn).elim (fun q => Or.inl (hs _ q)) (fun q => Or.inr (hs _ q))
  obtain ⟨adK, adV, hS, hE⟩ := vk_Sof (N := 10) (tm := tmS4) (len := slen) (byt := sbyt) (A := A) (by decide) h1 h2 h3 h4 h5 h6 hA
  refine ⟨adK, adV, hS, fun i q hq => ?_⟩
  have hi : i < 10 := (List.getElem?_eq_some_iff.mp hq).1
  have e : sref.getD i ("", 0, "") = q := by rw [List.getD_eq_getElem?_getD, hq]; rfl
  have h7 : ∀ i : Nat, i < 10 → Cond.stringRef (sref.getD i ("", 0, "")).1 (sref.getD i ("", 0, "")).2.1 (sref.getD i ("", 0, "")).2.2 ∈ lw_tbl := by decide +kernel
  have h8 := hts _ (h7 i hi)
  have h9 := hE i hi
  unfold tmS4 at h9
  rw [e] at h8 h9
  exact vk_R.of h8 h9
end STD
