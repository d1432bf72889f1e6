/-! the cells of LedArms by their numbers -/
/-- the place in the order of making of the cell with number k -/
def rn (k : Nat) : Nat := if k = 50 then 2 else if 2 ≤ k ∧ k ≤ 49 then k + 1 else k
theorem rn_inj {a b : Nat} (h : rn a = rn b) : a = b := by
  unfold rn at h
  split at h <;> split at h <;> (try split at h) <;> (try split at h) <;> omega
theorem rn_0 {a : Nat} : rn a = 0 ↔ a = 0 := by
  unfold rn
  split
  · omega
  · split <;> omega
theorem rn_hi {a : Nat} (h : 51 ≤ a) : rn a = a := by
  unfold rn
  rw [if_neg (by omega), if_neg (by omega)]
theorem rn_le {a : Nat} (h : a ≤ 81) : rn a ≤ 81 := by
  unfold rn
  split
  · omega
  · split <;> omega
theorem lkN_rn : ∀ (ps : List (Nat × Nat × Nat)) (a b : Nat), lkN (ps.map (fun q => (rn q.1, q.2.1, rn q.2.2))) (rn a) b = rn (lkN ps a b) := by
  intro ps a b
  induction ps with
  | nil => rfl
  | cons q ps ih =>
    show (if rn a = rn q.1 ∧ b = q.2.1 then rn q.2.2 else lkN (ps.map (fun q => (rn q.1, q.2.1, rn q.2.2))) (rn a) b) = rn (if a = q.1 ∧ b = q.2.1 then q.2.2 else lkN ps a b)
    by_cases h : a = q.1 ∧ b = q.2.1
    · rw [if_pos ⟨by rw [h.1], h.2⟩, if_pos h]
    · rw [if_neg (fun z => h ⟨rn_inj z.1, z.2⟩), if_neg h, ih]
theorem lkI_rn : ∀ (is : List (Nat × Nat × Int32)) (a b : Nat), lkI (is.map (fun q => (rn q.1, q.2.1, q.2.2))) (rn a) b = lkI is a b := by
  intro is a b
  induction is with
  | nil => rfl
  | cons q is ih =>
    show (if rn a = rn q.1 ∧ b = q.2.1 then q.2.2 else lkI (is.map (fun q => (rn q.1, q.2.1, q.2.2))) (rn a) b) = (if a = q.1 ∧ b = q.2.1 then q.2.2 else lkI is a b)
    by_cases h : a = q.1 ∧ b = q.2.1
    · rw [if_pos ⟨by rw [h.1], h.2⟩, if_pos h]
    · rw [if_neg (fun z => h ⟨rn_inj z.1, z.2⟩), if_neg h, ih]
theorem lkN_le {m : Nat} : ∀ {ps : List (Nat × Nat × Nat)} (a b : Nat), (∀ q ∈ ps, q.2.2 ≤ m) → lkN ps a b ≤ m := by
  intro ps a b
  induction ps with
  | nil => intro _; exact Nat.zero_le _
  | cons q ps ih =>
    intro h
    show (if a = q.1 ∧ b = q.2.1 then q.2.2 else lkN ps a b) ≤ m
    by_cases z : a = q.1 ∧ b = q.2.1
    · rw [if_pos z]; exact h q List.mem_cons_self
    · rw [if_neg z]; exact ih (fun r hr => h r (List.mem_cons_of_mem _ hr))
theorem ro_rn (ad : Nat → Nat) (r : Nat) : ro ad (rn r) = ro (fun k => ad (rn k)) r := by
  unfold ro
  by_cases h : r = 0
  · rw [if_pos h, if_pos (rn_0.mpr h)]
  · rw [if_neg h, if_neg (fun z => h (rn_0.mp z))]
theorem cel_rn {ad : Nat → Nat} {ca : Nat → ClassId} {σ τ : Sg} {r : Nat} (hs : shp_m (rn r) = shp r) (h1 : ∀ b, τ.2.1 (rn r) b = σ.2.1 r b) (h2 : ∀ b, τ.2.2 (rn r) b = rn (σ.2.2 r b)) : cel_m ad ca τ (rn r) = cel (fun k => ad (rn k)) ca σ r := by
  have e1 : τ.2.1 (rn r) = σ.2.1 r := funext h1
  have e2 : ∀ j, ro ad (τ.2.2 (rn r) j) = ro (fun k => ad (rn k)) (σ.2.2 r j) := fun j => by rw [h2, ro_rn]
  unfold cel_m cel fl
  simp only [hs, e1, e2]
theorem shp_rn : ∀ r, r < 82 → shp_m (rn r) = shp r := by decide +kernel
section RN
variable {l : Launch} {K : Sg → Prop}
def psO : List (Nat × Nat × Nat) := [(1, 7, 74), (74, 6, 81), (74, 5, 80), (74, 4, 79), (74, 3, 78), (74, 2, 77), (74, 1, 76), (74, 0, 75), (1, 6, 69), (69, 3, 73), (69, 2, 72), (69, 1, 71), (69, 0, 70), (1, 5, 62), (62, 5, 68), (62, 4, 67), (62, 3, 66), (62, 2, 65), (62, 1, 64), (62, 0, 63), (1, 4, 60), (60, 0, 61), (1, 3, 57), (57, 1, 59), (57, 0, 58), (1, 1, 45), (1, 0, 2), (1, 2, 50), (50, 3, 54), (54, 1, 56), (54, 0, 55), (50, 2, 51), (51, 1, 53), (51, 0, 52), (50, 1, 45), (45, 3, 49), (45, 2, 48), (45, 1, 47), (45, 0, 46), (50, 0, 2), (4, 9, 42), (42, 1, 44), (42, 0, 43), (4, 8, 39), (39, 1, 41), (39, 0, 40), (4, 7, 36), (36, 1, 38), (36, 0, 37), (4, 6, 33), (33, 1, 35), (33, 0, 34), (4, 5, 30), (30, 1, 32), (30, 0, 31), (4, 4, 27), (27, 1, 29), (27, 0, 28), (4, 3, 24), (24, 1, 26), (24, 0, 25), (4, 2, 21), (21, 1, 23), (21, 0, 22), (4, 1, 18), (18, 1, 20), (18, 0, 19), (4, 0, 15), (15, 1, 17), (15, 0, 16), (3, 1, 10), (10, 3, 14), (10, 2, 13), (10, 1, 12), (10, 0, 11), (3, 0, 5), (5, 3, 9), (5, 2, 8), (5, 1, 7), (5, 0, 6), (2, 1, 4), (2, 0, 3)]
def isO : List (Nat × Nat × Int32) := [(1, 11, (-1)), (1, 10, (-1)), (1, 9, 10), (50, 7, (-1))]
theorem psO_rn : psM = psO.map (fun q => (rn q.1, q.2.1, rn q.2.2)) := by decide +kernel
theorem isO_rn : isM = isO.map (fun q => (rn q.1, q.2.1, q.2.2)) := by decide +kernel
theorem wl_rn {ad : Nat → Nat} {ca : Nat → ClassId} {k : Nat} {q : Nat × va_E} (h : (wl (fun k => ad (rn k)) ca (SgL 81 psO isO))[k]? = some q) : k < 81 ∧ (wl_m ad ca (SgL 81 psM isM))[rn (k + 1) - 1]? = some q := by
  have hk : k < 81 := by
    have := (List.getElem?_eq_some_iff.mp h).1
    rw [wl_len] at this
    exact this
  refine ⟨hk, ?_⟩
  have e0 : rn (k + 1) ≠ 0 := fun z => by have := rn_0.mp z; omega
  rw [wl_get_m e0 (rn_le (by omega)), cel_rn (σ := SgL 81 psO isO) (shp_rn (k + 1) (by omega)) (fun b => ?_) (fun b => ?_)]
  · rw [← h]
    exact (wl_get (ad := fun k => ad (rn k)) (ca := ca) (σ := SgL 81 psO isO) (r := k + 1) (by omega) (by show k + 1 ≤ 81; omega)).symm
  · show lkI isM (rn (k + 1)) b = lkI isO (k + 1) b
    rw [isO_rn, lkI_rn]
  · show lkN psM (rn (k + 1)) b = rn (lkN psO (k + 1) b)
    rw [psO_rn, lkN_rn]
theorem okm_O : Okm (SgL 81 psO isO) := fun a b => lkN_le a b (by decide)
theorem i_X11 (hK : K (SgL 81 psO isO)) : Con l mX11_init [.inr 1] (SgL 1 [] []) (PV K) := by
  intro D ca ad sz
  have h := i_X11_m (l := l) (K := fun σ => σ = SgL 81 psM isM) rfl D ca ad sz
  have ew : wl_m ad ca (SgL 1 [] []) = wl ad ca (SgL 1 [] []) := rfl
  unfold Con_m PC_m QC_m at h
  rw [ew] at h
  refine MetFree.mono h (fun a s hp => hp) (fun _ _ _ _ _ z => z) (fun a s o t hp hq => ⟨⟨?_, hq.1.2⟩, hq.2⟩)
  obtain ⟨r, σ', ad', e1, ⟨e2, e3⟩, g, hP, hD, -, -⟩ := hq.1.1
  subst e2
  subst e3
  refine ⟨none, SgL 81 psO isO, fun k => ad' (rn k), e1, ⟨rfl, hK⟩, ⟨fun k hk => ?_, by decide, by decide⟩, fun k q h => ?_, ⟨fun i j p q hi hj e => ?_, fun k q h => ?_⟩, okm_O, fun v hv => by cases hv⟩
  · have : rn k = k := by
      rcases hk with hk | hk
      · have hk : k ≤ 1 := hk
        unfold rn
        rw [if_neg (by omega), if_neg (by omega)]
      · exact rn_hi (by omega)
    show ad' (rn k) = ad k
    rw [this]
    exact g.1 k hk
  · exact hP _ q (wl_rn h).2
  · have a := wl_rn hi
    have b := wl_rn hj
    have c := hD.1 _ _ p q a.2 b.2 e
    have a0 : rn (i + 1) ≠ 0 := fun z => by have := rn_0.mp z; omega
    have b0 : rn (j + 1) ≠ 0 := fun z => by have := rn_0.mp z; omega
    have := rn_inj (a := i + 1) (b := j + 1) (by omega)
    omega
  · exact hD.2 _ q (wl_rn h).2
end RN
