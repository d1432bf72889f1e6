/-! the state when all is made -/
def lkN (ps : List (Nat × Nat × Nat)) (a b : Nat) : Nat := match ps with
  | [] => 0
  | q :: ps => if a = q.1 ∧ b = q.2.1 then q.2.2 else lkN ps a b
def lkI (ps : List (Nat × Nat × Int32)) (a b : Nat) : Int32 := match ps with
  | [] => 0
  | q :: ps => if a = q.1 ∧ b = q.2.1 then q.2.2 else lkI ps a b
def SgL (n : Nat) (ps : List (Nat × Nat × Nat)) (is : List (Nat × Nat × Int32)) : Sg := (n, lkI is, lkN ps)
abbrev Fr {α : Type} (n : Nat) (ps : List (Nat × Nat × α)) : Prop := ∀ q ∈ ps, q.1 ≤ n
theorem Fr.c {α : Type} {n r k : Nat} {x : α} {ps : List (Nat × Nat × α)} (h : Fr n ps) (hr : r ≤ n) : Fr (n + 1) ((r, k, x) :: ps) := by
  intro q hq
  rcases List.mem_cons.mp hq with e | e
  · rw [e]; show r ≤ n + 1; omega
  · have := h q e; omega
theorem Fr.u {α : Type} {n : Nat} {ps : List (Nat × Nat × α)} (h : Fr n ps) : Fr (n + 1) ps := fun q hq => by have := h q hq; omega
theorem lkN_o {n b : Nat} : ∀ {ps : List (Nat × Nat × Nat)}, Fr n ps → lkN ps (n + 1) b = 0 := by
  intro ps
  induction ps with
  | nil => intro _; rfl
  | cons q ps ih =>
    intro h
    show (if n + 1 = q.1 ∧ b = q.2.1 then q.2.2 else lkN ps (n + 1) b) = 0
    rw [if_neg (fun z => by have := h q List.mem_cons_self; omega)]
    exact ih (fun r hr => h r (List.mem_cons_of_mem _ hr))
theorem lkI_o {n b : Nat} : ∀ {ps : List (Nat × Nat × Int32)}, Fr n ps → lkI ps (n + 1) b = 0 := by
  intro ps
  induction ps with
  | nil => intro _; rfl
  | cons q ps ih =>
    intro h
    show (if n + 1 = q.1 ∧ b = q.2.1 then q.2.2 else lkI ps (n + 1) b) = 0
    rw [if_neg (fun z => by have := h q List.mem_cons_self; omega)]
    exact ih (fun r hr => h r (List.mem_cons_of_mem _ hr))
theorem nw_SgL {n : Nat} {ps : List (Nat × Nat × Nat)} {is : List (Nat × Nat × Int32)} (h : Fr n ps) (h' : Fr n is) : nw (SgL n ps is) = SgL (n + 1) ps is := by
  show (n + 1, (fun a b => if a = n + 1 then 0 else lkI is a b), (fun a b => if a = n + 1 then 0 else lkN ps a b)) = (n + 1, lkI is, lkN ps)
  congr 2
  · funext a b
    by_cases z : a = n + 1
    · rw [if_pos z, z, lkI_o h']
    · rw [if_neg z]
  · funext a b
    by_cases z : a = n + 1
    · rw [if_pos z, z, lkN_o h]
    · rw [if_neg z]
section INI
variable {l : Launch} {n r k : Nat} {ps : List (Nat × Nat × Nat)} {is : List (Nat × Nat × Int32)}
theorem chA {X : Nat × Nat} {G : Sg → Prop} (hx : shp (n + 1) = X) (hn : n + 1 ≤ 1000) (F : Fr n ps) (F' : Fr n is) (hG : G (SgL (n + 1) ((r, k, n + 1) :: ps) is)) : shp ((SgL n ps is).1 + 1) = X ∧ (SgL n ps is).1 + 1 ≤ 1000 ∧ ∀ x3 σ3, x3 = (SgL n ps is).1 + 1 → σ3 = nw (SgL n ps is) → x3 ≤ σ3.1 ∧ ∀ σ6, σ6 = w2 σ3 r k x3 → G σ6 := by
  refine ⟨hx, hn, fun x3 σ3 e1 e2 => ?_⟩
  subst e1
  rw [nw_SgL F F'] at e2
  subst e2
  exact ⟨Nat.le_refl _, fun σ6 e => by subst e; exact hG⟩
theorem chO {X : Nat × Nat} {ci : Nat} {G : Sg → Prop} (hr : r ≠ 0) (ho : (shp r).1 = ci) (hrn : r ≤ n) (hx : shp (n + 1) = X) (hn : n + 1 ≤ 1000) (F : Fr n ps) (F' : Fr n is) (hG : G (SgL (n + 1) ((r, k, n + 1) :: ps) is)) : r ≠ 0 ∧ shp ((SgL n ps is).1 + 1) = X ∧ (SgL n ps is).1 + 1 ≤ 1000 ∧ ∀ x3 σ3, x3 = (SgL n ps is).1 + 1 → σ3 = nw (SgL n ps is) → Ob σ3 r ci ∧ x3 ≤ σ3.1 ∧ ∀ σ6, σ6 = w2 σ3 r k x3 → G σ6 := by
  refine ⟨hr, hx, hn, fun x3 σ3 e1 e2 => ?_⟩
  subst e1
  rw [nw_SgL F F'] at e2
  subst e2
  exact ⟨⟨hr, ho, by show r ≤ n + 1; omega⟩, Nat.le_refl _, fun σ6 e => by subst e; exact hG⟩
/-- a new object -/
theorem chN {ci : Nat} {G : Nat → Sg → Prop} (hx : (shp (n + 1)).1 = ci) (hn : n + 1 ≤ 1000) (F : Fr n ps) (F' : Fr n is) (hG : G (n + 1) (SgL (n + 1) ps is)) : (shp ((SgL n ps is).1 + 1)).1 = ci ∧ (SgL n ps is).1 + 1 ≤ 1000 ∧ ∀ x3 σ3, x3 = (SgL n ps is).1 + 1 → σ3 = nw (SgL n ps is) → x3 ≠ 0 ∧ G x3 σ3 := by
  refine ⟨hx, hn, fun x3 σ3 e1 e2 => ?_⟩
  subst e1
  rw [nw_SgL F F'] at e2
  subst e2
  exact ⟨Nat.succ_ne_zero _, hG⟩
end INI
