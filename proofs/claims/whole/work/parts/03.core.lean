/-! the world by numbers: cells 1, 2, .. ; a reference is a cell's number, 0 is null -/
abbrev Av : Type := Int32 ⊕ Nat
abbrev Sg : Type := Nat × (Nat → Nat → Int32) × (Nat → Nat → Nat)
abbrev vcl : List vw_C := [(RX0, TX0, 11), (RX1, TX1, 11), (RX2, TX2, 5), (RX3, TX3, 19), (RX4, TX4, 8), (RX5, TX5, 9), (RX6, TX6, 10), (RX7, TX7, 5), (RX8, TX8, 6), (RX9, TX9, 4), (RX10, TX10, 6), (RX11, TX11, 12), (RX12, TX12, 64)]
def nfs : List Nat := [11, 11, 5, 19, 8, 9, 10, 5, 6, 4, 6, 12, 64]
def rms : List Nat := [15, 63, 3, 2047, 15, 15, 127, 3, 7, 3, 15, 511, 3584575365179178986]
def shpL : List (Nat × Nat) := [(99, 0), (11, 0), (7, 0), (15, 2), (16, 10), (0, 0), (13, 3), (13, 3), (13, 3), (13, 3), (0, 0), (13, 3), (13, 3), (13, 3), (13, 3), (9, 0), (13, 40), (13, 40), (9, 0), (13, 40), (13, 40), (9, 0), (13, 40), (13, 40), (9, 0), (13, 40), (13, 40), (9, 0), (13, 40), (13, 40), (9, 0), (13, 40), (13, 40), (9, 0), (13, 40), (13, 40), (9, 0), (13, 40), (13, 40), (9, 0), (13, 40), (13, 40), (9, 0), (13, 40), (13, 40), (10, 0), (13, 400), (13, 401), (13, 401), (13, 401), (4, 0), (9, 0), (13, 40), (13, 40), (9, 0), (13, 40), (13, 40), (2, 0), (13, 256), (13, 256), (8, 0), (13, 40), (1, 0), (13, 640), (13, 40), (13, 40), (13, 256), (13, 3), (13, 3), (5, 0), (13, 240), (13, 240), (13, 1600), (13, 80), (6, 0), (13, 10), (13, 10), (13, 5), (13, 5), (14, 10), (13, 64), (13, 160), (12, 0), (13, 400), (13, 16), (13, 2), (13, 2), (13, 2), (13, 6), (13, 6), (13, 6), (13, 6), (13, 2), (13, 2), (13, 2), (13, 2), (13, 11), (13, 11), (13, 440), (13, 440), (13, 41), (13, 41), (13, 41), (13, 41), (13, 256), (13, 163840), (14, 8192), (13, 40), (13, 1600), (13, 80), (13, 12), (14, 20), (13, 20), (13, 20), (13, 5), (13, 256), (13, 256), (13, 3), (13, 3), (17, 1), (3, 0), (13, 163840), (13, 4096), (13, 4096), (13, 4096), (13, 4096), (13, 4096), (13, 4096), (13, 40), (13, 40), (13, 40), (0, 0), (13, 3), (13, 3), (13, 3), (13, 3)]
def shp (r : Nat) : Nat × Nat := shpL.getD r (99, 0)
def ro (ad : Nat → Nat) (r : Nat) : Option Nat := if r = 0 then none else some (ad r)
def vt (ad : Nat → Nat) (v : Av) : Value := match v with
  | .inl x => .int x
  | .inr r => va_rf (ro ad r)
/-- an object's fields -/
def fl (ad : Nat → Nat) (σ : Sg) (r ci : Nat) : List Value := (List.range (nfs.getD ci 0)).map (fun j => if (rms.getD ci 0).testBit j then va_rf (ro ad (σ.2.2 r j)) else .int (σ.2.1 r j))
/-- a cell -/
def cel (ad : Nat → Nat) (ca : Nat → ClassId) (σ : Sg) (r : Nat) : va_E :=
  if (shp r).1 < 13 then .inr ((shp r).1, fl ad σ r (shp r).1)
  else if (shp r).1 < 15 then .inl (ca (shp r).1, (shp r).2, .inl (σ.2.1 r))
  else if (shp r).1 < 17 then .inl (ca (shp r).1, (shp r).2, .inr (.inr (.inr (.inr (fun j => ro ad (σ.2.2 r j))))))
  else .inl (ca (shp r).1, (shp r).2, .inr (.inl (fun j => (σ.2.1 r j).toInt64)))
def wl (ad : Nat → Nat) (ca : Nat → ClassId) (σ : Sg) : va_W := (List.range σ.1).map (fun i => (ad (i + 1), cel ad ca σ (i + 1)))
/-- writes -/
def w1 (σ : Sg) (r k : Nat) (x : Int32) : Sg := (σ.1, fun a b => if a = r ∧ b = k then x else σ.2.1 a b, σ.2.2)
def w2 (σ : Sg) (r k : Nat) (x : Nat) : Sg := (σ.1, σ.2.1, fun a b => if a = r ∧ b = k then x else σ.2.2 a b)
def tys (ca : Nat → ClassId) : List (ClassId × FieldType) := [(ca 13, .int), (ca 14, .boolean), (ca 15, .object "LedArms$Arm"), (ca 16, .object "LedArms$Tape"), (ca 17, .long)]
theorem ro_pos {ad : Nat → Nat} {r : Nat} (h : r ≠ 0) : ro ad r = some (ad r) := if_neg h
theorem wl_get {ad : Nat → Nat} {ca : Nat → ClassId} {σ : Sg} {r : Nat} (h0 : r ≠ 0) (h : r ≤ σ.1) : (wl ad ca σ)[r - 1]? = some (ad r, cel ad ca σ r) := by
  unfold wl
  rw [List.getElem?_map, List.getElem?_range (by omega)]
  simp only [Option.map_some]
  rw [show r - 1 + 1 = r by omega]
theorem wl_len {ad : Nat → Nat} {ca : Nat → ClassId} {σ : Sg} : (wl ad ca σ).length = σ.1 := by simp [wl]
theorem cel_obj {ad : Nat → Nat} {ca : Nat → ClassId} {σ : Sg} {r ci : Nat} (h : (shp r).1 = ci) (hc : ci < 13) : cel ad ca σ r = .inr (ci, fl ad σ r ci) := by
  unfold cel; rw [h, if_pos hc]
theorem cel_int {ad : Nat → Nat} {ca : Nat → ClassId} {σ : Sg} {r n : Nat} (h : shp r = (13, n)) : cel ad ca σ r = .inl (ca 13, n, .inl (σ.2.1 r)) := by
  unfold cel; rw [h]; rfl
theorem cel_bool {ad : Nat → Nat} {ca : Nat → ClassId} {σ : Sg} {r n : Nat} (h : shp r = (14, n)) : cel ad ca σ r = .inl (ca 14, n, .inl (σ.2.1 r)) := by
  unfold cel; rw [h]; rfl
theorem cel_ref {ad : Nat → Nat} {ca : Nat → ClassId} {σ : Sg} {r k n : Nat} (h : shp r = (k, n)) (h1 : ¬ k < 15) (h2 : k < 17) : cel ad ca σ r = .inl (ca k, n, .inr (.inr (.inr (.inr (fun j => ro ad (σ.2.2 r j)))))) := by
  unfold cel; rw [h]; dsimp only; rw [if_neg (by omega), if_neg h1, if_pos h2]
theorem cel_long {ad : Nat → Nat} {ca : Nat → ClassId} {σ : Sg} {r n : Nat} (h : shp r = (17, n)) : cel ad ca σ r = .inl (ca 17, n, .inr (.inl (fun j => (σ.2.1 r j).toInt64))) := by
  unfold cel; rw [h]; rfl
theorem fl_get {ad : Nat → Nat} {σ : Sg} {r ci k : Nat} (hk : k < nfs.getD ci 0) : (fl ad σ r ci)[k]? = some (if (rms.getD ci 0).testBit k then va_rf (ro ad (σ.2.2 r k)) else .int (σ.2.1 r k)) := by
  unfold fl; rw [List.getElem?_map, List.getElem?_range hk]; rfl
theorem fl_len {ad : Nat → Nat} {σ : Sg} {r ci : Nat} : (fl ad σ r ci).length = nfs.getD ci 0 := by simp [fl]
/-- a cell that a write doesn't reach -/
theorem cel_off1 {ad : Nat → Nat} {ca : Nat → ClassId} {σ : Sg} {r k q : Nat} {x : Int32} (h : q ≠ r) : cel ad ca (w1 σ r k x) q = cel ad ca σ q := by
  unfold cel fl w1; simp only [h, false_and, if_false]
theorem cel_off2 {ad : Nat → Nat} {ca : Nat → ClassId} {σ : Sg} {r k q : Nat} {x : Nat} (h : q ≠ r) : cel ad ca (w2 σ r k x) q = cel ad ca σ q := by
  unfold cel fl w2; simp only [h, false_and, if_false]
theorem wl_set {ad : Nat → Nat} {ca : Nat → ClassId} {σ σ' : Sg} {r : Nat} {e : va_E} (h0 : r ≠ 0) (h : r ≤ σ.1) (hn : σ'.1 = σ.1) (he : cel ad ca σ' r = e) (ho : ∀ q, q ≠ r → cel ad ca σ' q = cel ad ca σ q) : (wl ad ca σ).set (r - 1) (ad r, e) = wl ad ca σ' := by
  apply List.ext_getElem?
  intro i
  rw [List.getElem?_set]
  unfold wl
  rw [List.getElem?_map, List.getElem?_map, hn, List.length_map, List.length_range]
  by_cases hi : i < σ.1
  · rw [List.getElem?_range hi]
    by_cases hr : r - 1 = i
    · rw [if_pos hr, if_pos (by omega)]
      subst hr
      simp only [Option.map_some]
      rw [show r - 1 + 1 = r by omega, he]
    · rw [if_neg hr]
      simp only [Option.map_some]
      rw [ho (i + 1) (by omega)]
  · rw [List.getElem?_eq_none (by simp; omega)]
    by_cases hr : r - 1 = i
    · rw [if_pos hr, if_neg (by omega), Option.map_none]
    · rw [if_neg hr, Option.map_none, Option.map_none]
theorem fl_set1 {ad : Nat → Nat} {σ : Sg} {r ci k : Nat} {x : Int32} (hb : (rms.getD ci 0).testBit k = false) : (fl ad σ r ci).set k (.int x) = fl ad (w1 σ r k x) r ci := by
  apply List.ext_getElem?
  intro i
  rw [List.getElem?_set, fl_len]
  unfold fl w1
  rw [List.getElem?_map, List.getElem?_map]
  generalize nfs.getD ci 0 = n
  by_cases hi : i < n
  · rw [List.getElem?_range hi]
    by_cases hk : k = i
    · subst hk
      simp only [if_true, hi, Option.map_some, hb, true_and, and_true]
      rfl
    · have hk' : i ≠ k := fun e => hk e.symm
      simp only [hk, if_false, Option.map_some, hk', and_false]
  · rw [List.getElem?_eq_none (by simp; omega)]
    by_cases hk : k = i
    · subst hk
      simp [hi]
    · simp [hk]
theorem fl_set2 {ad : Nat → Nat} {σ : Sg} {r ci k : Nat} {x : Nat} (hb : (rms.getD ci 0).testBit k = true) : (fl ad σ r ci).set k (va_rf (ro ad x)) = fl ad (w2 σ r k x) r ci := by
  apply List.ext_getElem?
  intro i
  rw [List.getElem?_set, fl_len]
  unfold fl w2
  rw [List.getElem?_map, List.getElem?_map]
  generalize nfs.getD ci 0 = n
  by_cases hi : i < n
  · rw [List.getElem?_range hi]
    by_cases hk : k = i
    · subst hk
      simp only [if_true, hi, Option.map_some, hb, true_and, and_true]
    · have hk' : i ≠ k := fun e => hk e.symm
      simp only [hk, if_false, Option.map_some, hk', and_false]
  · rw [List.getElem?_eq_none (by simp; omega)]
    by_cases hk : k = i
    · subst hk
      simp [hi]
    · simp [hk]
theorem upd_w1 {σ : Sg} {r k : Nat} {x : Int32} : upd (σ.2.1 r) k x = (w1 σ r k x).2.1 r := by
  funext j; unfold upd w1; by_cases h : j = k <;> simp [h]
