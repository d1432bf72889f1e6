section GR
variable {l : Launch} {M : Mth} {pc : Nat} {lo : List (Nat × Av)} {st : List Av} {σ : Sg} {kc ks : Nat} {Φ : Option Av → Sg → Prop}

theorem gw_iconst {n : Int} {v : Int32} (hd : decode M.cc pc = .ok (.iconst n, 1)) (hv : Int32.ofInt n = v) (k : GW l M (pc + 1) lo (.inl v :: st) σ kc ks Φ) : GW l M pc lo (st) σ kc ks Φ := by
  intro p e R s m args below meth c D ca ad0 ad n0 A H locs ls Q C X G L Y T
  exact lv_iconst C.1 C.2.1 hd hv (k p e R s m args below meth c D ca ad0 ad n0 A H locs ls Q C X G L ⟨Y.1, List.forall_mem_cons.mpr ⟨trivial, Y.2⟩⟩ T)

theorem gw_bipush {n : Int} {v : Int32} (hd : decode M.cc pc = .ok (.bipush n, 2)) (hv : (Int8.ofInt n).toInt32 = v) (k : GW l M (pc + 2) lo (.inl v :: st) σ kc ks Φ) : GW l M pc lo (st) σ kc ks Φ := by
  intro p e R s m args below meth c D ca ad0 ad n0 A H locs ls Q C X G L Y T
  exact lv_bipush C.1 C.2.1 hd hv (k p e R s m args below meth c D ca ad0 ad n0 A H locs ls Q C X G L ⟨Y.1, List.forall_mem_cons.mpr ⟨trivial, Y.2⟩⟩ T)

theorem gw_sipush {n : Int} {v : Int32} (hd : decode M.cc pc = .ok (.sipush n, 3)) (hv : (Int16.ofInt n).toInt32 = v) (k : GW l M (pc + 3) lo (.inl v :: st) σ kc ks Φ) : GW l M pc lo (st) σ kc ks Φ := by
  intro p e R s m args below meth c D ca ad0 ad n0 A H locs ls Q C X G L Y T
  exact lv_sipush C.1 C.2.1 hd hv (k p e R s m args below meth c D ca ad0 ad n0 A H locs ls Q C X G L ⟨Y.1, List.forall_mem_cons.mpr ⟨trivial, Y.2⟩⟩ T)

theorem gw_ldc {i : Nat} {v : Int32} (hw : Cond.constant M.y.cls i v ∈ gt) (hd : decode M.cc pc = .ok (.ldc i, 2)) (k : GW l M (pc + 2) lo (.inl v :: st) σ kc ks Φ) : GW l M pc lo (st) σ kc ks Φ := by
  intro p e R s m args below meth c D ca ad0 ad n0 A H locs ls Q C X G L Y T
  exact lv_ldc C.1 C.2.1 C.2.2.2.1 (C.2.2.2.2.1 _ hw) hd (k p e R s m args below meth c D ca ad0 ad n0 A H locs ls Q C X G L ⟨Y.1, List.forall_mem_cons.mpr ⟨trivial, Y.2⟩⟩ T)

theorem gw_null (hd : decode M.cc pc = .ok (.aconst_null, 1)) (k : GW l M (pc + 1) lo (.inr 0 :: st) σ kc ks Φ) : GW l M pc lo (st) σ kc ks Φ := by
  intro p e R s m args below meth c D ca ad0 ad n0 A H locs ls Q C X G L Y T
  exact lv_null C.1 C.2.1 hd (k p e R s m args below meth c D ca ad0 ad n0 A H locs ls Q C X G L ⟨Y.1, List.forall_mem_cons.mpr ⟨Or.inl (Nat.zero_le _), Y.2⟩⟩ T)

theorem gw_iload_n {j : Fin 4} {i q : Nat} {x : Int32} (hd : decode M.cc pc = .ok (.iload_n j, 1)) (hi : (j : Nat) = i) (hl : lo[q]? = some (i, .inl x)) (k : GW l M (pc + 1) lo (.inl x :: st) σ kc ks Φ) : GW l M pc lo (st) σ kc ks Φ := by
  intro p e R s m args below meth c D ca ad0 ad n0 A H locs ls Q C X G L Y T
  exact lv_iload_n C.1 C.2.1 hd hi (lt_at L q hl) (k p e R s m args below meth c D ca ad0 ad n0 A H locs ls Q C X G L ⟨Y.1, List.forall_mem_cons.mpr ⟨trivial, Y.2⟩⟩ T)

theorem gw_iload {i q : Nat} {x : Int32} (hd : decode M.cc pc = .ok (.iload i, 2)) (hl : lo[q]? = some (i, .inl x)) (k : GW l M (pc + 2) lo (.inl x :: st) σ kc ks Φ) : GW l M pc lo (st) σ kc ks Φ := by
  intro p e R s m args below meth c D ca ad0 ad n0 A H locs ls Q C X G L Y T
  exact lv_iload C.1 C.2.1 hd (lt_at L q hl) (k p e R s m args below meth c D ca ad0 ad n0 A H locs ls Q C X G L ⟨Y.1, List.forall_mem_cons.mpr ⟨trivial, Y.2⟩⟩ T)

theorem gw_aload_n {j : Fin 4} {i q x : Nat} (hd : decode M.cc pc = .ok (.aload_n j, 1)) (hi : (j : Nat) = i) (hl : lo[q]? = some (i, .inr x)) (k : GW l M (pc + 1) lo (.inr x :: st) σ kc ks Φ) : GW l M pc lo (st) σ kc ks Φ := by
  intro p e R s m args below meth c D ca ad0 ad n0 A H locs ls Q C X G L Y T
  have h1 := lt_at L q hl
  have h2 : W p l e R s m args below meth c H locs kc ks Q (F0 m (pc + 1) ls ((.inr x :: st).map (vt ad))) := k p e R s m args below meth c D ca ad0 ad n0 A H locs ls Q C X G L ⟨Y.1, List.forall_mem_cons.mpr ⟨Y.1 _ (List.mem_of_getElem? hl), Y.2⟩⟩ T
  simp only [List.map_cons, vt, ro] at h1 h2
  by_cases hx : x = 0
  · simp only [hx, if_true, va_rf] at h1 h2
    exact lv_aload_nN C.1 C.2.1 hd hi h1 h2
  · simp only [hx, if_false, va_rf] at h1 h2
    exact lv_aload_n C.1 C.2.1 hd hi h1 h2

theorem gw_aload {i q x : Nat} (hd : decode M.cc pc = .ok (.aload i, 2)) (hl : lo[q]? = some (i, .inr x)) (k : GW l M (pc + 2) lo (.inr x :: st) σ kc ks Φ) : GW l M pc lo (st) σ kc ks Φ := by
  intro p e R s m args below meth c D ca ad0 ad n0 A H locs ls Q C X G L Y T
  have h1 := lt_at L q hl
  have h2 : W p l e R s m args below meth c H locs kc ks Q (F0 m (pc + 2) ls ((.inr x :: st).map (vt ad))) := k p e R s m args below meth c D ca ad0 ad n0 A H locs ls Q C X G L ⟨Y.1, List.forall_mem_cons.mpr ⟨Y.1 _ (List.mem_of_getElem? hl), Y.2⟩⟩ T
  simp only [List.map_cons, vt, ro] at h1 h2
  by_cases hx : x = 0
  · simp only [hx, if_true, va_rf] at h1 h2
    exact lv_aloadN C.1 C.2.1 hd h1 h2
  · simp only [hx, if_false, va_rf] at h1 h2
    exact lv_aload C.1 C.2.1 hd h1 h2

def sto (lo : List (Nat × Av)) (i : Nat) (v : Av) : List (Nat × Av) := match lo with
  | [] => [(i, v)]
  | q :: t => if q.1 = i then (i, v) :: t.filter (fun z => !(z.1 == i)) else q :: sto t i v
theorem sto_mem {lo : List (Nat × Av)} {i : Nat} {v : Av} {q : Nat × Av} (h : q ∈ sto lo i v) : q = (i, v) ∨ (q ∈ lo ∧ q.1 ≠ i) := by
  induction lo with
  | nil => exact Or.inl (List.mem_singleton.mp h)
  | cons z t ih =>
    unfold sto at h
    by_cases hz : z.1 = i
    · rw [if_pos hz] at h
      rcases List.mem_cons.mp h with h | h
      · exact Or.inl h
      · have h2 := List.mem_filter.mp h
        exact Or.inr ⟨List.mem_cons_of_mem _ h2.1, by simpa using h2.2⟩
    · rw [if_neg hz] at h
      rcases List.mem_cons.mp h with h | h
      · subst h; exact Or.inr ⟨List.mem_cons_self, hz⟩
      · rcases ih h with h | h
        · exact Or.inl h
        · exact Or.inr ⟨List.mem_cons_of_mem _ h.1, h.2⟩
theorem sto_has {ad : Nat → Nat} {lo : List (Nat × Av)} {i n : Nat} {v : Av} {ls : Array Slot} (h : lv_has ls n ((i, vt ad v) :: (lt ad lo).filter (fun q => !(q.1 == i) && !(q.1 + 1 == i && q.2.category == 2)))) : lv_has ls n (lt ad (sto lo i v)) := by
  refine ⟨h.1, h.2.1, fun q hq => ?_⟩
  unfold lt at hq
  obtain ⟨z, hz, rfl⟩ := List.mem_map.mp hq
  rcases sto_mem hz with rfl | ⟨hm, hi⟩
  · exact h.2.2 _ List.mem_cons_self
  · refine h.2.2 _ (List.mem_cons_of_mem _ (List.mem_filter.mpr ⟨List.mem_map.mpr ⟨z, hm, rfl⟩, ?_⟩))
    simp only [vt_cat]
    simpa using hi
theorem sto_ok {lo : List (Nat × Av)} {i n : Nat} {v : Av} (h : ∀ q ∈ lo, okv n q.2) (hv : okv n v) : ∀ q ∈ sto lo i v, okv n q.2 := by
  intro q hq
  rcases sto_mem hq with rfl | ⟨hm, -⟩
  · exact hv
  · exact h q hm

theorem gw_istore_n {lo' : List (Nat × Av)} {j : Fin 4} {i : Nat} {x : Int32} (hd : decode M.cc pc = .ok (.istore_n j, 1)) (hi : (j : Nat) = i) (hn : i < M.nL) (hlo : sto lo i (.inl x) = lo') (k : GW l M (pc + 1) lo' (st) σ kc ks Φ) : GW l M pc lo ((.inl x) :: st) σ kc ks Φ := by
  intro p e R s m args below meth c D ca ad0 ad n0 A H locs ls Q C X G L Y T
  have Y2 := List.forall_mem_cons.mp Y.2
  exact lv_istore_n C.1 C.2.1 hd hi L hn rfl (fun ls h => k p e R s m args below meth c D ca ad0 ad n0 A H locs ls Q C X G (hlo ▸ sto_has h) ⟨hlo ▸ sto_ok Y.1 trivial, Y2.2⟩ T)

theorem gw_istore {lo' : List (Nat × Av)} {i : Nat} {x : Int32} (hd : decode M.cc pc = .ok (.istore i, 2)) (hn : i < M.nL) (hlo : sto lo i (.inl x) = lo') (k : GW l M (pc + 2) lo' (st) σ kc ks Φ) : GW l M pc lo ((.inl x) :: st) σ kc ks Φ := by
  intro p e R s m args below meth c D ca ad0 ad n0 A H locs ls Q C X G L Y T
  have Y2 := List.forall_mem_cons.mp Y.2
  exact lv_istore C.1 C.2.1 hd L hn rfl (fun ls h => k p e R s m args below meth c D ca ad0 ad n0 A H locs ls Q C X G (hlo ▸ sto_has h) ⟨hlo ▸ sto_ok Y.1 trivial, Y2.2⟩ T)

theorem gw_astore_n {lo' : List (Nat × Av)} {j : Fin 4} {i x : Nat} (hd : decode M.cc pc = .ok (.astore_n j, 1)) (hi : (j : Nat) = i) (hn : i < M.nL) (hlo : sto lo i (.inr x) = lo') (k : GW l M (pc + 1) lo' (st) σ kc ks Φ) : GW l M pc lo ((.inr x) :: st) σ kc ks Φ := by
  intro p e R s m args below meth c D ca ad0 ad n0 A H locs ls Q C X G L Y T
  have Y2 := List.forall_mem_cons.mp Y.2
  have hk : ∀ ls, lv_has ls M.nL ((i, vt ad (.inr x)) :: (lt ad lo).filter (fun q => !(q.1 == i) && !(q.1 + 1 == i && q.2.category == 2))) → W p l e R s m args below meth c H locs kc ks Q (F0 m (pc + 1) ls (st.map (vt ad))) := fun ls h => k p e R s m args below meth c D ca ad0 ad n0 A H locs ls Q C X G (hlo ▸ sto_has h) ⟨hlo ▸ sto_ok Y.1 Y2.1, Y2.2⟩ T
  show W p l e R s m args below meth c H locs kc ks Q (F0 m pc ls (vt ad (.inr x) :: st.map (vt ad)))
  simp only [vt, ro] at hk ⊢
  by_cases hx : x = 0
  · simp only [hx, if_true, va_rf] at hk ⊢
    exact lv_astore_nN C.1 C.2.1 hd hi L hn rfl (fun ls h => hk ls h)
  · simp only [hx, if_false, va_rf] at hk ⊢
    exact lv_astore_n C.1 C.2.1 hd hi L hn rfl (fun ls h => hk ls h)

theorem gw_astore {lo' : List (Nat × Av)} {i x : Nat} (hd : decode M.cc pc = .ok (.astore i, 2)) (hn : i < M.nL) (hlo : sto lo i (.inr x) = lo') (k : GW l M (pc + 2) lo' (st) σ kc ks Φ) : GW l M pc lo ((.inr x) :: st) σ kc ks Φ := by
  intro p e R s m args below meth c D ca ad0 ad n0 A H locs ls Q C X G L Y T
  have Y2 := List.forall_mem_cons.mp Y.2
  have hk : ∀ ls, lv_has ls M.nL ((i, vt ad (.inr x)) :: (lt ad lo).filter (fun q => !(q.1 == i) && !(q.1 + 1 == i && q.2.category == 2))) → W p l e R s m args below meth c H locs kc ks Q (F0 m (pc + 2) ls (st.map (vt ad))) := fun ls h => k p e R s m args below meth c D ca ad0 ad n0 A H locs ls Q C X G (hlo ▸ sto_has h) ⟨hlo ▸ sto_ok Y.1 Y2.1, Y2.2⟩ T
  show W p l e R s m args below meth c H locs kc ks Q (F0 m pc ls (vt ad (.inr x) :: st.map (vt ad)))
  simp only [vt, ro] at hk ⊢
  by_cases hx : x = 0
  · simp only [hx, if_true, va_rf] at hk ⊢
    exact lv_astoreN C.1 C.2.1 hd L hn rfl (fun ls h => hk ls h)
  · simp only [hx, if_false, va_rf] at hk ⊢
    exact lv_astore C.1 C.2.1 hd L hn rfl (fun ls h => hk ls h)

theorem gw_iinc {lo' : List (Nat × Av)} {i q : Nat} {n : Int} {x v : Int32} (hd : decode M.cc pc = .ok (.iinc i n, 3)) (hl : lo[q]? = some (i, .inl x)) (hv : x + Int32.ofInt n = v) (hn : i < M.nL) (hlo : sto lo i (.inl v) = lo') (k : GW l M (pc + 3) lo' st σ kc ks Φ) : GW l M pc lo st σ kc ks Φ := by
  intro p e R s m args below meth c D ca ad0 ad n0 A H locs ls Q C X G L Y T
  exact lv_iinc C.1 C.2.1 hd L (k := q) (by unfold lt; rw [List.getElem?_map, hl]; rfl) hv hn rfl (fun ls h => k p e R s m args below meth c D ca ad0 ad n0 A H locs ls Q C X G (hlo ▸ sto_has (v := .inl v) h) ⟨hlo ▸ sto_ok Y.1 trivial, Y.2⟩ T)

theorem gw_iadd {x y : Int32} (hd : decode M.cc pc = .ok (.iadd, 1)) (k : GW l M (pc + 1) lo (.inl (x + y) :: st) σ kc ks Φ) : GW l M pc lo (.inl y :: .inl x :: st) σ kc ks Φ := by
  intro p e R s m args below meth c D ca ad0 ad n0 A H locs ls Q C X G L Y T
  exact lv_iadd C.1 C.2.1 hd (k p e R s m args below meth c D ca ad0 ad n0 A H locs ls Q C X G L ⟨Y.1, List.forall_mem_cons.mpr ⟨trivial, (List.forall_mem_cons.mp (List.forall_mem_cons.mp Y.2).2).2⟩⟩ T)

theorem gw_isub {x y : Int32} (hd : decode M.cc pc = .ok (.isub, 1)) (k : GW l M (pc + 1) lo (.inl (x - y) :: st) σ kc ks Φ) : GW l M pc lo (.inl y :: .inl x :: st) σ kc ks Φ := by
  intro p e R s m args below meth c D ca ad0 ad n0 A H locs ls Q C X G L Y T
  exact lv_isub C.1 C.2.1 hd (k p e R s m args below meth c D ca ad0 ad n0 A H locs ls Q C X G L ⟨Y.1, List.forall_mem_cons.mpr ⟨trivial, (List.forall_mem_cons.mp (List.forall_mem_cons.mp Y.2).2).2⟩⟩ T)

theorem gw_imul {x y : Int32} (hd : decode M.cc pc = .ok (.imul, 1)) (k : GW l M (pc + 1) lo (.inl (x * y) :: st) σ kc ks Φ) : GW l M pc lo (.inl y :: .inl x :: st) σ kc ks Φ := by
  intro p e R s m args below meth c D ca ad0 ad n0 A H locs ls Q C X G L Y T
  exact lv_imul C.1 C.2.1 hd (k p e R s m args below meth c D ca ad0 ad n0 A H locs ls Q C X G L ⟨Y.1, List.forall_mem_cons.mpr ⟨trivial, (List.forall_mem_cons.mp (List.forall_mem_cons.mp Y.2).2).2⟩⟩ T)

theorem gw_ishl {x y : Int32} (hd : decode M.cc pc = .ok (.ishl, 1)) (k : GW l M (pc + 1) lo (.inl (x <<< (y &&& 31)) :: st) σ kc ks Φ) : GW l M pc lo (.inl y :: .inl x :: st) σ kc ks Φ := by
  intro p e R s m args below meth c D ca ad0 ad n0 A H locs ls Q C X G L Y T
  exact lv_ishl C.1 C.2.1 hd (k p e R s m args below meth c D ca ad0 ad n0 A H locs ls Q C X G L ⟨Y.1, List.forall_mem_cons.mpr ⟨trivial, (List.forall_mem_cons.mp (List.forall_mem_cons.mp Y.2).2).2⟩⟩ T)

theorem gw_ishr {x y : Int32} (hd : decode M.cc pc = .ok (.ishr, 1)) (k : GW l M (pc + 1) lo (.inl (x >>> (y &&& 31)) :: st) σ kc ks Φ) : GW l M pc lo (.inl y :: .inl x :: st) σ kc ks Φ := by
  intro p e R s m args below meth c D ca ad0 ad n0 A H locs ls Q C X G L Y T
  exact lv_ishr C.1 C.2.1 hd (k p e R s m args below meth c D ca ad0 ad n0 A H locs ls Q C X G L ⟨Y.1, List.forall_mem_cons.mpr ⟨trivial, (List.forall_mem_cons.mp (List.forall_mem_cons.mp Y.2).2).2⟩⟩ T)

theorem gw_iand {x y : Int32} (hd : decode M.cc pc = .ok (.iand, 1)) (k : GW l M (pc + 1) lo (.inl (x &&& y) :: st) σ kc ks Φ) : GW l M pc lo (.inl y :: .inl x :: st) σ kc ks Φ := by
  intro p e R s m args below meth c D ca ad0 ad n0 A H locs ls Q C X G L Y T
  exact lv_iand C.1 C.2.1 hd (k p e R s m args below meth c D ca ad0 ad n0 A H locs ls Q C X G L ⟨Y.1, List.forall_mem_cons.mpr ⟨trivial, (List.forall_mem_cons.mp (List.forall_mem_cons.mp Y.2).2).2⟩⟩ T)

theorem gw_ior {x y : Int32} (hd : decode M.cc pc = .ok (.ior, 1)) (k : GW l M (pc + 1) lo (.inl (x ||| y) :: st) σ kc ks Φ) : GW l M pc lo (.inl y :: .inl x :: st) σ kc ks Φ := by
  intro p e R s m args below meth c D ca ad0 ad n0 A H locs ls Q C X G L Y T
  exact lv_ior C.1 C.2.1 hd (k p e R s m args below meth c D ca ad0 ad n0 A H locs ls Q C X G L ⟨Y.1, List.forall_mem_cons.mpr ⟨trivial, (List.forall_mem_cons.mp (List.forall_mem_cons.mp Y.2).2).2⟩⟩ T)

theorem gw_ixor {x y : Int32} (hd : decode M.cc pc = .ok (.ixor, 1)) (k : GW l M (pc + 1) lo (.inl (x ^^^ y) :: st) σ kc ks Φ) : GW l M pc lo (.inl y :: .inl x :: st) σ kc ks Φ := by
  intro p e R s m args below meth c D ca ad0 ad n0 A H locs ls Q C X G L Y T
  exact lv_ixor C.1 C.2.1 hd (k p e R s m args below meth c D ca ad0 ad n0 A H locs ls Q C X G L ⟨Y.1, List.forall_mem_cons.mpr ⟨trivial, (List.forall_mem_cons.mp (List.forall_mem_cons.mp Y.2).2).2⟩⟩ T)

theorem gw_idiv {x y : Int32} (hd : decode M.cc pc = .ok (.idiv, 1)) (hy : ¬ y = 0) (k : GW l M (pc + 1) lo (.inl (x / y) :: st) σ kc ks Φ) : GW l M pc lo (.inl y :: .inl x :: st) σ kc ks Φ := by
  intro p e R s m args below meth c D ca ad0 ad n0 A H locs ls Q C X G L Y T
  exact lv_idiv C.1 C.2.1 hd hy (k p e R s m args below meth c D ca ad0 ad n0 A H locs ls Q C X G L ⟨Y.1, List.forall_mem_cons.mpr ⟨trivial, (List.forall_mem_cons.mp (List.forall_mem_cons.mp Y.2).2).2⟩⟩ T)

theorem gw_irem {x y : Int32} (hd : decode M.cc pc = .ok (.irem, 1)) (hy : ¬ y = 0) (k : GW l M (pc + 1) lo (.inl (x - x / y * y) :: st) σ kc ks Φ) : GW l M pc lo (.inl y :: .inl x :: st) σ kc ks Φ := by
  intro p e R s m args below meth c D ca ad0 ad n0 A H locs ls Q C X G L Y T
  exact lv_irem C.1 C.2.1 hd hy (k p e R s m args below meth c D ca ad0 ad n0 A H locs ls Q C X G L ⟨Y.1, List.forall_mem_cons.mpr ⟨trivial, (List.forall_mem_cons.mp (List.forall_mem_cons.mp Y.2).2).2⟩⟩ T)

theorem gw_ineg {x : Int32} (hd : decode M.cc pc = .ok (.ineg, 1)) (k : GW l M (pc + 1) lo (.inl (-x) :: st) σ kc ks Φ) : GW l M pc lo (.inl x :: st) σ kc ks Φ := by
  intro p e R s m args below meth c D ca ad0 ad n0 A H locs ls Q C X G L Y T
  exact lv_ineg C.1 C.2.1 hd (k p e R s m args below meth c D ca ad0 ad n0 A H locs ls Q C X G L ⟨Y.1, List.forall_mem_cons.mpr ⟨trivial, (List.forall_mem_cons.mp Y.2).2⟩⟩ T)

theorem gw_dup {v : Av} (hd : decode M.cc pc = .ok (.dup, 1)) (k : GW l M (pc + 1) lo (v :: v :: st) σ kc ks Φ) : GW l M pc lo (v :: st) σ kc ks Φ := by
  intro p e R s m args below meth c D ca ad0 ad n0 A H locs ls Q C X G L Y T
  exact lv_dup C.1 C.2.1 hd (vt_cat ad v) (k p e R s m args below meth c D ca ad0 ad n0 A H locs ls Q C X G L ⟨Y.1, List.forall_mem_cons.mpr ⟨(List.forall_mem_cons.mp Y.2).1, Y.2⟩⟩ T)

theorem gw_pop {v : Av} (hd : decode M.cc pc = .ok (.pop, 1)) (k : GW l M (pc + 1) lo (st) σ kc ks Φ) : GW l M pc lo (v :: st) σ kc ks Φ := by
  intro p e R s m args below meth c D ca ad0 ad n0 A H locs ls Q C X G L Y T
  exact lv_pop C.1 C.2.1 hd (vt_cat ad v) (k p e R s m args below meth c D ca ad0 ad n0 A H locs ls Q C X G L ⟨Y.1, (List.forall_mem_cons.mp Y.2).2⟩ T)

theorem gw_dup2 {v w : Av} (hd : decode M.cc pc = .ok (.dup2, 1)) (k : GW l M (pc + 1) lo (v :: w :: v :: w :: st) σ kc ks Φ) : GW l M pc lo (v :: w :: st) σ kc ks Φ := by
  intro p e R s m args below meth c D ca ad0 ad n0 A H locs ls Q C X G L Y T
  have Y3 := List.forall_mem_cons.mp Y.2
  have Y4 := List.forall_mem_cons.mp Y3.2
  exact lv_dup2_11 C.1 C.2.1 hd (vt_cat ad v) (vt_cat ad w) (k p e R s m args below meth c D ca ad0 ad n0 A H locs ls Q C X G L ⟨Y.1, List.forall_mem_cons.mpr ⟨Y3.1, List.forall_mem_cons.mpr ⟨Y4.1, Y.2⟩⟩⟩ T)

theorem gw_icmp_eq {x y : Int32} {off : Int} {tgt : Nat} (hd : decode M.cc pc = .ok (.if_icmp .eq off, 3)) (ht : (pc : Int) + off = (tgt : Int)) (kt : x = y → GW l M tgt lo st σ kc ks Φ) (kf : ¬ x = y → GW l M (pc + 3) lo st σ kc ks Φ) : GW l M pc lo (.inl y :: .inl x :: st) σ kc ks Φ := by
  intro p e R s m args below meth c D ca ad0 ad n0 A H locs ls Q C X G L Y T
  have Y2 := (List.forall_mem_cons.mp (List.forall_mem_cons.mp Y.2).2).2
  exact lv_icmp_eq C.1 C.2.1 hd ht (fun h => kt h p e R s m args below meth c D ca ad0 ad n0 A H locs ls Q C X G L ⟨Y.1, Y2⟩ T) (fun h => kf h p e R s m args below meth c D ca ad0 ad n0 A H locs ls Q C X G L ⟨Y.1, Y2⟩ T)

theorem gw_if_eq {x : Int32} {off : Int} {tgt : Nat} (hd : decode M.cc pc = .ok (.ifCond .eq off, 3)) (ht : (pc : Int) + off = (tgt : Int)) (kt : x = 0 → GW l M tgt lo st σ kc ks Φ) (kf : ¬ x = 0 → GW l M (pc + 3) lo st σ kc ks Φ) : GW l M pc lo (.inl x :: st) σ kc ks Φ := by
  intro p e R s m args below meth c D ca ad0 ad n0 A H locs ls Q C X G L Y T
  have Y2 := (List.forall_mem_cons.mp Y.2).2
  exact lv_if_eq C.1 C.2.1 hd ht (fun h => kt h p e R s m args below meth c D ca ad0 ad n0 A H locs ls Q C X G L ⟨Y.1, Y2⟩ T) (fun h => kf h p e R s m args below meth c D ca ad0 ad n0 A H locs ls Q C X G L ⟨Y.1, Y2⟩ T)

theorem gw_icmp_ne {x y : Int32} {off : Int} {tgt : Nat} (hd : decode M.cc pc = .ok (.if_icmp .ne off, 3)) (ht : (pc : Int) + off = (tgt : Int)) (kt : ¬ x = y → GW l M tgt lo st σ kc ks Φ) (kf : x = y → GW l M (pc + 3) lo st σ kc ks Φ) : GW l M pc lo (.inl y :: .inl x :: st) σ kc ks Φ := by
  intro p e R s m args below meth c D ca ad0 ad n0 A H locs ls Q C X G L Y T
  have Y2 := (List.forall_mem_cons.mp (List.forall_mem_cons.mp Y.2).2).2
  exact lv_icmp_ne C.1 C.2.1 hd ht (fun h => kt h p e R s m args below meth c D ca ad0 ad n0 A H locs ls Q C X G L ⟨Y.1, Y2⟩ T) (fun h => kf h p e R s m args below meth c D ca ad0 ad n0 A H locs ls Q C X G L ⟨Y.1, Y2⟩ T)

theorem gw_if_ne {x : Int32} {off : Int} {tgt : Nat} (hd : decode M.cc pc = .ok (.ifCond .ne off, 3)) (ht : (pc : Int) + off = (tgt : Int)) (kt : ¬ x = 0 → GW l M tgt lo st σ kc ks Φ) (kf : x = 0 → GW l M (pc + 3) lo st σ kc ks Φ) : GW l M pc lo (.inl x :: st) σ kc ks Φ := by
  intro p e R s m args below meth c D ca ad0 ad n0 A H locs ls Q C X G L Y T
  have Y2 := (List.forall_mem_cons.mp Y.2).2
  exact lv_if_ne C.1 C.2.1 hd ht (fun h => kt h p e R s m args below meth c D ca ad0 ad n0 A H locs ls Q C X G L ⟨Y.1, Y2⟩ T) (fun h => kf h p e R s m args below meth c D ca ad0 ad n0 A H locs ls Q C X G L ⟨Y.1, Y2⟩ T)

theorem gw_icmp_lt {x y : Int32} {off : Int} {tgt : Nat} (hd : decode M.cc pc = .ok (.if_icmp .lt off, 3)) (ht : (pc : Int) + off = (tgt : Int)) (kt : x < y → GW l M tgt lo st σ kc ks Φ) (kf : ¬ x < y → GW l M (pc + 3) lo st σ kc ks Φ) : GW l M pc lo (.inl y :: .inl x :: st) σ kc ks Φ := by
  intro p e R s m args below meth c D ca ad0 ad n0 A H locs ls Q C X G L Y T
  have Y2 := (List.forall_mem_cons.mp (List.forall_mem_cons.mp Y.2).2).2
  exact lv_icmp_lt C.1 C.2.1 hd ht (fun h => kt h p e R s m args below meth c D ca ad0 ad n0 A H locs ls Q C X G L ⟨Y.1, Y2⟩ T) (fun h => kf h p e R s m args below meth c D ca ad0 ad n0 A H locs ls Q C X G L ⟨Y.1, Y2⟩ T)

theorem gw_if_lt {x : Int32} {off : Int} {tgt : Nat} (hd : decode M.cc pc = .ok (.ifCond .lt off, 3)) (ht : (pc : Int) + off = (tgt : Int)) (kt : x < 0 → GW l M tgt lo st σ kc ks Φ) (kf : ¬ x < 0 → GW l M (pc + 3) lo st σ kc ks Φ) : GW l M pc lo (.inl x :: st) σ kc ks Φ := by
  intro p e R s m args below meth c D ca ad0 ad n0 A H locs ls Q C X G L Y T
  have Y2 := (List.forall_mem_cons.mp Y.2).2
  exact lv_if_lt C.1 C.2.1 hd ht (fun h => kt h p e R s m args below meth c D ca ad0 ad n0 A H locs ls Q C X G L ⟨Y.1, Y2⟩ T) (fun h => kf h p e R s m args below meth c D ca ad0 ad n0 A H locs ls Q C X G L ⟨Y.1, Y2⟩ T)

theorem gw_icmp_ge {x y : Int32} {off : Int} {tgt : Nat} (hd : decode M.cc pc = .ok (.if_icmp .ge off, 3)) (ht : (pc : Int) + off = (tgt : Int)) (kt : y ≤ x → GW l M tgt lo st σ kc ks Φ) (kf : ¬ y ≤ x → GW l M (pc + 3) lo st σ kc ks Φ) : GW l M pc lo (.inl y :: .inl x :: st) σ kc ks Φ := by
  intro p e R s m args below meth c D ca ad0 ad n0 A H locs ls Q C X G L Y T
  have Y2 := (List.forall_mem_cons.mp (List.forall_mem_cons.mp Y.2).2).2
  exact lv_icmp_ge C.1 C.2.1 hd ht (fun h => kt h p e R s m args below meth c D ca ad0 ad n0 A H locs ls Q C X G L ⟨Y.1, Y2⟩ T) (fun h => kf h p e R s m args below meth c D ca ad0 ad n0 A H locs ls Q C X G L ⟨Y.1, Y2⟩ T)

theorem gw_if_ge {x : Int32} {off : Int} {tgt : Nat} (hd : decode M.cc pc = .ok (.ifCond .ge off, 3)) (ht : (pc : Int) + off = (tgt : Int)) (kt : 0 ≤ x → GW l M tgt lo st σ kc ks Φ) (kf : ¬ 0 ≤ x → GW l M (pc + 3) lo st σ kc ks Φ) : GW l M pc lo (.inl x :: st) σ kc ks Φ := by
  intro p e R s m args below meth c D ca ad0 ad n0 A H locs ls Q C X G L Y T
  have Y2 := (List.forall_mem_cons.mp Y.2).2
  exact lv_if_ge C.1 C.2.1 hd ht (fun h => kt h p e R s m args below meth c D ca ad0 ad n0 A H locs ls Q C X G L ⟨Y.1, Y2⟩ T) (fun h => kf h p e R s m args below meth c D ca ad0 ad n0 A H locs ls Q C X G L ⟨Y.1, Y2⟩ T)

theorem gw_icmp_gt {x y : Int32} {off : Int} {tgt : Nat} (hd : decode M.cc pc = .ok (.if_icmp .gt off, 3)) (ht : (pc : Int) + off = (tgt : Int)) (kt : y < x → GW l M tgt lo st σ kc ks Φ) (kf : ¬ y < x → GW l M (pc + 3) lo st σ kc ks Φ) : GW l M pc lo (.inl y :: .inl x :: st) σ kc ks Φ := by
  intro p e R s m args below meth c D ca ad0 ad n0 A H locs ls Q C X G L Y T
  have Y2 := (List.forall_mem_cons.mp (List.forall_mem_cons.mp Y.2).2).2
  exact lv_icmp_gt C.1 C.2.1 hd ht (fun h => kt h p e R s m args below meth c D ca ad0 ad n0 A H locs ls Q C X G L ⟨Y.1, Y2⟩ T) (fun h => kf h p e R s m args below meth c D ca ad0 ad n0 A H locs ls Q C X G L ⟨Y.1, Y2⟩ T)

theorem gw_if_gt {x : Int32} {off : Int} {tgt : Nat} (hd : decode M.cc pc = .ok (.ifCond .gt off, 3)) (ht : (pc : Int) + off = (tgt : Int)) (kt : 0 < x → GW l M tgt lo st σ kc ks Φ) (kf : ¬ 0 < x → GW l M (pc + 3) lo st σ kc ks Φ) : GW l M pc lo (.inl x :: st) σ kc ks Φ := by
  intro p e R s m args below meth c D ca ad0 ad n0 A H locs ls Q C X G L Y T
  have Y2 := (List.forall_mem_cons.mp Y.2).2
  exact lv_if_gt C.1 C.2.1 hd ht (fun h => kt h p e R s m args below meth c D ca ad0 ad n0 A H locs ls Q C X G L ⟨Y.1, Y2⟩ T) (fun h => kf h p e R s m args below meth c D ca ad0 ad n0 A H locs ls Q C X G L ⟨Y.1, Y2⟩ T)

theorem gw_icmp_le {x y : Int32} {off : Int} {tgt : Nat} (hd : decode M.cc pc = .ok (.if_icmp .le off, 3)) (ht : (pc : Int) + off = (tgt : Int)) (kt : x ≤ y → GW l M tgt lo st σ kc ks Φ) (kf : ¬ x ≤ y → GW l M (pc + 3) lo st σ kc ks Φ) : GW l M pc lo (.inl y :: .inl x :: st) σ kc ks Φ := by
  intro p e R s m args below meth c D ca ad0 ad n0 A H locs ls Q C X G L Y T
  have Y2 := (List.forall_mem_cons.mp (List.forall_mem_cons.mp Y.2).2).2
  exact lv_icmp_le C.1 C.2.1 hd ht (fun h => kt h p e R s m args below meth c D ca ad0 ad n0 A H locs ls Q C X G L ⟨Y.1, Y2⟩ T) (fun h => kf h p e R s m args below meth c D ca ad0 ad n0 A H locs ls Q C X G L ⟨Y.1, Y2⟩ T)

theorem gw_if_le {x : Int32} {off : Int} {tgt : Nat} (hd : decode M.cc pc = .ok (.ifCond .le off, 3)) (ht : (pc : Int) + off = (tgt : Int)) (kt : x ≤ 0 → GW l M tgt lo st σ kc ks Φ) (kf : ¬ x ≤ 0 → GW l M (pc + 3) lo st σ kc ks Φ) : GW l M pc lo (.inl x :: st) σ kc ks Φ := by
  intro p e R s m args below meth c D ca ad0 ad n0 A H locs ls Q C X G L Y T
  have Y2 := (List.forall_mem_cons.mp Y.2).2
  exact lv_if_le C.1 C.2.1 hd ht (fun h => kt h p e R s m args below meth c D ca ad0 ad n0 A H locs ls Q C X G L ⟨Y.1, Y2⟩ T) (fun h => kf h p e R s m args below meth c D ca ad0 ad n0 A H locs ls Q C X G L ⟨Y.1, Y2⟩ T)

theorem gw_goto {off : Int} {tgt : Nat} (hd : decode M.cc pc = .ok (.goto off, 3)) (ht : (pc : Int) + off = (tgt : Int)) (k : GW l M tgt lo st σ kc ks Φ) : GW l M pc lo st σ kc ks Φ := by
  intro p e R s m args below meth c D ca ad0 ad n0 A H locs ls Q C X G L Y T
  exact lv_goto C.1 C.2.1 hd ht (k p e R s m args below meth c D ca ad0 ad n0 A H locs ls Q C X G L Y T)

theorem gw_ifnull {r : Nat} {off : Int} {tgt : Nat} (hd : decode M.cc pc = .ok (.ifnull off, 3)) (ht : (pc : Int) + off = (tgt : Int)) (kt : r = 0 → GW l M tgt lo st σ kc ks Φ) (kf : ¬ r = 0 → GW l M (pc + 3) lo st σ kc ks Φ) : GW l M pc lo (.inr r :: st) σ kc ks Φ := by
  intro p e R s m args below meth c D ca ad0 ad n0 A H locs ls Q C X G L Y T
  have Y2 := (List.forall_mem_cons.mp Y.2).2
  show W p l e R s m args below meth c H locs kc ks Q (F0 m pc ls (vt ad (.inr r) :: st.map (vt ad)))
  simp only [vt, ro]
  by_cases hx : r = 0
  · simp only [hx, if_true, va_rf]
    exact lv_ifnullN C.1 C.2.1 hd ht (kt hx p e R s m args below meth c D ca ad0 ad n0 A H locs ls Q C X G L ⟨Y.1, Y2⟩ T)
  · simp only [hx, if_false, va_rf]
    exact lv_ifnull C.1 C.2.1 hd (kf hx p e R s m args below meth c D ca ad0 ad n0 A H locs ls Q C X G L ⟨Y.1, Y2⟩ T)

theorem gw_ifnonnull {r : Nat} {off : Int} {tgt : Nat} (hd : decode M.cc pc = .ok (.ifnonnull off, 3)) (ht : (pc : Int) + off = (tgt : Int)) (kt : ¬ r = 0 → GW l M tgt lo st σ kc ks Φ) (kf : r = 0 → GW l M (pc + 3) lo st σ kc ks Φ) : GW l M pc lo (.inr r :: st) σ kc ks Φ := by
  intro p e R s m args below meth c D ca ad0 ad n0 A H locs ls Q C X G L Y T
  have Y2 := (List.forall_mem_cons.mp Y.2).2
  show W p l e R s m args below meth c H locs kc ks Q (F0 m pc ls (vt ad (.inr r) :: st.map (vt ad)))
  simp only [vt, ro]
  by_cases hx : r = 0
  · simp only [hx, if_true, va_rf]
    exact lv_ifnonnullN C.1 C.2.1 hd (kf hx p e R s m args below meth c D ca ad0 ad n0 A H locs ls Q C X G L ⟨Y.1, Y2⟩ T)
  · simp only [hx, if_false, va_rf]
    exact lv_ifnonnull C.1 C.2.1 hd ht (kt hx p e R s m args below meth c D ca ad0 ad n0 A H locs ls Q C X G L ⟨Y.1, Y2⟩ T)

theorem gw_tabOut {dflt lw hi : Int} {offs : Array Int} {len : Nat} {x : Int32} {tgt : Nat} (hd : decode M.cc pc = .ok (.tableswitch dflt lw hi offs, len)) (h : x.toInt < lw ∨ hi < x.toInt) (ht : (pc : Int) + dflt = (tgt : Int)) (k : GW l M tgt lo st σ kc ks Φ) : GW l M pc lo (.inl x :: st) σ kc ks Φ := by
  intro p e R s m args below meth c D ca ad0 ad n0 A H locs ls Q C X G L Y T
  exact lv_tableOut C.1 C.2.1 hd h ht (k p e R s m args below meth c D ca ad0 ad n0 A H locs ls Q C X G L ⟨Y.1, (List.forall_mem_cons.mp Y.2).2⟩ T)

theorem gw_tabIn {dflt lw hi : Int} {offs : Array Int} {len : Nat} {x : Int32} {off : Int} {tgt : Nat} (hd : decode M.cc pc = .ok (.tableswitch dflt lw hi offs, len)) (h1 : ¬ x.toInt < lw) (h2 : ¬ hi < x.toInt) (ho : offs[(x.toInt - lw).toNat]? = some off) (ht : (pc : Int) + off = (tgt : Int)) (k : GW l M tgt lo st σ kc ks Φ) : GW l M pc lo (.inl x :: st) σ kc ks Φ := by
  intro p e R s m args below meth c D ca ad0 ad n0 A H locs ls Q C X G L Y T
  exact lv_tableIn C.1 C.2.1 hd h1 h2 ho ht (k p e R s m args below meth c D ca ad0 ad n0 A H locs ls Q C X G L ⟨Y.1, (List.forall_mem_cons.mp Y.2).2⟩ T)

theorem gw_ret (hd : M.rt = none ∧ decode M.cc pc = .ok (.return_, 1)) (hk : kc ≤ M.mc) (hs : ks ≤ M.ms) (h : Φ none σ) : GW l M pc lo [] σ kc ks Φ := by
  intro p e R s m args below meth c D ca ad0 ad n0 A H locs ls Q C X G L Y T
  exact T none σ ad H locs ls pc kc ks h X G hk hs hd (fun v hv => by cases hv)

theorem gw_iret {v : Int32} (ty : FieldType) (hd : decode M.cc pc = .ok (.ireturn, 1)) (hty : M.rt = some ty) (hn : narrow ty (.int v) = .int v) (hk : kc ≤ M.mc) (hs : ks ≤ M.ms) (h : Φ (some (.inl v)) σ) : GW l M pc lo [.inl v] σ kc ks Φ := by
  intro p e R s m args below meth c D ca ad0 ad n0 A H locs ls Q C X G L Y T
  exact T (some (.inl v)) σ ad H locs ls pc kc ks h X G hk hs ⟨⟨ty, hty, hn⟩, hd⟩ (fun v hv => by cases hv; trivial)

theorem gw_aret {r : Nat} (hd : decode M.cc pc = .ok (.areturn, 1)) (hty : ∃ rt, M.rt = some rt ∧ ((∃ n, rt = .object n) ∨ ∃ t, rt = .array t)) (hk : kc ≤ M.mc) (hs : ks ≤ M.ms) (h : Φ (some (.inr r)) σ) : GW l M pc lo [.inr r] σ kc ks Φ := by
  intro p e R s m args below meth c D ca ad0 ad n0 A H locs ls Q C X G L Y T
  exact T (some (.inr r)) σ ad H locs ls pc kc ks h X G hk hs ⟨hty, hd⟩ (fun v hv => by cases hv; exact (List.forall_mem_cons.mp Y.2).1)

theorem gw_sub {lo' : List (Nat × Av)} (hs : ∀ q ∈ lo', q ∈ lo) (k : GW l M pc lo' st σ kc ks Φ) : GW l M pc lo st σ kc ks Φ := by
  intro p e R s m args below meth c D ca ad0 ad n0 A H locs ls Q C X G L Y T
  exact k p e R s m args below meth c D ca ad0 ad n0 A H locs ls Q C X G (lt_sub L hs) ⟨fun q hq => Y.1 q (hs q hq), Y.2⟩ T

theorem gw_imp {Ψ : Option Av → Sg → Prop} (h : ∀ r σ, Ψ r σ → Φ r σ) (k : GW l M pc lo st σ kc ks Ψ) : GW l M pc lo st σ kc ks Φ := by
  intro p e R s m args below meth c D ca ad0 ad n0 A H locs ls Q C X G L Y T
  exact k p e R s m args below meth c D ca ad0 ad n0 A H locs ls Q C X G L Y (fun r σ ad H locs ls pc kc ks hΨ => T r σ ad H locs ls pc kc ks (h r σ hΨ))

end GR
