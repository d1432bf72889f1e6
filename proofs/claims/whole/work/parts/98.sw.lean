/-! the law: rules with the script in the world -/
/-- as Cx, without the method's name -/
def Cxs (M : Mth) (p : Program) (R : Room) (s : State) (m : MethodId) (args : Array Value) (meth : Method) (c : Code) : Prop :=
  p.tables.exec = Jvm.exec ∧ c.code = M.cc ∧ c.maxLocals = M.nL ∧ s.vm.findClass M.y.cls = some m.cls ∧ (∀ w ∈ gt, w.before args s = true) ∧ meth.locks = false ∧ meth.sig.returnType = M.rt ∧ True ∧
  M.dp ≤ R.frames ∧ 64 * M.dp ≤ R.locals ∧ M.mc ≤ R.cells ∧ M.ms ≤ R.slots
/-- the script, by the number 3000000 -/
def Rts (sL : Nat) (sx : Nat → Int32) (l : Launch) (M : Mth) (Φ : Option Av → Sg → Prop) (p : Program) (e : Env) (R : Room) (s : State) (m : MethodId) (args : Array Value) (below : List Frame) (meth : Method) (c : Code) (D : va_G) (ca : Nat → ClassId) (ad0 : Nat → Nat) (n0 : Nat) (A : Nat → Prop) (Q : State → Prop) : Prop :=
  Rt l M Φ p e R s m args below meth c D ca ad0 n0 A Q ∧ va_X (ad0 3000000) sL sx s s.heap ∧ ad0 3000000 < s.heap.size ∧ ¬ A (ad0 3000000) ∧ Thr A s s.heap
/-- from here the law comes to an end with Φ -/
def SW (sL : Nat) (sx : Nat → Int32) (l : Launch) (M : Mth) (pc : Nat) (lo : List (Nat × Av)) (st : List Av) (σ : Sg) (kc ks : Nat) (Φ : Option Av → Sg → Prop) : Prop :=
  ∀ (p : Program) (e : Env) (R : Room) (s : State) (m : MethodId) (args : Array Value) (below : List Frame) (meth : Method) (c : Code) (D : va_G) (ca : Nat → ClassId) (ad0 ad : Nat → Nat) (n0 : Nat) (A : Nat → Prop) (H : Heap) (locs : List Loc) (ls : Array Slot) (Q : State → Prop),
    Cxs M p R s m args meth c → Wd D ca ad A s H locs σ → Ag ad0 n0 ad σ → lv_has ls M.nL (lt ad lo) → ((∀ q ∈ lo, okv σ.1 q.2) ∧ ∀ v ∈ st, okv σ.1 v) → Rts sL sx l M Φ p e R s m args below meth c D ca ad0 n0 A Q →
    W p l e R s m args below meth c H locs kc ks Q (F0 m pc ls (st.map (vt ad)))
section SWR
variable {sL : Nat} {sx : Nat → Int32} {l : Launch} {M : Mth} {pc : Nat} {lo : List (Nat × Av)} {st : List Av} {σ : Sg} {kc ks : Nat} {Φ : Option Av → Sg → Prop}
theorem sw_iconst {n : Int} {v : Int32} (hd : decode M.cc pc = .ok (.iconst n, 1)) (hv : Int32.ofInt n = v) (k : SW sL sx l M (pc + 1) lo (.inl v :: st) σ kc ks Φ) : SW sL sx l M pc lo (st) σ kc ks Φ := by
  intro p e R s m args below meth c D ca ad0 ad n0 A H locs ls Q C X G L Y T
  exact lv_iconst C.1 C.2.1 hd hv (k p e R s m args below meth c D ca ad0 ad n0 A H locs ls Q C X G L ⟨Y.1, List.forall_mem_cons.mpr ⟨trivial, Y.2⟩⟩ T)
theorem sw_bipush {n : Int} {v : Int32} (hd : decode M.cc pc = .ok (.bipush n, 2)) (hv : (Int8.ofInt n).toInt32 = v) (k : SW sL sx l M (pc + 2) lo (.inl v :: st) σ kc ks Φ) : SW sL sx l M pc lo (st) σ kc ks Φ := by
  intro p e R s m args below meth c D ca ad0 ad n0 A H locs ls Q C X G L Y T
  exact lv_bipush C.1 C.2.1 hd hv (k p e R s m args below meth c D ca ad0 ad n0 A H locs ls Q C X G L ⟨Y.1, List.forall_mem_cons.mpr ⟨trivial, Y.2⟩⟩ T)
theorem sw_sipush {n : Int} {v : Int32} (hd : decode M.cc pc = .ok (.sipush n, 3)) (hv : (Int16.ofInt n).toInt32 = v) (k : SW sL sx l M (pc + 3) lo (.inl v :: st) σ kc ks Φ) : SW sL sx l M pc lo (st) σ kc ks Φ := by
  intro p e R s m args below meth c D ca ad0 ad n0 A H locs ls Q C X G L Y T
  exact lv_sipush C.1 C.2.1 hd hv (k p e R s m args below meth c D ca ad0 ad n0 A H locs ls Q C X G L ⟨Y.1, List.forall_mem_cons.mpr ⟨trivial, Y.2⟩⟩ T)
theorem sw_iload_n {j : Fin 4} {i q : Nat} {x : Int32} (hd : decode M.cc pc = .ok (.iload_n j, 1)) (hi : (j : Nat) = i) (hl : lo[q]? = some (i, .inl x)) (k : SW sL sx l M (pc + 1) lo (.inl x :: st) σ kc ks Φ) : SW sL sx l M pc lo (st) σ kc ks Φ := by
  intro p e R s m args below meth c D ca ad0 ad n0 A H locs ls Q C X G L Y T
  exact lv_iload_n C.1 C.2.1 hd hi (lt_at L q hl) (k p e R s m args below meth c D ca ad0 ad n0 A H locs ls Q C X G L ⟨Y.1, List.forall_mem_cons.mpr ⟨trivial, Y.2⟩⟩ T)
theorem sw_iload {i q : Nat} {x : Int32} (hd : decode M.cc pc = .ok (.iload i, 2)) (hl : lo[q]? = some (i, .inl x)) (k : SW sL sx l M (pc + 2) lo (.inl x :: st) σ kc ks Φ) : SW sL sx l M pc lo (st) σ kc ks Φ := by
  intro p e R s m args below meth c D ca ad0 ad n0 A H locs ls Q C X G L Y T
  exact lv_iload C.1 C.2.1 hd (lt_at L q hl) (k p e R s m args below meth c D ca ad0 ad n0 A H locs ls Q C X G L ⟨Y.1, List.forall_mem_cons.mpr ⟨trivial, Y.2⟩⟩ T)
theorem sw_aload_n {j : Fin 4} {i q x : Nat} (hd : decode M.cc pc = .ok (.aload_n j, 1)) (hi : (j : Nat) = i) (hl : lo[q]? = some (i, .inr x)) (k : SW sL sx l M (pc + 1) lo (.inr x :: st) σ kc ks Φ) : SW sL sx l M pc lo (st) σ kc ks Φ := by
  intro p e R s m args below meth c D ca ad0 ad n0 A H locs ls Q C X G L Y T
  have h1 := lt_at L q hl
  have h2 : W p l e R s m args below meth c H locs kc ks Q (F0 m (pc + 1) ls ((.inr x :: st).map (vt ad))) := k p e R s m args below meth c D ca ad0 ad n0 A H locs ls Q C X G L ⟨Y.1, List.forall_mem_cons.mpr ⟨Y.1 _ (List.mem_of_getElem? hl), Y.2⟩⟩ T
  simp only [List.map_cons, vt, ro] at h1 h2
  by_cases hx : x = 0
  · simp only [hx, if_true, va_rf] at h1 h2
    exact lv_aload_nN C.1 C.2.1 hd hi h1 h2
  · simp only [hx, if_false, va_rf] at h1 h2
    exact lv_aload_n C.1 C.2.1 hd hi h1 h2
theorem sw_aload {i q x : Nat} (hd : decode M.cc pc = .ok (.aload i, 2)) (hl : lo[q]? = some (i, .inr x)) (k : SW sL sx l M (pc + 2) lo (.inr x :: st) σ kc ks Φ) : SW sL sx l M pc lo (st) σ kc ks Φ := by
  intro p e R s m args below meth c D ca ad0 ad n0 A H locs ls Q C X G L Y T
  have h1 := lt_at L q hl
  have h2 : W p l e R s m args below meth c H locs kc ks Q (F0 m (pc + 2) ls ((.inr x :: st).map (vt ad))) := k p e R s m args below meth c D ca ad0 ad n0 A H locs ls Q C X G L ⟨Y.1, List.forall_mem_cons.mpr ⟨Y.1 _ (List.mem_of_getElem? hl), Y.2⟩⟩ T
  simp only [List.map_cons, vt, ro] at h1 h2
  by_cases hx : x = 0
  · simp only [hx, if_true, va_rf] at h1 h2
    exact lv_aloadN C.1 C.2.1 hd h1 h2
  · simp only [hx, if_false, va_rf] at h1 h2
    exact lv_aload C.1 C.2.1 hd h1 h2
theorem sw_istore_n {lo' : List (Nat × Av)} {j : Fin 4} {i : Nat} {x : Int32} (hd : decode M.cc pc = .ok (.istore_n j, 1)) (hi : (j : Nat) = i) (hn : i < M.nL) (hlo : sto lo i (.inl x) = lo') (k : SW sL sx l M (pc + 1) lo' (st) σ kc ks Φ) : SW sL sx l M pc lo ((.inl x) :: st) σ kc ks Φ := by
  intro p e R s m args below meth c D ca ad0 ad n0 A H locs ls Q C X G L Y T
  have Y2 := List.forall_mem_cons.mp Y.2
  exact lv_istore_n C.1 C.2.1 hd hi L hn rfl (fun ls h => k p e R s m args below meth c D ca ad0 ad n0 A H locs ls Q C X G (hlo ▸ sto_has h) ⟨hlo ▸ sto_ok Y.1 trivial, Y2.2⟩ T)
theorem sw_istore {lo' : List (Nat × Av)} {i : Nat} {x : Int32} (hd : decode M.cc pc = .ok (.istore i, 2)) (hn : i < M.nL) (hlo : sto lo i (.inl x) = lo') (k : SW sL sx l M (pc + 2) lo' (st) σ kc ks Φ) : SW sL sx l M pc lo ((.inl x) :: st) σ kc ks Φ := by
  intro p e R s m args below meth c D ca ad0 ad n0 A H locs ls Q C X G L Y T
  have Y2 := List.forall_mem_cons.mp Y.2
  exact lv_istore C.1 C.2.1 hd L hn rfl (fun ls h => k p e R s m args below meth c D ca ad0 ad n0 A H locs ls Q C X G (hlo ▸ sto_has h) ⟨hlo ▸ sto_ok Y.1 trivial, Y2.2⟩ T)
theorem sw_astore_n {lo' : List (Nat × Av)} {j : Fin 4} {i x : Nat} (hd : decode M.cc pc = .ok (.astore_n j, 1)) (hi : (j : Nat) = i) (hn : i < M.nL) (hlo : sto lo i (.inr x) = lo') (k : SW sL sx l M (pc + 1) lo' (st) σ kc ks Φ) : SW sL sx l M pc lo ((.inr x) :: st) σ kc ks Φ := by
  intro p e R s m args below meth c D ca ad0 ad n0 A H locs ls Q C X G L Y T
  have Y2 := List.forall_mem_cons.mp Y.2
  have hk : ∀ ls, lv_has ls M.nL ((i, vt ad (.inr x)) :: (lt ad lo).filter (fun q => !(q.1 == i) && !(q.1 + 1 == i && q.2.category == 2))) → W p l e R s m args below meth c H locs kc ks Q (F0 m (pc + 1) ls (st.map (vt ad))) := fun ls h => k p e R s m args below meth c D ca ad0 ad n0 A H locs ls Q C X G (hlo ▸ sto_has h) ⟨hlo ▸ sto_ok Y.1 Y2.1, Y2.2⟩ T
  show W p l e R s m args below meth c H locs kc ks Q (F0 m pc ls (vt ad (.inr x) :: st.map (vt ad)))
  simp only [vt, ro] at hk ⊢
  by_cases hx : x = 0
  · simp only [hx, if_true, va_rf] at hk ⊢
    exact lv_astore_nN C.1 C.2.1 hd hi L hn rfl (fun ls h => hk ls h)
  · simp only [hx, if_false, va_rf] at hk ⊢
    exact lv_astore_n C.1 C.2.1 hd hi L hn rfl (fun ls h => hk ls h)
theorem sw_astore {lo' : List (Nat × Av)} {i x : Nat} (hd : decode M.cc pc = .ok (.astore i, 2)) (hn : i < M.nL) (hlo : sto lo i (.inr x) = lo') (k : SW sL sx l M (pc + 2) lo' (st) σ kc ks Φ) : SW sL sx l M pc lo ((.inr x) :: st) σ kc ks Φ := by
  intro p e R s m args below meth c D ca ad0 ad n0 A H locs ls Q C X G L Y T
  have Y2 := List.forall_mem_cons.mp Y.2
  have hk : ∀ ls, lv_has ls M.nL ((i, vt ad (.inr x)) :: (lt ad lo).filter (fun q => !(q.1 == i) && !(q.1 + 1 == i && q.2.category == 2))) → W p l e R s m args below meth c H locs kc ks Q (F0 m (pc + 2) ls (st.map (vt ad))) := fun ls h => k p e R s m args below meth c D ca ad0 ad n0 A H locs ls Q C X G (hlo ▸ sto_has h) ⟨hlo ▸ sto_ok Y.1 Y2.1, Y2.2⟩ T
  show W p l e R s m args below meth c H locs kc ks Q (F0 m pc ls (vt ad (.inr x) :: st.map (vt ad)))
  simp only [vt, ro] at hk ⊢
  by_cases hx : x = 0
  · simp only [hx, if_true, va_rf] at hk ⊢
    exact lv_astoreN C.1 C.2.1 hd L hn rfl (fun ls h => hk ls h)
  · simp only [hx, if_false, va_rf] at hk ⊢
    exact lv_astore C.1 C.2.1 hd L hn rfl (fun ls h => hk ls h)
theorem sw_iinc {lo' : List (Nat × Av)} {i q : Nat} {n : Int} {x v : Int32} (hd : decode M.cc pc = .ok (.iinc i n, 3)) (hl : lo[q]? = some (i, .inl x)) (hv : x + Int32.ofInt n = v) (hn : i < M.nL) (hlo : sto lo i (.inl v) = lo') (k : SW sL sx l M (pc + 3) lo' st σ kc ks Φ) : SW sL sx l M pc lo st σ kc ks Φ := by
  intro p e R s m args below meth c D ca ad0 ad n0 A H locs ls Q C X G L Y T
  exact lv_iinc C.1 C.2.1 hd L (k := q) (by unfold lt; rw [List.getElem?_map, hl]; rfl) hv hn rfl (fun ls h => k p e R s m args below meth c D ca ad0 ad n0 A H locs ls Q C X G (hlo ▸ sto_has (v := .inl v) h) ⟨hlo ▸ sto_ok Y.1 trivial, Y.2⟩ T)
theorem sw_iadd {x y : Int32} (hd : decode M.cc pc = .ok (.iadd, 1)) (k : SW sL sx l M (pc + 1) lo (.inl (x + y) :: st) σ kc ks Φ) : SW sL sx l M pc lo (.inl y :: .inl x :: st) σ kc ks Φ := by
  intro p e R s m args below meth c D ca ad0 ad n0 A H locs ls Q C X G L Y T
  exact lv_iadd C.1 C.2.1 hd (k p e R s m args below meth c D ca ad0 ad n0 A H locs ls Q C X G L ⟨Y.1, List.forall_mem_cons.mpr ⟨trivial, (List.forall_mem_cons.mp (List.forall_mem_cons.mp Y.2).2).2⟩⟩ T)
theorem sw_isub {x y : Int32} (hd : decode M.cc pc = .ok (.isub, 1)) (k : SW sL sx l M (pc + 1) lo (.inl (x - y) :: st) σ kc ks Φ) : SW sL sx l M pc lo (.inl y :: .inl x :: st) σ kc ks Φ := by
  intro p e R s m args below meth c D ca ad0 ad n0 A H locs ls Q C X G L Y T
  exact lv_isub C.1 C.2.1 hd (k p e R s m args below meth c D ca ad0 ad n0 A H locs ls Q C X G L ⟨Y.1, List.forall_mem_cons.mpr ⟨trivial, (List.forall_mem_cons.mp (List.forall_mem_cons.mp Y.2).2).2⟩⟩ T)
theorem sw_iand {x y : Int32} (hd : decode M.cc pc = .ok (.iand, 1)) (k : SW sL sx l M (pc + 1) lo (.inl (x &&& y) :: st) σ kc ks Φ) : SW sL sx l M pc lo (.inl y :: .inl x :: st) σ kc ks Φ := by
  intro p e R s m args below meth c D ca ad0 ad n0 A H locs ls Q C X G L Y T
  exact lv_iand C.1 C.2.1 hd (k p e R s m args below meth c D ca ad0 ad n0 A H locs ls Q C X G L ⟨Y.1, List.forall_mem_cons.mpr ⟨trivial, (List.forall_mem_cons.mp (List.forall_mem_cons.mp Y.2).2).2⟩⟩ T)
theorem sw_dup {v : Av} (hd : decode M.cc pc = .ok (.dup, 1)) (k : SW sL sx l M (pc + 1) lo (v :: v :: st) σ kc ks Φ) : SW sL sx l M pc lo (v :: st) σ kc ks Φ := by
  intro p e R s m args below meth c D ca ad0 ad n0 A H locs ls Q C X G L Y T
  exact lv_dup C.1 C.2.1 hd (vt_cat ad v) (k p e R s m args below meth c D ca ad0 ad n0 A H locs ls Q C X G L ⟨Y.1, List.forall_mem_cons.mpr ⟨(List.forall_mem_cons.mp Y.2).1, Y.2⟩⟩ T)
theorem sw_pop {v : Av} (hd : decode M.cc pc = .ok (.pop, 1)) (k : SW sL sx l M (pc + 1) lo (st) σ kc ks Φ) : SW sL sx l M pc lo (v :: st) σ kc ks Φ := by
  intro p e R s m args below meth c D ca ad0 ad n0 A H locs ls Q C X G L Y T
  exact lv_pop C.1 C.2.1 hd (vt_cat ad v) (k p e R s m args below meth c D ca ad0 ad n0 A H locs ls Q C X G L ⟨Y.1, (List.forall_mem_cons.mp Y.2).2⟩ T)
theorem sw_icmp_eq {x y : Int32} {off : Int} {tgt : Nat} (hd : decode M.cc pc = .ok (.if_icmp .eq off, 3)) (ht : (pc : Int) + off = (tgt : Int)) (kt : x = y → SW sL sx l M tgt lo st σ kc ks Φ) (kf : ¬ x = y → SW sL sx l M (pc + 3) lo st σ kc ks Φ) : SW sL sx l M pc lo (.inl y :: .inl x :: st) σ kc ks Φ := by
  intro p e R s m args below meth c D ca ad0 ad n0 A H locs ls Q C X G L Y T
  have Y2 := (List.forall_mem_cons.mp (List.forall_mem_cons.mp Y.2).2).2
  exact lv_icmp_eq C.1 C.2.1 hd ht (fun h => kt h p e R s m args below meth c D ca ad0 ad n0 A H locs ls Q C X G L ⟨Y.1, Y2⟩ T) (fun h => kf h p e R s m args below meth c D ca ad0 ad n0 A H locs ls Q C X G L ⟨Y.1, Y2⟩ T)
theorem sw_if_eq {x : Int32} {off : Int} {tgt : Nat} (hd : decode M.cc pc = .ok (.ifCond .eq off, 3)) (ht : (pc : Int) + off = (tgt : Int)) (kt : x = 0 → SW sL sx l M tgt lo st σ kc ks Φ) (kf : ¬ x = 0 → SW sL sx l M (pc + 3) lo st σ kc ks Φ) : SW sL sx l M pc lo (.inl x :: st) σ kc ks Φ := by
  intro p e R s m args below meth c D ca ad0 ad n0 A H locs ls Q C X G L Y T
  have Y2 := (List.forall_mem_cons.mp Y.2).2
  exact lv_if_eq C.1 C.2.1 hd ht (fun h => kt h p e R s m args below meth c D ca ad0 ad n0 A H locs ls Q C X G L ⟨Y.1, Y2⟩ T) (fun h => kf h p e R s m args below meth c D ca ad0 ad n0 A H locs ls Q C X G L ⟨Y.1, Y2⟩ T)
theorem sw_icmp_ne {x y : Int32} {off : Int} {tgt : Nat} (hd : decode M.cc pc = .ok (.if_icmp .ne off, 3)) (ht : (pc : Int) + off = (tgt : Int)) (kt : ¬ x = y → SW sL sx l M tgt lo st σ kc ks Φ) (kf : x = y → SW sL sx l M (pc + 3) lo st σ kc ks Φ) : SW sL sx l M pc lo (.inl y :: .inl x :: st) σ kc ks Φ := by
  intro p e R s m args below meth c D ca ad0 ad n0 A H locs ls Q C X G L Y T
  have Y2 := (List.forall_mem_cons.mp (List.forall_mem_cons.mp Y.2).2).2
  exact lv_icmp_ne C.1 C.2.1 hd ht (fun h => kt h p e R s m args below meth c D ca ad0 ad n0 A H locs ls Q C X G L ⟨Y.1, Y2⟩ T) (fun h => kf h p e R s m args below meth c D ca ad0 ad n0 A H locs ls Q C X G L ⟨Y.1, Y2⟩ T)
theorem sw_if_ne {x : Int32} {off : Int} {tgt : Nat} (hd : decode M.cc pc = .ok (.ifCond .ne off, 3)) (ht : (pc : Int) + off = (tgt : Int)) (kt : ¬ x = 0 → SW sL sx l M tgt lo st σ kc ks Φ) (kf : x = 0 → SW sL sx l M (pc + 3) lo st σ kc ks Φ) : SW sL sx l M pc lo (.inl x :: st) σ kc ks Φ := by
  intro p e R s m args below meth c D ca ad0 ad n0 A H locs ls Q C X G L Y T
  have Y2 := (List.forall_mem_cons.mp Y.2).2
  exact lv_if_ne C.1 C.2.1 hd ht (fun h => kt h p e R s m args below meth c D ca ad0 ad n0 A H locs ls Q C X G L ⟨Y.1, Y2⟩ T) (fun h => kf h p e R s m args below meth c D ca ad0 ad n0 A H locs ls Q C X G L ⟨Y.1, Y2⟩ T)
theorem sw_icmp_lt {x y : Int32} {off : Int} {tgt : Nat} (hd : decode M.cc pc = .ok (.if_icmp .lt off, 3)) (ht : (pc : Int) + off = (tgt : Int)) (kt : x < y → SW sL sx l M tgt lo st σ kc ks Φ) (kf : ¬ x < y → SW sL sx l M (pc + 3) lo st σ kc ks Φ) : SW sL sx l M pc lo (.inl y :: .inl x :: st) σ kc ks Φ := by
  intro p e R s m args below meth c D ca ad0 ad n0 A H locs ls Q C X G L Y T
  have Y2 := (List.forall_mem_cons.mp (List.forall_mem_cons.mp Y.2).2).2
  exact lv_icmp_lt C.1 C.2.1 hd ht (fun h => kt h p e R s m args below meth c D ca ad0 ad n0 A H locs ls Q C X G L ⟨Y.1, Y2⟩ T) (fun h => kf h p e R s m args below meth c D ca ad0 ad n0 A H locs ls Q C X G L ⟨Y.1, Y2⟩ T)
theorem sw_icmp_ge {x y : Int32} {off : Int} {tgt : Nat} (hd : decode M.cc pc = .ok (.if_icmp .ge off, 3)) (ht : (pc : Int) + off = (tgt : Int)) (kt : y ≤ x → SW sL sx l M tgt lo st σ kc ks Φ) (kf : ¬ y ≤ x → SW sL sx l M (pc + 3) lo st σ kc ks Φ) : SW sL sx l M pc lo (.inl y :: .inl x :: st) σ kc ks Φ := by
  intro p e R s m args below meth c D ca ad0 ad n0 A H locs ls Q C X G L Y T
  have Y2 := (List.forall_mem_cons.mp (List.forall_mem_cons.mp Y.2).2).2
  exact lv_icmp_ge C.1 C.2.1 hd ht (fun h => kt h p e R s m args below meth c D ca ad0 ad n0 A H locs ls Q C X G L ⟨Y.1, Y2⟩ T) (fun h => kf h p e R s m args below meth c D ca ad0 ad n0 A H locs ls Q C X G L ⟨Y.1, Y2⟩ T)
theorem sw_icmp_gt {x y : Int32} {off : Int} {tgt : Nat} (hd : decode M.cc pc = .ok (.if_icmp .gt off, 3)) (ht : (pc : Int) + off = (tgt : Int)) (kt : y < x → SW sL sx l M tgt lo st σ kc ks Φ) (kf : ¬ y < x → SW sL sx l M (pc + 3) lo st σ kc ks Φ) : SW sL sx l M pc lo (.inl y :: .inl x :: st) σ kc ks Φ := by
  intro p e R s m args below meth c D ca ad0 ad n0 A H locs ls Q C X G L Y T
  have Y2 := (List.forall_mem_cons.mp (List.forall_mem_cons.mp Y.2).2).2
  exact lv_icmp_gt C.1 C.2.1 hd ht (fun h => kt h p e R s m args below meth c D ca ad0 ad n0 A H locs ls Q C X G L ⟨Y.1, Y2⟩ T) (fun h => kf h p e R s m args below meth c D ca ad0 ad n0 A H locs ls Q C X G L ⟨Y.1, Y2⟩ T)
theorem sw_icmp_le {x y : Int32} {off : Int} {tgt : Nat} (hd : decode M.cc pc = .ok (.if_icmp .le off, 3)) (ht : (pc : Int) + off = (tgt : Int)) (kt : x ≤ y → SW sL sx l M tgt lo st σ kc ks Φ) (kf : ¬ x ≤ y → SW sL sx l M (pc + 3) lo st σ kc ks Φ) : SW sL sx l M pc lo (.inl y :: .inl x :: st) σ kc ks Φ := by
  intro p e R s m args below meth c D ca ad0 ad n0 A H locs ls Q C X G L Y T
  have Y2 := (List.forall_mem_cons.mp (List.forall_mem_cons.mp Y.2).2).2
  exact lv_icmp_le C.1 C.2.1 hd ht (fun h => kt h p e R s m args below meth c D ca ad0 ad n0 A H locs ls Q C X G L ⟨Y.1, Y2⟩ T) (fun h => kf h p e R s m args below meth c D ca ad0 ad n0 A H locs ls Q C X G L ⟨Y.1, Y2⟩ T)
theorem sw_goto {off : Int} {tgt : Nat} (hd : decode M.cc pc = .ok (.goto off, 3)) (ht : (pc : Int) + off = (tgt : Int)) (k : SW sL sx l M tgt lo st σ kc ks Φ) : SW sL sx l M pc lo st σ kc ks Φ := by
  intro p e R s m args below meth c D ca ad0 ad n0 A H locs ls Q C X G L Y T
  exact lv_goto C.1 C.2.1 hd ht (k p e R s m args below meth c D ca ad0 ad n0 A H locs ls Q C X G L Y T)
theorem sw_tabOut {dflt lw hi : Int} {offs : Array Int} {len : Nat} {x : Int32} {tgt : Nat} (hd : decode M.cc pc = .ok (.tableswitch dflt lw hi offs, len)) (h : x.toInt < lw ∨ hi < x.toInt) (ht : (pc : Int) + dflt = (tgt : Int)) (k : SW sL sx l M tgt lo st σ kc ks Φ) : SW sL sx l M pc lo (.inl x :: st) σ kc ks Φ := by
  intro p e R s m args below meth c D ca ad0 ad n0 A H locs ls Q C X G L Y T
  exact lv_tableOut C.1 C.2.1 hd h ht (k p e R s m args below meth c D ca ad0 ad n0 A H locs ls Q C X G L ⟨Y.1, (List.forall_mem_cons.mp Y.2).2⟩ T)
theorem sw_tabIn {dflt lw hi : Int} {offs : Array Int} {len : Nat} {x : Int32} {off : Int} {tgt : Nat} (hd : decode M.cc pc = .ok (.tableswitch dflt lw hi offs, len)) (h1 : ¬ x.toInt < lw) (h2 : ¬ hi < x.toInt) (ho : offs[(x.toInt - lw).toNat]? = some off) (ht : (pc : Int) + off = (tgt : Int)) (k : SW sL sx l M tgt lo st σ kc ks Φ) : SW sL sx l M pc lo (.inl x :: st) σ kc ks Φ := by
  intro p e R s m args below meth c D ca ad0 ad n0 A H locs ls Q C X G L Y T
  exact lv_tableIn C.1 C.2.1 hd h1 h2 ho ht (k p e R s m args below meth c D ca ad0 ad n0 A H locs ls Q C X G L ⟨Y.1, (List.forall_mem_cons.mp Y.2).2⟩ T)
theorem sw_sub {lo' : List (Nat × Av)} (hs : ∀ q ∈ lo', q ∈ lo) (k : SW sL sx l M pc lo' st σ kc ks Φ) : SW sL sx l M pc lo st σ kc ks Φ := by
  intro p e R s m args below meth c D ca ad0 ad n0 A H locs ls Q C X G L Y T
  exact k p e R s m args below meth c D ca ad0 ad n0 A H locs ls Q C X G (lt_sub L hs) ⟨fun q hq => Y.1 q (hs q hq), Y.2⟩ T
theorem sw_callK {g : Mth} {as st0 : List Av} {Φ' : Option Av → Sg → Prop}
    (hrun : ∀ (p : Program) (e : Env) (R : Room) (s : State) (m : MethodId) (args : Array Value) (below : List Frame) (meth : Method) (c : Code) (D : va_G) (ca : Nat → ClassId) (ad : Nat → Nat) (A : Nat → Prop) (H : Heap) (locs : List Loc) (ls : Array Slot), Cxs M p R s m args meth c → Wd D ca ad A s H locs σ → ls.size = M.nL → (∀ v ∈ st0, okv σ.1 v) → σ.1 ≤ 1000 →
      va_Run p l e R s m args below meth c H locs kc ks g.mc g.ms (F0 m pc ls (st0.map (vt ad))) (st.map (vt ad)) (QC D ca ad σ H.size Φ' ((as.map (vt ad)).toArray)) (va_A (wl ad ca σ) H.size))
    (hst : ∀ v ∈ st, v ∈ st0)
    (kk : ∀ r σ', Φ' r σ' → σ.1 ≤ σ'.1 → SW sL sx l M (pc + 3) lo (r.toList ++ st) σ' (kc + g.mc) (ks + g.ms) Φ) : SW sL sx l M pc lo st0 σ kc ks Φ := by
  intro p e R s m args below meth c D ca ad0 ad n0 A H locs ls Q C X G L Y T
  intro T0 hT0 X0
  obtain ⟨v, st₀, t, T', L', h0, X', hL, e1, e2, ⟨⟨r, σ', ad', hv, hΦ, hG', hP', hD', hO', hrv⟩, hz, hk⟩, stp⟩ := hrun p e R s m args below meth c D ca ad A H locs ls C X L.1 Y.2 G.2.2 T0 hT0 X0
  have hv : v = r.map (vt ad') := by injection hv
  subst hv
  rw [h0] at hz hk
  have hsub := X.sub
  have hS : va_S A s.heap T'.heap (locs ++ L') := by
    refine ⟨Nat.le_trans X.2.2.2.1.1 (by rw [e1]; exact hz), fun q h1 h2 => ?_, fun q hq => ?_⟩
    · rw [e1, hk q (Nat.lt_of_lt_of_le h1 X.2.2.2.1.1) (fun z => h2 (hsub q z))]
      exact X.2.2.2.1.2.1 q h1 h2
    · rcases List.mem_append.mp hq with h | h
      · exact X.2.2.2.1.2.2 q h
      · exact hsub _ (hL q h)
  have X2 : Wd D ca ad' A s T'.heap (locs ++ L') σ' := X.wd (by rw [e1]; exact hP') (hD'.weaken (fun _ _ _ h => hsub _ h)) hS (fun k hk => hG'.1 k (Or.inr hk)) hO'
  have hmn : σ.1 ≤ σ'.1 := hG'.2.1
  have G2 : Ag ad0 n0 ad' σ' := ⟨fun k hk => (hG'.1 k (hk.elim (fun h => Or.inl (Nat.le_trans h G.2.1)) Or.inr)).trans (G.1 k hk), Nat.le_trans G.2.1 hmn, hG'.2.2⟩
  have hlt : lt ad' lo = lt ad lo := by
    unfold lt
    exact List.map_congr_left (fun q hq => by rw [vt_eq hG'.1 (Y.1 q hq)])
  have hstk : st.map (vt ad') = st.map (vt ad) := List.map_congr_left (fun q hq => vt_eq hG'.1 (Y.2 q (hst q hq)))
  have kq := kk r σ' hΦ hmn p e R s m args below meth c D ca ad0 ad' n0 A T'.heap (locs ++ L') ls Q C X2 G2 (by rw [hlt]; exact L) ⟨fun q hq => okv_mono hmn (Y.1 q hq), fun q hq => by
    rcases List.mem_append.mp hq with h | h
    · exact hrv q (by simpa using h)
    · exact okv_mono hmn (Y.2 q (hst q h))⟩ T
  have hmap : (r.toList ++ st).map (vt ad') = (r.map (vt ad')).toList ++ st.map (vt ad) := by
    rw [List.map_append, hstk]
    cases r <;> rfl
  rw [hmap] at kq
  obtain ⟨t2, a1, b1⟩ := kq T' rfl X'
  exact ⟨t2, stp t2 a1, b1⟩
theorem srm_ok {g : Mth} {R : Room} {p : Program} {s : State} {m : MethodId} {args : Array Value} {meth : Method} {c : Code} (C : Cxs M p R s m args meth c) (hR : g.dp + 1 ≤ M.dp ∧ g.nL ≤ 45) : (mrm g).frames + 1 ≤ R.frames ∧ 8 + (g.nL + 11) + (mrm g).locals ≤ R.locals := by
  obtain ⟨-, -, -, -, -, -, -, -, h1, h2, -, -⟩ := C
  unfold mrm
  dsimp only
  refine ⟨by omega, by omega⟩
theorem sw_callVg {g : Mth} {idx r : Nat} {bs : List Av} {Φ' : Option Av → Sg → Prop} (hrec0 : ∀ (D : va_G) (ca : Nat → ClassId) (ad : Nat → Nat) (A : Nat → Prop) (s : State) (H : Heap) (locs : List Loc), Wd D ca ad A s H locs σ → ∃ cell : Cell, H[ad r]? = some cell ∧ cell.vm.isStatics = false ∧ s.vm.findClass g.y.cls = some cell.cls) (hB : MB g bs.length) (hL : ML M.y.cls idx g) (hI : Cond.instanceMethod g.y ∈ gt) (hSe : Cond.selects g.y.cls g.y g.y ∈ gt)
    (hd : decode M.cc pc = .ok (.invokevirtual idx, 3)) (hR : g.dp + 1 ≤ M.dp ∧ g.nL ≤ 45) (hm : kc + g.mc ≤ M.mc ∧ ks + g.ms ≤ M.ms) (hst : st.length ≤ 8) (hr : r ≠ 0)
    (hcon : Con l g (.inr r :: bs) σ Φ') (kk : ∀ q σ', Φ' q σ' → σ.1 ≤ σ'.1 → SW sL sx l M (pc + 3) lo (q.toList ++ st) σ' (kc + g.mc) (ks + g.ms) Φ) : SW sL sx l M pc lo (bs.reverse ++ .inr r :: st) σ kc ks Φ := by
  refine sw_callK (g := g) (as := .inr r :: bs) (Φ' := Φ') ?_ (fun v hv => List.mem_append_right _ (List.mem_cons_of_mem _ hv)) kk
  intro p e R s m args below meth c D ca ad A H locs ls C X hls Y h9
  have hvs : ∀ v ∈ (.inr r :: bs : List Av), okv σ.1 v := fun v hv => Y v (by
    rcases List.mem_cons.mp hv with h | h
    · exact List.mem_append_right _ (h ▸ List.mem_cons_self)
    · exact List.mem_append_left _ (List.mem_reverse.mpr h))
  have hpre := X.start hvs h9 (a := ((.inr r :: bs : List Av).map (vt ad)).toArray) rfl
  have hx : (.inr r :: bs : List Av).map (vt ad) = Value.ref (ad r) :: bs.map (vt ad) := by rw [List.map_cons, vt_pos hr]
  rw [hx] at hpre ⊢
  have hrec := hrec0 D ca ad A s H locs X
  have hPV : PreV s H g.y.cls (ad r) (PC D ca ad (.inr r :: bs) σ H.size) (bs.map (vt ad)) := ⟨PC_blind, hrec, hpre⟩
  have hstack : (F0 m pc ls ((bs.reverse ++ .inr r :: st).map (vt ad))).stack = (bs.map (vt ad)).reverse ++ Value.ref (ad r) :: st.map (vt ad) := by
    show (bs.reverse ++ .inr r :: st).map (vt ad) = _
    rw [List.map_append, List.map_cons, vt_pos hr, List.map_reverse]
  have hcat : 2 * (F0 m pc ls ((bs.reverse ++ .inr r :: st).map (vt ad))).monitorRoom + ((st.map (vt ad)).map fun v => v.category).sum ≤ 8 := by
    rw [cat_sum]
    show 2 * 0 + st.length ≤ 8
    omega
  have hf : kc + g.mc ≤ R.cells ∧ ks + g.ms ≤ R.slots := ⟨Nat.le_trans hm.1 C.2.2.2.2.2.2.2.2.2.2.1, Nat.le_trans hm.2 C.2.2.2.2.2.2.2.2.2.2.2⟩
  have hts := C.2.2.2.2.1
  rcases hL with hL | ⟨host, hL⟩
  · refine va_runV (Ts := gt) (own := M.y.cls) ⟨C.1, C.2.1, C.2.2.1, C.2.2.2.1, hts⟩ (hcon D ca ad H.size) (C := g.y.cls) (bytes := g.cc) (maxL := g.nL) (ret := g.rt) (n := bs.length) ?_ hPV rfl (List.length_map _) hls hstack hcat hd hf
    exact ⟨callB_of bs.length hts (mws_good g hB.1) rfl rfl rfl (hts _ hB.2.1) (hts _ hL) hB.2.2 (srm_ok C hR), hts _ hI, hts _ hSe⟩
  · refine va_runVN (Ts := gt) (own := M.y.cls) (host := host) ⟨C.1, C.2.1, C.2.2.1, C.2.2.2.1, hts⟩ (hcon D ca ad H.size) (C := g.y.cls) (bytes := g.cc) (maxL := g.nL) (ret := g.rt) (n := bs.length) ?_ hPV rfl (List.length_map _) hls hstack hcat hd hf
    exact ⟨va_cnB bs.length hts (mws_good g hB.1) rfl rfl rfl (X.2.2.2.2.2.1.2.2.2.2.2.1 _ hL) (hts _ hB.2.1) hB.2.2 (srm_ok C hR), hts _ hI, hts _ hSe⟩
theorem sw_callV {g : Mth} {idx ci r : Nat} {bs : List Av} {Φ' : Option Av → Sg → Prop} {T0 : u_T} {N : Nat} (hB : MB g bs.length) (hL : ML M.y.cls idx g) (hI : Cond.instanceMethod g.y ∈ gt) (hSe : Cond.selects g.y.cls g.y g.y ∈ gt)
    (hd : decode M.cc pc = .ok (.invokevirtual idx, 3)) (hR : g.dp + 1 ≤ M.dp ∧ g.nL ≤ 45) (hm : kc + g.mc ≤ M.mc ∧ ks + g.ms ≤ M.ms) (hst : st.length ≤ 8) (hr : r ≠ 0) (hle : r ≤ σ.1) (hs : (shp r).1 = ci) (hc : vcl[ci]? = some (g.y.cls, T0, N)) (hci : ci < 13)
    (hcon : Con l g (.inr r :: bs) σ Φ') (kk : ∀ q σ', Φ' q σ' → σ.1 ≤ σ'.1 → SW sL sx l M (pc + 3) lo (q.toList ++ st) σ' (kc + g.mc) (ks + g.ms) Φ) : SW sL sx l M pc lo (bs.reverse ++ .inr r :: st) σ kc ks Φ :=
  sw_callVg (fun _ _ _ _ _ _ _ X => va_recv X.1 X.2.1 hc (X.get hr hs hci hle)) hB hL hI hSe hd hR hm hst hr hcon kk
theorem sw_callS {g : Mth} {idx : Nat} {bs : List Av} {Φ' : Option Av → Sg → Prop} (hB : MB g bs.length) (hL : ML M.y.cls idx g) (hI : Cond.static g.y ∈ gt)
    (hd : decode M.cc pc = .ok (.invokestatic idx, 3)) (hR : g.dp + 1 ≤ M.dp ∧ g.nL ≤ 45) (hm : kc + g.mc ≤ M.mc ∧ ks + g.ms ≤ M.ms) (hst : st.length ≤ 8)
    (hcon : Con l g bs σ Φ') (kk : ∀ q σ', Φ' q σ' → σ.1 ≤ σ'.1 → SW sL sx l M (pc + 3) lo (q.toList ++ st) σ' (kc + g.mc) (ks + g.ms) Φ) : SW sL sx l M pc lo (bs.reverse ++ st) σ kc ks Φ := by
  refine sw_callK (g := g) (as := bs) (Φ' := Φ') ?_ (fun v hv => List.mem_append_right _ hv) kk
  intro p e R s m args below meth c D ca ad A H locs ls C X hls Y h9
  have hvs : ∀ v ∈ bs, okv σ.1 v := fun v hv => Y v (List.mem_append_left _ (List.mem_reverse.mpr hv))
  have hpre := X.start hvs h9 (a := (bs.map (vt ad)).toArray) rfl
  have hPV : PreS s H (PC D ca ad bs σ H.size) (bs.map (vt ad)) := ⟨PC_blind, hpre⟩
  have hstack : (F0 m pc ls ((bs.reverse ++ st).map (vt ad))).stack = (bs.map (vt ad)).reverse ++ st.map (vt ad) := by
    show (bs.reverse ++ st).map (vt ad) = _
    rw [List.map_append, List.map_reverse]
  have hcat : 2 * (F0 m pc ls ((bs.reverse ++ st).map (vt ad))).monitorRoom + ((st.map (vt ad)).map fun v => v.category).sum ≤ 8 := by
    rw [cat_sum]
    show 2 * 0 + st.length ≤ 8
    omega
  have hf : kc + g.mc ≤ R.cells ∧ ks + g.ms ≤ R.slots := ⟨Nat.le_trans hm.1 C.2.2.2.2.2.2.2.2.2.2.1, Nat.le_trans hm.2 C.2.2.2.2.2.2.2.2.2.2.2⟩
  have hts := C.2.2.2.2.1
  rcases hL with hL | ⟨host, hL⟩
  · refine va_runS (Ts := gt) (own := M.y.cls) ⟨C.1, C.2.1, C.2.2.1, C.2.2.2.1, hts⟩ (hcon D ca ad H.size) (bytes := g.cc) (maxL := g.nL) (ret := g.rt) (n := bs.length) ?_ hPV rfl (List.length_map _) hls hstack hcat hd hf
    exact ⟨callB_of bs.length hts (mws_good g hB.1) rfl rfl rfl (hts _ hB.2.1) (hts _ hL) hB.2.2 (srm_ok C hR), hts _ hI⟩
  · refine va_runSN (Ts := gt) (own := M.y.cls) (host := host) ⟨C.1, C.2.1, C.2.2.1, C.2.2.2.1, hts⟩ (hcon D ca ad H.size) (bytes := g.cc) (maxL := g.nL) (ret := g.rt) (n := bs.length) ?_ hPV rfl (List.length_map _) hls hstack hcat hd hf
    exact ⟨va_cnB bs.length hts (mws_good g hB.1) rfl rfl rfl (X.2.2.2.2.2.1.2.2.2.2.2.1 _ hL) (hts _ hB.2.1) hB.2.2 (srm_ok C hR), hts _ hI, trivial⟩
theorem sw_callI {g : Mth} {idx r : Nat} {bs : List Av} {Φ' : Option Av → Sg → Prop} (hB : MB g bs.length) (hL : ML M.y.cls idx g) (hI : Cond.instanceMethod g.y ∈ gt) (hy1 : g.y.name = "<init>") (hrt : g.rt = none)
    (hd : decode M.cc pc = .ok (.invokespecial idx, 3)) (hR : g.dp + 1 ≤ M.dp ∧ g.nL ≤ 45) (hm : kc + g.mc ≤ M.mc ∧ ks + g.ms ≤ M.ms) (hst : st.length ≤ 8) (hr : r ≠ 0)
    (hcon : Con l g (.inr r :: bs) σ Φ') (kk : ∀ q σ', Φ' q σ' → σ.1 ≤ σ'.1 → SW sL sx l M (pc + 3) lo (q.toList ++ st) σ' (kc + g.mc) (ks + g.ms) Φ) : SW sL sx l M pc lo (bs.reverse ++ .inr r :: st) σ kc ks Φ := by
  refine sw_callK (g := g) (as := .inr r :: bs) (Φ' := Φ') ?_ (fun v hv => List.mem_append_right _ (List.mem_cons_of_mem _ hv)) kk
  intro p e R s m args below meth c D ca ad A H locs ls C X hls Y h9
  have hvs : ∀ v ∈ (.inr r :: bs : List Av), okv σ.1 v := fun v hv => Y v (by
    rcases List.mem_cons.mp hv with h | h
    · exact List.mem_append_right _ (h ▸ List.mem_cons_self)
    · exact List.mem_append_left _ (List.mem_reverse.mpr h))
  have hpre := X.start hvs h9 (a := ((.inr r :: bs : List Av).map (vt ad)).toArray) rfl
  have hx : (.inr r :: bs : List Av).map (vt ad) = Value.ref (ad r) :: bs.map (vt ad) := by rw [List.map_cons, vt_pos hr]
  rw [hx] at hpre ⊢
  have hPV : PreS s H (PC D ca ad (.inr r :: bs) σ H.size) (.ref (ad r) :: bs.map (vt ad)) := ⟨PC_blind, hpre⟩
  have hstack : (F0 m pc ls ((bs.reverse ++ .inr r :: st).map (vt ad))).stack = (bs.map (vt ad)).reverse ++ Value.ref (ad r) :: st.map (vt ad) := by
    show (bs.reverse ++ .inr r :: st).map (vt ad) = _
    rw [List.map_append, List.map_cons, vt_pos hr, List.map_reverse]
  have hcat : 2 * (F0 m pc ls ((bs.reverse ++ .inr r :: st).map (vt ad))).monitorRoom + ((st.map (vt ad)).map fun v => v.category).sum ≤ 8 := by
    rw [cat_sum]
    show 2 * 0 + st.length ≤ 8
    omega
  have hf : kc + g.mc ≤ R.cells ∧ ks + g.ms ≤ R.slots := ⟨Nat.le_trans hm.1 C.2.2.2.2.2.2.2.2.2.2.1, Nat.le_trans hm.2 C.2.2.2.2.2.2.2.2.2.2.2⟩
  have hts := C.2.2.2.2.1
  obtain ⟨gy, gc, gn, gr, gd, gm, gs⟩ := g
  cases hrt
  rcases hL with hL | ⟨host, hL⟩
  · refine va_runI (Ts := gt) (own := M.y.cls) ⟨C.1, C.2.1, C.2.2.1, C.2.2.2.1, hts⟩ (hcon D ca ad H.size) (bytes := gc) (maxL := gn) (n := bs.length) ?_ hPV rfl (List.length_map _) hls hstack hcat hd hf
    exact ⟨callB_of bs.length hts (mws_good _ hB.1) rfl rfl rfl (hts _ hB.2.1) (hts _ hL) hB.2.2 (srm_ok C hR), hy1, hts _ hI⟩
  · refine va_runIN (Ts := gt) (own := M.y.cls) (host := host) ⟨C.1, C.2.1, C.2.2.1, C.2.2.2.1, hts⟩ (hcon D ca ad H.size) (bytes := gc) (maxL := gn) (n := bs.length) ?_ hPV rfl (List.length_map _) hls hstack hcat hd hf
    exact ⟨va_cnB bs.length hts (mws_good _ hB.1) rfl rfl rfl (X.2.2.2.2.2.1.2.2.2.2.2.1 _ hL) (hts _ hB.2.1) hB.2.2 (srm_ok C hR), hy1, hts _ hI⟩
theorem snew_go {p : Program} {e : Env} {R : Room} {s : State} {m : MethodId} {args : Array Value} {below : List Frame} {meth : Method} {c : Code} {D : va_G} {ca : Nat → ClassId} {ad0 ad : Nat → Nat} {n0 : Nat} {A : Nat → Prop} {H : Heap} {locs : List Loc} {ls : Array Slot} {Q : State → Prop} {npc kc' ks' q : Nat} {H1 : Heap} {ev : va_E}
    (C : Cxs M p R s m args meth c) (X : Wd D ca ad A s H locs σ) (G : Ag ad0 n0 ad σ) (L : lv_has ls M.nL (lt ad lo)) (Y1 : ∀ q ∈ lo, okv σ.1 q.2) (Y2 : ∀ v ∈ st, okv σ.1 v) (T : Rts sL sx l M Φ p e R s m args below meth c D ca ad0 n0 A Q) (h9 : σ.1 + 1 ≤ 1000)
    (he : cel (adn σ ad q) ca (nw σ) (σ.1 + 1) = ev) (hP : va_P D vcl (wl ad ca σ ++ [(q, ev)]) H1) (hD : va_D A (wl ad ca σ ++ [(q, ev)])) (hS : va_S A s.heap H1 locs)
    (kk : SW sL sx l M npc lo (.inr (σ.1 + 1) :: st) (nw σ) kc' ks' Φ) : W p l e R s m args below meth c H1 locs kc' ks' Q (F0 m npc ls (.ref q :: st.map (vt ad))) := by
  have hO := X.2.2.2.2.2.2
  have hw := wl_nw hO ad ca q he
  have hag : ∀ k, (k ≤ σ.1 ∨ 1000000 ≤ k) → adn σ ad q k = ad k := fun k hk => by unfold adn; rw [if_neg (by omega)]
  have X2 : Wd D ca (adn σ ad q) A s H1 locs (nw σ) := X.wd (by rw [hw]; exact hP) (by rw [hw]; exact hD) hS (fun k hk => hag k (Or.inr hk)) (okm_nw hO)
  have G2 : Ag ad0 n0 (adn σ ad q) (nw σ) := ⟨fun k hk => (hag k (hk.elim (fun h => Or.inl (Nat.le_trans h G.2.1)) Or.inr)).trans (G.1 k hk), Nat.le_succ_of_le G.2.1, h9⟩
  have hlt : lt (adn σ ad q) lo = lt ad lo := by
    unfold lt
    exact List.map_congr_left (fun z hz => by rw [vt_eq hag (Y1 z hz)])
  have hstk : st.map (vt (adn σ ad q)) = st.map (vt ad) := List.map_congr_left (fun z hz => vt_eq hag (Y2 z hz))
  have hle : σ.1 ≤ (nw σ).1 := Nat.le_succ _
  have kq := kk p e R s m args below meth c D ca ad0 (adn σ ad q) n0 A H1 locs ls Q C X2 G2 (by rw [hlt]; exact L) ⟨fun z hz => okv_mono hle (Y1 z hz), List.forall_mem_cons.mpr ⟨Or.inl (Nat.le_refl _), fun z hz => okv_mono hle (Y2 z hz)⟩⟩ T
  rw [List.map_cons, hstk, vt_pos (by omega), show adn σ ad q (σ.1 + 1) = q by unfold adn; rw [if_pos rfl]] at kq
  exact kq
theorem sw_new {idx ci : Nat} {C0 : String} {T0 : u_T} {N : Nat} {ty0 : Nat → FieldType} (hCI : CI ci C0 T0 N ty0) (hcl : Cond.classLink M.y.cls idx C0 ∈ gt) (hin : Cond.instantiable C0 N ∈ gt) (hini : Cond.initialized C0 ∈ gt) (hfs : ∀ j, j < N → defaultValue (ty0 j) = vp_V (dfl ci) j)
    (hd : decode M.cc pc = .ok (.new idx, 3)) (hsh : (shp (σ.1 + 1)).1 = ci) (hkc : kc + 1 ≤ M.mc) (hks : ks + N ≤ M.ms) (h9 : σ.1 + 1 ≤ 1000) (kk : ∀ x σ', x = σ.1 + 1 → σ' = nw σ → SW sL sx l M (pc + 3) lo (.inr x :: st) σ' (kc + 1) (ks + N) Φ) : SW sL sx l M pc lo st σ kc ks Φ := by
  intro p e R s m args below meth c D ca ad0 ad n0 A H locs ls Q C X G L Y T
  obtain ⟨h1, h2, h3, h4, h5, h6⟩ := hCI
  have hts := C.2.2.2.2.1
  refine va_new C.1 C.2.1 hts h2 ty0 h3 C.2.2.2.1 (hts _ hcl) (hts _ hin) (hts _ hini) X.1 X.2.1 X.2.2.1 X.2.2.2.1 X.2.2.2.2.1 h1 hfs (Nat.le_trans hkc C.2.2.2.2.2.2.2.2.2.2.1) (Nat.le_trans hks C.2.2.2.2.2.2.2.2.2.2.2) hd (fun q H1 hP hD hS => ?_)
  exact snew_go C X G L Y.1 Y.2 T h9 (by rw [cel_obj hsh h6, fl_nw]) hP hD hS (kk _ _ rfl rfl)
theorem sw_newl {n : Int32} {N : Nat} (hw : Cond.arrayClass .long ∈ gt) (hd : decode M.cc pc = .ok (.newarray .long, 2)) (hsh : shp (σ.1 + 1) = (17, N)) (hn : ¬ n < 0) (hN : n.toNatClampNeg = N) (hb : N * 8 ≤ 536870912) (hkc : kc + 1 ≤ M.mc) (hks : ks + N ≤ M.ms) (h9 : σ.1 + 1 ≤ 1000) (kk : ∀ x σ', x = σ.1 + 1 → σ' = nw σ → SW sL sx l M (pc + 2) lo (.inr x :: st) σ' (kc + 1) (ks + N) Φ) : SW sL sx l M pc lo (.inl n :: st) σ kc ks Φ := by
  intro p e R s m args below meth c D ca ad0 ad n0 A H locs ls Q C X G L Y T
  have hts := C.2.2.2.2.1
  refine va_newa (atype := .long) (ty := .long) (a0 := (N, .inr (.inl (fun _ => 0)))) C.1 C.2.1 (hts _ hw) rfl X.1 X.2.1 X.2.2.1 X.2.2.2.1 X.2.2.2.2.1 (fun cA => rfl) hn hN hb (Nat.le_trans hkc C.2.2.2.2.2.2.2.2.2.2.1) (Nat.le_trans hks C.2.2.2.2.2.2.2.2.2.2.2) hd (fun q cA H1 hK hP hD hS => ?_)
  have hcA := tys_long hK
  subst hcA
  exact snew_go C X G L Y.1 (List.forall_mem_cons.mp Y.2).2 T h9 (by rw [cel_long hsh, row0 _ rfl]; rfl) hP hD hS (kk _ _ rfl rfl)
theorem sw_inc {lo' : List (Nat × Av)} {i q : Nat} {n : Int} {x c : Int32} (hd : decode M.cc pc = .ok (.iinc i n, 3)) (hc : Int32.ofInt n = c) (hl : lo[q]? = some (i, .inl x)) (hn : i < M.nL) (hlo : sto lo i (.inl (x + c)) = lo') (k : SW sL sx l M (pc + 3) lo' st σ kc ks Φ) : SW sL sx l M pc lo st σ kc ks Φ :=
  sw_iinc hd hl (by rw [hc]) hn hlo k
theorem sw_tab {dflt lw hi : Int} {offs : Array Int} {len : Nat} {x : Int32} (hd : decode M.cc pc = .ok (.tableswitch dflt lw hi offs, len)) (hsz : hi + 1 = lw + offs.size)
    (h1 : x.toInt < lw ∨ hi < x.toInt → ∃ tgt : Nat, (pc : Int) + dflt = (tgt : Int) ∧ SW sL sx l M tgt lo st σ kc ks Φ) (h2 : ∀ k : Nat, k < offs.size → x.toInt = lw + k → ∃ (off : Int) (tgt : Nat), offs[k]? = some off ∧ (pc : Int) + off = (tgt : Int) ∧ SW sL sx l M tgt lo st σ kc ks Φ) : SW sL sx l M pc lo (.inl x :: st) σ kc ks Φ := by
  by_cases h : x.toInt < lw ∨ hi < x.toInt
  · obtain ⟨tgt, ht, hg⟩ := h1 h
    exact sw_tabOut hd h ht hg
  · have ha : ¬ x.toInt < lw := fun q => h (Or.inl q)
    have hb : ¬ hi < x.toInt := fun q => h (Or.inr q)
    obtain ⟨off, tgt, ho, ht, hg⟩ := h2 (x.toInt - lw).toNat (by omega) (by omega)
    exact sw_tabIn hd ha hb ho ht hg
theorem sw_vC {g : Mth} {n ci idx r kc' ks' : Nat} {bs st0 : List Av} {Ψ : Option Av → Sg → Prop} (hv : VM g n ci) (hl : MLy M.y.cls idx g.y) (hd : decode M.cc pc = .ok (.invokevirtual idx, 3)) (hR : kcs kc ks kc' ks' M g) (hst : st.length ≤ 8) (hn : bs.length = n) (e : bs.reverse ++ .inr r :: st = st0) (ob : Ob σ r ci) (h : Con l g (.inr r :: bs) σ Ψ) (kk : ∀ q σ', Ψ q σ' → σ.1 ≤ σ'.1 → SW sL sx l M (pc + 3) lo (q.toList ++ st) σ' kc' ks' Φ) : SW sL sx l M pc lo st0 σ kc ks Φ := by
  obtain ⟨h1, h2, h3, ⟨T0, N, h4⟩, h5, h6⟩ := hv
  obtain ⟨r1, rfl, rfl, r4, r5⟩ := hR
  subst hn
  subst e
  exact sw_callV h1 hl h2 h3 hd ⟨r1, h6⟩ ⟨r4, r5⟩ hst ob.1 ob.2.2 ob.2.1 h4 h5 h kk
theorem sw_sC {g : Mth} {n idx kc' ks' : Nat} {bs st0 : List Av} {Ψ : Option Av → Sg → Prop} (hv : SM g n) (hl : MLy M.y.cls idx g.y) (hd : decode M.cc pc = .ok (.invokestatic idx, 3)) (hR : kcs kc ks kc' ks' M g) (hst : st.length ≤ 8) (hn : bs.length = n) (e : bs.reverse ++ st = st0) (h : Con l g bs σ Ψ) (kk : ∀ q σ', Ψ q σ' → σ.1 ≤ σ'.1 → SW sL sx l M (pc + 3) lo (q.toList ++ st) σ' kc' ks' Φ) : SW sL sx l M pc lo st0 σ kc ks Φ := by
  obtain ⟨h1, h2, h6⟩ := hv
  obtain ⟨r1, rfl, rfl, r4, r5⟩ := hR
  subst hn
  subst e
  exact sw_callS h1 hl h2 hd ⟨r1, h6⟩ ⟨r4, r5⟩ hst h kk
theorem sw_iC {g : Mth} {n idx r kc' ks' : Nat} {bs st0 : List Av} {Ψ : Option Av → Sg → Prop} (hv : IM g n) (hl : MLy M.y.cls idx g.y) (hd : decode M.cc pc = .ok (.invokespecial idx, 3)) (hR : kcs kc ks kc' ks' M g) (hst : st.length ≤ 8) (hn : bs.length = n) (e : bs.reverse ++ .inr r :: st = st0) (hr : r ≠ 0) (h : Con l g (.inr r :: bs) σ Ψ) (kk : ∀ q σ', Ψ q σ' → σ.1 ≤ σ'.1 → SW sL sx l M (pc + 3) lo (q.toList ++ st) σ' kc' ks' Φ) : SW sL sx l M pc lo st0 σ kc ks Φ := by
  obtain ⟨h1, h2, h3, h4, h6⟩ := hv
  obtain ⟨r1, rfl, rfl, r4, r5⟩ := hR
  subst hn
  subst e
  exact sw_callI h1 hl h2 h3 h4 hd ⟨r1, h6⟩ ⟨r4, r5⟩ hst hr h kk
/-- the script's length, and its places -/
theorem sw_len (hd : decode M.cc pc = .ok (.arraylength, 1)) (kk : SW sL sx l M (pc + 1) lo (.inl (Int32.ofNat sL) :: st) σ kc ks Φ) : SW sL sx l M pc lo (.inr 3000000 :: st) σ kc ks Φ := by
  intro p e R s m args below meth c D ca ad0 ad n0 A H locs ls Q C X G L Y T
  have k2 := kk p e R s m args below meth c D ca ad0 ad n0 A H locs ls Q C X G L ⟨Y.1, List.forall_mem_cons.mpr ⟨trivial, (List.forall_mem_cons.mp Y.2).2⟩⟩ T
  rw [List.map_cons, vt_pos (by decide), G.1 3000000 (Or.inr (by decide))]
  exact va_slen C.1 C.2.1 T.2.1 T.2.2.1 T.2.2.2.1 X.2.2.2.1 hd k2
theorem sw_ld {i : Int32} (hd : decode M.cc pc = .ok (.iaload, 1)) (hi : vp_in i sL) (kk : SW sL sx l M (pc + 1) lo (.inl (sx i.toNatClampNeg) :: st) σ kc ks Φ) : SW sL sx l M pc lo (.inl i :: .inr 3000000 :: st) σ kc ks Φ := by
  intro p e R s m args below meth c D ca ad0 ad n0 A H locs ls Q C X G L Y T
  have k2 := kk p e R s m args below meth c D ca ad0 ad n0 A H locs ls Q C X G L ⟨Y.1, List.forall_mem_cons.mpr ⟨trivial, (List.forall_mem_cons.mp (List.forall_mem_cons.mp Y.2).2).2⟩⟩ T
  rw [List.map_cons, List.map_cons, vt_pos (by decide), G.1 3000000 (Or.inr (by decide))]
  exact va_sld C.1 C.2.1 T.2.1 T.2.2.1 T.2.2.2.1 X.2.2.2.1 hi hd k2
theorem sw_iret {v : Int32} (ty : FieldType) (hd : decode M.cc pc = .ok (.ireturn, 1)) (hty : M.rt = some ty) (hn : narrow ty (.int v) = .int v) (hk : kc ≤ M.mc) (hs : ks ≤ M.ms) (h : Φ (some (.inl v)) σ) : SW sL sx l M pc lo [.inl v] σ kc ks Φ := by
  intro p e R s m args below meth c D ca ad0 ad n0 A H locs ls Q C X G L Y T
  exact T.1 (some (.inl v)) σ ad H locs ls pc kc ks h X G hk hs ⟨⟨ty, hty, hn⟩, hd⟩ (fun q hq => by injection hq with hq; subst hq; trivial)
theorem sw_imp {Ψ : Option Av → Sg → Prop} (h : ∀ r σ, Ψ r σ → Φ r σ) (k : SW sL sx l M pc lo st σ kc ks Ψ) : SW sL sx l M pc lo st σ kc ks Φ := by
  intro p e R s m args below meth c D ca ad0 ad n0 A H locs ls Q C X G L Y T
  exact k p e R s m args below meth c D ca ad0 ad n0 A H locs ls Q C X G L Y ⟨fun r σ' ad' H' locs' ls' pc' kc' ks' hr => T.1 r σ' ad' H' locs' ls' pc' kc' ks' (h r σ' hr), T.2⟩
end SWR
