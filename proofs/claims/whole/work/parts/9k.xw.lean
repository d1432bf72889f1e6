/-! a method that may throw: rules with a further way out -/
abbrev Wx : Type := Program → Env → Room → State → MethodId → Array Value → List Frame → Method → Code → va_G → (Nat → ClassId) → (Nat → Nat) → Nat → (Nat → Prop) → (State → Prop) → Prop
def Rtx (E : Wx) (l : Launch) (M : Mth) (Φ : Option Av → Sg → Prop) (p : Program) (e : Env) (R : Room) (s : State) (m : MethodId) (args : Array Value) (below : List Frame) (meth : Method) (c : Code) (D : va_G) (ca : Nat → ClassId) (ad0 : Nat → Nat) (n0 : Nat) (A : Nat → Prop) (Q : State → Prop) : Prop :=
  Rt l M Φ p e R s m args below meth c D ca ad0 n0 A Q ∧ E p e R s m args below meth c D ca ad0 n0 A Q
def XW (E : Wx) (l : Launch) (M : Mth) (pc : Nat) (lo : List (Nat × Av)) (st : List Av) (σ : Sg) (kc ks : Nat) (Φ : Option Av → Sg → Prop) : Prop :=
  ∀ (p : Program) (e : Env) (R : Room) (s : State) (m : MethodId) (args : Array Value) (below : List Frame) (meth : Method) (c : Code) (D : va_G) (ca : Nat → ClassId) (ad0 ad : Nat → Nat) (n0 : Nat) (A : Nat → Prop) (H : Heap) (locs : List Loc) (ls : Array Slot) (Q : State → Prop),
    Cx M p R s m args meth c → Wd D ca ad A s H locs σ → Ag ad0 n0 ad σ → lv_has ls M.nL (lt ad lo) → ((∀ q ∈ lo, okv σ.1 q.2) ∧ ∀ v ∈ st, okv σ.1 v) → Rtx E l M Φ p e R s m args below meth c D ca ad0 n0 A Q →
    W p l e R s m args below meth c H locs kc ks Q (F0 m pc ls (st.map (vt ad)))
/-- the ways out by a throw: at the pc t, with nothing on the stack -/
def LkE (l : Launch) (n : Nat) (Ψ : Nat → Sg → Prop) : Wx := fun p e R s m args below meth c D ca ad0 n0 A Q =>
  ∀ (t : Nat) (σ : Sg) (ad : Nat → Nat) (H : Heap) (locs : List Loc) (ls : Array Slot), Ψ t σ → Wd D ca ad A s H locs σ → Ag ad0 n0 ad σ → ls.size = n → W p l e R s m args below meth c H locs 0 0 Q (F0 m t ls [])
section XWR
variable {E : Wx} {l : Launch} {M : Mth} {pc : Nat} {lo : List (Nat × Av)} {st : List Av} {σ : Sg} {kc ks : Nat} {Φ : Option Av → Sg → Prop}
theorem xw_iconst {n : Int} {v : Int32} (hd : decode M.cc pc = .ok (.iconst n, 1)) (hv : Int32.ofInt n = v) (k : XW E l M (pc + 1) lo (.inl v :: st) σ kc ks Φ) : XW E l M pc lo (st) σ kc ks Φ := by
  intro p e R s m args below meth c D ca ad0 ad n0 A H locs ls Q C X G L Y T
  exact lv_iconst C.1 C.2.1 hd hv (k p e R s m args below meth c D ca ad0 ad n0 A H locs ls Q C X G L ⟨Y.1, List.forall_mem_cons.mpr ⟨trivial, Y.2⟩⟩ T)
theorem xw_iload_n {j : Fin 4} {i q : Nat} {x : Int32} (hd : decode M.cc pc = .ok (.iload_n j, 1)) (hi : (j : Nat) = i) (hl : lo[q]? = some (i, .inl x)) (k : XW E l M (pc + 1) lo (.inl x :: st) σ kc ks Φ) : XW E l M pc lo (st) σ kc ks Φ := by
  intro p e R s m args below meth c D ca ad0 ad n0 A H locs ls Q C X G L Y T
  exact lv_iload_n C.1 C.2.1 hd hi (lt_at L q hl) (k p e R s m args below meth c D ca ad0 ad n0 A H locs ls Q C X G L ⟨Y.1, List.forall_mem_cons.mpr ⟨trivial, Y.2⟩⟩ T)
theorem xw_iload {i q : Nat} {x : Int32} (hd : decode M.cc pc = .ok (.iload i, 2)) (hl : lo[q]? = some (i, .inl x)) (k : XW E l M (pc + 2) lo (.inl x :: st) σ kc ks Φ) : XW E l M pc lo (st) σ kc ks Φ := by
  intro p e R s m args below meth c D ca ad0 ad n0 A H locs ls Q C X G L Y T
  exact lv_iload C.1 C.2.1 hd (lt_at L q hl) (k p e R s m args below meth c D ca ad0 ad n0 A H locs ls Q C X G L ⟨Y.1, List.forall_mem_cons.mpr ⟨trivial, Y.2⟩⟩ T)
theorem xw_aload_n {j : Fin 4} {i q x : Nat} (hd : decode M.cc pc = .ok (.aload_n j, 1)) (hi : (j : Nat) = i) (hl : lo[q]? = some (i, .inr x)) (k : XW E l M (pc + 1) lo (.inr x :: st) σ kc ks Φ) : XW E l M pc lo (st) σ kc ks Φ := by
  intro p e R s m args below meth c D ca ad0 ad n0 A H locs ls Q C X G L Y T
  have h1 := lt_at L q hl
  have h2 : W p l e R s m args below meth c H locs kc ks Q (F0 m (pc + 1) ls ((.inr x :: st).map (vt ad))) := k p e R s m args below meth c D ca ad0 ad n0 A H locs ls Q C X G L ⟨Y.1, List.forall_mem_cons.mpr ⟨Y.1 _ (List.mem_of_getElem? hl), Y.2⟩⟩ T
  simp only [List.map_cons, vt, ro] at h1 h2
  by_cases hx : x = 0
  · simp only [hx, if_true, va_rf] at h1 h2
    exact lv_aload_nN C.1 C.2.1 hd hi h1 h2
  · simp only [hx, if_false, va_rf] at h1 h2
    exact lv_aload_n C.1 C.2.1 hd hi h1 h2
theorem xw_aload {i q x : Nat} (hd : decode M.cc pc = .ok (.aload i, 2)) (hl : lo[q]? = some (i, .inr x)) (k : XW E l M (pc + 2) lo (.inr x :: st) σ kc ks Φ) : XW E l M pc lo (st) σ kc ks Φ := by
  intro p e R s m args below meth c D ca ad0 ad n0 A H locs ls Q C X G L Y T
  have h1 := lt_at L q hl
  have h2 : W p l e R s m args below meth c H locs kc ks Q (F0 m (pc + 2) ls ((.inr x :: st).map (vt ad))) := k p e R s m args below meth c D ca ad0 ad n0 A H locs ls Q C X G L ⟨Y.1, List.forall_mem_cons.mpr ⟨Y.1 _ (List.mem_of_getElem? hl), Y.2⟩⟩ T
  simp only [List.map_cons, vt, ro] at h1 h2
  by_cases hx : x = 0
  · simp only [hx, if_true, va_rf] at h1 h2
    exact lv_aloadN C.1 C.2.1 hd h1 h2
  · simp only [hx, if_false, va_rf] at h1 h2
    exact lv_aload C.1 C.2.1 hd h1 h2
theorem xw_istore {lo' : List (Nat × Av)} {i : Nat} {x : Int32} (hd : decode M.cc pc = .ok (.istore i, 2)) (hn : i < M.nL) (hlo : sto lo i (.inl x) = lo') (k : XW E l M (pc + 2) lo' (st) σ kc ks Φ) : XW E l M pc lo ((.inl x) :: st) σ kc ks Φ := by
  intro p e R s m args below meth c D ca ad0 ad n0 A H locs ls Q C X G L Y T
  have Y2 := List.forall_mem_cons.mp Y.2
  exact lv_istore C.1 C.2.1 hd L hn rfl (fun ls h => k p e R s m args below meth c D ca ad0 ad n0 A H locs ls Q C X G (hlo ▸ sto_has h) ⟨hlo ▸ sto_ok Y.1 trivial, Y2.2⟩ T)
theorem xw_astore {lo' : List (Nat × Av)} {i x : Nat} (hd : decode M.cc pc = .ok (.astore i, 2)) (hn : i < M.nL) (hlo : sto lo i (.inr x) = lo') (k : XW E l M (pc + 2) lo' (st) σ kc ks Φ) : XW E l M pc lo ((.inr x) :: st) σ kc ks Φ := by
  intro p e R s m args below meth c D ca ad0 ad n0 A H locs ls Q C X G L Y T
  have Y2 := List.forall_mem_cons.mp Y.2
  have hk : ∀ ls, lv_has ls M.nL ((i, vt ad (.inr x)) :: (lt ad lo).filter (fun q => !(q.1 == i) && !(q.1 + 1 == i && q.2.category == 2))) → W p l e R s m args below meth c H locs kc ks Q (F0 m (pc + 2) ls (st.map (vt ad))) := fun ls h => k p e R s m args below meth c D ca ad0 ad n0 A H locs ls Q C X G (hlo ▸ sto_has h) ⟨hlo ▸ sto_ok Y.1 Y2.1, Y2.2⟩ T
  show W p l e R s m args below meth c H locs kc ks Q (F0 m pc ls (vt ad (.inr x) :: st.map (vt ad)))
  simp only [vt, ro] at hk ⊢
  by_cases hx : x = 0
  · simp only [hx, if_true, va_rf] at hk ⊢
    exact lv_astoreN C.1 C.2.1 hd L hn rfl (fun ls h => hk ls h)
  · simp only [hx, if_false, va_rf] at hk ⊢
    exact lv_astore C.1 C.2.1 hd L hn rfl (fun ls h => hk ls h)
theorem xw_isub {x y : Int32} (hd : decode M.cc pc = .ok (.isub, 1)) (k : XW E l M (pc + 1) lo (.inl (x - y) :: st) σ kc ks Φ) : XW E l M pc lo (.inl y :: .inl x :: st) σ kc ks Φ := by
  intro p e R s m args below meth c D ca ad0 ad n0 A H locs ls Q C X G L Y T
  exact lv_isub C.1 C.2.1 hd (k p e R s m args below meth c D ca ad0 ad n0 A H locs ls Q C X G L ⟨Y.1, List.forall_mem_cons.mpr ⟨trivial, (List.forall_mem_cons.mp (List.forall_mem_cons.mp Y.2).2).2⟩⟩ T)
theorem xw_icmp_ne {x y : Int32} {off : Int} {tgt : Nat} (hd : decode M.cc pc = .ok (.if_icmp .ne off, 3)) (ht : (pc : Int) + off = (tgt : Int)) (kt : ¬ x = y → XW E l M tgt lo st σ kc ks Φ) (kf : x = y → XW E l M (pc + 3) lo st σ kc ks Φ) : XW E l M pc lo (.inl y :: .inl x :: st) σ kc ks Φ := by
  intro p e R s m args below meth c D ca ad0 ad n0 A H locs ls Q C X G L Y T
  have Y2 := (List.forall_mem_cons.mp (List.forall_mem_cons.mp Y.2).2).2
  exact lv_icmp_ne C.1 C.2.1 hd ht (fun h => kt h p e R s m args below meth c D ca ad0 ad n0 A H locs ls Q C X G L ⟨Y.1, Y2⟩ T) (fun h => kf h p e R s m args below meth c D ca ad0 ad n0 A H locs ls Q C X G L ⟨Y.1, Y2⟩ T)
theorem xw_if_ne {x : Int32} {off : Int} {tgt : Nat} (hd : decode M.cc pc = .ok (.ifCond .ne off, 3)) (ht : (pc : Int) + off = (tgt : Int)) (kt : ¬ x = 0 → XW E l M tgt lo st σ kc ks Φ) (kf : x = 0 → XW E l M (pc + 3) lo st σ kc ks Φ) : XW E l M pc lo (.inl x :: st) σ kc ks Φ := by
  intro p e R s m args below meth c D ca ad0 ad n0 A H locs ls Q C X G L Y T
  have Y2 := (List.forall_mem_cons.mp Y.2).2
  exact lv_if_ne C.1 C.2.1 hd ht (fun h => kt h p e R s m args below meth c D ca ad0 ad n0 A H locs ls Q C X G L ⟨Y.1, Y2⟩ T) (fun h => kf h p e R s m args below meth c D ca ad0 ad n0 A H locs ls Q C X G L ⟨Y.1, Y2⟩ T)
theorem xw_goto {off : Int} {tgt : Nat} (hd : decode M.cc pc = .ok (.goto off, 3)) (ht : (pc : Int) + off = (tgt : Int)) (k : XW E l M tgt lo st σ kc ks Φ) : XW E l M pc lo st σ kc ks Φ := by
  intro p e R s m args below meth c D ca ad0 ad n0 A H locs ls Q C X G L Y T
  exact lv_goto C.1 C.2.1 hd ht (k p e R s m args below meth c D ca ad0 ad n0 A H locs ls Q C X G L Y T)
theorem xw_ifnull {r : Nat} {off : Int} {tgt : Nat} (hd : decode M.cc pc = .ok (.ifnull off, 3)) (ht : (pc : Int) + off = (tgt : Int)) (kt : r = 0 → XW E l M tgt lo st σ kc ks Φ) (kf : ¬ r = 0 → XW E l M (pc + 3) lo st σ kc ks Φ) : XW E l M pc lo (.inr r :: st) σ kc ks Φ := by
  intro p e R s m args below meth c D ca ad0 ad n0 A H locs ls Q C X G L Y T
  have Y2 := (List.forall_mem_cons.mp Y.2).2
  show W p l e R s m args below meth c H locs kc ks Q (F0 m pc ls (vt ad (.inr r) :: st.map (vt ad)))
  simp only [vt, ro]
  by_cases hx : r = 0
  · simp only [hx, if_true, va_rf]
    exact lv_ifnullN C.1 C.2.1 hd ht (kt hx p e R s m args below meth c D ca ad0 ad n0 A H locs ls Q C X G L ⟨Y.1, Y2⟩ T)
  · simp only [hx, if_false, va_rf]
    exact lv_ifnull C.1 C.2.1 hd (kf hx p e R s m args below meth c D ca ad0 ad n0 A H locs ls Q C X G L ⟨Y.1, Y2⟩ T)
theorem xw_getI {idx ci k r : Nat} {fin : Bool} {ty : FieldType} (hf : FA M.y.cls idx ci k false fin ty) (hd : decode M.cc pc = .ok (.getfield idx, 3)) (hr : r ≠ 0) (hs : (shp r).1 = ci) (hle : r ≤ σ.1) (kk : XW E l M (pc + 3) lo (.inl (σ.2.1 r k) :: st) σ kc ks Φ) : XW E l M pc lo (.inr r :: st) σ kc ks Φ := by
  intro p e R s m args below meth c D ca ad0 ad n0 A H locs ls Q C X G L Y T
  obtain ⟨C0, T0, N, ty0, ⟨h1, h2, h3, h4, h5, h6⟩, hk, hb, -, -, -, hl⟩ := hf
  have he := X.get hr hs h6 hle
  have hv := fl_get (ad := ad) (σ := σ) (r := r) (ci := ci) (k := k) (by rw [h5]; exact hk)
  rw [hb] at hv
  have kq := kk p e R s m args below meth c D ca ad0 ad n0 A H locs ls Q C X G L ⟨Y.1, List.forall_mem_cons.mpr ⟨trivial, (List.forall_mem_cons.mp Y.2).2⟩⟩ T
  show W p l e R s m args below meth c H locs kc ks Q (F0 m pc ls (vt ad (.inr r) :: st.map (vt ad)))
  rw [vt_pos hr]
  rcases hl with hl | ⟨host, hl⟩
  · exact va_get C.1 C.2.1 C.2.2.2.2.1 h2 C.2.2.2.1 X.1 X.2.1 (r - 1) he h1 k hk (C.2.2.2.2.1 _ hl) (fun x h => h) hv hd kq
  · exact va_getN C.1 C.2.1 C.2.2.2.2.1 h2 C.2.2.2.1 X.1 X.2.1 (r - 1) he h1 k hk (X.nest hl) (fun x h => h) hv hd kq
theorem xw_getR {idx ci k r : Nat} {fin : Bool} {ty : FieldType} (hf : FA M.y.cls idx ci k true fin ty) (hd : decode M.cc pc = .ok (.getfield idx, 3)) (hr : r ≠ 0) (hs : (shp r).1 = ci) (hle : r ≤ σ.1) (kk : XW E l M (pc + 3) lo (.inr (σ.2.2 r k) :: st) σ kc ks Φ) : XW E l M pc lo (.inr r :: st) σ kc ks Φ := by
  intro p e R s m args below meth c D ca ad0 ad n0 A H locs ls Q C X G L Y T
  obtain ⟨C0, T0, N, ty0, ⟨h1, h2, h3, h4, h5, h6⟩, hk, hb, -, -, -, hl⟩ := hf
  have he := X.get hr hs h6 hle
  have hv := fl_get (ad := ad) (σ := σ) (r := r) (ci := ci) (k := k) (by rw [h5]; exact hk)
  rw [hb] at hv
  have kq := kk p e R s m args below meth c D ca ad0 ad n0 A H locs ls Q C X G L ⟨Y.1, List.forall_mem_cons.mpr ⟨Or.inl (X.2.2.2.2.2.2 r k), (List.forall_mem_cons.mp Y.2).2⟩⟩ T
  show W p l e R s m args below meth c H locs kc ks Q (F0 m pc ls (vt ad (.inr r) :: st.map (vt ad)))
  rw [vt_pos hr]
  rcases hl with hl | ⟨host, hl⟩
  · exact va_get C.1 C.2.1 C.2.2.2.2.1 h2 C.2.2.2.1 X.1 X.2.1 (r - 1) he h1 k hk (C.2.2.2.2.1 _ hl) (fun x h => h) hv hd kq
  · exact va_getN C.1 C.2.1 C.2.2.2.2.1 h2 C.2.2.2.1 X.1 X.2.1 (r - 1) he h1 k hk (X.nest hl) (fun x h => h) hv hd kq
theorem xw_callK {g : Mth} {as st0 : List Av} {Φ' : Option Av → Sg → Prop}
    (hrun : ∀ (p : Program) (e : Env) (R : Room) (s : State) (m : MethodId) (args : Array Value) (below : List Frame) (meth : Method) (c : Code) (D : va_G) (ca : Nat → ClassId) (ad : Nat → Nat) (A : Nat → Prop) (H : Heap) (locs : List Loc) (ls : Array Slot), Cx M p R s m args meth c → Wd D ca ad A s H locs σ → ls.size = M.nL → (∀ v ∈ st0, okv σ.1 v) → σ.1 ≤ 1000 →
      va_Run p l e R s m args below meth c H locs kc ks g.mc g.ms (F0 m pc ls (st0.map (vt ad))) (st.map (vt ad)) (QC D ca ad σ H.size Φ' ((as.map (vt ad)).toArray)) (va_A (wl ad ca σ) H.size))
    (hst : ∀ v ∈ st, v ∈ st0)
    (kk : ∀ r σ', Φ' r σ' → σ.1 ≤ σ'.1 → XW E l M (pc + 3) lo (r.toList ++ st) σ' (kc + g.mc) (ks + g.ms) Φ) : XW E l M pc lo st0 σ kc ks Φ := by
  intro p e R s m args below meth c D ca ad0 ad n0 A H locs ls Q C X G L Y T
  intro T0 hT0 X0
  obtain ⟨v, st₀, t, T', L', h0, X', hL, e1, e2, ⟨⟨r, σ', ad', hv, hΦ, hG', hP', hD', hO', hrv⟩, hz, hk⟩, stp⟩ := hrun p e R s m args below meth c D ca ad A H locs ls C X L.1 Y.2 G.2.2 T0 hT0 X0
  have hv : v = r.map (vt ad') := by injection hv
  subst hv
  rw [h0] at hz hk
  have hsub := X.sub
  have hS : va_S A s.heap T'.heap (locs ++ L') := by
    refine ⟨Nat.le_trans X.2.2.2.1.1 (by rw [e1]; exact hz), fun q h1 h2 => ?_, fun q hq => ?_⟩
    · rw [e1, hk q (Nat.lt_of_lt_of_le h1 X.2.2.2.1.1) (fun z => h2 (hsub q z))]
      exact X.2.2.2.1.2.1 q h1 h2
    · rcases List.mem_append.mp hq with h | h
      · exact X.2.2.2.1.2.2 q h
      · exact hsub _ (hL q h)
  have X2 : Wd D ca ad' A s T'.heap (locs ++ L') σ' := X.wd (by rw [e1]; exact hP') (hD'.weaken (fun _ _ _ h => hsub _ h)) hS (fun k hk => hG'.1 k (Or.inr hk)) hO'
  have hmn : σ.1 ≤ σ'.1 := hG'.2.1
  have G2 : Ag ad0 n0 ad' σ' := ⟨fun k hk => (hG'.1 k (hk.elim (fun h => Or.inl (Nat.le_trans h G.2.1)) Or.inr)).trans (G.1 k hk), Nat.le_trans G.2.1 hmn, hG'.2.2⟩
  have hlt : lt ad' lo = lt ad lo := by
    unfold lt
    exact List.map_congr_left (fun q hq => by rw [vt_eq hG'.1 (Y.1 q hq)])
  have hstk : st.map (vt ad') = st.map (vt ad) := List.map_congr_left (fun q hq => vt_eq hG'.1 (Y.2 q (hst q hq)))
  have kq := kk r σ' hΦ hmn p e R s m args below meth c D ca ad0 ad' n0 A T'.heap (locs ++ L') ls Q C X2 G2 (by rw [hlt]; exact L) ⟨fun q hq => okv_mono hmn (Y.1 q hq), fun q hq => by
    rcases List.mem_append.mp hq with h | h
    · exact hrv q (by simpa using h)
    · exact okv_mono hmn (Y.2 q (hst q h))⟩ T
  have hmap : (r.toList ++ st).map (vt ad') = (r.map (vt ad')).toList ++ st.map (vt ad) := by
    rw [List.map_append, hstk]
    cases r <;> rfl
  rw [hmap] at kq
  obtain ⟨t2, a1, b1⟩ := kq T' rfl X'
  exact ⟨t2, stp t2 a1, b1⟩
theorem xw_callVg {g : Mth} {idx r : Nat} {bs : List Av} {Φ' : Option Av → Sg → Prop} (hrec0 : ∀ (D : va_G) (ca : Nat → ClassId) (ad : Nat → Nat) (A : Nat → Prop) (s : State) (H : Heap) (locs : List Loc), Wd D ca ad A s H locs σ → ∃ cell : Cell, H[ad r]? = some cell ∧ cell.vm.isStatics = false ∧ s.vm.findClass g.y.cls = some cell.cls) (hB : MB g bs.length) (hL : ML M.y.cls idx g) (hI : Cond.instanceMethod g.y ∈ gt) (hSe : Cond.selects g.y.cls g.y g.y ∈ gt)
    (hd : decode M.cc pc = .ok (.invokevirtual idx, 3)) (hR : g.dp + 1 ≤ M.dp ∧ g.nL ≤ 45) (hm : kc + g.mc ≤ M.mc ∧ ks + g.ms ≤ M.ms) (hst : st.length ≤ 8) (hr : r ≠ 0)
    (hcon : Con l g (.inr r :: bs) σ Φ') (kk : ∀ q σ', Φ' q σ' → σ.1 ≤ σ'.1 → XW E l M (pc + 3) lo (q.toList ++ st) σ' (kc + g.mc) (ks + g.ms) Φ) : XW E l M pc lo (bs.reverse ++ .inr r :: st) σ kc ks Φ := by
  refine xw_callK (g := g) (as := .inr r :: bs) (Φ' := Φ') ?_ (fun v hv => List.mem_append_right _ (List.mem_cons_of_mem _ hv)) kk
  intro p e R s m args below meth c D ca ad A H locs ls C X hls Y h9
  have hvs : ∀ v ∈ (.inr r :: bs : List Av), okv σ.1 v := fun v hv => Y v (by
    rcases List.mem_cons.mp hv with h | h
    · exact List.mem_append_right _ (h ▸ List.mem_cons_self)
    · exact List.mem_append_left _ (List.mem_reverse.mpr h))
  have hpre := X.start hvs h9 (a := ((.inr r :: bs : List Av).map (vt ad)).toArray) rfl
  have hx : (.inr r :: bs : List Av).map (vt ad) = Value.ref (ad r) :: bs.map (vt ad) := by rw [List.map_cons, vt_pos hr]
  rw [hx] at hpre ⊢
  have hrec := hrec0 D ca ad A s H locs X
  have hPV : PreV s H g.y.cls (ad r) (PC D ca ad (.inr r :: bs) σ H.size) (bs.map (vt ad)) := ⟨PC_blind, hrec, hpre⟩
  have hstack : (F0 m pc ls ((bs.reverse ++ .inr r :: st).map (vt ad))).stack = (bs.map (vt ad)).reverse ++ Value.ref (ad r) :: st.map (vt ad) := by
    show (bs.reverse ++ .inr r :: st).map (vt ad) = _
    rw [List.map_append, List.map_cons, vt_pos hr, List.map_reverse]
  have hcat : 2 * (F0 m pc ls ((bs.reverse ++ .inr r :: st).map (vt ad))).monitorRoom + ((st.map (vt ad)).map fun v => v.category).sum ≤ 8 := by
    rw [cat_sum]
    show 2 * 0 + st.length ≤ 8
    omega
  have hf : kc + g.mc ≤ R.cells ∧ ks + g.ms ≤ R.slots := ⟨Nat.le_trans hm.1 C.2.2.2.2.2.2.2.2.2.2.1, Nat.le_trans hm.2 C.2.2.2.2.2.2.2.2.2.2.2⟩
  have hts := C.2.2.2.2.1
  rcases hL with hL | ⟨host, hL⟩
  · refine va_runV (Ts := gt) (own := M.y.cls) ⟨C.1, C.2.1, C.2.2.1, C.2.2.2.1, hts⟩ (hcon D ca ad H.size) (C := g.y.cls) (bytes := g.cc) (maxL := g.nL) (ret := g.rt) (n := bs.length) ?_ hPV rfl (List.length_map _) hls hstack hcat hd hf
    exact ⟨callB_of bs.length hts (mws_good g hB.1) rfl rfl rfl (hts _ hB.2.1) (hts _ hL) hB.2.2 (rm_ok C hR), hts _ hI, hts _ hSe⟩
  · refine va_runVN (Ts := gt) (own := M.y.cls) (host := host) ⟨C.1, C.2.1, C.2.2.1, C.2.2.2.1, hts⟩ (hcon D ca ad H.size) (C := g.y.cls) (bytes := g.cc) (maxL := g.nL) (ret := g.rt) (n := bs.length) ?_ hPV rfl (List.length_map _) hls hstack hcat hd hf
    exact ⟨va_cnB bs.length hts (mws_good g hB.1) rfl rfl rfl (X.2.2.2.2.2.1.2.2.2.2.2.1 _ hL) (hts _ hB.2.1) hB.2.2 (rm_ok C hR), hts _ hI, hts _ hSe⟩
theorem xw_callV {g : Mth} {idx ci r : Nat} {bs : List Av} {Φ' : Option Av → Sg → Prop} {T0 : u_T} {N : Nat} (hB : MB g bs.length) (hL : ML M.y.cls idx g) (hI : Cond.instanceMethod g.y ∈ gt) (hSe : Cond.selects g.y.cls g.y g.y ∈ gt)
    (hd : decode M.cc pc = .ok (.invokevirtual idx, 3)) (hR : g.dp + 1 ≤ M.dp ∧ g.nL ≤ 45) (hm : kc + g.mc ≤ M.mc ∧ ks + g.ms ≤ M.ms) (hst : st.length ≤ 8) (hr : r ≠ 0) (hle : r ≤ σ.1) (hs : (shp r).1 = ci) (hc : vcl[ci]? = some (g.y.cls, T0, N)) (hci : ci < 13)
    (hcon : Con l g (.inr r :: bs) σ Φ') (kk : ∀ q σ', Φ' q σ' → σ.1 ≤ σ'.1 → XW E l M (pc + 3) lo (q.toList ++ st) σ' (kc + g.mc) (ks + g.ms) Φ) : XW E l M pc lo (bs.reverse ++ .inr r :: st) σ kc ks Φ :=
  xw_callVg (fun _ _ _ _ _ _ _ X => va_recv X.1 X.2.1 hc (X.get hr hs hci hle)) hB hL hI hSe hd hR hm hst hr hcon kk
theorem xw_callS {g : Mth} {idx : Nat} {bs : List Av} {Φ' : Option Av → Sg → Prop} (hB : MB g bs.length) (hL : ML M.y.cls idx g) (hI : Cond.static g.y ∈ gt)
    (hd : decode M.cc pc = .ok (.invokestatic idx, 3)) (hR : g.dp + 1 ≤ M.dp ∧ g.nL ≤ 45) (hm : kc + g.mc ≤ M.mc ∧ ks + g.ms ≤ M.ms) (hst : st.length ≤ 8)
    (hcon : Con l g bs σ Φ') (kk : ∀ q σ', Φ' q σ' → σ.1 ≤ σ'.1 → XW E l M (pc + 3) lo (q.toList ++ st) σ' (kc + g.mc) (ks + g.ms) Φ) : XW E l M pc lo (bs.reverse ++ st) σ kc ks Φ := by
  refine xw_callK (g := g) (as := bs) (Φ' := Φ') ?_ (fun v hv => List.mem_append_right _ hv) kk
  intro p e R s m args below meth c D ca ad A H locs ls C X hls Y h9
  have hvs : ∀ v ∈ bs, okv σ.1 v := fun v hv => Y v (List.mem_append_left _ (List.mem_reverse.mpr hv))
  have hpre := X.start hvs h9 (a := (bs.map (vt ad)).toArray) rfl
  have hPV : PreS s H (PC D ca ad bs σ H.size) (bs.map (vt ad)) := ⟨PC_blind, hpre⟩
  have hstack : (F0 m pc ls ((bs.reverse ++ st).map (vt ad))).stack = (bs.map (vt ad)).reverse ++ st.map (vt ad) := by
    show (bs.reverse ++ st).map (vt ad) = _
    rw [List.map_append, List.map_reverse]
  have hcat : 2 * (F0 m pc ls ((bs.reverse ++ st).map (vt ad))).monitorRoom + ((st.map (vt ad)).map fun v => v.category).sum ≤ 8 := by
    rw [cat_sum]
    show 2 * 0 + st.length ≤ 8
    omega
  have hf : kc + g.mc ≤ R.cells ∧ ks + g.ms ≤ R.slots := ⟨Nat.le_trans hm.1 C.2.2.2.2.2.2.2.2.2.2.1, Nat.le_trans hm.2 C.2.2.2.2.2.2.2.2.2.2.2⟩
  have hts := C.2.2.2.2.1
  rcases hL with hL | ⟨host, hL⟩
  · refine va_runS (Ts := gt) (own := M.y.cls) ⟨C.1, C.2.1, C.2.2.1, C.2.2.2.1, hts⟩ (hcon D ca ad H.size) (bytes := g.cc) (maxL := g.nL) (ret := g.rt) (n := bs.length) ?_ hPV rfl (List.length_map _) hls hstack hcat hd hf
    exact ⟨callB_of bs.length hts (mws_good g hB.1) rfl rfl rfl (hts _ hB.2.1) (hts _ hL) hB.2.2 (rm_ok C hR), hts _ hI⟩
  · refine va_runSN (Ts := gt) (own := M.y.cls) (host := host) ⟨C.1, C.2.1, C.2.2.1, C.2.2.2.1, hts⟩ (hcon D ca ad H.size) (bytes := g.cc) (maxL := g.nL) (ret := g.rt) (n := bs.length) ?_ hPV rfl (List.length_map _) hls hstack hcat hd hf
    exact ⟨va_cnB bs.length hts (mws_good g hB.1) rfl rfl rfl (X.2.2.2.2.2.1.2.2.2.2.2.1 _ hL) (hts _ hB.2.1) hB.2.2 (rm_ok C hR), hts _ hI, trivial⟩
theorem xw_gI {idx ci k r : Nat} {fin : Bool} {ty : FieldType} (hf : FA M.y.cls idx ci k false fin ty) (hd : decode M.cc pc = .ok (.getfield idx, 3)) (g : Ob σ r ci) (kk : XW E l M (pc + 3) lo (.inl (σ.2.1 r k) :: st) σ kc ks Φ) : XW E l M pc lo (.inr r :: st) σ kc ks Φ := xw_getI hf hd g.1 g.2.1 g.2.2 kk
theorem xw_gR {idx ci k r : Nat} {fin : Bool} {ty : FieldType} (hf : FA M.y.cls idx ci k true fin ty) (hd : decode M.cc pc = .ok (.getfield idx, 3)) (g : Ob σ r ci) (kk : XW E l M (pc + 3) lo (.inr (σ.2.2 r k) :: st) σ kc ks Φ) : XW E l M pc lo (.inr r :: st) σ kc ks Φ := xw_getR hf hd g.1 g.2.1 g.2.2 kk
theorem xw_vC {g : Mth} {n ci idx r kc' ks' : Nat} {bs st0 : List Av} {Ψ : Option Av → Sg → Prop} (hv : VM g n ci) (hl : MLy M.y.cls idx g.y) (hd : decode M.cc pc = .ok (.invokevirtual idx, 3)) (hR : kcs kc ks kc' ks' M g) (hst : st.length ≤ 8) (hn : bs.length = n) (e : bs.reverse ++ .inr r :: st = st0) (ob : Ob σ r ci) (h : Con l g (.inr r :: bs) σ Ψ) (kk : ∀ q σ', Ψ q σ' → σ.1 ≤ σ'.1 → XW E l M (pc + 3) lo (q.toList ++ st) σ' kc' ks' Φ) : XW E l M pc lo st0 σ kc ks Φ := by
  obtain ⟨h1, h2, h3, ⟨T0, N, h4⟩, h5, h6⟩ := hv
  obtain ⟨r1, rfl, rfl, r4, r5⟩ := hR
  subst hn
  subst e
  exact xw_callV h1 hl h2 h3 hd ⟨r1, h6⟩ ⟨r4, r5⟩ hst ob.1 ob.2.2 ob.2.1 h4 h5 h kk
theorem xw_sC {g : Mth} {n idx kc' ks' : Nat} {bs st0 : List Av} {Ψ : Option Av → Sg → Prop} (hv : SM g n) (hl : MLy M.y.cls idx g.y) (hd : decode M.cc pc = .ok (.invokestatic idx, 3)) (hR : kcs kc ks kc' ks' M g) (hst : st.length ≤ 8) (hn : bs.length = n) (e : bs.reverse ++ st = st0) (h : Con l g bs σ Ψ) (kk : ∀ q σ', Ψ q σ' → σ.1 ≤ σ'.1 → XW E l M (pc + 3) lo (q.toList ++ st) σ' kc' ks' Φ) : XW E l M pc lo st0 σ kc ks Φ := by
  obtain ⟨h1, h2, h6⟩ := hv
  obtain ⟨r1, rfl, rfl, r4, r5⟩ := hR
  subst hn
  subst e
  exact xw_callS h1 hl h2 hd ⟨r1, h6⟩ ⟨r4, r5⟩ hst h kk
theorem xkI {K : Int32 → Sg → Prop} {kc' ks' : Nat} (h : ∀ x σ', K x σ' → σ.1 ≤ σ'.1 → XW E l M pc lo (.inl x :: st) σ' kc' ks' Φ) : ∀ q σ', PI K q σ' → σ.1 ≤ σ'.1 → XW E l M pc lo (q.toList ++ st) σ' kc' ks' Φ := by
  intro q σ' ⟨x, hq, hk⟩ hm
  subst hq
  exact h x σ' hk hm
theorem xkR {K : Nat → Sg → Prop} {kc' ks' : Nat} (h : ∀ x σ', K x σ' → σ.1 ≤ σ'.1 → XW E l M pc lo (.inr x :: st) σ' kc' ks' Φ) : ∀ q σ', PR K q σ' → σ.1 ≤ σ'.1 → XW E l M pc lo (q.toList ++ st) σ' kc' ks' Φ := by
  intro q σ' ⟨x, hq, hk⟩ hm
  subst hq
  exact h x σ' hk hm
theorem xw_rI {v : Int32} {K : Int32 → Sg → Prop} (hd : decode M.cc pc = .ok (.ireturn, 1)) (hty : M.rt = some .int) (hk : kc ≤ M.mc) (hs : ks ≤ M.ms) (h : K v σ) : XW E l M pc lo [.inl v] σ kc ks (PI K) := by
  intro p e R s m args below meth c D ca ad0 ad n0 A H locs ls Q C X G L Y T
  exact T.1 (some (.inl v)) σ ad H locs ls pc kc ks ⟨v, rfl, h⟩ X G hk hs ⟨⟨.int, hty, rfl⟩, hd⟩ (fun q hq => by injection hq with hq; subst hq; trivial)
theorem xw_x {Ψ : Nat → Sg → Prop} (h : Ψ pc σ) : XW (LkE l M.nL Ψ) l M pc lo [] σ 0 0 Φ := by
  intro p e R s m args below meth c D ca ad0 ad n0 A H locs ls Q C X G L Y T
  exact T.2 pc σ ad H locs ls h X G L.1
end XWR
