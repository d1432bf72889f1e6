/-! an exception without stack traces: what the words say of its class (vy_exc), and its constructor with a text, then athrow (vy_throw), for a frame that has written nothing old -/
section VY
/-- the field f lies in the class cX, at its own place -/
def vy_Lay (s : State) (cX : ClassId) (kX : Class) (f : Field) : Prop :=
  kX.instanceTypes[f.slot]? = some f.type ∧ ∃ d, Jmm.declares? s.vm f.slot (cX + 1) cX = some d ∧ d.2.name = f.name
theorem vy_Lay.ne {s : State} {cX : ClassId} {kX : Class} {f g : Field} (hf : vy_Lay s cX kX f) (hg : vy_Lay s cX kX g) (hn : f.name ≠ g.name) : f.slot ≠ g.slot :=
  match hf.2, hg.2 with
  | ⟨_, i1, i2⟩, ⟨_, j1, j2⟩ => Cond.laysApart i1 j1 i2 j2 hn
/-- a write elsewhere -/
theorem vy_beside {x : Cell} {i j : Nat} {u v : Value} (h : x.slots[i]? = some v) (hn : i ≠ j) : (x.setSlot j u).slots[i]? = some v := by
  show (x.slots.setIfInBounds j u)[i]? = some v
  rw [Array.getElem?_setIfInBounds_ne (Ne.symm hn)]
  exact h
/-- a method that the class takes over as it is -/
theorem vy_sel {l : Launch} {e : Env} {s : State} {args : Array Value} {cls : String} {y : MethodName} {k : MethodId} {cX : ClassId} (hA : l.admits e) (hf : s.vm.findClass cls = some cX) (hn : s.methodNamed? y = some k)
    (hy : y.cls ≠ "java/lang/invoke/MethodHandle" ∧ y.cls ≠ "java/lang/invoke/VarHandle") (h : (Cond.selects cls y y).before args s = true) : selectMethod e.platform s.vm cX k = .method k := by
  rcases Cond.selects_spec h with ⟨c', r, k', e1, e2, e3, e4, -⟩
  have i1 : cX = c' := Option.some.inj (hf.symm.trans e1)
  have i2 : k = r := Option.some.inj ((State.methodFound?_of_named hn hy).symm.trans e2)
  have i3 : k = k' := Option.some.inj (hn.symm.trans e3)
  rw [← i1, ← i2, ← i3] at e4
  exact (Launch.admits_selectMethod hA s.vm cX k).trans e4
/-- what a class's words say of a fresh exception of it -/
def vy_Exc (e : Env) (s : State) (cls : String) (n : Nat) (cX : ClassId) (kX : Class) (T : ThrowableC) (Z : Init0T) (M : MsgC) (Ps : List PassC) (u0 sen : RefV) (z : Cell) : Prop :=
  (T.Links e.platform s ∧ Z.LaidS T.toThrowableT ∧ M.Links T e.platform s ∧ T.codeObj.maxLocals = 1) ∧
  ((∀ P, P ∈ Ps → P.LinksS e.platform s) ∧ PassesOn (Z.m T.toThrowableT) (Ps.map (·.toPassT)) ∧ Ps.length = n ∧ s.methodNamed? (Bundle.initS cls) = some (firstOf (Z.m T.toThrowableT) (Ps.map (·.toPassT)))) ∧
  (selectMethod e.platform s.vm cX T.fill0 = .method T.fill0 ∧ selectMethod e.platform s.vm cX T.fill = .method T.fill) ∧
  (s.heap[T.aS]? = some z ∧ z.vm.isStatics = true ∧ z.slots[T.fUnassigned.slot]? = some u0.v ∧ z.slots[T.fSentinel.slot]? = some sen.v) ∧
  (∀ a : Addr, Takes s (freshCell cX kX) T.fCause (.ref a)) ∧ Takes s (freshCell cX kX) T.fStack u0.v ∧ Takes s (freshCell cX kX) T.fSupp sen.v ∧ (∀ msg : Value, msg.isRef = true → Takes s (freshCell cX kX) T.fMsg msg) ∧
  ∀ (a : Addr) (t : ThreadId), SkipFacts T e.platform s (fun u => u) u0 ((preparedCellV T.toThrowableT (freshCell cX kX) a u0 sen).withEntry t)
set_option maxHeartbeats 1000000 in
theorem vy_exc {l : Launch} {e : Env} {s : State} {args : Array Value} (hA : l.admits e) {own cls : String} {names : List String} {ic ix : Nat} {rx : ByteArray}
    (x0 : decode rx 0 = .ok (.aload_n 0, 1)) (x1 : decode rx 1 = .ok (.aload_n 1, 1)) (x2 : decode rx 2 = .ok (.invokespecial ix, 3)) (x5 : decode rx 5 = .ok (.return_, 1))
    (hc : Bundle.fit cls = true) (hn : ∀ n ∈ names, Bundle.fit n = true) (w : ∀ v ∈ Bundle.ownAtomsX own ic cls ix rx names, v.before args s = true)
    {cX : ClassId} {kX : Class} (hf : s.vm.findClass cls = some cX) (hk : s.vm.classes[cX]? = some kX) :
    ∃ T Z M Ps u0 sen z, vy_Exc e s cls (names.length + 1) cX kX T Z M Ps u0 sen z := by
  have m1 : e.platform.magicAccessors = ({} : Platform).magicAccessors := by rw [hA.platform]
  have wt : ∀ v ∈ Bundle.throwableAtoms, v.before args s = true := fun v hv => w v (by unfold Bundle.ownAtomsX; exact List.mem_append_left _ (List.mem_append_left _ (List.mem_append_left _ hv)))
  have ws : ∀ v ∈ Bundle.throwableSAtoms, v.before args s = true := fun v hv => w v (by unfold Bundle.ownAtomsX; exact List.mem_append_left _ (List.mem_append_left _ (List.mem_append_right _ hv)))
  have wc : ∀ v ∈ Bundle.chainSAtomsX cls ix rx names, v.before args s = true := fun v hv => w v (by unfold Bundle.ownAtomsX; exact List.mem_append_left _ (List.mem_append_right _ hv))
  rcases ThrowableC.of_atoms (pl := e.platform) (by rw [hA.platform]) (by rw [hA.platform]) m1 wt with ⟨T, _, LT, -, Y⟩
  rcases Init0T.ofS_atoms m1 LT Y ws with ⟨Z, M, LZ, LM, hZ⟩
  rcases Bundle.chainSX m1 hZ x0 x1 x2 x5 names cls hc hn wc with ⟨P, Ps, hlen, hP, hPs, hPm, hl1, hl2⟩
  rcases Cond.instantiable_spec (w (.instantiable cls 6) (by simp [Bundle.ownAtomsX])) with ⟨c', k', e1, e2, ho, -⟩
  have ho' : kX.kind = .ordinary := by
    have i1 : cX = c' := Option.some.inj (hf.symm.trans e1)
    rw [← i1] at e2
    rw [Option.some.inj (hk.symm.trans e2)]
    exact ho
  have lay : ∀ {name desc : String} {q : ClassId × Class × Nat × Field}, s.fieldFound? Bundle.tN name desc = some q → Cond.lays cls Bundle.tN name desc ∈ Bundle.ownAtomsX own ic cls ix rx names → vy_Lay s cX kX q.2.2.2 :=
    fun h1 h2 => Cond.laysAt hf hk h1 (w _ h2)
  have yC : vy_Lay s cX kX T.fCause := lay Y.cause (by simp [Bundle.ownAtomsX])
  have yS : vy_Lay s cX kX T.fStack := lay Y.stack (by simp [Bundle.ownAtomsX])
  have yP : vy_Lay s cX kX T.fSupp := lay Y.supp (by simp [Bundle.ownAtomsX])
  have yM : vy_Lay s cX kX T.fMsg := Y.msg.elim fun _ h => lay h (by simp [Bundle.ownAtomsX])
  rcases Cond.ownField (t := .object "java/lang/Object") Y.found LT.cls (by decide +kernel) (w (.fieldLink Bundle.tN 198 Bundle.tN "backtrace" "Ljava/lang/Object;") (by simp [Bundle.ownAtomsX]))
    (w (.lays Bundle.tN Bundle.tN "backtrace" "Ljava/lang/Object;") (by simp [Bundle.ownAtomsX])) e.platform m1 with ⟨ci, bi, fB, b1, b2, b3, b4, -, b5, b6, b7⟩
  have yB : vy_Lay s cX kX fB := lay b7 (by simp [Bundle.ownAtomsX])
  rcases Y.statics with ⟨z, hz, hzi⟩
  rcases Cond.staticRefV Y.unassigned LT.unassignedStatic LT.statics hz hzi (w (.isRef (.static Bundle.tN "UNASSIGNED_STACK" Bundle.steD)) (by simp [Bundle.ownAtomsX])) with ⟨u0, hu⟩
  rcases Cond.staticRefV Y.sentinel LT.sentinelStatic LT.statics hz hzi (w (.isRef (.static Bundle.tN "SUPPRESSED_SENTINEL" Bundle.listD)) (by simp [Bundle.ownAtomsX])) with ⟨sen, hs⟩
  have tk : ∀ {f : Field} {v : Value}, vy_Lay s cX kX f → fits f.type v = true → Takes s (freshCell cX kX) f v := fun h1 h2 => Takes.of_laid hk ho' h1.1 h2
  refine ⟨T, Z, M, P :: Ps, u0, sen, z, ⟨LT, LZ, LM, Y.objLocals⟩, ⟨List.forall_mem_cons.mpr ⟨hP, hPs⟩, ⟨hl1, hl2⟩, congrArg (· + 1) hlen, hPm⟩, ⟨vy_sel hA hf Y.fill0 (by decide) (w _ (by simp [Bundle.ownAtomsX])), vy_sel hA hf Y.fill (by decide) (w _ (by simp [Bundle.ownAtomsX]))⟩,
    ⟨hz, hzi, hu, hs⟩, fun a => tk yC (by rw [Y.causeType]; rfl), tk yS (by rw [Y.stackType]; exact fits_refV_array _ u0), tk yP (by rw [Y.suppType]; exact fits_refV_object _ sen),
    fun msg hm => tk yM (by rw [Y.msgType]; exact fits_refV_object _ ⟨msg, hm⟩), fun a t => ⟨⟨ci, bi, fB⟩, ⟨b1, b2, b3, b4⟩, ?_, fun _ _ => rfl⟩⟩
  have d0 : (freshCell cX kX).slots[fB.slot]? = some .null := by rw [fresh_default yB.1, b6]; rfl
  exact vy_beside (vy_beside (vy_beside d0 (yB.ne yC (by rw [b5, Y.causeName]; decide))) (yB.ne yS (by rw [b5, Y.stackName]; decide))) (yB.ne yP (by rw [b5, Y.suppName]; decide))
/-- a cell of statics, where nothing old was written -/
theorem vy_stat {p : Program} {l : Launch} {e : Env} {R : Room} {s : State} {m : MethodId} {args : Array Value} {below : List Frame} {meth : Method} {c : Code} {V : State} {cells slots : Nat}
    (X : Stand p l e R s m args below meth c V [] cells slots) {q : Addr} {z : Cell} (hz : s.heap[q]? = some z) (hi : z.vm.isStatics = true) :
    ∃ z', V.heap[q]? = some z' ∧ z'.vm ≠ .unknown ∧ ∀ i : Nat, z'.slots[i]? = z.slots[i]? := by
  rcases X.same.2.2.2.2.2 q z hz with ⟨z', e1, e2, -, e4⟩
  refine ⟨z', e1, fun hu => ?_, fun i => e4 i (fun h => nomatch h)⟩
  have hv : z.vm = .unknown := (congrArg Cell.vm e2).symm.trans hu
  rw [hv] at hi
  exact nomatch hi
set_option maxHeartbeats 1000000 in
theorem vy_throw {p : Program} {l : Launch} {e : Env} {R : Room} {s : State} {m : MethodId} {args : Array Value} {below : List Frame} {meth : Method} {c : Code} {V : State} {cells slots : Nat}
    (X : Stand p l e R s m args below meth c V [] cells slots) (hexec : p.tables.exec = Jvm.exec) (htr : e.platform.stackTraces = false) {own cls : String} {names : List String} {ic ix : Nat} {rx : ByteArray}
    (x0 : decode rx 0 = .ok (.aload_n 0, 1)) (x1 : decode rx 1 = .ok (.aload_n 1, 1)) (x2 : decode rx 2 = .ok (.invokespecial ix, 3)) (x5 : decode rx 5 = .ok (.return_, 1))
    (hown : s.vm.findClass own = some m.cls) (hc : Bundle.fit cls = true) (hn : ∀ n ∈ names, Bundle.fit n = true) (w : ∀ v ∈ Bundle.ownAtomsX own ic cls ix rx names, v.before args s = true)
    {a : Addr} {cX : ClassId} {kX : Class} (hf : s.vm.findClass cls = some cX) (hk : s.vm.classes[cX]? = some kX) (hcell : V.heap[a]? = some (freshCell cX kX)) (hnew : s.heap.size ≤ a)
    {msg : Value} (hmsg : msg.isRef = true) {pc : Nat} {ls : Array Slot} {rest : List Value} (hls : ls.size = c.maxLocals)
    (d0 : decode c.code pc = .ok (.invokespecial ic, 3)) (d3 : decode c.code (pc + 3) = .ok (.athrow, 1)) (hout : ∀ x ∈ c.exceptionTable.toList, covers x (pc + 3) = false)
    (hRf : names.length + 3 < R.frames) (hRl : ((Value.ref a :: rest).map fun v => v.category).sum + (13 * (names.length + 1) + 42) ≤ R.locals) (hlocks : meth.locks = false) :
    ∃ (U : State) (ce : Cell), Steps p.tables e below (V.setTop { method := m, pc := pc, locals := ls, stack := msg :: .ref a :: .ref a :: rest, locked := none }) U ∧ (U.status = .running ∧ Ended U below (.threw a)) ∧
      (s.WarmedH U.vm ∧ s.sameButNew ({ U with vm := s.vm } : State) [] cells slots) ∧ U.heap[a]? = some ce ∧ ce.cls = cX ∧ ce.vm = .none := by
  rcases vy_exc X.admits x0 x1 x2 x5 hc hn w hf hk with ⟨T, Z, M, Ps, u0, sen, z, ⟨LT, LZ, LM, hol⟩, ⟨hPs, hpass, hlen, hm⟩, ⟨s0, sF⟩, ⟨hz, hzi, hzu, hzs⟩, tC, tS, tP, tM, sk⟩
  rcases vy_stat X hz hzi with ⟨z', hz1, hz2, hz3⟩
  have haS : T.aS ≠ a := fun h => by
    have h1 := (Array.getElem?_eq_some_iff.mp hz).1
    rw [h] at h1
    exact Nat.not_lt.mpr hnew h1
  rcases Steps.initColdS (tb := p.tables) (e := e) (below := below) X.here hexec X.warmed (by rw [X.admits.platform]) hown (t := Bundle.initS cls) rfl rfl (Bundle.fit_spec hc).2
    (w (.methodLink own ic (Bundle.initS cls)) (by simp [Bundle.ownAtomsX])) (w (.instanceMethod (Bundle.initS cls)) (by cases names <;> simp [Bundle.ownAtomsX, Bundle.chainSAtomsX, Bundle.passSAtoms]))
    (w (.code (Bundle.initS cls) rx 2 none) (by cases names <;> simp [Bundle.ownAtomsX, Bundle.chainSAtomsX, Bundle.passSAtoms]))
    (f := { method := m, pc := pc, locals := ls, stack := msg :: .ref a :: .ref a :: rest, locked := none }) rfl rfl d0 with ⟨tm, _, _, _, vm₁, n1, -, -, -, -, -, -, -, hW₁, go1⟩
  have n2 : tm = firstOf (Z.m T.toThrowableT) (Ps.map (·.toPassT)) := Option.some.inj (n1.symm.trans hm)
  rw [n2] at go1
  rcases (X.noted hW₁).ctorMessageOffV hexec (g := { method := m, pc := pc, locals := ls, stack := .ref a :: rest, locked := none }) rfl hls T LT Z LZ M LM Ps hPs hpass (u0 := u0) (sen := sen) hmsg hcell
    (fun _ h => nomatch h) (fun h => nomatch h) rfl rfl s0 sF hz1 haS hz2 ((hz3 _).trans hzu) ((hz3 _).trans hzs) (tC a) tS tP (tM msg hmsg) hol (sk a _) htr [] d0 (by rw [hlen]; exact hRf) (by rw [hlen]; show 2 * 0 + ((Value.ref a :: rest).map fun v => v.category).sum + (13 * (names.length + 1) + 42) ≤ R.locals; omega) with ⟨vm₂, X₂, go2⟩
  rcases X₂.athrowLeaves hexec (g := { method := m, pc := pc + 3, locals := ls, stack := .ref a :: rest, locked := none }) rfl rfl rfl hout rfl d3 hlocks with ⟨go3, r1, r2, r3, r4⟩
  have old : ∀ y ∈ ([] ++ [⟨a, T.fCause.slot⟩, ⟨a, T.fStack.slot⟩, ⟨a, T.fSupp.slot⟩, ⟨a, T.fStack.slot⟩, ⟨a, T.fMsg.slot⟩] : List Loc), y.base = a := by simp
  exact ⟨_, _, go1 _ (fun acts => by rw [doInvoke_state]; exact go2 _ go3), ⟨r1, r2⟩, ⟨r3, r4.weaken (fun y hy hlt => absurd (old y hy ▸ hlt) (Nat.not_lt.mpr hnew)) (Nat.le_refl _) (Nat.le_refl _)⟩,
    heapAt_setCell_self _ (Array.getElem?_eq_some_iff.mp hcell).1, rfl, rfl⟩
end VY
