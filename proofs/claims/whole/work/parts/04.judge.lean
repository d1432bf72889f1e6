/-- a method: its name, code, number of locals, return type, depth of its calls, cells and slots that it makes -/
abbrev Mth : Type := MethodName × ByteArray × Nat × Option FieldType × Nat × Nat × Nat
abbrev Mth.y (M : Mth) : MethodName := M.1
abbrev Mth.cc (M : Mth) : ByteArray := M.2.1
abbrev Mth.nL (M : Mth) : Nat := M.2.2.1
abbrev Mth.rt (M : Mth) : Option FieldType := M.2.2.2.1
abbrev Mth.dp (M : Mth) : Nat := M.2.2.2.2.1
abbrev Mth.mc (M : Mth) : Nat := M.2.2.2.2.2.1
abbrev Mth.ms (M : Mth) : Nat := M.2.2.2.2.2.2
def xtab : List Int32 := [1000, 924, 707, 383, 0, -383, -707, -924, -1000, -924, -707, -383, 0, 383, 707, 924]
def slen : List Nat := [4, 4, 4, 2, 4, 4, 3, 32, 20, 12]
def sbyt : List (List Int32) := [[109, 97, 107, 101], [116, 104, 101, 110], [102, 114, 111, 109], [116, 111], [98, 97, 99, 107], [115, 108, 111, 119], [100, 114, 121], [109, 97, 107, 101, 32, 116, 104, 101, 110, 32, 102, 114, 111, 109, 32, 116, 111, 32, 98, 97, 99, 107, 32, 115, 108, 111, 119, 32, 100, 114, 121, 32], [110, 111, 32, 115, 117, 99, 104, 32, 116, 97, 112, 101, 32, 111, 114, 32, 116, 105, 99, 107], [110, 111, 32, 115, 117, 99, 104, 32, 119, 104, 97, 116]]
def sref : List (String × Nat × String) := [("LedArms$Text", 62, "make"), ("LedArms$Text", 68, "then"), ("LedArms$Text", 70, "from"), ("LedArms$Text", 72, "to"), ("LedArms$Text", 74, "back"), ("LedArms$Text", 76, "slow"), ("LedArms$Text", 78, "dry"), ("LedArmsModel", 216, "make then from to back slow dry "), ("LedArms", 162, "no such tape or tick"), ("LedArms", 169, "no such what")]
theorem gn_tab {w : Cond} (h : w ∈ gn) : w.onTables = true := by
  have h2 := (List.mem_filter.mp h).2
  cases w <;> first | rfl | (exfalso; revert h2; simp [isNst])
theorem gn_warm {w : Cond} (h : w ∈ gn) {s U : State} (hW : s.WarmedH U.vm) (hZ : va_Nw w s) : va_Nw w U := by
  have h2 := (List.mem_filter.mp h).2
  cases w <;> first | exact va_Nw.warmF hW hZ | exact va_Nw.warmM hW hZ | (exfalso; revert h2; simp [isNst])
def Zs (ad : Nat → Nat) (A : Nat → Prop) (U : State) (H : Heap) : Prop := va_Z "jdk/internal/util/Preconditions" "SIOOBE_FORMATTER" "Ljava/util/function/BiFunction;" .null A U H ∨ va_Z "jdk/internal/util/Preconditions" "SIOOBE_FORMATTER" "Ljava/util/function/BiFunction;" (.ref (ad 2000001)) A U H
/-- what stands outside the world and never changes: the row X, the constant texts -/
def Stc (ad : Nat → Nat) (A : Nat → Prop) (U : State) (H : Heap) : Prop :=
  va_Z "LedArms" "X" "[I" (.ref (ad 2000000)) A U H ∧ va_T .int (ad 2000000) 16 (fun j => .int (xtab.getD j 0)) A U H ∧ va_Z "java/lang/String" "COMPACT_STRINGS" "Z" (.int 1) A U H ∧
  vk_S 10 slen sbyt (fun i => ad (1000000 + i)) (fun i => ad (1100000 + i)) A U H ∧ (∀ (i : Nat) (q : String × Nat × String), sref[i]? = some q → vk_R q.1 q.2.1 q.2.2 (ad (1000000 + i)) U) ∧ (∀ w ∈ gn, va_Nw w U) ∧ va_AO "LedArms$Arm" U ∧ va_AO "LedArms$Tape" U ∧ Zs ad A U H
theorem Stc.kept {ad : Nat → Nat} {A : Nat → Prop} {U : State} {H H1 : Heap} (h : Stc ad A U H) (hq : ∀ a : Nat, a < H.size → ¬ A a → H1[a]? = H[a]?) : Stc ad A U H1 :=
  ⟨h.1.kept hq, h.2.1.kept hq, h.2.2.1.kept hq, h.2.2.2.1.kept hq, h.2.2.2.2.1, h.2.2.2.2.2.1, h.2.2.2.2.2.2.1, h.2.2.2.2.2.2.2.1, h.2.2.2.2.2.2.2.2.elim (fun z => Or.inl (z.kept hq)) (fun z => Or.inr (z.kept hq))⟩
theorem Stc.narrow {ad : Nat → Nat} {A B : Nat → Prop} {U : State} {H : Heap} (h : Stc ad A U H) (hAB : ∀ q, B q → A q) : Stc ad B U H :=
  ⟨h.1.narrow hAB, h.2.1.narrow hAB, h.2.2.1.narrow hAB, h.2.2.2.1.narrow hAB, h.2.2.2.2.1, h.2.2.2.2.2.1, h.2.2.2.2.2.2.1, h.2.2.2.2.2.2.2.1, h.2.2.2.2.2.2.2.2.elim (fun z => Or.inl (z.narrow hAB)) (fun z => Or.inr (z.narrow hAB))⟩
theorem Stc.warm {ad : Nat → Nat} {A : Nat → Prop} {s U : State} {H : Heap} (h : Stc ad A s H) (hW : s.WarmedH U.vm) : Stc ad A U H :=
  ⟨h.1.moved hW.alike, h.2.1.moved hW.alike, h.2.2.1.moved hW.alike, h.2.2.2.1.moved hW.alike, fun i q hi => (h.2.2.2.2.1 i q hi).warm hW, fun w hw => gn_warm hw hW (h.2.2.2.2.2.1 w hw), h.2.2.2.2.2.2.1.moved hW.alike, h.2.2.2.2.2.2.2.1.moved hW.alike, h.2.2.2.2.2.2.2.2.elim (fun z => Or.inl (z.moved hW.alike)) (fun z => Or.inr (z.moved hW.alike))⟩
theorem Stc.same {ad : Nat → Nat} {A : Nat → Prop} {s U : State} {H : Heap} (h : Stc ad A s H) (hv : U.vm = s.vm) : Stc ad A U H := by
  have hal : s.vm.Alike U.vm := by rw [hv]; exact Vm.Alike.refl _
  exact ⟨h.1.moved hal, h.2.1.moved hal, h.2.2.1.moved hal, h.2.2.2.1.moved hal, fun i q hi => (h.2.2.2.2.1 i q hi).same hv, fun w hw => va_Nw.same (gn_tab hw) hv.symm (h.2.2.2.2.2.1 w hw), h.2.2.2.2.2.2.1.moved hal, h.2.2.2.2.2.2.2.1.moved hal, h.2.2.2.2.2.2.2.2.elim (fun z => Or.inl (z.moved hal)) (fun z => Or.inr (z.moved hal))⟩
theorem Stc.at {ad ad' : Nat → Nat} {A : Nat → Prop} {U : State} {H : Heap} (h : Stc ad A U H) (ha : ∀ k, 1000000 ≤ k → ad' k = ad k) : Stc ad' A U H := by
  obtain ⟨h1, h2, h3, h4, h5, h6, h7, h8, h9⟩ := h
  refine ⟨?_, ?_, h3, ⟨fun i hi => ?_, fun i j hi hj => ?_⟩, fun i q hi => ?_, h6, h7, h8, ?_⟩
  · rw [ha 2000000 (by omega)]; exact h1
  · rw [ha 2000000 (by omega)]; exact h2
  · have h6 := h4.1 i hi
    dsimp only at h6 ⊢
    rw [ha (1000000 + i) (by omega), ha (1100000 + i) (by omega)]
    exact h6
  · have h6 := h4.2 i j hi hj
    dsimp only at h6 ⊢
    rw [ha (1000000 + i) (by omega), ha (1000000 + j) (by omega)]
    exact h6
  · rw [ha (1000000 + i) (by omega)]; exact h5 i q hi
  · unfold Zs at h9 ⊢
    rw [ha 2000001 (by omega)]; exact h9
def okv (n : Nat) (v : Av) : Prop := match v with
  | .inl _ => True
  | .inr r => r ≤ n ∨ 1000000 ≤ r
def Okm (σ : Sg) : Prop := ∀ a b, σ.2.2 a b ≤ σ.1
/-- the world at a point of a method whose call began at s -/
def Wd (D : va_G) (ca : Nat → ClassId) (ad : Nat → Nat) (A : Nat → Prop) (s : State) (H : Heap) (locs : List Loc) (σ : Sg) : Prop :=
  va_K D vcl (tys ca) s ∧ va_P D vcl (wl ad ca σ) H ∧ va_D A (wl ad ca σ) ∧ va_S A s.heap H locs ∧ (∀ q, s.heap.size ≤ q → A q) ∧ Stc ad A s s.heap ∧ Okm σ
/-- the numbers' places since the call began -/
def Ag (ad0 : Nat → Nat) (n0 : Nat) (ad : Nat → Nat) (σ : Sg) : Prop := (∀ k, (k ≤ n0 ∨ 1000000 ≤ k) → ad k = ad0 k) ∧ n0 ≤ σ.1 ∧ σ.1 ≤ 1000
def Cx (M : Mth) (p : Program) (R : Room) (s : State) (m : MethodId) (args : Array Value) (meth : Method) (c : Code) : Prop :=
  p.tables.exec = Jvm.exec ∧ c.code = M.cc ∧ c.maxLocals = M.nL ∧ s.vm.findClass M.y.cls = some m.cls ∧ (∀ w ∈ gt, w.before args s = true) ∧ meth.locks = false ∧ meth.sig.returnType = M.rt ∧ meth.name = M.y.name ∧
  M.dp ≤ R.frames ∧ 64 * M.dp ≤ R.locals ∧ M.mc ≤ R.cells ∧ M.ms ≤ R.slots
def rok (M : Mth) (pc : Nat) (r : Option Av) : Prop := match r with
  | none => M.rt = none ∧ decode M.cc pc = .ok (.return_, 1)
  | some (.inl v) => (∃ ty, M.rt = some ty ∧ narrow ty (.int v) = .int v) ∧ decode M.cc pc = .ok (.ireturn, 1)
  | some (.inr _) => (∃ rt, M.rt = some rt ∧ ((∃ n, rt = .object n) ∨ ∃ t, rt = .array t)) ∧ decode M.cc pc = .ok (.areturn, 1)
/-- the method's end may be used for Q -/
def Rt (l : Launch) (M : Mth) (Φ : Option Av → Sg → Prop) (p : Program) (e : Env) (R : Room) (s : State) (m : MethodId) (args : Array Value) (below : List Frame) (meth : Method) (c : Code) (D : va_G) (ca : Nat → ClassId) (ad0 : Nat → Nat) (n0 : Nat) (A : Nat → Prop) (Q : State → Prop) : Prop :=
  ∀ (r : Option Av) (σ : Sg) (ad : Nat → Nat) (H : Heap) (locs : List Loc) (ls : Array Slot) (pc kc ks : Nat), Φ r σ → Wd D ca ad A s H locs σ → Ag ad0 n0 ad σ → kc ≤ M.mc → ks ≤ M.ms → rok M pc r → (∀ v, r = some v → okv σ.1 v) →
    W p l e R s m args below meth c H locs kc ks Q (F0 m pc ls (r.toList.map (vt ad)))
def lt (ad : Nat → Nat) (lo : List (Nat × Av)) : List (Nat × Value) := lo.map (fun q => (q.1, vt ad q.2))
/-- from here the method comes to an end with Φ -/
def GW (l : Launch) (M : Mth) (pc : Nat) (lo : List (Nat × Av)) (st : List Av) (σ : Sg) (kc ks : Nat) (Φ : Option Av → Sg → Prop) : Prop :=
  ∀ (p : Program) (e : Env) (R : Room) (s : State) (m : MethodId) (args : Array Value) (below : List Frame) (meth : Method) (c : Code) (D : va_G) (ca : Nat → ClassId) (ad0 ad : Nat → Nat) (n0 : Nat) (A : Nat → Prop) (H : Heap) (locs : List Loc) (ls : Array Slot) (Q : State → Prop),
    Cx M p R s m args meth c → Wd D ca ad A s H locs σ → Ag ad0 n0 ad σ → lv_has ls M.nL (lt ad lo) → ((∀ q ∈ lo, okv σ.1 q.2) ∧ ∀ v ∈ st, okv σ.1 v) → Rt l M Φ p e R s m args below meth c D ca ad0 n0 A Q →
    W p l e R s m args below meth c H locs kc ks Q (F0 m pc ls (st.map (vt ad)))
/-- a method's contract: called with these arguments in this world it returns, with Φ of its answer and the new world -/
def PC (D : va_G) (ca : Nat → ClassId) (ad : Nat → Nat) (as : List Av) (σ : Sg) (sz : Nat) : Array Value → State → Prop := fun a U =>
  a = (as.map (vt ad)).toArray ∧ U.heap.size = sz ∧ va_K D vcl (tys ca) U ∧ va_P D vcl (wl ad ca σ) U.heap ∧ va_D (fun _ => True) (wl ad ca σ) ∧ Stc ad (va_A (wl ad ca σ) sz) U U.heap ∧ Okm σ ∧ (∀ v ∈ as, okv σ.1 v) ∧ σ.1 ≤ 1000
def QC (D : va_G) (ca : Nat → ClassId) (ad : Nat → Nat) (σ : Sg) (sz : Nat) (Φ : Option Av → Sg → Prop) : Array Value → State → Outcome → State → Prop := fun _ st oc t =>
  (∃ (r : Option Av) (σ' : Sg) (ad' : Nat → Nat), oc = .returned (r.map (vt ad')) ∧ Φ r σ' ∧ Ag ad σ.1 ad' σ' ∧ va_P D vcl (wl ad' ca σ') t.heap ∧ va_D (va_A (wl ad ca σ) sz) (wl ad' ca σ') ∧ Okm σ' ∧ ∀ v, r = some v → okv σ'.1 v) ∧ va_F (va_A (wl ad ca σ) sz) st t
def mws (M : Mth) : List Cond := Cond.code M.y M.cc M.nL M.rt :: gt
def mrm (M : Mth) : Room := { frames := M.dp, cells := M.mc, slots := M.ms, locals := 64 * M.dp }
def Con (l : Launch) (M : Mth) (as : List Av) (σ : Sg) (Φ : Option Av → Sg → Prop) : Prop :=
  ∀ (D : va_G) (ca : Nat → ClassId) (ad : Nat → Nat) (sz : Nat), Met l M.y (mws M) (mrm M) (PC D ca ad as σ sz) (QC D ca ad σ sz Φ) M.mc M.ms (va_A (wl ad ca σ) sz)
theorem vt_cat (ad : Nat → Nat) (v : Av) : (vt ad v).category = 1 := by
  cases v with
  | inl x => rfl
  | inr r => unfold vt ro va_rf; by_cases h : r = 0 <;> simp [h] <;> rfl
theorem lt_at {ad : Nat → Nat} {lo : List (Nat × Av)} {ls : Array Slot} {n : Nat} (h : lv_has ls n (lt ad lo)) (k : Nat) {i : Nat} {v : Av} (hk : lo[k]? = some (i, v)) : ls[i]? = some (.val (vt ad v)) :=
  lv_at h k (by unfold lt; rw [List.getElem?_map, hk]; rfl)
theorem lt_sub {ad : Nat → Nat} {lo lo' : List (Nat × Av)} {ls : Array Slot} {n : Nat} (h : lv_has ls n (lt ad lo)) (hs : ∀ q ∈ lo', q ∈ lo) : lv_has ls n (lt ad lo') := by
  refine ⟨h.1, h.2.1, fun q hq => ?_⟩
  unfold lt at hq
  obtain ⟨z, hz, rfl⟩ := List.mem_map.mp hq
  exact h.2.2 _ (List.mem_map.mpr ⟨z, hs z hz, rfl⟩)
theorem Wd.wd {D : va_G} {ca : Nat → ClassId} {ad : Nat → Nat} {A : Nat → Prop} {s : State} {H : Heap} {locs : List Loc} {σ : Sg} (h : Wd D ca ad A s H locs σ) {H1 : Heap} {locs1 : List Loc} {ad' : Nat → Nat} {σ' : Sg} (hP : va_P D vcl (wl ad' ca σ') H1) (hD : va_D A (wl ad' ca σ')) (hS : va_S A s.heap H1 locs1) (ha : ∀ k, 1000000 ≤ k → ad' k = ad k) (ho : Okm σ') : Wd D ca ad' A s H1 locs1 σ' :=
  ⟨h.1, hP, hD, hS, h.2.2.2.2.1, h.2.2.2.2.2.1.at ha, ho⟩
set_option maxHeartbeats 4000000 in
/-- a contract out of a walk from its entry -/
theorem con_gw {l : Launch} {M : Mth} {as : List Av} {σ : Sg} {Φ : Option Av → Sg → Prop} (hy : plainName M.y.cls = true) (hn : as.length ≤ M.nL) (h : GW l M 0 ((List.range as.length).zip as) [] σ 0 0 Φ) : Con l M as σ Φ := by
  intro D ca ad sz
  refine Met.ofW (cc := M.cc) (maxL := M.nL) (ret := M.rt) hy rfl ?_
  intro p e s m args below meth c s₁ B hml hv
  obtain ⟨rfl, hsz, hK, hP, hD0, hSt, hOk, hvs, hσ⟩ := hv
  have hts := atoms_spec (ws := mws M) B.pre
  subst hsz
  have hD := hD0.self (sz := s.heap.size)
  have hA : ∀ q : Nat, s.heap.size ≤ q → va_A (wl ad ca σ) s.heap.size q := fun q h => Or.inr h
  have hS : va_S (va_A (wl ad ca σ) s.heap.size) s.heap s.heap [] := va_S.rf
  have hcat : ∀ vs : List Av, lg_sl (vs.map (vt ad)) = (vs.map (vt ad)).map Slot.val := by
    intro vs
    unfold lg_sl
    induction vs with
    | nil => rfl
    | cons v vs ih => simp only [List.map_cons, List.flatMap_cons, ih, vt_cat]; rfl
  have hl0 := lv_entry (as.map (vt ad)) (n := M.nL) (by rw [hcat]; simpa using hn)
  have hl : lv_has ((lg_sl (as.map (vt ad)) ++ List.replicate (M.nL - (lg_sl (as.map (vt ad))).length) Slot.unset).toArray) M.nL (lt ad ((List.range as.length).zip as)) := by
    refine ⟨hl0.1, hl0.2.1, fun q hq => ?_⟩
    unfold lt at hq
    obtain ⟨z, hz, rfl⟩ := List.mem_map.mp hq
    obtain ⟨i, hi⟩ := List.getElem?_of_mem hz
    rw [List.getElem?_zip_eq_some] at hi
    obtain ⟨h1, h2⟩ := hi
    have hlt : i < as.length := (List.getElem?_eq_some_iff.mp h2).1
    rw [List.getElem?_range hlt] at h1
    have h1 : i = z.1 := Option.some.inj h1
    subst h1
    rw [hcat]
    rw [List.getElem?_toArray, List.getElem?_append_left (by simpa using hlt), List.getElem?_map, List.getElem?_map, h2]
    rfl
  rw [lg_entry_eq]
  refine h p e _ s m _ below meth c D ca ad ad σ.1 (va_A (wl ad ca σ) s.heap.size) s.heap [] _ _ ⟨B.exec, B.bytes, hml, findClass_of_methodNamed B.named, fun w hw => hts w (List.mem_cons_of_mem _ hw), B.notSynchronized, B.returns, (name_of_methodNamed B.named B.method).1, Nat.le_refl _, Nat.le_refl _, Nat.le_refl _, Nat.le_refl _⟩ ⟨hK, hP, hD, hS, hA, hSt, hOk⟩ ⟨fun _ _ => rfl, Nat.le_refl _, hσ⟩ hl ⟨fun q hq => hvs _ (List.of_mem_zip hq).2, fun v hv => absurd hv List.not_mem_nil⟩ ?_
  intro r σ' ad' H locs ls pc kc ks hΦ hW hG hkc hks hr hrv
  have hfr : ∀ t : State, t.heap = H → va_F (va_A (wl ad ca σ) s.heap.size) s t := fun t ht => by
    refine ⟨by rw [ht]; exact hW.2.2.2.1.1, fun q h1 h2 => by rw [ht]; exact hW.2.2.2.1.2.1 q h1 h2⟩
  have hq : ∀ t : State, t.heap = H → QC D ca ad σ s.heap.size Φ ((as.map (vt ad)).toArray) s (.returned (r.map (vt ad'))) t := fun t ht => ⟨⟨r, σ', ad', rfl, hΦ, hG, by rw [ht]; exact hW.2.1, hW.2.2.1, hW.2.2.2.2.2.2, hrv⟩, hfr t ht⟩
  refine W.widen (k := M.mc) (n := M.ms) hkc hks ?_
  cases r with
  | none =>
    obtain ⟨h1, h2⟩ := hr
    exact W.vret B.exec B.bytes (B.returns.trans h1) (fun t ht _ => hq t ht) hW.2.2.2.1.2.2 h2 B.notSynchronized
  | some v =>
    cases v with
    | inl x =>
      obtain ⟨⟨ty, h1, h3⟩, h2⟩ := hr
      exact W.zret B.exec B.bytes (B.returns.trans h1) h3 (fun t ht _ => hq t ht) hW.2.2.2.1.2.2 h2 B.notSynchronized
    | inr x =>
      obtain ⟨⟨ty, h1, h3⟩, h2⟩ := hr
      refine W.aret B.exec B.bytes (B.returns.trans h1) h3 ?_ (fun t ht _ => hq t ht) hW.2.2.2.1.2.2 h2 B.notSynchronized
      unfold vt ro va_rf
      by_cases hx : x = 0
      · simp [hx]
      · simp [hx]
