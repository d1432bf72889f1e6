/-- a method's contract out of a walk of its body: the library's of_bodySF at the words of a method of ours -/
theorem met_mth {l : Launch} {M : Mth} {rm : Room} {Pc : Array Value → State → Prop} {Qc : Array Value → State → Outcome → State → Prop} {mc ms : Nat} {free : Addr → Prop} (hy : plainFor M.y = true)
    (walk : ∀ p e s m as below meth c s₁, BodyLoose p l M.y (headSpec (mws M) rm) M.cc M.nL M.rt e s m as below meth c s₁ → c.maxLocals = M.nL → Pc as s →
      W p l e (headSpec (mws M) rm).room s m as below meth c s.heap [] 0 0 (MQ below Qc as s mc ms free) (entryFrame m as M.nL)) : Met l M.y (mws M) rm Pc Qc mc ms free :=
  MetFree.of_bodySF hy
    (fun _ _ _ h hn => match Cond.code_spec hn (atoms_spec (ws := mws M) h _ List.mem_cons_self) with
      | ⟨q, k, i1, i2, i3, i4, i5, i6, _⟩ => ⟨q, k, i1, i2, i3, i4, i5, i6⟩)
    (fun p e s m as below meth c s₁ B hl hP _ => match walk p e s m as below meth c s₁ B hl hP s₁ (by rw [B.state]; rfl) (Stand.of_body B) with
      | ⟨t, go, o, r1, r2, r3⟩ => ⟨t, o, go, r1, r2, r3.1, r3.2⟩)
set_option maxHeartbeats 4000000 in
/-- a contract out of a walk from its entry -/
theorem con_gwF {l : Launch} {M : Mth} {as : List Av} {σ : Sg} {Φ : Option Av → Sg → Prop} (hy : plainFor M.y = true) (hn : as.length ≤ M.nL) (h : GW l M 0 ((List.range as.length).zip as) [] σ 0 0 Φ) : Con l M as σ Φ := by
  intro D ca ad sz
  refine met_mth hy ?_
  intro p e s m args below meth c s₁ B hml hv
  obtain ⟨rfl, hsz, hK, hP, hD0, hSt, hOk, hvs, hσ⟩ := hv
  have hts := atoms_spec (ws := mws M) B.pre
  subst hsz
  have hD := hD0.self (sz := s.heap.size)
  have hA : ∀ q : Nat, s.heap.size ≤ q → va_A (wl ad ca σ) s.heap.size q := fun q h => Or.inr h
  have hS : va_S (va_A (wl ad ca σ) s.heap.size) s.heap s.heap [] := va_S.rf
  have hcat : ∀ vs : List Av, lg_sl (vs.map (vt ad)) = (vs.map (vt ad)).map Slot.val := by
    intro vs
    unfold lg_sl
    induction vs with
    | nil => rfl
    | cons v vs ih => simp only [List.map_cons, List.flatMap_cons, ih, vt_cat]; rfl
  have hl0 := lv_entry (as.map (vt ad)) (n := M.nL) (by rw [hcat]; simpa using hn)
  have hl : lv_has ((lg_sl (as.map (vt ad)) ++ List.replicate (M.nL - (lg_sl (as.map (vt ad))).length) Slot.unset).toArray) M.nL (lt ad ((List.range as.length).zip as)) := by
    refine ⟨hl0.1, hl0.2.1, fun q hq => ?_⟩
    unfold lt at hq
    obtain ⟨z, hz, rfl⟩ := List.mem_map.mp hq
    obtain ⟨i, hi⟩ := List.getElem?_of_mem hz
    rw [List.getElem?_zip_eq_some] at hi
    obtain ⟨h1, h2⟩ := hi
    have hlt : i < as.length := (List.getElem?_eq_some_iff.mp h2).1
    rw [List.getElem?_range hlt] at h1
    have h1 : i = z.1 := Option.some.inj h1
    subst h1
    rw [hcat]
    rw [List.getElem?_toArray, List.getElem?_append_left (by simpa using hlt), List.getElem?_map, List.getElem?_map, h2]
    rfl
  rw [lg_entry_eq]
  refine h p e _ s m _ below meth c D ca ad ad σ.1 (va_A (wl ad ca σ) s.heap.size) s.heap [] _ _ ⟨B.exec, B.bytes, hml, findClass_of_methodNamed B.named, fun w hw => hts w (List.mem_cons_of_mem _ hw), B.notSynchronized, B.returns, (name_of_methodNamed B.named B.method).1, Nat.le_refl _, Nat.le_refl _, Nat.le_refl _, Nat.le_refl _⟩ ⟨hK, hP, hD, hS, hA, hSt, hOk⟩ ⟨fun _ _ => rfl, Nat.le_refl _, hσ⟩ hl ⟨fun q hq => hvs _ (List.of_mem_zip hq).2, fun v hv => absurd hv List.not_mem_nil⟩ ?_
  intro r σ' ad' H locs ls pc kc ks hΦ hW hG hkc hks hr hrv
  have hfr : ∀ t : State, t.heap = H → va_F (va_A (wl ad ca σ) s.heap.size) s t := fun t ht => by
    refine ⟨by rw [ht]; exact hW.2.2.2.1.1, fun q h1 h2 => by rw [ht]; exact hW.2.2.2.1.2.1 q h1 h2⟩
  have hq : ∀ t : State, t.heap = H → QC D ca ad σ s.heap.size Φ ((as.map (vt ad)).toArray) s (.returned (r.map (vt ad'))) t := fun t ht => ⟨⟨r, σ', ad', rfl, hΦ, hG, by rw [ht]; exact hW.2.1, hW.2.2.1, hW.2.2.2.2.2.2, hrv⟩, hfr t ht⟩
  refine W.widen (k := M.mc) (n := M.ms) hkc hks ?_
  cases r with
  | none =>
    obtain ⟨h1, h2⟩ := hr
    exact W.vret B.exec B.bytes (B.returns.trans h1) (fun t ht _ => hq t ht) hW.2.2.2.1.2.2 h2 B.notSynchronized
  | some v =>
    cases v with
    | inl x =>
      obtain ⟨⟨ty, h1, h3⟩, h2⟩ := hr
      exact W.zret B.exec B.bytes (B.returns.trans h1) h3 (fun t ht _ => hq t ht) hW.2.2.2.1.2.2 h2 B.notSynchronized
    | inr x =>
      obtain ⟨⟨ty, h1, h3⟩, h2⟩ := hr
      refine W.aret B.exec B.bytes (B.returns.trans h1) h3 ?_ (fun t ht _ => hq t ht) hW.2.2.2.1.2.2 h2 B.notSynchronized
      unfold vt ro va_rf
      by_cases hx : x = 0
      · simp [hx]
      · simp [hx]
