/-! look's contract: it returns, or throws -/
/-- a start that also has what a throw needs -/
def PCx (D : va_G) (ca : Nat → ClassId) (ad : Nat → Nat) (as : List Av) (σ : Sg) (sz : Nat) : Array Value → State → Prop := fun a U => PC D ca ad as σ sz a U ∧ Thr (va_A (wl ad ca σ) sz) U U.heap
/-- where look has thrown -/
def XQ (D : va_G) (ca : Nat → ClassId) (ad : Nat → Nat) (σ : Sg) (sz : Nat) (Ψ : Nat → Sg → Prop) : String → State → State → Prop := fun E st t =>
  ∃ (k : Nat) (σ' : Sg) (ad' : Nat → Nat), ((k = 46 ∧ E = xE1) ∨ (k = 65 ∧ E = xE2)) ∧ Ψ k σ' ∧ Ag ad σ.1 ad' σ' ∧ va_P D vcl (wl ad' ca σ') t.heap ∧ va_D (va_A (wl ad ca σ) sz) (wl ad' ca σ') ∧ Okm σ' ∧ va_F (va_A (wl ad ca σ) sz) st t
section CNX
variable {l : Launch} {σ : Sg}
theorem PCx_blind {D : va_G} {ca : Nat → ClassId} {ad : Nat → Nat} {as : List Av} {sz : Nat} : FrameBlind (PCx D ca ad as σ sz) := by
  intro a U g mk q
  exact ⟨PC_blind a U g mk q.1, q.2.same rfl⟩
theorem Wd.startX {D : va_G} {ca : Nat → ClassId} {ad : Nat → Nat} {A : Nat → Prop} {s : State} {H : Heap} {locs : List Loc} {as : List Av} (X : Wd D ca ad A s H locs σ) (hx : Thr A s s.heap) (hv : ∀ v ∈ as, okv σ.1 v) (h9 : σ.1 ≤ 1000) {a : Array Value} (ha : a = (as.map (vt ad)).toArray) : ∀ U : State, U.heap = H → s.WarmedH U.vm → PCx D ca ad as σ H.size a U := by
  intro U hU hW
  refine ⟨X.start hv h9 ha U hU hW, ?_⟩
  rw [hU]
  exact ((hx.kept X.2.2.2.1.2.1).narrow X.sub).warm hW
theorem Wd.ext {D : va_G} {ca : Nat → ClassId} {ad : Nat → Nat} {A : Nat → Prop} {s : State} {H : Heap} {locs : List Loc} (X : Wd D ca ad A s H locs σ) {t : State} (hz : H.size ≤ t.heap.size) (hk : ∀ q : Nat, q < H.size → t.heap[q]? = H[q]?) : va_P D vcl (wl ad ca σ) t.heap ∧ va_F A s t :=
  ⟨X.2.1.kept (fun k q hq => hk q.1 (vx_lt X.2.1 hq)), Nat.le_trans X.2.2.2.1.1 hz, fun q h1 h2 => (hk q (Nat.lt_of_lt_of_le h1 X.2.2.2.1.1)).trans (X.2.2.2.1.2.1 q h1 h2)⟩
theorem ent_has {ad : Nat → Nat} {as : List Av} {n : Nat} (hn : as.length ≤ n) : lv_has ((lg_sl (as.map (vt ad)) ++ List.replicate (n - (lg_sl (as.map (vt ad))).length) Slot.unset).toArray) n (lt ad ((List.range as.length).zip as)) := by
  have hcat : ∀ vs : List Av, lg_sl (vs.map (vt ad)) = (vs.map (vt ad)).map Slot.val := by
    intro vs
    unfold lg_sl
    induction vs with
    | nil => rfl
    | cons v vs ih => simp only [List.map_cons, List.flatMap_cons, ih, vt_cat]; rfl
  have hl0 := lv_entry (as.map (vt ad)) (n := n) (by rw [hcat]; simpa using hn)
  refine ⟨hl0.1, hl0.2.1, fun q hq => ?_⟩
  unfold lt at hq
  obtain ⟨z, hz, rfl⟩ := List.mem_map.mp hq
  obtain ⟨i, hi⟩ := List.getElem?_of_mem hz
  rw [List.getElem?_zip_eq_some] at hi
  obtain ⟨h1, h2⟩ := hi
  have hlt : i < as.length := (List.getElem?_eq_some_iff.mp h2).1
  rw [List.getElem?_range hlt] at h1
  have h1 : i = z.1 := Option.some.inj h1
  subst h1
  rw [hcat]
  rw [List.getElem?_toArray, List.getElem?_append_left (by simpa using hlt), List.getElem?_map, List.getElem?_map, h2]
  rfl
theorem Wd.after {D : va_G} {ca : Nat → ClassId} {ad ad' : Nat → Nat} {A : Nat → Prop} {s st₀ t T' : State} {H : Heap} {locs L' : List Loc} {σ' : Sg} (X : Wd D ca ad A s H locs σ) (h0 : st₀.heap = H) (e1 : T'.heap = t.heap) (hL : ∀ q ∈ L', va_A (wl ad ca σ) H.size q.base) (hG' : Ag ad σ.1 ad' σ') (hP' : va_P D vcl (wl ad' ca σ') t.heap) (hD' : va_D (va_A (wl ad ca σ) H.size) (wl ad' ca σ')) (hO' : Okm σ') (hF : va_F (va_A (wl ad ca σ) H.size) st₀ t) : Wd D ca ad' A s T'.heap (locs ++ L') σ' := by
  obtain ⟨hz, hk⟩ := hF
  rw [h0] at hz hk
  have hsub := X.sub
  refine X.wd (by rw [e1]; exact hP') (hD'.weaken (fun _ _ _ h => hsub _ h)) ⟨Nat.le_trans X.2.2.2.1.1 (by rw [e1]; exact hz), fun q h1 h2 => ?_, fun q hq => ?_⟩ (fun k hk => hG'.1 k (Or.inr hk)) hO'
  · rw [e1, hk q (Nat.lt_of_lt_of_le h1 X.2.2.2.1.1) (fun z => h2 (hsub q z))]
    exact X.2.2.2.1.2.1 q h1 h2
  · rcases List.mem_append.mp hq with h | h
    · exact X.2.2.2.1.2.2 q h
    · exact hsub _ (hL q h)
set_option maxHeartbeats 4000000 in
theorem con_look {as : List Av} {Φ : Option Av → Sg → Prop} {Ψ : Nat → Sg → Prop} (hl : l.stackTraces = false) (hΨ : ∀ t σ', Ψ t σ' → t = 46 ∨ t = 65) (hn : as.length ≤ 7) (h : XW (LkE l 7 Ψ) l mX11_lookX 0 ((List.range as.length).zip as) [] σ 0 0 Φ) (D : va_G) (ca : Nat → ClassId) (ad : Nat → Nat) (sz : Nat) :
    vx_Met l yX11_look (mws mX11_lookX) (mrm mX11_lookX) (PCx D ca ad as σ sz) (QC D ca ad σ sz Φ) (XQ D ca ad σ sz Ψ) 1 6 (va_A (wl ad ca σ) sz) := by
  refine vx_ofW (cc := cX11_look) (maxL := 7) (ret := some .int) rfl rfl ?_
  intro p e s m args below meth c s₁ B hml hnx hv
  obtain ⟨⟨rfl, hsz, hK, hP, hD0, hSt, hOk, hvs, hσ⟩, hTh⟩ := hv
  have hts := atoms_spec (ws := mws mX11_lookX) B.pre
  have hgt : ∀ w ∈ gt, w.before ((as.map (vt ad)).toArray) s = true := fun w hw => hts w (List.mem_cons_of_mem _ hw)
  subst hsz
  have hD := hD0.self (sz := s.heap.size)
  have hA : ∀ q : Nat, s.heap.size ≤ q → va_A (wl ad ca σ) s.heap.size q := fun q h => Or.inr h
  have hS : va_S (va_A (wl ad ca σ) s.heap.size) s.heap s.heap [] := va_S.rf
  have hl0 := ent_has (ad := ad) hn
  have hown : s.vm.findClass RX11 = some m.cls := findClass_of_methodNamed B.named
  rw [lg_entry_eq]
  refine h p e _ s m _ below meth c D ca ad ad σ.1 (va_A (wl ad ca σ) s.heap.size) s.heap [] _ _ ⟨B.exec, B.bytes, hml, hown, hgt, B.notSynchronized, B.returns, (name_of_methodNamed B.named B.method).1, Nat.le_refl _, Nat.le_refl _, Nat.le_refl _, Nat.le_refl _⟩ ⟨hK, hP, hD, hS, hA, hSt, hOk⟩ ⟨fun _ _ => rfl, Nat.le_refl _, hσ⟩ hl0 ⟨fun q hq => hvs _ (List.of_mem_zip hq).2, fun v hv => absurd hv List.not_mem_nil⟩ ⟨?_, ?_⟩
  · intro r σ' ad' H locs ls pc kc ks hΦ hW hG hkc hks hr hrv
    have hq : ∀ t : State, t.heap = H → QC D ca ad σ s.heap.size Φ ((as.map (vt ad)).toArray) s (.returned (r.map (vt ad'))) t := fun t ht => ⟨⟨r, σ', ad', rfl, hΦ, hG, by rw [ht]; exact hW.2.1, hW.2.2.1, hW.2.2.2.2.2.2, hrv⟩, hW.2.2.2.1.F ht⟩
    refine vx_ret (W.widen (k := 1) (n := 6) hkc hks ?_)
    cases r with
    | none =>
      have q : (some .int : Option FieldType) = none := hr.1
      cases q
    | some v =>
      cases v with
      | inl x =>
        obtain ⟨⟨ty, h1, h3⟩, h2⟩ := hr
        exact W.zret B.exec B.bytes (B.returns.trans h1) h3 (fun t ht _ => hq t ht) hW.2.2.2.1.2.2 h2 B.notSynchronized
      | inr x =>
        obtain ⟨⟨ty, h1, h3⟩, h2⟩ := hr
        have h1 : (some .int : Option FieldType) = some ty := h1
        injection h1 with h1
        subst h1
        rcases h3 with ⟨n, h3⟩ | ⟨t, h3⟩ <;> cases h3
  · intro t σ' ad' H locs ls hψ hW hG hls
    have hx : ∀ (E : String), ((t = 46 ∧ E = xE1) ∨ (t = 65 ∧ E = xE2)) → ∀ U : State, s.vm.Alike U.vm → H.size ≤ U.heap.size → (∀ q : Nat, q < H.size → U.heap[q]? = H[q]?) → XQ D ca ad σ s.heap.size Ψ E s U := fun E hE U _ hz hk => by
      obtain ⟨e1, e2⟩ := hW.ext hz hk
      exact ⟨t, σ', ad', hE, hψ, hG, e1, hW.2.2.1, hW.2.2.2.2.2.2, e2⟩
    rcases hΨ t σ' hψ with rfl | rfl
    · exact vx_throwX (ix := 7) (rx := xr1) (names := xEn) (text := "no such tape or tick") (sa := ad' (1000000 + 8)) B.exec B.bytes hl (by decide +kernel) (by decide +kernel) (by decide +kernel) (by decide +kernel) hown (by decide +kernel) (by decide +kernel) (hgt _ xk1) (hgt _ xi1) (hW.2.2.2.2.2.1.2.2.2.2.1 8 ("LedArms", 162, "no such tape or tick") rfl) (hTh.at1 hgt) xo1 hTh.1 hTh.2.1 hW.2.2.2.1 (hls.trans hml.symm) dX11_look_46 dX11_look_49 dX11_look_50 dX11_look_52 dX11_look_55 (fun x hx => (hnx x hx).elim) (by show 2 + 3 < 6; decide) (by show 0 + (13 * (2 + 1) + 43) ≤ 384; decide) (by show 0 + 1 ≤ 1; decide) (by show 0 + 6 ≤ 6; decide) B.notSynchronized (hx xE1 (Or.inl ⟨rfl, rfl⟩)) hW.2.2.2.1.2.2 (by decide) (by decide)
    · exact vx_throwX (ix := 13) (rx := xr2) (names := xEn) (text := "no such what") (sa := ad' (1000000 + 9)) B.exec B.bytes hl (by decide +kernel) (by decide +kernel) (by decide +kernel) (by decide +kernel) hown (by decide +kernel) (by decide +kernel) (hgt _ xk2) (hgt _ xi2) (hW.2.2.2.2.2.1.2.2.2.2.1 9 ("LedArms", 169, "no such what") rfl) (hTh.at2 hgt) xo2 hTh.1 hTh.2.1 hW.2.2.2.1 (hls.trans hml.symm) dX11_look_65 dX11_look_68 dX11_look_69 dX11_look_71 dX11_look_74 (fun x hx => (hnx x hx).elim) (by show 2 + 3 < 6; decide) (by show 0 + (13 * (2 + 1) + 43) ≤ 384; decide) (by show 0 + 1 ≤ 1; decide) (by show 0 + 6 ≤ 6; decide) B.notSynchronized (hx xE2 (Or.inr ⟨rfl, rfl⟩)) hW.2.2.2.1.2.2 (by decide) (by decide)
end CNX
