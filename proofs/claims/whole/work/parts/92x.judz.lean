/-! the judgement once more, by text, over the shapes in the order in which the constructor of LedArms makes its cells -/
def shpL_m : List (Nat × Nat) := [(99, 0), (11, 0), (4, 0), (7, 0), (15, 2), (16, 10), (0, 0), (13, 3), (13, 3), (13, 3), (13, 3), (0, 0), (13, 3), (13, 3), (13, 3), (13, 3), (9, 0), (13, 40), (13, 40), (9, 0), (13, 40), (13, 40), (9, 0), (13, 40), (13, 40), (9, 0), (13, 40), (13, 40), (9, 0), (13, 40), (13, 40), (9, 0), (13, 40), (13, 40), (9, 0), (13, 40), (13, 40), (9, 0), (13, 40), (13, 40), (9, 0), (13, 40), (13, 40), (9, 0), (13, 40), (13, 40), (10, 0), (13, 400), (13, 401), (13, 401), (13, 401), (9, 0), (13, 40), (13, 40), (9, 0), (13, 40), (13, 40), (2, 0), (13, 256), (13, 256), (8, 0), (13, 40), (1, 0), (13, 640), (13, 40), (13, 40), (13, 256), (13, 3), (13, 3), (5, 0), (13, 240), (13, 240), (13, 1600), (13, 80), (6, 0), (13, 10), (13, 10), (13, 5), (13, 5), (14, 10), (13, 64), (13, 160), (12, 0), (13, 400), (13, 16), (13, 2), (13, 2), (13, 2), (13, 6), (13, 6), (13, 6), (13, 6), (13, 2), (13, 2), (13, 2), (13, 2), (13, 11), (13, 11), (13, 440), (13, 440), (13, 41), (13, 41), (13, 41), (13, 41), (13, 256), (13, 163840), (14, 8192), (13, 40), (13, 1600), (13, 80), (13, 12), (14, 20), (13, 20), (13, 20), (13, 5), (13, 256), (13, 256), (13, 3), (13, 3), (17, 1), (3, 0), (13, 163840), (13, 4096), (13, 4096), (13, 4096), (13, 4096), (13, 4096), (13, 4096), (13, 40), (13, 40), (13, 40), (0, 0), (13, 3), (13, 3), (13, 3), (13, 3)]
def shp_m (r : Nat) : Nat × Nat := shpL_m.getD r (99, 0)
def cel_m (ad : Nat → Nat) (ca : Nat → ClassId) (σ : Sg) (r : Nat) : va_E :=
  if (shp_m r).1 < 13 then .inr ((shp_m r).1, fl ad σ r (shp_m r).1)
  else if (shp_m r).1 < 15 then .inl (ca (shp_m r).1, (shp_m r).2, .inl (σ.2.1 r))
  else if (shp_m r).1 < 17 then .inl (ca (shp_m r).1, (shp_m r).2, .inr (.inr (.inr (.inr (fun j => ro ad (σ.2.2 r j))))))
  else .inl (ca (shp_m r).1, (shp_m r).2, .inr (.inl (fun j => (σ.2.1 r j).toInt64)))
def wl_m (ad : Nat → Nat) (ca : Nat → ClassId) (σ : Sg) : va_W := (List.range σ.1).map (fun i => (ad (i + 1), cel_m ad ca σ (i + 1)))
theorem wl_get_m {ad : Nat → Nat} {ca : Nat → ClassId} {σ : Sg} {r : Nat} (h0 : r ≠ 0) (h : r ≤ σ.1) : (wl_m ad ca σ)[r - 1]? = some (ad r, cel_m ad ca σ r) := by
  unfold wl_m
  rw [List.getElem?_map, List.getElem?_range (by omega)]
  simp only [Option.map_some]
  rw [show r - 1 + 1 = r by omega]
theorem cel_obj_m {ad : Nat → Nat} {ca : Nat → ClassId} {σ : Sg} {r ci : Nat} (h : (shp_m r).1 = ci) (hc : ci < 13) : cel_m ad ca σ r = .inr (ci, fl ad σ r ci) := by
  unfold cel_m; rw [h, if_pos hc]
theorem cel_int_m {ad : Nat → Nat} {ca : Nat → ClassId} {σ : Sg} {r n : Nat} (h : shp_m r = (13, n)) : cel_m ad ca σ r = .inl (ca 13, n, .inl (σ.2.1 r)) := by
  unfold cel_m; rw [h]; rfl
theorem cel_bool_m {ad : Nat → Nat} {ca : Nat → ClassId} {σ : Sg} {r n : Nat} (h : shp_m r = (14, n)) : cel_m ad ca σ r = .inl (ca 14, n, .inl (σ.2.1 r)) := by
  unfold cel_m; rw [h]; rfl
theorem cel_ref_m {ad : Nat → Nat} {ca : Nat → ClassId} {σ : Sg} {r k n : Nat} (h : shp_m r = (k, n)) (h1 : ¬ k < 15) (h2 : k < 17) : cel_m ad ca σ r = .inl (ca k, n, .inr (.inr (.inr (.inr (fun j => ro ad (σ.2.2 r j)))))) := by
  unfold cel_m; rw [h]; dsimp only; rw [if_neg (by omega), if_neg h1, if_pos h2]
theorem cel_off1_m {ad : Nat → Nat} {ca : Nat → ClassId} {σ : Sg} {r k q : Nat} {x : Int32} (h : q ≠ r) : cel_m ad ca (w1 σ r k x) q = cel_m ad ca σ q := by
  unfold cel_m fl w1; simp only [h, false_and, if_false]
theorem cel_off2_m {ad : Nat → Nat} {ca : Nat → ClassId} {σ : Sg} {r k q : Nat} {x : Nat} (h : q ≠ r) : cel_m ad ca (w2 σ r k x) q = cel_m ad ca σ q := by
  unfold cel_m fl w2; simp only [h, false_and, if_false]
theorem wl_set_m {ad : Nat → Nat} {ca : Nat → ClassId} {σ σ' : Sg} {r : Nat} {e : va_E} (h0 : r ≠ 0) (h : r ≤ σ.1) (hn : σ'.1 = σ.1) (he : cel_m ad ca σ' r = e) (ho : ∀ q, q ≠ r → cel_m ad ca σ' q = cel_m ad ca σ q) : (wl_m ad ca σ).set (r - 1) (ad r, e) = wl_m ad ca σ' := by
  apply List.ext_getElem?
  intro i
  rw [List.getElem?_set]
  unfold wl_m
  rw [List.getElem?_map, List.getElem?_map, hn, List.length_map, List.length_range]
  by_cases hi : i < σ.1
  · rw [List.getElem?_range hi]
    by_cases hr : r - 1 = i
    · rw [if_pos hr, if_pos (by omega)]
      subst hr
      simp only [Option.map_some]
      rw [show r - 1 + 1 = r by omega, he]
    · rw [if_neg hr]
      simp only [Option.map_some]
      rw [ho (i + 1) (by omega)]
  · rw [List.getElem?_eq_none (by simp; omega)]
    by_cases hr : r - 1 = i
    · rw [if_pos hr, if_neg (by omega), Option.map_none]
    · rw [if_neg hr, Option.map_none, Option.map_none]
def Wd_m (D : va_G) (ca : Nat → ClassId) (ad : Nat → Nat) (A : Nat → Prop) (s : State) (H : Heap) (locs : List Loc) (σ : Sg) : Prop :=
  va_K D vcl (tys ca) s ∧ va_P D vcl (wl_m ad ca σ) H ∧ va_D A (wl_m ad ca σ) ∧ va_S A s.heap H locs ∧ (∀ q, s.heap.size ≤ q → A q) ∧ Stc ad A s s.heap ∧ Okm σ
def Rt_m (l : Launch) (M : Mth) (Φ : Option Av → Sg → Prop) (p : Program) (e : Env) (R : Room) (s : State) (m : MethodId) (args : Array Value) (below : List Frame) (meth : Method) (c : Code) (D : va_G) (ca : Nat → ClassId) (ad0 : Nat → Nat) (n0 : Nat) (A : Nat → Prop) (Q : State → Prop) : Prop :=
  ∀ (r : Option Av) (σ : Sg) (ad : Nat → Nat) (H : Heap) (locs : List Loc) (ls : Array Slot) (pc kc ks : Nat), Φ r σ → Wd_m D ca ad A s H locs σ → Ag ad0 n0 ad σ → kc ≤ M.mc → ks ≤ M.ms → rok M pc r → (∀ v, r = some v → okv σ.1 v) →
    W p l e R s m args below meth c H locs kc ks Q (F0 m pc ls (r.toList.map (vt ad)))
def GW_m (l : Launch) (M : Mth) (pc : Nat) (lo : List (Nat × Av)) (st : List Av) (σ : Sg) (kc ks : Nat) (Φ : Option Av → Sg → Prop) : Prop :=
  ∀ (p : Program) (e : Env) (R : Room) (s : State) (m : MethodId) (args : Array Value) (below : List Frame) (meth : Method) (c : Code) (D : va_G) (ca : Nat → ClassId) (ad0 ad : Nat → Nat) (n0 : Nat) (A : Nat → Prop) (H : Heap) (locs : List Loc) (ls : Array Slot) (Q : State → Prop),
    Cx M p R s m args meth c → Wd_m D ca ad A s H locs σ → Ag ad0 n0 ad σ → lv_has ls M.nL (lt ad lo) → ((∀ q ∈ lo, okv σ.1 q.2) ∧ ∀ v ∈ st, okv σ.1 v) → Rt_m l M Φ p e R s m args below meth c D ca ad0 n0 A Q →
    W p l e R s m args below meth c H locs kc ks Q (F0 m pc ls (st.map (vt ad)))
def PC_m (D : va_G) (ca : Nat → ClassId) (ad : Nat → Nat) (as : List Av) (σ : Sg) (sz : Nat) : Array Value → State → Prop := fun a U =>
  a = (as.map (vt ad)).toArray ∧ U.heap.size = sz ∧ va_K D vcl (tys ca) U ∧ va_P D vcl (wl_m ad ca σ) U.heap ∧ va_D (fun _ => True) (wl_m ad ca σ) ∧ Stc ad (va_A (wl_m ad ca σ) sz) U U.heap ∧ Okm σ ∧ (∀ v ∈ as, okv σ.1 v) ∧ σ.1 ≤ 1000
def QC_m (D : va_G) (ca : Nat → ClassId) (ad : Nat → Nat) (σ : Sg) (sz : Nat) (Φ : Option Av → Sg → Prop) : Array Value → State → Outcome → State → Prop := fun _ st oc t =>
  (∃ (r : Option Av) (σ' : Sg) (ad' : Nat → Nat), oc = .returned (r.map (vt ad')) ∧ Φ r σ' ∧ Ag ad σ.1 ad' σ' ∧ va_P D vcl (wl_m ad' ca σ') t.heap ∧ va_D (va_A (wl_m ad ca σ) sz) (wl_m ad' ca σ') ∧ Okm σ' ∧ ∀ v, r = some v → okv σ'.1 v) ∧ va_F (va_A (wl_m ad ca σ) sz) st t
def Con_m (l : Launch) (M : Mth) (as : List Av) (σ : Sg) (Φ : Option Av → Sg → Prop) : Prop :=
  ∀ (D : va_G) (ca : Nat → ClassId) (ad : Nat → Nat) (sz : Nat), Met l M.y (mws M) (mrm M) (PC_m D ca ad as σ sz) (QC_m D ca ad σ sz Φ) M.mc M.ms (va_A (wl_m ad ca σ) sz)
theorem Wd_m.wd {D : va_G} {ca : Nat → ClassId} {ad : Nat → Nat} {A : Nat → Prop} {s : State} {H : Heap} {locs : List Loc} {σ : Sg} (h : Wd_m D ca ad A s H locs σ) {H1 : Heap} {locs1 : List Loc} {ad' : Nat → Nat} {σ' : Sg} (hP : va_P D vcl (wl_m ad' ca σ') H1) (hD : va_D A (wl_m ad' ca σ')) (hS : va_S A s.heap H1 locs1) (ha : ∀ k, 1000000 ≤ k → ad' k = ad k) (ho : Okm σ') : Wd_m D ca ad' A s H1 locs1 σ' :=
  ⟨h.1, hP, hD, hS, h.2.2.2.2.1, h.2.2.2.2.2.1.at ha, ho⟩
set_option maxHeartbeats 4000000 in
theorem con_gw_m {l : Launch} {M : Mth} {as : List Av} {σ : Sg} {Φ : Option Av → Sg → Prop} (hy : plainName M.y.cls = true) (hn : as.length ≤ M.nL) (h : GW_m l M 0 ((List.range as.length).zip as) [] σ 0 0 Φ) : Con_m l M as σ Φ := by
  intro D ca ad sz
  refine Met.ofW (cc := M.cc) (maxL := M.nL) (ret := M.rt) hy rfl ?_
  intro p e s m args below meth c s₁ B hml hv
  obtain ⟨rfl, hsz, hK, hP, hD0, hSt, hOk, hvs, hσ⟩ := hv
  have hts := atoms_spec (ws := mws M) B.pre
  subst hsz
  have hD := hD0.self (sz := s.heap.size)
  have hA : ∀ q : Nat, s.heap.size ≤ q → va_A (wl_m ad ca σ) s.heap.size q := fun q h => Or.inr h
  have hS : va_S (va_A (wl_m ad ca σ) s.heap.size) s.heap s.heap [] := va_S.rf
  have hcat : ∀ vs : List Av, lg_sl (vs.map (vt ad)) = (vs.map (vt ad)).map Slot.val := by
    intro vs
    unfold lg_sl
    induction vs with
    | nil => rfl
    | cons v vs ih => simp only [List.map_cons, List.flatMap_cons, ih, vt_cat]; rfl
  have hl0 := lv_entry (as.map (vt ad)) (n := M.nL) (by rw [hcat]; simpa using hn)
  have hl : lv_has ((lg_sl (as.map (vt ad)) ++ List.replicate (M.nL - (lg_sl (as.map (vt ad))).length) Slot.unset).toArray) M.nL (lt ad ((List.range as.length).zip as)) := by
    refine ⟨hl0.1, hl0.2.1, fun q hq => ?_⟩
    unfold lt at hq
    obtain ⟨z, hz, rfl⟩ := List.mem_map.mp hq
    obtain ⟨i, hi⟩ := List.getElem?_of_mem hz
    rw [List.getElem?_zip_eq_some] at hi
    obtain ⟨h1, h2⟩ := hi
    have hlt : i < as.length := (List.getElem?_eq_some_iff.mp h2).1
    rw [List.getElem?_range hlt] at h1
    have h1 : i = z.1 := Option.some.inj h1
    subst h1
    rw [hcat]
    rw [List.getElem?_toArray, List.getElem?_append_left (by simpa using hlt), List.getElem?_map, List.getElem?_map, h2]
    rfl
  rw [lg_entry_eq]
  refine h p e _ s m _ below meth c D ca ad ad σ.1 (va_A (wl_m ad ca σ) s.heap.size) s.heap [] _ _ ⟨B.exec, B.bytes, hml, findClass_of_methodNamed B.named, fun w hw => hts w (List.mem_cons_of_mem _ hw), B.notSynchronized, B.returns, (name_of_methodNamed B.named B.method).1, Nat.le_refl _, Nat.le_refl _, Nat.le_refl _, Nat.le_refl _⟩ ⟨hK, hP, hD, hS, hA, hSt, hOk⟩ ⟨fun _ _ => rfl, Nat.le_refl _, hσ⟩ hl ⟨fun q hq => hvs _ (List.of_mem_zip hq).2, fun v hv => absurd hv List.not_mem_nil⟩ ?_
  intro r σ' ad' H locs ls pc kc ks hΦ hW hG hkc hks hr hrv
  have hfr : ∀ t : State, t.heap = H → va_F (va_A (wl_m ad ca σ) s.heap.size) s t := fun t ht => by
    refine ⟨by rw [ht]; exact hW.2.2.2.1.1, fun q h1 h2 => by rw [ht]; exact hW.2.2.2.1.2.1 q h1 h2⟩
  have hq : ∀ t : State, t.heap = H → QC_m D ca ad σ s.heap.size Φ ((as.map (vt ad)).toArray) s (.returned (r.map (vt ad'))) t := fun t ht => ⟨⟨r, σ', ad', rfl, hΦ, hG, by rw [ht]; exact hW.2.1, hW.2.2.1, hW.2.2.2.2.2.2, hrv⟩, hfr t ht⟩
  refine W.widen (k := M.mc) (n := M.ms) hkc hks ?_
  cases r with
  | none =>
    obtain ⟨h1, h2⟩ := hr
    exact W.vret B.exec B.bytes (B.returns.trans h1) (fun t ht _ => hq t ht) hW.2.2.2.1.2.2 h2 B.notSynchronized
  | some v =>
    cases v with
    | inl x =>
      obtain ⟨⟨ty, h1, h3⟩, h2⟩ := hr
      exact W.zret B.exec B.bytes (B.returns.trans h1) h3 (fun t ht _ => hq t ht) hW.2.2.2.1.2.2 h2 B.notSynchronized
    | inr x =>
      obtain ⟨⟨ty, h1, h3⟩, h2⟩ := hr
      refine W.aret B.exec B.bytes (B.returns.trans h1) h3 ?_ (fun t ht _ => hq t ht) hW.2.2.2.1.2.2 h2 B.notSynchronized
      unfold vt ro va_rf
      by_cases hx : x = 0
      · simp [hx]
      · simp [hx]
section GRz
variable {l : Launch} {M : Mth} {pc : Nat} {lo : List (Nat × Av)} {st : List Av} {σ : Sg} {kc ks : Nat} {Φ : Option Av → Sg → Prop}
theorem gw_iconst_m {n : Int} {v : Int32} (hd : decode M.cc pc = .ok (.iconst n, 1)) (hv : Int32.ofInt n = v) (k : GW_m l M (pc + 1) lo (.inl v :: st) σ kc ks Φ) : GW_m l M pc lo (st) σ kc ks Φ := by
  intro p e R s m args below meth c D ca ad0 ad n0 A H locs ls Q C X G L Y T
  exact lv_iconst C.1 C.2.1 hd hv (k p e R s m args below meth c D ca ad0 ad n0 A H locs ls Q C X G L ⟨Y.1, List.forall_mem_cons.mpr ⟨trivial, Y.2⟩⟩ T)
theorem gw_bipush_m {n : Int} {v : Int32} (hd : decode M.cc pc = .ok (.bipush n, 2)) (hv : (Int8.ofInt n).toInt32 = v) (k : GW_m l M (pc + 2) lo (.inl v :: st) σ kc ks Φ) : GW_m l M pc lo (st) σ kc ks Φ := by
  intro p e R s m args below meth c D ca ad0 ad n0 A H locs ls Q C X G L Y T
  exact lv_bipush C.1 C.2.1 hd hv (k p e R s m args below meth c D ca ad0 ad n0 A H locs ls Q C X G L ⟨Y.1, List.forall_mem_cons.mpr ⟨trivial, Y.2⟩⟩ T)
theorem gw_sipush_m {n : Int} {v : Int32} (hd : decode M.cc pc = .ok (.sipush n, 3)) (hv : (Int16.ofInt n).toInt32 = v) (k : GW_m l M (pc + 3) lo (.inl v :: st) σ kc ks Φ) : GW_m l M pc lo (st) σ kc ks Φ := by
  intro p e R s m args below meth c D ca ad0 ad n0 A H locs ls Q C X G L Y T
  exact lv_sipush C.1 C.2.1 hd hv (k p e R s m args below meth c D ca ad0 ad n0 A H locs ls Q C X G L ⟨Y.1, List.forall_mem_cons.mpr ⟨trivial, Y.2⟩⟩ T)
theorem gw_iload_n_m {j : Fin 4} {i q : Nat} {x : Int32} (hd : decode M.cc pc = .ok (.iload_n j, 1)) (hi : (j : Nat) = i) (hl : lo[q]? = some (i, .inl x)) (k : GW_m l M (pc + 1) lo (.inl x :: st) σ kc ks Φ) : GW_m l M pc lo (st) σ kc ks Φ := by
  intro p e R s m args below meth c D ca ad0 ad n0 A H locs ls Q C X G L Y T
  exact lv_iload_n C.1 C.2.1 hd hi (lt_at L q hl) (k p e R s m args below meth c D ca ad0 ad n0 A H locs ls Q C X G L ⟨Y.1, List.forall_mem_cons.mpr ⟨trivial, Y.2⟩⟩ T)
theorem gw_aload_n_m {j : Fin 4} {i q x : Nat} (hd : decode M.cc pc = .ok (.aload_n j, 1)) (hi : (j : Nat) = i) (hl : lo[q]? = some (i, .inr x)) (k : GW_m l M (pc + 1) lo (.inr x :: st) σ kc ks Φ) : GW_m l M pc lo (st) σ kc ks Φ := by
  intro p e R s m args below meth c D ca ad0 ad n0 A H locs ls Q C X G L Y T
  have h1 := lt_at L q hl
  have h2 : W p l e R s m args below meth c H locs kc ks Q (F0 m (pc + 1) ls ((.inr x :: st).map (vt ad))) := k p e R s m args below meth c D ca ad0 ad n0 A H locs ls Q C X G L ⟨Y.1, List.forall_mem_cons.mpr ⟨Y.1 _ (List.mem_of_getElem? hl), Y.2⟩⟩ T
  simp only [List.map_cons, vt, ro] at h1 h2
  by_cases hx : x = 0
  · simp only [hx, if_true, va_rf] at h1 h2
    exact lv_aload_nN C.1 C.2.1 hd hi h1 h2
  · simp only [hx, if_false, va_rf] at h1 h2
    exact lv_aload_n C.1 C.2.1 hd hi h1 h2
theorem gw_istore_n_m {lo' : List (Nat × Av)} {j : Fin 4} {i : Nat} {x : Int32} (hd : decode M.cc pc = .ok (.istore_n j, 1)) (hi : (j : Nat) = i) (hn : i < M.nL) (hlo : sto lo i (.inl x) = lo') (k : GW_m l M (pc + 1) lo' (st) σ kc ks Φ) : GW_m l M pc lo ((.inl x) :: st) σ kc ks Φ := by
  intro p e R s m args below meth c D ca ad0 ad n0 A H locs ls Q C X G L Y T
  have Y2 := List.forall_mem_cons.mp Y.2
  exact lv_istore_n C.1 C.2.1 hd hi L hn rfl (fun ls h => k p e R s m args below meth c D ca ad0 ad n0 A H locs ls Q C X G (hlo ▸ sto_has h) ⟨hlo ▸ sto_ok Y.1 trivial, Y2.2⟩ T)
theorem gw_iinc_m {lo' : List (Nat × Av)} {i q : Nat} {n : Int} {x v : Int32} (hd : decode M.cc pc = .ok (.iinc i n, 3)) (hl : lo[q]? = some (i, .inl x)) (hv : x + Int32.ofInt n = v) (hn : i < M.nL) (hlo : sto lo i (.inl v) = lo') (k : GW_m l M (pc + 3) lo' st σ kc ks Φ) : GW_m l M pc lo st σ kc ks Φ := by
  intro p e R s m args below meth c D ca ad0 ad n0 A H locs ls Q C X G L Y T
  exact lv_iinc C.1 C.2.1 hd L (k := q) (by unfold lt; rw [List.getElem?_map, hl]; rfl) hv hn rfl (fun ls h => k p e R s m args below meth c D ca ad0 ad n0 A H locs ls Q C X G (hlo ▸ sto_has (v := .inl v) h) ⟨hlo ▸ sto_ok Y.1 trivial, Y.2⟩ T)
theorem gw_dup_m {v : Av} (hd : decode M.cc pc = .ok (.dup, 1)) (k : GW_m l M (pc + 1) lo (v :: v :: st) σ kc ks Φ) : GW_m l M pc lo (v :: st) σ kc ks Φ := by
  intro p e R s m args below meth c D ca ad0 ad n0 A H locs ls Q C X G L Y T
  exact lv_dup C.1 C.2.1 hd (vt_cat ad v) (k p e R s m args below meth c D ca ad0 ad n0 A H locs ls Q C X G L ⟨Y.1, List.forall_mem_cons.mpr ⟨(List.forall_mem_cons.mp Y.2).1, Y.2⟩⟩ T)
theorem gw_icmp_ge_m {x y : Int32} {off : Int} {tgt : Nat} (hd : decode M.cc pc = .ok (.if_icmp .ge off, 3)) (ht : (pc : Int) + off = (tgt : Int)) (kt : y ≤ x → GW_m l M tgt lo st σ kc ks Φ) (kf : ¬ y ≤ x → GW_m l M (pc + 3) lo st σ kc ks Φ) : GW_m l M pc lo (.inl y :: .inl x :: st) σ kc ks Φ := by
  intro p e R s m args below meth c D ca ad0 ad n0 A H locs ls Q C X G L Y T
  have Y2 := (List.forall_mem_cons.mp (List.forall_mem_cons.mp Y.2).2).2
  exact lv_icmp_ge C.1 C.2.1 hd ht (fun h => kt h p e R s m args below meth c D ca ad0 ad n0 A H locs ls Q C X G L ⟨Y.1, Y2⟩ T) (fun h => kf h p e R s m args below meth c D ca ad0 ad n0 A H locs ls Q C X G L ⟨Y.1, Y2⟩ T)
theorem gw_goto_m {off : Int} {tgt : Nat} (hd : decode M.cc pc = .ok (.goto off, 3)) (ht : (pc : Int) + off = (tgt : Int)) (k : GW_m l M tgt lo st σ kc ks Φ) : GW_m l M pc lo st σ kc ks Φ := by
  intro p e R s m args below meth c D ca ad0 ad n0 A H locs ls Q C X G L Y T
  exact lv_goto C.1 C.2.1 hd ht (k p e R s m args below meth c D ca ad0 ad n0 A H locs ls Q C X G L Y T)
theorem gw_ret_m (hd : M.rt = none ∧ decode M.cc pc = .ok (.return_, 1)) (hk : kc ≤ M.mc) (hs : ks ≤ M.ms) (h : Φ none σ) : GW_m l M pc lo [] σ kc ks Φ := by
  intro p e R s m args below meth c D ca ad0 ad n0 A H locs ls Q C X G L Y T
  exact T none σ ad H locs ls pc kc ks h X G hk hs hd (fun v hv => by cases hv)
end GRz
section GMz
variable {l : Launch} {M : Mth} {pc : Nat} {lo : List (Nat × Av)} {st : List Av} {σ : Sg} {kc ks : Nat} {Φ : Option Av → Sg → Prop}
theorem Wd_m.nest {D : va_G} {ca : Nat → ClassId} {ad : Nat → Nat} {A : Nat → Prop} {s : State} {H : Heap} {locs : List Loc} (X : Wd_m D ca ad A s H locs σ) {w : Cond} (hw : w ∈ gn) {args : Array Value} : w.before args s = true := va_Nw.use (gn_tab hw) (X.2.2.2.2.2.1.2.2.2.2.2.1 w hw)
theorem Wd_m.get {D : va_G} {ca : Nat → ClassId} {ad : Nat → Nat} {A : Nat → Prop} {s : State} {H : Heap} {locs : List Loc} (X : Wd_m D ca ad A s H locs σ) {r ci : Nat} (hr : r ≠ 0) (hs : (shp_m r).1 = ci) (hc : ci < 13) (hle : r ≤ σ.1) : (wl_m ad ca σ)[r - 1]? = some (ad r, .inr (ci, fl ad σ r ci)) := by
  rw [wl_get_m hr hle, cel_obj_m hs hc]
theorem gw_getR_m {idx ci k r : Nat} {fin : Bool} {ty : FieldType} (hf : FA M.y.cls idx ci k true fin ty) (hd : decode M.cc pc = .ok (.getfield idx, 3)) (hr : r ≠ 0) (hs : (shp_m r).1 = ci) (hle : r ≤ σ.1) (kk : GW_m l M (pc + 3) lo (.inr (σ.2.2 r k) :: st) σ kc ks Φ) : GW_m l M pc lo (.inr r :: st) σ kc ks Φ := by
  intro p e R s m args below meth c D ca ad0 ad n0 A H locs ls Q C X G L Y T
  obtain ⟨C0, T0, N, ty0, ⟨h1, h2, h3, h4, h5, h6⟩, hk, hb, -, -, -, hl⟩ := hf
  have he := X.get hr hs h6 hle
  have hv := fl_get (ad := ad) (σ := σ) (r := r) (ci := ci) (k := k) (by rw [h5]; exact hk)
  rw [hb] at hv
  have kq := kk p e R s m args below meth c D ca ad0 ad n0 A H locs ls Q C X G L ⟨Y.1, List.forall_mem_cons.mpr ⟨Or.inl (X.2.2.2.2.2.2 r k), (List.forall_mem_cons.mp Y.2).2⟩⟩ T
  show W p l e R s m args below meth c H locs kc ks Q (F0 m pc ls (vt ad (.inr r) :: st.map (vt ad)))
  rw [vt_pos hr]
  rcases hl with hl | ⟨host, hl⟩
  · exact va_get C.1 C.2.1 C.2.2.2.2.1 h2 C.2.2.2.1 X.1 X.2.1 (r - 1) he h1 k hk (C.2.2.2.2.1 _ hl) (fun x h => h) hv hd kq
  · exact va_getN C.1 C.2.1 C.2.2.2.2.1 h2 C.2.2.2.1 X.1 X.2.1 (r - 1) he h1 k hk (X.nest hl) (fun x h => h) hv hd kq
theorem gw_putI_m {idx ci k r : Nat} {ty : FieldType} {x : Int32} (hf : FA M.y.cls idx ci k false false ty) (hd : decode M.cc pc = .ok (.putfield idx, 3)) (hn : narrow ty (.int x) = .int x) (hft : fits ty (.int x) = true) (hr : r ≠ 0) (hs : (shp_m r).1 = ci) (hle : r ≤ σ.1) (kk : GW_m l M (pc + 3) lo st (w1 σ r k x) kc ks Φ) : GW_m l M pc lo ((.inl x) :: .inr r :: st) σ kc ks Φ := by
  intro p e R s m args below meth c D ca ad0 ad n0 A H locs ls Q C X G L Y T
  obtain ⟨C0, T0, N, ty0, ⟨h1, h2, h3, h4, h5, h6⟩, hk, hb, hfi, hty, hC, hl⟩ := hf
  have he := X.get hr hs h6 hle
  have Y2 := List.forall_mem_cons.mp Y.2
  have Y3 := List.forall_mem_cons.mp Y2.2
  show W p l e R s m args below meth c H locs kc ks Q (F0 m pc ls (vt ad (.inl x) :: vt ad (.inr r) :: st.map (vt ad)))
  rw [vt_pos hr]
  have hset : (wl_m ad ca σ).set (r - 1) (ad r, .inr (ci, (fl ad σ r ci).set k (vt ad (.inl x)))) = wl_m ad ca (w1 σ r k x) :=
    wl_set_m hr hle rfl (by rw [cel_obj_m hs h6]; congr 2; exact (fl_set1 hb).symm) (fun q hq => cel_off1_m hq)
  have hkl : k < (fl ad σ r ci).length := by rw [fl_len, h5]; exact hk
  have hpd : parseFieldDescriptor (T0 k).2.2.1 = some ty := by rw [h3 k hk, hty]
  have kq : ∀ (H1 : Heap) (locs1 : List Loc), va_P D vcl (wl_m ad ca (w1 σ r k x)) H1 → va_D A (wl_m ad ca (w1 σ r k x)) → va_S A s.heap H1 locs1 → W p l e R s m args below meth c H1 locs1 kc ks Q (F0 m (pc + 3) ls (st.map (vt ad))) := fun H1 locs1 a1 a2 a3 => kk p e R s m args below meth c D ca ad0 ad n0 A H1 locs1 ls Q C (X.wd a1 a2 a3 (fun _ _ => rfl) X.2.2.2.2.2.2) G L ⟨Y.1, Y3.2⟩ T
  rcases hl with hl | ⟨host, hl⟩
  · exact va_put C.1 C.2.1 C.2.2.2.2.1 h2 ty0 h3 h4 C.2.2.2.1 X.1 X.2.1 X.2.2.1 X.2.2.2.1 (r - 1) he h1 k hk (C.2.2.2.2.1 _ hl) (fun x h => h) hfi hpd hn hft hkl hd (fun H1 locs1 => by rw [hset]; exact kq H1 locs1)
  · exact va_putN C.1 C.2.1 C.2.2.2.2.1 h2 ty0 h3 h4 C.2.2.2.1 X.1 X.2.1 X.2.2.1 X.2.2.2.1 (r - 1) he h1 k hk (X.nest hl) (fun x h => h) hfi hpd hn hft hkl hd (fun H1 locs1 => by rw [hset]; exact kq H1 locs1)
theorem gw_putRF_m {idx ci k r : Nat} {ty : FieldType} {x : Nat} (hf : FA M.y.cls idx ci k true true ty) (hd : decode M.cc pc = .ok (.putfield idx, 3)) (hxv : x ≤ σ.1) (hrt : (∃ n, ty = .object n) ∨ ∃ t, ty = .array t) (hin : M.y.name = "<init>") (hown : (vcl.getD ci ("", fun _ => ("", "", "", false), 0)).1 = M.y.cls) (hlk : ∀ C T N, vcl[ci]? = some (C, T, N) → Cond.fieldLink M.y.cls idx (T k).1 (T k).2.1 (T k).2.2.1 ∈ gt) (hr : r ≠ 0) (hs : (shp_m r).1 = ci) (hle : r ≤ σ.1) (kk : GW_m l M (pc + 3) lo st (w2 σ r k x) kc ks Φ) : GW_m l M pc lo ((.inr x) :: .inr r :: st) σ kc ks Φ := by
  intro p e R s m args below meth c D ca ad0 ad n0 A H locs ls Q C X G L Y T
  obtain ⟨C0, T0, N, ty0, ⟨h1, h2, h3, h4, h5, h6⟩, hk, hb, hfi, hty, hC, hl⟩ := hf
  have he := X.get hr hs h6 hle
  have Y2 := List.forall_mem_cons.mp Y.2
  have Y3 := List.forall_mem_cons.mp Y2.2
  show W p l e R s m args below meth c H locs kc ks Q (F0 m pc ls (vt ad (.inr x) :: vt ad (.inr r) :: st.map (vt ad)))
  rw [vt_pos hr]
  have hset : (wl_m ad ca σ).set (r - 1) (ad r, .inr (ci, (fl ad σ r ci).set k (vt ad (.inr x)))) = wl_m ad ca (w2 σ r k x) :=
    wl_set_m hr hle rfl (by rw [cel_obj_m hs h6]; congr 2; exact (fl_set2 hb).symm) (fun q hq => cel_off2_m hq)
  have hkl : k < (fl ad σ r ci).length := by rw [fl_len, h5]; exact hk
  have hpd : parseFieldDescriptor (T0 k).2.2.1 = some ty := by rw [h3 k hk, hty]
  have hnf : narrow ty (vt ad (.inr x)) = vt ad (.inr x) ∧ fits ty (vt ad (.inr x)) = true := by
    unfold vt ro va_rf
    by_cases hx : x = 0
    · rcases hrt with ⟨n, rfl⟩ | ⟨t, rfl⟩ <;> simp [hx] <;> exact ⟨rfl, rfl⟩
    · rcases hrt with ⟨n, rfl⟩ | ⟨t, rfl⟩ <;> simp [hx] <;> exact ⟨rfl, rfl⟩
  have hl : Cond.fieldLink M.y.cls idx (T0 k).1 (T0 k).2.1 (T0 k).2.2.1 ∈ gt := hlk C0 T0 N h1
  have hown : C0 = M.y.cls := by rw [← hown, List.getD_eq_getElem?_getD, h1]; rfl
  have kq : ∀ (H1 : Heap) (locs1 : List Loc), va_P D vcl (wl_m ad ca (w2 σ r k x)) H1 → va_D A (wl_m ad ca (w2 σ r k x)) → va_S A s.heap H1 locs1 → W p l e R s m args below meth c H1 locs1 kc ks Q (F0 m (pc + 3) ls (st.map (vt ad))) := fun H1 locs1 a1 a2 a3 => kk p e R s m args below meth c D ca ad0 ad n0 A H1 locs1 ls Q C (X.wd a1 a2 a3 (fun _ _ => rfl) (okm_w2 X.2.2.2.2.2.2 hxv)) G L ⟨Y.1, Y3.2⟩ T
  exact va_putF C.1 C.2.1 C.2.2.2.2.1 h2 ty0 h3 h4 C.2.2.2.1 X.1 X.2.1 X.2.2.1 X.2.2.2.1 (r - 1) he h1 k hk (C.2.2.2.2.1 _ hl) (fun x h => h) hfi (C.2.2.2.2.2.2.2.1.trans hin) (hC.trans hown) hpd hnf.1 hnf.2 hkl hd (fun H1 locs1 => by rw [hset]; exact kq H1 locs1)
end GMz
section GCz
variable {l : Launch} {M : Mth} {pc : Nat} {lo : List (Nat × Av)} {st : List Av} {σ : Sg} {kc ks : Nat} {Φ : Option Av → Sg → Prop}
theorem PC_blind_m {D : va_G} {ca : Nat → ClassId} {ad : Nat → Nat} {as : List Av} {sz : Nat} : FrameBlind (PC_m D ca ad as σ sz) := by
  intro a U g mk q
  exact ⟨q.1, q.2.1, va_K.moved (u := U) (U := U.calling g mk a) (Vm.Alike.refl U.vm) q.2.2.1, q.2.2.2.1, q.2.2.2.2.1, q.2.2.2.2.2.1.same rfl, q.2.2.2.2.2.2⟩
theorem Wd_m.sub {D : va_G} {ca : Nat → ClassId} {ad : Nat → Nat} {A : Nat → Prop} {s : State} {H : Heap} {locs : List Loc} (X : Wd_m D ca ad A s H locs σ) : ∀ q, va_A (wl_m ad ca σ) H.size q → A q := by
  intro q hq
  rcases hq with ⟨k, e, hk⟩ | hq
  · exact X.2.2.1.2 k _ hk
  · exact X.2.2.2.2.1 q (Nat.le_trans X.2.2.2.1.1 hq)
theorem Wd_m.start {D : va_G} {ca : Nat → ClassId} {ad : Nat → Nat} {A : Nat → Prop} {s : State} {H : Heap} {locs : List Loc} {as : List Av} (X : Wd_m D ca ad A s H locs σ) (hv : ∀ v ∈ as, okv σ.1 v) (h9 : σ.1 ≤ 1000) {a : Array Value} (ha : a = (as.map (vt ad)).toArray) : ∀ U : State, U.heap = H → s.WarmedH U.vm → PC_m D ca ad as σ H.size a U := by
  intro U hU hW
  refine ⟨ha, by rw [hU], va_K.moved hW.alike X.1, by rw [hU]; exact X.2.1, X.2.2.1.weaken (fun _ _ _ _ => trivial), ?_, X.2.2.2.2.2.2, hv, h9⟩
  rw [hU]
  refine Stc.warm (s := s) ?_ hW
  refine Stc.narrow (A := A) ?_ X.sub
  exact X.2.2.2.2.2.1.kept X.2.2.2.1.2.1
theorem gw_callK_m {g : Mth} {as st0 : List Av} {Φ' : Option Av → Sg → Prop}
    (hrun : ∀ (p : Program) (e : Env) (R : Room) (s : State) (m : MethodId) (args : Array Value) (below : List Frame) (meth : Method) (c : Code) (D : va_G) (ca : Nat → ClassId) (ad : Nat → Nat) (A : Nat → Prop) (H : Heap) (locs : List Loc) (ls : Array Slot), Cx M p R s m args meth c → Wd_m D ca ad A s H locs σ → ls.size = M.nL → (∀ v ∈ st0, okv σ.1 v) → σ.1 ≤ 1000 →
      va_Run p l e R s m args below meth c H locs kc ks g.mc g.ms (F0 m pc ls (st0.map (vt ad))) (st.map (vt ad)) (QC_m D ca ad σ H.size Φ' ((as.map (vt ad)).toArray)) (va_A (wl_m ad ca σ) H.size))
    (hst : ∀ v ∈ st, v ∈ st0)
    (kk : ∀ r σ', Φ' r σ' → σ.1 ≤ σ'.1 → GW_m l M (pc + 3) lo (r.toList ++ st) σ' (kc + g.mc) (ks + g.ms) Φ) : GW_m l M pc lo st0 σ kc ks Φ := by
  intro p e R s m args below meth c D ca ad0 ad n0 A H locs ls Q C X G L Y T
  intro T0 hT0 X0
  obtain ⟨v, st₀, t, T', L', h0, X', hL, e1, e2, ⟨⟨r, σ', ad', hv, hΦ, hG', hP', hD', hO', hrv⟩, hz, hk⟩, stp⟩ := hrun p e R s m args below meth c D ca ad A H locs ls C X L.1 Y.2 G.2.2 T0 hT0 X0
  have hv : v = r.map (vt ad') := by injection hv
  subst hv
  rw [h0] at hz hk
  have hsub := X.sub
  have hS : va_S A s.heap T'.heap (locs ++ L') := by
    refine ⟨Nat.le_trans X.2.2.2.1.1 (by rw [e1]; exact hz), fun q h1 h2 => ?_, fun q hq => ?_⟩
    · rw [e1, hk q (Nat.lt_of_lt_of_le h1 X.2.2.2.1.1) (fun z => h2 (hsub q z))]
      exact X.2.2.2.1.2.1 q h1 h2
    · rcases List.mem_append.mp hq with h | h
      · exact X.2.2.2.1.2.2 q h
      · exact hsub _ (hL q h)
  have X2 : Wd_m D ca ad' A s T'.heap (locs ++ L') σ' := X.wd (by rw [e1]; exact hP') (hD'.weaken (fun _ _ _ h => hsub _ h)) hS (fun k hk => hG'.1 k (Or.inr hk)) hO'
  have hmn : σ.1 ≤ σ'.1 := hG'.2.1
  have G2 : Ag ad0 n0 ad' σ' := ⟨fun k hk => (hG'.1 k (hk.elim (fun h => Or.inl (Nat.le_trans h G.2.1)) Or.inr)).trans (G.1 k hk), Nat.le_trans G.2.1 hmn, hG'.2.2⟩
  have hlt : lt ad' lo = lt ad lo := by
    unfold lt
    exact List.map_congr_left (fun q hq => by rw [vt_eq hG'.1 (Y.1 q hq)])
  have hstk : st.map (vt ad') = st.map (vt ad) := List.map_congr_left (fun q hq => vt_eq hG'.1 (Y.2 q (hst q hq)))
  have kq := kk r σ' hΦ hmn p e R s m args below meth c D ca ad0 ad' n0 A T'.heap (locs ++ L') ls Q C X2 G2 (by rw [hlt]; exact L) ⟨fun q hq => okv_mono hmn (Y.1 q hq), fun q hq => by
    rcases List.mem_append.mp hq with h | h
    · exact hrv q (by simpa using h)
    · exact okv_mono hmn (Y.2 q (hst q h))⟩ T
  have hmap : (r.toList ++ st).map (vt ad') = (r.map (vt ad')).toList ++ st.map (vt ad) := by
    rw [List.map_append, hstk]
    cases r <;> rfl
  rw [hmap] at kq
  obtain ⟨t2, a1, b1⟩ := kq T' rfl X'
  exact ⟨t2, stp t2 a1, b1⟩
theorem gw_callI_m {g : Mth} {idx r : Nat} {bs : List Av} {Φ' : Option Av → Sg → Prop} (hB : MB g bs.length) (hL : ML M.y.cls idx g) (hI : Cond.instanceMethod g.y ∈ gt) (hy1 : g.y.name = "<init>") (hrt : g.rt = none)
    (hd : decode M.cc pc = .ok (.invokespecial idx, 3)) (hR : g.dp + 1 ≤ M.dp ∧ g.nL ≤ 45) (hm : kc + g.mc ≤ M.mc ∧ ks + g.ms ≤ M.ms) (hst : st.length ≤ 8) (hr : r ≠ 0)
    (hcon : Con_m l g (.inr r :: bs) σ Φ') (kk : ∀ q σ', Φ' q σ' → σ.1 ≤ σ'.1 → GW_m l M (pc + 3) lo (q.toList ++ st) σ' (kc + g.mc) (ks + g.ms) Φ) : GW_m l M pc lo (bs.reverse ++ .inr r :: st) σ kc ks Φ := by
  refine gw_callK_m (g := g) (as := .inr r :: bs) (Φ' := Φ') ?_ (fun v hv => List.mem_append_right _ (List.mem_cons_of_mem _ hv)) kk
  intro p e R s m args below meth c D ca ad A H locs ls C X hls Y h9
  have hvs : ∀ v ∈ (.inr r :: bs : List Av), okv σ.1 v := fun v hv => Y v (by
    rcases List.mem_cons.mp hv with h | h
    · exact List.mem_append_right _ (h ▸ List.mem_cons_self)
    · exact List.mem_append_left _ (List.mem_reverse.mpr h))
  have hpre := X.start hvs h9 (a := ((.inr r :: bs : List Av).map (vt ad)).toArray) rfl
  have hx : (.inr r :: bs : List Av).map (vt ad) = Value.ref (ad r) :: bs.map (vt ad) := by rw [List.map_cons, vt_pos hr]
  rw [hx] at hpre ⊢
  have hPV : PreS s H (PC_m D ca ad (.inr r :: bs) σ H.size) (.ref (ad r) :: bs.map (vt ad)) := ⟨PC_blind_m, hpre⟩
  have hstack : (F0 m pc ls ((bs.reverse ++ .inr r :: st).map (vt ad))).stack = (bs.map (vt ad)).reverse ++ Value.ref (ad r) :: st.map (vt ad) := by
    show (bs.reverse ++ .inr r :: st).map (vt ad) = _
    rw [List.map_append, List.map_cons, vt_pos hr, List.map_reverse]
  have hcat : 2 * (F0 m pc ls ((bs.reverse ++ .inr r :: st).map (vt ad))).monitorRoom + ((st.map (vt ad)).map fun v => v.category).sum ≤ 8 := by
    rw [cat_sum]
    show 2 * 0 + st.length ≤ 8
    omega
  have hf : kc + g.mc ≤ R.cells ∧ ks + g.ms ≤ R.slots := ⟨Nat.le_trans hm.1 C.2.2.2.2.2.2.2.2.2.2.1, Nat.le_trans hm.2 C.2.2.2.2.2.2.2.2.2.2.2⟩
  have hts := C.2.2.2.2.1
  obtain ⟨gy, gc, gn, gr, gd, gm, gs⟩ := g
  cases hrt
  rcases hL with hL | ⟨host, hL⟩
  · refine va_runI (Ts := gt) (own := M.y.cls) ⟨C.1, C.2.1, C.2.2.1, C.2.2.2.1, hts⟩ (hcon D ca ad H.size) (bytes := gc) (maxL := gn) (n := bs.length) ?_ hPV rfl (List.length_map _) hls hstack hcat hd hf
    exact ⟨callB_of bs.length hts (mws_good _ hB.1) rfl rfl rfl (hts _ hB.2.1) (hts _ hL) hB.2.2 (rm_ok C hR), hy1, hts _ hI⟩
  · refine va_runIN (Ts := gt) (own := M.y.cls) (host := host) ⟨C.1, C.2.1, C.2.2.1, C.2.2.2.1, hts⟩ (hcon D ca ad H.size) (bytes := gc) (maxL := gn) (n := bs.length) ?_ hPV rfl (List.length_map _) hls hstack hcat hd hf
    exact ⟨va_cnB bs.length hts (mws_good _ hB.1) rfl rfl rfl (X.2.2.2.2.2.1.2.2.2.2.2.1 _ hL) (hts _ hB.2.1) hB.2.2 (rm_ok C hR), hy1, hts _ hI⟩
end GCz
section GAz
variable {l : Launch} {M : Mth} {pc : Nat} {lo : List (Nat × Av)} {st : List Av} {σ : Sg} {kc ks : Nat} {Φ : Option Av → Sg → Prop}
theorem cel_nw_m (h : Okm σ) (ad : Nat → Nat) (ca : Nat → ClassId) (q : Nat) {r : Nat} (hr : r ≤ σ.1) : cel_m (adn σ ad q) ca (nw σ) r = cel_m ad ca σ r := by
  have h1 : ∀ j, (nw σ).2.1 r j = σ.2.1 r j := fun j => by unfold nw; dsimp only; rw [if_neg (by omega)]
  have h2 : ∀ j, ro (adn σ ad q) ((nw σ).2.2 r j) = ro ad (σ.2.2 r j) := fun j => by
    rw [show (nw σ).2.2 r j = σ.2.2 r j by unfold nw; dsimp only; rw [if_neg (by omega)]]
    exact ro_adn ad q (h r j)
  have h3 : (nw σ).2.1 r = σ.2.1 r := funext h1
  unfold cel_m fl
  simp only [h1, h2, h3]
theorem wl_nw_m (h : Okm σ) (ad : Nat → Nat) (ca : Nat → ClassId) (q : Nat) {e : va_E} (he : cel_m (adn σ ad q) ca (nw σ) (σ.1 + 1) = e) : wl_m (adn σ ad q) ca (nw σ) = wl_m ad ca σ ++ [(q, e)] := by
  unfold wl_m
  rw [show (nw σ).1 = σ.1 + 1 from rfl, List.range_succ, List.map_append, List.map_singleton, he]
  congr 1
  · refine List.map_congr_left (fun i hi => ?_)
    have hlt : i < σ.1 := List.mem_range.mp hi
    rw [cel_nw_m h ad ca q (by omega), show adn σ ad q (i + 1) = ad (i + 1) by unfold adn; rw [if_neg (by omega)]]
  · rw [show adn σ ad q (σ.1 + 1) = q by unfold adn; rw [if_pos rfl]]
theorem new_go_m {p : Program} {e : Env} {R : Room} {s : State} {m : MethodId} {args : Array Value} {below : List Frame} {meth : Method} {c : Code} {D : va_G} {ca : Nat → ClassId} {ad0 ad : Nat → Nat} {n0 : Nat} {A : Nat → Prop} {H : Heap} {locs : List Loc} {ls : Array Slot} {Q : State → Prop} {npc kc' ks' q : Nat} {H1 : Heap} {ev : va_E}
    (C : Cx M p R s m args meth c) (X : Wd_m D ca ad A s H locs σ) (G : Ag ad0 n0 ad σ) (L : lv_has ls M.nL (lt ad lo)) (Y1 : ∀ q ∈ lo, okv σ.1 q.2) (Y2 : ∀ v ∈ st, okv σ.1 v) (T : Rt_m l M Φ p e R s m args below meth c D ca ad0 n0 A Q) (h9 : σ.1 + 1 ≤ 1000)
    (he : cel_m (adn σ ad q) ca (nw σ) (σ.1 + 1) = ev) (hP : va_P D vcl (wl_m ad ca σ ++ [(q, ev)]) H1) (hD : va_D A (wl_m ad ca σ ++ [(q, ev)])) (hS : va_S A s.heap H1 locs)
    (kk : GW_m l M npc lo (.inr (σ.1 + 1) :: st) (nw σ) kc' ks' Φ) : W p l e R s m args below meth c H1 locs kc' ks' Q (F0 m npc ls (.ref q :: st.map (vt ad))) := by
  have hO := X.2.2.2.2.2.2
  have hw := wl_nw_m hO ad ca q he
  have hag : ∀ k, (k ≤ σ.1 ∨ 1000000 ≤ k) → adn σ ad q k = ad k := fun k hk => by unfold adn; rw [if_neg (by omega)]
  have X2 : Wd_m D ca (adn σ ad q) A s H1 locs (nw σ) := X.wd (by rw [hw]; exact hP) (by rw [hw]; exact hD) hS (fun k hk => hag k (Or.inr hk)) (okm_nw hO)
  have G2 : Ag ad0 n0 (adn σ ad q) (nw σ) := ⟨fun k hk => (hag k (hk.elim (fun h => Or.inl (Nat.le_trans h G.2.1)) Or.inr)).trans (G.1 k hk), Nat.le_succ_of_le G.2.1, h9⟩
  have hlt : lt (adn σ ad q) lo = lt ad lo := by
    unfold lt
    exact List.map_congr_left (fun z hz => by rw [vt_eq hag (Y1 z hz)])
  have hstk : st.map (vt (adn σ ad q)) = st.map (vt ad) := List.map_congr_left (fun z hz => vt_eq hag (Y2 z hz))
  have hle : σ.1 ≤ (nw σ).1 := Nat.le_succ _
  have kq := kk p e R s m args below meth c D ca ad0 (adn σ ad q) n0 A H1 locs ls Q C X2 G2 (by rw [hlt]; exact L) ⟨fun z hz => okv_mono hle (Y1 z hz), List.forall_mem_cons.mpr ⟨Or.inl (Nat.le_refl _), fun z hz => okv_mono hle (Y2 z hz)⟩⟩ T
  rw [List.map_cons, hstk, vt_pos (by omega), show adn σ ad q (σ.1 + 1) = q by unfold adn; rw [if_pos rfl]] at kq
  exact kq
theorem gw_new_m {idx ci : Nat} {C0 : String} {T0 : u_T} {N : Nat} {ty0 : Nat → FieldType} (hCI : CI ci C0 T0 N ty0) (hcl : Cond.classLink M.y.cls idx C0 ∈ gt) (hin : Cond.instantiable C0 N ∈ gt) (hini : Cond.initialized C0 ∈ gt) (hfs : ∀ j, j < N → defaultValue (ty0 j) = vp_V (dfl ci) j)
    (hd : decode M.cc pc = .ok (.new idx, 3)) (hsh : (shp_m (σ.1 + 1)).1 = ci) (hkc : kc + 1 ≤ M.mc) (hks : ks + N ≤ M.ms) (h9 : σ.1 + 1 ≤ 1000) (kk : ∀ x σ', x = σ.1 + 1 → σ' = nw σ → GW_m l M (pc + 3) lo (.inr x :: st) σ' (kc + 1) (ks + N) Φ) : GW_m l M pc lo st σ kc ks Φ := by
  intro p e R s m args below meth c D ca ad0 ad n0 A H locs ls Q C X G L Y T
  obtain ⟨h1, h2, h3, h4, h5, h6⟩ := hCI
  have hts := C.2.2.2.2.1
  refine va_new C.1 C.2.1 hts h2 ty0 h3 C.2.2.2.1 (hts _ hcl) (hts _ hin) (hts _ hini) X.1 X.2.1 X.2.2.1 X.2.2.2.1 X.2.2.2.2.1 h1 hfs (Nat.le_trans hkc C.2.2.2.2.2.2.2.2.2.2.1) (Nat.le_trans hks C.2.2.2.2.2.2.2.2.2.2.2) hd (fun q H1 hP hD hS => ?_)
  exact new_go_m C X G L Y.1 Y.2 T h9 (by rw [cel_obj_m hsh h6, fl_nw]) hP hD hS (kk _ _ rfl rfl)
theorem gw_newi_m {n : Int32} {N : Nat} (hw : Cond.arrayClass .int ∈ gt) (hd : decode M.cc pc = .ok (.newarray .int, 2)) (hsh : shp_m (σ.1 + 1) = (13, N)) (hn : ¬ n < 0) (hN : n.toNatClampNeg = N) (hb : N * 4 ≤ 536870912) (hkc : kc + 1 ≤ M.mc) (hks : ks + N ≤ M.ms) (h9 : σ.1 + 1 ≤ 1000) (kk : ∀ x σ', x = σ.1 + 1 → σ' = nw σ → GW_m l M (pc + 2) lo (.inr x :: st) σ' (kc + 1) (ks + N) Φ) : GW_m l M pc lo (.inl n :: st) σ kc ks Φ := by
  intro p e R s m args below meth c D ca ad0 ad n0 A H locs ls Q C X G L Y T
  have hts := C.2.2.2.2.1
  refine va_newa (atype := .int) (ty := .int) (a0 := (N, .inl (fun _ => 0))) C.1 C.2.1 (hts _ hw) rfl X.1 X.2.1 X.2.2.1 X.2.2.2.1 X.2.2.2.2.1 (fun cA => rfl) hn hN hb (Nat.le_trans hkc C.2.2.2.2.2.2.2.2.2.2.1) (Nat.le_trans hks C.2.2.2.2.2.2.2.2.2.2.2) hd (fun q cA H1 hK hP hD hS => ?_)
  have hcA := tys_int hK
  subst hcA
  exact new_go_m C X G L Y.1 (List.forall_mem_cons.mp Y.2).2 T h9 (by rw [cel_int_m hsh, row0 _ rfl]) hP hD hS (kk _ _ rfl rfl)
theorem gw_newz_m {n : Int32} {N : Nat} (hw : Cond.arrayClass .boolean ∈ gt) (hd : decode M.cc pc = .ok (.newarray .boolean, 2)) (hsh : shp_m (σ.1 + 1) = (14, N)) (hn : ¬ n < 0) (hN : n.toNatClampNeg = N) (hb : N * 1 ≤ 536870912) (hkc : kc + 1 ≤ M.mc) (hks : ks + N ≤ M.ms) (h9 : σ.1 + 1 ≤ 1000) (kk : ∀ x σ', x = σ.1 + 1 → σ' = nw σ → GW_m l M (pc + 2) lo (.inr x :: st) σ' (kc + 1) (ks + N) Φ) : GW_m l M pc lo (.inl n :: st) σ kc ks Φ := by
  intro p e R s m args below meth c D ca ad0 ad n0 A H locs ls Q C X G L Y T
  have hts := C.2.2.2.2.1
  refine va_newa (atype := .boolean) (ty := .boolean) (a0 := (N, .inl (fun _ => 0))) C.1 C.2.1 (hts _ hw) rfl X.1 X.2.1 X.2.2.1 X.2.2.2.1 X.2.2.2.2.1 (fun cA => rfl) hn hN hb (Nat.le_trans hkc C.2.2.2.2.2.2.2.2.2.2.1) (Nat.le_trans hks C.2.2.2.2.2.2.2.2.2.2.2) hd (fun q cA H1 hK hP hD hS => ?_)
  have hcA := tys_bool hK
  subst hcA
  exact new_go_m C X G L Y.1 (List.forall_mem_cons.mp Y.2).2 T h9 (by rw [cel_bool_m hsh, row0 _ rfl]) hP hD hS (kk _ _ rfl rfl)
theorem gw_newA_m {n : Int32} {N idx : Nat} (hcl : Cond.classLink M.y.cls idx "LedArms$Arm" ∈ gt) (hd : decode M.cc pc = .ok (.anewarray idx, 3)) (hsh : shp_m (σ.1 + 1) = (15, N)) (hn : ¬ n < 0) (hN : n.toNatClampNeg = N) (hb : N * 4 ≤ 536870912) (hkc : kc + 1 ≤ M.mc) (hks : ks + N ≤ M.ms) (h9 : σ.1 + 1 ≤ 1000) (kk : ∀ x σ', x = σ.1 + 1 → σ' = nw σ → GW_m l M (pc + 3) lo (.inr x :: st) σ' (kc + 1) (ks + N) Φ) : GW_m l M pc lo (.inl n :: st) σ kc ks Φ := by
  intro p e R s m args below meth c D ca ad0 ad n0 A H locs ls Q C X G L Y T
  have hts := C.2.2.2.2.1
  refine va_newq C.1 C.2.1 C.2.2.2.1 (hts _ hcl) X.2.2.2.2.2.1.2.2.2.2.2.2.1 X.1 X.2.1 X.2.2.1 X.2.2.2.1 X.2.2.2.2.1 hn hN hb (Nat.le_trans hkc C.2.2.2.2.2.2.2.2.2.2.1) (Nat.le_trans hks C.2.2.2.2.2.2.2.2.2.2.2) hd (fun q cA H1 hK hP hD hS => ?_)
  have hcA := tys_arm hK
  subst hcA
  exact new_go_m C X G L Y.1 (List.forall_mem_cons.mp Y.2).2 T h9 (by rw [cel_ref_m hsh (by decide) (by decide), row0r _ _ rfl]) hP hD hS (kk _ _ rfl rfl)
theorem gw_newT_m {n : Int32} {N idx : Nat} (hcl : Cond.classLink M.y.cls idx "LedArms$Tape" ∈ gt) (hd : decode M.cc pc = .ok (.anewarray idx, 3)) (hsh : shp_m (σ.1 + 1) = (16, N)) (hn : ¬ n < 0) (hN : n.toNatClampNeg = N) (hb : N * 4 ≤ 536870912) (hkc : kc + 1 ≤ M.mc) (hks : ks + N ≤ M.ms) (h9 : σ.1 + 1 ≤ 1000) (kk : ∀ x σ', x = σ.1 + 1 → σ' = nw σ → GW_m l M (pc + 3) lo (.inr x :: st) σ' (kc + 1) (ks + N) Φ) : GW_m l M pc lo (.inl n :: st) σ kc ks Φ := by
  intro p e R s m args below meth c D ca ad0 ad n0 A H locs ls Q C X G L Y T
  have hts := C.2.2.2.2.1
  refine va_newq C.1 C.2.1 C.2.2.2.1 (hts _ hcl) X.2.2.2.2.2.1.2.2.2.2.2.2.2.1 X.1 X.2.1 X.2.2.1 X.2.2.2.1 X.2.2.2.2.1 hn hN hb (Nat.le_trans hkc C.2.2.2.2.2.2.2.2.2.2.1) (Nat.le_trans hks C.2.2.2.2.2.2.2.2.2.2.2) hd (fun q cA H1 hK hP hD hS => ?_)
  have hcA := tys_tape hK
  subst hcA
  exact new_go_m C X G L Y.1 (List.forall_mem_cons.mp Y.2).2 T h9 (by rw [cel_ref_m hsh (by decide) (by decide), row0r _ _ rfl]) hP hD hS (kk _ _ rfl rfl)
theorem gw_aast_m {r n kd x ci : Nat} {i : Int32} (hd : decode M.cc pc = .ok (.aastore, 1)) (hs : shp_m r = (kd, n)) (hkd : (kd = 15 ∧ ci = 0) ∨ (kd = 16 ∧ ci = 9)) (hr : r ≠ 0) (hle : r ≤ σ.1) (hx : x ≠ 0) (hxl : x ≤ σ.1) (hxs : (shp_m x).1 = ci) (hi : vp_in i n) (kk : ∀ σ', σ' = w2 σ r i.toNatClampNeg x → GW_m l M (pc + 1) lo st σ' kc ks Φ) : GW_m l M pc lo (.inr x :: .inl i :: .inr r :: st) σ kc ks Φ := by
  intro p e R s m args below meth c D ca ad0 ad n0 A H locs ls Q C X G L Y T
  have Y2 := (List.forall_mem_cons.mp (List.forall_mem_cons.mp (List.forall_mem_cons.mp Y.2).2).2).2
  show W p l e R s m args below meth c H locs kc ks Q (F0 m pc ls (vt ad (.inr x) :: .int i :: vt ad (.inr r) :: st.map (vt ad)))
  rw [vt_pos hr, vt_pos hx]
  have he := wl_get_m (ad := ad) (ca := ca) hr hle
  have hci : ci < 13 := by omega
  have hxe := X.get hx hxs hci hxl
  have hk : 15 ≤ kd ∧ kd < 17 := by omega
  rw [cel_ref_m hs (by omega) (by omega)] at he
  have hset : (wl_m ad ca σ).set (r - 1) (ad r, .inl (ca kd, n, .inr (.inr (.inr (.inr (va_up (fun j => ro ad (σ.2.2 r j)) i.toNatClampNeg (some (ad x)))))))) = wl_m ad ca (w2 σ r i.toNatClampNeg x) :=
    wl_set_m hr hle rfl (by rw [cel_ref_m hs (by omega) (by omega), up_w2 hx]) (fun q hq => cel_off2_m hq)
  have kq : ∀ (H1 : Heap) (locs1 : List Loc), va_P D vcl (wl_m ad ca (w2 σ r i.toNatClampNeg x)) H1 → va_D A (wl_m ad ca (w2 σ r i.toNatClampNeg x)) → va_S A s.heap H1 locs1 → W p l e R s m args below meth c H1 locs1 kc ks Q (F0 m (pc + 1) ls (st.map (vt ad))) := fun H1 locs1 a1 a2 a3 => kk _ rfl p e R s m args below meth c D ca ad0 ad n0 A H1 locs1 ls Q C (X.wd a1 a2 a3 (fun _ _ => rfl) (okm_w2 X.2.2.2.2.2.2 hxl)) G L ⟨Y.1, Y2⟩ T
  rcases hkd with ⟨rfl, rfl⟩ | ⟨rfl, rfl⟩
  · exact va_astq (r := (RX0, TX0, 11)) C.1 C.2.1 X.1 X.2.1 X.2.2.1 X.2.2.2.1 (r - 1) 2 (x - 1) 0 he rfl hxe rfl hi hd (fun H1 locs1 => by rw [hset]; exact kq H1 locs1)
  · exact va_astq (r := (RX9, TX9, 4)) C.1 C.2.1 X.1 X.2.1 X.2.2.1 X.2.2.2.1 (r - 1) 3 (x - 1) 9 he rfl hxe rfl hi hd (fun H1 locs1 => by rw [hset]; exact kq H1 locs1)
theorem gw_objInit_m {idx r : Nat} (h1 : Cond.methodLink M.y.cls idx Lib.objectInit ∈ gt) (h2 : Cond.instanceMethod Lib.objectInit ∈ gt) (h3 : Cond.code Lib.objectInit ⟨#[0xb1]⟩ 1 none ∈ gt) (hd : decode M.cc pc = .ok (.invokespecial idx, 3)) (hdp : 1 ≤ M.dp) (hst : st.length ≤ 8) (hr : r ≠ 0) (kk : GW_m l M (pc + 3) lo st σ kc ks Φ) : GW_m l M pc lo (.inr r :: st) σ kc ks Φ := by
  intro p e R s m args below meth c D ca ad0 ad n0 A H locs ls Q C X G L Y T
  have hts := C.2.2.2.2.1
  have kq := kk p e R s m args below meth c D ca ad0 ad n0 A H locs ls Q C X G L ⟨Y.1, (List.forall_mem_cons.mp Y.2).2⟩ T
  show W p l e R s m args below meth c H locs kc ks Q (F0 m pc ls (vt ad (.inr r) :: st.map (vt ad)))
  rw [vt_pos hr]
  obtain ⟨-, -, -, -, -, -, -, -, hf, hlc, -, -⟩ := id C
  refine W.objInit C.1 C.2.1 C.2.2.2.1 (hts _ h1) (hts _ h2) (hts _ h3) rfl (L.1.trans C.2.2.1.symm) rfl hd (Nat.le_trans hdp hf) ?_ kq
  rw [cat_sum]
  show 2 * 0 + st.length + 12 ≤ R.locals
  omega
end GAz
section GTz
variable {l : Launch} {M : Mth} {pc : Nat} {lo : List (Nat × Av)} {st : List Av} {σ : Sg} {kc ks : Nat} {Φ : Option Av → Sg → Prop}
def Ob_m (σ : Sg) (r ci : Nat) : Prop := r ≠ 0 ∧ (shp_m r).1 = ci ∧ r ≤ σ.1
def Ai_m (σ : Sg) (r : Nat) (i : Int32) : Prop := r ≠ 0 ∧ (shp_m r).1 = 13 ∧ r ≤ σ.1 ∧ vp_in i (shp_m r).2
def Az_m (σ : Sg) (r : Nat) (i : Int32) : Prop := r ≠ 0 ∧ (shp_m r).1 = 14 ∧ r ≤ σ.1 ∧ vp_in i (shp_m r).2
def Aq_m (σ : Sg) (r : Nat) (i : Int32) : Prop := r ≠ 0 ∧ ((shp_m r).1 = 15 ∨ (shp_m r).1 = 16) ∧ r ≤ σ.1 ∧ vp_in i (shp_m r).2
def Al_m (σ : Sg) (r : Nat) : Prop := r ≠ 0 ∧ ((shp_m r).1 = 13 ∨ (shp_m r).1 = 14) ∧ r ≤ σ.1
theorem gw_inc_m {lo' : List (Nat × Av)} {i q : Nat} {n : Int} {x c : Int32} (hd : decode M.cc pc = .ok (.iinc i n, 3)) (hc : Int32.ofInt n = c) (hl : lo[q]? = some (i, .inl x)) (hn : i < M.nL) (hlo : sto lo i (.inl (x + c)) = lo') (k : GW_m l M (pc + 3) lo' st σ kc ks Φ) : GW_m l M pc lo st σ kc ks Φ :=
  gw_iinc_m hd hl (by rw [hc]) hn hlo k
theorem gw_gR_m {idx ci k r : Nat} {fin : Bool} {ty : FieldType} (hf : FA M.y.cls idx ci k true fin ty) (hd : decode M.cc pc = .ok (.getfield idx, 3)) (g : Ob_m σ r ci) (kk : GW_m l M (pc + 3) lo (.inr (σ.2.2 r k) :: st) σ kc ks Φ) : GW_m l M pc lo (.inr r :: st) σ kc ks Φ := gw_getR_m hf hd g.1 g.2.1 g.2.2 kk
theorem gw_pI_m {idx ci k r : Nat} {x : Int32} (hf : FA M.y.cls idx ci k false false .int) (hd : decode M.cc pc = .ok (.putfield idx, 3)) (g : Ob_m σ r ci) (kk : ∀ σ', σ' = w1 σ r k x → GW_m l M (pc + 3) lo st σ' kc ks Φ) : GW_m l M pc lo (.inl x :: .inr r :: st) σ kc ks Φ := gw_putI_m hf hd rfl rfl g.1 g.2.1 g.2.2 (kk _ rfl)
theorem gw_pRF_m {idx ci k r x : Nat} {ty : FieldType} (hf : FA M.y.cls idx ci k true true ty) (hrt : (∃ n, ty = .object n) ∨ ∃ t, ty = .array t) (hin : M.y.name = "<init>") (hown : (vcl.getD ci ("", fun _ => ("", "", "", false), 0)).1 = M.y.cls) (hlk : ∀ C T N, vcl[ci]? = some (C, T, N) → Cond.fieldLink M.y.cls idx (T k).1 (T k).2.1 (T k).2.2.1 ∈ gt) (hd : decode M.cc pc = .ok (.putfield idx, 3)) (hx : x ≤ σ.1) (g : Ob_m σ r ci) (kk : ∀ σ', σ' = w2 σ r k x → GW_m l M (pc + 3) lo st σ' kc ks Φ) : GW_m l M pc lo (.inr x :: .inr r :: st) σ kc ks Φ := gw_putRF_m hf hd hx hrt hin hown hlk g.1 g.2.1 g.2.2 (kk _ rfl)
theorem Ob_m.up {σ' : Sg} {r ci : Nat} (g : Ob_m σ r ci) (h : σ.1 ≤ σ'.1) : Ob_m σ' r ci := ⟨g.1, g.2.1, Nat.le_trans g.2.2 h⟩
theorem Ai_m.up {σ' : Sg} {r : Nat} {i : Int32} (g : Ai_m σ r i) (h : σ.1 ≤ σ'.1) : Ai_m σ' r i := ⟨g.1, g.2.1, Nat.le_trans g.2.2.1 h, g.2.2.2⟩
theorem Az_m.up {σ' : Sg} {r : Nat} {i : Int32} (g : Az_m σ r i) (h : σ.1 ≤ σ'.1) : Az_m σ' r i := ⟨g.1, g.2.1, Nat.le_trans g.2.2.1 h, g.2.2.2⟩
theorem Aq_m.up {σ' : Sg} {r : Nat} {i : Int32} (g : Aq_m σ r i) (h : σ.1 ≤ σ'.1) : Aq_m σ' r i := ⟨g.1, g.2.1, Nat.le_trans g.2.2.1 h, g.2.2.2⟩
theorem Al_m.up {σ' : Sg} {r : Nat} (g : Al_m σ r) (h : σ.1 ≤ σ'.1) : Al_m σ' r := ⟨g.1, g.2.1, Nat.le_trans g.2.2 h⟩
theorem shp_pair_m {r a : Nat} (h : (shp_m r).1 = a) : shp_m r = (a, (shp_m r).2) := by rw [← h]
theorem gw_rV_m {K : Sg → Prop} (hd : decode M.cc pc = .ok (.return_, 1)) (hty : M.rt = none) (hk : kc ≤ M.mc) (hs : ks ≤ M.ms) (h : K σ) : GW_m l M pc lo [] σ kc ks (PV K) := gw_ret_m ⟨hty, hd⟩ hk hs ⟨rfl, h⟩
theorem gw_iC_m {g : Mth} {n idx r kc' ks' : Nat} {bs st0 : List Av} {Ψ : Option Av → Sg → Prop} (hv : IM g n) (hl : MLy M.y.cls idx g.y) (hd : decode M.cc pc = .ok (.invokespecial idx, 3)) (hR : kcs kc ks kc' ks' M g) (hst : st.length ≤ 8) (hn : bs.length = n) (e : bs.reverse ++ .inr r :: st = st0) (hr : r ≠ 0) (h : Con_m l g (.inr r :: bs) σ Ψ) (kk : ∀ q σ', Ψ q σ' → σ.1 ≤ σ'.1 → GW_m l M (pc + 3) lo (q.toList ++ st) σ' kc' ks' Φ) : GW_m l M pc lo st0 σ kc ks Φ := by
  obtain ⟨h1, h2, h3, h4, h6⟩ := hv
  obtain ⟨r1, rfl, rfl, r4, r5⟩ := hR
  subst hn
  subst e
  exact gw_callI_m h1 hl h2 h3 h4 hd ⟨r1, h6⟩ ⟨r4, r5⟩ hst hr h kk
theorem kV_m {K : Sg → Prop} {kc' ks' : Nat} (h : ∀ σ', K σ' → σ.1 ≤ σ'.1 → GW_m l M pc lo st σ' kc' ks' Φ) : ∀ q σ', PV K q σ' → σ.1 ≤ σ'.1 → GW_m l M pc lo (q.toList ++ st) σ' kc' ks' Φ := by
  intro q σ' ⟨hq, hk⟩ hm
  subst hq
  exact h σ' hk hm
end GTz
