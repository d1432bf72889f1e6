section GC
variable {l : Launch} {M : Mth} {pc : Nat} {lo : List (Nat × Av)} {st : List Av} {σ : Sg} {kc ks : Nat} {Φ : Option Av → Sg → Prop}
theorem okv_mono {n n' : Nat} (h : n ≤ n') {v : Av} (hv : okv n v) : okv n' v := by
  cases v with
  | inl x => trivial
  | inr r => exact hv.elim (fun q => Or.inl (Nat.le_trans q h)) Or.inr
theorem vt_eq {ad ad' : Nat → Nat} {n : Nat} (h : ∀ k, (k ≤ n ∨ 1000000 ≤ k) → ad' k = ad k) {v : Av} (hv : okv n v) : vt ad' v = vt ad v := by
  cases v with
  | inl x => rfl
  | inr r => unfold vt ro; dsimp only; rw [h r hv]
theorem PC_blind {D : va_G} {ca : Nat → ClassId} {ad : Nat → Nat} {as : List Av} {sz : Nat} : FrameBlind (PC D ca ad as σ sz) := by
  intro a U g mk q
  exact ⟨q.1, q.2.1, va_K.moved (u := U) (U := U.calling g mk a) (Vm.Alike.refl U.vm) q.2.2.1, q.2.2.2.1, q.2.2.2.2.1, q.2.2.2.2.2.1.same rfl, q.2.2.2.2.2.2⟩
theorem Wd.sub {D : va_G} {ca : Nat → ClassId} {ad : Nat → Nat} {A : Nat → Prop} {s : State} {H : Heap} {locs : List Loc} (X : Wd D ca ad A s H locs σ) : ∀ q, va_A (wl ad ca σ) H.size q → A q := by
  intro q hq
  rcases hq with ⟨k, e, hk⟩ | hq
  · exact X.2.2.1.2 k _ hk
  · exact X.2.2.2.2.1 q (Nat.le_trans X.2.2.2.1.1 hq)
theorem cat_sum (ad : Nat → Nat) (st : List Av) : ((st.map (vt ad)).map fun v => v.category).sum = st.length := by
  induction st with
  | nil => rfl
  | cons v t ih => simp only [List.map_cons, List.sum_cons, List.length_cons, vt_cat]; rw [ih]; omega
/-- the contract's start holds where the caller stands -/
theorem Wd.start {D : va_G} {ca : Nat → ClassId} {ad : Nat → Nat} {A : Nat → Prop} {s : State} {H : Heap} {locs : List Loc} {as : List Av} (X : Wd D ca ad A s H locs σ) (hv : ∀ v ∈ as, okv σ.1 v) (h9 : σ.1 ≤ 1000) {a : Array Value} (ha : a = (as.map (vt ad)).toArray) : ∀ U : State, U.heap = H → s.WarmedH U.vm → PC D ca ad as σ H.size a U := by
  intro U hU hW
  refine ⟨ha, by rw [hU], va_K.moved hW.alike X.1, by rw [hU]; exact X.2.1, X.2.2.1.weaken (fun _ _ _ _ => trivial), ?_, X.2.2.2.2.2.2, hv, h9⟩
  rw [hU]
  refine Stc.warm (s := s) ?_ hW
  refine Stc.narrow (A := A) ?_ X.sub
  exact X.2.2.2.2.2.1.kept X.2.2.2.1.2.1
/-- what is behind a call -/
theorem gw_callK {g : Mth} {as st0 : List Av} {Φ' : Option Av → Sg → Prop}
    (hrun : ∀ (p : Program) (e : Env) (R : Room) (s : State) (m : MethodId) (args : Array Value) (below : List Frame) (meth : Method) (c : Code) (D : va_G) (ca : Nat → ClassId) (ad : Nat → Nat) (A : Nat → Prop) (H : Heap) (locs : List Loc) (ls : Array Slot), Cx M p R s m args meth c → Wd D ca ad A s H locs σ → ls.size = M.nL → (∀ v ∈ st0, okv σ.1 v) → σ.1 ≤ 1000 →
      va_Run p l e R s m args below meth c H locs kc ks g.mc g.ms (F0 m pc ls (st0.map (vt ad))) (st.map (vt ad)) (QC D ca ad σ H.size Φ' ((as.map (vt ad)).toArray)) (va_A (wl ad ca σ) H.size))
    (hst : ∀ v ∈ st, v ∈ st0)
    (kk : ∀ r σ', Φ' r σ' → σ.1 ≤ σ'.1 → GW l M (pc + 3) lo (r.toList ++ st) σ' (kc + g.mc) (ks + g.ms) Φ) : GW l M pc lo st0 σ kc ks Φ := by
  intro p e R s m args below meth c D ca ad0 ad n0 A H locs ls Q C X G L Y T
  intro T0 hT0 X0
  obtain ⟨v, st₀, t, T', L', h0, X', hL, e1, e2, ⟨⟨r, σ', ad', hv, hΦ, hG', hP', hD', hO', hrv⟩, hz, hk⟩, stp⟩ := hrun p e R s m args below meth c D ca ad A H locs ls C X L.1 Y.2 G.2.2 T0 hT0 X0
  have hv : v = r.map (vt ad') := by injection hv
  subst hv
  rw [h0] at hz hk
  have hsub := X.sub
  have hS : va_S A s.heap T'.heap (locs ++ L') := by
    refine ⟨Nat.le_trans X.2.2.2.1.1 (by rw [e1]; exact hz), fun q h1 h2 => ?_, fun q hq => ?_⟩
    · rw [e1, hk q (Nat.lt_of_lt_of_le h1 X.2.2.2.1.1) (fun z => h2 (hsub q z))]
      exact X.2.2.2.1.2.1 q h1 h2
    · rcases List.mem_append.mp hq with h | h
      · exact X.2.2.2.1.2.2 q h
      · exact hsub _ (hL q h)
  have X2 : Wd D ca ad' A s T'.heap (locs ++ L') σ' := X.wd (by rw [e1]; exact hP') (hD'.weaken (fun _ _ _ h => hsub _ h)) hS (fun k hk => hG'.1 k (Or.inr hk)) hO'
  have hmn : σ.1 ≤ σ'.1 := hG'.2.1
  have G2 : Ag ad0 n0 ad' σ' := ⟨fun k hk => (hG'.1 k (hk.elim (fun h => Or.inl (Nat.le_trans h G.2.1)) Or.inr)).trans (G.1 k hk), Nat.le_trans G.2.1 hmn, hG'.2.2⟩
  have hlt : lt ad' lo = lt ad lo := by
    unfold lt
    exact List.map_congr_left (fun q hq => by rw [vt_eq hG'.1 (Y.1 q hq)])
  have hstk : st.map (vt ad') = st.map (vt ad) := List.map_congr_left (fun q hq => vt_eq hG'.1 (Y.2 q (hst q hq)))
  have kq := kk r σ' hΦ hmn p e R s m args below meth c D ca ad0 ad' n0 A T'.heap (locs ++ L') ls Q C X2 G2 (by rw [hlt]; exact L) ⟨fun q hq => okv_mono hmn (Y.1 q hq), fun q hq => by
    rcases List.mem_append.mp hq with h | h
    · exact hrv q (by simpa using h)
    · exact okv_mono hmn (Y.2 q (hst q h))⟩ T
  have hmap : (r.toList ++ st).map (vt ad') = (r.map (vt ad')).toList ++ st.map (vt ad) := by
    rw [List.map_append, hstk]
    cases r <;> rfl
  rw [hmap] at kq
  obtain ⟨t2, a1, b1⟩ := kq T' rfl X'
  exact ⟨t2, stp t2 a1, b1⟩
def MB (g : Mth) (n : Nat) : Prop := Cond.code g.y g.cc g.nL g.rt ∈ gt ∧ Cond.initialized g.y.cls ∈ gt ∧ (g.y.cls ≠ "java/lang/invoke/MethodHandle" ∧ g.y.cls ≠ "java/lang/invoke/VarHandle" ∧ (parseMethodDescriptor g.y.desc).map (fun d => d.parameters.length) = some n)
def ML (own : String) (idx : Nat) (g : Mth) : Prop := Cond.methodLink own idx g.y ∈ gt ∨ ∃ host, Cond.methodLinkNest own idx g.y host ∈ gn
theorem mws_good (g : Mth) (h : Cond.code g.y g.cc g.nL g.rt ∈ gt) : GoodIn gt (mws g) := by
  intro w hw
  have hm : w ∈ gt := (List.mem_cons.mp hw).elim (fun e => e ▸ h) id
  exact ⟨hm, good_of_word (gt_good hm)⟩
theorem rm_ok {g : Mth} {R : Room} {p : Program} {s : State} {m : MethodId} {args : Array Value} {meth : Method} {c : Code} (C : Cx M p R s m args meth c) (hR : g.dp + 1 ≤ M.dp ∧ g.nL ≤ 45) : (mrm g).frames + 1 ≤ R.frames ∧ 8 + (g.nL + 11) + (mrm g).locals ≤ R.locals := by
  obtain ⟨-, -, -, -, -, -, -, -, h1, h2, -, -⟩ := C
  unfold mrm
  dsimp only
  refine ⟨by omega, by omega⟩
/-- a call by a receiver whose class is known -/
theorem gw_callVg {g : Mth} {idx r : Nat} {bs : List Av} {Φ' : Option Av → Sg → Prop} (hrec0 : ∀ (D : va_G) (ca : Nat → ClassId) (ad : Nat → Nat) (A : Nat → Prop) (s : State) (H : Heap) (locs : List Loc), Wd D ca ad A s H locs σ → ∃ cell : Cell, H[ad r]? = some cell ∧ cell.vm.isStatics = false ∧ s.vm.findClass g.y.cls = some cell.cls) (hB : MB g bs.length) (hL : ML M.y.cls idx g) (hI : Cond.instanceMethod g.y ∈ gt) (hSe : Cond.selects g.y.cls g.y g.y ∈ gt)
    (hd : decode M.cc pc = .ok (.invokevirtual idx, 3)) (hR : g.dp + 1 ≤ M.dp ∧ g.nL ≤ 45) (hm : kc + g.mc ≤ M.mc ∧ ks + g.ms ≤ M.ms) (hst : st.length ≤ 8) (hr : r ≠ 0)
    (hcon : Con l g (.inr r :: bs) σ Φ') (kk : ∀ q σ', Φ' q σ' → σ.1 ≤ σ'.1 → GW l M (pc + 3) lo (q.toList ++ st) σ' (kc + g.mc) (ks + g.ms) Φ) : GW l M pc lo (bs.reverse ++ .inr r :: st) σ kc ks Φ := by
  refine gw_callK (g := g) (as := .inr r :: bs) (Φ' := Φ') ?_ (fun v hv => List.mem_append_right _ (List.mem_cons_of_mem _ hv)) kk
  intro p e R s m args below meth c D ca ad A H locs ls C X hls Y h9
  have hvs : ∀ v ∈ (.inr r :: bs : List Av), okv σ.1 v := fun v hv => Y v (by
    rcases List.mem_cons.mp hv with h | h
    · exact List.mem_append_right _ (h ▸ List.mem_cons_self)
    · exact List.mem_append_left _ (List.mem_reverse.mpr h))
  have hpre := X.start hvs h9 (a := ((.inr r :: bs : List Av).map (vt ad)).toArray) rfl
  have hx : (.inr r :: bs : List Av).map (vt ad) = Value.ref (ad r) :: bs.map (vt ad) := by rw [List.map_cons, vt_pos hr]
  rw [hx] at hpre ⊢
  have hrec := hrec0 D ca ad A s H locs X
  have hPV : PreV s H g.y.cls (ad r) (PC D ca ad (.inr r :: bs) σ H.size) (bs.map (vt ad)) := ⟨PC_blind, hrec, hpre⟩
  have hstack : (F0 m pc ls ((bs.reverse ++ .inr r :: st).map (vt ad))).stack = (bs.map (vt ad)).reverse ++ Value.ref (ad r) :: st.map (vt ad) := by
    show (bs.reverse ++ .inr r :: st).map (vt ad) = _
    rw [List.map_append, List.map_cons, vt_pos hr, List.map_reverse]
  have hcat : 2 * (F0 m pc ls ((bs.reverse ++ .inr r :: st).map (vt ad))).monitorRoom + ((st.map (vt ad)).map fun v => v.category).sum ≤ 8 := by
    rw [cat_sum]
    show 2 * 0 + st.length ≤ 8
    omega
  have hf : kc + g.mc ≤ R.cells ∧ ks + g.ms ≤ R.slots := ⟨Nat.le_trans hm.1 C.2.2.2.2.2.2.2.2.2.2.1, Nat.le_trans hm.2 C.2.2.2.2.2.2.2.2.2.2.2⟩
  have hts := C.2.2.2.2.1
  rcases hL with hL | ⟨host, hL⟩
  · refine va_runV (Ts := gt) (own := M.y.cls) ⟨C.1, C.2.1, C.2.2.1, C.2.2.2.1, hts⟩ (hcon D ca ad H.size) (C := g.y.cls) (bytes := g.cc) (maxL := g.nL) (ret := g.rt) (n := bs.length) ?_ hPV rfl (List.length_map _) hls hstack hcat hd hf
    exact ⟨callB_of bs.length hts (mws_good g hB.1) rfl rfl rfl (hts _ hB.2.1) (hts _ hL) hB.2.2 (rm_ok C hR), hts _ hI, hts _ hSe⟩
  · refine va_runVN (Ts := gt) (own := M.y.cls) (host := host) ⟨C.1, C.2.1, C.2.2.1, C.2.2.2.1, hts⟩ (hcon D ca ad H.size) (C := g.y.cls) (bytes := g.cc) (maxL := g.nL) (ret := g.rt) (n := bs.length) ?_ hPV rfl (List.length_map _) hls hstack hcat hd hf
    exact ⟨va_cnB bs.length hts (mws_good g hB.1) rfl rfl rfl (X.2.2.2.2.2.1.2.2.2.2.2.1 _ hL) (hts _ hB.2.1) hB.2.2 (rm_ok C hR), hts _ hI, hts _ hSe⟩
/-- a call by a receiver in the world -/
theorem gw_callV {g : Mth} {idx ci r : Nat} {bs : List Av} {Φ' : Option Av → Sg → Prop} {T0 : u_T} {N : Nat} (hB : MB g bs.length) (hL : ML M.y.cls idx g) (hI : Cond.instanceMethod g.y ∈ gt) (hSe : Cond.selects g.y.cls g.y g.y ∈ gt)
    (hd : decode M.cc pc = .ok (.invokevirtual idx, 3)) (hR : g.dp + 1 ≤ M.dp ∧ g.nL ≤ 45) (hm : kc + g.mc ≤ M.mc ∧ ks + g.ms ≤ M.ms) (hst : st.length ≤ 8) (hr : r ≠ 0) (hle : r ≤ σ.1) (hs : (shp r).1 = ci) (hc : vcl[ci]? = some (g.y.cls, T0, N)) (hci : ci < 13)
    (hcon : Con l g (.inr r :: bs) σ Φ') (kk : ∀ q σ', Φ' q σ' → σ.1 ≤ σ'.1 → GW l M (pc + 3) lo (q.toList ++ st) σ' (kc + g.mc) (ks + g.ms) Φ) : GW l M pc lo (bs.reverse ++ .inr r :: st) σ kc ks Φ :=
  gw_callVg (fun _ _ _ _ _ _ _ X => va_recv X.1 X.2.1 hc (X.get hr hs hci hle)) hB hL hI hSe hd hR hm hst hr hcon kk
/-- a static call -/
theorem gw_callS {g : Mth} {idx : Nat} {bs : List Av} {Φ' : Option Av → Sg → Prop} (hB : MB g bs.length) (hL : ML M.y.cls idx g) (hI : Cond.static g.y ∈ gt)
    (hd : decode M.cc pc = .ok (.invokestatic idx, 3)) (hR : g.dp + 1 ≤ M.dp ∧ g.nL ≤ 45) (hm : kc + g.mc ≤ M.mc ∧ ks + g.ms ≤ M.ms) (hst : st.length ≤ 8)
    (hcon : Con l g bs σ Φ') (kk : ∀ q σ', Φ' q σ' → σ.1 ≤ σ'.1 → GW l M (pc + 3) lo (q.toList ++ st) σ' (kc + g.mc) (ks + g.ms) Φ) : GW l M pc lo (bs.reverse ++ st) σ kc ks Φ := by
  refine gw_callK (g := g) (as := bs) (Φ' := Φ') ?_ (fun v hv => List.mem_append_right _ hv) kk
  intro p e R s m args below meth c D ca ad A H locs ls C X hls Y h9
  have hvs : ∀ v ∈ bs, okv σ.1 v := fun v hv => Y v (List.mem_append_left _ (List.mem_reverse.mpr hv))
  have hpre := X.start hvs h9 (a := (bs.map (vt ad)).toArray) rfl
  have hPV : PreS s H (PC D ca ad bs σ H.size) (bs.map (vt ad)) := ⟨PC_blind, hpre⟩
  have hstack : (F0 m pc ls ((bs.reverse ++ st).map (vt ad))).stack = (bs.map (vt ad)).reverse ++ st.map (vt ad) := by
    show (bs.reverse ++ st).map (vt ad) = _
    rw [List.map_append, List.map_reverse]
  have hcat : 2 * (F0 m pc ls ((bs.reverse ++ st).map (vt ad))).monitorRoom + ((st.map (vt ad)).map fun v => v.category).sum ≤ 8 := by
    rw [cat_sum]
    show 2 * 0 + st.length ≤ 8
    omega
  have hf : kc + g.mc ≤ R.cells ∧ ks + g.ms ≤ R.slots := ⟨Nat.le_trans hm.1 C.2.2.2.2.2.2.2.2.2.2.1, Nat.le_trans hm.2 C.2.2.2.2.2.2.2.2.2.2.2⟩
  have hts := C.2.2.2.2.1
  rcases hL with hL | ⟨host, hL⟩
  · refine va_runS (Ts := gt) (own := M.y.cls) ⟨C.1, C.2.1, C.2.2.1, C.2.2.2.1, hts⟩ (hcon D ca ad H.size) (bytes := g.cc) (maxL := g.nL) (ret := g.rt) (n := bs.length) ?_ hPV rfl (List.length_map _) hls hstack hcat hd hf
    exact ⟨callB_of bs.length hts (mws_good g hB.1) rfl rfl rfl (hts _ hB.2.1) (hts _ hL) hB.2.2 (rm_ok C hR), hts _ hI⟩
  · refine va_runSN (Ts := gt) (own := M.y.cls) (host := host) ⟨C.1, C.2.1, C.2.2.1, C.2.2.2.1, hts⟩ (hcon D ca ad H.size) (bytes := g.cc) (maxL := g.nL) (ret := g.rt) (n := bs.length) ?_ hPV rfl (List.length_map _) hls hstack hcat hd hf
    exact ⟨va_cnB bs.length hts (mws_good g hB.1) rfl rfl rfl (X.2.2.2.2.2.1.2.2.2.2.2.1 _ hL) (hts _ hB.2.1) hB.2.2 (rm_ok C hR), hts _ hI, trivial⟩
/-- a constructor's call -/
theorem gw_callI {g : Mth} {idx r : Nat} {bs : List Av} {Φ' : Option Av → Sg → Prop} (hB : MB g bs.length) (hL : ML M.y.cls idx g) (hI : Cond.instanceMethod g.y ∈ gt) (hy1 : g.y.name = "<init>") (hrt : g.rt = none)
    (hd : decode M.cc pc = .ok (.invokespecial idx, 3)) (hR : g.dp + 1 ≤ M.dp ∧ g.nL ≤ 45) (hm : kc + g.mc ≤ M.mc ∧ ks + g.ms ≤ M.ms) (hst : st.length ≤ 8) (hr : r ≠ 0)
    (hcon : Con l g (.inr r :: bs) σ Φ') (kk : ∀ q σ', Φ' q σ' → σ.1 ≤ σ'.1 → GW l M (pc + 3) lo (q.toList ++ st) σ' (kc + g.mc) (ks + g.ms) Φ) : GW l M pc lo (bs.reverse ++ .inr r :: st) σ kc ks Φ := by
  refine gw_callK (g := g) (as := .inr r :: bs) (Φ' := Φ') ?_ (fun v hv => List.mem_append_right _ (List.mem_cons_of_mem _ hv)) kk
  intro p e R s m args below meth c D ca ad A H locs ls C X hls Y h9
  have hvs : ∀ v ∈ (.inr r :: bs : List Av), okv σ.1 v := fun v hv => Y v (by
    rcases List.mem_cons.mp hv with h | h
    · exact List.mem_append_right _ (h ▸ List.mem_cons_self)
    · exact List.mem_append_left _ (List.mem_reverse.mpr h))
  have hpre := X.start hvs h9 (a := ((.inr r :: bs : List Av).map (vt ad)).toArray) rfl
  have hx : (.inr r :: bs : List Av).map (vt ad) = Value.ref (ad r) :: bs.map (vt ad) := by rw [List.map_cons, vt_pos hr]
  rw [hx] at hpre ⊢
  have hPV : PreS s H (PC D ca ad (.inr r :: bs) σ H.size) (.ref (ad r) :: bs.map (vt ad)) := ⟨PC_blind, hpre⟩
  have hstack : (F0 m pc ls ((bs.reverse ++ .inr r :: st).map (vt ad))).stack = (bs.map (vt ad)).reverse ++ Value.ref (ad r) :: st.map (vt ad) := by
    show (bs.reverse ++ .inr r :: st).map (vt ad) = _
    rw [List.map_append, List.map_cons, vt_pos hr, List.map_reverse]
  have hcat : 2 * (F0 m pc ls ((bs.reverse ++ .inr r :: st).map (vt ad))).monitorRoom + ((st.map (vt ad)).map fun v => v.category).sum ≤ 8 := by
    rw [cat_sum]
    show 2 * 0 + st.length ≤ 8
    omega
  have hf : kc + g.mc ≤ R.cells ∧ ks + g.ms ≤ R.slots := ⟨Nat.le_trans hm.1 C.2.2.2.2.2.2.2.2.2.2.1, Nat.le_trans hm.2 C.2.2.2.2.2.2.2.2.2.2.2⟩
  have hts := C.2.2.2.2.1
  obtain ⟨gy, gc, gn, gr, gd, gm, gs⟩ := g
  cases hrt
  rcases hL with hL | ⟨host, hL⟩
  · refine va_runI (Ts := gt) (own := M.y.cls) ⟨C.1, C.2.1, C.2.2.1, C.2.2.2.1, hts⟩ (hcon D ca ad H.size) (bytes := gc) (maxL := gn) (n := bs.length) ?_ hPV rfl (List.length_map _) hls hstack hcat hd hf
    exact ⟨callB_of bs.length hts (mws_good _ hB.1) rfl rfl rfl (hts _ hB.2.1) (hts _ hL) hB.2.2 (rm_ok C hR), hy1, hts _ hI⟩
  · refine va_runIN (Ts := gt) (own := M.y.cls) (host := host) ⟨C.1, C.2.1, C.2.2.1, C.2.2.2.1, hts⟩ (hcon D ca ad H.size) (bytes := gc) (maxL := gn) (n := bs.length) ?_ hPV rfl (List.length_map _) hls hstack hcat hd hf
    exact ⟨va_cnB bs.length hts (mws_good _ hB.1) rfl rfl rfl (X.2.2.2.2.2.1.2.2.2.2.2.1 _ hL) (hts _ hB.2.1) hB.2.2 (rm_ok C hR), hy1, hts _ hI⟩
theorem con_imp {g : Mth} {as : List Av} {Ψ : Option Av → Sg → Prop} (h : ∀ r σ, Ψ r σ → Φ r σ) (k : Con l g as σ Ψ) : Con l g as σ Φ := by
  intro D ca ad sz p e h1 h2 h3 s m args below h4 h5 h6 h7
  obtain ⟨n, o, a, b, c, hq, hf⟩ := k D ca ad sz p e h1 h2 h3 s m args below h4 h5 h6 h7
  exact ⟨n, o, a, b, c, ⟨hq.1.elim fun r h1 => h1.elim fun σ' h2 => h2.elim fun ad' h3 => ⟨r, σ', ad', h3.1, h _ _ h3.2.1, h3.2.2⟩, hq.2⟩, hf⟩
end GC
