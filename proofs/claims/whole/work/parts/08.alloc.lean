section GA
variable {l : Launch} {M : Mth} {pc : Nat} {lo : List (Nat × Av)} {st : List Av} {σ : Sg} {kc ks : Nat} {Φ : Option Av → Sg → Prop}
/-- one cell more, all of it 0 -/
def nw (σ : Sg) : Sg := (σ.1 + 1, fun a b => if a = σ.1 + 1 then 0 else σ.2.1 a b, fun a b => if a = σ.1 + 1 then 0 else σ.2.2 a b)
def adn (σ : Sg) (ad : Nat → Nat) (q : Nat) : Nat → Nat := fun k => if k = σ.1 + 1 then q else ad k
theorem okm_nw (h : Okm σ) : Okm (nw σ) := by
  intro a b
  unfold nw
  dsimp only
  by_cases hq : a = σ.1 + 1
  · rw [if_pos hq]; omega
  · rw [if_neg hq]; exact Nat.le_succ_of_le (h a b)
theorem ro_adn (ad : Nat → Nat) (q : Nat) {r : Nat} (h : r ≤ σ.1) : ro (adn σ ad q) r = ro ad r := by
  unfold ro adn
  by_cases hr : r = 0
  · rw [if_pos hr, if_pos hr]
  · rw [if_neg hr, if_neg hr, if_neg (by omega)]
theorem cel_nw (h : Okm σ) (ad : Nat → Nat) (ca : Nat → ClassId) (q : Nat) {r : Nat} (hr : r ≤ σ.1) : cel (adn σ ad q) ca (nw σ) r = cel ad ca σ r := by
  have h1 : ∀ j, (nw σ).2.1 r j = σ.2.1 r j := fun j => by unfold nw; dsimp only; rw [if_neg (by omega)]
  have h2 : ∀ j, ro (adn σ ad q) ((nw σ).2.2 r j) = ro ad (σ.2.2 r j) := fun j => by
    rw [show (nw σ).2.2 r j = σ.2.2 r j by unfold nw; dsimp only; rw [if_neg (by omega)]]
    exact ro_adn ad q (h r j)
  have h3 : (nw σ).2.1 r = σ.2.1 r := funext h1
  unfold cel fl
  simp only [h1, h2, h3]
theorem wl_nw (h : Okm σ) (ad : Nat → Nat) (ca : Nat → ClassId) (q : Nat) {e : va_E} (he : cel (adn σ ad q) ca (nw σ) (σ.1 + 1) = e) : wl (adn σ ad q) ca (nw σ) = wl ad ca σ ++ [(q, e)] := by
  unfold wl
  rw [show (nw σ).1 = σ.1 + 1 from rfl, List.range_succ, List.map_append, List.map_singleton, he]
  congr 1
  · refine List.map_congr_left (fun i hi => ?_)
    have hlt : i < σ.1 := List.mem_range.mp hi
    rw [cel_nw h ad ca q (by omega), show adn σ ad q (i + 1) = ad (i + 1) by unfold adn; rw [if_neg (by omega)]]
  · rw [show adn σ ad q (σ.1 + 1) = q by unfold adn; rw [if_pos rfl]]
def dfl (ci : Nat) : List Value := (List.range (nfs.getD ci 0)).map (fun j => if (rms.getD ci 0).testBit j then .null else .int 0)
theorem fl_nw (ad : Nat → Nat) (ci : Nat) : fl ad (nw σ) (σ.1 + 1) ci = dfl ci := by
  unfold fl dfl nw
  simp only [if_true]
  rfl
/-- what goes on behind a cell that is made -/
theorem new_go {p : Program} {e : Env} {R : Room} {s : State} {m : MethodId} {args : Array Value} {below : List Frame} {meth : Method} {c : Code} {D : va_G} {ca : Nat → ClassId} {ad0 ad : Nat → Nat} {n0 : Nat} {A : Nat → Prop} {H : Heap} {locs : List Loc} {ls : Array Slot} {Q : State → Prop} {npc kc' ks' q : Nat} {H1 : Heap} {ev : va_E}
    (C : Cx M p R s m args meth c) (X : Wd D ca ad A s H locs σ) (G : Ag ad0 n0 ad σ) (L : lv_has ls M.nL (lt ad lo)) (Y1 : ∀ q ∈ lo, okv σ.1 q.2) (Y2 : ∀ v ∈ st, okv σ.1 v) (T : Rt l M Φ p e R s m args below meth c D ca ad0 n0 A Q) (h9 : σ.1 + 1 ≤ 1000)
    (he : cel (adn σ ad q) ca (nw σ) (σ.1 + 1) = ev) (hP : va_P D vcl (wl ad ca σ ++ [(q, ev)]) H1) (hD : va_D A (wl ad ca σ ++ [(q, ev)])) (hS : va_S A s.heap H1 locs)
    (kk : GW l M npc lo (.inr (σ.1 + 1) :: st) (nw σ) kc' ks' Φ) : W p l e R s m args below meth c H1 locs kc' ks' Q (F0 m npc ls (.ref q :: st.map (vt ad))) := by
  have hO := X.2.2.2.2.2.2
  have hw := wl_nw hO ad ca q he
  have hag : ∀ k, (k ≤ σ.1 ∨ 1000000 ≤ k) → adn σ ad q k = ad k := fun k hk => by unfold adn; rw [if_neg (by omega)]
  have X2 : Wd D ca (adn σ ad q) A s H1 locs (nw σ) := X.wd (by rw [hw]; exact hP) (by rw [hw]; exact hD) hS (fun k hk => hag k (Or.inr hk)) (okm_nw hO)
  have G2 : Ag ad0 n0 (adn σ ad q) (nw σ) := ⟨fun k hk => (hag k (hk.elim (fun h => Or.inl (Nat.le_trans h G.2.1)) Or.inr)).trans (G.1 k hk), Nat.le_succ_of_le G.2.1, h9⟩
  have hlt : lt (adn σ ad q) lo = lt ad lo := by
    unfold lt
    exact List.map_congr_left (fun z hz => by rw [vt_eq hag (Y1 z hz)])
  have hstk : st.map (vt (adn σ ad q)) = st.map (vt ad) := List.map_congr_left (fun z hz => vt_eq hag (Y2 z hz))
  have hle : σ.1 ≤ (nw σ).1 := Nat.le_succ _
  have kq := kk p e R s m args below meth c D ca ad0 (adn σ ad q) n0 A H1 locs ls Q C X2 G2 (by rw [hlt]; exact L) ⟨fun z hz => okv_mono hle (Y1 z hz), List.forall_mem_cons.mpr ⟨Or.inl (Nat.le_refl _), fun z hz => okv_mono hle (Y2 z hz)⟩⟩ T
  rw [List.map_cons, hstk, vt_pos (by omega), show adn σ ad q (σ.1 + 1) = q by unfold adn; rw [if_pos rfl]] at kq
  exact kq
theorem gw_new {idx ci : Nat} {C0 : String} {T0 : u_T} {N : Nat} {ty0 : Nat → FieldType} (hCI : CI ci C0 T0 N ty0) (hcl : Cond.classLink M.y.cls idx C0 ∈ gt) (hin : Cond.instantiable C0 N ∈ gt) (hini : Cond.initialized C0 ∈ gt) (hfs : ∀ j, j < N → defaultValue (ty0 j) = vp_V (dfl ci) j)
    (hd : decode M.cc pc = .ok (.new idx, 3)) (hsh : (shp (σ.1 + 1)).1 = ci) (hkc : kc + 1 ≤ M.mc) (hks : ks + N ≤ M.ms) (h9 : σ.1 + 1 ≤ 1000) (kk : ∀ x σ', x = σ.1 + 1 → σ' = nw σ → GW l M (pc + 3) lo (.inr x :: st) σ' (kc + 1) (ks + N) Φ) : GW l M pc lo st σ kc ks Φ := by
  intro p e R s m args below meth c D ca ad0 ad n0 A H locs ls Q C X G L Y T
  obtain ⟨h1, h2, h3, h4, h5, h6⟩ := hCI
  have hts := C.2.2.2.2.1
  refine va_new C.1 C.2.1 hts h2 ty0 h3 C.2.2.2.1 (hts _ hcl) (hts _ hin) (hts _ hini) X.1 X.2.1 X.2.2.1 X.2.2.2.1 X.2.2.2.2.1 h1 hfs (Nat.le_trans hkc C.2.2.2.2.2.2.2.2.2.2.1) (Nat.le_trans hks C.2.2.2.2.2.2.2.2.2.2.2) hd (fun q H1 hP hD hS => ?_)
  exact new_go C X G L Y.1 Y.2 T h9 (by rw [cel_obj hsh h6, fl_nw]) hP hD hS (kk _ _ rfl rfl)
theorem tys_int {D : va_G} {ca : Nat → ClassId} {s : State} {cA : ClassId} (h : va_K D vcl (tys ca ++ [(cA, .int)]) s) : cA = ca 13 := by
  have h1 : s.vm.findClass _ = some cA := (h.2 5 (cA, .int) rfl).2
  have h2 : s.vm.findClass _ = some (ca 13) := (h.2 0 (ca 13, .int) rfl).2
  exact Option.some.inj (h1.symm.trans h2)
theorem tys_bool {D : va_G} {ca : Nat → ClassId} {s : State} {cA : ClassId} (h : va_K D vcl (tys ca ++ [(cA, .boolean)]) s) : cA = ca 14 := by
  have h1 : s.vm.findClass _ = some cA := (h.2 5 (cA, .boolean) rfl).2
  have h2 : s.vm.findClass _ = some (ca 14) := (h.2 1 (ca 14, .boolean) rfl).2
  exact Option.some.inj (h1.symm.trans h2)
theorem tys_long {D : va_G} {ca : Nat → ClassId} {s : State} {cA : ClassId} (h : va_K D vcl (tys ca ++ [(cA, .long)]) s) : cA = ca 17 := by
  have h1 : s.vm.findClass _ = some cA := (h.2 5 (cA, .long) rfl).2
  have h2 : s.vm.findClass _ = some (ca 17) := (h.2 4 (ca 17, .long) rfl).2
  exact Option.some.inj (h1.symm.trans h2)
theorem tys_arm {D : va_G} {ca : Nat → ClassId} {s : State} {cA : ClassId} (h : va_K D vcl (tys ca ++ [(cA, .object "LedArms$Arm")]) s) : cA = ca 15 := by
  obtain ⟨_, _, _, _, _, h1⟩ := (h.2 5 (cA, .object "LedArms$Arm") rfl).2
  obtain ⟨_, _, _, _, _, h2⟩ := (h.2 2 (ca 15, .object "LedArms$Arm") rfl).2
  exact Option.some.inj (h1.symm.trans h2)
theorem tys_tape {D : va_G} {ca : Nat → ClassId} {s : State} {cA : ClassId} (h : va_K D vcl (tys ca ++ [(cA, .object "LedArms$Tape")]) s) : cA = ca 16 := by
  obtain ⟨_, _, _, _, _, h1⟩ := (h.2 5 (cA, .object "LedArms$Tape") rfl).2
  obtain ⟨_, _, _, _, _, h2⟩ := (h.2 3 (ca 16, .object "LedArms$Tape") rfl).2
  exact Option.some.inj (h1.symm.trans h2)
theorem row0 (r : Nat) (h : r = σ.1 + 1) : (nw σ).2.1 r = fun _ => 0 := by
  funext j; unfold nw; dsimp only; rw [if_pos h]
theorem row0r (ad : Nat → Nat) (r : Nat) (h : r = σ.1 + 1) : (fun j => ro ad ((nw σ).2.2 r j)) = fun _ => none := by
  funext j; unfold nw; dsimp only; rw [if_pos h]; rfl
theorem gw_newi {n : Int32} {N : Nat} (hw : Cond.arrayClass .int ∈ gt) (hd : decode M.cc pc = .ok (.newarray .int, 2)) (hsh : shp (σ.1 + 1) = (13, N)) (hn : ¬ n < 0) (hN : n.toNatClampNeg = N) (hb : N * 4 ≤ 536870912) (hkc : kc + 1 ≤ M.mc) (hks : ks + N ≤ M.ms) (h9 : σ.1 + 1 ≤ 1000) (kk : ∀ x σ', x = σ.1 + 1 → σ' = nw σ → GW l M (pc + 2) lo (.inr x :: st) σ' (kc + 1) (ks + N) Φ) : GW l M pc lo (.inl n :: st) σ kc ks Φ := by
  intro p e R s m args below meth c D ca ad0 ad n0 A H locs ls Q C X G L Y T
  have hts := C.2.2.2.2.1
  refine va_newa (atype := .int) (ty := .int) (a0 := (N, .inl (fun _ => 0))) C.1 C.2.1 (hts _ hw) rfl X.1 X.2.1 X.2.2.1 X.2.2.2.1 X.2.2.2.2.1 (fun cA => rfl) hn hN hb (Nat.le_trans hkc C.2.2.2.2.2.2.2.2.2.2.1) (Nat.le_trans hks C.2.2.2.2.2.2.2.2.2.2.2) hd (fun q cA H1 hK hP hD hS => ?_)
  have hcA := tys_int hK
  subst hcA
  exact new_go C X G L Y.1 (List.forall_mem_cons.mp Y.2).2 T h9 (by rw [cel_int hsh, row0 _ rfl]) hP hD hS (kk _ _ rfl rfl)
theorem gw_newz {n : Int32} {N : Nat} (hw : Cond.arrayClass .boolean ∈ gt) (hd : decode M.cc pc = .ok (.newarray .boolean, 2)) (hsh : shp (σ.1 + 1) = (14, N)) (hn : ¬ n < 0) (hN : n.toNatClampNeg = N) (hb : N * 1 ≤ 536870912) (hkc : kc + 1 ≤ M.mc) (hks : ks + N ≤ M.ms) (h9 : σ.1 + 1 ≤ 1000) (kk : ∀ x σ', x = σ.1 + 1 → σ' = nw σ → GW l M (pc + 2) lo (.inr x :: st) σ' (kc + 1) (ks + N) Φ) : GW l M pc lo (.inl n :: st) σ kc ks Φ := by
  intro p e R s m args below meth c D ca ad0 ad n0 A H locs ls Q C X G L Y T
  have hts := C.2.2.2.2.1
  refine va_newa (atype := .boolean) (ty := .boolean) (a0 := (N, .inl (fun _ => 0))) C.1 C.2.1 (hts _ hw) rfl X.1 X.2.1 X.2.2.1 X.2.2.2.1 X.2.2.2.2.1 (fun cA => rfl) hn hN hb (Nat.le_trans hkc C.2.2.2.2.2.2.2.2.2.2.1) (Nat.le_trans hks C.2.2.2.2.2.2.2.2.2.2.2) hd (fun q cA H1 hK hP hD hS => ?_)
  have hcA := tys_bool hK
  subst hcA
  exact new_go C X G L Y.1 (List.forall_mem_cons.mp Y.2).2 T h9 (by rw [cel_bool hsh, row0 _ rfl]) hP hD hS (kk _ _ rfl rfl)
theorem gw_newl {n : Int32} {N : Nat} (hw : Cond.arrayClass .long ∈ gt) (hd : decode M.cc pc = .ok (.newarray .long, 2)) (hsh : shp (σ.1 + 1) = (17, N)) (hn : ¬ n < 0) (hN : n.toNatClampNeg = N) (hb : N * 8 ≤ 536870912) (hkc : kc + 1 ≤ M.mc) (hks : ks + N ≤ M.ms) (h9 : σ.1 + 1 ≤ 1000) (kk : ∀ x σ', x = σ.1 + 1 → σ' = nw σ → GW l M (pc + 2) lo (.inr x :: st) σ' (kc + 1) (ks + N) Φ) : GW l M pc lo (.inl n :: st) σ kc ks Φ := by
  intro p e R s m args below meth c D ca ad0 ad n0 A H locs ls Q C X G L Y T
  have hts := C.2.2.2.2.1
  refine va_newa (atype := .long) (ty := .long) (a0 := (N, .inr (.inl (fun _ => 0)))) C.1 C.2.1 (hts _ hw) rfl X.1 X.2.1 X.2.2.1 X.2.2.2.1 X.2.2.2.2.1 (fun cA => rfl) hn hN hb (Nat.le_trans hkc C.2.2.2.2.2.2.2.2.2.2.1) (Nat.le_trans hks C.2.2.2.2.2.2.2.2.2.2.2) hd (fun q cA H1 hK hP hD hS => ?_)
  have hcA := tys_long hK
  subst hcA
  exact new_go C X G L Y.1 (List.forall_mem_cons.mp Y.2).2 T h9 (by rw [cel_long hsh, row0 _ rfl]; rfl) hP hD hS (kk _ _ rfl rfl)
theorem gw_newA {n : Int32} {N idx : Nat} (hcl : Cond.classLink M.y.cls idx "LedArms$Arm" ∈ gt) (hd : decode M.cc pc = .ok (.anewarray idx, 3)) (hsh : shp (σ.1 + 1) = (15, N)) (hn : ¬ n < 0) (hN : n.toNatClampNeg = N) (hb : N * 4 ≤ 536870912) (hkc : kc + 1 ≤ M.mc) (hks : ks + N ≤ M.ms) (h9 : σ.1 + 1 ≤ 1000) (kk : ∀ x σ', x = σ.1 + 1 → σ' = nw σ → GW l M (pc + 3) lo (.inr x :: st) σ' (kc + 1) (ks + N) Φ) : GW l M pc lo (.inl n :: st) σ kc ks Φ := by
  intro p e R s m args below meth c D ca ad0 ad n0 A H locs ls Q C X G L Y T
  have hts := C.2.2.2.2.1
  refine va_newq C.1 C.2.1 C.2.2.2.1 (hts _ hcl) X.2.2.2.2.2.1.2.2.2.2.2.2.1 X.1 X.2.1 X.2.2.1 X.2.2.2.1 X.2.2.2.2.1 hn hN hb (Nat.le_trans hkc C.2.2.2.2.2.2.2.2.2.2.1) (Nat.le_trans hks C.2.2.2.2.2.2.2.2.2.2.2) hd (fun q cA H1 hK hP hD hS => ?_)
  have hcA := tys_arm hK
  subst hcA
  exact new_go C X G L Y.1 (List.forall_mem_cons.mp Y.2).2 T h9 (by rw [cel_ref hsh (by decide) (by decide), row0r _ _ rfl]) hP hD hS (kk _ _ rfl rfl)
theorem gw_newT {n : Int32} {N idx : Nat} (hcl : Cond.classLink M.y.cls idx "LedArms$Tape" ∈ gt) (hd : decode M.cc pc = .ok (.anewarray idx, 3)) (hsh : shp (σ.1 + 1) = (16, N)) (hn : ¬ n < 0) (hN : n.toNatClampNeg = N) (hb : N * 4 ≤ 536870912) (hkc : kc + 1 ≤ M.mc) (hks : ks + N ≤ M.ms) (h9 : σ.1 + 1 ≤ 1000) (kk : ∀ x σ', x = σ.1 + 1 → σ' = nw σ → GW l M (pc + 3) lo (.inr x :: st) σ' (kc + 1) (ks + N) Φ) : GW l M pc lo (.inl n :: st) σ kc ks Φ := by
  intro p e R s m args below meth c D ca ad0 ad n0 A H locs ls Q C X G L Y T
  have hts := C.2.2.2.2.1
  refine va_newq C.1 C.2.1 C.2.2.2.1 (hts _ hcl) X.2.2.2.2.2.1.2.2.2.2.2.2.2.1 X.1 X.2.1 X.2.2.1 X.2.2.2.1 X.2.2.2.2.1 hn hN hb (Nat.le_trans hkc C.2.2.2.2.2.2.2.2.2.2.1) (Nat.le_trans hks C.2.2.2.2.2.2.2.2.2.2.2) hd (fun q cA H1 hK hP hD hS => ?_)
  have hcA := tys_tape hK
  subst hcA
  exact new_go C X G L Y.1 (List.forall_mem_cons.mp Y.2).2 T h9 (by rw [cel_ref hsh (by decide) (by decide), row0r _ _ rfl]) hP hD hS (kk _ _ rfl rfl)
theorem up_w2 {ad : Nat → Nat} {r k x : Nat} (hx : x ≠ 0) : va_up (fun j => ro ad (σ.2.2 r j)) k (some (ad x)) = fun j => ro ad ((w2 σ r k x).2.2 r j) := by
  funext j
  unfold va_up w2
  by_cases h : j = k
  · simp only [h, if_true, and_self]; rw [ro_pos hx]
  · simp only [h, if_false, and_false]
theorem gw_aast {r n kd x ci : Nat} {i : Int32} (hd : decode M.cc pc = .ok (.aastore, 1)) (hs : shp r = (kd, n)) (hkd : (kd = 15 ∧ ci = 0) ∨ (kd = 16 ∧ ci = 9)) (hr : r ≠ 0) (hle : r ≤ σ.1) (hx : x ≠ 0) (hxl : x ≤ σ.1) (hxs : (shp x).1 = ci) (hi : vp_in i n) (kk : ∀ σ', σ' = w2 σ r i.toNatClampNeg x → GW l M (pc + 1) lo st σ' kc ks Φ) : GW l M pc lo (.inr x :: .inl i :: .inr r :: st) σ kc ks Φ := by
  intro p e R s m args below meth c D ca ad0 ad n0 A H locs ls Q C X G L Y T
  have Y2 := (List.forall_mem_cons.mp (List.forall_mem_cons.mp (List.forall_mem_cons.mp Y.2).2).2).2
  show W p l e R s m args below meth c H locs kc ks Q (F0 m pc ls (vt ad (.inr x) :: .int i :: vt ad (.inr r) :: st.map (vt ad)))
  rw [vt_pos hr, vt_pos hx]
  have he := wl_get (ad := ad) (ca := ca) hr hle
  have hci : ci < 13 := by omega
  have hxe := X.get hx hxs hci hxl
  have hk : 15 ≤ kd ∧ kd < 17 := by omega
  rw [cel_ref hs (by omega) (by omega)] at he
  have hset : (wl ad ca σ).set (r - 1) (ad r, .inl (ca kd, n, .inr (.inr (.inr (.inr (va_up (fun j => ro ad (σ.2.2 r j)) i.toNatClampNeg (some (ad x)))))))) = wl ad ca (w2 σ r i.toNatClampNeg x) :=
    wl_set hr hle rfl (by rw [cel_ref hs (by omega) (by omega), up_w2 hx]) (fun q hq => cel_off2 hq)
  have kq : ∀ (H1 : Heap) (locs1 : List Loc), va_P D vcl (wl ad ca (w2 σ r i.toNatClampNeg x)) H1 → va_D A (wl ad ca (w2 σ r i.toNatClampNeg x)) → va_S A s.heap H1 locs1 → W p l e R s m args below meth c H1 locs1 kc ks Q (F0 m (pc + 1) ls (st.map (vt ad))) := fun H1 locs1 a1 a2 a3 => kk _ rfl p e R s m args below meth c D ca ad0 ad n0 A H1 locs1 ls Q C (X.wd a1 a2 a3 (fun _ _ => rfl) (okm_w2 X.2.2.2.2.2.2 hxl)) G L ⟨Y.1, Y2⟩ T
  rcases hkd with ⟨rfl, rfl⟩ | ⟨rfl, rfl⟩
  · exact va_astq (r := (RX0, TX0, 11)) C.1 C.2.1 X.1 X.2.1 X.2.2.1 X.2.2.2.1 (r - 1) 2 (x - 1) 0 he rfl hxe rfl hi hd (fun H1 locs1 => by rw [hset]; exact kq H1 locs1)
  · exact va_astq (r := (RX9, TX9, 4)) C.1 C.2.1 X.1 X.2.1 X.2.2.1 X.2.2.2.1 (r - 1) 3 (x - 1) 9 he rfl hxe rfl hi hd (fun H1 locs1 => by rw [hset]; exact kq H1 locs1)
theorem gw_objInit {idx r : Nat} (h1 : Cond.methodLink M.y.cls idx Lib.objectInit ∈ gt) (h2 : Cond.instanceMethod Lib.objectInit ∈ gt) (h3 : Cond.code Lib.objectInit ⟨#[0xb1]⟩ 1 none ∈ gt) (hd : decode M.cc pc = .ok (.invokespecial idx, 3)) (hdp : 1 ≤ M.dp) (hst : st.length ≤ 8) (hr : r ≠ 0) (kk : GW l M (pc + 3) lo st σ kc ks Φ) : GW l M pc lo (.inr r :: st) σ kc ks Φ := by
  intro p e R s m args below meth c D ca ad0 ad n0 A H locs ls Q C X G L Y T
  have hts := C.2.2.2.2.1
  have kq := kk p e R s m args below meth c D ca ad0 ad n0 A H locs ls Q C X G L ⟨Y.1, (List.forall_mem_cons.mp Y.2).2⟩ T
  show W p l e R s m args below meth c H locs kc ks Q (F0 m pc ls (vt ad (.inr r) :: st.map (vt ad)))
  rw [vt_pos hr]
  obtain ⟨-, -, -, -, -, -, -, -, hf, hlc, -, -⟩ := id C
  refine W.objInit C.1 C.2.1 C.2.2.2.1 (hts _ h1) (hts _ h2) (hts _ h3) rfl (L.1.trans C.2.2.1.symm) rfl hd (Nat.le_trans hdp hf) ?_ kq
  rw [cat_sum]
  show 2 * 0 + st.length + 12 ≤ R.locals
  omega
end GA
