/-- a class of the world, with its tables -/
def CI (ci : Nat) (C : String) (T : u_T) (N : Nat) (ty0 : Nat → FieldType) : Prop := vcl[ci]? = some (C, T, N) ∧ (∀ w ∈ u_ws C T N, w ∈ gt) ∧ (∀ k, k < N → parseFieldDescriptor (T k).2.2.1 = some (ty0 k)) ∧ (∀ a, a < N → ∀ b, b < N → a ≠ b → (T a).2.1 ≠ (T b).2.1) ∧ nfs.getD ci 0 = N ∧ ci < 13
/-- the field k of class ci, as the class own names it at idx -/
def FA (own : String) (idx ci k : Nat) (b fin : Bool) (ty : FieldType) : Prop := ∃ (C : String) (T : u_T) (N : Nat) (ty0 : Nat → FieldType), CI ci C T N ty0 ∧ k < N ∧ (rms.getD ci 0).testBit k = b ∧ (T k).2.2.2 = fin ∧ ty0 k = ty ∧ (T k).1 = C ∧
  (Cond.fieldLink own idx (T k).1 (T k).2.1 (T k).2.2.1 ∈ gt ∨ ∃ host, Cond.fieldLinkNest own idx (T k).1 (T k).2.1 (T k).2.2.1 host ∈ gn)
section GM
variable {l : Launch} {M : Mth} {pc : Nat} {lo : List (Nat × Av)} {st : List Av} {σ : Sg} {kc ks : Nat} {Φ : Option Av → Sg → Prop}
theorem okm_w1 {r k : Nat} {x : Int32} (h : Okm σ) : Okm (w1 σ r k x) := h
theorem okm_w2 {r k x : Nat} (h : Okm σ) (hx : x ≤ σ.1) : Okm (w2 σ r k x) := by
  intro a b
  unfold w2
  dsimp only
  by_cases hq : a = r ∧ b = k
  · rw [if_pos hq]; exact hx
  · rw [if_neg hq]; exact h a b
theorem vt_pos {ad : Nat → Nat} {r : Nat} (h : r ≠ 0) : vt ad (.inr r) = .ref (ad r) := by unfold vt; dsimp only; rw [ro_pos h]; rfl
theorem Wd.nest {D : va_G} {ca : Nat → ClassId} {ad : Nat → Nat} {A : Nat → Prop} {s : State} {H : Heap} {locs : List Loc} (X : Wd D ca ad A s H locs σ) {w : Cond} (hw : w ∈ gn) {args : Array Value} : w.before args s = true := va_Nw.use (gn_tab hw) (X.2.2.2.2.2.1.2.2.2.2.2.1 w hw)
theorem Wd.get {D : va_G} {ca : Nat → ClassId} {ad : Nat → Nat} {A : Nat → Prop} {s : State} {H : Heap} {locs : List Loc} (X : Wd D ca ad A s H locs σ) {r ci : Nat} (hr : r ≠ 0) (hs : (shp r).1 = ci) (hc : ci < 13) (hle : r ≤ σ.1) : (wl ad ca σ)[r - 1]? = some (ad r, .inr (ci, fl ad σ r ci)) := by
  rw [wl_get hr hle, cel_obj hs hc]

theorem gw_getI {idx ci k r : Nat} {fin : Bool} {ty : FieldType} (hf : FA M.y.cls idx ci k false fin ty) (hd : decode M.cc pc = .ok (.getfield idx, 3)) (hr : r ≠ 0) (hs : (shp r).1 = ci) (hle : r ≤ σ.1) (kk : GW l M (pc + 3) lo (.inl (σ.2.1 r k) :: st) σ kc ks Φ) : GW l M pc lo (.inr r :: st) σ kc ks Φ := by
  intro p e R s m args below meth c D ca ad0 ad n0 A H locs ls Q C X G L Y T
  obtain ⟨C0, T0, N, ty0, ⟨h1, h2, h3, h4, h5, h6⟩, hk, hb, -, -, -, hl⟩ := hf
  have he := X.get hr hs h6 hle
  have hv := fl_get (ad := ad) (σ := σ) (r := r) (ci := ci) (k := k) (by rw [h5]; exact hk)
  rw [hb] at hv
  have kq := kk p e R s m args below meth c D ca ad0 ad n0 A H locs ls Q C X G L ⟨Y.1, List.forall_mem_cons.mpr ⟨trivial, (List.forall_mem_cons.mp Y.2).2⟩⟩ T
  show W p l e R s m args below meth c H locs kc ks Q (F0 m pc ls (vt ad (.inr r) :: st.map (vt ad)))
  rw [vt_pos hr]
  rcases hl with hl | ⟨host, hl⟩
  · exact va_get C.1 C.2.1 C.2.2.2.2.1 h2 C.2.2.2.1 X.1 X.2.1 (r - 1) he h1 k hk (C.2.2.2.2.1 _ hl) (fun x h => h) hv hd kq
  · exact va_getN C.1 C.2.1 C.2.2.2.2.1 h2 C.2.2.2.1 X.1 X.2.1 (r - 1) he h1 k hk (X.nest hl) (fun x h => h) hv hd kq

theorem gw_getR {idx ci k r : Nat} {fin : Bool} {ty : FieldType} (hf : FA M.y.cls idx ci k true fin ty) (hd : decode M.cc pc = .ok (.getfield idx, 3)) (hr : r ≠ 0) (hs : (shp r).1 = ci) (hle : r ≤ σ.1) (kk : GW l M (pc + 3) lo (.inr (σ.2.2 r k) :: st) σ kc ks Φ) : GW l M pc lo (.inr r :: st) σ kc ks Φ := by
  intro p e R s m args below meth c D ca ad0 ad n0 A H locs ls Q C X G L Y T
  obtain ⟨C0, T0, N, ty0, ⟨h1, h2, h3, h4, h5, h6⟩, hk, hb, -, -, -, hl⟩ := hf
  have he := X.get hr hs h6 hle
  have hv := fl_get (ad := ad) (σ := σ) (r := r) (ci := ci) (k := k) (by rw [h5]; exact hk)
  rw [hb] at hv
  have kq := kk p e R s m args below meth c D ca ad0 ad n0 A H locs ls Q C X G L ⟨Y.1, List.forall_mem_cons.mpr ⟨Or.inl (X.2.2.2.2.2.2 r k), (List.forall_mem_cons.mp Y.2).2⟩⟩ T
  show W p l e R s m args below meth c H locs kc ks Q (F0 m pc ls (vt ad (.inr r) :: st.map (vt ad)))
  rw [vt_pos hr]
  rcases hl with hl | ⟨host, hl⟩
  · exact va_get C.1 C.2.1 C.2.2.2.2.1 h2 C.2.2.2.1 X.1 X.2.1 (r - 1) he h1 k hk (C.2.2.2.2.1 _ hl) (fun x h => h) hv hd kq
  · exact va_getN C.1 C.2.1 C.2.2.2.2.1 h2 C.2.2.2.1 X.1 X.2.1 (r - 1) he h1 k hk (X.nest hl) (fun x h => h) hv hd kq

theorem gw_putI {idx ci k r : Nat} {ty : FieldType} {x : Int32} (hf : FA M.y.cls idx ci k false false ty) (hd : decode M.cc pc = .ok (.putfield idx, 3)) (hn : narrow ty (.int x) = .int x) (hft : fits ty (.int x) = true) (hr : r ≠ 0) (hs : (shp r).1 = ci) (hle : r ≤ σ.1) (kk : GW l M (pc + 3) lo st (w1 σ r k x) kc ks Φ) : GW l M pc lo ((.inl x) :: .inr r :: st) σ kc ks Φ := by
  intro p e R s m args below meth c D ca ad0 ad n0 A H locs ls Q C X G L Y T
  obtain ⟨C0, T0, N, ty0, ⟨h1, h2, h3, h4, h5, h6⟩, hk, hb, hfi, hty, hC, hl⟩ := hf
  have he := X.get hr hs h6 hle
  have Y2 := List.forall_mem_cons.mp Y.2
  have Y3 := List.forall_mem_cons.mp Y2.2
  show W p l e R s m args below meth c H locs kc ks Q (F0 m pc ls (vt ad (.inl x) :: vt ad (.inr r) :: st.map (vt ad)))
  rw [vt_pos hr]
  have hset : (wl ad ca σ).set (r - 1) (ad r, .inr (ci, (fl ad σ r ci).set k (vt ad (.inl x)))) = wl ad ca (w1 σ r k x) :=
    wl_set hr hle rfl (by rw [cel_obj hs h6]; congr 2; exact (fl_set1 hb).symm) (fun q hq => cel_off1 hq)
  have hkl : k < (fl ad σ r ci).length := by rw [fl_len, h5]; exact hk
  have hpd : parseFieldDescriptor (T0 k).2.2.1 = some ty := by rw [h3 k hk, hty]
  have kq : ∀ (H1 : Heap) (locs1 : List Loc), va_P D vcl (wl ad ca (w1 σ r k x)) H1 → va_D A (wl ad ca (w1 σ r k x)) → va_S A s.heap H1 locs1 → W p l e R s m args below meth c H1 locs1 kc ks Q (F0 m (pc + 3) ls (st.map (vt ad))) := fun H1 locs1 a1 a2 a3 => kk p e R s m args below meth c D ca ad0 ad n0 A H1 locs1 ls Q C (X.wd a1 a2 a3 (fun _ _ => rfl) X.2.2.2.2.2.2) G L ⟨Y.1, Y3.2⟩ T
  rcases hl with hl | ⟨host, hl⟩
  · exact va_put C.1 C.2.1 C.2.2.2.2.1 h2 ty0 h3 h4 C.2.2.2.1 X.1 X.2.1 X.2.2.1 X.2.2.2.1 (r - 1) he h1 k hk (C.2.2.2.2.1 _ hl) (fun x h => h) hfi hpd hn hft hkl hd (fun H1 locs1 => by rw [hset]; exact kq H1 locs1)
  · exact va_putN C.1 C.2.1 C.2.2.2.2.1 h2 ty0 h3 h4 C.2.2.2.1 X.1 X.2.1 X.2.2.1 X.2.2.2.1 (r - 1) he h1 k hk (X.nest hl) (fun x h => h) hfi hpd hn hft hkl hd (fun H1 locs1 => by rw [hset]; exact kq H1 locs1)

theorem gw_putR {idx ci k r : Nat} {ty : FieldType} {x : Nat} (hf : FA M.y.cls idx ci k true false ty) (hd : decode M.cc pc = .ok (.putfield idx, 3)) (hxv : x ≤ σ.1) (hrt : (∃ n, ty = .object n) ∨ ∃ t, ty = .array t) (hr : r ≠ 0) (hs : (shp r).1 = ci) (hle : r ≤ σ.1) (kk : GW l M (pc + 3) lo st (w2 σ r k x) kc ks Φ) : GW l M pc lo ((.inr x) :: .inr r :: st) σ kc ks Φ := by
  intro p e R s m args below meth c D ca ad0 ad n0 A H locs ls Q C X G L Y T
  obtain ⟨C0, T0, N, ty0, ⟨h1, h2, h3, h4, h5, h6⟩, hk, hb, hfi, hty, hC, hl⟩ := hf
  have he := X.get hr hs h6 hle
  have Y2 := List.forall_mem_cons.mp Y.2
  have Y3 := List.forall_mem_cons.mp Y2.2
  show W p l e R s m args below meth c H locs kc ks Q (F0 m pc ls (vt ad (.inr x) :: vt ad (.inr r) :: st.map (vt ad)))
  rw [vt_pos hr]
  have hset : (wl ad ca σ).set (r - 1) (ad r, .inr (ci, (fl ad σ r ci).set k (vt ad (.inr x)))) = wl ad ca (w2 σ r k x) :=
    wl_set hr hle rfl (by rw [cel_obj hs h6]; congr 2; exact (fl_set2 hb).symm) (fun q hq => cel_off2 hq)
  have hkl : k < (fl ad σ r ci).length := by rw [fl_len, h5]; exact hk
  have hpd : parseFieldDescriptor (T0 k).2.2.1 = some ty := by rw [h3 k hk, hty]
  have hnf : narrow ty (vt ad (.inr x)) = vt ad (.inr x) ∧ fits ty (vt ad (.inr x)) = true := by
    unfold vt ro va_rf
    by_cases hx : x = 0
    · rcases hrt with ⟨n, rfl⟩ | ⟨t, rfl⟩ <;> simp [hx] <;> exact ⟨rfl, rfl⟩
    · rcases hrt with ⟨n, rfl⟩ | ⟨t, rfl⟩ <;> simp [hx] <;> exact ⟨rfl, rfl⟩
  have kq : ∀ (H1 : Heap) (locs1 : List Loc), va_P D vcl (wl ad ca (w2 σ r k x)) H1 → va_D A (wl ad ca (w2 σ r k x)) → va_S A s.heap H1 locs1 → W p l e R s m args below meth c H1 locs1 kc ks Q (F0 m (pc + 3) ls (st.map (vt ad))) := fun H1 locs1 a1 a2 a3 => kk p e R s m args below meth c D ca ad0 ad n0 A H1 locs1 ls Q C (X.wd a1 a2 a3 (fun _ _ => rfl) (okm_w2 X.2.2.2.2.2.2 hxv)) G L ⟨Y.1, Y3.2⟩ T
  rcases hl with hl | ⟨host, hl⟩
  · exact va_put C.1 C.2.1 C.2.2.2.2.1 h2 ty0 h3 h4 C.2.2.2.1 X.1 X.2.1 X.2.2.1 X.2.2.2.1 (r - 1) he h1 k hk (C.2.2.2.2.1 _ hl) (fun x h => h) hfi hpd hnf.1 hnf.2 hkl hd (fun H1 locs1 => by rw [hset]; exact kq H1 locs1)
  · exact va_putN C.1 C.2.1 C.2.2.2.2.1 h2 ty0 h3 h4 C.2.2.2.1 X.1 X.2.1 X.2.2.1 X.2.2.2.1 (r - 1) he h1 k hk (X.nest hl) (fun x h => h) hfi hpd hnf.1 hnf.2 hkl hd (fun H1 locs1 => by rw [hset]; exact kq H1 locs1)

theorem gw_putRF {idx ci k r : Nat} {ty : FieldType} {x : Nat} (hf : FA M.y.cls idx ci k true true ty) (hd : decode M.cc pc = .ok (.putfield idx, 3)) (hxv : x ≤ σ.1) (hrt : (∃ n, ty = .object n) ∨ ∃ t, ty = .array t) (hin : M.y.name = "<init>") (hown : (vcl.getD ci ("", fun _ => ("", "", "", false), 0)).1 = M.y.cls) (hlk : ∀ C T N, vcl[ci]? = some (C, T, N) → Cond.fieldLink M.y.cls idx (T k).1 (T k).2.1 (T k).2.2.1 ∈ gt) (hr : r ≠ 0) (hs : (shp r).1 = ci) (hle : r ≤ σ.1) (kk : GW l M (pc + 3) lo st (w2 σ r k x) kc ks Φ) : GW l M pc lo ((.inr x) :: .inr r :: st) σ kc ks Φ := by
  intro p e R s m args below meth c D ca ad0 ad n0 A H locs ls Q C X G L Y T
  obtain ⟨C0, T0, N, ty0, ⟨h1, h2, h3, h4, h5, h6⟩, hk, hb, hfi, hty, hC, hl⟩ := hf
  have he := X.get hr hs h6 hle
  have Y2 := List.forall_mem_cons.mp Y.2
  have Y3 := List.forall_mem_cons.mp Y2.2
  show W p l e R s m args below meth c H locs kc ks Q (F0 m pc ls (vt ad (.inr x) :: vt ad (.inr r) :: st.map (vt ad)))
  rw [vt_pos hr]
  have hset : (wl ad ca σ).set (r - 1) (ad r, .inr (ci, (fl ad σ r ci).set k (vt ad (.inr x)))) = wl ad ca (w2 σ r k x) :=
    wl_set hr hle rfl (by rw [cel_obj hs h6]; congr 2; exact (fl_set2 hb).symm) (fun q hq => cel_off2 hq)
  have hkl : k < (fl ad σ r ci).length := by rw [fl_len, h5]; exact hk
  have hpd : parseFieldDescriptor (T0 k).2.2.1 = some ty := by rw [h3 k hk, hty]
  have hnf : narrow ty (vt ad (.inr x)) = vt ad (.inr x) ∧ fits ty (vt ad (.inr x)) = true := by
    unfold vt ro va_rf
    by_cases hx : x = 0
    · rcases hrt with ⟨n, rfl⟩ | ⟨t, rfl⟩ <;> simp [hx] <;> exact ⟨rfl, rfl⟩
    · rcases hrt with ⟨n, rfl⟩ | ⟨t, rfl⟩ <;> simp [hx] <;> exact ⟨rfl, rfl⟩
  have hl : Cond.fieldLink M.y.cls idx (T0 k).1 (T0 k).2.1 (T0 k).2.2.1 ∈ gt := hlk C0 T0 N h1
  have hown : C0 = M.y.cls := by rw [← hown, List.getD_eq_getElem?_getD, h1]; rfl
  have kq : ∀ (H1 : Heap) (locs1 : List Loc), va_P D vcl (wl ad ca (w2 σ r k x)) H1 → va_D A (wl ad ca (w2 σ r k x)) → va_S A s.heap H1 locs1 → W p l e R s m args below meth c H1 locs1 kc ks Q (F0 m (pc + 3) ls (st.map (vt ad))) := fun H1 locs1 a1 a2 a3 => kk p e R s m args below meth c D ca ad0 ad n0 A H1 locs1 ls Q C (X.wd a1 a2 a3 (fun _ _ => rfl) (okm_w2 X.2.2.2.2.2.2 hxv)) G L ⟨Y.1, Y3.2⟩ T
  exact va_putF C.1 C.2.1 C.2.2.2.2.1 h2 ty0 h3 h4 C.2.2.2.1 X.1 X.2.1 X.2.2.1 X.2.2.2.1 (r - 1) he h1 k hk (C.2.2.2.2.1 _ hl) (fun x h => h) hfi (C.2.2.2.2.2.2.2.1.trans hin) (hC.trans hown) hpd hnf.1 hnf.2 hkl hd (fun H1 locs1 => by rw [hset]; exact kq H1 locs1)

theorem gw_alen {r n kd : Nat} (hd : decode M.cc pc = .ok (.arraylength, 1)) (hs : shp r = (kd, n)) (hkd : kd = 13 ∨ kd = 14) (hr : r ≠ 0) (hle : r ≤ σ.1) (kk : GW l M (pc + 1) lo (.inl (Int32.ofNat n) :: st) σ kc ks Φ) : GW l M pc lo (.inr r :: st) σ kc ks Φ := by
  intro p e R s m args below meth c D ca ad0 ad n0 A H locs ls Q C X G L Y T
  have kq := kk p e R s m args below meth c D ca ad0 ad n0 A H locs ls Q C X G L ⟨Y.1, List.forall_mem_cons.mpr ⟨trivial, (List.forall_mem_cons.mp Y.2).2⟩⟩ T
  show W p l e R s m args below meth c H locs kc ks Q (F0 m pc ls (vt ad (.inr r) :: st.map (vt ad)))
  rw [vt_pos hr]
  have he := wl_get (ad := ad) (ca := ca) hr hle
  rcases hkd with rfl | rfl
  · rw [cel_int hs] at he
    exact va_alen C.1 C.2.1 X.1 X.2.1 (r - 1) 0 he (ty := .int) rfl rfl hd kq
  · rw [cel_bool hs] at he
    exact va_alen C.1 C.2.1 X.1 X.2.1 (r - 1) 1 he (ty := .boolean) rfl rfl hd kq

theorem gw_iald {r n : Nat} {i : Int32} (hd : decode M.cc pc = .ok (.iaload, 1)) (hs : shp r = (13, n)) (hr : r ≠ 0) (hle : r ≤ σ.1) (hi : vp_in i n) (kk : GW l M (pc + 1) lo (.inl (σ.2.1 r i.toNatClampNeg) :: st) σ kc ks Φ) : GW l M pc lo (.inl i :: .inr r :: st) σ kc ks Φ := by
  intro p e R s m args below meth c D ca ad0 ad n0 A H locs ls Q C X G L Y T
  have kq := kk p e R s m args below meth c D ca ad0 ad n0 A H locs ls Q C X G L ⟨Y.1, List.forall_mem_cons.mpr ⟨trivial, (List.forall_mem_cons.mp (List.forall_mem_cons.mp Y.2).2).2⟩⟩ T
  show W p l e R s m args below meth c H locs kc ks Q (F0 m pc ls (.int i :: vt ad (.inr r) :: st.map (vt ad)))
  rw [vt_pos hr]
  have he := wl_get (ad := ad) (ca := ca) hr hle
  rw [cel_int hs] at he
  exact va_iald C.1 C.2.1 X.1 X.2.1 (r - 1) 0 he rfl hi hd kq

theorem gw_zald {r n : Nat} {i : Int32} (hd : decode M.cc pc = .ok (.baload, 1)) (hs : shp r = (14, n)) (hr : r ≠ 0) (hle : r ≤ σ.1) (hi : vp_in i n) (kk : GW l M (pc + 1) lo (.inl (σ.2.1 r i.toNatClampNeg) :: st) σ kc ks Φ) : GW l M pc lo (.inl i :: .inr r :: st) σ kc ks Φ := by
  intro p e R s m args below meth c D ca ad0 ad n0 A H locs ls Q C X G L Y T
  have kq := kk p e R s m args below meth c D ca ad0 ad n0 A H locs ls Q C X G L ⟨Y.1, List.forall_mem_cons.mpr ⟨trivial, (List.forall_mem_cons.mp (List.forall_mem_cons.mp Y.2).2).2⟩⟩ T
  show W p l e R s m args below meth c H locs kc ks Q (F0 m pc ls (.int i :: vt ad (.inr r) :: st.map (vt ad)))
  rw [vt_pos hr]
  have he := wl_get (ad := ad) (ca := ca) hr hle
  rw [cel_bool hs] at he
  exact va_zald C.1 C.2.1 X.1 X.2.1 (r - 1) 1 he rfl hi hd kq

theorem gw_iast {r n : Nat} {i x : Int32} (hd : decode M.cc pc = .ok (.iastore, 1)) (hs : shp r = (13, n)) (hr : r ≠ 0) (hle : r ≤ σ.1) (hi : vp_in i n) (kk : GW l M (pc + 1) lo st (w1 σ r i.toNatClampNeg x) kc ks Φ) : GW l M pc lo (.inl x :: .inl i :: .inr r :: st) σ kc ks Φ := by
  intro p e R s m args below meth c D ca ad0 ad n0 A H locs ls Q C X G L Y T
  have Y2 := (List.forall_mem_cons.mp (List.forall_mem_cons.mp (List.forall_mem_cons.mp Y.2).2).2).2
  show W p l e R s m args below meth c H locs kc ks Q (F0 m pc ls (.int x :: .int i :: vt ad (.inr r) :: st.map (vt ad)))
  rw [vt_pos hr]
  have he := wl_get (ad := ad) (ca := ca) hr hle
  rw [cel_int hs] at he
  have hset : (wl ad ca σ).set (r - 1) (ad r, .inl (ca 13, n, .inl (upd (σ.2.1 r) i.toNatClampNeg x))) = wl ad ca (w1 σ r i.toNatClampNeg x) :=
    wl_set hr hle rfl (by rw [cel_int hs, upd_w1]) (fun q hq => cel_off1 hq)
  exact va_iast C.1 C.2.1 X.1 X.2.1 X.2.2.1 X.2.2.2.1 (r - 1) 0 he rfl hi hd (fun H1 locs1 => by rw [hset]; exact fun a1 a2 a3 => kk p e R s m args below meth c D ca ad0 ad n0 A H1 locs1 ls Q C (X.wd a1 a2 a3 (fun _ _ => rfl) X.2.2.2.2.2.2) G L ⟨Y.1, Y2⟩ T)

theorem gw_zast {r n : Nat} {i x : Int32} (hd : decode M.cc pc = .ok (.bastore, 1)) (hs : shp r = (14, n)) (hr : r ≠ 0) (hle : r ≤ σ.1) (hi : vp_in i n) (kk : GW l M (pc + 1) lo st (w1 σ r i.toNatClampNeg (vp_nar .boolean x)) kc ks Φ) : GW l M pc lo (.inl x :: .inl i :: .inr r :: st) σ kc ks Φ := by
  intro p e R s m args below meth c D ca ad0 ad n0 A H locs ls Q C X G L Y T
  have Y2 := (List.forall_mem_cons.mp (List.forall_mem_cons.mp (List.forall_mem_cons.mp Y.2).2).2).2
  show W p l e R s m args below meth c H locs kc ks Q (F0 m pc ls (.int x :: .int i :: vt ad (.inr r) :: st.map (vt ad)))
  rw [vt_pos hr]
  have he := wl_get (ad := ad) (ca := ca) hr hle
  rw [cel_bool hs] at he
  have hset : (wl ad ca σ).set (r - 1) (ad r, .inl (ca 14, n, .inl (upd (σ.2.1 r) i.toNatClampNeg (vp_nar .boolean x)))) = wl ad ca (w1 σ r i.toNatClampNeg (vp_nar .boolean x)) :=
    wl_set hr hle rfl (by rw [cel_bool hs, upd_w1]) (fun q hq => cel_off1 hq)
  exact va_zast C.1 C.2.1 X.1 X.2.1 X.2.2.1 X.2.2.2.1 (r - 1) 1 he rfl hi hd (fun H1 locs1 => by rw [hset]; exact fun a1 a2 a3 => kk p e R s m args below meth c D ca ad0 ad n0 A H1 locs1 ls Q C (X.wd a1 a2 a3 (fun _ _ => rfl) X.2.2.2.2.2.2) G L ⟨Y.1, Y2⟩ T)

theorem gw_aald {r n kd : Nat} {i : Int32} (hd : decode M.cc pc = .ok (.aaload, 1)) (hs : shp r = (kd, n)) (hkd : kd = 15 ∨ kd = 16) (hr : r ≠ 0) (hle : r ≤ σ.1) (hi : vp_in i n) (kk : GW l M (pc + 1) lo (.inr (σ.2.2 r i.toNatClampNeg) :: st) σ kc ks Φ) : GW l M pc lo (.inl i :: .inr r :: st) σ kc ks Φ := by
  intro p e R s m args below meth c D ca ad0 ad n0 A H locs ls Q C X G L Y T
  have kq := kk p e R s m args below meth c D ca ad0 ad n0 A H locs ls Q C X G L ⟨Y.1, List.forall_mem_cons.mpr ⟨Or.inl (X.2.2.2.2.2.2 r _), (List.forall_mem_cons.mp (List.forall_mem_cons.mp Y.2).2).2⟩⟩ T
  show W p l e R s m args below meth c H locs kc ks Q (F0 m pc ls (.int i :: vt ad (.inr r) :: st.map (vt ad)))
  rw [vt_pos hr]
  have he := wl_get (ad := ad) (ca := ca) hr hle
  rcases hkd with rfl | rfl
  · rw [cel_ref hs (by decide) (by decide)] at he
    exact va_aldq C.1 C.2.1 X.1 X.2.1 (r - 1) 2 he rfl hi hd kq
  · rw [cel_ref hs (by decide) (by decide)] at he
    exact va_aldq C.1 C.2.1 X.1 X.2.1 (r - 1) 3 he rfl hi hd kq

theorem gw_getX {idx : Nat} (hw : Cond.fieldLink M.y.cls idx "LedArms" "X" "[I" ∈ gt ∨ ∃ host, Cond.fieldLinkNest M.y.cls idx "LedArms" "X" "[I" host ∈ gn) (hd : decode M.cc pc = .ok (.getstatic idx, 3)) (kk : GW l M (pc + 3) lo (.inr 2000000 :: st) σ kc ks Φ) : GW l M pc lo st σ kc ks Φ := by
  intro p e R s m args below meth c D ca ad0 ad n0 A H locs ls Q C X G L Y T
  have kq := kk p e R s m args below meth c D ca ad0 ad n0 A H locs ls Q C X G L ⟨Y.1, List.forall_mem_cons.mpr ⟨Or.inr (by omega), Y.2⟩⟩ T
  have hx : vt ad (.inr 2000000) = .ref (ad 2000000) := vt_pos (by omega)
  rw [List.map_cons, hx] at kq
  rcases hw with hw | ⟨host, hw⟩
  · exact va_gets C.1 C.2.1 X.2.2.2.2.2.1.1 X.2.2.2.1 C.2.2.2.1 (C.2.2.2.2.1 _ hw) (fun x h => h) hd kq
  · exact va_getsN C.1 C.2.1 X.2.2.2.2.2.1.1 X.2.2.2.1 C.2.2.2.1 (X.nest hw) (fun x h => h) hd kq
theorem gw_Xald {i : Int32} (hd : decode M.cc pc = .ok (.iaload, 1)) (hi : vp_in i 16) (kk : GW l M (pc + 1) lo (.inl (xtab.getD i.toNatClampNeg 0) :: st) σ kc ks Φ) : GW l M pc lo (.inl i :: .inr 2000000 :: st) σ kc ks Φ := by
  intro p e R s m args below meth c D ca ad0 ad n0 A H locs ls Q C X G L Y T
  have kq := kk p e R s m args below meth c D ca ad0 ad n0 A H locs ls Q C X G L ⟨Y.1, List.forall_mem_cons.mpr ⟨trivial, (List.forall_mem_cons.mp (List.forall_mem_cons.mp Y.2).2).2⟩⟩ T
  show W p l e R s m args below meth c H locs kc ks Q (F0 m pc ls (.int i :: vt ad (.inr 2000000) :: st.map (vt ad)))
  rw [vt_pos (by omega)]
  exact va_ti C.1 C.2.1 X.2.2.2.2.2.1.2.1 X.2.2.2.1 hi rfl hd kq
end GM
