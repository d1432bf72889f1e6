section GT
variable {l : Launch} {M : Mth} {pc : Nat} {lo : List (Nat × Av)} {st : List Av} {σ : Sg} {kc ks : Nat} {Φ : Option Av → Sg → Prop}
def PI (K : Int32 → Sg → Prop) : Option Av → Sg → Prop := fun q σ => ∃ x, q = some (.inl x) ∧ K x σ
def PR (K : Nat → Sg → Prop) : Option Av → Sg → Prop := fun q σ => ∃ x, q = some (.inr x) ∧ K x σ
def PV (K : Sg → Prop) : Option Av → Sg → Prop := fun q σ => q = none ∧ K σ
/-- r is an object of class ci -/
def Ob (σ : Sg) (r ci : Nat) : Prop := r ≠ 0 ∧ (shp r).1 = ci ∧ r ≤ σ.1
/-- r is an array (13: of ints, 14: of booleans, 15, 16: of references), and i one of its places -/
def Ai (σ : Sg) (r : Nat) (i : Int32) : Prop := r ≠ 0 ∧ (shp r).1 = 13 ∧ r ≤ σ.1 ∧ vp_in i (shp r).2
def Az (σ : Sg) (r : Nat) (i : Int32) : Prop := r ≠ 0 ∧ (shp r).1 = 14 ∧ r ≤ σ.1 ∧ vp_in i (shp r).2
def Aq (σ : Sg) (r : Nat) (i : Int32) : Prop := r ≠ 0 ∧ ((shp r).1 = 15 ∨ (shp r).1 = 16) ∧ r ≤ σ.1 ∧ vp_in i (shp r).2
def Al (σ : Sg) (r : Nat) : Prop := r ≠ 0 ∧ ((shp r).1 = 13 ∨ (shp r).1 = 14) ∧ r ≤ σ.1
theorem pick_mem {lo lo' : List (Nat × Av)} (ks : List Nat) (h : ks.filterMap (fun k => lo[k]?) = lo') : ∀ q ∈ lo', q ∈ lo := by
  intro q hq
  subst h
  obtain ⟨i, -, hi⟩ := List.mem_filterMap.mp hq
  exact List.mem_of_getElem? hi
theorem gw_pick {lo' : List (Nat × Av)} (js : List Nat) (h : js.filterMap (fun k => lo[k]?) = lo') (k : GW l M pc lo' st σ kc ks Φ) : GW l M pc lo st σ kc ks Φ := gw_sub (pick_mem js h) k
theorem gw_inc {lo' : List (Nat × Av)} {i q : Nat} {n : Int} {x c : Int32} (hd : decode M.cc pc = .ok (.iinc i n, 3)) (hc : Int32.ofInt n = c) (hl : lo[q]? = some (i, .inl x)) (hn : i < M.nL) (hlo : sto lo i (.inl (x + c)) = lo') (k : GW l M (pc + 3) lo' st σ kc ks Φ) : GW l M pc lo st σ kc ks Φ :=
  gw_iinc hd hl (by rw [hc]) hn hlo k
theorem gw_gI {idx ci k r : Nat} {fin : Bool} {ty : FieldType} (hf : FA M.y.cls idx ci k false fin ty) (hd : decode M.cc pc = .ok (.getfield idx, 3)) (g : Ob σ r ci) (kk : GW l M (pc + 3) lo (.inl (σ.2.1 r k) :: st) σ kc ks Φ) : GW l M pc lo (.inr r :: st) σ kc ks Φ := gw_getI hf hd g.1 g.2.1 g.2.2 kk
theorem gw_gR {idx ci k r : Nat} {fin : Bool} {ty : FieldType} (hf : FA M.y.cls idx ci k true fin ty) (hd : decode M.cc pc = .ok (.getfield idx, 3)) (g : Ob σ r ci) (kk : GW l M (pc + 3) lo (.inr (σ.2.2 r k) :: st) σ kc ks Φ) : GW l M pc lo (.inr r :: st) σ kc ks Φ := gw_getR hf hd g.1 g.2.1 g.2.2 kk
theorem gw_pI {idx ci k r : Nat} {x : Int32} (hf : FA M.y.cls idx ci k false false .int) (hd : decode M.cc pc = .ok (.putfield idx, 3)) (g : Ob σ r ci) (kk : ∀ σ', σ' = w1 σ r k x → GW l M (pc + 3) lo st σ' kc ks Φ) : GW l M pc lo (.inl x :: .inr r :: st) σ kc ks Φ := gw_putI hf hd rfl rfl g.1 g.2.1 g.2.2 (kk _ rfl)
theorem nar_z {x : Int32} (hx : x = 0 ∨ x = 1) : narrow .boolean (.int x) = .int x ∧ fits .boolean (.int x) = true := by
  rcases hx with rfl | rfl
  · exact ⟨rfl, rfl⟩
  · exact ⟨rfl, rfl⟩
theorem gw_pZ {idx ci k r : Nat} {x : Int32} (hf : FA M.y.cls idx ci k false false .boolean) (hd : decode M.cc pc = .ok (.putfield idx, 3)) (hx : x = 0 ∨ x = 1) (g : Ob σ r ci) (kk : ∀ σ', σ' = w1 σ r k x → GW l M (pc + 3) lo st σ' kc ks Φ) : GW l M pc lo (.inl x :: .inr r :: st) σ kc ks Φ := gw_putI hf hd (nar_z hx).1 (nar_z hx).2 g.1 g.2.1 g.2.2 (kk _ rfl)
theorem gw_pR {idx ci k r x : Nat} {n : String} (hf : FA M.y.cls idx ci k true false (.object n)) (hd : decode M.cc pc = .ok (.putfield idx, 3)) (hx : x ≤ σ.1) (g : Ob σ r ci) (kk : ∀ σ', σ' = w2 σ r k x → GW l M (pc + 3) lo st σ' kc ks Φ) : GW l M pc lo (.inr x :: .inr r :: st) σ kc ks Φ := gw_putR hf hd hx (Or.inl ⟨_, rfl⟩) g.1 g.2.1 g.2.2 (kk _ rfl)
theorem gw_pRF {idx ci k r x : Nat} {ty : FieldType} (hf : FA M.y.cls idx ci k true true ty) (hrt : (∃ n, ty = .object n) ∨ ∃ t, ty = .array t) (hin : M.y.name = "<init>") (hown : (vcl.getD ci ("", fun _ => ("", "", "", false), 0)).1 = M.y.cls) (hlk : ∀ C T N, vcl[ci]? = some (C, T, N) → Cond.fieldLink M.y.cls idx (T k).1 (T k).2.1 (T k).2.2.1 ∈ gt) (hd : decode M.cc pc = .ok (.putfield idx, 3)) (hx : x ≤ σ.1) (g : Ob σ r ci) (kk : ∀ σ', σ' = w2 σ r k x → GW l M (pc + 3) lo st σ' kc ks Φ) : GW l M pc lo (.inr x :: .inr r :: st) σ kc ks Φ := gw_putRF hf hd hx hrt hin hown hlk g.1 g.2.1 g.2.2 (kk _ rfl)
theorem Ob.up {σ' : Sg} {r ci : Nat} (g : Ob σ r ci) (h : σ.1 ≤ σ'.1) : Ob σ' r ci := ⟨g.1, g.2.1, Nat.le_trans g.2.2 h⟩
theorem Ai.up {σ' : Sg} {r : Nat} {i : Int32} (g : Ai σ r i) (h : σ.1 ≤ σ'.1) : Ai σ' r i := ⟨g.1, g.2.1, Nat.le_trans g.2.2.1 h, g.2.2.2⟩
theorem Az.up {σ' : Sg} {r : Nat} {i : Int32} (g : Az σ r i) (h : σ.1 ≤ σ'.1) : Az σ' r i := ⟨g.1, g.2.1, Nat.le_trans g.2.2.1 h, g.2.2.2⟩
theorem Aq.up {σ' : Sg} {r : Nat} {i : Int32} (g : Aq σ r i) (h : σ.1 ≤ σ'.1) : Aq σ' r i := ⟨g.1, g.2.1, Nat.le_trans g.2.2.1 h, g.2.2.2⟩
theorem Al.up {σ' : Sg} {r : Nat} (g : Al σ r) (h : σ.1 ≤ σ'.1) : Al σ' r := ⟨g.1, g.2.1, Nat.le_trans g.2.2 h⟩
theorem n_w1 {σ' : Sg} {r k : Nat} {x : Int32} (h : σ' = w1 σ r k x) : σ.1 ≤ σ'.1 := by subst h; exact Nat.le_refl _
theorem n_w2 {σ' : Sg} {r k x : Nat} (h : σ' = w2 σ r k x) : σ.1 ≤ σ'.1 := by subst h; exact Nat.le_refl _
theorem n_nw {σ' : Sg} (h : σ' = nw σ) : σ.1 ≤ σ'.1 := by subst h; exact Nat.le_succ _
theorem shp_pair {r a : Nat} (h : (shp r).1 = a) : shp r = (a, (shp r).2) := by rw [← h]
theorem gw_aI {r : Nat} {i : Int32} (hd : decode M.cc pc = .ok (.iaload, 1)) (g : Ai σ r i) (kk : GW l M (pc + 1) lo (.inl (σ.2.1 r i.toNatClampNeg) :: st) σ kc ks Φ) : GW l M pc lo (.inl i :: .inr r :: st) σ kc ks Φ := gw_iald hd (shp_pair g.2.1) g.1 g.2.2.1 g.2.2.2 kk
theorem gw_aZ {r : Nat} {i : Int32} (hd : decode M.cc pc = .ok (.baload, 1)) (g : Az σ r i) (kk : GW l M (pc + 1) lo (.inl (σ.2.1 r i.toNatClampNeg) :: st) σ kc ks Φ) : GW l M pc lo (.inl i :: .inr r :: st) σ kc ks Φ := gw_zald hd (shp_pair g.2.1) g.1 g.2.2.1 g.2.2.2 kk
theorem gw_aR {r : Nat} {i : Int32} (hd : decode M.cc pc = .ok (.aaload, 1)) (g : Aq σ r i) (kk : GW l M (pc + 1) lo (.inr (σ.2.2 r i.toNatClampNeg) :: st) σ kc ks Φ) : GW l M pc lo (.inl i :: .inr r :: st) σ kc ks Φ := gw_aald hd (kd := (shp r).1) rfl g.2.1 g.1 g.2.2.1 g.2.2.2 kk
theorem gw_sI {r : Nat} {i x : Int32} (hd : decode M.cc pc = .ok (.iastore, 1)) (g : Ai σ r i) (kk : ∀ σ', σ' = w1 σ r i.toNatClampNeg x → GW l M (pc + 1) lo st σ' kc ks Φ) : GW l M pc lo (.inl x :: .inl i :: .inr r :: st) σ kc ks Φ := gw_iast hd (shp_pair g.2.1) g.1 g.2.2.1 g.2.2.2 (kk _ rfl)
theorem gw_sZ {r : Nat} {i x : Int32} (hd : decode M.cc pc = .ok (.bastore, 1)) (hx : x = 0 ∨ x = 1) (g : Az σ r i) (kk : ∀ σ', σ' = w1 σ r i.toNatClampNeg x → GW l M (pc + 1) lo st σ' kc ks Φ) : GW l M pc lo (.inl x :: .inl i :: .inr r :: st) σ kc ks Φ := by
  refine gw_zast hd (shp_pair g.2.1) g.1 g.2.2.1 g.2.2.2 ?_
  rw [show vp_nar .boolean x = x by rcases hx with rfl | rfl <;> rfl]
  exact kk _ rfl
theorem gw_aL {r : Nat} (hd : decode M.cc pc = .ok (.arraylength, 1)) (g : Al σ r) (kk : GW l M (pc + 1) lo (.inl (Int32.ofNat (shp r).2) :: st) σ kc ks Φ) : GW l M pc lo (.inr r :: st) σ kc ks Φ := gw_alen hd (kd := (shp r).1) rfl g.2.1 g.1 g.2.2 kk
theorem gw_rI {v : Int32} {K : Int32 → Sg → Prop} (hd : decode M.cc pc = .ok (.ireturn, 1)) (hty : M.rt = some .int) (hk : kc ≤ M.mc) (hs : ks ≤ M.ms) (h : K v σ) : GW l M pc lo [.inl v] σ kc ks (PI K) := gw_iret .int hd hty rfl hk hs ⟨v, rfl, h⟩
theorem gw_rZ {v : Int32} {K : Int32 → Sg → Prop} (hd : decode M.cc pc = .ok (.ireturn, 1)) (hty : M.rt = some .boolean) (hv : v = 0 ∨ v = 1) (hk : kc ≤ M.mc) (hs : ks ≤ M.ms) (h : K v σ) : GW l M pc lo [.inl v] σ kc ks (PI K) := gw_iret .boolean hd hty (nar_z hv).1 hk hs ⟨v, rfl, h⟩
theorem gw_rR {v : Nat} {K : Nat → Sg → Prop} {n : String} (hd : decode M.cc pc = .ok (.areturn, 1)) (hty : M.rt = some (.object n)) (hk : kc ≤ M.mc) (hs : ks ≤ M.ms) (h : K v σ) : GW l M pc lo [.inr v] σ kc ks (PR K) := gw_aret hd ⟨_, hty, Or.inl ⟨n, rfl⟩⟩ hk hs ⟨v, rfl, h⟩
theorem gw_rV {K : Sg → Prop} (hd : decode M.cc pc = .ok (.return_, 1)) (hty : M.rt = none) (hk : kc ≤ M.mc) (hs : ks ≤ M.ms) (h : K σ) : GW l M pc lo [] σ kc ks (PV K) := gw_ret ⟨hty, hd⟩ hk hs ⟨rfl, h⟩
theorem gw_tab {dflt lw hi : Int} {offs : Array Int} {len : Nat} {x : Int32} (hd : decode M.cc pc = .ok (.tableswitch dflt lw hi offs, len)) (hsz : hi + 1 = lw + offs.size)
    (h1 : x.toInt < lw ∨ hi < x.toInt → ∃ tgt : Nat, (pc : Int) + dflt = (tgt : Int) ∧ GW l M tgt lo st σ kc ks Φ) (h2 : ∀ k : Nat, k < offs.size → x.toInt = lw + k → ∃ (off : Int) (tgt : Nat), offs[k]? = some off ∧ (pc : Int) + off = (tgt : Int) ∧ GW l M tgt lo st σ kc ks Φ) : GW l M pc lo (.inl x :: st) σ kc ks Φ := by
  by_cases h : x.toInt < lw ∨ hi < x.toInt
  · obtain ⟨tgt, ht, hg⟩ := h1 h
    exact gw_tabOut hd h ht hg
  · have ha : ¬ x.toInt < lw := fun q => h (Or.inl q)
    have hb : ¬ hi < x.toInt := fun q => h (Or.inr q)
    obtain ⟨off, tgt, ho, ht, hg⟩ := h2 (x.toInt - lw).toNat (by omega) (by omega)
    exact gw_tabIn hd ha hb ho ht hg
def kcs (a b c d : Nat) (M g : Mth) : Prop := g.dp + 1 ≤ M.dp ∧ a + g.mc = c ∧ b + g.ms = d ∧ c ≤ M.mc ∧ d ≤ M.ms
theorem gw_vC {g : Mth} {n ci idx r kc' ks' : Nat} {bs st0 : List Av} {Ψ : Option Av → Sg → Prop} (hv : VM g n ci) (hl : MLy M.y.cls idx g.y) (hd : decode M.cc pc = .ok (.invokevirtual idx, 3)) (hR : kcs kc ks kc' ks' M g) (hst : st.length ≤ 8) (hn : bs.length = n) (e : bs.reverse ++ .inr r :: st = st0) (ob : Ob σ r ci) (h : Con l g (.inr r :: bs) σ Ψ) (kk : ∀ q σ', Ψ q σ' → σ.1 ≤ σ'.1 → GW l M (pc + 3) lo (q.toList ++ st) σ' kc' ks' Φ) : GW l M pc lo st0 σ kc ks Φ := by
  obtain ⟨h1, h2, h3, ⟨T0, N, h4⟩, h5, h6⟩ := hv
  obtain ⟨r1, rfl, rfl, r4, r5⟩ := hR
  subst hn
  subst e
  exact gw_callV h1 hl h2 h3 hd ⟨r1, h6⟩ ⟨r4, r5⟩ hst ob.1 ob.2.2 ob.2.1 h4 h5 h kk
theorem gw_sC {g : Mth} {n idx kc' ks' : Nat} {bs st0 : List Av} {Ψ : Option Av → Sg → Prop} (hv : SM g n) (hl : MLy M.y.cls idx g.y) (hd : decode M.cc pc = .ok (.invokestatic idx, 3)) (hR : kcs kc ks kc' ks' M g) (hst : st.length ≤ 8) (hn : bs.length = n) (e : bs.reverse ++ st = st0) (h : Con l g bs σ Ψ) (kk : ∀ q σ', Ψ q σ' → σ.1 ≤ σ'.1 → GW l M (pc + 3) lo (q.toList ++ st) σ' kc' ks' Φ) : GW l M pc lo st0 σ kc ks Φ := by
  obtain ⟨h1, h2, h6⟩ := hv
  obtain ⟨r1, rfl, rfl, r4, r5⟩ := hR
  subst hn
  subst e
  exact gw_callS h1 hl h2 hd ⟨r1, h6⟩ ⟨r4, r5⟩ hst h kk
theorem gw_iC {g : Mth} {n idx r kc' ks' : Nat} {bs st0 : List Av} {Ψ : Option Av → Sg → Prop} (hv : IM g n) (hl : MLy M.y.cls idx g.y) (hd : decode M.cc pc = .ok (.invokespecial idx, 3)) (hR : kcs kc ks kc' ks' M g) (hst : st.length ≤ 8) (hn : bs.length = n) (e : bs.reverse ++ .inr r :: st = st0) (hr : r ≠ 0) (h : Con l g (.inr r :: bs) σ Ψ) (kk : ∀ q σ', Ψ q σ' → σ.1 ≤ σ'.1 → GW l M (pc + 3) lo (q.toList ++ st) σ' kc' ks' Φ) : GW l M pc lo st0 σ kc ks Φ := by
  obtain ⟨h1, h2, h3, h4, h6⟩ := hv
  obtain ⟨r1, rfl, rfl, r4, r5⟩ := hR
  subst hn
  subst e
  exact gw_callI h1 hl h2 h3 h4 hd ⟨r1, h6⟩ ⟨r4, r5⟩ hst hr h kk
/-- what stands behind a call, by the kind of its answer -/
theorem kI {K : Int32 → Sg → Prop} {kc' ks' : Nat} (h : ∀ x σ', K x σ' → σ.1 ≤ σ'.1 → GW l M pc lo (.inl x :: st) σ' kc' ks' Φ) : ∀ q σ', PI K q σ' → σ.1 ≤ σ'.1 → GW l M pc lo (q.toList ++ st) σ' kc' ks' Φ := by
  intro q σ' ⟨x, hq, hk⟩ hm
  subst hq
  exact h x σ' hk hm
theorem kR {K : Nat → Sg → Prop} {kc' ks' : Nat} (h : ∀ x σ', K x σ' → σ.1 ≤ σ'.1 → GW l M pc lo (.inr x :: st) σ' kc' ks' Φ) : ∀ q σ', PR K q σ' → σ.1 ≤ σ'.1 → GW l M pc lo (q.toList ++ st) σ' kc' ks' Φ := by
  intro q σ' ⟨x, hq, hk⟩ hm
  subst hq
  exact h x σ' hk hm
theorem kV {K : Sg → Prop} {kc' ks' : Nat} (h : ∀ σ', K σ' → σ.1 ≤ σ'.1 → GW l M pc lo st σ' kc' ks' Φ) : ∀ q σ', PV K q σ' → σ.1 ≤ σ'.1 → GW l M pc lo (q.toList ++ st) σ' kc' ks' Φ := by
  intro q σ' ⟨hq, hk⟩ hm
  subst hq
  exact h σ' hk hm
theorem con_PI {g : Mth} {as : List Av} {K K' : Int32 → Sg → Prop} (h : ∀ x σ, K x σ → K' x σ) (k : Con l g as σ (PI K)) : Con l g as σ (PI K') := con_imp (fun r σ hr => hr.elim fun x hx => ⟨x, hx.1, h x σ hx.2⟩) k
theorem con_PR {g : Mth} {as : List Av} {K K' : Nat → Sg → Prop} (h : ∀ x σ, K x σ → K' x σ) (k : Con l g as σ (PR K)) : Con l g as σ (PR K') := con_imp (fun r σ hr => hr.elim fun x hx => ⟨x, hx.1, h x σ hx.2⟩) k
theorem con_PV {g : Mth} {as : List Av} {K K' : Sg → Prop} (h : ∀ σ, K σ → K' σ) (k : Con l g as σ (PV K)) : Con l g as σ (PV K') := con_imp (fun r σ hr => ⟨hr.1, h σ hr.2⟩) k
def ushr (x y : Int32) : Int32 := (x.toUInt32 >>> (y.toUInt32 &&& Int32.toUInt32 31)).toInt32
theorem gw_iushr {x y : Int32} (hd : decode M.cc pc = .ok (.iushr, 1)) (k : GW l M (pc + 1) lo (.inl (ushr x y) :: st) σ kc ks Φ) : GW l M pc lo (.inl y :: .inl x :: st) σ kc ks Φ := by
  intro p e R s m args below meth c D ca ad0 ad n0 A H locs ls Q C X G L Y T
  exact lv_iushr C.1 C.2.1 hd rfl (k p e R s m args below meth c D ca ad0 ad n0 A H locs ls Q C X G L ⟨Y.1, List.forall_mem_cons.mpr ⟨trivial, (List.forall_mem_cons.mp (List.forall_mem_cons.mp Y.2).2).2⟩⟩ T)
theorem gw_ldcw {i : Nat} {v : Int32} (hw : Cond.constant M.y.cls i v ∈ gt) (hd : decode M.cc pc = .ok (.ldc_w i, 3)) (k : GW l M (pc + 3) lo (.inl v :: st) σ kc ks Φ) : GW l M pc lo st σ kc ks Φ := by
  intro p e R s m args below meth c D ca ad0 ad n0 A H locs ls Q C X G L Y T
  exact lv_ldcw C.1 C.2.1 C.2.2.2.1 (C.2.2.2.2.1 _ hw) hd (k p e R s m args below meth c D ca ad0 ad n0 A H locs ls Q C X G L ⟨Y.1, List.forall_mem_cons.mpr ⟨trivial, Y.2⟩⟩ T)
end GT
