/-! the case of look -/
section LKO
variable {sL : Nat} {sx : Nat → Int32} {l : Launch} {M : Mth} {pc : Nat} {lo : List (Nat × Av)} {st : List Av} {σ : Sg} {kc ks : Nat} {Φ : Option Av → Sg → Prop}
/-- a call by a method that needs what a throw needs -/
theorem sw_callT {g : Mth} {as st0 : List Av} {Φ' : Option Av → Sg → Prop}
    (hrun : ∀ (p : Program) (e : Env) (R : Room) (s : State) (m : MethodId) (args : Array Value) (below : List Frame) (meth : Method) (c : Code) (D : va_G) (ca : Nat → ClassId) (ad : Nat → Nat) (A : Nat → Prop) (H : Heap) (locs : List Loc) (ls : Array Slot), Cxs M p R s m args meth c → Wd D ca ad A s H locs σ → ls.size = M.nL → (∀ v ∈ st0, okv σ.1 v) → σ.1 ≤ 1000 → Thr A s s.heap →
      va_Run p l e R s m args below meth c H locs kc ks g.mc g.ms (F0 m pc ls (st0.map (vt ad))) (st.map (vt ad)) (QC D ca ad σ H.size Φ' ((as.map (vt ad)).toArray)) (va_A (wl ad ca σ) H.size))
    (hst : ∀ v ∈ st, v ∈ st0)
    (kk : ∀ r σ', Φ' r σ' → σ.1 ≤ σ'.1 → SW sL sx l M (pc + 3) lo (r.toList ++ st) σ' (kc + g.mc) (ks + g.ms) Φ) : SW sL sx l M pc lo st0 σ kc ks Φ := by
  intro p e R s m args below meth c D ca ad0 ad n0 A H locs ls Q C X G L Y T
  intro T0 hT0 X0
  obtain ⟨v, st₀, t, T', L', h0, X', hL, e1, e2, ⟨⟨r, σ', ad', hv, hΦ, hG', hP', hD', hO', hrv⟩, hz, hk⟩, stp⟩ := hrun p e R s m args below meth c D ca ad A H locs ls C X L.1 Y.2 G.2.2 T.2.2.2.2 T0 hT0 X0
  have hv : v = r.map (vt ad') := by injection hv
  subst hv
  rw [h0] at hz hk
  have hsub := X.sub
  have hS : va_S A s.heap T'.heap (locs ++ L') := by
    refine ⟨Nat.le_trans X.2.2.2.1.1 (by rw [e1]; exact hz), fun q h1 h2 => ?_, fun q hq => ?_⟩
    · rw [e1, hk q (Nat.lt_of_lt_of_le h1 X.2.2.2.1.1) (fun z => h2 (hsub q z))]
      exact X.2.2.2.1.2.1 q h1 h2
    · rcases List.mem_append.mp hq with h | h
      · exact X.2.2.2.1.2.2 q h
      · exact hsub _ (hL q h)
  have X2 : Wd D ca ad' A s T'.heap (locs ++ L') σ' := X.wd (by rw [e1]; exact hP') (hD'.weaken (fun _ _ _ h => hsub _ h)) hS (fun k hk => hG'.1 k (Or.inr hk)) hO'
  have hmn : σ.1 ≤ σ'.1 := hG'.2.1
  have G2 : Ag ad0 n0 ad' σ' := ⟨fun k hk => (hG'.1 k (hk.elim (fun h => Or.inl (Nat.le_trans h G.2.1)) Or.inr)).trans (G.1 k hk), Nat.le_trans G.2.1 hmn, hG'.2.2⟩
  have hlt : lt ad' lo = lt ad lo := by
    unfold lt
    exact List.map_congr_left (fun q hq => by rw [vt_eq hG'.1 (Y.1 q hq)])
  have hstk : st.map (vt ad') = st.map (vt ad) := List.map_congr_left (fun q hq => vt_eq hG'.1 (Y.2 q (hst q hq)))
  have kq := kk r σ' hΦ hmn p e R s m args below meth c D ca ad0 ad' n0 A T'.heap (locs ++ L') ls Q C X2 G2 (by rw [hlt]; exact L) ⟨fun q hq => okv_mono hmn (Y.1 q hq), fun q hq => by
    rcases List.mem_append.mp hq with h | h
    · exact hrv q (by simpa using h)
    · exact okv_mono hmn (Y.2 q (hst q h))⟩ T
  have hmap : (r.toList ++ st).map (vt ad') = (r.map (vt ad')).toList ++ st.map (vt ad) := by
    rw [List.map_append, hstk]
    cases r <;> rfl
  rw [hmap] at kq
  obtain ⟨t2, a1, b1⟩ := kq T' rfl X'
  exact ⟨t2, stp t2 a1, b1⟩
theorem sw_wid {kc' ks' : Nat} (h1 : kc ≤ kc') (h2 : ks ≤ ks') (k : SW sL sx l M pc lo st σ kc' ks' Φ) : SW sL sx l M pc lo st σ kc ks Φ := by
  intro p e R s m args below meth c D ca ad0 ad n0 A H locs ls Q C X G L Y T
  exact W.widen h1 h2 (k p e R s m args below meth c D ca ad0 ad n0 A H locs ls Q C X G L Y T)
theorem sw_argL {i j : Nat} (h0 : lo[0]? = some (0, .inr 3000000)) (h4 : lo[4]? = some (4, .inl (I i))) (d1 : decode cL_law pc = .ok (.aload_n 0, 1)) (d2 : decode cL_law (pc + 1) = .ok (.iload 4, 2)) (d3 : decode cL_law (pc + 3) = .ok (.iconst j, 1)) (d4 : decode cL_law (pc + 4) = .ok (.iadd, 1)) (d5 : decode cL_law (pc + 5) = .ok (.iaload, 1)) (hi : i + 6 ≤ sL) (hL : sL ≤ 3072) (hj : j ≤ 5) (k : SW sL sx l mL_law (pc + 6) lo (.inl (sa sx i j) :: st) σ kc ks Φ) : SW sL sx l mL_law pc lo st σ kc ks Φ := by
  refine sw_aload_n (q := 0) d1 rfl h0 ?_
  refine sw_iload (q := 4) d2 h4 ?_
  refine sw_iconst (v := I j) d3 rfl ?_
  refine sw_iadd d4 ?_
  rw [I_add, show (i : Int) + (j : Int) = ((i + j : Nat) : Int) by omega]
  refine sw_ld d5 ((I_in ⟨by omega, by omega⟩).mpr ⟨by omega, by omega⟩) ?_
  rw [I_cln (by omega)]
  exact k
/-- the answers are compared as longs -/
theorem sw_cmpL {y : Int32} (h3 : lo[3]? = some (3, .inr 119)) (h6 : lo[6]? = some (6, .inl y)) (n9 : 119 ≤ σ.1) (hy : σ.2.1 119 0 = y) (k : SW sL sx l mL_law 658 lo st σ kc ks Φ) : SW sL sx l mL_law 646 lo st σ kc ks Φ := by
  intro p e R s m args below meth c D ca ad0 ad n0 A H locs ls Q C X G L Y T
  have l3 : ls[3]? = some (.val (.ref (ad 119))) := by have k := lt_at L 3 h3; rwa [vt_pos (by decide)] at k
  have l6 : ls[6]? = some (.val (.int y)) := lt_at L 6 h6
  have k2 := k p e R s m args below meth c D ca ad0 ad n0 A H locs ls Q C X G L Y T
  refine lv_aload_n C.1 C.2.1 dL_law_646 rfl l3 ?_
  refine lv_iconst C.1 C.2.1 (v := 0) dL_law_647 ic_0 ?_
  refine va_lald C.1 C.2.1 X.1 X.2.1 118 4 (wl_119 X n9) rfl (i := 0) vp01 dL_law_648 ?_
  refine lv_iload C.1 C.2.1 dL_law_649 l6 ?_
  refine lv_i2l C.1 C.2.1 dL_law_651 rfl ?_
  refine W.lcmp C.1 C.2.1 dL_law_652 ?_
  have z : lg_cmp ((σ.2.1 119 (0 : Int32).toNatClampNeg).toInt64) y.toInt64 = 0 := by
    have z0 : (0 : Int32).toNatClampNeg = 0 := by decide
    rw [z0, hy]
    exact (lg_cmp_eq _ _).mpr rfl
  rw [z]
  exact lv_if_eq C.1 C.2.1 (tgt := 658) dL_law_653 (by decide) (fun _ => k2) (fun q => absurd rfl q)
theorem CR.off {σ' : Sg} {v : Vt} {c : Nat} (h : CR σ v) (hw : WF c v) (hn : σ'.1 = σ.1) (E : ∀ r, r ≠ 119 → Eqc σ σ' r) : CR σ' v := by
  have w0 := hw.1
  obtain ⟨hC, hF, ha, ht, hx, hp⟩ := h
  have cm : ∀ q ∈ cptr, q.1 ≠ 119 := by decide
  have fm : ∀ q ∈ fptr, q.1 ≠ 119 := by decide
  refine ⟨⟨by rw [hn]; exact hC.1, fun q hq => by rw [(E q.1 (cm q hq)).2]; exact hC.2 q hq⟩, ?_, ha.eq (Nat.le_of_eq hn.symm) (by rw [(E 2 (by omega)).1]) (fun r a b => E r (by omega)) rfl rfl, ht.eq (Nat.le_of_eq hn.symm) (by rw [(E 2 (by omega)).1]) (by rw [(E 2 (by omega)).1]) (fun r a b => E r (by omega)) (E 51 (by omega)).2 (E 54 (by omega)).2 rfl rfl (by omega), hx.eq (by rw [(E 45 (by omega)).1]) (E 46 (by omega)).1 (by rw [(E 50 (by omega)).1]) (by rw [(E 50 (by omega)).1]) rfl rfl rfl rfl, hp.eq (E 58 (by omega)).1 (E 1 (by omega)).1 (by rw [(E 69 (by omega)).1]) (E 73 (by omega)).1 rfl rfl rfl rfl rfl rfl⟩
  rcases hF with ⟨f1, f2⟩ | ⟨f1, f2, f3⟩
  · left; rw [(E 1 (by omega)).2, hn]; exact ⟨f1, f2⟩
  · right
    exact ⟨by rw [(E 1 (by omega)).2]; exact f1, ⟨by rw [hn]; exact f2.1, fun q hq => by rw [(E q.1 (fm q hq)).2]; exact f2.2 q hq⟩, fun k hk => by rw [(E 131 (by omega)).2]; exact f3 k hk⟩
theorem Bo.w119 {v : Vt} {c : Nat} {x : Int32} (h : Bo c σ v) : Bo c (w1 σ 119 0 x) v := by
  refine ⟨h.1.off h.2.2 rfl (fun r hr => ⟨w1_r hr, rfl⟩), h.2.1.same (Nat.le_refl _) (fun r a b => ⟨w1_r (by omega), rfl⟩) rfl (fun k _ => by rw [w1_r (by omega)]), h.2.2⟩
/-- what the law's look leaves -/
def LwK (v : Vt) (t i w : Int) (σ : Sg) : Int32 → Sg → Prop := fun x σ' => x = I (tLk v t i w) ∧ ((tLk v t i w = 0 ∧ σ' = w1 σ 119 0 (I (aLk v t i w))) ∨ (tLk v t i w ≠ 0 ∧ σ' = σ))
theorem tLk_r (v : Vt) (t i w : Int) : tLk v t i w = 0 ∨ tLk v t i w = 1 ∨ tLk v t i w = 2 := by
  unfold tLk
  by_cases h : okLk v t i
  · rw [cif_t h]
    by_cases h2 : 0 ≤ w ∧ w ≤ 3
    · rw [cif_t h2]; exact Or.inl rfl
    · rw [cif_f h2]; exact Or.inr (Or.inr rfl)
  · rw [cif_f h]; exact Or.inr (Or.inl rfl)
theorem L_look {v : Vt} {c : Nat} {t i w : Int} (hl : l.stackTraces = false) (h : Bo c σ v) (ht : Rg t) (hi : Rg i) (hr : Rg w) (D : va_G) (ca : Nat → ClassId) (ad : Nat → Nat) (sz : Nat) : Met l yL_look lws (mrm mL_look) (PCx D ca ad [.inr 1, .inl (I t), .inl (I i), .inl (I w), .inr 119] σ sz) (QC D ca ad σ sz (PI (LwK v t i w σ))) 1 6 (va_A (wl ad ca σ) sz) := by
  refine met_look (K := LkK v t i w σ) (Ψ := LkP v t i w σ) (fun D ca ad sz => con_look hl (fun k σ' q => q.2.elim (fun z => Or.inl z.1) (fun z => Or.inr z.1)) (by show 4 ≤ 7; decide) (X_look h.1 h.2.2 ht hi hr) D ca ad sz) h.1.1.1 h.1.1.o1 (fun x σ' _ q => ?_) (fun σ' q => ?_) (fun σ' q => ?_) D ca ad sz
  · obtain ⟨q1, q2, q3⟩ := q
    subst q1; subst q3
    exact ⟨0, rfl, by rw [q2]; rfl, Or.inl ⟨q2, rfl⟩⟩
  · obtain ⟨q1, ⟨_, q2⟩ | ⟨q3, _⟩⟩ := q
    · subst q1
      exact ⟨1, rfl, by rw [q2]; rfl, Or.inr ⟨by rw [q2]; decide, rfl⟩⟩
    · exact absurd q3 (by decide)
  · obtain ⟨q1, ⟨q3, _⟩ | ⟨_, q2⟩⟩ := q
    · exact absurd q3 (by decide)
    · subst q1
      exact ⟨2, rfl, by rw [q2]; rfl, Or.inr ⟨by rw [q2]; decide, rfl⟩⟩
theorem lws_good : GoodIn gt lws := by
  intro w hw
  have hm : w ∈ gt := (List.mem_cons.mp hw).elim (fun e => e ▸ cwL_look) id
  exact ⟨hm, good_of_word (gt_good hm)⟩
def LO5 (i : Nat) (x : Int32) : List (Nat × Av) := [(0, .inr 3000000), (1, .inr 1), (2, .inr 82), (3, .inr 119), (4, .inl (I i)), (5, .inl x)]
def LO6 (i : Nat) (x y : Int32) : List (Nat × Av) := [(0, .inr 3000000), (1, .inr 1), (2, .inr 82), (3, .inr 119), (4, .inl (I i)), (5, .inl x), (6, .inl y)]
theorem LO6_sub (i : Nat) (x y : Int32) : ∀ q ∈ LO i, q ∈ LO6 i x y := by
  intro q hq
  unfold LO at hq
  unfold LO6
  simp only [List.mem_cons, List.not_mem_nil, or_false] at hq ⊢
  rcases hq with h | h | h | h | h
  · exact Or.inl h
  · exact Or.inr (Or.inl h)
  · exact Or.inr (Or.inr (Or.inl h))
  · exact Or.inr (Or.inr (Or.inr (Or.inl h)))
  · exact Or.inr (Or.inr (Or.inr (Or.inr (Or.inl h))))
set_option maxHeartbeats 4000000 in
set_option maxRecDepth 20000 in
theorem look_ok (hl : l.stackTraces = false) : LookOK l sL sx := by
  intro Φ c i kc ks σ v h hc hi hL hk kk
  refine sw_aload_n (q := 1) dL_law_581 rfl rfl ?_
  refine sw_arg (j := 1) dL_law_582 dL_law_583 dL_law_585 dL_law_586 dL_law_587 hi hL (by decide) ?_
  refine sw_arg (j := 2) dL_law_588 dL_law_589 dL_law_591 dL_law_592 dL_law_593 hi hL (by decide) ?_
  refine sw_arg (j := 3) dL_law_594 dL_law_595 dL_law_597 dL_law_598 dL_law_599 hi hL (by decide) ?_
  refine sw_aload_n (q := 3) dL_law_600 rfl rfl ?_
  obtain ⟨z1, e1, r1⟩ := exI (sa sx i 1)
  obtain ⟨z2, e2, r2⟩ := exI (sa sx i 2)
  obtain ⟨z3, e3, r3⟩ := exI (sa sx i 3)
  rw [e1, e2, e3]
  refine sw_callT (g := mL_look) (as := [.inr 1, .inl (I z1), .inl (I z2), .inl (I z3), .inr 119]) (st := []) (Φ' := PI (LwK v z1 z2 z3 σ)) ?_ (fun v hv => absurd hv List.not_mem_nil) (skI (fun x σ1 hx n1 => ?_))
  · intro p e R s m args below meth c9 D ca ad A H locs ls C X hls Y h9 hTh
    have hgt := C.2.2.2.2.1
    have hvs : ∀ q ∈ ([.inr 1, .inl (I z1), .inl (I z2), .inl (I z3), .inr 119] : List Av), okv σ.1 q := fun q hq => Y q (by
      simp only [List.mem_cons, List.not_mem_nil, or_false] at hq ⊢
      rcases hq with h | h | h | h | h
      · exact Or.inr (Or.inr (Or.inr (Or.inr h)))
      · exact Or.inr (Or.inr (Or.inr (Or.inl h)))
      · exact Or.inr (Or.inr (Or.inl h))
      · exact Or.inr (Or.inl h)
      · exact Or.inl h)
    have hpre := X.startX hTh hvs h9 (a := (([.inr 1, .inl (I z1), .inl (I z2), .inl (I z3), .inr 119] : List Av).map (vt ad)).toArray) rfl
    have hPS : PreS s H (PCx D ca ad [.inr 1, .inl (I z1), .inl (I z2), .inl (I z3), .inr 119] σ H.size) (([.inr 1, .inl (I z1), .inl (I z2), .inl (I z3), .inr 119] : List Av).map (vt ad)) := ⟨PCx_blind, hpre⟩
    have hR1 := C.2.2.2.2.2.2.2.2.1
    have hR2 := C.2.2.2.2.2.2.2.2.2.1
    have hR3 := C.2.2.2.2.2.2.2.2.2.2.1
    have hR4 := C.2.2.2.2.2.2.2.2.2.2.2
    have hR1 : 1000 ≤ R.frames := hR1
    have hR2 : 64 * 1000 ≤ R.locals := hR2
    have hR3 : 601024 ≤ R.cells := hR3
    have hR4 : 7293034 ≤ R.slots := hR4
    have hf : kc + 1 ≤ R.cells ∧ ks + 6 ≤ R.slots := ⟨by omega, by omega⟩
    have hrm : (mrm mL_look).frames + 1 ≤ R.frames ∧ 8 + (6 + 11) + (mrm mL_look).locals ≤ R.locals := by
      have q1 : (mrm mL_look).frames = 7 := rfl
      have q2 : (mrm mL_look).locals = 448 := rfl
      rw [q1, q2]
      exact ⟨by omega, by omega⟩
    have hcw : vx_CSW R s args RL 61 yL_look cL_look 6 (some .int) hhL lws (mrm mL_look) 1 6 5 := by
      refine ⟨⟨rfl, rfl, hrm.1, hrm.2, pay_in hgt lws_good, List.mem_cons_self⟩, hgt _ cwL_look, hgt _ inL, ⟨by decide, by decide⟩, fun sig hs => ?_, hgt _ xlL_61, hgt _ stL_look⟩
      have h2 : (parseMethodDescriptor yL_look.desc).map (fun d => d.parameters.length) = some 5 := by decide +kernel
      rw [hs] at h2
      exact (Option.some.inj h2).symm
    exact vx_runSW (Ts := gt) (own := RL) (hh := hhL) ⟨C.1, C.2.1, C.2.2.1, C.2.2.2.1, hgt⟩ (L_look hl h r1 r2 r3 D ca ad H.size) hcw hPS rfl rfl hls rfl (by show 2 * 0 + 0 ≤ 8; decide) dL_law_601 hf
  · obtain ⟨ex, hσ⟩ := hx
    have B1 : Bo c σ1 v := by
      rcases hσ with ⟨_, q⟩ | ⟨_, q⟩
      · rw [q]; exact h.w119
      · rw [q]; exact h
    refine sw_istore (lo' := LO5 i x) dL_law_604 (by decide) rfl ?_
    refine sw_aload_n (q := 2) dL_law_606 rfl rfl ?_
    refine sw_argL (i := i) (j := 1) rfl rfl dL_law_607 dL_law_608 dL_law_610 dL_law_611 dL_law_612 hi hL (by decide) ?_
    refine sw_argL (i := i) (j := 2) rfl rfl dL_law_613 dL_law_614 dL_law_616 dL_law_617 dL_law_618 hi hL (by decide) ?_
    refine sw_argL (i := i) (j := 3) rfl rfl dL_law_619 dL_law_620 dL_law_622 dL_law_623 dL_law_624 hi hL (by decide) ?_
    rw [e1, e2, e3]
    have m1 : kc + mL_look.mc ≤ 601024 := by show kc + 1 ≤ 601024; omega
    have m2 : ks + mL_look.ms ≤ 7293034 := by show ks + 6 ≤ 7293034; omega
    refine sw_vC (bs := [.inl (I z1), .inl (I z2), .inl (I z3)]) (st := []) vmX12_look lL_66 dL_law_625 ⟨by decide, rfl, rfl, m1, m2⟩ (by decide) rfl rfl B1.2.1.1.ob (M_look B1.2.1 B1.2.2 r1 r2 r3) (skI (fun y σ2 ⟨ey, et, h2, f2⟩ n2 => ?_))
    refine sw_istore (lo' := LO6 i x y) dL_law_628 (by decide) rfl ?_
    refine sw_aload_n (q := 2) dL_law_630 rfl rfl ?_
    refine sw_vC (bs := []) (st := []) vmX12_thrown lL_67 dL_law_631 ⟨by decide, rfl, rfl, m1, m2⟩ (by decide) rfl rfl h2.1.ob (eX12_thrown (K := fun q σ' => q = σ2.2.1 82 0 ∧ σ' = σ2) ⟨h2.1.ob, rfl, rfl⟩) (skI (fun u σ3 ⟨eu, e3'⟩ n3 => ?_))
    subst e3'
    refine sw_iload (q := 5) dL_law_634 rfl ?_
    have B2 : Bo (c + 1) σ3 v := ⟨B1.1.mf B1.2.2 f2, h2, B1.2.2.up (Nat.le_succ c) hc⟩
    have last : SW sL sx l mL_law 658 (LO6 i x y) [] σ3 (kc + mL_look.mc) (ks + mL_look.ms) Φ := by
      refine sw_goto (tgt := 1374) dL_law_658 (by decide) ?_
      exact sw_sub (LO6_sub i x y) (sw_wid (by show kc + 1 ≤ kc + 1173; omega) (by show ks + 6 ≤ ks + 13518; omega) (kk σ3 v B2 (Nat.le_trans n1 n2)))
    refine sw_icmp_eq (tgt := 641) dL_law_636 (by decide) (fun _ => ?_) (fun q => absurd (by rw [eu, et, ex]) q)
    refine sw_iload (q := 5) dL_law_641 rfl ?_
    refine sw_if_ne (tgt := 658) dL_law_643 (by decide) (fun _ => last) (fun q => ?_)
    have tz : tLk v z1 z2 z3 = 0 := by
      rw [ex] at q
      rcases tLk_r v z1 z2 z3 with g | g | g
      · exact g
      · rw [g] at q; exact absurd q (by decide)
      · rw [g] at q; exact absurd q (by decide)
    refine sw_cmpL (y := y) rfl rfl ?_ ?_ last
    · exact B2.1.1.1
    · rw [(f2.2 119 (by omega)).1, ey]
      rcases hσ with ⟨_, g⟩ | ⟨g, _⟩
      · rw [g, w1_at]
      · exact absurd tz g
end LKO
