/-! the law's own look: it calls the class's, and catches -/
abbrev mL_look : Mth := (yL_look, cL_look, 6, (some .int), 7, 1, 6)
def lws : List Cond := Cond.codeWith yL_look cL_look 6 (some .int) hhL :: gt
theorem vp01 : vp_in (0 : Int32) 1 := (I_in (z := 0) (n := 1) ⟨by decide, by decide⟩).mpr ⟨by decide, by decide⟩
section LLK
variable {l : Launch} {σ : Sg}
theorem wl_119 {D : va_G} {ca : Nat → ClassId} {ad : Nat → Nat} {A : Nat → Prop} {s : State} {H : Heap} {locs : List Loc} (X : Wd D ca ad A s H locs σ) (h : 119 ≤ σ.1) : (wl ad ca σ)[118]? = some (ad 119, .inl (ca 17, 1, .inr (.inl (fun j => (σ.2.1 119 j).toInt64)))) := by
  have k := wl_get (ad := ad) (ca := ca) (σ := σ) (r := 119) (by decide) h
  rw [cel_long (n := 1) (by decide)] at k
  exact k
theorem wl_119s {ca : Nat → ClassId} {ad : Nat → Nat} {x : Int32} (h : 119 ≤ σ.1) : (wl ad ca σ).set 118 (ad 119, .inl (ca 17, 1, .inr (.inl (vp_updL (fun j => (σ.2.1 119 j).toInt64) (0 : Int32).toNatClampNeg x.toInt64)))) = wl ad ca (w1 σ 119 0 x) := by
  refine wl_set (r := 119) (by decide) h rfl ?_ (fun q hq => cel_off1 hq)
  rw [cel_long (n := 1) (by decide)]
  have e : (fun j => ((w1 σ 119 0 x).2.1 119 j).toInt64) = vp_updL (fun j => (σ.2.1 119 j).toInt64) (0 : Int32).toNatClampNeg x.toInt64 := by
    funext j
    have z : (0 : Int32).toNatClampNeg = 0 := by decide
    unfold vp_updL
    rw [z]
    by_cases hj : j = 0
    · subst hj
      rw [if_pos rfl, w1_at]
    · rw [if_neg hj, w1_k hj]
  rw [e]
set_option maxHeartbeats 4000000 in
set_option maxRecDepth 20000 in
theorem met_look {x1 x2 x3 : Int32} {K : Int32 → Sg → Prop} {Ψ : Nat → Sg → Prop} {Φ' : Option Av → Sg → Prop}
    (hM : ∀ (D : va_G) (ca : Nat → ClassId) (ad : Nat → Nat) (sz : Nat), vx_Met l yX11_look (mws mX11_lookX) (mrm mX11_lookX) (PCx D ca ad [.inr 1, .inl x1, .inl x2, .inl x3] σ sz) (QC D ca ad σ sz (PI K)) (XQ D ca ad σ sz Ψ) 1 6 (va_A (wl ad ca σ) sz))
    (h119 : 119 ≤ σ.1) (ob : Ob σ 1 11) (hr : ∀ x σ', σ.1 ≤ σ'.1 → K x σ' → Φ' (some (.inl 0)) (w1 σ' 119 0 x)) (hx1 : ∀ σ', Ψ 46 σ' → Φ' (some (.inl 1)) σ') (hx2 : ∀ σ', Ψ 65 σ' → Φ' (some (.inl 2)) σ')
    (D : va_G) (ca : Nat → ClassId) (ad : Nat → Nat) (sz : Nat) : Met l yL_look lws (mrm mL_look) (PCx D ca ad [.inr 1, .inl x1, .inl x2, .inl x3, .inr 119] σ sz) (QC D ca ad σ sz Φ') 1 6 (va_A (wl ad ca σ) sz) := by
  refine va_MetW (hh := hhL) (cc := cL_look) (maxL := 6) (ret := some .int) rfl rfl ?_
  intro p e s m args below meth c s₁ B hml hv
  obtain ⟨⟨rfl, hsz, hK, hP, hD0, hSt, hOk, hvs, hσ⟩, hTh⟩ := hv
  have hts := atoms_spec (ws := lws) B.pre
  have hgt : ∀ w ∈ gt, w.before (([.inr 1, .inl x1, .inl x2, .inl x3, .inr 119] : List Av).map (vt ad)).toArray s = true := fun w hw => hts w (List.mem_cons_of_mem _ hw)
  have htab : c.exceptionTable.toList = tableOf hhL := vx_table (x := yL_look) B (hts _ List.mem_cons_self)
  subst hsz
  have hD := hD0.self (sz := s.heap.size)
  have hA : ∀ q : Nat, s.heap.size ≤ q → va_A (wl ad ca σ) s.heap.size q := fun q h => Or.inr h
  have hS : va_S (va_A (wl ad ca σ) s.heap.size) s.heap s.heap [] := va_S.rf
  have X : Wd D ca ad (va_A (wl ad ca σ) s.heap.size) s s.heap [] σ := ⟨hK, hP, hD, hS, hA, hSt, hOk⟩
  have hown : s.vm.findClass RL = some m.cls := findClass_of_methodNamed B.named
  have L0 := ent_has (ad := ad) (as := [.inr 1, .inl x1, .inl x2, .inl x3, .inr 119]) (n := 6) (by show 5 ≤ 6; decide)
  rw [lg_entry_eq]
  generalize (lg_sl (([.inr 1, .inl x1, .inl x2, .inl x3, .inr 119] : List Av).map (vt ad)) ++ List.replicate (6 - (lg_sl (([.inr 1, .inl x1, .inl x2, .inl x3, .inr 119] : List Av).map (vt ad))).length) Slot.unset).toArray = ls at L0 ⊢
  have l0 : ls[0]? = some (.val (.ref (ad 1))) := by have k := lt_at L0 0 (i := 0) (v := .inr 1) rfl; rwa [vt_pos (by decide)] at k
  have l1 : ls[1]? = some (.val (.int x1)) := lt_at L0 1 (i := 1) (v := .inl x1) rfl
  have l2 : ls[2]? = some (.val (.int x2)) := lt_at L0 2 (i := 2) (v := .inl x2) rfl
  have l3 : ls[3]? = some (.val (.int x3)) := lt_at L0 3 (i := 3) (v := .inl x3) rfl
  have l4 : ls[4]? = some (.val (.ref (ad 119))) := by have k := lt_at L0 4 (i := 4) (v := .inr 119) rfl; rwa [vt_pos (by decide)] at k
  have fin : ∀ (k : Int32) (pc : Nat) (ls' : Array Slot) (σ' : Sg) (ad' : Nat → Nat) (H : Heap) (locs : List Loc), decode cL_look pc = .ok (.ireturn, 1) → Wd D ca ad' (va_A (wl ad ca σ) s.heap.size) s H locs σ' → Ag ad σ.1 ad' σ' → Φ' (some (.inl k)) σ' → W p l e (headSpec lws (mrm mL_look)).room s m (([.inr 1, .inl x1, .inl x2, .inl x3, .inr 119] : List Av).map (vt ad)).toArray below meth c H locs 1 6 (MQ below (QC D ca ad σ s.heap.size Φ') (([.inr 1, .inl x1, .inl x2, .inl x3, .inr 119] : List Av).map (vt ad)).toArray s 1 6 (va_A (wl ad ca σ) s.heap.size)) (F0 m pc ls' [.int k]) := by
    intro k pc ls' σ' ad' H locs hd hW hG hΦ
    exact W.zret (ty := .int) B.exec B.bytes B.returns rfl (fun t ht _ => ⟨⟨some (.inl k), σ', ad', rfl, hΦ, hG, by rw [ht]; exact hW.2.1, hW.2.2.1, hW.2.2.2.2.2.2, fun v hv => by injection hv with hv; subst hv; trivial⟩, hW.2.2.2.1.F ht⟩) hW.2.2.2.1.2.2 hd B.notSynchronized
  refine lv_aload B.exec B.bytes dL_look_0 l4 ?_
  refine lv_iconst B.exec B.bytes (v := 0) dL_look_2 ic_0 ?_
  refine lv_aload_n B.exec B.bytes dL_look_3 rfl l0 ?_
  refine lv_iload_n B.exec B.bytes dL_look_4 rfl l1 ?_
  refine lv_iload_n B.exec B.bytes dL_look_5 rfl l2 ?_
  refine lv_iload_n B.exec B.bytes dL_look_6 rfl l3 ?_
  have hB : MB mX11_lookX 3 := mbX11_look
  have hpre := X.startX hTh (as := [.inr 1, .inl x1, .inl x2, .inl x3]) (fun v hv => hvs v (by
    simp only [List.mem_cons, List.not_mem_nil, or_false] at hv ⊢
    rcases hv with h | h | h | h
    · exact Or.inl h
    · exact Or.inr (Or.inl h)
    · exact Or.inr (Or.inr (Or.inl h))
    · exact Or.inr (Or.inr (Or.inr (Or.inl h))))) hσ (a := (Value.ref (ad 1) :: [Value.int x1, Value.int x2, Value.int x3]).toArray) (by
    show _ = (vt ad (.inr 1) :: [Value.int x1, Value.int x2, Value.int x3]).toArray
    rw [vt_pos (by decide)])
  have hrec := va_recv X.1 X.2.1 (q := (RX11, TX11, 12)) (ci := 11) rfl (X.get ob.1 ob.2.1 (by decide) ob.2.2)
  have hPV : PreV s s.heap RX11 (ad 1) (PCx D ca ad [.inr 1, .inl x1, .inl x2, .inl x3] σ s.heap.size) [Value.int x1, Value.int x2, Value.int x3] := ⟨PCx_blind, hrec, hpre⟩
  intro T0 hT0 X0
  rcases vx_runV (Ts := gt) (own := RL) (index := 7) ⟨B.exec, B.bytes, hml, hown, hgt⟩ (hM D ca ad s.heap.size) (C := RX11) (bytes := cX11_look) (maxL := 7) (ret := some .int) (n := 3)
      ⟨callB_of 3 hgt (mws_good mX11_lookX hB.1) rfl rfl rfl (hgt _ hB.2.1) (hgt _ xlL_7) hB.2.2 ⟨by show 6 + 1 ≤ 7; decide, by show 8 + (7 + 11) + 384 ≤ 448; decide⟩, hgt _ imX11_look, hgt _ seX11_look⟩ hPV
      (g := F0 m 7 ls [.int x3, .int x2, .int x1, .ref (ad 1), .int 0, .ref (ad 119)]) (rest := [.int 0, .ref (ad 119)]) rfl rfl L0.1 rfl (by show 2 * 0 + 2 ≤ 8; decide) dL_look_7 ⟨by show 0 + 1 ≤ 1; decide, by show 0 + 6 ≤ 6; decide⟩ T0 hT0 X0 with
    ⟨v, st₀, t, T', L', h0, X', hL, e1, e2, ⟨⟨r, σ', ad', hv, ⟨x, hrx, hKx⟩, hG', hP', hD', hO', hrv⟩, hF⟩, stp⟩ | ⟨q, st₀, t, T', L', E, ce, h0, X', hL, e1, e2, ⟨k, σ', ad', hE, hψ, hG', hP', hD', hO', hF⟩, hce, hcv, hcl, stp⟩
  · have hv : v = r.map (vt ad') := by injection hv
    subst hv
    subst hrx
    have X2 := X.after h0 e1 hL hG' hP' hD' hO' hF
    have n9 : 119 ≤ σ'.1 := Nat.le_trans h119 hG'.2.1
    have a9 : ad' 119 = ad 119 := hG'.1 119 (Or.inl h119)
    have kq : W p l e (headSpec lws (mrm mL_look)).room s m (([.inr 1, .inl x1, .inl x2, .inl x3, .inr 119] : List Av).map (vt ad)).toArray below meth c T'.heap ([] ++ L') (0 + 1) (0 + 6) (MQ below (QC D ca ad σ s.heap.size Φ') (([.inr 1, .inl x1, .inl x2, .inl x3, .inr 119] : List Av).map (vt ad)).toArray s 1 6 (va_A (wl ad ca σ) s.heap.size)) (F0 m 10 ls [.int x, .int 0, .ref (ad 119)]) := by
      refine lv_i2l B.exec B.bytes dL_look_10 rfl ?_
      rw [← a9]
      refine va_last B.exec B.bytes X2.1 X2.2.1 X2.2.2.1 X2.2.2.2.1 118 4 (wl_119 X2 n9) rfl (i := 0) vp01 dL_look_11 (fun H1 locs1 => ?_)
      rw [wl_119s n9]
      intro b1 b2 b3
      have X3 : Wd D ca ad' (va_A (wl ad ca σ) s.heap.size) s H1 locs1 (w1 σ' 119 0 x) := X2.wd b1 b2 b3 (fun _ _ => rfl) X2.2.2.2.2.2.2
      refine lv_goto B.exec B.bytes (tgt := 23) dL_look_12 (by decide) ?_
      refine lv_iconst B.exec B.bytes (v := 0) dL_look_23 ic_0 ?_
      exact fin 0 24 ls _ ad' H1 locs1 dL_look_24 X3 hG' (hr x σ' hG'.2.1 hKx)
    obtain ⟨t2, a1, b1⟩ := kq T' rfl X'
    exact ⟨t2, stp t2 a1, b1⟩
  · have X2 := X.after h0 e1 hL hG' hP' hD' hO' hF
    have kq : vx_W p l e (headSpec lws (mrm mL_look)).room s m (([.inr 1, .inl x1, .inl x2, .inl x3, .inr 119] : List Av).map (vt ad)).toArray below meth c T'.heap ([] ++ L') (0 + 1) (0 + 6) (MQ below (QC D ca ad σ s.heap.size Φ') (([.inr 1, .inl x1, .inl x2, .inl x3, .inr 119] : List Av).map (vt ad)).toArray s 1 6 (va_A (wl ad ca σ) s.heap.size)) (F0 m 7 ls [.int 0, .ref (ad 119)]) q := by
      rcases hE with ⟨rfl, rfl⟩ | ⟨rfl, rfl⟩
      · refine vx_catch (own := RL) (name := xE1) (E := xE1) (ce := ce) hown [] ⟨0, 12, 15, 13⟩ [⟨0, 12, 19, 15⟩] htab (fun z hz => nomatch hz) (by decide) (by decide) (hgt _ xl1) (va_Nw.use (gx_tab gx_c1) (hTh.2.2.1 _ gx_c1)) (by rw [e1]; exact hce) hcv hcl ?_
        refine lv_astore B.exec B.bytes dL_look_15 L0 (by decide) rfl (fun ls' _ => ?_)
        refine lv_iconst B.exec B.bytes (v := 1) dL_look_17 ic_1 ?_
        exact fin 1 18 ls' σ' ad' _ _ dL_look_18 X2 hG' (hx1 σ' hψ)
      · refine vx_catch (own := RL) (name := xE2) (E := xE2) (ce := ce) hown [⟨0, 12, 15, 13⟩] ⟨0, 12, 19, 15⟩ [] htab (fun z hz => ?_) (by decide) (by decide) (hgt _ xl2) (va_Nw.use (gx_tab gx_c2) (hTh.2.2.1 _ gx_c2)) (by rw [e1]; exact hce) hcv hcl ?_
        · rw [List.mem_singleton] at hz
          subst hz
          exact Or.inr ⟨by decide, xE1, hgt _ xl1, hTh.2.2.2⟩
        · refine lv_astore B.exec B.bytes dL_look_19 L0 (by decide) rfl (fun ls' _ => ?_)
          refine lv_iconst B.exec B.bytes (v := 2) dL_look_21 ic_2 ?_
          exact fin 2 22 ls' σ' ad' _ _ dL_look_22 X2 hG' (hx2 σ' hψ)
    obtain ⟨t2, a1, b1⟩ := kq T' rfl X'
    exact ⟨t2, stp.trans a1, b1⟩
end LLK
