/-! follow: what it answers, and what becomes of the state -/
def fwX (v : Vt) (t : Nat) (d : Int) : Nat → Int := wX (v.1 (v.2.1 t 0 0).toNat) (v.2.1 t) d
def fwY (v : Vt) (t : Nat) : Nat → Int := wY (v.1 (v.2.1 t 0 0).toNat) (v.2.1 t)
def fwN (v : Vt) (t : Nat) : Nat := (v.2.1 t 0 1).toNat
def okFw (v : Vt) (t a d e : Int) : Prop := ((0 ≤ t ∧ t < v.2.2.1 1) ∧ v.2.1 t.toNat 0 1 ≠ 0) ∧ ((0 ≤ a ∧ a < v.2.2.1 0) ∧ v.1 a.toNat 0 2 ≠ 0) ∧ (-2000 ≤ d ∧ d ≤ 2000) ∧ (0 ≤ e ∧ e ≤ 2000) ∧ v.2.2.1 1 < 10
def fokV (v : Vt) (t a : Nat) (d e : Int) : Prop := fok (v.1 a) (fwX v t d) (fwY v t) e (fwN v t)
noncomputable def fwW (v : Vt) (t a : Nat) (d e : Int) : Int := mnF (nrP (v.1 a) (fwX v t d) (fwY v t) e 0) (WB (v.1 a) (fwX v t d) (fwY v t) e (fwN v t) 0) 4096
noncomputable def fwS (v : Vt) (t a : Nat) (d e : Int) : Nat := stpF (v.1 a) (fwX v t d) (fwY v t) e (fwN v t)
noncomputable def fwR (v : Vt) (t a : Nat) (d e : Int) (i : Nat) : Nat := frw (v.1 a) (fwX v t d) (fwY v t) e (fwN v t) i
noncomputable def fwT (v : Vt) (t a : Nat) (d e : Int) : Nat → Nat → Int := fun i j => if i = 0 then (if j = 0 then (a : Int) else if j = 1 then v.2.1 t 0 1 else 0) else if i = 1 then (fwR v t a d e j : Int) else v.2.1 t 2 j
noncomputable def dFw (v : Vt) (t a : Nat) (d e : Int) : Vt := (v.1, fun s => if (s : Int) = v.2.2.1 1 then fwT v t a d e else v.2.1 s, fun k => if k = 1 then v.2.2.1 1 + 1 else if k = 6 then -1 else if k = 7 then fwW v t a d e else v.2.2.1 k, v.2.2.2)
noncomputable def nFollow (v : Vt) (t a d e : Int) : Vt := vif (okFw v t a d e) (vif (fokV v t.toNat a.toNat d e) (dFw v t.toNat a.toNat d e) (setS v 6 (fwS v t.toNat a.toNat d e : Nat))) v
noncomputable def aFollow (v : Vt) (t a d e : Int) : Int := cif (okFw v t a d e) (cif (fokV v t.toNat a.toNat d e) (v.2.2.1 1) (-2)) (-1)
/-- ticks put one behind the other -/
def tkF (o : Int) (f g : Nat → Int) : Nat → Nat → Nat → Int
  | 0 => bgn o
  | k + 1 => tA (tkF o f g k) (f k) (g k)
theorem tkF_ok (o : Int) (f g : Nat → Int) : ∀ k : Nat, tkF o f g k 0 0 = o ∧ tkF o f g k 0 1 = k ∧ ∀ i, i < k → tkF o f g k 1 i = f i ∧ tkF o f g k 2 i = g i := by
  intro k
  induction k with
  | zero => exact ⟨rfl, rfl, fun i hi => absurd hi (by omega)⟩
  | succ k ih =>
    obtain ⟨a, b, c⟩ := ih
    refine ⟨by show tA _ _ _ 0 0 = _; rw [tA_00, a], by show tA _ _ _ 0 1 = _; rw [tA_01, b]; omega, fun i hi => ?_⟩
    show tA _ _ _ 1 i = _ ∧ tA _ _ _ 2 i = _
    rw [tA_1, tA_2, b, I_tn]
    by_cases z : i = k
    · rw [if_pos z, if_pos z, z]; exact ⟨rfl, rfl⟩
    · rw [if_neg z, if_neg z]; exact c i (by omega)
section FWC
variable {l : Launch} {σ : Sg} {v : Vt} {c : Nat}
theorem CR.fp (h : CR σ v) (hz : σ.2.2 1 8 = 120) : Fp σ := by
  rcases h.2.1 with q | q
  · have := q.1; omega
  · exact q.2.1
/-- the last state is one of the new tape -/
theorem CR.fol {σ' : Sg} {t a N : Nat} {d e : Int} (h : CR σ v) (hw : WF c v) (hN : v.2.2.1 1 = N) (N10 : N < 10) (hn : σ'.1 = σ.1) (h2 : σ'.2.2 = σ.2.2) (E : ∀ r, r ≠ 1 → r ≠ 2 → ¬ (15 + 3 * N ≤ r ∧ r ≤ 15 + 3 * N + 2) → σ'.2.1 r = σ.2.1 r) (E1 : ∀ k, k ≠ 10 → k ≠ 11 → σ'.2.1 1 k = σ.2.1 1 k) (E2 : ∀ k, k ≠ 3 → σ'.2.1 2 k = σ.2.1 2 k) (s10 : σ'.2.1 1 10 = I (-1)) (s11 : σ'.2.1 1 11 = I (fwW v t a d e)) (s3 : σ'.2.1 2 3 = I ((N : Int) + 1)) (hD : TapeD σ' (15 + 3 * N) (fwT v t a d e)) : CR σ' (dFw v t a d e) ∧ CF σ σ' := by
  have Q : ∀ r, r ≠ 1 → r ≠ 2 → ¬ (15 + 3 * N ≤ r ∧ r ≤ 15 + 3 * N + 2) → Eqc σ σ' r := fun r a b c => ⟨E r a b c, by rw [h2]⟩
  have k1 : (dFw v t a d e).2.2.1 1 = (N : Int) + 1 := by show v.2.2.1 1 + 1 = _; rw [hN]
  refine ⟨h.mk2 hn h2 ?_ ?_ ?_ ?_, Nat.le_of_eq hn.symm, fun r x y => Q r (by omega) (by omega) (by omega)⟩
  · exact h.2.2.1.eq (Nat.le_of_eq hn.symm) (E2 2 (by omega)) (fun r x y => Q r (by omega) (by omega) (by omega)) rfl rfl
  · have T := h.2.2.2.1
    refine ⟨by rw [s3, k1], by rw [E2 4 (by omega)]; exact T.2.1, fun s hs => (T.2.2.1 s hs).eq (Nat.le_of_eq hn.symm) (by rw [h2]), T.2.2.2.1.eq (Nat.le_of_eq hn.symm) (by rw [h2]), T.2.2.2.2.1.eq (Nat.le_of_eq hn.symm) (by rw [h2]), fun s hs => ?_⟩
    rw [k1] at hs
    show TapeD σ' (15 + 3 * s) (if (s : Int) = v.2.2.1 1 then fwT v t a d e else v.2.1 s)
    by_cases z : s = N
    · rw [if_pos (by omega), z]; exact hD
    · rw [if_neg (by omega)]
      exact (T.2.2.2.2.2 s (by omega)).eq (fun k hk => Q _ (by omega) (by omega) (by omega))
  · exact h.2.2.2.2.1.eq (by rw [E 45 (by omega) (by omega) (by omega)]) (E 46 (by omega) (by omega) (by omega)) (by rw [E 50 (by omega) (by omega) (by omega)]) (by rw [E 50 (by omega) (by omega) (by omega)]) rfl rfl rfl rfl
  · have p := h.2.2.2.2.2
    refine ⟨fun s hs => by rw [E 58 (by omega) (by omega) (by omega)]; exact p.1 s hs, by rw [E1 9 (by omega) (by omega)]; exact p.2.1, s10, s11, by rw [E 69 (by omega) (by omega) (by omega)]; exact p.2.2.2.2.1, fun k hk => by rw [E 73 (by omega) (by omega) (by omega)]; exact p.2.2.2.2.2 k hk⟩
theorem CR.stp {σ' : Sg} {z : Int} (h : CR σ v) (hw : WF c v) (e : σ' = w1 σ 1 10 (I z)) : CR σ' (setS v 6 z) ∧ CF σ σ' := by
  have w0 := hw.1
  have E : ∀ r, r ≠ 1 → σ'.2.1 r = σ.2.1 r := fun r hr => by rw [e, w1_r hr]
  have hn : σ'.1 = σ.1 := by rw [e]; rfl
  have h2 : σ'.2.2 = σ.2.2 := by rw [e]; rfl
  have Q : ∀ r, r ≠ 1 → Eqc σ σ' r := fun r a => ⟨E r a, by rw [h2]⟩
  have K : ∀ k, k ≠ 6 → (setS v 6 z).2.2.1 k = v.2.2.1 k := fun k hk => setS_o hk
  refine ⟨h.mk2 hn h2 ?_ ?_ ?_ ?_, Nat.le_of_eq hn.symm, fun r x y => Q r (by omega)⟩
  · exact h.2.2.1.eq (Nat.le_of_eq hn.symm) (by rw [E 2 (by omega)]) (fun r x y => Q r (by omega)) rfl (K 0 (by omega))
  · exact h.2.2.2.1.eq (Nat.le_of_eq hn.symm) (by rw [E 2 (by omega)]) (by rw [E 2 (by omega)]) (fun r x y => Q r (by omega)) (by rw [h2]) (by rw [h2]) rfl (K 1 (by omega)) (by omega)
  · exact h.2.2.2.2.1.eq (by rw [E 45 (by omega)]) (E 46 (by omega)) (by rw [E 50 (by omega)]) (by rw [E 50 (by omega)]) (K 2 (by omega)) (K 3 (by omega)) (K 4 (by omega)) rfl
  · have p := h.2.2.2.2.2
    refine ⟨fun s hs => by rw [E 58 (by omega)]; exact p.1 s hs, ?_, ?_, ?_, ?_, fun k hk => ?_⟩
    · rw [e, w1_k (by omega), K 5 (by omega)]; exact p.2.1
    · rw [e, w1_at, setS_k]
    · rw [e, w1_k (by omega), K 7 (by omega)]; exact p.2.2.2.1
    · rw [E 69 (by omega), K 8 (by omega)]; exact p.2.2.2.2.1
    · rw [K 8 (by omega)] at hk
      rw [E 73 (by omega)]; exact p.2.2.2.2.2 k hk
set_option maxHeartbeats 4000000 in
set_option maxRecDepth 20000 in
theorem gX11_followN_164b {l : Launch} {v0 : Nat} {v1 : Int32} {v2 : Int32} {v3 : Int32} {v4 : Int32} {v5 : Nat} {v6 : Nat} {v7 : Nat} {v8 : Nat} {v9 : Int32} {v10 : Nat} {v11 : Int32} {σ : Sg} {K : Int32 → Sg → Prop} (h : ((v10 = 0 → K v9 σ) ∧ (¬ v10 = 0 → Ob σ v5 9 ∧ (((σ.2.1 v5 3) ≤ v11 → K v9 σ) ∧ (¬ (σ.2.1 v5 3) ≤ v11 → Ob σ v8 3 ∧ Con l mX3_poseAt [.inr v8, .inl v11] σ (PI (fun x4 σ4 => Con l mX9_sprayAt [.inr v5, .inl v11] σ4 (PI (fun x6 σ6 => Ob σ6 v10 9 ∧ Con l mX9_addTick [.inr v10, .inl x4, .inl x6] σ6 (PI (fun x7 σ7 => GW l mX11_followN 164 [(0, .inr v0), (1, .inl v1), (2, .inl v2), (3, .inl v3), (4, .inl v4), (5, .inr v5), (6, .inr v6), (7, .inr v7), (8, .inr v8), (9, .inl v9), (10, .inr v10), (11, .inl (v11 + 1))] [] σ7 16 188578 (PI K)))))))))))) : GW l mX11_followN 164 [(0, .inr v0), (1, .inl v1), (2, .inl v2), (3, .inl v3), (4, .inl v4), (5, .inr v5), (6, .inr v6), (7, .inr v7), (8, .inr v8), (9, .inl v9), (10, .inr v10), (11, .inl v11)] [] σ 16 188578 (PI K) := by
  refine gw_aload (q := 10) dX11_follow_164 rfl ?_
  refine gw_ifnull (tgt := 205) dX11_follow_166 (by decide) (fun c1 => ?_) (fun c1 => ?_)
  · replace h := h.1 c1
    refine gw_iload (q := 9) dX11_follow_205 rfl ?_
    exact gw_rI dX11_follow_207 rfl (by decide) (by decide) h
  · replace h := h.2 c1
    refine gw_iload (q := 11) dX11_follow_169 rfl ?_
    refine gw_aload (q := 5) dX11_follow_171 rfl ?_
    obtain ⟨g2, h⟩ := h
    refine gw_gI fX11_147 dX11_follow_173 g2 ?_
    refine gw_icmp_ge (tgt := 205) dX11_follow_176 (by decide) (fun c3 => ?_) (fun c3 => ?_)
    · replace h := h.1 c3
      refine gw_iload (q := 9) dX11_follow_205 rfl ?_
      exact gw_rI dX11_follow_207 rfl (by decide) (by decide) h
    · replace h := h.2 c3
      refine gw_aload (q := 10) dX11_follow_179 rfl ?_
      refine gw_aload (q := 8) dX11_follow_181 rfl ?_
      refine gw_iload (q := 11) dX11_follow_183 rfl ?_
      obtain ⟨g5, h⟩ := h
      refine gw_vC (bs := [.inl v11]) (st := [.inr v10]) (vmX3_poseAt) lX11_250 dX11_follow_185 ⟨by decide, rfl, rfl, by decide, by decide⟩ (Nat.le_of_ble_eq_true rfl) rfl rfl g5 h (kI (fun x4 σ4 h n4 => ?_))
      refine gw_aload (q := 5) dX11_follow_188 rfl ?_
      refine gw_iload (q := 11) dX11_follow_190 rfl ?_
      refine gw_vC (bs := [.inl v11]) (st := [.inl x4, .inr v10]) (vmX9_sprayAt) lX11_172 dX11_follow_192 ⟨by decide, rfl, rfl, by decide, by decide⟩ (Nat.le_of_ble_eq_true rfl) rfl rfl (g2.up n4) h (kI (fun x6 σ6 h n6 => ?_))
      obtain ⟨g8, h⟩ := h
      refine gw_vC (bs := [.inl x4, .inl x6]) (st := []) (vmX9_addTick) lX11_156 dX11_follow_195 ⟨by decide, rfl, rfl, by decide, by decide⟩ (Nat.le_of_ble_eq_true rfl) rfl rfl g8 h (kI (fun x7 σ7 h n7 => ?_))
      refine gw_pop dX11_follow_198 ?_
      refine gw_inc (lo' := [(0, .inr v0), (1, .inl v1), (2, .inl v2), (3, .inl v3), (4, .inl v4), (5, .inr v5), (6, .inr v6), (7, .inr v7), (8, .inr v8), (9, .inl v9), (10, .inr v10), (11, .inl (v11 + 1))]) (q := 11) (c := 1) dX11_follow_199 ic_1 rfl (by decide) rfl ?_
      refine gw_goto (tgt := 164) dX11_follow_202 (by decide) ?_
      exact h
theorem C_follow {t a d e : Int} (h : CR σ v) (hw : WF c v) (hz : σ.2.2 1 8 = 120) (ht : Rg t) (ha : Rg a) (hd : Rg d) (he : Rg e) : Con l mX11_follow [.inr 1, .inl (I t), .inl (I a), .inl (I d), .inl (I e)] σ (PI fun q σ' => q = I (aFollow v t a d e) ∧ CR σ' (nFollow v t a d e) ∧ CF σ σ') := by
  have w0 := hw.1
  have no : ∀ {q : Int32}, q = -1 → ¬ okFw v t a d e → q = I (aFollow v t a d e) ∧ CR σ (nFollow v t a d e) ∧ CF σ σ := by
    intro q e1 hq
    unfold nFollow aFollow
    rw [vif_f hq, cif_f hq]
    exact ⟨e1, h, CF.rf _⟩
  refine eX11_follow ⟨h.1.o1, by rw [h.1.p1_0]; exact h.1.o2, ?_⟩
  rw [h.1.p1_0]
  refine h.tp hw ht (fun tn et htn t10 => ⟨by rw [h.1.p1_0]; exact h.1.o2, ?_⟩) (fun nt => ⟨by rw [h.1.p1_0]; exact h.1.o2, ?_⟩)
  · subst et
    rw [h.1.p1_0]
    refine h.ao hw htn (fun o eo o2 oj => ⟨by rw [h.1.p1_0]; exact h.1.o2, ?_⟩)
    rw [h.1.p1_0]
    have wt := hw.2.2.2.1 tn htn
    refine h.ar hw ha (fun an ea han a2 => ⟨fun z => absurd z (by omega), fun _ => ⟨fun z => absurd z (by omega), fun _ => ⟨fun z => absurd z (by omega), fun _ => ⟨(h.P t10).ob, ?_⟩⟩⟩⟩) (fun na => ⟨fun z => absurd z (by omega), fun _ => ⟨fun z => absurd z (by omega), fun _ => ⟨fun _ => no rfl (fun k => na k.2.1.1), fun z => absurd rfl z⟩⟩⟩)
    subst ea
    have hwf := (hw.2.2.1 an a2).1
    have hwo := (hw.2.2.1 o o2).1
    have wa := hwf.1
    rw [(h.D htn).2.1, I_0, I_eq' (by omega) (by omega) (by omega) (by omega), (h.A a2).jn, I_eq' (by omega) (by omega) (by omega) (by omega)]
    refine ⟨fun z => no rfl (fun k => k.1.2 (by rw [I_tn]; exact z)), fun tz => ⟨(h.A a2).ob, fun jz => ?_, fun z => no rfl (fun k => k.2.1.2 (by rw [I_tn]; exact z))⟩⟩
    refine q_isDrift hd (fun d1 => ⟨fun z => absurd z (by decide), fun _ => ?_⟩) (fun d1 => ⟨fun _ => no rfl (fun k => d1 k.2.2.1), fun z => absurd rfl z⟩)
    refine eX11_isError (q_within (b := 0) (c := 2000) he ⟨by omega, by omega⟩ ⟨by omega, by omega⟩ (fun e1 e2 => ⟨Or.inr rfl, fun z => absurd z (by decide), fun _ => ⟨by rw [h.1.p1_0]; exact h.1.o2, ?_⟩⟩) (fun e1 => ⟨Or.inl rfl, fun _ => no rfl (fun k => e1 k.2.2.2.1), fun z => absurd rfl z⟩))
    rw [h.1.p1_0]
    refine eX7_hasRoom ⟨h.1.o2, ?_⟩
    rw [h.2.2.2.1.1, h.2.2.2.1.2.1, I_add, show (10 : Int32) = I 10 from rfl, I_le' (by omega) (by omega) (by omega) (by omega)]
    refine ⟨fun z => ⟨fun y => absurd rfl y, fun _ => no rfl (fun k => by have := k.2.2.2.2; omega)⟩, fun z => ⟨fun _ => ?_, fun y => absurd y (by decide)⟩⟩
    have ok : okFw v tn an d e := ⟨⟨⟨by omega, htn⟩, by rw [I_tn]; exact tz⟩, ⟨⟨by omega, han⟩, by rw [I_tn]; exact jz⟩, d1, ⟨e1, e2⟩, by omega⟩
    unfold nFollow aFollow
    rw [vif_t ok, cif_t ok, I_tn, I_tn]
    have h' := h
    have cf' := CF.rf σ
    have hz' := hz
    refine q_ready h hz ?_
    have hF := h'.fp hz'
    obtain ⟨N, hN⟩ : ∃ N : Nat, v.2.2.1 1 = N := ⟨(v.2.2.1 1).toNat, by omega⟩
    have en : v.2.1 tn 0 1 = (fwN v tn : Nat) := by unfold fwN; omega
    have eo' : (v.2.1 tn 0 0).toNat = o := by omega
    have eX : wX (v.1 o) (v.2.1 tn) d = fwX v tn d := by unfold fwX; rw [eo']
    have eY : wY (v.1 o) (v.2.1 tn) = fwY v tn := by unfold fwY; rw [eo']
    refine ⟨hF.o120, q_search h'.1 hF a2 (h'.A a2) hwf o2 (h'.A o2) hwo (by omega) (h'.P t10) (h'.D htn) en (by omega) (by omega) (fun i hi => ?_) d1 ⟨e1, e2⟩ (fun hf σ2 f2 h18 hrow => ⟨fun _ σ3 e3 σ4 e4 => ?_, fun z => absurd z (by decide)⟩) (fun nf σ2 f2 h17 => ⟨fun z => absurd rfl z, fun _ σ3 e3 => ?_⟩)⟩
    · have := (wt.2.2.2.2.2 i (by omega)).1
      rw [eo'] at this; exact this
    · rw [eX, eY] at hf h18 hrow
      have hf' : fokV v tn an d e := hf
      rw [vif_t hf', cif_t hf']
      obtain ⟨h2, cf2⟩ := h'.ff hw f2
      have s18 : σ3.2.1 120 18 = I (fwW v tn an d e) := by rw [e3, w1_r (by omega)]; exact h18
      rw [s18] at e4
      have C4 : Cp σ4 := ⟨by rw [e4, e3]; exact h2.1.1, by rw [e4, e3]; exact h2.1.2⟩
      rw [C4.p1_0]
      have E4 : ∀ r, r ≠ 1 → σ4.2.1 r = σ2.2.1 r := fun r hr => by rw [e4, w1_r hr, e3, w1_r hr]
      have R4 : σ4.2.2 = σ2.2.2 := by rw [e4, e3]; rfl
      have N4 : σ4.1 = σ2.1 := by rw [e4, e3]; rfl
      have hP := h2.P (t := N) (by omega)
      have hP4 : TapeP σ4 (15 + 3 * N) := hP.eq (Nat.le_of_eq N4.symm) (by rw [R4])
      refine ⟨C4.o2, eX7_addTape ⟨C4.o2, q_nextTape (n := (N : Int)) C4 (by rw [E4 2 (by omega), h2.2.2.2.1.1, hN]) (by rw [E4 2 (by omega)]; exact h2.2.2.2.1.2.1) (by omega) (by omega) (fun lt => ⟨fun _ => ?_, fun q => absurd q (by omega)⟩) (fun lt => absurd (by omega) lt)⟩⟩
      rw [I_tn]
      refine ⟨hP4.ob, q_begin hP4 (fun σ5 e5 σ6 e6 => ?_)⟩
      have E5 : ∀ r, r ≠ 15 + 3 * N → σ5.2.1 r = σ4.2.1 r := fun r hr => by rw [e5, w1_r hr, w1_r hr]
      have s3 : σ5.2.1 2 3 = I (N : Int) := by rw [E5 2 (by omega), E4 2 (by omega), h2.2.2.2.1.1, hN]
      rw [s3, I_1, I_add] at e6
      have E6 : ∀ r, r ≠ 1 → r ≠ 2 → r ≠ 15 + 3 * N → σ6.2.1 r = σ2.2.1 r := fun r x y z => by rw [e6, w1_r y, E5 r z, E4 r x]
      have R6 : σ6.2.2 = σ2.2.2 := by rw [e6, e5]; exact R4
      have N6 : σ6.1 = σ2.1 := by rw [e6, e5]; exact N4
      have C6 : Cp σ6 := ⟨by rw [N6]; exact h2.1.1, by rw [R6]; exact h2.1.2⟩
      have F6 : Fp σ6 := ⟨by rw [N6]; exact (f2.F hF).1, by rw [R6]; exact (f2.F hF).2⟩
      have k3 : σ6.2.1 2 3 = I ((N : Int) + 1) := by rw [e6, w1_at]
      rw [k3, I_1, I_sub, show (N : Int) + 1 - 1 = (N : Int) by omega, C6.p1_0]
      refine ⟨C6.o2, q_tapeAt (n := (N : Int) + 1) C6 k3 (by omega) (by omega) ⟨by omega, by omega⟩ (fun _ _ => ?_) (fun q => absurd ⟨by omega, by omega⟩ q)⟩
      rw [I_tn]
      have D6 : TapeD σ6 (15 + 3 * N) (tkF an (fun i => (fwR v tn an d e i : Int)) (v.2.1 tn 2) 0) := by
        refine ⟨?_, ?_, fun i hi => ?_⟩
        · rw [e6, w1_r (by omega), e5, w1_k (by omega), w1_at]; rfl
        · rw [e6, w1_r (by omega), e5, w1_at]; rfl
        · have : (i : Int) < 0 := hi; omega
      have P6 : TapeP σ6 (15 + 3 * N) := hP.eq (Nat.le_of_eq N6.symm) (by rw [R6])
      have T6 : TapeD σ6 (15 + 3 * tn) (v.2.1 tn) := (h2.D htn).eq (fun k hk => ⟨E6 _ (by omega) (by omega) (by omega), by rw [R6]⟩)
      have TP6 : TapeP σ6 (15 + 3 * tn) := (h2.P t10).eq (Nat.le_of_eq N6.symm) (by rw [R6])
      have L : ∀ i, i ≤ fwN v tn → ∀ σ7, Onl [15 + 3 * N, 15 + 3 * N + 1, 15 + 3 * N + 2] σ6 σ7 → TapeD σ7 (15 + 3 * N) (tkF an (fun i => (fwR v tn an d e i : Int)) (v.2.1 tn 2) i) → GW l mX11_follow 164 [(0, .inr 1), (1, .inl (I (tn : Nat))), (2, .inl (I (an : Nat))), (3, .inl (I d)), (4, .inl (I e)), (5, .inr (15 + 3 * tn)), (6, .inr (5 + 5 * o)), (7, .inr (5 + 5 * an)), (8, .inr 120), (9, .inl (I (N : Nat))), (10, .inr (15 + 3 * N)), (11, .inl (I (i : Nat)))] [] σ7 0 0 (PI fun q σ' => q = I (v.2.2.1 1) ∧ CR σ' (dFw v tn an d e) ∧ CF σ σ') := by
        refine lp ?_ ?_
        · intro σ7 o7 D7
          have nr := not3 (q := 15 + 3 * tn) (r := 15 + 3 * N) (by omega)
          have T7 := T6.onl o7 nr.1 nr.2.1 nr.2.2
          refine gX11_follow_164 ⟨fun z => absurd z (by omega), fun _ => ⟨(TP6.onl o7).ob, fun _ => ⟨by rw [hN], ?_⟩, fun z => absurd ?_ z⟩⟩
          · have E7 : ∀ r, ¬ (15 + 3 * N ≤ r ∧ r ≤ 15 + 3 * N + 2) → σ7.2.1 r = σ6.2.1 r := fun r hr => o7.2.2 r (by simp only [List.mem_cons, List.not_mem_nil, or_false, not_or]; omega)
            have R7 : σ7.2.2 = σ2.2.2 := by rw [o7.2.1, R6]
            have N7 : σ7.1 = σ2.1 := by rw [o7.1, N6]
            have key := h2.fol (t := tn) (a := an) (d := d) (e := e) hw hN (by omega) N7 R7 (fun r x y z => by rw [E7 r z, E6 r x y (by omega)]) (fun k x y => by rw [E7 1 (by omega), e6, w1_r (by omega), E5 1 (by omega), e4, w1_k y, e3, w1_k x]) (fun k x => by rw [E7 2 (by omega), e6, w1_k x, E5 2 (by omega), E4 2 (by omega)]) (by rw [E7 1 (by omega), e6, w1_r (by omega), E5 1 (by omega), e4, w1_k (by omega), e3, w1_at]; rfl) (by rw [E7 1 (by omega), e6, w1_r (by omega), E5 1 (by omega), e4, w1_at]) (by rw [E7 2 (by omega)]; exact k3) ?_
            · exact ⟨key.1, (cf'.tr cf2).tr key.2⟩
            · obtain ⟨x1, x2, x3⟩ := tkF_ok (an : Int) (fun i => (fwR v tn an d e i : Int)) (v.2.1 tn 2) (fwN v tn)
              refine D7.same (by rw [x1]; rfl) (by rw [x2, ← en]; rfl) (fun i hi => ?_)
              rw [x2] at hi
              rw [(x3 i (by omega)).1, (x3 i (by omega)).2]
              exact ⟨rfl, rfl⟩
          · rw [T7.2.1, en]; exact (I_le ⟨by omega, by omega⟩ ⟨by omega, by omega⟩).mpr (by omega)
        · intro i hi ih σ7 o7 D7
          have nr := not3 (q := 15 + 3 * tn) (r := 15 + 3 * N) (by omega)
          have T7 := T6.onl o7 nr.1 nr.2.1 nr.2.2
          have F7 : Fp σ7 := ⟨by rw [o7.1]; exact F6.1, by rw [o7.2.1]; exact F6.2⟩
          have r7 : σ7.2.1 130 i = I (fwR v tn an d e i : Nat) := by
            rw [o7.2.2 130 (by simp only [List.mem_cons, List.not_mem_nil, or_false, not_or]; omega), E6 130 (by omega) (by omega) (by omega)]; exact hrow i hi
          refine gX11_follow_164 ⟨fun z => absurd z (by omega), fun _ => ⟨(TP6.onl o7).ob, fun z => ?_, fun _ => ⟨F7.o120, ?_⟩⟩⟩
          · rw [T7.2.1, en, I_le ⟨by omega, by omega⟩ ⟨by omega, by omega⟩] at z; omega
          refine eX3_poseAt ?_
          rw [I_0, I_lt' (by omega) (by omega) (by omega) (by omega), show (40 : Int32) = I 40 from rfl, I_le' (by omega) (by omega) (by omega) (by omega)]
          refine ⟨fun z => absurd z (by omega), fun _ => ⟨fun z => absurd z (by omega), fun _ => ⟨F7.o120, F7.a120_9 (by omega) (by omega), ?_⟩⟩⟩
          rw [F7.d120_9 (by omega) (by omega), I_tn, r7]
          refine q_sprayAt (TP6.onl o7) T7 (by omega) (by omega) ⟨by omega, by omega⟩ (fun _ _ => ⟨(P6.onl o7).ob, ?_⟩) (fun q => absurd ⟨by omega, by omega⟩ q)
          rw [I_tn]
          obtain ⟨x1, x2, x3⟩ := tkF_ok (an : Int) (fun i => (fwR v tn an d e i : Int)) (v.2.1 tn 2) i
          refine q_addTick (P6.onl o7) D7 (by omega) (by omega) (fun lt σ8 n8 p8 E8 D8 => ?_) (fun q => absurd (by omega) q)
          rw [I_1, I_add]
          refine ih σ8 (o7.tr ⟨n8, p8, fun q hq => E8 q (fun z => hq ?_)⟩) D8
          simp only [List.mem_cons, List.not_mem_nil, or_false]; omega
      exact L 0 (by omega) σ6 (Onl.rf _ _) D6
    · rw [eX, eY] at nf h17
      have nf' : ¬ fokV v tn an d e := nf
      rw [vif_f nf', cif_f nf']
      obtain ⟨h2, cf2⟩ := h'.ff hw f2
      rw [h17] at e3
      obtain ⟨h3, cf3⟩ := h2.stp hw e3
      exact ⟨rfl, h3, (cf'.tr cf2).tr cf3⟩
  · rw [h.1.p1_0]
    refine q_armOf0 ⟨by rw [h.1.p1_0]; exact h.1.o2, ?_⟩
    rw [h.1.p1_0]
    exact h.ar hw ha (fun _ _ _ _ => ⟨fun _ => no rfl (fun k => nt k.1.1), fun z => absurd rfl z⟩) (fun _ => ⟨fun _ => no rfl (fun k => nt k.1.1), fun z => absurd rfl z⟩)
theorem C_followN {t a d e : Int} (h : CR σ v) (hw : WF c v) (hz : σ.2.2 1 8 = 0) (ht : Rg t) (ha : Rg a) (hd : Rg d) (he : Rg e) : Con l mX11_followN [.inr 1, .inl (I t), .inl (I a), .inl (I d), .inl (I e)] σ (PI fun q σ' => q = I (aFollow v t a d e) ∧ CR σ' (nFollow v t a d e) ∧ CF σ σ') := by
  have w0 := hw.1
  have no : ∀ {q : Int32}, q = -1 → ¬ okFw v t a d e → q = I (aFollow v t a d e) ∧ CR σ (nFollow v t a d e) ∧ CF σ σ := by
    intro q e1 hq
    unfold nFollow aFollow
    rw [vif_f hq, cif_f hq]
    exact ⟨e1, h, CF.rf _⟩
  refine eX11_followN ⟨h.1.o1, by rw [h.1.p1_0]; exact h.1.o2, ?_⟩
  rw [h.1.p1_0]
  refine h.tp hw ht (fun tn et htn t10 => ⟨by rw [h.1.p1_0]; exact h.1.o2, ?_⟩) (fun nt => ⟨by rw [h.1.p1_0]; exact h.1.o2, ?_⟩)
  · subst et
    rw [h.1.p1_0]
    refine h.ao hw htn (fun o eo o2 oj => ⟨by rw [h.1.p1_0]; exact h.1.o2, ?_⟩)
    rw [h.1.p1_0]
    have wt := hw.2.2.2.1 tn htn
    refine h.ar hw ha (fun an ea han a2 => ⟨fun z => absurd z (by omega), fun _ => ⟨fun z => absurd z (by omega), fun _ => ⟨fun z => absurd z (by omega), fun _ => ⟨(h.P t10).ob, ?_⟩⟩⟩⟩) (fun na => ⟨fun z => absurd z (by omega), fun _ => ⟨fun z => absurd z (by omega), fun _ => ⟨fun _ => no rfl (fun k => na k.2.1.1), fun z => absurd rfl z⟩⟩⟩)
    subst ea
    have hwf := (hw.2.2.1 an a2).1
    have hwo := (hw.2.2.1 o o2).1
    have wa := hwf.1
    rw [(h.D htn).2.1, I_0, I_eq' (by omega) (by omega) (by omega) (by omega), (h.A a2).jn, I_eq' (by omega) (by omega) (by omega) (by omega)]
    refine ⟨fun z => no rfl (fun k => k.1.2 (by rw [I_tn]; exact z)), fun tz => ⟨(h.A a2).ob, fun jz => ?_, fun z => no rfl (fun k => k.2.1.2 (by rw [I_tn]; exact z))⟩⟩
    refine q_isDrift hd (fun d1 => ⟨fun z => absurd z (by decide), fun _ => ?_⟩) (fun d1 => ⟨fun _ => no rfl (fun k => d1 k.2.2.1), fun z => absurd rfl z⟩)
    refine eX11_isError (q_within (b := 0) (c := 2000) he ⟨by omega, by omega⟩ ⟨by omega, by omega⟩ (fun e1 e2 => ⟨Or.inr rfl, fun z => absurd z (by decide), fun _ => ⟨by rw [h.1.p1_0]; exact h.1.o2, ?_⟩⟩) (fun e1 => ⟨Or.inl rfl, fun _ => no rfl (fun k => e1 k.2.2.2.1), fun z => absurd rfl z⟩))
    rw [h.1.p1_0]
    refine eX7_hasRoom ⟨h.1.o2, ?_⟩
    rw [h.2.2.2.1.1, h.2.2.2.1.2.1, I_add, show (10 : Int32) = I 10 from rfl, I_le' (by omega) (by omega) (by omega) (by omega)]
    refine ⟨fun z => ⟨fun y => absurd rfl y, fun _ => no rfl (fun k => by have := k.2.2.2.2; omega)⟩, fun z => ⟨fun _ => ?_, fun y => absurd y (by decide)⟩⟩
    have ok : okFw v tn an d e := ⟨⟨⟨by omega, htn⟩, by rw [I_tn]; exact tz⟩, ⟨⟨by omega, han⟩, by rw [I_tn]; exact jz⟩, d1, ⟨e1, e2⟩, by omega⟩
    unfold nFollow aFollow
    rw [vif_t ok, cif_t ok, I_tn, I_tn]
    refine q_readyN h hw hz (fun σ1 h' cf' hz' E' => ?_)
    have hF := h'.fp hz'
    obtain ⟨N, hN⟩ : ∃ N : Nat, v.2.2.1 1 = N := ⟨(v.2.2.1 1).toNat, by omega⟩
    have en : v.2.1 tn 0 1 = (fwN v tn : Nat) := by unfold fwN; omega
    have eo' : (v.2.1 tn 0 0).toNat = o := by omega
    have eX : wX (v.1 o) (v.2.1 tn) d = fwX v tn d := by unfold fwX; rw [eo']
    have eY : wY (v.1 o) (v.2.1 tn) = fwY v tn := by unfold fwY; rw [eo']
    refine ⟨hF.o120, q_search h'.1 hF a2 (h'.A a2) hwf o2 (h'.A o2) hwo (by omega) (h'.P t10) (h'.D htn) en (by omega) (by omega) (fun i hi => ?_) d1 ⟨e1, e2⟩ (fun hf σ2 f2 h18 hrow => ⟨fun _ σ3 e3 σ4 e4 => ?_, fun z => absurd z (by decide)⟩) (fun nf σ2 f2 h17 => ⟨fun z => absurd rfl z, fun _ σ3 e3 => ?_⟩)⟩
    · have := (wt.2.2.2.2.2 i (by omega)).1
      rw [eo'] at this; exact this
    · rw [eX, eY] at hf h18 hrow
      have hf' : fokV v tn an d e := hf
      rw [vif_t hf', cif_t hf']
      obtain ⟨h2, cf2⟩ := h'.ff hw f2
      have s18 : σ3.2.1 120 18 = I (fwW v tn an d e) := by rw [e3, w1_r (by omega)]; exact h18
      rw [s18] at e4
      have C4 : Cp σ4 := ⟨by rw [e4, e3]; exact h2.1.1, by rw [e4, e3]; exact h2.1.2⟩
      rw [C4.p1_0]
      have E4 : ∀ r, r ≠ 1 → σ4.2.1 r = σ2.2.1 r := fun r hr => by rw [e4, w1_r hr, e3, w1_r hr]
      have R4 : σ4.2.2 = σ2.2.2 := by rw [e4, e3]; rfl
      have N4 : σ4.1 = σ2.1 := by rw [e4, e3]; rfl
      have hP := h2.P (t := N) (by omega)
      have hP4 : TapeP σ4 (15 + 3 * N) := hP.eq (Nat.le_of_eq N4.symm) (by rw [R4])
      refine ⟨C4.o2, eX7_addTape ⟨C4.o2, q_nextTape (n := (N : Int)) C4 (by rw [E4 2 (by omega), h2.2.2.2.1.1, hN]) (by rw [E4 2 (by omega)]; exact h2.2.2.2.1.2.1) (by omega) (by omega) (fun lt => ⟨fun _ => ?_, fun q => absurd q (by omega)⟩) (fun lt => absurd (by omega) lt)⟩⟩
      rw [I_tn]
      refine ⟨hP4.ob, q_begin hP4 (fun σ5 e5 σ6 e6 => ?_)⟩
      have E5 : ∀ r, r ≠ 15 + 3 * N → σ5.2.1 r = σ4.2.1 r := fun r hr => by rw [e5, w1_r hr, w1_r hr]
      have s3 : σ5.2.1 2 3 = I (N : Int) := by rw [E5 2 (by omega), E4 2 (by omega), h2.2.2.2.1.1, hN]
      rw [s3, I_1, I_add] at e6
      have E6 : ∀ r, r ≠ 1 → r ≠ 2 → r ≠ 15 + 3 * N → σ6.2.1 r = σ2.2.1 r := fun r x y z => by rw [e6, w1_r y, E5 r z, E4 r x]
      have R6 : σ6.2.2 = σ2.2.2 := by rw [e6, e5]; exact R4
      have N6 : σ6.1 = σ2.1 := by rw [e6, e5]; exact N4
      have C6 : Cp σ6 := ⟨by rw [N6]; exact h2.1.1, by rw [R6]; exact h2.1.2⟩
      have F6 : Fp σ6 := ⟨by rw [N6]; exact (f2.F hF).1, by rw [R6]; exact (f2.F hF).2⟩
      have k3 : σ6.2.1 2 3 = I ((N : Int) + 1) := by rw [e6, w1_at]
      rw [k3, I_1, I_sub, show (N : Int) + 1 - 1 = (N : Int) by omega, C6.p1_0]
      refine ⟨C6.o2, q_tapeAt (n := (N : Int) + 1) C6 k3 (by omega) (by omega) ⟨by omega, by omega⟩ (fun _ _ => ?_) (fun q => absurd ⟨by omega, by omega⟩ q)⟩
      rw [I_tn]
      have D6 : TapeD σ6 (15 + 3 * N) (tkF an (fun i => (fwR v tn an d e i : Int)) (v.2.1 tn 2) 0) := by
        refine ⟨?_, ?_, fun i hi => ?_⟩
        · rw [e6, w1_r (by omega), e5, w1_k (by omega), w1_at]; rfl
        · rw [e6, w1_r (by omega), e5, w1_at]; rfl
        · have : (i : Int) < 0 := hi; omega
      have P6 : TapeP σ6 (15 + 3 * N) := hP.eq (Nat.le_of_eq N6.symm) (by rw [R6])
      have T6 : TapeD σ6 (15 + 3 * tn) (v.2.1 tn) := (h2.D htn).eq (fun k hk => ⟨E6 _ (by omega) (by omega) (by omega), by rw [R6]⟩)
      have TP6 : TapeP σ6 (15 + 3 * tn) := (h2.P t10).eq (Nat.le_of_eq N6.symm) (by rw [R6])
      have L : ∀ i, i ≤ fwN v tn → ∀ σ7, Onl [15 + 3 * N, 15 + 3 * N + 1, 15 + 3 * N + 2] σ6 σ7 → TapeD σ7 (15 + 3 * N) (tkF an (fun i => (fwR v tn an d e i : Int)) (v.2.1 tn 2) i) → GW l mX11_followN 164 [(0, .inr 1), (1, .inl (I (tn : Nat))), (2, .inl (I (an : Nat))), (3, .inl (I d)), (4, .inl (I e)), (5, .inr (15 + 3 * tn)), (6, .inr (5 + 5 * o)), (7, .inr (5 + 5 * an)), (8, .inr 120), (9, .inl (I (N : Nat))), (10, .inr (15 + 3 * N)), (11, .inl (I (i : Nat)))] [] σ7 16 188578 (PI fun q σ' => q = I (v.2.2.1 1) ∧ CR σ' (dFw v tn an d e) ∧ CF σ σ') := by
        refine lp ?_ ?_
        · intro σ7 o7 D7
          have nr := not3 (q := 15 + 3 * tn) (r := 15 + 3 * N) (by omega)
          have T7 := T6.onl o7 nr.1 nr.2.1 nr.2.2
          refine gX11_followN_164b ⟨fun z => absurd z (by omega), fun _ => ⟨(TP6.onl o7).ob, fun _ => ⟨by rw [hN], ?_⟩, fun z => absurd ?_ z⟩⟩
          · have E7 : ∀ r, ¬ (15 + 3 * N ≤ r ∧ r ≤ 15 + 3 * N + 2) → σ7.2.1 r = σ6.2.1 r := fun r hr => o7.2.2 r (by simp only [List.mem_cons, List.not_mem_nil, or_false, not_or]; omega)
            have R7 : σ7.2.2 = σ2.2.2 := by rw [o7.2.1, R6]
            have N7 : σ7.1 = σ2.1 := by rw [o7.1, N6]
            have key := h2.fol (t := tn) (a := an) (d := d) (e := e) hw hN (by omega) N7 R7 (fun r x y z => by rw [E7 r z, E6 r x y (by omega)]) (fun k x y => by rw [E7 1 (by omega), e6, w1_r (by omega), E5 1 (by omega), e4, w1_k y, e3, w1_k x]) (fun k x => by rw [E7 2 (by omega), e6, w1_k x, E5 2 (by omega), E4 2 (by omega)]) (by rw [E7 1 (by omega), e6, w1_r (by omega), E5 1 (by omega), e4, w1_k (by omega), e3, w1_at]; rfl) (by rw [E7 1 (by omega), e6, w1_r (by omega), E5 1 (by omega), e4, w1_at]) (by rw [E7 2 (by omega)]; exact k3) ?_
            · exact ⟨key.1, (cf'.tr cf2).tr key.2⟩
            · obtain ⟨x1, x2, x3⟩ := tkF_ok (an : Int) (fun i => (fwR v tn an d e i : Int)) (v.2.1 tn 2) (fwN v tn)
              refine D7.same (by rw [x1]; rfl) (by rw [x2, ← en]; rfl) (fun i hi => ?_)
              rw [x2] at hi
              rw [(x3 i (by omega)).1, (x3 i (by omega)).2]
              exact ⟨rfl, rfl⟩
          · rw [T7.2.1, en]; exact (I_le ⟨by omega, by omega⟩ ⟨by omega, by omega⟩).mpr (by omega)
        · intro i hi ih σ7 o7 D7
          have nr := not3 (q := 15 + 3 * tn) (r := 15 + 3 * N) (by omega)
          have T7 := T6.onl o7 nr.1 nr.2.1 nr.2.2
          have F7 : Fp σ7 := ⟨by rw [o7.1]; exact F6.1, by rw [o7.2.1]; exact F6.2⟩
          have r7 : σ7.2.1 130 i = I (fwR v tn an d e i : Nat) := by
            rw [o7.2.2 130 (by simp only [List.mem_cons, List.not_mem_nil, or_false, not_or]; omega), E6 130 (by omega) (by omega) (by omega)]; exact hrow i hi
          refine gX11_followN_164b ⟨fun z => absurd z (by omega), fun _ => ⟨(TP6.onl o7).ob, fun z => ?_, fun _ => ⟨F7.o120, ?_⟩⟩⟩
          · rw [T7.2.1, en, I_le ⟨by omega, by omega⟩ ⟨by omega, by omega⟩] at z; omega
          refine eX3_poseAt ?_
          rw [I_0, I_lt' (by omega) (by omega) (by omega) (by omega), show (40 : Int32) = I 40 from rfl, I_le' (by omega) (by omega) (by omega) (by omega)]
          refine ⟨fun z => absurd z (by omega), fun _ => ⟨fun z => absurd z (by omega), fun _ => ⟨F7.o120, F7.a120_9 (by omega) (by omega), ?_⟩⟩⟩
          rw [F7.d120_9 (by omega) (by omega), I_tn, r7]
          refine q_sprayAt (TP6.onl o7) T7 (by omega) (by omega) ⟨by omega, by omega⟩ (fun _ _ => ⟨(P6.onl o7).ob, ?_⟩) (fun q => absurd ⟨by omega, by omega⟩ q)
          rw [I_tn]
          obtain ⟨x1, x2, x3⟩ := tkF_ok (an : Int) (fun i => (fwR v tn an d e i : Int)) (v.2.1 tn 2) i
          refine q_addTick (P6.onl o7) D7 (by omega) (by omega) (fun lt σ8 n8 p8 E8 D8 => ?_) (fun q => absurd (by omega) q)
          rw [I_1, I_add]
          refine ih σ8 (o7.tr ⟨n8, p8, fun q hq => E8 q (fun z => hq ?_)⟩) D8
          simp only [List.mem_cons, List.not_mem_nil, or_false]; omega
      exact L 0 (by omega) σ6 (Onl.rf _ _) D6
    · rw [eX, eY] at nf h17
      have nf' : ¬ fokV v tn an d e := nf
      rw [vif_f nf', cif_f nf']
      obtain ⟨h2, cf2⟩ := h'.ff hw f2
      rw [h17] at e3
      obtain ⟨h3, cf3⟩ := h2.stp hw e3
      exact ⟨rfl, h3, (cf'.tr cf2).tr cf3⟩
  · rw [h.1.p1_0]
    refine q_armOf0 ⟨by rw [h.1.p1_0]; exact h.1.o2, ?_⟩
    rw [h.1.p1_0]
    exact h.ar hw ha (fun _ _ _ _ => ⟨fun _ => no rfl (fun k => nt k.1.1), fun z => absurd rfl z⟩) (fun _ => ⟨fun _ => no rfl (fun k => nt k.1.1), fun z => absurd rfl z⟩)
end FWC
