/-! play: the class -/
section STK2
variable {l : Launch} {σ σ' : Sg} {v v' : Vt} {c : Nat} {t : Nat} {d o : Int}
theorem Aim.w (h : Aim σ v t d o) (hw : WF c v) : ∃ a : Nat, v.2.1 t 0 0 = a ∧ a < 2 ∧ t < 10 ∧ (t : Int) < v.2.2.1 1 ∧ ArmWf (v.1 a) ∧ 1 ≤ v.1 a 0 2 ∧ 0 ≤ v.2.1 t 0 1 ∧ v.2.1 t 0 1 ≤ 40 ∧ ∀ i : Nat, (i : Int) < v.2.1 t 0 1 → isPo (v.1 a) (v.2.1 t 1 i) ∧ 0 ≤ v.2.1 t 2 i ∧ v.2.1 t 2 i ≤ 9 := by
  have hw0 := hw.1
  have g := hw.2.2.2.1 t h.1
  have h1 := h.1
  refine ⟨(v.2.1 t 0 0).toNat, by omega, by omega, by omega, h1, (hw.2.2.1 _ (by omega)).1, g.2.2.1, g.2.2.2.1, g.2.2.2.2.1, g.2.2.2.2.2⟩
/-- the spots of a drawn wear -/
def spw (v : Vt) (t : Nat) (d o : Int) (j : Nat) (k s e : Int) (i : Nat) : Int := spt (v.1 (v.2.1 t 0 0).toNat) d o (wpo (v.2.1 t 1 i) j (wpl (v.2.1 t) j k s e i)) i
theorem q_ticks {K : Int32 → Sg → Prop} (h : CR σ v) (hw : WF c v) (hA : Aim σ v t d o) (hK : K (I (v.2.1 t 0 1)) σ) : Con l mX8_ticks [.inr 60] σ (PI K) := by
  obtain ⟨a, ea, ha, ht, ht1, hwf, hj, n0, n40, hpo⟩ := hA.w hw
  refine eX8_ticks ⟨h.1.o60, fun _ => ⟨by rw [hA.2.2.2.2.1]; exact (h.P ht).ob, ?_⟩, fun q => absurd q (by rw [hA.2.2.2.2.1]; omega)⟩
  rw [hA.2.2.2.2.1, (h.D ht1).2.1]
  refine q_min (b := 40) ⟨by omega, by omega⟩ ⟨by omega, by omega⟩ ?_
  rw [show min (v.2.1 t 0 1) 40 = v.2.1 t 0 1 by omega]; exact hK
theorem q_amount {K : Int32 → Sg → Prop} {i : Nat} (h : CR σ v) (hw : WF c v) (hA : Aim σ v t d o) (hi : (i : Int) < v.2.1 t 0 1) (hK : K (I (amt (v.2.1 t) (v.2.2.1 5) i)) σ) : Con l mX8_amountAt [.inr 60, .inl (I i)] σ (PI K) := by
  obtain ⟨a, ea, ha, ht, ht1, hwf, hj, n0, n40, hpo⟩ := hA.w hw
  have hw0 := hw.1
  have hs := (hpo i hi).2
  have hb := amt_rg (z := v.2.2.1 5) hs.1 hs.2 (by omega) (by omega)
  refine eX8_amountAt ⟨h.1.o60, fun _ => ⟨by rw [hA.2.2.2.2.1]; exact (h.P ht).ob, ?_⟩, fun q => absurd q (by rw [hA.2.2.2.2.1]; omega)⟩
  rw [hA.2.2.2.2.1]
  refine q_sprayAt (h.P ht) (h.D ht1) n0 n40 ⟨by omega, by omega⟩ (fun _ _ => ?_) (fun q => absurd ⟨by omega, by omega⟩ q)
  rw [hA.2.2.2.2.2.2.2, I_tn, I_mul, L_lit, I_div (b := 10) ⟨by omega, by omega⟩ ⟨by omega, by omega⟩ (by rw [Int.tdiv_eq_ediv_of_nonneg hb.1]; exact ⟨by omega, by omega⟩), Int.tdiv_eq_ediv_of_nonneg hb.1]
  exact hK
theorem q_wornPlace {K : Int32 → Sg → Prop} {j i : Nat} {k s e b : Int} (h : CR σ v) (hw : WF c v) (ht1 : (t : Int) < v.2.2.1 1) (ht : t < 10) (hj : j < 3) (hs : 0 ≤ s ∧ s ≤ 3) (he : 0 ≤ e ∧ e ≤ 39) (hk : k = 0 ∨ k = 1) (hi : (i : Int) < v.2.1 t 0 1) (hb : 0 ≤ b ∧ b < 16) (hK : K (I (wps (v.2.1 t) j k s e i b)) σ) : Con l mX9_wornPlace [.inr (15 + 3 * t), .inl (I j), .inl (I k), .inl (I s), .inl (I e), .inl (I i), .inl (I b)] σ (PI K) := by
  have g := hw.2.2.2.1 t ht1
  have n0 := g.2.2.2.1; have n40 := g.2.2.2.2.1
  have gp := g.2.2.2.2.2
  have pi := (gp i hi).1
  have r1 := plc_rg (v.2.1 t 1 i) j
  refine eX9_wornPlace ⟨(h.P ht).ob, q_poseAt (h.P ht) (h.D ht1) n0 n40 ⟨by omega, by omega⟩ (fun _ _ => ?_) (fun q => absurd ⟨by omega, by omega⟩ q)⟩
  rw [I_tn]
  refine q_placeOf pi.1 (by have := pi.2.1; omega) hj ?_
  simp (disch := omega) only [I_0, I_eq', I_le']
  refine ⟨fun q => ?_, fun q => ⟨fun q2 => ⟨fun q3 => ⟨fun q4 => ?_, fun q4 => ?_⟩, fun q3 => ?_⟩, fun q2 => ?_⟩⟩
  · unfold wps at hK; rw [if_pos (Or.inl q)] at hK; exact hK
  · rw [I_sub]
    refine q_max ⟨by omega, by omega⟩ ⟨by omega, by omega⟩ (q_min ⟨by omega, by omega⟩ ⟨by omega, by omega⟩ ?_)
    unfold wps at hK; rw [if_neg (by omega), if_neg q3, if_neg q4] at hK; exact hK
  · unfold wps at hK; rw [if_neg (by omega), if_neg q3, if_pos q4] at hK; exact hK
  · rw [I_sub]
    refine q_max (b := 0) ⟨by omega, by omega⟩ ⟨by omega, by omega⟩ ?_
    refine q_poseAt (h.P ht) (h.D ht1) n0 n40 ⟨by omega, by omega⟩ (fun _ _ => ?_) (fun q => absurd ⟨by omega, by omega⟩ q)
    have pi2 := (gp (max ((i : Int) - s) 0).toNat (by omega)).1
    refine q_placeOf pi2.1 (by have := pi2.2.1; omega) hj ?_
    unfold wps at hK; rw [if_neg (by omega), if_pos q3] at hK; exact hK
  · unfold wps at hK; rw [if_pos (by omega)] at hK; exact hK
theorem q_wornPlace8 {K : Int32 → Sg → Prop} {j i : Nat} {k s e b : Int} (h : CR σ v) (hw : WF c v) (hA : Aim σ v t d o) (hj : j < 3) (hs : 0 ≤ s ∧ s ≤ 3) (he : 0 ≤ e ∧ e ≤ 39) (hk : k = 0 ∨ k = 1) (hi : (i : Int) < v.2.1 t 0 1) (hb : 0 ≤ b ∧ b < 16) (hK : K (I (wps (v.2.1 t) j k s e i b)) σ) : Con l mX8_wornPlace [.inr 60, .inl (I j), .inl (I k), .inl (I s), .inl (I e), .inl (I i), .inl (I b)] σ (PI K) := by
  obtain ⟨a, ea, ha, ht, ht1, hwf, hj1, n0, n40, hpo⟩ := hA.w hw
  refine eX8_wornPlace ⟨h.1.o60, fun _ => ⟨by rw [hA.2.2.2.2.1]; exact (h.P ht).ob, ?_⟩, fun q => absurd q (by rw [hA.2.2.2.2.1]; omega)⟩
  rw [hA.2.2.2.2.1]
  exact q_wornPlace h hw ht1 ht hj hs he hk hi hb hK
theorem q_spotWith {K : Int32 → Sg → Prop} {j i : Nat} {q : Int} (h : CR σ v) (hw : WF c v) (hA : Aim σ v t d o) (hj : j < 3) (hq : 0 ≤ q ∧ q < 16) (hi : (i : Int) < v.2.1 t 0 1) (hK : K (I (spt (v.1 (v.2.1 t 0 0).toNat) d o (wpo (v.2.1 t 1 i) j q) i)) σ) : Con l mX8_spotWith [.inr 60, .inl (I j), .inl (I q), .inl (I i)] σ (PI K) := by
  obtain ⟨a, ea, ha, ht, ht1, hwf, hj1, n0, n40, hpo⟩ := hA.w hw
  have h60 := hA.2.2.2.1
  rw [ea, I_tn] at h60 hK
  have pi := (hpo i hi).1
  have wr := wpo_rg pi.1 pi.2.1 hj hq.1 hq.2
  have t0 := tip_rg hwf (wpo (v.2.1 t 1 i) j q) (Or.inl rfl)
  have t1 := tip_rg hwf (wpo (v.2.1 t 1 i) j q) (Or.inr rfl)
  have dm := mul2000 (i := i) hA.2.1.1 hA.2.1.2 (by omega)
  have ho := hA.2.2.1
  refine eX8_spotWith ⟨h.1.o60, fun q => absurd q (by rw [h60]; omega), fun _ => ⟨fun _ => ⟨by rw [hA.2.2.2.2.1]; exact (h.P ht).ob, ?_⟩, fun q => absurd q (by rw [hA.2.2.2.2.1]; omega)⟩⟩
  rw [hA.2.2.2.2.1]
  refine q_poseAt (h.P ht) (h.D ht1) n0 n40 ⟨by omega, by omega⟩ (fun _ _ => ?_) (fun q => absurd ⟨by omega, by omega⟩ q)
  rw [I_tn]
  refine eX11_withPlace ?_
  rw [wp_I pi.1 pi.2.1 hj hq.1 hq.2, h60]
  refine ⟨(h.A ha).ob, q_tipX (h.A ha) hwf wr.1 (by omega) ?_⟩
  rw [hA.2.2.2.2.2.1, hA.2.2.2.2.2.2.1, I_sub, I_mul, I_sub]
  refine q_floorDiv (b := 1000) ⟨by omega, by omega⟩ (by omega) (by omega) ?_
  rw [h60]
  refine ⟨(h.A ha).ob, q_tipY (h.A ha) hwf wr.1 (by omega) (q_floorDiv (b := 1000) ⟨by omega, by omega⟩ (by omega) (by omega) ?_)⟩
  refine q_spotAt ⟨by omega, by omega⟩ ⟨by omega, by omega⟩ (fun a1 a2 => ?_) (fun a1 => ?_)
  · unfold spt sptX at hK; rw [if_pos ⟨a1, a2⟩] at hK; exact hK
  · unfold spt sptX at hK; rw [if_neg a1] at hK; exact hK
theorem wpl_step (T : Nat → Nat → Int) (j : Nat) (k s e : Int) (i : Nat) : wps T j k s e i (if i = 0 then 0 else wpl T j k s e (i - 1)) = wpl T j k s e i := by
  cases i with
  | zero => rfl
  | succ i => rfl
theorem q_draw {K : Sg → Prop} {j : Nat} {k s e : Int} (h : CR σ v) (hw : WF c v) (hA : Aim σ v t d o) (hj : j < 3) (hs : 0 ≤ s ∧ s ≤ 3) (he : 0 ≤ e ∧ e ≤ 39) (hk : k = 0 ∨ k = 1) (hK : ∀ σ', Onl [61] σ σ' → (∀ i : Nat, (i : Int) < v.2.1 t 0 1 → σ'.2.1 61 i = I (spw v t d o j k s e i)) → K σ') : Con l mX8_draw [.inr 60, .inl (I j), .inl (I k), .inl (I s), .inl (I e)] σ (PV K) := by
  obtain ⟨a, ea, ha, ht, ht1, hwf, hj1, n0, n40, hpo⟩ := hA.w hw
  obtain ⟨n, hn⟩ : ∃ n : Nat, v.2.1 t 0 1 = n := ⟨(v.2.1 t 0 1).toNat, by omega⟩
  have F : ∀ i, i ≤ n → ∀ σ', Onl [61] σ σ' → (∀ i' : Nat, i' < i → σ'.2.1 61 i' = I (spw v t d o j k s e i')) → GW l mX8_draw 6 [(0, .inr 60), (1, .inl (I j)), (2, .inl (I k)), (3, .inl (I s)), (4, .inl (I e)), (5, .inl (I (if i = 0 then 0 else wpl (v.2.1 t) j k s e (i - 1)))), (6, .inl (I i))] [] σ' 0 0 (PV K) := by
    refine lp ?_ ?_
    · intro σ' h1 h2
      obtain ⟨h', f'⟩ := h.onl hw h1 (by decide)
      refine gX8_draw_6 ⟨h'.1.o60, q_ticks h' hw (hA.onl h1 (by decide)) ⟨fun _ => hK σ' h1 (fun i hi => h2 i (by omega)), fun q => absurd ?_ q⟩⟩
      rw [hn]; exact (I_le ⟨by omega, by omega⟩ ⟨by omega, by omega⟩).mpr (by omega)
    · intro i hi ih σ' h1 h2
      obtain ⟨h', f'⟩ := h.onl hw h1 (by decide)
      have hA' := hA.onl h1 (by decide)
      have hb : 0 ≤ (if i = 0 then 0 else wpl (v.2.1 t) j k s e (i - 1)) ∧ (if i = 0 then 0 else wpl (v.2.1 t) j k s e (i - 1)) < 16 := by
        split
        · omega
        · exact wpl_rg _ j k e hs.1 _
      have hb2 := wpl_rg (v.2.1 t) j k e hs.1 i
      refine gX8_draw_6 ⟨h'.1.o60, q_ticks h' hw hA' ⟨fun q => ?_, fun _ => ⟨fun q => ?_, fun _ => ?_⟩⟩⟩
      · rw [hn, I_le ⟨by omega, by omega⟩ ⟨by omega, by omega⟩] at q; omega
      · rw [L_lit, I_le ⟨by omega, by omega⟩ ⟨by omega, by omega⟩] at q; omega
      · refine q_wornPlace8 h' hw hA' hj hs he hk (by omega) hb ?_
        rw [wpl_step]
        refine q_spotWith h' hw hA' hj hb2 (by omega) ⟨h'.1.a60_0 (by omega) (by omega), fun σ8 e8 => ?_⟩
        rw [h'.1.p60_0, I_cln (by omega)] at e8
        rw [I_1, I_add]
        have := ih σ8 (h1.tr (Onl.w e8 (by decide))) (fun i' hi' => ?_)
        · rw [if_neg (by omega)] at this; exact this
        · by_cases q : i' = i
          · rw [q, e8, w1_at]; rfl
          · rw [e8, w1_k q]; exact h2 i' (by omega)
  exact eX8_draw (F 0 (by omega) σ (Onl.rf _ _) (fun i hi => absurd hi (by omega)))
theorem q_spotAt8 {K : Int32 → Sg → Prop} {i : Nat} (h : CR σ v) (hi : i < 40) (hK : K (σ.2.1 61 i) σ) : Con l mX8_spotAt [.inr 60, .inl (I i)] σ (PI K) := by
  refine eX8_spotAt ?_
  simp (disch := omega) only [L_lit, I_lt', I_le']
  refine ⟨fun q => absurd q (by omega), fun _ => ⟨fun q => absurd q (by omega), fun _ => ⟨h.1.o60, h.1.a60_0 (by omega) (by omega), ?_⟩⟩⟩
  rw [h.1.d60_0 (by omega) (by omega), I_tn]; exact hK
theorem setP_P {P : Nat → Int} : (setP v P).2.2.2 1 = P := rfl
theorem WF.setP {P : Nat → Int} {c' : Nat} (hw : WF c v) (hc : c ≤ c') (h512 : c' ≤ 512) (hP : ∀ s, s < 256 → 0 ≤ P s ∧ P s ≤ 1080 * (c' : Int)) : WF c' (setP v P) := ⟨hw.1, hw.2.1, hw.2.2.1, hw.2.2.2.1, hw.2.2.2.2.1, hP, h512⟩
theorem q_lay {K : Int32 → Sg → Prop} {f : Nat → Int} (h : CR σ v) (hw : WF c v) (hc : c + 1 ≤ 512) (hA : Aim σ v t d o) (hf : ∀ i : Nat, (i : Int) < v.2.1 t 0 1 → σ.2.1 61 i = I (f i) ∧ -1 ≤ f i ∧ f i < 256) (hK : ∀ n : Nat, v.2.1 t 0 1 = n → ∀ σ', CR σ' (setP v (lyP f (amt (v.2.1 t) (v.2.2.1 5)) (v.2.2.2 1) 0 n)) → CF σ σ' → WF (c + 1) (setP v (lyP f (amt (v.2.1 t) (v.2.2.1 5)) (v.2.2.2 1) 0 n)) → K (I (lyN f (amt (v.2.1 t) (v.2.2.1 5)) 0 n)) σ') : Con l mX2_lay [.inr 57, .inr 60] σ (PI K) := by
  obtain ⟨a, ea, ha, ht, ht1, hwf, hj1, n0, n40, hpo⟩ := hA.w hw
  obtain ⟨n, hn⟩ : ∃ n : Nat, v.2.1 t 0 1 = n := ⟨(v.2.1 t 0 1).toNat, by omega⟩
  have hw0 := hw.1
  have hpb := hw.2.2.2.2.2.1
  have g27 : ∀ i, i < n → 0 ≤ amt (v.2.1 t) (v.2.2.1 5) i ∧ amt (v.2.1 t) (v.2.2.1 5) i ≤ 27 := by
    intro i hi
    have := amt_rg (z := v.2.2.1 5) (hpo i (by omega)).2.1 (hpo i (by omega)).2.2 (by omega) (by omega)
    unfold amt; omega
  have wP : ∀ i, i ≤ n → WF (c + 1) (setP v (lyP f (amt (v.2.1 t) (v.2.2.1 5)) (v.2.2.2 1) 0 i)) := fun i hi => hw.setP (by omega) hc (fun s hs => by
    have := lyP_rg (f := f) (g := amt (v.2.1 t) (v.2.2.1 5)) (P := v.2.2.2 1) (a := 0) s (hpb s hs) i (fun i' _ b => g27 i' (by omega))
    omega)
  have toC : ∀ σ' (P : Nat → Int), Onl [58] σ σ' → (∀ s, s < 256 → σ'.2.1 58 s = I (P s)) → CR σ' (setP v P) ∧ CF σ σ' := fun σ' P h1 h2 => h.paintOnly (by omega) h1.1 h1.2.1 (fun r a _ _ _ => h1.2.2 r (fun q => a (List.mem_singleton.mp q))) h2
  have toA : ∀ {σ' : Sg}, Onl [58] σ σ' → ∀ (P : Nat → Int), Aim σ' (setP v P) t d o := fun h1 P => hA.onl h1 (by decide)
  have F : ∀ i, i ≤ n → ∀ σ', Onl [58] σ σ' → (∀ s, s < 256 → σ'.2.1 58 s = I (lyP f (amt (v.2.1 t) (v.2.2.1 5)) (v.2.2.2 1) 0 i s)) → GW l mX2_lay 4 [(0, .inr 57), (1, .inr 60), (2, .inl (I (lyN f (amt (v.2.1 t) (v.2.2.1 5)) 0 i))), (3, .inl (I i))] [] σ' 0 0 (PI K) := by
    refine lp ?_ ?_
    · intro σ' h1 h2
      obtain ⟨h', f'⟩ := toC σ' _ h1 h2
      have wn := wP n (by omega)
      refine gX2_lay_4 ⟨h'.1.o60, q_ticks h' wn (toA h1 _) ⟨fun _ => hK n hn σ' h' f' wn, fun q => absurd ?_ q⟩⟩
      show I (v.2.1 t 0 1) ≤ I (n : Int)
      rw [hn]; exact (I_le ⟨by omega, by omega⟩ ⟨by omega, by omega⟩).mpr (by omega)
    · intro i hi ih σ' h1 h2
      obtain ⟨h', f'⟩ := toC σ' _ h1 h2
      have wn := wP i (by omega)
      have hfi := hf i (by omega)
      have e61 : σ'.2.1 61 i = I (f i) := by rw [h1.2.2 61 (by decide)]; exact hfi.1
      refine gX2_lay_4 ⟨h'.1.o60, q_ticks h' wn (toA h1 _) ⟨fun q => ?_, fun _ => q_spotAt8 h' (by omega) ?_⟩⟩
      · have q : I (v.2.1 t 0 1) ≤ I (i : Int) := q
        rw [hn, I_le ⟨by omega, by omega⟩ ⟨by omega, by omega⟩] at q; omega
      · rw [e61]
        simp (disch := omega) only [I_0, L_lit, I_lt', I_le']
        refine ⟨fun q => ?_, fun q => ⟨fun q => absurd q (by omega), fun _ => ⟨h'.1.o57, h'.1.a57_0 (by omega) (by omega), ?_⟩⟩⟩
        · have := ih σ' h1 (fun s hs => by
            rw [h2 s hs]
            show _ = I (_ + if f (0 + i) = (s : Int) then _ else 0)
            rw [Nat.zero_add, if_neg (by omega), Int.add_zero])
          have e : lyN f (amt (v.2.1 t) (v.2.2.1 5)) 0 (i + 1) = lyN f (amt (v.2.1 t) (v.2.2.1 5)) 0 i := by
            show _ + (if f (0 + i) = -1 then 0 else _) = _
            rw [Nat.zero_add, if_pos (by omega), Int.add_zero]
          rw [e] at this
          rw [I_add]; exact this
        · refine q_amount h' wn (toA h1 _) (by show (i : Int) < v.2.1 t 0 1; omega) (fun σ10 e10 => ?_)
          rw [h'.1.p57_0, I_cl (by omega) (by omega), h2 _ (by omega), I_add] at e10
          have h3 := h1.tr (Onl.w e10 (by decide))
          have h4 : ∀ s, s < 256 → σ10.2.1 58 s = I (lyP f (amt (v.2.1 t) (v.2.2.1 5)) (v.2.2.2 1) 0 (i + 1) s) := by
            intro s hs
            show _ = I (_ + if f (0 + i) = (s : Int) then amt (v.2.1 t) (v.2.2.1 5) (0 + i) else 0)
            rw [Nat.zero_add]
            by_cases q : f i = s
            · rw [if_pos q, e10, show (f i).toNat = s by omega, w1_at]; rfl
            · rw [if_neg q, e10, w1_k (by omega), Int.add_zero]; exact h2 s hs
          obtain ⟨h5, f5⟩ := toC σ10 _ h3 h4
          refine q_amount h5 (wP (i + 1) (by omega)) (toA h3 _) (by show (i : Int) < v.2.1 t 0 1; omega) ?_
          have := ih σ10 h3 h4
          have e : lyN f (amt (v.2.1 t) (v.2.2.1 5)) 0 (i + 1) = lyN f (amt (v.2.1 t) (v.2.2.1 5)) 0 i + amt (v.2.1 t) (v.2.2.1 5) i := by
            show _ + (if f (0 + i) = -1 then 0 else amt (v.2.1 t) (v.2.2.1 5) (0 + i)) = _
            rw [Nat.zero_add, if_neg (by omega)]
          rw [e] at this
          rw [I_add, I_add]; exact this
  exact eX2_lay (F 0 (by omega) σ (Onl.rf _ _) (fun s hs => h.2.2.2.2.2.1 s hs))
/-! play -/
def fPlay (v : Vt) (t : Nat) (d o : Int) : Nat → Int := spw v t d o (v.1 (v.2.1 t 0 0).toNat 5 0).toNat (v.1 (v.2.1 t 0 0).toNat 5 1) (v.1 (v.2.1 t 0 0).toNat 5 2) (v.1 (v.2.1 t 0 0).toNat 5 3)
noncomputable def aPlay (v : Vt) (t d o : Int) : Int := cif (okAim v t d o) (lyN (fPlay v t.toNat d o) (amt (v.2.1 t.toNat) (v.2.2.1 5)) 0 (v.2.1 t.toNat 0 1).toNat) (-1)
noncomputable def nPlay (v : Vt) (t d o : Int) : Vt := vif (okAim v t d o) (setP v (lyP (fPlay v t.toNat d o) (amt (v.2.1 t.toNat) (v.2.2.1 5)) (v.2.2.2 1) 0 (v.2.1 t.toNat 0 1).toNat)) v
theorem spw_rg (v : Vt) (t : Nat) (d o : Int) (j : Nat) (k s e : Int) (i : Nat) : -1 ≤ spw v t d o j k s e i ∧ spw v t d o j k s e i < 256 := spt_rg _ _ _ _ _
theorem C_play {z d o : Int} (h : CR σ v) (hw : WF c v) (hc : c + 1 ≤ 512) (hz : Rg z) (hd : Rg d) (ho : Rg o) : Con l mX11_play [.inr 1, .inl (I z), .inl (I d), .inl (I o)] σ (PI fun x σ' => x = I (aPlay v z d o) ∧ CR σ' (nPlay v z d o) ∧ CF σ σ') := by
  refine eX11_play ⟨h.1.o1, q_aimed h hw hz hd ho (fun t a σ1 et ht ea ha hj ok h1 f1 E hA => ⟨fun _ => ⟨(h1.A ha).ob, by rw [h1.1.p1_4]; exact h1.1.o60, ?_⟩, fun q => absurd q (by omega)⟩) (fun q => ⟨fun q => absurd rfl q, fun _ => ?_⟩)⟩
  · have wr := ((hw.2.2.1 a ha).1).2.2.2.2
    have w5 := (h1.A ha).2.2.2.2
    have e7 : σ1.2.1 (5 + 5 * a) 7 = I (v.1 a 5 0) := w5 0 (by omega)
    have e8 : σ1.2.1 (5 + 5 * a) 8 = I (v.1 a 5 1) := w5 1 (by omega)
    have e9 : σ1.2.1 (5 + 5 * a) 9 = I (v.1 a 5 2) := w5 2 (by omega)
    have e10 : σ1.2.1 (5 + 5 * a) 10 = I (v.1 a 5 3) := w5 3 (by omega)
    rw [h1.1.p1_4, e7, e8, e9, e10, show v.1 a 5 0 = (((v.1 a 5 0).toNat : Nat) : Int) by omega]
    refine q_draw h1 hw hA (by omega) (by omega) (by omega) (by omega) (fun σ5 o5 hs => ?_)
    obtain ⟨h5, f5⟩ := h1.onl hw o5 (by decide)
    refine ⟨by rw [h5.1.p1_3]; exact h5.1.o57, ?_⟩
    rw [h5.1.p1_3, h5.1.p1_4]
    refine q_lay (f := fPlay v t d o) h5 hw hc (hA.onl o5 (by decide)) (fun i hi => ⟨?_, spw_rg _ _ _ _ _ _ _ _ _⟩) (fun n hn σ7 h7 f7 w7 => ?_)
    · rw [hs i hi]; unfold fPlay; rw [ea, I_tn]
    · unfold aPlay nPlay
      rw [cif_t ok, vif_t ok, et, I_tn, hn, I_tn]
      exact ⟨rfl, h7, f1.tr (f5.tr f7)⟩
  · unfold aPlay nPlay
    rw [cif_f q, vif_f q]; exact ⟨rfl, h, CF.rf _⟩
theorem W_play {z d o : Int} (hw : WF c v) (hc : c + 1 ≤ 512) : WF (c + 1) (nPlay v z d o) := by
  unfold nPlay
  by_cases ok : okAim v z d o
  · rw [vif_t ok]
    have hw0 := hw.1
    have ht := ok.1
    have g := hw.2.2.2.1 z.toNat (by omega)
    refine hw.setP (by omega) hc (fun s hs => ?_)
    have := lyP_rg (f := fPlay v z.toNat d o) (g := amt (v.2.1 z.toNat) (v.2.2.1 5)) (P := v.2.2.2 1) (a := 0) s (hw.2.2.2.2.2.1 s hs) (v.2.1 z.toNat 0 1).toNat (fun i' _ b => by
      have g2 := (g.2.2.2.2.2 i' (by omega)).2
      have := amt_rg (z := v.2.2.1 5) g2.1 g2.2 (by omega) (by omega)
      unfold amt; omega)
    omega
  · rw [vif_f ok]
    exact ⟨hw.1, hw.2.1, hw.2.2.1, hw.2.2.2.1, hw.2.2.2.2.1, fun s hs => by have := hw.2.2.2.2.2.1 s hs; omega, hc⟩
end STK2
