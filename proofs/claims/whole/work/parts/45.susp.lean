/-! suspects: what fits -/
section SUM
variable {f g : Nat → Int}
theorem sumP_add (P Q : Nat → Int) : ∀ n, sumP (fun s => P s + Q s) n = sumP P n + sumP Q n := by
  intro n
  induction n with
  | zero => rfl
  | succ n ih => show sumP _ n + (P n + Q n) = (sumP P n + P n) + (sumP Q n + Q n); rw [ih]; omega
theorem sumP_congr {P Q : Nat → Int} : ∀ n, (∀ s, s < n → P s = Q s) → sumP P n = sumP Q n := by
  intro n
  induction n with
  | zero => intro _; rfl
  | succ n ih => intro h; show sumP P n + P n = sumP Q n + Q n; rw [ih (fun s hs => h s (by omega)), h n (by omega)]
theorem sumP_zero : ∀ n, sumP (fun _ => 0) n = 0 := by
  intro n
  induction n with
  | zero => rfl
  | succ n ih => show sumP _ n + 0 = 0; rw [ih]; rfl
theorem sumP_one (k : Int) (x : Int) : ∀ n : Nat, sumP (fun s => if k = (s : Int) then x else 0) n = if 0 ≤ k ∧ k < n then x else 0 := by
  intro n
  induction n with
  | zero => rw [if_neg (by omega)]; rfl
  | succ n ih =>
    show sumP _ n + (if k = (n : Int) then x else 0) = _
    rw [ih]
    by_cases h : k = n
    · rw [if_pos h, if_neg (by omega), if_pos (by omega)]; omega
    · rw [if_neg h]
      by_cases h2 : 0 ≤ k ∧ k < n
      · rw [if_pos h2, if_pos (by omega)]; omega
      · rw [if_neg h2, if_neg (by omega)]; omega
theorem sumP_le {P Q : Nat → Int} : ∀ n, (∀ s, s < n → P s ≤ Q s) → sumP P n ≤ sumP Q n ∧ (sumP P n = sumP Q n → ∀ s, s < n → P s = Q s) := by
  intro n
  induction n with
  | zero => intro _; exact ⟨Int.le_refl _, fun _ s hs => absurd hs (by omega)⟩
  | succ n ih =>
    intro h
    have h1 := ih (fun s hs => h s (by omega))
    have h2 := h n (by omega)
    refine ⟨?_, fun e s hs => ?_⟩
    · show sumP P n + P n ≤ sumP Q n + Q n; omega
    · have e : sumP P n + P n = sumP Q n + Q n := e
      by_cases q : s = n
      · rw [q]; omega
      · exact h1.2 (by omega) s (by omega)
theorem sumP_swap (h : Nat → Nat → Int) : ∀ a b, sumP (fun q => sumP (fun e => h q e) b) a = sumP (fun e => sumP (fun q => h q e) a) b := by
  intro a
  induction a with
  | zero => intro b; exact (sumP_zero b).symm
  | succ a ih =>
    intro b
    show sumP (fun q => sumP (fun e => h q e) b) a + sumP (fun e => h a e) b = sumP (fun e => sumP (fun q => h q e) a + h a e) b
    rw [ih, sumP_add]
/-- all that is laid is what came -/
theorem lyP_sum : ∀ n : Nat, (∀ i, i < n → -1 ≤ f i ∧ f i < 256) → sumP (lyP f g zeroP 0 n) 256 = lyN f g 0 n := by
  intro n
  induction n with
  | zero => intro _; exact sumP_zero 256
  | succ n ih =>
    intro h
    have h1 := h n (by omega)
    have e : lyP f g zeroP 0 (n + 1) = fun s => lyP f g zeroP 0 n s + (if f n = (s : Int) then g n else 0) := by
      funext s; rw [lyP_z, Nat.zero_add]
    rw [e, sumP_add, ih (fun i hi => h i (by omega)), sumP_one]
    show _ = lyN f g 0 n + if f (0 + n) = -1 then 0 else g (0 + n)
    rw [Nat.zero_add]
    by_cases q : f n = -1
    · rw [if_pos q, if_neg (by omega)]
    · rw [if_neg q, if_pos (by omega)]
theorem lyP_mono {n : Nat} (hg : ∀ i, i < n → 0 ≤ g i) (s : Nat) : ∀ m, m ≤ n → lyP f g zeroP 0 m s ≤ lyP f g zeroP 0 n s := by
  refine lp (Int.le_refl _) (fun m hm ih => ?_)
  have := lyP_grow (f := f) hg 0 s m (by omega)
  omega
end SUM
/-- a wear that lays the same -/
def alk (v : Vt) (t : Nat) (d o : Int) (j : Nat) (k s e : Int) : Prop := ∀ s', s' < 256 → lyP (spw v t d o j k s e) (amt (v.2.1 t) (v.2.2.1 5)) zeroP 0 (v.2.1 t 0 1).toNat s' = lyP (fPlay v t d o) (amt (v.2.1 t) (v.2.2.1 5)) zeroP 0 (v.2.1 t 0 1).toNat s'
theorem wpl_in {T : Nat → Nat → Int} {A : Nat → Nat → Int} {j n : Nat} {k s e : Int} (hj : j < 3) (hs : 0 ≤ s) (he : 0 ≤ e) (hp : ∀ i : Nat, i < n → isPo A (T 1 i)) : ∀ i : Nat, i < n → A 2 j ≤ wpl T j k s e i ∧ wpl T j k s e i ≤ A 3 j := by
  have key : ∀ (i : Nat) (b : Int), i < n → ((i : Int) ≤ e ∨ s = 0 ∨ k = 0 ∨ (A 2 j ≤ b ∧ b ≤ A 3 j)) → A 2 j ≤ wps T j k s e i b ∧ wps T j k s e i b ≤ A 3 j := by
    intro i b hi hb
    have h1 := (hp i hi).2.2 j hj
    have h2 := (hp (max ((i : Int) - s) 0).toNat (by omega)).2.2 j hj
    unfold wps
    split
    · exact h1
    · split
      · exact h2
      · split
        · exact h1
        · have : A 2 j ≤ b ∧ b ≤ A 3 j := by
            rcases hb with z | z | z | z
            · omega
            · omega
            · omega
            · exact z
          omega
  intro i
  induction i with
  | zero =>
    intro hi
    exact key 0 0 hi (Or.inl he)
  | succ i ih => intro hi; exact key (i + 1) _ hi (Or.inr (Or.inr (Or.inr (ih (by omega)))))
section DBT
variable {l : Launch} {σ σ' : Sg} {v v' : Vt} {c : Nat} {t a : Nat} {d o : Int} {f : Nat → Int}
/-- the doubt's rows: the paint of the tape alone -/
def DbS (σ : Sg) (v : Vt) (t : Nat) (d o : Int) (n : Nat) : Prop := σ.2.1 62 6 = I n ∧ σ.2.1 62 7 = I (lyN (fPlay v t d o) (amt (v.2.1 t) (v.2.2.1 5)) 0 n) ∧ (∀ i, i < n → σ.2.1 65 i = I (amt (v.2.1 t) (v.2.2.1 5) i)) ∧ ∀ s, s < 256 → σ.2.1 66 s = I (lyP (fPlay v t d o) (amt (v.2.1 t) (v.2.2.1 5)) zeroP 0 n s)
/-- the spots of a joint's places -/
def DbP (σ : Sg) (v : Vt) (t : Nat) (d o : Int) (n j : Nat) : Prop := ∀ i p : Nat, i < n → v.1 (v.2.1 t 0 0).toNat 2 j ≤ p → (p : Int) ≤ v.1 (v.2.1 t 0 0).toNat 3 j → σ.2.1 63 (16 * i + p) = I (spt (v.1 (v.2.1 t 0 0).toNat) d o (wpo (v.2.1 t 1 i) j p) i)
theorem q_takePaint {K : Sg → Prop} {n : Nat} (h : CR σ v) (hw : WF c v) (hA : Aim σ v t d o) (ea : v.2.1 t 0 0 = a) (hn : v.2.1 t 0 1 = n) (hK : ∀ σ', Onl [61, 62, 65, 66] σ σ' → DbS σ' v t d o n → K σ') : Con l mX1_takePaint [.inr 62, .inr 60, .inr (5 + 5 * a)] σ (PV K) := by
  obtain ⟨a', ea', ha, ht, ht1, hwf, hj1, n0, n40, hpo⟩ := hA.w hw
  have : a' = a := by omega
  subst this
  have hw0 := hw.1
  obtain ⟨g, eg⟩ : ∃ g, g = amt (v.2.1 t) (v.2.2.1 5) := ⟨_, rfl⟩
  obtain ⟨f, ef⟩ : ∃ f, f = fPlay v t d o := ⟨_, rfl⟩
  unfold DbS at hK
  rw [← eg, ← ef] at hK
  have wr := ((hw.2.2.1 a' ha).1).2.2.2.2
  have w5 := (h.A ha).2.2.2.2
  have e7 : σ.2.1 (5 + 5 * a') 7 = I (v.1 a' 5 0) := w5 0 (by omega)
  have e8 : σ.2.1 (5 + 5 * a') 8 = I (v.1 a' 5 1) := w5 1 (by omega)
  have e9 : σ.2.1 (5 + 5 * a') 9 = I (v.1 a' 5 2) := w5 2 (by omega)
  have e10 : σ.2.1 (5 + 5 * a') 10 = I (v.1 a' 5 3) := w5 3 (by omega)
  refine eX1_takePaint ⟨(h.A ha).ob, h.1.o60, ?_⟩
  rw [e7, e8, e9, e10, show v.1 a' 5 0 = (((v.1 a' 5 0).toNat : Nat) : Int) by omega]
  refine q_draw h hw hA (by omega) (by omega) (by omega) (by omega) (fun σ2 o2 hs => ?_)
  obtain ⟨h2, f2⟩ := h.onl hw o2 (by decide)
  have hA2 := hA.onl o2 (by decide)
  refine q_ticks h2 hw hA2 (q_min (b := 40) ⟨by omega, by omega⟩ ⟨by omega, by omega⟩ ⟨h2.1.o62, fun σ7 e7 σ8 e8 => ?_⟩)
  rw [show min (v.2.1 t 0 1) 40 = n by omega] at e7
  have hf : ∀ i, i < n → -1 ≤ f i ∧ f i < 256 := fun i _ => by rw [ef]; exact spw_rg _ _ _ _ _ _ _ _ _
  have hs2 : ∀ i, i < n → σ2.2.1 61 i = I (f i) := fun i hi => by rw [hs i (by omega), ef]; unfold fPlay; rw [ea', I_tn]
  have o8 : Onl [61, 62, 65, 66] σ σ8 := (o2.up (by decide)).tr ((Onl.w e7 (by decide)).tr (Onl.w e8 (by decide)))
  have F2 : ∀ i, i ≤ n → ∀ σ', Onl [61, 62, 65, 66] σ σ' → σ'.2.1 61 = σ2.2.1 61 → σ'.2.1 62 6 = I n → σ'.2.1 62 7 = I (lyN f g 0 i) → (∀ i', i' < i → σ'.2.1 65 i' = I (g i')) → (∀ s, s < 256 → σ'.2.1 66 s = I (lyP f g zeroP 0 i s)) → GW l mX1_takePaint 62 [(0, .inr 62), (1, .inr 60), (2, .inr (5 + 5 * a')), (3, .inl (I i))] [] σ' 0 0 (PV K) := by
    refine lp ?_ ?_
    · intro σ' o' e61 e6 e7 e65 e66
      refine gX1_takePaint_62 ⟨(o'.C h.1).o62, fun _ => hK σ' o' ⟨e6, e7, e65, e66⟩, fun q => absurd ?_ q⟩
      rw [e6]; exact (I_le ⟨by omega, by omega⟩ ⟨by omega, by omega⟩).mpr (by omega)
    · intro i hi ih σ' o' e61 e6 e7 e65 e66
      obtain ⟨h', f'⟩ := h.onl hw o' (by decide)
      have hA' := hA.onl o' (by decide)
      have fi := hf i hi
      refine gX1_takePaint_62 ⟨h'.1.o62, fun q => ?_, fun _ => ⟨fun q => ?_, fun _ => ⟨h'.1.o60, q_amount h' hw hA' (by omega) ⟨h'.1.a62_2 (by omega) (by omega), fun σ7 e7' => ?_⟩⟩⟩⟩
      · rw [e6, I_le ⟨by omega, by omega⟩ ⟨by omega, by omega⟩] at q; omega
      · rw [L_lit, I_le ⟨by omega, by omega⟩ ⟨by omega, by omega⟩] at q; omega
      · rw [h'.1.p62_2, I_cln (by omega), ← eg] at e7'
        have o7 := o'.tr (Onl.w e7' (by decide))
        obtain ⟨h7, f7⟩ := h.onl hw o7 (by decide)
        refine q_spotAt8 h7 (by omega) ?_
        have e7_61 : σ7.2.1 61 i = I (f i) := by rw [e7', w1_r (by omega), e61]; exact hs2 i hi
        have e7_65 : ∀ i', i' < i + 1 → σ7.2.1 65 i' = I (g i') := fun i' hi' => by
          rw [e7']
          by_cases z : i' = i
          · rw [z, w1_at]
          · rw [w1_k z]; exact e65 i' (by omega)
        rw [e7_61, I_0, I_lt' (by omega) (by omega) (by omega) (by omega), show (256 : Int32) = I 256 from rfl, I_le' (by omega) (by omega) (by omega) (by omega), I_1, I_add]
        refine ⟨fun q => ih σ7 o7 (by rw [e7', w1_r (by omega)]; exact e61) (by rw [e7', w1_r (by omega)]; exact e6) ?_ e7_65 (fun s hs => ?_), fun q => ⟨fun q => absurd q (by omega), fun _ => ?_⟩⟩
        · rw [e7', w1_r (by omega), e7]
          show _ = I (_ + if f (0 + i) = -1 then 0 else _)
          rw [Nat.zero_add, if_pos (by omega), Int.add_zero]
        · rw [e7', w1_r (by omega), e66 s hs, lyP_z, Nat.zero_add, if_neg (by omega), Int.add_zero]
        · have v65 : σ7.2.1 (σ7.2.2 62 2) (I (i : Int)).toNatClampNeg = I (g i) := by rw [h7.1.p62_2, I_cln (by omega)]; exact e7_65 i (by omega)
          refine ⟨h7.1.a62_3 (by omega) (by omega), h7.1.a62_2 (by omega) (by omega), fun σ13 e13 => ?_⟩
          rw [v65, h7.1.p62_3, I_cl (by omega) (by omega), show σ7.2.1 66 = σ'.2.1 66 by rw [e7', w1_r (by omega)], e66 _ (by omega), I_add] at e13
          have o13 := o7.tr (Onl.w e13 (by decide))
          have C13 := o13.C h.1
          refine ⟨C13.a62_2 (by omega) (by omega), fun σ15 e15 => ?_⟩
          have v15 : σ13.2.1 (σ13.2.2 62 2) (I (i : Int)).toNatClampNeg = I (g i) := by rw [C13.p62_2, I_cln (by omega), e13, w1_r (by omega)]; exact e7_65 i (by omega)
          have v7 : σ13.2.1 62 7 = I (lyN f g 0 i) := by rw [e13, w1_r (by omega), e7', w1_r (by omega)]; exact e7
          rw [v15, v7, I_add] at e15
          refine ih σ15 (o13.tr (Onl.w e15 (by decide))) (by rw [e15, w1_r (by omega), e13, w1_r (by omega), e7', w1_r (by omega)]; exact e61) (by rw [e15, w1_k (by omega), e13, w1_r (by omega), e7', w1_r (by omega)]; exact e6) ?_ (fun i' hi' => by rw [e15, w1_r (by omega), e13, w1_r (by omega)]; exact e7_65 i' hi') (fun s hs => ?_)
          · rw [e15, w1_at]
            show _ = I (_ + if f (0 + i) = -1 then 0 else g (0 + i))
            rw [Nat.zero_add, if_neg (by omega)]
          · rw [e15, w1_r (by omega), e13, lyP_z, Nat.zero_add]
            by_cases z : f i = s
            · rw [if_pos z, show (f i).toNat = s by omega, w1_at]
            · rw [if_neg z, w1_k (by omega), Int.add_zero, e7', w1_r (by omega)]; exact e66 s hs
  have F1 : ∀ i, i ≤ 256 → ∀ σ', Onl [61, 62, 65, 66] σ σ' → σ'.2.1 61 = σ2.2.1 61 → σ'.2.1 62 6 = I n → σ'.2.1 62 7 = I 0 → (∀ s, s < i → σ'.2.1 66 s = I 0) → GW l mX1_takePaint 40 [(0, .inr 62), (1, .inr 60), (2, .inr (5 + 5 * a')), (3, .inl (I i))] [] σ' 0 0 (PV K) := by
    refine lp ?_ ?_
    · intro σ' o' e61 e6 e7 e66
      refine gX1_takePaint_40 ⟨fun _ => F2 0 (by omega) σ' o' e61 e6 e7 (fun i hi => absurd hi (by omega)) e66, fun q => absurd ?_ q⟩
      rw [L_lit]; exact (I_le ⟨by omega, by omega⟩ ⟨by omega, by omega⟩).mpr (by omega)
    · intro i hi ih σ' o' e61 e6 e7 e66
      have C' := o'.C h.1
      refine gX1_takePaint_40 ⟨fun q => ?_, fun _ => ⟨C'.o62, C'.a62_3 (by omega) (by omega), fun σ4 e4 => ?_⟩⟩
      · rw [L_lit, I_le ⟨by omega, by omega⟩ ⟨by omega, by omega⟩] at q; omega
      · rw [C'.p62_3, I_cln (by omega)] at e4
        rw [I_1, I_add]
        refine ih σ4 (o'.tr (Onl.w e4 (by decide))) (by rw [e4, w1_r (by omega)]; exact e61) (by rw [e4, w1_r (by omega)]; exact e6) (by rw [e4, w1_r (by omega)]; exact e7) (fun s hs => ?_)
        by_cases z : s = i
        · rw [z, e4, w1_at]; rfl
        · rw [e4, w1_k z]; exact e66 s (by omega)
  exact F1 0 (by omega) σ8 o8 (by rw [e8, w1_r (by omega), e7, w1_r (by omega)]) (by rw [e8, w1_k (by omega), e7, w1_at]) (by rw [e8, w1_at]; rfl) (fun s hs => absurd hs (by omega))
theorem q_fillSpots {K : Sg → Prop} {n j : Nat} (h : CR σ v) (hw : WF c v) (hA : Aim σ v t d o) (ea : v.2.1 t 0 0 = a) (hn : v.2.1 t 0 1 = n) (hj : j < 3) (h6 : σ.2.1 62 6 = I n) (hK : ∀ σ', Onl [63] σ σ' → DbP σ' v t d o n j → K σ') : Con l mX1_fillSpots [.inr 62, .inr 60, .inr (5 + 5 * a), .inl (I j)] σ (PV K) := by
  obtain ⟨a', ea', ha, ht, ht1, hwf, hj1, n0, n40, hpo⟩ := hA.w hw
  have : a' = a := by omega
  subst this
  have wj := hwf.2.1 j hj
  unfold DbP at hK
  rw [ea', I_tn] at hK
  have F : ∀ i, i ≤ n → ∀ σ', Onl [63] σ σ' → (∀ i' p : Nat, i' < i → v.1 a' 2 j ≤ p → (p : Int) ≤ v.1 a' 3 j → σ'.2.1 63 (16 * i' + p) = I (spt (v.1 a') d o (wpo (v.2.1 t 1 i') j p) i')) → GW l mX1_fillSpots 3 [(0, .inr 62), (1, .inr 60), (2, .inr (5 + 5 * a')), (3, .inl (I j)), (4, .inl (I i))] [] σ' 0 0 (PV K) := by
    refine lp ?_ ?_
    · intro σ' o' hp
      refine gX1_fillSpots_3 ⟨(o'.C h.1).o62, fun _ => hK σ' o' hp, fun q => absurd ?_ q⟩
      rw [o'.2.2 62 (by decide), h6]; exact (I_le ⟨by omega, by omega⟩ ⟨by omega, by omega⟩).mpr (by omega)
    · intro i hi ih σ' o' hp
      obtain ⟨h', f'⟩ := h.onl hw o' (by decide)
      refine gX1_fillSpots_3 ⟨h'.1.o62, fun q => ?_, fun _ => ⟨fun q => ?_, fun _ => ⟨(h'.A ha).ob, q_low (h'.A ha) hj ?_⟩⟩⟩
      · rw [o'.2.2 62 (by decide), h6, I_le ⟨by omega, by omega⟩ ⟨by omega, by omega⟩] at q; omega
      · rw [L_lit, I_le ⟨by omega, by omega⟩ ⟨by omega, by omega⟩] at q; omega
      · obtain ⟨lo, elo⟩ : ∃ lo : Nat, v.1 a' 2 j = lo := ⟨(v.1 a' 2 j).toNat, by omega⟩
        obtain ⟨hi', ehi⟩ : ∃ hi : Nat, v.1 a' 3 j = hi := ⟨(v.1 a' 3 j).toNat, by omega⟩
        have G : ∀ p, p ≤ hi' + 1 → lo ≤ p → ∀ σ', Onl [63] σ σ' → (∀ i' p : Nat, i' < i → v.1 a' 2 j ≤ p → (p : Int) ≤ v.1 a' 3 j → σ'.2.1 63 (16 * i' + p) = I (spt (v.1 a') d o (wpo (v.2.1 t 1 i') j p) i')) → (∀ p' : Nat, lo ≤ p' → p' < p → σ'.2.1 63 (16 * i + p') = I (spt (v.1 a') d o (wpo (v.2.1 t 1 i) j p') i)) → GW l mX1_fillSpots 26 [(0, .inr 62), (1, .inr 60), (2, .inr (5 + 5 * a')), (3, .inl (I j)), (4, .inl (I i)), (5, .inl (I p))] [] σ' 0 0 (PV K) := by
          refine lp ?_ ?_
          · intro _ σ' o' hp hp2
            obtain ⟨h', f'⟩ := h.onl hw o' (by decide)
            refine gX1_fillSpots_26 ⟨(h'.A ha).ob, q_high (h'.A ha) hj ⟨fun _ => ?_, fun q => absurd ?_ q⟩⟩
            · rw [I_1, I_add]
              refine ih σ' o' (fun i' p y1 y2 y3 => ?_)
              by_cases z : i' = i
              · rw [z]; exact hp2 p (by omega) (by omega)
              · exact hp i' p (by omega) y2 y3
            · rw [ehi]; exact (I_lt ⟨by omega, by omega⟩ ⟨by omega, by omega⟩).mpr (by omega)
          · intro p hpl ih2 hlo σ' o' hp hp2
            obtain ⟨h', f'⟩ := h.onl hw o' (by decide)
            have hA' := hA.onl o' (by decide)
            refine gX1_fillSpots_26 ⟨(h'.A ha).ob, q_high (h'.A ha) hj ⟨fun q => ?_, fun _ => ⟨fun q => ?_, fun _ => ⟨h'.1.o62, h'.1.o60, q_spotWith h' hw hA' hj (q := p) (by omega) (by omega) ?_⟩⟩⟩⟩
            · rw [ehi, I_lt ⟨by omega, by omega⟩ ⟨by omega, by omega⟩] at q; omega
            · rw [L_lit, I_le ⟨by omega, by omega⟩ ⟨by omega, by omega⟩] at q; omega
            · rw [L_lit, I_mul, I_add]
              refine ⟨h'.1.a62_0 (by omega) (by omega), fun σ9 e9 => ?_⟩
              rw [h'.1.p62_0, I_cl (by omega) (by omega), show ((i : Int) * 16 + p).toNat = 16 * i + p by omega, ea', I_tn] at e9
              rw [I_1, I_add]
              refine ih2 (by omega) σ9 (o'.tr (Onl.w e9 (by decide))) (fun i' p' y1 y2 y3 => ?_) (fun p' y1 y2 => ?_)
              · rw [e9, w1_k (by omega)]; exact hp i' p' y1 y2 y3
              · rw [e9]
                by_cases z : p' = p
                · rw [z, w1_at]
                · rw [w1_k (by omega)]; exact hp2 p' y1 (by omega)
        rw [elo]
        exact G lo (by omega) (Nat.le_refl _) σ' o' hp (fun p' y1 y2 => absurd y1 (by omega))
  exact eX1_fillSpots (F 0 (by omega) σ (Onl.rf _ _) (fun i' p y => absurd y (by omega)))
end DBT
