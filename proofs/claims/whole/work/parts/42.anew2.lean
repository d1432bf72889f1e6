/-! anew: the class -/
section ANW2
variable {l : Launch} {σ σ' : Sg} {v v' : Vt} {c : Nat} {t : Nat} {d o : Int} {f : Nat → Int}
theorem q_seekLacks {K : Sg → Prop} {B : Int} {n : Nat} (h : CR σ v) (hw : WF c v) (hA : Aim σ v t d o) (hD : Drw σ v t f) (hn : v.2.1 t 0 1 = n) (hB : 1 ≤ B ∧ B ≤ 99) (hK : ∀ σ', Onl [57, 59] σ σ' → (∀ k, k ≠ 2 → σ'.2.1 57 k = σ.2.1 57 k) → LkS σ' (lck f (amt (v.2.1 t) (v.2.2.1 5)) (v.2.2.2 1) n B 0 0) → K σ') : Con l mX2_seekLacks [.inr 57, .inr 60, .inl (I B)] σ (PV K) := by
  obtain ⟨a, ea, ha, ht, ht1, hwf, hj1, n0, n40, hpo⟩ := hA.w hw
  have hw0 := hw.1
  have hc5 := hw.2.2.2.2.2.2
  have hpb := hw.2.2.2.2.2.1
  have g27 : ∀ i, i < n → 0 ≤ amt (v.2.1 t) (v.2.2.1 5) i ∧ amt (v.2.1 t) (v.2.2.1 5) i ≤ 27 := by
    intro i hi
    have := amt_rg (z := v.2.2.1 5) (hpo i (by omega)).2.1 (hpo i (by omega)).2.2 (by omega) (by omega)
    unfold amt; omega
  -- the last loop
  have F3 : ∀ i, i ≤ 256 → ∀ σ', Onl [57, 59] σ σ' → (∀ k, k ≠ 2 → σ'.2.1 57 k = σ.2.1 57 k) → (∀ s, s < i → σ'.2.1 59 s = I (lck f (amt (v.2.1 t) (v.2.2.1 5)) (v.2.2.2 1) n B 0 0 s)) → (∀ s, i ≤ s → s < 256 → σ'.2.1 59 s = I (lyP f (amt (v.2.1 t) (v.2.2.1 5)) zeroP 0 n s)) → σ'.2.1 57 2 = I (cntP (lck f (amt (v.2.1 t) (v.2.2.1 5)) (v.2.2.2 1) n B 0 0) i) → GW l mX2_seekLacks 80 [(0, .inr 57), (1, .inr 60), (2, .inl (I B)), (3, .inl (I i))] [] σ' 0 0 (PV K) := by
    refine lp ?_ ?_
    · intro σ' h1 h2 h3 h4 h5
      refine gX2_seekLacks_80 ⟨fun _ => hK σ' h1 h2 ⟨h3, h5⟩, fun q => absurd ?_ q⟩
      rw [L_lit]; exact (I_le ⟨by omega, by omega⟩ ⟨by omega, by omega⟩).mpr (by omega)
    · intro i hi ih σ' h1 h2 h3 h4 h5
      obtain ⟨h', f'⟩ := h.onl hw h1 (by decide)
      have P58 : σ'.2.1 58 i = I (v.2.2.2 1 i) := h'.2.2.2.2.2.1 i hi
      have pb := hpb i hi
      have lr := lyP_rg (f := f) (g := amt (v.2.1 t) (v.2.2.1 5)) (P := zeroP) (a := 0) (B := 0) i ⟨Int.le_refl 0, Int.le_refl 0⟩ n (fun i' _ b => g27 i' (by omega))
      have fin : ∀ (x y : Int), (x = 0 ∨ x = 1) → (x = 0 → y = 0 ∧ lck f (amt (v.2.1 t) (v.2.2.1 5)) (v.2.2.2 1) n B 0 0 i = 0) → (x = 1 → y = lck f (amt (v.2.1 t) (v.2.2.1 5)) (v.2.2.2 1) n B 0 0 i ∧ 0 < y) → GW l mX2_seekLacks 136 [(0, .inr 57), (1, .inr 60), (2, .inl (I B)), (3, .inl (I i)), (4, .inl (I x))] [.inl (I y), .inl (I i), .inr 59] σ' 0 0 (PV K) := by
        intro x y hx hx0 hx1
        have ey : y = lck f (amt (v.2.1 t) (v.2.2.1 5)) (v.2.2.2 1) n B 0 0 i := by
          rcases hx with rfl | rfl
          · rw [(hx0 rfl).1, (hx0 rfl).2]
          · exact (hx1 rfl).1
        have ex : x = if lck f (amt (v.2.1 t) (v.2.2.1 5)) (v.2.2.2 1) n B 0 0 i ≤ 0 then 0 else 1 := by
          rcases hx with rfl | rfl
          · rw [(hx0 rfl).2, if_pos (Int.le_refl 0)]
          · have := hx1 rfl
            rw [if_neg (by omega)]
        refine gX2_seekLacks_136 ⟨?_, fun σ2 e2 => ?_⟩
        · have := h'.1.a57_1 (z := i) (by omega) (by omega)
          rw [h'.1.p57_1] at this; exact this
        rw [I_cln (by omega)] at e2
        have o2 : Onl [57, 59] σ σ2 := h1.tr (Onl.w e2 (by decide))
        have c2 : σ2.2.1 57 2 = I (cntP (lck f (amt (v.2.1 t) (v.2.2.1 5)) (v.2.2.2 1) n B 0 0) i) := by rw [e2, w1_r (by omega)]; exact h5
        have go : ∀ σ5, σ5 = w1 σ2 57 2 (I (cntP (lck f (amt (v.2.1 t) (v.2.2.1 5)) (v.2.2.2 1) n B 0 0) (i + 1))) → GW l mX2_seekLacks 80 [(0, .inr 57), (1, .inr 60), (2, .inl (I B)), (3, .inl (I i + 1))] [] σ5 0 0 (PV K) := by
          intro σ5 e5
          rw [I_1, I_add]
          refine ih σ5 (o2.tr (Onl.w e5 (by decide))) (fun k hk => by rw [e5, w1_k hk, e2, w1_r (by omega)]; exact h2 k hk) (fun s hs => ?_) (fun s hs1 hs2 => ?_) (by rw [e5, w1_at])
          · rw [e5, w1_r (by omega), e2]
            by_cases q : s = i
            · rw [q, w1_at, ey]
            · rw [w1_k q]; exact h3 s (by omega)
          · rw [e5, w1_r (by omega), e2, w1_k (by omega)]; exact h4 s (by omega) hs2
        have cs : cntP (lck f (amt (v.2.1 t) (v.2.2.1 5)) (v.2.2.2 1) n B 0 0) (i + 1) = cntP (lck f (amt (v.2.1 t) (v.2.2.1 5)) (v.2.2.2 1) n B 0 0) i + x := by rw [ex]; rfl
        rw [c2]
        refine ⟨(o2.C h.1).o57, fun q σ5 e5 => go σ5 ?_, fun q σ5 e5 => go σ5 ?_⟩
        · rw [I_0, I_eq ⟨by omega, by omega⟩ ⟨by omega, by omega⟩] at q
          rw [e5, cs, q, I_0, I_add]
        · rw [I_0, I_eq ⟨by omega, by omega⟩ ⟨by omega, by omega⟩] at q
          rw [e5, cs, show x = 1 by omega, I_1, I_add]
      have no : ¬ mis f (amt (v.2.1 t) (v.2.2.1 5)) (v.2.2.2 1) n B i → GW l mX2_seekLacks 112 [(0, .inr 57), (1, .inr 60), (2, .inl (I B)), (3, .inl (I i))] [.inl 0] σ' 0 0 (PV K) := by
        intro hm
        refine gX2_seekLacks_112 ⟨h'.1.o57, fun _ => ?_, fun q => absurd rfl q⟩
        rw [h'.1.p57_1]
        refine fin 0 0 (Or.inl rfl) (fun _ => ⟨rfl, ?_⟩) (fun q => absurd q (by omega))
        unfold lck; rw [cif_f hm]; rfl
      have e59 := h4 i (by omega) hi
      refine gX2_seekLacks_80 ⟨fun q => ?_, fun _ => ⟨h'.1.o57, h'.1.a57_0 (by omega) (by omega), fun q => no ?_, fun q => ⟨h'.1.a57_1 (by omega) (by omega), fun q2 => no ?_, fun q2 => ?_⟩⟩⟩
      · rw [L_lit, I_le ⟨by omega, by omega⟩ ⟨by omega, by omega⟩] at q; omega
      · rw [h'.1.d57_0 (by omega) (by omega), I_tn, P58, I_le ⟨by omega, by omega⟩ ⟨by omega, by omega⟩] at q
        intro hm; have := hm.1; omega
      · rw [h'.1.d57_1 (by omega) (by omega), I_tn, e59, I_lt ⟨by omega, by omega⟩ ⟨by omega, by omega⟩] at q2
        intro hm; have := hm.2; omega
      · rw [h'.1.d57_0 (by omega) (by omega), I_tn, P58, I_le ⟨by omega, by omega⟩ ⟨by omega, by omega⟩] at q
        rw [h'.1.d57_1 (by omega) (by omega), I_tn, e59, I_lt ⟨by omega, by omega⟩ ⟨by omega, by omega⟩] at q2
        have hm : mis f (amt (v.2.1 t) (v.2.2.1 5)) (v.2.2.2 1) n B i := ⟨by omega, by omega⟩
        refine gX2_seekLacks_112 ⟨h'.1.o57, fun q => absurd q (by decide), fun _ => ⟨h'.1.a57_0 (by omega) (by omega), ?_⟩⟩
        rw [h'.1.p57_1, h'.1.d57_0 (by omega) (by omega), I_tn, P58, I_sub]
        refine fin 1 _ (Or.inr rfl) (fun q => absurd q (by omega)) (fun _ => ⟨?_, by omega⟩)
        unfold lck; rw [cif_t hm]; show _ = _ - (0 : Int); omega
  have F2 : ∀ i, i ≤ n → ∀ σ', Onl [57, 59] σ σ' → (∀ k, k ≠ 2 → σ'.2.1 57 k = σ.2.1 57 k) → (∀ s, s < 256 → σ'.2.1 59 s = I (lyP f (amt (v.2.1 t) (v.2.2.1 5)) zeroP 0 i s)) → GW l mX2_seekLacks 24 [(0, .inr 57), (1, .inr 60), (2, .inl (I B)), (3, .inl (I i))] [] σ' 0 0 (PV K) := by
    refine lp ?_ ?_
    · intro σ' h1 h2 h3
      obtain ⟨h', f'⟩ := h.onl hw h1 (by decide)
      refine gX2_seekLacks_24 ⟨h'.1.o60, q_ticks h' hw (hA.onl h1 (by decide)) ⟨fun _ => ⟨h'.1.o57, fun σ5 e5 => ?_⟩, fun q => absurd ?_ q⟩⟩
      · exact F3 0 (by omega) σ5 (h1.tr (Onl.w e5 (by decide))) (fun k hk => by rw [e5, w1_k hk]; exact h2 k hk) (fun s hs => absurd hs (by omega)) (fun s _ hs => by rw [e5, w1_r (by omega)]; exact h3 s hs) (by rw [e5, w1_at]; rfl)
      · rw [hn]; exact (I_le ⟨by omega, by omega⟩ ⟨by omega, by omega⟩).mpr (by omega)
    · intro i hi ih σ' h1 h2 h3
      obtain ⟨h', f'⟩ := h.onl hw h1 (by decide)
      have hA' := hA.onl h1 (by decide)
      have hfi := (hD.onl h1 (by decide)) i (by omega)
      refine gX2_seekLacks_24 ⟨h'.1.o60, q_ticks h' hw hA' ⟨fun q => ?_, fun _ => q_spotAt8 h' (by omega) ?_⟩⟩
      · rw [hn, I_le ⟨by omega, by omega⟩ ⟨by omega, by omega⟩] at q; omega
      · rw [hfi.1, I_0, I_lt' (by omega) (by omega) (by omega) (by omega), show (256 : Int32) = I 256 from rfl, I_le' (by omega) (by omega) (by omega) (by omega), I_1, I_add]
        refine ⟨fun q => ih σ' h1 h2 (fun s hs => ?_), fun q => ⟨fun q => absurd q (by omega), fun _ => ⟨h'.1.o57, h'.1.a57_1 (by omega) (by omega), q_amount h' hw hA' (by omega) (fun σ12 e12 => ?_)⟩⟩⟩
        · rw [lyP_z, Nat.zero_add, if_neg (by omega), Int.add_zero]; exact h3 s hs
        · rw [h'.1.p57_1, I_cl (by omega) (by omega), h3 _ (by omega), I_add] at e12
          refine ih σ12 (h1.tr (Onl.w e12 (by decide))) (fun k hk => by rw [e12, w1_r (by omega)]; exact h2 k hk) (fun s hs => ?_)
          rw [lyP_z, Nat.zero_add]
          by_cases q : f i = s
          · rw [if_pos q, e12, show (f i).toNat = s by omega, w1_at]
          · rw [if_neg q, e12, w1_k (by omega), Int.add_zero]; exact h3 s hs
  have F1 : ∀ i, i ≤ 256 → ∀ σ', Onl [57, 59] σ σ' → (∀ k, k ≠ 2 → σ'.2.1 57 k = σ.2.1 57 k) → (∀ s, s < i → σ'.2.1 59 s = I 0) → GW l mX2_seekLacks 2 [(0, .inr 57), (1, .inr 60), (2, .inl (I B)), (3, .inl (I i))] [] σ' 0 0 (PV K) := by
    refine lp ?_ ?_
    · intro σ' h1 h2 h3
      refine gX2_seekLacks_2 ⟨fun _ => F2 0 (by omega) σ' h1 h2 h3, fun q => absurd ?_ q⟩
      rw [L_lit]; exact (I_le ⟨by omega, by omega⟩ ⟨by omega, by omega⟩).mpr (by omega)
    · intro i hi ih σ' h1 h2 h3
      have C' := h1.C h.1
      refine gX2_seekLacks_2 ⟨fun q => ?_, fun _ => ⟨C'.o57, C'.a57_1 (by omega) (by omega), fun σ4 e4 => ?_⟩⟩
      · rw [L_lit, I_le ⟨by omega, by omega⟩ ⟨by omega, by omega⟩] at q; omega
      · rw [C'.p57_1, I_cln (by omega)] at e4
        rw [I_1, I_add]
        refine ih σ4 (h1.tr (Onl.w e4 (by decide))) (fun k hk => by rw [e4, w1_r (by omega)]; exact h2 k hk) (fun s hs => ?_)
        by_cases q : s = i
        · rw [q, e4, w1_at]; rfl
        · rw [e4, w1_k q]; exact h3 s (by omega)
  exact eX2_seekLacks (F1 0 (by omega) σ (Onl.rf _ _) (fun _ _ => rfl) (fun s hs => absurd hs (by omega)))
end ANW2
