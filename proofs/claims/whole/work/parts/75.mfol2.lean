/-! the reference: stops, follows -/
theorem par2 {t : Nat} (ht : t < 100) : (4096 * (I (t : Int) - I (t : Int) / 2 * 2) : Int32) = I ((4096 * (t % 2) : Nat) : Int) := by
  have td : (t : Int).tdiv 2 = ((t / 2 : Nat) : Int) := by rw [Int.tdiv_eq_ediv_of_nonneg (by omega)]; omega
  rw [show (2 : Int32) = I 2 from rfl, I_div ⟨by omega, by omega⟩ ⟨by omega, by omega⟩ (by rw [td]; exact ⟨by omega, by omega⟩), td, I_mul, I_sub, show (4096 : Int32) = I 4096 from rfl, I_mul]
  congr 1
  omega
section MST
variable {l : Launch} {σ σ' : Sg} {v : Vt} {a o tt t p n : Nat} {d e : Int}
/-- what the start reaches: a row of the reference's booleans -/
def RcS (σ : Sg) (b : Nat) (Q : Nat → Prop) (N : Nat) : Prop := ∀ q, q < N → σ.2.1 106 (4096 * b + q) = I (cif (Q q) 1 0)
theorem stW_ex {A : Nat → Nat → Int} (hw : ArmWf A) {G : Nat → Int} (hG : Gok 400 G) : stW A G p < 1000000 ↔ ∃ k, k < bsd A 3 ∧ okb A p k ∧ G (pok A p k) < 1000000 := by
  constructor
  · intro h
    obtain ⟨q, a, b, c⟩ := mnF_at (P := fun q => adj A p q) (g := fun q => wyb p q + G q) 4096 h
    have c : wyb p q + G q = stW A G p := c
    obtain ⟨k, h1, h2, h3⟩ := adj_pok hw b
    have := wyb_nn p q
    exact ⟨k, h1, h2, by rw [h3]; omega⟩
  · intro ⟨k, h1, h2, h3⟩
    have ad := pok_adj hw h2
    have := mnF_le (P := fun q => adj A p q) (g := fun q => wyb p q + G q) 4096 _ (adj_lt ad) ad
    have this : stW A G p ≤ wyb p (pok A p k) + G (pok A p k) := this
    have := wyb_rg hw ad
    have := (hG _ (adj_lt ad)).2.2 h3
    omega
theorem m_stops {K : Int32 → Sg → Prop} {X Y : Nat → Int} (h : MBs σ v) (hT : TpF v tt o n) (ha : a < 2) (hw : ArmWf (v.1 a)) (n1 : 1 ≤ n) (hd : -2000 ≤ d ∧ d ≤ 2000) (he : 0 ≤ e ∧ e ≤ 2000) (eX : X = wX (v.1 o) (v.2.1 tt) d) (eY : Y = wY (v.1 o) (v.2.1 tt)) (hf : ¬ fok (v.1 a) X Y e n)
    (hK : ∀ σ', Ws [] [106] σ σ' → K (I (stpF (v.1 a) X Y e n : Nat)) σ') : Con l mX12_stops [.inr 82, .inl (I (tt : Nat)), .inl (I (a : Nat)), .inl (I d), .inl (I e)] σ (PI K) := by
  have n40 := hT.2.2.2.2.2.2.1
  have w0 := hw.1
  obtain ⟨J, hJ⟩ : ∃ J : Nat, v.1 a 0 2 = J := ⟨(v.1 a 0 2).toNat, by omega⟩
  have b3 := bsd_343 hw (m := 3) (by omega)
  obtain ⟨ts, hts⟩ := stop_ex hw n40 n1 hf
  have L : ∀ t, t ≤ n → ∀ σ1, Ws [] [106] σ σ1 → (∀ t', t' < t → ∃ p, p < 4096 ∧ fwd (v.1 a) X Y e t' p < 1000000) → (1 ≤ t → RcS σ1 ((t - 1) % 2) (fun q => fwd (v.1 a) X Y e (t - 1) q < 1000000) 4096) → GW l mX12_stops 16 [(0, .inr 82), (1, .inl (I (tt : Nat))), (2, .inl (I (a : Nat))), (3, .inl (I d)), (4, .inl (I e)), (5, .inl (I (bsd (v.1 a) 3 : Nat))), (6, .inl (I (t : Nat)))] [] σ1 0 0 (PI K) := by
    refine lp ?_ ?_
    · intro σ1 w1' al _
      obtain ⟨p, c1, c2⟩ := al ts hts.1
      exact absurd c2 (hts.2.1 p c1)
    · intro t ht ih σ1 w1' al pr
      have h1 := h.ws w1' (by decide) (by decide)
      refine gX12_stops_16 ⟨h1.1.ob, h1.1.a18 (by have := hT.2.1; omega) (by have := hT.2.1; omega), ?_⟩
      rw [h1.tk hT.1 hT.2.1, hT.2.2.2.2.2.1, I_le' (by omega) (by omega) (by omega) (by omega), par2 (by omega), show (4096 : Int32) - I ((4096 * (t % 2) : Nat) : Int) = I ((4096 * ((t + 1) % 2) : Nat) : Int) by rw [show (4096 : Int32) = I 4096 from rfl, I_sub]; congr 1; omega]
      refine ⟨fun q => absurd q (by omega), fun _ => ?_⟩
      -- pose by pose
      have P : ∀ p, p ≤ 4096 → ∀ (s : Int) σ2, Ws [] [106] σ σ2 → RcS σ2 (t % 2) (fun q => fwd (v.1 a) X Y e t q < 1000000) p → (1 ≤ t → RcS σ2 ((t - 1) % 2) (fun q => fwd (v.1 a) X Y e (t - 1) q < 1000000) 4096) → ((s = 1 ∧ ∃ q, q < p ∧ fwd (v.1 a) X Y e t q < 1000000) ∨ (s = 0 ∧ ∀ q, q < p → ¬ fwd (v.1 a) X Y e t q < 1000000)) → GW l mX12_stops 51 [(0, .inr 82), (1, .inl (I (tt : Nat))), (2, .inl (I (a : Nat))), (3, .inl (I d)), (4, .inl (I e)), (5, .inl (I (bsd (v.1 a) 3 : Nat))), (6, .inl (I (t : Nat))), (7, .inl (I ((4096 * (t % 2) : Nat) : Int))), (8, .inl (I ((4096 * ((t + 1) % 2) : Nat) : Int))), (9, .inl (I s)), (10, .inl (I (p : Nat)))] [] σ2 0 0 (PI K) := by
        refine lp ?_ ?_
        · intro s σ2 w2' now pr2 hs
          refine gX12_stops_51 ⟨fun _ => ?_, fun q => absurd ((I_le (a := 4096) ⟨by omega, by omega⟩ ⟨by omega, by omega⟩).mpr (by omega)) q⟩
          rcases hs with ⟨s1, ex⟩ | ⟨s0, no⟩
          · rw [s1]
            refine ⟨fun _ => ?_, fun z => absurd z (by decide)⟩
            rw [I_1, I_add]
            refine ih σ2 w2' (fun t' ht' => ?_) (fun _ => ?_)
            · by_cases z : t' = t
              · rw [z]; exact ex
              · exact al t' (by omega)
            · rw [show t + 1 - 1 = t by omega]; exact now
          · rw [s0]
            refine ⟨fun z => absurd rfl z, fun _ => ?_⟩
            have st : IsStop (v.1 a) X Y e n t := ⟨ht, no, al⟩
            rw [← stpF_eq st]
            exact hK σ2 w2'
        · intro p hp ihp s σ2 w2' now pr2 hs
          have h2 := h.ws w2' (by decide) (by decide)
          have s01 : s = 0 ∨ s = 1 := by rcases hs with hs | hs <;> omega
          have ix : ∀ q : Nat, I ((4096 * (t % 2) : Nat) : Int) + I (q : Int) = I ((4096 * (t % 2) + q : Nat) : Int) := fun q => by rw [I_add]; rfl
          have ix' : ∀ q : Nat, I ((4096 * ((t + 1) % 2) : Nat) : Int) + I (q : Int) = I ((4096 * ((t + 1) % 2) + q : Nat) : Int) := fun q => by rw [I_add]; rfl
          refine gX12_stops_51 ⟨fun q => ?_, fun _ => ⟨h2.1.ob, ?_⟩⟩
          · rw [show (4096 : Int32) = I 4096 from rfl, I_le ⟨by omega, by omega⟩ ⟨by omega, by omega⟩] at q; omega
          rw [ix]
          refine ⟨h2.1.a44 (by omega) (by omega), fun σ5 e5 => ?_⟩
          rw [h2.1.k44, I_cln (by omega)] at e5
          have w5 : Ws [] [106] σ σ5 := w2'.tr (Ws.c e5 (by decide) (by omega))
          have h5 := h.ws w5 (by decide) (by decide)
          -- the pose is done: what it became
          have fin : ∀ σ6, Ws [] [106] σ σ6 → (∀ y, y ≠ 4096 * (t % 2) + p → σ6.2.1 106 y = σ2.2.1 106 y) → σ6.2.1 106 (4096 * (t % 2) + p) = I (cif (fwd (v.1 a) X Y e t p < 1000000) 1 0) → ∀ s' : Int, ((s' = 1 ∧ ∃ q, q < p + 1 ∧ fwd (v.1 a) X Y e t q < 1000000) ∨ (s' = 0 ∧ ∀ q, q < p + 1 → ¬ fwd (v.1 a) X Y e t q < 1000000)) → GW l mX12_stops 51 [(0, .inr 82), (1, .inl (I (tt : Nat))), (2, .inl (I (a : Nat))), (3, .inl (I d)), (4, .inl (I e)), (5, .inl (I (bsd (v.1 a) 3 : Nat))), (6, .inl (I (t : Nat))), (7, .inl (I ((4096 * (t % 2) : Nat) : Int))), (8, .inl (I ((4096 * ((t + 1) % 2) : Nat) : Int))), (9, .inl (I s')), (10, .inl (I (p : Nat) + 1))] [] σ6 0 0 (PI K) := by
            intro σ6 w6 o6 v6 s' hs'
            rw [I_1, I_add]
            refine ihp s' σ6 w6 (fun q hq => ?_) (fun t1 q hq => ?_) hs'
            · by_cases z : q = p
              · rw [z]; exact v6
              · rw [o6 _ (by omega)]; exact now q (by omega)
            · rw [o6 _ (by omega)]; exact pr2 t1 q hq
          have E : ∀ (y : Int32) σ6, Ws [] [106] σ σ6 → (∀ y, y ≠ 4096 * (t % 2) + p → σ6.2.1 106 y = σ2.2.1 106 y) → σ6.2.1 106 (4096 * (t % 2) + p) = I (cif (fwd (v.1 a) X Y e t p < 1000000) 1 0) → GW l mX12_stops 167 [(0, .inr 82), (1, .inl (I (tt : Nat))), (2, .inl (I (a : Nat))), (3, .inl (I d)), (4, .inl (I e)), (5, .inl (I (bsd (v.1 a) 3 : Nat))), (6, .inl (I (t : Nat))), (7, .inl (I ((4096 * (t % 2) : Nat) : Int))), (8, .inl (I ((4096 * ((t + 1) % 2) : Nat) : Int))), (9, .inl (I s)), (10, .inl (I (p : Nat))), (11, .inl y)] [] σ6 0 0 (PI K) := by
            intro y σ6 w6 o6 v6
            have h6 := h.ws w6 (by decide) (by decide)
            refine gX12_stops_167 ?_
            rw [ix, h6.1.d44 (by omega) (by omega), I_tn, v6]
            rcases hs with ⟨s1, q, c1, c2⟩ | ⟨s0, no⟩
            · rw [s1]
              exact ⟨fun _ => fin σ6 w6 o6 v6 1 (Or.inl ⟨rfl, q, by omega, c2⟩), fun z => absurd z (by decide)⟩
            · rw [s0]
              refine ⟨fun z => absurd rfl z, fun _ => ⟨h6.1.ob, h6.1.a44 (by omega) (by omega), fun z => ?_, fun z => ?_⟩⟩
              · refine fin σ6 w6 o6 v6 0 (Or.inr ⟨rfl, fun q hq y => ?_⟩)
                by_cases u : q = p
                · rw [u] at y; rw [cif_t y] at z; exact absurd z (by decide)
                · exact no q (by omega) y
              · refine fin σ6 w6 o6 v6 1 (Or.inl ⟨rfl, p, by omega, ?_⟩)
                refine Classical.byContradiction fun y => ?_
                rw [cif_f y] at z; exact z rfl
          have o5 : ∀ y, y ≠ 4096 * (t % 2) + p → σ5.2.1 106 y = σ2.2.1 106 y := fun y hy => by rw [e5, w1_k hy]
          refine m_isThere h5 hT ha hw ht hp hd he (fun yes => ⟨fun _ => ?_, fun z => absurd z (by decide)⟩) (fun no => ⟨fun z => absurd rfl z, fun _ => ?_⟩)
          · rw [← eX, ← eY] at yes
            have p0 := yes.1.1
            by_cases t0 : t = 0
            · -- the first tick
              have fv : fwd (v.1 a) X Y e t p < 1000000 := by
                rw [t0]
                show cif (nrP (v.1 a) X Y e 0 p) 0 1000000 < 1000000
                rw [t0] at yes
                rw [cif_t yes]; omega
              refine gX12_stops_92 ⟨fun z => ?_, fun _ => ⟨fun _ => ⟨fun z => ?_, fun _ => ⟨h5.1.ob, ?_⟩⟩, fun z => absurd ?_ z⟩⟩
              · rw [I_0, I_le ⟨by omega, by omega⟩ ⟨by omega, by omega⟩] at z; omega
              · rw [I_0, I_eq ⟨by omega, by omega⟩ ⟨by omega, by omega⟩] at z; omega
              · rw [ix]
                refine ⟨h5.1.a44 (by omega) (by omega), fun σ10 e10 => ?_⟩
                rw [h5.1.k44, I_cln (by omega)] at e10
                exact E _ σ10 (w5.tr (Ws.c e10 (by decide) (by omega))) (fun y hy => by rw [e10, w1_k hy]; exact o5 y hy) (by rw [e10, w1_at, cif_t fv]; rfl)
              · rw [I_0]; exact (I_le ⟨by omega, by omega⟩ ⟨by omega, by omega⟩).mpr (by omega)
            · obtain ⟨u, rfl⟩ : ∃ u, t = u + 1 := ⟨t - 1, by omega⟩
              have pr2 : RcS σ2 (u % 2) (fun q => fwd (v.1 a) X Y e u q < 1000000) 4096 := pr2 (by omega)
              have gk := fwd_ok (X := X) (Y := Y) (e := e) hw u
              have gk' : Gok 400 (fwd (v.1 a) X Y e u) := fun p hp => ⟨(gk p hp).1, (gk p hp).2.1, fun z => by have := (gk p hp).2.2 z; omega⟩
              have fv : fwd (v.1 a) X Y e (u + 1) p < 1000000 ↔ ∃ k, k < bsd (v.1 a) 3 ∧ okb (v.1 a) p k ∧ fwd (v.1 a) X Y e u (pok (v.1 a) p k) < 1000000 := by
                show cif (nrP (v.1 a) X Y e (u + 1) p) (stW (v.1 a) (fwd (v.1 a) X Y e u) p) 1000000 < 1000000 ↔ _
                rw [cif_t yes]; exact stW_ex hw gk'
              have Kl : ∀ k, k ≤ bsd (v.1 a) 3 → ∀ σ6, Ws [] [106] σ σ6 → (∀ y, y ≠ 4096 * ((u + 1) % 2) + p → σ6.2.1 106 y = σ2.2.1 106 y) → ((σ6.2.1 106 (4096 * ((u + 1) % 2) + p) = I 1 ∧ ∃ k', k' < bsd (v.1 a) 3 ∧ okb (v.1 a) p k' ∧ fwd (v.1 a) X Y e u (pok (v.1 a) p k') < 1000000) ∨ (σ6.2.1 106 (4096 * ((u + 1) % 2) + p) = I 0 ∧ ∀ k', k' < k → okb (v.1 a) p k' → ¬ fwd (v.1 a) X Y e u (pok (v.1 a) p k') < 1000000)) → GW l mX12_stops 92 [(0, .inr 82), (1, .inl (I (tt : Nat))), (2, .inl (I (a : Nat))), (3, .inl (I d)), (4, .inl (I e)), (5, .inl (I (bsd (v.1 a) 3 : Nat))), (6, .inl (I ((u + 1 : Nat) : Int))), (7, .inl (I ((4096 * ((u + 1) % 2) : Nat) : Int))), (8, .inl (I ((4096 * ((u + 1 + 1) % 2) : Nat) : Int))), (9, .inl (I s)), (10, .inl (I (p : Nat))), (11, .inl (I (k : Nat)))] [] σ6 0 0 (PI K) := by
                refine lp ?_ ?_
                · intro σ6 w6 o6 hx
                  refine gX12_stops_92 ⟨fun _ => ⟨fun _ => E _ σ6 w6 o6 ?_, fun z => ?_⟩, fun z => absurd ((I_le ⟨by omega, by omega⟩ ⟨by omega, by omega⟩).mpr (by omega)) z⟩
                  · rcases hx with ⟨x1, x2⟩ | ⟨x1, x2⟩
                    · rw [x1, cif_t (fv.mpr x2)]
                    · rw [x1, cif_f (fun y => by obtain ⟨k', c1, c2, c3⟩ := fv.mp y; exact x2 k' c1 c2 c3)]
                  · rw [I_0, I_eq ⟨by omega, by omega⟩ ⟨by omega, by omega⟩] at z; omega
                · intro k hk ihk σ6 w6 o6 hx
                  have h6 := h.ws w6 (by decide) (by decide)
                  have on : (okb (v.1 a) p k → fwd (v.1 a) X Y e u (pok (v.1 a) p k) < 1000000 → σ6.2.1 106 (4096 * ((u + 1) % 2) + p) = I 1) → GW l mX12_stops 92 [(0, .inr 82), (1, .inl (I (tt : Nat))), (2, .inl (I (a : Nat))), (3, .inl (I d)), (4, .inl (I e)), (5, .inl (I (bsd (v.1 a) 3 : Nat))), (6, .inl (I ((u + 1 : Nat) : Int))), (7, .inl (I ((4096 * ((u + 1) % 2) : Nat) : Int))), (8, .inl (I ((4096 * ((u + 1 + 1) % 2) : Nat) : Int))), (9, .inl (I s)), (10, .inl (I (p : Nat))), (11, .inl (I (k : Nat) + 1))] [] σ6 0 0 (PI K) := by
                    intro hn
                    rw [I_1, I_add]
                    refine ihk σ6 w6 o6 ?_
                    rcases hx with ⟨x1, x2⟩ | ⟨x1, x2⟩
                    · exact Or.inl ⟨x1, x2⟩
                    · refine Or.inr ⟨x1, fun k' c1 c2 c3 => ?_⟩
                      by_cases z : k' = k
                      · rw [z] at c2 c3
                        have := hn c2 c3
                        rw [x1] at this; exact absurd this (by decide)
                      · exact x2 k' (by omega) c2 c3
                  refine gX12_stops_92 ⟨fun z => ?_, fun _ => ⟨fun z => ?_, fun _ => ⟨h6.1.ob, ?_⟩⟩⟩
                  · rw [I_le ⟨by omega, by omega⟩ ⟨by omega, by omega⟩] at z; omega
                  · rw [I_0, I_le ⟨by omega, by omega⟩ ⟨by omega, by omega⟩] at z; omega
                  refine m_beside h6.1 h6.2.1 ha hw yes.1 hk (fun ok => ⟨fun z => ?_, fun _ => ?_⟩) (fun no => ⟨fun _ => on (fun c => absurd c no), fun z => absurd rfl z⟩)
                  · rw [I_m1, I_eq ⟨by omega, by have := (pok_pl hw ok).1; omega⟩ ⟨by omega, by omega⟩] at z; omega
                  have q4 := (pok_pl hw ok).1
                  rw [ix']
                  have rq : σ6.2.1 106 (4096 * ((u + 1 + 1) % 2) + pok (v.1 a) p k) = I (cif (fwd (v.1 a) X Y e u (pok (v.1 a) p k) < 1000000) 1 0) := by
                    rw [o6 _ (by omega), show (u + 1 + 1) % 2 = u % 2 by omega]
                    exact pr2 _ q4
                  refine ⟨h6.1.a44 (by omega) (by omega), ?_⟩
                  rw [h6.1.d44 (by omega) (by omega), I_tn, rq]
                  refine ⟨fun z => on (fun _ y => ?_), fun z => ?_⟩
                  · rw [cif_t y] at z; exact absurd z (by decide)
                  · have fy : fwd (v.1 a) X Y e u (pok (v.1 a) p k) < 1000000 := Classical.byContradiction fun y => by rw [cif_f y] at z; exact z rfl
                    rw [ix]
                    refine ⟨h6.1.a44 (by omega) (by omega), fun σ17 e17 => ?_⟩
                    rw [h6.1.k44, I_cln (by omega)] at e17
                    rw [I_1, I_add]
                    exact ihk σ17 (w6.tr (Ws.c e17 (by decide) (by omega))) (fun y hy => by rw [e17, w1_k hy]; exact o6 y hy) (Or.inl ⟨by rw [e17, w1_at]; rfl, k, hk, ok, fy⟩)
              exact Kl 0 (by omega) σ5 w5 o5 (Or.inr ⟨by rw [e5, w1_at]; rfl, fun k' hk' => absurd hk' (by omega)⟩)
          · rw [← eX, ← eY] at no
            have fv : ¬ fwd (v.1 a) X Y e t p < 1000000 := fun z => no (fwd_last z)
            refine fin σ5 w5 o5 (by rw [e5, w1_at, cif_f fv]; rfl) s ?_
            rcases hs with ⟨s1, q, c1, c2⟩ | ⟨s0, nn⟩
            · exact Or.inl ⟨s1, q, by omega, c2⟩
            · refine Or.inr ⟨s0, fun q hq => ?_⟩
              by_cases u : q = p
              · rw [u]; exact fv
              · exact nn q (by omega)
      exact P 0 (by omega) 0 σ1 w1' (fun q hq => absurd hq (by omega)) pr (Or.inr ⟨rfl, fun q hq => absurd hq (by omega)⟩)
  refine eX12_stops ⟨h.1.ob, h.1.a7 (by omega) (by omega), ?_⟩
  rw [h.2.1.jn h.1 ha, hJ]
  refine m_besides h.1 h.2.1 ha hw (by omega) ?_
  rw [← bsd_top hw hJ]
  exact L 0 (by omega) σ (Ws.rf _ _ _) (fun t' ht' => absurd ht' (by omega)) (fun z => absurd z (by omega))
end MST
