/-! what a state of the class, and of the reference, means -/
/-- arms; tapes (T 0 0 owner, T 0 1 ticks, T 1 poses, T 2 sprays); numbers: 0 arms, 1 tapes, 2 fed, 3 fault, 4 its place, 5 nozzle, 6 stop, 7 way, 8 times told; rows: 0 bytes, 1 paint, 2 told -/
abbrev Vt : Type := (Nat → Nat → Nat → Int) × (Nat → Nat → Nat → Int) × (Nat → Int) × (Nat → Nat → Int)
def Eqc (σ σ' : Sg) (r : Nat) : Prop := σ'.2.1 r = σ.2.1 r ∧ σ'.2.2 r = σ.2.2 r
/-- only the cells S may have changed -/
def Only (S : List Nat) (σ σ' : Sg) : Prop := σ'.1 = σ.1 ∧ ∀ r, r ∉ S → Eqc σ σ' r
theorem Only.rf (S : List Nat) (σ : Sg) : Only S σ σ := ⟨rfl, fun _ _ => ⟨rfl, rfl⟩⟩
theorem Only.tr {S : List Nat} {σ σ1 σ2 : Sg} (h1 : Only S σ σ1) (h2 : Only S σ1 σ2) : Only S σ σ2 := ⟨h2.1.trans h1.1, fun r hr => ⟨(h2.2 r hr).1.trans (h1.2 r hr).1, (h2.2 r hr).2.trans (h1.2 r hr).2⟩⟩
theorem Only.up {S S' : List Nat} {σ σ1 : Sg} (h : Only S σ σ1) (hs : ∀ r ∈ S, r ∈ S') : Only S' σ σ1 := ⟨h.1, fun r hr => h.2 r (fun q => hr (hs r q))⟩
theorem Only.w {S : List Nat} {σ : Sg} {r k : Nat} {x : Int32} (hr : r ∈ S) : Only S σ (w1 σ r k x) := by
  refine ⟨rfl, fun c hc => ⟨?_, rfl⟩⟩
  funext b
  show (if c = r ∧ b = k then x else σ.2.1 c b) = _
  rw [if_neg (fun q : c = r ∧ b = k => hc (q.1 ▸ hr))]
theorem Only.w2 {S : List Nat} {σ : Sg} {r k x : Nat} (hr : r ∈ S) : Only S σ (w2 σ r k x) := by
  refine ⟨rfl, fun c hc => ⟨rfl, ?_⟩⟩
  funext b
  show (if c = r ∧ b = k then x else σ.2.2 c b) = _
  rw [if_neg (fun q : c = r ∧ b = k => hc (q.1 ▸ hr))]
theorem w1_at (σ : Sg) (r k : Nat) (x : Int32) : (w1 σ r k x).2.1 r k = x := by show (if r = r ∧ k = k then x else _) = x; simp
theorem w1_k {σ : Sg} {r k b : Nat} {x : Int32} (h : b ≠ k) : (w1 σ r k x).2.1 r b = σ.2.1 r b := by show (if r = r ∧ b = k then x else _) = _; simp [h]
theorem w1_r {σ : Sg} {r k a : Nat} {x : Int32} (h : a ≠ r) : (w1 σ r k x).2.1 a = σ.2.1 a := by funext b; show (if a = r ∧ b = k then x else _) = _; simp [h]
theorem w1_2 {σ : Sg} {r k : Nat} {x : Int32} : (w1 σ r k x).2.2 = σ.2.2 := rfl
theorem w1_1 {σ : Sg} {r k : Nat} {x : Int32} : (w1 σ r k x).1 = σ.1 := rfl
theorem ArmAt.eq {σ σ' : Sg} {r : Nat} {A : Nat → Nat → Int} (h : ArmAt σ r A) (hn : σ.1 ≤ σ'.1) (he : ∀ k, k ≤ 4 → Eqc σ σ' (r + k)) : ArmAt σ' r A := by
  have h0 := he 0 (by omega)
  rw [Nat.add_zero] at h0
  refine ⟨⟨h.1.1, h.1.2.1, Nat.le_trans h.1.2.2 hn⟩, fun k hk => ?_, fun k j hk hj => ?_, fun k hk => ?_, fun k hk => ?_⟩
  · rw [h0.2]; exact h.2.1 k hk
  · have := he (1 + k) (by omega)
    rw [← Nat.add_assoc] at this
    rw [this.1]; exact h.2.2.1 k j hk hj
  · rw [h0.1]; exact h.2.2.2.1 k hk
  · rw [h0.1]; exact h.2.2.2.2 k hk
/-- a tape's cells -/
def TapeP (σ : Sg) (r : Nat) : Prop := (r ≠ 0 ∧ (shp r).1 = 9 ∧ r + 2 ≤ σ.1) ∧ (σ.2.2 r 0 = r + 1 ∧ shp (r + 1) = (13, 40)) ∧ (σ.2.2 r 1 = r + 2 ∧ shp (r + 2) = (13, 40))
def TapeD (σ : Sg) (r : Nat) (T : Nat → Nat → Int) : Prop := σ.2.1 r 2 = I (T 0 0) ∧ σ.2.1 r 3 = I (T 0 1) ∧ ∀ i : Nat, (i : Int) < T 0 1 → σ.2.1 (r + 1) i = I (T 1 i) ∧ σ.2.1 (r + 2) i = I (T 2 i)
theorem TapeP.eq {σ σ' : Sg} {r : Nat} (h : TapeP σ r) (hn : σ.1 ≤ σ'.1) (he : σ'.2.2 r = σ.2.2 r) : TapeP σ' r := ⟨⟨h.1.1, h.1.2.1, Nat.le_trans h.1.2.2 hn⟩, ⟨by rw [he]; exact h.2.1.1, h.2.1.2⟩, ⟨by rw [he]; exact h.2.2.1, h.2.2.2⟩⟩
theorem TapeD.eq {σ σ' : Sg} {r : Nat} {T : Nat → Nat → Int} (h : TapeD σ r T) (he : ∀ k, k ≤ 2 → Eqc σ σ' (r + k)) : TapeD σ' r T := by
  have h0 := he 0 (by omega)
  rw [Nat.add_zero] at h0
  refine ⟨by rw [h0.1]; exact h.1, by rw [h0.1]; exact h.2.1, fun i hi => ?_⟩
  rw [(he 1 (by omega)).1, (he 2 (by omega)).1]
  exact h.2.2 i hi
theorem TapeP.ob {σ : Sg} {r : Nat} (h : TapeP σ r) : Ob σ r 9 := ⟨h.1.1, h.1.2.1, Nat.le_trans (Nat.le_add_right _ _) h.1.2.2⟩
theorem TapeP.a0 {σ : Sg} {r : Nat} (h : TapeP σ r) {z : Int} (h0 : 0 ≤ z) (h1 : z < 40) : Ai σ (σ.2.2 r 0) (I z) := by
  rw [h.2.1.1]; exact ai_of h.2.1.2 (by omega) (Nat.le_trans (by omega) h.1.2.2) h0 h1 (by decide)
theorem TapeP.a1 {σ : Sg} {r : Nat} (h : TapeP σ r) {z : Int} (h0 : 0 ≤ z) (h1 : z < 40) : Ai σ (σ.2.2 r 1) (I z) := by
  rw [h.2.2.1]; exact ai_of h.2.2.2 (by omega) h.1.2.2 h0 h1 (by decide)
def CRa (σ : Sg) (v : Vt) : Prop := σ.2.1 2 2 = I (v.2.2.1 0) ∧ ∀ a, a < 2 → ArmAt σ (5 + 5 * a) (v.1 a)
def CRt (σ : Sg) (v : Vt) : Prop := σ.2.1 2 3 = I (v.2.2.1 1) ∧ σ.2.1 2 4 = I 0 ∧ (∀ t, t < 10 → TapeP σ (15 + 3 * t)) ∧ TapeP σ 51 ∧ TapeP σ 54 ∧ ∀ t : Nat, (t : Int) < v.2.2.1 1 → TapeD σ (15 + 3 * t) (v.2.1 t)
def CRx (σ : Sg) (v : Vt) : Prop := σ.2.1 45 4 = I (v.2.2.1 2) ∧ (∀ i : Nat, (i : Int) < v.2.2.1 2 → σ.2.1 46 i = I (v.2.2.2 0 i)) ∧ σ.2.1 50 6 = I (v.2.2.1 3) ∧ σ.2.1 50 7 = I (v.2.2.1 4)
def CRp (σ : Sg) (v : Vt) : Prop := (∀ s, s < 256 → σ.2.1 58 s = I (v.2.2.2 1 s)) ∧ σ.2.1 1 9 = I (v.2.2.1 5) ∧ σ.2.1 1 10 = I (v.2.2.1 6) ∧ σ.2.1 1 11 = I (v.2.2.1 7) ∧ σ.2.1 69 8 = I (v.2.2.1 8) ∧ ∀ k : Nat, (k : Int) < v.2.2.1 8 → σ.2.1 73 k = I (v.2.2.2 2 k)
/-- the class's cells hold v -/
def CR (σ : Sg) (v : Vt) : Prop := Cp σ ∧ ((σ.2.2 1 8 = 0 ∧ σ.1 = 119) ∨ (σ.2.2 1 8 = 120 ∧ Fp σ ∧ ∀ k, k < 4 → σ.2.2 131 k = 132 + k)) ∧ CRa σ v ∧ CRt σ v ∧ CRx σ v ∧ CRp σ v
/-- the reference's cells hold v -/
def MRt (σ : Sg) (v : Vt) : Prop := σ.2.1 82 16 = I (v.2.2.1 1) ∧ ∀ t : Nat, (t : Int) < v.2.2.1 1 → σ.2.1 96 t = I (v.2.1 t 0 0) ∧ σ.2.1 97 t = I (v.2.1 t 0 1) ∧ ∀ i : Nat, (i : Int) < v.2.1 t 0 1 → σ.2.1 98 (40 * t + i) = I (v.2.1 t 1 i) ∧ σ.2.1 99 (40 * t + i) = I (v.2.1 t 2 i)
def MRx (σ : Sg) (v : Vt) : Prop := σ.2.1 82 2 = I (v.2.2.1 2) ∧ (∀ i : Nat, (i : Int) < v.2.2.1 2 → σ.2.1 83 i = I (v.2.2.2 0 i)) ∧ σ.2.1 82 29 = I (v.2.2.1 3) ∧ σ.2.1 82 30 = I (v.2.2.1 4)
def MRp (σ : Sg) (v : Vt) : Prop := (∀ s, s < 256 → σ.2.1 104 s = I (v.2.2.2 1 s)) ∧ σ.2.1 82 39 = I (v.2.2.1 5) ∧ σ.2.1 82 40 = I (v.2.2.1 6) ∧ σ.2.1 82 41 = I (v.2.2.1 7) ∧ σ.2.1 82 48 = I (v.2.2.1 8) ∧ ∀ k : Nat, (k : Int) < v.2.2.1 8 → σ.2.1 109 k = I (v.2.2.2 2 k)
def MR (σ : Sg) (v : Vt) : Prop := Mp σ ∧ (σ.2.1 82 4 = I (v.2.2.1 0) ∧ MArms σ v.1) ∧ MRt σ v ∧ MRx σ v ∧ MRp σ v
/-- what holds of v after at most c calls -/
def WF (c : Nat) (v : Vt) : Prop :=
  (0 ≤ v.2.2.1 0 ∧ v.2.2.1 0 ≤ 2 ∧ 0 ≤ v.2.2.1 1 ∧ v.2.2.1 1 ≤ 10 ∧ 0 ≤ v.2.2.1 2 ∧ v.2.2.1 2 ≤ 400 ∧ 0 ≤ v.2.2.1 5 ∧ v.2.2.1 5 ≤ 30) ∧
  (0 ≤ v.2.2.1 3 ∧ v.2.2.1 3 ≤ 5 ∧ -1 ≤ v.2.2.1 4 ∧ v.2.2.1 4 ≤ 400 ∧ -1 ≤ v.2.2.1 6 ∧ v.2.2.1 6 ≤ 40 ∧ -1 ≤ v.2.2.1 7 ∧ v.2.2.1 7 ≤ 1000000 ∧ 0 ≤ v.2.2.1 8 ∧ v.2.2.1 8 ≤ 80) ∧
  (∀ a, a < 2 → ArmWf (v.1 a) ∧ (v.2.2.1 0 ≤ (a : Int) → v.1 a 0 2 = 0)) ∧
  (∀ t : Nat, (t : Int) < v.2.2.1 1 → 0 ≤ v.2.1 t 0 0 ∧ v.2.1 t 0 0 < v.2.2.1 0 ∧ 1 ≤ v.1 (v.2.1 t 0 0).toNat 0 2 ∧ 0 ≤ v.2.1 t 0 1 ∧ v.2.1 t 0 1 ≤ 40 ∧ ∀ i : Nat, (i : Int) < v.2.1 t 0 1 → isPo (v.1 (v.2.1 t 0 0).toNat) (v.2.1 t 1 i) ∧ 0 ≤ v.2.1 t 2 i ∧ v.2.1 t 2 i ≤ 9) ∧
  (∀ i : Nat, (i : Int) < v.2.2.1 2 → 0 ≤ v.2.2.2 0 i ∧ v.2.2.2 0 i ≤ 255) ∧ (∀ s, s < 256 → 0 ≤ v.2.2.2 1 s ∧ v.2.2.2 1 s ≤ 1080 * c) ∧ c ≤ 512
