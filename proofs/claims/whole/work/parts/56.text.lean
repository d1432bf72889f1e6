/-! the text: its tokens -/
def rgB (lo hi b : Int) : Bool := decide (lo ≤ b ∧ b ≤ hi)
def runF (P : Nat → Bool) : Nat → Nat → Nat
  | 0, p => p
  | f + 1, p => if P p = true then runF P f (p + 1) else p
def run (P : Nat → Bool) (n p : Nat) : Nat := runF P (n - p) p
section TXM
variable {P : Nat → Bool} {n : Nat}
theorem run_end {p : Nat} (h : n ≤ p) : run P n p = p := by unfold run; rw [show n - p = 0 by omega]; rfl
theorem run_yes {p : Nat} (h : p < n) (hp : P p = true) : run P n p = run P n (p + 1) := by
  unfold run
  obtain ⟨f, hf⟩ : ∃ f, n - p = f + 1 := ⟨n - p - 1, by omega⟩
  rw [hf, show n - (p + 1) = f by omega]
  show (if P p = true then _ else _) = _
  rw [if_pos hp]
theorem run_no {p : Nat} (hp : ¬ P p = true) : run P n p = p := by
  unfold run
  cases n - p with
  | zero => rfl
  | succ f => show (if P p = true then _ else _) = _; rw [if_neg hp]
theorem run_rg : ∀ (d p : Nat), d = n - p → p ≤ n → p ≤ run P n p ∧ run P n p ≤ n := by
  intro d
  induction d with
  | zero => intro p h1 h2; rw [run_end (by omega)]; omega
  | succ d ih =>
    intro p h1 h2
    by_cases hp : P p = true
    · rw [run_yes (by omega) hp]
      have := ih (p + 1) (by omega) (by omega)
      omega
    · rw [run_no hp]; omega
theorem run_ge {p : Nat} (h : p ≤ n) : p ≤ run P n p ∧ run P n p ≤ n := run_rg _ p rfl h
theorem run_at : ∀ (d p : Nat), d = n - p → p ≤ n → run P n p = n ∨ ¬ P (run P n p) = true := by
  intro d
  induction d with
  | zero => intro p h1 h2; rw [run_end (by omega)]; exact Or.inl (by omega)
  | succ d ih =>
    intro p h1 h2
    by_cases hp : P p = true
    · rw [run_yes (by omega) hp]; exact ih (p + 1) (by omega) (by omega)
    · rw [run_no hp]; exact Or.inr hp
end TXM
/-- the words -/
def wrd (k : Nat) : List Int := if k = 0 then [109, 97, 107, 101] else if k = 1 then [116, 104, 101, 110] else if k = 2 then [102, 114, 111, 109] else if k = 3 then [116, 111] else if k = 4 then [98, 97, 99, 107] else if k = 5 then [115, 108, 111, 119] else [100, 114, 121]
def mwd (B : Nat → Int) (q e k : Nat) : Prop := e - q = (wrd k).length ∧ ∀ i, i < (wrd k).length → B (q + i) = (wrd k).getD i 0
noncomputable def wkd (B : Nat → Int) (q e : Nat) : Int := cif (mwd B q e 0) 0 (cif (mwd B q e 1) 1 (cif (mwd B q e 2) 2 (cif (mwd B q e 3) 3 (cif (mwd B q e 4) 4 (cif (mwd B q e 5) 5 (cif (mwd B q e 6) 6 (-1)))))))
def vrF (B : Nat → Int) (q : Nat) : Nat → Int
  | 0 => 0
  | k + 1 => if vrF B q k ≤ 99 then 10 * vrF B q k + B (q + k) - 48 else vrF B q k
def isWsF (B : Nat → Int) (i : Nat) : Bool := decide (B i = 10 ∨ B i = 32)
def isLoF (B : Nat → Int) (i : Nat) : Bool := rgB 97 122 (B i)
def isDgF (B : Nat → Int) (i : Nat) : Bool := rgB 48 57 (B i)
def skp (B : Nat → Int) (n p : Nat) : Nat := run (isWsF B) n p
def nxt (B : Nat → Int) (n q : Nat) : Nat := if n ≤ q then q else if isLoF B q = true then run (isLoF B) n (q + 1) else if isDgF B q = true then run (isDgF B) n (q + 1) else q + 1
/-- kinds as the class has them: 0 end, 1 bad, 2 number, 3 close, 4 .. 10 words -/
noncomputable def knd (B : Nat → Int) (n q : Nat) : Int := if n ≤ q then 0 else if isLoF B q = true then (if wkd B q (nxt B n q) = -1 then 1 else 4 + wkd B q (nxt B n q)) else if isDgF B q = true then 2 else if B q = 59 then 3 else 1
def vlu (B : Nat → Int) (n q : Nat) : Int := if n ≤ q then 0 else if isLoF B q = true then 0 else if isDgF B q = true then vrF B q (nxt B n q - q) else 0
/-- the place of token i -/
def tk (B : Nat → Int) (n : Nat) : Nat → Nat
  | 0 => skp B n 0
  | i + 1 => skp B n (nxt B n (tk B n i))
section TXM2
variable {B : Nat → Int} {n : Nat}
theorem nxt_gt {q : Nat} (h : q < n) : q < nxt B n q ∧ nxt B n q ≤ n := by
  unfold nxt
  rw [if_neg (by omega)]
  split
  · have := run_ge (P := isLoF B) (n := n) (p := q + 1) (by omega); omega
  · split
    · have := run_ge (P := isDgF B) (n := n) (p := q + 1) (by omega); omega
    · omega
theorem nxt_end {q : Nat} (h : n ≤ q) : nxt B n q = q := by unfold nxt; rw [if_pos h]
theorem tk_le (i : Nat) : tk B n i ≤ n := by
  induction i with
  | zero => exact (run_ge (Nat.zero_le n)).2
  | succ i ih =>
    show skp B n (nxt B n (tk B n i)) ≤ n
    by_cases h : tk B n i < n
    · exact (run_ge (nxt_gt h).2).2
    · rw [nxt_end (by omega)]; exact (run_ge ih).2
theorem tk_lt {i : Nat} (h : tk B n i < n) : tk B n i < tk B n (i + 1) := by
  have h1 := nxt_gt (B := B) h
  have h2 := (run_ge (P := isWsF B) h1.2).1
  show _ < skp B n (nxt B n (tk B n i))
  unfold skp; omega
theorem tk_ge : ∀ i, tk B n i = n ∨ i ≤ tk B n i := by
  intro i
  induction i with
  | zero => right; omega
  | succ i ih =>
    by_cases h : tk B n i < n
    · have := tk_lt h
      rcases ih with q | q
      · omega
      · right; omega
    · left
      have e : tk B n i = n := by have := tk_le (B := B) (n := n) i; omega
      show skp B n (nxt B n (tk B n i)) = n
      rw [e, nxt_end (Nat.le_refl _)]; exact run_end (Nat.le_refl _)
theorem knd_0 {i : Nat} : knd B n (tk B n i) = 0 ↔ tk B n i = n := by
  have h := tk_le (B := B) (n := n) i
  unfold knd
  by_cases e : tk B n i = n
  · rw [if_pos (by omega)]; exact ⟨fun _ => e, fun _ => rfl⟩
  · rw [if_neg (by omega)]
    refine ⟨fun q => ?_, fun q => absurd q e⟩
    exfalso
    revert q
    have wr : -1 ≤ wkd B (tk B n i) (nxt B n (tk B n i)) := by
      unfold wkd cif
      repeat (first | split | omega)
    split
    · split <;> omega
    · split
      · omega
      · split <;> omega
theorem vrF_rg {q : Nat} : ∀ k, (∀ i, i < k → 48 ≤ B (q + i) ∧ B (q + i) ≤ 57) → 0 ≤ vrF B q k ∧ vrF B q k ≤ 999 := by
  intro k
  induction k with
  | zero => intro _; exact ⟨Int.le_refl 0, by show (0 : Int) ≤ 999; omega⟩
  | succ k ih =>
    intro h
    have h1 := ih (fun i hi => h i (by omega))
    have h2 := h k (by omega)
    show 0 ≤ (if vrF B q k ≤ 99 then 10 * vrF B q k + B (q + k) - 48 else vrF B q k) ∧ (if vrF B q k ≤ 99 then 10 * vrF B q k + B (q + k) - 48 else vrF B q k) ≤ 999
    split <;> omega
theorem run_all : ∀ (d p : Nat) (P : Nat → Bool), d = n - p → p ≤ n → ∀ i, p ≤ i → i < run P n p → P i = true := by
  intro d
  induction d with
  | zero => intro p P h1 h2 i h3 h4; rw [run_end (by omega)] at h4; omega
  | succ d ih =>
    intro p P h1 h2 i h3 h4
    by_cases hp : P p = true
    · rw [run_yes (by omega) hp] at h4
      by_cases e : i = p
      · rw [e]; exact hp
      · exact ih (p + 1) P (by omega) (by omega) i (by omega) h4
    · rw [run_no hp] at h4; omega
theorem wrd_str : ∀ k, k < 7 → slenI (1000000 + k) = I ((wrd k).length : Int) ∧ slen.getD (six (1000000 + k)) 0 = (wrd k).length ∧ ∀ i, i < (wrd k).length → schr (1000000 + k) (I (i : Int)) = I ((wrd k).getD i 0) := by decide
theorem wrd_len : ∀ k, k < 7 → 2 ≤ (wrd k).length ∧ (wrd k).length ≤ 4 := by decide
theorem wrd_rg : ∀ k, k < 7 → ∀ i, i < (wrd k).length → 97 ≤ (wrd k).getD i 0 ∧ (wrd k).getD i 0 ≤ 122 := by decide
end TXM2
section TXC
variable {l : Launch} {σ σ' : Sg} {v v' : Vt} {c : Nat} {B : Nat → Int} {n : Nat}
/-- the class's bytes -/
def TxB (σ : Sg) (B : Nat → Int) (n : Nat) : Prop := n ≤ 400 ∧ (∀ i, i < n → σ.2.1 46 i = I (B i)) ∧ ∀ i, i < n → 0 ≤ B i ∧ B i ≤ 255
theorem TxB.onl {S : List Nat} (h : TxB σ B n) (ho : Onl S σ σ') (hs : 46 ∉ S) : TxB σ' B n := ⟨h.1, fun i hi => by rw [ho.2.2 46 hs]; exact h.2.1 i hi, h.2.2⟩
theorem q_byteAt {K : Int32 → Sg → Prop} {p : Nat} (hC : Cp σ) (hB : TxB σ B n) (hp : p < n) (hK : K (I (B p)) σ) : Con l mX10_byteAt [.inr 45, .inl (I p)] σ (PI K) := by
  have n4 := hB.1
  refine eX10_byteAt ?_
  rw [I_0, I_lt' (by omega) (by omega) (by omega) (by omega), show (400 : Int32) = I 400 from rfl, I_le' (by omega) (by omega) (by omega) (by omega)]
  refine ⟨fun q => absurd q (by omega), fun _ => ⟨fun q => absurd q (by omega), fun _ => ⟨hC.o45, hC.a45_0 (by omega) (by omega), ?_⟩⟩⟩
  rw [hC.d45_0 (by omega) (by omega), I_tn, hB.2.1 p hp]; exact hK
theorem q_endOfRow {K : Int32 → Sg → Prop} {p : Nat} {lo hi : Int} (hC : Cp σ) (hB : TxB σ B n) (hp : p < n) (hlo : Rg lo) (hhi : Rg hi) (hK : K (I (run (fun i => rgB lo hi (B i)) n (p + 1) : Nat)) σ) : Con l mX10_endOfRow [.inr 45, .inl (I p), .inl (I n), .inl (I lo), .inl (I hi)] σ (PI K) := by
  have n4 := hB.1
  have F : ∀ e, e ≤ n → run (fun i => rgB lo hi (B i)) n e = run (fun i => rgB lo hi (B i)) n (p + 1) → GW l mX10_endOfRow 5 [(0, .inr 45), (1, .inl (I p)), (2, .inl (I n)), (3, .inl (I lo)), (4, .inl (I hi)), (5, .inl (I e))] [] σ 0 0 (PI K) := by
    refine lp ?_ ?_
    · intro he
      rw [run_end (Nat.le_refl _)] at he
      refine gX10_endOfRow_5 ⟨fun _ => by rw [← he] at hK; exact hK, fun q => absurd ((I_le ⟨by omega, by omega⟩ ⟨by omega, by omega⟩).mpr (by omega)) q⟩
    · intro e he ih hr
      have be := hB.2.2 e he
      refine gX10_endOfRow_5 ⟨fun q => ?_, fun _ => ⟨hC.o45, q_byteAt hC hB he (q_within ⟨by omega, by omega⟩ hlo hhi (fun a b => ⟨fun q => absurd q (by decide), fun _ => ?_⟩) (fun a => ⟨fun _ => ?_, fun q => absurd rfl q⟩))⟩⟩
      · rw [I_le ⟨by omega, by omega⟩ ⟨by omega, by omega⟩] at q; omega
      · rw [I_1, I_add]
        refine ih ?_
        rw [← hr, run_yes he (by unfold rgB; exact decide_eq_true ⟨a, b⟩)]
      · rw [run_no (by unfold rgB; rw [decide_eq_true_eq]; exact a)] at hr
        rw [← hr] at hK; exact hK
  have := F (p + 1) (by omega) rfl
  refine eX10_endOfRow ?_
  rw [I_1, I_add]; exact this
theorem q_valueOf {K : Int32 → Sg → Prop} {p e : Nat} (hC : Cp σ) (hB : TxB σ B n) (hp : p ≤ e) (he : e ≤ n) (hd : ∀ i, p ≤ i → i < e → 48 ≤ B i ∧ B i ≤ 57) (hK : K (I (min (vrF B p (e - p)) 100)) σ) : Con l mX10_valueOf [.inr 45, .inl (I p), .inl (I e)] σ (PI K) := by
  have n4 := hB.1
  have F : ∀ k, k ≤ e - p → GW l mX10_valueOf 5 [(0, .inr 45), (1, .inl (I p)), (2, .inl (I e)), (3, .inl (I (min (vrF B p k) 100))), (4, .inl (I ((p + k : Nat) : Int)))] [] σ 0 0 (PI K) := by
    refine lp ?_ ?_
    · refine gX10_valueOf_5 ⟨fun _ => hK, fun q => absurd ((I_le ⟨by omega, by omega⟩ ⟨by omega, by omega⟩).mpr (by omega)) q⟩
    · intro k hk ih
      have vr := vrF_rg (B := B) (q := p) k (fun i hi => hd (p + i) (by omega) (by omega))
      have bk := hd (p + k) (by omega) (by omega)
      refine gX10_valueOf_5 ⟨fun q => ?_, fun _ => ⟨hC.o45, q_byteAt hC hB (by omega) ?_⟩⟩
      · rw [I_le ⟨by omega, by omega⟩ ⟨by omega, by omega⟩] at q; omega
      · rw [show (10 : Int32) = I 10 from rfl, show (48 : Int32) = I 48 from rfl, I_mul, I_add, I_sub]
        refine q_min (b := 100) ⟨by omega, by omega⟩ ⟨by omega, by omega⟩ ?_
        rw [I_1, I_add]
        have ev : min (min (vrF B p k) 100 * 10 + B (p + k) - 48) 100 = min (vrF B p (k + 1)) 100 := by
          show _ = min (if vrF B p k ≤ 99 then 10 * vrF B p k + B (p + k) - 48 else vrF B p k) 100
          split <;> omega
        rw [ev]; exact ih
  exact eX10_valueOf (F 0 (by omega))
theorem q_isWord {K : Int32 → Sg → Prop} {p e k : Nat} (hC : Cp σ) (hB : TxB σ B n) (hp : p < e) (he : e ≤ n) (hk : k < 7) (h1 : mwd B p e k → K 1 σ) (h0 : ¬ mwd B p e k → K 0 σ) : Con l mX10_isWord [.inr 45, .inl (I p), .inl (I ((e : Int) - p)), .inr (1000000 + k)] σ (PI K) := by
  have n4 := hB.1
  have W := wrd_str k hk
  have wl := wrd_len k hk
  have hx : Sx (1000000 + k) := ⟨by omega, by omega⟩
  have no : ¬ mwd B p e k → ∀ i : Nat, i ≤ 10 → GW l mX10_isWord 18 [(0, .inr 45), (1, .inl (I p)), (2, .inl (I ((e : Int) - p))), (3, .inr (1000000 + k)), (4, .inl 0), (5, .inl (I i))] [] σ 0 0 (PI K) := by
    intro hn i hi
    exact gX10_isWord_18 ⟨hx, fun _ => ⟨Or.inl rfl, h0 hn⟩, fun _ => ⟨fun _ => ⟨Or.inl rfl, h0 hn⟩, fun q => absurd rfl q⟩⟩
  refine eX10_isWord ⟨hx, ?_⟩
  rw [W.1, I_eq' (by omega) (by omega) (by omega) (by omega)]
  refine ⟨fun q => no (fun z => q (by have := z.1; omega)) 0 (by omega), fun q => ?_⟩
  have F : ∀ i, i ≤ (wrd k).length → (∀ i', i' < i → B (p + i') = (wrd k).getD i' 0) → GW l mX10_isWord 18 [(0, .inr 45), (1, .inl (I p)), (2, .inl (I ((e : Int) - p))), (3, .inr (1000000 + k)), (4, .inl 1), (5, .inl (I i))] [] σ 0 0 (PI K) := by
    refine lp ?_ ?_
    · intro ha
      refine gX10_isWord_18 ⟨hx, fun _ => ⟨Or.inr rfl, h1 ⟨by omega, ha⟩⟩, fun z => absurd ?_ z⟩
      rw [W.1]; exact (I_le ⟨by omega, by omega⟩ ⟨by omega, by omega⟩).mpr (by omega)
    · intro i hi ih ha
      have wr := wrd_rg k hk i hi
      have bi := hB.2.2 (p + i) (by omega)
      refine gX10_isWord_18 ⟨hx, fun z => ?_, fun _ => ⟨fun z => absurd z (by decide), fun _ => ⟨hC.o45, ?_⟩⟩⟩
      · rw [W.1, I_le ⟨by omega, by omega⟩ ⟨by omega, by omega⟩] at z; omega
      · rw [I_add, show ((p : Int) + i) = ((p + i : Nat) : Int) by omega]
        refine q_byteAt hC hB (by omega) ⟨⟨hx, ?_⟩, ?_⟩
        · rw [W.2.1]; exact (I_in ⟨by omega, by omega⟩).mpr ⟨by omega, by omega⟩
        · rw [W.2.2 i hi, I_eq' (by omega) (by omega) (by omega) (by omega), I_1, I_add]
          refine ⟨fun z => no (fun y => z (y.2 i hi)) (i + 1) (by omega), fun z => ih (fun i' hi' => ?_)⟩
          by_cases y : i' = i
          · rw [y]; exact z
          · exact ha i' (by omega)
  exact F 0 (by omega) (fun i' hi' => absurd hi' (by omega))
theorem q_wordKind {K : Int32 → Sg → Prop} {p e : Nat} (hC : Cp σ) (hB : TxB σ B n) (hp : p < e) (he : e ≤ n) (hK : K (I (if wkd B p e = -1 then 1 else 4 + wkd B p e)) σ) : Con l mX10_wordKind [.inr 45, .inl (I p), .inl (I ((e : Int) - p))] σ (PI K) := by
  refine eX10_wordKind ⟨hC.o45, q_isWord (k := 0) hC hB hp he (by omega) (fun y => ⟨fun z => absurd z (by decide), fun _ => ?_⟩) (fun y0 => ⟨fun _ => ?_, fun z => absurd rfl z⟩)⟩
  · unfold wkd at hK; rw [cif_t y] at hK; exact hK
  refine q_isWord (k := 1) hC hB hp he (by omega) (fun y => ⟨fun z => absurd z (by decide), fun _ => ?_⟩) (fun y1 => ⟨fun _ => ?_, fun z => absurd rfl z⟩)
  · unfold wkd at hK; rw [cif_f y0, cif_t y] at hK; exact hK
  refine q_isWord (k := 2) hC hB hp he (by omega) (fun y => ⟨fun z => absurd z (by decide), fun _ => ?_⟩) (fun y2 => ⟨fun _ => ?_, fun z => absurd rfl z⟩)
  · unfold wkd at hK; rw [cif_f y0, cif_f y1, cif_t y] at hK; exact hK
  refine q_isWord (k := 3) hC hB hp he (by omega) (fun y => ⟨fun z => absurd z (by decide), fun _ => ?_⟩) (fun y3 => ⟨fun _ => ?_, fun z => absurd rfl z⟩)
  · unfold wkd at hK; rw [cif_f y0, cif_f y1, cif_f y2, cif_t y] at hK; exact hK
  refine q_isWord (k := 4) hC hB hp he (by omega) (fun y => ⟨fun z => absurd z (by decide), fun _ => ?_⟩) (fun y4 => ⟨fun _ => ?_, fun z => absurd rfl z⟩)
  · unfold wkd at hK; rw [cif_f y0, cif_f y1, cif_f y2, cif_f y3, cif_t y] at hK; exact hK
  refine q_isWord (k := 5) hC hB hp he (by omega) (fun y => ⟨fun z => absurd z (by decide), fun _ => ?_⟩) (fun y5 => ⟨fun _ => ?_, fun z => absurd rfl z⟩)
  · unfold wkd at hK; rw [cif_f y0, cif_f y1, cif_f y2, cif_f y3, cif_f y4, cif_t y] at hK; exact hK
  refine q_isWord (k := 6) hC hB hp he (by omega) (fun y => ⟨fun z => absurd z (by decide), fun _ => ?_⟩) (fun y6 => ⟨fun _ => ?_, fun z => absurd rfl z⟩)
  · unfold wkd at hK; rw [cif_f y0, cif_f y1, cif_f y2, cif_f y3, cif_f y4, cif_f y5, cif_t y] at hK; exact hK
  · unfold wkd at hK; rw [cif_f y0, cif_f y1, cif_f y2, cif_f y3, cif_f y4, cif_f y5, cif_f y6] at hK; exact hK
end TXC
