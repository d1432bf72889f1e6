/-! the reference: its pointers -/
def mptr : List (Nat × Nat) := [(1, 83), (3, 84), (5, 85), (6, 86), (7, 87), (8, 88), (9, 89), (10, 90), (11, 91), (12, 92), (13, 93), (14, 94), (15, 95), (17, 96), (18, 97), (19, 98), (20, 99), (31, 100), (32, 101), (34, 102), (35, 103), (38, 104), (43, 105), (44, 106), (45, 107), (46, 108), (47, 109), (49, 110), (50, 111), (51, 112), (52, 113), (53, 114), (55, 115), (56, 116), (60, 117), (61, 118)]
def Mp (σ : Sg) : Prop := 118 ≤ σ.1 ∧ ∀ q ∈ mptr, σ.2.2 82 q.1 = q.2
theorem ai_of {σ : Sg} {r n : Nat} {z : Int} (hs : shp r = (13, n)) (hr : r ≠ 0) (hle : r ≤ σ.1) (h0 : 0 ≤ z) (h1 : z < n) (hn : n < 2147483648) : Ai σ r (I z) := by
  refine ⟨hr, by rw [hs], hle, ?_⟩
  rw [hs, I_in ⟨by omega, by omega⟩]; exact ⟨h0, h1⟩
theorem az_of {σ : Sg} {r n : Nat} {z : Int} (hs : shp r = (14, n)) (hr : r ≠ 0) (hle : r ≤ σ.1) (h0 : 0 ≤ z) (h1 : z < n) (hn : n < 2147483648) : Az σ r (I z) := by
  refine ⟨hr, by rw [hs], hle, ?_⟩
  rw [hs, I_in ⟨by omega, by omega⟩]; exact ⟨h0, h1⟩
theorem Mp.ob {σ : Sg} (h : Mp σ) : Ob σ 82 12 := ⟨by decide, by decide, Nat.le_trans (by decide) h.1⟩
theorem Mp.k1 {σ : Sg} (h : Mp σ) : σ.2.2 82 1 = 83 := h.2 (1, 83) (by decide)
theorem Mp.a1 {σ : Sg} (h : Mp σ) {z : Int} (h0 : 0 ≤ z) (h1 : z < 400) : Ai σ (σ.2.2 82 1) (I z) := by rw [h.k1]; exact ai_of (n := 400) (by decide) (by decide) (Nat.le_trans (by decide) h.1) h0 h1 (by decide)
theorem Mp.d1 {σ : Sg} (h : Mp σ) {z : Int} (h0 : 0 ≤ z) (h1 : z < 400) : σ.2.1 (σ.2.2 82 1) (I z).toNatClampNeg = σ.2.1 83 z.toNat := by rw [h.k1, I_cl h0 (by omega)]
theorem Mp.k3 {σ : Sg} (h : Mp σ) : σ.2.2 82 3 = 84 := h.2 (3, 84) (by decide)
theorem Mp.a3 {σ : Sg} (h : Mp σ) {z : Int} (h0 : 0 ≤ z) (h1 : z < 16) : Ai σ (σ.2.2 82 3) (I z) := by rw [h.k3]; exact ai_of (n := 16) (by decide) (by decide) (Nat.le_trans (by decide) h.1) h0 h1 (by decide)
theorem Mp.d3 {σ : Sg} (h : Mp σ) {z : Int} (h0 : 0 ≤ z) (h1 : z < 16) : σ.2.1 (σ.2.2 82 3) (I z).toNatClampNeg = σ.2.1 84 z.toNat := by rw [h.k3, I_cl h0 (by omega)]
theorem Mp.k5 {σ : Sg} (h : Mp σ) : σ.2.2 82 5 = 85 := h.2 (5, 85) (by decide)
theorem Mp.a5 {σ : Sg} (h : Mp σ) {z : Int} (h0 : 0 ≤ z) (h1 : z < 2) : Ai σ (σ.2.2 82 5) (I z) := by rw [h.k5]; exact ai_of (n := 2) (by decide) (by decide) (Nat.le_trans (by decide) h.1) h0 h1 (by decide)
theorem Mp.d5 {σ : Sg} (h : Mp σ) {z : Int} (h0 : 0 ≤ z) (h1 : z < 2) : σ.2.1 (σ.2.2 82 5) (I z).toNatClampNeg = σ.2.1 85 z.toNat := by rw [h.k5, I_cl h0 (by omega)]
theorem Mp.k6 {σ : Sg} (h : Mp σ) : σ.2.2 82 6 = 86 := h.2 (6, 86) (by decide)
theorem Mp.a6 {σ : Sg} (h : Mp σ) {z : Int} (h0 : 0 ≤ z) (h1 : z < 2) : Ai σ (σ.2.2 82 6) (I z) := by rw [h.k6]; exact ai_of (n := 2) (by decide) (by decide) (Nat.le_trans (by decide) h.1) h0 h1 (by decide)
theorem Mp.d6 {σ : Sg} (h : Mp σ) {z : Int} (h0 : 0 ≤ z) (h1 : z < 2) : σ.2.1 (σ.2.2 82 6) (I z).toNatClampNeg = σ.2.1 86 z.toNat := by rw [h.k6, I_cl h0 (by omega)]
theorem Mp.k7 {σ : Sg} (h : Mp σ) : σ.2.2 82 7 = 87 := h.2 (7, 87) (by decide)
theorem Mp.a7 {σ : Sg} (h : Mp σ) {z : Int} (h0 : 0 ≤ z) (h1 : z < 2) : Ai σ (σ.2.2 82 7) (I z) := by rw [h.k7]; exact ai_of (n := 2) (by decide) (by decide) (Nat.le_trans (by decide) h.1) h0 h1 (by decide)
theorem Mp.d7 {σ : Sg} (h : Mp σ) {z : Int} (h0 : 0 ≤ z) (h1 : z < 2) : σ.2.1 (σ.2.2 82 7) (I z).toNatClampNeg = σ.2.1 87 z.toNat := by rw [h.k7, I_cl h0 (by omega)]
theorem Mp.k8 {σ : Sg} (h : Mp σ) : σ.2.2 82 8 = 88 := h.2 (8, 88) (by decide)
theorem Mp.a8 {σ : Sg} (h : Mp σ) {z : Int} (h0 : 0 ≤ z) (h1 : z < 6) : Ai σ (σ.2.2 82 8) (I z) := by rw [h.k8]; exact ai_of (n := 6) (by decide) (by decide) (Nat.le_trans (by decide) h.1) h0 h1 (by decide)
theorem Mp.d8 {σ : Sg} (h : Mp σ) {z : Int} (h0 : 0 ≤ z) (h1 : z < 6) : σ.2.1 (σ.2.2 82 8) (I z).toNatClampNeg = σ.2.1 88 z.toNat := by rw [h.k8, I_cl h0 (by omega)]
theorem Mp.k9 {σ : Sg} (h : Mp σ) : σ.2.2 82 9 = 89 := h.2 (9, 89) (by decide)
theorem Mp.a9 {σ : Sg} (h : Mp σ) {z : Int} (h0 : 0 ≤ z) (h1 : z < 6) : Ai σ (σ.2.2 82 9) (I z) := by rw [h.k9]; exact ai_of (n := 6) (by decide) (by decide) (Nat.le_trans (by decide) h.1) h0 h1 (by decide)
theorem Mp.d9 {σ : Sg} (h : Mp σ) {z : Int} (h0 : 0 ≤ z) (h1 : z < 6) : σ.2.1 (σ.2.2 82 9) (I z).toNatClampNeg = σ.2.1 89 z.toNat := by rw [h.k9, I_cl h0 (by omega)]
theorem Mp.k10 {σ : Sg} (h : Mp σ) : σ.2.2 82 10 = 90 := h.2 (10, 90) (by decide)
theorem Mp.a10 {σ : Sg} (h : Mp σ) {z : Int} (h0 : 0 ≤ z) (h1 : z < 6) : Ai σ (σ.2.2 82 10) (I z) := by rw [h.k10]; exact ai_of (n := 6) (by decide) (by decide) (Nat.le_trans (by decide) h.1) h0 h1 (by decide)
theorem Mp.d10 {σ : Sg} (h : Mp σ) {z : Int} (h0 : 0 ≤ z) (h1 : z < 6) : σ.2.1 (σ.2.2 82 10) (I z).toNatClampNeg = σ.2.1 90 z.toNat := by rw [h.k10, I_cl h0 (by omega)]
theorem Mp.k11 {σ : Sg} (h : Mp σ) : σ.2.2 82 11 = 91 := h.2 (11, 91) (by decide)
theorem Mp.a11 {σ : Sg} (h : Mp σ) {z : Int} (h0 : 0 ≤ z) (h1 : z < 6) : Ai σ (σ.2.2 82 11) (I z) := by rw [h.k11]; exact ai_of (n := 6) (by decide) (by decide) (Nat.le_trans (by decide) h.1) h0 h1 (by decide)
theorem Mp.d11 {σ : Sg} (h : Mp σ) {z : Int} (h0 : 0 ≤ z) (h1 : z < 6) : σ.2.1 (σ.2.2 82 11) (I z).toNatClampNeg = σ.2.1 91 z.toNat := by rw [h.k11, I_cl h0 (by omega)]
theorem Mp.k12 {σ : Sg} (h : Mp σ) : σ.2.2 82 12 = 92 := h.2 (12, 92) (by decide)
theorem Mp.a12 {σ : Sg} (h : Mp σ) {z : Int} (h0 : 0 ≤ z) (h1 : z < 2) : Ai σ (σ.2.2 82 12) (I z) := by rw [h.k12]; exact ai_of (n := 2) (by decide) (by decide) (Nat.le_trans (by decide) h.1) h0 h1 (by decide)
theorem Mp.d12 {σ : Sg} (h : Mp σ) {z : Int} (h0 : 0 ≤ z) (h1 : z < 2) : σ.2.1 (σ.2.2 82 12) (I z).toNatClampNeg = σ.2.1 92 z.toNat := by rw [h.k12, I_cl h0 (by omega)]
theorem Mp.k13 {σ : Sg} (h : Mp σ) : σ.2.2 82 13 = 93 := h.2 (13, 93) (by decide)
theorem Mp.a13 {σ : Sg} (h : Mp σ) {z : Int} (h0 : 0 ≤ z) (h1 : z < 2) : Ai σ (σ.2.2 82 13) (I z) := by rw [h.k13]; exact ai_of (n := 2) (by decide) (by decide) (Nat.le_trans (by decide) h.1) h0 h1 (by decide)
theorem Mp.d13 {σ : Sg} (h : Mp σ) {z : Int} (h0 : 0 ≤ z) (h1 : z < 2) : σ.2.1 (σ.2.2 82 13) (I z).toNatClampNeg = σ.2.1 93 z.toNat := by rw [h.k13, I_cl h0 (by omega)]
theorem Mp.k14 {σ : Sg} (h : Mp σ) : σ.2.2 82 14 = 94 := h.2 (14, 94) (by decide)
theorem Mp.a14 {σ : Sg} (h : Mp σ) {z : Int} (h0 : 0 ≤ z) (h1 : z < 2) : Ai σ (σ.2.2 82 14) (I z) := by rw [h.k14]; exact ai_of (n := 2) (by decide) (by decide) (Nat.le_trans (by decide) h.1) h0 h1 (by decide)
theorem Mp.d14 {σ : Sg} (h : Mp σ) {z : Int} (h0 : 0 ≤ z) (h1 : z < 2) : σ.2.1 (σ.2.2 82 14) (I z).toNatClampNeg = σ.2.1 94 z.toNat := by rw [h.k14, I_cl h0 (by omega)]
theorem Mp.k15 {σ : Sg} (h : Mp σ) : σ.2.2 82 15 = 95 := h.2 (15, 95) (by decide)
theorem Mp.a15 {σ : Sg} (h : Mp σ) {z : Int} (h0 : 0 ≤ z) (h1 : z < 2) : Ai σ (σ.2.2 82 15) (I z) := by rw [h.k15]; exact ai_of (n := 2) (by decide) (by decide) (Nat.le_trans (by decide) h.1) h0 h1 (by decide)
theorem Mp.d15 {σ : Sg} (h : Mp σ) {z : Int} (h0 : 0 ≤ z) (h1 : z < 2) : σ.2.1 (σ.2.2 82 15) (I z).toNatClampNeg = σ.2.1 95 z.toNat := by rw [h.k15, I_cl h0 (by omega)]
theorem Mp.k17 {σ : Sg} (h : Mp σ) : σ.2.2 82 17 = 96 := h.2 (17, 96) (by decide)
theorem Mp.a17 {σ : Sg} (h : Mp σ) {z : Int} (h0 : 0 ≤ z) (h1 : z < 11) : Ai σ (σ.2.2 82 17) (I z) := by rw [h.k17]; exact ai_of (n := 11) (by decide) (by decide) (Nat.le_trans (by decide) h.1) h0 h1 (by decide)
theorem Mp.d17 {σ : Sg} (h : Mp σ) {z : Int} (h0 : 0 ≤ z) (h1 : z < 11) : σ.2.1 (σ.2.2 82 17) (I z).toNatClampNeg = σ.2.1 96 z.toNat := by rw [h.k17, I_cl h0 (by omega)]
theorem Mp.k18 {σ : Sg} (h : Mp σ) : σ.2.2 82 18 = 97 := h.2 (18, 97) (by decide)
theorem Mp.a18 {σ : Sg} (h : Mp σ) {z : Int} (h0 : 0 ≤ z) (h1 : z < 11) : Ai σ (σ.2.2 82 18) (I z) := by rw [h.k18]; exact ai_of (n := 11) (by decide) (by decide) (Nat.le_trans (by decide) h.1) h0 h1 (by decide)
theorem Mp.d18 {σ : Sg} (h : Mp σ) {z : Int} (h0 : 0 ≤ z) (h1 : z < 11) : σ.2.1 (σ.2.2 82 18) (I z).toNatClampNeg = σ.2.1 97 z.toNat := by rw [h.k18, I_cl h0 (by omega)]
theorem Mp.k19 {σ : Sg} (h : Mp σ) : σ.2.2 82 19 = 98 := h.2 (19, 98) (by decide)
theorem Mp.a19 {σ : Sg} (h : Mp σ) {z : Int} (h0 : 0 ≤ z) (h1 : z < 440) : Ai σ (σ.2.2 82 19) (I z) := by rw [h.k19]; exact ai_of (n := 440) (by decide) (by decide) (Nat.le_trans (by decide) h.1) h0 h1 (by decide)
theorem Mp.d19 {σ : Sg} (h : Mp σ) {z : Int} (h0 : 0 ≤ z) (h1 : z < 440) : σ.2.1 (σ.2.2 82 19) (I z).toNatClampNeg = σ.2.1 98 z.toNat := by rw [h.k19, I_cl h0 (by omega)]
theorem Mp.k20 {σ : Sg} (h : Mp σ) : σ.2.2 82 20 = 99 := h.2 (20, 99) (by decide)
theorem Mp.a20 {σ : Sg} (h : Mp σ) {z : Int} (h0 : 0 ≤ z) (h1 : z < 440) : Ai σ (σ.2.2 82 20) (I z) := by rw [h.k20]; exact ai_of (n := 440) (by decide) (by decide) (Nat.le_trans (by decide) h.1) h0 h1 (by decide)
theorem Mp.d20 {σ : Sg} (h : Mp σ) {z : Int} (h0 : 0 ≤ z) (h1 : z < 440) : σ.2.1 (σ.2.2 82 20) (I z).toNatClampNeg = σ.2.1 99 z.toNat := by rw [h.k20, I_cl h0 (by omega)]
theorem Mp.k31 {σ : Sg} (h : Mp σ) : σ.2.2 82 31 = 100 := h.2 (31, 100) (by decide)
theorem Mp.a31 {σ : Sg} (h : Mp σ) {z : Int} (h0 : 0 ≤ z) (h1 : z < 41) : Ai σ (σ.2.2 82 31) (I z) := by rw [h.k31]; exact ai_of (n := 41) (by decide) (by decide) (Nat.le_trans (by decide) h.1) h0 h1 (by decide)
theorem Mp.d31 {σ : Sg} (h : Mp σ) {z : Int} (h0 : 0 ≤ z) (h1 : z < 41) : σ.2.1 (σ.2.2 82 31) (I z).toNatClampNeg = σ.2.1 100 z.toNat := by rw [h.k31, I_cl h0 (by omega)]
theorem Mp.k32 {σ : Sg} (h : Mp σ) : σ.2.2 82 32 = 101 := h.2 (32, 101) (by decide)
theorem Mp.a32 {σ : Sg} (h : Mp σ) {z : Int} (h0 : 0 ≤ z) (h1 : z < 41) : Ai σ (σ.2.2 82 32) (I z) := by rw [h.k32]; exact ai_of (n := 41) (by decide) (by decide) (Nat.le_trans (by decide) h.1) h0 h1 (by decide)
theorem Mp.d32 {σ : Sg} (h : Mp σ) {z : Int} (h0 : 0 ≤ z) (h1 : z < 41) : σ.2.1 (σ.2.2 82 32) (I z).toNatClampNeg = σ.2.1 101 z.toNat := by rw [h.k32, I_cl h0 (by omega)]
theorem Mp.k34 {σ : Sg} (h : Mp σ) : σ.2.2 82 34 = 102 := h.2 (34, 102) (by decide)
theorem Mp.a34 {σ : Sg} (h : Mp σ) {z : Int} (h0 : 0 ≤ z) (h1 : z < 41) : Ai σ (σ.2.2 82 34) (I z) := by rw [h.k34]; exact ai_of (n := 41) (by decide) (by decide) (Nat.le_trans (by decide) h.1) h0 h1 (by decide)
theorem Mp.d34 {σ : Sg} (h : Mp σ) {z : Int} (h0 : 0 ≤ z) (h1 : z < 41) : σ.2.1 (σ.2.2 82 34) (I z).toNatClampNeg = σ.2.1 102 z.toNat := by rw [h.k34, I_cl h0 (by omega)]
theorem Mp.k35 {σ : Sg} (h : Mp σ) : σ.2.2 82 35 = 103 := h.2 (35, 103) (by decide)
theorem Mp.a35 {σ : Sg} (h : Mp σ) {z : Int} (h0 : 0 ≤ z) (h1 : z < 41) : Ai σ (σ.2.2 82 35) (I z) := by rw [h.k35]; exact ai_of (n := 41) (by decide) (by decide) (Nat.le_trans (by decide) h.1) h0 h1 (by decide)
theorem Mp.d35 {σ : Sg} (h : Mp σ) {z : Int} (h0 : 0 ≤ z) (h1 : z < 41) : σ.2.1 (σ.2.2 82 35) (I z).toNatClampNeg = σ.2.1 103 z.toNat := by rw [h.k35, I_cl h0 (by omega)]
theorem Mp.k38 {σ : Sg} (h : Mp σ) : σ.2.2 82 38 = 104 := h.2 (38, 104) (by decide)
theorem Mp.a38 {σ : Sg} (h : Mp σ) {z : Int} (h0 : 0 ≤ z) (h1 : z < 256) : Ai σ (σ.2.2 82 38) (I z) := by rw [h.k38]; exact ai_of (n := 256) (by decide) (by decide) (Nat.le_trans (by decide) h.1) h0 h1 (by decide)
theorem Mp.d38 {σ : Sg} (h : Mp σ) {z : Int} (h0 : 0 ≤ z) (h1 : z < 256) : σ.2.1 (σ.2.2 82 38) (I z).toNatClampNeg = σ.2.1 104 z.toNat := by rw [h.k38, I_cl h0 (by omega)]
theorem Mp.k43 {σ : Sg} (h : Mp σ) : σ.2.2 82 43 = 105 := h.2 (43, 105) (by decide)
theorem Mp.a43 {σ : Sg} (h : Mp σ) {z : Int} (h0 : 0 ≤ z) (h1 : z < 163840) : Ai σ (σ.2.2 82 43) (I z) := by rw [h.k43]; exact ai_of (n := 163840) (by decide) (by decide) (Nat.le_trans (by decide) h.1) h0 h1 (by decide)
theorem Mp.d43 {σ : Sg} (h : Mp σ) {z : Int} (h0 : 0 ≤ z) (h1 : z < 163840) : σ.2.1 (σ.2.2 82 43) (I z).toNatClampNeg = σ.2.1 105 z.toNat := by rw [h.k43, I_cl h0 (by omega)]
theorem Mp.k44 {σ : Sg} (h : Mp σ) : σ.2.2 82 44 = 106 := h.2 (44, 106) (by decide)
theorem Mp.a44 {σ : Sg} (h : Mp σ) {z : Int} (h0 : 0 ≤ z) (h1 : z < 8192) : Az σ (σ.2.2 82 44) (I z) := by rw [h.k44]; exact az_of (n := 8192) (by decide) (by decide) (Nat.le_trans (by decide) h.1) h0 h1 (by decide)
theorem Mp.d44 {σ : Sg} (h : Mp σ) {z : Int} (h0 : 0 ≤ z) (h1 : z < 8192) : σ.2.1 (σ.2.2 82 44) (I z).toNatClampNeg = σ.2.1 106 z.toNat := by rw [h.k44, I_cl h0 (by omega)]
theorem Mp.k45 {σ : Sg} (h : Mp σ) : σ.2.2 82 45 = 107 := h.2 (45, 107) (by decide)
theorem Mp.a45 {σ : Sg} (h : Mp σ) {z : Int} (h0 : 0 ≤ z) (h1 : z < 40) : Ai σ (σ.2.2 82 45) (I z) := by rw [h.k45]; exact ai_of (n := 40) (by decide) (by decide) (Nat.le_trans (by decide) h.1) h0 h1 (by decide)
theorem Mp.d45 {σ : Sg} (h : Mp σ) {z : Int} (h0 : 0 ≤ z) (h1 : z < 40) : σ.2.1 (σ.2.2 82 45) (I z).toNatClampNeg = σ.2.1 107 z.toNat := by rw [h.k45, I_cl h0 (by omega)]
theorem Mp.k46 {σ : Sg} (h : Mp σ) : σ.2.2 82 46 = 108 := h.2 (46, 108) (by decide)
theorem Mp.a46 {σ : Sg} (h : Mp σ) {z : Int} (h0 : 0 ≤ z) (h1 : z < 1600) : Ai σ (σ.2.2 82 46) (I z) := by rw [h.k46]; exact ai_of (n := 1600) (by decide) (by decide) (Nat.le_trans (by decide) h.1) h0 h1 (by decide)
theorem Mp.d46 {σ : Sg} (h : Mp σ) {z : Int} (h0 : 0 ≤ z) (h1 : z < 1600) : σ.2.1 (σ.2.2 82 46) (I z).toNatClampNeg = σ.2.1 108 z.toNat := by rw [h.k46, I_cl h0 (by omega)]
theorem Mp.k47 {σ : Sg} (h : Mp σ) : σ.2.2 82 47 = 109 := h.2 (47, 109) (by decide)
theorem Mp.a47 {σ : Sg} (h : Mp σ) {z : Int} (h0 : 0 ≤ z) (h1 : z < 80) : Ai σ (σ.2.2 82 47) (I z) := by rw [h.k47]; exact ai_of (n := 80) (by decide) (by decide) (Nat.le_trans (by decide) h.1) h0 h1 (by decide)
theorem Mp.d47 {σ : Sg} (h : Mp σ) {z : Int} (h0 : 0 ≤ z) (h1 : z < 80) : σ.2.1 (σ.2.2 82 47) (I z).toNatClampNeg = σ.2.1 109 z.toNat := by rw [h.k47, I_cl h0 (by omega)]
theorem Mp.k49 {σ : Sg} (h : Mp σ) : σ.2.2 82 49 = 110 := h.2 (49, 110) (by decide)
theorem Mp.a49 {σ : Sg} (h : Mp σ) {z : Int} (h0 : 0 ≤ z) (h1 : z < 12) : Ai σ (σ.2.2 82 49) (I z) := by rw [h.k49]; exact ai_of (n := 12) (by decide) (by decide) (Nat.le_trans (by decide) h.1) h0 h1 (by decide)
theorem Mp.d49 {σ : Sg} (h : Mp σ) {z : Int} (h0 : 0 ≤ z) (h1 : z < 12) : σ.2.1 (σ.2.2 82 49) (I z).toNatClampNeg = σ.2.1 110 z.toNat := by rw [h.k49, I_cl h0 (by omega)]
theorem Mp.k50 {σ : Sg} (h : Mp σ) : σ.2.2 82 50 = 111 := h.2 (50, 111) (by decide)
theorem Mp.a50 {σ : Sg} (h : Mp σ) {z : Int} (h0 : 0 ≤ z) (h1 : z < 20) : Az σ (σ.2.2 82 50) (I z) := by rw [h.k50]; exact az_of (n := 20) (by decide) (by decide) (Nat.le_trans (by decide) h.1) h0 h1 (by decide)
theorem Mp.d50 {σ : Sg} (h : Mp σ) {z : Int} (h0 : 0 ≤ z) (h1 : z < 20) : σ.2.1 (σ.2.2 82 50) (I z).toNatClampNeg = σ.2.1 111 z.toNat := by rw [h.k50, I_cl h0 (by omega)]
theorem Mp.k51 {σ : Sg} (h : Mp σ) : σ.2.2 82 51 = 112 := h.2 (51, 112) (by decide)
theorem Mp.a51 {σ : Sg} (h : Mp σ) {z : Int} (h0 : 0 ≤ z) (h1 : z < 20) : Ai σ (σ.2.2 82 51) (I z) := by rw [h.k51]; exact ai_of (n := 20) (by decide) (by decide) (Nat.le_trans (by decide) h.1) h0 h1 (by decide)
theorem Mp.d51 {σ : Sg} (h : Mp σ) {z : Int} (h0 : 0 ≤ z) (h1 : z < 20) : σ.2.1 (σ.2.2 82 51) (I z).toNatClampNeg = σ.2.1 112 z.toNat := by rw [h.k51, I_cl h0 (by omega)]
theorem Mp.k52 {σ : Sg} (h : Mp σ) : σ.2.2 82 52 = 113 := h.2 (52, 113) (by decide)
theorem Mp.a52 {σ : Sg} (h : Mp σ) {z : Int} (h0 : 0 ≤ z) (h1 : z < 20) : Ai σ (σ.2.2 82 52) (I z) := by rw [h.k52]; exact ai_of (n := 20) (by decide) (by decide) (Nat.le_trans (by decide) h.1) h0 h1 (by decide)
theorem Mp.d52 {σ : Sg} (h : Mp σ) {z : Int} (h0 : 0 ≤ z) (h1 : z < 20) : σ.2.1 (σ.2.2 82 52) (I z).toNatClampNeg = σ.2.1 113 z.toNat := by rw [h.k52, I_cl h0 (by omega)]
theorem Mp.k53 {σ : Sg} (h : Mp σ) : σ.2.2 82 53 = 114 := h.2 (53, 114) (by decide)
theorem Mp.a53 {σ : Sg} (h : Mp σ) {z : Int} (h0 : 0 ≤ z) (h1 : z < 5) : Ai σ (σ.2.2 82 53) (I z) := by rw [h.k53]; exact ai_of (n := 5) (by decide) (by decide) (Nat.le_trans (by decide) h.1) h0 h1 (by decide)
theorem Mp.d53 {σ : Sg} (h : Mp σ) {z : Int} (h0 : 0 ≤ z) (h1 : z < 5) : σ.2.1 (σ.2.2 82 53) (I z).toNatClampNeg = σ.2.1 114 z.toNat := by rw [h.k53, I_cl h0 (by omega)]
theorem Mp.k55 {σ : Sg} (h : Mp σ) : σ.2.2 82 55 = 115 := h.2 (55, 115) (by decide)
theorem Mp.a55 {σ : Sg} (h : Mp σ) {z : Int} (h0 : 0 ≤ z) (h1 : z < 256) : Ai σ (σ.2.2 82 55) (I z) := by rw [h.k55]; exact ai_of (n := 256) (by decide) (by decide) (Nat.le_trans (by decide) h.1) h0 h1 (by decide)
theorem Mp.d55 {σ : Sg} (h : Mp σ) {z : Int} (h0 : 0 ≤ z) (h1 : z < 256) : σ.2.1 (σ.2.2 82 55) (I z).toNatClampNeg = σ.2.1 115 z.toNat := by rw [h.k55, I_cl h0 (by omega)]
theorem Mp.k56 {σ : Sg} (h : Mp σ) : σ.2.2 82 56 = 116 := h.2 (56, 116) (by decide)
theorem Mp.a56 {σ : Sg} (h : Mp σ) {z : Int} (h0 : 0 ≤ z) (h1 : z < 256) : Ai σ (σ.2.2 82 56) (I z) := by rw [h.k56]; exact ai_of (n := 256) (by decide) (by decide) (Nat.le_trans (by decide) h.1) h0 h1 (by decide)
theorem Mp.d56 {σ : Sg} (h : Mp σ) {z : Int} (h0 : 0 ≤ z) (h1 : z < 256) : σ.2.1 (σ.2.2 82 56) (I z).toNatClampNeg = σ.2.1 116 z.toNat := by rw [h.k56, I_cl h0 (by omega)]
theorem Mp.k60 {σ : Sg} (h : Mp σ) : σ.2.2 82 60 = 117 := h.2 (60, 117) (by decide)
theorem Mp.a60 {σ : Sg} (h : Mp σ) {z : Int} (h0 : 0 ≤ z) (h1 : z < 3) : Ai σ (σ.2.2 82 60) (I z) := by rw [h.k60]; exact ai_of (n := 3) (by decide) (by decide) (Nat.le_trans (by decide) h.1) h0 h1 (by decide)
theorem Mp.d60 {σ : Sg} (h : Mp σ) {z : Int} (h0 : 0 ≤ z) (h1 : z < 3) : σ.2.1 (σ.2.2 82 60) (I z).toNatClampNeg = σ.2.1 117 z.toNat := by rw [h.k60, I_cl h0 (by omega)]
theorem Mp.k61 {σ : Sg} (h : Mp σ) : σ.2.2 82 61 = 118 := h.2 (61, 118) (by decide)
theorem Mp.a61 {σ : Sg} (h : Mp σ) {z : Int} (h0 : 0 ≤ z) (h1 : z < 3) : Ai σ (σ.2.2 82 61) (I z) := by rw [h.k61]; exact ai_of (n := 3) (by decide) (by decide) (Nat.le_trans (by decide) h.1) h0 h1 (by decide)
theorem Mp.d61 {σ : Sg} (h : Mp σ) {z : Int} (h0 : 0 ≤ z) (h1 : z < 3) : σ.2.1 (σ.2.2 82 61) (I z).toNatClampNeg = σ.2.1 118 z.toNat := by rw [h.k61, I_cl h0 (by omega)]
