/-! the class: its pointers -/
def cptr : List (Nat × Nat × Nat) := [(1, 0, 2), (1, 1, 45), (1, 2, 50), (1, 3, 57), (1, 4, 60), (1, 5, 62), (1, 6, 69), (1, 7, 74), (2, 0, 3), (2, 1, 4), (45, 0, 46), (45, 1, 47), (45, 2, 48), (45, 3, 49), (50, 0, 2), (50, 1, 45), (50, 2, 51), (50, 3, 54), (57, 0, 58), (57, 1, 59), (60, 0, 61), (62, 0, 63), (62, 1, 64), (62, 2, 65), (62, 3, 66), (62, 4, 67), (62, 5, 68), (69, 0, 70), (69, 1, 71), (69, 2, 72), (69, 3, 73), (74, 0, 75), (74, 1, 76), (74, 2, 77), (74, 3, 78), (74, 4, 79), (74, 5, 80), (74, 6, 81), (3, 0, 5), (3, 1, 10), (4, 0, 15), (4, 1, 18), (4, 2, 21), (4, 3, 24), (4, 4, 27), (4, 5, 30), (4, 6, 33), (4, 7, 36), (4, 8, 39), (4, 9, 42)]
def Cp (σ : Sg) : Prop := 119 ≤ σ.1 ∧ ∀ q ∈ cptr, σ.2.2 q.1 q.2.1 = q.2.2
def fptr : List (Nat × Nat × Nat) := [(120, 0, 121), (120, 1, 122), (120, 2, 123), (120, 3, 124), (120, 4, 125), (120, 5, 126), (120, 6, 127), (120, 7, 128), (120, 8, 129), (120, 9, 130)]
def Fp (σ : Sg) : Prop := 135 ≤ σ.1 ∧ ∀ q ∈ fptr, σ.2.2 q.1 q.2.1 = q.2.2
theorem Cp.p1_0 {σ : Sg} (h : Cp σ) : σ.2.2 1 0 = 2 := h.2 (1, 0, 2) (by decide)
theorem Cp.p1_1 {σ : Sg} (h : Cp σ) : σ.2.2 1 1 = 45 := h.2 (1, 1, 45) (by decide)
theorem Cp.p1_2 {σ : Sg} (h : Cp σ) : σ.2.2 1 2 = 50 := h.2 (1, 2, 50) (by decide)
theorem Cp.p1_3 {σ : Sg} (h : Cp σ) : σ.2.2 1 3 = 57 := h.2 (1, 3, 57) (by decide)
theorem Cp.p1_4 {σ : Sg} (h : Cp σ) : σ.2.2 1 4 = 60 := h.2 (1, 4, 60) (by decide)
theorem Cp.p1_5 {σ : Sg} (h : Cp σ) : σ.2.2 1 5 = 62 := h.2 (1, 5, 62) (by decide)
theorem Cp.p1_6 {σ : Sg} (h : Cp σ) : σ.2.2 1 6 = 69 := h.2 (1, 6, 69) (by decide)
theorem Cp.p1_7 {σ : Sg} (h : Cp σ) : σ.2.2 1 7 = 74 := h.2 (1, 7, 74) (by decide)
theorem Cp.p2_0 {σ : Sg} (h : Cp σ) : σ.2.2 2 0 = 3 := h.2 (2, 0, 3) (by decide)
theorem Cp.p2_1 {σ : Sg} (h : Cp σ) : σ.2.2 2 1 = 4 := h.2 (2, 1, 4) (by decide)
theorem Cp.p45_0 {σ : Sg} (h : Cp σ) : σ.2.2 45 0 = 46 := h.2 (45, 0, 46) (by decide)
theorem Cp.a45_0 {σ : Sg} (h : Cp σ) {z : Int} (h0 : 0 ≤ z) (h1 : z < 400) : Ai σ (σ.2.2 45 0) (I z) := by rw [h.p45_0]; exact ai_of (n := 400) (by decide) (by decide) (Nat.le_trans (by decide) h.1) h0 h1 (by decide)
theorem Cp.d45_0 {σ : Sg} (h : Cp σ) {z : Int} (h0 : 0 ≤ z) (h1 : z < 400) : σ.2.1 (σ.2.2 45 0) (I z).toNatClampNeg = σ.2.1 46 z.toNat := by rw [h.p45_0, I_cl h0 (by omega)]
theorem Cp.p45_1 {σ : Sg} (h : Cp σ) : σ.2.2 45 1 = 47 := h.2 (45, 1, 47) (by decide)
theorem Cp.a45_1 {σ : Sg} (h : Cp σ) {z : Int} (h0 : 0 ≤ z) (h1 : z < 401) : Ai σ (σ.2.2 45 1) (I z) := by rw [h.p45_1]; exact ai_of (n := 401) (by decide) (by decide) (Nat.le_trans (by decide) h.1) h0 h1 (by decide)
theorem Cp.d45_1 {σ : Sg} (h : Cp σ) {z : Int} (h0 : 0 ≤ z) (h1 : z < 401) : σ.2.1 (σ.2.2 45 1) (I z).toNatClampNeg = σ.2.1 47 z.toNat := by rw [h.p45_1, I_cl h0 (by omega)]
theorem Cp.p45_2 {σ : Sg} (h : Cp σ) : σ.2.2 45 2 = 48 := h.2 (45, 2, 48) (by decide)
theorem Cp.a45_2 {σ : Sg} (h : Cp σ) {z : Int} (h0 : 0 ≤ z) (h1 : z < 401) : Ai σ (σ.2.2 45 2) (I z) := by rw [h.p45_2]; exact ai_of (n := 401) (by decide) (by decide) (Nat.le_trans (by decide) h.1) h0 h1 (by decide)
theorem Cp.d45_2 {σ : Sg} (h : Cp σ) {z : Int} (h0 : 0 ≤ z) (h1 : z < 401) : σ.2.1 (σ.2.2 45 2) (I z).toNatClampNeg = σ.2.1 48 z.toNat := by rw [h.p45_2, I_cl h0 (by omega)]
theorem Cp.p45_3 {σ : Sg} (h : Cp σ) : σ.2.2 45 3 = 49 := h.2 (45, 3, 49) (by decide)
theorem Cp.a45_3 {σ : Sg} (h : Cp σ) {z : Int} (h0 : 0 ≤ z) (h1 : z < 401) : Ai σ (σ.2.2 45 3) (I z) := by rw [h.p45_3]; exact ai_of (n := 401) (by decide) (by decide) (Nat.le_trans (by decide) h.1) h0 h1 (by decide)
theorem Cp.d45_3 {σ : Sg} (h : Cp σ) {z : Int} (h0 : 0 ≤ z) (h1 : z < 401) : σ.2.1 (σ.2.2 45 3) (I z).toNatClampNeg = σ.2.1 49 z.toNat := by rw [h.p45_3, I_cl h0 (by omega)]
theorem Cp.p50_0 {σ : Sg} (h : Cp σ) : σ.2.2 50 0 = 2 := h.2 (50, 0, 2) (by decide)
theorem Cp.p50_1 {σ : Sg} (h : Cp σ) : σ.2.2 50 1 = 45 := h.2 (50, 1, 45) (by decide)
theorem Cp.p50_2 {σ : Sg} (h : Cp σ) : σ.2.2 50 2 = 51 := h.2 (50, 2, 51) (by decide)
theorem Cp.p50_3 {σ : Sg} (h : Cp σ) : σ.2.2 50 3 = 54 := h.2 (50, 3, 54) (by decide)
theorem Cp.p57_0 {σ : Sg} (h : Cp σ) : σ.2.2 57 0 = 58 := h.2 (57, 0, 58) (by decide)
theorem Cp.a57_0 {σ : Sg} (h : Cp σ) {z : Int} (h0 : 0 ≤ z) (h1 : z < 256) : Ai σ (σ.2.2 57 0) (I z) := by rw [h.p57_0]; exact ai_of (n := 256) (by decide) (by decide) (Nat.le_trans (by decide) h.1) h0 h1 (by decide)
theorem Cp.d57_0 {σ : Sg} (h : Cp σ) {z : Int} (h0 : 0 ≤ z) (h1 : z < 256) : σ.2.1 (σ.2.2 57 0) (I z).toNatClampNeg = σ.2.1 58 z.toNat := by rw [h.p57_0, I_cl h0 (by omega)]
theorem Cp.p57_1 {σ : Sg} (h : Cp σ) : σ.2.2 57 1 = 59 := h.2 (57, 1, 59) (by decide)
theorem Cp.a57_1 {σ : Sg} (h : Cp σ) {z : Int} (h0 : 0 ≤ z) (h1 : z < 256) : Ai σ (σ.2.2 57 1) (I z) := by rw [h.p57_1]; exact ai_of (n := 256) (by decide) (by decide) (Nat.le_trans (by decide) h.1) h0 h1 (by decide)
theorem Cp.d57_1 {σ : Sg} (h : Cp σ) {z : Int} (h0 : 0 ≤ z) (h1 : z < 256) : σ.2.1 (σ.2.2 57 1) (I z).toNatClampNeg = σ.2.1 59 z.toNat := by rw [h.p57_1, I_cl h0 (by omega)]
theorem Cp.p60_0 {σ : Sg} (h : Cp σ) : σ.2.2 60 0 = 61 := h.2 (60, 0, 61) (by decide)
theorem Cp.a60_0 {σ : Sg} (h : Cp σ) {z : Int} (h0 : 0 ≤ z) (h1 : z < 40) : Ai σ (σ.2.2 60 0) (I z) := by rw [h.p60_0]; exact ai_of (n := 40) (by decide) (by decide) (Nat.le_trans (by decide) h.1) h0 h1 (by decide)
theorem Cp.d60_0 {σ : Sg} (h : Cp σ) {z : Int} (h0 : 0 ≤ z) (h1 : z < 40) : σ.2.1 (σ.2.2 60 0) (I z).toNatClampNeg = σ.2.1 61 z.toNat := by rw [h.p60_0, I_cl h0 (by omega)]
theorem Cp.p62_0 {σ : Sg} (h : Cp σ) : σ.2.2 62 0 = 63 := h.2 (62, 0, 63) (by decide)
theorem Cp.a62_0 {σ : Sg} (h : Cp σ) {z : Int} (h0 : 0 ≤ z) (h1 : z < 640) : Ai σ (σ.2.2 62 0) (I z) := by rw [h.p62_0]; exact ai_of (n := 640) (by decide) (by decide) (Nat.le_trans (by decide) h.1) h0 h1 (by decide)
theorem Cp.d62_0 {σ : Sg} (h : Cp σ) {z : Int} (h0 : 0 ≤ z) (h1 : z < 640) : σ.2.1 (σ.2.2 62 0) (I z).toNatClampNeg = σ.2.1 63 z.toNat := by rw [h.p62_0, I_cl h0 (by omega)]
theorem Cp.p62_1 {σ : Sg} (h : Cp σ) : σ.2.2 62 1 = 64 := h.2 (62, 1, 64) (by decide)
theorem Cp.a62_1 {σ : Sg} (h : Cp σ) {z : Int} (h0 : 0 ≤ z) (h1 : z < 40) : Ai σ (σ.2.2 62 1) (I z) := by rw [h.p62_1]; exact ai_of (n := 40) (by decide) (by decide) (Nat.le_trans (by decide) h.1) h0 h1 (by decide)
theorem Cp.d62_1 {σ : Sg} (h : Cp σ) {z : Int} (h0 : 0 ≤ z) (h1 : z < 40) : σ.2.1 (σ.2.2 62 1) (I z).toNatClampNeg = σ.2.1 64 z.toNat := by rw [h.p62_1, I_cl h0 (by omega)]
theorem Cp.p62_2 {σ : Sg} (h : Cp σ) : σ.2.2 62 2 = 65 := h.2 (62, 2, 65) (by decide)
theorem Cp.a62_2 {σ : Sg} (h : Cp σ) {z : Int} (h0 : 0 ≤ z) (h1 : z < 40) : Ai σ (σ.2.2 62 2) (I z) := by rw [h.p62_2]; exact ai_of (n := 40) (by decide) (by decide) (Nat.le_trans (by decide) h.1) h0 h1 (by decide)
theorem Cp.d62_2 {σ : Sg} (h : Cp σ) {z : Int} (h0 : 0 ≤ z) (h1 : z < 40) : σ.2.1 (σ.2.2 62 2) (I z).toNatClampNeg = σ.2.1 65 z.toNat := by rw [h.p62_2, I_cl h0 (by omega)]
theorem Cp.p62_3 {σ : Sg} (h : Cp σ) : σ.2.2 62 3 = 66 := h.2 (62, 3, 66) (by decide)
theorem Cp.a62_3 {σ : Sg} (h : Cp σ) {z : Int} (h0 : 0 ≤ z) (h1 : z < 256) : Ai σ (σ.2.2 62 3) (I z) := by rw [h.p62_3]; exact ai_of (n := 256) (by decide) (by decide) (Nat.le_trans (by decide) h.1) h0 h1 (by decide)
theorem Cp.d62_3 {σ : Sg} (h : Cp σ) {z : Int} (h0 : 0 ≤ z) (h1 : z < 256) : σ.2.1 (σ.2.2 62 3) (I z).toNatClampNeg = σ.2.1 66 z.toNat := by rw [h.p62_3, I_cl h0 (by omega)]
theorem Cp.p62_4 {σ : Sg} (h : Cp σ) : σ.2.2 62 4 = 67 := h.2 (62, 4, 67) (by decide)
theorem Cp.a62_4 {σ : Sg} (h : Cp σ) {z : Int} (h0 : 0 ≤ z) (h1 : z < 3) : Ai σ (σ.2.2 62 4) (I z) := by rw [h.p62_4]; exact ai_of (n := 3) (by decide) (by decide) (Nat.le_trans (by decide) h.1) h0 h1 (by decide)
theorem Cp.d62_4 {σ : Sg} (h : Cp σ) {z : Int} (h0 : 0 ≤ z) (h1 : z < 3) : σ.2.1 (σ.2.2 62 4) (I z).toNatClampNeg = σ.2.1 67 z.toNat := by rw [h.p62_4, I_cl h0 (by omega)]
theorem Cp.p62_5 {σ : Sg} (h : Cp σ) : σ.2.2 62 5 = 68 := h.2 (62, 5, 68) (by decide)
theorem Cp.a62_5 {σ : Sg} (h : Cp σ) {z : Int} (h0 : 0 ≤ z) (h1 : z < 3) : Ai σ (σ.2.2 62 5) (I z) := by rw [h.p62_5]; exact ai_of (n := 3) (by decide) (by decide) (Nat.le_trans (by decide) h.1) h0 h1 (by decide)
theorem Cp.d62_5 {σ : Sg} (h : Cp σ) {z : Int} (h0 : 0 ≤ z) (h1 : z < 3) : σ.2.1 (σ.2.2 62 5) (I z).toNatClampNeg = σ.2.1 68 z.toNat := by rw [h.p62_5, I_cl h0 (by omega)]
theorem Cp.p69_0 {σ : Sg} (h : Cp σ) : σ.2.2 69 0 = 70 := h.2 (69, 0, 70) (by decide)
theorem Cp.a69_0 {σ : Sg} (h : Cp σ) {z : Int} (h0 : 0 ≤ z) (h1 : z < 240) : Ai σ (σ.2.2 69 0) (I z) := by rw [h.p69_0]; exact ai_of (n := 240) (by decide) (by decide) (Nat.le_trans (by decide) h.1) h0 h1 (by decide)
theorem Cp.d69_0 {σ : Sg} (h : Cp σ) {z : Int} (h0 : 0 ≤ z) (h1 : z < 240) : σ.2.1 (σ.2.2 69 0) (I z).toNatClampNeg = σ.2.1 70 z.toNat := by rw [h.p69_0, I_cl h0 (by omega)]
theorem Cp.p69_1 {σ : Sg} (h : Cp σ) : σ.2.2 69 1 = 71 := h.2 (69, 1, 71) (by decide)
theorem Cp.a69_1 {σ : Sg} (h : Cp σ) {z : Int} (h0 : 0 ≤ z) (h1 : z < 240) : Ai σ (σ.2.2 69 1) (I z) := by rw [h.p69_1]; exact ai_of (n := 240) (by decide) (by decide) (Nat.le_trans (by decide) h.1) h0 h1 (by decide)
theorem Cp.d69_1 {σ : Sg} (h : Cp σ) {z : Int} (h0 : 0 ≤ z) (h1 : z < 240) : σ.2.1 (σ.2.2 69 1) (I z).toNatClampNeg = σ.2.1 71 z.toNat := by rw [h.p69_1, I_cl h0 (by omega)]
theorem Cp.p69_2 {σ : Sg} (h : Cp σ) : σ.2.2 69 2 = 72 := h.2 (69, 2, 72) (by decide)
theorem Cp.a69_2 {σ : Sg} (h : Cp σ) {z : Int} (h0 : 0 ≤ z) (h1 : z < 1600) : Ai σ (σ.2.2 69 2) (I z) := by rw [h.p69_2]; exact ai_of (n := 1600) (by decide) (by decide) (Nat.le_trans (by decide) h.1) h0 h1 (by decide)
theorem Cp.d69_2 {σ : Sg} (h : Cp σ) {z : Int} (h0 : 0 ≤ z) (h1 : z < 1600) : σ.2.1 (σ.2.2 69 2) (I z).toNatClampNeg = σ.2.1 72 z.toNat := by rw [h.p69_2, I_cl h0 (by omega)]
theorem Cp.p69_3 {σ : Sg} (h : Cp σ) : σ.2.2 69 3 = 73 := h.2 (69, 3, 73) (by decide)
theorem Cp.a69_3 {σ : Sg} (h : Cp σ) {z : Int} (h0 : 0 ≤ z) (h1 : z < 80) : Ai σ (σ.2.2 69 3) (I z) := by rw [h.p69_3]; exact ai_of (n := 80) (by decide) (by decide) (Nat.le_trans (by decide) h.1) h0 h1 (by decide)
theorem Cp.d69_3 {σ : Sg} (h : Cp σ) {z : Int} (h0 : 0 ≤ z) (h1 : z < 80) : σ.2.1 (σ.2.2 69 3) (I z).toNatClampNeg = σ.2.1 73 z.toNat := by rw [h.p69_3, I_cl h0 (by omega)]
theorem Cp.p74_0 {σ : Sg} (h : Cp σ) : σ.2.2 74 0 = 75 := h.2 (74, 0, 75) (by decide)
theorem Cp.a74_0 {σ : Sg} (h : Cp σ) {z : Int} (h0 : 0 ≤ z) (h1 : z < 10) : Ai σ (σ.2.2 74 0) (I z) := by rw [h.p74_0]; exact ai_of (n := 10) (by decide) (by decide) (Nat.le_trans (by decide) h.1) h0 h1 (by decide)
theorem Cp.d74_0 {σ : Sg} (h : Cp σ) {z : Int} (h0 : 0 ≤ z) (h1 : z < 10) : σ.2.1 (σ.2.2 74 0) (I z).toNatClampNeg = σ.2.1 75 z.toNat := by rw [h.p74_0, I_cl h0 (by omega)]
theorem Cp.p74_1 {σ : Sg} (h : Cp σ) : σ.2.2 74 1 = 76 := h.2 (74, 1, 76) (by decide)
theorem Cp.a74_1 {σ : Sg} (h : Cp σ) {z : Int} (h0 : 0 ≤ z) (h1 : z < 10) : Ai σ (σ.2.2 74 1) (I z) := by rw [h.p74_1]; exact ai_of (n := 10) (by decide) (by decide) (Nat.le_trans (by decide) h.1) h0 h1 (by decide)
theorem Cp.d74_1 {σ : Sg} (h : Cp σ) {z : Int} (h0 : 0 ≤ z) (h1 : z < 10) : σ.2.1 (σ.2.2 74 1) (I z).toNatClampNeg = σ.2.1 76 z.toNat := by rw [h.p74_1, I_cl h0 (by omega)]
theorem Cp.p74_2 {σ : Sg} (h : Cp σ) : σ.2.2 74 2 = 77 := h.2 (74, 2, 77) (by decide)
theorem Cp.a74_2 {σ : Sg} (h : Cp σ) {z : Int} (h0 : 0 ≤ z) (h1 : z < 5) : Ai σ (σ.2.2 74 2) (I z) := by rw [h.p74_2]; exact ai_of (n := 5) (by decide) (by decide) (Nat.le_trans (by decide) h.1) h0 h1 (by decide)
theorem Cp.d74_2 {σ : Sg} (h : Cp σ) {z : Int} (h0 : 0 ≤ z) (h1 : z < 5) : σ.2.1 (σ.2.2 74 2) (I z).toNatClampNeg = σ.2.1 77 z.toNat := by rw [h.p74_2, I_cl h0 (by omega)]
theorem Cp.p74_3 {σ : Sg} (h : Cp σ) : σ.2.2 74 3 = 78 := h.2 (74, 3, 78) (by decide)
theorem Cp.a74_3 {σ : Sg} (h : Cp σ) {z : Int} (h0 : 0 ≤ z) (h1 : z < 5) : Ai σ (σ.2.2 74 3) (I z) := by rw [h.p74_3]; exact ai_of (n := 5) (by decide) (by decide) (Nat.le_trans (by decide) h.1) h0 h1 (by decide)
theorem Cp.d74_3 {σ : Sg} (h : Cp σ) {z : Int} (h0 : 0 ≤ z) (h1 : z < 5) : σ.2.1 (σ.2.2 74 3) (I z).toNatClampNeg = σ.2.1 78 z.toNat := by rw [h.p74_3, I_cl h0 (by omega)]
theorem Cp.p74_4 {σ : Sg} (h : Cp σ) : σ.2.2 74 4 = 79 := h.2 (74, 4, 79) (by decide)
theorem Cp.a74_4 {σ : Sg} (h : Cp σ) {z : Int} (h0 : 0 ≤ z) (h1 : z < 10) : Az σ (σ.2.2 74 4) (I z) := by rw [h.p74_4]; exact az_of (n := 10) (by decide) (by decide) (Nat.le_trans (by decide) h.1) h0 h1 (by decide)
theorem Cp.d74_4 {σ : Sg} (h : Cp σ) {z : Int} (h0 : 0 ≤ z) (h1 : z < 10) : σ.2.1 (σ.2.2 74 4) (I z).toNatClampNeg = σ.2.1 79 z.toNat := by rw [h.p74_4, I_cl h0 (by omega)]
theorem Cp.p74_5 {σ : Sg} (h : Cp σ) : σ.2.2 74 5 = 80 := h.2 (74, 5, 80) (by decide)
theorem Cp.a74_5 {σ : Sg} (h : Cp σ) {z : Int} (h0 : 0 ≤ z) (h1 : z < 64) : Ai σ (σ.2.2 74 5) (I z) := by rw [h.p74_5]; exact ai_of (n := 64) (by decide) (by decide) (Nat.le_trans (by decide) h.1) h0 h1 (by decide)
theorem Cp.d74_5 {σ : Sg} (h : Cp σ) {z : Int} (h0 : 0 ≤ z) (h1 : z < 64) : σ.2.1 (σ.2.2 74 5) (I z).toNatClampNeg = σ.2.1 80 z.toNat := by rw [h.p74_5, I_cl h0 (by omega)]
theorem Cp.p74_6 {σ : Sg} (h : Cp σ) : σ.2.2 74 6 = 81 := h.2 (74, 6, 81) (by decide)
theorem Cp.a74_6 {σ : Sg} (h : Cp σ) {z : Int} (h0 : 0 ≤ z) (h1 : z < 160) : Ai σ (σ.2.2 74 6) (I z) := by rw [h.p74_6]; exact ai_of (n := 160) (by decide) (by decide) (Nat.le_trans (by decide) h.1) h0 h1 (by decide)
theorem Cp.d74_6 {σ : Sg} (h : Cp σ) {z : Int} (h0 : 0 ≤ z) (h1 : z < 160) : σ.2.1 (σ.2.2 74 6) (I z).toNatClampNeg = σ.2.1 81 z.toNat := by rw [h.p74_6, I_cl h0 (by omega)]
theorem Cp.p3_0 {σ : Sg} (h : Cp σ) : σ.2.2 3 0 = 5 := h.2 (3, 0, 5) (by decide)
theorem Cp.p3_1 {σ : Sg} (h : Cp σ) : σ.2.2 3 1 = 10 := h.2 (3, 1, 10) (by decide)
theorem Cp.p4_0 {σ : Sg} (h : Cp σ) : σ.2.2 4 0 = 15 := h.2 (4, 0, 15) (by decide)
theorem Cp.p4_1 {σ : Sg} (h : Cp σ) : σ.2.2 4 1 = 18 := h.2 (4, 1, 18) (by decide)
theorem Cp.p4_2 {σ : Sg} (h : Cp σ) : σ.2.2 4 2 = 21 := h.2 (4, 2, 21) (by decide)
theorem Cp.p4_3 {σ : Sg} (h : Cp σ) : σ.2.2 4 3 = 24 := h.2 (4, 3, 24) (by decide)
theorem Cp.p4_4 {σ : Sg} (h : Cp σ) : σ.2.2 4 4 = 27 := h.2 (4, 4, 27) (by decide)
theorem Cp.p4_5 {σ : Sg} (h : Cp σ) : σ.2.2 4 5 = 30 := h.2 (4, 5, 30) (by decide)
theorem Cp.p4_6 {σ : Sg} (h : Cp σ) : σ.2.2 4 6 = 33 := h.2 (4, 6, 33) (by decide)
theorem Cp.p4_7 {σ : Sg} (h : Cp σ) : σ.2.2 4 7 = 36 := h.2 (4, 7, 36) (by decide)
theorem Cp.p4_8 {σ : Sg} (h : Cp σ) : σ.2.2 4 8 = 39 := h.2 (4, 8, 39) (by decide)
theorem Cp.p4_9 {σ : Sg} (h : Cp σ) : σ.2.2 4 9 = 42 := h.2 (4, 9, 42) (by decide)
theorem Fp.p120_0 {σ : Sg} (h : Fp σ) : σ.2.2 120 0 = 121 := h.2 (120, 0, 121) (by decide)
theorem Fp.a120_0 {σ : Sg} (h : Fp σ) {z : Int} (h0 : 0 ≤ z) (h1 : z < 163840) : Ai σ (σ.2.2 120 0) (I z) := by rw [h.p120_0]; exact ai_of (n := 163840) (by decide) (by decide) (Nat.le_trans (by decide) h.1) h0 h1 (by decide)
theorem Fp.d120_0 {σ : Sg} (h : Fp σ) {z : Int} (h0 : 0 ≤ z) (h1 : z < 163840) : σ.2.1 (σ.2.2 120 0) (I z).toNatClampNeg = σ.2.1 121 z.toNat := by rw [h.p120_0, I_cl h0 (by omega)]
theorem Fp.p120_1 {σ : Sg} (h : Fp σ) : σ.2.2 120 1 = 122 := h.2 (120, 1, 122) (by decide)
theorem Fp.a120_1 {σ : Sg} (h : Fp σ) {z : Int} (h0 : 0 ≤ z) (h1 : z < 4096) : Ai σ (σ.2.2 120 1) (I z) := by rw [h.p120_1]; exact ai_of (n := 4096) (by decide) (by decide) (Nat.le_trans (by decide) h.1) h0 h1 (by decide)
theorem Fp.d120_1 {σ : Sg} (h : Fp σ) {z : Int} (h0 : 0 ≤ z) (h1 : z < 4096) : σ.2.1 (σ.2.2 120 1) (I z).toNatClampNeg = σ.2.1 122 z.toNat := by rw [h.p120_1, I_cl h0 (by omega)]
theorem Fp.p120_2 {σ : Sg} (h : Fp σ) : σ.2.2 120 2 = 123 := h.2 (120, 2, 123) (by decide)
theorem Fp.a120_2 {σ : Sg} (h : Fp σ) {z : Int} (h0 : 0 ≤ z) (h1 : z < 4096) : Ai σ (σ.2.2 120 2) (I z) := by rw [h.p120_2]; exact ai_of (n := 4096) (by decide) (by decide) (Nat.le_trans (by decide) h.1) h0 h1 (by decide)
theorem Fp.d120_2 {σ : Sg} (h : Fp σ) {z : Int} (h0 : 0 ≤ z) (h1 : z < 4096) : σ.2.1 (σ.2.2 120 2) (I z).toNatClampNeg = σ.2.1 123 z.toNat := by rw [h.p120_2, I_cl h0 (by omega)]
theorem Fp.p120_3 {σ : Sg} (h : Fp σ) : σ.2.2 120 3 = 124 := h.2 (120, 3, 124) (by decide)
theorem Fp.a120_3 {σ : Sg} (h : Fp σ) {z : Int} (h0 : 0 ≤ z) (h1 : z < 4096) : Ai σ (σ.2.2 120 3) (I z) := by rw [h.p120_3]; exact ai_of (n := 4096) (by decide) (by decide) (Nat.le_trans (by decide) h.1) h0 h1 (by decide)
theorem Fp.d120_3 {σ : Sg} (h : Fp σ) {z : Int} (h0 : 0 ≤ z) (h1 : z < 4096) : σ.2.1 (σ.2.2 120 3) (I z).toNatClampNeg = σ.2.1 124 z.toNat := by rw [h.p120_3, I_cl h0 (by omega)]
theorem Fp.p120_4 {σ : Sg} (h : Fp σ) : σ.2.2 120 4 = 125 := h.2 (120, 4, 125) (by decide)
theorem Fp.a120_4 {σ : Sg} (h : Fp σ) {z : Int} (h0 : 0 ≤ z) (h1 : z < 4096) : Ai σ (σ.2.2 120 4) (I z) := by rw [h.p120_4]; exact ai_of (n := 4096) (by decide) (by decide) (Nat.le_trans (by decide) h.1) h0 h1 (by decide)
theorem Fp.d120_4 {σ : Sg} (h : Fp σ) {z : Int} (h0 : 0 ≤ z) (h1 : z < 4096) : σ.2.1 (σ.2.2 120 4) (I z).toNatClampNeg = σ.2.1 125 z.toNat := by rw [h.p120_4, I_cl h0 (by omega)]
theorem Fp.p120_5 {σ : Sg} (h : Fp σ) : σ.2.2 120 5 = 126 := h.2 (120, 5, 126) (by decide)
theorem Fp.a120_5 {σ : Sg} (h : Fp σ) {z : Int} (h0 : 0 ≤ z) (h1 : z < 4096) : Ai σ (σ.2.2 120 5) (I z) := by rw [h.p120_5]; exact ai_of (n := 4096) (by decide) (by decide) (Nat.le_trans (by decide) h.1) h0 h1 (by decide)
theorem Fp.d120_5 {σ : Sg} (h : Fp σ) {z : Int} (h0 : 0 ≤ z) (h1 : z < 4096) : σ.2.1 (σ.2.2 120 5) (I z).toNatClampNeg = σ.2.1 126 z.toNat := by rw [h.p120_5, I_cl h0 (by omega)]
theorem Fp.p120_6 {σ : Sg} (h : Fp σ) : σ.2.2 120 6 = 127 := h.2 (120, 6, 127) (by decide)
theorem Fp.a120_6 {σ : Sg} (h : Fp σ) {z : Int} (h0 : 0 ≤ z) (h1 : z < 4096) : Ai σ (σ.2.2 120 6) (I z) := by rw [h.p120_6]; exact ai_of (n := 4096) (by decide) (by decide) (Nat.le_trans (by decide) h.1) h0 h1 (by decide)
theorem Fp.d120_6 {σ : Sg} (h : Fp σ) {z : Int} (h0 : 0 ≤ z) (h1 : z < 4096) : σ.2.1 (σ.2.2 120 6) (I z).toNatClampNeg = σ.2.1 127 z.toNat := by rw [h.p120_6, I_cl h0 (by omega)]
theorem Fp.p120_7 {σ : Sg} (h : Fp σ) : σ.2.2 120 7 = 128 := h.2 (120, 7, 128) (by decide)
theorem Fp.a120_7 {σ : Sg} (h : Fp σ) {z : Int} (h0 : 0 ≤ z) (h1 : z < 40) : Ai σ (σ.2.2 120 7) (I z) := by rw [h.p120_7]; exact ai_of (n := 40) (by decide) (by decide) (Nat.le_trans (by decide) h.1) h0 h1 (by decide)
theorem Fp.d120_7 {σ : Sg} (h : Fp σ) {z : Int} (h0 : 0 ≤ z) (h1 : z < 40) : σ.2.1 (σ.2.2 120 7) (I z).toNatClampNeg = σ.2.1 128 z.toNat := by rw [h.p120_7, I_cl h0 (by omega)]
theorem Fp.p120_8 {σ : Sg} (h : Fp σ) : σ.2.2 120 8 = 129 := h.2 (120, 8, 129) (by decide)
theorem Fp.a120_8 {σ : Sg} (h : Fp σ) {z : Int} (h0 : 0 ≤ z) (h1 : z < 40) : Ai σ (σ.2.2 120 8) (I z) := by rw [h.p120_8]; exact ai_of (n := 40) (by decide) (by decide) (Nat.le_trans (by decide) h.1) h0 h1 (by decide)
theorem Fp.d120_8 {σ : Sg} (h : Fp σ) {z : Int} (h0 : 0 ≤ z) (h1 : z < 40) : σ.2.1 (σ.2.2 120 8) (I z).toNatClampNeg = σ.2.1 129 z.toNat := by rw [h.p120_8, I_cl h0 (by omega)]
theorem Fp.p120_9 {σ : Sg} (h : Fp σ) : σ.2.2 120 9 = 130 := h.2 (120, 9, 130) (by decide)
theorem Fp.a120_9 {σ : Sg} (h : Fp σ) {z : Int} (h0 : 0 ≤ z) (h1 : z < 40) : Ai σ (σ.2.2 120 9) (I z) := by rw [h.p120_9]; exact ai_of (n := 40) (by decide) (by decide) (Nat.le_trans (by decide) h.1) h0 h1 (by decide)
theorem Fp.d120_9 {σ : Sg} (h : Fp σ) {z : Int} (h0 : 0 ≤ z) (h1 : z < 40) : σ.2.1 (σ.2.2 120 9) (I z).toNatClampNeg = σ.2.1 130 z.toNat := by rw [h.p120_9, I_cl h0 (by omega)]
theorem Cp.o1 {σ : Sg} (h : Cp σ) : Ob σ 1 11 := ⟨by decide, by decide, Nat.le_trans (by decide) h.1⟩
theorem Cp.o2 {σ : Sg} (h : Cp σ) : Ob σ 2 7 := ⟨by decide, by decide, Nat.le_trans (by decide) h.1⟩
theorem Cp.o45 {σ : Sg} (h : Cp σ) : Ob σ 45 10 := ⟨by decide, by decide, Nat.le_trans (by decide) h.1⟩
theorem Cp.o50 {σ : Sg} (h : Cp σ) : Ob σ 50 4 := ⟨by decide, by decide, Nat.le_trans (by decide) h.1⟩
theorem Cp.o57 {σ : Sg} (h : Cp σ) : Ob σ 57 2 := ⟨by decide, by decide, Nat.le_trans (by decide) h.1⟩
theorem Cp.o60 {σ : Sg} (h : Cp σ) : Ob σ 60 8 := ⟨by decide, by decide, Nat.le_trans (by decide) h.1⟩
theorem Cp.o62 {σ : Sg} (h : Cp σ) : Ob σ 62 1 := ⟨by decide, by decide, Nat.le_trans (by decide) h.1⟩
theorem Cp.o69 {σ : Sg} (h : Cp σ) : Ob σ 69 5 := ⟨by decide, by decide, Nat.le_trans (by decide) h.1⟩
theorem Cp.o74 {σ : Sg} (h : Cp σ) : Ob σ 74 6 := ⟨by decide, by decide, Nat.le_trans (by decide) h.1⟩
theorem Fp.o120 {σ : Sg} (h : Fp σ) : Ob σ 120 3 := ⟨by decide, by decide, Nat.le_trans (by decide) h.1⟩
