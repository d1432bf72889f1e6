/-! the Follower: made at the first call that follows -/
theorem nw_e {σ : Sg} {r : Nat} (h : r ≠ σ.1 + 1) : Eqc σ (nw σ) r := ⟨by funext k; show (if r = σ.1 + 1 then 0 else _) = _; rw [if_neg h], by funext k; show (if r = σ.1 + 1 then 0 else _) = _; rw [if_neg h]⟩
section RDY
variable {l : Launch} {σ : Sg} {v : Vt} {c : Nat}
theorem q_ready {K : Nat → Sg → Prop} (h : CR σ v) (hz : σ.2.2 1 8 = 120) (hK : K 120 σ) : Con l mX11_readyFollower [.inr 1] σ (PR K) := by
  refine eX11_readyFollower ⟨h.1.o1, ?_⟩
  rw [hz]
  exact ⟨fun _ => hK, fun z => absurd z (by omega)⟩
theorem q_readyN {K : Nat → Sg → Prop} (h : CR σ v) (hw : WF c v) (hz : σ.2.2 1 8 = 0) (hK : ∀ σ', CR σ' v → CF σ σ' → σ'.2.2 1 8 = 120 → (∀ r, r < 120 → σ'.2.1 r = σ.2.1 r) → K 120 σ') : Con l mX11_readyFollowerN [.inr 1] σ (PR K) := by
  have n0 : σ.1 = 119 := by
    rcases h.2.1 with q | q
    · exact q.2
    · have := q.1; omega
  refine eX11_readyFollowerN ⟨h.1.o1, fun z => absurd hz z, fun _ => ⟨by rw [n0]; decide, by omega, fun x1 s1 ex1 f1 => ?_⟩⟩
  have n1 : s1.1 = 120 := by rw [f1]; show σ.1 + 1 = 120; omega
  have y1 : x1 = 120 := by omega
  subst y1
  refine ⟨by omega, eX3_init ⟨by omega, by rw [n1]; decide, by omega, fun x2 s2 ex2 f2 => ?_⟩⟩
  have n2 : s2.1 = 121 := by rw [f2]; show s1.1 + 1 = 121; omega
  have y2 : x2 = 121 := by omega
  subst y2
  refine ⟨⟨by omega, by decide, by omega⟩, by omega, fun s3 f3 => ?_⟩
  have n3 : s3.1 = 121 := by rw [f3]; exact n2
  refine ⟨by rw [n3]; decide, by omega, fun x4 s4 ex4 f4 => ?_⟩
  have n4 : s4.1 = 122 := by rw [f4]; show s3.1 + 1 = 122; omega
  have y4 : x4 = 122 := by omega
  subst y4
  refine ⟨by omega, fun s5 f5 => ?_⟩
  have n5 : s5.1 = 122 := by rw [f5]; exact n4
  refine ⟨by rw [n5]; decide, by omega, fun x6 s6 ex6 f6 => ?_⟩
  have n6 : s6.1 = 123 := by rw [f6]; show s5.1 + 1 = 123; omega
  have y6 : x6 = 123 := by omega
  subst y6
  refine ⟨by omega, fun s7 f7 => ?_⟩
  have n7 : s7.1 = 123 := by rw [f7]; exact n6
  refine ⟨by rw [n7]; decide, by omega, fun x8 s8 ex8 f8 => ?_⟩
  have n8 : s8.1 = 124 := by rw [f8]; show s7.1 + 1 = 124; omega
  have y8 : x8 = 124 := by omega
  subst y8
  refine ⟨by omega, fun s9 f9 => ?_⟩
  have n9 : s9.1 = 124 := by rw [f9]; exact n8
  refine ⟨by rw [n9]; decide, by omega, fun x10 s10 ex10 f10 => ?_⟩
  have n10 : s10.1 = 125 := by rw [f10]; show s9.1 + 1 = 125; omega
  have y10 : x10 = 125 := by omega
  subst y10
  refine ⟨by omega, fun s11 f11 => ?_⟩
  have n11 : s11.1 = 125 := by rw [f11]; exact n10
  refine ⟨by rw [n11]; decide, by omega, fun x12 s12 ex12 f12 => ?_⟩
  have n12 : s12.1 = 126 := by rw [f12]; show s11.1 + 1 = 126; omega
  have y12 : x12 = 126 := by omega
  subst y12
  refine ⟨by omega, fun s13 f13 => ?_⟩
  have n13 : s13.1 = 126 := by rw [f13]; exact n12
  refine ⟨by rw [n13]; decide, by omega, fun x14 s14 ex14 f14 => ?_⟩
  have n14 : s14.1 = 127 := by rw [f14]; show s13.1 + 1 = 127; omega
  have y14 : x14 = 127 := by omega
  subst y14
  refine ⟨by omega, fun s15 f15 => ?_⟩
  have n15 : s15.1 = 127 := by rw [f15]; exact n14
  refine ⟨by rw [n15]; decide, by omega, fun x16 s16 ex16 f16 => ?_⟩
  have n16 : s16.1 = 128 := by rw [f16]; show s15.1 + 1 = 128; omega
  have y16 : x16 = 128 := by omega
  subst y16
  refine ⟨by omega, fun s17 f17 => ?_⟩
  have n17 : s17.1 = 128 := by rw [f17]; exact n16
  refine ⟨by rw [n17]; decide, by omega, fun x18 s18 ex18 f18 => ?_⟩
  have n18 : s18.1 = 129 := by rw [f18]; show s17.1 + 1 = 129; omega
  have y18 : x18 = 129 := by omega
  subst y18
  refine ⟨by omega, fun s19 f19 => ?_⟩
  have n19 : s19.1 = 129 := by rw [f19]; exact n18
  refine ⟨by rw [n19]; decide, by omega, fun x20 s20 ex20 f20 => ?_⟩
  have n20 : s20.1 = 130 := by rw [f20]; show s19.1 + 1 = 130; omega
  have y20 : x20 = 130 := by omega
  subst y20
  refine ⟨by omega, fun s21 f21 => ?_⟩
  have n21 : s21.1 = 130 := by rw [f21]; exact n20
  refine ⟨by rw [n21]; decide, by omega, fun x22 s22 ex22 f22 => ?_⟩
  have n22 : s22.1 = 131 := by rw [f22]; show s21.1 + 1 = 131; omega
  have y22 : x22 = 131 := by omega
  subst y22
  refine ⟨by omega, eX0_init ⟨by omega, by rw [n22]; decide, by omega, fun x23 s23 ex23 f23 => ?_⟩⟩
  have n23 : s23.1 = 132 := by rw [f23]; show s22.1 + 1 = 132; omega
  have y23 : x23 = 132 := by omega
  subst y23
  refine ⟨⟨by omega, by decide, by omega⟩, by omega, fun s24 f24 => ?_⟩
  have n24 : s24.1 = 132 := by rw [f24]; exact n23
  refine ⟨by rw [n24]; decide, by omega, fun x25 s25 ex25 f25 => ?_⟩
  have n25 : s25.1 = 133 := by rw [f25]; show s24.1 + 1 = 133; omega
  have y25 : x25 = 133 := by omega
  subst y25
  refine ⟨by omega, fun s26 f26 => ?_⟩
  have n26 : s26.1 = 133 := by rw [f26]; exact n25
  refine ⟨by rw [n26]; decide, by omega, fun x27 s27 ex27 f27 => ?_⟩
  have n27 : s27.1 = 134 := by rw [f27]; show s26.1 + 1 = 134; omega
  have y27 : x27 = 134 := by omega
  subst y27
  refine ⟨by omega, fun s28 f28 => ?_⟩
  have n28 : s28.1 = 134 := by rw [f28]; exact n27
  refine ⟨by rw [n28]; decide, by omega, fun x29 s29 ex29 f29 => ?_⟩
  have n29 : s29.1 = 135 := by rw [f29]; show s28.1 + 1 = 135; omega
  have y29 : x29 = 135 := by omega
  subst y29
  refine ⟨by omega, fun s30 f30 => ?_⟩
  have n30 : s30.1 = 135 := by rw [f30]; exact n29
  refine ⟨by omega, fun s31 f31 => ?_⟩
  have n31 : s31.1 = 135 := by rw [f31]; exact n30
  refine ⟨by omega, fun s32 f32 => ?_⟩
  have n32 : s32.1 = 135 := by rw [f32]; exact n31
  have e1 : ∀ r, r < 120 → Eqc σ s1 r := fun r hr => by rw [f1]; exact nw_e (by omega)
  have e2 : ∀ r, r < 120 → Eqc σ s2 r := fun r hr => (e1 r hr).tr (by rw [f2]; exact nw_e (by omega))
  have e3 : ∀ r, r < 120 → Eqc σ s3 r := fun r hr => (e2 r hr).tr (by rw [f3]; exact ⟨rfl, w2_r (by omega)⟩)
  have e4 : ∀ r, r < 120 → Eqc σ s4 r := fun r hr => (e3 r hr).tr (by rw [f4]; exact nw_e (by omega))
  have e5 : ∀ r, r < 120 → Eqc σ s5 r := fun r hr => (e4 r hr).tr (by rw [f5]; exact ⟨rfl, w2_r (by omega)⟩)
  have e6 : ∀ r, r < 120 → Eqc σ s6 r := fun r hr => (e5 r hr).tr (by rw [f6]; exact nw_e (by omega))
  have e7 : ∀ r, r < 120 → Eqc σ s7 r := fun r hr => (e6 r hr).tr (by rw [f7]; exact ⟨rfl, w2_r (by omega)⟩)
  have e8 : ∀ r, r < 120 → Eqc σ s8 r := fun r hr => (e7 r hr).tr (by rw [f8]; exact nw_e (by omega))
  have e9 : ∀ r, r < 120 → Eqc σ s9 r := fun r hr => (e8 r hr).tr (by rw [f9]; exact ⟨rfl, w2_r (by omega)⟩)
  have e10 : ∀ r, r < 120 → Eqc σ s10 r := fun r hr => (e9 r hr).tr (by rw [f10]; exact nw_e (by omega))
  have e11 : ∀ r, r < 120 → Eqc σ s11 r := fun r hr => (e10 r hr).tr (by rw [f11]; exact ⟨rfl, w2_r (by omega)⟩)
  have e12 : ∀ r, r < 120 → Eqc σ s12 r := fun r hr => (e11 r hr).tr (by rw [f12]; exact nw_e (by omega))
  have e13 : ∀ r, r < 120 → Eqc σ s13 r := fun r hr => (e12 r hr).tr (by rw [f13]; exact ⟨rfl, w2_r (by omega)⟩)
  have e14 : ∀ r, r < 120 → Eqc σ s14 r := fun r hr => (e13 r hr).tr (by rw [f14]; exact nw_e (by omega))
  have e15 : ∀ r, r < 120 → Eqc σ s15 r := fun r hr => (e14 r hr).tr (by rw [f15]; exact ⟨rfl, w2_r (by omega)⟩)
  have e16 : ∀ r, r < 120 → Eqc σ s16 r := fun r hr => (e15 r hr).tr (by rw [f16]; exact nw_e (by omega))
  have e17 : ∀ r, r < 120 → Eqc σ s17 r := fun r hr => (e16 r hr).tr (by rw [f17]; exact ⟨rfl, w2_r (by omega)⟩)
  have e18 : ∀ r, r < 120 → Eqc σ s18 r := fun r hr => (e17 r hr).tr (by rw [f18]; exact nw_e (by omega))
  have e19 : ∀ r, r < 120 → Eqc σ s19 r := fun r hr => (e18 r hr).tr (by rw [f19]; exact ⟨rfl, w2_r (by omega)⟩)
  have e20 : ∀ r, r < 120 → Eqc σ s20 r := fun r hr => (e19 r hr).tr (by rw [f20]; exact nw_e (by omega))
  have e21 : ∀ r, r < 120 → Eqc σ s21 r := fun r hr => (e20 r hr).tr (by rw [f21]; exact ⟨rfl, w2_r (by omega)⟩)
  have e22 : ∀ r, r < 120 → Eqc σ s22 r := fun r hr => (e21 r hr).tr (by rw [f22]; exact nw_e (by omega))
  have e23 : ∀ r, r < 120 → Eqc σ s23 r := fun r hr => (e22 r hr).tr (by rw [f23]; exact nw_e (by omega))
  have e24 : ∀ r, r < 120 → Eqc σ s24 r := fun r hr => (e23 r hr).tr (by rw [f24]; exact ⟨rfl, w2_r (by omega)⟩)
  have e25 : ∀ r, r < 120 → Eqc σ s25 r := fun r hr => (e24 r hr).tr (by rw [f25]; exact nw_e (by omega))
  have e26 : ∀ r, r < 120 → Eqc σ s26 r := fun r hr => (e25 r hr).tr (by rw [f26]; exact ⟨rfl, w2_r (by omega)⟩)
  have e27 : ∀ r, r < 120 → Eqc σ s27 r := fun r hr => (e26 r hr).tr (by rw [f27]; exact nw_e (by omega))
  have e28 : ∀ r, r < 120 → Eqc σ s28 r := fun r hr => (e27 r hr).tr (by rw [f28]; exact ⟨rfl, w2_r (by omega)⟩)
  have e29 : ∀ r, r < 120 → Eqc σ s29 r := fun r hr => (e28 r hr).tr (by rw [f29]; exact nw_e (by omega))
  have e30 : ∀ r, r < 120 → Eqc σ s30 r := fun r hr => (e29 r hr).tr (by rw [f30]; exact ⟨rfl, w2_r (by omega)⟩)
  have e31 : ∀ r, r < 120 → Eqc σ s31 r := fun r hr => (e30 r hr).tr (by rw [f31]; exact ⟨rfl, w2_r (by omega)⟩)
  have p0 : s32.2.2 120 0 = 121 := by rw [f32, w2_r (by omega), f31, w2_k (by omega), f30, w2_r (by omega), f29, (nw_e (by omega)).2, f28, w2_r (by omega), f27, (nw_e (by omega)).2, f26, w2_r (by omega), f25, (nw_e (by omega)).2, f24, w2_r (by omega), f23, (nw_e (by omega)).2, f22, (nw_e (by omega)).2, f21, w2_k (by omega), f20, (nw_e (by omega)).2, f19, w2_k (by omega), f18, (nw_e (by omega)).2, f17, w2_k (by omega), f16, (nw_e (by omega)).2, f15, w2_k (by omega), f14, (nw_e (by omega)).2, f13, w2_k (by omega), f12, (nw_e (by omega)).2, f11, w2_k (by omega), f10, (nw_e (by omega)).2, f9, w2_k (by omega), f8, (nw_e (by omega)).2, f7, w2_k (by omega), f6, (nw_e (by omega)).2, f5, w2_k (by omega), f4, (nw_e (by omega)).2, f3, w2_at]
  have p1 : s32.2.2 120 1 = 122 := by rw [f32, w2_r (by omega), f31, w2_k (by omega), f30, w2_r (by omega), f29, (nw_e (by omega)).2, f28, w2_r (by omega), f27, (nw_e (by omega)).2, f26, w2_r (by omega), f25, (nw_e (by omega)).2, f24, w2_r (by omega), f23, (nw_e (by omega)).2, f22, (nw_e (by omega)).2, f21, w2_k (by omega), f20, (nw_e (by omega)).2, f19, w2_k (by omega), f18, (nw_e (by omega)).2, f17, w2_k (by omega), f16, (nw_e (by omega)).2, f15, w2_k (by omega), f14, (nw_e (by omega)).2, f13, w2_k (by omega), f12, (nw_e (by omega)).2, f11, w2_k (by omega), f10, (nw_e (by omega)).2, f9, w2_k (by omega), f8, (nw_e (by omega)).2, f7, w2_k (by omega), f6, (nw_e (by omega)).2, f5, w2_at]
  have p2 : s32.2.2 120 2 = 123 := by rw [f32, w2_r (by omega), f31, w2_k (by omega), f30, w2_r (by omega), f29, (nw_e (by omega)).2, f28, w2_r (by omega), f27, (nw_e (by omega)).2, f26, w2_r (by omega), f25, (nw_e (by omega)).2, f24, w2_r (by omega), f23, (nw_e (by omega)).2, f22, (nw_e (by omega)).2, f21, w2_k (by omega), f20, (nw_e (by omega)).2, f19, w2_k (by omega), f18, (nw_e (by omega)).2, f17, w2_k (by omega), f16, (nw_e (by omega)).2, f15, w2_k (by omega), f14, (nw_e (by omega)).2, f13, w2_k (by omega), f12, (nw_e (by omega)).2, f11, w2_k (by omega), f10, (nw_e (by omega)).2, f9, w2_k (by omega), f8, (nw_e (by omega)).2, f7, w2_at]
  have p3 : s32.2.2 120 3 = 124 := by rw [f32, w2_r (by omega), f31, w2_k (by omega), f30, w2_r (by omega), f29, (nw_e (by omega)).2, f28, w2_r (by omega), f27, (nw_e (by omega)).2, f26, w2_r (by omega), f25, (nw_e (by omega)).2, f24, w2_r (by omega), f23, (nw_e (by omega)).2, f22, (nw_e (by omega)).2, f21, w2_k (by omega), f20, (nw_e (by omega)).2, f19, w2_k (by omega), f18, (nw_e (by omega)).2, f17, w2_k (by omega), f16, (nw_e (by omega)).2, f15, w2_k (by omega), f14, (nw_e (by omega)).2, f13, w2_k (by omega), f12, (nw_e (by omega)).2, f11, w2_k (by omega), f10, (nw_e (by omega)).2, f9, w2_at]
  have p4 : s32.2.2 120 4 = 125 := by rw [f32, w2_r (by omega), f31, w2_k (by omega), f30, w2_r (by omega), f29, (nw_e (by omega)).2, f28, w2_r (by omega), f27, (nw_e (by omega)).2, f26, w2_r (by omega), f25, (nw_e (by omega)).2, f24, w2_r (by omega), f23, (nw_e (by omega)).2, f22, (nw_e (by omega)).2, f21, w2_k (by omega), f20, (nw_e (by omega)).2, f19, w2_k (by omega), f18, (nw_e (by omega)).2, f17, w2_k (by omega), f16, (nw_e (by omega)).2, f15, w2_k (by omega), f14, (nw_e (by omega)).2, f13, w2_k (by omega), f12, (nw_e (by omega)).2, f11, w2_at]
  have p5 : s32.2.2 120 5 = 126 := by rw [f32, w2_r (by omega), f31, w2_k (by omega), f30, w2_r (by omega), f29, (nw_e (by omega)).2, f28, w2_r (by omega), f27, (nw_e (by omega)).2, f26, w2_r (by omega), f25, (nw_e (by omega)).2, f24, w2_r (by omega), f23, (nw_e (by omega)).2, f22, (nw_e (by omega)).2, f21, w2_k (by omega), f20, (nw_e (by omega)).2, f19, w2_k (by omega), f18, (nw_e (by omega)).2, f17, w2_k (by omega), f16, (nw_e (by omega)).2, f15, w2_k (by omega), f14, (nw_e (by omega)).2, f13, w2_at]
  have p6 : s32.2.2 120 6 = 127 := by rw [f32, w2_r (by omega), f31, w2_k (by omega), f30, w2_r (by omega), f29, (nw_e (by omega)).2, f28, w2_r (by omega), f27, (nw_e (by omega)).2, f26, w2_r (by omega), f25, (nw_e (by omega)).2, f24, w2_r (by omega), f23, (nw_e (by omega)).2, f22, (nw_e (by omega)).2, f21, w2_k (by omega), f20, (nw_e (by omega)).2, f19, w2_k (by omega), f18, (nw_e (by omega)).2, f17, w2_k (by omega), f16, (nw_e (by omega)).2, f15, w2_at]
  have p7 : s32.2.2 120 7 = 128 := by rw [f32, w2_r (by omega), f31, w2_k (by omega), f30, w2_r (by omega), f29, (nw_e (by omega)).2, f28, w2_r (by omega), f27, (nw_e (by omega)).2, f26, w2_r (by omega), f25, (nw_e (by omega)).2, f24, w2_r (by omega), f23, (nw_e (by omega)).2, f22, (nw_e (by omega)).2, f21, w2_k (by omega), f20, (nw_e (by omega)).2, f19, w2_k (by omega), f18, (nw_e (by omega)).2, f17, w2_at]
  have p8 : s32.2.2 120 8 = 129 := by rw [f32, w2_r (by omega), f31, w2_k (by omega), f30, w2_r (by omega), f29, (nw_e (by omega)).2, f28, w2_r (by omega), f27, (nw_e (by omega)).2, f26, w2_r (by omega), f25, (nw_e (by omega)).2, f24, w2_r (by omega), f23, (nw_e (by omega)).2, f22, (nw_e (by omega)).2, f21, w2_k (by omega), f20, (nw_e (by omega)).2, f19, w2_at]
  have p9 : s32.2.2 120 9 = 130 := by rw [f32, w2_r (by omega), f31, w2_k (by omega), f30, w2_r (by omega), f29, (nw_e (by omega)).2, f28, w2_r (by omega), f27, (nw_e (by omega)).2, f26, w2_r (by omega), f25, (nw_e (by omega)).2, f24, w2_r (by omega), f23, (nw_e (by omega)).2, f22, (nw_e (by omega)).2, f21, w2_at]
  have a0 : s32.2.2 131 0 = 132 := by rw [f32, w2_r (by omega), f31, w2_r (by omega), f30, w2_k (by omega), f29, (nw_e (by omega)).2, f28, w2_k (by omega), f27, (nw_e (by omega)).2, f26, w2_k (by omega), f25, (nw_e (by omega)).2, f24, w2_at]
  have a1 : s32.2.2 131 1 = 133 := by rw [f32, w2_r (by omega), f31, w2_r (by omega), f30, w2_k (by omega), f29, (nw_e (by omega)).2, f28, w2_k (by omega), f27, (nw_e (by omega)).2, f26, w2_at]
  have a2 : s32.2.2 131 2 = 134 := by rw [f32, w2_r (by omega), f31, w2_r (by omega), f30, w2_k (by omega), f29, (nw_e (by omega)).2, f28, w2_at]
  have a3 : s32.2.2 131 3 = 135 := by rw [f32, w2_r (by omega), f31, w2_r (by omega), f30, w2_at]
  have i8 : s32.2.2 1 8 = 120 := by rw [f32, w2_at]
  have E : ∀ r, r < 120 → s32.2.1 r = σ.2.1 r := fun r hr => by rw [f32]; exact (e31 r hr).1
  have R : ∀ r k, r < 120 → ¬ (r = 1 ∧ k = 8) → s32.2.2 r k = σ.2.2 r k := fun r k hr hk => by
    rw [f32]
    show (if r = 1 ∧ k = 8 then _ else s31.2.2 r k) = _
    rw [if_neg hk, (e31 r hr).2]
  have R1 : ∀ r, r < 120 → r ≠ 1 → s32.2.2 r = σ.2.2 r := fun r hr h1 => by funext k; exact R r k hr (fun z => h1 z.1)
  have Q : ∀ r, r < 120 → r ≠ 1 → Eqc σ s32 r := fun r hr h1 => ⟨E r hr, R1 r hr h1⟩
  have hn : σ.1 ≤ s32.1 := by omega
  have w0 := hw.1
  rw [i8]
  refine hK s32 ⟨⟨by omega, fun q hq => ?_⟩, Or.inr ⟨i8, ⟨by omega, fun q hq => ?_⟩, fun k hk => ?_⟩, ?_, ?_, ?_, ?_⟩ ⟨hn, fun r a b => Q r (by omega) (by omega)⟩ i8 E
  · have k : ∀ q ∈ cptr, q.1 < 120 ∧ ¬ (q.1 = 1 ∧ q.2.1 = 8) := by decide
    rw [R q.1 q.2.1 (k q hq).1 (k q hq).2]; exact h.1.2 q hq
  · simp only [fptr, List.mem_cons, List.not_mem_nil, or_false] at hq
    rcases hq with rfl | rfl | rfl | rfl | rfl | rfl | rfl | rfl | rfl | rfl
    · exact p0
    · exact p1
    · exact p2
    · exact p3
    · exact p4
    · exact p5
    · exact p6
    · exact p7
    · exact p8
    · exact p9
  · have h4 : k = 0 ∨ k = 1 ∨ k = 2 ∨ k = 3 := by omega
    rcases h4 with rfl | rfl | rfl | rfl
    · exact a0
    · exact a1
    · exact a2
    · exact a3
  · exact h.2.2.1.eq hn (by rw [E 2 (by omega)]) (fun r a b => Q r (by omega) (by omega)) rfl rfl
  · exact h.2.2.2.1.eq hn (by rw [E 2 (by omega)]) (by rw [E 2 (by omega)]) (fun r a b => Q r (by omega) (by omega)) (R1 51 (by omega) (by omega)) (R1 54 (by omega) (by omega)) rfl rfl (by omega)
  · exact h.2.2.2.2.1.eq (by rw [E 45 (by omega)]) (E 46 (by omega)) (by rw [E 50 (by omega)]) (by rw [E 50 (by omega)]) rfl rfl rfl rfl
  · exact h.2.2.2.2.2.eq (E 58 (by omega)) (E 1 (by omega)) (by rw [E 69 (by omega)]) (E 73 (by omega)) rfl rfl rfl rfl rfl rfl
end RDY
