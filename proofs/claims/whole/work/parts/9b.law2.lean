/-! follow and share in the law -/
section LAW2
variable {l : Launch} {sL : Nat} {sx : Nat → Int32} {σ : Sg} {v : Vt} {c i kc ks : Nat} {Φ : Option Av → Sg → Prop}
theorem rgI (x : Int32) : Rg x.toInt := ⟨Int32.le_toInt x, Int32.toInt_lt x⟩
theorem S_followE (h : Bo c σ v) (hc : c + 1 ≤ 512) (x1 x2 x3 x4 : Int32) (nok : ¬ okFw v x1.toInt x2.toInt x3.toInt x4.toInt) : Sp2 l mX11_follow mX12_follow [.inl x1, .inl x2, .inl x3, .inl x4] c σ := by
  have k := C_followE (l := l) h.1 h.2.2 nok (rgI x1) (rgI x2) (rgI x3) (rgI x4)
  simp only [I_toInt] at k
  refine con_pi k (fun x σ1 ⟨e1, h1, f1⟩ => ?_)
  have k2 := M_follow (l := l) (h.2.1.cf f1) h.2.2 (rgI x1) (rgI x2) (rgI x3) (rgI x4)
  simp only [I_toInt] at k2
  exact con_pi k2 (fun y σ2 ⟨e2, h2, f2⟩ => ⟨e1.trans e2.symm, _, h.step h1 f1 h2 f2 (W_follow h.2.2 |>.up (Nat.le_succ c) hc)⟩)
theorem S_followN2 (h : Bo c σ v) (hc : c + 1 ≤ 512) (hz : σ.2.2 1 8 = 0) (x1 x2 x3 x4 : Int32) (okk : okFw v x1.toInt x2.toInt x3.toInt x4.toInt) : Con l mX11_followN (.inr 1 :: [.inl x1, .inl x2, .inl x3, .inl x4]) σ (PI fun x σ1 => Con l mX12_follow (.inr 82 :: [.inl x1, .inl x2, .inl x3, .inl x4]) σ1 (PI fun y σ2 => x = y ∧ (∃ v, Bo (c + 1) σ2 v) ∧ 120 ≤ σ2.1)) := by
  have k := C_followN2 (l := l) h.1 h.2.2 hz okk (rgI x1) (rgI x2) (rgI x3) (rgI x4)
  simp only [I_toInt] at k
  refine con_pi k (fun x σ1 ⟨e1, h1, f1, g1⟩ => ?_)
  have k2 := M_follow (l := l) (h.2.1.cf f1) h.2.2 (rgI x1) (rgI x2) (rgI x3) (rgI x4)
  simp only [I_toInt] at k2
  exact con_pi k2 (fun y σ2 ⟨e2, h2, f2⟩ => ⟨e1.trans e2.symm, ⟨_, h.step h1 f1 h2 f2 (W_follow h.2.2 |>.up (Nat.le_succ c) hc)⟩, by rw [f2.1]; exact g1⟩)
theorem c_follow (h : Bo c σ v) (hc : c + 1 ≤ 512) (hi : i + 6 ≤ sL) (hL : sL ≤ 3072) (hk : kc ≤ 601024 ∧ ks ≤ 7293034) (hk1 : σ.2.2 1 8 = 0 → kc + 16 ≤ 601024 ∧ ks + 188578 ≤ 7293034) (kk : ∀ σ' v' kc' ks', Bo (c + 1) σ' v' → σ.1 ≤ σ'.1 → ((kc' = kc ∧ ks' = ks) ∨ (σ.2.2 1 8 = 0 ∧ 120 ≤ σ'.1 ∧ kc' = kc + 16 ∧ ks' = ks + 188578)) → SW sL sx l mL_law 1374 (LO i) [] σ' kc' ks' Φ) : SW sL sx l mL_law 895 (LO i) [] σ kc ks Φ := by
  rcases h.1.2.1 with ⟨hz, _⟩ | ⟨hz, _⟩
  · by_cases ok : okFw v (sa sx i 1).toInt (sa sx i 2).toInt (sa sx i 3).toInt (sa sx i 4).toInt
    · have hk2 := hk1 hz
      refine sw_aload_n (q := 1) dL_law_895 rfl rfl ?_
      refine sw_arg (j := 1) dL_law_896 dL_law_897 dL_law_899 dL_law_900 dL_law_901 hi hL (by decide) ?_
      refine sw_arg (j := 2) dL_law_902 dL_law_903 dL_law_905 dL_law_906 dL_law_907 hi hL (by decide) ?_
      refine sw_arg (j := 3) dL_law_908 dL_law_909 dL_law_911 dL_law_912 dL_law_913 hi hL (by decide) ?_
      refine sw_arg (j := 4) dL_law_914 dL_law_915 dL_law_917 dL_law_918 dL_law_919 hi hL (by decide) ?_
      refine sw_vC (bs := [.inl (sa sx i 1), .inl (sa sx i 2), .inl (sa sx i 3), .inl (sa sx i 4)]) (st := []) vmX11_followN lL_96 dL_law_920 ⟨by decide, rfl, rfl, hk2.1, hk2.2⟩ (by decide) rfl rfl h.1.1.o1 (S_followN2 h hc hz (sa sx i 1) (sa sx i 2) (sa sx i 3) (sa sx i 4) ok) (skI (fun x σ1 h1 n1 => ?_))
      refine sw_aload_n (q := 2) dL_law_923 rfl rfl ?_
      refine sw_arg (j := 1) dL_law_924 dL_law_925 dL_law_927 dL_law_928 dL_law_929 hi hL (by decide) ?_
      refine sw_arg (j := 2) dL_law_930 dL_law_931 dL_law_933 dL_law_934 dL_law_935 hi hL (by decide) ?_
      refine sw_arg (j := 3) dL_law_936 dL_law_937 dL_law_939 dL_law_940 dL_law_941 hi hL (by decide) ?_
      refine sw_arg (j := 4) dL_law_942 dL_law_943 dL_law_945 dL_law_946 dL_law_947 hi hL (by decide) ?_
      refine sw_vC (bs := [.inl (sa sx i 1), .inl (sa sx i 2), .inl (sa sx i 3), .inl (sa sx i 4)]) (st := [.inl x]) vmX12_follow lL_99 dL_law_948 ⟨by decide, rfl, rfl, hk2.1, hk2.2⟩ (Nat.le_of_ble_eq_true rfl) rfl rfl (h.2.1.1.ob.up n1) h1 (skI (fun y σ2 ⟨e2, ⟨v2, h2⟩, g2⟩ n2 => ?_))
      exact sw_icmp_eq (tgt := 1374) dL_law_951 (by decide) (fun _ => kk σ2 v2 (kc + 16) (ks + 188578) h2 (Nat.le_trans n1 n2) (Or.inr ⟨hz, g2, rfl, rfl⟩)) (fun q => absurd e2 q)
    · refine sw_aload_n (q := 1) dL_law_895 rfl rfl ?_
      refine sw_arg (j := 1) dL_law_896 dL_law_897 dL_law_899 dL_law_900 dL_law_901 hi hL (by decide) ?_
      refine sw_arg (j := 2) dL_law_902 dL_law_903 dL_law_905 dL_law_906 dL_law_907 hi hL (by decide) ?_
      refine sw_arg (j := 3) dL_law_908 dL_law_909 dL_law_911 dL_law_912 dL_law_913 hi hL (by decide) ?_
      refine sw_arg (j := 4) dL_law_914 dL_law_915 dL_law_917 dL_law_918 dL_law_919 hi hL (by decide) ?_
      refine sw_vC (bs := [.inl (sa sx i 1), .inl (sa sx i 2), .inl (sa sx i 3), .inl (sa sx i 4)]) (st := []) vmX11_follow lL_96 dL_law_920 ⟨by decide, rfl, rfl, hk.1, hk.2⟩ (by decide) rfl rfl h.1.1.o1 (S_followE h hc (sa sx i 1) (sa sx i 2) (sa sx i 3) (sa sx i 4) ok) (skI (fun x σ1 h1 n1 => ?_))
      refine sw_aload_n (q := 2) dL_law_923 rfl rfl ?_
      refine sw_arg (j := 1) dL_law_924 dL_law_925 dL_law_927 dL_law_928 dL_law_929 hi hL (by decide) ?_
      refine sw_arg (j := 2) dL_law_930 dL_law_931 dL_law_933 dL_law_934 dL_law_935 hi hL (by decide) ?_
      refine sw_arg (j := 3) dL_law_936 dL_law_937 dL_law_939 dL_law_940 dL_law_941 hi hL (by decide) ?_
      refine sw_arg (j := 4) dL_law_942 dL_law_943 dL_law_945 dL_law_946 dL_law_947 hi hL (by decide) ?_
      refine sw_vC (bs := [.inl (sa sx i 1), .inl (sa sx i 2), .inl (sa sx i 3), .inl (sa sx i 4)]) (st := [.inl x]) vmX12_follow lL_99 dL_law_948 ⟨by decide, rfl, rfl, hk.1, hk.2⟩ (Nat.le_of_ble_eq_true rfl) rfl rfl (h.2.1.1.ob.up n1) h1 (skI (fun y σ2 ⟨e2, v2, h2⟩ n2 => ?_))
      exact sw_icmp_eq (tgt := 1374) dL_law_951 (by decide) (fun _ => kk σ2 v2 kc ks h2 (Nat.le_trans n1 n2) (Or.inl ⟨rfl, rfl⟩)) (fun q => absurd e2 q)
  · refine sw_aload_n (q := 1) dL_law_895 rfl rfl ?_
    refine sw_arg (j := 1) dL_law_896 dL_law_897 dL_law_899 dL_law_900 dL_law_901 hi hL (by decide) ?_
    refine sw_arg (j := 2) dL_law_902 dL_law_903 dL_law_905 dL_law_906 dL_law_907 hi hL (by decide) ?_
    refine sw_arg (j := 3) dL_law_908 dL_law_909 dL_law_911 dL_law_912 dL_law_913 hi hL (by decide) ?_
    refine sw_arg (j := 4) dL_law_914 dL_law_915 dL_law_917 dL_law_918 dL_law_919 hi hL (by decide) ?_
    refine sw_vC (bs := [.inl (sa sx i 1), .inl (sa sx i 2), .inl (sa sx i 3), .inl (sa sx i 4)]) (st := []) vmX11_follow lL_96 dL_law_920 ⟨by decide, rfl, rfl, hk.1, hk.2⟩ (by decide) rfl rfl h.1.1.o1 (S_follow h hc hz (sa sx i 1) (sa sx i 2) (sa sx i 3) (sa sx i 4)) (skI (fun x σ1 h1 n1 => ?_))
    refine sw_aload_n (q := 2) dL_law_923 rfl rfl ?_
    refine sw_arg (j := 1) dL_law_924 dL_law_925 dL_law_927 dL_law_928 dL_law_929 hi hL (by decide) ?_
    refine sw_arg (j := 2) dL_law_930 dL_law_931 dL_law_933 dL_law_934 dL_law_935 hi hL (by decide) ?_
    refine sw_arg (j := 3) dL_law_936 dL_law_937 dL_law_939 dL_law_940 dL_law_941 hi hL (by decide) ?_
    refine sw_arg (j := 4) dL_law_942 dL_law_943 dL_law_945 dL_law_946 dL_law_947 hi hL (by decide) ?_
    refine sw_vC (bs := [.inl (sa sx i 1), .inl (sa sx i 2), .inl (sa sx i 3), .inl (sa sx i 4)]) (st := [.inl x]) vmX12_follow lL_99 dL_law_948 ⟨by decide, rfl, rfl, hk.1, hk.2⟩ (Nat.le_of_ble_eq_true rfl) rfl rfl (h.2.1.1.ob.up n1) h1 (skI (fun y σ2 ⟨e2, v2, h2⟩ n2 => ?_))
    exact sw_icmp_eq (tgt := 1374) dL_law_951 (by decide) (fun _ => kk σ2 v2 kc ks h2 (Nat.le_trans n1 n2) (Or.inl ⟨rfl, rfl⟩)) (fun q => absurd e2 q)
theorem S_shareE (h : Bo c σ v) (hc : c + 1 ≤ 512) (x1 x2 x3 : Int32) (nok : ¬ okSh v x1.toInt x2.toInt x3.toInt) : Sp2 l mX11_share mX12_share [.inl x1, .inl x2, .inl x3] c σ := by
  have k := C_shareE (l := l) h.1 h.2.2 nok (rgI x1) (rgI x2) (rgI x3)
  simp only [I_toInt] at k
  refine con_pi k (fun x σ1 ⟨e1, h1, f1⟩ => ?_)
  have k2 := M_share (l := l) (h.2.1.cf f1) h.2.2 (rgI x1) (rgI x2) (rgI x3)
  simp only [I_toInt] at k2
  exact con_pi k2 (fun y σ2 ⟨e2, h2, f2⟩ => ⟨e1.trans e2.symm, _, h.step h1 f1 h2 f2 (h.2.2.up (Nat.le_succ c) hc)⟩)
theorem S_shareN2 (h : Bo c σ v) (hc : c + 1 ≤ 512) (hz : σ.2.2 1 8 = 0) (x1 x2 x3 : Int32) (okk : okSh v x1.toInt x2.toInt x3.toInt) : Con l mX11_shareN (.inr 1 :: [.inl x1, .inl x2, .inl x3]) σ (PI fun x σ1 => Con l mX12_share (.inr 82 :: [.inl x1, .inl x2, .inl x3]) σ1 (PI fun y σ2 => x = y ∧ (∃ v, Bo (c + 1) σ2 v) ∧ 120 ≤ σ2.1)) := by
  have k := C_shareN2 (l := l) h.1 h.2.2 hz okk (rgI x1) (rgI x2) (rgI x3)
  simp only [I_toInt] at k
  refine con_pi k (fun x σ1 ⟨e1, h1, f1, g1⟩ => ?_)
  have k2 := M_share (l := l) (h.2.1.cf f1) h.2.2 (rgI x1) (rgI x2) (rgI x3)
  simp only [I_toInt] at k2
  exact con_pi k2 (fun y σ2 ⟨e2, h2, f2⟩ => ⟨e1.trans e2.symm, ⟨_, h.step h1 f1 h2 f2 (h.2.2.up (Nat.le_succ c) hc)⟩, by rw [f2.1]; exact g1⟩)
theorem c_share (h : Bo c σ v) (hc : c + 1 ≤ 512) (hi : i + 6 ≤ sL) (hL : sL ≤ 3072) (hk : kc ≤ 601024 ∧ ks ≤ 7293034) (hk1 : σ.2.2 1 8 = 0 → kc + 16 ≤ 601024 ∧ ks + 188578 ≤ 7293034) (kk : ∀ σ' v' kc' ks', Bo (c + 1) σ' v' → σ.1 ≤ σ'.1 → ((kc' = kc ∧ ks' = ks) ∨ (σ.2.2 1 8 = 0 ∧ 120 ≤ σ'.1 ∧ kc' = kc + 16 ∧ ks' = ks + 188578)) → SW sL sx l mL_law 1374 (LO i) [] σ' kc' ks' Φ) : SW sL sx l mL_law 1044 (LO i) [] σ kc ks Φ := by
  rcases h.1.2.1 with ⟨hz, _⟩ | ⟨hz, _⟩
  · by_cases ok : okSh v (sa sx i 1).toInt (sa sx i 2).toInt (sa sx i 3).toInt
    · have hk2 := hk1 hz
      refine sw_aload_n (q := 1) dL_law_1044 rfl rfl ?_
      refine sw_arg (j := 1) dL_law_1045 dL_law_1046 dL_law_1048 dL_law_1049 dL_law_1050 hi hL (by decide) ?_
      refine sw_arg (j := 2) dL_law_1051 dL_law_1052 dL_law_1054 dL_law_1055 dL_law_1056 hi hL (by decide) ?_
      refine sw_arg (j := 3) dL_law_1057 dL_law_1058 dL_law_1060 dL_law_1061 dL_law_1062 hi hL (by decide) ?_
      refine sw_vC (bs := [.inl (sa sx i 1), .inl (sa sx i 2), .inl (sa sx i 3)]) (st := []) vmX11_shareN lL_116 dL_law_1063 ⟨by decide, rfl, rfl, hk2.1, hk2.2⟩ (by decide) rfl rfl h.1.1.o1 (S_shareN2 h hc hz (sa sx i 1) (sa sx i 2) (sa sx i 3) ok) (skI (fun x σ1 h1 n1 => ?_))
      refine sw_aload_n (q := 2) dL_law_1066 rfl rfl ?_
      refine sw_arg (j := 1) dL_law_1067 dL_law_1068 dL_law_1070 dL_law_1071 dL_law_1072 hi hL (by decide) ?_
      refine sw_arg (j := 2) dL_law_1073 dL_law_1074 dL_law_1076 dL_law_1077 dL_law_1078 hi hL (by decide) ?_
      refine sw_arg (j := 3) dL_law_1079 dL_law_1080 dL_law_1082 dL_law_1083 dL_law_1084 hi hL (by decide) ?_
      refine sw_vC (bs := [.inl (sa sx i 1), .inl (sa sx i 2), .inl (sa sx i 3)]) (st := [.inl x]) vmX12_share lL_119 dL_law_1085 ⟨by decide, rfl, rfl, hk2.1, hk2.2⟩ (Nat.le_of_ble_eq_true rfl) rfl rfl (h.2.1.1.ob.up n1) h1 (skI (fun y σ2 ⟨e2, ⟨v2, h2⟩, g2⟩ n2 => ?_))
      exact sw_icmp_eq (tgt := 1374) dL_law_1088 (by decide) (fun _ => kk σ2 v2 (kc + 16) (ks + 188578) h2 (Nat.le_trans n1 n2) (Or.inr ⟨hz, g2, rfl, rfl⟩)) (fun q => absurd e2 q)
    · refine sw_aload_n (q := 1) dL_law_1044 rfl rfl ?_
      refine sw_arg (j := 1) dL_law_1045 dL_law_1046 dL_law_1048 dL_law_1049 dL_law_1050 hi hL (by decide) ?_
      refine sw_arg (j := 2) dL_law_1051 dL_law_1052 dL_law_1054 dL_law_1055 dL_law_1056 hi hL (by decide) ?_
      refine sw_arg (j := 3) dL_law_1057 dL_law_1058 dL_law_1060 dL_law_1061 dL_law_1062 hi hL (by decide) ?_
      refine sw_vC (bs := [.inl (sa sx i 1), .inl (sa sx i 2), .inl (sa sx i 3)]) (st := []) vmX11_share lL_116 dL_law_1063 ⟨by decide, rfl, rfl, hk.1, hk.2⟩ (by decide) rfl rfl h.1.1.o1 (S_shareE h hc (sa sx i 1) (sa sx i 2) (sa sx i 3) ok) (skI (fun x σ1 h1 n1 => ?_))
      refine sw_aload_n (q := 2) dL_law_1066 rfl rfl ?_
      refine sw_arg (j := 1) dL_law_1067 dL_law_1068 dL_law_1070 dL_law_1071 dL_law_1072 hi hL (by decide) ?_
      refine sw_arg (j := 2) dL_law_1073 dL_law_1074 dL_law_1076 dL_law_1077 dL_law_1078 hi hL (by decide) ?_
      refine sw_arg (j := 3) dL_law_1079 dL_law_1080 dL_law_1082 dL_law_1083 dL_law_1084 hi hL (by decide) ?_
      refine sw_vC (bs := [.inl (sa sx i 1), .inl (sa sx i 2), .inl (sa sx i 3)]) (st := [.inl x]) vmX12_share lL_119 dL_law_1085 ⟨by decide, rfl, rfl, hk.1, hk.2⟩ (Nat.le_of_ble_eq_true rfl) rfl rfl (h.2.1.1.ob.up n1) h1 (skI (fun y σ2 ⟨e2, v2, h2⟩ n2 => ?_))
      exact sw_icmp_eq (tgt := 1374) dL_law_1088 (by decide) (fun _ => kk σ2 v2 kc ks h2 (Nat.le_trans n1 n2) (Or.inl ⟨rfl, rfl⟩)) (fun q => absurd e2 q)
  · refine sw_aload_n (q := 1) dL_law_1044 rfl rfl ?_
    refine sw_arg (j := 1) dL_law_1045 dL_law_1046 dL_law_1048 dL_law_1049 dL_law_1050 hi hL (by decide) ?_
    refine sw_arg (j := 2) dL_law_1051 dL_law_1052 dL_law_1054 dL_law_1055 dL_law_1056 hi hL (by decide) ?_
    refine sw_arg (j := 3) dL_law_1057 dL_law_1058 dL_law_1060 dL_law_1061 dL_law_1062 hi hL (by decide) ?_
    refine sw_vC (bs := [.inl (sa sx i 1), .inl (sa sx i 2), .inl (sa sx i 3)]) (st := []) vmX11_share lL_116 dL_law_1063 ⟨by decide, rfl, rfl, hk.1, hk.2⟩ (by decide) rfl rfl h.1.1.o1 (S_share h hc hz (sa sx i 1) (sa sx i 2) (sa sx i 3)) (skI (fun x σ1 h1 n1 => ?_))
    refine sw_aload_n (q := 2) dL_law_1066 rfl rfl ?_
    refine sw_arg (j := 1) dL_law_1067 dL_law_1068 dL_law_1070 dL_law_1071 dL_law_1072 hi hL (by decide) ?_
    refine sw_arg (j := 2) dL_law_1073 dL_law_1074 dL_law_1076 dL_law_1077 dL_law_1078 hi hL (by decide) ?_
    refine sw_arg (j := 3) dL_law_1079 dL_law_1080 dL_law_1082 dL_law_1083 dL_law_1084 hi hL (by decide) ?_
    refine sw_vC (bs := [.inl (sa sx i 1), .inl (sa sx i 2), .inl (sa sx i 3)]) (st := [.inl x]) vmX12_share lL_119 dL_law_1085 ⟨by decide, rfl, rfl, hk.1, hk.2⟩ (Nat.le_of_ble_eq_true rfl) rfl rfl (h.2.1.1.ob.up n1) h1 (skI (fun y σ2 ⟨e2, v2, h2⟩ n2 => ?_))
    exact sw_icmp_eq (tgt := 1374) dL_law_1088 (by decide) (fun _ => kk σ2 v2 kc ks h2 (Nat.le_trans n1 n2) (Or.inl ⟨rfl, rfl⟩)) (fun q => absurd e2 q)
end LAW2
