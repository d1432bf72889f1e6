abbrev mJ0_length_8abf5 : Mth := (yJ0_length_8abf5, cJ0_length_8abf5, 1, (some .int), 3, 0, 0)
theorem cdJ0_length_8abf5 : Cond.code yJ0_length_8abf5 cJ0_length_8abf5 1 (some .int) ∈ gt := gt_in 552 (by decide +kernel) rfl
theorem in_J0 : Cond.initialized RJ0 ∈ gt := gt_in 109 (by decide +kernel) rfl
theorem mbJ0_length_8abf5 : MB mJ0_length_8abf5 0 := ⟨cdJ0_length_8abf5, in_J0, by decide, by decide, by decide +kernel⟩
theorem imJ0_length_8abf5 : Cond.instanceMethod yJ0_length_8abf5 ∈ gt := gt_in 550 (by decide +kernel) rfl
theorem seJ0_length_8abf5 : Cond.selects RJ0 yJ0_length_8abf5 yJ0_length_8abf5 ∈ gt := gt_in 551 (by decide +kernel) rfl
abbrev mJ0_charAt_5068e : Mth := (yJ0_charAt_5068e, cJ0_charAt_5068e, 2, (some .char), 5, 0, 0)
theorem cdJ0_charAt_5068e : Cond.code yJ0_charAt_5068e cJ0_charAt_5068e 2 (some .char) ∈ gt := gt_in 562 (by decide +kernel) rfl
theorem mbJ0_charAt_5068e : MB mJ0_charAt_5068e 1 := ⟨cdJ0_charAt_5068e, in_J0, by decide, by decide, by decide +kernel⟩
theorem imJ0_charAt_5068e : Cond.instanceMethod yJ0_charAt_5068e ∈ gt := gt_in 560 (by decide +kernel) rfl
theorem seJ0_charAt_5068e : Cond.selects RJ0 yJ0_charAt_5068e yJ0_charAt_5068e ∈ gt := gt_in 561 (by decide +kernel) rfl
abbrev mJ0_coder_7d493 : Mth := (yJ0_coder_7d493, cJ0_coder_7d493, 1, (some .byte), 1, 0, 0)
theorem cdJ0_coder_7d493 : Cond.code yJ0_coder_7d493 cJ0_coder_7d493 1 (some .byte) ∈ gt := gt_in 556 (by decide +kernel) rfl
theorem mbJ0_coder_7d493 : MB mJ0_coder_7d493 0 := ⟨cdJ0_coder_7d493, in_J0, by decide, by decide, by decide +kernel⟩
theorem imJ0_coder_7d493 : Cond.instanceMethod yJ0_coder_7d493 ∈ gt := gt_in 554 (by decide +kernel) rfl
theorem seJ0_coder_7d493 : Cond.selects RJ0 yJ0_coder_7d493 yJ0_coder_7d493 ∈ gt := gt_in 555 (by decide +kernel) rfl
abbrev mJ0_isLatin1_aae02 : Mth := (yJ0_isLatin1_aae02, cJ0_isLatin1_aae02, 1, (some .boolean), 1, 0, 0)
theorem cdJ0_isLatin1_aae02 : Cond.code yJ0_isLatin1_aae02 cJ0_isLatin1_aae02 1 (some .boolean) ∈ gt := gt_in 566 (by decide +kernel) rfl
theorem mbJ0_isLatin1_aae02 : MB mJ0_isLatin1_aae02 0 := ⟨cdJ0_isLatin1_aae02, in_J0, by decide, by decide, by decide +kernel⟩
theorem imJ0_isLatin1_aae02 : Cond.instanceMethod yJ0_isLatin1_aae02 ∈ gt := gt_in 564 (by decide +kernel) rfl
theorem seJ0_isLatin1_aae02 : Cond.selects RJ0 yJ0_isLatin1_aae02 yJ0_isLatin1_aae02 ∈ gt := gt_in 565 (by decide +kernel) rfl
abbrev mJ0_checkIndex_df160 : Mth := (yJ0_checkIndex_df160, cJ0_checkIndex_df160, 2, none, 3, 0, 0)
theorem cdJ0_checkIndex_df160 : Cond.code yJ0_checkIndex_df160 cJ0_checkIndex_df160 2 none ∈ gt := gt_in 572 (by decide +kernel) rfl
theorem mbJ0_checkIndex_df160 : MB mJ0_checkIndex_df160 2 := ⟨cdJ0_checkIndex_df160, in_J0, by decide, by decide, by decide +kernel⟩
theorem stJ0_checkIndex_df160 : Cond.static yJ0_checkIndex_df160 ∈ gt := gt_in 571 (by decide +kernel) rfl
theorem smJ0_checkIndex_df160 : SM mJ0_checkIndex_df160 2 := ⟨mbJ0_checkIndex_df160, stJ0_checkIndex_df160, by decide⟩
abbrev mJ1_charAt_3b067 : Mth := (yJ1_charAt_3b067, cJ1_charAt_3b067, 2, (some .char), 4, 0, 0)
theorem cdJ1_charAt_3b067 : Cond.code yJ1_charAt_3b067 cJ1_charAt_3b067 2 (some .char) ∈ gt := gt_in 569 (by decide +kernel) rfl
theorem in_J1 : Cond.initialized RJ1 ∈ gt := gt_in 110 (by decide +kernel) rfl
theorem mbJ1_charAt_3b067 : MB mJ1_charAt_3b067 2 := ⟨cdJ1_charAt_3b067, in_J1, by decide, by decide, by decide +kernel⟩
theorem stJ1_charAt_3b067 : Cond.static yJ1_charAt_3b067 ∈ gt := gt_in 568 (by decide +kernel) rfl
theorem smJ1_charAt_3b067 : SM mJ1_charAt_3b067 2 := ⟨mbJ1_charAt_3b067, stJ1_charAt_3b067, by decide⟩
abbrev mJ3_checkIndex_8e157 : Mth := (yJ3_checkIndex_8e157, cJ3_checkIndex_8e157, 3, (some .int), 1, 0, 0)
theorem cdJ3_checkIndex_8e157 : Cond.code yJ3_checkIndex_8e157 cJ3_checkIndex_8e157 3 (some .int) ∈ gt := gt_in 577 (by decide +kernel) rfl
theorem in_J3 : Cond.initialized RJ3 ∈ gt := gt_in 111 (by decide +kernel) rfl
theorem mbJ3_checkIndex_8e157 : MB mJ3_checkIndex_8e157 3 := ⟨cdJ3_checkIndex_8e157, in_J3, by decide, by decide, by decide +kernel⟩
theorem stJ3_checkIndex_8e157 : Cond.static yJ3_checkIndex_8e157 ∈ gt := gt_in 576 (by decide +kernel) rfl
theorem smJ3_checkIndex_8e157 : SM mJ3_checkIndex_8e157 3 := ⟨mbJ3_checkIndex_8e157, stJ3_checkIndex_8e157, by decide⟩
theorem lJ0_335 : MLy RJ0 335 yJ0_coder_7d493 := Or.inl (gt_in 553 (by decide +kernel) rfl)
theorem lJ0_492 : MLy RJ0 492 yJ0_isLatin1_aae02 := Or.inl (gt_in 563 (by decide +kernel) rfl)
theorem lJ0_495 : MLy RJ0 495 yJ1_charAt_3b067 := Or.inl (gt_in 567 (by decide +kernel) rfl)
theorem lJ0_1059 : MLy RJ0 1059 yJ3_checkIndex_8e157 := Or.inl (gt_in 575 (by decide +kernel) rfl)
theorem lJ1_9 : MLy RJ1 9 yJ0_checkIndex_df160 := Or.inl (gt_in 570 (by decide +kernel) rfl)
theorem lX10_80 : MLy RX10 80 yJ0_length_8abf5 := Or.inl (gt_in 549 (by decide +kernel) rfl)
theorem lX10_86 : MLy RX10 86 yJ0_charAt_5068e := Or.inl (gt_in 559 (by decide +kernel) rfl)
theorem lX12_218 : MLy RX12 218 yJ0_length_8abf5 := Or.inl (gt_in 1733 (by decide +kernel) rfl)
theorem lX12_222 : MLy RX12 222 yJ0_charAt_5068e := Or.inl (gt_in 1734 (by decide +kernel) rfl)
theorem xfJ0_9 : Cond.fieldLink RJ0 9 "java/lang/String" "value" "[B" ∈ gt := gt_in 1953 (by decide +kernel) rfl
theorem xfJ0_15 : Cond.fieldLink RJ0 15 "java/lang/String" "coder" "B" ∈ gt := gt_in 1954 (by decide +kernel) rfl
theorem xfJ0_38 : Cond.fieldLink RJ0 38 "java/lang/String" "COMPACT_STRINGS" "Z" ∈ gt := gt_in 557 (by decide +kernel) rfl
theorem xfJ0_1053 : Cond.fieldLink RJ0 1053 "jdk/internal/util/Preconditions" "SIOOBE_FORMATTER" "Ljava/util/function/BiFunction;" ∈ gt := gt_in 573 (by decide +kernel) rfl
section JS
variable {l : Launch} {σ : Sg}
theorem nar_b0 : narrow .byte (.int 0) = .int 0 := rfl
theorem t_coder {r : Nat} {K : Int32 → Sg → Prop} (hx : Sx r) (h : K 0 σ) : Con l mJ0_coder_7d493 [.inr r] σ (PI K) := by
  refine con_gw rfl (Nat.le_of_ble_eq_true rfl) ?_
  show GW l mJ0_coder_7d493 0 [(0, .inr r)] [] σ 0 0 (PI K)
  refine gw_scs xfJ0_38 dJ0_coder_7d493_0 ?_
  refine gw_if_eq (tgt := 13) dJ0_coder_7d493_3 (by decide) (fun c => absurd c (by decide)) (fun c => ?_)
  refine gw_aload_n (q := 0) dJ0_coder_7d493_6 rfl rfl ?_
  refine gw_scod hx xfJ0_15 dJ0_coder_7d493_7 ?_
  refine gw_goto (tgt := 14) dJ0_coder_7d493_10 (by decide) ?_
  exact gw_iret .byte dJ0_coder_7d493_14 rfl nar_b0 (by decide) (by decide) ⟨0, rfl, h⟩
theorem t_isL {r : Nat} {K : Int32 → Sg → Prop} (hx : Sx r) (h : K 1 σ) : Con l mJ0_isLatin1_aae02 [.inr r] σ (PI K) := by
  refine con_gw rfl (Nat.le_of_ble_eq_true rfl) ?_
  show GW l mJ0_isLatin1_aae02 0 [(0, .inr r)] [] σ 0 0 (PI K)
  refine gw_scs xfJ0_38 dJ0_isLatin1_aae02_0 ?_
  refine gw_if_eq (tgt := 17) dJ0_isLatin1_aae02_3 (by decide) (fun c => absurd c (by decide)) (fun c => ?_)
  refine gw_aload_n (q := 0) dJ0_isLatin1_aae02_6 rfl rfl ?_
  refine gw_scod hx xfJ0_15 dJ0_isLatin1_aae02_7 ?_
  refine gw_if_ne (tgt := 17) dJ0_isLatin1_aae02_10 (by decide) (fun c => absurd rfl c) (fun c => ?_)
  refine gw_iconst (v := 1) dJ0_isLatin1_aae02_13 ic_1 ?_
  refine gw_goto (tgt := 18) dJ0_isLatin1_aae02_14 (by decide) ?_
  exact gw_rZ dJ0_isLatin1_aae02_18 rfl (by decide) (by decide) (by decide) h
theorem t_len {r : Nat} {K : Int32 → Sg → Prop} (hx : Sx r) (h : K (slenI r) σ) : Con l mJ0_length_8abf5 [.inr r] σ (PI K) := by
  refine con_gw rfl (Nat.le_of_ble_eq_true rfl) ?_
  show GW l mJ0_length_8abf5 0 [(0, .inr r)] [] σ 0 0 (PI K)
  refine gw_aload_n (q := 0) dJ0_length_8abf5_0 rfl rfl ?_
  refine gw_sval hx xfJ0_9 dJ0_length_8abf5_1 ?_
  refine gw_slen hx dJ0_length_8abf5_4 ?_
  refine gw_aload_n (q := 0) dJ0_length_8abf5_5 rfl rfl ?_
  refine gw_strC (g := mJ0_coder_7d493) (bs := []) (st := [.inl (slenI r)]) mbJ0_coder_7d493 imJ0_coder_7d493 seJ0_coder_7d493 rfl (by decide) lJ0_335 dJ0_length_8abf5_6 ⟨by decide, rfl, rfl, by decide, by decide⟩ (Nat.le_of_ble_eq_true rfl) rfl rfl hx (t_coder hx (K := fun x τ => x = 0 ∧ τ = σ) ⟨rfl, rfl⟩) (kI (fun x σ1 hh n1 => ?_))
  obtain ⟨rfl, rfl⟩ := hh
  refine gw_ishr dJ0_length_8abf5_9 ?_
  have hs : slenI r >>> ((0 : Int32) &&& 31) = slenI r := sb_shr0 _
  rw [hs]
  exact gw_rI dJ0_length_8abf5_10 rfl (by decide) (by decide) h
theorem t_ck3 {i n : Int32} {r : Nat} {K : Int32 → Sg → Prop} (h0 : ¬ i < 0) (h1 : i < n) (h : K i σ) : Con l mJ3_checkIndex_8e157 [.inl i, .inl n, .inr r] σ (PI K) := by
  refine con_gw rfl (Nat.le_of_ble_eq_true rfl) ?_
  show GW l mJ3_checkIndex_8e157 0 [(0, .inl i), (1, .inl n), (2, .inr r)] [] σ 0 0 (PI K)
  refine gw_iload_n (q := 0) dJ3_checkIndex_8e157_0 rfl rfl ?_
  refine gw_if_lt (tgt := 9) dJ3_checkIndex_8e157_1 (by decide) (fun c => absurd c h0) (fun c => ?_)
  refine gw_iload_n (q := 0) dJ3_checkIndex_8e157_4 rfl rfl ?_
  refine gw_iload_n (q := 1) dJ3_checkIndex_8e157_5 rfl rfl ?_
  refine gw_icmp_lt (tgt := 16) dJ3_checkIndex_8e157_6 (by decide) (fun c => ?_) (fun c => absurd h1 c)
  refine gw_iload_n (q := 0) dJ3_checkIndex_8e157_16 rfl rfl ?_
  exact gw_rI dJ3_checkIndex_8e157_17 rfl (by decide) (by decide) h
theorem t_ck {i n : Int32} {K : Sg → Prop} (h0 : ¬ i < 0) (h1 : i < n) (h : K σ) : Con l mJ0_checkIndex_df160 [.inl i, .inl n] σ (PV K) := by
  refine con_gw rfl (Nat.le_of_ble_eq_true rfl) ?_
  show GW l mJ0_checkIndex_df160 0 [(0, .inl i), (1, .inl n)] [] σ 0 0 (PV K)
  refine gw_iload_n (q := 0) dJ0_checkIndex_df160_0 rfl rfl ?_
  refine gw_iload_n (q := 1) dJ0_checkIndex_df160_1 rfl rfl ?_
  refine gw_ssi xfJ0_1053 dJ0_checkIndex_df160_2 (fun r => ?_)
  refine gw_sC (bs := [.inl i, .inl n, .inr r]) (st := []) smJ3_checkIndex_8e157 lJ0_1059 dJ0_checkIndex_df160_5 ⟨by decide, rfl, rfl, by decide, by decide⟩ (Nat.le_of_ble_eq_true rfl) rfl rfl (t_ck3 h0 h1 (K := fun x τ => τ = σ) rfl) (kI (fun x σ1 hh n1 => ?_))
  subst hh
  refine gw_pop dJ0_checkIndex_df160_8 ?_
  exact gw_rV dJ0_checkIndex_df160_9 rfl (by decide) (by decide) h
theorem sc_in {r : Nat} {i : Int32} (hx : Sc r i) : ¬ i < 0 ∧ i < slenI r := by
  obtain ⟨hs, hv⟩ := hx
  have hl : slen.getD (six r) 0 < 2 ^ 31 := by
    have : six r < 10 := six_lt hs
    generalize six r = q at this
    match q, this with
    | 0, _ | 1, _ | 2, _ | 3, _ | 4, _ | 5, _ | 6, _ | 7, _ | 8, _ | 9, _ => decide
  obtain ⟨j, hj, rfl⟩ := vp_in_of hv hl
  exact ⟨nI_pos (by omega), nI_lt hj hl⟩
theorem chr_all : ∀ q, q < 10 → ∀ b ∈ sbyt.getD q [], narrow .char (.int b) = .int b ∧ ((b &&& 255).toUInt32 % 65536).toInt32 = b := by decide +kernel
theorem t_ch1 {r : Nat} {i : Int32} {K : Int32 → Sg → Prop} (hx : Sc r i) (hb : schr r i ∈ sbyt.getD (six r) []) (h : K (schr r i) σ) : Con l mJ1_charAt_3b067 [.inr (r + 100000), .inl i] σ (PI K) := by
  have hq := chr_all (six r) (six_lt hx.1) _ hb
  refine con_gw rfl (Nat.le_of_ble_eq_true rfl) ?_
  show GW l mJ1_charAt_3b067 0 [(0, .inr (r + 100000)), (1, .inl i)] [] σ 0 0 (PI K)
  refine gw_iload_n (q := 1) dJ1_charAt_3b067_0 rfl rfl ?_
  refine gw_aload_n (q := 0) dJ1_charAt_3b067_1 rfl rfl ?_
  refine gw_slen hx.1 dJ1_charAt_3b067_2 ?_
  refine gw_sC (bs := [.inl i, .inl (slenI r)]) (st := []) smJ0_checkIndex_df160 lJ1_9 dJ1_charAt_3b067_3 ⟨by decide, rfl, rfl, by decide, by decide⟩ (Nat.le_of_ble_eq_true rfl) rfl rfl (t_ck (sc_in hx).1 (sc_in hx).2 (K := fun τ => τ = σ) rfl) (kV (fun σ1 hh n1 => ?_))
  subst hh
  refine gw_aload_n (q := 0) dJ1_charAt_3b067_6 rfl rfl ?_
  refine gw_iload_n (q := 1) dJ1_charAt_3b067_7 rfl rfl ?_
  refine gw_sbyt hx dJ1_charAt_3b067_8 ?_
  refine gw_sipush (v := 255) dJ1_charAt_3b067_9 (by decide) ?_
  refine gw_iand dJ1_charAt_3b067_12 ?_
  refine gw_i2c dJ1_charAt_3b067_13 ?_
  rw [hq.2]
  exact gw_iret .char dJ1_charAt_3b067_14 rfl hq.1 (by decide) (by decide) ⟨_, rfl, h⟩
theorem sc_mem {r : Nat} {i : Int32} (hx : Sc r i) : schr r i ∈ sbyt.getD (six r) [] := by
  obtain ⟨hs, hv⟩ := hx
  have hq : six r < 10 := six_lt hs
  unfold schr
  generalize six r = q at hq hv
  have hl : slen.getD q 0 < 2 ^ 31 ∧ (sbyt.getD q []).length = slen.getD q 0 := by
    match q, hq with
    | 0, _ | 1, _ | 2, _ | 3, _ | 4, _ | 5, _ | 6, _ | 7, _ | 8, _ | 9, _ => decide
  obtain ⟨j, hj, rfl⟩ := vp_in_of hv hl.1
  rw [nI_clamp (by omega)]
  have hj2 : j < (sbyt.getD q []).length := by omega
  clear hv hl hq
  generalize sbyt.getD q [] = bs at hj2 ⊢
  rw [List.getD_eq_getElem?_getD, List.getElem?_eq_getElem hj2]
  exact List.getElem_mem hj2
theorem t_ch {r : Nat} {i : Int32} {K : Int32 → Sg → Prop} (hx : Sc r i) (h : K (schr r i) σ) : Con l mJ0_charAt_5068e [.inr r, .inl i] σ (PI K) := by
  have hq := chr_all (six r) (six_lt hx.1) _ (sc_mem hx)
  refine con_gw rfl (Nat.le_of_ble_eq_true rfl) ?_
  show GW l mJ0_charAt_5068e 0 [(0, .inr r), (1, .inl i)] [] σ 0 0 (PI K)
  refine gw_aload_n (q := 0) dJ0_charAt_5068e_0 rfl rfl ?_
  refine gw_strC (g := mJ0_isLatin1_aae02) (bs := []) (st := []) mbJ0_isLatin1_aae02 imJ0_isLatin1_aae02 seJ0_isLatin1_aae02 rfl (by decide) lJ0_492 dJ0_charAt_5068e_1 ⟨by decide, rfl, rfl, by decide, by decide⟩ (Nat.le_of_ble_eq_true rfl) rfl rfl hx.1 (t_isL hx.1 (K := fun x τ => x = 1 ∧ τ = σ) ⟨rfl, rfl⟩) (kI (fun x σ1 hh n1 => ?_))
  obtain ⟨rfl, rfl⟩ := hh
  refine gw_if_eq (tgt := 16) dJ0_charAt_5068e_4 (by decide) (fun c => absurd c (by decide)) (fun c => ?_)
  refine gw_aload_n (q := 0) dJ0_charAt_5068e_7 rfl rfl ?_
  refine gw_sval hx.1 xfJ0_9 dJ0_charAt_5068e_8 ?_
  refine gw_iload_n (q := 1) dJ0_charAt_5068e_11 rfl rfl ?_
  refine gw_sC (bs := [.inr (r + 100000), .inl i]) (st := []) smJ1_charAt_3b067 lJ0_495 dJ0_charAt_5068e_12 ⟨by decide, rfl, rfl, by decide, by decide⟩ (Nat.le_of_ble_eq_true rfl) rfl rfl (t_ch1 hx (sc_mem hx) (K := fun x τ => x = schr r i ∧ τ = σ1) ⟨rfl, rfl⟩) (kI (fun x σ2 hh n1 => ?_))
  rw [hh.1, hh.2]
  exact gw_iret .char dJ0_charAt_5068e_15 rfl hq.1 (by decide) (by decide) ⟨_, rfl, h⟩
end JS
section JW
variable {l : Launch} {M : Mth} {pc : Nat} {lo : List (Nat × Av)} {st : List Av} {σ : Sg} {kc ks : Nat} {Φ : Option Av → Sg → Prop}
theorem gw_strlen {idx r : Nat} (hl : MLy M.y.cls idx yJ0_length_8abf5) (hd : decode M.cc pc = .ok (.invokevirtual idx, 3)) (hR : 4 ≤ M.dp ∧ kc ≤ M.mc ∧ ks ≤ M.ms) (hst : st.length ≤ 8) (hx : Sx r) (k : GW l M (pc + 3) lo (.inl (slenI r) :: st) σ kc ks Φ) : GW l M pc lo (.inr r :: st) σ kc ks Φ := by
  refine gw_strC (g := mJ0_length_8abf5) (bs := []) (st := st) mbJ0_length_8abf5 imJ0_length_8abf5 seJ0_length_8abf5 rfl (by decide) hl hd ⟨hR.1, rfl, rfl, hR.2.1, hR.2.2⟩ hst rfl rfl hx (t_len hx (K := fun x τ => x = slenI r ∧ τ = σ) ⟨rfl, rfl⟩) (kI (fun x σ1 hh n1 => ?_))
  rw [hh.1, hh.2]
  exact k
theorem gw_charAt {idx r : Nat} {i : Int32} (hl : MLy M.y.cls idx yJ0_charAt_5068e) (hd : decode M.cc pc = .ok (.invokevirtual idx, 3)) (hR : 6 ≤ M.dp ∧ kc ≤ M.mc ∧ ks ≤ M.ms) (hst : st.length ≤ 8) (hx : Sc r i) (k : GW l M (pc + 3) lo (.inl (schr r i) :: st) σ kc ks Φ) : GW l M pc lo (.inl i :: .inr r :: st) σ kc ks Φ := by
  refine gw_strC (g := mJ0_charAt_5068e) (bs := [.inl i]) (st := st) mbJ0_charAt_5068e imJ0_charAt_5068e seJ0_charAt_5068e rfl (by decide) hl hd ⟨hR.1, rfl, rfl, hR.2.1, hR.2.2⟩ hst rfl rfl hx.1 (t_ch hx (K := fun x τ => x = schr r i ∧ τ = σ) ⟨rfl, rfl⟩) (kI (fun x σ1 hh n1 => ?_))
  rw [hh.1, hh.2]
  exact k
end JW

