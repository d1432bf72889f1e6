set_option maxHeartbeats 4000000 in
set_option maxRecDepth 20000 in
theorem eJ6_bitCount_0f7a4 {l : Launch} {v0 : Int32} {σ : Sg} {K : Int32 → Sg → Prop} (h : K ((((((((v0 - ((ushr v0 1) &&& 1431655765)) &&& 858993459) + ((ushr (v0 - ((ushr v0 1) &&& 1431655765)) 2) &&& 858993459)) + (ushr (((v0 - ((ushr v0 1) &&& 1431655765)) &&& 858993459) + ((ushr (v0 - ((ushr v0 1) &&& 1431655765)) 2) &&& 858993459)) 4)) &&& 252645135) + (ushr (((((v0 - ((ushr v0 1) &&& 1431655765)) &&& 858993459) + ((ushr (v0 - ((ushr v0 1) &&& 1431655765)) 2) &&& 858993459)) + (ushr (((v0 - ((ushr v0 1) &&& 1431655765)) &&& 858993459) + ((ushr (v0 - ((ushr v0 1) &&& 1431655765)) 2) &&& 858993459)) 4)) &&& 252645135) 8)) + (ushr ((((((v0 - ((ushr v0 1) &&& 1431655765)) &&& 858993459) + ((ushr (v0 - ((ushr v0 1) &&& 1431655765)) 2) &&& 858993459)) + (ushr (((v0 - ((ushr v0 1) &&& 1431655765)) &&& 858993459) + ((ushr (v0 - ((ushr v0 1) &&& 1431655765)) 2) &&& 858993459)) 4)) &&& 252645135) + (ushr (((((v0 - ((ushr v0 1) &&& 1431655765)) &&& 858993459) + ((ushr (v0 - ((ushr v0 1) &&& 1431655765)) 2) &&& 858993459)) + (ushr (((v0 - ((ushr v0 1) &&& 1431655765)) &&& 858993459) + ((ushr (v0 - ((ushr v0 1) &&& 1431655765)) 2) &&& 858993459)) 4)) &&& 252645135) 8)) 16)) &&& 63) σ) : Con l mJ6_bitCount_0f7a4 [.inl v0] σ (PI K) := by
  refine con_gw rfl (Nat.le_of_ble_eq_true rfl) ?_
  show GW l mJ6_bitCount_0f7a4 0 [(0, .inl v0)] [] σ 0 0 (PI K)
  refine gw_iload_n (q := 0) dJ6_bitCount_0f7a4_0 rfl rfl ?_
  refine gw_iload_n (q := 0) dJ6_bitCount_0f7a4_1 rfl rfl ?_
  refine gw_iconst (v := 1) dJ6_bitCount_0f7a4_2 ic_1 ?_
  refine gw_iushr dJ6_bitCount_0f7a4_3 ?_
  refine gw_ldcw (v := 1431655765) kJ6_265 dJ6_bitCount_0f7a4_4 ?_
  refine gw_iand dJ6_bitCount_0f7a4_7 ?_
  refine gw_isub dJ6_bitCount_0f7a4_8 ?_
  refine gw_istore_n (lo' := [(0, .inl (v0 - ((ushr v0 1) &&& 1431655765)))]) dJ6_bitCount_0f7a4_9 rfl (by decide) rfl ?_
  refine gw_iload_n (q := 0) dJ6_bitCount_0f7a4_10 rfl rfl ?_
  refine gw_ldcw (v := 858993459) kJ6_266 dJ6_bitCount_0f7a4_11 ?_
  refine gw_iand dJ6_bitCount_0f7a4_14 ?_
  refine gw_iload_n (q := 0) dJ6_bitCount_0f7a4_15 rfl rfl ?_
  refine gw_iconst (v := 2) dJ6_bitCount_0f7a4_16 ic_2 ?_
  refine gw_iushr dJ6_bitCount_0f7a4_17 ?_
  refine gw_ldcw (v := 858993459) kJ6_266 dJ6_bitCount_0f7a4_18 ?_
  refine gw_iand dJ6_bitCount_0f7a4_21 ?_
  refine gw_iadd dJ6_bitCount_0f7a4_22 ?_
  refine gw_istore_n (lo' := [(0, .inl (((v0 - ((ushr v0 1) &&& 1431655765)) &&& 858993459) + ((ushr (v0 - ((ushr v0 1) &&& 1431655765)) 2) &&& 858993459)))]) dJ6_bitCount_0f7a4_23 rfl (by decide) rfl ?_
  refine gw_iload_n (q := 0) dJ6_bitCount_0f7a4_24 rfl rfl ?_
  refine gw_iload_n (q := 0) dJ6_bitCount_0f7a4_25 rfl rfl ?_
  refine gw_iconst (v := 4) dJ6_bitCount_0f7a4_26 ic_4 ?_
  refine gw_iushr dJ6_bitCount_0f7a4_27 ?_
  refine gw_iadd dJ6_bitCount_0f7a4_28 ?_
  refine gw_ldcw (v := 252645135) kJ6_267 dJ6_bitCount_0f7a4_29 ?_
  refine gw_iand dJ6_bitCount_0f7a4_32 ?_
  refine gw_istore_n (lo' := [(0, .inl (((((v0 - ((ushr v0 1) &&& 1431655765)) &&& 858993459) + ((ushr (v0 - ((ushr v0 1) &&& 1431655765)) 2) &&& 858993459)) + (ushr (((v0 - ((ushr v0 1) &&& 1431655765)) &&& 858993459) + ((ushr (v0 - ((ushr v0 1) &&& 1431655765)) 2) &&& 858993459)) 4)) &&& 252645135))]) dJ6_bitCount_0f7a4_33 rfl (by decide) rfl ?_
  refine gw_iload_n (q := 0) dJ6_bitCount_0f7a4_34 rfl rfl ?_
  refine gw_iload_n (q := 0) dJ6_bitCount_0f7a4_35 rfl rfl ?_
  refine gw_bipush (v := 8) dJ6_bitCount_0f7a4_36 bp_8 ?_
  refine gw_iushr dJ6_bitCount_0f7a4_38 ?_
  refine gw_iadd dJ6_bitCount_0f7a4_39 ?_
  refine gw_istore_n (lo' := [(0, .inl ((((((v0 - ((ushr v0 1) &&& 1431655765)) &&& 858993459) + ((ushr (v0 - ((ushr v0 1) &&& 1431655765)) 2) &&& 858993459)) + (ushr (((v0 - ((ushr v0 1) &&& 1431655765)) &&& 858993459) + ((ushr (v0 - ((ushr v0 1) &&& 1431655765)) 2) &&& 858993459)) 4)) &&& 252645135) + (ushr (((((v0 - ((ushr v0 1) &&& 1431655765)) &&& 858993459) + ((ushr (v0 - ((ushr v0 1) &&& 1431655765)) 2) &&& 858993459)) + (ushr (((v0 - ((ushr v0 1) &&& 1431655765)) &&& 858993459) + ((ushr (v0 - ((ushr v0 1) &&& 1431655765)) 2) &&& 858993459)) 4)) &&& 252645135) 8)))]) dJ6_bitCount_0f7a4_40 rfl (by decide) rfl ?_
  refine gw_iload_n (q := 0) dJ6_bitCount_0f7a4_41 rfl rfl ?_
  refine gw_iload_n (q := 0) dJ6_bitCount_0f7a4_42 rfl rfl ?_
  refine gw_bipush (v := 16) dJ6_bitCount_0f7a4_43 bp_16 ?_
  refine gw_iushr dJ6_bitCount_0f7a4_45 ?_
  refine gw_iadd dJ6_bitCount_0f7a4_46 ?_
  refine gw_istore_n (lo' := [(0, .inl (((((((v0 - ((ushr v0 1) &&& 1431655765)) &&& 858993459) + ((ushr (v0 - ((ushr v0 1) &&& 1431655765)) 2) &&& 858993459)) + (ushr (((v0 - ((ushr v0 1) &&& 1431655765)) &&& 858993459) + ((ushr (v0 - ((ushr v0 1) &&& 1431655765)) 2) &&& 858993459)) 4)) &&& 252645135) + (ushr (((((v0 - ((ushr v0 1) &&& 1431655765)) &&& 858993459) + ((ushr (v0 - ((ushr v0 1) &&& 1431655765)) 2) &&& 858993459)) + (ushr (((v0 - ((ushr v0 1) &&& 1431655765)) &&& 858993459) + ((ushr (v0 - ((ushr v0 1) &&& 1431655765)) 2) &&& 858993459)) 4)) &&& 252645135) 8)) + (ushr ((((((v0 - ((ushr v0 1) &&& 1431655765)) &&& 858993459) + ((ushr (v0 - ((ushr v0 1) &&& 1431655765)) 2) &&& 858993459)) + (ushr (((v0 - ((ushr v0 1) &&& 1431655765)) &&& 858993459) + ((ushr (v0 - ((ushr v0 1) &&& 1431655765)) 2) &&& 858993459)) 4)) &&& 252645135) + (ushr (((((v0 - ((ushr v0 1) &&& 1431655765)) &&& 858993459) + ((ushr (v0 - ((ushr v0 1) &&& 1431655765)) 2) &&& 858993459)) + (ushr (((v0 - ((ushr v0 1) &&& 1431655765)) &&& 858993459) + ((ushr (v0 - ((ushr v0 1) &&& 1431655765)) 2) &&& 858993459)) 4)) &&& 252645135) 8)) 16)))]) dJ6_bitCount_0f7a4_47 rfl (by decide) rfl ?_
  refine gw_iload_n (q := 0) dJ6_bitCount_0f7a4_48 rfl rfl ?_
  refine gw_bipush (v := 63) dJ6_bitCount_0f7a4_49 bp_63 ?_
  refine gw_iand dJ6_bitCount_0f7a4_51 ?_
  exact gw_rI dJ6_bitCount_0f7a4_52 rfl (by decide) (by decide) h
