/-! the law's cases -/
abbrev mL_law : Mth := (yL_law, cL_law, 7, (some .boolean), 1000, 601024, 7293034)
def LO (i : Nat) : List (Nat × Av) := [(0, .inr 3000000), (1, .inr 1), (2, .inr 82), (3, .inr 119), (4, .inl (I i))]
section LAW
variable {l : Launch} {sL : Nat} {sx : Nat → Int32} {σ : Sg} {v : Vt} {c i kc ks : Nat} {Φ : Option Av → Sg → Prop}
theorem skI {M : Mth} {pc : Nat} {lo : List (Nat × Av)} {st : List Av} {K : Int32 → Sg → Prop} {kc' ks' : Nat} (h : ∀ x σ', K x σ' → σ.1 ≤ σ'.1 → SW sL sx l M pc lo (.inl x :: st) σ' kc' ks' Φ) : ∀ q σ', PI K q σ' → σ.1 ≤ σ'.1 → SW sL sx l M pc lo (q.toList ++ st) σ' kc' ks' Φ := by
  intro q σ' ⟨x, hq, hk⟩ hm
  subst hq
  exact h x σ' hk hm
/-- the j-th place behind i -/
def sa (sx : Nat → Int32) (i j : Nat) : Int32 := sx (i + j)
theorem sw_arg {st : List Av} {pc j : Nat} (d1 : decode cL_law pc = .ok (.aload_n 0, 1)) (d2 : decode cL_law (pc + 1) = .ok (.iload 4, 2)) (d3 : decode cL_law (pc + 3) = .ok (.iconst j, 1)) (d4 : decode cL_law (pc + 4) = .ok (.iadd, 1)) (d5 : decode cL_law (pc + 5) = .ok (.iaload, 1)) (hi : i + 6 ≤ sL) (hL : sL ≤ 3072) (hj : j ≤ 5) (k : SW sL sx l mL_law (pc + 6) (LO i) (.inl (sa sx i j) :: st) σ kc ks Φ) : SW sL sx l mL_law pc (LO i) st σ kc ks Φ := by
  refine sw_aload_n (q := 0) d1 rfl rfl ?_
  refine sw_iload (q := 4) d2 rfl ?_
  refine sw_iconst (v := I j) d3 rfl ?_
  refine sw_iadd d4 ?_
  rw [I_add, show (i : Int) + (j : Int) = ((i + j : Nat) : Int) by omega]
  refine sw_ld d5 ((I_in ⟨by omega, by omega⟩).mpr ⟨by omega, by omega⟩) ?_
  rw [I_cln (by omega)]
  exact k
theorem c_feed (h : Bo c σ v) (hc : c + 1 ≤ 512) (hi : i + 6 ≤ sL) (hL : sL ≤ 3072) (hk : kc ≤ 601024 ∧ ks ≤ 7293034) (kk : ∀ σ' v', Bo (c + 1) σ' v' → σ.1 ≤ σ'.1 → SW sL sx l mL_law 1374 (LO i) [] σ' kc ks Φ) : SW sL sx l mL_law 164 (LO i) [] σ kc ks Φ := by
  refine sw_aload_n (q := 1) dL_law_164 rfl rfl ?_
  refine sw_arg (j := 1) dL_law_165 dL_law_166 dL_law_168 dL_law_169 dL_law_170 hi hL (by decide) ?_
  refine sw_arg (j := 2) dL_law_171 dL_law_172 dL_law_174 dL_law_175 dL_law_176 hi hL (by decide) ?_
  refine sw_arg (j := 3) dL_law_177 dL_law_178 dL_law_180 dL_law_181 dL_law_182 hi hL (by decide) ?_
  refine sw_arg (j := 4) dL_law_183 dL_law_184 dL_law_186 dL_law_187 dL_law_188 hi hL (by decide) ?_
  refine sw_arg (j := 5) dL_law_189 dL_law_190 dL_law_192 dL_law_193 dL_law_194 hi hL (by decide) ?_
  refine sw_vC (bs := [.inl (sa sx i 1), .inl (sa sx i 2), .inl (sa sx i 3), .inl (sa sx i 4), .inl (sa sx i 5)]) (st := []) vmX11_feed lL_21 dL_law_195 ⟨by decide, rfl, rfl, hk.1, hk.2⟩ (by decide) rfl rfl h.1.1.o1 (S_feed h hc (sa sx i 1) (sa sx i 2) (sa sx i 3) (sa sx i 4) (sa sx i 5)) (skI (fun x σ1 h1 n1 => ?_))
  refine sw_aload_n (q := 2) dL_law_198 rfl rfl ?_
  refine sw_arg (j := 1) dL_law_199 dL_law_200 dL_law_202 dL_law_203 dL_law_204 hi hL (by decide) ?_
  refine sw_arg (j := 2) dL_law_205 dL_law_206 dL_law_208 dL_law_209 dL_law_210 hi hL (by decide) ?_
  refine sw_arg (j := 3) dL_law_211 dL_law_212 dL_law_214 dL_law_215 dL_law_216 hi hL (by decide) ?_
  refine sw_arg (j := 4) dL_law_217 dL_law_218 dL_law_220 dL_law_221 dL_law_222 hi hL (by decide) ?_
  refine sw_arg (j := 5) dL_law_223 dL_law_224 dL_law_226 dL_law_227 dL_law_228 hi hL (by decide) ?_
  refine sw_vC (bs := [.inl (sa sx i 1), .inl (sa sx i 2), .inl (sa sx i 3), .inl (sa sx i 4), .inl (sa sx i 5)]) (st := [.inl x]) vmX12_feed lL_25 dL_law_229 ⟨by decide, rfl, rfl, hk.1, hk.2⟩ (Nat.le_of_ble_eq_true rfl) rfl rfl (h.2.1.1.ob.up n1) h1 (skI (fun y σ2 ⟨e2, v2, h2⟩ n2 => ?_))
  exact sw_icmp_eq (tgt := 1374) dL_law_232 (by decide) (fun _ => kk σ2 v2 h2 (Nat.le_trans n1 n2)) (fun q => absurd e2 q)
theorem c_make (h : Bo c σ v) (hc : c + 1 ≤ 512) (hi : i + 6 ≤ sL) (hL : sL ≤ 3072) (hk : kc ≤ 601024 ∧ ks ≤ 7293034) (kk : ∀ σ' v', Bo (c + 1) σ' v' → σ.1 ≤ σ'.1 → SW sL sx l mL_law 1374 (LO i) [] σ' kc ks Φ) : SW sL sx l mL_law 237 (LO i) [] σ kc ks Φ := by
  refine sw_aload_n (q := 1) dL_law_237 rfl rfl ?_
  refine sw_arg (j := 1) dL_law_238 dL_law_239 dL_law_241 dL_law_242 dL_law_243 hi hL (by decide) ?_
  refine sw_vC (bs := [.inl (sa sx i 1)]) (st := []) vmX11_make lL_26 dL_law_244 ⟨by decide, rfl, rfl, hk.1, hk.2⟩ (by decide) rfl rfl h.1.1.o1 (S_make h hc (sa sx i 1)) (skI (fun x σ1 h1 n1 => ?_))
  refine sw_aload_n (q := 2) dL_law_247 rfl rfl ?_
  refine sw_arg (j := 1) dL_law_248 dL_law_249 dL_law_251 dL_law_252 dL_law_253 hi hL (by decide) ?_
  refine sw_vC (bs := [.inl (sa sx i 1)]) (st := [.inl x]) vmX12_make lL_30 dL_law_254 ⟨by decide, rfl, rfl, hk.1, hk.2⟩ (Nat.le_of_ble_eq_true rfl) rfl rfl (h.2.1.1.ob.up n1) h1 (skI (fun y σ2 ⟨e2, v2, h2⟩ n2 => ?_))
  exact sw_icmp_eq (tgt := 1374) dL_law_257 (by decide) (fun _ => kk σ2 v2 h2 (Nat.le_trans n1 n2)) (fun q => absurd e2 q)
theorem c_fault (h : Bo c σ v) (hc : c + 1 ≤ 512) (hi : i + 6 ≤ sL) (hL : sL ≤ 3072) (hk : kc ≤ 601024 ∧ ks ≤ 7293034) (kk : ∀ σ' v', Bo (c + 1) σ' v' → σ.1 ≤ σ'.1 → SW sL sx l mL_law 1374 (LO i) [] σ' kc ks Φ) : SW sL sx l mL_law 262 (LO i) [] σ kc ks Φ := by
  refine sw_aload_n (q := 1) dL_law_262 rfl rfl ?_
  refine sw_arg (j := 1) dL_law_263 dL_law_264 dL_law_266 dL_law_267 dL_law_268 hi hL (by decide) ?_
  refine sw_vC (bs := [.inl (sa sx i 1)]) (st := []) vmX11_fault lL_31 dL_law_269 ⟨by decide, rfl, rfl, hk.1, hk.2⟩ (by decide) rfl rfl h.1.1.o1 (S_fault h hc (sa sx i 1)) (skI (fun x σ1 h1 n1 => ?_))
  refine sw_aload_n (q := 2) dL_law_272 rfl rfl ?_
  refine sw_arg (j := 1) dL_law_273 dL_law_274 dL_law_276 dL_law_277 dL_law_278 hi hL (by decide) ?_
  refine sw_vC (bs := [.inl (sa sx i 1)]) (st := [.inl x]) vmX12_fault lL_34 dL_law_279 ⟨by decide, rfl, rfl, hk.1, hk.2⟩ (Nat.le_of_ble_eq_true rfl) rfl rfl (h.2.1.1.ob.up n1) h1 (skI (fun y σ2 ⟨e2, v2, h2⟩ n2 => ?_))
  exact sw_icmp_eq (tgt := 1374) dL_law_282 (by decide) (fun _ => kk σ2 v2 h2 (Nat.le_trans n1 n2)) (fun q => absurd e2 q)
theorem c_arm (h : Bo c σ v) (hc : c + 1 ≤ 512) (hi : i + 6 ≤ sL) (hL : sL ≤ 3072) (hk : kc ≤ 601024 ∧ ks ≤ 7293034) (kk : ∀ σ' v', Bo (c + 1) σ' v' → σ.1 ≤ σ'.1 → SW sL sx l mL_law 1374 (LO i) [] σ' kc ks Φ) : SW sL sx l mL_law 287 (LO i) [] σ kc ks Φ := by
  refine sw_aload_n (q := 1) dL_law_287 rfl rfl ?_
  refine sw_arg (j := 1) dL_law_288 dL_law_289 dL_law_291 dL_law_292 dL_law_293 hi hL (by decide) ?_
  refine sw_arg (j := 2) dL_law_294 dL_law_295 dL_law_297 dL_law_298 dL_law_299 hi hL (by decide) ?_
  refine sw_vC (bs := [.inl (sa sx i 1), .inl (sa sx i 2)]) (st := []) vmX11_arm lL_35 dL_law_300 ⟨by decide, rfl, rfl, hk.1, hk.2⟩ (by decide) rfl rfl h.1.1.o1 (S_arm h hc (sa sx i 1) (sa sx i 2)) (skI (fun x σ1 h1 n1 => ?_))
  refine sw_aload_n (q := 2) dL_law_303 rfl rfl ?_
  refine sw_arg (j := 1) dL_law_304 dL_law_305 dL_law_307 dL_law_308 dL_law_309 hi hL (by decide) ?_
  refine sw_arg (j := 2) dL_law_310 dL_law_311 dL_law_313 dL_law_314 dL_law_315 hi hL (by decide) ?_
  refine sw_vC (bs := [.inl (sa sx i 1), .inl (sa sx i 2)]) (st := [.inl x]) vmX12_arm lL_39 dL_law_316 ⟨by decide, rfl, rfl, hk.1, hk.2⟩ (Nat.le_of_ble_eq_true rfl) rfl rfl (h.2.1.1.ob.up n1) h1 (skI (fun y σ2 ⟨e2, v2, h2⟩ n2 => ?_))
  exact sw_icmp_eq (tgt := 1374) dL_law_319 (by decide) (fun _ => kk σ2 v2 h2 (Nat.le_trans n1 n2)) (fun q => absurd e2 q)
theorem c_joint (h : Bo c σ v) (hc : c + 1 ≤ 512) (hi : i + 6 ≤ sL) (hL : sL ≤ 3072) (hk : kc ≤ 601024 ∧ ks ≤ 7293034) (kk : ∀ σ' v', Bo (c + 1) σ' v' → σ.1 ≤ σ'.1 → SW sL sx l mL_law 1374 (LO i) [] σ' kc ks Φ) : SW sL sx l mL_law 324 (LO i) [] σ kc ks Φ := by
  refine sw_aload_n (q := 1) dL_law_324 rfl rfl ?_
  refine sw_arg (j := 1) dL_law_325 dL_law_326 dL_law_328 dL_law_329 dL_law_330 hi hL (by decide) ?_
  refine sw_arg (j := 2) dL_law_331 dL_law_332 dL_law_334 dL_law_335 dL_law_336 hi hL (by decide) ?_
  refine sw_arg (j := 3) dL_law_337 dL_law_338 dL_law_340 dL_law_341 dL_law_342 hi hL (by decide) ?_
  refine sw_arg (j := 4) dL_law_343 dL_law_344 dL_law_346 dL_law_347 dL_law_348 hi hL (by decide) ?_
  refine sw_arg (j := 5) dL_law_349 dL_law_350 dL_law_352 dL_law_353 dL_law_354 hi hL (by decide) ?_
  refine sw_vC (bs := [.inl (sa sx i 1), .inl (sa sx i 2), .inl (sa sx i 3), .inl (sa sx i 4), .inl (sa sx i 5)]) (st := []) vmX11_joint lL_40 dL_law_355 ⟨by decide, rfl, rfl, hk.1, hk.2⟩ (by decide) rfl rfl h.1.1.o1 (S_joint h hc (sa sx i 1) (sa sx i 2) (sa sx i 3) (sa sx i 4) (sa sx i 5)) (skI (fun x σ1 h1 n1 => ?_))
  refine sw_aload_n (q := 2) dL_law_358 rfl rfl ?_
  refine sw_arg (j := 1) dL_law_359 dL_law_360 dL_law_362 dL_law_363 dL_law_364 hi hL (by decide) ?_
  refine sw_arg (j := 2) dL_law_365 dL_law_366 dL_law_368 dL_law_369 dL_law_370 hi hL (by decide) ?_
  refine sw_arg (j := 3) dL_law_371 dL_law_372 dL_law_374 dL_law_375 dL_law_376 hi hL (by decide) ?_
  refine sw_arg (j := 4) dL_law_377 dL_law_378 dL_law_380 dL_law_381 dL_law_382 hi hL (by decide) ?_
  refine sw_arg (j := 5) dL_law_383 dL_law_384 dL_law_386 dL_law_387 dL_law_388 hi hL (by decide) ?_
  refine sw_vC (bs := [.inl (sa sx i 1), .inl (sa sx i 2), .inl (sa sx i 3), .inl (sa sx i 4), .inl (sa sx i 5)]) (st := [.inl x]) vmX12_joint lL_43 dL_law_389 ⟨by decide, rfl, rfl, hk.1, hk.2⟩ (Nat.le_of_ble_eq_true rfl) rfl rfl (h.2.1.1.ob.up n1) h1 (skI (fun y σ2 ⟨e2, v2, h2⟩ n2 => ?_))
  exact sw_icmp_eq (tgt := 1374) dL_law_392 (by decide) (fun _ => kk σ2 v2 h2 (Nat.le_trans n1 n2)) (fun q => absurd e2 q)
theorem c_point (h : Bo c σ v) (hc : c + 1 ≤ 512) (hi : i + 6 ≤ sL) (hL : sL ≤ 3072) (hk : kc ≤ 601024 ∧ ks ≤ 7293034) (kk : ∀ σ' v', Bo (c + 1) σ' v' → σ.1 ≤ σ'.1 → SW sL sx l mL_law 1374 (LO i) [] σ' kc ks Φ) : SW sL sx l mL_law 397 (LO i) [] σ kc ks Φ := by
  refine sw_aload_n (q := 1) dL_law_397 rfl rfl ?_
  refine sw_arg (j := 1) dL_law_398 dL_law_399 dL_law_401 dL_law_402 dL_law_403 hi hL (by decide) ?_
  refine sw_arg (j := 2) dL_law_404 dL_law_405 dL_law_407 dL_law_408 dL_law_409 hi hL (by decide) ?_
  refine sw_arg (j := 3) dL_law_410 dL_law_411 dL_law_413 dL_law_414 dL_law_415 hi hL (by decide) ?_
  refine sw_arg (j := 4) dL_law_416 dL_law_417 dL_law_419 dL_law_420 dL_law_421 hi hL (by decide) ?_
  refine sw_vC (bs := [.inl (sa sx i 1), .inl (sa sx i 2), .inl (sa sx i 3), .inl (sa sx i 4)]) (st := []) vmX11_point lL_44 dL_law_422 ⟨by decide, rfl, rfl, hk.1, hk.2⟩ (by decide) rfl rfl h.1.1.o1 (S_point h hc (sa sx i 1) (sa sx i 2) (sa sx i 3) (sa sx i 4)) (skI (fun x σ1 h1 n1 => ?_))
  refine sw_aload_n (q := 2) dL_law_425 rfl rfl ?_
  refine sw_arg (j := 1) dL_law_426 dL_law_427 dL_law_429 dL_law_430 dL_law_431 hi hL (by decide) ?_
  refine sw_arg (j := 2) dL_law_432 dL_law_433 dL_law_435 dL_law_436 dL_law_437 hi hL (by decide) ?_
  refine sw_arg (j := 3) dL_law_438 dL_law_439 dL_law_441 dL_law_442 dL_law_443 hi hL (by decide) ?_
  refine sw_arg (j := 4) dL_law_444 dL_law_445 dL_law_447 dL_law_448 dL_law_449 hi hL (by decide) ?_
  refine sw_vC (bs := [.inl (sa sx i 1), .inl (sa sx i 2), .inl (sa sx i 3), .inl (sa sx i 4)]) (st := [.inl x]) vmX12_point lL_48 dL_law_450 ⟨by decide, rfl, rfl, hk.1, hk.2⟩ (Nat.le_of_ble_eq_true rfl) rfl rfl (h.2.1.1.ob.up n1) h1 (skI (fun y σ2 ⟨e2, v2, h2⟩ n2 => ?_))
  exact sw_icmp_eq (tgt := 1374) dL_law_453 (by decide) (fun _ => kk σ2 v2 h2 (Nat.le_trans n1 n2)) (fun q => absurd e2 q)
theorem c_hop (h : Bo c σ v) (hc : c + 1 ≤ 512) (hi : i + 6 ≤ sL) (hL : sL ≤ 3072) (hk : kc ≤ 601024 ∧ ks ≤ 7293034) (kk : ∀ σ' v', Bo (c + 1) σ' v' → σ.1 ≤ σ'.1 → SW sL sx l mL_law 1374 (LO i) [] σ' kc ks Φ) : SW sL sx l mL_law 458 (LO i) [] σ kc ks Φ := by
  refine sw_aload_n (q := 1) dL_law_458 rfl rfl ?_
  refine sw_arg (j := 1) dL_law_459 dL_law_460 dL_law_462 dL_law_463 dL_law_464 hi hL (by decide) ?_
  refine sw_arg (j := 2) dL_law_465 dL_law_466 dL_law_468 dL_law_469 dL_law_470 hi hL (by decide) ?_
  refine sw_arg (j := 3) dL_law_471 dL_law_472 dL_law_474 dL_law_475 dL_law_476 hi hL (by decide) ?_
  refine sw_vC (bs := [.inl (sa sx i 1), .inl (sa sx i 2), .inl (sa sx i 3)]) (st := []) vmX11_hop lL_49 dL_law_477 ⟨by decide, rfl, rfl, hk.1, hk.2⟩ (by decide) rfl rfl h.1.1.o1 (S_hop h hc (sa sx i 1) (sa sx i 2) (sa sx i 3)) (skI (fun x σ1 h1 n1 => ?_))
  refine sw_aload_n (q := 2) dL_law_480 rfl rfl ?_
  refine sw_arg (j := 1) dL_law_481 dL_law_482 dL_law_484 dL_law_485 dL_law_486 hi hL (by decide) ?_
  refine sw_arg (j := 2) dL_law_487 dL_law_488 dL_law_490 dL_law_491 dL_law_492 hi hL (by decide) ?_
  refine sw_arg (j := 3) dL_law_493 dL_law_494 dL_law_496 dL_law_497 dL_law_498 hi hL (by decide) ?_
  refine sw_vC (bs := [.inl (sa sx i 1), .inl (sa sx i 2), .inl (sa sx i 3)]) (st := [.inl x]) vmX12_hop lL_52 dL_law_499 ⟨by decide, rfl, rfl, hk.1, hk.2⟩ (Nat.le_of_ble_eq_true rfl) rfl rfl (h.2.1.1.ob.up n1) h1 (skI (fun y σ2 ⟨e2, v2, h2⟩ n2 => ?_))
  exact sw_icmp_eq (tgt := 1374) dL_law_502 (by decide) (fun _ => kk σ2 v2 h2 (Nat.le_trans n1 n2)) (fun q => absurd e2 q)
theorem c_tape (h : Bo c σ v) (hc : c + 1 ≤ 512) (hi : i + 6 ≤ sL) (hL : sL ≤ 3072) (hk : kc ≤ 601024 ∧ ks ≤ 7293034) (kk : ∀ σ' v', Bo (c + 1) σ' v' → σ.1 ≤ σ'.1 → SW sL sx l mL_law 1374 (LO i) [] σ' kc ks Φ) : SW sL sx l mL_law 507 (LO i) [] σ kc ks Φ := by
  refine sw_aload_n (q := 1) dL_law_507 rfl rfl ?_
  refine sw_arg (j := 1) dL_law_508 dL_law_509 dL_law_511 dL_law_512 dL_law_513 hi hL (by decide) ?_
  refine sw_vC (bs := [.inl (sa sx i 1)]) (st := []) vmX11_tape lL_53 dL_law_514 ⟨by decide, rfl, rfl, hk.1, hk.2⟩ (by decide) rfl rfl h.1.1.o1 (S_tape h hc (sa sx i 1)) (skI (fun x σ1 h1 n1 => ?_))
  refine sw_aload_n (q := 2) dL_law_517 rfl rfl ?_
  refine sw_arg (j := 1) dL_law_518 dL_law_519 dL_law_521 dL_law_522 dL_law_523 hi hL (by decide) ?_
  refine sw_vC (bs := [.inl (sa sx i 1)]) (st := [.inl x]) vmX12_tape lL_56 dL_law_524 ⟨by decide, rfl, rfl, hk.1, hk.2⟩ (Nat.le_of_ble_eq_true rfl) rfl rfl (h.2.1.1.ob.up n1) h1 (skI (fun y σ2 ⟨e2, v2, h2⟩ n2 => ?_))
  exact sw_icmp_eq (tgt := 1374) dL_law_527 (by decide) (fun _ => kk σ2 v2 h2 (Nat.le_trans n1 n2)) (fun q => absurd e2 q)
theorem c_lead (h : Bo c σ v) (hc : c + 1 ≤ 512) (hi : i + 6 ≤ sL) (hL : sL ≤ 3072) (hk : kc ≤ 601024 ∧ ks ≤ 7293034) (kk : ∀ σ' v', Bo (c + 1) σ' v' → σ.1 ≤ σ'.1 → SW sL sx l mL_law 1374 (LO i) [] σ' kc ks Φ) : SW sL sx l mL_law 532 (LO i) [] σ kc ks Φ := by
  refine sw_aload_n (q := 1) dL_law_532 rfl rfl ?_
  refine sw_arg (j := 1) dL_law_533 dL_law_534 dL_law_536 dL_law_537 dL_law_538 hi hL (by decide) ?_
  refine sw_arg (j := 2) dL_law_539 dL_law_540 dL_law_542 dL_law_543 dL_law_544 hi hL (by decide) ?_
  refine sw_arg (j := 3) dL_law_545 dL_law_546 dL_law_548 dL_law_549 dL_law_550 hi hL (by decide) ?_
  refine sw_vC (bs := [.inl (sa sx i 1), .inl (sa sx i 2), .inl (sa sx i 3)]) (st := []) vmX11_lead lL_57 dL_law_551 ⟨by decide, rfl, rfl, hk.1, hk.2⟩ (by decide) rfl rfl h.1.1.o1 (S_lead h hc (sa sx i 1) (sa sx i 2) (sa sx i 3)) (skI (fun x σ1 h1 n1 => ?_))
  refine sw_aload_n (q := 2) dL_law_554 rfl rfl ?_
  refine sw_arg (j := 1) dL_law_555 dL_law_556 dL_law_558 dL_law_559 dL_law_560 hi hL (by decide) ?_
  refine sw_arg (j := 2) dL_law_561 dL_law_562 dL_law_564 dL_law_565 dL_law_566 hi hL (by decide) ?_
  refine sw_arg (j := 3) dL_law_567 dL_law_568 dL_law_570 dL_law_571 dL_law_572 hi hL (by decide) ?_
  refine sw_vC (bs := [.inl (sa sx i 1), .inl (sa sx i 2), .inl (sa sx i 3)]) (st := [.inl x]) vmX12_lead lL_60 dL_law_573 ⟨by decide, rfl, rfl, hk.1, hk.2⟩ (Nat.le_of_ble_eq_true rfl) rfl rfl (h.2.1.1.ob.up n1) h1 (skI (fun y σ2 ⟨e2, v2, h2⟩ n2 => ?_))
  exact sw_icmp_eq (tgt := 1374) dL_law_576 (by decide) (fun _ => kk σ2 v2 h2 (Nat.le_trans n1 n2)) (fun q => absurd e2 q)
theorem c_about (h : Bo c σ v) (hc : c + 1 ≤ 512) (hi : i + 6 ≤ sL) (hL : sL ≤ 3072) (hk : kc ≤ 601024 ∧ ks ≤ 7293034) (kk : ∀ σ' v', Bo (c + 1) σ' v' → σ.1 ≤ σ'.1 → SW sL sx l mL_law 1374 (LO i) [] σ' kc ks Φ) : SW sL sx l mL_law 661 (LO i) [] σ kc ks Φ := by
  refine sw_aload_n (q := 1) dL_law_661 rfl rfl ?_
  refine sw_arg (j := 1) dL_law_662 dL_law_663 dL_law_665 dL_law_666 dL_law_667 hi hL (by decide) ?_
  refine sw_arg (j := 2) dL_law_668 dL_law_669 dL_law_671 dL_law_672 dL_law_673 hi hL (by decide) ?_
  refine sw_vC (bs := [.inl (sa sx i 1), .inl (sa sx i 2)]) (st := []) vmX11_about lL_71 dL_law_674 ⟨by decide, rfl, rfl, hk.1, hk.2⟩ (by decide) rfl rfl h.1.1.o1 (S_about h hc (sa sx i 1) (sa sx i 2)) (skI (fun x σ1 h1 n1 => ?_))
  refine sw_aload_n (q := 2) dL_law_677 rfl rfl ?_
  refine sw_arg (j := 1) dL_law_678 dL_law_679 dL_law_681 dL_law_682 dL_law_683 hi hL (by decide) ?_
  refine sw_arg (j := 2) dL_law_684 dL_law_685 dL_law_687 dL_law_688 dL_law_689 hi hL (by decide) ?_
  refine sw_vC (bs := [.inl (sa sx i 1), .inl (sa sx i 2)]) (st := [.inl x]) vmX12_about lL_74 dL_law_690 ⟨by decide, rfl, rfl, hk.1, hk.2⟩ (Nat.le_of_ble_eq_true rfl) rfl rfl (h.2.1.1.ob.up n1) h1 (skI (fun y σ2 ⟨e2, v2, h2⟩ n2 => ?_))
  exact sw_icmp_eq (tgt := 1374) dL_law_693 (by decide) (fun _ => kk σ2 v2 h2 (Nat.le_trans n1 n2)) (fun q => absurd e2 q)
theorem c_play (h : Bo c σ v) (hc : c + 1 ≤ 512) (hi : i + 6 ≤ sL) (hL : sL ≤ 3072) (hk : kc ≤ 601024 ∧ ks ≤ 7293034) (kk : ∀ σ' v', Bo (c + 1) σ' v' → σ.1 ≤ σ'.1 → SW sL sx l mL_law 1374 (LO i) [] σ' kc ks Φ) : SW sL sx l mL_law 698 (LO i) [] σ kc ks Φ := by
  refine sw_aload_n (q := 1) dL_law_698 rfl rfl ?_
  refine sw_arg (j := 1) dL_law_699 dL_law_700 dL_law_702 dL_law_703 dL_law_704 hi hL (by decide) ?_
  refine sw_arg (j := 2) dL_law_705 dL_law_706 dL_law_708 dL_law_709 dL_law_710 hi hL (by decide) ?_
  refine sw_arg (j := 3) dL_law_711 dL_law_712 dL_law_714 dL_law_715 dL_law_716 hi hL (by decide) ?_
  refine sw_vC (bs := [.inl (sa sx i 1), .inl (sa sx i 2), .inl (sa sx i 3)]) (st := []) vmX11_play lL_75 dL_law_717 ⟨by decide, rfl, rfl, hk.1, hk.2⟩ (by decide) rfl rfl h.1.1.o1 (S_play h hc (sa sx i 1) (sa sx i 2) (sa sx i 3)) (skI (fun x σ1 h1 n1 => ?_))
  refine sw_aload_n (q := 2) dL_law_720 rfl rfl ?_
  refine sw_arg (j := 1) dL_law_721 dL_law_722 dL_law_724 dL_law_725 dL_law_726 hi hL (by decide) ?_
  refine sw_arg (j := 2) dL_law_727 dL_law_728 dL_law_730 dL_law_731 dL_law_732 hi hL (by decide) ?_
  refine sw_arg (j := 3) dL_law_733 dL_law_734 dL_law_736 dL_law_737 dL_law_738 hi hL (by decide) ?_
  refine sw_vC (bs := [.inl (sa sx i 1), .inl (sa sx i 2), .inl (sa sx i 3)]) (st := [.inl x]) vmX12_play lL_78 dL_law_739 ⟨by decide, rfl, rfl, hk.1, hk.2⟩ (Nat.le_of_ble_eq_true rfl) rfl rfl (h.2.1.1.ob.up n1) h1 (skI (fun y σ2 ⟨e2, v2, h2⟩ n2 => ?_))
  exact sw_icmp_eq (tgt := 1374) dL_law_742 (by decide) (fun _ => kk σ2 v2 h2 (Nat.le_trans n1 n2)) (fun q => absurd e2 q)
theorem c_nozzle (h : Bo c σ v) (hc : c + 1 ≤ 512) (hi : i + 6 ≤ sL) (hL : sL ≤ 3072) (hk : kc ≤ 601024 ∧ ks ≤ 7293034) (kk : ∀ σ' v', Bo (c + 1) σ' v' → σ.1 ≤ σ'.1 → SW sL sx l mL_law 1374 (LO i) [] σ' kc ks Φ) : SW sL sx l mL_law 747 (LO i) [] σ kc ks Φ := by
  refine sw_aload_n (q := 1) dL_law_747 rfl rfl ?_
  refine sw_arg (j := 1) dL_law_748 dL_law_749 dL_law_751 dL_law_752 dL_law_753 hi hL (by decide) ?_
  refine sw_vC (bs := [.inl (sa sx i 1)]) (st := []) vmX11_nozzle lL_79 dL_law_754 ⟨by decide, rfl, rfl, hk.1, hk.2⟩ (by decide) rfl rfl h.1.1.o1 (S_nozzle h hc (sa sx i 1)) (skI (fun x σ1 h1 n1 => ?_))
  refine sw_aload_n (q := 2) dL_law_757 rfl rfl ?_
  refine sw_arg (j := 1) dL_law_758 dL_law_759 dL_law_761 dL_law_762 dL_law_763 hi hL (by decide) ?_
  refine sw_vC (bs := [.inl (sa sx i 1)]) (st := [.inl x]) vmX12_nozzle lL_83 dL_law_764 ⟨by decide, rfl, rfl, hk.1, hk.2⟩ (Nat.le_of_ble_eq_true rfl) rfl rfl (h.2.1.1.ob.up n1) h1 (skI (fun y σ2 ⟨e2, v2, h2⟩ n2 => ?_))
  exact sw_icmp_eq (tgt := 1374) dL_law_767 (by decide) (fun _ => kk σ2 v2 h2 (Nat.le_trans n1 n2)) (fun q => absurd e2 q)
theorem c_thick (h : Bo c σ v) (hc : c + 1 ≤ 512) (hi : i + 6 ≤ sL) (hL : sL ≤ 3072) (hk : kc ≤ 601024 ∧ ks ≤ 7293034) (kk : ∀ σ' v', Bo (c + 1) σ' v' → σ.1 ≤ σ'.1 → SW sL sx l mL_law 1374 (LO i) [] σ' kc ks Φ) : SW sL sx l mL_law 772 (LO i) [] σ kc ks Φ := by
  refine sw_aload_n (q := 1) dL_law_772 rfl rfl ?_
  refine sw_arg (j := 1) dL_law_773 dL_law_774 dL_law_776 dL_law_777 dL_law_778 hi hL (by decide) ?_
  refine sw_arg (j := 2) dL_law_779 dL_law_780 dL_law_782 dL_law_783 dL_law_784 hi hL (by decide) ?_
  refine sw_arg (j := 3) dL_law_785 dL_law_786 dL_law_788 dL_law_789 dL_law_790 hi hL (by decide) ?_
  refine sw_arg (j := 4) dL_law_791 dL_law_792 dL_law_794 dL_law_795 dL_law_796 hi hL (by decide) ?_
  refine sw_arg (j := 5) dL_law_797 dL_law_798 dL_law_800 dL_law_801 dL_law_802 hi hL (by decide) ?_
  refine sw_vC (bs := [.inl (sa sx i 1), .inl (sa sx i 2), .inl (sa sx i 3), .inl (sa sx i 4), .inl (sa sx i 5)]) (st := []) vmX11_thick lL_84 dL_law_803 ⟨by decide, rfl, rfl, hk.1, hk.2⟩ (by decide) rfl rfl h.1.1.o1 (S_thick h hc (sa sx i 1) (sa sx i 2) (sa sx i 3) (sa sx i 4) (sa sx i 5)) (skI (fun x σ1 h1 n1 => ?_))
  refine sw_aload_n (q := 2) dL_law_806 rfl rfl ?_
  refine sw_arg (j := 1) dL_law_807 dL_law_808 dL_law_810 dL_law_811 dL_law_812 hi hL (by decide) ?_
  refine sw_arg (j := 2) dL_law_813 dL_law_814 dL_law_816 dL_law_817 dL_law_818 hi hL (by decide) ?_
  refine sw_arg (j := 3) dL_law_819 dL_law_820 dL_law_822 dL_law_823 dL_law_824 hi hL (by decide) ?_
  refine sw_arg (j := 4) dL_law_825 dL_law_826 dL_law_828 dL_law_829 dL_law_830 hi hL (by decide) ?_
  refine sw_arg (j := 5) dL_law_831 dL_law_832 dL_law_834 dL_law_835 dL_law_836 hi hL (by decide) ?_
  refine sw_vC (bs := [.inl (sa sx i 1), .inl (sa sx i 2), .inl (sa sx i 3), .inl (sa sx i 4), .inl (sa sx i 5)]) (st := [.inl x]) vmX12_thick lL_87 dL_law_837 ⟨by decide, rfl, rfl, hk.1, hk.2⟩ (Nat.le_of_ble_eq_true rfl) rfl rfl (h.2.1.1.ob.up n1) h1 (skI (fun y σ2 ⟨e2, v2, h2⟩ n2 => ?_))
  exact sw_icmp_eq (tgt := 1374) dL_law_840 (by decide) (fun _ => kk σ2 v2 h2 (Nat.le_trans n1 n2)) (fun q => absurd e2 q)
theorem c_paint (h : Bo c σ v) (hc : c + 1 ≤ 512) (hi : i + 6 ≤ sL) (hL : sL ≤ 3072) (hk : kc ≤ 601024 ∧ ks ≤ 7293034) (kk : ∀ σ' v', Bo (c + 1) σ' v' → σ.1 ≤ σ'.1 → SW sL sx l mL_law 1374 (LO i) [] σ' kc ks Φ) : SW sL sx l mL_law 845 (LO i) [] σ kc ks Φ := by
  refine sw_aload_n (q := 1) dL_law_845 rfl rfl ?_
  refine sw_arg (j := 1) dL_law_846 dL_law_847 dL_law_849 dL_law_850 dL_law_851 hi hL (by decide) ?_
  refine sw_arg (j := 2) dL_law_852 dL_law_853 dL_law_855 dL_law_856 dL_law_857 hi hL (by decide) ?_
  refine sw_vC (bs := [.inl (sa sx i 1), .inl (sa sx i 2)]) (st := []) vmX11_paint lL_88 dL_law_858 ⟨by decide, rfl, rfl, hk.1, hk.2⟩ (by decide) rfl rfl h.1.1.o1 (S_paint h hc (sa sx i 1) (sa sx i 2)) (skI (fun x σ1 h1 n1 => ?_))
  refine sw_aload_n (q := 2) dL_law_861 rfl rfl ?_
  refine sw_arg (j := 1) dL_law_862 dL_law_863 dL_law_865 dL_law_866 dL_law_867 hi hL (by decide) ?_
  refine sw_arg (j := 2) dL_law_868 dL_law_869 dL_law_871 dL_law_872 dL_law_873 hi hL (by decide) ?_
  refine sw_vC (bs := [.inl (sa sx i 1), .inl (sa sx i 2)]) (st := [.inl x]) vmX12_paint lL_91 dL_law_874 ⟨by decide, rfl, rfl, hk.1, hk.2⟩ (Nat.le_of_ble_eq_true rfl) rfl rfl (h.2.1.1.ob.up n1) h1 (skI (fun y σ2 ⟨e2, v2, h2⟩ n2 => ?_))
  exact sw_icmp_eq (tgt := 1374) dL_law_877 (by decide) (fun _ => kk σ2 v2 h2 (Nat.le_trans n1 n2)) (fun q => absurd e2 q)
theorem c_clean (h : Bo c σ v) (hc : c + 1 ≤ 512) (hi : i + 6 ≤ sL) (hL : sL ≤ 3072) (hk : kc ≤ 601024 ∧ ks ≤ 7293034) (kk : ∀ σ' v', Bo (c + 1) σ' v' → σ.1 ≤ σ'.1 → SW sL sx l mL_law 1374 (LO i) [] σ' kc ks Φ) : SW sL sx l mL_law 882 (LO i) [] σ kc ks Φ := by
  refine sw_aload_n (q := 1) dL_law_882 rfl rfl ?_
  refine sw_vC (bs := []) (st := []) vmX11_clean lL_92 dL_law_883 ⟨by decide, rfl, rfl, hk.1, hk.2⟩ (by decide) rfl rfl h.1.1.o1 (S_clean h hc ) (skI (fun x σ1 h1 n1 => ?_))
  refine sw_aload_n (q := 2) dL_law_886 rfl rfl ?_
  refine sw_vC (bs := []) (st := [.inl x]) vmX12_clean lL_95 dL_law_887 ⟨by decide, rfl, rfl, hk.1, hk.2⟩ (Nat.le_of_ble_eq_true rfl) rfl rfl (h.2.1.1.ob.up n1) h1 (skI (fun y σ2 ⟨e2, v2, h2⟩ n2 => ?_))
  exact sw_icmp_eq (tgt := 1374) dL_law_890 (by decide) (fun _ => kk σ2 v2 h2 (Nat.le_trans n1 n2)) (fun q => absurd e2 q)
theorem c_stop (h : Bo c σ v) (hc : c + 1 ≤ 512) (hi : i + 6 ≤ sL) (hL : sL ≤ 3072) (hk : kc ≤ 601024 ∧ ks ≤ 7293034) (kk : ∀ σ' v', Bo (c + 1) σ' v' → σ.1 ≤ σ'.1 → SW sL sx l mL_law 1374 (LO i) [] σ' kc ks Φ) : SW sL sx l mL_law 956 (LO i) [] σ kc ks Φ := by
  refine sw_aload_n (q := 1) dL_law_956 rfl rfl ?_
  refine sw_vC (bs := []) (st := []) vmX11_stop lL_100 dL_law_957 ⟨by decide, rfl, rfl, hk.1, hk.2⟩ (by decide) rfl rfl h.1.1.o1 (S_stop h hc ) (skI (fun x σ1 h1 n1 => ?_))
  refine sw_aload_n (q := 2) dL_law_960 rfl rfl ?_
  refine sw_vC (bs := []) (st := [.inl x]) vmX12_stop lL_103 dL_law_961 ⟨by decide, rfl, rfl, hk.1, hk.2⟩ (Nat.le_of_ble_eq_true rfl) rfl rfl (h.2.1.1.ob.up n1) h1 (skI (fun y σ2 ⟨e2, v2, h2⟩ n2 => ?_))
  exact sw_icmp_eq (tgt := 1374) dL_law_964 (by decide) (fun _ => kk σ2 v2 h2 (Nat.le_trans n1 n2)) (fun q => absurd e2 q)
theorem c_way (h : Bo c σ v) (hc : c + 1 ≤ 512) (hi : i + 6 ≤ sL) (hL : sL ≤ 3072) (hk : kc ≤ 601024 ∧ ks ≤ 7293034) (kk : ∀ σ' v', Bo (c + 1) σ' v' → σ.1 ≤ σ'.1 → SW sL sx l mL_law 1374 (LO i) [] σ' kc ks Φ) : SW sL sx l mL_law 969 (LO i) [] σ kc ks Φ := by
  refine sw_aload_n (q := 1) dL_law_969 rfl rfl ?_
  refine sw_vC (bs := []) (st := []) vmX11_way lL_104 dL_law_970 ⟨by decide, rfl, rfl, hk.1, hk.2⟩ (by decide) rfl rfl h.1.1.o1 (S_way h hc ) (skI (fun x σ1 h1 n1 => ?_))
  refine sw_aload_n (q := 2) dL_law_973 rfl rfl ?_
  refine sw_vC (bs := []) (st := [.inl x]) vmX12_way lL_107 dL_law_974 ⟨by decide, rfl, rfl, hk.1, hk.2⟩ (Nat.le_of_ble_eq_true rfl) rfl rfl (h.2.1.1.ob.up n1) h1 (skI (fun y σ2 ⟨e2, v2, h2⟩ n2 => ?_))
  exact sw_icmp_eq (tgt := 1374) dL_law_977 (by decide) (fun _ => kk σ2 v2 h2 (Nat.le_trans n1 n2)) (fun q => absurd e2 q)
theorem c_meet (h : Bo c σ v) (hc : c + 1 ≤ 512) (hi : i + 6 ≤ sL) (hL : sL ≤ 3072) (hk : kc ≤ 601024 ∧ ks ≤ 7293034) (kk : ∀ σ' v', Bo (c + 1) σ' v' → σ.1 ≤ σ'.1 → SW sL sx l mL_law 1374 (LO i) [] σ' kc ks Φ) : SW sL sx l mL_law 982 (LO i) [] σ kc ks Φ := by
  refine sw_aload_n (q := 1) dL_law_982 rfl rfl ?_
  refine sw_arg (j := 1) dL_law_983 dL_law_984 dL_law_986 dL_law_987 dL_law_988 hi hL (by decide) ?_
  refine sw_arg (j := 2) dL_law_989 dL_law_990 dL_law_992 dL_law_993 dL_law_994 hi hL (by decide) ?_
  refine sw_vC (bs := [.inl (sa sx i 1), .inl (sa sx i 2)]) (st := []) vmX11_meet lL_108 dL_law_995 ⟨by decide, rfl, rfl, hk.1, hk.2⟩ (by decide) rfl rfl h.1.1.o1 (S_meet h hc (sa sx i 1) (sa sx i 2)) (skI (fun x σ1 h1 n1 => ?_))
  refine sw_aload_n (q := 2) dL_law_998 rfl rfl ?_
  refine sw_arg (j := 1) dL_law_999 dL_law_1000 dL_law_1002 dL_law_1003 dL_law_1004 hi hL (by decide) ?_
  refine sw_arg (j := 2) dL_law_1005 dL_law_1006 dL_law_1008 dL_law_1009 dL_law_1010 hi hL (by decide) ?_
  refine sw_vC (bs := [.inl (sa sx i 1), .inl (sa sx i 2)]) (st := [.inl x]) vmX12_meet lL_111 dL_law_1011 ⟨by decide, rfl, rfl, hk.1, hk.2⟩ (Nat.le_of_ble_eq_true rfl) rfl rfl (h.2.1.1.ob.up n1) h1 (skI (fun y σ2 ⟨e2, v2, h2⟩ n2 => ?_))
  exact sw_icmp_eq (tgt := 1374) dL_law_1014 (by decide) (fun _ => kk σ2 v2 h2 (Nat.le_trans n1 n2)) (fun q => absurd e2 q)
theorem c_met (h : Bo c σ v) (hc : c + 1 ≤ 512) (hi : i + 6 ≤ sL) (hL : sL ≤ 3072) (hk : kc ≤ 601024 ∧ ks ≤ 7293034) (kk : ∀ σ' v', Bo (c + 1) σ' v' → σ.1 ≤ σ'.1 → SW sL sx l mL_law 1374 (LO i) [] σ' kc ks Φ) : SW sL sx l mL_law 1019 (LO i) [] σ kc ks Φ := by
  refine sw_aload_n (q := 1) dL_law_1019 rfl rfl ?_
  refine sw_arg (j := 1) dL_law_1020 dL_law_1021 dL_law_1023 dL_law_1024 dL_law_1025 hi hL (by decide) ?_
  refine sw_vC (bs := [.inl (sa sx i 1)]) (st := []) vmX11_met lL_112 dL_law_1026 ⟨by decide, rfl, rfl, hk.1, hk.2⟩ (by decide) rfl rfl h.1.1.o1 (S_met h hc (sa sx i 1)) (skI (fun x σ1 h1 n1 => ?_))
  refine sw_aload_n (q := 2) dL_law_1029 rfl rfl ?_
  refine sw_arg (j := 1) dL_law_1030 dL_law_1031 dL_law_1033 dL_law_1034 dL_law_1035 hi hL (by decide) ?_
  refine sw_vC (bs := [.inl (sa sx i 1)]) (st := [.inl x]) vmX12_met lL_115 dL_law_1036 ⟨by decide, rfl, rfl, hk.1, hk.2⟩ (Nat.le_of_ble_eq_true rfl) rfl rfl (h.2.1.1.ob.up n1) h1 (skI (fun y σ2 ⟨e2, v2, h2⟩ n2 => ?_))
  exact sw_icmp_eq (tgt := 1374) dL_law_1039 (by decide) (fun _ => kk σ2 v2 h2 (Nat.le_trans n1 n2)) (fun q => absurd e2 q)
theorem c_wear (h : Bo c σ v) (hc : c + 1 ≤ 512) (hi : i + 6 ≤ sL) (hL : sL ≤ 3072) (hk : kc ≤ 601024 ∧ ks ≤ 7293034) (kk : ∀ σ' v', Bo (c + 1) σ' v' → σ.1 ≤ σ'.1 → SW sL sx l mL_law 1374 (LO i) [] σ' kc ks Φ) : SW sL sx l mL_law 1093 (LO i) [] σ kc ks Φ := by
  refine sw_aload_n (q := 1) dL_law_1093 rfl rfl ?_
  refine sw_arg (j := 1) dL_law_1094 dL_law_1095 dL_law_1097 dL_law_1098 dL_law_1099 hi hL (by decide) ?_
  refine sw_arg (j := 2) dL_law_1100 dL_law_1101 dL_law_1103 dL_law_1104 dL_law_1105 hi hL (by decide) ?_
  refine sw_arg (j := 3) dL_law_1106 dL_law_1107 dL_law_1109 dL_law_1110 dL_law_1111 hi hL (by decide) ?_
  refine sw_arg (j := 4) dL_law_1112 dL_law_1113 dL_law_1115 dL_law_1116 dL_law_1117 hi hL (by decide) ?_
  refine sw_arg (j := 5) dL_law_1118 dL_law_1119 dL_law_1121 dL_law_1122 dL_law_1123 hi hL (by decide) ?_
  refine sw_vC (bs := [.inl (sa sx i 1), .inl (sa sx i 2), .inl (sa sx i 3), .inl (sa sx i 4), .inl (sa sx i 5)]) (st := []) vmX11_wear lL_120 dL_law_1124 ⟨by decide, rfl, rfl, hk.1, hk.2⟩ (by decide) rfl rfl h.1.1.o1 (S_wear h hc (sa sx i 1) (sa sx i 2) (sa sx i 3) (sa sx i 4) (sa sx i 5)) (skI (fun x σ1 h1 n1 => ?_))
  refine sw_aload_n (q := 2) dL_law_1127 rfl rfl ?_
  refine sw_arg (j := 1) dL_law_1128 dL_law_1129 dL_law_1131 dL_law_1132 dL_law_1133 hi hL (by decide) ?_
  refine sw_arg (j := 2) dL_law_1134 dL_law_1135 dL_law_1137 dL_law_1138 dL_law_1139 hi hL (by decide) ?_
  refine sw_arg (j := 3) dL_law_1140 dL_law_1141 dL_law_1143 dL_law_1144 dL_law_1145 hi hL (by decide) ?_
  refine sw_arg (j := 4) dL_law_1146 dL_law_1147 dL_law_1149 dL_law_1150 dL_law_1151 hi hL (by decide) ?_
  refine sw_arg (j := 5) dL_law_1152 dL_law_1153 dL_law_1155 dL_law_1156 dL_law_1157 hi hL (by decide) ?_
  refine sw_vC (bs := [.inl (sa sx i 1), .inl (sa sx i 2), .inl (sa sx i 3), .inl (sa sx i 4), .inl (sa sx i 5)]) (st := [.inl x]) vmX12_wear lL_124 dL_law_1158 ⟨by decide, rfl, rfl, hk.1, hk.2⟩ (Nat.le_of_ble_eq_true rfl) rfl rfl (h.2.1.1.ob.up n1) h1 (skI (fun y σ2 ⟨e2, v2, h2⟩ n2 => ?_))
  exact sw_icmp_eq (tgt := 1374) dL_law_1161 (by decide) (fun _ => kk σ2 v2 h2 (Nat.le_trans n1 n2)) (fun q => absurd e2 q)
theorem c_suspects (h : Bo c σ v) (hc : c + 1 ≤ 512) (hi : i + 6 ≤ sL) (hL : sL ≤ 3072) (hk : kc ≤ 601024 ∧ ks ≤ 7293034) (kk : ∀ σ' v', Bo (c + 1) σ' v' → σ.1 ≤ σ'.1 → SW sL sx l mL_law 1374 (LO i) [] σ' kc ks Φ) : SW sL sx l mL_law 1166 (LO i) [] σ kc ks Φ := by
  refine sw_aload_n (q := 1) dL_law_1166 rfl rfl ?_
  refine sw_arg (j := 1) dL_law_1167 dL_law_1168 dL_law_1170 dL_law_1171 dL_law_1172 hi hL (by decide) ?_
  refine sw_arg (j := 2) dL_law_1173 dL_law_1174 dL_law_1176 dL_law_1177 dL_law_1178 hi hL (by decide) ?_
  refine sw_arg (j := 3) dL_law_1179 dL_law_1180 dL_law_1182 dL_law_1183 dL_law_1184 hi hL (by decide) ?_
  refine sw_arg (j := 4) dL_law_1185 dL_law_1186 dL_law_1188 dL_law_1189 dL_law_1190 hi hL (by decide) ?_
  refine sw_vC (bs := [.inl (sa sx i 1), .inl (sa sx i 2), .inl (sa sx i 3), .inl (sa sx i 4)]) (st := []) vmX11_suspects lL_125 dL_law_1191 ⟨by decide, rfl, rfl, hk.1, hk.2⟩ (by decide) rfl rfl h.1.1.o1 (S_suspects h hc (sa sx i 1) (sa sx i 2) (sa sx i 3) (sa sx i 4)) (skI (fun x σ1 h1 n1 => ?_))
  refine sw_aload_n (q := 2) dL_law_1194 rfl rfl ?_
  refine sw_arg (j := 1) dL_law_1195 dL_law_1196 dL_law_1198 dL_law_1199 dL_law_1200 hi hL (by decide) ?_
  refine sw_arg (j := 2) dL_law_1201 dL_law_1202 dL_law_1204 dL_law_1205 dL_law_1206 hi hL (by decide) ?_
  refine sw_arg (j := 3) dL_law_1207 dL_law_1208 dL_law_1210 dL_law_1211 dL_law_1212 hi hL (by decide) ?_
  refine sw_arg (j := 4) dL_law_1213 dL_law_1214 dL_law_1216 dL_law_1217 dL_law_1218 hi hL (by decide) ?_
  refine sw_vC (bs := [.inl (sa sx i 1), .inl (sa sx i 2), .inl (sa sx i 3), .inl (sa sx i 4)]) (st := [.inl x]) vmX12_suspects lL_128 dL_law_1219 ⟨by decide, rfl, rfl, hk.1, hk.2⟩ (Nat.le_of_ble_eq_true rfl) rfl rfl (h.2.1.1.ob.up n1) h1 (skI (fun y σ2 ⟨e2, v2, h2⟩ n2 => ?_))
  exact sw_icmp_eq (tgt := 1374) dL_law_1222 (by decide) (fun _ => kk σ2 v2 h2 (Nat.le_trans n1 n2)) (fun q => absurd e2 q)
theorem c_anew (h : Bo c σ v) (hc : c + 1 ≤ 512) (hi : i + 6 ≤ sL) (hL : sL ≤ 3072) (hk : kc ≤ 601024 ∧ ks ≤ 7293034) (kk : ∀ σ' v', Bo (c + 1) σ' v' → σ.1 ≤ σ'.1 → SW sL sx l mL_law 1374 (LO i) [] σ' kc ks Φ) : SW sL sx l mL_law 1227 (LO i) [] σ kc ks Φ := by
  refine sw_aload_n (q := 1) dL_law_1227 rfl rfl ?_
  refine sw_arg (j := 1) dL_law_1228 dL_law_1229 dL_law_1231 dL_law_1232 dL_law_1233 hi hL (by decide) ?_
  refine sw_arg (j := 2) dL_law_1234 dL_law_1235 dL_law_1237 dL_law_1238 dL_law_1239 hi hL (by decide) ?_
  refine sw_arg (j := 3) dL_law_1240 dL_law_1241 dL_law_1243 dL_law_1244 dL_law_1245 hi hL (by decide) ?_
  refine sw_arg (j := 4) dL_law_1246 dL_law_1247 dL_law_1249 dL_law_1250 dL_law_1251 hi hL (by decide) ?_
  refine sw_arg (j := 5) dL_law_1252 dL_law_1253 dL_law_1255 dL_law_1256 dL_law_1257 hi hL (by decide) ?_
  refine sw_vC (bs := [.inl (sa sx i 1), .inl (sa sx i 2), .inl (sa sx i 3), .inl (sa sx i 4), .inl (sa sx i 5)]) (st := []) vmX11_anew lL_129 dL_law_1258 ⟨by decide, rfl, rfl, hk.1, hk.2⟩ (by decide) rfl rfl h.1.1.o1 (S_anew h hc (sa sx i 1) (sa sx i 2) (sa sx i 3) (sa sx i 4) (sa sx i 5)) (skI (fun x σ1 h1 n1 => ?_))
  refine sw_aload_n (q := 2) dL_law_1261 rfl rfl ?_
  refine sw_arg (j := 1) dL_law_1262 dL_law_1263 dL_law_1265 dL_law_1266 dL_law_1267 hi hL (by decide) ?_
  refine sw_arg (j := 2) dL_law_1268 dL_law_1269 dL_law_1271 dL_law_1272 dL_law_1273 hi hL (by decide) ?_
  refine sw_arg (j := 3) dL_law_1274 dL_law_1275 dL_law_1277 dL_law_1278 dL_law_1279 hi hL (by decide) ?_
  refine sw_arg (j := 4) dL_law_1280 dL_law_1281 dL_law_1283 dL_law_1284 dL_law_1285 hi hL (by decide) ?_
  refine sw_arg (j := 5) dL_law_1286 dL_law_1287 dL_law_1289 dL_law_1290 dL_law_1291 hi hL (by decide) ?_
  refine sw_vC (bs := [.inl (sa sx i 1), .inl (sa sx i 2), .inl (sa sx i 3), .inl (sa sx i 4), .inl (sa sx i 5)]) (st := [.inl x]) vmX12_anew lL_132 dL_law_1292 ⟨by decide, rfl, rfl, hk.1, hk.2⟩ (Nat.le_of_ble_eq_true rfl) rfl rfl (h.2.1.1.ob.up n1) h1 (skI (fun y σ2 ⟨e2, v2, h2⟩ n2 => ?_))
  exact sw_icmp_eq (tgt := 1374) dL_law_1295 (by decide) (fun _ => kk σ2 v2 h2 (Nat.le_trans n1 n2)) (fun q => absurd e2 q)
theorem c_apart (h : Bo c σ v) (hc : c + 1 ≤ 512) (hi : i + 6 ≤ sL) (hL : sL ≤ 3072) (hk : kc ≤ 601024 ∧ ks ≤ 7293034) (kk : ∀ σ' v', Bo (c + 1) σ' v' → σ.1 ≤ σ'.1 → SW sL sx l mL_law 1374 (LO i) [] σ' kc ks Φ) : SW sL sx l mL_law 1300 (LO i) [] σ kc ks Φ := by
  refine sw_aload_n (q := 1) dL_law_1300 rfl rfl ?_
  refine sw_arg (j := 1) dL_law_1301 dL_law_1302 dL_law_1304 dL_law_1305 dL_law_1306 hi hL (by decide) ?_
  refine sw_arg (j := 2) dL_law_1307 dL_law_1308 dL_law_1310 dL_law_1311 dL_law_1312 hi hL (by decide) ?_
  refine sw_arg (j := 3) dL_law_1313 dL_law_1314 dL_law_1316 dL_law_1317 dL_law_1318 hi hL (by decide) ?_
  refine sw_vC (bs := [.inl (sa sx i 1), .inl (sa sx i 2), .inl (sa sx i 3)]) (st := []) vmX11_apart lL_133 dL_law_1319 ⟨by decide, rfl, rfl, hk.1, hk.2⟩ (by decide) rfl rfl h.1.1.o1 (S_apart h hc (sa sx i 1) (sa sx i 2) (sa sx i 3)) (skI (fun x σ1 h1 n1 => ?_))
  refine sw_aload_n (q := 2) dL_law_1322 rfl rfl ?_
  refine sw_arg (j := 1) dL_law_1323 dL_law_1324 dL_law_1326 dL_law_1327 dL_law_1328 hi hL (by decide) ?_
  refine sw_arg (j := 2) dL_law_1329 dL_law_1330 dL_law_1332 dL_law_1333 dL_law_1334 hi hL (by decide) ?_
  refine sw_arg (j := 3) dL_law_1335 dL_law_1336 dL_law_1338 dL_law_1339 dL_law_1340 hi hL (by decide) ?_
  refine sw_vC (bs := [.inl (sa sx i 1), .inl (sa sx i 2), .inl (sa sx i 3)]) (st := [.inl x]) vmX12_apart lL_136 dL_law_1341 ⟨by decide, rfl, rfl, hk.1, hk.2⟩ (Nat.le_of_ble_eq_true rfl) rfl rfl (h.2.1.1.ob.up n1) h1 (skI (fun y σ2 ⟨e2, v2, h2⟩ n2 => ?_))
  exact sw_icmp_eq (tgt := 1374) dL_law_1344 (by decide) (fun _ => kk σ2 v2 h2 (Nat.le_trans n1 n2)) (fun q => absurd e2 q)
theorem c_count (h : Bo c σ v) (hc : c + 1 ≤ 512) (hi : i + 6 ≤ sL) (hL : sL ≤ 3072) (hk : kc ≤ 601024 ∧ ks ≤ 7293034) (kk : ∀ σ' v', Bo (c + 1) σ' v' → σ.1 ≤ σ'.1 → SW sL sx l mL_law 1374 (LO i) [] σ' kc ks Φ) : SW sL sx l mL_law 1349 (LO i) [] σ kc ks Φ := by
  refine sw_aload_n (q := 1) dL_law_1349 rfl rfl ?_
  refine sw_arg (j := 1) dL_law_1350 dL_law_1351 dL_law_1353 dL_law_1354 dL_law_1355 hi hL (by decide) ?_
  refine sw_vC (bs := [.inl (sa sx i 1)]) (st := []) vmX11_count lL_137 dL_law_1356 ⟨by decide, rfl, rfl, hk.1, hk.2⟩ (by decide) rfl rfl h.1.1.o1 (S_count h hc (sa sx i 1)) (skI (fun x σ1 h1 n1 => ?_))
  refine sw_aload_n (q := 2) dL_law_1359 rfl rfl ?_
  refine sw_arg (j := 1) dL_law_1360 dL_law_1361 dL_law_1363 dL_law_1364 dL_law_1365 hi hL (by decide) ?_
  refine sw_vC (bs := [.inl (sa sx i 1)]) (st := [.inl x]) vmX12_count lL_140 dL_law_1366 ⟨by decide, rfl, rfl, hk.1, hk.2⟩ (Nat.le_of_ble_eq_true rfl) rfl rfl (h.2.1.1.ob.up n1) h1 (skI (fun y σ2 ⟨e2, v2, h2⟩ n2 => ?_))
  exact sw_icmp_eq (tgt := 1374) dL_law_1369 (by decide) (fun _ => kk σ2 v2 h2 (Nat.le_trans n1 n2)) (fun q => absurd e2 q)
end LAW
