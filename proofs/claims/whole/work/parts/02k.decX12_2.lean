theorem dX12_meet_205 : decode cX12_meet 205 = .ok (.imul, 1) := by decide +kernel
theorem dX12_meet_206 : decode cX12_meet 206 = .ok (.iload 4, 2) := by decide +kernel
theorem dX12_meet_208 : decode cX12_meet 208 = .ok (.iadd, 1) := by decide +kernel
theorem dX12_meet_209 : decode cX12_meet 209 = .ok (.aload_n 0, 1) := by decide +kernel
theorem dX12_meet_210 : decode cX12_meet 210 = .ok (.aload_n 0, 1) := by decide +kernel
theorem dX12_meet_211 : decode cX12_meet 211 = .ok (.getfield 57, 3) := by decide +kernel
theorem dX12_meet_214 : decode cX12_meet 214 = .ok (.bipush 40, 2) := by decide +kernel
theorem dX12_meet_216 : decode cX12_meet 216 = .ok (.iload_n 1, 1) := by decide +kernel
theorem dX12_meet_217 : decode cX12_meet 217 = .ok (.imul, 1) := by decide +kernel
theorem dX12_meet_218 : decode cX12_meet 218 = .ok (.iload_n 3, 1) := by decide +kernel
theorem dX12_meet_219 : decode cX12_meet 219 = .ok (.iadd, 1) := by decide +kernel
theorem dX12_meet_220 : decode cX12_meet 220 = .ok (.iaload, 1) := by decide +kernel
theorem dX12_meet_221 : decode cX12_meet 221 = .ok (.aload_n 0, 1) := by decide +kernel
theorem dX12_meet_222 : decode cX12_meet 222 = .ok (.getfield 57, 3) := by decide +kernel
theorem dX12_meet_225 : decode cX12_meet 225 = .ok (.bipush 40, 2) := by decide +kernel
theorem dX12_meet_227 : decode cX12_meet 227 = .ok (.iload_n 2, 1) := by decide +kernel
theorem dX12_meet_228 : decode cX12_meet 228 = .ok (.imul, 1) := by decide +kernel
theorem dX12_meet_229 : decode cX12_meet 229 = .ok (.iload 4, 2) := by decide +kernel
theorem dX12_meet_231 : decode cX12_meet 231 = .ok (.iadd, 1) := by decide +kernel
theorem dX12_meet_232 : decode cX12_meet 232 = .ok (.iaload, 1) := by decide +kernel
theorem dX12_meet_233 : decode cX12_meet 233 = .ok (.invokevirtual 349, 3) := by decide +kernel
theorem dX12_meet_236 : decode cX12_meet 236 = .ok (.ifCond .eq 8, 3) := by decide +kernel
theorem dX12_meet_239 : decode cX12_meet 239 = .ok (.iload 5, 2) := by decide +kernel
theorem dX12_meet_241 : decode cX12_meet 241 = .ok (.goto 4, 3) := by decide +kernel
theorem dX12_meet_244 : decode cX12_meet 244 = .ok (.iconst (-1), 1) := by decide +kernel
theorem dX12_meet_245 : decode cX12_meet 245 = .ok (.iastore, 1) := by decide +kernel
theorem dX12_meet_246 : decode cX12_meet 246 = .ok (.iinc 4 (-1), 3) := by decide +kernel
theorem dX12_meet_249 : decode cX12_meet 249 = .ok (.goto (-166), 3) := by decide +kernel
theorem dX12_meet_252 : decode cX12_meet 252 = .ok (.iinc 3 (-1), 3) := by decide +kernel
theorem dX12_meet_255 : decode cX12_meet 255 = .ok (.goto (-186), 3) := by decide +kernel
theorem dX12_meet_258 : decode cX12_meet 258 = .ok (.aload_n 0, 1) := by decide +kernel
theorem dX12_meet_259 : decode cX12_meet 259 = .ok (.getfield 102, 3) := by decide +kernel
theorem dX12_meet_262 : decode cX12_meet 262 = .ok (.iconst 0, 1) := by decide +kernel
theorem dX12_meet_263 : decode cX12_meet 263 = .ok (.iaload, 1) := by decide +kernel
theorem dX12_meet_264 : decode cX12_meet 264 = .ok (.iconst (-1), 1) := by decide +kernel
theorem dX12_meet_265 : decode cX12_meet 265 = .ok (.if_icmp .ne 6, 3) := by decide +kernel
theorem dX12_meet_268 : decode cX12_meet 268 = .ok (.bipush (-2), 2) := by decide +kernel
theorem dX12_meet_270 : decode cX12_meet 270 = .ok (.ireturn, 1) := by decide +kernel
theorem dX12_meet_271 : decode cX12_meet 271 = .ok (.iconst 0, 1) := by decide +kernel
theorem dX12_meet_272 : decode cX12_meet 272 = .ok (.istore_n 3, 1) := by decide +kernel
theorem dX12_meet_273 : decode cX12_meet 273 = .ok (.iconst 0, 1) := by decide +kernel
theorem dX12_meet_274 : decode cX12_meet 274 = .ok (.istore 4, 2) := by decide +kernel
theorem dX12_meet_276 : decode cX12_meet 276 = .ok (.aload_n 0, 1) := by decide +kernel
theorem dX12_meet_277 : decode cX12_meet 277 = .ok (.iconst 1, 1) := by decide +kernel
theorem dX12_meet_278 : decode cX12_meet 278 = .ok (.putfield 352, 3) := by decide +kernel
theorem dX12_meet_281 : decode cX12_meet 281 = .ok (.aload_n 0, 1) := by decide +kernel
theorem dX12_meet_282 : decode cX12_meet 282 = .ok (.getfield 105, 3) := by decide +kernel
theorem dX12_meet_285 : decode cX12_meet 285 = .ok (.iconst 0, 1) := by decide +kernel
theorem dX12_meet_286 : decode cX12_meet 286 = .ok (.iconst 0, 1) := by decide +kernel
theorem dX12_meet_287 : decode cX12_meet 287 = .ok (.iastore, 1) := by decide +kernel
theorem dX12_meet_288 : decode cX12_meet 288 = .ok (.aload_n 0, 1) := by decide +kernel
theorem dX12_meet_289 : decode cX12_meet 289 = .ok (.getfield 102, 3) := by decide +kernel
theorem dX12_meet_292 : decode cX12_meet 292 = .ok (.bipush 40, 2) := by decide +kernel
theorem dX12_meet_294 : decode cX12_meet 294 = .ok (.iload_n 3, 1) := by decide +kernel
theorem dX12_meet_295 : decode cX12_meet 295 = .ok (.imul, 1) := by decide +kernel
theorem dX12_meet_296 : decode cX12_meet 296 = .ok (.iload 4, 2) := by decide +kernel
theorem dX12_meet_298 : decode cX12_meet 298 = .ok (.iadd, 1) := by decide +kernel
theorem dX12_meet_299 : decode cX12_meet 299 = .ok (.iaload, 1) := by decide +kernel
theorem dX12_meet_300 : decode cX12_meet 300 = .ok (.ifCond .le 123, 3) := by decide +kernel
theorem dX12_meet_303 : decode cX12_meet 303 = .ok (.aload_n 0, 1) := by decide +kernel
theorem dX12_meet_304 : decode cX12_meet 304 = .ok (.getfield 102, 3) := by decide +kernel
theorem dX12_meet_307 : decode cX12_meet 307 = .ok (.bipush 40, 2) := by decide +kernel
theorem dX12_meet_309 : decode cX12_meet 309 = .ok (.iload_n 3, 1) := by decide +kernel
theorem dX12_meet_310 : decode cX12_meet 310 = .ok (.imul, 1) := by decide +kernel
theorem dX12_meet_311 : decode cX12_meet 311 = .ok (.iload 4, 2) := by decide +kernel
theorem dX12_meet_313 : decode cX12_meet 313 = .ok (.iadd, 1) := by decide +kernel
theorem dX12_meet_314 : decode cX12_meet 314 = .ok (.iaload, 1) := by decide +kernel
theorem dX12_meet_315 : decode cX12_meet 315 = .ok (.iconst 1, 1) := by decide +kernel
theorem dX12_meet_316 : decode cX12_meet 316 = .ok (.isub, 1) := by decide +kernel
theorem dX12_meet_317 : decode cX12_meet 317 = .ok (.istore 5, 2) := by decide +kernel
theorem dX12_meet_319 : decode cX12_meet 319 = .ok (.aload_n 0, 1) := by decide +kernel
theorem dX12_meet_320 : decode cX12_meet 320 = .ok (.iload_n 3, 1) := by decide +kernel
theorem dX12_meet_321 : decode cX12_meet 321 = .ok (.iconst 1, 1) := by decide +kernel
theorem dX12_meet_322 : decode cX12_meet 322 = .ok (.iadd, 1) := by decide +kernel
theorem dX12_meet_323 : decode cX12_meet 323 = .ok (.iload 4, 2) := by decide +kernel
theorem dX12_meet_325 : decode cX12_meet 325 = .ok (.iconst 1, 1) := by decide +kernel
theorem dX12_meet_326 : decode cX12_meet 326 = .ok (.iadd, 1) := by decide +kernel
theorem dX12_meet_327 : decode cX12_meet 327 = .ok (.iload_n 1, 1) := by decide +kernel
theorem dX12_meet_328 : decode cX12_meet 328 = .ok (.iload_n 2, 1) := by decide +kernel
theorem dX12_meet_329 : decode cX12_meet 329 = .ok (.invokevirtual 346, 3) := by decide +kernel
theorem dX12_meet_332 : decode cX12_meet 332 = .ok (.iload 5, 2) := by decide +kernel
theorem dX12_meet_334 : decode cX12_meet 334 = .ok (.if_icmp .ne 7, 3) := by decide +kernel
theorem dX12_meet_337 : decode cX12_meet 337 = .ok (.iconst 0, 1) := by decide +kernel
theorem dX12_meet_338 : decode cX12_meet 338 = .ok (.goto 24, 3) := by decide +kernel
theorem dX12_meet_341 : decode cX12_meet 341 = .ok (.aload_n 0, 1) := by decide +kernel
theorem dX12_meet_342 : decode cX12_meet 342 = .ok (.iload_n 3, 1) := by decide +kernel
theorem dX12_meet_343 : decode cX12_meet 343 = .ok (.iconst 1, 1) := by decide +kernel
theorem dX12_meet_344 : decode cX12_meet 344 = .ok (.iadd, 1) := by decide +kernel
theorem dX12_meet_345 : decode cX12_meet 345 = .ok (.iload 4, 2) := by decide +kernel
theorem dX12_meet_347 : decode cX12_meet 347 = .ok (.iload_n 1, 1) := by decide +kernel
theorem dX12_meet_348 : decode cX12_meet 348 = .ok (.iload_n 2, 1) := by decide +kernel
theorem dX12_meet_349 : decode cX12_meet 349 = .ok (.invokevirtual 346, 3) := by decide +kernel
theorem dX12_meet_352 : decode cX12_meet 352 = .ok (.iload 5, 2) := by decide +kernel
theorem dX12_meet_354 : decode cX12_meet 354 = .ok (.if_icmp .ne 7, 3) := by decide +kernel
theorem dX12_meet_357 : decode cX12_meet 357 = .ok (.iconst 1, 1) := by decide +kernel
theorem dX12_meet_358 : decode cX12_meet 358 = .ok (.goto 4, 3) := by decide +kernel
theorem dX12_meet_361 : decode cX12_meet 361 = .ok (.iconst 2, 1) := by decide +kernel
theorem dX12_meet_362 : decode cX12_meet 362 = .ok (.istore 6, 2) := by decide +kernel
theorem dX12_meet_364 : decode cX12_meet 364 = .ok (.iload_n 3, 1) := by decide +kernel
theorem dX12_meet_365 : decode cX12_meet 365 = .ok (.iload 6, 2) := by decide +kernel
theorem dX12_meet_367 : decode cX12_meet 367 = .ok (.iconst 2, 1) := by decide +kernel
theorem dX12_meet_368 : decode cX12_meet 368 = .ok (.if_icmp .ge 7, 3) := by decide +kernel
theorem dX12_meet_371 : decode cX12_meet 371 = .ok (.iconst 1, 1) := by decide +kernel
theorem dX12_meet_372 : decode cX12_meet 372 = .ok (.goto 4, 3) := by decide +kernel
theorem dX12_meet_375 : decode cX12_meet 375 = .ok (.iconst 0, 1) := by decide +kernel
theorem dX12_meet_376 : decode cX12_meet 376 = .ok (.iadd, 1) := by decide +kernel
theorem dX12_meet_377 : decode cX12_meet 377 = .ok (.istore_n 3, 1) := by decide +kernel
theorem dX12_meet_378 : decode cX12_meet 378 = .ok (.iload 4, 2) := by decide +kernel
theorem dX12_meet_380 : decode cX12_meet 380 = .ok (.iload 6, 2) := by decide +kernel
theorem dX12_meet_382 : decode cX12_meet 382 = .ok (.iconst 1, 1) := by decide +kernel
theorem dX12_meet_383 : decode cX12_meet 383 = .ok (.if_icmp .ne 7, 3) := by decide +kernel
theorem dX12_meet_386 : decode cX12_meet 386 = .ok (.iconst 0, 1) := by decide +kernel
theorem dX12_meet_387 : decode cX12_meet 387 = .ok (.goto 4, 3) := by decide +kernel
theorem dX12_meet_390 : decode cX12_meet 390 = .ok (.iconst 1, 1) := by decide +kernel
theorem dX12_meet_391 : decode cX12_meet 391 = .ok (.iadd, 1) := by decide +kernel
theorem dX12_meet_392 : decode cX12_meet 392 = .ok (.istore 4, 2) := by decide +kernel
theorem dX12_meet_394 : decode cX12_meet 394 = .ok (.aload_n 0, 1) := by decide +kernel
theorem dX12_meet_395 : decode cX12_meet 395 = .ok (.getfield 105, 3) := by decide +kernel
theorem dX12_meet_398 : decode cX12_meet 398 = .ok (.aload_n 0, 1) := by decide +kernel
theorem dX12_meet_399 : decode cX12_meet 399 = .ok (.getfield 352, 3) := by decide +kernel
theorem dX12_meet_402 : decode cX12_meet 402 = .ok (.iload_n 3, 1) := by decide +kernel
theorem dX12_meet_403 : decode cX12_meet 403 = .ok (.bipush 64, 2) := by decide +kernel
theorem dX12_meet_405 : decode cX12_meet 405 = .ok (.iload 4, 2) := by decide +kernel
theorem dX12_meet_407 : decode cX12_meet 407 = .ok (.imul, 1) := by decide +kernel
theorem dX12_meet_408 : decode cX12_meet 408 = .ok (.iadd, 1) := by decide +kernel
theorem dX12_meet_409 : decode cX12_meet 409 = .ok (.iastore, 1) := by decide +kernel
theorem dX12_meet_410 : decode cX12_meet 410 = .ok (.aload_n 0, 1) := by decide +kernel
theorem dX12_meet_411 : decode cX12_meet 411 = .ok (.dup, 1) := by decide +kernel
theorem dX12_meet_412 : decode cX12_meet 412 = .ok (.getfield 352, 3) := by decide +kernel
theorem dX12_meet_415 : decode cX12_meet 415 = .ok (.iconst 1, 1) := by decide +kernel
theorem dX12_meet_416 : decode cX12_meet 416 = .ok (.iadd, 1) := by decide +kernel
theorem dX12_meet_417 : decode cX12_meet 417 = .ok (.putfield 352, 3) := by decide +kernel
theorem dX12_meet_420 : decode cX12_meet 420 = .ok (.goto (-132), 3) := by decide +kernel
theorem dX12_meet_423 : decode cX12_meet 423 = .ok (.aload_n 0, 1) := by decide +kernel
theorem dX12_meet_424 : decode cX12_meet 424 = .ok (.getfield 352, 3) := by decide +kernel
theorem dX12_meet_427 : decode cX12_meet 427 = .ok (.iconst 1, 1) := by decide +kernel
theorem dX12_meet_428 : decode cX12_meet 428 = .ok (.isub, 1) := by decide +kernel
theorem dX12_meet_429 : decode cX12_meet 429 = .ok (.ireturn, 1) := by decide +kernel
theorem dX12_met_0 : decode cX12_met 0 = .ok (.aload_n 0, 1) := by decide +kernel
theorem dX12_met_1 : decode cX12_met 1 = .ok (.iconst 0, 1) := by decide +kernel
theorem dX12_met_2 : decode cX12_met 2 = .ok (.putfield 135, 3) := by decide +kernel
theorem dX12_met_5 : decode cX12_met 5 = .ok (.iload_n 1, 1) := by decide +kernel
theorem dX12_met_6 : decode cX12_met 6 = .ok (.ifCond .lt 11, 3) := by decide +kernel
theorem dX12_met_9 : decode cX12_met 9 = .ok (.iload_n 1, 1) := by decide +kernel
theorem dX12_met_10 : decode cX12_met 10 = .ok (.aload_n 0, 1) := by decide +kernel
theorem dX12_met_11 : decode cX12_met 11 = .ok (.getfield 352, 3) := by decide +kernel
theorem dX12_met_14 : decode cX12_met 14 = .ok (.if_icmp .lt 7, 3) := by decide +kernel
theorem dX12_met_17 : decode cX12_met 17 = .ok (.iconst (-1), 1) := by decide +kernel
theorem dX12_met_18 : decode cX12_met 18 = .ok (.goto 9, 3) := by decide +kernel
theorem dX12_met_21 : decode cX12_met 21 = .ok (.aload_n 0, 1) := by decide +kernel
theorem dX12_met_22 : decode cX12_met 22 = .ok (.getfield 105, 3) := by decide +kernel
theorem dX12_met_25 : decode cX12_met 25 = .ok (.iload_n 1, 1) := by decide +kernel
theorem dX12_met_26 : decode cX12_met 26 = .ok (.iaload, 1) := by decide +kernel
theorem dX12_met_27 : decode cX12_met 27 = .ok (.ireturn, 1) := by decide +kernel
theorem dX12_timeOf_0 : decode cX12_timeOf 0 = .ok (.iload_n 2, 1) := by decide +kernel
theorem dX12_timeOf_1 : decode cX12_timeOf 1 = .ok (.ifCond .ne 5, 3) := by decide +kernel
theorem dX12_timeOf_4 : decode cX12_timeOf 4 = .ok (.iconst 0, 1) := by decide +kernel
theorem dX12_timeOf_5 : decode cX12_timeOf 5 = .ok (.ireturn, 1) := by decide +kernel
theorem dX12_timeOf_6 : decode cX12_timeOf 6 = .ok (.iconst (-1), 1) := by decide +kernel
theorem dX12_timeOf_7 : decode cX12_timeOf 7 = .ok (.istore 4, 2) := by decide +kernel
theorem dX12_timeOf_9 : decode cX12_timeOf 9 = .ok (.iconst 0, 1) := by decide +kernel
theorem dX12_timeOf_10 : decode cX12_timeOf 10 = .ok (.istore 5, 2) := by decide +kernel
theorem dX12_timeOf_12 : decode cX12_timeOf 12 = .ok (.iload 5, 2) := by decide +kernel
theorem dX12_timeOf_14 : decode cX12_timeOf 14 = .ok (.aload_n 0, 1) := by decide +kernel
theorem dX12_timeOf_15 : decode cX12_timeOf 15 = .ok (.getfield 355, 3) := by decide +kernel
theorem dX12_timeOf_18 : decode cX12_timeOf 18 = .ok (.if_icmp .ge 118, 3) := by decide +kernel
theorem dX12_timeOf_21 : decode cX12_timeOf 21 = .ok (.aload_n 0, 1) := by decide +kernel
theorem dX12_timeOf_22 : decode cX12_timeOf 22 = .ok (.getfield 120, 3) := by decide +kernel
theorem dX12_timeOf_25 : decode cX12_timeOf 25 = .ok (.iload 5, 2) := by decide +kernel
theorem dX12_timeOf_27 : decode cX12_timeOf 27 = .ok (.iaload, 1) := by decide +kernel
theorem dX12_timeOf_28 : decode cX12_timeOf 28 = .ok (.istore 6, 2) := by decide +kernel
theorem dX12_timeOf_30 : decode cX12_timeOf 30 = .ok (.iload_n 2, 1) := by decide +kernel
theorem dX12_timeOf_31 : decode cX12_timeOf 31 = .ok (.iload 6, 2) := by decide +kernel
theorem dX12_timeOf_33 : decode cX12_timeOf 33 = .ok (.ishr, 1) := by decide +kernel
theorem dX12_timeOf_34 : decode cX12_timeOf 34 = .ok (.iconst 1, 1) := by decide +kernel
theorem dX12_timeOf_35 : decode cX12_timeOf 35 = .ok (.iand, 1) := by decide +kernel
theorem dX12_timeOf_36 : decode cX12_timeOf 36 = .ok (.ifCond .ne 6, 3) := by decide +kernel
theorem dX12_timeOf_39 : decode cX12_timeOf 39 = .ok (.goto 91, 3) := by decide +kernel
theorem dX12_timeOf_42 : decode cX12_timeOf 42 = .ok (.iload_n 3, 1) := by decide +kernel
theorem dX12_timeOf_43 : decode cX12_timeOf 43 = .ok (.iconst (-1), 1) := by decide +kernel
theorem dX12_timeOf_44 : decode cX12_timeOf 44 = .ok (.if_icmp .ne 7, 3) := by decide +kernel
theorem dX12_timeOf_47 : decode cX12_timeOf 47 = .ok (.iconst 0, 1) := by decide +kernel
theorem dX12_timeOf_48 : decode cX12_timeOf 48 = .ok (.goto 35, 3) := by decide +kernel
theorem dX12_timeOf_51 : decode cX12_timeOf 51 = .ok (.iconst 0, 1) := by decide +kernel
theorem dX12_timeOf_52 : decode cX12_timeOf 52 = .ok (.aload_n 0, 1) := by decide +kernel
theorem dX12_timeOf_53 : decode cX12_timeOf 53 = .ok (.iload_n 1, 1) := by decide +kernel
theorem dX12_timeOf_54 : decode cX12_timeOf 54 = .ok (.aload_n 0, 1) := by decide +kernel
theorem dX12_timeOf_55 : decode cX12_timeOf 55 = .ok (.getfield 117, 3) := by decide +kernel
theorem dX12_timeOf_58 : decode cX12_timeOf 58 = .ok (.iconst 2, 1) := by decide +kernel
theorem dX12_timeOf_59 : decode cX12_timeOf 59 = .ok (.iload_n 3, 1) := by decide +kernel
theorem dX12_timeOf_60 : decode cX12_timeOf 60 = .ok (.imul, 1) := by decide +kernel
theorem dX12_timeOf_61 : decode cX12_timeOf 61 = .ok (.iload_n 1, 1) := by decide +kernel
theorem dX12_timeOf_62 : decode cX12_timeOf 62 = .ok (.iadd, 1) := by decide +kernel
theorem dX12_timeOf_63 : decode cX12_timeOf 63 = .ok (.iaload, 1) := by decide +kernel
theorem dX12_timeOf_64 : decode cX12_timeOf 64 = .ok (.aload_n 0, 1) := by decide +kernel
theorem dX12_timeOf_65 : decode cX12_timeOf 65 = .ok (.getfield 114, 3) := by decide +kernel
theorem dX12_timeOf_68 : decode cX12_timeOf 68 = .ok (.iconst 2, 1) := by decide +kernel
theorem dX12_timeOf_69 : decode cX12_timeOf 69 = .ok (.iload 6, 2) := by decide +kernel
theorem dX12_timeOf_71 : decode cX12_timeOf 71 = .ok (.imul, 1) := by decide +kernel
theorem dX12_timeOf_72 : decode cX12_timeOf 72 = .ok (.iload_n 1, 1) := by decide +kernel
theorem dX12_timeOf_73 : decode cX12_timeOf 73 = .ok (.iadd, 1) := by decide +kernel
theorem dX12_timeOf_74 : decode cX12_timeOf 74 = .ok (.iaload, 1) := by decide +kernel
theorem dX12_timeOf_75 : decode cX12_timeOf 75 = .ok (.invokevirtual 177, 3) := by decide +kernel
theorem dX12_timeOf_78 : decode cX12_timeOf 78 = .ok (.iconst 1, 1) := by decide +kernel
theorem dX12_timeOf_79 : decode cX12_timeOf 79 = .ok (.isub, 1) := by decide +kernel
theorem dX12_timeOf_80 : decode cX12_timeOf 80 = .ok (.invokestatic 174, 3) := by decide +kernel
theorem dX12_timeOf_83 : decode cX12_timeOf 83 = .ok (.istore 7, 2) := by decide +kernel
theorem dX12_timeOf_85 : decode cX12_timeOf 85 = .ok (.iload 7, 2) := by decide +kernel
theorem dX12_timeOf_87 : decode cX12_timeOf 87 = .ok (.aload_n 0, 1) := by decide +kernel
theorem dX12_timeOf_88 : decode cX12_timeOf 88 = .ok (.getfield 54, 3) := by decide +kernel
theorem dX12_timeOf_91 : decode cX12_timeOf 91 = .ok (.iload 6, 2) := by decide +kernel
theorem dX12_timeOf_93 : decode cX12_timeOf 93 = .ok (.iaload, 1) := by decide +kernel
theorem dX12_timeOf_94 : decode cX12_timeOf 94 = .ok (.iadd, 1) := by decide +kernel
theorem dX12_timeOf_95 : decode cX12_timeOf 95 = .ok (.aload_n 0, 1) := by decide +kernel
theorem dX12_timeOf_96 : decode cX12_timeOf 96 = .ok (.iload_n 1, 1) := by decide +kernel
theorem dX12_timeOf_97 : decode cX12_timeOf 97 = .ok (.iload_n 2, 1) := by decide +kernel
theorem dX12_timeOf_98 : decode cX12_timeOf 98 = .ok (.iconst 1, 1) := by decide +kernel
theorem dX12_timeOf_99 : decode cX12_timeOf 99 = .ok (.iload 6, 2) := by decide +kernel
theorem dX12_timeOf_101 : decode cX12_timeOf 101 = .ok (.ishl, 1) := by decide +kernel
theorem dX12_timeOf_102 : decode cX12_timeOf 102 = .ok (.iconst (-1), 1) := by decide +kernel
theorem dX12_timeOf_103 : decode cX12_timeOf 103 = .ok (.ixor, 1) := by decide +kernel
theorem dX12_timeOf_104 : decode cX12_timeOf 104 = .ok (.iand, 1) := by decide +kernel
theorem dX12_timeOf_105 : decode cX12_timeOf 105 = .ok (.iload 6, 2) := by decide +kernel
theorem dX12_timeOf_107 : decode cX12_timeOf 107 = .ok (.invokevirtual 358, 3) := by decide +kernel
theorem dX12_timeOf_110 : decode cX12_timeOf 110 = .ok (.iadd, 1) := by decide +kernel
theorem dX12_timeOf_111 : decode cX12_timeOf 111 = .ok (.istore 8, 2) := by decide +kernel
theorem dX12_timeOf_113 : decode cX12_timeOf 113 = .ok (.iload 4, 2) := by decide +kernel
theorem dX12_timeOf_115 : decode cX12_timeOf 115 = .ok (.iconst (-1), 1) := by decide +kernel
theorem dX12_timeOf_116 : decode cX12_timeOf 116 = .ok (.if_icmp .eq 10, 3) := by decide +kernel
theorem dX12_timeOf_119 : decode cX12_timeOf 119 = .ok (.iload 8, 2) := by decide +kernel
theorem dX12_timeOf_121 : decode cX12_timeOf 121 = .ok (.iload 4, 2) := by decide +kernel
theorem dX12_timeOf_123 : decode cX12_timeOf 123 = .ok (.if_icmp .ge 7, 3) := by decide +kernel
theorem dX12_timeOf_126 : decode cX12_timeOf 126 = .ok (.iload 8, 2) := by decide +kernel
theorem dX12_timeOf_128 : decode cX12_timeOf 128 = .ok (.istore 4, 2) := by decide +kernel
theorem dX12_timeOf_130 : decode cX12_timeOf 130 = .ok (.iinc 5 1, 3) := by decide +kernel
theorem dX12_timeOf_133 : decode cX12_timeOf 133 = .ok (.goto (-121), 3) := by decide +kernel
theorem dX12_timeOf_136 : decode cX12_timeOf 136 = .ok (.iload 4, 2) := by decide +kernel
theorem dX12_timeOf_138 : decode cX12_timeOf 138 = .ok (.ireturn, 1) := by decide +kernel
theorem dX12_share_0 : decode cX12_share 0 = .ok (.aload_n 0, 1) := by decide +kernel
theorem dX12_share_1 : decode cX12_share 1 = .ok (.iconst 0, 1) := by decide +kernel
theorem dX12_share_2 : decode cX12_share 2 = .ok (.putfield 135, 3) := by decide +kernel
theorem dX12_share_5 : decode cX12_share 5 = .ok (.iload_n 1, 1) := by decide +kernel
theorem dX12_share_6 : decode cX12_share 6 = .ok (.ifCond .le 55, 3) := by decide +kernel
theorem dX12_share_9 : decode cX12_share 9 = .ok (.iload_n 1, 1) := by decide +kernel
theorem dX12_share_10 : decode cX12_share 10 = .ok (.iconst 1, 1) := by decide +kernel
theorem dX12_share_11 : decode cX12_share 11 = .ok (.aload_n 0, 1) := by decide +kernel
theorem dX12_share_12 : decode cX12_share 12 = .ok (.getfield 152, 3) := by decide +kernel
theorem dX12_share_15 : decode cX12_share 15 = .ok (.ishl, 1) := by decide +kernel
theorem dX12_share_16 : decode cX12_share 16 = .ok (.if_icmp .ge 45, 3) := by decide +kernel
theorem dX12_share_19 : decode cX12_share 19 = .ok (.iload_n 2, 1) := by decide +kernel
theorem dX12_share_20 : decode cX12_share 20 = .ok (.invokestatic 330, 3) := by decide +kernel
theorem dX12_share_23 : decode cX12_share 23 = .ok (.ifCond .eq 38, 3) := by decide +kernel
theorem dX12_share_26 : decode cX12_share 26 = .ok (.iload_n 3, 1) := by decide +kernel
theorem dX12_share_27 : decode cX12_share 27 = .ok (.ifCond .lt 34, 3) := by decide +kernel
theorem dX12_share_30 : decode cX12_share 30 = .ok (.iload_n 3, 1) := by decide +kernel
theorem dX12_share_31 : decode cX12_share 31 = .ok (.iconst 1, 1) := by decide +kernel
theorem dX12_share_32 : decode cX12_share 32 = .ok (.if_icmp .gt 29, 3) := by decide +kernel
theorem dX12_share_35 : decode cX12_share 35 = .ok (.aload_n 0, 1) := by decide +kernel
theorem dX12_share_36 : decode cX12_share 36 = .ok (.getfield 141, 3) := by decide +kernel
theorem dX12_share_39 : decode cX12_share 39 = .ok (.iconst 2, 1) := by decide +kernel
theorem dX12_share_40 : decode cX12_share 40 = .ok (.if_icmp .lt 21, 3) := by decide +kernel
theorem dX12_share_43 : decode cX12_share 43 = .ok (.aload_n 0, 1) := by decide +kernel
theorem dX12_share_44 : decode cX12_share 44 = .ok (.getfield 24, 3) := by decide +kernel
theorem dX12_share_47 : decode cX12_share 47 = .ok (.iconst 0, 1) := by decide +kernel
theorem dX12_share_48 : decode cX12_share 48 = .ok (.iaload, 1) := by decide +kernel
theorem dX12_share_49 : decode cX12_share 49 = .ok (.ifCond .eq 12, 3) := by decide +kernel
theorem dX12_share_52 : decode cX12_share 52 = .ok (.aload_n 0, 1) := by decide +kernel
theorem dX12_share_53 : decode cX12_share 53 = .ok (.getfield 24, 3) := by decide +kernel
theorem dX12_share_56 : decode cX12_share 56 = .ok (.iconst 1, 1) := by decide +kernel
theorem dX12_share_57 : decode cX12_share 57 = .ok (.iaload, 1) := by decide +kernel
theorem dX12_share_58 : decode cX12_share 58 = .ok (.ifCond .ne 5, 3) := by decide +kernel
theorem dX12_share_61 : decode cX12_share 61 = .ok (.iconst (-1), 1) := by decide +kernel
theorem dX12_share_62 : decode cX12_share 62 = .ok (.ireturn, 1) := by decide +kernel
theorem dX12_share_63 : decode cX12_share 63 = .ok (.aload_n 0, 1) := by decide +kernel
theorem dX12_share_64 : decode cX12_share 64 = .ok (.iconst 0, 1) := by decide +kernel
theorem dX12_share_65 : decode cX12_share 65 = .ok (.putfield 355, 3) := by decide +kernel
theorem dX12_share_68 : decode cX12_share 68 = .ok (.iconst 0, 1) := by decide +kernel
theorem dX12_share_69 : decode cX12_share 69 = .ok (.istore 4, 2) := by decide +kernel
theorem dX12_share_71 : decode cX12_share 71 = .ok (.iload 4, 2) := by decide +kernel
theorem dX12_share_73 : decode cX12_share 73 = .ok (.aload_n 0, 1) := by decide +kernel
theorem dX12_share_74 : decode cX12_share 74 = .ok (.getfield 152, 3) := by decide +kernel
theorem dX12_share_77 : decode cX12_share 77 = .ok (.if_icmp .ge 62, 3) := by decide +kernel
theorem dX12_share_80 : decode cX12_share 80 = .ok (.iload_n 1, 1) := by decide +kernel
theorem dX12_share_81 : decode cX12_share 81 = .ok (.iload 4, 2) := by decide +kernel
theorem dX12_share_83 : decode cX12_share 83 = .ok (.ishr, 1) := by decide +kernel
theorem dX12_share_84 : decode cX12_share 84 = .ok (.iconst 1, 1) := by decide +kernel
theorem dX12_share_85 : decode cX12_share 85 = .ok (.iand, 1) := by decide +kernel
theorem dX12_share_86 : decode cX12_share 86 = .ok (.ifCond .ne 6, 3) := by decide +kernel
theorem dX12_share_89 : decode cX12_share 89 = .ok (.goto 44, 3) := by decide +kernel
theorem dX12_share_92 : decode cX12_share 92 = .ok (.aload_n 0, 1) := by decide +kernel
theorem dX12_share_93 : decode cX12_share 93 = .ok (.getfield 54, 3) := by decide +kernel
theorem dX12_share_96 : decode cX12_share 96 = .ok (.iload 4, 2) := by decide +kernel
theorem dX12_share_98 : decode cX12_share 98 = .ok (.iaload, 1) := by decide +kernel
theorem dX12_share_99 : decode cX12_share 99 = .ok (.ifCond .eq 11, 3) := by decide +kernel
theorem dX12_share_102 : decode cX12_share 102 = .ok (.aload_n 0, 1) := by decide +kernel
theorem dX12_share_103 : decode cX12_share 103 = .ok (.getfield 355, 3) := by decide +kernel
theorem dX12_share_106 : decode cX12_share 106 = .ok (.iconst 5, 1) := by decide +kernel
theorem dX12_share_107 : decode cX12_share 107 = .ok (.if_icmp .ne 5, 3) := by decide +kernel
theorem dX12_share_110 : decode cX12_share 110 = .ok (.iconst (-1), 1) := by decide +kernel
theorem dX12_share_111 : decode cX12_share 111 = .ok (.ireturn, 1) := by decide +kernel
theorem dX12_share_112 : decode cX12_share 112 = .ok (.aload_n 0, 1) := by decide +kernel
theorem dX12_share_113 : decode cX12_share 113 = .ok (.getfield 120, 3) := by decide +kernel
theorem dX12_share_116 : decode cX12_share 116 = .ok (.aload_n 0, 1) := by decide +kernel
theorem dX12_share_117 : decode cX12_share 117 = .ok (.getfield 355, 3) := by decide +kernel
theorem dX12_share_120 : decode cX12_share 120 = .ok (.iload 4, 2) := by decide +kernel
theorem dX12_share_122 : decode cX12_share 122 = .ok (.iastore, 1) := by decide +kernel
theorem dX12_share_123 : decode cX12_share 123 = .ok (.aload_n 0, 1) := by decide +kernel
theorem dX12_share_124 : decode cX12_share 124 = .ok (.dup, 1) := by decide +kernel
theorem dX12_share_125 : decode cX12_share 125 = .ok (.getfield 355, 3) := by decide +kernel
theorem dX12_share_128 : decode cX12_share 128 = .ok (.iconst 1, 1) := by decide +kernel
theorem dX12_share_129 : decode cX12_share 129 = .ok (.iadd, 1) := by decide +kernel
theorem dX12_share_130 : decode cX12_share 130 = .ok (.putfield 355, 3) := by decide +kernel
theorem dX12_share_133 : decode cX12_share 133 = .ok (.iinc 4 1, 3) := by decide +kernel
theorem dX12_share_136 : decode cX12_share 136 = .ok (.goto (-65), 3) := by decide +kernel
theorem dX12_share_139 : decode cX12_share 139 = .ok (.aload_n 0, 1) := by decide +kernel
theorem dX12_share_140 : decode cX12_share 140 = .ok (.getfield 85, 3) := by decide +kernel
theorem dX12_share_143 : decode cX12_share 143 = .ok (.istore 4, 2) := by decide +kernel
theorem dX12_share_145 : decode cX12_share 145 = .ok (.iconst 0, 1) := by decide +kernel
theorem dX12_share_146 : decode cX12_share 146 = .ok (.istore 5, 2) := by decide +kernel
theorem dX12_share_148 : decode cX12_share 148 = .ok (.iload 5, 2) := by decide +kernel
theorem dX12_share_150 : decode cX12_share 150 = .ok (.aload_n 0, 1) := by decide +kernel
theorem dX12_share_151 : decode cX12_share 151 = .ok (.getfield 355, 3) := by decide +kernel
theorem dX12_share_154 : decode cX12_share 154 = .ok (.if_icmp .ge 197, 3) := by decide +kernel
theorem dX12_share_157 : decode cX12_share 157 = .ok (.aload_n 0, 1) := by decide +kernel
theorem dX12_share_158 : decode cX12_share 158 = .ok (.getfield 120, 3) := by decide +kernel
theorem dX12_share_161 : decode cX12_share 161 = .ok (.iload 5, 2) := by decide +kernel
theorem dX12_share_163 : decode cX12_share 163 = .ok (.iaload, 1) := by decide +kernel
theorem dX12_share_164 : decode cX12_share 164 = .ok (.istore 6, 2) := by decide +kernel
theorem dX12_share_166 : decode cX12_share 166 = .ok (.iconst 0, 1) := by decide +kernel
theorem dX12_share_167 : decode cX12_share 167 = .ok (.istore 7, 2) := by decide +kernel
theorem dX12_share_169 : decode cX12_share 169 = .ok (.iload 7, 2) := by decide +kernel
theorem dX12_share_171 : decode cX12_share 171 = .ok (.iconst 2, 1) := by decide +kernel
theorem dX12_share_172 : decode cX12_share 172 = .ok (.if_icmp .ge 173, 3) := by decide +kernel
theorem dX12_share_175 : decode cX12_share 175 = .ok (.aload_n 0, 1) := by decide +kernel
theorem dX12_share_176 : decode cX12_share 176 = .ok (.getfield 111, 3) := by decide +kernel
theorem dX12_share_179 : decode cX12_share 179 = .ok (.iconst 2, 1) := by decide +kernel
theorem dX12_share_180 : decode cX12_share 180 = .ok (.iload 6, 2) := by decide +kernel
theorem dX12_share_182 : decode cX12_share 182 = .ok (.imul, 1) := by decide +kernel
theorem dX12_share_183 : decode cX12_share 183 = .ok (.iload 7, 2) := by decide +kernel
theorem dX12_share_185 : decode cX12_share 185 = .ok (.iadd, 1) := by decide +kernel
theorem dX12_share_186 : decode cX12_share 186 = .ok (.iload 7, 2) := by decide +kernel
theorem dX12_share_188 : decode cX12_share 188 = .ok (.aload_n 0, 1) := by decide +kernel
theorem dX12_share_189 : decode cX12_share 189 = .ok (.getfield 51, 3) := by decide +kernel
theorem dX12_share_192 : decode cX12_share 192 = .ok (.iload 6, 2) := by decide +kernel
theorem dX12_share_194 : decode cX12_share 194 = .ok (.iaload, 1) := by decide +kernel
theorem dX12_share_195 : decode cX12_share 195 = .ok (.if_icmp .eq 16, 3) := by decide +kernel
theorem dX12_share_198 : decode cX12_share 198 = .ok (.aload_n 0, 1) := by decide +kernel
theorem dX12_share_199 : decode cX12_share 199 = .ok (.iload 6, 2) := by decide +kernel
theorem dX12_share_201 : decode cX12_share 201 = .ok (.iload 7, 2) := by decide +kernel
theorem dX12_share_203 : decode cX12_share 203 = .ok (.iconst 0, 1) := by decide +kernel
theorem dX12_share_204 : decode cX12_share 204 = .ok (.iload_n 2, 1) := by decide +kernel
theorem dX12_share_205 : decode cX12_share 205 = .ok (.invokevirtual 333, 3) := by decide +kernel
theorem dX12_share_208 : decode cX12_share 208 = .ok (.ifCond .eq 7, 3) := by decide +kernel
theorem dX12_share_211 : decode cX12_share 211 = .ok (.iconst 1, 1) := by decide +kernel
theorem dX12_share_212 : decode cX12_share 212 = .ok (.goto 4, 3) := by decide +kernel
theorem dX12_share_215 : decode cX12_share 215 = .ok (.iconst 0, 1) := by decide +kernel
theorem dX12_share_216 : decode cX12_share 216 = .ok (.bastore, 1) := by decide +kernel
theorem dX12_share_217 : decode cX12_share 217 = .ok (.aload_n 0, 1) := by decide +kernel
theorem dX12_share_218 : decode cX12_share 218 = .ok (.getfield 111, 3) := by decide +kernel
theorem dX12_share_221 : decode cX12_share 221 = .ok (.iconst 2, 1) := by decide +kernel
theorem dX12_share_222 : decode cX12_share 222 = .ok (.iload 6, 2) := by decide +kernel
theorem dX12_share_224 : decode cX12_share 224 = .ok (.imul, 1) := by decide +kernel
theorem dX12_share_225 : decode cX12_share 225 = .ok (.iload 7, 2) := by decide +kernel
theorem dX12_share_227 : decode cX12_share 227 = .ok (.iadd, 1) := by decide +kernel
theorem dX12_share_228 : decode cX12_share 228 = .ok (.baload, 1) := by decide +kernel
theorem dX12_share_229 : decode cX12_share 229 = .ok (.ifCond .ne 6, 3) := by decide +kernel
theorem dX12_share_232 : decode cX12_share 232 = .ok (.goto 107, 3) := by decide +kernel
theorem dX12_share_235 : decode cX12_share 235 = .ok (.aload_n 0, 1) := by decide +kernel
theorem dX12_share_236 : decode cX12_share 236 = .ok (.getfield 114, 3) := by decide +kernel
theorem dX12_share_239 : decode cX12_share 239 = .ok (.iconst 2, 1) := by decide +kernel
theorem dX12_share_240 : decode cX12_share 240 = .ok (.iload 6, 2) := by decide +kernel
theorem dX12_share_242 : decode cX12_share 242 = .ok (.imul, 1) := by decide +kernel
theorem dX12_share_243 : decode cX12_share 243 = .ok (.iload 7, 2) := by decide +kernel
theorem dX12_share_245 : decode cX12_share 245 = .ok (.iadd, 1) := by decide +kernel
theorem dX12_share_246 : decode cX12_share 246 = .ok (.iload 7, 2) := by decide +kernel
theorem dX12_share_248 : decode cX12_share 248 = .ok (.aload_n 0, 1) := by decide +kernel
theorem dX12_share_249 : decode cX12_share 249 = .ok (.getfield 51, 3) := by decide +kernel
theorem dX12_share_252 : decode cX12_share 252 = .ok (.iload 6, 2) := by decide +kernel
theorem dX12_share_254 : decode cX12_share 254 = .ok (.iaload, 1) := by decide +kernel
theorem dX12_share_255 : decode cX12_share 255 = .ok (.if_icmp .ne 16, 3) := by decide +kernel
theorem dX12_share_258 : decode cX12_share 258 = .ok (.aload_n 0, 1) := by decide +kernel
theorem dX12_share_259 : decode cX12_share 259 = .ok (.getfield 57, 3) := by decide +kernel
theorem dX12_share_262 : decode cX12_share 262 = .ok (.bipush 40, 2) := by decide +kernel
theorem dX12_share_264 : decode cX12_share 264 = .ok (.iload 6, 2) := by decide +kernel
theorem dX12_share_266 : decode cX12_share 266 = .ok (.imul, 1) := by decide +kernel
theorem dX12_share_267 : decode cX12_share 267 = .ok (.iaload, 1) := by decide +kernel
theorem dX12_share_268 : decode cX12_share 268 = .ok (.goto 9, 3) := by decide +kernel
theorem dX12_share_271 : decode cX12_share 271 = .ok (.aload_n 0, 1) := by decide +kernel
theorem dX12_share_272 : decode cX12_share 272 = .ok (.getfield 99, 3) := by decide +kernel
theorem dX12_share_275 : decode cX12_share 275 = .ok (.iconst 0, 1) := by decide +kernel
theorem dX12_share_276 : decode cX12_share 276 = .ok (.iaload, 1) := by decide +kernel
theorem dX12_share_277 : decode cX12_share 277 = .ok (.iastore, 1) := by decide +kernel
theorem dX12_share_278 : decode cX12_share 278 = .ok (.aload_n 0, 1) := by decide +kernel
theorem dX12_share_279 : decode cX12_share 279 = .ok (.getfield 117, 3) := by decide +kernel
theorem dX12_share_282 : decode cX12_share 282 = .ok (.iconst 2, 1) := by decide +kernel
theorem dX12_share_283 : decode cX12_share 283 = .ok (.iload 6, 2) := by decide +kernel
theorem dX12_share_285 : decode cX12_share 285 = .ok (.imul, 1) := by decide +kernel
theorem dX12_share_286 : decode cX12_share 286 = .ok (.iload 7, 2) := by decide +kernel
theorem dX12_share_288 : decode cX12_share 288 = .ok (.iadd, 1) := by decide +kernel
theorem dX12_share_289 : decode cX12_share 289 = .ok (.iload 7, 2) := by decide +kernel
theorem dX12_share_291 : decode cX12_share 291 = .ok (.aload_n 0, 1) := by decide +kernel
theorem dX12_share_292 : decode cX12_share 292 = .ok (.getfield 51, 3) := by decide +kernel
theorem dX12_share_295 : decode cX12_share 295 = .ok (.iload 6, 2) := by decide +kernel
theorem dX12_share_297 : decode cX12_share 297 = .ok (.iaload, 1) := by decide +kernel
theorem dX12_share_298 : decode cX12_share 298 = .ok (.if_icmp .ne 26, 3) := by decide +kernel
theorem dX12_share_301 : decode cX12_share 301 = .ok (.aload_n 0, 1) := by decide +kernel
theorem dX12_share_302 : decode cX12_share 302 = .ok (.getfield 57, 3) := by decide +kernel
theorem dX12_share_305 : decode cX12_share 305 = .ok (.bipush 40, 2) := by decide +kernel
theorem dX12_share_307 : decode cX12_share 307 = .ok (.iload 6, 2) := by decide +kernel
theorem dX12_share_309 : decode cX12_share 309 = .ok (.imul, 1) := by decide +kernel
theorem dX12_share_310 : decode cX12_share 310 = .ok (.aload_n 0, 1) := by decide +kernel
theorem dX12_share_311 : decode cX12_share 311 = .ok (.getfield 54, 3) := by decide +kernel
theorem dX12_share_314 : decode cX12_share 314 = .ok (.iload 6, 2) := by decide +kernel
theorem dX12_share_316 : decode cX12_share 316 = .ok (.iaload, 1) := by decide +kernel
theorem dX12_share_317 : decode cX12_share 317 = .ok (.iadd, 1) := by decide +kernel
theorem dX12_share_318 : decode cX12_share 318 = .ok (.iconst 1, 1) := by decide +kernel
theorem dX12_share_319 : decode cX12_share 319 = .ok (.isub, 1) := by decide +kernel
theorem dX12_share_320 : decode cX12_share 320 = .ok (.iaload, 1) := by decide +kernel
theorem dX12_share_321 : decode cX12_share 321 = .ok (.goto 17, 3) := by decide +kernel
theorem dX12_share_324 : decode cX12_share 324 = .ok (.aload_n 0, 1) := by decide +kernel
theorem dX12_share_325 : decode cX12_share 325 = .ok (.getfield 99, 3) := by decide +kernel
theorem dX12_share_328 : decode cX12_share 328 = .ok (.aload_n 0, 1) := by decide +kernel
theorem dX12_share_329 : decode cX12_share 329 = .ok (.getfield 54, 3) := by decide +kernel
theorem dX12_share_332 : decode cX12_share 332 = .ok (.iload 6, 2) := by decide +kernel
theorem dX12_share_334 : decode cX12_share 334 = .ok (.iaload, 1) := by decide +kernel
theorem dX12_share_335 : decode cX12_share 335 = .ok (.iconst 1, 1) := by decide +kernel
theorem dX12_share_336 : decode cX12_share 336 = .ok (.isub, 1) := by decide +kernel
theorem dX12_share_337 : decode cX12_share 337 = .ok (.iaload, 1) := by decide +kernel
theorem dX12_share_338 : decode cX12_share 338 = .ok (.iastore, 1) := by decide +kernel
theorem dX12_share_339 : decode cX12_share 339 = .ok (.iinc 7 1, 3) := by decide +kernel
theorem dX12_share_342 : decode cX12_share 342 = .ok (.goto (-173), 3) := by decide +kernel
theorem dX12_share_345 : decode cX12_share 345 = .ok (.iinc 5 1, 3) := by decide +kernel
theorem dX12_share_348 : decode cX12_share 348 = .ok (.goto (-200), 3) := by decide +kernel
theorem dX12_share_351 : decode cX12_share 351 = .ok (.aload_n 0, 1) := by decide +kernel
theorem dX12_share_352 : decode cX12_share 352 = .ok (.iload 4, 2) := by decide +kernel
theorem dX12_share_354 : decode cX12_share 354 = .ok (.putfield 85, 3) := by decide +kernel
theorem dX12_share_357 : decode cX12_share 357 = .ok (.iconst (-1), 1) := by decide +kernel
theorem dX12_share_358 : decode cX12_share 358 = .ok (.istore 5, 2) := by decide +kernel
theorem dX12_share_360 : decode cX12_share 360 = .ok (.iconst 0, 1) := by decide +kernel
theorem dX12_share_361 : decode cX12_share 361 = .ok (.istore 6, 2) := by decide +kernel
theorem dX12_share_363 : decode cX12_share 363 = .ok (.iconst 0, 1) := by decide +kernel
theorem dX12_share_364 : decode cX12_share 364 = .ok (.istore 7, 2) := by decide +kernel
theorem dX12_share_366 : decode cX12_share 366 = .ok (.iload 7, 2) := by decide +kernel
theorem dX12_share_368 : decode cX12_share 368 = .ok (.iconst 1, 1) := by decide +kernel
theorem dX12_share_369 : decode cX12_share 369 = .ok (.aload_n 0, 1) := by decide +kernel
theorem dX12_share_370 : decode cX12_share 370 = .ok (.getfield 152, 3) := by decide +kernel
theorem dX12_share_373 : decode cX12_share 373 = .ok (.ishl, 1) := by decide +kernel
theorem dX12_share_374 : decode cX12_share 374 = .ok (.if_icmp .ge 141, 3) := by decide +kernel
theorem dX12_share_377 : decode cX12_share 377 = .ok (.iload 7, 2) := by decide +kernel
theorem dX12_share_379 : decode cX12_share 379 = .ok (.iload_n 1, 1) := by decide +kernel
theorem dX12_share_380 : decode cX12_share 380 = .ok (.iconst (-1), 1) := by decide +kernel
theorem dX12_share_381 : decode cX12_share 381 = .ok (.ixor, 1) := by decide +kernel
theorem dX12_share_382 : decode cX12_share 382 = .ok (.iand, 1) := by decide +kernel
theorem dX12_share_383 : decode cX12_share 383 = .ok (.ifCond .eq 6, 3) := by decide +kernel
theorem dX12_share_386 : decode cX12_share 386 = .ok (.goto 123, 3) := by decide +kernel
theorem dX12_share_389 : decode cX12_share 389 = .ok (.iconst 1, 1) := by decide +kernel
theorem dX12_share_390 : decode cX12_share 390 = .ok (.istore 8, 2) := by decide +kernel
theorem dX12_share_392 : decode cX12_share 392 = .ok (.iconst 0, 1) := by decide +kernel
theorem dX12_share_393 : decode cX12_share 393 = .ok (.istore 9, 2) := by decide +kernel
theorem dX12_share_395 : decode cX12_share 395 = .ok (.iload 9, 2) := by decide +kernel
theorem dX12_share_397 : decode cX12_share 397 = .ok (.aload_n 0, 1) := by decide +kernel
theorem dX12_share_398 : decode cX12_share 398 = .ok (.getfield 355, 3) := by decide +kernel
theorem dX12_share_401 : decode cX12_share 401 = .ok (.if_icmp .ge 51, 3) := by decide +kernel
theorem dX12_share_404 : decode cX12_share 404 = .ok (.iload 8, 2) := by decide +kernel
theorem dX12_share_406 : decode cX12_share 406 = .ok (.ifCond .eq 37, 3) := by decide +kernel
theorem dX12_share_409 : decode cX12_share 409 = .ok (.aload_n 0, 1) := by decide +kernel
theorem dX12_share_410 : decode cX12_share 410 = .ok (.getfield 111, 3) := by decide +kernel
theorem dX12_share_413 : decode cX12_share 413 = .ok (.iconst 2, 1) := by decide +kernel
theorem dX12_share_414 : decode cX12_share 414 = .ok (.aload_n 0, 1) := by decide +kernel
theorem dX12_share_415 : decode cX12_share 415 = .ok (.getfield 120, 3) := by decide +kernel
theorem dX12_share_418 : decode cX12_share 418 = .ok (.iload 9, 2) := by decide +kernel
theorem dX12_share_420 : decode cX12_share 420 = .ok (.iaload, 1) := by decide +kernel
theorem dX12_share_421 : decode cX12_share 421 = .ok (.imul, 1) := by decide +kernel
theorem dX12_share_422 : decode cX12_share 422 = .ok (.iload 7, 2) := by decide +kernel
theorem dX12_share_424 : decode cX12_share 424 = .ok (.aload_n 0, 1) := by decide +kernel
theorem dX12_share_425 : decode cX12_share 425 = .ok (.getfield 120, 3) := by decide +kernel
theorem dX12_share_428 : decode cX12_share 428 = .ok (.iload 9, 2) := by decide +kernel
theorem dX12_share_430 : decode cX12_share 430 = .ok (.iaload, 1) := by decide +kernel
theorem dX12_share_431 : decode cX12_share 431 = .ok (.ishr, 1) := by decide +kernel
theorem dX12_share_432 : decode cX12_share 432 = .ok (.iconst 1, 1) := by decide +kernel
theorem dX12_share_433 : decode cX12_share 433 = .ok (.iand, 1) := by decide +kernel
theorem dX12_share_434 : decode cX12_share 434 = .ok (.iadd, 1) := by decide +kernel
theorem dX12_share_435 : decode cX12_share 435 = .ok (.baload, 1) := by decide +kernel
theorem dX12_share_436 : decode cX12_share 436 = .ok (.ifCond .eq 7, 3) := by decide +kernel
theorem dX12_share_439 : decode cX12_share 439 = .ok (.iconst 1, 1) := by decide +kernel
theorem dX12_share_440 : decode cX12_share 440 = .ok (.goto 4, 3) := by decide +kernel
theorem dX12_share_443 : decode cX12_share 443 = .ok (.iconst 0, 1) := by decide +kernel
theorem dX12_share_444 : decode cX12_share 444 = .ok (.istore 8, 2) := by decide +kernel
theorem dX12_share_446 : decode cX12_share 446 = .ok (.iinc 9 1, 3) := by decide +kernel
theorem dX12_share_449 : decode cX12_share 449 = .ok (.goto (-54), 3) := by decide +kernel
theorem dX12_share_452 : decode cX12_share 452 = .ok (.iload 8, 2) := by decide +kernel
theorem dX12_share_454 : decode cX12_share 454 = .ok (.ifCond .ne 6, 3) := by decide +kernel
theorem dX12_share_457 : decode cX12_share 457 = .ok (.goto 52, 3) := by decide +kernel
theorem dX12_share_460 : decode cX12_share 460 = .ok (.aload_n 0, 1) := by decide +kernel
theorem dX12_share_461 : decode cX12_share 461 = .ok (.iconst 0, 1) := by decide +kernel
theorem dX12_share_462 : decode cX12_share 462 = .ok (.iload_n 1, 1) := by decide +kernel
theorem dX12_share_463 : decode cX12_share 463 = .ok (.iload 7, 2) := by decide +kernel
theorem dX12_share_465 : decode cX12_share 465 = .ok (.iconst (-1), 1) := by decide +kernel
theorem dX12_share_466 : decode cX12_share 466 = .ok (.ixor, 1) := by decide +kernel
theorem dX12_share_467 : decode cX12_share 467 = .ok (.iand, 1) := by decide +kernel
theorem dX12_share_468 : decode cX12_share 468 = .ok (.iconst (-1), 1) := by decide +kernel
theorem dX12_share_469 : decode cX12_share 469 = .ok (.invokevirtual 358, 3) := by decide +kernel
theorem dX12_share_472 : decode cX12_share 472 = .ok (.aload_n 0, 1) := by decide +kernel
theorem dX12_share_473 : decode cX12_share 473 = .ok (.iconst 1, 1) := by decide +kernel
theorem dX12_share_474 : decode cX12_share 474 = .ok (.iload 7, 2) := by decide +kernel
theorem dX12_share_476 : decode cX12_share 476 = .ok (.iconst (-1), 1) := by decide +kernel
theorem dX12_share_477 : decode cX12_share 477 = .ok (.invokevirtual 358, 3) := by decide +kernel
theorem dX12_share_480 : decode cX12_share 480 = .ok (.invokestatic 174, 3) := by decide +kernel
theorem dX12_share_483 : decode cX12_share 483 = .ok (.istore 9, 2) := by decide +kernel
theorem dX12_share_485 : decode cX12_share 485 = .ok (.iload 5, 2) := by decide +kernel
theorem dX12_share_487 : decode cX12_share 487 = .ok (.iconst (-1), 1) := by decide +kernel
theorem dX12_share_488 : decode cX12_share 488 = .ok (.if_icmp .eq 13, 3) := by decide +kernel
theorem dX12_share_491 : decode cX12_share 491 = .ok (.iload 9, 2) := by decide +kernel
theorem dX12_share_493 : decode cX12_share 493 = .ok (.iload 6, 2) := by decide +kernel
theorem dX12_share_495 : decode cX12_share 495 = .ok (.if_icmp .lt 6, 3) := by decide +kernel
theorem dX12_share_498 : decode cX12_share 498 = .ok (.goto 11, 3) := by decide +kernel
theorem dX12_share_501 : decode cX12_share 501 = .ok (.iload 7, 2) := by decide +kernel
theorem dX12_share_503 : decode cX12_share 503 = .ok (.istore 5, 2) := by decide +kernel
theorem dX12_share_505 : decode cX12_share 505 = .ok (.iload 9, 2) := by decide +kernel
theorem dX12_share_507 : decode cX12_share 507 = .ok (.istore 6, 2) := by decide +kernel
theorem dX12_share_509 : decode cX12_share 509 = .ok (.iinc 7 1, 3) := by decide +kernel
theorem dX12_share_512 : decode cX12_share 512 = .ok (.goto (-146), 3) := by decide +kernel
theorem dX12_share_515 : decode cX12_share 515 = .ok (.iload_n 3, 1) := by decide +kernel
theorem dX12_share_516 : decode cX12_share 516 = .ok (.ifCond .ne 8, 3) := by decide +kernel
theorem dX12_share_519 : decode cX12_share 519 = .ok (.iload 6, 2) := by decide +kernel
theorem dX12_share_521 : decode cX12_share 521 = .ok (.goto 5, 3) := by decide +kernel
theorem dX12_share_524 : decode cX12_share 524 = .ok (.iload 5, 2) := by decide +kernel
theorem dX12_share_526 : decode cX12_share 526 = .ok (.ireturn, 1) := by decide +kernel
theorem dX12_wear_0 : decode cX12_wear 0 = .ok (.aload_n 0, 1) := by decide +kernel
theorem dX12_wear_1 : decode cX12_wear 1 = .ok (.iconst 0, 1) := by decide +kernel
theorem dX12_wear_2 : decode cX12_wear 2 = .ok (.putfield 135, 3) := by decide +kernel
theorem dX12_wear_5 : decode cX12_wear 5 = .ok (.aload_n 0, 1) := by decide +kernel
theorem dX12_wear_6 : decode cX12_wear 6 = .ok (.iload_n 1, 1) := by decide +kernel
theorem dX12_wear_7 : decode cX12_wear 7 = .ok (.invokevirtual 148, 3) := by decide +kernel
theorem dX12_wear_10 : decode cX12_wear 10 = .ok (.ifCond .eq 47, 3) := by decide +kernel
theorem dX12_wear_13 : decode cX12_wear 13 = .ok (.iload_n 2, 1) := by decide +kernel
theorem dX12_wear_14 : decode cX12_wear 14 = .ok (.ifCond .lt 43, 3) := by decide +kernel
theorem dX12_wear_17 : decode cX12_wear 17 = .ok (.iload_n 2, 1) := by decide +kernel
theorem dX12_wear_18 : decode cX12_wear 18 = .ok (.aload_n 0, 1) := by decide +kernel
theorem dX12_wear_19 : decode cX12_wear 19 = .ok (.getfield 24, 3) := by decide +kernel
theorem dX12_wear_22 : decode cX12_wear 22 = .ok (.iload_n 1, 1) := by decide +kernel
theorem dX12_wear_23 : decode cX12_wear 23 = .ok (.iaload, 1) := by decide +kernel
theorem dX12_wear_24 : decode cX12_wear 24 = .ok (.if_icmp .ge 33, 3) := by decide +kernel
theorem dX12_wear_27 : decode cX12_wear 27 = .ok (.iload_n 3, 1) := by decide +kernel
theorem dX12_wear_28 : decode cX12_wear 28 = .ok (.iconst 0, 1) := by decide +kernel
theorem dX12_wear_29 : decode cX12_wear 29 = .ok (.iconst 1, 1) := by decide +kernel
theorem dX12_wear_30 : decode cX12_wear 30 = .ok (.invokestatic 144, 3) := by decide +kernel
theorem dX12_wear_33 : decode cX12_wear 33 = .ok (.ifCond .eq 24, 3) := by decide +kernel
theorem dX12_wear_36 : decode cX12_wear 36 = .ok (.iload 4, 2) := by decide +kernel
theorem dX12_wear_38 : decode cX12_wear 38 = .ok (.iconst 0, 1) := by decide +kernel
theorem dX12_wear_39 : decode cX12_wear 39 = .ok (.iconst 3, 1) := by decide +kernel
theorem dX12_wear_40 : decode cX12_wear 40 = .ok (.invokestatic 144, 3) := by decide +kernel
theorem dX12_wear_43 : decode cX12_wear 43 = .ok (.ifCond .eq 14, 3) := by decide +kernel
theorem dX12_wear_46 : decode cX12_wear 46 = .ok (.iload 5, 2) := by decide +kernel
theorem dX12_wear_48 : decode cX12_wear 48 = .ok (.iconst 0, 1) := by decide +kernel
theorem dX12_wear_49 : decode cX12_wear 49 = .ok (.bipush 39, 2) := by decide +kernel
theorem dX12_wear_51 : decode cX12_wear 51 = .ok (.invokestatic 144, 3) := by decide +kernel
theorem dX12_wear_54 : decode cX12_wear 54 = .ok (.ifCond .ne 5, 3) := by decide +kernel
theorem dX12_wear_57 : decode cX12_wear 57 = .ok (.iconst 0, 1) := by decide +kernel
theorem dX12_wear_58 : decode cX12_wear 58 = .ok (.ireturn, 1) := by decide +kernel
theorem dX12_wear_59 : decode cX12_wear 59 = .ok (.aload_n 0, 1) := by decide +kernel
theorem dX12_wear_60 : decode cX12_wear 60 = .ok (.getfield 39, 3) := by decide +kernel
theorem dX12_wear_63 : decode cX12_wear 63 = .ok (.iload_n 1, 1) := by decide +kernel
theorem dX12_wear_64 : decode cX12_wear 64 = .ok (.iload_n 3, 1) := by decide +kernel
theorem dX12_wear_65 : decode cX12_wear 65 = .ok (.iastore, 1) := by decide +kernel
theorem dX12_wear_66 : decode cX12_wear 66 = .ok (.aload_n 0, 1) := by decide +kernel
theorem dX12_wear_67 : decode cX12_wear 67 = .ok (.getfield 42, 3) := by decide +kernel
theorem dX12_wear_70 : decode cX12_wear 70 = .ok (.iload_n 1, 1) := by decide +kernel
theorem dX12_wear_71 : decode cX12_wear 71 = .ok (.iload_n 2, 1) := by decide +kernel
theorem dX12_wear_72 : decode cX12_wear 72 = .ok (.iastore, 1) := by decide +kernel
theorem dX12_wear_73 : decode cX12_wear 73 = .ok (.aload_n 0, 1) := by decide +kernel
theorem dX12_wear_74 : decode cX12_wear 74 = .ok (.getfield 45, 3) := by decide +kernel
theorem dX12_wear_77 : decode cX12_wear 77 = .ok (.iload_n 1, 1) := by decide +kernel
theorem dX12_wear_78 : decode cX12_wear 78 = .ok (.iload 4, 2) := by decide +kernel
theorem dX12_wear_80 : decode cX12_wear 80 = .ok (.iastore, 1) := by decide +kernel
theorem dX12_wear_81 : decode cX12_wear 81 = .ok (.aload_n 0, 1) := by decide +kernel
theorem dX12_wear_82 : decode cX12_wear 82 = .ok (.getfield 48, 3) := by decide +kernel
theorem dX12_wear_85 : decode cX12_wear 85 = .ok (.iload_n 1, 1) := by decide +kernel
theorem dX12_wear_86 : decode cX12_wear 86 = .ok (.iload 5, 2) := by decide +kernel
theorem dX12_wear_88 : decode cX12_wear 88 = .ok (.iastore, 1) := by decide +kernel
theorem dX12_wear_89 : decode cX12_wear 89 = .ok (.iconst 1, 1) := by decide +kernel
theorem dX12_wear_90 : decode cX12_wear 90 = .ok (.ireturn, 1) := by decide +kernel
theorem dX12_isAlike_0 : decode cX12_isAlike 0 = .ok (.aload_n 0, 1) := by decide +kernel
theorem dX12_isAlike_1 : decode cX12_isAlike 1 = .ok (.getfield 126, 3) := by decide +kernel
theorem dX12_isAlike_4 : decode cX12_isAlike 4 = .ok (.invokestatic 306, 3) := by decide +kernel
theorem dX12_isAlike_7 : decode cX12_isAlike 7 = .ok (.aload_n 0, 1) := by decide +kernel
theorem dX12_isAlike_8 : decode cX12_isAlike 8 = .ok (.aload_n 0, 1) := by decide +kernel
theorem dX12_isAlike_9 : decode cX12_isAlike 9 = .ok (.getfield 126, 3) := by decide +kernel
theorem dX12_isAlike_12 : decode cX12_isAlike 12 = .ok (.iload_n 1, 1) := by decide +kernel
theorem dX12_isAlike_13 : decode cX12_isAlike 13 = .ok (.iconst 0, 1) := by decide +kernel
theorem dX12_isAlike_14 : decode cX12_isAlike 14 = .ok (.aload_n 0, 1) := by decide +kernel
theorem dX12_isAlike_15 : decode cX12_isAlike 15 = .ok (.getfield 54, 3) := by decide +kernel
theorem dX12_isAlike_18 : decode cX12_isAlike 18 = .ok (.iload_n 1, 1) := by decide +kernel
theorem dX12_isAlike_19 : decode cX12_isAlike 19 = .ok (.iaload, 1) := by decide +kernel
theorem dX12_isAlike_20 : decode cX12_isAlike 20 = .ok (.iconst 1, 1) := by decide +kernel
theorem dX12_isAlike_21 : decode cX12_isAlike 21 = .ok (.isub, 1) := by decide +kernel
theorem dX12_isAlike_22 : decode cX12_isAlike 22 = .ok (.iload_n 2, 1) := by decide +kernel
theorem dX12_isAlike_23 : decode cX12_isAlike 23 = .ok (.iload_n 3, 1) := by decide +kernel
theorem dX12_isAlike_24 : decode cX12_isAlike 24 = .ok (.iload 4, 2) := by decide +kernel
theorem dX12_isAlike_26 : decode cX12_isAlike 26 = .ok (.iload 5, 2) := by decide +kernel
theorem dX12_isAlike_28 : decode cX12_isAlike 28 = .ok (.iload 6, 2) := by decide +kernel
theorem dX12_isAlike_30 : decode cX12_isAlike 30 = .ok (.iload 7, 2) := by decide +kernel
theorem dX12_isAlike_32 : decode cX12_isAlike 32 = .ok (.invokevirtual 299, 3) := by decide +kernel
theorem dX12_isAlike_35 : decode cX12_isAlike 35 = .ok (.istore 8, 2) := by decide +kernel
theorem dX12_isAlike_37 : decode cX12_isAlike 37 = .ok (.iconst 0, 1) := by decide +kernel
theorem dX12_isAlike_38 : decode cX12_isAlike 38 = .ok (.istore 9, 2) := by decide +kernel
theorem dX12_isAlike_40 : decode cX12_isAlike 40 = .ok (.iload 9, 2) := by decide +kernel
theorem dX12_isAlike_42 : decode cX12_isAlike 42 = .ok (.aload_n 0, 1) := by decide +kernel
theorem dX12_isAlike_43 : decode cX12_isAlike 43 = .ok (.getfield 126, 3) := by decide +kernel
theorem dX12_isAlike_46 : decode cX12_isAlike 46 = .ok (.arraylength, 1) := by decide +kernel
theorem dX12_isAlike_47 : decode cX12_isAlike 47 = .ok (.if_icmp .ge 28, 3) := by decide +kernel
theorem dX12_isAlike_50 : decode cX12_isAlike 50 = .ok (.aload_n 0, 1) := by decide +kernel
theorem dX12_isAlike_51 : decode cX12_isAlike 51 = .ok (.getfield 126, 3) := by decide +kernel
theorem dX12_isAlike_54 : decode cX12_isAlike 54 = .ok (.iload 9, 2) := by decide +kernel
theorem dX12_isAlike_56 : decode cX12_isAlike 56 = .ok (.iaload, 1) := by decide +kernel
theorem dX12_isAlike_57 : decode cX12_isAlike 57 = .ok (.aload_n 0, 1) := by decide +kernel
theorem dX12_isAlike_58 : decode cX12_isAlike 58 = .ok (.getfield 123, 3) := by decide +kernel
theorem dX12_isAlike_61 : decode cX12_isAlike 61 = .ok (.iload 9, 2) := by decide +kernel
theorem dX12_isAlike_63 : decode cX12_isAlike 63 = .ok (.iaload, 1) := by decide +kernel
theorem dX12_isAlike_64 : decode cX12_isAlike 64 = .ok (.if_icmp .eq 5, 3) := by decide +kernel
theorem dX12_isAlike_67 : decode cX12_isAlike 67 = .ok (.iconst 0, 1) := by decide +kernel
theorem dX12_isAlike_68 : decode cX12_isAlike 68 = .ok (.ireturn, 1) := by decide +kernel
theorem dX12_isAlike_69 : decode cX12_isAlike 69 = .ok (.iinc 9 1, 3) := by decide +kernel
theorem dX12_isAlike_72 : decode cX12_isAlike 72 = .ok (.goto (-32), 3) := by decide +kernel
theorem dX12_isAlike_75 : decode cX12_isAlike 75 = .ok (.iload 8, 2) := by decide +kernel
theorem dX12_isAlike_77 : decode cX12_isAlike 77 = .ok (.ifCond .lt 7, 3) := by decide +kernel
theorem dX12_isAlike_80 : decode cX12_isAlike 80 = .ok (.iconst 1, 1) := by decide +kernel
theorem dX12_isAlike_81 : decode cX12_isAlike 81 = .ok (.goto 4, 3) := by decide +kernel
theorem dX12_isAlike_84 : decode cX12_isAlike 84 = .ok (.iconst 0, 1) := by decide +kernel
theorem dX12_isAlike_85 : decode cX12_isAlike 85 = .ok (.ireturn, 1) := by decide +kernel
theorem dX12_suspect_0 : decode cX12_suspect 0 = .ok (.aload_n 0, 1) := by decide +kernel
theorem dX12_suspect_1 : decode cX12_suspect 1 = .ok (.getfield 51, 3) := by decide +kernel
theorem dX12_suspect_4 : decode cX12_suspect 4 = .ok (.iload_n 1, 1) := by decide +kernel
theorem dX12_suspect_5 : decode cX12_suspect 5 = .ok (.iaload, 1) := by decide +kernel
theorem dX12_suspect_6 : decode cX12_suspect 6 = .ok (.istore 4, 2) := by decide +kernel
theorem dX12_suspect_8 : decode cX12_suspect 8 = .ok (.aload_n 0, 1) := by decide +kernel
theorem dX12_suspect_9 : decode cX12_suspect 9 = .ok (.getfield 123, 3) := by decide +kernel
theorem dX12_suspect_12 : decode cX12_suspect 12 = .ok (.invokestatic 306, 3) := by decide +kernel
theorem dX12_suspect_15 : decode cX12_suspect 15 = .ok (.aload_n 0, 1) := by decide +kernel
theorem dX12_suspect_16 : decode cX12_suspect 16 = .ok (.aload_n 0, 1) := by decide +kernel
theorem dX12_suspect_17 : decode cX12_suspect 17 = .ok (.getfield 123, 3) := by decide +kernel
theorem dX12_suspect_20 : decode cX12_suspect 20 = .ok (.iload_n 1, 1) := by decide +kernel
theorem dX12_suspect_21 : decode cX12_suspect 21 = .ok (.iconst 0, 1) := by decide +kernel
theorem dX12_suspect_22 : decode cX12_suspect 22 = .ok (.aload_n 0, 1) := by decide +kernel
theorem dX12_suspect_23 : decode cX12_suspect 23 = .ok (.getfield 54, 3) := by decide +kernel
theorem dX12_suspect_26 : decode cX12_suspect 26 = .ok (.iload_n 1, 1) := by decide +kernel
theorem dX12_suspect_27 : decode cX12_suspect 27 = .ok (.iaload, 1) := by decide +kernel
theorem dX12_suspect_28 : decode cX12_suspect 28 = .ok (.iconst 1, 1) := by decide +kernel
theorem dX12_suspect_29 : decode cX12_suspect 29 = .ok (.isub, 1) := by decide +kernel
theorem dX12_suspect_30 : decode cX12_suspect 30 = .ok (.iload_n 2, 1) := by decide +kernel
theorem dX12_suspect_31 : decode cX12_suspect 31 = .ok (.iload_n 3, 1) := by decide +kernel
theorem dX12_suspect_32 : decode cX12_suspect 32 = .ok (.aload_n 0, 1) := by decide +kernel
theorem dX12_suspect_33 : decode cX12_suspect 33 = .ok (.getfield 39, 3) := by decide +kernel
theorem dX12_suspect_36 : decode cX12_suspect 36 = .ok (.iload 4, 2) := by decide +kernel
theorem dX12_suspect_38 : decode cX12_suspect 38 = .ok (.iaload, 1) := by decide +kernel
theorem dX12_suspect_39 : decode cX12_suspect 39 = .ok (.aload_n 0, 1) := by decide +kernel
theorem dX12_suspect_40 : decode cX12_suspect 40 = .ok (.getfield 42, 3) := by decide +kernel
theorem dX12_suspect_43 : decode cX12_suspect 43 = .ok (.iload 4, 2) := by decide +kernel
theorem dX12_suspect_45 : decode cX12_suspect 45 = .ok (.iaload, 1) := by decide +kernel
theorem dX12_suspect_46 : decode cX12_suspect 46 = .ok (.aload_n 0, 1) := by decide +kernel
theorem dX12_suspect_47 : decode cX12_suspect 47 = .ok (.getfield 45, 3) := by decide +kernel
theorem dX12_suspect_50 : decode cX12_suspect 50 = .ok (.iload 4, 2) := by decide +kernel
theorem dX12_suspect_52 : decode cX12_suspect 52 = .ok (.iaload, 1) := by decide +kernel
theorem dX12_suspect_53 : decode cX12_suspect 53 = .ok (.aload_n 0, 1) := by decide +kernel
theorem dX12_suspect_54 : decode cX12_suspect 54 = .ok (.getfield 48, 3) := by decide +kernel
theorem dX12_suspect_57 : decode cX12_suspect 57 = .ok (.iload 4, 2) := by decide +kernel
theorem dX12_suspect_59 : decode cX12_suspect 59 = .ok (.iaload, 1) := by decide +kernel
theorem dX12_suspect_60 : decode cX12_suspect 60 = .ok (.invokevirtual 299, 3) := by decide +kernel
theorem dX12_suspect_63 : decode cX12_suspect 63 = .ok (.istore 5, 2) := by decide +kernel
theorem dX12_suspect_65 : decode cX12_suspect 65 = .ok (.aload_n 0, 1) := by decide +kernel
theorem dX12_suspect_66 : decode cX12_suspect 66 = .ok (.iload 5, 2) := by decide +kernel
theorem dX12_suspect_68 : decode cX12_suspect 68 = .ok (.ifCond .lt 21, 3) := by decide +kernel
theorem dX12_suspect_71 : decode cX12_suspect 71 = .ok (.aload_n 0, 1) := by decide +kernel
theorem dX12_suspect_72 : decode cX12_suspect 72 = .ok (.iload_n 1, 1) := by decide +kernel
theorem dX12_suspect_73 : decode cX12_suspect 73 = .ok (.iload_n 2, 1) := by decide +kernel
theorem dX12_suspect_74 : decode cX12_suspect 74 = .ok (.iload_n 3, 1) := by decide +kernel
theorem dX12_suspect_75 : decode cX12_suspect 75 = .ok (.iconst 0, 1) := by decide +kernel
theorem dX12_suspect_76 : decode cX12_suspect 76 = .ok (.iconst 0, 1) := by decide +kernel
theorem dX12_suspect_77 : decode cX12_suspect 77 = .ok (.iconst 0, 1) := by decide +kernel
theorem dX12_suspect_78 : decode cX12_suspect 78 = .ok (.iconst 0, 1) := by decide +kernel
theorem dX12_suspect_79 : decode cX12_suspect 79 = .ok (.invokevirtual 361, 3) := by decide +kernel
theorem dX12_suspect_82 : decode cX12_suspect 82 = .ok (.ifCond .eq 7, 3) := by decide +kernel
theorem dX12_suspect_85 : decode cX12_suspect 85 = .ok (.iconst 1, 1) := by decide +kernel
theorem dX12_suspect_86 : decode cX12_suspect 86 = .ok (.goto 4, 3) := by decide +kernel
theorem dX12_suspect_89 : decode cX12_suspect 89 = .ok (.iconst 0, 1) := by decide +kernel
theorem dX12_suspect_90 : decode cX12_suspect 90 = .ok (.putfield 365, 3) := by decide +kernel
theorem dX12_suspect_93 : decode cX12_suspect 93 = .ok (.aload_n 0, 1) := by decide +kernel
theorem dX12_suspect_94 : decode cX12_suspect 94 = .ok (.aload_n 0, 1) := by decide +kernel
theorem dX12_suspect_95 : decode cX12_suspect 95 = .ok (.getfield 365, 3) := by decide +kernel
theorem dX12_suspect_98 : decode cX12_suspect 98 = .ok (.ifCond .eq 7, 3) := by decide +kernel
theorem dX12_suspect_101 : decode cX12_suspect 101 = .ok (.iconst 1, 1) := by decide +kernel
theorem dX12_suspect_102 : decode cX12_suspect 102 = .ok (.goto 4, 3) := by decide +kernel
theorem dX12_suspect_105 : decode cX12_suspect 105 = .ok (.iconst 0, 1) := by decide +kernel
theorem dX12_suspect_106 : decode cX12_suspect 106 = .ok (.putfield 369, 3) := by decide +kernel
theorem dX12_suspect_109 : decode cX12_suspect 109 = .ok (.aload_n 0, 1) := by decide +kernel
theorem dX12_suspect_110 : decode cX12_suspect 110 = .ok (.iconst 0, 1) := by decide +kernel
theorem dX12_suspect_111 : decode cX12_suspect 111 = .ok (.putfield 372, 3) := by decide +kernel
theorem dX12_suspect_114 : decode cX12_suspect 114 = .ok (.iconst 0, 1) := by decide +kernel
theorem dX12_suspect_115 : decode cX12_suspect 115 = .ok (.istore 6, 2) := by decide +kernel
theorem dX12_suspect_117 : decode cX12_suspect 117 = .ok (.iload 6, 2) := by decide +kernel
theorem dX12_suspect_119 : decode cX12_suspect 119 = .ok (.aload_n 0, 1) := by decide +kernel
theorem dX12_suspect_120 : decode cX12_suspect 120 = .ok (.getfield 24, 3) := by decide +kernel
theorem dX12_suspect_123 : decode cX12_suspect 123 = .ok (.iload 4, 2) := by decide +kernel
theorem dX12_suspect_125 : decode cX12_suspect 125 = .ok (.iaload, 1) := by decide +kernel
theorem dX12_suspect_126 : decode cX12_suspect 126 = .ok (.if_icmp .ge 140, 3) := by decide +kernel
theorem dX12_suspect_129 : decode cX12_suspect 129 = .ok (.aload_n 0, 1) := by decide +kernel
theorem dX12_suspect_130 : decode cX12_suspect 130 = .ok (.getfield 129, 3) := by decide +kernel
theorem dX12_suspect_133 : decode cX12_suspect 133 = .ok (.iload 6, 2) := by decide +kernel
theorem dX12_suspect_135 : decode cX12_suspect 135 = .ok (.iconst (-1), 1) := by decide +kernel
theorem dX12_suspect_136 : decode cX12_suspect 136 = .ok (.iastore, 1) := by decide +kernel
theorem dX12_suspect_137 : decode cX12_suspect 137 = .ok (.aload_n 0, 1) := by decide +kernel
theorem dX12_suspect_138 : decode cX12_suspect 138 = .ok (.getfield 132, 3) := by decide +kernel
theorem dX12_suspect_141 : decode cX12_suspect 141 = .ok (.iload 6, 2) := by decide +kernel
theorem dX12_suspect_143 : decode cX12_suspect 143 = .ok (.iconst (-1), 1) := by decide +kernel
theorem dX12_suspect_144 : decode cX12_suspect 144 = .ok (.iastore, 1) := by decide +kernel
theorem dX12_suspect_145 : decode cX12_suspect 145 = .ok (.iconst 0, 1) := by decide +kernel
theorem dX12_suspect_146 : decode cX12_suspect 146 = .ok (.istore 7, 2) := by decide +kernel
theorem dX12_suspect_148 : decode cX12_suspect 148 = .ok (.iload 7, 2) := by decide +kernel
theorem dX12_suspect_150 : decode cX12_suspect 150 = .ok (.aload_n 0, 1) := by decide +kernel
theorem dX12_suspect_151 : decode cX12_suspect 151 = .ok (.getfield 54, 3) := by decide +kernel
theorem dX12_suspect_154 : decode cX12_suspect 154 = .ok (.iload_n 1, 1) := by decide +kernel
theorem dX12_suspect_155 : decode cX12_suspect 155 = .ok (.iaload, 1) := by decide +kernel
theorem dX12_suspect_156 : decode cX12_suspect 156 = .ok (.if_icmp .ge 104, 3) := by decide +kernel
theorem dX12_suspect_159 : decode cX12_suspect 159 = .ok (.iconst 0, 1) := by decide +kernel
theorem dX12_suspect_160 : decode cX12_suspect 160 = .ok (.istore 8, 2) := by decide +kernel
theorem dX12_suspect_162 : decode cX12_suspect 162 = .ok (.iload 8, 2) := by decide +kernel
theorem dX12_suspect_164 : decode cX12_suspect 164 = .ok (.bipush 6, 2) := by decide +kernel
theorem dX12_suspect_166 : decode cX12_suspect 166 = .ok (.if_icmp .ge 88, 3) := by decide +kernel
theorem dX12_suspect_169 : decode cX12_suspect 169 = .ok (.aload_n 0, 1) := by decide +kernel
theorem dX12_suspect_170 : decode cX12_suspect 170 = .ok (.iload_n 1, 1) := by decide +kernel
theorem dX12_suspect_171 : decode cX12_suspect 171 = .ok (.iload_n 2, 1) := by decide +kernel
theorem dX12_suspect_172 : decode cX12_suspect 172 = .ok (.iload_n 3, 1) := by decide +kernel
theorem dX12_suspect_173 : decode cX12_suspect 173 = .ok (.iload 8, 2) := by decide +kernel
theorem dX12_suspect_175 : decode cX12_suspect 175 = .ok (.iconst 3, 1) := by decide +kernel
theorem dX12_suspect_176 : decode cX12_suspect 176 = .ok (.idiv, 1) := by decide +kernel
theorem dX12_suspect_177 : decode cX12_suspect 177 = .ok (.iload 6, 2) := by decide +kernel
theorem dX12_suspect_179 : decode cX12_suspect 179 = .ok (.iload 8, 2) := by decide +kernel
theorem dX12_suspect_181 : decode cX12_suspect 181 = .ok (.iconst 3, 1) := by decide +kernel
theorem dX12_suspect_182 : decode cX12_suspect 182 = .ok (.irem, 1) := by decide +kernel
theorem dX12_suspect_183 : decode cX12_suspect 183 = .ok (.iconst 1, 1) := by decide +kernel
theorem dX12_suspect_184 : decode cX12_suspect 184 = .ok (.iadd, 1) := by decide +kernel
theorem dX12_suspect_185 : decode cX12_suspect 185 = .ok (.iload 7, 2) := by decide +kernel
theorem dX12_suspect_187 : decode cX12_suspect 187 = .ok (.invokevirtual 361, 3) := by decide +kernel
theorem dX12_suspect_190 : decode cX12_suspect 190 = .ok (.ifCond .ne 6, 3) := by decide +kernel
theorem dX12_suspect_193 : decode cX12_suspect 193 = .ok (.goto 55, 3) := by decide +kernel
theorem dX12_suspect_196 : decode cX12_suspect 196 = .ok (.aload_n 0, 1) := by decide +kernel
theorem dX12_suspect_197 : decode cX12_suspect 197 = .ok (.dup, 1) := by decide +kernel
theorem dX12_suspect_198 : decode cX12_suspect 198 = .ok (.getfield 369, 3) := by decide +kernel
theorem dX12_suspect_201 : decode cX12_suspect 201 = .ok (.iconst 1, 1) := by decide +kernel
theorem dX12_suspect_202 : decode cX12_suspect 202 = .ok (.iadd, 1) := by decide +kernel
theorem dX12_suspect_203 : decode cX12_suspect 203 = .ok (.putfield 369, 3) := by decide +kernel
theorem dX12_suspect_206 : decode cX12_suspect 206 = .ok (.aload_n 0, 1) := by decide +kernel
theorem dX12_suspect_207 : decode cX12_suspect 207 = .ok (.dup, 1) := by decide +kernel
theorem dX12_suspect_208 : decode cX12_suspect 208 = .ok (.getfield 372, 3) := by decide +kernel
theorem dX12_suspect_211 : decode cX12_suspect 211 = .ok (.iconst 1, 1) := by decide +kernel
theorem dX12_suspect_212 : decode cX12_suspect 212 = .ok (.iload 6, 2) := by decide +kernel
theorem dX12_suspect_214 : decode cX12_suspect 214 = .ok (.ishl, 1) := by decide +kernel
theorem dX12_suspect_215 : decode cX12_suspect 215 = .ok (.ior, 1) := by decide +kernel
theorem dX12_suspect_216 : decode cX12_suspect 216 = .ok (.putfield 372, 3) := by decide +kernel
theorem dX12_suspect_219 : decode cX12_suspect 219 = .ok (.aload_n 0, 1) := by decide +kernel
theorem dX12_suspect_220 : decode cX12_suspect 220 = .ok (.getfield 129, 3) := by decide +kernel
theorem dX12_suspect_223 : decode cX12_suspect 223 = .ok (.iload 6, 2) := by decide +kernel
theorem dX12_suspect_225 : decode cX12_suspect 225 = .ok (.iaload, 1) := by decide +kernel
theorem dX12_suspect_226 : decode cX12_suspect 226 = .ok (.iconst (-1), 1) := by decide +kernel
theorem dX12_suspect_227 : decode cX12_suspect 227 = .ok (.if_icmp .ne 12, 3) := by decide +kernel
theorem dX12_suspect_230 : decode cX12_suspect 230 = .ok (.aload_n 0, 1) := by decide +kernel
theorem dX12_suspect_231 : decode cX12_suspect 231 = .ok (.getfield 129, 3) := by decide +kernel
theorem dX12_suspect_234 : decode cX12_suspect 234 = .ok (.iload 6, 2) := by decide +kernel
theorem dX12_suspect_236 : decode cX12_suspect 236 = .ok (.iload 7, 2) := by decide +kernel
theorem dX12_suspect_238 : decode cX12_suspect 238 = .ok (.iastore, 1) := by decide +kernel
theorem dX12_suspect_239 : decode cX12_suspect 239 = .ok (.aload_n 0, 1) := by decide +kernel
theorem dX12_suspect_240 : decode cX12_suspect 240 = .ok (.getfield 132, 3) := by decide +kernel
theorem dX12_suspect_243 : decode cX12_suspect 243 = .ok (.iload 6, 2) := by decide +kernel
theorem dX12_suspect_245 : decode cX12_suspect 245 = .ok (.iload 7, 2) := by decide +kernel
theorem dX12_suspect_247 : decode cX12_suspect 247 = .ok (.iastore, 1) := by decide +kernel
theorem dX12_suspect_248 : decode cX12_suspect 248 = .ok (.iinc 8 1, 3) := by decide +kernel
theorem dX12_suspect_251 : decode cX12_suspect 251 = .ok (.goto (-89), 3) := by decide +kernel
theorem dX12_suspect_254 : decode cX12_suspect 254 = .ok (.iinc 7 1, 3) := by decide +kernel
theorem dX12_suspect_257 : decode cX12_suspect 257 = .ok (.goto (-109), 3) := by decide +kernel
theorem dX12_suspect_260 : decode cX12_suspect 260 = .ok (.iinc 6 1, 3) := by decide +kernel
theorem dX12_suspect_263 : decode cX12_suspect 263 = .ok (.goto (-146), 3) := by decide +kernel
theorem dX12_suspect_266 : decode cX12_suspect 266 = .ok (.return_, 1) := by decide +kernel
theorem dX12_suspects_0 : decode cX12_suspects 0 = .ok (.aload_n 0, 1) := by decide +kernel
theorem dX12_suspects_1 : decode cX12_suspects 1 = .ok (.iconst 0, 1) := by decide +kernel
theorem dX12_suspects_2 : decode cX12_suspects 2 = .ok (.putfield 135, 3) := by decide +kernel
theorem dX12_suspects_5 : decode cX12_suspects 5 = .ok (.aload_n 0, 1) := by decide +kernel
theorem dX12_suspects_6 : decode cX12_suspects 6 = .ok (.iload_n 1, 1) := by decide +kernel
theorem dX12_suspects_7 : decode cX12_suspects 7 = .ok (.invokevirtual 181, 3) := by decide +kernel
theorem dX12_suspects_10 : decode cX12_suspects 10 = .ok (.ifCond .eq 28, 3) := by decide +kernel
theorem dX12_suspects_13 : decode cX12_suspects 13 = .ok (.iload_n 2, 1) := by decide +kernel
theorem dX12_suspects_14 : decode cX12_suspects 14 = .ok (.invokestatic 293, 3) := by decide +kernel
theorem dX12_suspects_17 : decode cX12_suspects 17 = .ok (.ifCond .eq 21, 3) := by decide +kernel
theorem dX12_suspects_20 : decode cX12_suspects 20 = .ok (.iload_n 3, 1) := by decide +kernel
theorem dX12_suspects_21 : decode cX12_suspects 21 = .ok (.invokestatic 296, 3) := by decide +kernel
theorem dX12_suspects_24 : decode cX12_suspects 24 = .ok (.ifCond .eq 14, 3) := by decide +kernel
theorem dX12_suspects_27 : decode cX12_suspects 27 = .ok (.iload 4, 2) := by decide +kernel
theorem dX12_suspects_29 : decode cX12_suspects 29 = .ok (.ifCond .lt 9, 3) := by decide +kernel
theorem dX12_suspects_32 : decode cX12_suspects 32 = .ok (.iload 4, 2) := by decide +kernel
theorem dX12_suspects_34 : decode cX12_suspects 34 = .ok (.iconst 5, 1) := by decide +kernel
theorem dX12_suspects_35 : decode cX12_suspects 35 = .ok (.if_icmp .le 6, 3) := by decide +kernel
theorem dX12_suspects_38 : decode cX12_suspects 38 = .ok (.bipush (-2), 2) := by decide +kernel
theorem dX12_suspects_40 : decode cX12_suspects 40 = .ok (.ireturn, 1) := by decide +kernel
theorem dX12_suspects_41 : decode cX12_suspects 41 = .ok (.aload_n 0, 1) := by decide +kernel
theorem dX12_suspects_42 : decode cX12_suspects 42 = .ok (.iload_n 1, 1) := by decide +kernel
theorem dX12_suspects_43 : decode cX12_suspects 43 = .ok (.iload_n 2, 1) := by decide +kernel
theorem dX12_suspects_44 : decode cX12_suspects 44 = .ok (.iload_n 3, 1) := by decide +kernel
theorem dX12_suspects_45 : decode cX12_suspects 45 = .ok (.invokevirtual 375, 3) := by decide +kernel
theorem dX12_suspects_48 : decode cX12_suspects 48 = .ok (.aload_n 0, 1) := by decide +kernel
theorem dX12_suspects_49 : decode cX12_suspects 49 = .ok (.getfield 365, 3) := by decide +kernel
theorem dX12_suspects_52 : decode cX12_suspects 52 = .ok (.ifCond .ne 31, 3) := by decide +kernel
theorem dX12_suspects_55 : decode cX12_suspects 55 = .ok (.aload_n 0, 1) := by decide +kernel
theorem dX12_suspects_56 : decode cX12_suspects 56 = .ok (.getfield 372, 3) := by decide +kernel
theorem dX12_suspects_59 : decode cX12_suspects 59 = .ok (.iconst 1, 1) := by decide +kernel
theorem dX12_suspects_60 : decode cX12_suspects 60 = .ok (.if_icmp .eq 19, 3) := by decide +kernel
theorem dX12_suspects_63 : decode cX12_suspects 63 = .ok (.aload_n 0, 1) := by decide +kernel
theorem dX12_suspects_64 : decode cX12_suspects 64 = .ok (.getfield 372, 3) := by decide +kernel
theorem dX12_suspects_67 : decode cX12_suspects 67 = .ok (.iconst 2, 1) := by decide +kernel
theorem dX12_suspects_68 : decode cX12_suspects 68 = .ok (.if_icmp .eq 11, 3) := by decide +kernel
theorem dX12_suspects_71 : decode cX12_suspects 71 = .ok (.aload_n 0, 1) := by decide +kernel
theorem dX12_suspects_72 : decode cX12_suspects 72 = .ok (.getfield 372, 3) := by decide +kernel
theorem dX12_suspects_75 : decode cX12_suspects 75 = .ok (.iconst 4, 1) := by decide +kernel
theorem dX12_suspects_76 : decode cX12_suspects 76 = .ok (.if_icmp .ne 7, 3) := by decide +kernel
theorem dX12_suspects_79 : decode cX12_suspects 79 = .ok (.iconst 1, 1) := by decide +kernel
theorem dX12_suspects_80 : decode cX12_suspects 80 = .ok (.goto 4, 3) := by decide +kernel
theorem dX12_suspects_83 : decode cX12_suspects 83 = .ok (.iconst 0, 1) := by decide +kernel
theorem dX12_suspects_84 : decode cX12_suspects 84 = .ok (.istore 5, 2) := by decide +kernel
theorem dX12_suspects_86 : decode cX12_suspects 86 = .ok (.aload_n 0, 1) := by decide +kernel
theorem dX12_suspects_87 : decode cX12_suspects 87 = .ok (.getfield 372, 3) := by decide +kernel
theorem dX12_suspects_90 : decode cX12_suspects 90 = .ok (.iconst 2, 1) := by decide +kernel
theorem dX12_suspects_91 : decode cX12_suspects 91 = .ok (.idiv, 1) := by decide +kernel
theorem dX12_suspects_92 : decode cX12_suspects 92 = .ok (.istore 6, 2) := by decide +kernel
theorem dX12_suspects_94 : decode cX12_suspects 94 = .ok (.iload 4, 2) := by decide +kernel
theorem dX12_suspects_96 : decode cX12_suspects 96 = .ok (.tableswitch 88 0 4 #[36, 41, 46, 59, 71], 36) := by decide +kernel
theorem dX12_suspects_132 : decode cX12_suspects 132 = .ok (.aload_n 0, 1) := by decide +kernel
theorem dX12_suspects_133 : decode cX12_suspects 133 = .ok (.getfield 369, 3) := by decide +kernel
theorem dX12_suspects_136 : decode cX12_suspects 136 = .ok (.ireturn, 1) := by decide +kernel
theorem dX12_suspects_137 : decode cX12_suspects 137 = .ok (.aload_n 0, 1) := by decide +kernel
theorem dX12_suspects_138 : decode cX12_suspects 138 = .ok (.getfield 372, 3) := by decide +kernel
theorem dX12_suspects_141 : decode cX12_suspects 141 = .ok (.ireturn, 1) := by decide +kernel
theorem dX12_suspects_142 : decode cX12_suspects 142 = .ok (.aload_n 0, 1) := by decide +kernel
theorem dX12_suspects_143 : decode cX12_suspects 143 = .ok (.getfield 365, 3) := by decide +kernel
theorem dX12_suspects_146 : decode cX12_suspects 146 = .ok (.ifCond .eq 7, 3) := by decide +kernel
theorem dX12_suspects_149 : decode cX12_suspects 149 = .ok (.iconst 1, 1) := by decide +kernel
theorem dX12_suspects_150 : decode cX12_suspects 150 = .ok (.goto 4, 3) := by decide +kernel
theorem dX12_suspects_153 : decode cX12_suspects 153 = .ok (.iconst 0, 1) := by decide +kernel
theorem dX12_suspects_154 : decode cX12_suspects 154 = .ok (.ireturn, 1) := by decide +kernel
theorem dX12_suspects_155 : decode cX12_suspects 155 = .ok (.iload 5, 2) := by decide +kernel
theorem dX12_suspects_157 : decode cX12_suspects 157 = .ok (.ifCond .eq 8, 3) := by decide +kernel
theorem dX12_suspects_160 : decode cX12_suspects 160 = .ok (.iload 6, 2) := by decide +kernel
theorem dX12_suspects_162 : decode cX12_suspects 162 = .ok (.goto 4, 3) := by decide +kernel
theorem dX12_suspects_165 : decode cX12_suspects 165 = .ok (.iconst (-1), 1) := by decide +kernel
theorem dX12_suspects_166 : decode cX12_suspects 166 = .ok (.ireturn, 1) := by decide +kernel
theorem dX12_suspects_167 : decode cX12_suspects 167 = .ok (.iload 5, 2) := by decide +kernel
theorem dX12_suspects_169 : decode cX12_suspects 169 = .ok (.ifCond .eq 13, 3) := by decide +kernel
theorem dX12_suspects_172 : decode cX12_suspects 172 = .ok (.aload_n 0, 1) := by decide +kernel
theorem dX12_suspects_173 : decode cX12_suspects 173 = .ok (.getfield 129, 3) := by decide +kernel
theorem dX12_suspects_176 : decode cX12_suspects 176 = .ok (.iload 6, 2) := by decide +kernel
theorem dX12_suspects_178 : decode cX12_suspects 178 = .ok (.iaload, 1) := by decide +kernel
theorem dX12_suspects_179 : decode cX12_suspects 179 = .ok (.goto 4, 3) := by decide +kernel
theorem dX12_suspects_182 : decode cX12_suspects 182 = .ok (.iconst (-1), 1) := by decide +kernel
theorem dX12_suspects_183 : decode cX12_suspects 183 = .ok (.ireturn, 1) := by decide +kernel
theorem dX12_suspects_184 : decode cX12_suspects 184 = .ok (.iload 5, 2) := by decide +kernel
theorem dX12_suspects_186 : decode cX12_suspects 186 = .ok (.ifCond .eq 13, 3) := by decide +kernel
theorem dX12_suspects_189 : decode cX12_suspects 189 = .ok (.aload_n 0, 1) := by decide +kernel
theorem dX12_suspects_190 : decode cX12_suspects 190 = .ok (.getfield 132, 3) := by decide +kernel
theorem dX12_suspects_193 : decode cX12_suspects 193 = .ok (.iload 6, 2) := by decide +kernel
theorem dX12_suspects_195 : decode cX12_suspects 195 = .ok (.iaload, 1) := by decide +kernel
theorem dX12_suspects_196 : decode cX12_suspects 196 = .ok (.goto 4, 3) := by decide +kernel
theorem dX12_suspects_199 : decode cX12_suspects 199 = .ok (.iconst (-1), 1) := by decide +kernel
theorem dX12_suspects_200 : decode cX12_suspects 200 = .ok (.ireturn, 1) := by decide +kernel
theorem dX12_cuts_0 : decode cX12_cuts 0 = .ok (.aload_n 0, 1) := by decide +kernel
theorem dX12_cuts_1 : decode cX12_cuts 1 = .ok (.getfield 54, 3) := by decide +kernel
theorem dX12_cuts_4 : decode cX12_cuts 4 = .ok (.iload_n 1, 1) := by decide +kernel
theorem dX12_cuts_5 : decode cX12_cuts 5 = .ok (.iaload, 1) := by decide +kernel
theorem dX12_cuts_6 : decode cX12_cuts 6 = .ok (.iconst 1, 1) := by decide +kernel
theorem dX12_cuts_7 : decode cX12_cuts 7 = .ok (.isub, 1) := by decide +kernel
theorem dX12_cuts_8 : decode cX12_cuts 8 = .ok (.istore 5, 2) := by decide +kernel
theorem dX12_cuts_10 : decode cX12_cuts 10 = .ok (.aload_n 0, 1) := by decide +kernel
theorem dX12_cuts_11 : decode cX12_cuts 11 = .ok (.getfield 123, 3) := by decide +kernel
theorem dX12_cuts_14 : decode cX12_cuts 14 = .ok (.invokestatic 306, 3) := by decide +kernel
theorem dX12_cuts_17 : decode cX12_cuts 17 = .ok (.aload_n 0, 1) := by decide +kernel
theorem dX12_cuts_18 : decode cX12_cuts 18 = .ok (.aload_n 0, 1) := by decide +kernel
theorem dX12_cuts_19 : decode cX12_cuts 19 = .ok (.getfield 123, 3) := by decide +kernel
theorem dX12_cuts_22 : decode cX12_cuts 22 = .ok (.iload_n 1, 1) := by decide +kernel
theorem dX12_cuts_23 : decode cX12_cuts 23 = .ok (.iconst 0, 1) := by decide +kernel
theorem dX12_cuts_24 : decode cX12_cuts 24 = .ok (.iload 5, 2) := by decide +kernel
theorem dX12_cuts_26 : decode cX12_cuts 26 = .ok (.iload_n 2, 1) := by decide +kernel
theorem dX12_cuts_27 : decode cX12_cuts 27 = .ok (.iload_n 3, 1) := by decide +kernel
theorem dX12_cuts_28 : decode cX12_cuts 28 = .ok (.iconst 0, 1) := by decide +kernel
theorem dX12_cuts_29 : decode cX12_cuts 29 = .ok (.iconst 0, 1) := by decide +kernel
theorem dX12_cuts_30 : decode cX12_cuts 30 = .ok (.iconst 0, 1) := by decide +kernel
theorem dX12_cuts_31 : decode cX12_cuts 31 = .ok (.iconst 0, 1) := by decide +kernel
theorem dX12_cuts_32 : decode cX12_cuts 32 = .ok (.invokevirtual 299, 3) := by decide +kernel
theorem dX12_cuts_35 : decode cX12_cuts 35 = .ok (.ifCond .le 7, 3) := by decide +kernel
theorem dX12_cuts_38 : decode cX12_cuts 38 = .ok (.iconst 1, 1) := by decide +kernel
theorem dX12_cuts_39 : decode cX12_cuts 39 = .ok (.goto 4, 3) := by decide +kernel
theorem dX12_cuts_42 : decode cX12_cuts 42 = .ok (.iconst 0, 1) := by decide +kernel
theorem dX12_cuts_43 : decode cX12_cuts 43 = .ok (.istore 6, 2) := by decide +kernel
theorem dX12_cuts_45 : decode cX12_cuts 45 = .ok (.iconst 0, 1) := by decide +kernel
theorem dX12_cuts_46 : decode cX12_cuts 46 = .ok (.istore 7, 2) := by decide +kernel
theorem dX12_cuts_48 : decode cX12_cuts 48 = .ok (.iconst 0, 1) := by decide +kernel
theorem dX12_cuts_49 : decode cX12_cuts 49 = .ok (.istore 8, 2) := by decide +kernel
theorem dX12_cuts_51 : decode cX12_cuts 51 = .ok (.iload 8, 2) := by decide +kernel
theorem dX12_cuts_53 : decode cX12_cuts 53 = .ok (.aload_n 0, 1) := by decide +kernel
theorem dX12_cuts_54 : decode cX12_cuts 54 = .ok (.getfield 123, 3) := by decide +kernel
theorem dX12_cuts_57 : decode cX12_cuts 57 = .ok (.arraylength, 1) := by decide +kernel
theorem dX12_cuts_58 : decode cX12_cuts 58 = .ok (.if_icmp .ge 79, 3) := by decide +kernel
theorem dX12_cuts_61 : decode cX12_cuts 61 = .ok (.iload 6, 2) := by decide +kernel
theorem dX12_cuts_63 : decode cX12_cuts 63 = .ok (.ifCond .eq 31, 3) := by decide +kernel
theorem dX12_cuts_66 : decode cX12_cuts 66 = .ok (.aload_n 0, 1) := by decide +kernel
theorem dX12_cuts_67 : decode cX12_cuts 67 = .ok (.getfield 79, 3) := by decide +kernel
theorem dX12_cuts_70 : decode cX12_cuts 70 = .ok (.iload 8, 2) := by decide +kernel
theorem dX12_cuts_72 : decode cX12_cuts 72 = .ok (.iaload, 1) := by decide +kernel
theorem dX12_cuts_73 : decode cX12_cuts 73 = .ok (.iload 4, 2) := by decide +kernel
theorem dX12_cuts_75 : decode cX12_cuts 75 = .ok (.if_icmp .ge 19, 3) := by decide +kernel
theorem dX12_cuts_78 : decode cX12_cuts 78 = .ok (.aload_n 0, 1) := by decide +kernel
theorem dX12_cuts_79 : decode cX12_cuts 79 = .ok (.getfield 123, 3) := by decide +kernel
theorem dX12_cuts_82 : decode cX12_cuts 82 = .ok (.iload 8, 2) := by decide +kernel
theorem dX12_cuts_84 : decode cX12_cuts 84 = .ok (.iaload, 1) := by decide +kernel
theorem dX12_cuts_85 : decode cX12_cuts 85 = .ok (.iload 4, 2) := by decide +kernel
theorem dX12_cuts_87 : decode cX12_cuts 87 = .ok (.if_icmp .lt 7, 3) := by decide +kernel
theorem dX12_cuts_90 : decode cX12_cuts 90 = .ok (.iconst 1, 1) := by decide +kernel
theorem dX12_cuts_91 : decode cX12_cuts 91 = .ok (.goto 4, 3) := by decide +kernel
theorem dX12_cuts_94 : decode cX12_cuts 94 = .ok (.iconst 0, 1) := by decide +kernel
theorem dX12_cuts_95 : decode cX12_cuts 95 = .ok (.istore 9, 2) := by decide +kernel
theorem dX12_cuts_97 : decode cX12_cuts 97 = .ok (.aload_n 0, 1) := by decide +kernel
theorem dX12_cuts_98 : decode cX12_cuts 98 = .ok (.getfield 123, 3) := by decide +kernel
theorem dX12_cuts_101 : decode cX12_cuts 101 = .ok (.iload 8, 2) := by decide +kernel
theorem dX12_cuts_103 : decode cX12_cuts 103 = .ok (.iload 9, 2) := by decide +kernel
theorem dX12_cuts_105 : decode cX12_cuts 105 = .ok (.ifCond .eq 7, 3) := by decide +kernel
theorem dX12_cuts_108 : decode cX12_cuts 108 = .ok (.iconst 1, 1) := by decide +kernel
theorem dX12_cuts_109 : decode cX12_cuts 109 = .ok (.goto 4, 3) := by decide +kernel
theorem dX12_cuts_112 : decode cX12_cuts 112 = .ok (.iconst 0, 1) := by decide +kernel
theorem dX12_cuts_113 : decode cX12_cuts 113 = .ok (.iastore, 1) := by decide +kernel
theorem dX12_cuts_114 : decode cX12_cuts 114 = .ok (.iload 7, 2) := by decide +kernel
theorem dX12_cuts_116 : decode cX12_cuts 116 = .ok (.ifCond .ne 8, 3) := by decide +kernel
theorem dX12_cuts_119 : decode cX12_cuts 119 = .ok (.iload 9, 2) := by decide +kernel
theorem dX12_cuts_121 : decode cX12_cuts 121 = .ok (.ifCond .eq 7, 3) := by decide +kernel
theorem dX12_cuts_124 : decode cX12_cuts 124 = .ok (.iconst 1, 1) := by decide +kernel
theorem dX12_cuts_125 : decode cX12_cuts 125 = .ok (.goto 4, 3) := by decide +kernel
theorem dX12_cuts_128 : decode cX12_cuts 128 = .ok (.iconst 0, 1) := by decide +kernel
theorem dX12_cuts_129 : decode cX12_cuts 129 = .ok (.istore 7, 2) := by decide +kernel
theorem dX12_cuts_131 : decode cX12_cuts 131 = .ok (.iinc 8 1, 3) := by decide +kernel
theorem dX12_cuts_134 : decode cX12_cuts 134 = .ok (.goto (-83), 3) := by decide +kernel
theorem dX12_cuts_137 : decode cX12_cuts 137 = .ok (.iload 7, 2) := by decide +kernel
theorem dX12_cuts_139 : decode cX12_cuts 139 = .ok (.ifCond .ne 5, 3) := by decide +kernel
theorem dX12_cuts_142 : decode cX12_cuts 142 = .ok (.iconst 0, 1) := by decide +kernel
theorem dX12_cuts_143 : decode cX12_cuts 143 = .ok (.ireturn, 1) := by decide +kernel
theorem dX12_cuts_144 : decode cX12_cuts 144 = .ok (.iconst 1, 1) := by decide +kernel
theorem dX12_cuts_145 : decode cX12_cuts 145 = .ok (.istore 8, 2) := by decide +kernel
theorem dX12_cuts_147 : decode cX12_cuts 147 = .ok (.iload 8, 2) := by decide +kernel
theorem dX12_cuts_149 : decode cX12_cuts 149 = .ok (.iload 5, 2) := by decide +kernel
theorem dX12_cuts_151 : decode cX12_cuts 151 = .ok (.iconst 1, 1) := by decide +kernel
theorem dX12_cuts_152 : decode cX12_cuts 152 = .ok (.iadd, 1) := by decide +kernel
theorem dX12_cuts_153 : decode cX12_cuts 153 = .ok (.if_icmp .gt 73, 3) := by decide +kernel
theorem dX12_cuts_156 : decode cX12_cuts 156 = .ok (.iconst 0, 1) := by decide +kernel
theorem dX12_cuts_157 : decode cX12_cuts 157 = .ok (.istore 9, 2) := by decide +kernel
theorem dX12_cuts_159 : decode cX12_cuts 159 = .ok (.iload 9, 2) := by decide +kernel
theorem dX12_cuts_161 : decode cX12_cuts 161 = .ok (.iload 8, 2) := by decide +kernel
theorem dX12_cuts_163 : decode cX12_cuts 163 = .ok (.iadd, 1) := by decide +kernel
theorem dX12_cuts_164 : decode cX12_cuts 164 = .ok (.iload 5, 2) := by decide +kernel
theorem dX12_cuts_166 : decode cX12_cuts 166 = .ok (.iconst 1, 1) := by decide +kernel
theorem dX12_cuts_167 : decode cX12_cuts 167 = .ok (.iadd, 1) := by decide +kernel
theorem dX12_cuts_168 : decode cX12_cuts 168 = .ok (.if_icmp .gt 52, 3) := by decide +kernel
theorem dX12_cuts_171 : decode cX12_cuts 171 = .ok (.aload_n 0, 1) := by decide +kernel
theorem dX12_cuts_172 : decode cX12_cuts 172 = .ok (.iload_n 1, 1) := by decide +kernel
theorem dX12_cuts_173 : decode cX12_cuts 173 = .ok (.iload 9, 2) := by decide +kernel
theorem dX12_cuts_175 : decode cX12_cuts 175 = .ok (.iload 9, 2) := by decide +kernel
theorem dX12_cuts_177 : decode cX12_cuts 177 = .ok (.iload 8, 2) := by decide +kernel
theorem dX12_cuts_179 : decode cX12_cuts 179 = .ok (.iadd, 1) := by decide +kernel
theorem dX12_cuts_180 : decode cX12_cuts 180 = .ok (.iconst 1, 1) := by decide +kernel
theorem dX12_cuts_181 : decode cX12_cuts 181 = .ok (.isub, 1) := by decide +kernel
theorem dX12_cuts_182 : decode cX12_cuts 182 = .ok (.iload_n 2, 1) := by decide +kernel
theorem dX12_cuts_183 : decode cX12_cuts 183 = .ok (.iload_n 3, 1) := by decide +kernel
theorem dX12_cuts_184 : decode cX12_cuts 184 = .ok (.iload 4, 2) := by decide +kernel
theorem dX12_cuts_186 : decode cX12_cuts 186 = .ok (.invokevirtual 379, 3) := by decide +kernel
theorem dX12_cuts_189 : decode cX12_cuts 189 = .ok (.ifCond .ne 6, 3) := by decide +kernel
theorem dX12_cuts_192 : decode cX12_cuts 192 = .ok (.goto 22, 3) := by decide +kernel
theorem dX12_cuts_195 : decode cX12_cuts 195 = .ok (.aload_n 0, 1) := by decide +kernel
theorem dX12_cuts_196 : decode cX12_cuts 196 = .ok (.iload 9, 2) := by decide +kernel
theorem dX12_cuts_198 : decode cX12_cuts 198 = .ok (.putfield 382, 3) := by decide +kernel
theorem dX12_cuts_201 : decode cX12_cuts 201 = .ok (.aload_n 0, 1) := by decide +kernel
theorem dX12_cuts_202 : decode cX12_cuts 202 = .ok (.iload 9, 2) := by decide +kernel
theorem dX12_cuts_204 : decode cX12_cuts 204 = .ok (.iload 8, 2) := by decide +kernel
theorem dX12_cuts_206 : decode cX12_cuts 206 = .ok (.iadd, 1) := by decide +kernel
theorem dX12_cuts_207 : decode cX12_cuts 207 = .ok (.iconst 1, 1) := by decide +kernel
theorem dX12_cuts_208 : decode cX12_cuts 208 = .ok (.isub, 1) := by decide +kernel
theorem dX12_cuts_209 : decode cX12_cuts 209 = .ok (.putfield 385, 3) := by decide +kernel
theorem dX12_cuts_212 : decode cX12_cuts 212 = .ok (.iconst 1, 1) := by decide +kernel
theorem dX12_cuts_213 : decode cX12_cuts 213 = .ok (.ireturn, 1) := by decide +kernel
theorem dX12_cuts_214 : decode cX12_cuts 214 = .ok (.iinc 9 1, 3) := by decide +kernel
theorem dX12_cuts_217 : decode cX12_cuts 217 = .ok (.goto (-58), 3) := by decide +kernel
theorem dX12_cuts_220 : decode cX12_cuts 220 = .ok (.iinc 8 1, 3) := by decide +kernel
theorem dX12_cuts_223 : decode cX12_cuts 223 = .ok (.goto (-76), 3) := by decide +kernel
theorem dX12_cuts_226 : decode cX12_cuts 226 = .ok (.iconst 0, 1) := by decide +kernel
theorem dX12_cuts_227 : decode cX12_cuts 227 = .ok (.ireturn, 1) := by decide +kernel
theorem dX12_enough_0 : decode cX12_enough 0 = .ok (.aload_n 0, 1) := by decide +kernel
theorem dX12_enough_1 : decode cX12_enough 1 = .ok (.getfield 126, 3) := by decide +kernel
theorem dX12_enough_4 : decode cX12_enough 4 = .ok (.invokestatic 306, 3) := by decide +kernel
theorem dX12_enough_7 : decode cX12_enough 7 = .ok (.aload_n 0, 1) := by decide +kernel
theorem dX12_enough_8 : decode cX12_enough 8 = .ok (.aload_n 0, 1) := by decide +kernel
theorem dX12_enough_9 : decode cX12_enough 9 = .ok (.getfield 126, 3) := by decide +kernel
theorem dX12_enough_12 : decode cX12_enough 12 = .ok (.iload_n 1, 1) := by decide +kernel
theorem dX12_enough_13 : decode cX12_enough 13 = .ok (.iload_n 2, 1) := by decide +kernel
theorem dX12_enough_14 : decode cX12_enough 14 = .ok (.iload_n 3, 1) := by decide +kernel
theorem dX12_enough_15 : decode cX12_enough 15 = .ok (.iload 4, 2) := by decide +kernel
theorem dX12_enough_17 : decode cX12_enough 17 = .ok (.iload 5, 2) := by decide +kernel
theorem dX12_enough_19 : decode cX12_enough 19 = .ok (.iconst 0, 1) := by decide +kernel
theorem dX12_enough_20 : decode cX12_enough 20 = .ok (.iconst 0, 1) := by decide +kernel
theorem dX12_enough_21 : decode cX12_enough 21 = .ok (.iconst 0, 1) := by decide +kernel
theorem dX12_enough_22 : decode cX12_enough 22 = .ok (.iconst 0, 1) := by decide +kernel
theorem dX12_enough_23 : decode cX12_enough 23 = .ok (.invokevirtual 299, 3) := by decide +kernel
theorem dX12_enough_26 : decode cX12_enough 26 = .ok (.istore 7, 2) := by decide +kernel
theorem dX12_enough_28 : decode cX12_enough 28 = .ok (.iconst 0, 1) := by decide +kernel
theorem dX12_enough_29 : decode cX12_enough 29 = .ok (.istore 8, 2) := by decide +kernel
theorem dX12_enough_31 : decode cX12_enough 31 = .ok (.iload 8, 2) := by decide +kernel
theorem dX12_enough_33 : decode cX12_enough 33 = .ok (.aload_n 0, 1) := by decide +kernel
theorem dX12_enough_34 : decode cX12_enough 34 = .ok (.getfield 126, 3) := by decide +kernel
theorem dX12_enough_37 : decode cX12_enough 37 = .ok (.arraylength, 1) := by decide +kernel
theorem dX12_enough_38 : decode cX12_enough 38 = .ok (.if_icmp .ge 42, 3) := by decide +kernel
theorem dX12_enough_41 : decode cX12_enough 41 = .ok (.aload_n 0, 1) := by decide +kernel
theorem dX12_enough_42 : decode cX12_enough 42 = .ok (.getfield 123, 3) := by decide +kernel
theorem dX12_enough_45 : decode cX12_enough 45 = .ok (.iload 8, 2) := by decide +kernel
theorem dX12_enough_47 : decode cX12_enough 47 = .ok (.iaload, 1) := by decide +kernel
theorem dX12_enough_48 : decode cX12_enough 48 = .ok (.iconst 1, 1) := by decide +kernel
theorem dX12_enough_49 : decode cX12_enough 49 = .ok (.if_icmp .ne 25, 3) := by decide +kernel
theorem dX12_enough_52 : decode cX12_enough 52 = .ok (.aload_n 0, 1) := by decide +kernel
theorem dX12_enough_53 : decode cX12_enough 53 = .ok (.getfield 79, 3) := by decide +kernel
theorem dX12_enough_56 : decode cX12_enough 56 = .ok (.iload 8, 2) := by decide +kernel
theorem dX12_enough_58 : decode cX12_enough 58 = .ok (.iaload, 1) := by decide +kernel
theorem dX12_enough_59 : decode cX12_enough 59 = .ok (.aload_n 0, 1) := by decide +kernel
theorem dX12_enough_60 : decode cX12_enough 60 = .ok (.getfield 126, 3) := by decide +kernel
theorem dX12_enough_63 : decode cX12_enough 63 = .ok (.iload 8, 2) := by decide +kernel
theorem dX12_enough_65 : decode cX12_enough 65 = .ok (.iaload, 1) := by decide +kernel
theorem dX12_enough_66 : decode cX12_enough 66 = .ok (.iadd, 1) := by decide +kernel
theorem dX12_enough_67 : decode cX12_enough 67 = .ok (.iload 6, 2) := by decide +kernel
theorem dX12_enough_69 : decode cX12_enough 69 = .ok (.if_icmp .ge 5, 3) := by decide +kernel
theorem dX12_enough_72 : decode cX12_enough 72 = .ok (.iconst 0, 1) := by decide +kernel
theorem dX12_enough_73 : decode cX12_enough 73 = .ok (.ireturn, 1) := by decide +kernel
theorem dX12_enough_74 : decode cX12_enough 74 = .ok (.iinc 8 1, 3) := by decide +kernel
theorem dX12_enough_77 : decode cX12_enough 77 = .ok (.goto (-46), 3) := by decide +kernel
theorem dX12_enough_80 : decode cX12_enough 80 = .ok (.iload 7, 2) := by decide +kernel
theorem dX12_enough_82 : decode cX12_enough 82 = .ok (.ifCond .lt 7, 3) := by decide +kernel
theorem dX12_enough_85 : decode cX12_enough 85 = .ok (.iconst 1, 1) := by decide +kernel
theorem dX12_enough_86 : decode cX12_enough 86 = .ok (.goto 4, 3) := by decide +kernel
theorem dX12_enough_89 : decode cX12_enough 89 = .ok (.iconst 0, 1) := by decide +kernel
theorem dX12_enough_90 : decode cX12_enough 90 = .ok (.ireturn, 1) := by decide +kernel
theorem dX12_anew_0 : decode cX12_anew 0 = .ok (.aload_n 0, 1) := by decide +kernel
theorem dX12_anew_1 : decode cX12_anew 1 = .ok (.iconst 0, 1) := by decide +kernel
theorem dX12_anew_2 : decode cX12_anew 2 = .ok (.putfield 135, 3) := by decide +kernel
theorem dX12_anew_5 : decode cX12_anew 5 = .ok (.aload_n 0, 1) := by decide +kernel
theorem dX12_anew_6 : decode cX12_anew 6 = .ok (.iload_n 1, 1) := by decide +kernel
theorem dX12_anew_7 : decode cX12_anew 7 = .ok (.invokevirtual 181, 3) := by decide +kernel
theorem dX12_anew_10 : decode cX12_anew 10 = .ok (.ifCond .eq 39, 3) := by decide +kernel
theorem dX12_anew_13 : decode cX12_anew 13 = .ok (.iload_n 2, 1) := by decide +kernel
theorem dX12_anew_14 : decode cX12_anew 14 = .ok (.invokestatic 293, 3) := by decide +kernel
theorem dX12_anew_17 : decode cX12_anew 17 = .ok (.ifCond .eq 32, 3) := by decide +kernel
theorem dX12_anew_20 : decode cX12_anew 20 = .ok (.iload_n 3, 1) := by decide +kernel
theorem dX12_anew_21 : decode cX12_anew 21 = .ok (.invokestatic 296, 3) := by decide +kernel
theorem dX12_anew_24 : decode cX12_anew 24 = .ok (.ifCond .eq 25, 3) := by decide +kernel
theorem dX12_anew_27 : decode cX12_anew 27 = .ok (.iload 4, 2) := by decide +kernel
theorem dX12_anew_29 : decode cX12_anew 29 = .ok (.iconst 1, 1) := by decide +kernel
theorem dX12_anew_30 : decode cX12_anew 30 = .ok (.bipush 99, 2) := by decide +kernel
theorem dX12_anew_32 : decode cX12_anew 32 = .ok (.invokestatic 144, 3) := by decide +kernel
theorem dX12_anew_35 : decode cX12_anew 35 = .ok (.ifCond .eq 14, 3) := by decide +kernel
theorem dX12_anew_38 : decode cX12_anew 38 = .ok (.iload 5, 2) := by decide +kernel
theorem dX12_anew_40 : decode cX12_anew 40 = .ok (.ifCond .lt 9, 3) := by decide +kernel
theorem dX12_anew_43 : decode cX12_anew 43 = .ok (.iload 5, 2) := by decide +kernel
theorem dX12_anew_45 : decode cX12_anew 45 = .ok (.iconst 1, 1) := by decide +kernel
theorem dX12_anew_46 : decode cX12_anew 46 = .ok (.if_icmp .le 5, 3) := by decide +kernel
theorem dX12_anew_49 : decode cX12_anew 49 = .ok (.iconst (-1), 1) := by decide +kernel
theorem dX12_anew_50 : decode cX12_anew 50 = .ok (.ireturn, 1) := by decide +kernel
theorem dX12_anew_51 : decode cX12_anew 51 = .ok (.aload_n 0, 1) := by decide +kernel
theorem dX12_anew_52 : decode cX12_anew 52 = .ok (.iload_n 1, 1) := by decide +kernel
theorem dX12_anew_53 : decode cX12_anew 53 = .ok (.iload_n 2, 1) := by decide +kernel
theorem dX12_anew_54 : decode cX12_anew 54 = .ok (.iload_n 3, 1) := by decide +kernel
theorem dX12_anew_55 : decode cX12_anew 55 = .ok (.iload 4, 2) := by decide +kernel
theorem dX12_anew_57 : decode cX12_anew 57 = .ok (.invokevirtual 388, 3) := by decide +kernel
theorem dX12_anew_60 : decode cX12_anew 60 = .ok (.ifCond .ne 6, 3) := by decide +kernel
theorem dX12_anew_63 : decode cX12_anew 63 = .ok (.bipush (-2), 2) := by decide +kernel
theorem dX12_anew_65 : decode cX12_anew 65 = .ok (.ireturn, 1) := by decide +kernel
theorem dX12_anew_66 : decode cX12_anew 66 = .ok (.iload 5, 2) := by decide +kernel
theorem dX12_anew_68 : decode cX12_anew 68 = .ok (.ifCond .ne 10, 3) := by decide +kernel
theorem dX12_anew_71 : decode cX12_anew 71 = .ok (.aload_n 0, 1) := by decide +kernel
theorem dX12_anew_72 : decode cX12_anew 72 = .ok (.getfield 382, 3) := by decide +kernel
theorem dX12_anew_75 : decode cX12_anew 75 = .ok (.goto 7, 3) := by decide +kernel
theorem dX12_anew_78 : decode cX12_anew 78 = .ok (.aload_n 0, 1) := by decide +kernel
theorem dX12_anew_79 : decode cX12_anew 79 = .ok (.getfield 385, 3) := by decide +kernel
theorem dX12_anew_82 : decode cX12_anew 82 = .ok (.ireturn, 1) := by decide +kernel
theorem dX12_apart_0 : decode cX12_apart 0 = .ok (.aload_n 0, 1) := by decide +kernel
theorem dX12_apart_1 : decode cX12_apart 1 = .ok (.iconst 0, 1) := by decide +kernel
theorem dX12_apart_2 : decode cX12_apart 2 = .ok (.putfield 135, 3) := by decide +kernel
theorem dX12_apart_5 : decode cX12_apart 5 = .ok (.aload_n 0, 1) := by decide +kernel
theorem dX12_apart_6 : decode cX12_apart 6 = .ok (.iload_n 1, 1) := by decide +kernel
theorem dX12_apart_7 : decode cX12_apart 7 = .ok (.invokevirtual 181, 3) := by decide +kernel
theorem dX12_apart_10 : decode cX12_apart 10 = .ok (.ifCond .eq 38, 3) := by decide +kernel
theorem dX12_apart_13 : decode cX12_apart 13 = .ok (.aload_n 0, 1) := by decide +kernel
theorem dX12_apart_14 : decode cX12_apart 14 = .ok (.iload_n 2, 1) := by decide +kernel
theorem dX12_apart_15 : decode cX12_apart 15 = .ok (.invokevirtual 181, 3) := by decide +kernel
theorem dX12_apart_18 : decode cX12_apart 18 = .ok (.ifCond .eq 30, 3) := by decide +kernel
theorem dX12_apart_21 : decode cX12_apart 21 = .ok (.aload_n 0, 1) := by decide +kernel
theorem dX12_apart_22 : decode cX12_apart 22 = .ok (.getfield 54, 3) := by decide +kernel
theorem dX12_apart_25 : decode cX12_apart 25 = .ok (.iload_n 1, 1) := by decide +kernel
theorem dX12_apart_26 : decode cX12_apart 26 = .ok (.iaload, 1) := by decide +kernel
theorem dX12_apart_27 : decode cX12_apart 27 = .ok (.ifCond .eq 21, 3) := by decide +kernel
theorem dX12_apart_30 : decode cX12_apart 30 = .ok (.aload_n 0, 1) := by decide +kernel
theorem dX12_apart_31 : decode cX12_apart 31 = .ok (.getfield 54, 3) := by decide +kernel
theorem dX12_apart_34 : decode cX12_apart 34 = .ok (.iload_n 2, 1) := by decide +kernel
theorem dX12_apart_35 : decode cX12_apart 35 = .ok (.iaload, 1) := by decide +kernel
theorem dX12_apart_36 : decode cX12_apart 36 = .ok (.ifCond .eq 12, 3) := by decide +kernel
theorem dX12_apart_39 : decode cX12_apart 39 = .ok (.iload_n 3, 1) := by decide +kernel
theorem dX12_apart_40 : decode cX12_apart 40 = .ok (.ifCond .lt 8, 3) := by decide +kernel
theorem dX12_apart_43 : decode cX12_apart 43 = .ok (.iload_n 3, 1) := by decide +kernel
theorem dX12_apart_44 : decode cX12_apart 44 = .ok (.iconst 1, 1) := by decide +kernel
theorem dX12_apart_45 : decode cX12_apart 45 = .ok (.if_icmp .le 5, 3) := by decide +kernel
theorem dX12_apart_48 : decode cX12_apart 48 = .ok (.iconst (-1), 1) := by decide +kernel
theorem dX12_apart_49 : decode cX12_apart 49 = .ok (.ireturn, 1) := by decide +kernel
theorem dX12_apart_50 : decode cX12_apart 50 = .ok (.iconst (-1), 1) := by decide +kernel
theorem dX12_apart_51 : decode cX12_apart 51 = .ok (.istore 4, 2) := by decide +kernel
theorem dX12_apart_53 : decode cX12_apart 53 = .ok (.iconst 0, 1) := by decide +kernel
theorem dX12_apart_54 : decode cX12_apart 54 = .ok (.istore 5, 2) := by decide +kernel
theorem dX12_apart_56 : decode cX12_apart 56 = .ok (.iconst 0, 1) := by decide +kernel
theorem dX12_apart_57 : decode cX12_apart 57 = .ok (.istore 6, 2) := by decide +kernel
theorem dX12_apart_59 : decode cX12_apart 59 = .ok (.iload 6, 2) := by decide +kernel
theorem dX12_apart_61 : decode cX12_apart 61 = .ok (.aload_n 0, 1) := by decide +kernel
theorem dX12_apart_62 : decode cX12_apart 62 = .ok (.getfield 54, 3) := by decide +kernel
theorem dX12_apart_65 : decode cX12_apart 65 = .ok (.iload_n 1, 1) := by decide +kernel
theorem dX12_apart_66 : decode cX12_apart 66 = .ok (.iaload, 1) := by decide +kernel
theorem dX12_apart_67 : decode cX12_apart 67 = .ok (.aload_n 0, 1) := by decide +kernel
theorem dX12_apart_68 : decode cX12_apart 68 = .ok (.getfield 54, 3) := by decide +kernel
theorem dX12_apart_71 : decode cX12_apart 71 = .ok (.iload_n 2, 1) := by decide +kernel
theorem dX12_apart_72 : decode cX12_apart 72 = .ok (.iaload, 1) := by decide +kernel
theorem dX12_apart_73 : decode cX12_apart 73 = .ok (.invokestatic 269, 3) := by decide +kernel
theorem dX12_apart_76 : decode cX12_apart 76 = .ok (.if_icmp .ge 120, 3) := by decide +kernel
theorem dX12_apart_79 : decode cX12_apart 79 = .ok (.aload_n 0, 1) := by decide +kernel
theorem dX12_apart_80 : decode cX12_apart 80 = .ok (.getfield 57, 3) := by decide +kernel
theorem dX12_apart_83 : decode cX12_apart 83 = .ok (.bipush 40, 2) := by decide +kernel
theorem dX12_apart_85 : decode cX12_apart 85 = .ok (.iload_n 1, 1) := by decide +kernel
theorem dX12_apart_86 : decode cX12_apart 86 = .ok (.imul, 1) := by decide +kernel
theorem dX12_apart_87 : decode cX12_apart 87 = .ok (.iload 6, 2) := by decide +kernel
theorem dX12_apart_89 : decode cX12_apart 89 = .ok (.iadd, 1) := by decide +kernel
theorem dX12_apart_90 : decode cX12_apart 90 = .ok (.iaload, 1) := by decide +kernel
theorem dX12_apart_91 : decode cX12_apart 91 = .ok (.istore 7, 2) := by decide +kernel
theorem dX12_apart_93 : decode cX12_apart 93 = .ok (.aload_n 0, 1) := by decide +kernel
theorem dX12_apart_94 : decode cX12_apart 94 = .ok (.getfield 57, 3) := by decide +kernel
theorem dX12_apart_97 : decode cX12_apart 97 = .ok (.bipush 40, 2) := by decide +kernel
theorem dX12_apart_99 : decode cX12_apart 99 = .ok (.iload_n 2, 1) := by decide +kernel
theorem dX12_apart_100 : decode cX12_apart 100 = .ok (.imul, 1) := by decide +kernel
theorem dX12_apart_101 : decode cX12_apart 101 = .ok (.iload 6, 2) := by decide +kernel
theorem dX12_apart_103 : decode cX12_apart 103 = .ok (.iadd, 1) := by decide +kernel
theorem dX12_apart_104 : decode cX12_apart 104 = .ok (.iaload, 1) := by decide +kernel
theorem dX12_apart_105 : decode cX12_apart 105 = .ok (.istore 8, 2) := by decide +kernel
theorem dX12_apart_107 : decode cX12_apart 107 = .ok (.aload_n 0, 1) := by decide +kernel
theorem dX12_apart_108 : decode cX12_apart 108 = .ok (.aload_n 0, 1) := by decide +kernel
theorem dX12_apart_109 : decode cX12_apart 109 = .ok (.getfield 51, 3) := by decide +kernel
theorem dX12_apart_112 : decode cX12_apart 112 = .ok (.iload_n 1, 1) := by decide +kernel
theorem dX12_apart_113 : decode cX12_apart 113 = .ok (.iaload, 1) := by decide +kernel
theorem dX12_apart_114 : decode cX12_apart 114 = .ok (.iload 7, 2) := by decide +kernel
theorem dX12_apart_116 : decode cX12_apart 116 = .ok (.iconst 1, 1) := by decide +kernel
theorem dX12_apart_117 : decode cX12_apart 117 = .ok (.invokevirtual 184, 3) := by decide +kernel
theorem dX12_apart_120 : decode cX12_apart 120 = .ok (.aload_n 0, 1) := by decide +kernel
theorem dX12_apart_121 : decode cX12_apart 121 = .ok (.aload_n 0, 1) := by decide +kernel
theorem dX12_apart_122 : decode cX12_apart 122 = .ok (.getfield 51, 3) := by decide +kernel
theorem dX12_apart_125 : decode cX12_apart 125 = .ok (.iload_n 2, 1) := by decide +kernel
theorem dX12_apart_126 : decode cX12_apart 126 = .ok (.iaload, 1) := by decide +kernel
theorem dX12_apart_127 : decode cX12_apart 127 = .ok (.iload 8, 2) := by decide +kernel
theorem dX12_apart_129 : decode cX12_apart 129 = .ok (.iconst 1, 1) := by decide +kernel
theorem dX12_apart_130 : decode cX12_apart 130 = .ok (.invokevirtual 184, 3) := by decide +kernel
theorem dX12_apart_133 : decode cX12_apart 133 = .ok (.isub, 1) := by decide +kernel
theorem dX12_apart_134 : decode cX12_apart 134 = .ok (.invokestatic 168, 3) := by decide +kernel
theorem dX12_apart_137 : decode cX12_apart 137 = .ok (.aload_n 0, 1) := by decide +kernel
theorem dX12_apart_138 : decode cX12_apart 138 = .ok (.aload_n 0, 1) := by decide +kernel
theorem dX12_apart_139 : decode cX12_apart 139 = .ok (.getfield 51, 3) := by decide +kernel
theorem dX12_apart_142 : decode cX12_apart 142 = .ok (.iload_n 1, 1) := by decide +kernel
theorem dX12_apart_143 : decode cX12_apart 143 = .ok (.iaload, 1) := by decide +kernel
theorem dX12_apart_144 : decode cX12_apart 144 = .ok (.iload 7, 2) := by decide +kernel
theorem dX12_apart_146 : decode cX12_apart 146 = .ok (.iconst 0, 1) := by decide +kernel
theorem dX12_apart_147 : decode cX12_apart 147 = .ok (.invokevirtual 184, 3) := by decide +kernel
theorem dX12_apart_150 : decode cX12_apart 150 = .ok (.aload_n 0, 1) := by decide +kernel
theorem dX12_apart_151 : decode cX12_apart 151 = .ok (.aload_n 0, 1) := by decide +kernel
theorem dX12_apart_152 : decode cX12_apart 152 = .ok (.getfield 51, 3) := by decide +kernel
theorem dX12_apart_155 : decode cX12_apart 155 = .ok (.iload_n 2, 1) := by decide +kernel
theorem dX12_apart_156 : decode cX12_apart 156 = .ok (.iaload, 1) := by decide +kernel
theorem dX12_apart_157 : decode cX12_apart 157 = .ok (.iload 8, 2) := by decide +kernel
theorem dX12_apart_159 : decode cX12_apart 159 = .ok (.iconst 0, 1) := by decide +kernel
theorem dX12_apart_160 : decode cX12_apart 160 = .ok (.invokevirtual 184, 3) := by decide +kernel
theorem dX12_apart_163 : decode cX12_apart 163 = .ok (.isub, 1) := by decide +kernel
theorem dX12_apart_164 : decode cX12_apart 164 = .ok (.invokestatic 168, 3) := by decide +kernel
theorem dX12_apart_167 : decode cX12_apart 167 = .ok (.invokestatic 174, 3) := by decide +kernel
theorem dX12_apart_170 : decode cX12_apart 170 = .ok (.istore 9, 2) := by decide +kernel
theorem dX12_apart_172 : decode cX12_apart 172 = .ok (.iload 9, 2) := by decide +kernel
theorem dX12_apart_174 : decode cX12_apart 174 = .ok (.iload 4, 2) := by decide +kernel
theorem dX12_apart_176 : decode cX12_apart 176 = .ok (.if_icmp .gt 6, 3) := by decide +kernel
theorem dX12_apart_179 : decode cX12_apart 179 = .ok (.goto 11, 3) := by decide +kernel
theorem dX12_apart_182 : decode cX12_apart 182 = .ok (.iload 9, 2) := by decide +kernel
theorem dX12_apart_184 : decode cX12_apart 184 = .ok (.istore 4, 2) := by decide +kernel
theorem dX12_apart_186 : decode cX12_apart 186 = .ok (.iload 6, 2) := by decide +kernel
theorem dX12_apart_188 : decode cX12_apart 188 = .ok (.istore 5, 2) := by decide +kernel
theorem dX12_apart_190 : decode cX12_apart 190 = .ok (.iinc 6 1, 3) := by decide +kernel
theorem dX12_apart_193 : decode cX12_apart 193 = .ok (.goto (-134), 3) := by decide +kernel
theorem dX12_apart_196 : decode cX12_apart 196 = .ok (.iload_n 3, 1) := by decide +kernel
theorem dX12_apart_197 : decode cX12_apart 197 = .ok (.ifCond .ne 8, 3) := by decide +kernel
theorem dX12_apart_200 : decode cX12_apart 200 = .ok (.iload 4, 2) := by decide +kernel
theorem dX12_apart_202 : decode cX12_apart 202 = .ok (.goto 5, 3) := by decide +kernel
theorem dX12_apart_205 : decode cX12_apart 205 = .ok (.iload 5, 2) := by decide +kernel
theorem dX12_apart_207 : decode cX12_apart 207 = .ok (.ireturn, 1) := by decide +kernel
theorem dX12_count_0 : decode cX12_count 0 = .ok (.aload_n 0, 1) := by decide +kernel
theorem dX12_count_1 : decode cX12_count 1 = .ok (.iconst 0, 1) := by decide +kernel
theorem dX12_count_2 : decode cX12_count 2 = .ok (.putfield 135, 3) := by decide +kernel
theorem dX12_count_5 : decode cX12_count 5 = .ok (.iconst 0, 1) := by decide +kernel
theorem dX12_count_6 : decode cX12_count 6 = .ok (.istore_n 2, 1) := by decide +kernel
theorem dX12_count_7 : decode cX12_count 7 = .ok (.iload_n 1, 1) := by decide +kernel
theorem dX12_count_8 : decode cX12_count 8 = .ok (.tableswitch 115 0 5 #[40, 45, 50, 77, 105, 110], 40) := by decide +kernel
theorem dX12_count_48 : decode cX12_count 48 = .ok (.aload_n 0, 1) := by decide +kernel
theorem dX12_count_49 : decode cX12_count 49 = .ok (.getfield 141, 3) := by decide +kernel
theorem dX12_count_52 : decode cX12_count 52 = .ok (.ireturn, 1) := by decide +kernel
theorem dX12_count_53 : decode cX12_count 53 = .ok (.aload_n 0, 1) := by decide +kernel
theorem dX12_count_54 : decode cX12_count 54 = .ok (.getfield 152, 3) := by decide +kernel
theorem dX12_count_57 : decode cX12_count 57 = .ok (.ireturn, 1) := by decide +kernel
theorem dX12_count_58 : decode cX12_count 58 = .ok (.iconst 0, 1) := by decide +kernel
theorem dX12_count_59 : decode cX12_count 59 = .ok (.istore_n 3, 1) := by decide +kernel
theorem dX12_count_60 : decode cX12_count 60 = .ok (.iload_n 3, 1) := by decide +kernel
theorem dX12_count_61 : decode cX12_count 61 = .ok (.aload_n 0, 1) := by decide +kernel
theorem dX12_count_62 : decode cX12_count 62 = .ok (.getfield 152, 3) := by decide +kernel
theorem dX12_count_65 : decode cX12_count 65 = .ok (.if_icmp .ge 18, 3) := by decide +kernel
theorem dX12_count_68 : decode cX12_count 68 = .ok (.iload_n 2, 1) := by decide +kernel
theorem dX12_count_69 : decode cX12_count 69 = .ok (.aload_n 0, 1) := by decide +kernel
theorem dX12_count_70 : decode cX12_count 70 = .ok (.getfield 54, 3) := by decide +kernel
theorem dX12_count_73 : decode cX12_count 73 = .ok (.iload_n 3, 1) := by decide +kernel
theorem dX12_count_74 : decode cX12_count 74 = .ok (.iaload, 1) := by decide +kernel
theorem dX12_count_75 : decode cX12_count 75 = .ok (.iadd, 1) := by decide +kernel
theorem dX12_count_76 : decode cX12_count 76 = .ok (.istore_n 2, 1) := by decide +kernel
theorem dX12_count_77 : decode cX12_count 77 = .ok (.iinc 3 1, 3) := by decide +kernel
theorem dX12_count_80 : decode cX12_count 80 = .ok (.goto (-20), 3) := by decide +kernel
theorem dX12_count_83 : decode cX12_count 83 = .ok (.iload_n 2, 1) := by decide +kernel
theorem dX12_count_84 : decode cX12_count 84 = .ok (.ireturn, 1) := by decide +kernel
theorem dX12_count_85 : decode cX12_count 85 = .ok (.iconst 0, 1) := by decide +kernel
theorem dX12_count_86 : decode cX12_count 86 = .ok (.istore_n 3, 1) := by decide +kernel
theorem dX12_count_87 : decode cX12_count 87 = .ok (.iload_n 3, 1) := by decide +kernel
theorem dX12_count_88 : decode cX12_count 88 = .ok (.aload_n 0, 1) := by decide +kernel
theorem dX12_count_89 : decode cX12_count 89 = .ok (.getfield 79, 3) := by decide +kernel
theorem dX12_count_92 : decode cX12_count 92 = .ok (.arraylength, 1) := by decide +kernel
theorem dX12_count_93 : decode cX12_count 93 = .ok (.if_icmp .ge 18, 3) := by decide +kernel
theorem dX12_count_96 : decode cX12_count 96 = .ok (.iload_n 2, 1) := by decide +kernel
theorem dX12_count_97 : decode cX12_count 97 = .ok (.aload_n 0, 1) := by decide +kernel
theorem dX12_count_98 : decode cX12_count 98 = .ok (.getfield 79, 3) := by decide +kernel
theorem dX12_count_101 : decode cX12_count 101 = .ok (.iload_n 3, 1) := by decide +kernel
theorem dX12_count_102 : decode cX12_count 102 = .ok (.iaload, 1) := by decide +kernel
theorem dX12_count_103 : decode cX12_count 103 = .ok (.iadd, 1) := by decide +kernel
theorem dX12_count_104 : decode cX12_count 104 = .ok (.istore_n 2, 1) := by decide +kernel
theorem dX12_count_105 : decode cX12_count 105 = .ok (.iinc 3 1, 3) := by decide +kernel
theorem dX12_count_108 : decode cX12_count 108 = .ok (.goto (-21), 3) := by decide +kernel
theorem dX12_count_111 : decode cX12_count 111 = .ok (.iload_n 2, 1) := by decide +kernel
theorem dX12_count_112 : decode cX12_count 112 = .ok (.ireturn, 1) := by decide +kernel
theorem dX12_count_113 : decode cX12_count 113 = .ok (.aload_n 0, 1) := by decide +kernel
theorem dX12_count_114 : decode cX12_count 114 = .ok (.invokevirtual 303, 3) := by decide +kernel
theorem dX12_count_117 : decode cX12_count 117 = .ok (.ireturn, 1) := by decide +kernel
theorem dX12_count_118 : decode cX12_count 118 = .ok (.aload_n 0, 1) := by decide +kernel
theorem dX12_count_119 : decode cX12_count 119 = .ok (.getfield 82, 3) := by decide +kernel
theorem dX12_count_122 : decode cX12_count 122 = .ok (.ireturn, 1) := by decide +kernel
theorem dX12_count_123 : decode cX12_count 123 = .ok (.iconst (-1), 1) := by decide +kernel
theorem dX12_count_124 : decode cX12_count 124 = .ok (.ireturn, 1) := by decide +kernel
