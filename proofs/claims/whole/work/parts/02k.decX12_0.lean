theorem dX12_init_0 : decode cX12_init 0 = .ok (.aload_n 0, 1) := by decide +kernel
theorem dX12_init_1 : decode cX12_init 1 = .ok (.invokespecial 3, 3) := by decide +kernel
theorem dX12_init_4 : decode cX12_init 4 = .ok (.aload_n 0, 1) := by decide +kernel
theorem dX12_init_5 : decode cX12_init 5 = .ok (.sipush 400, 3) := by decide +kernel
theorem dX12_init_8 : decode cX12_init 8 = .ok (.newarray .int, 2) := by decide +kernel
theorem dX12_init_10 : decode cX12_init 10 = .ok (.putfield 9, 3) := by decide +kernel
theorem dX12_init_13 : decode cX12_init 13 = .ok (.aload_n 0, 1) := by decide +kernel
theorem dX12_init_14 : decode cX12_init 14 = .ok (.bipush 16, 2) := by decide +kernel
theorem dX12_init_16 : decode cX12_init 16 = .ok (.newarray .int, 2) := by decide +kernel
theorem dX12_init_18 : decode cX12_init 18 = .ok (.dup, 1) := by decide +kernel
theorem dX12_init_19 : decode cX12_init 19 = .ok (.iconst 0, 1) := by decide +kernel
theorem dX12_init_20 : decode cX12_init 20 = .ok (.sipush 1000, 3) := by decide +kernel
theorem dX12_init_23 : decode cX12_init 23 = .ok (.iastore, 1) := by decide +kernel
theorem dX12_init_24 : decode cX12_init 24 = .ok (.dup, 1) := by decide +kernel
theorem dX12_init_25 : decode cX12_init 25 = .ok (.iconst 1, 1) := by decide +kernel
theorem dX12_init_26 : decode cX12_init 26 = .ok (.sipush 924, 3) := by decide +kernel
theorem dX12_init_29 : decode cX12_init 29 = .ok (.iastore, 1) := by decide +kernel
theorem dX12_init_30 : decode cX12_init 30 = .ok (.dup, 1) := by decide +kernel
theorem dX12_init_31 : decode cX12_init 31 = .ok (.iconst 2, 1) := by decide +kernel
theorem dX12_init_32 : decode cX12_init 32 = .ok (.sipush 707, 3) := by decide +kernel
theorem dX12_init_35 : decode cX12_init 35 = .ok (.iastore, 1) := by decide +kernel
theorem dX12_init_36 : decode cX12_init 36 = .ok (.dup, 1) := by decide +kernel
theorem dX12_init_37 : decode cX12_init 37 = .ok (.iconst 3, 1) := by decide +kernel
theorem dX12_init_38 : decode cX12_init 38 = .ok (.sipush 383, 3) := by decide +kernel
theorem dX12_init_41 : decode cX12_init 41 = .ok (.iastore, 1) := by decide +kernel
theorem dX12_init_42 : decode cX12_init 42 = .ok (.dup, 1) := by decide +kernel
theorem dX12_init_43 : decode cX12_init 43 = .ok (.iconst 4, 1) := by decide +kernel
theorem dX12_init_44 : decode cX12_init 44 = .ok (.iconst 0, 1) := by decide +kernel
theorem dX12_init_45 : decode cX12_init 45 = .ok (.iastore, 1) := by decide +kernel
theorem dX12_init_46 : decode cX12_init 46 = .ok (.dup, 1) := by decide +kernel
theorem dX12_init_47 : decode cX12_init 47 = .ok (.iconst 5, 1) := by decide +kernel
theorem dX12_init_48 : decode cX12_init 48 = .ok (.sipush (-383), 3) := by decide +kernel
theorem dX12_init_51 : decode cX12_init 51 = .ok (.iastore, 1) := by decide +kernel
theorem dX12_init_52 : decode cX12_init 52 = .ok (.dup, 1) := by decide +kernel
theorem dX12_init_53 : decode cX12_init 53 = .ok (.bipush 6, 2) := by decide +kernel
theorem dX12_init_55 : decode cX12_init 55 = .ok (.sipush (-707), 3) := by decide +kernel
theorem dX12_init_58 : decode cX12_init 58 = .ok (.iastore, 1) := by decide +kernel
theorem dX12_init_59 : decode cX12_init 59 = .ok (.dup, 1) := by decide +kernel
theorem dX12_init_60 : decode cX12_init 60 = .ok (.bipush 7, 2) := by decide +kernel
theorem dX12_init_62 : decode cX12_init 62 = .ok (.sipush (-924), 3) := by decide +kernel
theorem dX12_init_65 : decode cX12_init 65 = .ok (.iastore, 1) := by decide +kernel
theorem dX12_init_66 : decode cX12_init 66 = .ok (.dup, 1) := by decide +kernel
theorem dX12_init_67 : decode cX12_init 67 = .ok (.bipush 8, 2) := by decide +kernel
theorem dX12_init_69 : decode cX12_init 69 = .ok (.sipush (-1000), 3) := by decide +kernel
theorem dX12_init_72 : decode cX12_init 72 = .ok (.iastore, 1) := by decide +kernel
theorem dX12_init_73 : decode cX12_init 73 = .ok (.dup, 1) := by decide +kernel
theorem dX12_init_74 : decode cX12_init 74 = .ok (.bipush 9, 2) := by decide +kernel
theorem dX12_init_76 : decode cX12_init 76 = .ok (.sipush (-924), 3) := by decide +kernel
theorem dX12_init_79 : decode cX12_init 79 = .ok (.iastore, 1) := by decide +kernel
theorem dX12_init_80 : decode cX12_init 80 = .ok (.dup, 1) := by decide +kernel
theorem dX12_init_81 : decode cX12_init 81 = .ok (.bipush 10, 2) := by decide +kernel
theorem dX12_init_83 : decode cX12_init 83 = .ok (.sipush (-707), 3) := by decide +kernel
theorem dX12_init_86 : decode cX12_init 86 = .ok (.iastore, 1) := by decide +kernel
theorem dX12_init_87 : decode cX12_init 87 = .ok (.dup, 1) := by decide +kernel
theorem dX12_init_88 : decode cX12_init 88 = .ok (.bipush 11, 2) := by decide +kernel
theorem dX12_init_90 : decode cX12_init 90 = .ok (.sipush (-383), 3) := by decide +kernel
theorem dX12_init_93 : decode cX12_init 93 = .ok (.iastore, 1) := by decide +kernel
theorem dX12_init_94 : decode cX12_init 94 = .ok (.dup, 1) := by decide +kernel
theorem dX12_init_95 : decode cX12_init 95 = .ok (.bipush 12, 2) := by decide +kernel
theorem dX12_init_97 : decode cX12_init 97 = .ok (.iconst 0, 1) := by decide +kernel
theorem dX12_init_98 : decode cX12_init 98 = .ok (.iastore, 1) := by decide +kernel
theorem dX12_init_99 : decode cX12_init 99 = .ok (.dup, 1) := by decide +kernel
theorem dX12_init_100 : decode cX12_init 100 = .ok (.bipush 13, 2) := by decide +kernel
theorem dX12_init_102 : decode cX12_init 102 = .ok (.sipush 383, 3) := by decide +kernel
theorem dX12_init_105 : decode cX12_init 105 = .ok (.iastore, 1) := by decide +kernel
theorem dX12_init_106 : decode cX12_init 106 = .ok (.dup, 1) := by decide +kernel
theorem dX12_init_107 : decode cX12_init 107 = .ok (.bipush 14, 2) := by decide +kernel
theorem dX12_init_109 : decode cX12_init 109 = .ok (.sipush 707, 3) := by decide +kernel
theorem dX12_init_112 : decode cX12_init 112 = .ok (.iastore, 1) := by decide +kernel
theorem dX12_init_113 : decode cX12_init 113 = .ok (.dup, 1) := by decide +kernel
theorem dX12_init_114 : decode cX12_init 114 = .ok (.bipush 15, 2) := by decide +kernel
theorem dX12_init_116 : decode cX12_init 116 = .ok (.sipush 924, 3) := by decide +kernel
theorem dX12_init_119 : decode cX12_init 119 = .ok (.iastore, 1) := by decide +kernel
theorem dX12_init_120 : decode cX12_init 120 = .ok (.putfield 15, 3) := by decide +kernel
theorem dX12_init_123 : decode cX12_init 123 = .ok (.aload_n 0, 1) := by decide +kernel
theorem dX12_init_124 : decode cX12_init 124 = .ok (.iconst 2, 1) := by decide +kernel
theorem dX12_init_125 : decode cX12_init 125 = .ok (.newarray .int, 2) := by decide +kernel
theorem dX12_init_127 : decode cX12_init 127 = .ok (.putfield 18, 3) := by decide +kernel
theorem dX12_init_130 : decode cX12_init 130 = .ok (.aload_n 0, 1) := by decide +kernel
theorem dX12_init_131 : decode cX12_init 131 = .ok (.iconst 2, 1) := by decide +kernel
theorem dX12_init_132 : decode cX12_init 132 = .ok (.newarray .int, 2) := by decide +kernel
theorem dX12_init_134 : decode cX12_init 134 = .ok (.putfield 21, 3) := by decide +kernel
theorem dX12_init_137 : decode cX12_init 137 = .ok (.aload_n 0, 1) := by decide +kernel
theorem dX12_init_138 : decode cX12_init 138 = .ok (.iconst 2, 1) := by decide +kernel
theorem dX12_init_139 : decode cX12_init 139 = .ok (.newarray .int, 2) := by decide +kernel
theorem dX12_init_141 : decode cX12_init 141 = .ok (.putfield 24, 3) := by decide +kernel
theorem dX12_init_144 : decode cX12_init 144 = .ok (.aload_n 0, 1) := by decide +kernel
theorem dX12_init_145 : decode cX12_init 145 = .ok (.bipush 6, 2) := by decide +kernel
theorem dX12_init_147 : decode cX12_init 147 = .ok (.newarray .int, 2) := by decide +kernel
theorem dX12_init_149 : decode cX12_init 149 = .ok (.putfield 27, 3) := by decide +kernel
theorem dX12_init_152 : decode cX12_init 152 = .ok (.aload_n 0, 1) := by decide +kernel
theorem dX12_init_153 : decode cX12_init 153 = .ok (.bipush 6, 2) := by decide +kernel
theorem dX12_init_155 : decode cX12_init 155 = .ok (.newarray .int, 2) := by decide +kernel
theorem dX12_init_157 : decode cX12_init 157 = .ok (.putfield 30, 3) := by decide +kernel
theorem dX12_init_160 : decode cX12_init 160 = .ok (.aload_n 0, 1) := by decide +kernel
theorem dX12_init_161 : decode cX12_init 161 = .ok (.bipush 6, 2) := by decide +kernel
theorem dX12_init_163 : decode cX12_init 163 = .ok (.newarray .int, 2) := by decide +kernel
theorem dX12_init_165 : decode cX12_init 165 = .ok (.putfield 33, 3) := by decide +kernel
theorem dX12_init_168 : decode cX12_init 168 = .ok (.aload_n 0, 1) := by decide +kernel
theorem dX12_init_169 : decode cX12_init 169 = .ok (.bipush 6, 2) := by decide +kernel
theorem dX12_init_171 : decode cX12_init 171 = .ok (.newarray .int, 2) := by decide +kernel
theorem dX12_init_173 : decode cX12_init 173 = .ok (.putfield 36, 3) := by decide +kernel
theorem dX12_init_176 : decode cX12_init 176 = .ok (.aload_n 0, 1) := by decide +kernel
theorem dX12_init_177 : decode cX12_init 177 = .ok (.iconst 2, 1) := by decide +kernel
theorem dX12_init_178 : decode cX12_init 178 = .ok (.newarray .int, 2) := by decide +kernel
theorem dX12_init_180 : decode cX12_init 180 = .ok (.putfield 39, 3) := by decide +kernel
theorem dX12_init_183 : decode cX12_init 183 = .ok (.aload_n 0, 1) := by decide +kernel
theorem dX12_init_184 : decode cX12_init 184 = .ok (.iconst 2, 1) := by decide +kernel
theorem dX12_init_185 : decode cX12_init 185 = .ok (.newarray .int, 2) := by decide +kernel
theorem dX12_init_187 : decode cX12_init 187 = .ok (.putfield 42, 3) := by decide +kernel
theorem dX12_init_190 : decode cX12_init 190 = .ok (.aload_n 0, 1) := by decide +kernel
theorem dX12_init_191 : decode cX12_init 191 = .ok (.iconst 2, 1) := by decide +kernel
theorem dX12_init_192 : decode cX12_init 192 = .ok (.newarray .int, 2) := by decide +kernel
theorem dX12_init_194 : decode cX12_init 194 = .ok (.putfield 45, 3) := by decide +kernel
theorem dX12_init_197 : decode cX12_init 197 = .ok (.aload_n 0, 1) := by decide +kernel
theorem dX12_init_198 : decode cX12_init 198 = .ok (.iconst 2, 1) := by decide +kernel
theorem dX12_init_199 : decode cX12_init 199 = .ok (.newarray .int, 2) := by decide +kernel
theorem dX12_init_201 : decode cX12_init 201 = .ok (.putfield 48, 3) := by decide +kernel
theorem dX12_init_204 : decode cX12_init 204 = .ok (.aload_n 0, 1) := by decide +kernel
theorem dX12_init_205 : decode cX12_init 205 = .ok (.bipush 11, 2) := by decide +kernel
theorem dX12_init_207 : decode cX12_init 207 = .ok (.newarray .int, 2) := by decide +kernel
theorem dX12_init_209 : decode cX12_init 209 = .ok (.putfield 51, 3) := by decide +kernel
theorem dX12_init_212 : decode cX12_init 212 = .ok (.aload_n 0, 1) := by decide +kernel
theorem dX12_init_213 : decode cX12_init 213 = .ok (.bipush 11, 2) := by decide +kernel
theorem dX12_init_215 : decode cX12_init 215 = .ok (.newarray .int, 2) := by decide +kernel
theorem dX12_init_217 : decode cX12_init 217 = .ok (.putfield 54, 3) := by decide +kernel
theorem dX12_init_220 : decode cX12_init 220 = .ok (.aload_n 0, 1) := by decide +kernel
theorem dX12_init_221 : decode cX12_init 221 = .ok (.sipush 440, 3) := by decide +kernel
theorem dX12_init_224 : decode cX12_init 224 = .ok (.newarray .int, 2) := by decide +kernel
theorem dX12_init_226 : decode cX12_init 226 = .ok (.putfield 57, 3) := by decide +kernel
theorem dX12_init_229 : decode cX12_init 229 = .ok (.aload_n 0, 1) := by decide +kernel
theorem dX12_init_230 : decode cX12_init 230 = .ok (.sipush 440, 3) := by decide +kernel
theorem dX12_init_233 : decode cX12_init 233 = .ok (.newarray .int, 2) := by decide +kernel
theorem dX12_init_235 : decode cX12_init 235 = .ok (.putfield 60, 3) := by decide +kernel
theorem dX12_init_238 : decode cX12_init 238 = .ok (.aload_n 0, 1) := by decide +kernel
theorem dX12_init_239 : decode cX12_init 239 = .ok (.iconst (-1), 1) := by decide +kernel
theorem dX12_init_240 : decode cX12_init 240 = .ok (.putfield 63, 3) := by decide +kernel
theorem dX12_init_243 : decode cX12_init 243 = .ok (.aload_n 0, 1) := by decide +kernel
theorem dX12_init_244 : decode cX12_init 244 = .ok (.bipush 41, 2) := by decide +kernel
theorem dX12_init_246 : decode cX12_init 246 = .ok (.newarray .int, 2) := by decide +kernel
theorem dX12_init_248 : decode cX12_init 248 = .ok (.putfield 67, 3) := by decide +kernel
theorem dX12_init_251 : decode cX12_init 251 = .ok (.aload_n 0, 1) := by decide +kernel
theorem dX12_init_252 : decode cX12_init 252 = .ok (.bipush 41, 2) := by decide +kernel
theorem dX12_init_254 : decode cX12_init 254 = .ok (.newarray .int, 2) := by decide +kernel
theorem dX12_init_256 : decode cX12_init 256 = .ok (.putfield 70, 3) := by decide +kernel
theorem dX12_init_259 : decode cX12_init 259 = .ok (.aload_n 0, 1) := by decide +kernel
theorem dX12_init_260 : decode cX12_init 260 = .ok (.bipush 41, 2) := by decide +kernel
theorem dX12_init_262 : decode cX12_init 262 = .ok (.newarray .int, 2) := by decide +kernel
theorem dX12_init_264 : decode cX12_init 264 = .ok (.putfield 73, 3) := by decide +kernel
theorem dX12_init_267 : decode cX12_init 267 = .ok (.aload_n 0, 1) := by decide +kernel
theorem dX12_init_268 : decode cX12_init 268 = .ok (.bipush 41, 2) := by decide +kernel
theorem dX12_init_270 : decode cX12_init 270 = .ok (.newarray .int, 2) := by decide +kernel
theorem dX12_init_272 : decode cX12_init 272 = .ok (.putfield 76, 3) := by decide +kernel
theorem dX12_init_275 : decode cX12_init 275 = .ok (.aload_n 0, 1) := by decide +kernel
theorem dX12_init_276 : decode cX12_init 276 = .ok (.sipush 256, 3) := by decide +kernel
theorem dX12_init_279 : decode cX12_init 279 = .ok (.newarray .int, 2) := by decide +kernel
theorem dX12_init_281 : decode cX12_init 281 = .ok (.putfield 79, 3) := by decide +kernel
theorem dX12_init_284 : decode cX12_init 284 = .ok (.aload_n 0, 1) := by decide +kernel
theorem dX12_init_285 : decode cX12_init 285 = .ok (.bipush 10, 2) := by decide +kernel
theorem dX12_init_287 : decode cX12_init 287 = .ok (.putfield 82, 3) := by decide +kernel
theorem dX12_init_290 : decode cX12_init 290 = .ok (.aload_n 0, 1) := by decide +kernel
theorem dX12_init_291 : decode cX12_init 291 = .ok (.iconst (-1), 1) := by decide +kernel
theorem dX12_init_292 : decode cX12_init 292 = .ok (.putfield 85, 3) := by decide +kernel
theorem dX12_init_295 : decode cX12_init 295 = .ok (.aload_n 0, 1) := by decide +kernel
theorem dX12_init_296 : decode cX12_init 296 = .ok (.iconst (-1), 1) := by decide +kernel
theorem dX12_init_297 : decode cX12_init 297 = .ok (.putfield 88, 3) := by decide +kernel
theorem dX12_init_300 : decode cX12_init 300 = .ok (.aload_n 0, 1) := by decide +kernel
theorem dX12_init_301 : decode cX12_init 301 = .ok (.ldc 91, 2) := by decide +kernel
theorem dX12_init_303 : decode cX12_init 303 = .ok (.newarray .int, 2) := by decide +kernel
theorem dX12_init_305 : decode cX12_init 305 = .ok (.putfield 92, 3) := by decide +kernel
theorem dX12_init_308 : decode cX12_init 308 = .ok (.aload_n 0, 1) := by decide +kernel
theorem dX12_init_309 : decode cX12_init 309 = .ok (.sipush 8192, 3) := by decide +kernel
theorem dX12_init_312 : decode cX12_init 312 = .ok (.newarray .boolean, 2) := by decide +kernel
theorem dX12_init_314 : decode cX12_init 314 = .ok (.putfield 95, 3) := by decide +kernel
theorem dX12_init_317 : decode cX12_init 317 = .ok (.aload_n 0, 1) := by decide +kernel
theorem dX12_init_318 : decode cX12_init 318 = .ok (.bipush 40, 2) := by decide +kernel
theorem dX12_init_320 : decode cX12_init 320 = .ok (.newarray .int, 2) := by decide +kernel
theorem dX12_init_322 : decode cX12_init 322 = .ok (.putfield 99, 3) := by decide +kernel
theorem dX12_init_325 : decode cX12_init 325 = .ok (.aload_n 0, 1) := by decide +kernel
theorem dX12_init_326 : decode cX12_init 326 = .ok (.sipush 1600, 3) := by decide +kernel
theorem dX12_init_329 : decode cX12_init 329 = .ok (.newarray .int, 2) := by decide +kernel
theorem dX12_init_331 : decode cX12_init 331 = .ok (.putfield 102, 3) := by decide +kernel
theorem dX12_init_334 : decode cX12_init 334 = .ok (.aload_n 0, 1) := by decide +kernel
theorem dX12_init_335 : decode cX12_init 335 = .ok (.bipush 80, 2) := by decide +kernel
theorem dX12_init_337 : decode cX12_init 337 = .ok (.newarray .int, 2) := by decide +kernel
theorem dX12_init_339 : decode cX12_init 339 = .ok (.putfield 105, 3) := by decide +kernel
theorem dX12_init_342 : decode cX12_init 342 = .ok (.aload_n 0, 1) := by decide +kernel
theorem dX12_init_343 : decode cX12_init 343 = .ok (.bipush 12, 2) := by decide +kernel
theorem dX12_init_345 : decode cX12_init 345 = .ok (.newarray .int, 2) := by decide +kernel
theorem dX12_init_347 : decode cX12_init 347 = .ok (.putfield 108, 3) := by decide +kernel
theorem dX12_init_350 : decode cX12_init 350 = .ok (.aload_n 0, 1) := by decide +kernel
theorem dX12_init_351 : decode cX12_init 351 = .ok (.bipush 20, 2) := by decide +kernel
theorem dX12_init_353 : decode cX12_init 353 = .ok (.newarray .boolean, 2) := by decide +kernel
theorem dX12_init_355 : decode cX12_init 355 = .ok (.putfield 111, 3) := by decide +kernel
theorem dX12_init_358 : decode cX12_init 358 = .ok (.aload_n 0, 1) := by decide +kernel
theorem dX12_init_359 : decode cX12_init 359 = .ok (.bipush 20, 2) := by decide +kernel
theorem dX12_init_361 : decode cX12_init 361 = .ok (.newarray .int, 2) := by decide +kernel
theorem dX12_init_363 : decode cX12_init 363 = .ok (.putfield 114, 3) := by decide +kernel
theorem dX12_init_366 : decode cX12_init 366 = .ok (.aload_n 0, 1) := by decide +kernel
theorem dX12_init_367 : decode cX12_init 367 = .ok (.bipush 20, 2) := by decide +kernel
theorem dX12_init_369 : decode cX12_init 369 = .ok (.newarray .int, 2) := by decide +kernel
theorem dX12_init_371 : decode cX12_init 371 = .ok (.putfield 117, 3) := by decide +kernel
theorem dX12_init_374 : decode cX12_init 374 = .ok (.aload_n 0, 1) := by decide +kernel
theorem dX12_init_375 : decode cX12_init 375 = .ok (.iconst 5, 1) := by decide +kernel
theorem dX12_init_376 : decode cX12_init 376 = .ok (.newarray .int, 2) := by decide +kernel
theorem dX12_init_378 : decode cX12_init 378 = .ok (.putfield 120, 3) := by decide +kernel
theorem dX12_init_381 : decode cX12_init 381 = .ok (.aload_n 0, 1) := by decide +kernel
theorem dX12_init_382 : decode cX12_init 382 = .ok (.sipush 256, 3) := by decide +kernel
theorem dX12_init_385 : decode cX12_init 385 = .ok (.newarray .int, 2) := by decide +kernel
theorem dX12_init_387 : decode cX12_init 387 = .ok (.putfield 123, 3) := by decide +kernel
theorem dX12_init_390 : decode cX12_init 390 = .ok (.aload_n 0, 1) := by decide +kernel
theorem dX12_init_391 : decode cX12_init 391 = .ok (.sipush 256, 3) := by decide +kernel
theorem dX12_init_394 : decode cX12_init 394 = .ok (.newarray .int, 2) := by decide +kernel
theorem dX12_init_396 : decode cX12_init 396 = .ok (.putfield 126, 3) := by decide +kernel
theorem dX12_init_399 : decode cX12_init 399 = .ok (.aload_n 0, 1) := by decide +kernel
theorem dX12_init_400 : decode cX12_init 400 = .ok (.iconst 3, 1) := by decide +kernel
theorem dX12_init_401 : decode cX12_init 401 = .ok (.newarray .int, 2) := by decide +kernel
theorem dX12_init_403 : decode cX12_init 403 = .ok (.putfield 129, 3) := by decide +kernel
theorem dX12_init_406 : decode cX12_init 406 = .ok (.aload_n 0, 1) := by decide +kernel
theorem dX12_init_407 : decode cX12_init 407 = .ok (.iconst 3, 1) := by decide +kernel
theorem dX12_init_408 : decode cX12_init 408 = .ok (.newarray .int, 2) := by decide +kernel
theorem dX12_init_410 : decode cX12_init 410 = .ok (.putfield 132, 3) := by decide +kernel
theorem dX12_init_413 : decode cX12_init 413 = .ok (.return_, 1) := by decide +kernel
theorem dX12_thrown_0 : decode cX12_thrown 0 = .ok (.aload_n 0, 1) := by decide +kernel
theorem dX12_thrown_1 : decode cX12_thrown 1 = .ok (.getfield 135, 3) := by decide +kernel
theorem dX12_thrown_4 : decode cX12_thrown 4 = .ok (.ireturn, 1) := by decide +kernel
theorem dX12_feed_0 : decode cX12_feed 0 = .ok (.aload_n 0, 1) := by decide +kernel
theorem dX12_feed_1 : decode cX12_feed 1 = .ok (.iconst 0, 1) := by decide +kernel
theorem dX12_feed_2 : decode cX12_feed 2 = .ok (.putfield 135, 3) := by decide +kernel
theorem dX12_feed_5 : decode cX12_feed 5 = .ok (.aload_n 0, 1) := by decide +kernel
theorem dX12_feed_6 : decode cX12_feed 6 = .ok (.getfield 138, 3) := by decide +kernel
theorem dX12_feed_9 : decode cX12_feed 9 = .ok (.sipush 380, 3) := by decide +kernel
theorem dX12_feed_12 : decode cX12_feed 12 = .ok (.if_icmp .le 5, 3) := by decide +kernel
theorem dX12_feed_15 : decode cX12_feed 15 = .ok (.iconst (-1), 1) := by decide +kernel
theorem dX12_feed_16 : decode cX12_feed 16 = .ok (.ireturn, 1) := by decide +kernel
theorem dX12_feed_17 : decode cX12_feed 17 = .ok (.iconst 0, 1) := by decide +kernel
theorem dX12_feed_18 : decode cX12_feed 18 = .ok (.istore 6, 2) := by decide +kernel
theorem dX12_feed_20 : decode cX12_feed 20 = .ok (.iload 6, 2) := by decide +kernel
theorem dX12_feed_22 : decode cX12_feed 22 = .ok (.bipush 20, 2) := by decide +kernel
theorem dX12_feed_24 : decode cX12_feed 24 = .ok (.if_icmp .ge 86, 3) := by decide +kernel
theorem dX12_feed_27 : decode cX12_feed 27 = .ok (.iload 6, 2) := by decide +kernel
theorem dX12_feed_29 : decode cX12_feed 29 = .ok (.iconst 4, 1) := by decide +kernel
theorem dX12_feed_30 : decode cX12_feed 30 = .ok (.if_icmp .ge 7, 3) := by decide +kernel
theorem dX12_feed_33 : decode cX12_feed 33 = .ok (.iload_n 1, 1) := by decide +kernel
theorem dX12_feed_34 : decode cX12_feed 34 = .ok (.goto 39, 3) := by decide +kernel
theorem dX12_feed_37 : decode cX12_feed 37 = .ok (.iload 6, 2) := by decide +kernel
theorem dX12_feed_39 : decode cX12_feed 39 = .ok (.bipush 8, 2) := by decide +kernel
theorem dX12_feed_41 : decode cX12_feed 41 = .ok (.if_icmp .ge 7, 3) := by decide +kernel
theorem dX12_feed_44 : decode cX12_feed 44 = .ok (.iload_n 2, 1) := by decide +kernel
theorem dX12_feed_45 : decode cX12_feed 45 = .ok (.goto 28, 3) := by decide +kernel
theorem dX12_feed_48 : decode cX12_feed 48 = .ok (.iload 6, 2) := by decide +kernel
theorem dX12_feed_50 : decode cX12_feed 50 = .ok (.bipush 12, 2) := by decide +kernel
theorem dX12_feed_52 : decode cX12_feed 52 = .ok (.if_icmp .ge 7, 3) := by decide +kernel
theorem dX12_feed_55 : decode cX12_feed 55 = .ok (.iload_n 3, 1) := by decide +kernel
theorem dX12_feed_56 : decode cX12_feed 56 = .ok (.goto 17, 3) := by decide +kernel
theorem dX12_feed_59 : decode cX12_feed 59 = .ok (.iload 6, 2) := by decide +kernel
theorem dX12_feed_61 : decode cX12_feed 61 = .ok (.bipush 16, 2) := by decide +kernel
theorem dX12_feed_63 : decode cX12_feed 63 = .ok (.if_icmp .ge 8, 3) := by decide +kernel
theorem dX12_feed_66 : decode cX12_feed 66 = .ok (.iload 4, 2) := by decide +kernel
theorem dX12_feed_68 : decode cX12_feed 68 = .ok (.goto 5, 3) := by decide +kernel
theorem dX12_feed_71 : decode cX12_feed 71 = .ok (.iload 5, 2) := by decide +kernel
theorem dX12_feed_73 : decode cX12_feed 73 = .ok (.istore 7, 2) := by decide +kernel
theorem dX12_feed_75 : decode cX12_feed 75 = .ok (.aload_n 0, 1) := by decide +kernel
theorem dX12_feed_76 : decode cX12_feed 76 = .ok (.getfield 9, 3) := by decide +kernel
theorem dX12_feed_79 : decode cX12_feed 79 = .ok (.aload_n 0, 1) := by decide +kernel
theorem dX12_feed_80 : decode cX12_feed 80 = .ok (.getfield 138, 3) := by decide +kernel
theorem dX12_feed_83 : decode cX12_feed 83 = .ok (.iload 6, 2) := by decide +kernel
theorem dX12_feed_85 : decode cX12_feed 85 = .ok (.iadd, 1) := by decide +kernel
theorem dX12_feed_86 : decode cX12_feed 86 = .ok (.iload 7, 2) := by decide +kernel
theorem dX12_feed_88 : decode cX12_feed 88 = .ok (.bipush 24, 2) := by decide +kernel
theorem dX12_feed_90 : decode cX12_feed 90 = .ok (.bipush 8, 2) := by decide +kernel
theorem dX12_feed_92 : decode cX12_feed 92 = .ok (.iload 6, 2) := by decide +kernel
theorem dX12_feed_94 : decode cX12_feed 94 = .ok (.iconst 4, 1) := by decide +kernel
theorem dX12_feed_95 : decode cX12_feed 95 = .ok (.irem, 1) := by decide +kernel
theorem dX12_feed_96 : decode cX12_feed 96 = .ok (.imul, 1) := by decide +kernel
theorem dX12_feed_97 : decode cX12_feed 97 = .ok (.isub, 1) := by decide +kernel
theorem dX12_feed_98 : decode cX12_feed 98 = .ok (.ishr, 1) := by decide +kernel
theorem dX12_feed_99 : decode cX12_feed 99 = .ok (.sipush 255, 3) := by decide +kernel
theorem dX12_feed_102 : decode cX12_feed 102 = .ok (.iand, 1) := by decide +kernel
theorem dX12_feed_103 : decode cX12_feed 103 = .ok (.iastore, 1) := by decide +kernel
theorem dX12_feed_104 : decode cX12_feed 104 = .ok (.iinc 6 1, 3) := by decide +kernel
theorem dX12_feed_107 : decode cX12_feed 107 = .ok (.goto (-87), 3) := by decide +kernel
theorem dX12_feed_110 : decode cX12_feed 110 = .ok (.aload_n 0, 1) := by decide +kernel
theorem dX12_feed_111 : decode cX12_feed 111 = .ok (.dup, 1) := by decide +kernel
theorem dX12_feed_112 : decode cX12_feed 112 = .ok (.getfield 138, 3) := by decide +kernel
theorem dX12_feed_115 : decode cX12_feed 115 = .ok (.bipush 20, 2) := by decide +kernel
theorem dX12_feed_117 : decode cX12_feed 117 = .ok (.iadd, 1) := by decide +kernel
theorem dX12_feed_118 : decode cX12_feed 118 = .ok (.putfield 138, 3) := by decide +kernel
theorem dX12_feed_121 : decode cX12_feed 121 = .ok (.aload_n 0, 1) := by decide +kernel
theorem dX12_feed_122 : decode cX12_feed 122 = .ok (.getfield 138, 3) := by decide +kernel
theorem dX12_feed_125 : decode cX12_feed 125 = .ok (.ireturn, 1) := by decide +kernel
theorem dX12_in_0 : decode cX12_in 0 = .ok (.iload_n 0, 1) := by decide +kernel
theorem dX12_in_1 : decode cX12_in 1 = .ok (.iload_n 1, 1) := by decide +kernel
theorem dX12_in_2 : decode cX12_in 2 = .ok (.if_icmp .lt 12, 3) := by decide +kernel
theorem dX12_in_5 : decode cX12_in 5 = .ok (.iload_n 0, 1) := by decide +kernel
theorem dX12_in_6 : decode cX12_in 6 = .ok (.iload_n 2, 1) := by decide +kernel
theorem dX12_in_7 : decode cX12_in 7 = .ok (.if_icmp .gt 7, 3) := by decide +kernel
theorem dX12_in_10 : decode cX12_in 10 = .ok (.iconst 1, 1) := by decide +kernel
theorem dX12_in_11 : decode cX12_in 11 = .ok (.goto 4, 3) := by decide +kernel
theorem dX12_in_14 : decode cX12_in 14 = .ok (.iconst 0, 1) := by decide +kernel
theorem dX12_in_15 : decode cX12_in 15 = .ok (.ireturn, 1) := by decide +kernel
theorem dX12_isArm_0 : decode cX12_isArm 0 = .ok (.iload_n 1, 1) := by decide +kernel
theorem dX12_isArm_1 : decode cX12_isArm 1 = .ok (.ifCond .lt 15, 3) := by decide +kernel
theorem dX12_isArm_4 : decode cX12_isArm 4 = .ok (.iload_n 1, 1) := by decide +kernel
theorem dX12_isArm_5 : decode cX12_isArm 5 = .ok (.aload_n 0, 1) := by decide +kernel
theorem dX12_isArm_6 : decode cX12_isArm 6 = .ok (.getfield 141, 3) := by decide +kernel
theorem dX12_isArm_9 : decode cX12_isArm 9 = .ok (.if_icmp .ge 7, 3) := by decide +kernel
theorem dX12_isArm_12 : decode cX12_isArm 12 = .ok (.iconst 1, 1) := by decide +kernel
theorem dX12_isArm_13 : decode cX12_isArm 13 = .ok (.goto 4, 3) := by decide +kernel
theorem dX12_isArm_16 : decode cX12_isArm 16 = .ok (.iconst 0, 1) := by decide +kernel
theorem dX12_isArm_17 : decode cX12_isArm 17 = .ok (.ireturn, 1) := by decide +kernel
theorem dX12_arm_0 : decode cX12_arm 0 = .ok (.aload_n 0, 1) := by decide +kernel
theorem dX12_arm_1 : decode cX12_arm 1 = .ok (.iconst 0, 1) := by decide +kernel
theorem dX12_arm_2 : decode cX12_arm 2 = .ok (.putfield 135, 3) := by decide +kernel
theorem dX12_arm_5 : decode cX12_arm 5 = .ok (.iload_n 1, 1) := by decide +kernel
theorem dX12_arm_6 : decode cX12_arm 6 = .ok (.iconst 0, 1) := by decide +kernel
theorem dX12_arm_7 : decode cX12_arm 7 = .ok (.bipush 20, 2) := by decide +kernel
theorem dX12_arm_9 : decode cX12_arm 9 = .ok (.invokestatic 144, 3) := by decide +kernel
theorem dX12_arm_12 : decode cX12_arm 12 = .ok (.ifCond .eq 21, 3) := by decide +kernel
theorem dX12_arm_15 : decode cX12_arm 15 = .ok (.iload_n 2, 1) := by decide +kernel
theorem dX12_arm_16 : decode cX12_arm 16 = .ok (.iconst 0, 1) := by decide +kernel
theorem dX12_arm_17 : decode cX12_arm 17 = .ok (.bipush 20, 2) := by decide +kernel
theorem dX12_arm_19 : decode cX12_arm 19 = .ok (.invokestatic 144, 3) := by decide +kernel
theorem dX12_arm_22 : decode cX12_arm 22 = .ok (.ifCond .eq 11, 3) := by decide +kernel
theorem dX12_arm_25 : decode cX12_arm 25 = .ok (.aload_n 0, 1) := by decide +kernel
theorem dX12_arm_26 : decode cX12_arm 26 = .ok (.getfield 141, 3) := by decide +kernel
theorem dX12_arm_29 : decode cX12_arm 29 = .ok (.iconst 2, 1) := by decide +kernel
theorem dX12_arm_30 : decode cX12_arm 30 = .ok (.if_icmp .ne 5, 3) := by decide +kernel
theorem dX12_arm_33 : decode cX12_arm 33 = .ok (.iconst (-1), 1) := by decide +kernel
theorem dX12_arm_34 : decode cX12_arm 34 = .ok (.ireturn, 1) := by decide +kernel
theorem dX12_arm_35 : decode cX12_arm 35 = .ok (.aload_n 0, 1) := by decide +kernel
theorem dX12_arm_36 : decode cX12_arm 36 = .ok (.getfield 18, 3) := by decide +kernel
theorem dX12_arm_39 : decode cX12_arm 39 = .ok (.aload_n 0, 1) := by decide +kernel
theorem dX12_arm_40 : decode cX12_arm 40 = .ok (.getfield 141, 3) := by decide +kernel
theorem dX12_arm_43 : decode cX12_arm 43 = .ok (.iload_n 1, 1) := by decide +kernel
theorem dX12_arm_44 : decode cX12_arm 44 = .ok (.iastore, 1) := by decide +kernel
theorem dX12_arm_45 : decode cX12_arm 45 = .ok (.aload_n 0, 1) := by decide +kernel
theorem dX12_arm_46 : decode cX12_arm 46 = .ok (.getfield 21, 3) := by decide +kernel
theorem dX12_arm_49 : decode cX12_arm 49 = .ok (.aload_n 0, 1) := by decide +kernel
theorem dX12_arm_50 : decode cX12_arm 50 = .ok (.getfield 141, 3) := by decide +kernel
theorem dX12_arm_53 : decode cX12_arm 53 = .ok (.iload_n 2, 1) := by decide +kernel
theorem dX12_arm_54 : decode cX12_arm 54 = .ok (.iastore, 1) := by decide +kernel
theorem dX12_arm_55 : decode cX12_arm 55 = .ok (.aload_n 0, 1) := by decide +kernel
theorem dX12_arm_56 : decode cX12_arm 56 = .ok (.getfield 24, 3) := by decide +kernel
theorem dX12_arm_59 : decode cX12_arm 59 = .ok (.aload_n 0, 1) := by decide +kernel
theorem dX12_arm_60 : decode cX12_arm 60 = .ok (.getfield 141, 3) := by decide +kernel
theorem dX12_arm_63 : decode cX12_arm 63 = .ok (.iconst 0, 1) := by decide +kernel
theorem dX12_arm_64 : decode cX12_arm 64 = .ok (.iastore, 1) := by decide +kernel
theorem dX12_arm_65 : decode cX12_arm 65 = .ok (.aload_n 0, 1) := by decide +kernel
theorem dX12_arm_66 : decode cX12_arm 66 = .ok (.dup, 1) := by decide +kernel
theorem dX12_arm_67 : decode cX12_arm 67 = .ok (.getfield 141, 3) := by decide +kernel
theorem dX12_arm_70 : decode cX12_arm 70 = .ok (.iconst 1, 1) := by decide +kernel
theorem dX12_arm_71 : decode cX12_arm 71 = .ok (.iadd, 1) := by decide +kernel
theorem dX12_arm_72 : decode cX12_arm 72 = .ok (.putfield 141, 3) := by decide +kernel
theorem dX12_arm_75 : decode cX12_arm 75 = .ok (.aload_n 0, 1) := by decide +kernel
theorem dX12_arm_76 : decode cX12_arm 76 = .ok (.getfield 141, 3) := by decide +kernel
theorem dX12_arm_79 : decode cX12_arm 79 = .ok (.iconst 1, 1) := by decide +kernel
theorem dX12_arm_80 : decode cX12_arm 80 = .ok (.isub, 1) := by decide +kernel
theorem dX12_arm_81 : decode cX12_arm 81 = .ok (.ireturn, 1) := by decide +kernel
theorem dX12_joint_0 : decode cX12_joint 0 = .ok (.aload_n 0, 1) := by decide +kernel
theorem dX12_joint_1 : decode cX12_joint 1 = .ok (.iconst 0, 1) := by decide +kernel
theorem dX12_joint_2 : decode cX12_joint 2 = .ok (.putfield 135, 3) := by decide +kernel
theorem dX12_joint_5 : decode cX12_joint 5 = .ok (.aload_n 0, 1) := by decide +kernel
theorem dX12_joint_6 : decode cX12_joint 6 = .ok (.iload_n 1, 1) := by decide +kernel
theorem dX12_joint_7 : decode cX12_joint 7 = .ok (.invokevirtual 148, 3) := by decide +kernel
theorem dX12_joint_10 : decode cX12_joint 10 = .ok (.ifCond .eq 54, 3) := by decide +kernel
theorem dX12_joint_13 : decode cX12_joint 13 = .ok (.aload_n 0, 1) := by decide +kernel
theorem dX12_joint_14 : decode cX12_joint 14 = .ok (.getfield 24, 3) := by decide +kernel
theorem dX12_joint_17 : decode cX12_joint 17 = .ok (.iload_n 1, 1) := by decide +kernel
theorem dX12_joint_18 : decode cX12_joint 18 = .ok (.iaload, 1) := by decide +kernel
theorem dX12_joint_19 : decode cX12_joint 19 = .ok (.iconst 3, 1) := by decide +kernel
theorem dX12_joint_20 : decode cX12_joint 20 = .ok (.if_icmp .eq 44, 3) := by decide +kernel
theorem dX12_joint_23 : decode cX12_joint 23 = .ok (.iload_n 2, 1) := by decide +kernel
theorem dX12_joint_24 : decode cX12_joint 24 = .ok (.iconst 1, 1) := by decide +kernel
theorem dX12_joint_25 : decode cX12_joint 25 = .ok (.bipush 6, 2) := by decide +kernel
theorem dX12_joint_27 : decode cX12_joint 27 = .ok (.invokestatic 144, 3) := by decide +kernel
theorem dX12_joint_30 : decode cX12_joint 30 = .ok (.ifCond .eq 34, 3) := by decide +kernel
theorem dX12_joint_33 : decode cX12_joint 33 = .ok (.iload_n 3, 1) := by decide +kernel
theorem dX12_joint_34 : decode cX12_joint 34 = .ok (.iconst 0, 1) := by decide +kernel
theorem dX12_joint_35 : decode cX12_joint 35 = .ok (.bipush 15, 2) := by decide +kernel
theorem dX12_joint_37 : decode cX12_joint 37 = .ok (.invokestatic 144, 3) := by decide +kernel
theorem dX12_joint_40 : decode cX12_joint 40 = .ok (.ifCond .eq 24, 3) := by decide +kernel
theorem dX12_joint_43 : decode cX12_joint 43 = .ok (.iload 4, 2) := by decide +kernel
theorem dX12_joint_45 : decode cX12_joint 45 = .ok (.iload_n 3, 1) := by decide +kernel
theorem dX12_joint_46 : decode cX12_joint 46 = .ok (.bipush 15, 2) := by decide +kernel
theorem dX12_joint_48 : decode cX12_joint 48 = .ok (.invokestatic 144, 3) := by decide +kernel
theorem dX12_joint_51 : decode cX12_joint 51 = .ok (.ifCond .eq 13, 3) := by decide +kernel
theorem dX12_joint_54 : decode cX12_joint 54 = .ok (.iload 5, 2) := by decide +kernel
theorem dX12_joint_56 : decode cX12_joint 56 = .ok (.iconst 1, 1) := by decide +kernel
theorem dX12_joint_57 : decode cX12_joint 57 = .ok (.iconst 3, 1) := by decide +kernel
theorem dX12_joint_58 : decode cX12_joint 58 = .ok (.invokestatic 144, 3) := by decide +kernel
theorem dX12_joint_61 : decode cX12_joint 61 = .ok (.ifCond .ne 5, 3) := by decide +kernel
theorem dX12_joint_64 : decode cX12_joint 64 = .ok (.iconst (-1), 1) := by decide +kernel
theorem dX12_joint_65 : decode cX12_joint 65 = .ok (.ireturn, 1) := by decide +kernel
theorem dX12_joint_66 : decode cX12_joint 66 = .ok (.iconst 0, 1) := by decide +kernel
theorem dX12_joint_67 : decode cX12_joint 67 = .ok (.istore 6, 2) := by decide +kernel
theorem dX12_joint_69 : decode cX12_joint 69 = .ok (.iload 6, 2) := by decide +kernel
theorem dX12_joint_71 : decode cX12_joint 71 = .ok (.aload_n 0, 1) := by decide +kernel
theorem dX12_joint_72 : decode cX12_joint 72 = .ok (.getfield 152, 3) := by decide +kernel
theorem dX12_joint_75 : decode cX12_joint 75 = .ok (.if_icmp .ge 22, 3) := by decide +kernel
theorem dX12_joint_78 : decode cX12_joint 78 = .ok (.aload_n 0, 1) := by decide +kernel
theorem dX12_joint_79 : decode cX12_joint 79 = .ok (.getfield 51, 3) := by decide +kernel
theorem dX12_joint_82 : decode cX12_joint 82 = .ok (.iload 6, 2) := by decide +kernel
theorem dX12_joint_84 : decode cX12_joint 84 = .ok (.iaload, 1) := by decide +kernel
theorem dX12_joint_85 : decode cX12_joint 85 = .ok (.iload_n 1, 1) := by decide +kernel
theorem dX12_joint_86 : decode cX12_joint 86 = .ok (.if_icmp .ne 5, 3) := by decide +kernel
theorem dX12_joint_89 : decode cX12_joint 89 = .ok (.iconst (-1), 1) := by decide +kernel
theorem dX12_joint_90 : decode cX12_joint 90 = .ok (.ireturn, 1) := by decide +kernel
theorem dX12_joint_91 : decode cX12_joint 91 = .ok (.iinc 6 1, 3) := by decide +kernel
theorem dX12_joint_94 : decode cX12_joint 94 = .ok (.goto (-25), 3) := by decide +kernel
theorem dX12_joint_97 : decode cX12_joint 97 = .ok (.iconst 3, 1) := by decide +kernel
theorem dX12_joint_98 : decode cX12_joint 98 = .ok (.iload_n 1, 1) := by decide +kernel
theorem dX12_joint_99 : decode cX12_joint 99 = .ok (.imul, 1) := by decide +kernel
theorem dX12_joint_100 : decode cX12_joint 100 = .ok (.aload_n 0, 1) := by decide +kernel
theorem dX12_joint_101 : decode cX12_joint 101 = .ok (.getfield 24, 3) := by decide +kernel
theorem dX12_joint_104 : decode cX12_joint 104 = .ok (.iload_n 1, 1) := by decide +kernel
theorem dX12_joint_105 : decode cX12_joint 105 = .ok (.iaload, 1) := by decide +kernel
theorem dX12_joint_106 : decode cX12_joint 106 = .ok (.iadd, 1) := by decide +kernel
theorem dX12_joint_107 : decode cX12_joint 107 = .ok (.istore 6, 2) := by decide +kernel
theorem dX12_joint_109 : decode cX12_joint 109 = .ok (.aload_n 0, 1) := by decide +kernel
theorem dX12_joint_110 : decode cX12_joint 110 = .ok (.getfield 27, 3) := by decide +kernel
theorem dX12_joint_113 : decode cX12_joint 113 = .ok (.iload 6, 2) := by decide +kernel
theorem dX12_joint_115 : decode cX12_joint 115 = .ok (.iload_n 2, 1) := by decide +kernel
theorem dX12_joint_116 : decode cX12_joint 116 = .ok (.iastore, 1) := by decide +kernel
theorem dX12_joint_117 : decode cX12_joint 117 = .ok (.aload_n 0, 1) := by decide +kernel
theorem dX12_joint_118 : decode cX12_joint 118 = .ok (.getfield 30, 3) := by decide +kernel
theorem dX12_joint_121 : decode cX12_joint 121 = .ok (.iload 6, 2) := by decide +kernel
theorem dX12_joint_123 : decode cX12_joint 123 = .ok (.iload_n 3, 1) := by decide +kernel
theorem dX12_joint_124 : decode cX12_joint 124 = .ok (.iastore, 1) := by decide +kernel
theorem dX12_joint_125 : decode cX12_joint 125 = .ok (.aload_n 0, 1) := by decide +kernel
theorem dX12_joint_126 : decode cX12_joint 126 = .ok (.getfield 33, 3) := by decide +kernel
theorem dX12_joint_129 : decode cX12_joint 129 = .ok (.iload 6, 2) := by decide +kernel
theorem dX12_joint_131 : decode cX12_joint 131 = .ok (.iload 4, 2) := by decide +kernel
theorem dX12_joint_133 : decode cX12_joint 133 = .ok (.iastore, 1) := by decide +kernel
theorem dX12_joint_134 : decode cX12_joint 134 = .ok (.aload_n 0, 1) := by decide +kernel
theorem dX12_joint_135 : decode cX12_joint 135 = .ok (.getfield 36, 3) := by decide +kernel
theorem dX12_joint_138 : decode cX12_joint 138 = .ok (.iload 6, 2) := by decide +kernel
theorem dX12_joint_140 : decode cX12_joint 140 = .ok (.iload 5, 2) := by decide +kernel
theorem dX12_joint_142 : decode cX12_joint 142 = .ok (.iastore, 1) := by decide +kernel
theorem dX12_joint_143 : decode cX12_joint 143 = .ok (.aload_n 0, 1) := by decide +kernel
theorem dX12_joint_144 : decode cX12_joint 144 = .ok (.getfield 24, 3) := by decide +kernel
theorem dX12_joint_147 : decode cX12_joint 147 = .ok (.iload_n 1, 1) := by decide +kernel
theorem dX12_joint_148 : decode cX12_joint 148 = .ok (.dup2, 1) := by decide +kernel
theorem dX12_joint_149 : decode cX12_joint 149 = .ok (.iaload, 1) := by decide +kernel
theorem dX12_joint_150 : decode cX12_joint 150 = .ok (.iconst 1, 1) := by decide +kernel
theorem dX12_joint_151 : decode cX12_joint 151 = .ok (.iadd, 1) := by decide +kernel
theorem dX12_joint_152 : decode cX12_joint 152 = .ok (.iastore, 1) := by decide +kernel
theorem dX12_joint_153 : decode cX12_joint 153 = .ok (.aload_n 0, 1) := by decide +kernel
theorem dX12_joint_154 : decode cX12_joint 154 = .ok (.getfield 24, 3) := by decide +kernel
theorem dX12_joint_157 : decode cX12_joint 157 = .ok (.iload_n 1, 1) := by decide +kernel
theorem dX12_joint_158 : decode cX12_joint 158 = .ok (.iaload, 1) := by decide +kernel
theorem dX12_joint_159 : decode cX12_joint 159 = .ok (.iconst 1, 1) := by decide +kernel
theorem dX12_joint_160 : decode cX12_joint 160 = .ok (.isub, 1) := by decide +kernel
theorem dX12_joint_161 : decode cX12_joint 161 = .ok (.ireturn, 1) := by decide +kernel
theorem dX12_placeOf_0 : decode cX12_placeOf 0 = .ok (.iload_n 0, 1) := by decide +kernel
theorem dX12_placeOf_1 : decode cX12_placeOf 1 = .ok (.iconst 4, 1) := by decide +kernel
theorem dX12_placeOf_2 : decode cX12_placeOf 2 = .ok (.iload_n 1, 1) := by decide +kernel
theorem dX12_placeOf_3 : decode cX12_placeOf 3 = .ok (.imul, 1) := by decide +kernel
theorem dX12_placeOf_4 : decode cX12_placeOf 4 = .ok (.ishr, 1) := by decide +kernel
theorem dX12_placeOf_5 : decode cX12_placeOf 5 = .ok (.bipush 15, 2) := by decide +kernel
theorem dX12_placeOf_7 : decode cX12_placeOf 7 = .ok (.iand, 1) := by decide +kernel
theorem dX12_placeOf_8 : decode cX12_placeOf 8 = .ok (.ireturn, 1) := by decide +kernel
theorem dX12_isPose_0 : decode cX12_isPose 0 = .ok (.iload_n 2, 1) := by decide +kernel
theorem dX12_isPose_1 : decode cX12_isPose 1 = .ok (.ifCond .lt 10, 3) := by decide +kernel
theorem dX12_isPose_4 : decode cX12_isPose 4 = .ok (.iload_n 2, 1) := by decide +kernel
theorem dX12_isPose_5 : decode cX12_isPose 5 = .ok (.sipush 4096, 3) := by decide +kernel
theorem dX12_isPose_8 : decode cX12_isPose 8 = .ok (.if_icmp .lt 5, 3) := by decide +kernel
theorem dX12_isPose_11 : decode cX12_isPose 11 = .ok (.iconst 0, 1) := by decide +kernel
theorem dX12_isPose_12 : decode cX12_isPose 12 = .ok (.ireturn, 1) := by decide +kernel
theorem dX12_isPose_13 : decode cX12_isPose 13 = .ok (.iconst 0, 1) := by decide +kernel
theorem dX12_isPose_14 : decode cX12_isPose 14 = .ok (.istore_n 3, 1) := by decide +kernel
theorem dX12_isPose_15 : decode cX12_isPose 15 = .ok (.iload_n 3, 1) := by decide +kernel
theorem dX12_isPose_16 : decode cX12_isPose 16 = .ok (.iconst 3, 1) := by decide +kernel
theorem dX12_isPose_17 : decode cX12_isPose 17 = .ok (.if_icmp .ge 66, 3) := by decide +kernel
theorem dX12_isPose_20 : decode cX12_isPose 20 = .ok (.iload_n 2, 1) := by decide +kernel
theorem dX12_isPose_21 : decode cX12_isPose 21 = .ok (.iload_n 3, 1) := by decide +kernel
theorem dX12_isPose_22 : decode cX12_isPose 22 = .ok (.invokestatic 155, 3) := by decide +kernel
theorem dX12_isPose_25 : decode cX12_isPose 25 = .ok (.istore 4, 2) := by decide +kernel
theorem dX12_isPose_27 : decode cX12_isPose 27 = .ok (.iload_n 3, 1) := by decide +kernel
theorem dX12_isPose_28 : decode cX12_isPose 28 = .ok (.aload_n 0, 1) := by decide +kernel
theorem dX12_isPose_29 : decode cX12_isPose 29 = .ok (.getfield 24, 3) := by decide +kernel
theorem dX12_isPose_32 : decode cX12_isPose 32 = .ok (.iload_n 1, 1) := by decide +kernel
theorem dX12_isPose_33 : decode cX12_isPose 33 = .ok (.iaload, 1) := by decide +kernel
theorem dX12_isPose_34 : decode cX12_isPose 34 = .ok (.if_icmp .ge 36, 3) := by decide +kernel
theorem dX12_isPose_37 : decode cX12_isPose 37 = .ok (.iload 4, 2) := by decide +kernel
theorem dX12_isPose_39 : decode cX12_isPose 39 = .ok (.aload_n 0, 1) := by decide +kernel
theorem dX12_isPose_40 : decode cX12_isPose 40 = .ok (.getfield 30, 3) := by decide +kernel
theorem dX12_isPose_43 : decode cX12_isPose 43 = .ok (.iconst 3, 1) := by decide +kernel
theorem dX12_isPose_44 : decode cX12_isPose 44 = .ok (.iload_n 1, 1) := by decide +kernel
theorem dX12_isPose_45 : decode cX12_isPose 45 = .ok (.imul, 1) := by decide +kernel
theorem dX12_isPose_46 : decode cX12_isPose 46 = .ok (.iload_n 3, 1) := by decide +kernel
theorem dX12_isPose_47 : decode cX12_isPose 47 = .ok (.iadd, 1) := by decide +kernel
theorem dX12_isPose_48 : decode cX12_isPose 48 = .ok (.iaload, 1) := by decide +kernel
theorem dX12_isPose_49 : decode cX12_isPose 49 = .ok (.if_icmp .lt 26, 3) := by decide +kernel
theorem dX12_isPose_52 : decode cX12_isPose 52 = .ok (.iload 4, 2) := by decide +kernel
theorem dX12_isPose_54 : decode cX12_isPose 54 = .ok (.aload_n 0, 1) := by decide +kernel
theorem dX12_isPose_55 : decode cX12_isPose 55 = .ok (.getfield 33, 3) := by decide +kernel
theorem dX12_isPose_58 : decode cX12_isPose 58 = .ok (.iconst 3, 1) := by decide +kernel
theorem dX12_isPose_59 : decode cX12_isPose 59 = .ok (.iload_n 1, 1) := by decide +kernel
theorem dX12_isPose_60 : decode cX12_isPose 60 = .ok (.imul, 1) := by decide +kernel
theorem dX12_isPose_61 : decode cX12_isPose 61 = .ok (.iload_n 3, 1) := by decide +kernel
theorem dX12_isPose_62 : decode cX12_isPose 62 = .ok (.iadd, 1) := by decide +kernel
theorem dX12_isPose_63 : decode cX12_isPose 63 = .ok (.iaload, 1) := by decide +kernel
theorem dX12_isPose_64 : decode cX12_isPose 64 = .ok (.if_icmp .le 13, 3) := by decide +kernel
theorem dX12_isPose_67 : decode cX12_isPose 67 = .ok (.goto 8, 3) := by decide +kernel
theorem dX12_isPose_70 : decode cX12_isPose 70 = .ok (.iload 4, 2) := by decide +kernel
theorem dX12_isPose_72 : decode cX12_isPose 72 = .ok (.ifCond .eq 5, 3) := by decide +kernel
theorem dX12_isPose_75 : decode cX12_isPose 75 = .ok (.iconst 0, 1) := by decide +kernel
theorem dX12_isPose_76 : decode cX12_isPose 76 = .ok (.ireturn, 1) := by decide +kernel
theorem dX12_isPose_77 : decode cX12_isPose 77 = .ok (.iinc 3 1, 3) := by decide +kernel
theorem dX12_isPose_80 : decode cX12_isPose 80 = .ok (.goto (-65), 3) := by decide +kernel
theorem dX12_isPose_83 : decode cX12_isPose 83 = .ok (.iconst 1, 1) := by decide +kernel
theorem dX12_isPose_84 : decode cX12_isPose 84 = .ok (.ireturn, 1) := by decide +kernel
theorem dX12_pointOf_0 : decode cX12_pointOf 0 = .ok (.sipush 1000, 3) := by decide +kernel
theorem dX12_pointOf_3 : decode cX12_pointOf 3 = .ok (.iload 4, 2) := by decide +kernel
theorem dX12_pointOf_5 : decode cX12_pointOf 5 = .ok (.ifCond .eq 12, 3) := by decide +kernel
theorem dX12_pointOf_8 : decode cX12_pointOf 8 = .ok (.aload_n 0, 1) := by decide +kernel
theorem dX12_pointOf_9 : decode cX12_pointOf 9 = .ok (.getfield 18, 3) := by decide +kernel
theorem dX12_pointOf_12 : decode cX12_pointOf 12 = .ok (.iload_n 1, 1) := by decide +kernel
theorem dX12_pointOf_13 : decode cX12_pointOf 13 = .ok (.iaload, 1) := by decide +kernel
theorem dX12_pointOf_14 : decode cX12_pointOf 14 = .ok (.goto 9, 3) := by decide +kernel
theorem dX12_pointOf_17 : decode cX12_pointOf 17 = .ok (.aload_n 0, 1) := by decide +kernel
theorem dX12_pointOf_18 : decode cX12_pointOf 18 = .ok (.getfield 21, 3) := by decide +kernel
theorem dX12_pointOf_21 : decode cX12_pointOf 21 = .ok (.iload_n 1, 1) := by decide +kernel
theorem dX12_pointOf_22 : decode cX12_pointOf 22 = .ok (.iaload, 1) := by decide +kernel
theorem dX12_pointOf_23 : decode cX12_pointOf 23 = .ok (.imul, 1) := by decide +kernel
theorem dX12_pointOf_24 : decode cX12_pointOf 24 = .ok (.istore 5, 2) := by decide +kernel
theorem dX12_pointOf_26 : decode cX12_pointOf 26 = .ok (.iconst 0, 1) := by decide +kernel
theorem dX12_pointOf_27 : decode cX12_pointOf 27 = .ok (.istore 6, 2) := by decide +kernel
theorem dX12_pointOf_29 : decode cX12_pointOf 29 = .ok (.iconst 0, 1) := by decide +kernel
theorem dX12_pointOf_30 : decode cX12_pointOf 30 = .ok (.istore 7, 2) := by decide +kernel
theorem dX12_pointOf_32 : decode cX12_pointOf 32 = .ok (.iload 7, 2) := by decide +kernel
theorem dX12_pointOf_34 : decode cX12_pointOf 34 = .ok (.iload_n 3, 1) := by decide +kernel
theorem dX12_pointOf_35 : decode cX12_pointOf 35 = .ok (.if_icmp .ge 60, 3) := by decide +kernel
theorem dX12_pointOf_38 : decode cX12_pointOf 38 = .ok (.iload 6, 2) := by decide +kernel
theorem dX12_pointOf_40 : decode cX12_pointOf 40 = .ok (.iload_n 2, 1) := by decide +kernel
theorem dX12_pointOf_41 : decode cX12_pointOf 41 = .ok (.iload 7, 2) := by decide +kernel
theorem dX12_pointOf_43 : decode cX12_pointOf 43 = .ok (.invokestatic 155, 3) := by decide +kernel
theorem dX12_pointOf_46 : decode cX12_pointOf 46 = .ok (.iadd, 1) := by decide +kernel
theorem dX12_pointOf_47 : decode cX12_pointOf 47 = .ok (.istore 6, 2) := by decide +kernel
theorem dX12_pointOf_49 : decode cX12_pointOf 49 = .ok (.iload 5, 2) := by decide +kernel
theorem dX12_pointOf_51 : decode cX12_pointOf 51 = .ok (.aload_n 0, 1) := by decide +kernel
theorem dX12_pointOf_52 : decode cX12_pointOf 52 = .ok (.getfield 27, 3) := by decide +kernel
theorem dX12_pointOf_55 : decode cX12_pointOf 55 = .ok (.iconst 3, 1) := by decide +kernel
theorem dX12_pointOf_56 : decode cX12_pointOf 56 = .ok (.iload_n 1, 1) := by decide +kernel
theorem dX12_pointOf_57 : decode cX12_pointOf 57 = .ok (.imul, 1) := by decide +kernel
theorem dX12_pointOf_58 : decode cX12_pointOf 58 = .ok (.iload 7, 2) := by decide +kernel
theorem dX12_pointOf_60 : decode cX12_pointOf 60 = .ok (.iadd, 1) := by decide +kernel
theorem dX12_pointOf_61 : decode cX12_pointOf 61 = .ok (.iaload, 1) := by decide +kernel
theorem dX12_pointOf_62 : decode cX12_pointOf 62 = .ok (.aload_n 0, 1) := by decide +kernel
theorem dX12_pointOf_63 : decode cX12_pointOf 63 = .ok (.getfield 15, 3) := by decide +kernel
theorem dX12_pointOf_66 : decode cX12_pointOf 66 = .ok (.iload 4, 2) := by decide +kernel
theorem dX12_pointOf_68 : decode cX12_pointOf 68 = .ok (.ifCond .eq 8, 3) := by decide +kernel
theorem dX12_pointOf_71 : decode cX12_pointOf 71 = .ok (.iload 6, 2) := by decide +kernel
theorem dX12_pointOf_73 : decode cX12_pointOf 73 = .ok (.goto 8, 3) := by decide +kernel
theorem dX12_pointOf_76 : decode cX12_pointOf 76 = .ok (.iload 6, 2) := by decide +kernel
theorem dX12_pointOf_78 : decode cX12_pointOf 78 = .ok (.bipush 12, 2) := by decide +kernel
theorem dX12_pointOf_80 : decode cX12_pointOf 80 = .ok (.iadd, 1) := by decide +kernel
theorem dX12_pointOf_81 : decode cX12_pointOf 81 = .ok (.bipush 16, 2) := by decide +kernel
theorem dX12_pointOf_83 : decode cX12_pointOf 83 = .ok (.irem, 1) := by decide +kernel
theorem dX12_pointOf_84 : decode cX12_pointOf 84 = .ok (.iaload, 1) := by decide +kernel
theorem dX12_pointOf_85 : decode cX12_pointOf 85 = .ok (.imul, 1) := by decide +kernel
theorem dX12_pointOf_86 : decode cX12_pointOf 86 = .ok (.iadd, 1) := by decide +kernel
theorem dX12_pointOf_87 : decode cX12_pointOf 87 = .ok (.istore 5, 2) := by decide +kernel
theorem dX12_pointOf_89 : decode cX12_pointOf 89 = .ok (.iinc 7 1, 3) := by decide +kernel
theorem dX12_pointOf_92 : decode cX12_pointOf 92 = .ok (.goto (-60), 3) := by decide +kernel
theorem dX12_pointOf_95 : decode cX12_pointOf 95 = .ok (.iload 5, 2) := by decide +kernel
theorem dX12_pointOf_97 : decode cX12_pointOf 97 = .ok (.ireturn, 1) := by decide +kernel
theorem dX12_tip_0 : decode cX12_tip 0 = .ok (.aload_n 0, 1) := by decide +kernel
theorem dX12_tip_1 : decode cX12_tip 1 = .ok (.iload_n 1, 1) := by decide +kernel
theorem dX12_tip_2 : decode cX12_tip 2 = .ok (.iload_n 2, 1) := by decide +kernel
theorem dX12_tip_3 : decode cX12_tip 3 = .ok (.aload_n 0, 1) := by decide +kernel
theorem dX12_tip_4 : decode cX12_tip 4 = .ok (.getfield 24, 3) := by decide +kernel
theorem dX12_tip_7 : decode cX12_tip 7 = .ok (.iload_n 1, 1) := by decide +kernel
theorem dX12_tip_8 : decode cX12_tip 8 = .ok (.iaload, 1) := by decide +kernel
theorem dX12_tip_9 : decode cX12_tip 9 = .ok (.iload_n 3, 1) := by decide +kernel
theorem dX12_tip_10 : decode cX12_tip 10 = .ok (.invokevirtual 159, 3) := by decide +kernel
theorem dX12_tip_13 : decode cX12_tip 13 = .ok (.ireturn, 1) := by decide +kernel
theorem dX12_point_0 : decode cX12_point 0 = .ok (.aload_n 0, 1) := by decide +kernel
theorem dX12_point_1 : decode cX12_point 1 = .ok (.iconst 0, 1) := by decide +kernel
theorem dX12_point_2 : decode cX12_point 2 = .ok (.putfield 135, 3) := by decide +kernel
theorem dX12_point_5 : decode cX12_point 5 = .ok (.aload_n 0, 1) := by decide +kernel
theorem dX12_point_6 : decode cX12_point 6 = .ok (.iload_n 1, 1) := by decide +kernel
theorem dX12_point_7 : decode cX12_point 7 = .ok (.invokevirtual 148, 3) := by decide +kernel
theorem dX12_point_10 : decode cX12_point 10 = .ok (.ifCond .eq 37, 3) := by decide +kernel
theorem dX12_point_13 : decode cX12_point 13 = .ok (.aload_n 0, 1) := by decide +kernel
theorem dX12_point_14 : decode cX12_point 14 = .ok (.iload_n 1, 1) := by decide +kernel
theorem dX12_point_15 : decode cX12_point 15 = .ok (.iload_n 2, 1) := by decide +kernel
theorem dX12_point_16 : decode cX12_point 16 = .ok (.invokevirtual 163, 3) := by decide +kernel
theorem dX12_point_19 : decode cX12_point 19 = .ok (.ifCond .eq 28, 3) := by decide +kernel
theorem dX12_point_22 : decode cX12_point 22 = .ok (.iload_n 3, 1) := by decide +kernel
theorem dX12_point_23 : decode cX12_point 23 = .ok (.ifCond .lt 24, 3) := by decide +kernel
theorem dX12_point_26 : decode cX12_point 26 = .ok (.iload_n 3, 1) := by decide +kernel
theorem dX12_point_27 : decode cX12_point 27 = .ok (.aload_n 0, 1) := by decide +kernel
theorem dX12_point_28 : decode cX12_point 28 = .ok (.getfield 24, 3) := by decide +kernel
theorem dX12_point_31 : decode cX12_point 31 = .ok (.iload_n 1, 1) := by decide +kernel
theorem dX12_point_32 : decode cX12_point 32 = .ok (.iaload, 1) := by decide +kernel
theorem dX12_point_33 : decode cX12_point 33 = .ok (.if_icmp .gt 14, 3) := by decide +kernel
theorem dX12_point_36 : decode cX12_point 36 = .ok (.iload 4, 2) := by decide +kernel
theorem dX12_point_38 : decode cX12_point 38 = .ok (.ifCond .lt 9, 3) := by decide +kernel
theorem dX12_point_41 : decode cX12_point 41 = .ok (.iload 4, 2) := by decide +kernel
theorem dX12_point_43 : decode cX12_point 43 = .ok (.iconst 1, 1) := by decide +kernel
theorem dX12_point_44 : decode cX12_point 44 = .ok (.if_icmp .le 8, 3) := by decide +kernel
theorem dX12_point_47 : decode cX12_point 47 = .ok (.ldc 167, 2) := by decide +kernel
theorem dX12_point_49 : decode cX12_point 49 = .ok (.goto 20, 3) := by decide +kernel
theorem dX12_point_52 : decode cX12_point 52 = .ok (.aload_n 0, 1) := by decide +kernel
theorem dX12_point_53 : decode cX12_point 53 = .ok (.iload_n 1, 1) := by decide +kernel
theorem dX12_point_54 : decode cX12_point 54 = .ok (.iload_n 2, 1) := by decide +kernel
theorem dX12_point_55 : decode cX12_point 55 = .ok (.iload_n 3, 1) := by decide +kernel
theorem dX12_point_56 : decode cX12_point 56 = .ok (.iload 4, 2) := by decide +kernel
theorem dX12_point_58 : decode cX12_point 58 = .ok (.ifCond .ne 7, 3) := by decide +kernel
theorem dX12_point_61 : decode cX12_point 61 = .ok (.iconst 1, 1) := by decide +kernel
theorem dX12_point_62 : decode cX12_point 62 = .ok (.goto 4, 3) := by decide +kernel
theorem dX12_point_65 : decode cX12_point 65 = .ok (.iconst 0, 1) := by decide +kernel
theorem dX12_point_66 : decode cX12_point 66 = .ok (.invokevirtual 159, 3) := by decide +kernel
theorem dX12_point_69 : decode cX12_point 69 = .ok (.ireturn, 1) := by decide +kernel
theorem dX12_hopOf_0 : decode cX12_hopOf 0 = .ok (.iconst 0, 1) := by decide +kernel
theorem dX12_hopOf_1 : decode cX12_hopOf 1 = .ok (.istore 4, 2) := by decide +kernel
theorem dX12_hopOf_3 : decode cX12_hopOf 3 = .ok (.iconst 0, 1) := by decide +kernel
theorem dX12_hopOf_4 : decode cX12_hopOf 4 = .ok (.istore 5, 2) := by decide +kernel
theorem dX12_hopOf_6 : decode cX12_hopOf 6 = .ok (.iload 5, 2) := by decide +kernel
theorem dX12_hopOf_8 : decode cX12_hopOf 8 = .ok (.aload_n 0, 1) := by decide +kernel
theorem dX12_hopOf_9 : decode cX12_hopOf 9 = .ok (.getfield 24, 3) := by decide +kernel
theorem dX12_hopOf_12 : decode cX12_hopOf 12 = .ok (.iload_n 1, 1) := by decide +kernel
theorem dX12_hopOf_13 : decode cX12_hopOf 13 = .ok (.iaload, 1) := by decide +kernel
theorem dX12_hopOf_14 : decode cX12_hopOf 14 = .ok (.if_icmp .ge 53, 3) := by decide +kernel
theorem dX12_hopOf_17 : decode cX12_hopOf 17 = .ok (.aload_n 0, 1) := by decide +kernel
theorem dX12_hopOf_18 : decode cX12_hopOf 18 = .ok (.getfield 36, 3) := by decide +kernel
theorem dX12_hopOf_21 : decode cX12_hopOf 21 = .ok (.iconst 3, 1) := by decide +kernel
theorem dX12_hopOf_22 : decode cX12_hopOf 22 = .ok (.iload_n 1, 1) := by decide +kernel
theorem dX12_hopOf_23 : decode cX12_hopOf 23 = .ok (.imul, 1) := by decide +kernel
theorem dX12_hopOf_24 : decode cX12_hopOf 24 = .ok (.iload 5, 2) := by decide +kernel
theorem dX12_hopOf_26 : decode cX12_hopOf 26 = .ok (.iadd, 1) := by decide +kernel
theorem dX12_hopOf_27 : decode cX12_hopOf 27 = .ok (.iaload, 1) := by decide +kernel
theorem dX12_hopOf_28 : decode cX12_hopOf 28 = .ok (.istore 6, 2) := by decide +kernel
theorem dX12_hopOf_30 : decode cX12_hopOf 30 = .ok (.iload 4, 2) := by decide +kernel
theorem dX12_hopOf_32 : decode cX12_hopOf 32 = .ok (.iload_n 2, 1) := by decide +kernel
theorem dX12_hopOf_33 : decode cX12_hopOf 33 = .ok (.iload 5, 2) := by decide +kernel
theorem dX12_hopOf_35 : decode cX12_hopOf 35 = .ok (.invokestatic 155, 3) := by decide +kernel
theorem dX12_hopOf_38 : decode cX12_hopOf 38 = .ok (.iload_n 3, 1) := by decide +kernel
theorem dX12_hopOf_39 : decode cX12_hopOf 39 = .ok (.iload 5, 2) := by decide +kernel
theorem dX12_hopOf_41 : decode cX12_hopOf 41 = .ok (.invokestatic 155, 3) := by decide +kernel
theorem dX12_hopOf_44 : decode cX12_hopOf 44 = .ok (.isub, 1) := by decide +kernel
theorem dX12_hopOf_45 : decode cX12_hopOf 45 = .ok (.invokestatic 168, 3) := by decide +kernel
theorem dX12_hopOf_48 : decode cX12_hopOf 48 = .ok (.iload 6, 2) := by decide +kernel
theorem dX12_hopOf_50 : decode cX12_hopOf 50 = .ok (.iadd, 1) := by decide +kernel
theorem dX12_hopOf_51 : decode cX12_hopOf 51 = .ok (.iconst 1, 1) := by decide +kernel
theorem dX12_hopOf_52 : decode cX12_hopOf 52 = .ok (.isub, 1) := by decide +kernel
theorem dX12_hopOf_53 : decode cX12_hopOf 53 = .ok (.iload 6, 2) := by decide +kernel
theorem dX12_hopOf_55 : decode cX12_hopOf 55 = .ok (.idiv, 1) := by decide +kernel
theorem dX12_hopOf_56 : decode cX12_hopOf 56 = .ok (.invokestatic 174, 3) := by decide +kernel
theorem dX12_hopOf_59 : decode cX12_hopOf 59 = .ok (.istore 4, 2) := by decide +kernel
theorem dX12_hopOf_61 : decode cX12_hopOf 61 = .ok (.iinc 5 1, 3) := by decide +kernel
theorem dX12_hopOf_64 : decode cX12_hopOf 64 = .ok (.goto (-58), 3) := by decide +kernel
theorem dX12_hopOf_67 : decode cX12_hopOf 67 = .ok (.iload 4, 2) := by decide +kernel
theorem dX12_hopOf_69 : decode cX12_hopOf 69 = .ok (.ireturn, 1) := by decide +kernel
theorem dX12_hop_0 : decode cX12_hop 0 = .ok (.aload_n 0, 1) := by decide +kernel
theorem dX12_hop_1 : decode cX12_hop 1 = .ok (.iconst 0, 1) := by decide +kernel
theorem dX12_hop_2 : decode cX12_hop 2 = .ok (.putfield 135, 3) := by decide +kernel
theorem dX12_hop_5 : decode cX12_hop 5 = .ok (.aload_n 0, 1) := by decide +kernel
theorem dX12_hop_6 : decode cX12_hop 6 = .ok (.iload_n 1, 1) := by decide +kernel
theorem dX12_hop_7 : decode cX12_hop 7 = .ok (.invokevirtual 148, 3) := by decide +kernel
theorem dX12_hop_10 : decode cX12_hop 10 = .ok (.ifCond .eq 21, 3) := by decide +kernel
theorem dX12_hop_13 : decode cX12_hop 13 = .ok (.aload_n 0, 1) := by decide +kernel
theorem dX12_hop_14 : decode cX12_hop 14 = .ok (.iload_n 1, 1) := by decide +kernel
theorem dX12_hop_15 : decode cX12_hop 15 = .ok (.iload_n 2, 1) := by decide +kernel
theorem dX12_hop_16 : decode cX12_hop 16 = .ok (.invokevirtual 163, 3) := by decide +kernel
theorem dX12_hop_19 : decode cX12_hop 19 = .ok (.ifCond .eq 12, 3) := by decide +kernel
theorem dX12_hop_22 : decode cX12_hop 22 = .ok (.aload_n 0, 1) := by decide +kernel
theorem dX12_hop_23 : decode cX12_hop 23 = .ok (.iload_n 1, 1) := by decide +kernel
theorem dX12_hop_24 : decode cX12_hop 24 = .ok (.iload_n 3, 1) := by decide +kernel
theorem dX12_hop_25 : decode cX12_hop 25 = .ok (.invokevirtual 163, 3) := by decide +kernel
theorem dX12_hop_28 : decode cX12_hop 28 = .ok (.ifCond .ne 7, 3) := by decide +kernel
theorem dX12_hop_31 : decode cX12_hop 31 = .ok (.iconst (-1), 1) := by decide +kernel
theorem dX12_hop_32 : decode cX12_hop 32 = .ok (.goto 10, 3) := by decide +kernel
theorem dX12_hop_35 : decode cX12_hop 35 = .ok (.aload_n 0, 1) := by decide +kernel
theorem dX12_hop_36 : decode cX12_hop 36 = .ok (.iload_n 1, 1) := by decide +kernel
theorem dX12_hop_37 : decode cX12_hop 37 = .ok (.iload_n 2, 1) := by decide +kernel
theorem dX12_hop_38 : decode cX12_hop 38 = .ok (.iload_n 3, 1) := by decide +kernel
theorem dX12_hop_39 : decode cX12_hop 39 = .ok (.invokevirtual 177, 3) := by decide +kernel
theorem dX12_hop_42 : decode cX12_hop 42 = .ok (.ireturn, 1) := by decide +kernel
theorem dX12_isTape_0 : decode cX12_isTape 0 = .ok (.iload_n 1, 1) := by decide +kernel
theorem dX12_isTape_1 : decode cX12_isTape 1 = .ok (.ifCond .lt 15, 3) := by decide +kernel
theorem dX12_isTape_4 : decode cX12_isTape 4 = .ok (.iload_n 1, 1) := by decide +kernel
theorem dX12_isTape_5 : decode cX12_isTape 5 = .ok (.aload_n 0, 1) := by decide +kernel
theorem dX12_isTape_6 : decode cX12_isTape 6 = .ok (.getfield 152, 3) := by decide +kernel
theorem dX12_isTape_9 : decode cX12_isTape 9 = .ok (.if_icmp .ge 7, 3) := by decide +kernel
theorem dX12_isTape_12 : decode cX12_isTape 12 = .ok (.iconst 1, 1) := by decide +kernel
theorem dX12_isTape_13 : decode cX12_isTape 13 = .ok (.goto 4, 3) := by decide +kernel
theorem dX12_isTape_16 : decode cX12_isTape 16 = .ok (.iconst 0, 1) := by decide +kernel
theorem dX12_isTape_17 : decode cX12_isTape 17 = .ok (.ireturn, 1) := by decide +kernel
theorem dX12_tape_0 : decode cX12_tape 0 = .ok (.aload_n 0, 1) := by decide +kernel
theorem dX12_tape_1 : decode cX12_tape 1 = .ok (.iconst 0, 1) := by decide +kernel
theorem dX12_tape_2 : decode cX12_tape 2 = .ok (.putfield 135, 3) := by decide +kernel
theorem dX12_tape_5 : decode cX12_tape 5 = .ok (.aload_n 0, 1) := by decide +kernel
theorem dX12_tape_6 : decode cX12_tape 6 = .ok (.iload_n 1, 1) := by decide +kernel
theorem dX12_tape_7 : decode cX12_tape 7 = .ok (.invokevirtual 148, 3) := by decide +kernel
theorem dX12_tape_10 : decode cX12_tape 10 = .ok (.ifCond .eq 21, 3) := by decide +kernel
theorem dX12_tape_13 : decode cX12_tape 13 = .ok (.aload_n 0, 1) := by decide +kernel
theorem dX12_tape_14 : decode cX12_tape 14 = .ok (.getfield 24, 3) := by decide +kernel
theorem dX12_tape_17 : decode cX12_tape 17 = .ok (.iload_n 1, 1) := by decide +kernel
theorem dX12_tape_18 : decode cX12_tape 18 = .ok (.iaload, 1) := by decide +kernel
theorem dX12_tape_19 : decode cX12_tape 19 = .ok (.ifCond .eq 12, 3) := by decide +kernel
theorem dX12_tape_22 : decode cX12_tape 22 = .ok (.aload_n 0, 1) := by decide +kernel
theorem dX12_tape_23 : decode cX12_tape 23 = .ok (.getfield 152, 3) := by decide +kernel
theorem dX12_tape_26 : decode cX12_tape 26 = .ok (.bipush 10, 2) := by decide +kernel
theorem dX12_tape_28 : decode cX12_tape 28 = .ok (.if_icmp .ne 5, 3) := by decide +kernel
theorem dX12_tape_31 : decode cX12_tape 31 = .ok (.iconst (-1), 1) := by decide +kernel
theorem dX12_tape_32 : decode cX12_tape 32 = .ok (.ireturn, 1) := by decide +kernel
theorem dX12_tape_33 : decode cX12_tape 33 = .ok (.aload_n 0, 1) := by decide +kernel
theorem dX12_tape_34 : decode cX12_tape 34 = .ok (.getfield 51, 3) := by decide +kernel
theorem dX12_tape_37 : decode cX12_tape 37 = .ok (.aload_n 0, 1) := by decide +kernel
theorem dX12_tape_38 : decode cX12_tape 38 = .ok (.getfield 152, 3) := by decide +kernel
theorem dX12_tape_41 : decode cX12_tape 41 = .ok (.iload_n 1, 1) := by decide +kernel
theorem dX12_tape_42 : decode cX12_tape 42 = .ok (.iastore, 1) := by decide +kernel
theorem dX12_tape_43 : decode cX12_tape 43 = .ok (.aload_n 0, 1) := by decide +kernel
theorem dX12_tape_44 : decode cX12_tape 44 = .ok (.getfield 54, 3) := by decide +kernel
theorem dX12_tape_47 : decode cX12_tape 47 = .ok (.aload_n 0, 1) := by decide +kernel
theorem dX12_tape_48 : decode cX12_tape 48 = .ok (.getfield 152, 3) := by decide +kernel
theorem dX12_tape_51 : decode cX12_tape 51 = .ok (.iconst 0, 1) := by decide +kernel
theorem dX12_tape_52 : decode cX12_tape 52 = .ok (.iastore, 1) := by decide +kernel
theorem dX12_tape_53 : decode cX12_tape 53 = .ok (.aload_n 0, 1) := by decide +kernel
theorem dX12_tape_54 : decode cX12_tape 54 = .ok (.dup, 1) := by decide +kernel
theorem dX12_tape_55 : decode cX12_tape 55 = .ok (.getfield 152, 3) := by decide +kernel
theorem dX12_tape_58 : decode cX12_tape 58 = .ok (.iconst 1, 1) := by decide +kernel
theorem dX12_tape_59 : decode cX12_tape 59 = .ok (.iadd, 1) := by decide +kernel
theorem dX12_tape_60 : decode cX12_tape 60 = .ok (.putfield 152, 3) := by decide +kernel
theorem dX12_tape_63 : decode cX12_tape 63 = .ok (.aload_n 0, 1) := by decide +kernel
theorem dX12_tape_64 : decode cX12_tape 64 = .ok (.getfield 152, 3) := by decide +kernel
theorem dX12_tape_67 : decode cX12_tape 67 = .ok (.iconst 1, 1) := by decide +kernel
theorem dX12_tape_68 : decode cX12_tape 68 = .ok (.isub, 1) := by decide +kernel
theorem dX12_tape_69 : decode cX12_tape 69 = .ok (.ireturn, 1) := by decide +kernel
theorem dX12_lead_0 : decode cX12_lead 0 = .ok (.aload_n 0, 1) := by decide +kernel
theorem dX12_lead_1 : decode cX12_lead 1 = .ok (.iconst 0, 1) := by decide +kernel
theorem dX12_lead_2 : decode cX12_lead 2 = .ok (.putfield 135, 3) := by decide +kernel
theorem dX12_lead_5 : decode cX12_lead 5 = .ok (.aload_n 0, 1) := by decide +kernel
theorem dX12_lead_6 : decode cX12_lead 6 = .ok (.iload_n 1, 1) := by decide +kernel
theorem dX12_lead_7 : decode cX12_lead 7 = .ok (.invokevirtual 181, 3) := by decide +kernel
theorem dX12_lead_10 : decode cX12_lead 10 = .ok (.ifCond .eq 38, 3) := by decide +kernel
theorem dX12_lead_13 : decode cX12_lead 13 = .ok (.aload_n 0, 1) := by decide +kernel
theorem dX12_lead_14 : decode cX12_lead 14 = .ok (.aload_n 0, 1) := by decide +kernel
theorem dX12_lead_15 : decode cX12_lead 15 = .ok (.getfield 51, 3) := by decide +kernel
theorem dX12_lead_18 : decode cX12_lead 18 = .ok (.iload_n 1, 1) := by decide +kernel
theorem dX12_lead_19 : decode cX12_lead 19 = .ok (.iaload, 1) := by decide +kernel
theorem dX12_lead_20 : decode cX12_lead 20 = .ok (.iload_n 2, 1) := by decide +kernel
theorem dX12_lead_21 : decode cX12_lead 21 = .ok (.invokevirtual 163, 3) := by decide +kernel
theorem dX12_lead_24 : decode cX12_lead 24 = .ok (.ifCond .eq 24, 3) := by decide +kernel
theorem dX12_lead_27 : decode cX12_lead 27 = .ok (.iload_n 3, 1) := by decide +kernel
theorem dX12_lead_28 : decode cX12_lead 28 = .ok (.iconst 0, 1) := by decide +kernel
theorem dX12_lead_29 : decode cX12_lead 29 = .ok (.bipush 9, 2) := by decide +kernel
theorem dX12_lead_31 : decode cX12_lead 31 = .ok (.invokestatic 144, 3) := by decide +kernel
theorem dX12_lead_34 : decode cX12_lead 34 = .ok (.ifCond .eq 14, 3) := by decide +kernel
theorem dX12_lead_37 : decode cX12_lead 37 = .ok (.aload_n 0, 1) := by decide +kernel
theorem dX12_lead_38 : decode cX12_lead 38 = .ok (.getfield 54, 3) := by decide +kernel
theorem dX12_lead_41 : decode cX12_lead 41 = .ok (.iload_n 1, 1) := by decide +kernel
theorem dX12_lead_42 : decode cX12_lead 42 = .ok (.iaload, 1) := by decide +kernel
theorem dX12_lead_43 : decode cX12_lead 43 = .ok (.bipush 40, 2) := by decide +kernel
theorem dX12_lead_45 : decode cX12_lead 45 = .ok (.if_icmp .ne 5, 3) := by decide +kernel
theorem dX12_lead_48 : decode cX12_lead 48 = .ok (.iconst (-1), 1) := by decide +kernel
theorem dX12_lead_49 : decode cX12_lead 49 = .ok (.ireturn, 1) := by decide +kernel
theorem dX12_lead_50 : decode cX12_lead 50 = .ok (.bipush 40, 2) := by decide +kernel
theorem dX12_lead_52 : decode cX12_lead 52 = .ok (.iload_n 1, 1) := by decide +kernel
theorem dX12_lead_53 : decode cX12_lead 53 = .ok (.imul, 1) := by decide +kernel
theorem dX12_lead_54 : decode cX12_lead 54 = .ok (.aload_n 0, 1) := by decide +kernel
theorem dX12_lead_55 : decode cX12_lead 55 = .ok (.getfield 54, 3) := by decide +kernel
theorem dX12_lead_58 : decode cX12_lead 58 = .ok (.iload_n 1, 1) := by decide +kernel
theorem dX12_lead_59 : decode cX12_lead 59 = .ok (.iaload, 1) := by decide +kernel
theorem dX12_lead_60 : decode cX12_lead 60 = .ok (.iadd, 1) := by decide +kernel
theorem dX12_lead_61 : decode cX12_lead 61 = .ok (.istore 4, 2) := by decide +kernel
theorem dX12_lead_63 : decode cX12_lead 63 = .ok (.aload_n 0, 1) := by decide +kernel
theorem dX12_lead_64 : decode cX12_lead 64 = .ok (.getfield 54, 3) := by decide +kernel
theorem dX12_lead_67 : decode cX12_lead 67 = .ok (.iload_n 1, 1) := by decide +kernel
theorem dX12_lead_68 : decode cX12_lead 68 = .ok (.iaload, 1) := by decide +kernel
theorem dX12_lead_69 : decode cX12_lead 69 = .ok (.ifCond .le 29, 3) := by decide +kernel
theorem dX12_lead_72 : decode cX12_lead 72 = .ok (.aload_n 0, 1) := by decide +kernel
theorem dX12_lead_73 : decode cX12_lead 73 = .ok (.aload_n 0, 1) := by decide +kernel
theorem dX12_lead_74 : decode cX12_lead 74 = .ok (.getfield 51, 3) := by decide +kernel
theorem dX12_lead_77 : decode cX12_lead 77 = .ok (.iload_n 1, 1) := by decide +kernel
theorem dX12_lead_78 : decode cX12_lead 78 = .ok (.iaload, 1) := by decide +kernel
theorem dX12_lead_79 : decode cX12_lead 79 = .ok (.aload_n 0, 1) := by decide +kernel
theorem dX12_lead_80 : decode cX12_lead 80 = .ok (.getfield 57, 3) := by decide +kernel
theorem dX12_lead_83 : decode cX12_lead 83 = .ok (.iload 4, 2) := by decide +kernel
theorem dX12_lead_85 : decode cX12_lead 85 = .ok (.iconst 1, 1) := by decide +kernel
theorem dX12_lead_86 : decode cX12_lead 86 = .ok (.isub, 1) := by decide +kernel
theorem dX12_lead_87 : decode cX12_lead 87 = .ok (.iaload, 1) := by decide +kernel
theorem dX12_lead_88 : decode cX12_lead 88 = .ok (.iload_n 2, 1) := by decide +kernel
theorem dX12_lead_89 : decode cX12_lead 89 = .ok (.invokevirtual 177, 3) := by decide +kernel
theorem dX12_lead_92 : decode cX12_lead 92 = .ok (.iconst 1, 1) := by decide +kernel
theorem dX12_lead_93 : decode cX12_lead 93 = .ok (.if_icmp .le 5, 3) := by decide +kernel
theorem dX12_lead_96 : decode cX12_lead 96 = .ok (.iconst (-1), 1) := by decide +kernel
theorem dX12_lead_97 : decode cX12_lead 97 = .ok (.ireturn, 1) := by decide +kernel
theorem dX12_lead_98 : decode cX12_lead 98 = .ok (.aload_n 0, 1) := by decide +kernel
theorem dX12_lead_99 : decode cX12_lead 99 = .ok (.getfield 57, 3) := by decide +kernel
theorem dX12_lead_102 : decode cX12_lead 102 = .ok (.iload 4, 2) := by decide +kernel
theorem dX12_lead_104 : decode cX12_lead 104 = .ok (.iload_n 2, 1) := by decide +kernel
theorem dX12_lead_105 : decode cX12_lead 105 = .ok (.iastore, 1) := by decide +kernel
theorem dX12_lead_106 : decode cX12_lead 106 = .ok (.aload_n 0, 1) := by decide +kernel
theorem dX12_lead_107 : decode cX12_lead 107 = .ok (.getfield 60, 3) := by decide +kernel
theorem dX12_lead_110 : decode cX12_lead 110 = .ok (.iload 4, 2) := by decide +kernel
theorem dX12_lead_112 : decode cX12_lead 112 = .ok (.iload_n 3, 1) := by decide +kernel
theorem dX12_lead_113 : decode cX12_lead 113 = .ok (.iastore, 1) := by decide +kernel
theorem dX12_lead_114 : decode cX12_lead 114 = .ok (.aload_n 0, 1) := by decide +kernel
theorem dX12_lead_115 : decode cX12_lead 115 = .ok (.getfield 54, 3) := by decide +kernel
theorem dX12_lead_118 : decode cX12_lead 118 = .ok (.iload_n 1, 1) := by decide +kernel
theorem dX12_lead_119 : decode cX12_lead 119 = .ok (.dup2, 1) := by decide +kernel
theorem dX12_lead_120 : decode cX12_lead 120 = .ok (.iaload, 1) := by decide +kernel
theorem dX12_lead_121 : decode cX12_lead 121 = .ok (.iconst 1, 1) := by decide +kernel
theorem dX12_lead_122 : decode cX12_lead 122 = .ok (.iadd, 1) := by decide +kernel
theorem dX12_lead_123 : decode cX12_lead 123 = .ok (.iastore, 1) := by decide +kernel
theorem dX12_lead_124 : decode cX12_lead 124 = .ok (.aload_n 0, 1) := by decide +kernel
theorem dX12_lead_125 : decode cX12_lead 125 = .ok (.getfield 54, 3) := by decide +kernel
theorem dX12_lead_128 : decode cX12_lead 128 = .ok (.iload_n 1, 1) := by decide +kernel
theorem dX12_lead_129 : decode cX12_lead 129 = .ok (.iaload, 1) := by decide +kernel
theorem dX12_lead_130 : decode cX12_lead 130 = .ok (.ireturn, 1) := by decide +kernel
theorem dX12_look_0 : decode cX12_look 0 = .ok (.aload_n 0, 1) := by decide +kernel
theorem dX12_look_1 : decode cX12_look 1 = .ok (.aload_n 0, 1) := by decide +kernel
theorem dX12_look_2 : decode cX12_look 2 = .ok (.iload_n 1, 1) := by decide +kernel
theorem dX12_look_3 : decode cX12_look 3 = .ok (.invokevirtual 181, 3) := by decide +kernel
theorem dX12_look_6 : decode cX12_look 6 = .ok (.ifCond .eq 17, 3) := by decide +kernel
theorem dX12_look_9 : decode cX12_look 9 = .ok (.iload_n 2, 1) := by decide +kernel
theorem dX12_look_10 : decode cX12_look 10 = .ok (.ifCond .lt 13, 3) := by decide +kernel
theorem dX12_look_13 : decode cX12_look 13 = .ok (.iload_n 2, 1) := by decide +kernel
theorem dX12_look_14 : decode cX12_look 14 = .ok (.aload_n 0, 1) := by decide +kernel
theorem dX12_look_15 : decode cX12_look 15 = .ok (.getfield 54, 3) := by decide +kernel
theorem dX12_look_18 : decode cX12_look 18 = .ok (.iload_n 1, 1) := by decide +kernel
theorem dX12_look_19 : decode cX12_look 19 = .ok (.iaload, 1) := by decide +kernel
theorem dX12_look_20 : decode cX12_look 20 = .ok (.if_icmp .lt 7, 3) := by decide +kernel
theorem dX12_look_23 : decode cX12_look 23 = .ok (.iconst 1, 1) := by decide +kernel
theorem dX12_look_24 : decode cX12_look 24 = .ok (.goto 17, 3) := by decide +kernel
theorem dX12_look_27 : decode cX12_look 27 = .ok (.iload_n 3, 1) := by decide +kernel
theorem dX12_look_28 : decode cX12_look 28 = .ok (.ifCond .lt 8, 3) := by decide +kernel
theorem dX12_look_31 : decode cX12_look 31 = .ok (.iload_n 3, 1) := by decide +kernel
theorem dX12_look_32 : decode cX12_look 32 = .ok (.iconst 3, 1) := by decide +kernel
theorem dX12_look_33 : decode cX12_look 33 = .ok (.if_icmp .le 7, 3) := by decide +kernel
theorem dX12_look_36 : decode cX12_look 36 = .ok (.iconst 2, 1) := by decide +kernel
theorem dX12_look_37 : decode cX12_look 37 = .ok (.goto 4, 3) := by decide +kernel
theorem dX12_look_40 : decode cX12_look 40 = .ok (.iconst 0, 1) := by decide +kernel
theorem dX12_look_41 : decode cX12_look 41 = .ok (.putfield 135, 3) := by decide +kernel
theorem dX12_look_44 : decode cX12_look 44 = .ok (.aload_n 0, 1) := by decide +kernel
theorem dX12_look_45 : decode cX12_look 45 = .ok (.getfield 135, 3) := by decide +kernel
theorem dX12_look_48 : decode cX12_look 48 = .ok (.ifCond .eq 5, 3) := by decide +kernel
theorem dX12_look_51 : decode cX12_look 51 = .ok (.iconst 0, 1) := by decide +kernel
theorem dX12_look_52 : decode cX12_look 52 = .ok (.ireturn, 1) := by decide +kernel
theorem dX12_look_53 : decode cX12_look 53 = .ok (.bipush 40, 2) := by decide +kernel
theorem dX12_look_55 : decode cX12_look 55 = .ok (.iload_n 1, 1) := by decide +kernel
theorem dX12_look_56 : decode cX12_look 56 = .ok (.imul, 1) := by decide +kernel
theorem dX12_look_57 : decode cX12_look 57 = .ok (.iload_n 2, 1) := by decide +kernel
theorem dX12_look_58 : decode cX12_look 58 = .ok (.iadd, 1) := by decide +kernel
theorem dX12_look_59 : decode cX12_look 59 = .ok (.istore 4, 2) := by decide +kernel
theorem dX12_look_61 : decode cX12_look 61 = .ok (.iload_n 3, 1) := by decide +kernel
theorem dX12_look_62 : decode cX12_look 62 = .ok (.ifCond .ne 13, 3) := by decide +kernel
theorem dX12_look_65 : decode cX12_look 65 = .ok (.aload_n 0, 1) := by decide +kernel
theorem dX12_look_66 : decode cX12_look 66 = .ok (.getfield 57, 3) := by decide +kernel
theorem dX12_look_69 : decode cX12_look 69 = .ok (.iload 4, 2) := by decide +kernel
theorem dX12_look_71 : decode cX12_look 71 = .ok (.iaload, 1) := by decide +kernel
theorem dX12_look_72 : decode cX12_look 72 = .ok (.goto 45, 3) := by decide +kernel
theorem dX12_look_75 : decode cX12_look 75 = .ok (.iload_n 3, 1) := by decide +kernel
theorem dX12_look_76 : decode cX12_look 76 = .ok (.iconst 1, 1) := by decide +kernel
theorem dX12_look_77 : decode cX12_look 77 = .ok (.if_icmp .ne 13, 3) := by decide +kernel
theorem dX12_look_80 : decode cX12_look 80 = .ok (.aload_n 0, 1) := by decide +kernel
theorem dX12_look_81 : decode cX12_look 81 = .ok (.getfield 60, 3) := by decide +kernel
theorem dX12_look_84 : decode cX12_look 84 = .ok (.iload 4, 2) := by decide +kernel
theorem dX12_look_86 : decode cX12_look 86 = .ok (.iaload, 1) := by decide +kernel
theorem dX12_look_87 : decode cX12_look 87 = .ok (.goto 30, 3) := by decide +kernel
theorem dX12_look_90 : decode cX12_look 90 = .ok (.aload_n 0, 1) := by decide +kernel
theorem dX12_look_91 : decode cX12_look 91 = .ok (.aload_n 0, 1) := by decide +kernel
theorem dX12_look_92 : decode cX12_look 92 = .ok (.getfield 51, 3) := by decide +kernel
theorem dX12_look_95 : decode cX12_look 95 = .ok (.iload_n 1, 1) := by decide +kernel
theorem dX12_look_96 : decode cX12_look 96 = .ok (.iaload, 1) := by decide +kernel
theorem dX12_look_97 : decode cX12_look 97 = .ok (.aload_n 0, 1) := by decide +kernel
theorem dX12_look_98 : decode cX12_look 98 = .ok (.getfield 57, 3) := by decide +kernel
theorem dX12_look_101 : decode cX12_look 101 = .ok (.iload 4, 2) := by decide +kernel
theorem dX12_look_103 : decode cX12_look 103 = .ok (.iaload, 1) := by decide +kernel
theorem dX12_look_104 : decode cX12_look 104 = .ok (.iload_n 3, 1) := by decide +kernel
theorem dX12_look_105 : decode cX12_look 105 = .ok (.iconst 2, 1) := by decide +kernel
theorem dX12_look_106 : decode cX12_look 106 = .ok (.if_icmp .ne 7, 3) := by decide +kernel
theorem dX12_look_109 : decode cX12_look 109 = .ok (.iconst 1, 1) := by decide +kernel
theorem dX12_look_110 : decode cX12_look 110 = .ok (.goto 4, 3) := by decide +kernel
theorem dX12_look_113 : decode cX12_look 113 = .ok (.iconst 0, 1) := by decide +kernel
theorem dX12_look_114 : decode cX12_look 114 = .ok (.invokevirtual 184, 3) := by decide +kernel
theorem dX12_look_117 : decode cX12_look 117 = .ok (.ireturn, 1) := by decide +kernel
theorem dX12_about_0 : decode cX12_about 0 = .ok (.aload_n 0, 1) := by decide +kernel
theorem dX12_about_1 : decode cX12_about 1 = .ok (.iconst 0, 1) := by decide +kernel
theorem dX12_about_2 : decode cX12_about 2 = .ok (.putfield 135, 3) := by decide +kernel
theorem dX12_about_5 : decode cX12_about 5 = .ok (.aload_n 0, 1) := by decide +kernel
theorem dX12_about_6 : decode cX12_about 6 = .ok (.iload_n 1, 1) := by decide +kernel
theorem dX12_about_7 : decode cX12_about 7 = .ok (.invokevirtual 181, 3) := by decide +kernel
theorem dX12_about_10 : decode cX12_about 10 = .ok (.ifCond .eq 12, 3) := by decide +kernel
theorem dX12_about_13 : decode cX12_about 13 = .ok (.iload_n 2, 1) := by decide +kernel
theorem dX12_about_14 : decode cX12_about 14 = .ok (.ifCond .lt 8, 3) := by decide +kernel
theorem dX12_about_17 : decode cX12_about 17 = .ok (.iload_n 2, 1) := by decide +kernel
theorem dX12_about_18 : decode cX12_about 18 = .ok (.iconst 1, 1) := by decide +kernel
theorem dX12_about_19 : decode cX12_about 19 = .ok (.if_icmp .le 7, 3) := by decide +kernel
theorem dX12_about_22 : decode cX12_about 22 = .ok (.iconst (-1), 1) := by decide +kernel
theorem dX12_about_23 : decode cX12_about 23 = .ok (.goto 22, 3) := by decide +kernel
theorem dX12_about_26 : decode cX12_about 26 = .ok (.iload_n 2, 1) := by decide +kernel
theorem dX12_about_27 : decode cX12_about 27 = .ok (.ifCond .ne 12, 3) := by decide +kernel
theorem dX12_about_30 : decode cX12_about 30 = .ok (.aload_n 0, 1) := by decide +kernel
theorem dX12_about_31 : decode cX12_about 31 = .ok (.getfield 51, 3) := by decide +kernel
theorem dX12_about_34 : decode cX12_about 34 = .ok (.iload_n 1, 1) := by decide +kernel
theorem dX12_about_35 : decode cX12_about 35 = .ok (.iaload, 1) := by decide +kernel
theorem dX12_about_36 : decode cX12_about 36 = .ok (.goto 9, 3) := by decide +kernel
theorem dX12_about_39 : decode cX12_about 39 = .ok (.aload_n 0, 1) := by decide +kernel
theorem dX12_about_40 : decode cX12_about 40 = .ok (.getfield 54, 3) := by decide +kernel
theorem dX12_about_43 : decode cX12_about 43 = .ok (.iload_n 1, 1) := by decide +kernel
theorem dX12_about_44 : decode cX12_about 44 = .ok (.iaload, 1) := by decide +kernel
theorem dX12_about_45 : decode cX12_about 45 = .ok (.ireturn, 1) := by decide +kernel
theorem dX12_here_0 : decode cX12_here 0 = .ok (.aload_n 0, 1) := by decide +kernel
theorem dX12_here_1 : decode cX12_here 1 = .ok (.getfield 188, 3) := by decide +kernel
theorem dX12_here_4 : decode cX12_here 4 = .ok (.aload_n 0, 1) := by decide +kernel
theorem dX12_here_5 : decode cX12_here 5 = .ok (.getfield 191, 3) := by decide +kernel
theorem dX12_here_8 : decode cX12_here 8 = .ok (.if_icmp .ge 15, 3) := by decide +kernel
theorem dX12_here_11 : decode cX12_here 11 = .ok (.aload_n 0, 1) := by decide +kernel
theorem dX12_here_12 : decode cX12_here 12 = .ok (.getfield 9, 3) := by decide +kernel
theorem dX12_here_15 : decode cX12_here 15 = .ok (.aload_n 0, 1) := by decide +kernel
theorem dX12_here_16 : decode cX12_here 16 = .ok (.getfield 188, 3) := by decide +kernel
theorem dX12_here_19 : decode cX12_here 19 = .ok (.iaload, 1) := by decide +kernel
theorem dX12_here_20 : decode cX12_here 20 = .ok (.goto 4, 3) := by decide +kernel
theorem dX12_here_23 : decode cX12_here 23 = .ok (.iconst (-1), 1) := by decide +kernel
theorem dX12_here_24 : decode cX12_here 24 = .ok (.ireturn, 1) := by decide +kernel
theorem dX12_isSmall_0 : decode cX12_isSmall 0 = .ok (.iload_n 0, 1) := by decide +kernel
theorem dX12_isSmall_1 : decode cX12_isSmall 1 = .ok (.bipush 97, 2) := by decide +kernel
theorem dX12_isSmall_3 : decode cX12_isSmall 3 = .ok (.if_icmp .lt 13, 3) := by decide +kernel
theorem dX12_isSmall_6 : decode cX12_isSmall 6 = .ok (.iload_n 0, 1) := by decide +kernel
theorem dX12_isSmall_7 : decode cX12_isSmall 7 = .ok (.bipush 122, 2) := by decide +kernel
theorem dX12_isSmall_9 : decode cX12_isSmall 9 = .ok (.if_icmp .gt 7, 3) := by decide +kernel
theorem dX12_isSmall_12 : decode cX12_isSmall 12 = .ok (.iconst 1, 1) := by decide +kernel
theorem dX12_isSmall_13 : decode cX12_isSmall 13 = .ok (.goto 4, 3) := by decide +kernel
theorem dX12_isSmall_16 : decode cX12_isSmall 16 = .ok (.iconst 0, 1) := by decide +kernel
theorem dX12_isSmall_17 : decode cX12_isSmall 17 = .ok (.ireturn, 1) := by decide +kernel
theorem dX12_isDigit_0 : decode cX12_isDigit 0 = .ok (.iload_n 0, 1) := by decide +kernel
theorem dX12_isDigit_1 : decode cX12_isDigit 1 = .ok (.bipush 48, 2) := by decide +kernel
theorem dX12_isDigit_3 : decode cX12_isDigit 3 = .ok (.if_icmp .lt 13, 3) := by decide +kernel
theorem dX12_isDigit_6 : decode cX12_isDigit 6 = .ok (.iload_n 0, 1) := by decide +kernel
theorem dX12_isDigit_7 : decode cX12_isDigit 7 = .ok (.bipush 57, 2) := by decide +kernel
theorem dX12_isDigit_9 : decode cX12_isDigit 9 = .ok (.if_icmp .gt 7, 3) := by decide +kernel
theorem dX12_isDigit_12 : decode cX12_isDigit 12 = .ok (.iconst 1, 1) := by decide +kernel
theorem dX12_isDigit_13 : decode cX12_isDigit 13 = .ok (.goto 4, 3) := by decide +kernel
theorem dX12_isDigit_16 : decode cX12_isDigit 16 = .ok (.iconst 0, 1) := by decide +kernel
theorem dX12_isDigit_17 : decode cX12_isDigit 17 = .ok (.ireturn, 1) := by decide +kernel
theorem dX12_next_0 : decode cX12_next 0 = .ok (.aload_n 0, 1) := by decide +kernel
theorem dX12_next_1 : decode cX12_next 1 = .ok (.invokevirtual 194, 3) := by decide +kernel
theorem dX12_next_4 : decode cX12_next 4 = .ok (.bipush 10, 2) := by decide +kernel
theorem dX12_next_6 : decode cX12_next 6 = .ok (.if_icmp .eq 12, 3) := by decide +kernel
theorem dX12_next_9 : decode cX12_next 9 = .ok (.aload_n 0, 1) := by decide +kernel
theorem dX12_next_10 : decode cX12_next 10 = .ok (.invokevirtual 194, 3) := by decide +kernel
theorem dX12_next_13 : decode cX12_next 13 = .ok (.bipush 32, 2) := by decide +kernel
theorem dX12_next_15 : decode cX12_next 15 = .ok (.if_icmp .ne 16, 3) := by decide +kernel
theorem dX12_next_18 : decode cX12_next 18 = .ok (.aload_n 0, 1) := by decide +kernel
theorem dX12_next_19 : decode cX12_next 19 = .ok (.dup, 1) := by decide +kernel
theorem dX12_next_20 : decode cX12_next 20 = .ok (.getfield 188, 3) := by decide +kernel
theorem dX12_next_23 : decode cX12_next 23 = .ok (.iconst 1, 1) := by decide +kernel
theorem dX12_next_24 : decode cX12_next 24 = .ok (.iadd, 1) := by decide +kernel
theorem dX12_next_25 : decode cX12_next 25 = .ok (.putfield 188, 3) := by decide +kernel
theorem dX12_next_28 : decode cX12_next 28 = .ok (.goto (-28), 3) := by decide +kernel
theorem dX12_next_31 : decode cX12_next 31 = .ok (.aload_n 0, 1) := by decide +kernel
theorem dX12_next_32 : decode cX12_next 32 = .ok (.aload_n 0, 1) := by decide +kernel
theorem dX12_next_33 : decode cX12_next 33 = .ok (.getfield 188, 3) := by decide +kernel
theorem dX12_next_36 : decode cX12_next 36 = .ok (.putfield 198, 3) := by decide +kernel
theorem dX12_next_39 : decode cX12_next 39 = .ok (.aload_n 0, 1) := by decide +kernel
theorem dX12_next_40 : decode cX12_next 40 = .ok (.invokevirtual 194, 3) := by decide +kernel
theorem dX12_next_43 : decode cX12_next 43 = .ok (.istore_n 1, 1) := by decide +kernel
theorem dX12_next_44 : decode cX12_next 44 = .ok (.iload_n 1, 1) := by decide +kernel
theorem dX12_next_45 : decode cX12_next 45 = .ok (.iconst (-1), 1) := by decide +kernel
theorem dX12_next_46 : decode cX12_next 46 = .ok (.if_icmp .ne 11, 3) := by decide +kernel
theorem dX12_next_49 : decode cX12_next 49 = .ok (.aload_n 0, 1) := by decide +kernel
theorem dX12_next_50 : decode cX12_next 50 = .ok (.iconst 3, 1) := by decide +kernel
theorem dX12_next_51 : decode cX12_next 51 = .ok (.putfield 201, 3) := by decide +kernel
theorem dX12_next_54 : decode cX12_next 54 = .ok (.goto 161, 3) := by decide +kernel
theorem dX12_next_57 : decode cX12_next 57 = .ok (.iload_n 1, 1) := by decide +kernel
theorem dX12_next_58 : decode cX12_next 58 = .ok (.invokestatic 204, 3) := by decide +kernel
theorem dX12_next_61 : decode cX12_next 61 = .ok (.ifCond .eq 54, 3) := by decide +kernel
theorem dX12_next_64 : decode cX12_next 64 = .ok (.aload_n 0, 1) := by decide +kernel
theorem dX12_next_65 : decode cX12_next 65 = .ok (.invokevirtual 194, 3) := by decide +kernel
theorem dX12_next_68 : decode cX12_next 68 = .ok (.invokestatic 204, 3) := by decide +kernel
theorem dX12_next_71 : decode cX12_next 71 = .ok (.ifCond .eq 16, 3) := by decide +kernel
theorem dX12_next_74 : decode cX12_next 74 = .ok (.aload_n 0, 1) := by decide +kernel
theorem dX12_next_75 : decode cX12_next 75 = .ok (.dup, 1) := by decide +kernel
theorem dX12_next_76 : decode cX12_next 76 = .ok (.getfield 188, 3) := by decide +kernel
theorem dX12_next_79 : decode cX12_next 79 = .ok (.iconst 1, 1) := by decide +kernel
theorem dX12_next_80 : decode cX12_next 80 = .ok (.iadd, 1) := by decide +kernel
theorem dX12_next_81 : decode cX12_next 81 = .ok (.putfield 188, 3) := by decide +kernel
theorem dX12_next_84 : decode cX12_next 84 = .ok (.goto (-20), 3) := by decide +kernel
theorem dX12_next_87 : decode cX12_next 87 = .ok (.aload_n 0, 1) := by decide +kernel
theorem dX12_next_88 : decode cX12_next 88 = .ok (.aload_n 0, 1) := by decide +kernel
theorem dX12_next_89 : decode cX12_next 89 = .ok (.invokevirtual 207, 3) := by decide +kernel
theorem dX12_next_92 : decode cX12_next 92 = .ok (.putfield 210, 3) := by decide +kernel
theorem dX12_next_95 : decode cX12_next 95 = .ok (.aload_n 0, 1) := by decide +kernel
theorem dX12_next_96 : decode cX12_next 96 = .ok (.aload_n 0, 1) := by decide +kernel
theorem dX12_next_97 : decode cX12_next 97 = .ok (.getfield 210, 3) := by decide +kernel
theorem dX12_next_100 : decode cX12_next 100 = .ok (.iconst (-1), 1) := by decide +kernel
theorem dX12_next_101 : decode cX12_next 101 = .ok (.if_icmp .ne 7, 3) := by decide +kernel
theorem dX12_next_104 : decode cX12_next 104 = .ok (.iconst 4, 1) := by decide +kernel
theorem dX12_next_105 : decode cX12_next 105 = .ok (.goto 4, 3) := by decide +kernel
theorem dX12_next_108 : decode cX12_next 108 = .ok (.iconst 0, 1) := by decide +kernel
theorem dX12_next_109 : decode cX12_next 109 = .ok (.putfield 201, 3) := by decide +kernel
theorem dX12_next_112 : decode cX12_next 112 = .ok (.goto 103, 3) := by decide +kernel
theorem dX12_next_115 : decode cX12_next 115 = .ok (.iload_n 1, 1) := by decide +kernel
theorem dX12_next_116 : decode cX12_next 116 = .ok (.invokestatic 213, 3) := by decide +kernel
theorem dX12_next_119 : decode cX12_next 119 = .ok (.ifCond .eq 71, 3) := by decide +kernel
theorem dX12_next_122 : decode cX12_next 122 = .ok (.aload_n 0, 1) := by decide +kernel
theorem dX12_next_123 : decode cX12_next 123 = .ok (.iconst 1, 1) := by decide +kernel
theorem dX12_next_124 : decode cX12_next 124 = .ok (.putfield 201, 3) := by decide +kernel
theorem dX12_next_127 : decode cX12_next 127 = .ok (.aload_n 0, 1) := by decide +kernel
theorem dX12_next_128 : decode cX12_next 128 = .ok (.iconst 0, 1) := by decide +kernel
theorem dX12_next_129 : decode cX12_next 129 = .ok (.putfield 210, 3) := by decide +kernel
theorem dX12_next_132 : decode cX12_next 132 = .ok (.aload_n 0, 1) := by decide +kernel
theorem dX12_next_133 : decode cX12_next 133 = .ok (.invokevirtual 194, 3) := by decide +kernel
theorem dX12_next_136 : decode cX12_next 136 = .ok (.invokestatic 213, 3) := by decide +kernel
theorem dX12_next_139 : decode cX12_next 139 = .ok (.ifCond .eq 76, 3) := by decide +kernel
theorem dX12_next_142 : decode cX12_next 142 = .ok (.aload_n 0, 1) := by decide +kernel
theorem dX12_next_143 : decode cX12_next 143 = .ok (.aload_n 0, 1) := by decide +kernel
theorem dX12_next_144 : decode cX12_next 144 = .ok (.getfield 210, 3) := by decide +kernel
theorem dX12_next_147 : decode cX12_next 147 = .ok (.bipush 99, 2) := by decide +kernel
theorem dX12_next_149 : decode cX12_next 149 = .ok (.if_icmp .le 10, 3) := by decide +kernel
theorem dX12_next_152 : decode cX12_next 152 = .ok (.aload_n 0, 1) := by decide +kernel
theorem dX12_next_153 : decode cX12_next 153 = .ok (.getfield 210, 3) := by decide +kernel
theorem dX12_next_156 : decode cX12_next 156 = .ok (.goto 18, 3) := by decide +kernel
theorem dX12_next_159 : decode cX12_next 159 = .ok (.bipush 10, 2) := by decide +kernel
theorem dX12_next_161 : decode cX12_next 161 = .ok (.aload_n 0, 1) := by decide +kernel
theorem dX12_next_162 : decode cX12_next 162 = .ok (.getfield 210, 3) := by decide +kernel
theorem dX12_next_165 : decode cX12_next 165 = .ok (.imul, 1) := by decide +kernel
theorem dX12_next_166 : decode cX12_next 166 = .ok (.aload_n 0, 1) := by decide +kernel
theorem dX12_next_167 : decode cX12_next 167 = .ok (.invokevirtual 194, 3) := by decide +kernel
theorem dX12_next_170 : decode cX12_next 170 = .ok (.iadd, 1) := by decide +kernel
theorem dX12_next_171 : decode cX12_next 171 = .ok (.bipush 48, 2) := by decide +kernel
theorem dX12_next_173 : decode cX12_next 173 = .ok (.isub, 1) := by decide +kernel
theorem dX12_next_174 : decode cX12_next 174 = .ok (.putfield 210, 3) := by decide +kernel
theorem dX12_next_177 : decode cX12_next 177 = .ok (.aload_n 0, 1) := by decide +kernel
theorem dX12_next_178 : decode cX12_next 178 = .ok (.dup, 1) := by decide +kernel
theorem dX12_next_179 : decode cX12_next 179 = .ok (.getfield 188, 3) := by decide +kernel
theorem dX12_next_182 : decode cX12_next 182 = .ok (.iconst 1, 1) := by decide +kernel
theorem dX12_next_183 : decode cX12_next 183 = .ok (.iadd, 1) := by decide +kernel
theorem dX12_next_184 : decode cX12_next 184 = .ok (.putfield 188, 3) := by decide +kernel
theorem dX12_next_187 : decode cX12_next 187 = .ok (.goto (-55), 3) := by decide +kernel
theorem dX12_next_190 : decode cX12_next 190 = .ok (.aload_n 0, 1) := by decide +kernel
theorem dX12_next_191 : decode cX12_next 191 = .ok (.iload_n 1, 1) := by decide +kernel
theorem dX12_next_192 : decode cX12_next 192 = .ok (.bipush 59, 2) := by decide +kernel
theorem dX12_next_194 : decode cX12_next 194 = .ok (.if_icmp .ne 7, 3) := by decide +kernel
theorem dX12_next_197 : decode cX12_next 197 = .ok (.iconst 2, 1) := by decide +kernel
theorem dX12_next_198 : decode cX12_next 198 = .ok (.goto 4, 3) := by decide +kernel
theorem dX12_next_201 : decode cX12_next 201 = .ok (.iconst 4, 1) := by decide +kernel
theorem dX12_next_202 : decode cX12_next 202 = .ok (.putfield 201, 3) := by decide +kernel
theorem dX12_next_205 : decode cX12_next 205 = .ok (.aload_n 0, 1) := by decide +kernel
theorem dX12_next_206 : decode cX12_next 206 = .ok (.dup, 1) := by decide +kernel
theorem dX12_next_207 : decode cX12_next 207 = .ok (.getfield 188, 3) := by decide +kernel
theorem dX12_next_210 : decode cX12_next 210 = .ok (.iconst 1, 1) := by decide +kernel
theorem dX12_next_211 : decode cX12_next 211 = .ok (.iadd, 1) := by decide +kernel
theorem dX12_next_212 : decode cX12_next 212 = .ok (.putfield 188, 3) := by decide +kernel
theorem dX12_next_215 : decode cX12_next 215 = .ok (.return_, 1) := by decide +kernel
theorem dX12_word_0 : decode cX12_word 0 = .ok (.iconst 0, 1) := by decide +kernel
theorem dX12_word_1 : decode cX12_word 1 = .ok (.istore_n 1, 1) := by decide +kernel
theorem dX12_word_2 : decode cX12_word 2 = .ok (.iconst 0, 1) := by decide +kernel
theorem dX12_word_3 : decode cX12_word 3 = .ok (.istore_n 2, 1) := by decide +kernel
theorem dX12_word_4 : decode cX12_word 4 = .ok (.iload_n 2, 1) := by decide +kernel
theorem dX12_word_5 : decode cX12_word 5 = .ok (.ldc 216, 2) := by decide +kernel
theorem dX12_word_7 : decode cX12_word 7 = .ok (.invokevirtual 218, 3) := by decide +kernel
theorem dX12_word_10 : decode cX12_word 10 = .ok (.if_icmp .ge 113, 3) := by decide +kernel
theorem dX12_word_13 : decode cX12_word 13 = .ok (.iconst 0, 1) := by decide +kernel
theorem dX12_word_14 : decode cX12_word 14 = .ok (.istore_n 3, 1) := by decide +kernel
theorem dX12_word_15 : decode cX12_word 15 = .ok (.ldc 216, 2) := by decide +kernel
theorem dX12_word_17 : decode cX12_word 17 = .ok (.iload_n 2, 1) := by decide +kernel
theorem dX12_word_18 : decode cX12_word 18 = .ok (.iload_n 3, 1) := by decide +kernel
theorem dX12_word_19 : decode cX12_word 19 = .ok (.iadd, 1) := by decide +kernel
theorem dX12_word_20 : decode cX12_word 20 = .ok (.invokevirtual 222, 3) := by decide +kernel
theorem dX12_word_23 : decode cX12_word 23 = .ok (.bipush 32, 2) := by decide +kernel
theorem dX12_word_25 : decode cX12_word 25 = .ok (.if_icmp .eq 44, 3) := by decide +kernel
theorem dX12_word_28 : decode cX12_word 28 = .ok (.aload_n 0, 1) := by decide +kernel
theorem dX12_word_29 : decode cX12_word 29 = .ok (.getfield 198, 3) := by decide +kernel
theorem dX12_word_32 : decode cX12_word 32 = .ok (.iload_n 3, 1) := by decide +kernel
theorem dX12_word_33 : decode cX12_word 33 = .ok (.iadd, 1) := by decide +kernel
theorem dX12_word_34 : decode cX12_word 34 = .ok (.aload_n 0, 1) := by decide +kernel
theorem dX12_word_35 : decode cX12_word 35 = .ok (.getfield 188, 3) := by decide +kernel
theorem dX12_word_38 : decode cX12_word 38 = .ok (.if_icmp .ge 31, 3) := by decide +kernel
theorem dX12_word_41 : decode cX12_word 41 = .ok (.aload_n 0, 1) := by decide +kernel
theorem dX12_word_42 : decode cX12_word 42 = .ok (.getfield 9, 3) := by decide +kernel
theorem dX12_word_45 : decode cX12_word 45 = .ok (.aload_n 0, 1) := by decide +kernel
theorem dX12_word_46 : decode cX12_word 46 = .ok (.getfield 198, 3) := by decide +kernel
theorem dX12_word_49 : decode cX12_word 49 = .ok (.iload_n 3, 1) := by decide +kernel
theorem dX12_word_50 : decode cX12_word 50 = .ok (.iadd, 1) := by decide +kernel
theorem dX12_word_51 : decode cX12_word 51 = .ok (.iaload, 1) := by decide +kernel
theorem dX12_word_52 : decode cX12_word 52 = .ok (.ldc 216, 2) := by decide +kernel
theorem dX12_word_54 : decode cX12_word 54 = .ok (.iload_n 2, 1) := by decide +kernel
theorem dX12_word_55 : decode cX12_word 55 = .ok (.iload_n 3, 1) := by decide +kernel
theorem dX12_word_56 : decode cX12_word 56 = .ok (.iadd, 1) := by decide +kernel
theorem dX12_word_57 : decode cX12_word 57 = .ok (.invokevirtual 222, 3) := by decide +kernel
theorem dX12_word_60 : decode cX12_word 60 = .ok (.if_icmp .ne 9, 3) := by decide +kernel
theorem dX12_word_63 : decode cX12_word 63 = .ok (.iinc 3 1, 3) := by decide +kernel
theorem dX12_word_66 : decode cX12_word 66 = .ok (.goto (-51), 3) := by decide +kernel
theorem dX12_word_69 : decode cX12_word 69 = .ok (.ldc 216, 2) := by decide +kernel
theorem dX12_word_71 : decode cX12_word 71 = .ok (.iload_n 2, 1) := by decide +kernel
theorem dX12_word_72 : decode cX12_word 72 = .ok (.iload_n 3, 1) := by decide +kernel
theorem dX12_word_73 : decode cX12_word 73 = .ok (.iadd, 1) := by decide +kernel
theorem dX12_word_74 : decode cX12_word 74 = .ok (.invokevirtual 222, 3) := by decide +kernel
theorem dX12_word_77 : decode cX12_word 77 = .ok (.bipush 32, 2) := by decide +kernel
theorem dX12_word_79 : decode cX12_word 79 = .ok (.if_icmp .ne 18, 3) := by decide +kernel
theorem dX12_word_82 : decode cX12_word 82 = .ok (.aload_n 0, 1) := by decide +kernel
theorem dX12_word_83 : decode cX12_word 83 = .ok (.getfield 198, 3) := by decide +kernel
theorem dX12_word_86 : decode cX12_word 86 = .ok (.iload_n 3, 1) := by decide +kernel
theorem dX12_word_87 : decode cX12_word 87 = .ok (.iadd, 1) := by decide +kernel
theorem dX12_word_88 : decode cX12_word 88 = .ok (.aload_n 0, 1) := by decide +kernel
theorem dX12_word_89 : decode cX12_word 89 = .ok (.getfield 188, 3) := by decide +kernel
theorem dX12_word_92 : decode cX12_word 92 = .ok (.if_icmp .ne 5, 3) := by decide +kernel
theorem dX12_word_95 : decode cX12_word 95 = .ok (.iload_n 1, 1) := by decide +kernel
theorem dX12_word_96 : decode cX12_word 96 = .ok (.ireturn, 1) := by decide +kernel
theorem dX12_word_97 : decode cX12_word 97 = .ok (.ldc 216, 2) := by decide +kernel
theorem dX12_word_99 : decode cX12_word 99 = .ok (.iload_n 2, 1) := by decide +kernel
theorem dX12_word_100 : decode cX12_word 100 = .ok (.invokevirtual 222, 3) := by decide +kernel
theorem dX12_word_103 : decode cX12_word 103 = .ok (.bipush 32, 2) := by decide +kernel
theorem dX12_word_105 : decode cX12_word 105 = .ok (.if_icmp .eq 9, 3) := by decide +kernel
theorem dX12_word_108 : decode cX12_word 108 = .ok (.iinc 2 1, 3) := by decide +kernel
theorem dX12_word_111 : decode cX12_word 111 = .ok (.goto (-14), 3) := by decide +kernel
theorem dX12_word_114 : decode cX12_word 114 = .ok (.iinc 2 1, 3) := by decide +kernel
theorem dX12_word_117 : decode cX12_word 117 = .ok (.iinc 1 1, 3) := by decide +kernel
theorem dX12_word_120 : decode cX12_word 120 = .ok (.goto (-116), 3) := by decide +kernel
theorem dX12_word_123 : decode cX12_word 123 = .ok (.iconst (-1), 1) := by decide +kernel
theorem dX12_word_124 : decode cX12_word 124 = .ok (.ireturn, 1) := by decide +kernel
theorem dX12_wrong_0 : decode cX12_wrong 0 = .ok (.aload_n 0, 1) := by decide +kernel
theorem dX12_wrong_1 : decode cX12_wrong 1 = .ok (.getfield 226, 3) := by decide +kernel
theorem dX12_wrong_4 : decode cX12_wrong 4 = .ok (.ifCond .eq 4, 3) := by decide +kernel
theorem dX12_wrong_7 : decode cX12_wrong 7 = .ok (.return_, 1) := by decide +kernel
theorem dX12_wrong_8 : decode cX12_wrong 8 = .ok (.aload_n 0, 1) := by decide +kernel
theorem dX12_wrong_9 : decode cX12_wrong 9 = .ok (.iload_n 1, 1) := by decide +kernel
theorem dX12_wrong_10 : decode cX12_wrong 10 = .ok (.putfield 226, 3) := by decide +kernel
theorem dX12_wrong_13 : decode cX12_wrong 13 = .ok (.aload_n 0, 1) := by decide +kernel
theorem dX12_wrong_14 : decode cX12_wrong 14 = .ok (.aload_n 0, 1) := by decide +kernel
theorem dX12_wrong_15 : decode cX12_wrong 15 = .ok (.getfield 198, 3) := by decide +kernel
theorem dX12_wrong_18 : decode cX12_wrong 18 = .ok (.putfield 229, 3) := by decide +kernel
theorem dX12_wrong_21 : decode cX12_wrong 21 = .ok (.return_, 1) := by decide +kernel
theorem dX12_isWord_0 : decode cX12_isWord 0 = .ok (.aload_n 0, 1) := by decide +kernel
theorem dX12_isWord_1 : decode cX12_isWord 1 = .ok (.getfield 226, 3) := by decide +kernel
theorem dX12_isWord_4 : decode cX12_isWord 4 = .ok (.ifCond .ne 22, 3) := by decide +kernel
theorem dX12_isWord_7 : decode cX12_isWord 7 = .ok (.aload_n 0, 1) := by decide +kernel
theorem dX12_isWord_8 : decode cX12_isWord 8 = .ok (.getfield 201, 3) := by decide +kernel
theorem dX12_isWord_11 : decode cX12_isWord 11 = .ok (.ifCond .ne 15, 3) := by decide +kernel
theorem dX12_isWord_14 : decode cX12_isWord 14 = .ok (.aload_n 0, 1) := by decide +kernel
theorem dX12_isWord_15 : decode cX12_isWord 15 = .ok (.getfield 210, 3) := by decide +kernel
theorem dX12_isWord_18 : decode cX12_isWord 18 = .ok (.iload_n 1, 1) := by decide +kernel
theorem dX12_isWord_19 : decode cX12_isWord 19 = .ok (.if_icmp .ne 7, 3) := by decide +kernel
theorem dX12_isWord_22 : decode cX12_isWord 22 = .ok (.iconst 1, 1) := by decide +kernel
theorem dX12_isWord_23 : decode cX12_isWord 23 = .ok (.goto 4, 3) := by decide +kernel
theorem dX12_isWord_26 : decode cX12_isWord 26 = .ok (.iconst 0, 1) := by decide +kernel
theorem dX12_isWord_27 : decode cX12_isWord 27 = .ok (.ireturn, 1) := by decide +kernel
theorem dX12_isNumber_0 : decode cX12_isNumber 0 = .ok (.aload_n 0, 1) := by decide +kernel
theorem dX12_isNumber_1 : decode cX12_isNumber 1 = .ok (.getfield 226, 3) := by decide +kernel
theorem dX12_isNumber_4 : decode cX12_isNumber 4 = .ok (.ifCond .eq 5, 3) := by decide +kernel
theorem dX12_isNumber_7 : decode cX12_isNumber 7 = .ok (.iconst 0, 1) := by decide +kernel
theorem dX12_isNumber_8 : decode cX12_isNumber 8 = .ok (.ireturn, 1) := by decide +kernel
theorem dX12_isNumber_9 : decode cX12_isNumber 9 = .ok (.aload_n 0, 1) := by decide +kernel
theorem dX12_isNumber_10 : decode cX12_isNumber 10 = .ok (.getfield 201, 3) := by decide +kernel
theorem dX12_isNumber_13 : decode cX12_isNumber 13 = .ok (.iconst 1, 1) := by decide +kernel
theorem dX12_isNumber_14 : decode cX12_isNumber 14 = .ok (.if_icmp .eq 11, 3) := by decide +kernel
theorem dX12_isNumber_17 : decode cX12_isNumber 17 = .ok (.aload_n 0, 1) := by decide +kernel
theorem dX12_isNumber_18 : decode cX12_isNumber 18 = .ok (.iconst 1, 1) := by decide +kernel
theorem dX12_isNumber_19 : decode cX12_isNumber 19 = .ok (.invokevirtual 232, 3) := by decide +kernel
theorem dX12_isNumber_22 : decode cX12_isNumber 22 = .ok (.goto 24, 3) := by decide +kernel
theorem dX12_isNumber_25 : decode cX12_isNumber 25 = .ok (.aload_n 0, 1) := by decide +kernel
theorem dX12_isNumber_26 : decode cX12_isNumber 26 = .ok (.getfield 210, 3) := by decide +kernel
theorem dX12_isNumber_29 : decode cX12_isNumber 29 = .ok (.iload_n 1, 1) := by decide +kernel
theorem dX12_isNumber_30 : decode cX12_isNumber 30 = .ok (.if_icmp .lt 11, 3) := by decide +kernel
theorem dX12_isNumber_33 : decode cX12_isNumber 33 = .ok (.aload_n 0, 1) := by decide +kernel
theorem dX12_isNumber_34 : decode cX12_isNumber 34 = .ok (.getfield 210, 3) := by decide +kernel
theorem dX12_isNumber_37 : decode cX12_isNumber 37 = .ok (.iload_n 2, 1) := by decide +kernel
theorem dX12_isNumber_38 : decode cX12_isNumber 38 = .ok (.if_icmp .le 8, 3) := by decide +kernel
theorem dX12_isNumber_41 : decode cX12_isNumber 41 = .ok (.aload_n 0, 1) := by decide +kernel
theorem dX12_isNumber_42 : decode cX12_isNumber 42 = .ok (.iconst 2, 1) := by decide +kernel
theorem dX12_isNumber_43 : decode cX12_isNumber 43 = .ok (.invokevirtual 232, 3) := by decide +kernel
theorem dX12_isNumber_46 : decode cX12_isNumber 46 = .ok (.aload_n 0, 1) := by decide +kernel
theorem dX12_isNumber_47 : decode cX12_isNumber 47 = .ok (.getfield 226, 3) := by decide +kernel
theorem dX12_isNumber_50 : decode cX12_isNumber 50 = .ok (.ifCond .ne 7, 3) := by decide +kernel
theorem dX12_isNumber_53 : decode cX12_isNumber 53 = .ok (.iconst 1, 1) := by decide +kernel
theorem dX12_isNumber_54 : decode cX12_isNumber 54 = .ok (.goto 4, 3) := by decide +kernel
theorem dX12_isNumber_57 : decode cX12_isNumber 57 = .ok (.iconst 0, 1) := by decide +kernel
theorem dX12_isNumber_58 : decode cX12_isNumber 58 = .ok (.ireturn, 1) := by decide +kernel
theorem dX12_line_0 : decode cX12_line 0 = .ok (.aload_n 0, 1) := by decide +kernel
theorem dX12_line_1 : decode cX12_line 1 = .ok (.iconst 0, 1) := by decide +kernel
theorem dX12_line_2 : decode cX12_line 2 = .ok (.invokevirtual 236, 3) := by decide +kernel
theorem dX12_line_5 : decode cX12_line 5 = .ok (.ifCond .ne 9, 3) := by decide +kernel
theorem dX12_line_8 : decode cX12_line 8 = .ok (.aload_n 0, 1) := by decide +kernel
theorem dX12_line_9 : decode cX12_line 9 = .ok (.iconst 1, 1) := by decide +kernel
theorem dX12_line_10 : decode cX12_line 10 = .ok (.invokevirtual 232, 3) := by decide +kernel
theorem dX12_line_13 : decode cX12_line 13 = .ok (.return_, 1) := by decide +kernel
theorem dX12_line_14 : decode cX12_line 14 = .ok (.aload_n 0, 1) := by decide +kernel
theorem dX12_line_15 : decode cX12_line 15 = .ok (.invokevirtual 239, 3) := by decide +kernel
theorem dX12_line_18 : decode cX12_line 18 = .ok (.aload_n 0, 1) := by decide +kernel
theorem dX12_line_19 : decode cX12_line 19 = .ok (.iconst 0, 1) := by decide +kernel
theorem dX12_line_20 : decode cX12_line 20 = .ok (.putfield 242, 3) := by decide +kernel
theorem dX12_line_23 : decode cX12_line 23 = .ok (.aload_n 0, 1) := by decide +kernel
theorem dX12_line_24 : decode cX12_line 24 = .ok (.iconst (-1), 1) := by decide +kernel
theorem dX12_line_25 : decode cX12_line 25 = .ok (.putfield 245, 3) := by decide +kernel
theorem dX12_line_28 : decode cX12_line 28 = .ok (.aload_n 0, 1) := by decide +kernel
theorem dX12_line_29 : decode cX12_line 29 = .ok (.invokevirtual 248, 3) := by decide +kernel
theorem dX12_line_32 : decode cX12_line 32 = .ok (.aload_n 0, 1) := by decide +kernel
theorem dX12_line_33 : decode cX12_line 33 = .ok (.invokevirtual 251, 3) := by decide +kernel
theorem dX12_line_36 : decode cX12_line 36 = .ok (.iconst 1, 1) := by decide +kernel
theorem dX12_line_37 : decode cX12_line 37 = .ok (.istore_n 1, 1) := by decide +kernel
theorem dX12_line_38 : decode cX12_line 38 = .ok (.aload_n 0, 1) := by decide +kernel
theorem dX12_line_39 : decode cX12_line 39 = .ok (.iconst 1, 1) := by decide +kernel
theorem dX12_line_40 : decode cX12_line 40 = .ok (.invokevirtual 236, 3) := by decide +kernel
theorem dX12_line_43 : decode cX12_line 43 = .ok (.ifCond .eq 35, 3) := by decide +kernel
theorem dX12_line_46 : decode cX12_line 46 = .ok (.iload_n 1, 1) := by decide +kernel
theorem dX12_line_47 : decode cX12_line 47 = .ok (.bipush 8, 2) := by decide +kernel
theorem dX12_line_49 : decode cX12_line 49 = .ok (.if_icmp .ne 11, 3) := by decide +kernel
theorem dX12_line_52 : decode cX12_line 52 = .ok (.aload_n 0, 1) := by decide +kernel
theorem dX12_line_53 : decode cX12_line 53 = .ok (.iconst 2, 1) := by decide +kernel
theorem dX12_line_54 : decode cX12_line 54 = .ok (.invokevirtual 232, 3) := by decide +kernel
theorem dX12_line_57 : decode cX12_line 57 = .ok (.goto 7, 3) := by decide +kernel
theorem dX12_line_60 : decode cX12_line 60 = .ok (.aload_n 0, 1) := by decide +kernel
theorem dX12_line_61 : decode cX12_line 61 = .ok (.invokevirtual 239, 3) := by decide +kernel
theorem dX12_line_64 : decode cX12_line 64 = .ok (.aload_n 0, 1) := by decide +kernel
theorem dX12_line_65 : decode cX12_line 65 = .ok (.invokevirtual 248, 3) := by decide +kernel
theorem dX12_line_68 : decode cX12_line 68 = .ok (.aload_n 0, 1) := by decide +kernel
theorem dX12_line_69 : decode cX12_line 69 = .ok (.invokevirtual 251, 3) := by decide +kernel
theorem dX12_line_72 : decode cX12_line 72 = .ok (.iinc 1 1, 3) := by decide +kernel
theorem dX12_line_75 : decode cX12_line 75 = .ok (.goto (-37), 3) := by decide +kernel
theorem dX12_line_78 : decode cX12_line 78 = .ok (.aload_n 0, 1) := by decide +kernel
theorem dX12_line_79 : decode cX12_line 79 = .ok (.getfield 226, 3) := by decide +kernel
theorem dX12_line_82 : decode cX12_line 82 = .ok (.ifCond .eq 4, 3) := by decide +kernel
theorem dX12_line_85 : decode cX12_line 85 = .ok (.return_, 1) := by decide +kernel
theorem dX12_line_86 : decode cX12_line 86 = .ok (.aload_n 0, 1) := by decide +kernel
theorem dX12_line_87 : decode cX12_line 87 = .ok (.getfield 201, 3) := by decide +kernel
theorem dX12_line_90 : decode cX12_line 90 = .ok (.iconst 2, 1) := by decide +kernel
theorem dX12_line_91 : decode cX12_line 91 = .ok (.if_icmp .eq 11, 3) := by decide +kernel
theorem dX12_line_94 : decode cX12_line 94 = .ok (.aload_n 0, 1) := by decide +kernel
theorem dX12_line_95 : decode cX12_line 95 = .ok (.iconst 1, 1) := by decide +kernel
theorem dX12_line_96 : decode cX12_line 96 = .ok (.invokevirtual 232, 3) := by decide +kernel
theorem dX12_line_99 : decode cX12_line 99 = .ok (.goto 26, 3) := by decide +kernel
theorem dX12_line_102 : decode cX12_line 102 = .ok (.aload_n 0, 1) := by decide +kernel
theorem dX12_line_103 : decode cX12_line 103 = .ok (.getfield 242, 3) := by decide +kernel
theorem dX12_line_106 : decode cX12_line 106 = .ok (.bipush 40, 2) := by decide +kernel
theorem dX12_line_108 : decode cX12_line 108 = .ok (.if_icmp .gt 12, 3) := by decide +kernel
theorem dX12_line_111 : decode cX12_line 111 = .ok (.aload_n 0, 1) := by decide +kernel
theorem dX12_line_112 : decode cX12_line 112 = .ok (.getfield 254, 3) := by decide +kernel
theorem dX12_line_115 : decode cX12_line 115 = .ok (.bipush 10, 2) := by decide +kernel
theorem dX12_line_117 : decode cX12_line 117 = .ok (.if_icmp .ne 8, 3) := by decide +kernel
theorem dX12_line_120 : decode cX12_line 120 = .ok (.aload_n 0, 1) := by decide +kernel
theorem dX12_line_121 : decode cX12_line 121 = .ok (.iconst 5, 1) := by decide +kernel
theorem dX12_line_122 : decode cX12_line 122 = .ok (.invokevirtual 232, 3) := by decide +kernel
theorem dX12_line_125 : decode cX12_line 125 = .ok (.aload_n 0, 1) := by decide +kernel
theorem dX12_line_126 : decode cX12_line 126 = .ok (.getfield 226, 3) := by decide +kernel
theorem dX12_line_129 : decode cX12_line 129 = .ok (.ifCond .eq 4, 3) := by decide +kernel
theorem dX12_line_132 : decode cX12_line 132 = .ok (.return_, 1) := by decide +kernel
theorem dX12_line_133 : decode cX12_line 133 = .ok (.aload_n 0, 1) := by decide +kernel
theorem dX12_line_134 : decode cX12_line 134 = .ok (.getfield 51, 3) := by decide +kernel
theorem dX12_line_137 : decode cX12_line 137 = .ok (.aload_n 0, 1) := by decide +kernel
theorem dX12_line_138 : decode cX12_line 138 = .ok (.getfield 254, 3) := by decide +kernel
theorem dX12_line_141 : decode cX12_line 141 = .ok (.aload_n 0, 1) := by decide +kernel
theorem dX12_line_142 : decode cX12_line 142 = .ok (.getfield 245, 3) := by decide +kernel
theorem dX12_line_145 : decode cX12_line 145 = .ok (.iastore, 1) := by decide +kernel
theorem dX12_line_146 : decode cX12_line 146 = .ok (.aload_n 0, 1) := by decide +kernel
theorem dX12_line_147 : decode cX12_line 147 = .ok (.getfield 54, 3) := by decide +kernel
theorem dX12_line_150 : decode cX12_line 150 = .ok (.aload_n 0, 1) := by decide +kernel
theorem dX12_line_151 : decode cX12_line 151 = .ok (.getfield 254, 3) := by decide +kernel
theorem dX12_line_154 : decode cX12_line 154 = .ok (.aload_n 0, 1) := by decide +kernel
theorem dX12_line_155 : decode cX12_line 155 = .ok (.getfield 242, 3) := by decide +kernel
theorem dX12_line_158 : decode cX12_line 158 = .ok (.iastore, 1) := by decide +kernel
theorem dX12_line_159 : decode cX12_line 159 = .ok (.iconst 0, 1) := by decide +kernel
theorem dX12_line_160 : decode cX12_line 160 = .ok (.istore_n 1, 1) := by decide +kernel
theorem dX12_line_161 : decode cX12_line 161 = .ok (.iload_n 1, 1) := by decide +kernel
theorem dX12_line_162 : decode cX12_line 162 = .ok (.aload_n 0, 1) := by decide +kernel
theorem dX12_line_163 : decode cX12_line 163 = .ok (.getfield 242, 3) := by decide +kernel
theorem dX12_line_166 : decode cX12_line 166 = .ok (.if_icmp .ge 49, 3) := by decide +kernel
theorem dX12_line_169 : decode cX12_line 169 = .ok (.aload_n 0, 1) := by decide +kernel
theorem dX12_line_170 : decode cX12_line 170 = .ok (.getfield 57, 3) := by decide +kernel
theorem dX12_line_173 : decode cX12_line 173 = .ok (.bipush 40, 2) := by decide +kernel
theorem dX12_line_175 : decode cX12_line 175 = .ok (.aload_n 0, 1) := by decide +kernel
theorem dX12_line_176 : decode cX12_line 176 = .ok (.getfield 254, 3) := by decide +kernel
theorem dX12_line_179 : decode cX12_line 179 = .ok (.imul, 1) := by decide +kernel
theorem dX12_line_180 : decode cX12_line 180 = .ok (.iload_n 1, 1) := by decide +kernel
theorem dX12_line_181 : decode cX12_line 181 = .ok (.iadd, 1) := by decide +kernel
theorem dX12_line_182 : decode cX12_line 182 = .ok (.aload_n 0, 1) := by decide +kernel
theorem dX12_line_183 : decode cX12_line 183 = .ok (.getfield 73, 3) := by decide +kernel
theorem dX12_line_186 : decode cX12_line 186 = .ok (.iload_n 1, 1) := by decide +kernel
theorem dX12_line_187 : decode cX12_line 187 = .ok (.iaload, 1) := by decide +kernel
theorem dX12_line_188 : decode cX12_line 188 = .ok (.iastore, 1) := by decide +kernel
theorem dX12_line_189 : decode cX12_line 189 = .ok (.aload_n 0, 1) := by decide +kernel
theorem dX12_line_190 : decode cX12_line 190 = .ok (.getfield 60, 3) := by decide +kernel
theorem dX12_line_193 : decode cX12_line 193 = .ok (.bipush 40, 2) := by decide +kernel
theorem dX12_line_195 : decode cX12_line 195 = .ok (.aload_n 0, 1) := by decide +kernel
theorem dX12_line_196 : decode cX12_line 196 = .ok (.getfield 254, 3) := by decide +kernel
theorem dX12_line_199 : decode cX12_line 199 = .ok (.imul, 1) := by decide +kernel
theorem dX12_line_200 : decode cX12_line 200 = .ok (.iload_n 1, 1) := by decide +kernel
theorem dX12_line_201 : decode cX12_line 201 = .ok (.iadd, 1) := by decide +kernel
theorem dX12_line_202 : decode cX12_line 202 = .ok (.aload_n 0, 1) := by decide +kernel
theorem dX12_line_203 : decode cX12_line 203 = .ok (.getfield 76, 3) := by decide +kernel
theorem dX12_line_206 : decode cX12_line 206 = .ok (.iload_n 1, 1) := by decide +kernel
theorem dX12_line_207 : decode cX12_line 207 = .ok (.iaload, 1) := by decide +kernel
theorem dX12_line_208 : decode cX12_line 208 = .ok (.iastore, 1) := by decide +kernel
theorem dX12_line_209 : decode cX12_line 209 = .ok (.iinc 1 1, 3) := by decide +kernel
theorem dX12_line_212 : decode cX12_line 212 = .ok (.goto (-51), 3) := by decide +kernel
theorem dX12_line_215 : decode cX12_line 215 = .ok (.aload_n 0, 1) := by decide +kernel
theorem dX12_line_216 : decode cX12_line 216 = .ok (.dup, 1) := by decide +kernel
theorem dX12_line_217 : decode cX12_line 217 = .ok (.getfield 254, 3) := by decide +kernel
theorem dX12_line_220 : decode cX12_line 220 = .ok (.iconst 1, 1) := by decide +kernel
theorem dX12_line_221 : decode cX12_line 221 = .ok (.iadd, 1) := by decide +kernel
theorem dX12_line_222 : decode cX12_line 222 = .ok (.putfield 254, 3) := by decide +kernel
theorem dX12_line_225 : decode cX12_line 225 = .ok (.aload_n 0, 1) := by decide +kernel
theorem dX12_line_226 : decode cX12_line 226 = .ok (.invokevirtual 239, 3) := by decide +kernel
theorem dX12_line_229 : decode cX12_line 229 = .ok (.return_, 1) := by decide +kernel
theorem dX12_part_0 : decode cX12_part 0 = .ok (.aload_n 0, 1) := by decide +kernel
theorem dX12_part_1 : decode cX12_part 1 = .ok (.iconst 0, 1) := by decide +kernel
theorem dX12_part_2 : decode cX12_part 2 = .ok (.bipush 99, 2) := by decide +kernel
theorem dX12_part_4 : decode cX12_part 4 = .ok (.invokevirtual 257, 3) := by decide +kernel
theorem dX12_part_7 : decode cX12_part 7 = .ok (.ifCond .ne 4, 3) := by decide +kernel
theorem dX12_part_10 : decode cX12_part 10 = .ok (.return_, 1) := by decide +kernel
theorem dX12_part_11 : decode cX12_part 11 = .ok (.aload_n 0, 1) := by decide +kernel
theorem dX12_part_12 : decode cX12_part 12 = .ok (.getfield 210, 3) := by decide +kernel
theorem dX12_part_15 : decode cX12_part 15 = .ok (.istore_n 1, 1) := by decide +kernel
theorem dX12_part_16 : decode cX12_part 16 = .ok (.iload_n 1, 1) := by decide +kernel
theorem dX12_part_17 : decode cX12_part 17 = .ok (.aload_n 0, 1) := by decide +kernel
theorem dX12_part_18 : decode cX12_part 18 = .ok (.getfield 254, 3) := by decide +kernel
theorem dX12_part_21 : decode cX12_part 21 = .ok (.if_icmp .lt 11, 3) := by decide +kernel
theorem dX12_part_24 : decode cX12_part 24 = .ok (.aload_n 0, 1) := by decide +kernel
theorem dX12_part_25 : decode cX12_part 25 = .ok (.iconst 3, 1) := by decide +kernel
theorem dX12_part_26 : decode cX12_part 26 = .ok (.invokevirtual 232, 3) := by decide +kernel
theorem dX12_part_29 : decode cX12_part 29 = .ok (.goto 29, 3) := by decide +kernel
theorem dX12_part_32 : decode cX12_part 32 = .ok (.aload_n 0, 1) := by decide +kernel
theorem dX12_part_33 : decode cX12_part 33 = .ok (.getfield 245, 3) := by decide +kernel
theorem dX12_part_36 : decode cX12_part 36 = .ok (.iconst (-1), 1) := by decide +kernel
theorem dX12_part_37 : decode cX12_part 37 = .ok (.if_icmp .eq 21, 3) := by decide +kernel
theorem dX12_part_40 : decode cX12_part 40 = .ok (.aload_n 0, 1) := by decide +kernel
theorem dX12_part_41 : decode cX12_part 41 = .ok (.getfield 51, 3) := by decide +kernel
theorem dX12_part_44 : decode cX12_part 44 = .ok (.iload_n 1, 1) := by decide +kernel
theorem dX12_part_45 : decode cX12_part 45 = .ok (.iaload, 1) := by decide +kernel
theorem dX12_part_46 : decode cX12_part 46 = .ok (.aload_n 0, 1) := by decide +kernel
theorem dX12_part_47 : decode cX12_part 47 = .ok (.getfield 245, 3) := by decide +kernel
theorem dX12_part_50 : decode cX12_part 50 = .ok (.if_icmp .eq 8, 3) := by decide +kernel
theorem dX12_part_53 : decode cX12_part 53 = .ok (.aload_n 0, 1) := by decide +kernel
theorem dX12_part_54 : decode cX12_part 54 = .ok (.iconst 4, 1) := by decide +kernel
theorem dX12_part_55 : decode cX12_part 55 = .ok (.invokevirtual 232, 3) := by decide +kernel
theorem dX12_part_58 : decode cX12_part 58 = .ok (.aload_n 0, 1) := by decide +kernel
theorem dX12_part_59 : decode cX12_part 59 = .ok (.getfield 226, 3) := by decide +kernel
theorem dX12_part_62 : decode cX12_part 62 = .ok (.ifCond .eq 4, 3) := by decide +kernel
theorem dX12_part_65 : decode cX12_part 65 = .ok (.return_, 1) := by decide +kernel
theorem dX12_part_66 : decode cX12_part 66 = .ok (.aload_n 0, 1) := by decide +kernel
theorem dX12_part_67 : decode cX12_part 67 = .ok (.aload_n 0, 1) := by decide +kernel
theorem dX12_part_68 : decode cX12_part 68 = .ok (.getfield 51, 3) := by decide +kernel
theorem dX12_part_71 : decode cX12_part 71 = .ok (.iload_n 1, 1) := by decide +kernel
theorem dX12_part_72 : decode cX12_part 72 = .ok (.iaload, 1) := by decide +kernel
theorem dX12_part_73 : decode cX12_part 73 = .ok (.putfield 245, 3) := by decide +kernel
theorem dX12_part_76 : decode cX12_part 76 = .ok (.aload_n 0, 1) := by decide +kernel
theorem dX12_part_77 : decode cX12_part 77 = .ok (.invokevirtual 239, 3) := by decide +kernel
theorem dX12_part_80 : decode cX12_part 80 = .ok (.iconst 0, 1) := by decide +kernel
theorem dX12_part_81 : decode cX12_part 81 = .ok (.istore_n 2, 1) := by decide +kernel
theorem dX12_part_82 : decode cX12_part 82 = .ok (.aload_n 0, 1) := by decide +kernel
theorem dX12_part_83 : decode cX12_part 83 = .ok (.getfield 54, 3) := by decide +kernel
theorem dX12_part_86 : decode cX12_part 86 = .ok (.iload_n 1, 1) := by decide +kernel
theorem dX12_part_87 : decode cX12_part 87 = .ok (.iaload, 1) := by decide +kernel
theorem dX12_part_88 : decode cX12_part 88 = .ok (.iconst 1, 1) := by decide +kernel
theorem dX12_part_89 : decode cX12_part 89 = .ok (.isub, 1) := by decide +kernel
theorem dX12_part_90 : decode cX12_part 90 = .ok (.istore_n 3, 1) := by decide +kernel
theorem dX12_part_91 : decode cX12_part 91 = .ok (.aload_n 0, 1) := by decide +kernel
theorem dX12_part_92 : decode cX12_part 92 = .ok (.iconst 2, 1) := by decide +kernel
theorem dX12_part_93 : decode cX12_part 93 = .ok (.invokevirtual 236, 3) := by decide +kernel
theorem dX12_part_96 : decode cX12_part 96 = .ok (.ifCond .eq 123, 3) := by decide +kernel
theorem dX12_part_99 : decode cX12_part 99 = .ok (.aload_n 0, 1) := by decide +kernel
theorem dX12_part_100 : decode cX12_part 100 = .ok (.invokevirtual 239, 3) := by decide +kernel
theorem dX12_part_103 : decode cX12_part 103 = .ok (.aload_n 0, 1) := by decide +kernel
theorem dX12_part_104 : decode cX12_part 104 = .ok (.iconst 0, 1) := by decide +kernel
theorem dX12_part_105 : decode cX12_part 105 = .ok (.bipush 99, 2) := by decide +kernel
theorem dX12_part_107 : decode cX12_part 107 = .ok (.invokevirtual 257, 3) := by decide +kernel
theorem dX12_part_110 : decode cX12_part 110 = .ok (.ifCond .ne 4, 3) := by decide +kernel
theorem dX12_part_113 : decode cX12_part 113 = .ok (.return_, 1) := by decide +kernel
theorem dX12_part_114 : decode cX12_part 114 = .ok (.aload_n 0, 1) := by decide +kernel
theorem dX12_part_115 : decode cX12_part 115 = .ok (.getfield 210, 3) := by decide +kernel
theorem dX12_part_118 : decode cX12_part 118 = .ok (.istore_n 2, 1) := by decide +kernel
theorem dX12_part_119 : decode cX12_part 119 = .ok (.iload_n 2, 1) := by decide +kernel
theorem dX12_part_120 : decode cX12_part 120 = .ok (.aload_n 0, 1) := by decide +kernel
theorem dX12_part_121 : decode cX12_part 121 = .ok (.getfield 54, 3) := by decide +kernel
theorem dX12_part_124 : decode cX12_part 124 = .ok (.iload_n 1, 1) := by decide +kernel
theorem dX12_part_125 : decode cX12_part 125 = .ok (.iaload, 1) := by decide +kernel
theorem dX12_part_126 : decode cX12_part 126 = .ok (.if_icmp .lt 8, 3) := by decide +kernel
theorem dX12_part_129 : decode cX12_part 129 = .ok (.aload_n 0, 1) := by decide +kernel
theorem dX12_part_130 : decode cX12_part 130 = .ok (.iconst 3, 1) := by decide +kernel
theorem dX12_part_131 : decode cX12_part 131 = .ok (.invokevirtual 232, 3) := by decide +kernel
theorem dX12_part_134 : decode cX12_part 134 = .ok (.aload_n 0, 1) := by decide +kernel
theorem dX12_part_135 : decode cX12_part 135 = .ok (.getfield 226, 3) := by decide +kernel
theorem dX12_part_138 : decode cX12_part 138 = .ok (.ifCond .eq 4, 3) := by decide +kernel
theorem dX12_part_141 : decode cX12_part 141 = .ok (.return_, 1) := by decide +kernel
theorem dX12_part_142 : decode cX12_part 142 = .ok (.aload_n 0, 1) := by decide +kernel
theorem dX12_part_143 : decode cX12_part 143 = .ok (.invokevirtual 239, 3) := by decide +kernel
theorem dX12_part_146 : decode cX12_part 146 = .ok (.aload_n 0, 1) := by decide +kernel
theorem dX12_part_147 : decode cX12_part 147 = .ok (.iconst 3, 1) := by decide +kernel
theorem dX12_part_148 : decode cX12_part 148 = .ok (.invokevirtual 236, 3) := by decide +kernel
theorem dX12_part_151 : decode cX12_part 151 = .ok (.ifCond .ne 8, 3) := by decide +kernel
theorem dX12_part_154 : decode cX12_part 154 = .ok (.aload_n 0, 1) := by decide +kernel
theorem dX12_part_155 : decode cX12_part 155 = .ok (.iconst 1, 1) := by decide +kernel
theorem dX12_part_156 : decode cX12_part 156 = .ok (.invokevirtual 232, 3) := by decide +kernel
theorem dX12_part_159 : decode cX12_part 159 = .ok (.aload_n 0, 1) := by decide +kernel
theorem dX12_part_160 : decode cX12_part 160 = .ok (.getfield 226, 3) := by decide +kernel
theorem dX12_part_163 : decode cX12_part 163 = .ok (.ifCond .eq 4, 3) := by decide +kernel
theorem dX12_part_166 : decode cX12_part 166 = .ok (.return_, 1) := by decide +kernel
theorem dX12_part_167 : decode cX12_part 167 = .ok (.aload_n 0, 1) := by decide +kernel
theorem dX12_part_168 : decode cX12_part 168 = .ok (.invokevirtual 239, 3) := by decide +kernel
theorem dX12_part_171 : decode cX12_part 171 = .ok (.aload_n 0, 1) := by decide +kernel
theorem dX12_part_172 : decode cX12_part 172 = .ok (.iconst 0, 1) := by decide +kernel
theorem dX12_part_173 : decode cX12_part 173 = .ok (.bipush 99, 2) := by decide +kernel
theorem dX12_part_175 : decode cX12_part 175 = .ok (.invokevirtual 257, 3) := by decide +kernel
theorem dX12_part_178 : decode cX12_part 178 = .ok (.ifCond .ne 4, 3) := by decide +kernel
theorem dX12_part_181 : decode cX12_part 181 = .ok (.return_, 1) := by decide +kernel
theorem dX12_part_182 : decode cX12_part 182 = .ok (.aload_n 0, 1) := by decide +kernel
theorem dX12_part_183 : decode cX12_part 183 = .ok (.getfield 210, 3) := by decide +kernel
theorem dX12_part_186 : decode cX12_part 186 = .ok (.istore_n 3, 1) := by decide +kernel
theorem dX12_part_187 : decode cX12_part 187 = .ok (.iload_n 3, 1) := by decide +kernel
theorem dX12_part_188 : decode cX12_part 188 = .ok (.aload_n 0, 1) := by decide +kernel
theorem dX12_part_189 : decode cX12_part 189 = .ok (.getfield 54, 3) := by decide +kernel
theorem dX12_part_192 : decode cX12_part 192 = .ok (.iload_n 1, 1) := by decide +kernel
theorem dX12_part_193 : decode cX12_part 193 = .ok (.iaload, 1) := by decide +kernel
theorem dX12_part_194 : decode cX12_part 194 = .ok (.if_icmp .ge 8, 3) := by decide +kernel
theorem dX12_part_197 : decode cX12_part 197 = .ok (.iload_n 3, 1) := by decide +kernel
theorem dX12_part_198 : decode cX12_part 198 = .ok (.iload_n 2, 1) := by decide +kernel
theorem dX12_part_199 : decode cX12_part 199 = .ok (.if_icmp .ge 8, 3) := by decide +kernel
theorem dX12_part_202 : decode cX12_part 202 = .ok (.aload_n 0, 1) := by decide +kernel
theorem dX12_part_203 : decode cX12_part 203 = .ok (.iconst 3, 1) := by decide +kernel
theorem dX12_part_204 : decode cX12_part 204 = .ok (.invokevirtual 232, 3) := by decide +kernel
theorem dX12_part_207 : decode cX12_part 207 = .ok (.aload_n 0, 1) := by decide +kernel
theorem dX12_part_208 : decode cX12_part 208 = .ok (.getfield 226, 3) := by decide +kernel
theorem dX12_part_211 : decode cX12_part 211 = .ok (.ifCond .eq 4, 3) := by decide +kernel
theorem dX12_part_214 : decode cX12_part 214 = .ok (.return_, 1) := by decide +kernel
theorem dX12_part_215 : decode cX12_part 215 = .ok (.aload_n 0, 1) := by decide +kernel
theorem dX12_part_216 : decode cX12_part 216 = .ok (.invokevirtual 239, 3) := by decide +kernel
theorem dX12_part_219 : decode cX12_part 219 = .ok (.aload_n 0, 1) := by decide +kernel
theorem dX12_part_220 : decode cX12_part 220 = .ok (.iconst 0, 1) := by decide +kernel
theorem dX12_part_221 : decode cX12_part 221 = .ok (.putfield 260, 3) := by decide +kernel
theorem dX12_part_224 : decode cX12_part 224 = .ok (.iload_n 2, 1) := by decide +kernel
theorem dX12_part_225 : decode cX12_part 225 = .ok (.istore 4, 2) := by decide +kernel
theorem dX12_part_227 : decode cX12_part 227 = .ok (.iload 4, 2) := by decide +kernel
theorem dX12_part_229 : decode cX12_part 229 = .ok (.iload_n 3, 1) := by decide +kernel
theorem dX12_part_230 : decode cX12_part 230 = .ok (.if_icmp .gt 61, 3) := by decide +kernel
theorem dX12_part_233 : decode cX12_part 233 = .ok (.aload_n 0, 1) := by decide +kernel
theorem dX12_part_234 : decode cX12_part 234 = .ok (.getfield 67, 3) := by decide +kernel
theorem dX12_part_237 : decode cX12_part 237 = .ok (.aload_n 0, 1) := by decide +kernel
theorem dX12_part_238 : decode cX12_part 238 = .ok (.getfield 260, 3) := by decide +kernel
theorem dX12_part_241 : decode cX12_part 241 = .ok (.aload_n 0, 1) := by decide +kernel
theorem dX12_part_242 : decode cX12_part 242 = .ok (.getfield 57, 3) := by decide +kernel
theorem dX12_part_245 : decode cX12_part 245 = .ok (.bipush 40, 2) := by decide +kernel
theorem dX12_part_247 : decode cX12_part 247 = .ok (.iload_n 1, 1) := by decide +kernel
theorem dX12_part_248 : decode cX12_part 248 = .ok (.imul, 1) := by decide +kernel
theorem dX12_part_249 : decode cX12_part 249 = .ok (.iload 4, 2) := by decide +kernel
theorem dX12_part_251 : decode cX12_part 251 = .ok (.iadd, 1) := by decide +kernel
theorem dX12_part_252 : decode cX12_part 252 = .ok (.iaload, 1) := by decide +kernel
theorem dX12_part_253 : decode cX12_part 253 = .ok (.iastore, 1) := by decide +kernel
theorem dX12_part_254 : decode cX12_part 254 = .ok (.aload_n 0, 1) := by decide +kernel
theorem dX12_part_255 : decode cX12_part 255 = .ok (.getfield 70, 3) := by decide +kernel
theorem dX12_part_258 : decode cX12_part 258 = .ok (.aload_n 0, 1) := by decide +kernel
theorem dX12_part_259 : decode cX12_part 259 = .ok (.getfield 260, 3) := by decide +kernel
theorem dX12_part_262 : decode cX12_part 262 = .ok (.aload_n 0, 1) := by decide +kernel
theorem dX12_part_263 : decode cX12_part 263 = .ok (.getfield 60, 3) := by decide +kernel
theorem dX12_part_266 : decode cX12_part 266 = .ok (.bipush 40, 2) := by decide +kernel
theorem dX12_part_268 : decode cX12_part 268 = .ok (.iload_n 1, 1) := by decide +kernel
theorem dX12_part_269 : decode cX12_part 269 = .ok (.imul, 1) := by decide +kernel
theorem dX12_part_270 : decode cX12_part 270 = .ok (.iload 4, 2) := by decide +kernel
theorem dX12_part_272 : decode cX12_part 272 = .ok (.iadd, 1) := by decide +kernel
theorem dX12_part_273 : decode cX12_part 273 = .ok (.iaload, 1) := by decide +kernel
theorem dX12_part_274 : decode cX12_part 274 = .ok (.iastore, 1) := by decide +kernel
theorem dX12_part_275 : decode cX12_part 275 = .ok (.aload_n 0, 1) := by decide +kernel
theorem dX12_part_276 : decode cX12_part 276 = .ok (.dup, 1) := by decide +kernel
theorem dX12_part_277 : decode cX12_part 277 = .ok (.getfield 260, 3) := by decide +kernel
theorem dX12_part_280 : decode cX12_part 280 = .ok (.iconst 1, 1) := by decide +kernel
theorem dX12_part_281 : decode cX12_part 281 = .ok (.iadd, 1) := by decide +kernel
theorem dX12_part_282 : decode cX12_part 282 = .ok (.putfield 260, 3) := by decide +kernel
theorem dX12_part_285 : decode cX12_part 285 = .ok (.iinc 4 1, 3) := by decide +kernel
theorem dX12_part_288 : decode cX12_part 288 = .ok (.goto (-61), 3) := by decide +kernel
theorem dX12_part_291 : decode cX12_part 291 = .ok (.aload_n 0, 1) := by decide +kernel
theorem dX12_part_292 : decode cX12_part 292 = .ok (.iconst 4, 1) := by decide +kernel
theorem dX12_part_293 : decode cX12_part 293 = .ok (.invokevirtual 236, 3) := by decide +kernel
theorem dX12_part_296 : decode cX12_part 296 = .ok (.ifCond .ne 20, 3) := by decide +kernel
theorem dX12_part_299 : decode cX12_part 299 = .ok (.aload_n 0, 1) := by decide +kernel
theorem dX12_part_300 : decode cX12_part 300 = .ok (.iconst 5, 1) := by decide +kernel
theorem dX12_part_301 : decode cX12_part 301 = .ok (.invokevirtual 236, 3) := by decide +kernel
theorem dX12_part_304 : decode cX12_part 304 = .ok (.ifCond .ne 12, 3) := by decide +kernel
theorem dX12_part_307 : decode cX12_part 307 = .ok (.aload_n 0, 1) := by decide +kernel
theorem dX12_part_308 : decode cX12_part 308 = .ok (.bipush 6, 2) := by decide +kernel
theorem dX12_part_310 : decode cX12_part 310 = .ok (.invokevirtual 236, 3) := by decide +kernel
theorem dX12_part_313 : decode cX12_part 313 = .ok (.ifCond .eq 10, 3) := by decide +kernel
theorem dX12_part_316 : decode cX12_part 316 = .ok (.aload_n 0, 1) := by decide +kernel
theorem dX12_part_317 : decode cX12_part 317 = .ok (.invokevirtual 263, 3) := by decide +kernel
theorem dX12_part_320 : decode cX12_part 320 = .ok (.goto (-29), 3) := by decide +kernel
theorem dX12_part_323 : decode cX12_part 323 = .ok (.return_, 1) := by decide +kernel
theorem dX12_changes_0 : decode cX12_changes 0 = .ok (.aload_n 0, 1) := by decide +kernel
theorem dX12_changes_1 : decode cX12_changes 1 = .ok (.getfield 210, 3) := by decide +kernel
theorem dX12_changes_4 : decode cX12_changes 4 = .ok (.istore_n 1, 1) := by decide +kernel
theorem dX12_changes_5 : decode cX12_changes 5 = .ok (.aload_n 0, 1) := by decide +kernel
theorem dX12_changes_6 : decode cX12_changes 6 = .ok (.invokevirtual 239, 3) := by decide +kernel
theorem dX12_changes_9 : decode cX12_changes 9 = .ok (.iload_n 1, 1) := by decide +kernel
theorem dX12_changes_10 : decode cX12_changes 10 = .ok (.iconst 5, 1) := by decide +kernel
theorem dX12_changes_11 : decode cX12_changes 11 = .ok (.if_icmp .ne 26, 3) := by decide +kernel
theorem dX12_changes_14 : decode cX12_changes 14 = .ok (.aload_n 0, 1) := by decide +kernel
theorem dX12_changes_15 : decode cX12_changes 15 = .ok (.iconst 1, 1) := by decide +kernel
theorem dX12_changes_16 : decode cX12_changes 16 = .ok (.bipush 9, 2) := by decide +kernel
theorem dX12_changes_18 : decode cX12_changes 18 = .ok (.invokevirtual 257, 3) := by decide +kernel
theorem dX12_changes_21 : decode cX12_changes 21 = .ok (.ifCond .ne 4, 3) := by decide +kernel
theorem dX12_changes_24 : decode cX12_changes 24 = .ok (.return_, 1) := by decide +kernel
theorem dX12_changes_25 : decode cX12_changes 25 = .ok (.aload_n 0, 1) := by decide +kernel
theorem dX12_changes_26 : decode cX12_changes 26 = .ok (.aload_n 0, 1) := by decide +kernel
theorem dX12_changes_27 : decode cX12_changes 27 = .ok (.getfield 210, 3) := by decide +kernel
theorem dX12_changes_30 : decode cX12_changes 30 = .ok (.invokevirtual 266, 3) := by decide +kernel
theorem dX12_changes_33 : decode cX12_changes 33 = .ok (.aload_n 0, 1) := by decide +kernel
theorem dX12_changes_34 : decode cX12_changes 34 = .ok (.invokevirtual 239, 3) := by decide +kernel
theorem dX12_changes_37 : decode cX12_changes 37 = .ok (.iconst 0, 1) := by decide +kernel
theorem dX12_changes_38 : decode cX12_changes 38 = .ok (.istore_n 2, 1) := by decide +kernel
theorem dX12_changes_39 : decode cX12_changes 39 = .ok (.iload_n 2, 1) := by decide +kernel
theorem dX12_changes_40 : decode cX12_changes 40 = .ok (.aload_n 0, 1) := by decide +kernel
theorem dX12_changes_41 : decode cX12_changes 41 = .ok (.getfield 260, 3) := by decide +kernel
theorem dX12_changes_44 : decode cX12_changes 44 = .ok (.if_icmp .ge 22, 3) := by decide +kernel
theorem dX12_changes_47 : decode cX12_changes 47 = .ok (.iload_n 1, 1) := by decide +kernel
theorem dX12_changes_48 : decode cX12_changes 48 = .ok (.bipush 6, 2) := by decide +kernel
theorem dX12_changes_50 : decode cX12_changes 50 = .ok (.if_icmp .ne 16, 3) := by decide +kernel
theorem dX12_changes_53 : decode cX12_changes 53 = .ok (.aload_n 0, 1) := by decide +kernel
theorem dX12_changes_54 : decode cX12_changes 54 = .ok (.getfield 70, 3) := by decide +kernel
theorem dX12_changes_57 : decode cX12_changes 57 = .ok (.iload_n 2, 1) := by decide +kernel
theorem dX12_changes_58 : decode cX12_changes 58 = .ok (.iconst 0, 1) := by decide +kernel
theorem dX12_changes_59 : decode cX12_changes 59 = .ok (.iastore, 1) := by decide +kernel
theorem dX12_changes_60 : decode cX12_changes 60 = .ok (.iinc 2 1, 3) := by decide +kernel
theorem dX12_changes_63 : decode cX12_changes 63 = .ok (.goto (-24), 3) := by decide +kernel
theorem dX12_changes_66 : decode cX12_changes 66 = .ok (.iconst 0, 1) := by decide +kernel
theorem dX12_changes_67 : decode cX12_changes 67 = .ok (.istore_n 2, 1) := by decide +kernel
theorem dX12_changes_68 : decode cX12_changes 68 = .ok (.iload_n 2, 1) := by decide +kernel
theorem dX12_changes_69 : decode cX12_changes 69 = .ok (.aload_n 0, 1) := by decide +kernel
theorem dX12_changes_70 : decode cX12_changes 70 = .ok (.getfield 260, 3) := by decide +kernel
theorem dX12_changes_73 : decode cX12_changes 73 = .ok (.iconst 2, 1) := by decide +kernel
theorem dX12_changes_74 : decode cX12_changes 74 = .ok (.idiv, 1) := by decide +kernel
theorem dX12_changes_75 : decode cX12_changes 75 = .ok (.if_icmp .ge 79, 3) := by decide +kernel
theorem dX12_changes_78 : decode cX12_changes 78 = .ok (.iload_n 1, 1) := by decide +kernel
theorem dX12_changes_79 : decode cX12_changes 79 = .ok (.iconst 4, 1) := by decide +kernel
theorem dX12_changes_80 : decode cX12_changes 80 = .ok (.if_icmp .ne 74, 3) := by decide +kernel
theorem dX12_changes_83 : decode cX12_changes 83 = .ok (.aload_n 0, 1) := by decide +kernel
theorem dX12_changes_84 : decode cX12_changes 84 = .ok (.getfield 260, 3) := by decide +kernel
theorem dX12_changes_87 : decode cX12_changes 87 = .ok (.iconst 1, 1) := by decide +kernel
theorem dX12_changes_88 : decode cX12_changes 88 = .ok (.isub, 1) := by decide +kernel
theorem dX12_changes_89 : decode cX12_changes 89 = .ok (.iload_n 2, 1) := by decide +kernel
theorem dX12_changes_90 : decode cX12_changes 90 = .ok (.isub, 1) := by decide +kernel
theorem dX12_changes_91 : decode cX12_changes 91 = .ok (.istore_n 3, 1) := by decide +kernel
theorem dX12_changes_92 : decode cX12_changes 92 = .ok (.aload_n 0, 1) := by decide +kernel
theorem dX12_changes_93 : decode cX12_changes 93 = .ok (.getfield 67, 3) := by decide +kernel
theorem dX12_changes_96 : decode cX12_changes 96 = .ok (.iload_n 2, 1) := by decide +kernel
theorem dX12_changes_97 : decode cX12_changes 97 = .ok (.iaload, 1) := by decide +kernel
theorem dX12_changes_98 : decode cX12_changes 98 = .ok (.istore 4, 2) := by decide +kernel
theorem dX12_changes_100 : decode cX12_changes 100 = .ok (.aload_n 0, 1) := by decide +kernel
theorem dX12_changes_101 : decode cX12_changes 101 = .ok (.getfield 70, 3) := by decide +kernel
theorem dX12_changes_104 : decode cX12_changes 104 = .ok (.iload_n 2, 1) := by decide +kernel
theorem dX12_changes_105 : decode cX12_changes 105 = .ok (.iaload, 1) := by decide +kernel
theorem dX12_changes_106 : decode cX12_changes 106 = .ok (.istore 5, 2) := by decide +kernel
theorem dX12_changes_108 : decode cX12_changes 108 = .ok (.aload_n 0, 1) := by decide +kernel
theorem dX12_changes_109 : decode cX12_changes 109 = .ok (.getfield 67, 3) := by decide +kernel
theorem dX12_changes_112 : decode cX12_changes 112 = .ok (.iload_n 2, 1) := by decide +kernel
theorem dX12_changes_113 : decode cX12_changes 113 = .ok (.aload_n 0, 1) := by decide +kernel
theorem dX12_changes_114 : decode cX12_changes 114 = .ok (.getfield 67, 3) := by decide +kernel
theorem dX12_changes_117 : decode cX12_changes 117 = .ok (.iload_n 3, 1) := by decide +kernel
theorem dX12_changes_118 : decode cX12_changes 118 = .ok (.iaload, 1) := by decide +kernel
theorem dX12_changes_119 : decode cX12_changes 119 = .ok (.iastore, 1) := by decide +kernel
theorem dX12_changes_120 : decode cX12_changes 120 = .ok (.aload_n 0, 1) := by decide +kernel
theorem dX12_changes_121 : decode cX12_changes 121 = .ok (.getfield 70, 3) := by decide +kernel
theorem dX12_changes_124 : decode cX12_changes 124 = .ok (.iload_n 2, 1) := by decide +kernel
theorem dX12_changes_125 : decode cX12_changes 125 = .ok (.aload_n 0, 1) := by decide +kernel
theorem dX12_changes_126 : decode cX12_changes 126 = .ok (.getfield 70, 3) := by decide +kernel
theorem dX12_changes_129 : decode cX12_changes 129 = .ok (.iload_n 3, 1) := by decide +kernel
theorem dX12_changes_130 : decode cX12_changes 130 = .ok (.iaload, 1) := by decide +kernel
theorem dX12_changes_131 : decode cX12_changes 131 = .ok (.iastore, 1) := by decide +kernel
theorem dX12_changes_132 : decode cX12_changes 132 = .ok (.aload_n 0, 1) := by decide +kernel
theorem dX12_changes_133 : decode cX12_changes 133 = .ok (.getfield 67, 3) := by decide +kernel
theorem dX12_changes_136 : decode cX12_changes 136 = .ok (.iload_n 3, 1) := by decide +kernel
theorem dX12_changes_137 : decode cX12_changes 137 = .ok (.iload 4, 2) := by decide +kernel
theorem dX12_changes_139 : decode cX12_changes 139 = .ok (.iastore, 1) := by decide +kernel
theorem dX12_changes_140 : decode cX12_changes 140 = .ok (.aload_n 0, 1) := by decide +kernel
theorem dX12_changes_141 : decode cX12_changes 141 = .ok (.getfield 70, 3) := by decide +kernel
theorem dX12_changes_144 : decode cX12_changes 144 = .ok (.iload_n 3, 1) := by decide +kernel
theorem dX12_changes_145 : decode cX12_changes 145 = .ok (.iload 5, 2) := by decide +kernel
theorem dX12_changes_147 : decode cX12_changes 147 = .ok (.iastore, 1) := by decide +kernel
theorem dX12_changes_148 : decode cX12_changes 148 = .ok (.iinc 2 1, 3) := by decide +kernel
theorem dX12_changes_151 : decode cX12_changes 151 = .ok (.goto (-83), 3) := by decide +kernel
theorem dX12_changes_154 : decode cX12_changes 154 = .ok (.return_, 1) := by decide +kernel
theorem dX12_slows_0 : decode cX12_slows 0 = .ok (.bipush 41, 2) := by decide +kernel
theorem dX12_slows_2 : decode cX12_slows 2 = .ok (.aload_n 0, 1) := by decide +kernel
theorem dX12_slows_3 : decode cX12_slows 3 = .ok (.getfield 260, 3) := by decide +kernel
theorem dX12_slows_6 : decode cX12_slows 6 = .ok (.iload_n 1, 1) := by decide +kernel
theorem dX12_slows_7 : decode cX12_slows 7 = .ok (.imul, 1) := by decide +kernel
theorem dX12_slows_8 : decode cX12_slows 8 = .ok (.invokestatic 269, 3) := by decide +kernel
theorem dX12_slows_11 : decode cX12_slows 11 = .ok (.istore_n 2, 1) := by decide +kernel
theorem dX12_slows_12 : decode cX12_slows 12 = .ok (.iload_n 2, 1) := by decide +kernel
theorem dX12_slows_13 : decode cX12_slows 13 = .ok (.iconst 1, 1) := by decide +kernel
theorem dX12_slows_14 : decode cX12_slows 14 = .ok (.isub, 1) := by decide +kernel
theorem dX12_slows_15 : decode cX12_slows 15 = .ok (.istore_n 3, 1) := by decide +kernel
theorem dX12_slows_16 : decode cX12_slows 16 = .ok (.iload_n 3, 1) := by decide +kernel
theorem dX12_slows_17 : decode cX12_slows 17 = .ok (.ifCond .lt 37, 3) := by decide +kernel
theorem dX12_slows_20 : decode cX12_slows 20 = .ok (.aload_n 0, 1) := by decide +kernel
theorem dX12_slows_21 : decode cX12_slows 21 = .ok (.getfield 67, 3) := by decide +kernel
theorem dX12_slows_24 : decode cX12_slows 24 = .ok (.iload_n 3, 1) := by decide +kernel
theorem dX12_slows_25 : decode cX12_slows 25 = .ok (.aload_n 0, 1) := by decide +kernel
theorem dX12_slows_26 : decode cX12_slows 26 = .ok (.getfield 67, 3) := by decide +kernel
theorem dX12_slows_29 : decode cX12_slows 29 = .ok (.iload_n 3, 1) := by decide +kernel
theorem dX12_slows_30 : decode cX12_slows 30 = .ok (.iload_n 1, 1) := by decide +kernel
theorem dX12_slows_31 : decode cX12_slows 31 = .ok (.idiv, 1) := by decide +kernel
theorem dX12_slows_32 : decode cX12_slows 32 = .ok (.iaload, 1) := by decide +kernel
theorem dX12_slows_33 : decode cX12_slows 33 = .ok (.iastore, 1) := by decide +kernel
theorem dX12_slows_34 : decode cX12_slows 34 = .ok (.aload_n 0, 1) := by decide +kernel
theorem dX12_slows_35 : decode cX12_slows 35 = .ok (.getfield 70, 3) := by decide +kernel
theorem dX12_slows_38 : decode cX12_slows 38 = .ok (.iload_n 3, 1) := by decide +kernel
theorem dX12_slows_39 : decode cX12_slows 39 = .ok (.aload_n 0, 1) := by decide +kernel
theorem dX12_slows_40 : decode cX12_slows 40 = .ok (.getfield 70, 3) := by decide +kernel
