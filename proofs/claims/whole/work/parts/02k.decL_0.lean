theorem dL_look_0 : decode cL_look 0 = .ok (.aload 4, 2) := by decide +kernel
theorem dL_look_2 : decode cL_look 2 = .ok (.iconst 0, 1) := by decide +kernel
theorem dL_look_3 : decode cL_look 3 = .ok (.aload_n 0, 1) := by decide +kernel
theorem dL_look_4 : decode cL_look 4 = .ok (.iload_n 1, 1) := by decide +kernel
theorem dL_look_5 : decode cL_look 5 = .ok (.iload_n 2, 1) := by decide +kernel
theorem dL_look_6 : decode cL_look 6 = .ok (.iload_n 3, 1) := by decide +kernel
theorem dL_look_7 : decode cL_look 7 = .ok (.invokevirtual 7, 3) := by decide +kernel
theorem dL_look_10 : decode cL_look 10 = .ok (.i2l, 1) := by decide +kernel
theorem dL_look_11 : decode cL_look 11 = .ok (.lastore, 1) := by decide +kernel
theorem dL_look_12 : decode cL_look 12 = .ok (.goto 11, 3) := by decide +kernel
theorem dL_look_15 : decode cL_look 15 = .ok (.astore 5, 2) := by decide +kernel
theorem dL_look_17 : decode cL_look 17 = .ok (.iconst 1, 1) := by decide +kernel
theorem dL_look_18 : decode cL_look 18 = .ok (.ireturn, 1) := by decide +kernel
theorem dL_look_19 : decode cL_look 19 = .ok (.astore 5, 2) := by decide +kernel
theorem dL_look_21 : decode cL_look 21 = .ok (.iconst 2, 1) := by decide +kernel
theorem dL_look_22 : decode cL_look 22 = .ok (.ireturn, 1) := by decide +kernel
theorem dL_look_23 : decode cL_look 23 = .ok (.iconst 0, 1) := by decide +kernel
theorem dL_look_24 : decode cL_look 24 = .ok (.ireturn, 1) := by decide +kernel
theorem dL_law_0 : decode cL_law 0 = .ok (.new 8, 3) := by decide +kernel
theorem dL_law_3 : decode cL_law 3 = .ok (.dup, 1) := by decide +kernel
theorem dL_law_4 : decode cL_law 4 = .ok (.invokespecial 17, 3) := by decide +kernel
theorem dL_law_7 : decode cL_law 7 = .ok (.astore_n 1, 1) := by decide +kernel
theorem dL_law_8 : decode cL_law 8 = .ok (.new 18, 3) := by decide +kernel
theorem dL_law_11 : decode cL_law 11 = .ok (.dup, 1) := by decide +kernel
theorem dL_law_12 : decode cL_law 12 = .ok (.invokespecial 20, 3) := by decide +kernel
theorem dL_law_15 : decode cL_law 15 = .ok (.astore_n 2, 1) := by decide +kernel
theorem dL_law_16 : decode cL_law 16 = .ok (.iconst 1, 1) := by decide +kernel
theorem dL_law_17 : decode cL_law 17 = .ok (.newarray .long, 2) := by decide +kernel
theorem dL_law_19 : decode cL_law 19 = .ok (.astore_n 3, 1) := by decide +kernel
theorem dL_law_20 : decode cL_law 20 = .ok (.iconst 0, 1) := by decide +kernel
theorem dL_law_21 : decode cL_law 21 = .ok (.istore 4, 2) := by decide +kernel
theorem dL_law_23 : decode cL_law 23 = .ok (.iload 4, 2) := by decide +kernel
theorem dL_law_25 : decode cL_law 25 = .ok (.aload_n 0, 1) := by decide +kernel
theorem dL_law_26 : decode cL_law 26 = .ok (.arraylength, 1) := by decide +kernel
theorem dL_law_27 : decode cL_law 27 = .ok (.bipush 6, 2) := by decide +kernel
theorem dL_law_29 : decode cL_law 29 = .ok (.isub, 1) := by decide +kernel
theorem dL_law_30 : decode cL_law 30 = .ok (.if_icmp .gt 1350, 3) := by decide +kernel
theorem dL_law_33 : decode cL_law 33 = .ok (.aload_n 0, 1) := by decide +kernel
theorem dL_law_34 : decode cL_law 34 = .ok (.iload 4, 2) := by decide +kernel
theorem dL_law_36 : decode cL_law 36 = .ok (.iaload, 1) := by decide +kernel
theorem dL_law_37 : decode cL_law 37 = .ok (.bipush 31, 2) := by decide +kernel
theorem dL_law_39 : decode cL_law 39 = .ok (.iand, 1) := by decide +kernel
theorem dL_law_40 : decode cL_law 40 = .ok (.tableswitch 1334 0 26 #[124, 197, 222, 247, 284, 357, 418, 467, 492, 541, 621, 658, 707, 732, 805, 842, 855, 916, 929, 942, 979, 1004, 1053, 1126, 1187, 1260, 1309], 124) := by decide +kernel
theorem dL_law_164 : decode cL_law 164 = .ok (.aload_n 1, 1) := by decide +kernel
theorem dL_law_165 : decode cL_law 165 = .ok (.aload_n 0, 1) := by decide +kernel
theorem dL_law_166 : decode cL_law 166 = .ok (.iload 4, 2) := by decide +kernel
theorem dL_law_168 : decode cL_law 168 = .ok (.iconst 1, 1) := by decide +kernel
theorem dL_law_169 : decode cL_law 169 = .ok (.iadd, 1) := by decide +kernel
theorem dL_law_170 : decode cL_law 170 = .ok (.iaload, 1) := by decide +kernel
theorem dL_law_171 : decode cL_law 171 = .ok (.aload_n 0, 1) := by decide +kernel
theorem dL_law_172 : decode cL_law 172 = .ok (.iload 4, 2) := by decide +kernel
theorem dL_law_174 : decode cL_law 174 = .ok (.iconst 2, 1) := by decide +kernel
theorem dL_law_175 : decode cL_law 175 = .ok (.iadd, 1) := by decide +kernel
theorem dL_law_176 : decode cL_law 176 = .ok (.iaload, 1) := by decide +kernel
theorem dL_law_177 : decode cL_law 177 = .ok (.aload_n 0, 1) := by decide +kernel
theorem dL_law_178 : decode cL_law 178 = .ok (.iload 4, 2) := by decide +kernel
theorem dL_law_180 : decode cL_law 180 = .ok (.iconst 3, 1) := by decide +kernel
theorem dL_law_181 : decode cL_law 181 = .ok (.iadd, 1) := by decide +kernel
theorem dL_law_182 : decode cL_law 182 = .ok (.iaload, 1) := by decide +kernel
theorem dL_law_183 : decode cL_law 183 = .ok (.aload_n 0, 1) := by decide +kernel
theorem dL_law_184 : decode cL_law 184 = .ok (.iload 4, 2) := by decide +kernel
theorem dL_law_186 : decode cL_law 186 = .ok (.iconst 4, 1) := by decide +kernel
theorem dL_law_187 : decode cL_law 187 = .ok (.iadd, 1) := by decide +kernel
theorem dL_law_188 : decode cL_law 188 = .ok (.iaload, 1) := by decide +kernel
theorem dL_law_189 : decode cL_law 189 = .ok (.aload_n 0, 1) := by decide +kernel
theorem dL_law_190 : decode cL_law 190 = .ok (.iload 4, 2) := by decide +kernel
theorem dL_law_192 : decode cL_law 192 = .ok (.iconst 5, 1) := by decide +kernel
theorem dL_law_193 : decode cL_law 193 = .ok (.iadd, 1) := by decide +kernel
theorem dL_law_194 : decode cL_law 194 = .ok (.iaload, 1) := by decide +kernel
theorem dL_law_195 : decode cL_law 195 = .ok (.invokevirtual 21, 3) := by decide +kernel
theorem dL_law_198 : decode cL_law 198 = .ok (.aload_n 2, 1) := by decide +kernel
theorem dL_law_199 : decode cL_law 199 = .ok (.aload_n 0, 1) := by decide +kernel
theorem dL_law_200 : decode cL_law 200 = .ok (.iload 4, 2) := by decide +kernel
theorem dL_law_202 : decode cL_law 202 = .ok (.iconst 1, 1) := by decide +kernel
theorem dL_law_203 : decode cL_law 203 = .ok (.iadd, 1) := by decide +kernel
theorem dL_law_204 : decode cL_law 204 = .ok (.iaload, 1) := by decide +kernel
theorem dL_law_205 : decode cL_law 205 = .ok (.aload_n 0, 1) := by decide +kernel
theorem dL_law_206 : decode cL_law 206 = .ok (.iload 4, 2) := by decide +kernel
theorem dL_law_208 : decode cL_law 208 = .ok (.iconst 2, 1) := by decide +kernel
theorem dL_law_209 : decode cL_law 209 = .ok (.iadd, 1) := by decide +kernel
theorem dL_law_210 : decode cL_law 210 = .ok (.iaload, 1) := by decide +kernel
theorem dL_law_211 : decode cL_law 211 = .ok (.aload_n 0, 1) := by decide +kernel
theorem dL_law_212 : decode cL_law 212 = .ok (.iload 4, 2) := by decide +kernel
theorem dL_law_214 : decode cL_law 214 = .ok (.iconst 3, 1) := by decide +kernel
theorem dL_law_215 : decode cL_law 215 = .ok (.iadd, 1) := by decide +kernel
theorem dL_law_216 : decode cL_law 216 = .ok (.iaload, 1) := by decide +kernel
theorem dL_law_217 : decode cL_law 217 = .ok (.aload_n 0, 1) := by decide +kernel
theorem dL_law_218 : decode cL_law 218 = .ok (.iload 4, 2) := by decide +kernel
theorem dL_law_220 : decode cL_law 220 = .ok (.iconst 4, 1) := by decide +kernel
theorem dL_law_221 : decode cL_law 221 = .ok (.iadd, 1) := by decide +kernel
theorem dL_law_222 : decode cL_law 222 = .ok (.iaload, 1) := by decide +kernel
theorem dL_law_223 : decode cL_law 223 = .ok (.aload_n 0, 1) := by decide +kernel
theorem dL_law_224 : decode cL_law 224 = .ok (.iload 4, 2) := by decide +kernel
theorem dL_law_226 : decode cL_law 226 = .ok (.iconst 5, 1) := by decide +kernel
theorem dL_law_227 : decode cL_law 227 = .ok (.iadd, 1) := by decide +kernel
theorem dL_law_228 : decode cL_law 228 = .ok (.iaload, 1) := by decide +kernel
theorem dL_law_229 : decode cL_law 229 = .ok (.invokevirtual 25, 3) := by decide +kernel
theorem dL_law_232 : decode cL_law 232 = .ok (.if_icmp .eq 1142, 3) := by decide +kernel
theorem dL_law_235 : decode cL_law 235 = .ok (.iconst 0, 1) := by decide +kernel
theorem dL_law_236 : decode cL_law 236 = .ok (.ireturn, 1) := by decide +kernel
theorem dL_law_237 : decode cL_law 237 = .ok (.aload_n 1, 1) := by decide +kernel
theorem dL_law_238 : decode cL_law 238 = .ok (.aload_n 0, 1) := by decide +kernel
theorem dL_law_239 : decode cL_law 239 = .ok (.iload 4, 2) := by decide +kernel
theorem dL_law_241 : decode cL_law 241 = .ok (.iconst 1, 1) := by decide +kernel
theorem dL_law_242 : decode cL_law 242 = .ok (.iadd, 1) := by decide +kernel
theorem dL_law_243 : decode cL_law 243 = .ok (.iaload, 1) := by decide +kernel
theorem dL_law_244 : decode cL_law 244 = .ok (.invokevirtual 26, 3) := by decide +kernel
theorem dL_law_247 : decode cL_law 247 = .ok (.aload_n 2, 1) := by decide +kernel
theorem dL_law_248 : decode cL_law 248 = .ok (.aload_n 0, 1) := by decide +kernel
theorem dL_law_249 : decode cL_law 249 = .ok (.iload 4, 2) := by decide +kernel
theorem dL_law_251 : decode cL_law 251 = .ok (.iconst 1, 1) := by decide +kernel
theorem dL_law_252 : decode cL_law 252 = .ok (.iadd, 1) := by decide +kernel
theorem dL_law_253 : decode cL_law 253 = .ok (.iaload, 1) := by decide +kernel
theorem dL_law_254 : decode cL_law 254 = .ok (.invokevirtual 30, 3) := by decide +kernel
theorem dL_law_257 : decode cL_law 257 = .ok (.if_icmp .eq 1117, 3) := by decide +kernel
theorem dL_law_260 : decode cL_law 260 = .ok (.iconst 0, 1) := by decide +kernel
theorem dL_law_261 : decode cL_law 261 = .ok (.ireturn, 1) := by decide +kernel
theorem dL_law_262 : decode cL_law 262 = .ok (.aload_n 1, 1) := by decide +kernel
theorem dL_law_263 : decode cL_law 263 = .ok (.aload_n 0, 1) := by decide +kernel
theorem dL_law_264 : decode cL_law 264 = .ok (.iload 4, 2) := by decide +kernel
theorem dL_law_266 : decode cL_law 266 = .ok (.iconst 1, 1) := by decide +kernel
theorem dL_law_267 : decode cL_law 267 = .ok (.iadd, 1) := by decide +kernel
theorem dL_law_268 : decode cL_law 268 = .ok (.iaload, 1) := by decide +kernel
theorem dL_law_269 : decode cL_law 269 = .ok (.invokevirtual 31, 3) := by decide +kernel
theorem dL_law_272 : decode cL_law 272 = .ok (.aload_n 2, 1) := by decide +kernel
theorem dL_law_273 : decode cL_law 273 = .ok (.aload_n 0, 1) := by decide +kernel
theorem dL_law_274 : decode cL_law 274 = .ok (.iload 4, 2) := by decide +kernel
theorem dL_law_276 : decode cL_law 276 = .ok (.iconst 1, 1) := by decide +kernel
theorem dL_law_277 : decode cL_law 277 = .ok (.iadd, 1) := by decide +kernel
theorem dL_law_278 : decode cL_law 278 = .ok (.iaload, 1) := by decide +kernel
theorem dL_law_279 : decode cL_law 279 = .ok (.invokevirtual 34, 3) := by decide +kernel
theorem dL_law_282 : decode cL_law 282 = .ok (.if_icmp .eq 1092, 3) := by decide +kernel
theorem dL_law_285 : decode cL_law 285 = .ok (.iconst 0, 1) := by decide +kernel
theorem dL_law_286 : decode cL_law 286 = .ok (.ireturn, 1) := by decide +kernel
theorem dL_law_287 : decode cL_law 287 = .ok (.aload_n 1, 1) := by decide +kernel
theorem dL_law_288 : decode cL_law 288 = .ok (.aload_n 0, 1) := by decide +kernel
theorem dL_law_289 : decode cL_law 289 = .ok (.iload 4, 2) := by decide +kernel
theorem dL_law_291 : decode cL_law 291 = .ok (.iconst 1, 1) := by decide +kernel
theorem dL_law_292 : decode cL_law 292 = .ok (.iadd, 1) := by decide +kernel
theorem dL_law_293 : decode cL_law 293 = .ok (.iaload, 1) := by decide +kernel
theorem dL_law_294 : decode cL_law 294 = .ok (.aload_n 0, 1) := by decide +kernel
theorem dL_law_295 : decode cL_law 295 = .ok (.iload 4, 2) := by decide +kernel
theorem dL_law_297 : decode cL_law 297 = .ok (.iconst 2, 1) := by decide +kernel
theorem dL_law_298 : decode cL_law 298 = .ok (.iadd, 1) := by decide +kernel
theorem dL_law_299 : decode cL_law 299 = .ok (.iaload, 1) := by decide +kernel
theorem dL_law_300 : decode cL_law 300 = .ok (.invokevirtual 35, 3) := by decide +kernel
theorem dL_law_303 : decode cL_law 303 = .ok (.aload_n 2, 1) := by decide +kernel
theorem dL_law_304 : decode cL_law 304 = .ok (.aload_n 0, 1) := by decide +kernel
theorem dL_law_305 : decode cL_law 305 = .ok (.iload 4, 2) := by decide +kernel
theorem dL_law_307 : decode cL_law 307 = .ok (.iconst 1, 1) := by decide +kernel
theorem dL_law_308 : decode cL_law 308 = .ok (.iadd, 1) := by decide +kernel
theorem dL_law_309 : decode cL_law 309 = .ok (.iaload, 1) := by decide +kernel
theorem dL_law_310 : decode cL_law 310 = .ok (.aload_n 0, 1) := by decide +kernel
theorem dL_law_311 : decode cL_law 311 = .ok (.iload 4, 2) := by decide +kernel
theorem dL_law_313 : decode cL_law 313 = .ok (.iconst 2, 1) := by decide +kernel
theorem dL_law_314 : decode cL_law 314 = .ok (.iadd, 1) := by decide +kernel
theorem dL_law_315 : decode cL_law 315 = .ok (.iaload, 1) := by decide +kernel
theorem dL_law_316 : decode cL_law 316 = .ok (.invokevirtual 39, 3) := by decide +kernel
theorem dL_law_319 : decode cL_law 319 = .ok (.if_icmp .eq 1055, 3) := by decide +kernel
theorem dL_law_322 : decode cL_law 322 = .ok (.iconst 0, 1) := by decide +kernel
theorem dL_law_323 : decode cL_law 323 = .ok (.ireturn, 1) := by decide +kernel
theorem dL_law_324 : decode cL_law 324 = .ok (.aload_n 1, 1) := by decide +kernel
theorem dL_law_325 : decode cL_law 325 = .ok (.aload_n 0, 1) := by decide +kernel
theorem dL_law_326 : decode cL_law 326 = .ok (.iload 4, 2) := by decide +kernel
theorem dL_law_328 : decode cL_law 328 = .ok (.iconst 1, 1) := by decide +kernel
theorem dL_law_329 : decode cL_law 329 = .ok (.iadd, 1) := by decide +kernel
theorem dL_law_330 : decode cL_law 330 = .ok (.iaload, 1) := by decide +kernel
theorem dL_law_331 : decode cL_law 331 = .ok (.aload_n 0, 1) := by decide +kernel
theorem dL_law_332 : decode cL_law 332 = .ok (.iload 4, 2) := by decide +kernel
theorem dL_law_334 : decode cL_law 334 = .ok (.iconst 2, 1) := by decide +kernel
theorem dL_law_335 : decode cL_law 335 = .ok (.iadd, 1) := by decide +kernel
theorem dL_law_336 : decode cL_law 336 = .ok (.iaload, 1) := by decide +kernel
theorem dL_law_337 : decode cL_law 337 = .ok (.aload_n 0, 1) := by decide +kernel
theorem dL_law_338 : decode cL_law 338 = .ok (.iload 4, 2) := by decide +kernel
theorem dL_law_340 : decode cL_law 340 = .ok (.iconst 3, 1) := by decide +kernel
theorem dL_law_341 : decode cL_law 341 = .ok (.iadd, 1) := by decide +kernel
theorem dL_law_342 : decode cL_law 342 = .ok (.iaload, 1) := by decide +kernel
theorem dL_law_343 : decode cL_law 343 = .ok (.aload_n 0, 1) := by decide +kernel
theorem dL_law_344 : decode cL_law 344 = .ok (.iload 4, 2) := by decide +kernel
theorem dL_law_346 : decode cL_law 346 = .ok (.iconst 4, 1) := by decide +kernel
theorem dL_law_347 : decode cL_law 347 = .ok (.iadd, 1) := by decide +kernel
theorem dL_law_348 : decode cL_law 348 = .ok (.iaload, 1) := by decide +kernel
theorem dL_law_349 : decode cL_law 349 = .ok (.aload_n 0, 1) := by decide +kernel
theorem dL_law_350 : decode cL_law 350 = .ok (.iload 4, 2) := by decide +kernel
theorem dL_law_352 : decode cL_law 352 = .ok (.iconst 5, 1) := by decide +kernel
theorem dL_law_353 : decode cL_law 353 = .ok (.iadd, 1) := by decide +kernel
theorem dL_law_354 : decode cL_law 354 = .ok (.iaload, 1) := by decide +kernel
theorem dL_law_355 : decode cL_law 355 = .ok (.invokevirtual 40, 3) := by decide +kernel
theorem dL_law_358 : decode cL_law 358 = .ok (.aload_n 2, 1) := by decide +kernel
theorem dL_law_359 : decode cL_law 359 = .ok (.aload_n 0, 1) := by decide +kernel
theorem dL_law_360 : decode cL_law 360 = .ok (.iload 4, 2) := by decide +kernel
theorem dL_law_362 : decode cL_law 362 = .ok (.iconst 1, 1) := by decide +kernel
theorem dL_law_363 : decode cL_law 363 = .ok (.iadd, 1) := by decide +kernel
theorem dL_law_364 : decode cL_law 364 = .ok (.iaload, 1) := by decide +kernel
theorem dL_law_365 : decode cL_law 365 = .ok (.aload_n 0, 1) := by decide +kernel
theorem dL_law_366 : decode cL_law 366 = .ok (.iload 4, 2) := by decide +kernel
theorem dL_law_368 : decode cL_law 368 = .ok (.iconst 2, 1) := by decide +kernel
theorem dL_law_369 : decode cL_law 369 = .ok (.iadd, 1) := by decide +kernel
theorem dL_law_370 : decode cL_law 370 = .ok (.iaload, 1) := by decide +kernel
theorem dL_law_371 : decode cL_law 371 = .ok (.aload_n 0, 1) := by decide +kernel
theorem dL_law_372 : decode cL_law 372 = .ok (.iload 4, 2) := by decide +kernel
theorem dL_law_374 : decode cL_law 374 = .ok (.iconst 3, 1) := by decide +kernel
theorem dL_law_375 : decode cL_law 375 = .ok (.iadd, 1) := by decide +kernel
theorem dL_law_376 : decode cL_law 376 = .ok (.iaload, 1) := by decide +kernel
theorem dL_law_377 : decode cL_law 377 = .ok (.aload_n 0, 1) := by decide +kernel
theorem dL_law_378 : decode cL_law 378 = .ok (.iload 4, 2) := by decide +kernel
theorem dL_law_380 : decode cL_law 380 = .ok (.iconst 4, 1) := by decide +kernel
theorem dL_law_381 : decode cL_law 381 = .ok (.iadd, 1) := by decide +kernel
theorem dL_law_382 : decode cL_law 382 = .ok (.iaload, 1) := by decide +kernel
theorem dL_law_383 : decode cL_law 383 = .ok (.aload_n 0, 1) := by decide +kernel
theorem dL_law_384 : decode cL_law 384 = .ok (.iload 4, 2) := by decide +kernel
theorem dL_law_386 : decode cL_law 386 = .ok (.iconst 5, 1) := by decide +kernel
theorem dL_law_387 : decode cL_law 387 = .ok (.iadd, 1) := by decide +kernel
theorem dL_law_388 : decode cL_law 388 = .ok (.iaload, 1) := by decide +kernel
theorem dL_law_389 : decode cL_law 389 = .ok (.invokevirtual 43, 3) := by decide +kernel
theorem dL_law_392 : decode cL_law 392 = .ok (.if_icmp .eq 982, 3) := by decide +kernel
theorem dL_law_395 : decode cL_law 395 = .ok (.iconst 0, 1) := by decide +kernel
theorem dL_law_396 : decode cL_law 396 = .ok (.ireturn, 1) := by decide +kernel
theorem dL_law_397 : decode cL_law 397 = .ok (.aload_n 1, 1) := by decide +kernel
theorem dL_law_398 : decode cL_law 398 = .ok (.aload_n 0, 1) := by decide +kernel
theorem dL_law_399 : decode cL_law 399 = .ok (.iload 4, 2) := by decide +kernel
theorem dL_law_401 : decode cL_law 401 = .ok (.iconst 1, 1) := by decide +kernel
theorem dL_law_402 : decode cL_law 402 = .ok (.iadd, 1) := by decide +kernel
theorem dL_law_403 : decode cL_law 403 = .ok (.iaload, 1) := by decide +kernel
theorem dL_law_404 : decode cL_law 404 = .ok (.aload_n 0, 1) := by decide +kernel
theorem dL_law_405 : decode cL_law 405 = .ok (.iload 4, 2) := by decide +kernel
theorem dL_law_407 : decode cL_law 407 = .ok (.iconst 2, 1) := by decide +kernel
theorem dL_law_408 : decode cL_law 408 = .ok (.iadd, 1) := by decide +kernel
theorem dL_law_409 : decode cL_law 409 = .ok (.iaload, 1) := by decide +kernel
theorem dL_law_410 : decode cL_law 410 = .ok (.aload_n 0, 1) := by decide +kernel
theorem dL_law_411 : decode cL_law 411 = .ok (.iload 4, 2) := by decide +kernel
theorem dL_law_413 : decode cL_law 413 = .ok (.iconst 3, 1) := by decide +kernel
theorem dL_law_414 : decode cL_law 414 = .ok (.iadd, 1) := by decide +kernel
theorem dL_law_415 : decode cL_law 415 = .ok (.iaload, 1) := by decide +kernel
theorem dL_law_416 : decode cL_law 416 = .ok (.aload_n 0, 1) := by decide +kernel
theorem dL_law_417 : decode cL_law 417 = .ok (.iload 4, 2) := by decide +kernel
theorem dL_law_419 : decode cL_law 419 = .ok (.iconst 4, 1) := by decide +kernel
theorem dL_law_420 : decode cL_law 420 = .ok (.iadd, 1) := by decide +kernel
theorem dL_law_421 : decode cL_law 421 = .ok (.iaload, 1) := by decide +kernel
theorem dL_law_422 : decode cL_law 422 = .ok (.invokevirtual 44, 3) := by decide +kernel
theorem dL_law_425 : decode cL_law 425 = .ok (.aload_n 2, 1) := by decide +kernel
theorem dL_law_426 : decode cL_law 426 = .ok (.aload_n 0, 1) := by decide +kernel
theorem dL_law_427 : decode cL_law 427 = .ok (.iload 4, 2) := by decide +kernel
theorem dL_law_429 : decode cL_law 429 = .ok (.iconst 1, 1) := by decide +kernel
theorem dL_law_430 : decode cL_law 430 = .ok (.iadd, 1) := by decide +kernel
theorem dL_law_431 : decode cL_law 431 = .ok (.iaload, 1) := by decide +kernel
theorem dL_law_432 : decode cL_law 432 = .ok (.aload_n 0, 1) := by decide +kernel
theorem dL_law_433 : decode cL_law 433 = .ok (.iload 4, 2) := by decide +kernel
theorem dL_law_435 : decode cL_law 435 = .ok (.iconst 2, 1) := by decide +kernel
theorem dL_law_436 : decode cL_law 436 = .ok (.iadd, 1) := by decide +kernel
theorem dL_law_437 : decode cL_law 437 = .ok (.iaload, 1) := by decide +kernel
theorem dL_law_438 : decode cL_law 438 = .ok (.aload_n 0, 1) := by decide +kernel
theorem dL_law_439 : decode cL_law 439 = .ok (.iload 4, 2) := by decide +kernel
theorem dL_law_441 : decode cL_law 441 = .ok (.iconst 3, 1) := by decide +kernel
theorem dL_law_442 : decode cL_law 442 = .ok (.iadd, 1) := by decide +kernel
theorem dL_law_443 : decode cL_law 443 = .ok (.iaload, 1) := by decide +kernel
theorem dL_law_444 : decode cL_law 444 = .ok (.aload_n 0, 1) := by decide +kernel
theorem dL_law_445 : decode cL_law 445 = .ok (.iload 4, 2) := by decide +kernel
theorem dL_law_447 : decode cL_law 447 = .ok (.iconst 4, 1) := by decide +kernel
theorem dL_law_448 : decode cL_law 448 = .ok (.iadd, 1) := by decide +kernel
theorem dL_law_449 : decode cL_law 449 = .ok (.iaload, 1) := by decide +kernel
theorem dL_law_450 : decode cL_law 450 = .ok (.invokevirtual 48, 3) := by decide +kernel
theorem dL_law_453 : decode cL_law 453 = .ok (.if_icmp .eq 921, 3) := by decide +kernel
theorem dL_law_456 : decode cL_law 456 = .ok (.iconst 0, 1) := by decide +kernel
theorem dL_law_457 : decode cL_law 457 = .ok (.ireturn, 1) := by decide +kernel
theorem dL_law_458 : decode cL_law 458 = .ok (.aload_n 1, 1) := by decide +kernel
theorem dL_law_459 : decode cL_law 459 = .ok (.aload_n 0, 1) := by decide +kernel
theorem dL_law_460 : decode cL_law 460 = .ok (.iload 4, 2) := by decide +kernel
theorem dL_law_462 : decode cL_law 462 = .ok (.iconst 1, 1) := by decide +kernel
theorem dL_law_463 : decode cL_law 463 = .ok (.iadd, 1) := by decide +kernel
theorem dL_law_464 : decode cL_law 464 = .ok (.iaload, 1) := by decide +kernel
theorem dL_law_465 : decode cL_law 465 = .ok (.aload_n 0, 1) := by decide +kernel
theorem dL_law_466 : decode cL_law 466 = .ok (.iload 4, 2) := by decide +kernel
theorem dL_law_468 : decode cL_law 468 = .ok (.iconst 2, 1) := by decide +kernel
theorem dL_law_469 : decode cL_law 469 = .ok (.iadd, 1) := by decide +kernel
theorem dL_law_470 : decode cL_law 470 = .ok (.iaload, 1) := by decide +kernel
theorem dL_law_471 : decode cL_law 471 = .ok (.aload_n 0, 1) := by decide +kernel
theorem dL_law_472 : decode cL_law 472 = .ok (.iload 4, 2) := by decide +kernel
theorem dL_law_474 : decode cL_law 474 = .ok (.iconst 3, 1) := by decide +kernel
theorem dL_law_475 : decode cL_law 475 = .ok (.iadd, 1) := by decide +kernel
theorem dL_law_476 : decode cL_law 476 = .ok (.iaload, 1) := by decide +kernel
theorem dL_law_477 : decode cL_law 477 = .ok (.invokevirtual 49, 3) := by decide +kernel
theorem dL_law_480 : decode cL_law 480 = .ok (.aload_n 2, 1) := by decide +kernel
theorem dL_law_481 : decode cL_law 481 = .ok (.aload_n 0, 1) := by decide +kernel
theorem dL_law_482 : decode cL_law 482 = .ok (.iload 4, 2) := by decide +kernel
theorem dL_law_484 : decode cL_law 484 = .ok (.iconst 1, 1) := by decide +kernel
theorem dL_law_485 : decode cL_law 485 = .ok (.iadd, 1) := by decide +kernel
theorem dL_law_486 : decode cL_law 486 = .ok (.iaload, 1) := by decide +kernel
theorem dL_law_487 : decode cL_law 487 = .ok (.aload_n 0, 1) := by decide +kernel
theorem dL_law_488 : decode cL_law 488 = .ok (.iload 4, 2) := by decide +kernel
theorem dL_law_490 : decode cL_law 490 = .ok (.iconst 2, 1) := by decide +kernel
theorem dL_law_491 : decode cL_law 491 = .ok (.iadd, 1) := by decide +kernel
theorem dL_law_492 : decode cL_law 492 = .ok (.iaload, 1) := by decide +kernel
theorem dL_law_493 : decode cL_law 493 = .ok (.aload_n 0, 1) := by decide +kernel
theorem dL_law_494 : decode cL_law 494 = .ok (.iload 4, 2) := by decide +kernel
theorem dL_law_496 : decode cL_law 496 = .ok (.iconst 3, 1) := by decide +kernel
theorem dL_law_497 : decode cL_law 497 = .ok (.iadd, 1) := by decide +kernel
theorem dL_law_498 : decode cL_law 498 = .ok (.iaload, 1) := by decide +kernel
theorem dL_law_499 : decode cL_law 499 = .ok (.invokevirtual 52, 3) := by decide +kernel
theorem dL_law_502 : decode cL_law 502 = .ok (.if_icmp .eq 872, 3) := by decide +kernel
theorem dL_law_505 : decode cL_law 505 = .ok (.iconst 0, 1) := by decide +kernel
theorem dL_law_506 : decode cL_law 506 = .ok (.ireturn, 1) := by decide +kernel
theorem dL_law_507 : decode cL_law 507 = .ok (.aload_n 1, 1) := by decide +kernel
theorem dL_law_508 : decode cL_law 508 = .ok (.aload_n 0, 1) := by decide +kernel
theorem dL_law_509 : decode cL_law 509 = .ok (.iload 4, 2) := by decide +kernel
theorem dL_law_511 : decode cL_law 511 = .ok (.iconst 1, 1) := by decide +kernel
theorem dL_law_512 : decode cL_law 512 = .ok (.iadd, 1) := by decide +kernel
theorem dL_law_513 : decode cL_law 513 = .ok (.iaload, 1) := by decide +kernel
theorem dL_law_514 : decode cL_law 514 = .ok (.invokevirtual 53, 3) := by decide +kernel
theorem dL_law_517 : decode cL_law 517 = .ok (.aload_n 2, 1) := by decide +kernel
theorem dL_law_518 : decode cL_law 518 = .ok (.aload_n 0, 1) := by decide +kernel
theorem dL_law_519 : decode cL_law 519 = .ok (.iload 4, 2) := by decide +kernel
theorem dL_law_521 : decode cL_law 521 = .ok (.iconst 1, 1) := by decide +kernel
theorem dL_law_522 : decode cL_law 522 = .ok (.iadd, 1) := by decide +kernel
theorem dL_law_523 : decode cL_law 523 = .ok (.iaload, 1) := by decide +kernel
theorem dL_law_524 : decode cL_law 524 = .ok (.invokevirtual 56, 3) := by decide +kernel
theorem dL_law_527 : decode cL_law 527 = .ok (.if_icmp .eq 847, 3) := by decide +kernel
theorem dL_law_530 : decode cL_law 530 = .ok (.iconst 0, 1) := by decide +kernel
theorem dL_law_531 : decode cL_law 531 = .ok (.ireturn, 1) := by decide +kernel
theorem dL_law_532 : decode cL_law 532 = .ok (.aload_n 1, 1) := by decide +kernel
theorem dL_law_533 : decode cL_law 533 = .ok (.aload_n 0, 1) := by decide +kernel
theorem dL_law_534 : decode cL_law 534 = .ok (.iload 4, 2) := by decide +kernel
theorem dL_law_536 : decode cL_law 536 = .ok (.iconst 1, 1) := by decide +kernel
theorem dL_law_537 : decode cL_law 537 = .ok (.iadd, 1) := by decide +kernel
theorem dL_law_538 : decode cL_law 538 = .ok (.iaload, 1) := by decide +kernel
theorem dL_law_539 : decode cL_law 539 = .ok (.aload_n 0, 1) := by decide +kernel
theorem dL_law_540 : decode cL_law 540 = .ok (.iload 4, 2) := by decide +kernel
theorem dL_law_542 : decode cL_law 542 = .ok (.iconst 2, 1) := by decide +kernel
theorem dL_law_543 : decode cL_law 543 = .ok (.iadd, 1) := by decide +kernel
theorem dL_law_544 : decode cL_law 544 = .ok (.iaload, 1) := by decide +kernel
theorem dL_law_545 : decode cL_law 545 = .ok (.aload_n 0, 1) := by decide +kernel
theorem dL_law_546 : decode cL_law 546 = .ok (.iload 4, 2) := by decide +kernel
theorem dL_law_548 : decode cL_law 548 = .ok (.iconst 3, 1) := by decide +kernel
theorem dL_law_549 : decode cL_law 549 = .ok (.iadd, 1) := by decide +kernel
theorem dL_law_550 : decode cL_law 550 = .ok (.iaload, 1) := by decide +kernel
theorem dL_law_551 : decode cL_law 551 = .ok (.invokevirtual 57, 3) := by decide +kernel
theorem dL_law_554 : decode cL_law 554 = .ok (.aload_n 2, 1) := by decide +kernel
theorem dL_law_555 : decode cL_law 555 = .ok (.aload_n 0, 1) := by decide +kernel
theorem dL_law_556 : decode cL_law 556 = .ok (.iload 4, 2) := by decide +kernel
theorem dL_law_558 : decode cL_law 558 = .ok (.iconst 1, 1) := by decide +kernel
theorem dL_law_559 : decode cL_law 559 = .ok (.iadd, 1) := by decide +kernel
theorem dL_law_560 : decode cL_law 560 = .ok (.iaload, 1) := by decide +kernel
theorem dL_law_561 : decode cL_law 561 = .ok (.aload_n 0, 1) := by decide +kernel
theorem dL_law_562 : decode cL_law 562 = .ok (.iload 4, 2) := by decide +kernel
theorem dL_law_564 : decode cL_law 564 = .ok (.iconst 2, 1) := by decide +kernel
theorem dL_law_565 : decode cL_law 565 = .ok (.iadd, 1) := by decide +kernel
theorem dL_law_566 : decode cL_law 566 = .ok (.iaload, 1) := by decide +kernel
theorem dL_law_567 : decode cL_law 567 = .ok (.aload_n 0, 1) := by decide +kernel
theorem dL_law_568 : decode cL_law 568 = .ok (.iload 4, 2) := by decide +kernel
theorem dL_law_570 : decode cL_law 570 = .ok (.iconst 3, 1) := by decide +kernel
theorem dL_law_571 : decode cL_law 571 = .ok (.iadd, 1) := by decide +kernel
theorem dL_law_572 : decode cL_law 572 = .ok (.iaload, 1) := by decide +kernel
theorem dL_law_573 : decode cL_law 573 = .ok (.invokevirtual 60, 3) := by decide +kernel
theorem dL_law_576 : decode cL_law 576 = .ok (.if_icmp .eq 798, 3) := by decide +kernel
theorem dL_law_579 : decode cL_law 579 = .ok (.iconst 0, 1) := by decide +kernel
theorem dL_law_580 : decode cL_law 580 = .ok (.ireturn, 1) := by decide +kernel
theorem dL_law_581 : decode cL_law 581 = .ok (.aload_n 1, 1) := by decide +kernel
theorem dL_law_582 : decode cL_law 582 = .ok (.aload_n 0, 1) := by decide +kernel
theorem dL_law_583 : decode cL_law 583 = .ok (.iload 4, 2) := by decide +kernel
theorem dL_law_585 : decode cL_law 585 = .ok (.iconst 1, 1) := by decide +kernel
theorem dL_law_586 : decode cL_law 586 = .ok (.iadd, 1) := by decide +kernel
theorem dL_law_587 : decode cL_law 587 = .ok (.iaload, 1) := by decide +kernel
theorem dL_law_588 : decode cL_law 588 = .ok (.aload_n 0, 1) := by decide +kernel
theorem dL_law_589 : decode cL_law 589 = .ok (.iload 4, 2) := by decide +kernel
theorem dL_law_591 : decode cL_law 591 = .ok (.iconst 2, 1) := by decide +kernel
theorem dL_law_592 : decode cL_law 592 = .ok (.iadd, 1) := by decide +kernel
theorem dL_law_593 : decode cL_law 593 = .ok (.iaload, 1) := by decide +kernel
theorem dL_law_594 : decode cL_law 594 = .ok (.aload_n 0, 1) := by decide +kernel
theorem dL_law_595 : decode cL_law 595 = .ok (.iload 4, 2) := by decide +kernel
theorem dL_law_597 : decode cL_law 597 = .ok (.iconst 3, 1) := by decide +kernel
theorem dL_law_598 : decode cL_law 598 = .ok (.iadd, 1) := by decide +kernel
theorem dL_law_599 : decode cL_law 599 = .ok (.iaload, 1) := by decide +kernel
theorem dL_law_600 : decode cL_law 600 = .ok (.aload_n 3, 1) := by decide +kernel
theorem dL_law_601 : decode cL_law 601 = .ok (.invokestatic 61, 3) := by decide +kernel
theorem dL_law_604 : decode cL_law 604 = .ok (.istore 5, 2) := by decide +kernel
theorem dL_law_606 : decode cL_law 606 = .ok (.aload_n 2, 1) := by decide +kernel
theorem dL_law_607 : decode cL_law 607 = .ok (.aload_n 0, 1) := by decide +kernel
theorem dL_law_608 : decode cL_law 608 = .ok (.iload 4, 2) := by decide +kernel
theorem dL_law_610 : decode cL_law 610 = .ok (.iconst 1, 1) := by decide +kernel
theorem dL_law_611 : decode cL_law 611 = .ok (.iadd, 1) := by decide +kernel
theorem dL_law_612 : decode cL_law 612 = .ok (.iaload, 1) := by decide +kernel
theorem dL_law_613 : decode cL_law 613 = .ok (.aload_n 0, 1) := by decide +kernel
theorem dL_law_614 : decode cL_law 614 = .ok (.iload 4, 2) := by decide +kernel
theorem dL_law_616 : decode cL_law 616 = .ok (.iconst 2, 1) := by decide +kernel
theorem dL_law_617 : decode cL_law 617 = .ok (.iadd, 1) := by decide +kernel
theorem dL_law_618 : decode cL_law 618 = .ok (.iaload, 1) := by decide +kernel
theorem dL_law_619 : decode cL_law 619 = .ok (.aload_n 0, 1) := by decide +kernel
theorem dL_law_620 : decode cL_law 620 = .ok (.iload 4, 2) := by decide +kernel
theorem dL_law_622 : decode cL_law 622 = .ok (.iconst 3, 1) := by decide +kernel
theorem dL_law_623 : decode cL_law 623 = .ok (.iadd, 1) := by decide +kernel
theorem dL_law_624 : decode cL_law 624 = .ok (.iaload, 1) := by decide +kernel
theorem dL_law_625 : decode cL_law 625 = .ok (.invokevirtual 66, 3) := by decide +kernel
theorem dL_law_628 : decode cL_law 628 = .ok (.istore 6, 2) := by decide +kernel
theorem dL_law_630 : decode cL_law 630 = .ok (.aload_n 2, 1) := by decide +kernel
theorem dL_law_631 : decode cL_law 631 = .ok (.invokevirtual 67, 3) := by decide +kernel
theorem dL_law_634 : decode cL_law 634 = .ok (.iload 5, 2) := by decide +kernel
theorem dL_law_636 : decode cL_law 636 = .ok (.if_icmp .eq 5, 3) := by decide +kernel
theorem dL_law_639 : decode cL_law 639 = .ok (.iconst 0, 1) := by decide +kernel
theorem dL_law_640 : decode cL_law 640 = .ok (.ireturn, 1) := by decide +kernel
theorem dL_law_641 : decode cL_law 641 = .ok (.iload 5, 2) := by decide +kernel
theorem dL_law_643 : decode cL_law 643 = .ok (.ifCond .ne 15, 3) := by decide +kernel
theorem dL_law_646 : decode cL_law 646 = .ok (.aload_n 3, 1) := by decide +kernel
theorem dL_law_647 : decode cL_law 647 = .ok (.iconst 0, 1) := by decide +kernel
theorem dL_law_648 : decode cL_law 648 = .ok (.laload, 1) := by decide +kernel
theorem dL_law_649 : decode cL_law 649 = .ok (.iload 6, 2) := by decide +kernel
theorem dL_law_651 : decode cL_law 651 = .ok (.i2l, 1) := by decide +kernel
theorem dL_law_652 : decode cL_law 652 = .ok (.lcmp, 1) := by decide +kernel
theorem dL_law_653 : decode cL_law 653 = .ok (.ifCond .eq 5, 3) := by decide +kernel
theorem dL_law_656 : decode cL_law 656 = .ok (.iconst 0, 1) := by decide +kernel
theorem dL_law_657 : decode cL_law 657 = .ok (.ireturn, 1) := by decide +kernel
theorem dL_law_658 : decode cL_law 658 = .ok (.goto 716, 3) := by decide +kernel
theorem dL_law_661 : decode cL_law 661 = .ok (.aload_n 1, 1) := by decide +kernel
theorem dL_law_662 : decode cL_law 662 = .ok (.aload_n 0, 1) := by decide +kernel
theorem dL_law_663 : decode cL_law 663 = .ok (.iload 4, 2) := by decide +kernel
theorem dL_law_665 : decode cL_law 665 = .ok (.iconst 1, 1) := by decide +kernel
theorem dL_law_666 : decode cL_law 666 = .ok (.iadd, 1) := by decide +kernel
theorem dL_law_667 : decode cL_law 667 = .ok (.iaload, 1) := by decide +kernel
theorem dL_law_668 : decode cL_law 668 = .ok (.aload_n 0, 1) := by decide +kernel
theorem dL_law_669 : decode cL_law 669 = .ok (.iload 4, 2) := by decide +kernel
theorem dL_law_671 : decode cL_law 671 = .ok (.iconst 2, 1) := by decide +kernel
theorem dL_law_672 : decode cL_law 672 = .ok (.iadd, 1) := by decide +kernel
theorem dL_law_673 : decode cL_law 673 = .ok (.iaload, 1) := by decide +kernel
theorem dL_law_674 : decode cL_law 674 = .ok (.invokevirtual 71, 3) := by decide +kernel
theorem dL_law_677 : decode cL_law 677 = .ok (.aload_n 2, 1) := by decide +kernel
theorem dL_law_678 : decode cL_law 678 = .ok (.aload_n 0, 1) := by decide +kernel
theorem dL_law_679 : decode cL_law 679 = .ok (.iload 4, 2) := by decide +kernel
theorem dL_law_681 : decode cL_law 681 = .ok (.iconst 1, 1) := by decide +kernel
theorem dL_law_682 : decode cL_law 682 = .ok (.iadd, 1) := by decide +kernel
theorem dL_law_683 : decode cL_law 683 = .ok (.iaload, 1) := by decide +kernel
theorem dL_law_684 : decode cL_law 684 = .ok (.aload_n 0, 1) := by decide +kernel
theorem dL_law_685 : decode cL_law 685 = .ok (.iload 4, 2) := by decide +kernel
theorem dL_law_687 : decode cL_law 687 = .ok (.iconst 2, 1) := by decide +kernel
theorem dL_law_688 : decode cL_law 688 = .ok (.iadd, 1) := by decide +kernel
theorem dL_law_689 : decode cL_law 689 = .ok (.iaload, 1) := by decide +kernel
theorem dL_law_690 : decode cL_law 690 = .ok (.invokevirtual 74, 3) := by decide +kernel
theorem dL_law_693 : decode cL_law 693 = .ok (.if_icmp .eq 681, 3) := by decide +kernel
theorem dL_law_696 : decode cL_law 696 = .ok (.iconst 0, 1) := by decide +kernel
theorem dL_law_697 : decode cL_law 697 = .ok (.ireturn, 1) := by decide +kernel
theorem dL_law_698 : decode cL_law 698 = .ok (.aload_n 1, 1) := by decide +kernel
theorem dL_law_699 : decode cL_law 699 = .ok (.aload_n 0, 1) := by decide +kernel
theorem dL_law_700 : decode cL_law 700 = .ok (.iload 4, 2) := by decide +kernel
theorem dL_law_702 : decode cL_law 702 = .ok (.iconst 1, 1) := by decide +kernel
theorem dL_law_703 : decode cL_law 703 = .ok (.iadd, 1) := by decide +kernel
theorem dL_law_704 : decode cL_law 704 = .ok (.iaload, 1) := by decide +kernel
theorem dL_law_705 : decode cL_law 705 = .ok (.aload_n 0, 1) := by decide +kernel
theorem dL_law_706 : decode cL_law 706 = .ok (.iload 4, 2) := by decide +kernel
theorem dL_law_708 : decode cL_law 708 = .ok (.iconst 2, 1) := by decide +kernel
theorem dL_law_709 : decode cL_law 709 = .ok (.iadd, 1) := by decide +kernel
theorem dL_law_710 : decode cL_law 710 = .ok (.iaload, 1) := by decide +kernel
theorem dL_law_711 : decode cL_law 711 = .ok (.aload_n 0, 1) := by decide +kernel
theorem dL_law_712 : decode cL_law 712 = .ok (.iload 4, 2) := by decide +kernel
theorem dL_law_714 : decode cL_law 714 = .ok (.iconst 3, 1) := by decide +kernel
theorem dL_law_715 : decode cL_law 715 = .ok (.iadd, 1) := by decide +kernel
theorem dL_law_716 : decode cL_law 716 = .ok (.iaload, 1) := by decide +kernel
theorem dL_law_717 : decode cL_law 717 = .ok (.invokevirtual 75, 3) := by decide +kernel
theorem dL_law_720 : decode cL_law 720 = .ok (.aload_n 2, 1) := by decide +kernel
theorem dL_law_721 : decode cL_law 721 = .ok (.aload_n 0, 1) := by decide +kernel
theorem dL_law_722 : decode cL_law 722 = .ok (.iload 4, 2) := by decide +kernel
theorem dL_law_724 : decode cL_law 724 = .ok (.iconst 1, 1) := by decide +kernel
theorem dL_law_725 : decode cL_law 725 = .ok (.iadd, 1) := by decide +kernel
theorem dL_law_726 : decode cL_law 726 = .ok (.iaload, 1) := by decide +kernel
theorem dL_law_727 : decode cL_law 727 = .ok (.aload_n 0, 1) := by decide +kernel
theorem dL_law_728 : decode cL_law 728 = .ok (.iload 4, 2) := by decide +kernel
theorem dL_law_730 : decode cL_law 730 = .ok (.iconst 2, 1) := by decide +kernel
theorem dL_law_731 : decode cL_law 731 = .ok (.iadd, 1) := by decide +kernel
theorem dL_law_732 : decode cL_law 732 = .ok (.iaload, 1) := by decide +kernel
theorem dL_law_733 : decode cL_law 733 = .ok (.aload_n 0, 1) := by decide +kernel
theorem dL_law_734 : decode cL_law 734 = .ok (.iload 4, 2) := by decide +kernel
theorem dL_law_736 : decode cL_law 736 = .ok (.iconst 3, 1) := by decide +kernel
theorem dL_law_737 : decode cL_law 737 = .ok (.iadd, 1) := by decide +kernel
theorem dL_law_738 : decode cL_law 738 = .ok (.iaload, 1) := by decide +kernel
theorem dL_law_739 : decode cL_law 739 = .ok (.invokevirtual 78, 3) := by decide +kernel
theorem dL_law_742 : decode cL_law 742 = .ok (.if_icmp .eq 632, 3) := by decide +kernel
theorem dL_law_745 : decode cL_law 745 = .ok (.iconst 0, 1) := by decide +kernel
theorem dL_law_746 : decode cL_law 746 = .ok (.ireturn, 1) := by decide +kernel
theorem dL_law_747 : decode cL_law 747 = .ok (.aload_n 1, 1) := by decide +kernel
theorem dL_law_748 : decode cL_law 748 = .ok (.aload_n 0, 1) := by decide +kernel
theorem dL_law_749 : decode cL_law 749 = .ok (.iload 4, 2) := by decide +kernel
theorem dL_law_751 : decode cL_law 751 = .ok (.iconst 1, 1) := by decide +kernel
theorem dL_law_752 : decode cL_law 752 = .ok (.iadd, 1) := by decide +kernel
theorem dL_law_753 : decode cL_law 753 = .ok (.iaload, 1) := by decide +kernel
theorem dL_law_754 : decode cL_law 754 = .ok (.invokevirtual 79, 3) := by decide +kernel
theorem dL_law_757 : decode cL_law 757 = .ok (.aload_n 2, 1) := by decide +kernel
theorem dL_law_758 : decode cL_law 758 = .ok (.aload_n 0, 1) := by decide +kernel
theorem dL_law_759 : decode cL_law 759 = .ok (.iload 4, 2) := by decide +kernel
theorem dL_law_761 : decode cL_law 761 = .ok (.iconst 1, 1) := by decide +kernel
theorem dL_law_762 : decode cL_law 762 = .ok (.iadd, 1) := by decide +kernel
theorem dL_law_763 : decode cL_law 763 = .ok (.iaload, 1) := by decide +kernel
theorem dL_law_764 : decode cL_law 764 = .ok (.invokevirtual 83, 3) := by decide +kernel
theorem dL_law_767 : decode cL_law 767 = .ok (.if_icmp .eq 607, 3) := by decide +kernel
theorem dL_law_770 : decode cL_law 770 = .ok (.iconst 0, 1) := by decide +kernel
theorem dL_law_771 : decode cL_law 771 = .ok (.ireturn, 1) := by decide +kernel
theorem dL_law_772 : decode cL_law 772 = .ok (.aload_n 1, 1) := by decide +kernel
theorem dL_law_773 : decode cL_law 773 = .ok (.aload_n 0, 1) := by decide +kernel
theorem dL_law_774 : decode cL_law 774 = .ok (.iload 4, 2) := by decide +kernel
theorem dL_law_776 : decode cL_law 776 = .ok (.iconst 1, 1) := by decide +kernel
theorem dL_law_777 : decode cL_law 777 = .ok (.iadd, 1) := by decide +kernel
theorem dL_law_778 : decode cL_law 778 = .ok (.iaload, 1) := by decide +kernel
theorem dL_law_779 : decode cL_law 779 = .ok (.aload_n 0, 1) := by decide +kernel
theorem dL_law_780 : decode cL_law 780 = .ok (.iload 4, 2) := by decide +kernel
theorem dL_law_782 : decode cL_law 782 = .ok (.iconst 2, 1) := by decide +kernel
theorem dL_law_783 : decode cL_law 783 = .ok (.iadd, 1) := by decide +kernel
theorem dL_law_784 : decode cL_law 784 = .ok (.iaload, 1) := by decide +kernel
theorem dL_law_785 : decode cL_law 785 = .ok (.aload_n 0, 1) := by decide +kernel
theorem dL_law_786 : decode cL_law 786 = .ok (.iload 4, 2) := by decide +kernel
theorem dL_law_788 : decode cL_law 788 = .ok (.iconst 3, 1) := by decide +kernel
theorem dL_law_789 : decode cL_law 789 = .ok (.iadd, 1) := by decide +kernel
theorem dL_law_790 : decode cL_law 790 = .ok (.iaload, 1) := by decide +kernel
theorem dL_law_791 : decode cL_law 791 = .ok (.aload_n 0, 1) := by decide +kernel
theorem dL_law_792 : decode cL_law 792 = .ok (.iload 4, 2) := by decide +kernel
theorem dL_law_794 : decode cL_law 794 = .ok (.iconst 4, 1) := by decide +kernel
theorem dL_law_795 : decode cL_law 795 = .ok (.iadd, 1) := by decide +kernel
theorem dL_law_796 : decode cL_law 796 = .ok (.iaload, 1) := by decide +kernel
theorem dL_law_797 : decode cL_law 797 = .ok (.aload_n 0, 1) := by decide +kernel
theorem dL_law_798 : decode cL_law 798 = .ok (.iload 4, 2) := by decide +kernel
theorem dL_law_800 : decode cL_law 800 = .ok (.iconst 5, 1) := by decide +kernel
theorem dL_law_801 : decode cL_law 801 = .ok (.iadd, 1) := by decide +kernel
theorem dL_law_802 : decode cL_law 802 = .ok (.iaload, 1) := by decide +kernel
theorem dL_law_803 : decode cL_law 803 = .ok (.invokevirtual 84, 3) := by decide +kernel
theorem dL_law_806 : decode cL_law 806 = .ok (.aload_n 2, 1) := by decide +kernel
theorem dL_law_807 : decode cL_law 807 = .ok (.aload_n 0, 1) := by decide +kernel
theorem dL_law_808 : decode cL_law 808 = .ok (.iload 4, 2) := by decide +kernel
theorem dL_law_810 : decode cL_law 810 = .ok (.iconst 1, 1) := by decide +kernel
theorem dL_law_811 : decode cL_law 811 = .ok (.iadd, 1) := by decide +kernel
theorem dL_law_812 : decode cL_law 812 = .ok (.iaload, 1) := by decide +kernel
theorem dL_law_813 : decode cL_law 813 = .ok (.aload_n 0, 1) := by decide +kernel
theorem dL_law_814 : decode cL_law 814 = .ok (.iload 4, 2) := by decide +kernel
theorem dL_law_816 : decode cL_law 816 = .ok (.iconst 2, 1) := by decide +kernel
theorem dL_law_817 : decode cL_law 817 = .ok (.iadd, 1) := by decide +kernel
theorem dL_law_818 : decode cL_law 818 = .ok (.iaload, 1) := by decide +kernel
theorem dL_law_819 : decode cL_law 819 = .ok (.aload_n 0, 1) := by decide +kernel
theorem dL_law_820 : decode cL_law 820 = .ok (.iload 4, 2) := by decide +kernel
theorem dL_law_822 : decode cL_law 822 = .ok (.iconst 3, 1) := by decide +kernel
theorem dL_law_823 : decode cL_law 823 = .ok (.iadd, 1) := by decide +kernel
theorem dL_law_824 : decode cL_law 824 = .ok (.iaload, 1) := by decide +kernel
theorem dL_law_825 : decode cL_law 825 = .ok (.aload_n 0, 1) := by decide +kernel
theorem dL_law_826 : decode cL_law 826 = .ok (.iload 4, 2) := by decide +kernel
theorem dL_law_828 : decode cL_law 828 = .ok (.iconst 4, 1) := by decide +kernel
theorem dL_law_829 : decode cL_law 829 = .ok (.iadd, 1) := by decide +kernel
theorem dL_law_830 : decode cL_law 830 = .ok (.iaload, 1) := by decide +kernel
theorem dL_law_831 : decode cL_law 831 = .ok (.aload_n 0, 1) := by decide +kernel
theorem dL_law_832 : decode cL_law 832 = .ok (.iload 4, 2) := by decide +kernel
theorem dL_law_834 : decode cL_law 834 = .ok (.iconst 5, 1) := by decide +kernel
theorem dL_law_835 : decode cL_law 835 = .ok (.iadd, 1) := by decide +kernel
theorem dL_law_836 : decode cL_law 836 = .ok (.iaload, 1) := by decide +kernel
theorem dL_law_837 : decode cL_law 837 = .ok (.invokevirtual 87, 3) := by decide +kernel
theorem dL_law_840 : decode cL_law 840 = .ok (.if_icmp .eq 534, 3) := by decide +kernel
theorem dL_law_843 : decode cL_law 843 = .ok (.iconst 0, 1) := by decide +kernel
theorem dL_law_844 : decode cL_law 844 = .ok (.ireturn, 1) := by decide +kernel
theorem dL_law_845 : decode cL_law 845 = .ok (.aload_n 1, 1) := by decide +kernel
theorem dL_law_846 : decode cL_law 846 = .ok (.aload_n 0, 1) := by decide +kernel
theorem dL_law_847 : decode cL_law 847 = .ok (.iload 4, 2) := by decide +kernel
theorem dL_law_849 : decode cL_law 849 = .ok (.iconst 1, 1) := by decide +kernel
theorem dL_law_850 : decode cL_law 850 = .ok (.iadd, 1) := by decide +kernel
theorem dL_law_851 : decode cL_law 851 = .ok (.iaload, 1) := by decide +kernel
theorem dL_law_852 : decode cL_law 852 = .ok (.aload_n 0, 1) := by decide +kernel
theorem dL_law_853 : decode cL_law 853 = .ok (.iload 4, 2) := by decide +kernel
theorem dL_law_855 : decode cL_law 855 = .ok (.iconst 2, 1) := by decide +kernel
theorem dL_law_856 : decode cL_law 856 = .ok (.iadd, 1) := by decide +kernel
theorem dL_law_857 : decode cL_law 857 = .ok (.iaload, 1) := by decide +kernel
theorem dL_law_858 : decode cL_law 858 = .ok (.invokevirtual 88, 3) := by decide +kernel
theorem dL_law_861 : decode cL_law 861 = .ok (.aload_n 2, 1) := by decide +kernel
theorem dL_law_862 : decode cL_law 862 = .ok (.aload_n 0, 1) := by decide +kernel
theorem dL_law_863 : decode cL_law 863 = .ok (.iload 4, 2) := by decide +kernel
theorem dL_law_865 : decode cL_law 865 = .ok (.iconst 1, 1) := by decide +kernel
theorem dL_law_866 : decode cL_law 866 = .ok (.iadd, 1) := by decide +kernel
theorem dL_law_867 : decode cL_law 867 = .ok (.iaload, 1) := by decide +kernel
theorem dL_law_868 : decode cL_law 868 = .ok (.aload_n 0, 1) := by decide +kernel
theorem dL_law_869 : decode cL_law 869 = .ok (.iload 4, 2) := by decide +kernel
theorem dL_law_871 : decode cL_law 871 = .ok (.iconst 2, 1) := by decide +kernel
theorem dL_law_872 : decode cL_law 872 = .ok (.iadd, 1) := by decide +kernel
theorem dL_law_873 : decode cL_law 873 = .ok (.iaload, 1) := by decide +kernel
theorem dL_law_874 : decode cL_law 874 = .ok (.invokevirtual 91, 3) := by decide +kernel
theorem dL_law_877 : decode cL_law 877 = .ok (.if_icmp .eq 497, 3) := by decide +kernel
theorem dL_law_880 : decode cL_law 880 = .ok (.iconst 0, 1) := by decide +kernel
theorem dL_law_881 : decode cL_law 881 = .ok (.ireturn, 1) := by decide +kernel
theorem dL_law_882 : decode cL_law 882 = .ok (.aload_n 1, 1) := by decide +kernel
theorem dL_law_883 : decode cL_law 883 = .ok (.invokevirtual 92, 3) := by decide +kernel
theorem dL_law_886 : decode cL_law 886 = .ok (.aload_n 2, 1) := by decide +kernel
theorem dL_law_887 : decode cL_law 887 = .ok (.invokevirtual 95, 3) := by decide +kernel
theorem dL_law_890 : decode cL_law 890 = .ok (.if_icmp .eq 484, 3) := by decide +kernel
theorem dL_law_893 : decode cL_law 893 = .ok (.iconst 0, 1) := by decide +kernel
theorem dL_law_894 : decode cL_law 894 = .ok (.ireturn, 1) := by decide +kernel
theorem dL_law_895 : decode cL_law 895 = .ok (.aload_n 1, 1) := by decide +kernel
theorem dL_law_896 : decode cL_law 896 = .ok (.aload_n 0, 1) := by decide +kernel
theorem dL_law_897 : decode cL_law 897 = .ok (.iload 4, 2) := by decide +kernel
theorem dL_law_899 : decode cL_law 899 = .ok (.iconst 1, 1) := by decide +kernel
theorem dL_law_900 : decode cL_law 900 = .ok (.iadd, 1) := by decide +kernel
theorem dL_law_901 : decode cL_law 901 = .ok (.iaload, 1) := by decide +kernel
theorem dL_law_902 : decode cL_law 902 = .ok (.aload_n 0, 1) := by decide +kernel
theorem dL_law_903 : decode cL_law 903 = .ok (.iload 4, 2) := by decide +kernel
theorem dL_law_905 : decode cL_law 905 = .ok (.iconst 2, 1) := by decide +kernel
theorem dL_law_906 : decode cL_law 906 = .ok (.iadd, 1) := by decide +kernel
theorem dL_law_907 : decode cL_law 907 = .ok (.iaload, 1) := by decide +kernel
theorem dL_law_908 : decode cL_law 908 = .ok (.aload_n 0, 1) := by decide +kernel
theorem dL_law_909 : decode cL_law 909 = .ok (.iload 4, 2) := by decide +kernel
theorem dL_law_911 : decode cL_law 911 = .ok (.iconst 3, 1) := by decide +kernel
theorem dL_law_912 : decode cL_law 912 = .ok (.iadd, 1) := by decide +kernel
theorem dL_law_913 : decode cL_law 913 = .ok (.iaload, 1) := by decide +kernel
theorem dL_law_914 : decode cL_law 914 = .ok (.aload_n 0, 1) := by decide +kernel
theorem dL_law_915 : decode cL_law 915 = .ok (.iload 4, 2) := by decide +kernel
theorem dL_law_917 : decode cL_law 917 = .ok (.iconst 4, 1) := by decide +kernel
theorem dL_law_918 : decode cL_law 918 = .ok (.iadd, 1) := by decide +kernel
theorem dL_law_919 : decode cL_law 919 = .ok (.iaload, 1) := by decide +kernel
theorem dL_law_920 : decode cL_law 920 = .ok (.invokevirtual 96, 3) := by decide +kernel
theorem dL_law_923 : decode cL_law 923 = .ok (.aload_n 2, 1) := by decide +kernel
theorem dL_law_924 : decode cL_law 924 = .ok (.aload_n 0, 1) := by decide +kernel
theorem dL_law_925 : decode cL_law 925 = .ok (.iload 4, 2) := by decide +kernel
theorem dL_law_927 : decode cL_law 927 = .ok (.iconst 1, 1) := by decide +kernel
theorem dL_law_928 : decode cL_law 928 = .ok (.iadd, 1) := by decide +kernel
theorem dL_law_929 : decode cL_law 929 = .ok (.iaload, 1) := by decide +kernel
theorem dL_law_930 : decode cL_law 930 = .ok (.aload_n 0, 1) := by decide +kernel
theorem dL_law_931 : decode cL_law 931 = .ok (.iload 4, 2) := by decide +kernel
theorem dL_law_933 : decode cL_law 933 = .ok (.iconst 2, 1) := by decide +kernel
theorem dL_law_934 : decode cL_law 934 = .ok (.iadd, 1) := by decide +kernel
theorem dL_law_935 : decode cL_law 935 = .ok (.iaload, 1) := by decide +kernel
theorem dL_law_936 : decode cL_law 936 = .ok (.aload_n 0, 1) := by decide +kernel
theorem dL_law_937 : decode cL_law 937 = .ok (.iload 4, 2) := by decide +kernel
theorem dL_law_939 : decode cL_law 939 = .ok (.iconst 3, 1) := by decide +kernel
theorem dL_law_940 : decode cL_law 940 = .ok (.iadd, 1) := by decide +kernel
theorem dL_law_941 : decode cL_law 941 = .ok (.iaload, 1) := by decide +kernel
theorem dL_law_942 : decode cL_law 942 = .ok (.aload_n 0, 1) := by decide +kernel
theorem dL_law_943 : decode cL_law 943 = .ok (.iload 4, 2) := by decide +kernel
theorem dL_law_945 : decode cL_law 945 = .ok (.iconst 4, 1) := by decide +kernel
theorem dL_law_946 : decode cL_law 946 = .ok (.iadd, 1) := by decide +kernel
theorem dL_law_947 : decode cL_law 947 = .ok (.iaload, 1) := by decide +kernel
theorem dL_law_948 : decode cL_law 948 = .ok (.invokevirtual 99, 3) := by decide +kernel
theorem dL_law_951 : decode cL_law 951 = .ok (.if_icmp .eq 423, 3) := by decide +kernel
theorem dL_law_954 : decode cL_law 954 = .ok (.iconst 0, 1) := by decide +kernel
theorem dL_law_955 : decode cL_law 955 = .ok (.ireturn, 1) := by decide +kernel
theorem dL_law_956 : decode cL_law 956 = .ok (.aload_n 1, 1) := by decide +kernel
theorem dL_law_957 : decode cL_law 957 = .ok (.invokevirtual 100, 3) := by decide +kernel
theorem dL_law_960 : decode cL_law 960 = .ok (.aload_n 2, 1) := by decide +kernel
theorem dL_law_961 : decode cL_law 961 = .ok (.invokevirtual 103, 3) := by decide +kernel
theorem dL_law_964 : decode cL_law 964 = .ok (.if_icmp .eq 410, 3) := by decide +kernel
theorem dL_law_967 : decode cL_law 967 = .ok (.iconst 0, 1) := by decide +kernel
theorem dL_law_968 : decode cL_law 968 = .ok (.ireturn, 1) := by decide +kernel
theorem dL_law_969 : decode cL_law 969 = .ok (.aload_n 1, 1) := by decide +kernel
theorem dL_law_970 : decode cL_law 970 = .ok (.invokevirtual 104, 3) := by decide +kernel
theorem dL_law_973 : decode cL_law 973 = .ok (.aload_n 2, 1) := by decide +kernel
theorem dL_law_974 : decode cL_law 974 = .ok (.invokevirtual 107, 3) := by decide +kernel
theorem dL_law_977 : decode cL_law 977 = .ok (.if_icmp .eq 397, 3) := by decide +kernel
theorem dL_law_980 : decode cL_law 980 = .ok (.iconst 0, 1) := by decide +kernel
theorem dL_law_981 : decode cL_law 981 = .ok (.ireturn, 1) := by decide +kernel
theorem dL_law_982 : decode cL_law 982 = .ok (.aload_n 1, 1) := by decide +kernel
theorem dL_law_983 : decode cL_law 983 = .ok (.aload_n 0, 1) := by decide +kernel
theorem dL_law_984 : decode cL_law 984 = .ok (.iload 4, 2) := by decide +kernel
theorem dL_law_986 : decode cL_law 986 = .ok (.iconst 1, 1) := by decide +kernel
theorem dL_law_987 : decode cL_law 987 = .ok (.iadd, 1) := by decide +kernel
theorem dL_law_988 : decode cL_law 988 = .ok (.iaload, 1) := by decide +kernel
theorem dL_law_989 : decode cL_law 989 = .ok (.aload_n 0, 1) := by decide +kernel
theorem dL_law_990 : decode cL_law 990 = .ok (.iload 4, 2) := by decide +kernel
theorem dL_law_992 : decode cL_law 992 = .ok (.iconst 2, 1) := by decide +kernel
theorem dL_law_993 : decode cL_law 993 = .ok (.iadd, 1) := by decide +kernel
theorem dL_law_994 : decode cL_law 994 = .ok (.iaload, 1) := by decide +kernel
theorem dL_law_995 : decode cL_law 995 = .ok (.invokevirtual 108, 3) := by decide +kernel
theorem dL_law_998 : decode cL_law 998 = .ok (.aload_n 2, 1) := by decide +kernel
theorem dL_law_999 : decode cL_law 999 = .ok (.aload_n 0, 1) := by decide +kernel
theorem dL_law_1000 : decode cL_law 1000 = .ok (.iload 4, 2) := by decide +kernel
theorem dL_law_1002 : decode cL_law 1002 = .ok (.iconst 1, 1) := by decide +kernel
theorem dL_law_1003 : decode cL_law 1003 = .ok (.iadd, 1) := by decide +kernel
theorem dL_law_1004 : decode cL_law 1004 = .ok (.iaload, 1) := by decide +kernel
theorem dL_law_1005 : decode cL_law 1005 = .ok (.aload_n 0, 1) := by decide +kernel
theorem dL_law_1006 : decode cL_law 1006 = .ok (.iload 4, 2) := by decide +kernel
theorem dL_law_1008 : decode cL_law 1008 = .ok (.iconst 2, 1) := by decide +kernel
theorem dL_law_1009 : decode cL_law 1009 = .ok (.iadd, 1) := by decide +kernel
theorem dL_law_1010 : decode cL_law 1010 = .ok (.iaload, 1) := by decide +kernel
theorem dL_law_1011 : decode cL_law 1011 = .ok (.invokevirtual 111, 3) := by decide +kernel
theorem dL_law_1014 : decode cL_law 1014 = .ok (.if_icmp .eq 360, 3) := by decide +kernel
theorem dL_law_1017 : decode cL_law 1017 = .ok (.iconst 0, 1) := by decide +kernel
theorem dL_law_1018 : decode cL_law 1018 = .ok (.ireturn, 1) := by decide +kernel
theorem dL_law_1019 : decode cL_law 1019 = .ok (.aload_n 1, 1) := by decide +kernel
theorem dL_law_1020 : decode cL_law 1020 = .ok (.aload_n 0, 1) := by decide +kernel
theorem dL_law_1021 : decode cL_law 1021 = .ok (.iload 4, 2) := by decide +kernel
theorem dL_law_1023 : decode cL_law 1023 = .ok (.iconst 1, 1) := by decide +kernel
theorem dL_law_1024 : decode cL_law 1024 = .ok (.iadd, 1) := by decide +kernel
theorem dL_law_1025 : decode cL_law 1025 = .ok (.iaload, 1) := by decide +kernel
theorem dL_law_1026 : decode cL_law 1026 = .ok (.invokevirtual 112, 3) := by decide +kernel
theorem dL_law_1029 : decode cL_law 1029 = .ok (.aload_n 2, 1) := by decide +kernel
theorem dL_law_1030 : decode cL_law 1030 = .ok (.aload_n 0, 1) := by decide +kernel
theorem dL_law_1031 : decode cL_law 1031 = .ok (.iload 4, 2) := by decide +kernel
theorem dL_law_1033 : decode cL_law 1033 = .ok (.iconst 1, 1) := by decide +kernel
theorem dL_law_1034 : decode cL_law 1034 = .ok (.iadd, 1) := by decide +kernel
theorem dL_law_1035 : decode cL_law 1035 = .ok (.iaload, 1) := by decide +kernel
theorem dL_law_1036 : decode cL_law 1036 = .ok (.invokevirtual 115, 3) := by decide +kernel
theorem dL_law_1039 : decode cL_law 1039 = .ok (.if_icmp .eq 335, 3) := by decide +kernel
theorem dL_law_1042 : decode cL_law 1042 = .ok (.iconst 0, 1) := by decide +kernel
theorem dL_law_1043 : decode cL_law 1043 = .ok (.ireturn, 1) := by decide +kernel
theorem dL_law_1044 : decode cL_law 1044 = .ok (.aload_n 1, 1) := by decide +kernel
theorem dL_law_1045 : decode cL_law 1045 = .ok (.aload_n 0, 1) := by decide +kernel
theorem dL_law_1046 : decode cL_law 1046 = .ok (.iload 4, 2) := by decide +kernel
theorem dL_law_1048 : decode cL_law 1048 = .ok (.iconst 1, 1) := by decide +kernel
theorem dL_law_1049 : decode cL_law 1049 = .ok (.iadd, 1) := by decide +kernel
theorem dL_law_1050 : decode cL_law 1050 = .ok (.iaload, 1) := by decide +kernel
theorem dL_law_1051 : decode cL_law 1051 = .ok (.aload_n 0, 1) := by decide +kernel
theorem dL_law_1052 : decode cL_law 1052 = .ok (.iload 4, 2) := by decide +kernel
theorem dL_law_1054 : decode cL_law 1054 = .ok (.iconst 2, 1) := by decide +kernel
theorem dL_law_1055 : decode cL_law 1055 = .ok (.iadd, 1) := by decide +kernel
theorem dL_law_1056 : decode cL_law 1056 = .ok (.iaload, 1) := by decide +kernel
theorem dL_law_1057 : decode cL_law 1057 = .ok (.aload_n 0, 1) := by decide +kernel
theorem dL_law_1058 : decode cL_law 1058 = .ok (.iload 4, 2) := by decide +kernel
theorem dL_law_1060 : decode cL_law 1060 = .ok (.iconst 3, 1) := by decide +kernel
theorem dL_law_1061 : decode cL_law 1061 = .ok (.iadd, 1) := by decide +kernel
theorem dL_law_1062 : decode cL_law 1062 = .ok (.iaload, 1) := by decide +kernel
theorem dL_law_1063 : decode cL_law 1063 = .ok (.invokevirtual 116, 3) := by decide +kernel
theorem dL_law_1066 : decode cL_law 1066 = .ok (.aload_n 2, 1) := by decide +kernel
theorem dL_law_1067 : decode cL_law 1067 = .ok (.aload_n 0, 1) := by decide +kernel
theorem dL_law_1068 : decode cL_law 1068 = .ok (.iload 4, 2) := by decide +kernel
theorem dL_law_1070 : decode cL_law 1070 = .ok (.iconst 1, 1) := by decide +kernel
theorem dL_law_1071 : decode cL_law 1071 = .ok (.iadd, 1) := by decide +kernel
theorem dL_law_1072 : decode cL_law 1072 = .ok (.iaload, 1) := by decide +kernel
theorem dL_law_1073 : decode cL_law 1073 = .ok (.aload_n 0, 1) := by decide +kernel
theorem dL_law_1074 : decode cL_law 1074 = .ok (.iload 4, 2) := by decide +kernel
theorem dL_law_1076 : decode cL_law 1076 = .ok (.iconst 2, 1) := by decide +kernel
theorem dL_law_1077 : decode cL_law 1077 = .ok (.iadd, 1) := by decide +kernel
theorem dL_law_1078 : decode cL_law 1078 = .ok (.iaload, 1) := by decide +kernel
theorem dL_law_1079 : decode cL_law 1079 = .ok (.aload_n 0, 1) := by decide +kernel
theorem dL_law_1080 : decode cL_law 1080 = .ok (.iload 4, 2) := by decide +kernel
theorem dL_law_1082 : decode cL_law 1082 = .ok (.iconst 3, 1) := by decide +kernel
theorem dL_law_1083 : decode cL_law 1083 = .ok (.iadd, 1) := by decide +kernel
theorem dL_law_1084 : decode cL_law 1084 = .ok (.iaload, 1) := by decide +kernel
theorem dL_law_1085 : decode cL_law 1085 = .ok (.invokevirtual 119, 3) := by decide +kernel
theorem dL_law_1088 : decode cL_law 1088 = .ok (.if_icmp .eq 286, 3) := by decide +kernel
theorem dL_law_1091 : decode cL_law 1091 = .ok (.iconst 0, 1) := by decide +kernel
theorem dL_law_1092 : decode cL_law 1092 = .ok (.ireturn, 1) := by decide +kernel
theorem dL_law_1093 : decode cL_law 1093 = .ok (.aload_n 1, 1) := by decide +kernel
theorem dL_law_1094 : decode cL_law 1094 = .ok (.aload_n 0, 1) := by decide +kernel
theorem dL_law_1095 : decode cL_law 1095 = .ok (.iload 4, 2) := by decide +kernel
theorem dL_law_1097 : decode cL_law 1097 = .ok (.iconst 1, 1) := by decide +kernel
theorem dL_law_1098 : decode cL_law 1098 = .ok (.iadd, 1) := by decide +kernel
theorem dL_law_1099 : decode cL_law 1099 = .ok (.iaload, 1) := by decide +kernel
theorem dL_law_1100 : decode cL_law 1100 = .ok (.aload_n 0, 1) := by decide +kernel
theorem dL_law_1101 : decode cL_law 1101 = .ok (.iload 4, 2) := by decide +kernel
theorem dL_law_1103 : decode cL_law 1103 = .ok (.iconst 2, 1) := by decide +kernel
theorem dL_law_1104 : decode cL_law 1104 = .ok (.iadd, 1) := by decide +kernel
theorem dL_law_1105 : decode cL_law 1105 = .ok (.iaload, 1) := by decide +kernel
theorem dL_law_1106 : decode cL_law 1106 = .ok (.aload_n 0, 1) := by decide +kernel
theorem dL_law_1107 : decode cL_law 1107 = .ok (.iload 4, 2) := by decide +kernel
theorem dL_law_1109 : decode cL_law 1109 = .ok (.iconst 3, 1) := by decide +kernel
theorem dL_law_1110 : decode cL_law 1110 = .ok (.iadd, 1) := by decide +kernel
theorem dL_law_1111 : decode cL_law 1111 = .ok (.iaload, 1) := by decide +kernel
theorem dL_law_1112 : decode cL_law 1112 = .ok (.aload_n 0, 1) := by decide +kernel
theorem dL_law_1113 : decode cL_law 1113 = .ok (.iload 4, 2) := by decide +kernel
theorem dL_law_1115 : decode cL_law 1115 = .ok (.iconst 4, 1) := by decide +kernel
theorem dL_law_1116 : decode cL_law 1116 = .ok (.iadd, 1) := by decide +kernel
theorem dL_law_1117 : decode cL_law 1117 = .ok (.iaload, 1) := by decide +kernel
theorem dL_law_1118 : decode cL_law 1118 = .ok (.aload_n 0, 1) := by decide +kernel
theorem dL_law_1119 : decode cL_law 1119 = .ok (.iload 4, 2) := by decide +kernel
theorem dL_law_1121 : decode cL_law 1121 = .ok (.iconst 5, 1) := by decide +kernel
theorem dL_law_1122 : decode cL_law 1122 = .ok (.iadd, 1) := by decide +kernel
theorem dL_law_1123 : decode cL_law 1123 = .ok (.iaload, 1) := by decide +kernel
theorem dL_law_1124 : decode cL_law 1124 = .ok (.invokevirtual 120, 3) := by decide +kernel
theorem dL_law_1127 : decode cL_law 1127 = .ok (.aload_n 2, 1) := by decide +kernel
theorem dL_law_1128 : decode cL_law 1128 = .ok (.aload_n 0, 1) := by decide +kernel
theorem dL_law_1129 : decode cL_law 1129 = .ok (.iload 4, 2) := by decide +kernel
theorem dL_law_1131 : decode cL_law 1131 = .ok (.iconst 1, 1) := by decide +kernel
theorem dL_law_1132 : decode cL_law 1132 = .ok (.iadd, 1) := by decide +kernel
theorem dL_law_1133 : decode cL_law 1133 = .ok (.iaload, 1) := by decide +kernel
theorem dL_law_1134 : decode cL_law 1134 = .ok (.aload_n 0, 1) := by decide +kernel
theorem dL_law_1135 : decode cL_law 1135 = .ok (.iload 4, 2) := by decide +kernel
theorem dL_law_1137 : decode cL_law 1137 = .ok (.iconst 2, 1) := by decide +kernel
theorem dL_law_1138 : decode cL_law 1138 = .ok (.iadd, 1) := by decide +kernel
theorem dL_law_1139 : decode cL_law 1139 = .ok (.iaload, 1) := by decide +kernel
theorem dL_law_1140 : decode cL_law 1140 = .ok (.aload_n 0, 1) := by decide +kernel
theorem dL_law_1141 : decode cL_law 1141 = .ok (.iload 4, 2) := by decide +kernel
theorem dL_law_1143 : decode cL_law 1143 = .ok (.iconst 3, 1) := by decide +kernel
theorem dL_law_1144 : decode cL_law 1144 = .ok (.iadd, 1) := by decide +kernel
theorem dL_law_1145 : decode cL_law 1145 = .ok (.iaload, 1) := by decide +kernel
theorem dL_law_1146 : decode cL_law 1146 = .ok (.aload_n 0, 1) := by decide +kernel
theorem dL_law_1147 : decode cL_law 1147 = .ok (.iload 4, 2) := by decide +kernel
theorem dL_law_1149 : decode cL_law 1149 = .ok (.iconst 4, 1) := by decide +kernel
theorem dL_law_1150 : decode cL_law 1150 = .ok (.iadd, 1) := by decide +kernel
theorem dL_law_1151 : decode cL_law 1151 = .ok (.iaload, 1) := by decide +kernel
theorem dL_law_1152 : decode cL_law 1152 = .ok (.aload_n 0, 1) := by decide +kernel
theorem dL_law_1153 : decode cL_law 1153 = .ok (.iload 4, 2) := by decide +kernel
theorem dL_law_1155 : decode cL_law 1155 = .ok (.iconst 5, 1) := by decide +kernel
theorem dL_law_1156 : decode cL_law 1156 = .ok (.iadd, 1) := by decide +kernel
theorem dL_law_1157 : decode cL_law 1157 = .ok (.iaload, 1) := by decide +kernel
theorem dL_law_1158 : decode cL_law 1158 = .ok (.invokevirtual 124, 3) := by decide +kernel
theorem dL_law_1161 : decode cL_law 1161 = .ok (.if_icmp .eq 213, 3) := by decide +kernel
theorem dL_law_1164 : decode cL_law 1164 = .ok (.iconst 0, 1) := by decide +kernel
theorem dL_law_1165 : decode cL_law 1165 = .ok (.ireturn, 1) := by decide +kernel
theorem dL_law_1166 : decode cL_law 1166 = .ok (.aload_n 1, 1) := by decide +kernel
theorem dL_law_1167 : decode cL_law 1167 = .ok (.aload_n 0, 1) := by decide +kernel
theorem dL_law_1168 : decode cL_law 1168 = .ok (.iload 4, 2) := by decide +kernel
theorem dL_law_1170 : decode cL_law 1170 = .ok (.iconst 1, 1) := by decide +kernel
theorem dL_law_1171 : decode cL_law 1171 = .ok (.iadd, 1) := by decide +kernel
theorem dL_law_1172 : decode cL_law 1172 = .ok (.iaload, 1) := by decide +kernel
theorem dL_law_1173 : decode cL_law 1173 = .ok (.aload_n 0, 1) := by decide +kernel
theorem dL_law_1174 : decode cL_law 1174 = .ok (.iload 4, 2) := by decide +kernel
theorem dL_law_1176 : decode cL_law 1176 = .ok (.iconst 2, 1) := by decide +kernel
theorem dL_law_1177 : decode cL_law 1177 = .ok (.iadd, 1) := by decide +kernel
theorem dL_law_1178 : decode cL_law 1178 = .ok (.iaload, 1) := by decide +kernel
theorem dL_law_1179 : decode cL_law 1179 = .ok (.aload_n 0, 1) := by decide +kernel
theorem dL_law_1180 : decode cL_law 1180 = .ok (.iload 4, 2) := by decide +kernel
theorem dL_law_1182 : decode cL_law 1182 = .ok (.iconst 3, 1) := by decide +kernel
theorem dL_law_1183 : decode cL_law 1183 = .ok (.iadd, 1) := by decide +kernel
theorem dL_law_1184 : decode cL_law 1184 = .ok (.iaload, 1) := by decide +kernel
theorem dL_law_1185 : decode cL_law 1185 = .ok (.aload_n 0, 1) := by decide +kernel
theorem dL_law_1186 : decode cL_law 1186 = .ok (.iload 4, 2) := by decide +kernel
theorem dL_law_1188 : decode cL_law 1188 = .ok (.iconst 4, 1) := by decide +kernel
theorem dL_law_1189 : decode cL_law 1189 = .ok (.iadd, 1) := by decide +kernel
theorem dL_law_1190 : decode cL_law 1190 = .ok (.iaload, 1) := by decide +kernel
theorem dL_law_1191 : decode cL_law 1191 = .ok (.invokevirtual 125, 3) := by decide +kernel
theorem dL_law_1194 : decode cL_law 1194 = .ok (.aload_n 2, 1) := by decide +kernel
theorem dL_law_1195 : decode cL_law 1195 = .ok (.aload_n 0, 1) := by decide +kernel
theorem dL_law_1196 : decode cL_law 1196 = .ok (.iload 4, 2) := by decide +kernel
theorem dL_law_1198 : decode cL_law 1198 = .ok (.iconst 1, 1) := by decide +kernel
theorem dL_law_1199 : decode cL_law 1199 = .ok (.iadd, 1) := by decide +kernel
theorem dL_law_1200 : decode cL_law 1200 = .ok (.iaload, 1) := by decide +kernel
theorem dL_law_1201 : decode cL_law 1201 = .ok (.aload_n 0, 1) := by decide +kernel
theorem dL_law_1202 : decode cL_law 1202 = .ok (.iload 4, 2) := by decide +kernel
theorem dL_law_1204 : decode cL_law 1204 = .ok (.iconst 2, 1) := by decide +kernel
theorem dL_law_1205 : decode cL_law 1205 = .ok (.iadd, 1) := by decide +kernel
theorem dL_law_1206 : decode cL_law 1206 = .ok (.iaload, 1) := by decide +kernel
theorem dL_law_1207 : decode cL_law 1207 = .ok (.aload_n 0, 1) := by decide +kernel
theorem dL_law_1208 : decode cL_law 1208 = .ok (.iload 4, 2) := by decide +kernel
theorem dL_law_1210 : decode cL_law 1210 = .ok (.iconst 3, 1) := by decide +kernel
theorem dL_law_1211 : decode cL_law 1211 = .ok (.iadd, 1) := by decide +kernel
theorem dL_law_1212 : decode cL_law 1212 = .ok (.iaload, 1) := by decide +kernel
theorem dL_law_1213 : decode cL_law 1213 = .ok (.aload_n 0, 1) := by decide +kernel
theorem dL_law_1214 : decode cL_law 1214 = .ok (.iload 4, 2) := by decide +kernel
theorem dL_law_1216 : decode cL_law 1216 = .ok (.iconst 4, 1) := by decide +kernel
theorem dL_law_1217 : decode cL_law 1217 = .ok (.iadd, 1) := by decide +kernel
theorem dL_law_1218 : decode cL_law 1218 = .ok (.iaload, 1) := by decide +kernel
theorem dL_law_1219 : decode cL_law 1219 = .ok (.invokevirtual 128, 3) := by decide +kernel
theorem dL_law_1222 : decode cL_law 1222 = .ok (.if_icmp .eq 152, 3) := by decide +kernel
theorem dL_law_1225 : decode cL_law 1225 = .ok (.iconst 0, 1) := by decide +kernel
theorem dL_law_1226 : decode cL_law 1226 = .ok (.ireturn, 1) := by decide +kernel
theorem dL_law_1227 : decode cL_law 1227 = .ok (.aload_n 1, 1) := by decide +kernel
theorem dL_law_1228 : decode cL_law 1228 = .ok (.aload_n 0, 1) := by decide +kernel
theorem dL_law_1229 : decode cL_law 1229 = .ok (.iload 4, 2) := by decide +kernel
theorem dL_law_1231 : decode cL_law 1231 = .ok (.iconst 1, 1) := by decide +kernel
theorem dL_law_1232 : decode cL_law 1232 = .ok (.iadd, 1) := by decide +kernel
theorem dL_law_1233 : decode cL_law 1233 = .ok (.iaload, 1) := by decide +kernel
theorem dL_law_1234 : decode cL_law 1234 = .ok (.aload_n 0, 1) := by decide +kernel
theorem dL_law_1235 : decode cL_law 1235 = .ok (.iload 4, 2) := by decide +kernel
theorem dL_law_1237 : decode cL_law 1237 = .ok (.iconst 2, 1) := by decide +kernel
theorem dL_law_1238 : decode cL_law 1238 = .ok (.iadd, 1) := by decide +kernel
theorem dL_law_1239 : decode cL_law 1239 = .ok (.iaload, 1) := by decide +kernel
theorem dL_law_1240 : decode cL_law 1240 = .ok (.aload_n 0, 1) := by decide +kernel
theorem dL_law_1241 : decode cL_law 1241 = .ok (.iload 4, 2) := by decide +kernel
theorem dL_law_1243 : decode cL_law 1243 = .ok (.iconst 3, 1) := by decide +kernel
theorem dL_law_1244 : decode cL_law 1244 = .ok (.iadd, 1) := by decide +kernel
theorem dL_law_1245 : decode cL_law 1245 = .ok (.iaload, 1) := by decide +kernel
theorem dL_law_1246 : decode cL_law 1246 = .ok (.aload_n 0, 1) := by decide +kernel
theorem dL_law_1247 : decode cL_law 1247 = .ok (.iload 4, 2) := by decide +kernel
theorem dL_law_1249 : decode cL_law 1249 = .ok (.iconst 4, 1) := by decide +kernel
theorem dL_law_1250 : decode cL_law 1250 = .ok (.iadd, 1) := by decide +kernel
theorem dL_law_1251 : decode cL_law 1251 = .ok (.iaload, 1) := by decide +kernel
theorem dL_law_1252 : decode cL_law 1252 = .ok (.aload_n 0, 1) := by decide +kernel
theorem dL_law_1253 : decode cL_law 1253 = .ok (.iload 4, 2) := by decide +kernel
theorem dL_law_1255 : decode cL_law 1255 = .ok (.iconst 5, 1) := by decide +kernel
theorem dL_law_1256 : decode cL_law 1256 = .ok (.iadd, 1) := by decide +kernel
theorem dL_law_1257 : decode cL_law 1257 = .ok (.iaload, 1) := by decide +kernel
theorem dL_law_1258 : decode cL_law 1258 = .ok (.invokevirtual 129, 3) := by decide +kernel
theorem dL_law_1261 : decode cL_law 1261 = .ok (.aload_n 2, 1) := by decide +kernel
theorem dL_law_1262 : decode cL_law 1262 = .ok (.aload_n 0, 1) := by decide +kernel
theorem dL_law_1263 : decode cL_law 1263 = .ok (.iload 4, 2) := by decide +kernel
theorem dL_law_1265 : decode cL_law 1265 = .ok (.iconst 1, 1) := by decide +kernel
theorem dL_law_1266 : decode cL_law 1266 = .ok (.iadd, 1) := by decide +kernel
theorem dL_law_1267 : decode cL_law 1267 = .ok (.iaload, 1) := by decide +kernel
theorem dL_law_1268 : decode cL_law 1268 = .ok (.aload_n 0, 1) := by decide +kernel
theorem dL_law_1269 : decode cL_law 1269 = .ok (.iload 4, 2) := by decide +kernel
theorem dL_law_1271 : decode cL_law 1271 = .ok (.iconst 2, 1) := by decide +kernel
theorem dL_law_1272 : decode cL_law 1272 = .ok (.iadd, 1) := by decide +kernel
theorem dL_law_1273 : decode cL_law 1273 = .ok (.iaload, 1) := by decide +kernel
theorem dL_law_1274 : decode cL_law 1274 = .ok (.aload_n 0, 1) := by decide +kernel
theorem dL_law_1275 : decode cL_law 1275 = .ok (.iload 4, 2) := by decide +kernel
theorem dL_law_1277 : decode cL_law 1277 = .ok (.iconst 3, 1) := by decide +kernel
theorem dL_law_1278 : decode cL_law 1278 = .ok (.iadd, 1) := by decide +kernel
theorem dL_law_1279 : decode cL_law 1279 = .ok (.iaload, 1) := by decide +kernel
theorem dL_law_1280 : decode cL_law 1280 = .ok (.aload_n 0, 1) := by decide +kernel
theorem dL_law_1281 : decode cL_law 1281 = .ok (.iload 4, 2) := by decide +kernel
theorem dL_law_1283 : decode cL_law 1283 = .ok (.iconst 4, 1) := by decide +kernel
theorem dL_law_1284 : decode cL_law 1284 = .ok (.iadd, 1) := by decide +kernel
theorem dL_law_1285 : decode cL_law 1285 = .ok (.iaload, 1) := by decide +kernel
theorem dL_law_1286 : decode cL_law 1286 = .ok (.aload_n 0, 1) := by decide +kernel
theorem dL_law_1287 : decode cL_law 1287 = .ok (.iload 4, 2) := by decide +kernel
theorem dL_law_1289 : decode cL_law 1289 = .ok (.iconst 5, 1) := by decide +kernel
theorem dL_law_1290 : decode cL_law 1290 = .ok (.iadd, 1) := by decide +kernel
theorem dL_law_1291 : decode cL_law 1291 = .ok (.iaload, 1) := by decide +kernel
theorem dL_law_1292 : decode cL_law 1292 = .ok (.invokevirtual 132, 3) := by decide +kernel
theorem dL_law_1295 : decode cL_law 1295 = .ok (.if_icmp .eq 79, 3) := by decide +kernel
theorem dL_law_1298 : decode cL_law 1298 = .ok (.iconst 0, 1) := by decide +kernel
theorem dL_law_1299 : decode cL_law 1299 = .ok (.ireturn, 1) := by decide +kernel
theorem dL_law_1300 : decode cL_law 1300 = .ok (.aload_n 1, 1) := by decide +kernel
theorem dL_law_1301 : decode cL_law 1301 = .ok (.aload_n 0, 1) := by decide +kernel
theorem dL_law_1302 : decode cL_law 1302 = .ok (.iload 4, 2) := by decide +kernel
theorem dL_law_1304 : decode cL_law 1304 = .ok (.iconst 1, 1) := by decide +kernel
theorem dL_law_1305 : decode cL_law 1305 = .ok (.iadd, 1) := by decide +kernel
theorem dL_law_1306 : decode cL_law 1306 = .ok (.iaload, 1) := by decide +kernel
theorem dL_law_1307 : decode cL_law 1307 = .ok (.aload_n 0, 1) := by decide +kernel
theorem dL_law_1308 : decode cL_law 1308 = .ok (.iload 4, 2) := by decide +kernel
theorem dL_law_1310 : decode cL_law 1310 = .ok (.iconst 2, 1) := by decide +kernel
theorem dL_law_1311 : decode cL_law 1311 = .ok (.iadd, 1) := by decide +kernel
theorem dL_law_1312 : decode cL_law 1312 = .ok (.iaload, 1) := by decide +kernel
theorem dL_law_1313 : decode cL_law 1313 = .ok (.aload_n 0, 1) := by decide +kernel
theorem dL_law_1314 : decode cL_law 1314 = .ok (.iload 4, 2) := by decide +kernel
theorem dL_law_1316 : decode cL_law 1316 = .ok (.iconst 3, 1) := by decide +kernel
theorem dL_law_1317 : decode cL_law 1317 = .ok (.iadd, 1) := by decide +kernel
theorem dL_law_1318 : decode cL_law 1318 = .ok (.iaload, 1) := by decide +kernel
theorem dL_law_1319 : decode cL_law 1319 = .ok (.invokevirtual 133, 3) := by decide +kernel
theorem dL_law_1322 : decode cL_law 1322 = .ok (.aload_n 2, 1) := by decide +kernel
theorem dL_law_1323 : decode cL_law 1323 = .ok (.aload_n 0, 1) := by decide +kernel
theorem dL_law_1324 : decode cL_law 1324 = .ok (.iload 4, 2) := by decide +kernel
theorem dL_law_1326 : decode cL_law 1326 = .ok (.iconst 1, 1) := by decide +kernel
theorem dL_law_1327 : decode cL_law 1327 = .ok (.iadd, 1) := by decide +kernel
theorem dL_law_1328 : decode cL_law 1328 = .ok (.iaload, 1) := by decide +kernel
theorem dL_law_1329 : decode cL_law 1329 = .ok (.aload_n 0, 1) := by decide +kernel
theorem dL_law_1330 : decode cL_law 1330 = .ok (.iload 4, 2) := by decide +kernel
theorem dL_law_1332 : decode cL_law 1332 = .ok (.iconst 2, 1) := by decide +kernel
theorem dL_law_1333 : decode cL_law 1333 = .ok (.iadd, 1) := by decide +kernel
theorem dL_law_1334 : decode cL_law 1334 = .ok (.iaload, 1) := by decide +kernel
theorem dL_law_1335 : decode cL_law 1335 = .ok (.aload_n 0, 1) := by decide +kernel
theorem dL_law_1336 : decode cL_law 1336 = .ok (.iload 4, 2) := by decide +kernel
theorem dL_law_1338 : decode cL_law 1338 = .ok (.iconst 3, 1) := by decide +kernel
theorem dL_law_1339 : decode cL_law 1339 = .ok (.iadd, 1) := by decide +kernel
theorem dL_law_1340 : decode cL_law 1340 = .ok (.iaload, 1) := by decide +kernel
theorem dL_law_1341 : decode cL_law 1341 = .ok (.invokevirtual 136, 3) := by decide +kernel
theorem dL_law_1344 : decode cL_law 1344 = .ok (.if_icmp .eq 30, 3) := by decide +kernel
theorem dL_law_1347 : decode cL_law 1347 = .ok (.iconst 0, 1) := by decide +kernel
theorem dL_law_1348 : decode cL_law 1348 = .ok (.ireturn, 1) := by decide +kernel
theorem dL_law_1349 : decode cL_law 1349 = .ok (.aload_n 1, 1) := by decide +kernel
theorem dL_law_1350 : decode cL_law 1350 = .ok (.aload_n 0, 1) := by decide +kernel
theorem dL_law_1351 : decode cL_law 1351 = .ok (.iload 4, 2) := by decide +kernel
theorem dL_law_1353 : decode cL_law 1353 = .ok (.iconst 1, 1) := by decide +kernel
theorem dL_law_1354 : decode cL_law 1354 = .ok (.iadd, 1) := by decide +kernel
theorem dL_law_1355 : decode cL_law 1355 = .ok (.iaload, 1) := by decide +kernel
theorem dL_law_1356 : decode cL_law 1356 = .ok (.invokevirtual 137, 3) := by decide +kernel
theorem dL_law_1359 : decode cL_law 1359 = .ok (.aload_n 2, 1) := by decide +kernel
theorem dL_law_1360 : decode cL_law 1360 = .ok (.aload_n 0, 1) := by decide +kernel
theorem dL_law_1361 : decode cL_law 1361 = .ok (.iload 4, 2) := by decide +kernel
theorem dL_law_1363 : decode cL_law 1363 = .ok (.iconst 1, 1) := by decide +kernel
theorem dL_law_1364 : decode cL_law 1364 = .ok (.iadd, 1) := by decide +kernel
theorem dL_law_1365 : decode cL_law 1365 = .ok (.iaload, 1) := by decide +kernel
theorem dL_law_1366 : decode cL_law 1366 = .ok (.invokevirtual 140, 3) := by decide +kernel
theorem dL_law_1369 : decode cL_law 1369 = .ok (.if_icmp .eq 5, 3) := by decide +kernel
theorem dL_law_1372 : decode cL_law 1372 = .ok (.iconst 0, 1) := by decide +kernel
theorem dL_law_1373 : decode cL_law 1373 = .ok (.ireturn, 1) := by decide +kernel
theorem dL_law_1374 : decode cL_law 1374 = .ok (.iinc 4 6, 3) := by decide +kernel
theorem dL_law_1377 : decode cL_law 1377 = .ok (.goto (-1354), 3) := by decide +kernel
theorem dL_law_1380 : decode cL_law 1380 = .ok (.iconst 1, 1) := by decide +kernel
theorem dL_law_1381 : decode cL_law 1381 = .ok (.ireturn, 1) := by decide +kernel
