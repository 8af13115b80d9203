def M_Law_law : mM := ("NineBarsLaw", ⟨"NineBarsLaw", "law", "([I)Z"⟩, code, 8, some .boolean, [], 63)
theorem tb_cl_Law_8 : mTB (Cond.classLink "NineBarsLaw" 8 "NineBars") := tbq1 27 (by decide +kernel) rfl
theorem tb_is_Nb : mTB (Cond.instantiable "NineBars" 19) := tbq1 28 (by decide +kernel) rfl
theorem d_Law_law_0 : decode code 0 = .ok (.new 8, 3) := by decide +kernel
theorem d_Law_law_3 : decode code 3 = .ok (.dup, 1) := by decide +kernel
theorem d_Law_law_4 : decode code 4 = .ok (.invokespecial 131, 3) := by decide +kernel
theorem tb_ml_Law_131 : mTB (Cond.methodLink "NineBarsLaw" 131 ⟨"NineBars", "<init>", "()V"⟩) := tbq1 29 (by decide +kernel) rfl
theorem tb_im_Nb_init : mTB (Cond.instanceMethod ⟨"NineBars", "<init>", "()V"⟩) := tbq1 30 (by decide +kernel) rfl
theorem d_Law_law_7 : decode code 7 = .ok (.astore_n 1, 1) := by decide +kernel
theorem tb_cl_Law_132 : mTB (Cond.classLink "NineBarsLaw" 132 "NineBarsModel") := tbq6 200 (by decide +kernel) rfl
theorem tb_is_Md : mTB (Cond.instantiable "NineBarsModel" 40) := tbq6 201 (by decide +kernel) rfl
theorem d_Law_law_8 : decode code 8 = .ok (.new 132, 3) := by decide +kernel
theorem d_Law_law_11 : decode code 11 = .ok (.dup, 1) := by decide +kernel
theorem d_Law_law_12 : decode code 12 = .ok (.invokespecial 134, 3) := by decide +kernel
theorem tb_ml_Law_134 : mTB (Cond.methodLink "NineBarsLaw" 134 ⟨"NineBarsModel", "<init>", "()V"⟩) := tbq6 202 (by decide +kernel) rfl
theorem tb_im_Md_init : mTB (Cond.instanceMethod ⟨"NineBarsModel", "<init>", "()V"⟩) := tbq6 203 (by decide +kernel) rfl
theorem d_Law_law_15 : decode code 15 = .ok (.astore_n 2, 1) := by decide +kernel
theorem d_Law_law_16 : decode code 16 = .ok (.iconst 1, 1) := by decide +kernel
theorem d_Law_law_17 : decode code 17 = .ok (.newarray .long, 2) := by decide +kernel
theorem d_Law_law_19 : decode code 19 = .ok (.astore_n 3, 1) := by decide +kernel
theorem d_Law_law_20 : decode code 20 = .ok (.iconst 0, 1) := by decide +kernel
theorem d_Law_law_21 : decode code 21 = .ok (.istore 4, 2) := by decide +kernel
theorem d_Law_law_23 : decode code 23 = .ok (.iload 4, 2) := by decide +kernel
theorem d_Law_law_25 : decode code 25 = .ok (.aload_n 0, 1) := by decide +kernel
theorem d_Law_law_26 : decode code 26 = .ok (.arraylength, 1) := by decide +kernel
theorem d_Law_law_27 : decode code 27 = .ok (.bipush 6, 2) := by decide +kernel
theorem d_Law_law_29 : decode code 29 = .ok (.isub, 1) := by decide +kernel
theorem d_Law_law_30 : decode code 30 = .ok (.if_icmp .gt 2618, 3) := by decide +kernel
theorem d_Law_law_2648 : decode code 2648 = .ok (.iconst 1, 1) := by decide +kernel
theorem d_Law_law_2649 : decode code 2649 = .ok (.ireturn, 1) := by decide +kernel
theorem d_Law_law_33 : decode code 33 = .ok (.aload_n 0, 1) := by decide +kernel
theorem d_Law_law_34 : decode code 34 = .ok (.iload 4, 2) := by decide +kernel
theorem d_Law_law_36 : decode code 36 = .ok (.iaload, 1) := by decide +kernel
theorem d_Law_law_37 : decode code 37 = .ok (.bipush 63, 2) := by decide +kernel
theorem d_Law_law_39 : decode code 39 = .ok (.iand, 1) := by decide +kernel
theorem d_Law_law_40 : decode code 40 = .ok (.tableswitch 2602 0 42 #[188, 261, 317, 342, 410, 478, 491, 559, 572, 625, 678, 731, 799, 855, 923, 936, 999, 1079, 1135, 1178, 1234, 1290, 1353, 1409, 1453, 1509, 1565, 1633, 1701, 1757, 1801, 1869, 1924, 1991, 2071, 2151, 2234, 2278, 2338, 2449, 2505, 2541, 2577], 188) := by decide +kernel
theorem d_Law_law_228 : decode code 228 = .ok (.aload_n 1, 1) := by decide +kernel
theorem d_Law_law_229 : decode code 229 = .ok (.aload_n 0, 1) := by decide +kernel
theorem d_Law_law_230 : decode code 230 = .ok (.iload 4, 2) := by decide +kernel
theorem d_Law_law_232 : decode code 232 = .ok (.iconst 1, 1) := by decide +kernel
theorem d_Law_law_233 : decode code 233 = .ok (.iadd, 1) := by decide +kernel
theorem d_Law_law_234 : decode code 234 = .ok (.iaload, 1) := by decide +kernel
theorem d_Law_law_235 : decode code 235 = .ok (.aload_n 0, 1) := by decide +kernel
theorem d_Law_law_236 : decode code 236 = .ok (.iload 4, 2) := by decide +kernel
theorem d_Law_law_238 : decode code 238 = .ok (.iconst 2, 1) := by decide +kernel
theorem d_Law_law_239 : decode code 239 = .ok (.iadd, 1) := by decide +kernel
theorem d_Law_law_240 : decode code 240 = .ok (.iaload, 1) := by decide +kernel
theorem d_Law_law_241 : decode code 241 = .ok (.aload_n 0, 1) := by decide +kernel
theorem d_Law_law_242 : decode code 242 = .ok (.iload 4, 2) := by decide +kernel
theorem d_Law_law_244 : decode code 244 = .ok (.iconst 3, 1) := by decide +kernel
theorem d_Law_law_245 : decode code 245 = .ok (.iadd, 1) := by decide +kernel
theorem d_Law_law_246 : decode code 246 = .ok (.iaload, 1) := by decide +kernel
theorem d_Law_law_247 : decode code 247 = .ok (.aload_n 0, 1) := by decide +kernel
theorem d_Law_law_248 : decode code 248 = .ok (.iload 4, 2) := by decide +kernel
theorem d_Law_law_250 : decode code 250 = .ok (.iconst 4, 1) := by decide +kernel
theorem d_Law_law_251 : decode code 251 = .ok (.iadd, 1) := by decide +kernel
theorem d_Law_law_252 : decode code 252 = .ok (.iaload, 1) := by decide +kernel
theorem d_Law_law_253 : decode code 253 = .ok (.aload_n 0, 1) := by decide +kernel
theorem d_Law_law_254 : decode code 254 = .ok (.iload 4, 2) := by decide +kernel
theorem d_Law_law_256 : decode code 256 = .ok (.iconst 5, 1) := by decide +kernel
theorem d_Law_law_257 : decode code 257 = .ok (.iadd, 1) := by decide +kernel
theorem d_Law_law_258 : decode code 258 = .ok (.iaload, 1) := by decide +kernel
theorem d_Law_law_259 : decode code 259 = .ok (.invokevirtual 135, 3) := by decide +kernel
theorem tb_ml_Law_135 : mTB (Cond.methodLink "NineBarsLaw" 135 ⟨"NineBars", "feed", "(IIIII)I"⟩) := tbq2 215 (by decide +kernel) rfl
theorem tb_im_Nb_feed : mTB (Cond.instanceMethod ⟨"NineBars", "feed", "(IIIII)I"⟩) := tbq2 216 (by decide +kernel) rfl
theorem tb_se_Nb_feed : mTB (Cond.selects "NineBars" ⟨"NineBars", "feed", "(IIIII)I"⟩ ⟨"NineBars", "feed", "(IIIII)I"⟩) := tbq2 217 (by decide +kernel) rfl
theorem mv_Nb_feed {M : mM} {idx : Nat} (h : mTB (Cond.methodLink (mO M) idx ⟨"NineBars", "feed", "(IIIII)I"⟩)) : mCaV M M_Nb_feed idx 10 := ⟨h, tb_im_Nb_feed, tb_se_Nb_feed, by decide, TX10, 19, rfl⟩
theorem d_Law_law_262 : decode code 262 = .ok (.aload_n 2, 1) := by decide +kernel
theorem d_Law_law_263 : decode code 263 = .ok (.aload_n 0, 1) := by decide +kernel
theorem d_Law_law_264 : decode code 264 = .ok (.iload 4, 2) := by decide +kernel
theorem d_Law_law_266 : decode code 266 = .ok (.iconst 1, 1) := by decide +kernel
theorem d_Law_law_267 : decode code 267 = .ok (.iadd, 1) := by decide +kernel
theorem d_Law_law_268 : decode code 268 = .ok (.iaload, 1) := by decide +kernel
theorem d_Law_law_269 : decode code 269 = .ok (.aload_n 0, 1) := by decide +kernel
theorem d_Law_law_270 : decode code 270 = .ok (.iload 4, 2) := by decide +kernel
theorem d_Law_law_272 : decode code 272 = .ok (.iconst 2, 1) := by decide +kernel
theorem d_Law_law_273 : decode code 273 = .ok (.iadd, 1) := by decide +kernel
theorem d_Law_law_274 : decode code 274 = .ok (.iaload, 1) := by decide +kernel
theorem d_Law_law_275 : decode code 275 = .ok (.aload_n 0, 1) := by decide +kernel
theorem d_Law_law_276 : decode code 276 = .ok (.iload 4, 2) := by decide +kernel
theorem d_Law_law_278 : decode code 278 = .ok (.iconst 3, 1) := by decide +kernel
theorem d_Law_law_279 : decode code 279 = .ok (.iadd, 1) := by decide +kernel
theorem d_Law_law_280 : decode code 280 = .ok (.iaload, 1) := by decide +kernel
theorem d_Law_law_281 : decode code 281 = .ok (.aload_n 0, 1) := by decide +kernel
theorem d_Law_law_282 : decode code 282 = .ok (.iload 4, 2) := by decide +kernel
theorem d_Law_law_284 : decode code 284 = .ok (.iconst 4, 1) := by decide +kernel
theorem d_Law_law_285 : decode code 285 = .ok (.iadd, 1) := by decide +kernel
theorem d_Law_law_286 : decode code 286 = .ok (.iaload, 1) := by decide +kernel
theorem d_Law_law_287 : decode code 287 = .ok (.aload_n 0, 1) := by decide +kernel
theorem d_Law_law_288 : decode code 288 = .ok (.iload 4, 2) := by decide +kernel
theorem d_Law_law_290 : decode code 290 = .ok (.iconst 5, 1) := by decide +kernel
theorem d_Law_law_291 : decode code 291 = .ok (.iadd, 1) := by decide +kernel
theorem d_Law_law_292 : decode code 292 = .ok (.iaload, 1) := by decide +kernel
theorem d_Law_law_293 : decode code 293 = .ok (.invokevirtual 139, 3) := by decide +kernel
theorem tb_ml_Law_139 : mTB (Cond.methodLink "NineBarsLaw" 139 ⟨"NineBarsModel", "feed", "(IIIII)I"⟩) := tbq7 93 (by decide +kernel) rfl
theorem tb_im_Md_feed : mTB (Cond.instanceMethod ⟨"NineBarsModel", "feed", "(IIIII)I"⟩) := tbq7 94 (by decide +kernel) rfl
theorem tb_se_Md_feed : mTB (Cond.selects "NineBarsModel" ⟨"NineBarsModel", "feed", "(IIIII)I"⟩ ⟨"NineBarsModel", "feed", "(IIIII)I"⟩) := tbq7 95 (by decide +kernel) rfl
theorem mv_Md_feed {M : mM} {idx : Nat} (h : mTB (Cond.methodLink (mO M) idx ⟨"NineBarsModel", "feed", "(IIIII)I"⟩)) : mCaV M M_Md_feed idx 11 := ⟨h, tb_im_Md_feed, tb_se_Md_feed, by decide, TX11, 40, rfl⟩
theorem d_Law_law_296 : decode code 296 = .ok (.if_icmp .eq 2346, 3) := by decide +kernel
theorem d_Law_law_2642 : decode code 2642 = .ok (.iinc 4 6, 3) := by decide +kernel
theorem d_Law_law_2645 : decode code 2645 = .ok (.goto (-2622), 3) := by decide +kernel
theorem d_Law_law_299 : decode code 299 = .ok (.iconst 0, 1) := by decide +kernel
theorem d_Law_law_300 : decode code 300 = .ok (.ireturn, 1) := by decide +kernel
theorem d_Law_law_301 : decode code 301 = .ok (.aload_n 1, 1) := by decide +kernel
theorem d_Law_law_302 : decode code 302 = .ok (.aload_n 0, 1) := by decide +kernel
theorem d_Law_law_303 : decode code 303 = .ok (.iload 4, 2) := by decide +kernel
theorem d_Law_law_305 : decode code 305 = .ok (.iconst 1, 1) := by decide +kernel
theorem d_Law_law_306 : decode code 306 = .ok (.iadd, 1) := by decide +kernel
theorem d_Law_law_307 : decode code 307 = .ok (.iaload, 1) := by decide +kernel
theorem d_Law_law_308 : decode code 308 = .ok (.aload_n 3, 1) := by decide +kernel
theorem d_Law_law_309 : decode code 309 = .ok (.invokestatic 140, 3) := by decide +kernel
theorem tb_ml_Law_140 : mTB (Cond.methodLink "NineBarsLaw" 140 ⟨"NineBarsLaw", "box", "(LNineBars;I[J)I"⟩) := tbq3 141 (by decide +kernel) rfl
theorem tb_sm_Law_box : mTB (Cond.static ⟨"NineBarsLaw", "box", "(LNineBars;I[J)I"⟩) := tbq3 142 (by decide +kernel) rfl
theorem d_Law_law_312 : decode code 312 = .ok (.istore 5, 2) := by decide +kernel
theorem d_Law_law_314 : decode code 314 = .ok (.aload_n 2, 1) := by decide +kernel
theorem d_Law_law_315 : decode code 315 = .ok (.aload_n 0, 1) := by decide +kernel
theorem d_Law_law_316 : decode code 316 = .ok (.iload 4, 2) := by decide +kernel
theorem d_Law_law_318 : decode code 318 = .ok (.iconst 1, 1) := by decide +kernel
theorem d_Law_law_319 : decode code 319 = .ok (.iadd, 1) := by decide +kernel
theorem d_Law_law_320 : decode code 320 = .ok (.iaload, 1) := by decide +kernel
theorem d_Law_law_321 : decode code 321 = .ok (.invokevirtual 145, 3) := by decide +kernel
theorem tb_ml_Law_145 : mTB (Cond.methodLink "NineBarsLaw" 145 ⟨"NineBarsModel", "box", "(I)I"⟩) := tbq7 97 (by decide +kernel) rfl
theorem tb_im_Md_box : mTB (Cond.instanceMethod ⟨"NineBarsModel", "box", "(I)I"⟩) := tbq7 98 (by decide +kernel) rfl
theorem tb_se_Md_box : mTB (Cond.selects "NineBarsModel" ⟨"NineBarsModel", "box", "(I)I"⟩ ⟨"NineBarsModel", "box", "(I)I"⟩) := tbq7 99 (by decide +kernel) rfl
theorem mv_Md_box {M : mM} {idx : Nat} (h : mTB (Cond.methodLink (mO M) idx ⟨"NineBarsModel", "box", "(I)I"⟩)) : mCaV M M_Md_box idx 11 := ⟨h, tb_im_Md_box, tb_se_Md_box, by decide, TX11, 40, rfl⟩
theorem d_Law_law_324 : decode code 324 = .ok (.istore 6, 2) := by decide +kernel
theorem d_Law_law_326 : decode code 326 = .ok (.aload_n 2, 1) := by decide +kernel
theorem d_Law_law_327 : decode code 327 = .ok (.invokevirtual 146, 3) := by decide +kernel
theorem tb_ml_Law_146 : mTB (Cond.methodLink "NineBarsLaw" 146 ⟨"NineBarsModel", "thrown", "()I"⟩) := tbq7 89 (by decide +kernel) rfl
theorem tb_im_Md_thrown : mTB (Cond.instanceMethod ⟨"NineBarsModel", "thrown", "()I"⟩) := tbq7 90 (by decide +kernel) rfl
theorem tb_se_Md_thrown : mTB (Cond.selects "NineBarsModel" ⟨"NineBarsModel", "thrown", "()I"⟩ ⟨"NineBarsModel", "thrown", "()I"⟩) := tbq7 91 (by decide +kernel) rfl
theorem mv_Md_thrown {M : mM} {idx : Nat} (h : mTB (Cond.methodLink (mO M) idx ⟨"NineBarsModel", "thrown", "()I"⟩)) : mCaV M M_Md_thrown idx 11 := ⟨h, tb_im_Md_thrown, tb_se_Md_thrown, by decide, TX11, 40, rfl⟩
theorem d_Law_law_330 : decode code 330 = .ok (.iload 5, 2) := by decide +kernel
theorem d_Law_law_332 : decode code 332 = .ok (.if_icmp .eq 5, 3) := by decide +kernel
theorem d_Law_law_337 : decode code 337 = .ok (.iload 5, 2) := by decide +kernel
theorem d_Law_law_339 : decode code 339 = .ok (.ifCond .ne 15, 3) := by decide +kernel
theorem d_Law_law_354 : decode code 354 = .ok (.goto 2288, 3) := by decide +kernel
theorem d_Law_law_342 : decode code 342 = .ok (.aload_n 3, 1) := by decide +kernel
theorem d_Law_law_343 : decode code 343 = .ok (.iconst 0, 1) := by decide +kernel
theorem d_Law_law_344 : decode code 344 = .ok (.laload, 1) := by decide +kernel
theorem d_Law_law_345 : decode code 345 = .ok (.iload 6, 2) := by decide +kernel
theorem d_Law_law_347 : decode code 347 = .ok (.i2l, 1) := by decide +kernel
theorem d_Law_law_348 : decode code 348 = .ok (.lcmp, 1) := by decide +kernel
theorem d_Law_law_349 : decode code 349 = .ok (.ifCond .eq 5, 3) := by decide +kernel
theorem d_Law_law_352 : decode code 352 = .ok (.iconst 0, 1) := by decide +kernel
theorem d_Law_law_353 : decode code 353 = .ok (.ireturn, 1) := by decide +kernel
theorem d_Law_law_335 : decode code 335 = .ok (.iconst 0, 1) := by decide +kernel
theorem d_Law_law_336 : decode code 336 = .ok (.ireturn, 1) := by decide +kernel
theorem d_Law_law_357 : decode code 357 = .ok (.aload_n 1, 1) := by decide +kernel
theorem d_Law_law_358 : decode code 358 = .ok (.aload_n 0, 1) := by decide +kernel
theorem d_Law_law_359 : decode code 359 = .ok (.iload 4, 2) := by decide +kernel
theorem d_Law_law_361 : decode code 361 = .ok (.iconst 1, 1) := by decide +kernel
theorem d_Law_law_362 : decode code 362 = .ok (.iadd, 1) := by decide +kernel
theorem d_Law_law_363 : decode code 363 = .ok (.iaload, 1) := by decide +kernel
theorem d_Law_law_364 : decode code 364 = .ok (.invokevirtual 149, 3) := by decide +kernel
theorem tb_ml_Law_149 : mTB (Cond.methodLink "NineBarsLaw" 149 ⟨"NineBars", "fault", "(I)I"⟩) := tbq2 223 (by decide +kernel) rfl
theorem tb_im_Nb_fault : mTB (Cond.instanceMethod ⟨"NineBars", "fault", "(I)I"⟩) := tbq2 224 (by decide +kernel) rfl
theorem tb_se_Nb_fault : mTB (Cond.selects "NineBars" ⟨"NineBars", "fault", "(I)I"⟩ ⟨"NineBars", "fault", "(I)I"⟩) := tbq2 225 (by decide +kernel) rfl
theorem mv_Nb_fault {M : mM} {idx : Nat} (h : mTB (Cond.methodLink (mO M) idx ⟨"NineBars", "fault", "(I)I"⟩)) : mCaV M M_Nb_fault idx 10 := ⟨h, tb_im_Nb_fault, tb_se_Nb_fault, by decide, TX10, 19, rfl⟩
theorem d_Law_law_367 : decode code 367 = .ok (.aload_n 2, 1) := by decide +kernel
theorem d_Law_law_368 : decode code 368 = .ok (.aload_n 0, 1) := by decide +kernel
theorem d_Law_law_369 : decode code 369 = .ok (.iload 4, 2) := by decide +kernel
theorem d_Law_law_371 : decode code 371 = .ok (.iconst 1, 1) := by decide +kernel
theorem d_Law_law_372 : decode code 372 = .ok (.iadd, 1) := by decide +kernel
theorem d_Law_law_373 : decode code 373 = .ok (.iaload, 1) := by decide +kernel
theorem d_Law_law_374 : decode code 374 = .ok (.invokevirtual 152, 3) := by decide +kernel
theorem tb_ml_Law_152 : mTB (Cond.methodLink "NineBarsLaw" 152 ⟨"NineBarsModel", "fault", "(I)I"⟩) := tbq7 185 (by decide +kernel) rfl
theorem tb_im_Md_fault : mTB (Cond.instanceMethod ⟨"NineBarsModel", "fault", "(I)I"⟩) := tbq7 186 (by decide +kernel) rfl
theorem tb_se_Md_fault : mTB (Cond.selects "NineBarsModel" ⟨"NineBarsModel", "fault", "(I)I"⟩ ⟨"NineBarsModel", "fault", "(I)I"⟩) := tbq7 187 (by decide +kernel) rfl
theorem mv_Md_fault {M : mM} {idx : Nat} (h : mTB (Cond.methodLink (mO M) idx ⟨"NineBarsModel", "fault", "(I)I"⟩)) : mCaV M M_Md_fault idx 11 := ⟨h, tb_im_Md_fault, tb_se_Md_fault, by decide, TX11, 40, rfl⟩
theorem d_Law_law_377 : decode code 377 = .ok (.if_icmp .eq 2265, 3) := by decide +kernel
theorem d_Law_law_380 : decode code 380 = .ok (.iconst 0, 1) := by decide +kernel
theorem d_Law_law_381 : decode code 381 = .ok (.ireturn, 1) := by decide +kernel
theorem d_Law_law_382 : decode code 382 = .ok (.aload_n 1, 1) := by decide +kernel
theorem d_Law_law_383 : decode code 383 = .ok (.aload_n 0, 1) := by decide +kernel
theorem d_Law_law_384 : decode code 384 = .ok (.iload 4, 2) := by decide +kernel
theorem d_Law_law_386 : decode code 386 = .ok (.iconst 1, 1) := by decide +kernel
theorem d_Law_law_387 : decode code 387 = .ok (.iadd, 1) := by decide +kernel
theorem d_Law_law_388 : decode code 388 = .ok (.iaload, 1) := by decide +kernel
theorem d_Law_law_389 : decode code 389 = .ok (.aload_n 0, 1) := by decide +kernel
theorem d_Law_law_390 : decode code 390 = .ok (.iload 4, 2) := by decide +kernel
theorem d_Law_law_392 : decode code 392 = .ok (.iconst 2, 1) := by decide +kernel
theorem d_Law_law_393 : decode code 393 = .ok (.iadd, 1) := by decide +kernel
theorem d_Law_law_394 : decode code 394 = .ok (.iaload, 1) := by decide +kernel
theorem d_Law_law_395 : decode code 395 = .ok (.aload_n 3, 1) := by decide +kernel
theorem d_Law_law_396 : decode code 396 = .ok (.invokestatic 153, 3) := by decide +kernel
theorem tb_ml_Law_153 : mTB (Cond.methodLink "NineBarsLaw" 153 ⟨"NineBarsLaw", "bar", "(LNineBars;II[J)I"⟩) := tbq4 103 (by decide +kernel) rfl
theorem tb_sm_Law_bar : mTB (Cond.static ⟨"NineBarsLaw", "bar", "(LNineBars;II[J)I"⟩) := tbq4 104 (by decide +kernel) rfl
theorem d_Law_law_399 : decode code 399 = .ok (.istore 5, 2) := by decide +kernel
theorem d_Law_law_401 : decode code 401 = .ok (.aload_n 2, 1) := by decide +kernel
theorem d_Law_law_402 : decode code 402 = .ok (.aload_n 0, 1) := by decide +kernel
theorem d_Law_law_403 : decode code 403 = .ok (.iload 4, 2) := by decide +kernel
theorem d_Law_law_405 : decode code 405 = .ok (.iconst 1, 1) := by decide +kernel
theorem d_Law_law_406 : decode code 406 = .ok (.iadd, 1) := by decide +kernel
theorem d_Law_law_407 : decode code 407 = .ok (.iaload, 1) := by decide +kernel
theorem d_Law_law_408 : decode code 408 = .ok (.aload_n 0, 1) := by decide +kernel
theorem d_Law_law_409 : decode code 409 = .ok (.iload 4, 2) := by decide +kernel
theorem d_Law_law_411 : decode code 411 = .ok (.iconst 2, 1) := by decide +kernel
theorem d_Law_law_412 : decode code 412 = .ok (.iadd, 1) := by decide +kernel
theorem d_Law_law_413 : decode code 413 = .ok (.iaload, 1) := by decide +kernel
theorem d_Law_law_414 : decode code 414 = .ok (.invokevirtual 156, 3) := by decide +kernel
theorem tb_ml_Law_156 : mTB (Cond.methodLink "NineBarsLaw" 156 ⟨"NineBarsModel", "bar", "(II)I"⟩) := tbq7 189 (by decide +kernel) rfl
theorem tb_im_Md_bar : mTB (Cond.instanceMethod ⟨"NineBarsModel", "bar", "(II)I"⟩) := tbq7 190 (by decide +kernel) rfl
theorem tb_se_Md_bar : mTB (Cond.selects "NineBarsModel" ⟨"NineBarsModel", "bar", "(II)I"⟩ ⟨"NineBarsModel", "bar", "(II)I"⟩) := tbq7 191 (by decide +kernel) rfl
theorem mv_Md_bar {M : mM} {idx : Nat} (h : mTB (Cond.methodLink (mO M) idx ⟨"NineBarsModel", "bar", "(II)I"⟩)) : mCaV M M_Md_bar idx 11 := ⟨h, tb_im_Md_bar, tb_se_Md_bar, by decide, TX11, 40, rfl⟩
theorem d_Law_law_417 : decode code 417 = .ok (.istore 6, 2) := by decide +kernel
theorem d_Law_law_419 : decode code 419 = .ok (.aload_n 2, 1) := by decide +kernel
theorem d_Law_law_420 : decode code 420 = .ok (.invokevirtual 146, 3) := by decide +kernel
theorem d_Law_law_423 : decode code 423 = .ok (.iload 5, 2) := by decide +kernel
theorem d_Law_law_425 : decode code 425 = .ok (.if_icmp .eq 5, 3) := by decide +kernel
theorem d_Law_law_430 : decode code 430 = .ok (.iload 5, 2) := by decide +kernel
theorem d_Law_law_432 : decode code 432 = .ok (.ifCond .ne 15, 3) := by decide +kernel
theorem d_Law_law_447 : decode code 447 = .ok (.goto 2195, 3) := by decide +kernel
theorem d_Law_law_435 : decode code 435 = .ok (.aload_n 3, 1) := by decide +kernel
theorem d_Law_law_436 : decode code 436 = .ok (.iconst 0, 1) := by decide +kernel
theorem d_Law_law_437 : decode code 437 = .ok (.laload, 1) := by decide +kernel
theorem d_Law_law_438 : decode code 438 = .ok (.iload 6, 2) := by decide +kernel
theorem d_Law_law_440 : decode code 440 = .ok (.i2l, 1) := by decide +kernel
theorem d_Law_law_441 : decode code 441 = .ok (.lcmp, 1) := by decide +kernel
theorem d_Law_law_442 : decode code 442 = .ok (.ifCond .eq 5, 3) := by decide +kernel
theorem d_Law_law_445 : decode code 445 = .ok (.iconst 0, 1) := by decide +kernel
theorem d_Law_law_446 : decode code 446 = .ok (.ireturn, 1) := by decide +kernel
theorem d_Law_law_428 : decode code 428 = .ok (.iconst 0, 1) := by decide +kernel
theorem d_Law_law_429 : decode code 429 = .ok (.ireturn, 1) := by decide +kernel
theorem d_Law_law_450 : decode code 450 = .ok (.aload_n 1, 1) := by decide +kernel
theorem d_Law_law_451 : decode code 451 = .ok (.aload_n 0, 1) := by decide +kernel
theorem d_Law_law_452 : decode code 452 = .ok (.iload 4, 2) := by decide +kernel
theorem d_Law_law_454 : decode code 454 = .ok (.iconst 1, 1) := by decide +kernel
theorem d_Law_law_455 : decode code 455 = .ok (.iadd, 1) := by decide +kernel
theorem d_Law_law_456 : decode code 456 = .ok (.iaload, 1) := by decide +kernel
theorem d_Law_law_457 : decode code 457 = .ok (.aload_n 0, 1) := by decide +kernel
theorem d_Law_law_458 : decode code 458 = .ok (.iload 4, 2) := by decide +kernel
theorem d_Law_law_460 : decode code 460 = .ok (.iconst 2, 1) := by decide +kernel
theorem d_Law_law_461 : decode code 461 = .ok (.iadd, 1) := by decide +kernel
theorem d_Law_law_462 : decode code 462 = .ok (.iaload, 1) := by decide +kernel
theorem d_Law_law_463 : decode code 463 = .ok (.aload_n 3, 1) := by decide +kernel
theorem d_Law_law_464 : decode code 464 = .ok (.invokestatic 157, 3) := by decide +kernel
theorem tb_ml_Law_157 : mTB (Cond.methodLink "NineBarsLaw" 157 ⟨"NineBarsLaw", "rule", "(LNineBars;II[J)I"⟩) := tbq4 137 (by decide +kernel) rfl
theorem tb_sm_Law_rule : mTB (Cond.static ⟨"NineBarsLaw", "rule", "(LNineBars;II[J)I"⟩) := tbq4 138 (by decide +kernel) rfl
theorem d_Law_law_467 : decode code 467 = .ok (.istore 5, 2) := by decide +kernel
theorem d_Law_law_469 : decode code 469 = .ok (.aload_n 2, 1) := by decide +kernel
theorem d_Law_law_470 : decode code 470 = .ok (.aload_n 0, 1) := by decide +kernel
theorem d_Law_law_471 : decode code 471 = .ok (.iload 4, 2) := by decide +kernel
theorem d_Law_law_473 : decode code 473 = .ok (.iconst 1, 1) := by decide +kernel
theorem d_Law_law_474 : decode code 474 = .ok (.iadd, 1) := by decide +kernel
theorem d_Law_law_475 : decode code 475 = .ok (.iaload, 1) := by decide +kernel
theorem d_Law_law_476 : decode code 476 = .ok (.aload_n 0, 1) := by decide +kernel
theorem d_Law_law_477 : decode code 477 = .ok (.iload 4, 2) := by decide +kernel
theorem d_Law_law_479 : decode code 479 = .ok (.iconst 2, 1) := by decide +kernel
theorem d_Law_law_480 : decode code 480 = .ok (.iadd, 1) := by decide +kernel
theorem d_Law_law_481 : decode code 481 = .ok (.iaload, 1) := by decide +kernel
theorem d_Law_law_482 : decode code 482 = .ok (.invokevirtual 159, 3) := by decide +kernel
theorem tb_ml_Law_159 : mTB (Cond.methodLink "NineBarsLaw" 159 ⟨"NineBarsModel", "rule", "(II)I"⟩) := tbq7 210 (by decide +kernel) rfl
theorem tb_im_Md_rule : mTB (Cond.instanceMethod ⟨"NineBarsModel", "rule", "(II)I"⟩) := tbq7 211 (by decide +kernel) rfl
theorem tb_se_Md_rule : mTB (Cond.selects "NineBarsModel" ⟨"NineBarsModel", "rule", "(II)I"⟩ ⟨"NineBarsModel", "rule", "(II)I"⟩) := tbq7 212 (by decide +kernel) rfl
theorem mv_Md_rule {M : mM} {idx : Nat} (h : mTB (Cond.methodLink (mO M) idx ⟨"NineBarsModel", "rule", "(II)I"⟩)) : mCaV M M_Md_rule idx 11 := ⟨h, tb_im_Md_rule, tb_se_Md_rule, by decide, TX11, 40, rfl⟩
theorem d_Law_law_485 : decode code 485 = .ok (.istore 6, 2) := by decide +kernel
theorem d_Law_law_487 : decode code 487 = .ok (.aload_n 2, 1) := by decide +kernel
theorem d_Law_law_488 : decode code 488 = .ok (.invokevirtual 146, 3) := by decide +kernel
theorem d_Law_law_491 : decode code 491 = .ok (.iload 5, 2) := by decide +kernel
theorem d_Law_law_493 : decode code 493 = .ok (.if_icmp .eq 5, 3) := by decide +kernel
theorem d_Law_law_498 : decode code 498 = .ok (.iload 5, 2) := by decide +kernel
theorem d_Law_law_500 : decode code 500 = .ok (.ifCond .ne 15, 3) := by decide +kernel
theorem d_Law_law_515 : decode code 515 = .ok (.goto 2127, 3) := by decide +kernel
theorem d_Law_law_503 : decode code 503 = .ok (.aload_n 3, 1) := by decide +kernel
theorem d_Law_law_504 : decode code 504 = .ok (.iconst 0, 1) := by decide +kernel
theorem d_Law_law_505 : decode code 505 = .ok (.laload, 1) := by decide +kernel
theorem d_Law_law_506 : decode code 506 = .ok (.iload 6, 2) := by decide +kernel
theorem d_Law_law_508 : decode code 508 = .ok (.i2l, 1) := by decide +kernel
theorem d_Law_law_509 : decode code 509 = .ok (.lcmp, 1) := by decide +kernel
theorem d_Law_law_510 : decode code 510 = .ok (.ifCond .eq 5, 3) := by decide +kernel
theorem d_Law_law_513 : decode code 513 = .ok (.iconst 0, 1) := by decide +kernel
theorem d_Law_law_514 : decode code 514 = .ok (.ireturn, 1) := by decide +kernel
theorem d_Law_law_496 : decode code 496 = .ok (.iconst 0, 1) := by decide +kernel
theorem d_Law_law_497 : decode code 497 = .ok (.ireturn, 1) := by decide +kernel
theorem d_Law_law_518 : decode code 518 = .ok (.aload_n 1, 1) := by decide +kernel
theorem d_Law_law_519 : decode code 519 = .ok (.invokevirtual 160, 3) := by decide +kernel
theorem tb_ml_Law_160 : mTB (Cond.methodLink "NineBarsLaw" 160 ⟨"NineBars", "stand", "()I"⟩) := tbq2 227 (by decide +kernel) rfl
theorem tb_im_Nb_stand : mTB (Cond.instanceMethod ⟨"NineBars", "stand", "()I"⟩) := tbq2 228 (by decide +kernel) rfl
theorem tb_se_Nb_stand : mTB (Cond.selects "NineBars" ⟨"NineBars", "stand", "()I"⟩ ⟨"NineBars", "stand", "()I"⟩) := tbq2 229 (by decide +kernel) rfl
theorem mv_Nb_stand {M : mM} {idx : Nat} (h : mTB (Cond.methodLink (mO M) idx ⟨"NineBars", "stand", "()I"⟩)) : mCaV M M_Nb_stand idx 10 := ⟨h, tb_im_Nb_stand, tb_se_Nb_stand, by decide, TX10, 19, rfl⟩
theorem d_Law_law_522 : decode code 522 = .ok (.aload_n 2, 1) := by decide +kernel
theorem d_Law_law_523 : decode code 523 = .ok (.invokevirtual 163, 3) := by decide +kernel
theorem tb_ml_Law_163 : mTB (Cond.methodLink "NineBarsLaw" 163 ⟨"NineBarsModel", "stand", "()I"⟩) := tbq7 226 (by decide +kernel) rfl
theorem tb_im_Md_stand : mTB (Cond.instanceMethod ⟨"NineBarsModel", "stand", "()I"⟩) := tbq7 227 (by decide +kernel) rfl
theorem tb_se_Md_stand : mTB (Cond.selects "NineBarsModel" ⟨"NineBarsModel", "stand", "()I"⟩ ⟨"NineBarsModel", "stand", "()I"⟩) := tbq7 228 (by decide +kernel) rfl
theorem mv_Md_stand {M : mM} {idx : Nat} (h : mTB (Cond.methodLink (mO M) idx ⟨"NineBarsModel", "stand", "()I"⟩)) : mCaV M M_Md_stand idx 11 := ⟨h, tb_im_Md_stand, tb_se_Md_stand, by decide, TX11, 40, rfl⟩
theorem d_Law_law_526 : decode code 526 = .ok (.if_icmp .eq 2116, 3) := by decide +kernel
theorem d_Law_law_529 : decode code 529 = .ok (.iconst 0, 1) := by decide +kernel
theorem d_Law_law_530 : decode code 530 = .ok (.ireturn, 1) := by decide +kernel
theorem d_Law_law_531 : decode code 531 = .ok (.aload_n 1, 1) := by decide +kernel
theorem d_Law_law_532 : decode code 532 = .ok (.aload_n 0, 1) := by decide +kernel
theorem d_Law_law_533 : decode code 533 = .ok (.iload 4, 2) := by decide +kernel
theorem d_Law_law_535 : decode code 535 = .ok (.iconst 1, 1) := by decide +kernel
theorem d_Law_law_536 : decode code 536 = .ok (.iadd, 1) := by decide +kernel
theorem d_Law_law_537 : decode code 537 = .ok (.iaload, 1) := by decide +kernel
theorem d_Law_law_538 : decode code 538 = .ok (.aload_n 0, 1) := by decide +kernel
theorem d_Law_law_539 : decode code 539 = .ok (.iload 4, 2) := by decide +kernel
theorem d_Law_law_541 : decode code 541 = .ok (.iconst 2, 1) := by decide +kernel
theorem d_Law_law_542 : decode code 542 = .ok (.iadd, 1) := by decide +kernel
theorem d_Law_law_543 : decode code 543 = .ok (.iaload, 1) := by decide +kernel
theorem d_Law_law_544 : decode code 544 = .ok (.aload_n 3, 1) := by decide +kernel
theorem d_Law_law_545 : decode code 545 = .ok (.invokestatic 164, 3) := by decide +kernel
theorem tb_ml_Law_164 : mTB (Cond.methodLink "NineBarsLaw" 164 ⟨"NineBarsLaw", "placeIn", "(LNineBars;II[J)I"⟩) := tbq4 147 (by decide +kernel) rfl
theorem tb_sm_Law_placeIn : mTB (Cond.static ⟨"NineBarsLaw", "placeIn", "(LNineBars;II[J)I"⟩) := tbq4 148 (by decide +kernel) rfl
theorem d_Law_law_548 : decode code 548 = .ok (.istore 5, 2) := by decide +kernel
theorem d_Law_law_550 : decode code 550 = .ok (.aload_n 2, 1) := by decide +kernel
theorem d_Law_law_551 : decode code 551 = .ok (.aload_n 0, 1) := by decide +kernel
theorem d_Law_law_552 : decode code 552 = .ok (.iload 4, 2) := by decide +kernel
theorem d_Law_law_554 : decode code 554 = .ok (.iconst 1, 1) := by decide +kernel
theorem d_Law_law_555 : decode code 555 = .ok (.iadd, 1) := by decide +kernel
theorem d_Law_law_556 : decode code 556 = .ok (.iaload, 1) := by decide +kernel
theorem d_Law_law_557 : decode code 557 = .ok (.aload_n 0, 1) := by decide +kernel
theorem d_Law_law_558 : decode code 558 = .ok (.iload 4, 2) := by decide +kernel
theorem d_Law_law_560 : decode code 560 = .ok (.iconst 2, 1) := by decide +kernel
theorem d_Law_law_561 : decode code 561 = .ok (.iadd, 1) := by decide +kernel
theorem d_Law_law_562 : decode code 562 = .ok (.iaload, 1) := by decide +kernel
theorem d_Law_law_563 : decode code 563 = .ok (.invokevirtual 166, 3) := by decide +kernel
theorem tb_ml_Law_166 : mTB (Cond.methodLink "NineBarsLaw" 166 ⟨"NineBarsModel", "placeIn", "(II)I"⟩) := tbq8 2 (by decide +kernel) rfl
theorem tb_im_Md_placeIn : mTB (Cond.instanceMethod ⟨"NineBarsModel", "placeIn", "(II)I"⟩) := tbq8 3 (by decide +kernel) rfl
theorem tb_se_Md_placeIn : mTB (Cond.selects "NineBarsModel" ⟨"NineBarsModel", "placeIn", "(II)I"⟩ ⟨"NineBarsModel", "placeIn", "(II)I"⟩) := tbq8 4 (by decide +kernel) rfl
theorem mv_Md_placeIn {M : mM} {idx : Nat} (h : mTB (Cond.methodLink (mO M) idx ⟨"NineBarsModel", "placeIn", "(II)I"⟩)) : mCaV M M_Md_placeIn idx 11 := ⟨h, tb_im_Md_placeIn, tb_se_Md_placeIn, by decide, TX11, 40, rfl⟩
theorem d_Law_law_566 : decode code 566 = .ok (.istore 6, 2) := by decide +kernel
theorem d_Law_law_568 : decode code 568 = .ok (.aload_n 2, 1) := by decide +kernel
theorem d_Law_law_569 : decode code 569 = .ok (.invokevirtual 146, 3) := by decide +kernel
theorem d_Law_law_572 : decode code 572 = .ok (.iload 5, 2) := by decide +kernel
theorem d_Law_law_574 : decode code 574 = .ok (.if_icmp .eq 5, 3) := by decide +kernel
theorem d_Law_law_579 : decode code 579 = .ok (.iload 5, 2) := by decide +kernel
theorem d_Law_law_581 : decode code 581 = .ok (.ifCond .ne 15, 3) := by decide +kernel
theorem d_Law_law_596 : decode code 596 = .ok (.goto 2046, 3) := by decide +kernel
theorem d_Law_law_584 : decode code 584 = .ok (.aload_n 3, 1) := by decide +kernel
theorem d_Law_law_585 : decode code 585 = .ok (.iconst 0, 1) := by decide +kernel
theorem d_Law_law_586 : decode code 586 = .ok (.laload, 1) := by decide +kernel
theorem d_Law_law_587 : decode code 587 = .ok (.iload 6, 2) := by decide +kernel
theorem d_Law_law_589 : decode code 589 = .ok (.i2l, 1) := by decide +kernel
theorem d_Law_law_590 : decode code 590 = .ok (.lcmp, 1) := by decide +kernel
theorem d_Law_law_591 : decode code 591 = .ok (.ifCond .eq 5, 3) := by decide +kernel
theorem d_Law_law_594 : decode code 594 = .ok (.iconst 0, 1) := by decide +kernel
theorem d_Law_law_595 : decode code 595 = .ok (.ireturn, 1) := by decide +kernel
theorem d_Law_law_577 : decode code 577 = .ok (.iconst 0, 1) := by decide +kernel
theorem d_Law_law_578 : decode code 578 = .ok (.ireturn, 1) := by decide +kernel
theorem d_Law_law_599 : decode code 599 = .ok (.aload_n 1, 1) := by decide +kernel
theorem d_Law_law_600 : decode code 600 = .ok (.invokevirtual 167, 3) := by decide +kernel
theorem tb_ml_Law_167 : mTB (Cond.methodLink "NineBarsLaw" 167 ⟨"NineBars", "isOpen", "()Z"⟩) := tbq3 3 (by decide +kernel) rfl
theorem tb_im_Nb_isOpen : mTB (Cond.instanceMethod ⟨"NineBars", "isOpen", "()Z"⟩) := tbq3 4 (by decide +kernel) rfl
theorem tb_se_Nb_isOpen : mTB (Cond.selects "NineBars" ⟨"NineBars", "isOpen", "()Z"⟩ ⟨"NineBars", "isOpen", "()Z"⟩) := tbq3 5 (by decide +kernel) rfl
theorem mv_Nb_isOpen {M : mM} {idx : Nat} (h : mTB (Cond.methodLink (mO M) idx ⟨"NineBars", "isOpen", "()Z"⟩)) : mCaV M M_Nb_isOpen idx 10 := ⟨h, tb_im_Nb_isOpen, tb_se_Nb_isOpen, by decide, TX10, 19, rfl⟩
theorem d_Law_law_603 : decode code 603 = .ok (.aload_n 2, 1) := by decide +kernel
theorem d_Law_law_604 : decode code 604 = .ok (.invokevirtual 171, 3) := by decide +kernel
theorem tb_ml_Law_171 : mTB (Cond.methodLink "NineBarsLaw" 171 ⟨"NineBarsModel", "isOpen", "()Z"⟩) := tbq8 14 (by decide +kernel) rfl
theorem tb_im_Md_isOpen : mTB (Cond.instanceMethod ⟨"NineBarsModel", "isOpen", "()Z"⟩) := tbq8 15 (by decide +kernel) rfl
theorem tb_se_Md_isOpen : mTB (Cond.selects "NineBarsModel" ⟨"NineBarsModel", "isOpen", "()Z"⟩ ⟨"NineBarsModel", "isOpen", "()Z"⟩) := tbq8 16 (by decide +kernel) rfl
theorem mv_Md_isOpen {M : mM} {idx : Nat} (h : mTB (Cond.methodLink (mO M) idx ⟨"NineBarsModel", "isOpen", "()Z"⟩)) : mCaV M M_Md_isOpen idx 11 := ⟨h, tb_im_Md_isOpen, tb_se_Md_isOpen, by decide, TX11, 40, rfl⟩
theorem d_Law_law_607 : decode code 607 = .ok (.if_icmp .eq 2035, 3) := by decide +kernel
theorem d_Law_law_610 : decode code 610 = .ok (.iconst 0, 1) := by decide +kernel
theorem d_Law_law_611 : decode code 611 = .ok (.ireturn, 1) := by decide +kernel
theorem d_Law_law_612 : decode code 612 = .ok (.aload_n 1, 1) := by decide +kernel
theorem d_Law_law_613 : decode code 613 = .ok (.aload_n 0, 1) := by decide +kernel
theorem d_Law_law_614 : decode code 614 = .ok (.iload 4, 2) := by decide +kernel
theorem d_Law_law_616 : decode code 616 = .ok (.iconst 1, 1) := by decide +kernel
theorem d_Law_law_617 : decode code 617 = .ok (.iadd, 1) := by decide +kernel
theorem d_Law_law_618 : decode code 618 = .ok (.iaload, 1) := by decide +kernel
theorem d_Law_law_619 : decode code 619 = .ok (.aload_n 0, 1) := by decide +kernel
theorem d_Law_law_620 : decode code 620 = .ok (.iload 4, 2) := by decide +kernel
theorem d_Law_law_622 : decode code 622 = .ok (.iconst 2, 1) := by decide +kernel
theorem d_Law_law_623 : decode code 623 = .ok (.iadd, 1) := by decide +kernel
theorem d_Law_law_624 : decode code 624 = .ok (.iaload, 1) := by decide +kernel
theorem d_Law_law_625 : decode code 625 = .ok (.ifCond .eq 7, 3) := by decide +kernel
theorem d_Law_law_632 : decode code 632 = .ok (.iconst 0, 1) := by decide +kernel
theorem d_Law_law_633 : decode code 633 = .ok (.invokevirtual 172, 3) := by decide +kernel
theorem tb_ml_Law_172 : mTB (Cond.methodLink "NineBarsLaw" 172 ⟨"NineBars", "may", "(IZ)I"⟩) := tbq3 11 (by decide +kernel) rfl
theorem tb_im_Nb_may : mTB (Cond.instanceMethod ⟨"NineBars", "may", "(IZ)I"⟩) := tbq3 12 (by decide +kernel) rfl
theorem tb_se_Nb_may : mTB (Cond.selects "NineBars" ⟨"NineBars", "may", "(IZ)I"⟩ ⟨"NineBars", "may", "(IZ)I"⟩) := tbq3 13 (by decide +kernel) rfl
theorem mv_Nb_may {M : mM} {idx : Nat} (h : mTB (Cond.methodLink (mO M) idx ⟨"NineBars", "may", "(IZ)I"⟩)) : mCaV M M_Nb_may idx 10 := ⟨h, tb_im_Nb_may, tb_se_Nb_may, by decide, TX10, 19, rfl⟩
theorem d_Law_law_636 : decode code 636 = .ok (.aload_n 2, 1) := by decide +kernel
theorem d_Law_law_637 : decode code 637 = .ok (.aload_n 0, 1) := by decide +kernel
theorem d_Law_law_638 : decode code 638 = .ok (.iload 4, 2) := by decide +kernel
theorem d_Law_law_640 : decode code 640 = .ok (.iconst 1, 1) := by decide +kernel
theorem d_Law_law_641 : decode code 641 = .ok (.iadd, 1) := by decide +kernel
theorem d_Law_law_642 : decode code 642 = .ok (.iaload, 1) := by decide +kernel
theorem d_Law_law_643 : decode code 643 = .ok (.aload_n 0, 1) := by decide +kernel
theorem d_Law_law_644 : decode code 644 = .ok (.iload 4, 2) := by decide +kernel
theorem d_Law_law_646 : decode code 646 = .ok (.iconst 2, 1) := by decide +kernel
theorem d_Law_law_647 : decode code 647 = .ok (.iadd, 1) := by decide +kernel
theorem d_Law_law_648 : decode code 648 = .ok (.iaload, 1) := by decide +kernel
theorem d_Law_law_649 : decode code 649 = .ok (.ifCond .eq 7, 3) := by decide +kernel
theorem d_Law_law_656 : decode code 656 = .ok (.iconst 0, 1) := by decide +kernel
theorem d_Law_law_657 : decode code 657 = .ok (.invokevirtual 176, 3) := by decide +kernel
theorem tb_ml_Law_176 : mTB (Cond.methodLink "NineBarsLaw" 176 ⟨"NineBarsModel", "may", "(IZ)I"⟩) := tbq8 22 (by decide +kernel) rfl
theorem tb_im_Md_may : mTB (Cond.instanceMethod ⟨"NineBarsModel", "may", "(IZ)I"⟩) := tbq8 23 (by decide +kernel) rfl
theorem tb_se_Md_may : mTB (Cond.selects "NineBarsModel" ⟨"NineBarsModel", "may", "(IZ)I"⟩ ⟨"NineBarsModel", "may", "(IZ)I"⟩) := tbq8 24 (by decide +kernel) rfl
theorem mv_Md_may {M : mM} {idx : Nat} (h : mTB (Cond.methodLink (mO M) idx ⟨"NineBarsModel", "may", "(IZ)I"⟩)) : mCaV M M_Md_may idx 11 := ⟨h, tb_im_Md_may, tb_se_Md_may, by decide, TX11, 40, rfl⟩
theorem d_Law_law_660 : decode code 660 = .ok (.if_icmp .eq 1982, 3) := by decide +kernel
theorem d_Law_law_663 : decode code 663 = .ok (.iconst 0, 1) := by decide +kernel
theorem d_Law_law_664 : decode code 664 = .ok (.ireturn, 1) := by decide +kernel
theorem d_Law_law_652 : decode code 652 = .ok (.iconst 1, 1) := by decide +kernel
theorem d_Law_law_653 : decode code 653 = .ok (.goto 4, 3) := by decide +kernel
theorem d_Law_law_628 : decode code 628 = .ok (.iconst 1, 1) := by decide +kernel
theorem d_Law_law_629 : decode code 629 = .ok (.goto 4, 3) := by decide +kernel
theorem d_Law_law_665 : decode code 665 = .ok (.aload_n 1, 1) := by decide +kernel
theorem d_Law_law_666 : decode code 666 = .ok (.aload_n 0, 1) := by decide +kernel
theorem d_Law_law_667 : decode code 667 = .ok (.iload 4, 2) := by decide +kernel
theorem d_Law_law_669 : decode code 669 = .ok (.iconst 1, 1) := by decide +kernel
theorem d_Law_law_670 : decode code 670 = .ok (.iadd, 1) := by decide +kernel
theorem d_Law_law_671 : decode code 671 = .ok (.iaload, 1) := by decide +kernel
theorem d_Law_law_672 : decode code 672 = .ok (.aload_n 0, 1) := by decide +kernel
theorem d_Law_law_673 : decode code 673 = .ok (.iload 4, 2) := by decide +kernel
theorem d_Law_law_675 : decode code 675 = .ok (.iconst 2, 1) := by decide +kernel
theorem d_Law_law_676 : decode code 676 = .ok (.iadd, 1) := by decide +kernel
theorem d_Law_law_677 : decode code 677 = .ok (.iaload, 1) := by decide +kernel
theorem d_Law_law_678 : decode code 678 = .ok (.ifCond .eq 7, 3) := by decide +kernel
theorem d_Law_law_685 : decode code 685 = .ok (.iconst 0, 1) := by decide +kernel
theorem d_Law_law_686 : decode code 686 = .ok (.invokevirtual 177, 3) := by decide +kernel
theorem tb_ml_Law_177 : mTB (Cond.methodLink "NineBarsLaw" 177 ⟨"NineBars", "step", "(IZ)I"⟩) := tbq3 38 (by decide +kernel) rfl
theorem tb_im_Nb_step : mTB (Cond.instanceMethod ⟨"NineBars", "step", "(IZ)I"⟩) := tbq3 39 (by decide +kernel) rfl
theorem tb_se_Nb_step : mTB (Cond.selects "NineBars" ⟨"NineBars", "step", "(IZ)I"⟩ ⟨"NineBars", "step", "(IZ)I"⟩) := tbq3 40 (by decide +kernel) rfl
theorem mv_Nb_step {M : mM} {idx : Nat} (h : mTB (Cond.methodLink (mO M) idx ⟨"NineBars", "step", "(IZ)I"⟩)) : mCaV M M_Nb_step idx 10 := ⟨h, tb_im_Nb_step, tb_se_Nb_step, by decide, TX10, 19, rfl⟩
theorem d_Law_law_689 : decode code 689 = .ok (.aload_n 2, 1) := by decide +kernel
theorem d_Law_law_690 : decode code 690 = .ok (.aload_n 0, 1) := by decide +kernel
theorem d_Law_law_691 : decode code 691 = .ok (.iload 4, 2) := by decide +kernel
theorem d_Law_law_693 : decode code 693 = .ok (.iconst 1, 1) := by decide +kernel
theorem d_Law_law_694 : decode code 694 = .ok (.iadd, 1) := by decide +kernel
theorem d_Law_law_695 : decode code 695 = .ok (.iaload, 1) := by decide +kernel
theorem d_Law_law_696 : decode code 696 = .ok (.aload_n 0, 1) := by decide +kernel
theorem d_Law_law_697 : decode code 697 = .ok (.iload 4, 2) := by decide +kernel
theorem d_Law_law_699 : decode code 699 = .ok (.iconst 2, 1) := by decide +kernel
theorem d_Law_law_700 : decode code 700 = .ok (.iadd, 1) := by decide +kernel
theorem d_Law_law_701 : decode code 701 = .ok (.iaload, 1) := by decide +kernel
theorem d_Law_law_702 : decode code 702 = .ok (.ifCond .eq 7, 3) := by decide +kernel
theorem d_Law_law_709 : decode code 709 = .ok (.iconst 0, 1) := by decide +kernel
theorem d_Law_law_710 : decode code 710 = .ok (.invokevirtual 180, 3) := by decide +kernel
theorem tb_ml_Law_180 : mTB (Cond.methodLink "NineBarsLaw" 180 ⟨"NineBarsModel", "step", "(IZ)I"⟩) := tbq8 42 (by decide +kernel) rfl
theorem tb_im_Md_step : mTB (Cond.instanceMethod ⟨"NineBarsModel", "step", "(IZ)I"⟩) := tbq8 43 (by decide +kernel) rfl
theorem tb_se_Md_step : mTB (Cond.selects "NineBarsModel" ⟨"NineBarsModel", "step", "(IZ)I"⟩ ⟨"NineBarsModel", "step", "(IZ)I"⟩) := tbq8 44 (by decide +kernel) rfl
theorem mv_Md_step {M : mM} {idx : Nat} (h : mTB (Cond.methodLink (mO M) idx ⟨"NineBarsModel", "step", "(IZ)I"⟩)) : mCaV M M_Md_step idx 11 := ⟨h, tb_im_Md_step, tb_se_Md_step, by decide, TX11, 40, rfl⟩
theorem d_Law_law_713 : decode code 713 = .ok (.if_icmp .eq 1929, 3) := by decide +kernel
theorem d_Law_law_716 : decode code 716 = .ok (.iconst 0, 1) := by decide +kernel
theorem d_Law_law_717 : decode code 717 = .ok (.ireturn, 1) := by decide +kernel
theorem d_Law_law_705 : decode code 705 = .ok (.iconst 1, 1) := by decide +kernel
theorem d_Law_law_706 : decode code 706 = .ok (.goto 4, 3) := by decide +kernel
theorem d_Law_law_681 : decode code 681 = .ok (.iconst 1, 1) := by decide +kernel
theorem d_Law_law_682 : decode code 682 = .ok (.goto 4, 3) := by decide +kernel
theorem d_Law_law_718 : decode code 718 = .ok (.aload_n 1, 1) := by decide +kernel
theorem d_Law_law_719 : decode code 719 = .ok (.aload_n 0, 1) := by decide +kernel
theorem d_Law_law_720 : decode code 720 = .ok (.iload 4, 2) := by decide +kernel
theorem d_Law_law_722 : decode code 722 = .ok (.iconst 1, 1) := by decide +kernel
theorem d_Law_law_723 : decode code 723 = .ok (.iadd, 1) := by decide +kernel
theorem d_Law_law_724 : decode code 724 = .ok (.iaload, 1) := by decide +kernel
theorem d_Law_law_725 : decode code 725 = .ok (.aload_n 0, 1) := by decide +kernel
theorem d_Law_law_726 : decode code 726 = .ok (.iload 4, 2) := by decide +kernel
theorem d_Law_law_728 : decode code 728 = .ok (.iconst 2, 1) := by decide +kernel
theorem d_Law_law_729 : decode code 729 = .ok (.iadd, 1) := by decide +kernel
theorem d_Law_law_730 : decode code 730 = .ok (.iaload, 1) := by decide +kernel
theorem d_Law_law_731 : decode code 731 = .ok (.ifCond .eq 7, 3) := by decide +kernel
theorem d_Law_law_738 : decode code 738 = .ok (.iconst 0, 1) := by decide +kernel
theorem d_Law_law_739 : decode code 739 = .ok (.invokevirtual 181, 3) := by decide +kernel
theorem tb_ml_Law_181 : mTB (Cond.methodLink "NineBarsLaw" 181 ⟨"NineBars", "stops", "(IZ)I"⟩) := tbq3 47 (by decide +kernel) rfl
theorem tb_im_Nb_stops : mTB (Cond.instanceMethod ⟨"NineBars", "stops", "(IZ)I"⟩) := tbq3 48 (by decide +kernel) rfl
theorem tb_se_Nb_stops : mTB (Cond.selects "NineBars" ⟨"NineBars", "stops", "(IZ)I"⟩ ⟨"NineBars", "stops", "(IZ)I"⟩) := tbq3 49 (by decide +kernel) rfl
theorem mv_Nb_stops {M : mM} {idx : Nat} (h : mTB (Cond.methodLink (mO M) idx ⟨"NineBars", "stops", "(IZ)I"⟩)) : mCaV M M_Nb_stops idx 10 := ⟨h, tb_im_Nb_stops, tb_se_Nb_stops, by decide, TX10, 19, rfl⟩
theorem d_Law_law_742 : decode code 742 = .ok (.aload_n 2, 1) := by decide +kernel
theorem d_Law_law_743 : decode code 743 = .ok (.aload_n 0, 1) := by decide +kernel
theorem d_Law_law_744 : decode code 744 = .ok (.iload 4, 2) := by decide +kernel
theorem d_Law_law_746 : decode code 746 = .ok (.iconst 1, 1) := by decide +kernel
theorem d_Law_law_747 : decode code 747 = .ok (.iadd, 1) := by decide +kernel
theorem d_Law_law_748 : decode code 748 = .ok (.iaload, 1) := by decide +kernel
theorem d_Law_law_749 : decode code 749 = .ok (.aload_n 0, 1) := by decide +kernel
theorem d_Law_law_750 : decode code 750 = .ok (.iload 4, 2) := by decide +kernel
theorem d_Law_law_752 : decode code 752 = .ok (.iconst 2, 1) := by decide +kernel
theorem d_Law_law_753 : decode code 753 = .ok (.iadd, 1) := by decide +kernel
theorem d_Law_law_754 : decode code 754 = .ok (.iaload, 1) := by decide +kernel
theorem d_Law_law_755 : decode code 755 = .ok (.ifCond .eq 7, 3) := by decide +kernel
theorem d_Law_law_762 : decode code 762 = .ok (.iconst 0, 1) := by decide +kernel
theorem d_Law_law_763 : decode code 763 = .ok (.invokevirtual 184, 3) := by decide +kernel
theorem tb_ml_Law_184 : mTB (Cond.methodLink "NineBarsLaw" 184 ⟨"NineBarsModel", "stops", "(IZ)I"⟩) := tbq8 50 (by decide +kernel) rfl
theorem tb_im_Md_stops : mTB (Cond.instanceMethod ⟨"NineBarsModel", "stops", "(IZ)I"⟩) := tbq8 51 (by decide +kernel) rfl
theorem tb_se_Md_stops : mTB (Cond.selects "NineBarsModel" ⟨"NineBarsModel", "stops", "(IZ)I"⟩ ⟨"NineBarsModel", "stops", "(IZ)I"⟩) := tbq8 52 (by decide +kernel) rfl
theorem mv_Md_stops {M : mM} {idx : Nat} (h : mTB (Cond.methodLink (mO M) idx ⟨"NineBarsModel", "stops", "(IZ)I"⟩)) : mCaV M M_Md_stops idx 11 := ⟨h, tb_im_Md_stops, tb_se_Md_stops, by decide, TX11, 40, rfl⟩
theorem d_Law_law_766 : decode code 766 = .ok (.if_icmp .eq 1876, 3) := by decide +kernel
theorem d_Law_law_769 : decode code 769 = .ok (.iconst 0, 1) := by decide +kernel
theorem d_Law_law_770 : decode code 770 = .ok (.ireturn, 1) := by decide +kernel
theorem d_Law_law_758 : decode code 758 = .ok (.iconst 1, 1) := by decide +kernel
theorem d_Law_law_759 : decode code 759 = .ok (.goto 4, 3) := by decide +kernel
theorem d_Law_law_734 : decode code 734 = .ok (.iconst 1, 1) := by decide +kernel
theorem d_Law_law_735 : decode code 735 = .ok (.goto 4, 3) := by decide +kernel
theorem d_Law_law_771 : decode code 771 = .ok (.aload_n 1, 1) := by decide +kernel
theorem d_Law_law_772 : decode code 772 = .ok (.aload_n 0, 1) := by decide +kernel
theorem d_Law_law_773 : decode code 773 = .ok (.iload 4, 2) := by decide +kernel
theorem d_Law_law_775 : decode code 775 = .ok (.iconst 1, 1) := by decide +kernel
theorem d_Law_law_776 : decode code 776 = .ok (.iadd, 1) := by decide +kernel
theorem d_Law_law_777 : decode code 777 = .ok (.iaload, 1) := by decide +kernel
theorem d_Law_law_778 : decode code 778 = .ok (.aload_n 0, 1) := by decide +kernel
theorem d_Law_law_779 : decode code 779 = .ok (.iload 4, 2) := by decide +kernel
theorem d_Law_law_781 : decode code 781 = .ok (.iconst 2, 1) := by decide +kernel
theorem d_Law_law_782 : decode code 782 = .ok (.iadd, 1) := by decide +kernel
theorem d_Law_law_783 : decode code 783 = .ok (.iaload, 1) := by decide +kernel
theorem d_Law_law_784 : decode code 784 = .ok (.aload_n 3, 1) := by decide +kernel
theorem d_Law_law_785 : decode code 785 = .ok (.invokestatic 185, 3) := by decide +kernel
theorem tb_ml_Law_185 : mTB (Cond.methodLink "NineBarsLaw" 185 ⟨"NineBarsLaw", "judge", "(LNineBars;II[J)I"⟩) := tbq4 184 (by decide +kernel) rfl
theorem tb_sm_Law_judge : mTB (Cond.static ⟨"NineBarsLaw", "judge", "(LNineBars;II[J)I"⟩) := tbq4 185 (by decide +kernel) rfl
theorem d_Law_law_788 : decode code 788 = .ok (.istore 5, 2) := by decide +kernel
theorem d_Law_law_790 : decode code 790 = .ok (.aload_n 2, 1) := by decide +kernel
theorem d_Law_law_791 : decode code 791 = .ok (.aload_n 0, 1) := by decide +kernel
theorem d_Law_law_792 : decode code 792 = .ok (.iload 4, 2) := by decide +kernel
theorem d_Law_law_794 : decode code 794 = .ok (.iconst 1, 1) := by decide +kernel
theorem d_Law_law_795 : decode code 795 = .ok (.iadd, 1) := by decide +kernel
theorem d_Law_law_796 : decode code 796 = .ok (.iaload, 1) := by decide +kernel
theorem d_Law_law_797 : decode code 797 = .ok (.aload_n 0, 1) := by decide +kernel
theorem d_Law_law_798 : decode code 798 = .ok (.iload 4, 2) := by decide +kernel
theorem d_Law_law_800 : decode code 800 = .ok (.iconst 2, 1) := by decide +kernel
theorem d_Law_law_801 : decode code 801 = .ok (.iadd, 1) := by decide +kernel
theorem d_Law_law_802 : decode code 802 = .ok (.iaload, 1) := by decide +kernel
theorem d_Law_law_803 : decode code 803 = .ok (.invokevirtual 187, 3) := by decide +kernel
theorem tb_ml_Law_187 : mTB (Cond.methodLink "NineBarsLaw" 187 ⟨"NineBarsModel", "judge", "(II)I"⟩) := tbq8 54 (by decide +kernel) rfl
theorem tb_im_Md_judge : mTB (Cond.instanceMethod ⟨"NineBarsModel", "judge", "(II)I"⟩) := tbq8 55 (by decide +kernel) rfl
theorem tb_se_Md_judge : mTB (Cond.selects "NineBarsModel" ⟨"NineBarsModel", "judge", "(II)I"⟩ ⟨"NineBarsModel", "judge", "(II)I"⟩) := tbq8 56 (by decide +kernel) rfl
theorem mv_Md_judge {M : mM} {idx : Nat} (h : mTB (Cond.methodLink (mO M) idx ⟨"NineBarsModel", "judge", "(II)I"⟩)) : mCaV M M_Md_judge idx 11 := ⟨h, tb_im_Md_judge, tb_se_Md_judge, by decide, TX11, 40, rfl⟩
theorem d_Law_law_806 : decode code 806 = .ok (.istore 6, 2) := by decide +kernel
theorem d_Law_law_808 : decode code 808 = .ok (.aload_n 2, 1) := by decide +kernel
theorem d_Law_law_809 : decode code 809 = .ok (.invokevirtual 146, 3) := by decide +kernel
theorem d_Law_law_812 : decode code 812 = .ok (.iload 5, 2) := by decide +kernel
theorem d_Law_law_814 : decode code 814 = .ok (.if_icmp .eq 5, 3) := by decide +kernel
theorem d_Law_law_819 : decode code 819 = .ok (.iload 5, 2) := by decide +kernel
theorem d_Law_law_821 : decode code 821 = .ok (.ifCond .ne 15, 3) := by decide +kernel
theorem d_Law_law_836 : decode code 836 = .ok (.goto 1806, 3) := by decide +kernel
theorem d_Law_law_824 : decode code 824 = .ok (.aload_n 3, 1) := by decide +kernel
theorem d_Law_law_825 : decode code 825 = .ok (.iconst 0, 1) := by decide +kernel
theorem d_Law_law_826 : decode code 826 = .ok (.laload, 1) := by decide +kernel
theorem d_Law_law_827 : decode code 827 = .ok (.iload 6, 2) := by decide +kernel
theorem d_Law_law_829 : decode code 829 = .ok (.i2l, 1) := by decide +kernel
theorem d_Law_law_830 : decode code 830 = .ok (.lcmp, 1) := by decide +kernel
theorem d_Law_law_831 : decode code 831 = .ok (.ifCond .eq 5, 3) := by decide +kernel
theorem d_Law_law_834 : decode code 834 = .ok (.iconst 0, 1) := by decide +kernel
theorem d_Law_law_835 : decode code 835 = .ok (.ireturn, 1) := by decide +kernel
theorem d_Law_law_817 : decode code 817 = .ok (.iconst 0, 1) := by decide +kernel
theorem d_Law_law_818 : decode code 818 = .ok (.ireturn, 1) := by decide +kernel
theorem d_Law_law_839 : decode code 839 = .ok (.aload_n 1, 1) := by decide +kernel
theorem d_Law_law_840 : decode code 840 = .ok (.aload_n 0, 1) := by decide +kernel
theorem d_Law_law_841 : decode code 841 = .ok (.iload 4, 2) := by decide +kernel
theorem d_Law_law_843 : decode code 843 = .ok (.iconst 1, 1) := by decide +kernel
theorem d_Law_law_844 : decode code 844 = .ok (.iadd, 1) := by decide +kernel
theorem d_Law_law_845 : decode code 845 = .ok (.iaload, 1) := by decide +kernel
theorem d_Law_law_846 : decode code 846 = .ok (.aload_n 3, 1) := by decide +kernel
theorem d_Law_law_847 : decode code 847 = .ok (.invokestatic 188, 3) := by decide +kernel
theorem tb_ml_Law_188 : mTB (Cond.methodLink "NineBarsLaw" 188 ⟨"NineBarsLaw", "perform", "(LNineBars;I[J)I"⟩) := tbq4 208 (by decide +kernel) rfl
theorem tb_sm_Law_perform : mTB (Cond.static ⟨"NineBarsLaw", "perform", "(LNineBars;I[J)I"⟩) := tbq4 209 (by decide +kernel) rfl
theorem d_Law_law_850 : decode code 850 = .ok (.istore 5, 2) := by decide +kernel
theorem d_Law_law_852 : decode code 852 = .ok (.aload_n 2, 1) := by decide +kernel
theorem d_Law_law_853 : decode code 853 = .ok (.aload_n 0, 1) := by decide +kernel
theorem d_Law_law_854 : decode code 854 = .ok (.iload 4, 2) := by decide +kernel
theorem d_Law_law_856 : decode code 856 = .ok (.iconst 1, 1) := by decide +kernel
theorem d_Law_law_857 : decode code 857 = .ok (.iadd, 1) := by decide +kernel
theorem d_Law_law_858 : decode code 858 = .ok (.iaload, 1) := by decide +kernel
theorem d_Law_law_859 : decode code 859 = .ok (.invokevirtual 190, 3) := by decide +kernel
theorem tb_ml_Law_190 : mTB (Cond.methodLink "NineBarsLaw" 190 ⟨"NineBarsModel", "perform", "(I)I"⟩) := tbq8 75 (by decide +kernel) rfl
theorem tb_im_Md_perform : mTB (Cond.instanceMethod ⟨"NineBarsModel", "perform", "(I)I"⟩) := tbq8 76 (by decide +kernel) rfl
theorem tb_se_Md_perform : mTB (Cond.selects "NineBarsModel" ⟨"NineBarsModel", "perform", "(I)I"⟩ ⟨"NineBarsModel", "perform", "(I)I"⟩) := tbq8 77 (by decide +kernel) rfl
theorem mv_Md_perform {M : mM} {idx : Nat} (h : mTB (Cond.methodLink (mO M) idx ⟨"NineBarsModel", "perform", "(I)I"⟩)) : mCaV M M_Md_perform idx 11 := ⟨h, tb_im_Md_perform, tb_se_Md_perform, by decide, TX11, 40, rfl⟩
theorem d_Law_law_862 : decode code 862 = .ok (.istore 6, 2) := by decide +kernel
theorem d_Law_law_864 : decode code 864 = .ok (.aload_n 2, 1) := by decide +kernel
theorem d_Law_law_865 : decode code 865 = .ok (.invokevirtual 146, 3) := by decide +kernel
theorem d_Law_law_868 : decode code 868 = .ok (.iload 5, 2) := by decide +kernel
theorem d_Law_law_870 : decode code 870 = .ok (.if_icmp .eq 5, 3) := by decide +kernel
theorem d_Law_law_875 : decode code 875 = .ok (.iload 5, 2) := by decide +kernel
theorem d_Law_law_877 : decode code 877 = .ok (.ifCond .ne 15, 3) := by decide +kernel
theorem d_Law_law_892 : decode code 892 = .ok (.goto 1750, 3) := by decide +kernel
theorem d_Law_law_880 : decode code 880 = .ok (.aload_n 3, 1) := by decide +kernel
theorem d_Law_law_881 : decode code 881 = .ok (.iconst 0, 1) := by decide +kernel
theorem d_Law_law_882 : decode code 882 = .ok (.laload, 1) := by decide +kernel
theorem d_Law_law_883 : decode code 883 = .ok (.iload 6, 2) := by decide +kernel
theorem d_Law_law_885 : decode code 885 = .ok (.i2l, 1) := by decide +kernel
theorem d_Law_law_886 : decode code 886 = .ok (.lcmp, 1) := by decide +kernel
theorem d_Law_law_887 : decode code 887 = .ok (.ifCond .eq 5, 3) := by decide +kernel
theorem d_Law_law_890 : decode code 890 = .ok (.iconst 0, 1) := by decide +kernel
theorem d_Law_law_891 : decode code 891 = .ok (.ireturn, 1) := by decide +kernel
theorem d_Law_law_873 : decode code 873 = .ok (.iconst 0, 1) := by decide +kernel
theorem d_Law_law_874 : decode code 874 = .ok (.ireturn, 1) := by decide +kernel
theorem d_Law_law_895 : decode code 895 = .ok (.aload_n 1, 1) := by decide +kernel
theorem d_Law_law_896 : decode code 896 = .ok (.aload_n 0, 1) := by decide +kernel
theorem d_Law_law_897 : decode code 897 = .ok (.iload 4, 2) := by decide +kernel
theorem d_Law_law_899 : decode code 899 = .ok (.iconst 1, 1) := by decide +kernel
theorem d_Law_law_900 : decode code 900 = .ok (.iadd, 1) := by decide +kernel
theorem d_Law_law_901 : decode code 901 = .ok (.iaload, 1) := by decide +kernel
theorem d_Law_law_902 : decode code 902 = .ok (.aload_n 0, 1) := by decide +kernel
theorem d_Law_law_903 : decode code 903 = .ok (.iload 4, 2) := by decide +kernel
theorem d_Law_law_905 : decode code 905 = .ok (.iconst 2, 1) := by decide +kernel
theorem d_Law_law_906 : decode code 906 = .ok (.iadd, 1) := by decide +kernel
theorem d_Law_law_907 : decode code 907 = .ok (.iaload, 1) := by decide +kernel
theorem d_Law_law_908 : decode code 908 = .ok (.aload_n 3, 1) := by decide +kernel
theorem d_Law_law_909 : decode code 909 = .ok (.invokestatic 191, 3) := by decide +kernel
theorem tb_ml_Law_191 : mTB (Cond.methodLink "NineBarsLaw" 191 ⟨"NineBarsLaw", "thief", "(LNineBars;II[J)I"⟩) := tbq4 215 (by decide +kernel) rfl
theorem tb_sm_Law_thief : mTB (Cond.static ⟨"NineBarsLaw", "thief", "(LNineBars;II[J)I"⟩) := tbq4 216 (by decide +kernel) rfl
theorem d_Law_law_912 : decode code 912 = .ok (.istore 5, 2) := by decide +kernel
theorem d_Law_law_914 : decode code 914 = .ok (.aload_n 2, 1) := by decide +kernel
theorem d_Law_law_915 : decode code 915 = .ok (.aload_n 0, 1) := by decide +kernel
theorem d_Law_law_916 : decode code 916 = .ok (.iload 4, 2) := by decide +kernel
theorem d_Law_law_918 : decode code 918 = .ok (.iconst 1, 1) := by decide +kernel
theorem d_Law_law_919 : decode code 919 = .ok (.iadd, 1) := by decide +kernel
theorem d_Law_law_920 : decode code 920 = .ok (.iaload, 1) := by decide +kernel
theorem d_Law_law_921 : decode code 921 = .ok (.aload_n 0, 1) := by decide +kernel
theorem d_Law_law_922 : decode code 922 = .ok (.iload 4, 2) := by decide +kernel
theorem d_Law_law_924 : decode code 924 = .ok (.iconst 2, 1) := by decide +kernel
theorem d_Law_law_925 : decode code 925 = .ok (.iadd, 1) := by decide +kernel
theorem d_Law_law_926 : decode code 926 = .ok (.iaload, 1) := by decide +kernel
theorem d_Law_law_927 : decode code 927 = .ok (.invokevirtual 193, 3) := by decide +kernel
theorem tb_ml_Law_193 : mTB (Cond.methodLink "NineBarsLaw" 193 ⟨"NineBarsModel", "thief", "(II)I"⟩) := tbq8 79 (by decide +kernel) rfl
theorem tb_im_Md_thief : mTB (Cond.instanceMethod ⟨"NineBarsModel", "thief", "(II)I"⟩) := tbq8 80 (by decide +kernel) rfl
theorem tb_se_Md_thief : mTB (Cond.selects "NineBarsModel" ⟨"NineBarsModel", "thief", "(II)I"⟩ ⟨"NineBarsModel", "thief", "(II)I"⟩) := tbq8 81 (by decide +kernel) rfl
theorem mv_Md_thief {M : mM} {idx : Nat} (h : mTB (Cond.methodLink (mO M) idx ⟨"NineBarsModel", "thief", "(II)I"⟩)) : mCaV M M_Md_thief idx 11 := ⟨h, tb_im_Md_thief, tb_se_Md_thief, by decide, TX11, 40, rfl⟩
theorem d_Law_law_930 : decode code 930 = .ok (.istore 6, 2) := by decide +kernel
theorem d_Law_law_932 : decode code 932 = .ok (.aload_n 2, 1) := by decide +kernel
theorem d_Law_law_933 : decode code 933 = .ok (.invokevirtual 146, 3) := by decide +kernel
theorem d_Law_law_936 : decode code 936 = .ok (.iload 5, 2) := by decide +kernel
theorem d_Law_law_938 : decode code 938 = .ok (.if_icmp .eq 5, 3) := by decide +kernel
theorem d_Law_law_943 : decode code 943 = .ok (.iload 5, 2) := by decide +kernel
theorem d_Law_law_945 : decode code 945 = .ok (.ifCond .ne 15, 3) := by decide +kernel
theorem d_Law_law_960 : decode code 960 = .ok (.goto 1682, 3) := by decide +kernel
theorem d_Law_law_948 : decode code 948 = .ok (.aload_n 3, 1) := by decide +kernel
theorem d_Law_law_949 : decode code 949 = .ok (.iconst 0, 1) := by decide +kernel
theorem d_Law_law_950 : decode code 950 = .ok (.laload, 1) := by decide +kernel
theorem d_Law_law_951 : decode code 951 = .ok (.iload 6, 2) := by decide +kernel
theorem d_Law_law_953 : decode code 953 = .ok (.i2l, 1) := by decide +kernel
theorem d_Law_law_954 : decode code 954 = .ok (.lcmp, 1) := by decide +kernel
theorem d_Law_law_955 : decode code 955 = .ok (.ifCond .eq 5, 3) := by decide +kernel
theorem d_Law_law_958 : decode code 958 = .ok (.iconst 0, 1) := by decide +kernel
theorem d_Law_law_959 : decode code 959 = .ok (.ireturn, 1) := by decide +kernel
theorem d_Law_law_941 : decode code 941 = .ok (.iconst 0, 1) := by decide +kernel
theorem d_Law_law_942 : decode code 942 = .ok (.ireturn, 1) := by decide +kernel
theorem d_Law_law_963 : decode code 963 = .ok (.aload_n 1, 1) := by decide +kernel
theorem d_Law_law_964 : decode code 964 = .ok (.invokevirtual 194, 3) := by decide +kernel
theorem tb_ml_Law_194 : mTB (Cond.methodLink "NineBarsLaw" 194 ⟨"NineBars", "reached", "()I"⟩) := tbq3 59 (by decide +kernel) rfl
theorem tb_im_Nb_reached : mTB (Cond.instanceMethod ⟨"NineBars", "reached", "()I"⟩) := tbq3 60 (by decide +kernel) rfl
theorem tb_se_Nb_reached : mTB (Cond.selects "NineBars" ⟨"NineBars", "reached", "()I"⟩ ⟨"NineBars", "reached", "()I"⟩) := tbq3 61 (by decide +kernel) rfl
theorem mv_Nb_reached {M : mM} {idx : Nat} (h : mTB (Cond.methodLink (mO M) idx ⟨"NineBars", "reached", "()I"⟩)) : mCaV M M_Nb_reached idx 10 := ⟨h, tb_im_Nb_reached, tb_se_Nb_reached, by decide, TX10, 19, rfl⟩
theorem d_Law_law_967 : decode code 967 = .ok (.aload_n 2, 1) := by decide +kernel
theorem d_Law_law_968 : decode code 968 = .ok (.invokevirtual 197, 3) := by decide +kernel
theorem tb_ml_Law_197 : mTB (Cond.methodLink "NineBarsLaw" 197 ⟨"NineBarsModel", "reached", "()I"⟩) := tbq8 89 (by decide +kernel) rfl
theorem tb_im_Md_reached : mTB (Cond.instanceMethod ⟨"NineBarsModel", "reached", "()I"⟩) := tbq8 90 (by decide +kernel) rfl
theorem tb_se_Md_reached : mTB (Cond.selects "NineBarsModel" ⟨"NineBarsModel", "reached", "()I"⟩ ⟨"NineBarsModel", "reached", "()I"⟩) := tbq8 91 (by decide +kernel) rfl
theorem mv_Md_reached {M : mM} {idx : Nat} (h : mTB (Cond.methodLink (mO M) idx ⟨"NineBarsModel", "reached", "()I"⟩)) : mCaV M M_Md_reached idx 11 := ⟨h, tb_im_Md_reached, tb_se_Md_reached, by decide, TX11, 40, rfl⟩
theorem d_Law_law_971 : decode code 971 = .ok (.if_icmp .eq 1671, 3) := by decide +kernel
theorem d_Law_law_974 : decode code 974 = .ok (.iconst 0, 1) := by decide +kernel
theorem d_Law_law_975 : decode code 975 = .ok (.ireturn, 1) := by decide +kernel
theorem d_Law_law_976 : decode code 976 = .ok (.aload_n 1, 1) := by decide +kernel
theorem d_Law_law_977 : decode code 977 = .ok (.aload_n 0, 1) := by decide +kernel
theorem d_Law_law_978 : decode code 978 = .ok (.iload 4, 2) := by decide +kernel
theorem d_Law_law_980 : decode code 980 = .ok (.iconst 1, 1) := by decide +kernel
theorem d_Law_law_981 : decode code 981 = .ok (.iadd, 1) := by decide +kernel
theorem d_Law_law_982 : decode code 982 = .ok (.iaload, 1) := by decide +kernel
theorem d_Law_law_983 : decode code 983 = .ok (.aload_n 3, 1) := by decide +kernel
theorem d_Law_law_984 : decode code 984 = .ok (.invokestatic 198, 3) := by decide +kernel
theorem tb_ml_Law_198 : mTB (Cond.methodLink "NineBarsLaw" 198 ⟨"NineBarsLaw", "canBe", "(LNineBars;I[J)I"⟩) := tbq4 228 (by decide +kernel) rfl
theorem tb_sm_Law_canBe : mTB (Cond.static ⟨"NineBarsLaw", "canBe", "(LNineBars;I[J)I"⟩) := tbq4 229 (by decide +kernel) rfl
theorem d_Law_law_987 : decode code 987 = .ok (.istore 5, 2) := by decide +kernel
theorem d_Law_law_989 : decode code 989 = .ok (.aload_n 2, 1) := by decide +kernel
theorem d_Law_law_990 : decode code 990 = .ok (.aload_n 0, 1) := by decide +kernel
theorem d_Law_law_991 : decode code 991 = .ok (.iload 4, 2) := by decide +kernel
theorem d_Law_law_993 : decode code 993 = .ok (.iconst 1, 1) := by decide +kernel
theorem d_Law_law_994 : decode code 994 = .ok (.iadd, 1) := by decide +kernel
theorem d_Law_law_995 : decode code 995 = .ok (.iaload, 1) := by decide +kernel
theorem d_Law_law_996 : decode code 996 = .ok (.invokevirtual 200, 3) := by decide +kernel
theorem tb_ml_Law_200 : mTB (Cond.methodLink "NineBarsLaw" 200 ⟨"NineBarsModel", "canBe", "(I)Z"⟩) := tbq8 121 (by decide +kernel) rfl
theorem tb_im_Md_canBe : mTB (Cond.instanceMethod ⟨"NineBarsModel", "canBe", "(I)Z"⟩) := tbq8 122 (by decide +kernel) rfl
theorem tb_se_Md_canBe : mTB (Cond.selects "NineBarsModel" ⟨"NineBarsModel", "canBe", "(I)Z"⟩ ⟨"NineBarsModel", "canBe", "(I)Z"⟩) := tbq8 123 (by decide +kernel) rfl
theorem mv_Md_canBe {M : mM} {idx : Nat} (h : mTB (Cond.methodLink (mO M) idx ⟨"NineBarsModel", "canBe", "(I)Z"⟩)) : mCaV M M_Md_canBe idx 11 := ⟨h, tb_im_Md_canBe, tb_se_Md_canBe, by decide, TX11, 40, rfl⟩
theorem d_Law_law_999 : decode code 999 = .ok (.istore 6, 2) := by decide +kernel
theorem d_Law_law_1001 : decode code 1001 = .ok (.aload_n 2, 1) := by decide +kernel
theorem d_Law_law_1002 : decode code 1002 = .ok (.invokevirtual 146, 3) := by decide +kernel
theorem d_Law_law_1005 : decode code 1005 = .ok (.iload 5, 2) := by decide +kernel
theorem d_Law_law_1007 : decode code 1007 = .ok (.if_icmp .eq 5, 3) := by decide +kernel
theorem d_Law_law_1012 : decode code 1012 = .ok (.iload 5, 2) := by decide +kernel
theorem d_Law_law_1014 : decode code 1014 = .ok (.ifCond .ne 22, 3) := by decide +kernel
theorem d_Law_law_1036 : decode code 1036 = .ok (.goto 1606, 3) := by decide +kernel
theorem d_Law_law_1017 : decode code 1017 = .ok (.aload_n 3, 1) := by decide +kernel
theorem d_Law_law_1018 : decode code 1018 = .ok (.iconst 0, 1) := by decide +kernel
theorem d_Law_law_1019 : decode code 1019 = .ok (.laload, 1) := by decide +kernel
theorem d_Law_law_1020 : decode code 1020 = .ok (.iload 6, 2) := by decide +kernel
theorem d_Law_law_1022 : decode code 1022 = .ok (.ifCond .eq 7, 3) := by decide +kernel
theorem d_Law_law_1029 : decode code 1029 = .ok (.lconst 0, 1) := by decide +kernel
theorem d_Law_law_1030 : decode code 1030 = .ok (.lcmp, 1) := by decide +kernel
theorem d_Law_law_1031 : decode code 1031 = .ok (.ifCond .eq 5, 3) := by decide +kernel
theorem d_Law_law_1034 : decode code 1034 = .ok (.iconst 0, 1) := by decide +kernel
theorem d_Law_law_1035 : decode code 1035 = .ok (.ireturn, 1) := by decide +kernel
theorem d_Law_law_1025 : decode code 1025 = .ok (.lconst 1, 1) := by decide +kernel
theorem d_Law_law_1026 : decode code 1026 = .ok (.goto 4, 3) := by decide +kernel
theorem d_Law_law_1010 : decode code 1010 = .ok (.iconst 0, 1) := by decide +kernel
theorem d_Law_law_1011 : decode code 1011 = .ok (.ireturn, 1) := by decide +kernel
theorem d_Law_law_1039 : decode code 1039 = .ok (.aload_n 1, 1) := by decide +kernel
theorem d_Law_law_1040 : decode code 1040 = .ok (.aload_n 0, 1) := by decide +kernel
theorem d_Law_law_1041 : decode code 1041 = .ok (.iload 4, 2) := by decide +kernel
theorem d_Law_law_1043 : decode code 1043 = .ok (.iconst 1, 1) := by decide +kernel
theorem d_Law_law_1044 : decode code 1044 = .ok (.iadd, 1) := by decide +kernel
theorem d_Law_law_1045 : decode code 1045 = .ok (.iaload, 1) := by decide +kernel
theorem d_Law_law_1046 : decode code 1046 = .ok (.aload_n 0, 1) := by decide +kernel
theorem d_Law_law_1047 : decode code 1047 = .ok (.iload 4, 2) := by decide +kernel
theorem d_Law_law_1049 : decode code 1049 = .ok (.iconst 2, 1) := by decide +kernel
theorem d_Law_law_1050 : decode code 1050 = .ok (.iadd, 1) := by decide +kernel
theorem d_Law_law_1051 : decode code 1051 = .ok (.iaload, 1) := by decide +kernel
theorem d_Law_law_1052 : decode code 1052 = .ok (.aload_n 0, 1) := by decide +kernel
theorem d_Law_law_1053 : decode code 1053 = .ok (.iload 4, 2) := by decide +kernel
theorem d_Law_law_1055 : decode code 1055 = .ok (.iconst 3, 1) := by decide +kernel
theorem d_Law_law_1056 : decode code 1056 = .ok (.iadd, 1) := by decide +kernel
theorem d_Law_law_1057 : decode code 1057 = .ok (.iaload, 1) := by decide +kernel
theorem d_Law_law_1058 : decode code 1058 = .ok (.aload_n 3, 1) := by decide +kernel
theorem d_Law_law_1059 : decode code 1059 = .ok (.invokestatic 201, 3) := by decide +kernel
theorem tb_ml_Law_201 : mTB (Cond.methodLink "NineBarsLaw" 201 ⟨"NineBarsLaw", "shortest", "(LNineBars;III[J)I"⟩) := tbq5 0 (by decide +kernel) rfl
theorem tb_sm_Law_shortest : mTB (Cond.static ⟨"NineBarsLaw", "shortest", "(LNineBars;III[J)I"⟩) := tbq5 1 (by decide +kernel) rfl
theorem d_Law_law_1062 : decode code 1062 = .ok (.istore 5, 2) := by decide +kernel
theorem d_Law_law_1064 : decode code 1064 = .ok (.aload_n 2, 1) := by decide +kernel
theorem d_Law_law_1065 : decode code 1065 = .ok (.aload_n 0, 1) := by decide +kernel
theorem d_Law_law_1066 : decode code 1066 = .ok (.iload 4, 2) := by decide +kernel
theorem d_Law_law_1068 : decode code 1068 = .ok (.iconst 1, 1) := by decide +kernel
theorem d_Law_law_1069 : decode code 1069 = .ok (.iadd, 1) := by decide +kernel
theorem d_Law_law_1070 : decode code 1070 = .ok (.iaload, 1) := by decide +kernel
theorem d_Law_law_1071 : decode code 1071 = .ok (.aload_n 0, 1) := by decide +kernel
theorem d_Law_law_1072 : decode code 1072 = .ok (.iload 4, 2) := by decide +kernel
theorem d_Law_law_1074 : decode code 1074 = .ok (.iconst 2, 1) := by decide +kernel
theorem d_Law_law_1075 : decode code 1075 = .ok (.iadd, 1) := by decide +kernel
theorem d_Law_law_1076 : decode code 1076 = .ok (.iaload, 1) := by decide +kernel
theorem d_Law_law_1077 : decode code 1077 = .ok (.aload_n 0, 1) := by decide +kernel
theorem d_Law_law_1078 : decode code 1078 = .ok (.iload 4, 2) := by decide +kernel
theorem d_Law_law_1080 : decode code 1080 = .ok (.iconst 3, 1) := by decide +kernel
theorem d_Law_law_1081 : decode code 1081 = .ok (.iadd, 1) := by decide +kernel
theorem d_Law_law_1082 : decode code 1082 = .ok (.iaload, 1) := by decide +kernel
theorem d_Law_law_1083 : decode code 1083 = .ok (.invokevirtual 204, 3) := by decide +kernel
theorem tb_ml_Law_204 : mTB (Cond.methodLink "NineBarsLaw" 204 ⟨"NineBarsModel", "shortest", "(III)I"⟩) := tbq8 125 (by decide +kernel) rfl
theorem tb_im_Md_shortest : mTB (Cond.instanceMethod ⟨"NineBarsModel", "shortest", "(III)I"⟩) := tbq8 126 (by decide +kernel) rfl
theorem tb_se_Md_shortest : mTB (Cond.selects "NineBarsModel" ⟨"NineBarsModel", "shortest", "(III)I"⟩ ⟨"NineBarsModel", "shortest", "(III)I"⟩) := tbq8 127 (by decide +kernel) rfl
theorem mv_Md_shortest {M : mM} {idx : Nat} (h : mTB (Cond.methodLink (mO M) idx ⟨"NineBarsModel", "shortest", "(III)I"⟩)) : mCaV M M_Md_shortest idx 11 := ⟨h, tb_im_Md_shortest, tb_se_Md_shortest, by decide, TX11, 40, rfl⟩
theorem d_Law_law_1086 : decode code 1086 = .ok (.istore 6, 2) := by decide +kernel
theorem d_Law_law_1088 : decode code 1088 = .ok (.aload_n 2, 1) := by decide +kernel
theorem d_Law_law_1089 : decode code 1089 = .ok (.invokevirtual 146, 3) := by decide +kernel
theorem d_Law_law_1092 : decode code 1092 = .ok (.iload 5, 2) := by decide +kernel
theorem d_Law_law_1094 : decode code 1094 = .ok (.if_icmp .eq 5, 3) := by decide +kernel
theorem d_Law_law_1099 : decode code 1099 = .ok (.iload 5, 2) := by decide +kernel
theorem d_Law_law_1101 : decode code 1101 = .ok (.ifCond .ne 15, 3) := by decide +kernel
theorem d_Law_law_1116 : decode code 1116 = .ok (.goto 1526, 3) := by decide +kernel
theorem d_Law_law_1104 : decode code 1104 = .ok (.aload_n 3, 1) := by decide +kernel
theorem d_Law_law_1105 : decode code 1105 = .ok (.iconst 0, 1) := by decide +kernel
theorem d_Law_law_1106 : decode code 1106 = .ok (.laload, 1) := by decide +kernel
theorem d_Law_law_1107 : decode code 1107 = .ok (.iload 6, 2) := by decide +kernel
theorem d_Law_law_1109 : decode code 1109 = .ok (.i2l, 1) := by decide +kernel
theorem d_Law_law_1110 : decode code 1110 = .ok (.lcmp, 1) := by decide +kernel
theorem d_Law_law_1111 : decode code 1111 = .ok (.ifCond .eq 5, 3) := by decide +kernel
theorem d_Law_law_1114 : decode code 1114 = .ok (.iconst 0, 1) := by decide +kernel
theorem d_Law_law_1115 : decode code 1115 = .ok (.ireturn, 1) := by decide +kernel
theorem d_Law_law_1097 : decode code 1097 = .ok (.iconst 0, 1) := by decide +kernel
theorem d_Law_law_1098 : decode code 1098 = .ok (.ireturn, 1) := by decide +kernel
theorem d_Law_law_1119 : decode code 1119 = .ok (.aload_n 1, 1) := by decide +kernel
theorem d_Law_law_1120 : decode code 1120 = .ok (.aload_n 0, 1) := by decide +kernel
theorem d_Law_law_1121 : decode code 1121 = .ok (.iload 4, 2) := by decide +kernel
theorem d_Law_law_1123 : decode code 1123 = .ok (.iconst 1, 1) := by decide +kernel
theorem d_Law_law_1124 : decode code 1124 = .ok (.iadd, 1) := by decide +kernel
theorem d_Law_law_1125 : decode code 1125 = .ok (.iaload, 1) := by decide +kernel
theorem d_Law_law_1126 : decode code 1126 = .ok (.aload_n 3, 1) := by decide +kernel
theorem d_Law_law_1127 : decode code 1127 = .ok (.invokestatic 205, 3) := by decide +kernel
theorem tb_ml_Law_205 : mTB (Cond.methodLink "NineBarsLaw" 205 ⟨"NineBarsLaw", "opening", "(LNineBars;I[J)I"⟩) := tbq5 27 (by decide +kernel) rfl
theorem tb_sm_Law_opening : mTB (Cond.static ⟨"NineBarsLaw", "opening", "(LNineBars;I[J)I"⟩) := tbq5 28 (by decide +kernel) rfl
theorem d_Law_law_1130 : decode code 1130 = .ok (.istore 5, 2) := by decide +kernel
theorem d_Law_law_1132 : decode code 1132 = .ok (.aload_n 2, 1) := by decide +kernel
theorem d_Law_law_1133 : decode code 1133 = .ok (.aload_n 0, 1) := by decide +kernel
theorem d_Law_law_1134 : decode code 1134 = .ok (.iload 4, 2) := by decide +kernel
theorem d_Law_law_1136 : decode code 1136 = .ok (.iconst 1, 1) := by decide +kernel
theorem d_Law_law_1137 : decode code 1137 = .ok (.iadd, 1) := by decide +kernel
theorem d_Law_law_1138 : decode code 1138 = .ok (.iaload, 1) := by decide +kernel
theorem d_Law_law_1139 : decode code 1139 = .ok (.invokevirtual 207, 3) := by decide +kernel
theorem tb_ml_Law_207 : mTB (Cond.methodLink "NineBarsLaw" 207 ⟨"NineBarsModel", "opening", "(I)I"⟩) := tbq8 141 (by decide +kernel) rfl
theorem tb_im_Md_opening : mTB (Cond.instanceMethod ⟨"NineBarsModel", "opening", "(I)I"⟩) := tbq8 142 (by decide +kernel) rfl
theorem tb_se_Md_opening : mTB (Cond.selects "NineBarsModel" ⟨"NineBarsModel", "opening", "(I)I"⟩ ⟨"NineBarsModel", "opening", "(I)I"⟩) := tbq8 143 (by decide +kernel) rfl
theorem mv_Md_opening {M : mM} {idx : Nat} (h : mTB (Cond.methodLink (mO M) idx ⟨"NineBarsModel", "opening", "(I)I"⟩)) : mCaV M M_Md_opening idx 11 := ⟨h, tb_im_Md_opening, tb_se_Md_opening, by decide, TX11, 40, rfl⟩
theorem d_Law_law_1142 : decode code 1142 = .ok (.istore 6, 2) := by decide +kernel
theorem d_Law_law_1144 : decode code 1144 = .ok (.aload_n 2, 1) := by decide +kernel
theorem d_Law_law_1145 : decode code 1145 = .ok (.invokevirtual 146, 3) := by decide +kernel
theorem d_Law_law_1148 : decode code 1148 = .ok (.iload 5, 2) := by decide +kernel
theorem d_Law_law_1150 : decode code 1150 = .ok (.if_icmp .eq 5, 3) := by decide +kernel
theorem d_Law_law_1155 : decode code 1155 = .ok (.iload 5, 2) := by decide +kernel
theorem d_Law_law_1157 : decode code 1157 = .ok (.ifCond .ne 15, 3) := by decide +kernel
theorem d_Law_law_1172 : decode code 1172 = .ok (.goto 1470, 3) := by decide +kernel
theorem d_Law_law_1160 : decode code 1160 = .ok (.aload_n 3, 1) := by decide +kernel
theorem d_Law_law_1161 : decode code 1161 = .ok (.iconst 0, 1) := by decide +kernel
theorem d_Law_law_1162 : decode code 1162 = .ok (.laload, 1) := by decide +kernel
theorem d_Law_law_1163 : decode code 1163 = .ok (.iload 6, 2) := by decide +kernel
theorem d_Law_law_1165 : decode code 1165 = .ok (.i2l, 1) := by decide +kernel
theorem d_Law_law_1166 : decode code 1166 = .ok (.lcmp, 1) := by decide +kernel
theorem d_Law_law_1167 : decode code 1167 = .ok (.ifCond .eq 5, 3) := by decide +kernel
theorem d_Law_law_1170 : decode code 1170 = .ok (.iconst 0, 1) := by decide +kernel
theorem d_Law_law_1171 : decode code 1171 = .ok (.ireturn, 1) := by decide +kernel
theorem d_Law_law_1153 : decode code 1153 = .ok (.iconst 0, 1) := by decide +kernel
theorem d_Law_law_1154 : decode code 1154 = .ok (.ireturn, 1) := by decide +kernel
theorem d_Law_law_1175 : decode code 1175 = .ok (.aload_n 1, 1) := by decide +kernel
theorem d_Law_law_1176 : decode code 1176 = .ok (.aload_n 3, 1) := by decide +kernel
theorem d_Law_law_1177 : decode code 1177 = .ok (.invokestatic 208, 3) := by decide +kernel
theorem tb_ml_Law_208 : mTB (Cond.methodLink "NineBarsLaw" 208 ⟨"NineBarsLaw", "ways", "(LNineBars;[J)I"⟩) := tbq5 38 (by decide +kernel) rfl
theorem tb_sm_Law_ways : mTB (Cond.static ⟨"NineBarsLaw", "ways", "(LNineBars;[J)I"⟩) := tbq5 39 (by decide +kernel) rfl
theorem d_Law_law_1180 : decode code 1180 = .ok (.istore 5, 2) := by decide +kernel
theorem d_Law_law_1182 : decode code 1182 = .ok (.aload_n 2, 1) := by decide +kernel
theorem d_Law_law_1183 : decode code 1183 = .ok (.invokevirtual 211, 3) := by decide +kernel
theorem tb_ml_Law_211 : mTB (Cond.methodLink "NineBarsLaw" 211 ⟨"NineBarsModel", "ways", "()J"⟩) := tbq8 149 (by decide +kernel) rfl
theorem tb_im_Md_ways : mTB (Cond.instanceMethod ⟨"NineBarsModel", "ways", "()J"⟩) := tbq8 150 (by decide +kernel) rfl
theorem tb_se_Md_ways : mTB (Cond.selects "NineBarsModel" ⟨"NineBarsModel", "ways", "()J"⟩ ⟨"NineBarsModel", "ways", "()J"⟩) := tbq8 151 (by decide +kernel) rfl
theorem mv_Md_ways {M : mM} {idx : Nat} (h : mTB (Cond.methodLink (mO M) idx ⟨"NineBarsModel", "ways", "()J"⟩)) : mCaV M M_Md_ways idx 11 := ⟨h, tb_im_Md_ways, tb_se_Md_ways, by decide, TX11, 40, rfl⟩
theorem d_Law_law_1186 : decode code 1186 = .ok (.lstore 6, 2) := by decide +kernel
theorem d_Law_law_1188 : decode code 1188 = .ok (.aload_n 2, 1) := by decide +kernel
theorem d_Law_law_1189 : decode code 1189 = .ok (.invokevirtual 146, 3) := by decide +kernel
theorem d_Law_law_1192 : decode code 1192 = .ok (.iload 5, 2) := by decide +kernel
theorem d_Law_law_1194 : decode code 1194 = .ok (.if_icmp .eq 5, 3) := by decide +kernel
theorem d_Law_law_1199 : decode code 1199 = .ok (.iload 5, 2) := by decide +kernel
theorem d_Law_law_1201 : decode code 1201 = .ok (.ifCond .ne 14, 3) := by decide +kernel
theorem d_Law_law_1215 : decode code 1215 = .ok (.goto 1427, 3) := by decide +kernel
theorem d_Law_law_1204 : decode code 1204 = .ok (.aload_n 3, 1) := by decide +kernel
theorem d_Law_law_1205 : decode code 1205 = .ok (.iconst 0, 1) := by decide +kernel
theorem d_Law_law_1206 : decode code 1206 = .ok (.laload, 1) := by decide +kernel
theorem d_Law_law_1207 : decode code 1207 = .ok (.lload 6, 2) := by decide +kernel
theorem d_Law_law_1209 : decode code 1209 = .ok (.lcmp, 1) := by decide +kernel
theorem d_Law_law_1210 : decode code 1210 = .ok (.ifCond .eq 5, 3) := by decide +kernel
theorem d_Law_law_1213 : decode code 1213 = .ok (.iconst 0, 1) := by decide +kernel
theorem d_Law_law_1214 : decode code 1214 = .ok (.ireturn, 1) := by decide +kernel
theorem d_Law_law_1197 : decode code 1197 = .ok (.iconst 0, 1) := by decide +kernel
theorem d_Law_law_1198 : decode code 1198 = .ok (.ireturn, 1) := by decide +kernel
theorem d_Law_law_1218 : decode code 1218 = .ok (.aload_n 1, 1) := by decide +kernel
theorem d_Law_law_1219 : decode code 1219 = .ok (.aload_n 0, 1) := by decide +kernel
theorem d_Law_law_1220 : decode code 1220 = .ok (.iload 4, 2) := by decide +kernel
theorem d_Law_law_1222 : decode code 1222 = .ok (.iconst 1, 1) := by decide +kernel
theorem d_Law_law_1223 : decode code 1223 = .ok (.iadd, 1) := by decide +kernel
theorem d_Law_law_1224 : decode code 1224 = .ok (.iaload, 1) := by decide +kernel
theorem d_Law_law_1225 : decode code 1225 = .ok (.aload_n 3, 1) := by decide +kernel
theorem d_Law_law_1226 : decode code 1226 = .ok (.invokestatic 212, 3) := by decide +kernel
theorem tb_ml_Law_212 : mTB (Cond.methodLink "NineBarsLaw" 212 ⟨"NineBarsLaw", "farthest", "(LNineBars;I[J)I"⟩) := tbq5 62 (by decide +kernel) rfl
theorem tb_sm_Law_farthest : mTB (Cond.static ⟨"NineBarsLaw", "farthest", "(LNineBars;I[J)I"⟩) := tbq5 63 (by decide +kernel) rfl
theorem d_Law_law_1229 : decode code 1229 = .ok (.istore 5, 2) := by decide +kernel
theorem d_Law_law_1231 : decode code 1231 = .ok (.aload_n 2, 1) := by decide +kernel
theorem d_Law_law_1232 : decode code 1232 = .ok (.aload_n 0, 1) := by decide +kernel
theorem d_Law_law_1233 : decode code 1233 = .ok (.iload 4, 2) := by decide +kernel
theorem d_Law_law_1235 : decode code 1235 = .ok (.iconst 1, 1) := by decide +kernel
theorem d_Law_law_1236 : decode code 1236 = .ok (.iadd, 1) := by decide +kernel
theorem d_Law_law_1237 : decode code 1237 = .ok (.iaload, 1) := by decide +kernel
theorem d_Law_law_1238 : decode code 1238 = .ok (.invokevirtual 214, 3) := by decide +kernel
theorem tb_ml_Law_214 : mTB (Cond.methodLink "NineBarsLaw" 214 ⟨"NineBarsModel", "farthest", "(I)I"⟩) := tbq8 153 (by decide +kernel) rfl
theorem tb_im_Md_farthest : mTB (Cond.instanceMethod ⟨"NineBarsModel", "farthest", "(I)I"⟩) := tbq8 154 (by decide +kernel) rfl
theorem tb_se_Md_farthest : mTB (Cond.selects "NineBarsModel" ⟨"NineBarsModel", "farthest", "(I)I"⟩ ⟨"NineBarsModel", "farthest", "(I)I"⟩) := tbq8 155 (by decide +kernel) rfl
theorem mv_Md_farthest {M : mM} {idx : Nat} (h : mTB (Cond.methodLink (mO M) idx ⟨"NineBarsModel", "farthest", "(I)I"⟩)) : mCaV M M_Md_farthest idx 11 := ⟨h, tb_im_Md_farthest, tb_se_Md_farthest, by decide, TX11, 40, rfl⟩
theorem d_Law_law_1241 : decode code 1241 = .ok (.istore 6, 2) := by decide +kernel
theorem d_Law_law_1243 : decode code 1243 = .ok (.aload_n 2, 1) := by decide +kernel
theorem d_Law_law_1244 : decode code 1244 = .ok (.invokevirtual 146, 3) := by decide +kernel
theorem d_Law_law_1247 : decode code 1247 = .ok (.iload 5, 2) := by decide +kernel
theorem d_Law_law_1249 : decode code 1249 = .ok (.if_icmp .eq 5, 3) := by decide +kernel
theorem d_Law_law_1254 : decode code 1254 = .ok (.iload 5, 2) := by decide +kernel
theorem d_Law_law_1256 : decode code 1256 = .ok (.ifCond .ne 15, 3) := by decide +kernel
theorem d_Law_law_1271 : decode code 1271 = .ok (.goto 1371, 3) := by decide +kernel
theorem d_Law_law_1259 : decode code 1259 = .ok (.aload_n 3, 1) := by decide +kernel
theorem d_Law_law_1260 : decode code 1260 = .ok (.iconst 0, 1) := by decide +kernel
theorem d_Law_law_1261 : decode code 1261 = .ok (.laload, 1) := by decide +kernel
theorem d_Law_law_1262 : decode code 1262 = .ok (.iload 6, 2) := by decide +kernel
theorem d_Law_law_1264 : decode code 1264 = .ok (.i2l, 1) := by decide +kernel
theorem d_Law_law_1265 : decode code 1265 = .ok (.lcmp, 1) := by decide +kernel
theorem d_Law_law_1266 : decode code 1266 = .ok (.ifCond .eq 5, 3) := by decide +kernel
theorem d_Law_law_1269 : decode code 1269 = .ok (.iconst 0, 1) := by decide +kernel
theorem d_Law_law_1270 : decode code 1270 = .ok (.ireturn, 1) := by decide +kernel
theorem d_Law_law_1252 : decode code 1252 = .ok (.iconst 0, 1) := by decide +kernel
theorem d_Law_law_1253 : decode code 1253 = .ok (.ireturn, 1) := by decide +kernel
theorem d_Law_law_1274 : decode code 1274 = .ok (.aload_n 1, 1) := by decide +kernel
theorem d_Law_law_1275 : decode code 1275 = .ok (.aload_n 0, 1) := by decide +kernel
theorem d_Law_law_1276 : decode code 1276 = .ok (.iload 4, 2) := by decide +kernel
theorem d_Law_law_1278 : decode code 1278 = .ok (.iconst 1, 1) := by decide +kernel
theorem d_Law_law_1279 : decode code 1279 = .ok (.iadd, 1) := by decide +kernel
theorem d_Law_law_1280 : decode code 1280 = .ok (.iaload, 1) := by decide +kernel
theorem d_Law_law_1281 : decode code 1281 = .ok (.aload_n 3, 1) := by decide +kernel
theorem d_Law_law_1282 : decode code 1282 = .ok (.invokestatic 215, 3) := by decide +kernel
theorem tb_ml_Law_215 : mTB (Cond.methodLink "NineBarsLaw" 215 ⟨"NineBarsLaw", "within", "(LNineBars;I[J)I"⟩) := tbq5 74 (by decide +kernel) rfl
theorem tb_sm_Law_within : mTB (Cond.static ⟨"NineBarsLaw", "within", "(LNineBars;I[J)I"⟩) := tbq5 75 (by decide +kernel) rfl
theorem d_Law_law_1285 : decode code 1285 = .ok (.istore 5, 2) := by decide +kernel
theorem d_Law_law_1287 : decode code 1287 = .ok (.aload_n 2, 1) := by decide +kernel
theorem d_Law_law_1288 : decode code 1288 = .ok (.aload_n 0, 1) := by decide +kernel
theorem d_Law_law_1289 : decode code 1289 = .ok (.iload 4, 2) := by decide +kernel
theorem d_Law_law_1291 : decode code 1291 = .ok (.iconst 1, 1) := by decide +kernel
theorem d_Law_law_1292 : decode code 1292 = .ok (.iadd, 1) := by decide +kernel
theorem d_Law_law_1293 : decode code 1293 = .ok (.iaload, 1) := by decide +kernel
theorem d_Law_law_1294 : decode code 1294 = .ok (.invokevirtual 217, 3) := by decide +kernel
theorem tb_ml_Law_217 : mTB (Cond.methodLink "NineBarsLaw" 217 ⟨"NineBarsModel", "within", "(I)I"⟩) := tbq8 157 (by decide +kernel) rfl
theorem tb_im_Md_within : mTB (Cond.instanceMethod ⟨"NineBarsModel", "within", "(I)I"⟩) := tbq8 158 (by decide +kernel) rfl
theorem tb_se_Md_within : mTB (Cond.selects "NineBarsModel" ⟨"NineBarsModel", "within", "(I)I"⟩ ⟨"NineBarsModel", "within", "(I)I"⟩) := tbq8 159 (by decide +kernel) rfl
theorem mv_Md_within {M : mM} {idx : Nat} (h : mTB (Cond.methodLink (mO M) idx ⟨"NineBarsModel", "within", "(I)I"⟩)) : mCaV M M_Md_within idx 11 := ⟨h, tb_im_Md_within, tb_se_Md_within, by decide, TX11, 40, rfl⟩
theorem d_Law_law_1297 : decode code 1297 = .ok (.istore 6, 2) := by decide +kernel
theorem d_Law_law_1299 : decode code 1299 = .ok (.aload_n 2, 1) := by decide +kernel
theorem d_Law_law_1300 : decode code 1300 = .ok (.invokevirtual 146, 3) := by decide +kernel
theorem d_Law_law_1303 : decode code 1303 = .ok (.iload 5, 2) := by decide +kernel
theorem d_Law_law_1305 : decode code 1305 = .ok (.if_icmp .eq 5, 3) := by decide +kernel
theorem d_Law_law_1310 : decode code 1310 = .ok (.iload 5, 2) := by decide +kernel
theorem d_Law_law_1312 : decode code 1312 = .ok (.ifCond .ne 15, 3) := by decide +kernel
theorem d_Law_law_1327 : decode code 1327 = .ok (.goto 1315, 3) := by decide +kernel
theorem d_Law_law_1315 : decode code 1315 = .ok (.aload_n 3, 1) := by decide +kernel
theorem d_Law_law_1316 : decode code 1316 = .ok (.iconst 0, 1) := by decide +kernel
theorem d_Law_law_1317 : decode code 1317 = .ok (.laload, 1) := by decide +kernel
theorem d_Law_law_1318 : decode code 1318 = .ok (.iload 6, 2) := by decide +kernel
theorem d_Law_law_1320 : decode code 1320 = .ok (.i2l, 1) := by decide +kernel
theorem d_Law_law_1321 : decode code 1321 = .ok (.lcmp, 1) := by decide +kernel
theorem d_Law_law_1322 : decode code 1322 = .ok (.ifCond .eq 5, 3) := by decide +kernel
theorem d_Law_law_1325 : decode code 1325 = .ok (.iconst 0, 1) := by decide +kernel
theorem d_Law_law_1326 : decode code 1326 = .ok (.ireturn, 1) := by decide +kernel
theorem d_Law_law_1308 : decode code 1308 = .ok (.iconst 0, 1) := by decide +kernel
theorem d_Law_law_1309 : decode code 1309 = .ok (.ireturn, 1) := by decide +kernel
theorem d_Law_law_1330 : decode code 1330 = .ok (.aload_n 1, 1) := by decide +kernel
theorem d_Law_law_1331 : decode code 1331 = .ok (.aload_n 0, 1) := by decide +kernel
theorem d_Law_law_1332 : decode code 1332 = .ok (.iload 4, 2) := by decide +kernel
theorem d_Law_law_1334 : decode code 1334 = .ok (.iconst 1, 1) := by decide +kernel
theorem d_Law_law_1335 : decode code 1335 = .ok (.iadd, 1) := by decide +kernel
theorem d_Law_law_1336 : decode code 1336 = .ok (.iaload, 1) := by decide +kernel
theorem d_Law_law_1337 : decode code 1337 = .ok (.aload_n 3, 1) := by decide +kernel
theorem d_Law_law_1338 : decode code 1338 = .ok (.invokestatic 218, 3) := by decide +kernel
theorem tb_ml_Law_218 : mTB (Cond.methodLink "NineBarsLaw" 218 ⟨"NineBarsLaw", "fromStart", "(LNineBars;I[J)I"⟩) := tbq5 86 (by decide +kernel) rfl
theorem tb_sm_Law_fromStart : mTB (Cond.static ⟨"NineBarsLaw", "fromStart", "(LNineBars;I[J)I"⟩) := tbq5 87 (by decide +kernel) rfl
theorem d_Law_law_1341 : decode code 1341 = .ok (.istore 5, 2) := by decide +kernel
theorem d_Law_law_1343 : decode code 1343 = .ok (.aload_n 2, 1) := by decide +kernel
theorem d_Law_law_1344 : decode code 1344 = .ok (.aload_n 0, 1) := by decide +kernel
theorem d_Law_law_1345 : decode code 1345 = .ok (.iload 4, 2) := by decide +kernel
theorem d_Law_law_1347 : decode code 1347 = .ok (.iconst 1, 1) := by decide +kernel
theorem d_Law_law_1348 : decode code 1348 = .ok (.iadd, 1) := by decide +kernel
theorem d_Law_law_1349 : decode code 1349 = .ok (.iaload, 1) := by decide +kernel
theorem d_Law_law_1350 : decode code 1350 = .ok (.invokevirtual 220, 3) := by decide +kernel
theorem tb_ml_Law_220 : mTB (Cond.methodLink "NineBarsLaw" 220 ⟨"NineBarsModel", "fromStart", "(I)Z"⟩) := tbq8 162 (by decide +kernel) rfl
theorem tb_im_Md_fromStart : mTB (Cond.instanceMethod ⟨"NineBarsModel", "fromStart", "(I)Z"⟩) := tbq8 163 (by decide +kernel) rfl
theorem tb_se_Md_fromStart : mTB (Cond.selects "NineBarsModel" ⟨"NineBarsModel", "fromStart", "(I)Z"⟩ ⟨"NineBarsModel", "fromStart", "(I)Z"⟩) := tbq8 164 (by decide +kernel) rfl
theorem mv_Md_fromStart {M : mM} {idx : Nat} (h : mTB (Cond.methodLink (mO M) idx ⟨"NineBarsModel", "fromStart", "(I)Z"⟩)) : mCaV M M_Md_fromStart idx 11 := ⟨h, tb_im_Md_fromStart, tb_se_Md_fromStart, by decide, TX11, 40, rfl⟩
theorem d_Law_law_1353 : decode code 1353 = .ok (.istore 6, 2) := by decide +kernel
theorem d_Law_law_1355 : decode code 1355 = .ok (.aload_n 2, 1) := by decide +kernel
theorem d_Law_law_1356 : decode code 1356 = .ok (.invokevirtual 146, 3) := by decide +kernel
theorem d_Law_law_1359 : decode code 1359 = .ok (.iload 5, 2) := by decide +kernel
theorem d_Law_law_1361 : decode code 1361 = .ok (.if_icmp .eq 5, 3) := by decide +kernel
theorem d_Law_law_1366 : decode code 1366 = .ok (.iload 5, 2) := by decide +kernel
theorem d_Law_law_1368 : decode code 1368 = .ok (.ifCond .ne 22, 3) := by decide +kernel
theorem d_Law_law_1390 : decode code 1390 = .ok (.goto 1252, 3) := by decide +kernel
theorem d_Law_law_1371 : decode code 1371 = .ok (.aload_n 3, 1) := by decide +kernel
theorem d_Law_law_1372 : decode code 1372 = .ok (.iconst 0, 1) := by decide +kernel
theorem d_Law_law_1373 : decode code 1373 = .ok (.laload, 1) := by decide +kernel
theorem d_Law_law_1374 : decode code 1374 = .ok (.iload 6, 2) := by decide +kernel
theorem d_Law_law_1376 : decode code 1376 = .ok (.ifCond .eq 7, 3) := by decide +kernel
theorem d_Law_law_1383 : decode code 1383 = .ok (.lconst 0, 1) := by decide +kernel
theorem d_Law_law_1384 : decode code 1384 = .ok (.lcmp, 1) := by decide +kernel
theorem d_Law_law_1385 : decode code 1385 = .ok (.ifCond .eq 5, 3) := by decide +kernel
theorem d_Law_law_1388 : decode code 1388 = .ok (.iconst 0, 1) := by decide +kernel
theorem d_Law_law_1389 : decode code 1389 = .ok (.ireturn, 1) := by decide +kernel
theorem d_Law_law_1379 : decode code 1379 = .ok (.lconst 1, 1) := by decide +kernel
theorem d_Law_law_1380 : decode code 1380 = .ok (.goto 4, 3) := by decide +kernel
theorem d_Law_law_1364 : decode code 1364 = .ok (.iconst 0, 1) := by decide +kernel
theorem d_Law_law_1365 : decode code 1365 = .ok (.ireturn, 1) := by decide +kernel
theorem d_Law_law_1393 : decode code 1393 = .ok (.aload_n 1, 1) := by decide +kernel
theorem d_Law_law_1394 : decode code 1394 = .ok (.aload_n 0, 1) := by decide +kernel
theorem d_Law_law_1395 : decode code 1395 = .ok (.iload 4, 2) := by decide +kernel
theorem d_Law_law_1397 : decode code 1397 = .ok (.iconst 1, 1) := by decide +kernel
theorem d_Law_law_1398 : decode code 1398 = .ok (.iadd, 1) := by decide +kernel
theorem d_Law_law_1399 : decode code 1399 = .ok (.iaload, 1) := by decide +kernel
theorem d_Law_law_1400 : decode code 1400 = .ok (.aload_n 3, 1) := by decide +kernel
theorem d_Law_law_1401 : decode code 1401 = .ok (.invokestatic 221, 3) := by decide +kernel
theorem tb_ml_Law_221 : mTB (Cond.methodLink "NineBarsLaw" 221 ⟨"NineBarsLaw", "dead", "(LNineBars;I[J)I"⟩) := tbq5 93 (by decide +kernel) rfl
theorem tb_sm_Law_dead : mTB (Cond.static ⟨"NineBarsLaw", "dead", "(LNineBars;I[J)I"⟩) := tbq5 94 (by decide +kernel) rfl
theorem d_Law_law_1404 : decode code 1404 = .ok (.istore 5, 2) := by decide +kernel
theorem d_Law_law_1406 : decode code 1406 = .ok (.aload_n 2, 1) := by decide +kernel
theorem d_Law_law_1407 : decode code 1407 = .ok (.aload_n 0, 1) := by decide +kernel
theorem d_Law_law_1408 : decode code 1408 = .ok (.iload 4, 2) := by decide +kernel
theorem d_Law_law_1410 : decode code 1410 = .ok (.iconst 1, 1) := by decide +kernel
theorem d_Law_law_1411 : decode code 1411 = .ok (.iadd, 1) := by decide +kernel
theorem d_Law_law_1412 : decode code 1412 = .ok (.iaload, 1) := by decide +kernel
theorem d_Law_law_1413 : decode code 1413 = .ok (.invokevirtual 223, 3) := by decide +kernel
theorem tb_ml_Law_223 : mTB (Cond.methodLink "NineBarsLaw" 223 ⟨"NineBarsModel", "dead", "(I)I"⟩) := tbq8 166 (by decide +kernel) rfl
theorem tb_im_Md_dead : mTB (Cond.instanceMethod ⟨"NineBarsModel", "dead", "(I)I"⟩) := tbq8 167 (by decide +kernel) rfl
theorem tb_se_Md_dead : mTB (Cond.selects "NineBarsModel" ⟨"NineBarsModel", "dead", "(I)I"⟩ ⟨"NineBarsModel", "dead", "(I)I"⟩) := tbq8 168 (by decide +kernel) rfl
theorem mv_Md_dead {M : mM} {idx : Nat} (h : mTB (Cond.methodLink (mO M) idx ⟨"NineBarsModel", "dead", "(I)I"⟩)) : mCaV M M_Md_dead idx 11 := ⟨h, tb_im_Md_dead, tb_se_Md_dead, by decide, TX11, 40, rfl⟩
theorem d_Law_law_1416 : decode code 1416 = .ok (.istore 6, 2) := by decide +kernel
theorem d_Law_law_1418 : decode code 1418 = .ok (.aload_n 2, 1) := by decide +kernel
theorem d_Law_law_1419 : decode code 1419 = .ok (.invokevirtual 146, 3) := by decide +kernel
theorem d_Law_law_1422 : decode code 1422 = .ok (.iload 5, 2) := by decide +kernel
theorem d_Law_law_1424 : decode code 1424 = .ok (.if_icmp .eq 5, 3) := by decide +kernel
theorem d_Law_law_1429 : decode code 1429 = .ok (.iload 5, 2) := by decide +kernel
theorem d_Law_law_1431 : decode code 1431 = .ok (.ifCond .ne 15, 3) := by decide +kernel
theorem d_Law_law_1446 : decode code 1446 = .ok (.goto 1196, 3) := by decide +kernel
theorem d_Law_law_1434 : decode code 1434 = .ok (.aload_n 3, 1) := by decide +kernel
theorem d_Law_law_1435 : decode code 1435 = .ok (.iconst 0, 1) := by decide +kernel
theorem d_Law_law_1436 : decode code 1436 = .ok (.laload, 1) := by decide +kernel
theorem d_Law_law_1437 : decode code 1437 = .ok (.iload 6, 2) := by decide +kernel
theorem d_Law_law_1439 : decode code 1439 = .ok (.i2l, 1) := by decide +kernel
theorem d_Law_law_1440 : decode code 1440 = .ok (.lcmp, 1) := by decide +kernel
theorem d_Law_law_1441 : decode code 1441 = .ok (.ifCond .eq 5, 3) := by decide +kernel
theorem d_Law_law_1444 : decode code 1444 = .ok (.iconst 0, 1) := by decide +kernel
theorem d_Law_law_1445 : decode code 1445 = .ok (.ireturn, 1) := by decide +kernel
theorem d_Law_law_1427 : decode code 1427 = .ok (.iconst 0, 1) := by decide +kernel
theorem d_Law_law_1428 : decode code 1428 = .ok (.ireturn, 1) := by decide +kernel
theorem d_Law_law_1449 : decode code 1449 = .ok (.aload_n 1, 1) := by decide +kernel
theorem d_Law_law_1450 : decode code 1450 = .ok (.aload_n 3, 1) := by decide +kernel
theorem d_Law_law_1451 : decode code 1451 = .ok (.invokestatic 224, 3) := by decide +kernel
theorem tb_ml_Law_224 : mTB (Cond.methodLink "NineBarsLaw" 224 ⟨"NineBarsLaw", "oneWays", "(LNineBars;[J)I"⟩) := tbq5 100 (by decide +kernel) rfl
theorem tb_sm_Law_oneWays : mTB (Cond.static ⟨"NineBarsLaw", "oneWays", "(LNineBars;[J)I"⟩) := tbq5 101 (by decide +kernel) rfl
theorem d_Law_law_1454 : decode code 1454 = .ok (.istore 5, 2) := by decide +kernel
theorem d_Law_law_1456 : decode code 1456 = .ok (.aload_n 2, 1) := by decide +kernel
theorem d_Law_law_1457 : decode code 1457 = .ok (.invokevirtual 226, 3) := by decide +kernel
theorem tb_ml_Law_226 : mTB (Cond.methodLink "NineBarsLaw" 226 ⟨"NineBarsModel", "oneWays", "()I"⟩) := tbq8 174 (by decide +kernel) rfl
theorem tb_im_Md_oneWays : mTB (Cond.instanceMethod ⟨"NineBarsModel", "oneWays", "()I"⟩) := tbq8 175 (by decide +kernel) rfl
theorem tb_se_Md_oneWays : mTB (Cond.selects "NineBarsModel" ⟨"NineBarsModel", "oneWays", "()I"⟩ ⟨"NineBarsModel", "oneWays", "()I"⟩) := tbq8 176 (by decide +kernel) rfl
theorem mv_Md_oneWays {M : mM} {idx : Nat} (h : mTB (Cond.methodLink (mO M) idx ⟨"NineBarsModel", "oneWays", "()I"⟩)) : mCaV M M_Md_oneWays idx 11 := ⟨h, tb_im_Md_oneWays, tb_se_Md_oneWays, by decide, TX11, 40, rfl⟩
theorem d_Law_law_1460 : decode code 1460 = .ok (.istore 6, 2) := by decide +kernel
theorem d_Law_law_1462 : decode code 1462 = .ok (.aload_n 2, 1) := by decide +kernel
theorem d_Law_law_1463 : decode code 1463 = .ok (.invokevirtual 146, 3) := by decide +kernel
theorem d_Law_law_1466 : decode code 1466 = .ok (.iload 5, 2) := by decide +kernel
theorem d_Law_law_1468 : decode code 1468 = .ok (.if_icmp .eq 5, 3) := by decide +kernel
theorem d_Law_law_1473 : decode code 1473 = .ok (.iload 5, 2) := by decide +kernel
theorem d_Law_law_1475 : decode code 1475 = .ok (.ifCond .ne 15, 3) := by decide +kernel
theorem d_Law_law_1490 : decode code 1490 = .ok (.goto 1152, 3) := by decide +kernel
theorem d_Law_law_1478 : decode code 1478 = .ok (.aload_n 3, 1) := by decide +kernel
theorem d_Law_law_1479 : decode code 1479 = .ok (.iconst 0, 1) := by decide +kernel
theorem d_Law_law_1480 : decode code 1480 = .ok (.laload, 1) := by decide +kernel
theorem d_Law_law_1481 : decode code 1481 = .ok (.iload 6, 2) := by decide +kernel
theorem d_Law_law_1483 : decode code 1483 = .ok (.i2l, 1) := by decide +kernel
theorem d_Law_law_1484 : decode code 1484 = .ok (.lcmp, 1) := by decide +kernel
theorem d_Law_law_1485 : decode code 1485 = .ok (.ifCond .eq 5, 3) := by decide +kernel
theorem d_Law_law_1488 : decode code 1488 = .ok (.iconst 0, 1) := by decide +kernel
theorem d_Law_law_1489 : decode code 1489 = .ok (.ireturn, 1) := by decide +kernel
theorem d_Law_law_1471 : decode code 1471 = .ok (.iconst 0, 1) := by decide +kernel
theorem d_Law_law_1472 : decode code 1472 = .ok (.ireturn, 1) := by decide +kernel
theorem d_Law_law_1493 : decode code 1493 = .ok (.aload_n 1, 1) := by decide +kernel
theorem d_Law_law_1494 : decode code 1494 = .ok (.aload_n 0, 1) := by decide +kernel
theorem d_Law_law_1495 : decode code 1495 = .ok (.iload 4, 2) := by decide +kernel
theorem d_Law_law_1497 : decode code 1497 = .ok (.iconst 1, 1) := by decide +kernel
theorem d_Law_law_1498 : decode code 1498 = .ok (.iadd, 1) := by decide +kernel
theorem d_Law_law_1499 : decode code 1499 = .ok (.iaload, 1) := by decide +kernel
theorem d_Law_law_1500 : decode code 1500 = .ok (.aload_n 3, 1) := by decide +kernel
theorem d_Law_law_1501 : decode code 1501 = .ok (.invokestatic 227, 3) := by decide +kernel
theorem tb_ml_Law_227 : mTB (Cond.methodLink "NineBarsLaw" 227 ⟨"NineBarsLaw", "fewestOf", "(LNineBars;I[J)I"⟩) := tbq5 112 (by decide +kernel) rfl
theorem tb_sm_Law_fewestOf : mTB (Cond.static ⟨"NineBarsLaw", "fewestOf", "(LNineBars;I[J)I"⟩) := tbq5 113 (by decide +kernel) rfl
theorem d_Law_law_1504 : decode code 1504 = .ok (.istore 5, 2) := by decide +kernel
theorem d_Law_law_1506 : decode code 1506 = .ok (.aload_n 2, 1) := by decide +kernel
theorem d_Law_law_1507 : decode code 1507 = .ok (.aload_n 0, 1) := by decide +kernel
theorem d_Law_law_1508 : decode code 1508 = .ok (.iload 4, 2) := by decide +kernel
theorem d_Law_law_1510 : decode code 1510 = .ok (.iconst 1, 1) := by decide +kernel
theorem d_Law_law_1511 : decode code 1511 = .ok (.iadd, 1) := by decide +kernel
theorem d_Law_law_1512 : decode code 1512 = .ok (.iaload, 1) := by decide +kernel
theorem d_Law_law_1513 : decode code 1513 = .ok (.invokevirtual 229, 3) := by decide +kernel
theorem tb_ml_Law_229 : mTB (Cond.methodLink "NineBarsLaw" 229 ⟨"NineBarsModel", "fewestOf", "(I)I"⟩) := tbq8 178 (by decide +kernel) rfl
theorem tb_im_Md_fewestOf : mTB (Cond.instanceMethod ⟨"NineBarsModel", "fewestOf", "(I)I"⟩) := tbq8 179 (by decide +kernel) rfl
theorem tb_se_Md_fewestOf : mTB (Cond.selects "NineBarsModel" ⟨"NineBarsModel", "fewestOf", "(I)I"⟩ ⟨"NineBarsModel", "fewestOf", "(I)I"⟩) := tbq8 180 (by decide +kernel) rfl
theorem mv_Md_fewestOf {M : mM} {idx : Nat} (h : mTB (Cond.methodLink (mO M) idx ⟨"NineBarsModel", "fewestOf", "(I)I"⟩)) : mCaV M M_Md_fewestOf idx 11 := ⟨h, tb_im_Md_fewestOf, tb_se_Md_fewestOf, by decide, TX11, 40, rfl⟩
theorem d_Law_law_1516 : decode code 1516 = .ok (.istore 6, 2) := by decide +kernel
theorem d_Law_law_1518 : decode code 1518 = .ok (.aload_n 2, 1) := by decide +kernel
theorem d_Law_law_1519 : decode code 1519 = .ok (.invokevirtual 146, 3) := by decide +kernel
theorem d_Law_law_1522 : decode code 1522 = .ok (.iload 5, 2) := by decide +kernel
theorem d_Law_law_1524 : decode code 1524 = .ok (.if_icmp .eq 5, 3) := by decide +kernel
theorem d_Law_law_1529 : decode code 1529 = .ok (.iload 5, 2) := by decide +kernel
theorem d_Law_law_1531 : decode code 1531 = .ok (.ifCond .ne 15, 3) := by decide +kernel
theorem d_Law_law_1546 : decode code 1546 = .ok (.goto 1096, 3) := by decide +kernel
theorem d_Law_law_1534 : decode code 1534 = .ok (.aload_n 3, 1) := by decide +kernel
theorem d_Law_law_1535 : decode code 1535 = .ok (.iconst 0, 1) := by decide +kernel
theorem d_Law_law_1536 : decode code 1536 = .ok (.laload, 1) := by decide +kernel
theorem d_Law_law_1537 : decode code 1537 = .ok (.iload 6, 2) := by decide +kernel
theorem d_Law_law_1539 : decode code 1539 = .ok (.i2l, 1) := by decide +kernel
theorem d_Law_law_1540 : decode code 1540 = .ok (.lcmp, 1) := by decide +kernel
theorem d_Law_law_1541 : decode code 1541 = .ok (.ifCond .eq 5, 3) := by decide +kernel
theorem d_Law_law_1544 : decode code 1544 = .ok (.iconst 0, 1) := by decide +kernel
theorem d_Law_law_1545 : decode code 1545 = .ok (.ireturn, 1) := by decide +kernel
theorem d_Law_law_1527 : decode code 1527 = .ok (.iconst 0, 1) := by decide +kernel
theorem d_Law_law_1528 : decode code 1528 = .ok (.ireturn, 1) := by decide +kernel
theorem d_Law_law_1549 : decode code 1549 = .ok (.aload_n 1, 1) := by decide +kernel
theorem d_Law_law_1550 : decode code 1550 = .ok (.aload_n 0, 1) := by decide +kernel
theorem d_Law_law_1551 : decode code 1551 = .ok (.iload 4, 2) := by decide +kernel
theorem d_Law_law_1553 : decode code 1553 = .ok (.iconst 1, 1) := by decide +kernel
theorem d_Law_law_1554 : decode code 1554 = .ok (.iadd, 1) := by decide +kernel
theorem d_Law_law_1555 : decode code 1555 = .ok (.iaload, 1) := by decide +kernel
theorem d_Law_law_1556 : decode code 1556 = .ok (.aload_n 3, 1) := by decide +kernel
theorem d_Law_law_1557 : decode code 1557 = .ok (.invokestatic 230, 3) := by decide +kernel
theorem tb_ml_Law_230 : mTB (Cond.methodLink "NineBarsLaw" 230 ⟨"NineBarsLaw", "musts", "(LNineBars;I[J)I"⟩) := tbq5 124 (by decide +kernel) rfl
theorem tb_sm_Law_musts : mTB (Cond.static ⟨"NineBarsLaw", "musts", "(LNineBars;I[J)I"⟩) := tbq5 125 (by decide +kernel) rfl
theorem d_Law_law_1560 : decode code 1560 = .ok (.istore 5, 2) := by decide +kernel
theorem d_Law_law_1562 : decode code 1562 = .ok (.aload_n 2, 1) := by decide +kernel
theorem d_Law_law_1563 : decode code 1563 = .ok (.aload_n 0, 1) := by decide +kernel
theorem d_Law_law_1564 : decode code 1564 = .ok (.iload 4, 2) := by decide +kernel
theorem d_Law_law_1566 : decode code 1566 = .ok (.iconst 1, 1) := by decide +kernel
theorem d_Law_law_1567 : decode code 1567 = .ok (.iadd, 1) := by decide +kernel
theorem d_Law_law_1568 : decode code 1568 = .ok (.iaload, 1) := by decide +kernel
theorem d_Law_law_1569 : decode code 1569 = .ok (.invokevirtual 232, 3) := by decide +kernel
theorem tb_ml_Law_232 : mTB (Cond.methodLink "NineBarsLaw" 232 ⟨"NineBarsModel", "musts", "(I)I"⟩) := tbq8 186 (by decide +kernel) rfl
theorem tb_im_Md_musts : mTB (Cond.instanceMethod ⟨"NineBarsModel", "musts", "(I)I"⟩) := tbq8 187 (by decide +kernel) rfl
theorem tb_se_Md_musts : mTB (Cond.selects "NineBarsModel" ⟨"NineBarsModel", "musts", "(I)I"⟩ ⟨"NineBarsModel", "musts", "(I)I"⟩) := tbq8 188 (by decide +kernel) rfl
theorem mv_Md_musts {M : mM} {idx : Nat} (h : mTB (Cond.methodLink (mO M) idx ⟨"NineBarsModel", "musts", "(I)I"⟩)) : mCaV M M_Md_musts idx 11 := ⟨h, tb_im_Md_musts, tb_se_Md_musts, by decide, TX11, 40, rfl⟩
theorem d_Law_law_1572 : decode code 1572 = .ok (.istore 6, 2) := by decide +kernel
theorem d_Law_law_1574 : decode code 1574 = .ok (.aload_n 2, 1) := by decide +kernel
theorem d_Law_law_1575 : decode code 1575 = .ok (.invokevirtual 146, 3) := by decide +kernel
theorem d_Law_law_1578 : decode code 1578 = .ok (.iload 5, 2) := by decide +kernel
theorem d_Law_law_1580 : decode code 1580 = .ok (.if_icmp .eq 5, 3) := by decide +kernel
theorem d_Law_law_1585 : decode code 1585 = .ok (.iload 5, 2) := by decide +kernel
theorem d_Law_law_1587 : decode code 1587 = .ok (.ifCond .ne 15, 3) := by decide +kernel
theorem d_Law_law_1602 : decode code 1602 = .ok (.goto 1040, 3) := by decide +kernel
theorem d_Law_law_1590 : decode code 1590 = .ok (.aload_n 3, 1) := by decide +kernel
theorem d_Law_law_1591 : decode code 1591 = .ok (.iconst 0, 1) := by decide +kernel
theorem d_Law_law_1592 : decode code 1592 = .ok (.laload, 1) := by decide +kernel
theorem d_Law_law_1593 : decode code 1593 = .ok (.iload 6, 2) := by decide +kernel
theorem d_Law_law_1595 : decode code 1595 = .ok (.i2l, 1) := by decide +kernel
theorem d_Law_law_1596 : decode code 1596 = .ok (.lcmp, 1) := by decide +kernel
theorem d_Law_law_1597 : decode code 1597 = .ok (.ifCond .eq 5, 3) := by decide +kernel
theorem d_Law_law_1600 : decode code 1600 = .ok (.iconst 0, 1) := by decide +kernel
theorem d_Law_law_1601 : decode code 1601 = .ok (.ireturn, 1) := by decide +kernel
theorem d_Law_law_1583 : decode code 1583 = .ok (.iconst 0, 1) := by decide +kernel
theorem d_Law_law_1584 : decode code 1584 = .ok (.ireturn, 1) := by decide +kernel
theorem d_Law_law_1605 : decode code 1605 = .ok (.aload_n 1, 1) := by decide +kernel
theorem d_Law_law_1606 : decode code 1606 = .ok (.aload_n 0, 1) := by decide +kernel
theorem d_Law_law_1607 : decode code 1607 = .ok (.iload 4, 2) := by decide +kernel
theorem d_Law_law_1609 : decode code 1609 = .ok (.iconst 1, 1) := by decide +kernel
theorem d_Law_law_1610 : decode code 1610 = .ok (.iadd, 1) := by decide +kernel
theorem d_Law_law_1611 : decode code 1611 = .ok (.iaload, 1) := by decide +kernel
theorem d_Law_law_1612 : decode code 1612 = .ok (.aload_n 0, 1) := by decide +kernel
theorem d_Law_law_1613 : decode code 1613 = .ok (.iload 4, 2) := by decide +kernel
theorem d_Law_law_1615 : decode code 1615 = .ok (.iconst 2, 1) := by decide +kernel
theorem d_Law_law_1616 : decode code 1616 = .ok (.iadd, 1) := by decide +kernel
theorem d_Law_law_1617 : decode code 1617 = .ok (.iaload, 1) := by decide +kernel
theorem d_Law_law_1618 : decode code 1618 = .ok (.aload_n 3, 1) := by decide +kernel
theorem d_Law_law_1619 : decode code 1619 = .ok (.invokestatic 233, 3) := by decide +kernel
theorem tb_ml_Law_233 : mTB (Cond.methodLink "NineBarsLaw" 233 ⟨"NineBarsLaw", "halves", "(LNineBars;II[J)I"⟩) := tbq5 136 (by decide +kernel) rfl
theorem tb_sm_Law_halves : mTB (Cond.static ⟨"NineBarsLaw", "halves", "(LNineBars;II[J)I"⟩) := tbq5 137 (by decide +kernel) rfl
theorem d_Law_law_1622 : decode code 1622 = .ok (.istore 5, 2) := by decide +kernel
theorem d_Law_law_1624 : decode code 1624 = .ok (.aload_n 2, 1) := by decide +kernel
theorem d_Law_law_1625 : decode code 1625 = .ok (.aload_n 0, 1) := by decide +kernel
theorem d_Law_law_1626 : decode code 1626 = .ok (.iload 4, 2) := by decide +kernel
theorem d_Law_law_1628 : decode code 1628 = .ok (.iconst 1, 1) := by decide +kernel
theorem d_Law_law_1629 : decode code 1629 = .ok (.iadd, 1) := by decide +kernel
theorem d_Law_law_1630 : decode code 1630 = .ok (.iaload, 1) := by decide +kernel
theorem d_Law_law_1631 : decode code 1631 = .ok (.aload_n 0, 1) := by decide +kernel
theorem d_Law_law_1632 : decode code 1632 = .ok (.iload 4, 2) := by decide +kernel
theorem d_Law_law_1634 : decode code 1634 = .ok (.iconst 2, 1) := by decide +kernel
theorem d_Law_law_1635 : decode code 1635 = .ok (.iadd, 1) := by decide +kernel
theorem d_Law_law_1636 : decode code 1636 = .ok (.iaload, 1) := by decide +kernel
theorem d_Law_law_1637 : decode code 1637 = .ok (.invokevirtual 235, 3) := by decide +kernel
theorem tb_ml_Law_235 : mTB (Cond.methodLink "NineBarsLaw" 235 ⟨"NineBarsModel", "halves", "(II)I"⟩) := tbq8 190 (by decide +kernel) rfl
theorem tb_im_Md_halves : mTB (Cond.instanceMethod ⟨"NineBarsModel", "halves", "(II)I"⟩) := tbq8 191 (by decide +kernel) rfl
theorem tb_se_Md_halves : mTB (Cond.selects "NineBarsModel" ⟨"NineBarsModel", "halves", "(II)I"⟩ ⟨"NineBarsModel", "halves", "(II)I"⟩) := tbq8 192 (by decide +kernel) rfl
theorem mv_Md_halves {M : mM} {idx : Nat} (h : mTB (Cond.methodLink (mO M) idx ⟨"NineBarsModel", "halves", "(II)I"⟩)) : mCaV M M_Md_halves idx 11 := ⟨h, tb_im_Md_halves, tb_se_Md_halves, by decide, TX11, 40, rfl⟩
theorem d_Law_law_1640 : decode code 1640 = .ok (.istore 6, 2) := by decide +kernel
theorem d_Law_law_1642 : decode code 1642 = .ok (.aload_n 2, 1) := by decide +kernel
theorem d_Law_law_1643 : decode code 1643 = .ok (.invokevirtual 146, 3) := by decide +kernel
theorem d_Law_law_1646 : decode code 1646 = .ok (.iload 5, 2) := by decide +kernel
theorem d_Law_law_1648 : decode code 1648 = .ok (.if_icmp .eq 5, 3) := by decide +kernel
theorem d_Law_law_1653 : decode code 1653 = .ok (.iload 5, 2) := by decide +kernel
theorem d_Law_law_1655 : decode code 1655 = .ok (.ifCond .ne 15, 3) := by decide +kernel
theorem d_Law_law_1670 : decode code 1670 = .ok (.goto 972, 3) := by decide +kernel
theorem d_Law_law_1658 : decode code 1658 = .ok (.aload_n 3, 1) := by decide +kernel
theorem d_Law_law_1659 : decode code 1659 = .ok (.iconst 0, 1) := by decide +kernel
theorem d_Law_law_1660 : decode code 1660 = .ok (.laload, 1) := by decide +kernel
theorem d_Law_law_1661 : decode code 1661 = .ok (.iload 6, 2) := by decide +kernel
theorem d_Law_law_1663 : decode code 1663 = .ok (.i2l, 1) := by decide +kernel
theorem d_Law_law_1664 : decode code 1664 = .ok (.lcmp, 1) := by decide +kernel
theorem d_Law_law_1665 : decode code 1665 = .ok (.ifCond .eq 5, 3) := by decide +kernel
theorem d_Law_law_1668 : decode code 1668 = .ok (.iconst 0, 1) := by decide +kernel
theorem d_Law_law_1669 : decode code 1669 = .ok (.ireturn, 1) := by decide +kernel
theorem d_Law_law_1651 : decode code 1651 = .ok (.iconst 0, 1) := by decide +kernel
theorem d_Law_law_1652 : decode code 1652 = .ok (.ireturn, 1) := by decide +kernel
theorem d_Law_law_1673 : decode code 1673 = .ok (.aload_n 1, 1) := by decide +kernel
theorem d_Law_law_1674 : decode code 1674 = .ok (.aload_n 0, 1) := by decide +kernel
theorem d_Law_law_1675 : decode code 1675 = .ok (.iload 4, 2) := by decide +kernel
theorem d_Law_law_1677 : decode code 1677 = .ok (.iconst 1, 1) := by decide +kernel
theorem d_Law_law_1678 : decode code 1678 = .ok (.iadd, 1) := by decide +kernel
theorem d_Law_law_1679 : decode code 1679 = .ok (.iaload, 1) := by decide +kernel
theorem d_Law_law_1680 : decode code 1680 = .ok (.aload_n 0, 1) := by decide +kernel
theorem d_Law_law_1681 : decode code 1681 = .ok (.iload 4, 2) := by decide +kernel
theorem d_Law_law_1683 : decode code 1683 = .ok (.iconst 2, 1) := by decide +kernel
theorem d_Law_law_1684 : decode code 1684 = .ok (.iadd, 1) := by decide +kernel
theorem d_Law_law_1685 : decode code 1685 = .ok (.iaload, 1) := by decide +kernel
theorem d_Law_law_1686 : decode code 1686 = .ok (.aload_n 3, 1) := by decide +kernel
theorem d_Law_law_1687 : decode code 1687 = .ok (.invokestatic 236, 3) := by decide +kernel
theorem tb_ml_Law_236 : mTB (Cond.methodLink "NineBarsLaw" 236 ⟨"NineBarsLaw", "halvesFirst", "(LNineBars;II[J)I"⟩) := tbq5 150 (by decide +kernel) rfl
theorem tb_sm_Law_halvesFirst : mTB (Cond.static ⟨"NineBarsLaw", "halvesFirst", "(LNineBars;II[J)I"⟩) := tbq5 151 (by decide +kernel) rfl
theorem d_Law_law_1690 : decode code 1690 = .ok (.istore 5, 2) := by decide +kernel
theorem d_Law_law_1692 : decode code 1692 = .ok (.aload_n 2, 1) := by decide +kernel
theorem d_Law_law_1693 : decode code 1693 = .ok (.aload_n 0, 1) := by decide +kernel
theorem d_Law_law_1694 : decode code 1694 = .ok (.iload 4, 2) := by decide +kernel
theorem d_Law_law_1696 : decode code 1696 = .ok (.iconst 1, 1) := by decide +kernel
theorem d_Law_law_1697 : decode code 1697 = .ok (.iadd, 1) := by decide +kernel
theorem d_Law_law_1698 : decode code 1698 = .ok (.iaload, 1) := by decide +kernel
theorem d_Law_law_1699 : decode code 1699 = .ok (.aload_n 0, 1) := by decide +kernel
theorem d_Law_law_1700 : decode code 1700 = .ok (.iload 4, 2) := by decide +kernel
theorem d_Law_law_1702 : decode code 1702 = .ok (.iconst 2, 1) := by decide +kernel
theorem d_Law_law_1703 : decode code 1703 = .ok (.iadd, 1) := by decide +kernel
theorem d_Law_law_1704 : decode code 1704 = .ok (.iaload, 1) := by decide +kernel
theorem d_Law_law_1705 : decode code 1705 = .ok (.invokevirtual 238, 3) := by decide +kernel
theorem tb_ml_Law_238 : mTB (Cond.methodLink "NineBarsLaw" 238 ⟨"NineBarsModel", "halvesFirst", "(II)I"⟩) := tbq8 201 (by decide +kernel) rfl
theorem tb_im_Md_halvesFirst : mTB (Cond.instanceMethod ⟨"NineBarsModel", "halvesFirst", "(II)I"⟩) := tbq8 202 (by decide +kernel) rfl
theorem tb_se_Md_halvesFirst : mTB (Cond.selects "NineBarsModel" ⟨"NineBarsModel", "halvesFirst", "(II)I"⟩ ⟨"NineBarsModel", "halvesFirst", "(II)I"⟩) := tbq8 203 (by decide +kernel) rfl
theorem mv_Md_halvesFirst {M : mM} {idx : Nat} (h : mTB (Cond.methodLink (mO M) idx ⟨"NineBarsModel", "halvesFirst", "(II)I"⟩)) : mCaV M M_Md_halvesFirst idx 11 := ⟨h, tb_im_Md_halvesFirst, tb_se_Md_halvesFirst, by decide, TX11, 40, rfl⟩
theorem d_Law_law_1708 : decode code 1708 = .ok (.istore 6, 2) := by decide +kernel
theorem d_Law_law_1710 : decode code 1710 = .ok (.aload_n 2, 1) := by decide +kernel
theorem d_Law_law_1711 : decode code 1711 = .ok (.invokevirtual 146, 3) := by decide +kernel
theorem d_Law_law_1714 : decode code 1714 = .ok (.iload 5, 2) := by decide +kernel
theorem d_Law_law_1716 : decode code 1716 = .ok (.if_icmp .eq 5, 3) := by decide +kernel
theorem d_Law_law_1721 : decode code 1721 = .ok (.iload 5, 2) := by decide +kernel
theorem d_Law_law_1723 : decode code 1723 = .ok (.ifCond .ne 15, 3) := by decide +kernel
theorem d_Law_law_1738 : decode code 1738 = .ok (.goto 904, 3) := by decide +kernel
theorem d_Law_law_1726 : decode code 1726 = .ok (.aload_n 3, 1) := by decide +kernel
theorem d_Law_law_1727 : decode code 1727 = .ok (.iconst 0, 1) := by decide +kernel
theorem d_Law_law_1728 : decode code 1728 = .ok (.laload, 1) := by decide +kernel
theorem d_Law_law_1729 : decode code 1729 = .ok (.iload 6, 2) := by decide +kernel
theorem d_Law_law_1731 : decode code 1731 = .ok (.i2l, 1) := by decide +kernel
theorem d_Law_law_1732 : decode code 1732 = .ok (.lcmp, 1) := by decide +kernel
theorem d_Law_law_1733 : decode code 1733 = .ok (.ifCond .eq 5, 3) := by decide +kernel
theorem d_Law_law_1736 : decode code 1736 = .ok (.iconst 0, 1) := by decide +kernel
theorem d_Law_law_1737 : decode code 1737 = .ok (.ireturn, 1) := by decide +kernel
theorem d_Law_law_1719 : decode code 1719 = .ok (.iconst 0, 1) := by decide +kernel
theorem d_Law_law_1720 : decode code 1720 = .ok (.ireturn, 1) := by decide +kernel
theorem d_Law_law_1741 : decode code 1741 = .ok (.aload_n 1, 1) := by decide +kernel
theorem d_Law_law_1742 : decode code 1742 = .ok (.aload_n 0, 1) := by decide +kernel
theorem d_Law_law_1743 : decode code 1743 = .ok (.iload 4, 2) := by decide +kernel
theorem d_Law_law_1745 : decode code 1745 = .ok (.iconst 1, 1) := by decide +kernel
theorem d_Law_law_1746 : decode code 1746 = .ok (.iadd, 1) := by decide +kernel
theorem d_Law_law_1747 : decode code 1747 = .ok (.iaload, 1) := by decide +kernel
theorem d_Law_law_1748 : decode code 1748 = .ok (.aload_n 3, 1) := by decide +kernel
theorem d_Law_law_1749 : decode code 1749 = .ok (.invokestatic 239, 3) := by decide +kernel
theorem tb_ml_Law_239 : mTB (Cond.methodLink "NineBarsLaw" 239 ⟨"NineBarsLaw", "ifWorn", "(LNineBars;I[J)I"⟩) := tbq5 161 (by decide +kernel) rfl
theorem tb_sm_Law_ifWorn : mTB (Cond.static ⟨"NineBarsLaw", "ifWorn", "(LNineBars;I[J)I"⟩) := tbq5 162 (by decide +kernel) rfl
theorem d_Law_law_1752 : decode code 1752 = .ok (.istore 5, 2) := by decide +kernel
theorem d_Law_law_1754 : decode code 1754 = .ok (.aload_n 2, 1) := by decide +kernel
theorem d_Law_law_1755 : decode code 1755 = .ok (.aload_n 0, 1) := by decide +kernel
theorem d_Law_law_1756 : decode code 1756 = .ok (.iload 4, 2) := by decide +kernel
theorem d_Law_law_1758 : decode code 1758 = .ok (.iconst 1, 1) := by decide +kernel
theorem d_Law_law_1759 : decode code 1759 = .ok (.iadd, 1) := by decide +kernel
theorem d_Law_law_1760 : decode code 1760 = .ok (.iaload, 1) := by decide +kernel
theorem d_Law_law_1761 : decode code 1761 = .ok (.invokevirtual 241, 3) := by decide +kernel
theorem tb_ml_Law_241 : mTB (Cond.methodLink "NineBarsLaw" 241 ⟨"NineBarsModel", "ifWorn", "(I)I"⟩) := tbq8 205 (by decide +kernel) rfl
theorem tb_im_Md_ifWorn : mTB (Cond.instanceMethod ⟨"NineBarsModel", "ifWorn", "(I)I"⟩) := tbq8 206 (by decide +kernel) rfl
theorem tb_se_Md_ifWorn : mTB (Cond.selects "NineBarsModel" ⟨"NineBarsModel", "ifWorn", "(I)I"⟩ ⟨"NineBarsModel", "ifWorn", "(I)I"⟩) := tbq8 207 (by decide +kernel) rfl
theorem mv_Md_ifWorn {M : mM} {idx : Nat} (h : mTB (Cond.methodLink (mO M) idx ⟨"NineBarsModel", "ifWorn", "(I)I"⟩)) : mCaV M M_Md_ifWorn idx 11 := ⟨h, tb_im_Md_ifWorn, tb_se_Md_ifWorn, by decide, TX11, 40, rfl⟩
theorem d_Law_law_1764 : decode code 1764 = .ok (.istore 6, 2) := by decide +kernel
theorem d_Law_law_1766 : decode code 1766 = .ok (.aload_n 2, 1) := by decide +kernel
theorem d_Law_law_1767 : decode code 1767 = .ok (.invokevirtual 146, 3) := by decide +kernel
theorem d_Law_law_1770 : decode code 1770 = .ok (.iload 5, 2) := by decide +kernel
theorem d_Law_law_1772 : decode code 1772 = .ok (.if_icmp .eq 5, 3) := by decide +kernel
theorem d_Law_law_1777 : decode code 1777 = .ok (.iload 5, 2) := by decide +kernel
theorem d_Law_law_1779 : decode code 1779 = .ok (.ifCond .ne 15, 3) := by decide +kernel
theorem d_Law_law_1794 : decode code 1794 = .ok (.goto 848, 3) := by decide +kernel
theorem d_Law_law_1782 : decode code 1782 = .ok (.aload_n 3, 1) := by decide +kernel
theorem d_Law_law_1783 : decode code 1783 = .ok (.iconst 0, 1) := by decide +kernel
theorem d_Law_law_1784 : decode code 1784 = .ok (.laload, 1) := by decide +kernel
theorem d_Law_law_1785 : decode code 1785 = .ok (.iload 6, 2) := by decide +kernel
theorem d_Law_law_1787 : decode code 1787 = .ok (.i2l, 1) := by decide +kernel
theorem d_Law_law_1788 : decode code 1788 = .ok (.lcmp, 1) := by decide +kernel
theorem d_Law_law_1789 : decode code 1789 = .ok (.ifCond .eq 5, 3) := by decide +kernel
theorem d_Law_law_1792 : decode code 1792 = .ok (.iconst 0, 1) := by decide +kernel
theorem d_Law_law_1793 : decode code 1793 = .ok (.ireturn, 1) := by decide +kernel
theorem d_Law_law_1775 : decode code 1775 = .ok (.iconst 0, 1) := by decide +kernel
theorem d_Law_law_1776 : decode code 1776 = .ok (.ireturn, 1) := by decide +kernel
theorem d_Law_law_1797 : decode code 1797 = .ok (.aload_n 1, 1) := by decide +kernel
theorem d_Law_law_1798 : decode code 1798 = .ok (.aload_n 3, 1) := by decide +kernel
theorem d_Law_law_1799 : decode code 1799 = .ok (.invokestatic 242, 3) := by decide +kernel
theorem tb_ml_Law_242 : mTB (Cond.methodLink "NineBarsLaw" 242 ⟨"NineBarsLaw", "weakest", "(LNineBars;[J)I"⟩) := tbq5 177 (by decide +kernel) rfl
theorem tb_sm_Law_weakest : mTB (Cond.static ⟨"NineBarsLaw", "weakest", "(LNineBars;[J)I"⟩) := tbq5 178 (by decide +kernel) rfl
theorem d_Law_law_1802 : decode code 1802 = .ok (.istore 5, 2) := by decide +kernel
theorem d_Law_law_1804 : decode code 1804 = .ok (.aload_n 2, 1) := by decide +kernel
theorem d_Law_law_1805 : decode code 1805 = .ok (.invokevirtual 244, 3) := by decide +kernel
theorem tb_ml_Law_244 : mTB (Cond.methodLink "NineBarsLaw" 244 ⟨"NineBarsModel", "weakest", "()I"⟩) := tbq8 213 (by decide +kernel) rfl
theorem tb_im_Md_weakest : mTB (Cond.instanceMethod ⟨"NineBarsModel", "weakest", "()I"⟩) := tbq8 214 (by decide +kernel) rfl
theorem tb_se_Md_weakest : mTB (Cond.selects "NineBarsModel" ⟨"NineBarsModel", "weakest", "()I"⟩ ⟨"NineBarsModel", "weakest", "()I"⟩) := tbq8 215 (by decide +kernel) rfl
theorem mv_Md_weakest {M : mM} {idx : Nat} (h : mTB (Cond.methodLink (mO M) idx ⟨"NineBarsModel", "weakest", "()I"⟩)) : mCaV M M_Md_weakest idx 11 := ⟨h, tb_im_Md_weakest, tb_se_Md_weakest, by decide, TX11, 40, rfl⟩
theorem d_Law_law_1808 : decode code 1808 = .ok (.istore 6, 2) := by decide +kernel
theorem d_Law_law_1810 : decode code 1810 = .ok (.aload_n 2, 1) := by decide +kernel
theorem d_Law_law_1811 : decode code 1811 = .ok (.invokevirtual 146, 3) := by decide +kernel
theorem d_Law_law_1814 : decode code 1814 = .ok (.iload 5, 2) := by decide +kernel
theorem d_Law_law_1816 : decode code 1816 = .ok (.if_icmp .eq 5, 3) := by decide +kernel
theorem d_Law_law_1821 : decode code 1821 = .ok (.iload 5, 2) := by decide +kernel
theorem d_Law_law_1823 : decode code 1823 = .ok (.ifCond .ne 15, 3) := by decide +kernel
theorem d_Law_law_1838 : decode code 1838 = .ok (.goto 804, 3) := by decide +kernel
theorem d_Law_law_1826 : decode code 1826 = .ok (.aload_n 3, 1) := by decide +kernel
theorem d_Law_law_1827 : decode code 1827 = .ok (.iconst 0, 1) := by decide +kernel
theorem d_Law_law_1828 : decode code 1828 = .ok (.laload, 1) := by decide +kernel
theorem d_Law_law_1829 : decode code 1829 = .ok (.iload 6, 2) := by decide +kernel
theorem d_Law_law_1831 : decode code 1831 = .ok (.i2l, 1) := by decide +kernel
theorem d_Law_law_1832 : decode code 1832 = .ok (.lcmp, 1) := by decide +kernel
theorem d_Law_law_1833 : decode code 1833 = .ok (.ifCond .eq 5, 3) := by decide +kernel
theorem d_Law_law_1836 : decode code 1836 = .ok (.iconst 0, 1) := by decide +kernel
theorem d_Law_law_1837 : decode code 1837 = .ok (.ireturn, 1) := by decide +kernel
theorem d_Law_law_1819 : decode code 1819 = .ok (.iconst 0, 1) := by decide +kernel
theorem d_Law_law_1820 : decode code 1820 = .ok (.ireturn, 1) := by decide +kernel
theorem d_Law_law_1841 : decode code 1841 = .ok (.aload_n 1, 1) := by decide +kernel
theorem d_Law_law_1842 : decode code 1842 = .ok (.aload_n 0, 1) := by decide +kernel
theorem d_Law_law_1843 : decode code 1843 = .ok (.iload 4, 2) := by decide +kernel
theorem d_Law_law_1845 : decode code 1845 = .ok (.iconst 1, 1) := by decide +kernel
theorem d_Law_law_1846 : decode code 1846 = .ok (.iadd, 1) := by decide +kernel
theorem d_Law_law_1847 : decode code 1847 = .ok (.iaload, 1) := by decide +kernel
theorem d_Law_law_1848 : decode code 1848 = .ok (.aload_n 0, 1) := by decide +kernel
theorem d_Law_law_1849 : decode code 1849 = .ok (.iload 4, 2) := by decide +kernel
theorem d_Law_law_1851 : decode code 1851 = .ok (.iconst 2, 1) := by decide +kernel
theorem d_Law_law_1852 : decode code 1852 = .ok (.iadd, 1) := by decide +kernel
theorem d_Law_law_1853 : decode code 1853 = .ok (.iaload, 1) := by decide +kernel
theorem d_Law_law_1854 : decode code 1854 = .ok (.aload_n 3, 1) := by decide +kernel
theorem d_Law_law_1855 : decode code 1855 = .ok (.invokestatic 245, 3) := by decide +kernel
theorem tb_ml_Law_245 : mTB (Cond.methodLink "NineBarsLaw" 245 ⟨"NineBarsLaw", "hardest", "(LNineBars;II[J)I"⟩) := tbq5 184 (by decide +kernel) rfl
theorem tb_sm_Law_hardest : mTB (Cond.static ⟨"NineBarsLaw", "hardest", "(LNineBars;II[J)I"⟩) := tbq5 185 (by decide +kernel) rfl
theorem d_Law_law_1858 : decode code 1858 = .ok (.istore 5, 2) := by decide +kernel
theorem d_Law_law_1860 : decode code 1860 = .ok (.aload_n 2, 1) := by decide +kernel
theorem d_Law_law_1861 : decode code 1861 = .ok (.aload_n 0, 1) := by decide +kernel
theorem d_Law_law_1862 : decode code 1862 = .ok (.iload 4, 2) := by decide +kernel
theorem d_Law_law_1864 : decode code 1864 = .ok (.iconst 1, 1) := by decide +kernel
theorem d_Law_law_1865 : decode code 1865 = .ok (.iadd, 1) := by decide +kernel
theorem d_Law_law_1866 : decode code 1866 = .ok (.iaload, 1) := by decide +kernel
theorem d_Law_law_1867 : decode code 1867 = .ok (.aload_n 0, 1) := by decide +kernel
theorem d_Law_law_1868 : decode code 1868 = .ok (.iload 4, 2) := by decide +kernel
theorem d_Law_law_1870 : decode code 1870 = .ok (.iconst 2, 1) := by decide +kernel
theorem d_Law_law_1871 : decode code 1871 = .ok (.iadd, 1) := by decide +kernel
theorem d_Law_law_1872 : decode code 1872 = .ok (.iaload, 1) := by decide +kernel
theorem d_Law_law_1873 : decode code 1873 = .ok (.invokevirtual 247, 3) := by decide +kernel
theorem tb_ml_Law_247 : mTB (Cond.methodLink "NineBarsLaw" 247 ⟨"NineBarsModel", "hardest", "(II)I"⟩) := tbq8 217 (by decide +kernel) rfl
theorem tb_im_Md_hardest : mTB (Cond.instanceMethod ⟨"NineBarsModel", "hardest", "(II)I"⟩) := tbq8 218 (by decide +kernel) rfl
theorem tb_se_Md_hardest : mTB (Cond.selects "NineBarsModel" ⟨"NineBarsModel", "hardest", "(II)I"⟩ ⟨"NineBarsModel", "hardest", "(II)I"⟩) := tbq8 219 (by decide +kernel) rfl
theorem mv_Md_hardest {M : mM} {idx : Nat} (h : mTB (Cond.methodLink (mO M) idx ⟨"NineBarsModel", "hardest", "(II)I"⟩)) : mCaV M M_Md_hardest idx 11 := ⟨h, tb_im_Md_hardest, tb_se_Md_hardest, by decide, TX11, 40, rfl⟩
theorem d_Law_law_1876 : decode code 1876 = .ok (.istore 6, 2) := by decide +kernel
theorem d_Law_law_1878 : decode code 1878 = .ok (.aload_n 2, 1) := by decide +kernel
theorem d_Law_law_1879 : decode code 1879 = .ok (.invokevirtual 146, 3) := by decide +kernel
theorem d_Law_law_1882 : decode code 1882 = .ok (.iload 5, 2) := by decide +kernel
theorem d_Law_law_1884 : decode code 1884 = .ok (.if_icmp .eq 5, 3) := by decide +kernel
theorem d_Law_law_1889 : decode code 1889 = .ok (.iload 5, 2) := by decide +kernel
theorem d_Law_law_1891 : decode code 1891 = .ok (.ifCond .ne 15, 3) := by decide +kernel
theorem d_Law_law_1906 : decode code 1906 = .ok (.goto 736, 3) := by decide +kernel
theorem d_Law_law_1894 : decode code 1894 = .ok (.aload_n 3, 1) := by decide +kernel
theorem d_Law_law_1895 : decode code 1895 = .ok (.iconst 0, 1) := by decide +kernel
theorem d_Law_law_1896 : decode code 1896 = .ok (.laload, 1) := by decide +kernel
theorem d_Law_law_1897 : decode code 1897 = .ok (.iload 6, 2) := by decide +kernel
theorem d_Law_law_1899 : decode code 1899 = .ok (.i2l, 1) := by decide +kernel
theorem d_Law_law_1900 : decode code 1900 = .ok (.lcmp, 1) := by decide +kernel
theorem d_Law_law_1901 : decode code 1901 = .ok (.ifCond .eq 5, 3) := by decide +kernel
theorem d_Law_law_1904 : decode code 1904 = .ok (.iconst 0, 1) := by decide +kernel
theorem d_Law_law_1905 : decode code 1905 = .ok (.ireturn, 1) := by decide +kernel
theorem d_Law_law_1887 : decode code 1887 = .ok (.iconst 0, 1) := by decide +kernel
theorem d_Law_law_1888 : decode code 1888 = .ok (.ireturn, 1) := by decide +kernel
theorem d_Law_law_1909 : decode code 1909 = .ok (.aload_n 1, 1) := by decide +kernel
theorem d_Law_law_1910 : decode code 1910 = .ok (.aload_n 0, 1) := by decide +kernel
theorem d_Law_law_1911 : decode code 1911 = .ok (.iload 4, 2) := by decide +kernel
theorem d_Law_law_1913 : decode code 1913 = .ok (.iconst 1, 1) := by decide +kernel
theorem d_Law_law_1914 : decode code 1914 = .ok (.iadd, 1) := by decide +kernel
theorem d_Law_law_1915 : decode code 1915 = .ok (.iaload, 1) := by decide +kernel
theorem d_Law_law_1916 : decode code 1916 = .ok (.aload_n 3, 1) := by decide +kernel
theorem d_Law_law_1917 : decode code 1917 = .ok (.invokestatic 248, 3) := by decide +kernel
theorem tb_ml_Law_248 : mTB (Cond.methodLink "NineBarsLaw" 248 ⟨"NineBarsLaw", "known", "(LNineBars;I[J)I"⟩) := tbq5 223 (by decide +kernel) rfl
theorem tb_sm_Law_known : mTB (Cond.static ⟨"NineBarsLaw", "known", "(LNineBars;I[J)I"⟩) := tbq5 224 (by decide +kernel) rfl
theorem d_Law_law_1920 : decode code 1920 = .ok (.istore 5, 2) := by decide +kernel
theorem d_Law_law_1922 : decode code 1922 = .ok (.aload_n 2, 1) := by decide +kernel
theorem d_Law_law_1923 : decode code 1923 = .ok (.aload_n 0, 1) := by decide +kernel
theorem d_Law_law_1924 : decode code 1924 = .ok (.iload 4, 2) := by decide +kernel
theorem d_Law_law_1926 : decode code 1926 = .ok (.iconst 1, 1) := by decide +kernel
theorem d_Law_law_1927 : decode code 1927 = .ok (.iadd, 1) := by decide +kernel
theorem d_Law_law_1928 : decode code 1928 = .ok (.iaload, 1) := by decide +kernel
theorem d_Law_law_1929 : decode code 1929 = .ok (.invokevirtual 250, 3) := by decide +kernel
theorem tb_ml_Law_250 : mTB (Cond.methodLink "NineBarsLaw" 250 ⟨"NineBarsModel", "known", "(I)J"⟩) := tbq8 230 (by decide +kernel) rfl
theorem tb_im_Md_known : mTB (Cond.instanceMethod ⟨"NineBarsModel", "known", "(I)J"⟩) := tbq8 231 (by decide +kernel) rfl
theorem tb_se_Md_known : mTB (Cond.selects "NineBarsModel" ⟨"NineBarsModel", "known", "(I)J"⟩ ⟨"NineBarsModel", "known", "(I)J"⟩) := tbq8 232 (by decide +kernel) rfl
theorem mv_Md_known {M : mM} {idx : Nat} (h : mTB (Cond.methodLink (mO M) idx ⟨"NineBarsModel", "known", "(I)J"⟩)) : mCaV M M_Md_known idx 11 := ⟨h, tb_im_Md_known, tb_se_Md_known, by decide, TX11, 40, rfl⟩
theorem d_Law_law_1932 : decode code 1932 = .ok (.lstore 6, 2) := by decide +kernel
theorem d_Law_law_1934 : decode code 1934 = .ok (.aload_n 2, 1) := by decide +kernel
theorem d_Law_law_1935 : decode code 1935 = .ok (.invokevirtual 146, 3) := by decide +kernel
theorem d_Law_law_1938 : decode code 1938 = .ok (.iload 5, 2) := by decide +kernel
theorem d_Law_law_1940 : decode code 1940 = .ok (.if_icmp .eq 5, 3) := by decide +kernel
theorem d_Law_law_1945 : decode code 1945 = .ok (.iload 5, 2) := by decide +kernel
theorem d_Law_law_1947 : decode code 1947 = .ok (.ifCond .ne 14, 3) := by decide +kernel
theorem d_Law_law_1961 : decode code 1961 = .ok (.goto 681, 3) := by decide +kernel
theorem d_Law_law_1950 : decode code 1950 = .ok (.aload_n 3, 1) := by decide +kernel
theorem d_Law_law_1951 : decode code 1951 = .ok (.iconst 0, 1) := by decide +kernel
theorem d_Law_law_1952 : decode code 1952 = .ok (.laload, 1) := by decide +kernel
theorem d_Law_law_1953 : decode code 1953 = .ok (.lload 6, 2) := by decide +kernel
theorem d_Law_law_1955 : decode code 1955 = .ok (.lcmp, 1) := by decide +kernel
theorem d_Law_law_1956 : decode code 1956 = .ok (.ifCond .eq 5, 3) := by decide +kernel
theorem d_Law_law_1959 : decode code 1959 = .ok (.iconst 0, 1) := by decide +kernel
theorem d_Law_law_1960 : decode code 1960 = .ok (.ireturn, 1) := by decide +kernel
theorem d_Law_law_1943 : decode code 1943 = .ok (.iconst 0, 1) := by decide +kernel
theorem d_Law_law_1944 : decode code 1944 = .ok (.ireturn, 1) := by decide +kernel
theorem d_Law_law_1964 : decode code 1964 = .ok (.aload_n 1, 1) := by decide +kernel
theorem d_Law_law_1965 : decode code 1965 = .ok (.aload_n 0, 1) := by decide +kernel
theorem d_Law_law_1966 : decode code 1966 = .ok (.iload 4, 2) := by decide +kernel
theorem d_Law_law_1968 : decode code 1968 = .ok (.iconst 1, 1) := by decide +kernel
theorem d_Law_law_1969 : decode code 1969 = .ok (.iadd, 1) := by decide +kernel
theorem d_Law_law_1970 : decode code 1970 = .ok (.iaload, 1) := by decide +kernel
theorem d_Law_law_1971 : decode code 1971 = .ok (.aload_n 0, 1) := by decide +kernel
theorem d_Law_law_1972 : decode code 1972 = .ok (.iload 4, 2) := by decide +kernel
theorem d_Law_law_1974 : decode code 1974 = .ok (.iconst 2, 1) := by decide +kernel
theorem d_Law_law_1975 : decode code 1975 = .ok (.iadd, 1) := by decide +kernel
theorem d_Law_law_1976 : decode code 1976 = .ok (.iaload, 1) := by decide +kernel
theorem d_Law_law_1977 : decode code 1977 = .ok (.aload_n 3, 1) := by decide +kernel
theorem d_Law_law_1978 : decode code 1978 = .ok (.invokestatic 251, 3) := by decide +kernel
theorem tb_ml_Law_251 : mTB (Cond.methodLink "NineBarsLaw" 251 ⟨"NineBarsLaw", "keeps", "(LNineBars;II[J)I"⟩) := tbq6 1 (by decide +kernel) rfl
theorem tb_sm_Law_keeps : mTB (Cond.static ⟨"NineBarsLaw", "keeps", "(LNineBars;II[J)I"⟩) := tbq6 2 (by decide +kernel) rfl
theorem d_Law_law_1981 : decode code 1981 = .ok (.istore 5, 2) := by decide +kernel
theorem d_Law_law_1983 : decode code 1983 = .ok (.aload_n 2, 1) := by decide +kernel
theorem d_Law_law_1984 : decode code 1984 = .ok (.aload_n 0, 1) := by decide +kernel
theorem d_Law_law_1985 : decode code 1985 = .ok (.iload 4, 2) := by decide +kernel
theorem d_Law_law_1987 : decode code 1987 = .ok (.iconst 1, 1) := by decide +kernel
theorem d_Law_law_1988 : decode code 1988 = .ok (.iadd, 1) := by decide +kernel
theorem d_Law_law_1989 : decode code 1989 = .ok (.iaload, 1) := by decide +kernel
theorem d_Law_law_1990 : decode code 1990 = .ok (.aload_n 0, 1) := by decide +kernel
theorem d_Law_law_1991 : decode code 1991 = .ok (.iload 4, 2) := by decide +kernel
theorem d_Law_law_1993 : decode code 1993 = .ok (.iconst 2, 1) := by decide +kernel
theorem d_Law_law_1994 : decode code 1994 = .ok (.iadd, 1) := by decide +kernel
theorem d_Law_law_1995 : decode code 1995 = .ok (.iaload, 1) := by decide +kernel
theorem d_Law_law_1996 : decode code 1996 = .ok (.invokevirtual 253, 3) := by decide +kernel
theorem tb_ml_Law_253 : mTB (Cond.methodLink "NineBarsLaw" 253 ⟨"NineBarsModel", "keeps", "(II)J"⟩) := tbq9 7 (by decide +kernel) rfl
theorem tb_im_Md_keeps : mTB (Cond.instanceMethod ⟨"NineBarsModel", "keeps", "(II)J"⟩) := tbq9 8 (by decide +kernel) rfl
theorem tb_se_Md_keeps : mTB (Cond.selects "NineBarsModel" ⟨"NineBarsModel", "keeps", "(II)J"⟩ ⟨"NineBarsModel", "keeps", "(II)J"⟩) := tbq9 9 (by decide +kernel) rfl
theorem mv_Md_keeps {M : mM} {idx : Nat} (h : mTB (Cond.methodLink (mO M) idx ⟨"NineBarsModel", "keeps", "(II)J"⟩)) : mCaV M M_Md_keeps idx 11 := ⟨h, tb_im_Md_keeps, tb_se_Md_keeps, by decide, TX11, 40, rfl⟩
theorem d_Law_law_1999 : decode code 1999 = .ok (.lstore 6, 2) := by decide +kernel
theorem d_Law_law_2001 : decode code 2001 = .ok (.aload_n 2, 1) := by decide +kernel
theorem d_Law_law_2002 : decode code 2002 = .ok (.invokevirtual 146, 3) := by decide +kernel
theorem d_Law_law_2005 : decode code 2005 = .ok (.iload 5, 2) := by decide +kernel
theorem d_Law_law_2007 : decode code 2007 = .ok (.if_icmp .eq 5, 3) := by decide +kernel
theorem d_Law_law_2012 : decode code 2012 = .ok (.iload 5, 2) := by decide +kernel
theorem d_Law_law_2014 : decode code 2014 = .ok (.ifCond .ne 14, 3) := by decide +kernel
theorem d_Law_law_2028 : decode code 2028 = .ok (.goto 614, 3) := by decide +kernel
theorem d_Law_law_2017 : decode code 2017 = .ok (.aload_n 3, 1) := by decide +kernel
theorem d_Law_law_2018 : decode code 2018 = .ok (.iconst 0, 1) := by decide +kernel
theorem d_Law_law_2019 : decode code 2019 = .ok (.laload, 1) := by decide +kernel
theorem d_Law_law_2020 : decode code 2020 = .ok (.lload 6, 2) := by decide +kernel
theorem d_Law_law_2022 : decode code 2022 = .ok (.lcmp, 1) := by decide +kernel
theorem d_Law_law_2023 : decode code 2023 = .ok (.ifCond .eq 5, 3) := by decide +kernel
theorem d_Law_law_2026 : decode code 2026 = .ok (.iconst 0, 1) := by decide +kernel
theorem d_Law_law_2027 : decode code 2027 = .ok (.ireturn, 1) := by decide +kernel
theorem d_Law_law_2010 : decode code 2010 = .ok (.iconst 0, 1) := by decide +kernel
theorem d_Law_law_2011 : decode code 2011 = .ok (.ireturn, 1) := by decide +kernel
theorem d_Law_law_2031 : decode code 2031 = .ok (.aload_n 1, 1) := by decide +kernel
theorem d_Law_law_2032 : decode code 2032 = .ok (.aload_n 0, 1) := by decide +kernel
theorem d_Law_law_2033 : decode code 2033 = .ok (.iload 4, 2) := by decide +kernel
theorem d_Law_law_2035 : decode code 2035 = .ok (.iconst 1, 1) := by decide +kernel
theorem d_Law_law_2036 : decode code 2036 = .ok (.iadd, 1) := by decide +kernel
theorem d_Law_law_2037 : decode code 2037 = .ok (.iaload, 1) := by decide +kernel
theorem d_Law_law_2038 : decode code 2038 = .ok (.aload_n 0, 1) := by decide +kernel
theorem d_Law_law_2039 : decode code 2039 = .ok (.iload 4, 2) := by decide +kernel
theorem d_Law_law_2041 : decode code 2041 = .ok (.iconst 2, 1) := by decide +kernel
theorem d_Law_law_2042 : decode code 2042 = .ok (.iadd, 1) := by decide +kernel
theorem d_Law_law_2043 : decode code 2043 = .ok (.iaload, 1) := by decide +kernel
theorem d_Law_law_2044 : decode code 2044 = .ok (.aload_n 0, 1) := by decide +kernel
theorem d_Law_law_2045 : decode code 2045 = .ok (.iload 4, 2) := by decide +kernel
theorem d_Law_law_2047 : decode code 2047 = .ok (.iconst 3, 1) := by decide +kernel
theorem d_Law_law_2048 : decode code 2048 = .ok (.iadd, 1) := by decide +kernel
theorem d_Law_law_2049 : decode code 2049 = .ok (.iaload, 1) := by decide +kernel
theorem d_Law_law_2050 : decode code 2050 = .ok (.aload_n 3, 1) := by decide +kernel
theorem d_Law_law_2051 : decode code 2051 = .ok (.invokestatic 254, 3) := by decide +kernel
theorem tb_ml_Law_254 : mTB (Cond.methodLink "NineBarsLaw" 254 ⟨"NineBarsLaw", "fits", "(LNineBars;III[J)I"⟩) := tbq6 32 (by decide +kernel) rfl
theorem tb_sm_Law_fits : mTB (Cond.static ⟨"NineBarsLaw", "fits", "(LNineBars;III[J)I"⟩) := tbq6 33 (by decide +kernel) rfl
theorem d_Law_law_2054 : decode code 2054 = .ok (.istore 5, 2) := by decide +kernel
theorem d_Law_law_2056 : decode code 2056 = .ok (.aload_n 2, 1) := by decide +kernel
theorem d_Law_law_2057 : decode code 2057 = .ok (.aload_n 0, 1) := by decide +kernel
theorem d_Law_law_2058 : decode code 2058 = .ok (.iload 4, 2) := by decide +kernel
theorem d_Law_law_2060 : decode code 2060 = .ok (.iconst 1, 1) := by decide +kernel
theorem d_Law_law_2061 : decode code 2061 = .ok (.iadd, 1) := by decide +kernel
theorem d_Law_law_2062 : decode code 2062 = .ok (.iaload, 1) := by decide +kernel
theorem d_Law_law_2063 : decode code 2063 = .ok (.aload_n 0, 1) := by decide +kernel
theorem d_Law_law_2064 : decode code 2064 = .ok (.iload 4, 2) := by decide +kernel
theorem d_Law_law_2066 : decode code 2066 = .ok (.iconst 2, 1) := by decide +kernel
theorem d_Law_law_2067 : decode code 2067 = .ok (.iadd, 1) := by decide +kernel
theorem d_Law_law_2068 : decode code 2068 = .ok (.iaload, 1) := by decide +kernel
theorem d_Law_law_2069 : decode code 2069 = .ok (.aload_n 0, 1) := by decide +kernel
theorem d_Law_law_2070 : decode code 2070 = .ok (.iload 4, 2) := by decide +kernel
theorem d_Law_law_2072 : decode code 2072 = .ok (.iconst 3, 1) := by decide +kernel
theorem d_Law_law_2073 : decode code 2073 = .ok (.iadd, 1) := by decide +kernel
theorem d_Law_law_2074 : decode code 2074 = .ok (.iaload, 1) := by decide +kernel
theorem d_Law_law_2075 : decode code 2075 = .ok (.invokevirtual 256, 3) := by decide +kernel
theorem tb_ml_Law_256 : mTB (Cond.methodLink "NineBarsLaw" 256 ⟨"NineBarsModel", "fits", "(III)I"⟩) := tbq9 19 (by decide +kernel) rfl
theorem tb_im_Md_fits : mTB (Cond.instanceMethod ⟨"NineBarsModel", "fits", "(III)I"⟩) := tbq9 20 (by decide +kernel) rfl
theorem tb_se_Md_fits : mTB (Cond.selects "NineBarsModel" ⟨"NineBarsModel", "fits", "(III)I"⟩ ⟨"NineBarsModel", "fits", "(III)I"⟩) := tbq9 21 (by decide +kernel) rfl
theorem mv_Md_fits {M : mM} {idx : Nat} (h : mTB (Cond.methodLink (mO M) idx ⟨"NineBarsModel", "fits", "(III)I"⟩)) : mCaV M M_Md_fits idx 11 := ⟨h, tb_im_Md_fits, tb_se_Md_fits, by decide, TX11, 40, rfl⟩
theorem d_Law_law_2078 : decode code 2078 = .ok (.istore 6, 2) := by decide +kernel
theorem d_Law_law_2080 : decode code 2080 = .ok (.aload_n 2, 1) := by decide +kernel
theorem d_Law_law_2081 : decode code 2081 = .ok (.invokevirtual 146, 3) := by decide +kernel
theorem d_Law_law_2084 : decode code 2084 = .ok (.iload 5, 2) := by decide +kernel
theorem d_Law_law_2086 : decode code 2086 = .ok (.if_icmp .eq 5, 3) := by decide +kernel
theorem d_Law_law_2091 : decode code 2091 = .ok (.iload 5, 2) := by decide +kernel
theorem d_Law_law_2093 : decode code 2093 = .ok (.ifCond .ne 15, 3) := by decide +kernel
theorem d_Law_law_2108 : decode code 2108 = .ok (.goto 534, 3) := by decide +kernel
theorem d_Law_law_2096 : decode code 2096 = .ok (.aload_n 3, 1) := by decide +kernel
theorem d_Law_law_2097 : decode code 2097 = .ok (.iconst 0, 1) := by decide +kernel
theorem d_Law_law_2098 : decode code 2098 = .ok (.laload, 1) := by decide +kernel
theorem d_Law_law_2099 : decode code 2099 = .ok (.iload 6, 2) := by decide +kernel
theorem d_Law_law_2101 : decode code 2101 = .ok (.i2l, 1) := by decide +kernel
theorem d_Law_law_2102 : decode code 2102 = .ok (.lcmp, 1) := by decide +kernel
theorem d_Law_law_2103 : decode code 2103 = .ok (.ifCond .eq 5, 3) := by decide +kernel
theorem d_Law_law_2106 : decode code 2106 = .ok (.iconst 0, 1) := by decide +kernel
theorem d_Law_law_2107 : decode code 2107 = .ok (.ireturn, 1) := by decide +kernel
theorem d_Law_law_2089 : decode code 2089 = .ok (.iconst 0, 1) := by decide +kernel
theorem d_Law_law_2090 : decode code 2090 = .ok (.ireturn, 1) := by decide +kernel
theorem d_Law_law_2111 : decode code 2111 = .ok (.aload_n 1, 1) := by decide +kernel
theorem d_Law_law_2112 : decode code 2112 = .ok (.aload_n 0, 1) := by decide +kernel
theorem d_Law_law_2113 : decode code 2113 = .ok (.iload 4, 2) := by decide +kernel
theorem d_Law_law_2115 : decode code 2115 = .ok (.iconst 1, 1) := by decide +kernel
theorem d_Law_law_2116 : decode code 2116 = .ok (.iadd, 1) := by decide +kernel
theorem d_Law_law_2117 : decode code 2117 = .ok (.iaload, 1) := by decide +kernel
theorem d_Law_law_2118 : decode code 2118 = .ok (.aload_n 0, 1) := by decide +kernel
theorem d_Law_law_2119 : decode code 2119 = .ok (.iload 4, 2) := by decide +kernel
theorem d_Law_law_2121 : decode code 2121 = .ok (.iconst 2, 1) := by decide +kernel
theorem d_Law_law_2122 : decode code 2122 = .ok (.iadd, 1) := by decide +kernel
theorem d_Law_law_2123 : decode code 2123 = .ok (.iaload, 1) := by decide +kernel
theorem d_Law_law_2124 : decode code 2124 = .ok (.aload_n 0, 1) := by decide +kernel
theorem d_Law_law_2125 : decode code 2125 = .ok (.iload 4, 2) := by decide +kernel
theorem d_Law_law_2127 : decode code 2127 = .ok (.iconst 3, 1) := by decide +kernel
theorem d_Law_law_2128 : decode code 2128 = .ok (.iadd, 1) := by decide +kernel
theorem d_Law_law_2129 : decode code 2129 = .ok (.iaload, 1) := by decide +kernel
theorem d_Law_law_2130 : decode code 2130 = .ok (.aload_n 3, 1) := by decide +kernel
theorem d_Law_law_2131 : decode code 2131 = .ok (.invokestatic 257, 3) := by decide +kernel
theorem tb_ml_Law_257 : mTB (Cond.methodLink "NineBarsLaw" 257 ⟨"NineBarsLaw", "tries", "(LNineBars;III[J)I"⟩) := tbq6 58 (by decide +kernel) rfl
theorem tb_sm_Law_tries : mTB (Cond.static ⟨"NineBarsLaw", "tries", "(LNineBars;III[J)I"⟩) := tbq6 59 (by decide +kernel) rfl
theorem d_Law_law_2134 : decode code 2134 = .ok (.istore 5, 2) := by decide +kernel
theorem d_Law_law_2136 : decode code 2136 = .ok (.aload_n 2, 1) := by decide +kernel
theorem d_Law_law_2137 : decode code 2137 = .ok (.aload_n 0, 1) := by decide +kernel
theorem d_Law_law_2138 : decode code 2138 = .ok (.iload 4, 2) := by decide +kernel
theorem d_Law_law_2140 : decode code 2140 = .ok (.iconst 1, 1) := by decide +kernel
theorem d_Law_law_2141 : decode code 2141 = .ok (.iadd, 1) := by decide +kernel
theorem d_Law_law_2142 : decode code 2142 = .ok (.iaload, 1) := by decide +kernel
theorem d_Law_law_2143 : decode code 2143 = .ok (.aload_n 0, 1) := by decide +kernel
theorem d_Law_law_2144 : decode code 2144 = .ok (.iload 4, 2) := by decide +kernel
theorem d_Law_law_2146 : decode code 2146 = .ok (.iconst 2, 1) := by decide +kernel
theorem d_Law_law_2147 : decode code 2147 = .ok (.iadd, 1) := by decide +kernel
theorem d_Law_law_2148 : decode code 2148 = .ok (.iaload, 1) := by decide +kernel
theorem d_Law_law_2149 : decode code 2149 = .ok (.aload_n 0, 1) := by decide +kernel
theorem d_Law_law_2150 : decode code 2150 = .ok (.iload 4, 2) := by decide +kernel
theorem d_Law_law_2152 : decode code 2152 = .ok (.iconst 3, 1) := by decide +kernel
theorem d_Law_law_2153 : decode code 2153 = .ok (.iadd, 1) := by decide +kernel
theorem d_Law_law_2154 : decode code 2154 = .ok (.iaload, 1) := by decide +kernel
theorem d_Law_law_2155 : decode code 2155 = .ok (.invokevirtual 259, 3) := by decide +kernel
theorem tb_ml_Law_259 : mTB (Cond.methodLink "NineBarsLaw" 259 ⟨"NineBarsModel", "tries", "(III)I"⟩) := tbq9 35 (by decide +kernel) rfl
theorem tb_im_Md_tries : mTB (Cond.instanceMethod ⟨"NineBarsModel", "tries", "(III)I"⟩) := tbq9 36 (by decide +kernel) rfl
theorem tb_se_Md_tries : mTB (Cond.selects "NineBarsModel" ⟨"NineBarsModel", "tries", "(III)I"⟩ ⟨"NineBarsModel", "tries", "(III)I"⟩) := tbq9 37 (by decide +kernel) rfl
theorem mv_Md_tries {M : mM} {idx : Nat} (h : mTB (Cond.methodLink (mO M) idx ⟨"NineBarsModel", "tries", "(III)I"⟩)) : mCaV M M_Md_tries idx 11 := ⟨h, tb_im_Md_tries, tb_se_Md_tries, by decide, TX11, 40, rfl⟩
theorem d_Law_law_2158 : decode code 2158 = .ok (.istore 6, 2) := by decide +kernel
theorem d_Law_law_2160 : decode code 2160 = .ok (.aload_n 2, 1) := by decide +kernel
theorem d_Law_law_2161 : decode code 2161 = .ok (.invokevirtual 146, 3) := by decide +kernel
theorem d_Law_law_2164 : decode code 2164 = .ok (.iload 5, 2) := by decide +kernel
theorem d_Law_law_2166 : decode code 2166 = .ok (.if_icmp .eq 5, 3) := by decide +kernel
theorem d_Law_law_2171 : decode code 2171 = .ok (.iload 5, 2) := by decide +kernel
theorem d_Law_law_2173 : decode code 2173 = .ok (.ifCond .ne 15, 3) := by decide +kernel
theorem d_Law_law_2188 : decode code 2188 = .ok (.goto 454, 3) := by decide +kernel
theorem d_Law_law_2176 : decode code 2176 = .ok (.aload_n 3, 1) := by decide +kernel
theorem d_Law_law_2177 : decode code 2177 = .ok (.iconst 0, 1) := by decide +kernel
theorem d_Law_law_2178 : decode code 2178 = .ok (.laload, 1) := by decide +kernel
theorem d_Law_law_2179 : decode code 2179 = .ok (.iload 6, 2) := by decide +kernel
theorem d_Law_law_2181 : decode code 2181 = .ok (.i2l, 1) := by decide +kernel
theorem d_Law_law_2182 : decode code 2182 = .ok (.lcmp, 1) := by decide +kernel
theorem d_Law_law_2183 : decode code 2183 = .ok (.ifCond .eq 5, 3) := by decide +kernel
theorem d_Law_law_2186 : decode code 2186 = .ok (.iconst 0, 1) := by decide +kernel
theorem d_Law_law_2187 : decode code 2187 = .ok (.ireturn, 1) := by decide +kernel
theorem d_Law_law_2169 : decode code 2169 = .ok (.iconst 0, 1) := by decide +kernel
theorem d_Law_law_2170 : decode code 2170 = .ok (.ireturn, 1) := by decide +kernel
theorem d_Law_law_2191 : decode code 2191 = .ok (.aload_n 1, 1) := by decide +kernel
theorem d_Law_law_2192 : decode code 2192 = .ok (.aload_n 0, 1) := by decide +kernel
theorem d_Law_law_2193 : decode code 2193 = .ok (.iload 4, 2) := by decide +kernel
theorem d_Law_law_2195 : decode code 2195 = .ok (.iconst 1, 1) := by decide +kernel
theorem d_Law_law_2196 : decode code 2196 = .ok (.iadd, 1) := by decide +kernel
theorem d_Law_law_2197 : decode code 2197 = .ok (.iaload, 1) := by decide +kernel
theorem d_Law_law_2198 : decode code 2198 = .ok (.aload_n 0, 1) := by decide +kernel
theorem d_Law_law_2199 : decode code 2199 = .ok (.iload 4, 2) := by decide +kernel
theorem d_Law_law_2201 : decode code 2201 = .ok (.iconst 2, 1) := by decide +kernel
theorem d_Law_law_2202 : decode code 2202 = .ok (.iadd, 1) := by decide +kernel
theorem d_Law_law_2203 : decode code 2203 = .ok (.iaload, 1) := by decide +kernel
theorem d_Law_law_2204 : decode code 2204 = .ok (.ifCond .eq 7, 3) := by decide +kernel
theorem d_Law_law_2211 : decode code 2211 = .ok (.iconst 0, 1) := by decide +kernel
theorem d_Law_law_2212 : decode code 2212 = .ok (.aload_n 3, 1) := by decide +kernel
theorem d_Law_law_2213 : decode code 2213 = .ok (.invokestatic 260, 3) := by decide +kernel
theorem tb_ml_Law_260 : mTB (Cond.methodLink "NineBarsLaw" 260 ⟨"NineBarsLaw", "rows", "(LNineBars;IZ[J)I"⟩) := tbq6 77 (by decide +kernel) rfl
theorem tb_sm_Law_rows : mTB (Cond.static ⟨"NineBarsLaw", "rows", "(LNineBars;IZ[J)I"⟩) := tbq6 78 (by decide +kernel) rfl
theorem d_Law_law_2216 : decode code 2216 = .ok (.istore 5, 2) := by decide +kernel
theorem d_Law_law_2218 : decode code 2218 = .ok (.aload_n 2, 1) := by decide +kernel
theorem d_Law_law_2219 : decode code 2219 = .ok (.aload_n 0, 1) := by decide +kernel
theorem d_Law_law_2220 : decode code 2220 = .ok (.iload 4, 2) := by decide +kernel
theorem d_Law_law_2222 : decode code 2222 = .ok (.iconst 1, 1) := by decide +kernel
theorem d_Law_law_2223 : decode code 2223 = .ok (.iadd, 1) := by decide +kernel
theorem d_Law_law_2224 : decode code 2224 = .ok (.iaload, 1) := by decide +kernel
theorem d_Law_law_2225 : decode code 2225 = .ok (.aload_n 0, 1) := by decide +kernel
theorem d_Law_law_2226 : decode code 2226 = .ok (.iload 4, 2) := by decide +kernel
theorem d_Law_law_2228 : decode code 2228 = .ok (.iconst 2, 1) := by decide +kernel
theorem d_Law_law_2229 : decode code 2229 = .ok (.iadd, 1) := by decide +kernel
theorem d_Law_law_2230 : decode code 2230 = .ok (.iaload, 1) := by decide +kernel
theorem d_Law_law_2231 : decode code 2231 = .ok (.ifCond .eq 7, 3) := by decide +kernel
theorem d_Law_law_2238 : decode code 2238 = .ok (.iconst 0, 1) := by decide +kernel
theorem d_Law_law_2239 : decode code 2239 = .ok (.invokevirtual 263, 3) := by decide +kernel
theorem tb_ml_Law_263 : mTB (Cond.methodLink "NineBarsLaw" 263 ⟨"NineBarsModel", "rows", "(IZ)J"⟩) := tbq9 40 (by decide +kernel) rfl
theorem tb_im_Md_rows : mTB (Cond.instanceMethod ⟨"NineBarsModel", "rows", "(IZ)J"⟩) := tbq9 41 (by decide +kernel) rfl
theorem tb_se_Md_rows : mTB (Cond.selects "NineBarsModel" ⟨"NineBarsModel", "rows", "(IZ)J"⟩ ⟨"NineBarsModel", "rows", "(IZ)J"⟩) := tbq9 42 (by decide +kernel) rfl
theorem mv_Md_rows {M : mM} {idx : Nat} (h : mTB (Cond.methodLink (mO M) idx ⟨"NineBarsModel", "rows", "(IZ)J"⟩)) : mCaV M M_Md_rows idx 11 := ⟨h, tb_im_Md_rows, tb_se_Md_rows, by decide, TX11, 40, rfl⟩
theorem d_Law_law_2242 : decode code 2242 = .ok (.lstore 6, 2) := by decide +kernel
theorem d_Law_law_2244 : decode code 2244 = .ok (.aload_n 2, 1) := by decide +kernel
theorem d_Law_law_2245 : decode code 2245 = .ok (.invokevirtual 146, 3) := by decide +kernel
theorem d_Law_law_2248 : decode code 2248 = .ok (.iload 5, 2) := by decide +kernel
theorem d_Law_law_2250 : decode code 2250 = .ok (.if_icmp .eq 5, 3) := by decide +kernel
theorem d_Law_law_2255 : decode code 2255 = .ok (.iload 5, 2) := by decide +kernel
theorem d_Law_law_2257 : decode code 2257 = .ok (.ifCond .ne 14, 3) := by decide +kernel
theorem d_Law_law_2271 : decode code 2271 = .ok (.goto 371, 3) := by decide +kernel
theorem d_Law_law_2260 : decode code 2260 = .ok (.aload_n 3, 1) := by decide +kernel
theorem d_Law_law_2261 : decode code 2261 = .ok (.iconst 0, 1) := by decide +kernel
theorem d_Law_law_2262 : decode code 2262 = .ok (.laload, 1) := by decide +kernel
theorem d_Law_law_2263 : decode code 2263 = .ok (.lload 6, 2) := by decide +kernel
theorem d_Law_law_2265 : decode code 2265 = .ok (.lcmp, 1) := by decide +kernel
theorem d_Law_law_2266 : decode code 2266 = .ok (.ifCond .eq 5, 3) := by decide +kernel
theorem d_Law_law_2269 : decode code 2269 = .ok (.iconst 0, 1) := by decide +kernel
theorem d_Law_law_2270 : decode code 2270 = .ok (.ireturn, 1) := by decide +kernel
theorem d_Law_law_2253 : decode code 2253 = .ok (.iconst 0, 1) := by decide +kernel
theorem d_Law_law_2254 : decode code 2254 = .ok (.ireturn, 1) := by decide +kernel
theorem d_Law_law_2234 : decode code 2234 = .ok (.iconst 1, 1) := by decide +kernel
theorem d_Law_law_2235 : decode code 2235 = .ok (.goto 4, 3) := by decide +kernel
theorem d_Law_law_2207 : decode code 2207 = .ok (.iconst 1, 1) := by decide +kernel
theorem d_Law_law_2208 : decode code 2208 = .ok (.goto 4, 3) := by decide +kernel
theorem d_Law_law_2274 : decode code 2274 = .ok (.aload_n 1, 1) := by decide +kernel
theorem d_Law_law_2275 : decode code 2275 = .ok (.aload_n 3, 1) := by decide +kernel
theorem d_Law_law_2276 : decode code 2276 = .ok (.invokestatic 264, 3) := by decide +kernel
theorem tb_ml_Law_264 : mTB (Cond.methodLink "NineBarsLaw" 264 ⟨"NineBarsLaw", "keys", "(LNineBars;[J)I"⟩) := tbq6 89 (by decide +kernel) rfl
theorem tb_sm_Law_keys : mTB (Cond.static ⟨"NineBarsLaw", "keys", "(LNineBars;[J)I"⟩) := tbq6 90 (by decide +kernel) rfl
theorem d_Law_law_2279 : decode code 2279 = .ok (.istore 5, 2) := by decide +kernel
theorem d_Law_law_2281 : decode code 2281 = .ok (.aload_n 2, 1) := by decide +kernel
theorem d_Law_law_2282 : decode code 2282 = .ok (.invokevirtual 266, 3) := by decide +kernel
theorem tb_ml_Law_266 : mTB (Cond.methodLink "NineBarsLaw" 266 ⟨"NineBarsModel", "keys", "()I"⟩) := tbq9 45 (by decide +kernel) rfl
theorem tb_im_Md_keys : mTB (Cond.instanceMethod ⟨"NineBarsModel", "keys", "()I"⟩) := tbq9 46 (by decide +kernel) rfl
theorem tb_se_Md_keys : mTB (Cond.selects "NineBarsModel" ⟨"NineBarsModel", "keys", "()I"⟩ ⟨"NineBarsModel", "keys", "()I"⟩) := tbq9 47 (by decide +kernel) rfl
theorem mv_Md_keys {M : mM} {idx : Nat} (h : mTB (Cond.methodLink (mO M) idx ⟨"NineBarsModel", "keys", "()I"⟩)) : mCaV M M_Md_keys idx 11 := ⟨h, tb_im_Md_keys, tb_se_Md_keys, by decide, TX11, 40, rfl⟩
theorem d_Law_law_2285 : decode code 2285 = .ok (.istore 6, 2) := by decide +kernel
theorem d_Law_law_2287 : decode code 2287 = .ok (.aload_n 2, 1) := by decide +kernel
theorem d_Law_law_2288 : decode code 2288 = .ok (.invokevirtual 146, 3) := by decide +kernel
theorem d_Law_law_2291 : decode code 2291 = .ok (.iload 5, 2) := by decide +kernel
theorem d_Law_law_2293 : decode code 2293 = .ok (.if_icmp .eq 5, 3) := by decide +kernel
theorem d_Law_law_2298 : decode code 2298 = .ok (.iload 5, 2) := by decide +kernel
theorem d_Law_law_2300 : decode code 2300 = .ok (.ifCond .ne 15, 3) := by decide +kernel
theorem d_Law_law_2315 : decode code 2315 = .ok (.goto 327, 3) := by decide +kernel
theorem d_Law_law_2303 : decode code 2303 = .ok (.aload_n 3, 1) := by decide +kernel
theorem d_Law_law_2304 : decode code 2304 = .ok (.iconst 0, 1) := by decide +kernel
theorem d_Law_law_2305 : decode code 2305 = .ok (.laload, 1) := by decide +kernel
theorem d_Law_law_2306 : decode code 2306 = .ok (.iload 6, 2) := by decide +kernel
theorem d_Law_law_2308 : decode code 2308 = .ok (.i2l, 1) := by decide +kernel
theorem d_Law_law_2309 : decode code 2309 = .ok (.lcmp, 1) := by decide +kernel
theorem d_Law_law_2310 : decode code 2310 = .ok (.ifCond .eq 5, 3) := by decide +kernel
theorem d_Law_law_2313 : decode code 2313 = .ok (.iconst 0, 1) := by decide +kernel
theorem d_Law_law_2314 : decode code 2314 = .ok (.ireturn, 1) := by decide +kernel
theorem d_Law_law_2296 : decode code 2296 = .ok (.iconst 0, 1) := by decide +kernel
theorem d_Law_law_2297 : decode code 2297 = .ok (.ireturn, 1) := by decide +kernel
theorem d_Law_law_2318 : decode code 2318 = .ok (.aload_n 1, 1) := by decide +kernel
theorem d_Law_law_2319 : decode code 2319 = .ok (.aload_n 0, 1) := by decide +kernel
theorem d_Law_law_2320 : decode code 2320 = .ok (.iload 4, 2) := by decide +kernel
theorem d_Law_law_2322 : decode code 2322 = .ok (.iconst 1, 1) := by decide +kernel
theorem d_Law_law_2323 : decode code 2323 = .ok (.iadd, 1) := by decide +kernel
theorem d_Law_law_2324 : decode code 2324 = .ok (.iaload, 1) := by decide +kernel
theorem d_Law_law_2325 : decode code 2325 = .ok (.aload_n 0, 1) := by decide +kernel
theorem d_Law_law_2326 : decode code 2326 = .ok (.iload 4, 2) := by decide +kernel
theorem d_Law_law_2328 : decode code 2328 = .ok (.iconst 2, 1) := by decide +kernel
theorem d_Law_law_2329 : decode code 2329 = .ok (.iadd, 1) := by decide +kernel
theorem d_Law_law_2330 : decode code 2330 = .ok (.iaload, 1) := by decide +kernel
theorem d_Law_law_2331 : decode code 2331 = .ok (.aload_n 0, 1) := by decide +kernel
theorem d_Law_law_2332 : decode code 2332 = .ok (.iload 4, 2) := by decide +kernel
theorem d_Law_law_2334 : decode code 2334 = .ok (.iconst 3, 1) := by decide +kernel
theorem d_Law_law_2335 : decode code 2335 = .ok (.iadd, 1) := by decide +kernel
theorem d_Law_law_2336 : decode code 2336 = .ok (.iaload, 1) := by decide +kernel
theorem d_Law_law_2337 : decode code 2337 = .ok (.invokestatic 267, 3) := by decide +kernel
theorem tb_ml_Law_267 : mTB (Cond.methodLink "NineBarsLaw" 267 ⟨"NineBarsLaw", "tray", "(LNineBars;III)I"⟩) := tbq6 130 (by decide +kernel) rfl
theorem tb_sm_Law_tray : mTB (Cond.static ⟨"NineBarsLaw", "tray", "(LNineBars;III)I"⟩) := tbq6 131 (by decide +kernel) rfl
theorem d_Law_law_2340 : decode code 2340 = .ok (.istore 5, 2) := by decide +kernel
theorem d_Law_law_2342 : decode code 2342 = .ok (.aload_n 2, 1) := by decide +kernel
theorem d_Law_law_2343 : decode code 2343 = .ok (.aload_n 0, 1) := by decide +kernel
theorem d_Law_law_2344 : decode code 2344 = .ok (.iload 4, 2) := by decide +kernel
theorem d_Law_law_2346 : decode code 2346 = .ok (.iconst 1, 1) := by decide +kernel
theorem d_Law_law_2347 : decode code 2347 = .ok (.iadd, 1) := by decide +kernel
theorem d_Law_law_2348 : decode code 2348 = .ok (.iaload, 1) := by decide +kernel
theorem d_Law_law_2349 : decode code 2349 = .ok (.aload_n 0, 1) := by decide +kernel
theorem d_Law_law_2350 : decode code 2350 = .ok (.iload 4, 2) := by decide +kernel
theorem d_Law_law_2352 : decode code 2352 = .ok (.iconst 2, 1) := by decide +kernel
theorem d_Law_law_2353 : decode code 2353 = .ok (.iadd, 1) := by decide +kernel
theorem d_Law_law_2354 : decode code 2354 = .ok (.iaload, 1) := by decide +kernel
theorem d_Law_law_2355 : decode code 2355 = .ok (.aload_n 0, 1) := by decide +kernel
theorem d_Law_law_2356 : decode code 2356 = .ok (.iload 4, 2) := by decide +kernel
theorem d_Law_law_2358 : decode code 2358 = .ok (.iconst 3, 1) := by decide +kernel
theorem d_Law_law_2359 : decode code 2359 = .ok (.iadd, 1) := by decide +kernel
theorem d_Law_law_2360 : decode code 2360 = .ok (.iaload, 1) := by decide +kernel
theorem d_Law_law_2361 : decode code 2361 = .ok (.invokevirtual 270, 3) := by decide +kernel
theorem tb_ml_Law_270 : mTB (Cond.methodLink "NineBarsLaw" 270 ⟨"NineBarsModel", "tray", "(III)V"⟩) := tbq9 57 (by decide +kernel) rfl
theorem tb_im_Md_tray : mTB (Cond.instanceMethod ⟨"NineBarsModel", "tray", "(III)V"⟩) := tbq9 58 (by decide +kernel) rfl
theorem tb_se_Md_tray : mTB (Cond.selects "NineBarsModel" ⟨"NineBarsModel", "tray", "(III)V"⟩ ⟨"NineBarsModel", "tray", "(III)V"⟩) := tbq9 59 (by decide +kernel) rfl
theorem mv_Md_tray {M : mM} {idx : Nat} (h : mTB (Cond.methodLink (mO M) idx ⟨"NineBarsModel", "tray", "(III)V"⟩)) : mCaV M M_Md_tray idx 11 := ⟨h, tb_im_Md_tray, tb_se_Md_tray, by decide, TX11, 40, rfl⟩
theorem d_Law_law_2364 : decode code 2364 = .ok (.aload_n 2, 1) := by decide +kernel
theorem d_Law_law_2365 : decode code 2365 = .ok (.invokevirtual 146, 3) := by decide +kernel
theorem d_Law_law_2368 : decode code 2368 = .ok (.iload 5, 2) := by decide +kernel
theorem d_Law_law_2370 : decode code 2370 = .ok (.if_icmp .eq 5, 3) := by decide +kernel
theorem d_Law_law_2375 : decode code 2375 = .ok (.goto 267, 3) := by decide +kernel
theorem d_Law_law_2373 : decode code 2373 = .ok (.iconst 0, 1) := by decide +kernel
theorem d_Law_law_2374 : decode code 2374 = .ok (.ireturn, 1) := by decide +kernel
theorem d_Law_law_2378 : decode code 2378 = .ok (.aload_n 1, 1) := by decide +kernel
theorem d_Law_law_2379 : decode code 2379 = .ok (.aload_n 0, 1) := by decide +kernel
theorem d_Law_law_2380 : decode code 2380 = .ok (.iload 4, 2) := by decide +kernel
theorem d_Law_law_2382 : decode code 2382 = .ok (.iconst 1, 1) := by decide +kernel
theorem d_Law_law_2383 : decode code 2383 = .ok (.iadd, 1) := by decide +kernel
theorem d_Law_law_2384 : decode code 2384 = .ok (.iaload, 1) := by decide +kernel
theorem d_Law_law_2385 : decode code 2385 = .ok (.aload_n 0, 1) := by decide +kernel
theorem d_Law_law_2386 : decode code 2386 = .ok (.iload 4, 2) := by decide +kernel
theorem d_Law_law_2388 : decode code 2388 = .ok (.iconst 2, 1) := by decide +kernel
theorem d_Law_law_2389 : decode code 2389 = .ok (.iadd, 1) := by decide +kernel
theorem d_Law_law_2390 : decode code 2390 = .ok (.iaload, 1) := by decide +kernel
theorem d_Law_law_2391 : decode code 2391 = .ok (.aload_n 0, 1) := by decide +kernel
theorem d_Law_law_2392 : decode code 2392 = .ok (.iload 4, 2) := by decide +kernel
theorem d_Law_law_2394 : decode code 2394 = .ok (.iconst 3, 1) := by decide +kernel
theorem d_Law_law_2395 : decode code 2395 = .ok (.iadd, 1) := by decide +kernel
theorem d_Law_law_2396 : decode code 2396 = .ok (.iaload, 1) := by decide +kernel
theorem d_Law_law_2397 : decode code 2397 = .ok (.i2l, 1) := by decide +kernel
theorem d_Law_law_2398 : decode code 2398 = .ok (.bipush 32, 2) := by decide +kernel
theorem d_Law_law_2400 : decode code 2400 = .ok (.lshl, 1) := by decide +kernel
theorem d_Law_law_2401 : decode code 2401 = .ok (.aload_n 0, 1) := by decide +kernel
theorem d_Law_law_2402 : decode code 2402 = .ok (.iload 4, 2) := by decide +kernel
theorem d_Law_law_2404 : decode code 2404 = .ok (.iconst 4, 1) := by decide +kernel
theorem d_Law_law_2405 : decode code 2405 = .ok (.iadd, 1) := by decide +kernel
theorem d_Law_law_2406 : decode code 2406 = .ok (.iaload, 1) := by decide +kernel
theorem d_Law_law_2407 : decode code 2407 = .ok (.i2l, 1) := by decide +kernel
theorem tb_cj_Law_271 : mTB (Cond.constantLong "NineBarsLaw" 271 4294967295) := tbq9 86 (by decide +kernel) rfl
theorem d_Law_law_2408 : decode code 2408 = .ok (.ldc2_w 271, 3) := by decide +kernel
theorem d_Law_law_2411 : decode code 2411 = .ok (.land, 1) := by decide +kernel
theorem d_Law_law_2412 : decode code 2412 = .ok (.lor, 1) := by decide +kernel
theorem d_Law_law_2413 : decode code 2413 = .ok (.aload_n 3, 1) := by decide +kernel
theorem d_Law_law_2414 : decode code 2414 = .ok (.invokestatic 273, 3) := by decide +kernel
theorem tb_ml_Law_273 : mTB (Cond.methodLink "NineBarsLaw" 273 ⟨"NineBarsLaw", "write", "(LNineBars;IIJ[J)I"⟩) := tbq6 142 (by decide +kernel) rfl
theorem tb_sm_Law_write : mTB (Cond.static ⟨"NineBarsLaw", "write", "(LNineBars;IIJ[J)I"⟩) := tbq6 143 (by decide +kernel) rfl
theorem d_Law_law_2417 : decode code 2417 = .ok (.istore 5, 2) := by decide +kernel
theorem d_Law_law_2419 : decode code 2419 = .ok (.aload_n 2, 1) := by decide +kernel
theorem d_Law_law_2420 : decode code 2420 = .ok (.aload_n 0, 1) := by decide +kernel
theorem d_Law_law_2421 : decode code 2421 = .ok (.iload 4, 2) := by decide +kernel
theorem d_Law_law_2423 : decode code 2423 = .ok (.iconst 1, 1) := by decide +kernel
theorem d_Law_law_2424 : decode code 2424 = .ok (.iadd, 1) := by decide +kernel
theorem d_Law_law_2425 : decode code 2425 = .ok (.iaload, 1) := by decide +kernel
theorem d_Law_law_2426 : decode code 2426 = .ok (.aload_n 0, 1) := by decide +kernel
theorem d_Law_law_2427 : decode code 2427 = .ok (.iload 4, 2) := by decide +kernel
theorem d_Law_law_2429 : decode code 2429 = .ok (.iconst 2, 1) := by decide +kernel
theorem d_Law_law_2430 : decode code 2430 = .ok (.iadd, 1) := by decide +kernel
theorem d_Law_law_2431 : decode code 2431 = .ok (.iaload, 1) := by decide +kernel
theorem d_Law_law_2432 : decode code 2432 = .ok (.aload_n 0, 1) := by decide +kernel
theorem d_Law_law_2433 : decode code 2433 = .ok (.iload 4, 2) := by decide +kernel
theorem d_Law_law_2435 : decode code 2435 = .ok (.iconst 3, 1) := by decide +kernel
theorem d_Law_law_2436 : decode code 2436 = .ok (.iadd, 1) := by decide +kernel
theorem d_Law_law_2437 : decode code 2437 = .ok (.iaload, 1) := by decide +kernel
theorem d_Law_law_2438 : decode code 2438 = .ok (.i2l, 1) := by decide +kernel
theorem d_Law_law_2439 : decode code 2439 = .ok (.bipush 32, 2) := by decide +kernel
theorem d_Law_law_2441 : decode code 2441 = .ok (.lshl, 1) := by decide +kernel
theorem d_Law_law_2442 : decode code 2442 = .ok (.aload_n 0, 1) := by decide +kernel
theorem d_Law_law_2443 : decode code 2443 = .ok (.iload 4, 2) := by decide +kernel
theorem d_Law_law_2445 : decode code 2445 = .ok (.iconst 4, 1) := by decide +kernel
theorem d_Law_law_2446 : decode code 2446 = .ok (.iadd, 1) := by decide +kernel
theorem d_Law_law_2447 : decode code 2447 = .ok (.iaload, 1) := by decide +kernel
theorem d_Law_law_2448 : decode code 2448 = .ok (.i2l, 1) := by decide +kernel
theorem d_Law_law_2449 : decode code 2449 = .ok (.ldc2_w 271, 3) := by decide +kernel
theorem d_Law_law_2452 : decode code 2452 = .ok (.land, 1) := by decide +kernel
theorem d_Law_law_2453 : decode code 2453 = .ok (.lor, 1) := by decide +kernel
theorem d_Law_law_2454 : decode code 2454 = .ok (.invokevirtual 276, 3) := by decide +kernel
theorem tb_ml_Law_276 : mTB (Cond.methodLink "NineBarsLaw" 276 ⟨"NineBarsModel", "write", "(IIJ)J"⟩) := tbq9 62 (by decide +kernel) rfl
theorem tb_im_Md_write : mTB (Cond.instanceMethod ⟨"NineBarsModel", "write", "(IIJ)J"⟩) := tbq9 63 (by decide +kernel) rfl
theorem tb_se_Md_write : mTB (Cond.selects "NineBarsModel" ⟨"NineBarsModel", "write", "(IIJ)J"⟩ ⟨"NineBarsModel", "write", "(IIJ)J"⟩) := tbq9 64 (by decide +kernel) rfl
theorem mv_Md_write {M : mM} {idx : Nat} (h : mTB (Cond.methodLink (mO M) idx ⟨"NineBarsModel", "write", "(IIJ)J"⟩)) : mCaV M M_Md_write idx 11 := ⟨h, tb_im_Md_write, tb_se_Md_write, by decide, TX11, 40, rfl⟩
theorem d_Law_law_2457 : decode code 2457 = .ok (.lstore 6, 2) := by decide +kernel
theorem d_Law_law_2459 : decode code 2459 = .ok (.aload_n 2, 1) := by decide +kernel
theorem d_Law_law_2460 : decode code 2460 = .ok (.invokevirtual 146, 3) := by decide +kernel
theorem d_Law_law_2463 : decode code 2463 = .ok (.iload 5, 2) := by decide +kernel
theorem d_Law_law_2465 : decode code 2465 = .ok (.if_icmp .eq 5, 3) := by decide +kernel
theorem d_Law_law_2470 : decode code 2470 = .ok (.iload 5, 2) := by decide +kernel
theorem d_Law_law_2472 : decode code 2472 = .ok (.ifCond .ne 14, 3) := by decide +kernel
theorem d_Law_law_2486 : decode code 2486 = .ok (.goto 156, 3) := by decide +kernel
theorem d_Law_law_2475 : decode code 2475 = .ok (.aload_n 3, 1) := by decide +kernel
theorem d_Law_law_2476 : decode code 2476 = .ok (.iconst 0, 1) := by decide +kernel
theorem d_Law_law_2477 : decode code 2477 = .ok (.laload, 1) := by decide +kernel
theorem d_Law_law_2478 : decode code 2478 = .ok (.lload 6, 2) := by decide +kernel
theorem d_Law_law_2480 : decode code 2480 = .ok (.lcmp, 1) := by decide +kernel
theorem d_Law_law_2481 : decode code 2481 = .ok (.ifCond .eq 5, 3) := by decide +kernel
theorem d_Law_law_2484 : decode code 2484 = .ok (.iconst 0, 1) := by decide +kernel
theorem d_Law_law_2485 : decode code 2485 = .ok (.ireturn, 1) := by decide +kernel
theorem d_Law_law_2468 : decode code 2468 = .ok (.iconst 0, 1) := by decide +kernel
theorem d_Law_law_2469 : decode code 2469 = .ok (.ireturn, 1) := by decide +kernel
theorem d_Law_law_2489 : decode code 2489 = .ok (.aload_n 1, 1) := by decide +kernel
theorem d_Law_law_2490 : decode code 2490 = .ok (.aload_n 0, 1) := by decide +kernel
theorem d_Law_law_2491 : decode code 2491 = .ok (.iload 4, 2) := by decide +kernel
theorem d_Law_law_2493 : decode code 2493 = .ok (.iconst 1, 1) := by decide +kernel
theorem d_Law_law_2494 : decode code 2494 = .ok (.iadd, 1) := by decide +kernel
theorem d_Law_law_2495 : decode code 2495 = .ok (.iaload, 1) := by decide +kernel
theorem d_Law_law_2496 : decode code 2496 = .ok (.aload_n 3, 1) := by decide +kernel
theorem d_Law_law_2497 : decode code 2497 = .ok (.invokestatic 277, 3) := by decide +kernel
theorem tb_ml_Law_277 : mTB (Cond.methodLink "NineBarsLaw" 277 ⟨"NineBarsLaw", "pour", "(LNineBars;I[J)I"⟩) := tbq6 171 (by decide +kernel) rfl
theorem tb_sm_Law_pour : mTB (Cond.static ⟨"NineBarsLaw", "pour", "(LNineBars;I[J)I"⟩) := tbq6 172 (by decide +kernel) rfl
theorem d_Law_law_2500 : decode code 2500 = .ok (.istore 5, 2) := by decide +kernel
theorem d_Law_law_2502 : decode code 2502 = .ok (.aload_n 2, 1) := by decide +kernel
theorem d_Law_law_2503 : decode code 2503 = .ok (.aload_n 0, 1) := by decide +kernel
theorem d_Law_law_2504 : decode code 2504 = .ok (.iload 4, 2) := by decide +kernel
theorem d_Law_law_2506 : decode code 2506 = .ok (.iconst 1, 1) := by decide +kernel
theorem d_Law_law_2507 : decode code 2507 = .ok (.iadd, 1) := by decide +kernel
theorem d_Law_law_2508 : decode code 2508 = .ok (.iaload, 1) := by decide +kernel
theorem d_Law_law_2509 : decode code 2509 = .ok (.invokevirtual 279, 3) := by decide +kernel
theorem tb_ml_Law_279 : mTB (Cond.methodLink "NineBarsLaw" 279 ⟨"NineBarsModel", "pour", "(I)I"⟩) := tbq9 70 (by decide +kernel) rfl
theorem tb_im_Md_pour : mTB (Cond.instanceMethod ⟨"NineBarsModel", "pour", "(I)I"⟩) := tbq9 71 (by decide +kernel) rfl
theorem tb_se_Md_pour : mTB (Cond.selects "NineBarsModel" ⟨"NineBarsModel", "pour", "(I)I"⟩ ⟨"NineBarsModel", "pour", "(I)I"⟩) := tbq9 72 (by decide +kernel) rfl
theorem mv_Md_pour {M : mM} {idx : Nat} (h : mTB (Cond.methodLink (mO M) idx ⟨"NineBarsModel", "pour", "(I)I"⟩)) : mCaV M M_Md_pour idx 11 := ⟨h, tb_im_Md_pour, tb_se_Md_pour, by decide, TX11, 40, rfl⟩
theorem d_Law_law_2512 : decode code 2512 = .ok (.istore 6, 2) := by decide +kernel
theorem d_Law_law_2514 : decode code 2514 = .ok (.aload_n 2, 1) := by decide +kernel
theorem d_Law_law_2515 : decode code 2515 = .ok (.invokevirtual 146, 3) := by decide +kernel
theorem d_Law_law_2518 : decode code 2518 = .ok (.iload 5, 2) := by decide +kernel
theorem d_Law_law_2520 : decode code 2520 = .ok (.if_icmp .eq 5, 3) := by decide +kernel
theorem d_Law_law_2525 : decode code 2525 = .ok (.iload 5, 2) := by decide +kernel
theorem d_Law_law_2527 : decode code 2527 = .ok (.ifCond .ne 15, 3) := by decide +kernel
theorem d_Law_law_2542 : decode code 2542 = .ok (.goto 100, 3) := by decide +kernel
theorem d_Law_law_2530 : decode code 2530 = .ok (.aload_n 3, 1) := by decide +kernel
theorem d_Law_law_2531 : decode code 2531 = .ok (.iconst 0, 1) := by decide +kernel
theorem d_Law_law_2532 : decode code 2532 = .ok (.laload, 1) := by decide +kernel
theorem d_Law_law_2533 : decode code 2533 = .ok (.iload 6, 2) := by decide +kernel
theorem d_Law_law_2535 : decode code 2535 = .ok (.i2l, 1) := by decide +kernel
theorem d_Law_law_2536 : decode code 2536 = .ok (.lcmp, 1) := by decide +kernel
theorem d_Law_law_2537 : decode code 2537 = .ok (.ifCond .eq 5, 3) := by decide +kernel
theorem d_Law_law_2540 : decode code 2540 = .ok (.iconst 0, 1) := by decide +kernel
theorem d_Law_law_2541 : decode code 2541 = .ok (.ireturn, 1) := by decide +kernel
theorem d_Law_law_2523 : decode code 2523 = .ok (.iconst 0, 1) := by decide +kernel
theorem d_Law_law_2524 : decode code 2524 = .ok (.ireturn, 1) := by decide +kernel
theorem d_Law_law_2545 : decode code 2545 = .ok (.aload_n 1, 1) := by decide +kernel
theorem d_Law_law_2546 : decode code 2546 = .ok (.aload_n 0, 1) := by decide +kernel
theorem d_Law_law_2547 : decode code 2547 = .ok (.iload 4, 2) := by decide +kernel
theorem d_Law_law_2549 : decode code 2549 = .ok (.iconst 1, 1) := by decide +kernel
theorem d_Law_law_2550 : decode code 2550 = .ok (.iadd, 1) := by decide +kernel
theorem d_Law_law_2551 : decode code 2551 = .ok (.iaload, 1) := by decide +kernel
theorem d_Law_law_2552 : decode code 2552 = .ok (.invokestatic 280, 3) := by decide +kernel
theorem tb_ml_Law_280 : mTB (Cond.methodLink "NineBarsLaw" 280 ⟨"NineBarsLaw", "image", "(LNineBars;I)I"⟩) := tbq6 180 (by decide +kernel) rfl
theorem tb_sm_Law_image : mTB (Cond.static ⟨"NineBarsLaw", "image", "(LNineBars;I)I"⟩) := tbq6 181 (by decide +kernel) rfl
theorem d_Law_law_2555 : decode code 2555 = .ok (.istore 5, 2) := by decide +kernel
theorem d_Law_law_2557 : decode code 2557 = .ok (.aload_n 2, 1) := by decide +kernel
theorem d_Law_law_2558 : decode code 2558 = .ok (.aload_n 0, 1) := by decide +kernel
theorem d_Law_law_2559 : decode code 2559 = .ok (.iload 4, 2) := by decide +kernel
theorem d_Law_law_2561 : decode code 2561 = .ok (.iconst 1, 1) := by decide +kernel
theorem d_Law_law_2562 : decode code 2562 = .ok (.iadd, 1) := by decide +kernel
theorem d_Law_law_2563 : decode code 2563 = .ok (.iaload, 1) := by decide +kernel
theorem d_Law_law_2564 : decode code 2564 = .ok (.invokevirtual 283, 3) := by decide +kernel
theorem tb_ml_Law_283 : mTB (Cond.methodLink "NineBarsLaw" 283 ⟨"NineBarsModel", "image", "(I)V"⟩) := tbq9 74 (by decide +kernel) rfl
theorem tb_im_Md_image : mTB (Cond.instanceMethod ⟨"NineBarsModel", "image", "(I)V"⟩) := tbq9 75 (by decide +kernel) rfl
theorem tb_se_Md_image : mTB (Cond.selects "NineBarsModel" ⟨"NineBarsModel", "image", "(I)V"⟩ ⟨"NineBarsModel", "image", "(I)V"⟩) := tbq9 76 (by decide +kernel) rfl
theorem mv_Md_image {M : mM} {idx : Nat} (h : mTB (Cond.methodLink (mO M) idx ⟨"NineBarsModel", "image", "(I)V"⟩)) : mCaV M M_Md_image idx 11 := ⟨h, tb_im_Md_image, tb_se_Md_image, by decide, TX11, 40, rfl⟩
theorem d_Law_law_2567 : decode code 2567 = .ok (.aload_n 2, 1) := by decide +kernel
theorem d_Law_law_2568 : decode code 2568 = .ok (.invokevirtual 146, 3) := by decide +kernel
theorem d_Law_law_2571 : decode code 2571 = .ok (.iload 5, 2) := by decide +kernel
theorem d_Law_law_2573 : decode code 2573 = .ok (.if_icmp .eq 5, 3) := by decide +kernel
theorem d_Law_law_2578 : decode code 2578 = .ok (.goto 64, 3) := by decide +kernel
theorem d_Law_law_2576 : decode code 2576 = .ok (.iconst 0, 1) := by decide +kernel
theorem d_Law_law_2577 : decode code 2577 = .ok (.ireturn, 1) := by decide +kernel
theorem d_Law_law_2581 : decode code 2581 = .ok (.aload_n 1, 1) := by decide +kernel
theorem d_Law_law_2582 : decode code 2582 = .ok (.aload_n 0, 1) := by decide +kernel
theorem d_Law_law_2583 : decode code 2583 = .ok (.iload 4, 2) := by decide +kernel
theorem d_Law_law_2585 : decode code 2585 = .ok (.iconst 1, 1) := by decide +kernel
theorem d_Law_law_2586 : decode code 2586 = .ok (.iadd, 1) := by decide +kernel
theorem d_Law_law_2587 : decode code 2587 = .ok (.iaload, 1) := by decide +kernel
theorem d_Law_law_2588 : decode code 2588 = .ok (.invokestatic 284, 3) := by decide +kernel
theorem tb_ml_Law_284 : mTB (Cond.methodLink "NineBarsLaw" 284 ⟨"NineBarsLaw", "restore", "(LNineBars;I)I"⟩) := tbq6 192 (by decide +kernel) rfl
theorem tb_sm_Law_restore : mTB (Cond.static ⟨"NineBarsLaw", "restore", "(LNineBars;I)I"⟩) := tbq6 193 (by decide +kernel) rfl
theorem d_Law_law_2591 : decode code 2591 = .ok (.istore 5, 2) := by decide +kernel
theorem d_Law_law_2593 : decode code 2593 = .ok (.aload_n 2, 1) := by decide +kernel
theorem d_Law_law_2594 : decode code 2594 = .ok (.aload_n 0, 1) := by decide +kernel
theorem d_Law_law_2595 : decode code 2595 = .ok (.iload 4, 2) := by decide +kernel
theorem d_Law_law_2597 : decode code 2597 = .ok (.iconst 1, 1) := by decide +kernel
theorem d_Law_law_2598 : decode code 2598 = .ok (.iadd, 1) := by decide +kernel
theorem d_Law_law_2599 : decode code 2599 = .ok (.iaload, 1) := by decide +kernel
theorem d_Law_law_2600 : decode code 2600 = .ok (.invokevirtual 286, 3) := by decide +kernel
theorem tb_ml_Law_286 : mTB (Cond.methodLink "NineBarsLaw" 286 ⟨"NineBarsModel", "restore", "(I)V"⟩) := tbq9 78 (by decide +kernel) rfl
theorem tb_im_Md_restore : mTB (Cond.instanceMethod ⟨"NineBarsModel", "restore", "(I)V"⟩) := tbq9 79 (by decide +kernel) rfl
theorem tb_se_Md_restore : mTB (Cond.selects "NineBarsModel" ⟨"NineBarsModel", "restore", "(I)V"⟩ ⟨"NineBarsModel", "restore", "(I)V"⟩) := tbq9 80 (by decide +kernel) rfl
theorem mv_Md_restore {M : mM} {idx : Nat} (h : mTB (Cond.methodLink (mO M) idx ⟨"NineBarsModel", "restore", "(I)V"⟩)) : mCaV M M_Md_restore idx 11 := ⟨h, tb_im_Md_restore, tb_se_Md_restore, by decide, TX11, 40, rfl⟩
theorem d_Law_law_2603 : decode code 2603 = .ok (.aload_n 2, 1) := by decide +kernel
theorem d_Law_law_2604 : decode code 2604 = .ok (.invokevirtual 146, 3) := by decide +kernel
theorem d_Law_law_2607 : decode code 2607 = .ok (.iload 5, 2) := by decide +kernel
theorem d_Law_law_2609 : decode code 2609 = .ok (.if_icmp .eq 5, 3) := by decide +kernel
theorem d_Law_law_2614 : decode code 2614 = .ok (.goto 28, 3) := by decide +kernel
theorem d_Law_law_2612 : decode code 2612 = .ok (.iconst 0, 1) := by decide +kernel
theorem d_Law_law_2613 : decode code 2613 = .ok (.ireturn, 1) := by decide +kernel
theorem d_Law_law_2617 : decode code 2617 = .ok (.aload_n 1, 1) := by decide +kernel
theorem d_Law_law_2618 : decode code 2618 = .ok (.aload_n 0, 1) := by decide +kernel
theorem d_Law_law_2619 : decode code 2619 = .ok (.iload 4, 2) := by decide +kernel
theorem d_Law_law_2621 : decode code 2621 = .ok (.iconst 1, 1) := by decide +kernel
theorem d_Law_law_2622 : decode code 2622 = .ok (.iadd, 1) := by decide +kernel
theorem d_Law_law_2623 : decode code 2623 = .ok (.iaload, 1) := by decide +kernel
theorem d_Law_law_2624 : decode code 2624 = .ok (.invokevirtual 287, 3) := by decide +kernel
theorem tb_ml_Law_287 : mTB (Cond.methodLink "NineBarsLaw" 287 ⟨"NineBars", "count", "(I)I"⟩) := tbq3 133 (by decide +kernel) rfl
theorem tb_im_Nb_count : mTB (Cond.instanceMethod ⟨"NineBars", "count", "(I)I"⟩) := tbq3 134 (by decide +kernel) rfl
theorem tb_se_Nb_count : mTB (Cond.selects "NineBars" ⟨"NineBars", "count", "(I)I"⟩ ⟨"NineBars", "count", "(I)I"⟩) := tbq3 135 (by decide +kernel) rfl
theorem mv_Nb_count {M : mM} {idx : Nat} (h : mTB (Cond.methodLink (mO M) idx ⟨"NineBars", "count", "(I)I"⟩)) : mCaV M M_Nb_count idx 10 := ⟨h, tb_im_Nb_count, tb_se_Nb_count, by decide, TX10, 19, rfl⟩
theorem d_Law_law_2627 : decode code 2627 = .ok (.aload_n 2, 1) := by decide +kernel
theorem d_Law_law_2628 : decode code 2628 = .ok (.aload_n 0, 1) := by decide +kernel
theorem d_Law_law_2629 : decode code 2629 = .ok (.iload 4, 2) := by decide +kernel
theorem d_Law_law_2631 : decode code 2631 = .ok (.iconst 1, 1) := by decide +kernel
theorem d_Law_law_2632 : decode code 2632 = .ok (.iadd, 1) := by decide +kernel
theorem d_Law_law_2633 : decode code 2633 = .ok (.iaload, 1) := by decide +kernel
theorem d_Law_law_2634 : decode code 2634 = .ok (.invokevirtual 290, 3) := by decide +kernel
theorem tb_ml_Law_290 : mTB (Cond.methodLink "NineBarsLaw" 290 ⟨"NineBarsModel", "count", "(I)I"⟩) := tbq9 82 (by decide +kernel) rfl
theorem tb_im_Md_count : mTB (Cond.instanceMethod ⟨"NineBarsModel", "count", "(I)I"⟩) := tbq9 83 (by decide +kernel) rfl
theorem tb_se_Md_count : mTB (Cond.selects "NineBarsModel" ⟨"NineBarsModel", "count", "(I)I"⟩ ⟨"NineBarsModel", "count", "(I)I"⟩) := tbq9 84 (by decide +kernel) rfl
theorem mv_Md_count {M : mM} {idx : Nat} (h : mTB (Cond.methodLink (mO M) idx ⟨"NineBarsModel", "count", "(I)I"⟩)) : mCaV M M_Md_count idx 11 := ⟨h, tb_im_Md_count, tb_se_Md_count, by decide, TX11, 40, rfl⟩
theorem d_Law_law_2637 : decode code 2637 = .ok (.if_icmp .eq 5, 3) := by decide +kernel
theorem d_Law_law_2640 : decode code 2640 = .ok (.iconst 0, 1) := by decide +kernel
theorem d_Law_law_2641 : decode code 2641 = .ok (.ireturn, 1) := by decide +kernel
theorem t_Law_law_J2642 {G : mG} {r : mR} {v1 v2 v3 v4 : Int} {h : mH} {R23 : mH → Int → Option mR} (hR23 : ∀ (h : mH) (w4 : Int) , R23 h w4 = some r → mJ G M_Law_law 23 [(2, (-1)), (2, v1), (2, v2), (2, v3), (0, w4), (9, 0), (9, 0), (9, 0)] [] h r) (hr : f_Law_law_J2642 G R23 v4 h = some r) : mJ G M_Law_law 2642 [(2, (-1)), (2, v1), (2, v2), (2, v3), (0, v4), (9, 0), (9, 0), (9, 0)] [] h r := by
  unfold f_Law_law_J2642 at hr
  refine j_iincW (pc := 2642) (L := fun x1 => [(2, (-1)), (2, v1), (2, v2), (2, v3), (0, x1), (9, 0), (9, 0), (9, 0)]) d_Law_law_2642 rfl (fun _ => rfl) hr (fun x1 hr => ?_)
  refine j_goto (pc := 2645) (tgt := 23) d_Law_law_2645 ?_
  exact mJ_weak (ls' := [(2, (-1)), (2, v1), (2, v2), (2, v3), (0, x1), (9, 0), (9, 0), (9, 0)]) (mwk_s (mwk_s (mwk_s (mwk_s (mwk_s (mwk_s (mwk_s (mwk_s mwk_n)))))))) (hR23 h _ hr)
theorem t_Law_law_J228 {G : mG} {r : mR} {v1 v2 v3 v4 : Int} {h : mH} {R23 : mH → Int → Option mR} (hR23 : ∀ (h : mH) (w4 : Int) , R23 h w4 = some r → mJ G M_Law_law 23 [(2, (-1)), (2, v1), (2, v2), (2, v3), (0, w4), (9, 0), (9, 0), (9, 0)] [] h r) (hr : f_Law_law_J228 G R23 v1 v2 v4 h = some r) : mJ G M_Law_law 228 [(2, (-1)), (2, v1), (2, v2), (2, v3), (0, v4), (9, 0), (9, 0), (9, 0)] [] h r := by
  unfold f_Law_law_J228 at hr
  refine j_aload_n (pc := 228) d_Law_law_228 rfl ?_
  refine j_aload_n (pc := 229) d_Law_law_229 rfl ?_
  refine j_iload (pc := 230) d_Law_law_230 rfl ?_
  refine j_iconst (pc := 232) d_Law_law_232 ?_
  refine j_iadd (pc := 233) d_Law_law_233 ?_
  refine j_sload (pc := 234) d_Law_law_234 hr (fun hr => ?_)
  refine j_aload_n (pc := 235) d_Law_law_235 rfl ?_
  refine j_iload (pc := 236) d_Law_law_236 rfl ?_
  refine j_iconst (pc := 238) d_Law_law_238 ?_
  refine j_iadd (pc := 239) d_Law_law_239 ?_
  refine j_sload (pc := 240) d_Law_law_240 hr (fun hr => ?_)
  refine j_aload_n (pc := 241) d_Law_law_241 rfl ?_
  refine j_iload (pc := 242) d_Law_law_242 rfl ?_
  refine j_iconst (pc := 244) d_Law_law_244 ?_
  refine j_iadd (pc := 245) d_Law_law_245 ?_
  refine j_sload (pc := 246) d_Law_law_246 hr (fun hr => ?_)
  refine j_aload_n (pc := 247) d_Law_law_247 rfl ?_
  refine j_iload (pc := 248) d_Law_law_248 rfl ?_
  refine j_iconst (pc := 250) d_Law_law_250 ?_
  refine j_iadd (pc := 251) d_Law_law_251 ?_
  refine j_sload (pc := 252) d_Law_law_252 hr (fun hr => ?_)
  refine j_aload_n (pc := 253) d_Law_law_253 rfl ?_
  refine j_iload (pc := 254) d_Law_law_254 rfl ?_
  refine j_iconst (pc := 256) d_Law_law_256 ?_
  refine j_iadd (pc := 257) d_Law_law_257 ?_
  refine j_sload (pc := 258) d_Law_law_258 hr (fun hr => ?_)
  obtain ⟨ha, hr⟩ := chk_some hr
  refine j_callG (pc := 259) (stk := [(0, gX G (w32 (v4 + 5))), (0, gX G (w32 (v4 + 4))), (0, gX G (w32 (v4 + 3))), (0, gX G (w32 (v4 + 2))), (0, gX G (w32 (v4 + 1))), (2, v1)]) (as := [(2, v1), (0, gX G (w32 (v4 + 1))), (0, gX G (w32 (v4 + 2))), (0, gX G (w32 (v4 + 3))), (0, gX G (w32 (v4 + 4))), (0, gX G (w32 (v4 + 5)))]) (P := (fun v9 => ((0 : Nat), v9) :: [])) (tg := 0) (My := M_Nb_feed) (mRunV (as := [(0, gX G (w32 (v4 + 1))), (0, gX G (w32 (v4 + 2))), (0, gX G (w32 (v4 + 3))), (0, gX G (w32 (v4 + 4))), (0, gX G (w32 (v4 + 5)))]) (st := []) d_Law_law_259 (mc_Nb_feed (by decide)) rfl (mv_Nb_feed tb_ml_Law_135) rfl (Nat.le_of_ble_eq_true rfl) ha) (fun v => rfl) rfl hr (fun r1 h1 => t_Nb_feed _ _ _ _ _ _ _ _ h1) (fun x2 h1 hr => ?_)
  refine j_aload_n (pc := 262) d_Law_law_262 rfl ?_
  refine j_aload_n (pc := 263) d_Law_law_263 rfl ?_
  refine j_iload (pc := 264) d_Law_law_264 rfl ?_
  refine j_iconst (pc := 266) d_Law_law_266 ?_
  refine j_iadd (pc := 267) d_Law_law_267 ?_
  refine j_sload (pc := 268) d_Law_law_268 hr (fun hr => ?_)
  refine j_aload_n (pc := 269) d_Law_law_269 rfl ?_
  refine j_iload (pc := 270) d_Law_law_270 rfl ?_
  refine j_iconst (pc := 272) d_Law_law_272 ?_
  refine j_iadd (pc := 273) d_Law_law_273 ?_
  refine j_sload (pc := 274) d_Law_law_274 hr (fun hr => ?_)
  refine j_aload_n (pc := 275) d_Law_law_275 rfl ?_
  refine j_iload (pc := 276) d_Law_law_276 rfl ?_
  refine j_iconst (pc := 278) d_Law_law_278 ?_
  refine j_iadd (pc := 279) d_Law_law_279 ?_
  refine j_sload (pc := 280) d_Law_law_280 hr (fun hr => ?_)
  refine j_aload_n (pc := 281) d_Law_law_281 rfl ?_
  refine j_iload (pc := 282) d_Law_law_282 rfl ?_
  refine j_iconst (pc := 284) d_Law_law_284 ?_
  refine j_iadd (pc := 285) d_Law_law_285 ?_
  refine j_sload (pc := 286) d_Law_law_286 hr (fun hr => ?_)
  refine j_aload_n (pc := 287) d_Law_law_287 rfl ?_
  refine j_iload (pc := 288) d_Law_law_288 rfl ?_
  refine j_iconst (pc := 290) d_Law_law_290 ?_
  refine j_iadd (pc := 291) d_Law_law_291 ?_
  refine j_sload (pc := 292) d_Law_law_292 hr (fun hr => ?_)
  obtain ⟨ha, hr⟩ := chk_some hr
  refine j_callG (pc := 293) (stk := [(0, gX G (w32 (v4 + 5))), (0, gX G (w32 (v4 + 4))), (0, gX G (w32 (v4 + 3))), (0, gX G (w32 (v4 + 2))), (0, gX G (w32 (v4 + 1))), (2, v2), (0, x2)]) (as := [(2, v2), (0, gX G (w32 (v4 + 1))), (0, gX G (w32 (v4 + 2))), (0, gX G (w32 (v4 + 3))), (0, gX G (w32 (v4 + 4))), (0, gX G (w32 (v4 + 5)))]) (P := (fun v9 => ((0 : Nat), v9) :: [(0, x2)])) (tg := 0) (My := M_Md_feed) (mRunV (as := [(0, gX G (w32 (v4 + 1))), (0, gX G (w32 (v4 + 2))), (0, gX G (w32 (v4 + 3))), (0, gX G (w32 (v4 + 4))), (0, gX G (w32 (v4 + 5)))]) (st := [(0, x2)]) d_Law_law_293 (mc_Md_feed (by decide)) rfl (mv_Md_feed tb_ml_Law_139) rfl (Nat.le_of_ble_eq_true rfl) ha) (fun v => rfl) rfl hr (fun r1 h1 => t_Md_feed _ _ _ _ _ _ _ _ h1) (fun x4 h3 hr => ?_)
  refine j_icmp_eq (pc := 296) (tgt := 2642) d_Law_law_296 hr (fun hr => ?_) (fun hr => ?_)
  · exact mJ_weak (ls' := [(2, (-1)), (2, v1), (2, v2), (2, v3), (0, v4), (9, 0), (9, 0), (9, 0)]) (mwk_s (mwk_s (mwk_s (mwk_s (mwk_s (mwk_s (mwk_s (mwk_s mwk_n)))))))) (t_Law_law_J2642 hR23 hr)
  · refine j_iconst (pc := 299) d_Law_law_299 ?_
    exact j_zret (pc := 300) d_Law_law_300 rfl hr
theorem t_Law_law_J354 {G : mG} {r : mR} {v1 v2 v3 v4 : Int} {h : mH} {R23 : mH → Int → Option mR} (hR23 : ∀ (h : mH) (w4 : Int) , R23 h w4 = some r → mJ G M_Law_law 23 [(2, (-1)), (2, v1), (2, v2), (2, v3), (0, w4), (9, 0), (9, 0), (9, 0)] [] h r) (hr : f_Law_law_J354 G R23 v4 h = some r) : mJ G M_Law_law 354 [(2, (-1)), (2, v1), (2, v2), (2, v3), (0, v4), (9, 0), (9, 0), (9, 0)] [] h r := by
  unfold f_Law_law_J354 at hr
  refine j_goto (pc := 354) (tgt := 2642) d_Law_law_354 ?_
  exact mJ_weak (ls' := [(2, (-1)), (2, v1), (2, v2), (2, v3), (0, v4), (9, 0), (9, 0), (9, 0)]) (mwk_s (mwk_s (mwk_s (mwk_s (mwk_s (mwk_s (mwk_s (mwk_s mwk_n)))))))) (t_Law_law_J2642 hR23 hr)
theorem t_Law_law_J301 {G : mG} {r : mR} {v1 v2 v3 v4 : Int} {h : mH} {R23 : mH → Int → Option mR} (hR23 : ∀ (h : mH) (w4 : Int) , R23 h w4 = some r → mJ G M_Law_law 23 [(2, (-1)), (2, v1), (2, v2), (2, v3), (0, w4), (9, 0), (9, 0), (9, 0)] [] h r) (hr : f_Law_law_J301 G R23 v1 v2 v3 v4 h = some r) : mJ G M_Law_law 301 [(2, (-1)), (2, v1), (2, v2), (2, v3), (0, v4), (9, 0), (9, 0), (9, 0)] [] h r := by
  unfold f_Law_law_J301 at hr
  refine j_aload_n (pc := 301) d_Law_law_301 rfl ?_
  refine j_aload_n (pc := 302) d_Law_law_302 rfl ?_
  refine j_iload (pc := 303) d_Law_law_303 rfl ?_
  refine j_iconst (pc := 305) d_Law_law_305 ?_
  refine j_iadd (pc := 306) d_Law_law_306 ?_
  refine j_sload (pc := 307) d_Law_law_307 hr (fun hr => ?_)
  refine j_aload_n (pc := 308) d_Law_law_308 rfl ?_
  refine j_callR (pc := 309) (stk := [(2, v3), (0, gX G (w32 (v4 + 1))), (2, v1)]) (as := [(2, v1), (0, gX G (w32 (v4 + 1))), (2, v3)]) (P := (fun v9 => ((0 : Nat), v9) :: [])) (tg := 0) (My := M_Law_box) (by decide) (mRunW (as := [(2, v1), (0, gX G (w32 (v4 + 1))), (2, v3)]) (st := []) d_Law_law_309 (mc_Law_box (by decide)) (by decide) ⟨tb_ml_Law_140, tb_sm_Law_box⟩ rfl (Nat.le_of_ble_eq_true rfl)) (fun v => rfl) hr (fun r1 h1 => t_Law_box _ _ _ _ _ h1) (fun x2 h1 hr => ?_)
  refine j_istore (pc := 312) (ls' := [(2, (-1)), (2, v1), (2, v2), (2, v3), (0, v4), (0, x2), (9, 0), (9, 0)]) d_Law_law_312 rfl ?_
  refine j_aload_n (pc := 314) d_Law_law_314 rfl ?_
  refine j_aload_n (pc := 315) d_Law_law_315 rfl ?_
  refine j_iload (pc := 316) d_Law_law_316 rfl ?_
  refine j_iconst (pc := 318) d_Law_law_318 ?_
  refine j_iadd (pc := 319) d_Law_law_319 ?_
  refine j_sload (pc := 320) d_Law_law_320 hr (fun hr => ?_)
  obtain ⟨ha, hr⟩ := chk_some hr
  refine j_callG (pc := 321) (stk := [(0, gX G (w32 (v4 + 1))), (2, v2)]) (as := [(2, v2), (0, gX G (w32 (v4 + 1)))]) (P := (fun v9 => ((0 : Nat), v9) :: [])) (tg := 0) (My := M_Md_box) (mRunV (as := [(0, gX G (w32 (v4 + 1)))]) (st := []) d_Law_law_321 (mc_Md_box (by decide)) rfl (mv_Md_box tb_ml_Law_145) rfl (Nat.le_of_ble_eq_true rfl) ha) (fun v => rfl) rfl hr (fun r1 h1 => t_Md_box _ _ _ _ h1) (fun x4 h3 hr => ?_)
  refine j_istore (pc := 324) (ls' := [(2, (-1)), (2, v1), (2, v2), (2, v3), (0, v4), (0, x2), (0, x4), (9, 0)]) d_Law_law_324 rfl ?_
  refine j_aload_n (pc := 326) d_Law_law_326 rfl ?_
  obtain ⟨ha, hr⟩ := chk_some hr
  refine j_callG (pc := 327) (stk := [(2, v2)]) (as := [(2, v2)]) (P := (fun v9 => ((0 : Nat), v9) :: [])) (tg := 0) (My := M_Md_thrown) (mRunV (as := []) (st := []) d_Law_law_327 (mc_Md_thrown (by decide)) rfl (mv_Md_thrown tb_ml_Law_146) rfl (Nat.le_of_ble_eq_true rfl) ha) (fun v => rfl) rfl hr (fun r1 h1 => t_Md_thrown _ _ _ h1) (fun x6 h5 hr => ?_)
  refine j_iload (pc := 330) d_Law_law_330 rfl ?_
  refine j_icmp_eq (pc := 332) (tgt := 337) d_Law_law_332 hr (fun hr => ?_) (fun hr => ?_)
  · refine j_iload (pc := 337) d_Law_law_337 rfl ?_
    refine j_if_ne (pc := 339) (tgt := 354) d_Law_law_339 hr (fun hr => ?_) (fun hr => ?_)
    · exact mJ_weak (ls' := [(2, (-1)), (2, v1), (2, v2), (2, v3), (0, v4), (9, 0), (9, 0), (9, 0)]) (mwk_s (mwk_s (mwk_s (mwk_s (mwk_s (mwk_d (mwk_d (mwk_s mwk_n)))))))) (t_Law_law_J354 hR23 hr)
    · refine j_aload_n (pc := 342) d_Law_law_342 rfl ?_
      refine j_iconst (pc := 343) d_Law_law_343 ?_
      refine j_laload (pc := 344) d_Law_law_344 hr (fun hr => ?_)
      refine j_iload (pc := 345) d_Law_law_345 rfl ?_
      refine j_i2l (pc := 347) d_Law_law_347 ?_
      refine j_lcmp (pc := 348) d_Law_law_348 ?_
      refine j_if_eq (pc := 349) (tgt := 354) d_Law_law_349 hr (fun hr => ?_) (fun hr => ?_)
      · exact mJ_weak (ls' := [(2, (-1)), (2, v1), (2, v2), (2, v3), (0, v4), (9, 0), (9, 0), (9, 0)]) (mwk_s (mwk_s (mwk_s (mwk_s (mwk_s (mwk_d (mwk_d (mwk_s mwk_n)))))))) (t_Law_law_J354 hR23 hr)
      · refine j_iconst (pc := 352) d_Law_law_352 ?_
        exact j_zret (pc := 353) d_Law_law_353 rfl hr
  · refine j_iconst (pc := 335) d_Law_law_335 ?_
    exact j_zret (pc := 336) d_Law_law_336 rfl hr
theorem t_Law_law_J357 {G : mG} {r : mR} {v1 v2 v3 v4 : Int} {h : mH} {R23 : mH → Int → Option mR} (hR23 : ∀ (h : mH) (w4 : Int) , R23 h w4 = some r → mJ G M_Law_law 23 [(2, (-1)), (2, v1), (2, v2), (2, v3), (0, w4), (9, 0), (9, 0), (9, 0)] [] h r) (hr : f_Law_law_J357 G R23 v1 v2 v4 h = some r) : mJ G M_Law_law 357 [(2, (-1)), (2, v1), (2, v2), (2, v3), (0, v4), (9, 0), (9, 0), (9, 0)] [] h r := by
  unfold f_Law_law_J357 at hr
  refine j_aload_n (pc := 357) d_Law_law_357 rfl ?_
  refine j_aload_n (pc := 358) d_Law_law_358 rfl ?_
  refine j_iload (pc := 359) d_Law_law_359 rfl ?_
  refine j_iconst (pc := 361) d_Law_law_361 ?_
  refine j_iadd (pc := 362) d_Law_law_362 ?_
  refine j_sload (pc := 363) d_Law_law_363 hr (fun hr => ?_)
  obtain ⟨ha, hr⟩ := chk_some hr
  refine j_callG (pc := 364) (stk := [(0, gX G (w32 (v4 + 1))), (2, v1)]) (as := [(2, v1), (0, gX G (w32 (v4 + 1)))]) (P := (fun v9 => ((0 : Nat), v9) :: [])) (tg := 0) (My := M_Nb_fault) (mRunV (as := [(0, gX G (w32 (v4 + 1)))]) (st := []) d_Law_law_364 (mc_Nb_fault (by decide)) rfl (mv_Nb_fault tb_ml_Law_149) rfl (Nat.le_of_ble_eq_true rfl) ha) (fun v => rfl) rfl hr (fun r1 h1 => t_Nb_fault _ _ _ _ h1) (fun x2 h1 hr => ?_)
  refine j_aload_n (pc := 367) d_Law_law_367 rfl ?_
  refine j_aload_n (pc := 368) d_Law_law_368 rfl ?_
  refine j_iload (pc := 369) d_Law_law_369 rfl ?_
  refine j_iconst (pc := 371) d_Law_law_371 ?_
  refine j_iadd (pc := 372) d_Law_law_372 ?_
  refine j_sload (pc := 373) d_Law_law_373 hr (fun hr => ?_)
  obtain ⟨ha, hr⟩ := chk_some hr
  refine j_callG (pc := 374) (stk := [(0, gX G (w32 (v4 + 1))), (2, v2), (0, x2)]) (as := [(2, v2), (0, gX G (w32 (v4 + 1)))]) (P := (fun v9 => ((0 : Nat), v9) :: [(0, x2)])) (tg := 0) (My := M_Md_fault) (mRunV (as := [(0, gX G (w32 (v4 + 1)))]) (st := [(0, x2)]) d_Law_law_374 (mc_Md_fault (by decide)) rfl (mv_Md_fault tb_ml_Law_152) rfl (Nat.le_of_ble_eq_true rfl) ha) (fun v => rfl) rfl hr (fun r1 h1 => t_Md_fault _ _ _ _ h1) (fun x4 h3 hr => ?_)
  refine j_icmp_eq (pc := 377) (tgt := 2642) d_Law_law_377 hr (fun hr => ?_) (fun hr => ?_)
  · exact mJ_weak (ls' := [(2, (-1)), (2, v1), (2, v2), (2, v3), (0, v4), (9, 0), (9, 0), (9, 0)]) (mwk_s (mwk_s (mwk_s (mwk_s (mwk_s (mwk_s (mwk_s (mwk_s mwk_n)))))))) (t_Law_law_J2642 hR23 hr)
  · refine j_iconst (pc := 380) d_Law_law_380 ?_
    exact j_zret (pc := 381) d_Law_law_381 rfl hr
theorem t_Law_law_J447 {G : mG} {r : mR} {v1 v2 v3 v4 : Int} {h : mH} {R23 : mH → Int → Option mR} (hR23 : ∀ (h : mH) (w4 : Int) , R23 h w4 = some r → mJ G M_Law_law 23 [(2, (-1)), (2, v1), (2, v2), (2, v3), (0, w4), (9, 0), (9, 0), (9, 0)] [] h r) (hr : f_Law_law_J447 G R23 v4 h = some r) : mJ G M_Law_law 447 [(2, (-1)), (2, v1), (2, v2), (2, v3), (0, v4), (9, 0), (9, 0), (9, 0)] [] h r := by
  unfold f_Law_law_J447 at hr
  refine j_goto (pc := 447) (tgt := 2642) d_Law_law_447 ?_
  exact mJ_weak (ls' := [(2, (-1)), (2, v1), (2, v2), (2, v3), (0, v4), (9, 0), (9, 0), (9, 0)]) (mwk_s (mwk_s (mwk_s (mwk_s (mwk_s (mwk_s (mwk_s (mwk_s mwk_n)))))))) (t_Law_law_J2642 hR23 hr)
theorem t_Law_law_J382 {G : mG} {r : mR} {v1 v2 v3 v4 : Int} {h : mH} {R23 : mH → Int → Option mR} (hR23 : ∀ (h : mH) (w4 : Int) , R23 h w4 = some r → mJ G M_Law_law 23 [(2, (-1)), (2, v1), (2, v2), (2, v3), (0, w4), (9, 0), (9, 0), (9, 0)] [] h r) (hr : f_Law_law_J382 G R23 v1 v2 v3 v4 h = some r) : mJ G M_Law_law 382 [(2, (-1)), (2, v1), (2, v2), (2, v3), (0, v4), (9, 0), (9, 0), (9, 0)] [] h r := by
  unfold f_Law_law_J382 at hr
  refine j_aload_n (pc := 382) d_Law_law_382 rfl ?_
  refine j_aload_n (pc := 383) d_Law_law_383 rfl ?_
  refine j_iload (pc := 384) d_Law_law_384 rfl ?_
  refine j_iconst (pc := 386) d_Law_law_386 ?_
  refine j_iadd (pc := 387) d_Law_law_387 ?_
  refine j_sload (pc := 388) d_Law_law_388 hr (fun hr => ?_)
  refine j_aload_n (pc := 389) d_Law_law_389 rfl ?_
  refine j_iload (pc := 390) d_Law_law_390 rfl ?_
  refine j_iconst (pc := 392) d_Law_law_392 ?_
  refine j_iadd (pc := 393) d_Law_law_393 ?_
  refine j_sload (pc := 394) d_Law_law_394 hr (fun hr => ?_)
  refine j_aload_n (pc := 395) d_Law_law_395 rfl ?_
  refine j_callR (pc := 396) (stk := [(2, v3), (0, gX G (w32 (v4 + 2))), (0, gX G (w32 (v4 + 1))), (2, v1)]) (as := [(2, v1), (0, gX G (w32 (v4 + 1))), (0, gX G (w32 (v4 + 2))), (2, v3)]) (P := (fun v9 => ((0 : Nat), v9) :: [])) (tg := 0) (My := M_Law_bar) (by decide) (mRunW (as := [(2, v1), (0, gX G (w32 (v4 + 1))), (0, gX G (w32 (v4 + 2))), (2, v3)]) (st := []) d_Law_law_396 (mc_Law_bar (by decide)) (by decide) ⟨tb_ml_Law_153, tb_sm_Law_bar⟩ rfl (Nat.le_of_ble_eq_true rfl)) (fun v => rfl) hr (fun r1 h1 => t_Law_bar _ _ _ _ _ _ h1) (fun x2 h1 hr => ?_)
  refine j_istore (pc := 399) (ls' := [(2, (-1)), (2, v1), (2, v2), (2, v3), (0, v4), (0, x2), (9, 0), (9, 0)]) d_Law_law_399 rfl ?_
  refine j_aload_n (pc := 401) d_Law_law_401 rfl ?_
  refine j_aload_n (pc := 402) d_Law_law_402 rfl ?_
  refine j_iload (pc := 403) d_Law_law_403 rfl ?_
  refine j_iconst (pc := 405) d_Law_law_405 ?_
  refine j_iadd (pc := 406) d_Law_law_406 ?_
  refine j_sload (pc := 407) d_Law_law_407 hr (fun hr => ?_)
  refine j_aload_n (pc := 408) d_Law_law_408 rfl ?_
  refine j_iload (pc := 409) d_Law_law_409 rfl ?_
  refine j_iconst (pc := 411) d_Law_law_411 ?_
  refine j_iadd (pc := 412) d_Law_law_412 ?_
  refine j_sload (pc := 413) d_Law_law_413 hr (fun hr => ?_)
  obtain ⟨ha, hr⟩ := chk_some hr
  refine j_callG (pc := 414) (stk := [(0, gX G (w32 (v4 + 2))), (0, gX G (w32 (v4 + 1))), (2, v2)]) (as := [(2, v2), (0, gX G (w32 (v4 + 1))), (0, gX G (w32 (v4 + 2)))]) (P := (fun v9 => ((0 : Nat), v9) :: [])) (tg := 0) (My := M_Md_bar) (mRunV (as := [(0, gX G (w32 (v4 + 1))), (0, gX G (w32 (v4 + 2)))]) (st := []) d_Law_law_414 (mc_Md_bar (by decide)) rfl (mv_Md_bar tb_ml_Law_156) rfl (Nat.le_of_ble_eq_true rfl) ha) (fun v => rfl) rfl hr (fun r1 h1 => t_Md_bar _ _ _ _ _ h1) (fun x4 h3 hr => ?_)
  refine j_istore (pc := 417) (ls' := [(2, (-1)), (2, v1), (2, v2), (2, v3), (0, v4), (0, x2), (0, x4), (9, 0)]) d_Law_law_417 rfl ?_
  refine j_aload_n (pc := 419) d_Law_law_419 rfl ?_
  obtain ⟨ha, hr⟩ := chk_some hr
  refine j_callG (pc := 420) (stk := [(2, v2)]) (as := [(2, v2)]) (P := (fun v9 => ((0 : Nat), v9) :: [])) (tg := 0) (My := M_Md_thrown) (mRunV (as := []) (st := []) d_Law_law_420 (mc_Md_thrown (by decide)) rfl (mv_Md_thrown tb_ml_Law_146) rfl (Nat.le_of_ble_eq_true rfl) ha) (fun v => rfl) rfl hr (fun r1 h1 => t_Md_thrown _ _ _ h1) (fun x6 h5 hr => ?_)
  refine j_iload (pc := 423) d_Law_law_423 rfl ?_
  refine j_icmp_eq (pc := 425) (tgt := 430) d_Law_law_425 hr (fun hr => ?_) (fun hr => ?_)
  · refine j_iload (pc := 430) d_Law_law_430 rfl ?_
    refine j_if_ne (pc := 432) (tgt := 447) d_Law_law_432 hr (fun hr => ?_) (fun hr => ?_)
    · exact mJ_weak (ls' := [(2, (-1)), (2, v1), (2, v2), (2, v3), (0, v4), (9, 0), (9, 0), (9, 0)]) (mwk_s (mwk_s (mwk_s (mwk_s (mwk_s (mwk_d (mwk_d (mwk_s mwk_n)))))))) (t_Law_law_J447 hR23 hr)
    · refine j_aload_n (pc := 435) d_Law_law_435 rfl ?_
      refine j_iconst (pc := 436) d_Law_law_436 ?_
      refine j_laload (pc := 437) d_Law_law_437 hr (fun hr => ?_)
      refine j_iload (pc := 438) d_Law_law_438 rfl ?_
      refine j_i2l (pc := 440) d_Law_law_440 ?_
      refine j_lcmp (pc := 441) d_Law_law_441 ?_
      refine j_if_eq (pc := 442) (tgt := 447) d_Law_law_442 hr (fun hr => ?_) (fun hr => ?_)
      · exact mJ_weak (ls' := [(2, (-1)), (2, v1), (2, v2), (2, v3), (0, v4), (9, 0), (9, 0), (9, 0)]) (mwk_s (mwk_s (mwk_s (mwk_s (mwk_s (mwk_d (mwk_d (mwk_s mwk_n)))))))) (t_Law_law_J447 hR23 hr)
      · refine j_iconst (pc := 445) d_Law_law_445 ?_
        exact j_zret (pc := 446) d_Law_law_446 rfl hr
  · refine j_iconst (pc := 428) d_Law_law_428 ?_
    exact j_zret (pc := 429) d_Law_law_429 rfl hr
theorem t_Law_law_J515 {G : mG} {r : mR} {v1 v2 v3 v4 : Int} {h : mH} {R23 : mH → Int → Option mR} (hR23 : ∀ (h : mH) (w4 : Int) , R23 h w4 = some r → mJ G M_Law_law 23 [(2, (-1)), (2, v1), (2, v2), (2, v3), (0, w4), (9, 0), (9, 0), (9, 0)] [] h r) (hr : f_Law_law_J515 G R23 v4 h = some r) : mJ G M_Law_law 515 [(2, (-1)), (2, v1), (2, v2), (2, v3), (0, v4), (9, 0), (9, 0), (9, 0)] [] h r := by
  unfold f_Law_law_J515 at hr
  refine j_goto (pc := 515) (tgt := 2642) d_Law_law_515 ?_
  exact mJ_weak (ls' := [(2, (-1)), (2, v1), (2, v2), (2, v3), (0, v4), (9, 0), (9, 0), (9, 0)]) (mwk_s (mwk_s (mwk_s (mwk_s (mwk_s (mwk_s (mwk_s (mwk_s mwk_n)))))))) (t_Law_law_J2642 hR23 hr)
theorem t_Law_law_J450 {G : mG} {r : mR} {v1 v2 v3 v4 : Int} {h : mH} {R23 : mH → Int → Option mR} (hR23 : ∀ (h : mH) (w4 : Int) , R23 h w4 = some r → mJ G M_Law_law 23 [(2, (-1)), (2, v1), (2, v2), (2, v3), (0, w4), (9, 0), (9, 0), (9, 0)] [] h r) (hr : f_Law_law_J450 G R23 v1 v2 v3 v4 h = some r) : mJ G M_Law_law 450 [(2, (-1)), (2, v1), (2, v2), (2, v3), (0, v4), (9, 0), (9, 0), (9, 0)] [] h r := by
  unfold f_Law_law_J450 at hr
  refine j_aload_n (pc := 450) d_Law_law_450 rfl ?_
  refine j_aload_n (pc := 451) d_Law_law_451 rfl ?_
  refine j_iload (pc := 452) d_Law_law_452 rfl ?_
  refine j_iconst (pc := 454) d_Law_law_454 ?_
  refine j_iadd (pc := 455) d_Law_law_455 ?_
  refine j_sload (pc := 456) d_Law_law_456 hr (fun hr => ?_)
  refine j_aload_n (pc := 457) d_Law_law_457 rfl ?_
  refine j_iload (pc := 458) d_Law_law_458 rfl ?_
  refine j_iconst (pc := 460) d_Law_law_460 ?_
  refine j_iadd (pc := 461) d_Law_law_461 ?_
  refine j_sload (pc := 462) d_Law_law_462 hr (fun hr => ?_)
  refine j_aload_n (pc := 463) d_Law_law_463 rfl ?_
  refine j_callR (pc := 464) (stk := [(2, v3), (0, gX G (w32 (v4 + 2))), (0, gX G (w32 (v4 + 1))), (2, v1)]) (as := [(2, v1), (0, gX G (w32 (v4 + 1))), (0, gX G (w32 (v4 + 2))), (2, v3)]) (P := (fun v9 => ((0 : Nat), v9) :: [])) (tg := 0) (My := M_Law_rule) (by decide) (mRunW (as := [(2, v1), (0, gX G (w32 (v4 + 1))), (0, gX G (w32 (v4 + 2))), (2, v3)]) (st := []) d_Law_law_464 (mc_Law_rule (by decide)) (by decide) ⟨tb_ml_Law_157, tb_sm_Law_rule⟩ rfl (Nat.le_of_ble_eq_true rfl)) (fun v => rfl) hr (fun r1 h1 => t_Law_rule _ _ _ _ _ _ h1) (fun x2 h1 hr => ?_)
  refine j_istore (pc := 467) (ls' := [(2, (-1)), (2, v1), (2, v2), (2, v3), (0, v4), (0, x2), (9, 0), (9, 0)]) d_Law_law_467 rfl ?_
  refine j_aload_n (pc := 469) d_Law_law_469 rfl ?_
  refine j_aload_n (pc := 470) d_Law_law_470 rfl ?_
  refine j_iload (pc := 471) d_Law_law_471 rfl ?_
  refine j_iconst (pc := 473) d_Law_law_473 ?_
  refine j_iadd (pc := 474) d_Law_law_474 ?_
  refine j_sload (pc := 475) d_Law_law_475 hr (fun hr => ?_)
  refine j_aload_n (pc := 476) d_Law_law_476 rfl ?_
  refine j_iload (pc := 477) d_Law_law_477 rfl ?_
  refine j_iconst (pc := 479) d_Law_law_479 ?_
  refine j_iadd (pc := 480) d_Law_law_480 ?_
  refine j_sload (pc := 481) d_Law_law_481 hr (fun hr => ?_)
  obtain ⟨ha, hr⟩ := chk_some hr
  refine j_callG (pc := 482) (stk := [(0, gX G (w32 (v4 + 2))), (0, gX G (w32 (v4 + 1))), (2, v2)]) (as := [(2, v2), (0, gX G (w32 (v4 + 1))), (0, gX G (w32 (v4 + 2)))]) (P := (fun v9 => ((0 : Nat), v9) :: [])) (tg := 0) (My := M_Md_rule) (mRunV (as := [(0, gX G (w32 (v4 + 1))), (0, gX G (w32 (v4 + 2)))]) (st := []) d_Law_law_482 (mc_Md_rule (by decide)) rfl (mv_Md_rule tb_ml_Law_159) rfl (Nat.le_of_ble_eq_true rfl) ha) (fun v => rfl) rfl hr (fun r1 h1 => t_Md_rule _ _ _ _ _ h1) (fun x4 h3 hr => ?_)
  refine j_istore (pc := 485) (ls' := [(2, (-1)), (2, v1), (2, v2), (2, v3), (0, v4), (0, x2), (0, x4), (9, 0)]) d_Law_law_485 rfl ?_
  refine j_aload_n (pc := 487) d_Law_law_487 rfl ?_
  obtain ⟨ha, hr⟩ := chk_some hr
  refine j_callG (pc := 488) (stk := [(2, v2)]) (as := [(2, v2)]) (P := (fun v9 => ((0 : Nat), v9) :: [])) (tg := 0) (My := M_Md_thrown) (mRunV (as := []) (st := []) d_Law_law_488 (mc_Md_thrown (by decide)) rfl (mv_Md_thrown tb_ml_Law_146) rfl (Nat.le_of_ble_eq_true rfl) ha) (fun v => rfl) rfl hr (fun r1 h1 => t_Md_thrown _ _ _ h1) (fun x6 h5 hr => ?_)
  refine j_iload (pc := 491) d_Law_law_491 rfl ?_
  refine j_icmp_eq (pc := 493) (tgt := 498) d_Law_law_493 hr (fun hr => ?_) (fun hr => ?_)
  · refine j_iload (pc := 498) d_Law_law_498 rfl ?_
    refine j_if_ne (pc := 500) (tgt := 515) d_Law_law_500 hr (fun hr => ?_) (fun hr => ?_)
    · exact mJ_weak (ls' := [(2, (-1)), (2, v1), (2, v2), (2, v3), (0, v4), (9, 0), (9, 0), (9, 0)]) (mwk_s (mwk_s (mwk_s (mwk_s (mwk_s (mwk_d (mwk_d (mwk_s mwk_n)))))))) (t_Law_law_J515 hR23 hr)
    · refine j_aload_n (pc := 503) d_Law_law_503 rfl ?_
      refine j_iconst (pc := 504) d_Law_law_504 ?_
      refine j_laload (pc := 505) d_Law_law_505 hr (fun hr => ?_)
      refine j_iload (pc := 506) d_Law_law_506 rfl ?_
      refine j_i2l (pc := 508) d_Law_law_508 ?_
      refine j_lcmp (pc := 509) d_Law_law_509 ?_
      refine j_if_eq (pc := 510) (tgt := 515) d_Law_law_510 hr (fun hr => ?_) (fun hr => ?_)
      · exact mJ_weak (ls' := [(2, (-1)), (2, v1), (2, v2), (2, v3), (0, v4), (9, 0), (9, 0), (9, 0)]) (mwk_s (mwk_s (mwk_s (mwk_s (mwk_s (mwk_d (mwk_d (mwk_s mwk_n)))))))) (t_Law_law_J515 hR23 hr)
      · refine j_iconst (pc := 513) d_Law_law_513 ?_
        exact j_zret (pc := 514) d_Law_law_514 rfl hr
  · refine j_iconst (pc := 496) d_Law_law_496 ?_
    exact j_zret (pc := 497) d_Law_law_497 rfl hr
theorem t_Law_law_J518 {G : mG} {r : mR} {v1 v2 v3 v4 : Int} {h : mH} {R23 : mH → Int → Option mR} (hR23 : ∀ (h : mH) (w4 : Int) , R23 h w4 = some r → mJ G M_Law_law 23 [(2, (-1)), (2, v1), (2, v2), (2, v3), (0, w4), (9, 0), (9, 0), (9, 0)] [] h r) (hr : f_Law_law_J518 G R23 v1 v2 v4 h = some r) : mJ G M_Law_law 518 [(2, (-1)), (2, v1), (2, v2), (2, v3), (0, v4), (9, 0), (9, 0), (9, 0)] [] h r := by
  unfold f_Law_law_J518 at hr
  refine j_aload_n (pc := 518) d_Law_law_518 rfl ?_
  obtain ⟨ha, hr⟩ := chk_some hr
  refine j_callG (pc := 519) (stk := [(2, v1)]) (as := [(2, v1)]) (P := (fun v9 => ((0 : Nat), v9) :: [])) (tg := 0) (My := M_Nb_stand) (mRunV (as := []) (st := []) d_Law_law_519 (mc_Nb_stand (by decide)) rfl (mv_Nb_stand tb_ml_Law_160) rfl (Nat.le_of_ble_eq_true rfl) ha) (fun v => rfl) rfl hr (fun r1 h1 => t_Nb_stand _ _ _ h1) (fun x2 h1 hr => ?_)
  refine j_aload_n (pc := 522) d_Law_law_522 rfl ?_
  obtain ⟨ha, hr⟩ := chk_some hr
  refine j_callG (pc := 523) (stk := [(2, v2), (0, x2)]) (as := [(2, v2)]) (P := (fun v9 => ((0 : Nat), v9) :: [(0, x2)])) (tg := 0) (My := M_Md_stand) (mRunV (as := []) (st := [(0, x2)]) d_Law_law_523 (mc_Md_stand (by decide)) rfl (mv_Md_stand tb_ml_Law_163) rfl (Nat.le_of_ble_eq_true rfl) ha) (fun v => rfl) rfl hr (fun r1 h1 => t_Md_stand _ _ _ h1) (fun x4 h3 hr => ?_)
  refine j_icmp_eq (pc := 526) (tgt := 2642) d_Law_law_526 hr (fun hr => ?_) (fun hr => ?_)
  · exact mJ_weak (ls' := [(2, (-1)), (2, v1), (2, v2), (2, v3), (0, v4), (9, 0), (9, 0), (9, 0)]) (mwk_s (mwk_s (mwk_s (mwk_s (mwk_s (mwk_s (mwk_s (mwk_s mwk_n)))))))) (t_Law_law_J2642 hR23 hr)
  · refine j_iconst (pc := 529) d_Law_law_529 ?_
    exact j_zret (pc := 530) d_Law_law_530 rfl hr
theorem t_Law_law_J596 {G : mG} {r : mR} {v1 v2 v3 v4 : Int} {h : mH} {R23 : mH → Int → Option mR} (hR23 : ∀ (h : mH) (w4 : Int) , R23 h w4 = some r → mJ G M_Law_law 23 [(2, (-1)), (2, v1), (2, v2), (2, v3), (0, w4), (9, 0), (9, 0), (9, 0)] [] h r) (hr : f_Law_law_J596 G R23 v4 h = some r) : mJ G M_Law_law 596 [(2, (-1)), (2, v1), (2, v2), (2, v3), (0, v4), (9, 0), (9, 0), (9, 0)] [] h r := by
  unfold f_Law_law_J596 at hr
  refine j_goto (pc := 596) (tgt := 2642) d_Law_law_596 ?_
  exact mJ_weak (ls' := [(2, (-1)), (2, v1), (2, v2), (2, v3), (0, v4), (9, 0), (9, 0), (9, 0)]) (mwk_s (mwk_s (mwk_s (mwk_s (mwk_s (mwk_s (mwk_s (mwk_s mwk_n)))))))) (t_Law_law_J2642 hR23 hr)
theorem t_Law_law_J531 {G : mG} {r : mR} {v1 v2 v3 v4 : Int} {h : mH} {R23 : mH → Int → Option mR} (hR23 : ∀ (h : mH) (w4 : Int) , R23 h w4 = some r → mJ G M_Law_law 23 [(2, (-1)), (2, v1), (2, v2), (2, v3), (0, w4), (9, 0), (9, 0), (9, 0)] [] h r) (hr : f_Law_law_J531 G R23 v1 v2 v3 v4 h = some r) : mJ G M_Law_law 531 [(2, (-1)), (2, v1), (2, v2), (2, v3), (0, v4), (9, 0), (9, 0), (9, 0)] [] h r := by
  unfold f_Law_law_J531 at hr
  refine j_aload_n (pc := 531) d_Law_law_531 rfl ?_
  refine j_aload_n (pc := 532) d_Law_law_532 rfl ?_
  refine j_iload (pc := 533) d_Law_law_533 rfl ?_
  refine j_iconst (pc := 535) d_Law_law_535 ?_
  refine j_iadd (pc := 536) d_Law_law_536 ?_
  refine j_sload (pc := 537) d_Law_law_537 hr (fun hr => ?_)
  refine j_aload_n (pc := 538) d_Law_law_538 rfl ?_
  refine j_iload (pc := 539) d_Law_law_539 rfl ?_
  refine j_iconst (pc := 541) d_Law_law_541 ?_
  refine j_iadd (pc := 542) d_Law_law_542 ?_
  refine j_sload (pc := 543) d_Law_law_543 hr (fun hr => ?_)
  refine j_aload_n (pc := 544) d_Law_law_544 rfl ?_
  refine j_callR (pc := 545) (stk := [(2, v3), (0, gX G (w32 (v4 + 2))), (0, gX G (w32 (v4 + 1))), (2, v1)]) (as := [(2, v1), (0, gX G (w32 (v4 + 1))), (0, gX G (w32 (v4 + 2))), (2, v3)]) (P := (fun v9 => ((0 : Nat), v9) :: [])) (tg := 0) (My := M_Law_placeIn) (by decide) (mRunW (as := [(2, v1), (0, gX G (w32 (v4 + 1))), (0, gX G (w32 (v4 + 2))), (2, v3)]) (st := []) d_Law_law_545 (mc_Law_placeIn (by decide)) (by decide) ⟨tb_ml_Law_164, tb_sm_Law_placeIn⟩ rfl (Nat.le_of_ble_eq_true rfl)) (fun v => rfl) hr (fun r1 h1 => t_Law_placeIn _ _ _ _ _ _ h1) (fun x2 h1 hr => ?_)
  refine j_istore (pc := 548) (ls' := [(2, (-1)), (2, v1), (2, v2), (2, v3), (0, v4), (0, x2), (9, 0), (9, 0)]) d_Law_law_548 rfl ?_
  refine j_aload_n (pc := 550) d_Law_law_550 rfl ?_
  refine j_aload_n (pc := 551) d_Law_law_551 rfl ?_
  refine j_iload (pc := 552) d_Law_law_552 rfl ?_
  refine j_iconst (pc := 554) d_Law_law_554 ?_
  refine j_iadd (pc := 555) d_Law_law_555 ?_
  refine j_sload (pc := 556) d_Law_law_556 hr (fun hr => ?_)
  refine j_aload_n (pc := 557) d_Law_law_557 rfl ?_
  refine j_iload (pc := 558) d_Law_law_558 rfl ?_
  refine j_iconst (pc := 560) d_Law_law_560 ?_
  refine j_iadd (pc := 561) d_Law_law_561 ?_
  refine j_sload (pc := 562) d_Law_law_562 hr (fun hr => ?_)
  obtain ⟨ha, hr⟩ := chk_some hr
  refine j_callG (pc := 563) (stk := [(0, gX G (w32 (v4 + 2))), (0, gX G (w32 (v4 + 1))), (2, v2)]) (as := [(2, v2), (0, gX G (w32 (v4 + 1))), (0, gX G (w32 (v4 + 2)))]) (P := (fun v9 => ((0 : Nat), v9) :: [])) (tg := 0) (My := M_Md_placeIn) (mRunV (as := [(0, gX G (w32 (v4 + 1))), (0, gX G (w32 (v4 + 2)))]) (st := []) d_Law_law_563 (mc_Md_placeIn (by decide)) rfl (mv_Md_placeIn tb_ml_Law_166) rfl (Nat.le_of_ble_eq_true rfl) ha) (fun v => rfl) rfl hr (fun r1 h1 => t_Md_placeIn _ _ _ _ _ h1) (fun x4 h3 hr => ?_)
  refine j_istore (pc := 566) (ls' := [(2, (-1)), (2, v1), (2, v2), (2, v3), (0, v4), (0, x2), (0, x4), (9, 0)]) d_Law_law_566 rfl ?_
  refine j_aload_n (pc := 568) d_Law_law_568 rfl ?_
  obtain ⟨ha, hr⟩ := chk_some hr
  refine j_callG (pc := 569) (stk := [(2, v2)]) (as := [(2, v2)]) (P := (fun v9 => ((0 : Nat), v9) :: [])) (tg := 0) (My := M_Md_thrown) (mRunV (as := []) (st := []) d_Law_law_569 (mc_Md_thrown (by decide)) rfl (mv_Md_thrown tb_ml_Law_146) rfl (Nat.le_of_ble_eq_true rfl) ha) (fun v => rfl) rfl hr (fun r1 h1 => t_Md_thrown _ _ _ h1) (fun x6 h5 hr => ?_)
  refine j_iload (pc := 572) d_Law_law_572 rfl ?_
  refine j_icmp_eq (pc := 574) (tgt := 579) d_Law_law_574 hr (fun hr => ?_) (fun hr => ?_)
  · refine j_iload (pc := 579) d_Law_law_579 rfl ?_
    refine j_if_ne (pc := 581) (tgt := 596) d_Law_law_581 hr (fun hr => ?_) (fun hr => ?_)
    · exact mJ_weak (ls' := [(2, (-1)), (2, v1), (2, v2), (2, v3), (0, v4), (9, 0), (9, 0), (9, 0)]) (mwk_s (mwk_s (mwk_s (mwk_s (mwk_s (mwk_d (mwk_d (mwk_s mwk_n)))))))) (t_Law_law_J596 hR23 hr)
    · refine j_aload_n (pc := 584) d_Law_law_584 rfl ?_
      refine j_iconst (pc := 585) d_Law_law_585 ?_
      refine j_laload (pc := 586) d_Law_law_586 hr (fun hr => ?_)
      refine j_iload (pc := 587) d_Law_law_587 rfl ?_
      refine j_i2l (pc := 589) d_Law_law_589 ?_
      refine j_lcmp (pc := 590) d_Law_law_590 ?_
      refine j_if_eq (pc := 591) (tgt := 596) d_Law_law_591 hr (fun hr => ?_) (fun hr => ?_)
      · exact mJ_weak (ls' := [(2, (-1)), (2, v1), (2, v2), (2, v3), (0, v4), (9, 0), (9, 0), (9, 0)]) (mwk_s (mwk_s (mwk_s (mwk_s (mwk_s (mwk_d (mwk_d (mwk_s mwk_n)))))))) (t_Law_law_J596 hR23 hr)
      · refine j_iconst (pc := 594) d_Law_law_594 ?_
        exact j_zret (pc := 595) d_Law_law_595 rfl hr
  · refine j_iconst (pc := 577) d_Law_law_577 ?_
    exact j_zret (pc := 578) d_Law_law_578 rfl hr
theorem t_Law_law_J599 {G : mG} {r : mR} {v1 v2 v3 v4 : Int} {h : mH} {R23 : mH → Int → Option mR} (hR23 : ∀ (h : mH) (w4 : Int) , R23 h w4 = some r → mJ G M_Law_law 23 [(2, (-1)), (2, v1), (2, v2), (2, v3), (0, w4), (9, 0), (9, 0), (9, 0)] [] h r) (hr : f_Law_law_J599 G R23 v1 v2 v4 h = some r) : mJ G M_Law_law 599 [(2, (-1)), (2, v1), (2, v2), (2, v3), (0, v4), (9, 0), (9, 0), (9, 0)] [] h r := by
  unfold f_Law_law_J599 at hr
  refine j_aload_n (pc := 599) d_Law_law_599 rfl ?_
  obtain ⟨ha, hr⟩ := chk_some hr
  refine j_callG (pc := 600) (stk := [(2, v1)]) (as := [(2, v1)]) (P := (fun v9 => ((0 : Nat), v9) :: [])) (tg := 0) (My := M_Nb_isOpen) (mRunV (as := []) (st := []) d_Law_law_600 (mc_Nb_isOpen (by decide)) rfl (mv_Nb_isOpen tb_ml_Law_167) rfl (Nat.le_of_ble_eq_true rfl) ha) (fun v => rfl) rfl hr (fun r1 h1 => t_Nb_isOpen _ _ _ h1) (fun x2 h1 hr => ?_)
  refine j_aload_n (pc := 603) d_Law_law_603 rfl ?_
  obtain ⟨ha, hr⟩ := chk_some hr
  refine j_callG (pc := 604) (stk := [(2, v2), (0, x2)]) (as := [(2, v2)]) (P := (fun v9 => ((0 : Nat), v9) :: [(0, x2)])) (tg := 0) (My := M_Md_isOpen) (mRunV (as := []) (st := [(0, x2)]) d_Law_law_604 (mc_Md_isOpen (by decide)) rfl (mv_Md_isOpen tb_ml_Law_171) rfl (Nat.le_of_ble_eq_true rfl) ha) (fun v => rfl) rfl hr (fun r1 h1 => t_Md_isOpen _ _ _ h1) (fun x4 h3 hr => ?_)
  refine j_icmp_eq (pc := 607) (tgt := 2642) d_Law_law_607 hr (fun hr => ?_) (fun hr => ?_)
  · exact mJ_weak (ls' := [(2, (-1)), (2, v1), (2, v2), (2, v3), (0, v4), (9, 0), (9, 0), (9, 0)]) (mwk_s (mwk_s (mwk_s (mwk_s (mwk_s (mwk_s (mwk_s (mwk_s mwk_n)))))))) (t_Law_law_J2642 hR23 hr)
  · refine j_iconst (pc := 610) d_Law_law_610 ?_
    exact j_zret (pc := 611) d_Law_law_611 rfl hr
theorem t_Law_law_J657 {G : mG} {r : mR} {v1 v2 v3 v4 s0 s1 s2 s3 : Int} {h : mH} {R23 : mH → Int → Option mR} (hR23 : ∀ (h : mH) (w4 : Int) , R23 h w4 = some r → mJ G M_Law_law 23 [(2, (-1)), (2, v1), (2, v2), (2, v3), (0, w4), (9, 0), (9, 0), (9, 0)] [] h r) (hr : f_Law_law_J657 G R23 v4 s0 s1 s2 s3 h = some r) : mJ G M_Law_law 657 [(2, (-1)), (2, v1), (2, v2), (2, v3), (0, v4), (9, 0), (9, 0), (9, 0)] [(0, s3), (0, s2), (2, s1), (0, s0)] h r := by
  unfold f_Law_law_J657 at hr
  obtain ⟨ha, hr⟩ := chk_some hr
  refine j_callG (pc := 657) (stk := [(0, s3), (0, s2), (2, s1), (0, s0)]) (as := [(2, s1), (0, s2), (0, s3)]) (P := (fun v9 => ((0 : Nat), v9) :: [(0, s0)])) (tg := 0) (My := M_Md_may) (mRunV (as := [(0, s2), (0, s3)]) (st := [(0, s0)]) d_Law_law_657 (mc_Md_may (by decide)) rfl (mv_Md_may tb_ml_Law_176) rfl (Nat.le_of_ble_eq_true rfl) ha) (fun v => rfl) rfl hr (fun r1 h1 => t_Md_may _ _ _ _ _ h1) (fun x2 h1 hr => ?_)
  refine j_icmp_eq (pc := 660) (tgt := 2642) d_Law_law_660 hr (fun hr => ?_) (fun hr => ?_)
  · exact mJ_weak (ls' := [(2, (-1)), (2, v1), (2, v2), (2, v3), (0, v4), (9, 0), (9, 0), (9, 0)]) (mwk_s (mwk_s (mwk_s (mwk_s (mwk_s (mwk_s (mwk_s (mwk_s mwk_n)))))))) (t_Law_law_J2642 hR23 hr)
  · refine j_iconst (pc := 663) d_Law_law_663 ?_
    exact j_zret (pc := 664) d_Law_law_664 rfl hr
theorem t_Law_law_J633 {G : mG} {r : mR} {v1 v2 v3 v4 s0 s1 s2 : Int} {h : mH} {R23 : mH → Int → Option mR} (hR23 : ∀ (h : mH) (w4 : Int) , R23 h w4 = some r → mJ G M_Law_law 23 [(2, (-1)), (2, v1), (2, v2), (2, v3), (0, w4), (9, 0), (9, 0), (9, 0)] [] h r) (hr : f_Law_law_J633 G R23 v2 v4 s0 s1 s2 h = some r) : mJ G M_Law_law 633 [(2, (-1)), (2, v1), (2, v2), (2, v3), (0, v4), (9, 0), (9, 0), (9, 0)] [(0, s2), (0, s1), (2, s0)] h r := by
  unfold f_Law_law_J633 at hr
  obtain ⟨ha, hr⟩ := chk_some hr
  refine j_callG (pc := 633) (stk := [(0, s2), (0, s1), (2, s0)]) (as := [(2, s0), (0, s1), (0, s2)]) (P := (fun v9 => ((0 : Nat), v9) :: [])) (tg := 0) (My := M_Nb_may) (mRunV (as := [(0, s1), (0, s2)]) (st := []) d_Law_law_633 (mc_Nb_may (by decide)) rfl (mv_Nb_may tb_ml_Law_172) rfl (Nat.le_of_ble_eq_true rfl) ha) (fun v => rfl) rfl hr (fun r1 h1 => t_Nb_may _ _ _ _ _ h1) (fun x2 h1 hr => ?_)
  refine j_aload_n (pc := 636) d_Law_law_636 rfl ?_
  refine j_aload_n (pc := 637) d_Law_law_637 rfl ?_
  refine j_iload (pc := 638) d_Law_law_638 rfl ?_
  refine j_iconst (pc := 640) d_Law_law_640 ?_
  refine j_iadd (pc := 641) d_Law_law_641 ?_
  refine j_sload (pc := 642) d_Law_law_642 hr (fun hr => ?_)
  refine j_aload_n (pc := 643) d_Law_law_643 rfl ?_
  refine j_iload (pc := 644) d_Law_law_644 rfl ?_
  refine j_iconst (pc := 646) d_Law_law_646 ?_
  refine j_iadd (pc := 647) d_Law_law_647 ?_
  refine j_sload (pc := 648) d_Law_law_648 hr (fun hr => ?_)
  refine j_if_eq (pc := 649) (tgt := 656) d_Law_law_649 hr (fun hr => ?_) (fun hr => ?_)
  · refine j_iconst (pc := 656) d_Law_law_656 ?_
    exact mJ_weak (ls' := [(2, (-1)), (2, v1), (2, v2), (2, v3), (0, v4), (9, 0), (9, 0), (9, 0)]) (mwk_s (mwk_s (mwk_s (mwk_s (mwk_s (mwk_s (mwk_s (mwk_s mwk_n)))))))) (t_Law_law_J657 hR23 hr)
  · refine j_iconst (pc := 652) d_Law_law_652 ?_
    refine j_goto (pc := 653) (tgt := 657) d_Law_law_653 ?_
    exact mJ_weak (ls' := [(2, (-1)), (2, v1), (2, v2), (2, v3), (0, v4), (9, 0), (9, 0), (9, 0)]) (mwk_s (mwk_s (mwk_s (mwk_s (mwk_s (mwk_s (mwk_s (mwk_s mwk_n)))))))) (t_Law_law_J657 hR23 hr)
theorem t_Law_law_J612 {G : mG} {r : mR} {v1 v2 v3 v4 : Int} {h : mH} {R23 : mH → Int → Option mR} (hR23 : ∀ (h : mH) (w4 : Int) , R23 h w4 = some r → mJ G M_Law_law 23 [(2, (-1)), (2, v1), (2, v2), (2, v3), (0, w4), (9, 0), (9, 0), (9, 0)] [] h r) (hr : f_Law_law_J612 G R23 v1 v2 v4 h = some r) : mJ G M_Law_law 612 [(2, (-1)), (2, v1), (2, v2), (2, v3), (0, v4), (9, 0), (9, 0), (9, 0)] [] h r := by
  unfold f_Law_law_J612 at hr
  refine j_aload_n (pc := 612) d_Law_law_612 rfl ?_
  refine j_aload_n (pc := 613) d_Law_law_613 rfl ?_
  refine j_iload (pc := 614) d_Law_law_614 rfl ?_
  refine j_iconst (pc := 616) d_Law_law_616 ?_
  refine j_iadd (pc := 617) d_Law_law_617 ?_
  refine j_sload (pc := 618) d_Law_law_618 hr (fun hr => ?_)
  refine j_aload_n (pc := 619) d_Law_law_619 rfl ?_
  refine j_iload (pc := 620) d_Law_law_620 rfl ?_
  refine j_iconst (pc := 622) d_Law_law_622 ?_
  refine j_iadd (pc := 623) d_Law_law_623 ?_
  refine j_sload (pc := 624) d_Law_law_624 hr (fun hr => ?_)
  refine j_if_eq (pc := 625) (tgt := 632) d_Law_law_625 hr (fun hr => ?_) (fun hr => ?_)
  · refine j_iconst (pc := 632) d_Law_law_632 ?_
    exact mJ_weak (ls' := [(2, (-1)), (2, v1), (2, v2), (2, v3), (0, v4), (9, 0), (9, 0), (9, 0)]) (mwk_s (mwk_s (mwk_s (mwk_s (mwk_s (mwk_s (mwk_s (mwk_s mwk_n)))))))) (t_Law_law_J633 hR23 hr)
  · refine j_iconst (pc := 628) d_Law_law_628 ?_
    refine j_goto (pc := 629) (tgt := 633) d_Law_law_629 ?_
    exact mJ_weak (ls' := [(2, (-1)), (2, v1), (2, v2), (2, v3), (0, v4), (9, 0), (9, 0), (9, 0)]) (mwk_s (mwk_s (mwk_s (mwk_s (mwk_s (mwk_s (mwk_s (mwk_s mwk_n)))))))) (t_Law_law_J633 hR23 hr)
theorem t_Law_law_J710 {G : mG} {r : mR} {v1 v2 v3 v4 s0 s1 s2 s3 : Int} {h : mH} {R23 : mH → Int → Option mR} (hR23 : ∀ (h : mH) (w4 : Int) , R23 h w4 = some r → mJ G M_Law_law 23 [(2, (-1)), (2, v1), (2, v2), (2, v3), (0, w4), (9, 0), (9, 0), (9, 0)] [] h r) (hr : f_Law_law_J710 G R23 v4 s0 s1 s2 s3 h = some r) : mJ G M_Law_law 710 [(2, (-1)), (2, v1), (2, v2), (2, v3), (0, v4), (9, 0), (9, 0), (9, 0)] [(0, s3), (0, s2), (2, s1), (0, s0)] h r := by
  unfold f_Law_law_J710 at hr
  obtain ⟨ha, hr⟩ := chk_some hr
  refine j_callG (pc := 710) (stk := [(0, s3), (0, s2), (2, s1), (0, s0)]) (as := [(2, s1), (0, s2), (0, s3)]) (P := (fun v9 => ((0 : Nat), v9) :: [(0, s0)])) (tg := 0) (My := M_Md_step) (mRunV (as := [(0, s2), (0, s3)]) (st := [(0, s0)]) d_Law_law_710 (mc_Md_step (by decide)) rfl (mv_Md_step tb_ml_Law_180) rfl (Nat.le_of_ble_eq_true rfl) ha) (fun v => rfl) rfl hr (fun r1 h1 => t_Md_step _ _ _ _ _ h1) (fun x2 h1 hr => ?_)
  refine j_icmp_eq (pc := 713) (tgt := 2642) d_Law_law_713 hr (fun hr => ?_) (fun hr => ?_)
  · exact mJ_weak (ls' := [(2, (-1)), (2, v1), (2, v2), (2, v3), (0, v4), (9, 0), (9, 0), (9, 0)]) (mwk_s (mwk_s (mwk_s (mwk_s (mwk_s (mwk_s (mwk_s (mwk_s mwk_n)))))))) (t_Law_law_J2642 hR23 hr)
  · refine j_iconst (pc := 716) d_Law_law_716 ?_
    exact j_zret (pc := 717) d_Law_law_717 rfl hr
theorem t_Law_law_J686 {G : mG} {r : mR} {v1 v2 v3 v4 s0 s1 s2 : Int} {h : mH} {R23 : mH → Int → Option mR} (hR23 : ∀ (h : mH) (w4 : Int) , R23 h w4 = some r → mJ G M_Law_law 23 [(2, (-1)), (2, v1), (2, v2), (2, v3), (0, w4), (9, 0), (9, 0), (9, 0)] [] h r) (hr : f_Law_law_J686 G R23 v2 v4 s0 s1 s2 h = some r) : mJ G M_Law_law 686 [(2, (-1)), (2, v1), (2, v2), (2, v3), (0, v4), (9, 0), (9, 0), (9, 0)] [(0, s2), (0, s1), (2, s0)] h r := by
  unfold f_Law_law_J686 at hr
  obtain ⟨ha, hr⟩ := chk_some hr
  refine j_callG (pc := 686) (stk := [(0, s2), (0, s1), (2, s0)]) (as := [(2, s0), (0, s1), (0, s2)]) (P := (fun v9 => ((0 : Nat), v9) :: [])) (tg := 0) (My := M_Nb_step) (mRunV (as := [(0, s1), (0, s2)]) (st := []) d_Law_law_686 (mc_Nb_step (by decide)) rfl (mv_Nb_step tb_ml_Law_177) rfl (Nat.le_of_ble_eq_true rfl) ha) (fun v => rfl) rfl hr (fun r1 h1 => t_Nb_step _ _ _ _ _ h1) (fun x2 h1 hr => ?_)
  refine j_aload_n (pc := 689) d_Law_law_689 rfl ?_
  refine j_aload_n (pc := 690) d_Law_law_690 rfl ?_
  refine j_iload (pc := 691) d_Law_law_691 rfl ?_
  refine j_iconst (pc := 693) d_Law_law_693 ?_
  refine j_iadd (pc := 694) d_Law_law_694 ?_
  refine j_sload (pc := 695) d_Law_law_695 hr (fun hr => ?_)
  refine j_aload_n (pc := 696) d_Law_law_696 rfl ?_
  refine j_iload (pc := 697) d_Law_law_697 rfl ?_
  refine j_iconst (pc := 699) d_Law_law_699 ?_
  refine j_iadd (pc := 700) d_Law_law_700 ?_
  refine j_sload (pc := 701) d_Law_law_701 hr (fun hr => ?_)
  refine j_if_eq (pc := 702) (tgt := 709) d_Law_law_702 hr (fun hr => ?_) (fun hr => ?_)
  · refine j_iconst (pc := 709) d_Law_law_709 ?_
    exact mJ_weak (ls' := [(2, (-1)), (2, v1), (2, v2), (2, v3), (0, v4), (9, 0), (9, 0), (9, 0)]) (mwk_s (mwk_s (mwk_s (mwk_s (mwk_s (mwk_s (mwk_s (mwk_s mwk_n)))))))) (t_Law_law_J710 hR23 hr)
  · refine j_iconst (pc := 705) d_Law_law_705 ?_
    refine j_goto (pc := 706) (tgt := 710) d_Law_law_706 ?_
    exact mJ_weak (ls' := [(2, (-1)), (2, v1), (2, v2), (2, v3), (0, v4), (9, 0), (9, 0), (9, 0)]) (mwk_s (mwk_s (mwk_s (mwk_s (mwk_s (mwk_s (mwk_s (mwk_s mwk_n)))))))) (t_Law_law_J710 hR23 hr)
theorem t_Law_law_J665 {G : mG} {r : mR} {v1 v2 v3 v4 : Int} {h : mH} {R23 : mH → Int → Option mR} (hR23 : ∀ (h : mH) (w4 : Int) , R23 h w4 = some r → mJ G M_Law_law 23 [(2, (-1)), (2, v1), (2, v2), (2, v3), (0, w4), (9, 0), (9, 0), (9, 0)] [] h r) (hr : f_Law_law_J665 G R23 v1 v2 v4 h = some r) : mJ G M_Law_law 665 [(2, (-1)), (2, v1), (2, v2), (2, v3), (0, v4), (9, 0), (9, 0), (9, 0)] [] h r := by
  unfold f_Law_law_J665 at hr
  refine j_aload_n (pc := 665) d_Law_law_665 rfl ?_
  refine j_aload_n (pc := 666) d_Law_law_666 rfl ?_
  refine j_iload (pc := 667) d_Law_law_667 rfl ?_
  refine j_iconst (pc := 669) d_Law_law_669 ?_
  refine j_iadd (pc := 670) d_Law_law_670 ?_
  refine j_sload (pc := 671) d_Law_law_671 hr (fun hr => ?_)
  refine j_aload_n (pc := 672) d_Law_law_672 rfl ?_
  refine j_iload (pc := 673) d_Law_law_673 rfl ?_
  refine j_iconst (pc := 675) d_Law_law_675 ?_
  refine j_iadd (pc := 676) d_Law_law_676 ?_
  refine j_sload (pc := 677) d_Law_law_677 hr (fun hr => ?_)
  refine j_if_eq (pc := 678) (tgt := 685) d_Law_law_678 hr (fun hr => ?_) (fun hr => ?_)
  · refine j_iconst (pc := 685) d_Law_law_685 ?_
    exact mJ_weak (ls' := [(2, (-1)), (2, v1), (2, v2), (2, v3), (0, v4), (9, 0), (9, 0), (9, 0)]) (mwk_s (mwk_s (mwk_s (mwk_s (mwk_s (mwk_s (mwk_s (mwk_s mwk_n)))))))) (t_Law_law_J686 hR23 hr)
  · refine j_iconst (pc := 681) d_Law_law_681 ?_
    refine j_goto (pc := 682) (tgt := 686) d_Law_law_682 ?_
    exact mJ_weak (ls' := [(2, (-1)), (2, v1), (2, v2), (2, v3), (0, v4), (9, 0), (9, 0), (9, 0)]) (mwk_s (mwk_s (mwk_s (mwk_s (mwk_s (mwk_s (mwk_s (mwk_s mwk_n)))))))) (t_Law_law_J686 hR23 hr)
theorem t_Law_law_J763 {G : mG} {r : mR} {v1 v2 v3 v4 s0 s1 s2 s3 : Int} {h : mH} {R23 : mH → Int → Option mR} (hR23 : ∀ (h : mH) (w4 : Int) , R23 h w4 = some r → mJ G M_Law_law 23 [(2, (-1)), (2, v1), (2, v2), (2, v3), (0, w4), (9, 0), (9, 0), (9, 0)] [] h r) (hr : f_Law_law_J763 G R23 v4 s0 s1 s2 s3 h = some r) : mJ G M_Law_law 763 [(2, (-1)), (2, v1), (2, v2), (2, v3), (0, v4), (9, 0), (9, 0), (9, 0)] [(0, s3), (0, s2), (2, s1), (0, s0)] h r := by
  unfold f_Law_law_J763 at hr
  obtain ⟨ha, hr⟩ := chk_some hr
  refine j_callG (pc := 763) (stk := [(0, s3), (0, s2), (2, s1), (0, s0)]) (as := [(2, s1), (0, s2), (0, s3)]) (P := (fun v9 => ((0 : Nat), v9) :: [(0, s0)])) (tg := 0) (My := M_Md_stops) (mRunV (as := [(0, s2), (0, s3)]) (st := [(0, s0)]) d_Law_law_763 (mc_Md_stops (by decide)) rfl (mv_Md_stops tb_ml_Law_184) rfl (Nat.le_of_ble_eq_true rfl) ha) (fun v => rfl) rfl hr (fun r1 h1 => t_Md_stops _ _ _ _ _ h1) (fun x2 h1 hr => ?_)
  refine j_icmp_eq (pc := 766) (tgt := 2642) d_Law_law_766 hr (fun hr => ?_) (fun hr => ?_)
  · exact mJ_weak (ls' := [(2, (-1)), (2, v1), (2, v2), (2, v3), (0, v4), (9, 0), (9, 0), (9, 0)]) (mwk_s (mwk_s (mwk_s (mwk_s (mwk_s (mwk_s (mwk_s (mwk_s mwk_n)))))))) (t_Law_law_J2642 hR23 hr)
  · refine j_iconst (pc := 769) d_Law_law_769 ?_
    exact j_zret (pc := 770) d_Law_law_770 rfl hr
theorem t_Law_law_J739 {G : mG} {r : mR} {v1 v2 v3 v4 s0 s1 s2 : Int} {h : mH} {R23 : mH → Int → Option mR} (hR23 : ∀ (h : mH) (w4 : Int) , R23 h w4 = some r → mJ G M_Law_law 23 [(2, (-1)), (2, v1), (2, v2), (2, v3), (0, w4), (9, 0), (9, 0), (9, 0)] [] h r) (hr : f_Law_law_J739 G R23 v2 v4 s0 s1 s2 h = some r) : mJ G M_Law_law 739 [(2, (-1)), (2, v1), (2, v2), (2, v3), (0, v4), (9, 0), (9, 0), (9, 0)] [(0, s2), (0, s1), (2, s0)] h r := by
  unfold f_Law_law_J739 at hr
  obtain ⟨ha, hr⟩ := chk_some hr
  refine j_callG (pc := 739) (stk := [(0, s2), (0, s1), (2, s0)]) (as := [(2, s0), (0, s1), (0, s2)]) (P := (fun v9 => ((0 : Nat), v9) :: [])) (tg := 0) (My := M_Nb_stops) (mRunV (as := [(0, s1), (0, s2)]) (st := []) d_Law_law_739 (mc_Nb_stops (by decide)) rfl (mv_Nb_stops tb_ml_Law_181) rfl (Nat.le_of_ble_eq_true rfl) ha) (fun v => rfl) rfl hr (fun r1 h1 => t_Nb_stops _ _ _ _ _ h1) (fun x2 h1 hr => ?_)
  refine j_aload_n (pc := 742) d_Law_law_742 rfl ?_
  refine j_aload_n (pc := 743) d_Law_law_743 rfl ?_
  refine j_iload (pc := 744) d_Law_law_744 rfl ?_
  refine j_iconst (pc := 746) d_Law_law_746 ?_
  refine j_iadd (pc := 747) d_Law_law_747 ?_
  refine j_sload (pc := 748) d_Law_law_748 hr (fun hr => ?_)
  refine j_aload_n (pc := 749) d_Law_law_749 rfl ?_
  refine j_iload (pc := 750) d_Law_law_750 rfl ?_
  refine j_iconst (pc := 752) d_Law_law_752 ?_
  refine j_iadd (pc := 753) d_Law_law_753 ?_
  refine j_sload (pc := 754) d_Law_law_754 hr (fun hr => ?_)
  refine j_if_eq (pc := 755) (tgt := 762) d_Law_law_755 hr (fun hr => ?_) (fun hr => ?_)
  · refine j_iconst (pc := 762) d_Law_law_762 ?_
    exact mJ_weak (ls' := [(2, (-1)), (2, v1), (2, v2), (2, v3), (0, v4), (9, 0), (9, 0), (9, 0)]) (mwk_s (mwk_s (mwk_s (mwk_s (mwk_s (mwk_s (mwk_s (mwk_s mwk_n)))))))) (t_Law_law_J763 hR23 hr)
  · refine j_iconst (pc := 758) d_Law_law_758 ?_
    refine j_goto (pc := 759) (tgt := 763) d_Law_law_759 ?_
    exact mJ_weak (ls' := [(2, (-1)), (2, v1), (2, v2), (2, v3), (0, v4), (9, 0), (9, 0), (9, 0)]) (mwk_s (mwk_s (mwk_s (mwk_s (mwk_s (mwk_s (mwk_s (mwk_s mwk_n)))))))) (t_Law_law_J763 hR23 hr)
theorem t_Law_law_J718 {G : mG} {r : mR} {v1 v2 v3 v4 : Int} {h : mH} {R23 : mH → Int → Option mR} (hR23 : ∀ (h : mH) (w4 : Int) , R23 h w4 = some r → mJ G M_Law_law 23 [(2, (-1)), (2, v1), (2, v2), (2, v3), (0, w4), (9, 0), (9, 0), (9, 0)] [] h r) (hr : f_Law_law_J718 G R23 v1 v2 v4 h = some r) : mJ G M_Law_law 718 [(2, (-1)), (2, v1), (2, v2), (2, v3), (0, v4), (9, 0), (9, 0), (9, 0)] [] h r := by
  unfold f_Law_law_J718 at hr
  refine j_aload_n (pc := 718) d_Law_law_718 rfl ?_
  refine j_aload_n (pc := 719) d_Law_law_719 rfl ?_
  refine j_iload (pc := 720) d_Law_law_720 rfl ?_
  refine j_iconst (pc := 722) d_Law_law_722 ?_
  refine j_iadd (pc := 723) d_Law_law_723 ?_
  refine j_sload (pc := 724) d_Law_law_724 hr (fun hr => ?_)
  refine j_aload_n (pc := 725) d_Law_law_725 rfl ?_
  refine j_iload (pc := 726) d_Law_law_726 rfl ?_
  refine j_iconst (pc := 728) d_Law_law_728 ?_
  refine j_iadd (pc := 729) d_Law_law_729 ?_
  refine j_sload (pc := 730) d_Law_law_730 hr (fun hr => ?_)
  refine j_if_eq (pc := 731) (tgt := 738) d_Law_law_731 hr (fun hr => ?_) (fun hr => ?_)
  · refine j_iconst (pc := 738) d_Law_law_738 ?_
    exact mJ_weak (ls' := [(2, (-1)), (2, v1), (2, v2), (2, v3), (0, v4), (9, 0), (9, 0), (9, 0)]) (mwk_s (mwk_s (mwk_s (mwk_s (mwk_s (mwk_s (mwk_s (mwk_s mwk_n)))))))) (t_Law_law_J739 hR23 hr)
  · refine j_iconst (pc := 734) d_Law_law_734 ?_
    refine j_goto (pc := 735) (tgt := 739) d_Law_law_735 ?_
    exact mJ_weak (ls' := [(2, (-1)), (2, v1), (2, v2), (2, v3), (0, v4), (9, 0), (9, 0), (9, 0)]) (mwk_s (mwk_s (mwk_s (mwk_s (mwk_s (mwk_s (mwk_s (mwk_s mwk_n)))))))) (t_Law_law_J739 hR23 hr)
theorem t_Law_law_J836 {G : mG} {r : mR} {v1 v2 v3 v4 : Int} {h : mH} {R23 : mH → Int → Option mR} (hR23 : ∀ (h : mH) (w4 : Int) , R23 h w4 = some r → mJ G M_Law_law 23 [(2, (-1)), (2, v1), (2, v2), (2, v3), (0, w4), (9, 0), (9, 0), (9, 0)] [] h r) (hr : f_Law_law_J836 G R23 v4 h = some r) : mJ G M_Law_law 836 [(2, (-1)), (2, v1), (2, v2), (2, v3), (0, v4), (9, 0), (9, 0), (9, 0)] [] h r := by
  unfold f_Law_law_J836 at hr
  refine j_goto (pc := 836) (tgt := 2642) d_Law_law_836 ?_
  exact mJ_weak (ls' := [(2, (-1)), (2, v1), (2, v2), (2, v3), (0, v4), (9, 0), (9, 0), (9, 0)]) (mwk_s (mwk_s (mwk_s (mwk_s (mwk_s (mwk_s (mwk_s (mwk_s mwk_n)))))))) (t_Law_law_J2642 hR23 hr)
theorem t_Law_law_J771 {G : mG} {r : mR} {v1 v2 v3 v4 : Int} {h : mH} {R23 : mH → Int → Option mR} (hR23 : ∀ (h : mH) (w4 : Int) , R23 h w4 = some r → mJ G M_Law_law 23 [(2, (-1)), (2, v1), (2, v2), (2, v3), (0, w4), (9, 0), (9, 0), (9, 0)] [] h r) (hr : f_Law_law_J771 G R23 v1 v2 v3 v4 h = some r) : mJ G M_Law_law 771 [(2, (-1)), (2, v1), (2, v2), (2, v3), (0, v4), (9, 0), (9, 0), (9, 0)] [] h r := by
  unfold f_Law_law_J771 at hr
  refine j_aload_n (pc := 771) d_Law_law_771 rfl ?_
  refine j_aload_n (pc := 772) d_Law_law_772 rfl ?_
  refine j_iload (pc := 773) d_Law_law_773 rfl ?_
  refine j_iconst (pc := 775) d_Law_law_775 ?_
  refine j_iadd (pc := 776) d_Law_law_776 ?_
  refine j_sload (pc := 777) d_Law_law_777 hr (fun hr => ?_)
  refine j_aload_n (pc := 778) d_Law_law_778 rfl ?_
  refine j_iload (pc := 779) d_Law_law_779 rfl ?_
  refine j_iconst (pc := 781) d_Law_law_781 ?_
  refine j_iadd (pc := 782) d_Law_law_782 ?_
  refine j_sload (pc := 783) d_Law_law_783 hr (fun hr => ?_)
  refine j_aload_n (pc := 784) d_Law_law_784 rfl ?_
  refine j_callR (pc := 785) (stk := [(2, v3), (0, gX G (w32 (v4 + 2))), (0, gX G (w32 (v4 + 1))), (2, v1)]) (as := [(2, v1), (0, gX G (w32 (v4 + 1))), (0, gX G (w32 (v4 + 2))), (2, v3)]) (P := (fun v9 => ((0 : Nat), v9) :: [])) (tg := 0) (My := M_Law_judge) (by decide) (mRunW (as := [(2, v1), (0, gX G (w32 (v4 + 1))), (0, gX G (w32 (v4 + 2))), (2, v3)]) (st := []) d_Law_law_785 (mc_Law_judge (by decide)) (by decide) ⟨tb_ml_Law_185, tb_sm_Law_judge⟩ rfl (Nat.le_of_ble_eq_true rfl)) (fun v => rfl) hr (fun r1 h1 => t_Law_judge _ _ _ _ _ _ h1) (fun x2 h1 hr => ?_)
  refine j_istore (pc := 788) (ls' := [(2, (-1)), (2, v1), (2, v2), (2, v3), (0, v4), (0, x2), (9, 0), (9, 0)]) d_Law_law_788 rfl ?_
  refine j_aload_n (pc := 790) d_Law_law_790 rfl ?_
  refine j_aload_n (pc := 791) d_Law_law_791 rfl ?_
  refine j_iload (pc := 792) d_Law_law_792 rfl ?_
  refine j_iconst (pc := 794) d_Law_law_794 ?_
  refine j_iadd (pc := 795) d_Law_law_795 ?_
  refine j_sload (pc := 796) d_Law_law_796 hr (fun hr => ?_)
  refine j_aload_n (pc := 797) d_Law_law_797 rfl ?_
  refine j_iload (pc := 798) d_Law_law_798 rfl ?_
  refine j_iconst (pc := 800) d_Law_law_800 ?_
  refine j_iadd (pc := 801) d_Law_law_801 ?_
  refine j_sload (pc := 802) d_Law_law_802 hr (fun hr => ?_)
  obtain ⟨ha, hr⟩ := chk_some hr
  refine j_callG (pc := 803) (stk := [(0, gX G (w32 (v4 + 2))), (0, gX G (w32 (v4 + 1))), (2, v2)]) (as := [(2, v2), (0, gX G (w32 (v4 + 1))), (0, gX G (w32 (v4 + 2)))]) (P := (fun v9 => ((0 : Nat), v9) :: [])) (tg := 0) (My := M_Md_judge) (mRunV (as := [(0, gX G (w32 (v4 + 1))), (0, gX G (w32 (v4 + 2)))]) (st := []) d_Law_law_803 (mc_Md_judge (by decide)) rfl (mv_Md_judge tb_ml_Law_187) rfl (Nat.le_of_ble_eq_true rfl) ha) (fun v => rfl) rfl hr (fun r1 h1 => t_Md_judge _ _ _ _ _ h1) (fun x4 h3 hr => ?_)
  refine j_istore (pc := 806) (ls' := [(2, (-1)), (2, v1), (2, v2), (2, v3), (0, v4), (0, x2), (0, x4), (9, 0)]) d_Law_law_806 rfl ?_
  refine j_aload_n (pc := 808) d_Law_law_808 rfl ?_
  obtain ⟨ha, hr⟩ := chk_some hr
  refine j_callG (pc := 809) (stk := [(2, v2)]) (as := [(2, v2)]) (P := (fun v9 => ((0 : Nat), v9) :: [])) (tg := 0) (My := M_Md_thrown) (mRunV (as := []) (st := []) d_Law_law_809 (mc_Md_thrown (by decide)) rfl (mv_Md_thrown tb_ml_Law_146) rfl (Nat.le_of_ble_eq_true rfl) ha) (fun v => rfl) rfl hr (fun r1 h1 => t_Md_thrown _ _ _ h1) (fun x6 h5 hr => ?_)
  refine j_iload (pc := 812) d_Law_law_812 rfl ?_
  refine j_icmp_eq (pc := 814) (tgt := 819) d_Law_law_814 hr (fun hr => ?_) (fun hr => ?_)
  · refine j_iload (pc := 819) d_Law_law_819 rfl ?_
    refine j_if_ne (pc := 821) (tgt := 836) d_Law_law_821 hr (fun hr => ?_) (fun hr => ?_)
    · exact mJ_weak (ls' := [(2, (-1)), (2, v1), (2, v2), (2, v3), (0, v4), (9, 0), (9, 0), (9, 0)]) (mwk_s (mwk_s (mwk_s (mwk_s (mwk_s (mwk_d (mwk_d (mwk_s mwk_n)))))))) (t_Law_law_J836 hR23 hr)
    · refine j_aload_n (pc := 824) d_Law_law_824 rfl ?_
      refine j_iconst (pc := 825) d_Law_law_825 ?_
      refine j_laload (pc := 826) d_Law_law_826 hr (fun hr => ?_)
      refine j_iload (pc := 827) d_Law_law_827 rfl ?_
      refine j_i2l (pc := 829) d_Law_law_829 ?_
      refine j_lcmp (pc := 830) d_Law_law_830 ?_
      refine j_if_eq (pc := 831) (tgt := 836) d_Law_law_831 hr (fun hr => ?_) (fun hr => ?_)
      · exact mJ_weak (ls' := [(2, (-1)), (2, v1), (2, v2), (2, v3), (0, v4), (9, 0), (9, 0), (9, 0)]) (mwk_s (mwk_s (mwk_s (mwk_s (mwk_s (mwk_d (mwk_d (mwk_s mwk_n)))))))) (t_Law_law_J836 hR23 hr)
      · refine j_iconst (pc := 834) d_Law_law_834 ?_
        exact j_zret (pc := 835) d_Law_law_835 rfl hr
  · refine j_iconst (pc := 817) d_Law_law_817 ?_
    exact j_zret (pc := 818) d_Law_law_818 rfl hr
theorem t_Law_law_J892 {G : mG} {r : mR} {v1 v2 v3 v4 : Int} {h : mH} {R23 : mH → Int → Option mR} (hR23 : ∀ (h : mH) (w4 : Int) , R23 h w4 = some r → mJ G M_Law_law 23 [(2, (-1)), (2, v1), (2, v2), (2, v3), (0, w4), (9, 0), (9, 0), (9, 0)] [] h r) (hr : f_Law_law_J892 G R23 v4 h = some r) : mJ G M_Law_law 892 [(2, (-1)), (2, v1), (2, v2), (2, v3), (0, v4), (9, 0), (9, 0), (9, 0)] [] h r := by
  unfold f_Law_law_J892 at hr
  refine j_goto (pc := 892) (tgt := 2642) d_Law_law_892 ?_
  exact mJ_weak (ls' := [(2, (-1)), (2, v1), (2, v2), (2, v3), (0, v4), (9, 0), (9, 0), (9, 0)]) (mwk_s (mwk_s (mwk_s (mwk_s (mwk_s (mwk_s (mwk_s (mwk_s mwk_n)))))))) (t_Law_law_J2642 hR23 hr)
theorem t_Law_law_J839 {G : mG} {r : mR} {v1 v2 v3 v4 : Int} {h : mH} {R23 : mH → Int → Option mR} (hR23 : ∀ (h : mH) (w4 : Int) , R23 h w4 = some r → mJ G M_Law_law 23 [(2, (-1)), (2, v1), (2, v2), (2, v3), (0, w4), (9, 0), (9, 0), (9, 0)] [] h r) (hr : f_Law_law_J839 G R23 v1 v2 v3 v4 h = some r) : mJ G M_Law_law 839 [(2, (-1)), (2, v1), (2, v2), (2, v3), (0, v4), (9, 0), (9, 0), (9, 0)] [] h r := by
  unfold f_Law_law_J839 at hr
  refine j_aload_n (pc := 839) d_Law_law_839 rfl ?_
  refine j_aload_n (pc := 840) d_Law_law_840 rfl ?_
  refine j_iload (pc := 841) d_Law_law_841 rfl ?_
  refine j_iconst (pc := 843) d_Law_law_843 ?_
  refine j_iadd (pc := 844) d_Law_law_844 ?_
  refine j_sload (pc := 845) d_Law_law_845 hr (fun hr => ?_)
  refine j_aload_n (pc := 846) d_Law_law_846 rfl ?_
  refine j_callR (pc := 847) (stk := [(2, v3), (0, gX G (w32 (v4 + 1))), (2, v1)]) (as := [(2, v1), (0, gX G (w32 (v4 + 1))), (2, v3)]) (P := (fun v9 => ((0 : Nat), v9) :: [])) (tg := 0) (My := M_Law_perform) (by decide) (mRunW (as := [(2, v1), (0, gX G (w32 (v4 + 1))), (2, v3)]) (st := []) d_Law_law_847 (mc_Law_perform (by decide)) (by decide) ⟨tb_ml_Law_188, tb_sm_Law_perform⟩ rfl (Nat.le_of_ble_eq_true rfl)) (fun v => rfl) hr (fun r1 h1 => t_Law_perform _ _ _ _ _ h1) (fun x2 h1 hr => ?_)
  refine j_istore (pc := 850) (ls' := [(2, (-1)), (2, v1), (2, v2), (2, v3), (0, v4), (0, x2), (9, 0), (9, 0)]) d_Law_law_850 rfl ?_
  refine j_aload_n (pc := 852) d_Law_law_852 rfl ?_
  refine j_aload_n (pc := 853) d_Law_law_853 rfl ?_
  refine j_iload (pc := 854) d_Law_law_854 rfl ?_
  refine j_iconst (pc := 856) d_Law_law_856 ?_
  refine j_iadd (pc := 857) d_Law_law_857 ?_
  refine j_sload (pc := 858) d_Law_law_858 hr (fun hr => ?_)
  obtain ⟨ha, hr⟩ := chk_some hr
  refine j_callG (pc := 859) (stk := [(0, gX G (w32 (v4 + 1))), (2, v2)]) (as := [(2, v2), (0, gX G (w32 (v4 + 1)))]) (P := (fun v9 => ((0 : Nat), v9) :: [])) (tg := 0) (My := M_Md_perform) (mRunV (as := [(0, gX G (w32 (v4 + 1)))]) (st := []) d_Law_law_859 (mc_Md_perform (by decide)) rfl (mv_Md_perform tb_ml_Law_190) rfl (Nat.le_of_ble_eq_true rfl) ha) (fun v => rfl) rfl hr (fun r1 h1 => t_Md_perform _ _ _ _ h1) (fun x4 h3 hr => ?_)
  refine j_istore (pc := 862) (ls' := [(2, (-1)), (2, v1), (2, v2), (2, v3), (0, v4), (0, x2), (0, x4), (9, 0)]) d_Law_law_862 rfl ?_
  refine j_aload_n (pc := 864) d_Law_law_864 rfl ?_
  obtain ⟨ha, hr⟩ := chk_some hr
  refine j_callG (pc := 865) (stk := [(2, v2)]) (as := [(2, v2)]) (P := (fun v9 => ((0 : Nat), v9) :: [])) (tg := 0) (My := M_Md_thrown) (mRunV (as := []) (st := []) d_Law_law_865 (mc_Md_thrown (by decide)) rfl (mv_Md_thrown tb_ml_Law_146) rfl (Nat.le_of_ble_eq_true rfl) ha) (fun v => rfl) rfl hr (fun r1 h1 => t_Md_thrown _ _ _ h1) (fun x6 h5 hr => ?_)
  refine j_iload (pc := 868) d_Law_law_868 rfl ?_
  refine j_icmp_eq (pc := 870) (tgt := 875) d_Law_law_870 hr (fun hr => ?_) (fun hr => ?_)
  · refine j_iload (pc := 875) d_Law_law_875 rfl ?_
    refine j_if_ne (pc := 877) (tgt := 892) d_Law_law_877 hr (fun hr => ?_) (fun hr => ?_)
    · exact mJ_weak (ls' := [(2, (-1)), (2, v1), (2, v2), (2, v3), (0, v4), (9, 0), (9, 0), (9, 0)]) (mwk_s (mwk_s (mwk_s (mwk_s (mwk_s (mwk_d (mwk_d (mwk_s mwk_n)))))))) (t_Law_law_J892 hR23 hr)
    · refine j_aload_n (pc := 880) d_Law_law_880 rfl ?_
      refine j_iconst (pc := 881) d_Law_law_881 ?_
      refine j_laload (pc := 882) d_Law_law_882 hr (fun hr => ?_)
      refine j_iload (pc := 883) d_Law_law_883 rfl ?_
      refine j_i2l (pc := 885) d_Law_law_885 ?_
      refine j_lcmp (pc := 886) d_Law_law_886 ?_
      refine j_if_eq (pc := 887) (tgt := 892) d_Law_law_887 hr (fun hr => ?_) (fun hr => ?_)
      · exact mJ_weak (ls' := [(2, (-1)), (2, v1), (2, v2), (2, v3), (0, v4), (9, 0), (9, 0), (9, 0)]) (mwk_s (mwk_s (mwk_s (mwk_s (mwk_s (mwk_d (mwk_d (mwk_s mwk_n)))))))) (t_Law_law_J892 hR23 hr)
      · refine j_iconst (pc := 890) d_Law_law_890 ?_
        exact j_zret (pc := 891) d_Law_law_891 rfl hr
  · refine j_iconst (pc := 873) d_Law_law_873 ?_
    exact j_zret (pc := 874) d_Law_law_874 rfl hr
theorem t_Law_law_J960 {G : mG} {r : mR} {v1 v2 v3 v4 : Int} {h : mH} {R23 : mH → Int → Option mR} (hR23 : ∀ (h : mH) (w4 : Int) , R23 h w4 = some r → mJ G M_Law_law 23 [(2, (-1)), (2, v1), (2, v2), (2, v3), (0, w4), (9, 0), (9, 0), (9, 0)] [] h r) (hr : f_Law_law_J960 G R23 v4 h = some r) : mJ G M_Law_law 960 [(2, (-1)), (2, v1), (2, v2), (2, v3), (0, v4), (9, 0), (9, 0), (9, 0)] [] h r := by
  unfold f_Law_law_J960 at hr
  refine j_goto (pc := 960) (tgt := 2642) d_Law_law_960 ?_
  exact mJ_weak (ls' := [(2, (-1)), (2, v1), (2, v2), (2, v3), (0, v4), (9, 0), (9, 0), (9, 0)]) (mwk_s (mwk_s (mwk_s (mwk_s (mwk_s (mwk_s (mwk_s (mwk_s mwk_n)))))))) (t_Law_law_J2642 hR23 hr)
theorem t_Law_law_J895 {G : mG} {r : mR} {v1 v2 v3 v4 : Int} {h : mH} {R23 : mH → Int → Option mR} (hR23 : ∀ (h : mH) (w4 : Int) , R23 h w4 = some r → mJ G M_Law_law 23 [(2, (-1)), (2, v1), (2, v2), (2, v3), (0, w4), (9, 0), (9, 0), (9, 0)] [] h r) (hr : f_Law_law_J895 G R23 v1 v2 v3 v4 h = some r) : mJ G M_Law_law 895 [(2, (-1)), (2, v1), (2, v2), (2, v3), (0, v4), (9, 0), (9, 0), (9, 0)] [] h r := by
  unfold f_Law_law_J895 at hr
  refine j_aload_n (pc := 895) d_Law_law_895 rfl ?_
  refine j_aload_n (pc := 896) d_Law_law_896 rfl ?_
  refine j_iload (pc := 897) d_Law_law_897 rfl ?_
  refine j_iconst (pc := 899) d_Law_law_899 ?_
  refine j_iadd (pc := 900) d_Law_law_900 ?_
  refine j_sload (pc := 901) d_Law_law_901 hr (fun hr => ?_)
  refine j_aload_n (pc := 902) d_Law_law_902 rfl ?_
  refine j_iload (pc := 903) d_Law_law_903 rfl ?_
  refine j_iconst (pc := 905) d_Law_law_905 ?_
  refine j_iadd (pc := 906) d_Law_law_906 ?_
  refine j_sload (pc := 907) d_Law_law_907 hr (fun hr => ?_)
  refine j_aload_n (pc := 908) d_Law_law_908 rfl ?_
  refine j_callR (pc := 909) (stk := [(2, v3), (0, gX G (w32 (v4 + 2))), (0, gX G (w32 (v4 + 1))), (2, v1)]) (as := [(2, v1), (0, gX G (w32 (v4 + 1))), (0, gX G (w32 (v4 + 2))), (2, v3)]) (P := (fun v9 => ((0 : Nat), v9) :: [])) (tg := 0) (My := M_Law_thief) (by decide) (mRunW (as := [(2, v1), (0, gX G (w32 (v4 + 1))), (0, gX G (w32 (v4 + 2))), (2, v3)]) (st := []) d_Law_law_909 (mc_Law_thief (by decide)) (by decide) ⟨tb_ml_Law_191, tb_sm_Law_thief⟩ rfl (Nat.le_of_ble_eq_true rfl)) (fun v => rfl) hr (fun r1 h1 => t_Law_thief _ _ _ _ _ _ h1) (fun x2 h1 hr => ?_)
  refine j_istore (pc := 912) (ls' := [(2, (-1)), (2, v1), (2, v2), (2, v3), (0, v4), (0, x2), (9, 0), (9, 0)]) d_Law_law_912 rfl ?_
  refine j_aload_n (pc := 914) d_Law_law_914 rfl ?_
  refine j_aload_n (pc := 915) d_Law_law_915 rfl ?_
  refine j_iload (pc := 916) d_Law_law_916 rfl ?_
  refine j_iconst (pc := 918) d_Law_law_918 ?_
  refine j_iadd (pc := 919) d_Law_law_919 ?_
  refine j_sload (pc := 920) d_Law_law_920 hr (fun hr => ?_)
  refine j_aload_n (pc := 921) d_Law_law_921 rfl ?_
  refine j_iload (pc := 922) d_Law_law_922 rfl ?_
  refine j_iconst (pc := 924) d_Law_law_924 ?_
  refine j_iadd (pc := 925) d_Law_law_925 ?_
  refine j_sload (pc := 926) d_Law_law_926 hr (fun hr => ?_)
  obtain ⟨ha, hr⟩ := chk_some hr
  refine j_callG (pc := 927) (stk := [(0, gX G (w32 (v4 + 2))), (0, gX G (w32 (v4 + 1))), (2, v2)]) (as := [(2, v2), (0, gX G (w32 (v4 + 1))), (0, gX G (w32 (v4 + 2)))]) (P := (fun v9 => ((0 : Nat), v9) :: [])) (tg := 0) (My := M_Md_thief) (mRunV (as := [(0, gX G (w32 (v4 + 1))), (0, gX G (w32 (v4 + 2)))]) (st := []) d_Law_law_927 (mc_Md_thief (by decide)) rfl (mv_Md_thief tb_ml_Law_193) rfl (Nat.le_of_ble_eq_true rfl) ha) (fun v => rfl) rfl hr (fun r1 h1 => t_Md_thief _ _ _ _ _ h1) (fun x4 h3 hr => ?_)
  refine j_istore (pc := 930) (ls' := [(2, (-1)), (2, v1), (2, v2), (2, v3), (0, v4), (0, x2), (0, x4), (9, 0)]) d_Law_law_930 rfl ?_
  refine j_aload_n (pc := 932) d_Law_law_932 rfl ?_
  obtain ⟨ha, hr⟩ := chk_some hr
  refine j_callG (pc := 933) (stk := [(2, v2)]) (as := [(2, v2)]) (P := (fun v9 => ((0 : Nat), v9) :: [])) (tg := 0) (My := M_Md_thrown) (mRunV (as := []) (st := []) d_Law_law_933 (mc_Md_thrown (by decide)) rfl (mv_Md_thrown tb_ml_Law_146) rfl (Nat.le_of_ble_eq_true rfl) ha) (fun v => rfl) rfl hr (fun r1 h1 => t_Md_thrown _ _ _ h1) (fun x6 h5 hr => ?_)
  refine j_iload (pc := 936) d_Law_law_936 rfl ?_
  refine j_icmp_eq (pc := 938) (tgt := 943) d_Law_law_938 hr (fun hr => ?_) (fun hr => ?_)
  · refine j_iload (pc := 943) d_Law_law_943 rfl ?_
    refine j_if_ne (pc := 945) (tgt := 960) d_Law_law_945 hr (fun hr => ?_) (fun hr => ?_)
    · exact mJ_weak (ls' := [(2, (-1)), (2, v1), (2, v2), (2, v3), (0, v4), (9, 0), (9, 0), (9, 0)]) (mwk_s (mwk_s (mwk_s (mwk_s (mwk_s (mwk_d (mwk_d (mwk_s mwk_n)))))))) (t_Law_law_J960 hR23 hr)
    · refine j_aload_n (pc := 948) d_Law_law_948 rfl ?_
      refine j_iconst (pc := 949) d_Law_law_949 ?_
      refine j_laload (pc := 950) d_Law_law_950 hr (fun hr => ?_)
      refine j_iload (pc := 951) d_Law_law_951 rfl ?_
      refine j_i2l (pc := 953) d_Law_law_953 ?_
      refine j_lcmp (pc := 954) d_Law_law_954 ?_
      refine j_if_eq (pc := 955) (tgt := 960) d_Law_law_955 hr (fun hr => ?_) (fun hr => ?_)
      · exact mJ_weak (ls' := [(2, (-1)), (2, v1), (2, v2), (2, v3), (0, v4), (9, 0), (9, 0), (9, 0)]) (mwk_s (mwk_s (mwk_s (mwk_s (mwk_s (mwk_d (mwk_d (mwk_s mwk_n)))))))) (t_Law_law_J960 hR23 hr)
      · refine j_iconst (pc := 958) d_Law_law_958 ?_
        exact j_zret (pc := 959) d_Law_law_959 rfl hr
  · refine j_iconst (pc := 941) d_Law_law_941 ?_
    exact j_zret (pc := 942) d_Law_law_942 rfl hr
theorem t_Law_law_J963 {G : mG} {r : mR} {v1 v2 v3 v4 : Int} {h : mH} {R23 : mH → Int → Option mR} (hR23 : ∀ (h : mH) (w4 : Int) , R23 h w4 = some r → mJ G M_Law_law 23 [(2, (-1)), (2, v1), (2, v2), (2, v3), (0, w4), (9, 0), (9, 0), (9, 0)] [] h r) (hr : f_Law_law_J963 G R23 v1 v2 v4 h = some r) : mJ G M_Law_law 963 [(2, (-1)), (2, v1), (2, v2), (2, v3), (0, v4), (9, 0), (9, 0), (9, 0)] [] h r := by
  unfold f_Law_law_J963 at hr
  refine j_aload_n (pc := 963) d_Law_law_963 rfl ?_
  obtain ⟨ha, hr⟩ := chk_some hr
  refine j_callG (pc := 964) (stk := [(2, v1)]) (as := [(2, v1)]) (P := (fun v9 => ((0 : Nat), v9) :: [])) (tg := 0) (My := M_Nb_reached) (mRunV (as := []) (st := []) d_Law_law_964 (mc_Nb_reached (by decide)) rfl (mv_Nb_reached tb_ml_Law_194) rfl (Nat.le_of_ble_eq_true rfl) ha) (fun v => rfl) rfl hr (fun r1 h1 => t_Nb_reached _ _ _ h1) (fun x2 h1 hr => ?_)
  refine j_aload_n (pc := 967) d_Law_law_967 rfl ?_
  obtain ⟨ha, hr⟩ := chk_some hr
  refine j_callG (pc := 968) (stk := [(2, v2), (0, x2)]) (as := [(2, v2)]) (P := (fun v9 => ((0 : Nat), v9) :: [(0, x2)])) (tg := 0) (My := M_Md_reached) (mRunV (as := []) (st := [(0, x2)]) d_Law_law_968 (mc_Md_reached (by decide)) rfl (mv_Md_reached tb_ml_Law_197) rfl (Nat.le_of_ble_eq_true rfl) ha) (fun v => rfl) rfl hr (fun r1 h1 => t_Md_reached _ _ _ h1) (fun x4 h3 hr => ?_)
  refine j_icmp_eq (pc := 971) (tgt := 2642) d_Law_law_971 hr (fun hr => ?_) (fun hr => ?_)
  · exact mJ_weak (ls' := [(2, (-1)), (2, v1), (2, v2), (2, v3), (0, v4), (9, 0), (9, 0), (9, 0)]) (mwk_s (mwk_s (mwk_s (mwk_s (mwk_s (mwk_s (mwk_s (mwk_s mwk_n)))))))) (t_Law_law_J2642 hR23 hr)
  · refine j_iconst (pc := 974) d_Law_law_974 ?_
    exact j_zret (pc := 975) d_Law_law_975 rfl hr
theorem t_Law_law_J1036 {G : mG} {r : mR} {v1 v2 v3 v4 : Int} {h : mH} {R23 : mH → Int → Option mR} (hR23 : ∀ (h : mH) (w4 : Int) , R23 h w4 = some r → mJ G M_Law_law 23 [(2, (-1)), (2, v1), (2, v2), (2, v3), (0, w4), (9, 0), (9, 0), (9, 0)] [] h r) (hr : f_Law_law_J1036 G R23 v4 h = some r) : mJ G M_Law_law 1036 [(2, (-1)), (2, v1), (2, v2), (2, v3), (0, v4), (9, 0), (9, 0), (9, 0)] [] h r := by
  unfold f_Law_law_J1036 at hr
  refine j_goto (pc := 1036) (tgt := 2642) d_Law_law_1036 ?_
  exact mJ_weak (ls' := [(2, (-1)), (2, v1), (2, v2), (2, v3), (0, v4), (9, 0), (9, 0), (9, 0)]) (mwk_s (mwk_s (mwk_s (mwk_s (mwk_s (mwk_s (mwk_s (mwk_s mwk_n)))))))) (t_Law_law_J2642 hR23 hr)
theorem t_Law_law_J1030 {G : mG} {r : mR} {v1 v2 v3 v4 s0 s1 : Int} {h : mH} {R23 : mH → Int → Option mR} (hR23 : ∀ (h : mH) (w4 : Int) , R23 h w4 = some r → mJ G M_Law_law 23 [(2, (-1)), (2, v1), (2, v2), (2, v3), (0, w4), (9, 0), (9, 0), (9, 0)] [] h r) (hr : f_Law_law_J1030 G R23 v4 s0 s1 h = some r) : mJ G M_Law_law 1030 [(2, (-1)), (2, v1), (2, v2), (2, v3), (0, v4), (9, 0), (9, 0), (9, 0)] [(1, s1), (1, s0)] h r := by
  unfold f_Law_law_J1030 at hr
  refine j_lcmp (pc := 1030) d_Law_law_1030 ?_
  refine j_if_eq (pc := 1031) (tgt := 1036) d_Law_law_1031 hr (fun hr => ?_) (fun hr => ?_)
  · exact mJ_weak (ls' := [(2, (-1)), (2, v1), (2, v2), (2, v3), (0, v4), (9, 0), (9, 0), (9, 0)]) (mwk_s (mwk_s (mwk_s (mwk_s (mwk_s (mwk_s (mwk_s (mwk_s mwk_n)))))))) (t_Law_law_J1036 hR23 hr)
  · refine j_iconst (pc := 1034) d_Law_law_1034 ?_
    exact j_zret (pc := 1035) d_Law_law_1035 rfl hr
theorem t_Law_law_J976 {G : mG} {r : mR} {v1 v2 v3 v4 : Int} {h : mH} {R23 : mH → Int → Option mR} (hR23 : ∀ (h : mH) (w4 : Int) , R23 h w4 = some r → mJ G M_Law_law 23 [(2, (-1)), (2, v1), (2, v2), (2, v3), (0, w4), (9, 0), (9, 0), (9, 0)] [] h r) (hr : f_Law_law_J976 G R23 v1 v2 v3 v4 h = some r) : mJ G M_Law_law 976 [(2, (-1)), (2, v1), (2, v2), (2, v3), (0, v4), (9, 0), (9, 0), (9, 0)] [] h r := by
  unfold f_Law_law_J976 at hr
  refine j_aload_n (pc := 976) d_Law_law_976 rfl ?_
  refine j_aload_n (pc := 977) d_Law_law_977 rfl ?_
  refine j_iload (pc := 978) d_Law_law_978 rfl ?_
  refine j_iconst (pc := 980) d_Law_law_980 ?_
  refine j_iadd (pc := 981) d_Law_law_981 ?_
  refine j_sload (pc := 982) d_Law_law_982 hr (fun hr => ?_)
  refine j_aload_n (pc := 983) d_Law_law_983 rfl ?_
  refine j_callR (pc := 984) (stk := [(2, v3), (0, gX G (w32 (v4 + 1))), (2, v1)]) (as := [(2, v1), (0, gX G (w32 (v4 + 1))), (2, v3)]) (P := (fun v9 => ((0 : Nat), v9) :: [])) (tg := 0) (My := M_Law_canBe) (by decide) (mRunW (as := [(2, v1), (0, gX G (w32 (v4 + 1))), (2, v3)]) (st := []) d_Law_law_984 (mc_Law_canBe (by decide)) (by decide) ⟨tb_ml_Law_198, tb_sm_Law_canBe⟩ rfl (Nat.le_of_ble_eq_true rfl)) (fun v => rfl) hr (fun r1 h1 => t_Law_canBe _ _ _ _ _ h1) (fun x2 h1 hr => ?_)
  refine j_istore (pc := 987) (ls' := [(2, (-1)), (2, v1), (2, v2), (2, v3), (0, v4), (0, x2), (9, 0), (9, 0)]) d_Law_law_987 rfl ?_
  refine j_aload_n (pc := 989) d_Law_law_989 rfl ?_
  refine j_aload_n (pc := 990) d_Law_law_990 rfl ?_
  refine j_iload (pc := 991) d_Law_law_991 rfl ?_
  refine j_iconst (pc := 993) d_Law_law_993 ?_
  refine j_iadd (pc := 994) d_Law_law_994 ?_
  refine j_sload (pc := 995) d_Law_law_995 hr (fun hr => ?_)
  obtain ⟨ha, hr⟩ := chk_some hr
  refine j_callG (pc := 996) (stk := [(0, gX G (w32 (v4 + 1))), (2, v2)]) (as := [(2, v2), (0, gX G (w32 (v4 + 1)))]) (P := (fun v9 => ((0 : Nat), v9) :: [])) (tg := 0) (My := M_Md_canBe) (mRunV (as := [(0, gX G (w32 (v4 + 1)))]) (st := []) d_Law_law_996 (mc_Md_canBe (by decide)) rfl (mv_Md_canBe tb_ml_Law_200) rfl (Nat.le_of_ble_eq_true rfl) ha) (fun v => rfl) rfl hr (fun r1 h1 => t_Md_canBe _ _ _ _ h1) (fun x4 h3 hr => ?_)
  refine j_istore (pc := 999) (ls' := [(2, (-1)), (2, v1), (2, v2), (2, v3), (0, v4), (0, x2), (0, x4), (9, 0)]) d_Law_law_999 rfl ?_
  refine j_aload_n (pc := 1001) d_Law_law_1001 rfl ?_
  obtain ⟨ha, hr⟩ := chk_some hr
  refine j_callG (pc := 1002) (stk := [(2, v2)]) (as := [(2, v2)]) (P := (fun v9 => ((0 : Nat), v9) :: [])) (tg := 0) (My := M_Md_thrown) (mRunV (as := []) (st := []) d_Law_law_1002 (mc_Md_thrown (by decide)) rfl (mv_Md_thrown tb_ml_Law_146) rfl (Nat.le_of_ble_eq_true rfl) ha) (fun v => rfl) rfl hr (fun r1 h1 => t_Md_thrown _ _ _ h1) (fun x6 h5 hr => ?_)
  refine j_iload (pc := 1005) d_Law_law_1005 rfl ?_
  refine j_icmp_eq (pc := 1007) (tgt := 1012) d_Law_law_1007 hr (fun hr => ?_) (fun hr => ?_)
  · refine j_iload (pc := 1012) d_Law_law_1012 rfl ?_
    refine j_if_ne (pc := 1014) (tgt := 1036) d_Law_law_1014 hr (fun hr => ?_) (fun hr => ?_)
    · exact mJ_weak (ls' := [(2, (-1)), (2, v1), (2, v2), (2, v3), (0, v4), (9, 0), (9, 0), (9, 0)]) (mwk_s (mwk_s (mwk_s (mwk_s (mwk_s (mwk_d (mwk_d (mwk_s mwk_n)))))))) (t_Law_law_J1036 hR23 hr)
    · refine j_aload_n (pc := 1017) d_Law_law_1017 rfl ?_
      refine j_iconst (pc := 1018) d_Law_law_1018 ?_
      refine j_laload (pc := 1019) d_Law_law_1019 hr (fun hr => ?_)
      refine j_iload (pc := 1020) d_Law_law_1020 rfl ?_
      refine j_if_eq (pc := 1022) (tgt := 1029) d_Law_law_1022 hr (fun hr => ?_) (fun hr => ?_)
      · refine j_lconst (pc := 1029) (z := 0) d_Law_law_1029 ?_
        exact mJ_weak (ls' := [(2, (-1)), (2, v1), (2, v2), (2, v3), (0, v4), (9, 0), (9, 0), (9, 0)]) (mwk_s (mwk_s (mwk_s (mwk_s (mwk_s (mwk_d (mwk_d (mwk_s mwk_n)))))))) (t_Law_law_J1030 hR23 hr)
      · refine j_lconst (pc := 1025) (z := 1) d_Law_law_1025 ?_
        refine j_goto (pc := 1026) (tgt := 1030) d_Law_law_1026 ?_
        exact mJ_weak (ls' := [(2, (-1)), (2, v1), (2, v2), (2, v3), (0, v4), (9, 0), (9, 0), (9, 0)]) (mwk_s (mwk_s (mwk_s (mwk_s (mwk_s (mwk_d (mwk_d (mwk_s mwk_n)))))))) (t_Law_law_J1030 hR23 hr)
  · refine j_iconst (pc := 1010) d_Law_law_1010 ?_
    exact j_zret (pc := 1011) d_Law_law_1011 rfl hr
theorem t_Law_law_J1116 {G : mG} {r : mR} {v1 v2 v3 v4 : Int} {h : mH} {R23 : mH → Int → Option mR} (hR23 : ∀ (h : mH) (w4 : Int) , R23 h w4 = some r → mJ G M_Law_law 23 [(2, (-1)), (2, v1), (2, v2), (2, v3), (0, w4), (9, 0), (9, 0), (9, 0)] [] h r) (hr : f_Law_law_J1116 G R23 v4 h = some r) : mJ G M_Law_law 1116 [(2, (-1)), (2, v1), (2, v2), (2, v3), (0, v4), (9, 0), (9, 0), (9, 0)] [] h r := by
  unfold f_Law_law_J1116 at hr
  refine j_goto (pc := 1116) (tgt := 2642) d_Law_law_1116 ?_
  exact mJ_weak (ls' := [(2, (-1)), (2, v1), (2, v2), (2, v3), (0, v4), (9, 0), (9, 0), (9, 0)]) (mwk_s (mwk_s (mwk_s (mwk_s (mwk_s (mwk_s (mwk_s (mwk_s mwk_n)))))))) (t_Law_law_J2642 hR23 hr)
theorem t_Law_law_J1039 {G : mG} {r : mR} {v1 v2 v3 v4 : Int} {h : mH} {R23 : mH → Int → Option mR} (hR23 : ∀ (h : mH) (w4 : Int) , R23 h w4 = some r → mJ G M_Law_law 23 [(2, (-1)), (2, v1), (2, v2), (2, v3), (0, w4), (9, 0), (9, 0), (9, 0)] [] h r) (hr : f_Law_law_J1039 G R23 v1 v2 v3 v4 h = some r) : mJ G M_Law_law 1039 [(2, (-1)), (2, v1), (2, v2), (2, v3), (0, v4), (9, 0), (9, 0), (9, 0)] [] h r := by
  unfold f_Law_law_J1039 at hr
  refine j_aload_n (pc := 1039) d_Law_law_1039 rfl ?_
  refine j_aload_n (pc := 1040) d_Law_law_1040 rfl ?_
  refine j_iload (pc := 1041) d_Law_law_1041 rfl ?_
  refine j_iconst (pc := 1043) d_Law_law_1043 ?_
  refine j_iadd (pc := 1044) d_Law_law_1044 ?_
  refine j_sload (pc := 1045) d_Law_law_1045 hr (fun hr => ?_)
  refine j_aload_n (pc := 1046) d_Law_law_1046 rfl ?_
  refine j_iload (pc := 1047) d_Law_law_1047 rfl ?_
  refine j_iconst (pc := 1049) d_Law_law_1049 ?_
  refine j_iadd (pc := 1050) d_Law_law_1050 ?_
  refine j_sload (pc := 1051) d_Law_law_1051 hr (fun hr => ?_)
  refine j_aload_n (pc := 1052) d_Law_law_1052 rfl ?_
  refine j_iload (pc := 1053) d_Law_law_1053 rfl ?_
  refine j_iconst (pc := 1055) d_Law_law_1055 ?_
  refine j_iadd (pc := 1056) d_Law_law_1056 ?_
  refine j_sload (pc := 1057) d_Law_law_1057 hr (fun hr => ?_)
  refine j_aload_n (pc := 1058) d_Law_law_1058 rfl ?_
  refine j_callR (pc := 1059) (stk := [(2, v3), (0, gX G (w32 (v4 + 3))), (0, gX G (w32 (v4 + 2))), (0, gX G (w32 (v4 + 1))), (2, v1)]) (as := [(2, v1), (0, gX G (w32 (v4 + 1))), (0, gX G (w32 (v4 + 2))), (0, gX G (w32 (v4 + 3))), (2, v3)]) (P := (fun v9 => ((0 : Nat), v9) :: [])) (tg := 0) (My := M_Law_shortest) (by decide) (mRunW (as := [(2, v1), (0, gX G (w32 (v4 + 1))), (0, gX G (w32 (v4 + 2))), (0, gX G (w32 (v4 + 3))), (2, v3)]) (st := []) d_Law_law_1059 (mc_Law_shortest (by decide)) (by decide) ⟨tb_ml_Law_201, tb_sm_Law_shortest⟩ rfl (Nat.le_of_ble_eq_true rfl)) (fun v => rfl) hr (fun r1 h1 => t_Law_shortest _ _ _ _ _ _ _ h1) (fun x2 h1 hr => ?_)
  refine j_istore (pc := 1062) (ls' := [(2, (-1)), (2, v1), (2, v2), (2, v3), (0, v4), (0, x2), (9, 0), (9, 0)]) d_Law_law_1062 rfl ?_
  refine j_aload_n (pc := 1064) d_Law_law_1064 rfl ?_
  refine j_aload_n (pc := 1065) d_Law_law_1065 rfl ?_
  refine j_iload (pc := 1066) d_Law_law_1066 rfl ?_
  refine j_iconst (pc := 1068) d_Law_law_1068 ?_
  refine j_iadd (pc := 1069) d_Law_law_1069 ?_
  refine j_sload (pc := 1070) d_Law_law_1070 hr (fun hr => ?_)
  refine j_aload_n (pc := 1071) d_Law_law_1071 rfl ?_
  refine j_iload (pc := 1072) d_Law_law_1072 rfl ?_
  refine j_iconst (pc := 1074) d_Law_law_1074 ?_
  refine j_iadd (pc := 1075) d_Law_law_1075 ?_
  refine j_sload (pc := 1076) d_Law_law_1076 hr (fun hr => ?_)
  refine j_aload_n (pc := 1077) d_Law_law_1077 rfl ?_
  refine j_iload (pc := 1078) d_Law_law_1078 rfl ?_
  refine j_iconst (pc := 1080) d_Law_law_1080 ?_
  refine j_iadd (pc := 1081) d_Law_law_1081 ?_
  refine j_sload (pc := 1082) d_Law_law_1082 hr (fun hr => ?_)
  obtain ⟨ha, hr⟩ := chk_some hr
  refine j_callG (pc := 1083) (stk := [(0, gX G (w32 (v4 + 3))), (0, gX G (w32 (v4 + 2))), (0, gX G (w32 (v4 + 1))), (2, v2)]) (as := [(2, v2), (0, gX G (w32 (v4 + 1))), (0, gX G (w32 (v4 + 2))), (0, gX G (w32 (v4 + 3)))]) (P := (fun v9 => ((0 : Nat), v9) :: [])) (tg := 0) (My := M_Md_shortest) (mRunV (as := [(0, gX G (w32 (v4 + 1))), (0, gX G (w32 (v4 + 2))), (0, gX G (w32 (v4 + 3)))]) (st := []) d_Law_law_1083 (mc_Md_shortest (by decide)) rfl (mv_Md_shortest tb_ml_Law_204) rfl (Nat.le_of_ble_eq_true rfl) ha) (fun v => rfl) rfl hr (fun r1 h1 => t_Md_shortest _ _ _ _ _ _ h1) (fun x4 h3 hr => ?_)
  refine j_istore (pc := 1086) (ls' := [(2, (-1)), (2, v1), (2, v2), (2, v3), (0, v4), (0, x2), (0, x4), (9, 0)]) d_Law_law_1086 rfl ?_
  refine j_aload_n (pc := 1088) d_Law_law_1088 rfl ?_
  obtain ⟨ha, hr⟩ := chk_some hr
  refine j_callG (pc := 1089) (stk := [(2, v2)]) (as := [(2, v2)]) (P := (fun v9 => ((0 : Nat), v9) :: [])) (tg := 0) (My := M_Md_thrown) (mRunV (as := []) (st := []) d_Law_law_1089 (mc_Md_thrown (by decide)) rfl (mv_Md_thrown tb_ml_Law_146) rfl (Nat.le_of_ble_eq_true rfl) ha) (fun v => rfl) rfl hr (fun r1 h1 => t_Md_thrown _ _ _ h1) (fun x6 h5 hr => ?_)
  refine j_iload (pc := 1092) d_Law_law_1092 rfl ?_
  refine j_icmp_eq (pc := 1094) (tgt := 1099) d_Law_law_1094 hr (fun hr => ?_) (fun hr => ?_)
  · refine j_iload (pc := 1099) d_Law_law_1099 rfl ?_
    refine j_if_ne (pc := 1101) (tgt := 1116) d_Law_law_1101 hr (fun hr => ?_) (fun hr => ?_)
    · exact mJ_weak (ls' := [(2, (-1)), (2, v1), (2, v2), (2, v3), (0, v4), (9, 0), (9, 0), (9, 0)]) (mwk_s (mwk_s (mwk_s (mwk_s (mwk_s (mwk_d (mwk_d (mwk_s mwk_n)))))))) (t_Law_law_J1116 hR23 hr)
    · refine j_aload_n (pc := 1104) d_Law_law_1104 rfl ?_
      refine j_iconst (pc := 1105) d_Law_law_1105 ?_
      refine j_laload (pc := 1106) d_Law_law_1106 hr (fun hr => ?_)
      refine j_iload (pc := 1107) d_Law_law_1107 rfl ?_
      refine j_i2l (pc := 1109) d_Law_law_1109 ?_
      refine j_lcmp (pc := 1110) d_Law_law_1110 ?_
      refine j_if_eq (pc := 1111) (tgt := 1116) d_Law_law_1111 hr (fun hr => ?_) (fun hr => ?_)
      · exact mJ_weak (ls' := [(2, (-1)), (2, v1), (2, v2), (2, v3), (0, v4), (9, 0), (9, 0), (9, 0)]) (mwk_s (mwk_s (mwk_s (mwk_s (mwk_s (mwk_d (mwk_d (mwk_s mwk_n)))))))) (t_Law_law_J1116 hR23 hr)
      · refine j_iconst (pc := 1114) d_Law_law_1114 ?_
        exact j_zret (pc := 1115) d_Law_law_1115 rfl hr
  · refine j_iconst (pc := 1097) d_Law_law_1097 ?_
    exact j_zret (pc := 1098) d_Law_law_1098 rfl hr
theorem t_Law_law_J1172 {G : mG} {r : mR} {v1 v2 v3 v4 : Int} {h : mH} {R23 : mH → Int → Option mR} (hR23 : ∀ (h : mH) (w4 : Int) , R23 h w4 = some r → mJ G M_Law_law 23 [(2, (-1)), (2, v1), (2, v2), (2, v3), (0, w4), (9, 0), (9, 0), (9, 0)] [] h r) (hr : f_Law_law_J1172 G R23 v4 h = some r) : mJ G M_Law_law 1172 [(2, (-1)), (2, v1), (2, v2), (2, v3), (0, v4), (9, 0), (9, 0), (9, 0)] [] h r := by
  unfold f_Law_law_J1172 at hr
  refine j_goto (pc := 1172) (tgt := 2642) d_Law_law_1172 ?_
  exact mJ_weak (ls' := [(2, (-1)), (2, v1), (2, v2), (2, v3), (0, v4), (9, 0), (9, 0), (9, 0)]) (mwk_s (mwk_s (mwk_s (mwk_s (mwk_s (mwk_s (mwk_s (mwk_s mwk_n)))))))) (t_Law_law_J2642 hR23 hr)
theorem t_Law_law_J1119 {G : mG} {r : mR} {v1 v2 v3 v4 : Int} {h : mH} {R23 : mH → Int → Option mR} (hR23 : ∀ (h : mH) (w4 : Int) , R23 h w4 = some r → mJ G M_Law_law 23 [(2, (-1)), (2, v1), (2, v2), (2, v3), (0, w4), (9, 0), (9, 0), (9, 0)] [] h r) (hr : f_Law_law_J1119 G R23 v1 v2 v3 v4 h = some r) : mJ G M_Law_law 1119 [(2, (-1)), (2, v1), (2, v2), (2, v3), (0, v4), (9, 0), (9, 0), (9, 0)] [] h r := by
  unfold f_Law_law_J1119 at hr
  refine j_aload_n (pc := 1119) d_Law_law_1119 rfl ?_
  refine j_aload_n (pc := 1120) d_Law_law_1120 rfl ?_
  refine j_iload (pc := 1121) d_Law_law_1121 rfl ?_
  refine j_iconst (pc := 1123) d_Law_law_1123 ?_
  refine j_iadd (pc := 1124) d_Law_law_1124 ?_
  refine j_sload (pc := 1125) d_Law_law_1125 hr (fun hr => ?_)
  refine j_aload_n (pc := 1126) d_Law_law_1126 rfl ?_
  refine j_callR (pc := 1127) (stk := [(2, v3), (0, gX G (w32 (v4 + 1))), (2, v1)]) (as := [(2, v1), (0, gX G (w32 (v4 + 1))), (2, v3)]) (P := (fun v9 => ((0 : Nat), v9) :: [])) (tg := 0) (My := M_Law_opening) (by decide) (mRunW (as := [(2, v1), (0, gX G (w32 (v4 + 1))), (2, v3)]) (st := []) d_Law_law_1127 (mc_Law_opening (by decide)) (by decide) ⟨tb_ml_Law_205, tb_sm_Law_opening⟩ rfl (Nat.le_of_ble_eq_true rfl)) (fun v => rfl) hr (fun r1 h1 => t_Law_opening _ _ _ _ _ h1) (fun x2 h1 hr => ?_)
  refine j_istore (pc := 1130) (ls' := [(2, (-1)), (2, v1), (2, v2), (2, v3), (0, v4), (0, x2), (9, 0), (9, 0)]) d_Law_law_1130 rfl ?_
  refine j_aload_n (pc := 1132) d_Law_law_1132 rfl ?_
  refine j_aload_n (pc := 1133) d_Law_law_1133 rfl ?_
  refine j_iload (pc := 1134) d_Law_law_1134 rfl ?_
  refine j_iconst (pc := 1136) d_Law_law_1136 ?_
  refine j_iadd (pc := 1137) d_Law_law_1137 ?_
  refine j_sload (pc := 1138) d_Law_law_1138 hr (fun hr => ?_)
  obtain ⟨ha, hr⟩ := chk_some hr
  refine j_callG (pc := 1139) (stk := [(0, gX G (w32 (v4 + 1))), (2, v2)]) (as := [(2, v2), (0, gX G (w32 (v4 + 1)))]) (P := (fun v9 => ((0 : Nat), v9) :: [])) (tg := 0) (My := M_Md_opening) (mRunV (as := [(0, gX G (w32 (v4 + 1)))]) (st := []) d_Law_law_1139 (mc_Md_opening (by decide)) rfl (mv_Md_opening tb_ml_Law_207) rfl (Nat.le_of_ble_eq_true rfl) ha) (fun v => rfl) rfl hr (fun r1 h1 => t_Md_opening _ _ _ _ h1) (fun x4 h3 hr => ?_)
  refine j_istore (pc := 1142) (ls' := [(2, (-1)), (2, v1), (2, v2), (2, v3), (0, v4), (0, x2), (0, x4), (9, 0)]) d_Law_law_1142 rfl ?_
  refine j_aload_n (pc := 1144) d_Law_law_1144 rfl ?_
  obtain ⟨ha, hr⟩ := chk_some hr
  refine j_callG (pc := 1145) (stk := [(2, v2)]) (as := [(2, v2)]) (P := (fun v9 => ((0 : Nat), v9) :: [])) (tg := 0) (My := M_Md_thrown) (mRunV (as := []) (st := []) d_Law_law_1145 (mc_Md_thrown (by decide)) rfl (mv_Md_thrown tb_ml_Law_146) rfl (Nat.le_of_ble_eq_true rfl) ha) (fun v => rfl) rfl hr (fun r1 h1 => t_Md_thrown _ _ _ h1) (fun x6 h5 hr => ?_)
  refine j_iload (pc := 1148) d_Law_law_1148 rfl ?_
  refine j_icmp_eq (pc := 1150) (tgt := 1155) d_Law_law_1150 hr (fun hr => ?_) (fun hr => ?_)
  · refine j_iload (pc := 1155) d_Law_law_1155 rfl ?_
    refine j_if_ne (pc := 1157) (tgt := 1172) d_Law_law_1157 hr (fun hr => ?_) (fun hr => ?_)
    · exact mJ_weak (ls' := [(2, (-1)), (2, v1), (2, v2), (2, v3), (0, v4), (9, 0), (9, 0), (9, 0)]) (mwk_s (mwk_s (mwk_s (mwk_s (mwk_s (mwk_d (mwk_d (mwk_s mwk_n)))))))) (t_Law_law_J1172 hR23 hr)
    · refine j_aload_n (pc := 1160) d_Law_law_1160 rfl ?_
      refine j_iconst (pc := 1161) d_Law_law_1161 ?_
      refine j_laload (pc := 1162) d_Law_law_1162 hr (fun hr => ?_)
      refine j_iload (pc := 1163) d_Law_law_1163 rfl ?_
      refine j_i2l (pc := 1165) d_Law_law_1165 ?_
      refine j_lcmp (pc := 1166) d_Law_law_1166 ?_
      refine j_if_eq (pc := 1167) (tgt := 1172) d_Law_law_1167 hr (fun hr => ?_) (fun hr => ?_)
      · exact mJ_weak (ls' := [(2, (-1)), (2, v1), (2, v2), (2, v3), (0, v4), (9, 0), (9, 0), (9, 0)]) (mwk_s (mwk_s (mwk_s (mwk_s (mwk_s (mwk_d (mwk_d (mwk_s mwk_n)))))))) (t_Law_law_J1172 hR23 hr)
      · refine j_iconst (pc := 1170) d_Law_law_1170 ?_
        exact j_zret (pc := 1171) d_Law_law_1171 rfl hr
  · refine j_iconst (pc := 1153) d_Law_law_1153 ?_
    exact j_zret (pc := 1154) d_Law_law_1154 rfl hr
theorem t_Law_law_J1215 {G : mG} {r : mR} {v1 v2 v3 v4 : Int} {h : mH} {R23 : mH → Int → Option mR} (hR23 : ∀ (h : mH) (w4 : Int) , R23 h w4 = some r → mJ G M_Law_law 23 [(2, (-1)), (2, v1), (2, v2), (2, v3), (0, w4), (9, 0), (9, 0), (9, 0)] [] h r) (hr : f_Law_law_J1215 G R23 v4 h = some r) : mJ G M_Law_law 1215 [(2, (-1)), (2, v1), (2, v2), (2, v3), (0, v4), (9, 0), (9, 0), (9, 0)] [] h r := by
  unfold f_Law_law_J1215 at hr
  refine j_goto (pc := 1215) (tgt := 2642) d_Law_law_1215 ?_
  exact mJ_weak (ls' := [(2, (-1)), (2, v1), (2, v2), (2, v3), (0, v4), (9, 0), (9, 0), (9, 0)]) (mwk_s (mwk_s (mwk_s (mwk_s (mwk_s (mwk_s (mwk_s (mwk_s mwk_n)))))))) (t_Law_law_J2642 hR23 hr)
theorem t_Law_law_J1175 {G : mG} {r : mR} {v1 v2 v3 v4 : Int} {h : mH} {R23 : mH → Int → Option mR} (hR23 : ∀ (h : mH) (w4 : Int) , R23 h w4 = some r → mJ G M_Law_law 23 [(2, (-1)), (2, v1), (2, v2), (2, v3), (0, w4), (9, 0), (9, 0), (9, 0)] [] h r) (hr : f_Law_law_J1175 G R23 v1 v2 v3 v4 h = some r) : mJ G M_Law_law 1175 [(2, (-1)), (2, v1), (2, v2), (2, v3), (0, v4), (9, 0), (9, 0), (9, 0)] [] h r := by
  unfold f_Law_law_J1175 at hr
  refine j_aload_n (pc := 1175) d_Law_law_1175 rfl ?_
  refine j_aload_n (pc := 1176) d_Law_law_1176 rfl ?_
  refine j_callR (pc := 1177) (stk := [(2, v3), (2, v1)]) (as := [(2, v1), (2, v3)]) (P := (fun v9 => ((0 : Nat), v9) :: [])) (tg := 0) (My := M_Law_ways) (by decide) (mRunW (as := [(2, v1), (2, v3)]) (st := []) d_Law_law_1177 (mc_Law_ways (by decide)) (by decide) ⟨tb_ml_Law_208, tb_sm_Law_ways⟩ rfl (Nat.le_of_ble_eq_true rfl)) (fun v => rfl) hr (fun r1 h1 => t_Law_ways _ _ _ _ h1) (fun x2 h1 hr => ?_)
  refine j_istore (pc := 1180) (ls' := [(2, (-1)), (2, v1), (2, v2), (2, v3), (0, v4), (0, x2), (9, 0), (9, 0)]) d_Law_law_1180 rfl ?_
  refine j_aload_n (pc := 1182) d_Law_law_1182 rfl ?_
  obtain ⟨ha, hr⟩ := chk_some hr
  refine j_callG (pc := 1183) (stk := [(2, v2)]) (as := [(2, v2)]) (P := (fun v9 => ((1 : Nat), v9) :: [])) (tg := 1) (My := M_Md_ways) (mRunV (as := []) (st := []) d_Law_law_1183 (mc_Md_ways (by decide)) rfl (mv_Md_ways tb_ml_Law_211) rfl (Nat.le_of_ble_eq_true rfl) ha) (fun v => rfl) rfl hr (fun r1 h1 => t_Md_ways _ _ _ h1) (fun x4 h3 hr => ?_)
  refine j_lstore (pc := 1186) (ls' := [(2, (-1)), (2, v1), (2, v2), (2, v3), (0, v4), (0, x2), (1, x4), (9, 0)]) d_Law_law_1186 rfl ?_
  refine j_aload_n (pc := 1188) d_Law_law_1188 rfl ?_
  obtain ⟨ha, hr⟩ := chk_some hr
  refine j_callG (pc := 1189) (stk := [(2, v2)]) (as := [(2, v2)]) (P := (fun v9 => ((0 : Nat), v9) :: [])) (tg := 0) (My := M_Md_thrown) (mRunV (as := []) (st := []) d_Law_law_1189 (mc_Md_thrown (by decide)) rfl (mv_Md_thrown tb_ml_Law_146) rfl (Nat.le_of_ble_eq_true rfl) ha) (fun v => rfl) rfl hr (fun r1 h1 => t_Md_thrown _ _ _ h1) (fun x6 h5 hr => ?_)
  refine j_iload (pc := 1192) d_Law_law_1192 rfl ?_
  refine j_icmp_eq (pc := 1194) (tgt := 1199) d_Law_law_1194 hr (fun hr => ?_) (fun hr => ?_)
  · refine j_iload (pc := 1199) d_Law_law_1199 rfl ?_
    refine j_if_ne (pc := 1201) (tgt := 1215) d_Law_law_1201 hr (fun hr => ?_) (fun hr => ?_)
    · exact mJ_weak (ls' := [(2, (-1)), (2, v1), (2, v2), (2, v3), (0, v4), (9, 0), (9, 0), (9, 0)]) (mwk_s (mwk_s (mwk_s (mwk_s (mwk_s (mwk_d (mwk_d (mwk_s mwk_n)))))))) (t_Law_law_J1215 hR23 hr)
    · refine j_aload_n (pc := 1204) d_Law_law_1204 rfl ?_
      refine j_iconst (pc := 1205) d_Law_law_1205 ?_
      refine j_laload (pc := 1206) d_Law_law_1206 hr (fun hr => ?_)
      refine j_lload (pc := 1207) d_Law_law_1207 rfl ?_
      refine j_lcmp (pc := 1209) d_Law_law_1209 ?_
      refine j_if_eq (pc := 1210) (tgt := 1215) d_Law_law_1210 hr (fun hr => ?_) (fun hr => ?_)
      · exact mJ_weak (ls' := [(2, (-1)), (2, v1), (2, v2), (2, v3), (0, v4), (9, 0), (9, 0), (9, 0)]) (mwk_s (mwk_s (mwk_s (mwk_s (mwk_s (mwk_d (mwk_d (mwk_s mwk_n)))))))) (t_Law_law_J1215 hR23 hr)
      · refine j_iconst (pc := 1213) d_Law_law_1213 ?_
        exact j_zret (pc := 1214) d_Law_law_1214 rfl hr
  · refine j_iconst (pc := 1197) d_Law_law_1197 ?_
    exact j_zret (pc := 1198) d_Law_law_1198 rfl hr
theorem t_Law_law_J1271 {G : mG} {r : mR} {v1 v2 v3 v4 : Int} {h : mH} {R23 : mH → Int → Option mR} (hR23 : ∀ (h : mH) (w4 : Int) , R23 h w4 = some r → mJ G M_Law_law 23 [(2, (-1)), (2, v1), (2, v2), (2, v3), (0, w4), (9, 0), (9, 0), (9, 0)] [] h r) (hr : f_Law_law_J1271 G R23 v4 h = some r) : mJ G M_Law_law 1271 [(2, (-1)), (2, v1), (2, v2), (2, v3), (0, v4), (9, 0), (9, 0), (9, 0)] [] h r := by
  unfold f_Law_law_J1271 at hr
  refine j_goto (pc := 1271) (tgt := 2642) d_Law_law_1271 ?_
  exact mJ_weak (ls' := [(2, (-1)), (2, v1), (2, v2), (2, v3), (0, v4), (9, 0), (9, 0), (9, 0)]) (mwk_s (mwk_s (mwk_s (mwk_s (mwk_s (mwk_s (mwk_s (mwk_s mwk_n)))))))) (t_Law_law_J2642 hR23 hr)
theorem t_Law_law_J1218 {G : mG} {r : mR} {v1 v2 v3 v4 : Int} {h : mH} {R23 : mH → Int → Option mR} (hR23 : ∀ (h : mH) (w4 : Int) , R23 h w4 = some r → mJ G M_Law_law 23 [(2, (-1)), (2, v1), (2, v2), (2, v3), (0, w4), (9, 0), (9, 0), (9, 0)] [] h r) (hr : f_Law_law_J1218 G R23 v1 v2 v3 v4 h = some r) : mJ G M_Law_law 1218 [(2, (-1)), (2, v1), (2, v2), (2, v3), (0, v4), (9, 0), (9, 0), (9, 0)] [] h r := by
  unfold f_Law_law_J1218 at hr
  refine j_aload_n (pc := 1218) d_Law_law_1218 rfl ?_
  refine j_aload_n (pc := 1219) d_Law_law_1219 rfl ?_
  refine j_iload (pc := 1220) d_Law_law_1220 rfl ?_
  refine j_iconst (pc := 1222) d_Law_law_1222 ?_
  refine j_iadd (pc := 1223) d_Law_law_1223 ?_
  refine j_sload (pc := 1224) d_Law_law_1224 hr (fun hr => ?_)
  refine j_aload_n (pc := 1225) d_Law_law_1225 rfl ?_
  refine j_callR (pc := 1226) (stk := [(2, v3), (0, gX G (w32 (v4 + 1))), (2, v1)]) (as := [(2, v1), (0, gX G (w32 (v4 + 1))), (2, v3)]) (P := (fun v9 => ((0 : Nat), v9) :: [])) (tg := 0) (My := M_Law_farthest) (by decide) (mRunW (as := [(2, v1), (0, gX G (w32 (v4 + 1))), (2, v3)]) (st := []) d_Law_law_1226 (mc_Law_farthest (by decide)) (by decide) ⟨tb_ml_Law_212, tb_sm_Law_farthest⟩ rfl (Nat.le_of_ble_eq_true rfl)) (fun v => rfl) hr (fun r1 h1 => t_Law_farthest _ _ _ _ _ h1) (fun x2 h1 hr => ?_)
  refine j_istore (pc := 1229) (ls' := [(2, (-1)), (2, v1), (2, v2), (2, v3), (0, v4), (0, x2), (9, 0), (9, 0)]) d_Law_law_1229 rfl ?_
  refine j_aload_n (pc := 1231) d_Law_law_1231 rfl ?_
  refine j_aload_n (pc := 1232) d_Law_law_1232 rfl ?_
  refine j_iload (pc := 1233) d_Law_law_1233 rfl ?_
  refine j_iconst (pc := 1235) d_Law_law_1235 ?_
  refine j_iadd (pc := 1236) d_Law_law_1236 ?_
  refine j_sload (pc := 1237) d_Law_law_1237 hr (fun hr => ?_)
  obtain ⟨ha, hr⟩ := chk_some hr
  refine j_callG (pc := 1238) (stk := [(0, gX G (w32 (v4 + 1))), (2, v2)]) (as := [(2, v2), (0, gX G (w32 (v4 + 1)))]) (P := (fun v9 => ((0 : Nat), v9) :: [])) (tg := 0) (My := M_Md_farthest) (mRunV (as := [(0, gX G (w32 (v4 + 1)))]) (st := []) d_Law_law_1238 (mc_Md_farthest (by decide)) rfl (mv_Md_farthest tb_ml_Law_214) rfl (Nat.le_of_ble_eq_true rfl) ha) (fun v => rfl) rfl hr (fun r1 h1 => t_Md_farthest _ _ _ _ h1) (fun x4 h3 hr => ?_)
  refine j_istore (pc := 1241) (ls' := [(2, (-1)), (2, v1), (2, v2), (2, v3), (0, v4), (0, x2), (0, x4), (9, 0)]) d_Law_law_1241 rfl ?_
  refine j_aload_n (pc := 1243) d_Law_law_1243 rfl ?_
  obtain ⟨ha, hr⟩ := chk_some hr
  refine j_callG (pc := 1244) (stk := [(2, v2)]) (as := [(2, v2)]) (P := (fun v9 => ((0 : Nat), v9) :: [])) (tg := 0) (My := M_Md_thrown) (mRunV (as := []) (st := []) d_Law_law_1244 (mc_Md_thrown (by decide)) rfl (mv_Md_thrown tb_ml_Law_146) rfl (Nat.le_of_ble_eq_true rfl) ha) (fun v => rfl) rfl hr (fun r1 h1 => t_Md_thrown _ _ _ h1) (fun x6 h5 hr => ?_)
  refine j_iload (pc := 1247) d_Law_law_1247 rfl ?_
  refine j_icmp_eq (pc := 1249) (tgt := 1254) d_Law_law_1249 hr (fun hr => ?_) (fun hr => ?_)
  · refine j_iload (pc := 1254) d_Law_law_1254 rfl ?_
    refine j_if_ne (pc := 1256) (tgt := 1271) d_Law_law_1256 hr (fun hr => ?_) (fun hr => ?_)
    · exact mJ_weak (ls' := [(2, (-1)), (2, v1), (2, v2), (2, v3), (0, v4), (9, 0), (9, 0), (9, 0)]) (mwk_s (mwk_s (mwk_s (mwk_s (mwk_s (mwk_d (mwk_d (mwk_s mwk_n)))))))) (t_Law_law_J1271 hR23 hr)
    · refine j_aload_n (pc := 1259) d_Law_law_1259 rfl ?_
      refine j_iconst (pc := 1260) d_Law_law_1260 ?_
      refine j_laload (pc := 1261) d_Law_law_1261 hr (fun hr => ?_)
      refine j_iload (pc := 1262) d_Law_law_1262 rfl ?_
      refine j_i2l (pc := 1264) d_Law_law_1264 ?_
      refine j_lcmp (pc := 1265) d_Law_law_1265 ?_
      refine j_if_eq (pc := 1266) (tgt := 1271) d_Law_law_1266 hr (fun hr => ?_) (fun hr => ?_)
      · exact mJ_weak (ls' := [(2, (-1)), (2, v1), (2, v2), (2, v3), (0, v4), (9, 0), (9, 0), (9, 0)]) (mwk_s (mwk_s (mwk_s (mwk_s (mwk_s (mwk_d (mwk_d (mwk_s mwk_n)))))))) (t_Law_law_J1271 hR23 hr)
      · refine j_iconst (pc := 1269) d_Law_law_1269 ?_
        exact j_zret (pc := 1270) d_Law_law_1270 rfl hr
  · refine j_iconst (pc := 1252) d_Law_law_1252 ?_
    exact j_zret (pc := 1253) d_Law_law_1253 rfl hr
theorem t_Law_law_J1327 {G : mG} {r : mR} {v1 v2 v3 v4 : Int} {h : mH} {R23 : mH → Int → Option mR} (hR23 : ∀ (h : mH) (w4 : Int) , R23 h w4 = some r → mJ G M_Law_law 23 [(2, (-1)), (2, v1), (2, v2), (2, v3), (0, w4), (9, 0), (9, 0), (9, 0)] [] h r) (hr : f_Law_law_J1327 G R23 v4 h = some r) : mJ G M_Law_law 1327 [(2, (-1)), (2, v1), (2, v2), (2, v3), (0, v4), (9, 0), (9, 0), (9, 0)] [] h r := by
  unfold f_Law_law_J1327 at hr
  refine j_goto (pc := 1327) (tgt := 2642) d_Law_law_1327 ?_
  exact mJ_weak (ls' := [(2, (-1)), (2, v1), (2, v2), (2, v3), (0, v4), (9, 0), (9, 0), (9, 0)]) (mwk_s (mwk_s (mwk_s (mwk_s (mwk_s (mwk_s (mwk_s (mwk_s mwk_n)))))))) (t_Law_law_J2642 hR23 hr)
theorem t_Law_law_J1274 {G : mG} {r : mR} {v1 v2 v3 v4 : Int} {h : mH} {R23 : mH → Int → Option mR} (hR23 : ∀ (h : mH) (w4 : Int) , R23 h w4 = some r → mJ G M_Law_law 23 [(2, (-1)), (2, v1), (2, v2), (2, v3), (0, w4), (9, 0), (9, 0), (9, 0)] [] h r) (hr : f_Law_law_J1274 G R23 v1 v2 v3 v4 h = some r) : mJ G M_Law_law 1274 [(2, (-1)), (2, v1), (2, v2), (2, v3), (0, v4), (9, 0), (9, 0), (9, 0)] [] h r := by
  unfold f_Law_law_J1274 at hr
  refine j_aload_n (pc := 1274) d_Law_law_1274 rfl ?_
  refine j_aload_n (pc := 1275) d_Law_law_1275 rfl ?_
  refine j_iload (pc := 1276) d_Law_law_1276 rfl ?_
  refine j_iconst (pc := 1278) d_Law_law_1278 ?_
  refine j_iadd (pc := 1279) d_Law_law_1279 ?_
  refine j_sload (pc := 1280) d_Law_law_1280 hr (fun hr => ?_)
  refine j_aload_n (pc := 1281) d_Law_law_1281 rfl ?_
  refine j_callR (pc := 1282) (stk := [(2, v3), (0, gX G (w32 (v4 + 1))), (2, v1)]) (as := [(2, v1), (0, gX G (w32 (v4 + 1))), (2, v3)]) (P := (fun v9 => ((0 : Nat), v9) :: [])) (tg := 0) (My := M_Law_within) (by decide) (mRunW (as := [(2, v1), (0, gX G (w32 (v4 + 1))), (2, v3)]) (st := []) d_Law_law_1282 (mc_Law_within (by decide)) (by decide) ⟨tb_ml_Law_215, tb_sm_Law_within⟩ rfl (Nat.le_of_ble_eq_true rfl)) (fun v => rfl) hr (fun r1 h1 => t_Law_within _ _ _ _ _ h1) (fun x2 h1 hr => ?_)
  refine j_istore (pc := 1285) (ls' := [(2, (-1)), (2, v1), (2, v2), (2, v3), (0, v4), (0, x2), (9, 0), (9, 0)]) d_Law_law_1285 rfl ?_
  refine j_aload_n (pc := 1287) d_Law_law_1287 rfl ?_
  refine j_aload_n (pc := 1288) d_Law_law_1288 rfl ?_
  refine j_iload (pc := 1289) d_Law_law_1289 rfl ?_
  refine j_iconst (pc := 1291) d_Law_law_1291 ?_
  refine j_iadd (pc := 1292) d_Law_law_1292 ?_
  refine j_sload (pc := 1293) d_Law_law_1293 hr (fun hr => ?_)
  obtain ⟨ha, hr⟩ := chk_some hr
  refine j_callG (pc := 1294) (stk := [(0, gX G (w32 (v4 + 1))), (2, v2)]) (as := [(2, v2), (0, gX G (w32 (v4 + 1)))]) (P := (fun v9 => ((0 : Nat), v9) :: [])) (tg := 0) (My := M_Md_within) (mRunV (as := [(0, gX G (w32 (v4 + 1)))]) (st := []) d_Law_law_1294 (mc_Md_within (by decide)) rfl (mv_Md_within tb_ml_Law_217) rfl (Nat.le_of_ble_eq_true rfl) ha) (fun v => rfl) rfl hr (fun r1 h1 => t_Md_within _ _ _ _ h1) (fun x4 h3 hr => ?_)
  refine j_istore (pc := 1297) (ls' := [(2, (-1)), (2, v1), (2, v2), (2, v3), (0, v4), (0, x2), (0, x4), (9, 0)]) d_Law_law_1297 rfl ?_
  refine j_aload_n (pc := 1299) d_Law_law_1299 rfl ?_
  obtain ⟨ha, hr⟩ := chk_some hr
  refine j_callG (pc := 1300) (stk := [(2, v2)]) (as := [(2, v2)]) (P := (fun v9 => ((0 : Nat), v9) :: [])) (tg := 0) (My := M_Md_thrown) (mRunV (as := []) (st := []) d_Law_law_1300 (mc_Md_thrown (by decide)) rfl (mv_Md_thrown tb_ml_Law_146) rfl (Nat.le_of_ble_eq_true rfl) ha) (fun v => rfl) rfl hr (fun r1 h1 => t_Md_thrown _ _ _ h1) (fun x6 h5 hr => ?_)
  refine j_iload (pc := 1303) d_Law_law_1303 rfl ?_
  refine j_icmp_eq (pc := 1305) (tgt := 1310) d_Law_law_1305 hr (fun hr => ?_) (fun hr => ?_)
  · refine j_iload (pc := 1310) d_Law_law_1310 rfl ?_
    refine j_if_ne (pc := 1312) (tgt := 1327) d_Law_law_1312 hr (fun hr => ?_) (fun hr => ?_)
    · exact mJ_weak (ls' := [(2, (-1)), (2, v1), (2, v2), (2, v3), (0, v4), (9, 0), (9, 0), (9, 0)]) (mwk_s (mwk_s (mwk_s (mwk_s (mwk_s (mwk_d (mwk_d (mwk_s mwk_n)))))))) (t_Law_law_J1327 hR23 hr)
    · refine j_aload_n (pc := 1315) d_Law_law_1315 rfl ?_
      refine j_iconst (pc := 1316) d_Law_law_1316 ?_
      refine j_laload (pc := 1317) d_Law_law_1317 hr (fun hr => ?_)
      refine j_iload (pc := 1318) d_Law_law_1318 rfl ?_
      refine j_i2l (pc := 1320) d_Law_law_1320 ?_
      refine j_lcmp (pc := 1321) d_Law_law_1321 ?_
      refine j_if_eq (pc := 1322) (tgt := 1327) d_Law_law_1322 hr (fun hr => ?_) (fun hr => ?_)
      · exact mJ_weak (ls' := [(2, (-1)), (2, v1), (2, v2), (2, v3), (0, v4), (9, 0), (9, 0), (9, 0)]) (mwk_s (mwk_s (mwk_s (mwk_s (mwk_s (mwk_d (mwk_d (mwk_s mwk_n)))))))) (t_Law_law_J1327 hR23 hr)
      · refine j_iconst (pc := 1325) d_Law_law_1325 ?_
        exact j_zret (pc := 1326) d_Law_law_1326 rfl hr
  · refine j_iconst (pc := 1308) d_Law_law_1308 ?_
    exact j_zret (pc := 1309) d_Law_law_1309 rfl hr
theorem t_Law_law_J1390 {G : mG} {r : mR} {v1 v2 v3 v4 : Int} {h : mH} {R23 : mH → Int → Option mR} (hR23 : ∀ (h : mH) (w4 : Int) , R23 h w4 = some r → mJ G M_Law_law 23 [(2, (-1)), (2, v1), (2, v2), (2, v3), (0, w4), (9, 0), (9, 0), (9, 0)] [] h r) (hr : f_Law_law_J1390 G R23 v4 h = some r) : mJ G M_Law_law 1390 [(2, (-1)), (2, v1), (2, v2), (2, v3), (0, v4), (9, 0), (9, 0), (9, 0)] [] h r := by
  unfold f_Law_law_J1390 at hr
  refine j_goto (pc := 1390) (tgt := 2642) d_Law_law_1390 ?_
  exact mJ_weak (ls' := [(2, (-1)), (2, v1), (2, v2), (2, v3), (0, v4), (9, 0), (9, 0), (9, 0)]) (mwk_s (mwk_s (mwk_s (mwk_s (mwk_s (mwk_s (mwk_s (mwk_s mwk_n)))))))) (t_Law_law_J2642 hR23 hr)
theorem t_Law_law_J1384 {G : mG} {r : mR} {v1 v2 v3 v4 s0 s1 : Int} {h : mH} {R23 : mH → Int → Option mR} (hR23 : ∀ (h : mH) (w4 : Int) , R23 h w4 = some r → mJ G M_Law_law 23 [(2, (-1)), (2, v1), (2, v2), (2, v3), (0, w4), (9, 0), (9, 0), (9, 0)] [] h r) (hr : f_Law_law_J1384 G R23 v4 s0 s1 h = some r) : mJ G M_Law_law 1384 [(2, (-1)), (2, v1), (2, v2), (2, v3), (0, v4), (9, 0), (9, 0), (9, 0)] [(1, s1), (1, s0)] h r := by
  unfold f_Law_law_J1384 at hr
  refine j_lcmp (pc := 1384) d_Law_law_1384 ?_
  refine j_if_eq (pc := 1385) (tgt := 1390) d_Law_law_1385 hr (fun hr => ?_) (fun hr => ?_)
  · exact mJ_weak (ls' := [(2, (-1)), (2, v1), (2, v2), (2, v3), (0, v4), (9, 0), (9, 0), (9, 0)]) (mwk_s (mwk_s (mwk_s (mwk_s (mwk_s (mwk_s (mwk_s (mwk_s mwk_n)))))))) (t_Law_law_J1390 hR23 hr)
  · refine j_iconst (pc := 1388) d_Law_law_1388 ?_
    exact j_zret (pc := 1389) d_Law_law_1389 rfl hr
theorem t_Law_law_J1330 {G : mG} {r : mR} {v1 v2 v3 v4 : Int} {h : mH} {R23 : mH → Int → Option mR} (hR23 : ∀ (h : mH) (w4 : Int) , R23 h w4 = some r → mJ G M_Law_law 23 [(2, (-1)), (2, v1), (2, v2), (2, v3), (0, w4), (9, 0), (9, 0), (9, 0)] [] h r) (hr : f_Law_law_J1330 G R23 v1 v2 v3 v4 h = some r) : mJ G M_Law_law 1330 [(2, (-1)), (2, v1), (2, v2), (2, v3), (0, v4), (9, 0), (9, 0), (9, 0)] [] h r := by
  unfold f_Law_law_J1330 at hr
  refine j_aload_n (pc := 1330) d_Law_law_1330 rfl ?_
  refine j_aload_n (pc := 1331) d_Law_law_1331 rfl ?_
  refine j_iload (pc := 1332) d_Law_law_1332 rfl ?_
  refine j_iconst (pc := 1334) d_Law_law_1334 ?_
  refine j_iadd (pc := 1335) d_Law_law_1335 ?_
  refine j_sload (pc := 1336) d_Law_law_1336 hr (fun hr => ?_)
  refine j_aload_n (pc := 1337) d_Law_law_1337 rfl ?_
  refine j_callR (pc := 1338) (stk := [(2, v3), (0, gX G (w32 (v4 + 1))), (2, v1)]) (as := [(2, v1), (0, gX G (w32 (v4 + 1))), (2, v3)]) (P := (fun v9 => ((0 : Nat), v9) :: [])) (tg := 0) (My := M_Law_fromStart) (by decide) (mRunW (as := [(2, v1), (0, gX G (w32 (v4 + 1))), (2, v3)]) (st := []) d_Law_law_1338 (mc_Law_fromStart (by decide)) (by decide) ⟨tb_ml_Law_218, tb_sm_Law_fromStart⟩ rfl (Nat.le_of_ble_eq_true rfl)) (fun v => rfl) hr (fun r1 h1 => t_Law_fromStart _ _ _ _ _ h1) (fun x2 h1 hr => ?_)
  refine j_istore (pc := 1341) (ls' := [(2, (-1)), (2, v1), (2, v2), (2, v3), (0, v4), (0, x2), (9, 0), (9, 0)]) d_Law_law_1341 rfl ?_
  refine j_aload_n (pc := 1343) d_Law_law_1343 rfl ?_
  refine j_aload_n (pc := 1344) d_Law_law_1344 rfl ?_
  refine j_iload (pc := 1345) d_Law_law_1345 rfl ?_
  refine j_iconst (pc := 1347) d_Law_law_1347 ?_
  refine j_iadd (pc := 1348) d_Law_law_1348 ?_
  refine j_sload (pc := 1349) d_Law_law_1349 hr (fun hr => ?_)
  obtain ⟨ha, hr⟩ := chk_some hr
  refine j_callG (pc := 1350) (stk := [(0, gX G (w32 (v4 + 1))), (2, v2)]) (as := [(2, v2), (0, gX G (w32 (v4 + 1)))]) (P := (fun v9 => ((0 : Nat), v9) :: [])) (tg := 0) (My := M_Md_fromStart) (mRunV (as := [(0, gX G (w32 (v4 + 1)))]) (st := []) d_Law_law_1350 (mc_Md_fromStart (by decide)) rfl (mv_Md_fromStart tb_ml_Law_220) rfl (Nat.le_of_ble_eq_true rfl) ha) (fun v => rfl) rfl hr (fun r1 h1 => t_Md_fromStart _ _ _ _ h1) (fun x4 h3 hr => ?_)
  refine j_istore (pc := 1353) (ls' := [(2, (-1)), (2, v1), (2, v2), (2, v3), (0, v4), (0, x2), (0, x4), (9, 0)]) d_Law_law_1353 rfl ?_
  refine j_aload_n (pc := 1355) d_Law_law_1355 rfl ?_
  obtain ⟨ha, hr⟩ := chk_some hr
  refine j_callG (pc := 1356) (stk := [(2, v2)]) (as := [(2, v2)]) (P := (fun v9 => ((0 : Nat), v9) :: [])) (tg := 0) (My := M_Md_thrown) (mRunV (as := []) (st := []) d_Law_law_1356 (mc_Md_thrown (by decide)) rfl (mv_Md_thrown tb_ml_Law_146) rfl (Nat.le_of_ble_eq_true rfl) ha) (fun v => rfl) rfl hr (fun r1 h1 => t_Md_thrown _ _ _ h1) (fun x6 h5 hr => ?_)
  refine j_iload (pc := 1359) d_Law_law_1359 rfl ?_
  refine j_icmp_eq (pc := 1361) (tgt := 1366) d_Law_law_1361 hr (fun hr => ?_) (fun hr => ?_)
  · refine j_iload (pc := 1366) d_Law_law_1366 rfl ?_
    refine j_if_ne (pc := 1368) (tgt := 1390) d_Law_law_1368 hr (fun hr => ?_) (fun hr => ?_)
    · exact mJ_weak (ls' := [(2, (-1)), (2, v1), (2, v2), (2, v3), (0, v4), (9, 0), (9, 0), (9, 0)]) (mwk_s (mwk_s (mwk_s (mwk_s (mwk_s (mwk_d (mwk_d (mwk_s mwk_n)))))))) (t_Law_law_J1390 hR23 hr)
    · refine j_aload_n (pc := 1371) d_Law_law_1371 rfl ?_
      refine j_iconst (pc := 1372) d_Law_law_1372 ?_
      refine j_laload (pc := 1373) d_Law_law_1373 hr (fun hr => ?_)
      refine j_iload (pc := 1374) d_Law_law_1374 rfl ?_
      refine j_if_eq (pc := 1376) (tgt := 1383) d_Law_law_1376 hr (fun hr => ?_) (fun hr => ?_)
      · refine j_lconst (pc := 1383) (z := 0) d_Law_law_1383 ?_
        exact mJ_weak (ls' := [(2, (-1)), (2, v1), (2, v2), (2, v3), (0, v4), (9, 0), (9, 0), (9, 0)]) (mwk_s (mwk_s (mwk_s (mwk_s (mwk_s (mwk_d (mwk_d (mwk_s mwk_n)))))))) (t_Law_law_J1384 hR23 hr)
      · refine j_lconst (pc := 1379) (z := 1) d_Law_law_1379 ?_
        refine j_goto (pc := 1380) (tgt := 1384) d_Law_law_1380 ?_
        exact mJ_weak (ls' := [(2, (-1)), (2, v1), (2, v2), (2, v3), (0, v4), (9, 0), (9, 0), (9, 0)]) (mwk_s (mwk_s (mwk_s (mwk_s (mwk_s (mwk_d (mwk_d (mwk_s mwk_n)))))))) (t_Law_law_J1384 hR23 hr)
  · refine j_iconst (pc := 1364) d_Law_law_1364 ?_
    exact j_zret (pc := 1365) d_Law_law_1365 rfl hr
theorem t_Law_law_J1446 {G : mG} {r : mR} {v1 v2 v3 v4 : Int} {h : mH} {R23 : mH → Int → Option mR} (hR23 : ∀ (h : mH) (w4 : Int) , R23 h w4 = some r → mJ G M_Law_law 23 [(2, (-1)), (2, v1), (2, v2), (2, v3), (0, w4), (9, 0), (9, 0), (9, 0)] [] h r) (hr : f_Law_law_J1446 G R23 v4 h = some r) : mJ G M_Law_law 1446 [(2, (-1)), (2, v1), (2, v2), (2, v3), (0, v4), (9, 0), (9, 0), (9, 0)] [] h r := by
  unfold f_Law_law_J1446 at hr
  refine j_goto (pc := 1446) (tgt := 2642) d_Law_law_1446 ?_
  exact mJ_weak (ls' := [(2, (-1)), (2, v1), (2, v2), (2, v3), (0, v4), (9, 0), (9, 0), (9, 0)]) (mwk_s (mwk_s (mwk_s (mwk_s (mwk_s (mwk_s (mwk_s (mwk_s mwk_n)))))))) (t_Law_law_J2642 hR23 hr)
theorem t_Law_law_J1393 {G : mG} {r : mR} {v1 v2 v3 v4 : Int} {h : mH} {R23 : mH → Int → Option mR} (hR23 : ∀ (h : mH) (w4 : Int) , R23 h w4 = some r → mJ G M_Law_law 23 [(2, (-1)), (2, v1), (2, v2), (2, v3), (0, w4), (9, 0), (9, 0), (9, 0)] [] h r) (hr : f_Law_law_J1393 G R23 v1 v2 v3 v4 h = some r) : mJ G M_Law_law 1393 [(2, (-1)), (2, v1), (2, v2), (2, v3), (0, v4), (9, 0), (9, 0), (9, 0)] [] h r := by
  unfold f_Law_law_J1393 at hr
  refine j_aload_n (pc := 1393) d_Law_law_1393 rfl ?_
  refine j_aload_n (pc := 1394) d_Law_law_1394 rfl ?_
  refine j_iload (pc := 1395) d_Law_law_1395 rfl ?_
  refine j_iconst (pc := 1397) d_Law_law_1397 ?_
  refine j_iadd (pc := 1398) d_Law_law_1398 ?_
  refine j_sload (pc := 1399) d_Law_law_1399 hr (fun hr => ?_)
  refine j_aload_n (pc := 1400) d_Law_law_1400 rfl ?_
  refine j_callR (pc := 1401) (stk := [(2, v3), (0, gX G (w32 (v4 + 1))), (2, v1)]) (as := [(2, v1), (0, gX G (w32 (v4 + 1))), (2, v3)]) (P := (fun v9 => ((0 : Nat), v9) :: [])) (tg := 0) (My := M_Law_dead) (by decide) (mRunW (as := [(2, v1), (0, gX G (w32 (v4 + 1))), (2, v3)]) (st := []) d_Law_law_1401 (mc_Law_dead (by decide)) (by decide) ⟨tb_ml_Law_221, tb_sm_Law_dead⟩ rfl (Nat.le_of_ble_eq_true rfl)) (fun v => rfl) hr (fun r1 h1 => t_Law_dead _ _ _ _ _ h1) (fun x2 h1 hr => ?_)
  refine j_istore (pc := 1404) (ls' := [(2, (-1)), (2, v1), (2, v2), (2, v3), (0, v4), (0, x2), (9, 0), (9, 0)]) d_Law_law_1404 rfl ?_
  refine j_aload_n (pc := 1406) d_Law_law_1406 rfl ?_
  refine j_aload_n (pc := 1407) d_Law_law_1407 rfl ?_
  refine j_iload (pc := 1408) d_Law_law_1408 rfl ?_
  refine j_iconst (pc := 1410) d_Law_law_1410 ?_
  refine j_iadd (pc := 1411) d_Law_law_1411 ?_
  refine j_sload (pc := 1412) d_Law_law_1412 hr (fun hr => ?_)
  obtain ⟨ha, hr⟩ := chk_some hr
  refine j_callG (pc := 1413) (stk := [(0, gX G (w32 (v4 + 1))), (2, v2)]) (as := [(2, v2), (0, gX G (w32 (v4 + 1)))]) (P := (fun v9 => ((0 : Nat), v9) :: [])) (tg := 0) (My := M_Md_dead) (mRunV (as := [(0, gX G (w32 (v4 + 1)))]) (st := []) d_Law_law_1413 (mc_Md_dead (by decide)) rfl (mv_Md_dead tb_ml_Law_223) rfl (Nat.le_of_ble_eq_true rfl) ha) (fun v => rfl) rfl hr (fun r1 h1 => t_Md_dead _ _ _ _ h1) (fun x4 h3 hr => ?_)
  refine j_istore (pc := 1416) (ls' := [(2, (-1)), (2, v1), (2, v2), (2, v3), (0, v4), (0, x2), (0, x4), (9, 0)]) d_Law_law_1416 rfl ?_
  refine j_aload_n (pc := 1418) d_Law_law_1418 rfl ?_
  obtain ⟨ha, hr⟩ := chk_some hr
  refine j_callG (pc := 1419) (stk := [(2, v2)]) (as := [(2, v2)]) (P := (fun v9 => ((0 : Nat), v9) :: [])) (tg := 0) (My := M_Md_thrown) (mRunV (as := []) (st := []) d_Law_law_1419 (mc_Md_thrown (by decide)) rfl (mv_Md_thrown tb_ml_Law_146) rfl (Nat.le_of_ble_eq_true rfl) ha) (fun v => rfl) rfl hr (fun r1 h1 => t_Md_thrown _ _ _ h1) (fun x6 h5 hr => ?_)
  refine j_iload (pc := 1422) d_Law_law_1422 rfl ?_
  refine j_icmp_eq (pc := 1424) (tgt := 1429) d_Law_law_1424 hr (fun hr => ?_) (fun hr => ?_)
  · refine j_iload (pc := 1429) d_Law_law_1429 rfl ?_
    refine j_if_ne (pc := 1431) (tgt := 1446) d_Law_law_1431 hr (fun hr => ?_) (fun hr => ?_)
    · exact mJ_weak (ls' := [(2, (-1)), (2, v1), (2, v2), (2, v3), (0, v4), (9, 0), (9, 0), (9, 0)]) (mwk_s (mwk_s (mwk_s (mwk_s (mwk_s (mwk_d (mwk_d (mwk_s mwk_n)))))))) (t_Law_law_J1446 hR23 hr)
    · refine j_aload_n (pc := 1434) d_Law_law_1434 rfl ?_
      refine j_iconst (pc := 1435) d_Law_law_1435 ?_
      refine j_laload (pc := 1436) d_Law_law_1436 hr (fun hr => ?_)
      refine j_iload (pc := 1437) d_Law_law_1437 rfl ?_
      refine j_i2l (pc := 1439) d_Law_law_1439 ?_
      refine j_lcmp (pc := 1440) d_Law_law_1440 ?_
      refine j_if_eq (pc := 1441) (tgt := 1446) d_Law_law_1441 hr (fun hr => ?_) (fun hr => ?_)
      · exact mJ_weak (ls' := [(2, (-1)), (2, v1), (2, v2), (2, v3), (0, v4), (9, 0), (9, 0), (9, 0)]) (mwk_s (mwk_s (mwk_s (mwk_s (mwk_s (mwk_d (mwk_d (mwk_s mwk_n)))))))) (t_Law_law_J1446 hR23 hr)
      · refine j_iconst (pc := 1444) d_Law_law_1444 ?_
        exact j_zret (pc := 1445) d_Law_law_1445 rfl hr
  · refine j_iconst (pc := 1427) d_Law_law_1427 ?_
    exact j_zret (pc := 1428) d_Law_law_1428 rfl hr
theorem t_Law_law_J1490 {G : mG} {r : mR} {v1 v2 v3 v4 : Int} {h : mH} {R23 : mH → Int → Option mR} (hR23 : ∀ (h : mH) (w4 : Int) , R23 h w4 = some r → mJ G M_Law_law 23 [(2, (-1)), (2, v1), (2, v2), (2, v3), (0, w4), (9, 0), (9, 0), (9, 0)] [] h r) (hr : f_Law_law_J1490 G R23 v4 h = some r) : mJ G M_Law_law 1490 [(2, (-1)), (2, v1), (2, v2), (2, v3), (0, v4), (9, 0), (9, 0), (9, 0)] [] h r := by
  unfold f_Law_law_J1490 at hr
  refine j_goto (pc := 1490) (tgt := 2642) d_Law_law_1490 ?_
  exact mJ_weak (ls' := [(2, (-1)), (2, v1), (2, v2), (2, v3), (0, v4), (9, 0), (9, 0), (9, 0)]) (mwk_s (mwk_s (mwk_s (mwk_s (mwk_s (mwk_s (mwk_s (mwk_s mwk_n)))))))) (t_Law_law_J2642 hR23 hr)
theorem t_Law_law_J1449 {G : mG} {r : mR} {v1 v2 v3 v4 : Int} {h : mH} {R23 : mH → Int → Option mR} (hR23 : ∀ (h : mH) (w4 : Int) , R23 h w4 = some r → mJ G M_Law_law 23 [(2, (-1)), (2, v1), (2, v2), (2, v3), (0, w4), (9, 0), (9, 0), (9, 0)] [] h r) (hr : f_Law_law_J1449 G R23 v1 v2 v3 v4 h = some r) : mJ G M_Law_law 1449 [(2, (-1)), (2, v1), (2, v2), (2, v3), (0, v4), (9, 0), (9, 0), (9, 0)] [] h r := by
  unfold f_Law_law_J1449 at hr
  refine j_aload_n (pc := 1449) d_Law_law_1449 rfl ?_
  refine j_aload_n (pc := 1450) d_Law_law_1450 rfl ?_
  refine j_callR (pc := 1451) (stk := [(2, v3), (2, v1)]) (as := [(2, v1), (2, v3)]) (P := (fun v9 => ((0 : Nat), v9) :: [])) (tg := 0) (My := M_Law_oneWays) (by decide) (mRunW (as := [(2, v1), (2, v3)]) (st := []) d_Law_law_1451 (mc_Law_oneWays (by decide)) (by decide) ⟨tb_ml_Law_224, tb_sm_Law_oneWays⟩ rfl (Nat.le_of_ble_eq_true rfl)) (fun v => rfl) hr (fun r1 h1 => t_Law_oneWays _ _ _ _ h1) (fun x2 h1 hr => ?_)
  refine j_istore (pc := 1454) (ls' := [(2, (-1)), (2, v1), (2, v2), (2, v3), (0, v4), (0, x2), (9, 0), (9, 0)]) d_Law_law_1454 rfl ?_
  refine j_aload_n (pc := 1456) d_Law_law_1456 rfl ?_
  obtain ⟨ha, hr⟩ := chk_some hr
  refine j_callG (pc := 1457) (stk := [(2, v2)]) (as := [(2, v2)]) (P := (fun v9 => ((0 : Nat), v9) :: [])) (tg := 0) (My := M_Md_oneWays) (mRunV (as := []) (st := []) d_Law_law_1457 (mc_Md_oneWays (by decide)) rfl (mv_Md_oneWays tb_ml_Law_226) rfl (Nat.le_of_ble_eq_true rfl) ha) (fun v => rfl) rfl hr (fun r1 h1 => t_Md_oneWays _ _ _ h1) (fun x4 h3 hr => ?_)
  refine j_istore (pc := 1460) (ls' := [(2, (-1)), (2, v1), (2, v2), (2, v3), (0, v4), (0, x2), (0, x4), (9, 0)]) d_Law_law_1460 rfl ?_
  refine j_aload_n (pc := 1462) d_Law_law_1462 rfl ?_
  obtain ⟨ha, hr⟩ := chk_some hr
  refine j_callG (pc := 1463) (stk := [(2, v2)]) (as := [(2, v2)]) (P := (fun v9 => ((0 : Nat), v9) :: [])) (tg := 0) (My := M_Md_thrown) (mRunV (as := []) (st := []) d_Law_law_1463 (mc_Md_thrown (by decide)) rfl (mv_Md_thrown tb_ml_Law_146) rfl (Nat.le_of_ble_eq_true rfl) ha) (fun v => rfl) rfl hr (fun r1 h1 => t_Md_thrown _ _ _ h1) (fun x6 h5 hr => ?_)
  refine j_iload (pc := 1466) d_Law_law_1466 rfl ?_
  refine j_icmp_eq (pc := 1468) (tgt := 1473) d_Law_law_1468 hr (fun hr => ?_) (fun hr => ?_)
  · refine j_iload (pc := 1473) d_Law_law_1473 rfl ?_
    refine j_if_ne (pc := 1475) (tgt := 1490) d_Law_law_1475 hr (fun hr => ?_) (fun hr => ?_)
    · exact mJ_weak (ls' := [(2, (-1)), (2, v1), (2, v2), (2, v3), (0, v4), (9, 0), (9, 0), (9, 0)]) (mwk_s (mwk_s (mwk_s (mwk_s (mwk_s (mwk_d (mwk_d (mwk_s mwk_n)))))))) (t_Law_law_J1490 hR23 hr)
    · refine j_aload_n (pc := 1478) d_Law_law_1478 rfl ?_
      refine j_iconst (pc := 1479) d_Law_law_1479 ?_
      refine j_laload (pc := 1480) d_Law_law_1480 hr (fun hr => ?_)
      refine j_iload (pc := 1481) d_Law_law_1481 rfl ?_
      refine j_i2l (pc := 1483) d_Law_law_1483 ?_
      refine j_lcmp (pc := 1484) d_Law_law_1484 ?_
      refine j_if_eq (pc := 1485) (tgt := 1490) d_Law_law_1485 hr (fun hr => ?_) (fun hr => ?_)
      · exact mJ_weak (ls' := [(2, (-1)), (2, v1), (2, v2), (2, v3), (0, v4), (9, 0), (9, 0), (9, 0)]) (mwk_s (mwk_s (mwk_s (mwk_s (mwk_s (mwk_d (mwk_d (mwk_s mwk_n)))))))) (t_Law_law_J1490 hR23 hr)
      · refine j_iconst (pc := 1488) d_Law_law_1488 ?_
        exact j_zret (pc := 1489) d_Law_law_1489 rfl hr
  · refine j_iconst (pc := 1471) d_Law_law_1471 ?_
    exact j_zret (pc := 1472) d_Law_law_1472 rfl hr
theorem t_Law_law_J1546 {G : mG} {r : mR} {v1 v2 v3 v4 : Int} {h : mH} {R23 : mH → Int → Option mR} (hR23 : ∀ (h : mH) (w4 : Int) , R23 h w4 = some r → mJ G M_Law_law 23 [(2, (-1)), (2, v1), (2, v2), (2, v3), (0, w4), (9, 0), (9, 0), (9, 0)] [] h r) (hr : f_Law_law_J1546 G R23 v4 h = some r) : mJ G M_Law_law 1546 [(2, (-1)), (2, v1), (2, v2), (2, v3), (0, v4), (9, 0), (9, 0), (9, 0)] [] h r := by
  unfold f_Law_law_J1546 at hr
  refine j_goto (pc := 1546) (tgt := 2642) d_Law_law_1546 ?_
  exact mJ_weak (ls' := [(2, (-1)), (2, v1), (2, v2), (2, v3), (0, v4), (9, 0), (9, 0), (9, 0)]) (mwk_s (mwk_s (mwk_s (mwk_s (mwk_s (mwk_s (mwk_s (mwk_s mwk_n)))))))) (t_Law_law_J2642 hR23 hr)
theorem t_Law_law_J1493 {G : mG} {r : mR} {v1 v2 v3 v4 : Int} {h : mH} {R23 : mH → Int → Option mR} (hR23 : ∀ (h : mH) (w4 : Int) , R23 h w4 = some r → mJ G M_Law_law 23 [(2, (-1)), (2, v1), (2, v2), (2, v3), (0, w4), (9, 0), (9, 0), (9, 0)] [] h r) (hr : f_Law_law_J1493 G R23 v1 v2 v3 v4 h = some r) : mJ G M_Law_law 1493 [(2, (-1)), (2, v1), (2, v2), (2, v3), (0, v4), (9, 0), (9, 0), (9, 0)] [] h r := by
  unfold f_Law_law_J1493 at hr
  refine j_aload_n (pc := 1493) d_Law_law_1493 rfl ?_
  refine j_aload_n (pc := 1494) d_Law_law_1494 rfl ?_
  refine j_iload (pc := 1495) d_Law_law_1495 rfl ?_
  refine j_iconst (pc := 1497) d_Law_law_1497 ?_
  refine j_iadd (pc := 1498) d_Law_law_1498 ?_
  refine j_sload (pc := 1499) d_Law_law_1499 hr (fun hr => ?_)
  refine j_aload_n (pc := 1500) d_Law_law_1500 rfl ?_
  refine j_callR (pc := 1501) (stk := [(2, v3), (0, gX G (w32 (v4 + 1))), (2, v1)]) (as := [(2, v1), (0, gX G (w32 (v4 + 1))), (2, v3)]) (P := (fun v9 => ((0 : Nat), v9) :: [])) (tg := 0) (My := M_Law_fewestOf) (by decide) (mRunW (as := [(2, v1), (0, gX G (w32 (v4 + 1))), (2, v3)]) (st := []) d_Law_law_1501 (mc_Law_fewestOf (by decide)) (by decide) ⟨tb_ml_Law_227, tb_sm_Law_fewestOf⟩ rfl (Nat.le_of_ble_eq_true rfl)) (fun v => rfl) hr (fun r1 h1 => t_Law_fewestOf _ _ _ _ _ h1) (fun x2 h1 hr => ?_)
  refine j_istore (pc := 1504) (ls' := [(2, (-1)), (2, v1), (2, v2), (2, v3), (0, v4), (0, x2), (9, 0), (9, 0)]) d_Law_law_1504 rfl ?_
  refine j_aload_n (pc := 1506) d_Law_law_1506 rfl ?_
  refine j_aload_n (pc := 1507) d_Law_law_1507 rfl ?_
  refine j_iload (pc := 1508) d_Law_law_1508 rfl ?_
  refine j_iconst (pc := 1510) d_Law_law_1510 ?_
  refine j_iadd (pc := 1511) d_Law_law_1511 ?_
  refine j_sload (pc := 1512) d_Law_law_1512 hr (fun hr => ?_)
  obtain ⟨ha, hr⟩ := chk_some hr
  refine j_callG (pc := 1513) (stk := [(0, gX G (w32 (v4 + 1))), (2, v2)]) (as := [(2, v2), (0, gX G (w32 (v4 + 1)))]) (P := (fun v9 => ((0 : Nat), v9) :: [])) (tg := 0) (My := M_Md_fewestOf) (mRunV (as := [(0, gX G (w32 (v4 + 1)))]) (st := []) d_Law_law_1513 (mc_Md_fewestOf (by decide)) rfl (mv_Md_fewestOf tb_ml_Law_229) rfl (Nat.le_of_ble_eq_true rfl) ha) (fun v => rfl) rfl hr (fun r1 h1 => t_Md_fewestOf _ _ _ _ h1) (fun x4 h3 hr => ?_)
  refine j_istore (pc := 1516) (ls' := [(2, (-1)), (2, v1), (2, v2), (2, v3), (0, v4), (0, x2), (0, x4), (9, 0)]) d_Law_law_1516 rfl ?_
  refine j_aload_n (pc := 1518) d_Law_law_1518 rfl ?_
  obtain ⟨ha, hr⟩ := chk_some hr
  refine j_callG (pc := 1519) (stk := [(2, v2)]) (as := [(2, v2)]) (P := (fun v9 => ((0 : Nat), v9) :: [])) (tg := 0) (My := M_Md_thrown) (mRunV (as := []) (st := []) d_Law_law_1519 (mc_Md_thrown (by decide)) rfl (mv_Md_thrown tb_ml_Law_146) rfl (Nat.le_of_ble_eq_true rfl) ha) (fun v => rfl) rfl hr (fun r1 h1 => t_Md_thrown _ _ _ h1) (fun x6 h5 hr => ?_)
  refine j_iload (pc := 1522) d_Law_law_1522 rfl ?_
  refine j_icmp_eq (pc := 1524) (tgt := 1529) d_Law_law_1524 hr (fun hr => ?_) (fun hr => ?_)
  · refine j_iload (pc := 1529) d_Law_law_1529 rfl ?_
    refine j_if_ne (pc := 1531) (tgt := 1546) d_Law_law_1531 hr (fun hr => ?_) (fun hr => ?_)
    · exact mJ_weak (ls' := [(2, (-1)), (2, v1), (2, v2), (2, v3), (0, v4), (9, 0), (9, 0), (9, 0)]) (mwk_s (mwk_s (mwk_s (mwk_s (mwk_s (mwk_d (mwk_d (mwk_s mwk_n)))))))) (t_Law_law_J1546 hR23 hr)
    · refine j_aload_n (pc := 1534) d_Law_law_1534 rfl ?_
      refine j_iconst (pc := 1535) d_Law_law_1535 ?_
      refine j_laload (pc := 1536) d_Law_law_1536 hr (fun hr => ?_)
      refine j_iload (pc := 1537) d_Law_law_1537 rfl ?_
      refine j_i2l (pc := 1539) d_Law_law_1539 ?_
      refine j_lcmp (pc := 1540) d_Law_law_1540 ?_
      refine j_if_eq (pc := 1541) (tgt := 1546) d_Law_law_1541 hr (fun hr => ?_) (fun hr => ?_)
      · exact mJ_weak (ls' := [(2, (-1)), (2, v1), (2, v2), (2, v3), (0, v4), (9, 0), (9, 0), (9, 0)]) (mwk_s (mwk_s (mwk_s (mwk_s (mwk_s (mwk_d (mwk_d (mwk_s mwk_n)))))))) (t_Law_law_J1546 hR23 hr)
      · refine j_iconst (pc := 1544) d_Law_law_1544 ?_
        exact j_zret (pc := 1545) d_Law_law_1545 rfl hr
  · refine j_iconst (pc := 1527) d_Law_law_1527 ?_
    exact j_zret (pc := 1528) d_Law_law_1528 rfl hr
theorem t_Law_law_J1602 {G : mG} {r : mR} {v1 v2 v3 v4 : Int} {h : mH} {R23 : mH → Int → Option mR} (hR23 : ∀ (h : mH) (w4 : Int) , R23 h w4 = some r → mJ G M_Law_law 23 [(2, (-1)), (2, v1), (2, v2), (2, v3), (0, w4), (9, 0), (9, 0), (9, 0)] [] h r) (hr : f_Law_law_J1602 G R23 v4 h = some r) : mJ G M_Law_law 1602 [(2, (-1)), (2, v1), (2, v2), (2, v3), (0, v4), (9, 0), (9, 0), (9, 0)] [] h r := by
  unfold f_Law_law_J1602 at hr
  refine j_goto (pc := 1602) (tgt := 2642) d_Law_law_1602 ?_
  exact mJ_weak (ls' := [(2, (-1)), (2, v1), (2, v2), (2, v3), (0, v4), (9, 0), (9, 0), (9, 0)]) (mwk_s (mwk_s (mwk_s (mwk_s (mwk_s (mwk_s (mwk_s (mwk_s mwk_n)))))))) (t_Law_law_J2642 hR23 hr)
theorem t_Law_law_J1549 {G : mG} {r : mR} {v1 v2 v3 v4 : Int} {h : mH} {R23 : mH → Int → Option mR} (hR23 : ∀ (h : mH) (w4 : Int) , R23 h w4 = some r → mJ G M_Law_law 23 [(2, (-1)), (2, v1), (2, v2), (2, v3), (0, w4), (9, 0), (9, 0), (9, 0)] [] h r) (hr : f_Law_law_J1549 G R23 v1 v2 v3 v4 h = some r) : mJ G M_Law_law 1549 [(2, (-1)), (2, v1), (2, v2), (2, v3), (0, v4), (9, 0), (9, 0), (9, 0)] [] h r := by
  unfold f_Law_law_J1549 at hr
  refine j_aload_n (pc := 1549) d_Law_law_1549 rfl ?_
  refine j_aload_n (pc := 1550) d_Law_law_1550 rfl ?_
  refine j_iload (pc := 1551) d_Law_law_1551 rfl ?_
  refine j_iconst (pc := 1553) d_Law_law_1553 ?_
  refine j_iadd (pc := 1554) d_Law_law_1554 ?_
  refine j_sload (pc := 1555) d_Law_law_1555 hr (fun hr => ?_)
  refine j_aload_n (pc := 1556) d_Law_law_1556 rfl ?_
  refine j_callR (pc := 1557) (stk := [(2, v3), (0, gX G (w32 (v4 + 1))), (2, v1)]) (as := [(2, v1), (0, gX G (w32 (v4 + 1))), (2, v3)]) (P := (fun v9 => ((0 : Nat), v9) :: [])) (tg := 0) (My := M_Law_musts) (by decide) (mRunW (as := [(2, v1), (0, gX G (w32 (v4 + 1))), (2, v3)]) (st := []) d_Law_law_1557 (mc_Law_musts (by decide)) (by decide) ⟨tb_ml_Law_230, tb_sm_Law_musts⟩ rfl (Nat.le_of_ble_eq_true rfl)) (fun v => rfl) hr (fun r1 h1 => t_Law_musts _ _ _ _ _ h1) (fun x2 h1 hr => ?_)
  refine j_istore (pc := 1560) (ls' := [(2, (-1)), (2, v1), (2, v2), (2, v3), (0, v4), (0, x2), (9, 0), (9, 0)]) d_Law_law_1560 rfl ?_
  refine j_aload_n (pc := 1562) d_Law_law_1562 rfl ?_
  refine j_aload_n (pc := 1563) d_Law_law_1563 rfl ?_
  refine j_iload (pc := 1564) d_Law_law_1564 rfl ?_
  refine j_iconst (pc := 1566) d_Law_law_1566 ?_
  refine j_iadd (pc := 1567) d_Law_law_1567 ?_
  refine j_sload (pc := 1568) d_Law_law_1568 hr (fun hr => ?_)
  obtain ⟨ha, hr⟩ := chk_some hr
  refine j_callG (pc := 1569) (stk := [(0, gX G (w32 (v4 + 1))), (2, v2)]) (as := [(2, v2), (0, gX G (w32 (v4 + 1)))]) (P := (fun v9 => ((0 : Nat), v9) :: [])) (tg := 0) (My := M_Md_musts) (mRunV (as := [(0, gX G (w32 (v4 + 1)))]) (st := []) d_Law_law_1569 (mc_Md_musts (by decide)) rfl (mv_Md_musts tb_ml_Law_232) rfl (Nat.le_of_ble_eq_true rfl) ha) (fun v => rfl) rfl hr (fun r1 h1 => t_Md_musts _ _ _ _ h1) (fun x4 h3 hr => ?_)
  refine j_istore (pc := 1572) (ls' := [(2, (-1)), (2, v1), (2, v2), (2, v3), (0, v4), (0, x2), (0, x4), (9, 0)]) d_Law_law_1572 rfl ?_
  refine j_aload_n (pc := 1574) d_Law_law_1574 rfl ?_
  obtain ⟨ha, hr⟩ := chk_some hr
  refine j_callG (pc := 1575) (stk := [(2, v2)]) (as := [(2, v2)]) (P := (fun v9 => ((0 : Nat), v9) :: [])) (tg := 0) (My := M_Md_thrown) (mRunV (as := []) (st := []) d_Law_law_1575 (mc_Md_thrown (by decide)) rfl (mv_Md_thrown tb_ml_Law_146) rfl (Nat.le_of_ble_eq_true rfl) ha) (fun v => rfl) rfl hr (fun r1 h1 => t_Md_thrown _ _ _ h1) (fun x6 h5 hr => ?_)
  refine j_iload (pc := 1578) d_Law_law_1578 rfl ?_
  refine j_icmp_eq (pc := 1580) (tgt := 1585) d_Law_law_1580 hr (fun hr => ?_) (fun hr => ?_)
  · refine j_iload (pc := 1585) d_Law_law_1585 rfl ?_
    refine j_if_ne (pc := 1587) (tgt := 1602) d_Law_law_1587 hr (fun hr => ?_) (fun hr => ?_)
    · exact mJ_weak (ls' := [(2, (-1)), (2, v1), (2, v2), (2, v3), (0, v4), (9, 0), (9, 0), (9, 0)]) (mwk_s (mwk_s (mwk_s (mwk_s (mwk_s (mwk_d (mwk_d (mwk_s mwk_n)))))))) (t_Law_law_J1602 hR23 hr)
    · refine j_aload_n (pc := 1590) d_Law_law_1590 rfl ?_
      refine j_iconst (pc := 1591) d_Law_law_1591 ?_
      refine j_laload (pc := 1592) d_Law_law_1592 hr (fun hr => ?_)
      refine j_iload (pc := 1593) d_Law_law_1593 rfl ?_
      refine j_i2l (pc := 1595) d_Law_law_1595 ?_
      refine j_lcmp (pc := 1596) d_Law_law_1596 ?_
      refine j_if_eq (pc := 1597) (tgt := 1602) d_Law_law_1597 hr (fun hr => ?_) (fun hr => ?_)
      · exact mJ_weak (ls' := [(2, (-1)), (2, v1), (2, v2), (2, v3), (0, v4), (9, 0), (9, 0), (9, 0)]) (mwk_s (mwk_s (mwk_s (mwk_s (mwk_s (mwk_d (mwk_d (mwk_s mwk_n)))))))) (t_Law_law_J1602 hR23 hr)
      · refine j_iconst (pc := 1600) d_Law_law_1600 ?_
        exact j_zret (pc := 1601) d_Law_law_1601 rfl hr
  · refine j_iconst (pc := 1583) d_Law_law_1583 ?_
    exact j_zret (pc := 1584) d_Law_law_1584 rfl hr
theorem t_Law_law_J1670 {G : mG} {r : mR} {v1 v2 v3 v4 : Int} {h : mH} {R23 : mH → Int → Option mR} (hR23 : ∀ (h : mH) (w4 : Int) , R23 h w4 = some r → mJ G M_Law_law 23 [(2, (-1)), (2, v1), (2, v2), (2, v3), (0, w4), (9, 0), (9, 0), (9, 0)] [] h r) (hr : f_Law_law_J1670 G R23 v4 h = some r) : mJ G M_Law_law 1670 [(2, (-1)), (2, v1), (2, v2), (2, v3), (0, v4), (9, 0), (9, 0), (9, 0)] [] h r := by
  unfold f_Law_law_J1670 at hr
  refine j_goto (pc := 1670) (tgt := 2642) d_Law_law_1670 ?_
  exact mJ_weak (ls' := [(2, (-1)), (2, v1), (2, v2), (2, v3), (0, v4), (9, 0), (9, 0), (9, 0)]) (mwk_s (mwk_s (mwk_s (mwk_s (mwk_s (mwk_s (mwk_s (mwk_s mwk_n)))))))) (t_Law_law_J2642 hR23 hr)
theorem t_Law_law_J1605 {G : mG} {r : mR} {v1 v2 v3 v4 : Int} {h : mH} {R23 : mH → Int → Option mR} (hR23 : ∀ (h : mH) (w4 : Int) , R23 h w4 = some r → mJ G M_Law_law 23 [(2, (-1)), (2, v1), (2, v2), (2, v3), (0, w4), (9, 0), (9, 0), (9, 0)] [] h r) (hr : f_Law_law_J1605 G R23 v1 v2 v3 v4 h = some r) : mJ G M_Law_law 1605 [(2, (-1)), (2, v1), (2, v2), (2, v3), (0, v4), (9, 0), (9, 0), (9, 0)] [] h r := by
  unfold f_Law_law_J1605 at hr
  refine j_aload_n (pc := 1605) d_Law_law_1605 rfl ?_
  refine j_aload_n (pc := 1606) d_Law_law_1606 rfl ?_
  refine j_iload (pc := 1607) d_Law_law_1607 rfl ?_
  refine j_iconst (pc := 1609) d_Law_law_1609 ?_
  refine j_iadd (pc := 1610) d_Law_law_1610 ?_
  refine j_sload (pc := 1611) d_Law_law_1611 hr (fun hr => ?_)
  refine j_aload_n (pc := 1612) d_Law_law_1612 rfl ?_
  refine j_iload (pc := 1613) d_Law_law_1613 rfl ?_
  refine j_iconst (pc := 1615) d_Law_law_1615 ?_
  refine j_iadd (pc := 1616) d_Law_law_1616 ?_
  refine j_sload (pc := 1617) d_Law_law_1617 hr (fun hr => ?_)
  refine j_aload_n (pc := 1618) d_Law_law_1618 rfl ?_
  refine j_callR (pc := 1619) (stk := [(2, v3), (0, gX G (w32 (v4 + 2))), (0, gX G (w32 (v4 + 1))), (2, v1)]) (as := [(2, v1), (0, gX G (w32 (v4 + 1))), (0, gX G (w32 (v4 + 2))), (2, v3)]) (P := (fun v9 => ((0 : Nat), v9) :: [])) (tg := 0) (My := M_Law_halves) (by decide) (mRunW (as := [(2, v1), (0, gX G (w32 (v4 + 1))), (0, gX G (w32 (v4 + 2))), (2, v3)]) (st := []) d_Law_law_1619 (mc_Law_halves (by decide)) (by decide) ⟨tb_ml_Law_233, tb_sm_Law_halves⟩ rfl (Nat.le_of_ble_eq_true rfl)) (fun v => rfl) hr (fun r1 h1 => t_Law_halves _ _ _ _ _ _ h1) (fun x2 h1 hr => ?_)
  refine j_istore (pc := 1622) (ls' := [(2, (-1)), (2, v1), (2, v2), (2, v3), (0, v4), (0, x2), (9, 0), (9, 0)]) d_Law_law_1622 rfl ?_
  refine j_aload_n (pc := 1624) d_Law_law_1624 rfl ?_
  refine j_aload_n (pc := 1625) d_Law_law_1625 rfl ?_
  refine j_iload (pc := 1626) d_Law_law_1626 rfl ?_
  refine j_iconst (pc := 1628) d_Law_law_1628 ?_
  refine j_iadd (pc := 1629) d_Law_law_1629 ?_
  refine j_sload (pc := 1630) d_Law_law_1630 hr (fun hr => ?_)
  refine j_aload_n (pc := 1631) d_Law_law_1631 rfl ?_
  refine j_iload (pc := 1632) d_Law_law_1632 rfl ?_
  refine j_iconst (pc := 1634) d_Law_law_1634 ?_
  refine j_iadd (pc := 1635) d_Law_law_1635 ?_
  refine j_sload (pc := 1636) d_Law_law_1636 hr (fun hr => ?_)
  obtain ⟨ha, hr⟩ := chk_some hr
  refine j_callG (pc := 1637) (stk := [(0, gX G (w32 (v4 + 2))), (0, gX G (w32 (v4 + 1))), (2, v2)]) (as := [(2, v2), (0, gX G (w32 (v4 + 1))), (0, gX G (w32 (v4 + 2)))]) (P := (fun v9 => ((0 : Nat), v9) :: [])) (tg := 0) (My := M_Md_halves) (mRunV (as := [(0, gX G (w32 (v4 + 1))), (0, gX G (w32 (v4 + 2)))]) (st := []) d_Law_law_1637 (mc_Md_halves (by decide)) rfl (mv_Md_halves tb_ml_Law_235) rfl (Nat.le_of_ble_eq_true rfl) ha) (fun v => rfl) rfl hr (fun r1 h1 => t_Md_halves _ _ _ _ _ h1) (fun x4 h3 hr => ?_)
  refine j_istore (pc := 1640) (ls' := [(2, (-1)), (2, v1), (2, v2), (2, v3), (0, v4), (0, x2), (0, x4), (9, 0)]) d_Law_law_1640 rfl ?_
  refine j_aload_n (pc := 1642) d_Law_law_1642 rfl ?_
  obtain ⟨ha, hr⟩ := chk_some hr
  refine j_callG (pc := 1643) (stk := [(2, v2)]) (as := [(2, v2)]) (P := (fun v9 => ((0 : Nat), v9) :: [])) (tg := 0) (My := M_Md_thrown) (mRunV (as := []) (st := []) d_Law_law_1643 (mc_Md_thrown (by decide)) rfl (mv_Md_thrown tb_ml_Law_146) rfl (Nat.le_of_ble_eq_true rfl) ha) (fun v => rfl) rfl hr (fun r1 h1 => t_Md_thrown _ _ _ h1) (fun x6 h5 hr => ?_)
  refine j_iload (pc := 1646) d_Law_law_1646 rfl ?_
  refine j_icmp_eq (pc := 1648) (tgt := 1653) d_Law_law_1648 hr (fun hr => ?_) (fun hr => ?_)
  · refine j_iload (pc := 1653) d_Law_law_1653 rfl ?_
    refine j_if_ne (pc := 1655) (tgt := 1670) d_Law_law_1655 hr (fun hr => ?_) (fun hr => ?_)
    · exact mJ_weak (ls' := [(2, (-1)), (2, v1), (2, v2), (2, v3), (0, v4), (9, 0), (9, 0), (9, 0)]) (mwk_s (mwk_s (mwk_s (mwk_s (mwk_s (mwk_d (mwk_d (mwk_s mwk_n)))))))) (t_Law_law_J1670 hR23 hr)
    · refine j_aload_n (pc := 1658) d_Law_law_1658 rfl ?_
      refine j_iconst (pc := 1659) d_Law_law_1659 ?_
      refine j_laload (pc := 1660) d_Law_law_1660 hr (fun hr => ?_)
      refine j_iload (pc := 1661) d_Law_law_1661 rfl ?_
      refine j_i2l (pc := 1663) d_Law_law_1663 ?_
      refine j_lcmp (pc := 1664) d_Law_law_1664 ?_
      refine j_if_eq (pc := 1665) (tgt := 1670) d_Law_law_1665 hr (fun hr => ?_) (fun hr => ?_)
      · exact mJ_weak (ls' := [(2, (-1)), (2, v1), (2, v2), (2, v3), (0, v4), (9, 0), (9, 0), (9, 0)]) (mwk_s (mwk_s (mwk_s (mwk_s (mwk_s (mwk_d (mwk_d (mwk_s mwk_n)))))))) (t_Law_law_J1670 hR23 hr)
      · refine j_iconst (pc := 1668) d_Law_law_1668 ?_
        exact j_zret (pc := 1669) d_Law_law_1669 rfl hr
  · refine j_iconst (pc := 1651) d_Law_law_1651 ?_
    exact j_zret (pc := 1652) d_Law_law_1652 rfl hr
theorem t_Law_law_J1738 {G : mG} {r : mR} {v1 v2 v3 v4 : Int} {h : mH} {R23 : mH → Int → Option mR} (hR23 : ∀ (h : mH) (w4 : Int) , R23 h w4 = some r → mJ G M_Law_law 23 [(2, (-1)), (2, v1), (2, v2), (2, v3), (0, w4), (9, 0), (9, 0), (9, 0)] [] h r) (hr : f_Law_law_J1738 G R23 v4 h = some r) : mJ G M_Law_law 1738 [(2, (-1)), (2, v1), (2, v2), (2, v3), (0, v4), (9, 0), (9, 0), (9, 0)] [] h r := by
  unfold f_Law_law_J1738 at hr
  refine j_goto (pc := 1738) (tgt := 2642) d_Law_law_1738 ?_
  exact mJ_weak (ls' := [(2, (-1)), (2, v1), (2, v2), (2, v3), (0, v4), (9, 0), (9, 0), (9, 0)]) (mwk_s (mwk_s (mwk_s (mwk_s (mwk_s (mwk_s (mwk_s (mwk_s mwk_n)))))))) (t_Law_law_J2642 hR23 hr)
theorem t_Law_law_J1673 {G : mG} {r : mR} {v1 v2 v3 v4 : Int} {h : mH} {R23 : mH → Int → Option mR} (hR23 : ∀ (h : mH) (w4 : Int) , R23 h w4 = some r → mJ G M_Law_law 23 [(2, (-1)), (2, v1), (2, v2), (2, v3), (0, w4), (9, 0), (9, 0), (9, 0)] [] h r) (hr : f_Law_law_J1673 G R23 v1 v2 v3 v4 h = some r) : mJ G M_Law_law 1673 [(2, (-1)), (2, v1), (2, v2), (2, v3), (0, v4), (9, 0), (9, 0), (9, 0)] [] h r := by
  unfold f_Law_law_J1673 at hr
  refine j_aload_n (pc := 1673) d_Law_law_1673 rfl ?_
  refine j_aload_n (pc := 1674) d_Law_law_1674 rfl ?_
  refine j_iload (pc := 1675) d_Law_law_1675 rfl ?_
  refine j_iconst (pc := 1677) d_Law_law_1677 ?_
  refine j_iadd (pc := 1678) d_Law_law_1678 ?_
  refine j_sload (pc := 1679) d_Law_law_1679 hr (fun hr => ?_)
  refine j_aload_n (pc := 1680) d_Law_law_1680 rfl ?_
  refine j_iload (pc := 1681) d_Law_law_1681 rfl ?_
  refine j_iconst (pc := 1683) d_Law_law_1683 ?_
  refine j_iadd (pc := 1684) d_Law_law_1684 ?_
  refine j_sload (pc := 1685) d_Law_law_1685 hr (fun hr => ?_)
  refine j_aload_n (pc := 1686) d_Law_law_1686 rfl ?_
  refine j_callR (pc := 1687) (stk := [(2, v3), (0, gX G (w32 (v4 + 2))), (0, gX G (w32 (v4 + 1))), (2, v1)]) (as := [(2, v1), (0, gX G (w32 (v4 + 1))), (0, gX G (w32 (v4 + 2))), (2, v3)]) (P := (fun v9 => ((0 : Nat), v9) :: [])) (tg := 0) (My := M_Law_halvesFirst) (by decide) (mRunW (as := [(2, v1), (0, gX G (w32 (v4 + 1))), (0, gX G (w32 (v4 + 2))), (2, v3)]) (st := []) d_Law_law_1687 (mc_Law_halvesFirst (by decide)) (by decide) ⟨tb_ml_Law_236, tb_sm_Law_halvesFirst⟩ rfl (Nat.le_of_ble_eq_true rfl)) (fun v => rfl) hr (fun r1 h1 => t_Law_halvesFirst _ _ _ _ _ _ h1) (fun x2 h1 hr => ?_)
  refine j_istore (pc := 1690) (ls' := [(2, (-1)), (2, v1), (2, v2), (2, v3), (0, v4), (0, x2), (9, 0), (9, 0)]) d_Law_law_1690 rfl ?_
  refine j_aload_n (pc := 1692) d_Law_law_1692 rfl ?_
  refine j_aload_n (pc := 1693) d_Law_law_1693 rfl ?_
  refine j_iload (pc := 1694) d_Law_law_1694 rfl ?_
  refine j_iconst (pc := 1696) d_Law_law_1696 ?_
  refine j_iadd (pc := 1697) d_Law_law_1697 ?_
  refine j_sload (pc := 1698) d_Law_law_1698 hr (fun hr => ?_)
  refine j_aload_n (pc := 1699) d_Law_law_1699 rfl ?_
  refine j_iload (pc := 1700) d_Law_law_1700 rfl ?_
  refine j_iconst (pc := 1702) d_Law_law_1702 ?_
  refine j_iadd (pc := 1703) d_Law_law_1703 ?_
  refine j_sload (pc := 1704) d_Law_law_1704 hr (fun hr => ?_)
  obtain ⟨ha, hr⟩ := chk_some hr
  refine j_callG (pc := 1705) (stk := [(0, gX G (w32 (v4 + 2))), (0, gX G (w32 (v4 + 1))), (2, v2)]) (as := [(2, v2), (0, gX G (w32 (v4 + 1))), (0, gX G (w32 (v4 + 2)))]) (P := (fun v9 => ((0 : Nat), v9) :: [])) (tg := 0) (My := M_Md_halvesFirst) (mRunV (as := [(0, gX G (w32 (v4 + 1))), (0, gX G (w32 (v4 + 2)))]) (st := []) d_Law_law_1705 (mc_Md_halvesFirst (by decide)) rfl (mv_Md_halvesFirst tb_ml_Law_238) rfl (Nat.le_of_ble_eq_true rfl) ha) (fun v => rfl) rfl hr (fun r1 h1 => t_Md_halvesFirst _ _ _ _ _ h1) (fun x4 h3 hr => ?_)
  refine j_istore (pc := 1708) (ls' := [(2, (-1)), (2, v1), (2, v2), (2, v3), (0, v4), (0, x2), (0, x4), (9, 0)]) d_Law_law_1708 rfl ?_
  refine j_aload_n (pc := 1710) d_Law_law_1710 rfl ?_
  obtain ⟨ha, hr⟩ := chk_some hr
  refine j_callG (pc := 1711) (stk := [(2, v2)]) (as := [(2, v2)]) (P := (fun v9 => ((0 : Nat), v9) :: [])) (tg := 0) (My := M_Md_thrown) (mRunV (as := []) (st := []) d_Law_law_1711 (mc_Md_thrown (by decide)) rfl (mv_Md_thrown tb_ml_Law_146) rfl (Nat.le_of_ble_eq_true rfl) ha) (fun v => rfl) rfl hr (fun r1 h1 => t_Md_thrown _ _ _ h1) (fun x6 h5 hr => ?_)
  refine j_iload (pc := 1714) d_Law_law_1714 rfl ?_
  refine j_icmp_eq (pc := 1716) (tgt := 1721) d_Law_law_1716 hr (fun hr => ?_) (fun hr => ?_)
  · refine j_iload (pc := 1721) d_Law_law_1721 rfl ?_
    refine j_if_ne (pc := 1723) (tgt := 1738) d_Law_law_1723 hr (fun hr => ?_) (fun hr => ?_)
    · exact mJ_weak (ls' := [(2, (-1)), (2, v1), (2, v2), (2, v3), (0, v4), (9, 0), (9, 0), (9, 0)]) (mwk_s (mwk_s (mwk_s (mwk_s (mwk_s (mwk_d (mwk_d (mwk_s mwk_n)))))))) (t_Law_law_J1738 hR23 hr)
    · refine j_aload_n (pc := 1726) d_Law_law_1726 rfl ?_
      refine j_iconst (pc := 1727) d_Law_law_1727 ?_
      refine j_laload (pc := 1728) d_Law_law_1728 hr (fun hr => ?_)
      refine j_iload (pc := 1729) d_Law_law_1729 rfl ?_
      refine j_i2l (pc := 1731) d_Law_law_1731 ?_
      refine j_lcmp (pc := 1732) d_Law_law_1732 ?_
      refine j_if_eq (pc := 1733) (tgt := 1738) d_Law_law_1733 hr (fun hr => ?_) (fun hr => ?_)
      · exact mJ_weak (ls' := [(2, (-1)), (2, v1), (2, v2), (2, v3), (0, v4), (9, 0), (9, 0), (9, 0)]) (mwk_s (mwk_s (mwk_s (mwk_s (mwk_s (mwk_d (mwk_d (mwk_s mwk_n)))))))) (t_Law_law_J1738 hR23 hr)
      · refine j_iconst (pc := 1736) d_Law_law_1736 ?_
        exact j_zret (pc := 1737) d_Law_law_1737 rfl hr
  · refine j_iconst (pc := 1719) d_Law_law_1719 ?_
    exact j_zret (pc := 1720) d_Law_law_1720 rfl hr
theorem t_Law_law_J1794 {G : mG} {r : mR} {v1 v2 v3 v4 : Int} {h : mH} {R23 : mH → Int → Option mR} (hR23 : ∀ (h : mH) (w4 : Int) , R23 h w4 = some r → mJ G M_Law_law 23 [(2, (-1)), (2, v1), (2, v2), (2, v3), (0, w4), (9, 0), (9, 0), (9, 0)] [] h r) (hr : f_Law_law_J1794 G R23 v4 h = some r) : mJ G M_Law_law 1794 [(2, (-1)), (2, v1), (2, v2), (2, v3), (0, v4), (9, 0), (9, 0), (9, 0)] [] h r := by
  unfold f_Law_law_J1794 at hr
  refine j_goto (pc := 1794) (tgt := 2642) d_Law_law_1794 ?_
  exact mJ_weak (ls' := [(2, (-1)), (2, v1), (2, v2), (2, v3), (0, v4), (9, 0), (9, 0), (9, 0)]) (mwk_s (mwk_s (mwk_s (mwk_s (mwk_s (mwk_s (mwk_s (mwk_s mwk_n)))))))) (t_Law_law_J2642 hR23 hr)
theorem t_Law_law_J1741 {G : mG} {r : mR} {v1 v2 v3 v4 : Int} {h : mH} {R23 : mH → Int → Option mR} (hR23 : ∀ (h : mH) (w4 : Int) , R23 h w4 = some r → mJ G M_Law_law 23 [(2, (-1)), (2, v1), (2, v2), (2, v3), (0, w4), (9, 0), (9, 0), (9, 0)] [] h r) (hr : f_Law_law_J1741 G R23 v1 v2 v3 v4 h = some r) : mJ G M_Law_law 1741 [(2, (-1)), (2, v1), (2, v2), (2, v3), (0, v4), (9, 0), (9, 0), (9, 0)] [] h r := by
  unfold f_Law_law_J1741 at hr
  refine j_aload_n (pc := 1741) d_Law_law_1741 rfl ?_
  refine j_aload_n (pc := 1742) d_Law_law_1742 rfl ?_
  refine j_iload (pc := 1743) d_Law_law_1743 rfl ?_
  refine j_iconst (pc := 1745) d_Law_law_1745 ?_
  refine j_iadd (pc := 1746) d_Law_law_1746 ?_
  refine j_sload (pc := 1747) d_Law_law_1747 hr (fun hr => ?_)
  refine j_aload_n (pc := 1748) d_Law_law_1748 rfl ?_
  refine j_callR (pc := 1749) (stk := [(2, v3), (0, gX G (w32 (v4 + 1))), (2, v1)]) (as := [(2, v1), (0, gX G (w32 (v4 + 1))), (2, v3)]) (P := (fun v9 => ((0 : Nat), v9) :: [])) (tg := 0) (My := M_Law_ifWorn) (by decide) (mRunW (as := [(2, v1), (0, gX G (w32 (v4 + 1))), (2, v3)]) (st := []) d_Law_law_1749 (mc_Law_ifWorn (by decide)) (by decide) ⟨tb_ml_Law_239, tb_sm_Law_ifWorn⟩ rfl (Nat.le_of_ble_eq_true rfl)) (fun v => rfl) hr (fun r1 h1 => t_Law_ifWorn _ _ _ _ _ h1) (fun x2 h1 hr => ?_)
  refine j_istore (pc := 1752) (ls' := [(2, (-1)), (2, v1), (2, v2), (2, v3), (0, v4), (0, x2), (9, 0), (9, 0)]) d_Law_law_1752 rfl ?_
  refine j_aload_n (pc := 1754) d_Law_law_1754 rfl ?_
  refine j_aload_n (pc := 1755) d_Law_law_1755 rfl ?_
  refine j_iload (pc := 1756) d_Law_law_1756 rfl ?_
  refine j_iconst (pc := 1758) d_Law_law_1758 ?_
  refine j_iadd (pc := 1759) d_Law_law_1759 ?_
  refine j_sload (pc := 1760) d_Law_law_1760 hr (fun hr => ?_)
  obtain ⟨ha, hr⟩ := chk_some hr
  refine j_callG (pc := 1761) (stk := [(0, gX G (w32 (v4 + 1))), (2, v2)]) (as := [(2, v2), (0, gX G (w32 (v4 + 1)))]) (P := (fun v9 => ((0 : Nat), v9) :: [])) (tg := 0) (My := M_Md_ifWorn) (mRunV (as := [(0, gX G (w32 (v4 + 1)))]) (st := []) d_Law_law_1761 (mc_Md_ifWorn (by decide)) rfl (mv_Md_ifWorn tb_ml_Law_241) rfl (Nat.le_of_ble_eq_true rfl) ha) (fun v => rfl) rfl hr (fun r1 h1 => t_Md_ifWorn _ _ _ _ h1) (fun x4 h3 hr => ?_)
  refine j_istore (pc := 1764) (ls' := [(2, (-1)), (2, v1), (2, v2), (2, v3), (0, v4), (0, x2), (0, x4), (9, 0)]) d_Law_law_1764 rfl ?_
  refine j_aload_n (pc := 1766) d_Law_law_1766 rfl ?_
  obtain ⟨ha, hr⟩ := chk_some hr
  refine j_callG (pc := 1767) (stk := [(2, v2)]) (as := [(2, v2)]) (P := (fun v9 => ((0 : Nat), v9) :: [])) (tg := 0) (My := M_Md_thrown) (mRunV (as := []) (st := []) d_Law_law_1767 (mc_Md_thrown (by decide)) rfl (mv_Md_thrown tb_ml_Law_146) rfl (Nat.le_of_ble_eq_true rfl) ha) (fun v => rfl) rfl hr (fun r1 h1 => t_Md_thrown _ _ _ h1) (fun x6 h5 hr => ?_)
  refine j_iload (pc := 1770) d_Law_law_1770 rfl ?_
  refine j_icmp_eq (pc := 1772) (tgt := 1777) d_Law_law_1772 hr (fun hr => ?_) (fun hr => ?_)
  · refine j_iload (pc := 1777) d_Law_law_1777 rfl ?_
    refine j_if_ne (pc := 1779) (tgt := 1794) d_Law_law_1779 hr (fun hr => ?_) (fun hr => ?_)
    · exact mJ_weak (ls' := [(2, (-1)), (2, v1), (2, v2), (2, v3), (0, v4), (9, 0), (9, 0), (9, 0)]) (mwk_s (mwk_s (mwk_s (mwk_s (mwk_s (mwk_d (mwk_d (mwk_s mwk_n)))))))) (t_Law_law_J1794 hR23 hr)
    · refine j_aload_n (pc := 1782) d_Law_law_1782 rfl ?_
      refine j_iconst (pc := 1783) d_Law_law_1783 ?_
      refine j_laload (pc := 1784) d_Law_law_1784 hr (fun hr => ?_)
      refine j_iload (pc := 1785) d_Law_law_1785 rfl ?_
      refine j_i2l (pc := 1787) d_Law_law_1787 ?_
      refine j_lcmp (pc := 1788) d_Law_law_1788 ?_
      refine j_if_eq (pc := 1789) (tgt := 1794) d_Law_law_1789 hr (fun hr => ?_) (fun hr => ?_)
      · exact mJ_weak (ls' := [(2, (-1)), (2, v1), (2, v2), (2, v3), (0, v4), (9, 0), (9, 0), (9, 0)]) (mwk_s (mwk_s (mwk_s (mwk_s (mwk_s (mwk_d (mwk_d (mwk_s mwk_n)))))))) (t_Law_law_J1794 hR23 hr)
      · refine j_iconst (pc := 1792) d_Law_law_1792 ?_
        exact j_zret (pc := 1793) d_Law_law_1793 rfl hr
  · refine j_iconst (pc := 1775) d_Law_law_1775 ?_
    exact j_zret (pc := 1776) d_Law_law_1776 rfl hr
theorem t_Law_law_J1838 {G : mG} {r : mR} {v1 v2 v3 v4 : Int} {h : mH} {R23 : mH → Int → Option mR} (hR23 : ∀ (h : mH) (w4 : Int) , R23 h w4 = some r → mJ G M_Law_law 23 [(2, (-1)), (2, v1), (2, v2), (2, v3), (0, w4), (9, 0), (9, 0), (9, 0)] [] h r) (hr : f_Law_law_J1838 G R23 v4 h = some r) : mJ G M_Law_law 1838 [(2, (-1)), (2, v1), (2, v2), (2, v3), (0, v4), (9, 0), (9, 0), (9, 0)] [] h r := by
  unfold f_Law_law_J1838 at hr
  refine j_goto (pc := 1838) (tgt := 2642) d_Law_law_1838 ?_
  exact mJ_weak (ls' := [(2, (-1)), (2, v1), (2, v2), (2, v3), (0, v4), (9, 0), (9, 0), (9, 0)]) (mwk_s (mwk_s (mwk_s (mwk_s (mwk_s (mwk_s (mwk_s (mwk_s mwk_n)))))))) (t_Law_law_J2642 hR23 hr)
theorem t_Law_law_J1797 {G : mG} {r : mR} {v1 v2 v3 v4 : Int} {h : mH} {R23 : mH → Int → Option mR} (hR23 : ∀ (h : mH) (w4 : Int) , R23 h w4 = some r → mJ G M_Law_law 23 [(2, (-1)), (2, v1), (2, v2), (2, v3), (0, w4), (9, 0), (9, 0), (9, 0)] [] h r) (hr : f_Law_law_J1797 G R23 v1 v2 v3 v4 h = some r) : mJ G M_Law_law 1797 [(2, (-1)), (2, v1), (2, v2), (2, v3), (0, v4), (9, 0), (9, 0), (9, 0)] [] h r := by
  unfold f_Law_law_J1797 at hr
  refine j_aload_n (pc := 1797) d_Law_law_1797 rfl ?_
  refine j_aload_n (pc := 1798) d_Law_law_1798 rfl ?_
  refine j_callR (pc := 1799) (stk := [(2, v3), (2, v1)]) (as := [(2, v1), (2, v3)]) (P := (fun v9 => ((0 : Nat), v9) :: [])) (tg := 0) (My := M_Law_weakest) (by decide) (mRunW (as := [(2, v1), (2, v3)]) (st := []) d_Law_law_1799 (mc_Law_weakest (by decide)) (by decide) ⟨tb_ml_Law_242, tb_sm_Law_weakest⟩ rfl (Nat.le_of_ble_eq_true rfl)) (fun v => rfl) hr (fun r1 h1 => t_Law_weakest _ _ _ _ h1) (fun x2 h1 hr => ?_)
  refine j_istore (pc := 1802) (ls' := [(2, (-1)), (2, v1), (2, v2), (2, v3), (0, v4), (0, x2), (9, 0), (9, 0)]) d_Law_law_1802 rfl ?_
  refine j_aload_n (pc := 1804) d_Law_law_1804 rfl ?_
  obtain ⟨ha, hr⟩ := chk_some hr
  refine j_callG (pc := 1805) (stk := [(2, v2)]) (as := [(2, v2)]) (P := (fun v9 => ((0 : Nat), v9) :: [])) (tg := 0) (My := M_Md_weakest) (mRunV (as := []) (st := []) d_Law_law_1805 (mc_Md_weakest (by decide)) rfl (mv_Md_weakest tb_ml_Law_244) rfl (Nat.le_of_ble_eq_true rfl) ha) (fun v => rfl) rfl hr (fun r1 h1 => t_Md_weakest _ _ _ h1) (fun x4 h3 hr => ?_)
  refine j_istore (pc := 1808) (ls' := [(2, (-1)), (2, v1), (2, v2), (2, v3), (0, v4), (0, x2), (0, x4), (9, 0)]) d_Law_law_1808 rfl ?_
  refine j_aload_n (pc := 1810) d_Law_law_1810 rfl ?_
  obtain ⟨ha, hr⟩ := chk_some hr
  refine j_callG (pc := 1811) (stk := [(2, v2)]) (as := [(2, v2)]) (P := (fun v9 => ((0 : Nat), v9) :: [])) (tg := 0) (My := M_Md_thrown) (mRunV (as := []) (st := []) d_Law_law_1811 (mc_Md_thrown (by decide)) rfl (mv_Md_thrown tb_ml_Law_146) rfl (Nat.le_of_ble_eq_true rfl) ha) (fun v => rfl) rfl hr (fun r1 h1 => t_Md_thrown _ _ _ h1) (fun x6 h5 hr => ?_)
  refine j_iload (pc := 1814) d_Law_law_1814 rfl ?_
  refine j_icmp_eq (pc := 1816) (tgt := 1821) d_Law_law_1816 hr (fun hr => ?_) (fun hr => ?_)
  · refine j_iload (pc := 1821) d_Law_law_1821 rfl ?_
    refine j_if_ne (pc := 1823) (tgt := 1838) d_Law_law_1823 hr (fun hr => ?_) (fun hr => ?_)
    · exact mJ_weak (ls' := [(2, (-1)), (2, v1), (2, v2), (2, v3), (0, v4), (9, 0), (9, 0), (9, 0)]) (mwk_s (mwk_s (mwk_s (mwk_s (mwk_s (mwk_d (mwk_d (mwk_s mwk_n)))))))) (t_Law_law_J1838 hR23 hr)
    · refine j_aload_n (pc := 1826) d_Law_law_1826 rfl ?_
      refine j_iconst (pc := 1827) d_Law_law_1827 ?_
      refine j_laload (pc := 1828) d_Law_law_1828 hr (fun hr => ?_)
      refine j_iload (pc := 1829) d_Law_law_1829 rfl ?_
      refine j_i2l (pc := 1831) d_Law_law_1831 ?_
      refine j_lcmp (pc := 1832) d_Law_law_1832 ?_
      refine j_if_eq (pc := 1833) (tgt := 1838) d_Law_law_1833 hr (fun hr => ?_) (fun hr => ?_)
      · exact mJ_weak (ls' := [(2, (-1)), (2, v1), (2, v2), (2, v3), (0, v4), (9, 0), (9, 0), (9, 0)]) (mwk_s (mwk_s (mwk_s (mwk_s (mwk_s (mwk_d (mwk_d (mwk_s mwk_n)))))))) (t_Law_law_J1838 hR23 hr)
      · refine j_iconst (pc := 1836) d_Law_law_1836 ?_
        exact j_zret (pc := 1837) d_Law_law_1837 rfl hr
  · refine j_iconst (pc := 1819) d_Law_law_1819 ?_
    exact j_zret (pc := 1820) d_Law_law_1820 rfl hr
theorem t_Law_law_J1906 {G : mG} {r : mR} {v1 v2 v3 v4 : Int} {h : mH} {R23 : mH → Int → Option mR} (hR23 : ∀ (h : mH) (w4 : Int) , R23 h w4 = some r → mJ G M_Law_law 23 [(2, (-1)), (2, v1), (2, v2), (2, v3), (0, w4), (9, 0), (9, 0), (9, 0)] [] h r) (hr : f_Law_law_J1906 G R23 v4 h = some r) : mJ G M_Law_law 1906 [(2, (-1)), (2, v1), (2, v2), (2, v3), (0, v4), (9, 0), (9, 0), (9, 0)] [] h r := by
  unfold f_Law_law_J1906 at hr
  refine j_goto (pc := 1906) (tgt := 2642) d_Law_law_1906 ?_
  exact mJ_weak (ls' := [(2, (-1)), (2, v1), (2, v2), (2, v3), (0, v4), (9, 0), (9, 0), (9, 0)]) (mwk_s (mwk_s (mwk_s (mwk_s (mwk_s (mwk_s (mwk_s (mwk_s mwk_n)))))))) (t_Law_law_J2642 hR23 hr)
theorem t_Law_law_J1841 {G : mG} {r : mR} {v1 v2 v3 v4 : Int} {h : mH} {R23 : mH → Int → Option mR} (hR23 : ∀ (h : mH) (w4 : Int) , R23 h w4 = some r → mJ G M_Law_law 23 [(2, (-1)), (2, v1), (2, v2), (2, v3), (0, w4), (9, 0), (9, 0), (9, 0)] [] h r) (hr : f_Law_law_J1841 G R23 v1 v2 v3 v4 h = some r) : mJ G M_Law_law 1841 [(2, (-1)), (2, v1), (2, v2), (2, v3), (0, v4), (9, 0), (9, 0), (9, 0)] [] h r := by
  unfold f_Law_law_J1841 at hr
  refine j_aload_n (pc := 1841) d_Law_law_1841 rfl ?_
  refine j_aload_n (pc := 1842) d_Law_law_1842 rfl ?_
  refine j_iload (pc := 1843) d_Law_law_1843 rfl ?_
  refine j_iconst (pc := 1845) d_Law_law_1845 ?_
  refine j_iadd (pc := 1846) d_Law_law_1846 ?_
  refine j_sload (pc := 1847) d_Law_law_1847 hr (fun hr => ?_)
  refine j_aload_n (pc := 1848) d_Law_law_1848 rfl ?_
  refine j_iload (pc := 1849) d_Law_law_1849 rfl ?_
  refine j_iconst (pc := 1851) d_Law_law_1851 ?_
  refine j_iadd (pc := 1852) d_Law_law_1852 ?_
  refine j_sload (pc := 1853) d_Law_law_1853 hr (fun hr => ?_)
  refine j_aload_n (pc := 1854) d_Law_law_1854 rfl ?_
  refine j_callR (pc := 1855) (stk := [(2, v3), (0, gX G (w32 (v4 + 2))), (0, gX G (w32 (v4 + 1))), (2, v1)]) (as := [(2, v1), (0, gX G (w32 (v4 + 1))), (0, gX G (w32 (v4 + 2))), (2, v3)]) (P := (fun v9 => ((0 : Nat), v9) :: [])) (tg := 0) (My := M_Law_hardest) (by decide) (mRunW (as := [(2, v1), (0, gX G (w32 (v4 + 1))), (0, gX G (w32 (v4 + 2))), (2, v3)]) (st := []) d_Law_law_1855 (mc_Law_hardest (by decide)) (by decide) ⟨tb_ml_Law_245, tb_sm_Law_hardest⟩ rfl (Nat.le_of_ble_eq_true rfl)) (fun v => rfl) hr (fun r1 h1 => t_Law_hardest _ _ _ _ _ _ h1) (fun x2 h1 hr => ?_)
  refine j_istore (pc := 1858) (ls' := [(2, (-1)), (2, v1), (2, v2), (2, v3), (0, v4), (0, x2), (9, 0), (9, 0)]) d_Law_law_1858 rfl ?_
  refine j_aload_n (pc := 1860) d_Law_law_1860 rfl ?_
  refine j_aload_n (pc := 1861) d_Law_law_1861 rfl ?_
  refine j_iload (pc := 1862) d_Law_law_1862 rfl ?_
  refine j_iconst (pc := 1864) d_Law_law_1864 ?_
  refine j_iadd (pc := 1865) d_Law_law_1865 ?_
  refine j_sload (pc := 1866) d_Law_law_1866 hr (fun hr => ?_)
  refine j_aload_n (pc := 1867) d_Law_law_1867 rfl ?_
  refine j_iload (pc := 1868) d_Law_law_1868 rfl ?_
  refine j_iconst (pc := 1870) d_Law_law_1870 ?_
  refine j_iadd (pc := 1871) d_Law_law_1871 ?_
  refine j_sload (pc := 1872) d_Law_law_1872 hr (fun hr => ?_)
  obtain ⟨ha, hr⟩ := chk_some hr
  refine j_callG (pc := 1873) (stk := [(0, gX G (w32 (v4 + 2))), (0, gX G (w32 (v4 + 1))), (2, v2)]) (as := [(2, v2), (0, gX G (w32 (v4 + 1))), (0, gX G (w32 (v4 + 2)))]) (P := (fun v9 => ((0 : Nat), v9) :: [])) (tg := 0) (My := M_Md_hardest) (mRunV (as := [(0, gX G (w32 (v4 + 1))), (0, gX G (w32 (v4 + 2)))]) (st := []) d_Law_law_1873 (mc_Md_hardest (by decide)) rfl (mv_Md_hardest tb_ml_Law_247) rfl (Nat.le_of_ble_eq_true rfl) ha) (fun v => rfl) rfl hr (fun r1 h1 => t_Md_hardest _ _ _ _ _ h1) (fun x4 h3 hr => ?_)
  refine j_istore (pc := 1876) (ls' := [(2, (-1)), (2, v1), (2, v2), (2, v3), (0, v4), (0, x2), (0, x4), (9, 0)]) d_Law_law_1876 rfl ?_
  refine j_aload_n (pc := 1878) d_Law_law_1878 rfl ?_
  obtain ⟨ha, hr⟩ := chk_some hr
  refine j_callG (pc := 1879) (stk := [(2, v2)]) (as := [(2, v2)]) (P := (fun v9 => ((0 : Nat), v9) :: [])) (tg := 0) (My := M_Md_thrown) (mRunV (as := []) (st := []) d_Law_law_1879 (mc_Md_thrown (by decide)) rfl (mv_Md_thrown tb_ml_Law_146) rfl (Nat.le_of_ble_eq_true rfl) ha) (fun v => rfl) rfl hr (fun r1 h1 => t_Md_thrown _ _ _ h1) (fun x6 h5 hr => ?_)
  refine j_iload (pc := 1882) d_Law_law_1882 rfl ?_
  refine j_icmp_eq (pc := 1884) (tgt := 1889) d_Law_law_1884 hr (fun hr => ?_) (fun hr => ?_)
  · refine j_iload (pc := 1889) d_Law_law_1889 rfl ?_
    refine j_if_ne (pc := 1891) (tgt := 1906) d_Law_law_1891 hr (fun hr => ?_) (fun hr => ?_)
    · exact mJ_weak (ls' := [(2, (-1)), (2, v1), (2, v2), (2, v3), (0, v4), (9, 0), (9, 0), (9, 0)]) (mwk_s (mwk_s (mwk_s (mwk_s (mwk_s (mwk_d (mwk_d (mwk_s mwk_n)))))))) (t_Law_law_J1906 hR23 hr)
    · refine j_aload_n (pc := 1894) d_Law_law_1894 rfl ?_
      refine j_iconst (pc := 1895) d_Law_law_1895 ?_
      refine j_laload (pc := 1896) d_Law_law_1896 hr (fun hr => ?_)
      refine j_iload (pc := 1897) d_Law_law_1897 rfl ?_
      refine j_i2l (pc := 1899) d_Law_law_1899 ?_
      refine j_lcmp (pc := 1900) d_Law_law_1900 ?_
      refine j_if_eq (pc := 1901) (tgt := 1906) d_Law_law_1901 hr (fun hr => ?_) (fun hr => ?_)
      · exact mJ_weak (ls' := [(2, (-1)), (2, v1), (2, v2), (2, v3), (0, v4), (9, 0), (9, 0), (9, 0)]) (mwk_s (mwk_s (mwk_s (mwk_s (mwk_s (mwk_d (mwk_d (mwk_s mwk_n)))))))) (t_Law_law_J1906 hR23 hr)
      · refine j_iconst (pc := 1904) d_Law_law_1904 ?_
        exact j_zret (pc := 1905) d_Law_law_1905 rfl hr
  · refine j_iconst (pc := 1887) d_Law_law_1887 ?_
    exact j_zret (pc := 1888) d_Law_law_1888 rfl hr
theorem t_Law_law_J1961 {G : mG} {r : mR} {v1 v2 v3 v4 : Int} {h : mH} {R23 : mH → Int → Option mR} (hR23 : ∀ (h : mH) (w4 : Int) , R23 h w4 = some r → mJ G M_Law_law 23 [(2, (-1)), (2, v1), (2, v2), (2, v3), (0, w4), (9, 0), (9, 0), (9, 0)] [] h r) (hr : f_Law_law_J1961 G R23 v4 h = some r) : mJ G M_Law_law 1961 [(2, (-1)), (2, v1), (2, v2), (2, v3), (0, v4), (9, 0), (9, 0), (9, 0)] [] h r := by
  unfold f_Law_law_J1961 at hr
  refine j_goto (pc := 1961) (tgt := 2642) d_Law_law_1961 ?_
  exact mJ_weak (ls' := [(2, (-1)), (2, v1), (2, v2), (2, v3), (0, v4), (9, 0), (9, 0), (9, 0)]) (mwk_s (mwk_s (mwk_s (mwk_s (mwk_s (mwk_s (mwk_s (mwk_s mwk_n)))))))) (t_Law_law_J2642 hR23 hr)
theorem t_Law_law_J1909 {G : mG} {r : mR} {v1 v2 v3 v4 : Int} {h : mH} {R23 : mH → Int → Option mR} (hR23 : ∀ (h : mH) (w4 : Int) , R23 h w4 = some r → mJ G M_Law_law 23 [(2, (-1)), (2, v1), (2, v2), (2, v3), (0, w4), (9, 0), (9, 0), (9, 0)] [] h r) (hr : f_Law_law_J1909 G R23 v1 v2 v3 v4 h = some r) : mJ G M_Law_law 1909 [(2, (-1)), (2, v1), (2, v2), (2, v3), (0, v4), (9, 0), (9, 0), (9, 0)] [] h r := by
  unfold f_Law_law_J1909 at hr
  refine j_aload_n (pc := 1909) d_Law_law_1909 rfl ?_
  refine j_aload_n (pc := 1910) d_Law_law_1910 rfl ?_
  refine j_iload (pc := 1911) d_Law_law_1911 rfl ?_
  refine j_iconst (pc := 1913) d_Law_law_1913 ?_
  refine j_iadd (pc := 1914) d_Law_law_1914 ?_
  refine j_sload (pc := 1915) d_Law_law_1915 hr (fun hr => ?_)
  refine j_aload_n (pc := 1916) d_Law_law_1916 rfl ?_
  refine j_callR (pc := 1917) (stk := [(2, v3), (0, gX G (w32 (v4 + 1))), (2, v1)]) (as := [(2, v1), (0, gX G (w32 (v4 + 1))), (2, v3)]) (P := (fun v9 => ((0 : Nat), v9) :: [])) (tg := 0) (My := M_Law_known) (by decide) (mRunW (as := [(2, v1), (0, gX G (w32 (v4 + 1))), (2, v3)]) (st := []) d_Law_law_1917 (mc_Law_known (by decide)) (by decide) ⟨tb_ml_Law_248, tb_sm_Law_known⟩ rfl (Nat.le_of_ble_eq_true rfl)) (fun v => rfl) hr (fun r1 h1 => t_Law_known _ _ _ _ _ h1) (fun x2 h1 hr => ?_)
  refine j_istore (pc := 1920) (ls' := [(2, (-1)), (2, v1), (2, v2), (2, v3), (0, v4), (0, x2), (9, 0), (9, 0)]) d_Law_law_1920 rfl ?_
  refine j_aload_n (pc := 1922) d_Law_law_1922 rfl ?_
  refine j_aload_n (pc := 1923) d_Law_law_1923 rfl ?_
  refine j_iload (pc := 1924) d_Law_law_1924 rfl ?_
  refine j_iconst (pc := 1926) d_Law_law_1926 ?_
  refine j_iadd (pc := 1927) d_Law_law_1927 ?_
  refine j_sload (pc := 1928) d_Law_law_1928 hr (fun hr => ?_)
  obtain ⟨ha, hr⟩ := chk_some hr
  refine j_callG (pc := 1929) (stk := [(0, gX G (w32 (v4 + 1))), (2, v2)]) (as := [(2, v2), (0, gX G (w32 (v4 + 1)))]) (P := (fun v9 => ((1 : Nat), v9) :: [])) (tg := 1) (My := M_Md_known) (mRunV (as := [(0, gX G (w32 (v4 + 1)))]) (st := []) d_Law_law_1929 (mc_Md_known (by decide)) rfl (mv_Md_known tb_ml_Law_250) rfl (Nat.le_of_ble_eq_true rfl) ha) (fun v => rfl) rfl hr (fun r1 h1 => t_Md_known _ _ _ _ h1) (fun x4 h3 hr => ?_)
  refine j_lstore (pc := 1932) (ls' := [(2, (-1)), (2, v1), (2, v2), (2, v3), (0, v4), (0, x2), (1, x4), (9, 0)]) d_Law_law_1932 rfl ?_
  refine j_aload_n (pc := 1934) d_Law_law_1934 rfl ?_
  obtain ⟨ha, hr⟩ := chk_some hr
  refine j_callG (pc := 1935) (stk := [(2, v2)]) (as := [(2, v2)]) (P := (fun v9 => ((0 : Nat), v9) :: [])) (tg := 0) (My := M_Md_thrown) (mRunV (as := []) (st := []) d_Law_law_1935 (mc_Md_thrown (by decide)) rfl (mv_Md_thrown tb_ml_Law_146) rfl (Nat.le_of_ble_eq_true rfl) ha) (fun v => rfl) rfl hr (fun r1 h1 => t_Md_thrown _ _ _ h1) (fun x6 h5 hr => ?_)
  refine j_iload (pc := 1938) d_Law_law_1938 rfl ?_
  refine j_icmp_eq (pc := 1940) (tgt := 1945) d_Law_law_1940 hr (fun hr => ?_) (fun hr => ?_)
  · refine j_iload (pc := 1945) d_Law_law_1945 rfl ?_
    refine j_if_ne (pc := 1947) (tgt := 1961) d_Law_law_1947 hr (fun hr => ?_) (fun hr => ?_)
    · exact mJ_weak (ls' := [(2, (-1)), (2, v1), (2, v2), (2, v3), (0, v4), (9, 0), (9, 0), (9, 0)]) (mwk_s (mwk_s (mwk_s (mwk_s (mwk_s (mwk_d (mwk_d (mwk_s mwk_n)))))))) (t_Law_law_J1961 hR23 hr)
    · refine j_aload_n (pc := 1950) d_Law_law_1950 rfl ?_
      refine j_iconst (pc := 1951) d_Law_law_1951 ?_
      refine j_laload (pc := 1952) d_Law_law_1952 hr (fun hr => ?_)
      refine j_lload (pc := 1953) d_Law_law_1953 rfl ?_
      refine j_lcmp (pc := 1955) d_Law_law_1955 ?_
      refine j_if_eq (pc := 1956) (tgt := 1961) d_Law_law_1956 hr (fun hr => ?_) (fun hr => ?_)
      · exact mJ_weak (ls' := [(2, (-1)), (2, v1), (2, v2), (2, v3), (0, v4), (9, 0), (9, 0), (9, 0)]) (mwk_s (mwk_s (mwk_s (mwk_s (mwk_s (mwk_d (mwk_d (mwk_s mwk_n)))))))) (t_Law_law_J1961 hR23 hr)
      · refine j_iconst (pc := 1959) d_Law_law_1959 ?_
        exact j_zret (pc := 1960) d_Law_law_1960 rfl hr
  · refine j_iconst (pc := 1943) d_Law_law_1943 ?_
    exact j_zret (pc := 1944) d_Law_law_1944 rfl hr
theorem t_Law_law_J2028 {G : mG} {r : mR} {v1 v2 v3 v4 : Int} {h : mH} {R23 : mH → Int → Option mR} (hR23 : ∀ (h : mH) (w4 : Int) , R23 h w4 = some r → mJ G M_Law_law 23 [(2, (-1)), (2, v1), (2, v2), (2, v3), (0, w4), (9, 0), (9, 0), (9, 0)] [] h r) (hr : f_Law_law_J2028 G R23 v4 h = some r) : mJ G M_Law_law 2028 [(2, (-1)), (2, v1), (2, v2), (2, v3), (0, v4), (9, 0), (9, 0), (9, 0)] [] h r := by
  unfold f_Law_law_J2028 at hr
  refine j_goto (pc := 2028) (tgt := 2642) d_Law_law_2028 ?_
  exact mJ_weak (ls' := [(2, (-1)), (2, v1), (2, v2), (2, v3), (0, v4), (9, 0), (9, 0), (9, 0)]) (mwk_s (mwk_s (mwk_s (mwk_s (mwk_s (mwk_s (mwk_s (mwk_s mwk_n)))))))) (t_Law_law_J2642 hR23 hr)
theorem t_Law_law_J1964 {G : mG} {r : mR} {v1 v2 v3 v4 : Int} {h : mH} {R23 : mH → Int → Option mR} (hR23 : ∀ (h : mH) (w4 : Int) , R23 h w4 = some r → mJ G M_Law_law 23 [(2, (-1)), (2, v1), (2, v2), (2, v3), (0, w4), (9, 0), (9, 0), (9, 0)] [] h r) (hr : f_Law_law_J1964 G R23 v1 v2 v3 v4 h = some r) : mJ G M_Law_law 1964 [(2, (-1)), (2, v1), (2, v2), (2, v3), (0, v4), (9, 0), (9, 0), (9, 0)] [] h r := by
  unfold f_Law_law_J1964 at hr
  refine j_aload_n (pc := 1964) d_Law_law_1964 rfl ?_
  refine j_aload_n (pc := 1965) d_Law_law_1965 rfl ?_
  refine j_iload (pc := 1966) d_Law_law_1966 rfl ?_
  refine j_iconst (pc := 1968) d_Law_law_1968 ?_
  refine j_iadd (pc := 1969) d_Law_law_1969 ?_
  refine j_sload (pc := 1970) d_Law_law_1970 hr (fun hr => ?_)
  refine j_aload_n (pc := 1971) d_Law_law_1971 rfl ?_
  refine j_iload (pc := 1972) d_Law_law_1972 rfl ?_
  refine j_iconst (pc := 1974) d_Law_law_1974 ?_
  refine j_iadd (pc := 1975) d_Law_law_1975 ?_
  refine j_sload (pc := 1976) d_Law_law_1976 hr (fun hr => ?_)
  refine j_aload_n (pc := 1977) d_Law_law_1977 rfl ?_
  refine j_callR (pc := 1978) (stk := [(2, v3), (0, gX G (w32 (v4 + 2))), (0, gX G (w32 (v4 + 1))), (2, v1)]) (as := [(2, v1), (0, gX G (w32 (v4 + 1))), (0, gX G (w32 (v4 + 2))), (2, v3)]) (P := (fun v9 => ((0 : Nat), v9) :: [])) (tg := 0) (My := M_Law_keeps) (by decide) (mRunW (as := [(2, v1), (0, gX G (w32 (v4 + 1))), (0, gX G (w32 (v4 + 2))), (2, v3)]) (st := []) d_Law_law_1978 (mc_Law_keeps (by decide)) (by decide) ⟨tb_ml_Law_251, tb_sm_Law_keeps⟩ rfl (Nat.le_of_ble_eq_true rfl)) (fun v => rfl) hr (fun r1 h1 => t_Law_keeps _ _ _ _ _ _ h1) (fun x2 h1 hr => ?_)
  refine j_istore (pc := 1981) (ls' := [(2, (-1)), (2, v1), (2, v2), (2, v3), (0, v4), (0, x2), (9, 0), (9, 0)]) d_Law_law_1981 rfl ?_
  refine j_aload_n (pc := 1983) d_Law_law_1983 rfl ?_
  refine j_aload_n (pc := 1984) d_Law_law_1984 rfl ?_
  refine j_iload (pc := 1985) d_Law_law_1985 rfl ?_
  refine j_iconst (pc := 1987) d_Law_law_1987 ?_
  refine j_iadd (pc := 1988) d_Law_law_1988 ?_
  refine j_sload (pc := 1989) d_Law_law_1989 hr (fun hr => ?_)
  refine j_aload_n (pc := 1990) d_Law_law_1990 rfl ?_
  refine j_iload (pc := 1991) d_Law_law_1991 rfl ?_
  refine j_iconst (pc := 1993) d_Law_law_1993 ?_
  refine j_iadd (pc := 1994) d_Law_law_1994 ?_
  refine j_sload (pc := 1995) d_Law_law_1995 hr (fun hr => ?_)
  obtain ⟨ha, hr⟩ := chk_some hr
  refine j_callG (pc := 1996) (stk := [(0, gX G (w32 (v4 + 2))), (0, gX G (w32 (v4 + 1))), (2, v2)]) (as := [(2, v2), (0, gX G (w32 (v4 + 1))), (0, gX G (w32 (v4 + 2)))]) (P := (fun v9 => ((1 : Nat), v9) :: [])) (tg := 1) (My := M_Md_keeps) (mRunV (as := [(0, gX G (w32 (v4 + 1))), (0, gX G (w32 (v4 + 2)))]) (st := []) d_Law_law_1996 (mc_Md_keeps (by decide)) rfl (mv_Md_keeps tb_ml_Law_253) rfl (Nat.le_of_ble_eq_true rfl) ha) (fun v => rfl) rfl hr (fun r1 h1 => t_Md_keeps _ _ _ _ _ h1) (fun x4 h3 hr => ?_)
  refine j_lstore (pc := 1999) (ls' := [(2, (-1)), (2, v1), (2, v2), (2, v3), (0, v4), (0, x2), (1, x4), (9, 0)]) d_Law_law_1999 rfl ?_
  refine j_aload_n (pc := 2001) d_Law_law_2001 rfl ?_
  obtain ⟨ha, hr⟩ := chk_some hr
  refine j_callG (pc := 2002) (stk := [(2, v2)]) (as := [(2, v2)]) (P := (fun v9 => ((0 : Nat), v9) :: [])) (tg := 0) (My := M_Md_thrown) (mRunV (as := []) (st := []) d_Law_law_2002 (mc_Md_thrown (by decide)) rfl (mv_Md_thrown tb_ml_Law_146) rfl (Nat.le_of_ble_eq_true rfl) ha) (fun v => rfl) rfl hr (fun r1 h1 => t_Md_thrown _ _ _ h1) (fun x6 h5 hr => ?_)
  refine j_iload (pc := 2005) d_Law_law_2005 rfl ?_
  refine j_icmp_eq (pc := 2007) (tgt := 2012) d_Law_law_2007 hr (fun hr => ?_) (fun hr => ?_)
  · refine j_iload (pc := 2012) d_Law_law_2012 rfl ?_
    refine j_if_ne (pc := 2014) (tgt := 2028) d_Law_law_2014 hr (fun hr => ?_) (fun hr => ?_)
    · exact mJ_weak (ls' := [(2, (-1)), (2, v1), (2, v2), (2, v3), (0, v4), (9, 0), (9, 0), (9, 0)]) (mwk_s (mwk_s (mwk_s (mwk_s (mwk_s (mwk_d (mwk_d (mwk_s mwk_n)))))))) (t_Law_law_J2028 hR23 hr)
    · refine j_aload_n (pc := 2017) d_Law_law_2017 rfl ?_
      refine j_iconst (pc := 2018) d_Law_law_2018 ?_
      refine j_laload (pc := 2019) d_Law_law_2019 hr (fun hr => ?_)
      refine j_lload (pc := 2020) d_Law_law_2020 rfl ?_
      refine j_lcmp (pc := 2022) d_Law_law_2022 ?_
      refine j_if_eq (pc := 2023) (tgt := 2028) d_Law_law_2023 hr (fun hr => ?_) (fun hr => ?_)
      · exact mJ_weak (ls' := [(2, (-1)), (2, v1), (2, v2), (2, v3), (0, v4), (9, 0), (9, 0), (9, 0)]) (mwk_s (mwk_s (mwk_s (mwk_s (mwk_s (mwk_d (mwk_d (mwk_s mwk_n)))))))) (t_Law_law_J2028 hR23 hr)
      · refine j_iconst (pc := 2026) d_Law_law_2026 ?_
        exact j_zret (pc := 2027) d_Law_law_2027 rfl hr
  · refine j_iconst (pc := 2010) d_Law_law_2010 ?_
    exact j_zret (pc := 2011) d_Law_law_2011 rfl hr
theorem t_Law_law_J2108 {G : mG} {r : mR} {v1 v2 v3 v4 : Int} {h : mH} {R23 : mH → Int → Option mR} (hR23 : ∀ (h : mH) (w4 : Int) , R23 h w4 = some r → mJ G M_Law_law 23 [(2, (-1)), (2, v1), (2, v2), (2, v3), (0, w4), (9, 0), (9, 0), (9, 0)] [] h r) (hr : f_Law_law_J2108 G R23 v4 h = some r) : mJ G M_Law_law 2108 [(2, (-1)), (2, v1), (2, v2), (2, v3), (0, v4), (9, 0), (9, 0), (9, 0)] [] h r := by
  unfold f_Law_law_J2108 at hr
  refine j_goto (pc := 2108) (tgt := 2642) d_Law_law_2108 ?_
  exact mJ_weak (ls' := [(2, (-1)), (2, v1), (2, v2), (2, v3), (0, v4), (9, 0), (9, 0), (9, 0)]) (mwk_s (mwk_s (mwk_s (mwk_s (mwk_s (mwk_s (mwk_s (mwk_s mwk_n)))))))) (t_Law_law_J2642 hR23 hr)
theorem t_Law_law_J2031 {G : mG} {r : mR} {v1 v2 v3 v4 : Int} {h : mH} {R23 : mH → Int → Option mR} (hR23 : ∀ (h : mH) (w4 : Int) , R23 h w4 = some r → mJ G M_Law_law 23 [(2, (-1)), (2, v1), (2, v2), (2, v3), (0, w4), (9, 0), (9, 0), (9, 0)] [] h r) (hr : f_Law_law_J2031 G R23 v1 v2 v3 v4 h = some r) : mJ G M_Law_law 2031 [(2, (-1)), (2, v1), (2, v2), (2, v3), (0, v4), (9, 0), (9, 0), (9, 0)] [] h r := by
  unfold f_Law_law_J2031 at hr
  refine j_aload_n (pc := 2031) d_Law_law_2031 rfl ?_
  refine j_aload_n (pc := 2032) d_Law_law_2032 rfl ?_
  refine j_iload (pc := 2033) d_Law_law_2033 rfl ?_
  refine j_iconst (pc := 2035) d_Law_law_2035 ?_
  refine j_iadd (pc := 2036) d_Law_law_2036 ?_
  refine j_sload (pc := 2037) d_Law_law_2037 hr (fun hr => ?_)
  refine j_aload_n (pc := 2038) d_Law_law_2038 rfl ?_
  refine j_iload (pc := 2039) d_Law_law_2039 rfl ?_
  refine j_iconst (pc := 2041) d_Law_law_2041 ?_
  refine j_iadd (pc := 2042) d_Law_law_2042 ?_
  refine j_sload (pc := 2043) d_Law_law_2043 hr (fun hr => ?_)
  refine j_aload_n (pc := 2044) d_Law_law_2044 rfl ?_
  refine j_iload (pc := 2045) d_Law_law_2045 rfl ?_
  refine j_iconst (pc := 2047) d_Law_law_2047 ?_
  refine j_iadd (pc := 2048) d_Law_law_2048 ?_
  refine j_sload (pc := 2049) d_Law_law_2049 hr (fun hr => ?_)
  refine j_aload_n (pc := 2050) d_Law_law_2050 rfl ?_
  refine j_callR (pc := 2051) (stk := [(2, v3), (0, gX G (w32 (v4 + 3))), (0, gX G (w32 (v4 + 2))), (0, gX G (w32 (v4 + 1))), (2, v1)]) (as := [(2, v1), (0, gX G (w32 (v4 + 1))), (0, gX G (w32 (v4 + 2))), (0, gX G (w32 (v4 + 3))), (2, v3)]) (P := (fun v9 => ((0 : Nat), v9) :: [])) (tg := 0) (My := M_Law_fits) (by decide) (mRunW (as := [(2, v1), (0, gX G (w32 (v4 + 1))), (0, gX G (w32 (v4 + 2))), (0, gX G (w32 (v4 + 3))), (2, v3)]) (st := []) d_Law_law_2051 (mc_Law_fits (by decide)) (by decide) ⟨tb_ml_Law_254, tb_sm_Law_fits⟩ rfl (Nat.le_of_ble_eq_true rfl)) (fun v => rfl) hr (fun r1 h1 => t_Law_fits _ _ _ _ _ _ _ h1) (fun x2 h1 hr => ?_)
  refine j_istore (pc := 2054) (ls' := [(2, (-1)), (2, v1), (2, v2), (2, v3), (0, v4), (0, x2), (9, 0), (9, 0)]) d_Law_law_2054 rfl ?_
  refine j_aload_n (pc := 2056) d_Law_law_2056 rfl ?_
  refine j_aload_n (pc := 2057) d_Law_law_2057 rfl ?_
  refine j_iload (pc := 2058) d_Law_law_2058 rfl ?_
  refine j_iconst (pc := 2060) d_Law_law_2060 ?_
  refine j_iadd (pc := 2061) d_Law_law_2061 ?_
  refine j_sload (pc := 2062) d_Law_law_2062 hr (fun hr => ?_)
  refine j_aload_n (pc := 2063) d_Law_law_2063 rfl ?_
  refine j_iload (pc := 2064) d_Law_law_2064 rfl ?_
  refine j_iconst (pc := 2066) d_Law_law_2066 ?_
  refine j_iadd (pc := 2067) d_Law_law_2067 ?_
  refine j_sload (pc := 2068) d_Law_law_2068 hr (fun hr => ?_)
  refine j_aload_n (pc := 2069) d_Law_law_2069 rfl ?_
  refine j_iload (pc := 2070) d_Law_law_2070 rfl ?_
  refine j_iconst (pc := 2072) d_Law_law_2072 ?_
  refine j_iadd (pc := 2073) d_Law_law_2073 ?_
  refine j_sload (pc := 2074) d_Law_law_2074 hr (fun hr => ?_)
  obtain ⟨ha, hr⟩ := chk_some hr
  refine j_callG (pc := 2075) (stk := [(0, gX G (w32 (v4 + 3))), (0, gX G (w32 (v4 + 2))), (0, gX G (w32 (v4 + 1))), (2, v2)]) (as := [(2, v2), (0, gX G (w32 (v4 + 1))), (0, gX G (w32 (v4 + 2))), (0, gX G (w32 (v4 + 3)))]) (P := (fun v9 => ((0 : Nat), v9) :: [])) (tg := 0) (My := M_Md_fits) (mRunV (as := [(0, gX G (w32 (v4 + 1))), (0, gX G (w32 (v4 + 2))), (0, gX G (w32 (v4 + 3)))]) (st := []) d_Law_law_2075 (mc_Md_fits (by decide)) rfl (mv_Md_fits tb_ml_Law_256) rfl (Nat.le_of_ble_eq_true rfl) ha) (fun v => rfl) rfl hr (fun r1 h1 => t_Md_fits _ _ _ _ _ _ h1) (fun x4 h3 hr => ?_)
  refine j_istore (pc := 2078) (ls' := [(2, (-1)), (2, v1), (2, v2), (2, v3), (0, v4), (0, x2), (0, x4), (9, 0)]) d_Law_law_2078 rfl ?_
  refine j_aload_n (pc := 2080) d_Law_law_2080 rfl ?_
  obtain ⟨ha, hr⟩ := chk_some hr
  refine j_callG (pc := 2081) (stk := [(2, v2)]) (as := [(2, v2)]) (P := (fun v9 => ((0 : Nat), v9) :: [])) (tg := 0) (My := M_Md_thrown) (mRunV (as := []) (st := []) d_Law_law_2081 (mc_Md_thrown (by decide)) rfl (mv_Md_thrown tb_ml_Law_146) rfl (Nat.le_of_ble_eq_true rfl) ha) (fun v => rfl) rfl hr (fun r1 h1 => t_Md_thrown _ _ _ h1) (fun x6 h5 hr => ?_)
  refine j_iload (pc := 2084) d_Law_law_2084 rfl ?_
  refine j_icmp_eq (pc := 2086) (tgt := 2091) d_Law_law_2086 hr (fun hr => ?_) (fun hr => ?_)
  · refine j_iload (pc := 2091) d_Law_law_2091 rfl ?_
    refine j_if_ne (pc := 2093) (tgt := 2108) d_Law_law_2093 hr (fun hr => ?_) (fun hr => ?_)
    · exact mJ_weak (ls' := [(2, (-1)), (2, v1), (2, v2), (2, v3), (0, v4), (9, 0), (9, 0), (9, 0)]) (mwk_s (mwk_s (mwk_s (mwk_s (mwk_s (mwk_d (mwk_d (mwk_s mwk_n)))))))) (t_Law_law_J2108 hR23 hr)
    · refine j_aload_n (pc := 2096) d_Law_law_2096 rfl ?_
      refine j_iconst (pc := 2097) d_Law_law_2097 ?_
      refine j_laload (pc := 2098) d_Law_law_2098 hr (fun hr => ?_)
      refine j_iload (pc := 2099) d_Law_law_2099 rfl ?_
      refine j_i2l (pc := 2101) d_Law_law_2101 ?_
      refine j_lcmp (pc := 2102) d_Law_law_2102 ?_
      refine j_if_eq (pc := 2103) (tgt := 2108) d_Law_law_2103 hr (fun hr => ?_) (fun hr => ?_)
      · exact mJ_weak (ls' := [(2, (-1)), (2, v1), (2, v2), (2, v3), (0, v4), (9, 0), (9, 0), (9, 0)]) (mwk_s (mwk_s (mwk_s (mwk_s (mwk_s (mwk_d (mwk_d (mwk_s mwk_n)))))))) (t_Law_law_J2108 hR23 hr)
      · refine j_iconst (pc := 2106) d_Law_law_2106 ?_
        exact j_zret (pc := 2107) d_Law_law_2107 rfl hr
  · refine j_iconst (pc := 2089) d_Law_law_2089 ?_
    exact j_zret (pc := 2090) d_Law_law_2090 rfl hr
theorem t_Law_law_J2188 {G : mG} {r : mR} {v1 v2 v3 v4 : Int} {h : mH} {R23 : mH → Int → Option mR} (hR23 : ∀ (h : mH) (w4 : Int) , R23 h w4 = some r → mJ G M_Law_law 23 [(2, (-1)), (2, v1), (2, v2), (2, v3), (0, w4), (9, 0), (9, 0), (9, 0)] [] h r) (hr : f_Law_law_J2188 G R23 v4 h = some r) : mJ G M_Law_law 2188 [(2, (-1)), (2, v1), (2, v2), (2, v3), (0, v4), (9, 0), (9, 0), (9, 0)] [] h r := by
  unfold f_Law_law_J2188 at hr
  refine j_goto (pc := 2188) (tgt := 2642) d_Law_law_2188 ?_
  exact mJ_weak (ls' := [(2, (-1)), (2, v1), (2, v2), (2, v3), (0, v4), (9, 0), (9, 0), (9, 0)]) (mwk_s (mwk_s (mwk_s (mwk_s (mwk_s (mwk_s (mwk_s (mwk_s mwk_n)))))))) (t_Law_law_J2642 hR23 hr)
theorem t_Law_law_J2111 {G : mG} {r : mR} {v1 v2 v3 v4 : Int} {h : mH} {R23 : mH → Int → Option mR} (hR23 : ∀ (h : mH) (w4 : Int) , R23 h w4 = some r → mJ G M_Law_law 23 [(2, (-1)), (2, v1), (2, v2), (2, v3), (0, w4), (9, 0), (9, 0), (9, 0)] [] h r) (hr : f_Law_law_J2111 G R23 v1 v2 v3 v4 h = some r) : mJ G M_Law_law 2111 [(2, (-1)), (2, v1), (2, v2), (2, v3), (0, v4), (9, 0), (9, 0), (9, 0)] [] h r := by
  unfold f_Law_law_J2111 at hr
  refine j_aload_n (pc := 2111) d_Law_law_2111 rfl ?_
  refine j_aload_n (pc := 2112) d_Law_law_2112 rfl ?_
  refine j_iload (pc := 2113) d_Law_law_2113 rfl ?_
  refine j_iconst (pc := 2115) d_Law_law_2115 ?_
  refine j_iadd (pc := 2116) d_Law_law_2116 ?_
  refine j_sload (pc := 2117) d_Law_law_2117 hr (fun hr => ?_)
  refine j_aload_n (pc := 2118) d_Law_law_2118 rfl ?_
  refine j_iload (pc := 2119) d_Law_law_2119 rfl ?_
  refine j_iconst (pc := 2121) d_Law_law_2121 ?_
  refine j_iadd (pc := 2122) d_Law_law_2122 ?_
  refine j_sload (pc := 2123) d_Law_law_2123 hr (fun hr => ?_)
  refine j_aload_n (pc := 2124) d_Law_law_2124 rfl ?_
  refine j_iload (pc := 2125) d_Law_law_2125 rfl ?_
  refine j_iconst (pc := 2127) d_Law_law_2127 ?_
  refine j_iadd (pc := 2128) d_Law_law_2128 ?_
  refine j_sload (pc := 2129) d_Law_law_2129 hr (fun hr => ?_)
  refine j_aload_n (pc := 2130) d_Law_law_2130 rfl ?_
  refine j_callR (pc := 2131) (stk := [(2, v3), (0, gX G (w32 (v4 + 3))), (0, gX G (w32 (v4 + 2))), (0, gX G (w32 (v4 + 1))), (2, v1)]) (as := [(2, v1), (0, gX G (w32 (v4 + 1))), (0, gX G (w32 (v4 + 2))), (0, gX G (w32 (v4 + 3))), (2, v3)]) (P := (fun v9 => ((0 : Nat), v9) :: [])) (tg := 0) (My := M_Law_tries) (by decide) (mRunW (as := [(2, v1), (0, gX G (w32 (v4 + 1))), (0, gX G (w32 (v4 + 2))), (0, gX G (w32 (v4 + 3))), (2, v3)]) (st := []) d_Law_law_2131 (mc_Law_tries (by decide)) (by decide) ⟨tb_ml_Law_257, tb_sm_Law_tries⟩ rfl (Nat.le_of_ble_eq_true rfl)) (fun v => rfl) hr (fun r1 h1 => t_Law_tries _ _ _ _ _ _ _ h1) (fun x2 h1 hr => ?_)
  refine j_istore (pc := 2134) (ls' := [(2, (-1)), (2, v1), (2, v2), (2, v3), (0, v4), (0, x2), (9, 0), (9, 0)]) d_Law_law_2134 rfl ?_
  refine j_aload_n (pc := 2136) d_Law_law_2136 rfl ?_
  refine j_aload_n (pc := 2137) d_Law_law_2137 rfl ?_
  refine j_iload (pc := 2138) d_Law_law_2138 rfl ?_
  refine j_iconst (pc := 2140) d_Law_law_2140 ?_
  refine j_iadd (pc := 2141) d_Law_law_2141 ?_
  refine j_sload (pc := 2142) d_Law_law_2142 hr (fun hr => ?_)
  refine j_aload_n (pc := 2143) d_Law_law_2143 rfl ?_
  refine j_iload (pc := 2144) d_Law_law_2144 rfl ?_
  refine j_iconst (pc := 2146) d_Law_law_2146 ?_
  refine j_iadd (pc := 2147) d_Law_law_2147 ?_
  refine j_sload (pc := 2148) d_Law_law_2148 hr (fun hr => ?_)
  refine j_aload_n (pc := 2149) d_Law_law_2149 rfl ?_
  refine j_iload (pc := 2150) d_Law_law_2150 rfl ?_
  refine j_iconst (pc := 2152) d_Law_law_2152 ?_
  refine j_iadd (pc := 2153) d_Law_law_2153 ?_
  refine j_sload (pc := 2154) d_Law_law_2154 hr (fun hr => ?_)
  obtain ⟨ha, hr⟩ := chk_some hr
  refine j_callG (pc := 2155) (stk := [(0, gX G (w32 (v4 + 3))), (0, gX G (w32 (v4 + 2))), (0, gX G (w32 (v4 + 1))), (2, v2)]) (as := [(2, v2), (0, gX G (w32 (v4 + 1))), (0, gX G (w32 (v4 + 2))), (0, gX G (w32 (v4 + 3)))]) (P := (fun v9 => ((0 : Nat), v9) :: [])) (tg := 0) (My := M_Md_tries) (mRunV (as := [(0, gX G (w32 (v4 + 1))), (0, gX G (w32 (v4 + 2))), (0, gX G (w32 (v4 + 3)))]) (st := []) d_Law_law_2155 (mc_Md_tries (by decide)) rfl (mv_Md_tries tb_ml_Law_259) rfl (Nat.le_of_ble_eq_true rfl) ha) (fun v => rfl) rfl hr (fun r1 h1 => t_Md_tries _ _ _ _ _ _ h1) (fun x4 h3 hr => ?_)
  refine j_istore (pc := 2158) (ls' := [(2, (-1)), (2, v1), (2, v2), (2, v3), (0, v4), (0, x2), (0, x4), (9, 0)]) d_Law_law_2158 rfl ?_
  refine j_aload_n (pc := 2160) d_Law_law_2160 rfl ?_
  obtain ⟨ha, hr⟩ := chk_some hr
  refine j_callG (pc := 2161) (stk := [(2, v2)]) (as := [(2, v2)]) (P := (fun v9 => ((0 : Nat), v9) :: [])) (tg := 0) (My := M_Md_thrown) (mRunV (as := []) (st := []) d_Law_law_2161 (mc_Md_thrown (by decide)) rfl (mv_Md_thrown tb_ml_Law_146) rfl (Nat.le_of_ble_eq_true rfl) ha) (fun v => rfl) rfl hr (fun r1 h1 => t_Md_thrown _ _ _ h1) (fun x6 h5 hr => ?_)
  refine j_iload (pc := 2164) d_Law_law_2164 rfl ?_
  refine j_icmp_eq (pc := 2166) (tgt := 2171) d_Law_law_2166 hr (fun hr => ?_) (fun hr => ?_)
  · refine j_iload (pc := 2171) d_Law_law_2171 rfl ?_
    refine j_if_ne (pc := 2173) (tgt := 2188) d_Law_law_2173 hr (fun hr => ?_) (fun hr => ?_)
    · exact mJ_weak (ls' := [(2, (-1)), (2, v1), (2, v2), (2, v3), (0, v4), (9, 0), (9, 0), (9, 0)]) (mwk_s (mwk_s (mwk_s (mwk_s (mwk_s (mwk_d (mwk_d (mwk_s mwk_n)))))))) (t_Law_law_J2188 hR23 hr)
    · refine j_aload_n (pc := 2176) d_Law_law_2176 rfl ?_
      refine j_iconst (pc := 2177) d_Law_law_2177 ?_
      refine j_laload (pc := 2178) d_Law_law_2178 hr (fun hr => ?_)
      refine j_iload (pc := 2179) d_Law_law_2179 rfl ?_
      refine j_i2l (pc := 2181) d_Law_law_2181 ?_
      refine j_lcmp (pc := 2182) d_Law_law_2182 ?_
      refine j_if_eq (pc := 2183) (tgt := 2188) d_Law_law_2183 hr (fun hr => ?_) (fun hr => ?_)
      · exact mJ_weak (ls' := [(2, (-1)), (2, v1), (2, v2), (2, v3), (0, v4), (9, 0), (9, 0), (9, 0)]) (mwk_s (mwk_s (mwk_s (mwk_s (mwk_s (mwk_d (mwk_d (mwk_s mwk_n)))))))) (t_Law_law_J2188 hR23 hr)
      · refine j_iconst (pc := 2186) d_Law_law_2186 ?_
        exact j_zret (pc := 2187) d_Law_law_2187 rfl hr
  · refine j_iconst (pc := 2169) d_Law_law_2169 ?_
    exact j_zret (pc := 2170) d_Law_law_2170 rfl hr
theorem t_Law_law_J2271 {G : mG} {r : mR} {v1 v2 v3 v4 : Int} {h : mH} {R23 : mH → Int → Option mR} (hR23 : ∀ (h : mH) (w4 : Int) , R23 h w4 = some r → mJ G M_Law_law 23 [(2, (-1)), (2, v1), (2, v2), (2, v3), (0, w4), (9, 0), (9, 0), (9, 0)] [] h r) (hr : f_Law_law_J2271 G R23 v4 h = some r) : mJ G M_Law_law 2271 [(2, (-1)), (2, v1), (2, v2), (2, v3), (0, v4), (9, 0), (9, 0), (9, 0)] [] h r := by
  unfold f_Law_law_J2271 at hr
  refine j_goto (pc := 2271) (tgt := 2642) d_Law_law_2271 ?_
  exact mJ_weak (ls' := [(2, (-1)), (2, v1), (2, v2), (2, v3), (0, v4), (9, 0), (9, 0), (9, 0)]) (mwk_s (mwk_s (mwk_s (mwk_s (mwk_s (mwk_s (mwk_s (mwk_s mwk_n)))))))) (t_Law_law_J2642 hR23 hr)
theorem t_Law_law_J2239 {G : mG} {r : mR} {v1 v2 v3 v4 v5 s0 s1 s2 : Int} {h : mH} {R23 : mH → Int → Option mR} (hR23 : ∀ (h : mH) (w4 : Int) , R23 h w4 = some r → mJ G M_Law_law 23 [(2, (-1)), (2, v1), (2, v2), (2, v3), (0, w4), (9, 0), (9, 0), (9, 0)] [] h r) (hr : f_Law_law_J2239 G R23 v2 v3 v4 v5 s0 s1 s2 h = some r) : mJ G M_Law_law 2239 [(2, (-1)), (2, v1), (2, v2), (2, v3), (0, v4), (0, v5), (9, 0), (9, 0)] [(0, s2), (0, s1), (2, s0)] h r := by
  unfold f_Law_law_J2239 at hr
  obtain ⟨ha, hr⟩ := chk_some hr
  refine j_callG (pc := 2239) (stk := [(0, s2), (0, s1), (2, s0)]) (as := [(2, s0), (0, s1), (0, s2)]) (P := (fun v9 => ((1 : Nat), v9) :: [])) (tg := 1) (My := M_Md_rows) (mRunV (as := [(0, s1), (0, s2)]) (st := []) d_Law_law_2239 (mc_Md_rows (by decide)) rfl (mv_Md_rows tb_ml_Law_263) rfl (Nat.le_of_ble_eq_true rfl) ha) (fun v => rfl) rfl hr (fun r1 h1 => t_Md_rows _ _ _ _ _ h1) (fun x2 h1 hr => ?_)
  refine j_lstore (pc := 2242) (ls' := [(2, (-1)), (2, v1), (2, v2), (2, v3), (0, v4), (0, v5), (1, x2), (9, 0)]) d_Law_law_2242 rfl ?_
  refine j_aload_n (pc := 2244) d_Law_law_2244 rfl ?_
  obtain ⟨ha, hr⟩ := chk_some hr
  refine j_callG (pc := 2245) (stk := [(2, v2)]) (as := [(2, v2)]) (P := (fun v9 => ((0 : Nat), v9) :: [])) (tg := 0) (My := M_Md_thrown) (mRunV (as := []) (st := []) d_Law_law_2245 (mc_Md_thrown (by decide)) rfl (mv_Md_thrown tb_ml_Law_146) rfl (Nat.le_of_ble_eq_true rfl) ha) (fun v => rfl) rfl hr (fun r1 h1 => t_Md_thrown _ _ _ h1) (fun x4 h3 hr => ?_)
  refine j_iload (pc := 2248) d_Law_law_2248 rfl ?_
  refine j_icmp_eq (pc := 2250) (tgt := 2255) d_Law_law_2250 hr (fun hr => ?_) (fun hr => ?_)
  · refine j_iload (pc := 2255) d_Law_law_2255 rfl ?_
    refine j_if_ne (pc := 2257) (tgt := 2271) d_Law_law_2257 hr (fun hr => ?_) (fun hr => ?_)
    · exact mJ_weak (ls' := [(2, (-1)), (2, v1), (2, v2), (2, v3), (0, v4), (9, 0), (9, 0), (9, 0)]) (mwk_s (mwk_s (mwk_s (mwk_s (mwk_s (mwk_d (mwk_d (mwk_s mwk_n)))))))) (t_Law_law_J2271 hR23 hr)
    · refine j_aload_n (pc := 2260) d_Law_law_2260 rfl ?_
      refine j_iconst (pc := 2261) d_Law_law_2261 ?_
      refine j_laload (pc := 2262) d_Law_law_2262 hr (fun hr => ?_)
      refine j_lload (pc := 2263) d_Law_law_2263 rfl ?_
      refine j_lcmp (pc := 2265) d_Law_law_2265 ?_
      refine j_if_eq (pc := 2266) (tgt := 2271) d_Law_law_2266 hr (fun hr => ?_) (fun hr => ?_)
      · exact mJ_weak (ls' := [(2, (-1)), (2, v1), (2, v2), (2, v3), (0, v4), (9, 0), (9, 0), (9, 0)]) (mwk_s (mwk_s (mwk_s (mwk_s (mwk_s (mwk_d (mwk_d (mwk_s mwk_n)))))))) (t_Law_law_J2271 hR23 hr)
      · refine j_iconst (pc := 2269) d_Law_law_2269 ?_
        exact j_zret (pc := 2270) d_Law_law_2270 rfl hr
  · refine j_iconst (pc := 2253) d_Law_law_2253 ?_
    exact j_zret (pc := 2254) d_Law_law_2254 rfl hr
theorem t_Law_law_J2212 {G : mG} {r : mR} {v1 v2 v3 v4 s0 s1 s2 : Int} {h : mH} {R23 : mH → Int → Option mR} (hR23 : ∀ (h : mH) (w4 : Int) , R23 h w4 = some r → mJ G M_Law_law 23 [(2, (-1)), (2, v1), (2, v2), (2, v3), (0, w4), (9, 0), (9, 0), (9, 0)] [] h r) (hr : f_Law_law_J2212 G R23 v2 v3 v4 s0 s1 s2 h = some r) : mJ G M_Law_law 2212 [(2, (-1)), (2, v1), (2, v2), (2, v3), (0, v4), (9, 0), (9, 0), (9, 0)] [(0, s2), (0, s1), (2, s0)] h r := by
  unfold f_Law_law_J2212 at hr
  refine j_aload_n (pc := 2212) d_Law_law_2212 rfl ?_
  refine j_callR (pc := 2213) (stk := [(2, v3), (0, s2), (0, s1), (2, s0)]) (as := [(2, s0), (0, s1), (0, s2), (2, v3)]) (P := (fun v9 => ((0 : Nat), v9) :: [])) (tg := 0) (My := M_Law_rows) (by decide) (mRunW (as := [(2, s0), (0, s1), (0, s2), (2, v3)]) (st := []) d_Law_law_2213 (mc_Law_rows (by decide)) (by decide) ⟨tb_ml_Law_260, tb_sm_Law_rows⟩ rfl (Nat.le_of_ble_eq_true rfl)) (fun v => rfl) hr (fun r1 h1 => t_Law_rows _ _ _ _ _ _ h1) (fun x2 h1 hr => ?_)
  refine j_istore (pc := 2216) (ls' := [(2, (-1)), (2, v1), (2, v2), (2, v3), (0, v4), (0, x2), (9, 0), (9, 0)]) d_Law_law_2216 rfl ?_
  refine j_aload_n (pc := 2218) d_Law_law_2218 rfl ?_
  refine j_aload_n (pc := 2219) d_Law_law_2219 rfl ?_
  refine j_iload (pc := 2220) d_Law_law_2220 rfl ?_
  refine j_iconst (pc := 2222) d_Law_law_2222 ?_
  refine j_iadd (pc := 2223) d_Law_law_2223 ?_
  refine j_sload (pc := 2224) d_Law_law_2224 hr (fun hr => ?_)
  refine j_aload_n (pc := 2225) d_Law_law_2225 rfl ?_
  refine j_iload (pc := 2226) d_Law_law_2226 rfl ?_
  refine j_iconst (pc := 2228) d_Law_law_2228 ?_
  refine j_iadd (pc := 2229) d_Law_law_2229 ?_
  refine j_sload (pc := 2230) d_Law_law_2230 hr (fun hr => ?_)
  refine j_if_eq (pc := 2231) (tgt := 2238) d_Law_law_2231 hr (fun hr => ?_) (fun hr => ?_)
  · refine j_iconst (pc := 2238) d_Law_law_2238 ?_
    exact mJ_weak (ls' := [(2, (-1)), (2, v1), (2, v2), (2, v3), (0, v4), (0, x2), (9, 0), (9, 0)]) (mwk_s (mwk_s (mwk_s (mwk_s (mwk_s (mwk_s (mwk_s (mwk_s mwk_n)))))))) (t_Law_law_J2239 hR23 hr)
  · refine j_iconst (pc := 2234) d_Law_law_2234 ?_
    refine j_goto (pc := 2235) (tgt := 2239) d_Law_law_2235 ?_
    exact mJ_weak (ls' := [(2, (-1)), (2, v1), (2, v2), (2, v3), (0, v4), (0, x2), (9, 0), (9, 0)]) (mwk_s (mwk_s (mwk_s (mwk_s (mwk_s (mwk_s (mwk_s (mwk_s mwk_n)))))))) (t_Law_law_J2239 hR23 hr)
theorem t_Law_law_J2191 {G : mG} {r : mR} {v1 v2 v3 v4 : Int} {h : mH} {R23 : mH → Int → Option mR} (hR23 : ∀ (h : mH) (w4 : Int) , R23 h w4 = some r → mJ G M_Law_law 23 [(2, (-1)), (2, v1), (2, v2), (2, v3), (0, w4), (9, 0), (9, 0), (9, 0)] [] h r) (hr : f_Law_law_J2191 G R23 v1 v2 v3 v4 h = some r) : mJ G M_Law_law 2191 [(2, (-1)), (2, v1), (2, v2), (2, v3), (0, v4), (9, 0), (9, 0), (9, 0)] [] h r := by
  unfold f_Law_law_J2191 at hr
  refine j_aload_n (pc := 2191) d_Law_law_2191 rfl ?_
  refine j_aload_n (pc := 2192) d_Law_law_2192 rfl ?_
  refine j_iload (pc := 2193) d_Law_law_2193 rfl ?_
  refine j_iconst (pc := 2195) d_Law_law_2195 ?_
  refine j_iadd (pc := 2196) d_Law_law_2196 ?_
  refine j_sload (pc := 2197) d_Law_law_2197 hr (fun hr => ?_)
  refine j_aload_n (pc := 2198) d_Law_law_2198 rfl ?_
  refine j_iload (pc := 2199) d_Law_law_2199 rfl ?_
  refine j_iconst (pc := 2201) d_Law_law_2201 ?_
  refine j_iadd (pc := 2202) d_Law_law_2202 ?_
  refine j_sload (pc := 2203) d_Law_law_2203 hr (fun hr => ?_)
  refine j_if_eq (pc := 2204) (tgt := 2211) d_Law_law_2204 hr (fun hr => ?_) (fun hr => ?_)
  · refine j_iconst (pc := 2211) d_Law_law_2211 ?_
    exact mJ_weak (ls' := [(2, (-1)), (2, v1), (2, v2), (2, v3), (0, v4), (9, 0), (9, 0), (9, 0)]) (mwk_s (mwk_s (mwk_s (mwk_s (mwk_s (mwk_s (mwk_s (mwk_s mwk_n)))))))) (t_Law_law_J2212 hR23 hr)
  · refine j_iconst (pc := 2207) d_Law_law_2207 ?_
    refine j_goto (pc := 2208) (tgt := 2212) d_Law_law_2208 ?_
    exact mJ_weak (ls' := [(2, (-1)), (2, v1), (2, v2), (2, v3), (0, v4), (9, 0), (9, 0), (9, 0)]) (mwk_s (mwk_s (mwk_s (mwk_s (mwk_s (mwk_s (mwk_s (mwk_s mwk_n)))))))) (t_Law_law_J2212 hR23 hr)
theorem t_Law_law_J2315 {G : mG} {r : mR} {v1 v2 v3 v4 : Int} {h : mH} {R23 : mH → Int → Option mR} (hR23 : ∀ (h : mH) (w4 : Int) , R23 h w4 = some r → mJ G M_Law_law 23 [(2, (-1)), (2, v1), (2, v2), (2, v3), (0, w4), (9, 0), (9, 0), (9, 0)] [] h r) (hr : f_Law_law_J2315 G R23 v4 h = some r) : mJ G M_Law_law 2315 [(2, (-1)), (2, v1), (2, v2), (2, v3), (0, v4), (9, 0), (9, 0), (9, 0)] [] h r := by
  unfold f_Law_law_J2315 at hr
  refine j_goto (pc := 2315) (tgt := 2642) d_Law_law_2315 ?_
  exact mJ_weak (ls' := [(2, (-1)), (2, v1), (2, v2), (2, v3), (0, v4), (9, 0), (9, 0), (9, 0)]) (mwk_s (mwk_s (mwk_s (mwk_s (mwk_s (mwk_s (mwk_s (mwk_s mwk_n)))))))) (t_Law_law_J2642 hR23 hr)
theorem t_Law_law_J2274 {G : mG} {r : mR} {v1 v2 v3 v4 : Int} {h : mH} {R23 : mH → Int → Option mR} (hR23 : ∀ (h : mH) (w4 : Int) , R23 h w4 = some r → mJ G M_Law_law 23 [(2, (-1)), (2, v1), (2, v2), (2, v3), (0, w4), (9, 0), (9, 0), (9, 0)] [] h r) (hr : f_Law_law_J2274 G R23 v1 v2 v3 v4 h = some r) : mJ G M_Law_law 2274 [(2, (-1)), (2, v1), (2, v2), (2, v3), (0, v4), (9, 0), (9, 0), (9, 0)] [] h r := by
  unfold f_Law_law_J2274 at hr
  refine j_aload_n (pc := 2274) d_Law_law_2274 rfl ?_
  refine j_aload_n (pc := 2275) d_Law_law_2275 rfl ?_
  refine j_callR (pc := 2276) (stk := [(2, v3), (2, v1)]) (as := [(2, v1), (2, v3)]) (P := (fun v9 => ((0 : Nat), v9) :: [])) (tg := 0) (My := M_Law_keys) (by decide) (mRunW (as := [(2, v1), (2, v3)]) (st := []) d_Law_law_2276 (mc_Law_keys (by decide)) (by decide) ⟨tb_ml_Law_264, tb_sm_Law_keys⟩ rfl (Nat.le_of_ble_eq_true rfl)) (fun v => rfl) hr (fun r1 h1 => t_Law_keys _ _ _ _ h1) (fun x2 h1 hr => ?_)
  refine j_istore (pc := 2279) (ls' := [(2, (-1)), (2, v1), (2, v2), (2, v3), (0, v4), (0, x2), (9, 0), (9, 0)]) d_Law_law_2279 rfl ?_
  refine j_aload_n (pc := 2281) d_Law_law_2281 rfl ?_
  obtain ⟨ha, hr⟩ := chk_some hr
  refine j_callG (pc := 2282) (stk := [(2, v2)]) (as := [(2, v2)]) (P := (fun v9 => ((0 : Nat), v9) :: [])) (tg := 0) (My := M_Md_keys) (mRunV (as := []) (st := []) d_Law_law_2282 (mc_Md_keys (by decide)) rfl (mv_Md_keys tb_ml_Law_266) rfl (Nat.le_of_ble_eq_true rfl) ha) (fun v => rfl) rfl hr (fun r1 h1 => t_Md_keys _ _ _ h1) (fun x4 h3 hr => ?_)
  refine j_istore (pc := 2285) (ls' := [(2, (-1)), (2, v1), (2, v2), (2, v3), (0, v4), (0, x2), (0, x4), (9, 0)]) d_Law_law_2285 rfl ?_
  refine j_aload_n (pc := 2287) d_Law_law_2287 rfl ?_
  obtain ⟨ha, hr⟩ := chk_some hr
  refine j_callG (pc := 2288) (stk := [(2, v2)]) (as := [(2, v2)]) (P := (fun v9 => ((0 : Nat), v9) :: [])) (tg := 0) (My := M_Md_thrown) (mRunV (as := []) (st := []) d_Law_law_2288 (mc_Md_thrown (by decide)) rfl (mv_Md_thrown tb_ml_Law_146) rfl (Nat.le_of_ble_eq_true rfl) ha) (fun v => rfl) rfl hr (fun r1 h1 => t_Md_thrown _ _ _ h1) (fun x6 h5 hr => ?_)
  refine j_iload (pc := 2291) d_Law_law_2291 rfl ?_
  refine j_icmp_eq (pc := 2293) (tgt := 2298) d_Law_law_2293 hr (fun hr => ?_) (fun hr => ?_)
  · refine j_iload (pc := 2298) d_Law_law_2298 rfl ?_
    refine j_if_ne (pc := 2300) (tgt := 2315) d_Law_law_2300 hr (fun hr => ?_) (fun hr => ?_)
    · exact mJ_weak (ls' := [(2, (-1)), (2, v1), (2, v2), (2, v3), (0, v4), (9, 0), (9, 0), (9, 0)]) (mwk_s (mwk_s (mwk_s (mwk_s (mwk_s (mwk_d (mwk_d (mwk_s mwk_n)))))))) (t_Law_law_J2315 hR23 hr)
    · refine j_aload_n (pc := 2303) d_Law_law_2303 rfl ?_
      refine j_iconst (pc := 2304) d_Law_law_2304 ?_
      refine j_laload (pc := 2305) d_Law_law_2305 hr (fun hr => ?_)
      refine j_iload (pc := 2306) d_Law_law_2306 rfl ?_
      refine j_i2l (pc := 2308) d_Law_law_2308 ?_
      refine j_lcmp (pc := 2309) d_Law_law_2309 ?_
      refine j_if_eq (pc := 2310) (tgt := 2315) d_Law_law_2310 hr (fun hr => ?_) (fun hr => ?_)
      · exact mJ_weak (ls' := [(2, (-1)), (2, v1), (2, v2), (2, v3), (0, v4), (9, 0), (9, 0), (9, 0)]) (mwk_s (mwk_s (mwk_s (mwk_s (mwk_s (mwk_d (mwk_d (mwk_s mwk_n)))))))) (t_Law_law_J2315 hR23 hr)
      · refine j_iconst (pc := 2313) d_Law_law_2313 ?_
        exact j_zret (pc := 2314) d_Law_law_2314 rfl hr
  · refine j_iconst (pc := 2296) d_Law_law_2296 ?_
    exact j_zret (pc := 2297) d_Law_law_2297 rfl hr
theorem t_Law_law_J2318 {G : mG} {r : mR} {v1 v2 v3 v4 : Int} {h : mH} {R23 : mH → Int → Option mR} (hR23 : ∀ (h : mH) (w4 : Int) , R23 h w4 = some r → mJ G M_Law_law 23 [(2, (-1)), (2, v1), (2, v2), (2, v3), (0, w4), (9, 0), (9, 0), (9, 0)] [] h r) (hr : f_Law_law_J2318 G R23 v1 v2 v4 h = some r) : mJ G M_Law_law 2318 [(2, (-1)), (2, v1), (2, v2), (2, v3), (0, v4), (9, 0), (9, 0), (9, 0)] [] h r := by
  unfold f_Law_law_J2318 at hr
  refine j_aload_n (pc := 2318) d_Law_law_2318 rfl ?_
  refine j_aload_n (pc := 2319) d_Law_law_2319 rfl ?_
  refine j_iload (pc := 2320) d_Law_law_2320 rfl ?_
  refine j_iconst (pc := 2322) d_Law_law_2322 ?_
  refine j_iadd (pc := 2323) d_Law_law_2323 ?_
  refine j_sload (pc := 2324) d_Law_law_2324 hr (fun hr => ?_)
  refine j_aload_n (pc := 2325) d_Law_law_2325 rfl ?_
  refine j_iload (pc := 2326) d_Law_law_2326 rfl ?_
  refine j_iconst (pc := 2328) d_Law_law_2328 ?_
  refine j_iadd (pc := 2329) d_Law_law_2329 ?_
  refine j_sload (pc := 2330) d_Law_law_2330 hr (fun hr => ?_)
  refine j_aload_n (pc := 2331) d_Law_law_2331 rfl ?_
  refine j_iload (pc := 2332) d_Law_law_2332 rfl ?_
  refine j_iconst (pc := 2334) d_Law_law_2334 ?_
  refine j_iadd (pc := 2335) d_Law_law_2335 ?_
  refine j_sload (pc := 2336) d_Law_law_2336 hr (fun hr => ?_)
  refine j_callR (pc := 2337) (stk := [(0, gX G (w32 (v4 + 3))), (0, gX G (w32 (v4 + 2))), (0, gX G (w32 (v4 + 1))), (2, v1)]) (as := [(2, v1), (0, gX G (w32 (v4 + 1))), (0, gX G (w32 (v4 + 2))), (0, gX G (w32 (v4 + 3)))]) (P := (fun v9 => ((0 : Nat), v9) :: [])) (tg := 0) (My := M_Law_tray) (by decide) (mRunW (as := [(2, v1), (0, gX G (w32 (v4 + 1))), (0, gX G (w32 (v4 + 2))), (0, gX G (w32 (v4 + 3)))]) (st := []) d_Law_law_2337 (mc_Law_tray (by decide)) (by decide) ⟨tb_ml_Law_267, tb_sm_Law_tray⟩ rfl (Nat.le_of_ble_eq_true rfl)) (fun v => rfl) hr (fun r1 h1 => t_Law_tray _ _ _ _ _ _ h1) (fun x2 h1 hr => ?_)
  refine j_istore (pc := 2340) (ls' := [(2, (-1)), (2, v1), (2, v2), (2, v3), (0, v4), (0, x2), (9, 0), (9, 0)]) d_Law_law_2340 rfl ?_
  refine j_aload_n (pc := 2342) d_Law_law_2342 rfl ?_
  refine j_aload_n (pc := 2343) d_Law_law_2343 rfl ?_
  refine j_iload (pc := 2344) d_Law_law_2344 rfl ?_
  refine j_iconst (pc := 2346) d_Law_law_2346 ?_
  refine j_iadd (pc := 2347) d_Law_law_2347 ?_
  refine j_sload (pc := 2348) d_Law_law_2348 hr (fun hr => ?_)
  refine j_aload_n (pc := 2349) d_Law_law_2349 rfl ?_
  refine j_iload (pc := 2350) d_Law_law_2350 rfl ?_
  refine j_iconst (pc := 2352) d_Law_law_2352 ?_
  refine j_iadd (pc := 2353) d_Law_law_2353 ?_
  refine j_sload (pc := 2354) d_Law_law_2354 hr (fun hr => ?_)
  refine j_aload_n (pc := 2355) d_Law_law_2355 rfl ?_
  refine j_iload (pc := 2356) d_Law_law_2356 rfl ?_
  refine j_iconst (pc := 2358) d_Law_law_2358 ?_
  refine j_iadd (pc := 2359) d_Law_law_2359 ?_
  refine j_sload (pc := 2360) d_Law_law_2360 hr (fun hr => ?_)
  obtain ⟨ha, hr⟩ := chk_some hr
  refine j_callG (pc := 2361) (stk := [(0, gX G (w32 (v4 + 3))), (0, gX G (w32 (v4 + 2))), (0, gX G (w32 (v4 + 1))), (2, v2)]) (as := [(2, v2), (0, gX G (w32 (v4 + 1))), (0, gX G (w32 (v4 + 2))), (0, gX G (w32 (v4 + 3)))]) (P := (fun v9 => [])) (tg := 3) (My := M_Md_tray) (mRunV (as := [(0, gX G (w32 (v4 + 1))), (0, gX G (w32 (v4 + 2))), (0, gX G (w32 (v4 + 3)))]) (st := []) d_Law_law_2361 (mc_Md_tray (by decide)) rfl (mv_Md_tray tb_ml_Law_270) rfl (Nat.le_of_ble_eq_true rfl) ha) (fun v => rfl) rfl hr (fun r1 h1 => t_Md_tray _ _ _ _ _ _ h1) (fun x4 h3 hr => ?_)
  refine j_aload_n (pc := 2364) d_Law_law_2364 rfl ?_
  obtain ⟨ha, hr⟩ := chk_some hr
  refine j_callG (pc := 2365) (stk := [(2, v2)]) (as := [(2, v2)]) (P := (fun v9 => ((0 : Nat), v9) :: [])) (tg := 0) (My := M_Md_thrown) (mRunV (as := []) (st := []) d_Law_law_2365 (mc_Md_thrown (by decide)) rfl (mv_Md_thrown tb_ml_Law_146) rfl (Nat.le_of_ble_eq_true rfl) ha) (fun v => rfl) rfl hr (fun r1 h1 => t_Md_thrown _ _ _ h1) (fun x6 h5 hr => ?_)
  refine j_iload (pc := 2368) d_Law_law_2368 rfl ?_
  refine j_icmp_eq (pc := 2370) (tgt := 2375) d_Law_law_2370 hr (fun hr => ?_) (fun hr => ?_)
  · refine j_goto (pc := 2375) (tgt := 2642) d_Law_law_2375 ?_
    exact mJ_weak (ls' := [(2, (-1)), (2, v1), (2, v2), (2, v3), (0, v4), (9, 0), (9, 0), (9, 0)]) (mwk_s (mwk_s (mwk_s (mwk_s (mwk_s (mwk_d (mwk_s (mwk_s mwk_n)))))))) (t_Law_law_J2642 hR23 hr)
  · refine j_iconst (pc := 2373) d_Law_law_2373 ?_
    exact j_zret (pc := 2374) d_Law_law_2374 rfl hr
theorem t_Law_law_J2486 {G : mG} {r : mR} {v1 v2 v3 v4 : Int} {h : mH} {R23 : mH → Int → Option mR} (hR23 : ∀ (h : mH) (w4 : Int) , R23 h w4 = some r → mJ G M_Law_law 23 [(2, (-1)), (2, v1), (2, v2), (2, v3), (0, w4), (9, 0), (9, 0), (9, 0)] [] h r) (hr : f_Law_law_J2486 G R23 v4 h = some r) : mJ G M_Law_law 2486 [(2, (-1)), (2, v1), (2, v2), (2, v3), (0, v4), (9, 0), (9, 0), (9, 0)] [] h r := by
  unfold f_Law_law_J2486 at hr
  refine j_goto (pc := 2486) (tgt := 2642) d_Law_law_2486 ?_
  exact mJ_weak (ls' := [(2, (-1)), (2, v1), (2, v2), (2, v3), (0, v4), (9, 0), (9, 0), (9, 0)]) (mwk_s (mwk_s (mwk_s (mwk_s (mwk_s (mwk_s (mwk_s (mwk_s mwk_n)))))))) (t_Law_law_J2642 hR23 hr)
theorem t_Law_law_J2378 {G : mG} {r : mR} {v1 v2 v3 v4 : Int} {h : mH} {R23 : mH → Int → Option mR} (hR23 : ∀ (h : mH) (w4 : Int) , R23 h w4 = some r → mJ G M_Law_law 23 [(2, (-1)), (2, v1), (2, v2), (2, v3), (0, w4), (9, 0), (9, 0), (9, 0)] [] h r) (hr : f_Law_law_J2378 G R23 v1 v2 v3 v4 h = some r) : mJ G M_Law_law 2378 [(2, (-1)), (2, v1), (2, v2), (2, v3), (0, v4), (9, 0), (9, 0), (9, 0)] [] h r := by
  unfold f_Law_law_J2378 at hr
  refine j_aload_n (pc := 2378) d_Law_law_2378 rfl ?_
  refine j_aload_n (pc := 2379) d_Law_law_2379 rfl ?_
  refine j_iload (pc := 2380) d_Law_law_2380 rfl ?_
  refine j_iconst (pc := 2382) d_Law_law_2382 ?_
  refine j_iadd (pc := 2383) d_Law_law_2383 ?_
  refine j_sload (pc := 2384) d_Law_law_2384 hr (fun hr => ?_)
  refine j_aload_n (pc := 2385) d_Law_law_2385 rfl ?_
  refine j_iload (pc := 2386) d_Law_law_2386 rfl ?_
  refine j_iconst (pc := 2388) d_Law_law_2388 ?_
  refine j_iadd (pc := 2389) d_Law_law_2389 ?_
  refine j_sload (pc := 2390) d_Law_law_2390 hr (fun hr => ?_)
  refine j_aload_n (pc := 2391) d_Law_law_2391 rfl ?_
  refine j_iload (pc := 2392) d_Law_law_2392 rfl ?_
  refine j_iconst (pc := 2394) d_Law_law_2394 ?_
  refine j_iadd (pc := 2395) d_Law_law_2395 ?_
  refine j_sload (pc := 2396) d_Law_law_2396 hr (fun hr => ?_)
  refine j_i2l (pc := 2397) d_Law_law_2397 ?_
  refine j_bipush (pc := 2398) d_Law_law_2398 ?_
  refine j_lshl (pc := 2400) d_Law_law_2400 ?_
  refine j_aload_n (pc := 2401) d_Law_law_2401 rfl ?_
  refine j_iload (pc := 2402) d_Law_law_2402 rfl ?_
  refine j_iconst (pc := 2404) d_Law_law_2404 ?_
  refine j_iadd (pc := 2405) d_Law_law_2405 ?_
  refine j_sload (pc := 2406) d_Law_law_2406 hr (fun hr => ?_)
  refine j_i2l (pc := 2407) d_Law_law_2407 ?_
  refine j_ldc2 (pc := 2408) (z := 4294967295) d_Law_law_2408 tb_cj_Law_271 rfl ?_
  refine j_land (pc := 2411) d_Law_law_2411 ?_
  refine j_lor (pc := 2412) d_Law_law_2412 ?_
  refine j_aload_n (pc := 2413) d_Law_law_2413 rfl ?_
  refine j_callR (pc := 2414) (stk := [(2, v3), (1, qlor (qlshl (gX G (w32 (v4 + 3))) 32) (qland (gX G (w32 (v4 + 4))) 4294967295)), (0, gX G (w32 (v4 + 2))), (0, gX G (w32 (v4 + 1))), (2, v1)]) (as := [(2, v1), (0, gX G (w32 (v4 + 1))), (0, gX G (w32 (v4 + 2))), (1, qlor (qlshl (gX G (w32 (v4 + 3))) 32) (qland (gX G (w32 (v4 + 4))) 4294967295)), (2, v3)]) (P := (fun v9 => ((0 : Nat), v9) :: [])) (tg := 0) (My := M_Law_write) (by decide) (mRunW (as := [(2, v1), (0, gX G (w32 (v4 + 1))), (0, gX G (w32 (v4 + 2))), (1, qlor (qlshl (gX G (w32 (v4 + 3))) 32) (qland (gX G (w32 (v4 + 4))) 4294967295)), (2, v3)]) (st := []) d_Law_law_2414 (mc_Law_write (by decide)) (by decide) ⟨tb_ml_Law_273, tb_sm_Law_write⟩ rfl (Nat.le_of_ble_eq_true rfl)) (fun v => rfl) hr (fun r1 h1 => t_Law_write _ _ _ _ _ _ _ h1) (fun x2 h1 hr => ?_)
  refine j_istore (pc := 2417) (ls' := [(2, (-1)), (2, v1), (2, v2), (2, v3), (0, v4), (0, x2), (9, 0), (9, 0)]) d_Law_law_2417 rfl ?_
  refine j_aload_n (pc := 2419) d_Law_law_2419 rfl ?_
  refine j_aload_n (pc := 2420) d_Law_law_2420 rfl ?_
  refine j_iload (pc := 2421) d_Law_law_2421 rfl ?_
  refine j_iconst (pc := 2423) d_Law_law_2423 ?_
  refine j_iadd (pc := 2424) d_Law_law_2424 ?_
  refine j_sload (pc := 2425) d_Law_law_2425 hr (fun hr => ?_)
  refine j_aload_n (pc := 2426) d_Law_law_2426 rfl ?_
  refine j_iload (pc := 2427) d_Law_law_2427 rfl ?_
  refine j_iconst (pc := 2429) d_Law_law_2429 ?_
  refine j_iadd (pc := 2430) d_Law_law_2430 ?_
  refine j_sload (pc := 2431) d_Law_law_2431 hr (fun hr => ?_)
  refine j_aload_n (pc := 2432) d_Law_law_2432 rfl ?_
  refine j_iload (pc := 2433) d_Law_law_2433 rfl ?_
  refine j_iconst (pc := 2435) d_Law_law_2435 ?_
  refine j_iadd (pc := 2436) d_Law_law_2436 ?_
  refine j_sload (pc := 2437) d_Law_law_2437 hr (fun hr => ?_)
  refine j_i2l (pc := 2438) d_Law_law_2438 ?_
  refine j_bipush (pc := 2439) d_Law_law_2439 ?_
  refine j_lshl (pc := 2441) d_Law_law_2441 ?_
  refine j_aload_n (pc := 2442) d_Law_law_2442 rfl ?_
  refine j_iload (pc := 2443) d_Law_law_2443 rfl ?_
  refine j_iconst (pc := 2445) d_Law_law_2445 ?_
  refine j_iadd (pc := 2446) d_Law_law_2446 ?_
  refine j_sload (pc := 2447) d_Law_law_2447 hr (fun hr => ?_)
  refine j_i2l (pc := 2448) d_Law_law_2448 ?_
  refine j_ldc2 (pc := 2449) (z := 4294967295) d_Law_law_2449 tb_cj_Law_271 rfl ?_
  refine j_land (pc := 2452) d_Law_law_2452 ?_
  refine j_lor (pc := 2453) d_Law_law_2453 ?_
  obtain ⟨ha, hr⟩ := chk_some hr
  refine j_callG (pc := 2454) (stk := [(1, qlor (qlshl (gX G (w32 (v4 + 3))) 32) (qland (gX G (w32 (v4 + 4))) 4294967295)), (0, gX G (w32 (v4 + 2))), (0, gX G (w32 (v4 + 1))), (2, v2)]) (as := [(2, v2), (0, gX G (w32 (v4 + 1))), (0, gX G (w32 (v4 + 2))), (1, qlor (qlshl (gX G (w32 (v4 + 3))) 32) (qland (gX G (w32 (v4 + 4))) 4294967295))]) (P := (fun v9 => ((1 : Nat), v9) :: [])) (tg := 1) (My := M_Md_write) (mRunV (as := [(0, gX G (w32 (v4 + 1))), (0, gX G (w32 (v4 + 2))), (1, qlor (qlshl (gX G (w32 (v4 + 3))) 32) (qland (gX G (w32 (v4 + 4))) 4294967295))]) (st := []) d_Law_law_2454 (mc_Md_write (by decide)) rfl (mv_Md_write tb_ml_Law_276) rfl (Nat.le_of_ble_eq_true rfl) ha) (fun v => rfl) rfl hr (fun r1 h1 => t_Md_write _ _ _ _ _ _ h1) (fun x4 h3 hr => ?_)
  refine j_lstore (pc := 2457) (ls' := [(2, (-1)), (2, v1), (2, v2), (2, v3), (0, v4), (0, x2), (1, x4), (9, 0)]) d_Law_law_2457 rfl ?_
  refine j_aload_n (pc := 2459) d_Law_law_2459 rfl ?_
  obtain ⟨ha, hr⟩ := chk_some hr
  refine j_callG (pc := 2460) (stk := [(2, v2)]) (as := [(2, v2)]) (P := (fun v9 => ((0 : Nat), v9) :: [])) (tg := 0) (My := M_Md_thrown) (mRunV (as := []) (st := []) d_Law_law_2460 (mc_Md_thrown (by decide)) rfl (mv_Md_thrown tb_ml_Law_146) rfl (Nat.le_of_ble_eq_true rfl) ha) (fun v => rfl) rfl hr (fun r1 h1 => t_Md_thrown _ _ _ h1) (fun x6 h5 hr => ?_)
  refine j_iload (pc := 2463) d_Law_law_2463 rfl ?_
  refine j_icmp_eq (pc := 2465) (tgt := 2470) d_Law_law_2465 hr (fun hr => ?_) (fun hr => ?_)
  · refine j_iload (pc := 2470) d_Law_law_2470 rfl ?_
    refine j_if_ne (pc := 2472) (tgt := 2486) d_Law_law_2472 hr (fun hr => ?_) (fun hr => ?_)
    · exact mJ_weak (ls' := [(2, (-1)), (2, v1), (2, v2), (2, v3), (0, v4), (9, 0), (9, 0), (9, 0)]) (mwk_s (mwk_s (mwk_s (mwk_s (mwk_s (mwk_d (mwk_d (mwk_s mwk_n)))))))) (t_Law_law_J2486 hR23 hr)
    · refine j_aload_n (pc := 2475) d_Law_law_2475 rfl ?_
      refine j_iconst (pc := 2476) d_Law_law_2476 ?_
      refine j_laload (pc := 2477) d_Law_law_2477 hr (fun hr => ?_)
      refine j_lload (pc := 2478) d_Law_law_2478 rfl ?_
      refine j_lcmp (pc := 2480) d_Law_law_2480 ?_
      refine j_if_eq (pc := 2481) (tgt := 2486) d_Law_law_2481 hr (fun hr => ?_) (fun hr => ?_)
      · exact mJ_weak (ls' := [(2, (-1)), (2, v1), (2, v2), (2, v3), (0, v4), (9, 0), (9, 0), (9, 0)]) (mwk_s (mwk_s (mwk_s (mwk_s (mwk_s (mwk_d (mwk_d (mwk_s mwk_n)))))))) (t_Law_law_J2486 hR23 hr)
      · refine j_iconst (pc := 2484) d_Law_law_2484 ?_
        exact j_zret (pc := 2485) d_Law_law_2485 rfl hr
  · refine j_iconst (pc := 2468) d_Law_law_2468 ?_
    exact j_zret (pc := 2469) d_Law_law_2469 rfl hr
theorem t_Law_law_J2542 {G : mG} {r : mR} {v1 v2 v3 v4 : Int} {h : mH} {R23 : mH → Int → Option mR} (hR23 : ∀ (h : mH) (w4 : Int) , R23 h w4 = some r → mJ G M_Law_law 23 [(2, (-1)), (2, v1), (2, v2), (2, v3), (0, w4), (9, 0), (9, 0), (9, 0)] [] h r) (hr : f_Law_law_J2542 G R23 v4 h = some r) : mJ G M_Law_law 2542 [(2, (-1)), (2, v1), (2, v2), (2, v3), (0, v4), (9, 0), (9, 0), (9, 0)] [] h r := by
  unfold f_Law_law_J2542 at hr
  refine j_goto (pc := 2542) (tgt := 2642) d_Law_law_2542 ?_
  exact mJ_weak (ls' := [(2, (-1)), (2, v1), (2, v2), (2, v3), (0, v4), (9, 0), (9, 0), (9, 0)]) (mwk_s (mwk_s (mwk_s (mwk_s (mwk_s (mwk_s (mwk_s (mwk_s mwk_n)))))))) (t_Law_law_J2642 hR23 hr)
theorem t_Law_law_J2489 {G : mG} {r : mR} {v1 v2 v3 v4 : Int} {h : mH} {R23 : mH → Int → Option mR} (hR23 : ∀ (h : mH) (w4 : Int) , R23 h w4 = some r → mJ G M_Law_law 23 [(2, (-1)), (2, v1), (2, v2), (2, v3), (0, w4), (9, 0), (9, 0), (9, 0)] [] h r) (hr : f_Law_law_J2489 G R23 v1 v2 v3 v4 h = some r) : mJ G M_Law_law 2489 [(2, (-1)), (2, v1), (2, v2), (2, v3), (0, v4), (9, 0), (9, 0), (9, 0)] [] h r := by
  unfold f_Law_law_J2489 at hr
  refine j_aload_n (pc := 2489) d_Law_law_2489 rfl ?_
  refine j_aload_n (pc := 2490) d_Law_law_2490 rfl ?_
  refine j_iload (pc := 2491) d_Law_law_2491 rfl ?_
  refine j_iconst (pc := 2493) d_Law_law_2493 ?_
  refine j_iadd (pc := 2494) d_Law_law_2494 ?_
  refine j_sload (pc := 2495) d_Law_law_2495 hr (fun hr => ?_)
  refine j_aload_n (pc := 2496) d_Law_law_2496 rfl ?_
  refine j_callR (pc := 2497) (stk := [(2, v3), (0, gX G (w32 (v4 + 1))), (2, v1)]) (as := [(2, v1), (0, gX G (w32 (v4 + 1))), (2, v3)]) (P := (fun v9 => ((0 : Nat), v9) :: [])) (tg := 0) (My := M_Law_pour) (by decide) (mRunW (as := [(2, v1), (0, gX G (w32 (v4 + 1))), (2, v3)]) (st := []) d_Law_law_2497 (mc_Law_pour (by decide)) (by decide) ⟨tb_ml_Law_277, tb_sm_Law_pour⟩ rfl (Nat.le_of_ble_eq_true rfl)) (fun v => rfl) hr (fun r1 h1 => t_Law_pour _ _ _ _ _ h1) (fun x2 h1 hr => ?_)
  refine j_istore (pc := 2500) (ls' := [(2, (-1)), (2, v1), (2, v2), (2, v3), (0, v4), (0, x2), (9, 0), (9, 0)]) d_Law_law_2500 rfl ?_
  refine j_aload_n (pc := 2502) d_Law_law_2502 rfl ?_
  refine j_aload_n (pc := 2503) d_Law_law_2503 rfl ?_
  refine j_iload (pc := 2504) d_Law_law_2504 rfl ?_
  refine j_iconst (pc := 2506) d_Law_law_2506 ?_
  refine j_iadd (pc := 2507) d_Law_law_2507 ?_
  refine j_sload (pc := 2508) d_Law_law_2508 hr (fun hr => ?_)
  obtain ⟨ha, hr⟩ := chk_some hr
  refine j_callG (pc := 2509) (stk := [(0, gX G (w32 (v4 + 1))), (2, v2)]) (as := [(2, v2), (0, gX G (w32 (v4 + 1)))]) (P := (fun v9 => ((0 : Nat), v9) :: [])) (tg := 0) (My := M_Md_pour) (mRunV (as := [(0, gX G (w32 (v4 + 1)))]) (st := []) d_Law_law_2509 (mc_Md_pour (by decide)) rfl (mv_Md_pour tb_ml_Law_279) rfl (Nat.le_of_ble_eq_true rfl) ha) (fun v => rfl) rfl hr (fun r1 h1 => t_Md_pour _ _ _ _ h1) (fun x4 h3 hr => ?_)
  refine j_istore (pc := 2512) (ls' := [(2, (-1)), (2, v1), (2, v2), (2, v3), (0, v4), (0, x2), (0, x4), (9, 0)]) d_Law_law_2512 rfl ?_
  refine j_aload_n (pc := 2514) d_Law_law_2514 rfl ?_
  obtain ⟨ha, hr⟩ := chk_some hr
  refine j_callG (pc := 2515) (stk := [(2, v2)]) (as := [(2, v2)]) (P := (fun v9 => ((0 : Nat), v9) :: [])) (tg := 0) (My := M_Md_thrown) (mRunV (as := []) (st := []) d_Law_law_2515 (mc_Md_thrown (by decide)) rfl (mv_Md_thrown tb_ml_Law_146) rfl (Nat.le_of_ble_eq_true rfl) ha) (fun v => rfl) rfl hr (fun r1 h1 => t_Md_thrown _ _ _ h1) (fun x6 h5 hr => ?_)
  refine j_iload (pc := 2518) d_Law_law_2518 rfl ?_
  refine j_icmp_eq (pc := 2520) (tgt := 2525) d_Law_law_2520 hr (fun hr => ?_) (fun hr => ?_)
  · refine j_iload (pc := 2525) d_Law_law_2525 rfl ?_
    refine j_if_ne (pc := 2527) (tgt := 2542) d_Law_law_2527 hr (fun hr => ?_) (fun hr => ?_)
    · exact mJ_weak (ls' := [(2, (-1)), (2, v1), (2, v2), (2, v3), (0, v4), (9, 0), (9, 0), (9, 0)]) (mwk_s (mwk_s (mwk_s (mwk_s (mwk_s (mwk_d (mwk_d (mwk_s mwk_n)))))))) (t_Law_law_J2542 hR23 hr)
    · refine j_aload_n (pc := 2530) d_Law_law_2530 rfl ?_
      refine j_iconst (pc := 2531) d_Law_law_2531 ?_
      refine j_laload (pc := 2532) d_Law_law_2532 hr (fun hr => ?_)
      refine j_iload (pc := 2533) d_Law_law_2533 rfl ?_
      refine j_i2l (pc := 2535) d_Law_law_2535 ?_
      refine j_lcmp (pc := 2536) d_Law_law_2536 ?_
      refine j_if_eq (pc := 2537) (tgt := 2542) d_Law_law_2537 hr (fun hr => ?_) (fun hr => ?_)
      · exact mJ_weak (ls' := [(2, (-1)), (2, v1), (2, v2), (2, v3), (0, v4), (9, 0), (9, 0), (9, 0)]) (mwk_s (mwk_s (mwk_s (mwk_s (mwk_s (mwk_d (mwk_d (mwk_s mwk_n)))))))) (t_Law_law_J2542 hR23 hr)
      · refine j_iconst (pc := 2540) d_Law_law_2540 ?_
        exact j_zret (pc := 2541) d_Law_law_2541 rfl hr
  · refine j_iconst (pc := 2523) d_Law_law_2523 ?_
    exact j_zret (pc := 2524) d_Law_law_2524 rfl hr
theorem t_Law_law_J2545 {G : mG} {r : mR} {v1 v2 v3 v4 : Int} {h : mH} {R23 : mH → Int → Option mR} (hR23 : ∀ (h : mH) (w4 : Int) , R23 h w4 = some r → mJ G M_Law_law 23 [(2, (-1)), (2, v1), (2, v2), (2, v3), (0, w4), (9, 0), (9, 0), (9, 0)] [] h r) (hr : f_Law_law_J2545 G R23 v1 v2 v4 h = some r) : mJ G M_Law_law 2545 [(2, (-1)), (2, v1), (2, v2), (2, v3), (0, v4), (9, 0), (9, 0), (9, 0)] [] h r := by
  unfold f_Law_law_J2545 at hr
  refine j_aload_n (pc := 2545) d_Law_law_2545 rfl ?_
  refine j_aload_n (pc := 2546) d_Law_law_2546 rfl ?_
  refine j_iload (pc := 2547) d_Law_law_2547 rfl ?_
  refine j_iconst (pc := 2549) d_Law_law_2549 ?_
  refine j_iadd (pc := 2550) d_Law_law_2550 ?_
  refine j_sload (pc := 2551) d_Law_law_2551 hr (fun hr => ?_)
  refine j_callR (pc := 2552) (stk := [(0, gX G (w32 (v4 + 1))), (2, v1)]) (as := [(2, v1), (0, gX G (w32 (v4 + 1)))]) (P := (fun v9 => ((0 : Nat), v9) :: [])) (tg := 0) (My := M_Law_image) (by decide) (mRunW (as := [(2, v1), (0, gX G (w32 (v4 + 1)))]) (st := []) d_Law_law_2552 (mc_Law_image (by decide)) (by decide) ⟨tb_ml_Law_280, tb_sm_Law_image⟩ rfl (Nat.le_of_ble_eq_true rfl)) (fun v => rfl) hr (fun r1 h1 => t_Law_image _ _ _ _ h1) (fun x2 h1 hr => ?_)
  refine j_istore (pc := 2555) (ls' := [(2, (-1)), (2, v1), (2, v2), (2, v3), (0, v4), (0, x2), (9, 0), (9, 0)]) d_Law_law_2555 rfl ?_
  refine j_aload_n (pc := 2557) d_Law_law_2557 rfl ?_
  refine j_aload_n (pc := 2558) d_Law_law_2558 rfl ?_
  refine j_iload (pc := 2559) d_Law_law_2559 rfl ?_
  refine j_iconst (pc := 2561) d_Law_law_2561 ?_
  refine j_iadd (pc := 2562) d_Law_law_2562 ?_
  refine j_sload (pc := 2563) d_Law_law_2563 hr (fun hr => ?_)
  obtain ⟨ha, hr⟩ := chk_some hr
  refine j_callG (pc := 2564) (stk := [(0, gX G (w32 (v4 + 1))), (2, v2)]) (as := [(2, v2), (0, gX G (w32 (v4 + 1)))]) (P := (fun v9 => [])) (tg := 3) (My := M_Md_image) (mRunV (as := [(0, gX G (w32 (v4 + 1)))]) (st := []) d_Law_law_2564 (mc_Md_image (by decide)) rfl (mv_Md_image tb_ml_Law_283) rfl (Nat.le_of_ble_eq_true rfl) ha) (fun v => rfl) rfl hr (fun r1 h1 => t_Md_image _ _ _ _ h1) (fun x4 h3 hr => ?_)
  refine j_aload_n (pc := 2567) d_Law_law_2567 rfl ?_
  obtain ⟨ha, hr⟩ := chk_some hr
  refine j_callG (pc := 2568) (stk := [(2, v2)]) (as := [(2, v2)]) (P := (fun v9 => ((0 : Nat), v9) :: [])) (tg := 0) (My := M_Md_thrown) (mRunV (as := []) (st := []) d_Law_law_2568 (mc_Md_thrown (by decide)) rfl (mv_Md_thrown tb_ml_Law_146) rfl (Nat.le_of_ble_eq_true rfl) ha) (fun v => rfl) rfl hr (fun r1 h1 => t_Md_thrown _ _ _ h1) (fun x6 h5 hr => ?_)
  refine j_iload (pc := 2571) d_Law_law_2571 rfl ?_
  refine j_icmp_eq (pc := 2573) (tgt := 2578) d_Law_law_2573 hr (fun hr => ?_) (fun hr => ?_)
  · refine j_goto (pc := 2578) (tgt := 2642) d_Law_law_2578 ?_
    exact mJ_weak (ls' := [(2, (-1)), (2, v1), (2, v2), (2, v3), (0, v4), (9, 0), (9, 0), (9, 0)]) (mwk_s (mwk_s (mwk_s (mwk_s (mwk_s (mwk_d (mwk_s (mwk_s mwk_n)))))))) (t_Law_law_J2642 hR23 hr)
  · refine j_iconst (pc := 2576) d_Law_law_2576 ?_
    exact j_zret (pc := 2577) d_Law_law_2577 rfl hr
theorem t_Law_law_J2581 {G : mG} {r : mR} {v1 v2 v3 v4 : Int} {h : mH} {R23 : mH → Int → Option mR} (hR23 : ∀ (h : mH) (w4 : Int) , R23 h w4 = some r → mJ G M_Law_law 23 [(2, (-1)), (2, v1), (2, v2), (2, v3), (0, w4), (9, 0), (9, 0), (9, 0)] [] h r) (hr : f_Law_law_J2581 G R23 v1 v2 v4 h = some r) : mJ G M_Law_law 2581 [(2, (-1)), (2, v1), (2, v2), (2, v3), (0, v4), (9, 0), (9, 0), (9, 0)] [] h r := by
  unfold f_Law_law_J2581 at hr
  refine j_aload_n (pc := 2581) d_Law_law_2581 rfl ?_
  refine j_aload_n (pc := 2582) d_Law_law_2582 rfl ?_
  refine j_iload (pc := 2583) d_Law_law_2583 rfl ?_
  refine j_iconst (pc := 2585) d_Law_law_2585 ?_
  refine j_iadd (pc := 2586) d_Law_law_2586 ?_
  refine j_sload (pc := 2587) d_Law_law_2587 hr (fun hr => ?_)
  refine j_callR (pc := 2588) (stk := [(0, gX G (w32 (v4 + 1))), (2, v1)]) (as := [(2, v1), (0, gX G (w32 (v4 + 1)))]) (P := (fun v9 => ((0 : Nat), v9) :: [])) (tg := 0) (My := M_Law_restore) (by decide) (mRunW (as := [(2, v1), (0, gX G (w32 (v4 + 1)))]) (st := []) d_Law_law_2588 (mc_Law_restore (by decide)) (by decide) ⟨tb_ml_Law_284, tb_sm_Law_restore⟩ rfl (Nat.le_of_ble_eq_true rfl)) (fun v => rfl) hr (fun r1 h1 => t_Law_restore _ _ _ _ h1) (fun x2 h1 hr => ?_)
  refine j_istore (pc := 2591) (ls' := [(2, (-1)), (2, v1), (2, v2), (2, v3), (0, v4), (0, x2), (9, 0), (9, 0)]) d_Law_law_2591 rfl ?_
  refine j_aload_n (pc := 2593) d_Law_law_2593 rfl ?_
  refine j_aload_n (pc := 2594) d_Law_law_2594 rfl ?_
  refine j_iload (pc := 2595) d_Law_law_2595 rfl ?_
  refine j_iconst (pc := 2597) d_Law_law_2597 ?_
  refine j_iadd (pc := 2598) d_Law_law_2598 ?_
  refine j_sload (pc := 2599) d_Law_law_2599 hr (fun hr => ?_)
  obtain ⟨ha, hr⟩ := chk_some hr
  refine j_callG (pc := 2600) (stk := [(0, gX G (w32 (v4 + 1))), (2, v2)]) (as := [(2, v2), (0, gX G (w32 (v4 + 1)))]) (P := (fun v9 => [])) (tg := 3) (My := M_Md_restore) (mRunV (as := [(0, gX G (w32 (v4 + 1)))]) (st := []) d_Law_law_2600 (mc_Md_restore (by decide)) rfl (mv_Md_restore tb_ml_Law_286) rfl (Nat.le_of_ble_eq_true rfl) ha) (fun v => rfl) rfl hr (fun r1 h1 => t_Md_restore _ _ _ _ h1) (fun x4 h3 hr => ?_)
  refine j_aload_n (pc := 2603) d_Law_law_2603 rfl ?_
  obtain ⟨ha, hr⟩ := chk_some hr
  refine j_callG (pc := 2604) (stk := [(2, v2)]) (as := [(2, v2)]) (P := (fun v9 => ((0 : Nat), v9) :: [])) (tg := 0) (My := M_Md_thrown) (mRunV (as := []) (st := []) d_Law_law_2604 (mc_Md_thrown (by decide)) rfl (mv_Md_thrown tb_ml_Law_146) rfl (Nat.le_of_ble_eq_true rfl) ha) (fun v => rfl) rfl hr (fun r1 h1 => t_Md_thrown _ _ _ h1) (fun x6 h5 hr => ?_)
  refine j_iload (pc := 2607) d_Law_law_2607 rfl ?_
  refine j_icmp_eq (pc := 2609) (tgt := 2614) d_Law_law_2609 hr (fun hr => ?_) (fun hr => ?_)
  · refine j_goto (pc := 2614) (tgt := 2642) d_Law_law_2614 ?_
    exact mJ_weak (ls' := [(2, (-1)), (2, v1), (2, v2), (2, v3), (0, v4), (9, 0), (9, 0), (9, 0)]) (mwk_s (mwk_s (mwk_s (mwk_s (mwk_s (mwk_d (mwk_s (mwk_s mwk_n)))))))) (t_Law_law_J2642 hR23 hr)
  · refine j_iconst (pc := 2612) d_Law_law_2612 ?_
    exact j_zret (pc := 2613) d_Law_law_2613 rfl hr
theorem t_Law_law_J2617 {G : mG} {r : mR} {v1 v2 v3 v4 : Int} {h : mH} {R23 : mH → Int → Option mR} (hR23 : ∀ (h : mH) (w4 : Int) , R23 h w4 = some r → mJ G M_Law_law 23 [(2, (-1)), (2, v1), (2, v2), (2, v3), (0, w4), (9, 0), (9, 0), (9, 0)] [] h r) (hr : f_Law_law_J2617 G R23 v1 v2 v4 h = some r) : mJ G M_Law_law 2617 [(2, (-1)), (2, v1), (2, v2), (2, v3), (0, v4), (9, 0), (9, 0), (9, 0)] [] h r := by
  unfold f_Law_law_J2617 at hr
  refine j_aload_n (pc := 2617) d_Law_law_2617 rfl ?_
  refine j_aload_n (pc := 2618) d_Law_law_2618 rfl ?_
  refine j_iload (pc := 2619) d_Law_law_2619 rfl ?_
  refine j_iconst (pc := 2621) d_Law_law_2621 ?_
  refine j_iadd (pc := 2622) d_Law_law_2622 ?_
  refine j_sload (pc := 2623) d_Law_law_2623 hr (fun hr => ?_)
  obtain ⟨ha, hr⟩ := chk_some hr
  refine j_callG (pc := 2624) (stk := [(0, gX G (w32 (v4 + 1))), (2, v1)]) (as := [(2, v1), (0, gX G (w32 (v4 + 1)))]) (P := (fun v9 => ((0 : Nat), v9) :: [])) (tg := 0) (My := M_Nb_count) (mRunV (as := [(0, gX G (w32 (v4 + 1)))]) (st := []) d_Law_law_2624 (mc_Nb_count (by decide)) rfl (mv_Nb_count tb_ml_Law_287) rfl (Nat.le_of_ble_eq_true rfl) ha) (fun v => rfl) rfl hr (fun r1 h1 => t_Nb_count _ _ _ _ h1) (fun x2 h1 hr => ?_)
  refine j_aload_n (pc := 2627) d_Law_law_2627 rfl ?_
  refine j_aload_n (pc := 2628) d_Law_law_2628 rfl ?_
  refine j_iload (pc := 2629) d_Law_law_2629 rfl ?_
  refine j_iconst (pc := 2631) d_Law_law_2631 ?_
  refine j_iadd (pc := 2632) d_Law_law_2632 ?_
  refine j_sload (pc := 2633) d_Law_law_2633 hr (fun hr => ?_)
  obtain ⟨ha, hr⟩ := chk_some hr
  refine j_callG (pc := 2634) (stk := [(0, gX G (w32 (v4 + 1))), (2, v2), (0, x2)]) (as := [(2, v2), (0, gX G (w32 (v4 + 1)))]) (P := (fun v9 => ((0 : Nat), v9) :: [(0, x2)])) (tg := 0) (My := M_Md_count) (mRunV (as := [(0, gX G (w32 (v4 + 1)))]) (st := [(0, x2)]) d_Law_law_2634 (mc_Md_count (by decide)) rfl (mv_Md_count tb_ml_Law_290) rfl (Nat.le_of_ble_eq_true rfl) ha) (fun v => rfl) rfl hr (fun r1 h1 => t_Md_count _ _ _ _ h1) (fun x4 h3 hr => ?_)
  refine j_icmp_eq (pc := 2637) (tgt := 2642) d_Law_law_2637 hr (fun hr => ?_) (fun hr => ?_)
  · exact mJ_weak (ls' := [(2, (-1)), (2, v1), (2, v2), (2, v3), (0, v4), (9, 0), (9, 0), (9, 0)]) (mwk_s (mwk_s (mwk_s (mwk_s (mwk_s (mwk_s (mwk_s (mwk_s mwk_n)))))))) (t_Law_law_J2642 hR23 hr)
  · refine j_iconst (pc := 2640) d_Law_law_2640 ?_
    exact j_zret (pc := 2641) d_Law_law_2641 rfl hr
theorem t_Law_law_L23 {G : mG} {r : mR} {v1 v2 v3 : Int}  : ∀ (n : Nat) (h : mH) (v4 : Int), f_Law_law_L23 G v1 v2 v3 n h v4 = some r → mJ G M_Law_law 23 [(2, (-1)), (2, v1), (2, v2), (2, v3), (0, v4), (9, 0), (9, 0), (9, 0)] [] h r := by
  intro n
  induction n with
  | zero =>
    intro h v4 hr
    rw [f_Law_law_L23] at hr
    cases hr
  | succ n hR23 =>
    intro h v4 hr
    rw [f_Law_law_L23] at hr
    refine j_iload (pc := 23) d_Law_law_23 rfl ?_
    refine j_aload_n (pc := 25) d_Law_law_25 rfl ?_
    refine j_slen (X := none) (pc := 26) d_Law_law_26 ?_
    refine j_bipush (pc := 27) d_Law_law_27 ?_
    refine j_isub (pc := 29) d_Law_law_29 ?_
    refine j_icmp_gt (pc := 30) (tgt := 2648) d_Law_law_30 hr (fun hr => ?_) (fun hr => ?_)
    · refine j_iconst (pc := 2648) d_Law_law_2648 ?_
      exact j_zret (pc := 2649) d_Law_law_2649 rfl hr
    · refine j_aload_n (pc := 33) d_Law_law_33 rfl ?_
      refine j_iload (pc := 34) d_Law_law_34 rfl ?_
      refine j_sload (pc := 36) d_Law_law_36 hr (fun hr => ?_)
      refine j_bipush (pc := 37) d_Law_law_37 ?_
      refine j_iand (pc := 39) d_Law_law_39 ?_
      refine j_tabK (pc := 40) (c := 0) (tgt := 228) d_Law_law_40 (by decide) (by decide) rfl (by decide) hr (fun hr => ?_) (fun q0 hr => ?_)
      · exact mJ_weak (ls' := [(2, (-1)), (2, v1), (2, v2), (2, v3), (0, v4), (9, 0), (9, 0), (9, 0)]) (mwk_s (mwk_s (mwk_s (mwk_s (mwk_s (mwk_s (mwk_s (mwk_s mwk_n)))))))) (t_Law_law_J228 hR23 hr)
      refine j_tabK (pc := 40) (c := 1) (tgt := 301) d_Law_law_40 (by decide) (by decide) rfl (by decide) hr (fun hr => ?_) (fun q1 hr => ?_)
      · exact mJ_weak (ls' := [(2, (-1)), (2, v1), (2, v2), (2, v3), (0, v4), (9, 0), (9, 0), (9, 0)]) (mwk_s (mwk_s (mwk_s (mwk_s (mwk_s (mwk_s (mwk_s (mwk_s mwk_n)))))))) (t_Law_law_J301 hR23 hr)
      refine j_tabK (pc := 40) (c := 2) (tgt := 357) d_Law_law_40 (by decide) (by decide) rfl (by decide) hr (fun hr => ?_) (fun q2 hr => ?_)
      · exact mJ_weak (ls' := [(2, (-1)), (2, v1), (2, v2), (2, v3), (0, v4), (9, 0), (9, 0), (9, 0)]) (mwk_s (mwk_s (mwk_s (mwk_s (mwk_s (mwk_s (mwk_s (mwk_s mwk_n)))))))) (t_Law_law_J357 hR23 hr)
      refine j_tabK (pc := 40) (c := 3) (tgt := 382) d_Law_law_40 (by decide) (by decide) rfl (by decide) hr (fun hr => ?_) (fun q3 hr => ?_)
      · exact mJ_weak (ls' := [(2, (-1)), (2, v1), (2, v2), (2, v3), (0, v4), (9, 0), (9, 0), (9, 0)]) (mwk_s (mwk_s (mwk_s (mwk_s (mwk_s (mwk_s (mwk_s (mwk_s mwk_n)))))))) (t_Law_law_J382 hR23 hr)
      refine j_tabK (pc := 40) (c := 4) (tgt := 450) d_Law_law_40 (by decide) (by decide) rfl (by decide) hr (fun hr => ?_) (fun q4 hr => ?_)
      · exact mJ_weak (ls' := [(2, (-1)), (2, v1), (2, v2), (2, v3), (0, v4), (9, 0), (9, 0), (9, 0)]) (mwk_s (mwk_s (mwk_s (mwk_s (mwk_s (mwk_s (mwk_s (mwk_s mwk_n)))))))) (t_Law_law_J450 hR23 hr)
      refine j_tabK (pc := 40) (c := 5) (tgt := 518) d_Law_law_40 (by decide) (by decide) rfl (by decide) hr (fun hr => ?_) (fun q5 hr => ?_)
      · exact mJ_weak (ls' := [(2, (-1)), (2, v1), (2, v2), (2, v3), (0, v4), (9, 0), (9, 0), (9, 0)]) (mwk_s (mwk_s (mwk_s (mwk_s (mwk_s (mwk_s (mwk_s (mwk_s mwk_n)))))))) (t_Law_law_J518 hR23 hr)
      refine j_tabK (pc := 40) (c := 6) (tgt := 531) d_Law_law_40 (by decide) (by decide) rfl (by decide) hr (fun hr => ?_) (fun q6 hr => ?_)
      · exact mJ_weak (ls' := [(2, (-1)), (2, v1), (2, v2), (2, v3), (0, v4), (9, 0), (9, 0), (9, 0)]) (mwk_s (mwk_s (mwk_s (mwk_s (mwk_s (mwk_s (mwk_s (mwk_s mwk_n)))))))) (t_Law_law_J531 hR23 hr)
      refine j_tabK (pc := 40) (c := 7) (tgt := 599) d_Law_law_40 (by decide) (by decide) rfl (by decide) hr (fun hr => ?_) (fun q7 hr => ?_)
      · exact mJ_weak (ls' := [(2, (-1)), (2, v1), (2, v2), (2, v3), (0, v4), (9, 0), (9, 0), (9, 0)]) (mwk_s (mwk_s (mwk_s (mwk_s (mwk_s (mwk_s (mwk_s (mwk_s mwk_n)))))))) (t_Law_law_J599 hR23 hr)
      refine j_tabK (pc := 40) (c := 8) (tgt := 612) d_Law_law_40 (by decide) (by decide) rfl (by decide) hr (fun hr => ?_) (fun q8 hr => ?_)
      · exact mJ_weak (ls' := [(2, (-1)), (2, v1), (2, v2), (2, v3), (0, v4), (9, 0), (9, 0), (9, 0)]) (mwk_s (mwk_s (mwk_s (mwk_s (mwk_s (mwk_s (mwk_s (mwk_s mwk_n)))))))) (t_Law_law_J612 hR23 hr)
      refine j_tabK (pc := 40) (c := 9) (tgt := 665) d_Law_law_40 (by decide) (by decide) rfl (by decide) hr (fun hr => ?_) (fun q9 hr => ?_)
      · exact mJ_weak (ls' := [(2, (-1)), (2, v1), (2, v2), (2, v3), (0, v4), (9, 0), (9, 0), (9, 0)]) (mwk_s (mwk_s (mwk_s (mwk_s (mwk_s (mwk_s (mwk_s (mwk_s mwk_n)))))))) (t_Law_law_J665 hR23 hr)
      refine j_tabK (pc := 40) (c := 10) (tgt := 718) d_Law_law_40 (by decide) (by decide) rfl (by decide) hr (fun hr => ?_) (fun q10 hr => ?_)
      · exact mJ_weak (ls' := [(2, (-1)), (2, v1), (2, v2), (2, v3), (0, v4), (9, 0), (9, 0), (9, 0)]) (mwk_s (mwk_s (mwk_s (mwk_s (mwk_s (mwk_s (mwk_s (mwk_s mwk_n)))))))) (t_Law_law_J718 hR23 hr)
      refine j_tabK (pc := 40) (c := 11) (tgt := 771) d_Law_law_40 (by decide) (by decide) rfl (by decide) hr (fun hr => ?_) (fun q11 hr => ?_)
      · exact mJ_weak (ls' := [(2, (-1)), (2, v1), (2, v2), (2, v3), (0, v4), (9, 0), (9, 0), (9, 0)]) (mwk_s (mwk_s (mwk_s (mwk_s (mwk_s (mwk_s (mwk_s (mwk_s mwk_n)))))))) (t_Law_law_J771 hR23 hr)
      refine j_tabK (pc := 40) (c := 12) (tgt := 839) d_Law_law_40 (by decide) (by decide) rfl (by decide) hr (fun hr => ?_) (fun q12 hr => ?_)
      · exact mJ_weak (ls' := [(2, (-1)), (2, v1), (2, v2), (2, v3), (0, v4), (9, 0), (9, 0), (9, 0)]) (mwk_s (mwk_s (mwk_s (mwk_s (mwk_s (mwk_s (mwk_s (mwk_s mwk_n)))))))) (t_Law_law_J839 hR23 hr)
      refine j_tabK (pc := 40) (c := 13) (tgt := 895) d_Law_law_40 (by decide) (by decide) rfl (by decide) hr (fun hr => ?_) (fun q13 hr => ?_)
      · exact mJ_weak (ls' := [(2, (-1)), (2, v1), (2, v2), (2, v3), (0, v4), (9, 0), (9, 0), (9, 0)]) (mwk_s (mwk_s (mwk_s (mwk_s (mwk_s (mwk_s (mwk_s (mwk_s mwk_n)))))))) (t_Law_law_J895 hR23 hr)
      refine j_tabK (pc := 40) (c := 14) (tgt := 963) d_Law_law_40 (by decide) (by decide) rfl (by decide) hr (fun hr => ?_) (fun q14 hr => ?_)
      · exact mJ_weak (ls' := [(2, (-1)), (2, v1), (2, v2), (2, v3), (0, v4), (9, 0), (9, 0), (9, 0)]) (mwk_s (mwk_s (mwk_s (mwk_s (mwk_s (mwk_s (mwk_s (mwk_s mwk_n)))))))) (t_Law_law_J963 hR23 hr)
      refine j_tabK (pc := 40) (c := 15) (tgt := 976) d_Law_law_40 (by decide) (by decide) rfl (by decide) hr (fun hr => ?_) (fun q15 hr => ?_)
      · exact mJ_weak (ls' := [(2, (-1)), (2, v1), (2, v2), (2, v3), (0, v4), (9, 0), (9, 0), (9, 0)]) (mwk_s (mwk_s (mwk_s (mwk_s (mwk_s (mwk_s (mwk_s (mwk_s mwk_n)))))))) (t_Law_law_J976 hR23 hr)
      refine j_tabK (pc := 40) (c := 16) (tgt := 1039) d_Law_law_40 (by decide) (by decide) rfl (by decide) hr (fun hr => ?_) (fun q16 hr => ?_)
      · exact mJ_weak (ls' := [(2, (-1)), (2, v1), (2, v2), (2, v3), (0, v4), (9, 0), (9, 0), (9, 0)]) (mwk_s (mwk_s (mwk_s (mwk_s (mwk_s (mwk_s (mwk_s (mwk_s mwk_n)))))))) (t_Law_law_J1039 hR23 hr)
      refine j_tabK (pc := 40) (c := 17) (tgt := 1119) d_Law_law_40 (by decide) (by decide) rfl (by decide) hr (fun hr => ?_) (fun q17 hr => ?_)
      · exact mJ_weak (ls' := [(2, (-1)), (2, v1), (2, v2), (2, v3), (0, v4), (9, 0), (9, 0), (9, 0)]) (mwk_s (mwk_s (mwk_s (mwk_s (mwk_s (mwk_s (mwk_s (mwk_s mwk_n)))))))) (t_Law_law_J1119 hR23 hr)
      refine j_tabK (pc := 40) (c := 18) (tgt := 1175) d_Law_law_40 (by decide) (by decide) rfl (by decide) hr (fun hr => ?_) (fun q18 hr => ?_)
      · exact mJ_weak (ls' := [(2, (-1)), (2, v1), (2, v2), (2, v3), (0, v4), (9, 0), (9, 0), (9, 0)]) (mwk_s (mwk_s (mwk_s (mwk_s (mwk_s (mwk_s (mwk_s (mwk_s mwk_n)))))))) (t_Law_law_J1175 hR23 hr)
      refine j_tabK (pc := 40) (c := 19) (tgt := 1218) d_Law_law_40 (by decide) (by decide) rfl (by decide) hr (fun hr => ?_) (fun q19 hr => ?_)
      · exact mJ_weak (ls' := [(2, (-1)), (2, v1), (2, v2), (2, v3), (0, v4), (9, 0), (9, 0), (9, 0)]) (mwk_s (mwk_s (mwk_s (mwk_s (mwk_s (mwk_s (mwk_s (mwk_s mwk_n)))))))) (t_Law_law_J1218 hR23 hr)
      refine j_tabK (pc := 40) (c := 20) (tgt := 1274) d_Law_law_40 (by decide) (by decide) rfl (by decide) hr (fun hr => ?_) (fun q20 hr => ?_)
      · exact mJ_weak (ls' := [(2, (-1)), (2, v1), (2, v2), (2, v3), (0, v4), (9, 0), (9, 0), (9, 0)]) (mwk_s (mwk_s (mwk_s (mwk_s (mwk_s (mwk_s (mwk_s (mwk_s mwk_n)))))))) (t_Law_law_J1274 hR23 hr)
      refine j_tabK (pc := 40) (c := 21) (tgt := 1330) d_Law_law_40 (by decide) (by decide) rfl (by decide) hr (fun hr => ?_) (fun q21 hr => ?_)
      · exact mJ_weak (ls' := [(2, (-1)), (2, v1), (2, v2), (2, v3), (0, v4), (9, 0), (9, 0), (9, 0)]) (mwk_s (mwk_s (mwk_s (mwk_s (mwk_s (mwk_s (mwk_s (mwk_s mwk_n)))))))) (t_Law_law_J1330 hR23 hr)
      refine j_tabK (pc := 40) (c := 22) (tgt := 1393) d_Law_law_40 (by decide) (by decide) rfl (by decide) hr (fun hr => ?_) (fun q22 hr => ?_)
      · exact mJ_weak (ls' := [(2, (-1)), (2, v1), (2, v2), (2, v3), (0, v4), (9, 0), (9, 0), (9, 0)]) (mwk_s (mwk_s (mwk_s (mwk_s (mwk_s (mwk_s (mwk_s (mwk_s mwk_n)))))))) (t_Law_law_J1393 hR23 hr)
      refine j_tabK (pc := 40) (c := 23) (tgt := 1449) d_Law_law_40 (by decide) (by decide) rfl (by decide) hr (fun hr => ?_) (fun q23 hr => ?_)
      · exact mJ_weak (ls' := [(2, (-1)), (2, v1), (2, v2), (2, v3), (0, v4), (9, 0), (9, 0), (9, 0)]) (mwk_s (mwk_s (mwk_s (mwk_s (mwk_s (mwk_s (mwk_s (mwk_s mwk_n)))))))) (t_Law_law_J1449 hR23 hr)
      refine j_tabK (pc := 40) (c := 24) (tgt := 1493) d_Law_law_40 (by decide) (by decide) rfl (by decide) hr (fun hr => ?_) (fun q24 hr => ?_)
      · exact mJ_weak (ls' := [(2, (-1)), (2, v1), (2, v2), (2, v3), (0, v4), (9, 0), (9, 0), (9, 0)]) (mwk_s (mwk_s (mwk_s (mwk_s (mwk_s (mwk_s (mwk_s (mwk_s mwk_n)))))))) (t_Law_law_J1493 hR23 hr)
      refine j_tabK (pc := 40) (c := 25) (tgt := 1549) d_Law_law_40 (by decide) (by decide) rfl (by decide) hr (fun hr => ?_) (fun q25 hr => ?_)
      · exact mJ_weak (ls' := [(2, (-1)), (2, v1), (2, v2), (2, v3), (0, v4), (9, 0), (9, 0), (9, 0)]) (mwk_s (mwk_s (mwk_s (mwk_s (mwk_s (mwk_s (mwk_s (mwk_s mwk_n)))))))) (t_Law_law_J1549 hR23 hr)
      refine j_tabK (pc := 40) (c := 26) (tgt := 1605) d_Law_law_40 (by decide) (by decide) rfl (by decide) hr (fun hr => ?_) (fun q26 hr => ?_)
      · exact mJ_weak (ls' := [(2, (-1)), (2, v1), (2, v2), (2, v3), (0, v4), (9, 0), (9, 0), (9, 0)]) (mwk_s (mwk_s (mwk_s (mwk_s (mwk_s (mwk_s (mwk_s (mwk_s mwk_n)))))))) (t_Law_law_J1605 hR23 hr)
      refine j_tabK (pc := 40) (c := 27) (tgt := 1673) d_Law_law_40 (by decide) (by decide) rfl (by decide) hr (fun hr => ?_) (fun q27 hr => ?_)
      · exact mJ_weak (ls' := [(2, (-1)), (2, v1), (2, v2), (2, v3), (0, v4), (9, 0), (9, 0), (9, 0)]) (mwk_s (mwk_s (mwk_s (mwk_s (mwk_s (mwk_s (mwk_s (mwk_s mwk_n)))))))) (t_Law_law_J1673 hR23 hr)
      refine j_tabK (pc := 40) (c := 28) (tgt := 1741) d_Law_law_40 (by decide) (by decide) rfl (by decide) hr (fun hr => ?_) (fun q28 hr => ?_)
      · exact mJ_weak (ls' := [(2, (-1)), (2, v1), (2, v2), (2, v3), (0, v4), (9, 0), (9, 0), (9, 0)]) (mwk_s (mwk_s (mwk_s (mwk_s (mwk_s (mwk_s (mwk_s (mwk_s mwk_n)))))))) (t_Law_law_J1741 hR23 hr)
      refine j_tabK (pc := 40) (c := 29) (tgt := 1797) d_Law_law_40 (by decide) (by decide) rfl (by decide) hr (fun hr => ?_) (fun q29 hr => ?_)
      · exact mJ_weak (ls' := [(2, (-1)), (2, v1), (2, v2), (2, v3), (0, v4), (9, 0), (9, 0), (9, 0)]) (mwk_s (mwk_s (mwk_s (mwk_s (mwk_s (mwk_s (mwk_s (mwk_s mwk_n)))))))) (t_Law_law_J1797 hR23 hr)
      refine j_tabK (pc := 40) (c := 30) (tgt := 1841) d_Law_law_40 (by decide) (by decide) rfl (by decide) hr (fun hr => ?_) (fun q30 hr => ?_)
      · exact mJ_weak (ls' := [(2, (-1)), (2, v1), (2, v2), (2, v3), (0, v4), (9, 0), (9, 0), (9, 0)]) (mwk_s (mwk_s (mwk_s (mwk_s (mwk_s (mwk_s (mwk_s (mwk_s mwk_n)))))))) (t_Law_law_J1841 hR23 hr)
      refine j_tabK (pc := 40) (c := 31) (tgt := 1909) d_Law_law_40 (by decide) (by decide) rfl (by decide) hr (fun hr => ?_) (fun q31 hr => ?_)
      · exact mJ_weak (ls' := [(2, (-1)), (2, v1), (2, v2), (2, v3), (0, v4), (9, 0), (9, 0), (9, 0)]) (mwk_s (mwk_s (mwk_s (mwk_s (mwk_s (mwk_s (mwk_s (mwk_s mwk_n)))))))) (t_Law_law_J1909 hR23 hr)
      refine j_tabK (pc := 40) (c := 32) (tgt := 1964) d_Law_law_40 (by decide) (by decide) rfl (by decide) hr (fun hr => ?_) (fun q32 hr => ?_)
      · exact mJ_weak (ls' := [(2, (-1)), (2, v1), (2, v2), (2, v3), (0, v4), (9, 0), (9, 0), (9, 0)]) (mwk_s (mwk_s (mwk_s (mwk_s (mwk_s (mwk_s (mwk_s (mwk_s mwk_n)))))))) (t_Law_law_J1964 hR23 hr)
      refine j_tabK (pc := 40) (c := 33) (tgt := 2031) d_Law_law_40 (by decide) (by decide) rfl (by decide) hr (fun hr => ?_) (fun q33 hr => ?_)
      · exact mJ_weak (ls' := [(2, (-1)), (2, v1), (2, v2), (2, v3), (0, v4), (9, 0), (9, 0), (9, 0)]) (mwk_s (mwk_s (mwk_s (mwk_s (mwk_s (mwk_s (mwk_s (mwk_s mwk_n)))))))) (t_Law_law_J2031 hR23 hr)
      refine j_tabK (pc := 40) (c := 34) (tgt := 2111) d_Law_law_40 (by decide) (by decide) rfl (by decide) hr (fun hr => ?_) (fun q34 hr => ?_)
      · exact mJ_weak (ls' := [(2, (-1)), (2, v1), (2, v2), (2, v3), (0, v4), (9, 0), (9, 0), (9, 0)]) (mwk_s (mwk_s (mwk_s (mwk_s (mwk_s (mwk_s (mwk_s (mwk_s mwk_n)))))))) (t_Law_law_J2111 hR23 hr)
      refine j_tabK (pc := 40) (c := 35) (tgt := 2191) d_Law_law_40 (by decide) (by decide) rfl (by decide) hr (fun hr => ?_) (fun q35 hr => ?_)
      · exact mJ_weak (ls' := [(2, (-1)), (2, v1), (2, v2), (2, v3), (0, v4), (9, 0), (9, 0), (9, 0)]) (mwk_s (mwk_s (mwk_s (mwk_s (mwk_s (mwk_s (mwk_s (mwk_s mwk_n)))))))) (t_Law_law_J2191 hR23 hr)
      refine j_tabK (pc := 40) (c := 36) (tgt := 2274) d_Law_law_40 (by decide) (by decide) rfl (by decide) hr (fun hr => ?_) (fun q36 hr => ?_)
      · exact mJ_weak (ls' := [(2, (-1)), (2, v1), (2, v2), (2, v3), (0, v4), (9, 0), (9, 0), (9, 0)]) (mwk_s (mwk_s (mwk_s (mwk_s (mwk_s (mwk_s (mwk_s (mwk_s mwk_n)))))))) (t_Law_law_J2274 hR23 hr)
      refine j_tabK (pc := 40) (c := 37) (tgt := 2318) d_Law_law_40 (by decide) (by decide) rfl (by decide) hr (fun hr => ?_) (fun q37 hr => ?_)
      · exact mJ_weak (ls' := [(2, (-1)), (2, v1), (2, v2), (2, v3), (0, v4), (9, 0), (9, 0), (9, 0)]) (mwk_s (mwk_s (mwk_s (mwk_s (mwk_s (mwk_s (mwk_s (mwk_s mwk_n)))))))) (t_Law_law_J2318 hR23 hr)
      refine j_tabK (pc := 40) (c := 38) (tgt := 2378) d_Law_law_40 (by decide) (by decide) rfl (by decide) hr (fun hr => ?_) (fun q38 hr => ?_)
      · exact mJ_weak (ls' := [(2, (-1)), (2, v1), (2, v2), (2, v3), (0, v4), (9, 0), (9, 0), (9, 0)]) (mwk_s (mwk_s (mwk_s (mwk_s (mwk_s (mwk_s (mwk_s (mwk_s mwk_n)))))))) (t_Law_law_J2378 hR23 hr)
      refine j_tabK (pc := 40) (c := 39) (tgt := 2489) d_Law_law_40 (by decide) (by decide) rfl (by decide) hr (fun hr => ?_) (fun q39 hr => ?_)
      · exact mJ_weak (ls' := [(2, (-1)), (2, v1), (2, v2), (2, v3), (0, v4), (9, 0), (9, 0), (9, 0)]) (mwk_s (mwk_s (mwk_s (mwk_s (mwk_s (mwk_s (mwk_s (mwk_s mwk_n)))))))) (t_Law_law_J2489 hR23 hr)
      refine j_tabK (pc := 40) (c := 40) (tgt := 2545) d_Law_law_40 (by decide) (by decide) rfl (by decide) hr (fun hr => ?_) (fun q40 hr => ?_)
      · exact mJ_weak (ls' := [(2, (-1)), (2, v1), (2, v2), (2, v3), (0, v4), (9, 0), (9, 0), (9, 0)]) (mwk_s (mwk_s (mwk_s (mwk_s (mwk_s (mwk_s (mwk_s (mwk_s mwk_n)))))))) (t_Law_law_J2545 hR23 hr)
      refine j_tabK (pc := 40) (c := 41) (tgt := 2581) d_Law_law_40 (by decide) (by decide) rfl (by decide) hr (fun hr => ?_) (fun q41 hr => ?_)
      · exact mJ_weak (ls' := [(2, (-1)), (2, v1), (2, v2), (2, v3), (0, v4), (9, 0), (9, 0), (9, 0)]) (mwk_s (mwk_s (mwk_s (mwk_s (mwk_s (mwk_s (mwk_s (mwk_s mwk_n)))))))) (t_Law_law_J2581 hR23 hr)
      refine j_tabK (pc := 40) (c := 42) (tgt := 2617) d_Law_law_40 (by decide) (by decide) rfl (by decide) hr (fun hr => ?_) (fun q42 hr => ?_)
      · exact mJ_weak (ls' := [(2, (-1)), (2, v1), (2, v2), (2, v3), (0, v4), (9, 0), (9, 0), (9, 0)]) (mwk_s (mwk_s (mwk_s (mwk_s (mwk_s (mwk_s (mwk_s (mwk_s mwk_n)))))))) (t_Law_law_J2617 hR23 hr)
      refine j_tabOut (pc := 40) (tgt := 2642) d_Law_law_40 (by omega) (by decide) ?_
      exact mJ_weak (ls' := [(2, (-1)), (2, v1), (2, v2), (2, v3), (0, v4), (9, 0), (9, 0), (9, 0)]) (mwk_s (mwk_s (mwk_s (mwk_s (mwk_s (mwk_s (mwk_s (mwk_s mwk_n)))))))) (t_Law_law_J2642 hR23 hr)
theorem t_Law_law {G : mG} (h : mH) (r : mR) (hr : f_Law_law G h = some r) : mJ G M_Law_law 0 [(2, (-1)), (9, 0), (9, 0), (9, 0), (9, 0), (9, 0), (9, 0), (9, 0)] [] h r := by
  unfold f_Law_law at hr
  refine j_new (pc := 0) (c := 10) (N := 19) (ty := tyX10) d_Law_law_0 rfl (by decide) tb_cl_Law_8 tb_is_Nb tb_in_NineBars uw_10 tyX10_ok (mz_10 G) hr (fun h1 hr => ?_)
  refine j_dup (pc := 3) d_Law_law_3 ?_
  obtain ⟨ha, hr⟩ := chk_some hr
  refine j_callR (pc := 4) (stk := [(2, hpN h + 1), (2, hpN h + 1)]) (as := [(2, hpN h + 1)]) (P := (fun v9 => [(2, hpN h + 1)])) (tg := 3) (My := M_Nb_init) (by decide) (mRunI (as := []) (st := [(2, hpN h + 1)]) d_Law_law_4 (mc_Nb_init (by decide)) rfl rfl ⟨Or.inl tb_ml_Law_131, tb_im_Nb_init, rfl⟩ rfl (Nat.le_of_ble_eq_true rfl) ha) (fun v => rfl) hr (fun r1 h1 => t_Nb_init _ _ _ h1) (fun x3 h2 hr => ?_)
  refine j_astoreW_n (pc := 7) (L := fun x4 => [(2, (-1)), (2, x4), (9, 0), (9, 0), (9, 0), (9, 0), (9, 0), (9, 0)]) d_Law_law_7 (fun _ => rfl) hr (fun x4 hr => ?_)
  refine j_new (pc := 8) (c := 11) (N := 40) (ty := tyX11) d_Law_law_8 rfl (by decide) tb_cl_Law_132 tb_is_Md tb_in_NineBarsModel uw_11 tyX11_ok (mz_11 G) hr (fun h5 hr => ?_)
  refine j_dup (pc := 11) d_Law_law_11 ?_
  obtain ⟨ha, hr⟩ := chk_some hr
  refine j_callR (pc := 12) (stk := [(2, hpN h2 + 1), (2, hpN h2 + 1)]) (as := [(2, hpN h2 + 1)]) (P := (fun v9 => [(2, hpN h2 + 1)])) (tg := 3) (My := M_Md_init) (by decide) (mRunI (as := []) (st := [(2, hpN h2 + 1)]) d_Law_law_12 (mc_Md_init (by decide)) rfl rfl ⟨Or.inl tb_ml_Law_134, tb_im_Md_init, rfl⟩ rfl (Nat.le_of_ble_eq_true rfl) ha) (fun v => rfl) hr (fun r1 h1 => t_Md_init _ _ _ h1) (fun x7 h6 hr => ?_)
  refine j_astoreW_n (pc := 15) (L := fun x8 => [(2, (-1)), (2, x4), (2, x8), (9, 0), (9, 0), (9, 0), (9, 0), (9, 0)]) d_Law_law_15 (fun _ => rfl) hr (fun x8 hr => ?_)
  refine j_iconst (pc := 16) d_Law_law_16 ?_
  refine j_newJ (pc := 17) d_Law_law_17 tb_ac_long hr (fun h9 hr => ?_)
  refine j_astoreW_n (pc := 19) (L := fun x10 => [(2, (-1)), (2, x4), (2, x8), (2, x10), (9, 0), (9, 0), (9, 0), (9, 0)]) d_Law_law_19 (fun _ => rfl) hr (fun x10 hr => ?_)
  refine j_iconst (pc := 20) d_Law_law_20 ?_
  refine j_istore (pc := 21) (ls' := [(2, (-1)), (2, x4), (2, x8), (2, x10), (0, 0), (9, 0), (9, 0), (9, 0)]) d_Law_law_21 rfl ?_
  refine mJ_weak (ls' := [(2, (-1)), (2, x4), (2, x8), (2, x10), (0, 0), (9, 0), (9, 0), (9, 0)]) (mwk_s (mwk_s (mwk_s (mwk_s (mwk_s (mwk_s (mwk_s (mwk_s mwk_n)))))))) (t_Law_law_L23  _ _ _ hr)
