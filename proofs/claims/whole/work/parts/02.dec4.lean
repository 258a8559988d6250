theorem dX11_quotient_246 : decode cX11_quotient 246 = .ok (.iload 9, 2) := by decide +kernel
theorem dX11_quotient_248 : decode cX11_quotient 248 = .ok (.iadd, 1) := by decide +kernel
theorem dX11_quotient_249 : decode cX11_quotient 249 = .ok (.iload 16, 2) := by decide +kernel
theorem dX11_quotient_251 : decode cX11_quotient 251 = .ok (.iadd, 1) := by decide +kernel
theorem dX11_quotient_252 : decode cX11_quotient 252 = .ok (.lload 17, 2) := by decide +kernel
theorem dX11_quotient_254 : decode cX11_quotient 254 = .ok (.ldc2_w 62, 3) := by decide +kernel
theorem dX11_quotient_257 : decode cX11_quotient 257 = .ok (.land, 1) := by decide +kernel
theorem dX11_quotient_258 : decode cX11_quotient 258 = .ok (.l2i, 1) := by decide +kernel
theorem dX11_quotient_259 : decode cX11_quotient 259 = .ok (.iastore, 1) := by decide +kernel
theorem dX11_quotient_260 : decode cX11_quotient 260 = .ok (.lload 17, 2) := by decide +kernel
theorem dX11_quotient_262 : decode cX11_quotient 262 = .ok (.bipush 16, 2) := by decide +kernel
theorem dX11_quotient_264 : decode cX11_quotient 264 = .ok (.lshr, 1) := by decide +kernel
theorem dX11_quotient_265 : decode cX11_quotient 265 = .ok (.lstore 14, 2) := by decide +kernel
theorem dX11_quotient_267 : decode cX11_quotient 267 = .ok (.iinc 16 1, 3) := by decide +kernel
theorem dX11_quotient_270 : decode cX11_quotient 270 = .ok (.goto (-92), 3) := by decide +kernel
theorem dX11_quotient_273 : decode cX11_quotient 273 = .ok (.lload 14, 2) := by decide +kernel
theorem dX11_quotient_275 : decode cX11_quotient 275 = .ok (.lconst 0, 1) := by decide +kernel
theorem dX11_quotient_276 : decode cX11_quotient 276 = .ok (.lcmp, 1) := by decide +kernel
theorem dX11_quotient_277 : decode cX11_quotient 277 = .ok (.ifCond .ge 114, 3) := by decide +kernel
theorem dX11_quotient_280 : decode cX11_quotient 280 = .ok (.lload 12, 2) := by decide +kernel
theorem dX11_quotient_282 : decode cX11_quotient 282 = .ok (.lconst 1, 1) := by decide +kernel
theorem dX11_quotient_283 : decode cX11_quotient 283 = .ok (.lsub, 1) := by decide +kernel
theorem dX11_quotient_284 : decode cX11_quotient 284 = .ok (.lstore 12, 2) := by decide +kernel
theorem dX11_quotient_286 : decode cX11_quotient 286 = .ok (.iconst 0, 1) := by decide +kernel
theorem dX11_quotient_287 : decode cX11_quotient 287 = .ok (.istore 16, 2) := by decide +kernel
theorem dX11_quotient_289 : decode cX11_quotient 289 = .ok (.iconst 0, 1) := by decide +kernel
theorem dX11_quotient_290 : decode cX11_quotient 290 = .ok (.istore 17, 2) := by decide +kernel
theorem dX11_quotient_292 : decode cX11_quotient 292 = .ok (.iload 17, 2) := by decide +kernel
theorem dX11_quotient_294 : decode cX11_quotient 294 = .ok (.iload 6, 2) := by decide +kernel
theorem dX11_quotient_296 : decode cX11_quotient 296 = .ok (.if_icmp .gt 84, 3) := by decide +kernel
theorem dX11_quotient_299 : decode cX11_quotient 299 = .ok (.iload 16, 2) := by decide +kernel
theorem dX11_quotient_301 : decode cX11_quotient 301 = .ok (.aload_n 0, 1) := by decide +kernel
theorem dX11_quotient_302 : decode cX11_quotient 302 = .ok (.getfield 7, 3) := by decide +kernel
theorem dX11_quotient_305 : decode cX11_quotient 305 = .ok (.sipush 260, 3) := by decide +kernel
theorem dX11_quotient_308 : decode cX11_quotient 308 = .ok (.iload_n 2, 1) := by decide +kernel
theorem dX11_quotient_309 : decode cX11_quotient 309 = .ok (.imul, 1) := by decide +kernel
theorem dX11_quotient_310 : decode cX11_quotient 310 = .ok (.iload 9, 2) := by decide +kernel
theorem dX11_quotient_312 : decode cX11_quotient 312 = .ok (.iadd, 1) := by decide +kernel
theorem dX11_quotient_313 : decode cX11_quotient 313 = .ok (.iload 17, 2) := by decide +kernel
theorem dX11_quotient_315 : decode cX11_quotient 315 = .ok (.iadd, 1) := by decide +kernel
theorem dX11_quotient_316 : decode cX11_quotient 316 = .ok (.iaload, 1) := by decide +kernel
theorem dX11_quotient_317 : decode cX11_quotient 317 = .ok (.iload 17, 2) := by decide +kernel
theorem dX11_quotient_319 : decode cX11_quotient 319 = .ok (.iload 6, 2) := by decide +kernel
theorem dX11_quotient_321 : decode cX11_quotient 321 = .ok (.if_icmp .ge 20, 3) := by decide +kernel
theorem dX11_quotient_324 : decode cX11_quotient 324 = .ok (.aload_n 0, 1) := by decide +kernel
theorem dX11_quotient_325 : decode cX11_quotient 325 = .ok (.getfield 7, 3) := by decide +kernel
theorem dX11_quotient_328 : decode cX11_quotient 328 = .ok (.sipush 260, 3) := by decide +kernel
theorem dX11_quotient_331 : decode cX11_quotient 331 = .ok (.iload 4, 2) := by decide +kernel
theorem dX11_quotient_333 : decode cX11_quotient 333 = .ok (.imul, 1) := by decide +kernel
theorem dX11_quotient_334 : decode cX11_quotient 334 = .ok (.iload 17, 2) := by decide +kernel
theorem dX11_quotient_336 : decode cX11_quotient 336 = .ok (.iadd, 1) := by decide +kernel
theorem dX11_quotient_337 : decode cX11_quotient 337 = .ok (.iaload, 1) := by decide +kernel
theorem dX11_quotient_338 : decode cX11_quotient 338 = .ok (.goto 4, 3) := by decide +kernel
theorem dX11_quotient_341 : decode cX11_quotient 341 = .ok (.iconst 0, 1) := by decide +kernel
theorem dX11_quotient_342 : decode cX11_quotient 342 = .ok (.iadd, 1) := by decide +kernel
theorem dX11_quotient_343 : decode cX11_quotient 343 = .ok (.iadd, 1) := by decide +kernel
theorem dX11_quotient_344 : decode cX11_quotient 344 = .ok (.istore 16, 2) := by decide +kernel
theorem dX11_quotient_346 : decode cX11_quotient 346 = .ok (.aload_n 0, 1) := by decide +kernel
theorem dX11_quotient_347 : decode cX11_quotient 347 = .ok (.getfield 7, 3) := by decide +kernel
theorem dX11_quotient_350 : decode cX11_quotient 350 = .ok (.sipush 260, 3) := by decide +kernel
theorem dX11_quotient_353 : decode cX11_quotient 353 = .ok (.iload_n 2, 1) := by decide +kernel
theorem dX11_quotient_354 : decode cX11_quotient 354 = .ok (.imul, 1) := by decide +kernel
theorem dX11_quotient_355 : decode cX11_quotient 355 = .ok (.iload 9, 2) := by decide +kernel
theorem dX11_quotient_357 : decode cX11_quotient 357 = .ok (.iadd, 1) := by decide +kernel
theorem dX11_quotient_358 : decode cX11_quotient 358 = .ok (.iload 17, 2) := by decide +kernel
theorem dX11_quotient_360 : decode cX11_quotient 360 = .ok (.iadd, 1) := by decide +kernel
theorem dX11_quotient_361 : decode cX11_quotient 361 = .ok (.iload 16, 2) := by decide +kernel
theorem dX11_quotient_363 : decode cX11_quotient 363 = .ok (.ldc 40, 2) := by decide +kernel
theorem dX11_quotient_365 : decode cX11_quotient 365 = .ok (.iand, 1) := by decide +kernel
theorem dX11_quotient_366 : decode cX11_quotient 366 = .ok (.iastore, 1) := by decide +kernel
theorem dX11_quotient_367 : decode cX11_quotient 367 = .ok (.iload 16, 2) := by decide +kernel
theorem dX11_quotient_369 : decode cX11_quotient 369 = .ok (.bipush 16, 2) := by decide +kernel
theorem dX11_quotient_371 : decode cX11_quotient 371 = .ok (.ishr, 1) := by decide +kernel
theorem dX11_quotient_372 : decode cX11_quotient 372 = .ok (.istore 16, 2) := by decide +kernel
theorem dX11_quotient_374 : decode cX11_quotient 374 = .ok (.iinc 17 1, 3) := by decide +kernel
theorem dX11_quotient_377 : decode cX11_quotient 377 = .ok (.goto (-85), 3) := by decide +kernel
theorem dX11_quotient_380 : decode cX11_quotient 380 = .ok (.lload 14, 2) := by decide +kernel
theorem dX11_quotient_382 : decode cX11_quotient 382 = .ok (.iload 16, 2) := by decide +kernel
theorem dX11_quotient_384 : decode cX11_quotient 384 = .ok (.i2l, 1) := by decide +kernel
theorem dX11_quotient_385 : decode cX11_quotient 385 = .ok (.ladd, 1) := by decide +kernel
theorem dX11_quotient_386 : decode cX11_quotient 386 = .ok (.lstore 14, 2) := by decide +kernel
theorem dX11_quotient_388 : decode cX11_quotient 388 = .ok (.goto (-115), 3) := by decide +kernel
theorem dX11_quotient_391 : decode cX11_quotient 391 = .ok (.aload_n 0, 1) := by decide +kernel
theorem dX11_quotient_392 : decode cX11_quotient 392 = .ok (.getfield 7, 3) := by decide +kernel
theorem dX11_quotient_395 : decode cX11_quotient 395 = .ok (.sipush 260, 3) := by decide +kernel
theorem dX11_quotient_398 : decode cX11_quotient 398 = .ok (.iload_n 1, 1) := by decide +kernel
theorem dX11_quotient_399 : decode cX11_quotient 399 = .ok (.imul, 1) := by decide +kernel
theorem dX11_quotient_400 : decode cX11_quotient 400 = .ok (.iload 9, 2) := by decide +kernel
theorem dX11_quotient_402 : decode cX11_quotient 402 = .ok (.iadd, 1) := by decide +kernel
theorem dX11_quotient_403 : decode cX11_quotient 403 = .ok (.lload 12, 2) := by decide +kernel
theorem dX11_quotient_405 : decode cX11_quotient 405 = .ok (.l2i, 1) := by decide +kernel
theorem dX11_quotient_406 : decode cX11_quotient 406 = .ok (.iastore, 1) := by decide +kernel
theorem dX11_quotient_407 : decode cX11_quotient 407 = .ok (.iinc 9 (-1), 3) := by decide +kernel
theorem dX11_quotient_410 : decode cX11_quotient 410 = .ok (.goto (-302), 3) := by decide +kernel
theorem dX11_quotient_413 : decode cX11_quotient 413 = .ok (.aload_n 0, 1) := by decide +kernel
theorem dX11_quotient_414 : decode cX11_quotient 414 = .ok (.iload_n 1, 1) := by decide +kernel
theorem dX11_quotient_415 : decode cX11_quotient 415 = .ok (.iload 5, 2) := by decide +kernel
theorem dX11_quotient_417 : decode cX11_quotient 417 = .ok (.iload 6, 2) := by decide +kernel
theorem dX11_quotient_419 : decode cX11_quotient 419 = .ok (.isub, 1) := by decide +kernel
theorem dX11_quotient_420 : decode cX11_quotient 420 = .ok (.iconst 1, 1) := by decide +kernel
theorem dX11_quotient_421 : decode cX11_quotient 421 = .ok (.iadd, 1) := by decide +kernel
theorem dX11_quotient_422 : decode cX11_quotient 422 = .ok (.iconst 1, 1) := by decide +kernel
theorem dX11_quotient_423 : decode cX11_quotient 423 = .ok (.invokevirtual 41, 3) := by decide +kernel
theorem dX11_quotient_426 : decode cX11_quotient 426 = .ok (.aload_n 0, 1) := by decide +kernel
theorem dX11_quotient_427 : decode cX11_quotient 427 = .ok (.iload_n 2, 1) := by decide +kernel
theorem dX11_quotient_428 : decode cX11_quotient 428 = .ok (.iload 5, 2) := by decide +kernel
theorem dX11_quotient_430 : decode cX11_quotient 430 = .ok (.iconst 1, 1) := by decide +kernel
theorem dX11_quotient_431 : decode cX11_quotient 431 = .ok (.iadd, 1) := by decide +kernel
theorem dX11_quotient_432 : decode cX11_quotient 432 = .ok (.iconst 1, 1) := by decide +kernel
theorem dX11_quotient_433 : decode cX11_quotient 433 = .ok (.invokevirtual 41, 3) := by decide +kernel
theorem dX11_quotient_436 : decode cX11_quotient 436 = .ok (.return_, 1) := by decide +kernel
theorem dX11_divided_0 : decode cX11_divided 0 = .ok (.aload_n 0, 1) := by decide +kernel
theorem dX11_divided_1 : decode cX11_divided 1 = .ok (.getfield 16, 3) := by decide +kernel
theorem dX11_divided_4 : decode cX11_divided 4 = .ok (.iload_n 3, 1) := by decide +kernel
theorem dX11_divided_5 : decode cX11_divided 5 = .ok (.iaload, 1) := by decide +kernel
theorem dX11_divided_6 : decode cX11_divided 6 = .ok (.istore 5, 2) := by decide +kernel
theorem dX11_divided_8 : decode cX11_divided 8 = .ok (.aload_n 0, 1) := by decide +kernel
theorem dX11_divided_9 : decode cX11_divided 9 = .ok (.getfield 16, 3) := by decide +kernel
theorem dX11_divided_12 : decode cX11_divided 12 = .ok (.iload 4, 2) := by decide +kernel
theorem dX11_divided_14 : decode cX11_divided 14 = .ok (.iaload, 1) := by decide +kernel
theorem dX11_divided_15 : decode cX11_divided 15 = .ok (.istore 6, 2) := by decide +kernel
theorem dX11_divided_17 : decode cX11_divided 17 = .ok (.aload_n 0, 1) := by decide +kernel
theorem dX11_divided_18 : decode cX11_divided 18 = .ok (.iload_n 1, 1) := by decide +kernel
theorem dX11_divided_19 : decode cX11_divided 19 = .ok (.iload_n 2, 1) := by decide +kernel
theorem dX11_divided_20 : decode cX11_divided 20 = .ok (.iload_n 3, 1) := by decide +kernel
theorem dX11_divided_21 : decode cX11_divided 21 = .ok (.iload 4, 2) := by decide +kernel
theorem dX11_divided_23 : decode cX11_divided 23 = .ok (.invokevirtual 68, 3) := by decide +kernel
theorem dX11_divided_26 : decode cX11_divided 26 = .ok (.aload_n 0, 1) := by decide +kernel
theorem dX11_divided_27 : decode cX11_divided 27 = .ok (.bipush 16, 2) := by decide +kernel
theorem dX11_divided_29 : decode cX11_divided 29 = .ok (.iconst 1, 1) := by decide +kernel
theorem dX11_divided_30 : decode cX11_divided 30 = .ok (.invokevirtual 56, 3) := by decide +kernel
theorem dX11_divided_33 : decode cX11_divided 33 = .ok (.iload 5, 2) := by decide +kernel
theorem dX11_divided_35 : decode cX11_divided 35 = .ok (.ifCond .ge 30, 3) := by decide +kernel
theorem dX11_divided_38 : decode cX11_divided 38 = .ok (.aload_n 0, 1) := by decide +kernel
theorem dX11_divided_39 : decode cX11_divided 39 = .ok (.getfield 16, 3) := by decide +kernel
theorem dX11_divided_42 : decode cX11_divided 42 = .ok (.iload_n 2, 1) := by decide +kernel
theorem dX11_divided_43 : decode cX11_divided 43 = .ok (.iaload, 1) := by decide +kernel
theorem dX11_divided_44 : decode cX11_divided 44 = .ok (.ifCond .eq 21, 3) := by decide +kernel
theorem dX11_divided_47 : decode cX11_divided 47 = .ok (.aload_n 0, 1) := by decide +kernel
theorem dX11_divided_48 : decode cX11_divided 48 = .ok (.iload_n 1, 1) := by decide +kernel
theorem dX11_divided_49 : decode cX11_divided 49 = .ok (.iload_n 1, 1) := by decide +kernel
theorem dX11_divided_50 : decode cX11_divided 50 = .ok (.bipush 16, 2) := by decide +kernel
theorem dX11_divided_52 : decode cX11_divided 52 = .ok (.iconst 1, 1) := by decide +kernel
theorem dX11_divided_53 : decode cX11_divided 53 = .ok (.invokevirtual 71, 3) := by decide +kernel
theorem dX11_divided_56 : decode cX11_divided 56 = .ok (.aload_n 0, 1) := by decide +kernel
theorem dX11_divided_57 : decode cX11_divided 57 = .ok (.iload_n 2, 1) := by decide +kernel
theorem dX11_divided_58 : decode cX11_divided 58 = .ok (.iload 4, 2) := by decide +kernel
theorem dX11_divided_60 : decode cX11_divided 60 = .ok (.iload_n 2, 1) := by decide +kernel
theorem dX11_divided_61 : decode cX11_divided 61 = .ok (.iconst 1, 1) := by decide +kernel
theorem dX11_divided_62 : decode cX11_divided 62 = .ok (.invokevirtual 59, 3) := by decide +kernel
theorem dX11_divided_65 : decode cX11_divided 65 = .ok (.aload_n 0, 1) := by decide +kernel
theorem dX11_divided_66 : decode cX11_divided 66 = .ok (.getfield 16, 3) := by decide +kernel
theorem dX11_divided_69 : decode cX11_divided 69 = .ok (.iload_n 1, 1) := by decide +kernel
theorem dX11_divided_70 : decode cX11_divided 70 = .ok (.iaload, 1) := by decide +kernel
theorem dX11_divided_71 : decode cX11_divided 71 = .ok (.ifCond .eq 14, 3) := by decide +kernel
theorem dX11_divided_74 : decode cX11_divided 74 = .ok (.aload_n 0, 1) := by decide +kernel
theorem dX11_divided_75 : decode cX11_divided 75 = .ok (.getfield 16, 3) := by decide +kernel
theorem dX11_divided_78 : decode cX11_divided 78 = .ok (.iload_n 1, 1) := by decide +kernel
theorem dX11_divided_79 : decode cX11_divided 79 = .ok (.iload 5, 2) := by decide +kernel
theorem dX11_divided_81 : decode cX11_divided 81 = .ok (.iload 6, 2) := by decide +kernel
theorem dX11_divided_83 : decode cX11_divided 83 = .ok (.imul, 1) := by decide +kernel
theorem dX11_divided_84 : decode cX11_divided 84 = .ok (.iastore, 1) := by decide +kernel
theorem dX11_divided_85 : decode cX11_divided 85 = .ok (.return_, 1) := by decide +kernel
theorem dX11_bits_0 : decode cX11_bits 0 = .ok (.aload_n 0, 1) := by decide +kernel
theorem dX11_bits_1 : decode cX11_bits 1 = .ok (.getfield 13, 3) := by decide +kernel
theorem dX11_bits_4 : decode cX11_bits 4 = .ok (.iload_n 1, 1) := by decide +kernel
theorem dX11_bits_5 : decode cX11_bits 5 = .ok (.iaload, 1) := by decide +kernel
theorem dX11_bits_6 : decode cX11_bits 6 = .ok (.ifCond .ne 5, 3) := by decide +kernel
theorem dX11_bits_9 : decode cX11_bits 9 = .ok (.iconst 0, 1) := by decide +kernel
theorem dX11_bits_10 : decode cX11_bits 10 = .ok (.ireturn, 1) := by decide +kernel
theorem dX11_bits_11 : decode cX11_bits 11 = .ok (.aload_n 0, 1) := by decide +kernel
theorem dX11_bits_12 : decode cX11_bits 12 = .ok (.getfield 7, 3) := by decide +kernel
theorem dX11_bits_15 : decode cX11_bits 15 = .ok (.sipush 260, 3) := by decide +kernel
theorem dX11_bits_18 : decode cX11_bits 18 = .ok (.iload_n 1, 1) := by decide +kernel
theorem dX11_bits_19 : decode cX11_bits 19 = .ok (.imul, 1) := by decide +kernel
theorem dX11_bits_20 : decode cX11_bits 20 = .ok (.aload_n 0, 1) := by decide +kernel
theorem dX11_bits_21 : decode cX11_bits 21 = .ok (.getfield 13, 3) := by decide +kernel
theorem dX11_bits_24 : decode cX11_bits 24 = .ok (.iload_n 1, 1) := by decide +kernel
theorem dX11_bits_25 : decode cX11_bits 25 = .ok (.iaload, 1) := by decide +kernel
theorem dX11_bits_26 : decode cX11_bits 26 = .ok (.iadd, 1) := by decide +kernel
theorem dX11_bits_27 : decode cX11_bits 27 = .ok (.iconst 1, 1) := by decide +kernel
theorem dX11_bits_28 : decode cX11_bits 28 = .ok (.isub, 1) := by decide +kernel
theorem dX11_bits_29 : decode cX11_bits 29 = .ok (.iaload, 1) := by decide +kernel
theorem dX11_bits_30 : decode cX11_bits 30 = .ok (.istore_n 2, 1) := by decide +kernel
theorem dX11_bits_31 : decode cX11_bits 31 = .ok (.bipush 16, 2) := by decide +kernel
theorem dX11_bits_33 : decode cX11_bits 33 = .ok (.aload_n 0, 1) := by decide +kernel
theorem dX11_bits_34 : decode cX11_bits 34 = .ok (.getfield 13, 3) := by decide +kernel
theorem dX11_bits_37 : decode cX11_bits 37 = .ok (.iload_n 1, 1) := by decide +kernel
theorem dX11_bits_38 : decode cX11_bits 38 = .ok (.iaload, 1) := by decide +kernel
theorem dX11_bits_39 : decode cX11_bits 39 = .ok (.iconst 1, 1) := by decide +kernel
theorem dX11_bits_40 : decode cX11_bits 40 = .ok (.isub, 1) := by decide +kernel
theorem dX11_bits_41 : decode cX11_bits 41 = .ok (.imul, 1) := by decide +kernel
theorem dX11_bits_42 : decode cX11_bits 42 = .ok (.istore_n 3, 1) := by decide +kernel
theorem dX11_bits_43 : decode cX11_bits 43 = .ok (.iload_n 2, 1) := by decide +kernel
theorem dX11_bits_44 : decode cX11_bits 44 = .ok (.ifCond .le 13, 3) := by decide +kernel
theorem dX11_bits_47 : decode cX11_bits 47 = .ok (.iinc 3 1, 3) := by decide +kernel
theorem dX11_bits_50 : decode cX11_bits 50 = .ok (.iload_n 2, 1) := by decide +kernel
theorem dX11_bits_51 : decode cX11_bits 51 = .ok (.iconst 1, 1) := by decide +kernel
theorem dX11_bits_52 : decode cX11_bits 52 = .ok (.ishr, 1) := by decide +kernel
theorem dX11_bits_53 : decode cX11_bits 53 = .ok (.istore_n 2, 1) := by decide +kernel
theorem dX11_bits_54 : decode cX11_bits 54 = .ok (.goto (-11), 3) := by decide +kernel
theorem dX11_bits_57 : decode cX11_bits 57 = .ok (.iload_n 3, 1) := by decide +kernel
theorem dX11_bits_58 : decode cX11_bits 58 = .ok (.ireturn, 1) := by decide +kernel
theorem dX11_bit_0 : decode cX11_bit 0 = .ok (.aload_n 0, 1) := by decide +kernel
theorem dX11_bit_1 : decode cX11_bit 1 = .ok (.iload_n 1, 1) := by decide +kernel
theorem dX11_bit_2 : decode cX11_bit 2 = .ok (.iload_n 2, 1) := by decide +kernel
theorem dX11_bit_3 : decode cX11_bit 3 = .ok (.iconst 4, 1) := by decide +kernel
theorem dX11_bit_4 : decode cX11_bit 4 = .ok (.ishr, 1) := by decide +kernel
theorem dX11_bit_5 : decode cX11_bit 5 = .ok (.invokevirtual 36, 3) := by decide +kernel
theorem dX11_bit_8 : decode cX11_bit 8 = .ok (.iload_n 2, 1) := by decide +kernel
theorem dX11_bit_9 : decode cX11_bit 9 = .ok (.bipush 15, 2) := by decide +kernel
theorem dX11_bit_11 : decode cX11_bit 11 = .ok (.iand, 1) := by decide +kernel
theorem dX11_bit_12 : decode cX11_bit 12 = .ok (.ishr, 1) := by decide +kernel
theorem dX11_bit_13 : decode cX11_bit 13 = .ok (.iconst 1, 1) := by decide +kernel
theorem dX11_bit_14 : decode cX11_bit 14 = .ok (.iand, 1) := by decide +kernel
theorem dX11_bit_15 : decode cX11_bit 15 = .ok (.iconst 1, 1) := by decide +kernel
theorem dX11_bit_16 : decode cX11_bit 16 = .ok (.if_icmp .ne 7, 3) := by decide +kernel
theorem dX11_bit_19 : decode cX11_bit 19 = .ok (.iconst 1, 1) := by decide +kernel
theorem dX11_bit_20 : decode cX11_bit 20 = .ok (.goto 4, 3) := by decide +kernel
theorem dX11_bit_23 : decode cX11_bit 23 = .ok (.iconst 0, 1) := by decide +kernel
theorem dX11_bit_24 : decode cX11_bit 24 = .ok (.ireturn, 1) := by decide +kernel
theorem dX11_halved_0 : decode cX11_halved 0 = .ok (.iload_n 3, 1) := by decide +kernel
theorem dX11_halved_1 : decode cX11_halved 1 = .ok (.iconst 4, 1) := by decide +kernel
theorem dX11_halved_2 : decode cX11_halved 2 = .ok (.ishr, 1) := by decide +kernel
theorem dX11_halved_3 : decode cX11_halved 3 = .ok (.istore 4, 2) := by decide +kernel
theorem dX11_halved_5 : decode cX11_halved 5 = .ok (.iload_n 3, 1) := by decide +kernel
theorem dX11_halved_6 : decode cX11_halved 6 = .ok (.bipush 15, 2) := by decide +kernel
theorem dX11_halved_8 : decode cX11_halved 8 = .ok (.iand, 1) := by decide +kernel
theorem dX11_halved_9 : decode cX11_halved 9 = .ok (.istore 5, 2) := by decide +kernel
theorem dX11_halved_11 : decode cX11_halved 11 = .ok (.aload_n 0, 1) := by decide +kernel
theorem dX11_halved_12 : decode cX11_halved 12 = .ok (.getfield 13, 3) := by decide +kernel
theorem dX11_halved_15 : decode cX11_halved 15 = .ok (.iload_n 2, 1) := by decide +kernel
theorem dX11_halved_16 : decode cX11_halved 16 = .ok (.iaload, 1) := by decide +kernel
theorem dX11_halved_17 : decode cX11_halved 17 = .ok (.istore 6, 2) := by decide +kernel
theorem dX11_halved_19 : decode cX11_halved 19 = .ok (.iconst 0, 1) := by decide +kernel
theorem dX11_halved_20 : decode cX11_halved 20 = .ok (.istore 7, 2) := by decide +kernel
theorem dX11_halved_22 : decode cX11_halved 22 = .ok (.iload 7, 2) := by decide +kernel
theorem dX11_halved_24 : decode cX11_halved 24 = .ok (.iload 4, 2) := by decide +kernel
theorem dX11_halved_26 : decode cX11_halved 26 = .ok (.iadd, 1) := by decide +kernel
theorem dX11_halved_27 : decode cX11_halved 27 = .ok (.iload 6, 2) := by decide +kernel
theorem dX11_halved_29 : decode cX11_halved 29 = .ok (.if_icmp .ge 54, 3) := by decide +kernel
theorem dX11_halved_32 : decode cX11_halved 32 = .ok (.aload_n 0, 1) := by decide +kernel
theorem dX11_halved_33 : decode cX11_halved 33 = .ok (.getfield 7, 3) := by decide +kernel
theorem dX11_halved_36 : decode cX11_halved 36 = .ok (.sipush 260, 3) := by decide +kernel
theorem dX11_halved_39 : decode cX11_halved 39 = .ok (.iload_n 1, 1) := by decide +kernel
theorem dX11_halved_40 : decode cX11_halved 40 = .ok (.imul, 1) := by decide +kernel
theorem dX11_halved_41 : decode cX11_halved 41 = .ok (.iload 7, 2) := by decide +kernel
theorem dX11_halved_43 : decode cX11_halved 43 = .ok (.iadd, 1) := by decide +kernel
theorem dX11_halved_44 : decode cX11_halved 44 = .ok (.aload_n 0, 1) := by decide +kernel
theorem dX11_halved_45 : decode cX11_halved 45 = .ok (.iload_n 2, 1) := by decide +kernel
theorem dX11_halved_46 : decode cX11_halved 46 = .ok (.iload 7, 2) := by decide +kernel
theorem dX11_halved_48 : decode cX11_halved 48 = .ok (.iload 4, 2) := by decide +kernel
theorem dX11_halved_50 : decode cX11_halved 50 = .ok (.iadd, 1) := by decide +kernel
theorem dX11_halved_51 : decode cX11_halved 51 = .ok (.invokevirtual 36, 3) := by decide +kernel
theorem dX11_halved_54 : decode cX11_halved 54 = .ok (.aload_n 0, 1) := by decide +kernel
theorem dX11_halved_55 : decode cX11_halved 55 = .ok (.iload_n 2, 1) := by decide +kernel
theorem dX11_halved_56 : decode cX11_halved 56 = .ok (.iload 7, 2) := by decide +kernel
theorem dX11_halved_58 : decode cX11_halved 58 = .ok (.iload 4, 2) := by decide +kernel
theorem dX11_halved_60 : decode cX11_halved 60 = .ok (.iadd, 1) := by decide +kernel
theorem dX11_halved_61 : decode cX11_halved 61 = .ok (.iconst 1, 1) := by decide +kernel
theorem dX11_halved_62 : decode cX11_halved 62 = .ok (.iadd, 1) := by decide +kernel
theorem dX11_halved_63 : decode cX11_halved 63 = .ok (.invokevirtual 36, 3) := by decide +kernel
theorem dX11_halved_66 : decode cX11_halved 66 = .ok (.bipush 16, 2) := by decide +kernel
theorem dX11_halved_68 : decode cX11_halved 68 = .ok (.ishl, 1) := by decide +kernel
theorem dX11_halved_69 : decode cX11_halved 69 = .ok (.ior, 1) := by decide +kernel
theorem dX11_halved_70 : decode cX11_halved 70 = .ok (.iload 5, 2) := by decide +kernel
theorem dX11_halved_72 : decode cX11_halved 72 = .ok (.ishr, 1) := by decide +kernel
theorem dX11_halved_73 : decode cX11_halved 73 = .ok (.ldc 40, 2) := by decide +kernel
theorem dX11_halved_75 : decode cX11_halved 75 = .ok (.iand, 1) := by decide +kernel
theorem dX11_halved_76 : decode cX11_halved 76 = .ok (.iastore, 1) := by decide +kernel
theorem dX11_halved_77 : decode cX11_halved 77 = .ok (.iinc 7 1, 3) := by decide +kernel
theorem dX11_halved_80 : decode cX11_halved 80 = .ok (.goto (-58), 3) := by decide +kernel
theorem dX11_halved_83 : decode cX11_halved 83 = .ok (.aload_n 0, 1) := by decide +kernel
theorem dX11_halved_84 : decode cX11_halved 84 = .ok (.iload_n 1, 1) := by decide +kernel
theorem dX11_halved_85 : decode cX11_halved 85 = .ok (.iload 6, 2) := by decide +kernel
theorem dX11_halved_87 : decode cX11_halved 87 = .ok (.iload 4, 2) := by decide +kernel
theorem dX11_halved_89 : decode cX11_halved 89 = .ok (.if_icmp .le 11, 3) := by decide +kernel
theorem dX11_halved_92 : decode cX11_halved 92 = .ok (.iload 6, 2) := by decide +kernel
theorem dX11_halved_94 : decode cX11_halved 94 = .ok (.iload 4, 2) := by decide +kernel
theorem dX11_halved_96 : decode cX11_halved 96 = .ok (.isub, 1) := by decide +kernel
theorem dX11_halved_97 : decode cX11_halved 97 = .ok (.goto 4, 3) := by decide +kernel
theorem dX11_halved_100 : decode cX11_halved 100 = .ok (.iconst 0, 1) := by decide +kernel
theorem dX11_halved_101 : decode cX11_halved 101 = .ok (.aload_n 0, 1) := by decide +kernel
theorem dX11_halved_102 : decode cX11_halved 102 = .ok (.getfield 16, 3) := by decide +kernel
theorem dX11_halved_105 : decode cX11_halved 105 = .ok (.iload_n 2, 1) := by decide +kernel
theorem dX11_halved_106 : decode cX11_halved 106 = .ok (.iaload, 1) := by decide +kernel
theorem dX11_halved_107 : decode cX11_halved 107 = .ok (.invokevirtual 41, 3) := by decide +kernel
theorem dX11_halved_110 : decode cX11_halved 110 = .ok (.return_, 1) := by decide +kernel
theorem dX11_doubled_0 : decode cX11_doubled 0 = .ok (.iload_n 3, 1) := by decide +kernel
theorem dX11_doubled_1 : decode cX11_doubled 1 = .ok (.iconst 4, 1) := by decide +kernel
theorem dX11_doubled_2 : decode cX11_doubled 2 = .ok (.ishr, 1) := by decide +kernel
theorem dX11_doubled_3 : decode cX11_doubled 3 = .ok (.istore 4, 2) := by decide +kernel
theorem dX11_doubled_5 : decode cX11_doubled 5 = .ok (.iload_n 3, 1) := by decide +kernel
theorem dX11_doubled_6 : decode cX11_doubled 6 = .ok (.bipush 15, 2) := by decide +kernel
theorem dX11_doubled_8 : decode cX11_doubled 8 = .ok (.iand, 1) := by decide +kernel
theorem dX11_doubled_9 : decode cX11_doubled 9 = .ok (.istore 5, 2) := by decide +kernel
theorem dX11_doubled_11 : decode cX11_doubled 11 = .ok (.aload_n 0, 1) := by decide +kernel
theorem dX11_doubled_12 : decode cX11_doubled 12 = .ok (.getfield 13, 3) := by decide +kernel
theorem dX11_doubled_15 : decode cX11_doubled 15 = .ok (.iload_n 2, 1) := by decide +kernel
theorem dX11_doubled_16 : decode cX11_doubled 16 = .ok (.iaload, 1) := by decide +kernel
theorem dX11_doubled_17 : decode cX11_doubled 17 = .ok (.istore 6, 2) := by decide +kernel
theorem dX11_doubled_19 : decode cX11_doubled 19 = .ok (.aload_n 0, 1) := by decide +kernel
theorem dX11_doubled_20 : decode cX11_doubled 20 = .ok (.getfield 16, 3) := by decide +kernel
theorem dX11_doubled_23 : decode cX11_doubled 23 = .ok (.iload_n 2, 1) := by decide +kernel
theorem dX11_doubled_24 : decode cX11_doubled 24 = .ok (.iaload, 1) := by decide +kernel
theorem dX11_doubled_25 : decode cX11_doubled 25 = .ok (.istore 7, 2) := by decide +kernel
theorem dX11_doubled_27 : decode cX11_doubled 27 = .ok (.iload 6, 2) := by decide +kernel
theorem dX11_doubled_29 : decode cX11_doubled 29 = .ok (.istore 8, 2) := by decide +kernel
theorem dX11_doubled_31 : decode cX11_doubled 31 = .ok (.iload 8, 2) := by decide +kernel
theorem dX11_doubled_33 : decode cX11_doubled 33 = .ok (.ifCond .lt 69, 3) := by decide +kernel
theorem dX11_doubled_36 : decode cX11_doubled 36 = .ok (.aload_n 0, 1) := by decide +kernel
theorem dX11_doubled_37 : decode cX11_doubled 37 = .ok (.getfield 7, 3) := by decide +kernel
theorem dX11_doubled_40 : decode cX11_doubled 40 = .ok (.sipush 260, 3) := by decide +kernel
theorem dX11_doubled_43 : decode cX11_doubled 43 = .ok (.iload_n 1, 1) := by decide +kernel
theorem dX11_doubled_44 : decode cX11_doubled 44 = .ok (.imul, 1) := by decide +kernel
theorem dX11_doubled_45 : decode cX11_doubled 45 = .ok (.iload 8, 2) := by decide +kernel
theorem dX11_doubled_47 : decode cX11_doubled 47 = .ok (.iadd, 1) := by decide +kernel
theorem dX11_doubled_48 : decode cX11_doubled 48 = .ok (.iload 4, 2) := by decide +kernel
theorem dX11_doubled_50 : decode cX11_doubled 50 = .ok (.iadd, 1) := by decide +kernel
theorem dX11_doubled_51 : decode cX11_doubled 51 = .ok (.aload_n 0, 1) := by decide +kernel
theorem dX11_doubled_52 : decode cX11_doubled 52 = .ok (.iload_n 2, 1) := by decide +kernel
theorem dX11_doubled_53 : decode cX11_doubled 53 = .ok (.iload 8, 2) := by decide +kernel
theorem dX11_doubled_55 : decode cX11_doubled 55 = .ok (.invokevirtual 36, 3) := by decide +kernel
theorem dX11_doubled_58 : decode cX11_doubled 58 = .ok (.iload 5, 2) := by decide +kernel
theorem dX11_doubled_60 : decode cX11_doubled 60 = .ok (.ishl, 1) := by decide +kernel
theorem dX11_doubled_61 : decode cX11_doubled 61 = .ok (.iload 8, 2) := by decide +kernel
theorem dX11_doubled_63 : decode cX11_doubled 63 = .ok (.ifCond .le 27, 3) := by decide +kernel
theorem dX11_doubled_66 : decode cX11_doubled 66 = .ok (.aload_n 0, 1) := by decide +kernel
theorem dX11_doubled_67 : decode cX11_doubled 67 = .ok (.getfield 7, 3) := by decide +kernel
theorem dX11_doubled_70 : decode cX11_doubled 70 = .ok (.sipush 260, 3) := by decide +kernel
theorem dX11_doubled_73 : decode cX11_doubled 73 = .ok (.iload_n 2, 1) := by decide +kernel
theorem dX11_doubled_74 : decode cX11_doubled 74 = .ok (.imul, 1) := by decide +kernel
theorem dX11_doubled_75 : decode cX11_doubled 75 = .ok (.iload 8, 2) := by decide +kernel
theorem dX11_doubled_77 : decode cX11_doubled 77 = .ok (.iadd, 1) := by decide +kernel
theorem dX11_doubled_78 : decode cX11_doubled 78 = .ok (.iconst 1, 1) := by decide +kernel
theorem dX11_doubled_79 : decode cX11_doubled 79 = .ok (.isub, 1) := by decide +kernel
theorem dX11_doubled_80 : decode cX11_doubled 80 = .ok (.iaload, 1) := by decide +kernel
theorem dX11_doubled_81 : decode cX11_doubled 81 = .ok (.bipush 16, 2) := by decide +kernel
theorem dX11_doubled_83 : decode cX11_doubled 83 = .ok (.iload 5, 2) := by decide +kernel
theorem dX11_doubled_85 : decode cX11_doubled 85 = .ok (.isub, 1) := by decide +kernel
theorem dX11_doubled_86 : decode cX11_doubled 86 = .ok (.ishr, 1) := by decide +kernel
theorem dX11_doubled_87 : decode cX11_doubled 87 = .ok (.goto 4, 3) := by decide +kernel
theorem dX11_doubled_90 : decode cX11_doubled 90 = .ok (.iconst 0, 1) := by decide +kernel
theorem dX11_doubled_91 : decode cX11_doubled 91 = .ok (.ior, 1) := by decide +kernel
theorem dX11_doubled_92 : decode cX11_doubled 92 = .ok (.ldc 40, 2) := by decide +kernel
theorem dX11_doubled_94 : decode cX11_doubled 94 = .ok (.iand, 1) := by decide +kernel
theorem dX11_doubled_95 : decode cX11_doubled 95 = .ok (.iastore, 1) := by decide +kernel
theorem dX11_doubled_96 : decode cX11_doubled 96 = .ok (.iinc 8 (-1), 3) := by decide +kernel
theorem dX11_doubled_99 : decode cX11_doubled 99 = .ok (.goto (-68), 3) := by decide +kernel
theorem dX11_doubled_102 : decode cX11_doubled 102 = .ok (.iconst 0, 1) := by decide +kernel
theorem dX11_doubled_103 : decode cX11_doubled 103 = .ok (.istore 8, 2) := by decide +kernel
theorem dX11_doubled_105 : decode cX11_doubled 105 = .ok (.iload 8, 2) := by decide +kernel
theorem dX11_doubled_107 : decode cX11_doubled 107 = .ok (.iload 4, 2) := by decide +kernel
theorem dX11_doubled_109 : decode cX11_doubled 109 = .ok (.if_icmp .ge 23, 3) := by decide +kernel
theorem dX11_doubled_112 : decode cX11_doubled 112 = .ok (.aload_n 0, 1) := by decide +kernel
theorem dX11_doubled_113 : decode cX11_doubled 113 = .ok (.getfield 7, 3) := by decide +kernel
theorem dX11_doubled_116 : decode cX11_doubled 116 = .ok (.sipush 260, 3) := by decide +kernel
theorem dX11_doubled_119 : decode cX11_doubled 119 = .ok (.iload_n 1, 1) := by decide +kernel
theorem dX11_doubled_120 : decode cX11_doubled 120 = .ok (.imul, 1) := by decide +kernel
theorem dX11_doubled_121 : decode cX11_doubled 121 = .ok (.iload 8, 2) := by decide +kernel
theorem dX11_doubled_123 : decode cX11_doubled 123 = .ok (.iadd, 1) := by decide +kernel
theorem dX11_doubled_124 : decode cX11_doubled 124 = .ok (.iconst 0, 1) := by decide +kernel
theorem dX11_doubled_125 : decode cX11_doubled 125 = .ok (.iastore, 1) := by decide +kernel
theorem dX11_doubled_126 : decode cX11_doubled 126 = .ok (.iinc 8 1, 3) := by decide +kernel
theorem dX11_doubled_129 : decode cX11_doubled 129 = .ok (.goto (-24), 3) := by decide +kernel
theorem dX11_doubled_132 : decode cX11_doubled 132 = .ok (.aload_n 0, 1) := by decide +kernel
theorem dX11_doubled_133 : decode cX11_doubled 133 = .ok (.iload_n 1, 1) := by decide +kernel
theorem dX11_doubled_134 : decode cX11_doubled 134 = .ok (.iload 6, 2) := by decide +kernel
theorem dX11_doubled_136 : decode cX11_doubled 136 = .ok (.iload 4, 2) := by decide +kernel
theorem dX11_doubled_138 : decode cX11_doubled 138 = .ok (.iadd, 1) := by decide +kernel
theorem dX11_doubled_139 : decode cX11_doubled 139 = .ok (.iconst 1, 1) := by decide +kernel
theorem dX11_doubled_140 : decode cX11_doubled 140 = .ok (.iadd, 1) := by decide +kernel
theorem dX11_doubled_141 : decode cX11_doubled 141 = .ok (.iload 7, 2) := by decide +kernel
theorem dX11_doubled_143 : decode cX11_doubled 143 = .ok (.invokevirtual 41, 3) := by decide +kernel
theorem dX11_doubled_146 : decode cX11_doubled 146 = .ok (.return_, 1) := by decide +kernel
theorem dX11_no_0 : decode cX11_no 0 = .ok (.iload_n 1, 1) := by decide +kernel
theorem dX11_no_1 : decode cX11_no 1 = .ok (.ifCond .lt 11, 3) := by decide +kernel
theorem dX11_no_4 : decode cX11_no 4 = .ok (.iload_n 1, 1) := by decide +kernel
theorem dX11_no_5 : decode cX11_no 5 = .ok (.aload_n 0, 1) := by decide +kernel
theorem dX11_no_6 : decode cX11_no 6 = .ok (.getfield 26, 3) := by decide +kernel
theorem dX11_no_9 : decode cX11_no 9 = .ok (.if_icmp .lt 7, 3) := by decide +kernel
theorem dX11_no_12 : decode cX11_no 12 = .ok (.iconst 1, 1) := by decide +kernel
theorem dX11_no_13 : decode cX11_no 13 = .ok (.goto 4, 3) := by decide +kernel
theorem dX11_no_16 : decode cX11_no 16 = .ok (.iconst 0, 1) := by decide +kernel
theorem dX11_no_17 : decode cX11_no 17 = .ok (.ireturn, 1) := by decide +kernel
theorem dX11_fits_0 : decode cX11_fits 0 = .ok (.aload_n 0, 1) := by decide +kernel
theorem dX11_fits_1 : decode cX11_fits 1 = .ok (.getfield 13, 3) := by decide +kernel
theorem dX11_fits_4 : decode cX11_fits 4 = .ok (.iload_n 1, 1) := by decide +kernel
theorem dX11_fits_5 : decode cX11_fits 5 = .ok (.iaload, 1) := by decide +kernel
theorem dX11_fits_6 : decode cX11_fits 6 = .ok (.iconst 2, 1) := by decide +kernel
theorem dX11_fits_7 : decode cX11_fits 7 = .ok (.aload_n 0, 1) := by decide +kernel
theorem dX11_fits_8 : decode cX11_fits 8 = .ok (.getfield 30, 3) := by decide +kernel
theorem dX11_fits_11 : decode cX11_fits 11 = .ok (.imul, 1) := by decide +kernel
theorem dX11_fits_12 : decode cX11_fits 12 = .ok (.if_icmp .gt 7, 3) := by decide +kernel
theorem dX11_fits_15 : decode cX11_fits 15 = .ok (.iconst 1, 1) := by decide +kernel
theorem dX11_fits_16 : decode cX11_fits 16 = .ok (.goto 4, 3) := by decide +kernel
theorem dX11_fits_19 : decode cX11_fits 19 = .ok (.iconst 0, 1) := by decide +kernel
theorem dX11_fits_20 : decode cX11_fits 20 = .ok (.ireturn, 1) := by decide +kernel
theorem dX11_put_0 : decode cX11_put 0 = .ok (.aload_n 0, 1) := by decide +kernel
theorem dX11_put_1 : decode cX11_put 1 = .ok (.iload_n 2, 1) := by decide +kernel
theorem dX11_put_2 : decode cX11_put 2 = .ok (.invokevirtual 74, 3) := by decide +kernel
theorem dX11_put_5 : decode cX11_put 5 = .ok (.ifCond .ne 5, 3) := by decide +kernel
theorem dX11_put_8 : decode cX11_put 8 = .ok (.iconst 1, 1) := by decide +kernel
theorem dX11_put_9 : decode cX11_put 9 = .ok (.ireturn, 1) := by decide +kernel
theorem dX11_put_10 : decode cX11_put 10 = .ok (.aload_n 0, 1) := by decide +kernel
theorem dX11_put_11 : decode cX11_put 11 = .ok (.iload_n 1, 1) := by decide +kernel
theorem dX11_put_12 : decode cX11_put 12 = .ok (.iload_n 2, 1) := by decide +kernel
theorem dX11_put_13 : decode cX11_put 13 = .ok (.invokevirtual 45, 3) := by decide +kernel
theorem dX11_put_16 : decode cX11_put 16 = .ok (.iconst 0, 1) := by decide +kernel
theorem dX11_put_17 : decode cX11_put 17 = .ok (.ireturn, 1) := by decide +kernel
theorem dX11_pushLimb_0 : decode cX11_pushLimb 0 = .ok (.aload_n 0, 1) := by decide +kernel
theorem dX11_pushLimb_1 : decode cX11_pushLimb 1 = .ok (.iconst 0, 1) := by decide +kernel
theorem dX11_pushLimb_2 : decode cX11_pushLimb 2 = .ok (.putfield 33, 3) := by decide +kernel
theorem dX11_pushLimb_5 : decode cX11_pushLimb 5 = .ok (.aload_n 0, 1) := by decide +kernel
theorem dX11_pushLimb_6 : decode cX11_pushLimb 6 = .ok (.iload_n 1, 1) := by decide +kernel
theorem dX11_pushLimb_7 : decode cX11_pushLimb 7 = .ok (.invokevirtual 78, 3) := by decide +kernel
theorem dX11_pushLimb_10 : decode cX11_pushLimb 10 = .ok (.ifCond .eq 5, 3) := by decide +kernel
theorem dX11_pushLimb_13 : decode cX11_pushLimb 13 = .ok (.iconst 3, 1) := by decide +kernel
theorem dX11_pushLimb_14 : decode cX11_pushLimb 14 = .ok (.ireturn, 1) := by decide +kernel
theorem dX11_pushLimb_15 : decode cX11_pushLimb 15 = .ok (.aload_n 0, 1) := by decide +kernel
theorem dX11_pushLimb_16 : decode cX11_pushLimb 16 = .ok (.getfield 16, 3) := by decide +kernel
theorem dX11_pushLimb_19 : decode cX11_pushLimb 19 = .ok (.iload_n 1, 1) := by decide +kernel
theorem dX11_pushLimb_20 : decode cX11_pushLimb 20 = .ok (.iaload, 1) := by decide +kernel
theorem dX11_pushLimb_21 : decode cX11_pushLimb 21 = .ok (.istore_n 3, 1) := by decide +kernel
theorem dX11_pushLimb_22 : decode cX11_pushLimb 22 = .ok (.aload_n 0, 1) := by decide +kernel
theorem dX11_pushLimb_23 : decode cX11_pushLimb 23 = .ok (.getfield 13, 3) := by decide +kernel
theorem dX11_pushLimb_26 : decode cX11_pushLimb 26 = .ok (.iload_n 1, 1) := by decide +kernel
theorem dX11_pushLimb_27 : decode cX11_pushLimb 27 = .ok (.iaload, 1) := by decide +kernel
theorem dX11_pushLimb_28 : decode cX11_pushLimb 28 = .ok (.istore 4, 2) := by decide +kernel
theorem dX11_pushLimb_30 : decode cX11_pushLimb 30 = .ok (.iconst 0, 1) := by decide +kernel
theorem dX11_pushLimb_31 : decode cX11_pushLimb 31 = .ok (.istore 5, 2) := by decide +kernel
theorem dX11_pushLimb_33 : decode cX11_pushLimb 33 = .ok (.iload 5, 2) := by decide +kernel
theorem dX11_pushLimb_35 : decode cX11_pushLimb 35 = .ok (.iload 4, 2) := by decide +kernel
theorem dX11_pushLimb_37 : decode cX11_pushLimb 37 = .ok (.if_icmp .ge 35, 3) := by decide +kernel
theorem dX11_pushLimb_40 : decode cX11_pushLimb 40 = .ok (.aload_n 0, 1) := by decide +kernel
theorem dX11_pushLimb_41 : decode cX11_pushLimb 41 = .ok (.getfield 7, 3) := by decide +kernel
theorem dX11_pushLimb_44 : decode cX11_pushLimb 44 = .ok (.sipush 4940, 3) := by decide +kernel
theorem dX11_pushLimb_47 : decode cX11_pushLimb 47 = .ok (.iload 5, 2) := by decide +kernel
theorem dX11_pushLimb_49 : decode cX11_pushLimb 49 = .ok (.iadd, 1) := by decide +kernel
theorem dX11_pushLimb_50 : decode cX11_pushLimb 50 = .ok (.iconst 2, 1) := by decide +kernel
theorem dX11_pushLimb_51 : decode cX11_pushLimb 51 = .ok (.iadd, 1) := by decide +kernel
theorem dX11_pushLimb_52 : decode cX11_pushLimb 52 = .ok (.aload_n 0, 1) := by decide +kernel
theorem dX11_pushLimb_53 : decode cX11_pushLimb 53 = .ok (.getfield 7, 3) := by decide +kernel
theorem dX11_pushLimb_56 : decode cX11_pushLimb 56 = .ok (.sipush 260, 3) := by decide +kernel
theorem dX11_pushLimb_59 : decode cX11_pushLimb 59 = .ok (.iload_n 1, 1) := by decide +kernel
theorem dX11_pushLimb_60 : decode cX11_pushLimb 60 = .ok (.imul, 1) := by decide +kernel
theorem dX11_pushLimb_61 : decode cX11_pushLimb 61 = .ok (.iload 5, 2) := by decide +kernel
theorem dX11_pushLimb_63 : decode cX11_pushLimb 63 = .ok (.iadd, 1) := by decide +kernel
theorem dX11_pushLimb_64 : decode cX11_pushLimb 64 = .ok (.iaload, 1) := by decide +kernel
theorem dX11_pushLimb_65 : decode cX11_pushLimb 65 = .ok (.iastore, 1) := by decide +kernel
theorem dX11_pushLimb_66 : decode cX11_pushLimb 66 = .ok (.iinc 5 1, 3) := by decide +kernel
theorem dX11_pushLimb_69 : decode cX11_pushLimb 69 = .ok (.goto (-36), 3) := by decide +kernel
theorem dX11_pushLimb_72 : decode cX11_pushLimb 72 = .ok (.aload_n 0, 1) := by decide +kernel
theorem dX11_pushLimb_73 : decode cX11_pushLimb 73 = .ok (.getfield 7, 3) := by decide +kernel
theorem dX11_pushLimb_76 : decode cX11_pushLimb 76 = .ok (.sipush 4940, 3) := by decide +kernel
theorem dX11_pushLimb_79 : decode cX11_pushLimb 79 = .ok (.iload_n 2, 1) := by decide +kernel
theorem dX11_pushLimb_80 : decode cX11_pushLimb 80 = .ok (.ldc 40, 2) := by decide +kernel
theorem dX11_pushLimb_82 : decode cX11_pushLimb 82 = .ok (.iand, 1) := by decide +kernel
theorem dX11_pushLimb_83 : decode cX11_pushLimb 83 = .ok (.iastore, 1) := by decide +kernel
theorem dX11_pushLimb_84 : decode cX11_pushLimb 84 = .ok (.aload_n 0, 1) := by decide +kernel
theorem dX11_pushLimb_85 : decode cX11_pushLimb 85 = .ok (.getfield 7, 3) := by decide +kernel
theorem dX11_pushLimb_88 : decode cX11_pushLimb 88 = .ok (.sipush 4941, 3) := by decide +kernel
theorem dX11_pushLimb_91 : decode cX11_pushLimb 91 = .ok (.iload_n 2, 1) := by decide +kernel
theorem dX11_pushLimb_92 : decode cX11_pushLimb 92 = .ok (.bipush 16, 2) := by decide +kernel
theorem dX11_pushLimb_94 : decode cX11_pushLimb 94 = .ok (.iushr, 1) := by decide +kernel
theorem dX11_pushLimb_95 : decode cX11_pushLimb 95 = .ok (.iastore, 1) := by decide +kernel
theorem dX11_pushLimb_96 : decode cX11_pushLimb 96 = .ok (.aload_n 0, 1) := by decide +kernel
theorem dX11_pushLimb_97 : decode cX11_pushLimb 97 = .ok (.bipush 19, 2) := by decide +kernel
theorem dX11_pushLimb_99 : decode cX11_pushLimb 99 = .ok (.iload 4, 2) := by decide +kernel
theorem dX11_pushLimb_101 : decode cX11_pushLimb 101 = .ok (.iconst 2, 1) := by decide +kernel
theorem dX11_pushLimb_102 : decode cX11_pushLimb 102 = .ok (.iadd, 1) := by decide +kernel
theorem dX11_pushLimb_103 : decode cX11_pushLimb 103 = .ok (.iload_n 3, 1) := by decide +kernel
theorem dX11_pushLimb_104 : decode cX11_pushLimb 104 = .ok (.ifCond .ne 7, 3) := by decide +kernel
theorem dX11_pushLimb_107 : decode cX11_pushLimb 107 = .ok (.iconst 1, 1) := by decide +kernel
theorem dX11_pushLimb_108 : decode cX11_pushLimb 108 = .ok (.goto 4, 3) := by decide +kernel
theorem dX11_pushLimb_111 : decode cX11_pushLimb 111 = .ok (.iload_n 3, 1) := by decide +kernel
theorem dX11_pushLimb_112 : decode cX11_pushLimb 112 = .ok (.invokevirtual 41, 3) := by decide +kernel
theorem dX11_pushLimb_115 : decode cX11_pushLimb 115 = .ok (.aload_n 0, 1) := by decide +kernel
theorem dX11_pushLimb_116 : decode cX11_pushLimb 116 = .ok (.iload_n 1, 1) := by decide +kernel
theorem dX11_pushLimb_117 : decode cX11_pushLimb 117 = .ok (.bipush 19, 2) := by decide +kernel
theorem dX11_pushLimb_119 : decode cX11_pushLimb 119 = .ok (.invokevirtual 81, 3) := by decide +kernel
theorem dX11_pushLimb_122 : decode cX11_pushLimb 122 = .ok (.ireturn, 1) := by decide +kernel
theorem dX11_clear_0 : decode cX11_clear 0 = .ok (.aload_n 0, 1) := by decide +kernel
theorem dX11_clear_1 : decode cX11_clear 1 = .ok (.iconst 0, 1) := by decide +kernel
theorem dX11_clear_2 : decode cX11_clear 2 = .ok (.putfield 33, 3) := by decide +kernel
theorem dX11_clear_5 : decode cX11_clear 5 = .ok (.aload_n 0, 1) := by decide +kernel
theorem dX11_clear_6 : decode cX11_clear 6 = .ok (.iload_n 1, 1) := by decide +kernel
theorem dX11_clear_7 : decode cX11_clear 7 = .ok (.invokevirtual 78, 3) := by decide +kernel
theorem dX11_clear_10 : decode cX11_clear 10 = .ok (.ifCond .eq 5, 3) := by decide +kernel
theorem dX11_clear_13 : decode cX11_clear 13 = .ok (.iconst 0, 1) := by decide +kernel
theorem dX11_clear_14 : decode cX11_clear 14 = .ok (.ireturn, 1) := by decide +kernel
theorem dX11_clear_15 : decode cX11_clear 15 = .ok (.aload_n 0, 1) := by decide +kernel
theorem dX11_clear_16 : decode cX11_clear 16 = .ok (.iload_n 1, 1) := by decide +kernel
theorem dX11_clear_17 : decode cX11_clear 17 = .ok (.iconst 0, 1) := by decide +kernel
theorem dX11_clear_18 : decode cX11_clear 18 = .ok (.invokevirtual 56, 3) := by decide +kernel
theorem dX11_clear_21 : decode cX11_clear 21 = .ok (.iconst 1, 1) := by decide +kernel
theorem dX11_clear_22 : decode cX11_clear 22 = .ok (.ireturn, 1) := by decide +kernel
theorem dX11_negate_0 : decode cX11_negate 0 = .ok (.aload_n 0, 1) := by decide +kernel
theorem dX11_negate_1 : decode cX11_negate 1 = .ok (.iconst 0, 1) := by decide +kernel
theorem dX11_negate_2 : decode cX11_negate 2 = .ok (.putfield 33, 3) := by decide +kernel
theorem dX11_negate_5 : decode cX11_negate 5 = .ok (.aload_n 0, 1) := by decide +kernel
theorem dX11_negate_6 : decode cX11_negate 6 = .ok (.iload_n 1, 1) := by decide +kernel
theorem dX11_negate_7 : decode cX11_negate 7 = .ok (.invokevirtual 78, 3) := by decide +kernel
theorem dX11_negate_10 : decode cX11_negate 10 = .ok (.ifCond .ne 11, 3) := by decide +kernel
theorem dX11_negate_13 : decode cX11_negate 13 = .ok (.aload_n 0, 1) := by decide +kernel
theorem dX11_negate_14 : decode cX11_negate 14 = .ok (.iload_n 2, 1) := by decide +kernel
theorem dX11_negate_15 : decode cX11_negate 15 = .ok (.invokevirtual 78, 3) := by decide +kernel
theorem dX11_negate_18 : decode cX11_negate 18 = .ok (.ifCond .eq 5, 3) := by decide +kernel
theorem dX11_negate_21 : decode cX11_negate 21 = .ok (.iconst 3, 1) := by decide +kernel
theorem dX11_negate_22 : decode cX11_negate 22 = .ok (.ireturn, 1) := by decide +kernel
theorem dX11_negate_23 : decode cX11_negate 23 = .ok (.aload_n 0, 1) := by decide +kernel
theorem dX11_negate_24 : decode cX11_negate 24 = .ok (.iload_n 1, 1) := by decide +kernel
theorem dX11_negate_25 : decode cX11_negate 25 = .ok (.iload_n 2, 1) := by decide +kernel
theorem dX11_negate_26 : decode cX11_negate 26 = .ok (.invokevirtual 45, 3) := by decide +kernel
theorem dX11_negate_29 : decode cX11_negate 29 = .ok (.aload_n 0, 1) := by decide +kernel
theorem dX11_negate_30 : decode cX11_negate 30 = .ok (.getfield 16, 3) := by decide +kernel
theorem dX11_negate_33 : decode cX11_negate 33 = .ok (.iload_n 1, 1) := by decide +kernel
theorem dX11_negate_34 : decode cX11_negate 34 = .ok (.aload_n 0, 1) := by decide +kernel
theorem dX11_negate_35 : decode cX11_negate 35 = .ok (.getfield 16, 3) := by decide +kernel
theorem dX11_negate_38 : decode cX11_negate 38 = .ok (.iload_n 1, 1) := by decide +kernel
theorem dX11_negate_39 : decode cX11_negate 39 = .ok (.iaload, 1) := by decide +kernel
theorem dX11_negate_40 : decode cX11_negate 40 = .ok (.ineg, 1) := by decide +kernel
theorem dX11_negate_41 : decode cX11_negate 41 = .ok (.iastore, 1) := by decide +kernel
theorem dX11_negate_42 : decode cX11_negate 42 = .ok (.iconst 0, 1) := by decide +kernel
theorem dX11_negate_43 : decode cX11_negate 43 = .ok (.ireturn, 1) := by decide +kernel
theorem dX11_add_0 : decode cX11_add 0 = .ok (.aload_n 0, 1) := by decide +kernel
theorem dX11_add_1 : decode cX11_add 1 = .ok (.iconst 0, 1) := by decide +kernel
theorem dX11_add_2 : decode cX11_add 2 = .ok (.putfield 33, 3) := by decide +kernel
theorem dX11_add_5 : decode cX11_add 5 = .ok (.aload_n 0, 1) := by decide +kernel
theorem dX11_add_6 : decode cX11_add 6 = .ok (.iload_n 1, 1) := by decide +kernel
theorem dX11_add_7 : decode cX11_add 7 = .ok (.invokevirtual 78, 3) := by decide +kernel
theorem dX11_add_10 : decode cX11_add 10 = .ok (.ifCond .ne 19, 3) := by decide +kernel
theorem dX11_add_13 : decode cX11_add 13 = .ok (.aload_n 0, 1) := by decide +kernel
theorem dX11_add_14 : decode cX11_add 14 = .ok (.iload_n 2, 1) := by decide +kernel
theorem dX11_add_15 : decode cX11_add 15 = .ok (.invokevirtual 78, 3) := by decide +kernel
theorem dX11_add_18 : decode cX11_add 18 = .ok (.ifCond .ne 11, 3) := by decide +kernel
theorem dX11_add_21 : decode cX11_add 21 = .ok (.aload_n 0, 1) := by decide +kernel
theorem dX11_add_22 : decode cX11_add 22 = .ok (.iload_n 3, 1) := by decide +kernel
theorem dX11_add_23 : decode cX11_add 23 = .ok (.invokevirtual 78, 3) := by decide +kernel
theorem dX11_add_26 : decode cX11_add 26 = .ok (.ifCond .eq 5, 3) := by decide +kernel
theorem dX11_add_29 : decode cX11_add 29 = .ok (.iconst 3, 1) := by decide +kernel
theorem dX11_add_30 : decode cX11_add 30 = .ok (.ireturn, 1) := by decide +kernel
theorem dX11_add_31 : decode cX11_add 31 = .ok (.aload_n 0, 1) := by decide +kernel
theorem dX11_add_32 : decode cX11_add 32 = .ok (.bipush 19, 2) := by decide +kernel
theorem dX11_add_34 : decode cX11_add 34 = .ok (.iload_n 2, 1) := by decide +kernel
theorem dX11_add_35 : decode cX11_add 35 = .ok (.iload_n 3, 1) := by decide +kernel
theorem dX11_add_36 : decode cX11_add 36 = .ok (.iconst 1, 1) := by decide +kernel
theorem dX11_add_37 : decode cX11_add 37 = .ok (.invokevirtual 71, 3) := by decide +kernel
theorem dX11_add_40 : decode cX11_add 40 = .ok (.aload_n 0, 1) := by decide +kernel
theorem dX11_add_41 : decode cX11_add 41 = .ok (.iload_n 1, 1) := by decide +kernel
theorem dX11_add_42 : decode cX11_add 42 = .ok (.bipush 19, 2) := by decide +kernel
theorem dX11_add_44 : decode cX11_add 44 = .ok (.invokevirtual 81, 3) := by decide +kernel
theorem dX11_add_47 : decode cX11_add 47 = .ok (.ireturn, 1) := by decide +kernel
theorem dX11_subtract_0 : decode cX11_subtract 0 = .ok (.aload_n 0, 1) := by decide +kernel
theorem dX11_subtract_1 : decode cX11_subtract 1 = .ok (.iconst 0, 1) := by decide +kernel
theorem dX11_subtract_2 : decode cX11_subtract 2 = .ok (.putfield 33, 3) := by decide +kernel
theorem dX11_subtract_5 : decode cX11_subtract 5 = .ok (.aload_n 0, 1) := by decide +kernel
theorem dX11_subtract_6 : decode cX11_subtract 6 = .ok (.iload_n 1, 1) := by decide +kernel
theorem dX11_subtract_7 : decode cX11_subtract 7 = .ok (.invokevirtual 78, 3) := by decide +kernel
theorem dX11_subtract_10 : decode cX11_subtract 10 = .ok (.ifCond .ne 19, 3) := by decide +kernel
theorem dX11_subtract_13 : decode cX11_subtract 13 = .ok (.aload_n 0, 1) := by decide +kernel
theorem dX11_subtract_14 : decode cX11_subtract 14 = .ok (.iload_n 2, 1) := by decide +kernel
theorem dX11_subtract_15 : decode cX11_subtract 15 = .ok (.invokevirtual 78, 3) := by decide +kernel
theorem dX11_subtract_18 : decode cX11_subtract 18 = .ok (.ifCond .ne 11, 3) := by decide +kernel
theorem dX11_subtract_21 : decode cX11_subtract 21 = .ok (.aload_n 0, 1) := by decide +kernel
theorem dX11_subtract_22 : decode cX11_subtract 22 = .ok (.iload_n 3, 1) := by decide +kernel
theorem dX11_subtract_23 : decode cX11_subtract 23 = .ok (.invokevirtual 78, 3) := by decide +kernel
theorem dX11_subtract_26 : decode cX11_subtract 26 = .ok (.ifCond .eq 5, 3) := by decide +kernel
theorem dX11_subtract_29 : decode cX11_subtract 29 = .ok (.iconst 3, 1) := by decide +kernel
theorem dX11_subtract_30 : decode cX11_subtract 30 = .ok (.ireturn, 1) := by decide +kernel
theorem dX11_subtract_31 : decode cX11_subtract 31 = .ok (.aload_n 0, 1) := by decide +kernel
theorem dX11_subtract_32 : decode cX11_subtract 32 = .ok (.bipush 19, 2) := by decide +kernel
theorem dX11_subtract_34 : decode cX11_subtract 34 = .ok (.iload_n 2, 1) := by decide +kernel
theorem dX11_subtract_35 : decode cX11_subtract 35 = .ok (.iload_n 3, 1) := by decide +kernel
theorem dX11_subtract_36 : decode cX11_subtract 36 = .ok (.iconst (-1), 1) := by decide +kernel
theorem dX11_subtract_37 : decode cX11_subtract 37 = .ok (.invokevirtual 71, 3) := by decide +kernel
theorem dX11_subtract_40 : decode cX11_subtract 40 = .ok (.aload_n 0, 1) := by decide +kernel
theorem dX11_subtract_41 : decode cX11_subtract 41 = .ok (.iload_n 1, 1) := by decide +kernel
theorem dX11_subtract_42 : decode cX11_subtract 42 = .ok (.bipush 19, 2) := by decide +kernel
theorem dX11_subtract_44 : decode cX11_subtract 44 = .ok (.invokevirtual 81, 3) := by decide +kernel
theorem dX11_subtract_47 : decode cX11_subtract 47 = .ok (.ireturn, 1) := by decide +kernel
theorem dX11_multiply_0 : decode cX11_multiply 0 = .ok (.aload_n 0, 1) := by decide +kernel
theorem dX11_multiply_1 : decode cX11_multiply 1 = .ok (.iconst 0, 1) := by decide +kernel
theorem dX11_multiply_2 : decode cX11_multiply 2 = .ok (.putfield 33, 3) := by decide +kernel
theorem dX11_multiply_5 : decode cX11_multiply 5 = .ok (.aload_n 0, 1) := by decide +kernel
theorem dX11_multiply_6 : decode cX11_multiply 6 = .ok (.iload_n 1, 1) := by decide +kernel
theorem dX11_multiply_7 : decode cX11_multiply 7 = .ok (.invokevirtual 78, 3) := by decide +kernel
theorem dX11_multiply_10 : decode cX11_multiply 10 = .ok (.ifCond .ne 19, 3) := by decide +kernel
theorem dX11_multiply_13 : decode cX11_multiply 13 = .ok (.aload_n 0, 1) := by decide +kernel
theorem dX11_multiply_14 : decode cX11_multiply 14 = .ok (.iload_n 2, 1) := by decide +kernel
theorem dX11_multiply_15 : decode cX11_multiply 15 = .ok (.invokevirtual 78, 3) := by decide +kernel
theorem dX11_multiply_18 : decode cX11_multiply 18 = .ok (.ifCond .ne 11, 3) := by decide +kernel
theorem dX11_multiply_21 : decode cX11_multiply 21 = .ok (.aload_n 0, 1) := by decide +kernel
theorem dX11_multiply_22 : decode cX11_multiply 22 = .ok (.iload_n 3, 1) := by decide +kernel
theorem dX11_multiply_23 : decode cX11_multiply 23 = .ok (.invokevirtual 78, 3) := by decide +kernel
theorem dX11_multiply_26 : decode cX11_multiply 26 = .ok (.ifCond .eq 5, 3) := by decide +kernel
theorem dX11_multiply_29 : decode cX11_multiply 29 = .ok (.iconst 3, 1) := by decide +kernel
theorem dX11_multiply_30 : decode cX11_multiply 30 = .ok (.ireturn, 1) := by decide +kernel
theorem dX11_multiply_31 : decode cX11_multiply 31 = .ok (.aload_n 0, 1) := by decide +kernel
theorem dX11_multiply_32 : decode cX11_multiply 32 = .ok (.bipush 19, 2) := by decide +kernel
theorem dX11_multiply_34 : decode cX11_multiply 34 = .ok (.iload_n 2, 1) := by decide +kernel
theorem dX11_multiply_35 : decode cX11_multiply 35 = .ok (.iload_n 3, 1) := by decide +kernel
theorem dX11_multiply_36 : decode cX11_multiply 36 = .ok (.invokevirtual 84, 3) := by decide +kernel
theorem dX11_multiply_39 : decode cX11_multiply 39 = .ok (.aload_n 0, 1) := by decide +kernel
theorem dX11_multiply_40 : decode cX11_multiply 40 = .ok (.iload_n 1, 1) := by decide +kernel
theorem dX11_multiply_41 : decode cX11_multiply 41 = .ok (.bipush 19, 2) := by decide +kernel
theorem dX11_multiply_43 : decode cX11_multiply 43 = .ok (.invokevirtual 81, 3) := by decide +kernel
theorem dX11_multiply_46 : decode cX11_multiply 46 = .ok (.ireturn, 1) := by decide +kernel
theorem dX11_divide_0 : decode cX11_divide 0 = .ok (.aload_n 0, 1) := by decide +kernel
theorem dX11_divide_1 : decode cX11_divide 1 = .ok (.iconst 0, 1) := by decide +kernel
theorem dX11_divide_2 : decode cX11_divide 2 = .ok (.putfield 33, 3) := by decide +kernel
theorem dX11_divide_5 : decode cX11_divide 5 = .ok (.aload_n 0, 1) := by decide +kernel
theorem dX11_divide_6 : decode cX11_divide 6 = .ok (.iload_n 1, 1) := by decide +kernel
theorem dX11_divide_7 : decode cX11_divide 7 = .ok (.invokevirtual 78, 3) := by decide +kernel
theorem dX11_divide_10 : decode cX11_divide 10 = .ok (.ifCond .ne 33, 3) := by decide +kernel
theorem dX11_divide_13 : decode cX11_divide 13 = .ok (.aload_n 0, 1) := by decide +kernel
theorem dX11_divide_14 : decode cX11_divide 14 = .ok (.iload_n 2, 1) := by decide +kernel
theorem dX11_divide_15 : decode cX11_divide 15 = .ok (.invokevirtual 78, 3) := by decide +kernel
theorem dX11_divide_18 : decode cX11_divide 18 = .ok (.ifCond .ne 25, 3) := by decide +kernel
theorem dX11_divide_21 : decode cX11_divide 21 = .ok (.aload_n 0, 1) := by decide +kernel
theorem dX11_divide_22 : decode cX11_divide 22 = .ok (.iload_n 3, 1) := by decide +kernel
theorem dX11_divide_23 : decode cX11_divide 23 = .ok (.invokevirtual 78, 3) := by decide +kernel
theorem dX11_divide_26 : decode cX11_divide 26 = .ok (.ifCond .ne 17, 3) := by decide +kernel
theorem dX11_divide_29 : decode cX11_divide 29 = .ok (.aload_n 0, 1) := by decide +kernel
theorem dX11_divide_30 : decode cX11_divide 30 = .ok (.iload 4, 2) := by decide +kernel
theorem dX11_divide_32 : decode cX11_divide 32 = .ok (.invokevirtual 78, 3) := by decide +kernel
theorem dX11_divide_35 : decode cX11_divide 35 = .ok (.ifCond .ne 8, 3) := by decide +kernel
theorem dX11_divide_38 : decode cX11_divide 38 = .ok (.iload_n 1, 1) := by decide +kernel
theorem dX11_divide_39 : decode cX11_divide 39 = .ok (.iload_n 2, 1) := by decide +kernel
theorem dX11_divide_40 : decode cX11_divide 40 = .ok (.if_icmp .ne 5, 3) := by decide +kernel
theorem dX11_divide_43 : decode cX11_divide 43 = .ok (.iconst 3, 1) := by decide +kernel
theorem dX11_divide_44 : decode cX11_divide 44 = .ok (.ireturn, 1) := by decide +kernel
theorem dX11_divide_45 : decode cX11_divide 45 = .ok (.aload_n 0, 1) := by decide +kernel
theorem dX11_divide_46 : decode cX11_divide 46 = .ok (.getfield 16, 3) := by decide +kernel
theorem dX11_divide_49 : decode cX11_divide 49 = .ok (.iload 4, 2) := by decide +kernel
theorem dX11_divide_51 : decode cX11_divide 51 = .ok (.iaload, 1) := by decide +kernel
theorem dX11_divide_52 : decode cX11_divide 52 = .ok (.ifCond .ne 5, 3) := by decide +kernel
theorem dX11_divide_55 : decode cX11_divide 55 = .ok (.iconst 2, 1) := by decide +kernel
theorem dX11_divide_56 : decode cX11_divide 56 = .ok (.ireturn, 1) := by decide +kernel
theorem dX11_divide_57 : decode cX11_divide 57 = .ok (.aload_n 0, 1) := by decide +kernel
theorem dX11_divide_58 : decode cX11_divide 58 = .ok (.bipush 17, 2) := by decide +kernel
theorem dX11_divide_60 : decode cX11_divide 60 = .ok (.bipush 18, 2) := by decide +kernel
theorem dX11_divide_62 : decode cX11_divide 62 = .ok (.iload_n 3, 1) := by decide +kernel
theorem dX11_divide_63 : decode cX11_divide 63 = .ok (.iload 4, 2) := by decide +kernel
theorem dX11_divide_65 : decode cX11_divide 65 = .ok (.invokevirtual 87, 3) := by decide +kernel
theorem dX11_divide_68 : decode cX11_divide 68 = .ok (.aload_n 0, 1) := by decide +kernel
theorem dX11_divide_69 : decode cX11_divide 69 = .ok (.bipush 17, 2) := by decide +kernel
theorem dX11_divide_71 : decode cX11_divide 71 = .ok (.invokevirtual 74, 3) := by decide +kernel
theorem dX11_divide_74 : decode cX11_divide 74 = .ok (.ifCond .ne 5, 3) := by decide +kernel
theorem dX11_divide_77 : decode cX11_divide 77 = .ok (.iconst 1, 1) := by decide +kernel
theorem dX11_divide_78 : decode cX11_divide 78 = .ok (.ireturn, 1) := by decide +kernel
theorem dX11_divide_79 : decode cX11_divide 79 = .ok (.aload_n 0, 1) := by decide +kernel
theorem dX11_divide_80 : decode cX11_divide 80 = .ok (.iload_n 1, 1) := by decide +kernel
theorem dX11_divide_81 : decode cX11_divide 81 = .ok (.bipush 17, 2) := by decide +kernel
theorem dX11_divide_83 : decode cX11_divide 83 = .ok (.invokevirtual 45, 3) := by decide +kernel
theorem dX11_divide_86 : decode cX11_divide 86 = .ok (.aload_n 0, 1) := by decide +kernel
theorem dX11_divide_87 : decode cX11_divide 87 = .ok (.iload_n 2, 1) := by decide +kernel
theorem dX11_divide_88 : decode cX11_divide 88 = .ok (.bipush 18, 2) := by decide +kernel
theorem dX11_divide_90 : decode cX11_divide 90 = .ok (.invokevirtual 45, 3) := by decide +kernel
theorem dX11_divide_93 : decode cX11_divide 93 = .ok (.iconst 0, 1) := by decide +kernel
theorem dX11_divide_94 : decode cX11_divide 94 = .ok (.ireturn, 1) := by decide +kernel
theorem dX11_shift_0 : decode cX11_shift 0 = .ok (.aload_n 0, 1) := by decide +kernel
theorem dX11_shift_1 : decode cX11_shift 1 = .ok (.iconst 0, 1) := by decide +kernel
theorem dX11_shift_2 : decode cX11_shift 2 = .ok (.putfield 33, 3) := by decide +kernel
theorem dX11_shift_5 : decode cX11_shift 5 = .ok (.aload_n 0, 1) := by decide +kernel
theorem dX11_shift_6 : decode cX11_shift 6 = .ok (.iload_n 1, 1) := by decide +kernel
theorem dX11_shift_7 : decode cX11_shift 7 = .ok (.invokevirtual 78, 3) := by decide +kernel
theorem dX11_shift_10 : decode cX11_shift 10 = .ok (.ifCond .ne 11, 3) := by decide +kernel
theorem dX11_shift_13 : decode cX11_shift 13 = .ok (.aload_n 0, 1) := by decide +kernel
theorem dX11_shift_14 : decode cX11_shift 14 = .ok (.iload_n 2, 1) := by decide +kernel
theorem dX11_shift_15 : decode cX11_shift 15 = .ok (.invokevirtual 78, 3) := by decide +kernel
theorem dX11_shift_18 : decode cX11_shift 18 = .ok (.ifCond .eq 5, 3) := by decide +kernel
theorem dX11_shift_21 : decode cX11_shift 21 = .ok (.iconst 3, 1) := by decide +kernel
theorem dX11_shift_22 : decode cX11_shift 22 = .ok (.ireturn, 1) := by decide +kernel
theorem dX11_shift_23 : decode cX11_shift 23 = .ok (.aload_n 0, 1) := by decide +kernel
theorem dX11_shift_24 : decode cX11_shift 24 = .ok (.getfield 16, 3) := by decide +kernel
theorem dX11_shift_27 : decode cX11_shift 27 = .ok (.iload_n 2, 1) := by decide +kernel
theorem dX11_shift_28 : decode cX11_shift 28 = .ok (.iaload, 1) := by decide +kernel
theorem dX11_shift_29 : decode cX11_shift 29 = .ok (.ifCond .ne 11, 3) := by decide +kernel
theorem dX11_shift_32 : decode cX11_shift 32 = .ok (.aload_n 0, 1) := by decide +kernel
theorem dX11_shift_33 : decode cX11_shift 33 = .ok (.iload_n 1, 1) := by decide +kernel
theorem dX11_shift_34 : decode cX11_shift 34 = .ok (.iconst 0, 1) := by decide +kernel
theorem dX11_shift_35 : decode cX11_shift 35 = .ok (.invokevirtual 56, 3) := by decide +kernel
theorem dX11_shift_38 : decode cX11_shift 38 = .ok (.iconst 0, 1) := by decide +kernel
theorem dX11_shift_39 : decode cX11_shift 39 = .ok (.ireturn, 1) := by decide +kernel
theorem dX11_shift_40 : decode cX11_shift 40 = .ok (.iload_n 3, 1) := by decide +kernel
theorem dX11_shift_41 : decode cX11_shift 41 = .ok (.ifCond .lt 43, 3) := by decide +kernel
theorem dX11_shift_44 : decode cX11_shift 44 = .ok (.aload_n 0, 1) := by decide +kernel
theorem dX11_shift_45 : decode cX11_shift 45 = .ok (.iload_n 2, 1) := by decide +kernel
theorem dX11_shift_46 : decode cX11_shift 46 = .ok (.invokevirtual 90, 3) := by decide +kernel
theorem dX11_shift_49 : decode cX11_shift 49 = .ok (.i2l, 1) := by decide +kernel
theorem dX11_shift_50 : decode cX11_shift 50 = .ok (.iload_n 3, 1) := by decide +kernel
theorem dX11_shift_51 : decode cX11_shift 51 = .ok (.i2l, 1) := by decide +kernel
theorem dX11_shift_52 : decode cX11_shift 52 = .ok (.ladd, 1) := by decide +kernel
theorem dX11_shift_53 : decode cX11_shift 53 = .ok (.ldc2_w 94, 3) := by decide +kernel
theorem dX11_shift_56 : decode cX11_shift 56 = .ok (.aload_n 0, 1) := by decide +kernel
theorem dX11_shift_57 : decode cX11_shift 57 = .ok (.getfield 30, 3) := by decide +kernel
theorem dX11_shift_60 : decode cX11_shift 60 = .ok (.i2l, 1) := by decide +kernel
theorem dX11_shift_61 : decode cX11_shift 61 = .ok (.lmul, 1) := by decide +kernel
theorem dX11_shift_62 : decode cX11_shift 62 = .ok (.lcmp, 1) := by decide +kernel
theorem dX11_shift_63 : decode cX11_shift 63 = .ok (.ifCond .le 5, 3) := by decide +kernel
theorem dX11_shift_66 : decode cX11_shift 66 = .ok (.iconst 1, 1) := by decide +kernel
theorem dX11_shift_67 : decode cX11_shift 67 = .ok (.ireturn, 1) := by decide +kernel
theorem dX11_shift_68 : decode cX11_shift 68 = .ok (.aload_n 0, 1) := by decide +kernel
theorem dX11_shift_69 : decode cX11_shift 69 = .ok (.bipush 19, 2) := by decide +kernel
theorem dX11_shift_71 : decode cX11_shift 71 = .ok (.iload_n 2, 1) := by decide +kernel
theorem dX11_shift_72 : decode cX11_shift 72 = .ok (.iload_n 3, 1) := by decide +kernel
theorem dX11_shift_73 : decode cX11_shift 73 = .ok (.invokevirtual 96, 3) := by decide +kernel
theorem dX11_shift_76 : decode cX11_shift 76 = .ok (.aload_n 0, 1) := by decide +kernel
theorem dX11_shift_77 : decode cX11_shift 77 = .ok (.iload_n 1, 1) := by decide +kernel
theorem dX11_shift_78 : decode cX11_shift 78 = .ok (.bipush 19, 2) := by decide +kernel
theorem dX11_shift_80 : decode cX11_shift 80 = .ok (.invokevirtual 81, 3) := by decide +kernel
theorem dX11_shift_83 : decode cX11_shift 83 = .ok (.ireturn, 1) := by decide +kernel
theorem dX11_shift_84 : decode cX11_shift 84 = .ok (.aload_n 0, 1) := by decide +kernel
theorem dX11_shift_85 : decode cX11_shift 85 = .ok (.getfield 16, 3) := by decide +kernel
theorem dX11_shift_88 : decode cX11_shift 88 = .ok (.iload_n 2, 1) := by decide +kernel
theorem dX11_shift_89 : decode cX11_shift 89 = .ok (.iaload, 1) := by decide +kernel
theorem dX11_shift_90 : decode cX11_shift 90 = .ok (.istore 4, 2) := by decide +kernel
theorem dX11_shift_92 : decode cX11_shift 92 = .ok (.iload_n 3, 1) := by decide +kernel
theorem dX11_shift_93 : decode cX11_shift 93 = .ok (.ldc 99, 2) := by decide +kernel
theorem dX11_shift_95 : decode cX11_shift 95 = .ok (.if_icmp .eq 13, 3) := by decide +kernel
theorem dX11_shift_98 : decode cX11_shift 98 = .ok (.iload_n 3, 1) := by decide +kernel
theorem dX11_shift_99 : decode cX11_shift 99 = .ok (.ineg, 1) := by decide +kernel
theorem dX11_shift_100 : decode cX11_shift 100 = .ok (.aload_n 0, 1) := by decide +kernel
theorem dX11_shift_101 : decode cX11_shift 101 = .ok (.iload_n 2, 1) := by decide +kernel
theorem dX11_shift_102 : decode cX11_shift 102 = .ok (.invokevirtual 90, 3) := by decide +kernel
theorem dX11_shift_105 : decode cX11_shift 105 = .ok (.if_icmp .lt 7, 3) := by decide +kernel
theorem dX11_shift_108 : decode cX11_shift 108 = .ok (.iconst 1, 1) := by decide +kernel
theorem dX11_shift_109 : decode cX11_shift 109 = .ok (.goto 4, 3) := by decide +kernel
theorem dX11_shift_112 : decode cX11_shift 112 = .ok (.iconst 0, 1) := by decide +kernel
theorem dX11_shift_113 : decode cX11_shift 113 = .ok (.istore 5, 2) := by decide +kernel
theorem dX11_shift_115 : decode cX11_shift 115 = .ok (.iconst 0, 1) := by decide +kernel
theorem dX11_shift_116 : decode cX11_shift 116 = .ok (.istore 6, 2) := by decide +kernel
theorem dX11_shift_118 : decode cX11_shift 118 = .ok (.iload 5, 2) := by decide +kernel
theorem dX11_shift_120 : decode cX11_shift 120 = .ok (.ifCond .eq 11, 3) := by decide +kernel
theorem dX11_shift_123 : decode cX11_shift 123 = .ok (.aload_n 0, 1) := by decide +kernel
theorem dX11_shift_124 : decode cX11_shift 124 = .ok (.iload_n 2, 1) := by decide +kernel
theorem dX11_shift_125 : decode cX11_shift 125 = .ok (.invokevirtual 90, 3) := by decide +kernel
theorem dX11_shift_128 : decode cX11_shift 128 = .ok (.goto 5, 3) := by decide +kernel
theorem dX11_shift_131 : decode cX11_shift 131 = .ok (.iload_n 3, 1) := by decide +kernel
theorem dX11_shift_132 : decode cX11_shift 132 = .ok (.ineg, 1) := by decide +kernel
theorem dX11_shift_133 : decode cX11_shift 133 = .ok (.istore 7, 2) := by decide +kernel
theorem dX11_shift_135 : decode cX11_shift 135 = .ok (.iconst 0, 1) := by decide +kernel
theorem dX11_shift_136 : decode cX11_shift 136 = .ok (.istore 8, 2) := by decide +kernel
theorem dX11_shift_138 : decode cX11_shift 138 = .ok (.iload 8, 2) := by decide +kernel
theorem dX11_shift_140 : decode cX11_shift 140 = .ok (.iload 7, 2) := by decide +kernel
theorem dX11_shift_142 : decode cX11_shift 142 = .ok (.if_icmp .ge 31, 3) := by decide +kernel
theorem dX11_shift_145 : decode cX11_shift 145 = .ok (.iload 6, 2) := by decide +kernel
theorem dX11_shift_147 : decode cX11_shift 147 = .ok (.ifCond .ne 13, 3) := by decide +kernel
theorem dX11_shift_150 : decode cX11_shift 150 = .ok (.aload_n 0, 1) := by decide +kernel
theorem dX11_shift_151 : decode cX11_shift 151 = .ok (.iload_n 2, 1) := by decide +kernel
theorem dX11_shift_152 : decode cX11_shift 152 = .ok (.iload 8, 2) := by decide +kernel
theorem dX11_shift_154 : decode cX11_shift 154 = .ok (.invokevirtual 100, 3) := by decide +kernel
theorem dX11_shift_157 : decode cX11_shift 157 = .ok (.ifCond .eq 7, 3) := by decide +kernel
theorem dX11_shift_160 : decode cX11_shift 160 = .ok (.iconst 1, 1) := by decide +kernel
theorem dX11_shift_161 : decode cX11_shift 161 = .ok (.goto 4, 3) := by decide +kernel
theorem dX11_shift_164 : decode cX11_shift 164 = .ok (.iconst 0, 1) := by decide +kernel
theorem dX11_shift_165 : decode cX11_shift 165 = .ok (.istore 6, 2) := by decide +kernel
theorem dX11_shift_167 : decode cX11_shift 167 = .ok (.iinc 8 1, 3) := by decide +kernel
theorem dX11_shift_170 : decode cX11_shift 170 = .ok (.goto (-32), 3) := by decide +kernel
theorem dX11_shift_173 : decode cX11_shift 173 = .ok (.iload 5, 2) := by decide +kernel
theorem dX11_shift_175 : decode cX11_shift 175 = .ok (.ifCond .eq 13, 3) := by decide +kernel
theorem dX11_shift_178 : decode cX11_shift 178 = .ok (.aload_n 0, 1) := by decide +kernel
theorem dX11_shift_179 : decode cX11_shift 179 = .ok (.bipush 19, 2) := by decide +kernel
theorem dX11_shift_181 : decode cX11_shift 181 = .ok (.iconst 0, 1) := by decide +kernel
theorem dX11_shift_182 : decode cX11_shift 182 = .ok (.invokevirtual 56, 3) := by decide +kernel
theorem dX11_shift_185 : decode cX11_shift 185 = .ok (.goto 12, 3) := by decide +kernel
theorem dX11_shift_188 : decode cX11_shift 188 = .ok (.aload_n 0, 1) := by decide +kernel
theorem dX11_shift_189 : decode cX11_shift 189 = .ok (.bipush 19, 2) := by decide +kernel
theorem dX11_shift_191 : decode cX11_shift 191 = .ok (.iload_n 2, 1) := by decide +kernel
theorem dX11_shift_192 : decode cX11_shift 192 = .ok (.iload_n 3, 1) := by decide +kernel
theorem dX11_shift_193 : decode cX11_shift 193 = .ok (.ineg, 1) := by decide +kernel
theorem dX11_shift_194 : decode cX11_shift 194 = .ok (.invokevirtual 104, 3) := by decide +kernel
theorem dX11_shift_197 : decode cX11_shift 197 = .ok (.iload 4, 2) := by decide +kernel
theorem dX11_shift_199 : decode cX11_shift 199 = .ok (.ifCond .ge 26, 3) := by decide +kernel
theorem dX11_shift_202 : decode cX11_shift 202 = .ok (.iload 6, 2) := by decide +kernel
theorem dX11_shift_204 : decode cX11_shift 204 = .ok (.ifCond .eq 21, 3) := by decide +kernel
theorem dX11_shift_207 : decode cX11_shift 207 = .ok (.aload_n 0, 1) := by decide +kernel
theorem dX11_shift_208 : decode cX11_shift 208 = .ok (.bipush 16, 2) := by decide +kernel
theorem dX11_shift_210 : decode cX11_shift 210 = .ok (.iconst 1, 1) := by decide +kernel
theorem dX11_shift_211 : decode cX11_shift 211 = .ok (.invokevirtual 56, 3) := by decide +kernel
theorem dX11_shift_214 : decode cX11_shift 214 = .ok (.aload_n 0, 1) := by decide +kernel
theorem dX11_shift_215 : decode cX11_shift 215 = .ok (.bipush 19, 2) := by decide +kernel
theorem dX11_shift_217 : decode cX11_shift 217 = .ok (.bipush 19, 2) := by decide +kernel
theorem dX11_shift_219 : decode cX11_shift 219 = .ok (.bipush 16, 2) := by decide +kernel
theorem dX11_shift_221 : decode cX11_shift 221 = .ok (.iconst (-1), 1) := by decide +kernel
theorem dX11_shift_222 : decode cX11_shift 222 = .ok (.invokevirtual 71, 3) := by decide +kernel
theorem dX11_shift_225 : decode cX11_shift 225 = .ok (.aload_n 0, 1) := by decide +kernel
theorem dX11_shift_226 : decode cX11_shift 226 = .ok (.iload_n 1, 1) := by decide +kernel
theorem dX11_shift_227 : decode cX11_shift 227 = .ok (.bipush 19, 2) := by decide +kernel
theorem dX11_shift_229 : decode cX11_shift 229 = .ok (.invokevirtual 81, 3) := by decide +kernel
theorem dX11_shift_232 : decode cX11_shift 232 = .ok (.ireturn, 1) := by decide +kernel
theorem dX11_compare_0 : decode cX11_compare 0 = .ok (.aload_n 0, 1) := by decide +kernel
theorem dX11_compare_1 : decode cX11_compare 1 = .ok (.iconst 0, 1) := by decide +kernel
theorem dX11_compare_2 : decode cX11_compare 2 = .ok (.putfield 33, 3) := by decide +kernel
theorem dX11_compare_5 : decode cX11_compare 5 = .ok (.aload_n 0, 1) := by decide +kernel
theorem dX11_compare_6 : decode cX11_compare 6 = .ok (.iload_n 1, 1) := by decide +kernel
theorem dX11_compare_7 : decode cX11_compare 7 = .ok (.invokevirtual 78, 3) := by decide +kernel
theorem dX11_compare_10 : decode cX11_compare 10 = .ok (.ifCond .ne 11, 3) := by decide +kernel
theorem dX11_compare_13 : decode cX11_compare 13 = .ok (.aload_n 0, 1) := by decide +kernel
theorem dX11_compare_14 : decode cX11_compare 14 = .ok (.iload_n 2, 1) := by decide +kernel
theorem dX11_compare_15 : decode cX11_compare 15 = .ok (.invokevirtual 78, 3) := by decide +kernel
theorem dX11_compare_18 : decode cX11_compare 18 = .ok (.ifCond .eq 5, 3) := by decide +kernel
theorem dX11_compare_21 : decode cX11_compare 21 = .ok (.iconst 3, 1) := by decide +kernel
theorem dX11_compare_22 : decode cX11_compare 22 = .ok (.ireturn, 1) := by decide +kernel
theorem dX11_compare_23 : decode cX11_compare 23 = .ok (.aload_n 0, 1) := by decide +kernel
theorem dX11_compare_24 : decode cX11_compare 24 = .ok (.getfield 16, 3) := by decide +kernel
theorem dX11_compare_27 : decode cX11_compare 27 = .ok (.iload_n 1, 1) := by decide +kernel
theorem dX11_compare_28 : decode cX11_compare 28 = .ok (.iaload, 1) := by decide +kernel
theorem dX11_compare_29 : decode cX11_compare 29 = .ok (.aload_n 0, 1) := by decide +kernel
theorem dX11_compare_30 : decode cX11_compare 30 = .ok (.getfield 16, 3) := by decide +kernel
theorem dX11_compare_33 : decode cX11_compare 33 = .ok (.iload_n 2, 1) := by decide +kernel
theorem dX11_compare_34 : decode cX11_compare 34 = .ok (.iaload, 1) := by decide +kernel
theorem dX11_compare_35 : decode cX11_compare 35 = .ok (.if_icmp .eq 24, 3) := by decide +kernel
theorem dX11_compare_38 : decode cX11_compare 38 = .ok (.aload_n 0, 1) := by decide +kernel
theorem dX11_compare_39 : decode cX11_compare 39 = .ok (.getfield 16, 3) := by decide +kernel
theorem dX11_compare_42 : decode cX11_compare 42 = .ok (.iload_n 1, 1) := by decide +kernel
theorem dX11_compare_43 : decode cX11_compare 43 = .ok (.iaload, 1) := by decide +kernel
theorem dX11_compare_44 : decode cX11_compare 44 = .ok (.aload_n 0, 1) := by decide +kernel
theorem dX11_compare_45 : decode cX11_compare 45 = .ok (.getfield 16, 3) := by decide +kernel
theorem dX11_compare_48 : decode cX11_compare 48 = .ok (.iload_n 2, 1) := by decide +kernel
theorem dX11_compare_49 : decode cX11_compare 49 = .ok (.iaload, 1) := by decide +kernel
theorem dX11_compare_50 : decode cX11_compare 50 = .ok (.if_icmp .le 7, 3) := by decide +kernel
theorem dX11_compare_53 : decode cX11_compare 53 = .ok (.iconst 1, 1) := by decide +kernel
theorem dX11_compare_54 : decode cX11_compare 54 = .ok (.goto 4, 3) := by decide +kernel
theorem dX11_compare_57 : decode cX11_compare 57 = .ok (.iconst (-1), 1) := by decide +kernel
theorem dX11_compare_58 : decode cX11_compare 58 = .ok (.ireturn, 1) := by decide +kernel
theorem dX11_compare_59 : decode cX11_compare 59 = .ok (.aload_n 0, 1) := by decide +kernel
theorem dX11_compare_60 : decode cX11_compare 60 = .ok (.getfield 16, 3) := by decide +kernel
theorem dX11_compare_63 : decode cX11_compare 63 = .ok (.iload_n 1, 1) := by decide +kernel
theorem dX11_compare_64 : decode cX11_compare 64 = .ok (.iaload, 1) := by decide +kernel
theorem dX11_compare_65 : decode cX11_compare 65 = .ok (.aload_n 0, 1) := by decide +kernel
theorem dX11_compare_66 : decode cX11_compare 66 = .ok (.iload_n 1, 1) := by decide +kernel
theorem dX11_compare_67 : decode cX11_compare 67 = .ok (.iload_n 2, 1) := by decide +kernel
theorem dX11_compare_68 : decode cX11_compare 68 = .ok (.invokevirtual 53, 3) := by decide +kernel
theorem dX11_compare_71 : decode cX11_compare 71 = .ok (.imul, 1) := by decide +kernel
theorem dX11_compare_72 : decode cX11_compare 72 = .ok (.ireturn, 1) := by decide +kernel
theorem dX11_sized_0 : decode cX11_sized 0 = .ok (.aload_n 0, 1) := by decide +kernel
theorem dX11_sized_1 : decode cX11_sized 1 = .ok (.iload_n 1, 1) := by decide +kernel
theorem dX11_sized_2 : decode cX11_sized 2 = .ok (.iload_n 2, 1) := by decide +kernel
theorem dX11_sized_3 : decode cX11_sized 3 = .ok (.invokevirtual 45, 3) := by decide +kernel
theorem dX11_sized_6 : decode cX11_sized 6 = .ok (.aload_n 0, 1) := by decide +kernel
theorem dX11_sized_7 : decode cX11_sized 7 = .ok (.getfield 16, 3) := by decide +kernel
theorem dX11_sized_10 : decode cX11_sized 10 = .ok (.iload_n 1, 1) := by decide +kernel
theorem dX11_sized_11 : decode cX11_sized 11 = .ok (.aload_n 0, 1) := by decide +kernel
theorem dX11_sized_12 : decode cX11_sized 12 = .ok (.getfield 13, 3) := by decide +kernel
theorem dX11_sized_15 : decode cX11_sized 15 = .ok (.iload_n 1, 1) := by decide +kernel
theorem dX11_sized_16 : decode cX11_sized 16 = .ok (.iaload, 1) := by decide +kernel
theorem dX11_sized_17 : decode cX11_sized 17 = .ok (.ifCond .ne 7, 3) := by decide +kernel
theorem dX11_sized_20 : decode cX11_sized 20 = .ok (.iconst 0, 1) := by decide +kernel
theorem dX11_sized_21 : decode cX11_sized 21 = .ok (.goto 4, 3) := by decide +kernel
theorem dX11_sized_24 : decode cX11_sized 24 = .ok (.iconst 1, 1) := by decide +kernel
theorem dX11_sized_25 : decode cX11_sized 25 = .ok (.iastore, 1) := by decide +kernel
theorem dX11_sized_26 : decode cX11_sized 26 = .ok (.return_, 1) := by decide +kernel
theorem dX11_divisor_0 : decode cX11_divisor 0 = .ok (.aload_n 0, 1) := by decide +kernel
theorem dX11_divisor_1 : decode cX11_divisor 1 = .ok (.getfield 13, 3) := by decide +kernel
theorem dX11_divisor_4 : decode cX11_divisor 4 = .ok (.bipush 21, 2) := by decide +kernel
theorem dX11_divisor_6 : decode cX11_divisor 6 = .ok (.iaload, 1) := by decide +kernel
theorem dX11_divisor_7 : decode cX11_divisor 7 = .ok (.ifCond .le 34, 3) := by decide +kernel
theorem dX11_divisor_10 : decode cX11_divisor 10 = .ok (.aload_n 0, 1) := by decide +kernel
theorem dX11_divisor_11 : decode cX11_divisor 11 = .ok (.bipush 17, 2) := by decide +kernel
theorem dX11_divisor_13 : decode cX11_divisor 13 = .ok (.bipush 18, 2) := by decide +kernel
theorem dX11_divisor_15 : decode cX11_divisor 15 = .ok (.bipush 20, 2) := by decide +kernel
theorem dX11_divisor_17 : decode cX11_divisor 17 = .ok (.bipush 21, 2) := by decide +kernel
theorem dX11_divisor_19 : decode cX11_divisor 19 = .ok (.invokevirtual 68, 3) := by decide +kernel
theorem dX11_divisor_22 : decode cX11_divisor 22 = .ok (.aload_n 0, 1) := by decide +kernel
theorem dX11_divisor_23 : decode cX11_divisor 23 = .ok (.bipush 20, 2) := by decide +kernel
theorem dX11_divisor_25 : decode cX11_divisor 25 = .ok (.bipush 21, 2) := by decide +kernel
theorem dX11_divisor_27 : decode cX11_divisor 27 = .ok (.invokevirtual 45, 3) := by decide +kernel
theorem dX11_divisor_30 : decode cX11_divisor 30 = .ok (.aload_n 0, 1) := by decide +kernel
theorem dX11_divisor_31 : decode cX11_divisor 31 = .ok (.bipush 21, 2) := by decide +kernel
theorem dX11_divisor_33 : decode cX11_divisor 33 = .ok (.bipush 18, 2) := by decide +kernel
theorem dX11_divisor_35 : decode cX11_divisor 35 = .ok (.invokevirtual 45, 3) := by decide +kernel
theorem dX11_divisor_38 : decode cX11_divisor 38 = .ok (.goto (-38), 3) := by decide +kernel
theorem dX11_divisor_41 : decode cX11_divisor 41 = .ok (.return_, 1) := by decide +kernel
theorem dX11_simple_0 : decode cX11_simple 0 = .ok (.aload_n 0, 1) := by decide +kernel
theorem dX11_simple_1 : decode cX11_simple 1 = .ok (.iconst 0, 1) := by decide +kernel
theorem dX11_simple_2 : decode cX11_simple 2 = .ok (.putfield 33, 3) := by decide +kernel
theorem dX11_simple_5 : decode cX11_simple 5 = .ok (.aload_n 0, 1) := by decide +kernel
theorem dX11_simple_6 : decode cX11_simple 6 = .ok (.iload_n 1, 1) := by decide +kernel
theorem dX11_simple_7 : decode cX11_simple 7 = .ok (.invokevirtual 78, 3) := by decide +kernel
theorem dX11_simple_10 : decode cX11_simple 10 = .ok (.ifCond .ne 19, 3) := by decide +kernel
theorem dX11_simple_13 : decode cX11_simple 13 = .ok (.aload_n 0, 1) := by decide +kernel
theorem dX11_simple_14 : decode cX11_simple 14 = .ok (.iload_n 2, 1) := by decide +kernel
theorem dX11_simple_15 : decode cX11_simple 15 = .ok (.invokevirtual 78, 3) := by decide +kernel
theorem dX11_simple_18 : decode cX11_simple 18 = .ok (.ifCond .ne 11, 3) := by decide +kernel
theorem dX11_simple_21 : decode cX11_simple 21 = .ok (.aload_n 0, 1) := by decide +kernel
theorem dX11_simple_22 : decode cX11_simple 22 = .ok (.iload_n 3, 1) := by decide +kernel
theorem dX11_simple_23 : decode cX11_simple 23 = .ok (.invokevirtual 78, 3) := by decide +kernel
theorem dX11_simple_26 : decode cX11_simple 26 = .ok (.ifCond .eq 5, 3) := by decide +kernel
theorem dX11_simple_29 : decode cX11_simple 29 = .ok (.iconst 3, 1) := by decide +kernel
theorem dX11_simple_30 : decode cX11_simple 30 = .ok (.ireturn, 1) := by decide +kernel
theorem dX11_simple_31 : decode cX11_simple 31 = .ok (.aload_n 0, 1) := by decide +kernel
theorem dX11_simple_32 : decode cX11_simple 32 = .ok (.bipush 20, 2) := by decide +kernel
theorem dX11_simple_34 : decode cX11_simple 34 = .ok (.iload_n 2, 1) := by decide +kernel
theorem dX11_simple_35 : decode cX11_simple 35 = .ok (.invokevirtual 107, 3) := by decide +kernel
theorem dX11_simple_38 : decode cX11_simple 38 = .ok (.aload_n 0, 1) := by decide +kernel
theorem dX11_simple_39 : decode cX11_simple 39 = .ok (.bipush 21, 2) := by decide +kernel
theorem dX11_simple_41 : decode cX11_simple 41 = .ok (.iload_n 3, 1) := by decide +kernel
theorem dX11_simple_42 : decode cX11_simple 42 = .ok (.invokevirtual 107, 3) := by decide +kernel
theorem dX11_simple_45 : decode cX11_simple 45 = .ok (.aload_n 0, 1) := by decide +kernel
theorem dX11_simple_46 : decode cX11_simple 46 = .ok (.invokevirtual 110, 3) := by decide +kernel
theorem dX11_simple_49 : decode cX11_simple 49 = .ok (.aload_n 0, 1) := by decide +kernel
theorem dX11_simple_50 : decode cX11_simple 50 = .ok (.iload_n 1, 1) := by decide +kernel
theorem dX11_simple_51 : decode cX11_simple 51 = .ok (.bipush 20, 2) := by decide +kernel
theorem dX11_simple_53 : decode cX11_simple 53 = .ok (.invokevirtual 45, 3) := by decide +kernel
theorem dX11_simple_56 : decode cX11_simple 56 = .ok (.iconst 0, 1) := by decide +kernel
theorem dX11_simple_57 : decode cX11_simple 57 = .ok (.ireturn, 1) := by decide +kernel
theorem dX11_gcdBinary_0 : decode cX11_gcdBinary 0 = .ok (.aload_n 0, 1) := by decide +kernel
theorem dX11_gcdBinary_1 : decode cX11_gcdBinary 1 = .ok (.iload_n 1, 1) := by decide +kernel
theorem dX11_gcdBinary_2 : decode cX11_gcdBinary 2 = .ok (.iload_n 2, 1) := by decide +kernel
theorem dX11_gcdBinary_3 : decode cX11_gcdBinary 3 = .ok (.iload_n 3, 1) := by decide +kernel
theorem dX11_gcdBinary_4 : decode cX11_gcdBinary 4 = .ok (.invokevirtual 113, 3) := by decide +kernel
theorem dX11_gcdBinary_7 : decode cX11_gcdBinary 7 = .ok (.ireturn, 1) := by decide +kernel
theorem dX11_gcdEuclid_0 : decode cX11_gcdEuclid 0 = .ok (.aload_n 0, 1) := by decide +kernel
theorem dX11_gcdEuclid_1 : decode cX11_gcdEuclid 1 = .ok (.iload_n 1, 1) := by decide +kernel
theorem dX11_gcdEuclid_2 : decode cX11_gcdEuclid 2 = .ok (.iload_n 2, 1) := by decide +kernel
theorem dX11_gcdEuclid_3 : decode cX11_gcdEuclid 3 = .ok (.iload_n 3, 1) := by decide +kernel
theorem dX11_gcdEuclid_4 : decode cX11_gcdEuclid 4 = .ok (.invokevirtual 113, 3) := by decide +kernel
theorem dX11_gcdEuclid_7 : decode cX11_gcdEuclid 7 = .ok (.ireturn, 1) := by decide +kernel
theorem dX11_divided__0 : decode cX11_divided_ 0 = .ok (.lload_n 0, 1) := by decide +kernel
theorem dX11_divided__1 : decode cX11_divided_ 1 = .ok (.lload_n 2, 1) := by decide +kernel
theorem dX11_divided__2 : decode cX11_divided_ 2 = .ok (.ldiv, 1) := by decide +kernel
theorem dX11_divided__3 : decode cX11_divided_ 3 = .ok (.lstore 4, 2) := by decide +kernel
theorem dX11_divided__5 : decode cX11_divided_ 5 = .ok (.lload_n 0, 1) := by decide +kernel
theorem dX11_divided__6 : decode cX11_divided_ 6 = .ok (.lload 4, 2) := by decide +kernel
theorem dX11_divided__8 : decode cX11_divided_ 8 = .ok (.lload_n 2, 1) := by decide +kernel
theorem dX11_divided__9 : decode cX11_divided_ 9 = .ok (.lmul, 1) := by decide +kernel
theorem dX11_divided__10 : decode cX11_divided_ 10 = .ok (.lsub, 1) := by decide +kernel
theorem dX11_divided__11 : decode cX11_divided_ 11 = .ok (.lstore 6, 2) := by decide +kernel
theorem dX11_divided__13 : decode cX11_divided_ 13 = .ok (.lload 6, 2) := by decide +kernel
theorem dX11_divided__15 : decode cX11_divided_ 15 = .ok (.lconst 0, 1) := by decide +kernel
theorem dX11_divided__16 : decode cX11_divided_ 16 = .ok (.lcmp, 1) := by decide +kernel
theorem dX11_divided__17 : decode cX11_divided_ 17 = .ok (.ifCond .lt 8, 3) := by decide +kernel
theorem dX11_divided__20 : decode cX11_divided_ 20 = .ok (.lload 4, 2) := by decide +kernel
theorem dX11_divided__22 : decode cX11_divided_ 22 = .ok (.goto 20, 3) := by decide +kernel
theorem dX11_divided__25 : decode cX11_divided_ 25 = .ok (.lload_n 2, 1) := by decide +kernel
theorem dX11_divided__26 : decode cX11_divided_ 26 = .ok (.lconst 0, 1) := by decide +kernel
theorem dX11_divided__27 : decode cX11_divided_ 27 = .ok (.lcmp, 1) := by decide +kernel
theorem dX11_divided__28 : decode cX11_divided_ 28 = .ok (.ifCond .le 10, 3) := by decide +kernel
theorem dX11_divided__31 : decode cX11_divided_ 31 = .ok (.lload 4, 2) := by decide +kernel
theorem dX11_divided__33 : decode cX11_divided_ 33 = .ok (.lconst 1, 1) := by decide +kernel
theorem dX11_divided__34 : decode cX11_divided_ 34 = .ok (.lsub, 1) := by decide +kernel
theorem dX11_divided__35 : decode cX11_divided_ 35 = .ok (.goto 7, 3) := by decide +kernel
theorem dX11_divided__38 : decode cX11_divided_ 38 = .ok (.lload 4, 2) := by decide +kernel
theorem dX11_divided__40 : decode cX11_divided_ 40 = .ok (.lconst 1, 1) := by decide +kernel
theorem dX11_divided__41 : decode cX11_divided_ 41 = .ok (.ladd, 1) := by decide +kernel
theorem dX11_divided__42 : decode cX11_divided_ 42 = .ok (.lreturn, 1) := by decide +kernel
theorem dX11_high_0 : decode cX11_high 0 = .ok (.lconst 0, 1) := by decide +kernel
theorem dX11_high_1 : decode cX11_high 1 = .ok (.lstore_n 3, 1) := by decide +kernel
theorem dX11_high_2 : decode cX11_high 2 = .ok (.iload_n 2, 1) := by decide +kernel
theorem dX11_high_3 : decode cX11_high 3 = .ok (.bipush 32, 2) := by decide +kernel
theorem dX11_high_5 : decode cX11_high 5 = .ok (.iadd, 1) := by decide +kernel
theorem dX11_high_6 : decode cX11_high 6 = .ok (.istore 5, 2) := by decide +kernel
theorem dX11_high_8 : decode cX11_high 8 = .ok (.iload 5, 2) := by decide +kernel
theorem dX11_high_10 : decode cX11_high 10 = .ok (.iload_n 2, 1) := by decide +kernel
theorem dX11_high_11 : decode cX11_high 11 = .ok (.if_icmp .lt 31, 3) := by decide +kernel
theorem dX11_high_14 : decode cX11_high 14 = .ok (.ldc2_w 117, 3) := by decide +kernel
theorem dX11_high_17 : decode cX11_high 17 = .ok (.lload_n 3, 1) := by decide +kernel
theorem dX11_high_18 : decode cX11_high 18 = .ok (.lmul, 1) := by decide +kernel
theorem dX11_high_19 : decode cX11_high 19 = .ok (.aload_n 0, 1) := by decide +kernel
theorem dX11_high_20 : decode cX11_high 20 = .ok (.iload_n 1, 1) := by decide +kernel
theorem dX11_high_21 : decode cX11_high 21 = .ok (.iload 5, 2) := by decide +kernel
theorem dX11_high_23 : decode cX11_high 23 = .ok (.invokevirtual 100, 3) := by decide +kernel
theorem dX11_high_26 : decode cX11_high 26 = .ok (.ifCond .eq 7, 3) := by decide +kernel
theorem dX11_high_29 : decode cX11_high 29 = .ok (.lconst 1, 1) := by decide +kernel
theorem dX11_high_30 : decode cX11_high 30 = .ok (.goto 4, 3) := by decide +kernel
theorem dX11_high_33 : decode cX11_high 33 = .ok (.lconst 0, 1) := by decide +kernel
theorem dX11_high_34 : decode cX11_high 34 = .ok (.ladd, 1) := by decide +kernel
theorem dX11_high_35 : decode cX11_high 35 = .ok (.lstore_n 3, 1) := by decide +kernel
theorem dX11_high_36 : decode cX11_high 36 = .ok (.iinc 5 (-1), 3) := by decide +kernel
theorem dX11_high_39 : decode cX11_high 39 = .ok (.goto (-31), 3) := by decide +kernel
theorem dX11_high_42 : decode cX11_high 42 = .ok (.lload_n 3, 1) := by decide +kernel
theorem dX11_high_43 : decode cX11_high 43 = .ok (.lreturn, 1) := by decide +kernel
theorem dX11_number_0 : decode cX11_number 0 = .ok (.lload_n 2, 1) := by decide +kernel
theorem dX11_number_1 : decode cX11_number 1 = .ok (.lconst 0, 1) := by decide +kernel
theorem dX11_number_2 : decode cX11_number 2 = .ok (.lcmp, 1) := by decide +kernel
theorem dX11_number_3 : decode cX11_number 3 = .ok (.ifCond .ge 8, 3) := by decide +kernel
theorem dX11_number_6 : decode cX11_number 6 = .ok (.lload_n 2, 1) := by decide +kernel
theorem dX11_number_7 : decode cX11_number 7 = .ok (.lneg, 1) := by decide +kernel
theorem dX11_number_8 : decode cX11_number 8 = .ok (.goto 4, 3) := by decide +kernel
theorem dX11_number_11 : decode cX11_number 11 = .ok (.lload_n 2, 1) := by decide +kernel
theorem dX11_number_12 : decode cX11_number 12 = .ok (.lstore 4, 2) := by decide +kernel
theorem dX11_number_14 : decode cX11_number 14 = .ok (.iconst 0, 1) := by decide +kernel
theorem dX11_number_15 : decode cX11_number 15 = .ok (.istore 6, 2) := by decide +kernel
theorem dX11_number_17 : decode cX11_number 17 = .ok (.iload 6, 2) := by decide +kernel
theorem dX11_number_19 : decode cX11_number 19 = .ok (.iconst 4, 1) := by decide +kernel
theorem dX11_number_20 : decode cX11_number 20 = .ok (.if_icmp .ge 35, 3) := by decide +kernel
theorem dX11_number_23 : decode cX11_number 23 = .ok (.aload_n 0, 1) := by decide +kernel
theorem dX11_number_24 : decode cX11_number 24 = .ok (.getfield 7, 3) := by decide +kernel
theorem dX11_number_27 : decode cX11_number 27 = .ok (.sipush 260, 3) := by decide +kernel
theorem dX11_number_30 : decode cX11_number 30 = .ok (.iload_n 1, 1) := by decide +kernel
theorem dX11_number_31 : decode cX11_number 31 = .ok (.imul, 1) := by decide +kernel
theorem dX11_number_32 : decode cX11_number 32 = .ok (.iload 6, 2) := by decide +kernel
theorem dX11_number_34 : decode cX11_number 34 = .ok (.iadd, 1) := by decide +kernel
theorem dX11_number_35 : decode cX11_number 35 = .ok (.lload 4, 2) := by decide +kernel
theorem dX11_number_37 : decode cX11_number 37 = .ok (.bipush 16, 2) := by decide +kernel
theorem dX11_number_39 : decode cX11_number 39 = .ok (.iload 6, 2) := by decide +kernel
theorem dX11_number_41 : decode cX11_number 41 = .ok (.imul, 1) := by decide +kernel
theorem dX11_number_42 : decode cX11_number 42 = .ok (.lshr, 1) := by decide +kernel
theorem dX11_number_43 : decode cX11_number 43 = .ok (.ldc2_w 62, 3) := by decide +kernel
theorem dX11_number_46 : decode cX11_number 46 = .ok (.land, 1) := by decide +kernel
theorem dX11_number_47 : decode cX11_number 47 = .ok (.l2i, 1) := by decide +kernel
theorem dX11_number_48 : decode cX11_number 48 = .ok (.iastore, 1) := by decide +kernel
theorem dX11_number_49 : decode cX11_number 49 = .ok (.iinc 6 1, 3) := by decide +kernel
theorem dX11_number_52 : decode cX11_number 52 = .ok (.goto (-35), 3) := by decide +kernel
theorem dX11_number_55 : decode cX11_number 55 = .ok (.aload_n 0, 1) := by decide +kernel
theorem dX11_number_56 : decode cX11_number 56 = .ok (.iload_n 1, 1) := by decide +kernel
theorem dX11_number_57 : decode cX11_number 57 = .ok (.iconst 4, 1) := by decide +kernel
theorem dX11_number_58 : decode cX11_number 58 = .ok (.lload_n 2, 1) := by decide +kernel
theorem dX11_number_59 : decode cX11_number 59 = .ok (.lconst 0, 1) := by decide +kernel
theorem dX11_number_60 : decode cX11_number 60 = .ok (.lcmp, 1) := by decide +kernel
theorem dX11_number_61 : decode cX11_number 61 = .ok (.ifCond .ge 7, 3) := by decide +kernel
theorem dX11_number_64 : decode cX11_number 64 = .ok (.iconst (-1), 1) := by decide +kernel
theorem dX11_number_65 : decode cX11_number 65 = .ok (.goto 4, 3) := by decide +kernel
theorem dX11_number_68 : decode cX11_number 68 = .ok (.iconst 1, 1) := by decide +kernel
theorem dX11_number_69 : decode cX11_number 69 = .ok (.invokevirtual 41, 3) := by decide +kernel
theorem dX11_number_72 : decode cX11_number 72 = .ok (.return_, 1) := by decide +kernel
theorem dX11_mixed_0 : decode cX11_mixed 0 = .ok (.aload_n 0, 1) := by decide +kernel
theorem dX11_mixed_1 : decode cX11_mixed 1 = .ok (.bipush 22, 2) := by decide +kernel
theorem dX11_mixed_3 : decode cX11_mixed 3 = .ok (.lload_n 2, 1) := by decide +kernel
theorem dX11_mixed_4 : decode cX11_mixed 4 = .ok (.invokevirtual 119, 3) := by decide +kernel
theorem dX11_mixed_7 : decode cX11_mixed 7 = .ok (.aload_n 0, 1) := by decide +kernel
theorem dX11_mixed_8 : decode cX11_mixed 8 = .ok (.bipush 23, 2) := by decide +kernel
theorem dX11_mixed_10 : decode cX11_mixed 10 = .ok (.lload 4, 2) := by decide +kernel
theorem dX11_mixed_12 : decode cX11_mixed 12 = .ok (.invokevirtual 119, 3) := by decide +kernel
theorem dX11_mixed_15 : decode cX11_mixed 15 = .ok (.aload_n 0, 1) := by decide +kernel
theorem dX11_mixed_16 : decode cX11_mixed 16 = .ok (.bipush 25, 2) := by decide +kernel
theorem dX11_mixed_18 : decode cX11_mixed 18 = .ok (.bipush 22, 2) := by decide +kernel
theorem dX11_mixed_20 : decode cX11_mixed 20 = .ok (.bipush 20, 2) := by decide +kernel
theorem dX11_mixed_22 : decode cX11_mixed 22 = .ok (.invokevirtual 84, 3) := by decide +kernel
theorem dX11_mixed_25 : decode cX11_mixed 25 = .ok (.aload_n 0, 1) := by decide +kernel
theorem dX11_mixed_26 : decode cX11_mixed 26 = .ok (.bipush 26, 2) := by decide +kernel
theorem dX11_mixed_28 : decode cX11_mixed 28 = .ok (.bipush 23, 2) := by decide +kernel
theorem dX11_mixed_30 : decode cX11_mixed 30 = .ok (.bipush 21, 2) := by decide +kernel
theorem dX11_mixed_32 : decode cX11_mixed 32 = .ok (.invokevirtual 84, 3) := by decide +kernel
theorem dX11_mixed_35 : decode cX11_mixed 35 = .ok (.aload_n 0, 1) := by decide +kernel
theorem dX11_mixed_36 : decode cX11_mixed 36 = .ok (.iload_n 1, 1) := by decide +kernel
theorem dX11_mixed_37 : decode cX11_mixed 37 = .ok (.bipush 25, 2) := by decide +kernel
theorem dX11_mixed_39 : decode cX11_mixed 39 = .ok (.bipush 26, 2) := by decide +kernel
theorem dX11_mixed_41 : decode cX11_mixed 41 = .ok (.iconst 1, 1) := by decide +kernel
theorem dX11_mixed_42 : decode cX11_mixed 42 = .ok (.invokevirtual 71, 3) := by decide +kernel
theorem dX11_mixed_45 : decode cX11_mixed 45 = .ok (.return_, 1) := by decide +kernel
theorem dX11_step_0 : decode cX11_step 0 = .ok (.aload_n 0, 1) := by decide +kernel
theorem dX11_step_1 : decode cX11_step 1 = .ok (.bipush 17, 2) := by decide +kernel
theorem dX11_step_3 : decode cX11_step 3 = .ok (.bipush 18, 2) := by decide +kernel
theorem dX11_step_5 : decode cX11_step 5 = .ok (.bipush 20, 2) := by decide +kernel
theorem dX11_step_7 : decode cX11_step 7 = .ok (.bipush 21, 2) := by decide +kernel
theorem dX11_step_9 : decode cX11_step 9 = .ok (.invokevirtual 68, 3) := by decide +kernel
theorem dX11_step_12 : decode cX11_step 12 = .ok (.aload_n 0, 1) := by decide +kernel
theorem dX11_step_13 : decode cX11_step 13 = .ok (.bipush 20, 2) := by decide +kernel
theorem dX11_step_15 : decode cX11_step 15 = .ok (.bipush 21, 2) := by decide +kernel
theorem dX11_step_17 : decode cX11_step 17 = .ok (.invokevirtual 45, 3) := by decide +kernel
theorem dX11_step_20 : decode cX11_step 20 = .ok (.aload_n 0, 1) := by decide +kernel
theorem dX11_step_21 : decode cX11_step 21 = .ok (.bipush 21, 2) := by decide +kernel
theorem dX11_step_23 : decode cX11_step 23 = .ok (.bipush 18, 2) := by decide +kernel
theorem dX11_step_25 : decode cX11_step 25 = .ok (.invokevirtual 45, 3) := by decide +kernel
theorem dX11_step_28 : decode cX11_step 28 = .ok (.aload_n 0, 1) := by decide +kernel
theorem dX11_step_29 : decode cX11_step 29 = .ok (.dup, 1) := by decide +kernel
theorem dX11_step_30 : decode cX11_step 30 = .ok (.getfield 123, 3) := by decide +kernel
theorem dX11_step_33 : decode cX11_step 33 = .ok (.iconst 1, 1) := by decide +kernel
theorem dX11_step_34 : decode cX11_step 34 = .ok (.iadd, 1) := by decide +kernel
theorem dX11_step_35 : decode cX11_step 35 = .ok (.putfield 123, 3) := by decide +kernel
theorem dX11_step_38 : decode cX11_step 38 = .ok (.return_, 1) := by decide +kernel
theorem dX11_gcdLehmer_0 : decode cX11_gcdLehmer 0 = .ok (.aload_n 0, 1) := by decide +kernel
theorem dX11_gcdLehmer_1 : decode cX11_gcdLehmer 1 = .ok (.iconst 0, 1) := by decide +kernel
theorem dX11_gcdLehmer_2 : decode cX11_gcdLehmer 2 = .ok (.putfield 33, 3) := by decide +kernel
theorem dX11_gcdLehmer_5 : decode cX11_gcdLehmer 5 = .ok (.aload_n 0, 1) := by decide +kernel
theorem dX11_gcdLehmer_6 : decode cX11_gcdLehmer 6 = .ok (.iload_n 1, 1) := by decide +kernel
theorem dX11_gcdLehmer_7 : decode cX11_gcdLehmer 7 = .ok (.invokevirtual 78, 3) := by decide +kernel
theorem dX11_gcdLehmer_10 : decode cX11_gcdLehmer 10 = .ok (.ifCond .ne 19, 3) := by decide +kernel
theorem dX11_gcdLehmer_13 : decode cX11_gcdLehmer 13 = .ok (.aload_n 0, 1) := by decide +kernel
theorem dX11_gcdLehmer_14 : decode cX11_gcdLehmer 14 = .ok (.iload_n 2, 1) := by decide +kernel
theorem dX11_gcdLehmer_15 : decode cX11_gcdLehmer 15 = .ok (.invokevirtual 78, 3) := by decide +kernel
theorem dX11_gcdLehmer_18 : decode cX11_gcdLehmer 18 = .ok (.ifCond .ne 11, 3) := by decide +kernel
theorem dX11_gcdLehmer_21 : decode cX11_gcdLehmer 21 = .ok (.aload_n 0, 1) := by decide +kernel
theorem dX11_gcdLehmer_22 : decode cX11_gcdLehmer 22 = .ok (.iload_n 3, 1) := by decide +kernel
theorem dX11_gcdLehmer_23 : decode cX11_gcdLehmer 23 = .ok (.invokevirtual 78, 3) := by decide +kernel
theorem dX11_gcdLehmer_26 : decode cX11_gcdLehmer 26 = .ok (.ifCond .eq 5, 3) := by decide +kernel
theorem dX11_gcdLehmer_29 : decode cX11_gcdLehmer 29 = .ok (.iconst 3, 1) := by decide +kernel
theorem dX11_gcdLehmer_30 : decode cX11_gcdLehmer 30 = .ok (.ireturn, 1) := by decide +kernel
theorem dX11_gcdLehmer_31 : decode cX11_gcdLehmer 31 = .ok (.aload_n 0, 1) := by decide +kernel
theorem dX11_gcdLehmer_32 : decode cX11_gcdLehmer 32 = .ok (.iconst 0, 1) := by decide +kernel
theorem dX11_gcdLehmer_33 : decode cX11_gcdLehmer 33 = .ok (.putfield 123, 3) := by decide +kernel
theorem dX11_gcdLehmer_36 : decode cX11_gcdLehmer 36 = .ok (.aload_n 0, 1) := by decide +kernel
theorem dX11_gcdLehmer_37 : decode cX11_gcdLehmer 37 = .ok (.bipush 20, 2) := by decide +kernel
theorem dX11_gcdLehmer_39 : decode cX11_gcdLehmer 39 = .ok (.iload_n 2, 1) := by decide +kernel
theorem dX11_gcdLehmer_40 : decode cX11_gcdLehmer 40 = .ok (.invokevirtual 107, 3) := by decide +kernel
theorem dX11_gcdLehmer_43 : decode cX11_gcdLehmer 43 = .ok (.aload_n 0, 1) := by decide +kernel
theorem dX11_gcdLehmer_44 : decode cX11_gcdLehmer 44 = .ok (.bipush 21, 2) := by decide +kernel
theorem dX11_gcdLehmer_46 : decode cX11_gcdLehmer 46 = .ok (.iload_n 3, 1) := by decide +kernel
theorem dX11_gcdLehmer_47 : decode cX11_gcdLehmer 47 = .ok (.invokevirtual 107, 3) := by decide +kernel
theorem dX11_gcdLehmer_50 : decode cX11_gcdLehmer 50 = .ok (.aload_n 0, 1) := by decide +kernel
theorem dX11_gcdLehmer_51 : decode cX11_gcdLehmer 51 = .ok (.bipush 20, 2) := by decide +kernel
theorem dX11_gcdLehmer_53 : decode cX11_gcdLehmer 53 = .ok (.bipush 21, 2) := by decide +kernel
theorem dX11_gcdLehmer_55 : decode cX11_gcdLehmer 55 = .ok (.invokevirtual 53, 3) := by decide +kernel
theorem dX11_gcdLehmer_58 : decode cX11_gcdLehmer 58 = .ok (.ifCond .ge 27, 3) := by decide +kernel
theorem dX11_gcdLehmer_61 : decode cX11_gcdLehmer 61 = .ok (.aload_n 0, 1) := by decide +kernel
theorem dX11_gcdLehmer_62 : decode cX11_gcdLehmer 62 = .ok (.bipush 19, 2) := by decide +kernel
theorem dX11_gcdLehmer_64 : decode cX11_gcdLehmer 64 = .ok (.bipush 20, 2) := by decide +kernel
theorem dX11_gcdLehmer_66 : decode cX11_gcdLehmer 66 = .ok (.invokevirtual 45, 3) := by decide +kernel
theorem dX11_gcdLehmer_69 : decode cX11_gcdLehmer 69 = .ok (.aload_n 0, 1) := by decide +kernel
theorem dX11_gcdLehmer_70 : decode cX11_gcdLehmer 70 = .ok (.bipush 20, 2) := by decide +kernel
theorem dX11_gcdLehmer_72 : decode cX11_gcdLehmer 72 = .ok (.bipush 21, 2) := by decide +kernel
theorem dX11_gcdLehmer_74 : decode cX11_gcdLehmer 74 = .ok (.invokevirtual 45, 3) := by decide +kernel
theorem dX11_gcdLehmer_77 : decode cX11_gcdLehmer 77 = .ok (.aload_n 0, 1) := by decide +kernel
theorem dX11_gcdLehmer_78 : decode cX11_gcdLehmer 78 = .ok (.bipush 21, 2) := by decide +kernel
theorem dX11_gcdLehmer_80 : decode cX11_gcdLehmer 80 = .ok (.bipush 19, 2) := by decide +kernel
theorem dX11_gcdLehmer_82 : decode cX11_gcdLehmer 82 = .ok (.invokevirtual 45, 3) := by decide +kernel
theorem dX11_gcdLehmer_85 : decode cX11_gcdLehmer 85 = .ok (.aload_n 0, 1) := by decide +kernel
theorem dX11_gcdLehmer_86 : decode cX11_gcdLehmer 86 = .ok (.getfield 13, 3) := by decide +kernel
theorem dX11_gcdLehmer_89 : decode cX11_gcdLehmer 89 = .ok (.bipush 21, 2) := by decide +kernel
theorem dX11_gcdLehmer_91 : decode cX11_gcdLehmer 91 = .ok (.iaload, 1) := by decide +kernel
theorem dX11_gcdLehmer_92 : decode cX11_gcdLehmer 92 = .ok (.iconst 2, 1) := by decide +kernel
theorem dX11_gcdLehmer_93 : decode cX11_gcdLehmer 93 = .ok (.if_icmp .le 216, 3) := by decide +kernel
theorem dX11_gcdLehmer_96 : decode cX11_gcdLehmer 96 = .ok (.aload_n 0, 1) := by decide +kernel
theorem dX11_gcdLehmer_97 : decode cX11_gcdLehmer 97 = .ok (.bipush 20, 2) := by decide +kernel
theorem dX11_gcdLehmer_99 : decode cX11_gcdLehmer 99 = .ok (.invokevirtual 90, 3) := by decide +kernel
theorem dX11_gcdLehmer_102 : decode cX11_gcdLehmer 102 = .ok (.istore 4, 2) := by decide +kernel
theorem dX11_gcdLehmer_104 : decode cX11_gcdLehmer 104 = .ok (.aload_n 0, 1) := by decide +kernel
theorem dX11_gcdLehmer_105 : decode cX11_gcdLehmer 105 = .ok (.bipush 20, 2) := by decide +kernel
theorem dX11_gcdLehmer_107 : decode cX11_gcdLehmer 107 = .ok (.iload 4, 2) := by decide +kernel
theorem dX11_gcdLehmer_109 : decode cX11_gcdLehmer 109 = .ok (.bipush 32, 2) := by decide +kernel
theorem dX11_gcdLehmer_111 : decode cX11_gcdLehmer 111 = .ok (.isub, 1) := by decide +kernel
theorem dX11_gcdLehmer_112 : decode cX11_gcdLehmer 112 = .ok (.invokevirtual 126, 3) := by decide +kernel
theorem dX11_gcdLehmer_115 : decode cX11_gcdLehmer 115 = .ok (.lstore 5, 2) := by decide +kernel
theorem dX11_gcdLehmer_117 : decode cX11_gcdLehmer 117 = .ok (.aload_n 0, 1) := by decide +kernel
theorem dX11_gcdLehmer_118 : decode cX11_gcdLehmer 118 = .ok (.bipush 21, 2) := by decide +kernel
theorem dX11_gcdLehmer_120 : decode cX11_gcdLehmer 120 = .ok (.iload 4, 2) := by decide +kernel
theorem dX11_gcdLehmer_122 : decode cX11_gcdLehmer 122 = .ok (.bipush 32, 2) := by decide +kernel
theorem dX11_gcdLehmer_124 : decode cX11_gcdLehmer 124 = .ok (.isub, 1) := by decide +kernel
theorem dX11_gcdLehmer_125 : decode cX11_gcdLehmer 125 = .ok (.invokevirtual 126, 3) := by decide +kernel
theorem dX11_gcdLehmer_128 : decode cX11_gcdLehmer 128 = .ok (.lstore 7, 2) := by decide +kernel
theorem dX11_gcdLehmer_130 : decode cX11_gcdLehmer 130 = .ok (.lconst 1, 1) := by decide +kernel
theorem dX11_gcdLehmer_131 : decode cX11_gcdLehmer 131 = .ok (.lstore 9, 2) := by decide +kernel
theorem dX11_gcdLehmer_133 : decode cX11_gcdLehmer 133 = .ok (.lconst 0, 1) := by decide +kernel
theorem dX11_gcdLehmer_134 : decode cX11_gcdLehmer 134 = .ok (.lstore 11, 2) := by decide +kernel
theorem dX11_gcdLehmer_136 : decode cX11_gcdLehmer 136 = .ok (.lconst 0, 1) := by decide +kernel
theorem dX11_gcdLehmer_137 : decode cX11_gcdLehmer 137 = .ok (.lstore 13, 2) := by decide +kernel
theorem dX11_gcdLehmer_139 : decode cX11_gcdLehmer 139 = .ok (.lconst 1, 1) := by decide +kernel
theorem dX11_gcdLehmer_140 : decode cX11_gcdLehmer 140 = .ok (.lstore 15, 2) := by decide +kernel
theorem dX11_gcdLehmer_142 : decode cX11_gcdLehmer 142 = .ok (.lload 7, 2) := by decide +kernel
theorem dX11_gcdLehmer_144 : decode cX11_gcdLehmer 144 = .ok (.lload 13, 2) := by decide +kernel
theorem dX11_gcdLehmer_146 : decode cX11_gcdLehmer 146 = .ok (.ladd, 1) := by decide +kernel
theorem dX11_gcdLehmer_147 : decode cX11_gcdLehmer 147 = .ok (.lconst 0, 1) := by decide +kernel
theorem dX11_gcdLehmer_148 : decode cX11_gcdLehmer 148 = .ok (.lcmp, 1) := by decide +kernel
theorem dX11_gcdLehmer_149 : decode cX11_gcdLehmer 149 = .ok (.ifCond .eq 107, 3) := by decide +kernel
theorem dX11_gcdLehmer_152 : decode cX11_gcdLehmer 152 = .ok (.lload 7, 2) := by decide +kernel
theorem dX11_gcdLehmer_154 : decode cX11_gcdLehmer 154 = .ok (.lload 15, 2) := by decide +kernel
theorem dX11_gcdLehmer_156 : decode cX11_gcdLehmer 156 = .ok (.ladd, 1) := by decide +kernel
theorem dX11_gcdLehmer_157 : decode cX11_gcdLehmer 157 = .ok (.lconst 0, 1) := by decide +kernel
theorem dX11_gcdLehmer_158 : decode cX11_gcdLehmer 158 = .ok (.lcmp, 1) := by decide +kernel
theorem dX11_gcdLehmer_159 : decode cX11_gcdLehmer 159 = .ok (.ifCond .eq 97, 3) := by decide +kernel
theorem dX11_gcdLehmer_162 : decode cX11_gcdLehmer 162 = .ok (.lload 5, 2) := by decide +kernel
theorem dX11_gcdLehmer_164 : decode cX11_gcdLehmer 164 = .ok (.lload 9, 2) := by decide +kernel
theorem dX11_gcdLehmer_166 : decode cX11_gcdLehmer 166 = .ok (.ladd, 1) := by decide +kernel
theorem dX11_gcdLehmer_167 : decode cX11_gcdLehmer 167 = .ok (.lload 7, 2) := by decide +kernel
theorem dX11_gcdLehmer_169 : decode cX11_gcdLehmer 169 = .ok (.lload 13, 2) := by decide +kernel
theorem dX11_gcdLehmer_171 : decode cX11_gcdLehmer 171 = .ok (.ladd, 1) := by decide +kernel
theorem dX11_gcdLehmer_172 : decode cX11_gcdLehmer 172 = .ok (.invokestatic 130, 3) := by decide +kernel
theorem dX11_gcdLehmer_175 : decode cX11_gcdLehmer 175 = .ok (.lstore 17, 2) := by decide +kernel
theorem dX11_gcdLehmer_177 : decode cX11_gcdLehmer 177 = .ok (.lload 17, 2) := by decide +kernel
theorem dX11_gcdLehmer_179 : decode cX11_gcdLehmer 179 = .ok (.lload 5, 2) := by decide +kernel
theorem dX11_gcdLehmer_181 : decode cX11_gcdLehmer 181 = .ok (.lload 11, 2) := by decide +kernel
theorem dX11_gcdLehmer_183 : decode cX11_gcdLehmer 183 = .ok (.ladd, 1) := by decide +kernel
theorem dX11_gcdLehmer_184 : decode cX11_gcdLehmer 184 = .ok (.lload 7, 2) := by decide +kernel
theorem dX11_gcdLehmer_186 : decode cX11_gcdLehmer 186 = .ok (.lload 15, 2) := by decide +kernel
theorem dX11_gcdLehmer_188 : decode cX11_gcdLehmer 188 = .ok (.ladd, 1) := by decide +kernel
theorem dX11_gcdLehmer_189 : decode cX11_gcdLehmer 189 = .ok (.invokestatic 130, 3) := by decide +kernel
theorem dX11_gcdLehmer_192 : decode cX11_gcdLehmer 192 = .ok (.lcmp, 1) := by decide +kernel
theorem dX11_gcdLehmer_193 : decode cX11_gcdLehmer 193 = .ok (.ifCond .eq 6, 3) := by decide +kernel
theorem dX11_gcdLehmer_196 : decode cX11_gcdLehmer 196 = .ok (.goto 60, 3) := by decide +kernel
theorem dX11_gcdLehmer_199 : decode cX11_gcdLehmer 199 = .ok (.lload 9, 2) := by decide +kernel
theorem dX11_gcdLehmer_201 : decode cX11_gcdLehmer 201 = .ok (.lload 17, 2) := by decide +kernel
theorem dX11_gcdLehmer_203 : decode cX11_gcdLehmer 203 = .ok (.lload 13, 2) := by decide +kernel
theorem dX11_gcdLehmer_205 : decode cX11_gcdLehmer 205 = .ok (.lmul, 1) := by decide +kernel
theorem dX11_gcdLehmer_206 : decode cX11_gcdLehmer 206 = .ok (.lsub, 1) := by decide +kernel
theorem dX11_gcdLehmer_207 : decode cX11_gcdLehmer 207 = .ok (.lstore 19, 2) := by decide +kernel
theorem dX11_gcdLehmer_209 : decode cX11_gcdLehmer 209 = .ok (.lload 13, 2) := by decide +kernel
theorem dX11_gcdLehmer_211 : decode cX11_gcdLehmer 211 = .ok (.lstore 9, 2) := by decide +kernel
theorem dX11_gcdLehmer_213 : decode cX11_gcdLehmer 213 = .ok (.lload 19, 2) := by decide +kernel
theorem dX11_gcdLehmer_215 : decode cX11_gcdLehmer 215 = .ok (.lstore 13, 2) := by decide +kernel
theorem dX11_gcdLehmer_217 : decode cX11_gcdLehmer 217 = .ok (.lload 11, 2) := by decide +kernel
theorem dX11_gcdLehmer_219 : decode cX11_gcdLehmer 219 = .ok (.lload 17, 2) := by decide +kernel
theorem dX11_gcdLehmer_221 : decode cX11_gcdLehmer 221 = .ok (.lload 15, 2) := by decide +kernel
theorem dX11_gcdLehmer_223 : decode cX11_gcdLehmer 223 = .ok (.lmul, 1) := by decide +kernel
theorem dX11_gcdLehmer_224 : decode cX11_gcdLehmer 224 = .ok (.lsub, 1) := by decide +kernel
theorem dX11_gcdLehmer_225 : decode cX11_gcdLehmer 225 = .ok (.lstore 19, 2) := by decide +kernel
theorem dX11_gcdLehmer_227 : decode cX11_gcdLehmer 227 = .ok (.lload 15, 2) := by decide +kernel
theorem dX11_gcdLehmer_229 : decode cX11_gcdLehmer 229 = .ok (.lstore 11, 2) := by decide +kernel
theorem dX11_gcdLehmer_231 : decode cX11_gcdLehmer 231 = .ok (.lload 19, 2) := by decide +kernel
theorem dX11_gcdLehmer_233 : decode cX11_gcdLehmer 233 = .ok (.lstore 15, 2) := by decide +kernel
theorem dX11_gcdLehmer_235 : decode cX11_gcdLehmer 235 = .ok (.lload 5, 2) := by decide +kernel
theorem dX11_gcdLehmer_237 : decode cX11_gcdLehmer 237 = .ok (.lload 17, 2) := by decide +kernel
theorem dX11_gcdLehmer_239 : decode cX11_gcdLehmer 239 = .ok (.lload 7, 2) := by decide +kernel
theorem dX11_gcdLehmer_241 : decode cX11_gcdLehmer 241 = .ok (.lmul, 1) := by decide +kernel
theorem dX11_gcdLehmer_242 : decode cX11_gcdLehmer 242 = .ok (.lsub, 1) := by decide +kernel
theorem dX11_gcdLehmer_243 : decode cX11_gcdLehmer 243 = .ok (.lstore 19, 2) := by decide +kernel
theorem dX11_gcdLehmer_245 : decode cX11_gcdLehmer 245 = .ok (.lload 7, 2) := by decide +kernel
theorem dX11_gcdLehmer_247 : decode cX11_gcdLehmer 247 = .ok (.lstore 5, 2) := by decide +kernel
