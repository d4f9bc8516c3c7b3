theorem dX11_nextToken_304 : decode cX11_nextToken 304 = .ok (.bipush 40, 2) := by decide +kernel
theorem dX11_nextToken_306 : decode cX11_nextToken 306 = .ok (.if_icmp .eq 21, 3) := by decide +kernel
theorem dX11_nextToken_309 : decode cX11_nextToken 309 = .ok (.iload_n 1, 1) := by decide +kernel
theorem dX11_nextToken_310 : decode cX11_nextToken 310 = .ok (.bipush 41, 2) := by decide +kernel
theorem dX11_nextToken_312 : decode cX11_nextToken 312 = .ok (.if_icmp .eq 15, 3) := by decide +kernel
theorem dX11_nextToken_315 : decode cX11_nextToken 315 = .ok (.iload_n 1, 1) := by decide +kernel
theorem dX11_nextToken_316 : decode cX11_nextToken 316 = .ok (.bipush 59, 2) := by decide +kernel
theorem dX11_nextToken_318 : decode cX11_nextToken 318 = .ok (.if_icmp .eq 9, 3) := by decide +kernel
theorem dX11_nextToken_321 : decode cX11_nextToken 321 = .ok (.iload_n 1, 1) := by decide +kernel
theorem dX11_nextToken_322 : decode cX11_nextToken 322 = .ok (.bipush 44, 2) := by decide +kernel
theorem dX11_nextToken_324 : decode cX11_nextToken 324 = .ok (.if_icmp .ne 7, 3) := by decide +kernel
theorem dX11_nextToken_327 : decode cX11_nextToken 327 = .ok (.iconst 1, 1) := by decide +kernel
theorem dX11_nextToken_328 : decode cX11_nextToken 328 = .ok (.goto 4, 3) := by decide +kernel
theorem dX11_nextToken_331 : decode cX11_nextToken 331 = .ok (.iconst 0, 1) := by decide +kernel
theorem dX11_nextToken_332 : decode cX11_nextToken 332 = .ok (.istore_n 2, 1) := by decide +kernel
theorem dX11_nextToken_333 : decode cX11_nextToken 333 = .ok (.aload_n 0, 1) := by decide +kernel
theorem dX11_nextToken_334 : decode cX11_nextToken 334 = .ok (.iload_n 2, 1) := by decide +kernel
theorem dX11_nextToken_335 : decode cX11_nextToken 335 = .ok (.ifCond .eq 7, 3) := by decide +kernel
theorem dX11_nextToken_338 : decode cX11_nextToken 338 = .ok (.iload_n 1, 1) := by decide +kernel
theorem dX11_nextToken_339 : decode cX11_nextToken 339 = .ok (.goto 4, 3) := by decide +kernel
theorem dX11_nextToken_342 : decode cX11_nextToken 342 = .ok (.iconst 3, 1) := by decide +kernel
theorem dX11_nextToken_343 : decode cX11_nextToken 343 = .ok (.putfield 111, 3) := by decide +kernel
theorem dX11_nextToken_346 : decode cX11_nextToken 346 = .ok (.iload_n 1, 1) := by decide +kernel
theorem dX11_nextToken_347 : decode cX11_nextToken 347 = .ok (.bipush 60, 2) := by decide +kernel
theorem dX11_nextToken_349 : decode cX11_nextToken 349 = .ok (.if_icmp .eq 9, 3) := by decide +kernel
theorem dX11_nextToken_352 : decode cX11_nextToken 352 = .ok (.iload_n 1, 1) := by decide +kernel
theorem dX11_nextToken_353 : decode cX11_nextToken 353 = .ok (.bipush 62, 2) := by decide +kernel
theorem dX11_nextToken_355 : decode cX11_nextToken 355 = .ok (.if_icmp .ne 41, 3) := by decide +kernel
theorem dX11_nextToken_358 : decode cX11_nextToken 358 = .ok (.aload_n 0, 1) := by decide +kernel
theorem dX11_nextToken_359 : decode cX11_nextToken 359 = .ok (.aload_n 0, 1) := by decide +kernel
theorem dX11_nextToken_360 : decode cX11_nextToken 360 = .ok (.getfield 101, 3) := by decide +kernel
theorem dX11_nextToken_363 : decode cX11_nextToken 363 = .ok (.invokevirtual 104, 3) := by decide +kernel
theorem dX11_nextToken_366 : decode cX11_nextToken 366 = .ok (.bipush 61, 2) := by decide +kernel
theorem dX11_nextToken_368 : decode cX11_nextToken 368 = .ok (.if_icmp .ne 28, 3) := by decide +kernel
theorem dX11_nextToken_371 : decode cX11_nextToken 371 = .ok (.aload_n 0, 1) := by decide +kernel
theorem dX11_nextToken_372 : decode cX11_nextToken 372 = .ok (.dup, 1) := by decide +kernel
theorem dX11_nextToken_373 : decode cX11_nextToken 373 = .ok (.getfield 101, 3) := by decide +kernel
theorem dX11_nextToken_376 : decode cX11_nextToken 376 = .ok (.iconst 1, 1) := by decide +kernel
theorem dX11_nextToken_377 : decode cX11_nextToken 377 = .ok (.iadd, 1) := by decide +kernel
theorem dX11_nextToken_378 : decode cX11_nextToken 378 = .ok (.putfield 101, 3) := by decide +kernel
theorem dX11_nextToken_381 : decode cX11_nextToken 381 = .ok (.aload_n 0, 1) := by decide +kernel
theorem dX11_nextToken_382 : decode cX11_nextToken 382 = .ok (.iload_n 1, 1) := by decide +kernel
theorem dX11_nextToken_383 : decode cX11_nextToken 383 = .ok (.bipush 60, 2) := by decide +kernel
theorem dX11_nextToken_385 : decode cX11_nextToken 385 = .ok (.if_icmp .ne 7, 3) := by decide +kernel
theorem dX11_nextToken_388 : decode cX11_nextToken 388 = .ok (.iconst 4, 1) := by decide +kernel
theorem dX11_nextToken_389 : decode cX11_nextToken 389 = .ok (.goto 4, 3) := by decide +kernel
theorem dX11_nextToken_392 : decode cX11_nextToken 392 = .ok (.iconst 5, 1) := by decide +kernel
theorem dX11_nextToken_393 : decode cX11_nextToken 393 = .ok (.putfield 111, 3) := by decide +kernel
theorem dX11_nextToken_396 : decode cX11_nextToken 396 = .ok (.return_, 1) := by decide +kernel
theorem dX11_w3_0 : decode cX11_w3 0 = .ok (.iload_n 0, 1) := by decide +kernel
theorem dX11_w3_1 : decode cX11_w3 1 = .ok (.i2l, 1) := by decide +kernel
theorem dX11_w3_2 : decode cX11_w3 2 = .ok (.bipush 8, 2) := by decide +kernel
theorem dX11_w3_4 : decode cX11_w3 4 = .ok (.lshl, 1) := by decide +kernel
theorem dX11_w3_5 : decode cX11_w3 5 = .ok (.iload_n 1, 1) := by decide +kernel
theorem dX11_w3_6 : decode cX11_w3 6 = .ok (.i2l, 1) := by decide +kernel
theorem dX11_w3_7 : decode cX11_w3 7 = .ok (.lor, 1) := by decide +kernel
theorem dX11_w3_8 : decode cX11_w3 8 = .ok (.bipush 8, 2) := by decide +kernel
theorem dX11_w3_10 : decode cX11_w3 10 = .ok (.lshl, 1) := by decide +kernel
theorem dX11_w3_11 : decode cX11_w3 11 = .ok (.iload_n 2, 1) := by decide +kernel
theorem dX11_w3_12 : decode cX11_w3 12 = .ok (.i2l, 1) := by decide +kernel
theorem dX11_w3_13 : decode cX11_w3 13 = .ok (.lor, 1) := by decide +kernel
theorem dX11_w3_14 : decode cX11_w3 14 = .ok (.lreturn, 1) := by decide +kernel
theorem dX11_w5_0 : decode cX11_w5 0 = .ok (.iload_n 0, 1) := by decide +kernel
theorem dX11_w5_1 : decode cX11_w5 1 = .ok (.iload_n 1, 1) := by decide +kernel
theorem dX11_w5_2 : decode cX11_w5 2 = .ok (.iload_n 2, 1) := by decide +kernel
theorem dX11_w5_3 : decode cX11_w5 3 = .ok (.invokestatic 128, 3) := by decide +kernel
theorem dX11_w5_6 : decode cX11_w5 6 = .ok (.bipush 8, 2) := by decide +kernel
theorem dX11_w5_8 : decode cX11_w5 8 = .ok (.lshl, 1) := by decide +kernel
theorem dX11_w5_9 : decode cX11_w5 9 = .ok (.iload_n 3, 1) := by decide +kernel
theorem dX11_w5_10 : decode cX11_w5 10 = .ok (.i2l, 1) := by decide +kernel
theorem dX11_w5_11 : decode cX11_w5 11 = .ok (.lor, 1) := by decide +kernel
theorem dX11_w5_12 : decode cX11_w5 12 = .ok (.bipush 8, 2) := by decide +kernel
theorem dX11_w5_14 : decode cX11_w5 14 = .ok (.lshl, 1) := by decide +kernel
theorem dX11_w5_15 : decode cX11_w5 15 = .ok (.iload 4, 2) := by decide +kernel
theorem dX11_w5_17 : decode cX11_w5 17 = .ok (.i2l, 1) := by decide +kernel
theorem dX11_w5_18 : decode cX11_w5 18 = .ok (.lor, 1) := by decide +kernel
theorem dX11_w5_19 : decode cX11_w5 19 = .ok (.lreturn, 1) := by decide +kernel
theorem dX11_w4_0 : decode cX11_w4 0 = .ok (.iload_n 0, 1) := by decide +kernel
theorem dX11_w4_1 : decode cX11_w4 1 = .ok (.iload_n 1, 1) := by decide +kernel
theorem dX11_w4_2 : decode cX11_w4 2 = .ok (.iload_n 2, 1) := by decide +kernel
theorem dX11_w4_3 : decode cX11_w4 3 = .ok (.invokestatic 128, 3) := by decide +kernel
theorem dX11_w4_6 : decode cX11_w4 6 = .ok (.bipush 8, 2) := by decide +kernel
theorem dX11_w4_8 : decode cX11_w4 8 = .ok (.lshl, 1) := by decide +kernel
theorem dX11_w4_9 : decode cX11_w4 9 = .ok (.iload_n 3, 1) := by decide +kernel
theorem dX11_w4_10 : decode cX11_w4 10 = .ok (.i2l, 1) := by decide +kernel
theorem dX11_w4_11 : decode cX11_w4 11 = .ok (.lor, 1) := by decide +kernel
theorem dX11_w4_12 : decode cX11_w4 12 = .ok (.lreturn, 1) := by decide +kernel
theorem dX11_w6_0 : decode cX11_w6 0 = .ok (.iload_n 0, 1) := by decide +kernel
theorem dX11_w6_1 : decode cX11_w6 1 = .ok (.iload_n 1, 1) := by decide +kernel
theorem dX11_w6_2 : decode cX11_w6 2 = .ok (.iload_n 2, 1) := by decide +kernel
theorem dX11_w6_3 : decode cX11_w6 3 = .ok (.iload_n 3, 1) := by decide +kernel
theorem dX11_w6_4 : decode cX11_w6 4 = .ok (.iload 4, 2) := by decide +kernel
theorem dX11_w6_6 : decode cX11_w6 6 = .ok (.invokestatic 132, 3) := by decide +kernel
theorem dX11_w6_9 : decode cX11_w6 9 = .ok (.bipush 8, 2) := by decide +kernel
theorem dX11_w6_11 : decode cX11_w6 11 = .ok (.lshl, 1) := by decide +kernel
theorem dX11_w6_12 : decode cX11_w6 12 = .ok (.iload 5, 2) := by decide +kernel
theorem dX11_w6_14 : decode cX11_w6 14 = .ok (.i2l, 1) := by decide +kernel
theorem dX11_w6_15 : decode cX11_w6 15 = .ok (.lor, 1) := by decide +kernel
theorem dX11_w6_16 : decode cX11_w6 16 = .ok (.lreturn, 1) := by decide +kernel
theorem dX11_isWord_0 : decode cX11_isWord 0 = .ok (.aload_n 0, 1) := by decide +kernel
theorem dX11_isWord_1 : decode cX11_isWord 1 = .ok (.getfield 111, 3) := by decide +kernel
theorem dX11_isWord_4 : decode cX11_isWord 4 = .ok (.iconst 2, 1) := by decide +kernel
theorem dX11_isWord_5 : decode cX11_isWord 5 = .ok (.if_icmp .ne 16, 3) := by decide +kernel
theorem dX11_isWord_8 : decode cX11_isWord 8 = .ok (.aload_n 0, 1) := by decide +kernel
theorem dX11_isWord_9 : decode cX11_isWord 9 = .ok (.getfield 124, 3) := by decide +kernel
theorem dX11_isWord_12 : decode cX11_isWord 12 = .ok (.lload_n 1, 1) := by decide +kernel
theorem dX11_isWord_13 : decode cX11_isWord 13 = .ok (.lcmp, 1) := by decide +kernel
theorem dX11_isWord_14 : decode cX11_isWord 14 = .ok (.ifCond .ne 7, 3) := by decide +kernel
theorem dX11_isWord_17 : decode cX11_isWord 17 = .ok (.iconst 1, 1) := by decide +kernel
theorem dX11_isWord_18 : decode cX11_isWord 18 = .ok (.goto 4, 3) := by decide +kernel
theorem dX11_isWord_21 : decode cX11_isWord 21 = .ok (.iconst 0, 1) := by decide +kernel
theorem dX11_isWord_22 : decode cX11_isWord 22 = .ok (.ireturn, 1) := by decide +kernel
theorem dX11_emit_0 : decode cX11_emit 0 = .ok (.aload_n 0, 1) := by decide +kernel
theorem dX11_emit_1 : decode cX11_emit 1 = .ok (.getfield 13, 3) := by decide +kernel
theorem dX11_emit_4 : decode cX11_emit 4 = .ok (.aload_n 0, 1) := by decide +kernel
theorem dX11_emit_5 : decode cX11_emit 5 = .ok (.getfield 136, 3) := by decide +kernel
theorem dX11_emit_8 : decode cX11_emit 8 = .ok (.bipush 85, 2) := by decide +kernel
theorem dX11_emit_10 : decode cX11_emit 10 = .ok (.iadd, 1) := by decide +kernel
theorem dX11_emit_11 : decode cX11_emit 11 = .ok (.iconst 2, 1) := by decide +kernel
theorem dX11_emit_12 : decode cX11_emit 12 = .ok (.aload_n 0, 1) := by decide +kernel
theorem dX11_emit_13 : decode cX11_emit 13 = .ok (.getfield 139, 3) := by decide +kernel
theorem dX11_emit_16 : decode cX11_emit 16 = .ok (.imul, 1) := by decide +kernel
theorem dX11_emit_17 : decode cX11_emit 17 = .ok (.iadd, 1) := by decide +kernel
theorem dX11_emit_18 : decode cX11_emit 18 = .ok (.iload_n 1, 1) := by decide +kernel
theorem dX11_emit_19 : decode cX11_emit 19 = .ok (.iastore, 1) := by decide +kernel
theorem dX11_emit_20 : decode cX11_emit 20 = .ok (.aload_n 0, 1) := by decide +kernel
theorem dX11_emit_21 : decode cX11_emit 21 = .ok (.getfield 13, 3) := by decide +kernel
theorem dX11_emit_24 : decode cX11_emit 24 = .ok (.aload_n 0, 1) := by decide +kernel
theorem dX11_emit_25 : decode cX11_emit 25 = .ok (.getfield 136, 3) := by decide +kernel
theorem dX11_emit_28 : decode cX11_emit 28 = .ok (.bipush 85, 2) := by decide +kernel
theorem dX11_emit_30 : decode cX11_emit 30 = .ok (.iadd, 1) := by decide +kernel
theorem dX11_emit_31 : decode cX11_emit 31 = .ok (.iconst 2, 1) := by decide +kernel
theorem dX11_emit_32 : decode cX11_emit 32 = .ok (.aload_n 0, 1) := by decide +kernel
theorem dX11_emit_33 : decode cX11_emit 33 = .ok (.getfield 139, 3) := by decide +kernel
theorem dX11_emit_36 : decode cX11_emit 36 = .ok (.imul, 1) := by decide +kernel
theorem dX11_emit_37 : decode cX11_emit 37 = .ok (.iadd, 1) := by decide +kernel
theorem dX11_emit_38 : decode cX11_emit 38 = .ok (.iconst 1, 1) := by decide +kernel
theorem dX11_emit_39 : decode cX11_emit 39 = .ok (.iadd, 1) := by decide +kernel
theorem dX11_emit_40 : decode cX11_emit 40 = .ok (.iload_n 2, 1) := by decide +kernel
theorem dX11_emit_41 : decode cX11_emit 41 = .ok (.iastore, 1) := by decide +kernel
theorem dX11_emit_42 : decode cX11_emit 42 = .ok (.aload_n 0, 1) := by decide +kernel
theorem dX11_emit_43 : decode cX11_emit 43 = .ok (.dup, 1) := by decide +kernel
theorem dX11_emit_44 : decode cX11_emit 44 = .ok (.getfield 139, 3) := by decide +kernel
theorem dX11_emit_47 : decode cX11_emit 47 = .ok (.iconst 1, 1) := by decide +kernel
theorem dX11_emit_48 : decode cX11_emit 48 = .ok (.iadd, 1) := by decide +kernel
theorem dX11_emit_49 : decode cX11_emit 49 = .ok (.putfield 139, 3) := by decide +kernel
theorem dX11_emit_52 : decode cX11_emit 52 = .ok (.return_, 1) := by decide +kernel
theorem dX11_push_0 : decode cX11_push 0 = .ok (.aload_n 0, 1) := by decide +kernel
theorem dX11_push_1 : decode cX11_push 1 = .ok (.getfield 26, 3) := by decide +kernel
theorem dX11_push_4 : decode cX11_push 4 = .ok (.aload_n 0, 1) := by decide +kernel
theorem dX11_push_5 : decode cX11_push 5 = .ok (.getfield 142, 3) := by decide +kernel
theorem dX11_push_8 : decode cX11_push 8 = .ok (.iload_n 1, 1) := by decide +kernel
theorem dX11_push_9 : decode cX11_push 9 = .ok (.iastore, 1) := by decide +kernel
theorem dX11_push_10 : decode cX11_push 10 = .ok (.aload_n 0, 1) := by decide +kernel
theorem dX11_push_11 : decode cX11_push 11 = .ok (.dup, 1) := by decide +kernel
theorem dX11_push_12 : decode cX11_push 12 = .ok (.getfield 142, 3) := by decide +kernel
theorem dX11_push_15 : decode cX11_push 15 = .ok (.iconst 1, 1) := by decide +kernel
theorem dX11_push_16 : decode cX11_push 16 = .ok (.iadd, 1) := by decide +kernel
theorem dX11_push_17 : decode cX11_push 17 = .ok (.putfield 142, 3) := by decide +kernel
theorem dX11_push_20 : decode cX11_push 20 = .ok (.return_, 1) := by decide +kernel
theorem dX11_rank_0 : decode cX11_rank 0 = .ok (.iload_n 0, 1) := by decide +kernel
theorem dX11_rank_1 : decode cX11_rank 1 = .ok (.bipush 40, 2) := by decide +kernel
theorem dX11_rank_3 : decode cX11_rank 3 = .ok (.if_icmp .lt 7, 3) := by decide +kernel
theorem dX11_rank_6 : decode cX11_rank 6 = .ok (.iconst 0, 1) := by decide +kernel
theorem dX11_rank_7 : decode cX11_rank 7 = .ok (.goto 64, 3) := by decide +kernel
theorem dX11_rank_10 : decode cX11_rank 10 = .ok (.iload_n 0, 1) := by decide +kernel
theorem dX11_rank_11 : decode cX11_rank 11 = .ok (.bipush 22, 2) := by decide +kernel
theorem dX11_rank_13 : decode cX11_rank 13 = .ok (.if_icmp .ne 7, 3) := by decide +kernel
theorem dX11_rank_16 : decode cX11_rank 16 = .ok (.iconst 1, 1) := by decide +kernel
theorem dX11_rank_17 : decode cX11_rank 17 = .ok (.goto 54, 3) := by decide +kernel
theorem dX11_rank_20 : decode cX11_rank 20 = .ok (.iload_n 0, 1) := by decide +kernel
theorem dX11_rank_21 : decode cX11_rank 21 = .ok (.bipush 21, 2) := by decide +kernel
theorem dX11_rank_23 : decode cX11_rank 23 = .ok (.if_icmp .ne 7, 3) := by decide +kernel
theorem dX11_rank_26 : decode cX11_rank 26 = .ok (.iconst 2, 1) := by decide +kernel
theorem dX11_rank_27 : decode cX11_rank 27 = .ok (.goto 44, 3) := by decide +kernel
theorem dX11_rank_30 : decode cX11_rank 30 = .ok (.iload_n 0, 1) := by decide +kernel
theorem dX11_rank_31 : decode cX11_rank 31 = .ok (.bipush 20, 2) := by decide +kernel
theorem dX11_rank_33 : decode cX11_rank 33 = .ok (.if_icmp .ne 7, 3) := by decide +kernel
theorem dX11_rank_36 : decode cX11_rank 36 = .ok (.iconst 3, 1) := by decide +kernel
theorem dX11_rank_37 : decode cX11_rank 37 = .ok (.goto 34, 3) := by decide +kernel
theorem dX11_rank_40 : decode cX11_rank 40 = .ok (.iload_n 0, 1) := by decide +kernel
theorem dX11_rank_41 : decode cX11_rank 41 = .ok (.bipush 10, 2) := by decide +kernel
theorem dX11_rank_43 : decode cX11_rank 43 = .ok (.if_icmp .lt 7, 3) := by decide +kernel
theorem dX11_rank_46 : decode cX11_rank 46 = .ok (.iconst 4, 1) := by decide +kernel
theorem dX11_rank_47 : decode cX11_rank 47 = .ok (.goto 24, 3) := by decide +kernel
theorem dX11_rank_50 : decode cX11_rank 50 = .ok (.iload_n 0, 1) := by decide +kernel
theorem dX11_rank_51 : decode cX11_rank 51 = .ok (.iconst 2, 1) := by decide +kernel
theorem dX11_rank_52 : decode cX11_rank 52 = .ok (.if_icmp .ne 8, 3) := by decide +kernel
theorem dX11_rank_55 : decode cX11_rank 55 = .ok (.bipush 7, 2) := by decide +kernel
theorem dX11_rank_57 : decode cX11_rank 57 = .ok (.goto 14, 3) := by decide +kernel
theorem dX11_rank_60 : decode cX11_rank 60 = .ok (.iload_n 0, 1) := by decide +kernel
theorem dX11_rank_61 : decode cX11_rank 61 = .ok (.iconst 5, 1) := by decide +kernel
theorem dX11_rank_62 : decode cX11_rank 62 = .ok (.if_icmp .lt 8, 3) := by decide +kernel
theorem dX11_rank_65 : decode cX11_rank 65 = .ok (.bipush 6, 2) := by decide +kernel
theorem dX11_rank_67 : decode cX11_rank 67 = .ok (.goto 4, 3) := by decide +kernel
theorem dX11_rank_70 : decode cX11_rank 70 = .ok (.iconst 5, 1) := by decide +kernel
theorem dX11_rank_71 : decode cX11_rank 71 = .ok (.ireturn, 1) := by decide +kernel
theorem dX11_settle_0 : decode cX11_settle 0 = .ok (.aload_n 0, 1) := by decide +kernel
theorem dX11_settle_1 : decode cX11_settle 1 = .ok (.getfield 142, 3) := by decide +kernel
theorem dX11_settle_4 : decode cX11_settle 4 = .ok (.ifCond .le 85, 3) := by decide +kernel
theorem dX11_settle_7 : decode cX11_settle 7 = .ok (.aload_n 0, 1) := by decide +kernel
theorem dX11_settle_8 : decode cX11_settle 8 = .ok (.getfield 26, 3) := by decide +kernel
theorem dX11_settle_11 : decode cX11_settle 11 = .ok (.aload_n 0, 1) := by decide +kernel
theorem dX11_settle_12 : decode cX11_settle 12 = .ok (.getfield 142, 3) := by decide +kernel
theorem dX11_settle_15 : decode cX11_settle 15 = .ok (.iconst 1, 1) := by decide +kernel
theorem dX11_settle_16 : decode cX11_settle 16 = .ok (.isub, 1) := by decide +kernel
theorem dX11_settle_17 : decode cX11_settle 17 = .ok (.iaload, 1) := by decide +kernel
theorem dX11_settle_18 : decode cX11_settle 18 = .ok (.invokestatic 145, 3) := by decide +kernel
theorem dX11_settle_21 : decode cX11_settle 21 = .ok (.iload_n 1, 1) := by decide +kernel
theorem dX11_settle_22 : decode cX11_settle 22 = .ok (.if_icmp .lt 67, 3) := by decide +kernel
theorem dX11_settle_25 : decode cX11_settle 25 = .ok (.aload_n 0, 1) := by decide +kernel
theorem dX11_settle_26 : decode cX11_settle 26 = .ok (.dup, 1) := by decide +kernel
theorem dX11_settle_27 : decode cX11_settle 27 = .ok (.getfield 142, 3) := by decide +kernel
theorem dX11_settle_30 : decode cX11_settle 30 = .ok (.iconst 1, 1) := by decide +kernel
theorem dX11_settle_31 : decode cX11_settle 31 = .ok (.isub, 1) := by decide +kernel
theorem dX11_settle_32 : decode cX11_settle 32 = .ok (.putfield 142, 3) := by decide +kernel
theorem dX11_settle_35 : decode cX11_settle 35 = .ok (.aload_n 0, 1) := by decide +kernel
theorem dX11_settle_36 : decode cX11_settle 36 = .ok (.aload_n 0, 1) := by decide +kernel
theorem dX11_settle_37 : decode cX11_settle 37 = .ok (.getfield 26, 3) := by decide +kernel
theorem dX11_settle_40 : decode cX11_settle 40 = .ok (.aload_n 0, 1) := by decide +kernel
theorem dX11_settle_41 : decode cX11_settle 41 = .ok (.getfield 142, 3) := by decide +kernel
theorem dX11_settle_44 : decode cX11_settle 44 = .ok (.iaload, 1) := by decide +kernel
theorem dX11_settle_45 : decode cX11_settle 45 = .ok (.iconst 0, 1) := by decide +kernel
theorem dX11_settle_46 : decode cX11_settle 46 = .ok (.invokevirtual 148, 3) := by decide +kernel
theorem dX11_settle_49 : decode cX11_settle 49 = .ok (.aload_n 0, 1) := by decide +kernel
theorem dX11_settle_50 : decode cX11_settle 50 = .ok (.getfield 26, 3) := by decide +kernel
theorem dX11_settle_53 : decode cX11_settle 53 = .ok (.aload_n 0, 1) := by decide +kernel
theorem dX11_settle_54 : decode cX11_settle 54 = .ok (.getfield 142, 3) := by decide +kernel
theorem dX11_settle_57 : decode cX11_settle 57 = .ok (.iaload, 1) := by decide +kernel
theorem dX11_settle_58 : decode cX11_settle 58 = .ok (.iconst 2, 1) := by decide +kernel
theorem dX11_settle_59 : decode cX11_settle 59 = .ok (.if_icmp .eq 17, 3) := by decide +kernel
theorem dX11_settle_62 : decode cX11_settle 62 = .ok (.aload_n 0, 1) := by decide +kernel
theorem dX11_settle_63 : decode cX11_settle 63 = .ok (.getfield 26, 3) := by decide +kernel
theorem dX11_settle_66 : decode cX11_settle 66 = .ok (.aload_n 0, 1) := by decide +kernel
theorem dX11_settle_67 : decode cX11_settle 67 = .ok (.getfield 142, 3) := by decide +kernel
theorem dX11_settle_70 : decode cX11_settle 70 = .ok (.iaload, 1) := by decide +kernel
theorem dX11_settle_71 : decode cX11_settle 71 = .ok (.bipush 20, 2) := by decide +kernel
theorem dX11_settle_73 : decode cX11_settle 73 = .ok (.if_icmp .ne (-73), 3) := by decide +kernel
theorem dX11_settle_76 : decode cX11_settle 76 = .ok (.aload_n 0, 1) := by decide +kernel
theorem dX11_settle_77 : decode cX11_settle 77 = .ok (.dup, 1) := by decide +kernel
theorem dX11_settle_78 : decode cX11_settle 78 = .ok (.getfield 151, 3) := by decide +kernel
theorem dX11_settle_81 : decode cX11_settle 81 = .ok (.iconst 1, 1) := by decide +kernel
theorem dX11_settle_82 : decode cX11_settle 82 = .ok (.isub, 1) := by decide +kernel
theorem dX11_settle_83 : decode cX11_settle 83 = .ok (.putfield 151, 3) := by decide +kernel
theorem dX11_settle_86 : decode cX11_settle 86 = .ok (.goto (-86), 3) := by decide +kernel
theorem dX11_settle_89 : decode cX11_settle 89 = .ok (.return_, 1) := by decide +kernel
theorem dX11_whole_0 : decode cX11_whole 0 = .ok (.aload_n 0, 1) := by decide +kernel
theorem dX11_whole_1 : decode cX11_whole 1 = .ok (.iconst 1, 1) := by decide +kernel
theorem dX11_whole_2 : decode cX11_whole 2 = .ok (.putfield 154, 3) := by decide +kernel
theorem dX11_whole_5 : decode cX11_whole 5 = .ok (.aload_n 0, 1) := by decide +kernel
theorem dX11_whole_6 : decode cX11_whole 6 = .ok (.bipush 7, 2) := by decide +kernel
theorem dX11_whole_8 : decode cX11_whole 8 = .ok (.invokevirtual 158, 3) := by decide +kernel
theorem dX11_whole_11 : decode cX11_whole 11 = .ok (.return_, 1) := by decide +kernel
theorem dX11_marker_0 : decode cX11_marker 0 = .ok (.aload_n 0, 1) := by decide +kernel
theorem dX11_marker_1 : decode cX11_marker 1 = .ok (.getfield 142, 3) := by decide +kernel
theorem dX11_marker_4 : decode cX11_marker 4 = .ok (.iconst 1, 1) := by decide +kernel
theorem dX11_marker_5 : decode cX11_marker 5 = .ok (.isub, 1) := by decide +kernel
theorem dX11_marker_6 : decode cX11_marker 6 = .ok (.istore_n 1, 1) := by decide +kernel
theorem dX11_marker_7 : decode cX11_marker 7 = .ok (.iload_n 1, 1) := by decide +kernel
theorem dX11_marker_8 : decode cX11_marker 8 = .ok (.ifCond .lt 20, 3) := by decide +kernel
theorem dX11_marker_11 : decode cX11_marker 11 = .ok (.aload_n 0, 1) := by decide +kernel
theorem dX11_marker_12 : decode cX11_marker 12 = .ok (.getfield 26, 3) := by decide +kernel
theorem dX11_marker_15 : decode cX11_marker 15 = .ok (.iload_n 1, 1) := by decide +kernel
theorem dX11_marker_16 : decode cX11_marker 16 = .ok (.iaload, 1) := by decide +kernel
theorem dX11_marker_17 : decode cX11_marker 17 = .ok (.bipush 40, 2) := by decide +kernel
theorem dX11_marker_19 : decode cX11_marker 19 = .ok (.if_icmp .ge 9, 3) := by decide +kernel
theorem dX11_marker_22 : decode cX11_marker 22 = .ok (.iinc 1 (-1), 3) := by decide +kernel
theorem dX11_marker_25 : decode cX11_marker 25 = .ok (.goto (-18), 3) := by decide +kernel
theorem dX11_marker_28 : decode cX11_marker 28 = .ok (.iload_n 1, 1) := by decide +kernel
theorem dX11_marker_29 : decode cX11_marker 29 = .ok (.ireturn, 1) := by decide +kernel
theorem dX11_isCompared_0 : decode cX11_isCompared 0 = .ok (.aload_n 0, 1) := by decide +kernel
theorem dX11_isCompared_1 : decode cX11_isCompared 1 = .ok (.getfield 142, 3) := by decide +kernel
theorem dX11_isCompared_4 : decode cX11_isCompared 4 = .ok (.iconst 1, 1) := by decide +kernel
theorem dX11_isCompared_5 : decode cX11_isCompared 5 = .ok (.isub, 1) := by decide +kernel
theorem dX11_isCompared_6 : decode cX11_isCompared 6 = .ok (.istore_n 1, 1) := by decide +kernel
theorem dX11_isCompared_7 : decode cX11_isCompared 7 = .ok (.iload_n 1, 1) := by decide +kernel
theorem dX11_isCompared_8 : decode cX11_isCompared 8 = .ok (.ifCond .lt 22, 3) := by decide +kernel
theorem dX11_isCompared_11 : decode cX11_isCompared 11 = .ok (.aload_n 0, 1) := by decide +kernel
theorem dX11_isCompared_12 : decode cX11_isCompared 12 = .ok (.getfield 26, 3) := by decide +kernel
theorem dX11_isCompared_15 : decode cX11_isCompared 15 = .ok (.iload_n 1, 1) := by decide +kernel
theorem dX11_isCompared_16 : decode cX11_isCompared 16 = .ok (.iaload, 1) := by decide +kernel
theorem dX11_isCompared_17 : decode cX11_isCompared 17 = .ok (.invokestatic 145, 3) := by decide +kernel
theorem dX11_isCompared_20 : decode cX11_isCompared 20 = .ok (.iconst 4, 1) := by decide +kernel
theorem dX11_isCompared_21 : decode cX11_isCompared 21 = .ok (.if_icmp .le 9, 3) := by decide +kernel
theorem dX11_isCompared_24 : decode cX11_isCompared 24 = .ok (.iinc 1 (-1), 3) := by decide +kernel
theorem dX11_isCompared_27 : decode cX11_isCompared 27 = .ok (.goto (-20), 3) := by decide +kernel
theorem dX11_isCompared_30 : decode cX11_isCompared 30 = .ok (.iload_n 1, 1) := by decide +kernel
theorem dX11_isCompared_31 : decode cX11_isCompared 31 = .ok (.ifCond .lt 20, 3) := by decide +kernel
theorem dX11_isCompared_34 : decode cX11_isCompared 34 = .ok (.aload_n 0, 1) := by decide +kernel
theorem dX11_isCompared_35 : decode cX11_isCompared 35 = .ok (.getfield 26, 3) := by decide +kernel
theorem dX11_isCompared_38 : decode cX11_isCompared 38 = .ok (.iload_n 1, 1) := by decide +kernel
theorem dX11_isCompared_39 : decode cX11_isCompared 39 = .ok (.iaload, 1) := by decide +kernel
theorem dX11_isCompared_40 : decode cX11_isCompared 40 = .ok (.invokestatic 145, 3) := by decide +kernel
theorem dX11_isCompared_43 : decode cX11_isCompared 43 = .ok (.iconst 4, 1) := by decide +kernel
theorem dX11_isCompared_44 : decode cX11_isCompared 44 = .ok (.if_icmp .ne 7, 3) := by decide +kernel
theorem dX11_isCompared_47 : decode cX11_isCompared 47 = .ok (.iconst 1, 1) := by decide +kernel
theorem dX11_isCompared_48 : decode cX11_isCompared 48 = .ok (.goto 4, 3) := by decide +kernel
theorem dX11_isCompared_51 : decode cX11_isCompared 51 = .ok (.iconst 0, 1) := by decide +kernel
theorem dX11_isCompared_52 : decode cX11_isCompared 52 = .ok (.ireturn, 1) := by decide +kernel
theorem dX11_isAskAhead_0 : decode cX11_isAskAhead 0 = .ok (.iload_n 1, 1) := by decide +kernel
theorem dX11_isAskAhead_1 : decode cX11_isAskAhead 1 = .ok (.ifCond .eq 43, 3) := by decide +kernel
theorem dX11_isAskAhead_4 : decode cX11_isAskAhead 4 = .ok (.aload_n 0, 1) := by decide +kernel
theorem dX11_isAskAhead_5 : decode cX11_isAskAhead 5 = .ok (.invokevirtual 161, 3) := by decide +kernel
theorem dX11_isAskAhead_8 : decode cX11_isAskAhead 8 = .ok (.ifCond .ge 36, 3) := by decide +kernel
theorem dX11_isAskAhead_11 : decode cX11_isAskAhead 11 = .ok (.aload_n 0, 1) := by decide +kernel
theorem dX11_isAskAhead_12 : decode cX11_isAskAhead 12 = .ok (.getfield 142, 3) := by decide +kernel
theorem dX11_isAskAhead_15 : decode cX11_isAskAhead 15 = .ok (.ifCond .eq 25, 3) := by decide +kernel
theorem dX11_isAskAhead_18 : decode cX11_isAskAhead 18 = .ok (.aload_n 0, 1) := by decide +kernel
theorem dX11_isAskAhead_19 : decode cX11_isAskAhead 19 = .ok (.getfield 26, 3) := by decide +kernel
theorem dX11_isAskAhead_22 : decode cX11_isAskAhead 22 = .ok (.aload_n 0, 1) := by decide +kernel
theorem dX11_isAskAhead_23 : decode cX11_isAskAhead 23 = .ok (.getfield 142, 3) := by decide +kernel
theorem dX11_isAskAhead_26 : decode cX11_isAskAhead 26 = .ok (.iconst 1, 1) := by decide +kernel
theorem dX11_isAskAhead_27 : decode cX11_isAskAhead 27 = .ok (.isub, 1) := by decide +kernel
theorem dX11_isAskAhead_28 : decode cX11_isAskAhead 28 = .ok (.iaload, 1) := by decide +kernel
theorem dX11_isAskAhead_29 : decode cX11_isAskAhead 29 = .ok (.invokestatic 145, 3) := by decide +kernel
theorem dX11_isAskAhead_32 : decode cX11_isAskAhead 32 = .ok (.iconst 1, 1) := by decide +kernel
theorem dX11_isAskAhead_33 : decode cX11_isAskAhead 33 = .ok (.iconst 3, 1) := by decide +kernel
theorem dX11_isAskAhead_34 : decode cX11_isAskAhead 34 = .ok (.invokestatic 71, 3) := by decide +kernel
theorem dX11_isAskAhead_37 : decode cX11_isAskAhead 37 = .ok (.ifCond .eq 7, 3) := by decide +kernel
theorem dX11_isAskAhead_40 : decode cX11_isAskAhead 40 = .ok (.iconst 1, 1) := by decide +kernel
theorem dX11_isAskAhead_41 : decode cX11_isAskAhead 41 = .ok (.goto 4, 3) := by decide +kernel
theorem dX11_isAskAhead_44 : decode cX11_isAskAhead 44 = .ok (.iconst 0, 1) := by decide +kernel
theorem dX11_isAskAhead_45 : decode cX11_isAskAhead 45 = .ok (.ireturn, 1) := by decide +kernel
theorem dX11_opensBy_0 : decode cX11_opensBy 0 = .ok (.iload_n 1, 1) := by decide +kernel
theorem dX11_opensBy_1 : decode cX11_opensBy 1 = .ok (.bipush 41, 2) := by decide +kernel
theorem dX11_opensBy_3 : decode cX11_opensBy 3 = .ok (.if_icmp .eq 9, 3) := by decide +kernel
theorem dX11_opensBy_6 : decode cX11_opensBy 6 = .ok (.iload_n 1, 1) := by decide +kernel
theorem dX11_opensBy_7 : decode cX11_opensBy 7 = .ok (.bipush 42, 2) := by decide +kernel
theorem dX11_opensBy_9 : decode cX11_opensBy 9 = .ok (.if_icmp .ne 7, 3) := by decide +kernel
theorem dX11_opensBy_12 : decode cX11_opensBy 12 = .ok (.aload_n 0, 1) := by decide +kernel
theorem dX11_opensBy_13 : decode cX11_opensBy 13 = .ok (.invokevirtual 165, 3) := by decide +kernel
theorem dX11_opensBy_16 : decode cX11_opensBy 16 = .ok (.iload_n 1, 1) := by decide +kernel
theorem dX11_opensBy_17 : decode cX11_opensBy 17 = .ok (.bipush 41, 2) := by decide +kernel
theorem dX11_opensBy_19 : decode cX11_opensBy 19 = .ok (.if_icmp .eq 9, 3) := by decide +kernel
theorem dX11_opensBy_22 : decode cX11_opensBy 22 = .ok (.iload_n 1, 1) := by decide +kernel
theorem dX11_opensBy_23 : decode cX11_opensBy 23 = .ok (.bipush 42, 2) := by decide +kernel
theorem dX11_opensBy_25 : decode cX11_opensBy 25 = .ok (.if_icmp .ne 14, 3) := by decide +kernel
theorem dX11_opensBy_28 : decode cX11_opensBy 28 = .ok (.aload_n 0, 1) := by decide +kernel
theorem dX11_opensBy_29 : decode cX11_opensBy 29 = .ok (.getfield 111, 3) := by decide +kernel
theorem dX11_opensBy_32 : decode cX11_opensBy 32 = .ok (.bipush 40, 2) := by decide +kernel
theorem dX11_opensBy_34 : decode cX11_opensBy 34 = .ok (.if_icmp .eq 5, 3) := by decide +kernel
theorem dX11_opensBy_37 : decode cX11_opensBy 37 = .ok (.iconst 1, 1) := by decide +kernel
theorem dX11_opensBy_38 : decode cX11_opensBy 38 = .ok (.ireturn, 1) := by decide +kernel
theorem dX11_opensBy_39 : decode cX11_opensBy 39 = .ok (.aload_n 0, 1) := by decide +kernel
theorem dX11_opensBy_40 : decode cX11_opensBy 40 = .ok (.getfield 151, 3) := by decide +kernel
theorem dX11_opensBy_43 : decode cX11_opensBy 43 = .ok (.bipush 8, 2) := by decide +kernel
theorem dX11_opensBy_45 : decode cX11_opensBy 45 = .ok (.if_icmp .ne 5, 3) := by decide +kernel
theorem dX11_opensBy_48 : decode cX11_opensBy 48 = .ok (.iconst 3, 1) := by decide +kernel
theorem dX11_opensBy_49 : decode cX11_opensBy 49 = .ok (.ireturn, 1) := by decide +kernel
theorem dX11_opensBy_50 : decode cX11_opensBy 50 = .ok (.aload_n 0, 1) := by decide +kernel
theorem dX11_opensBy_51 : decode cX11_opensBy 51 = .ok (.dup, 1) := by decide +kernel
theorem dX11_opensBy_52 : decode cX11_opensBy 52 = .ok (.getfield 151, 3) := by decide +kernel
theorem dX11_opensBy_55 : decode cX11_opensBy 55 = .ok (.iconst 1, 1) := by decide +kernel
theorem dX11_opensBy_56 : decode cX11_opensBy 56 = .ok (.iadd, 1) := by decide +kernel
theorem dX11_opensBy_57 : decode cX11_opensBy 57 = .ok (.putfield 151, 3) := by decide +kernel
theorem dX11_opensBy_60 : decode cX11_opensBy 60 = .ok (.aload_n 0, 1) := by decide +kernel
theorem dX11_opensBy_61 : decode cX11_opensBy 61 = .ok (.iload_n 1, 1) := by decide +kernel
theorem dX11_opensBy_62 : decode cX11_opensBy 62 = .ok (.invokevirtual 168, 3) := by decide +kernel
theorem dX11_opensBy_65 : decode cX11_opensBy 65 = .ok (.aload_n 0, 1) := by decide +kernel
theorem dX11_opensBy_66 : decode cX11_opensBy 66 = .ok (.invokevirtual 165, 3) := by decide +kernel
theorem dX11_opensBy_69 : decode cX11_opensBy 69 = .ok (.iconst 0, 1) := by decide +kernel
theorem dX11_opensBy_70 : decode cX11_opensBy 70 = .ok (.ireturn, 1) := by decide +kernel
theorem dX11_beginOne_0 : decode cX11_beginOne 0 = .ok (.aload_n 0, 1) := by decide +kernel
theorem dX11_beginOne_1 : decode cX11_beginOne 1 = .ok (.getfield 111, 3) := by decide +kernel
theorem dX11_beginOne_4 : decode cX11_beginOne 4 = .ok (.iconst 1, 1) := by decide +kernel
theorem dX11_beginOne_5 : decode cX11_beginOne 5 = .ok (.if_icmp .ne 15, 3) := by decide +kernel
theorem dX11_beginOne_8 : decode cX11_beginOne 8 = .ok (.aload_n 0, 1) := by decide +kernel
theorem dX11_beginOne_9 : decode cX11_beginOne 9 = .ok (.getfield 117, 3) := by decide +kernel
theorem dX11_beginOne_12 : decode cX11_beginOne 12 = .ok (.sipush 9999, 3) := by decide +kernel
theorem dX11_beginOne_15 : decode cX11_beginOne 15 = .ok (.if_icmp .le 5, 3) := by decide +kernel
theorem dX11_beginOne_18 : decode cX11_beginOne 18 = .ok (.iconst 2, 1) := by decide +kernel
theorem dX11_beginOne_19 : decode cX11_beginOne 19 = .ok (.ireturn, 1) := by decide +kernel
theorem dX11_beginOne_20 : decode cX11_beginOne 20 = .ok (.aload_n 0, 1) := by decide +kernel
theorem dX11_beginOne_21 : decode cX11_beginOne 21 = .ok (.invokevirtual 171, 3) := by decide +kernel
theorem dX11_beginOne_24 : decode cX11_beginOne 24 = .ok (.istore_n 2, 1) := by decide +kernel
theorem dX11_beginOne_25 : decode cX11_beginOne 25 = .ok (.iload_n 2, 1) := by decide +kernel
theorem dX11_beginOne_26 : decode cX11_beginOne 26 = .ok (.ifCond .lt 13, 3) := by decide +kernel
theorem dX11_beginOne_29 : decode cX11_beginOne 29 = .ok (.aload_n 0, 1) := by decide +kernel
theorem dX11_beginOne_30 : decode cX11_beginOne 30 = .ok (.iload_n 2, 1) := by decide +kernel
theorem dX11_beginOne_31 : decode cX11_beginOne 31 = .ok (.invokevirtual 174, 3) := by decide +kernel
theorem dX11_beginOne_34 : decode cX11_beginOne 34 = .ok (.ifCond .ne 5, 3) := by decide +kernel
theorem dX11_beginOne_37 : decode cX11_beginOne 37 = .ok (.iconst 5, 1) := by decide +kernel
theorem dX11_beginOne_38 : decode cX11_beginOne 38 = .ok (.ireturn, 1) := by decide +kernel
theorem dX11_beginOne_39 : decode cX11_beginOne 39 = .ok (.aload_n 0, 1) := by decide +kernel
theorem dX11_beginOne_40 : decode cX11_beginOne 40 = .ok (.getfield 111, 3) := by decide +kernel
theorem dX11_beginOne_43 : decode cX11_beginOne 43 = .ok (.iconst 1, 1) := by decide +kernel
theorem dX11_beginOne_44 : decode cX11_beginOne 44 = .ok (.if_icmp .eq 7, 3) := by decide +kernel
theorem dX11_beginOne_47 : decode cX11_beginOne 47 = .ok (.iload_n 2, 1) := by decide +kernel
theorem dX11_beginOne_48 : decode cX11_beginOne 48 = .ok (.ifCond .lt 46, 3) := by decide +kernel
theorem dX11_beginOne_51 : decode cX11_beginOne 51 = .ok (.aload_n 0, 1) := by decide +kernel
theorem dX11_beginOne_52 : decode cX11_beginOne 52 = .ok (.aload_n 0, 1) := by decide +kernel
theorem dX11_beginOne_53 : decode cX11_beginOne 53 = .ok (.getfield 111, 3) := by decide +kernel
theorem dX11_beginOne_56 : decode cX11_beginOne 56 = .ok (.iconst 1, 1) := by decide +kernel
theorem dX11_beginOne_57 : decode cX11_beginOne 57 = .ok (.if_icmp .ne 7, 3) := by decide +kernel
theorem dX11_beginOne_60 : decode cX11_beginOne 60 = .ok (.iconst 0, 1) := by decide +kernel
theorem dX11_beginOne_61 : decode cX11_beginOne 61 = .ok (.goto 4, 3) := by decide +kernel
theorem dX11_beginOne_64 : decode cX11_beginOne 64 = .ok (.iconst 1, 1) := by decide +kernel
theorem dX11_beginOne_65 : decode cX11_beginOne 65 = .ok (.aload_n 0, 1) := by decide +kernel
theorem dX11_beginOne_66 : decode cX11_beginOne 66 = .ok (.getfield 111, 3) := by decide +kernel
theorem dX11_beginOne_69 : decode cX11_beginOne 69 = .ok (.iconst 1, 1) := by decide +kernel
theorem dX11_beginOne_70 : decode cX11_beginOne 70 = .ok (.if_icmp .ne 10, 3) := by decide +kernel
theorem dX11_beginOne_73 : decode cX11_beginOne 73 = .ok (.aload_n 0, 1) := by decide +kernel
theorem dX11_beginOne_74 : decode cX11_beginOne 74 = .ok (.getfield 117, 3) := by decide +kernel
theorem dX11_beginOne_77 : decode cX11_beginOne 77 = .ok (.goto 4, 3) := by decide +kernel
theorem dX11_beginOne_80 : decode cX11_beginOne 80 = .ok (.iload_n 2, 1) := by decide +kernel
theorem dX11_beginOne_81 : decode cX11_beginOne 81 = .ok (.invokevirtual 148, 3) := by decide +kernel
theorem dX11_beginOne_84 : decode cX11_beginOne 84 = .ok (.aload_n 0, 1) := by decide +kernel
theorem dX11_beginOne_85 : decode cX11_beginOne 85 = .ok (.invokevirtual 165, 3) := by decide +kernel
theorem dX11_beginOne_88 : decode cX11_beginOne 88 = .ok (.aload_n 0, 1) := by decide +kernel
theorem dX11_beginOne_89 : decode cX11_beginOne 89 = .ok (.invokevirtual 177, 3) := by decide +kernel
theorem dX11_beginOne_92 : decode cX11_beginOne 92 = .ok (.iconst 0, 1) := by decide +kernel
theorem dX11_beginOne_93 : decode cX11_beginOne 93 = .ok (.ireturn, 1) := by decide +kernel
theorem dX11_beginOne_94 : decode cX11_beginOne 94 = .ok (.aload_n 0, 1) := by decide +kernel
theorem dX11_beginOne_95 : decode cX11_beginOne 95 = .ok (.getfield 111, 3) := by decide +kernel
theorem dX11_beginOne_98 : decode cX11_beginOne 98 = .ok (.bipush 40, 2) := by decide +kernel
theorem dX11_beginOne_100 : decode cX11_beginOne 100 = .ok (.if_icmp .ne 10, 3) := by decide +kernel
theorem dX11_beginOne_103 : decode cX11_beginOne 103 = .ok (.aload_n 0, 1) := by decide +kernel
theorem dX11_beginOne_104 : decode cX11_beginOne 104 = .ok (.bipush 40, 2) := by decide +kernel
theorem dX11_beginOne_106 : decode cX11_beginOne 106 = .ok (.invokevirtual 180, 3) := by decide +kernel
theorem dX11_beginOne_109 : decode cX11_beginOne 109 = .ok (.ireturn, 1) := by decide +kernel
theorem dX11_beginOne_110 : decode cX11_beginOne 110 = .ok (.aload_n 0, 1) := by decide +kernel
theorem dX11_beginOne_111 : decode cX11_beginOne 111 = .ok (.getfield 111, 3) := by decide +kernel
theorem dX11_beginOne_114 : decode cX11_beginOne 114 = .ok (.bipush 45, 2) := by decide +kernel
theorem dX11_beginOne_116 : decode cX11_beginOne 116 = .ok (.if_icmp .ne 9, 3) := by decide +kernel
theorem dX11_beginOne_119 : decode cX11_beginOne 119 = .ok (.aload_n 0, 1) := by decide +kernel
theorem dX11_beginOne_120 : decode cX11_beginOne 120 = .ok (.iconst 2, 1) := by decide +kernel
theorem dX11_beginOne_121 : decode cX11_beginOne 121 = .ok (.invokevirtual 180, 3) := by decide +kernel
theorem dX11_beginOne_124 : decode cX11_beginOne 124 = .ok (.ireturn, 1) := by decide +kernel
theorem dX11_beginOne_125 : decode cX11_beginOne 125 = .ok (.aload_n 0, 1) := by decide +kernel
theorem dX11_beginOne_126 : decode cX11_beginOne 126 = .ok (.bipush 109, 2) := by decide +kernel
theorem dX11_beginOne_128 : decode cX11_beginOne 128 = .ok (.bipush 105, 2) := by decide +kernel
theorem dX11_beginOne_130 : decode cX11_beginOne 130 = .ok (.bipush 110, 2) := by decide +kernel
theorem dX11_beginOne_132 : decode cX11_beginOne 132 = .ok (.invokestatic 128, 3) := by decide +kernel
theorem dX11_beginOne_135 : decode cX11_beginOne 135 = .ok (.invokevirtual 183, 3) := by decide +kernel
theorem dX11_beginOne_138 : decode cX11_beginOne 138 = .ok (.ifCond .eq 10, 3) := by decide +kernel
theorem dX11_beginOne_141 : decode cX11_beginOne 141 = .ok (.aload_n 0, 1) := by decide +kernel
theorem dX11_beginOne_142 : decode cX11_beginOne 142 = .ok (.bipush 41, 2) := by decide +kernel
theorem dX11_beginOne_144 : decode cX11_beginOne 144 = .ok (.invokevirtual 180, 3) := by decide +kernel
theorem dX11_beginOne_147 : decode cX11_beginOne 147 = .ok (.ireturn, 1) := by decide +kernel
theorem dX11_beginOne_148 : decode cX11_beginOne 148 = .ok (.aload_n 0, 1) := by decide +kernel
theorem dX11_beginOne_149 : decode cX11_beginOne 149 = .ok (.bipush 109, 2) := by decide +kernel
theorem dX11_beginOne_151 : decode cX11_beginOne 151 = .ok (.bipush 97, 2) := by decide +kernel
theorem dX11_beginOne_153 : decode cX11_beginOne 153 = .ok (.bipush 120, 2) := by decide +kernel
theorem dX11_beginOne_155 : decode cX11_beginOne 155 = .ok (.invokestatic 128, 3) := by decide +kernel
theorem dX11_beginOne_158 : decode cX11_beginOne 158 = .ok (.invokevirtual 183, 3) := by decide +kernel
theorem dX11_beginOne_161 : decode cX11_beginOne 161 = .ok (.ifCond .eq 10, 3) := by decide +kernel
theorem dX11_beginOne_164 : decode cX11_beginOne 164 = .ok (.aload_n 0, 1) := by decide +kernel
theorem dX11_beginOne_165 : decode cX11_beginOne 165 = .ok (.bipush 42, 2) := by decide +kernel
theorem dX11_beginOne_167 : decode cX11_beginOne 167 = .ok (.invokevirtual 180, 3) := by decide +kernel
theorem dX11_beginOne_170 : decode cX11_beginOne 170 = .ok (.ireturn, 1) := by decide +kernel
theorem dX11_beginOne_171 : decode cX11_beginOne 171 = .ok (.aload_n 0, 1) := by decide +kernel
theorem dX11_beginOne_172 : decode cX11_beginOne 172 = .ok (.bipush 110, 2) := by decide +kernel
theorem dX11_beginOne_174 : decode cX11_beginOne 174 = .ok (.bipush 111, 2) := by decide +kernel
theorem dX11_beginOne_176 : decode cX11_beginOne 176 = .ok (.bipush 116, 2) := by decide +kernel
theorem dX11_beginOne_178 : decode cX11_beginOne 178 = .ok (.invokestatic 128, 3) := by decide +kernel
theorem dX11_beginOne_181 : decode cX11_beginOne 181 = .ok (.invokevirtual 183, 3) := by decide +kernel
theorem dX11_beginOne_184 : decode cX11_beginOne 184 = .ok (.ifCond .eq 20, 3) := by decide +kernel
theorem dX11_beginOne_187 : decode cX11_beginOne 187 = .ok (.aload_n 0, 1) := by decide +kernel
theorem dX11_beginOne_188 : decode cX11_beginOne 188 = .ok (.iload_n 1, 1) := by decide +kernel
theorem dX11_beginOne_189 : decode cX11_beginOne 189 = .ok (.invokevirtual 187, 3) := by decide +kernel
theorem dX11_beginOne_192 : decode cX11_beginOne 192 = .ok (.ifCond .eq 12, 3) := by decide +kernel
theorem dX11_beginOne_195 : decode cX11_beginOne 195 = .ok (.aload_n 0, 1) := by decide +kernel
theorem dX11_beginOne_196 : decode cX11_beginOne 196 = .ok (.bipush 20, 2) := by decide +kernel
theorem dX11_beginOne_198 : decode cX11_beginOne 198 = .ok (.invokevirtual 180, 3) := by decide +kernel
theorem dX11_beginOne_201 : decode cX11_beginOne 201 = .ok (.goto 4, 3) := by decide +kernel
theorem dX11_beginOne_204 : decode cX11_beginOne 204 = .ok (.iconst 1, 1) := by decide +kernel
theorem dX11_beginOne_205 : decode cX11_beginOne 205 = .ok (.ireturn, 1) := by decide +kernel
theorem dX11_compareOf_0 : decode cX11_compareOf 0 = .ok (.aload_n 0, 1) := by decide +kernel
theorem dX11_compareOf_1 : decode cX11_compareOf 1 = .ok (.getfield 111, 3) := by decide +kernel
theorem dX11_compareOf_4 : decode cX11_compareOf 4 = .ok (.bipush 60, 2) := by decide +kernel
theorem dX11_compareOf_6 : decode cX11_compareOf 6 = .ok (.if_icmp .ne 8, 3) := by decide +kernel
theorem dX11_compareOf_9 : decode cX11_compareOf 9 = .ok (.bipush 10, 2) := by decide +kernel
theorem dX11_compareOf_11 : decode cX11_compareOf 11 = .ok (.goto 72, 3) := by decide +kernel
theorem dX11_compareOf_14 : decode cX11_compareOf 14 = .ok (.aload_n 0, 1) := by decide +kernel
theorem dX11_compareOf_15 : decode cX11_compareOf 15 = .ok (.getfield 111, 3) := by decide +kernel
theorem dX11_compareOf_18 : decode cX11_compareOf 18 = .ok (.iconst 4, 1) := by decide +kernel
theorem dX11_compareOf_19 : decode cX11_compareOf 19 = .ok (.if_icmp .ne 8, 3) := by decide +kernel
theorem dX11_compareOf_22 : decode cX11_compareOf 22 = .ok (.bipush 11, 2) := by decide +kernel
theorem dX11_compareOf_24 : decode cX11_compareOf 24 = .ok (.goto 59, 3) := by decide +kernel
theorem dX11_compareOf_27 : decode cX11_compareOf 27 = .ok (.aload_n 0, 1) := by decide +kernel
theorem dX11_compareOf_28 : decode cX11_compareOf 28 = .ok (.getfield 111, 3) := by decide +kernel
theorem dX11_compareOf_31 : decode cX11_compareOf 31 = .ok (.bipush 62, 2) := by decide +kernel
theorem dX11_compareOf_33 : decode cX11_compareOf 33 = .ok (.if_icmp .ne 8, 3) := by decide +kernel
theorem dX11_compareOf_36 : decode cX11_compareOf 36 = .ok (.bipush 12, 2) := by decide +kernel
theorem dX11_compareOf_38 : decode cX11_compareOf 38 = .ok (.goto 45, 3) := by decide +kernel
theorem dX11_compareOf_41 : decode cX11_compareOf 41 = .ok (.aload_n 0, 1) := by decide +kernel
theorem dX11_compareOf_42 : decode cX11_compareOf 42 = .ok (.getfield 111, 3) := by decide +kernel
theorem dX11_compareOf_45 : decode cX11_compareOf 45 = .ok (.iconst 5, 1) := by decide +kernel
theorem dX11_compareOf_46 : decode cX11_compareOf 46 = .ok (.if_icmp .ne 8, 3) := by decide +kernel
theorem dX11_compareOf_49 : decode cX11_compareOf 49 = .ok (.bipush 13, 2) := by decide +kernel
theorem dX11_compareOf_51 : decode cX11_compareOf 51 = .ok (.goto 32, 3) := by decide +kernel
theorem dX11_compareOf_54 : decode cX11_compareOf 54 = .ok (.aload_n 0, 1) := by decide +kernel
theorem dX11_compareOf_55 : decode cX11_compareOf 55 = .ok (.getfield 111, 3) := by decide +kernel
theorem dX11_compareOf_58 : decode cX11_compareOf 58 = .ok (.bipush 61, 2) := by decide +kernel
theorem dX11_compareOf_60 : decode cX11_compareOf 60 = .ok (.if_icmp .ne 8, 3) := by decide +kernel
theorem dX11_compareOf_63 : decode cX11_compareOf 63 = .ok (.bipush 14, 2) := by decide +kernel
theorem dX11_compareOf_65 : decode cX11_compareOf 65 = .ok (.goto 18, 3) := by decide +kernel
theorem dX11_compareOf_68 : decode cX11_compareOf 68 = .ok (.aload_n 0, 1) := by decide +kernel
theorem dX11_compareOf_69 : decode cX11_compareOf 69 = .ok (.getfield 111, 3) := by decide +kernel
theorem dX11_compareOf_72 : decode cX11_compareOf 72 = .ok (.bipush 35, 2) := by decide +kernel
theorem dX11_compareOf_74 : decode cX11_compareOf 74 = .ok (.if_icmp .ne 8, 3) := by decide +kernel
theorem dX11_compareOf_77 : decode cX11_compareOf 77 = .ok (.bipush 15, 2) := by decide +kernel
theorem dX11_compareOf_79 : decode cX11_compareOf 79 = .ok (.goto 4, 3) := by decide +kernel
theorem dX11_compareOf_82 : decode cX11_compareOf 82 = .ok (.iconst (-1), 1) := by decide +kernel
theorem dX11_compareOf_83 : decode cX11_compareOf 83 = .ok (.ireturn, 1) := by decide +kernel
theorem dX11_betweenOf_0 : decode cX11_betweenOf 0 = .ok (.aload_n 0, 1) := by decide +kernel
theorem dX11_betweenOf_1 : decode cX11_betweenOf 1 = .ok (.getfield 111, 3) := by decide +kernel
theorem dX11_betweenOf_4 : decode cX11_betweenOf 4 = .ok (.bipush 43, 2) := by decide +kernel
theorem dX11_betweenOf_6 : decode cX11_betweenOf 6 = .ok (.if_icmp .ne 5, 3) := by decide +kernel
theorem dX11_betweenOf_9 : decode cX11_betweenOf 9 = .ok (.iconst 3, 1) := by decide +kernel
theorem dX11_betweenOf_10 : decode cX11_betweenOf 10 = .ok (.ireturn, 1) := by decide +kernel
theorem dX11_betweenOf_11 : decode cX11_betweenOf 11 = .ok (.aload_n 0, 1) := by decide +kernel
theorem dX11_betweenOf_12 : decode cX11_betweenOf 12 = .ok (.getfield 111, 3) := by decide +kernel
theorem dX11_betweenOf_15 : decode cX11_betweenOf 15 = .ok (.bipush 45, 2) := by decide +kernel
theorem dX11_betweenOf_17 : decode cX11_betweenOf 17 = .ok (.if_icmp .ne 5, 3) := by decide +kernel
theorem dX11_betweenOf_20 : decode cX11_betweenOf 20 = .ok (.iconst 4, 1) := by decide +kernel
theorem dX11_betweenOf_21 : decode cX11_betweenOf 21 = .ok (.ireturn, 1) := by decide +kernel
theorem dX11_betweenOf_22 : decode cX11_betweenOf 22 = .ok (.aload_n 0, 1) := by decide +kernel
theorem dX11_betweenOf_23 : decode cX11_betweenOf 23 = .ok (.getfield 111, 3) := by decide +kernel
theorem dX11_betweenOf_26 : decode cX11_betweenOf 26 = .ok (.bipush 42, 2) := by decide +kernel
theorem dX11_betweenOf_28 : decode cX11_betweenOf 28 = .ok (.if_icmp .ne 5, 3) := by decide +kernel
theorem dX11_betweenOf_31 : decode cX11_betweenOf 31 = .ok (.iconst 5, 1) := by decide +kernel
theorem dX11_betweenOf_32 : decode cX11_betweenOf 32 = .ok (.ireturn, 1) := by decide +kernel
theorem dX11_betweenOf_33 : decode cX11_betweenOf 33 = .ok (.aload_n 0, 1) := by decide +kernel
theorem dX11_betweenOf_34 : decode cX11_betweenOf 34 = .ok (.getfield 111, 3) := by decide +kernel
theorem dX11_betweenOf_37 : decode cX11_betweenOf 37 = .ok (.bipush 47, 2) := by decide +kernel
theorem dX11_betweenOf_39 : decode cX11_betweenOf 39 = .ok (.if_icmp .ne 6, 3) := by decide +kernel
theorem dX11_betweenOf_42 : decode cX11_betweenOf 42 = .ok (.bipush 6, 2) := by decide +kernel
theorem dX11_betweenOf_44 : decode cX11_betweenOf 44 = .ok (.ireturn, 1) := by decide +kernel
theorem dX11_betweenOf_45 : decode cX11_betweenOf 45 = .ok (.iload_n 1, 1) := by decide +kernel
theorem dX11_betweenOf_46 : decode cX11_betweenOf 46 = .ok (.ifCond .eq 10, 3) := by decide +kernel
theorem dX11_betweenOf_49 : decode cX11_betweenOf 49 = .ok (.aload_n 0, 1) := by decide +kernel
theorem dX11_betweenOf_50 : decode cX11_betweenOf 50 = .ok (.invokevirtual 161, 3) := by decide +kernel
theorem dX11_betweenOf_53 : decode cX11_betweenOf 53 = .ok (.ifCond .lt 5, 3) := by decide +kernel
theorem dX11_betweenOf_56 : decode cX11_betweenOf 56 = .ok (.iconst (-1), 1) := by decide +kernel
theorem dX11_betweenOf_57 : decode cX11_betweenOf 57 = .ok (.ireturn, 1) := by decide +kernel
theorem dX11_betweenOf_58 : decode cX11_betweenOf 58 = .ok (.aload_n 0, 1) := by decide +kernel
theorem dX11_betweenOf_59 : decode cX11_betweenOf 59 = .ok (.invokevirtual 191, 3) := by decide +kernel
theorem dX11_betweenOf_62 : decode cX11_betweenOf 62 = .ok (.ifCond .ne 8, 3) := by decide +kernel
theorem dX11_betweenOf_65 : decode cX11_betweenOf 65 = .ok (.aload_n 0, 1) := by decide +kernel
theorem dX11_betweenOf_66 : decode cX11_betweenOf 66 = .ok (.invokevirtual 195, 3) := by decide +kernel
theorem dX11_betweenOf_69 : decode cX11_betweenOf 69 = .ok (.ireturn, 1) := by decide +kernel
theorem dX11_betweenOf_70 : decode cX11_betweenOf 70 = .ok (.aload_n 0, 1) := by decide +kernel
theorem dX11_betweenOf_71 : decode cX11_betweenOf 71 = .ok (.bipush 97, 2) := by decide +kernel
theorem dX11_betweenOf_73 : decode cX11_betweenOf 73 = .ok (.bipush 110, 2) := by decide +kernel
theorem dX11_betweenOf_75 : decode cX11_betweenOf 75 = .ok (.bipush 100, 2) := by decide +kernel
theorem dX11_betweenOf_77 : decode cX11_betweenOf 77 = .ok (.invokestatic 128, 3) := by decide +kernel
theorem dX11_betweenOf_80 : decode cX11_betweenOf 80 = .ok (.invokevirtual 183, 3) := by decide +kernel
theorem dX11_betweenOf_83 : decode cX11_betweenOf 83 = .ok (.ifCond .eq 8, 3) := by decide +kernel
theorem dX11_betweenOf_86 : decode cX11_betweenOf 86 = .ok (.bipush 21, 2) := by decide +kernel
theorem dX11_betweenOf_88 : decode cX11_betweenOf 88 = .ok (.goto 28, 3) := by decide +kernel
theorem dX11_betweenOf_91 : decode cX11_betweenOf 91 = .ok (.aload_n 0, 1) := by decide +kernel
theorem dX11_betweenOf_92 : decode cX11_betweenOf 92 = .ok (.getfield 111, 3) := by decide +kernel
theorem dX11_betweenOf_95 : decode cX11_betweenOf 95 = .ok (.iconst 2, 1) := by decide +kernel
theorem dX11_betweenOf_96 : decode cX11_betweenOf 96 = .ok (.if_icmp .ne 19, 3) := by decide +kernel
theorem dX11_betweenOf_99 : decode cX11_betweenOf 99 = .ok (.aload_n 0, 1) := by decide +kernel
theorem dX11_betweenOf_100 : decode cX11_betweenOf 100 = .ok (.getfield 124, 3) := by decide +kernel
theorem dX11_betweenOf_103 : decode cX11_betweenOf 103 = .ok (.ldc2_w 198, 3) := by decide +kernel
theorem dX11_betweenOf_106 : decode cX11_betweenOf 106 = .ok (.lcmp, 1) := by decide +kernel
theorem dX11_betweenOf_107 : decode cX11_betweenOf 107 = .ok (.ifCond .ne 8, 3) := by decide +kernel
theorem dX11_betweenOf_110 : decode cX11_betweenOf 110 = .ok (.bipush 22, 2) := by decide +kernel
theorem dX11_betweenOf_112 : decode cX11_betweenOf 112 = .ok (.goto 4, 3) := by decide +kernel
theorem dX11_betweenOf_115 : decode cX11_betweenOf 115 = .ok (.iconst (-1), 1) := by decide +kernel
theorem dX11_betweenOf_116 : decode cX11_betweenOf 116 = .ok (.ireturn, 1) := by decide +kernel
theorem dX11_behindOne_0 : decode cX11_behindOne 0 = .ok (.aload_n 0, 1) := by decide +kernel
theorem dX11_behindOne_1 : decode cX11_behindOne 1 = .ok (.iload_n 1, 1) := by decide +kernel
theorem dX11_behindOne_2 : decode cX11_behindOne 2 = .ok (.invokevirtual 200, 3) := by decide +kernel
theorem dX11_behindOne_5 : decode cX11_behindOne 5 = .ok (.istore_n 2, 1) := by decide +kernel
theorem dX11_behindOne_6 : decode cX11_behindOne 6 = .ok (.aload_n 0, 1) := by decide +kernel
theorem dX11_behindOne_7 : decode cX11_behindOne 7 = .ok (.invokevirtual 161, 3) := by decide +kernel
theorem dX11_behindOne_10 : decode cX11_behindOne 10 = .ok (.istore_n 3, 1) := by decide +kernel
theorem dX11_behindOne_11 : decode cX11_behindOne 11 = .ok (.iload_n 3, 1) := by decide +kernel
theorem dX11_behindOne_12 : decode cX11_behindOne 12 = .ok (.ifCond .ge 7, 3) := by decide +kernel
theorem dX11_behindOne_15 : decode cX11_behindOne 15 = .ok (.iconst (-1), 1) := by decide +kernel
theorem dX11_behindOne_16 : decode cX11_behindOne 16 = .ok (.goto 9, 3) := by decide +kernel
theorem dX11_behindOne_19 : decode cX11_behindOne 19 = .ok (.aload_n 0, 1) := by decide +kernel
theorem dX11_behindOne_20 : decode cX11_behindOne 20 = .ok (.getfield 26, 3) := by decide +kernel
theorem dX11_behindOne_23 : decode cX11_behindOne 23 = .ok (.iload_n 3, 1) := by decide +kernel
theorem dX11_behindOne_24 : decode cX11_behindOne 24 = .ok (.iaload, 1) := by decide +kernel
theorem dX11_behindOne_25 : decode cX11_behindOne 25 = .ok (.istore 4, 2) := by decide +kernel
theorem dX11_behindOne_27 : decode cX11_behindOne 27 = .ok (.iload_n 2, 1) := by decide +kernel
theorem dX11_behindOne_28 : decode cX11_behindOne 28 = .ok (.ifCond .lt 24, 3) := by decide +kernel
theorem dX11_behindOne_31 : decode cX11_behindOne 31 = .ok (.aload_n 0, 1) := by decide +kernel
theorem dX11_behindOne_32 : decode cX11_behindOne 32 = .ok (.iload_n 2, 1) := by decide +kernel
theorem dX11_behindOne_33 : decode cX11_behindOne 33 = .ok (.invokestatic 145, 3) := by decide +kernel
theorem dX11_behindOne_36 : decode cX11_behindOne 36 = .ok (.invokevirtual 158, 3) := by decide +kernel
theorem dX11_behindOne_39 : decode cX11_behindOne 39 = .ok (.aload_n 0, 1) := by decide +kernel
theorem dX11_behindOne_40 : decode cX11_behindOne 40 = .ok (.iload_n 2, 1) := by decide +kernel
theorem dX11_behindOne_41 : decode cX11_behindOne 41 = .ok (.invokevirtual 168, 3) := by decide +kernel
theorem dX11_behindOne_44 : decode cX11_behindOne 44 = .ok (.aload_n 0, 1) := by decide +kernel
theorem dX11_behindOne_45 : decode cX11_behindOne 45 = .ok (.iconst 0, 1) := by decide +kernel
theorem dX11_behindOne_46 : decode cX11_behindOne 46 = .ok (.putfield 154, 3) := by decide +kernel
theorem dX11_behindOne_49 : decode cX11_behindOne 49 = .ok (.goto 132, 3) := by decide +kernel
theorem dX11_behindOne_52 : decode cX11_behindOne 52 = .ok (.aload_n 0, 1) := by decide +kernel
theorem dX11_behindOne_53 : decode cX11_behindOne 53 = .ok (.getfield 111, 3) := by decide +kernel
theorem dX11_behindOne_56 : decode cX11_behindOne 56 = .ok (.bipush 41, 2) := by decide +kernel
theorem dX11_behindOne_58 : decode cX11_behindOne 58 = .ok (.if_icmp .ne 75, 3) := by decide +kernel
theorem dX11_behindOne_61 : decode cX11_behindOne 61 = .ok (.iload 4, 2) := by decide +kernel
theorem dX11_behindOne_63 : decode cX11_behindOne 63 = .ok (.bipush 40, 2) := by decide +kernel
theorem dX11_behindOne_65 : decode cX11_behindOne 65 = .ok (.if_icmp .eq 10, 3) := by decide +kernel
theorem dX11_behindOne_68 : decode cX11_behindOne 68 = .ok (.iload 4, 2) := by decide +kernel
theorem dX11_behindOne_70 : decode cX11_behindOne 70 = .ok (.bipush 43, 2) := by decide +kernel
theorem dX11_behindOne_72 : decode cX11_behindOne 72 = .ok (.if_icmp .lt 61, 3) := by decide +kernel
theorem dX11_behindOne_75 : decode cX11_behindOne 75 = .ok (.aload_n 0, 1) := by decide +kernel
theorem dX11_behindOne_76 : decode cX11_behindOne 76 = .ok (.iconst 1, 1) := by decide +kernel
theorem dX11_behindOne_77 : decode cX11_behindOne 77 = .ok (.invokevirtual 158, 3) := by decide +kernel
theorem dX11_behindOne_80 : decode cX11_behindOne 80 = .ok (.aload_n 0, 1) := by decide +kernel
theorem dX11_behindOne_81 : decode cX11_behindOne 81 = .ok (.dup, 1) := by decide +kernel
theorem dX11_behindOne_82 : decode cX11_behindOne 82 = .ok (.getfield 142, 3) := by decide +kernel
theorem dX11_behindOne_85 : decode cX11_behindOne 85 = .ok (.iconst 1, 1) := by decide +kernel
theorem dX11_behindOne_86 : decode cX11_behindOne 86 = .ok (.isub, 1) := by decide +kernel
theorem dX11_behindOne_87 : decode cX11_behindOne 87 = .ok (.putfield 142, 3) := by decide +kernel
theorem dX11_behindOne_90 : decode cX11_behindOne 90 = .ok (.aload_n 0, 1) := by decide +kernel
theorem dX11_behindOne_91 : decode cX11_behindOne 91 = .ok (.dup, 1) := by decide +kernel
theorem dX11_behindOne_92 : decode cX11_behindOne 92 = .ok (.getfield 151, 3) := by decide +kernel
theorem dX11_behindOne_95 : decode cX11_behindOne 95 = .ok (.iconst 1, 1) := by decide +kernel
theorem dX11_behindOne_96 : decode cX11_behindOne 96 = .ok (.isub, 1) := by decide +kernel
theorem dX11_behindOne_97 : decode cX11_behindOne 97 = .ok (.putfield 151, 3) := by decide +kernel
theorem dX11_behindOne_100 : decode cX11_behindOne 100 = .ok (.iload 4, 2) := by decide +kernel
theorem dX11_behindOne_102 : decode cX11_behindOne 102 = .ok (.bipush 43, 2) := by decide +kernel
theorem dX11_behindOne_104 : decode cX11_behindOne 104 = .ok (.if_icmp .lt 22, 3) := by decide +kernel
theorem dX11_behindOne_107 : decode cX11_behindOne 107 = .ok (.aload_n 0, 1) := by decide +kernel
theorem dX11_behindOne_108 : decode cX11_behindOne 108 = .ok (.iload 4, 2) := by decide +kernel
theorem dX11_behindOne_110 : decode cX11_behindOne 110 = .ok (.bipush 43, 2) := by decide +kernel
theorem dX11_behindOne_112 : decode cX11_behindOne 112 = .ok (.if_icmp .ne 8, 3) := by decide +kernel
theorem dX11_behindOne_115 : decode cX11_behindOne 115 = .ok (.bipush 7, 2) := by decide +kernel
theorem dX11_behindOne_117 : decode cX11_behindOne 117 = .ok (.goto 5, 3) := by decide +kernel
theorem dX11_behindOne_120 : decode cX11_behindOne 120 = .ok (.bipush 8, 2) := by decide +kernel
theorem dX11_behindOne_122 : decode cX11_behindOne 122 = .ok (.iconst 0, 1) := by decide +kernel
theorem dX11_behindOne_123 : decode cX11_behindOne 123 = .ok (.invokevirtual 148, 3) := by decide +kernel
theorem dX11_behindOne_126 : decode cX11_behindOne 126 = .ok (.aload_n 0, 1) := by decide +kernel
theorem dX11_behindOne_127 : decode cX11_behindOne 127 = .ok (.invokevirtual 177, 3) := by decide +kernel
theorem dX11_behindOne_130 : decode cX11_behindOne 130 = .ok (.goto 51, 3) := by decide +kernel
theorem dX11_behindOne_133 : decode cX11_behindOne 133 = .ok (.aload_n 0, 1) := by decide +kernel
theorem dX11_behindOne_134 : decode cX11_behindOne 134 = .ok (.getfield 111, 3) := by decide +kernel
theorem dX11_behindOne_137 : decode cX11_behindOne 137 = .ok (.bipush 44, 2) := by decide +kernel
theorem dX11_behindOne_139 : decode cX11_behindOne 139 = .ok (.if_icmp .ne 40, 3) := by decide +kernel
theorem dX11_behindOne_142 : decode cX11_behindOne 142 = .ok (.iload 4, 2) := by decide +kernel
theorem dX11_behindOne_144 : decode cX11_behindOne 144 = .ok (.bipush 41, 2) := by decide +kernel
theorem dX11_behindOne_146 : decode cX11_behindOne 146 = .ok (.if_icmp .eq 10, 3) := by decide +kernel
theorem dX11_behindOne_149 : decode cX11_behindOne 149 = .ok (.iload 4, 2) := by decide +kernel
theorem dX11_behindOne_151 : decode cX11_behindOne 151 = .ok (.bipush 42, 2) := by decide +kernel
theorem dX11_behindOne_153 : decode cX11_behindOne 153 = .ok (.if_icmp .ne 26, 3) := by decide +kernel
theorem dX11_behindOne_156 : decode cX11_behindOne 156 = .ok (.aload_n 0, 1) := by decide +kernel
theorem dX11_behindOne_157 : decode cX11_behindOne 157 = .ok (.iconst 1, 1) := by decide +kernel
theorem dX11_behindOne_158 : decode cX11_behindOne 158 = .ok (.invokevirtual 158, 3) := by decide +kernel
theorem dX11_behindOne_161 : decode cX11_behindOne 161 = .ok (.aload_n 0, 1) := by decide +kernel
theorem dX11_behindOne_162 : decode cX11_behindOne 162 = .ok (.getfield 26, 3) := by decide +kernel
theorem dX11_behindOne_165 : decode cX11_behindOne 165 = .ok (.iload_n 3, 1) := by decide +kernel
theorem dX11_behindOne_166 : decode cX11_behindOne 166 = .ok (.iload 4, 2) := by decide +kernel
theorem dX11_behindOne_168 : decode cX11_behindOne 168 = .ok (.iconst 2, 1) := by decide +kernel
theorem dX11_behindOne_169 : decode cX11_behindOne 169 = .ok (.iadd, 1) := by decide +kernel
theorem dX11_behindOne_170 : decode cX11_behindOne 170 = .ok (.iastore, 1) := by decide +kernel
theorem dX11_behindOne_171 : decode cX11_behindOne 171 = .ok (.aload_n 0, 1) := by decide +kernel
theorem dX11_behindOne_172 : decode cX11_behindOne 172 = .ok (.iconst 0, 1) := by decide +kernel
theorem dX11_behindOne_173 : decode cX11_behindOne 173 = .ok (.putfield 154, 3) := by decide +kernel
theorem dX11_behindOne_176 : decode cX11_behindOne 176 = .ok (.goto 5, 3) := by decide +kernel
theorem dX11_behindOne_179 : decode cX11_behindOne 179 = .ok (.iconst 0, 1) := by decide +kernel
theorem dX11_behindOne_180 : decode cX11_behindOne 180 = .ok (.ireturn, 1) := by decide +kernel
theorem dX11_behindOne_181 : decode cX11_behindOne 181 = .ok (.aload_n 0, 1) := by decide +kernel
theorem dX11_behindOne_182 : decode cX11_behindOne 182 = .ok (.invokevirtual 165, 3) := by decide +kernel
theorem dX11_behindOne_185 : decode cX11_behindOne 185 = .ok (.iconst 1, 1) := by decide +kernel
theorem dX11_behindOne_186 : decode cX11_behindOne 186 = .ok (.ireturn, 1) := by decide +kernel
theorem dX11_parsed_0 : decode cX11_parsed 0 = .ok (.aload_n 0, 1) := by decide +kernel
theorem dX11_parsed_1 : decode cX11_parsed 1 = .ok (.iconst 0, 1) := by decide +kernel
theorem dX11_parsed_2 : decode cX11_parsed 2 = .ok (.putfield 142, 3) := by decide +kernel
theorem dX11_parsed_5 : decode cX11_parsed 5 = .ok (.aload_n 0, 1) := by decide +kernel
theorem dX11_parsed_6 : decode cX11_parsed 6 = .ok (.iconst 0, 1) := by decide +kernel
theorem dX11_parsed_7 : decode cX11_parsed 7 = .ok (.putfield 154, 3) := by decide +kernel
theorem dX11_parsed_10 : decode cX11_parsed 10 = .ok (.iconst 1, 1) := by decide +kernel
theorem dX11_parsed_11 : decode cX11_parsed 11 = .ok (.istore_n 2, 1) := by decide +kernel
theorem dX11_parsed_12 : decode cX11_parsed 12 = .ok (.iload_n 2, 1) := by decide +kernel
theorem dX11_parsed_13 : decode cX11_parsed 13 = .ok (.ifCond .eq 34, 3) := by decide +kernel
theorem dX11_parsed_16 : decode cX11_parsed 16 = .ok (.aload_n 0, 1) := by decide +kernel
theorem dX11_parsed_17 : decode cX11_parsed 17 = .ok (.getfield 154, 3) := by decide +kernel
theorem dX11_parsed_20 : decode cX11_parsed 20 = .ok (.ifCond .eq 12, 3) := by decide +kernel
theorem dX11_parsed_23 : decode cX11_parsed 23 = .ok (.aload_n 0, 1) := by decide +kernel
theorem dX11_parsed_24 : decode cX11_parsed 24 = .ok (.iload_n 1, 1) := by decide +kernel
theorem dX11_parsed_25 : decode cX11_parsed 25 = .ok (.invokevirtual 204, 3) := by decide +kernel
theorem dX11_parsed_28 : decode cX11_parsed 28 = .ok (.istore_n 2, 1) := by decide +kernel
theorem dX11_parsed_29 : decode cX11_parsed 29 = .ok (.goto (-17), 3) := by decide +kernel
theorem dX11_parsed_32 : decode cX11_parsed 32 = .ok (.aload_n 0, 1) := by decide +kernel
theorem dX11_parsed_33 : decode cX11_parsed 33 = .ok (.iload_n 1, 1) := by decide +kernel
theorem dX11_parsed_34 : decode cX11_parsed 34 = .ok (.invokevirtual 207, 3) := by decide +kernel
theorem dX11_parsed_37 : decode cX11_parsed 37 = .ok (.istore_n 3, 1) := by decide +kernel
theorem dX11_parsed_38 : decode cX11_parsed 38 = .ok (.iload_n 3, 1) := by decide +kernel
theorem dX11_parsed_39 : decode cX11_parsed 39 = .ok (.ifCond .eq 5, 3) := by decide +kernel
theorem dX11_parsed_42 : decode cX11_parsed 42 = .ok (.iload_n 3, 1) := by decide +kernel
theorem dX11_parsed_43 : decode cX11_parsed 43 = .ok (.ireturn, 1) := by decide +kernel
theorem dX11_parsed_44 : decode cX11_parsed 44 = .ok (.goto (-32), 3) := by decide +kernel
theorem dX11_parsed_47 : decode cX11_parsed 47 = .ok (.aload_n 0, 1) := by decide +kernel
theorem dX11_parsed_48 : decode cX11_parsed 48 = .ok (.invokevirtual 161, 3) := by decide +kernel
theorem dX11_parsed_51 : decode cX11_parsed 51 = .ok (.ifCond .ge 14, 3) := by decide +kernel
theorem dX11_parsed_54 : decode cX11_parsed 54 = .ok (.iload_n 1, 1) := by decide +kernel
theorem dX11_parsed_55 : decode cX11_parsed 55 = .ok (.ifCond .eq 12, 3) := by decide +kernel
theorem dX11_parsed_58 : decode cX11_parsed 58 = .ok (.aload_n 0, 1) := by decide +kernel
theorem dX11_parsed_59 : decode cX11_parsed 59 = .ok (.invokevirtual 191, 3) := by decide +kernel
theorem dX11_parsed_62 : decode cX11_parsed 62 = .ok (.ifCond .ne 5, 3) := by decide +kernel
theorem dX11_parsed_65 : decode cX11_parsed 65 = .ok (.iconst 1, 1) := by decide +kernel
theorem dX11_parsed_66 : decode cX11_parsed 66 = .ok (.ireturn, 1) := by decide +kernel
theorem dX11_parsed_67 : decode cX11_parsed 67 = .ok (.aload_n 0, 1) := by decide +kernel
theorem dX11_parsed_68 : decode cX11_parsed 68 = .ok (.iconst 1, 1) := by decide +kernel
theorem dX11_parsed_69 : decode cX11_parsed 69 = .ok (.invokevirtual 158, 3) := by decide +kernel
theorem dX11_parsed_72 : decode cX11_parsed 72 = .ok (.iconst 0, 1) := by decide +kernel
theorem dX11_parsed_73 : decode cX11_parsed 73 = .ok (.ireturn, 1) := by decide +kernel
theorem dX11_isStrength_0 : decode cX11_isStrength 0 = .ok (.aload_n 0, 1) := by decide +kernel
theorem dX11_isStrength_1 : decode cX11_isStrength 1 = .ok (.getfield 101, 3) := by decide +kernel
theorem dX11_isStrength_4 : decode cX11_isStrength 4 = .ok (.aload_n 0, 1) := by decide +kernel
theorem dX11_isStrength_5 : decode cX11_isStrength 5 = .ok (.getfield 108, 3) := by decide +kernel
theorem dX11_isStrength_8 : decode cX11_isStrength 8 = .ok (.isub, 1) := by decide +kernel
theorem dX11_isStrength_9 : decode cX11_isStrength 9 = .ok (.bipush 8, 2) := by decide +kernel
theorem dX11_isStrength_11 : decode cX11_isStrength 11 = .ok (.if_icmp .ne 61, 3) := by decide +kernel
theorem dX11_isStrength_14 : decode cX11_isStrength 14 = .ok (.aload_n 0, 1) := by decide +kernel
theorem dX11_isStrength_15 : decode cX11_isStrength 15 = .ok (.aload_n 0, 1) := by decide +kernel
theorem dX11_isStrength_16 : decode cX11_isStrength 16 = .ok (.getfield 108, 3) := by decide +kernel
theorem dX11_isStrength_19 : decode cX11_isStrength 19 = .ok (.invokevirtual 104, 3) := by decide +kernel
theorem dX11_isStrength_22 : decode cX11_isStrength 22 = .ok (.bipush 115, 2) := by decide +kernel
theorem dX11_isStrength_24 : decode cX11_isStrength 24 = .ok (.if_icmp .ne 48, 3) := by decide +kernel
theorem dX11_isStrength_27 : decode cX11_isStrength 27 = .ok (.aload_n 0, 1) := by decide +kernel
theorem dX11_isStrength_28 : decode cX11_isStrength 28 = .ok (.aload_n 0, 1) := by decide +kernel
theorem dX11_isStrength_29 : decode cX11_isStrength 29 = .ok (.getfield 108, 3) := by decide +kernel
theorem dX11_isStrength_32 : decode cX11_isStrength 32 = .ok (.iconst 1, 1) := by decide +kernel
theorem dX11_isStrength_33 : decode cX11_isStrength 33 = .ok (.iadd, 1) := by decide +kernel
theorem dX11_isStrength_34 : decode cX11_isStrength 34 = .ok (.invokevirtual 104, 3) := by decide +kernel
theorem dX11_isStrength_37 : decode cX11_isStrength 37 = .ok (.bipush 116, 2) := by decide +kernel
theorem dX11_isStrength_39 : decode cX11_isStrength 39 = .ok (.if_icmp .ne 33, 3) := by decide +kernel
theorem dX11_isStrength_42 : decode cX11_isStrength 42 = .ok (.aload_n 0, 1) := by decide +kernel
theorem dX11_isStrength_43 : decode cX11_isStrength 43 = .ok (.aload_n 0, 1) := by decide +kernel
theorem dX11_isStrength_44 : decode cX11_isStrength 44 = .ok (.getfield 108, 3) := by decide +kernel
theorem dX11_isStrength_47 : decode cX11_isStrength 47 = .ok (.iconst 2, 1) := by decide +kernel
theorem dX11_isStrength_48 : decode cX11_isStrength 48 = .ok (.iadd, 1) := by decide +kernel
theorem dX11_isStrength_49 : decode cX11_isStrength 49 = .ok (.invokevirtual 104, 3) := by decide +kernel
theorem dX11_isStrength_52 : decode cX11_isStrength 52 = .ok (.bipush 114, 2) := by decide +kernel
theorem dX11_isStrength_54 : decode cX11_isStrength 54 = .ok (.if_icmp .ne 18, 3) := by decide +kernel
theorem dX11_isStrength_57 : decode cX11_isStrength 57 = .ok (.aload_n 0, 1) := by decide +kernel
theorem dX11_isStrength_58 : decode cX11_isStrength 58 = .ok (.aload_n 0, 1) := by decide +kernel
theorem dX11_isStrength_59 : decode cX11_isStrength 59 = .ok (.getfield 108, 3) := by decide +kernel
theorem dX11_isStrength_62 : decode cX11_isStrength 62 = .ok (.iconst 3, 1) := by decide +kernel
theorem dX11_isStrength_63 : decode cX11_isStrength 63 = .ok (.iadd, 1) := by decide +kernel
theorem dX11_isStrength_64 : decode cX11_isStrength 64 = .ok (.invokevirtual 104, 3) := by decide +kernel
theorem dX11_isStrength_67 : decode cX11_isStrength 67 = .ok (.bipush 101, 2) := by decide +kernel
theorem dX11_isStrength_69 : decode cX11_isStrength 69 = .ok (.if_icmp .eq 5, 3) := by decide +kernel
theorem dX11_isStrength_72 : decode cX11_isStrength 72 = .ok (.iconst 0, 1) := by decide +kernel
theorem dX11_isStrength_73 : decode cX11_isStrength 73 = .ok (.ireturn, 1) := by decide +kernel
theorem dX11_isStrength_74 : decode cX11_isStrength 74 = .ok (.aload_n 0, 1) := by decide +kernel
theorem dX11_isStrength_75 : decode cX11_isStrength 75 = .ok (.aload_n 0, 1) := by decide +kernel
theorem dX11_isStrength_76 : decode cX11_isStrength 76 = .ok (.getfield 108, 3) := by decide +kernel
theorem dX11_isStrength_79 : decode cX11_isStrength 79 = .ok (.iconst 4, 1) := by decide +kernel
theorem dX11_isStrength_80 : decode cX11_isStrength 80 = .ok (.iadd, 1) := by decide +kernel
theorem dX11_isStrength_81 : decode cX11_isStrength 81 = .ok (.invokevirtual 104, 3) := by decide +kernel
theorem dX11_isStrength_84 : decode cX11_isStrength 84 = .ok (.bipush 110, 2) := by decide +kernel
theorem dX11_isStrength_86 : decode cX11_isStrength 86 = .ok (.if_icmp .ne 54, 3) := by decide +kernel
theorem dX11_isStrength_89 : decode cX11_isStrength 89 = .ok (.aload_n 0, 1) := by decide +kernel
theorem dX11_isStrength_90 : decode cX11_isStrength 90 = .ok (.aload_n 0, 1) := by decide +kernel
theorem dX11_isStrength_91 : decode cX11_isStrength 91 = .ok (.getfield 108, 3) := by decide +kernel
theorem dX11_isStrength_94 : decode cX11_isStrength 94 = .ok (.iconst 5, 1) := by decide +kernel
theorem dX11_isStrength_95 : decode cX11_isStrength 95 = .ok (.iadd, 1) := by decide +kernel
theorem dX11_isStrength_96 : decode cX11_isStrength 96 = .ok (.invokevirtual 104, 3) := by decide +kernel
theorem dX11_isStrength_99 : decode cX11_isStrength 99 = .ok (.bipush 103, 2) := by decide +kernel
theorem dX11_isStrength_101 : decode cX11_isStrength 101 = .ok (.if_icmp .ne 39, 3) := by decide +kernel
theorem dX11_isStrength_104 : decode cX11_isStrength 104 = .ok (.aload_n 0, 1) := by decide +kernel
theorem dX11_isStrength_105 : decode cX11_isStrength 105 = .ok (.aload_n 0, 1) := by decide +kernel
theorem dX11_isStrength_106 : decode cX11_isStrength 106 = .ok (.getfield 108, 3) := by decide +kernel
theorem dX11_isStrength_109 : decode cX11_isStrength 109 = .ok (.bipush 6, 2) := by decide +kernel
theorem dX11_isStrength_111 : decode cX11_isStrength 111 = .ok (.iadd, 1) := by decide +kernel
theorem dX11_isStrength_112 : decode cX11_isStrength 112 = .ok (.invokevirtual 104, 3) := by decide +kernel
theorem dX11_isStrength_115 : decode cX11_isStrength 115 = .ok (.bipush 116, 2) := by decide +kernel
theorem dX11_isStrength_117 : decode cX11_isStrength 117 = .ok (.if_icmp .ne 23, 3) := by decide +kernel
theorem dX11_isStrength_120 : decode cX11_isStrength 120 = .ok (.aload_n 0, 1) := by decide +kernel
theorem dX11_isStrength_121 : decode cX11_isStrength 121 = .ok (.aload_n 0, 1) := by decide +kernel
theorem dX11_isStrength_122 : decode cX11_isStrength 122 = .ok (.getfield 108, 3) := by decide +kernel
theorem dX11_isStrength_125 : decode cX11_isStrength 125 = .ok (.bipush 7, 2) := by decide +kernel
theorem dX11_isStrength_127 : decode cX11_isStrength 127 = .ok (.iadd, 1) := by decide +kernel
theorem dX11_isStrength_128 : decode cX11_isStrength 128 = .ok (.invokevirtual 104, 3) := by decide +kernel
theorem dX11_isStrength_131 : decode cX11_isStrength 131 = .ok (.bipush 104, 2) := by decide +kernel
theorem dX11_isStrength_133 : decode cX11_isStrength 133 = .ok (.if_icmp .ne 7, 3) := by decide +kernel
theorem dX11_isStrength_136 : decode cX11_isStrength 136 = .ok (.iconst 1, 1) := by decide +kernel
theorem dX11_isStrength_137 : decode cX11_isStrength 137 = .ok (.goto 4, 3) := by decide +kernel
theorem dX11_isStrength_140 : decode cX11_isStrength 140 = .ok (.iconst 0, 1) := by decide +kernel
theorem dX11_isStrength_141 : decode cX11_isStrength 141 = .ok (.ireturn, 1) := by decide +kernel
theorem dX11_nameOf_0 : decode cX11_nameOf 0 = .ok (.aload_n 0, 1) := by decide +kernel
theorem dX11_nameOf_1 : decode cX11_nameOf 1 = .ok (.getfield 111, 3) := by decide +kernel
theorem dX11_nameOf_4 : decode cX11_nameOf 4 = .ok (.iconst 2, 1) := by decide +kernel
theorem dX11_nameOf_5 : decode cX11_nameOf 5 = .ok (.if_icmp .eq 5, 3) := by decide +kernel
theorem dX11_nameOf_8 : decode cX11_nameOf 8 = .ok (.iconst (-1), 1) := by decide +kernel
theorem dX11_nameOf_9 : decode cX11_nameOf 9 = .ok (.ireturn, 1) := by decide +kernel
theorem dX11_nameOf_10 : decode cX11_nameOf 10 = .ok (.aload_n 0, 1) := by decide +kernel
theorem dX11_nameOf_11 : decode cX11_nameOf 11 = .ok (.getfield 124, 3) := by decide +kernel
theorem dX11_nameOf_14 : decode cX11_nameOf 14 = .ok (.bipush 119, 2) := by decide +kernel
theorem dX11_nameOf_16 : decode cX11_nameOf 16 = .ok (.bipush 101, 2) := by decide +kernel
theorem dX11_nameOf_18 : decode cX11_nameOf 18 = .ok (.bipush 105, 2) := by decide +kernel
theorem dX11_nameOf_20 : decode cX11_nameOf 20 = .ok (.bipush 103, 2) := by decide +kernel
theorem dX11_nameOf_22 : decode cX11_nameOf 22 = .ok (.bipush 104, 2) := by decide +kernel
theorem dX11_nameOf_24 : decode cX11_nameOf 24 = .ok (.bipush 116, 2) := by decide +kernel
theorem dX11_nameOf_26 : decode cX11_nameOf 26 = .ok (.invokestatic 210, 3) := by decide +kernel
theorem dX11_nameOf_29 : decode cX11_nameOf 29 = .ok (.lcmp, 1) := by decide +kernel
theorem dX11_nameOf_30 : decode cX11_nameOf 30 = .ok (.ifCond .ne 5, 3) := by decide +kernel
theorem dX11_nameOf_33 : decode cX11_nameOf 33 = .ok (.iconst 0, 1) := by decide +kernel
theorem dX11_nameOf_34 : decode cX11_nameOf 34 = .ok (.ireturn, 1) := by decide +kernel
theorem dX11_nameOf_35 : decode cX11_nameOf 35 = .ok (.aload_n 0, 1) := by decide +kernel
theorem dX11_nameOf_36 : decode cX11_nameOf 36 = .ok (.getfield 124, 3) := by decide +kernel
theorem dX11_nameOf_39 : decode cX11_nameOf 39 = .ok (.bipush 108, 2) := by decide +kernel
theorem dX11_nameOf_41 : decode cX11_nameOf 41 = .ok (.bipush 105, 2) := by decide +kernel
theorem dX11_nameOf_43 : decode cX11_nameOf 43 = .ok (.bipush 101, 2) := by decide +kernel
theorem dX11_nameOf_45 : decode cX11_nameOf 45 = .ok (.bipush 115, 2) := by decide +kernel
theorem dX11_nameOf_47 : decode cX11_nameOf 47 = .ok (.invokestatic 214, 3) := by decide +kernel
theorem dX11_nameOf_50 : decode cX11_nameOf 50 = .ok (.lcmp, 1) := by decide +kernel
theorem dX11_nameOf_51 : decode cX11_nameOf 51 = .ok (.ifCond .ne 5, 3) := by decide +kernel
theorem dX11_nameOf_54 : decode cX11_nameOf 54 = .ok (.iconst 1, 1) := by decide +kernel
theorem dX11_nameOf_55 : decode cX11_nameOf 55 = .ok (.ireturn, 1) := by decide +kernel
theorem dX11_nameOf_56 : decode cX11_nameOf 56 = .ok (.aload_n 0, 1) := by decide +kernel
theorem dX11_nameOf_57 : decode cX11_nameOf 57 = .ok (.getfield 124, 3) := by decide +kernel
theorem dX11_nameOf_60 : decode cX11_nameOf 60 = .ok (.bipush 98, 2) := by decide +kernel
theorem dX11_nameOf_62 : decode cX11_nameOf 62 = .ok (.bipush 101, 2) := by decide +kernel
theorem dX11_nameOf_64 : decode cX11_nameOf 64 = .ok (.bipush 115, 2) := by decide +kernel
theorem dX11_nameOf_66 : decode cX11_nameOf 66 = .ok (.bipush 105, 2) := by decide +kernel
theorem dX11_nameOf_68 : decode cX11_nameOf 68 = .ok (.bipush 100, 2) := by decide +kernel
theorem dX11_nameOf_70 : decode cX11_nameOf 70 = .ok (.bipush 101, 2) := by decide +kernel
theorem dX11_nameOf_72 : decode cX11_nameOf 72 = .ok (.invokestatic 210, 3) := by decide +kernel
theorem dX11_nameOf_75 : decode cX11_nameOf 75 = .ok (.lcmp, 1) := by decide +kernel
theorem dX11_nameOf_76 : decode cX11_nameOf 76 = .ok (.ifCond .ne 5, 3) := by decide +kernel
theorem dX11_nameOf_79 : decode cX11_nameOf 79 = .ok (.iconst 2, 1) := by decide +kernel
theorem dX11_nameOf_80 : decode cX11_nameOf 80 = .ok (.ireturn, 1) := by decide +kernel
theorem dX11_nameOf_81 : decode cX11_nameOf 81 = .ok (.aload_n 0, 1) := by decide +kernel
theorem dX11_nameOf_82 : decode cX11_nameOf 82 = .ok (.getfield 124, 3) := by decide +kernel
theorem dX11_nameOf_85 : decode cX11_nameOf 85 = .ok (.ldc2_w 218, 3) := by decide +kernel
theorem dX11_nameOf_88 : decode cX11_nameOf 88 = .ok (.lcmp, 1) := by decide +kernel
theorem dX11_nameOf_89 : decode cX11_nameOf 89 = .ok (.ifCond .ne 5, 3) := by decide +kernel
theorem dX11_nameOf_92 : decode cX11_nameOf 92 = .ok (.iconst 3, 1) := by decide +kernel
theorem dX11_nameOf_93 : decode cX11_nameOf 93 = .ok (.ireturn, 1) := by decide +kernel
theorem dX11_nameOf_94 : decode cX11_nameOf 94 = .ok (.aload_n 0, 1) := by decide +kernel
theorem dX11_nameOf_95 : decode cX11_nameOf 95 = .ok (.getfield 124, 3) := by decide +kernel
theorem dX11_nameOf_98 : decode cX11_nameOf 98 = .ok (.ldc2_w 220, 3) := by decide +kernel
theorem dX11_nameOf_101 : decode cX11_nameOf 101 = .ok (.lcmp, 1) := by decide +kernel
theorem dX11_nameOf_102 : decode cX11_nameOf 102 = .ok (.ifCond .ne 5, 3) := by decide +kernel
theorem dX11_nameOf_105 : decode cX11_nameOf 105 = .ok (.iconst 4, 1) := by decide +kernel
theorem dX11_nameOf_106 : decode cX11_nameOf 106 = .ok (.ireturn, 1) := by decide +kernel
theorem dX11_nameOf_107 : decode cX11_nameOf 107 = .ok (.aload_n 0, 1) := by decide +kernel
theorem dX11_nameOf_108 : decode cX11_nameOf 108 = .ok (.getfield 124, 3) := by decide +kernel
theorem dX11_nameOf_111 : decode cX11_nameOf 111 = .ok (.bipush 104, 2) := by decide +kernel
theorem dX11_nameOf_113 : decode cX11_nameOf 113 = .ok (.bipush 111, 2) := by decide +kernel
theorem dX11_nameOf_115 : decode cX11_nameOf 115 = .ok (.bipush 117, 2) := by decide +kernel
theorem dX11_nameOf_117 : decode cX11_nameOf 117 = .ok (.bipush 114, 2) := by decide +kernel
theorem dX11_nameOf_119 : decode cX11_nameOf 119 = .ok (.invokestatic 214, 3) := by decide +kernel
theorem dX11_nameOf_122 : decode cX11_nameOf 122 = .ok (.lcmp, 1) := by decide +kernel
theorem dX11_nameOf_123 : decode cX11_nameOf 123 = .ok (.ifCond .ne 5, 3) := by decide +kernel
theorem dX11_nameOf_126 : decode cX11_nameOf 126 = .ok (.iconst 5, 1) := by decide +kernel
theorem dX11_nameOf_127 : decode cX11_nameOf 127 = .ok (.ireturn, 1) := by decide +kernel
theorem dX11_nameOf_128 : decode cX11_nameOf 128 = .ok (.aload_n 0, 1) := by decide +kernel
theorem dX11_nameOf_129 : decode cX11_nameOf 129 = .ok (.invokevirtual 222, 3) := by decide +kernel
theorem dX11_nameOf_132 : decode cX11_nameOf 132 = .ok (.ifCond .eq 6, 3) := by decide +kernel
theorem dX11_nameOf_135 : decode cX11_nameOf 135 = .ok (.bipush 6, 2) := by decide +kernel
theorem dX11_nameOf_137 : decode cX11_nameOf 137 = .ok (.ireturn, 1) := by decide +kernel
theorem dX11_nameOf_138 : decode cX11_nameOf 138 = .ok (.aload_n 0, 1) := by decide +kernel
theorem dX11_nameOf_139 : decode cX11_nameOf 139 = .ok (.getfield 124, 3) := by decide +kernel
theorem dX11_nameOf_142 : decode cX11_nameOf 142 = .ok (.bipush 115, 2) := by decide +kernel
theorem dX11_nameOf_144 : decode cX11_nameOf 144 = .ok (.bipush 112, 2) := by decide +kernel
theorem dX11_nameOf_146 : decode cX11_nameOf 146 = .ok (.bipush 97, 2) := by decide +kernel
theorem dX11_nameOf_148 : decode cX11_nameOf 148 = .ok (.bipush 114, 2) := by decide +kernel
theorem dX11_nameOf_150 : decode cX11_nameOf 150 = .ok (.bipush 101, 2) := by decide +kernel
theorem dX11_nameOf_152 : decode cX11_nameOf 152 = .ok (.invokestatic 132, 3) := by decide +kernel
theorem dX11_nameOf_155 : decode cX11_nameOf 155 = .ok (.lcmp, 1) := by decide +kernel
theorem dX11_nameOf_156 : decode cX11_nameOf 156 = .ok (.ifCond .ne 6, 3) := by decide +kernel
theorem dX11_nameOf_159 : decode cX11_nameOf 159 = .ok (.bipush 7, 2) := by decide +kernel
theorem dX11_nameOf_161 : decode cX11_nameOf 161 = .ok (.ireturn, 1) := by decide +kernel
theorem dX11_nameOf_162 : decode cX11_nameOf 162 = .ok (.aload_n 0, 1) := by decide +kernel
theorem dX11_nameOf_163 : decode cX11_nameOf 163 = .ok (.getfield 124, 3) := by decide +kernel
theorem dX11_nameOf_166 : decode cX11_nameOf 166 = .ok (.bipush 109, 2) := by decide +kernel
theorem dX11_nameOf_168 : decode cX11_nameOf 168 = .ok (.bipush 97, 2) := by decide +kernel
theorem dX11_nameOf_170 : decode cX11_nameOf 170 = .ok (.bipush 110, 2) := by decide +kernel
theorem dX11_nameOf_172 : decode cX11_nameOf 172 = .ok (.bipush 121, 2) := by decide +kernel
theorem dX11_nameOf_174 : decode cX11_nameOf 174 = .ok (.invokestatic 214, 3) := by decide +kernel
theorem dX11_nameOf_177 : decode cX11_nameOf 177 = .ok (.lcmp, 1) := by decide +kernel
theorem dX11_nameOf_178 : decode cX11_nameOf 178 = .ok (.ifCond .ne 6, 3) := by decide +kernel
theorem dX11_nameOf_181 : decode cX11_nameOf 181 = .ok (.bipush 8, 2) := by decide +kernel
theorem dX11_nameOf_183 : decode cX11_nameOf 183 = .ok (.ireturn, 1) := by decide +kernel
theorem dX11_nameOf_184 : decode cX11_nameOf 184 = .ok (.aload_n 0, 1) := by decide +kernel
theorem dX11_nameOf_185 : decode cX11_nameOf 185 = .ok (.getfield 124, 3) := by decide +kernel
theorem dX11_nameOf_188 : decode cX11_nameOf 188 = .ok (.bipush 97, 2) := by decide +kernel
theorem dX11_nameOf_190 : decode cX11_nameOf 190 = .ok (.bipush 103, 2) := by decide +kernel
theorem dX11_nameOf_192 : decode cX11_nameOf 192 = .ok (.bipush 101, 2) := by decide +kernel
theorem dX11_nameOf_194 : decode cX11_nameOf 194 = .ok (.invokestatic 128, 3) := by decide +kernel
theorem dX11_nameOf_197 : decode cX11_nameOf 197 = .ok (.lcmp, 1) := by decide +kernel
theorem dX11_nameOf_198 : decode cX11_nameOf 198 = .ok (.ifCond .ne 6, 3) := by decide +kernel
theorem dX11_nameOf_201 : decode cX11_nameOf 201 = .ok (.bipush 9, 2) := by decide +kernel
theorem dX11_nameOf_203 : decode cX11_nameOf 203 = .ok (.ireturn, 1) := by decide +kernel
theorem dX11_nameOf_204 : decode cX11_nameOf 204 = .ok (.aload_n 0, 1) := by decide +kernel
theorem dX11_nameOf_205 : decode cX11_nameOf 205 = .ok (.getfield 124, 3) := by decide +kernel
theorem dX11_nameOf_208 : decode cX11_nameOf 208 = .ok (.bipush 97, 2) := by decide +kernel
theorem dX11_nameOf_210 : decode cX11_nameOf 210 = .ok (.bipush 114, 2) := by decide +kernel
theorem dX11_nameOf_212 : decode cX11_nameOf 212 = .ok (.bipush 101, 2) := by decide +kernel
theorem dX11_nameOf_214 : decode cX11_nameOf 214 = .ok (.bipush 97, 2) := by decide +kernel
theorem dX11_nameOf_216 : decode cX11_nameOf 216 = .ok (.invokestatic 214, 3) := by decide +kernel
theorem dX11_nameOf_219 : decode cX11_nameOf 219 = .ok (.lcmp, 1) := by decide +kernel
theorem dX11_nameOf_220 : decode cX11_nameOf 220 = .ok (.ifCond .ne 8, 3) := by decide +kernel
theorem dX11_nameOf_223 : decode cX11_nameOf 223 = .ok (.bipush 10, 2) := by decide +kernel
theorem dX11_nameOf_225 : decode cX11_nameOf 225 = .ok (.goto 30, 3) := by decide +kernel
theorem dX11_nameOf_228 : decode cX11_nameOf 228 = .ok (.aload_n 0, 1) := by decide +kernel
theorem dX11_nameOf_229 : decode cX11_nameOf 229 = .ok (.getfield 124, 3) := by decide +kernel
theorem dX11_nameOf_232 : decode cX11_nameOf 232 = .ok (.bipush 119, 2) := by decide +kernel
theorem dX11_nameOf_234 : decode cX11_nameOf 234 = .ok (.bipush 97, 2) := by decide +kernel
theorem dX11_nameOf_236 : decode cX11_nameOf 236 = .ok (.bipush 116, 2) := by decide +kernel
theorem dX11_nameOf_238 : decode cX11_nameOf 238 = .ok (.bipush 101, 2) := by decide +kernel
theorem dX11_nameOf_240 : decode cX11_nameOf 240 = .ok (.bipush 114, 2) := by decide +kernel
theorem dX11_nameOf_242 : decode cX11_nameOf 242 = .ok (.invokestatic 132, 3) := by decide +kernel
theorem dX11_nameOf_245 : decode cX11_nameOf 245 = .ok (.lcmp, 1) := by decide +kernel
theorem dX11_nameOf_246 : decode cX11_nameOf 246 = .ok (.ifCond .ne 8, 3) := by decide +kernel
theorem dX11_nameOf_249 : decode cX11_nameOf 249 = .ok (.bipush 11, 2) := by decide +kernel
theorem dX11_nameOf_251 : decode cX11_nameOf 251 = .ok (.goto 4, 3) := by decide +kernel
theorem dX11_nameOf_254 : decode cX11_nameOf 254 = .ok (.iconst (-1), 1) := by decide +kernel
theorem dX11_nameOf_255 : decode cX11_nameOf 255 = .ok (.ireturn, 1) := by decide +kernel
theorem dX11_isOf_0 : decode cX11_isOf 0 = .ok (.aload_n 0, 1) := by decide +kernel
theorem dX11_isOf_1 : decode cX11_isOf 1 = .ok (.getfield 225, 3) := by decide +kernel
theorem dX11_isOf_4 : decode cX11_isOf 4 = .ok (.iconst 2, 1) := by decide +kernel
theorem dX11_isOf_5 : decode cX11_isOf 5 = .ok (.if_icmp .ne 25, 3) := by decide +kernel
theorem dX11_isOf_8 : decode cX11_isOf 8 = .ok (.iload_n 1, 1) := by decide +kernel
theorem dX11_isOf_9 : decode cX11_isOf 9 = .ok (.bipush 8, 2) := by decide +kernel
theorem dX11_isOf_11 : decode cX11_isOf 11 = .ok (.if_icmp .gt 13, 3) := by decide +kernel
theorem dX11_isOf_14 : decode cX11_isOf 14 = .ok (.iload_n 1, 1) := by decide +kernel
theorem dX11_isOf_15 : decode cX11_isOf 15 = .ok (.iconst 3, 1) := by decide +kernel
theorem dX11_isOf_16 : decode cX11_isOf 16 = .ok (.if_icmp .eq 8, 3) := by decide +kernel
theorem dX11_isOf_19 : decode cX11_isOf 19 = .ok (.iload_n 1, 1) := by decide +kernel
theorem dX11_isOf_20 : decode cX11_isOf 20 = .ok (.iconst 4, 1) := by decide +kernel
theorem dX11_isOf_21 : decode cX11_isOf 21 = .ok (.if_icmp .ne 7, 3) := by decide +kernel
theorem dX11_isOf_24 : decode cX11_isOf 24 = .ok (.iconst 1, 1) := by decide +kernel
theorem dX11_isOf_25 : decode cX11_isOf 25 = .ok (.goto 4, 3) := by decide +kernel
theorem dX11_isOf_28 : decode cX11_isOf 28 = .ok (.iconst 0, 1) := by decide +kernel
theorem dX11_isOf_29 : decode cX11_isOf 29 = .ok (.ireturn, 1) := by decide +kernel
theorem dX11_isOf_30 : decode cX11_isOf 30 = .ok (.iload_n 1, 1) := by decide +kernel
theorem dX11_isOf_31 : decode cX11_isOf 31 = .ok (.bipush 6, 2) := by decide +kernel
theorem dX11_isOf_33 : decode cX11_isOf 33 = .ok (.if_icmp .lt 31, 3) := by decide +kernel
theorem dX11_isOf_36 : decode cX11_isOf 36 = .ok (.aload_n 0, 1) := by decide +kernel
theorem dX11_isOf_37 : decode cX11_isOf 37 = .ok (.getfield 225, 3) := by decide +kernel
theorem dX11_isOf_40 : decode cX11_isOf 40 = .ok (.iconst 1, 1) := by decide +kernel
theorem dX11_isOf_41 : decode cX11_isOf 41 = .ok (.if_icmp .ne 9, 3) := by decide +kernel
theorem dX11_isOf_44 : decode cX11_isOf 44 = .ok (.iload_n 1, 1) := by decide +kernel
theorem dX11_isOf_45 : decode cX11_isOf 45 = .ok (.bipush 8, 2) := by decide +kernel
theorem dX11_isOf_47 : decode cX11_isOf 47 = .ok (.if_icmp .lt 17, 3) := by decide +kernel
theorem dX11_isOf_50 : decode cX11_isOf 50 = .ok (.aload_n 0, 1) := by decide +kernel
theorem dX11_isOf_51 : decode cX11_isOf 51 = .ok (.getfield 225, 3) := by decide +kernel
theorem dX11_isOf_54 : decode cX11_isOf 54 = .ok (.iconst 3, 1) := by decide +kernel
theorem dX11_isOf_55 : decode cX11_isOf 55 = .ok (.if_icmp .ne 13, 3) := by decide +kernel
theorem dX11_isOf_58 : decode cX11_isOf 58 = .ok (.iload_n 1, 1) := by decide +kernel
theorem dX11_isOf_59 : decode cX11_isOf 59 = .ok (.bipush 8, 2) := by decide +kernel
theorem dX11_isOf_61 : decode cX11_isOf 61 = .ok (.if_icmp .ne 7, 3) := by decide +kernel
theorem dX11_isOf_64 : decode cX11_isOf 64 = .ok (.iconst 1, 1) := by decide +kernel
theorem dX11_isOf_65 : decode cX11_isOf 65 = .ok (.goto 4, 3) := by decide +kernel
theorem dX11_isOf_68 : decode cX11_isOf 68 = .ok (.iconst 0, 1) := by decide +kernel
theorem dX11_isOf_69 : decode cX11_isOf 69 = .ok (.ireturn, 1) := by decide +kernel
theorem dX11_sortOf_0 : decode cX11_sortOf 0 = .ok (.aload_n 0, 1) := by decide +kernel
theorem dX11_sortOf_1 : decode cX11_sortOf 1 = .ok (.bipush 104, 2) := by decide +kernel
theorem dX11_sortOf_3 : decode cX11_sortOf 3 = .ok (.bipush 111, 2) := by decide +kernel
theorem dX11_sortOf_5 : decode cX11_sortOf 5 = .ok (.bipush 108, 2) := by decide +kernel
theorem dX11_sortOf_7 : decode cX11_sortOf 7 = .ok (.bipush 100, 2) := by decide +kernel
theorem dX11_sortOf_9 : decode cX11_sortOf 9 = .ok (.invokestatic 214, 3) := by decide +kernel
theorem dX11_sortOf_12 : decode cX11_sortOf 12 = .ok (.invokevirtual 183, 3) := by decide +kernel
theorem dX11_sortOf_15 : decode cX11_sortOf 15 = .ok (.ifCond .eq 5, 3) := by decide +kernel
theorem dX11_sortOf_18 : decode cX11_sortOf 18 = .ok (.iconst 0, 1) := by decide +kernel
theorem dX11_sortOf_19 : decode cX11_sortOf 19 = .ok (.ireturn, 1) := by decide +kernel
theorem dX11_sortOf_20 : decode cX11_sortOf 20 = .ok (.aload_n 0, 1) := by decide +kernel
theorem dX11_sortOf_21 : decode cX11_sortOf 21 = .ok (.bipush 102, 2) := by decide +kernel
theorem dX11_sortOf_23 : decode cX11_sortOf 23 = .ok (.bipush 97, 2) := by decide +kernel
theorem dX11_sortOf_25 : decode cX11_sortOf 25 = .ok (.bipush 114, 2) := by decide +kernel
theorem dX11_sortOf_27 : decode cX11_sortOf 27 = .ok (.invokestatic 128, 3) := by decide +kernel
theorem dX11_sortOf_30 : decode cX11_sortOf 30 = .ok (.invokevirtual 183, 3) := by decide +kernel
theorem dX11_sortOf_33 : decode cX11_sortOf 33 = .ok (.ifCond .eq 5, 3) := by decide +kernel
theorem dX11_sortOf_36 : decode cX11_sortOf 36 = .ok (.iconst 1, 1) := by decide +kernel
theorem dX11_sortOf_37 : decode cX11_sortOf 37 = .ok (.ireturn, 1) := by decide +kernel
theorem dX11_sortOf_38 : decode cX11_sortOf 38 = .ok (.aload_n 0, 1) := by decide +kernel
theorem dX11_sortOf_39 : decode cX11_sortOf 39 = .ok (.bipush 99, 2) := by decide +kernel
theorem dX11_sortOf_41 : decode cX11_sortOf 41 = .ok (.bipush 114, 2) := by decide +kernel
theorem dX11_sortOf_43 : decode cX11_sortOf 43 = .ok (.bipush 111, 2) := by decide +kernel
theorem dX11_sortOf_45 : decode cX11_sortOf 45 = .ok (.bipush 112, 2) := by decide +kernel
theorem dX11_sortOf_47 : decode cX11_sortOf 47 = .ok (.invokestatic 214, 3) := by decide +kernel
theorem dX11_sortOf_50 : decode cX11_sortOf 50 = .ok (.invokevirtual 183, 3) := by decide +kernel
theorem dX11_sortOf_53 : decode cX11_sortOf 53 = .ok (.ifCond .eq 5, 3) := by decide +kernel
theorem dX11_sortOf_56 : decode cX11_sortOf 56 = .ok (.iconst 2, 1) := by decide +kernel
theorem dX11_sortOf_57 : decode cX11_sortOf 57 = .ok (.ireturn, 1) := by decide +kernel
theorem dX11_sortOf_58 : decode cX11_sortOf 58 = .ok (.aload_n 0, 1) := by decide +kernel
theorem dX11_sortOf_59 : decode cX11_sortOf 59 = .ok (.bipush 102, 2) := by decide +kernel
theorem dX11_sortOf_61 : decode cX11_sortOf 61 = .ok (.bipush 111, 2) := by decide +kernel
theorem dX11_sortOf_63 : decode cX11_sortOf 63 = .ok (.bipush 117, 2) := by decide +kernel
theorem dX11_sortOf_65 : decode cX11_sortOf 65 = .ok (.bipush 110, 2) := by decide +kernel
theorem dX11_sortOf_67 : decode cX11_sortOf 67 = .ok (.bipush 100, 2) := by decide +kernel
theorem dX11_sortOf_69 : decode cX11_sortOf 69 = .ok (.invokestatic 132, 3) := by decide +kernel
theorem dX11_sortOf_72 : decode cX11_sortOf 72 = .ok (.invokevirtual 183, 3) := by decide +kernel
theorem dX11_sortOf_75 : decode cX11_sortOf 75 = .ok (.ifCond .eq 5, 3) := by decide +kernel
theorem dX11_sortOf_78 : decode cX11_sortOf 78 = .ok (.iconst 3, 1) := by decide +kernel
theorem dX11_sortOf_79 : decode cX11_sortOf 79 = .ok (.ireturn, 1) := by decide +kernel
theorem dX11_sortOf_80 : decode cX11_sortOf 80 = .ok (.aload_n 0, 1) := by decide +kernel
theorem dX11_sortOf_81 : decode cX11_sortOf 81 = .ok (.bipush 98, 2) := by decide +kernel
theorem dX11_sortOf_83 : decode cX11_sortOf 83 = .ok (.bipush 111, 2) := by decide +kernel
theorem dX11_sortOf_85 : decode cX11_sortOf 85 = .ok (.bipush 110, 2) := by decide +kernel
theorem dX11_sortOf_87 : decode cX11_sortOf 87 = .ok (.bipush 101, 2) := by decide +kernel
theorem dX11_sortOf_89 : decode cX11_sortOf 89 = .ok (.invokestatic 214, 3) := by decide +kernel
theorem dX11_sortOf_92 : decode cX11_sortOf 92 = .ok (.invokevirtual 183, 3) := by decide +kernel
theorem dX11_sortOf_95 : decode cX11_sortOf 95 = .ok (.ifCond .eq 7, 3) := by decide +kernel
theorem dX11_sortOf_98 : decode cX11_sortOf 98 = .ok (.iconst 4, 1) := by decide +kernel
theorem dX11_sortOf_99 : decode cX11_sortOf 99 = .ok (.goto 28, 3) := by decide +kernel
theorem dX11_sortOf_102 : decode cX11_sortOf 102 = .ok (.aload_n 0, 1) := by decide +kernel
theorem dX11_sortOf_103 : decode cX11_sortOf 103 = .ok (.bipush 115, 2) := by decide +kernel
theorem dX11_sortOf_105 : decode cX11_sortOf 105 = .ok (.bipush 116, 2) := by decide +kernel
theorem dX11_sortOf_107 : decode cX11_sortOf 107 = .ok (.bipush 97, 2) := by decide +kernel
theorem dX11_sortOf_109 : decode cX11_sortOf 109 = .ok (.bipush 107, 2) := by decide +kernel
theorem dX11_sortOf_111 : decode cX11_sortOf 111 = .ok (.bipush 101, 2) := by decide +kernel
theorem dX11_sortOf_113 : decode cX11_sortOf 113 = .ok (.invokestatic 132, 3) := by decide +kernel
theorem dX11_sortOf_116 : decode cX11_sortOf 116 = .ok (.invokevirtual 183, 3) := by decide +kernel
theorem dX11_sortOf_119 : decode cX11_sortOf 119 = .ok (.ifCond .eq 7, 3) := by decide +kernel
theorem dX11_sortOf_122 : decode cX11_sortOf 122 = .ok (.iconst 5, 1) := by decide +kernel
theorem dX11_sortOf_123 : decode cX11_sortOf 123 = .ok (.goto 4, 3) := by decide +kernel
theorem dX11_sortOf_126 : decode cX11_sortOf 126 = .ok (.iconst (-1), 1) := by decide +kernel
theorem dX11_sortOf_127 : decode cX11_sortOf 127 = .ok (.ireturn, 1) := by decide +kernel
theorem dX11_figure_0 : decode cX11_figure 0 = .ok (.aload_n 0, 1) := by decide +kernel
theorem dX11_figure_1 : decode cX11_figure 1 = .ok (.getfield 111, 3) := by decide +kernel
theorem dX11_figure_4 : decode cX11_figure 4 = .ok (.iconst 1, 1) := by decide +kernel
theorem dX11_figure_5 : decode cX11_figure 5 = .ok (.if_icmp .eq 5, 3) := by decide +kernel
theorem dX11_figure_8 : decode cX11_figure 8 = .ok (.iconst 1, 1) := by decide +kernel
theorem dX11_figure_9 : decode cX11_figure 9 = .ok (.ireturn, 1) := by decide +kernel
theorem dX11_figure_10 : decode cX11_figure 10 = .ok (.aload_n 0, 1) := by decide +kernel
theorem dX11_figure_11 : decode cX11_figure 11 = .ok (.getfield 117, 3) := by decide +kernel
theorem dX11_figure_14 : decode cX11_figure 14 = .ok (.iload_n 2, 1) := by decide +kernel
theorem dX11_figure_15 : decode cX11_figure 15 = .ok (.iload_n 3, 1) := by decide +kernel
theorem dX11_figure_16 : decode cX11_figure 16 = .ok (.invokestatic 71, 3) := by decide +kernel
theorem dX11_figure_19 : decode cX11_figure 19 = .ok (.ifCond .ne 5, 3) := by decide +kernel
theorem dX11_figure_22 : decode cX11_figure 22 = .ok (.iconst 2, 1) := by decide +kernel
theorem dX11_figure_23 : decode cX11_figure 23 = .ok (.ireturn, 1) := by decide +kernel
theorem dX11_figure_24 : decode cX11_figure 24 = .ok (.aload_n 0, 1) := by decide +kernel
theorem dX11_figure_25 : decode cX11_figure 25 = .ok (.getfield 13, 3) := by decide +kernel
theorem dX11_figure_28 : decode cX11_figure 28 = .ok (.iload_n 1, 1) := by decide +kernel
theorem dX11_figure_29 : decode cX11_figure 29 = .ok (.aload_n 0, 1) := by decide +kernel
theorem dX11_figure_30 : decode cX11_figure 30 = .ok (.getfield 117, 3) := by decide +kernel
theorem dX11_figure_33 : decode cX11_figure 33 = .ok (.iastore, 1) := by decide +kernel
theorem dX11_figure_34 : decode cX11_figure 34 = .ok (.aload_n 0, 1) := by decide +kernel
theorem dX11_figure_35 : decode cX11_figure 35 = .ok (.invokevirtual 165, 3) := by decide +kernel
theorem dX11_figure_38 : decode cX11_figure 38 = .ok (.iconst 0, 1) := by decide +kernel
theorem dX11_figure_39 : decode cX11_figure 39 = .ok (.ireturn, 1) := by decide +kernel
theorem dX11_expects_0 : decode cX11_expects 0 = .ok (.iload_n 1, 1) := by decide +kernel
theorem dX11_expects_1 : decode cX11_expects 1 = .ok (.ifCond .ne 5, 3) := by decide +kernel
theorem dX11_expects_4 : decode cX11_expects 4 = .ok (.iconst 1, 1) := by decide +kernel
theorem dX11_expects_5 : decode cX11_expects 5 = .ok (.ireturn, 1) := by decide +kernel
theorem dX11_expects_6 : decode cX11_expects 6 = .ok (.aload_n 0, 1) := by decide +kernel
theorem dX11_expects_7 : decode cX11_expects 7 = .ok (.invokevirtual 165, 3) := by decide +kernel
theorem dX11_expects_10 : decode cX11_expects 10 = .ok (.iconst 0, 1) := by decide +kernel
theorem dX11_expects_11 : decode cX11_expects 11 = .ok (.ireturn, 1) := by decide +kernel
theorem dX11_drawnBy_0 : decode cX11_drawnBy 0 = .ok (.aload_n 0, 1) := by decide +kernel
theorem dX11_drawnBy_1 : decode cX11_drawnBy 1 = .ok (.iload_n 1, 1) := by decide +kernel
theorem dX11_drawnBy_2 : decode cX11_drawnBy 2 = .ok (.iconst 1, 1) := by decide +kernel
theorem dX11_drawnBy_3 : decode cX11_drawnBy 3 = .ok (.iadd, 1) := by decide +kernel
theorem dX11_drawnBy_4 : decode cX11_drawnBy 4 = .ok (.iload_n 2, 1) := by decide +kernel
theorem dX11_drawnBy_5 : decode cX11_drawnBy 5 = .ok (.iconst 4, 1) := by decide +kernel
theorem dX11_drawnBy_6 : decode cX11_drawnBy 6 = .ok (.if_icmp .ne 7, 3) := by decide +kernel
theorem dX11_drawnBy_9 : decode cX11_drawnBy 9 = .ok (.iconst 1, 1) := by decide +kernel
theorem dX11_drawnBy_10 : decode cX11_drawnBy 10 = .ok (.goto 4, 3) := by decide +kernel
theorem dX11_drawnBy_13 : decode cX11_drawnBy 13 = .ok (.iconst 0, 1) := by decide +kernel
theorem dX11_drawnBy_14 : decode cX11_drawnBy 14 = .ok (.iload_n 2, 1) := by decide +kernel
theorem dX11_drawnBy_15 : decode cX11_drawnBy 15 = .ok (.iconst 4, 1) := by decide +kernel
theorem dX11_drawnBy_16 : decode cX11_drawnBy 16 = .ok (.if_icmp .ne 8, 3) := by decide +kernel
theorem dX11_drawnBy_19 : decode cX11_drawnBy 19 = .ok (.bipush 99, 2) := by decide +kernel
theorem dX11_drawnBy_21 : decode cX11_drawnBy 21 = .ok (.goto 4, 3) := by decide +kernel
theorem dX11_drawnBy_24 : decode cX11_drawnBy 24 = .ok (.iconst 5, 1) := by decide +kernel
theorem dX11_drawnBy_25 : decode cX11_drawnBy 25 = .ok (.invokevirtual 228, 3) := by decide +kernel
theorem dX11_drawnBy_28 : decode cX11_drawnBy 28 = .ok (.istore_n 3, 1) := by decide +kernel
theorem dX11_drawnBy_29 : decode cX11_drawnBy 29 = .ok (.iload_n 3, 1) := by decide +kernel
theorem dX11_drawnBy_30 : decode cX11_drawnBy 30 = .ok (.ifCond .ne 32, 3) := by decide +kernel
theorem dX11_drawnBy_33 : decode cX11_drawnBy 33 = .ok (.aload_n 0, 1) := by decide +kernel
theorem dX11_drawnBy_34 : decode cX11_drawnBy 34 = .ok (.aload_n 0, 1) := by decide +kernel
theorem dX11_drawnBy_35 : decode cX11_drawnBy 35 = .ok (.getfield 111, 3) := by decide +kernel
theorem dX11_drawnBy_38 : decode cX11_drawnBy 38 = .ok (.iconst 2, 1) := by decide +kernel
theorem dX11_drawnBy_39 : decode cX11_drawnBy 39 = .ok (.if_icmp .ne 18, 3) := by decide +kernel
theorem dX11_drawnBy_42 : decode cX11_drawnBy 42 = .ok (.aload_n 0, 1) := by decide +kernel
theorem dX11_drawnBy_43 : decode cX11_drawnBy 43 = .ok (.getfield 124, 3) := by decide +kernel
theorem dX11_drawnBy_46 : decode cX11_drawnBy 46 = .ok (.ldc2_w 232, 3) := by decide +kernel
theorem dX11_drawnBy_49 : decode cX11_drawnBy 49 = .ok (.lcmp, 1) := by decide +kernel
theorem dX11_drawnBy_50 : decode cX11_drawnBy 50 = .ok (.ifCond .ne 7, 3) := by decide +kernel
theorem dX11_drawnBy_53 : decode cX11_drawnBy 53 = .ok (.iconst 1, 1) := by decide +kernel
theorem dX11_drawnBy_54 : decode cX11_drawnBy 54 = .ok (.goto 4, 3) := by decide +kernel
theorem dX11_drawnBy_57 : decode cX11_drawnBy 57 = .ok (.iconst 0, 1) := by decide +kernel
theorem dX11_drawnBy_58 : decode cX11_drawnBy 58 = .ok (.invokevirtual 234, 3) := by decide +kernel
theorem dX11_drawnBy_61 : decode cX11_drawnBy 61 = .ok (.istore_n 3, 1) := by decide +kernel
theorem dX11_drawnBy_62 : decode cX11_drawnBy 62 = .ok (.iload_n 3, 1) := by decide +kernel
theorem dX11_drawnBy_63 : decode cX11_drawnBy 63 = .ok (.ifCond .ne 14, 3) := by decide +kernel
theorem dX11_drawnBy_66 : decode cX11_drawnBy 66 = .ok (.aload_n 0, 1) := by decide +kernel
theorem dX11_drawnBy_67 : decode cX11_drawnBy 67 = .ok (.iload_n 1, 1) := by decide +kernel
theorem dX11_drawnBy_68 : decode cX11_drawnBy 68 = .ok (.iconst 2, 1) := by decide +kernel
theorem dX11_drawnBy_69 : decode cX11_drawnBy 69 = .ok (.iadd, 1) := by decide +kernel
theorem dX11_drawnBy_70 : decode cX11_drawnBy 70 = .ok (.iconst 0, 1) := by decide +kernel
theorem dX11_drawnBy_71 : decode cX11_drawnBy 71 = .ok (.bipush 7, 2) := by decide +kernel
theorem dX11_drawnBy_73 : decode cX11_drawnBy 73 = .ok (.invokevirtual 228, 3) := by decide +kernel
theorem dX11_drawnBy_76 : decode cX11_drawnBy 76 = .ok (.istore_n 3, 1) := by decide +kernel
theorem dX11_drawnBy_77 : decode cX11_drawnBy 77 = .ok (.iload_n 3, 1) := by decide +kernel
theorem dX11_drawnBy_78 : decode cX11_drawnBy 78 = .ok (.ifCond .ne 22, 3) := by decide +kernel
theorem dX11_drawnBy_81 : decode cX11_drawnBy 81 = .ok (.aload_n 0, 1) := by decide +kernel
theorem dX11_drawnBy_82 : decode cX11_drawnBy 82 = .ok (.aload_n 0, 1) := by decide +kernel
theorem dX11_drawnBy_83 : decode cX11_drawnBy 83 = .ok (.getfield 111, 3) := by decide +kernel
theorem dX11_drawnBy_86 : decode cX11_drawnBy 86 = .ok (.bipush 44, 2) := by decide +kernel
theorem dX11_drawnBy_88 : decode cX11_drawnBy 88 = .ok (.if_icmp .ne 7, 3) := by decide +kernel
theorem dX11_drawnBy_91 : decode cX11_drawnBy 91 = .ok (.iconst 1, 1) := by decide +kernel
theorem dX11_drawnBy_92 : decode cX11_drawnBy 92 = .ok (.goto 4, 3) := by decide +kernel
theorem dX11_drawnBy_95 : decode cX11_drawnBy 95 = .ok (.iconst 0, 1) := by decide +kernel
theorem dX11_drawnBy_96 : decode cX11_drawnBy 96 = .ok (.invokevirtual 234, 3) := by decide +kernel
theorem dX11_drawnBy_99 : decode cX11_drawnBy 99 = .ok (.istore_n 3, 1) := by decide +kernel
theorem dX11_drawnBy_100 : decode cX11_drawnBy 100 = .ok (.iload_n 3, 1) := by decide +kernel
theorem dX11_drawnBy_101 : decode cX11_drawnBy 101 = .ok (.ifCond .ne 15, 3) := by decide +kernel
theorem dX11_drawnBy_104 : decode cX11_drawnBy 104 = .ok (.aload_n 0, 1) := by decide +kernel
theorem dX11_drawnBy_105 : decode cX11_drawnBy 105 = .ok (.iload_n 1, 1) := by decide +kernel
theorem dX11_drawnBy_106 : decode cX11_drawnBy 106 = .ok (.iconst 3, 1) := by decide +kernel
theorem dX11_drawnBy_107 : decode cX11_drawnBy 107 = .ok (.iadd, 1) := by decide +kernel
theorem dX11_drawnBy_108 : decode cX11_drawnBy 108 = .ok (.iconst 0, 1) := by decide +kernel
theorem dX11_drawnBy_109 : decode cX11_drawnBy 109 = .ok (.iconst 5, 1) := by decide +kernel
theorem dX11_drawnBy_110 : decode cX11_drawnBy 110 = .ok (.invokevirtual 228, 3) := by decide +kernel
theorem dX11_drawnBy_113 : decode cX11_drawnBy 113 = .ok (.goto 4, 3) := by decide +kernel
theorem dX11_drawnBy_116 : decode cX11_drawnBy 116 = .ok (.iload_n 3, 1) := by decide +kernel
theorem dX11_drawnBy_117 : decode cX11_drawnBy 117 = .ok (.ireturn, 1) := by decide +kernel
theorem dX11_clause_0 : decode cX11_clause 0 = .ok (.aload_n 0, 1) := by decide +kernel
theorem dX11_clause_1 : decode cX11_clause 1 = .ok (.invokevirtual 237, 3) := by decide +kernel
theorem dX11_clause_4 : decode cX11_clause 4 = .ok (.istore_n 1, 1) := by decide +kernel
theorem dX11_clause_5 : decode cX11_clause 5 = .ok (.iload_n 1, 1) := by decide +kernel
theorem dX11_clause_6 : decode cX11_clause 6 = .ok (.ifCond .ge 5, 3) := by decide +kernel
theorem dX11_clause_9 : decode cX11_clause 9 = .ok (.iconst 1, 1) := by decide +kernel
theorem dX11_clause_10 : decode cX11_clause 10 = .ok (.ireturn, 1) := by decide +kernel
theorem dX11_clause_11 : decode cX11_clause 11 = .ok (.iload_n 1, 1) := by decide +kernel
theorem dX11_clause_12 : decode cX11_clause 12 = .ok (.iconst 3, 1) := by decide +kernel
theorem dX11_clause_13 : decode cX11_clause 13 = .ok (.if_icmp .ge 17, 3) := by decide +kernel
theorem dX11_clause_16 : decode cX11_clause 16 = .ok (.aload_n 0, 1) := by decide +kernel
theorem dX11_clause_17 : decode cX11_clause 17 = .ok (.getfield 240, 3) := by decide +kernel
theorem dX11_clause_20 : decode cX11_clause 20 = .ok (.iload_n 1, 1) := by decide +kernel
theorem dX11_clause_21 : decode cX11_clause 21 = .ok (.ishr, 1) := by decide +kernel
theorem dX11_clause_22 : decode cX11_clause 22 = .ok (.iconst 1, 1) := by decide +kernel
theorem dX11_clause_23 : decode cX11_clause 23 = .ok (.iand, 1) := by decide +kernel
theorem dX11_clause_24 : decode cX11_clause 24 = .ok (.iconst 1, 1) := by decide +kernel
theorem dX11_clause_25 : decode cX11_clause 25 = .ok (.if_icmp .ne 5, 3) := by decide +kernel
theorem dX11_clause_28 : decode cX11_clause 28 = .ok (.iconst 4, 1) := by decide +kernel
theorem dX11_clause_29 : decode cX11_clause 29 = .ok (.ireturn, 1) := by decide +kernel
theorem dX11_clause_30 : decode cX11_clause 30 = .ok (.aload_n 0, 1) := by decide +kernel
theorem dX11_clause_31 : decode cX11_clause 31 = .ok (.getfield 13, 3) := by decide +kernel
theorem dX11_clause_34 : decode cX11_clause 34 = .ok (.aload_n 0, 1) := by decide +kernel
theorem dX11_clause_35 : decode cX11_clause 35 = .ok (.getfield 136, 3) := by decide +kernel
theorem dX11_clause_38 : decode cX11_clause 38 = .ok (.iaload, 1) := by decide +kernel
theorem dX11_clause_39 : decode cX11_clause 39 = .ok (.istore_n 2, 1) := by decide +kernel
theorem dX11_clause_40 : decode cX11_clause 40 = .ok (.iload_n 2, 1) := by decide +kernel
theorem dX11_clause_41 : decode cX11_clause 41 = .ok (.bipush 20, 2) := by decide +kernel
theorem dX11_clause_43 : decode cX11_clause 43 = .ok (.if_icmp .ne 6, 3) := by decide +kernel
theorem dX11_clause_46 : decode cX11_clause 46 = .ok (.bipush 6, 2) := by decide +kernel
theorem dX11_clause_48 : decode cX11_clause 48 = .ok (.ireturn, 1) := by decide +kernel
theorem dX11_clause_49 : decode cX11_clause 49 = .ok (.iload_n 1, 1) := by decide +kernel
theorem dX11_clause_50 : decode cX11_clause 50 = .ok (.iconst 3, 1) := by decide +kernel
theorem dX11_clause_51 : decode cX11_clause 51 = .ok (.if_icmp .ge 15, 3) := by decide +kernel
theorem dX11_clause_54 : decode cX11_clause 54 = .ok (.aload_n 0, 1) := by decide +kernel
theorem dX11_clause_55 : decode cX11_clause 55 = .ok (.dup, 1) := by decide +kernel
theorem dX11_clause_56 : decode cX11_clause 56 = .ok (.getfield 240, 3) := by decide +kernel
theorem dX11_clause_59 : decode cX11_clause 59 = .ok (.iconst 1, 1) := by decide +kernel
theorem dX11_clause_60 : decode cX11_clause 60 = .ok (.iload_n 1, 1) := by decide +kernel
theorem dX11_clause_61 : decode cX11_clause 61 = .ok (.ishl, 1) := by decide +kernel
theorem dX11_clause_62 : decode cX11_clause 62 = .ok (.ior, 1) := by decide +kernel
theorem dX11_clause_63 : decode cX11_clause 63 = .ok (.putfield 240, 3) := by decide +kernel
theorem dX11_clause_66 : decode cX11_clause 66 = .ok (.aload_n 0, 1) := by decide +kernel
theorem dX11_clause_67 : decode cX11_clause 67 = .ok (.iload_n 1, 1) := by decide +kernel
theorem dX11_clause_68 : decode cX11_clause 68 = .ok (.putfield 225, 3) := by decide +kernel
theorem dX11_clause_71 : decode cX11_clause 71 = .ok (.aload_n 0, 1) := by decide +kernel
theorem dX11_clause_72 : decode cX11_clause 72 = .ok (.invokevirtual 165, 3) := by decide +kernel
theorem dX11_clause_75 : decode cX11_clause 75 = .ok (.aload_n 0, 1) := by decide +kernel
theorem dX11_clause_76 : decode cX11_clause 76 = .ok (.getfield 136, 3) := by decide +kernel
theorem dX11_clause_79 : decode cX11_clause 79 = .ok (.iconst 1, 1) := by decide +kernel
theorem dX11_clause_80 : decode cX11_clause 80 = .ok (.iadd, 1) := by decide +kernel
theorem dX11_clause_81 : decode cX11_clause 81 = .ok (.iconst 4, 1) := by decide +kernel
theorem dX11_clause_82 : decode cX11_clause 82 = .ok (.iload_n 2, 1) := by decide +kernel
theorem dX11_clause_83 : decode cX11_clause 83 = .ok (.imul, 1) := by decide +kernel
theorem dX11_clause_84 : decode cX11_clause 84 = .ok (.iadd, 1) := by decide +kernel
theorem dX11_clause_85 : decode cX11_clause 85 = .ok (.istore_n 3, 1) := by decide +kernel
theorem dX11_clause_86 : decode cX11_clause 86 = .ok (.aload_n 0, 1) := by decide +kernel
theorem dX11_clause_87 : decode cX11_clause 87 = .ok (.getfield 13, 3) := by decide +kernel
theorem dX11_clause_90 : decode cX11_clause 90 = .ok (.iload_n 3, 1) := by decide +kernel
theorem dX11_clause_91 : decode cX11_clause 91 = .ok (.iload_n 1, 1) := by decide +kernel
theorem dX11_clause_92 : decode cX11_clause 92 = .ok (.iastore, 1) := by decide +kernel
theorem dX11_clause_93 : decode cX11_clause 93 = .ok (.aload_n 0, 1) := by decide +kernel
theorem dX11_clause_94 : decode cX11_clause 94 = .ok (.getfield 139, 3) := by decide +kernel
theorem dX11_clause_97 : decode cX11_clause 97 = .ok (.istore 4, 2) := by decide +kernel
theorem dX11_clause_99 : decode cX11_clause 99 = .ok (.iload_n 1, 1) := by decide +kernel
theorem dX11_clause_100 : decode cX11_clause 100 = .ok (.iconst 4, 1) := by decide +kernel
theorem dX11_clause_101 : decode cX11_clause 101 = .ok (.if_icmp .lt 12, 3) := by decide +kernel
theorem dX11_clause_104 : decode cX11_clause 104 = .ok (.aload_n 0, 1) := by decide +kernel
theorem dX11_clause_105 : decode cX11_clause 105 = .ok (.iload_n 3, 1) := by decide +kernel
theorem dX11_clause_106 : decode cX11_clause 106 = .ok (.iload_n 1, 1) := by decide +kernel
theorem dX11_clause_107 : decode cX11_clause 107 = .ok (.invokevirtual 243, 3) := by decide +kernel
theorem dX11_clause_110 : decode cX11_clause 110 = .ok (.goto 17, 3) := by decide +kernel
theorem dX11_clause_113 : decode cX11_clause 113 = .ok (.aload_n 0, 1) := by decide +kernel
theorem dX11_clause_114 : decode cX11_clause 114 = .ok (.iload_n 1, 1) := by decide +kernel
theorem dX11_clause_115 : decode cX11_clause 115 = .ok (.iconst 3, 1) := by decide +kernel
theorem dX11_clause_116 : decode cX11_clause 116 = .ok (.if_icmp .ne 7, 3) := by decide +kernel
theorem dX11_clause_119 : decode cX11_clause 119 = .ok (.iconst 1, 1) := by decide +kernel
theorem dX11_clause_120 : decode cX11_clause 120 = .ok (.goto 4, 3) := by decide +kernel
theorem dX11_clause_123 : decode cX11_clause 123 = .ok (.iconst 0, 1) := by decide +kernel
theorem dX11_clause_124 : decode cX11_clause 124 = .ok (.invokevirtual 247, 3) := by decide +kernel
theorem dX11_clause_127 : decode cX11_clause 127 = .ok (.istore 5, 2) := by decide +kernel
theorem dX11_clause_129 : decode cX11_clause 129 = .ok (.iload 5, 2) := by decide +kernel
theorem dX11_clause_131 : decode cX11_clause 131 = .ok (.ifCond .eq 6, 3) := by decide +kernel
theorem dX11_clause_134 : decode cX11_clause 134 = .ok (.iload 5, 2) := by decide +kernel
theorem dX11_clause_136 : decode cX11_clause 136 = .ok (.ireturn, 1) := by decide +kernel
theorem dX11_clause_137 : decode cX11_clause 137 = .ok (.iload_n 1, 1) := by decide +kernel
theorem dX11_clause_138 : decode cX11_clause 138 = .ok (.iconst 4, 1) := by decide +kernel
theorem dX11_clause_139 : decode cX11_clause 139 = .ok (.if_icmp .ge 25, 3) := by decide +kernel
theorem dX11_clause_142 : decode cX11_clause 142 = .ok (.aload_n 0, 1) := by decide +kernel
theorem dX11_clause_143 : decode cX11_clause 143 = .ok (.getfield 13, 3) := by decide +kernel
theorem dX11_clause_146 : decode cX11_clause 146 = .ok (.iload_n 3, 1) := by decide +kernel
theorem dX11_clause_147 : decode cX11_clause 147 = .ok (.iconst 1, 1) := by decide +kernel
theorem dX11_clause_148 : decode cX11_clause 148 = .ok (.iadd, 1) := by decide +kernel
theorem dX11_clause_149 : decode cX11_clause 149 = .ok (.iload 4, 2) := by decide +kernel
theorem dX11_clause_151 : decode cX11_clause 151 = .ok (.iastore, 1) := by decide +kernel
theorem dX11_clause_152 : decode cX11_clause 152 = .ok (.aload_n 0, 1) := by decide +kernel
theorem dX11_clause_153 : decode cX11_clause 153 = .ok (.getfield 13, 3) := by decide +kernel
theorem dX11_clause_156 : decode cX11_clause 156 = .ok (.iload_n 3, 1) := by decide +kernel
theorem dX11_clause_157 : decode cX11_clause 157 = .ok (.iconst 2, 1) := by decide +kernel
theorem dX11_clause_158 : decode cX11_clause 158 = .ok (.iadd, 1) := by decide +kernel
theorem dX11_clause_159 : decode cX11_clause 159 = .ok (.aload_n 0, 1) := by decide +kernel
theorem dX11_clause_160 : decode cX11_clause 160 = .ok (.getfield 139, 3) := by decide +kernel
theorem dX11_clause_163 : decode cX11_clause 163 = .ok (.iastore, 1) := by decide +kernel
theorem dX11_clause_164 : decode cX11_clause 164 = .ok (.aload_n 0, 1) := by decide +kernel
theorem dX11_clause_165 : decode cX11_clause 165 = .ok (.getfield 13, 3) := by decide +kernel
theorem dX11_clause_168 : decode cX11_clause 168 = .ok (.aload_n 0, 1) := by decide +kernel
theorem dX11_clause_169 : decode cX11_clause 169 = .ok (.getfield 136, 3) := by decide +kernel
theorem dX11_clause_172 : decode cX11_clause 172 = .ok (.dup2, 1) := by decide +kernel
theorem dX11_clause_173 : decode cX11_clause 173 = .ok (.iaload, 1) := by decide +kernel
theorem dX11_clause_174 : decode cX11_clause 174 = .ok (.iconst 1, 1) := by decide +kernel
theorem dX11_clause_175 : decode cX11_clause 175 = .ok (.iadd, 1) := by decide +kernel
theorem dX11_clause_176 : decode cX11_clause 176 = .ok (.iastore, 1) := by decide +kernel
theorem dX11_clause_177 : decode cX11_clause 177 = .ok (.aload_n 0, 1) := by decide +kernel
theorem dX11_clause_178 : decode cX11_clause 178 = .ok (.getfield 111, 3) := by decide +kernel
theorem dX11_clause_181 : decode cX11_clause 181 = .ok (.bipush 59, 2) := by decide +kernel
theorem dX11_clause_183 : decode cX11_clause 183 = .ok (.if_icmp .eq 5, 3) := by decide +kernel
theorem dX11_clause_186 : decode cX11_clause 186 = .ok (.iconst 1, 1) := by decide +kernel
theorem dX11_clause_187 : decode cX11_clause 187 = .ok (.ireturn, 1) := by decide +kernel
theorem dX11_clause_188 : decode cX11_clause 188 = .ok (.aload_n 0, 1) := by decide +kernel
theorem dX11_clause_189 : decode cX11_clause 189 = .ok (.invokevirtual 165, 3) := by decide +kernel
theorem dX11_clause_192 : decode cX11_clause 192 = .ok (.iconst 0, 1) := by decide +kernel
theorem dX11_clause_193 : decode cX11_clause 193 = .ok (.ireturn, 1) := by decide +kernel
theorem dX11_readText_0 : decode cX11_readText 0 = .ok (.aload_n 0, 1) := by decide +kernel
theorem dX11_readText_1 : decode cX11_readText 1 = .ok (.sipush 700, 3) := by decide +kernel
theorem dX11_readText_4 : decode cX11_readText 4 = .ok (.aload_n 0, 1) := by decide +kernel
theorem dX11_readText_5 : decode cX11_readText 5 = .ok (.getfield 7, 3) := by decide +kernel
theorem dX11_readText_8 : decode cX11_readText 8 = .ok (.iconst 3, 1) := by decide +kernel
theorem dX11_readText_9 : decode cX11_readText 9 = .ok (.iaload, 1) := by decide +kernel
theorem dX11_readText_10 : decode cX11_readText 10 = .ok (.imul, 1) := by decide +kernel
theorem dX11_readText_11 : decode cX11_readText 11 = .ok (.putfield 136, 3) := by decide +kernel
theorem dX11_readText_14 : decode cX11_readText 14 = .ok (.aload_n 0, 1) := by decide +kernel
theorem dX11_readText_15 : decode cX11_readText 15 = .ok (.getfield 13, 3) := by decide +kernel
theorem dX11_readText_18 : decode cX11_readText 18 = .ok (.aload_n 0, 1) := by decide +kernel
theorem dX11_readText_19 : decode cX11_readText 19 = .ok (.getfield 136, 3) := by decide +kernel
theorem dX11_readText_22 : decode cX11_readText 22 = .ok (.iconst 0, 1) := by decide +kernel
theorem dX11_readText_23 : decode cX11_readText 23 = .ok (.iastore, 1) := by decide +kernel
theorem dX11_readText_24 : decode cX11_readText 24 = .ok (.aload_n 0, 1) := by decide +kernel
theorem dX11_readText_25 : decode cX11_readText 25 = .ok (.iconst 0, 1) := by decide +kernel
theorem dX11_readText_26 : decode cX11_readText 26 = .ok (.putfield 139, 3) := by decide +kernel
theorem dX11_readText_29 : decode cX11_readText 29 = .ok (.aload_n 0, 1) := by decide +kernel
theorem dX11_readText_30 : decode cX11_readText 30 = .ok (.iconst 0, 1) := by decide +kernel
theorem dX11_readText_31 : decode cX11_readText 31 = .ok (.putfield 151, 3) := by decide +kernel
theorem dX11_readText_34 : decode cX11_readText 34 = .ok (.aload_n 0, 1) := by decide +kernel
theorem dX11_readText_35 : decode cX11_readText 35 = .ok (.iconst 0, 1) := by decide +kernel
theorem dX11_readText_36 : decode cX11_readText 36 = .ok (.putfield 240, 3) := by decide +kernel
theorem dX11_readText_39 : decode cX11_readText 39 = .ok (.aload_n 0, 1) := by decide +kernel
theorem dX11_readText_40 : decode cX11_readText 40 = .ok (.iconst 0, 1) := by decide +kernel
theorem dX11_readText_41 : decode cX11_readText 41 = .ok (.putfield 101, 3) := by decide +kernel
theorem dX11_readText_44 : decode cX11_readText 44 = .ok (.aload_n 0, 1) := by decide +kernel
theorem dX11_readText_45 : decode cX11_readText 45 = .ok (.invokevirtual 165, 3) := by decide +kernel
theorem dX11_readText_48 : decode cX11_readText 48 = .ok (.aload_n 0, 1) := by decide +kernel
theorem dX11_readText_49 : decode cX11_readText 49 = .ok (.getfield 111, 3) := by decide +kernel
theorem dX11_readText_52 : decode cX11_readText 52 = .ok (.ifCond .eq 17, 3) := by decide +kernel
theorem dX11_readText_55 : decode cX11_readText 55 = .ok (.aload_n 0, 1) := by decide +kernel
theorem dX11_readText_56 : decode cX11_readText 56 = .ok (.invokevirtual 250, 3) := by decide +kernel
theorem dX11_readText_59 : decode cX11_readText 59 = .ok (.istore_n 1, 1) := by decide +kernel
theorem dX11_readText_60 : decode cX11_readText 60 = .ok (.iload_n 1, 1) := by decide +kernel
theorem dX11_readText_61 : decode cX11_readText 61 = .ok (.ifCond .eq 5, 3) := by decide +kernel
theorem dX11_readText_64 : decode cX11_readText 64 = .ok (.iload_n 1, 1) := by decide +kernel
theorem dX11_readText_65 : decode cX11_readText 65 = .ok (.ireturn, 1) := by decide +kernel
theorem dX11_readText_66 : decode cX11_readText 66 = .ok (.goto (-18), 3) := by decide +kernel
theorem dX11_readText_69 : decode cX11_readText 69 = .ok (.iconst 0, 1) := by decide +kernel
theorem dX11_readText_70 : decode cX11_readText 70 = .ok (.ireturn, 1) := by decide +kernel
theorem dX11_text_0 : decode cX11_text 0 = .ok (.aload_n 0, 1) := by decide +kernel
theorem dX11_text_1 : decode cX11_text 1 = .ok (.getfield 7, 3) := by decide +kernel
theorem dX11_text_4 : decode cX11_text 4 = .ok (.iconst 3, 1) := by decide +kernel
theorem dX11_text_5 : decode cX11_text 5 = .ok (.iaload, 1) := by decide +kernel
theorem dX11_text_6 : decode cX11_text 6 = .ok (.iconst 4, 1) := by decide +kernel
theorem dX11_text_7 : decode cX11_text 7 = .ok (.if_icmp .ne 5, 3) := by decide +kernel
theorem dX11_text_10 : decode cX11_text 10 = .ok (.iconst (-1), 1) := by decide +kernel
theorem dX11_text_11 : decode cX11_text 11 = .ok (.ireturn, 1) := by decide +kernel
theorem dX11_text_12 : decode cX11_text 12 = .ok (.aload_n 0, 1) := by decide +kernel
theorem dX11_text_13 : decode cX11_text 13 = .ok (.aload_n 0, 1) := by decide +kernel
theorem dX11_text_14 : decode cX11_text 14 = .ok (.invokevirtual 253, 3) := by decide +kernel
theorem dX11_text_17 : decode cX11_text 17 = .ok (.putfield 19, 3) := by decide +kernel
theorem dX11_text_20 : decode cX11_text 20 = .ok (.aload_n 0, 1) := by decide +kernel
theorem dX11_text_21 : decode cX11_text 21 = .ok (.aload_n 0, 1) := by decide +kernel
theorem dX11_text_22 : decode cX11_text 22 = .ok (.getfield 19, 3) := by decide +kernel
theorem dX11_text_25 : decode cX11_text 25 = .ok (.ifCond .ne 7, 3) := by decide +kernel
theorem dX11_text_28 : decode cX11_text 28 = .ok (.iconst (-1), 1) := by decide +kernel
theorem dX11_text_29 : decode cX11_text 29 = .ok (.goto 7, 3) := by decide +kernel
theorem dX11_text_32 : decode cX11_text 32 = .ok (.aload_n 0, 1) := by decide +kernel
theorem dX11_text_33 : decode cX11_text 33 = .ok (.getfield 108, 3) := by decide +kernel
theorem dX11_text_36 : decode cX11_text 36 = .ok (.putfield 23, 3) := by decide +kernel
theorem dX11_text_39 : decode cX11_text 39 = .ok (.aload_n 0, 1) := by decide +kernel
theorem dX11_text_40 : decode cX11_text 40 = .ok (.iconst 0, 1) := by decide +kernel
theorem dX11_text_41 : decode cX11_text 41 = .ok (.putfield 94, 3) := by decide +kernel
theorem dX11_text_44 : decode cX11_text 44 = .ok (.aload_n 0, 1) := by decide +kernel
theorem dX11_text_45 : decode cX11_text 45 = .ok (.getfield 19, 3) := by decide +kernel
theorem dX11_text_48 : decode cX11_text 48 = .ok (.ifCond .eq 5, 3) := by decide +kernel
theorem dX11_text_51 : decode cX11_text 51 = .ok (.iconst (-1), 1) := by decide +kernel
theorem dX11_text_52 : decode cX11_text 52 = .ok (.ireturn, 1) := by decide +kernel
theorem dX11_text_53 : decode cX11_text 53 = .ok (.aload_n 0, 1) := by decide +kernel
theorem dX11_text_54 : decode cX11_text 54 = .ok (.getfield 7, 3) := by decide +kernel
theorem dX11_text_57 : decode cX11_text 57 = .ok (.iconst 3, 1) := by decide +kernel
theorem dX11_text_58 : decode cX11_text 58 = .ok (.dup2, 1) := by decide +kernel
theorem dX11_text_59 : decode cX11_text 59 = .ok (.iaload, 1) := by decide +kernel
theorem dX11_text_60 : decode cX11_text 60 = .ok (.iconst 1, 1) := by decide +kernel
theorem dX11_text_61 : decode cX11_text 61 = .ok (.iadd, 1) := by decide +kernel
theorem dX11_text_62 : decode cX11_text 62 = .ok (.iastore, 1) := by decide +kernel
theorem dX11_text_63 : decode cX11_text 63 = .ok (.aload_n 0, 1) := by decide +kernel
theorem dX11_text_64 : decode cX11_text 64 = .ok (.getfield 7, 3) := by decide +kernel
theorem dX11_text_67 : decode cX11_text 67 = .ok (.iconst 3, 1) := by decide +kernel
theorem dX11_text_68 : decode cX11_text 68 = .ok (.iaload, 1) := by decide +kernel
theorem dX11_text_69 : decode cX11_text 69 = .ok (.iconst 1, 1) := by decide +kernel
theorem dX11_text_70 : decode cX11_text 70 = .ok (.isub, 1) := by decide +kernel
theorem dX11_text_71 : decode cX11_text 71 = .ok (.ireturn, 1) := by decide +kernel
theorem dX11_fault_0 : decode cX11_fault 0 = .ok (.iload_n 1, 1) := by decide +kernel
theorem dX11_fault_1 : decode cX11_fault 1 = .ok (.ifCond .ne 10, 3) := by decide +kernel
theorem dX11_fault_4 : decode cX11_fault 4 = .ok (.aload_n 0, 1) := by decide +kernel
theorem dX11_fault_5 : decode cX11_fault 5 = .ok (.getfield 19, 3) := by decide +kernel
theorem dX11_fault_8 : decode cX11_fault 8 = .ok (.goto 16, 3) := by decide +kernel
theorem dX11_fault_11 : decode cX11_fault 11 = .ok (.iload_n 1, 1) := by decide +kernel
theorem dX11_fault_12 : decode cX11_fault 12 = .ok (.iconst 1, 1) := by decide +kernel
theorem dX11_fault_13 : decode cX11_fault 13 = .ok (.if_icmp .ne 10, 3) := by decide +kernel
theorem dX11_fault_16 : decode cX11_fault 16 = .ok (.aload_n 0, 1) := by decide +kernel
theorem dX11_fault_17 : decode cX11_fault 17 = .ok (.getfield 23, 3) := by decide +kernel
theorem dX11_fault_20 : decode cX11_fault 20 = .ok (.goto 4, 3) := by decide +kernel
theorem dX11_fault_23 : decode cX11_fault 23 = .ok (.iconst (-1), 1) := by decide +kernel
theorem dX11_fault_24 : decode cX11_fault 24 = .ok (.ireturn, 1) := by decide +kernel
theorem dX11_by_0 : decode cX11_by 0 = .ok (.iload_n 1, 1) := by decide +kernel
theorem dX11_by_1 : decode cX11_by 1 = .ok (.iconst (-1), 1) := by decide +kernel
theorem dX11_by_2 : decode cX11_by 2 = .ok (.aload_n 0, 1) := by decide +kernel
theorem dX11_by_3 : decode cX11_by 3 = .ok (.getfield 7, 3) := by decide +kernel
theorem dX11_by_6 : decode cX11_by 6 = .ok (.iconst 3, 1) := by decide +kernel
theorem dX11_by_7 : decode cX11_by 7 = .ok (.iaload, 1) := by decide +kernel
theorem dX11_by_8 : decode cX11_by 8 = .ok (.iconst 1, 1) := by decide +kernel
theorem dX11_by_9 : decode cX11_by 9 = .ok (.isub, 1) := by decide +kernel
theorem dX11_by_10 : decode cX11_by 10 = .ok (.invokestatic 71, 3) := by decide +kernel
theorem dX11_by_13 : decode cX11_by 13 = .ok (.ifCond .ne 5, 3) := by decide +kernel
theorem dX11_by_16 : decode cX11_by 16 = .ok (.iconst 0, 1) := by decide +kernel
theorem dX11_by_17 : decode cX11_by 17 = .ok (.ireturn, 1) := by decide +kernel
theorem dX11_by_18 : decode cX11_by 18 = .ok (.aload_n 0, 1) := by decide +kernel
theorem dX11_by_19 : decode cX11_by 19 = .ok (.getfield 7, 3) := by decide +kernel
theorem dX11_by_22 : decode cX11_by 22 = .ok (.iconst 4, 1) := by decide +kernel
theorem dX11_by_23 : decode cX11_by 23 = .ok (.iload_n 1, 1) := by decide +kernel
theorem dX11_by_24 : decode cX11_by 24 = .ok (.iastore, 1) := by decide +kernel
theorem dX11_by_25 : decode cX11_by 25 = .ok (.iconst 1, 1) := by decide +kernel
theorem dX11_by_26 : decode cX11_by 26 = .ok (.ireturn, 1) := by decide +kernel
theorem dX11_isDone_0 : decode cX11_isDone 0 = .ok (.aload_n 0, 1) := by decide +kernel
theorem dX11_isDone_1 : decode cX11_isDone 1 = .ok (.getfield 13, 3) := by decide +kernel
theorem dX11_isDone_4 : decode cX11_isDone 4 = .ok (.iload_n 1, 1) := by decide +kernel
theorem dX11_isDone_5 : decode cX11_isDone 5 = .ok (.iaload, 1) := by decide +kernel
theorem dX11_isDone_6 : decode cX11_isDone 6 = .ok (.iconst 4, 1) := by decide +kernel
theorem dX11_isDone_7 : decode cX11_isDone 7 = .ok (.if_icmp .ge 5, 3) := by decide +kernel
theorem dX11_isDone_10 : decode cX11_isDone 10 = .ok (.iconst 1, 1) := by decide +kernel
theorem dX11_isDone_11 : decode cX11_isDone 11 = .ok (.ireturn, 1) := by decide +kernel
theorem dX11_isDone_12 : decode cX11_isDone 12 = .ok (.aload_n 0, 1) := by decide +kernel
theorem dX11_isDone_13 : decode cX11_isDone 13 = .ok (.getfield 13, 3) := by decide +kernel
theorem dX11_isDone_16 : decode cX11_isDone 16 = .ok (.iload_n 1, 1) := by decide +kernel
theorem dX11_isDone_17 : decode cX11_isDone 17 = .ok (.iconst 2, 1) := by decide +kernel
theorem dX11_isDone_18 : decode cX11_isDone 18 = .ok (.iadd, 1) := by decide +kernel
theorem dX11_isDone_19 : decode cX11_isDone 19 = .ok (.iaload, 1) := by decide +kernel
theorem dX11_isDone_20 : decode cX11_isDone 20 = .ok (.aload_n 0, 1) := by decide +kernel
theorem dX11_isDone_21 : decode cX11_isDone 21 = .ok (.getfield 58, 3) := by decide +kernel
theorem dX11_isDone_24 : decode cX11_isDone 24 = .ok (.if_icmp .ge 18, 3) := by decide +kernel
theorem dX11_isDone_27 : decode cX11_isDone 27 = .ok (.aload_n 0, 1) := by decide +kernel
theorem dX11_isDone_28 : decode cX11_isDone 28 = .ok (.getfield 13, 3) := by decide +kernel
theorem dX11_isDone_31 : decode cX11_isDone 31 = .ok (.iload_n 1, 1) := by decide +kernel
theorem dX11_isDone_32 : decode cX11_isDone 32 = .ok (.iconst 3, 1) := by decide +kernel
theorem dX11_isDone_33 : decode cX11_isDone 33 = .ok (.iadd, 1) := by decide +kernel
theorem dX11_isDone_34 : decode cX11_isDone 34 = .ok (.iaload, 1) := by decide +kernel
theorem dX11_isDone_35 : decode cX11_isDone 35 = .ok (.aload_n 0, 1) := by decide +kernel
theorem dX11_isDone_36 : decode cX11_isDone 36 = .ok (.getfield 61, 3) := by decide +kernel
theorem dX11_isDone_39 : decode cX11_isDone 39 = .ok (.if_icmp .lt 5, 3) := by decide +kernel
theorem dX11_isDone_42 : decode cX11_isDone 42 = .ok (.iconst 0, 1) := by decide +kernel
theorem dX11_isDone_43 : decode cX11_isDone 43 = .ok (.ireturn, 1) := by decide +kernel
theorem dX11_isDone_44 : decode cX11_isDone 44 = .ok (.aload_n 0, 1) := by decide +kernel
theorem dX11_isDone_45 : decode cX11_isDone 45 = .ok (.getfield 13, 3) := by decide +kernel
theorem dX11_isDone_48 : decode cX11_isDone 48 = .ok (.iload_n 1, 1) := by decide +kernel
theorem dX11_isDone_49 : decode cX11_isDone 49 = .ok (.iconst 2, 1) := by decide +kernel
theorem dX11_isDone_50 : decode cX11_isDone 50 = .ok (.iadd, 1) := by decide +kernel
theorem dX11_isDone_51 : decode cX11_isDone 51 = .ok (.iaload, 1) := by decide +kernel
theorem dX11_isDone_52 : decode cX11_isDone 52 = .ok (.aload_n 0, 1) := by decide +kernel
theorem dX11_isDone_53 : decode cX11_isDone 53 = .ok (.getfield 58, 3) := by decide +kernel
theorem dX11_isDone_56 : decode cX11_isDone 56 = .ok (.aload_n 0, 1) := by decide +kernel
theorem dX11_isDone_57 : decode cX11_isDone 57 = .ok (.getfield 13, 3) := by decide +kernel
theorem dX11_isDone_60 : decode cX11_isDone 60 = .ok (.iload_n 1, 1) := by decide +kernel
theorem dX11_isDone_61 : decode cX11_isDone 61 = .ok (.iconst 3, 1) := by decide +kernel
theorem dX11_isDone_62 : decode cX11_isDone 62 = .ok (.iadd, 1) := by decide +kernel
theorem dX11_isDone_63 : decode cX11_isDone 63 = .ok (.iaload, 1) := by decide +kernel
theorem dX11_isDone_64 : decode cX11_isDone 64 = .ok (.imul, 1) := by decide +kernel
theorem dX11_isDone_65 : decode cX11_isDone 65 = .ok (.iadd, 1) := by decide +kernel
theorem dX11_isDone_66 : decode cX11_isDone 66 = .ok (.istore_n 2, 1) := by decide +kernel
theorem dX11_isDone_67 : decode cX11_isDone 67 = .ok (.aload_n 0, 1) := by decide +kernel
theorem dX11_isDone_68 : decode cX11_isDone 68 = .ok (.getfield 13, 3) := by decide +kernel
theorem dX11_isDone_71 : decode cX11_isDone 71 = .ok (.iload_n 1, 1) := by decide +kernel
theorem dX11_isDone_72 : decode cX11_isDone 72 = .ok (.iaload, 1) := by decide +kernel
theorem dX11_isDone_73 : decode cX11_isDone 73 = .ok (.iconst 4, 1) := by decide +kernel
theorem dX11_isDone_74 : decode cX11_isDone 74 = .ok (.if_icmp .ne 27, 3) := by decide +kernel
theorem dX11_isDone_77 : decode cX11_isDone 77 = .ok (.aload_n 0, 1) := by decide +kernel
theorem dX11_isDone_78 : decode cX11_isDone 78 = .ok (.iload_n 2, 1) := by decide +kernel
theorem dX11_isDone_79 : decode cX11_isDone 79 = .ok (.aload_n 0, 1) := by decide +kernel
theorem dX11_isDone_80 : decode cX11_isDone 80 = .ok (.getfield 13, 3) := by decide +kernel
theorem dX11_isDone_83 : decode cX11_isDone 83 = .ok (.iload_n 1, 1) := by decide +kernel
theorem dX11_isDone_84 : decode cX11_isDone 84 = .ok (.iconst 1, 1) := by decide +kernel
theorem dX11_isDone_85 : decode cX11_isDone 85 = .ok (.iadd, 1) := by decide +kernel
theorem dX11_isDone_86 : decode cX11_isDone 86 = .ok (.iaload, 1) := by decide +kernel
theorem dX11_isDone_87 : decode cX11_isDone 87 = .ok (.invokevirtual 256, 3) := by decide +kernel
theorem dX11_isDone_90 : decode cX11_isDone 90 = .ok (.ifCond .lt 7, 3) := by decide +kernel
theorem dX11_isDone_93 : decode cX11_isDone 93 = .ok (.iconst 1, 1) := by decide +kernel
theorem dX11_isDone_94 : decode cX11_isDone 94 = .ok (.goto 20, 3) := by decide +kernel
theorem dX11_isDone_97 : decode cX11_isDone 97 = .ok (.iconst 0, 1) := by decide +kernel
theorem dX11_isDone_98 : decode cX11_isDone 98 = .ok (.goto 16, 3) := by decide +kernel
theorem dX11_isDone_101 : decode cX11_isDone 101 = .ok (.aload_n 0, 1) := by decide +kernel
theorem dX11_isDone_102 : decode cX11_isDone 102 = .ok (.aload_n 0, 1) := by decide +kernel
theorem dX11_isDone_103 : decode cX11_isDone 103 = .ok (.getfield 13, 3) := by decide +kernel
theorem dX11_isDone_106 : decode cX11_isDone 106 = .ok (.iload_n 1, 1) := by decide +kernel
theorem dX11_isDone_107 : decode cX11_isDone 107 = .ok (.iconst 1, 1) := by decide +kernel
theorem dX11_isDone_108 : decode cX11_isDone 108 = .ok (.iadd, 1) := by decide +kernel
theorem dX11_isDone_109 : decode cX11_isDone 109 = .ok (.iaload, 1) := by decide +kernel
theorem dX11_isDone_110 : decode cX11_isDone 110 = .ok (.iload_n 2, 1) := by decide +kernel
theorem dX11_isDone_111 : decode cX11_isDone 111 = .ok (.invokevirtual 259, 3) := by decide +kernel
theorem dX11_isDone_114 : decode cX11_isDone 114 = .ok (.ireturn, 1) := by decide +kernel
theorem dX11_draw_0 : decode cX11_draw 0 = .ok (.iload_n 1, 1) := by decide +kernel
theorem dX11_draw_1 : decode cX11_draw 1 = .ok (.iconst 0, 1) := by decide +kernel
theorem dX11_draw_2 : decode cX11_draw 2 = .ok (.aload_n 0, 1) := by decide +kernel
theorem dX11_draw_3 : decode cX11_draw 3 = .ok (.getfield 7, 3) := by decide +kernel
theorem dX11_draw_6 : decode cX11_draw 6 = .ok (.iconst 3, 1) := by decide +kernel
theorem dX11_draw_7 : decode cX11_draw 7 = .ok (.iaload, 1) := by decide +kernel
theorem dX11_draw_8 : decode cX11_draw 8 = .ok (.iconst 1, 1) := by decide +kernel
theorem dX11_draw_9 : decode cX11_draw 9 = .ok (.isub, 1) := by decide +kernel
theorem dX11_draw_10 : decode cX11_draw 10 = .ok (.invokestatic 71, 3) := by decide +kernel
theorem dX11_draw_13 : decode cX11_draw 13 = .ok (.ifCond .ne 6, 3) := by decide +kernel
theorem dX11_draw_16 : decode cX11_draw 16 = .ok (.bipush (-2), 2) := by decide +kernel
theorem dX11_draw_18 : decode cX11_draw 18 = .ok (.ireturn, 1) := by decide +kernel
theorem dX11_draw_19 : decode cX11_draw 19 = .ok (.aload_n 0, 1) := by decide +kernel
theorem dX11_draw_20 : decode cX11_draw 20 = .ok (.getfield 7, 3) := by decide +kernel
theorem dX11_draw_23 : decode cX11_draw 23 = .ok (.iconst 1, 1) := by decide +kernel
theorem dX11_draw_24 : decode cX11_draw 24 = .ok (.iconst 0, 1) := by decide +kernel
theorem dX11_draw_25 : decode cX11_draw 25 = .ok (.iastore, 1) := by decide +kernel
theorem dX11_draw_26 : decode cX11_draw 26 = .ok (.iconst 0, 1) := by decide +kernel
theorem dX11_draw_27 : decode cX11_draw 27 = .ok (.istore_n 2, 1) := by decide +kernel
theorem dX11_draw_28 : decode cX11_draw 28 = .ok (.iload_n 2, 1) := by decide +kernel
theorem dX11_draw_29 : decode cX11_draw 29 = .ok (.bipush 6, 2) := by decide +kernel
theorem dX11_draw_31 : decode cX11_draw 31 = .ok (.if_icmp .ge 19, 3) := by decide +kernel
theorem dX11_draw_34 : decode cX11_draw 34 = .ok (.aload_n 0, 1) := by decide +kernel
theorem dX11_draw_35 : decode cX11_draw 35 = .ok (.getfield 7, 3) := by decide +kernel
theorem dX11_draw_38 : decode cX11_draw 38 = .ok (.bipush 85, 2) := by decide +kernel
theorem dX11_draw_40 : decode cX11_draw 40 = .ok (.iload_n 2, 1) := by decide +kernel
theorem dX11_draw_41 : decode cX11_draw 41 = .ok (.iadd, 1) := by decide +kernel
theorem dX11_draw_42 : decode cX11_draw 42 = .ok (.iconst (-1), 1) := by decide +kernel
theorem dX11_draw_43 : decode cX11_draw 43 = .ok (.iastore, 1) := by decide +kernel
theorem dX11_draw_44 : decode cX11_draw 44 = .ok (.iinc 2 1, 3) := by decide +kernel
theorem dX11_draw_47 : decode cX11_draw 47 = .ok (.goto (-19), 3) := by decide +kernel
theorem dX11_draw_50 : decode cX11_draw 50 = .ok (.iconst 0, 1) := by decide +kernel
theorem dX11_draw_51 : decode cX11_draw 51 = .ok (.istore_n 2, 1) := by decide +kernel
theorem dX11_draw_52 : decode cX11_draw 52 = .ok (.iload_n 2, 1) := by decide +kernel
theorem dX11_draw_53 : decode cX11_draw 53 = .ok (.bipush 48, 2) := by decide +kernel
theorem dX11_draw_55 : decode cX11_draw 55 = .ok (.if_icmp .ge 31, 3) := by decide +kernel
theorem dX11_draw_58 : decode cX11_draw 58 = .ok (.aload_n 0, 1) := by decide +kernel
theorem dX11_draw_59 : decode cX11_draw 59 = .ok (.getfield 7, 3) := by decide +kernel
theorem dX11_draw_62 : decode cX11_draw 62 = .ok (.sipush 240, 3) := by decide +kernel
theorem dX11_draw_65 : decode cX11_draw 65 = .ok (.iload_n 2, 1) := by decide +kernel
theorem dX11_draw_66 : decode cX11_draw 66 = .ok (.iadd, 1) := by decide +kernel
theorem dX11_draw_67 : decode cX11_draw 67 = .ok (.iconst (-1), 1) := by decide +kernel
theorem dX11_draw_68 : decode cX11_draw 68 = .ok (.iastore, 1) := by decide +kernel
theorem dX11_draw_69 : decode cX11_draw 69 = .ok (.aload_n 0, 1) := by decide +kernel
theorem dX11_draw_70 : decode cX11_draw 70 = .ok (.getfield 7, 3) := by decide +kernel
theorem dX11_draw_73 : decode cX11_draw 73 = .ok (.sipush 290, 3) := by decide +kernel
theorem dX11_draw_76 : decode cX11_draw 76 = .ok (.iload_n 2, 1) := by decide +kernel
theorem dX11_draw_77 : decode cX11_draw 77 = .ok (.iadd, 1) := by decide +kernel
theorem dX11_draw_78 : decode cX11_draw 78 = .ok (.iconst 0, 1) := by decide +kernel
theorem dX11_draw_79 : decode cX11_draw 79 = .ok (.iastore, 1) := by decide +kernel
theorem dX11_draw_80 : decode cX11_draw 80 = .ok (.iinc 2 1, 3) := by decide +kernel
theorem dX11_draw_83 : decode cX11_draw 83 = .ok (.goto (-31), 3) := by decide +kernel
theorem dX11_draw_86 : decode cX11_draw 86 = .ok (.iconst 0, 1) := by decide +kernel
theorem dX11_draw_87 : decode cX11_draw 87 = .ok (.istore_n 2, 1) := by decide +kernel
theorem dX11_draw_88 : decode cX11_draw 88 = .ok (.iload_n 2, 1) := by decide +kernel
theorem dX11_draw_89 : decode cX11_draw 89 = .ok (.aload_n 0, 1) := by decide +kernel
theorem dX11_draw_90 : decode cX11_draw 90 = .ok (.getfield 13, 3) := by decide +kernel
theorem dX11_draw_93 : decode cX11_draw 93 = .ok (.sipush 700, 3) := by decide +kernel
theorem dX11_draw_96 : decode cX11_draw 96 = .ok (.iload_n 1, 1) := by decide +kernel
theorem dX11_draw_97 : decode cX11_draw 97 = .ok (.imul, 1) := by decide +kernel
theorem dX11_draw_98 : decode cX11_draw 98 = .ok (.iaload, 1) := by decide +kernel
theorem dX11_draw_99 : decode cX11_draw 99 = .ok (.if_icmp .ge 29, 3) := by decide +kernel
theorem dX11_draw_102 : decode cX11_draw 102 = .ok (.aload_n 0, 1) := by decide +kernel
theorem dX11_draw_103 : decode cX11_draw 103 = .ok (.sipush 700, 3) := by decide +kernel
theorem dX11_draw_106 : decode cX11_draw 106 = .ok (.iload_n 1, 1) := by decide +kernel
theorem dX11_draw_107 : decode cX11_draw 107 = .ok (.imul, 1) := by decide +kernel
theorem dX11_draw_108 : decode cX11_draw 108 = .ok (.iconst 1, 1) := by decide +kernel
theorem dX11_draw_109 : decode cX11_draw 109 = .ok (.iadd, 1) := by decide +kernel
theorem dX11_draw_110 : decode cX11_draw 110 = .ok (.iconst 4, 1) := by decide +kernel
theorem dX11_draw_111 : decode cX11_draw 111 = .ok (.iload_n 2, 1) := by decide +kernel
theorem dX11_draw_112 : decode cX11_draw 112 = .ok (.imul, 1) := by decide +kernel
theorem dX11_draw_113 : decode cX11_draw 113 = .ok (.iadd, 1) := by decide +kernel
theorem dX11_draw_114 : decode cX11_draw 114 = .ok (.invokevirtual 263, 3) := by decide +kernel
theorem dX11_draw_117 : decode cX11_draw 117 = .ok (.ifCond .ne 5, 3) := by decide +kernel
theorem dX11_draw_120 : decode cX11_draw 120 = .ok (.iload_n 2, 1) := by decide +kernel
theorem dX11_draw_121 : decode cX11_draw 121 = .ok (.ireturn, 1) := by decide +kernel
theorem dX11_draw_122 : decode cX11_draw 122 = .ok (.iinc 2 1, 3) := by decide +kernel
theorem dX11_draw_125 : decode cX11_draw 125 = .ok (.goto (-37), 3) := by decide +kernel
theorem dX11_draw_128 : decode cX11_draw 128 = .ok (.iconst (-1), 1) := by decide +kernel
theorem dX11_draw_129 : decode cX11_draw 129 = .ok (.ireturn, 1) := by decide +kernel
theorem dX11_clip_0 : decode cX11_clip 0 = .ok (.lload_n 0, 1) := by decide +kernel
theorem dX11_clip_1 : decode cX11_clip 1 = .ok (.ldc2_w 266, 3) := by decide +kernel
theorem dX11_clip_4 : decode cX11_clip 4 = .ok (.lcmp, 1) := by decide +kernel
theorem dX11_clip_5 : decode cX11_clip 5 = .ok (.ifCond .le 9, 3) := by decide +kernel
theorem dX11_clip_8 : decode cX11_clip 8 = .ok (.ldc2_w 266, 3) := by decide +kernel
theorem dX11_clip_11 : decode cX11_clip 11 = .ok (.goto 18, 3) := by decide +kernel
theorem dX11_clip_14 : decode cX11_clip 14 = .ok (.lload_n 0, 1) := by decide +kernel
theorem dX11_clip_15 : decode cX11_clip 15 = .ok (.ldc2_w 268, 3) := by decide +kernel
theorem dX11_clip_18 : decode cX11_clip 18 = .ok (.lcmp, 1) := by decide +kernel
theorem dX11_clip_19 : decode cX11_clip 19 = .ok (.ifCond .ge 9, 3) := by decide +kernel
theorem dX11_clip_22 : decode cX11_clip 22 = .ok (.ldc2_w 268, 3) := by decide +kernel
theorem dX11_clip_25 : decode cX11_clip 25 = .ok (.goto 4, 3) := by decide +kernel
theorem dX11_clip_28 : decode cX11_clip 28 = .ok (.lload_n 0, 1) := by decide +kernel
theorem dX11_clip_29 : decode cX11_clip 29 = .ok (.lreturn, 1) := by decide +kernel
theorem dX11_two_0 : decode cX11_two 0 = .ok (.iload_n 0, 1) := by decide +kernel
theorem dX11_two_1 : decode cX11_two 1 = .ok (.tableswitch 84 3 8 #[39, 46, 53, 84, 60, 72], 39) := by decide +kernel
theorem dX11_two_40 : decode cX11_two 40 = .ok (.lload_n 1, 1) := by decide +kernel
theorem dX11_two_41 : decode cX11_two 41 = .ok (.lload_n 3, 1) := by decide +kernel
theorem dX11_two_42 : decode cX11_two 42 = .ok (.ladd, 1) := by decide +kernel
theorem dX11_two_43 : decode cX11_two 43 = .ok (.invokestatic 270, 3) := by decide +kernel
theorem dX11_two_46 : decode cX11_two 46 = .ok (.lreturn, 1) := by decide +kernel
theorem dX11_two_47 : decode cX11_two 47 = .ok (.lload_n 1, 1) := by decide +kernel
theorem dX11_two_48 : decode cX11_two 48 = .ok (.lload_n 3, 1) := by decide +kernel
theorem dX11_two_49 : decode cX11_two 49 = .ok (.lsub, 1) := by decide +kernel
theorem dX11_two_50 : decode cX11_two 50 = .ok (.invokestatic 270, 3) := by decide +kernel
theorem dX11_two_53 : decode cX11_two 53 = .ok (.lreturn, 1) := by decide +kernel
theorem dX11_two_54 : decode cX11_two 54 = .ok (.lload_n 1, 1) := by decide +kernel
theorem dX11_two_55 : decode cX11_two 55 = .ok (.lload_n 3, 1) := by decide +kernel
theorem dX11_two_56 : decode cX11_two 56 = .ok (.lmul, 1) := by decide +kernel
theorem dX11_two_57 : decode cX11_two 57 = .ok (.invokestatic 270, 3) := by decide +kernel
theorem dX11_two_60 : decode cX11_two 60 = .ok (.lreturn, 1) := by decide +kernel
theorem dX11_two_61 : decode cX11_two 61 = .ok (.lload_n 1, 1) := by decide +kernel
theorem dX11_two_62 : decode cX11_two 62 = .ok (.lload_n 3, 1) := by decide +kernel
theorem dX11_two_63 : decode cX11_two 63 = .ok (.lcmp, 1) := by decide +kernel
theorem dX11_two_64 : decode cX11_two 64 = .ok (.ifCond .ge 7, 3) := by decide +kernel
theorem dX11_two_67 : decode cX11_two 67 = .ok (.lload_n 1, 1) := by decide +kernel
theorem dX11_two_68 : decode cX11_two 68 = .ok (.goto 4, 3) := by decide +kernel
theorem dX11_two_71 : decode cX11_two 71 = .ok (.lload_n 3, 1) := by decide +kernel
theorem dX11_two_72 : decode cX11_two 72 = .ok (.lreturn, 1) := by decide +kernel
theorem dX11_two_73 : decode cX11_two 73 = .ok (.lload_n 1, 1) := by decide +kernel
theorem dX11_two_74 : decode cX11_two 74 = .ok (.lload_n 3, 1) := by decide +kernel
theorem dX11_two_75 : decode cX11_two 75 = .ok (.lcmp, 1) := by decide +kernel
theorem dX11_two_76 : decode cX11_two 76 = .ok (.ifCond .le 7, 3) := by decide +kernel
theorem dX11_two_79 : decode cX11_two 79 = .ok (.lload_n 1, 1) := by decide +kernel
theorem dX11_two_80 : decode cX11_two 80 = .ok (.goto 4, 3) := by decide +kernel
theorem dX11_two_83 : decode cX11_two 83 = .ok (.lload_n 3, 1) := by decide +kernel
theorem dX11_two_84 : decode cX11_two 84 = .ok (.lreturn, 1) := by decide +kernel
theorem dX11_two_85 : decode cX11_two 85 = .ok (.lload_n 3, 1) := by decide +kernel
theorem dX11_two_86 : decode cX11_two 86 = .ok (.lconst 0, 1) := by decide +kernel
theorem dX11_two_87 : decode cX11_two 87 = .ok (.lcmp, 1) := by decide +kernel
theorem dX11_two_88 : decode cX11_two 88 = .ok (.ifCond .ne 7, 3) := by decide +kernel
theorem dX11_two_91 : decode cX11_two 91 = .ok (.lconst 0, 1) := by decide +kernel
theorem dX11_two_92 : decode cX11_two 92 = .ok (.goto 9, 3) := by decide +kernel
theorem dX11_two_95 : decode cX11_two 95 = .ok (.lload_n 1, 1) := by decide +kernel
theorem dX11_two_96 : decode cX11_two 96 = .ok (.lload_n 3, 1) := by decide +kernel
theorem dX11_two_97 : decode cX11_two 97 = .ok (.ldiv, 1) := by decide +kernel
theorem dX11_two_98 : decode cX11_two 98 = .ok (.invokestatic 270, 3) := by decide +kernel
theorem dX11_two_101 : decode cX11_two 101 = .ok (.lreturn, 1) := by decide +kernel
theorem dX11_isAsked_0 : decode cX11_isAsked 0 = .ok (.iload_n 0, 1) := by decide +kernel
theorem dX11_isAsked_1 : decode cX11_isAsked 1 = .ok (.bipush 10, 2) := by decide +kernel
theorem dX11_isAsked_3 : decode cX11_isAsked 3 = .ok (.if_icmp .ne 17, 3) := by decide +kernel
theorem dX11_isAsked_6 : decode cX11_isAsked 6 = .ok (.lload_n 1, 1) := by decide +kernel
theorem dX11_isAsked_7 : decode cX11_isAsked 7 = .ok (.lload_n 3, 1) := by decide +kernel
theorem dX11_isAsked_8 : decode cX11_isAsked 8 = .ok (.lcmp, 1) := by decide +kernel
theorem dX11_isAsked_9 : decode cX11_isAsked 9 = .ok (.ifCond .ge 7, 3) := by decide +kernel
theorem dX11_isAsked_12 : decode cX11_isAsked 12 = .ok (.iconst 1, 1) := by decide +kernel
theorem dX11_isAsked_13 : decode cX11_isAsked 13 = .ok (.goto 98, 3) := by decide +kernel
theorem dX11_isAsked_16 : decode cX11_isAsked 16 = .ok (.iconst 0, 1) := by decide +kernel
theorem dX11_isAsked_17 : decode cX11_isAsked 17 = .ok (.goto 94, 3) := by decide +kernel
theorem dX11_isAsked_20 : decode cX11_isAsked 20 = .ok (.iload_n 0, 1) := by decide +kernel
theorem dX11_isAsked_21 : decode cX11_isAsked 21 = .ok (.bipush 11, 2) := by decide +kernel
theorem dX11_isAsked_23 : decode cX11_isAsked 23 = .ok (.if_icmp .ne 17, 3) := by decide +kernel
theorem dX11_isAsked_26 : decode cX11_isAsked 26 = .ok (.lload_n 1, 1) := by decide +kernel
theorem dX11_isAsked_27 : decode cX11_isAsked 27 = .ok (.lload_n 3, 1) := by decide +kernel
theorem dX11_isAsked_28 : decode cX11_isAsked 28 = .ok (.lcmp, 1) := by decide +kernel
theorem dX11_isAsked_29 : decode cX11_isAsked 29 = .ok (.ifCond .gt 7, 3) := by decide +kernel
theorem dX11_isAsked_32 : decode cX11_isAsked 32 = .ok (.iconst 1, 1) := by decide +kernel
theorem dX11_isAsked_33 : decode cX11_isAsked 33 = .ok (.goto 78, 3) := by decide +kernel
theorem dX11_isAsked_36 : decode cX11_isAsked 36 = .ok (.iconst 0, 1) := by decide +kernel
theorem dX11_isAsked_37 : decode cX11_isAsked 37 = .ok (.goto 74, 3) := by decide +kernel
theorem dX11_isAsked_40 : decode cX11_isAsked 40 = .ok (.iload_n 0, 1) := by decide +kernel
theorem dX11_isAsked_41 : decode cX11_isAsked 41 = .ok (.bipush 12, 2) := by decide +kernel
theorem dX11_isAsked_43 : decode cX11_isAsked 43 = .ok (.if_icmp .ne 17, 3) := by decide +kernel
theorem dX11_isAsked_46 : decode cX11_isAsked 46 = .ok (.lload_n 1, 1) := by decide +kernel
theorem dX11_isAsked_47 : decode cX11_isAsked 47 = .ok (.lload_n 3, 1) := by decide +kernel
theorem dX11_isAsked_48 : decode cX11_isAsked 48 = .ok (.lcmp, 1) := by decide +kernel
theorem dX11_isAsked_49 : decode cX11_isAsked 49 = .ok (.ifCond .le 7, 3) := by decide +kernel
theorem dX11_isAsked_52 : decode cX11_isAsked 52 = .ok (.iconst 1, 1) := by decide +kernel
theorem dX11_isAsked_53 : decode cX11_isAsked 53 = .ok (.goto 58, 3) := by decide +kernel
theorem dX11_isAsked_56 : decode cX11_isAsked 56 = .ok (.iconst 0, 1) := by decide +kernel
theorem dX11_isAsked_57 : decode cX11_isAsked 57 = .ok (.goto 54, 3) := by decide +kernel
theorem dX11_isAsked_60 : decode cX11_isAsked 60 = .ok (.iload_n 0, 1) := by decide +kernel
theorem dX11_isAsked_61 : decode cX11_isAsked 61 = .ok (.bipush 13, 2) := by decide +kernel
theorem dX11_isAsked_63 : decode cX11_isAsked 63 = .ok (.if_icmp .ne 17, 3) := by decide +kernel
theorem dX11_isAsked_66 : decode cX11_isAsked 66 = .ok (.lload_n 1, 1) := by decide +kernel
theorem dX11_isAsked_67 : decode cX11_isAsked 67 = .ok (.lload_n 3, 1) := by decide +kernel
theorem dX11_isAsked_68 : decode cX11_isAsked 68 = .ok (.lcmp, 1) := by decide +kernel
theorem dX11_isAsked_69 : decode cX11_isAsked 69 = .ok (.ifCond .lt 7, 3) := by decide +kernel
theorem dX11_isAsked_72 : decode cX11_isAsked 72 = .ok (.iconst 1, 1) := by decide +kernel
theorem dX11_isAsked_73 : decode cX11_isAsked 73 = .ok (.goto 38, 3) := by decide +kernel
theorem dX11_isAsked_76 : decode cX11_isAsked 76 = .ok (.iconst 0, 1) := by decide +kernel
theorem dX11_isAsked_77 : decode cX11_isAsked 77 = .ok (.goto 34, 3) := by decide +kernel
theorem dX11_isAsked_80 : decode cX11_isAsked 80 = .ok (.iload_n 0, 1) := by decide +kernel
theorem dX11_isAsked_81 : decode cX11_isAsked 81 = .ok (.bipush 14, 2) := by decide +kernel
theorem dX11_isAsked_83 : decode cX11_isAsked 83 = .ok (.if_icmp .ne 17, 3) := by decide +kernel
theorem dX11_isAsked_86 : decode cX11_isAsked 86 = .ok (.lload_n 1, 1) := by decide +kernel
theorem dX11_isAsked_87 : decode cX11_isAsked 87 = .ok (.lload_n 3, 1) := by decide +kernel
theorem dX11_isAsked_88 : decode cX11_isAsked 88 = .ok (.lcmp, 1) := by decide +kernel
theorem dX11_isAsked_89 : decode cX11_isAsked 89 = .ok (.ifCond .ne 7, 3) := by decide +kernel
theorem dX11_isAsked_92 : decode cX11_isAsked 92 = .ok (.iconst 1, 1) := by decide +kernel
theorem dX11_isAsked_93 : decode cX11_isAsked 93 = .ok (.goto 18, 3) := by decide +kernel
theorem dX11_isAsked_96 : decode cX11_isAsked 96 = .ok (.iconst 0, 1) := by decide +kernel
theorem dX11_isAsked_97 : decode cX11_isAsked 97 = .ok (.goto 14, 3) := by decide +kernel
theorem dX11_isAsked_100 : decode cX11_isAsked 100 = .ok (.lload_n 1, 1) := by decide +kernel
theorem dX11_isAsked_101 : decode cX11_isAsked 101 = .ok (.lload_n 3, 1) := by decide +kernel
theorem dX11_isAsked_102 : decode cX11_isAsked 102 = .ok (.lcmp, 1) := by decide +kernel
theorem dX11_isAsked_103 : decode cX11_isAsked 103 = .ok (.ifCond .eq 7, 3) := by decide +kernel
theorem dX11_isAsked_106 : decode cX11_isAsked 106 = .ok (.iconst 1, 1) := by decide +kernel
theorem dX11_isAsked_107 : decode cX11_isAsked 107 = .ok (.goto 4, 3) := by decide +kernel
theorem dX11_isAsked_110 : decode cX11_isAsked 110 = .ok (.iconst 0, 1) := by decide +kernel
theorem dX11_isAsked_111 : decode cX11_isAsked 111 = .ok (.ireturn, 1) := by decide +kernel
theorem dX11_work_0 : decode cX11_work 0 = .ok (.sipush 700, 3) := by decide +kernel
theorem dX11_work_3 : decode cX11_work 3 = .ok (.aload_n 0, 1) := by decide +kernel
theorem dX11_work_4 : decode cX11_work 4 = .ok (.getfield 7, 3) := by decide +kernel
theorem dX11_work_7 : decode cX11_work 7 = .ok (.iconst 4, 1) := by decide +kernel
theorem dX11_work_8 : decode cX11_work 8 = .ok (.iaload, 1) := by decide +kernel
theorem dX11_work_9 : decode cX11_work 9 = .ok (.imul, 1) := by decide +kernel
theorem dX11_work_10 : decode cX11_work 10 = .ok (.iconst 1, 1) := by decide +kernel
theorem dX11_work_11 : decode cX11_work 11 = .ok (.iadd, 1) := by decide +kernel
theorem dX11_work_12 : decode cX11_work 12 = .ok (.iconst 4, 1) := by decide +kernel
theorem dX11_work_13 : decode cX11_work 13 = .ok (.iload_n 1, 1) := by decide +kernel
theorem dX11_work_14 : decode cX11_work 14 = .ok (.imul, 1) := by decide +kernel
theorem dX11_work_15 : decode cX11_work 15 = .ok (.iadd, 1) := by decide +kernel
theorem dX11_work_16 : decode cX11_work 16 = .ok (.istore_n 2, 1) := by decide +kernel
theorem dX11_work_17 : decode cX11_work 17 = .ok (.sipush 700, 3) := by decide +kernel
theorem dX11_work_20 : decode cX11_work 20 = .ok (.aload_n 0, 1) := by decide +kernel
theorem dX11_work_21 : decode cX11_work 21 = .ok (.getfield 7, 3) := by decide +kernel
theorem dX11_work_24 : decode cX11_work 24 = .ok (.iconst 4, 1) := by decide +kernel
theorem dX11_work_25 : decode cX11_work 25 = .ok (.iaload, 1) := by decide +kernel
theorem dX11_work_26 : decode cX11_work 26 = .ok (.imul, 1) := by decide +kernel
theorem dX11_work_27 : decode cX11_work 27 = .ok (.bipush 85, 2) := by decide +kernel
theorem dX11_work_29 : decode cX11_work 29 = .ok (.iadd, 1) := by decide +kernel
theorem dX11_work_30 : decode cX11_work 30 = .ok (.istore_n 3, 1) := by decide +kernel
theorem dX11_work_31 : decode cX11_work 31 = .ok (.iconst 0, 1) := by decide +kernel
theorem dX11_work_32 : decode cX11_work 32 = .ok (.istore 4, 2) := by decide +kernel
theorem dX11_work_34 : decode cX11_work 34 = .ok (.iconst 0, 1) := by decide +kernel
theorem dX11_work_35 : decode cX11_work 35 = .ok (.istore 5, 2) := by decide +kernel
theorem dX11_work_37 : decode cX11_work 37 = .ok (.aload_n 0, 1) := by decide +kernel
theorem dX11_work_38 : decode cX11_work 38 = .ok (.getfield 13, 3) := by decide +kernel
theorem dX11_work_41 : decode cX11_work 41 = .ok (.iload_n 2, 1) := by decide +kernel
theorem dX11_work_42 : decode cX11_work 42 = .ok (.iconst 1, 1) := by decide +kernel
theorem dX11_work_43 : decode cX11_work 43 = .ok (.iadd, 1) := by decide +kernel
theorem dX11_work_44 : decode cX11_work 44 = .ok (.iaload, 1) := by decide +kernel
theorem dX11_work_45 : decode cX11_work 45 = .ok (.istore 6, 2) := by decide +kernel
theorem dX11_work_47 : decode cX11_work 47 = .ok (.iload 6, 2) := by decide +kernel
theorem dX11_work_49 : decode cX11_work 49 = .ok (.aload_n 0, 1) := by decide +kernel
theorem dX11_work_50 : decode cX11_work 50 = .ok (.getfield 13, 3) := by decide +kernel
theorem dX11_work_53 : decode cX11_work 53 = .ok (.iload_n 2, 1) := by decide +kernel
theorem dX11_work_54 : decode cX11_work 54 = .ok (.iconst 2, 1) := by decide +kernel
theorem dX11_work_55 : decode cX11_work 55 = .ok (.iadd, 1) := by decide +kernel
theorem dX11_work_56 : decode cX11_work 56 = .ok (.iaload, 1) := by decide +kernel
theorem dX11_work_57 : decode cX11_work 57 = .ok (.if_icmp .ge 302, 3) := by decide +kernel
theorem dX11_work_60 : decode cX11_work 60 = .ok (.aload_n 0, 1) := by decide +kernel
theorem dX11_work_61 : decode cX11_work 61 = .ok (.getfield 13, 3) := by decide +kernel
theorem dX11_work_64 : decode cX11_work 64 = .ok (.iload_n 3, 1) := by decide +kernel
theorem dX11_work_65 : decode cX11_work 65 = .ok (.iconst 2, 1) := by decide +kernel
theorem dX11_work_66 : decode cX11_work 66 = .ok (.iload 6, 2) := by decide +kernel
theorem dX11_work_68 : decode cX11_work 68 = .ok (.imul, 1) := by decide +kernel
theorem dX11_work_69 : decode cX11_work 69 = .ok (.iadd, 1) := by decide +kernel
theorem dX11_work_70 : decode cX11_work 70 = .ok (.iaload, 1) := by decide +kernel
theorem dX11_work_71 : decode cX11_work 71 = .ok (.istore 7, 2) := by decide +kernel
theorem dX11_work_73 : decode cX11_work 73 = .ok (.aload_n 0, 1) := by decide +kernel
theorem dX11_work_74 : decode cX11_work 74 = .ok (.getfield 13, 3) := by decide +kernel
theorem dX11_work_77 : decode cX11_work 77 = .ok (.iload_n 3, 1) := by decide +kernel
theorem dX11_work_78 : decode cX11_work 78 = .ok (.iconst 2, 1) := by decide +kernel
theorem dX11_work_79 : decode cX11_work 79 = .ok (.iload 6, 2) := by decide +kernel
theorem dX11_work_81 : decode cX11_work 81 = .ok (.imul, 1) := by decide +kernel
theorem dX11_work_82 : decode cX11_work 82 = .ok (.iadd, 1) := by decide +kernel
theorem dX11_work_83 : decode cX11_work 83 = .ok (.iconst 1, 1) := by decide +kernel
theorem dX11_work_84 : decode cX11_work 84 = .ok (.iadd, 1) := by decide +kernel
theorem dX11_work_85 : decode cX11_work 85 = .ok (.iaload, 1) := by decide +kernel
theorem dX11_work_86 : decode cX11_work 86 = .ok (.istore 8, 2) := by decide +kernel
theorem dX11_work_88 : decode cX11_work 88 = .ok (.iload 7, 2) := by decide +kernel
theorem dX11_work_90 : decode cX11_work 90 = .ok (.iconst 1, 1) := by decide +kernel
theorem dX11_work_91 : decode cX11_work 91 = .ok (.if_icmp .gt 35, 3) := by decide +kernel
theorem dX11_work_94 : decode cX11_work 94 = .ok (.aload_n 0, 1) := by decide +kernel
theorem dX11_work_95 : decode cX11_work 95 = .ok (.getfield 32, 3) := by decide +kernel
theorem dX11_work_98 : decode cX11_work 98 = .ok (.iload 4, 2) := by decide +kernel
theorem dX11_work_100 : decode cX11_work 100 = .ok (.iload 7, 2) := by decide +kernel
theorem dX11_work_102 : decode cX11_work 102 = .ok (.ifCond .ne 9, 3) := by decide +kernel
theorem dX11_work_105 : decode cX11_work 105 = .ok (.iload 8, 2) := by decide +kernel
theorem dX11_work_107 : decode cX11_work 107 = .ok (.i2l, 1) := by decide +kernel
theorem dX11_work_108 : decode cX11_work 108 = .ok (.goto 11, 3) := by decide +kernel
theorem dX11_work_111 : decode cX11_work 111 = .ok (.aload_n 0, 1) := by decide +kernel
theorem dX11_work_112 : decode cX11_work 112 = .ok (.getfield 29, 3) := by decide +kernel
theorem dX11_work_115 : decode cX11_work 115 = .ok (.iload 8, 2) := by decide +kernel
theorem dX11_work_117 : decode cX11_work 117 = .ok (.iaload, 1) := by decide +kernel
theorem dX11_work_118 : decode cX11_work 118 = .ok (.i2l, 1) := by decide +kernel
theorem dX11_work_119 : decode cX11_work 119 = .ok (.lastore, 1) := by decide +kernel
theorem dX11_work_120 : decode cX11_work 120 = .ok (.iinc 4 1, 3) := by decide +kernel
theorem dX11_work_123 : decode cX11_work 123 = .ok (.goto 230, 3) := by decide +kernel
theorem dX11_work_126 : decode cX11_work 126 = .ok (.iload 7, 2) := by decide +kernel
theorem dX11_work_128 : decode cX11_work 128 = .ok (.iconst 2, 1) := by decide +kernel
theorem dX11_work_129 : decode cX11_work 129 = .ok (.if_icmp .ne 25, 3) := by decide +kernel
theorem dX11_work_132 : decode cX11_work 132 = .ok (.aload_n 0, 1) := by decide +kernel
theorem dX11_work_133 : decode cX11_work 133 = .ok (.getfield 32, 3) := by decide +kernel
theorem dX11_work_136 : decode cX11_work 136 = .ok (.iload 4, 2) := by decide +kernel
theorem dX11_work_138 : decode cX11_work 138 = .ok (.iconst 1, 1) := by decide +kernel
theorem dX11_work_139 : decode cX11_work 139 = .ok (.isub, 1) := by decide +kernel
theorem dX11_work_140 : decode cX11_work 140 = .ok (.aload_n 0, 1) := by decide +kernel
theorem dX11_work_141 : decode cX11_work 141 = .ok (.getfield 32, 3) := by decide +kernel
theorem dX11_work_144 : decode cX11_work 144 = .ok (.iload 4, 2) := by decide +kernel
theorem dX11_work_146 : decode cX11_work 146 = .ok (.iconst 1, 1) := by decide +kernel
theorem dX11_work_147 : decode cX11_work 147 = .ok (.isub, 1) := by decide +kernel
theorem dX11_work_148 : decode cX11_work 148 = .ok (.laload, 1) := by decide +kernel
theorem dX11_work_149 : decode cX11_work 149 = .ok (.lneg, 1) := by decide +kernel
theorem dX11_work_150 : decode cX11_work 150 = .ok (.lastore, 1) := by decide +kernel
theorem dX11_work_151 : decode cX11_work 151 = .ok (.goto 202, 3) := by decide +kernel
theorem dX11_work_154 : decode cX11_work 154 = .ok (.iload 7, 2) := by decide +kernel
theorem dX11_work_156 : decode cX11_work 156 = .ok (.bipush 10, 2) := by decide +kernel
theorem dX11_work_158 : decode cX11_work 158 = .ok (.if_icmp .ge 39, 3) := by decide +kernel
theorem dX11_work_161 : decode cX11_work 161 = .ok (.iinc 4 (-1), 3) := by decide +kernel
theorem dX11_work_164 : decode cX11_work 164 = .ok (.aload_n 0, 1) := by decide +kernel
theorem dX11_work_165 : decode cX11_work 165 = .ok (.getfield 32, 3) := by decide +kernel
theorem dX11_work_168 : decode cX11_work 168 = .ok (.iload 4, 2) := by decide +kernel
theorem dX11_work_170 : decode cX11_work 170 = .ok (.iconst 1, 1) := by decide +kernel
theorem dX11_work_171 : decode cX11_work 171 = .ok (.isub, 1) := by decide +kernel
theorem dX11_work_172 : decode cX11_work 172 = .ok (.iload 7, 2) := by decide +kernel
theorem dX11_work_174 : decode cX11_work 174 = .ok (.aload_n 0, 1) := by decide +kernel
theorem dX11_work_175 : decode cX11_work 175 = .ok (.getfield 32, 3) := by decide +kernel
theorem dX11_work_178 : decode cX11_work 178 = .ok (.iload 4, 2) := by decide +kernel
theorem dX11_work_180 : decode cX11_work 180 = .ok (.iconst 1, 1) := by decide +kernel
theorem dX11_work_181 : decode cX11_work 181 = .ok (.isub, 1) := by decide +kernel
theorem dX11_work_182 : decode cX11_work 182 = .ok (.laload, 1) := by decide +kernel
theorem dX11_work_183 : decode cX11_work 183 = .ok (.aload_n 0, 1) := by decide +kernel
theorem dX11_work_184 : decode cX11_work 184 = .ok (.getfield 32, 3) := by decide +kernel
theorem dX11_work_187 : decode cX11_work 187 = .ok (.iload 4, 2) := by decide +kernel
theorem dX11_work_189 : decode cX11_work 189 = .ok (.laload, 1) := by decide +kernel
theorem dX11_work_190 : decode cX11_work 190 = .ok (.invokestatic 274, 3) := by decide +kernel
theorem dX11_work_193 : decode cX11_work 193 = .ok (.lastore, 1) := by decide +kernel
theorem dX11_work_194 : decode cX11_work 194 = .ok (.goto 159, 3) := by decide +kernel
theorem dX11_work_197 : decode cX11_work 197 = .ok (.iload 7, 2) := by decide +kernel
theorem dX11_work_199 : decode cX11_work 199 = .ok (.bipush 20, 2) := by decide +kernel
theorem dX11_work_201 : decode cX11_work 201 = .ok (.if_icmp .ge 40, 3) := by decide +kernel
theorem dX11_work_204 : decode cX11_work 204 = .ok (.iinc 4 (-2), 3) := by decide +kernel
theorem dX11_work_207 : decode cX11_work 207 = .ok (.aload_n 0, 1) := by decide +kernel
theorem dX11_work_208 : decode cX11_work 208 = .ok (.getfield 36, 3) := by decide +kernel
theorem dX11_work_211 : decode cX11_work 211 = .ok (.iload 5, 2) := by decide +kernel
theorem dX11_work_213 : decode cX11_work 213 = .ok (.iload 7, 2) := by decide +kernel
theorem dX11_work_215 : decode cX11_work 215 = .ok (.aload_n 0, 1) := by decide +kernel
theorem dX11_work_216 : decode cX11_work 216 = .ok (.getfield 32, 3) := by decide +kernel
theorem dX11_work_219 : decode cX11_work 219 = .ok (.iload 4, 2) := by decide +kernel
theorem dX11_work_221 : decode cX11_work 221 = .ok (.laload, 1) := by decide +kernel
theorem dX11_work_222 : decode cX11_work 222 = .ok (.aload_n 0, 1) := by decide +kernel
theorem dX11_work_223 : decode cX11_work 223 = .ok (.getfield 32, 3) := by decide +kernel
theorem dX11_work_226 : decode cX11_work 226 = .ok (.iload 4, 2) := by decide +kernel
theorem dX11_work_228 : decode cX11_work 228 = .ok (.iconst 1, 1) := by decide +kernel
theorem dX11_work_229 : decode cX11_work 229 = .ok (.iadd, 1) := by decide +kernel
theorem dX11_work_230 : decode cX11_work 230 = .ok (.laload, 1) := by decide +kernel
theorem dX11_work_231 : decode cX11_work 231 = .ok (.invokestatic 278, 3) := by decide +kernel
theorem dX11_work_234 : decode cX11_work 234 = .ok (.bastore, 1) := by decide +kernel
theorem dX11_work_235 : decode cX11_work 235 = .ok (.iinc 5 1, 3) := by decide +kernel
theorem dX11_work_238 : decode cX11_work 238 = .ok (.goto 115, 3) := by decide +kernel
theorem dX11_work_241 : decode cX11_work 241 = .ok (.iload 7, 2) := by decide +kernel
theorem dX11_work_243 : decode cX11_work 243 = .ok (.bipush 20, 2) := by decide +kernel
theorem dX11_work_245 : decode cX11_work 245 = .ok (.if_icmp .ne 32, 3) := by decide +kernel
theorem dX11_work_248 : decode cX11_work 248 = .ok (.aload_n 0, 1) := by decide +kernel
theorem dX11_work_249 : decode cX11_work 249 = .ok (.getfield 36, 3) := by decide +kernel
theorem dX11_work_252 : decode cX11_work 252 = .ok (.iload 5, 2) := by decide +kernel
theorem dX11_work_254 : decode cX11_work 254 = .ok (.iconst 1, 1) := by decide +kernel
theorem dX11_work_255 : decode cX11_work 255 = .ok (.isub, 1) := by decide +kernel
theorem dX11_work_256 : decode cX11_work 256 = .ok (.aload_n 0, 1) := by decide +kernel
theorem dX11_work_257 : decode cX11_work 257 = .ok (.getfield 36, 3) := by decide +kernel
theorem dX11_work_260 : decode cX11_work 260 = .ok (.iload 5, 2) := by decide +kernel
theorem dX11_work_262 : decode cX11_work 262 = .ok (.iconst 1, 1) := by decide +kernel
theorem dX11_work_263 : decode cX11_work 263 = .ok (.isub, 1) := by decide +kernel
theorem dX11_work_264 : decode cX11_work 264 = .ok (.baload, 1) := by decide +kernel
theorem dX11_work_265 : decode cX11_work 265 = .ok (.ifCond .ne 7, 3) := by decide +kernel
theorem dX11_work_268 : decode cX11_work 268 = .ok (.iconst 1, 1) := by decide +kernel
theorem dX11_work_269 : decode cX11_work 269 = .ok (.goto 4, 3) := by decide +kernel
theorem dX11_work_272 : decode cX11_work 272 = .ok (.iconst 0, 1) := by decide +kernel
theorem dX11_work_273 : decode cX11_work 273 = .ok (.bastore, 1) := by decide +kernel
theorem dX11_work_274 : decode cX11_work 274 = .ok (.goto 79, 3) := by decide +kernel
theorem dX11_work_277 : decode cX11_work 277 = .ok (.iinc 5 (-1), 3) := by decide +kernel
theorem dX11_work_280 : decode cX11_work 280 = .ok (.aload_n 0, 1) := by decide +kernel
theorem dX11_work_281 : decode cX11_work 281 = .ok (.getfield 36, 3) := by decide +kernel
theorem dX11_work_284 : decode cX11_work 284 = .ok (.iload 5, 2) := by decide +kernel
theorem dX11_work_286 : decode cX11_work 286 = .ok (.iconst 1, 1) := by decide +kernel
theorem dX11_work_287 : decode cX11_work 287 = .ok (.isub, 1) := by decide +kernel
theorem dX11_work_288 : decode cX11_work 288 = .ok (.iload 7, 2) := by decide +kernel
theorem dX11_work_290 : decode cX11_work 290 = .ok (.bipush 21, 2) := by decide +kernel
theorem dX11_work_292 : decode cX11_work 292 = .ok (.if_icmp .ne 33, 3) := by decide +kernel
theorem dX11_work_295 : decode cX11_work 295 = .ok (.aload_n 0, 1) := by decide +kernel
