theorem dX11_work_296 : decode cX11_work 296 = .ok (.getfield 36, 3) := by decide +kernel
theorem dX11_work_299 : decode cX11_work 299 = .ok (.iload 5, 2) := by decide +kernel
theorem dX11_work_301 : decode cX11_work 301 = .ok (.iconst 1, 1) := by decide +kernel
theorem dX11_work_302 : decode cX11_work 302 = .ok (.isub, 1) := by decide +kernel
theorem dX11_work_303 : decode cX11_work 303 = .ok (.baload, 1) := by decide +kernel
theorem dX11_work_304 : decode cX11_work 304 = .ok (.ifCond .eq 17, 3) := by decide +kernel
theorem dX11_work_307 : decode cX11_work 307 = .ok (.aload_n 0, 1) := by decide +kernel
theorem dX11_work_308 : decode cX11_work 308 = .ok (.getfield 36, 3) := by decide +kernel
theorem dX11_work_311 : decode cX11_work 311 = .ok (.iload 5, 2) := by decide +kernel
theorem dX11_work_313 : decode cX11_work 313 = .ok (.baload, 1) := by decide +kernel
theorem dX11_work_314 : decode cX11_work 314 = .ok (.ifCond .eq 7, 3) := by decide +kernel
theorem dX11_work_317 : decode cX11_work 317 = .ok (.iconst 1, 1) := by decide +kernel
theorem dX11_work_318 : decode cX11_work 318 = .ok (.goto 34, 3) := by decide +kernel
theorem dX11_work_321 : decode cX11_work 321 = .ok (.iconst 0, 1) := by decide +kernel
theorem dX11_work_322 : decode cX11_work 322 = .ok (.goto 30, 3) := by decide +kernel
theorem dX11_work_325 : decode cX11_work 325 = .ok (.aload_n 0, 1) := by decide +kernel
theorem dX11_work_326 : decode cX11_work 326 = .ok (.getfield 36, 3) := by decide +kernel
theorem dX11_work_329 : decode cX11_work 329 = .ok (.iload 5, 2) := by decide +kernel
theorem dX11_work_331 : decode cX11_work 331 = .ok (.iconst 1, 1) := by decide +kernel
theorem dX11_work_332 : decode cX11_work 332 = .ok (.isub, 1) := by decide +kernel
theorem dX11_work_333 : decode cX11_work 333 = .ok (.baload, 1) := by decide +kernel
theorem dX11_work_334 : decode cX11_work 334 = .ok (.ifCond .ne 13, 3) := by decide +kernel
theorem dX11_work_337 : decode cX11_work 337 = .ok (.aload_n 0, 1) := by decide +kernel
theorem dX11_work_338 : decode cX11_work 338 = .ok (.getfield 36, 3) := by decide +kernel
theorem dX11_work_341 : decode cX11_work 341 = .ok (.iload 5, 2) := by decide +kernel
theorem dX11_work_343 : decode cX11_work 343 = .ok (.baload, 1) := by decide +kernel
theorem dX11_work_344 : decode cX11_work 344 = .ok (.ifCond .eq 7, 3) := by decide +kernel
theorem dX11_work_347 : decode cX11_work 347 = .ok (.iconst 1, 1) := by decide +kernel
theorem dX11_work_348 : decode cX11_work 348 = .ok (.goto 4, 3) := by decide +kernel
theorem dX11_work_351 : decode cX11_work 351 = .ok (.iconst 0, 1) := by decide +kernel
theorem dX11_work_352 : decode cX11_work 352 = .ok (.bastore, 1) := by decide +kernel
theorem dX11_work_353 : decode cX11_work 353 = .ok (.iinc 6 1, 3) := by decide +kernel
theorem dX11_work_356 : decode cX11_work 356 = .ok (.goto (-309), 3) := by decide +kernel
theorem dX11_work_359 : decode cX11_work 359 = .ok (.return_, 1) := by decide +kernel
theorem dX11_clauses_0 : decode cX11_clauses 0 = .ok (.aload_n 0, 1) := by decide +kernel
theorem dX11_clauses_1 : decode cX11_clauses 1 = .ok (.getfield 7, 3) := by decide +kernel
theorem dX11_clauses_4 : decode cX11_clauses 4 = .ok (.iconst 4, 1) := by decide +kernel
theorem dX11_clauses_5 : decode cX11_clauses 5 = .ok (.iaload, 1) := by decide +kernel
theorem dX11_clauses_6 : decode cX11_clauses 6 = .ok (.ifCond .ge 7, 3) := by decide +kernel
theorem dX11_clauses_9 : decode cX11_clauses 9 = .ok (.iconst 0, 1) := by decide +kernel
theorem dX11_clauses_10 : decode cX11_clauses 10 = .ok (.goto 18, 3) := by decide +kernel
theorem dX11_clauses_13 : decode cX11_clauses 13 = .ok (.aload_n 0, 1) := by decide +kernel
theorem dX11_clauses_14 : decode cX11_clauses 14 = .ok (.getfield 13, 3) := by decide +kernel
theorem dX11_clauses_17 : decode cX11_clauses 17 = .ok (.sipush 700, 3) := by decide +kernel
theorem dX11_clauses_20 : decode cX11_clauses 20 = .ok (.aload_n 0, 1) := by decide +kernel
theorem dX11_clauses_21 : decode cX11_clauses 21 = .ok (.getfield 7, 3) := by decide +kernel
theorem dX11_clauses_24 : decode cX11_clauses 24 = .ok (.iconst 4, 1) := by decide +kernel
theorem dX11_clauses_25 : decode cX11_clauses 25 = .ok (.iaload, 1) := by decide +kernel
theorem dX11_clauses_26 : decode cX11_clauses 26 = .ok (.imul, 1) := by decide +kernel
theorem dX11_clauses_27 : decode cX11_clauses 27 = .ok (.iaload, 1) := by decide +kernel
theorem dX11_clauses_28 : decode cX11_clauses 28 = .ok (.ireturn, 1) := by decide +kernel
theorem dX11_sortAt_0 : decode cX11_sortAt 0 = .ok (.aload_n 0, 1) := by decide +kernel
theorem dX11_sortAt_1 : decode cX11_sortAt 1 = .ok (.getfield 13, 3) := by decide +kernel
theorem dX11_sortAt_4 : decode cX11_sortAt 4 = .ok (.sipush 700, 3) := by decide +kernel
theorem dX11_sortAt_7 : decode cX11_sortAt 7 = .ok (.aload_n 0, 1) := by decide +kernel
theorem dX11_sortAt_8 : decode cX11_sortAt 8 = .ok (.getfield 7, 3) := by decide +kernel
theorem dX11_sortAt_11 : decode cX11_sortAt 11 = .ok (.iconst 4, 1) := by decide +kernel
theorem dX11_sortAt_12 : decode cX11_sortAt 12 = .ok (.iaload, 1) := by decide +kernel
theorem dX11_sortAt_13 : decode cX11_sortAt 13 = .ok (.imul, 1) := by decide +kernel
theorem dX11_sortAt_14 : decode cX11_sortAt 14 = .ok (.iconst 1, 1) := by decide +kernel
theorem dX11_sortAt_15 : decode cX11_sortAt 15 = .ok (.iadd, 1) := by decide +kernel
theorem dX11_sortAt_16 : decode cX11_sortAt 16 = .ok (.iconst 4, 1) := by decide +kernel
theorem dX11_sortAt_17 : decode cX11_sortAt 17 = .ok (.iload_n 1, 1) := by decide +kernel
theorem dX11_sortAt_18 : decode cX11_sortAt 18 = .ok (.imul, 1) := by decide +kernel
theorem dX11_sortAt_19 : decode cX11_sortAt 19 = .ok (.iadd, 1) := by decide +kernel
theorem dX11_sortAt_20 : decode cX11_sortAt 20 = .ok (.iaload, 1) := by decide +kernel
theorem dX11_sortAt_21 : decode cX11_sortAt 21 = .ok (.ireturn, 1) := by decide +kernel
theorem dX11_clauseOf_0 : decode cX11_clauseOf 0 = .ok (.iconst 0, 1) := by decide +kernel
theorem dX11_clauseOf_1 : decode cX11_clauseOf 1 = .ok (.istore_n 2, 1) := by decide +kernel
theorem dX11_clauseOf_2 : decode cX11_clauseOf 2 = .ok (.iload_n 2, 1) := by decide +kernel
theorem dX11_clauseOf_3 : decode cX11_clauseOf 3 = .ok (.aload_n 0, 1) := by decide +kernel
theorem dX11_clauseOf_4 : decode cX11_clauseOf 4 = .ok (.invokevirtual 282, 3) := by decide +kernel
theorem dX11_clauseOf_7 : decode cX11_clauseOf 7 = .ok (.if_icmp .ge 20, 3) := by decide +kernel
theorem dX11_clauseOf_10 : decode cX11_clauseOf 10 = .ok (.aload_n 0, 1) := by decide +kernel
theorem dX11_clauseOf_11 : decode cX11_clauseOf 11 = .ok (.iload_n 2, 1) := by decide +kernel
theorem dX11_clauseOf_12 : decode cX11_clauseOf 12 = .ok (.invokevirtual 285, 3) := by decide +kernel
theorem dX11_clauseOf_15 : decode cX11_clauseOf 15 = .ok (.iload_n 1, 1) := by decide +kernel
theorem dX11_clauseOf_16 : decode cX11_clauseOf 16 = .ok (.if_icmp .ne 5, 3) := by decide +kernel
theorem dX11_clauseOf_19 : decode cX11_clauseOf 19 = .ok (.iload_n 2, 1) := by decide +kernel
theorem dX11_clauseOf_20 : decode cX11_clauseOf 20 = .ok (.ireturn, 1) := by decide +kernel
theorem dX11_clauseOf_21 : decode cX11_clauseOf 21 = .ok (.iinc 2 1, 3) := by decide +kernel
theorem dX11_clauseOf_24 : decode cX11_clauseOf 24 = .ok (.goto (-22), 3) := by decide +kernel
theorem dX11_clauseOf_27 : decode cX11_clauseOf 27 = .ok (.iconst (-1), 1) := by decide +kernel
theorem dX11_clauseOf_28 : decode cX11_clauseOf 28 = .ok (.ireturn, 1) := by decide +kernel
theorem dX11_stepTo_0 : decode cX11_stepTo 0 = .ok (.iload_n 1, 1) := by decide +kernel
theorem dX11_stepTo_1 : decode cX11_stepTo 1 = .ok (.aload_n 0, 1) := by decide +kernel
theorem dX11_stepTo_2 : decode cX11_stepTo 2 = .ok (.getfield 58, 3) := by decide +kernel
theorem dX11_stepTo_5 : decode cX11_stepTo 5 = .ok (.irem, 1) := by decide +kernel
theorem dX11_stepTo_6 : decode cX11_stepTo 6 = .ok (.iload_n 2, 1) := by decide +kernel
theorem dX11_stepTo_7 : decode cX11_stepTo 7 = .ok (.iadd, 1) := by decide +kernel
theorem dX11_stepTo_8 : decode cX11_stepTo 8 = .ok (.istore 4, 2) := by decide +kernel
theorem dX11_stepTo_10 : decode cX11_stepTo 10 = .ok (.iload_n 1, 1) := by decide +kernel
theorem dX11_stepTo_11 : decode cX11_stepTo 11 = .ok (.aload_n 0, 1) := by decide +kernel
theorem dX11_stepTo_12 : decode cX11_stepTo 12 = .ok (.getfield 58, 3) := by decide +kernel
theorem dX11_stepTo_15 : decode cX11_stepTo 15 = .ok (.idiv, 1) := by decide +kernel
theorem dX11_stepTo_16 : decode cX11_stepTo 16 = .ok (.iload_n 3, 1) := by decide +kernel
theorem dX11_stepTo_17 : decode cX11_stepTo 17 = .ok (.iadd, 1) := by decide +kernel
theorem dX11_stepTo_18 : decode cX11_stepTo 18 = .ok (.istore 5, 2) := by decide +kernel
theorem dX11_stepTo_20 : decode cX11_stepTo 20 = .ok (.iload 4, 2) := by decide +kernel
theorem dX11_stepTo_22 : decode cX11_stepTo 22 = .ok (.iconst 0, 1) := by decide +kernel
theorem dX11_stepTo_23 : decode cX11_stepTo 23 = .ok (.aload_n 0, 1) := by decide +kernel
theorem dX11_stepTo_24 : decode cX11_stepTo 24 = .ok (.getfield 58, 3) := by decide +kernel
theorem dX11_stepTo_27 : decode cX11_stepTo 27 = .ok (.iconst 1, 1) := by decide +kernel
theorem dX11_stepTo_28 : decode cX11_stepTo 28 = .ok (.isub, 1) := by decide +kernel
theorem dX11_stepTo_29 : decode cX11_stepTo 29 = .ok (.invokestatic 71, 3) := by decide +kernel
theorem dX11_stepTo_32 : decode cX11_stepTo 32 = .ok (.ifCond .eq 31, 3) := by decide +kernel
theorem dX11_stepTo_35 : decode cX11_stepTo 35 = .ok (.iload 5, 2) := by decide +kernel
theorem dX11_stepTo_37 : decode cX11_stepTo 37 = .ok (.iconst 0, 1) := by decide +kernel
theorem dX11_stepTo_38 : decode cX11_stepTo 38 = .ok (.aload_n 0, 1) := by decide +kernel
theorem dX11_stepTo_39 : decode cX11_stepTo 39 = .ok (.getfield 61, 3) := by decide +kernel
theorem dX11_stepTo_42 : decode cX11_stepTo 42 = .ok (.iconst 1, 1) := by decide +kernel
theorem dX11_stepTo_43 : decode cX11_stepTo 43 = .ok (.isub, 1) := by decide +kernel
theorem dX11_stepTo_44 : decode cX11_stepTo 44 = .ok (.invokestatic 71, 3) := by decide +kernel
theorem dX11_stepTo_47 : decode cX11_stepTo 47 = .ok (.ifCond .eq 16, 3) := by decide +kernel
theorem dX11_stepTo_50 : decode cX11_stepTo 50 = .ok (.iload 4, 2) := by decide +kernel
theorem dX11_stepTo_52 : decode cX11_stepTo 52 = .ok (.aload_n 0, 1) := by decide +kernel
theorem dX11_stepTo_53 : decode cX11_stepTo 53 = .ok (.getfield 58, 3) := by decide +kernel
theorem dX11_stepTo_56 : decode cX11_stepTo 56 = .ok (.iload 5, 2) := by decide +kernel
theorem dX11_stepTo_58 : decode cX11_stepTo 58 = .ok (.imul, 1) := by decide +kernel
theorem dX11_stepTo_59 : decode cX11_stepTo 59 = .ok (.iadd, 1) := by decide +kernel
theorem dX11_stepTo_60 : decode cX11_stepTo 60 = .ok (.goto 4, 3) := by decide +kernel
theorem dX11_stepTo_63 : decode cX11_stepTo 63 = .ok (.iconst (-1), 1) := by decide +kernel
theorem dX11_stepTo_64 : decode cX11_stepTo 64 = .ok (.ireturn, 1) := by decide +kernel
theorem dX11_sideOf_0 : decode cX11_sideOf 0 = .ok (.aload_n 0, 1) := by decide +kernel
theorem dX11_sideOf_1 : decode cX11_sideOf 1 = .ok (.iload_n 1, 1) := by decide +kernel
theorem dX11_sideOf_2 : decode cX11_sideOf 2 = .ok (.iload_n 2, 1) := by decide +kernel
theorem dX11_sideOf_3 : decode cX11_sideOf 3 = .ok (.iconst 1, 1) := by decide +kernel
theorem dX11_sideOf_4 : decode cX11_sideOf 4 = .ok (.if_icmp .ne 7, 3) := by decide +kernel
theorem dX11_sideOf_7 : decode cX11_sideOf 7 = .ok (.iconst 1, 1) := by decide +kernel
theorem dX11_sideOf_8 : decode cX11_sideOf 8 = .ok (.goto 13, 3) := by decide +kernel
theorem dX11_sideOf_11 : decode cX11_sideOf 11 = .ok (.iload_n 2, 1) := by decide +kernel
theorem dX11_sideOf_12 : decode cX11_sideOf 12 = .ok (.iconst 3, 1) := by decide +kernel
theorem dX11_sideOf_13 : decode cX11_sideOf 13 = .ok (.if_icmp .ne 7, 3) := by decide +kernel
theorem dX11_sideOf_16 : decode cX11_sideOf 16 = .ok (.iconst (-1), 1) := by decide +kernel
theorem dX11_sideOf_17 : decode cX11_sideOf 17 = .ok (.goto 4, 3) := by decide +kernel
theorem dX11_sideOf_20 : decode cX11_sideOf 20 = .ok (.iconst 0, 1) := by decide +kernel
theorem dX11_sideOf_21 : decode cX11_sideOf 21 = .ok (.iload_n 2, 1) := by decide +kernel
theorem dX11_sideOf_22 : decode cX11_sideOf 22 = .ok (.iconst 2, 1) := by decide +kernel
theorem dX11_sideOf_23 : decode cX11_sideOf 23 = .ok (.if_icmp .ne 7, 3) := by decide +kernel
theorem dX11_sideOf_26 : decode cX11_sideOf 26 = .ok (.iconst 1, 1) := by decide +kernel
theorem dX11_sideOf_27 : decode cX11_sideOf 27 = .ok (.goto 12, 3) := by decide +kernel
theorem dX11_sideOf_30 : decode cX11_sideOf 30 = .ok (.iload_n 2, 1) := by decide +kernel
theorem dX11_sideOf_31 : decode cX11_sideOf 31 = .ok (.ifCond .ne 7, 3) := by decide +kernel
theorem dX11_sideOf_34 : decode cX11_sideOf 34 = .ok (.iconst (-1), 1) := by decide +kernel
theorem dX11_sideOf_35 : decode cX11_sideOf 35 = .ok (.goto 4, 3) := by decide +kernel
theorem dX11_sideOf_38 : decode cX11_sideOf 38 = .ok (.iconst 0, 1) := by decide +kernel
theorem dX11_sideOf_39 : decode cX11_sideOf 39 = .ok (.invokevirtual 288, 3) := by decide +kernel
theorem dX11_sideOf_42 : decode cX11_sideOf 42 = .ok (.ireturn, 1) := by decide +kernel
theorem dX11_nameBone_0 : decode cX11_nameBone 0 = .ok (.aload_n 0, 1) := by decide +kernel
theorem dX11_nameBone_1 : decode cX11_nameBone 1 = .ok (.iload_n 1, 1) := by decide +kernel
theorem dX11_nameBone_2 : decode cX11_nameBone 2 = .ok (.invokevirtual 291, 3) := by decide +kernel
theorem dX11_nameBone_5 : decode cX11_nameBone 5 = .ok (.istore_n 2, 1) := by decide +kernel
theorem dX11_nameBone_6 : decode cX11_nameBone 6 = .ok (.iconst 0, 1) := by decide +kernel
theorem dX11_nameBone_7 : decode cX11_nameBone 7 = .ok (.istore_n 3, 1) := by decide +kernel
theorem dX11_nameBone_8 : decode cX11_nameBone 8 = .ok (.iconst 0, 1) := by decide +kernel
theorem dX11_nameBone_9 : decode cX11_nameBone 9 = .ok (.istore 4, 2) := by decide +kernel
theorem dX11_nameBone_11 : decode cX11_nameBone 11 = .ok (.iload 4, 2) := by decide +kernel
theorem dX11_nameBone_13 : decode cX11_nameBone 13 = .ok (.iconst 4, 1) := by decide +kernel
theorem dX11_nameBone_14 : decode cX11_nameBone 14 = .ok (.if_icmp .ge 50, 3) := by decide +kernel
theorem dX11_nameBone_17 : decode cX11_nameBone 17 = .ok (.aload_n 0, 1) := by decide +kernel
theorem dX11_nameBone_18 : decode cX11_nameBone 18 = .ok (.iload_n 2, 1) := by decide +kernel
theorem dX11_nameBone_19 : decode cX11_nameBone 19 = .ok (.iload 4, 2) := by decide +kernel
theorem dX11_nameBone_21 : decode cX11_nameBone 21 = .ok (.invokevirtual 294, 3) := by decide +kernel
theorem dX11_nameBone_24 : decode cX11_nameBone 24 = .ok (.istore 5, 2) := by decide +kernel
theorem dX11_nameBone_26 : decode cX11_nameBone 26 = .ok (.iload_n 3, 1) := by decide +kernel
theorem dX11_nameBone_27 : decode cX11_nameBone 27 = .ok (.iload 5, 2) := by decide +kernel
theorem dX11_nameBone_29 : decode cX11_nameBone 29 = .ok (.ifCond .lt 26, 3) := by decide +kernel
theorem dX11_nameBone_32 : decode cX11_nameBone 32 = .ok (.aload_n 0, 1) := by decide +kernel
theorem dX11_nameBone_33 : decode cX11_nameBone 33 = .ok (.getfield 7, 3) := by decide +kernel
theorem dX11_nameBone_36 : decode cX11_nameBone 36 = .ok (.aload_n 0, 1) := by decide +kernel
theorem dX11_nameBone_37 : decode cX11_nameBone 37 = .ok (.getfield 75, 3) := by decide +kernel
theorem dX11_nameBone_40 : decode cX11_nameBone 40 = .ok (.sipush 290, 3) := by decide +kernel
theorem dX11_nameBone_43 : decode cX11_nameBone 43 = .ok (.iadd, 1) := by decide +kernel
theorem dX11_nameBone_44 : decode cX11_nameBone 44 = .ok (.iload 5, 2) := by decide +kernel
theorem dX11_nameBone_46 : decode cX11_nameBone 46 = .ok (.iadd, 1) := by decide +kernel
theorem dX11_nameBone_47 : decode cX11_nameBone 47 = .ok (.iaload, 1) := by decide +kernel
theorem dX11_nameBone_48 : decode cX11_nameBone 48 = .ok (.ifCond .le 7, 3) := by decide +kernel
theorem dX11_nameBone_51 : decode cX11_nameBone 51 = .ok (.iconst 1, 1) := by decide +kernel
theorem dX11_nameBone_52 : decode cX11_nameBone 52 = .ok (.goto 4, 3) := by decide +kernel
theorem dX11_nameBone_55 : decode cX11_nameBone 55 = .ok (.iconst 0, 1) := by decide +kernel
theorem dX11_nameBone_56 : decode cX11_nameBone 56 = .ok (.iadd, 1) := by decide +kernel
theorem dX11_nameBone_57 : decode cX11_nameBone 57 = .ok (.istore_n 3, 1) := by decide +kernel
theorem dX11_nameBone_58 : decode cX11_nameBone 58 = .ok (.iinc 4 1, 3) := by decide +kernel
theorem dX11_nameBone_61 : decode cX11_nameBone 61 = .ok (.goto (-50), 3) := by decide +kernel
theorem dX11_nameBone_64 : decode cX11_nameBone 64 = .ok (.aload_n 0, 1) := by decide +kernel
theorem dX11_nameBone_65 : decode cX11_nameBone 65 = .ok (.getfield 29, 3) := by decide +kernel
theorem dX11_nameBone_68 : decode cX11_nameBone 68 = .ok (.iconst 0, 1) := by decide +kernel
theorem dX11_nameBone_69 : decode cX11_nameBone 69 = .ok (.aload_n 0, 1) := by decide +kernel
theorem dX11_nameBone_70 : decode cX11_nameBone 70 = .ok (.getfield 7, 3) := by decide +kernel
theorem dX11_nameBone_73 : decode cX11_nameBone 73 = .ok (.aload_n 0, 1) := by decide +kernel
theorem dX11_nameBone_74 : decode cX11_nameBone 74 = .ok (.getfield 75, 3) := by decide +kernel
theorem dX11_nameBone_77 : decode cX11_nameBone 77 = .ok (.bipush 10, 2) := by decide +kernel
theorem dX11_nameBone_79 : decode cX11_nameBone 79 = .ok (.iadd, 1) := by decide +kernel
theorem dX11_nameBone_80 : decode cX11_nameBone 80 = .ok (.iconst 3, 1) := by decide +kernel
theorem dX11_nameBone_81 : decode cX11_nameBone 81 = .ok (.iload_n 1, 1) := by decide +kernel
theorem dX11_nameBone_82 : decode cX11_nameBone 82 = .ok (.imul, 1) := by decide +kernel
theorem dX11_nameBone_83 : decode cX11_nameBone 83 = .ok (.iadd, 1) := by decide +kernel
theorem dX11_nameBone_84 : decode cX11_nameBone 84 = .ok (.iconst 1, 1) := by decide +kernel
theorem dX11_nameBone_85 : decode cX11_nameBone 85 = .ok (.iadd, 1) := by decide +kernel
theorem dX11_nameBone_86 : decode cX11_nameBone 86 = .ok (.iaload, 1) := by decide +kernel
theorem dX11_nameBone_87 : decode cX11_nameBone 87 = .ok (.iastore, 1) := by decide +kernel
theorem dX11_nameBone_88 : decode cX11_nameBone 88 = .ok (.aload_n 0, 1) := by decide +kernel
theorem dX11_nameBone_89 : decode cX11_nameBone 89 = .ok (.getfield 29, 3) := by decide +kernel
theorem dX11_nameBone_92 : decode cX11_nameBone 92 = .ok (.iconst 1, 1) := by decide +kernel
theorem dX11_nameBone_93 : decode cX11_nameBone 93 = .ok (.aload_n 0, 1) := by decide +kernel
theorem dX11_nameBone_94 : decode cX11_nameBone 94 = .ok (.getfield 7, 3) := by decide +kernel
theorem dX11_nameBone_97 : decode cX11_nameBone 97 = .ok (.aload_n 0, 1) := by decide +kernel
theorem dX11_nameBone_98 : decode cX11_nameBone 98 = .ok (.getfield 75, 3) := by decide +kernel
theorem dX11_nameBone_101 : decode cX11_nameBone 101 = .ok (.bipush 10, 2) := by decide +kernel
theorem dX11_nameBone_103 : decode cX11_nameBone 103 = .ok (.iadd, 1) := by decide +kernel
theorem dX11_nameBone_104 : decode cX11_nameBone 104 = .ok (.iconst 3, 1) := by decide +kernel
theorem dX11_nameBone_105 : decode cX11_nameBone 105 = .ok (.iload_n 1, 1) := by decide +kernel
theorem dX11_nameBone_106 : decode cX11_nameBone 106 = .ok (.imul, 1) := by decide +kernel
theorem dX11_nameBone_107 : decode cX11_nameBone 107 = .ok (.iadd, 1) := by decide +kernel
theorem dX11_nameBone_108 : decode cX11_nameBone 108 = .ok (.iconst 2, 1) := by decide +kernel
theorem dX11_nameBone_109 : decode cX11_nameBone 109 = .ok (.iadd, 1) := by decide +kernel
theorem dX11_nameBone_110 : decode cX11_nameBone 110 = .ok (.iaload, 1) := by decide +kernel
theorem dX11_nameBone_111 : decode cX11_nameBone 111 = .ok (.iastore, 1) := by decide +kernel
theorem dX11_nameBone_112 : decode cX11_nameBone 112 = .ok (.aload_n 0, 1) := by decide +kernel
theorem dX11_nameBone_113 : decode cX11_nameBone 113 = .ok (.getfield 29, 3) := by decide +kernel
theorem dX11_nameBone_116 : decode cX11_nameBone 116 = .ok (.iconst 2, 1) := by decide +kernel
theorem dX11_nameBone_117 : decode cX11_nameBone 117 = .ok (.iload_n 3, 1) := by decide +kernel
theorem dX11_nameBone_118 : decode cX11_nameBone 118 = .ok (.iastore, 1) := by decide +kernel
theorem dX11_nameBone_119 : decode cX11_nameBone 119 = .ok (.aload_n 0, 1) := by decide +kernel
theorem dX11_nameBone_120 : decode cX11_nameBone 120 = .ok (.getfield 29, 3) := by decide +kernel
theorem dX11_nameBone_123 : decode cX11_nameBone 123 = .ok (.iconst 3, 1) := by decide +kernel
theorem dX11_nameBone_124 : decode cX11_nameBone 124 = .ok (.iload_n 2, 1) := by decide +kernel
theorem dX11_nameBone_125 : decode cX11_nameBone 125 = .ok (.aload_n 0, 1) := by decide +kernel
theorem dX11_nameBone_126 : decode cX11_nameBone 126 = .ok (.getfield 58, 3) := by decide +kernel
theorem dX11_nameBone_129 : decode cX11_nameBone 129 = .ok (.irem, 1) := by decide +kernel
theorem dX11_nameBone_130 : decode cX11_nameBone 130 = .ok (.iastore, 1) := by decide +kernel
theorem dX11_nameBone_131 : decode cX11_nameBone 131 = .ok (.aload_n 0, 1) := by decide +kernel
theorem dX11_nameBone_132 : decode cX11_nameBone 132 = .ok (.getfield 29, 3) := by decide +kernel
theorem dX11_nameBone_135 : decode cX11_nameBone 135 = .ok (.iconst 4, 1) := by decide +kernel
theorem dX11_nameBone_136 : decode cX11_nameBone 136 = .ok (.iload_n 2, 1) := by decide +kernel
theorem dX11_nameBone_137 : decode cX11_nameBone 137 = .ok (.aload_n 0, 1) := by decide +kernel
theorem dX11_nameBone_138 : decode cX11_nameBone 138 = .ok (.getfield 58, 3) := by decide +kernel
theorem dX11_nameBone_141 : decode cX11_nameBone 141 = .ok (.idiv, 1) := by decide +kernel
theorem dX11_nameBone_142 : decode cX11_nameBone 142 = .ok (.iastore, 1) := by decide +kernel
theorem dX11_nameBone_143 : decode cX11_nameBone 143 = .ok (.aload_n 0, 1) := by decide +kernel
theorem dX11_nameBone_144 : decode cX11_nameBone 144 = .ok (.getfield 29, 3) := by decide +kernel
theorem dX11_nameBone_147 : decode cX11_nameBone 147 = .ok (.iconst 5, 1) := by decide +kernel
theorem dX11_nameBone_148 : decode cX11_nameBone 148 = .ok (.aload_n 0, 1) := by decide +kernel
theorem dX11_nameBone_149 : decode cX11_nameBone 149 = .ok (.getfield 7, 3) := by decide +kernel
theorem dX11_nameBone_152 : decode cX11_nameBone 152 = .ok (.aload_n 0, 1) := by decide +kernel
theorem dX11_nameBone_153 : decode cX11_nameBone 153 = .ok (.getfield 75, 3) := by decide +kernel
theorem dX11_nameBone_156 : decode cX11_nameBone 156 = .ok (.iconst 0, 1) := by decide +kernel
theorem dX11_nameBone_157 : decode cX11_nameBone 157 = .ok (.iadd, 1) := by decide +kernel
theorem dX11_nameBone_158 : decode cX11_nameBone 158 = .ok (.iaload, 1) := by decide +kernel
theorem dX11_nameBone_159 : decode cX11_nameBone 159 = .ok (.bipush 24, 2) := by decide +kernel
theorem dX11_nameBone_161 : decode cX11_nameBone 161 = .ok (.irem, 1) := by decide +kernel
theorem dX11_nameBone_162 : decode cX11_nameBone 162 = .ok (.iastore, 1) := by decide +kernel
theorem dX11_nameBone_163 : decode cX11_nameBone 163 = .ok (.return_, 1) := by decide +kernel
theorem dX11_holdOf_0 : decode cX11_holdOf 0 = .ok (.aload_n 0, 1) := by decide +kernel
theorem dX11_holdOf_1 : decode cX11_holdOf 1 = .ok (.iload_n 1, 1) := by decide +kernel
theorem dX11_holdOf_2 : decode cX11_holdOf 2 = .ok (.invokevirtual 297, 3) := by decide +kernel
theorem dX11_holdOf_5 : decode cX11_holdOf 5 = .ok (.aload_n 0, 1) := by decide +kernel
theorem dX11_holdOf_6 : decode cX11_holdOf 6 = .ok (.iconst 0, 1) := by decide +kernel
theorem dX11_holdOf_7 : decode cX11_holdOf 7 = .ok (.invokevirtual 300, 3) := by decide +kernel
theorem dX11_holdOf_10 : decode cX11_holdOf 10 = .ok (.istore_n 2, 1) := by decide +kernel
theorem dX11_holdOf_11 : decode cX11_holdOf 11 = .ok (.iload_n 2, 1) := by decide +kernel
theorem dX11_holdOf_12 : decode cX11_holdOf 12 = .ok (.ifCond .ge 10, 3) := by decide +kernel
theorem dX11_holdOf_15 : decode cX11_holdOf 15 = .ok (.aload_n 0, 1) := by decide +kernel
theorem dX11_holdOf_16 : decode cX11_holdOf 16 = .ok (.getfield 29, 3) := by decide +kernel
theorem dX11_holdOf_19 : decode cX11_holdOf 19 = .ok (.iconst 0, 1) := by decide +kernel
theorem dX11_holdOf_20 : decode cX11_holdOf 20 = .ok (.iaload, 1) := by decide +kernel
theorem dX11_holdOf_21 : decode cX11_holdOf 21 = .ok (.ireturn, 1) := by decide +kernel
theorem dX11_holdOf_22 : decode cX11_holdOf 22 = .ok (.aload_n 0, 1) := by decide +kernel
theorem dX11_holdOf_23 : decode cX11_holdOf 23 = .ok (.iload_n 2, 1) := by decide +kernel
theorem dX11_holdOf_24 : decode cX11_holdOf 24 = .ok (.invokevirtual 303, 3) := by decide +kernel
theorem dX11_holdOf_27 : decode cX11_holdOf 27 = .ok (.aload_n 0, 1) := by decide +kernel
theorem dX11_holdOf_28 : decode cX11_holdOf 28 = .ok (.getfield 32, 3) := by decide +kernel
theorem dX11_holdOf_31 : decode cX11_holdOf 31 = .ok (.iconst 0, 1) := by decide +kernel
theorem dX11_holdOf_32 : decode cX11_holdOf 32 = .ok (.laload, 1) := by decide +kernel
theorem dX11_holdOf_33 : decode cX11_holdOf 33 = .ok (.l2i, 1) := by decide +kernel
theorem dX11_holdOf_34 : decode cX11_holdOf 34 = .ok (.ireturn, 1) := by decide +kernel
theorem dX11_lay_0 : decode cX11_lay 0 = .ok (.aload_n 0, 1) := by decide +kernel
theorem dX11_lay_1 : decode cX11_lay 1 = .ok (.getfield 7, 3) := by decide +kernel
theorem dX11_lay_4 : decode cX11_lay 4 = .ok (.aload_n 0, 1) := by decide +kernel
theorem dX11_lay_5 : decode cX11_lay 5 = .ok (.getfield 75, 3) := by decide +kernel
theorem dX11_lay_8 : decode cX11_lay 8 = .ok (.sipush 290, 3) := by decide +kernel
theorem dX11_lay_11 : decode cX11_lay 11 = .ok (.iadd, 1) := by decide +kernel
theorem dX11_lay_12 : decode cX11_lay 12 = .ok (.aload_n 0, 1) := by decide +kernel
theorem dX11_lay_13 : decode cX11_lay 13 = .ok (.iload_n 1, 1) := by decide +kernel
theorem dX11_lay_14 : decode cX11_lay 14 = .ok (.invokevirtual 291, 3) := by decide +kernel
theorem dX11_lay_17 : decode cX11_lay 17 = .ok (.iadd, 1) := by decide +kernel
theorem dX11_lay_18 : decode cX11_lay 18 = .ok (.iconst 0, 1) := by decide +kernel
theorem dX11_lay_19 : decode cX11_lay 19 = .ok (.iastore, 1) := by decide +kernel
theorem dX11_lay_20 : decode cX11_lay 20 = .ok (.aload_n 0, 1) := by decide +kernel
theorem dX11_lay_21 : decode cX11_lay 21 = .ok (.getfield 7, 3) := by decide +kernel
theorem dX11_lay_24 : decode cX11_lay 24 = .ok (.aload_n 0, 1) := by decide +kernel
theorem dX11_lay_25 : decode cX11_lay 25 = .ok (.getfield 75, 3) := by decide +kernel
theorem dX11_lay_28 : decode cX11_lay 28 = .ok (.bipush 10, 2) := by decide +kernel
theorem dX11_lay_30 : decode cX11_lay 30 = .ok (.iadd, 1) := by decide +kernel
theorem dX11_lay_31 : decode cX11_lay 31 = .ok (.iconst 3, 1) := by decide +kernel
theorem dX11_lay_32 : decode cX11_lay 32 = .ok (.iload_n 1, 1) := by decide +kernel
theorem dX11_lay_33 : decode cX11_lay 33 = .ok (.imul, 1) := by decide +kernel
theorem dX11_lay_34 : decode cX11_lay 34 = .ok (.iadd, 1) := by decide +kernel
theorem dX11_lay_35 : decode cX11_lay 35 = .ok (.iload_n 2, 1) := by decide +kernel
theorem dX11_lay_36 : decode cX11_lay 36 = .ok (.iastore, 1) := by decide +kernel
theorem dX11_lay_37 : decode cX11_lay 37 = .ok (.aload_n 0, 1) := by decide +kernel
theorem dX11_lay_38 : decode cX11_lay 38 = .ok (.getfield 7, 3) := by decide +kernel
theorem dX11_lay_41 : decode cX11_lay 41 = .ok (.aload_n 0, 1) := by decide +kernel
theorem dX11_lay_42 : decode cX11_lay 42 = .ok (.getfield 75, 3) := by decide +kernel
theorem dX11_lay_45 : decode cX11_lay 45 = .ok (.sipush 290, 3) := by decide +kernel
theorem dX11_lay_48 : decode cX11_lay 48 = .ok (.iadd, 1) := by decide +kernel
theorem dX11_lay_49 : decode cX11_lay 49 = .ok (.iload_n 2, 1) := by decide +kernel
theorem dX11_lay_50 : decode cX11_lay 50 = .ok (.iadd, 1) := by decide +kernel
theorem dX11_lay_51 : decode cX11_lay 51 = .ok (.iload_n 1, 1) := by decide +kernel
theorem dX11_lay_52 : decode cX11_lay 52 = .ok (.iconst 1, 1) := by decide +kernel
theorem dX11_lay_53 : decode cX11_lay 53 = .ok (.iadd, 1) := by decide +kernel
theorem dX11_lay_54 : decode cX11_lay 54 = .ok (.iastore, 1) := by decide +kernel
theorem dX11_lay_55 : decode cX11_lay 55 = .ok (.aload_n 0, 1) := by decide +kernel
theorem dX11_lay_56 : decode cX11_lay 56 = .ok (.getfield 7, 3) := by decide +kernel
theorem dX11_lay_59 : decode cX11_lay 59 = .ok (.aload_n 0, 1) := by decide +kernel
theorem dX11_lay_60 : decode cX11_lay 60 = .ok (.getfield 75, 3) := by decide +kernel
theorem dX11_lay_63 : decode cX11_lay 63 = .ok (.sipush 240, 3) := by decide +kernel
theorem dX11_lay_66 : decode cX11_lay 66 = .ok (.iadd, 1) := by decide +kernel
theorem dX11_lay_67 : decode cX11_lay 67 = .ok (.iload_n 2, 1) := by decide +kernel
theorem dX11_lay_68 : decode cX11_lay 68 = .ok (.iadd, 1) := by decide +kernel
theorem dX11_lay_69 : decode cX11_lay 69 = .ok (.iconst (-1), 1) := by decide +kernel
theorem dX11_lay_70 : decode cX11_lay 70 = .ok (.iastore, 1) := by decide +kernel
theorem dX11_lay_71 : decode cX11_lay 71 = .ok (.return_, 1) := by decide +kernel
theorem dX11_goes_0 : decode cX11_goes 0 = .ok (.bipush 100, 2) := by decide +kernel
theorem dX11_goes_2 : decode cX11_goes 2 = .ok (.iconst 4, 1) := by decide +kernel
theorem dX11_goes_3 : decode cX11_goes 3 = .ok (.iload_n 2, 1) := by decide +kernel
theorem dX11_goes_4 : decode cX11_goes 4 = .ok (.imul, 1) := by decide +kernel
theorem dX11_goes_5 : decode cX11_goes 5 = .ok (.iadd, 1) := by decide +kernel
theorem dX11_goes_6 : decode cX11_goes 6 = .ok (.istore_n 3, 1) := by decide +kernel
theorem dX11_goes_7 : decode cX11_goes 7 = .ok (.aload_n 0, 1) := by decide +kernel
theorem dX11_goes_8 : decode cX11_goes 8 = .ok (.getfield 7, 3) := by decide +kernel
theorem dX11_goes_11 : decode cX11_goes 11 = .ok (.iload_n 3, 1) := by decide +kernel
theorem dX11_goes_12 : decode cX11_goes 12 = .ok (.iconst 2, 1) := by decide +kernel
theorem dX11_goes_13 : decode cX11_goes 13 = .ok (.iadd, 1) := by decide +kernel
theorem dX11_goes_14 : decode cX11_goes 14 = .ok (.iaload, 1) := by decide +kernel
theorem dX11_goes_15 : decode cX11_goes 15 = .ok (.aload_n 0, 1) := by decide +kernel
theorem dX11_goes_16 : decode cX11_goes 16 = .ok (.iload_n 1, 1) := by decide +kernel
theorem dX11_goes_17 : decode cX11_goes 17 = .ok (.invokevirtual 306, 3) := by decide +kernel
theorem dX11_goes_20 : decode cX11_goes 20 = .ok (.isub, 1) := by decide +kernel
theorem dX11_goes_21 : decode cX11_goes 21 = .ok (.istore 4, 2) := by decide +kernel
theorem dX11_goes_23 : decode cX11_goes 23 = .ok (.iload 4, 2) := by decide +kernel
theorem dX11_goes_25 : decode cX11_goes 25 = .ok (.ifCond .le 23, 3) := by decide +kernel
theorem dX11_goes_28 : decode cX11_goes 28 = .ok (.aload_n 0, 1) := by decide +kernel
theorem dX11_goes_29 : decode cX11_goes 29 = .ok (.getfield 7, 3) := by decide +kernel
theorem dX11_goes_32 : decode cX11_goes 32 = .ok (.iload_n 3, 1) := by decide +kernel
theorem dX11_goes_33 : decode cX11_goes 33 = .ok (.iaload, 1) := by decide +kernel
theorem dX11_goes_34 : decode cX11_goes 34 = .ok (.ifCond .ne 16, 3) := by decide +kernel
theorem dX11_goes_37 : decode cX11_goes 37 = .ok (.aload_n 0, 1) := by decide +kernel
theorem dX11_goes_38 : decode cX11_goes 38 = .ok (.getfield 7, 3) := by decide +kernel
theorem dX11_goes_41 : decode cX11_goes 41 = .ok (.iload_n 3, 1) := by decide +kernel
theorem dX11_goes_42 : decode cX11_goes 42 = .ok (.iconst 1, 1) := by decide +kernel
theorem dX11_goes_43 : decode cX11_goes 43 = .ok (.iadd, 1) := by decide +kernel
theorem dX11_goes_44 : decode cX11_goes 44 = .ok (.iaload, 1) := by decide +kernel
theorem dX11_goes_45 : decode cX11_goes 45 = .ok (.ifCond .ne 5, 3) := by decide +kernel
theorem dX11_goes_48 : decode cX11_goes 48 = .ok (.iconst 0, 1) := by decide +kernel
theorem dX11_goes_49 : decode cX11_goes 49 = .ok (.ireturn, 1) := by decide +kernel
theorem dX11_goes_50 : decode cX11_goes 50 = .ok (.iconst 1, 1) := by decide +kernel
theorem dX11_goes_51 : decode cX11_goes 51 = .ok (.iload 4, 2) := by decide +kernel
theorem dX11_goes_53 : decode cX11_goes 53 = .ok (.bipush 20, 2) := by decide +kernel
theorem dX11_goes_55 : decode cX11_goes 55 = .ok (.idiv, 1) := by decide +kernel
theorem dX11_goes_56 : decode cX11_goes 56 = .ok (.iadd, 1) := by decide +kernel
theorem dX11_goes_57 : decode cX11_goes 57 = .ok (.istore 5, 2) := by decide +kernel
theorem dX11_goes_59 : decode cX11_goes 59 = .ok (.aload_n 0, 1) := by decide +kernel
theorem dX11_goes_60 : decode cX11_goes 60 = .ok (.iconst 1, 1) := by decide +kernel
theorem dX11_goes_61 : decode cX11_goes 61 = .ok (.invokevirtual 300, 3) := by decide +kernel
theorem dX11_goes_64 : decode cX11_goes 64 = .ok (.istore 6, 2) := by decide +kernel
theorem dX11_goes_66 : decode cX11_goes 66 = .ok (.iload 6, 2) := by decide +kernel
theorem dX11_goes_68 : decode cX11_goes 68 = .ok (.ifCond .lt 50, 3) := by decide +kernel
theorem dX11_goes_71 : decode cX11_goes 71 = .ok (.aload_n 0, 1) := by decide +kernel
theorem dX11_goes_72 : decode cX11_goes 72 = .ok (.getfield 29, 3) := by decide +kernel
theorem dX11_goes_75 : decode cX11_goes 75 = .ok (.bipush 6, 2) := by decide +kernel
theorem dX11_goes_77 : decode cX11_goes 77 = .ok (.aload_n 0, 1) := by decide +kernel
theorem dX11_goes_78 : decode cX11_goes 78 = .ok (.getfield 7, 3) := by decide +kernel
theorem dX11_goes_81 : decode cX11_goes 81 = .ok (.iload_n 3, 1) := by decide +kernel
theorem dX11_goes_82 : decode cX11_goes 82 = .ok (.iconst 2, 1) := by decide +kernel
theorem dX11_goes_83 : decode cX11_goes 83 = .ok (.iadd, 1) := by decide +kernel
theorem dX11_goes_84 : decode cX11_goes 84 = .ok (.iaload, 1) := by decide +kernel
theorem dX11_goes_85 : decode cX11_goes 85 = .ok (.iastore, 1) := by decide +kernel
theorem dX11_goes_86 : decode cX11_goes 86 = .ok (.aload_n 0, 1) := by decide +kernel
theorem dX11_goes_87 : decode cX11_goes 87 = .ok (.getfield 29, 3) := by decide +kernel
theorem dX11_goes_90 : decode cX11_goes 90 = .ok (.bipush 7, 2) := by decide +kernel
theorem dX11_goes_92 : decode cX11_goes 92 = .ok (.iload 4, 2) := by decide +kernel
theorem dX11_goes_94 : decode cX11_goes 94 = .ok (.iastore, 1) := by decide +kernel
theorem dX11_goes_95 : decode cX11_goes 95 = .ok (.aload_n 0, 1) := by decide +kernel
theorem dX11_goes_96 : decode cX11_goes 96 = .ok (.iload 6, 2) := by decide +kernel
theorem dX11_goes_98 : decode cX11_goes 98 = .ok (.invokevirtual 303, 3) := by decide +kernel
theorem dX11_goes_101 : decode cX11_goes 101 = .ok (.aload_n 0, 1) := by decide +kernel
theorem dX11_goes_102 : decode cX11_goes 102 = .ok (.getfield 32, 3) := by decide +kernel
theorem dX11_goes_105 : decode cX11_goes 105 = .ok (.iconst 0, 1) := by decide +kernel
theorem dX11_goes_106 : decode cX11_goes 106 = .ok (.laload, 1) := by decide +kernel
theorem dX11_goes_107 : decode cX11_goes 107 = .ok (.iconst 0, 1) := by decide +kernel
theorem dX11_goes_108 : decode cX11_goes 108 = .ok (.bipush 9, 2) := by decide +kernel
theorem dX11_goes_110 : decode cX11_goes 110 = .ok (.invokestatic 309, 3) := by decide +kernel
theorem dX11_goes_113 : decode cX11_goes 113 = .ok (.istore 5, 2) := by decide +kernel
theorem dX11_goes_115 : decode cX11_goes 115 = .ok (.goto 19, 3) := by decide +kernel
theorem dX11_goes_118 : decode cX11_goes 118 = .ok (.iload 5, 2) := by decide +kernel
theorem dX11_goes_120 : decode cX11_goes 120 = .ok (.bipush 9, 2) := by decide +kernel
theorem dX11_goes_122 : decode cX11_goes 122 = .ok (.if_icmp .le 8, 3) := by decide +kernel
theorem dX11_goes_125 : decode cX11_goes 125 = .ok (.bipush 9, 2) := by decide +kernel
theorem dX11_goes_127 : decode cX11_goes 127 = .ok (.goto 5, 3) := by decide +kernel
theorem dX11_goes_130 : decode cX11_goes 130 = .ok (.iload 5, 2) := by decide +kernel
theorem dX11_goes_132 : decode cX11_goes 132 = .ok (.istore 5, 2) := by decide +kernel
theorem dX11_goes_134 : decode cX11_goes 134 = .ok (.aload_n 0, 1) := by decide +kernel
theorem dX11_goes_135 : decode cX11_goes 135 = .ok (.iload_n 1, 1) := by decide +kernel
theorem dX11_goes_136 : decode cX11_goes 136 = .ok (.invokevirtual 291, 3) := by decide +kernel
theorem dX11_goes_139 : decode cX11_goes 139 = .ok (.istore 7, 2) := by decide +kernel
theorem dX11_goes_141 : decode cX11_goes 141 = .ok (.iconst 0, 1) := by decide +kernel
theorem dX11_goes_142 : decode cX11_goes 142 = .ok (.istore 8, 2) := by decide +kernel
theorem dX11_goes_144 : decode cX11_goes 144 = .ok (.iload 8, 2) := by decide +kernel
theorem dX11_goes_146 : decode cX11_goes 146 = .ok (.iload 5, 2) := by decide +kernel
theorem dX11_goes_148 : decode cX11_goes 148 = .ok (.if_icmp .ge 52, 3) := by decide +kernel
theorem dX11_goes_151 : decode cX11_goes 151 = .ok (.aload_n 0, 1) := by decide +kernel
theorem dX11_goes_152 : decode cX11_goes 152 = .ok (.iload 7, 2) := by decide +kernel
theorem dX11_goes_154 : decode cX11_goes 154 = .ok (.aload_n 0, 1) := by decide +kernel
theorem dX11_goes_155 : decode cX11_goes 155 = .ok (.getfield 7, 3) := by decide +kernel
theorem dX11_goes_158 : decode cX11_goes 158 = .ok (.iload_n 3, 1) := by decide +kernel
theorem dX11_goes_159 : decode cX11_goes 159 = .ok (.iaload, 1) := by decide +kernel
theorem dX11_goes_160 : decode cX11_goes 160 = .ok (.aload_n 0, 1) := by decide +kernel
theorem dX11_goes_161 : decode cX11_goes 161 = .ok (.getfield 7, 3) := by decide +kernel
theorem dX11_goes_164 : decode cX11_goes 164 = .ok (.iload_n 3, 1) := by decide +kernel
theorem dX11_goes_165 : decode cX11_goes 165 = .ok (.iconst 1, 1) := by decide +kernel
theorem dX11_goes_166 : decode cX11_goes 166 = .ok (.iadd, 1) := by decide +kernel
theorem dX11_goes_167 : decode cX11_goes 167 = .ok (.iaload, 1) := by decide +kernel
theorem dX11_goes_168 : decode cX11_goes 168 = .ok (.invokevirtual 288, 3) := by decide +kernel
theorem dX11_goes_171 : decode cX11_goes 171 = .ok (.istore 9, 2) := by decide +kernel
theorem dX11_goes_173 : decode cX11_goes 173 = .ok (.iload 9, 2) := by decide +kernel
theorem dX11_goes_175 : decode cX11_goes 175 = .ok (.ifCond .lt 25, 3) := by decide +kernel
theorem dX11_goes_178 : decode cX11_goes 178 = .ok (.aload_n 0, 1) := by decide +kernel
theorem dX11_goes_179 : decode cX11_goes 179 = .ok (.iload 9, 2) := by decide +kernel
theorem dX11_goes_181 : decode cX11_goes 181 = .ok (.invokevirtual 85, 3) := by decide +kernel
theorem dX11_goes_184 : decode cX11_goes 184 = .ok (.ifCond .ne 6, 3) := by decide +kernel
theorem dX11_goes_187 : decode cX11_goes 187 = .ok (.goto 13, 3) := by decide +kernel
theorem dX11_goes_190 : decode cX11_goes 190 = .ok (.iload 9, 2) := by decide +kernel
theorem dX11_goes_192 : decode cX11_goes 192 = .ok (.istore 7, 2) := by decide +kernel
theorem dX11_goes_194 : decode cX11_goes 194 = .ok (.iinc 8 1, 3) := by decide +kernel
theorem dX11_goes_197 : decode cX11_goes 197 = .ok (.goto (-53), 3) := by decide +kernel
theorem dX11_goes_200 : decode cX11_goes 200 = .ok (.iload 7, 2) := by decide +kernel
theorem dX11_goes_202 : decode cX11_goes 202 = .ok (.aload_n 0, 1) := by decide +kernel
theorem dX11_goes_203 : decode cX11_goes 203 = .ok (.iload_n 1, 1) := by decide +kernel
theorem dX11_goes_204 : decode cX11_goes 204 = .ok (.invokevirtual 291, 3) := by decide +kernel
theorem dX11_goes_207 : decode cX11_goes 207 = .ok (.if_icmp .ne 5, 3) := by decide +kernel
theorem dX11_goes_210 : decode cX11_goes 210 = .ok (.iconst 0, 1) := by decide +kernel
theorem dX11_goes_211 : decode cX11_goes 211 = .ok (.ireturn, 1) := by decide +kernel
theorem dX11_goes_212 : decode cX11_goes 212 = .ok (.aload_n 0, 1) := by decide +kernel
theorem dX11_goes_213 : decode cX11_goes 213 = .ok (.iload_n 1, 1) := by decide +kernel
theorem dX11_goes_214 : decode cX11_goes 214 = .ok (.iload 7, 2) := by decide +kernel
theorem dX11_goes_216 : decode cX11_goes 216 = .ok (.invokevirtual 313, 3) := by decide +kernel
theorem dX11_goes_219 : decode cX11_goes 219 = .ok (.iconst 1, 1) := by decide +kernel
theorem dX11_goes_220 : decode cX11_goes 220 = .ok (.ireturn, 1) := by decide +kernel
theorem dX11_blow_0 : decode cX11_blow 0 = .ok (.bipush 100, 2) := by decide +kernel
theorem dX11_blow_2 : decode cX11_blow 2 = .ok (.iconst 4, 1) := by decide +kernel
theorem dX11_blow_3 : decode cX11_blow 3 = .ok (.iload_n 1, 1) := by decide +kernel
theorem dX11_blow_4 : decode cX11_blow 4 = .ok (.imul, 1) := by decide +kernel
theorem dX11_blow_5 : decode cX11_blow 5 = .ok (.iadd, 1) := by decide +kernel
theorem dX11_blow_6 : decode cX11_blow 6 = .ok (.istore_n 2, 1) := by decide +kernel
theorem dX11_blow_7 : decode cX11_blow 7 = .ok (.iconst 0, 1) := by decide +kernel
theorem dX11_blow_8 : decode cX11_blow 8 = .ok (.istore_n 3, 1) := by decide +kernel
theorem dX11_blow_9 : decode cX11_blow 9 = .ok (.iload_n 3, 1) := by decide +kernel
theorem dX11_blow_10 : decode cX11_blow 10 = .ok (.aload_n 0, 1) := by decide +kernel
theorem dX11_blow_11 : decode cX11_blow 11 = .ok (.invokevirtual 316, 3) := by decide +kernel
theorem dX11_blow_14 : decode cX11_blow 14 = .ok (.if_icmp .ge 59, 3) := by decide +kernel
theorem dX11_blow_17 : decode cX11_blow 17 = .ok (.aload_n 0, 1) := by decide +kernel
theorem dX11_blow_18 : decode cX11_blow 18 = .ok (.getfield 40, 3) := by decide +kernel
theorem dX11_blow_21 : decode cX11_blow 21 = .ok (.iload_n 3, 1) := by decide +kernel
theorem dX11_blow_22 : decode cX11_blow 22 = .ok (.aload_n 0, 1) := by decide +kernel
theorem dX11_blow_23 : decode cX11_blow 23 = .ok (.iload_n 3, 1) := by decide +kernel
theorem dX11_blow_24 : decode cX11_blow 24 = .ok (.invokevirtual 291, 3) := by decide +kernel
theorem dX11_blow_27 : decode cX11_blow 27 = .ok (.aload_n 0, 1) := by decide +kernel
theorem dX11_blow_28 : decode cX11_blow 28 = .ok (.getfield 58, 3) := by decide +kernel
theorem dX11_blow_31 : decode cX11_blow 31 = .ok (.irem, 1) := by decide +kernel
theorem dX11_blow_32 : decode cX11_blow 32 = .ok (.aload_n 0, 1) := by decide +kernel
theorem dX11_blow_33 : decode cX11_blow 33 = .ok (.getfield 7, 3) := by decide +kernel
theorem dX11_blow_36 : decode cX11_blow 36 = .ok (.iload_n 2, 1) := by decide +kernel
theorem dX11_blow_37 : decode cX11_blow 37 = .ok (.iaload, 1) := by decide +kernel
theorem dX11_blow_38 : decode cX11_blow 38 = .ok (.imul, 1) := by decide +kernel
theorem dX11_blow_39 : decode cX11_blow 39 = .ok (.aload_n 0, 1) := by decide +kernel
theorem dX11_blow_40 : decode cX11_blow 40 = .ok (.iload_n 3, 1) := by decide +kernel
theorem dX11_blow_41 : decode cX11_blow 41 = .ok (.invokevirtual 291, 3) := by decide +kernel
theorem dX11_blow_44 : decode cX11_blow 44 = .ok (.aload_n 0, 1) := by decide +kernel
theorem dX11_blow_45 : decode cX11_blow 45 = .ok (.getfield 58, 3) := by decide +kernel
theorem dX11_blow_48 : decode cX11_blow 48 = .ok (.idiv, 1) := by decide +kernel
theorem dX11_blow_49 : decode cX11_blow 49 = .ok (.aload_n 0, 1) := by decide +kernel
theorem dX11_blow_50 : decode cX11_blow 50 = .ok (.getfield 7, 3) := by decide +kernel
theorem dX11_blow_53 : decode cX11_blow 53 = .ok (.iload_n 2, 1) := by decide +kernel
theorem dX11_blow_54 : decode cX11_blow 54 = .ok (.iconst 1, 1) := by decide +kernel
theorem dX11_blow_55 : decode cX11_blow 55 = .ok (.iadd, 1) := by decide +kernel
theorem dX11_blow_56 : decode cX11_blow 56 = .ok (.iaload, 1) := by decide +kernel
theorem dX11_blow_57 : decode cX11_blow 57 = .ok (.imul, 1) := by decide +kernel
theorem dX11_blow_58 : decode cX11_blow 58 = .ok (.iadd, 1) := by decide +kernel
theorem dX11_blow_59 : decode cX11_blow 59 = .ok (.iastore, 1) := by decide +kernel
theorem dX11_blow_60 : decode cX11_blow 60 = .ok (.aload_n 0, 1) := by decide +kernel
theorem dX11_blow_61 : decode cX11_blow 61 = .ok (.getfield 43, 3) := by decide +kernel
theorem dX11_blow_64 : decode cX11_blow 64 = .ok (.iload_n 3, 1) := by decide +kernel
theorem dX11_blow_65 : decode cX11_blow 65 = .ok (.iconst 0, 1) := by decide +kernel
theorem dX11_blow_66 : decode cX11_blow 66 = .ok (.bastore, 1) := by decide +kernel
theorem dX11_blow_67 : decode cX11_blow 67 = .ok (.iinc 3 1, 3) := by decide +kernel
theorem dX11_blow_70 : decode cX11_blow 70 = .ok (.goto (-61), 3) := by decide +kernel
theorem dX11_blow_73 : decode cX11_blow 73 = .ok (.iconst 0, 1) := by decide +kernel
theorem dX11_blow_74 : decode cX11_blow 74 = .ok (.istore_n 3, 1) := by decide +kernel
theorem dX11_blow_75 : decode cX11_blow 75 = .ok (.iconst 0, 1) := by decide +kernel
theorem dX11_blow_76 : decode cX11_blow 76 = .ok (.istore 4, 2) := by decide +kernel
theorem dX11_blow_78 : decode cX11_blow 78 = .ok (.iload 4, 2) := by decide +kernel
theorem dX11_blow_80 : decode cX11_blow 80 = .ok (.aload_n 0, 1) := by decide +kernel
theorem dX11_blow_81 : decode cX11_blow 81 = .ok (.invokevirtual 316, 3) := by decide +kernel
theorem dX11_blow_84 : decode cX11_blow 84 = .ok (.if_icmp .ge 154, 3) := by decide +kernel
theorem dX11_blow_87 : decode cX11_blow 87 = .ok (.iconst (-1), 1) := by decide +kernel
theorem dX11_blow_88 : decode cX11_blow 88 = .ok (.istore 5, 2) := by decide +kernel
theorem dX11_blow_90 : decode cX11_blow 90 = .ok (.iconst 0, 1) := by decide +kernel
theorem dX11_blow_91 : decode cX11_blow 91 = .ok (.istore 6, 2) := by decide +kernel
theorem dX11_blow_93 : decode cX11_blow 93 = .ok (.iload 6, 2) := by decide +kernel
theorem dX11_blow_95 : decode cX11_blow 95 = .ok (.aload_n 0, 1) := by decide +kernel
theorem dX11_blow_96 : decode cX11_blow 96 = .ok (.invokevirtual 316, 3) := by decide +kernel
theorem dX11_blow_99 : decode cX11_blow 99 = .ok (.if_icmp .ge 45, 3) := by decide +kernel
theorem dX11_blow_102 : decode cX11_blow 102 = .ok (.aload_n 0, 1) := by decide +kernel
theorem dX11_blow_103 : decode cX11_blow 103 = .ok (.getfield 43, 3) := by decide +kernel
theorem dX11_blow_106 : decode cX11_blow 106 = .ok (.iload 6, 2) := by decide +kernel
theorem dX11_blow_108 : decode cX11_blow 108 = .ok (.baload, 1) := by decide +kernel
theorem dX11_blow_109 : decode cX11_blow 109 = .ok (.ifCond .ne 29, 3) := by decide +kernel
theorem dX11_blow_112 : decode cX11_blow 112 = .ok (.iload 5, 2) := by decide +kernel
theorem dX11_blow_114 : decode cX11_blow 114 = .ok (.ifCond .lt 20, 3) := by decide +kernel
theorem dX11_blow_117 : decode cX11_blow 117 = .ok (.aload_n 0, 1) := by decide +kernel
theorem dX11_blow_118 : decode cX11_blow 118 = .ok (.getfield 40, 3) := by decide +kernel
theorem dX11_blow_121 : decode cX11_blow 121 = .ok (.iload 6, 2) := by decide +kernel
theorem dX11_blow_123 : decode cX11_blow 123 = .ok (.iaload, 1) := by decide +kernel
theorem dX11_blow_124 : decode cX11_blow 124 = .ok (.aload_n 0, 1) := by decide +kernel
theorem dX11_blow_125 : decode cX11_blow 125 = .ok (.getfield 40, 3) := by decide +kernel
theorem dX11_blow_128 : decode cX11_blow 128 = .ok (.iload 5, 2) := by decide +kernel
theorem dX11_blow_130 : decode cX11_blow 130 = .ok (.iaload, 1) := by decide +kernel
theorem dX11_blow_131 : decode cX11_blow 131 = .ok (.if_icmp .le 7, 3) := by decide +kernel
theorem dX11_blow_134 : decode cX11_blow 134 = .ok (.iload 6, 2) := by decide +kernel
theorem dX11_blow_136 : decode cX11_blow 136 = .ok (.istore 5, 2) := by decide +kernel
theorem dX11_blow_138 : decode cX11_blow 138 = .ok (.iinc 6 1, 3) := by decide +kernel
theorem dX11_blow_141 : decode cX11_blow 141 = .ok (.goto (-48), 3) := by decide +kernel
theorem dX11_blow_144 : decode cX11_blow 144 = .ok (.aload_n 0, 1) := by decide +kernel
theorem dX11_blow_145 : decode cX11_blow 145 = .ok (.getfield 43, 3) := by decide +kernel
theorem dX11_blow_148 : decode cX11_blow 148 = .ok (.iload 5, 2) := by decide +kernel
theorem dX11_blow_150 : decode cX11_blow 150 = .ok (.iconst 1, 1) := by decide +kernel
theorem dX11_blow_151 : decode cX11_blow 151 = .ok (.bastore, 1) := by decide +kernel
theorem dX11_blow_152 : decode cX11_blow 152 = .ok (.aload_n 0, 1) := by decide +kernel
theorem dX11_blow_153 : decode cX11_blow 153 = .ok (.iload 5, 2) := by decide +kernel
theorem dX11_blow_155 : decode cX11_blow 155 = .ok (.iload_n 1, 1) := by decide +kernel
theorem dX11_blow_156 : decode cX11_blow 156 = .ok (.invokevirtual 319, 3) := by decide +kernel
theorem dX11_blow_159 : decode cX11_blow 159 = .ok (.istore 6, 2) := by decide +kernel
theorem dX11_blow_161 : decode cX11_blow 161 = .ok (.aload_n 0, 1) := by decide +kernel
theorem dX11_blow_162 : decode cX11_blow 162 = .ok (.getfield 75, 3) := by decide +kernel
theorem dX11_blow_165 : decode cX11_blow 165 = .ok (.bipush 10, 2) := by decide +kernel
theorem dX11_blow_167 : decode cX11_blow 167 = .ok (.iadd, 1) := by decide +kernel
theorem dX11_blow_168 : decode cX11_blow 168 = .ok (.iconst 3, 1) := by decide +kernel
theorem dX11_blow_169 : decode cX11_blow 169 = .ok (.iload 5, 2) := by decide +kernel
theorem dX11_blow_171 : decode cX11_blow 171 = .ok (.imul, 1) := by decide +kernel
theorem dX11_blow_172 : decode cX11_blow 172 = .ok (.iadd, 1) := by decide +kernel
theorem dX11_blow_173 : decode cX11_blow 173 = .ok (.iconst 2, 1) := by decide +kernel
theorem dX11_blow_174 : decode cX11_blow 174 = .ok (.iadd, 1) := by decide +kernel
theorem dX11_blow_175 : decode cX11_blow 175 = .ok (.istore 7, 2) := by decide +kernel
theorem dX11_blow_177 : decode cX11_blow 177 = .ok (.aload_n 0, 1) := by decide +kernel
theorem dX11_blow_178 : decode cX11_blow 178 = .ok (.getfield 7, 3) := by decide +kernel
theorem dX11_blow_181 : decode cX11_blow 181 = .ok (.iload 7, 2) := by decide +kernel
theorem dX11_blow_183 : decode cX11_blow 183 = .ok (.iload 6, 2) := by decide +kernel
theorem dX11_blow_185 : decode cX11_blow 185 = .ok (.ifCond .eq 7, 3) := by decide +kernel
theorem dX11_blow_188 : decode cX11_blow 188 = .ok (.iconst 0, 1) := by decide +kernel
theorem dX11_blow_189 : decode cX11_blow 189 = .ok (.goto 29, 3) := by decide +kernel
theorem dX11_blow_192 : decode cX11_blow 192 = .ok (.aload_n 0, 1) := by decide +kernel
theorem dX11_blow_193 : decode cX11_blow 193 = .ok (.getfield 7, 3) := by decide +kernel
theorem dX11_blow_196 : decode cX11_blow 196 = .ok (.iload 7, 2) := by decide +kernel
theorem dX11_blow_198 : decode cX11_blow 198 = .ok (.iaload, 1) := by decide +kernel
theorem dX11_blow_199 : decode cX11_blow 199 = .ok (.bipush 99, 2) := by decide +kernel
theorem dX11_blow_201 : decode cX11_blow 201 = .ok (.if_icmp .ge 15, 3) := by decide +kernel
theorem dX11_blow_204 : decode cX11_blow 204 = .ok (.aload_n 0, 1) := by decide +kernel
theorem dX11_blow_205 : decode cX11_blow 205 = .ok (.getfield 7, 3) := by decide +kernel
theorem dX11_blow_208 : decode cX11_blow 208 = .ok (.iload 7, 2) := by decide +kernel
theorem dX11_blow_210 : decode cX11_blow 210 = .ok (.iaload, 1) := by decide +kernel
theorem dX11_blow_211 : decode cX11_blow 211 = .ok (.iconst 1, 1) := by decide +kernel
theorem dX11_blow_212 : decode cX11_blow 212 = .ok (.iadd, 1) := by decide +kernel
theorem dX11_blow_213 : decode cX11_blow 213 = .ok (.goto 5, 3) := by decide +kernel
theorem dX11_blow_216 : decode cX11_blow 216 = .ok (.bipush 99, 2) := by decide +kernel
theorem dX11_blow_218 : decode cX11_blow 218 = .ok (.iastore, 1) := by decide +kernel
theorem dX11_blow_219 : decode cX11_blow 219 = .ok (.iload_n 3, 1) := by decide +kernel
theorem dX11_blow_220 : decode cX11_blow 220 = .ok (.iload 6, 2) := by decide +kernel
theorem dX11_blow_222 : decode cX11_blow 222 = .ok (.ifCond .eq 7, 3) := by decide +kernel
theorem dX11_blow_225 : decode cX11_blow 225 = .ok (.iconst 1, 1) := by decide +kernel
theorem dX11_blow_226 : decode cX11_blow 226 = .ok (.goto 4, 3) := by decide +kernel
theorem dX11_blow_229 : decode cX11_blow 229 = .ok (.iconst 0, 1) := by decide +kernel
theorem dX11_blow_230 : decode cX11_blow 230 = .ok (.iadd, 1) := by decide +kernel
theorem dX11_blow_231 : decode cX11_blow 231 = .ok (.istore_n 3, 1) := by decide +kernel
theorem dX11_blow_232 : decode cX11_blow 232 = .ok (.iinc 4 1, 3) := by decide +kernel
theorem dX11_blow_235 : decode cX11_blow 235 = .ok (.goto (-157), 3) := by decide +kernel
theorem dX11_blow_238 : decode cX11_blow 238 = .ok (.aload_n 0, 1) := by decide +kernel
theorem dX11_blow_239 : decode cX11_blow 239 = .ok (.getfield 7, 3) := by decide +kernel
theorem dX11_blow_242 : decode cX11_blow 242 = .ok (.aload_n 0, 1) := by decide +kernel
theorem dX11_blow_243 : decode cX11_blow 243 = .ok (.getfield 75, 3) := by decide +kernel
theorem dX11_blow_246 : decode cX11_blow 246 = .ok (.iconst 0, 1) := by decide +kernel
theorem dX11_blow_247 : decode cX11_blow 247 = .ok (.iadd, 1) := by decide +kernel
theorem dX11_blow_248 : decode cX11_blow 248 = .ok (.dup2, 1) := by decide +kernel
theorem dX11_blow_249 : decode cX11_blow 249 = .ok (.iaload, 1) := by decide +kernel
theorem dX11_blow_250 : decode cX11_blow 250 = .ok (.iconst 1, 1) := by decide +kernel
theorem dX11_blow_251 : decode cX11_blow 251 = .ok (.iadd, 1) := by decide +kernel
theorem dX11_blow_252 : decode cX11_blow 252 = .ok (.iastore, 1) := by decide +kernel
theorem dX11_blow_253 : decode cX11_blow 253 = .ok (.iload_n 3, 1) := by decide +kernel
theorem dX11_blow_254 : decode cX11_blow 254 = .ok (.ireturn, 1) := by decide +kernel
theorem dX11_hour_0 : decode cX11_hour 0 = .ok (.aload_n 0, 1) := by decide +kernel
theorem dX11_hour_1 : decode cX11_hour 1 = .ok (.iload_n 1, 1) := by decide +kernel
theorem dX11_hour_2 : decode cX11_hour 2 = .ok (.invokevirtual 91, 3) := by decide +kernel
theorem dX11_hour_5 : decode cX11_hour 5 = .ok (.ifCond .eq 23, 3) := by decide +kernel
theorem dX11_hour_8 : decode cX11_hour 8 = .ok (.aload_n 0, 1) := by decide +kernel
theorem dX11_hour_9 : decode cX11_hour 9 = .ok (.getfield 7, 3) := by decide +kernel
theorem dX11_hour_12 : decode cX11_hour 12 = .ok (.iconst 0, 1) := by decide +kernel
theorem dX11_hour_13 : decode cX11_hour 13 = .ok (.iaload, 1) := by decide +kernel
theorem dX11_hour_14 : decode cX11_hour 14 = .ok (.sipush 999, 3) := by decide +kernel
theorem dX11_hour_17 : decode cX11_hour 17 = .ok (.if_icmp .ge 11, 3) := by decide +kernel
theorem dX11_hour_20 : decode cX11_hour 20 = .ok (.aload_n 0, 1) := by decide +kernel
theorem dX11_hour_21 : decode cX11_hour 21 = .ok (.iload_n 1, 1) := by decide +kernel
theorem dX11_hour_22 : decode cX11_hour 22 = .ok (.invokevirtual 322, 3) := by decide +kernel
theorem dX11_hour_25 : decode cX11_hour 25 = .ok (.goto 4, 3) := by decide +kernel
theorem dX11_hour_28 : decode cX11_hour 28 = .ok (.iconst (-1), 1) := by decide +kernel
theorem dX11_hour_29 : decode cX11_hour 29 = .ok (.ireturn, 1) := by decide +kernel
theorem dX11_findFields_0 : decode cX11_findFields 0 = .ok (.iconst 0, 1) := by decide +kernel
theorem dX11_findFields_1 : decode cX11_findFields 1 = .ok (.istore_n 1, 1) := by decide +kernel
theorem dX11_findFields_2 : decode cX11_findFields 2 = .ok (.iload_n 1, 1) := by decide +kernel
theorem dX11_findFields_3 : decode cX11_findFields 3 = .ok (.aload_n 0, 1) := by decide +kernel
theorem dX11_findFields_4 : decode cX11_findFields 4 = .ok (.getfield 64, 3) := by decide +kernel
theorem dX11_findFields_7 : decode cX11_findFields 7 = .ok (.if_icmp .ge 38, 3) := by decide +kernel
theorem dX11_findFields_10 : decode cX11_findFields 10 = .ok (.aload_n 0, 1) := by decide +kernel
theorem dX11_findFields_11 : decode cX11_findFields 11 = .ok (.getfield 46, 3) := by decide +kernel
theorem dX11_findFields_14 : decode cX11_findFields 14 = .ok (.iload_n 1, 1) := by decide +kernel
theorem dX11_findFields_15 : decode cX11_findFields 15 = .ok (.aload_n 0, 1) := by decide +kernel
theorem dX11_findFields_16 : decode cX11_findFields 16 = .ok (.getfield 7, 3) := by decide +kernel
theorem dX11_findFields_19 : decode cX11_findFields 19 = .ok (.aload_n 0, 1) := by decide +kernel
theorem dX11_findFields_20 : decode cX11_findFields 20 = .ok (.getfield 75, 3) := by decide +kernel
theorem dX11_findFields_23 : decode cX11_findFields 23 = .ok (.sipush 290, 3) := by decide +kernel
theorem dX11_findFields_26 : decode cX11_findFields 26 = .ok (.iadd, 1) := by decide +kernel
theorem dX11_findFields_27 : decode cX11_findFields 27 = .ok (.iload_n 1, 1) := by decide +kernel
theorem dX11_findFields_28 : decode cX11_findFields 28 = .ok (.iadd, 1) := by decide +kernel
theorem dX11_findFields_29 : decode cX11_findFields 29 = .ok (.iaload, 1) := by decide +kernel
theorem dX11_findFields_30 : decode cX11_findFields 30 = .ok (.ifCond .le 7, 3) := by decide +kernel
theorem dX11_findFields_33 : decode cX11_findFields 33 = .ok (.iconst (-1), 1) := by decide +kernel
theorem dX11_findFields_34 : decode cX11_findFields 34 = .ok (.goto 4, 3) := by decide +kernel
theorem dX11_findFields_37 : decode cX11_findFields 37 = .ok (.iload_n 1, 1) := by decide +kernel
theorem dX11_findFields_38 : decode cX11_findFields 38 = .ok (.iastore, 1) := by decide +kernel
theorem dX11_findFields_39 : decode cX11_findFields 39 = .ok (.iinc 1 1, 3) := by decide +kernel
theorem dX11_findFields_42 : decode cX11_findFields 42 = .ok (.goto (-40), 3) := by decide +kernel
theorem dX11_findFields_45 : decode cX11_findFields 45 = .ok (.iconst 1, 1) := by decide +kernel
theorem dX11_findFields_46 : decode cX11_findFields 46 = .ok (.istore_n 1, 1) := by decide +kernel
theorem dX11_findFields_47 : decode cX11_findFields 47 = .ok (.iload_n 1, 1) := by decide +kernel
theorem dX11_findFields_48 : decode cX11_findFields 48 = .ok (.ifCond .eq 103, 3) := by decide +kernel
theorem dX11_findFields_51 : decode cX11_findFields 51 = .ok (.iconst 0, 1) := by decide +kernel
theorem dX11_findFields_52 : decode cX11_findFields 52 = .ok (.istore_n 1, 1) := by decide +kernel
theorem dX11_findFields_53 : decode cX11_findFields 53 = .ok (.iconst 0, 1) := by decide +kernel
theorem dX11_findFields_54 : decode cX11_findFields 54 = .ok (.istore_n 2, 1) := by decide +kernel
theorem dX11_findFields_55 : decode cX11_findFields 55 = .ok (.iload_n 2, 1) := by decide +kernel
theorem dX11_findFields_56 : decode cX11_findFields 56 = .ok (.aload_n 0, 1) := by decide +kernel
theorem dX11_findFields_57 : decode cX11_findFields 57 = .ok (.getfield 64, 3) := by decide +kernel
theorem dX11_findFields_60 : decode cX11_findFields 60 = .ok (.if_icmp .ge 88, 3) := by decide +kernel
theorem dX11_findFields_63 : decode cX11_findFields 63 = .ok (.iconst 0, 1) := by decide +kernel
theorem dX11_findFields_64 : decode cX11_findFields 64 = .ok (.istore_n 3, 1) := by decide +kernel
theorem dX11_findFields_65 : decode cX11_findFields 65 = .ok (.iload_n 3, 1) := by decide +kernel
theorem dX11_findFields_66 : decode cX11_findFields 66 = .ok (.iconst 4, 1) := by decide +kernel
theorem dX11_findFields_67 : decode cX11_findFields 67 = .ok (.if_icmp .ge 75, 3) := by decide +kernel
theorem dX11_findFields_70 : decode cX11_findFields 70 = .ok (.aload_n 0, 1) := by decide +kernel
theorem dX11_findFields_71 : decode cX11_findFields 71 = .ok (.getfield 46, 3) := by decide +kernel
theorem dX11_findFields_74 : decode cX11_findFields 74 = .ok (.iload_n 2, 1) := by decide +kernel
theorem dX11_findFields_75 : decode cX11_findFields 75 = .ok (.iaload, 1) := by decide +kernel
theorem dX11_findFields_76 : decode cX11_findFields 76 = .ok (.ifCond .lt 66, 3) := by decide +kernel
theorem dX11_findFields_79 : decode cX11_findFields 79 = .ok (.aload_n 0, 1) := by decide +kernel
theorem dX11_findFields_80 : decode cX11_findFields 80 = .ok (.iload_n 2, 1) := by decide +kernel
theorem dX11_findFields_81 : decode cX11_findFields 81 = .ok (.iload_n 3, 1) := by decide +kernel
theorem dX11_findFields_82 : decode cX11_findFields 82 = .ok (.invokevirtual 294, 3) := by decide +kernel
theorem dX11_findFields_85 : decode cX11_findFields 85 = .ok (.istore 4, 2) := by decide +kernel
theorem dX11_findFields_87 : decode cX11_findFields 87 = .ok (.iload 4, 2) := by decide +kernel
theorem dX11_findFields_89 : decode cX11_findFields 89 = .ok (.ifCond .lt 47, 3) := by decide +kernel
theorem dX11_findFields_92 : decode cX11_findFields 92 = .ok (.aload_n 0, 1) := by decide +kernel
theorem dX11_findFields_93 : decode cX11_findFields 93 = .ok (.getfield 46, 3) := by decide +kernel
theorem dX11_findFields_96 : decode cX11_findFields 96 = .ok (.iload 4, 2) := by decide +kernel
theorem dX11_findFields_98 : decode cX11_findFields 98 = .ok (.iaload, 1) := by decide +kernel
theorem dX11_findFields_99 : decode cX11_findFields 99 = .ok (.ifCond .lt 37, 3) := by decide +kernel
theorem dX11_findFields_102 : decode cX11_findFields 102 = .ok (.aload_n 0, 1) := by decide +kernel
theorem dX11_findFields_103 : decode cX11_findFields 103 = .ok (.getfield 46, 3) := by decide +kernel
theorem dX11_findFields_106 : decode cX11_findFields 106 = .ok (.iload 4, 2) := by decide +kernel
theorem dX11_findFields_108 : decode cX11_findFields 108 = .ok (.iaload, 1) := by decide +kernel
theorem dX11_findFields_109 : decode cX11_findFields 109 = .ok (.aload_n 0, 1) := by decide +kernel
theorem dX11_findFields_110 : decode cX11_findFields 110 = .ok (.getfield 46, 3) := by decide +kernel
theorem dX11_findFields_113 : decode cX11_findFields 113 = .ok (.iload_n 2, 1) := by decide +kernel
theorem dX11_findFields_114 : decode cX11_findFields 114 = .ok (.iaload, 1) := by decide +kernel
theorem dX11_findFields_115 : decode cX11_findFields 115 = .ok (.if_icmp .lt 6, 3) := by decide +kernel
theorem dX11_findFields_118 : decode cX11_findFields 118 = .ok (.goto 18, 3) := by decide +kernel
theorem dX11_findFields_121 : decode cX11_findFields 121 = .ok (.aload_n 0, 1) := by decide +kernel
theorem dX11_findFields_122 : decode cX11_findFields 122 = .ok (.getfield 46, 3) := by decide +kernel
theorem dX11_findFields_125 : decode cX11_findFields 125 = .ok (.iload_n 2, 1) := by decide +kernel
theorem dX11_findFields_126 : decode cX11_findFields 126 = .ok (.aload_n 0, 1) := by decide +kernel
theorem dX11_findFields_127 : decode cX11_findFields 127 = .ok (.getfield 46, 3) := by decide +kernel
theorem dX11_findFields_130 : decode cX11_findFields 130 = .ok (.iload 4, 2) := by decide +kernel
theorem dX11_findFields_132 : decode cX11_findFields 132 = .ok (.iaload, 1) := by decide +kernel
theorem dX11_findFields_133 : decode cX11_findFields 133 = .ok (.iastore, 1) := by decide +kernel
theorem dX11_findFields_134 : decode cX11_findFields 134 = .ok (.iconst 1, 1) := by decide +kernel
theorem dX11_findFields_135 : decode cX11_findFields 135 = .ok (.istore_n 1, 1) := by decide +kernel
theorem dX11_findFields_136 : decode cX11_findFields 136 = .ok (.iinc 3 1, 3) := by decide +kernel
theorem dX11_findFields_139 : decode cX11_findFields 139 = .ok (.goto (-74), 3) := by decide +kernel
theorem dX11_findFields_142 : decode cX11_findFields 142 = .ok (.iinc 2 1, 3) := by decide +kernel
theorem dX11_findFields_145 : decode cX11_findFields 145 = .ok (.goto (-90), 3) := by decide +kernel
theorem dX11_findFields_148 : decode cX11_findFields 148 = .ok (.goto (-101), 3) := by decide +kernel
theorem dX11_findFields_151 : decode cX11_findFields 151 = .ok (.return_, 1) := by decide +kernel
theorem dX11_stakeOf_0 : decode cX11_stakeOf 0 = .ok (.aload_n 0, 1) := by decide +kernel
theorem dX11_stakeOf_1 : decode cX11_stakeOf 1 = .ok (.getfield 7, 3) := by decide +kernel
theorem dX11_stakeOf_4 : decode cX11_stakeOf 4 = .ok (.aload_n 0, 1) := by decide +kernel
theorem dX11_stakeOf_5 : decode cX11_stakeOf 5 = .ok (.getfield 75, 3) := by decide +kernel
theorem dX11_stakeOf_8 : decode cX11_stakeOf 8 = .ok (.bipush 85, 2) := by decide +kernel
theorem dX11_stakeOf_10 : decode cX11_stakeOf 10 = .ok (.iadd, 1) := by decide +kernel
theorem dX11_stakeOf_11 : decode cX11_stakeOf 11 = .ok (.iload_n 1, 1) := by decide +kernel
theorem dX11_stakeOf_12 : decode cX11_stakeOf 12 = .ok (.iadd, 1) := by decide +kernel
theorem dX11_stakeOf_13 : decode cX11_stakeOf 13 = .ok (.iaload, 1) := by decide +kernel
theorem dX11_stakeOf_14 : decode cX11_stakeOf 14 = .ok (.ireturn, 1) := by decide +kernel
theorem dX11_fieldOf_0 : decode cX11_fieldOf 0 = .ok (.aload_n 0, 1) := by decide +kernel
theorem dX11_fieldOf_1 : decode cX11_fieldOf 1 = .ok (.iload_n 1, 1) := by decide +kernel
theorem dX11_fieldOf_2 : decode cX11_fieldOf 2 = .ok (.invokevirtual 325, 3) := by decide +kernel
theorem dX11_fieldOf_5 : decode cX11_fieldOf 5 = .ok (.ifCond .ge 7, 3) := by decide +kernel
theorem dX11_fieldOf_8 : decode cX11_fieldOf 8 = .ok (.iconst (-1), 1) := by decide +kernel
theorem dX11_fieldOf_9 : decode cX11_fieldOf 9 = .ok (.goto 13, 3) := by decide +kernel
theorem dX11_fieldOf_12 : decode cX11_fieldOf 12 = .ok (.aload_n 0, 1) := by decide +kernel
theorem dX11_fieldOf_13 : decode cX11_fieldOf 13 = .ok (.getfield 46, 3) := by decide +kernel
theorem dX11_fieldOf_16 : decode cX11_fieldOf 16 = .ok (.aload_n 0, 1) := by decide +kernel
theorem dX11_fieldOf_17 : decode cX11_fieldOf 17 = .ok (.iload_n 1, 1) := by decide +kernel
theorem dX11_fieldOf_18 : decode cX11_fieldOf 18 = .ok (.invokevirtual 325, 3) := by decide +kernel
theorem dX11_fieldOf_21 : decode cX11_fieldOf 21 = .ok (.iaload, 1) := by decide +kernel
theorem dX11_fieldOf_22 : decode cX11_fieldOf 22 = .ok (.ireturn, 1) := by decide +kernel
theorem dX11_has_0 : decode cX11_has 0 = .ok (.aload_n 0, 1) := by decide +kernel
theorem dX11_has_1 : decode cX11_has 1 = .ok (.getfield 46, 3) := by decide +kernel
theorem dX11_has_4 : decode cX11_has 4 = .ok (.iload_n 2, 1) := by decide +kernel
theorem dX11_has_5 : decode cX11_has 5 = .ok (.iaload, 1) := by decide +kernel
theorem dX11_has_6 : decode cX11_has 6 = .ok (.ifCond .lt 21, 3) := by decide +kernel
theorem dX11_has_9 : decode cX11_has 9 = .ok (.aload_n 0, 1) := by decide +kernel
theorem dX11_has_10 : decode cX11_has 10 = .ok (.iload_n 1, 1) := by decide +kernel
theorem dX11_has_11 : decode cX11_has 11 = .ok (.invokevirtual 328, 3) := by decide +kernel
theorem dX11_has_14 : decode cX11_has 14 = .ok (.aload_n 0, 1) := by decide +kernel
theorem dX11_has_15 : decode cX11_has 15 = .ok (.getfield 46, 3) := by decide +kernel
theorem dX11_has_18 : decode cX11_has 18 = .ok (.iload_n 2, 1) := by decide +kernel
theorem dX11_has_19 : decode cX11_has 19 = .ok (.iaload, 1) := by decide +kernel
theorem dX11_has_20 : decode cX11_has 20 = .ok (.if_icmp .ne 7, 3) := by decide +kernel
theorem dX11_has_23 : decode cX11_has 23 = .ok (.iconst 1, 1) := by decide +kernel
theorem dX11_has_24 : decode cX11_has 24 = .ok (.goto 4, 3) := by decide +kernel
theorem dX11_has_27 : decode cX11_has 27 = .ok (.iconst 0, 1) := by decide +kernel
theorem dX11_has_28 : decode cX11_has 28 = .ok (.ireturn, 1) := by decide +kernel
theorem dX11_sizeOf_0 : decode cX11_sizeOf 0 = .ok (.iconst 0, 1) := by decide +kernel
theorem dX11_sizeOf_1 : decode cX11_sizeOf 1 = .ok (.istore_n 2, 1) := by decide +kernel
theorem dX11_sizeOf_2 : decode cX11_sizeOf 2 = .ok (.iconst 0, 1) := by decide +kernel
theorem dX11_sizeOf_3 : decode cX11_sizeOf 3 = .ok (.istore_n 3, 1) := by decide +kernel
theorem dX11_sizeOf_4 : decode cX11_sizeOf 4 = .ok (.iload_n 3, 1) := by decide +kernel
theorem dX11_sizeOf_5 : decode cX11_sizeOf 5 = .ok (.aload_n 0, 1) := by decide +kernel
theorem dX11_sizeOf_6 : decode cX11_sizeOf 6 = .ok (.getfield 64, 3) := by decide +kernel
theorem dX11_sizeOf_9 : decode cX11_sizeOf 9 = .ok (.if_icmp .ge 27, 3) := by decide +kernel
theorem dX11_sizeOf_12 : decode cX11_sizeOf 12 = .ok (.iload_n 2, 1) := by decide +kernel
theorem dX11_sizeOf_13 : decode cX11_sizeOf 13 = .ok (.aload_n 0, 1) := by decide +kernel
theorem dX11_sizeOf_14 : decode cX11_sizeOf 14 = .ok (.getfield 46, 3) := by decide +kernel
theorem dX11_sizeOf_17 : decode cX11_sizeOf 17 = .ok (.iload_n 3, 1) := by decide +kernel
theorem dX11_sizeOf_18 : decode cX11_sizeOf 18 = .ok (.iaload, 1) := by decide +kernel
theorem dX11_sizeOf_19 : decode cX11_sizeOf 19 = .ok (.iload_n 1, 1) := by decide +kernel
theorem dX11_sizeOf_20 : decode cX11_sizeOf 20 = .ok (.if_icmp .ne 7, 3) := by decide +kernel
theorem dX11_sizeOf_23 : decode cX11_sizeOf 23 = .ok (.iconst 1, 1) := by decide +kernel
theorem dX11_sizeOf_24 : decode cX11_sizeOf 24 = .ok (.goto 4, 3) := by decide +kernel
theorem dX11_sizeOf_27 : decode cX11_sizeOf 27 = .ok (.iconst 0, 1) := by decide +kernel
theorem dX11_sizeOf_28 : decode cX11_sizeOf 28 = .ok (.iadd, 1) := by decide +kernel
theorem dX11_sizeOf_29 : decode cX11_sizeOf 29 = .ok (.istore_n 2, 1) := by decide +kernel
theorem dX11_sizeOf_30 : decode cX11_sizeOf 30 = .ok (.iinc 3 1, 3) := by decide +kernel
theorem dX11_sizeOf_33 : decode cX11_sizeOf 33 = .ok (.goto (-29), 3) := by decide +kernel
theorem dX11_sizeOf_36 : decode cX11_sizeOf 36 = .ok (.iload_n 2, 1) := by decide +kernel
theorem dX11_sizeOf_37 : decode cX11_sizeOf 37 = .ok (.ireturn, 1) := by decide +kernel
theorem dX11_havers_0 : decode cX11_havers 0 = .ok (.iconst 0, 1) := by decide +kernel
theorem dX11_havers_1 : decode cX11_havers 1 = .ok (.istore_n 2, 1) := by decide +kernel
theorem dX11_havers_2 : decode cX11_havers 2 = .ok (.iconst 0, 1) := by decide +kernel
theorem dX11_havers_3 : decode cX11_havers 3 = .ok (.istore_n 3, 1) := by decide +kernel
theorem dX11_havers_4 : decode cX11_havers 4 = .ok (.iload_n 3, 1) := by decide +kernel
theorem dX11_havers_5 : decode cX11_havers 5 = .ok (.bipush 6, 2) := by decide +kernel
theorem dX11_havers_7 : decode cX11_havers 7 = .ok (.if_icmp .ge 26, 3) := by decide +kernel
theorem dX11_havers_10 : decode cX11_havers 10 = .ok (.iload_n 2, 1) := by decide +kernel
theorem dX11_havers_11 : decode cX11_havers 11 = .ok (.aload_n 0, 1) := by decide +kernel
theorem dX11_havers_12 : decode cX11_havers 12 = .ok (.iload_n 3, 1) := by decide +kernel
theorem dX11_havers_13 : decode cX11_havers 13 = .ok (.invokevirtual 328, 3) := by decide +kernel
theorem dX11_havers_16 : decode cX11_havers 16 = .ok (.iload_n 1, 1) := by decide +kernel
theorem dX11_havers_17 : decode cX11_havers 17 = .ok (.if_icmp .ne 7, 3) := by decide +kernel
theorem dX11_havers_20 : decode cX11_havers 20 = .ok (.iconst 1, 1) := by decide +kernel
theorem dX11_havers_21 : decode cX11_havers 21 = .ok (.goto 4, 3) := by decide +kernel
theorem dX11_havers_24 : decode cX11_havers 24 = .ok (.iconst 0, 1) := by decide +kernel
theorem dX11_havers_25 : decode cX11_havers 25 = .ok (.iadd, 1) := by decide +kernel
theorem dX11_havers_26 : decode cX11_havers 26 = .ok (.istore_n 2, 1) := by decide +kernel
theorem dX11_havers_27 : decode cX11_havers 27 = .ok (.iinc 3 1, 3) := by decide +kernel
theorem dX11_havers_30 : decode cX11_havers 30 = .ok (.goto (-26), 3) := by decide +kernel
theorem dX11_havers_33 : decode cX11_havers 33 = .ok (.iload_n 2, 1) := by decide +kernel
theorem dX11_havers_34 : decode cX11_havers 34 = .ok (.ireturn, 1) := by decide +kernel
theorem dX11_areaOf_0 : decode cX11_areaOf 0 = .ok (.aload_n 0, 1) := by decide +kernel
theorem dX11_areaOf_1 : decode cX11_areaOf 1 = .ok (.iload_n 1, 1) := by decide +kernel
theorem dX11_areaOf_2 : decode cX11_areaOf 2 = .ok (.invokevirtual 325, 3) := by decide +kernel
theorem dX11_areaOf_5 : decode cX11_areaOf 5 = .ok (.ifCond .ge 7, 3) := by decide +kernel
theorem dX11_areaOf_8 : decode cX11_areaOf 8 = .ok (.iconst 0, 1) := by decide +kernel
theorem dX11_areaOf_9 : decode cX11_areaOf 9 = .ok (.goto 22, 3) := by decide +kernel
theorem dX11_areaOf_12 : decode cX11_areaOf 12 = .ok (.aload_n 0, 1) := by decide +kernel
theorem dX11_areaOf_13 : decode cX11_areaOf 13 = .ok (.aload_n 0, 1) := by decide +kernel
theorem dX11_areaOf_14 : decode cX11_areaOf 14 = .ok (.iload_n 1, 1) := by decide +kernel
theorem dX11_areaOf_15 : decode cX11_areaOf 15 = .ok (.invokevirtual 328, 3) := by decide +kernel
theorem dX11_areaOf_18 : decode cX11_areaOf 18 = .ok (.invokevirtual 331, 3) := by decide +kernel
theorem dX11_areaOf_21 : decode cX11_areaOf 21 = .ok (.aload_n 0, 1) := by decide +kernel
theorem dX11_areaOf_22 : decode cX11_areaOf 22 = .ok (.aload_n 0, 1) := by decide +kernel
theorem dX11_areaOf_23 : decode cX11_areaOf 23 = .ok (.iload_n 1, 1) := by decide +kernel
theorem dX11_areaOf_24 : decode cX11_areaOf 24 = .ok (.invokevirtual 328, 3) := by decide +kernel
theorem dX11_areaOf_27 : decode cX11_areaOf 27 = .ok (.invokevirtual 334, 3) := by decide +kernel
theorem dX11_areaOf_30 : decode cX11_areaOf 30 = .ok (.idiv, 1) := by decide +kernel
theorem dX11_areaOf_31 : decode cX11_areaOf 31 = .ok (.ireturn, 1) := by decide +kernel
theorem dX11_wellsIn_0 : decode cX11_wellsIn 0 = .ok (.iconst 0, 1) := by decide +kernel
theorem dX11_wellsIn_1 : decode cX11_wellsIn 1 = .ok (.istore_n 2, 1) := by decide +kernel
theorem dX11_wellsIn_2 : decode cX11_wellsIn 2 = .ok (.iconst 0, 1) := by decide +kernel
theorem dX11_wellsIn_3 : decode cX11_wellsIn 3 = .ok (.istore_n 3, 1) := by decide +kernel
theorem dX11_wellsIn_4 : decode cX11_wellsIn 4 = .ok (.iload_n 3, 1) := by decide +kernel
theorem dX11_wellsIn_5 : decode cX11_wellsIn 5 = .ok (.aload_n 0, 1) := by decide +kernel
theorem dX11_wellsIn_6 : decode cX11_wellsIn 6 = .ok (.getfield 64, 3) := by decide +kernel
theorem dX11_wellsIn_9 : decode cX11_wellsIn 9 = .ok (.if_icmp .ge 46, 3) := by decide +kernel
theorem dX11_wellsIn_12 : decode cX11_wellsIn 12 = .ok (.iload_n 2, 1) := by decide +kernel
theorem dX11_wellsIn_13 : decode cX11_wellsIn 13 = .ok (.aload_n 0, 1) := by decide +kernel
theorem dX11_wellsIn_14 : decode cX11_wellsIn 14 = .ok (.getfield 46, 3) := by decide +kernel
theorem dX11_wellsIn_17 : decode cX11_wellsIn 17 = .ok (.iload_n 3, 1) := by decide +kernel
theorem dX11_wellsIn_18 : decode cX11_wellsIn 18 = .ok (.iaload, 1) := by decide +kernel
theorem dX11_wellsIn_19 : decode cX11_wellsIn 19 = .ok (.iload_n 1, 1) := by decide +kernel
theorem dX11_wellsIn_20 : decode cX11_wellsIn 20 = .ok (.if_icmp .ne 26, 3) := by decide +kernel
theorem dX11_wellsIn_23 : decode cX11_wellsIn 23 = .ok (.aload_n 0, 1) := by decide +kernel
theorem dX11_wellsIn_24 : decode cX11_wellsIn 24 = .ok (.getfield 7, 3) := by decide +kernel
theorem dX11_wellsIn_27 : decode cX11_wellsIn 27 = .ok (.aload_n 0, 1) := by decide +kernel
theorem dX11_wellsIn_28 : decode cX11_wellsIn 28 = .ok (.getfield 75, 3) := by decide +kernel
theorem dX11_wellsIn_31 : decode cX11_wellsIn 31 = .ok (.sipush 190, 3) := by decide +kernel
theorem dX11_wellsIn_34 : decode cX11_wellsIn 34 = .ok (.iadd, 1) := by decide +kernel
theorem dX11_wellsIn_35 : decode cX11_wellsIn 35 = .ok (.iload_n 3, 1) := by decide +kernel
theorem dX11_wellsIn_36 : decode cX11_wellsIn 36 = .ok (.iadd, 1) := by decide +kernel
theorem dX11_wellsIn_37 : decode cX11_wellsIn 37 = .ok (.iaload, 1) := by decide +kernel
theorem dX11_wellsIn_38 : decode cX11_wellsIn 38 = .ok (.iconst 1, 1) := by decide +kernel
theorem dX11_wellsIn_39 : decode cX11_wellsIn 39 = .ok (.if_icmp .ne 7, 3) := by decide +kernel
theorem dX11_wellsIn_42 : decode cX11_wellsIn 42 = .ok (.iconst 1, 1) := by decide +kernel
theorem dX11_wellsIn_43 : decode cX11_wellsIn 43 = .ok (.goto 4, 3) := by decide +kernel
theorem dX11_wellsIn_46 : decode cX11_wellsIn 46 = .ok (.iconst 0, 1) := by decide +kernel
theorem dX11_wellsIn_47 : decode cX11_wellsIn 47 = .ok (.iadd, 1) := by decide +kernel
theorem dX11_wellsIn_48 : decode cX11_wellsIn 48 = .ok (.istore_n 2, 1) := by decide +kernel
theorem dX11_wellsIn_49 : decode cX11_wellsIn 49 = .ok (.iinc 3 1, 3) := by decide +kernel
theorem dX11_wellsIn_52 : decode cX11_wellsIn 52 = .ok (.goto (-48), 3) := by decide +kernel
theorem dX11_wellsIn_55 : decode cX11_wellsIn 55 = .ok (.iload_n 2, 1) := by decide +kernel
theorem dX11_wellsIn_56 : decode cX11_wellsIn 56 = .ok (.ireturn, 1) := by decide +kernel
theorem dX11_isRing_0 : decode cX11_isRing 0 = .ok (.iconst 0, 1) := by decide +kernel
theorem dX11_isRing_1 : decode cX11_isRing 1 = .ok (.istore_n 2, 1) := by decide +kernel
theorem dX11_isRing_2 : decode cX11_isRing 2 = .ok (.iload_n 2, 1) := by decide +kernel
theorem dX11_isRing_3 : decode cX11_isRing 3 = .ok (.aload_n 0, 1) := by decide +kernel
theorem dX11_isRing_4 : decode cX11_isRing 4 = .ok (.getfield 64, 3) := by decide +kernel
theorem dX11_isRing_7 : decode cX11_isRing 7 = .ok (.if_icmp .ge 69, 3) := by decide +kernel
theorem dX11_isRing_10 : decode cX11_isRing 10 = .ok (.aload_n 0, 1) := by decide +kernel
theorem dX11_isRing_11 : decode cX11_isRing 11 = .ok (.getfield 46, 3) := by decide +kernel
theorem dX11_isRing_14 : decode cX11_isRing 14 = .ok (.iload_n 2, 1) := by decide +kernel
theorem dX11_isRing_15 : decode cX11_isRing 15 = .ok (.iaload, 1) := by decide +kernel
theorem dX11_isRing_16 : decode cX11_isRing 16 = .ok (.iload_n 1, 1) := by decide +kernel
theorem dX11_isRing_17 : decode cX11_isRing 17 = .ok (.if_icmp .ne 53, 3) := by decide +kernel
theorem dX11_isRing_20 : decode cX11_isRing 20 = .ok (.iload_n 2, 1) := by decide +kernel
theorem dX11_isRing_21 : decode cX11_isRing 21 = .ok (.aload_n 0, 1) := by decide +kernel
theorem dX11_isRing_22 : decode cX11_isRing 22 = .ok (.getfield 58, 3) := by decide +kernel
theorem dX11_isRing_25 : decode cX11_isRing 25 = .ok (.irem, 1) := by decide +kernel
theorem dX11_isRing_26 : decode cX11_isRing 26 = .ok (.ifCond .eq 42, 3) := by decide +kernel
theorem dX11_isRing_29 : decode cX11_isRing 29 = .ok (.iload_n 2, 1) := by decide +kernel
theorem dX11_isRing_30 : decode cX11_isRing 30 = .ok (.aload_n 0, 1) := by decide +kernel
theorem dX11_isRing_31 : decode cX11_isRing 31 = .ok (.getfield 58, 3) := by decide +kernel
theorem dX11_isRing_34 : decode cX11_isRing 34 = .ok (.irem, 1) := by decide +kernel
theorem dX11_isRing_35 : decode cX11_isRing 35 = .ok (.aload_n 0, 1) := by decide +kernel
theorem dX11_isRing_36 : decode cX11_isRing 36 = .ok (.getfield 58, 3) := by decide +kernel
theorem dX11_isRing_39 : decode cX11_isRing 39 = .ok (.iconst 1, 1) := by decide +kernel
theorem dX11_isRing_40 : decode cX11_isRing 40 = .ok (.isub, 1) := by decide +kernel
theorem dX11_isRing_41 : decode cX11_isRing 41 = .ok (.if_icmp .eq 27, 3) := by decide +kernel
theorem dX11_isRing_44 : decode cX11_isRing 44 = .ok (.iload_n 2, 1) := by decide +kernel
theorem dX11_isRing_45 : decode cX11_isRing 45 = .ok (.aload_n 0, 1) := by decide +kernel
theorem dX11_isRing_46 : decode cX11_isRing 46 = .ok (.getfield 58, 3) := by decide +kernel
theorem dX11_isRing_49 : decode cX11_isRing 49 = .ok (.idiv, 1) := by decide +kernel
theorem dX11_isRing_50 : decode cX11_isRing 50 = .ok (.ifCond .eq 18, 3) := by decide +kernel
theorem dX11_isRing_53 : decode cX11_isRing 53 = .ok (.iload_n 2, 1) := by decide +kernel
theorem dX11_isRing_54 : decode cX11_isRing 54 = .ok (.aload_n 0, 1) := by decide +kernel
theorem dX11_isRing_55 : decode cX11_isRing 55 = .ok (.getfield 58, 3) := by decide +kernel
theorem dX11_isRing_58 : decode cX11_isRing 58 = .ok (.idiv, 1) := by decide +kernel
theorem dX11_isRing_59 : decode cX11_isRing 59 = .ok (.aload_n 0, 1) := by decide +kernel
theorem dX11_isRing_60 : decode cX11_isRing 60 = .ok (.getfield 61, 3) := by decide +kernel
theorem dX11_isRing_63 : decode cX11_isRing 63 = .ok (.iconst 1, 1) := by decide +kernel
theorem dX11_isRing_64 : decode cX11_isRing 64 = .ok (.isub, 1) := by decide +kernel
theorem dX11_isRing_65 : decode cX11_isRing 65 = .ok (.if_icmp .ne 5, 3) := by decide +kernel
theorem dX11_isRing_68 : decode cX11_isRing 68 = .ok (.iconst 0, 1) := by decide +kernel
theorem dX11_isRing_69 : decode cX11_isRing 69 = .ok (.ireturn, 1) := by decide +kernel
theorem dX11_isRing_70 : decode cX11_isRing 70 = .ok (.iinc 2 1, 3) := by decide +kernel
theorem dX11_isRing_73 : decode cX11_isRing 73 = .ok (.goto (-71), 3) := by decide +kernel
theorem dX11_isRing_76 : decode cX11_isRing 76 = .ok (.iconst 1, 1) := by decide +kernel
theorem dX11_isRing_77 : decode cX11_isRing 77 = .ok (.ireturn, 1) := by decide +kernel
theorem dX11_gates_0 : decode cX11_gates 0 = .ok (.iconst 0, 1) := by decide +kernel
theorem dX11_gates_1 : decode cX11_gates 1 = .ok (.istore_n 2, 1) := by decide +kernel
theorem dX11_gates_2 : decode cX11_gates 2 = .ok (.iconst 0, 1) := by decide +kernel
theorem dX11_gates_3 : decode cX11_gates 3 = .ok (.istore_n 3, 1) := by decide +kernel
theorem dX11_gates_4 : decode cX11_gates 4 = .ok (.iload_n 3, 1) := by decide +kernel
theorem dX11_gates_5 : decode cX11_gates 5 = .ok (.aload_n 0, 1) := by decide +kernel
theorem dX11_gates_6 : decode cX11_gates 6 = .ok (.invokevirtual 316, 3) := by decide +kernel
theorem dX11_gates_9 : decode cX11_gates 9 = .ok (.if_icmp .ge 127, 3) := by decide +kernel
theorem dX11_gates_12 : decode cX11_gates 12 = .ok (.iconst 0, 1) := by decide +kernel
theorem dX11_gates_13 : decode cX11_gates 13 = .ok (.istore 4, 2) := by decide +kernel
theorem dX11_gates_15 : decode cX11_gates 15 = .ok (.iconst 0, 1) := by decide +kernel
theorem dX11_gates_16 : decode cX11_gates 16 = .ok (.istore 5, 2) := by decide +kernel
theorem dX11_gates_18 : decode cX11_gates 18 = .ok (.iconst 0, 1) := by decide +kernel
theorem dX11_gates_19 : decode cX11_gates 19 = .ok (.istore 6, 2) := by decide +kernel
theorem dX11_gates_21 : decode cX11_gates 21 = .ok (.iload 6, 2) := by decide +kernel
theorem dX11_gates_23 : decode cX11_gates 23 = .ok (.iconst 4, 1) := by decide +kernel
theorem dX11_gates_24 : decode cX11_gates 24 = .ok (.if_icmp .ge 88, 3) := by decide +kernel
theorem dX11_gates_27 : decode cX11_gates 27 = .ok (.aload_n 0, 1) := by decide +kernel
theorem dX11_gates_28 : decode cX11_gates 28 = .ok (.aload_n 0, 1) := by decide +kernel
theorem dX11_gates_29 : decode cX11_gates 29 = .ok (.iload_n 3, 1) := by decide +kernel
theorem dX11_gates_30 : decode cX11_gates 30 = .ok (.invokevirtual 291, 3) := by decide +kernel
theorem dX11_gates_33 : decode cX11_gates 33 = .ok (.iload 6, 2) := by decide +kernel
theorem dX11_gates_35 : decode cX11_gates 35 = .ok (.invokevirtual 294, 3) := by decide +kernel
theorem dX11_gates_38 : decode cX11_gates 38 = .ok (.istore 7, 2) := by decide +kernel
theorem dX11_gates_40 : decode cX11_gates 40 = .ok (.iload 4, 2) := by decide +kernel
theorem dX11_gates_42 : decode cX11_gates 42 = .ok (.ifCond .ne 19, 3) := by decide +kernel
theorem dX11_gates_45 : decode cX11_gates 45 = .ok (.iload 7, 2) := by decide +kernel
theorem dX11_gates_47 : decode cX11_gates 47 = .ok (.ifCond .lt 18, 3) := by decide +kernel
theorem dX11_gates_50 : decode cX11_gates 50 = .ok (.aload_n 0, 1) := by decide +kernel
theorem dX11_gates_51 : decode cX11_gates 51 = .ok (.getfield 46, 3) := by decide +kernel
theorem dX11_gates_54 : decode cX11_gates 54 = .ok (.iload 7, 2) := by decide +kernel
theorem dX11_gates_56 : decode cX11_gates 56 = .ok (.iaload, 1) := by decide +kernel
theorem dX11_gates_57 : decode cX11_gates 57 = .ok (.iload_n 1, 1) := by decide +kernel
theorem dX11_gates_58 : decode cX11_gates 58 = .ok (.if_icmp .ne 7, 3) := by decide +kernel
theorem dX11_gates_61 : decode cX11_gates 61 = .ok (.iconst 1, 1) := by decide +kernel
theorem dX11_gates_62 : decode cX11_gates 62 = .ok (.goto 4, 3) := by decide +kernel
theorem dX11_gates_65 : decode cX11_gates 65 = .ok (.iconst 0, 1) := by decide +kernel
theorem dX11_gates_66 : decode cX11_gates 66 = .ok (.istore 4, 2) := by decide +kernel
theorem dX11_gates_68 : decode cX11_gates 68 = .ok (.iload 5, 2) := by decide +kernel
theorem dX11_gates_70 : decode cX11_gates 70 = .ok (.ifCond .ne 29, 3) := by decide +kernel
theorem dX11_gates_73 : decode cX11_gates 73 = .ok (.iload 7, 2) := by decide +kernel
theorem dX11_gates_75 : decode cX11_gates 75 = .ok (.ifCond .lt 28, 3) := by decide +kernel
theorem dX11_gates_78 : decode cX11_gates 78 = .ok (.aload_n 0, 1) := by decide +kernel
theorem dX11_gates_79 : decode cX11_gates 79 = .ok (.getfield 46, 3) := by decide +kernel
theorem dX11_gates_82 : decode cX11_gates 82 = .ok (.iload 7, 2) := by decide +kernel
theorem dX11_gates_84 : decode cX11_gates 84 = .ok (.iaload, 1) := by decide +kernel
theorem dX11_gates_85 : decode cX11_gates 85 = .ok (.ifCond .lt 18, 3) := by decide +kernel
theorem dX11_gates_88 : decode cX11_gates 88 = .ok (.aload_n 0, 1) := by decide +kernel
theorem dX11_gates_89 : decode cX11_gates 89 = .ok (.getfield 46, 3) := by decide +kernel
theorem dX11_gates_92 : decode cX11_gates 92 = .ok (.iload 7, 2) := by decide +kernel
theorem dX11_gates_94 : decode cX11_gates 94 = .ok (.iaload, 1) := by decide +kernel
theorem dX11_gates_95 : decode cX11_gates 95 = .ok (.iload_n 1, 1) := by decide +kernel
theorem dX11_gates_96 : decode cX11_gates 96 = .ok (.if_icmp .eq 7, 3) := by decide +kernel
theorem dX11_gates_99 : decode cX11_gates 99 = .ok (.iconst 1, 1) := by decide +kernel
theorem dX11_gates_100 : decode cX11_gates 100 = .ok (.goto 4, 3) := by decide +kernel
theorem dX11_gates_103 : decode cX11_gates 103 = .ok (.iconst 0, 1) := by decide +kernel
theorem dX11_gates_104 : decode cX11_gates 104 = .ok (.istore 5, 2) := by decide +kernel
theorem dX11_gates_106 : decode cX11_gates 106 = .ok (.iinc 6 1, 3) := by decide +kernel
theorem dX11_gates_109 : decode cX11_gates 109 = .ok (.goto (-88), 3) := by decide +kernel
theorem dX11_gates_112 : decode cX11_gates 112 = .ok (.iload_n 2, 1) := by decide +kernel
theorem dX11_gates_113 : decode cX11_gates 113 = .ok (.iload 4, 2) := by decide +kernel
theorem dX11_gates_115 : decode cX11_gates 115 = .ok (.ifCond .eq 12, 3) := by decide +kernel
theorem dX11_gates_118 : decode cX11_gates 118 = .ok (.iload 5, 2) := by decide +kernel
theorem dX11_gates_120 : decode cX11_gates 120 = .ok (.ifCond .eq 7, 3) := by decide +kernel
theorem dX11_gates_123 : decode cX11_gates 123 = .ok (.iconst 1, 1) := by decide +kernel
theorem dX11_gates_124 : decode cX11_gates 124 = .ok (.goto 4, 3) := by decide +kernel
theorem dX11_gates_127 : decode cX11_gates 127 = .ok (.iconst 0, 1) := by decide +kernel
theorem dX11_gates_128 : decode cX11_gates 128 = .ok (.iadd, 1) := by decide +kernel
theorem dX11_gates_129 : decode cX11_gates 129 = .ok (.istore_n 2, 1) := by decide +kernel
theorem dX11_gates_130 : decode cX11_gates 130 = .ok (.iinc 3 1, 3) := by decide +kernel
theorem dX11_gates_133 : decode cX11_gates 133 = .ok (.goto (-129), 3) := by decide +kernel
theorem dX11_gates_136 : decode cX11_gates 136 = .ok (.iload_n 2, 1) := by decide +kernel
theorem dX11_gates_137 : decode cX11_gates 137 = .ok (.ireturn, 1) := by decide +kernel
theorem dX11_fields_0 : decode cX11_fields 0 = .ok (.aload_n 0, 1) := by decide +kernel
theorem dX11_fields_1 : decode cX11_fields 1 = .ok (.invokevirtual 337, 3) := by decide +kernel
theorem dX11_fields_4 : decode cX11_fields 4 = .ok (.iconst 0, 1) := by decide +kernel
theorem dX11_fields_5 : decode cX11_fields 5 = .ok (.istore_n 1, 1) := by decide +kernel
theorem dX11_fields_6 : decode cX11_fields 6 = .ok (.iconst 0, 1) := by decide +kernel
theorem dX11_fields_7 : decode cX11_fields 7 = .ok (.istore_n 2, 1) := by decide +kernel
theorem dX11_fields_8 : decode cX11_fields 8 = .ok (.iload_n 2, 1) := by decide +kernel
theorem dX11_fields_9 : decode cX11_fields 9 = .ok (.aload_n 0, 1) := by decide +kernel
theorem dX11_fields_10 : decode cX11_fields 10 = .ok (.getfield 64, 3) := by decide +kernel
theorem dX11_fields_13 : decode cX11_fields 13 = .ok (.if_icmp .ge 27, 3) := by decide +kernel
theorem dX11_fields_16 : decode cX11_fields 16 = .ok (.iload_n 1, 1) := by decide +kernel
theorem dX11_fields_17 : decode cX11_fields 17 = .ok (.aload_n 0, 1) := by decide +kernel
theorem dX11_fields_18 : decode cX11_fields 18 = .ok (.getfield 46, 3) := by decide +kernel
theorem dX11_fields_21 : decode cX11_fields 21 = .ok (.iload_n 2, 1) := by decide +kernel
theorem dX11_fields_22 : decode cX11_fields 22 = .ok (.iaload, 1) := by decide +kernel
theorem dX11_fields_23 : decode cX11_fields 23 = .ok (.iload_n 2, 1) := by decide +kernel
theorem dX11_fields_24 : decode cX11_fields 24 = .ok (.if_icmp .ne 7, 3) := by decide +kernel
theorem dX11_fields_27 : decode cX11_fields 27 = .ok (.iconst 1, 1) := by decide +kernel
theorem dX11_fields_28 : decode cX11_fields 28 = .ok (.goto 4, 3) := by decide +kernel
theorem dX11_fields_31 : decode cX11_fields 31 = .ok (.iconst 0, 1) := by decide +kernel
theorem dX11_fields_32 : decode cX11_fields 32 = .ok (.iadd, 1) := by decide +kernel
theorem dX11_fields_33 : decode cX11_fields 33 = .ok (.istore_n 1, 1) := by decide +kernel
theorem dX11_fields_34 : decode cX11_fields 34 = .ok (.iinc 2 1, 3) := by decide +kernel
theorem dX11_fields_37 : decode cX11_fields 37 = .ok (.goto (-29), 3) := by decide +kernel
theorem dX11_fields_40 : decode cX11_fields 40 = .ok (.iload_n 1, 1) := by decide +kernel
theorem dX11_fields_41 : decode cX11_fields 41 = .ok (.ireturn, 1) := by decide +kernel
theorem dX11_disputed_0 : decode cX11_disputed 0 = .ok (.aload_n 0, 1) := by decide +kernel
theorem dX11_disputed_1 : decode cX11_disputed 1 = .ok (.invokevirtual 337, 3) := by decide +kernel
theorem dX11_disputed_4 : decode cX11_disputed 4 = .ok (.iconst 0, 1) := by decide +kernel
theorem dX11_disputed_5 : decode cX11_disputed 5 = .ok (.istore_n 1, 1) := by decide +kernel
theorem dX11_disputed_6 : decode cX11_disputed 6 = .ok (.iconst 0, 1) := by decide +kernel
theorem dX11_disputed_7 : decode cX11_disputed 7 = .ok (.istore_n 2, 1) := by decide +kernel
theorem dX11_disputed_8 : decode cX11_disputed 8 = .ok (.iload_n 2, 1) := by decide +kernel
theorem dX11_disputed_9 : decode cX11_disputed 9 = .ok (.aload_n 0, 1) := by decide +kernel
theorem dX11_disputed_10 : decode cX11_disputed 10 = .ok (.getfield 64, 3) := by decide +kernel
theorem dX11_disputed_13 : decode cX11_disputed 13 = .ok (.if_icmp .ge 36, 3) := by decide +kernel
theorem dX11_disputed_16 : decode cX11_disputed 16 = .ok (.iload_n 1, 1) := by decide +kernel
theorem dX11_disputed_17 : decode cX11_disputed 17 = .ok (.aload_n 0, 1) := by decide +kernel
theorem dX11_disputed_18 : decode cX11_disputed 18 = .ok (.getfield 46, 3) := by decide +kernel
theorem dX11_disputed_21 : decode cX11_disputed 21 = .ok (.iload_n 2, 1) := by decide +kernel
theorem dX11_disputed_22 : decode cX11_disputed 22 = .ok (.iaload, 1) := by decide +kernel
theorem dX11_disputed_23 : decode cX11_disputed 23 = .ok (.iload_n 2, 1) := by decide +kernel
theorem dX11_disputed_24 : decode cX11_disputed 24 = .ok (.if_icmp .ne 16, 3) := by decide +kernel
theorem dX11_disputed_27 : decode cX11_disputed 27 = .ok (.aload_n 0, 1) := by decide +kernel
theorem dX11_disputed_28 : decode cX11_disputed 28 = .ok (.iload_n 2, 1) := by decide +kernel
theorem dX11_disputed_29 : decode cX11_disputed 29 = .ok (.invokevirtual 334, 3) := by decide +kernel
theorem dX11_disputed_32 : decode cX11_disputed 32 = .ok (.iconst 1, 1) := by decide +kernel
theorem dX11_disputed_33 : decode cX11_disputed 33 = .ok (.if_icmp .le 7, 3) := by decide +kernel
theorem dX11_disputed_36 : decode cX11_disputed 36 = .ok (.iconst 1, 1) := by decide +kernel
theorem dX11_disputed_37 : decode cX11_disputed 37 = .ok (.goto 4, 3) := by decide +kernel
theorem dX11_disputed_40 : decode cX11_disputed 40 = .ok (.iconst 0, 1) := by decide +kernel
theorem dX11_disputed_41 : decode cX11_disputed 41 = .ok (.iadd, 1) := by decide +kernel
theorem dX11_disputed_42 : decode cX11_disputed 42 = .ok (.istore_n 1, 1) := by decide +kernel
theorem dX11_disputed_43 : decode cX11_disputed 43 = .ok (.iinc 2 1, 3) := by decide +kernel
theorem dX11_disputed_46 : decode cX11_disputed 46 = .ok (.goto (-38), 3) := by decide +kernel
theorem dX11_disputed_49 : decode cX11_disputed 49 = .ok (.iload_n 1, 1) := by decide +kernel
theorem dX11_disputed_50 : decode cX11_disputed 50 = .ok (.ireturn, 1) := by decide +kernel
theorem dX11_of_0 : decode cX11_of 0 = .ok (.aload_n 0, 1) := by decide +kernel
theorem dX11_of_1 : decode cX11_of 1 = .ok (.iload_n 1, 1) := by decide +kernel
theorem dX11_of_2 : decode cX11_of 2 = .ok (.invokevirtual 340, 3) := by decide +kernel
theorem dX11_of_5 : decode cX11_of 5 = .ok (.ifCond .eq 12, 3) := by decide +kernel
theorem dX11_of_8 : decode cX11_of 8 = .ok (.iload_n 2, 1) := by decide +kernel
theorem dX11_of_9 : decode cX11_of 9 = .ok (.iconst 0, 1) := by decide +kernel
theorem dX11_of_10 : decode cX11_of 10 = .ok (.iconst 3, 1) := by decide +kernel
theorem dX11_of_11 : decode cX11_of 11 = .ok (.invokestatic 71, 3) := by decide +kernel
theorem dX11_of_14 : decode cX11_of 14 = .ok (.ifCond .ne 7, 3) := by decide +kernel
theorem dX11_of_17 : decode cX11_of 17 = .ok (.ldc_w 343, 3) := by decide +kernel
theorem dX11_of_20 : decode cX11_of 20 = .ok (.ireturn, 1) := by decide +kernel
theorem dX11_of_21 : decode cX11_of 21 = .ok (.iload_n 2, 1) := by decide +kernel
theorem dX11_of_22 : decode cX11_of 22 = .ok (.iconst 3, 1) := by decide +kernel
theorem dX11_of_23 : decode cX11_of 23 = .ok (.if_icmp .ne 11, 3) := by decide +kernel
theorem dX11_of_26 : decode cX11_of 26 = .ok (.aload_n 0, 1) := by decide +kernel
theorem dX11_of_27 : decode cX11_of 27 = .ok (.iload_n 1, 1) := by decide +kernel
theorem dX11_of_28 : decode cX11_of 28 = .ok (.invokevirtual 306, 3) := by decide +kernel
theorem dX11_of_31 : decode cX11_of 31 = .ok (.goto 16, 3) := by decide +kernel
theorem dX11_of_34 : decode cX11_of 34 = .ok (.aload_n 0, 1) := by decide +kernel
theorem dX11_of_35 : decode cX11_of 35 = .ok (.getfield 7, 3) := by decide +kernel
theorem dX11_of_38 : decode cX11_of 38 = .ok (.bipush 10, 2) := by decide +kernel
theorem dX11_of_40 : decode cX11_of 40 = .ok (.iconst 3, 1) := by decide +kernel
theorem dX11_of_41 : decode cX11_of 41 = .ok (.iload_n 1, 1) := by decide +kernel
theorem dX11_of_42 : decode cX11_of 42 = .ok (.imul, 1) := by decide +kernel
theorem dX11_of_43 : decode cX11_of 43 = .ok (.iadd, 1) := by decide +kernel
theorem dX11_of_44 : decode cX11_of 44 = .ok (.iload_n 2, 1) := by decide +kernel
theorem dX11_of_45 : decode cX11_of 45 = .ok (.iadd, 1) := by decide +kernel
theorem dX11_of_46 : decode cX11_of 46 = .ok (.iaload, 1) := by decide +kernel
theorem dX11_of_47 : decode cX11_of 47 = .ok (.ireturn, 1) := by decide +kernel
theorem dX11_cell_0 : decode cX11_cell 0 = .ok (.aload_n 0, 1) := by decide +kernel
theorem dX11_cell_1 : decode cX11_cell 1 = .ok (.iload_n 1, 1) := by decide +kernel
theorem dX11_cell_2 : decode cX11_cell 2 = .ok (.invokevirtual 82, 3) := by decide +kernel
theorem dX11_cell_5 : decode cX11_cell 5 = .ok (.ifCond .ne 6, 3) := by decide +kernel
theorem dX11_cell_8 : decode cX11_cell 8 = .ok (.bipush (-10), 2) := by decide +kernel
theorem dX11_cell_10 : decode cX11_cell 10 = .ok (.ireturn, 1) := by decide +kernel
theorem dX11_cell_11 : decode cX11_cell 11 = .ok (.aload_n 0, 1) := by decide +kernel
theorem dX11_cell_12 : decode cX11_cell 12 = .ok (.invokevirtual 337, 3) := by decide +kernel
theorem dX11_cell_15 : decode cX11_cell 15 = .ok (.aload_n 0, 1) := by decide +kernel
theorem dX11_cell_16 : decode cX11_cell 16 = .ok (.getfield 46, 3) := by decide +kernel
theorem dX11_cell_19 : decode cX11_cell 19 = .ok (.iload_n 1, 1) := by decide +kernel
theorem dX11_cell_20 : decode cX11_cell 20 = .ok (.iaload, 1) := by decide +kernel
theorem dX11_cell_21 : decode cX11_cell 21 = .ok (.ifCond .lt 7, 3) := by decide +kernel
theorem dX11_cell_24 : decode cX11_cell 24 = .ok (.iconst 1, 1) := by decide +kernel
theorem dX11_cell_25 : decode cX11_cell 25 = .ok (.goto 4, 3) := by decide +kernel
theorem dX11_cell_28 : decode cX11_cell 28 = .ok (.iconst 0, 1) := by decide +kernel
theorem dX11_cell_29 : decode cX11_cell 29 = .ok (.istore_n 3, 1) := by decide +kernel
theorem dX11_cell_30 : decode cX11_cell 30 = .ok (.iload_n 2, 1) := by decide +kernel
theorem dX11_cell_31 : decode cX11_cell 31 = .ok (.tableswitch 100 0 4 #[33, 40, 59, 78, 89], 33) := by decide +kernel
theorem dX11_cell_64 : decode cX11_cell 64 = .ok (.aload_n 0, 1) := by decide +kernel
theorem dX11_cell_65 : decode cX11_cell 65 = .ok (.getfield 46, 3) := by decide +kernel
theorem dX11_cell_68 : decode cX11_cell 68 = .ok (.iload_n 1, 1) := by decide +kernel
theorem dX11_cell_69 : decode cX11_cell 69 = .ok (.iaload, 1) := by decide +kernel
theorem dX11_cell_70 : decode cX11_cell 70 = .ok (.ireturn, 1) := by decide +kernel
theorem dX11_cell_71 : decode cX11_cell 71 = .ok (.iload_n 3, 1) := by decide +kernel
theorem dX11_cell_72 : decode cX11_cell 72 = .ok (.ifCond .eq 16, 3) := by decide +kernel
theorem dX11_cell_75 : decode cX11_cell 75 = .ok (.aload_n 0, 1) := by decide +kernel
theorem dX11_cell_76 : decode cX11_cell 76 = .ok (.aload_n 0, 1) := by decide +kernel
theorem dX11_cell_77 : decode cX11_cell 77 = .ok (.getfield 46, 3) := by decide +kernel
theorem dX11_cell_80 : decode cX11_cell 80 = .ok (.iload_n 1, 1) := by decide +kernel
theorem dX11_cell_81 : decode cX11_cell 81 = .ok (.iaload, 1) := by decide +kernel
theorem dX11_cell_82 : decode cX11_cell 82 = .ok (.invokevirtual 331, 3) := by decide +kernel
theorem dX11_cell_85 : decode cX11_cell 85 = .ok (.goto 4, 3) := by decide +kernel
theorem dX11_cell_88 : decode cX11_cell 88 = .ok (.iconst 0, 1) := by decide +kernel
theorem dX11_cell_89 : decode cX11_cell 89 = .ok (.ireturn, 1) := by decide +kernel
theorem dX11_cell_90 : decode cX11_cell 90 = .ok (.iload_n 3, 1) := by decide +kernel
theorem dX11_cell_91 : decode cX11_cell 91 = .ok (.ifCond .eq 16, 3) := by decide +kernel
theorem dX11_cell_94 : decode cX11_cell 94 = .ok (.aload_n 0, 1) := by decide +kernel
theorem dX11_cell_95 : decode cX11_cell 95 = .ok (.aload_n 0, 1) := by decide +kernel
theorem dX11_cell_96 : decode cX11_cell 96 = .ok (.getfield 46, 3) := by decide +kernel
theorem dX11_cell_99 : decode cX11_cell 99 = .ok (.iload_n 1, 1) := by decide +kernel
theorem dX11_cell_100 : decode cX11_cell 100 = .ok (.iaload, 1) := by decide +kernel
theorem dX11_cell_101 : decode cX11_cell 101 = .ok (.invokevirtual 344, 3) := by decide +kernel
theorem dX11_cell_104 : decode cX11_cell 104 = .ok (.goto 4, 3) := by decide +kernel
theorem dX11_cell_107 : decode cX11_cell 107 = .ok (.iconst 0, 1) := by decide +kernel
theorem dX11_cell_108 : decode cX11_cell 108 = .ok (.ireturn, 1) := by decide +kernel
theorem dX11_cell_109 : decode cX11_cell 109 = .ok (.aload_n 0, 1) := by decide +kernel
theorem dX11_cell_110 : decode cX11_cell 110 = .ok (.getfield 7, 3) := by decide +kernel
theorem dX11_cell_113 : decode cX11_cell 113 = .ok (.sipush 240, 3) := by decide +kernel
theorem dX11_cell_116 : decode cX11_cell 116 = .ok (.iload_n 1, 1) := by decide +kernel
theorem dX11_cell_117 : decode cX11_cell 117 = .ok (.iadd, 1) := by decide +kernel
theorem dX11_cell_118 : decode cX11_cell 118 = .ok (.iaload, 1) := by decide +kernel
theorem dX11_cell_119 : decode cX11_cell 119 = .ok (.ireturn, 1) := by decide +kernel
theorem dX11_cell_120 : decode cX11_cell 120 = .ok (.aload_n 0, 1) := by decide +kernel
theorem dX11_cell_121 : decode cX11_cell 121 = .ok (.getfield 7, 3) := by decide +kernel
theorem dX11_cell_124 : decode cX11_cell 124 = .ok (.sipush 190, 3) := by decide +kernel
theorem dX11_cell_127 : decode cX11_cell 127 = .ok (.iload_n 1, 1) := by decide +kernel
theorem dX11_cell_128 : decode cX11_cell 128 = .ok (.iadd, 1) := by decide +kernel
theorem dX11_cell_129 : decode cX11_cell 129 = .ok (.iaload, 1) := by decide +kernel
theorem dX11_cell_130 : decode cX11_cell 130 = .ok (.ireturn, 1) := by decide +kernel
theorem dX11_cell_131 : decode cX11_cell 131 = .ok (.bipush (-10), 2) := by decide +kernel
theorem dX11_cell_133 : decode cX11_cell 133 = .ok (.ireturn, 1) := by decide +kernel
theorem dX11_whoHave_0 : decode cX11_whoHave 0 = .ok (.iconst 0, 1) := by decide +kernel
theorem dX11_whoHave_1 : decode cX11_whoHave 1 = .ok (.istore_n 2, 1) := by decide +kernel
theorem dX11_whoHave_2 : decode cX11_whoHave 2 = .ok (.iconst 0, 1) := by decide +kernel
theorem dX11_whoHave_3 : decode cX11_whoHave 3 = .ok (.istore_n 3, 1) := by decide +kernel
theorem dX11_whoHave_4 : decode cX11_whoHave 4 = .ok (.iload_n 3, 1) := by decide +kernel
theorem dX11_whoHave_5 : decode cX11_whoHave 5 = .ok (.bipush 6, 2) := by decide +kernel
theorem dX11_whoHave_7 : decode cX11_whoHave 7 = .ok (.if_icmp .ge 28, 3) := by decide +kernel
theorem dX11_whoHave_10 : decode cX11_whoHave 10 = .ok (.iload_n 2, 1) := by decide +kernel
theorem dX11_whoHave_11 : decode cX11_whoHave 11 = .ok (.aload_n 0, 1) := by decide +kernel
theorem dX11_whoHave_12 : decode cX11_whoHave 12 = .ok (.iload_n 3, 1) := by decide +kernel
theorem dX11_whoHave_13 : decode cX11_whoHave 13 = .ok (.invokevirtual 328, 3) := by decide +kernel
theorem dX11_whoHave_16 : decode cX11_whoHave 16 = .ok (.iload_n 1, 1) := by decide +kernel
theorem dX11_whoHave_17 : decode cX11_whoHave 17 = .ok (.if_icmp .ne 9, 3) := by decide +kernel
theorem dX11_whoHave_20 : decode cX11_whoHave 20 = .ok (.iconst 1, 1) := by decide +kernel
theorem dX11_whoHave_21 : decode cX11_whoHave 21 = .ok (.iload_n 3, 1) := by decide +kernel
theorem dX11_whoHave_22 : decode cX11_whoHave 22 = .ok (.ishl, 1) := by decide +kernel
theorem dX11_whoHave_23 : decode cX11_whoHave 23 = .ok (.goto 4, 3) := by decide +kernel
theorem dX11_whoHave_26 : decode cX11_whoHave 26 = .ok (.iconst 0, 1) := by decide +kernel
theorem dX11_whoHave_27 : decode cX11_whoHave 27 = .ok (.ior, 1) := by decide +kernel
theorem dX11_whoHave_28 : decode cX11_whoHave 28 = .ok (.istore_n 2, 1) := by decide +kernel
theorem dX11_whoHave_29 : decode cX11_whoHave 29 = .ok (.iinc 3 1, 3) := by decide +kernel
theorem dX11_whoHave_32 : decode cX11_whoHave 32 = .ok (.goto (-28), 3) := by decide +kernel
theorem dX11_whoHave_35 : decode cX11_whoHave 35 = .ok (.iload_n 2, 1) := by decide +kernel
theorem dX11_whoHave_36 : decode cX11_whoHave 36 = .ok (.ireturn, 1) := by decide +kernel
theorem dX11_farmer_0 : decode cX11_farmer 0 = .ok (.iload_n 1, 1) := by decide +kernel
theorem dX11_farmer_1 : decode cX11_farmer 1 = .ok (.invokestatic 88, 3) := by decide +kernel
theorem dX11_farmer_4 : decode cX11_farmer 4 = .ok (.ifCond .ne 6, 3) := by decide +kernel
theorem dX11_farmer_7 : decode cX11_farmer 7 = .ok (.bipush (-10), 2) := by decide +kernel
theorem dX11_farmer_9 : decode cX11_farmer 9 = .ok (.ireturn, 1) := by decide +kernel
theorem dX11_farmer_10 : decode cX11_farmer 10 = .ok (.aload_n 0, 1) := by decide +kernel
theorem dX11_farmer_11 : decode cX11_farmer 11 = .ok (.invokevirtual 337, 3) := by decide +kernel
theorem dX11_farmer_14 : decode cX11_farmer 14 = .ok (.aload_n 0, 1) := by decide +kernel
theorem dX11_farmer_15 : decode cX11_farmer 15 = .ok (.iload_n 1, 1) := by decide +kernel
theorem dX11_farmer_16 : decode cX11_farmer 16 = .ok (.invokevirtual 328, 3) := by decide +kernel
theorem dX11_farmer_19 : decode cX11_farmer 19 = .ok (.istore_n 3, 1) := by decide +kernel
theorem dX11_farmer_20 : decode cX11_farmer 20 = .ok (.iload_n 2, 1) := by decide +kernel
theorem dX11_farmer_21 : decode cX11_farmer 21 = .ok (.tableswitch 111 0 5 #[39, 45, 63, 77, 87, 101], 39) := by decide +kernel
theorem dX11_farmer_60 : decode cX11_farmer 60 = .ok (.aload_n 0, 1) := by decide +kernel
theorem dX11_farmer_61 : decode cX11_farmer 61 = .ok (.iload_n 1, 1) := by decide +kernel
theorem dX11_farmer_62 : decode cX11_farmer 62 = .ok (.invokevirtual 347, 3) := by decide +kernel
theorem dX11_farmer_65 : decode cX11_farmer 65 = .ok (.ireturn, 1) := by decide +kernel
theorem dX11_farmer_66 : decode cX11_farmer 66 = .ok (.iload_n 3, 1) := by decide +kernel
theorem dX11_farmer_67 : decode cX11_farmer 67 = .ok (.ifCond .lt 15, 3) := by decide +kernel
theorem dX11_farmer_70 : decode cX11_farmer 70 = .ok (.aload_n 0, 1) := by decide +kernel
theorem dX11_farmer_71 : decode cX11_farmer 71 = .ok (.iload_n 3, 1) := by decide +kernel
theorem dX11_farmer_72 : decode cX11_farmer 72 = .ok (.invokevirtual 350, 3) := by decide +kernel
theorem dX11_farmer_75 : decode cX11_farmer 75 = .ok (.ifCond .eq 7, 3) := by decide +kernel
theorem dX11_farmer_78 : decode cX11_farmer 78 = .ok (.iconst 1, 1) := by decide +kernel
theorem dX11_farmer_79 : decode cX11_farmer 79 = .ok (.goto 4, 3) := by decide +kernel
theorem dX11_farmer_82 : decode cX11_farmer 82 = .ok (.iconst 0, 1) := by decide +kernel
theorem dX11_farmer_83 : decode cX11_farmer 83 = .ok (.ireturn, 1) := by decide +kernel
theorem dX11_farmer_84 : decode cX11_farmer 84 = .ok (.iload_n 3, 1) := by decide +kernel
theorem dX11_farmer_85 : decode cX11_farmer 85 = .ok (.ifCond .ge 7, 3) := by decide +kernel
theorem dX11_farmer_88 : decode cX11_farmer 88 = .ok (.iconst 0, 1) := by decide +kernel
theorem dX11_farmer_89 : decode cX11_farmer 89 = .ok (.goto 8, 3) := by decide +kernel
theorem dX11_farmer_92 : decode cX11_farmer 92 = .ok (.aload_n 0, 1) := by decide +kernel
theorem dX11_farmer_93 : decode cX11_farmer 93 = .ok (.iload_n 3, 1) := by decide +kernel
theorem dX11_farmer_94 : decode cX11_farmer 94 = .ok (.invokevirtual 353, 3) := by decide +kernel
theorem dX11_farmer_97 : decode cX11_farmer 97 = .ok (.ireturn, 1) := by decide +kernel
theorem dX11_farmer_98 : decode cX11_farmer 98 = .ok (.aload_n 0, 1) := by decide +kernel
theorem dX11_farmer_99 : decode cX11_farmer 99 = .ok (.getfield 7, 3) := by decide +kernel
theorem dX11_farmer_102 : decode cX11_farmer 102 = .ok (.bipush 92, 2) := by decide +kernel
theorem dX11_farmer_104 : decode cX11_farmer 104 = .ok (.iload_n 1, 1) := by decide +kernel
theorem dX11_farmer_105 : decode cX11_farmer 105 = .ok (.iadd, 1) := by decide +kernel
theorem dX11_farmer_106 : decode cX11_farmer 106 = .ok (.iaload, 1) := by decide +kernel
theorem dX11_farmer_107 : decode cX11_farmer 107 = .ok (.ireturn, 1) := by decide +kernel
theorem dX11_farmer_108 : decode cX11_farmer 108 = .ok (.iload_n 3, 1) := by decide +kernel
theorem dX11_farmer_109 : decode cX11_farmer 109 = .ok (.ifCond .ge 7, 3) := by decide +kernel
theorem dX11_farmer_112 : decode cX11_farmer 112 = .ok (.iconst 0, 1) := by decide +kernel
theorem dX11_farmer_113 : decode cX11_farmer 113 = .ok (.goto 8, 3) := by decide +kernel
theorem dX11_farmer_116 : decode cX11_farmer 116 = .ok (.aload_n 0, 1) := by decide +kernel
theorem dX11_farmer_117 : decode cX11_farmer 117 = .ok (.iload_n 3, 1) := by decide +kernel
theorem dX11_farmer_118 : decode cX11_farmer 118 = .ok (.invokevirtual 356, 3) := by decide +kernel
theorem dX11_farmer_121 : decode cX11_farmer 121 = .ok (.ireturn, 1) := by decide +kernel
theorem dX11_farmer_122 : decode cX11_farmer 122 = .ok (.aload_n 0, 1) := by decide +kernel
theorem dX11_farmer_123 : decode cX11_farmer 123 = .ok (.getfield 7, 3) := by decide +kernel
theorem dX11_farmer_126 : decode cX11_farmer 126 = .ok (.bipush 85, 2) := by decide +kernel
theorem dX11_farmer_128 : decode cX11_farmer 128 = .ok (.iload_n 1, 1) := by decide +kernel
theorem dX11_farmer_129 : decode cX11_farmer 129 = .ok (.iadd, 1) := by decide +kernel
theorem dX11_farmer_130 : decode cX11_farmer 130 = .ok (.iaload, 1) := by decide +kernel
theorem dX11_farmer_131 : decode cX11_farmer 131 = .ok (.ireturn, 1) := by decide +kernel
theorem dX11_farmer_132 : decode cX11_farmer 132 = .ok (.bipush (-10), 2) := by decide +kernel
theorem dX11_farmer_134 : decode cX11_farmer 134 = .ok (.ireturn, 1) := by decide +kernel
theorem dX11_sow_0 : decode cX11_sow 0 = .ok (.iload_n 1, 1) := by decide +kernel
theorem dX11_sow_1 : decode cX11_sow 1 = .ok (.invokestatic 88, 3) := by decide +kernel
theorem dX11_sow_4 : decode cX11_sow 4 = .ok (.ifCond .eq 11, 3) := by decide +kernel
theorem dX11_sow_7 : decode cX11_sow 7 = .ok (.aload_n 0, 1) := by decide +kernel
theorem dX11_sow_8 : decode cX11_sow 8 = .ok (.iload_n 2, 1) := by decide +kernel
theorem dX11_sow_9 : decode cX11_sow 9 = .ok (.invokevirtual 82, 3) := by decide +kernel
theorem dX11_sow_12 : decode cX11_sow 12 = .ok (.ifCond .ne 5, 3) := by decide +kernel
theorem dX11_sow_15 : decode cX11_sow 15 = .ok (.iconst 0, 1) := by decide +kernel
theorem dX11_sow_16 : decode cX11_sow 16 = .ok (.ireturn, 1) := by decide +kernel
theorem dX11_sow_17 : decode cX11_sow 17 = .ok (.aload_n 0, 1) := by decide +kernel
theorem dX11_sow_18 : decode cX11_sow 18 = .ok (.invokevirtual 337, 3) := by decide +kernel
theorem dX11_sow_21 : decode cX11_sow 21 = .ok (.aload_n 0, 1) := by decide +kernel
theorem dX11_sow_22 : decode cX11_sow 22 = .ok (.iload_n 1, 1) := by decide +kernel
theorem dX11_sow_23 : decode cX11_sow 23 = .ok (.iload_n 2, 1) := by decide +kernel
theorem dX11_sow_24 : decode cX11_sow 24 = .ok (.invokevirtual 359, 3) := by decide +kernel
theorem dX11_sow_27 : decode cX11_sow 27 = .ok (.ifCond .ne 5, 3) := by decide +kernel
theorem dX11_sow_30 : decode cX11_sow 30 = .ok (.iconst 0, 1) := by decide +kernel
theorem dX11_sow_31 : decode cX11_sow 31 = .ok (.ireturn, 1) := by decide +kernel
theorem dX11_sow_32 : decode cX11_sow 32 = .ok (.aload_n 0, 1) := by decide +kernel
theorem dX11_sow_33 : decode cX11_sow 33 = .ok (.getfield 7, 3) := by decide +kernel
theorem dX11_sow_36 : decode cX11_sow 36 = .ok (.sipush 240, 3) := by decide +kernel
theorem dX11_sow_39 : decode cX11_sow 39 = .ok (.iload_n 2, 1) := by decide +kernel
theorem dX11_sow_40 : decode cX11_sow 40 = .ok (.iadd, 1) := by decide +kernel
theorem dX11_sow_41 : decode cX11_sow 41 = .ok (.aload_n 0, 1) := by decide +kernel
theorem dX11_sow_42 : decode cX11_sow 42 = .ok (.getfield 7, 3) := by decide +kernel
theorem dX11_sow_45 : decode cX11_sow 45 = .ok (.iconst 0, 1) := by decide +kernel
theorem dX11_sow_46 : decode cX11_sow 46 = .ok (.iaload, 1) := by decide +kernel
theorem dX11_sow_47 : decode cX11_sow 47 = .ok (.iastore, 1) := by decide +kernel
theorem dX11_sow_48 : decode cX11_sow 48 = .ok (.iconst 1, 1) := by decide +kernel
theorem dX11_sow_49 : decode cX11_sow 49 = .ok (.ireturn, 1) := by decide +kernel
theorem dX11_cropOf_0 : decode cX11_cropOf 0 = .ok (.aload_n 0, 1) := by decide +kernel
theorem dX11_cropOf_1 : decode cX11_cropOf 1 = .ok (.getfield 7, 3) := by decide +kernel
theorem dX11_cropOf_4 : decode cX11_cropOf 4 = .ok (.iconst 0, 1) := by decide +kernel
theorem dX11_cropOf_5 : decode cX11_cropOf 5 = .ok (.iaload, 1) := by decide +kernel
theorem dX11_cropOf_6 : decode cX11_cropOf 6 = .ok (.aload_n 0, 1) := by decide +kernel
theorem dX11_cropOf_7 : decode cX11_cropOf 7 = .ok (.getfield 7, 3) := by decide +kernel
theorem dX11_cropOf_10 : decode cX11_cropOf 10 = .ok (.sipush 240, 3) := by decide +kernel
theorem dX11_cropOf_13 : decode cX11_cropOf 13 = .ok (.iload_n 1, 1) := by decide +kernel
theorem dX11_cropOf_14 : decode cX11_cropOf 14 = .ok (.iadd, 1) := by decide +kernel
theorem dX11_cropOf_15 : decode cX11_cropOf 15 = .ok (.iaload, 1) := by decide +kernel
theorem dX11_cropOf_16 : decode cX11_cropOf 16 = .ok (.isub, 1) := by decide +kernel
theorem dX11_cropOf_17 : decode cX11_cropOf 17 = .ok (.istore_n 3, 1) := by decide +kernel
theorem dX11_cropOf_18 : decode cX11_cropOf 18 = .ok (.aload_n 0, 1) := by decide +kernel
theorem dX11_cropOf_19 : decode cX11_cropOf 19 = .ok (.iconst 2, 1) := by decide +kernel
theorem dX11_cropOf_20 : decode cX11_cropOf 20 = .ok (.invokevirtual 300, 3) := by decide +kernel
theorem dX11_cropOf_23 : decode cX11_cropOf 23 = .ok (.istore 4, 2) := by decide +kernel
theorem dX11_cropOf_25 : decode cX11_cropOf 25 = .ok (.iload 4, 2) := by decide +kernel
theorem dX11_cropOf_27 : decode cX11_cropOf 27 = .ok (.ifCond .ge 18, 3) := by decide +kernel
theorem dX11_cropOf_30 : decode cX11_cropOf 30 = .ok (.iload_n 3, 1) := by decide +kernel
theorem dX11_cropOf_31 : decode cX11_cropOf 31 = .ok (.sipush 999, 3) := by decide +kernel
theorem dX11_cropOf_34 : decode cX11_cropOf 34 = .ok (.if_icmp .le 9, 3) := by decide +kernel
theorem dX11_cropOf_37 : decode cX11_cropOf 37 = .ok (.sipush 999, 3) := by decide +kernel
theorem dX11_cropOf_40 : decode cX11_cropOf 40 = .ok (.goto 4, 3) := by decide +kernel
theorem dX11_cropOf_43 : decode cX11_cropOf 43 = .ok (.iload_n 3, 1) := by decide +kernel
theorem dX11_cropOf_44 : decode cX11_cropOf 44 = .ok (.ireturn, 1) := by decide +kernel
theorem dX11_cropOf_45 : decode cX11_cropOf 45 = .ok (.aload_n 0, 1) := by decide +kernel
theorem dX11_cropOf_46 : decode cX11_cropOf 46 = .ok (.getfield 29, 3) := by decide +kernel
theorem dX11_cropOf_49 : decode cX11_cropOf 49 = .ok (.bipush 9, 2) := by decide +kernel
theorem dX11_cropOf_51 : decode cX11_cropOf 51 = .ok (.iload_n 3, 1) := by decide +kernel
theorem dX11_cropOf_52 : decode cX11_cropOf 52 = .ok (.iastore, 1) := by decide +kernel
theorem dX11_cropOf_53 : decode cX11_cropOf 53 = .ok (.aload_n 0, 1) := by decide +kernel
theorem dX11_cropOf_54 : decode cX11_cropOf 54 = .ok (.getfield 29, 3) := by decide +kernel
theorem dX11_cropOf_57 : decode cX11_cropOf 57 = .ok (.iconst 3, 1) := by decide +kernel
theorem dX11_cropOf_58 : decode cX11_cropOf 58 = .ok (.iload_n 1, 1) := by decide +kernel
theorem dX11_cropOf_59 : decode cX11_cropOf 59 = .ok (.aload_n 0, 1) := by decide +kernel
theorem dX11_cropOf_60 : decode cX11_cropOf 60 = .ok (.getfield 58, 3) := by decide +kernel
theorem dX11_cropOf_63 : decode cX11_cropOf 63 = .ok (.irem, 1) := by decide +kernel
theorem dX11_cropOf_64 : decode cX11_cropOf 64 = .ok (.iastore, 1) := by decide +kernel
theorem dX11_cropOf_65 : decode cX11_cropOf 65 = .ok (.aload_n 0, 1) := by decide +kernel
theorem dX11_cropOf_66 : decode cX11_cropOf 66 = .ok (.getfield 29, 3) := by decide +kernel
theorem dX11_cropOf_69 : decode cX11_cropOf 69 = .ok (.iconst 4, 1) := by decide +kernel
theorem dX11_cropOf_70 : decode cX11_cropOf 70 = .ok (.iload_n 1, 1) := by decide +kernel
theorem dX11_cropOf_71 : decode cX11_cropOf 71 = .ok (.aload_n 0, 1) := by decide +kernel
theorem dX11_cropOf_72 : decode cX11_cropOf 72 = .ok (.getfield 58, 3) := by decide +kernel
theorem dX11_cropOf_75 : decode cX11_cropOf 75 = .ok (.idiv, 1) := by decide +kernel
theorem dX11_cropOf_76 : decode cX11_cropOf 76 = .ok (.iastore, 1) := by decide +kernel
theorem dX11_cropOf_77 : decode cX11_cropOf 77 = .ok (.aload_n 0, 1) := by decide +kernel
theorem dX11_cropOf_78 : decode cX11_cropOf 78 = .ok (.getfield 29, 3) := by decide +kernel
theorem dX11_cropOf_81 : decode cX11_cropOf 81 = .ok (.bipush 10, 2) := by decide +kernel
theorem dX11_cropOf_83 : decode cX11_cropOf 83 = .ok (.aload_n 0, 1) := by decide +kernel
theorem dX11_cropOf_84 : decode cX11_cropOf 84 = .ok (.iload_n 2, 1) := by decide +kernel
theorem dX11_cropOf_85 : decode cX11_cropOf 85 = .ok (.invokevirtual 331, 3) := by decide +kernel
theorem dX11_cropOf_88 : decode cX11_cropOf 88 = .ok (.iastore, 1) := by decide +kernel
theorem dX11_cropOf_89 : decode cX11_cropOf 89 = .ok (.aload_n 0, 1) := by decide +kernel
theorem dX11_cropOf_90 : decode cX11_cropOf 90 = .ok (.getfield 29, 3) := by decide +kernel
theorem dX11_cropOf_93 : decode cX11_cropOf 93 = .ok (.bipush 11, 2) := by decide +kernel
theorem dX11_cropOf_95 : decode cX11_cropOf 95 = .ok (.aload_n 0, 1) := by decide +kernel
theorem dX11_cropOf_96 : decode cX11_cropOf 96 = .ok (.iload_n 2, 1) := by decide +kernel
theorem dX11_cropOf_97 : decode cX11_cropOf 97 = .ok (.invokevirtual 356, 3) := by decide +kernel
theorem dX11_cropOf_100 : decode cX11_cropOf 100 = .ok (.iastore, 1) := by decide +kernel
theorem dX11_cropOf_101 : decode cX11_cropOf 101 = .ok (.aload_n 0, 1) := by decide +kernel
theorem dX11_cropOf_102 : decode cX11_cropOf 102 = .ok (.iload 4, 2) := by decide +kernel
theorem dX11_cropOf_104 : decode cX11_cropOf 104 = .ok (.invokevirtual 303, 3) := by decide +kernel
theorem dX11_cropOf_107 : decode cX11_cropOf 107 = .ok (.aload_n 0, 1) := by decide +kernel
theorem dX11_cropOf_108 : decode cX11_cropOf 108 = .ok (.getfield 32, 3) := by decide +kernel
theorem dX11_cropOf_111 : decode cX11_cropOf 111 = .ok (.iconst 0, 1) := by decide +kernel
theorem dX11_cropOf_112 : decode cX11_cropOf 112 = .ok (.laload, 1) := by decide +kernel
theorem dX11_cropOf_113 : decode cX11_cropOf 113 = .ok (.iconst 0, 1) := by decide +kernel
theorem dX11_cropOf_114 : decode cX11_cropOf 114 = .ok (.sipush 999, 3) := by decide +kernel
theorem dX11_cropOf_117 : decode cX11_cropOf 117 = .ok (.invokestatic 309, 3) := by decide +kernel
theorem dX11_cropOf_120 : decode cX11_cropOf 120 = .ok (.ireturn, 1) := by decide +kernel
theorem dX11_reap_0 : decode cX11_reap 0 = .ok (.iload_n 1, 1) := by decide +kernel
theorem dX11_reap_1 : decode cX11_reap 1 = .ok (.invokestatic 88, 3) := by decide +kernel
theorem dX11_reap_4 : decode cX11_reap 4 = .ok (.ifCond .eq 11, 3) := by decide +kernel
theorem dX11_reap_7 : decode cX11_reap 7 = .ok (.aload_n 0, 1) := by decide +kernel
theorem dX11_reap_8 : decode cX11_reap 8 = .ok (.iload_n 1, 1) := by decide +kernel
theorem dX11_reap_9 : decode cX11_reap 9 = .ok (.invokevirtual 325, 3) := by decide +kernel
theorem dX11_reap_12 : decode cX11_reap 12 = .ok (.ifCond .ge 5, 3) := by decide +kernel
theorem dX11_reap_15 : decode cX11_reap 15 = .ok (.iconst (-1), 1) := by decide +kernel
theorem dX11_reap_16 : decode cX11_reap 16 = .ok (.ireturn, 1) := by decide +kernel
theorem dX11_reap_17 : decode cX11_reap 17 = .ok (.aload_n 0, 1) := by decide +kernel
theorem dX11_reap_18 : decode cX11_reap 18 = .ok (.invokevirtual 337, 3) := by decide +kernel
theorem dX11_reap_21 : decode cX11_reap 21 = .ok (.aload_n 0, 1) := by decide +kernel
theorem dX11_reap_22 : decode cX11_reap 22 = .ok (.iload_n 1, 1) := by decide +kernel
theorem dX11_reap_23 : decode cX11_reap 23 = .ok (.invokevirtual 328, 3) := by decide +kernel
theorem dX11_reap_26 : decode cX11_reap 26 = .ok (.istore_n 2, 1) := by decide +kernel
theorem dX11_reap_27 : decode cX11_reap 27 = .ok (.aload_n 0, 1) := by decide +kernel
theorem dX11_reap_28 : decode cX11_reap 28 = .ok (.iload_n 2, 1) := by decide +kernel
theorem dX11_reap_29 : decode cX11_reap 29 = .ok (.invokevirtual 334, 3) := by decide +kernel
theorem dX11_reap_32 : decode cX11_reap 32 = .ok (.iconst 1, 1) := by decide +kernel
theorem dX11_reap_33 : decode cX11_reap 33 = .ok (.if_icmp .le 5, 3) := by decide +kernel
theorem dX11_reap_36 : decode cX11_reap 36 = .ok (.iconst (-1), 1) := by decide +kernel
theorem dX11_reap_37 : decode cX11_reap 37 = .ok (.ireturn, 1) := by decide +kernel
theorem dX11_reap_38 : decode cX11_reap 38 = .ok (.iconst 0, 1) := by decide +kernel
theorem dX11_reap_39 : decode cX11_reap 39 = .ok (.istore_n 3, 1) := by decide +kernel
theorem dX11_reap_40 : decode cX11_reap 40 = .ok (.iconst 0, 1) := by decide +kernel
theorem dX11_reap_41 : decode cX11_reap 41 = .ok (.istore 4, 2) := by decide +kernel
theorem dX11_reap_43 : decode cX11_reap 43 = .ok (.iload 4, 2) := by decide +kernel
theorem dX11_reap_45 : decode cX11_reap 45 = .ok (.aload_n 0, 1) := by decide +kernel
theorem dX11_reap_46 : decode cX11_reap 46 = .ok (.getfield 64, 3) := by decide +kernel
theorem dX11_reap_49 : decode cX11_reap 49 = .ok (.if_icmp .ge 59, 3) := by decide +kernel
theorem dX11_reap_52 : decode cX11_reap 52 = .ok (.aload_n 0, 1) := by decide +kernel
theorem dX11_reap_53 : decode cX11_reap 53 = .ok (.getfield 46, 3) := by decide +kernel
theorem dX11_reap_56 : decode cX11_reap 56 = .ok (.iload 4, 2) := by decide +kernel
theorem dX11_reap_58 : decode cX11_reap 58 = .ok (.iaload, 1) := by decide +kernel
theorem dX11_reap_59 : decode cX11_reap 59 = .ok (.iload_n 2, 1) := by decide +kernel
theorem dX11_reap_60 : decode cX11_reap 60 = .ok (.if_icmp .ne 42, 3) := by decide +kernel
theorem dX11_reap_63 : decode cX11_reap 63 = .ok (.aload_n 0, 1) := by decide +kernel
theorem dX11_reap_64 : decode cX11_reap 64 = .ok (.getfield 7, 3) := by decide +kernel
theorem dX11_reap_67 : decode cX11_reap 67 = .ok (.sipush 240, 3) := by decide +kernel
theorem dX11_reap_70 : decode cX11_reap 70 = .ok (.iload 4, 2) := by decide +kernel
theorem dX11_reap_72 : decode cX11_reap 72 = .ok (.iadd, 1) := by decide +kernel
theorem dX11_reap_73 : decode cX11_reap 73 = .ok (.iaload, 1) := by decide +kernel
theorem dX11_reap_74 : decode cX11_reap 74 = .ok (.ifCond .ge 6, 3) := by decide +kernel
theorem dX11_reap_77 : decode cX11_reap 77 = .ok (.goto 25, 3) := by decide +kernel
theorem dX11_reap_80 : decode cX11_reap 80 = .ok (.iload_n 3, 1) := by decide +kernel
theorem dX11_reap_81 : decode cX11_reap 81 = .ok (.aload_n 0, 1) := by decide +kernel
theorem dX11_reap_82 : decode cX11_reap 82 = .ok (.iload 4, 2) := by decide +kernel
theorem dX11_reap_84 : decode cX11_reap 84 = .ok (.iload_n 2, 1) := by decide +kernel
theorem dX11_reap_85 : decode cX11_reap 85 = .ok (.invokevirtual 362, 3) := by decide +kernel
theorem dX11_reap_88 : decode cX11_reap 88 = .ok (.iadd, 1) := by decide +kernel
theorem dX11_reap_89 : decode cX11_reap 89 = .ok (.istore_n 3, 1) := by decide +kernel
theorem dX11_reap_90 : decode cX11_reap 90 = .ok (.aload_n 0, 1) := by decide +kernel
theorem dX11_reap_91 : decode cX11_reap 91 = .ok (.getfield 7, 3) := by decide +kernel
theorem dX11_reap_94 : decode cX11_reap 94 = .ok (.sipush 240, 3) := by decide +kernel
theorem dX11_reap_97 : decode cX11_reap 97 = .ok (.iload 4, 2) := by decide +kernel
theorem dX11_reap_99 : decode cX11_reap 99 = .ok (.iadd, 1) := by decide +kernel
theorem dX11_reap_100 : decode cX11_reap 100 = .ok (.iconst (-1), 1) := by decide +kernel
theorem dX11_reap_101 : decode cX11_reap 101 = .ok (.iastore, 1) := by decide +kernel
theorem dX11_reap_102 : decode cX11_reap 102 = .ok (.iinc 4 1, 3) := by decide +kernel
theorem dX11_reap_105 : decode cX11_reap 105 = .ok (.goto (-62), 3) := by decide +kernel
theorem dX11_reap_108 : decode cX11_reap 108 = .ok (.iload_n 3, 1) := by decide +kernel
theorem dX11_reap_109 : decode cX11_reap 109 = .ok (.ireturn, 1) := by decide +kernel
theorem dX11_stepped_0 : decode cX11_stepped 0 = .ok (.aload_n 0, 1) := by decide +kernel
theorem dX11_stepped_1 : decode cX11_stepped 1 = .ok (.aload_n 0, 1) := by decide +kernel
theorem dX11_stepped_2 : decode cX11_stepped 2 = .ok (.iload_n 1, 1) := by decide +kernel
theorem dX11_stepped_3 : decode cX11_stepped 3 = .ok (.invokevirtual 291, 3) := by decide +kernel
theorem dX11_stepped_6 : decode cX11_stepped 6 = .ok (.iload_n 2, 1) := by decide +kernel
theorem dX11_stepped_7 : decode cX11_stepped 7 = .ok (.invokevirtual 294, 3) := by decide +kernel
theorem dX11_stepped_10 : decode cX11_stepped 10 = .ok (.istore_n 3, 1) := by decide +kernel
theorem dX11_stepped_11 : decode cX11_stepped 11 = .ok (.iload_n 3, 1) := by decide +kernel
theorem dX11_stepped_12 : decode cX11_stepped 12 = .ok (.ifCond .lt 15, 3) := by decide +kernel
theorem dX11_stepped_15 : decode cX11_stepped 15 = .ok (.aload_n 0, 1) := by decide +kernel
theorem dX11_stepped_16 : decode cX11_stepped 16 = .ok (.iload_n 3, 1) := by decide +kernel
theorem dX11_stepped_17 : decode cX11_stepped 17 = .ok (.invokevirtual 85, 3) := by decide +kernel
theorem dX11_stepped_20 : decode cX11_stepped 20 = .ok (.ifCond .eq 7, 3) := by decide +kernel
theorem dX11_stepped_23 : decode cX11_stepped 23 = .ok (.iload_n 3, 1) := by decide +kernel
theorem dX11_stepped_24 : decode cX11_stepped 24 = .ok (.goto 4, 3) := by decide +kernel
theorem dX11_stepped_27 : decode cX11_stepped 27 = .ok (.iconst (-1), 1) := by decide +kernel
theorem dX11_stepped_28 : decode cX11_stepped 28 = .ok (.ireturn, 1) := by decide +kernel
theorem dX11_isFound_0 : decode cX11_isFound 0 = .ok (.aload_n 0, 1) := by decide +kernel
theorem dX11_isFound_1 : decode cX11_isFound 1 = .ok (.iload_n 2, 1) := by decide +kernel
theorem dX11_isFound_2 : decode cX11_isFound 2 = .ok (.invokevirtual 297, 3) := by decide +kernel
theorem dX11_isFound_5 : decode cX11_isFound 5 = .ok (.aload_n 0, 1) := by decide +kernel
theorem dX11_isFound_6 : decode cX11_isFound 6 = .ok (.getfield 29, 3) := by decide +kernel
theorem dX11_isFound_9 : decode cX11_isFound 9 = .ok (.bipush 8, 2) := by decide +kernel
theorem dX11_isFound_11 : decode cX11_isFound 11 = .ok (.aload_n 0, 1) := by decide +kernel
theorem dX11_isFound_12 : decode cX11_isFound 12 = .ok (.getfield 7, 3) := by decide +kernel
theorem dX11_isFound_15 : decode cX11_isFound 15 = .ok (.bipush 92, 2) := by decide +kernel
theorem dX11_isFound_17 : decode cX11_isFound 17 = .ok (.iload_n 1, 1) := by decide +kernel
theorem dX11_isFound_18 : decode cX11_isFound 18 = .ok (.iadd, 1) := by decide +kernel
theorem dX11_isFound_19 : decode cX11_isFound 19 = .ok (.iaload, 1) := by decide +kernel
theorem dX11_isFound_20 : decode cX11_isFound 20 = .ok (.iastore, 1) := by decide +kernel
theorem dX11_isFound_21 : decode cX11_isFound 21 = .ok (.iconst 0, 1) := by decide +kernel
theorem dX11_isFound_22 : decode cX11_isFound 22 = .ok (.istore_n 3, 1) := by decide +kernel
theorem dX11_isFound_23 : decode cX11_isFound 23 = .ok (.iload_n 3, 1) := by decide +kernel
theorem dX11_isFound_24 : decode cX11_isFound 24 = .ok (.aload_n 0, 1) := by decide +kernel
theorem dX11_isFound_25 : decode cX11_isFound 25 = .ok (.invokevirtual 282, 3) := by decide +kernel
theorem dX11_isFound_28 : decode cX11_isFound 28 = .ok (.if_icmp .ge 37, 3) := by decide +kernel
theorem dX11_isFound_31 : decode cX11_isFound 31 = .ok (.aload_n 0, 1) := by decide +kernel
theorem dX11_isFound_32 : decode cX11_isFound 32 = .ok (.iload_n 3, 1) := by decide +kernel
theorem dX11_isFound_33 : decode cX11_isFound 33 = .ok (.invokevirtual 285, 3) := by decide +kernel
theorem dX11_isFound_36 : decode cX11_isFound 36 = .ok (.iconst 3, 1) := by decide +kernel
theorem dX11_isFound_37 : decode cX11_isFound 37 = .ok (.if_icmp .eq 6, 3) := by decide +kernel
theorem dX11_isFound_40 : decode cX11_isFound 40 = .ok (.goto 19, 3) := by decide +kernel
theorem dX11_isFound_43 : decode cX11_isFound 43 = .ok (.aload_n 0, 1) := by decide +kernel
theorem dX11_isFound_44 : decode cX11_isFound 44 = .ok (.iload_n 3, 1) := by decide +kernel
theorem dX11_isFound_45 : decode cX11_isFound 45 = .ok (.invokevirtual 303, 3) := by decide +kernel
theorem dX11_isFound_48 : decode cX11_isFound 48 = .ok (.aload_n 0, 1) := by decide +kernel
theorem dX11_isFound_49 : decode cX11_isFound 49 = .ok (.getfield 36, 3) := by decide +kernel
theorem dX11_isFound_52 : decode cX11_isFound 52 = .ok (.iconst 0, 1) := by decide +kernel
theorem dX11_isFound_53 : decode cX11_isFound 53 = .ok (.baload, 1) := by decide +kernel
theorem dX11_isFound_54 : decode cX11_isFound 54 = .ok (.ifCond .eq 5, 3) := by decide +kernel
theorem dX11_isFound_57 : decode cX11_isFound 57 = .ok (.iconst 1, 1) := by decide +kernel
theorem dX11_isFound_58 : decode cX11_isFound 58 = .ok (.ireturn, 1) := by decide +kernel
theorem dX11_isFound_59 : decode cX11_isFound 59 = .ok (.iinc 3 1, 3) := by decide +kernel
theorem dX11_isFound_62 : decode cX11_isFound 62 = .ok (.goto (-39), 3) := by decide +kernel
theorem dX11_isFound_65 : decode cX11_isFound 65 = .ok (.iconst 0, 1) := by decide +kernel
theorem dX11_isFound_66 : decode cX11_isFound 66 = .ok (.ireturn, 1) := by decide +kernel
theorem dX11_move_0 : decode cX11_move 0 = .ok (.aload_n 0, 1) := by decide +kernel
theorem dX11_move_1 : decode cX11_move 1 = .ok (.iload_n 1, 1) := by decide +kernel
theorem dX11_move_2 : decode cX11_move 2 = .ok (.iload_n 2, 1) := by decide +kernel
theorem dX11_move_3 : decode cX11_move 3 = .ok (.invokevirtual 313, 3) := by decide +kernel
theorem dX11_move_6 : decode cX11_move 6 = .ok (.aload_n 0, 1) := by decide +kernel
theorem dX11_move_7 : decode cX11_move 7 = .ok (.getfield 7, 3) := by decide +kernel
theorem dX11_move_10 : decode cX11_move 10 = .ok (.aload_n 0, 1) := by decide +kernel
theorem dX11_move_11 : decode cX11_move 11 = .ok (.getfield 75, 3) := by decide +kernel
theorem dX11_move_14 : decode cX11_move 14 = .ok (.bipush 10, 2) := by decide +kernel
theorem dX11_move_16 : decode cX11_move 16 = .ok (.iadd, 1) := by decide +kernel
theorem dX11_move_17 : decode cX11_move 17 = .ok (.iconst 3, 1) := by decide +kernel
theorem dX11_move_18 : decode cX11_move 18 = .ok (.iload_n 1, 1) := by decide +kernel
theorem dX11_move_19 : decode cX11_move 19 = .ok (.imul, 1) := by decide +kernel
theorem dX11_move_20 : decode cX11_move 20 = .ok (.iadd, 1) := by decide +kernel
theorem dX11_move_21 : decode cX11_move 21 = .ok (.iconst 2, 1) := by decide +kernel
theorem dX11_move_22 : decode cX11_move 22 = .ok (.iadd, 1) := by decide +kernel
theorem dX11_move_23 : decode cX11_move 23 = .ok (.iconst 0, 1) := by decide +kernel
theorem dX11_move_24 : decode cX11_move 24 = .ok (.iastore, 1) := by decide +kernel
theorem dX11_move_25 : decode cX11_move 25 = .ok (.return_, 1) := by decide +kernel
theorem dX11_night_0 : decode cX11_night 0 = .ok (.iload_n 1, 1) := by decide +kernel
theorem dX11_night_1 : decode cX11_night 1 = .ok (.invokestatic 88, 3) := by decide +kernel
theorem dX11_night_4 : decode cX11_night 4 = .ok (.ifCond .eq 29, 3) := by decide +kernel
theorem dX11_night_7 : decode cX11_night 7 = .ok (.aload_n 0, 1) := by decide +kernel
theorem dX11_night_8 : decode cX11_night 8 = .ok (.iload_n 2, 1) := by decide +kernel
theorem dX11_night_9 : decode cX11_night 9 = .ok (.invokevirtual 340, 3) := by decide +kernel
theorem dX11_night_12 : decode cX11_night 12 = .ok (.ifCond .eq 21, 3) := by decide +kernel
theorem dX11_night_15 : decode cX11_night 15 = .ok (.iload_n 3, 1) := by decide +kernel
theorem dX11_night_16 : decode cX11_night 16 = .ok (.iconst 0, 1) := by decide +kernel
theorem dX11_night_17 : decode cX11_night 17 = .ok (.iconst 3, 1) := by decide +kernel
theorem dX11_night_18 : decode cX11_night 18 = .ok (.invokestatic 71, 3) := by decide +kernel
theorem dX11_night_21 : decode cX11_night 21 = .ok (.ifCond .eq 12, 3) := by decide +kernel
theorem dX11_night_24 : decode cX11_night 24 = .ok (.aload_n 0, 1) := by decide +kernel
theorem dX11_night_25 : decode cX11_night 25 = .ok (.iload_n 2, 1) := by decide +kernel
theorem dX11_night_26 : decode cX11_night 26 = .ok (.iload_n 3, 1) := by decide +kernel
theorem dX11_night_27 : decode cX11_night 27 = .ok (.invokevirtual 365, 3) := by decide +kernel
theorem dX11_night_30 : decode cX11_night 30 = .ok (.ifCond .ge 5, 3) := by decide +kernel
theorem dX11_night_33 : decode cX11_night 33 = .ok (.iconst (-1), 1) := by decide +kernel
theorem dX11_night_34 : decode cX11_night 34 = .ok (.ireturn, 1) := by decide +kernel
theorem dX11_night_35 : decode cX11_night 35 = .ok (.aload_n 0, 1) := by decide +kernel
theorem dX11_night_36 : decode cX11_night 36 = .ok (.iload_n 1, 1) := by decide +kernel
theorem dX11_night_37 : decode cX11_night 37 = .ok (.iload_n 2, 1) := by decide +kernel
theorem dX11_night_38 : decode cX11_night 38 = .ok (.invokevirtual 368, 3) := by decide +kernel
theorem dX11_night_41 : decode cX11_night 41 = .ok (.ifCond .eq 18, 3) := by decide +kernel
theorem dX11_night_44 : decode cX11_night 44 = .ok (.aload_n 0, 1) := by decide +kernel
theorem dX11_night_45 : decode cX11_night 45 = .ok (.getfield 7, 3) := by decide +kernel
theorem dX11_night_48 : decode cX11_night 48 = .ok (.bipush 92, 2) := by decide +kernel
theorem dX11_night_50 : decode cX11_night 50 = .ok (.iload_n 1, 1) := by decide +kernel
theorem dX11_night_51 : decode cX11_night 51 = .ok (.iadd, 1) := by decide +kernel
theorem dX11_night_52 : decode cX11_night 52 = .ok (.dup2, 1) := by decide +kernel
theorem dX11_night_53 : decode cX11_night 53 = .ok (.iaload, 1) := by decide +kernel
theorem dX11_night_54 : decode cX11_night 54 = .ok (.iconst 1, 1) := by decide +kernel
theorem dX11_night_55 : decode cX11_night 55 = .ok (.iadd, 1) := by decide +kernel
theorem dX11_night_56 : decode cX11_night 56 = .ok (.iastore, 1) := by decide +kernel
theorem dX11_night_57 : decode cX11_night 57 = .ok (.iconst 2, 1) := by decide +kernel
theorem dX11_night_58 : decode cX11_night 58 = .ok (.ireturn, 1) := by decide +kernel
theorem dX11_night_59 : decode cX11_night 59 = .ok (.aload_n 0, 1) := by decide +kernel
theorem dX11_night_60 : decode cX11_night 60 = .ok (.iload_n 2, 1) := by decide +kernel
theorem dX11_night_61 : decode cX11_night 61 = .ok (.aload_n 0, 1) := by decide +kernel
theorem dX11_night_62 : decode cX11_night 62 = .ok (.iload_n 2, 1) := by decide +kernel
theorem dX11_night_63 : decode cX11_night 63 = .ok (.iload_n 3, 1) := by decide +kernel
theorem dX11_night_64 : decode cX11_night 64 = .ok (.invokevirtual 365, 3) := by decide +kernel
theorem dX11_night_67 : decode cX11_night 67 = .ok (.invokevirtual 371, 3) := by decide +kernel
theorem dX11_night_70 : decode cX11_night 70 = .ok (.iconst 1, 1) := by decide +kernel
theorem dX11_night_71 : decode cX11_night 71 = .ok (.ireturn, 1) := by decide +kernel
theorem dX11_tries_0 : decode cX11_tries 0 = .ok (.aload_n 0, 1) := by decide +kernel
theorem dX11_tries_1 : decode cX11_tries 1 = .ok (.sipush 340, 3) := by decide +kernel
theorem dX11_tries_4 : decode cX11_tries 4 = .ok (.iload_n 1, 1) := by decide +kernel
theorem dX11_tries_5 : decode cX11_tries 5 = .ok (.imul, 1) := by decide +kernel
theorem dX11_tries_6 : decode cX11_tries 6 = .ok (.putfield 75, 3) := by decide +kernel
theorem dX11_tries_9 : decode cX11_tries 9 = .ok (.return_, 1) := by decide +kernel
theorem dX11_leaf_0 : decode cX11_leaf 0 = .ok (.aload_n 0, 1) := by decide +kernel
theorem dX11_leaf_1 : decode cX11_leaf 1 = .ok (.invokevirtual 337, 3) := by decide +kernel
theorem dX11_leaf_4 : decode cX11_leaf 4 = .ok (.aload_n 0, 1) := by decide +kernel
theorem dX11_leaf_5 : decode cX11_leaf 5 = .ok (.dup, 1) := by decide +kernel
theorem dX11_leaf_6 : decode cX11_leaf 6 = .ok (.getfield 374, 3) := by decide +kernel
theorem dX11_leaf_9 : decode cX11_leaf 9 = .ok (.lload_n 3, 1) := by decide +kernel
theorem dX11_leaf_10 : decode cX11_leaf 10 = .ok (.ladd, 1) := by decide +kernel
theorem dX11_leaf_11 : decode cX11_leaf 11 = .ok (.putfield 374, 3) := by decide +kernel
theorem dX11_leaf_14 : decode cX11_leaf 14 = .ok (.aload_n 0, 1) := by decide +kernel
theorem dX11_leaf_15 : decode cX11_leaf 15 = .ok (.dup, 1) := by decide +kernel
theorem dX11_leaf_16 : decode cX11_leaf 16 = .ok (.getfield 376, 3) := by decide +kernel
theorem dX11_leaf_19 : decode cX11_leaf 19 = .ok (.iload_n 2, 1) := by decide +kernel
theorem dX11_leaf_20 : decode cX11_leaf 20 = .ok (.ifCond .ge 14, 3) := by decide +kernel
theorem dX11_leaf_23 : decode cX11_leaf 23 = .ok (.lload_n 3, 1) := by decide +kernel
theorem dX11_leaf_24 : decode cX11_leaf 24 = .ok (.aload_n 0, 1) := by decide +kernel
theorem dX11_leaf_25 : decode cX11_leaf 25 = .ok (.iload_n 1, 1) := by decide +kernel
theorem dX11_leaf_26 : decode cX11_leaf 26 = .ok (.invokevirtual 347, 3) := by decide +kernel
theorem dX11_leaf_29 : decode cX11_leaf 29 = .ok (.i2l, 1) := by decide +kernel
theorem dX11_leaf_30 : decode cX11_leaf 30 = .ok (.lmul, 1) := by decide +kernel
theorem dX11_leaf_31 : decode cX11_leaf 31 = .ok (.goto 17, 3) := by decide +kernel
theorem dX11_leaf_34 : decode cX11_leaf 34 = .ok (.aload_n 0, 1) := by decide +kernel
theorem dX11_leaf_35 : decode cX11_leaf 35 = .ok (.iload_n 1, 1) := by decide +kernel
theorem dX11_leaf_36 : decode cX11_leaf 36 = .ok (.iload_n 2, 1) := by decide +kernel
theorem dX11_leaf_37 : decode cX11_leaf 37 = .ok (.invokevirtual 359, 3) := by decide +kernel
theorem dX11_leaf_40 : decode cX11_leaf 40 = .ok (.ifCond .eq 7, 3) := by decide +kernel
theorem dX11_leaf_43 : decode cX11_leaf 43 = .ok (.lload_n 3, 1) := by decide +kernel
theorem dX11_leaf_44 : decode cX11_leaf 44 = .ok (.goto 4, 3) := by decide +kernel
theorem dX11_leaf_47 : decode cX11_leaf 47 = .ok (.lconst 0, 1) := by decide +kernel
theorem dX11_leaf_48 : decode cX11_leaf 48 = .ok (.ladd, 1) := by decide +kernel
theorem dX11_leaf_49 : decode cX11_leaf 49 = .ok (.putfield 376, 3) := by decide +kernel
theorem dX11_leaf_52 : decode cX11_leaf 52 = .ok (.return_, 1) := by decide +kernel
theorem dX11_goThrough_0 : decode cX11_goThrough 0 = .ok (.aload_n 0, 1) := by decide +kernel
theorem dX11_goThrough_1 : decode cX11_goThrough 1 = .ok (.lconst 0, 1) := by decide +kernel
theorem dX11_goThrough_2 : decode cX11_goThrough 2 = .ok (.putfield 374, 3) := by decide +kernel
theorem dX11_goThrough_5 : decode cX11_goThrough 5 = .ok (.aload_n 0, 1) := by decide +kernel
theorem dX11_goThrough_6 : decode cX11_goThrough 6 = .ok (.lconst 0, 1) := by decide +kernel
theorem dX11_goThrough_7 : decode cX11_goThrough 7 = .ok (.putfield 376, 3) := by decide +kernel
theorem dX11_goThrough_10 : decode cX11_goThrough 10 = .ok (.aload_n 0, 1) := by decide +kernel
theorem dX11_goThrough_11 : decode cX11_goThrough 11 = .ok (.getfield 52, 3) := by decide +kernel
theorem dX11_goThrough_14 : decode cX11_goThrough 14 = .ok (.iconst 0, 1) := by decide +kernel
theorem dX11_goThrough_15 : decode cX11_goThrough 15 = .ok (.lconst 1, 1) := by decide +kernel
theorem dX11_goThrough_16 : decode cX11_goThrough 16 = .ok (.lastore, 1) := by decide +kernel
theorem dX11_goThrough_17 : decode cX11_goThrough 17 = .ok (.iconst 0, 1) := by decide +kernel
theorem dX11_goThrough_18 : decode cX11_goThrough 18 = .ok (.istore 5, 2) := by decide +kernel
theorem dX11_goThrough_20 : decode cX11_goThrough 20 = .ok (.aload_n 0, 1) := by decide +kernel
theorem dX11_goThrough_21 : decode cX11_goThrough 21 = .ok (.getfield 49, 3) := by decide +kernel
theorem dX11_goThrough_24 : decode cX11_goThrough 24 = .ok (.iconst 0, 1) := by decide +kernel
theorem dX11_goThrough_25 : decode cX11_goThrough 25 = .ok (.iconst (-1), 1) := by decide +kernel
theorem dX11_goThrough_26 : decode cX11_goThrough 26 = .ok (.iastore, 1) := by decide +kernel
theorem dX11_goThrough_27 : decode cX11_goThrough 27 = .ok (.iload 4, 2) := by decide +kernel
theorem dX11_goThrough_29 : decode cX11_goThrough 29 = .ok (.ifCond .ne 18, 3) := by decide +kernel
theorem dX11_goThrough_32 : decode cX11_goThrough 32 = .ok (.aload_n 0, 1) := by decide +kernel
theorem dX11_goThrough_33 : decode cX11_goThrough 33 = .ok (.iload_n 1, 1) := by decide +kernel
theorem dX11_goThrough_34 : decode cX11_goThrough 34 = .ok (.invokevirtual 379, 3) := by decide +kernel
theorem dX11_goThrough_37 : decode cX11_goThrough 37 = .ok (.aload_n 0, 1) := by decide +kernel
theorem dX11_goThrough_38 : decode cX11_goThrough 38 = .ok (.iload_n 2, 1) := by decide +kernel
theorem dX11_goThrough_39 : decode cX11_goThrough 39 = .ok (.iload_n 3, 1) := by decide +kernel
theorem dX11_goThrough_40 : decode cX11_goThrough 40 = .ok (.lconst 1, 1) := by decide +kernel
theorem dX11_goThrough_41 : decode cX11_goThrough 41 = .ok (.invokevirtual 382, 3) := by decide +kernel
theorem dX11_goThrough_44 : decode cX11_goThrough 44 = .ok (.iconst (-1), 1) := by decide +kernel
theorem dX11_goThrough_45 : decode cX11_goThrough 45 = .ok (.istore 5, 2) := by decide +kernel
theorem dX11_goThrough_47 : decode cX11_goThrough 47 = .ok (.iload 5, 2) := by decide +kernel
theorem dX11_goThrough_49 : decode cX11_goThrough 49 = .ok (.ifCond .lt 166, 3) := by decide +kernel
theorem dX11_goThrough_52 : decode cX11_goThrough 52 = .ok (.aload_n 0, 1) := by decide +kernel
theorem dX11_goThrough_53 : decode cX11_goThrough 53 = .ok (.getfield 49, 3) := by decide +kernel
theorem dX11_goThrough_56 : decode cX11_goThrough 56 = .ok (.iload 5, 2) := by decide +kernel
theorem dX11_goThrough_58 : decode cX11_goThrough 58 = .ok (.dup2, 1) := by decide +kernel
theorem dX11_goThrough_59 : decode cX11_goThrough 59 = .ok (.iaload, 1) := by decide +kernel
theorem dX11_goThrough_60 : decode cX11_goThrough 60 = .ok (.iconst 1, 1) := by decide +kernel
theorem dX11_goThrough_61 : decode cX11_goThrough 61 = .ok (.iadd, 1) := by decide +kernel
theorem dX11_goThrough_62 : decode cX11_goThrough 62 = .ok (.iastore, 1) := by decide +kernel
theorem dX11_goThrough_63 : decode cX11_goThrough 63 = .ok (.aload_n 0, 1) := by decide +kernel
theorem dX11_goThrough_64 : decode cX11_goThrough 64 = .ok (.getfield 49, 3) := by decide +kernel
theorem dX11_goThrough_67 : decode cX11_goThrough 67 = .ok (.iload 5, 2) := by decide +kernel
theorem dX11_goThrough_69 : decode cX11_goThrough 69 = .ok (.iaload, 1) := by decide +kernel
theorem dX11_goThrough_70 : decode cX11_goThrough 70 = .ok (.aload_n 0, 1) := by decide +kernel
theorem dX11_goThrough_71 : decode cX11_goThrough 71 = .ok (.getfield 7, 3) := by decide +kernel
theorem dX11_goThrough_74 : decode cX11_goThrough 74 = .ok (.iconst 2, 1) := by decide +kernel
theorem dX11_goThrough_75 : decode cX11_goThrough 75 = .ok (.iaload, 1) := by decide +kernel
theorem dX11_goThrough_76 : decode cX11_goThrough 76 = .ok (.if_icmp .lt 9, 3) := by decide +kernel
theorem dX11_goThrough_79 : decode cX11_goThrough 79 = .ok (.iinc 5 (-1), 3) := by decide +kernel
theorem dX11_goThrough_82 : decode cX11_goThrough 82 = .ok (.goto (-35), 3) := by decide +kernel
theorem dX11_goThrough_85 : decode cX11_goThrough 85 = .ok (.aload_n 0, 1) := by decide +kernel
theorem dX11_goThrough_86 : decode cX11_goThrough 86 = .ok (.getfield 52, 3) := by decide +kernel
theorem dX11_goThrough_89 : decode cX11_goThrough 89 = .ok (.iload 5, 2) := by decide +kernel
theorem dX11_goThrough_91 : decode cX11_goThrough 91 = .ok (.iconst 1, 1) := by decide +kernel
theorem dX11_goThrough_92 : decode cX11_goThrough 92 = .ok (.iadd, 1) := by decide +kernel
theorem dX11_goThrough_93 : decode cX11_goThrough 93 = .ok (.aload_n 0, 1) := by decide +kernel
theorem dX11_goThrough_94 : decode cX11_goThrough 94 = .ok (.getfield 52, 3) := by decide +kernel
theorem dX11_goThrough_97 : decode cX11_goThrough 97 = .ok (.iload 5, 2) := by decide +kernel
theorem dX11_goThrough_99 : decode cX11_goThrough 99 = .ok (.laload, 1) := by decide +kernel
theorem dX11_goThrough_100 : decode cX11_goThrough 100 = .ok (.aload_n 0, 1) := by decide +kernel
theorem dX11_goThrough_101 : decode cX11_goThrough 101 = .ok (.getfield 7, 3) := by decide +kernel
theorem dX11_goThrough_104 : decode cX11_goThrough 104 = .ok (.bipush 100, 2) := by decide +kernel
theorem dX11_goThrough_106 : decode cX11_goThrough 106 = .ok (.iconst 4, 1) := by decide +kernel
theorem dX11_goThrough_107 : decode cX11_goThrough 107 = .ok (.aload_n 0, 1) := by decide +kernel
theorem dX11_goThrough_108 : decode cX11_goThrough 108 = .ok (.getfield 49, 3) := by decide +kernel
theorem dX11_goThrough_111 : decode cX11_goThrough 111 = .ok (.iload 5, 2) := by decide +kernel
theorem dX11_goThrough_113 : decode cX11_goThrough 113 = .ok (.iaload, 1) := by decide +kernel
theorem dX11_goThrough_114 : decode cX11_goThrough 114 = .ok (.imul, 1) := by decide +kernel
theorem dX11_goThrough_115 : decode cX11_goThrough 115 = .ok (.iadd, 1) := by decide +kernel
theorem dX11_goThrough_116 : decode cX11_goThrough 116 = .ok (.iconst 3, 1) := by decide +kernel
theorem dX11_goThrough_117 : decode cX11_goThrough 117 = .ok (.iadd, 1) := by decide +kernel
theorem dX11_goThrough_118 : decode cX11_goThrough 118 = .ok (.iaload, 1) := by decide +kernel
theorem dX11_goThrough_119 : decode cX11_goThrough 119 = .ok (.i2l, 1) := by decide +kernel
theorem dX11_goThrough_120 : decode cX11_goThrough 120 = .ok (.lmul, 1) := by decide +kernel
theorem dX11_goThrough_121 : decode cX11_goThrough 121 = .ok (.lastore, 1) := by decide +kernel
theorem dX11_goThrough_122 : decode cX11_goThrough 122 = .ok (.aload_n 0, 1) := by decide +kernel
theorem dX11_goThrough_123 : decode cX11_goThrough 123 = .ok (.getfield 52, 3) := by decide +kernel
theorem dX11_goThrough_126 : decode cX11_goThrough 126 = .ok (.iload 5, 2) := by decide +kernel
theorem dX11_goThrough_128 : decode cX11_goThrough 128 = .ok (.iconst 1, 1) := by decide +kernel
theorem dX11_goThrough_129 : decode cX11_goThrough 129 = .ok (.iadd, 1) := by decide +kernel
theorem dX11_goThrough_130 : decode cX11_goThrough 130 = .ok (.laload, 1) := by decide +kernel
theorem dX11_goThrough_131 : decode cX11_goThrough 131 = .ok (.lconst 0, 1) := by decide +kernel
theorem dX11_goThrough_132 : decode cX11_goThrough 132 = .ok (.lcmp, 1) := by decide +kernel
theorem dX11_goThrough_133 : decode cX11_goThrough 133 = .ok (.ifCond .ne 6, 3) := by decide +kernel
theorem dX11_goThrough_136 : decode cX11_goThrough 136 = .ok (.goto (-89), 3) := by decide +kernel
theorem dX11_goThrough_139 : decode cX11_goThrough 139 = .ok (.aload_n 0, 1) := by decide +kernel
theorem dX11_goThrough_140 : decode cX11_goThrough 140 = .ok (.iload_n 1, 1) := by decide +kernel
theorem dX11_goThrough_141 : decode cX11_goThrough 141 = .ok (.iload 5, 2) := by decide +kernel
theorem dX11_goThrough_143 : decode cX11_goThrough 143 = .ok (.iadd, 1) := by decide +kernel
theorem dX11_goThrough_144 : decode cX11_goThrough 144 = .ok (.iload_n 1, 1) := by decide +kernel
theorem dX11_goThrough_145 : decode cX11_goThrough 145 = .ok (.iload 5, 2) := by decide +kernel
theorem dX11_goThrough_147 : decode cX11_goThrough 147 = .ok (.iadd, 1) := by decide +kernel
theorem dX11_goThrough_148 : decode cX11_goThrough 148 = .ok (.iconst 1, 1) := by decide +kernel
theorem dX11_goThrough_149 : decode cX11_goThrough 149 = .ok (.iadd, 1) := by decide +kernel
theorem dX11_goThrough_150 : decode cX11_goThrough 150 = .ok (.invokevirtual 67, 3) := by decide +kernel
theorem dX11_goThrough_153 : decode cX11_goThrough 153 = .ok (.aload_n 0, 1) := by decide +kernel
theorem dX11_goThrough_154 : decode cX11_goThrough 154 = .ok (.iload_n 1, 1) := by decide +kernel
theorem dX11_goThrough_155 : decode cX11_goThrough 155 = .ok (.iload 5, 2) := by decide +kernel
theorem dX11_goThrough_157 : decode cX11_goThrough 157 = .ok (.iadd, 1) := by decide +kernel
theorem dX11_goThrough_158 : decode cX11_goThrough 158 = .ok (.iconst 1, 1) := by decide +kernel
theorem dX11_goThrough_159 : decode cX11_goThrough 159 = .ok (.iadd, 1) := by decide +kernel
theorem dX11_goThrough_160 : decode cX11_goThrough 160 = .ok (.invokevirtual 379, 3) := by decide +kernel
theorem dX11_goThrough_163 : decode cX11_goThrough 163 = .ok (.aload_n 0, 1) := by decide +kernel
theorem dX11_goThrough_164 : decode cX11_goThrough 164 = .ok (.aload_n 0, 1) := by decide +kernel
theorem dX11_goThrough_165 : decode cX11_goThrough 165 = .ok (.getfield 49, 3) := by decide +kernel
theorem dX11_goThrough_168 : decode cX11_goThrough 168 = .ok (.iload 5, 2) := by decide +kernel
theorem dX11_goThrough_170 : decode cX11_goThrough 170 = .ok (.iaload, 1) := by decide +kernel
theorem dX11_goThrough_171 : decode cX11_goThrough 171 = .ok (.invokevirtual 322, 3) := by decide +kernel
theorem dX11_goThrough_174 : decode cX11_goThrough 174 = .ok (.istore 6, 2) := by decide +kernel
theorem dX11_goThrough_176 : decode cX11_goThrough 176 = .ok (.iload 5, 2) := by decide +kernel
theorem dX11_goThrough_178 : decode cX11_goThrough 178 = .ok (.iconst 1, 1) := by decide +kernel
theorem dX11_goThrough_179 : decode cX11_goThrough 179 = .ok (.iadd, 1) := by decide +kernel
theorem dX11_goThrough_180 : decode cX11_goThrough 180 = .ok (.iload 4, 2) := by decide +kernel
theorem dX11_goThrough_182 : decode cX11_goThrough 182 = .ok (.if_icmp .ne 19, 3) := by decide +kernel
theorem dX11_goThrough_185 : decode cX11_goThrough 185 = .ok (.aload_n 0, 1) := by decide +kernel
theorem dX11_goThrough_186 : decode cX11_goThrough 186 = .ok (.iload_n 2, 1) := by decide +kernel
theorem dX11_goThrough_187 : decode cX11_goThrough 187 = .ok (.iload_n 3, 1) := by decide +kernel
theorem dX11_goThrough_188 : decode cX11_goThrough 188 = .ok (.aload_n 0, 1) := by decide +kernel
theorem dX11_goThrough_189 : decode cX11_goThrough 189 = .ok (.getfield 52, 3) := by decide +kernel
theorem dX11_goThrough_192 : decode cX11_goThrough 192 = .ok (.iload 4, 2) := by decide +kernel
theorem dX11_goThrough_194 : decode cX11_goThrough 194 = .ok (.laload, 1) := by decide +kernel
theorem dX11_goThrough_195 : decode cX11_goThrough 195 = .ok (.invokevirtual 382, 3) := by decide +kernel
theorem dX11_goThrough_198 : decode cX11_goThrough 198 = .ok (.goto 14, 3) := by decide +kernel
theorem dX11_goThrough_201 : decode cX11_goThrough 201 = .ok (.iinc 5 1, 3) := by decide +kernel
theorem dX11_goThrough_204 : decode cX11_goThrough 204 = .ok (.aload_n 0, 1) := by decide +kernel
theorem dX11_goThrough_205 : decode cX11_goThrough 205 = .ok (.getfield 49, 3) := by decide +kernel
theorem dX11_goThrough_208 : decode cX11_goThrough 208 = .ok (.iload 5, 2) := by decide +kernel
theorem dX11_goThrough_210 : decode cX11_goThrough 210 = .ok (.iconst (-1), 1) := by decide +kernel
theorem dX11_goThrough_211 : decode cX11_goThrough 211 = .ok (.iastore, 1) := by decide +kernel
theorem dX11_goThrough_212 : decode cX11_goThrough 212 = .ok (.goto (-165), 3) := by decide +kernel
theorem dX11_goThrough_215 : decode cX11_goThrough 215 = .ok (.aload_n 0, 1) := by decide +kernel
theorem dX11_goThrough_216 : decode cX11_goThrough 216 = .ok (.iconst 0, 1) := by decide +kernel
theorem dX11_goThrough_217 : decode cX11_goThrough 217 = .ok (.invokevirtual 379, 3) := by decide +kernel
theorem dX11_goThrough_220 : decode cX11_goThrough 220 = .ok (.return_, 1) := by decide +kernel
theorem dX11_meanOf_0 : decode cX11_meanOf 0 = .ok (.aload_n 0, 1) := by decide +kernel
theorem dX11_meanOf_1 : decode cX11_meanOf 1 = .ok (.iload_n 1, 1) := by decide +kernel
theorem dX11_meanOf_2 : decode cX11_meanOf 2 = .ok (.iload_n 2, 1) := by decide +kernel
theorem dX11_meanOf_3 : decode cX11_meanOf 3 = .ok (.iconst (-1), 1) := by decide +kernel
theorem dX11_meanOf_4 : decode cX11_meanOf 4 = .ok (.iload_n 3, 1) := by decide +kernel
theorem dX11_meanOf_5 : decode cX11_meanOf 5 = .ok (.invokevirtual 386, 3) := by decide +kernel
theorem dX11_meanOf_8 : decode cX11_meanOf 8 = .ok (.aload_n 0, 1) := by decide +kernel
theorem dX11_meanOf_9 : decode cX11_meanOf 9 = .ok (.getfield 374, 3) := by decide +kernel
theorem dX11_meanOf_12 : decode cX11_meanOf 12 = .ok (.lconst 0, 1) := by decide +kernel
theorem dX11_meanOf_13 : decode cX11_meanOf 13 = .ok (.lcmp, 1) := by decide +kernel
theorem dX11_meanOf_14 : decode cX11_meanOf 14 = .ok (.ifCond .ne 7, 3) := by decide +kernel
theorem dX11_meanOf_17 : decode cX11_meanOf 17 = .ok (.iconst 0, 1) := by decide +kernel
theorem dX11_meanOf_18 : decode cX11_meanOf 18 = .ok (.goto 17, 3) := by decide +kernel
theorem dX11_meanOf_21 : decode cX11_meanOf 21 = .ok (.ldc2_w 390, 3) := by decide +kernel
theorem dX11_meanOf_24 : decode cX11_meanOf 24 = .ok (.aload_n 0, 1) := by decide +kernel
theorem dX11_meanOf_25 : decode cX11_meanOf 25 = .ok (.getfield 376, 3) := by decide +kernel
theorem dX11_meanOf_28 : decode cX11_meanOf 28 = .ok (.lmul, 1) := by decide +kernel
theorem dX11_meanOf_29 : decode cX11_meanOf 29 = .ok (.aload_n 0, 1) := by decide +kernel
theorem dX11_meanOf_30 : decode cX11_meanOf 30 = .ok (.getfield 374, 3) := by decide +kernel
theorem dX11_meanOf_33 : decode cX11_meanOf 33 = .ok (.ldiv, 1) := by decide +kernel
theorem dX11_meanOf_34 : decode cX11_meanOf 34 = .ok (.l2i, 1) := by decide +kernel
theorem dX11_meanOf_35 : decode cX11_meanOf 35 = .ok (.ireturn, 1) := by decide +kernel
theorem dX11_odds_0 : decode cX11_odds 0 = .ok (.iload_n 1, 1) := by decide +kernel
theorem dX11_odds_1 : decode cX11_odds 1 = .ok (.invokestatic 88, 3) := by decide +kernel
theorem dX11_odds_4 : decode cX11_odds 4 = .ok (.ifCond .eq 25, 3) := by decide +kernel
theorem dX11_odds_7 : decode cX11_odds 7 = .ok (.iload_n 2, 1) := by decide +kernel
theorem dX11_odds_8 : decode cX11_odds 8 = .ok (.iconst (-1), 1) := by decide +kernel
theorem dX11_odds_9 : decode cX11_odds 9 = .ok (.if_icmp .eq 11, 3) := by decide +kernel
theorem dX11_odds_12 : decode cX11_odds 12 = .ok (.aload_n 0, 1) := by decide +kernel
theorem dX11_odds_13 : decode cX11_odds 13 = .ok (.iload_n 2, 1) := by decide +kernel
theorem dX11_odds_14 : decode cX11_odds 14 = .ok (.invokevirtual 82, 3) := by decide +kernel
theorem dX11_odds_17 : decode cX11_odds 17 = .ok (.ifCond .eq 12, 3) := by decide +kernel
theorem dX11_odds_20 : decode cX11_odds 20 = .ok (.iload_n 3, 1) := by decide +kernel
theorem dX11_odds_21 : decode cX11_odds 21 = .ok (.iconst 0, 1) := by decide +kernel
theorem dX11_odds_22 : decode cX11_odds 22 = .ok (.iconst 4, 1) := by decide +kernel
theorem dX11_odds_23 : decode cX11_odds 23 = .ok (.invokestatic 71, 3) := by decide +kernel
theorem dX11_odds_26 : decode cX11_odds 26 = .ok (.ifCond .ne 5, 3) := by decide +kernel
theorem dX11_odds_29 : decode cX11_odds 29 = .ok (.iconst (-1), 1) := by decide +kernel
theorem dX11_odds_30 : decode cX11_odds 30 = .ok (.ireturn, 1) := by decide +kernel
theorem dX11_odds_31 : decode cX11_odds 31 = .ok (.aload_n 0, 1) := by decide +kernel
theorem dX11_odds_32 : decode cX11_odds 32 = .ok (.iconst 0, 1) := by decide +kernel
theorem dX11_odds_33 : decode cX11_odds 33 = .ok (.iconst 2, 1) := by decide +kernel
theorem dX11_odds_34 : decode cX11_odds 34 = .ok (.invokevirtual 67, 3) := by decide +kernel
theorem dX11_odds_37 : decode cX11_odds 37 = .ok (.aload_n 0, 1) := by decide +kernel
theorem dX11_odds_38 : decode cX11_odds 38 = .ok (.iconst 2, 1) := by decide +kernel
theorem dX11_odds_39 : decode cX11_odds 39 = .ok (.iload_n 1, 1) := by decide +kernel
theorem dX11_odds_40 : decode cX11_odds 40 = .ok (.iload_n 2, 1) := by decide +kernel
theorem dX11_odds_41 : decode cX11_odds 41 = .ok (.iload_n 3, 1) := by decide +kernel
theorem dX11_odds_42 : decode cX11_odds 42 = .ok (.invokevirtual 386, 3) := by decide +kernel
theorem dX11_odds_45 : decode cX11_odds 45 = .ok (.iload_n 2, 1) := by decide +kernel
theorem dX11_odds_46 : decode cX11_odds 46 = .ok (.ifCond .ge 10, 3) := by decide +kernel
theorem dX11_odds_49 : decode cX11_odds 49 = .ok (.aload_n 0, 1) := by decide +kernel
theorem dX11_odds_50 : decode cX11_odds 50 = .ok (.getfield 374, 3) := by decide +kernel
theorem dX11_odds_53 : decode cX11_odds 53 = .ok (.goto 7, 3) := by decide +kernel
theorem dX11_odds_56 : decode cX11_odds 56 = .ok (.aload_n 0, 1) := by decide +kernel
theorem dX11_odds_57 : decode cX11_odds 57 = .ok (.getfield 376, 3) := by decide +kernel
theorem dX11_odds_60 : decode cX11_odds 60 = .ok (.l2i, 1) := by decide +kernel
theorem dX11_odds_61 : decode cX11_odds 61 = .ok (.ireturn, 1) := by decide +kernel
theorem dX11_mean_0 : decode cX11_mean 0 = .ok (.iload_n 1, 1) := by decide +kernel
theorem dX11_mean_1 : decode cX11_mean 1 = .ok (.invokestatic 88, 3) := by decide +kernel
theorem dX11_mean_4 : decode cX11_mean 4 = .ok (.ifCond .eq 12, 3) := by decide +kernel
theorem dX11_mean_7 : decode cX11_mean 7 = .ok (.iload_n 2, 1) := by decide +kernel
theorem dX11_mean_8 : decode cX11_mean 8 = .ok (.iconst 0, 1) := by decide +kernel
theorem dX11_mean_9 : decode cX11_mean 9 = .ok (.iconst 4, 1) := by decide +kernel
theorem dX11_mean_10 : decode cX11_mean 10 = .ok (.invokestatic 71, 3) := by decide +kernel
theorem dX11_mean_13 : decode cX11_mean 13 = .ok (.ifCond .ne 5, 3) := by decide +kernel
theorem dX11_mean_16 : decode cX11_mean 16 = .ok (.iconst (-1), 1) := by decide +kernel
theorem dX11_mean_17 : decode cX11_mean 17 = .ok (.ireturn, 1) := by decide +kernel
theorem dX11_mean_18 : decode cX11_mean 18 = .ok (.aload_n 0, 1) := by decide +kernel
theorem dX11_mean_19 : decode cX11_mean 19 = .ok (.iconst 0, 1) := by decide +kernel
theorem dX11_mean_20 : decode cX11_mean 20 = .ok (.iconst 2, 1) := by decide +kernel
theorem dX11_mean_21 : decode cX11_mean 21 = .ok (.invokevirtual 67, 3) := by decide +kernel
theorem dX11_mean_24 : decode cX11_mean 24 = .ok (.aload_n 0, 1) := by decide +kernel
theorem dX11_mean_25 : decode cX11_mean 25 = .ok (.iconst 2, 1) := by decide +kernel
theorem dX11_mean_26 : decode cX11_mean 26 = .ok (.iload_n 1, 1) := by decide +kernel
theorem dX11_mean_27 : decode cX11_mean 27 = .ok (.iload_n 2, 1) := by decide +kernel
theorem dX11_mean_28 : decode cX11_mean 28 = .ok (.invokevirtual 392, 3) := by decide +kernel
theorem dX11_mean_31 : decode cX11_mean 31 = .ok (.ireturn, 1) := by decide +kernel
theorem dX11_best_0 : decode cX11_best 0 = .ok (.iload_n 1, 1) := by decide +kernel
theorem dX11_best_1 : decode cX11_best 1 = .ok (.invokestatic 88, 3) := by decide +kernel
theorem dX11_best_4 : decode cX11_best 4 = .ok (.ifCond .eq 21, 3) := by decide +kernel
theorem dX11_best_7 : decode cX11_best 7 = .ok (.iload_n 2, 1) := by decide +kernel
theorem dX11_best_8 : decode cX11_best 8 = .ok (.iconst 0, 1) := by decide +kernel
theorem dX11_best_9 : decode cX11_best 9 = .ok (.iconst 2, 1) := by decide +kernel
theorem dX11_best_10 : decode cX11_best 10 = .ok (.invokestatic 71, 3) := by decide +kernel
theorem dX11_best_13 : decode cX11_best 13 = .ok (.ifCond .eq 12, 3) := by decide +kernel
theorem dX11_best_16 : decode cX11_best 16 = .ok (.iload_n 3, 1) := by decide +kernel
theorem dX11_best_17 : decode cX11_best 17 = .ok (.iconst 0, 1) := by decide +kernel
theorem dX11_best_18 : decode cX11_best 18 = .ok (.iconst 2, 1) := by decide +kernel
theorem dX11_best_19 : decode cX11_best 19 = .ok (.invokestatic 71, 3) := by decide +kernel
theorem dX11_best_22 : decode cX11_best 22 = .ok (.ifCond .ne 5, 3) := by decide +kernel
theorem dX11_best_25 : decode cX11_best 25 = .ok (.iconst (-1), 1) := by decide +kernel
theorem dX11_best_26 : decode cX11_best 26 = .ok (.ireturn, 1) := by decide +kernel
theorem dX11_best_27 : decode cX11_best 27 = .ok (.aload_n 0, 1) := by decide +kernel
theorem dX11_best_28 : decode cX11_best 28 = .ok (.iconst 0, 1) := by decide +kernel
theorem dX11_best_29 : decode cX11_best 29 = .ok (.iconst 2, 1) := by decide +kernel
theorem dX11_best_30 : decode cX11_best 30 = .ok (.invokevirtual 67, 3) := by decide +kernel
theorem dX11_best_33 : decode cX11_best 33 = .ok (.aload_n 0, 1) := by decide +kernel
theorem dX11_best_34 : decode cX11_best 34 = .ok (.iconst 2, 1) := by decide +kernel
theorem dX11_best_35 : decode cX11_best 35 = .ok (.iload_n 1, 1) := by decide +kernel
theorem dX11_best_36 : decode cX11_best 36 = .ok (.iload_n 2, 1) := by decide +kernel
theorem dX11_best_37 : decode cX11_best 37 = .ok (.invokevirtual 392, 3) := by decide +kernel
theorem dX11_best_40 : decode cX11_best 40 = .ok (.istore 4, 2) := by decide +kernel
theorem dX11_best_42 : decode cX11_best 42 = .ok (.iconst (-1), 1) := by decide +kernel
theorem dX11_best_43 : decode cX11_best 43 = .ok (.istore 5, 2) := by decide +kernel
theorem dX11_best_45 : decode cX11_best 45 = .ok (.iconst (-1), 1) := by decide +kernel
theorem dX11_best_46 : decode cX11_best 46 = .ok (.istore 6, 2) := by decide +kernel
theorem dX11_best_48 : decode cX11_best 48 = .ok (.iconst 0, 1) := by decide +kernel
theorem dX11_best_49 : decode cX11_best 49 = .ok (.istore 7, 2) := by decide +kernel
theorem dX11_best_51 : decode cX11_best 51 = .ok (.iload 7, 2) := by decide +kernel
theorem dX11_best_53 : decode cX11_best 53 = .ok (.aload_n 0, 1) := by decide +kernel
theorem dX11_best_54 : decode cX11_best 54 = .ok (.getfield 7, 3) := by decide +kernel
theorem dX11_best_57 : decode cX11_best 57 = .ok (.iconst 1, 1) := by decide +kernel
theorem dX11_best_58 : decode cX11_best 58 = .ok (.iaload, 1) := by decide +kernel
theorem dX11_best_59 : decode cX11_best 59 = .ok (.if_icmp .ge 92, 3) := by decide +kernel
theorem dX11_best_62 : decode cX11_best 62 = .ok (.iconst 0, 1) := by decide +kernel
theorem dX11_best_63 : decode cX11_best 63 = .ok (.istore 8, 2) := by decide +kernel
theorem dX11_best_65 : decode cX11_best 65 = .ok (.iload 8, 2) := by decide +kernel
theorem dX11_best_67 : decode cX11_best 67 = .ok (.iconst 4, 1) := by decide +kernel
theorem dX11_best_68 : decode cX11_best 68 = .ok (.if_icmp .ge 77, 3) := by decide +kernel
theorem dX11_best_71 : decode cX11_best 71 = .ok (.aload_n 0, 1) := by decide +kernel
theorem dX11_best_72 : decode cX11_best 72 = .ok (.iload 7, 2) := by decide +kernel
theorem dX11_best_74 : decode cX11_best 74 = .ok (.iload 8, 2) := by decide +kernel
theorem dX11_best_76 : decode cX11_best 76 = .ok (.invokevirtual 365, 3) := by decide +kernel
theorem dX11_best_79 : decode cX11_best 79 = .ok (.istore 9, 2) := by decide +kernel
theorem dX11_best_81 : decode cX11_best 81 = .ok (.iload 9, 2) := by decide +kernel
theorem dX11_best_83 : decode cX11_best 83 = .ok (.ifCond .ge 6, 3) := by decide +kernel
theorem dX11_best_86 : decode cX11_best 86 = .ok (.goto 53, 3) := by decide +kernel
theorem dX11_best_89 : decode cX11_best 89 = .ok (.aload_n 0, 1) := by decide +kernel
theorem dX11_best_90 : decode cX11_best 90 = .ok (.iconst 0, 1) := by decide +kernel
theorem dX11_best_91 : decode cX11_best 91 = .ok (.iconst 2, 1) := by decide +kernel
theorem dX11_best_92 : decode cX11_best 92 = .ok (.invokevirtual 67, 3) := by decide +kernel
theorem dX11_best_95 : decode cX11_best 95 = .ok (.aload_n 0, 1) := by decide +kernel
theorem dX11_best_96 : decode cX11_best 96 = .ok (.iconst 2, 1) := by decide +kernel
theorem dX11_best_97 : decode cX11_best 97 = .ok (.invokevirtual 379, 3) := by decide +kernel
theorem dX11_best_100 : decode cX11_best 100 = .ok (.aload_n 0, 1) := by decide +kernel
theorem dX11_best_101 : decode cX11_best 101 = .ok (.iload 7, 2) := by decide +kernel
theorem dX11_best_103 : decode cX11_best 103 = .ok (.iload 9, 2) := by decide +kernel
theorem dX11_best_105 : decode cX11_best 105 = .ok (.invokevirtual 371, 3) := by decide +kernel
theorem dX11_best_108 : decode cX11_best 108 = .ok (.aload_n 0, 1) := by decide +kernel
theorem dX11_best_109 : decode cX11_best 109 = .ok (.iconst 2, 1) := by decide +kernel
theorem dX11_best_110 : decode cX11_best 110 = .ok (.iload_n 1, 1) := by decide +kernel
theorem dX11_best_111 : decode cX11_best 111 = .ok (.iload_n 2, 1) := by decide +kernel
theorem dX11_best_112 : decode cX11_best 112 = .ok (.invokevirtual 392, 3) := by decide +kernel
theorem dX11_best_115 : decode cX11_best 115 = .ok (.istore 10, 2) := by decide +kernel
theorem dX11_best_117 : decode cX11_best 117 = .ok (.iload 10, 2) := by decide +kernel
theorem dX11_best_119 : decode cX11_best 119 = .ok (.iload 4, 2) := by decide +kernel
theorem dX11_best_121 : decode cX11_best 121 = .ok (.if_icmp .gt 6, 3) := by decide +kernel
theorem dX11_best_124 : decode cX11_best 124 = .ok (.goto 15, 3) := by decide +kernel
theorem dX11_best_127 : decode cX11_best 127 = .ok (.iload 10, 2) := by decide +kernel
theorem dX11_best_129 : decode cX11_best 129 = .ok (.istore 4, 2) := by decide +kernel
theorem dX11_best_131 : decode cX11_best 131 = .ok (.iload 7, 2) := by decide +kernel
theorem dX11_best_133 : decode cX11_best 133 = .ok (.istore 5, 2) := by decide +kernel
theorem dX11_best_135 : decode cX11_best 135 = .ok (.iload 8, 2) := by decide +kernel
theorem dX11_best_137 : decode cX11_best 137 = .ok (.istore 6, 2) := by decide +kernel
theorem dX11_best_139 : decode cX11_best 139 = .ok (.iinc 8 1, 3) := by decide +kernel
