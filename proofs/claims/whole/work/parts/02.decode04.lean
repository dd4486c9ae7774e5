theorem dX7_nextToken_311 : decode cX7_nextToken 311 = .ok (.bipush 48, 2) := by decide +kernel
theorem dX7_nextToken_313 : decode cX7_nextToken 313 = .ok (.isub, 1) := by decide +kernel
theorem dX7_nextToken_314 : decode cX7_nextToken 314 = .ok (.goto 7, 3) := by decide +kernel
theorem dX7_nextToken_317 : decode cX7_nextToken 317 = .ok (.aload_n 0, 1) := by decide +kernel
theorem dX7_nextToken_318 : decode cX7_nextToken 318 = .ok (.getfield 101, 3) := by decide +kernel
theorem dX7_nextToken_321 : decode cX7_nextToken 321 = .ok (.putfield 101, 3) := by decide +kernel
theorem dX7_nextToken_324 : decode cX7_nextToken 324 = .ok (.aload_n 0, 1) := by decide +kernel
theorem dX7_nextToken_325 : decode cX7_nextToken 325 = .ok (.dup, 1) := by decide +kernel
theorem dX7_nextToken_326 : decode cX7_nextToken 326 = .ok (.getfield 98, 3) := by decide +kernel
theorem dX7_nextToken_329 : decode cX7_nextToken 329 = .ok (.iconst 1, 1) := by decide +kernel
theorem dX7_nextToken_330 : decode cX7_nextToken 330 = .ok (.iadd, 1) := by decide +kernel
theorem dX7_nextToken_331 : decode cX7_nextToken 331 = .ok (.putfield 98, 3) := by decide +kernel
theorem dX7_nextToken_334 : decode cX7_nextToken 334 = .ok (.aload_n 0, 1) := by decide +kernel
theorem dX7_nextToken_335 : decode cX7_nextToken 335 = .ok (.dup, 1) := by decide +kernel
theorem dX7_nextToken_336 : decode cX7_nextToken 336 = .ok (.getfield 92, 3) := by decide +kernel
theorem dX7_nextToken_339 : decode cX7_nextToken 339 = .ok (.iconst 1, 1) := by decide +kernel
theorem dX7_nextToken_340 : decode cX7_nextToken 340 = .ok (.iadd, 1) := by decide +kernel
theorem dX7_nextToken_341 : decode cX7_nextToken 341 = .ok (.putfield 92, 3) := by decide +kernel
theorem dX7_nextToken_344 : decode cX7_nextToken 344 = .ok (.goto (-89), 3) := by decide +kernel
theorem dX7_nextToken_347 : decode cX7_nextToken 347 = .ok (.aload_n 0, 1) := by decide +kernel
theorem dX7_nextToken_348 : decode cX7_nextToken 348 = .ok (.aload_n 0, 1) := by decide +kernel
theorem dX7_nextToken_349 : decode cX7_nextToken 349 = .ok (.getfield 98, 3) := by decide +kernel
theorem dX7_nextToken_352 : decode cX7_nextToken 352 = .ok (.iconst 3, 1) := by decide +kernel
theorem dX7_nextToken_353 : decode cX7_nextToken 353 = .ok (.if_icmp .le 9, 3) := by decide +kernel
theorem dX7_nextToken_356 : decode cX7_nextToken 356 = .ok (.ldc2_w 114, 3) := by decide +kernel
theorem dX7_nextToken_359 : decode cX7_nextToken 359 = .ok (.goto 6, 3) := by decide +kernel
theorem dX7_nextToken_362 : decode cX7_nextToken 362 = .ok (.ldc2_w 116, 3) := by decide +kernel
theorem dX7_nextToken_365 : decode cX7_nextToken 365 = .ok (.putfield 106, 3) := by decide +kernel
theorem dX7_nextToken_368 : decode cX7_nextToken 368 = .ok (.goto 40, 3) := by decide +kernel
theorem dX7_nextToken_371 : decode cX7_nextToken 371 = .ok (.aload_n 0, 1) := by decide +kernel
theorem dX7_nextToken_372 : decode cX7_nextToken 372 = .ok (.aload_n 0, 1) := by decide +kernel
theorem dX7_nextToken_373 : decode cX7_nextToken 373 = .ok (.getfield 19, 3) := by decide +kernel
theorem dX7_nextToken_376 : decode cX7_nextToken 376 = .ok (.aload_n 0, 1) := by decide +kernel
theorem dX7_nextToken_377 : decode cX7_nextToken 377 = .ok (.getfield 92, 3) := by decide +kernel
theorem dX7_nextToken_380 : decode cX7_nextToken 380 = .ok (.iaload, 1) := by decide +kernel
theorem dX7_nextToken_381 : decode cX7_nextToken 381 = .ok (.bipush 59, 2) := by decide +kernel
theorem dX7_nextToken_383 : decode cX7_nextToken 383 = .ok (.if_icmp .ne 9, 3) := by decide +kernel
theorem dX7_nextToken_386 : decode cX7_nextToken 386 = .ok (.ldc2_w 118, 3) := by decide +kernel
theorem dX7_nextToken_389 : decode cX7_nextToken 389 = .ok (.goto 6, 3) := by decide +kernel
theorem dX7_nextToken_392 : decode cX7_nextToken 392 = .ok (.ldc2_w 114, 3) := by decide +kernel
theorem dX7_nextToken_395 : decode cX7_nextToken 395 = .ok (.putfield 106, 3) := by decide +kernel
theorem dX7_nextToken_398 : decode cX7_nextToken 398 = .ok (.aload_n 0, 1) := by decide +kernel
theorem dX7_nextToken_399 : decode cX7_nextToken 399 = .ok (.dup, 1) := by decide +kernel
theorem dX7_nextToken_400 : decode cX7_nextToken 400 = .ok (.getfield 92, 3) := by decide +kernel
theorem dX7_nextToken_403 : decode cX7_nextToken 403 = .ok (.iconst 1, 1) := by decide +kernel
theorem dX7_nextToken_404 : decode cX7_nextToken 404 = .ok (.iadd, 1) := by decide +kernel
theorem dX7_nextToken_405 : decode cX7_nextToken 405 = .ok (.putfield 92, 3) := by decide +kernel
theorem dX7_nextToken_408 : decode cX7_nextToken 408 = .ok (.return_, 1) := by decide +kernel
theorem dX7_fails_0 : decode cX7_fails 0 = .ok (.aload_n 0, 1) := by decide +kernel
theorem dX7_fails_1 : decode cX7_fails 1 = .ok (.iload_n 1, 1) := by decide +kernel
theorem dX7_fails_2 : decode cX7_fails 2 = .ok (.putfield 120, 3) := by decide +kernel
theorem dX7_fails_5 : decode cX7_fails 5 = .ok (.iconst 0, 1) := by decide +kernel
theorem dX7_fails_6 : decode cX7_fails 6 = .ok (.ireturn, 1) := by decide +kernel
theorem dX7_isNext_0 : decode cX7_isNext 0 = .ok (.aload_n 0, 1) := by decide +kernel
theorem dX7_isNext_1 : decode cX7_isNext 1 = .ok (.invokevirtual 123, 3) := by decide +kernel
theorem dX7_isNext_4 : decode cX7_isNext 4 = .ok (.aload_n 0, 1) := by decide +kernel
theorem dX7_isNext_5 : decode cX7_isNext 5 = .ok (.getfield 106, 3) := by decide +kernel
theorem dX7_isNext_8 : decode cX7_isNext 8 = .ok (.ldc2_w 116, 3) := by decide +kernel
theorem dX7_isNext_11 : decode cX7_isNext 11 = .ok (.lcmp, 1) := by decide +kernel
theorem dX7_isNext_12 : decode cX7_isNext 12 = .ok (.ifCond .eq 9, 3) := by decide +kernel
theorem dX7_isNext_15 : decode cX7_isNext 15 = .ok (.aload_n 0, 1) := by decide +kernel
theorem dX7_isNext_16 : decode cX7_isNext 16 = .ok (.iconst 1, 1) := by decide +kernel
theorem dX7_isNext_17 : decode cX7_isNext 17 = .ok (.invokevirtual 126, 3) := by decide +kernel
theorem dX7_isNext_20 : decode cX7_isNext 20 = .ok (.ireturn, 1) := by decide +kernel
theorem dX7_isNext_21 : decode cX7_isNext 21 = .ok (.aload_n 0, 1) := by decide +kernel
theorem dX7_isNext_22 : decode cX7_isNext 22 = .ok (.getfield 101, 3) := by decide +kernel
theorem dX7_isNext_25 : decode cX7_isNext 25 = .ok (.iload_n 1, 1) := by decide +kernel
theorem dX7_isNext_26 : decode cX7_isNext 26 = .ok (.iload_n 2, 1) := by decide +kernel
theorem dX7_isNext_27 : decode cX7_isNext 27 = .ok (.invokestatic 67, 3) := by decide +kernel
theorem dX7_isNext_30 : decode cX7_isNext 30 = .ok (.ifCond .ne 11, 3) := by decide +kernel
theorem dX7_isNext_33 : decode cX7_isNext 33 = .ok (.aload_n 0, 1) := by decide +kernel
theorem dX7_isNext_34 : decode cX7_isNext 34 = .ok (.iconst 2, 1) := by decide +kernel
theorem dX7_isNext_35 : decode cX7_isNext 35 = .ok (.invokevirtual 126, 3) := by decide +kernel
theorem dX7_isNext_38 : decode cX7_isNext 38 = .ok (.ifCond .eq 7, 3) := by decide +kernel
theorem dX7_isNext_41 : decode cX7_isNext 41 = .ok (.iconst 1, 1) := by decide +kernel
theorem dX7_isNext_42 : decode cX7_isNext 42 = .ok (.goto 4, 3) := by decide +kernel
theorem dX7_isNext_45 : decode cX7_isNext 45 = .ok (.iconst 0, 1) := by decide +kernel
theorem dX7_isNext_46 : decode cX7_isNext 46 = .ok (.ireturn, 1) := by decide +kernel
theorem dX7_ends_0 : decode cX7_ends 0 = .ok (.aload_n 0, 1) := by decide +kernel
theorem dX7_ends_1 : decode cX7_ends 1 = .ok (.invokevirtual 123, 3) := by decide +kernel
theorem dX7_ends_4 : decode cX7_ends 4 = .ok (.aload_n 0, 1) := by decide +kernel
theorem dX7_ends_5 : decode cX7_ends 5 = .ok (.getfield 106, 3) := by decide +kernel
theorem dX7_ends_8 : decode cX7_ends 8 = .ok (.ldc2_w 118, 3) := by decide +kernel
theorem dX7_ends_11 : decode cX7_ends 11 = .ok (.lcmp, 1) := by decide +kernel
theorem dX7_ends_12 : decode cX7_ends 12 = .ok (.ifCond .eq 11, 3) := by decide +kernel
theorem dX7_ends_15 : decode cX7_ends 15 = .ok (.aload_n 0, 1) := by decide +kernel
theorem dX7_ends_16 : decode cX7_ends 16 = .ok (.iconst 1, 1) := by decide +kernel
theorem dX7_ends_17 : decode cX7_ends 17 = .ok (.invokevirtual 126, 3) := by decide +kernel
theorem dX7_ends_20 : decode cX7_ends 20 = .ok (.ifCond .eq 7, 3) := by decide +kernel
theorem dX7_ends_23 : decode cX7_ends 23 = .ok (.iconst 1, 1) := by decide +kernel
theorem dX7_ends_24 : decode cX7_ends 24 = .ok (.goto 4, 3) := by decide +kernel
theorem dX7_ends_27 : decode cX7_ends 27 = .ok (.iconst 0, 1) := by decide +kernel
theorem dX7_ends_28 : decode cX7_ends 28 = .ok (.ireturn, 1) := by decide +kernel
theorem dX7_isBuyer_0 : decode cX7_isBuyer 0 = .ok (.aload_n 0, 1) := by decide +kernel
theorem dX7_isBuyer_1 : decode cX7_isBuyer 1 = .ok (.getfield 129, 3) := by decide +kernel
theorem dX7_isBuyer_4 : decode cX7_isBuyer 4 = .ok (.iconst 4, 1) := by decide +kernel
theorem dX7_isBuyer_5 : decode cX7_isBuyer 5 = .ok (.if_icmp .ne 9, 3) := by decide +kernel
theorem dX7_isBuyer_8 : decode cX7_isBuyer 8 = .ok (.aload_n 0, 1) := by decide +kernel
theorem dX7_isBuyer_9 : decode cX7_isBuyer 9 = .ok (.iconst 3, 1) := by decide +kernel
theorem dX7_isBuyer_10 : decode cX7_isBuyer 10 = .ok (.invokevirtual 126, 3) := by decide +kernel
theorem dX7_isBuyer_13 : decode cX7_isBuyer 13 = .ok (.ireturn, 1) := by decide +kernel
theorem dX7_isBuyer_14 : decode cX7_isBuyer 14 = .ok (.aload_n 0, 1) := by decide +kernel
theorem dX7_isBuyer_15 : decode cX7_isBuyer 15 = .ok (.iconst 0, 1) := by decide +kernel
theorem dX7_isBuyer_16 : decode cX7_isBuyer 16 = .ok (.iconst 5, 1) := by decide +kernel
theorem dX7_isBuyer_17 : decode cX7_isBuyer 17 = .ok (.invokevirtual 132, 3) := by decide +kernel
theorem dX7_isBuyer_20 : decode cX7_isBuyer 20 = .ok (.ifCond .ne 5, 3) := by decide +kernel
theorem dX7_isBuyer_23 : decode cX7_isBuyer 23 = .ok (.iconst 0, 1) := by decide +kernel
theorem dX7_isBuyer_24 : decode cX7_isBuyer 24 = .ok (.ireturn, 1) := by decide +kernel
theorem dX7_isBuyer_25 : decode cX7_isBuyer 25 = .ok (.aload_n 0, 1) := by decide +kernel
theorem dX7_isBuyer_26 : decode cX7_isBuyer 26 = .ok (.getfield 22, 3) := by decide +kernel
theorem dX7_isBuyer_29 : decode cX7_isBuyer 29 = .ok (.iconst 2, 1) := by decide +kernel
theorem dX7_isBuyer_30 : decode cX7_isBuyer 30 = .ok (.aload_n 0, 1) := by decide +kernel
theorem dX7_isBuyer_31 : decode cX7_isBuyer 31 = .ok (.getfield 129, 3) := by decide +kernel
theorem dX7_isBuyer_34 : decode cX7_isBuyer 34 = .ok (.imul, 1) := by decide +kernel
theorem dX7_isBuyer_35 : decode cX7_isBuyer 35 = .ok (.aload_n 0, 1) := by decide +kernel
theorem dX7_isBuyer_36 : decode cX7_isBuyer 36 = .ok (.getfield 101, 3) := by decide +kernel
theorem dX7_isBuyer_39 : decode cX7_isBuyer 39 = .ok (.iastore, 1) := by decide +kernel
theorem dX7_isBuyer_40 : decode cX7_isBuyer 40 = .ok (.aload_n 0, 1) := by decide +kernel
theorem dX7_isBuyer_41 : decode cX7_isBuyer 41 = .ok (.iconst 0, 1) := by decide +kernel
theorem dX7_isBuyer_42 : decode cX7_isBuyer 42 = .ok (.sipush 200, 3) := by decide +kernel
theorem dX7_isBuyer_45 : decode cX7_isBuyer 45 = .ok (.invokevirtual 132, 3) := by decide +kernel
theorem dX7_isBuyer_48 : decode cX7_isBuyer 48 = .ok (.ifCond .ne 5, 3) := by decide +kernel
theorem dX7_isBuyer_51 : decode cX7_isBuyer 51 = .ok (.iconst 0, 1) := by decide +kernel
theorem dX7_isBuyer_52 : decode cX7_isBuyer 52 = .ok (.ireturn, 1) := by decide +kernel
theorem dX7_isBuyer_53 : decode cX7_isBuyer 53 = .ok (.aload_n 0, 1) := by decide +kernel
theorem dX7_isBuyer_54 : decode cX7_isBuyer 54 = .ok (.getfield 22, 3) := by decide +kernel
theorem dX7_isBuyer_57 : decode cX7_isBuyer 57 = .ok (.iconst 2, 1) := by decide +kernel
theorem dX7_isBuyer_58 : decode cX7_isBuyer 58 = .ok (.aload_n 0, 1) := by decide +kernel
theorem dX7_isBuyer_59 : decode cX7_isBuyer 59 = .ok (.getfield 129, 3) := by decide +kernel
theorem dX7_isBuyer_62 : decode cX7_isBuyer 62 = .ok (.imul, 1) := by decide +kernel
theorem dX7_isBuyer_63 : decode cX7_isBuyer 63 = .ok (.iconst 1, 1) := by decide +kernel
theorem dX7_isBuyer_64 : decode cX7_isBuyer 64 = .ok (.iadd, 1) := by decide +kernel
theorem dX7_isBuyer_65 : decode cX7_isBuyer 65 = .ok (.aload_n 0, 1) := by decide +kernel
theorem dX7_isBuyer_66 : decode cX7_isBuyer 66 = .ok (.getfield 101, 3) := by decide +kernel
theorem dX7_isBuyer_69 : decode cX7_isBuyer 69 = .ok (.iastore, 1) := by decide +kernel
theorem dX7_isBuyer_70 : decode cX7_isBuyer 70 = .ok (.aload_n 0, 1) := by decide +kernel
theorem dX7_isBuyer_71 : decode cX7_isBuyer 71 = .ok (.dup, 1) := by decide +kernel
theorem dX7_isBuyer_72 : decode cX7_isBuyer 72 = .ok (.getfield 129, 3) := by decide +kernel
theorem dX7_isBuyer_75 : decode cX7_isBuyer 75 = .ok (.iconst 1, 1) := by decide +kernel
theorem dX7_isBuyer_76 : decode cX7_isBuyer 76 = .ok (.iadd, 1) := by decide +kernel
theorem dX7_isBuyer_77 : decode cX7_isBuyer 77 = .ok (.putfield 129, 3) := by decide +kernel
theorem dX7_isBuyer_80 : decode cX7_isBuyer 80 = .ok (.aload_n 0, 1) := by decide +kernel
theorem dX7_isBuyer_81 : decode cX7_isBuyer 81 = .ok (.invokevirtual 136, 3) := by decide +kernel
theorem dX7_isBuyer_84 : decode cX7_isBuyer 84 = .ok (.ireturn, 1) := by decide +kernel
theorem dX7_isWare_0 : decode cX7_isWare 0 = .ok (.aload_n 0, 1) := by decide +kernel
theorem dX7_isWare_1 : decode cX7_isWare 1 = .ok (.getfield 140, 3) := by decide +kernel
theorem dX7_isWare_4 : decode cX7_isWare 4 = .ok (.bipush 10, 2) := by decide +kernel
theorem dX7_isWare_6 : decode cX7_isWare 6 = .ok (.if_icmp .ne 9, 3) := by decide +kernel
theorem dX7_isWare_9 : decode cX7_isWare 9 = .ok (.aload_n 0, 1) := by decide +kernel
theorem dX7_isWare_10 : decode cX7_isWare 10 = .ok (.iconst 3, 1) := by decide +kernel
theorem dX7_isWare_11 : decode cX7_isWare 11 = .ok (.invokevirtual 126, 3) := by decide +kernel
theorem dX7_isWare_14 : decode cX7_isWare 14 = .ok (.ireturn, 1) := by decide +kernel
theorem dX7_isWare_15 : decode cX7_isWare 15 = .ok (.aload_n 0, 1) := by decide +kernel
theorem dX7_isWare_16 : decode cX7_isWare 16 = .ok (.invokevirtual 123, 3) := by decide +kernel
theorem dX7_isWare_19 : decode cX7_isWare 19 = .ok (.aload_n 0, 1) := by decide +kernel
theorem dX7_isWare_20 : decode cX7_isWare 20 = .ok (.getfield 106, 3) := by decide +kernel
theorem dX7_isWare_23 : decode cX7_isWare 23 = .ok (.ldc2_w 143, 3) := by decide +kernel
theorem dX7_isWare_26 : decode cX7_isWare 26 = .ok (.lcmp, 1) := by decide +kernel
theorem dX7_isWare_27 : decode cX7_isWare 27 = .ok (.ifCond .ne 7, 3) := by decide +kernel
theorem dX7_isWare_30 : decode cX7_isWare 30 = .ok (.iconst 1, 1) := by decide +kernel
theorem dX7_isWare_31 : decode cX7_isWare 31 = .ok (.goto 64, 3) := by decide +kernel
theorem dX7_isWare_34 : decode cX7_isWare 34 = .ok (.aload_n 0, 1) := by decide +kernel
theorem dX7_isWare_35 : decode cX7_isWare 35 = .ok (.getfield 106, 3) := by decide +kernel
theorem dX7_isWare_38 : decode cX7_isWare 38 = .ok (.ldc2_w 145, 3) := by decide +kernel
theorem dX7_isWare_41 : decode cX7_isWare 41 = .ok (.lcmp, 1) := by decide +kernel
theorem dX7_isWare_42 : decode cX7_isWare 42 = .ok (.ifCond .ne 7, 3) := by decide +kernel
theorem dX7_isWare_45 : decode cX7_isWare 45 = .ok (.iconst 2, 1) := by decide +kernel
theorem dX7_isWare_46 : decode cX7_isWare 46 = .ok (.goto 49, 3) := by decide +kernel
theorem dX7_isWare_49 : decode cX7_isWare 49 = .ok (.aload_n 0, 1) := by decide +kernel
theorem dX7_isWare_50 : decode cX7_isWare 50 = .ok (.getfield 106, 3) := by decide +kernel
theorem dX7_isWare_53 : decode cX7_isWare 53 = .ok (.ldc2_w 147, 3) := by decide +kernel
theorem dX7_isWare_56 : decode cX7_isWare 56 = .ok (.lcmp, 1) := by decide +kernel
theorem dX7_isWare_57 : decode cX7_isWare 57 = .ok (.ifCond .ne 7, 3) := by decide +kernel
theorem dX7_isWare_60 : decode cX7_isWare 60 = .ok (.iconst 3, 1) := by decide +kernel
theorem dX7_isWare_61 : decode cX7_isWare 61 = .ok (.goto 34, 3) := by decide +kernel
theorem dX7_isWare_64 : decode cX7_isWare 64 = .ok (.aload_n 0, 1) := by decide +kernel
theorem dX7_isWare_65 : decode cX7_isWare 65 = .ok (.getfield 106, 3) := by decide +kernel
theorem dX7_isWare_68 : decode cX7_isWare 68 = .ok (.ldc2_w 149, 3) := by decide +kernel
theorem dX7_isWare_71 : decode cX7_isWare 71 = .ok (.lcmp, 1) := by decide +kernel
theorem dX7_isWare_72 : decode cX7_isWare 72 = .ok (.ifCond .ne 7, 3) := by decide +kernel
theorem dX7_isWare_75 : decode cX7_isWare 75 = .ok (.iconst 4, 1) := by decide +kernel
theorem dX7_isWare_76 : decode cX7_isWare 76 = .ok (.goto 19, 3) := by decide +kernel
theorem dX7_isWare_79 : decode cX7_isWare 79 = .ok (.aload_n 0, 1) := by decide +kernel
theorem dX7_isWare_80 : decode cX7_isWare 80 = .ok (.getfield 106, 3) := by decide +kernel
theorem dX7_isWare_83 : decode cX7_isWare 83 = .ok (.ldc2_w 151, 3) := by decide +kernel
theorem dX7_isWare_86 : decode cX7_isWare 86 = .ok (.lcmp, 1) := by decide +kernel
theorem dX7_isWare_87 : decode cX7_isWare 87 = .ok (.ifCond .ne 7, 3) := by decide +kernel
theorem dX7_isWare_90 : decode cX7_isWare 90 = .ok (.iconst 5, 1) := by decide +kernel
theorem dX7_isWare_91 : decode cX7_isWare 91 = .ok (.goto 4, 3) := by decide +kernel
theorem dX7_isWare_94 : decode cX7_isWare 94 = .ok (.iconst 0, 1) := by decide +kernel
theorem dX7_isWare_95 : decode cX7_isWare 95 = .ok (.istore_n 1, 1) := by decide +kernel
theorem dX7_isWare_96 : decode cX7_isWare 96 = .ok (.iload_n 1, 1) := by decide +kernel
theorem dX7_isWare_97 : decode cX7_isWare 97 = .ok (.ifCond .ne 9, 3) := by decide +kernel
theorem dX7_isWare_100 : decode cX7_isWare 100 = .ok (.aload_n 0, 1) := by decide +kernel
theorem dX7_isWare_101 : decode cX7_isWare 101 = .ok (.iconst 1, 1) := by decide +kernel
theorem dX7_isWare_102 : decode cX7_isWare 102 = .ok (.invokevirtual 126, 3) := by decide +kernel
theorem dX7_isWare_105 : decode cX7_isWare 105 = .ok (.ireturn, 1) := by decide +kernel
theorem dX7_isWare_106 : decode cX7_isWare 106 = .ok (.aload_n 0, 1) := by decide +kernel
theorem dX7_isWare_107 : decode cX7_isWare 107 = .ok (.getfield 25, 3) := by decide +kernel
theorem dX7_isWare_110 : decode cX7_isWare 110 = .ok (.iconst 3, 1) := by decide +kernel
theorem dX7_isWare_111 : decode cX7_isWare 111 = .ok (.aload_n 0, 1) := by decide +kernel
theorem dX7_isWare_112 : decode cX7_isWare 112 = .ok (.getfield 140, 3) := by decide +kernel
theorem dX7_isWare_115 : decode cX7_isWare 115 = .ok (.imul, 1) := by decide +kernel
theorem dX7_isWare_116 : decode cX7_isWare 116 = .ok (.iload_n 1, 1) := by decide +kernel
theorem dX7_isWare_117 : decode cX7_isWare 117 = .ok (.iastore, 1) := by decide +kernel
theorem dX7_isWare_118 : decode cX7_isWare 118 = .ok (.aload_n 0, 1) := by decide +kernel
theorem dX7_isWare_119 : decode cX7_isWare 119 = .ok (.iconst 0, 1) := by decide +kernel
theorem dX7_isWare_120 : decode cX7_isWare 120 = .ok (.bipush 30, 2) := by decide +kernel
theorem dX7_isWare_122 : decode cX7_isWare 122 = .ok (.invokevirtual 132, 3) := by decide +kernel
theorem dX7_isWare_125 : decode cX7_isWare 125 = .ok (.ifCond .ne 5, 3) := by decide +kernel
theorem dX7_isWare_128 : decode cX7_isWare 128 = .ok (.iconst 0, 1) := by decide +kernel
theorem dX7_isWare_129 : decode cX7_isWare 129 = .ok (.ireturn, 1) := by decide +kernel
theorem dX7_isWare_130 : decode cX7_isWare 130 = .ok (.aload_n 0, 1) := by decide +kernel
theorem dX7_isWare_131 : decode cX7_isWare 131 = .ok (.getfield 25, 3) := by decide +kernel
theorem dX7_isWare_134 : decode cX7_isWare 134 = .ok (.iconst 3, 1) := by decide +kernel
theorem dX7_isWare_135 : decode cX7_isWare 135 = .ok (.aload_n 0, 1) := by decide +kernel
theorem dX7_isWare_136 : decode cX7_isWare 136 = .ok (.getfield 140, 3) := by decide +kernel
theorem dX7_isWare_139 : decode cX7_isWare 139 = .ok (.imul, 1) := by decide +kernel
theorem dX7_isWare_140 : decode cX7_isWare 140 = .ok (.iconst 1, 1) := by decide +kernel
theorem dX7_isWare_141 : decode cX7_isWare 141 = .ok (.iadd, 1) := by decide +kernel
theorem dX7_isWare_142 : decode cX7_isWare 142 = .ok (.aload_n 0, 1) := by decide +kernel
theorem dX7_isWare_143 : decode cX7_isWare 143 = .ok (.getfield 101, 3) := by decide +kernel
theorem dX7_isWare_146 : decode cX7_isWare 146 = .ok (.iastore, 1) := by decide +kernel
theorem dX7_isWare_147 : decode cX7_isWare 147 = .ok (.aload_n 0, 1) := by decide +kernel
theorem dX7_isWare_148 : decode cX7_isWare 148 = .ok (.iconst 0, 1) := by decide +kernel
theorem dX7_isWare_149 : decode cX7_isWare 149 = .ok (.bipush 9, 2) := by decide +kernel
theorem dX7_isWare_151 : decode cX7_isWare 151 = .ok (.invokevirtual 132, 3) := by decide +kernel
theorem dX7_isWare_154 : decode cX7_isWare 154 = .ok (.ifCond .ne 5, 3) := by decide +kernel
theorem dX7_isWare_157 : decode cX7_isWare 157 = .ok (.iconst 0, 1) := by decide +kernel
theorem dX7_isWare_158 : decode cX7_isWare 158 = .ok (.ireturn, 1) := by decide +kernel
theorem dX7_isWare_159 : decode cX7_isWare 159 = .ok (.aload_n 0, 1) := by decide +kernel
theorem dX7_isWare_160 : decode cX7_isWare 160 = .ok (.getfield 25, 3) := by decide +kernel
theorem dX7_isWare_163 : decode cX7_isWare 163 = .ok (.iconst 3, 1) := by decide +kernel
theorem dX7_isWare_164 : decode cX7_isWare 164 = .ok (.aload_n 0, 1) := by decide +kernel
theorem dX7_isWare_165 : decode cX7_isWare 165 = .ok (.getfield 140, 3) := by decide +kernel
theorem dX7_isWare_168 : decode cX7_isWare 168 = .ok (.imul, 1) := by decide +kernel
theorem dX7_isWare_169 : decode cX7_isWare 169 = .ok (.iconst 2, 1) := by decide +kernel
theorem dX7_isWare_170 : decode cX7_isWare 170 = .ok (.iadd, 1) := by decide +kernel
theorem dX7_isWare_171 : decode cX7_isWare 171 = .ok (.aload_n 0, 1) := by decide +kernel
theorem dX7_isWare_172 : decode cX7_isWare 172 = .ok (.getfield 101, 3) := by decide +kernel
theorem dX7_isWare_175 : decode cX7_isWare 175 = .ok (.iastore, 1) := by decide +kernel
theorem dX7_isWare_176 : decode cX7_isWare 176 = .ok (.aload_n 0, 1) := by decide +kernel
theorem dX7_isWare_177 : decode cX7_isWare 177 = .ok (.dup, 1) := by decide +kernel
theorem dX7_isWare_178 : decode cX7_isWare 178 = .ok (.getfield 140, 3) := by decide +kernel
theorem dX7_isWare_181 : decode cX7_isWare 181 = .ok (.iconst 1, 1) := by decide +kernel
theorem dX7_isWare_182 : decode cX7_isWare 182 = .ok (.iadd, 1) := by decide +kernel
theorem dX7_isWare_183 : decode cX7_isWare 183 = .ok (.putfield 140, 3) := by decide +kernel
theorem dX7_isWare_186 : decode cX7_isWare 186 = .ok (.aload_n 0, 1) := by decide +kernel
theorem dX7_isWare_187 : decode cX7_isWare 187 = .ok (.invokevirtual 136, 3) := by decide +kernel
theorem dX7_isWare_190 : decode cX7_isWare 190 = .ok (.ireturn, 1) := by decide +kernel
theorem dX7_isRead_0 : decode cX7_isRead 0 = .ok (.aload_n 0, 1) := by decide +kernel
theorem dX7_isRead_1 : decode cX7_isRead 1 = .ok (.iconst 0, 1) := by decide +kernel
theorem dX7_isRead_2 : decode cX7_isRead 2 = .ok (.putfield 92, 3) := by decide +kernel
theorem dX7_isRead_5 : decode cX7_isRead 5 = .ok (.aload_n 0, 1) := by decide +kernel
theorem dX7_isRead_6 : decode cX7_isRead 6 = .ok (.iconst 0, 1) := by decide +kernel
theorem dX7_isRead_7 : decode cX7_isRead 7 = .ok (.putfield 129, 3) := by decide +kernel
theorem dX7_isRead_10 : decode cX7_isRead 10 = .ok (.aload_n 0, 1) := by decide +kernel
theorem dX7_isRead_11 : decode cX7_isRead 11 = .ok (.iconst 0, 1) := by decide +kernel
theorem dX7_isRead_12 : decode cX7_isRead 12 = .ok (.putfield 140, 3) := by decide +kernel
theorem dX7_isRead_15 : decode cX7_isRead 15 = .ok (.aload_n 0, 1) := by decide +kernel
theorem dX7_isRead_16 : decode cX7_isRead 16 = .ok (.invokevirtual 123, 3) := by decide +kernel
theorem dX7_isRead_19 : decode cX7_isRead 19 = .ok (.aload_n 0, 1) := by decide +kernel
theorem dX7_isRead_20 : decode cX7_isRead 20 = .ok (.getfield 106, 3) := by decide +kernel
theorem dX7_isRead_23 : decode cX7_isRead 23 = .ok (.ldc2_w 153, 3) := by decide +kernel
theorem dX7_isRead_26 : decode cX7_isRead 26 = .ok (.lcmp, 1) := by decide +kernel
theorem dX7_isRead_27 : decode cX7_isRead 27 = .ok (.ifCond .eq 9, 3) := by decide +kernel
theorem dX7_isRead_30 : decode cX7_isRead 30 = .ok (.aload_n 0, 1) := by decide +kernel
theorem dX7_isRead_31 : decode cX7_isRead 31 = .ok (.iconst 1, 1) := by decide +kernel
theorem dX7_isRead_32 : decode cX7_isRead 32 = .ok (.invokevirtual 126, 3) := by decide +kernel
theorem dX7_isRead_35 : decode cX7_isRead 35 = .ok (.ireturn, 1) := by decide +kernel
theorem dX7_isRead_36 : decode cX7_isRead 36 = .ok (.aload_n 0, 1) := by decide +kernel
theorem dX7_isRead_37 : decode cX7_isRead 37 = .ok (.iconst 0, 1) := by decide +kernel
theorem dX7_isRead_38 : decode cX7_isRead 38 = .ok (.iconst 1, 1) := by decide +kernel
theorem dX7_isRead_39 : decode cX7_isRead 39 = .ok (.invokevirtual 132, 3) := by decide +kernel
theorem dX7_isRead_42 : decode cX7_isRead 42 = .ok (.ifCond .ne 5, 3) := by decide +kernel
theorem dX7_isRead_45 : decode cX7_isRead 45 = .ok (.iconst 0, 1) := by decide +kernel
theorem dX7_isRead_46 : decode cX7_isRead 46 = .ok (.ireturn, 1) := by decide +kernel
theorem dX7_isRead_47 : decode cX7_isRead 47 = .ok (.aload_n 0, 1) := by decide +kernel
theorem dX7_isRead_48 : decode cX7_isRead 48 = .ok (.aload_n 0, 1) := by decide +kernel
theorem dX7_isRead_49 : decode cX7_isRead 49 = .ok (.getfield 101, 3) := by decide +kernel
theorem dX7_isRead_52 : decode cX7_isRead 52 = .ok (.putfield 155, 3) := by decide +kernel
theorem dX7_isRead_55 : decode cX7_isRead 55 = .ok (.aload_n 0, 1) := by decide +kernel
theorem dX7_isRead_56 : decode cX7_isRead 56 = .ok (.invokevirtual 136, 3) := by decide +kernel
theorem dX7_isRead_59 : decode cX7_isRead 59 = .ok (.istore_n 1, 1) := by decide +kernel
theorem dX7_isRead_60 : decode cX7_isRead 60 = .ok (.iload_n 1, 1) := by decide +kernel
theorem dX7_isRead_61 : decode cX7_isRead 61 = .ok (.ifCond .eq 73, 3) := by decide +kernel
theorem dX7_isRead_64 : decode cX7_isRead 64 = .ok (.aload_n 0, 1) := by decide +kernel
theorem dX7_isRead_65 : decode cX7_isRead 65 = .ok (.invokevirtual 123, 3) := by decide +kernel
theorem dX7_isRead_68 : decode cX7_isRead 68 = .ok (.aload_n 0, 1) := by decide +kernel
theorem dX7_isRead_69 : decode cX7_isRead 69 = .ok (.getfield 106, 3) := by decide +kernel
theorem dX7_isRead_72 : decode cX7_isRead 72 = .ok (.ldc2_w 104, 3) := by decide +kernel
theorem dX7_isRead_75 : decode cX7_isRead 75 = .ok (.lcmp, 1) := by decide +kernel
theorem dX7_isRead_76 : decode cX7_isRead 76 = .ok (.ifCond .ne 5, 3) := by decide +kernel
theorem dX7_isRead_79 : decode cX7_isRead 79 = .ok (.iconst 1, 1) := by decide +kernel
theorem dX7_isRead_80 : decode cX7_isRead 80 = .ok (.ireturn, 1) := by decide +kernel
theorem dX7_isRead_81 : decode cX7_isRead 81 = .ok (.aload_n 0, 1) := by decide +kernel
theorem dX7_isRead_82 : decode cX7_isRead 82 = .ok (.getfield 106, 3) := by decide +kernel
theorem dX7_isRead_85 : decode cX7_isRead 85 = .ok (.ldc2_w 158, 3) := by decide +kernel
theorem dX7_isRead_88 : decode cX7_isRead 88 = .ok (.lcmp, 1) := by decide +kernel
theorem dX7_isRead_89 : decode cX7_isRead 89 = .ok (.ifCond .ne 18, 3) := by decide +kernel
theorem dX7_isRead_92 : decode cX7_isRead 92 = .ok (.aload_n 0, 1) := by decide +kernel
theorem dX7_isRead_93 : decode cX7_isRead 93 = .ok (.getfield 140, 3) := by decide +kernel
theorem dX7_isRead_96 : decode cX7_isRead 96 = .ok (.ifCond .ne 11, 3) := by decide +kernel
theorem dX7_isRead_99 : decode cX7_isRead 99 = .ok (.aload_n 0, 1) := by decide +kernel
theorem dX7_isRead_100 : decode cX7_isRead 100 = .ok (.invokevirtual 160, 3) := by decide +kernel
theorem dX7_isRead_103 : decode cX7_isRead 103 = .ok (.istore_n 1, 1) := by decide +kernel
theorem dX7_isRead_104 : decode cX7_isRead 104 = .ok (.goto (-44), 3) := by decide +kernel
theorem dX7_isRead_107 : decode cX7_isRead 107 = .ok (.aload_n 0, 1) := by decide +kernel
theorem dX7_isRead_108 : decode cX7_isRead 108 = .ok (.getfield 106, 3) := by decide +kernel
theorem dX7_isRead_111 : decode cX7_isRead 111 = .ok (.ldc2_w 163, 3) := by decide +kernel
theorem dX7_isRead_114 : decode cX7_isRead 114 = .ok (.lcmp, 1) := by decide +kernel
theorem dX7_isRead_115 : decode cX7_isRead 115 = .ok (.ifCond .ne 10, 3) := by decide +kernel
theorem dX7_isRead_118 : decode cX7_isRead 118 = .ok (.aload_n 0, 1) := by decide +kernel
theorem dX7_isRead_119 : decode cX7_isRead 119 = .ok (.invokevirtual 165, 3) := by decide +kernel
theorem dX7_isRead_122 : decode cX7_isRead 122 = .ok (.goto 8, 3) := by decide +kernel
theorem dX7_isRead_125 : decode cX7_isRead 125 = .ok (.aload_n 0, 1) := by decide +kernel
theorem dX7_isRead_126 : decode cX7_isRead 126 = .ok (.iconst 1, 1) := by decide +kernel
theorem dX7_isRead_127 : decode cX7_isRead 127 = .ok (.invokevirtual 126, 3) := by decide +kernel
theorem dX7_isRead_130 : decode cX7_isRead 130 = .ok (.istore_n 1, 1) := by decide +kernel
theorem dX7_isRead_131 : decode cX7_isRead 131 = .ok (.goto (-71), 3) := by decide +kernel
theorem dX7_isRead_134 : decode cX7_isRead 134 = .ok (.iconst 0, 1) := by decide +kernel
theorem dX7_isRead_135 : decode cX7_isRead 135 = .ok (.ireturn, 1) := by decide +kernel
theorem dX7_market_0 : decode cX7_market 0 = .ok (.aload_n 0, 1) := by decide +kernel
theorem dX7_market_1 : decode cX7_market 1 = .ok (.invokevirtual 168, 3) := by decide +kernel
theorem dX7_market_4 : decode cX7_market 4 = .ok (.istore_n 1, 1) := by decide +kernel
theorem dX7_market_5 : decode cX7_market 5 = .ok (.aload_n 0, 1) := by decide +kernel
theorem dX7_market_6 : decode cX7_market 6 = .ok (.iconst 0, 1) := by decide +kernel
theorem dX7_market_7 : decode cX7_market 7 = .ok (.putfield 86, 3) := by decide +kernel
theorem dX7_market_10 : decode cX7_market 10 = .ok (.iload_n 1, 1) := by decide +kernel
theorem dX7_market_11 : decode cX7_market 11 = .ok (.ifCond .ne 11, 3) := by decide +kernel
theorem dX7_market_14 : decode cX7_market 14 = .ok (.ldc 171, 2) := by decide +kernel
theorem dX7_market_16 : decode cX7_market 16 = .ok (.aload_n 0, 1) := by decide +kernel
theorem dX7_market_17 : decode cX7_market 17 = .ok (.getfield 95, 3) := by decide +kernel
theorem dX7_market_20 : decode cX7_market 20 = .ok (.isub, 1) := by decide +kernel
theorem dX7_market_21 : decode cX7_market 21 = .ok (.ireturn, 1) := by decide +kernel
theorem dX7_market_22 : decode cX7_market 22 = .ok (.iconst 0, 1) := by decide +kernel
theorem dX7_market_23 : decode cX7_market 23 = .ok (.istore_n 2, 1) := by decide +kernel
theorem dX7_market_24 : decode cX7_market 24 = .ok (.iload_n 2, 1) := by decide +kernel
theorem dX7_market_25 : decode cX7_market 25 = .ok (.bipush 102, 2) := by decide +kernel
theorem dX7_market_27 : decode cX7_market 27 = .ok (.if_icmp .ge 16, 3) := by decide +kernel
theorem dX7_market_30 : decode cX7_market 30 = .ok (.aload_n 0, 1) := by decide +kernel
theorem dX7_market_31 : decode cX7_market 31 = .ok (.getfield 28, 3) := by decide +kernel
theorem dX7_market_34 : decode cX7_market 34 = .ok (.iload_n 2, 1) := by decide +kernel
theorem dX7_market_35 : decode cX7_market 35 = .ok (.iconst 0, 1) := by decide +kernel
theorem dX7_market_36 : decode cX7_market 36 = .ok (.iastore, 1) := by decide +kernel
theorem dX7_market_37 : decode cX7_market 37 = .ok (.iinc 2 1, 3) := by decide +kernel
theorem dX7_market_40 : decode cX7_market 40 = .ok (.goto (-16), 3) := by decide +kernel
theorem dX7_market_43 : decode cX7_market 43 = .ok (.aload_n 0, 1) := by decide +kernel
theorem dX7_market_44 : decode cX7_market 44 = .ok (.getfield 28, 3) := by decide +kernel
theorem dX7_market_47 : decode cX7_market 47 = .ok (.iconst 0, 1) := by decide +kernel
theorem dX7_market_48 : decode cX7_market 48 = .ok (.iconst 1, 1) := by decide +kernel
theorem dX7_market_49 : decode cX7_market 49 = .ok (.iastore, 1) := by decide +kernel
theorem dX7_market_50 : decode cX7_market 50 = .ok (.aload_n 0, 1) := by decide +kernel
theorem dX7_market_51 : decode cX7_market 51 = .ok (.getfield 28, 3) := by decide +kernel
theorem dX7_market_54 : decode cX7_market 54 = .ok (.iconst 1, 1) := by decide +kernel
theorem dX7_market_55 : decode cX7_market 55 = .ok (.aload_n 0, 1) := by decide +kernel
theorem dX7_market_56 : decode cX7_market 56 = .ok (.getfield 155, 3) := by decide +kernel
theorem dX7_market_59 : decode cX7_market 59 = .ok (.iastore, 1) := by decide +kernel
theorem dX7_market_60 : decode cX7_market 60 = .ok (.aload_n 0, 1) := by decide +kernel
theorem dX7_market_61 : decode cX7_market 61 = .ok (.getfield 28, 3) := by decide +kernel
theorem dX7_market_64 : decode cX7_market 64 = .ok (.iconst 2, 1) := by decide +kernel
theorem dX7_market_65 : decode cX7_market 65 = .ok (.aload_n 0, 1) := by decide +kernel
theorem dX7_market_66 : decode cX7_market 66 = .ok (.getfield 129, 3) := by decide +kernel
theorem dX7_market_69 : decode cX7_market 69 = .ok (.iastore, 1) := by decide +kernel
theorem dX7_market_70 : decode cX7_market 70 = .ok (.aload_n 0, 1) := by decide +kernel
theorem dX7_market_71 : decode cX7_market 71 = .ok (.getfield 28, 3) := by decide +kernel
theorem dX7_market_74 : decode cX7_market 74 = .ok (.iconst 3, 1) := by decide +kernel
theorem dX7_market_75 : decode cX7_market 75 = .ok (.aload_n 0, 1) := by decide +kernel
theorem dX7_market_76 : decode cX7_market 76 = .ok (.getfield 140, 3) := by decide +kernel
theorem dX7_market_79 : decode cX7_market 79 = .ok (.iastore, 1) := by decide +kernel
theorem dX7_market_80 : decode cX7_market 80 = .ok (.aload_n 0, 1) := by decide +kernel
theorem dX7_market_81 : decode cX7_market 81 = .ok (.getfield 28, 3) := by decide +kernel
theorem dX7_market_84 : decode cX7_market 84 = .ok (.iconst 5, 1) := by decide +kernel
theorem dX7_market_85 : decode cX7_market 85 = .ok (.aload_n 0, 1) := by decide +kernel
theorem dX7_market_86 : decode cX7_market 86 = .ok (.getfield 140, 3) := by decide +kernel
theorem dX7_market_89 : decode cX7_market 89 = .ok (.iastore, 1) := by decide +kernel
theorem dX7_market_90 : decode cX7_market 90 = .ok (.iconst 0, 1) := by decide +kernel
theorem dX7_market_91 : decode cX7_market 91 = .ok (.istore_n 2, 1) := by decide +kernel
theorem dX7_market_92 : decode cX7_market 92 = .ok (.iload_n 2, 1) := by decide +kernel
theorem dX7_market_93 : decode cX7_market 93 = .ok (.aload_n 0, 1) := by decide +kernel
theorem dX7_market_94 : decode cX7_market 94 = .ok (.getfield 129, 3) := by decide +kernel
theorem dX7_market_97 : decode cX7_market 97 = .ok (.if_icmp .ge 51, 3) := by decide +kernel
theorem dX7_market_100 : decode cX7_market 100 = .ok (.aload_n 0, 1) := by decide +kernel
theorem dX7_market_101 : decode cX7_market 101 = .ok (.getfield 28, 3) := by decide +kernel
theorem dX7_market_104 : decode cX7_market 104 = .ok (.bipush 6, 2) := by decide +kernel
theorem dX7_market_106 : decode cX7_market 106 = .ok (.iconst 4, 1) := by decide +kernel
theorem dX7_market_107 : decode cX7_market 107 = .ok (.iload_n 2, 1) := by decide +kernel
theorem dX7_market_108 : decode cX7_market 108 = .ok (.imul, 1) := by decide +kernel
theorem dX7_market_109 : decode cX7_market 109 = .ok (.iadd, 1) := by decide +kernel
theorem dX7_market_110 : decode cX7_market 110 = .ok (.aload_n 0, 1) := by decide +kernel
theorem dX7_market_111 : decode cX7_market 111 = .ok (.getfield 22, 3) := by decide +kernel
theorem dX7_market_114 : decode cX7_market 114 = .ok (.iconst 2, 1) := by decide +kernel
theorem dX7_market_115 : decode cX7_market 115 = .ok (.iload_n 2, 1) := by decide +kernel
theorem dX7_market_116 : decode cX7_market 116 = .ok (.imul, 1) := by decide +kernel
theorem dX7_market_117 : decode cX7_market 117 = .ok (.iaload, 1) := by decide +kernel
theorem dX7_market_118 : decode cX7_market 118 = .ok (.iastore, 1) := by decide +kernel
theorem dX7_market_119 : decode cX7_market 119 = .ok (.aload_n 0, 1) := by decide +kernel
theorem dX7_market_120 : decode cX7_market 120 = .ok (.getfield 28, 3) := by decide +kernel
theorem dX7_market_123 : decode cX7_market 123 = .ok (.bipush 6, 2) := by decide +kernel
theorem dX7_market_125 : decode cX7_market 125 = .ok (.iconst 4, 1) := by decide +kernel
theorem dX7_market_126 : decode cX7_market 126 = .ok (.iload_n 2, 1) := by decide +kernel
theorem dX7_market_127 : decode cX7_market 127 = .ok (.imul, 1) := by decide +kernel
theorem dX7_market_128 : decode cX7_market 128 = .ok (.iadd, 1) := by decide +kernel
theorem dX7_market_129 : decode cX7_market 129 = .ok (.iconst 1, 1) := by decide +kernel
theorem dX7_market_130 : decode cX7_market 130 = .ok (.iadd, 1) := by decide +kernel
theorem dX7_market_131 : decode cX7_market 131 = .ok (.aload_n 0, 1) := by decide +kernel
theorem dX7_market_132 : decode cX7_market 132 = .ok (.getfield 22, 3) := by decide +kernel
theorem dX7_market_135 : decode cX7_market 135 = .ok (.iconst 2, 1) := by decide +kernel
theorem dX7_market_136 : decode cX7_market 136 = .ok (.iload_n 2, 1) := by decide +kernel
theorem dX7_market_137 : decode cX7_market 137 = .ok (.imul, 1) := by decide +kernel
theorem dX7_market_138 : decode cX7_market 138 = .ok (.iconst 1, 1) := by decide +kernel
theorem dX7_market_139 : decode cX7_market 139 = .ok (.iadd, 1) := by decide +kernel
theorem dX7_market_140 : decode cX7_market 140 = .ok (.iaload, 1) := by decide +kernel
theorem dX7_market_141 : decode cX7_market 141 = .ok (.iastore, 1) := by decide +kernel
theorem dX7_market_142 : decode cX7_market 142 = .ok (.iinc 2 1, 3) := by decide +kernel
theorem dX7_market_145 : decode cX7_market 145 = .ok (.goto (-53), 3) := by decide +kernel
theorem dX7_market_148 : decode cX7_market 148 = .ok (.iconst 0, 1) := by decide +kernel
theorem dX7_market_149 : decode cX7_market 149 = .ok (.istore_n 2, 1) := by decide +kernel
theorem dX7_market_150 : decode cX7_market 150 = .ok (.iload_n 2, 1) := by decide +kernel
theorem dX7_market_151 : decode cX7_market 151 = .ok (.aload_n 0, 1) := by decide +kernel
theorem dX7_market_152 : decode cX7_market 152 = .ok (.getfield 140, 3) := by decide +kernel
theorem dX7_market_155 : decode cX7_market 155 = .ok (.if_icmp .ge 70, 3) := by decide +kernel
theorem dX7_market_158 : decode cX7_market 158 = .ok (.iconst 0, 1) := by decide +kernel
theorem dX7_market_159 : decode cX7_market 159 = .ok (.istore_n 3, 1) := by decide +kernel
theorem dX7_market_160 : decode cX7_market 160 = .ok (.iload_n 3, 1) := by decide +kernel
theorem dX7_market_161 : decode cX7_market 161 = .ok (.iconst 3, 1) := by decide +kernel
theorem dX7_market_162 : decode cX7_market 162 = .ok (.if_icmp .ge 32, 3) := by decide +kernel
theorem dX7_market_165 : decode cX7_market 165 = .ok (.aload_n 0, 1) := by decide +kernel
theorem dX7_market_166 : decode cX7_market 166 = .ok (.getfield 28, 3) := by decide +kernel
theorem dX7_market_169 : decode cX7_market 169 = .ok (.bipush 22, 2) := by decide +kernel
theorem dX7_market_171 : decode cX7_market 171 = .ok (.iconst 4, 1) := by decide +kernel
theorem dX7_market_172 : decode cX7_market 172 = .ok (.iload_n 2, 1) := by decide +kernel
theorem dX7_market_173 : decode cX7_market 173 = .ok (.imul, 1) := by decide +kernel
theorem dX7_market_174 : decode cX7_market 174 = .ok (.iadd, 1) := by decide +kernel
theorem dX7_market_175 : decode cX7_market 175 = .ok (.iload_n 3, 1) := by decide +kernel
theorem dX7_market_176 : decode cX7_market 176 = .ok (.iadd, 1) := by decide +kernel
theorem dX7_market_177 : decode cX7_market 177 = .ok (.aload_n 0, 1) := by decide +kernel
theorem dX7_market_178 : decode cX7_market 178 = .ok (.getfield 25, 3) := by decide +kernel
theorem dX7_market_181 : decode cX7_market 181 = .ok (.iconst 3, 1) := by decide +kernel
theorem dX7_market_182 : decode cX7_market 182 = .ok (.iload_n 2, 1) := by decide +kernel
theorem dX7_market_183 : decode cX7_market 183 = .ok (.imul, 1) := by decide +kernel
theorem dX7_market_184 : decode cX7_market 184 = .ok (.iload_n 3, 1) := by decide +kernel
theorem dX7_market_185 : decode cX7_market 185 = .ok (.iadd, 1) := by decide +kernel
theorem dX7_market_186 : decode cX7_market 186 = .ok (.iaload, 1) := by decide +kernel
theorem dX7_market_187 : decode cX7_market 187 = .ok (.iastore, 1) := by decide +kernel
theorem dX7_market_188 : decode cX7_market 188 = .ok (.iinc 3 1, 3) := by decide +kernel
theorem dX7_market_191 : decode cX7_market 191 = .ok (.goto (-31), 3) := by decide +kernel
theorem dX7_market_194 : decode cX7_market 194 = .ok (.aload_n 0, 1) := by decide +kernel
theorem dX7_market_195 : decode cX7_market 195 = .ok (.getfield 28, 3) := by decide +kernel
theorem dX7_market_198 : decode cX7_market 198 = .ok (.bipush 22, 2) := by decide +kernel
theorem dX7_market_200 : decode cX7_market 200 = .ok (.iconst 4, 1) := by decide +kernel
theorem dX7_market_201 : decode cX7_market 201 = .ok (.iload_n 2, 1) := by decide +kernel
theorem dX7_market_202 : decode cX7_market 202 = .ok (.imul, 1) := by decide +kernel
theorem dX7_market_203 : decode cX7_market 203 = .ok (.iadd, 1) := by decide +kernel
theorem dX7_market_204 : decode cX7_market 204 = .ok (.iconst 3, 1) := by decide +kernel
theorem dX7_market_205 : decode cX7_market 205 = .ok (.iadd, 1) := by decide +kernel
theorem dX7_market_206 : decode cX7_market 206 = .ok (.ldc 172, 2) := by decide +kernel
theorem dX7_market_208 : decode cX7_market 208 = .ok (.iastore, 1) := by decide +kernel
theorem dX7_market_209 : decode cX7_market 209 = .ok (.aload_n 0, 1) := by decide +kernel
theorem dX7_market_210 : decode cX7_market 210 = .ok (.getfield 28, 3) := by decide +kernel
theorem dX7_market_213 : decode cX7_market 213 = .ok (.bipush 86, 2) := by decide +kernel
theorem dX7_market_215 : decode cX7_market 215 = .ok (.iload_n 2, 1) := by decide +kernel
theorem dX7_market_216 : decode cX7_market 216 = .ok (.iadd, 1) := by decide +kernel
theorem dX7_market_217 : decode cX7_market 217 = .ok (.iload_n 2, 1) := by decide +kernel
theorem dX7_market_218 : decode cX7_market 218 = .ok (.iastore, 1) := by decide +kernel
theorem dX7_market_219 : decode cX7_market 219 = .ok (.iinc 2 1, 3) := by decide +kernel
theorem dX7_market_222 : decode cX7_market 222 = .ok (.goto (-72), 3) := by decide +kernel
theorem dX7_market_225 : decode cX7_market 225 = .ok (.aload_n 0, 1) := by decide +kernel
theorem dX7_market_226 : decode cX7_market 226 = .ok (.iconst 0, 1) := by decide +kernel
theorem dX7_market_227 : decode cX7_market 227 = .ok (.putfield 173, 3) := by decide +kernel
theorem dX7_market_230 : decode cX7_market 230 = .ok (.aload_n 0, 1) := by decide +kernel
theorem dX7_market_231 : decode cX7_market 231 = .ok (.getfield 140, 3) := by decide +kernel
theorem dX7_market_234 : decode cX7_market 234 = .ok (.ireturn, 1) := by decide +kernel
theorem dX7_fault_0 : decode cX7_fault 0 = .ok (.aload_n 0, 1) := by decide +kernel
theorem dX7_fault_1 : decode cX7_fault 1 = .ok (.getfield 120, 3) := by decide +kernel
theorem dX7_fault_4 : decode cX7_fault 4 = .ok (.ireturn, 1) := by decide +kernel
theorem dX7_isWareAt_0 : decode cX7_isWareAt 0 = .ok (.iload_n 1, 1) := by decide +kernel
theorem dX7_isWareAt_1 : decode cX7_isWareAt 1 = .ok (.iconst 0, 1) := by decide +kernel
theorem dX7_isWareAt_2 : decode cX7_isWareAt 2 = .ok (.aload_n 0, 1) := by decide +kernel
theorem dX7_isWareAt_3 : decode cX7_isWareAt 3 = .ok (.getfield 28, 3) := by decide +kernel
theorem dX7_isWareAt_6 : decode cX7_isWareAt 6 = .ok (.iconst 3, 1) := by decide +kernel
theorem dX7_isWareAt_7 : decode cX7_isWareAt 7 = .ok (.iaload, 1) := by decide +kernel
theorem dX7_isWareAt_8 : decode cX7_isWareAt 8 = .ok (.iconst 1, 1) := by decide +kernel
theorem dX7_isWareAt_9 : decode cX7_isWareAt 9 = .ok (.isub, 1) := by decide +kernel
theorem dX7_isWareAt_10 : decode cX7_isWareAt 10 = .ok (.invokestatic 67, 3) := by decide +kernel
theorem dX7_isWareAt_13 : decode cX7_isWareAt 13 = .ok (.ireturn, 1) := by decide +kernel
theorem dX7_isBuyerAt_0 : decode cX7_isBuyerAt 0 = .ok (.iload_n 1, 1) := by decide +kernel
theorem dX7_isBuyerAt_1 : decode cX7_isBuyerAt 1 = .ok (.iconst 0, 1) := by decide +kernel
theorem dX7_isBuyerAt_2 : decode cX7_isBuyerAt 2 = .ok (.aload_n 0, 1) := by decide +kernel
theorem dX7_isBuyerAt_3 : decode cX7_isBuyerAt 3 = .ok (.getfield 28, 3) := by decide +kernel
theorem dX7_isBuyerAt_6 : decode cX7_isBuyerAt 6 = .ok (.iconst 2, 1) := by decide +kernel
theorem dX7_isBuyerAt_7 : decode cX7_isBuyerAt 7 = .ok (.iaload, 1) := by decide +kernel
theorem dX7_isBuyerAt_8 : decode cX7_isBuyerAt 8 = .ok (.iconst 1, 1) := by decide +kernel
theorem dX7_isBuyerAt_9 : decode cX7_isBuyerAt 9 = .ok (.isub, 1) := by decide +kernel
theorem dX7_isBuyerAt_10 : decode cX7_isBuyerAt 10 = .ok (.invokestatic 67, 3) := by decide +kernel
theorem dX7_isBuyerAt_13 : decode cX7_isBuyerAt 13 = .ok (.ireturn, 1) := by decide +kernel
theorem dX7_areUnlike_0 : decode cX7_areUnlike 0 = .ok (.aload_n 0, 1) := by decide +kernel
theorem dX7_areUnlike_1 : decode cX7_areUnlike 1 = .ok (.iload_n 1, 1) := by decide +kernel
theorem dX7_areUnlike_2 : decode cX7_areUnlike 2 = .ok (.invokevirtual 176, 3) := by decide +kernel
theorem dX7_areUnlike_5 : decode cX7_areUnlike 5 = .ok (.ifCond .eq 20, 3) := by decide +kernel
theorem dX7_areUnlike_8 : decode cX7_areUnlike 8 = .ok (.aload_n 0, 1) := by decide +kernel
theorem dX7_areUnlike_9 : decode cX7_areUnlike 9 = .ok (.iload_n 2, 1) := by decide +kernel
theorem dX7_areUnlike_10 : decode cX7_areUnlike 10 = .ok (.invokevirtual 176, 3) := by decide +kernel
theorem dX7_areUnlike_13 : decode cX7_areUnlike 13 = .ok (.ifCond .eq 12, 3) := by decide +kernel
theorem dX7_areUnlike_16 : decode cX7_areUnlike 16 = .ok (.iload_n 1, 1) := by decide +kernel
theorem dX7_areUnlike_17 : decode cX7_areUnlike 17 = .ok (.iload_n 2, 1) := by decide +kernel
theorem dX7_areUnlike_18 : decode cX7_areUnlike 18 = .ok (.if_icmp .eq 7, 3) := by decide +kernel
theorem dX7_areUnlike_21 : decode cX7_areUnlike 21 = .ok (.iconst 1, 1) := by decide +kernel
theorem dX7_areUnlike_22 : decode cX7_areUnlike 22 = .ok (.goto 4, 3) := by decide +kernel
theorem dX7_areUnlike_25 : decode cX7_areUnlike 25 = .ok (.iconst 0, 1) := by decide +kernel
theorem dX7_areUnlike_26 : decode cX7_areUnlike 26 = .ok (.ireturn, 1) := by decide +kernel
theorem dX7_kindOf_0 : decode cX7_kindOf 0 = .ok (.aload_n 0, 1) := by decide +kernel
theorem dX7_kindOf_1 : decode cX7_kindOf 1 = .ok (.getfield 28, 3) := by decide +kernel
theorem dX7_kindOf_4 : decode cX7_kindOf 4 = .ok (.bipush 22, 2) := by decide +kernel
theorem dX7_kindOf_6 : decode cX7_kindOf 6 = .ok (.iconst 4, 1) := by decide +kernel
theorem dX7_kindOf_7 : decode cX7_kindOf 7 = .ok (.iload_n 1, 1) := by decide +kernel
theorem dX7_kindOf_8 : decode cX7_kindOf 8 = .ok (.imul, 1) := by decide +kernel
theorem dX7_kindOf_9 : decode cX7_kindOf 9 = .ok (.iadd, 1) := by decide +kernel
theorem dX7_kindOf_10 : decode cX7_kindOf 10 = .ok (.iaload, 1) := by decide +kernel
theorem dX7_kindOf_11 : decode cX7_kindOf 11 = .ok (.ireturn, 1) := by decide +kernel
theorem dX7_valueOf_0 : decode cX7_valueOf 0 = .ok (.aload_n 0, 1) := by decide +kernel
theorem dX7_valueOf_1 : decode cX7_valueOf 1 = .ok (.getfield 28, 3) := by decide +kernel
theorem dX7_valueOf_4 : decode cX7_valueOf 4 = .ok (.bipush 22, 2) := by decide +kernel
theorem dX7_valueOf_6 : decode cX7_valueOf 6 = .ok (.iconst 4, 1) := by decide +kernel
theorem dX7_valueOf_7 : decode cX7_valueOf 7 = .ok (.iload_n 1, 1) := by decide +kernel
theorem dX7_valueOf_8 : decode cX7_valueOf 8 = .ok (.imul, 1) := by decide +kernel
theorem dX7_valueOf_9 : decode cX7_valueOf 9 = .ok (.iadd, 1) := by decide +kernel
theorem dX7_valueOf_10 : decode cX7_valueOf 10 = .ok (.iconst 1, 1) := by decide +kernel
theorem dX7_valueOf_11 : decode cX7_valueOf 11 = .ok (.iadd, 1) := by decide +kernel
theorem dX7_valueOf_12 : decode cX7_valueOf 12 = .ok (.iaload, 1) := by decide +kernel
theorem dX7_valueOf_13 : decode cX7_valueOf 13 = .ok (.istore_n 3, 1) := by decide +kernel
theorem dX7_valueOf_14 : decode cX7_valueOf 14 = .ok (.aload_n 0, 1) := by decide +kernel
theorem dX7_valueOf_15 : decode cX7_valueOf 15 = .ok (.getfield 28, 3) := by decide +kernel
theorem dX7_valueOf_18 : decode cX7_valueOf 18 = .ok (.bipush 22, 2) := by decide +kernel
theorem dX7_valueOf_20 : decode cX7_valueOf 20 = .ok (.iconst 4, 1) := by decide +kernel
theorem dX7_valueOf_21 : decode cX7_valueOf 21 = .ok (.iload_n 1, 1) := by decide +kernel
theorem dX7_valueOf_22 : decode cX7_valueOf 22 = .ok (.imul, 1) := by decide +kernel
theorem dX7_valueOf_23 : decode cX7_valueOf 23 = .ok (.iadd, 1) := by decide +kernel
theorem dX7_valueOf_24 : decode cX7_valueOf 24 = .ok (.iconst 2, 1) := by decide +kernel
theorem dX7_valueOf_25 : decode cX7_valueOf 25 = .ok (.iadd, 1) := by decide +kernel
theorem dX7_valueOf_26 : decode cX7_valueOf 26 = .ok (.iaload, 1) := by decide +kernel
theorem dX7_valueOf_27 : decode cX7_valueOf 27 = .ok (.iload_n 2, 1) := by decide +kernel
theorem dX7_valueOf_28 : decode cX7_valueOf 28 = .ok (.iadd, 1) := by decide +kernel
theorem dX7_valueOf_29 : decode cX7_valueOf 29 = .ok (.istore 4, 2) := by decide +kernel
theorem dX7_valueOf_31 : decode cX7_valueOf 31 = .ok (.aload_n 0, 1) := by decide +kernel
theorem dX7_valueOf_32 : decode cX7_valueOf 32 = .ok (.iload_n 1, 1) := by decide +kernel
theorem dX7_valueOf_33 : decode cX7_valueOf 33 = .ok (.invokevirtual 179, 3) := by decide +kernel
theorem dX7_valueOf_36 : decode cX7_valueOf 36 = .ok (.tableswitch 87 1 4 #[32, 41, 70, 81], 32) := by decide +kernel
theorem dX7_valueOf_68 : decode cX7_valueOf 68 = .ok (.iload_n 3, 1) := by decide +kernel
theorem dX7_valueOf_69 : decode cX7_valueOf 69 = .ok (.iload 4, 2) := by decide +kernel
theorem dX7_valueOf_71 : decode cX7_valueOf 71 = .ok (.isub, 1) := by decide +kernel
theorem dX7_valueOf_72 : decode cX7_valueOf 72 = .ok (.istore 5, 2) := by decide +kernel
theorem dX7_valueOf_74 : decode cX7_valueOf 74 = .ok (.goto 57, 3) := by decide +kernel
theorem dX7_valueOf_77 : decode cX7_valueOf 77 = .ok (.iload 4, 2) := by decide +kernel
theorem dX7_valueOf_79 : decode cX7_valueOf 79 = .ok (.bipush 6, 2) := by decide +kernel
theorem dX7_valueOf_81 : decode cX7_valueOf 81 = .ok (.if_icmp .ge 10, 3) := by decide +kernel
theorem dX7_valueOf_84 : decode cX7_valueOf 84 = .ok (.iload_n 3, 1) := by decide +kernel
theorem dX7_valueOf_85 : decode cX7_valueOf 85 = .ok (.iload 4, 2) := by decide +kernel
theorem dX7_valueOf_87 : decode cX7_valueOf 87 = .ok (.iadd, 1) := by decide +kernel
theorem dX7_valueOf_88 : decode cX7_valueOf 88 = .ok (.goto 13, 3) := by decide +kernel
theorem dX7_valueOf_91 : decode cX7_valueOf 91 = .ok (.iload_n 3, 1) := by decide +kernel
theorem dX7_valueOf_92 : decode cX7_valueOf 92 = .ok (.iconst 5, 1) := by decide +kernel
theorem dX7_valueOf_93 : decode cX7_valueOf 93 = .ok (.iadd, 1) := by decide +kernel
theorem dX7_valueOf_94 : decode cX7_valueOf 94 = .ok (.iconst 2, 1) := by decide +kernel
theorem dX7_valueOf_95 : decode cX7_valueOf 95 = .ok (.iload 4, 2) := by decide +kernel
theorem dX7_valueOf_97 : decode cX7_valueOf 97 = .ok (.iconst 5, 1) := by decide +kernel
theorem dX7_valueOf_98 : decode cX7_valueOf 98 = .ok (.isub, 1) := by decide +kernel
theorem dX7_valueOf_99 : decode cX7_valueOf 99 = .ok (.imul, 1) := by decide +kernel
theorem dX7_valueOf_100 : decode cX7_valueOf 100 = .ok (.isub, 1) := by decide +kernel
theorem dX7_valueOf_101 : decode cX7_valueOf 101 = .ok (.istore 5, 2) := by decide +kernel
theorem dX7_valueOf_103 : decode cX7_valueOf 103 = .ok (.goto 28, 3) := by decide +kernel
theorem dX7_valueOf_106 : decode cX7_valueOf 106 = .ok (.iload_n 3, 1) := by decide +kernel
theorem dX7_valueOf_107 : decode cX7_valueOf 107 = .ok (.iconst 2, 1) := by decide +kernel
theorem dX7_valueOf_108 : decode cX7_valueOf 108 = .ok (.iload 4, 2) := by decide +kernel
theorem dX7_valueOf_110 : decode cX7_valueOf 110 = .ok (.imul, 1) := by decide +kernel
theorem dX7_valueOf_111 : decode cX7_valueOf 111 = .ok (.isub, 1) := by decide +kernel
theorem dX7_valueOf_112 : decode cX7_valueOf 112 = .ok (.istore 5, 2) := by decide +kernel
theorem dX7_valueOf_114 : decode cX7_valueOf 114 = .ok (.goto 17, 3) := by decide +kernel
theorem dX7_valueOf_117 : decode cX7_valueOf 117 = .ok (.iload_n 3, 1) := by decide +kernel
theorem dX7_valueOf_118 : decode cX7_valueOf 118 = .ok (.istore 5, 2) := by decide +kernel
theorem dX7_valueOf_120 : decode cX7_valueOf 120 = .ok (.goto 11, 3) := by decide +kernel
theorem dX7_valueOf_123 : decode cX7_valueOf 123 = .ok (.iload_n 3, 1) := by decide +kernel
theorem dX7_valueOf_124 : decode cX7_valueOf 124 = .ok (.iload 4, 2) := by decide +kernel
theorem dX7_valueOf_126 : decode cX7_valueOf 126 = .ok (.iconst 3, 1) := by decide +kernel
theorem dX7_valueOf_127 : decode cX7_valueOf 127 = .ok (.idiv, 1) := by decide +kernel
theorem dX7_valueOf_128 : decode cX7_valueOf 128 = .ok (.iadd, 1) := by decide +kernel
theorem dX7_valueOf_129 : decode cX7_valueOf 129 = .ok (.istore 5, 2) := by decide +kernel
theorem dX7_valueOf_131 : decode cX7_valueOf 131 = .ok (.iload 5, 2) := by decide +kernel
theorem dX7_valueOf_133 : decode cX7_valueOf 133 = .ok (.ifCond .ge 7, 3) := by decide +kernel
theorem dX7_valueOf_136 : decode cX7_valueOf 136 = .ok (.iconst 0, 1) := by decide +kernel
theorem dX7_valueOf_137 : decode cX7_valueOf 137 = .ok (.goto 5, 3) := by decide +kernel
theorem dX7_valueOf_140 : decode cX7_valueOf 140 = .ok (.iload 5, 2) := by decide +kernel
theorem dX7_valueOf_142 : decode cX7_valueOf 142 = .ok (.ireturn, 1) := by decide +kernel
theorem dX7_isOf_0 : decode cX7_isOf 0 = .ok (.iload_n 1, 1) := by decide +kernel
theorem dX7_isOf_1 : decode cX7_isOf 1 = .ok (.ifCond .eq 32, 3) := by decide +kernel
theorem dX7_isOf_4 : decode cX7_isOf 4 = .ok (.iload_n 1, 1) := by decide +kernel
theorem dX7_isOf_5 : decode cX7_isOf 5 = .ok (.iload_n 0, 1) := by decide +kernel
theorem dX7_isOf_6 : decode cX7_isOf 6 = .ok (.if_icmp .eq 27, 3) := by decide +kernel
theorem dX7_isOf_9 : decode cX7_isOf 9 = .ok (.iload_n 1, 1) := by decide +kernel
theorem dX7_isOf_10 : decode cX7_isOf 10 = .ok (.iconst 1, 1) := by decide +kernel
theorem dX7_isOf_11 : decode cX7_isOf 11 = .ok (.if_icmp .ne 12, 3) := by decide +kernel
theorem dX7_isOf_14 : decode cX7_isOf 14 = .ok (.iload_n 0, 1) := by decide +kernel
theorem dX7_isOf_15 : decode cX7_isOf 15 = .ok (.iconst 2, 1) := by decide +kernel
theorem dX7_isOf_16 : decode cX7_isOf 16 = .ok (.iconst 3, 1) := by decide +kernel
theorem dX7_isOf_17 : decode cX7_isOf 17 = .ok (.invokestatic 67, 3) := by decide +kernel
theorem dX7_isOf_20 : decode cX7_isOf 20 = .ok (.ifCond .ne 13, 3) := by decide +kernel
theorem dX7_isOf_23 : decode cX7_isOf 23 = .ok (.iload_n 1, 1) := by decide +kernel
theorem dX7_isOf_24 : decode cX7_isOf 24 = .ok (.iconst 4, 1) := by decide +kernel
theorem dX7_isOf_25 : decode cX7_isOf 25 = .ok (.if_icmp .ne 12, 3) := by decide +kernel
theorem dX7_isOf_28 : decode cX7_isOf 28 = .ok (.iload_n 0, 1) := by decide +kernel
theorem dX7_isOf_29 : decode cX7_isOf 29 = .ok (.iconst 5, 1) := by decide +kernel
theorem dX7_isOf_30 : decode cX7_isOf 30 = .ok (.if_icmp .ne 7, 3) := by decide +kernel
theorem dX7_isOf_33 : decode cX7_isOf 33 = .ok (.iconst 1, 1) := by decide +kernel
theorem dX7_isOf_34 : decode cX7_isOf 34 = .ok (.goto 4, 3) := by decide +kernel
theorem dX7_isOf_37 : decode cX7_isOf 37 = .ok (.iconst 0, 1) := by decide +kernel
theorem dX7_isOf_38 : decode cX7_isOf 38 = .ok (.ireturn, 1) := by decide +kernel
theorem dX7_worthOf_0 : decode cX7_worthOf 0 = .ok (.aload_n 0, 1) := by decide +kernel
theorem dX7_worthOf_1 : decode cX7_worthOf 1 = .ok (.iload_n 1, 1) := by decide +kernel
theorem dX7_worthOf_2 : decode cX7_worthOf 2 = .ok (.invokevirtual 179, 3) := by decide +kernel
theorem dX7_worthOf_5 : decode cX7_worthOf 5 = .ok (.aload_n 0, 1) := by decide +kernel
theorem dX7_worthOf_6 : decode cX7_worthOf 6 = .ok (.getfield 28, 3) := by decide +kernel
theorem dX7_worthOf_9 : decode cX7_worthOf 9 = .ok (.bipush 6, 2) := by decide +kernel
theorem dX7_worthOf_11 : decode cX7_worthOf 11 = .ok (.iconst 4, 1) := by decide +kernel
theorem dX7_worthOf_12 : decode cX7_worthOf 12 = .ok (.iload_n 2, 1) := by decide +kernel
theorem dX7_worthOf_13 : decode cX7_worthOf 13 = .ok (.imul, 1) := by decide +kernel
theorem dX7_worthOf_14 : decode cX7_worthOf 14 = .ok (.iadd, 1) := by decide +kernel
theorem dX7_worthOf_15 : decode cX7_worthOf 15 = .ok (.iaload, 1) := by decide +kernel
theorem dX7_worthOf_16 : decode cX7_worthOf 16 = .ok (.invokestatic 182, 3) := by decide +kernel
theorem dX7_worthOf_19 : decode cX7_worthOf 19 = .ok (.ifCond .eq 14, 3) := by decide +kernel
theorem dX7_worthOf_22 : decode cX7_worthOf 22 = .ok (.iconst 2, 1) := by decide +kernel
theorem dX7_worthOf_23 : decode cX7_worthOf 23 = .ok (.aload_n 0, 1) := by decide +kernel
theorem dX7_worthOf_24 : decode cX7_worthOf 24 = .ok (.iload_n 1, 1) := by decide +kernel
theorem dX7_worthOf_25 : decode cX7_worthOf 25 = .ok (.iload_n 3, 1) := by decide +kernel
theorem dX7_worthOf_26 : decode cX7_worthOf 26 = .ok (.invokevirtual 185, 3) := by decide +kernel
theorem dX7_worthOf_29 : decode cX7_worthOf 29 = .ok (.imul, 1) := by decide +kernel
theorem dX7_worthOf_30 : decode cX7_worthOf 30 = .ok (.goto 9, 3) := by decide +kernel
theorem dX7_worthOf_33 : decode cX7_worthOf 33 = .ok (.aload_n 0, 1) := by decide +kernel
theorem dX7_worthOf_34 : decode cX7_worthOf 34 = .ok (.iload_n 1, 1) := by decide +kernel
theorem dX7_worthOf_35 : decode cX7_worthOf 35 = .ok (.iload_n 3, 1) := by decide +kernel
theorem dX7_worthOf_36 : decode cX7_worthOf 36 = .ok (.invokevirtual 185, 3) := by decide +kernel
theorem dX7_worthOf_39 : decode cX7_worthOf 39 = .ok (.ireturn, 1) := by decide +kernel
theorem dX7_heap_0 : decode cX7_heap 0 = .ok (.aload_n 0, 1) := by decide +kernel
theorem dX7_heap_1 : decode cX7_heap 1 = .ok (.getfield 28, 3) := by decide +kernel
theorem dX7_heap_4 : decode cX7_heap 4 = .ok (.bipush 86, 2) := by decide +kernel
theorem dX7_heap_6 : decode cX7_heap 6 = .ok (.iload_n 1, 1) := by decide +kernel
theorem dX7_heap_7 : decode cX7_heap 7 = .ok (.iadd, 1) := by decide +kernel
theorem dX7_heap_8 : decode cX7_heap 8 = .ok (.iaload, 1) := by decide +kernel
theorem dX7_heap_9 : decode cX7_heap 9 = .ok (.ireturn, 1) := by decide +kernel
theorem dX7_noteAct_0 : decode cX7_noteAct 0 = .ok (.aload_n 0, 1) := by decide +kernel
theorem dX7_noteAct_1 : decode cX7_noteAct 1 = .ok (.getfield 173, 3) := by decide +kernel
theorem dX7_noteAct_4 : decode cX7_noteAct 4 = .ok (.bipush 24, 2) := by decide +kernel
theorem dX7_noteAct_6 : decode cX7_noteAct 6 = .ok (.if_icmp .ne 45, 3) := by decide +kernel
theorem dX7_noteAct_9 : decode cX7_noteAct 9 = .ok (.iconst 0, 1) := by decide +kernel
theorem dX7_noteAct_10 : decode cX7_noteAct 10 = .ok (.istore 6, 2) := by decide +kernel
theorem dX7_noteAct_12 : decode cX7_noteAct 12 = .ok (.iload 6, 2) := by decide +kernel
theorem dX7_noteAct_14 : decode cX7_noteAct 14 = .ok (.bipush 115, 2) := by decide +kernel
theorem dX7_noteAct_16 : decode cX7_noteAct 16 = .ok (.if_icmp .ge 25, 3) := by decide +kernel
theorem dX7_noteAct_19 : decode cX7_noteAct 19 = .ok (.aload_n 0, 1) := by decide +kernel
theorem dX7_noteAct_20 : decode cX7_noteAct 20 = .ok (.getfield 38, 3) := by decide +kernel
theorem dX7_noteAct_23 : decode cX7_noteAct 23 = .ok (.iload 6, 2) := by decide +kernel
theorem dX7_noteAct_25 : decode cX7_noteAct 25 = .ok (.aload_n 0, 1) := by decide +kernel
theorem dX7_noteAct_26 : decode cX7_noteAct 26 = .ok (.getfield 38, 3) := by decide +kernel
theorem dX7_noteAct_29 : decode cX7_noteAct 29 = .ok (.iload 6, 2) := by decide +kernel
theorem dX7_noteAct_31 : decode cX7_noteAct 31 = .ok (.iconst 5, 1) := by decide +kernel
theorem dX7_noteAct_32 : decode cX7_noteAct 32 = .ok (.iadd, 1) := by decide +kernel
theorem dX7_noteAct_33 : decode cX7_noteAct 33 = .ok (.iaload, 1) := by decide +kernel
theorem dX7_noteAct_34 : decode cX7_noteAct 34 = .ok (.iastore, 1) := by decide +kernel
theorem dX7_noteAct_35 : decode cX7_noteAct 35 = .ok (.iinc 6 1, 3) := by decide +kernel
theorem dX7_noteAct_38 : decode cX7_noteAct 38 = .ok (.goto (-26), 3) := by decide +kernel
theorem dX7_noteAct_41 : decode cX7_noteAct 41 = .ok (.aload_n 0, 1) := by decide +kernel
theorem dX7_noteAct_42 : decode cX7_noteAct 42 = .ok (.dup, 1) := by decide +kernel
theorem dX7_noteAct_43 : decode cX7_noteAct 43 = .ok (.getfield 173, 3) := by decide +kernel
theorem dX7_noteAct_46 : decode cX7_noteAct 46 = .ok (.iconst 1, 1) := by decide +kernel
theorem dX7_noteAct_47 : decode cX7_noteAct 47 = .ok (.isub, 1) := by decide +kernel
theorem dX7_noteAct_48 : decode cX7_noteAct 48 = .ok (.putfield 173, 3) := by decide +kernel
theorem dX7_noteAct_51 : decode cX7_noteAct 51 = .ok (.aload_n 0, 1) := by decide +kernel
theorem dX7_noteAct_52 : decode cX7_noteAct 52 = .ok (.getfield 38, 3) := by decide +kernel
theorem dX7_noteAct_55 : decode cX7_noteAct 55 = .ok (.iconst 5, 1) := by decide +kernel
theorem dX7_noteAct_56 : decode cX7_noteAct 56 = .ok (.aload_n 0, 1) := by decide +kernel
theorem dX7_noteAct_57 : decode cX7_noteAct 57 = .ok (.getfield 173, 3) := by decide +kernel
theorem dX7_noteAct_60 : decode cX7_noteAct 60 = .ok (.imul, 1) := by decide +kernel
theorem dX7_noteAct_61 : decode cX7_noteAct 61 = .ok (.iload_n 1, 1) := by decide +kernel
theorem dX7_noteAct_62 : decode cX7_noteAct 62 = .ok (.iastore, 1) := by decide +kernel
theorem dX7_noteAct_63 : decode cX7_noteAct 63 = .ok (.aload_n 0, 1) := by decide +kernel
theorem dX7_noteAct_64 : decode cX7_noteAct 64 = .ok (.getfield 38, 3) := by decide +kernel
theorem dX7_noteAct_67 : decode cX7_noteAct 67 = .ok (.iconst 5, 1) := by decide +kernel
theorem dX7_noteAct_68 : decode cX7_noteAct 68 = .ok (.aload_n 0, 1) := by decide +kernel
theorem dX7_noteAct_69 : decode cX7_noteAct 69 = .ok (.getfield 173, 3) := by decide +kernel
theorem dX7_noteAct_72 : decode cX7_noteAct 72 = .ok (.imul, 1) := by decide +kernel
theorem dX7_noteAct_73 : decode cX7_noteAct 73 = .ok (.iconst 1, 1) := by decide +kernel
theorem dX7_noteAct_74 : decode cX7_noteAct 74 = .ok (.iadd, 1) := by decide +kernel
theorem dX7_noteAct_75 : decode cX7_noteAct 75 = .ok (.iload_n 2, 1) := by decide +kernel
theorem dX7_noteAct_76 : decode cX7_noteAct 76 = .ok (.iastore, 1) := by decide +kernel
theorem dX7_noteAct_77 : decode cX7_noteAct 77 = .ok (.aload_n 0, 1) := by decide +kernel
theorem dX7_noteAct_78 : decode cX7_noteAct 78 = .ok (.getfield 38, 3) := by decide +kernel
theorem dX7_noteAct_81 : decode cX7_noteAct 81 = .ok (.iconst 5, 1) := by decide +kernel
theorem dX7_noteAct_82 : decode cX7_noteAct 82 = .ok (.aload_n 0, 1) := by decide +kernel
theorem dX7_noteAct_83 : decode cX7_noteAct 83 = .ok (.getfield 173, 3) := by decide +kernel
theorem dX7_noteAct_86 : decode cX7_noteAct 86 = .ok (.imul, 1) := by decide +kernel
theorem dX7_noteAct_87 : decode cX7_noteAct 87 = .ok (.iconst 2, 1) := by decide +kernel
theorem dX7_noteAct_88 : decode cX7_noteAct 88 = .ok (.iadd, 1) := by decide +kernel
theorem dX7_noteAct_89 : decode cX7_noteAct 89 = .ok (.iload_n 3, 1) := by decide +kernel
theorem dX7_noteAct_90 : decode cX7_noteAct 90 = .ok (.iastore, 1) := by decide +kernel
theorem dX7_noteAct_91 : decode cX7_noteAct 91 = .ok (.aload_n 0, 1) := by decide +kernel
theorem dX7_noteAct_92 : decode cX7_noteAct 92 = .ok (.getfield 38, 3) := by decide +kernel
theorem dX7_noteAct_95 : decode cX7_noteAct 95 = .ok (.iconst 5, 1) := by decide +kernel
theorem dX7_noteAct_96 : decode cX7_noteAct 96 = .ok (.aload_n 0, 1) := by decide +kernel
theorem dX7_noteAct_97 : decode cX7_noteAct 97 = .ok (.getfield 173, 3) := by decide +kernel
theorem dX7_noteAct_100 : decode cX7_noteAct 100 = .ok (.imul, 1) := by decide +kernel
theorem dX7_noteAct_101 : decode cX7_noteAct 101 = .ok (.iconst 3, 1) := by decide +kernel
theorem dX7_noteAct_102 : decode cX7_noteAct 102 = .ok (.iadd, 1) := by decide +kernel
theorem dX7_noteAct_103 : decode cX7_noteAct 103 = .ok (.iload 4, 2) := by decide +kernel
theorem dX7_noteAct_105 : decode cX7_noteAct 105 = .ok (.iastore, 1) := by decide +kernel
theorem dX7_noteAct_106 : decode cX7_noteAct 106 = .ok (.aload_n 0, 1) := by decide +kernel
theorem dX7_noteAct_107 : decode cX7_noteAct 107 = .ok (.getfield 38, 3) := by decide +kernel
theorem dX7_noteAct_110 : decode cX7_noteAct 110 = .ok (.iconst 5, 1) := by decide +kernel
theorem dX7_noteAct_111 : decode cX7_noteAct 111 = .ok (.aload_n 0, 1) := by decide +kernel
theorem dX7_noteAct_112 : decode cX7_noteAct 112 = .ok (.getfield 173, 3) := by decide +kernel
theorem dX7_noteAct_115 : decode cX7_noteAct 115 = .ok (.imul, 1) := by decide +kernel
theorem dX7_noteAct_116 : decode cX7_noteAct 116 = .ok (.iconst 4, 1) := by decide +kernel
theorem dX7_noteAct_117 : decode cX7_noteAct 117 = .ok (.iadd, 1) := by decide +kernel
theorem dX7_noteAct_118 : decode cX7_noteAct 118 = .ok (.iload 5, 2) := by decide +kernel
theorem dX7_noteAct_120 : decode cX7_noteAct 120 = .ok (.iastore, 1) := by decide +kernel
theorem dX7_noteAct_121 : decode cX7_noteAct 121 = .ok (.aload_n 0, 1) := by decide +kernel
theorem dX7_noteAct_122 : decode cX7_noteAct 122 = .ok (.dup, 1) := by decide +kernel
theorem dX7_noteAct_123 : decode cX7_noteAct 123 = .ok (.getfield 173, 3) := by decide +kernel
theorem dX7_noteAct_126 : decode cX7_noteAct 126 = .ok (.iconst 1, 1) := by decide +kernel
theorem dX7_noteAct_127 : decode cX7_noteAct 127 = .ok (.iadd, 1) := by decide +kernel
theorem dX7_noteAct_128 : decode cX7_noteAct 128 = .ok (.putfield 173, 3) := by decide +kernel
theorem dX7_noteAct_131 : decode cX7_noteAct 131 = .ok (.return_, 1) := by decide +kernel
theorem dX7_putAt_0 : decode cX7_putAt 0 = .ok (.iload_n 1, 1) := by decide +kernel
theorem dX7_putAt_1 : decode cX7_putAt 1 = .ok (.ifCond .ne 36, 3) := by decide +kernel
theorem dX7_putAt_4 : decode cX7_putAt 4 = .ok (.aload_n 0, 1) := by decide +kernel
theorem dX7_putAt_5 : decode cX7_putAt 5 = .ok (.getfield 28, 3) := by decide +kernel
theorem dX7_putAt_8 : decode cX7_putAt 8 = .ok (.iconst 5, 1) := by decide +kernel
theorem dX7_putAt_9 : decode cX7_putAt 9 = .ok (.iaload, 1) := by decide +kernel
theorem dX7_putAt_10 : decode cX7_putAt 10 = .ok (.istore_n 3, 1) := by decide +kernel
theorem dX7_putAt_11 : decode cX7_putAt 11 = .ok (.iload_n 3, 1) := by decide +kernel
theorem dX7_putAt_12 : decode cX7_putAt 12 = .ok (.ifCond .le 25, 3) := by decide +kernel
theorem dX7_putAt_15 : decode cX7_putAt 15 = .ok (.aload_n 0, 1) := by decide +kernel
theorem dX7_putAt_16 : decode cX7_putAt 16 = .ok (.getfield 28, 3) := by decide +kernel
theorem dX7_putAt_19 : decode cX7_putAt 19 = .ok (.bipush 86, 2) := by decide +kernel
theorem dX7_putAt_21 : decode cX7_putAt 21 = .ok (.iload_n 3, 1) := by decide +kernel
theorem dX7_putAt_22 : decode cX7_putAt 22 = .ok (.iadd, 1) := by decide +kernel
theorem dX7_putAt_23 : decode cX7_putAt 23 = .ok (.aload_n 0, 1) := by decide +kernel
theorem dX7_putAt_24 : decode cX7_putAt 24 = .ok (.iload_n 3, 1) := by decide +kernel
theorem dX7_putAt_25 : decode cX7_putAt 25 = .ok (.iconst 1, 1) := by decide +kernel
theorem dX7_putAt_26 : decode cX7_putAt 26 = .ok (.isub, 1) := by decide +kernel
theorem dX7_putAt_27 : decode cX7_putAt 27 = .ok (.invokevirtual 189, 3) := by decide +kernel
theorem dX7_putAt_30 : decode cX7_putAt 30 = .ok (.iastore, 1) := by decide +kernel
theorem dX7_putAt_31 : decode cX7_putAt 31 = .ok (.iinc 3 (-1), 3) := by decide +kernel
theorem dX7_putAt_34 : decode cX7_putAt 34 = .ok (.goto (-23), 3) := by decide +kernel
theorem dX7_putAt_37 : decode cX7_putAt 37 = .ok (.aload_n 0, 1) := by decide +kernel
theorem dX7_putAt_38 : decode cX7_putAt 38 = .ok (.getfield 28, 3) := by decide +kernel
theorem dX7_putAt_41 : decode cX7_putAt 41 = .ok (.iload_n 1, 1) := by decide +kernel
theorem dX7_putAt_42 : decode cX7_putAt 42 = .ok (.ifCond .ne 8, 3) := by decide +kernel
theorem dX7_putAt_45 : decode cX7_putAt 45 = .ok (.bipush 86, 2) := by decide +kernel
theorem dX7_putAt_47 : decode cX7_putAt 47 = .ok (.goto 12, 3) := by decide +kernel
theorem dX7_putAt_50 : decode cX7_putAt 50 = .ok (.bipush 86, 2) := by decide +kernel
theorem dX7_putAt_52 : decode cX7_putAt 52 = .ok (.aload_n 0, 1) := by decide +kernel
theorem dX7_putAt_53 : decode cX7_putAt 53 = .ok (.getfield 28, 3) := by decide +kernel
theorem dX7_putAt_56 : decode cX7_putAt 56 = .ok (.iconst 5, 1) := by decide +kernel
theorem dX7_putAt_57 : decode cX7_putAt 57 = .ok (.iaload, 1) := by decide +kernel
theorem dX7_putAt_58 : decode cX7_putAt 58 = .ok (.iadd, 1) := by decide +kernel
theorem dX7_putAt_59 : decode cX7_putAt 59 = .ok (.iload_n 2, 1) := by decide +kernel
theorem dX7_putAt_60 : decode cX7_putAt 60 = .ok (.iastore, 1) := by decide +kernel
theorem dX7_putAt_61 : decode cX7_putAt 61 = .ok (.aload_n 0, 1) := by decide +kernel
theorem dX7_putAt_62 : decode cX7_putAt 62 = .ok (.getfield 28, 3) := by decide +kernel
theorem dX7_putAt_65 : decode cX7_putAt 65 = .ok (.iconst 5, 1) := by decide +kernel
theorem dX7_putAt_66 : decode cX7_putAt 66 = .ok (.dup2, 1) := by decide +kernel
theorem dX7_putAt_67 : decode cX7_putAt 67 = .ok (.iaload, 1) := by decide +kernel
theorem dX7_putAt_68 : decode cX7_putAt 68 = .ok (.iconst 1, 1) := by decide +kernel
theorem dX7_putAt_69 : decode cX7_putAt 69 = .ok (.iadd, 1) := by decide +kernel
theorem dX7_putAt_70 : decode cX7_putAt 70 = .ok (.iastore, 1) := by decide +kernel
theorem dX7_putAt_71 : decode cX7_putAt 71 = .ok (.return_, 1) := by decide +kernel
theorem dX7_takeAt_0 : decode cX7_takeAt 0 = .ok (.aload_n 0, 1) := by decide +kernel
theorem dX7_takeAt_1 : decode cX7_takeAt 1 = .ok (.iload_n 1, 1) := by decide +kernel
theorem dX7_takeAt_2 : decode cX7_takeAt 2 = .ok (.ifCond .ne 7, 3) := by decide +kernel
theorem dX7_takeAt_5 : decode cX7_takeAt 5 = .ok (.iconst 0, 1) := by decide +kernel
theorem dX7_takeAt_6 : decode cX7_takeAt 6 = .ok (.goto 11, 3) := by decide +kernel
theorem dX7_takeAt_9 : decode cX7_takeAt 9 = .ok (.aload_n 0, 1) := by decide +kernel
theorem dX7_takeAt_10 : decode cX7_takeAt 10 = .ok (.getfield 28, 3) := by decide +kernel
theorem dX7_takeAt_13 : decode cX7_takeAt 13 = .ok (.iconst 5, 1) := by decide +kernel
theorem dX7_takeAt_14 : decode cX7_takeAt 14 = .ok (.iaload, 1) := by decide +kernel
theorem dX7_takeAt_15 : decode cX7_takeAt 15 = .ok (.iconst 1, 1) := by decide +kernel
theorem dX7_takeAt_16 : decode cX7_takeAt 16 = .ok (.isub, 1) := by decide +kernel
theorem dX7_takeAt_17 : decode cX7_takeAt 17 = .ok (.invokevirtual 189, 3) := by decide +kernel
theorem dX7_takeAt_20 : decode cX7_takeAt 20 = .ok (.istore_n 2, 1) := by decide +kernel
theorem dX7_takeAt_21 : decode cX7_takeAt 21 = .ok (.aload_n 0, 1) := by decide +kernel
theorem dX7_takeAt_22 : decode cX7_takeAt 22 = .ok (.getfield 28, 3) := by decide +kernel
theorem dX7_takeAt_25 : decode cX7_takeAt 25 = .ok (.iconst 5, 1) := by decide +kernel
theorem dX7_takeAt_26 : decode cX7_takeAt 26 = .ok (.dup2, 1) := by decide +kernel
theorem dX7_takeAt_27 : decode cX7_takeAt 27 = .ok (.iaload, 1) := by decide +kernel
theorem dX7_takeAt_28 : decode cX7_takeAt 28 = .ok (.iconst 1, 1) := by decide +kernel
theorem dX7_takeAt_29 : decode cX7_takeAt 29 = .ok (.isub, 1) := by decide +kernel
theorem dX7_takeAt_30 : decode cX7_takeAt 30 = .ok (.iastore, 1) := by decide +kernel
theorem dX7_takeAt_31 : decode cX7_takeAt 31 = .ok (.iconst 0, 1) := by decide +kernel
theorem dX7_takeAt_32 : decode cX7_takeAt 32 = .ok (.istore_n 3, 1) := by decide +kernel
theorem dX7_takeAt_33 : decode cX7_takeAt 33 = .ok (.iload_n 3, 1) := by decide +kernel
theorem dX7_takeAt_34 : decode cX7_takeAt 34 = .ok (.aload_n 0, 1) := by decide +kernel
theorem dX7_takeAt_35 : decode cX7_takeAt 35 = .ok (.getfield 28, 3) := by decide +kernel
theorem dX7_takeAt_38 : decode cX7_takeAt 38 = .ok (.iconst 5, 1) := by decide +kernel
theorem dX7_takeAt_39 : decode cX7_takeAt 39 = .ok (.iaload, 1) := by decide +kernel
theorem dX7_takeAt_40 : decode cX7_takeAt 40 = .ok (.if_icmp .ge 29, 3) := by decide +kernel
theorem dX7_takeAt_43 : decode cX7_takeAt 43 = .ok (.iload_n 1, 1) := by decide +kernel
theorem dX7_takeAt_44 : decode cX7_takeAt 44 = .ok (.ifCond .ne 25, 3) := by decide +kernel
theorem dX7_takeAt_47 : decode cX7_takeAt 47 = .ok (.aload_n 0, 1) := by decide +kernel
theorem dX7_takeAt_48 : decode cX7_takeAt 48 = .ok (.getfield 28, 3) := by decide +kernel
theorem dX7_takeAt_51 : decode cX7_takeAt 51 = .ok (.bipush 86, 2) := by decide +kernel
theorem dX7_takeAt_53 : decode cX7_takeAt 53 = .ok (.iload_n 3, 1) := by decide +kernel
theorem dX7_takeAt_54 : decode cX7_takeAt 54 = .ok (.iadd, 1) := by decide +kernel
theorem dX7_takeAt_55 : decode cX7_takeAt 55 = .ok (.aload_n 0, 1) := by decide +kernel
theorem dX7_takeAt_56 : decode cX7_takeAt 56 = .ok (.iload_n 3, 1) := by decide +kernel
theorem dX7_takeAt_57 : decode cX7_takeAt 57 = .ok (.iconst 1, 1) := by decide +kernel
theorem dX7_takeAt_58 : decode cX7_takeAt 58 = .ok (.iadd, 1) := by decide +kernel
theorem dX7_takeAt_59 : decode cX7_takeAt 59 = .ok (.invokevirtual 189, 3) := by decide +kernel
theorem dX7_takeAt_62 : decode cX7_takeAt 62 = .ok (.iastore, 1) := by decide +kernel
theorem dX7_takeAt_63 : decode cX7_takeAt 63 = .ok (.iinc 3 1, 3) := by decide +kernel
theorem dX7_takeAt_66 : decode cX7_takeAt 66 = .ok (.goto (-33), 3) := by decide +kernel
theorem dX7_takeAt_69 : decode cX7_takeAt 69 = .ok (.iload_n 2, 1) := by decide +kernel
theorem dX7_takeAt_70 : decode cX7_takeAt 70 = .ok (.ireturn, 1) := by decide +kernel
theorem dX7_take_0 : decode cX7_take 0 = .ok (.aload_n 0, 1) := by decide +kernel
theorem dX7_take_1 : decode cX7_take 1 = .ok (.iload_n 1, 1) := by decide +kernel
theorem dX7_take_2 : decode cX7_take 2 = .ok (.invokevirtual 176, 3) := by decide +kernel
theorem dX7_take_5 : decode cX7_take 5 = .ok (.ifCond .eq 12, 3) := by decide +kernel
theorem dX7_take_8 : decode cX7_take 8 = .ok (.iload_n 2, 1) := by decide +kernel
theorem dX7_take_9 : decode cX7_take 9 = .ok (.iconst 0, 1) := by decide +kernel
theorem dX7_take_10 : decode cX7_take 10 = .ok (.iconst 1, 1) := by decide +kernel
theorem dX7_take_11 : decode cX7_take 11 = .ok (.invokestatic 67, 3) := by decide +kernel
theorem dX7_take_14 : decode cX7_take 14 = .ok (.ifCond .ne 6, 3) := by decide +kernel
theorem dX7_take_17 : decode cX7_take 17 = .ok (.ldc 75, 2) := by decide +kernel
theorem dX7_take_19 : decode cX7_take 19 = .ok (.ireturn, 1) := by decide +kernel
theorem dX7_take_20 : decode cX7_take 20 = .ok (.aload_n 0, 1) := by decide +kernel
theorem dX7_take_21 : decode cX7_take 21 = .ok (.getfield 28, 3) := by decide +kernel
theorem dX7_take_24 : decode cX7_take 24 = .ok (.iconst 5, 1) := by decide +kernel
theorem dX7_take_25 : decode cX7_take 25 = .ok (.iaload, 1) := by decide +kernel
theorem dX7_take_26 : decode cX7_take 26 = .ok (.ifCond .ne 6, 3) := by decide +kernel
theorem dX7_take_29 : decode cX7_take 29 = .ok (.ldc 192, 2) := by decide +kernel
theorem dX7_take_31 : decode cX7_take 31 = .ok (.ireturn, 1) := by decide +kernel
theorem dX7_take_32 : decode cX7_take 32 = .ok (.aload_n 0, 1) := by decide +kernel
theorem dX7_take_33 : decode cX7_take 33 = .ok (.iload_n 2, 1) := by decide +kernel
theorem dX7_take_34 : decode cX7_take 34 = .ok (.ifCond .ne 7, 3) := by decide +kernel
theorem dX7_take_37 : decode cX7_take 37 = .ok (.iconst 0, 1) := by decide +kernel
theorem dX7_take_38 : decode cX7_take 38 = .ok (.goto 11, 3) := by decide +kernel
theorem dX7_take_41 : decode cX7_take 41 = .ok (.aload_n 0, 1) := by decide +kernel
theorem dX7_take_42 : decode cX7_take 42 = .ok (.getfield 28, 3) := by decide +kernel
theorem dX7_take_45 : decode cX7_take 45 = .ok (.iconst 5, 1) := by decide +kernel
theorem dX7_take_46 : decode cX7_take 46 = .ok (.iaload, 1) := by decide +kernel
theorem dX7_take_47 : decode cX7_take 47 = .ok (.iconst 1, 1) := by decide +kernel
theorem dX7_take_48 : decode cX7_take 48 = .ok (.isub, 1) := by decide +kernel
theorem dX7_take_49 : decode cX7_take 49 = .ok (.invokevirtual 189, 3) := by decide +kernel
theorem dX7_take_52 : decode cX7_take 52 = .ok (.istore_n 3, 1) := by decide +kernel
theorem dX7_take_53 : decode cX7_take 53 = .ok (.aload_n 0, 1) := by decide +kernel
theorem dX7_take_54 : decode cX7_take 54 = .ok (.iload_n 3, 1) := by decide +kernel
theorem dX7_take_55 : decode cX7_take 55 = .ok (.iconst 0, 1) := by decide +kernel
theorem dX7_take_56 : decode cX7_take 56 = .ok (.invokevirtual 185, 3) := by decide +kernel
theorem dX7_take_59 : decode cX7_take 59 = .ok (.istore 4, 2) := by decide +kernel
theorem dX7_take_61 : decode cX7_take 61 = .ok (.aload_n 0, 1) := by decide +kernel
theorem dX7_take_62 : decode cX7_take 62 = .ok (.getfield 28, 3) := by decide +kernel
theorem dX7_take_65 : decode cX7_take 65 = .ok (.bipush 6, 2) := by decide +kernel
theorem dX7_take_67 : decode cX7_take 67 = .ok (.iconst 4, 1) := by decide +kernel
theorem dX7_take_68 : decode cX7_take 68 = .ok (.iload_n 1, 1) := by decide +kernel
theorem dX7_take_69 : decode cX7_take 69 = .ok (.imul, 1) := by decide +kernel
theorem dX7_take_70 : decode cX7_take 70 = .ok (.iadd, 1) := by decide +kernel
theorem dX7_take_71 : decode cX7_take 71 = .ok (.iconst 1, 1) := by decide +kernel
theorem dX7_take_72 : decode cX7_take 72 = .ok (.iadd, 1) := by decide +kernel
theorem dX7_take_73 : decode cX7_take 73 = .ok (.iaload, 1) := by decide +kernel
theorem dX7_take_74 : decode cX7_take 74 = .ok (.iload 4, 2) := by decide +kernel
theorem dX7_take_76 : decode cX7_take 76 = .ok (.if_icmp .ge 6, 3) := by decide +kernel
theorem dX7_take_79 : decode cX7_take 79 = .ok (.ldc 192, 2) := by decide +kernel
theorem dX7_take_81 : decode cX7_take 81 = .ok (.ireturn, 1) := by decide +kernel
theorem dX7_take_82 : decode cX7_take 82 = .ok (.aload_n 0, 1) := by decide +kernel
theorem dX7_take_83 : decode cX7_take 83 = .ok (.iload_n 3, 1) := by decide +kernel
theorem dX7_take_84 : decode cX7_take 84 = .ok (.iload_n 1, 1) := by decide +kernel
theorem dX7_take_85 : decode cX7_take 85 = .ok (.iconst 0, 1) := by decide +kernel
theorem dX7_take_86 : decode cX7_take 86 = .ok (.invokevirtual 193, 3) := by decide +kernel
theorem dX7_take_89 : decode cX7_take 89 = .ok (.istore 5, 2) := by decide +kernel
theorem dX7_take_91 : decode cX7_take 91 = .ok (.aload_n 0, 1) := by decide +kernel
theorem dX7_take_92 : decode cX7_take 92 = .ok (.iload_n 2, 1) := by decide +kernel
theorem dX7_take_93 : decode cX7_take 93 = .ok (.invokevirtual 197, 3) := by decide +kernel
theorem dX7_take_96 : decode cX7_take 96 = .ok (.istore_n 3, 1) := by decide +kernel
theorem dX7_take_97 : decode cX7_take 97 = .ok (.aload_n 0, 1) := by decide +kernel
theorem dX7_take_98 : decode cX7_take 98 = .ok (.getfield 28, 3) := by decide +kernel
theorem dX7_take_101 : decode cX7_take 101 = .ok (.bipush 22, 2) := by decide +kernel
theorem dX7_take_103 : decode cX7_take 103 = .ok (.iconst 4, 1) := by decide +kernel
theorem dX7_take_104 : decode cX7_take 104 = .ok (.iload_n 3, 1) := by decide +kernel
theorem dX7_take_105 : decode cX7_take 105 = .ok (.imul, 1) := by decide +kernel
theorem dX7_take_106 : decode cX7_take 106 = .ok (.iadd, 1) := by decide +kernel
theorem dX7_take_107 : decode cX7_take 107 = .ok (.iconst 3, 1) := by decide +kernel
theorem dX7_take_108 : decode cX7_take 108 = .ok (.iadd, 1) := by decide +kernel
theorem dX7_take_109 : decode cX7_take 109 = .ok (.iload_n 1, 1) := by decide +kernel
theorem dX7_take_110 : decode cX7_take 110 = .ok (.iastore, 1) := by decide +kernel
theorem dX7_take_111 : decode cX7_take 111 = .ok (.aload_n 0, 1) := by decide +kernel
theorem dX7_take_112 : decode cX7_take 112 = .ok (.getfield 28, 3) := by decide +kernel
theorem dX7_take_115 : decode cX7_take 115 = .ok (.bipush 6, 2) := by decide +kernel
theorem dX7_take_117 : decode cX7_take 117 = .ok (.iconst 4, 1) := by decide +kernel
theorem dX7_take_118 : decode cX7_take 118 = .ok (.iload_n 1, 1) := by decide +kernel
theorem dX7_take_119 : decode cX7_take 119 = .ok (.imul, 1) := by decide +kernel
theorem dX7_take_120 : decode cX7_take 120 = .ok (.iadd, 1) := by decide +kernel
theorem dX7_take_121 : decode cX7_take 121 = .ok (.iconst 1, 1) := by decide +kernel
theorem dX7_take_122 : decode cX7_take 122 = .ok (.iadd, 1) := by decide +kernel
theorem dX7_take_123 : decode cX7_take 123 = .ok (.dup2, 1) := by decide +kernel
theorem dX7_take_124 : decode cX7_take 124 = .ok (.iaload, 1) := by decide +kernel
theorem dX7_take_125 : decode cX7_take 125 = .ok (.iload 4, 2) := by decide +kernel
theorem dX7_take_127 : decode cX7_take 127 = .ok (.isub, 1) := by decide +kernel
theorem dX7_take_128 : decode cX7_take 128 = .ok (.iastore, 1) := by decide +kernel
theorem dX7_take_129 : decode cX7_take 129 = .ok (.aload_n 0, 1) := by decide +kernel
theorem dX7_take_130 : decode cX7_take 130 = .ok (.getfield 28, 3) := by decide +kernel
theorem dX7_take_133 : decode cX7_take 133 = .ok (.bipush 6, 2) := by decide +kernel
theorem dX7_take_135 : decode cX7_take 135 = .ok (.iconst 4, 1) := by decide +kernel
theorem dX7_take_136 : decode cX7_take 136 = .ok (.iload_n 1, 1) := by decide +kernel
theorem dX7_take_137 : decode cX7_take 137 = .ok (.imul, 1) := by decide +kernel
theorem dX7_take_138 : decode cX7_take 138 = .ok (.iadd, 1) := by decide +kernel
theorem dX7_take_139 : decode cX7_take 139 = .ok (.iconst 2, 1) := by decide +kernel
theorem dX7_take_140 : decode cX7_take 140 = .ok (.iadd, 1) := by decide +kernel
theorem dX7_take_141 : decode cX7_take 141 = .ok (.dup2, 1) := by decide +kernel
theorem dX7_take_142 : decode cX7_take 142 = .ok (.iaload, 1) := by decide +kernel
theorem dX7_take_143 : decode cX7_take 143 = .ok (.iload 5, 2) := by decide +kernel
theorem dX7_take_145 : decode cX7_take 145 = .ok (.iadd, 1) := by decide +kernel
theorem dX7_take_146 : decode cX7_take 146 = .ok (.iastore, 1) := by decide +kernel
theorem dX7_take_147 : decode cX7_take 147 = .ok (.aload_n 0, 1) := by decide +kernel
theorem dX7_take_148 : decode cX7_take 148 = .ok (.getfield 28, 3) := by decide +kernel
theorem dX7_take_151 : decode cX7_take 151 = .ok (.bipush 6, 2) := by decide +kernel
theorem dX7_take_153 : decode cX7_take 153 = .ok (.iconst 4, 1) := by decide +kernel
theorem dX7_take_154 : decode cX7_take 154 = .ok (.iload_n 1, 1) := by decide +kernel
theorem dX7_take_155 : decode cX7_take 155 = .ok (.imul, 1) := by decide +kernel
theorem dX7_take_156 : decode cX7_take 156 = .ok (.iadd, 1) := by decide +kernel
theorem dX7_take_157 : decode cX7_take 157 = .ok (.iconst 3, 1) := by decide +kernel
theorem dX7_take_158 : decode cX7_take 158 = .ok (.iadd, 1) := by decide +kernel
theorem dX7_take_159 : decode cX7_take 159 = .ok (.dup2, 1) := by decide +kernel
theorem dX7_take_160 : decode cX7_take 160 = .ok (.iaload, 1) := by decide +kernel
theorem dX7_take_161 : decode cX7_take 161 = .ok (.iconst 1, 1) := by decide +kernel
theorem dX7_take_162 : decode cX7_take 162 = .ok (.iadd, 1) := by decide +kernel
theorem dX7_take_163 : decode cX7_take 163 = .ok (.iastore, 1) := by decide +kernel
theorem dX7_take_164 : decode cX7_take 164 = .ok (.aload_n 0, 1) := by decide +kernel
theorem dX7_take_165 : decode cX7_take 165 = .ok (.iconst 0, 1) := by decide +kernel
theorem dX7_take_166 : decode cX7_take 166 = .ok (.iload_n 2, 1) := by decide +kernel
theorem dX7_take_167 : decode cX7_take 167 = .ok (.iload_n 1, 1) := by decide +kernel
theorem dX7_take_168 : decode cX7_take 168 = .ok (.iload 4, 2) := by decide +kernel
theorem dX7_take_170 : decode cX7_take 170 = .ok (.iload 5, 2) := by decide +kernel
theorem dX7_take_172 : decode cX7_take 172 = .ok (.invokevirtual 200, 3) := by decide +kernel
theorem dX7_take_175 : decode cX7_take 175 = .ok (.aload_n 0, 1) := by decide +kernel
theorem dX7_take_176 : decode cX7_take 176 = .ok (.getfield 38, 3) := by decide +kernel
theorem dX7_take_179 : decode cX7_take 179 = .ok (.iconst 5, 1) := by decide +kernel
theorem dX7_take_180 : decode cX7_take 180 = .ok (.aload_n 0, 1) := by decide +kernel
theorem dX7_take_181 : decode cX7_take 181 = .ok (.getfield 173, 3) := by decide +kernel
theorem dX7_take_184 : decode cX7_take 184 = .ok (.iconst 1, 1) := by decide +kernel
theorem dX7_take_185 : decode cX7_take 185 = .ok (.isub, 1) := by decide +kernel
theorem dX7_take_186 : decode cX7_take 186 = .ok (.imul, 1) := by decide +kernel
theorem dX7_take_187 : decode cX7_take 187 = .ok (.iconst 3, 1) := by decide +kernel
theorem dX7_take_188 : decode cX7_take 188 = .ok (.iload_n 3, 1) := by decide +kernel
theorem dX7_take_189 : decode cX7_take 189 = .ok (.iadd, 1) := by decide +kernel
theorem dX7_take_190 : decode cX7_take 190 = .ok (.iastore, 1) := by decide +kernel
theorem dX7_take_191 : decode cX7_take 191 = .ok (.iload 5, 2) := by decide +kernel
theorem dX7_take_193 : decode cX7_take 193 = .ok (.ireturn, 1) := by decide +kernel
theorem dX7_lay_0 : decode cX7_lay 0 = .ok (.aload_n 0, 1) := by decide +kernel
theorem dX7_lay_1 : decode cX7_lay 1 = .ok (.getfield 28, 3) := by decide +kernel
theorem dX7_lay_4 : decode cX7_lay 4 = .ok (.iconst 0, 1) := by decide +kernel
theorem dX7_lay_5 : decode cX7_lay 5 = .ok (.iaload, 1) := by decide +kernel
theorem dX7_lay_6 : decode cX7_lay 6 = .ok (.ifCond .ne 6, 3) := by decide +kernel
theorem dX7_lay_9 : decode cX7_lay 9 = .ok (.ldc 192, 2) := by decide +kernel
theorem dX7_lay_11 : decode cX7_lay 11 = .ok (.ireturn, 1) := by decide +kernel
theorem dX7_lay_12 : decode cX7_lay 12 = .ok (.iload_n 1, 1) := by decide +kernel
theorem dX7_lay_13 : decode cX7_lay 13 = .ok (.iconst 1, 1) := by decide +kernel
theorem dX7_lay_14 : decode cX7_lay 14 = .ok (.iconst 5, 1) := by decide +kernel
theorem dX7_lay_15 : decode cX7_lay 15 = .ok (.invokestatic 67, 3) := by decide +kernel
theorem dX7_lay_18 : decode cX7_lay 18 = .ok (.ifCond .eq 22, 3) := by decide +kernel
theorem dX7_lay_21 : decode cX7_lay 21 = .ok (.iload_n 2, 1) := by decide +kernel
theorem dX7_lay_22 : decode cX7_lay 22 = .ok (.iconst 0, 1) := by decide +kernel
theorem dX7_lay_23 : decode cX7_lay 23 = .ok (.bipush 30, 2) := by decide +kernel
theorem dX7_lay_25 : decode cX7_lay 25 = .ok (.invokestatic 67, 3) := by decide +kernel
theorem dX7_lay_28 : decode cX7_lay 28 = .ok (.ifCond .eq 12, 3) := by decide +kernel
theorem dX7_lay_31 : decode cX7_lay 31 = .ok (.iload_n 3, 1) := by decide +kernel
theorem dX7_lay_32 : decode cX7_lay 32 = .ok (.iconst 0, 1) := by decide +kernel
theorem dX7_lay_33 : decode cX7_lay 33 = .ok (.iconst 1, 1) := by decide +kernel
theorem dX7_lay_34 : decode cX7_lay 34 = .ok (.invokestatic 67, 3) := by decide +kernel
theorem dX7_lay_37 : decode cX7_lay 37 = .ok (.ifCond .ne 6, 3) := by decide +kernel
theorem dX7_lay_40 : decode cX7_lay 40 = .ok (.ldc 75, 2) := by decide +kernel
theorem dX7_lay_42 : decode cX7_lay 42 = .ok (.ireturn, 1) := by decide +kernel
theorem dX7_lay_43 : decode cX7_lay 43 = .ok (.aload_n 0, 1) := by decide +kernel
theorem dX7_lay_44 : decode cX7_lay 44 = .ok (.getfield 28, 3) := by decide +kernel
theorem dX7_lay_47 : decode cX7_lay 47 = .ok (.iconst 3, 1) := by decide +kernel
theorem dX7_lay_48 : decode cX7_lay 48 = .ok (.iaload, 1) := by decide +kernel
theorem dX7_lay_49 : decode cX7_lay 49 = .ok (.bipush 16, 2) := by decide +kernel
theorem dX7_lay_51 : decode cX7_lay 51 = .ok (.if_icmp .ne 6, 3) := by decide +kernel
theorem dX7_lay_54 : decode cX7_lay 54 = .ok (.ldc 89, 2) := by decide +kernel
theorem dX7_lay_56 : decode cX7_lay 56 = .ok (.ireturn, 1) := by decide +kernel
theorem dX7_lay_57 : decode cX7_lay 57 = .ok (.aload_n 0, 1) := by decide +kernel
theorem dX7_lay_58 : decode cX7_lay 58 = .ok (.getfield 28, 3) := by decide +kernel
theorem dX7_lay_61 : decode cX7_lay 61 = .ok (.iconst 3, 1) := by decide +kernel
theorem dX7_lay_62 : decode cX7_lay 62 = .ok (.iaload, 1) := by decide +kernel
theorem dX7_lay_63 : decode cX7_lay 63 = .ok (.istore 4, 2) := by decide +kernel
theorem dX7_lay_65 : decode cX7_lay 65 = .ok (.aload_n 0, 1) := by decide +kernel
theorem dX7_lay_66 : decode cX7_lay 66 = .ok (.getfield 28, 3) := by decide +kernel
theorem dX7_lay_69 : decode cX7_lay 69 = .ok (.iconst 3, 1) := by decide +kernel
theorem dX7_lay_70 : decode cX7_lay 70 = .ok (.dup2, 1) := by decide +kernel
theorem dX7_lay_71 : decode cX7_lay 71 = .ok (.iaload, 1) := by decide +kernel
theorem dX7_lay_72 : decode cX7_lay 72 = .ok (.iconst 1, 1) := by decide +kernel
theorem dX7_lay_73 : decode cX7_lay 73 = .ok (.iadd, 1) := by decide +kernel
theorem dX7_lay_74 : decode cX7_lay 74 = .ok (.iastore, 1) := by decide +kernel
theorem dX7_lay_75 : decode cX7_lay 75 = .ok (.aload_n 0, 1) := by decide +kernel
theorem dX7_lay_76 : decode cX7_lay 76 = .ok (.getfield 28, 3) := by decide +kernel
theorem dX7_lay_79 : decode cX7_lay 79 = .ok (.bipush 22, 2) := by decide +kernel
theorem dX7_lay_81 : decode cX7_lay 81 = .ok (.iconst 4, 1) := by decide +kernel
theorem dX7_lay_82 : decode cX7_lay 82 = .ok (.iload 4, 2) := by decide +kernel
theorem dX7_lay_84 : decode cX7_lay 84 = .ok (.imul, 1) := by decide +kernel
theorem dX7_lay_85 : decode cX7_lay 85 = .ok (.iadd, 1) := by decide +kernel
theorem dX7_lay_86 : decode cX7_lay 86 = .ok (.iload_n 1, 1) := by decide +kernel
theorem dX7_lay_87 : decode cX7_lay 87 = .ok (.iastore, 1) := by decide +kernel
theorem dX7_lay_88 : decode cX7_lay 88 = .ok (.aload_n 0, 1) := by decide +kernel
theorem dX7_lay_89 : decode cX7_lay 89 = .ok (.getfield 28, 3) := by decide +kernel
theorem dX7_lay_92 : decode cX7_lay 92 = .ok (.bipush 22, 2) := by decide +kernel
theorem dX7_lay_94 : decode cX7_lay 94 = .ok (.iconst 4, 1) := by decide +kernel
theorem dX7_lay_95 : decode cX7_lay 95 = .ok (.iload 4, 2) := by decide +kernel
theorem dX7_lay_97 : decode cX7_lay 97 = .ok (.imul, 1) := by decide +kernel
theorem dX7_lay_98 : decode cX7_lay 98 = .ok (.iadd, 1) := by decide +kernel
theorem dX7_lay_99 : decode cX7_lay 99 = .ok (.iconst 1, 1) := by decide +kernel
theorem dX7_lay_100 : decode cX7_lay 100 = .ok (.iadd, 1) := by decide +kernel
theorem dX7_lay_101 : decode cX7_lay 101 = .ok (.iload_n 2, 1) := by decide +kernel
theorem dX7_lay_102 : decode cX7_lay 102 = .ok (.iastore, 1) := by decide +kernel
theorem dX7_lay_103 : decode cX7_lay 103 = .ok (.aload_n 0, 1) := by decide +kernel
theorem dX7_lay_104 : decode cX7_lay 104 = .ok (.getfield 28, 3) := by decide +kernel
theorem dX7_lay_107 : decode cX7_lay 107 = .ok (.bipush 22, 2) := by decide +kernel
theorem dX7_lay_109 : decode cX7_lay 109 = .ok (.iconst 4, 1) := by decide +kernel
theorem dX7_lay_110 : decode cX7_lay 110 = .ok (.iload 4, 2) := by decide +kernel
theorem dX7_lay_112 : decode cX7_lay 112 = .ok (.imul, 1) := by decide +kernel
theorem dX7_lay_113 : decode cX7_lay 113 = .ok (.iadd, 1) := by decide +kernel
theorem dX7_lay_114 : decode cX7_lay 114 = .ok (.iconst 2, 1) := by decide +kernel
theorem dX7_lay_115 : decode cX7_lay 115 = .ok (.iadd, 1) := by decide +kernel
theorem dX7_lay_116 : decode cX7_lay 116 = .ok (.iconst 0, 1) := by decide +kernel
theorem dX7_lay_117 : decode cX7_lay 117 = .ok (.iastore, 1) := by decide +kernel
theorem dX7_lay_118 : decode cX7_lay 118 = .ok (.aload_n 0, 1) := by decide +kernel
theorem dX7_lay_119 : decode cX7_lay 119 = .ok (.getfield 28, 3) := by decide +kernel
theorem dX7_lay_122 : decode cX7_lay 122 = .ok (.bipush 22, 2) := by decide +kernel
theorem dX7_lay_124 : decode cX7_lay 124 = .ok (.iconst 4, 1) := by decide +kernel
theorem dX7_lay_125 : decode cX7_lay 125 = .ok (.iload 4, 2) := by decide +kernel
theorem dX7_lay_127 : decode cX7_lay 127 = .ok (.imul, 1) := by decide +kernel
theorem dX7_lay_128 : decode cX7_lay 128 = .ok (.iadd, 1) := by decide +kernel
theorem dX7_lay_129 : decode cX7_lay 129 = .ok (.iconst 3, 1) := by decide +kernel
theorem dX7_lay_130 : decode cX7_lay 130 = .ok (.iadd, 1) := by decide +kernel
theorem dX7_lay_131 : decode cX7_lay 131 = .ok (.ldc 172, 2) := by decide +kernel
theorem dX7_lay_133 : decode cX7_lay 133 = .ok (.iastore, 1) := by decide +kernel
theorem dX7_lay_134 : decode cX7_lay 134 = .ok (.aload_n 0, 1) := by decide +kernel
theorem dX7_lay_135 : decode cX7_lay 135 = .ok (.iload_n 3, 1) := by decide +kernel
theorem dX7_lay_136 : decode cX7_lay 136 = .ok (.iload 4, 2) := by decide +kernel
theorem dX7_lay_138 : decode cX7_lay 138 = .ok (.invokevirtual 204, 3) := by decide +kernel
theorem dX7_lay_141 : decode cX7_lay 141 = .ok (.aload_n 0, 1) := by decide +kernel
theorem dX7_lay_142 : decode cX7_lay 142 = .ok (.iconst 1, 1) := by decide +kernel
theorem dX7_lay_143 : decode cX7_lay 143 = .ok (.iload_n 3, 1) := by decide +kernel
theorem dX7_lay_144 : decode cX7_lay 144 = .ok (.iconst 0, 1) := by decide +kernel
theorem dX7_lay_145 : decode cX7_lay 145 = .ok (.iconst 0, 1) := by decide +kernel
theorem dX7_lay_146 : decode cX7_lay 146 = .ok (.iconst 0, 1) := by decide +kernel
theorem dX7_lay_147 : decode cX7_lay 147 = .ok (.invokevirtual 200, 3) := by decide +kernel
theorem dX7_lay_150 : decode cX7_lay 150 = .ok (.iload 4, 2) := by decide +kernel
theorem dX7_lay_152 : decode cX7_lay 152 = .ok (.ireturn, 1) := by decide +kernel
theorem dX7_grow_0 : decode cX7_grow 0 = .ok (.iconst 0, 1) := by decide +kernel
theorem dX7_grow_1 : decode cX7_grow 1 = .ok (.istore_n 2, 1) := by decide +kernel
theorem dX7_grow_2 : decode cX7_grow 2 = .ok (.iload_n 2, 1) := by decide +kernel
theorem dX7_grow_3 : decode cX7_grow 3 = .ok (.aload_n 0, 1) := by decide +kernel
theorem dX7_grow_4 : decode cX7_grow 4 = .ok (.getfield 28, 3) := by decide +kernel
theorem dX7_grow_7 : decode cX7_grow 7 = .ok (.iconst 5, 1) := by decide +kernel
theorem dX7_grow_8 : decode cX7_grow 8 = .ok (.iaload, 1) := by decide +kernel
theorem dX7_grow_9 : decode cX7_grow 9 = .ok (.if_icmp .ge 30, 3) := by decide +kernel
theorem dX7_grow_12 : decode cX7_grow 12 = .ok (.aload_n 0, 1) := by decide +kernel
theorem dX7_grow_13 : decode cX7_grow 13 = .ok (.getfield 28, 3) := by decide +kernel
theorem dX7_grow_16 : decode cX7_grow 16 = .ok (.bipush 22, 2) := by decide +kernel
theorem dX7_grow_18 : decode cX7_grow 18 = .ok (.iconst 4, 1) := by decide +kernel
theorem dX7_grow_19 : decode cX7_grow 19 = .ok (.aload_n 0, 1) := by decide +kernel
theorem dX7_grow_20 : decode cX7_grow 20 = .ok (.iload_n 2, 1) := by decide +kernel
theorem dX7_grow_21 : decode cX7_grow 21 = .ok (.invokevirtual 189, 3) := by decide +kernel
theorem dX7_grow_24 : decode cX7_grow 24 = .ok (.imul, 1) := by decide +kernel
theorem dX7_grow_25 : decode cX7_grow 25 = .ok (.iadd, 1) := by decide +kernel
theorem dX7_grow_26 : decode cX7_grow 26 = .ok (.iconst 2, 1) := by decide +kernel
theorem dX7_grow_27 : decode cX7_grow 27 = .ok (.iadd, 1) := by decide +kernel
theorem dX7_grow_28 : decode cX7_grow 28 = .ok (.dup2, 1) := by decide +kernel
theorem dX7_grow_29 : decode cX7_grow 29 = .ok (.iaload, 1) := by decide +kernel
theorem dX7_grow_30 : decode cX7_grow 30 = .ok (.iload_n 1, 1) := by decide +kernel
theorem dX7_grow_31 : decode cX7_grow 31 = .ok (.iadd, 1) := by decide +kernel
theorem dX7_grow_32 : decode cX7_grow 32 = .ok (.iastore, 1) := by decide +kernel
theorem dX7_grow_33 : decode cX7_grow 33 = .ok (.iinc 2 1, 3) := by decide +kernel
theorem dX7_grow_36 : decode cX7_grow 36 = .ok (.goto (-34), 3) := by decide +kernel
theorem dX7_grow_39 : decode cX7_grow 39 = .ok (.aload_n 0, 1) := by decide +kernel
theorem dX7_grow_40 : decode cX7_grow 40 = .ok (.getfield 28, 3) := by decide +kernel
theorem dX7_grow_43 : decode cX7_grow 43 = .ok (.iconst 4, 1) := by decide +kernel
theorem dX7_grow_44 : decode cX7_grow 44 = .ok (.dup2, 1) := by decide +kernel
theorem dX7_grow_45 : decode cX7_grow 45 = .ok (.iaload, 1) := by decide +kernel
theorem dX7_grow_46 : decode cX7_grow 46 = .ok (.iload_n 1, 1) := by decide +kernel
theorem dX7_grow_47 : decode cX7_grow 47 = .ok (.iadd, 1) := by decide +kernel
theorem dX7_grow_48 : decode cX7_grow 48 = .ok (.iastore, 1) := by decide +kernel
theorem dX7_grow_49 : decode cX7_grow 49 = .ok (.return_, 1) := by decide +kernel
theorem dX7_rotten_0 : decode cX7_rotten 0 = .ok (.iconst 0, 1) := by decide +kernel
theorem dX7_rotten_1 : decode cX7_rotten 1 = .ok (.istore_n 2, 1) := by decide +kernel
theorem dX7_rotten_2 : decode cX7_rotten 2 = .ok (.iconst 0, 1) := by decide +kernel
theorem dX7_rotten_3 : decode cX7_rotten 3 = .ok (.istore_n 3, 1) := by decide +kernel
theorem dX7_rotten_4 : decode cX7_rotten 4 = .ok (.iload_n 3, 1) := by decide +kernel
theorem dX7_rotten_5 : decode cX7_rotten 5 = .ok (.aload_n 0, 1) := by decide +kernel
theorem dX7_rotten_6 : decode cX7_rotten 6 = .ok (.getfield 28, 3) := by decide +kernel
theorem dX7_rotten_9 : decode cX7_rotten 9 = .ok (.iconst 5, 1) := by decide +kernel
theorem dX7_rotten_10 : decode cX7_rotten 10 = .ok (.iaload, 1) := by decide +kernel
theorem dX7_rotten_11 : decode cX7_rotten 11 = .ok (.if_icmp .ge 36, 3) := by decide +kernel
theorem dX7_rotten_14 : decode cX7_rotten 14 = .ok (.iload_n 2, 1) := by decide +kernel
theorem dX7_rotten_15 : decode cX7_rotten 15 = .ok (.aload_n 0, 1) := by decide +kernel
theorem dX7_rotten_16 : decode cX7_rotten 16 = .ok (.aload_n 0, 1) := by decide +kernel
theorem dX7_rotten_17 : decode cX7_rotten 17 = .ok (.iload_n 3, 1) := by decide +kernel
theorem dX7_rotten_18 : decode cX7_rotten 18 = .ok (.invokevirtual 189, 3) := by decide +kernel
theorem dX7_rotten_21 : decode cX7_rotten 21 = .ok (.iload_n 1, 1) := by decide +kernel
theorem dX7_rotten_22 : decode cX7_rotten 22 = .ok (.invokevirtual 185, 3) := by decide +kernel
theorem dX7_rotten_25 : decode cX7_rotten 25 = .ok (.ifCond .ne 13, 3) := by decide +kernel
theorem dX7_rotten_28 : decode cX7_rotten 28 = .ok (.iconst 1, 1) := by decide +kernel
theorem dX7_rotten_29 : decode cX7_rotten 29 = .ok (.aload_n 0, 1) := by decide +kernel
theorem dX7_rotten_30 : decode cX7_rotten 30 = .ok (.iload_n 3, 1) := by decide +kernel
theorem dX7_rotten_31 : decode cX7_rotten 31 = .ok (.invokevirtual 189, 3) := by decide +kernel
theorem dX7_rotten_34 : decode cX7_rotten 34 = .ok (.ishl, 1) := by decide +kernel
theorem dX7_rotten_35 : decode cX7_rotten 35 = .ok (.goto 4, 3) := by decide +kernel
theorem dX7_rotten_38 : decode cX7_rotten 38 = .ok (.iconst 0, 1) := by decide +kernel
theorem dX7_rotten_39 : decode cX7_rotten 39 = .ok (.ior, 1) := by decide +kernel
theorem dX7_rotten_40 : decode cX7_rotten 40 = .ok (.istore_n 2, 1) := by decide +kernel
theorem dX7_rotten_41 : decode cX7_rotten 41 = .ok (.iinc 3 1, 3) := by decide +kernel
theorem dX7_rotten_44 : decode cX7_rotten 44 = .ok (.goto (-40), 3) := by decide +kernel
theorem dX7_rotten_47 : decode cX7_rotten 47 = .ok (.iload_n 2, 1) := by decide +kernel
theorem dX7_rotten_48 : decode cX7_rotten 48 = .ok (.ireturn, 1) := by decide +kernel
theorem dX7_day_0 : decode cX7_day 0 = .ok (.aload_n 0, 1) := by decide +kernel
theorem dX7_day_1 : decode cX7_day 1 = .ok (.getfield 28, 3) := by decide +kernel
theorem dX7_day_4 : decode cX7_day 4 = .ok (.iconst 0, 1) := by decide +kernel
theorem dX7_day_5 : decode cX7_day 5 = .ok (.iaload, 1) := by decide +kernel
theorem dX7_day_6 : decode cX7_day 6 = .ok (.ifCond .ne 6, 3) := by decide +kernel
theorem dX7_day_9 : decode cX7_day 9 = .ok (.ldc 192, 2) := by decide +kernel
theorem dX7_day_11 : decode cX7_day 11 = .ok (.ireturn, 1) := by decide +kernel
theorem dX7_day_12 : decode cX7_day 12 = .ok (.aload_n 0, 1) := by decide +kernel
theorem dX7_day_13 : decode cX7_day 13 = .ok (.getfield 28, 3) := by decide +kernel
theorem dX7_day_16 : decode cX7_day 16 = .ok (.iconst 4, 1) := by decide +kernel
theorem dX7_day_17 : decode cX7_day 17 = .ok (.iaload, 1) := by decide +kernel
theorem dX7_day_18 : decode cX7_day 18 = .ok (.sipush 999, 3) := by decide +kernel
theorem dX7_day_21 : decode cX7_day 21 = .ok (.if_icmp .ne 6, 3) := by decide +kernel
theorem dX7_day_24 : decode cX7_day 24 = .ok (.ldc 89, 2) := by decide +kernel
theorem dX7_day_26 : decode cX7_day 26 = .ok (.ireturn, 1) := by decide +kernel
theorem dX7_day_27 : decode cX7_day 27 = .ok (.aload_n 0, 1) := by decide +kernel
theorem dX7_day_28 : decode cX7_day 28 = .ok (.iconst 0, 1) := by decide +kernel
theorem dX7_day_29 : decode cX7_day 29 = .ok (.invokevirtual 208, 3) := by decide +kernel
theorem dX7_day_32 : decode cX7_day 32 = .ok (.istore_n 1, 1) := by decide +kernel
theorem dX7_day_33 : decode cX7_day 33 = .ok (.aload_n 0, 1) := by decide +kernel
theorem dX7_day_34 : decode cX7_day 34 = .ok (.iconst 1, 1) := by decide +kernel
theorem dX7_day_35 : decode cX7_day 35 = .ok (.invokevirtual 211, 3) := by decide +kernel
theorem dX7_day_38 : decode cX7_day 38 = .ok (.aload_n 0, 1) := by decide +kernel
theorem dX7_day_39 : decode cX7_day 39 = .ok (.iconst 2, 1) := by decide +kernel
theorem dX7_day_40 : decode cX7_day 40 = .ok (.iconst 0, 1) := by decide +kernel
theorem dX7_day_41 : decode cX7_day 41 = .ok (.iconst 0, 1) := by decide +kernel
theorem dX7_day_42 : decode cX7_day 42 = .ok (.iconst 0, 1) := by decide +kernel
theorem dX7_day_43 : decode cX7_day 43 = .ok (.iconst 0, 1) := by decide +kernel
theorem dX7_day_44 : decode cX7_day 44 = .ok (.invokevirtual 200, 3) := by decide +kernel
theorem dX7_day_47 : decode cX7_day 47 = .ok (.aload_n 0, 1) := by decide +kernel
theorem dX7_day_48 : decode cX7_day 48 = .ok (.iconst 0, 1) := by decide +kernel
theorem dX7_day_49 : decode cX7_day 49 = .ok (.invokevirtual 208, 3) := by decide +kernel
theorem dX7_day_52 : decode cX7_day 52 = .ok (.iload_n 1, 1) := by decide +kernel
theorem dX7_day_53 : decode cX7_day 53 = .ok (.iconst (-1), 1) := by decide +kernel
theorem dX7_day_54 : decode cX7_day 54 = .ok (.ixor, 1) := by decide +kernel
theorem dX7_day_55 : decode cX7_day 55 = .ok (.iand, 1) := by decide +kernel
theorem dX7_day_56 : decode cX7_day 56 = .ok (.ireturn, 1) := by decide +kernel
theorem dX7_undo_0 : decode cX7_undo 0 = .ok (.aload_n 0, 1) := by decide +kernel
theorem dX7_undo_1 : decode cX7_undo 1 = .ok (.getfield 173, 3) := by decide +kernel
theorem dX7_undo_4 : decode cX7_undo 4 = .ok (.ifCond .ne 6, 3) := by decide +kernel
theorem dX7_undo_7 : decode cX7_undo 7 = .ok (.ldc 192, 2) := by decide +kernel
theorem dX7_undo_9 : decode cX7_undo 9 = .ok (.ireturn, 1) := by decide +kernel
theorem dX7_undo_10 : decode cX7_undo 10 = .ok (.aload_n 0, 1) := by decide +kernel
theorem dX7_undo_11 : decode cX7_undo 11 = .ok (.dup, 1) := by decide +kernel
theorem dX7_undo_12 : decode cX7_undo 12 = .ok (.getfield 173, 3) := by decide +kernel
theorem dX7_undo_15 : decode cX7_undo 15 = .ok (.iconst 1, 1) := by decide +kernel
theorem dX7_undo_16 : decode cX7_undo 16 = .ok (.isub, 1) := by decide +kernel
theorem dX7_undo_17 : decode cX7_undo 17 = .ok (.putfield 173, 3) := by decide +kernel
theorem dX7_undo_20 : decode cX7_undo 20 = .ok (.aload_n 0, 1) := by decide +kernel
theorem dX7_undo_21 : decode cX7_undo 21 = .ok (.getfield 38, 3) := by decide +kernel
theorem dX7_undo_24 : decode cX7_undo 24 = .ok (.iconst 5, 1) := by decide +kernel
theorem dX7_undo_25 : decode cX7_undo 25 = .ok (.aload_n 0, 1) := by decide +kernel
theorem dX7_undo_26 : decode cX7_undo 26 = .ok (.getfield 173, 3) := by decide +kernel
theorem dX7_undo_29 : decode cX7_undo 29 = .ok (.imul, 1) := by decide +kernel
theorem dX7_undo_30 : decode cX7_undo 30 = .ok (.iaload, 1) := by decide +kernel
theorem dX7_undo_31 : decode cX7_undo 31 = .ok (.istore_n 1, 1) := by decide +kernel
theorem dX7_undo_32 : decode cX7_undo 32 = .ok (.aload_n 0, 1) := by decide +kernel
theorem dX7_undo_33 : decode cX7_undo 33 = .ok (.getfield 38, 3) := by decide +kernel
theorem dX7_undo_36 : decode cX7_undo 36 = .ok (.iconst 5, 1) := by decide +kernel
theorem dX7_undo_37 : decode cX7_undo 37 = .ok (.aload_n 0, 1) := by decide +kernel
theorem dX7_undo_38 : decode cX7_undo 38 = .ok (.getfield 173, 3) := by decide +kernel
theorem dX7_undo_41 : decode cX7_undo 41 = .ok (.imul, 1) := by decide +kernel
theorem dX7_undo_42 : decode cX7_undo 42 = .ok (.iconst 1, 1) := by decide +kernel
theorem dX7_undo_43 : decode cX7_undo 43 = .ok (.iadd, 1) := by decide +kernel
theorem dX7_undo_44 : decode cX7_undo 44 = .ok (.iaload, 1) := by decide +kernel
theorem dX7_undo_45 : decode cX7_undo 45 = .ok (.istore_n 2, 1) := by decide +kernel
theorem dX7_undo_46 : decode cX7_undo 46 = .ok (.aload_n 0, 1) := by decide +kernel
theorem dX7_undo_47 : decode cX7_undo 47 = .ok (.getfield 38, 3) := by decide +kernel
theorem dX7_undo_50 : decode cX7_undo 50 = .ok (.iconst 5, 1) := by decide +kernel
theorem dX7_undo_51 : decode cX7_undo 51 = .ok (.aload_n 0, 1) := by decide +kernel
theorem dX7_undo_52 : decode cX7_undo 52 = .ok (.getfield 173, 3) := by decide +kernel
theorem dX7_undo_55 : decode cX7_undo 55 = .ok (.imul, 1) := by decide +kernel
theorem dX7_undo_56 : decode cX7_undo 56 = .ok (.iconst 2, 1) := by decide +kernel
theorem dX7_undo_57 : decode cX7_undo 57 = .ok (.iadd, 1) := by decide +kernel
theorem dX7_undo_58 : decode cX7_undo 58 = .ok (.iaload, 1) := by decide +kernel
theorem dX7_undo_59 : decode cX7_undo 59 = .ok (.istore_n 3, 1) := by decide +kernel
theorem dX7_undo_60 : decode cX7_undo 60 = .ok (.iload_n 1, 1) := by decide +kernel
theorem dX7_undo_61 : decode cX7_undo 61 = .ok (.iconst 1, 1) := by decide +kernel
theorem dX7_undo_62 : decode cX7_undo 62 = .ok (.if_icmp .ne 21, 3) := by decide +kernel
theorem dX7_undo_65 : decode cX7_undo 65 = .ok (.aload_n 0, 1) := by decide +kernel
theorem dX7_undo_66 : decode cX7_undo 66 = .ok (.iload_n 2, 1) := by decide +kernel
theorem dX7_undo_67 : decode cX7_undo 67 = .ok (.invokevirtual 197, 3) := by decide +kernel
theorem dX7_undo_70 : decode cX7_undo 70 = .ok (.istore 4, 2) := by decide +kernel
theorem dX7_undo_72 : decode cX7_undo 72 = .ok (.aload_n 0, 1) := by decide +kernel
theorem dX7_undo_73 : decode cX7_undo 73 = .ok (.getfield 28, 3) := by decide +kernel
theorem dX7_undo_76 : decode cX7_undo 76 = .ok (.iconst 3, 1) := by decide +kernel
theorem dX7_undo_77 : decode cX7_undo 77 = .ok (.iload 4, 2) := by decide +kernel
theorem dX7_undo_79 : decode cX7_undo 79 = .ok (.iastore, 1) := by decide +kernel
theorem dX7_undo_80 : decode cX7_undo 80 = .ok (.goto 116, 3) := by decide +kernel
theorem dX7_undo_83 : decode cX7_undo 83 = .ok (.iload_n 1, 1) := by decide +kernel
theorem dX7_undo_84 : decode cX7_undo 84 = .ok (.iconst 2, 1) := by decide +kernel
theorem dX7_undo_85 : decode cX7_undo 85 = .ok (.if_icmp .ne 11, 3) := by decide +kernel
theorem dX7_undo_88 : decode cX7_undo 88 = .ok (.aload_n 0, 1) := by decide +kernel
theorem dX7_undo_89 : decode cX7_undo 89 = .ok (.iconst (-1), 1) := by decide +kernel
theorem dX7_undo_90 : decode cX7_undo 90 = .ok (.invokevirtual 211, 3) := by decide +kernel
theorem dX7_undo_93 : decode cX7_undo 93 = .ok (.goto 103, 3) := by decide +kernel
theorem dX7_undo_96 : decode cX7_undo 96 = .ok (.aload_n 0, 1) := by decide +kernel
theorem dX7_undo_97 : decode cX7_undo 97 = .ok (.iload_n 2, 1) := by decide +kernel
theorem dX7_undo_98 : decode cX7_undo 98 = .ok (.iload_n 1, 1) := by decide +kernel
theorem dX7_undo_99 : decode cX7_undo 99 = .ok (.iconst 3, 1) := by decide +kernel
theorem dX7_undo_100 : decode cX7_undo 100 = .ok (.isub, 1) := by decide +kernel
theorem dX7_undo_101 : decode cX7_undo 101 = .ok (.invokevirtual 204, 3) := by decide +kernel
theorem dX7_undo_104 : decode cX7_undo 104 = .ok (.aload_n 0, 1) := by decide +kernel
theorem dX7_undo_105 : decode cX7_undo 105 = .ok (.getfield 28, 3) := by decide +kernel
theorem dX7_undo_108 : decode cX7_undo 108 = .ok (.bipush 22, 2) := by decide +kernel
theorem dX7_undo_110 : decode cX7_undo 110 = .ok (.iconst 4, 1) := by decide +kernel
theorem dX7_undo_111 : decode cX7_undo 111 = .ok (.iload_n 1, 1) := by decide +kernel
theorem dX7_undo_112 : decode cX7_undo 112 = .ok (.iconst 3, 1) := by decide +kernel
theorem dX7_undo_113 : decode cX7_undo 113 = .ok (.isub, 1) := by decide +kernel
theorem dX7_undo_114 : decode cX7_undo 114 = .ok (.imul, 1) := by decide +kernel
theorem dX7_undo_115 : decode cX7_undo 115 = .ok (.iadd, 1) := by decide +kernel
theorem dX7_undo_116 : decode cX7_undo 116 = .ok (.iconst 3, 1) := by decide +kernel
theorem dX7_undo_117 : decode cX7_undo 117 = .ok (.iadd, 1) := by decide +kernel
theorem dX7_undo_118 : decode cX7_undo 118 = .ok (.ldc 172, 2) := by decide +kernel
theorem dX7_undo_120 : decode cX7_undo 120 = .ok (.iastore, 1) := by decide +kernel
theorem dX7_undo_121 : decode cX7_undo 121 = .ok (.aload_n 0, 1) := by decide +kernel
theorem dX7_undo_122 : decode cX7_undo 122 = .ok (.getfield 28, 3) := by decide +kernel
theorem dX7_undo_125 : decode cX7_undo 125 = .ok (.bipush 6, 2) := by decide +kernel
theorem dX7_undo_127 : decode cX7_undo 127 = .ok (.iconst 4, 1) := by decide +kernel
theorem dX7_undo_128 : decode cX7_undo 128 = .ok (.iload_n 3, 1) := by decide +kernel
theorem dX7_undo_129 : decode cX7_undo 129 = .ok (.imul, 1) := by decide +kernel
theorem dX7_undo_130 : decode cX7_undo 130 = .ok (.iadd, 1) := by decide +kernel
theorem dX7_undo_131 : decode cX7_undo 131 = .ok (.iconst 1, 1) := by decide +kernel
theorem dX7_undo_132 : decode cX7_undo 132 = .ok (.iadd, 1) := by decide +kernel
theorem dX7_undo_133 : decode cX7_undo 133 = .ok (.dup2, 1) := by decide +kernel
theorem dX7_undo_134 : decode cX7_undo 134 = .ok (.iaload, 1) := by decide +kernel
theorem dX7_undo_135 : decode cX7_undo 135 = .ok (.aload_n 0, 1) := by decide +kernel
theorem dX7_undo_136 : decode cX7_undo 136 = .ok (.getfield 38, 3) := by decide +kernel
theorem dX7_undo_139 : decode cX7_undo 139 = .ok (.iconst 5, 1) := by decide +kernel
theorem dX7_undo_140 : decode cX7_undo 140 = .ok (.aload_n 0, 1) := by decide +kernel
theorem dX7_undo_141 : decode cX7_undo 141 = .ok (.getfield 173, 3) := by decide +kernel
theorem dX7_undo_144 : decode cX7_undo 144 = .ok (.imul, 1) := by decide +kernel
theorem dX7_undo_145 : decode cX7_undo 145 = .ok (.iconst 3, 1) := by decide +kernel
theorem dX7_undo_146 : decode cX7_undo 146 = .ok (.iadd, 1) := by decide +kernel
theorem dX7_undo_147 : decode cX7_undo 147 = .ok (.iaload, 1) := by decide +kernel
theorem dX7_undo_148 : decode cX7_undo 148 = .ok (.iadd, 1) := by decide +kernel
theorem dX7_undo_149 : decode cX7_undo 149 = .ok (.iastore, 1) := by decide +kernel
theorem dX7_undo_150 : decode cX7_undo 150 = .ok (.aload_n 0, 1) := by decide +kernel
theorem dX7_undo_151 : decode cX7_undo 151 = .ok (.getfield 28, 3) := by decide +kernel
theorem dX7_undo_154 : decode cX7_undo 154 = .ok (.bipush 6, 2) := by decide +kernel
theorem dX7_undo_156 : decode cX7_undo 156 = .ok (.iconst 4, 1) := by decide +kernel
theorem dX7_undo_157 : decode cX7_undo 157 = .ok (.iload_n 3, 1) := by decide +kernel
theorem dX7_undo_158 : decode cX7_undo 158 = .ok (.imul, 1) := by decide +kernel
theorem dX7_undo_159 : decode cX7_undo 159 = .ok (.iadd, 1) := by decide +kernel
theorem dX7_undo_160 : decode cX7_undo 160 = .ok (.iconst 2, 1) := by decide +kernel
theorem dX7_undo_161 : decode cX7_undo 161 = .ok (.iadd, 1) := by decide +kernel
theorem dX7_undo_162 : decode cX7_undo 162 = .ok (.dup2, 1) := by decide +kernel
theorem dX7_undo_163 : decode cX7_undo 163 = .ok (.iaload, 1) := by decide +kernel
theorem dX7_undo_164 : decode cX7_undo 164 = .ok (.aload_n 0, 1) := by decide +kernel
theorem dX7_undo_165 : decode cX7_undo 165 = .ok (.getfield 38, 3) := by decide +kernel
theorem dX7_undo_168 : decode cX7_undo 168 = .ok (.iconst 5, 1) := by decide +kernel
theorem dX7_undo_169 : decode cX7_undo 169 = .ok (.aload_n 0, 1) := by decide +kernel
theorem dX7_undo_170 : decode cX7_undo 170 = .ok (.getfield 173, 3) := by decide +kernel
theorem dX7_undo_173 : decode cX7_undo 173 = .ok (.imul, 1) := by decide +kernel
theorem dX7_undo_174 : decode cX7_undo 174 = .ok (.iconst 4, 1) := by decide +kernel
theorem dX7_undo_175 : decode cX7_undo 175 = .ok (.iadd, 1) := by decide +kernel
theorem dX7_undo_176 : decode cX7_undo 176 = .ok (.iaload, 1) := by decide +kernel
theorem dX7_undo_177 : decode cX7_undo 177 = .ok (.isub, 1) := by decide +kernel
theorem dX7_undo_178 : decode cX7_undo 178 = .ok (.iastore, 1) := by decide +kernel
theorem dX7_undo_179 : decode cX7_undo 179 = .ok (.aload_n 0, 1) := by decide +kernel
theorem dX7_undo_180 : decode cX7_undo 180 = .ok (.getfield 28, 3) := by decide +kernel
theorem dX7_undo_183 : decode cX7_undo 183 = .ok (.bipush 6, 2) := by decide +kernel
theorem dX7_undo_185 : decode cX7_undo 185 = .ok (.iconst 4, 1) := by decide +kernel
theorem dX7_undo_186 : decode cX7_undo 186 = .ok (.iload_n 3, 1) := by decide +kernel
theorem dX7_undo_187 : decode cX7_undo 187 = .ok (.imul, 1) := by decide +kernel
theorem dX7_undo_188 : decode cX7_undo 188 = .ok (.iadd, 1) := by decide +kernel
theorem dX7_undo_189 : decode cX7_undo 189 = .ok (.iconst 3, 1) := by decide +kernel
theorem dX7_undo_190 : decode cX7_undo 190 = .ok (.iadd, 1) := by decide +kernel
theorem dX7_undo_191 : decode cX7_undo 191 = .ok (.dup2, 1) := by decide +kernel
theorem dX7_undo_192 : decode cX7_undo 192 = .ok (.iaload, 1) := by decide +kernel
theorem dX7_undo_193 : decode cX7_undo 193 = .ok (.iconst 1, 1) := by decide +kernel
theorem dX7_undo_194 : decode cX7_undo 194 = .ok (.isub, 1) := by decide +kernel
theorem dX7_undo_195 : decode cX7_undo 195 = .ok (.iastore, 1) := by decide +kernel
theorem dX7_undo_196 : decode cX7_undo 196 = .ok (.aload_n 0, 1) := by decide +kernel
theorem dX7_undo_197 : decode cX7_undo 197 = .ok (.getfield 173, 3) := by decide +kernel
theorem dX7_undo_200 : decode cX7_undo 200 = .ok (.ireturn, 1) := by decide +kernel
theorem dX7_placeOf_0 : decode cX7_placeOf 0 = .ok (.iconst 0, 1) := by decide +kernel
theorem dX7_placeOf_1 : decode cX7_placeOf 1 = .ok (.istore_n 2, 1) := by decide +kernel
theorem dX7_placeOf_2 : decode cX7_placeOf 2 = .ok (.iload_n 2, 1) := by decide +kernel
theorem dX7_placeOf_3 : decode cX7_placeOf 3 = .ok (.aload_n 0, 1) := by decide +kernel
theorem dX7_placeOf_4 : decode cX7_placeOf 4 = .ok (.getfield 28, 3) := by decide +kernel
theorem dX7_placeOf_7 : decode cX7_placeOf 7 = .ok (.iconst 5, 1) := by decide +kernel
theorem dX7_placeOf_8 : decode cX7_placeOf 8 = .ok (.iaload, 1) := by decide +kernel
theorem dX7_placeOf_9 : decode cX7_placeOf 9 = .ok (.if_icmp .ge 20, 3) := by decide +kernel
theorem dX7_placeOf_12 : decode cX7_placeOf 12 = .ok (.aload_n 0, 1) := by decide +kernel
theorem dX7_placeOf_13 : decode cX7_placeOf 13 = .ok (.iload_n 2, 1) := by decide +kernel
theorem dX7_placeOf_14 : decode cX7_placeOf 14 = .ok (.invokevirtual 189, 3) := by decide +kernel
theorem dX7_placeOf_17 : decode cX7_placeOf 17 = .ok (.iload_n 1, 1) := by decide +kernel
theorem dX7_placeOf_18 : decode cX7_placeOf 18 = .ok (.if_icmp .ne 5, 3) := by decide +kernel
theorem dX7_placeOf_21 : decode cX7_placeOf 21 = .ok (.iload_n 2, 1) := by decide +kernel
theorem dX7_placeOf_22 : decode cX7_placeOf 22 = .ok (.ireturn, 1) := by decide +kernel
theorem dX7_placeOf_23 : decode cX7_placeOf 23 = .ok (.iinc 2 1, 3) := by decide +kernel
theorem dX7_placeOf_26 : decode cX7_placeOf 26 = .ok (.goto (-24), 3) := by decide +kernel
theorem dX7_placeOf_29 : decode cX7_placeOf 29 = .ok (.ldc 172, 2) := by decide +kernel
theorem dX7_placeOf_31 : decode cX7_placeOf 31 = .ok (.ireturn, 1) := by decide +kernel
theorem dX7_ware_0 : decode cX7_ware 0 = .ok (.aload_n 0, 1) := by decide +kernel
theorem dX7_ware_1 : decode cX7_ware 1 = .ok (.iload_n 1, 1) := by decide +kernel
theorem dX7_ware_2 : decode cX7_ware 2 = .ok (.invokevirtual 215, 3) := by decide +kernel
theorem dX7_ware_5 : decode cX7_ware 5 = .ok (.ifCond .ne 6, 3) := by decide +kernel
theorem dX7_ware_8 : decode cX7_ware 8 = .ok (.ldc 75, 2) := by decide +kernel
theorem dX7_ware_10 : decode cX7_ware 10 = .ok (.ireturn, 1) := by decide +kernel
theorem dX7_ware_11 : decode cX7_ware 11 = .ok (.iload_n 2, 1) := by decide +kernel
theorem dX7_ware_12 : decode cX7_ware 12 = .ok (.tableswitch 110 0 5 #[40, 54, 68, 75, 81, 95], 40) := by decide +kernel
theorem dX7_ware_52 : decode cX7_ware 52 = .ok (.aload_n 0, 1) := by decide +kernel
theorem dX7_ware_53 : decode cX7_ware 53 = .ok (.getfield 28, 3) := by decide +kernel
theorem dX7_ware_56 : decode cX7_ware 56 = .ok (.bipush 22, 2) := by decide +kernel
theorem dX7_ware_58 : decode cX7_ware 58 = .ok (.iconst 4, 1) := by decide +kernel
theorem dX7_ware_59 : decode cX7_ware 59 = .ok (.iload_n 1, 1) := by decide +kernel
theorem dX7_ware_60 : decode cX7_ware 60 = .ok (.imul, 1) := by decide +kernel
theorem dX7_ware_61 : decode cX7_ware 61 = .ok (.iadd, 1) := by decide +kernel
theorem dX7_ware_62 : decode cX7_ware 62 = .ok (.iconst 1, 1) := by decide +kernel
theorem dX7_ware_63 : decode cX7_ware 63 = .ok (.iadd, 1) := by decide +kernel
theorem dX7_ware_64 : decode cX7_ware 64 = .ok (.iaload, 1) := by decide +kernel
theorem dX7_ware_65 : decode cX7_ware 65 = .ok (.ireturn, 1) := by decide +kernel
theorem dX7_ware_66 : decode cX7_ware 66 = .ok (.aload_n 0, 1) := by decide +kernel
theorem dX7_ware_67 : decode cX7_ware 67 = .ok (.getfield 28, 3) := by decide +kernel
theorem dX7_ware_70 : decode cX7_ware 70 = .ok (.bipush 22, 2) := by decide +kernel
theorem dX7_ware_72 : decode cX7_ware 72 = .ok (.iconst 4, 1) := by decide +kernel
theorem dX7_ware_73 : decode cX7_ware 73 = .ok (.iload_n 1, 1) := by decide +kernel
theorem dX7_ware_74 : decode cX7_ware 74 = .ok (.imul, 1) := by decide +kernel
theorem dX7_ware_75 : decode cX7_ware 75 = .ok (.iadd, 1) := by decide +kernel
theorem dX7_ware_76 : decode cX7_ware 76 = .ok (.iconst 2, 1) := by decide +kernel
theorem dX7_ware_77 : decode cX7_ware 77 = .ok (.iadd, 1) := by decide +kernel
theorem dX7_ware_78 : decode cX7_ware 78 = .ok (.iaload, 1) := by decide +kernel
theorem dX7_ware_79 : decode cX7_ware 79 = .ok (.ireturn, 1) := by decide +kernel
theorem dX7_ware_80 : decode cX7_ware 80 = .ok (.aload_n 0, 1) := by decide +kernel
theorem dX7_ware_81 : decode cX7_ware 81 = .ok (.iload_n 1, 1) := by decide +kernel
theorem dX7_ware_82 : decode cX7_ware 82 = .ok (.iconst 0, 1) := by decide +kernel
theorem dX7_ware_83 : decode cX7_ware 83 = .ok (.invokevirtual 185, 3) := by decide +kernel
theorem dX7_ware_86 : decode cX7_ware 86 = .ok (.ireturn, 1) := by decide +kernel
theorem dX7_ware_87 : decode cX7_ware 87 = .ok (.aload_n 0, 1) := by decide +kernel
theorem dX7_ware_88 : decode cX7_ware 88 = .ok (.iload_n 1, 1) := by decide +kernel
theorem dX7_ware_89 : decode cX7_ware 89 = .ok (.invokevirtual 218, 3) := by decide +kernel
theorem dX7_ware_92 : decode cX7_ware 92 = .ok (.ireturn, 1) := by decide +kernel
theorem dX7_ware_93 : decode cX7_ware 93 = .ok (.aload_n 0, 1) := by decide +kernel
theorem dX7_ware_94 : decode cX7_ware 94 = .ok (.getfield 28, 3) := by decide +kernel
theorem dX7_ware_97 : decode cX7_ware 97 = .ok (.bipush 22, 2) := by decide +kernel
theorem dX7_ware_99 : decode cX7_ware 99 = .ok (.iconst 4, 1) := by decide +kernel
theorem dX7_ware_100 : decode cX7_ware 100 = .ok (.iload_n 1, 1) := by decide +kernel
theorem dX7_ware_101 : decode cX7_ware 101 = .ok (.imul, 1) := by decide +kernel
theorem dX7_ware_102 : decode cX7_ware 102 = .ok (.iadd, 1) := by decide +kernel
theorem dX7_ware_103 : decode cX7_ware 103 = .ok (.iconst 3, 1) := by decide +kernel
theorem dX7_ware_104 : decode cX7_ware 104 = .ok (.iadd, 1) := by decide +kernel
theorem dX7_ware_105 : decode cX7_ware 105 = .ok (.iaload, 1) := by decide +kernel
theorem dX7_ware_106 : decode cX7_ware 106 = .ok (.ireturn, 1) := by decide +kernel
theorem dX7_ware_107 : decode cX7_ware 107 = .ok (.aload_n 0, 1) := by decide +kernel
theorem dX7_ware_108 : decode cX7_ware 108 = .ok (.iload_n 1, 1) := by decide +kernel
theorem dX7_ware_109 : decode cX7_ware 109 = .ok (.iconst 0, 1) := by decide +kernel
theorem dX7_ware_110 : decode cX7_ware 110 = .ok (.invokevirtual 185, 3) := by decide +kernel
theorem dX7_ware_113 : decode cX7_ware 113 = .ok (.ifCond .ne 7, 3) := by decide +kernel
theorem dX7_ware_116 : decode cX7_ware 116 = .ok (.iconst 1, 1) := by decide +kernel
theorem dX7_ware_117 : decode cX7_ware 117 = .ok (.goto 4, 3) := by decide +kernel
theorem dX7_ware_120 : decode cX7_ware 120 = .ok (.iconst 0, 1) := by decide +kernel
theorem dX7_ware_121 : decode cX7_ware 121 = .ok (.ireturn, 1) := by decide +kernel
theorem dX7_ware_122 : decode cX7_ware 122 = .ok (.ldc 75, 2) := by decide +kernel
theorem dX7_ware_124 : decode cX7_ware 124 = .ok (.ireturn, 1) := by decide +kernel
theorem dX7_buyer_0 : decode cX7_buyer 0 = .ok (.aload_n 0, 1) := by decide +kernel
theorem dX7_buyer_1 : decode cX7_buyer 1 = .ok (.iload_n 1, 1) := by decide +kernel
theorem dX7_buyer_2 : decode cX7_buyer 2 = .ok (.invokevirtual 176, 3) := by decide +kernel
theorem dX7_buyer_5 : decode cX7_buyer 5 = .ok (.ifCond .eq 28, 3) := by decide +kernel
theorem dX7_buyer_8 : decode cX7_buyer 8 = .ok (.iload_n 2, 1) := by decide +kernel
theorem dX7_buyer_9 : decode cX7_buyer 9 = .ok (.iconst 0, 1) := by decide +kernel
theorem dX7_buyer_10 : decode cX7_buyer 10 = .ok (.iconst 3, 1) := by decide +kernel
theorem dX7_buyer_11 : decode cX7_buyer 11 = .ok (.invokestatic 67, 3) := by decide +kernel
theorem dX7_buyer_14 : decode cX7_buyer 14 = .ok (.ifCond .eq 19, 3) := by decide +kernel
theorem dX7_buyer_17 : decode cX7_buyer 17 = .ok (.aload_n 0, 1) := by decide +kernel
theorem dX7_buyer_18 : decode cX7_buyer 18 = .ok (.getfield 28, 3) := by decide +kernel
theorem dX7_buyer_21 : decode cX7_buyer 21 = .ok (.bipush 6, 2) := by decide +kernel
theorem dX7_buyer_23 : decode cX7_buyer 23 = .ok (.iconst 4, 1) := by decide +kernel
theorem dX7_buyer_24 : decode cX7_buyer 24 = .ok (.iload_n 1, 1) := by decide +kernel
theorem dX7_buyer_25 : decode cX7_buyer 25 = .ok (.imul, 1) := by decide +kernel
theorem dX7_buyer_26 : decode cX7_buyer 26 = .ok (.iadd, 1) := by decide +kernel
theorem dX7_buyer_27 : decode cX7_buyer 27 = .ok (.iload_n 2, 1) := by decide +kernel
theorem dX7_buyer_28 : decode cX7_buyer 28 = .ok (.iadd, 1) := by decide +kernel
theorem dX7_buyer_29 : decode cX7_buyer 29 = .ok (.iaload, 1) := by decide +kernel
theorem dX7_buyer_30 : decode cX7_buyer 30 = .ok (.goto 5, 3) := by decide +kernel
theorem dX7_buyer_33 : decode cX7_buyer 33 = .ok (.ldc 75, 2) := by decide +kernel
theorem dX7_buyer_35 : decode cX7_buyer 35 = .ok (.ireturn, 1) := by decide +kernel
theorem dX7_worth_0 : decode cX7_worth 0 = .ok (.aload_n 0, 1) := by decide +kernel
theorem dX7_worth_1 : decode cX7_worth 1 = .ok (.iload_n 1, 1) := by decide +kernel
theorem dX7_worth_2 : decode cX7_worth 2 = .ok (.invokevirtual 215, 3) := by decide +kernel
theorem dX7_worth_5 : decode cX7_worth 5 = .ok (.ifCond .eq 21, 3) := by decide +kernel
theorem dX7_worth_8 : decode cX7_worth 8 = .ok (.aload_n 0, 1) := by decide +kernel
theorem dX7_worth_9 : decode cX7_worth 9 = .ok (.iload_n 2, 1) := by decide +kernel
theorem dX7_worth_10 : decode cX7_worth 10 = .ok (.invokevirtual 176, 3) := by decide +kernel
theorem dX7_worth_13 : decode cX7_worth 13 = .ok (.ifCond .eq 13, 3) := by decide +kernel
theorem dX7_worth_16 : decode cX7_worth 16 = .ok (.aload_n 0, 1) := by decide +kernel
theorem dX7_worth_17 : decode cX7_worth 17 = .ok (.iload_n 1, 1) := by decide +kernel
theorem dX7_worth_18 : decode cX7_worth 18 = .ok (.iload_n 2, 1) := by decide +kernel
theorem dX7_worth_19 : decode cX7_worth 19 = .ok (.iconst 0, 1) := by decide +kernel
theorem dX7_worth_20 : decode cX7_worth 20 = .ok (.invokevirtual 193, 3) := by decide +kernel
theorem dX7_worth_23 : decode cX7_worth 23 = .ok (.goto 5, 3) := by decide +kernel
theorem dX7_worth_26 : decode cX7_worth 26 = .ok (.ldc 75, 2) := by decide +kernel
theorem dX7_worth_28 : decode cX7_worth 28 = .ok (.ireturn, 1) := by decide +kernel
theorem dX7_turnOf_0 : decode cX7_turnOf 0 = .ok (.aload_n 0, 1) := by decide +kernel
theorem dX7_turnOf_1 : decode cX7_turnOf 1 = .ok (.getfield 28, 3) := by decide +kernel
theorem dX7_turnOf_4 : decode cX7_turnOf 4 = .ok (.iconst 1, 1) := by decide +kernel
theorem dX7_turnOf_5 : decode cX7_turnOf 5 = .ok (.iaload, 1) := by decide +kernel
theorem dX7_turnOf_6 : decode cX7_turnOf 6 = .ok (.ifCond .ne 9, 3) := by decide +kernel
theorem dX7_turnOf_9 : decode cX7_turnOf 9 = .ok (.iload_n 1, 1) := by decide +kernel
theorem dX7_turnOf_10 : decode cX7_turnOf 10 = .ok (.iconst 2, 1) := by decide +kernel
theorem dX7_turnOf_11 : decode cX7_turnOf 11 = .ok (.irem, 1) := by decide +kernel
theorem dX7_turnOf_12 : decode cX7_turnOf 12 = .ok (.goto 10, 3) := by decide +kernel
theorem dX7_turnOf_15 : decode cX7_turnOf 15 = .ok (.iload_n 1, 1) := by decide +kernel
theorem dX7_turnOf_16 : decode cX7_turnOf 16 = .ok (.iconst 1, 1) := by decide +kernel
theorem dX7_turnOf_17 : decode cX7_turnOf 17 = .ok (.iadd, 1) := by decide +kernel
theorem dX7_turnOf_18 : decode cX7_turnOf 18 = .ok (.iconst 2, 1) := by decide +kernel
theorem dX7_turnOf_19 : decode cX7_turnOf 19 = .ok (.idiv, 1) := by decide +kernel
theorem dX7_turnOf_20 : decode cX7_turnOf 20 = .ok (.iconst 2, 1) := by decide +kernel
theorem dX7_turnOf_21 : decode cX7_turnOf 21 = .ok (.irem, 1) := by decide +kernel
theorem dX7_turnOf_22 : decode cX7_turnOf 22 = .ok (.ireturn, 1) := by decide +kernel
theorem dX7_layBest_0 : decode cX7_layBest 0 = .ok (.iload_n 1, 1) := by decide +kernel
theorem dX7_layBest_1 : decode cX7_layBest 1 = .ok (.istore 5, 2) := by decide +kernel
theorem dX7_layBest_3 : decode cX7_layBest 3 = .ok (.iload 5, 2) := by decide +kernel
theorem dX7_layBest_5 : decode cX7_layBest 5 = .ok (.ifCond .lt 287, 3) := by decide +kernel
theorem dX7_layBest_8 : decode cX7_layBest 8 = .ok (.iconst 0, 1) := by decide +kernel
theorem dX7_layBest_9 : decode cX7_layBest 9 = .ok (.istore 6, 2) := by decide +kernel
theorem dX7_layBest_11 : decode cX7_layBest 11 = .ok (.iload 6, 2) := by decide +kernel
theorem dX7_layBest_13 : decode cX7_layBest 13 = .ok (.iload 5, 2) := by decide +kernel
theorem dX7_layBest_15 : decode cX7_layBest 15 = .ok (.if_icmp .gt 271, 3) := by decide +kernel
theorem dX7_layBest_18 : decode cX7_layBest 18 = .ok (.iload 5, 2) := by decide +kernel
theorem dX7_layBest_20 : decode cX7_layBest 20 = .ok (.iload 6, 2) := by decide +kernel
theorem dX7_layBest_22 : decode cX7_layBest 22 = .ok (.isub, 1) := by decide +kernel
theorem dX7_layBest_23 : decode cX7_layBest 23 = .ok (.istore 7, 2) := by decide +kernel
theorem dX7_layBest_25 : decode cX7_layBest 25 = .ok (.bipush 17, 2) := by decide +kernel
theorem dX7_layBest_27 : decode cX7_layBest 27 = .ok (.iload 6, 2) := by decide +kernel
theorem dX7_layBest_29 : decode cX7_layBest 29 = .ok (.imul, 1) := by decide +kernel
theorem dX7_layBest_30 : decode cX7_layBest 30 = .ok (.iload 7, 2) := by decide +kernel
theorem dX7_layBest_32 : decode cX7_layBest 32 = .ok (.iadd, 1) := by decide +kernel
theorem dX7_layBest_33 : decode cX7_layBest 33 = .ok (.istore 8, 2) := by decide +kernel
theorem dX7_layBest_35 : decode cX7_layBest 35 = .ok (.iload 5, 2) := by decide +kernel
theorem dX7_layBest_37 : decode cX7_layBest 37 = .ok (.iload_n 1, 1) := by decide +kernel
theorem dX7_layBest_38 : decode cX7_layBest 38 = .ok (.if_icmp .ne 22, 3) := by decide +kernel
theorem dX7_layBest_41 : decode cX7_layBest 41 = .ok (.aload_n 0, 1) := by decide +kernel
theorem dX7_layBest_42 : decode cX7_layBest 42 = .ok (.getfield 47, 3) := by decide +kernel
theorem dX7_layBest_45 : decode cX7_layBest 45 = .ok (.iload 8, 2) := by decide +kernel
theorem dX7_layBest_47 : decode cX7_layBest 47 = .ok (.iconst 0, 1) := by decide +kernel
theorem dX7_layBest_48 : decode cX7_layBest 48 = .ok (.iastore, 1) := by decide +kernel
theorem dX7_layBest_49 : decode cX7_layBest 49 = .ok (.aload_n 0, 1) := by decide +kernel
theorem dX7_layBest_50 : decode cX7_layBest 50 = .ok (.getfield 50, 3) := by decide +kernel
theorem dX7_layBest_53 : decode cX7_layBest 53 = .ok (.iload 8, 2) := by decide +kernel
theorem dX7_layBest_55 : decode cX7_layBest 55 = .ok (.iconst 0, 1) := by decide +kernel
theorem dX7_layBest_56 : decode cX7_layBest 56 = .ok (.iastore, 1) := by decide +kernel
theorem dX7_layBest_57 : decode cX7_layBest 57 = .ok (.goto 223, 3) := by decide +kernel
theorem dX7_layBest_60 : decode cX7_layBest 60 = .ok (.aload_n 0, 1) := by decide +kernel
theorem dX7_layBest_61 : decode cX7_layBest 61 = .ok (.getfield 44, 3) := by decide +kernel
theorem dX7_layBest_64 : decode cX7_layBest 64 = .ok (.iload 6, 2) := by decide +kernel
theorem dX7_layBest_66 : decode cX7_layBest 66 = .ok (.iaload, 1) := by decide +kernel
theorem dX7_layBest_67 : decode cX7_layBest 67 = .ok (.istore 9, 2) := by decide +kernel
theorem dX7_layBest_69 : decode cX7_layBest 69 = .ok (.aload_n 0, 1) := by decide +kernel
theorem dX7_layBest_70 : decode cX7_layBest 70 = .ok (.getfield 44, 3) := by decide +kernel
theorem dX7_layBest_73 : decode cX7_layBest 73 = .ok (.iload_n 1, 1) := by decide +kernel
theorem dX7_layBest_74 : decode cX7_layBest 74 = .ok (.iconst 1, 1) := by decide +kernel
theorem dX7_layBest_75 : decode cX7_layBest 75 = .ok (.isub, 1) := by decide +kernel
theorem dX7_layBest_76 : decode cX7_layBest 76 = .ok (.iload 7, 2) := by decide +kernel
theorem dX7_layBest_78 : decode cX7_layBest 78 = .ok (.isub, 1) := by decide +kernel
theorem dX7_layBest_79 : decode cX7_layBest 79 = .ok (.iaload, 1) := by decide +kernel
theorem dX7_layBest_80 : decode cX7_layBest 80 = .ok (.istore 10, 2) := by decide +kernel
theorem dX7_layBest_82 : decode cX7_layBest 82 = .ok (.aload_n 0, 1) := by decide +kernel
theorem dX7_layBest_83 : decode cX7_layBest 83 = .ok (.iload 5, 2) := by decide +kernel
theorem dX7_layBest_85 : decode cX7_layBest 85 = .ok (.iload 4, 2) := by decide +kernel
theorem dX7_layBest_87 : decode cX7_layBest 87 = .ok (.iadd, 1) := by decide +kernel
theorem dX7_layBest_88 : decode cX7_layBest 88 = .ok (.invokevirtual 221, 3) := by decide +kernel
theorem dX7_layBest_91 : decode cX7_layBest 91 = .ok (.ifCond .ne 7, 3) := by decide +kernel
theorem dX7_layBest_94 : decode cX7_layBest 94 = .ok (.iconst 1, 1) := by decide +kernel
theorem dX7_layBest_95 : decode cX7_layBest 95 = .ok (.goto 4, 3) := by decide +kernel
theorem dX7_layBest_98 : decode cX7_layBest 98 = .ok (.iconst 0, 1) := by decide +kernel
theorem dX7_layBest_99 : decode cX7_layBest 99 = .ok (.istore 11, 2) := by decide +kernel
theorem dX7_layBest_101 : decode cX7_layBest 101 = .ok (.iload 11, 2) := by decide +kernel
theorem dX7_layBest_103 : decode cX7_layBest 103 = .ok (.ifCond .eq 25, 3) := by decide +kernel
theorem dX7_layBest_106 : decode cX7_layBest 106 = .ok (.aload_n 0, 1) := by decide +kernel
theorem dX7_layBest_107 : decode cX7_layBest 107 = .ok (.iload 9, 2) := by decide +kernel
theorem dX7_layBest_109 : decode cX7_layBest 109 = .ok (.iload_n 2, 1) := by decide +kernel
theorem dX7_layBest_110 : decode cX7_layBest 110 = .ok (.iconst 0, 1) := by decide +kernel
theorem dX7_layBest_111 : decode cX7_layBest 111 = .ok (.invokevirtual 193, 3) := by decide +kernel
theorem dX7_layBest_114 : decode cX7_layBest 114 = .ok (.aload_n 0, 1) := by decide +kernel
theorem dX7_layBest_115 : decode cX7_layBest 115 = .ok (.getfield 47, 3) := by decide +kernel
theorem dX7_layBest_118 : decode cX7_layBest 118 = .ok (.iload 8, 2) := by decide +kernel
theorem dX7_layBest_120 : decode cX7_layBest 120 = .ok (.bipush 17, 2) := by decide +kernel
