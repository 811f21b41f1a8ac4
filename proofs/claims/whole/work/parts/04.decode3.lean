theorem dX12_init_273 : decode cX12_init 273 = .ok (.iconst 4, 1) := by decide +kernel
theorem dX12_init_274 : decode cX12_init 274 = .ok (.newarray .int, 2) := by decide +kernel
theorem dX12_init_276 : decode cX12_init 276 = .ok (.putfield 115, 3) := by decide +kernel
theorem dX12_init_279 : decode cX12_init 279 = .ok (.aload_n 0, 1) := by decide +kernel
theorem dX12_init_280 : decode cX12_init 280 = .ok (.iconst 4, 1) := by decide +kernel
theorem dX12_init_281 : decode cX12_init 281 = .ok (.newarray .int, 2) := by decide +kernel
theorem dX12_init_283 : decode cX12_init 283 = .ok (.putfield 118, 3) := by decide +kernel
theorem dX12_init_286 : decode cX12_init 286 = .ok (.aload_n 0, 1) := by decide +kernel
theorem dX12_init_287 : decode cX12_init 287 = .ok (.sipush 160, 3) := by decide +kernel
theorem dX12_init_290 : decode cX12_init 290 = .ok (.newarray .int, 2) := by decide +kernel
theorem dX12_init_292 : decode cX12_init 292 = .ok (.putfield 121, 3) := by decide +kernel
theorem dX12_init_295 : decode cX12_init 295 = .ok (.iload_n 1, 1) := by decide +kernel
theorem dX12_init_296 : decode cX12_init 296 = .ok (.bipush 11, 2) := by decide +kernel
theorem dX12_init_298 : decode cX12_init 298 = .ok (.irem, 1) := by decide +kernel
theorem dX12_init_299 : decode cX12_init 299 = .ok (.istore_n 2, 1) := by decide +kernel
theorem dX12_init_300 : decode cX12_init 300 = .ok (.aload_n 0, 1) := by decide +kernel
theorem dX12_init_301 : decode cX12_init 301 = .ok (.iconst 2, 1) := by decide +kernel
theorem dX12_init_302 : decode cX12_init 302 = .ok (.iload_n 2, 1) := by decide +kernel
theorem dX12_init_303 : decode cX12_init 303 = .ok (.ifCond .ge 10, 3) := by decide +kernel
theorem dX12_init_306 : decode cX12_init 306 = .ok (.iload_n 2, 1) := by decide +kernel
theorem dX12_init_307 : decode cX12_init 307 = .ok (.bipush 11, 2) := by decide +kernel
theorem dX12_init_309 : decode cX12_init 309 = .ok (.iadd, 1) := by decide +kernel
theorem dX12_init_310 : decode cX12_init 310 = .ok (.goto 4, 3) := by decide +kernel
theorem dX12_init_313 : decode cX12_init 313 = .ok (.iload_n 2, 1) := by decide +kernel
theorem dX12_init_314 : decode cX12_init 314 = .ok (.iadd, 1) := by decide +kernel
theorem dX12_init_315 : decode cX12_init 315 = .ok (.putfield 124, 3) := by decide +kernel
theorem dX12_init_318 : decode cX12_init 318 = .ok (.aload_n 0, 1) := by decide +kernel
theorem dX12_init_319 : decode cX12_init 319 = .ok (.iconst 0, 1) := by decide +kernel
theorem dX12_init_320 : decode cX12_init 320 = .ok (.ldc2_w 127, 3) := by decide +kernel
theorem dX12_init_323 : decode cX12_init 323 = .ok (.invokevirtual 129, 3) := by decide +kernel
theorem dX12_init_326 : decode cX12_init 326 = .ok (.aload_n 0, 1) := by decide +kernel
theorem dX12_init_327 : decode cX12_init 327 = .ok (.bipush 8, 2) := by decide +kernel
theorem dX12_init_329 : decode cX12_init 329 = .ok (.ldc2_w 133, 3) := by decide +kernel
theorem dX12_init_332 : decode cX12_init 332 = .ok (.invokevirtual 129, 3) := by decide +kernel
theorem dX12_init_335 : decode cX12_init 335 = .ok (.aload_n 0, 1) := by decide +kernel
theorem dX12_init_336 : decode cX12_init 336 = .ok (.bipush 16, 2) := by decide +kernel
theorem dX12_init_338 : decode cX12_init 338 = .ok (.ldc2_w 135, 3) := by decide +kernel
theorem dX12_init_341 : decode cX12_init 341 = .ok (.invokevirtual 129, 3) := by decide +kernel
theorem dX12_init_344 : decode cX12_init 344 = .ok (.aload_n 0, 1) := by decide +kernel
theorem dX12_init_345 : decode cX12_init 345 = .ok (.getfield 67, 3) := by decide +kernel
theorem dX12_init_348 : decode cX12_init 348 = .ok (.iconst 0, 1) := by decide +kernel
theorem dX12_init_349 : decode cX12_init 349 = .ok (.bipush 24, 2) := by decide +kernel
theorem dX12_init_351 : decode cX12_init 351 = .ok (.iastore, 1) := by decide +kernel
theorem dX12_init_352 : decode cX12_init 352 = .ok (.aload_n 0, 1) := by decide +kernel
theorem dX12_init_353 : decode cX12_init 353 = .ok (.iconst 1, 1) := by decide +kernel
theorem dX12_init_354 : decode cX12_init 354 = .ok (.putfield 137, 3) := by decide +kernel
theorem dX12_init_357 : decode cX12_init 357 = .ok (.aload_n 0, 1) := by decide +kernel
theorem dX12_init_358 : decode cX12_init 358 = .ok (.bipush 31, 2) := by decide +kernel
theorem dX12_init_360 : decode cX12_init 360 = .ok (.putfield 140, 3) := by decide +kernel
theorem dX12_init_363 : decode cX12_init 363 = .ok (.aload_n 0, 1) := by decide +kernel
theorem dX12_init_364 : decode cX12_init 364 = .ok (.iconst 3, 1) := by decide +kernel
theorem dX12_init_365 : decode cX12_init 365 = .ok (.putfield 143, 3) := by decide +kernel
theorem dX12_init_368 : decode cX12_init 368 = .ok (.return_, 1) := by decide +kernel
theorem dX12_spell_0 : decode cX12_spell 0 = .ok (.iconst 0, 1) := by decide +kernel
theorem dX12_spell_1 : decode cX12_spell 1 = .ok (.istore 4, 2) := by decide +kernel
theorem dX12_spell_3 : decode cX12_spell 3 = .ok (.iload 4, 2) := by decide +kernel
theorem dX12_spell_5 : decode cX12_spell 5 = .ok (.bipush 8, 2) := by decide +kernel
theorem dX12_spell_7 : decode cX12_spell 7 = .ok (.if_icmp .ge 33, 3) := by decide +kernel
theorem dX12_spell_10 : decode cX12_spell 10 = .ok (.aload_n 0, 1) := by decide +kernel
theorem dX12_spell_11 : decode cX12_spell 11 = .ok (.getfield 64, 3) := by decide +kernel
theorem dX12_spell_14 : decode cX12_spell 14 = .ok (.iload_n 1, 1) := by decide +kernel
theorem dX12_spell_15 : decode cX12_spell 15 = .ok (.iload 4, 2) := by decide +kernel
theorem dX12_spell_17 : decode cX12_spell 17 = .ok (.iadd, 1) := by decide +kernel
theorem dX12_spell_18 : decode cX12_spell 18 = .ok (.lload_n 2, 1) := by decide +kernel
theorem dX12_spell_19 : decode cX12_spell 19 = .ok (.bipush 56, 2) := by decide +kernel
theorem dX12_spell_21 : decode cX12_spell 21 = .ok (.bipush 8, 2) := by decide +kernel
theorem dX12_spell_23 : decode cX12_spell 23 = .ok (.iload 4, 2) := by decide +kernel
theorem dX12_spell_25 : decode cX12_spell 25 = .ok (.imul, 1) := by decide +kernel
theorem dX12_spell_26 : decode cX12_spell 26 = .ok (.isub, 1) := by decide +kernel
theorem dX12_spell_27 : decode cX12_spell 27 = .ok (.lshr, 1) := by decide +kernel
theorem dX12_spell_28 : decode cX12_spell 28 = .ok (.ldc2_w 146, 3) := by decide +kernel
theorem dX12_spell_31 : decode cX12_spell 31 = .ok (.land, 1) := by decide +kernel
theorem dX12_spell_32 : decode cX12_spell 32 = .ok (.l2i, 1) := by decide +kernel
theorem dX12_spell_33 : decode cX12_spell 33 = .ok (.iastore, 1) := by decide +kernel
theorem dX12_spell_34 : decode cX12_spell 34 = .ok (.iinc 4 1, 3) := by decide +kernel
theorem dX12_spell_37 : decode cX12_spell 37 = .ok (.goto (-34), 3) := by decide +kernel
theorem dX12_spell_40 : decode cX12_spell 40 = .ok (.return_, 1) := by decide +kernel
theorem dX12_isLand_0 : decode cX12_isLand 0 = .ok (.iload_n 0, 1) := by decide +kernel
theorem dX12_isLand_1 : decode cX12_isLand 1 = .ok (.iconst 0, 1) := by decide +kernel
theorem dX12_isLand_2 : decode cX12_isLand 2 = .ok (.iconst 4, 1) := by decide +kernel
theorem dX12_isLand_3 : decode cX12_isLand 3 = .ok (.invokestatic 148, 3) := by decide +kernel
theorem dX12_isLand_6 : decode cX12_isLand 6 = .ok (.ireturn, 1) := by decide +kernel
theorem dX12_isPeriod_0 : decode cX12_isPeriod 0 = .ok (.iload_n 1, 1) := by decide +kernel
theorem dX12_isPeriod_1 : decode cX12_isPeriod 1 = .ok (.iconst 0, 1) := by decide +kernel
theorem dX12_isPeriod_2 : decode cX12_isPeriod 2 = .ok (.aload_n 0, 1) := by decide +kernel
theorem dX12_isPeriod_3 : decode cX12_isPeriod 3 = .ok (.getfield 124, 3) := by decide +kernel
theorem dX12_isPeriod_6 : decode cX12_isPeriod 6 = .ok (.iconst 1, 1) := by decide +kernel
theorem dX12_isPeriod_7 : decode cX12_isPeriod 7 = .ok (.isub, 1) := by decide +kernel
theorem dX12_isPeriod_8 : decode cX12_isPeriod 8 = .ok (.invokestatic 148, 3) := by decide +kernel
theorem dX12_isPeriod_11 : decode cX12_isPeriod 11 = .ok (.ireturn, 1) := by decide +kernel
theorem dX12_isPlace_0 : decode cX12_isPlace 0 = .ok (.iload_n 1, 1) := by decide +kernel
theorem dX12_isPlace_1 : decode cX12_isPlace 1 = .ok (.invokestatic 152, 3) := by decide +kernel
theorem dX12_isPlace_4 : decode cX12_isPlace 4 = .ok (.ifCond .eq 15, 3) := by decide +kernel
theorem dX12_isPlace_7 : decode cX12_isPlace 7 = .ok (.aload_n 0, 1) := by decide +kernel
theorem dX12_isPlace_8 : decode cX12_isPlace 8 = .ok (.iload_n 2, 1) := by decide +kernel
theorem dX12_isPlace_9 : decode cX12_isPlace 9 = .ok (.invokevirtual 156, 3) := by decide +kernel
theorem dX12_isPlace_12 : decode cX12_isPlace 12 = .ok (.ifCond .eq 7, 3) := by decide +kernel
theorem dX12_isPlace_15 : decode cX12_isPlace 15 = .ok (.iconst 1, 1) := by decide +kernel
theorem dX12_isPlace_16 : decode cX12_isPlace 16 = .ok (.goto 4, 3) := by decide +kernel
theorem dX12_isPlace_19 : decode cX12_isPlace 19 = .ok (.iconst 0, 1) := by decide +kernel
theorem dX12_isPlace_20 : decode cX12_isPlace 20 = .ok (.ireturn, 1) := by decide +kernel
theorem dX12_way_0 : decode cX12_way 0 = .ok (.iload_n 1, 1) := by decide +kernel
theorem dX12_way_1 : decode cX12_way 1 = .ok (.invokestatic 152, 3) := by decide +kernel
theorem dX12_way_4 : decode cX12_way 4 = .ok (.ifCond .eq 44, 3) := by decide +kernel
theorem dX12_way_7 : decode cX12_way 7 = .ok (.iload_n 2, 1) := by decide +kernel
theorem dX12_way_8 : decode cX12_way 8 = .ok (.invokestatic 152, 3) := by decide +kernel
theorem dX12_way_11 : decode cX12_way 11 = .ok (.ifCond .eq 37, 3) := by decide +kernel
theorem dX12_way_14 : decode cX12_way 14 = .ok (.iload_n 1, 1) := by decide +kernel
theorem dX12_way_15 : decode cX12_way 15 = .ok (.iload_n 2, 1) := by decide +kernel
theorem dX12_way_16 : decode cX12_way 16 = .ok (.if_icmp .eq 32, 3) := by decide +kernel
theorem dX12_way_19 : decode cX12_way 19 = .ok (.iload_n 3, 1) := by decide +kernel
theorem dX12_way_20 : decode cX12_way 20 = .ok (.iconst 0, 1) := by decide +kernel
theorem dX12_way_21 : decode cX12_way 21 = .ok (.aload_n 0, 1) := by decide +kernel
theorem dX12_way_22 : decode cX12_way 22 = .ok (.getfield 124, 3) := by decide +kernel
theorem dX12_way_25 : decode cX12_way 25 = .ok (.iconst 2, 1) := by decide +kernel
theorem dX12_way_26 : decode cX12_way 26 = .ok (.isub, 1) := by decide +kernel
theorem dX12_way_27 : decode cX12_way 27 = .ok (.invokestatic 148, 3) := by decide +kernel
theorem dX12_way_30 : decode cX12_way 30 = .ok (.ifCond .eq 18, 3) := by decide +kernel
theorem dX12_way_33 : decode cX12_way 33 = .ok (.iload 4, 2) := by decide +kernel
theorem dX12_way_35 : decode cX12_way 35 = .ok (.iload_n 3, 1) := by decide +kernel
theorem dX12_way_36 : decode cX12_way 36 = .ok (.aload_n 0, 1) := by decide +kernel
theorem dX12_way_37 : decode cX12_way 37 = .ok (.getfield 124, 3) := by decide +kernel
theorem dX12_way_40 : decode cX12_way 40 = .ok (.iconst 2, 1) := by decide +kernel
theorem dX12_way_41 : decode cX12_way 41 = .ok (.isub, 1) := by decide +kernel
theorem dX12_way_42 : decode cX12_way 42 = .ok (.invokestatic 148, 3) := by decide +kernel
theorem dX12_way_45 : decode cX12_way 45 = .ok (.ifCond .ne 6, 3) := by decide +kernel
theorem dX12_way_48 : decode cX12_way 48 = .ok (.bipush (-2), 2) := by decide +kernel
theorem dX12_way_50 : decode cX12_way 50 = .ok (.ireturn, 1) := by decide +kernel
theorem dX12_way_51 : decode cX12_way 51 = .ok (.aload_n 0, 1) := by decide +kernel
theorem dX12_way_52 : decode cX12_way 52 = .ok (.getfield 159, 3) := by decide +kernel
theorem dX12_way_55 : decode cX12_way 55 = .ok (.bipush 20, 2) := by decide +kernel
theorem dX12_way_57 : decode cX12_way 57 = .ok (.if_icmp .ne 6, 3) := by decide +kernel
theorem dX12_way_60 : decode cX12_way 60 = .ok (.bipush (-4), 2) := by decide +kernel
theorem dX12_way_62 : decode cX12_way 62 = .ok (.ireturn, 1) := by decide +kernel
theorem dX12_way_63 : decode cX12_way 63 = .ok (.aload_n 0, 1) := by decide +kernel
theorem dX12_way_64 : decode cX12_way 64 = .ok (.getfield 13, 3) := by decide +kernel
theorem dX12_way_67 : decode cX12_way 67 = .ok (.aload_n 0, 1) := by decide +kernel
theorem dX12_way_68 : decode cX12_way 68 = .ok (.getfield 159, 3) := by decide +kernel
theorem dX12_way_71 : decode cX12_way 71 = .ok (.iload_n 1, 1) := by decide +kernel
theorem dX12_way_72 : decode cX12_way 72 = .ok (.iastore, 1) := by decide +kernel
theorem dX12_way_73 : decode cX12_way 73 = .ok (.aload_n 0, 1) := by decide +kernel
theorem dX12_way_74 : decode cX12_way 74 = .ok (.getfield 17, 3) := by decide +kernel
theorem dX12_way_77 : decode cX12_way 77 = .ok (.aload_n 0, 1) := by decide +kernel
theorem dX12_way_78 : decode cX12_way 78 = .ok (.getfield 159, 3) := by decide +kernel
theorem dX12_way_81 : decode cX12_way 81 = .ok (.iload_n 2, 1) := by decide +kernel
theorem dX12_way_82 : decode cX12_way 82 = .ok (.iastore, 1) := by decide +kernel
theorem dX12_way_83 : decode cX12_way 83 = .ok (.aload_n 0, 1) := by decide +kernel
theorem dX12_way_84 : decode cX12_way 84 = .ok (.getfield 20, 3) := by decide +kernel
theorem dX12_way_87 : decode cX12_way 87 = .ok (.aload_n 0, 1) := by decide +kernel
theorem dX12_way_88 : decode cX12_way 88 = .ok (.getfield 159, 3) := by decide +kernel
theorem dX12_way_91 : decode cX12_way 91 = .ok (.iload_n 3, 1) := by decide +kernel
theorem dX12_way_92 : decode cX12_way 92 = .ok (.iastore, 1) := by decide +kernel
theorem dX12_way_93 : decode cX12_way 93 = .ok (.aload_n 0, 1) := by decide +kernel
theorem dX12_way_94 : decode cX12_way 94 = .ok (.getfield 23, 3) := by decide +kernel
theorem dX12_way_97 : decode cX12_way 97 = .ok (.aload_n 0, 1) := by decide +kernel
theorem dX12_way_98 : decode cX12_way 98 = .ok (.getfield 159, 3) := by decide +kernel
theorem dX12_way_101 : decode cX12_way 101 = .ok (.iload 4, 2) := by decide +kernel
theorem dX12_way_103 : decode cX12_way 103 = .ok (.iastore, 1) := by decide +kernel
theorem dX12_way_104 : decode cX12_way 104 = .ok (.aload_n 0, 1) := by decide +kernel
theorem dX12_way_105 : decode cX12_way 105 = .ok (.dup, 1) := by decide +kernel
theorem dX12_way_106 : decode cX12_way 106 = .ok (.getfield 159, 3) := by decide +kernel
theorem dX12_way_109 : decode cX12_way 109 = .ok (.iconst 1, 1) := by decide +kernel
theorem dX12_way_110 : decode cX12_way 110 = .ok (.iadd, 1) := by decide +kernel
theorem dX12_way_111 : decode cX12_way 111 = .ok (.putfield 159, 3) := by decide +kernel
theorem dX12_way_114 : decode cX12_way 114 = .ok (.aload_n 0, 1) := by decide +kernel
theorem dX12_way_115 : decode cX12_way 115 = .ok (.getfield 159, 3) := by decide +kernel
theorem dX12_way_118 : decode cX12_way 118 = .ok (.iconst 1, 1) := by decide +kernel
theorem dX12_way_119 : decode cX12_way 119 = .ok (.isub, 1) := by decide +kernel
theorem dX12_way_120 : decode cX12_way 120 = .ok (.ireturn, 1) := by decide +kernel
theorem dX12_soil_0 : decode cX12_soil 0 = .ok (.iload_n 1, 1) := by decide +kernel
theorem dX12_soil_1 : decode cX12_soil 1 = .ok (.iconst 0, 1) := by decide +kernel
theorem dX12_soil_2 : decode cX12_soil 2 = .ok (.bipush 31, 2) := by decide +kernel
theorem dX12_soil_4 : decode cX12_soil 4 = .ok (.invokestatic 148, 3) := by decide +kernel
theorem dX12_soil_7 : decode cX12_soil 7 = .ok (.ifCond .ne 6, 3) := by decide +kernel
theorem dX12_soil_10 : decode cX12_soil 10 = .ok (.bipush (-2), 2) := by decide +kernel
theorem dX12_soil_12 : decode cX12_soil 12 = .ok (.ireturn, 1) := by decide +kernel
theorem dX12_soil_13 : decode cX12_soil 13 = .ok (.aload_n 0, 1) := by decide +kernel
theorem dX12_soil_14 : decode cX12_soil 14 = .ok (.getfield 140, 3) := by decide +kernel
theorem dX12_soil_17 : decode cX12_soil 17 = .ok (.istore_n 2, 1) := by decide +kernel
theorem dX12_soil_18 : decode cX12_soil 18 = .ok (.aload_n 0, 1) := by decide +kernel
theorem dX12_soil_19 : decode cX12_soil 19 = .ok (.iload_n 1, 1) := by decide +kernel
theorem dX12_soil_20 : decode cX12_soil 20 = .ok (.putfield 140, 3) := by decide +kernel
theorem dX12_soil_23 : decode cX12_soil 23 = .ok (.iload_n 2, 1) := by decide +kernel
theorem dX12_soil_24 : decode cX12_soil 24 = .ok (.ireturn, 1) := by decide +kernel
theorem dX12_openWays_0 : decode cX12_openWays 0 = .ok (.iconst 0, 1) := by decide +kernel
theorem dX12_openWays_1 : decode cX12_openWays 1 = .ok (.istore 4, 2) := by decide +kernel
theorem dX12_openWays_3 : decode cX12_openWays 3 = .ok (.iconst 0, 1) := by decide +kernel
theorem dX12_openWays_4 : decode cX12_openWays 4 = .ok (.istore 5, 2) := by decide +kernel
theorem dX12_openWays_6 : decode cX12_openWays 6 = .ok (.iload 5, 2) := by decide +kernel
theorem dX12_openWays_8 : decode cX12_openWays 8 = .ok (.aload_n 0, 1) := by decide +kernel
theorem dX12_openWays_9 : decode cX12_openWays 9 = .ok (.getfield 159, 3) := by decide +kernel
theorem dX12_openWays_12 : decode cX12_openWays 12 = .ok (.if_icmp .ge 62, 3) := by decide +kernel
theorem dX12_openWays_15 : decode cX12_openWays 15 = .ok (.iload 4, 2) := by decide +kernel
theorem dX12_openWays_17 : decode cX12_openWays 17 = .ok (.aload_n 0, 1) := by decide +kernel
theorem dX12_openWays_18 : decode cX12_openWays 18 = .ok (.getfield 13, 3) := by decide +kernel
theorem dX12_openWays_21 : decode cX12_openWays 21 = .ok (.iload 5, 2) := by decide +kernel
theorem dX12_openWays_23 : decode cX12_openWays 23 = .ok (.iaload, 1) := by decide +kernel
theorem dX12_openWays_24 : decode cX12_openWays 24 = .ok (.iload_n 1, 1) := by decide +kernel
theorem dX12_openWays_25 : decode cX12_openWays 25 = .ok (.if_icmp .ne 39, 3) := by decide +kernel
theorem dX12_openWays_28 : decode cX12_openWays 28 = .ok (.aload_n 0, 1) := by decide +kernel
theorem dX12_openWays_29 : decode cX12_openWays 29 = .ok (.getfield 17, 3) := by decide +kernel
theorem dX12_openWays_32 : decode cX12_openWays 32 = .ok (.iload 5, 2) := by decide +kernel
theorem dX12_openWays_34 : decode cX12_openWays 34 = .ok (.iaload, 1) := by decide +kernel
theorem dX12_openWays_35 : decode cX12_openWays 35 = .ok (.iload_n 2, 1) := by decide +kernel
theorem dX12_openWays_36 : decode cX12_openWays 36 = .ok (.if_icmp .ne 28, 3) := by decide +kernel
theorem dX12_openWays_39 : decode cX12_openWays 39 = .ok (.iload_n 3, 1) := by decide +kernel
theorem dX12_openWays_40 : decode cX12_openWays 40 = .ok (.aload_n 0, 1) := by decide +kernel
theorem dX12_openWays_41 : decode cX12_openWays 41 = .ok (.getfield 20, 3) := by decide +kernel
theorem dX12_openWays_44 : decode cX12_openWays 44 = .ok (.iload 5, 2) := by decide +kernel
theorem dX12_openWays_46 : decode cX12_openWays 46 = .ok (.iaload, 1) := by decide +kernel
theorem dX12_openWays_47 : decode cX12_openWays 47 = .ok (.aload_n 0, 1) := by decide +kernel
theorem dX12_openWays_48 : decode cX12_openWays 48 = .ok (.getfield 23, 3) := by decide +kernel
theorem dX12_openWays_51 : decode cX12_openWays 51 = .ok (.iload 5, 2) := by decide +kernel
theorem dX12_openWays_53 : decode cX12_openWays 53 = .ok (.iaload, 1) := by decide +kernel
theorem dX12_openWays_54 : decode cX12_openWays 54 = .ok (.invokestatic 148, 3) := by decide +kernel
theorem dX12_openWays_57 : decode cX12_openWays 57 = .ok (.ifCond .eq 7, 3) := by decide +kernel
theorem dX12_openWays_60 : decode cX12_openWays 60 = .ok (.iconst 1, 1) := by decide +kernel
theorem dX12_openWays_61 : decode cX12_openWays 61 = .ok (.goto 4, 3) := by decide +kernel
theorem dX12_openWays_64 : decode cX12_openWays 64 = .ok (.iconst 0, 1) := by decide +kernel
theorem dX12_openWays_65 : decode cX12_openWays 65 = .ok (.iadd, 1) := by decide +kernel
theorem dX12_openWays_66 : decode cX12_openWays 66 = .ok (.istore 4, 2) := by decide +kernel
theorem dX12_openWays_68 : decode cX12_openWays 68 = .ok (.iinc 5 1, 3) := by decide +kernel
theorem dX12_openWays_71 : decode cX12_openWays 71 = .ok (.goto (-65), 3) := by decide +kernel
theorem dX12_openWays_74 : decode cX12_openWays 74 = .ok (.iload 4, 2) := by decide +kernel
theorem dX12_openWays_76 : decode cX12_openWays 76 = .ok (.ireturn, 1) := by decide +kernel
theorem dX12_isPaper_0 : decode cX12_isPaper 0 = .ok (.iload_n 1, 1) := by decide +kernel
theorem dX12_isPaper_1 : decode cX12_isPaper 1 = .ok (.iconst 0, 1) := by decide +kernel
theorem dX12_isPaper_2 : decode cX12_isPaper 2 = .ok (.aload_n 0, 1) := by decide +kernel
theorem dX12_isPaper_3 : decode cX12_isPaper 3 = .ok (.getfield 162, 3) := by decide +kernel
theorem dX12_isPaper_6 : decode cX12_isPaper 6 = .ok (.iconst 1, 1) := by decide +kernel
theorem dX12_isPaper_7 : decode cX12_isPaper 7 = .ok (.isub, 1) := by decide +kernel
theorem dX12_isPaper_8 : decode cX12_isPaper 8 = .ok (.invokestatic 148, 3) := by decide +kernel
theorem dX12_isPaper_11 : decode cX12_isPaper 11 = .ok (.ireturn, 1) := by decide +kernel
theorem dX12_paper_0 : decode cX12_paper 0 = .ok (.iload_n 1, 1) := by decide +kernel
theorem dX12_paper_1 : decode cX12_paper 1 = .ok (.iconst 0, 1) := by decide +kernel
theorem dX12_paper_2 : decode cX12_paper 2 = .ok (.iconst 5, 1) := by decide +kernel
theorem dX12_paper_3 : decode cX12_paper 3 = .ok (.invokestatic 148, 3) := by decide +kernel
theorem dX12_paper_6 : decode cX12_paper 6 = .ok (.ifCond .eq 41, 3) := by decide +kernel
theorem dX12_paper_9 : decode cX12_paper 9 = .ok (.iload_n 2, 1) := by decide +kernel
theorem dX12_paper_10 : decode cX12_paper 10 = .ok (.invokestatic 152, 3) := by decide +kernel
theorem dX12_paper_13 : decode cX12_paper 13 = .ok (.ifCond .eq 34, 3) := by decide +kernel
theorem dX12_paper_16 : decode cX12_paper 16 = .ok (.iload_n 3, 1) := by decide +kernel
theorem dX12_paper_17 : decode cX12_paper 17 = .ok (.invokestatic 152, 3) := by decide +kernel
theorem dX12_paper_20 : decode cX12_paper 20 = .ok (.ifCond .eq 27, 3) := by decide +kernel
theorem dX12_paper_23 : decode cX12_paper 23 = .ok (.aload_n 0, 1) := by decide +kernel
theorem dX12_paper_24 : decode cX12_paper 24 = .ok (.iload 4, 2) := by decide +kernel
theorem dX12_paper_26 : decode cX12_paper 26 = .ok (.invokevirtual 156, 3) := by decide +kernel
theorem dX12_paper_29 : decode cX12_paper 29 = .ok (.ifCond .eq 18, 3) := by decide +kernel
theorem dX12_paper_32 : decode cX12_paper 32 = .ok (.iload 5, 2) := by decide +kernel
theorem dX12_paper_34 : decode cX12_paper 34 = .ok (.ifCond .lt 13, 3) := by decide +kernel
theorem dX12_paper_37 : decode cX12_paper 37 = .ok (.iload 5, 2) := by decide +kernel
theorem dX12_paper_39 : decode cX12_paper 39 = .ok (.aload_n 0, 1) := by decide +kernel
theorem dX12_paper_40 : decode cX12_paper 40 = .ok (.getfield 162, 3) := by decide +kernel
theorem dX12_paper_43 : decode cX12_paper 43 = .ok (.ishr, 1) := by decide +kernel
theorem dX12_paper_44 : decode cX12_paper 44 = .ok (.ifCond .eq 6, 3) := by decide +kernel
theorem dX12_paper_47 : decode cX12_paper 47 = .ok (.bipush (-2), 2) := by decide +kernel
theorem dX12_paper_49 : decode cX12_paper 49 = .ok (.ireturn, 1) := by decide +kernel
theorem dX12_paper_50 : decode cX12_paper 50 = .ok (.aload_n 0, 1) := by decide +kernel
theorem dX12_paper_51 : decode cX12_paper 51 = .ok (.getfield 162, 3) := by decide +kernel
theorem dX12_paper_54 : decode cX12_paper 54 = .ok (.bipush 16, 2) := by decide +kernel
theorem dX12_paper_56 : decode cX12_paper 56 = .ok (.if_icmp .ne 6, 3) := by decide +kernel
theorem dX12_paper_59 : decode cX12_paper 59 = .ok (.bipush (-4), 2) := by decide +kernel
theorem dX12_paper_61 : decode cX12_paper 61 = .ok (.ireturn, 1) := by decide +kernel
theorem dX12_paper_62 : decode cX12_paper 62 = .ok (.aload_n 0, 1) := by decide +kernel
theorem dX12_paper_63 : decode cX12_paper 63 = .ok (.getfield 26, 3) := by decide +kernel
theorem dX12_paper_66 : decode cX12_paper 66 = .ok (.aload_n 0, 1) := by decide +kernel
theorem dX12_paper_67 : decode cX12_paper 67 = .ok (.getfield 162, 3) := by decide +kernel
theorem dX12_paper_70 : decode cX12_paper 70 = .ok (.iload_n 1, 1) := by decide +kernel
theorem dX12_paper_71 : decode cX12_paper 71 = .ok (.iastore, 1) := by decide +kernel
theorem dX12_paper_72 : decode cX12_paper 72 = .ok (.aload_n 0, 1) := by decide +kernel
theorem dX12_paper_73 : decode cX12_paper 73 = .ok (.getfield 29, 3) := by decide +kernel
theorem dX12_paper_76 : decode cX12_paper 76 = .ok (.aload_n 0, 1) := by decide +kernel
theorem dX12_paper_77 : decode cX12_paper 77 = .ok (.getfield 162, 3) := by decide +kernel
theorem dX12_paper_80 : decode cX12_paper 80 = .ok (.iload_n 2, 1) := by decide +kernel
theorem dX12_paper_81 : decode cX12_paper 81 = .ok (.iastore, 1) := by decide +kernel
theorem dX12_paper_82 : decode cX12_paper 82 = .ok (.aload_n 0, 1) := by decide +kernel
theorem dX12_paper_83 : decode cX12_paper 83 = .ok (.getfield 32, 3) := by decide +kernel
theorem dX12_paper_86 : decode cX12_paper 86 = .ok (.aload_n 0, 1) := by decide +kernel
theorem dX12_paper_87 : decode cX12_paper 87 = .ok (.getfield 162, 3) := by decide +kernel
theorem dX12_paper_90 : decode cX12_paper 90 = .ok (.iload_n 3, 1) := by decide +kernel
theorem dX12_paper_91 : decode cX12_paper 91 = .ok (.iastore, 1) := by decide +kernel
theorem dX12_paper_92 : decode cX12_paper 92 = .ok (.aload_n 0, 1) := by decide +kernel
theorem dX12_paper_93 : decode cX12_paper 93 = .ok (.getfield 35, 3) := by decide +kernel
theorem dX12_paper_96 : decode cX12_paper 96 = .ok (.aload_n 0, 1) := by decide +kernel
theorem dX12_paper_97 : decode cX12_paper 97 = .ok (.getfield 162, 3) := by decide +kernel
theorem dX12_paper_100 : decode cX12_paper 100 = .ok (.iload 4, 2) := by decide +kernel
theorem dX12_paper_102 : decode cX12_paper 102 = .ok (.iastore, 1) := by decide +kernel
theorem dX12_paper_103 : decode cX12_paper 103 = .ok (.aload_n 0, 1) := by decide +kernel
theorem dX12_paper_104 : decode cX12_paper 104 = .ok (.getfield 38, 3) := by decide +kernel
theorem dX12_paper_107 : decode cX12_paper 107 = .ok (.aload_n 0, 1) := by decide +kernel
theorem dX12_paper_108 : decode cX12_paper 108 = .ok (.getfield 162, 3) := by decide +kernel
theorem dX12_paper_111 : decode cX12_paper 111 = .ok (.iload 5, 2) := by decide +kernel
theorem dX12_paper_113 : decode cX12_paper 113 = .ok (.iastore, 1) := by decide +kernel
theorem dX12_paper_114 : decode cX12_paper 114 = .ok (.aload_n 0, 1) := by decide +kernel
theorem dX12_paper_115 : decode cX12_paper 115 = .ok (.getfield 41, 3) := by decide +kernel
theorem dX12_paper_118 : decode cX12_paper 118 = .ok (.aload_n 0, 1) := by decide +kernel
theorem dX12_paper_119 : decode cX12_paper 119 = .ok (.getfield 162, 3) := by decide +kernel
theorem dX12_paper_122 : decode cX12_paper 122 = .ok (.iconst 0, 1) := by decide +kernel
theorem dX12_paper_123 : decode cX12_paper 123 = .ok (.bastore, 1) := by decide +kernel
theorem dX12_paper_124 : decode cX12_paper 124 = .ok (.aload_n 0, 1) := by decide +kernel
theorem dX12_paper_125 : decode cX12_paper 125 = .ok (.dup, 1) := by decide +kernel
theorem dX12_paper_126 : decode cX12_paper 126 = .ok (.getfield 162, 3) := by decide +kernel
theorem dX12_paper_129 : decode cX12_paper 129 = .ok (.iconst 1, 1) := by decide +kernel
theorem dX12_paper_130 : decode cX12_paper 130 = .ok (.iadd, 1) := by decide +kernel
theorem dX12_paper_131 : decode cX12_paper 131 = .ok (.putfield 162, 3) := by decide +kernel
theorem dX12_paper_134 : decode cX12_paper 134 = .ok (.aload_n 0, 1) := by decide +kernel
theorem dX12_paper_135 : decode cX12_paper 135 = .ok (.getfield 162, 3) := by decide +kernel
theorem dX12_paper_138 : decode cX12_paper 138 = .ok (.iconst 1, 1) := by decide +kernel
theorem dX12_paper_139 : decode cX12_paper 139 = .ok (.isub, 1) := by decide +kernel
theorem dX12_paper_140 : decode cX12_paper 140 = .ok (.ireturn, 1) := by decide +kernel
theorem dX12_standing_0 : decode cX12_standing 0 = .ok (.iconst 0, 1) := by decide +kernel
theorem dX12_standing_1 : decode cX12_standing 1 = .ok (.istore_n 2, 1) := by decide +kernel
theorem dX12_standing_2 : decode cX12_standing 2 = .ok (.iconst 0, 1) := by decide +kernel
theorem dX12_standing_3 : decode cX12_standing 3 = .ok (.istore_n 3, 1) := by decide +kernel
theorem dX12_standing_4 : decode cX12_standing 4 = .ok (.iload_n 3, 1) := by decide +kernel
theorem dX12_standing_5 : decode cX12_standing 5 = .ok (.aload_n 0, 1) := by decide +kernel
theorem dX12_standing_6 : decode cX12_standing 6 = .ok (.getfield 162, 3) := by decide +kernel
theorem dX12_standing_9 : decode cX12_standing 9 = .ok (.if_icmp .ge 42, 3) := by decide +kernel
theorem dX12_standing_12 : decode cX12_standing 12 = .ok (.aload_n 0, 1) := by decide +kernel
theorem dX12_standing_13 : decode cX12_standing 13 = .ok (.getfield 41, 3) := by decide +kernel
theorem dX12_standing_16 : decode cX12_standing 16 = .ok (.iload_n 3, 1) := by decide +kernel
theorem dX12_standing_17 : decode cX12_standing 17 = .ok (.baload, 1) := by decide +kernel
theorem dX12_standing_18 : decode cX12_standing 18 = .ok (.ifCond .ne 27, 3) := by decide +kernel
theorem dX12_standing_21 : decode cX12_standing 21 = .ok (.iload_n 3, 1) := by decide +kernel
theorem dX12_standing_22 : decode cX12_standing 22 = .ok (.iload_n 1, 1) := by decide +kernel
theorem dX12_standing_23 : decode cX12_standing 23 = .ok (.if_icmp .eq 22, 3) := by decide +kernel
theorem dX12_standing_26 : decode cX12_standing 26 = .ok (.aload_n 0, 1) := by decide +kernel
theorem dX12_standing_27 : decode cX12_standing 27 = .ok (.getfield 38, 3) := by decide +kernel
theorem dX12_standing_30 : decode cX12_standing 30 = .ok (.iload_n 3, 1) := by decide +kernel
theorem dX12_standing_31 : decode cX12_standing 31 = .ok (.iaload, 1) := by decide +kernel
theorem dX12_standing_32 : decode cX12_standing 32 = .ok (.iload_n 2, 1) := by decide +kernel
theorem dX12_standing_33 : decode cX12_standing 33 = .ok (.iconst (-1), 1) := by decide +kernel
theorem dX12_standing_34 : decode cX12_standing 34 = .ok (.ixor, 1) := by decide +kernel
theorem dX12_standing_35 : decode cX12_standing 35 = .ok (.iand, 1) := by decide +kernel
theorem dX12_standing_36 : decode cX12_standing 36 = .ok (.ifCond .ne 9, 3) := by decide +kernel
theorem dX12_standing_39 : decode cX12_standing 39 = .ok (.iload_n 2, 1) := by decide +kernel
theorem dX12_standing_40 : decode cX12_standing 40 = .ok (.iconst 1, 1) := by decide +kernel
theorem dX12_standing_41 : decode cX12_standing 41 = .ok (.iload_n 3, 1) := by decide +kernel
theorem dX12_standing_42 : decode cX12_standing 42 = .ok (.ishl, 1) := by decide +kernel
theorem dX12_standing_43 : decode cX12_standing 43 = .ok (.ior, 1) := by decide +kernel
theorem dX12_standing_44 : decode cX12_standing 44 = .ok (.istore_n 2, 1) := by decide +kernel
theorem dX12_standing_45 : decode cX12_standing 45 = .ok (.iinc 3 1, 3) := by decide +kernel
theorem dX12_standing_48 : decode cX12_standing 48 = .ok (.goto (-44), 3) := by decide +kernel
theorem dX12_standing_51 : decode cX12_standing 51 = .ok (.iload_n 2, 1) := by decide +kernel
theorem dX12_standing_52 : decode cX12_standing 52 = .ok (.ireturn, 1) := by decide +kernel
theorem dX12_paperTold_0 : decode cX12_paperTold 0 = .ok (.aload_n 0, 1) := by decide +kernel
theorem dX12_paperTold_1 : decode cX12_paperTold 1 = .ok (.iload_n 1, 1) := by decide +kernel
theorem dX12_paperTold_2 : decode cX12_paperTold 2 = .ok (.invokevirtual 165, 3) := by decide +kernel
theorem dX12_paperTold_5 : decode cX12_paperTold 5 = .ok (.ifCond .ne 6, 3) := by decide +kernel
theorem dX12_paperTold_8 : decode cX12_paperTold 8 = .ok (.bipush (-2), 2) := by decide +kernel
theorem dX12_paperTold_10 : decode cX12_paperTold 10 = .ok (.ireturn, 1) := by decide +kernel
theorem dX12_paperTold_11 : decode cX12_paperTold 11 = .ok (.iload_n 2, 1) := by decide +kernel
theorem dX12_paperTold_12 : decode cX12_paperTold 12 = .ok (.tableswitch 104 0 6 #[44, 51, 58, 65, 72, 79, 94], 44) := by decide +kernel
theorem dX12_paperTold_56 : decode cX12_paperTold 56 = .ok (.aload_n 0, 1) := by decide +kernel
theorem dX12_paperTold_57 : decode cX12_paperTold 57 = .ok (.getfield 26, 3) := by decide +kernel
theorem dX12_paperTold_60 : decode cX12_paperTold 60 = .ok (.iload_n 1, 1) := by decide +kernel
theorem dX12_paperTold_61 : decode cX12_paperTold 61 = .ok (.iaload, 1) := by decide +kernel
theorem dX12_paperTold_62 : decode cX12_paperTold 62 = .ok (.ireturn, 1) := by decide +kernel
theorem dX12_paperTold_63 : decode cX12_paperTold 63 = .ok (.aload_n 0, 1) := by decide +kernel
theorem dX12_paperTold_64 : decode cX12_paperTold 64 = .ok (.getfield 29, 3) := by decide +kernel
theorem dX12_paperTold_67 : decode cX12_paperTold 67 = .ok (.iload_n 1, 1) := by decide +kernel
theorem dX12_paperTold_68 : decode cX12_paperTold 68 = .ok (.iaload, 1) := by decide +kernel
theorem dX12_paperTold_69 : decode cX12_paperTold 69 = .ok (.ireturn, 1) := by decide +kernel
theorem dX12_paperTold_70 : decode cX12_paperTold 70 = .ok (.aload_n 0, 1) := by decide +kernel
theorem dX12_paperTold_71 : decode cX12_paperTold 71 = .ok (.getfield 32, 3) := by decide +kernel
theorem dX12_paperTold_74 : decode cX12_paperTold 74 = .ok (.iload_n 1, 1) := by decide +kernel
theorem dX12_paperTold_75 : decode cX12_paperTold 75 = .ok (.iaload, 1) := by decide +kernel
theorem dX12_paperTold_76 : decode cX12_paperTold 76 = .ok (.ireturn, 1) := by decide +kernel
theorem dX12_paperTold_77 : decode cX12_paperTold 77 = .ok (.aload_n 0, 1) := by decide +kernel
theorem dX12_paperTold_78 : decode cX12_paperTold 78 = .ok (.getfield 35, 3) := by decide +kernel
theorem dX12_paperTold_81 : decode cX12_paperTold 81 = .ok (.iload_n 1, 1) := by decide +kernel
theorem dX12_paperTold_82 : decode cX12_paperTold 82 = .ok (.iaload, 1) := by decide +kernel
theorem dX12_paperTold_83 : decode cX12_paperTold 83 = .ok (.ireturn, 1) := by decide +kernel
theorem dX12_paperTold_84 : decode cX12_paperTold 84 = .ok (.aload_n 0, 1) := by decide +kernel
theorem dX12_paperTold_85 : decode cX12_paperTold 85 = .ok (.getfield 38, 3) := by decide +kernel
theorem dX12_paperTold_88 : decode cX12_paperTold 88 = .ok (.iload_n 1, 1) := by decide +kernel
theorem dX12_paperTold_89 : decode cX12_paperTold 89 = .ok (.iaload, 1) := by decide +kernel
theorem dX12_paperTold_90 : decode cX12_paperTold 90 = .ok (.ireturn, 1) := by decide +kernel
theorem dX12_paperTold_91 : decode cX12_paperTold 91 = .ok (.aload_n 0, 1) := by decide +kernel
theorem dX12_paperTold_92 : decode cX12_paperTold 92 = .ok (.getfield 41, 3) := by decide +kernel
theorem dX12_paperTold_95 : decode cX12_paperTold 95 = .ok (.iload_n 1, 1) := by decide +kernel
theorem dX12_paperTold_96 : decode cX12_paperTold 96 = .ok (.baload, 1) := by decide +kernel
theorem dX12_paperTold_97 : decode cX12_paperTold 97 = .ok (.ifCond .eq 7, 3) := by decide +kernel
theorem dX12_paperTold_100 : decode cX12_paperTold 100 = .ok (.iconst 1, 1) := by decide +kernel
theorem dX12_paperTold_101 : decode cX12_paperTold 101 = .ok (.goto 4, 3) := by decide +kernel
theorem dX12_paperTold_104 : decode cX12_paperTold 104 = .ok (.iconst 0, 1) := by decide +kernel
theorem dX12_paperTold_105 : decode cX12_paperTold 105 = .ok (.ireturn, 1) := by decide +kernel
theorem dX12_paperTold_106 : decode cX12_paperTold 106 = .ok (.aload_n 0, 1) := by decide +kernel
theorem dX12_paperTold_107 : decode cX12_paperTold 107 = .ok (.iconst (-1), 1) := by decide +kernel
theorem dX12_paperTold_108 : decode cX12_paperTold 108 = .ok (.invokevirtual 168, 3) := by decide +kernel
theorem dX12_paperTold_111 : decode cX12_paperTold 111 = .ok (.iload_n 1, 1) := by decide +kernel
theorem dX12_paperTold_112 : decode cX12_paperTold 112 = .ok (.ishr, 1) := by decide +kernel
theorem dX12_paperTold_113 : decode cX12_paperTold 113 = .ok (.iconst 1, 1) := by decide +kernel
theorem dX12_paperTold_114 : decode cX12_paperTold 114 = .ok (.iand, 1) := by decide +kernel
theorem dX12_paperTold_115 : decode cX12_paperTold 115 = .ok (.ireturn, 1) := by decide +kernel
theorem dX12_paperTold_116 : decode cX12_paperTold 116 = .ok (.bipush (-2), 2) := by decide +kernel
theorem dX12_paperTold_118 : decode cX12_paperTold 118 = .ok (.ireturn, 1) := by decide +kernel
theorem dX12_lets_0 : decode cX12_lets 0 = .ok (.aload_n 0, 1) := by decide +kernel
theorem dX12_lets_1 : decode cX12_lets 1 = .ok (.getfield 29, 3) := by decide +kernel
theorem dX12_lets_4 : decode cX12_lets 4 = .ok (.iload_n 1, 1) := by decide +kernel
theorem dX12_lets_5 : decode cX12_lets 5 = .ok (.iaload, 1) := by decide +kernel
theorem dX12_lets_6 : decode cX12_lets 6 = .ok (.istore 4, 2) := by decide +kernel
theorem dX12_lets_8 : decode cX12_lets 8 = .ok (.aload_n 0, 1) := by decide +kernel
theorem dX12_lets_9 : decode cX12_lets 9 = .ok (.getfield 32, 3) := by decide +kernel
theorem dX12_lets_12 : decode cX12_lets 12 = .ok (.iload_n 1, 1) := by decide +kernel
theorem dX12_lets_13 : decode cX12_lets 13 = .ok (.iaload, 1) := by decide +kernel
theorem dX12_lets_14 : decode cX12_lets 14 = .ok (.istore 5, 2) := by decide +kernel
theorem dX12_lets_16 : decode cX12_lets 16 = .ok (.iload_n 3, 1) := by decide +kernel
theorem dX12_lets_17 : decode cX12_lets 17 = .ok (.aload_n 0, 1) := by decide +kernel
theorem dX12_lets_18 : decode cX12_lets 18 = .ok (.getfield 35, 3) := by decide +kernel
theorem dX12_lets_21 : decode cX12_lets 21 = .ok (.iload_n 1, 1) := by decide +kernel
theorem dX12_lets_22 : decode cX12_lets 22 = .ok (.iaload, 1) := by decide +kernel
theorem dX12_lets_23 : decode cX12_lets 23 = .ok (.isub, 1) := by decide +kernel
theorem dX12_lets_24 : decode cX12_lets 24 = .ok (.istore 6, 2) := by decide +kernel
theorem dX12_lets_26 : decode cX12_lets 26 = .ok (.aload_n 0, 1) := by decide +kernel
theorem dX12_lets_27 : decode cX12_lets 27 = .ok (.getfield 26, 3) := by decide +kernel
theorem dX12_lets_30 : decode cX12_lets 30 = .ok (.iload_n 1, 1) := by decide +kernel
theorem dX12_lets_31 : decode cX12_lets 31 = .ok (.iaload, 1) := by decide +kernel
theorem dX12_lets_32 : decode cX12_lets 32 = .ok (.iconst 5, 1) := by decide +kernel
theorem dX12_lets_33 : decode cX12_lets 33 = .ok (.if_icmp .ne 20, 3) := by decide +kernel
theorem dX12_lets_36 : decode cX12_lets 36 = .ok (.iload 6, 2) := by decide +kernel
theorem dX12_lets_38 : decode cX12_lets 38 = .ok (.ifCond .ne 9, 3) := by decide +kernel
theorem dX12_lets_41 : decode cX12_lets 41 = .ok (.iload_n 2, 1) := by decide +kernel
theorem dX12_lets_42 : decode cX12_lets 42 = .ok (.iload 4, 2) := by decide +kernel
theorem dX12_lets_44 : decode cX12_lets 44 = .ok (.if_icmp .eq 7, 3) := by decide +kernel
theorem dX12_lets_47 : decode cX12_lets 47 = .ok (.iconst 1, 1) := by decide +kernel
theorem dX12_lets_48 : decode cX12_lets 48 = .ok (.goto 4, 3) := by decide +kernel
theorem dX12_lets_51 : decode cX12_lets 51 = .ok (.iconst 0, 1) := by decide +kernel
theorem dX12_lets_52 : decode cX12_lets 52 = .ok (.ireturn, 1) := by decide +kernel
theorem dX12_lets_53 : decode cX12_lets 53 = .ok (.iload 6, 2) := by decide +kernel
theorem dX12_lets_55 : decode cX12_lets 55 = .ok (.ifCond .ne 15, 3) := by decide +kernel
theorem dX12_lets_58 : decode cX12_lets 58 = .ok (.iload_n 2, 1) := by decide +kernel
theorem dX12_lets_59 : decode cX12_lets 59 = .ok (.iload 4, 2) := by decide +kernel
theorem dX12_lets_61 : decode cX12_lets 61 = .ok (.if_icmp .ne 7, 3) := by decide +kernel
theorem dX12_lets_64 : decode cX12_lets 64 = .ok (.iconst 1, 1) := by decide +kernel
theorem dX12_lets_65 : decode cX12_lets 65 = .ok (.goto 4, 3) := by decide +kernel
theorem dX12_lets_68 : decode cX12_lets 68 = .ok (.iconst 0, 1) := by decide +kernel
theorem dX12_lets_69 : decode cX12_lets 69 = .ok (.ireturn, 1) := by decide +kernel
theorem dX12_lets_70 : decode cX12_lets 70 = .ok (.aload_n 0, 1) := by decide +kernel
theorem dX12_lets_71 : decode cX12_lets 71 = .ok (.getfield 26, 3) := by decide +kernel
theorem dX12_lets_74 : decode cX12_lets 74 = .ok (.iload_n 1, 1) := by decide +kernel
theorem dX12_lets_75 : decode cX12_lets 75 = .ok (.iaload, 1) := by decide +kernel
theorem dX12_lets_76 : decode cX12_lets 76 = .ok (.tableswitch 153 1 4 #[32, 99, 56, 116], 32) := by decide +kernel
theorem dX12_lets_108 : decode cX12_lets 108 = .ok (.iload 6, 2) := by decide +kernel
theorem dX12_lets_110 : decode cX12_lets 110 = .ok (.iconst 1, 1) := by decide +kernel
theorem dX12_lets_111 : decode cX12_lets 111 = .ok (.if_icmp .ne 15, 3) := by decide +kernel
theorem dX12_lets_114 : decode cX12_lets 114 = .ok (.iload_n 2, 1) := by decide +kernel
theorem dX12_lets_115 : decode cX12_lets 115 = .ok (.iload 4, 2) := by decide +kernel
theorem dX12_lets_117 : decode cX12_lets 117 = .ok (.if_icmp .eq 9, 3) := by decide +kernel
theorem dX12_lets_120 : decode cX12_lets 120 = .ok (.iload_n 2, 1) := by decide +kernel
theorem dX12_lets_121 : decode cX12_lets 121 = .ok (.iload 5, 2) := by decide +kernel
theorem dX12_lets_123 : decode cX12_lets 123 = .ok (.if_icmp .ne 7, 3) := by decide +kernel
theorem dX12_lets_126 : decode cX12_lets 126 = .ok (.iconst 1, 1) := by decide +kernel
theorem dX12_lets_127 : decode cX12_lets 127 = .ok (.goto 4, 3) := by decide +kernel
theorem dX12_lets_130 : decode cX12_lets 130 = .ok (.iconst 0, 1) := by decide +kernel
theorem dX12_lets_131 : decode cX12_lets 131 = .ok (.ireturn, 1) := by decide +kernel
theorem dX12_lets_132 : decode cX12_lets 132 = .ok (.iload 6, 2) := by decide +kernel
theorem dX12_lets_134 : decode cX12_lets 134 = .ok (.iconst 1, 1) := by decide +kernel
theorem dX12_lets_135 : decode cX12_lets 135 = .ok (.if_icmp .ne 23, 3) := by decide +kernel
theorem dX12_lets_138 : decode cX12_lets 138 = .ok (.iload_n 2, 1) := by decide +kernel
theorem dX12_lets_139 : decode cX12_lets 139 = .ok (.iload 4, 2) := by decide +kernel
theorem dX12_lets_141 : decode cX12_lets 141 = .ok (.if_icmp .eq 9, 3) := by decide +kernel
theorem dX12_lets_144 : decode cX12_lets 144 = .ok (.iload_n 2, 1) := by decide +kernel
theorem dX12_lets_145 : decode cX12_lets 145 = .ok (.iload 5, 2) := by decide +kernel
theorem dX12_lets_147 : decode cX12_lets 147 = .ok (.if_icmp .ne 7, 3) := by decide +kernel
theorem dX12_lets_150 : decode cX12_lets 150 = .ok (.iconst 1, 1) := by decide +kernel
theorem dX12_lets_151 : decode cX12_lets 151 = .ok (.goto 23, 3) := by decide +kernel
theorem dX12_lets_154 : decode cX12_lets 154 = .ok (.iconst 0, 1) := by decide +kernel
theorem dX12_lets_155 : decode cX12_lets 155 = .ok (.goto 19, 3) := by decide +kernel
theorem dX12_lets_158 : decode cX12_lets 158 = .ok (.iload 6, 2) := by decide +kernel
theorem dX12_lets_160 : decode cX12_lets 160 = .ok (.ifCond .gt 9, 3) := by decide +kernel
theorem dX12_lets_163 : decode cX12_lets 163 = .ok (.iload_n 2, 1) := by decide +kernel
theorem dX12_lets_164 : decode cX12_lets 164 = .ok (.iload 5, 2) := by decide +kernel
theorem dX12_lets_166 : decode cX12_lets 166 = .ok (.if_icmp .eq 7, 3) := by decide +kernel
theorem dX12_lets_169 : decode cX12_lets 169 = .ok (.iconst 1, 1) := by decide +kernel
theorem dX12_lets_170 : decode cX12_lets 170 = .ok (.goto 4, 3) := by decide +kernel
theorem dX12_lets_173 : decode cX12_lets 173 = .ok (.iconst 0, 1) := by decide +kernel
theorem dX12_lets_174 : decode cX12_lets 174 = .ok (.ireturn, 1) := by decide +kernel
theorem dX12_lets_175 : decode cX12_lets 175 = .ok (.iload 6, 2) := by decide +kernel
theorem dX12_lets_177 : decode cX12_lets 177 = .ok (.ifCond .gt 9, 3) := by decide +kernel
theorem dX12_lets_180 : decode cX12_lets 180 = .ok (.iload_n 2, 1) := by decide +kernel
theorem dX12_lets_181 : decode cX12_lets 181 = .ok (.iload 4, 2) := by decide +kernel
theorem dX12_lets_183 : decode cX12_lets 183 = .ok (.if_icmp .eq 7, 3) := by decide +kernel
theorem dX12_lets_186 : decode cX12_lets 186 = .ok (.iconst 1, 1) := by decide +kernel
theorem dX12_lets_187 : decode cX12_lets 187 = .ok (.goto 4, 3) := by decide +kernel
theorem dX12_lets_190 : decode cX12_lets 190 = .ok (.iconst 0, 1) := by decide +kernel
theorem dX12_lets_191 : decode cX12_lets 191 = .ok (.ireturn, 1) := by decide +kernel
theorem dX12_lets_192 : decode cX12_lets 192 = .ok (.iload 6, 2) := by decide +kernel
theorem dX12_lets_194 : decode cX12_lets 194 = .ok (.ifCond .ge 17, 3) := by decide +kernel
theorem dX12_lets_197 : decode cX12_lets 197 = .ok (.iload_n 2, 1) := by decide +kernel
theorem dX12_lets_198 : decode cX12_lets 198 = .ok (.iload 4, 2) := by decide +kernel
theorem dX12_lets_200 : decode cX12_lets 200 = .ok (.if_icmp .eq 7, 3) := by decide +kernel
theorem dX12_lets_203 : decode cX12_lets 203 = .ok (.iconst 1, 1) := by decide +kernel
theorem dX12_lets_204 : decode cX12_lets 204 = .ok (.goto 24, 3) := by decide +kernel
theorem dX12_lets_207 : decode cX12_lets 207 = .ok (.iconst 0, 1) := by decide +kernel
theorem dX12_lets_208 : decode cX12_lets 208 = .ok (.goto 20, 3) := by decide +kernel
theorem dX12_lets_211 : decode cX12_lets 211 = .ok (.iload 6, 2) := by decide +kernel
theorem dX12_lets_213 : decode cX12_lets 213 = .ok (.iconst 2, 1) := by decide +kernel
theorem dX12_lets_214 : decode cX12_lets 214 = .ok (.if_icmp .gt 9, 3) := by decide +kernel
theorem dX12_lets_217 : decode cX12_lets 217 = .ok (.iload_n 2, 1) := by decide +kernel
theorem dX12_lets_218 : decode cX12_lets 218 = .ok (.iload 4, 2) := by decide +kernel
theorem dX12_lets_220 : decode cX12_lets 220 = .ok (.if_icmp .ne 7, 3) := by decide +kernel
theorem dX12_lets_223 : decode cX12_lets 223 = .ok (.iconst 1, 1) := by decide +kernel
theorem dX12_lets_224 : decode cX12_lets 224 = .ok (.goto 4, 3) := by decide +kernel
theorem dX12_lets_227 : decode cX12_lets 227 = .ok (.iconst 0, 1) := by decide +kernel
theorem dX12_lets_228 : decode cX12_lets 228 = .ok (.ireturn, 1) := by decide +kernel
theorem dX12_lets_229 : decode cX12_lets 229 = .ok (.iconst 1, 1) := by decide +kernel
theorem dX12_lets_230 : decode cX12_lets 230 = .ok (.ireturn, 1) := by decide +kernel
theorem dX12_allows_0 : decode cX12_allows 0 = .ok (.aload_n 0, 1) := by decide +kernel
theorem dX12_allows_1 : decode cX12_allows 1 = .ok (.iload_n 1, 1) := by decide +kernel
theorem dX12_allows_2 : decode cX12_allows 2 = .ok (.invokevirtual 165, 3) := by decide +kernel
theorem dX12_allows_5 : decode cX12_allows 5 = .ok (.ifCond .eq 30, 3) := by decide +kernel
theorem dX12_allows_8 : decode cX12_allows 8 = .ok (.aload_n 0, 1) := by decide +kernel
theorem dX12_allows_9 : decode cX12_allows 9 = .ok (.iload_n 2, 1) := by decide +kernel
theorem dX12_allows_10 : decode cX12_allows 10 = .ok (.iload_n 3, 1) := by decide +kernel
theorem dX12_allows_11 : decode cX12_allows 11 = .ok (.invokevirtual 172, 3) := by decide +kernel
theorem dX12_allows_14 : decode cX12_allows 14 = .ok (.ifCond .eq 21, 3) := by decide +kernel
theorem dX12_allows_17 : decode cX12_allows 17 = .ok (.aload_n 0, 1) := by decide +kernel
theorem dX12_allows_18 : decode cX12_allows 18 = .ok (.iload_n 1, 1) := by decide +kernel
theorem dX12_allows_19 : decode cX12_allows 19 = .ok (.iload_n 2, 1) := by decide +kernel
theorem dX12_allows_20 : decode cX12_allows 20 = .ok (.iload_n 3, 1) := by decide +kernel
theorem dX12_allows_21 : decode cX12_allows 21 = .ok (.invokevirtual 176, 3) := by decide +kernel
theorem dX12_allows_24 : decode cX12_allows 24 = .ok (.ifCond .eq 7, 3) := by decide +kernel
theorem dX12_allows_27 : decode cX12_allows 27 = .ok (.iconst 1, 1) := by decide +kernel
theorem dX12_allows_28 : decode cX12_allows 28 = .ok (.goto 9, 3) := by decide +kernel
theorem dX12_allows_31 : decode cX12_allows 31 = .ok (.iconst 0, 1) := by decide +kernel
theorem dX12_allows_32 : decode cX12_allows 32 = .ok (.goto 5, 3) := by decide +kernel
theorem dX12_allows_35 : decode cX12_allows 35 = .ok (.bipush (-2), 2) := by decide +kernel
theorem dX12_allows_37 : decode cX12_allows 37 = .ok (.ireturn, 1) := by decide +kernel
theorem dX12_bitsOf_0 : decode cX12_bitsOf 0 = .ok (.iconst 0, 1) := by decide +kernel
theorem dX12_bitsOf_1 : decode cX12_bitsOf 1 = .ok (.istore_n 1, 1) := by decide +kernel
theorem dX12_bitsOf_2 : decode cX12_bitsOf 2 = .ok (.iload_n 0, 1) := by decide +kernel
theorem dX12_bitsOf_3 : decode cX12_bitsOf 3 = .ok (.istore_n 2, 1) := by decide +kernel
theorem dX12_bitsOf_4 : decode cX12_bitsOf 4 = .ok (.iload_n 2, 1) := by decide +kernel
theorem dX12_bitsOf_5 : decode cX12_bitsOf 5 = .ok (.ifCond .eq 15, 3) := by decide +kernel
theorem dX12_bitsOf_8 : decode cX12_bitsOf 8 = .ok (.iinc 1 1, 3) := by decide +kernel
theorem dX12_bitsOf_11 : decode cX12_bitsOf 11 = .ok (.iload_n 2, 1) := by decide +kernel
theorem dX12_bitsOf_12 : decode cX12_bitsOf 12 = .ok (.iload_n 2, 1) := by decide +kernel
theorem dX12_bitsOf_13 : decode cX12_bitsOf 13 = .ok (.iconst 1, 1) := by decide +kernel
theorem dX12_bitsOf_14 : decode cX12_bitsOf 14 = .ok (.isub, 1) := by decide +kernel
theorem dX12_bitsOf_15 : decode cX12_bitsOf 15 = .ok (.iand, 1) := by decide +kernel
theorem dX12_bitsOf_16 : decode cX12_bitsOf 16 = .ok (.istore_n 2, 1) := by decide +kernel
theorem dX12_bitsOf_17 : decode cX12_bitsOf 17 = .ok (.goto (-13), 3) := by decide +kernel
theorem dX12_bitsOf_20 : decode cX12_bitsOf 20 = .ok (.iload_n 1, 1) := by decide +kernel
theorem dX12_bitsOf_21 : decode cX12_bitsOf 21 = .ok (.ireturn, 1) := by decide +kernel
theorem dX12_forge_0 : decode cX12_forge 0 = .ok (.aload_n 0, 1) := by decide +kernel
theorem dX12_forge_1 : decode cX12_forge 1 = .ok (.iload_n 1, 1) := by decide +kernel
theorem dX12_forge_2 : decode cX12_forge 2 = .ok (.invokevirtual 165, 3) := by decide +kernel
theorem dX12_forge_5 : decode cX12_forge 5 = .ok (.ifCond .eq 12, 3) := by decide +kernel
theorem dX12_forge_8 : decode cX12_forge 8 = .ok (.iload_n 2, 1) := by decide +kernel
theorem dX12_forge_9 : decode cX12_forge 9 = .ok (.iconst 0, 1) := by decide +kernel
theorem dX12_forge_10 : decode cX12_forge 10 = .ok (.iconst 1, 1) := by decide +kernel
theorem dX12_forge_11 : decode cX12_forge 11 = .ok (.invokestatic 148, 3) := by decide +kernel
theorem dX12_forge_14 : decode cX12_forge 14 = .ok (.ifCond .ne 6, 3) := by decide +kernel
theorem dX12_forge_17 : decode cX12_forge 17 = .ok (.bipush (-2), 2) := by decide +kernel
theorem dX12_forge_19 : decode cX12_forge 19 = .ok (.ireturn, 1) := by decide +kernel
theorem dX12_forge_20 : decode cX12_forge 20 = .ok (.aload_n 0, 1) := by decide +kernel
theorem dX12_forge_21 : decode cX12_forge 21 = .ok (.getfield 41, 3) := by decide +kernel
theorem dX12_forge_24 : decode cX12_forge 24 = .ok (.iload_n 1, 1) := by decide +kernel
theorem dX12_forge_25 : decode cX12_forge 25 = .ok (.iload_n 2, 1) := by decide +kernel
theorem dX12_forge_26 : decode cX12_forge 26 = .ok (.iconst 1, 1) := by decide +kernel
theorem dX12_forge_27 : decode cX12_forge 27 = .ok (.if_icmp .ne 7, 3) := by decide +kernel
theorem dX12_forge_30 : decode cX12_forge 30 = .ok (.iconst 1, 1) := by decide +kernel
theorem dX12_forge_31 : decode cX12_forge 31 = .ok (.goto 4, 3) := by decide +kernel
theorem dX12_forge_34 : decode cX12_forge 34 = .ok (.iconst 0, 1) := by decide +kernel
theorem dX12_forge_35 : decode cX12_forge 35 = .ok (.bastore, 1) := by decide +kernel
theorem dX12_forge_36 : decode cX12_forge 36 = .ok (.aload_n 0, 1) := by decide +kernel
theorem dX12_forge_37 : decode cX12_forge 37 = .ok (.iconst (-1), 1) := by decide +kernel
theorem dX12_forge_38 : decode cX12_forge 38 = .ok (.invokevirtual 168, 3) := by decide +kernel
theorem dX12_forge_41 : decode cX12_forge 41 = .ok (.invokestatic 179, 3) := by decide +kernel
theorem dX12_forge_44 : decode cX12_forge 44 = .ok (.ireturn, 1) := by decide +kernel
theorem dX12_fall_0 : decode cX12_fall 0 = .ok (.aload_n 0, 1) := by decide +kernel
theorem dX12_fall_1 : decode cX12_fall 1 = .ok (.iload_n 1, 1) := by decide +kernel
theorem dX12_fall_2 : decode cX12_fall 2 = .ok (.invokevirtual 165, 3) := by decide +kernel
theorem dX12_fall_5 : decode cX12_fall 5 = .ok (.ifCond .eq 19, 3) := by decide +kernel
theorem dX12_fall_8 : decode cX12_fall 8 = .ok (.aload_n 0, 1) := by decide +kernel
theorem dX12_fall_9 : decode cX12_fall 9 = .ok (.iconst (-1), 1) := by decide +kernel
theorem dX12_fall_10 : decode cX12_fall 10 = .ok (.invokevirtual 168, 3) := by decide +kernel
theorem dX12_fall_13 : decode cX12_fall 13 = .ok (.aload_n 0, 1) := by decide +kernel
theorem dX12_fall_14 : decode cX12_fall 14 = .ok (.iload_n 1, 1) := by decide +kernel
theorem dX12_fall_15 : decode cX12_fall 15 = .ok (.invokevirtual 168, 3) := by decide +kernel
theorem dX12_fall_18 : decode cX12_fall 18 = .ok (.iconst (-1), 1) := by decide +kernel
theorem dX12_fall_19 : decode cX12_fall 19 = .ok (.ixor, 1) := by decide +kernel
theorem dX12_fall_20 : decode cX12_fall 20 = .ok (.iand, 1) := by decide +kernel
theorem dX12_fall_21 : decode cX12_fall 21 = .ok (.goto 5, 3) := by decide +kernel
theorem dX12_fall_24 : decode cX12_fall 24 = .ok (.bipush (-2), 2) := by decide +kernel
theorem dX12_fall_26 : decode cX12_fall 26 = .ok (.ireturn, 1) := by decide +kernel
theorem dX12_layOut_0 : decode cX12_layOut 0 = .ok (.aload_n 0, 1) := by decide +kernel
theorem dX12_layOut_1 : decode cX12_layOut 1 = .ok (.iconst (-1), 1) := by decide +kernel
theorem dX12_layOut_2 : decode cX12_layOut 2 = .ok (.invokevirtual 168, 3) := by decide +kernel
theorem dX12_layOut_5 : decode cX12_layOut 5 = .ok (.istore_n 1, 1) := by decide +kernel
theorem dX12_layOut_6 : decode cX12_layOut 6 = .ok (.iconst 0, 1) := by decide +kernel
theorem dX12_layOut_7 : decode cX12_layOut 7 = .ok (.istore_n 2, 1) := by decide +kernel
theorem dX12_layOut_8 : decode cX12_layOut 8 = .ok (.iload_n 2, 1) := by decide +kernel
theorem dX12_layOut_9 : decode cX12_layOut 9 = .ok (.aload_n 0, 1) := by decide +kernel
theorem dX12_layOut_10 : decode cX12_layOut 10 = .ok (.getfield 124, 3) := by decide +kernel
theorem dX12_layOut_13 : decode cX12_layOut 13 = .ok (.if_icmp .ge 107, 3) := by decide +kernel
theorem dX12_layOut_16 : decode cX12_layOut 16 = .ok (.iconst 0, 1) := by decide +kernel
theorem dX12_layOut_17 : decode cX12_layOut 17 = .ok (.istore_n 3, 1) := by decide +kernel
theorem dX12_layOut_18 : decode cX12_layOut 18 = .ok (.iload_n 3, 1) := by decide +kernel
theorem dX12_layOut_19 : decode cX12_layOut 19 = .ok (.iconst 5, 1) := by decide +kernel
theorem dX12_layOut_20 : decode cX12_layOut 20 = .ok (.if_icmp .ge 94, 3) := by decide +kernel
theorem dX12_layOut_23 : decode cX12_layOut 23 = .ok (.iload_n 2, 1) := by decide +kernel
theorem dX12_layOut_24 : decode cX12_layOut 24 = .ok (.ifCond .gt 15, 3) := by decide +kernel
theorem dX12_layOut_27 : decode cX12_layOut 27 = .ok (.aload_n 0, 1) := by decide +kernel
theorem dX12_layOut_28 : decode cX12_layOut 28 = .ok (.getfield 140, 3) := by decide +kernel
theorem dX12_layOut_31 : decode cX12_layOut 31 = .ok (.iload_n 3, 1) := by decide +kernel
theorem dX12_layOut_32 : decode cX12_layOut 32 = .ok (.ishr, 1) := by decide +kernel
theorem dX12_layOut_33 : decode cX12_layOut 33 = .ok (.iconst 1, 1) := by decide +kernel
theorem dX12_layOut_34 : decode cX12_layOut 34 = .ok (.iand, 1) := by decide +kernel
theorem dX12_layOut_35 : decode cX12_layOut 35 = .ok (.iconst 1, 1) := by decide +kernel
theorem dX12_layOut_36 : decode cX12_layOut 36 = .ok (.if_icmp .ne 7, 3) := by decide +kernel
theorem dX12_layOut_39 : decode cX12_layOut 39 = .ok (.iconst 1, 1) := by decide +kernel
theorem dX12_layOut_40 : decode cX12_layOut 40 = .ok (.goto 4, 3) := by decide +kernel
theorem dX12_layOut_43 : decode cX12_layOut 43 = .ok (.iconst 0, 1) := by decide +kernel
theorem dX12_layOut_44 : decode cX12_layOut 44 = .ok (.istore 4, 2) := by decide +kernel
theorem dX12_layOut_46 : decode cX12_layOut 46 = .ok (.iconst 0, 1) := by decide +kernel
theorem dX12_layOut_47 : decode cX12_layOut 47 = .ok (.istore 5, 2) := by decide +kernel
theorem dX12_layOut_49 : decode cX12_layOut 49 = .ok (.iload 5, 2) := by decide +kernel
theorem dX12_layOut_51 : decode cX12_layOut 51 = .ok (.aload_n 0, 1) := by decide +kernel
theorem dX12_layOut_52 : decode cX12_layOut 52 = .ok (.getfield 162, 3) := by decide +kernel
theorem dX12_layOut_55 : decode cX12_layOut 55 = .ok (.if_icmp .ge 41, 3) := by decide +kernel
theorem dX12_layOut_58 : decode cX12_layOut 58 = .ok (.iload 4, 2) := by decide +kernel
theorem dX12_layOut_60 : decode cX12_layOut 60 = .ok (.ifCond .eq 27, 3) := by decide +kernel
theorem dX12_layOut_63 : decode cX12_layOut 63 = .ok (.iload_n 1, 1) := by decide +kernel
theorem dX12_layOut_64 : decode cX12_layOut 64 = .ok (.iload 5, 2) := by decide +kernel
theorem dX12_layOut_66 : decode cX12_layOut 66 = .ok (.ishr, 1) := by decide +kernel
theorem dX12_layOut_67 : decode cX12_layOut 67 = .ok (.iconst 1, 1) := by decide +kernel
theorem dX12_layOut_68 : decode cX12_layOut 68 = .ok (.iand, 1) := by decide +kernel
theorem dX12_layOut_69 : decode cX12_layOut 69 = .ok (.ifCond .eq 14, 3) := by decide +kernel
theorem dX12_layOut_72 : decode cX12_layOut 72 = .ok (.aload_n 0, 1) := by decide +kernel
theorem dX12_layOut_73 : decode cX12_layOut 73 = .ok (.iload 5, 2) := by decide +kernel
theorem dX12_layOut_75 : decode cX12_layOut 75 = .ok (.iload_n 3, 1) := by decide +kernel
theorem dX12_layOut_76 : decode cX12_layOut 76 = .ok (.iload_n 2, 1) := by decide +kernel
theorem dX12_layOut_77 : decode cX12_layOut 77 = .ok (.invokevirtual 176, 3) := by decide +kernel
theorem dX12_layOut_80 : decode cX12_layOut 80 = .ok (.ifCond .eq 7, 3) := by decide +kernel
theorem dX12_layOut_83 : decode cX12_layOut 83 = .ok (.iconst 1, 1) := by decide +kernel
theorem dX12_layOut_84 : decode cX12_layOut 84 = .ok (.goto 4, 3) := by decide +kernel
theorem dX12_layOut_87 : decode cX12_layOut 87 = .ok (.iconst 0, 1) := by decide +kernel
theorem dX12_layOut_88 : decode cX12_layOut 88 = .ok (.istore 4, 2) := by decide +kernel
theorem dX12_layOut_90 : decode cX12_layOut 90 = .ok (.iinc 5 1, 3) := by decide +kernel
theorem dX12_layOut_93 : decode cX12_layOut 93 = .ok (.goto (-44), 3) := by decide +kernel
theorem dX12_layOut_96 : decode cX12_layOut 96 = .ok (.aload_n 0, 1) := by decide +kernel
theorem dX12_layOut_97 : decode cX12_layOut 97 = .ok (.getfield 45, 3) := by decide +kernel
theorem dX12_layOut_100 : decode cX12_layOut 100 = .ok (.iconst 5, 1) := by decide +kernel
theorem dX12_layOut_101 : decode cX12_layOut 101 = .ok (.iload_n 2, 1) := by decide +kernel
theorem dX12_layOut_102 : decode cX12_layOut 102 = .ok (.imul, 1) := by decide +kernel
theorem dX12_layOut_103 : decode cX12_layOut 103 = .ok (.iload_n 3, 1) := by decide +kernel
theorem dX12_layOut_104 : decode cX12_layOut 104 = .ok (.iadd, 1) := by decide +kernel
theorem dX12_layOut_105 : decode cX12_layOut 105 = .ok (.iload 4, 2) := by decide +kernel
theorem dX12_layOut_107 : decode cX12_layOut 107 = .ok (.bastore, 1) := by decide +kernel
theorem dX12_layOut_108 : decode cX12_layOut 108 = .ok (.iinc 3 1, 3) := by decide +kernel
theorem dX12_layOut_111 : decode cX12_layOut 111 = .ok (.goto (-93), 3) := by decide +kernel
theorem dX12_layOut_114 : decode cX12_layOut 114 = .ok (.iinc 2 1, 3) := by decide +kernel
theorem dX12_layOut_117 : decode cX12_layOut 117 = .ok (.goto (-109), 3) := by decide +kernel
theorem dX12_layOut_120 : decode cX12_layOut 120 = .ok (.iconst 0, 1) := by decide +kernel
theorem dX12_layOut_121 : decode cX12_layOut 121 = .ok (.istore_n 2, 1) := by decide +kernel
theorem dX12_layOut_122 : decode cX12_layOut 122 = .ok (.iload_n 2, 1) := by decide +kernel
theorem dX12_layOut_123 : decode cX12_layOut 123 = .ok (.aload_n 0, 1) := by decide +kernel
theorem dX12_layOut_124 : decode cX12_layOut 124 = .ok (.getfield 124, 3) := by decide +kernel
theorem dX12_layOut_127 : decode cX12_layOut 127 = .ok (.iconst 1, 1) := by decide +kernel
theorem dX12_layOut_128 : decode cX12_layOut 128 = .ok (.isub, 1) := by decide +kernel
theorem dX12_layOut_129 : decode cX12_layOut 129 = .ok (.if_icmp .ge 75, 3) := by decide +kernel
theorem dX12_layOut_132 : decode cX12_layOut 132 = .ok (.iconst 0, 1) := by decide +kernel
theorem dX12_layOut_133 : decode cX12_layOut 133 = .ok (.istore_n 3, 1) := by decide +kernel
theorem dX12_layOut_134 : decode cX12_layOut 134 = .ok (.iload_n 3, 1) := by decide +kernel
theorem dX12_layOut_135 : decode cX12_layOut 135 = .ok (.iconst 5, 1) := by decide +kernel
theorem dX12_layOut_136 : decode cX12_layOut 136 = .ok (.if_icmp .ge 62, 3) := by decide +kernel
theorem dX12_layOut_139 : decode cX12_layOut 139 = .ok (.iconst 0, 1) := by decide +kernel
theorem dX12_layOut_140 : decode cX12_layOut 140 = .ok (.istore 4, 2) := by decide +kernel
theorem dX12_layOut_142 : decode cX12_layOut 142 = .ok (.iload 4, 2) := by decide +kernel
theorem dX12_layOut_144 : decode cX12_layOut 144 = .ok (.iconst 5, 1) := by decide +kernel
theorem dX12_layOut_145 : decode cX12_layOut 145 = .ok (.if_icmp .ge 47, 3) := by decide +kernel
theorem dX12_layOut_148 : decode cX12_layOut 148 = .ok (.aload_n 0, 1) := by decide +kernel
theorem dX12_layOut_149 : decode cX12_layOut 149 = .ok (.getfield 48, 3) := by decide +kernel
theorem dX12_layOut_152 : decode cX12_layOut 152 = .ok (.bipush 25, 2) := by decide +kernel
theorem dX12_layOut_154 : decode cX12_layOut 154 = .ok (.iload_n 2, 1) := by decide +kernel
theorem dX12_layOut_155 : decode cX12_layOut 155 = .ok (.imul, 1) := by decide +kernel
theorem dX12_layOut_156 : decode cX12_layOut 156 = .ok (.iconst 5, 1) := by decide +kernel
theorem dX12_layOut_157 : decode cX12_layOut 157 = .ok (.iload_n 3, 1) := by decide +kernel
theorem dX12_layOut_158 : decode cX12_layOut 158 = .ok (.imul, 1) := by decide +kernel
theorem dX12_layOut_159 : decode cX12_layOut 159 = .ok (.iadd, 1) := by decide +kernel
theorem dX12_layOut_160 : decode cX12_layOut 160 = .ok (.iload 4, 2) := by decide +kernel
theorem dX12_layOut_162 : decode cX12_layOut 162 = .ok (.iadd, 1) := by decide +kernel
theorem dX12_layOut_163 : decode cX12_layOut 163 = .ok (.iload_n 3, 1) := by decide +kernel
theorem dX12_layOut_164 : decode cX12_layOut 164 = .ok (.iload 4, 2) := by decide +kernel
theorem dX12_layOut_166 : decode cX12_layOut 166 = .ok (.if_icmp .eq 14, 3) := by decide +kernel
theorem dX12_layOut_169 : decode cX12_layOut 169 = .ok (.aload_n 0, 1) := by decide +kernel
theorem dX12_layOut_170 : decode cX12_layOut 170 = .ok (.iload_n 3, 1) := by decide +kernel
theorem dX12_layOut_171 : decode cX12_layOut 171 = .ok (.iload 4, 2) := by decide +kernel
theorem dX12_layOut_173 : decode cX12_layOut 173 = .ok (.iload_n 2, 1) := by decide +kernel
theorem dX12_layOut_174 : decode cX12_layOut 174 = .ok (.invokevirtual 182, 3) := by decide +kernel
theorem dX12_layOut_177 : decode cX12_layOut 177 = .ok (.ifCond .le 7, 3) := by decide +kernel
theorem dX12_layOut_180 : decode cX12_layOut 180 = .ok (.iconst 1, 1) := by decide +kernel
theorem dX12_layOut_181 : decode cX12_layOut 181 = .ok (.goto 4, 3) := by decide +kernel
theorem dX12_layOut_184 : decode cX12_layOut 184 = .ok (.iconst 0, 1) := by decide +kernel
theorem dX12_layOut_185 : decode cX12_layOut 185 = .ok (.bastore, 1) := by decide +kernel
theorem dX12_layOut_186 : decode cX12_layOut 186 = .ok (.iinc 4 1, 3) := by decide +kernel
theorem dX12_layOut_189 : decode cX12_layOut 189 = .ok (.goto (-47), 3) := by decide +kernel
theorem dX12_layOut_192 : decode cX12_layOut 192 = .ok (.iinc 3 1, 3) := by decide +kernel
theorem dX12_layOut_195 : decode cX12_layOut 195 = .ok (.goto (-61), 3) := by decide +kernel
theorem dX12_layOut_198 : decode cX12_layOut 198 = .ok (.iinc 2 1, 3) := by decide +kernel
theorem dX12_layOut_201 : decode cX12_layOut 201 = .ok (.goto (-79), 3) := by decide +kernel
theorem dX12_layOut_204 : decode cX12_layOut 204 = .ok (.return_, 1) := by decide +kernel
theorem dX12_counted_0 : decode cX12_counted 0 = .ok (.lconst 0, 1) := by decide +kernel
theorem dX12_counted_1 : decode cX12_counted 1 = .ok (.lstore_n 1, 1) := by decide +kernel
theorem dX12_counted_2 : decode cX12_counted 2 = .ok (.iconst 0, 1) := by decide +kernel
theorem dX12_counted_3 : decode cX12_counted 3 = .ok (.istore_n 3, 1) := by decide +kernel
theorem dX12_counted_4 : decode cX12_counted 4 = .ok (.iload_n 3, 1) := by decide +kernel
theorem dX12_counted_5 : decode cX12_counted 5 = .ok (.iconst 5, 1) := by decide +kernel
theorem dX12_counted_6 : decode cX12_counted 6 = .ok (.if_icmp .ge 29, 3) := by decide +kernel
theorem dX12_counted_9 : decode cX12_counted 9 = .ok (.aload_n 0, 1) := by decide +kernel
theorem dX12_counted_10 : decode cX12_counted 10 = .ok (.getfield 51, 3) := by decide +kernel
theorem dX12_counted_13 : decode cX12_counted 13 = .ok (.iload_n 3, 1) := by decide +kernel
theorem dX12_counted_14 : decode cX12_counted 14 = .ok (.aload_n 0, 1) := by decide +kernel
theorem dX12_counted_15 : decode cX12_counted 15 = .ok (.getfield 45, 3) := by decide +kernel
theorem dX12_counted_18 : decode cX12_counted 18 = .ok (.iload_n 3, 1) := by decide +kernel
theorem dX12_counted_19 : decode cX12_counted 19 = .ok (.baload, 1) := by decide +kernel
theorem dX12_counted_20 : decode cX12_counted 20 = .ok (.ifCond .eq 7, 3) := by decide +kernel
theorem dX12_counted_23 : decode cX12_counted 23 = .ok (.lconst 1, 1) := by decide +kernel
theorem dX12_counted_24 : decode cX12_counted 24 = .ok (.goto 4, 3) := by decide +kernel
theorem dX12_counted_27 : decode cX12_counted 27 = .ok (.lconst 0, 1) := by decide +kernel
theorem dX12_counted_28 : decode cX12_counted 28 = .ok (.lastore, 1) := by decide +kernel
theorem dX12_counted_29 : decode cX12_counted 29 = .ok (.iinc 3 1, 3) := by decide +kernel
theorem dX12_counted_32 : decode cX12_counted 32 = .ok (.goto (-28), 3) := by decide +kernel
theorem dX12_counted_35 : decode cX12_counted 35 = .ok (.iconst 1, 1) := by decide +kernel
theorem dX12_counted_36 : decode cX12_counted 36 = .ok (.istore_n 3, 1) := by decide +kernel
theorem dX12_counted_37 : decode cX12_counted 37 = .ok (.iload_n 3, 1) := by decide +kernel
theorem dX12_counted_38 : decode cX12_counted 38 = .ok (.aload_n 0, 1) := by decide +kernel
theorem dX12_counted_39 : decode cX12_counted 39 = .ok (.getfield 124, 3) := by decide +kernel
theorem dX12_counted_42 : decode cX12_counted 42 = .ok (.if_icmp .ge 117, 3) := by decide +kernel
theorem dX12_counted_45 : decode cX12_counted 45 = .ok (.iconst 0, 1) := by decide +kernel
theorem dX12_counted_46 : decode cX12_counted 46 = .ok (.istore 4, 2) := by decide +kernel
theorem dX12_counted_48 : decode cX12_counted 48 = .ok (.iload 4, 2) := by decide +kernel
theorem dX12_counted_50 : decode cX12_counted 50 = .ok (.iconst 5, 1) := by decide +kernel
theorem dX12_counted_51 : decode cX12_counted 51 = .ok (.if_icmp .ge 102, 3) := by decide +kernel
theorem dX12_counted_54 : decode cX12_counted 54 = .ok (.lconst 0, 1) := by decide +kernel
theorem dX12_counted_55 : decode cX12_counted 55 = .ok (.lstore 5, 2) := by decide +kernel
theorem dX12_counted_57 : decode cX12_counted 57 = .ok (.iconst 0, 1) := by decide +kernel
theorem dX12_counted_58 : decode cX12_counted 58 = .ok (.istore 7, 2) := by decide +kernel
theorem dX12_counted_60 : decode cX12_counted 60 = .ok (.iload 7, 2) := by decide +kernel
theorem dX12_counted_62 : decode cX12_counted 62 = .ok (.iconst 5, 1) := by decide +kernel
theorem dX12_counted_63 : decode cX12_counted 63 = .ok (.if_icmp .ge 53, 3) := by decide +kernel
theorem dX12_counted_66 : decode cX12_counted 66 = .ok (.lload 5, 2) := by decide +kernel
theorem dX12_counted_68 : decode cX12_counted 68 = .ok (.aload_n 0, 1) := by decide +kernel
theorem dX12_counted_69 : decode cX12_counted 69 = .ok (.getfield 48, 3) := by decide +kernel
theorem dX12_counted_72 : decode cX12_counted 72 = .ok (.bipush 25, 2) := by decide +kernel
theorem dX12_counted_74 : decode cX12_counted 74 = .ok (.iload_n 3, 1) := by decide +kernel
theorem dX12_counted_75 : decode cX12_counted 75 = .ok (.iconst 1, 1) := by decide +kernel
theorem dX12_counted_76 : decode cX12_counted 76 = .ok (.isub, 1) := by decide +kernel
theorem dX12_counted_77 : decode cX12_counted 77 = .ok (.imul, 1) := by decide +kernel
theorem dX12_counted_78 : decode cX12_counted 78 = .ok (.iconst 5, 1) := by decide +kernel
theorem dX12_counted_79 : decode cX12_counted 79 = .ok (.iload 7, 2) := by decide +kernel
theorem dX12_counted_81 : decode cX12_counted 81 = .ok (.imul, 1) := by decide +kernel
theorem dX12_counted_82 : decode cX12_counted 82 = .ok (.iadd, 1) := by decide +kernel
theorem dX12_counted_83 : decode cX12_counted 83 = .ok (.iload 4, 2) := by decide +kernel
theorem dX12_counted_85 : decode cX12_counted 85 = .ok (.iadd, 1) := by decide +kernel
theorem dX12_counted_86 : decode cX12_counted 86 = .ok (.baload, 1) := by decide +kernel
theorem dX12_counted_87 : decode cX12_counted 87 = .ok (.ifCond .eq 19, 3) := by decide +kernel
theorem dX12_counted_90 : decode cX12_counted 90 = .ok (.aload_n 0, 1) := by decide +kernel
theorem dX12_counted_91 : decode cX12_counted 91 = .ok (.getfield 51, 3) := by decide +kernel
theorem dX12_counted_94 : decode cX12_counted 94 = .ok (.iconst 5, 1) := by decide +kernel
theorem dX12_counted_95 : decode cX12_counted 95 = .ok (.iload_n 3, 1) := by decide +kernel
theorem dX12_counted_96 : decode cX12_counted 96 = .ok (.iconst 1, 1) := by decide +kernel
theorem dX12_counted_97 : decode cX12_counted 97 = .ok (.isub, 1) := by decide +kernel
theorem dX12_counted_98 : decode cX12_counted 98 = .ok (.imul, 1) := by decide +kernel
theorem dX12_counted_99 : decode cX12_counted 99 = .ok (.iload 7, 2) := by decide +kernel
theorem dX12_counted_101 : decode cX12_counted 101 = .ok (.iadd, 1) := by decide +kernel
theorem dX12_counted_102 : decode cX12_counted 102 = .ok (.laload, 1) := by decide +kernel
theorem dX12_counted_103 : decode cX12_counted 103 = .ok (.goto 4, 3) := by decide +kernel
theorem dX12_counted_106 : decode cX12_counted 106 = .ok (.lconst 0, 1) := by decide +kernel
theorem dX12_counted_107 : decode cX12_counted 107 = .ok (.ladd, 1) := by decide +kernel
theorem dX12_counted_108 : decode cX12_counted 108 = .ok (.lstore 5, 2) := by decide +kernel
theorem dX12_counted_110 : decode cX12_counted 110 = .ok (.iinc 7 1, 3) := by decide +kernel
theorem dX12_counted_113 : decode cX12_counted 113 = .ok (.goto (-53), 3) := by decide +kernel
theorem dX12_counted_116 : decode cX12_counted 116 = .ok (.aload_n 0, 1) := by decide +kernel
theorem dX12_counted_117 : decode cX12_counted 117 = .ok (.getfield 51, 3) := by decide +kernel
theorem dX12_counted_120 : decode cX12_counted 120 = .ok (.iconst 5, 1) := by decide +kernel
theorem dX12_counted_121 : decode cX12_counted 121 = .ok (.iload_n 3, 1) := by decide +kernel
theorem dX12_counted_122 : decode cX12_counted 122 = .ok (.imul, 1) := by decide +kernel
theorem dX12_counted_123 : decode cX12_counted 123 = .ok (.iload 4, 2) := by decide +kernel
theorem dX12_counted_125 : decode cX12_counted 125 = .ok (.iadd, 1) := by decide +kernel
theorem dX12_counted_126 : decode cX12_counted 126 = .ok (.aload_n 0, 1) := by decide +kernel
theorem dX12_counted_127 : decode cX12_counted 127 = .ok (.getfield 45, 3) := by decide +kernel
theorem dX12_counted_130 : decode cX12_counted 130 = .ok (.iconst 5, 1) := by decide +kernel
theorem dX12_counted_131 : decode cX12_counted 131 = .ok (.iload_n 3, 1) := by decide +kernel
theorem dX12_counted_132 : decode cX12_counted 132 = .ok (.imul, 1) := by decide +kernel
theorem dX12_counted_133 : decode cX12_counted 133 = .ok (.iload 4, 2) := by decide +kernel
theorem dX12_counted_135 : decode cX12_counted 135 = .ok (.iadd, 1) := by decide +kernel
theorem dX12_counted_136 : decode cX12_counted 136 = .ok (.baload, 1) := by decide +kernel
theorem dX12_counted_137 : decode cX12_counted 137 = .ok (.ifCond .eq 8, 3) := by decide +kernel
theorem dX12_counted_140 : decode cX12_counted 140 = .ok (.lload 5, 2) := by decide +kernel
theorem dX12_counted_142 : decode cX12_counted 142 = .ok (.goto 4, 3) := by decide +kernel
theorem dX12_counted_145 : decode cX12_counted 145 = .ok (.lconst 0, 1) := by decide +kernel
theorem dX12_counted_146 : decode cX12_counted 146 = .ok (.lastore, 1) := by decide +kernel
theorem dX12_counted_147 : decode cX12_counted 147 = .ok (.iinc 4 1, 3) := by decide +kernel
theorem dX12_counted_150 : decode cX12_counted 150 = .ok (.goto (-102), 3) := by decide +kernel
theorem dX12_counted_153 : decode cX12_counted 153 = .ok (.iinc 3 1, 3) := by decide +kernel
theorem dX12_counted_156 : decode cX12_counted 156 = .ok (.goto (-119), 3) := by decide +kernel
theorem dX12_counted_159 : decode cX12_counted 159 = .ok (.aload_n 0, 1) := by decide +kernel
theorem dX12_counted_160 : decode cX12_counted 160 = .ok (.getfield 124, 3) := by decide +kernel
theorem dX12_counted_163 : decode cX12_counted 163 = .ok (.iconst 1, 1) := by decide +kernel
theorem dX12_counted_164 : decode cX12_counted 164 = .ok (.isub, 1) := by decide +kernel
theorem dX12_counted_165 : decode cX12_counted 165 = .ok (.istore_n 3, 1) := by decide +kernel
theorem dX12_counted_166 : decode cX12_counted 166 = .ok (.iload_n 3, 1) := by decide +kernel
theorem dX12_counted_167 : decode cX12_counted 167 = .ok (.ifCond .lt 139, 3) := by decide +kernel
theorem dX12_counted_170 : decode cX12_counted 170 = .ok (.iconst 0, 1) := by decide +kernel
theorem dX12_counted_171 : decode cX12_counted 171 = .ok (.istore 4, 2) := by decide +kernel
theorem dX12_counted_173 : decode cX12_counted 173 = .ok (.iload 4, 2) := by decide +kernel
theorem dX12_counted_175 : decode cX12_counted 175 = .ok (.iconst 5, 1) := by decide +kernel
theorem dX12_counted_176 : decode cX12_counted 176 = .ok (.if_icmp .ge 124, 3) := by decide +kernel
theorem dX12_counted_179 : decode cX12_counted 179 = .ok (.iload_n 3, 1) := by decide +kernel
theorem dX12_counted_180 : decode cX12_counted 180 = .ok (.aload_n 0, 1) := by decide +kernel
theorem dX12_counted_181 : decode cX12_counted 181 = .ok (.getfield 124, 3) := by decide +kernel
theorem dX12_counted_184 : decode cX12_counted 184 = .ok (.iconst 1, 1) := by decide +kernel
theorem dX12_counted_185 : decode cX12_counted 185 = .ok (.isub, 1) := by decide +kernel
theorem dX12_counted_186 : decode cX12_counted 186 = .ok (.if_icmp .ne 7, 3) := by decide +kernel
theorem dX12_counted_189 : decode cX12_counted 189 = .ok (.lconst 1, 1) := by decide +kernel
theorem dX12_counted_190 : decode cX12_counted 190 = .ok (.goto 4, 3) := by decide +kernel
theorem dX12_counted_193 : decode cX12_counted 193 = .ok (.lconst 0, 1) := by decide +kernel
theorem dX12_counted_194 : decode cX12_counted 194 = .ok (.lstore 5, 2) := by decide +kernel
theorem dX12_counted_196 : decode cX12_counted 196 = .ok (.iconst 0, 1) := by decide +kernel
theorem dX12_counted_197 : decode cX12_counted 197 = .ok (.istore 7, 2) := by decide +kernel
theorem dX12_counted_199 : decode cX12_counted 199 = .ok (.iload 7, 2) := by decide +kernel
theorem dX12_counted_201 : decode cX12_counted 201 = .ok (.iconst 5, 1) := by decide +kernel
theorem dX12_counted_202 : decode cX12_counted 202 = .ok (.if_icmp .ge 61, 3) := by decide +kernel
theorem dX12_counted_205 : decode cX12_counted 205 = .ok (.iload_n 3, 1) := by decide +kernel
theorem dX12_counted_206 : decode cX12_counted 206 = .ok (.aload_n 0, 1) := by decide +kernel
theorem dX12_counted_207 : decode cX12_counted 207 = .ok (.getfield 124, 3) := by decide +kernel
theorem dX12_counted_210 : decode cX12_counted 210 = .ok (.iconst 1, 1) := by decide +kernel
theorem dX12_counted_211 : decode cX12_counted 211 = .ok (.isub, 1) := by decide +kernel
theorem dX12_counted_212 : decode cX12_counted 212 = .ok (.if_icmp .ge 51, 3) := by decide +kernel
theorem dX12_counted_215 : decode cX12_counted 215 = .ok (.lload 5, 2) := by decide +kernel
theorem dX12_counted_217 : decode cX12_counted 217 = .ok (.aload_n 0, 1) := by decide +kernel
theorem dX12_counted_218 : decode cX12_counted 218 = .ok (.getfield 48, 3) := by decide +kernel
theorem dX12_counted_221 : decode cX12_counted 221 = .ok (.bipush 25, 2) := by decide +kernel
theorem dX12_counted_223 : decode cX12_counted 223 = .ok (.iload_n 3, 1) := by decide +kernel
theorem dX12_counted_224 : decode cX12_counted 224 = .ok (.imul, 1) := by decide +kernel
theorem dX12_counted_225 : decode cX12_counted 225 = .ok (.iconst 5, 1) := by decide +kernel
theorem dX12_counted_226 : decode cX12_counted 226 = .ok (.iload 4, 2) := by decide +kernel
theorem dX12_counted_228 : decode cX12_counted 228 = .ok (.imul, 1) := by decide +kernel
theorem dX12_counted_229 : decode cX12_counted 229 = .ok (.iadd, 1) := by decide +kernel
theorem dX12_counted_230 : decode cX12_counted 230 = .ok (.iload 7, 2) := by decide +kernel
theorem dX12_counted_232 : decode cX12_counted 232 = .ok (.iadd, 1) := by decide +kernel
theorem dX12_counted_233 : decode cX12_counted 233 = .ok (.baload, 1) := by decide +kernel
theorem dX12_counted_234 : decode cX12_counted 234 = .ok (.ifCond .eq 19, 3) := by decide +kernel
theorem dX12_counted_237 : decode cX12_counted 237 = .ok (.aload_n 0, 1) := by decide +kernel
theorem dX12_counted_238 : decode cX12_counted 238 = .ok (.getfield 55, 3) := by decide +kernel
theorem dX12_counted_241 : decode cX12_counted 241 = .ok (.iconst 5, 1) := by decide +kernel
theorem dX12_counted_242 : decode cX12_counted 242 = .ok (.iload_n 3, 1) := by decide +kernel
theorem dX12_counted_243 : decode cX12_counted 243 = .ok (.iconst 1, 1) := by decide +kernel
theorem dX12_counted_244 : decode cX12_counted 244 = .ok (.iadd, 1) := by decide +kernel
theorem dX12_counted_245 : decode cX12_counted 245 = .ok (.imul, 1) := by decide +kernel
theorem dX12_counted_246 : decode cX12_counted 246 = .ok (.iload 7, 2) := by decide +kernel
theorem dX12_counted_248 : decode cX12_counted 248 = .ok (.iadd, 1) := by decide +kernel
theorem dX12_counted_249 : decode cX12_counted 249 = .ok (.laload, 1) := by decide +kernel
theorem dX12_counted_250 : decode cX12_counted 250 = .ok (.goto 4, 3) := by decide +kernel
theorem dX12_counted_253 : decode cX12_counted 253 = .ok (.lconst 0, 1) := by decide +kernel
theorem dX12_counted_254 : decode cX12_counted 254 = .ok (.ladd, 1) := by decide +kernel
theorem dX12_counted_255 : decode cX12_counted 255 = .ok (.lstore 5, 2) := by decide +kernel
theorem dX12_counted_257 : decode cX12_counted 257 = .ok (.iinc 7 1, 3) := by decide +kernel
theorem dX12_counted_260 : decode cX12_counted 260 = .ok (.goto (-61), 3) := by decide +kernel
theorem dX12_counted_263 : decode cX12_counted 263 = .ok (.aload_n 0, 1) := by decide +kernel
theorem dX12_counted_264 : decode cX12_counted 264 = .ok (.getfield 55, 3) := by decide +kernel
theorem dX12_counted_267 : decode cX12_counted 267 = .ok (.iconst 5, 1) := by decide +kernel
theorem dX12_counted_268 : decode cX12_counted 268 = .ok (.iload_n 3, 1) := by decide +kernel
theorem dX12_counted_269 : decode cX12_counted 269 = .ok (.imul, 1) := by decide +kernel
theorem dX12_counted_270 : decode cX12_counted 270 = .ok (.iload 4, 2) := by decide +kernel
theorem dX12_counted_272 : decode cX12_counted 272 = .ok (.iadd, 1) := by decide +kernel
theorem dX12_counted_273 : decode cX12_counted 273 = .ok (.aload_n 0, 1) := by decide +kernel
theorem dX12_counted_274 : decode cX12_counted 274 = .ok (.getfield 45, 3) := by decide +kernel
theorem dX12_counted_277 : decode cX12_counted 277 = .ok (.iconst 5, 1) := by decide +kernel
theorem dX12_counted_278 : decode cX12_counted 278 = .ok (.iload_n 3, 1) := by decide +kernel
theorem dX12_counted_279 : decode cX12_counted 279 = .ok (.imul, 1) := by decide +kernel
theorem dX12_counted_280 : decode cX12_counted 280 = .ok (.iload 4, 2) := by decide +kernel
theorem dX12_counted_282 : decode cX12_counted 282 = .ok (.iadd, 1) := by decide +kernel
theorem dX12_counted_283 : decode cX12_counted 283 = .ok (.baload, 1) := by decide +kernel
theorem dX12_counted_284 : decode cX12_counted 284 = .ok (.ifCond .eq 8, 3) := by decide +kernel
theorem dX12_counted_287 : decode cX12_counted 287 = .ok (.lload 5, 2) := by decide +kernel
theorem dX12_counted_289 : decode cX12_counted 289 = .ok (.goto 4, 3) := by decide +kernel
theorem dX12_counted_292 : decode cX12_counted 292 = .ok (.lconst 0, 1) := by decide +kernel
theorem dX12_counted_293 : decode cX12_counted 293 = .ok (.lastore, 1) := by decide +kernel
theorem dX12_counted_294 : decode cX12_counted 294 = .ok (.iinc 4 1, 3) := by decide +kernel
theorem dX12_counted_297 : decode cX12_counted 297 = .ok (.goto (-124), 3) := by decide +kernel
theorem dX12_counted_300 : decode cX12_counted 300 = .ok (.iinc 3 (-1), 3) := by decide +kernel
theorem dX12_counted_303 : decode cX12_counted 303 = .ok (.goto (-137), 3) := by decide +kernel
theorem dX12_counted_306 : decode cX12_counted 306 = .ok (.iconst 0, 1) := by decide +kernel
theorem dX12_counted_307 : decode cX12_counted 307 = .ok (.istore_n 3, 1) := by decide +kernel
theorem dX12_counted_308 : decode cX12_counted 308 = .ok (.iload_n 3, 1) := by decide +kernel
theorem dX12_counted_309 : decode cX12_counted 309 = .ok (.iconst 5, 1) := by decide +kernel
theorem dX12_counted_310 : decode cX12_counted 310 = .ok (.if_icmp .ge 18, 3) := by decide +kernel
theorem dX12_counted_313 : decode cX12_counted 313 = .ok (.lload_n 1, 1) := by decide +kernel
theorem dX12_counted_314 : decode cX12_counted 314 = .ok (.aload_n 0, 1) := by decide +kernel
theorem dX12_counted_315 : decode cX12_counted 315 = .ok (.getfield 55, 3) := by decide +kernel
theorem dX12_counted_318 : decode cX12_counted 318 = .ok (.iload_n 3, 1) := by decide +kernel
theorem dX12_counted_319 : decode cX12_counted 319 = .ok (.laload, 1) := by decide +kernel
theorem dX12_counted_320 : decode cX12_counted 320 = .ok (.ladd, 1) := by decide +kernel
theorem dX12_counted_321 : decode cX12_counted 321 = .ok (.lstore_n 1, 1) := by decide +kernel
theorem dX12_counted_322 : decode cX12_counted 322 = .ok (.iinc 3 1, 3) := by decide +kernel
theorem dX12_counted_325 : decode cX12_counted 325 = .ok (.goto (-17), 3) := by decide +kernel
theorem dX12_counted_328 : decode cX12_counted 328 = .ok (.lload_n 1, 1) := by decide +kernel
theorem dX12_counted_329 : decode cX12_counted 329 = .ok (.lreturn, 1) := by decide +kernel
theorem dX12_all_0 : decode cX12_all 0 = .ok (.aload_n 0, 1) := by decide +kernel
theorem dX12_all_1 : decode cX12_all 1 = .ok (.invokevirtual 186, 3) := by decide +kernel
theorem dX12_all_4 : decode cX12_all 4 = .ok (.aload_n 0, 1) := by decide +kernel
theorem dX12_all_5 : decode cX12_all 5 = .ok (.invokevirtual 189, 3) := by decide +kernel
theorem dX12_all_8 : decode cX12_all 8 = .ok (.lreturn, 1) := by decide +kernel
theorem dX12_through_0 : decode cX12_through 0 = .ok (.aload_n 0, 1) := by decide +kernel
theorem dX12_through_1 : decode cX12_through 1 = .ok (.getfield 51, 3) := by decide +kernel
theorem dX12_through_4 : decode cX12_through 4 = .ok (.iconst 5, 1) := by decide +kernel
theorem dX12_through_5 : decode cX12_through 5 = .ok (.iload_n 2, 1) := by decide +kernel
theorem dX12_through_6 : decode cX12_through 6 = .ok (.imul, 1) := by decide +kernel
theorem dX12_through_7 : decode cX12_through 7 = .ok (.iload_n 1, 1) := by decide +kernel
theorem dX12_through_8 : decode cX12_through 8 = .ok (.iadd, 1) := by decide +kernel
theorem dX12_through_9 : decode cX12_through 9 = .ok (.laload, 1) := by decide +kernel
theorem dX12_through_10 : decode cX12_through 10 = .ok (.aload_n 0, 1) := by decide +kernel
theorem dX12_through_11 : decode cX12_through 11 = .ok (.getfield 55, 3) := by decide +kernel
theorem dX12_through_14 : decode cX12_through 14 = .ok (.iconst 5, 1) := by decide +kernel
theorem dX12_through_15 : decode cX12_through 15 = .ok (.iload_n 2, 1) := by decide +kernel
theorem dX12_through_16 : decode cX12_through 16 = .ok (.imul, 1) := by decide +kernel
theorem dX12_through_17 : decode cX12_through 17 = .ok (.iload_n 1, 1) := by decide +kernel
theorem dX12_through_18 : decode cX12_through 18 = .ok (.iadd, 1) := by decide +kernel
theorem dX12_through_19 : decode cX12_through 19 = .ok (.laload, 1) := by decide +kernel
theorem dX12_through_20 : decode cX12_through 20 = .ok (.lmul, 1) := by decide +kernel
theorem dX12_through_21 : decode cX12_through 21 = .ok (.lreturn, 1) := by decide +kernel
theorem dX12_histories_0 : decode cX12_histories 0 = .ok (.aload_n 0, 1) := by decide +kernel
theorem dX12_histories_1 : decode cX12_histories 1 = .ok (.invokevirtual 193, 3) := by decide +kernel
theorem dX12_histories_4 : decode cX12_histories 4 = .ok (.lreturn, 1) := by decide +kernel
theorem dX12_at_0 : decode cX12_at 0 = .ok (.aload_n 0, 1) := by decide +kernel
theorem dX12_at_1 : decode cX12_at 1 = .ok (.iload_n 1, 1) := by decide +kernel
theorem dX12_at_2 : decode cX12_at 2 = .ok (.iload_n 2, 1) := by decide +kernel
theorem dX12_at_3 : decode cX12_at 3 = .ok (.invokevirtual 172, 3) := by decide +kernel
theorem dX12_at_6 : decode cX12_at 6 = .ok (.ifCond .ne 7, 3) := by decide +kernel
theorem dX12_at_9 : decode cX12_at 9 = .ok (.ldc2_w 196, 3) := by decide +kernel
theorem dX12_at_12 : decode cX12_at 12 = .ok (.lreturn, 1) := by decide +kernel
theorem dX12_at_13 : decode cX12_at 13 = .ok (.aload_n 0, 1) := by decide +kernel
theorem dX12_at_14 : decode cX12_at 14 = .ok (.invokevirtual 193, 3) := by decide +kernel
theorem dX12_at_17 : decode cX12_at 17 = .ok (.lstore_n 3, 1) := by decide +kernel
theorem dX12_at_18 : decode cX12_at 18 = .ok (.aload_n 0, 1) := by decide +kernel
theorem dX12_at_19 : decode cX12_at 19 = .ok (.iload_n 1, 1) := by decide +kernel
theorem dX12_at_20 : decode cX12_at 20 = .ok (.iload_n 2, 1) := by decide +kernel
theorem dX12_at_21 : decode cX12_at 21 = .ok (.invokevirtual 198, 3) := by decide +kernel
theorem dX12_at_24 : decode cX12_at 24 = .ok (.lreturn, 1) := by decide +kernel
theorem dX12_spread_0 : decode cX12_spread 0 = .ok (.iconst 0, 1) := by decide +kernel
theorem dX12_spread_1 : decode cX12_spread 1 = .ok (.istore_n 3, 1) := by decide +kernel
theorem dX12_spread_2 : decode cX12_spread 2 = .ok (.iload_n 3, 1) := by decide +kernel
theorem dX12_spread_3 : decode cX12_spread 3 = .ok (.bipush 60, 2) := by decide +kernel
theorem dX12_spread_5 : decode cX12_spread 5 = .ok (.if_icmp .ge 16, 3) := by decide +kernel
theorem dX12_spread_8 : decode cX12_spread 8 = .ok (.aload_n 0, 1) := by decide +kernel
theorem dX12_spread_9 : decode cX12_spread 9 = .ok (.getfield 58, 3) := by decide +kernel
theorem dX12_spread_12 : decode cX12_spread 12 = .ok (.iload_n 3, 1) := by decide +kernel
theorem dX12_spread_13 : decode cX12_spread 13 = .ok (.lconst 0, 1) := by decide +kernel
theorem dX12_spread_14 : decode cX12_spread 14 = .ok (.lastore, 1) := by decide +kernel
theorem dX12_spread_15 : decode cX12_spread 15 = .ok (.iinc 3 1, 3) := by decide +kernel
theorem dX12_spread_18 : decode cX12_spread 18 = .ok (.goto (-16), 3) := by decide +kernel
theorem dX12_spread_21 : decode cX12_spread 21 = .ok (.aload_n 0, 1) := by decide +kernel
theorem dX12_spread_22 : decode cX12_spread 22 = .ok (.getfield 58, 3) := by decide +kernel
theorem dX12_spread_25 : decode cX12_spread 25 = .ok (.iconst 5, 1) := by decide +kernel
theorem dX12_spread_26 : decode cX12_spread 26 = .ok (.iload_n 2, 1) := by decide +kernel
theorem dX12_spread_27 : decode cX12_spread 27 = .ok (.imul, 1) := by decide +kernel
theorem dX12_spread_28 : decode cX12_spread 28 = .ok (.iload_n 1, 1) := by decide +kernel
theorem dX12_spread_29 : decode cX12_spread 29 = .ok (.iadd, 1) := by decide +kernel
theorem dX12_spread_30 : decode cX12_spread 30 = .ok (.aload_n 0, 1) := by decide +kernel
theorem dX12_spread_31 : decode cX12_spread 31 = .ok (.getfield 45, 3) := by decide +kernel
theorem dX12_spread_34 : decode cX12_spread 34 = .ok (.iconst 5, 1) := by decide +kernel
theorem dX12_spread_35 : decode cX12_spread 35 = .ok (.iload_n 2, 1) := by decide +kernel
theorem dX12_spread_36 : decode cX12_spread 36 = .ok (.imul, 1) := by decide +kernel
theorem dX12_spread_37 : decode cX12_spread 37 = .ok (.iload_n 1, 1) := by decide +kernel
theorem dX12_spread_38 : decode cX12_spread 38 = .ok (.iadd, 1) := by decide +kernel
theorem dX12_spread_39 : decode cX12_spread 39 = .ok (.baload, 1) := by decide +kernel
theorem dX12_spread_40 : decode cX12_spread 40 = .ok (.ifCond .eq 7, 3) := by decide +kernel
theorem dX12_spread_43 : decode cX12_spread 43 = .ok (.lconst 1, 1) := by decide +kernel
theorem dX12_spread_44 : decode cX12_spread 44 = .ok (.goto 4, 3) := by decide +kernel
theorem dX12_spread_47 : decode cX12_spread 47 = .ok (.lconst 0, 1) := by decide +kernel
theorem dX12_spread_48 : decode cX12_spread 48 = .ok (.lastore, 1) := by decide +kernel
theorem dX12_spread_49 : decode cX12_spread 49 = .ok (.iload_n 2, 1) := by decide +kernel
theorem dX12_spread_50 : decode cX12_spread 50 = .ok (.iconst 1, 1) := by decide +kernel
theorem dX12_spread_51 : decode cX12_spread 51 = .ok (.iadd, 1) := by decide +kernel
theorem dX12_spread_52 : decode cX12_spread 52 = .ok (.istore_n 3, 1) := by decide +kernel
theorem dX12_spread_53 : decode cX12_spread 53 = .ok (.iload_n 3, 1) := by decide +kernel
theorem dX12_spread_54 : decode cX12_spread 54 = .ok (.aload_n 0, 1) := by decide +kernel
theorem dX12_spread_55 : decode cX12_spread 55 = .ok (.getfield 124, 3) := by decide +kernel
theorem dX12_spread_58 : decode cX12_spread 58 = .ok (.if_icmp .ge 117, 3) := by decide +kernel
theorem dX12_spread_61 : decode cX12_spread 61 = .ok (.iconst 0, 1) := by decide +kernel
theorem dX12_spread_62 : decode cX12_spread 62 = .ok (.istore 4, 2) := by decide +kernel
theorem dX12_spread_64 : decode cX12_spread 64 = .ok (.iload 4, 2) := by decide +kernel
theorem dX12_spread_66 : decode cX12_spread 66 = .ok (.iconst 5, 1) := by decide +kernel
theorem dX12_spread_67 : decode cX12_spread 67 = .ok (.if_icmp .ge 102, 3) := by decide +kernel
theorem dX12_spread_70 : decode cX12_spread 70 = .ok (.lconst 0, 1) := by decide +kernel
theorem dX12_spread_71 : decode cX12_spread 71 = .ok (.lstore 5, 2) := by decide +kernel
theorem dX12_spread_73 : decode cX12_spread 73 = .ok (.iconst 0, 1) := by decide +kernel
theorem dX12_spread_74 : decode cX12_spread 74 = .ok (.istore 7, 2) := by decide +kernel
theorem dX12_spread_76 : decode cX12_spread 76 = .ok (.iload 7, 2) := by decide +kernel
theorem dX12_spread_78 : decode cX12_spread 78 = .ok (.iconst 5, 1) := by decide +kernel
theorem dX12_spread_79 : decode cX12_spread 79 = .ok (.if_icmp .ge 53, 3) := by decide +kernel
theorem dX12_spread_82 : decode cX12_spread 82 = .ok (.lload 5, 2) := by decide +kernel
theorem dX12_spread_84 : decode cX12_spread 84 = .ok (.aload_n 0, 1) := by decide +kernel
theorem dX12_spread_85 : decode cX12_spread 85 = .ok (.getfield 48, 3) := by decide +kernel
theorem dX12_spread_88 : decode cX12_spread 88 = .ok (.bipush 25, 2) := by decide +kernel
theorem dX12_spread_90 : decode cX12_spread 90 = .ok (.iload_n 3, 1) := by decide +kernel
theorem dX12_spread_91 : decode cX12_spread 91 = .ok (.iconst 1, 1) := by decide +kernel
theorem dX12_spread_92 : decode cX12_spread 92 = .ok (.isub, 1) := by decide +kernel
theorem dX12_spread_93 : decode cX12_spread 93 = .ok (.imul, 1) := by decide +kernel
theorem dX12_spread_94 : decode cX12_spread 94 = .ok (.iconst 5, 1) := by decide +kernel
theorem dX12_spread_95 : decode cX12_spread 95 = .ok (.iload 7, 2) := by decide +kernel
theorem dX12_spread_97 : decode cX12_spread 97 = .ok (.imul, 1) := by decide +kernel
theorem dX12_spread_98 : decode cX12_spread 98 = .ok (.iadd, 1) := by decide +kernel
theorem dX12_spread_99 : decode cX12_spread 99 = .ok (.iload 4, 2) := by decide +kernel
theorem dX12_spread_101 : decode cX12_spread 101 = .ok (.iadd, 1) := by decide +kernel
theorem dX12_spread_102 : decode cX12_spread 102 = .ok (.baload, 1) := by decide +kernel
theorem dX12_spread_103 : decode cX12_spread 103 = .ok (.ifCond .eq 19, 3) := by decide +kernel
theorem dX12_spread_106 : decode cX12_spread 106 = .ok (.aload_n 0, 1) := by decide +kernel
theorem dX12_spread_107 : decode cX12_spread 107 = .ok (.getfield 58, 3) := by decide +kernel
theorem dX12_spread_110 : decode cX12_spread 110 = .ok (.iconst 5, 1) := by decide +kernel
theorem dX12_spread_111 : decode cX12_spread 111 = .ok (.iload_n 3, 1) := by decide +kernel
theorem dX12_spread_112 : decode cX12_spread 112 = .ok (.iconst 1, 1) := by decide +kernel
theorem dX12_spread_113 : decode cX12_spread 113 = .ok (.isub, 1) := by decide +kernel
theorem dX12_spread_114 : decode cX12_spread 114 = .ok (.imul, 1) := by decide +kernel
theorem dX12_spread_115 : decode cX12_spread 115 = .ok (.iload 7, 2) := by decide +kernel
theorem dX12_spread_117 : decode cX12_spread 117 = .ok (.iadd, 1) := by decide +kernel
theorem dX12_spread_118 : decode cX12_spread 118 = .ok (.laload, 1) := by decide +kernel
theorem dX12_spread_119 : decode cX12_spread 119 = .ok (.goto 4, 3) := by decide +kernel
theorem dX12_spread_122 : decode cX12_spread 122 = .ok (.lconst 0, 1) := by decide +kernel
theorem dX12_spread_123 : decode cX12_spread 123 = .ok (.ladd, 1) := by decide +kernel
theorem dX12_spread_124 : decode cX12_spread 124 = .ok (.lstore 5, 2) := by decide +kernel
theorem dX12_spread_126 : decode cX12_spread 126 = .ok (.iinc 7 1, 3) := by decide +kernel
theorem dX12_spread_129 : decode cX12_spread 129 = .ok (.goto (-53), 3) := by decide +kernel
theorem dX12_spread_132 : decode cX12_spread 132 = .ok (.aload_n 0, 1) := by decide +kernel
theorem dX12_spread_133 : decode cX12_spread 133 = .ok (.getfield 58, 3) := by decide +kernel
theorem dX12_spread_136 : decode cX12_spread 136 = .ok (.iconst 5, 1) := by decide +kernel
theorem dX12_spread_137 : decode cX12_spread 137 = .ok (.iload_n 3, 1) := by decide +kernel
theorem dX12_spread_138 : decode cX12_spread 138 = .ok (.imul, 1) := by decide +kernel
theorem dX12_spread_139 : decode cX12_spread 139 = .ok (.iload 4, 2) := by decide +kernel
theorem dX12_spread_141 : decode cX12_spread 141 = .ok (.iadd, 1) := by decide +kernel
theorem dX12_spread_142 : decode cX12_spread 142 = .ok (.aload_n 0, 1) := by decide +kernel
theorem dX12_spread_143 : decode cX12_spread 143 = .ok (.getfield 45, 3) := by decide +kernel
theorem dX12_spread_146 : decode cX12_spread 146 = .ok (.iconst 5, 1) := by decide +kernel
theorem dX12_spread_147 : decode cX12_spread 147 = .ok (.iload_n 3, 1) := by decide +kernel
theorem dX12_spread_148 : decode cX12_spread 148 = .ok (.imul, 1) := by decide +kernel
theorem dX12_spread_149 : decode cX12_spread 149 = .ok (.iload 4, 2) := by decide +kernel
theorem dX12_spread_151 : decode cX12_spread 151 = .ok (.iadd, 1) := by decide +kernel
theorem dX12_spread_152 : decode cX12_spread 152 = .ok (.baload, 1) := by decide +kernel
theorem dX12_spread_153 : decode cX12_spread 153 = .ok (.ifCond .eq 8, 3) := by decide +kernel
theorem dX12_spread_156 : decode cX12_spread 156 = .ok (.lload 5, 2) := by decide +kernel
theorem dX12_spread_158 : decode cX12_spread 158 = .ok (.goto 4, 3) := by decide +kernel
theorem dX12_spread_161 : decode cX12_spread 161 = .ok (.lconst 0, 1) := by decide +kernel
theorem dX12_spread_162 : decode cX12_spread 162 = .ok (.lastore, 1) := by decide +kernel
theorem dX12_spread_163 : decode cX12_spread 163 = .ok (.iinc 4 1, 3) := by decide +kernel
theorem dX12_spread_166 : decode cX12_spread 166 = .ok (.goto (-102), 3) := by decide +kernel
theorem dX12_spread_169 : decode cX12_spread 169 = .ok (.iinc 3 1, 3) := by decide +kernel
theorem dX12_spread_172 : decode cX12_spread 172 = .ok (.goto (-119), 3) := by decide +kernel
theorem dX12_spread_175 : decode cX12_spread 175 = .ok (.return_, 1) := by decide +kernel
theorem dX12_pairUp_0 : decode cX12_pairUp 0 = .ok (.iconst 0, 1) := by decide +kernel
theorem dX12_pairUp_1 : decode cX12_pairUp 1 = .ok (.istore_n 1, 1) := by decide +kernel
theorem dX12_pairUp_2 : decode cX12_pairUp 2 = .ok (.iload_n 1, 1) := by decide +kernel
theorem dX12_pairUp_3 : decode cX12_pairUp 3 = .ok (.iconst 5, 1) := by decide +kernel
theorem dX12_pairUp_4 : decode cX12_pairUp 4 = .ok (.aload_n 0, 1) := by decide +kernel
theorem dX12_pairUp_5 : decode cX12_pairUp 5 = .ok (.getfield 124, 3) := by decide +kernel
theorem dX12_pairUp_8 : decode cX12_pairUp 8 = .ok (.imul, 1) := by decide +kernel
theorem dX12_pairUp_9 : decode cX12_pairUp 9 = .ok (.if_icmp .ge 86, 3) := by decide +kernel
theorem dX12_pairUp_12 : decode cX12_pairUp 12 = .ok (.aload_n 0, 1) := by decide +kernel
theorem dX12_pairUp_13 : decode cX12_pairUp 13 = .ok (.iload_n 1, 1) := by decide +kernel
theorem dX12_pairUp_14 : decode cX12_pairUp 14 = .ok (.iconst 5, 1) := by decide +kernel
theorem dX12_pairUp_15 : decode cX12_pairUp 15 = .ok (.irem, 1) := by decide +kernel
theorem dX12_pairUp_16 : decode cX12_pairUp 16 = .ok (.iload_n 1, 1) := by decide +kernel
theorem dX12_pairUp_17 : decode cX12_pairUp 17 = .ok (.iconst 5, 1) := by decide +kernel
theorem dX12_pairUp_18 : decode cX12_pairUp 18 = .ok (.idiv, 1) := by decide +kernel
theorem dX12_pairUp_19 : decode cX12_pairUp 19 = .ok (.invokevirtual 202, 3) := by decide +kernel
theorem dX12_pairUp_22 : decode cX12_pairUp 22 = .ok (.iload_n 1, 1) := by decide +kernel
theorem dX12_pairUp_23 : decode cX12_pairUp 23 = .ok (.iload_n 1, 1) := by decide +kernel
theorem dX12_pairUp_24 : decode cX12_pairUp 24 = .ok (.iconst 5, 1) := by decide +kernel
theorem dX12_pairUp_25 : decode cX12_pairUp 25 = .ok (.irem, 1) := by decide +kernel
theorem dX12_pairUp_26 : decode cX12_pairUp 26 = .ok (.isub, 1) := by decide +kernel
theorem dX12_pairUp_27 : decode cX12_pairUp 27 = .ok (.istore_n 2, 1) := by decide +kernel
theorem dX12_pairUp_28 : decode cX12_pairUp 28 = .ok (.iload_n 2, 1) := by decide +kernel
theorem dX12_pairUp_29 : decode cX12_pairUp 29 = .ok (.iconst 5, 1) := by decide +kernel
theorem dX12_pairUp_30 : decode cX12_pairUp 30 = .ok (.aload_n 0, 1) := by decide +kernel
theorem dX12_pairUp_31 : decode cX12_pairUp 31 = .ok (.getfield 124, 3) := by decide +kernel
theorem dX12_pairUp_34 : decode cX12_pairUp 34 = .ok (.imul, 1) := by decide +kernel
theorem dX12_pairUp_35 : decode cX12_pairUp 35 = .ok (.if_icmp .ge 54, 3) := by decide +kernel
theorem dX12_pairUp_38 : decode cX12_pairUp 38 = .ok (.aload_n 0, 1) := by decide +kernel
theorem dX12_pairUp_39 : decode cX12_pairUp 39 = .ok (.getfield 51, 3) := by decide +kernel
theorem dX12_pairUp_42 : decode cX12_pairUp 42 = .ok (.iload_n 1, 1) := by decide +kernel
theorem dX12_pairUp_43 : decode cX12_pairUp 43 = .ok (.laload, 1) := by decide +kernel
theorem dX12_pairUp_44 : decode cX12_pairUp 44 = .ok (.aload_n 0, 1) := by decide +kernel
theorem dX12_pairUp_45 : decode cX12_pairUp 45 = .ok (.getfield 58, 3) := by decide +kernel
theorem dX12_pairUp_48 : decode cX12_pairUp 48 = .ok (.iload_n 2, 1) := by decide +kernel
theorem dX12_pairUp_49 : decode cX12_pairUp 49 = .ok (.laload, 1) := by decide +kernel
theorem dX12_pairUp_50 : decode cX12_pairUp 50 = .ok (.lmul, 1) := by decide +kernel
theorem dX12_pairUp_51 : decode cX12_pairUp 51 = .ok (.aload_n 0, 1) := by decide +kernel
theorem dX12_pairUp_52 : decode cX12_pairUp 52 = .ok (.getfield 55, 3) := by decide +kernel
theorem dX12_pairUp_55 : decode cX12_pairUp 55 = .ok (.iload_n 2, 1) := by decide +kernel
theorem dX12_pairUp_56 : decode cX12_pairUp 56 = .ok (.laload, 1) := by decide +kernel
theorem dX12_pairUp_57 : decode cX12_pairUp 57 = .ok (.lmul, 1) := by decide +kernel
theorem dX12_pairUp_58 : decode cX12_pairUp 58 = .ok (.lstore_n 3, 1) := by decide +kernel
theorem dX12_pairUp_59 : decode cX12_pairUp 59 = .ok (.aload_n 0, 1) := by decide +kernel
theorem dX12_pairUp_60 : decode cX12_pairUp 60 = .ok (.getfield 61, 3) := by decide +kernel
theorem dX12_pairUp_63 : decode cX12_pairUp 63 = .ok (.bipush 60, 2) := by decide +kernel
theorem dX12_pairUp_65 : decode cX12_pairUp 65 = .ok (.iload_n 1, 1) := by decide +kernel
theorem dX12_pairUp_66 : decode cX12_pairUp 66 = .ok (.imul, 1) := by decide +kernel
theorem dX12_pairUp_67 : decode cX12_pairUp 67 = .ok (.iload_n 2, 1) := by decide +kernel
theorem dX12_pairUp_68 : decode cX12_pairUp 68 = .ok (.iadd, 1) := by decide +kernel
theorem dX12_pairUp_69 : decode cX12_pairUp 69 = .ok (.lload_n 3, 1) := by decide +kernel
theorem dX12_pairUp_70 : decode cX12_pairUp 70 = .ok (.lastore, 1) := by decide +kernel
theorem dX12_pairUp_71 : decode cX12_pairUp 71 = .ok (.aload_n 0, 1) := by decide +kernel
theorem dX12_pairUp_72 : decode cX12_pairUp 72 = .ok (.getfield 61, 3) := by decide +kernel
theorem dX12_pairUp_75 : decode cX12_pairUp 75 = .ok (.bipush 60, 2) := by decide +kernel
theorem dX12_pairUp_77 : decode cX12_pairUp 77 = .ok (.iload_n 2, 1) := by decide +kernel
theorem dX12_pairUp_78 : decode cX12_pairUp 78 = .ok (.imul, 1) := by decide +kernel
theorem dX12_pairUp_79 : decode cX12_pairUp 79 = .ok (.iload_n 1, 1) := by decide +kernel
theorem dX12_pairUp_80 : decode cX12_pairUp 80 = .ok (.iadd, 1) := by decide +kernel
theorem dX12_pairUp_81 : decode cX12_pairUp 81 = .ok (.lload_n 3, 1) := by decide +kernel
theorem dX12_pairUp_82 : decode cX12_pairUp 82 = .ok (.lastore, 1) := by decide +kernel
theorem dX12_pairUp_83 : decode cX12_pairUp 83 = .ok (.iinc 2 1, 3) := by decide +kernel
theorem dX12_pairUp_86 : decode cX12_pairUp 86 = .ok (.goto (-58), 3) := by decide +kernel
theorem dX12_pairUp_89 : decode cX12_pairUp 89 = .ok (.iinc 1 1, 3) := by decide +kernel
theorem dX12_pairUp_92 : decode cX12_pairUp 92 = .ok (.goto (-90), 3) := by decide +kernel
theorem dX12_pairUp_95 : decode cX12_pairUp 95 = .ok (.return_, 1) := by decide +kernel
theorem dX12_both_0 : decode cX12_both 0 = .ok (.aload_n 0, 1) := by decide +kernel
theorem dX12_both_1 : decode cX12_both 1 = .ok (.iload_n 1, 1) := by decide +kernel
theorem dX12_both_2 : decode cX12_both 2 = .ok (.iload_n 2, 1) := by decide +kernel
theorem dX12_both_3 : decode cX12_both 3 = .ok (.invokevirtual 172, 3) := by decide +kernel
theorem dX12_both_6 : decode cX12_both 6 = .ok (.ifCond .eq 13, 3) := by decide +kernel
theorem dX12_both_9 : decode cX12_both 9 = .ok (.aload_n 0, 1) := by decide +kernel
theorem dX12_both_10 : decode cX12_both 10 = .ok (.iload_n 3, 1) := by decide +kernel
theorem dX12_both_11 : decode cX12_both 11 = .ok (.iload 4, 2) := by decide +kernel
theorem dX12_both_13 : decode cX12_both 13 = .ok (.invokevirtual 172, 3) := by decide +kernel
theorem dX12_both_16 : decode cX12_both 16 = .ok (.ifCond .ne 7, 3) := by decide +kernel
theorem dX12_both_19 : decode cX12_both 19 = .ok (.ldc2_w 196, 3) := by decide +kernel
theorem dX12_both_22 : decode cX12_both 22 = .ok (.lreturn, 1) := by decide +kernel
theorem dX12_both_23 : decode cX12_both 23 = .ok (.aload_n 0, 1) := by decide +kernel
theorem dX12_both_24 : decode cX12_both 24 = .ok (.invokevirtual 193, 3) := by decide +kernel
theorem dX12_both_27 : decode cX12_both 27 = .ok (.lstore 5, 2) := by decide +kernel
theorem dX12_both_29 : decode cX12_both 29 = .ok (.iload_n 2, 1) := by decide +kernel
theorem dX12_both_30 : decode cX12_both 30 = .ok (.iload 4, 2) := by decide +kernel
theorem dX12_both_32 : decode cX12_both 32 = .ok (.if_icmp .gt 7, 3) := by decide +kernel
theorem dX12_both_35 : decode cX12_both 35 = .ok (.iconst 1, 1) := by decide +kernel
theorem dX12_both_36 : decode cX12_both 36 = .ok (.goto 4, 3) := by decide +kernel
theorem dX12_both_39 : decode cX12_both 39 = .ok (.iconst 0, 1) := by decide +kernel
theorem dX12_both_40 : decode cX12_both 40 = .ok (.istore 7, 2) := by decide +kernel
theorem dX12_both_42 : decode cX12_both 42 = .ok (.iload 7, 2) := by decide +kernel
theorem dX12_both_44 : decode cX12_both 44 = .ok (.ifCond .eq 11, 3) := by decide +kernel
theorem dX12_both_47 : decode cX12_both 47 = .ok (.iconst 5, 1) := by decide +kernel
theorem dX12_both_48 : decode cX12_both 48 = .ok (.iload_n 2, 1) := by decide +kernel
theorem dX12_both_49 : decode cX12_both 49 = .ok (.imul, 1) := by decide +kernel
theorem dX12_both_50 : decode cX12_both 50 = .ok (.iload_n 1, 1) := by decide +kernel
theorem dX12_both_51 : decode cX12_both 51 = .ok (.iadd, 1) := by decide +kernel
theorem dX12_both_52 : decode cX12_both 52 = .ok (.goto 9, 3) := by decide +kernel
theorem dX12_both_55 : decode cX12_both 55 = .ok (.iconst 5, 1) := by decide +kernel
theorem dX12_both_56 : decode cX12_both 56 = .ok (.iload 4, 2) := by decide +kernel
theorem dX12_both_58 : decode cX12_both 58 = .ok (.imul, 1) := by decide +kernel
theorem dX12_both_59 : decode cX12_both 59 = .ok (.iload_n 3, 1) := by decide +kernel
theorem dX12_both_60 : decode cX12_both 60 = .ok (.iadd, 1) := by decide +kernel
theorem dX12_both_61 : decode cX12_both 61 = .ok (.istore 8, 2) := by decide +kernel
theorem dX12_both_63 : decode cX12_both 63 = .ok (.iload 7, 2) := by decide +kernel
theorem dX12_both_65 : decode cX12_both 65 = .ok (.ifCond .eq 12, 3) := by decide +kernel
theorem dX12_both_68 : decode cX12_both 68 = .ok (.iconst 5, 1) := by decide +kernel
theorem dX12_both_69 : decode cX12_both 69 = .ok (.iload 4, 2) := by decide +kernel
theorem dX12_both_71 : decode cX12_both 71 = .ok (.imul, 1) := by decide +kernel
theorem dX12_both_72 : decode cX12_both 72 = .ok (.iload_n 3, 1) := by decide +kernel
theorem dX12_both_73 : decode cX12_both 73 = .ok (.iadd, 1) := by decide +kernel
theorem dX12_both_74 : decode cX12_both 74 = .ok (.goto 8, 3) := by decide +kernel
theorem dX12_both_77 : decode cX12_both 77 = .ok (.iconst 5, 1) := by decide +kernel
theorem dX12_both_78 : decode cX12_both 78 = .ok (.iload_n 2, 1) := by decide +kernel
theorem dX12_both_79 : decode cX12_both 79 = .ok (.imul, 1) := by decide +kernel
theorem dX12_both_80 : decode cX12_both 80 = .ok (.iload_n 1, 1) := by decide +kernel
theorem dX12_both_81 : decode cX12_both 81 = .ok (.iadd, 1) := by decide +kernel
theorem dX12_both_82 : decode cX12_both 82 = .ok (.istore 9, 2) := by decide +kernel
theorem dX12_both_84 : decode cX12_both 84 = .ok (.aload_n 0, 1) := by decide +kernel
theorem dX12_both_85 : decode cX12_both 85 = .ok (.iload 8, 2) := by decide +kernel
theorem dX12_both_87 : decode cX12_both 87 = .ok (.iconst 5, 1) := by decide +kernel
theorem dX12_both_88 : decode cX12_both 88 = .ok (.irem, 1) := by decide +kernel
theorem dX12_both_89 : decode cX12_both 89 = .ok (.iload 8, 2) := by decide +kernel
theorem dX12_both_91 : decode cX12_both 91 = .ok (.iconst 5, 1) := by decide +kernel
theorem dX12_both_92 : decode cX12_both 92 = .ok (.idiv, 1) := by decide +kernel
theorem dX12_both_93 : decode cX12_both 93 = .ok (.invokevirtual 202, 3) := by decide +kernel
theorem dX12_both_96 : decode cX12_both 96 = .ok (.aload_n 0, 1) := by decide +kernel
theorem dX12_both_97 : decode cX12_both 97 = .ok (.getfield 51, 3) := by decide +kernel
theorem dX12_both_100 : decode cX12_both 100 = .ok (.iload 8, 2) := by decide +kernel
theorem dX12_both_102 : decode cX12_both 102 = .ok (.laload, 1) := by decide +kernel
theorem dX12_both_103 : decode cX12_both 103 = .ok (.aload_n 0, 1) := by decide +kernel
theorem dX12_both_104 : decode cX12_both 104 = .ok (.getfield 58, 3) := by decide +kernel
theorem dX12_both_107 : decode cX12_both 107 = .ok (.iload 9, 2) := by decide +kernel
theorem dX12_both_109 : decode cX12_both 109 = .ok (.laload, 1) := by decide +kernel
theorem dX12_both_110 : decode cX12_both 110 = .ok (.lmul, 1) := by decide +kernel
theorem dX12_both_111 : decode cX12_both 111 = .ok (.aload_n 0, 1) := by decide +kernel
theorem dX12_both_112 : decode cX12_both 112 = .ok (.getfield 55, 3) := by decide +kernel
theorem dX12_both_115 : decode cX12_both 115 = .ok (.iload 9, 2) := by decide +kernel
theorem dX12_both_117 : decode cX12_both 117 = .ok (.laload, 1) := by decide +kernel
theorem dX12_both_118 : decode cX12_both 118 = .ok (.lmul, 1) := by decide +kernel
theorem dX12_both_119 : decode cX12_both 119 = .ok (.lreturn, 1) := by decide +kernel
theorem dX12_history_0 : decode cX12_history 0 = .ok (.iload_n 1, 1) := by decide +kernel
theorem dX12_history_1 : decode cX12_history 1 = .ok (.iconst 0, 1) := by decide +kernel
theorem dX12_history_2 : decode cX12_history 2 = .ok (.sipush 9999, 3) := by decide +kernel
theorem dX12_history_5 : decode cX12_history 5 = .ok (.invokestatic 148, 3) := by decide +kernel
theorem dX12_history_8 : decode cX12_history 8 = .ok (.ifCond .eq 11, 3) := by decide +kernel
theorem dX12_history_11 : decode cX12_history 11 = .ok (.aload_n 0, 1) := by decide +kernel
theorem dX12_history_12 : decode cX12_history 12 = .ok (.iload_n 2, 1) := by decide +kernel
theorem dX12_history_13 : decode cX12_history 13 = .ok (.invokevirtual 156, 3) := by decide +kernel
theorem dX12_history_16 : decode cX12_history 16 = .ok (.ifCond .ne 6, 3) := by decide +kernel
theorem dX12_history_19 : decode cX12_history 19 = .ok (.bipush (-2), 2) := by decide +kernel
theorem dX12_history_21 : decode cX12_history 21 = .ok (.ireturn, 1) := by decide +kernel
theorem dX12_history_22 : decode cX12_history 22 = .ok (.iload_n 1, 1) := by decide +kernel
theorem dX12_history_23 : decode cX12_history 23 = .ok (.i2l, 1) := by decide +kernel
theorem dX12_history_24 : decode cX12_history 24 = .ok (.aload_n 0, 1) := by decide +kernel
theorem dX12_history_25 : decode cX12_history 25 = .ok (.invokevirtual 193, 3) := by decide +kernel
theorem dX12_history_28 : decode cX12_history 28 = .ok (.lcmp, 1) := by decide +kernel
theorem dX12_history_29 : decode cX12_history 29 = .ok (.ifCond .lt 5, 3) := by decide +kernel
theorem dX12_history_32 : decode cX12_history 32 = .ok (.iconst (-1), 1) := by decide +kernel
theorem dX12_history_33 : decode cX12_history 33 = .ok (.ireturn, 1) := by decide +kernel
theorem dX12_history_34 : decode cX12_history 34 = .ok (.iload_n 1, 1) := by decide +kernel
theorem dX12_history_35 : decode cX12_history 35 = .ok (.i2l, 1) := by decide +kernel
theorem dX12_history_36 : decode cX12_history 36 = .ok (.lstore_n 3, 1) := by decide +kernel
theorem dX12_history_37 : decode cX12_history 37 = .ok (.iconst 0, 1) := by decide +kernel
theorem dX12_history_38 : decode cX12_history 38 = .ok (.istore 5, 2) := by decide +kernel
theorem dX12_history_40 : decode cX12_history 40 = .ok (.iconst 0, 1) := by decide +kernel
theorem dX12_history_41 : decode cX12_history 41 = .ok (.istore 6, 2) := by decide +kernel
theorem dX12_history_43 : decode cX12_history 43 = .ok (.iload 6, 2) := by decide +kernel
theorem dX12_history_45 : decode cX12_history 45 = .ok (.iload_n 2, 1) := by decide +kernel
theorem dX12_history_46 : decode cX12_history 46 = .ok (.if_icmp .gt 114, 3) := by decide +kernel
theorem dX12_history_49 : decode cX12_history 49 = .ok (.iload 5, 2) := by decide +kernel
theorem dX12_history_51 : decode cX12_history 51 = .ok (.istore 7, 2) := by decide +kernel
theorem dX12_history_53 : decode cX12_history 53 = .ok (.iconst 0, 1) := by decide +kernel
theorem dX12_history_54 : decode cX12_history 54 = .ok (.istore 5, 2) := by decide +kernel
theorem dX12_history_56 : decode cX12_history 56 = .ok (.iload 6, 2) := by decide +kernel
theorem dX12_history_58 : decode cX12_history 58 = .ok (.ifCond .le 26, 3) := by decide +kernel
theorem dX12_history_61 : decode cX12_history 61 = .ok (.aload_n 0, 1) := by decide +kernel
theorem dX12_history_62 : decode cX12_history 62 = .ok (.getfield 48, 3) := by decide +kernel
theorem dX12_history_65 : decode cX12_history 65 = .ok (.bipush 25, 2) := by decide +kernel
theorem dX12_history_67 : decode cX12_history 67 = .ok (.iload 6, 2) := by decide +kernel
theorem dX12_history_69 : decode cX12_history 69 = .ok (.iconst 1, 1) := by decide +kernel
theorem dX12_history_70 : decode cX12_history 70 = .ok (.isub, 1) := by decide +kernel
theorem dX12_history_71 : decode cX12_history 71 = .ok (.imul, 1) := by decide +kernel
theorem dX12_history_72 : decode cX12_history 72 = .ok (.iconst 5, 1) := by decide +kernel
theorem dX12_history_73 : decode cX12_history 73 = .ok (.iload 7, 2) := by decide +kernel
theorem dX12_history_75 : decode cX12_history 75 = .ok (.imul, 1) := by decide +kernel
theorem dX12_history_76 : decode cX12_history 76 = .ok (.iadd, 1) := by decide +kernel
theorem dX12_history_77 : decode cX12_history 77 = .ok (.iload 5, 2) := by decide +kernel
theorem dX12_history_79 : decode cX12_history 79 = .ok (.iadd, 1) := by decide +kernel
theorem dX12_history_80 : decode cX12_history 80 = .ok (.baload, 1) := by decide +kernel
theorem dX12_history_81 : decode cX12_history 81 = .ok (.ifCond .eq 20, 3) := by decide +kernel
theorem dX12_history_84 : decode cX12_history 84 = .ok (.lload_n 3, 1) := by decide +kernel
theorem dX12_history_85 : decode cX12_history 85 = .ok (.aload_n 0, 1) := by decide +kernel
theorem dX12_history_86 : decode cX12_history 86 = .ok (.getfield 55, 3) := by decide +kernel
theorem dX12_history_89 : decode cX12_history 89 = .ok (.iconst 5, 1) := by decide +kernel
theorem dX12_history_90 : decode cX12_history 90 = .ok (.iload 6, 2) := by decide +kernel
theorem dX12_history_92 : decode cX12_history 92 = .ok (.imul, 1) := by decide +kernel
theorem dX12_history_93 : decode cX12_history 93 = .ok (.iload 5, 2) := by decide +kernel
theorem dX12_history_95 : decode cX12_history 95 = .ok (.iadd, 1) := by decide +kernel
theorem dX12_history_96 : decode cX12_history 96 = .ok (.laload, 1) := by decide +kernel
theorem dX12_history_97 : decode cX12_history 97 = .ok (.lcmp, 1) := by decide +kernel
theorem dX12_history_98 : decode cX12_history 98 = .ok (.ifCond .lt 56, 3) := by decide +kernel
theorem dX12_history_101 : decode cX12_history 101 = .ok (.lload_n 3, 1) := by decide +kernel
theorem dX12_history_102 : decode cX12_history 102 = .ok (.iload 6, 2) := by decide +kernel
theorem dX12_history_104 : decode cX12_history 104 = .ok (.ifCond .le 30, 3) := by decide +kernel
theorem dX12_history_107 : decode cX12_history 107 = .ok (.aload_n 0, 1) := by decide +kernel
theorem dX12_history_108 : decode cX12_history 108 = .ok (.getfield 48, 3) := by decide +kernel
theorem dX12_history_111 : decode cX12_history 111 = .ok (.bipush 25, 2) := by decide +kernel
theorem dX12_history_113 : decode cX12_history 113 = .ok (.iload 6, 2) := by decide +kernel
theorem dX12_history_115 : decode cX12_history 115 = .ok (.iconst 1, 1) := by decide +kernel
theorem dX12_history_116 : decode cX12_history 116 = .ok (.isub, 1) := by decide +kernel
theorem dX12_history_117 : decode cX12_history 117 = .ok (.imul, 1) := by decide +kernel
theorem dX12_history_118 : decode cX12_history 118 = .ok (.iconst 5, 1) := by decide +kernel
theorem dX12_history_119 : decode cX12_history 119 = .ok (.iload 7, 2) := by decide +kernel
theorem dX12_history_121 : decode cX12_history 121 = .ok (.imul, 1) := by decide +kernel
theorem dX12_history_122 : decode cX12_history 122 = .ok (.iadd, 1) := by decide +kernel
theorem dX12_history_123 : decode cX12_history 123 = .ok (.iload 5, 2) := by decide +kernel
theorem dX12_history_125 : decode cX12_history 125 = .ok (.iadd, 1) := by decide +kernel
theorem dX12_history_126 : decode cX12_history 126 = .ok (.baload, 1) := by decide +kernel
theorem dX12_history_127 : decode cX12_history 127 = .ok (.ifCond .ne 7, 3) := by decide +kernel
theorem dX12_history_130 : decode cX12_history 130 = .ok (.lconst 0, 1) := by decide +kernel
theorem dX12_history_131 : decode cX12_history 131 = .ok (.goto 15, 3) := by decide +kernel
theorem dX12_history_134 : decode cX12_history 134 = .ok (.aload_n 0, 1) := by decide +kernel
theorem dX12_history_135 : decode cX12_history 135 = .ok (.getfield 55, 3) := by decide +kernel
theorem dX12_history_138 : decode cX12_history 138 = .ok (.iconst 5, 1) := by decide +kernel
theorem dX12_history_139 : decode cX12_history 139 = .ok (.iload 6, 2) := by decide +kernel
theorem dX12_history_141 : decode cX12_history 141 = .ok (.imul, 1) := by decide +kernel
theorem dX12_history_142 : decode cX12_history 142 = .ok (.iload 5, 2) := by decide +kernel
theorem dX12_history_144 : decode cX12_history 144 = .ok (.iadd, 1) := by decide +kernel
theorem dX12_history_145 : decode cX12_history 145 = .ok (.laload, 1) := by decide +kernel
theorem dX12_history_146 : decode cX12_history 146 = .ok (.lsub, 1) := by decide +kernel
theorem dX12_history_147 : decode cX12_history 147 = .ok (.lstore_n 3, 1) := by decide +kernel
theorem dX12_history_148 : decode cX12_history 148 = .ok (.iinc 5 1, 3) := by decide +kernel
theorem dX12_history_151 : decode cX12_history 151 = .ok (.goto (-95), 3) := by decide +kernel
theorem dX12_history_154 : decode cX12_history 154 = .ok (.iinc 6 1, 3) := by decide +kernel
theorem dX12_history_157 : decode cX12_history 157 = .ok (.goto (-114), 3) := by decide +kernel
theorem dX12_history_160 : decode cX12_history 160 = .ok (.iload 5, 2) := by decide +kernel
theorem dX12_history_162 : decode cX12_history 162 = .ok (.ireturn, 1) := by decide +kernel
theorem dX12_feed_0 : decode cX12_feed 0 = .ok (.iload_n 1, 1) := by decide +kernel
theorem dX12_feed_1 : decode cX12_feed 1 = .ok (.iconst 1, 1) := by decide +kernel
theorem dX12_feed_2 : decode cX12_feed 2 = .ok (.bipush 8, 2) := by decide +kernel
theorem dX12_feed_4 : decode cX12_feed 4 = .ok (.invokestatic 148, 3) := by decide +kernel
theorem dX12_feed_7 : decode cX12_feed 7 = .ok (.ifCond .ne 6, 3) := by decide +kernel
theorem dX12_feed_10 : decode cX12_feed 10 = .ok (.bipush (-2), 2) := by decide +kernel
theorem dX12_feed_12 : decode cX12_feed 12 = .ok (.ireturn, 1) := by decide +kernel
theorem dX12_feed_13 : decode cX12_feed 13 = .ok (.aload_n 0, 1) := by decide +kernel
theorem dX12_feed_14 : decode cX12_feed 14 = .ok (.getfield 206, 3) := by decide +kernel
theorem dX12_feed_17 : decode cX12_feed 17 = .ok (.iload_n 1, 1) := by decide +kernel
theorem dX12_feed_18 : decode cX12_feed 18 = .ok (.iadd, 1) := by decide +kernel
theorem dX12_feed_19 : decode cX12_feed 19 = .ok (.sipush 160, 3) := by decide +kernel
theorem dX12_feed_22 : decode cX12_feed 22 = .ok (.if_icmp .le 6, 3) := by decide +kernel
theorem dX12_feed_25 : decode cX12_feed 25 = .ok (.bipush (-4), 2) := by decide +kernel
theorem dX12_feed_27 : decode cX12_feed 27 = .ok (.ireturn, 1) := by decide +kernel
theorem dX12_feed_28 : decode cX12_feed 28 = .ok (.iconst 0, 1) := by decide +kernel
theorem dX12_feed_29 : decode cX12_feed 29 = .ok (.istore 4, 2) := by decide +kernel
theorem dX12_feed_31 : decode cX12_feed 31 = .ok (.iload 4, 2) := by decide +kernel
theorem dX12_feed_33 : decode cX12_feed 33 = .ok (.iload_n 1, 1) := by decide +kernel
theorem dX12_feed_34 : decode cX12_feed 34 = .ok (.if_icmp .ge 40, 3) := by decide +kernel
theorem dX12_feed_37 : decode cX12_feed 37 = .ok (.aload_n 0, 1) := by decide +kernel
theorem dX12_feed_38 : decode cX12_feed 38 = .ok (.getfield 70, 3) := by decide +kernel
theorem dX12_feed_41 : decode cX12_feed 41 = .ok (.aload_n 0, 1) := by decide +kernel
theorem dX12_feed_42 : decode cX12_feed 42 = .ok (.getfield 206, 3) := by decide +kernel
theorem dX12_feed_45 : decode cX12_feed 45 = .ok (.lload_n 2, 1) := by decide +kernel
theorem dX12_feed_46 : decode cX12_feed 46 = .ok (.bipush 8, 2) := by decide +kernel
theorem dX12_feed_48 : decode cX12_feed 48 = .ok (.iload 4, 2) := by decide +kernel
theorem dX12_feed_50 : decode cX12_feed 50 = .ok (.imul, 1) := by decide +kernel
theorem dX12_feed_51 : decode cX12_feed 51 = .ok (.lshr, 1) := by decide +kernel
theorem dX12_feed_52 : decode cX12_feed 52 = .ok (.ldc2_w 146, 3) := by decide +kernel
theorem dX12_feed_55 : decode cX12_feed 55 = .ok (.land, 1) := by decide +kernel
theorem dX12_feed_56 : decode cX12_feed 56 = .ok (.l2i, 1) := by decide +kernel
theorem dX12_feed_57 : decode cX12_feed 57 = .ok (.iastore, 1) := by decide +kernel
theorem dX12_feed_58 : decode cX12_feed 58 = .ok (.aload_n 0, 1) := by decide +kernel
theorem dX12_feed_59 : decode cX12_feed 59 = .ok (.dup, 1) := by decide +kernel
theorem dX12_feed_60 : decode cX12_feed 60 = .ok (.getfield 206, 3) := by decide +kernel
theorem dX12_feed_63 : decode cX12_feed 63 = .ok (.iconst 1, 1) := by decide +kernel
theorem dX12_feed_64 : decode cX12_feed 64 = .ok (.iadd, 1) := by decide +kernel
theorem dX12_feed_65 : decode cX12_feed 65 = .ok (.putfield 206, 3) := by decide +kernel
theorem dX12_feed_68 : decode cX12_feed 68 = .ok (.iinc 4 1, 3) := by decide +kernel
theorem dX12_feed_71 : decode cX12_feed 71 = .ok (.goto (-40), 3) := by decide +kernel
theorem dX12_feed_74 : decode cX12_feed 74 = .ok (.aload_n 0, 1) := by decide +kernel
theorem dX12_feed_75 : decode cX12_feed 75 = .ok (.getfield 206, 3) := by decide +kernel
theorem dX12_feed_78 : decode cX12_feed 78 = .ok (.ireturn, 1) := by decide +kernel
theorem dX12_byteAt_0 : decode cX12_byteAt 0 = .ok (.iload_n 1, 1) := by decide +kernel
theorem dX12_byteAt_1 : decode cX12_byteAt 1 = .ok (.aload_n 0, 1) := by decide +kernel
theorem dX12_byteAt_2 : decode cX12_byteAt 2 = .ok (.getfield 209, 3) := by decide +kernel
theorem dX12_byteAt_5 : decode cX12_byteAt 5 = .ok (.if_icmp .ge 17, 3) := by decide +kernel
theorem dX12_byteAt_8 : decode cX12_byteAt 8 = .ok (.aload_n 0, 1) := by decide +kernel
theorem dX12_byteAt_9 : decode cX12_byteAt 9 = .ok (.getfield 64, 3) := by decide +kernel
theorem dX12_byteAt_12 : decode cX12_byteAt 12 = .ok (.aload_n 0, 1) := by decide +kernel
theorem dX12_byteAt_13 : decode cX12_byteAt 13 = .ok (.getfield 212, 3) := by decide +kernel
theorem dX12_byteAt_16 : decode cX12_byteAt 16 = .ok (.iload_n 1, 1) := by decide +kernel
theorem dX12_byteAt_17 : decode cX12_byteAt 17 = .ok (.iadd, 1) := by decide +kernel
theorem dX12_byteAt_18 : decode cX12_byteAt 18 = .ok (.iaload, 1) := by decide +kernel
theorem dX12_byteAt_19 : decode cX12_byteAt 19 = .ok (.goto 4, 3) := by decide +kernel
theorem dX12_byteAt_22 : decode cX12_byteAt 22 = .ok (.iconst (-1), 1) := by decide +kernel
theorem dX12_byteAt_23 : decode cX12_byteAt 23 = .ok (.ireturn, 1) := by decide +kernel
theorem dX12_next_0 : decode cX12_next 0 = .ok (.aload_n 0, 1) := by decide +kernel
theorem dX12_next_1 : decode cX12_next 1 = .ok (.aload_n 0, 1) := by decide +kernel
theorem dX12_next_2 : decode cX12_next 2 = .ok (.getfield 215, 3) := by decide +kernel
theorem dX12_next_5 : decode cX12_next 5 = .ok (.invokevirtual 218, 3) := by decide +kernel
theorem dX12_next_8 : decode cX12_next 8 = .ok (.bipush 32, 2) := by decide +kernel
theorem dX12_next_10 : decode cX12_next 10 = .ok (.if_icmp .eq 16, 3) := by decide +kernel
theorem dX12_next_13 : decode cX12_next 13 = .ok (.aload_n 0, 1) := by decide +kernel
theorem dX12_next_14 : decode cX12_next 14 = .ok (.aload_n 0, 1) := by decide +kernel
theorem dX12_next_15 : decode cX12_next 15 = .ok (.getfield 215, 3) := by decide +kernel
theorem dX12_next_18 : decode cX12_next 18 = .ok (.invokevirtual 218, 3) := by decide +kernel
theorem dX12_next_21 : decode cX12_next 21 = .ok (.bipush 10, 2) := by decide +kernel
theorem dX12_next_23 : decode cX12_next 23 = .ok (.if_icmp .ne 16, 3) := by decide +kernel
theorem dX12_next_26 : decode cX12_next 26 = .ok (.aload_n 0, 1) := by decide +kernel
theorem dX12_next_27 : decode cX12_next 27 = .ok (.dup, 1) := by decide +kernel
theorem dX12_next_28 : decode cX12_next 28 = .ok (.getfield 215, 3) := by decide +kernel
theorem dX12_next_31 : decode cX12_next 31 = .ok (.iconst 1, 1) := by decide +kernel
theorem dX12_next_32 : decode cX12_next 32 = .ok (.iadd, 1) := by decide +kernel
theorem dX12_next_33 : decode cX12_next 33 = .ok (.putfield 215, 3) := by decide +kernel
theorem dX12_next_36 : decode cX12_next 36 = .ok (.goto (-36), 3) := by decide +kernel
theorem dX12_next_39 : decode cX12_next 39 = .ok (.aload_n 0, 1) := by decide +kernel
theorem dX12_next_40 : decode cX12_next 40 = .ok (.aload_n 0, 1) := by decide +kernel
theorem dX12_next_41 : decode cX12_next 41 = .ok (.getfield 215, 3) := by decide +kernel
theorem dX12_next_44 : decode cX12_next 44 = .ok (.putfield 221, 3) := by decide +kernel
theorem dX12_next_47 : decode cX12_next 47 = .ok (.aload_n 0, 1) := by decide +kernel
theorem dX12_next_48 : decode cX12_next 48 = .ok (.aload_n 0, 1) := by decide +kernel
theorem dX12_next_49 : decode cX12_next 49 = .ok (.getfield 215, 3) := by decide +kernel
theorem dX12_next_52 : decode cX12_next 52 = .ok (.invokevirtual 218, 3) := by decide +kernel
theorem dX12_next_55 : decode cX12_next 55 = .ok (.istore_n 1, 1) := by decide +kernel
theorem dX12_next_56 : decode cX12_next 56 = .ok (.aload_n 0, 1) := by decide +kernel
theorem dX12_next_57 : decode cX12_next 57 = .ok (.iconst 4, 1) := by decide +kernel
theorem dX12_next_58 : decode cX12_next 58 = .ok (.putfield 224, 3) := by decide +kernel
theorem dX12_next_61 : decode cX12_next 61 = .ok (.iload_n 1, 1) := by decide +kernel
theorem dX12_next_62 : decode cX12_next 62 = .ok (.ifCond .ge 19, 3) := by decide +kernel
theorem dX12_next_65 : decode cX12_next 65 = .ok (.aload_n 0, 1) := by decide +kernel
theorem dX12_next_66 : decode cX12_next 66 = .ok (.iconst 0, 1) := by decide +kernel
theorem dX12_next_67 : decode cX12_next 67 = .ok (.putfield 224, 3) := by decide +kernel
theorem dX12_next_70 : decode cX12_next 70 = .ok (.aload_n 0, 1) := by decide +kernel
theorem dX12_next_71 : decode cX12_next 71 = .ok (.aload_n 0, 1) := by decide +kernel
theorem dX12_next_72 : decode cX12_next 72 = .ok (.getfield 209, 3) := by decide +kernel
theorem dX12_next_75 : decode cX12_next 75 = .ok (.putfield 221, 3) := by decide +kernel
theorem dX12_next_78 : decode cX12_next 78 = .ok (.goto 282, 3) := by decide +kernel
theorem dX12_next_81 : decode cX12_next 81 = .ok (.iload_n 1, 1) := by decide +kernel
theorem dX12_next_82 : decode cX12_next 82 = .ok (.bipush 97, 2) := by decide +kernel
theorem dX12_next_84 : decode cX12_next 84 = .ok (.bipush 122, 2) := by decide +kernel
theorem dX12_next_86 : decode cX12_next 86 = .ok (.invokestatic 148, 3) := by decide +kernel
theorem dX12_next_89 : decode cX12_next 89 = .ok (.ifCond .eq 90, 3) := by decide +kernel
theorem dX12_next_92 : decode cX12_next 92 = .ok (.aload_n 0, 1) := by decide +kernel
theorem dX12_next_93 : decode cX12_next 93 = .ok (.iconst 1, 1) := by decide +kernel
theorem dX12_next_94 : decode cX12_next 94 = .ok (.putfield 224, 3) := by decide +kernel
theorem dX12_next_97 : decode cX12_next 97 = .ok (.aload_n 0, 1) := by decide +kernel
theorem dX12_next_98 : decode cX12_next 98 = .ok (.lconst 0, 1) := by decide +kernel
theorem dX12_next_99 : decode cX12_next 99 = .ok (.putfield 227, 3) := by decide +kernel
theorem dX12_next_102 : decode cX12_next 102 = .ok (.iconst 0, 1) := by decide +kernel
theorem dX12_next_103 : decode cX12_next 103 = .ok (.istore_n 2, 1) := by decide +kernel
theorem dX12_next_104 : decode cX12_next 104 = .ok (.aload_n 0, 1) := by decide +kernel
theorem dX12_next_105 : decode cX12_next 105 = .ok (.aload_n 0, 1) := by decide +kernel
theorem dX12_next_106 : decode cX12_next 106 = .ok (.getfield 215, 3) := by decide +kernel
theorem dX12_next_109 : decode cX12_next 109 = .ok (.invokevirtual 218, 3) := by decide +kernel
theorem dX12_next_112 : decode cX12_next 112 = .ok (.bipush 97, 2) := by decide +kernel
theorem dX12_next_114 : decode cX12_next 114 = .ok (.bipush 122, 2) := by decide +kernel
theorem dX12_next_116 : decode cX12_next 116 = .ok (.invokestatic 148, 3) := by decide +kernel
theorem dX12_next_119 : decode cX12_next 119 = .ok (.ifCond .eq 57, 3) := by decide +kernel
theorem dX12_next_122 : decode cX12_next 122 = .ok (.aload_n 0, 1) := by decide +kernel
theorem dX12_next_123 : decode cX12_next 123 = .ok (.iload_n 2, 1) := by decide +kernel
theorem dX12_next_124 : decode cX12_next 124 = .ok (.bipush 8, 2) := by decide +kernel
theorem dX12_next_126 : decode cX12_next 126 = .ok (.if_icmp .ge 28, 3) := by decide +kernel
theorem dX12_next_129 : decode cX12_next 129 = .ok (.ldc2_w 231, 3) := by decide +kernel
theorem dX12_next_132 : decode cX12_next 132 = .ok (.aload_n 0, 1) := by decide +kernel
theorem dX12_next_133 : decode cX12_next 133 = .ok (.getfield 227, 3) := by decide +kernel
theorem dX12_next_136 : decode cX12_next 136 = .ok (.lmul, 1) := by decide +kernel
theorem dX12_next_137 : decode cX12_next 137 = .ok (.aload_n 0, 1) := by decide +kernel
theorem dX12_next_138 : decode cX12_next 138 = .ok (.aload_n 0, 1) := by decide +kernel
theorem dX12_next_139 : decode cX12_next 139 = .ok (.getfield 215, 3) := by decide +kernel
theorem dX12_next_142 : decode cX12_next 142 = .ok (.invokevirtual 218, 3) := by decide +kernel
theorem dX12_next_145 : decode cX12_next 145 = .ok (.i2l, 1) := by decide +kernel
theorem dX12_next_146 : decode cX12_next 146 = .ok (.ladd, 1) := by decide +kernel
theorem dX12_next_147 : decode cX12_next 147 = .ok (.ldc2_w 233, 3) := by decide +kernel
theorem dX12_next_150 : decode cX12_next 150 = .ok (.lsub, 1) := by decide +kernel
theorem dX12_next_151 : decode cX12_next 151 = .ok (.goto 6, 3) := by decide +kernel
theorem dX12_next_154 : decode cX12_next 154 = .ok (.ldc2_w 235, 3) := by decide +kernel
theorem dX12_next_157 : decode cX12_next 157 = .ok (.putfield 227, 3) := by decide +kernel
theorem dX12_next_160 : decode cX12_next 160 = .ok (.iinc 2 1, 3) := by decide +kernel
theorem dX12_next_163 : decode cX12_next 163 = .ok (.aload_n 0, 1) := by decide +kernel
theorem dX12_next_164 : decode cX12_next 164 = .ok (.dup, 1) := by decide +kernel
theorem dX12_next_165 : decode cX12_next 165 = .ok (.getfield 215, 3) := by decide +kernel
theorem dX12_next_168 : decode cX12_next 168 = .ok (.iconst 1, 1) := by decide +kernel
theorem dX12_next_169 : decode cX12_next 169 = .ok (.iadd, 1) := by decide +kernel
theorem dX12_next_170 : decode cX12_next 170 = .ok (.putfield 215, 3) := by decide +kernel
theorem dX12_next_173 : decode cX12_next 173 = .ok (.goto (-69), 3) := by decide +kernel
theorem dX12_next_176 : decode cX12_next 176 = .ok (.goto 184, 3) := by decide +kernel
theorem dX12_next_179 : decode cX12_next 179 = .ok (.iload_n 1, 1) := by decide +kernel
theorem dX12_next_180 : decode cX12_next 180 = .ok (.bipush 48, 2) := by decide +kernel
theorem dX12_next_182 : decode cX12_next 182 = .ok (.bipush 57, 2) := by decide +kernel
theorem dX12_next_184 : decode cX12_next 184 = .ok (.invokestatic 148, 3) := by decide +kernel
theorem dX12_next_187 : decode cX12_next 187 = .ok (.ifCond .eq 104, 3) := by decide +kernel
theorem dX12_next_190 : decode cX12_next 190 = .ok (.aload_n 0, 1) := by decide +kernel
theorem dX12_next_191 : decode cX12_next 191 = .ok (.iconst 2, 1) := by decide +kernel
theorem dX12_next_192 : decode cX12_next 192 = .ok (.putfield 224, 3) := by decide +kernel
theorem dX12_next_195 : decode cX12_next 195 = .ok (.aload_n 0, 1) := by decide +kernel
theorem dX12_next_196 : decode cX12_next 196 = .ok (.lconst 0, 1) := by decide +kernel
theorem dX12_next_197 : decode cX12_next 197 = .ok (.putfield 227, 3) := by decide +kernel
theorem dX12_next_200 : decode cX12_next 200 = .ok (.iconst 0, 1) := by decide +kernel
theorem dX12_next_201 : decode cX12_next 201 = .ok (.istore_n 2, 1) := by decide +kernel
theorem dX12_next_202 : decode cX12_next 202 = .ok (.aload_n 0, 1) := by decide +kernel
theorem dX12_next_203 : decode cX12_next 203 = .ok (.aload_n 0, 1) := by decide +kernel
theorem dX12_next_204 : decode cX12_next 204 = .ok (.getfield 215, 3) := by decide +kernel
theorem dX12_next_207 : decode cX12_next 207 = .ok (.invokevirtual 218, 3) := by decide +kernel
theorem dX12_next_210 : decode cX12_next 210 = .ok (.bipush 48, 2) := by decide +kernel
theorem dX12_next_212 : decode cX12_next 212 = .ok (.bipush 57, 2) := by decide +kernel
theorem dX12_next_214 : decode cX12_next 214 = .ok (.invokestatic 148, 3) := by decide +kernel
theorem dX12_next_217 : decode cX12_next 217 = .ok (.ifCond .eq 57, 3) := by decide +kernel
theorem dX12_next_220 : decode cX12_next 220 = .ok (.aload_n 0, 1) := by decide +kernel
theorem dX12_next_221 : decode cX12_next 221 = .ok (.iload_n 2, 1) := by decide +kernel
theorem dX12_next_222 : decode cX12_next 222 = .ok (.iconst 4, 1) := by decide +kernel
theorem dX12_next_223 : decode cX12_next 223 = .ok (.if_icmp .ge 28, 3) := by decide +kernel
theorem dX12_next_226 : decode cX12_next 226 = .ok (.ldc2_w 237, 3) := by decide +kernel
theorem dX12_next_229 : decode cX12_next 229 = .ok (.aload_n 0, 1) := by decide +kernel
theorem dX12_next_230 : decode cX12_next 230 = .ok (.getfield 227, 3) := by decide +kernel
theorem dX12_next_233 : decode cX12_next 233 = .ok (.lmul, 1) := by decide +kernel
theorem dX12_next_234 : decode cX12_next 234 = .ok (.aload_n 0, 1) := by decide +kernel
theorem dX12_next_235 : decode cX12_next 235 = .ok (.aload_n 0, 1) := by decide +kernel
theorem dX12_next_236 : decode cX12_next 236 = .ok (.getfield 215, 3) := by decide +kernel
theorem dX12_next_239 : decode cX12_next 239 = .ok (.invokevirtual 218, 3) := by decide +kernel
theorem dX12_next_242 : decode cX12_next 242 = .ok (.i2l, 1) := by decide +kernel
theorem dX12_next_243 : decode cX12_next 243 = .ok (.ladd, 1) := by decide +kernel
theorem dX12_next_244 : decode cX12_next 244 = .ok (.ldc2_w 239, 3) := by decide +kernel
theorem dX12_next_247 : decode cX12_next 247 = .ok (.lsub, 1) := by decide +kernel
theorem dX12_next_248 : decode cX12_next 248 = .ok (.goto 7, 3) := by decide +kernel
theorem dX12_next_251 : decode cX12_next 251 = .ok (.aload_n 0, 1) := by decide +kernel
theorem dX12_next_252 : decode cX12_next 252 = .ok (.getfield 227, 3) := by decide +kernel
theorem dX12_next_255 : decode cX12_next 255 = .ok (.putfield 227, 3) := by decide +kernel
theorem dX12_next_258 : decode cX12_next 258 = .ok (.iinc 2 1, 3) := by decide +kernel
theorem dX12_next_261 : decode cX12_next 261 = .ok (.aload_n 0, 1) := by decide +kernel
theorem dX12_next_262 : decode cX12_next 262 = .ok (.dup, 1) := by decide +kernel
theorem dX12_next_263 : decode cX12_next 263 = .ok (.getfield 215, 3) := by decide +kernel
theorem dX12_next_266 : decode cX12_next 266 = .ok (.iconst 1, 1) := by decide +kernel
theorem dX12_next_267 : decode cX12_next 267 = .ok (.iadd, 1) := by decide +kernel
theorem dX12_next_268 : decode cX12_next 268 = .ok (.putfield 215, 3) := by decide +kernel
theorem dX12_next_271 : decode cX12_next 271 = .ok (.goto (-69), 3) := by decide +kernel
theorem dX12_next_274 : decode cX12_next 274 = .ok (.aload_n 0, 1) := by decide +kernel
theorem dX12_next_275 : decode cX12_next 275 = .ok (.iload_n 2, 1) := by decide +kernel
theorem dX12_next_276 : decode cX12_next 276 = .ok (.iconst 4, 1) := by decide +kernel
theorem dX12_next_277 : decode cX12_next 277 = .ok (.if_icmp .le 7, 3) := by decide +kernel
theorem dX12_next_280 : decode cX12_next 280 = .ok (.iconst 4, 1) := by decide +kernel
theorem dX12_next_281 : decode cX12_next 281 = .ok (.goto 4, 3) := by decide +kernel
theorem dX12_next_284 : decode cX12_next 284 = .ok (.iconst 2, 1) := by decide +kernel
theorem dX12_next_285 : decode cX12_next 285 = .ok (.putfield 224, 3) := by decide +kernel
theorem dX12_next_288 : decode cX12_next 288 = .ok (.goto 72, 3) := by decide +kernel
theorem dX12_next_291 : decode cX12_next 291 = .ok (.iload_n 1, 1) := by decide +kernel
theorem dX12_next_292 : decode cX12_next 292 = .ok (.bipush 40, 2) := by decide +kernel
theorem dX12_next_294 : decode cX12_next 294 = .ok (.if_icmp .eq 45, 3) := by decide +kernel
theorem dX12_next_297 : decode cX12_next 297 = .ok (.iload_n 1, 1) := by decide +kernel
theorem dX12_next_298 : decode cX12_next 298 = .ok (.bipush 41, 2) := by decide +kernel
theorem dX12_next_300 : decode cX12_next 300 = .ok (.if_icmp .eq 39, 3) := by decide +kernel
theorem dX12_next_303 : decode cX12_next 303 = .ok (.iload_n 1, 1) := by decide +kernel
theorem dX12_next_304 : decode cX12_next 304 = .ok (.bipush 59, 2) := by decide +kernel
theorem dX12_next_306 : decode cX12_next 306 = .ok (.if_icmp .eq 33, 3) := by decide +kernel
theorem dX12_next_309 : decode cX12_next 309 = .ok (.iload_n 1, 1) := by decide +kernel
theorem dX12_next_310 : decode cX12_next 310 = .ok (.bipush 43, 2) := by decide +kernel
theorem dX12_next_312 : decode cX12_next 312 = .ok (.if_icmp .eq 27, 3) := by decide +kernel
theorem dX12_next_315 : decode cX12_next 315 = .ok (.iload_n 1, 1) := by decide +kernel
theorem dX12_next_316 : decode cX12_next 316 = .ok (.bipush 45, 2) := by decide +kernel
theorem dX12_next_318 : decode cX12_next 318 = .ok (.if_icmp .eq 21, 3) := by decide +kernel
theorem dX12_next_321 : decode cX12_next 321 = .ok (.iload_n 1, 1) := by decide +kernel
theorem dX12_next_322 : decode cX12_next 322 = .ok (.bipush 42, 2) := by decide +kernel
theorem dX12_next_324 : decode cX12_next 324 = .ok (.if_icmp .eq 15, 3) := by decide +kernel
theorem dX12_next_327 : decode cX12_next 327 = .ok (.iload_n 1, 1) := by decide +kernel
theorem dX12_next_328 : decode cX12_next 328 = .ok (.bipush 60, 2) := by decide +kernel
theorem dX12_next_330 : decode cX12_next 330 = .ok (.if_icmp .eq 9, 3) := by decide +kernel
theorem dX12_next_333 : decode cX12_next 333 = .ok (.iload_n 1, 1) := by decide +kernel
theorem dX12_next_334 : decode cX12_next 334 = .ok (.bipush 61, 2) := by decide +kernel
theorem dX12_next_336 : decode cX12_next 336 = .ok (.if_icmp .ne 24, 3) := by decide +kernel
theorem dX12_next_339 : decode cX12_next 339 = .ok (.aload_n 0, 1) := by decide +kernel
theorem dX12_next_340 : decode cX12_next 340 = .ok (.iconst 3, 1) := by decide +kernel
theorem dX12_next_341 : decode cX12_next 341 = .ok (.putfield 224, 3) := by decide +kernel
theorem dX12_next_344 : decode cX12_next 344 = .ok (.aload_n 0, 1) := by decide +kernel
theorem dX12_next_345 : decode cX12_next 345 = .ok (.iload_n 1, 1) := by decide +kernel
theorem dX12_next_346 : decode cX12_next 346 = .ok (.i2l, 1) := by decide +kernel
theorem dX12_next_347 : decode cX12_next 347 = .ok (.putfield 227, 3) := by decide +kernel
theorem dX12_next_350 : decode cX12_next 350 = .ok (.aload_n 0, 1) := by decide +kernel
theorem dX12_next_351 : decode cX12_next 351 = .ok (.dup, 1) := by decide +kernel
theorem dX12_next_352 : decode cX12_next 352 = .ok (.getfield 215, 3) := by decide +kernel
theorem dX12_next_355 : decode cX12_next 355 = .ok (.iconst 1, 1) := by decide +kernel
theorem dX12_next_356 : decode cX12_next 356 = .ok (.iadd, 1) := by decide +kernel
theorem dX12_next_357 : decode cX12_next 357 = .ok (.putfield 215, 3) := by decide +kernel
theorem dX12_next_360 : decode cX12_next 360 = .ok (.return_, 1) := by decide +kernel
theorem dX12_fail_0 : decode cX12_fail 0 = .ok (.aload_n 0, 1) := by decide +kernel
theorem dX12_fail_1 : decode cX12_fail 1 = .ok (.getfield 241, 3) := by decide +kernel
theorem dX12_fail_4 : decode cX12_fail 4 = .ok (.ifCond .ne 16, 3) := by decide +kernel
theorem dX12_fail_7 : decode cX12_fail 7 = .ok (.aload_n 0, 1) := by decide +kernel
theorem dX12_fail_8 : decode cX12_fail 8 = .ok (.iconst 1, 1) := by decide +kernel
theorem dX12_fail_9 : decode cX12_fail 9 = .ok (.putfield 241, 3) := by decide +kernel
theorem dX12_fail_12 : decode cX12_fail 12 = .ok (.aload_n 0, 1) := by decide +kernel
theorem dX12_fail_13 : decode cX12_fail 13 = .ok (.aload_n 0, 1) := by decide +kernel
theorem dX12_fail_14 : decode cX12_fail 14 = .ok (.getfield 221, 3) := by decide +kernel
theorem dX12_fail_17 : decode cX12_fail 17 = .ok (.putfield 245, 3) := by decide +kernel
theorem dX12_fail_20 : decode cX12_fail 20 = .ok (.return_, 1) := by decide +kernel
theorem dX12_isWord_0 : decode cX12_isWord 0 = .ok (.aload_n 0, 1) := by decide +kernel
theorem dX12_isWord_1 : decode cX12_isWord 1 = .ok (.getfield 241, 3) := by decide +kernel
theorem dX12_isWord_4 : decode cX12_isWord 4 = .ok (.ifCond .ne 24, 3) := by decide +kernel
theorem dX12_isWord_7 : decode cX12_isWord 7 = .ok (.aload_n 0, 1) := by decide +kernel
theorem dX12_isWord_8 : decode cX12_isWord 8 = .ok (.getfield 224, 3) := by decide +kernel
theorem dX12_isWord_11 : decode cX12_isWord 11 = .ok (.iconst 1, 1) := by decide +kernel
theorem dX12_isWord_12 : decode cX12_isWord 12 = .ok (.if_icmp .ne 16, 3) := by decide +kernel
theorem dX12_isWord_15 : decode cX12_isWord 15 = .ok (.aload_n 0, 1) := by decide +kernel
theorem dX12_isWord_16 : decode cX12_isWord 16 = .ok (.getfield 227, 3) := by decide +kernel
theorem dX12_isWord_19 : decode cX12_isWord 19 = .ok (.lload_n 1, 1) := by decide +kernel
theorem dX12_isWord_20 : decode cX12_isWord 20 = .ok (.lcmp, 1) := by decide +kernel
theorem dX12_isWord_21 : decode cX12_isWord 21 = .ok (.ifCond .ne 7, 3) := by decide +kernel
theorem dX12_isWord_24 : decode cX12_isWord 24 = .ok (.iconst 1, 1) := by decide +kernel
theorem dX12_isWord_25 : decode cX12_isWord 25 = .ok (.goto 4, 3) := by decide +kernel
theorem dX12_isWord_28 : decode cX12_isWord 28 = .ok (.iconst 0, 1) := by decide +kernel
theorem dX12_isWord_29 : decode cX12_isWord 29 = .ok (.ireturn, 1) := by decide +kernel
theorem dX12_isSign_0 : decode cX12_isSign 0 = .ok (.aload_n 0, 1) := by decide +kernel
theorem dX12_isSign_1 : decode cX12_isSign 1 = .ok (.getfield 241, 3) := by decide +kernel
theorem dX12_isSign_4 : decode cX12_isSign 4 = .ok (.ifCond .ne 25, 3) := by decide +kernel
theorem dX12_isSign_7 : decode cX12_isSign 7 = .ok (.aload_n 0, 1) := by decide +kernel
theorem dX12_isSign_8 : decode cX12_isSign 8 = .ok (.getfield 224, 3) := by decide +kernel
theorem dX12_isSign_11 : decode cX12_isSign 11 = .ok (.iconst 3, 1) := by decide +kernel
theorem dX12_isSign_12 : decode cX12_isSign 12 = .ok (.if_icmp .ne 17, 3) := by decide +kernel
theorem dX12_isSign_15 : decode cX12_isSign 15 = .ok (.aload_n 0, 1) := by decide +kernel
theorem dX12_isSign_16 : decode cX12_isSign 16 = .ok (.getfield 227, 3) := by decide +kernel
theorem dX12_isSign_19 : decode cX12_isSign 19 = .ok (.iload_n 1, 1) := by decide +kernel
theorem dX12_isSign_20 : decode cX12_isSign 20 = .ok (.i2l, 1) := by decide +kernel
theorem dX12_isSign_21 : decode cX12_isSign 21 = .ok (.lcmp, 1) := by decide +kernel
theorem dX12_isSign_22 : decode cX12_isSign 22 = .ok (.ifCond .ne 7, 3) := by decide +kernel
theorem dX12_isSign_25 : decode cX12_isSign 25 = .ok (.iconst 1, 1) := by decide +kernel
theorem dX12_isSign_26 : decode cX12_isSign 26 = .ok (.goto 4, 3) := by decide +kernel
theorem dX12_isSign_29 : decode cX12_isSign 29 = .ok (.iconst 0, 1) := by decide +kernel
theorem dX12_isSign_30 : decode cX12_isSign 30 = .ok (.ireturn, 1) := by decide +kernel
theorem dX12_opens_0 : decode cX12_opens 0 = .ok (.aload_n 0, 1) := by decide +kernel
theorem dX12_opens_1 : decode cX12_opens 1 = .ok (.getfield 248, 3) := by decide +kernel
theorem dX12_opens_4 : decode cX12_opens 4 = .ok (.iconst 5, 1) := by decide +kernel
theorem dX12_opens_5 : decode cX12_opens 5 = .ok (.if_icmp .ne 9, 3) := by decide +kernel
theorem dX12_opens_8 : decode cX12_opens 8 = .ok (.aload_n 0, 1) := by decide +kernel
theorem dX12_opens_9 : decode cX12_opens 9 = .ok (.invokevirtual 251, 3) := by decide +kernel
theorem dX12_opens_12 : decode cX12_opens 12 = .ok (.iconst 0, 1) := by decide +kernel
theorem dX12_opens_13 : decode cX12_opens 13 = .ok (.ireturn, 1) := by decide +kernel
theorem dX12_opens_14 : decode cX12_opens 14 = .ok (.aload_n 0, 1) := by decide +kernel
theorem dX12_opens_15 : decode cX12_opens 15 = .ok (.dup, 1) := by decide +kernel
theorem dX12_opens_16 : decode cX12_opens 16 = .ok (.getfield 248, 3) := by decide +kernel
theorem dX12_opens_19 : decode cX12_opens 19 = .ok (.iconst 1, 1) := by decide +kernel
theorem dX12_opens_20 : decode cX12_opens 20 = .ok (.iadd, 1) := by decide +kernel
theorem dX12_opens_21 : decode cX12_opens 21 = .ok (.putfield 248, 3) := by decide +kernel
theorem dX12_opens_24 : decode cX12_opens 24 = .ok (.aload_n 0, 1) := by decide +kernel
theorem dX12_opens_25 : decode cX12_opens 25 = .ok (.invokevirtual 254, 3) := by decide +kernel
theorem dX12_opens_28 : decode cX12_opens 28 = .ok (.iconst 1, 1) := by decide +kernel
theorem dX12_opens_29 : decode cX12_opens 29 = .ok (.ireturn, 1) := by decide +kernel
theorem dX12_name_0 : decode cX12_name 0 = .ok (.aload_n 0, 1) := by decide +kernel
theorem dX12_name_1 : decode cX12_name 1 = .ok (.ldc2_w 257, 3) := by decide +kernel
theorem dX12_name_4 : decode cX12_name 4 = .ok (.invokevirtual 259, 3) := by decide +kernel
theorem dX12_name_7 : decode cX12_name 7 = .ok (.ifCond .eq 8, 3) := by decide +kernel
theorem dX12_name_10 : decode cX12_name 10 = .ok (.aload_n 0, 1) := by decide +kernel
theorem dX12_name_11 : decode cX12_name 11 = .ok (.getfield 263, 3) := by decide +kernel
theorem dX12_name_14 : decode cX12_name 14 = .ok (.ireturn, 1) := by decide +kernel
theorem dX12_name_15 : decode cX12_name 15 = .ok (.aload_n 0, 1) := by decide +kernel
theorem dX12_name_16 : decode cX12_name 16 = .ok (.ldc2_w 266, 3) := by decide +kernel
theorem dX12_name_19 : decode cX12_name 19 = .ok (.invokevirtual 259, 3) := by decide +kernel
theorem dX12_name_22 : decode cX12_name 22 = .ok (.ifCond .eq 8, 3) := by decide +kernel
theorem dX12_name_25 : decode cX12_name 25 = .ok (.aload_n 0, 1) := by decide +kernel
theorem dX12_name_26 : decode cX12_name 26 = .ok (.getfield 268, 3) := by decide +kernel
theorem dX12_name_29 : decode cX12_name 29 = .ok (.ireturn, 1) := by decide +kernel
theorem dX12_name_30 : decode cX12_name 30 = .ok (.aload_n 0, 1) := by decide +kernel
theorem dX12_name_31 : decode cX12_name 31 = .ok (.ldc2_w 271, 3) := by decide +kernel
theorem dX12_name_34 : decode cX12_name 34 = .ok (.invokevirtual 259, 3) := by decide +kernel
theorem dX12_name_37 : decode cX12_name 37 = .ok (.ifCond .eq 8, 3) := by decide +kernel
theorem dX12_name_40 : decode cX12_name 40 = .ok (.aload_n 0, 1) := by decide +kernel
theorem dX12_name_41 : decode cX12_name 41 = .ok (.getfield 273, 3) := by decide +kernel
theorem dX12_name_44 : decode cX12_name 44 = .ok (.ireturn, 1) := by decide +kernel
theorem dX12_name_45 : decode cX12_name 45 = .ok (.aload_n 0, 1) := by decide +kernel
theorem dX12_name_46 : decode cX12_name 46 = .ok (.ldc2_w 276, 3) := by decide +kernel
theorem dX12_name_49 : decode cX12_name 49 = .ok (.invokevirtual 259, 3) := by decide +kernel
theorem dX12_name_52 : decode cX12_name 52 = .ok (.ifCond .eq 10, 3) := by decide +kernel
theorem dX12_name_55 : decode cX12_name 55 = .ok (.aload_n 0, 1) := by decide +kernel
theorem dX12_name_56 : decode cX12_name 56 = .ok (.getfield 124, 3) := by decide +kernel
theorem dX12_name_59 : decode cX12_name 59 = .ok (.iconst 1, 1) := by decide +kernel
theorem dX12_name_60 : decode cX12_name 60 = .ok (.isub, 1) := by decide +kernel
theorem dX12_name_61 : decode cX12_name 61 = .ok (.ireturn, 1) := by decide +kernel
theorem dX12_name_62 : decode cX12_name 62 = .ok (.aload_n 0, 1) := by decide +kernel
theorem dX12_name_63 : decode cX12_name 63 = .ok (.ldc2_w 278, 3) := by decide +kernel
theorem dX12_name_66 : decode cX12_name 66 = .ok (.invokevirtual 259, 3) := by decide +kernel
theorem dX12_name_69 : decode cX12_name 69 = .ok (.ifCond .eq 12, 3) := by decide +kernel
theorem dX12_name_72 : decode cX12_name 72 = .ok (.aload_n 0, 1) := by decide +kernel
theorem dX12_name_73 : decode cX12_name 73 = .ok (.iconst (-1), 1) := by decide +kernel
theorem dX12_name_74 : decode cX12_name 74 = .ok (.invokevirtual 168, 3) := by decide +kernel
theorem dX12_name_77 : decode cX12_name 77 = .ok (.invokestatic 179, 3) := by decide +kernel
theorem dX12_name_80 : decode cX12_name 80 = .ok (.ireturn, 1) := by decide +kernel
theorem dX12_name_81 : decode cX12_name 81 = .ok (.aload_n 0, 1) := by decide +kernel
theorem dX12_name_82 : decode cX12_name 82 = .ok (.ldc2_w 280, 3) := by decide +kernel
theorem dX12_name_85 : decode cX12_name 85 = .ok (.invokevirtual 259, 3) := by decide +kernel
theorem dX12_name_88 : decode cX12_name 88 = .ok (.ifCond .eq 20, 3) := by decide +kernel
theorem dX12_name_91 : decode cX12_name 91 = .ok (.aload_n 0, 1) := by decide +kernel
theorem dX12_name_92 : decode cX12_name 92 = .ok (.aload_n 0, 1) := by decide +kernel
theorem dX12_name_93 : decode cX12_name 93 = .ok (.getfield 263, 3) := by decide +kernel
theorem dX12_name_96 : decode cX12_name 96 = .ok (.aload_n 0, 1) := by decide +kernel
theorem dX12_name_97 : decode cX12_name 97 = .ok (.getfield 268, 3) := by decide +kernel
theorem dX12_name_100 : decode cX12_name 100 = .ok (.aload_n 0, 1) := by decide +kernel
theorem dX12_name_101 : decode cX12_name 101 = .ok (.getfield 273, 3) := by decide +kernel
theorem dX12_name_104 : decode cX12_name 104 = .ok (.invokevirtual 182, 3) := by decide +kernel
theorem dX12_name_107 : decode cX12_name 107 = .ok (.ireturn, 1) := by decide +kernel
theorem dX12_name_108 : decode cX12_name 108 = .ok (.aload_n 0, 1) := by decide +kernel
theorem dX12_name_109 : decode cX12_name 109 = .ok (.invokevirtual 251, 3) := by decide +kernel
theorem dX12_name_112 : decode cX12_name 112 = .ok (.iconst 0, 1) := by decide +kernel
theorem dX12_name_113 : decode cX12_name 113 = .ok (.ireturn, 1) := by decide +kernel
theorem dX12_one_0 : decode cX12_one 0 = .ok (.iconst 0, 1) := by decide +kernel
theorem dX12_one_1 : decode cX12_one 1 = .ok (.istore_n 1, 1) := by decide +kernel
theorem dX12_one_2 : decode cX12_one 2 = .ok (.aload_n 0, 1) := by decide +kernel
theorem dX12_one_3 : decode cX12_one 3 = .ok (.bipush 45, 2) := by decide +kernel
theorem dX12_one_5 : decode cX12_one 5 = .ok (.invokevirtual 282, 3) := by decide +kernel
theorem dX12_one_8 : decode cX12_one 8 = .ok (.ifCond .eq 29, 3) := by decide +kernel
theorem dX12_one_11 : decode cX12_one 11 = .ok (.aload_n 0, 1) := by decide +kernel
theorem dX12_one_12 : decode cX12_one 12 = .ok (.invokevirtual 285, 3) := by decide +kernel
theorem dX12_one_15 : decode cX12_one 15 = .ok (.ifCond .eq 146, 3) := by decide +kernel
theorem dX12_one_18 : decode cX12_one 18 = .ok (.aload_n 0, 1) := by decide +kernel
theorem dX12_one_19 : decode cX12_one 19 = .ok (.invokevirtual 289, 3) := by decide +kernel
theorem dX12_one_22 : decode cX12_one 22 = .ok (.ineg, 1) := by decide +kernel
theorem dX12_one_23 : decode cX12_one 23 = .ok (.istore_n 1, 1) := by decide +kernel
theorem dX12_one_24 : decode cX12_one 24 = .ok (.aload_n 0, 1) := by decide +kernel
theorem dX12_one_25 : decode cX12_one 25 = .ok (.dup, 1) := by decide +kernel
theorem dX12_one_26 : decode cX12_one 26 = .ok (.getfield 248, 3) := by decide +kernel
theorem dX12_one_29 : decode cX12_one 29 = .ok (.iconst 1, 1) := by decide +kernel
theorem dX12_one_30 : decode cX12_one 30 = .ok (.isub, 1) := by decide +kernel
theorem dX12_one_31 : decode cX12_one 31 = .ok (.putfield 248, 3) := by decide +kernel
theorem dX12_one_34 : decode cX12_one 34 = .ok (.goto 127, 3) := by decide +kernel
theorem dX12_one_37 : decode cX12_one 37 = .ok (.aload_n 0, 1) := by decide +kernel
theorem dX12_one_38 : decode cX12_one 38 = .ok (.bipush 40, 2) := by decide +kernel
theorem dX12_one_40 : decode cX12_one 40 = .ok (.invokevirtual 282, 3) := by decide +kernel
theorem dX12_one_43 : decode cX12_one 43 = .ok (.ifCond .eq 52, 3) := by decide +kernel
theorem dX12_one_46 : decode cX12_one 46 = .ok (.aload_n 0, 1) := by decide +kernel
theorem dX12_one_47 : decode cX12_one 47 = .ok (.invokevirtual 285, 3) := by decide +kernel
theorem dX12_one_50 : decode cX12_one 50 = .ok (.ifCond .eq 111, 3) := by decide +kernel
theorem dX12_one_53 : decode cX12_one 53 = .ok (.aload_n 0, 1) := by decide +kernel
theorem dX12_one_54 : decode cX12_one 54 = .ok (.invokevirtual 293, 3) := by decide +kernel
theorem dX12_one_57 : decode cX12_one 57 = .ok (.istore_n 1, 1) := by decide +kernel
theorem dX12_one_58 : decode cX12_one 58 = .ok (.aload_n 0, 1) := by decide +kernel
theorem dX12_one_59 : decode cX12_one 59 = .ok (.bipush 41, 2) := by decide +kernel
theorem dX12_one_61 : decode cX12_one 61 = .ok (.invokevirtual 282, 3) := by decide +kernel
theorem dX12_one_64 : decode cX12_one 64 = .ok (.ifCond .ne 7, 3) := by decide +kernel
theorem dX12_one_67 : decode cX12_one 67 = .ok (.aload_n 0, 1) := by decide +kernel
theorem dX12_one_68 : decode cX12_one 68 = .ok (.invokevirtual 251, 3) := by decide +kernel
theorem dX12_one_71 : decode cX12_one 71 = .ok (.aload_n 0, 1) := by decide +kernel
theorem dX12_one_72 : decode cX12_one 72 = .ok (.dup, 1) := by decide +kernel
theorem dX12_one_73 : decode cX12_one 73 = .ok (.getfield 248, 3) := by decide +kernel
theorem dX12_one_76 : decode cX12_one 76 = .ok (.iconst 1, 1) := by decide +kernel
theorem dX12_one_77 : decode cX12_one 77 = .ok (.isub, 1) := by decide +kernel
theorem dX12_one_78 : decode cX12_one 78 = .ok (.putfield 248, 3) := by decide +kernel
theorem dX12_one_81 : decode cX12_one 81 = .ok (.aload_n 0, 1) := by decide +kernel
theorem dX12_one_82 : decode cX12_one 82 = .ok (.getfield 241, 3) := by decide +kernel
theorem dX12_one_85 : decode cX12_one 85 = .ok (.ifCond .ne 76, 3) := by decide +kernel
theorem dX12_one_88 : decode cX12_one 88 = .ok (.aload_n 0, 1) := by decide +kernel
theorem dX12_one_89 : decode cX12_one 89 = .ok (.invokevirtual 254, 3) := by decide +kernel
theorem dX12_one_92 : decode cX12_one 92 = .ok (.goto 69, 3) := by decide +kernel
theorem dX12_one_95 : decode cX12_one 95 = .ok (.aload_n 0, 1) := by decide +kernel
theorem dX12_one_96 : decode cX12_one 96 = .ok (.getfield 241, 3) := by decide +kernel
theorem dX12_one_99 : decode cX12_one 99 = .ok (.ifCond .ne 24, 3) := by decide +kernel
theorem dX12_one_102 : decode cX12_one 102 = .ok (.aload_n 0, 1) := by decide +kernel
theorem dX12_one_103 : decode cX12_one 103 = .ok (.getfield 224, 3) := by decide +kernel
theorem dX12_one_106 : decode cX12_one 106 = .ok (.iconst 2, 1) := by decide +kernel
theorem dX12_one_107 : decode cX12_one 107 = .ok (.if_icmp .ne 16, 3) := by decide +kernel
theorem dX12_one_110 : decode cX12_one 110 = .ok (.aload_n 0, 1) := by decide +kernel
theorem dX12_one_111 : decode cX12_one 111 = .ok (.getfield 227, 3) := by decide +kernel
theorem dX12_one_114 : decode cX12_one 114 = .ok (.l2i, 1) := by decide +kernel
theorem dX12_one_115 : decode cX12_one 115 = .ok (.istore_n 1, 1) := by decide +kernel
theorem dX12_one_116 : decode cX12_one 116 = .ok (.aload_n 0, 1) := by decide +kernel
theorem dX12_one_117 : decode cX12_one 117 = .ok (.invokevirtual 254, 3) := by decide +kernel
theorem dX12_one_120 : decode cX12_one 120 = .ok (.goto 41, 3) := by decide +kernel
theorem dX12_one_123 : decode cX12_one 123 = .ok (.aload_n 0, 1) := by decide +kernel
theorem dX12_one_124 : decode cX12_one 124 = .ok (.getfield 241, 3) := by decide +kernel
theorem dX12_one_127 : decode cX12_one 127 = .ok (.ifCond .ne 30, 3) := by decide +kernel
theorem dX12_one_130 : decode cX12_one 130 = .ok (.aload_n 0, 1) := by decide +kernel
theorem dX12_one_131 : decode cX12_one 131 = .ok (.getfield 224, 3) := by decide +kernel
theorem dX12_one_134 : decode cX12_one 134 = .ok (.iconst 1, 1) := by decide +kernel
theorem dX12_one_135 : decode cX12_one 135 = .ok (.if_icmp .ne 22, 3) := by decide +kernel
theorem dX12_one_138 : decode cX12_one 138 = .ok (.aload_n 0, 1) := by decide +kernel
theorem dX12_one_139 : decode cX12_one 139 = .ok (.invokevirtual 296, 3) := by decide +kernel
theorem dX12_one_142 : decode cX12_one 142 = .ok (.istore_n 1, 1) := by decide +kernel
theorem dX12_one_143 : decode cX12_one 143 = .ok (.aload_n 0, 1) := by decide +kernel
theorem dX12_one_144 : decode cX12_one 144 = .ok (.getfield 241, 3) := by decide +kernel
theorem dX12_one_147 : decode cX12_one 147 = .ok (.ifCond .ne 14, 3) := by decide +kernel
theorem dX12_one_150 : decode cX12_one 150 = .ok (.aload_n 0, 1) := by decide +kernel
theorem dX12_one_151 : decode cX12_one 151 = .ok (.invokevirtual 254, 3) := by decide +kernel
theorem dX12_one_154 : decode cX12_one 154 = .ok (.goto 7, 3) := by decide +kernel
theorem dX12_one_157 : decode cX12_one 157 = .ok (.aload_n 0, 1) := by decide +kernel
theorem dX12_one_158 : decode cX12_one 158 = .ok (.invokevirtual 251, 3) := by decide +kernel
theorem dX12_one_161 : decode cX12_one 161 = .ok (.iload_n 1, 1) := by decide +kernel
theorem dX12_one_162 : decode cX12_one 162 = .ok (.ireturn, 1) := by decide +kernel
theorem dX12_term_0 : decode cX12_term 0 = .ok (.aload_n 0, 1) := by decide +kernel
theorem dX12_term_1 : decode cX12_term 1 = .ok (.invokevirtual 289, 3) := by decide +kernel
theorem dX12_term_4 : decode cX12_term 4 = .ok (.istore_n 1, 1) := by decide +kernel
theorem dX12_term_5 : decode cX12_term 5 = .ok (.aload_n 0, 1) := by decide +kernel
theorem dX12_term_6 : decode cX12_term 6 = .ok (.bipush 42, 2) := by decide +kernel
theorem dX12_term_8 : decode cX12_term 8 = .ok (.invokevirtual 282, 3) := by decide +kernel
theorem dX12_term_11 : decode cX12_term 11 = .ok (.ifCond .eq 17, 3) := by decide +kernel
theorem dX12_term_14 : decode cX12_term 14 = .ok (.aload_n 0, 1) := by decide +kernel
theorem dX12_term_15 : decode cX12_term 15 = .ok (.invokevirtual 254, 3) := by decide +kernel
theorem dX12_term_18 : decode cX12_term 18 = .ok (.iload_n 1, 1) := by decide +kernel
theorem dX12_term_19 : decode cX12_term 19 = .ok (.aload_n 0, 1) := by decide +kernel
theorem dX12_term_20 : decode cX12_term 20 = .ok (.invokevirtual 289, 3) := by decide +kernel
theorem dX12_term_23 : decode cX12_term 23 = .ok (.imul, 1) := by decide +kernel
theorem dX12_term_24 : decode cX12_term 24 = .ok (.istore_n 1, 1) := by decide +kernel
theorem dX12_term_25 : decode cX12_term 25 = .ok (.goto (-20), 3) := by decide +kernel
theorem dX12_term_28 : decode cX12_term 28 = .ok (.iload_n 1, 1) := by decide +kernel
theorem dX12_term_29 : decode cX12_term 29 = .ok (.ireturn, 1) := by decide +kernel
theorem dX12_added_0 : decode cX12_added 0 = .ok (.aload_n 0, 1) := by decide +kernel
theorem dX12_added_1 : decode cX12_added 1 = .ok (.invokevirtual 299, 3) := by decide +kernel
theorem dX12_added_4 : decode cX12_added 4 = .ok (.istore_n 1, 1) := by decide +kernel
theorem dX12_added_5 : decode cX12_added 5 = .ok (.aload_n 0, 1) := by decide +kernel
theorem dX12_added_6 : decode cX12_added 6 = .ok (.bipush 43, 2) := by decide +kernel
theorem dX12_added_8 : decode cX12_added 8 = .ok (.invokevirtual 282, 3) := by decide +kernel
theorem dX12_added_11 : decode cX12_added 11 = .ok (.ifCond .ne 12, 3) := by decide +kernel
theorem dX12_added_14 : decode cX12_added 14 = .ok (.aload_n 0, 1) := by decide +kernel
theorem dX12_added_15 : decode cX12_added 15 = .ok (.bipush 45, 2) := by decide +kernel
theorem dX12_added_17 : decode cX12_added 17 = .ok (.invokevirtual 282, 3) := by decide +kernel
theorem dX12_added_20 : decode cX12_added 20 = .ok (.ifCond .eq 46, 3) := by decide +kernel
theorem dX12_added_23 : decode cX12_added 23 = .ok (.aload_n 0, 1) := by decide +kernel
theorem dX12_added_24 : decode cX12_added 24 = .ok (.getfield 227, 3) := by decide +kernel
theorem dX12_added_27 : decode cX12_added 27 = .ok (.ldc2_w 302, 3) := by decide +kernel
theorem dX12_added_30 : decode cX12_added 30 = .ok (.lcmp, 1) := by decide +kernel
theorem dX12_added_31 : decode cX12_added 31 = .ok (.ifCond .ne 7, 3) := by decide +kernel
theorem dX12_added_34 : decode cX12_added 34 = .ok (.iconst 1, 1) := by decide +kernel
theorem dX12_added_35 : decode cX12_added 35 = .ok (.goto 4, 3) := by decide +kernel
theorem dX12_added_38 : decode cX12_added 38 = .ok (.iconst 0, 1) := by decide +kernel
theorem dX12_added_39 : decode cX12_added 39 = .ok (.istore_n 2, 1) := by decide +kernel
theorem dX12_added_40 : decode cX12_added 40 = .ok (.aload_n 0, 1) := by decide +kernel
theorem dX12_added_41 : decode cX12_added 41 = .ok (.invokevirtual 254, 3) := by decide +kernel
theorem dX12_added_44 : decode cX12_added 44 = .ok (.aload_n 0, 1) := by decide +kernel
theorem dX12_added_45 : decode cX12_added 45 = .ok (.invokevirtual 299, 3) := by decide +kernel
theorem dX12_added_48 : decode cX12_added 48 = .ok (.istore_n 3, 1) := by decide +kernel
theorem dX12_added_49 : decode cX12_added 49 = .ok (.iload_n 2, 1) := by decide +kernel
theorem dX12_added_50 : decode cX12_added 50 = .ok (.ifCond .eq 9, 3) := by decide +kernel
theorem dX12_added_53 : decode cX12_added 53 = .ok (.iload_n 1, 1) := by decide +kernel
theorem dX12_added_54 : decode cX12_added 54 = .ok (.iload_n 3, 1) := by decide +kernel
theorem dX12_added_55 : decode cX12_added 55 = .ok (.iadd, 1) := by decide +kernel
theorem dX12_added_56 : decode cX12_added 56 = .ok (.goto 6, 3) := by decide +kernel
theorem dX12_added_59 : decode cX12_added 59 = .ok (.iload_n 1, 1) := by decide +kernel
theorem dX12_added_60 : decode cX12_added 60 = .ok (.iload_n 3, 1) := by decide +kernel
theorem dX12_added_61 : decode cX12_added 61 = .ok (.isub, 1) := by decide +kernel
theorem dX12_added_62 : decode cX12_added 62 = .ok (.istore_n 1, 1) := by decide +kernel
theorem dX12_added_63 : decode cX12_added 63 = .ok (.goto (-58), 3) := by decide +kernel
theorem dX12_added_66 : decode cX12_added 66 = .ok (.iload_n 1, 1) := by decide +kernel
theorem dX12_added_67 : decode cX12_added 67 = .ok (.ireturn, 1) := by decide +kernel
theorem dX12_not_0 : decode cX12_not 0 = .ok (.aload_n 0, 1) := by decide +kernel
theorem dX12_not_1 : decode cX12_not 1 = .ok (.ldc2_w 304, 3) := by decide +kernel
theorem dX12_not_4 : decode cX12_not 4 = .ok (.invokevirtual 259, 3) := by decide +kernel
theorem dX12_not_7 : decode cX12_not 7 = .ok (.ifCond .eq 37, 3) := by decide +kernel
theorem dX12_not_10 : decode cX12_not 10 = .ok (.aload_n 0, 1) := by decide +kernel
theorem dX12_not_11 : decode cX12_not 11 = .ok (.invokevirtual 285, 3) := by decide +kernel
theorem dX12_not_14 : decode cX12_not 14 = .ok (.ifCond .ne 5, 3) := by decide +kernel
theorem dX12_not_17 : decode cX12_not 17 = .ok (.iconst 0, 1) := by decide +kernel
theorem dX12_not_18 : decode cX12_not 18 = .ok (.ireturn, 1) := by decide +kernel
theorem dX12_not_19 : decode cX12_not 19 = .ok (.aload_n 0, 1) := by decide +kernel
theorem dX12_not_20 : decode cX12_not 20 = .ok (.invokevirtual 306, 3) := by decide +kernel
theorem dX12_not_23 : decode cX12_not 23 = .ok (.istore_n 1, 1) := by decide +kernel
theorem dX12_not_24 : decode cX12_not 24 = .ok (.aload_n 0, 1) := by decide +kernel
theorem dX12_not_25 : decode cX12_not 25 = .ok (.dup, 1) := by decide +kernel
theorem dX12_not_26 : decode cX12_not 26 = .ok (.getfield 248, 3) := by decide +kernel
theorem dX12_not_29 : decode cX12_not 29 = .ok (.iconst 1, 1) := by decide +kernel
theorem dX12_not_30 : decode cX12_not 30 = .ok (.isub, 1) := by decide +kernel
theorem dX12_not_31 : decode cX12_not 31 = .ok (.putfield 248, 3) := by decide +kernel
theorem dX12_not_34 : decode cX12_not 34 = .ok (.iload_n 1, 1) := by decide +kernel
theorem dX12_not_35 : decode cX12_not 35 = .ok (.ifCond .ne 7, 3) := by decide +kernel
theorem dX12_not_38 : decode cX12_not 38 = .ok (.iconst 1, 1) := by decide +kernel
theorem dX12_not_39 : decode cX12_not 39 = .ok (.goto 4, 3) := by decide +kernel
theorem dX12_not_42 : decode cX12_not 42 = .ok (.iconst 0, 1) := by decide +kernel
theorem dX12_not_43 : decode cX12_not 43 = .ok (.ireturn, 1) := by decide +kernel
theorem dX12_not_44 : decode cX12_not 44 = .ok (.aload_n 0, 1) := by decide +kernel
theorem dX12_not_45 : decode cX12_not 45 = .ok (.invokevirtual 309, 3) := by decide +kernel
theorem dX12_not_48 : decode cX12_not 48 = .ok (.istore_n 1, 1) := by decide +kernel
theorem dX12_not_49 : decode cX12_not 49 = .ok (.aload_n 0, 1) := by decide +kernel
theorem dX12_not_50 : decode cX12_not 50 = .ok (.bipush 60, 2) := by decide +kernel
theorem dX12_not_52 : decode cX12_not 52 = .ok (.invokevirtual 282, 3) := by decide +kernel
theorem dX12_not_55 : decode cX12_not 55 = .ok (.ifCond .ne 14, 3) := by decide +kernel
theorem dX12_not_58 : decode cX12_not 58 = .ok (.aload_n 0, 1) := by decide +kernel
theorem dX12_not_59 : decode cX12_not 59 = .ok (.bipush 61, 2) := by decide +kernel
theorem dX12_not_61 : decode cX12_not 61 = .ok (.invokevirtual 282, 3) := by decide +kernel
theorem dX12_not_64 : decode cX12_not 64 = .ok (.ifCond .ne 5, 3) := by decide +kernel
theorem dX12_not_67 : decode cX12_not 67 = .ok (.iload_n 1, 1) := by decide +kernel
theorem dX12_not_68 : decode cX12_not 68 = .ok (.ireturn, 1) := by decide +kernel
theorem dX12_not_69 : decode cX12_not 69 = .ok (.aload_n 0, 1) := by decide +kernel
theorem dX12_not_70 : decode cX12_not 70 = .ok (.getfield 227, 3) := by decide +kernel
theorem dX12_not_73 : decode cX12_not 73 = .ok (.ldc2_w 312, 3) := by decide +kernel
theorem dX12_not_76 : decode cX12_not 76 = .ok (.lcmp, 1) := by decide +kernel
theorem dX12_not_77 : decode cX12_not 77 = .ok (.ifCond .ne 7, 3) := by decide +kernel
theorem dX12_not_80 : decode cX12_not 80 = .ok (.iconst 1, 1) := by decide +kernel
theorem dX12_not_81 : decode cX12_not 81 = .ok (.goto 4, 3) := by decide +kernel
theorem dX12_not_84 : decode cX12_not 84 = .ok (.iconst 0, 1) := by decide +kernel
theorem dX12_not_85 : decode cX12_not 85 = .ok (.istore_n 2, 1) := by decide +kernel
theorem dX12_not_86 : decode cX12_not 86 = .ok (.aload_n 0, 1) := by decide +kernel
theorem dX12_not_87 : decode cX12_not 87 = .ok (.invokevirtual 254, 3) := by decide +kernel
theorem dX12_not_90 : decode cX12_not 90 = .ok (.aload_n 0, 1) := by decide +kernel
theorem dX12_not_91 : decode cX12_not 91 = .ok (.invokevirtual 309, 3) := by decide +kernel
theorem dX12_not_94 : decode cX12_not 94 = .ok (.istore_n 3, 1) := by decide +kernel
theorem dX12_not_95 : decode cX12_not 95 = .ok (.iload_n 2, 1) := by decide +kernel
theorem dX12_not_96 : decode cX12_not 96 = .ok (.ifCond .eq 11, 3) := by decide +kernel
theorem dX12_not_99 : decode cX12_not 99 = .ok (.iload_n 1, 1) := by decide +kernel
theorem dX12_not_100 : decode cX12_not 100 = .ok (.iload_n 3, 1) := by decide +kernel
theorem dX12_not_101 : decode cX12_not 101 = .ok (.if_icmp .ge 15, 3) := by decide +kernel
theorem dX12_not_104 : decode cX12_not 104 = .ok (.goto 8, 3) := by decide +kernel
theorem dX12_not_107 : decode cX12_not 107 = .ok (.iload_n 1, 1) := by decide +kernel
theorem dX12_not_108 : decode cX12_not 108 = .ok (.iload_n 3, 1) := by decide +kernel
theorem dX12_not_109 : decode cX12_not 109 = .ok (.if_icmp .ne 7, 3) := by decide +kernel
theorem dX12_not_112 : decode cX12_not 112 = .ok (.iconst 1, 1) := by decide +kernel
theorem dX12_not_113 : decode cX12_not 113 = .ok (.goto 4, 3) := by decide +kernel
theorem dX12_not_116 : decode cX12_not 116 = .ok (.iconst 0, 1) := by decide +kernel
theorem dX12_not_117 : decode cX12_not 117 = .ok (.ireturn, 1) := by decide +kernel
theorem dX12_both__0 : decode cX12_both_ 0 = .ok (.aload_n 0, 1) := by decide +kernel
theorem dX12_both__1 : decode cX12_both_ 1 = .ok (.invokevirtual 306, 3) := by decide +kernel
theorem dX12_both__4 : decode cX12_both_ 4 = .ok (.istore_n 1, 1) := by decide +kernel
theorem dX12_both__5 : decode cX12_both_ 5 = .ok (.aload_n 0, 1) := by decide +kernel
theorem dX12_both__6 : decode cX12_both_ 6 = .ok (.ldc2_w 314, 3) := by decide +kernel
theorem dX12_both__9 : decode cX12_both_ 9 = .ok (.invokevirtual 259, 3) := by decide +kernel
theorem dX12_both__12 : decode cX12_both_ 12 = .ok (.ifCond .eq 29, 3) := by decide +kernel
theorem dX12_both__15 : decode cX12_both_ 15 = .ok (.aload_n 0, 1) := by decide +kernel
theorem dX12_both__16 : decode cX12_both_ 16 = .ok (.invokevirtual 254, 3) := by decide +kernel
theorem dX12_both__19 : decode cX12_both_ 19 = .ok (.aload_n 0, 1) := by decide +kernel
theorem dX12_both__20 : decode cX12_both_ 20 = .ok (.invokevirtual 306, 3) := by decide +kernel
theorem dX12_both__23 : decode cX12_both_ 23 = .ok (.istore_n 2, 1) := by decide +kernel
theorem dX12_both__24 : decode cX12_both_ 24 = .ok (.iload_n 1, 1) := by decide +kernel
theorem dX12_both__25 : decode cX12_both_ 25 = .ok (.ifCond .eq 11, 3) := by decide +kernel
theorem dX12_both__28 : decode cX12_both_ 28 = .ok (.iload_n 2, 1) := by decide +kernel
theorem dX12_both__29 : decode cX12_both_ 29 = .ok (.ifCond .eq 7, 3) := by decide +kernel
theorem dX12_both__32 : decode cX12_both_ 32 = .ok (.iconst 1, 1) := by decide +kernel
theorem dX12_both__33 : decode cX12_both_ 33 = .ok (.goto 4, 3) := by decide +kernel
theorem dX12_both__36 : decode cX12_both_ 36 = .ok (.iconst 0, 1) := by decide +kernel
theorem dX12_both__37 : decode cX12_both_ 37 = .ok (.istore_n 1, 1) := by decide +kernel
theorem dX12_both__38 : decode cX12_both_ 38 = .ok (.goto (-33), 3) := by decide +kernel
theorem dX12_both__41 : decode cX12_both_ 41 = .ok (.iload_n 1, 1) := by decide +kernel
theorem dX12_both__42 : decode cX12_both_ 42 = .ok (.ireturn, 1) := by decide +kernel
theorem dX12_either_0 : decode cX12_either 0 = .ok (.aload_n 0, 1) := by decide +kernel
theorem dX12_either_1 : decode cX12_either 1 = .ok (.invokevirtual 316, 3) := by decide +kernel
theorem dX12_either_4 : decode cX12_either 4 = .ok (.istore_n 1, 1) := by decide +kernel
theorem dX12_either_5 : decode cX12_either 5 = .ok (.aload_n 0, 1) := by decide +kernel
theorem dX12_either_6 : decode cX12_either 6 = .ok (.ldc2_w 319, 3) := by decide +kernel
theorem dX12_either_9 : decode cX12_either 9 = .ok (.invokevirtual 259, 3) := by decide +kernel
theorem dX12_either_12 : decode cX12_either 12 = .ok (.ifCond .eq 29, 3) := by decide +kernel
theorem dX12_either_15 : decode cX12_either 15 = .ok (.aload_n 0, 1) := by decide +kernel
theorem dX12_either_16 : decode cX12_either 16 = .ok (.invokevirtual 254, 3) := by decide +kernel
theorem dX12_either_19 : decode cX12_either 19 = .ok (.aload_n 0, 1) := by decide +kernel
theorem dX12_either_20 : decode cX12_either 20 = .ok (.invokevirtual 316, 3) := by decide +kernel
theorem dX12_either_23 : decode cX12_either 23 = .ok (.istore_n 2, 1) := by decide +kernel
theorem dX12_either_24 : decode cX12_either 24 = .ok (.iload_n 1, 1) := by decide +kernel
theorem dX12_either_25 : decode cX12_either 25 = .ok (.ifCond .ne 7, 3) := by decide +kernel
theorem dX12_either_28 : decode cX12_either 28 = .ok (.iload_n 2, 1) := by decide +kernel
theorem dX12_either_29 : decode cX12_either 29 = .ok (.ifCond .eq 7, 3) := by decide +kernel
theorem dX12_either_32 : decode cX12_either 32 = .ok (.iconst 1, 1) := by decide +kernel
theorem dX12_either_33 : decode cX12_either 33 = .ok (.goto 4, 3) := by decide +kernel
theorem dX12_either_36 : decode cX12_either 36 = .ok (.iconst 0, 1) := by decide +kernel
theorem dX12_either_37 : decode cX12_either 37 = .ok (.istore_n 1, 1) := by decide +kernel
theorem dX12_either_38 : decode cX12_either 38 = .ok (.goto (-33), 3) := by decide +kernel
theorem dX12_either_41 : decode cX12_either 41 = .ok (.iload_n 1, 1) := by decide +kernel
theorem dX12_either_42 : decode cX12_either 42 = .ok (.ireturn, 1) := by decide +kernel
theorem dX12_part_0 : decode cX12_part 0 = .ok (.aload_n 0, 1) := by decide +kernel
theorem dX12_part_1 : decode cX12_part 1 = .ok (.lload_n 1, 1) := by decide +kernel
theorem dX12_part_2 : decode cX12_part 2 = .ok (.invokevirtual 259, 3) := by decide +kernel
theorem dX12_part_5 : decode cX12_part 5 = .ok (.ifCond .ne 7, 3) := by decide +kernel
theorem dX12_part_8 : decode cX12_part 8 = .ok (.aload_n 0, 1) := by decide +kernel
theorem dX12_part_9 : decode cX12_part 9 = .ok (.invokevirtual 251, 3) := by decide +kernel
theorem dX12_part_12 : decode cX12_part 12 = .ok (.aload_n 0, 1) := by decide +kernel
theorem dX12_part_13 : decode cX12_part 13 = .ok (.getfield 241, 3) := by decide +kernel
theorem dX12_part_16 : decode cX12_part 16 = .ok (.ifCond .ne 7, 3) := by decide +kernel
theorem dX12_part_19 : decode cX12_part 19 = .ok (.aload_n 0, 1) := by decide +kernel
theorem dX12_part_20 : decode cX12_part 20 = .ok (.invokevirtual 254, 3) := by decide +kernel
theorem dX12_part_23 : decode cX12_part 23 = .ok (.aload_n 0, 1) := by decide +kernel
theorem dX12_part_24 : decode cX12_part 24 = .ok (.getfield 241, 3) := by decide +kernel
theorem dX12_part_27 : decode cX12_part 27 = .ok (.ifCond .eq 7, 3) := by decide +kernel
theorem dX12_part_30 : decode cX12_part 30 = .ok (.iconst 0, 1) := by decide +kernel
theorem dX12_part_31 : decode cX12_part 31 = .ok (.goto 7, 3) := by decide +kernel
theorem dX12_part_34 : decode cX12_part 34 = .ok (.aload_n 0, 1) := by decide +kernel
theorem dX12_part_35 : decode cX12_part 35 = .ok (.invokevirtual 293, 3) := by decide +kernel
theorem dX12_part_38 : decode cX12_part 38 = .ok (.istore_n 3, 1) := by decide +kernel
theorem dX12_part_39 : decode cX12_part 39 = .ok (.aload_n 0, 1) := by decide +kernel
theorem dX12_part_40 : decode cX12_part 40 = .ok (.bipush 59, 2) := by decide +kernel
theorem dX12_part_42 : decode cX12_part 42 = .ok (.invokevirtual 282, 3) := by decide +kernel
theorem dX12_part_45 : decode cX12_part 45 = .ok (.ifCond .ne 7, 3) := by decide +kernel
theorem dX12_part_48 : decode cX12_part 48 = .ok (.aload_n 0, 1) := by decide +kernel
theorem dX12_part_49 : decode cX12_part 49 = .ok (.invokevirtual 251, 3) := by decide +kernel
theorem dX12_part_52 : decode cX12_part 52 = .ok (.aload_n 0, 1) := by decide +kernel
theorem dX12_part_53 : decode cX12_part 53 = .ok (.getfield 241, 3) := by decide +kernel
theorem dX12_part_56 : decode cX12_part 56 = .ok (.ifCond .ne 7, 3) := by decide +kernel
theorem dX12_part_59 : decode cX12_part 59 = .ok (.aload_n 0, 1) := by decide +kernel
theorem dX12_part_60 : decode cX12_part 60 = .ok (.invokevirtual 254, 3) := by decide +kernel
theorem dX12_part_63 : decode cX12_part 63 = .ok (.iload_n 3, 1) := by decide +kernel
theorem dX12_part_64 : decode cX12_part 64 = .ok (.ireturn, 1) := by decide +kernel
theorem dX12_read_0 : decode cX12_read 0 = .ok (.aload_n 0, 1) := by decide +kernel
theorem dX12_read_1 : decode cX12_read 1 = .ok (.iload_n 2, 1) := by decide +kernel
theorem dX12_read_2 : decode cX12_read 2 = .ok (.putfield 263, 3) := by decide +kernel
theorem dX12_read_5 : decode cX12_read 5 = .ok (.aload_n 0, 1) := by decide +kernel
theorem dX12_read_6 : decode cX12_read 6 = .ok (.iload_n 3, 1) := by decide +kernel
theorem dX12_read_7 : decode cX12_read 7 = .ok (.putfield 268, 3) := by decide +kernel
theorem dX12_read_10 : decode cX12_read 10 = .ok (.aload_n 0, 1) := by decide +kernel
theorem dX12_read_11 : decode cX12_read 11 = .ok (.iload 4, 2) := by decide +kernel
theorem dX12_read_13 : decode cX12_read 13 = .ok (.putfield 273, 3) := by decide +kernel
theorem dX12_read_16 : decode cX12_read 16 = .ok (.aload_n 0, 1) := by decide +kernel
theorem dX12_read_17 : decode cX12_read 17 = .ok (.sipush 160, 3) := by decide +kernel
theorem dX12_read_20 : decode cX12_read 20 = .ok (.iload_n 1, 1) := by decide +kernel
theorem dX12_read_21 : decode cX12_read 21 = .ok (.imul, 1) := by decide +kernel
theorem dX12_read_22 : decode cX12_read 22 = .ok (.putfield 212, 3) := by decide +kernel
theorem dX12_read_25 : decode cX12_read 25 = .ok (.aload_n 0, 1) := by decide +kernel
theorem dX12_read_26 : decode cX12_read 26 = .ok (.aload_n 0, 1) := by decide +kernel
theorem dX12_read_27 : decode cX12_read 27 = .ok (.getfield 67, 3) := by decide +kernel
theorem dX12_read_30 : decode cX12_read 30 = .ok (.iload_n 1, 1) := by decide +kernel
theorem dX12_read_31 : decode cX12_read 31 = .ok (.iaload, 1) := by decide +kernel
theorem dX12_read_32 : decode cX12_read 32 = .ok (.putfield 209, 3) := by decide +kernel
theorem dX12_read_35 : decode cX12_read 35 = .ok (.aload_n 0, 1) := by decide +kernel
theorem dX12_read_36 : decode cX12_read 36 = .ok (.iconst 0, 1) := by decide +kernel
theorem dX12_read_37 : decode cX12_read 37 = .ok (.putfield 215, 3) := by decide +kernel
theorem dX12_read_40 : decode cX12_read 40 = .ok (.aload_n 0, 1) := by decide +kernel
theorem dX12_read_41 : decode cX12_read 41 = .ok (.iconst 0, 1) := by decide +kernel
theorem dX12_read_42 : decode cX12_read 42 = .ok (.putfield 248, 3) := by decide +kernel
theorem dX12_read_45 : decode cX12_read 45 = .ok (.aload_n 0, 1) := by decide +kernel
theorem dX12_read_46 : decode cX12_read 46 = .ok (.iconst 0, 1) := by decide +kernel
theorem dX12_read_47 : decode cX12_read 47 = .ok (.putfield 241, 3) := by decide +kernel
theorem dX12_read_50 : decode cX12_read 50 = .ok (.aload_n 0, 1) := by decide +kernel
theorem dX12_read_51 : decode cX12_read 51 = .ok (.invokevirtual 254, 3) := by decide +kernel
theorem dX12_read_54 : decode cX12_read 54 = .ok (.aload_n 0, 1) := by decide +kernel
theorem dX12_read_55 : decode cX12_read 55 = .ok (.ldc2_w 321, 3) := by decide +kernel
theorem dX12_read_58 : decode cX12_read 58 = .ok (.invokevirtual 323, 3) := by decide +kernel
theorem dX12_read_61 : decode cX12_read 61 = .ok (.istore 6, 2) := by decide +kernel
theorem dX12_read_63 : decode cX12_read 63 = .ok (.aload_n 0, 1) := by decide +kernel
theorem dX12_read_64 : decode cX12_read 64 = .ok (.getfield 241, 3) := by decide +kernel
theorem dX12_read_67 : decode cX12_read 67 = .ok (.ifCond .eq 7, 3) := by decide +kernel
theorem dX12_read_70 : decode cX12_read 70 = .ok (.iconst 0, 1) := by decide +kernel
theorem dX12_read_71 : decode cX12_read 71 = .ok (.goto 10, 3) := by decide +kernel
theorem dX12_read_74 : decode cX12_read 74 = .ok (.aload_n 0, 1) := by decide +kernel
theorem dX12_read_75 : decode cX12_read 75 = .ok (.ldc2_w 327, 3) := by decide +kernel
theorem dX12_read_78 : decode cX12_read 78 = .ok (.invokevirtual 323, 3) := by decide +kernel
theorem dX12_read_81 : decode cX12_read 81 = .ok (.istore 7, 2) := by decide +kernel
theorem dX12_read_83 : decode cX12_read 83 = .ok (.aload_n 0, 1) := by decide +kernel
theorem dX12_read_84 : decode cX12_read 84 = .ok (.getfield 241, 3) := by decide +kernel
theorem dX12_read_87 : decode cX12_read 87 = .ok (.ifCond .ne 14, 3) := by decide +kernel
theorem dX12_read_90 : decode cX12_read 90 = .ok (.aload_n 0, 1) := by decide +kernel
theorem dX12_read_91 : decode cX12_read 91 = .ok (.getfield 224, 3) := by decide +kernel
theorem dX12_read_94 : decode cX12_read 94 = .ok (.ifCond .eq 7, 3) := by decide +kernel
theorem dX12_read_97 : decode cX12_read 97 = .ok (.aload_n 0, 1) := by decide +kernel
theorem dX12_read_98 : decode cX12_read 98 = .ok (.invokevirtual 251, 3) := by decide +kernel
theorem dX12_read_101 : decode cX12_read 101 = .ok (.iload 5, 2) := by decide +kernel
theorem dX12_read_103 : decode cX12_read 103 = .ok (.ifCond .ne 8, 3) := by decide +kernel
theorem dX12_read_106 : decode cX12_read 106 = .ok (.iload 6, 2) := by decide +kernel
theorem dX12_read_108 : decode cX12_read 108 = .ok (.goto 5, 3) := by decide +kernel
theorem dX12_read_111 : decode cX12_read 111 = .ok (.iload 7, 2) := by decide +kernel
theorem dX12_read_113 : decode cX12_read 113 = .ok (.ireturn, 1) := by decide +kernel
theorem dX12_text_0 : decode cX12_text 0 = .ok (.aload_n 0, 1) := by decide +kernel
theorem dX12_text_1 : decode cX12_text 1 = .ok (.getfield 137, 3) := by decide +kernel
theorem dX12_text_4 : decode cX12_text 4 = .ok (.bipush 6, 2) := by decide +kernel
theorem dX12_text_6 : decode cX12_text 6 = .ok (.if_icmp .ne 6, 3) := by decide +kernel
theorem dX12_text_9 : decode cX12_text 9 = .ok (.bipush (-4), 2) := by decide +kernel
theorem dX12_text_11 : decode cX12_text 11 = .ok (.ireturn, 1) := by decide +kernel
theorem dX12_text_12 : decode cX12_text 12 = .ok (.iconst 0, 1) := by decide +kernel
theorem dX12_text_13 : decode cX12_text 13 = .ok (.istore_n 1, 1) := by decide +kernel
theorem dX12_text_14 : decode cX12_text 14 = .ok (.iload_n 1, 1) := by decide +kernel
theorem dX12_text_15 : decode cX12_text 15 = .ok (.aload_n 0, 1) := by decide +kernel
theorem dX12_text_16 : decode cX12_text 16 = .ok (.getfield 206, 3) := by decide +kernel
theorem dX12_text_19 : decode cX12_text 19 = .ok (.if_icmp .ge 30, 3) := by decide +kernel
theorem dX12_text_22 : decode cX12_text 22 = .ok (.aload_n 0, 1) := by decide +kernel
theorem dX12_text_23 : decode cX12_text 23 = .ok (.getfield 64, 3) := by decide +kernel
theorem dX12_text_26 : decode cX12_text 26 = .ok (.sipush 160, 3) := by decide +kernel
theorem dX12_text_29 : decode cX12_text 29 = .ok (.aload_n 0, 1) := by decide +kernel
theorem dX12_text_30 : decode cX12_text 30 = .ok (.getfield 137, 3) := by decide +kernel
theorem dX12_text_33 : decode cX12_text 33 = .ok (.imul, 1) := by decide +kernel
theorem dX12_text_34 : decode cX12_text 34 = .ok (.iload_n 1, 1) := by decide +kernel
theorem dX12_text_35 : decode cX12_text 35 = .ok (.iadd, 1) := by decide +kernel
theorem dX12_text_36 : decode cX12_text 36 = .ok (.aload_n 0, 1) := by decide +kernel
theorem dX12_text_37 : decode cX12_text 37 = .ok (.getfield 70, 3) := by decide +kernel
theorem dX12_text_40 : decode cX12_text 40 = .ok (.iload_n 1, 1) := by decide +kernel
theorem dX12_text_41 : decode cX12_text 41 = .ok (.iaload, 1) := by decide +kernel
theorem dX12_text_42 : decode cX12_text 42 = .ok (.iastore, 1) := by decide +kernel
theorem dX12_text_43 : decode cX12_text 43 = .ok (.iinc 1 1, 3) := by decide +kernel
theorem dX12_text_46 : decode cX12_text 46 = .ok (.goto (-32), 3) := by decide +kernel
theorem dX12_text_49 : decode cX12_text 49 = .ok (.aload_n 0, 1) := by decide +kernel
theorem dX12_text_50 : decode cX12_text 50 = .ok (.getfield 67, 3) := by decide +kernel
theorem dX12_text_53 : decode cX12_text 53 = .ok (.aload_n 0, 1) := by decide +kernel
theorem dX12_text_54 : decode cX12_text 54 = .ok (.getfield 137, 3) := by decide +kernel
theorem dX12_text_57 : decode cX12_text 57 = .ok (.aload_n 0, 1) := by decide +kernel
theorem dX12_text_58 : decode cX12_text 58 = .ok (.getfield 206, 3) := by decide +kernel
theorem dX12_text_61 : decode cX12_text 61 = .ok (.iastore, 1) := by decide +kernel
theorem dX12_text_62 : decode cX12_text 62 = .ok (.aload_n 0, 1) := by decide +kernel
theorem dX12_text_63 : decode cX12_text 63 = .ok (.iconst 0, 1) := by decide +kernel
theorem dX12_text_64 : decode cX12_text 64 = .ok (.putfield 206, 3) := by decide +kernel
theorem dX12_text_67 : decode cX12_text 67 = .ok (.aload_n 0, 1) := by decide +kernel
theorem dX12_text_68 : decode cX12_text 68 = .ok (.aload_n 0, 1) := by decide +kernel
theorem dX12_text_69 : decode cX12_text 69 = .ok (.getfield 137, 3) := by decide +kernel
theorem dX12_text_72 : decode cX12_text 72 = .ok (.iconst 0, 1) := by decide +kernel
theorem dX12_text_73 : decode cX12_text 73 = .ok (.iconst 1, 1) := by decide +kernel
theorem dX12_text_74 : decode cX12_text 74 = .ok (.iconst 0, 1) := by decide +kernel
theorem dX12_text_75 : decode cX12_text 75 = .ok (.iconst 0, 1) := by decide +kernel
theorem dX12_text_76 : decode cX12_text 76 = .ok (.invokevirtual 329, 3) := by decide +kernel
theorem dX12_text_79 : decode cX12_text 79 = .ok (.istore_n 1, 1) := by decide +kernel
theorem dX12_text_80 : decode cX12_text 80 = .ok (.aload_n 0, 1) := by decide +kernel
theorem dX12_text_81 : decode cX12_text 81 = .ok (.getfield 241, 3) := by decide +kernel
theorem dX12_text_84 : decode cX12_text 84 = .ok (.ifCond .eq 11, 3) := by decide +kernel
theorem dX12_text_87 : decode cX12_text 87 = .ok (.bipush (-100), 2) := by decide +kernel
theorem dX12_text_89 : decode cX12_text 89 = .ok (.aload_n 0, 1) := by decide +kernel
theorem dX12_text_90 : decode cX12_text 90 = .ok (.getfield 245, 3) := by decide +kernel
theorem dX12_text_93 : decode cX12_text 93 = .ok (.isub, 1) := by decide +kernel
theorem dX12_text_94 : decode cX12_text 94 = .ok (.ireturn, 1) := by decide +kernel
theorem dX12_text_95 : decode cX12_text 95 = .ok (.aload_n 0, 1) := by decide +kernel
theorem dX12_text_96 : decode cX12_text 96 = .ok (.dup, 1) := by decide +kernel
theorem dX12_text_97 : decode cX12_text 97 = .ok (.getfield 137, 3) := by decide +kernel
theorem dX12_text_100 : decode cX12_text 100 = .ok (.iconst 1, 1) := by decide +kernel
theorem dX12_text_101 : decode cX12_text 101 = .ok (.iadd, 1) := by decide +kernel
theorem dX12_text_102 : decode cX12_text 102 = .ok (.putfield 137, 3) := by decide +kernel
theorem dX12_text_105 : decode cX12_text 105 = .ok (.aload_n 0, 1) := by decide +kernel
theorem dX12_text_106 : decode cX12_text 106 = .ok (.getfield 137, 3) := by decide +kernel
theorem dX12_text_109 : decode cX12_text 109 = .ok (.iconst 1, 1) := by decide +kernel
theorem dX12_text_110 : decode cX12_text 110 = .ok (.isub, 1) := by decide +kernel
theorem dX12_text_111 : decode cX12_text 111 = .ok (.ireturn, 1) := by decide +kernel
theorem dX12_law_0 : decode cX12_law 0 = .ok (.aload_n 0, 1) := by decide +kernel
theorem dX12_law_1 : decode cX12_law 1 = .ok (.iload_n 1, 1) := by decide +kernel
theorem dX12_law_2 : decode cX12_law 2 = .ok (.iload_n 2, 1) := by decide +kernel
theorem dX12_law_3 : decode cX12_law 3 = .ok (.invokevirtual 172, 3) := by decide +kernel
theorem dX12_law_6 : decode cX12_law 6 = .ok (.ifCond .eq 17, 3) := by decide +kernel
theorem dX12_law_9 : decode cX12_law 9 = .ok (.iload_n 3, 1) := by decide +kernel
theorem dX12_law_10 : decode cX12_law 10 = .ok (.iconst 0, 1) := by decide +kernel
theorem dX12_law_11 : decode cX12_law 11 = .ok (.aload_n 0, 1) := by decide +kernel
theorem dX12_law_12 : decode cX12_law 12 = .ok (.getfield 137, 3) := by decide +kernel
theorem dX12_law_15 : decode cX12_law 15 = .ok (.iconst 1, 1) := by decide +kernel
theorem dX12_law_16 : decode cX12_law 16 = .ok (.isub, 1) := by decide +kernel
theorem dX12_law_17 : decode cX12_law 17 = .ok (.invokestatic 148, 3) := by decide +kernel
theorem dX12_law_20 : decode cX12_law 20 = .ok (.ifCond .ne 6, 3) := by decide +kernel
theorem dX12_law_23 : decode cX12_law 23 = .ok (.bipush (-2), 2) := by decide +kernel
theorem dX12_law_25 : decode cX12_law 25 = .ok (.ireturn, 1) := by decide +kernel
theorem dX12_law_26 : decode cX12_law 26 = .ok (.aload_n 0, 1) := by decide +kernel
theorem dX12_law_27 : decode cX12_law 27 = .ok (.getfield 333, 3) := by decide +kernel
theorem dX12_law_30 : decode cX12_law 30 = .ok (.bipush 20, 2) := by decide +kernel
theorem dX12_law_32 : decode cX12_law 32 = .ok (.if_icmp .ne 6, 3) := by decide +kernel
theorem dX12_law_35 : decode cX12_law 35 = .ok (.bipush (-4), 2) := by decide +kernel
theorem dX12_law_37 : decode cX12_law 37 = .ok (.ireturn, 1) := by decide +kernel
theorem dX12_law_38 : decode cX12_law 38 = .ok (.aload_n 0, 1) := by decide +kernel
theorem dX12_law_39 : decode cX12_law 39 = .ok (.getfield 73, 3) := by decide +kernel
theorem dX12_law_42 : decode cX12_law 42 = .ok (.aload_n 0, 1) := by decide +kernel
theorem dX12_law_43 : decode cX12_law 43 = .ok (.getfield 333, 3) := by decide +kernel
theorem dX12_law_46 : decode cX12_law 46 = .ok (.iload_n 1, 1) := by decide +kernel
theorem dX12_law_47 : decode cX12_law 47 = .ok (.iastore, 1) := by decide +kernel
theorem dX12_law_48 : decode cX12_law 48 = .ok (.aload_n 0, 1) := by decide +kernel
theorem dX12_law_49 : decode cX12_law 49 = .ok (.getfield 76, 3) := by decide +kernel
theorem dX12_law_52 : decode cX12_law 52 = .ok (.aload_n 0, 1) := by decide +kernel
theorem dX12_law_53 : decode cX12_law 53 = .ok (.getfield 333, 3) := by decide +kernel
theorem dX12_law_56 : decode cX12_law 56 = .ok (.iload_n 2, 1) := by decide +kernel
theorem dX12_law_57 : decode cX12_law 57 = .ok (.iastore, 1) := by decide +kernel
theorem dX12_law_58 : decode cX12_law 58 = .ok (.aload_n 0, 1) := by decide +kernel
theorem dX12_law_59 : decode cX12_law 59 = .ok (.getfield 79, 3) := by decide +kernel
theorem dX12_law_62 : decode cX12_law 62 = .ok (.aload_n 0, 1) := by decide +kernel
theorem dX12_law_63 : decode cX12_law 63 = .ok (.getfield 333, 3) := by decide +kernel
theorem dX12_law_66 : decode cX12_law 66 = .ok (.iload_n 3, 1) := by decide +kernel
theorem dX12_law_67 : decode cX12_law 67 = .ok (.iastore, 1) := by decide +kernel
theorem dX12_law_68 : decode cX12_law 68 = .ok (.aload_n 0, 1) := by decide +kernel
theorem dX12_law_69 : decode cX12_law 69 = .ok (.dup, 1) := by decide +kernel
theorem dX12_law_70 : decode cX12_law 70 = .ok (.getfield 333, 3) := by decide +kernel
theorem dX12_law_73 : decode cX12_law 73 = .ok (.iconst 1, 1) := by decide +kernel
theorem dX12_law_74 : decode cX12_law 74 = .ok (.iadd, 1) := by decide +kernel
theorem dX12_law_75 : decode cX12_law 75 = .ok (.putfield 333, 3) := by decide +kernel
theorem dX12_law_78 : decode cX12_law 78 = .ok (.aload_n 0, 1) := by decide +kernel
theorem dX12_law_79 : decode cX12_law 79 = .ok (.getfield 333, 3) := by decide +kernel
theorem dX12_law_82 : decode cX12_law 82 = .ok (.iconst 1, 1) := by decide +kernel
theorem dX12_law_83 : decode cX12_law 83 = .ok (.isub, 1) := by decide +kernel
theorem dX12_law_84 : decode cX12_law 84 = .ok (.ireturn, 1) := by decide +kernel
theorem dX12_theLaw_0 : decode cX12_theLaw 0 = .ok (.iconst (-1), 1) := by decide +kernel
theorem dX12_theLaw_1 : decode cX12_theLaw 1 = .ok (.istore_n 3, 1) := by decide +kernel
theorem dX12_theLaw_2 : decode cX12_theLaw 2 = .ok (.iconst 0, 1) := by decide +kernel
theorem dX12_theLaw_3 : decode cX12_theLaw 3 = .ok (.istore 4, 2) := by decide +kernel
theorem dX12_theLaw_5 : decode cX12_theLaw 5 = .ok (.iload 4, 2) := by decide +kernel
theorem dX12_theLaw_7 : decode cX12_theLaw 7 = .ok (.aload_n 0, 1) := by decide +kernel
theorem dX12_theLaw_8 : decode cX12_theLaw 8 = .ok (.getfield 333, 3) := by decide +kernel
theorem dX12_theLaw_11 : decode cX12_theLaw 11 = .ok (.if_icmp .ge 55, 3) := by decide +kernel
theorem dX12_theLaw_14 : decode cX12_theLaw 14 = .ok (.aload_n 0, 1) := by decide +kernel
theorem dX12_theLaw_15 : decode cX12_theLaw 15 = .ok (.getfield 73, 3) := by decide +kernel
theorem dX12_theLaw_18 : decode cX12_theLaw 18 = .ok (.iload 4, 2) := by decide +kernel
theorem dX12_theLaw_20 : decode cX12_theLaw 20 = .ok (.iaload, 1) := by decide +kernel
theorem dX12_theLaw_21 : decode cX12_theLaw 21 = .ok (.iload_n 1, 1) := by decide +kernel
theorem dX12_theLaw_22 : decode cX12_theLaw 22 = .ok (.if_icmp .ne 38, 3) := by decide +kernel
theorem dX12_theLaw_25 : decode cX12_theLaw 25 = .ok (.aload_n 0, 1) := by decide +kernel
theorem dX12_theLaw_26 : decode cX12_theLaw 26 = .ok (.getfield 76, 3) := by decide +kernel
theorem dX12_theLaw_29 : decode cX12_theLaw 29 = .ok (.iload 4, 2) := by decide +kernel
theorem dX12_theLaw_31 : decode cX12_theLaw 31 = .ok (.iaload, 1) := by decide +kernel
theorem dX12_theLaw_32 : decode cX12_theLaw 32 = .ok (.iload_n 2, 1) := by decide +kernel
theorem dX12_theLaw_33 : decode cX12_theLaw 33 = .ok (.if_icmp .gt 27, 3) := by decide +kernel
theorem dX12_theLaw_36 : decode cX12_theLaw 36 = .ok (.iload_n 3, 1) := by decide +kernel
theorem dX12_theLaw_37 : decode cX12_theLaw 37 = .ok (.iconst (-1), 1) := by decide +kernel
theorem dX12_theLaw_38 : decode cX12_theLaw 38 = .ok (.if_icmp .eq 19, 3) := by decide +kernel
theorem dX12_theLaw_41 : decode cX12_theLaw 41 = .ok (.aload_n 0, 1) := by decide +kernel
theorem dX12_theLaw_42 : decode cX12_theLaw 42 = .ok (.getfield 76, 3) := by decide +kernel
theorem dX12_theLaw_45 : decode cX12_theLaw 45 = .ok (.iload 4, 2) := by decide +kernel
theorem dX12_theLaw_47 : decode cX12_theLaw 47 = .ok (.iaload, 1) := by decide +kernel
theorem dX12_theLaw_48 : decode cX12_theLaw 48 = .ok (.aload_n 0, 1) := by decide +kernel
theorem dX12_theLaw_49 : decode cX12_theLaw 49 = .ok (.getfield 76, 3) := by decide +kernel
theorem dX12_theLaw_52 : decode cX12_theLaw 52 = .ok (.iload_n 3, 1) := by decide +kernel
theorem dX12_theLaw_53 : decode cX12_theLaw 53 = .ok (.iaload, 1) := by decide +kernel
theorem dX12_theLaw_54 : decode cX12_theLaw 54 = .ok (.if_icmp .lt 6, 3) := by decide +kernel
theorem dX12_theLaw_57 : decode cX12_theLaw 57 = .ok (.iload 4, 2) := by decide +kernel
theorem dX12_theLaw_59 : decode cX12_theLaw 59 = .ok (.istore_n 3, 1) := by decide +kernel
theorem dX12_theLaw_60 : decode cX12_theLaw 60 = .ok (.iinc 4 1, 3) := by decide +kernel
theorem dX12_theLaw_63 : decode cX12_theLaw 63 = .ok (.goto (-58), 3) := by decide +kernel
theorem dX12_theLaw_66 : decode cX12_theLaw 66 = .ok (.iload_n 3, 1) := by decide +kernel
theorem dX12_theLaw_67 : decode cX12_theLaw 67 = .ok (.iconst (-1), 1) := by decide +kernel
theorem dX12_theLaw_68 : decode cX12_theLaw 68 = .ok (.if_icmp .ne 7, 3) := by decide +kernel
theorem dX12_theLaw_71 : decode cX12_theLaw 71 = .ok (.iconst 0, 1) := by decide +kernel
theorem dX12_theLaw_72 : decode cX12_theLaw 72 = .ok (.goto 9, 3) := by decide +kernel
theorem dX12_theLaw_75 : decode cX12_theLaw 75 = .ok (.aload_n 0, 1) := by decide +kernel
theorem dX12_theLaw_76 : decode cX12_theLaw 76 = .ok (.getfield 79, 3) := by decide +kernel
theorem dX12_theLaw_79 : decode cX12_theLaw 79 = .ok (.iload_n 3, 1) := by decide +kernel
theorem dX12_theLaw_80 : decode cX12_theLaw 80 = .ok (.iaload, 1) := by decide +kernel
theorem dX12_theLaw_81 : decode cX12_theLaw 81 = .ok (.ireturn, 1) := by decide +kernel
theorem dX12_lawOf_0 : decode cX12_lawOf 0 = .ok (.aload_n 0, 1) := by decide +kernel
theorem dX12_lawOf_1 : decode cX12_lawOf 1 = .ok (.iload_n 1, 1) := by decide +kernel
theorem dX12_lawOf_2 : decode cX12_lawOf 2 = .ok (.iload_n 2, 1) := by decide +kernel
theorem dX12_lawOf_3 : decode cX12_lawOf 3 = .ok (.invokevirtual 172, 3) := by decide +kernel
theorem dX12_lawOf_6 : decode cX12_lawOf 6 = .ok (.ifCond .eq 12, 3) := by decide +kernel
theorem dX12_lawOf_9 : decode cX12_lawOf 9 = .ok (.aload_n 0, 1) := by decide +kernel
theorem dX12_lawOf_10 : decode cX12_lawOf 10 = .ok (.iload_n 1, 1) := by decide +kernel
theorem dX12_lawOf_11 : decode cX12_lawOf 11 = .ok (.iload_n 2, 1) := by decide +kernel
theorem dX12_lawOf_12 : decode cX12_lawOf 12 = .ok (.invokevirtual 336, 3) := by decide +kernel
theorem dX12_lawOf_15 : decode cX12_lawOf 15 = .ok (.goto 5, 3) := by decide +kernel
theorem dX12_lawOf_18 : decode cX12_lawOf 18 = .ok (.bipush (-2), 2) := by decide +kernel
theorem dX12_lawOf_20 : decode cX12_lawOf 20 = .ok (.ireturn, 1) := by decide +kernel
theorem dX12_says_0 : decode cX12_says 0 = .ok (.iload_n 1, 1) := by decide +kernel
theorem dX12_says_1 : decode cX12_says 1 = .ok (.invokestatic 152, 3) := by decide +kernel
theorem dX12_says_4 : decode cX12_says 4 = .ok (.ifCond .eq 39, 3) := by decide +kernel
theorem dX12_says_7 : decode cX12_says 7 = .ok (.iload_n 2, 1) := by decide +kernel
theorem dX12_says_8 : decode cX12_says 8 = .ok (.invokestatic 152, 3) := by decide +kernel
theorem dX12_says_11 : decode cX12_says 11 = .ok (.ifCond .eq 32, 3) := by decide +kernel
theorem dX12_says_14 : decode cX12_says 14 = .ok (.iload_n 1, 1) := by decide +kernel
theorem dX12_says_15 : decode cX12_says 15 = .ok (.iload_n 2, 1) := by decide +kernel
theorem dX12_says_16 : decode cX12_says 16 = .ok (.if_icmp .eq 27, 3) := by decide +kernel
theorem dX12_says_19 : decode cX12_says 19 = .ok (.iload_n 3, 1) := by decide +kernel
theorem dX12_says_20 : decode cX12_says 20 = .ok (.iconst 0, 1) := by decide +kernel
theorem dX12_says_21 : decode cX12_says 21 = .ok (.aload_n 0, 1) := by decide +kernel
theorem dX12_says_22 : decode cX12_says 22 = .ok (.getfield 124, 3) := by decide +kernel
theorem dX12_says_25 : decode cX12_says 25 = .ok (.iconst 2, 1) := by decide +kernel
theorem dX12_says_26 : decode cX12_says 26 = .ok (.isub, 1) := by decide +kernel
theorem dX12_says_27 : decode cX12_says 27 = .ok (.invokestatic 148, 3) := by decide +kernel
theorem dX12_says_30 : decode cX12_says 30 = .ok (.ifCond .eq 13, 3) := by decide +kernel
theorem dX12_says_33 : decode cX12_says 33 = .ok (.iload 4, 2) := by decide +kernel
theorem dX12_says_35 : decode cX12_says 35 = .ok (.iconst 0, 1) := by decide +kernel
theorem dX12_says_36 : decode cX12_says 36 = .ok (.iconst 1, 1) := by decide +kernel
theorem dX12_says_37 : decode cX12_says 37 = .ok (.invokestatic 148, 3) := by decide +kernel
theorem dX12_says_40 : decode cX12_says 40 = .ok (.ifCond .ne 7, 3) := by decide +kernel
theorem dX12_says_43 : decode cX12_says 43 = .ok (.ldc2_w 196, 3) := by decide +kernel
theorem dX12_says_46 : decode cX12_says 46 = .ok (.lreturn, 1) := by decide +kernel
theorem dX12_says_47 : decode cX12_says 47 = .ok (.aload_n 0, 1) := by decide +kernel
theorem dX12_says_48 : decode cX12_says 48 = .ok (.aload_n 0, 1) := by decide +kernel
theorem dX12_says_49 : decode cX12_says 49 = .ok (.iload_n 1, 1) := by decide +kernel
theorem dX12_says_50 : decode cX12_says 50 = .ok (.iload_n 3, 1) := by decide +kernel
theorem dX12_says_51 : decode cX12_says 51 = .ok (.invokevirtual 336, 3) := by decide +kernel
theorem dX12_says_54 : decode cX12_says 54 = .ok (.iload_n 1, 1) := by decide +kernel
theorem dX12_says_55 : decode cX12_says 55 = .ok (.iload_n 2, 1) := by decide +kernel
theorem dX12_says_56 : decode cX12_says 56 = .ok (.iload_n 3, 1) := by decide +kernel
theorem dX12_says_57 : decode cX12_says 57 = .ok (.iload 4, 2) := by decide +kernel
theorem dX12_says_59 : decode cX12_says 59 = .ok (.invokevirtual 329, 3) := by decide +kernel
theorem dX12_says_62 : decode cX12_says 62 = .ok (.i2l, 1) := by decide +kernel
theorem dX12_says_63 : decode cX12_says 63 = .ok (.lreturn, 1) := by decide +kernel
theorem dX12_judgeSteps_0 : decode cX12_judgeSteps 0 = .ok (.iconst 0, 1) := by decide +kernel
theorem dX12_judgeSteps_1 : decode cX12_judgeSteps 1 = .ok (.istore_n 1, 1) := by decide +kernel
theorem dX12_judgeSteps_2 : decode cX12_judgeSteps 2 = .ok (.iload_n 1, 1) := by decide +kernel
theorem dX12_judgeSteps_3 : decode cX12_judgeSteps 3 = .ok (.aload_n 0, 1) := by decide +kernel
