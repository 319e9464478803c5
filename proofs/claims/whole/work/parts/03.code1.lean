theorem dX4_obeys_276 : decode cX4_obeys 276 = .ok (.getfield 14, 3) := by decide +kernel
theorem dX4_obeys_279 : decode cX4_obeys 279 = .ok (.iload_n 2, 1) := by decide +kernel
theorem dX4_obeys_280 : decode cX4_obeys 280 = .ok (.invokevirtual 88, 3) := by decide +kernel
theorem dX4_obeys_283 : decode cX4_obeys 283 = .ok (.ifCond .eq 34, 3) := by decide +kernel
theorem dX4_obeys_286 : decode cX4_obeys 286 = .ok (.aload_n 0, 1) := by decide +kernel
theorem dX4_obeys_287 : decode cX4_obeys 287 = .ok (.iload_n 2, 1) := by decide +kernel
theorem dX4_obeys_288 : decode cX4_obeys 288 = .ok (.invokevirtual 156, 3) := by decide +kernel
theorem dX4_obeys_291 : decode cX4_obeys 291 = .ok (.ifCond .le 7, 3) := by decide +kernel
theorem dX4_obeys_294 : decode cX4_obeys 294 = .ok (.iconst 1, 1) := by decide +kernel
theorem dX4_obeys_295 : decode cX4_obeys 295 = .ok (.goto 4, 3) := by decide +kernel
theorem dX4_obeys_298 : decode cX4_obeys 298 = .ok (.iconst 0, 1) := by decide +kernel
theorem dX4_obeys_299 : decode cX4_obeys 299 = .ok (.iload 5, 2) := by decide +kernel
theorem dX4_obeys_301 : decode cX4_obeys 301 = .ok (.iconst 1, 1) := by decide +kernel
theorem dX4_obeys_302 : decode cX4_obeys 302 = .ok (.if_icmp .ne 7, 3) := by decide +kernel
theorem dX4_obeys_305 : decode cX4_obeys 305 = .ok (.iconst 1, 1) := by decide +kernel
theorem dX4_obeys_306 : decode cX4_obeys 306 = .ok (.goto 4, 3) := by decide +kernel
theorem dX4_obeys_309 : decode cX4_obeys 309 = .ok (.iconst 0, 1) := by decide +kernel
theorem dX4_obeys_310 : decode cX4_obeys 310 = .ok (.if_icmp .ne 7, 3) := by decide +kernel
theorem dX4_obeys_313 : decode cX4_obeys 313 = .ok (.iconst 1, 1) := by decide +kernel
theorem dX4_obeys_314 : decode cX4_obeys 314 = .ok (.goto 4, 3) := by decide +kernel
theorem dX4_obeys_317 : decode cX4_obeys 317 = .ok (.iconst 0, 1) := by decide +kernel
theorem dX4_obeys_318 : decode cX4_obeys 318 = .ok (.ireturn, 1) := by decide +kernel
theorem dX4_obeys_319 : decode cX4_obeys 319 = .ok (.iload_n 3, 1) := by decide +kernel
theorem dX4_obeys_320 : decode cX4_obeys 320 = .ok (.ifCond .ne 36, 3) := by decide +kernel
theorem dX4_obeys_323 : decode cX4_obeys 323 = .ok (.iload 4, 2) := by decide +kernel
theorem dX4_obeys_325 : decode cX4_obeys 325 = .ok (.ifCond .ne 31, 3) := by decide +kernel
theorem dX4_obeys_328 : decode cX4_obeys 328 = .ok (.aload_n 0, 1) := by decide +kernel
theorem dX4_obeys_329 : decode cX4_obeys 329 = .ok (.getfield 20, 3) := by decide +kernel
theorem dX4_obeys_332 : decode cX4_obeys 332 = .ok (.iload_n 2, 1) := by decide +kernel
theorem dX4_obeys_333 : decode cX4_obeys 333 = .ok (.invokevirtual 88, 3) := by decide +kernel
theorem dX4_obeys_336 : decode cX4_obeys 336 = .ok (.ifCond .eq 20, 3) := by decide +kernel
theorem dX4_obeys_339 : decode cX4_obeys 339 = .ok (.aload_n 0, 1) := by decide +kernel
theorem dX4_obeys_340 : decode cX4_obeys 340 = .ok (.getfield 39, 3) := by decide +kernel
theorem dX4_obeys_343 : decode cX4_obeys 343 = .ok (.iload_n 2, 1) := by decide +kernel
theorem dX4_obeys_344 : decode cX4_obeys 344 = .ok (.invokevirtual 92, 3) := by decide +kernel
theorem dX4_obeys_347 : decode cX4_obeys 347 = .ok (.iload 5, 2) := by decide +kernel
theorem dX4_obeys_349 : decode cX4_obeys 349 = .ok (.if_icmp .lt 7, 3) := by decide +kernel
theorem dX4_obeys_352 : decode cX4_obeys 352 = .ok (.iconst 1, 1) := by decide +kernel
theorem dX4_obeys_353 : decode cX4_obeys 353 = .ok (.goto 4, 3) := by decide +kernel
theorem dX4_obeys_356 : decode cX4_obeys 356 = .ok (.iconst 0, 1) := by decide +kernel
theorem dX4_obeys_357 : decode cX4_obeys 357 = .ok (.ireturn, 1) := by decide +kernel
theorem dX4_obeys_358 : decode cX4_obeys 358 = .ok (.iload_n 2, 1) := by decide +kernel
theorem dX4_obeys_359 : decode cX4_obeys 359 = .ok (.ifCond .ne 21, 3) := by decide +kernel
theorem dX4_obeys_362 : decode cX4_obeys 362 = .ok (.iload_n 3, 1) := by decide +kernel
theorem dX4_obeys_363 : decode cX4_obeys 363 = .ok (.ifCond .ne 17, 3) := by decide +kernel
theorem dX4_obeys_366 : decode cX4_obeys 366 = .ok (.aload_n 0, 1) := by decide +kernel
theorem dX4_obeys_367 : decode cX4_obeys 367 = .ok (.iconst 2, 1) := by decide +kernel
theorem dX4_obeys_368 : decode cX4_obeys 368 = .ok (.invokevirtual 182, 3) := by decide +kernel
theorem dX4_obeys_371 : decode cX4_obeys 371 = .ok (.iload 6, 2) := by decide +kernel
theorem dX4_obeys_373 : decode cX4_obeys 373 = .ok (.if_icmp .lt 7, 3) := by decide +kernel
theorem dX4_obeys_376 : decode cX4_obeys 376 = .ok (.iconst 1, 1) := by decide +kernel
theorem dX4_obeys_377 : decode cX4_obeys 377 = .ok (.goto 4, 3) := by decide +kernel
theorem dX4_obeys_380 : decode cX4_obeys 380 = .ok (.iconst 0, 1) := by decide +kernel
theorem dX4_obeys_381 : decode cX4_obeys 381 = .ok (.ireturn, 1) := by decide +kernel
theorem dX4_obeys_382 : decode cX4_obeys 382 = .ok (.iconst 0, 1) := by decide +kernel
theorem dX4_obeys_383 : decode cX4_obeys 383 = .ok (.ireturn, 1) := by decide +kernel
theorem dX4_obeysHold_0 : decode cX4_obeysHold 0 = .ok (.aload_n 0, 1) := by decide +kernel
theorem dX4_obeysHold_1 : decode cX4_obeysHold 1 = .ok (.getfield 26, 3) := by decide +kernel
theorem dX4_obeysHold_4 : decode cX4_obeysHold 4 = .ok (.iload_n 1, 1) := by decide +kernel
theorem dX4_obeysHold_5 : decode cX4_obeysHold 5 = .ok (.invokevirtual 88, 3) := by decide +kernel
theorem dX4_obeysHold_8 : decode cX4_obeysHold 8 = .ok (.ifCond .eq 13, 3) := by decide +kernel
theorem dX4_obeysHold_11 : decode cX4_obeysHold 11 = .ok (.iload_n 2, 1) := by decide +kernel
theorem dX4_obeysHold_12 : decode cX4_obeysHold 12 = .ok (.iconst 0, 1) := by decide +kernel
theorem dX4_obeysHold_13 : decode cX4_obeysHold 13 = .ok (.bipush 23, 2) := by decide +kernel
theorem dX4_obeysHold_15 : decode cX4_obeysHold 15 = .ok (.invokestatic 112, 3) := by decide +kernel
theorem dX4_obeysHold_18 : decode cX4_obeysHold 18 = .ok (.ifCond .ne 5, 3) := by decide +kernel
theorem dX4_obeysHold_21 : decode cX4_obeysHold 21 = .ok (.iconst 0, 1) := by decide +kernel
theorem dX4_obeysHold_22 : decode cX4_obeysHold 22 = .ok (.ireturn, 1) := by decide +kernel
theorem dX4_obeysHold_23 : decode cX4_obeysHold 23 = .ok (.aload_n 0, 1) := by decide +kernel
theorem dX4_obeysHold_24 : decode cX4_obeysHold 24 = .ok (.getfield 26, 3) := by decide +kernel
theorem dX4_obeysHold_27 : decode cX4_obeysHold 27 = .ok (.iload_n 1, 1) := by decide +kernel
theorem dX4_obeysHold_28 : decode cX4_obeysHold 28 = .ok (.iconst 1, 1) := by decide +kernel
theorem dX4_obeysHold_29 : decode cX4_obeysHold 29 = .ok (.iload_n 2, 1) := by decide +kernel
theorem dX4_obeysHold_30 : decode cX4_obeysHold 30 = .ok (.invokevirtual 74, 3) := by decide +kernel
theorem dX4_obeysHold_33 : decode cX4_obeysHold 33 = .ok (.iconst 1, 1) := by decide +kernel
theorem dX4_obeysHold_34 : decode cX4_obeysHold 34 = .ok (.ireturn, 1) := by decide +kernel
theorem dX4_obeysSupply_0 : decode cX4_obeysSupply 0 = .ok (.aload_n 0, 1) := by decide +kernel
theorem dX4_obeysSupply_1 : decode cX4_obeysSupply 1 = .ok (.getfield 23, 3) := by decide +kernel
theorem dX4_obeysSupply_4 : decode cX4_obeysSupply 4 = .ok (.iload_n 1, 1) := by decide +kernel
theorem dX4_obeysSupply_5 : decode cX4_obeysSupply 5 = .ok (.invokevirtual 88, 3) := by decide +kernel
theorem dX4_obeysSupply_8 : decode cX4_obeysSupply 8 = .ok (.ifCond .eq 31, 3) := by decide +kernel
theorem dX4_obeysSupply_11 : decode cX4_obeysSupply 11 = .ok (.iload_n 2, 1) := by decide +kernel
theorem dX4_obeysSupply_12 : decode cX4_obeysSupply 12 = .ok (.iconst 1, 1) := by decide +kernel
theorem dX4_obeysSupply_13 : decode cX4_obeysSupply 13 = .ok (.sipush 500, 3) := by decide +kernel
theorem dX4_obeysSupply_16 : decode cX4_obeysSupply 16 = .ok (.invokestatic 112, 3) := by decide +kernel
theorem dX4_obeysSupply_19 : decode cX4_obeysSupply 19 = .ok (.ifCond .eq 20, 3) := by decide +kernel
theorem dX4_obeysSupply_22 : decode cX4_obeysSupply 22 = .ok (.aload_n 0, 1) := by decide +kernel
theorem dX4_obeysSupply_23 : decode cX4_obeysSupply 23 = .ok (.getfield 23, 3) := by decide +kernel
theorem dX4_obeysSupply_26 : decode cX4_obeysSupply 26 = .ok (.iload_n 1, 1) := by decide +kernel
theorem dX4_obeysSupply_27 : decode cX4_obeysSupply 27 = .ok (.iconst 1, 1) := by decide +kernel
theorem dX4_obeysSupply_28 : decode cX4_obeysSupply 28 = .ok (.invokevirtual 96, 3) := by decide +kernel
theorem dX4_obeysSupply_31 : decode cX4_obeysSupply 31 = .ok (.iload_n 2, 1) := by decide +kernel
theorem dX4_obeysSupply_32 : decode cX4_obeysSupply 32 = .ok (.iadd, 1) := by decide +kernel
theorem dX4_obeysSupply_33 : decode cX4_obeysSupply 33 = .ok (.sipush 999, 3) := by decide +kernel
theorem dX4_obeysSupply_36 : decode cX4_obeysSupply 36 = .ok (.if_icmp .le 5, 3) := by decide +kernel
theorem dX4_obeysSupply_39 : decode cX4_obeysSupply 39 = .ok (.iconst 0, 1) := by decide +kernel
theorem dX4_obeysSupply_40 : decode cX4_obeysSupply 40 = .ok (.ireturn, 1) := by decide +kernel
theorem dX4_obeysSupply_41 : decode cX4_obeysSupply 41 = .ok (.aload_n 0, 1) := by decide +kernel
theorem dX4_obeysSupply_42 : decode cX4_obeysSupply 42 = .ok (.getfield 23, 3) := by decide +kernel
theorem dX4_obeysSupply_45 : decode cX4_obeysSupply 45 = .ok (.iload_n 1, 1) := by decide +kernel
theorem dX4_obeysSupply_46 : decode cX4_obeysSupply 46 = .ok (.iconst 1, 1) := by decide +kernel
theorem dX4_obeysSupply_47 : decode cX4_obeysSupply 47 = .ok (.iload_n 2, 1) := by decide +kernel
theorem dX4_obeysSupply_48 : decode cX4_obeysSupply 48 = .ok (.invokevirtual 126, 3) := by decide +kernel
theorem dX4_obeysSupply_51 : decode cX4_obeysSupply 51 = .ok (.iconst 1, 1) := by decide +kernel
theorem dX4_obeysSupply_52 : decode cX4_obeysSupply 52 = .ok (.ireturn, 1) := by decide +kernel
theorem dX4_meetChance_0 : decode cX4_meetChance 0 = .ok (.aload_n 0, 1) := by decide +kernel
theorem dX4_meetChance_1 : decode cX4_meetChance 1 = .ok (.getfield 26, 3) := by decide +kernel
theorem dX4_meetChance_4 : decode cX4_meetChance 4 = .ok (.invokevirtual 109, 3) := by decide +kernel
theorem dX4_meetChance_7 : decode cX4_meetChance 7 = .ok (.istore_n 2, 1) := by decide +kernel
theorem dX4_meetChance_8 : decode cX4_meetChance 8 = .ok (.aload_n 0, 1) := by decide +kernel
theorem dX4_meetChance_9 : decode cX4_meetChance 9 = .ok (.getfield 23, 3) := by decide +kernel
theorem dX4_meetChance_12 : decode cX4_meetChance 12 = .ok (.invokevirtual 109, 3) := by decide +kernel
theorem dX4_meetChance_15 : decode cX4_meetChance 15 = .ok (.istore_n 3, 1) := by decide +kernel
theorem dX4_meetChance_16 : decode cX4_meetChance 16 = .ok (.iload_n 1, 1) := by decide +kernel
theorem dX4_meetChance_17 : decode cX4_meetChance 17 = .ok (.iconst 5, 1) := by decide +kernel
theorem dX4_meetChance_18 : decode cX4_meetChance 18 = .ok (.irem, 1) := by decide +kernel
theorem dX4_meetChance_19 : decode cX4_meetChance 19 = .ok (.ifCond .ne 28, 3) := by decide +kernel
theorem dX4_meetChance_22 : decode cX4_meetChance 22 = .ok (.iload_n 2, 1) := by decide +kernel
theorem dX4_meetChance_23 : decode cX4_meetChance 23 = .ok (.ifCond .le 24, 3) := by decide +kernel
theorem dX4_meetChance_26 : decode cX4_meetChance 26 = .ok (.aload_n 0, 1) := by decide +kernel
theorem dX4_meetChance_27 : decode cX4_meetChance 27 = .ok (.getfield 26, 3) := by decide +kernel
theorem dX4_meetChance_30 : decode cX4_meetChance 30 = .ok (.iload_n 1, 1) := by decide +kernel
theorem dX4_meetChance_31 : decode cX4_meetChance 31 = .ok (.bipush 8, 2) := by decide +kernel
theorem dX4_meetChance_33 : decode cX4_meetChance 33 = .ok (.idiv, 1) := by decide +kernel
theorem dX4_meetChance_34 : decode cX4_meetChance 34 = .ok (.iload_n 2, 1) := by decide +kernel
theorem dX4_meetChance_35 : decode cX4_meetChance 35 = .ok (.irem, 1) := by decide +kernel
theorem dX4_meetChance_36 : decode cX4_meetChance 36 = .ok (.iconst 1, 1) := by decide +kernel
theorem dX4_meetChance_37 : decode cX4_meetChance 37 = .ok (.iload_n 1, 1) := by decide +kernel
theorem dX4_meetChance_38 : decode cX4_meetChance 38 = .ok (.bipush 64, 2) := by decide +kernel
theorem dX4_meetChance_40 : decode cX4_meetChance 40 = .ok (.idiv, 1) := by decide +kernel
theorem dX4_meetChance_41 : decode cX4_meetChance 41 = .ok (.bipush 6, 2) := by decide +kernel
theorem dX4_meetChance_43 : decode cX4_meetChance 43 = .ok (.irem, 1) := by decide +kernel
theorem dX4_meetChance_44 : decode cX4_meetChance 44 = .ok (.invokevirtual 74, 3) := by decide +kernel
theorem dX4_meetChance_47 : decode cX4_meetChance 47 = .ok (.iload_n 1, 1) := by decide +kernel
theorem dX4_meetChance_48 : decode cX4_meetChance 48 = .ok (.iconst 5, 1) := by decide +kernel
theorem dX4_meetChance_49 : decode cX4_meetChance 49 = .ok (.irem, 1) := by decide +kernel
theorem dX4_meetChance_50 : decode cX4_meetChance 50 = .ok (.iconst 1, 1) := by decide +kernel
theorem dX4_meetChance_51 : decode cX4_meetChance 51 = .ok (.if_icmp .ne 49, 3) := by decide +kernel
theorem dX4_meetChance_54 : decode cX4_meetChance 54 = .ok (.iload_n 3, 1) := by decide +kernel
theorem dX4_meetChance_55 : decode cX4_meetChance 55 = .ok (.ifCond .le 45, 3) := by decide +kernel
theorem dX4_meetChance_58 : decode cX4_meetChance 58 = .ok (.iload_n 1, 1) := by decide +kernel
theorem dX4_meetChance_59 : decode cX4_meetChance 59 = .ok (.bipush 8, 2) := by decide +kernel
theorem dX4_meetChance_61 : decode cX4_meetChance 61 = .ok (.idiv, 1) := by decide +kernel
theorem dX4_meetChance_62 : decode cX4_meetChance 62 = .ok (.iload_n 3, 1) := by decide +kernel
theorem dX4_meetChance_63 : decode cX4_meetChance 63 = .ok (.irem, 1) := by decide +kernel
theorem dX4_meetChance_64 : decode cX4_meetChance 64 = .ok (.istore 4, 2) := by decide +kernel
theorem dX4_meetChance_66 : decode cX4_meetChance 66 = .ok (.aload_n 0, 1) := by decide +kernel
theorem dX4_meetChance_67 : decode cX4_meetChance 67 = .ok (.getfield 23, 3) := by decide +kernel
theorem dX4_meetChance_70 : decode cX4_meetChance 70 = .ok (.iload 4, 2) := by decide +kernel
theorem dX4_meetChance_72 : decode cX4_meetChance 72 = .ok (.iconst 1, 1) := by decide +kernel
theorem dX4_meetChance_73 : decode cX4_meetChance 73 = .ok (.sipush 999, 3) := by decide +kernel
theorem dX4_meetChance_76 : decode cX4_meetChance 76 = .ok (.aload_n 0, 1) := by decide +kernel
theorem dX4_meetChance_77 : decode cX4_meetChance 77 = .ok (.getfield 23, 3) := by decide +kernel
theorem dX4_meetChance_80 : decode cX4_meetChance 80 = .ok (.iload 4, 2) := by decide +kernel
theorem dX4_meetChance_82 : decode cX4_meetChance 82 = .ok (.iconst 1, 1) := by decide +kernel
theorem dX4_meetChance_83 : decode cX4_meetChance 83 = .ok (.invokevirtual 96, 3) := by decide +kernel
theorem dX4_meetChance_86 : decode cX4_meetChance 86 = .ok (.iload_n 1, 1) := by decide +kernel
theorem dX4_meetChance_87 : decode cX4_meetChance 87 = .ok (.bipush 64, 2) := by decide +kernel
theorem dX4_meetChance_89 : decode cX4_meetChance 89 = .ok (.idiv, 1) := by decide +kernel
theorem dX4_meetChance_90 : decode cX4_meetChance 90 = .ok (.bipush 30, 2) := by decide +kernel
theorem dX4_meetChance_92 : decode cX4_meetChance 92 = .ok (.irem, 1) := by decide +kernel
theorem dX4_meetChance_93 : decode cX4_meetChance 93 = .ok (.iadd, 1) := by decide +kernel
theorem dX4_meetChance_94 : decode cX4_meetChance 94 = .ok (.invokestatic 106, 3) := by decide +kernel
theorem dX4_meetChance_97 : decode cX4_meetChance 97 = .ok (.invokevirtual 74, 3) := by decide +kernel
theorem dX4_meetChance_100 : decode cX4_meetChance 100 = .ok (.return_, 1) := by decide +kernel
theorem dX5_init_0 : decode cX5_init 0 = .ok (.aload_n 0, 1) := by decide +kernel
theorem dX5_init_1 : decode cX5_init 1 = .ok (.invokespecial 3, 3) := by decide +kernel
theorem dX5_init_4 : decode cX5_init 4 = .ok (.aload_n 0, 1) := by decide +kernel
theorem dX5_init_5 : decode cX5_init 5 = .ok (.iload_n 1, 1) := by decide +kernel
theorem dX5_init_6 : decode cX5_init 6 = .ok (.putfield 9, 3) := by decide +kernel
theorem dX5_init_9 : decode cX5_init 9 = .ok (.aload_n 0, 1) := by decide +kernel
theorem dX5_init_10 : decode cX5_init 10 = .ok (.iload_n 2, 1) := by decide +kernel
theorem dX5_init_11 : decode cX5_init 11 = .ok (.putfield 15, 3) := by decide +kernel
theorem dX5_init_14 : decode cX5_init 14 = .ok (.aload_n 0, 1) := by decide +kernel
theorem dX5_init_15 : decode cX5_init 15 = .ok (.iconst 0, 1) := by decide +kernel
theorem dX5_init_16 : decode cX5_init 16 = .ok (.iload_n 1, 1) := by decide +kernel
theorem dX5_init_17 : decode cX5_init 17 = .ok (.iload_n 2, 1) := by decide +kernel
theorem dX5_init_18 : decode cX5_init 18 = .ok (.imul, 1) := by decide +kernel
theorem dX5_init_19 : decode cX5_init 19 = .ok (.invokestatic 18, 3) := by decide +kernel
theorem dX5_init_22 : decode cX5_init 22 = .ok (.newarray .int, 2) := by decide +kernel
theorem dX5_init_24 : decode cX5_init 24 = .ok (.putfield 24, 3) := by decide +kernel
theorem dX5_init_27 : decode cX5_init 27 = .ok (.return_, 1) := by decide +kernel
theorem dX5_count_0 : decode cX5_count 0 = .ok (.aload_n 0, 1) := by decide +kernel
theorem dX5_count_1 : decode cX5_count 1 = .ok (.getfield 28, 3) := by decide +kernel
theorem dX5_count_4 : decode cX5_count 4 = .ok (.ireturn, 1) := by decide +kernel
theorem dX5_isFull_0 : decode cX5_isFull 0 = .ok (.aload_n 0, 1) := by decide +kernel
theorem dX5_isFull_1 : decode cX5_isFull 1 = .ok (.getfield 28, 3) := by decide +kernel
theorem dX5_isFull_4 : decode cX5_isFull 4 = .ok (.aload_n 0, 1) := by decide +kernel
theorem dX5_isFull_5 : decode cX5_isFull 5 = .ok (.getfield 9, 3) := by decide +kernel
theorem dX5_isFull_8 : decode cX5_isFull 8 = .ok (.if_icmp .lt 7, 3) := by decide +kernel
theorem dX5_isFull_11 : decode cX5_isFull 11 = .ok (.iconst 1, 1) := by decide +kernel
theorem dX5_isFull_12 : decode cX5_isFull 12 = .ok (.goto 4, 3) := by decide +kernel
theorem dX5_isFull_15 : decode cX5_isFull 15 = .ok (.iconst 0, 1) := by decide +kernel
theorem dX5_isFull_16 : decode cX5_isFull 16 = .ok (.ireturn, 1) := by decide +kernel
theorem dX5_has_0 : decode cX5_has 0 = .ok (.iload_n 1, 1) := by decide +kernel
theorem dX5_has_1 : decode cX5_has 1 = .ok (.ifCond .lt 15, 3) := by decide +kernel
theorem dX5_has_4 : decode cX5_has 4 = .ok (.iload_n 1, 1) := by decide +kernel
theorem dX5_has_5 : decode cX5_has 5 = .ok (.aload_n 0, 1) := by decide +kernel
theorem dX5_has_6 : decode cX5_has 6 = .ok (.getfield 28, 3) := by decide +kernel
theorem dX5_has_9 : decode cX5_has 9 = .ok (.if_icmp .ge 7, 3) := by decide +kernel
theorem dX5_has_12 : decode cX5_has 12 = .ok (.iconst 1, 1) := by decide +kernel
theorem dX5_has_13 : decode cX5_has 13 = .ok (.goto 4, 3) := by decide +kernel
theorem dX5_has_16 : decode cX5_has 16 = .ok (.iconst 0, 1) := by decide +kernel
theorem dX5_has_17 : decode cX5_has 17 = .ok (.ireturn, 1) := by decide +kernel
theorem dX5_get_0 : decode cX5_get 0 = .ok (.iload_n 1, 1) := by decide +kernel
theorem dX5_get_1 : decode cX5_get 1 = .ok (.aload_n 0, 1) := by decide +kernel
theorem dX5_get_2 : decode cX5_get 2 = .ok (.getfield 15, 3) := by decide +kernel
theorem dX5_get_5 : decode cX5_get 5 = .ok (.imul, 1) := by decide +kernel
theorem dX5_get_6 : decode cX5_get 6 = .ok (.iload_n 2, 1) := by decide +kernel
theorem dX5_get_7 : decode cX5_get 7 = .ok (.iadd, 1) := by decide +kernel
theorem dX5_get_8 : decode cX5_get 8 = .ok (.istore_n 3, 1) := by decide +kernel
theorem dX5_get_9 : decode cX5_get 9 = .ok (.iload_n 1, 1) := by decide +kernel
theorem dX5_get_10 : decode cX5_get 10 = .ok (.ifCond .lt 27, 3) := by decide +kernel
theorem dX5_get_13 : decode cX5_get 13 = .ok (.iload_n 1, 1) := by decide +kernel
theorem dX5_get_14 : decode cX5_get 14 = .ok (.aload_n 0, 1) := by decide +kernel
theorem dX5_get_15 : decode cX5_get 15 = .ok (.getfield 28, 3) := by decide +kernel
theorem dX5_get_18 : decode cX5_get 18 = .ok (.if_icmp .ge 19, 3) := by decide +kernel
theorem dX5_get_21 : decode cX5_get 21 = .ok (.iload_n 2, 1) := by decide +kernel
theorem dX5_get_22 : decode cX5_get 22 = .ok (.ifCond .lt 15, 3) := by decide +kernel
theorem dX5_get_25 : decode cX5_get 25 = .ok (.iload_n 2, 1) := by decide +kernel
theorem dX5_get_26 : decode cX5_get 26 = .ok (.aload_n 0, 1) := by decide +kernel
theorem dX5_get_27 : decode cX5_get 27 = .ok (.getfield 15, 3) := by decide +kernel
theorem dX5_get_30 : decode cX5_get 30 = .ok (.if_icmp .ge 7, 3) := by decide +kernel
theorem dX5_get_33 : decode cX5_get 33 = .ok (.iconst 1, 1) := by decide +kernel
theorem dX5_get_34 : decode cX5_get 34 = .ok (.goto 4, 3) := by decide +kernel
theorem dX5_get_37 : decode cX5_get 37 = .ok (.iconst 0, 1) := by decide +kernel
theorem dX5_get_38 : decode cX5_get 38 = .ok (.istore 4, 2) := by decide +kernel
theorem dX5_get_40 : decode cX5_get 40 = .ok (.iload 4, 2) := by decide +kernel
theorem dX5_get_42 : decode cX5_get 42 = .ok (.ifCond .eq 25, 3) := by decide +kernel
theorem dX5_get_45 : decode cX5_get 45 = .ok (.iload_n 3, 1) := by decide +kernel
theorem dX5_get_46 : decode cX5_get 46 = .ok (.ifCond .lt 21, 3) := by decide +kernel
theorem dX5_get_49 : decode cX5_get 49 = .ok (.iload_n 3, 1) := by decide +kernel
theorem dX5_get_50 : decode cX5_get 50 = .ok (.aload_n 0, 1) := by decide +kernel
theorem dX5_get_51 : decode cX5_get 51 = .ok (.getfield 24, 3) := by decide +kernel
theorem dX5_get_54 : decode cX5_get 54 = .ok (.arraylength, 1) := by decide +kernel
theorem dX5_get_55 : decode cX5_get 55 = .ok (.if_icmp .ge 12, 3) := by decide +kernel
theorem dX5_get_58 : decode cX5_get 58 = .ok (.aload_n 0, 1) := by decide +kernel
theorem dX5_get_59 : decode cX5_get 59 = .ok (.getfield 24, 3) := by decide +kernel
theorem dX5_get_62 : decode cX5_get 62 = .ok (.iload_n 3, 1) := by decide +kernel
theorem dX5_get_63 : decode cX5_get 63 = .ok (.iaload, 1) := by decide +kernel
theorem dX5_get_64 : decode cX5_get 64 = .ok (.goto 5, 3) := by decide +kernel
theorem dX5_get_67 : decode cX5_get 67 = .ok (.bipush (-9), 2) := by decide +kernel
theorem dX5_get_69 : decode cX5_get 69 = .ok (.ireturn, 1) := by decide +kernel
theorem dX5_put_0 : decode cX5_put 0 = .ok (.iload_n 1, 1) := by decide +kernel
theorem dX5_put_1 : decode cX5_put 1 = .ok (.aload_n 0, 1) := by decide +kernel
theorem dX5_put_2 : decode cX5_put 2 = .ok (.getfield 15, 3) := by decide +kernel
theorem dX5_put_5 : decode cX5_put 5 = .ok (.imul, 1) := by decide +kernel
theorem dX5_put_6 : decode cX5_put 6 = .ok (.iload_n 2, 1) := by decide +kernel
theorem dX5_put_7 : decode cX5_put 7 = .ok (.iadd, 1) := by decide +kernel
theorem dX5_put_8 : decode cX5_put 8 = .ok (.istore 4, 2) := by decide +kernel
theorem dX5_put_10 : decode cX5_put 10 = .ok (.iload_n 1, 1) := by decide +kernel
theorem dX5_put_11 : decode cX5_put 11 = .ok (.ifCond .lt 27, 3) := by decide +kernel
theorem dX5_put_14 : decode cX5_put 14 = .ok (.iload_n 1, 1) := by decide +kernel
theorem dX5_put_15 : decode cX5_put 15 = .ok (.aload_n 0, 1) := by decide +kernel
theorem dX5_put_16 : decode cX5_put 16 = .ok (.getfield 28, 3) := by decide +kernel
theorem dX5_put_19 : decode cX5_put 19 = .ok (.if_icmp .ge 19, 3) := by decide +kernel
theorem dX5_put_22 : decode cX5_put 22 = .ok (.iload_n 2, 1) := by decide +kernel
theorem dX5_put_23 : decode cX5_put 23 = .ok (.ifCond .lt 15, 3) := by decide +kernel
theorem dX5_put_26 : decode cX5_put 26 = .ok (.iload_n 2, 1) := by decide +kernel
theorem dX5_put_27 : decode cX5_put 27 = .ok (.aload_n 0, 1) := by decide +kernel
theorem dX5_put_28 : decode cX5_put 28 = .ok (.getfield 15, 3) := by decide +kernel
theorem dX5_put_31 : decode cX5_put 31 = .ok (.if_icmp .ge 7, 3) := by decide +kernel
theorem dX5_put_34 : decode cX5_put 34 = .ok (.iconst 1, 1) := by decide +kernel
theorem dX5_put_35 : decode cX5_put 35 = .ok (.goto 4, 3) := by decide +kernel
theorem dX5_put_38 : decode cX5_put 38 = .ok (.iconst 0, 1) := by decide +kernel
theorem dX5_put_39 : decode cX5_put 39 = .ok (.istore 5, 2) := by decide +kernel
theorem dX5_put_41 : decode cX5_put 41 = .ok (.iload 5, 2) := by decide +kernel
theorem dX5_put_43 : decode cX5_put 43 = .ok (.ifCond .eq 26, 3) := by decide +kernel
theorem dX5_put_46 : decode cX5_put 46 = .ok (.iload 4, 2) := by decide +kernel
theorem dX5_put_48 : decode cX5_put 48 = .ok (.ifCond .lt 21, 3) := by decide +kernel
theorem dX5_put_51 : decode cX5_put 51 = .ok (.iload 4, 2) := by decide +kernel
theorem dX5_put_53 : decode cX5_put 53 = .ok (.aload_n 0, 1) := by decide +kernel
theorem dX5_put_54 : decode cX5_put 54 = .ok (.getfield 24, 3) := by decide +kernel
theorem dX5_put_57 : decode cX5_put 57 = .ok (.arraylength, 1) := by decide +kernel
theorem dX5_put_58 : decode cX5_put 58 = .ok (.if_icmp .ge 11, 3) := by decide +kernel
theorem dX5_put_61 : decode cX5_put 61 = .ok (.aload_n 0, 1) := by decide +kernel
theorem dX5_put_62 : decode cX5_put 62 = .ok (.getfield 24, 3) := by decide +kernel
theorem dX5_put_65 : decode cX5_put 65 = .ok (.iload 4, 2) := by decide +kernel
theorem dX5_put_67 : decode cX5_put 67 = .ok (.iload_n 3, 1) := by decide +kernel
theorem dX5_put_68 : decode cX5_put 68 = .ok (.iastore, 1) := by decide +kernel
theorem dX5_put_69 : decode cX5_put 69 = .ok (.return_, 1) := by decide +kernel
theorem dX5_raise_0 : decode cX5_raise 0 = .ok (.iload_n 1, 1) := by decide +kernel
theorem dX5_raise_1 : decode cX5_raise 1 = .ok (.aload_n 0, 1) := by decide +kernel
theorem dX5_raise_2 : decode cX5_raise 2 = .ok (.getfield 15, 3) := by decide +kernel
theorem dX5_raise_5 : decode cX5_raise 5 = .ok (.imul, 1) := by decide +kernel
theorem dX5_raise_6 : decode cX5_raise 6 = .ok (.iload_n 2, 1) := by decide +kernel
theorem dX5_raise_7 : decode cX5_raise 7 = .ok (.iadd, 1) := by decide +kernel
theorem dX5_raise_8 : decode cX5_raise 8 = .ok (.istore 4, 2) := by decide +kernel
theorem dX5_raise_10 : decode cX5_raise 10 = .ok (.iload_n 1, 1) := by decide +kernel
theorem dX5_raise_11 : decode cX5_raise 11 = .ok (.ifCond .lt 27, 3) := by decide +kernel
theorem dX5_raise_14 : decode cX5_raise 14 = .ok (.iload_n 1, 1) := by decide +kernel
theorem dX5_raise_15 : decode cX5_raise 15 = .ok (.aload_n 0, 1) := by decide +kernel
theorem dX5_raise_16 : decode cX5_raise 16 = .ok (.getfield 28, 3) := by decide +kernel
theorem dX5_raise_19 : decode cX5_raise 19 = .ok (.if_icmp .ge 19, 3) := by decide +kernel
theorem dX5_raise_22 : decode cX5_raise 22 = .ok (.iload_n 2, 1) := by decide +kernel
theorem dX5_raise_23 : decode cX5_raise 23 = .ok (.ifCond .lt 15, 3) := by decide +kernel
theorem dX5_raise_26 : decode cX5_raise 26 = .ok (.iload_n 2, 1) := by decide +kernel
theorem dX5_raise_27 : decode cX5_raise 27 = .ok (.aload_n 0, 1) := by decide +kernel
theorem dX5_raise_28 : decode cX5_raise 28 = .ok (.getfield 15, 3) := by decide +kernel
theorem dX5_raise_31 : decode cX5_raise 31 = .ok (.if_icmp .ge 7, 3) := by decide +kernel
theorem dX5_raise_34 : decode cX5_raise 34 = .ok (.iconst 1, 1) := by decide +kernel
theorem dX5_raise_35 : decode cX5_raise 35 = .ok (.goto 4, 3) := by decide +kernel
theorem dX5_raise_38 : decode cX5_raise 38 = .ok (.iconst 0, 1) := by decide +kernel
theorem dX5_raise_39 : decode cX5_raise 39 = .ok (.istore 5, 2) := by decide +kernel
theorem dX5_raise_41 : decode cX5_raise 41 = .ok (.iload 5, 2) := by decide +kernel
theorem dX5_raise_43 : decode cX5_raise 43 = .ok (.ifCond .eq 29, 3) := by decide +kernel
theorem dX5_raise_46 : decode cX5_raise 46 = .ok (.iload 4, 2) := by decide +kernel
theorem dX5_raise_48 : decode cX5_raise 48 = .ok (.ifCond .lt 24, 3) := by decide +kernel
theorem dX5_raise_51 : decode cX5_raise 51 = .ok (.iload 4, 2) := by decide +kernel
theorem dX5_raise_53 : decode cX5_raise 53 = .ok (.aload_n 0, 1) := by decide +kernel
theorem dX5_raise_54 : decode cX5_raise 54 = .ok (.getfield 24, 3) := by decide +kernel
theorem dX5_raise_57 : decode cX5_raise 57 = .ok (.arraylength, 1) := by decide +kernel
theorem dX5_raise_58 : decode cX5_raise 58 = .ok (.if_icmp .ge 14, 3) := by decide +kernel
theorem dX5_raise_61 : decode cX5_raise 61 = .ok (.aload_n 0, 1) := by decide +kernel
theorem dX5_raise_62 : decode cX5_raise 62 = .ok (.getfield 24, 3) := by decide +kernel
theorem dX5_raise_65 : decode cX5_raise 65 = .ok (.iload 4, 2) := by decide +kernel
theorem dX5_raise_67 : decode cX5_raise 67 = .ok (.dup2, 1) := by decide +kernel
theorem dX5_raise_68 : decode cX5_raise 68 = .ok (.iaload, 1) := by decide +kernel
theorem dX5_raise_69 : decode cX5_raise 69 = .ok (.iload_n 3, 1) := by decide +kernel
theorem dX5_raise_70 : decode cX5_raise 70 = .ok (.iadd, 1) := by decide +kernel
theorem dX5_raise_71 : decode cX5_raise 71 = .ok (.iastore, 1) := by decide +kernel
theorem dX5_raise_72 : decode cX5_raise 72 = .ok (.return_, 1) := by decide +kernel
theorem dX5_addRow_0 : decode cX5_addRow 0 = .ok (.aload_n 0, 1) := by decide +kernel
theorem dX5_addRow_1 : decode cX5_addRow 1 = .ok (.getfield 28, 3) := by decide +kernel
theorem dX5_addRow_4 : decode cX5_addRow 4 = .ok (.aload_n 0, 1) := by decide +kernel
theorem dX5_addRow_5 : decode cX5_addRow 5 = .ok (.getfield 9, 3) := by decide +kernel
theorem dX5_addRow_8 : decode cX5_addRow 8 = .ok (.if_icmp .lt 6, 3) := by decide +kernel
theorem dX5_addRow_11 : decode cX5_addRow 11 = .ok (.bipush (-9), 2) := by decide +kernel
theorem dX5_addRow_13 : decode cX5_addRow 13 = .ok (.ireturn, 1) := by decide +kernel
theorem dX5_addRow_14 : decode cX5_addRow 14 = .ok (.aload_n 0, 1) := by decide +kernel
theorem dX5_addRow_15 : decode cX5_addRow 15 = .ok (.dup, 1) := by decide +kernel
theorem dX5_addRow_16 : decode cX5_addRow 16 = .ok (.getfield 28, 3) := by decide +kernel
theorem dX5_addRow_19 : decode cX5_addRow 19 = .ok (.iconst 1, 1) := by decide +kernel
theorem dX5_addRow_20 : decode cX5_addRow 20 = .ok (.iadd, 1) := by decide +kernel
theorem dX5_addRow_21 : decode cX5_addRow 21 = .ok (.putfield 28, 3) := by decide +kernel
theorem dX5_addRow_24 : decode cX5_addRow 24 = .ok (.iconst 0, 1) := by decide +kernel
theorem dX5_addRow_25 : decode cX5_addRow 25 = .ok (.istore_n 1, 1) := by decide +kernel
theorem dX5_addRow_26 : decode cX5_addRow 26 = .ok (.iload_n 1, 1) := by decide +kernel
theorem dX5_addRow_27 : decode cX5_addRow 27 = .ok (.aload_n 0, 1) := by decide +kernel
theorem dX5_addRow_28 : decode cX5_addRow 28 = .ok (.getfield 15, 3) := by decide +kernel
theorem dX5_addRow_31 : decode cX5_addRow 31 = .ok (.if_icmp .ge 21, 3) := by decide +kernel
theorem dX5_addRow_34 : decode cX5_addRow 34 = .ok (.aload_n 0, 1) := by decide +kernel
theorem dX5_addRow_35 : decode cX5_addRow 35 = .ok (.aload_n 0, 1) := by decide +kernel
theorem dX5_addRow_36 : decode cX5_addRow 36 = .ok (.getfield 28, 3) := by decide +kernel
theorem dX5_addRow_39 : decode cX5_addRow 39 = .ok (.iconst 1, 1) := by decide +kernel
theorem dX5_addRow_40 : decode cX5_addRow 40 = .ok (.isub, 1) := by decide +kernel
theorem dX5_addRow_41 : decode cX5_addRow 41 = .ok (.iload_n 1, 1) := by decide +kernel
theorem dX5_addRow_42 : decode cX5_addRow 42 = .ok (.iconst 0, 1) := by decide +kernel
theorem dX5_addRow_43 : decode cX5_addRow 43 = .ok (.invokevirtual 31, 3) := by decide +kernel
theorem dX5_addRow_46 : decode cX5_addRow 46 = .ok (.iinc 1 1, 3) := by decide +kernel
theorem dX5_addRow_49 : decode cX5_addRow 49 = .ok (.goto (-23), 3) := by decide +kernel
theorem dX5_addRow_52 : decode cX5_addRow 52 = .ok (.aload_n 0, 1) := by decide +kernel
theorem dX5_addRow_53 : decode cX5_addRow 53 = .ok (.getfield 28, 3) := by decide +kernel
theorem dX5_addRow_56 : decode cX5_addRow 56 = .ok (.iconst 1, 1) := by decide +kernel
theorem dX5_addRow_57 : decode cX5_addRow 57 = .ok (.isub, 1) := by decide +kernel
theorem dX5_addRow_58 : decode cX5_addRow 58 = .ok (.ireturn, 1) := by decide +kernel
theorem dX5_rowAt_0 : decode cX5_rowAt 0 = .ok (.iconst 0, 1) := by decide +kernel
theorem dX5_rowAt_1 : decode cX5_rowAt 1 = .ok (.istore_n 2, 1) := by decide +kernel
theorem dX5_rowAt_2 : decode cX5_rowAt 2 = .ok (.iload_n 2, 1) := by decide +kernel
theorem dX5_rowAt_3 : decode cX5_rowAt 3 = .ok (.aload_n 0, 1) := by decide +kernel
theorem dX5_rowAt_4 : decode cX5_rowAt 4 = .ok (.getfield 28, 3) := by decide +kernel
theorem dX5_rowAt_7 : decode cX5_rowAt 7 = .ok (.if_icmp .ge 21, 3) := by decide +kernel
theorem dX5_rowAt_10 : decode cX5_rowAt 10 = .ok (.aload_n 0, 1) := by decide +kernel
theorem dX5_rowAt_11 : decode cX5_rowAt 11 = .ok (.iload_n 2, 1) := by decide +kernel
theorem dX5_rowAt_12 : decode cX5_rowAt 12 = .ok (.iconst 0, 1) := by decide +kernel
theorem dX5_rowAt_13 : decode cX5_rowAt 13 = .ok (.invokevirtual 35, 3) := by decide +kernel
theorem dX5_rowAt_16 : decode cX5_rowAt 16 = .ok (.iload_n 1, 1) := by decide +kernel
theorem dX5_rowAt_17 : decode cX5_rowAt 17 = .ok (.if_icmp .ne 5, 3) := by decide +kernel
theorem dX5_rowAt_20 : decode cX5_rowAt 20 = .ok (.iload_n 2, 1) := by decide +kernel
theorem dX5_rowAt_21 : decode cX5_rowAt 21 = .ok (.ireturn, 1) := by decide +kernel
theorem dX5_rowAt_22 : decode cX5_rowAt 22 = .ok (.iinc 2 1, 3) := by decide +kernel
theorem dX5_rowAt_25 : decode cX5_rowAt 25 = .ok (.goto (-23), 3) := by decide +kernel
theorem dX5_rowAt_28 : decode cX5_rowAt 28 = .ok (.bipush (-9), 2) := by decide +kernel
theorem dX5_rowAt_30 : decode cX5_rowAt 30 = .ok (.ireturn, 1) := by decide +kernel
theorem dX5_sum_0 : decode cX5_sum 0 = .ok (.iconst 0, 1) := by decide +kernel
theorem dX5_sum_1 : decode cX5_sum 1 = .ok (.istore_n 2, 1) := by decide +kernel
theorem dX5_sum_2 : decode cX5_sum 2 = .ok (.iconst 0, 1) := by decide +kernel
theorem dX5_sum_3 : decode cX5_sum 3 = .ok (.istore_n 3, 1) := by decide +kernel
theorem dX5_sum_4 : decode cX5_sum 4 = .ok (.iload_n 3, 1) := by decide +kernel
theorem dX5_sum_5 : decode cX5_sum 5 = .ok (.aload_n 0, 1) := by decide +kernel
theorem dX5_sum_6 : decode cX5_sum 6 = .ok (.getfield 28, 3) := by decide +kernel
theorem dX5_sum_9 : decode cX5_sum 9 = .ok (.if_icmp .ge 18, 3) := by decide +kernel
theorem dX5_sum_12 : decode cX5_sum 12 = .ok (.iload_n 2, 1) := by decide +kernel
theorem dX5_sum_13 : decode cX5_sum 13 = .ok (.aload_n 0, 1) := by decide +kernel
theorem dX5_sum_14 : decode cX5_sum 14 = .ok (.iload_n 3, 1) := by decide +kernel
theorem dX5_sum_15 : decode cX5_sum 15 = .ok (.iload_n 1, 1) := by decide +kernel
theorem dX5_sum_16 : decode cX5_sum 16 = .ok (.invokevirtual 35, 3) := by decide +kernel
theorem dX5_sum_19 : decode cX5_sum 19 = .ok (.iadd, 1) := by decide +kernel
theorem dX5_sum_20 : decode cX5_sum 20 = .ok (.istore_n 2, 1) := by decide +kernel
theorem dX5_sum_21 : decode cX5_sum 21 = .ok (.iinc 3 1, 3) := by decide +kernel
theorem dX5_sum_24 : decode cX5_sum 24 = .ok (.goto (-20), 3) := by decide +kernel
theorem dX5_sum_27 : decode cX5_sum 27 = .ok (.iload_n 2, 1) := by decide +kernel
theorem dX5_sum_28 : decode cX5_sum 28 = .ok (.ireturn, 1) := by decide +kernel
theorem dX5_emptyOut_0 : decode cX5_emptyOut 0 = .ok (.aload_n 0, 1) := by decide +kernel
theorem dX5_emptyOut_1 : decode cX5_emptyOut 1 = .ok (.iconst 0, 1) := by decide +kernel
theorem dX5_emptyOut_2 : decode cX5_emptyOut 2 = .ok (.putfield 28, 3) := by decide +kernel
theorem dX5_emptyOut_5 : decode cX5_emptyOut 5 = .ok (.return_, 1) := by decide +kernel
theorem dX5_copyFrom_0 : decode cX5_copyFrom 0 = .ok (.aload_n 0, 1) := by decide +kernel
theorem dX5_copyFrom_1 : decode cX5_copyFrom 1 = .ok (.aload_n 1, 1) := by decide +kernel
theorem dX5_copyFrom_2 : decode cX5_copyFrom 2 = .ok (.getfield 28, 3) := by decide +kernel
theorem dX5_copyFrom_5 : decode cX5_copyFrom 5 = .ok (.putfield 28, 3) := by decide +kernel
theorem dX5_copyFrom_8 : decode cX5_copyFrom 8 = .ok (.aload_n 1, 1) := by decide +kernel
theorem dX5_copyFrom_9 : decode cX5_copyFrom 9 = .ok (.getfield 24, 3) := by decide +kernel
theorem dX5_copyFrom_12 : decode cX5_copyFrom 12 = .ok (.iconst 0, 1) := by decide +kernel
theorem dX5_copyFrom_13 : decode cX5_copyFrom 13 = .ok (.aload_n 0, 1) := by decide +kernel
theorem dX5_copyFrom_14 : decode cX5_copyFrom 14 = .ok (.getfield 24, 3) := by decide +kernel
theorem dX5_copyFrom_17 : decode cX5_copyFrom 17 = .ok (.iconst 0, 1) := by decide +kernel
theorem dX5_copyFrom_18 : decode cX5_copyFrom 18 = .ok (.aload_n 1, 1) := by decide +kernel
theorem dX5_copyFrom_19 : decode cX5_copyFrom 19 = .ok (.getfield 24, 3) := by decide +kernel
theorem dX5_copyFrom_22 : decode cX5_copyFrom 22 = .ok (.arraylength, 1) := by decide +kernel
theorem dX5_copyFrom_23 : decode cX5_copyFrom 23 = .ok (.aload_n 0, 1) := by decide +kernel
theorem dX5_copyFrom_24 : decode cX5_copyFrom 24 = .ok (.getfield 24, 3) := by decide +kernel
theorem dX5_copyFrom_27 : decode cX5_copyFrom 27 = .ok (.arraylength, 1) := by decide +kernel
theorem dX5_copyFrom_28 : decode cX5_copyFrom 28 = .ok (.invokestatic 38, 3) := by decide +kernel
theorem dX5_copyFrom_31 : decode cX5_copyFrom 31 = .ok (.invokestatic 41, 3) := by decide +kernel
theorem dX5_copyFrom_34 : decode cX5_copyFrom 34 = .ok (.return_, 1) := by decide +kernel
theorem dX6_init_0 : decode cX6_init 0 = .ok (.aload_n 0, 1) := by decide +kernel
theorem dX6_init_1 : decode cX6_init 1 = .ok (.invokespecial 1, 3) := by decide +kernel
theorem dX6_init_4 : decode cX6_init 4 = .ok (.aload_n 0, 1) := by decide +kernel
theorem dX6_init_5 : decode cX6_init 5 = .ok (.new 7, 3) := by decide +kernel
theorem dX6_init_8 : decode cX6_init 8 = .ok (.dup, 1) := by decide +kernel
theorem dX6_init_9 : decode cX6_init 9 = .ok (.invokespecial 9, 3) := by decide +kernel
theorem dX6_init_12 : decode cX6_init 12 = .ok (.putfield 10, 3) := by decide +kernel
theorem dX6_init_15 : decode cX6_init 15 = .ok (.aload_n 0, 1) := by decide +kernel
theorem dX6_init_16 : decode cX6_init 16 = .ok (.new 16, 3) := by decide +kernel
theorem dX6_init_19 : decode cX6_init 19 = .ok (.dup, 1) := by decide +kernel
theorem dX6_init_20 : decode cX6_init 20 = .ok (.invokespecial 18, 3) := by decide +kernel
theorem dX6_init_23 : decode cX6_init 23 = .ok (.putfield 19, 3) := by decide +kernel
theorem dX6_init_26 : decode cX6_init 26 = .ok (.aload_n 0, 1) := by decide +kernel
theorem dX6_init_27 : decode cX6_init 27 = .ok (.new 16, 3) := by decide +kernel
theorem dX6_init_30 : decode cX6_init 30 = .ok (.dup, 1) := by decide +kernel
theorem dX6_init_31 : decode cX6_init 31 = .ok (.invokespecial 18, 3) := by decide +kernel
theorem dX6_init_34 : decode cX6_init 34 = .ok (.putfield 23, 3) := by decide +kernel
theorem dX6_init_37 : decode cX6_init 37 = .ok (.aload_n 0, 1) := by decide +kernel
theorem dX6_init_38 : decode cX6_init 38 = .ok (.new 26, 3) := by decide +kernel
theorem dX6_init_41 : decode cX6_init 41 = .ok (.dup, 1) := by decide +kernel
theorem dX6_init_42 : decode cX6_init 42 = .ok (.invokespecial 28, 3) := by decide +kernel
theorem dX6_init_45 : decode cX6_init 45 = .ok (.putfield 29, 3) := by decide +kernel
theorem dX6_init_48 : decode cX6_init 48 = .ok (.aload_n 0, 1) := by decide +kernel
theorem dX6_init_49 : decode cX6_init 49 = .ok (.new 33, 3) := by decide +kernel
theorem dX6_init_52 : decode cX6_init 52 = .ok (.dup, 1) := by decide +kernel
theorem dX6_init_53 : decode cX6_init 53 = .ok (.iconst 2, 1) := by decide +kernel
theorem dX6_init_54 : decode cX6_init 54 = .ok (.invokespecial 35, 3) := by decide +kernel
theorem dX6_init_57 : decode cX6_init 57 = .ok (.putfield 38, 3) := by decide +kernel
theorem dX6_init_60 : decode cX6_init 60 = .ok (.aload_n 0, 1) := by decide +kernel
theorem dX6_init_61 : decode cX6_init 61 = .ok (.getfield 19, 3) := by decide +kernel
theorem dX6_init_64 : decode cX6_init 64 = .ok (.bipush 20, 2) := by decide +kernel
theorem dX6_init_66 : decode cX6_init 66 = .ok (.invokevirtual 42, 3) := by decide +kernel
theorem dX6_init_69 : decode cX6_init 69 = .ok (.return_, 1) := by decide +kernel
theorem dX6_append_0 : decode cX6_append 0 = .ok (.iload_n 1, 1) := by decide +kernel
theorem dX6_append_1 : decode cX6_append 1 = .ok (.iconst 0, 1) := by decide +kernel
theorem dX6_append_2 : decode cX6_append 2 = .ok (.sipush 255, 3) := by decide +kernel
theorem dX6_append_5 : decode cX6_append 5 = .ok (.invokestatic 45, 3) := by decide +kernel
theorem dX6_append_8 : decode cX6_append 8 = .ok (.aload_n 0, 1) := by decide +kernel
theorem dX6_append_9 : decode cX6_append 9 = .ok (.getfield 10, 3) := by decide +kernel
theorem dX6_append_12 : decode cX6_append 12 = .ok (.invokevirtual 49, 3) := by decide +kernel
theorem dX6_append_15 : decode cX6_append 15 = .ok (.invokestatic 53, 3) := by decide +kernel
theorem dX6_append_18 : decode cX6_append 18 = .ok (.aload_n 0, 1) := by decide +kernel
theorem dX6_append_19 : decode cX6_append 19 = .ok (.getfield 10, 3) := by decide +kernel
theorem dX6_append_22 : decode cX6_append 22 = .ok (.iload_n 1, 1) := by decide +kernel
theorem dX6_append_23 : decode cX6_append 23 = .ok (.i2c, 1) := by decide +kernel
theorem dX6_append_24 : decode cX6_append 24 = .ok (.invokevirtual 57, 3) := by decide +kernel
theorem dX6_append_27 : decode cX6_append 27 = .ok (.ireturn, 1) := by decide +kernel
theorem dX6_clearText_0 : decode cX6_clearText 0 = .ok (.aload_n 0, 1) := by decide +kernel
theorem dX6_clearText_1 : decode cX6_clearText 1 = .ok (.getfield 10, 3) := by decide +kernel
theorem dX6_clearText_4 : decode cX6_clearText 4 = .ok (.invokevirtual 61, 3) := by decide +kernel
theorem dX6_clearText_7 : decode cX6_clearText 7 = .ok (.ireturn, 1) := by decide +kernel
theorem dX6_errorPosition_0 : decode cX6_errorPosition 0 = .ok (.aload_n 0, 1) := by decide +kernel
theorem dX6_errorPosition_1 : decode cX6_errorPosition 1 = .ok (.getfield 10, 3) := by decide +kernel
theorem dX6_errorPosition_4 : decode cX6_errorPosition 4 = .ok (.aload_n 0, 1) := by decide +kernel
theorem dX6_errorPosition_5 : decode cX6_errorPosition 5 = .ok (.getfield 23, 3) := by decide +kernel
theorem dX6_errorPosition_8 : decode cX6_errorPosition 8 = .ok (.invokevirtual 65, 3) := by decide +kernel
theorem dX6_errorPosition_11 : decode cX6_errorPosition 11 = .ok (.ireturn, 1) := by decide +kernel
theorem dX6_load_0 : decode cX6_load 0 = .ok (.aload_n 0, 1) := by decide +kernel
theorem dX6_load_1 : decode cX6_load 1 = .ok (.getfield 10, 3) := by decide +kernel
theorem dX6_load_4 : decode cX6_load 4 = .ok (.aload_n 0, 1) := by decide +kernel
theorem dX6_load_5 : decode cX6_load 5 = .ok (.getfield 23, 3) := by decide +kernel
theorem dX6_load_8 : decode cX6_load 8 = .ok (.invokevirtual 65, 3) := by decide +kernel
theorem dX6_load_11 : decode cX6_load 11 = .ok (.bipush (-9), 2) := by decide +kernel
theorem dX6_load_13 : decode cX6_load 13 = .ok (.if_icmp .eq 7, 3) := by decide +kernel
theorem dX6_load_16 : decode cX6_load 16 = .ok (.iconst 1, 1) := by decide +kernel
theorem dX6_load_17 : decode cX6_load 17 = .ok (.goto 4, 3) := by decide +kernel
theorem dX6_load_20 : decode cX6_load 20 = .ok (.iconst 0, 1) := by decide +kernel
theorem dX6_load_21 : decode cX6_load 21 = .ok (.invokestatic 53, 3) := by decide +kernel
theorem dX6_load_24 : decode cX6_load 24 = .ok (.aload_n 0, 1) := by decide +kernel
theorem dX6_load_25 : decode cX6_load 25 = .ok (.getfield 19, 3) := by decide +kernel
theorem dX6_load_28 : decode cX6_load 28 = .ok (.aload_n 0, 1) := by decide +kernel
theorem dX6_load_29 : decode cX6_load 29 = .ok (.getfield 23, 3) := by decide +kernel
theorem dX6_load_32 : decode cX6_load 32 = .ok (.invokevirtual 69, 3) := by decide +kernel
theorem dX6_load_35 : decode cX6_load 35 = .ok (.aload_n 0, 1) := by decide +kernel
theorem dX6_load_36 : decode cX6_load 36 = .ok (.getfield 29, 3) := by decide +kernel
theorem dX6_load_39 : decode cX6_load 39 = .ok (.invokevirtual 73, 3) := by decide +kernel
theorem dX6_load_42 : decode cX6_load 42 = .ok (.aload_n 0, 1) := by decide +kernel
theorem dX6_load_43 : decode cX6_load 43 = .ok (.getfield 38, 3) := by decide +kernel
theorem dX6_load_46 : decode cX6_load 46 = .ok (.invokevirtual 76, 3) := by decide +kernel
theorem dX6_load_49 : decode cX6_load 49 = .ok (.aload_n 0, 1) := by decide +kernel
theorem dX6_load_50 : decode cX6_load 50 = .ok (.getfield 19, 3) := by decide +kernel
theorem dX6_load_53 : decode cX6_load 53 = .ok (.getfield 78, 3) := by decide +kernel
theorem dX6_load_56 : decode cX6_load 56 = .ok (.invokevirtual 82, 3) := by decide +kernel
theorem dX6_load_59 : decode cX6_load 59 = .ok (.ireturn, 1) := by decide +kernel
theorem dX6_about_0 : decode cX6_about 0 = .ok (.iload_n 1, 1) := by decide +kernel
theorem dX6_about_1 : decode cX6_about 1 = .ok (.iconst 0, 1) := by decide +kernel
theorem dX6_about_2 : decode cX6_about 2 = .ok (.bipush 11, 2) := by decide +kernel
theorem dX6_about_4 : decode cX6_about 4 = .ok (.invokestatic 45, 3) := by decide +kernel
theorem dX6_about_7 : decode cX6_about 7 = .ok (.iload_n 1, 1) := by decide +kernel
theorem dX6_about_8 : decode cX6_about 8 = .ok (.tableswitch 173 0 10 #[60, 68, 76, 87, 98, 109, 120, 131, 140, 149, 161], 60) := by decide +kernel
theorem dX6_about_68 : decode cX6_about 68 = .ok (.aload_n 0, 1) := by decide +kernel
theorem dX6_about_69 : decode cX6_about 69 = .ok (.getfield 19, 3) := by decide +kernel
theorem dX6_about_72 : decode cX6_about 72 = .ok (.invokevirtual 87, 3) := by decide +kernel
theorem dX6_about_75 : decode cX6_about 75 = .ok (.ireturn, 1) := by decide +kernel
theorem dX6_about_76 : decode cX6_about 76 = .ok (.aload_n 0, 1) := by decide +kernel
theorem dX6_about_77 : decode cX6_about 77 = .ok (.getfield 19, 3) := by decide +kernel
theorem dX6_about_80 : decode cX6_about 80 = .ok (.invokevirtual 90, 3) := by decide +kernel
theorem dX6_about_83 : decode cX6_about 83 = .ok (.ireturn, 1) := by decide +kernel
theorem dX6_about_84 : decode cX6_about 84 = .ok (.aload_n 0, 1) := by decide +kernel
theorem dX6_about_85 : decode cX6_about 85 = .ok (.getfield 19, 3) := by decide +kernel
theorem dX6_about_88 : decode cX6_about 88 = .ok (.getfield 93, 3) := by decide +kernel
theorem dX6_about_91 : decode cX6_about 91 = .ok (.invokevirtual 82, 3) := by decide +kernel
theorem dX6_about_94 : decode cX6_about 94 = .ok (.ireturn, 1) := by decide +kernel
theorem dX6_about_95 : decode cX6_about 95 = .ok (.aload_n 0, 1) := by decide +kernel
theorem dX6_about_96 : decode cX6_about 96 = .ok (.getfield 19, 3) := by decide +kernel
theorem dX6_about_99 : decode cX6_about 99 = .ok (.getfield 96, 3) := by decide +kernel
theorem dX6_about_102 : decode cX6_about 102 = .ok (.invokevirtual 82, 3) := by decide +kernel
theorem dX6_about_105 : decode cX6_about 105 = .ok (.ireturn, 1) := by decide +kernel
theorem dX6_about_106 : decode cX6_about 106 = .ok (.aload_n 0, 1) := by decide +kernel
theorem dX6_about_107 : decode cX6_about 107 = .ok (.getfield 19, 3) := by decide +kernel
theorem dX6_about_110 : decode cX6_about 110 = .ok (.getfield 99, 3) := by decide +kernel
theorem dX6_about_113 : decode cX6_about 113 = .ok (.invokevirtual 82, 3) := by decide +kernel
theorem dX6_about_116 : decode cX6_about 116 = .ok (.ireturn, 1) := by decide +kernel
theorem dX6_about_117 : decode cX6_about 117 = .ok (.aload_n 0, 1) := by decide +kernel
theorem dX6_about_118 : decode cX6_about 118 = .ok (.getfield 19, 3) := by decide +kernel
theorem dX6_about_121 : decode cX6_about 121 = .ok (.getfield 102, 3) := by decide +kernel
theorem dX6_about_124 : decode cX6_about 124 = .ok (.invokevirtual 82, 3) := by decide +kernel
theorem dX6_about_127 : decode cX6_about 127 = .ok (.ireturn, 1) := by decide +kernel
theorem dX6_about_128 : decode cX6_about 128 = .ok (.aload_n 0, 1) := by decide +kernel
theorem dX6_about_129 : decode cX6_about 129 = .ok (.getfield 19, 3) := by decide +kernel
theorem dX6_about_132 : decode cX6_about 132 = .ok (.getfield 78, 3) := by decide +kernel
theorem dX6_about_135 : decode cX6_about 135 = .ok (.invokevirtual 82, 3) := by decide +kernel
theorem dX6_about_138 : decode cX6_about 138 = .ok (.ireturn, 1) := by decide +kernel
theorem dX6_about_139 : decode cX6_about 139 = .ok (.aload_n 0, 1) := by decide +kernel
theorem dX6_about_140 : decode cX6_about 140 = .ok (.getfield 19, 3) := by decide +kernel
theorem dX6_about_143 : decode cX6_about 143 = .ok (.iconst 2, 1) := by decide +kernel
theorem dX6_about_144 : decode cX6_about 144 = .ok (.invokevirtual 105, 3) := by decide +kernel
theorem dX6_about_147 : decode cX6_about 147 = .ok (.ireturn, 1) := by decide +kernel
theorem dX6_about_148 : decode cX6_about 148 = .ok (.aload_n 0, 1) := by decide +kernel
theorem dX6_about_149 : decode cX6_about 149 = .ok (.getfield 19, 3) := by decide +kernel
theorem dX6_about_152 : decode cX6_about 152 = .ok (.iconst 1, 1) := by decide +kernel
theorem dX6_about_153 : decode cX6_about 153 = .ok (.invokevirtual 105, 3) := by decide +kernel
theorem dX6_about_156 : decode cX6_about 156 = .ok (.ireturn, 1) := by decide +kernel
theorem dX6_about_157 : decode cX6_about 157 = .ok (.aload_n 0, 1) := by decide +kernel
theorem dX6_about_158 : decode cX6_about 158 = .ok (.getfield 19, 3) := by decide +kernel
theorem dX6_about_161 : decode cX6_about 161 = .ok (.getfield 78, 3) := by decide +kernel
theorem dX6_about_164 : decode cX6_about 164 = .ok (.iconst 3, 1) := by decide +kernel
theorem dX6_about_165 : decode cX6_about 165 = .ok (.invokevirtual 109, 3) := by decide +kernel
theorem dX6_about_168 : decode cX6_about 168 = .ok (.ireturn, 1) := by decide +kernel
theorem dX6_about_169 : decode cX6_about 169 = .ok (.aload_n 0, 1) := by decide +kernel
theorem dX6_about_170 : decode cX6_about 170 = .ok (.getfield 19, 3) := by decide +kernel
theorem dX6_about_173 : decode cX6_about 173 = .ok (.getfield 99, 3) := by decide +kernel
theorem dX6_about_176 : decode cX6_about 176 = .ok (.iconst 1, 1) := by decide +kernel
theorem dX6_about_177 : decode cX6_about 177 = .ok (.invokevirtual 109, 3) := by decide +kernel
theorem dX6_about_180 : decode cX6_about 180 = .ok (.ireturn, 1) := by decide +kernel
theorem dX6_about_181 : decode cX6_about 181 = .ok (.aload_n 0, 1) := by decide +kernel
theorem dX6_about_182 : decode cX6_about 182 = .ok (.getfield 19, 3) := by decide +kernel
theorem dX6_about_185 : decode cX6_about 185 = .ok (.getfield 78, 3) := by decide +kernel
theorem dX6_about_188 : decode cX6_about 188 = .ok (.bipush 6, 2) := by decide +kernel
theorem dX6_about_190 : decode cX6_about 190 = .ok (.invokevirtual 109, 3) := by decide +kernel
theorem dX6_about_193 : decode cX6_about 193 = .ok (.ireturn, 1) := by decide +kernel
theorem dX6_convoy_0 : decode cX6_convoy 0 = .ok (.aload_n 0, 1) := by decide +kernel
theorem dX6_convoy_1 : decode cX6_convoy 1 = .ok (.getfield 19, 3) := by decide +kernel
theorem dX6_convoy_4 : decode cX6_convoy 4 = .ok (.getfield 102, 3) := by decide +kernel
theorem dX6_convoy_7 : decode cX6_convoy 7 = .ok (.iload_n 1, 1) := by decide +kernel
theorem dX6_convoy_8 : decode cX6_convoy 8 = .ok (.invokestatic 112, 3) := by decide +kernel
theorem dX6_convoy_11 : decode cX6_convoy 11 = .ok (.iload_n 2, 1) := by decide +kernel
theorem dX6_convoy_12 : decode cX6_convoy 12 = .ok (.iconst 0, 1) := by decide +kernel
theorem dX6_convoy_13 : decode cX6_convoy 13 = .ok (.bipush 7, 2) := by decide +kernel
theorem dX6_convoy_15 : decode cX6_convoy 15 = .ok (.invokestatic 45, 3) := by decide +kernel
theorem dX6_convoy_18 : decode cX6_convoy 18 = .ok (.iload_n 2, 1) := by decide +kernel
theorem dX6_convoy_19 : decode cX6_convoy 19 = .ok (.tableswitch 123 0 6 #[41, 54, 66, 75, 88, 101, 114], 41) := by decide +kernel
theorem dX6_convoy_60 : decode cX6_convoy 60 = .ok (.aload_n 0, 1) := by decide +kernel
theorem dX6_convoy_61 : decode cX6_convoy 61 = .ok (.getfield 19, 3) := by decide +kernel
theorem dX6_convoy_64 : decode cX6_convoy 64 = .ok (.getfield 102, 3) := by decide +kernel
theorem dX6_convoy_67 : decode cX6_convoy 67 = .ok (.iload_n 1, 1) := by decide +kernel
theorem dX6_convoy_68 : decode cX6_convoy 68 = .ok (.iconst 0, 1) := by decide +kernel
theorem dX6_convoy_69 : decode cX6_convoy 69 = .ok (.invokevirtual 116, 3) := by decide +kernel
theorem dX6_convoy_72 : decode cX6_convoy 72 = .ok (.ireturn, 1) := by decide +kernel
theorem dX6_convoy_73 : decode cX6_convoy 73 = .ok (.aload_n 0, 1) := by decide +kernel
theorem dX6_convoy_74 : decode cX6_convoy 74 = .ok (.getfield 19, 3) := by decide +kernel
theorem dX6_convoy_77 : decode cX6_convoy 77 = .ok (.getfield 120, 3) := by decide +kernel
theorem dX6_convoy_80 : decode cX6_convoy 80 = .ok (.iload_n 1, 1) := by decide +kernel
theorem dX6_convoy_81 : decode cX6_convoy 81 = .ok (.invokevirtual 124, 3) := by decide +kernel
theorem dX6_convoy_84 : decode cX6_convoy 84 = .ok (.ireturn, 1) := by decide +kernel
theorem dX6_convoy_85 : decode cX6_convoy 85 = .ok (.aload_n 0, 1) := by decide +kernel
theorem dX6_convoy_86 : decode cX6_convoy 86 = .ok (.getfield 19, 3) := by decide +kernel
theorem dX6_convoy_89 : decode cX6_convoy 89 = .ok (.iload_n 1, 1) := by decide +kernel
theorem dX6_convoy_90 : decode cX6_convoy 90 = .ok (.invokevirtual 129, 3) := by decide +kernel
theorem dX6_convoy_93 : decode cX6_convoy 93 = .ok (.ireturn, 1) := by decide +kernel
theorem dX6_convoy_94 : decode cX6_convoy 94 = .ok (.aload_n 0, 1) := by decide +kernel
theorem dX6_convoy_95 : decode cX6_convoy 95 = .ok (.getfield 19, 3) := by decide +kernel
theorem dX6_convoy_98 : decode cX6_convoy 98 = .ok (.getfield 102, 3) := by decide +kernel
theorem dX6_convoy_101 : decode cX6_convoy 101 = .ok (.iload_n 1, 1) := by decide +kernel
theorem dX6_convoy_102 : decode cX6_convoy 102 = .ok (.iconst 1, 1) := by decide +kernel
theorem dX6_convoy_103 : decode cX6_convoy 103 = .ok (.invokevirtual 116, 3) := by decide +kernel
theorem dX6_convoy_106 : decode cX6_convoy 106 = .ok (.ireturn, 1) := by decide +kernel
theorem dX6_convoy_107 : decode cX6_convoy 107 = .ok (.aload_n 0, 1) := by decide +kernel
theorem dX6_convoy_108 : decode cX6_convoy 108 = .ok (.getfield 19, 3) := by decide +kernel
theorem dX6_convoy_111 : decode cX6_convoy 111 = .ok (.getfield 102, 3) := by decide +kernel
theorem dX6_convoy_114 : decode cX6_convoy 114 = .ok (.iload_n 1, 1) := by decide +kernel
theorem dX6_convoy_115 : decode cX6_convoy 115 = .ok (.iconst 2, 1) := by decide +kernel
theorem dX6_convoy_116 : decode cX6_convoy 116 = .ok (.invokevirtual 116, 3) := by decide +kernel
theorem dX6_convoy_119 : decode cX6_convoy 119 = .ok (.ireturn, 1) := by decide +kernel
theorem dX6_convoy_120 : decode cX6_convoy 120 = .ok (.aload_n 0, 1) := by decide +kernel
theorem dX6_convoy_121 : decode cX6_convoy 121 = .ok (.getfield 19, 3) := by decide +kernel
theorem dX6_convoy_124 : decode cX6_convoy 124 = .ok (.getfield 102, 3) := by decide +kernel
theorem dX6_convoy_127 : decode cX6_convoy 127 = .ok (.iload_n 1, 1) := by decide +kernel
theorem dX6_convoy_128 : decode cX6_convoy 128 = .ok (.iconst 3, 1) := by decide +kernel
theorem dX6_convoy_129 : decode cX6_convoy 129 = .ok (.invokevirtual 116, 3) := by decide +kernel
theorem dX6_convoy_132 : decode cX6_convoy 132 = .ok (.ireturn, 1) := by decide +kernel
theorem dX6_convoy_133 : decode cX6_convoy 133 = .ok (.aload_n 0, 1) := by decide +kernel
theorem dX6_convoy_134 : decode cX6_convoy 134 = .ok (.getfield 19, 3) := by decide +kernel
theorem dX6_convoy_137 : decode cX6_convoy 137 = .ok (.iload_n 1, 1) := by decide +kernel
theorem dX6_convoy_138 : decode cX6_convoy 138 = .ok (.invokevirtual 132, 3) := by decide +kernel
theorem dX6_convoy_141 : decode cX6_convoy 141 = .ok (.ireturn, 1) := by decide +kernel
theorem dX6_convoy_142 : decode cX6_convoy 142 = .ok (.aload_n 0, 1) := by decide +kernel
theorem dX6_convoy_143 : decode cX6_convoy 143 = .ok (.getfield 19, 3) := by decide +kernel
theorem dX6_convoy_146 : decode cX6_convoy 146 = .ok (.iload_n 1, 1) := by decide +kernel
theorem dX6_convoy_147 : decode cX6_convoy 147 = .ok (.invokevirtual 135, 3) := by decide +kernel
theorem dX6_convoy_150 : decode cX6_convoy 150 = .ok (.ifCond .eq 7, 3) := by decide +kernel
theorem dX6_convoy_153 : decode cX6_convoy 153 = .ok (.iconst 1, 1) := by decide +kernel
theorem dX6_convoy_154 : decode cX6_convoy 154 = .ok (.goto 4, 3) := by decide +kernel
theorem dX6_convoy_157 : decode cX6_convoy 157 = .ok (.iconst 0, 1) := by decide +kernel
theorem dX6_convoy_158 : decode cX6_convoy 158 = .ok (.ireturn, 1) := by decide +kernel
theorem dX6_member_0 : decode cX6_member 0 = .ok (.aload_n 0, 1) := by decide +kernel
theorem dX6_member_1 : decode cX6_member 1 = .ok (.getfield 19, 3) := by decide +kernel
theorem dX6_member_4 : decode cX6_member 4 = .ok (.getfield 102, 3) := by decide +kernel
theorem dX6_member_7 : decode cX6_member 7 = .ok (.iload_n 1, 1) := by decide +kernel
theorem dX6_member_8 : decode cX6_member 8 = .ok (.invokestatic 112, 3) := by decide +kernel
theorem dX6_member_11 : decode cX6_member 11 = .ok (.iload_n 2, 1) := by decide +kernel
theorem dX6_member_12 : decode cX6_member 12 = .ok (.ifCond .ge 7, 3) := by decide +kernel
theorem dX6_member_15 : decode cX6_member 15 = .ok (.iconst 1, 1) := by decide +kernel
theorem dX6_member_16 : decode cX6_member 16 = .ok (.goto 4, 3) := by decide +kernel
theorem dX6_member_19 : decode cX6_member 19 = .ok (.iconst 0, 1) := by decide +kernel
theorem dX6_member_20 : decode cX6_member 20 = .ok (.invokestatic 139, 3) := by decide +kernel
theorem dX6_member_23 : decode cX6_member 23 = .ok (.aload_n 0, 1) := by decide +kernel
theorem dX6_member_24 : decode cX6_member 24 = .ok (.getfield 19, 3) := by decide +kernel
theorem dX6_member_27 : decode cX6_member 27 = .ok (.getfield 120, 3) := by decide +kernel
theorem dX6_member_30 : decode cX6_member 30 = .ok (.iload_n 1, 1) := by decide +kernel
theorem dX6_member_31 : decode cX6_member 31 = .ok (.iload_n 2, 1) := by decide +kernel
theorem dX6_member_32 : decode cX6_member 32 = .ok (.invokevirtual 142, 3) := by decide +kernel
theorem dX6_member_35 : decode cX6_member 35 = .ok (.ireturn, 1) := by decide +kernel
theorem dX6_vehicle_0 : decode cX6_vehicle 0 = .ok (.aload_n 0, 1) := by decide +kernel
theorem dX6_vehicle_1 : decode cX6_vehicle 1 = .ok (.getfield 19, 3) := by decide +kernel
theorem dX6_vehicle_4 : decode cX6_vehicle 4 = .ok (.getfield 78, 3) := by decide +kernel
theorem dX6_vehicle_7 : decode cX6_vehicle 7 = .ok (.iload_n 1, 1) := by decide +kernel
theorem dX6_vehicle_8 : decode cX6_vehicle 8 = .ok (.invokestatic 112, 3) := by decide +kernel
theorem dX6_vehicle_11 : decode cX6_vehicle 11 = .ok (.iload_n 2, 1) := by decide +kernel
theorem dX6_vehicle_12 : decode cX6_vehicle 12 = .ok (.iconst 0, 1) := by decide +kernel
theorem dX6_vehicle_13 : decode cX6_vehicle 13 = .ok (.bipush 6, 2) := by decide +kernel
theorem dX6_vehicle_15 : decode cX6_vehicle 15 = .ok (.invokestatic 45, 3) := by decide +kernel
theorem dX6_vehicle_18 : decode cX6_vehicle 18 = .ok (.aload_n 0, 1) := by decide +kernel
theorem dX6_vehicle_19 : decode cX6_vehicle 19 = .ok (.getfield 19, 3) := by decide +kernel
theorem dX6_vehicle_22 : decode cX6_vehicle 22 = .ok (.getfield 78, 3) := by decide +kernel
theorem dX6_vehicle_25 : decode cX6_vehicle 25 = .ok (.iload_n 1, 1) := by decide +kernel
theorem dX6_vehicle_26 : decode cX6_vehicle 26 = .ok (.iload_n 2, 1) := by decide +kernel
theorem dX6_vehicle_27 : decode cX6_vehicle 27 = .ok (.invokevirtual 116, 3) := by decide +kernel
theorem dX6_vehicle_30 : decode cX6_vehicle 30 = .ok (.ireturn, 1) := by decide +kernel
theorem dX6_gate_0 : decode cX6_gate 0 = .ok (.aload_n 0, 1) := by decide +kernel
theorem dX6_gate_1 : decode cX6_gate 1 = .ok (.getfield 19, 3) := by decide +kernel
theorem dX6_gate_4 : decode cX6_gate 4 = .ok (.getfield 93, 3) := by decide +kernel
theorem dX6_gate_7 : decode cX6_gate 7 = .ok (.iload_n 1, 1) := by decide +kernel
theorem dX6_gate_8 : decode cX6_gate 8 = .ok (.invokestatic 112, 3) := by decide +kernel
theorem dX6_gate_11 : decode cX6_gate 11 = .ok (.iload_n 2, 1) := by decide +kernel
theorem dX6_gate_12 : decode cX6_gate 12 = .ok (.iconst 0, 1) := by decide +kernel
theorem dX6_gate_13 : decode cX6_gate 13 = .ok (.iconst 5, 1) := by decide +kernel
theorem dX6_gate_14 : decode cX6_gate 14 = .ok (.invokestatic 45, 3) := by decide +kernel
theorem dX6_gate_17 : decode cX6_gate 17 = .ok (.iload_n 2, 1) := by decide +kernel
theorem dX6_gate_18 : decode cX6_gate 18 = .ok (.lookupswitch 52 #[(4, 26), (5, 43)], 26) := by decide +kernel
theorem dX6_gate_44 : decode cX6_gate 44 = .ok (.aload_n 0, 1) := by decide +kernel
theorem dX6_gate_45 : decode cX6_gate 45 = .ok (.getfield 19, 3) := by decide +kernel
theorem dX6_gate_48 : decode cX6_gate 48 = .ok (.iload_n 1, 1) := by decide +kernel
theorem dX6_gate_49 : decode cX6_gate 49 = .ok (.invokevirtual 143, 3) := by decide +kernel
theorem dX6_gate_52 : decode cX6_gate 52 = .ok (.ifCond .le 7, 3) := by decide +kernel
theorem dX6_gate_55 : decode cX6_gate 55 = .ok (.iconst 1, 1) := by decide +kernel
theorem dX6_gate_56 : decode cX6_gate 56 = .ok (.goto 4, 3) := by decide +kernel
theorem dX6_gate_59 : decode cX6_gate 59 = .ok (.iconst 0, 1) := by decide +kernel
theorem dX6_gate_60 : decode cX6_gate 60 = .ok (.ireturn, 1) := by decide +kernel
theorem dX6_gate_61 : decode cX6_gate 61 = .ok (.aload_n 0, 1) := by decide +kernel
theorem dX6_gate_62 : decode cX6_gate 62 = .ok (.getfield 19, 3) := by decide +kernel
theorem dX6_gate_65 : decode cX6_gate 65 = .ok (.iload_n 1, 1) := by decide +kernel
theorem dX6_gate_66 : decode cX6_gate 66 = .ok (.invokevirtual 143, 3) := by decide +kernel
theorem dX6_gate_69 : decode cX6_gate 69 = .ok (.ireturn, 1) := by decide +kernel
theorem dX6_gate_70 : decode cX6_gate 70 = .ok (.aload_n 0, 1) := by decide +kernel
theorem dX6_gate_71 : decode cX6_gate 71 = .ok (.getfield 19, 3) := by decide +kernel
theorem dX6_gate_74 : decode cX6_gate 74 = .ok (.getfield 93, 3) := by decide +kernel
theorem dX6_gate_77 : decode cX6_gate 77 = .ok (.iload_n 1, 1) := by decide +kernel
theorem dX6_gate_78 : decode cX6_gate 78 = .ok (.iload_n 2, 1) := by decide +kernel
theorem dX6_gate_79 : decode cX6_gate 79 = .ok (.invokevirtual 116, 3) := by decide +kernel
theorem dX6_gate_82 : decode cX6_gate 82 = .ok (.ireturn, 1) := by decide +kernel
theorem dX6_bay_0 : decode cX6_bay 0 = .ok (.aload_n 0, 1) := by decide +kernel
theorem dX6_bay_1 : decode cX6_bay 1 = .ok (.getfield 19, 3) := by decide +kernel
theorem dX6_bay_4 : decode cX6_bay 4 = .ok (.getfield 96, 3) := by decide +kernel
theorem dX6_bay_7 : decode cX6_bay 7 = .ok (.iload_n 1, 1) := by decide +kernel
theorem dX6_bay_8 : decode cX6_bay 8 = .ok (.invokestatic 112, 3) := by decide +kernel
theorem dX6_bay_11 : decode cX6_bay 11 = .ok (.iload_n 2, 1) := by decide +kernel
theorem dX6_bay_12 : decode cX6_bay 12 = .ok (.iconst 0, 1) := by decide +kernel
theorem dX6_bay_13 : decode cX6_bay 13 = .ok (.iconst 3, 1) := by decide +kernel
theorem dX6_bay_14 : decode cX6_bay 14 = .ok (.invokestatic 45, 3) := by decide +kernel
theorem dX6_bay_17 : decode cX6_bay 17 = .ok (.iload_n 2, 1) := by decide +kernel
theorem dX6_bay_18 : decode cX6_bay 18 = .ok (.lookupswitch 51 #[(2, 26), (3, 38)], 26) := by decide +kernel
theorem dX6_bay_44 : decode cX6_bay 44 = .ok (.aload_n 0, 1) := by decide +kernel
theorem dX6_bay_45 : decode cX6_bay 45 = .ok (.getfield 19, 3) := by decide +kernel
theorem dX6_bay_48 : decode cX6_bay 48 = .ok (.getfield 146, 3) := by decide +kernel
theorem dX6_bay_51 : decode cX6_bay 51 = .ok (.iload_n 1, 1) := by decide +kernel
theorem dX6_bay_52 : decode cX6_bay 52 = .ok (.invokevirtual 124, 3) := by decide +kernel
theorem dX6_bay_55 : decode cX6_bay 55 = .ok (.ireturn, 1) := by decide +kernel
theorem dX6_bay_56 : decode cX6_bay 56 = .ok (.aload_n 0, 1) := by decide +kernel
theorem dX6_bay_57 : decode cX6_bay 57 = .ok (.getfield 19, 3) := by decide +kernel
theorem dX6_bay_60 : decode cX6_bay 60 = .ok (.getfield 146, 3) := by decide +kernel
theorem dX6_bay_63 : decode cX6_bay 63 = .ok (.iload_n 1, 1) := by decide +kernel
theorem dX6_bay_64 : decode cX6_bay 64 = .ok (.iconst 0, 1) := by decide +kernel
theorem dX6_bay_65 : decode cX6_bay 65 = .ok (.invokevirtual 142, 3) := by decide +kernel
theorem dX6_bay_68 : decode cX6_bay 68 = .ok (.ireturn, 1) := by decide +kernel
theorem dX6_bay_69 : decode cX6_bay 69 = .ok (.aload_n 0, 1) := by decide +kernel
theorem dX6_bay_70 : decode cX6_bay 70 = .ok (.getfield 19, 3) := by decide +kernel
theorem dX6_bay_73 : decode cX6_bay 73 = .ok (.getfield 96, 3) := by decide +kernel
theorem dX6_bay_76 : decode cX6_bay 76 = .ok (.iload_n 1, 1) := by decide +kernel
theorem dX6_bay_77 : decode cX6_bay 77 = .ok (.iload_n 2, 1) := by decide +kernel
theorem dX6_bay_78 : decode cX6_bay 78 = .ok (.invokevirtual 116, 3) := by decide +kernel
theorem dX6_bay_81 : decode cX6_bay 81 = .ok (.ireturn, 1) := by decide +kernel
theorem dX6_depot_0 : decode cX6_depot 0 = .ok (.aload_n 0, 1) := by decide +kernel
theorem dX6_depot_1 : decode cX6_depot 1 = .ok (.getfield 19, 3) := by decide +kernel
theorem dX6_depot_4 : decode cX6_depot 4 = .ok (.getfield 99, 3) := by decide +kernel
theorem dX6_depot_7 : decode cX6_depot 7 = .ok (.iload_n 1, 1) := by decide +kernel
theorem dX6_depot_8 : decode cX6_depot 8 = .ok (.invokestatic 112, 3) := by decide +kernel
theorem dX6_depot_11 : decode cX6_depot 11 = .ok (.iload_n 2, 1) := by decide +kernel
theorem dX6_depot_12 : decode cX6_depot 12 = .ok (.iconst 0, 1) := by decide +kernel
theorem dX6_depot_13 : decode cX6_depot 13 = .ok (.iconst 1, 1) := by decide +kernel
theorem dX6_depot_14 : decode cX6_depot 14 = .ok (.invokestatic 45, 3) := by decide +kernel
theorem dX6_depot_17 : decode cX6_depot 17 = .ok (.aload_n 0, 1) := by decide +kernel
theorem dX6_depot_18 : decode cX6_depot 18 = .ok (.getfield 19, 3) := by decide +kernel
theorem dX6_depot_21 : decode cX6_depot 21 = .ok (.getfield 99, 3) := by decide +kernel
theorem dX6_depot_24 : decode cX6_depot 24 = .ok (.iload_n 1, 1) := by decide +kernel
theorem dX6_depot_25 : decode cX6_depot 25 = .ok (.iload_n 2, 1) := by decide +kernel
theorem dX6_depot_26 : decode cX6_depot 26 = .ok (.invokevirtual 116, 3) := by decide +kernel
theorem dX6_depot_29 : decode cX6_depot 29 = .ok (.ireturn, 1) := by decide +kernel
theorem dX6_addGate_0 : decode cX6_addGate 0 = .ok (.iload_n 1, 1) := by decide +kernel
theorem dX6_addGate_1 : decode cX6_addGate 1 = .ok (.iconst 1, 1) := by decide +kernel
theorem dX6_addGate_2 : decode cX6_addGate 2 = .ok (.aload_n 0, 1) := by decide +kernel
theorem dX6_addGate_3 : decode cX6_addGate 3 = .ok (.getfield 19, 3) := by decide +kernel
theorem dX6_addGate_6 : decode cX6_addGate 6 = .ok (.invokevirtual 87, 3) := by decide +kernel
theorem dX6_addGate_9 : decode cX6_addGate 9 = .ok (.iconst 1, 1) := by decide +kernel
theorem dX6_addGate_10 : decode cX6_addGate 10 = .ok (.isub, 1) := by decide +kernel
theorem dX6_addGate_11 : decode cX6_addGate 11 = .ok (.invokestatic 45, 3) := by decide +kernel
theorem dX6_addGate_14 : decode cX6_addGate 14 = .ok (.iload_n 2, 1) := by decide +kernel
theorem dX6_addGate_15 : decode cX6_addGate 15 = .ok (.iconst 2, 1) := by decide +kernel
theorem dX6_addGate_16 : decode cX6_addGate 16 = .ok (.bipush 24, 2) := by decide +kernel
theorem dX6_addGate_18 : decode cX6_addGate 18 = .ok (.invokestatic 45, 3) := by decide +kernel
theorem dX6_addGate_21 : decode cX6_addGate 21 = .ok (.iload_n 3, 1) := by decide +kernel
theorem dX6_addGate_22 : decode cX6_addGate 22 = .ok (.iconst 0, 1) := by decide +kernel
theorem dX6_addGate_23 : decode cX6_addGate 23 = .ok (.iload_n 2, 1) := by decide +kernel
theorem dX6_addGate_24 : decode cX6_addGate 24 = .ok (.iconst 1, 1) := by decide +kernel
theorem dX6_addGate_25 : decode cX6_addGate 25 = .ok (.isub, 1) := by decide +kernel
theorem dX6_addGate_26 : decode cX6_addGate 26 = .ok (.invokestatic 45, 3) := by decide +kernel
theorem dX6_addGate_29 : decode cX6_addGate 29 = .ok (.iload 4, 2) := by decide +kernel
theorem dX6_addGate_31 : decode cX6_addGate 31 = .ok (.iconst 0, 1) := by decide +kernel
theorem dX6_addGate_32 : decode cX6_addGate 32 = .ok (.iload_n 2, 1) := by decide +kernel
theorem dX6_addGate_33 : decode cX6_addGate 33 = .ok (.iconst 1, 1) := by decide +kernel
theorem dX6_addGate_34 : decode cX6_addGate 34 = .ok (.isub, 1) := by decide +kernel
theorem dX6_addGate_35 : decode cX6_addGate 35 = .ok (.invokestatic 45, 3) := by decide +kernel
theorem dX6_addGate_38 : decode cX6_addGate 38 = .ok (.aload_n 0, 1) := by decide +kernel
theorem dX6_addGate_39 : decode cX6_addGate 39 = .ok (.getfield 19, 3) := by decide +kernel
theorem dX6_addGate_42 : decode cX6_addGate 42 = .ok (.getfield 93, 3) := by decide +kernel
theorem dX6_addGate_45 : decode cX6_addGate 45 = .ok (.invokevirtual 149, 3) := by decide +kernel
theorem dX6_addGate_48 : decode cX6_addGate 48 = .ok (.ifCond .ne 19, 3) := by decide +kernel
theorem dX6_addGate_51 : decode cX6_addGate 51 = .ok (.aload_n 0, 1) := by decide +kernel
theorem dX6_addGate_52 : decode cX6_addGate 52 = .ok (.getfield 19, 3) := by decide +kernel
theorem dX6_addGate_55 : decode cX6_addGate 55 = .ok (.getfield 93, 3) := by decide +kernel
theorem dX6_addGate_58 : decode cX6_addGate 58 = .ok (.iload_n 1, 1) := by decide +kernel
theorem dX6_addGate_59 : decode cX6_addGate 59 = .ok (.invokevirtual 150, 3) := by decide +kernel
theorem dX6_addGate_62 : decode cX6_addGate 62 = .ok (.bipush (-9), 2) := by decide +kernel
theorem dX6_addGate_64 : decode cX6_addGate 64 = .ok (.if_icmp .eq 7, 3) := by decide +kernel
theorem dX6_addGate_67 : decode cX6_addGate 67 = .ok (.iconst 1, 1) := by decide +kernel
theorem dX6_addGate_68 : decode cX6_addGate 68 = .ok (.goto 4, 3) := by decide +kernel
theorem dX6_addGate_71 : decode cX6_addGate 71 = .ok (.iconst 0, 1) := by decide +kernel
theorem dX6_addGate_72 : decode cX6_addGate 72 = .ok (.invokestatic 53, 3) := by decide +kernel
theorem dX6_addGate_75 : decode cX6_addGate 75 = .ok (.aload_n 0, 1) := by decide +kernel
theorem dX6_addGate_76 : decode cX6_addGate 76 = .ok (.getfield 29, 3) := by decide +kernel
theorem dX6_addGate_79 : decode cX6_addGate 79 = .ok (.aload_n 0, 1) := by decide +kernel
theorem dX6_addGate_80 : decode cX6_addGate 80 = .ok (.getfield 19, 3) := by decide +kernel
theorem dX6_addGate_83 : decode cX6_addGate 83 = .ok (.invokevirtual 153, 3) := by decide +kernel
theorem dX6_addGate_86 : decode cX6_addGate 86 = .ok (.aload_n 0, 1) := by decide +kernel
theorem dX6_addGate_87 : decode cX6_addGate 87 = .ok (.getfield 19, 3) := by decide +kernel
theorem dX6_addGate_90 : decode cX6_addGate 90 = .ok (.iload_n 1, 1) := by decide +kernel
theorem dX6_addGate_91 : decode cX6_addGate 91 = .ok (.iload_n 2, 1) := by decide +kernel
theorem dX6_addGate_92 : decode cX6_addGate 92 = .ok (.iload_n 3, 1) := by decide +kernel
theorem dX6_addGate_93 : decode cX6_addGate 93 = .ok (.iload 4, 2) := by decide +kernel
theorem dX6_addGate_95 : decode cX6_addGate 95 = .ok (.invokevirtual 156, 3) := by decide +kernel
theorem dX6_addGate_98 : decode cX6_addGate 98 = .ok (.ireturn, 1) := by decide +kernel
theorem dX6_addBay_0 : decode cX6_addBay 0 = .ok (.iload_n 1, 1) := by decide +kernel
theorem dX6_addBay_1 : decode cX6_addBay 1 = .ok (.iconst 1, 1) := by decide +kernel
theorem dX6_addBay_2 : decode cX6_addBay 2 = .ok (.aload_n 0, 1) := by decide +kernel
theorem dX6_addBay_3 : decode cX6_addBay 3 = .ok (.getfield 19, 3) := by decide +kernel
theorem dX6_addBay_6 : decode cX6_addBay 6 = .ok (.invokevirtual 87, 3) := by decide +kernel
theorem dX6_addBay_9 : decode cX6_addBay 9 = .ok (.iconst 1, 1) := by decide +kernel
theorem dX6_addBay_10 : decode cX6_addBay 10 = .ok (.isub, 1) := by decide +kernel
theorem dX6_addBay_11 : decode cX6_addBay 11 = .ok (.invokestatic 45, 3) := by decide +kernel
theorem dX6_addBay_14 : decode cX6_addBay 14 = .ok (.iload_n 2, 1) := by decide +kernel
theorem dX6_addBay_15 : decode cX6_addBay 15 = .ok (.iconst 1, 1) := by decide +kernel
theorem dX6_addBay_16 : decode cX6_addBay 16 = .ok (.bipush 6, 2) := by decide +kernel
theorem dX6_addBay_18 : decode cX6_addBay 18 = .ok (.invokestatic 45, 3) := by decide +kernel
theorem dX6_addBay_21 : decode cX6_addBay 21 = .ok (.aload_n 0, 1) := by decide +kernel
theorem dX6_addBay_22 : decode cX6_addBay 22 = .ok (.getfield 19, 3) := by decide +kernel
theorem dX6_addBay_25 : decode cX6_addBay 25 = .ok (.getfield 96, 3) := by decide +kernel
theorem dX6_addBay_28 : decode cX6_addBay 28 = .ok (.invokevirtual 149, 3) := by decide +kernel
theorem dX6_addBay_31 : decode cX6_addBay 31 = .ok (.ifCond .ne 19, 3) := by decide +kernel
theorem dX6_addBay_34 : decode cX6_addBay 34 = .ok (.aload_n 0, 1) := by decide +kernel
theorem dX6_addBay_35 : decode cX6_addBay 35 = .ok (.getfield 19, 3) := by decide +kernel
theorem dX6_addBay_38 : decode cX6_addBay 38 = .ok (.getfield 96, 3) := by decide +kernel
theorem dX6_addBay_41 : decode cX6_addBay 41 = .ok (.iload_n 1, 1) := by decide +kernel
theorem dX6_addBay_42 : decode cX6_addBay 42 = .ok (.invokevirtual 150, 3) := by decide +kernel
theorem dX6_addBay_45 : decode cX6_addBay 45 = .ok (.bipush (-9), 2) := by decide +kernel
theorem dX6_addBay_47 : decode cX6_addBay 47 = .ok (.if_icmp .eq 7, 3) := by decide +kernel
theorem dX6_addBay_50 : decode cX6_addBay 50 = .ok (.iconst 1, 1) := by decide +kernel
theorem dX6_addBay_51 : decode cX6_addBay 51 = .ok (.goto 4, 3) := by decide +kernel
theorem dX6_addBay_54 : decode cX6_addBay 54 = .ok (.iconst 0, 1) := by decide +kernel
theorem dX6_addBay_55 : decode cX6_addBay 55 = .ok (.invokestatic 53, 3) := by decide +kernel
theorem dX6_addBay_58 : decode cX6_addBay 58 = .ok (.aload_n 0, 1) := by decide +kernel
theorem dX6_addBay_59 : decode cX6_addBay 59 = .ok (.getfield 29, 3) := by decide +kernel
theorem dX6_addBay_62 : decode cX6_addBay 62 = .ok (.aload_n 0, 1) := by decide +kernel
theorem dX6_addBay_63 : decode cX6_addBay 63 = .ok (.getfield 19, 3) := by decide +kernel
theorem dX6_addBay_66 : decode cX6_addBay 66 = .ok (.invokevirtual 153, 3) := by decide +kernel
theorem dX6_addBay_69 : decode cX6_addBay 69 = .ok (.aload_n 0, 1) := by decide +kernel
theorem dX6_addBay_70 : decode cX6_addBay 70 = .ok (.getfield 19, 3) := by decide +kernel
theorem dX6_addBay_73 : decode cX6_addBay 73 = .ok (.iload_n 1, 1) := by decide +kernel
theorem dX6_addBay_74 : decode cX6_addBay 74 = .ok (.iload_n 2, 1) := by decide +kernel
theorem dX6_addBay_75 : decode cX6_addBay 75 = .ok (.invokevirtual 160, 3) := by decide +kernel
theorem dX6_addBay_78 : decode cX6_addBay 78 = .ok (.ireturn, 1) := by decide +kernel
theorem dX6_addDepot_0 : decode cX6_addDepot 0 = .ok (.iload_n 1, 1) := by decide +kernel
theorem dX6_addDepot_1 : decode cX6_addDepot 1 = .ok (.iconst 0, 1) := by decide +kernel
theorem dX6_addDepot_2 : decode cX6_addDepot 2 = .ok (.aload_n 0, 1) := by decide +kernel
theorem dX6_addDepot_3 : decode cX6_addDepot 3 = .ok (.getfield 19, 3) := by decide +kernel
theorem dX6_addDepot_6 : decode cX6_addDepot 6 = .ok (.invokevirtual 87, 3) := by decide +kernel
theorem dX6_addDepot_9 : decode cX6_addDepot 9 = .ok (.invokestatic 45, 3) := by decide +kernel
theorem dX6_addDepot_12 : decode cX6_addDepot 12 = .ok (.iload_n 2, 1) := by decide +kernel
theorem dX6_addDepot_13 : decode cX6_addDepot 13 = .ok (.iconst 0, 1) := by decide +kernel
theorem dX6_addDepot_14 : decode cX6_addDepot 14 = .ok (.sipush 999, 3) := by decide +kernel
theorem dX6_addDepot_17 : decode cX6_addDepot 17 = .ok (.invokestatic 45, 3) := by decide +kernel
theorem dX6_addDepot_20 : decode cX6_addDepot 20 = .ok (.aload_n 0, 1) := by decide +kernel
theorem dX6_addDepot_21 : decode cX6_addDepot 21 = .ok (.getfield 19, 3) := by decide +kernel
theorem dX6_addDepot_24 : decode cX6_addDepot 24 = .ok (.getfield 99, 3) := by decide +kernel
theorem dX6_addDepot_27 : decode cX6_addDepot 27 = .ok (.invokevirtual 149, 3) := by decide +kernel
theorem dX6_addDepot_30 : decode cX6_addDepot 30 = .ok (.ifCond .ne 19, 3) := by decide +kernel
theorem dX6_addDepot_33 : decode cX6_addDepot 33 = .ok (.aload_n 0, 1) := by decide +kernel
theorem dX6_addDepot_34 : decode cX6_addDepot 34 = .ok (.getfield 19, 3) := by decide +kernel
theorem dX6_addDepot_37 : decode cX6_addDepot 37 = .ok (.getfield 99, 3) := by decide +kernel
theorem dX6_addDepot_40 : decode cX6_addDepot 40 = .ok (.iload_n 1, 1) := by decide +kernel
theorem dX6_addDepot_41 : decode cX6_addDepot 41 = .ok (.invokevirtual 150, 3) := by decide +kernel
theorem dX6_addDepot_44 : decode cX6_addDepot 44 = .ok (.bipush (-9), 2) := by decide +kernel
theorem dX6_addDepot_46 : decode cX6_addDepot 46 = .ok (.if_icmp .eq 7, 3) := by decide +kernel
theorem dX6_addDepot_49 : decode cX6_addDepot 49 = .ok (.iconst 1, 1) := by decide +kernel
theorem dX6_addDepot_50 : decode cX6_addDepot 50 = .ok (.goto 4, 3) := by decide +kernel
theorem dX6_addDepot_53 : decode cX6_addDepot 53 = .ok (.iconst 0, 1) := by decide +kernel
theorem dX6_addDepot_54 : decode cX6_addDepot 54 = .ok (.invokestatic 53, 3) := by decide +kernel
theorem dX6_addDepot_57 : decode cX6_addDepot 57 = .ok (.aload_n 0, 1) := by decide +kernel
theorem dX6_addDepot_58 : decode cX6_addDepot 58 = .ok (.getfield 29, 3) := by decide +kernel
theorem dX6_addDepot_61 : decode cX6_addDepot 61 = .ok (.aload_n 0, 1) := by decide +kernel
theorem dX6_addDepot_62 : decode cX6_addDepot 62 = .ok (.getfield 19, 3) := by decide +kernel
theorem dX6_addDepot_65 : decode cX6_addDepot 65 = .ok (.invokevirtual 153, 3) := by decide +kernel
theorem dX6_addDepot_68 : decode cX6_addDepot 68 = .ok (.aload_n 0, 1) := by decide +kernel
theorem dX6_addDepot_69 : decode cX6_addDepot 69 = .ok (.getfield 19, 3) := by decide +kernel
theorem dX6_addDepot_72 : decode cX6_addDepot 72 = .ok (.iload_n 1, 1) := by decide +kernel
theorem dX6_addDepot_73 : decode cX6_addDepot 73 = .ok (.iload_n 2, 1) := by decide +kernel
theorem dX6_addDepot_74 : decode cX6_addDepot 74 = .ok (.invokevirtual 163, 3) := by decide +kernel
theorem dX6_addDepot_77 : decode cX6_addDepot 77 = .ok (.ireturn, 1) := by decide +kernel
theorem dX6_addConvoy_0 : decode cX6_addConvoy 0 = .ok (.aload_n 0, 1) := by decide +kernel
theorem dX6_addConvoy_1 : decode cX6_addConvoy 1 = .ok (.getfield 19, 3) := by decide +kernel
theorem dX6_addConvoy_4 : decode cX6_addConvoy 4 = .ok (.getfield 102, 3) := by decide +kernel
theorem dX6_addConvoy_7 : decode cX6_addConvoy 7 = .ok (.invokevirtual 149, 3) := by decide +kernel
theorem dX6_addConvoy_10 : decode cX6_addConvoy 10 = .ok (.invokestatic 53, 3) := by decide +kernel
theorem dX6_addConvoy_13 : decode cX6_addConvoy 13 = .ok (.aload_n 0, 1) := by decide +kernel
theorem dX6_addConvoy_14 : decode cX6_addConvoy 14 = .ok (.getfield 29, 3) := by decide +kernel
theorem dX6_addConvoy_17 : decode cX6_addConvoy 17 = .ok (.aload_n 0, 1) := by decide +kernel
theorem dX6_addConvoy_18 : decode cX6_addConvoy 18 = .ok (.getfield 19, 3) := by decide +kernel
theorem dX6_addConvoy_21 : decode cX6_addConvoy 21 = .ok (.invokevirtual 153, 3) := by decide +kernel
theorem dX6_addConvoy_24 : decode cX6_addConvoy 24 = .ok (.aload_n 0, 1) := by decide +kernel
theorem dX6_addConvoy_25 : decode cX6_addConvoy 25 = .ok (.getfield 19, 3) := by decide +kernel
theorem dX6_addConvoy_28 : decode cX6_addConvoy 28 = .ok (.invokevirtual 166, 3) := by decide +kernel
theorem dX6_addConvoy_31 : decode cX6_addConvoy 31 = .ok (.ireturn, 1) := by decide +kernel
theorem dX6_addVehicle_0 : decode cX6_addVehicle 0 = .ok (.aload_n 0, 1) := by decide +kernel
theorem dX6_addVehicle_1 : decode cX6_addVehicle 1 = .ok (.getfield 19, 3) := by decide +kernel
theorem dX6_addVehicle_4 : decode cX6_addVehicle 4 = .ok (.getfield 102, 3) := by decide +kernel
theorem dX6_addVehicle_7 : decode cX6_addVehicle 7 = .ok (.iload_n 1, 1) := by decide +kernel
theorem dX6_addVehicle_8 : decode cX6_addVehicle 8 = .ok (.invokestatic 112, 3) := by decide +kernel
theorem dX6_addVehicle_11 : decode cX6_addVehicle 11 = .ok (.iload_n 2, 1) := by decide +kernel
theorem dX6_addVehicle_12 : decode cX6_addVehicle 12 = .ok (.iconst 1, 1) := by decide +kernel
theorem dX6_addVehicle_13 : decode cX6_addVehicle 13 = .ok (.bipush 9, 2) := by decide +kernel
theorem dX6_addVehicle_15 : decode cX6_addVehicle 15 = .ok (.invokestatic 45, 3) := by decide +kernel
theorem dX6_addVehicle_18 : decode cX6_addVehicle 18 = .ok (.iload_n 3, 1) := by decide +kernel
theorem dX6_addVehicle_19 : decode cX6_addVehicle 19 = .ok (.iconst 1, 1) := by decide +kernel
theorem dX6_addVehicle_20 : decode cX6_addVehicle 20 = .ok (.iconst 4, 1) := by decide +kernel
theorem dX6_addVehicle_21 : decode cX6_addVehicle 21 = .ok (.invokestatic 45, 3) := by decide +kernel
theorem dX6_addVehicle_24 : decode cX6_addVehicle 24 = .ok (.iload 4, 2) := by decide +kernel
theorem dX6_addVehicle_26 : decode cX6_addVehicle 26 = .ok (.bipush 20, 2) := by decide +kernel
theorem dX6_addVehicle_28 : decode cX6_addVehicle 28 = .ok (.bipush 99, 2) := by decide +kernel
theorem dX6_addVehicle_30 : decode cX6_addVehicle 30 = .ok (.invokestatic 45, 3) := by decide +kernel
theorem dX6_addVehicle_33 : decode cX6_addVehicle 33 = .ok (.iload 5, 2) := by decide +kernel
theorem dX6_addVehicle_35 : decode cX6_addVehicle 35 = .ok (.iconst 0, 1) := by decide +kernel
theorem dX6_addVehicle_36 : decode cX6_addVehicle 36 = .ok (.iload 4, 2) := by decide +kernel
theorem dX6_addVehicle_38 : decode cX6_addVehicle 38 = .ok (.invokestatic 45, 3) := by decide +kernel
theorem dX6_addVehicle_41 : decode cX6_addVehicle 41 = .ok (.aload_n 0, 1) := by decide +kernel
theorem dX6_addVehicle_42 : decode cX6_addVehicle 42 = .ok (.getfield 19, 3) := by decide +kernel
theorem dX6_addVehicle_45 : decode cX6_addVehicle 45 = .ok (.iload_n 1, 1) := by decide +kernel
theorem dX6_addVehicle_46 : decode cX6_addVehicle 46 = .ok (.invokevirtual 169, 3) := by decide +kernel
theorem dX6_addVehicle_49 : decode cX6_addVehicle 49 = .ok (.ifCond .eq 14, 3) := by decide +kernel
theorem dX6_addVehicle_52 : decode cX6_addVehicle 52 = .ok (.aload_n 0, 1) := by decide +kernel
theorem dX6_addVehicle_53 : decode cX6_addVehicle 53 = .ok (.getfield 19, 3) := by decide +kernel
theorem dX6_addVehicle_56 : decode cX6_addVehicle 56 = .ok (.iload_n 1, 1) := by decide +kernel
theorem dX6_addVehicle_57 : decode cX6_addVehicle 57 = .ok (.invokevirtual 135, 3) := by decide +kernel
theorem dX6_addVehicle_60 : decode cX6_addVehicle 60 = .ok (.ifCond .eq 7, 3) := by decide +kernel
theorem dX6_addVehicle_63 : decode cX6_addVehicle 63 = .ok (.iconst 1, 1) := by decide +kernel
theorem dX6_addVehicle_64 : decode cX6_addVehicle 64 = .ok (.goto 4, 3) := by decide +kernel
theorem dX6_addVehicle_67 : decode cX6_addVehicle 67 = .ok (.iconst 0, 1) := by decide +kernel
theorem dX6_addVehicle_68 : decode cX6_addVehicle 68 = .ok (.invokestatic 53, 3) := by decide +kernel
theorem dX6_addVehicle_71 : decode cX6_addVehicle 71 = .ok (.aload_n 0, 1) := by decide +kernel
theorem dX6_addVehicle_72 : decode cX6_addVehicle 72 = .ok (.getfield 29, 3) := by decide +kernel
theorem dX6_addVehicle_75 : decode cX6_addVehicle 75 = .ok (.aload_n 0, 1) := by decide +kernel
theorem dX6_addVehicle_76 : decode cX6_addVehicle 76 = .ok (.getfield 19, 3) := by decide +kernel
theorem dX6_addVehicle_79 : decode cX6_addVehicle 79 = .ok (.invokevirtual 153, 3) := by decide +kernel
theorem dX6_addVehicle_82 : decode cX6_addVehicle 82 = .ok (.aload_n 0, 1) := by decide +kernel
theorem dX6_addVehicle_83 : decode cX6_addVehicle 83 = .ok (.getfield 19, 3) := by decide +kernel
theorem dX6_addVehicle_86 : decode cX6_addVehicle 86 = .ok (.iload_n 1, 1) := by decide +kernel
theorem dX6_addVehicle_87 : decode cX6_addVehicle 87 = .ok (.iload_n 2, 1) := by decide +kernel
theorem dX6_addVehicle_88 : decode cX6_addVehicle 88 = .ok (.iload_n 3, 1) := by decide +kernel
theorem dX6_addVehicle_89 : decode cX6_addVehicle 89 = .ok (.iload 4, 2) := by decide +kernel
theorem dX6_addVehicle_91 : decode cX6_addVehicle 91 = .ok (.iload 5, 2) := by decide +kernel
theorem dX6_addVehicle_93 : decode cX6_addVehicle 93 = .ok (.invokevirtual 172, 3) := by decide +kernel
theorem dX6_addVehicle_96 : decode cX6_addVehicle 96 = .ok (.ireturn, 1) := by decide +kernel
theorem dX6_hold_0 : decode cX6_hold 0 = .ok (.aload_n 0, 1) := by decide +kernel
theorem dX6_hold_1 : decode cX6_hold 1 = .ok (.getfield 19, 3) := by decide +kernel
theorem dX6_hold_4 : decode cX6_hold 4 = .ok (.getfield 102, 3) := by decide +kernel
theorem dX6_hold_7 : decode cX6_hold 7 = .ok (.iload_n 1, 1) := by decide +kernel
theorem dX6_hold_8 : decode cX6_hold 8 = .ok (.invokestatic 112, 3) := by decide +kernel
theorem dX6_hold_11 : decode cX6_hold 11 = .ok (.iload_n 2, 1) := by decide +kernel
theorem dX6_hold_12 : decode cX6_hold 12 = .ok (.iconst 0, 1) := by decide +kernel
theorem dX6_hold_13 : decode cX6_hold 13 = .ok (.bipush 23, 2) := by decide +kernel
theorem dX6_hold_15 : decode cX6_hold 15 = .ok (.invokestatic 45, 3) := by decide +kernel
theorem dX6_hold_18 : decode cX6_hold 18 = .ok (.aload_n 0, 1) := by decide +kernel
theorem dX6_hold_19 : decode cX6_hold 19 = .ok (.getfield 29, 3) := by decide +kernel
theorem dX6_hold_22 : decode cX6_hold 22 = .ok (.aload_n 0, 1) := by decide +kernel
theorem dX6_hold_23 : decode cX6_hold 23 = .ok (.getfield 19, 3) := by decide +kernel
theorem dX6_hold_26 : decode cX6_hold 26 = .ok (.invokevirtual 153, 3) := by decide +kernel
theorem dX6_hold_29 : decode cX6_hold 29 = .ok (.aload_n 0, 1) := by decide +kernel
theorem dX6_hold_30 : decode cX6_hold 30 = .ok (.getfield 19, 3) := by decide +kernel
theorem dX6_hold_33 : decode cX6_hold 33 = .ok (.getfield 102, 3) := by decide +kernel
theorem dX6_hold_36 : decode cX6_hold 36 = .ok (.iload_n 1, 1) := by decide +kernel
theorem dX6_hold_37 : decode cX6_hold 37 = .ok (.iconst 1, 1) := by decide +kernel
theorem dX6_hold_38 : decode cX6_hold 38 = .ok (.invokevirtual 116, 3) := by decide +kernel
theorem dX6_hold_41 : decode cX6_hold 41 = .ok (.istore_n 3, 1) := by decide +kernel
theorem dX6_hold_42 : decode cX6_hold 42 = .ok (.aload_n 0, 1) := by decide +kernel
theorem dX6_hold_43 : decode cX6_hold 43 = .ok (.getfield 19, 3) := by decide +kernel
theorem dX6_hold_46 : decode cX6_hold 46 = .ok (.getfield 102, 3) := by decide +kernel
theorem dX6_hold_49 : decode cX6_hold 49 = .ok (.iload_n 1, 1) := by decide +kernel
theorem dX6_hold_50 : decode cX6_hold 50 = .ok (.iconst 1, 1) := by decide +kernel
theorem dX6_hold_51 : decode cX6_hold 51 = .ok (.iload_n 2, 1) := by decide +kernel
theorem dX6_hold_52 : decode cX6_hold 52 = .ok (.invokevirtual 176, 3) := by decide +kernel
theorem dX6_hold_55 : decode cX6_hold 55 = .ok (.iload_n 3, 1) := by decide +kernel
theorem dX6_hold_56 : decode cX6_hold 56 = .ok (.ireturn, 1) := by decide +kernel
theorem dX6_supply_0 : decode cX6_supply 0 = .ok (.aload_n 0, 1) := by decide +kernel
theorem dX6_supply_1 : decode cX6_supply 1 = .ok (.getfield 19, 3) := by decide +kernel
theorem dX6_supply_4 : decode cX6_supply 4 = .ok (.getfield 99, 3) := by decide +kernel
theorem dX6_supply_7 : decode cX6_supply 7 = .ok (.iload_n 1, 1) := by decide +kernel
theorem dX6_supply_8 : decode cX6_supply 8 = .ok (.invokestatic 112, 3) := by decide +kernel
theorem dX6_supply_11 : decode cX6_supply 11 = .ok (.iload_n 2, 1) := by decide +kernel
theorem dX6_supply_12 : decode cX6_supply 12 = .ok (.iconst 1, 1) := by decide +kernel
theorem dX6_supply_13 : decode cX6_supply 13 = .ok (.sipush 500, 3) := by decide +kernel
theorem dX6_supply_16 : decode cX6_supply 16 = .ok (.invokestatic 45, 3) := by decide +kernel
theorem dX6_supply_19 : decode cX6_supply 19 = .ok (.aload_n 0, 1) := by decide +kernel
theorem dX6_supply_20 : decode cX6_supply 20 = .ok (.getfield 19, 3) := by decide +kernel
theorem dX6_supply_23 : decode cX6_supply 23 = .ok (.getfield 99, 3) := by decide +kernel
theorem dX6_supply_26 : decode cX6_supply 26 = .ok (.iload_n 1, 1) := by decide +kernel
theorem dX6_supply_27 : decode cX6_supply 27 = .ok (.iconst 1, 1) := by decide +kernel
theorem dX6_supply_28 : decode cX6_supply 28 = .ok (.invokevirtual 116, 3) := by decide +kernel
theorem dX6_supply_31 : decode cX6_supply 31 = .ok (.iload_n 2, 1) := by decide +kernel
theorem dX6_supply_32 : decode cX6_supply 32 = .ok (.iadd, 1) := by decide +kernel
theorem dX6_supply_33 : decode cX6_supply 33 = .ok (.sipush 999, 3) := by decide +kernel
theorem dX6_supply_36 : decode cX6_supply 36 = .ok (.if_icmp .le 7, 3) := by decide +kernel
theorem dX6_supply_39 : decode cX6_supply 39 = .ok (.iconst 1, 1) := by decide +kernel
theorem dX6_supply_40 : decode cX6_supply 40 = .ok (.goto 4, 3) := by decide +kernel
theorem dX6_supply_43 : decode cX6_supply 43 = .ok (.iconst 0, 1) := by decide +kernel
theorem dX6_supply_44 : decode cX6_supply 44 = .ok (.invokestatic 53, 3) := by decide +kernel
theorem dX6_supply_47 : decode cX6_supply 47 = .ok (.aload_n 0, 1) := by decide +kernel
theorem dX6_supply_48 : decode cX6_supply 48 = .ok (.getfield 29, 3) := by decide +kernel
theorem dX6_supply_51 : decode cX6_supply 51 = .ok (.aload_n 0, 1) := by decide +kernel
theorem dX6_supply_52 : decode cX6_supply 52 = .ok (.getfield 19, 3) := by decide +kernel
theorem dX6_supply_55 : decode cX6_supply 55 = .ok (.invokevirtual 153, 3) := by decide +kernel
theorem dX6_supply_58 : decode cX6_supply 58 = .ok (.aload_n 0, 1) := by decide +kernel
theorem dX6_supply_59 : decode cX6_supply 59 = .ok (.getfield 19, 3) := by decide +kernel
theorem dX6_supply_62 : decode cX6_supply 62 = .ok (.getfield 99, 3) := by decide +kernel
theorem dX6_supply_65 : decode cX6_supply 65 = .ok (.iload_n 1, 1) := by decide +kernel
theorem dX6_supply_66 : decode cX6_supply 66 = .ok (.iconst 1, 1) := by decide +kernel
theorem dX6_supply_67 : decode cX6_supply 67 = .ok (.iload_n 2, 1) := by decide +kernel
theorem dX6_supply_68 : decode cX6_supply 68 = .ok (.invokevirtual 179, 3) := by decide +kernel
theorem dX6_supply_71 : decode cX6_supply 71 = .ok (.aload_n 0, 1) := by decide +kernel
theorem dX6_supply_72 : decode cX6_supply 72 = .ok (.getfield 19, 3) := by decide +kernel
theorem dX6_supply_75 : decode cX6_supply 75 = .ok (.getfield 99, 3) := by decide +kernel
theorem dX6_supply_78 : decode cX6_supply 78 = .ok (.iload_n 1, 1) := by decide +kernel
theorem dX6_supply_79 : decode cX6_supply 79 = .ok (.iconst 1, 1) := by decide +kernel
theorem dX6_supply_80 : decode cX6_supply 80 = .ok (.invokevirtual 116, 3) := by decide +kernel
theorem dX6_supply_83 : decode cX6_supply 83 = .ok (.ireturn, 1) := by decide +kernel
theorem dX6_pass_0 : decode cX6_pass 0 = .ok (.iload_n 1, 1) := by decide +kernel
theorem dX6_pass_1 : decode cX6_pass 1 = .ok (.iconst 1, 1) := by decide +kernel
theorem dX6_pass_2 : decode cX6_pass 2 = .ok (.bipush 99, 2) := by decide +kernel
theorem dX6_pass_4 : decode cX6_pass 4 = .ok (.invokestatic 45, 3) := by decide +kernel
theorem dX6_pass_7 : decode cX6_pass 7 = .ok (.aload_n 0, 1) := by decide +kernel
theorem dX6_pass_8 : decode cX6_pass 8 = .ok (.getfield 29, 3) := by decide +kernel
theorem dX6_pass_11 : decode cX6_pass 11 = .ok (.aload_n 0, 1) := by decide +kernel
theorem dX6_pass_12 : decode cX6_pass 12 = .ok (.getfield 19, 3) := by decide +kernel
theorem dX6_pass_15 : decode cX6_pass 15 = .ok (.invokevirtual 153, 3) := by decide +kernel
theorem dX6_pass_18 : decode cX6_pass 18 = .ok (.aload_n 0, 1) := by decide +kernel
theorem dX6_pass_19 : decode cX6_pass 19 = .ok (.getfield 19, 3) := by decide +kernel
theorem dX6_pass_22 : decode cX6_pass 22 = .ok (.iconst 2, 1) := by decide +kernel
theorem dX6_pass_23 : decode cX6_pass 23 = .ok (.invokevirtual 105, 3) := by decide +kernel
theorem dX6_pass_26 : decode cX6_pass 26 = .ok (.istore_n 2, 1) := by decide +kernel
theorem dX6_pass_27 : decode cX6_pass 27 = .ok (.aload_n 0, 1) := by decide +kernel
theorem dX6_pass_28 : decode cX6_pass 28 = .ok (.getfield 19, 3) := by decide +kernel
theorem dX6_pass_31 : decode cX6_pass 31 = .ok (.iload_n 1, 1) := by decide +kernel
theorem dX6_pass_32 : decode cX6_pass 32 = .ok (.invokevirtual 182, 3) := by decide +kernel
theorem dX6_pass_35 : decode cX6_pass 35 = .ok (.pop, 1) := by decide +kernel
theorem dX6_pass_36 : decode cX6_pass 36 = .ok (.aload_n 0, 1) := by decide +kernel
theorem dX6_pass_37 : decode cX6_pass 37 = .ok (.getfield 19, 3) := by decide +kernel
theorem dX6_pass_40 : decode cX6_pass 40 = .ok (.iconst 2, 1) := by decide +kernel
theorem dX6_pass_41 : decode cX6_pass 41 = .ok (.invokevirtual 105, 3) := by decide +kernel
theorem dX6_pass_44 : decode cX6_pass 44 = .ok (.iload_n 2, 1) := by decide +kernel
theorem dX6_pass_45 : decode cX6_pass 45 = .ok (.isub, 1) := by decide +kernel
theorem dX6_pass_46 : decode cX6_pass 46 = .ok (.ireturn, 1) := by decide +kernel
theorem dX6_undo_0 : decode cX6_undo 0 = .ok (.aload_n 0, 1) := by decide +kernel
theorem dX6_undo_1 : decode cX6_undo 1 = .ok (.getfield 29, 3) := by decide +kernel
theorem dX6_undo_4 : decode cX6_undo 4 = .ok (.invokevirtual 185, 3) := by decide +kernel
theorem dX6_undo_7 : decode cX6_undo 7 = .ok (.ifCond .ne 7, 3) := by decide +kernel
theorem dX6_undo_10 : decode cX6_undo 10 = .ok (.iconst 1, 1) := by decide +kernel
theorem dX6_undo_11 : decode cX6_undo 11 = .ok (.goto 4, 3) := by decide +kernel
theorem dX6_undo_14 : decode cX6_undo 14 = .ok (.iconst 0, 1) := by decide +kernel
theorem dX6_undo_15 : decode cX6_undo 15 = .ok (.invokestatic 53, 3) := by decide +kernel
theorem dX6_undo_18 : decode cX6_undo 18 = .ok (.aload_n 0, 1) := by decide +kernel
theorem dX6_undo_19 : decode cX6_undo 19 = .ok (.getfield 29, 3) := by decide +kernel
theorem dX6_undo_22 : decode cX6_undo 22 = .ok (.aload_n 0, 1) := by decide +kernel
theorem dX6_undo_23 : decode cX6_undo 23 = .ok (.getfield 19, 3) := by decide +kernel
theorem dX6_undo_26 : decode cX6_undo 26 = .ok (.invokevirtual 187, 3) := by decide +kernel
theorem dX6_undo_29 : decode cX6_undo 29 = .ok (.aload_n 0, 1) := by decide +kernel
theorem dX6_undo_30 : decode cX6_undo 30 = .ok (.getfield 29, 3) := by decide +kernel
theorem dX6_undo_33 : decode cX6_undo 33 = .ok (.invokevirtual 185, 3) := by decide +kernel
theorem dX6_undo_36 : decode cX6_undo 36 = .ok (.ireturn, 1) := by decide +kernel
theorem dX6_arrives_0 : decode cX6_arrives 0 = .ok (.aload_n 0, 1) := by decide +kernel
theorem dX6_arrives_1 : decode cX6_arrives 1 = .ok (.getfield 19, 3) := by decide +kernel
theorem dX6_arrives_4 : decode cX6_arrives 4 = .ok (.getfield 102, 3) := by decide +kernel
theorem dX6_arrives_7 : decode cX6_arrives 7 = .ok (.iload_n 1, 1) := by decide +kernel
theorem dX6_arrives_8 : decode cX6_arrives 8 = .ok (.invokestatic 112, 3) := by decide +kernel
theorem dX6_arrives_11 : decode cX6_arrives 11 = .ok (.aload_n 0, 1) := by decide +kernel
theorem dX6_arrives_12 : decode cX6_arrives 12 = .ok (.getfield 23, 3) := by decide +kernel
theorem dX6_arrives_15 : decode cX6_arrives 15 = .ok (.aload_n 0, 1) := by decide +kernel
theorem dX6_arrives_16 : decode cX6_arrives 16 = .ok (.getfield 19, 3) := by decide +kernel
theorem dX6_arrives_19 : decode cX6_arrives 19 = .ok (.invokevirtual 69, 3) := by decide +kernel
theorem dX6_arrives_22 : decode cX6_arrives 22 = .ok (.aload_n 0, 1) := by decide +kernel
theorem dX6_arrives_23 : decode cX6_arrives 23 = .ok (.getfield 23, 3) := by decide +kernel
theorem dX6_arrives_26 : decode cX6_arrives 26 = .ok (.iload_n 1, 1) := by decide +kernel
theorem dX6_arrives_27 : decode cX6_arrives 27 = .ok (.invokevirtual 190, 3) := by decide +kernel
theorem dX6_arrives_30 : decode cX6_arrives 30 = .ok (.ireturn, 1) := by decide +kernel
theorem dX6_leaves_0 : decode cX6_leaves 0 = .ok (.aload_n 0, 1) := by decide +kernel
theorem dX6_leaves_1 : decode cX6_leaves 1 = .ok (.getfield 19, 3) := by decide +kernel
theorem dX6_leaves_4 : decode cX6_leaves 4 = .ok (.getfield 102, 3) := by decide +kernel
theorem dX6_leaves_7 : decode cX6_leaves 7 = .ok (.iload_n 1, 1) := by decide +kernel
theorem dX6_leaves_8 : decode cX6_leaves 8 = .ok (.invokestatic 112, 3) := by decide +kernel
theorem dX6_leaves_11 : decode cX6_leaves 11 = .ok (.aload_n 0, 1) := by decide +kernel
theorem dX6_leaves_12 : decode cX6_leaves 12 = .ok (.getfield 23, 3) := by decide +kernel
theorem dX6_leaves_15 : decode cX6_leaves 15 = .ok (.aload_n 0, 1) := by decide +kernel
theorem dX6_leaves_16 : decode cX6_leaves 16 = .ok (.getfield 19, 3) := by decide +kernel
theorem dX6_leaves_19 : decode cX6_leaves 19 = .ok (.invokevirtual 69, 3) := by decide +kernel
theorem dX6_leaves_22 : decode cX6_leaves 22 = .ok (.aload_n 0, 1) := by decide +kernel
theorem dX6_leaves_23 : decode cX6_leaves 23 = .ok (.getfield 23, 3) := by decide +kernel
theorem dX6_leaves_26 : decode cX6_leaves 26 = .ok (.iload_n 1, 1) := by decide +kernel
theorem dX6_leaves_27 : decode cX6_leaves 27 = .ok (.invokevirtual 193, 3) := by decide +kernel
theorem dX6_leaves_30 : decode cX6_leaves 30 = .ok (.ireturn, 1) := by decide +kernel
theorem dX6_bestHold_0 : decode cX6_bestHold 0 = .ok (.aload_n 0, 1) := by decide +kernel
theorem dX6_bestHold_1 : decode cX6_bestHold 1 = .ok (.getfield 19, 3) := by decide +kernel
theorem dX6_bestHold_4 : decode cX6_bestHold 4 = .ok (.getfield 102, 3) := by decide +kernel
theorem dX6_bestHold_7 : decode cX6_bestHold 7 = .ok (.iload_n 1, 1) := by decide +kernel
theorem dX6_bestHold_8 : decode cX6_bestHold 8 = .ok (.invokestatic 112, 3) := by decide +kernel
theorem dX6_bestHold_11 : decode cX6_bestHold 11 = .ok (.aload_n 0, 1) := by decide +kernel
theorem dX6_bestHold_12 : decode cX6_bestHold 12 = .ok (.getfield 19, 3) := by decide +kernel
theorem dX6_bestHold_15 : decode cX6_bestHold 15 = .ok (.iload_n 1, 1) := by decide +kernel
theorem dX6_bestHold_16 : decode cX6_bestHold 16 = .ok (.invokevirtual 135, 3) := by decide +kernel
theorem dX6_bestHold_19 : decode cX6_bestHold 19 = .ok (.ifCond .eq 5, 3) := by decide +kernel
theorem dX6_bestHold_22 : decode cX6_bestHold 22 = .ok (.iconst 0, 1) := by decide +kernel
theorem dX6_bestHold_23 : decode cX6_bestHold 23 = .ok (.ireturn, 1) := by decide +kernel
theorem dX6_bestHold_24 : decode cX6_bestHold 24 = .ok (.bipush (-9), 2) := by decide +kernel
theorem dX6_bestHold_26 : decode cX6_bestHold 26 = .ok (.istore_n 2, 1) := by decide +kernel
theorem dX6_bestHold_27 : decode cX6_bestHold 27 = .ok (.sipush 301, 3) := by decide +kernel
theorem dX6_bestHold_30 : decode cX6_bestHold 30 = .ok (.istore_n 3, 1) := by decide +kernel
theorem dX6_bestHold_31 : decode cX6_bestHold 31 = .ok (.iconst 0, 1) := by decide +kernel
theorem dX6_bestHold_32 : decode cX6_bestHold 32 = .ok (.istore 4, 2) := by decide +kernel
theorem dX6_bestHold_34 : decode cX6_bestHold 34 = .ok (.iload 4, 2) := by decide +kernel
theorem dX6_bestHold_36 : decode cX6_bestHold 36 = .ok (.bipush 23, 2) := by decide +kernel
theorem dX6_bestHold_38 : decode cX6_bestHold 38 = .ok (.if_icmp .gt 69, 3) := by decide +kernel
theorem dX6_bestHold_41 : decode cX6_bestHold 41 = .ok (.aload_n 0, 1) := by decide +kernel
theorem dX6_bestHold_42 : decode cX6_bestHold 42 = .ok (.getfield 23, 3) := by decide +kernel
theorem dX6_bestHold_45 : decode cX6_bestHold 45 = .ok (.aload_n 0, 1) := by decide +kernel
theorem dX6_bestHold_46 : decode cX6_bestHold 46 = .ok (.getfield 19, 3) := by decide +kernel
theorem dX6_bestHold_49 : decode cX6_bestHold 49 = .ok (.invokevirtual 69, 3) := by decide +kernel
theorem dX6_bestHold_52 : decode cX6_bestHold 52 = .ok (.aload_n 0, 1) := by decide +kernel
theorem dX6_bestHold_53 : decode cX6_bestHold 53 = .ok (.getfield 23, 3) := by decide +kernel
theorem dX6_bestHold_56 : decode cX6_bestHold 56 = .ok (.getfield 102, 3) := by decide +kernel
theorem dX6_bestHold_59 : decode cX6_bestHold 59 = .ok (.iload_n 1, 1) := by decide +kernel
theorem dX6_bestHold_60 : decode cX6_bestHold 60 = .ok (.iconst 1, 1) := by decide +kernel
theorem dX6_bestHold_61 : decode cX6_bestHold 61 = .ok (.iload 4, 2) := by decide +kernel
theorem dX6_bestHold_63 : decode cX6_bestHold 63 = .ok (.invokevirtual 176, 3) := by decide +kernel
theorem dX6_bestHold_66 : decode cX6_bestHold 66 = .ok (.aload_n 0, 1) := by decide +kernel
theorem dX6_bestHold_67 : decode cX6_bestHold 67 = .ok (.getfield 23, 3) := by decide +kernel
theorem dX6_bestHold_70 : decode cX6_bestHold 70 = .ok (.iload_n 1, 1) := by decide +kernel
theorem dX6_bestHold_71 : decode cX6_bestHold 71 = .ok (.invokevirtual 190, 3) := by decide +kernel
theorem dX6_bestHold_74 : decode cX6_bestHold 74 = .ok (.istore 5, 2) := by decide +kernel
theorem dX6_bestHold_76 : decode cX6_bestHold 76 = .ok (.iload 5, 2) := by decide +kernel
theorem dX6_bestHold_78 : decode cX6_bestHold 78 = .ok (.bipush (-9), 2) := by decide +kernel
theorem dX6_bestHold_80 : decode cX6_bestHold 80 = .ok (.if_icmp .eq 21, 3) := by decide +kernel
theorem dX6_bestHold_83 : decode cX6_bestHold 83 = .ok (.iload 5, 2) := by decide +kernel
theorem dX6_bestHold_85 : decode cX6_bestHold 85 = .ok (.iload 4, 2) := by decide +kernel
theorem dX6_bestHold_87 : decode cX6_bestHold 87 = .ok (.isub, 1) := by decide +kernel
theorem dX6_bestHold_88 : decode cX6_bestHold 88 = .ok (.iload_n 3, 1) := by decide +kernel
theorem dX6_bestHold_89 : decode cX6_bestHold 89 = .ok (.if_icmp .ge 12, 3) := by decide +kernel
theorem dX6_bestHold_92 : decode cX6_bestHold 92 = .ok (.iload 4, 2) := by decide +kernel
theorem dX6_bestHold_94 : decode cX6_bestHold 94 = .ok (.istore_n 2, 1) := by decide +kernel
theorem dX6_bestHold_95 : decode cX6_bestHold 95 = .ok (.iload 5, 2) := by decide +kernel
theorem dX6_bestHold_97 : decode cX6_bestHold 97 = .ok (.iload 4, 2) := by decide +kernel
theorem dX6_bestHold_99 : decode cX6_bestHold 99 = .ok (.isub, 1) := by decide +kernel
theorem dX6_bestHold_100 : decode cX6_bestHold 100 = .ok (.istore_n 3, 1) := by decide +kernel
theorem dX6_bestHold_101 : decode cX6_bestHold 101 = .ok (.iinc 4 1, 3) := by decide +kernel
theorem dX6_bestHold_104 : decode cX6_bestHold 104 = .ok (.goto (-70), 3) := by decide +kernel
theorem dX6_bestHold_107 : decode cX6_bestHold 107 = .ok (.iload_n 2, 1) := by decide +kernel
theorem dX6_bestHold_108 : decode cX6_bestHold 108 = .ok (.ireturn, 1) := by decide +kernel
theorem dX6_lacks_0 : decode cX6_lacks 0 = .ok (.aload_n 0, 1) := by decide +kernel
theorem dX6_lacks_1 : decode cX6_lacks 1 = .ok (.getfield 19, 3) := by decide +kernel
theorem dX6_lacks_4 : decode cX6_lacks 4 = .ok (.getfield 99, 3) := by decide +kernel
theorem dX6_lacks_7 : decode cX6_lacks 7 = .ok (.iload_n 1, 1) := by decide +kernel
theorem dX6_lacks_8 : decode cX6_lacks 8 = .ok (.invokestatic 112, 3) := by decide +kernel
theorem dX6_lacks_11 : decode cX6_lacks 11 = .ok (.iconst 0, 1) := by decide +kernel
theorem dX6_lacks_12 : decode cX6_lacks 12 = .ok (.istore_n 2, 1) := by decide +kernel
theorem dX6_lacks_13 : decode cX6_lacks 13 = .ok (.iload_n 2, 1) := by decide +kernel
theorem dX6_lacks_14 : decode cX6_lacks 14 = .ok (.bipush 40, 2) := by decide +kernel
theorem dX6_lacks_16 : decode cX6_lacks 16 = .ok (.if_icmp .gt 45, 3) := by decide +kernel
theorem dX6_lacks_19 : decode cX6_lacks 19 = .ok (.aload_n 0, 1) := by decide +kernel
theorem dX6_lacks_20 : decode cX6_lacks 20 = .ok (.getfield 23, 3) := by decide +kernel
theorem dX6_lacks_23 : decode cX6_lacks 23 = .ok (.aload_n 0, 1) := by decide +kernel
theorem dX6_lacks_24 : decode cX6_lacks 24 = .ok (.getfield 19, 3) := by decide +kernel
theorem dX6_lacks_27 : decode cX6_lacks 27 = .ok (.invokevirtual 69, 3) := by decide +kernel
theorem dX6_lacks_30 : decode cX6_lacks 30 = .ok (.aload_n 0, 1) := by decide +kernel
theorem dX6_lacks_31 : decode cX6_lacks 31 = .ok (.getfield 23, 3) := by decide +kernel
theorem dX6_lacks_34 : decode cX6_lacks 34 = .ok (.getfield 99, 3) := by decide +kernel
theorem dX6_lacks_37 : decode cX6_lacks 37 = .ok (.iload_n 1, 1) := by decide +kernel
theorem dX6_lacks_38 : decode cX6_lacks 38 = .ok (.iconst 1, 1) := by decide +kernel
theorem dX6_lacks_39 : decode cX6_lacks 39 = .ok (.iload_n 2, 1) := by decide +kernel
theorem dX6_lacks_40 : decode cX6_lacks 40 = .ok (.invokevirtual 179, 3) := by decide +kernel
theorem dX6_lacks_43 : decode cX6_lacks 43 = .ok (.aload_n 0, 1) := by decide +kernel
theorem dX6_lacks_44 : decode cX6_lacks 44 = .ok (.getfield 23, 3) := by decide +kernel
theorem dX6_lacks_47 : decode cX6_lacks 47 = .ok (.invokevirtual 196, 3) := by decide +kernel
theorem dX6_lacks_50 : decode cX6_lacks 50 = .ok (.ifCond .eq 5, 3) := by decide +kernel
theorem dX6_lacks_53 : decode cX6_lacks 53 = .ok (.iload_n 2, 1) := by decide +kernel
theorem dX6_lacks_54 : decode cX6_lacks 54 = .ok (.ireturn, 1) := by decide +kernel
theorem dX6_lacks_55 : decode cX6_lacks 55 = .ok (.iinc 2 1, 3) := by decide +kernel
theorem dX6_lacks_58 : decode cX6_lacks 58 = .ok (.goto (-45), 3) := by decide +kernel
theorem dX6_lacks_61 : decode cX6_lacks 61 = .ok (.bipush (-9), 2) := by decide +kernel
theorem dX6_lacks_63 : decode cX6_lacks 63 = .ok (.ireturn, 1) := by decide +kernel
theorem dX6_runScript_0 : decode cX6_runScript 0 = .ok (.iload_n 1, 1) := by decide +kernel
theorem dX6_runScript_1 : decode cX6_runScript 1 = .ok (.iconst 1, 1) := by decide +kernel
theorem dX6_runScript_2 : decode cX6_runScript 2 = .ok (.iconst 3, 1) := by decide +kernel
theorem dX6_runScript_3 : decode cX6_runScript 3 = .ok (.invokestatic 45, 3) := by decide +kernel
theorem dX6_runScript_6 : decode cX6_runScript 6 = .ok (.lconst 1, 1) := by decide +kernel
theorem dX6_runScript_7 : decode cX6_runScript 7 = .ok (.lstore 4, 2) := by decide +kernel
theorem dX6_runScript_9 : decode cX6_runScript 9 = .ok (.iconst 0, 1) := by decide +kernel
theorem dX6_runScript_10 : decode cX6_runScript 10 = .ok (.istore 6, 2) := by decide +kernel
theorem dX6_runScript_12 : decode cX6_runScript 12 = .ok (.iload 6, 2) := by decide +kernel
theorem dX6_runScript_14 : decode cX6_runScript 14 = .ok (.iload_n 1, 1) := by decide +kernel
theorem dX6_runScript_15 : decode cX6_runScript 15 = .ok (.if_icmp .ge 17, 3) := by decide +kernel
theorem dX6_runScript_18 : decode cX6_runScript 18 = .ok (.lload 4, 2) := by decide +kernel
theorem dX6_runScript_20 : decode cX6_runScript 20 = .ok (.ldc2_w 199, 3) := by decide +kernel
theorem dX6_runScript_23 : decode cX6_runScript 23 = .ok (.lmul, 1) := by decide +kernel
theorem dX6_runScript_24 : decode cX6_runScript 24 = .ok (.lstore 4, 2) := by decide +kernel
theorem dX6_runScript_26 : decode cX6_runScript 26 = .ok (.iinc 6 1, 3) := by decide +kernel
theorem dX6_runScript_29 : decode cX6_runScript 29 = .ok (.goto (-17), 3) := by decide +kernel
theorem dX6_runScript_32 : decode cX6_runScript 32 = .ok (.lload_n 2, 1) := by decide +kernel
theorem dX6_runScript_33 : decode cX6_runScript 33 = .ok (.lconst 0, 1) := by decide +kernel
theorem dX6_runScript_34 : decode cX6_runScript 34 = .ok (.lcmp, 1) := by decide +kernel
theorem dX6_runScript_35 : decode cX6_runScript 35 = .ok (.ifCond .lt 10, 3) := by decide +kernel
theorem dX6_runScript_38 : decode cX6_runScript 38 = .ok (.lload_n 2, 1) := by decide +kernel
theorem dX6_runScript_39 : decode cX6_runScript 39 = .ok (.lload 4, 2) := by decide +kernel
theorem dX6_runScript_41 : decode cX6_runScript 41 = .ok (.lcmp, 1) := by decide +kernel
theorem dX6_runScript_42 : decode cX6_runScript 42 = .ok (.ifCond .lt 7, 3) := by decide +kernel
theorem dX6_runScript_45 : decode cX6_runScript 45 = .ok (.iconst 1, 1) := by decide +kernel
theorem dX6_runScript_46 : decode cX6_runScript 46 = .ok (.goto 4, 3) := by decide +kernel
theorem dX6_runScript_49 : decode cX6_runScript 49 = .ok (.iconst 0, 1) := by decide +kernel
theorem dX6_runScript_50 : decode cX6_runScript 50 = .ok (.invokestatic 139, 3) := by decide +kernel
theorem dX6_runScript_53 : decode cX6_runScript 53 = .ok (.aload_n 0, 1) := by decide +kernel
theorem dX6_runScript_54 : decode cX6_runScript 54 = .ok (.getfield 23, 3) := by decide +kernel
theorem dX6_runScript_57 : decode cX6_runScript 57 = .ok (.aload_n 0, 1) := by decide +kernel
theorem dX6_runScript_58 : decode cX6_runScript 58 = .ok (.getfield 19, 3) := by decide +kernel
theorem dX6_runScript_61 : decode cX6_runScript 61 = .ok (.invokevirtual 69, 3) := by decide +kernel
theorem dX6_runScript_64 : decode cX6_runScript 64 = .ok (.iconst 0, 1) := by decide +kernel
theorem dX6_runScript_65 : decode cX6_runScript 65 = .ok (.istore 6, 2) := by decide +kernel
theorem dX6_runScript_67 : decode cX6_runScript 67 = .ok (.iload 6, 2) := by decide +kernel
theorem dX6_runScript_69 : decode cX6_runScript 69 = .ok (.iload_n 1, 1) := by decide +kernel
theorem dX6_runScript_70 : decode cX6_runScript 70 = .ok (.if_icmp .ge 32, 3) := by decide +kernel
theorem dX6_runScript_73 : decode cX6_runScript 73 = .ok (.aload_n 0, 1) := by decide +kernel
theorem dX6_runScript_74 : decode cX6_runScript 74 = .ok (.getfield 23, 3) := by decide +kernel
theorem dX6_runScript_77 : decode cX6_runScript 77 = .ok (.lload_n 2, 1) := by decide +kernel
theorem dX6_runScript_78 : decode cX6_runScript 78 = .ok (.iload_n 1, 1) := by decide +kernel
theorem dX6_runScript_79 : decode cX6_runScript 79 = .ok (.iconst 1, 1) := by decide +kernel
theorem dX6_runScript_80 : decode cX6_runScript 80 = .ok (.isub, 1) := by decide +kernel
theorem dX6_runScript_81 : decode cX6_runScript 81 = .ok (.iload 6, 2) := by decide +kernel
theorem dX6_runScript_83 : decode cX6_runScript 83 = .ok (.isub, 1) := by decide +kernel
theorem dX6_runScript_84 : decode cX6_runScript 84 = .ok (.invokestatic 201, 3) := by decide +kernel
theorem dX6_runScript_87 : decode cX6_runScript 87 = .ok (.invokevirtual 205, 3) := by decide +kernel
theorem dX6_runScript_90 : decode cX6_runScript 90 = .ok (.ifCond .ne 6, 3) := by decide +kernel
theorem dX6_runScript_93 : decode cX6_runScript 93 = .ok (.iload 6, 2) := by decide +kernel
theorem dX6_runScript_95 : decode cX6_runScript 95 = .ok (.ireturn, 1) := by decide +kernel
theorem dX6_runScript_96 : decode cX6_runScript 96 = .ok (.iinc 6 1, 3) := by decide +kernel
theorem dX6_runScript_99 : decode cX6_runScript 99 = .ok (.goto (-32), 3) := by decide +kernel
theorem dX6_runScript_102 : decode cX6_runScript 102 = .ok (.bipush (-9), 2) := by decide +kernel
theorem dX6_runScript_104 : decode cX6_runScript 104 = .ok (.ireturn, 1) := by decide +kernel
theorem dX6_simulate_0 : decode cX6_simulate 0 = .ok (.iload_n 3, 1) := by decide +kernel
theorem dX6_simulate_1 : decode cX6_simulate 1 = .ok (.iconst 1, 1) := by decide +kernel
theorem dX6_simulate_2 : decode cX6_simulate 2 = .ok (.bipush 99, 2) := by decide +kernel
theorem dX6_simulate_4 : decode cX6_simulate 4 = .ok (.invokestatic 45, 3) := by decide +kernel
theorem dX6_simulate_7 : decode cX6_simulate 7 = .ok (.aload_n 0, 1) := by decide +kernel
theorem dX6_simulate_8 : decode cX6_simulate 8 = .ok (.getfield 23, 3) := by decide +kernel
theorem dX6_simulate_11 : decode cX6_simulate 11 = .ok (.aload_n 0, 1) := by decide +kernel
theorem dX6_simulate_12 : decode cX6_simulate 12 = .ok (.getfield 19, 3) := by decide +kernel
theorem dX6_simulate_15 : decode cX6_simulate 15 = .ok (.invokevirtual 69, 3) := by decide +kernel
theorem dX6_simulate_18 : decode cX6_simulate 18 = .ok (.aload_n 0, 1) := by decide +kernel
theorem dX6_simulate_19 : decode cX6_simulate 19 = .ok (.getfield 23, 3) := by decide +kernel
theorem dX6_simulate_22 : decode cX6_simulate 22 = .ok (.iconst 2, 1) := by decide +kernel
theorem dX6_simulate_23 : decode cX6_simulate 23 = .ok (.invokevirtual 105, 3) := by decide +kernel
theorem dX6_simulate_26 : decode cX6_simulate 26 = .ok (.istore 4, 2) := by decide +kernel
theorem dX6_simulate_28 : decode cX6_simulate 28 = .ok (.aload_n 0, 1) := by decide +kernel
theorem dX6_simulate_29 : decode cX6_simulate 29 = .ok (.getfield 23, 3) := by decide +kernel
theorem dX6_simulate_32 : decode cX6_simulate 32 = .ok (.getfield 78, 3) := by decide +kernel
theorem dX6_simulate_35 : decode cX6_simulate 35 = .ok (.bipush 6, 2) := by decide +kernel
theorem dX6_simulate_37 : decode cX6_simulate 37 = .ok (.invokevirtual 109, 3) := by decide +kernel
theorem dX6_simulate_40 : decode cX6_simulate 40 = .ok (.istore 5, 2) := by decide +kernel
theorem dX6_simulate_42 : decode cX6_simulate 42 = .ok (.lload_n 1, 1) := by decide +kernel
theorem dX6_simulate_43 : decode cX6_simulate 43 = .ok (.lstore 6, 2) := by decide +kernel
theorem dX6_simulate_45 : decode cX6_simulate 45 = .ok (.iconst 0, 1) := by decide +kernel
theorem dX6_simulate_46 : decode cX6_simulate 46 = .ok (.istore 8, 2) := by decide +kernel
theorem dX6_simulate_48 : decode cX6_simulate 48 = .ok (.iload 8, 2) := by decide +kernel
theorem dX6_simulate_50 : decode cX6_simulate 50 = .ok (.iload_n 3, 1) := by decide +kernel
theorem dX6_simulate_51 : decode cX6_simulate 51 = .ok (.if_icmp .ge 41, 3) := by decide +kernel
theorem dX6_simulate_54 : decode cX6_simulate 54 = .ok (.lload 6, 2) := by decide +kernel
theorem dX6_simulate_56 : decode cX6_simulate 56 = .ok (.ldc2_w 208, 3) := by decide +kernel
theorem dX6_simulate_59 : decode cX6_simulate 59 = .ok (.lmul, 1) := by decide +kernel
theorem dX6_simulate_60 : decode cX6_simulate 60 = .ok (.ldc2_w 210, 3) := by decide +kernel
theorem dX6_simulate_63 : decode cX6_simulate 63 = .ok (.ladd, 1) := by decide +kernel
theorem dX6_simulate_64 : decode cX6_simulate 64 = .ok (.lstore 6, 2) := by decide +kernel
theorem dX6_simulate_66 : decode cX6_simulate 66 = .ok (.aload_n 0, 1) := by decide +kernel
theorem dX6_simulate_67 : decode cX6_simulate 67 = .ok (.getfield 23, 3) := by decide +kernel
theorem dX6_simulate_70 : decode cX6_simulate 70 = .ok (.lload 6, 2) := by decide +kernel
theorem dX6_simulate_72 : decode cX6_simulate 72 = .ok (.bipush 33, 2) := by decide +kernel
theorem dX6_simulate_74 : decode cX6_simulate 74 = .ok (.lushr, 1) := by decide +kernel
theorem dX6_simulate_75 : decode cX6_simulate 75 = .ok (.l2i, 1) := by decide +kernel
theorem dX6_simulate_76 : decode cX6_simulate 76 = .ok (.invokevirtual 212, 3) := by decide +kernel
theorem dX6_simulate_79 : decode cX6_simulate 79 = .ok (.aload_n 0, 1) := by decide +kernel
theorem dX6_simulate_80 : decode cX6_simulate 80 = .ok (.getfield 23, 3) := by decide +kernel
theorem dX6_simulate_83 : decode cX6_simulate 83 = .ok (.invokevirtual 215, 3) := by decide +kernel
theorem dX6_simulate_86 : decode cX6_simulate 86 = .ok (.iinc 8 1, 3) := by decide +kernel
theorem dX6_simulate_89 : decode cX6_simulate 89 = .ok (.goto (-41), 3) := by decide +kernel
theorem dX6_simulate_92 : decode cX6_simulate 92 = .ok (.aload_n 0, 1) := by decide +kernel
theorem dX6_simulate_93 : decode cX6_simulate 93 = .ok (.getfield 23, 3) := by decide +kernel
theorem dX6_simulate_96 : decode cX6_simulate 96 = .ok (.iconst 2, 1) := by decide +kernel
theorem dX6_simulate_97 : decode cX6_simulate 97 = .ok (.invokevirtual 105, 3) := by decide +kernel
theorem dX6_simulate_100 : decode cX6_simulate 100 = .ok (.iload 4, 2) := by decide +kernel
theorem dX6_simulate_102 : decode cX6_simulate 102 = .ok (.isub, 1) := by decide +kernel
theorem dX6_simulate_103 : decode cX6_simulate 103 = .ok (.istore 8, 2) := by decide +kernel
theorem dX6_simulate_105 : decode cX6_simulate 105 = .ok (.sipush 10000, 3) := by decide +kernel
theorem dX6_simulate_108 : decode cX6_simulate 108 = .ok (.iload 8, 2) := by decide +kernel
theorem dX6_simulate_110 : decode cX6_simulate 110 = .ok (.imul, 1) := by decide +kernel
theorem dX6_simulate_111 : decode cX6_simulate 111 = .ok (.aload_n 0, 1) := by decide +kernel
theorem dX6_simulate_112 : decode cX6_simulate 112 = .ok (.getfield 23, 3) := by decide +kernel
theorem dX6_simulate_115 : decode cX6_simulate 115 = .ok (.getfield 78, 3) := by decide +kernel
theorem dX6_simulate_118 : decode cX6_simulate 118 = .ok (.bipush 6, 2) := by decide +kernel
theorem dX6_simulate_120 : decode cX6_simulate 120 = .ok (.invokevirtual 109, 3) := by decide +kernel
theorem dX6_simulate_123 : decode cX6_simulate 123 = .ok (.iadd, 1) := by decide +kernel
theorem dX6_simulate_124 : decode cX6_simulate 124 = .ok (.iload 5, 2) := by decide +kernel
theorem dX6_simulate_126 : decode cX6_simulate 126 = .ok (.isub, 1) := by decide +kernel
theorem dX6_simulate_127 : decode cX6_simulate 127 = .ok (.ireturn, 1) := by decide +kernel
theorem dX6_save_0 : decode cX6_save 0 = .ok (.iload_n 1, 1) := by decide +kernel
theorem dX6_save_1 : decode cX6_save 1 = .ok (.invokestatic 218, 3) := by decide +kernel
theorem dX6_save_4 : decode cX6_save 4 = .ok (.aload_n 0, 1) := by decide +kernel
theorem dX6_save_5 : decode cX6_save 5 = .ok (.getfield 38, 3) := by decide +kernel
theorem dX6_save_8 : decode cX6_save 8 = .ok (.iload_n 1, 1) := by decide +kernel
theorem dX6_save_9 : decode cX6_save 9 = .ok (.aload_n 0, 1) := by decide +kernel
theorem dX6_save_10 : decode cX6_save 10 = .ok (.getfield 19, 3) := by decide +kernel
theorem dX6_save_13 : decode cX6_save 13 = .ok (.invokevirtual 221, 3) := by decide +kernel
theorem dX6_save_16 : decode cX6_save 16 = .ok (.aload_n 0, 1) := by decide +kernel
theorem dX6_save_17 : decode cX6_save 17 = .ok (.getfield 19, 3) := by decide +kernel
theorem dX6_save_20 : decode cX6_save 20 = .ok (.invokevirtual 90, 3) := by decide +kernel
theorem dX6_save_23 : decode cX6_save 23 = .ok (.ireturn, 1) := by decide +kernel
theorem dX6_restore_0 : decode cX6_restore 0 = .ok (.iload_n 1, 1) := by decide +kernel
theorem dX6_restore_1 : decode cX6_restore 1 = .ok (.invokestatic 218, 3) := by decide +kernel
theorem dX6_restore_4 : decode cX6_restore 4 = .ok (.aload_n 0, 1) := by decide +kernel
theorem dX6_restore_5 : decode cX6_restore 5 = .ok (.getfield 38, 3) := by decide +kernel
theorem dX6_restore_8 : decode cX6_restore 8 = .ok (.iload_n 1, 1) := by decide +kernel
theorem dX6_restore_9 : decode cX6_restore 9 = .ok (.invokevirtual 225, 3) := by decide +kernel
theorem dX6_restore_12 : decode cX6_restore 12 = .ok (.ifCond .ne 7, 3) := by decide +kernel
theorem dX6_restore_15 : decode cX6_restore 15 = .ok (.iconst 1, 1) := by decide +kernel
theorem dX6_restore_16 : decode cX6_restore 16 = .ok (.goto 4, 3) := by decide +kernel
theorem dX6_restore_19 : decode cX6_restore 19 = .ok (.iconst 0, 1) := by decide +kernel
theorem dX6_restore_20 : decode cX6_restore 20 = .ok (.invokestatic 53, 3) := by decide +kernel
theorem dX6_restore_23 : decode cX6_restore 23 = .ok (.aload_n 0, 1) := by decide +kernel
theorem dX6_restore_24 : decode cX6_restore 24 = .ok (.getfield 38, 3) := by decide +kernel
theorem dX6_restore_27 : decode cX6_restore 27 = .ok (.iload_n 1, 1) := by decide +kernel
theorem dX6_restore_28 : decode cX6_restore 28 = .ok (.aload_n 0, 1) := by decide +kernel
theorem dX6_restore_29 : decode cX6_restore 29 = .ok (.getfield 19, 3) := by decide +kernel
theorem dX6_restore_32 : decode cX6_restore 32 = .ok (.invokevirtual 228, 3) := by decide +kernel
theorem dX6_restore_35 : decode cX6_restore 35 = .ok (.aload_n 0, 1) := by decide +kernel
theorem dX6_restore_36 : decode cX6_restore 36 = .ok (.getfield 29, 3) := by decide +kernel
theorem dX6_restore_39 : decode cX6_restore 39 = .ok (.invokevirtual 73, 3) := by decide +kernel
theorem dX6_restore_42 : decode cX6_restore 42 = .ok (.aload_n 0, 1) := by decide +kernel
theorem dX6_restore_43 : decode cX6_restore 43 = .ok (.getfield 19, 3) := by decide +kernel
theorem dX6_restore_46 : decode cX6_restore 46 = .ok (.invokevirtual 90, 3) := by decide +kernel
theorem dX6_restore_49 : decode cX6_restore 49 = .ok (.ireturn, 1) := by decide +kernel
theorem dX6_checkExists_0 : decode cX6_checkExists 0 = .ok (.aload_n 0, 1) := by decide +kernel
theorem dX6_checkExists_1 : decode cX6_checkExists 1 = .ok (.iload_n 1, 1) := by decide +kernel
theorem dX6_checkExists_2 : decode cX6_checkExists 2 = .ok (.invokevirtual 231, 3) := by decide +kernel
theorem dX6_checkExists_5 : decode cX6_checkExists 5 = .ok (.ifCond .ne 13, 3) := by decide +kernel
theorem dX6_checkExists_8 : decode cX6_checkExists 8 = .ok (.new 234, 3) := by decide +kernel
theorem dX6_checkExists_11 : decode cX6_checkExists 11 = .ok (.dup, 1) := by decide +kernel
theorem dX6_checkExists_12 : decode cX6_checkExists 12 = .ok (.ldc 236, 2) := by decide +kernel
theorem dX6_checkExists_14 : decode cX6_checkExists 14 = .ok (.invokespecial 238, 3) := by decide +kernel
theorem dX6_checkExists_17 : decode cX6_checkExists 17 = .ok (.athrow, 1) := by decide +kernel
theorem dX6_checkExists_18 : decode cX6_checkExists 18 = .ok (.return_, 1) := by decide +kernel
theorem dX6_checkSlot_0 : decode cX6_checkSlot 0 = .ok (.iload_n 0, 1) := by decide +kernel
theorem dX6_checkSlot_1 : decode cX6_checkSlot 1 = .ok (.iconst 0, 1) := by decide +kernel
theorem dX6_checkSlot_2 : decode cX6_checkSlot 2 = .ok (.iconst 1, 1) := by decide +kernel
theorem dX6_checkSlot_3 : decode cX6_checkSlot 3 = .ok (.invokestatic 241, 3) := by decide +kernel
theorem dX6_checkSlot_6 : decode cX6_checkSlot 6 = .ok (.ifCond .ne 13, 3) := by decide +kernel
theorem dX6_checkSlot_9 : decode cX6_checkSlot 9 = .ok (.new 234, 3) := by decide +kernel
theorem dX6_checkSlot_12 : decode cX6_checkSlot 12 = .ok (.dup, 1) := by decide +kernel
theorem dX6_checkSlot_13 : decode cX6_checkSlot 13 = .ok (.ldc 245, 2) := by decide +kernel
theorem dX6_checkSlot_15 : decode cX6_checkSlot 15 = .ok (.invokespecial 238, 3) := by decide +kernel
theorem dX6_checkSlot_18 : decode cX6_checkSlot 18 = .ok (.athrow, 1) := by decide +kernel
theorem dX6_checkSlot_19 : decode cX6_checkSlot 19 = .ok (.return_, 1) := by decide +kernel
theorem dX6_checkRange_0 : decode cX6_checkRange 0 = .ok (.iload_n 0, 1) := by decide +kernel
theorem dX6_checkRange_1 : decode cX6_checkRange 1 = .ok (.iload_n 1, 1) := by decide +kernel
theorem dX6_checkRange_2 : decode cX6_checkRange 2 = .ok (.iload_n 2, 1) := by decide +kernel
theorem dX6_checkRange_3 : decode cX6_checkRange 3 = .ok (.invokestatic 241, 3) := by decide +kernel
theorem dX6_checkRange_6 : decode cX6_checkRange 6 = .ok (.ifCond .ne 7, 3) := by decide +kernel
theorem dX6_checkRange_9 : decode cX6_checkRange 9 = .ok (.iconst 1, 1) := by decide +kernel
theorem dX6_checkRange_10 : decode cX6_checkRange 10 = .ok (.goto 4, 3) := by decide +kernel
theorem dX6_checkRange_13 : decode cX6_checkRange 13 = .ok (.iconst 0, 1) := by decide +kernel
theorem dX6_checkRange_14 : decode cX6_checkRange 14 = .ok (.invokestatic 139, 3) := by decide +kernel
theorem dX6_checkRange_17 : decode cX6_checkRange 17 = .ok (.return_, 1) := by decide +kernel
theorem dX6_refuseArgumentIf_0 : decode cX6_refuseArgumentIf 0 = .ok (.iload_n 0, 1) := by decide +kernel
theorem dX6_refuseArgumentIf_1 : decode cX6_refuseArgumentIf 1 = .ok (.ifCond .eq 13, 3) := by decide +kernel
theorem dX6_refuseArgumentIf_4 : decode cX6_refuseArgumentIf 4 = .ok (.new 247, 3) := by decide +kernel
theorem dX6_refuseArgumentIf_7 : decode cX6_refuseArgumentIf 7 = .ok (.dup, 1) := by decide +kernel
theorem dX6_refuseArgumentIf_8 : decode cX6_refuseArgumentIf 8 = .ok (.ldc 249, 2) := by decide +kernel
theorem dX6_refuseArgumentIf_10 : decode cX6_refuseArgumentIf 10 = .ok (.invokespecial 251, 3) := by decide +kernel
theorem dX6_refuseArgumentIf_13 : decode cX6_refuseArgumentIf 13 = .ok (.athrow, 1) := by decide +kernel
theorem dX6_refuseArgumentIf_14 : decode cX6_refuseArgumentIf 14 = .ok (.return_, 1) := by decide +kernel
theorem dX6_refuseIf_0 : decode cX6_refuseIf 0 = .ok (.iload_n 0, 1) := by decide +kernel
theorem dX6_refuseIf_1 : decode cX6_refuseIf 1 = .ok (.ifCond .eq 13, 3) := by decide +kernel
theorem dX6_refuseIf_4 : decode cX6_refuseIf 4 = .ok (.new 252, 3) := by decide +kernel
theorem dX6_refuseIf_7 : decode cX6_refuseIf 7 = .ok (.dup, 1) := by decide +kernel
theorem dX6_refuseIf_8 : decode cX6_refuseIf 8 = .ok (.ldc 254, 2) := by decide +kernel
theorem dX6_refuseIf_10 : decode cX6_refuseIf 10 = .ok (.invokespecial 256, 3) := by decide +kernel
theorem dX6_refuseIf_13 : decode cX6_refuseIf 13 = .ok (.athrow, 1) := by decide +kernel
theorem dX6_refuseIf_14 : decode cX6_refuseIf 14 = .ok (.return_, 1) := by decide +kernel
theorem dX6_isWithin_0 : decode cX6_isWithin 0 = .ok (.iload_n 0, 1) := by decide +kernel
theorem dX6_isWithin_1 : decode cX6_isWithin 1 = .ok (.iload_n 1, 1) := by decide +kernel
theorem dX6_isWithin_2 : decode cX6_isWithin 2 = .ok (.if_icmp .lt 12, 3) := by decide +kernel
theorem dX6_isWithin_5 : decode cX6_isWithin 5 = .ok (.iload_n 0, 1) := by decide +kernel
theorem dX6_isWithin_6 : decode cX6_isWithin 6 = .ok (.iload_n 2, 1) := by decide +kernel
theorem dX6_isWithin_7 : decode cX6_isWithin 7 = .ok (.if_icmp .gt 7, 3) := by decide +kernel
theorem dX6_isWithin_10 : decode cX6_isWithin 10 = .ok (.iconst 1, 1) := by decide +kernel
theorem dX6_isWithin_11 : decode cX6_isWithin 11 = .ok (.goto 4, 3) := by decide +kernel
theorem dX6_isWithin_14 : decode cX6_isWithin 14 = .ok (.iconst 0, 1) := by decide +kernel
theorem dX6_isWithin_15 : decode cX6_isWithin 15 = .ok (.ireturn, 1) := by decide +kernel
theorem dX6_groupOf_0 : decode cX6_groupOf 0 = .ok (.lload_n 0, 1) := by decide +kernel
theorem dX6_groupOf_1 : decode cX6_groupOf 1 = .ok (.lstore_n 3, 1) := by decide +kernel
theorem dX6_groupOf_2 : decode cX6_groupOf 2 = .ok (.iconst 0, 1) := by decide +kernel
theorem dX6_groupOf_3 : decode cX6_groupOf 3 = .ok (.istore 5, 2) := by decide +kernel
theorem dX6_groupOf_5 : decode cX6_groupOf 5 = .ok (.iload 5, 2) := by decide +kernel
theorem dX6_groupOf_7 : decode cX6_groupOf 7 = .ok (.iload_n 2, 1) := by decide +kernel
theorem dX6_groupOf_8 : decode cX6_groupOf 8 = .ok (.if_icmp .ge 15, 3) := by decide +kernel
theorem dX6_groupOf_11 : decode cX6_groupOf 11 = .ok (.lload_n 3, 1) := by decide +kernel
theorem dX6_groupOf_12 : decode cX6_groupOf 12 = .ok (.ldc2_w 199, 3) := by decide +kernel
theorem dX6_groupOf_15 : decode cX6_groupOf 15 = .ok (.ldiv, 1) := by decide +kernel
theorem dX6_groupOf_16 : decode cX6_groupOf 16 = .ok (.lstore_n 3, 1) := by decide +kernel
theorem dX6_groupOf_17 : decode cX6_groupOf 17 = .ok (.iinc 5 1, 3) := by decide +kernel
theorem dX6_groupOf_20 : decode cX6_groupOf 20 = .ok (.goto (-15), 3) := by decide +kernel
theorem dX6_groupOf_23 : decode cX6_groupOf 23 = .ok (.lload_n 3, 1) := by decide +kernel
theorem dX6_groupOf_24 : decode cX6_groupOf 24 = .ok (.ldc2_w 199, 3) := by decide +kernel
theorem dX6_groupOf_27 : decode cX6_groupOf 27 = .ok (.lrem, 1) := by decide +kernel
theorem dX6_groupOf_28 : decode cX6_groupOf 28 = .ok (.l2i, 1) := by decide +kernel
theorem dX6_groupOf_29 : decode cX6_groupOf 29 = .ok (.ireturn, 1) := by decide +kernel
theorem dX7_init_0 : decode cX7_init 0 = .ok (.aload_n 0, 1) := by decide +kernel
theorem dX7_init_1 : decode cX7_init 1 = .ok (.invokespecial 1, 3) := by decide +kernel
theorem dX7_init_4 : decode cX7_init 4 = .ok (.aload_n 0, 1) := by decide +kernel
theorem dX7_init_5 : decode cX7_init 5 = .ok (.sipush 140, 3) := by decide +kernel
theorem dX7_init_8 : decode cX7_init 8 = .ok (.newarray .int, 2) := by decide +kernel
theorem dX7_init_10 : decode cX7_init 10 = .ok (.putfield 7, 3) := by decide +kernel
theorem dX7_init_13 : decode cX7_init 13 = .ok (.aload_n 0, 1) := by decide +kernel
theorem dX7_init_14 : decode cX7_init 14 = .ok (.sipush 250, 3) := by decide +kernel
theorem dX7_init_17 : decode cX7_init 17 = .ok (.newarray .int, 2) := by decide +kernel
theorem dX7_init_19 : decode cX7_init 19 = .ok (.putfield 13, 3) := by decide +kernel
theorem dX7_init_22 : decode cX7_init 22 = .ok (.aload_n 0, 1) := by decide +kernel
theorem dX7_init_23 : decode cX7_init 23 = .ok (.sipush 250, 3) := by decide +kernel
theorem dX7_init_26 : decode cX7_init 26 = .ok (.newarray .int, 2) := by decide +kernel
theorem dX7_init_28 : decode cX7_init 28 = .ok (.putfield 16, 3) := by decide +kernel
theorem dX7_init_31 : decode cX7_init 31 = .ok (.aload_n 0, 1) := by decide +kernel
theorem dX7_init_32 : decode cX7_init 32 = .ok (.sipush 250, 3) := by decide +kernel
theorem dX7_init_35 : decode cX7_init 35 = .ok (.newarray .int, 2) := by decide +kernel
theorem dX7_init_37 : decode cX7_init 37 = .ok (.putfield 19, 3) := by decide +kernel
theorem dX7_init_40 : decode cX7_init 40 = .ok (.aload_n 0, 1) := by decide +kernel
theorem dX7_init_41 : decode cX7_init 41 = .ok (.sipush 3500, 3) := by decide +kernel
theorem dX7_init_44 : decode cX7_init 44 = .ok (.newarray .int, 2) := by decide +kernel
theorem dX7_init_46 : decode cX7_init 46 = .ok (.putfield 22, 3) := by decide +kernel
theorem dX7_init_49 : decode cX7_init 49 = .ok (.aload_n 0, 1) := by decide +kernel
theorem dX7_init_50 : decode cX7_init 50 = .ok (.sipush 500, 3) := by decide +kernel
theorem dX7_init_53 : decode cX7_init 53 = .ok (.newarray .int, 2) := by decide +kernel
theorem dX7_init_55 : decode cX7_init 55 = .ok (.putfield 25, 3) := by decide +kernel
theorem dX7_init_58 : decode cX7_init 58 = .ok (.aload_n 0, 1) := by decide +kernel
theorem dX7_init_59 : decode cX7_init 59 = .ok (.iconst 2, 1) := by decide +kernel
theorem dX7_init_60 : decode cX7_init 60 = .ok (.newarray .boolean, 2) := by decide +kernel
theorem dX7_init_62 : decode cX7_init 62 = .ok (.putfield 28, 3) := by decide +kernel
theorem dX7_init_65 : decode cX7_init 65 = .ok (.aload_n 0, 1) := by decide +kernel
theorem dX7_init_66 : decode cX7_init 66 = .ok (.bipush (-9), 2) := by decide +kernel
theorem dX7_init_68 : decode cX7_init 68 = .ok (.putfield 32, 3) := by decide +kernel
theorem dX7_init_71 : decode cX7_init 71 = .ok (.aload_n 0, 1) := by decide +kernel
theorem dX7_init_72 : decode cX7_init 72 = .ok (.bipush (-9), 2) := by decide +kernel
theorem dX7_init_74 : decode cX7_init 74 = .ok (.putfield 36, 3) := by decide +kernel
theorem dX7_init_77 : decode cX7_init 77 = .ok (.aload_n 0, 1) := by decide +kernel
theorem dX7_init_78 : decode cX7_init 78 = .ok (.getfield 16, 3) := by decide +kernel
theorem dX7_init_81 : decode cX7_init 81 = .ok (.iconst 0, 1) := by decide +kernel
theorem dX7_init_82 : decode cX7_init 82 = .ok (.bipush 20, 2) := by decide +kernel
theorem dX7_init_84 : decode cX7_init 84 = .ok (.iastore, 1) := by decide +kernel
theorem dX7_init_85 : decode cX7_init 85 = .ok (.return_, 1) := by decide +kernel
theorem dX7_thrown_0 : decode cX7_thrown 0 = .ok (.aload_n 0, 1) := by decide +kernel
theorem dX7_thrown_1 : decode cX7_thrown 1 = .ok (.getfield 39, 3) := by decide +kernel
theorem dX7_thrown_4 : decode cX7_thrown 4 = .ok (.ireturn, 1) := by decide +kernel
theorem dX7_refused_0 : decode cX7_refused 0 = .ok (.aload_n 0, 1) := by decide +kernel
theorem dX7_refused_1 : decode cX7_refused 1 = .ok (.iload_n 1, 1) := by decide +kernel
theorem dX7_refused_2 : decode cX7_refused 2 = .ok (.putfield 39, 3) := by decide +kernel
theorem dX7_refused_5 : decode cX7_refused 5 = .ok (.iload_n 1, 1) := by decide +kernel
theorem dX7_refused_6 : decode cX7_refused 6 = .ok (.ifCond .le 7, 3) := by decide +kernel
theorem dX7_refused_9 : decode cX7_refused 9 = .ok (.iconst 1, 1) := by decide +kernel
theorem dX7_refused_10 : decode cX7_refused 10 = .ok (.goto 4, 3) := by decide +kernel
theorem dX7_refused_13 : decode cX7_refused 13 = .ok (.iconst 0, 1) := by decide +kernel
theorem dX7_refused_14 : decode cX7_refused 14 = .ok (.ireturn, 1) := by decide +kernel
theorem dX7_in_0 : decode cX7_in 0 = .ok (.lload_n 0, 1) := by decide +kernel
theorem dX7_in_1 : decode cX7_in 1 = .ok (.lload_n 2, 1) := by decide +kernel
theorem dX7_in_2 : decode cX7_in 2 = .ok (.lcmp, 1) := by decide +kernel
theorem dX7_in_3 : decode cX7_in 3 = .ok (.ifCond .lt 14, 3) := by decide +kernel
theorem dX7_in_6 : decode cX7_in 6 = .ok (.lload_n 0, 1) := by decide +kernel
theorem dX7_in_7 : decode cX7_in 7 = .ok (.lload 4, 2) := by decide +kernel
theorem dX7_in_9 : decode cX7_in 9 = .ok (.lcmp, 1) := by decide +kernel
theorem dX7_in_10 : decode cX7_in 10 = .ok (.ifCond .gt 7, 3) := by decide +kernel
theorem dX7_in_13 : decode cX7_in 13 = .ok (.iconst 1, 1) := by decide +kernel
theorem dX7_in_14 : decode cX7_in 14 = .ok (.goto 4, 3) := by decide +kernel
theorem dX7_in_17 : decode cX7_in 17 = .ok (.iconst 0, 1) := by decide +kernel
theorem dX7_in_18 : decode cX7_in 18 = .ok (.ireturn, 1) := by decide +kernel
theorem dX7_copy_0 : decode cX7_copy 0 = .ok (.iconst 0, 1) := by decide +kernel
theorem dX7_copy_1 : decode cX7_copy 1 = .ok (.istore 5, 2) := by decide +kernel
theorem dX7_copy_3 : decode cX7_copy 3 = .ok (.iload 5, 2) := by decide +kernel
theorem dX7_copy_5 : decode cX7_copy 5 = .ok (.iload 4, 2) := by decide +kernel
theorem dX7_copy_7 : decode cX7_copy 7 = .ok (.if_icmp .ge 21, 3) := by decide +kernel
theorem dX7_copy_10 : decode cX7_copy 10 = .ok (.aload_n 2, 1) := by decide +kernel
theorem dX7_copy_11 : decode cX7_copy 11 = .ok (.iload_n 3, 1) := by decide +kernel
theorem dX7_copy_12 : decode cX7_copy 12 = .ok (.iload 5, 2) := by decide +kernel
theorem dX7_copy_14 : decode cX7_copy 14 = .ok (.iadd, 1) := by decide +kernel
theorem dX7_copy_15 : decode cX7_copy 15 = .ok (.aload_n 0, 1) := by decide +kernel
theorem dX7_copy_16 : decode cX7_copy 16 = .ok (.iload_n 1, 1) := by decide +kernel
theorem dX7_copy_17 : decode cX7_copy 17 = .ok (.iload 5, 2) := by decide +kernel
theorem dX7_copy_19 : decode cX7_copy 19 = .ok (.iadd, 1) := by decide +kernel
theorem dX7_copy_20 : decode cX7_copy 20 = .ok (.iaload, 1) := by decide +kernel
theorem dX7_copy_21 : decode cX7_copy 21 = .ok (.iastore, 1) := by decide +kernel
theorem dX7_copy_22 : decode cX7_copy 22 = .ok (.iinc 5 1, 3) := by decide +kernel
theorem dX7_copy_25 : decode cX7_copy 25 = .ok (.goto (-22), 3) := by decide +kernel
theorem dX7_copy_28 : decode cX7_copy 28 = .ok (.return_, 1) := by decide +kernel
theorem dX7_tenTo_0 : decode cX7_tenTo 0 = .ok (.lconst 1, 1) := by decide +kernel
theorem dX7_tenTo_1 : decode cX7_tenTo 1 = .ok (.lstore_n 1, 1) := by decide +kernel
theorem dX7_tenTo_2 : decode cX7_tenTo 2 = .ok (.iconst 0, 1) := by decide +kernel
theorem dX7_tenTo_3 : decode cX7_tenTo 3 = .ok (.istore_n 3, 1) := by decide +kernel
theorem dX7_tenTo_4 : decode cX7_tenTo 4 = .ok (.iload_n 3, 1) := by decide +kernel
theorem dX7_tenTo_5 : decode cX7_tenTo 5 = .ok (.iload_n 0, 1) := by decide +kernel
theorem dX7_tenTo_6 : decode cX7_tenTo 6 = .ok (.if_icmp .ge 15, 3) := by decide +kernel
theorem dX7_tenTo_9 : decode cX7_tenTo 9 = .ok (.lload_n 1, 1) := by decide +kernel
theorem dX7_tenTo_10 : decode cX7_tenTo 10 = .ok (.ldc2_w 42, 3) := by decide +kernel
theorem dX7_tenTo_13 : decode cX7_tenTo 13 = .ok (.lmul, 1) := by decide +kernel
theorem dX7_tenTo_14 : decode cX7_tenTo 14 = .ok (.lstore_n 1, 1) := by decide +kernel
theorem dX7_tenTo_15 : decode cX7_tenTo 15 = .ok (.iinc 3 1, 3) := by decide +kernel
theorem dX7_tenTo_18 : decode cX7_tenTo 18 = .ok (.goto (-14), 3) := by decide +kernel
theorem dX7_tenTo_21 : decode cX7_tenTo 21 = .ok (.lload_n 1, 1) := by decide +kernel
theorem dX7_tenTo_22 : decode cX7_tenTo 22 = .ok (.lreturn, 1) := by decide +kernel
theorem dX7_remember_0 : decode cX7_remember 0 = .ok (.aload_n 0, 1) := by decide +kernel
theorem dX7_remember_1 : decode cX7_remember 1 = .ok (.getfield 44, 3) := by decide +kernel
theorem dX7_remember_4 : decode cX7_remember 4 = .ok (.bipush 14, 2) := by decide +kernel
theorem dX7_remember_6 : decode cX7_remember 6 = .ok (.if_icmp .ne 31, 3) := by decide +kernel
theorem dX7_remember_9 : decode cX7_remember 9 = .ok (.aload_n 0, 1) := by decide +kernel
theorem dX7_remember_10 : decode cX7_remember 10 = .ok (.getfield 22, 3) := by decide +kernel
theorem dX7_remember_13 : decode cX7_remember 13 = .ok (.sipush 250, 3) := by decide +kernel
theorem dX7_remember_16 : decode cX7_remember 16 = .ok (.aload_n 0, 1) := by decide +kernel
theorem dX7_remember_17 : decode cX7_remember 17 = .ok (.getfield 22, 3) := by decide +kernel
theorem dX7_remember_20 : decode cX7_remember 20 = .ok (.iconst 0, 1) := by decide +kernel
theorem dX7_remember_21 : decode cX7_remember 21 = .ok (.sipush 3250, 3) := by decide +kernel
theorem dX7_remember_24 : decode cX7_remember 24 = .ok (.invokestatic 47, 3) := by decide +kernel
theorem dX7_remember_27 : decode cX7_remember 27 = .ok (.aload_n 0, 1) := by decide +kernel
theorem dX7_remember_28 : decode cX7_remember 28 = .ok (.dup, 1) := by decide +kernel
theorem dX7_remember_29 : decode cX7_remember 29 = .ok (.getfield 44, 3) := by decide +kernel
theorem dX7_remember_32 : decode cX7_remember 32 = .ok (.iconst 1, 1) := by decide +kernel
theorem dX7_remember_33 : decode cX7_remember 33 = .ok (.isub, 1) := by decide +kernel
theorem dX7_remember_34 : decode cX7_remember 34 = .ok (.putfield 44, 3) := by decide +kernel
theorem dX7_remember_37 : decode cX7_remember 37 = .ok (.aload_n 0, 1) := by decide +kernel
theorem dX7_remember_38 : decode cX7_remember 38 = .ok (.getfield 16, 3) := by decide +kernel
theorem dX7_remember_41 : decode cX7_remember 41 = .ok (.iconst 0, 1) := by decide +kernel
theorem dX7_remember_42 : decode cX7_remember 42 = .ok (.aload_n 0, 1) := by decide +kernel
theorem dX7_remember_43 : decode cX7_remember 43 = .ok (.getfield 22, 3) := by decide +kernel
theorem dX7_remember_46 : decode cX7_remember 46 = .ok (.sipush 250, 3) := by decide +kernel
theorem dX7_remember_49 : decode cX7_remember 49 = .ok (.aload_n 0, 1) := by decide +kernel
theorem dX7_remember_50 : decode cX7_remember 50 = .ok (.getfield 44, 3) := by decide +kernel
theorem dX7_remember_53 : decode cX7_remember 53 = .ok (.imul, 1) := by decide +kernel
theorem dX7_remember_54 : decode cX7_remember 54 = .ok (.sipush 250, 3) := by decide +kernel
theorem dX7_remember_57 : decode cX7_remember 57 = .ok (.invokestatic 47, 3) := by decide +kernel
theorem dX7_remember_60 : decode cX7_remember 60 = .ok (.aload_n 0, 1) := by decide +kernel
theorem dX7_remember_61 : decode cX7_remember 61 = .ok (.dup, 1) := by decide +kernel
theorem dX7_remember_62 : decode cX7_remember 62 = .ok (.getfield 44, 3) := by decide +kernel
theorem dX7_remember_65 : decode cX7_remember 65 = .ok (.iconst 1, 1) := by decide +kernel
theorem dX7_remember_66 : decode cX7_remember 66 = .ok (.iadd, 1) := by decide +kernel
theorem dX7_remember_67 : decode cX7_remember 67 = .ok (.putfield 44, 3) := by decide +kernel
theorem dX7_remember_70 : decode cX7_remember 70 = .ok (.return_, 1) := by decide +kernel
theorem dX7_begin_0 : decode cX7_begin 0 = .ok (.aload_n 0, 1) := by decide +kernel
theorem dX7_begin_1 : decode cX7_begin 1 = .ok (.getfield 16, 3) := by decide +kernel
theorem dX7_begin_4 : decode cX7_begin 4 = .ok (.iconst 0, 1) := by decide +kernel
theorem dX7_begin_5 : decode cX7_begin 5 = .ok (.aload_n 0, 1) := by decide +kernel
theorem dX7_begin_6 : decode cX7_begin 6 = .ok (.getfield 19, 3) := by decide +kernel
theorem dX7_begin_9 : decode cX7_begin 9 = .ok (.iconst 0, 1) := by decide +kernel
theorem dX7_begin_10 : decode cX7_begin 10 = .ok (.sipush 250, 3) := by decide +kernel
theorem dX7_begin_13 : decode cX7_begin 13 = .ok (.invokestatic 47, 3) := by decide +kernel
theorem dX7_begin_16 : decode cX7_begin 16 = .ok (.return_, 1) := by decide +kernel
theorem dX7_gateAt_0 : decode cX7_gateAt 0 = .ok (.bipush 8, 2) := by decide +kernel
theorem dX7_gateAt_2 : decode cX7_gateAt 2 = .ok (.iconst 4, 1) := by decide +kernel
theorem dX7_gateAt_3 : decode cX7_gateAt 3 = .ok (.iload_n 0, 1) := by decide +kernel
theorem dX7_gateAt_4 : decode cX7_gateAt 4 = .ok (.imul, 1) := by decide +kernel
theorem dX7_gateAt_5 : decode cX7_gateAt 5 = .ok (.iadd, 1) := by decide +kernel
theorem dX7_gateAt_6 : decode cX7_gateAt 6 = .ok (.iload_n 1, 1) := by decide +kernel
theorem dX7_gateAt_7 : decode cX7_gateAt 7 = .ok (.iadd, 1) := by decide +kernel
theorem dX7_gateAt_8 : decode cX7_gateAt 8 = .ok (.ireturn, 1) := by decide +kernel
theorem dX7_bayAt_0 : decode cX7_bayAt 0 = .ok (.bipush 24, 2) := by decide +kernel
theorem dX7_bayAt_2 : decode cX7_bayAt 2 = .ok (.bipush 9, 2) := by decide +kernel
theorem dX7_bayAt_4 : decode cX7_bayAt 4 = .ok (.iload_n 0, 1) := by decide +kernel
theorem dX7_bayAt_5 : decode cX7_bayAt 5 = .ok (.imul, 1) := by decide +kernel
theorem dX7_bayAt_6 : decode cX7_bayAt 6 = .ok (.iadd, 1) := by decide +kernel
theorem dX7_bayAt_7 : decode cX7_bayAt 7 = .ok (.iload_n 1, 1) := by decide +kernel
theorem dX7_bayAt_8 : decode cX7_bayAt 8 = .ok (.iadd, 1) := by decide +kernel
theorem dX7_bayAt_9 : decode cX7_bayAt 9 = .ok (.ireturn, 1) := by decide +kernel
theorem dX7_depotAt_0 : decode cX7_depotAt 0 = .ok (.bipush 78, 2) := by decide +kernel
theorem dX7_depotAt_2 : decode cX7_depotAt 2 = .ok (.iconst 2, 1) := by decide +kernel
theorem dX7_depotAt_3 : decode cX7_depotAt 3 = .ok (.iload_n 0, 1) := by decide +kernel
theorem dX7_depotAt_4 : decode cX7_depotAt 4 = .ok (.imul, 1) := by decide +kernel
theorem dX7_depotAt_5 : decode cX7_depotAt 5 = .ok (.iadd, 1) := by decide +kernel
theorem dX7_depotAt_6 : decode cX7_depotAt 6 = .ok (.iload_n 1, 1) := by decide +kernel
theorem dX7_depotAt_7 : decode cX7_depotAt 7 = .ok (.iadd, 1) := by decide +kernel
theorem dX7_depotAt_8 : decode cX7_depotAt 8 = .ok (.ireturn, 1) := by decide +kernel
theorem dX7_convoyAt_0 : decode cX7_convoyAt 0 = .ok (.bipush 86, 2) := by decide +kernel
theorem dX7_convoyAt_2 : decode cX7_convoyAt 2 = .ok (.bipush 13, 2) := by decide +kernel
theorem dX7_convoyAt_4 : decode cX7_convoyAt 4 = .ok (.iload_n 0, 1) := by decide +kernel
theorem dX7_convoyAt_5 : decode cX7_convoyAt 5 = .ok (.imul, 1) := by decide +kernel
theorem dX7_convoyAt_6 : decode cX7_convoyAt 6 = .ok (.iadd, 1) := by decide +kernel
theorem dX7_convoyAt_7 : decode cX7_convoyAt 7 = .ok (.iload_n 1, 1) := by decide +kernel
theorem dX7_convoyAt_8 : decode cX7_convoyAt 8 = .ok (.iadd, 1) := by decide +kernel
theorem dX7_convoyAt_9 : decode cX7_convoyAt 9 = .ok (.ireturn, 1) := by decide +kernel
theorem dX7_carAt_0 : decode cX7_carAt 0 = .ok (.sipush 138, 3) := by decide +kernel
theorem dX7_carAt_3 : decode cX7_carAt 3 = .ok (.bipush 7, 2) := by decide +kernel
theorem dX7_carAt_5 : decode cX7_carAt 5 = .ok (.iload_n 0, 1) := by decide +kernel
theorem dX7_carAt_6 : decode cX7_carAt 6 = .ok (.imul, 1) := by decide +kernel
theorem dX7_carAt_7 : decode cX7_carAt 7 = .ok (.iadd, 1) := by decide +kernel
theorem dX7_carAt_8 : decode cX7_carAt 8 = .ok (.iload_n 1, 1) := by decide +kernel
theorem dX7_carAt_9 : decode cX7_carAt 9 = .ok (.iadd, 1) := by decide +kernel
theorem dX7_carAt_10 : decode cX7_carAt 10 = .ok (.ireturn, 1) := by decide +kernel
theorem dX7_who_0 : decode cX7_who 0 = .ok (.aload_n 0, 1) := by decide +kernel
theorem dX7_who_1 : decode cX7_who 1 = .ok (.iload_n 1, 1) := by decide +kernel
theorem dX7_who_2 : decode cX7_who 2 = .ok (.iconst 5, 1) := by decide +kernel
theorem dX7_who_3 : decode cX7_who 3 = .ok (.iload_n 2, 1) := by decide +kernel
theorem dX7_who_4 : decode cX7_who 4 = .ok (.iadd, 1) := by decide +kernel
theorem dX7_who_5 : decode cX7_who 5 = .ok (.invokestatic 51, 3) := by decide +kernel
theorem dX7_who_8 : decode cX7_who 8 = .ok (.iaload, 1) := by decide +kernel
theorem dX7_who_9 : decode cX7_who 9 = .ok (.ireturn, 1) := by decide +kernel
theorem dX7_sizeOf_0 : decode cX7_sizeOf 0 = .ok (.aload_n 0, 1) := by decide +kernel
theorem dX7_sizeOf_1 : decode cX7_sizeOf 1 = .ok (.iload_n 1, 1) := by decide +kernel
theorem dX7_sizeOf_2 : decode cX7_sizeOf 2 = .ok (.iconst 1, 1) := by decide +kernel
theorem dX7_sizeOf_3 : decode cX7_sizeOf 3 = .ok (.invokestatic 51, 3) := by decide +kernel
theorem dX7_sizeOf_6 : decode cX7_sizeOf 6 = .ok (.iaload, 1) := by decide +kernel
theorem dX7_sizeOf_7 : decode cX7_sizeOf 7 = .ok (.ireturn, 1) := by decide +kernel
theorem dX7_isClosed_0 : decode cX7_isClosed 0 = .ok (.aload_n 0, 1) := by decide +kernel
theorem dX7_isClosed_1 : decode cX7_isClosed 1 = .ok (.iconst 1, 1) := by decide +kernel
theorem dX7_isClosed_2 : decode cX7_isClosed 2 = .ok (.iaload, 1) := by decide +kernel
theorem dX7_isClosed_3 : decode cX7_isClosed 3 = .ok (.aload_n 0, 1) := by decide +kernel
theorem dX7_isClosed_4 : decode cX7_isClosed 4 = .ok (.iload_n 1, 1) := by decide +kernel
theorem dX7_isClosed_5 : decode cX7_isClosed 5 = .ok (.iconst 3, 1) := by decide +kernel
theorem dX7_isClosed_6 : decode cX7_isClosed 6 = .ok (.invokestatic 55, 3) := by decide +kernel
theorem dX7_isClosed_9 : decode cX7_isClosed 9 = .ok (.iaload, 1) := by decide +kernel
theorem dX7_isClosed_10 : decode cX7_isClosed 10 = .ok (.iadd, 1) := by decide +kernel
theorem dX7_isClosed_11 : decode cX7_isClosed 11 = .ok (.aload_n 0, 1) := by decide +kernel
theorem dX7_isClosed_12 : decode cX7_isClosed 12 = .ok (.iload_n 1, 1) := by decide +kernel
theorem dX7_isClosed_13 : decode cX7_isClosed 13 = .ok (.iconst 1, 1) := by decide +kernel
theorem dX7_isClosed_14 : decode cX7_isClosed 14 = .ok (.invokestatic 55, 3) := by decide +kernel
theorem dX7_isClosed_17 : decode cX7_isClosed 17 = .ok (.iaload, 1) := by decide +kernel
theorem dX7_isClosed_18 : decode cX7_isClosed 18 = .ok (.irem, 1) := by decide +kernel
theorem dX7_isClosed_19 : decode cX7_isClosed 19 = .ok (.aload_n 0, 1) := by decide +kernel
theorem dX7_isClosed_20 : decode cX7_isClosed 20 = .ok (.iload_n 1, 1) := by decide +kernel
theorem dX7_isClosed_21 : decode cX7_isClosed 21 = .ok (.iconst 2, 1) := by decide +kernel
theorem dX7_isClosed_22 : decode cX7_isClosed 22 = .ok (.invokestatic 55, 3) := by decide +kernel
theorem dX7_isClosed_25 : decode cX7_isClosed 25 = .ok (.iaload, 1) := by decide +kernel
theorem dX7_isClosed_26 : decode cX7_isClosed 26 = .ok (.if_icmp .ge 7, 3) := by decide +kernel
theorem dX7_isClosed_29 : decode cX7_isClosed 29 = .ok (.iconst 1, 1) := by decide +kernel
theorem dX7_isClosed_30 : decode cX7_isClosed 30 = .ok (.goto 4, 3) := by decide +kernel
theorem dX7_isClosed_33 : decode cX7_isClosed 33 = .ok (.iconst 0, 1) := by decide +kernel
theorem dX7_isClosed_34 : decode cX7_isClosed 34 = .ok (.ireturn, 1) := by decide +kernel
theorem dX7_bayOn_0 : decode cX7_bayOn 0 = .ok (.bipush (-9), 2) := by decide +kernel
theorem dX7_bayOn_2 : decode cX7_bayOn 2 = .ok (.istore_n 2, 1) := by decide +kernel
theorem dX7_bayOn_3 : decode cX7_bayOn 3 = .ok (.iconst 0, 1) := by decide +kernel
theorem dX7_bayOn_4 : decode cX7_bayOn 4 = .ok (.istore_n 3, 1) := by decide +kernel
theorem dX7_bayOn_5 : decode cX7_bayOn 5 = .ok (.iload_n 3, 1) := by decide +kernel
theorem dX7_bayOn_6 : decode cX7_bayOn 6 = .ok (.aload_n 0, 1) := by decide +kernel
theorem dX7_bayOn_7 : decode cX7_bayOn 7 = .ok (.iconst 3, 1) := by decide +kernel
theorem dX7_bayOn_8 : decode cX7_bayOn 8 = .ok (.iaload, 1) := by decide +kernel
theorem dX7_bayOn_9 : decode cX7_bayOn 9 = .ok (.if_icmp .ge 26, 3) := by decide +kernel
theorem dX7_bayOn_12 : decode cX7_bayOn 12 = .ok (.aload_n 0, 1) := by decide +kernel
theorem dX7_bayOn_13 : decode cX7_bayOn 13 = .ok (.iload_n 3, 1) := by decide +kernel
theorem dX7_bayOn_14 : decode cX7_bayOn 14 = .ok (.iconst 0, 1) := by decide +kernel
theorem dX7_bayOn_15 : decode cX7_bayOn 15 = .ok (.invokestatic 58, 3) := by decide +kernel
theorem dX7_bayOn_18 : decode cX7_bayOn 18 = .ok (.iaload, 1) := by decide +kernel
theorem dX7_bayOn_19 : decode cX7_bayOn 19 = .ok (.iload_n 1, 1) := by decide +kernel
theorem dX7_bayOn_20 : decode cX7_bayOn 20 = .ok (.if_icmp .ne 7, 3) := by decide +kernel
theorem dX7_bayOn_23 : decode cX7_bayOn 23 = .ok (.iload_n 3, 1) := by decide +kernel
theorem dX7_bayOn_24 : decode cX7_bayOn 24 = .ok (.goto 4, 3) := by decide +kernel
theorem dX7_bayOn_27 : decode cX7_bayOn 27 = .ok (.iload_n 2, 1) := by decide +kernel
theorem dX7_bayOn_28 : decode cX7_bayOn 28 = .ok (.istore_n 2, 1) := by decide +kernel
theorem dX7_bayOn_29 : decode cX7_bayOn 29 = .ok (.iinc 3 1, 3) := by decide +kernel
theorem dX7_bayOn_32 : decode cX7_bayOn 32 = .ok (.goto (-27), 3) := by decide +kernel
theorem dX7_bayOn_35 : decode cX7_bayOn 35 = .ok (.iload_n 2, 1) := by decide +kernel
theorem dX7_bayOn_36 : decode cX7_bayOn 36 = .ok (.ireturn, 1) := by decide +kernel
theorem dX7_depotOn_0 : decode cX7_depotOn 0 = .ok (.bipush (-9), 2) := by decide +kernel
theorem dX7_depotOn_2 : decode cX7_depotOn 2 = .ok (.istore_n 2, 1) := by decide +kernel
theorem dX7_depotOn_3 : decode cX7_depotOn 3 = .ok (.iconst 0, 1) := by decide +kernel
theorem dX7_depotOn_4 : decode cX7_depotOn 4 = .ok (.istore_n 3, 1) := by decide +kernel
theorem dX7_depotOn_5 : decode cX7_depotOn 5 = .ok (.iload_n 3, 1) := by decide +kernel
theorem dX7_depotOn_6 : decode cX7_depotOn 6 = .ok (.aload_n 0, 1) := by decide +kernel
theorem dX7_depotOn_7 : decode cX7_depotOn 7 = .ok (.iconst 4, 1) := by decide +kernel
theorem dX7_depotOn_8 : decode cX7_depotOn 8 = .ok (.iaload, 1) := by decide +kernel
theorem dX7_depotOn_9 : decode cX7_depotOn 9 = .ok (.if_icmp .ge 26, 3) := by decide +kernel
theorem dX7_depotOn_12 : decode cX7_depotOn 12 = .ok (.aload_n 0, 1) := by decide +kernel
theorem dX7_depotOn_13 : decode cX7_depotOn 13 = .ok (.iload_n 3, 1) := by decide +kernel
theorem dX7_depotOn_14 : decode cX7_depotOn 14 = .ok (.iconst 0, 1) := by decide +kernel
theorem dX7_depotOn_15 : decode cX7_depotOn 15 = .ok (.invokestatic 61, 3) := by decide +kernel
theorem dX7_depotOn_18 : decode cX7_depotOn 18 = .ok (.iaload, 1) := by decide +kernel
theorem dX7_depotOn_19 : decode cX7_depotOn 19 = .ok (.iload_n 1, 1) := by decide +kernel
theorem dX7_depotOn_20 : decode cX7_depotOn 20 = .ok (.if_icmp .ne 7, 3) := by decide +kernel
theorem dX7_depotOn_23 : decode cX7_depotOn 23 = .ok (.iload_n 3, 1) := by decide +kernel
theorem dX7_depotOn_24 : decode cX7_depotOn 24 = .ok (.goto 4, 3) := by decide +kernel
theorem dX7_depotOn_27 : decode cX7_depotOn 27 = .ok (.iload_n 2, 1) := by decide +kernel
theorem dX7_depotOn_28 : decode cX7_depotOn 28 = .ok (.istore_n 2, 1) := by decide +kernel
theorem dX7_depotOn_29 : decode cX7_depotOn 29 = .ok (.iinc 3 1, 3) := by decide +kernel
theorem dX7_depotOn_32 : decode cX7_depotOn 32 = .ok (.goto (-27), 3) := by decide +kernel
theorem dX7_depotOn_35 : decode cX7_depotOn 35 = .ok (.iload_n 2, 1) := by decide +kernel
theorem dX7_depotOn_36 : decode cX7_depotOn 36 = .ok (.ireturn, 1) := by decide +kernel
theorem dX7_gateOn_0 : decode cX7_gateOn 0 = .ok (.bipush (-9), 2) := by decide +kernel
theorem dX7_gateOn_2 : decode cX7_gateOn 2 = .ok (.istore_n 2, 1) := by decide +kernel
theorem dX7_gateOn_3 : decode cX7_gateOn 3 = .ok (.iconst 0, 1) := by decide +kernel
theorem dX7_gateOn_4 : decode cX7_gateOn 4 = .ok (.istore_n 3, 1) := by decide +kernel
theorem dX7_gateOn_5 : decode cX7_gateOn 5 = .ok (.iload_n 3, 1) := by decide +kernel
theorem dX7_gateOn_6 : decode cX7_gateOn 6 = .ok (.aload_n 0, 1) := by decide +kernel
theorem dX7_gateOn_7 : decode cX7_gateOn 7 = .ok (.iconst 2, 1) := by decide +kernel
theorem dX7_gateOn_8 : decode cX7_gateOn 8 = .ok (.iaload, 1) := by decide +kernel
theorem dX7_gateOn_9 : decode cX7_gateOn 9 = .ok (.if_icmp .ge 26, 3) := by decide +kernel
theorem dX7_gateOn_12 : decode cX7_gateOn 12 = .ok (.aload_n 0, 1) := by decide +kernel
theorem dX7_gateOn_13 : decode cX7_gateOn 13 = .ok (.iload_n 3, 1) := by decide +kernel
theorem dX7_gateOn_14 : decode cX7_gateOn 14 = .ok (.iconst 0, 1) := by decide +kernel
theorem dX7_gateOn_15 : decode cX7_gateOn 15 = .ok (.invokestatic 55, 3) := by decide +kernel
theorem dX7_gateOn_18 : decode cX7_gateOn 18 = .ok (.iaload, 1) := by decide +kernel
theorem dX7_gateOn_19 : decode cX7_gateOn 19 = .ok (.iload_n 1, 1) := by decide +kernel
theorem dX7_gateOn_20 : decode cX7_gateOn 20 = .ok (.if_icmp .ne 7, 3) := by decide +kernel
theorem dX7_gateOn_23 : decode cX7_gateOn 23 = .ok (.iload_n 3, 1) := by decide +kernel
theorem dX7_gateOn_24 : decode cX7_gateOn 24 = .ok (.goto 4, 3) := by decide +kernel
theorem dX7_gateOn_27 : decode cX7_gateOn 27 = .ok (.iload_n 2, 1) := by decide +kernel
theorem dX7_gateOn_28 : decode cX7_gateOn 28 = .ok (.istore_n 2, 1) := by decide +kernel
theorem dX7_gateOn_29 : decode cX7_gateOn 29 = .ok (.iinc 3 1, 3) := by decide +kernel
theorem dX7_gateOn_32 : decode cX7_gateOn 32 = .ok (.goto (-27), 3) := by decide +kernel
theorem dX7_gateOn_35 : decode cX7_gateOn 35 = .ok (.iload_n 2, 1) := by decide +kernel
theorem dX7_gateOn_36 : decode cX7_gateOn 36 = .ok (.ireturn, 1) := by decide +kernel
theorem dX7_slowest_0 : decode cX7_slowest 0 = .ok (.iconst 0, 1) := by decide +kernel
theorem dX7_slowest_1 : decode cX7_slowest 1 = .ok (.istore_n 2, 1) := by decide +kernel
theorem dX7_slowest_2 : decode cX7_slowest 2 = .ok (.iconst 0, 1) := by decide +kernel
theorem dX7_slowest_3 : decode cX7_slowest 3 = .ok (.istore_n 3, 1) := by decide +kernel
theorem dX7_slowest_4 : decode cX7_slowest 4 = .ok (.iload_n 3, 1) := by decide +kernel
theorem dX7_slowest_5 : decode cX7_slowest 5 = .ok (.aload_n 0, 1) := by decide +kernel
theorem dX7_slowest_6 : decode cX7_slowest 6 = .ok (.iload_n 1, 1) := by decide +kernel
theorem dX7_slowest_7 : decode cX7_slowest 7 = .ok (.invokestatic 64, 3) := by decide +kernel
theorem dX7_slowest_10 : decode cX7_slowest 10 = .ok (.if_icmp .ge 40, 3) := by decide +kernel
theorem dX7_slowest_13 : decode cX7_slowest 13 = .ok (.aload_n 0, 1) := by decide +kernel
theorem dX7_slowest_14 : decode cX7_slowest 14 = .ok (.aload_n 0, 1) := by decide +kernel
theorem dX7_slowest_15 : decode cX7_slowest 15 = .ok (.iload_n 1, 1) := by decide +kernel
theorem dX7_slowest_16 : decode cX7_slowest 16 = .ok (.iload_n 3, 1) := by decide +kernel
theorem dX7_slowest_17 : decode cX7_slowest 17 = .ok (.invokestatic 68, 3) := by decide +kernel
theorem dX7_slowest_20 : decode cX7_slowest 20 = .ok (.iconst 0, 1) := by decide +kernel
theorem dX7_slowest_21 : decode cX7_slowest 21 = .ok (.invokestatic 72, 3) := by decide +kernel
theorem dX7_slowest_24 : decode cX7_slowest 24 = .ok (.iaload, 1) := by decide +kernel
theorem dX7_slowest_25 : decode cX7_slowest 25 = .ok (.istore 4, 2) := by decide +kernel
theorem dX7_slowest_27 : decode cX7_slowest 27 = .ok (.iload_n 3, 1) := by decide +kernel
theorem dX7_slowest_28 : decode cX7_slowest 28 = .ok (.ifCond .eq 9, 3) := by decide +kernel
theorem dX7_slowest_31 : decode cX7_slowest 31 = .ok (.iload 4, 2) := by decide +kernel
theorem dX7_slowest_33 : decode cX7_slowest 33 = .ok (.iload_n 2, 1) := by decide +kernel
theorem dX7_slowest_34 : decode cX7_slowest 34 = .ok (.if_icmp .ge 8, 3) := by decide +kernel
theorem dX7_slowest_37 : decode cX7_slowest 37 = .ok (.iload 4, 2) := by decide +kernel
theorem dX7_slowest_39 : decode cX7_slowest 39 = .ok (.goto 4, 3) := by decide +kernel
theorem dX7_slowest_42 : decode cX7_slowest 42 = .ok (.iload_n 2, 1) := by decide +kernel
theorem dX7_slowest_43 : decode cX7_slowest 43 = .ok (.istore_n 2, 1) := by decide +kernel
theorem dX7_slowest_44 : decode cX7_slowest 44 = .ok (.iinc 3 1, 3) := by decide +kernel
theorem dX7_slowest_47 : decode cX7_slowest 47 = .ok (.goto (-43), 3) := by decide +kernel
theorem dX7_slowest_50 : decode cX7_slowest 50 = .ok (.iload_n 2, 1) := by decide +kernel
theorem dX7_slowest_51 : decode cX7_slowest 51 = .ok (.ireturn, 1) := by decide +kernel
theorem dX7_isThere_0 : decode cX7_isThere 0 = .ok (.aload_n 0, 1) := by decide +kernel
theorem dX7_isThere_1 : decode cX7_isThere 1 = .ok (.iload_n 1, 1) := by decide +kernel
theorem dX7_isThere_2 : decode cX7_isThere 2 = .ok (.iconst 0, 1) := by decide +kernel
theorem dX7_isThere_3 : decode cX7_isThere 3 = .ok (.invokestatic 51, 3) := by decide +kernel
theorem dX7_isThere_6 : decode cX7_isThere 6 = .ok (.iaload, 1) := by decide +kernel
theorem dX7_isThere_7 : decode cX7_isThere 7 = .ok (.aload_n 0, 1) := by decide +kernel
theorem dX7_isThere_8 : decode cX7_isThere 8 = .ok (.iconst 0, 1) := by decide +kernel
theorem dX7_isThere_9 : decode cX7_isThere 9 = .ok (.iaload, 1) := by decide +kernel
theorem dX7_isThere_10 : decode cX7_isThere 10 = .ok (.if_icmp .ne 7, 3) := by decide +kernel
theorem dX7_isThere_13 : decode cX7_isThere 13 = .ok (.iconst 1, 1) := by decide +kernel
theorem dX7_isThere_14 : decode cX7_isThere 14 = .ok (.goto 4, 3) := by decide +kernel
theorem dX7_isThere_17 : decode cX7_isThere 17 = .ok (.iconst 0, 1) := by decide +kernel
theorem dX7_isThere_18 : decode cX7_isThere 18 = .ok (.ireturn, 1) := by decide +kernel
theorem dX7_fill_0 : decode cX7_fill 0 = .ok (.aload_n 0, 1) := by decide +kernel
theorem dX7_fill_1 : decode cX7_fill 1 = .ok (.aload_n 0, 1) := by decide +kernel
theorem dX7_fill_2 : decode cX7_fill 2 = .ok (.iload_n 1, 1) := by decide +kernel
theorem dX7_fill_3 : decode cX7_fill 3 = .ok (.iconst 0, 1) := by decide +kernel
theorem dX7_fill_4 : decode cX7_fill 4 = .ok (.invokestatic 51, 3) := by decide +kernel
theorem dX7_fill_7 : decode cX7_fill 7 = .ok (.iaload, 1) := by decide +kernel
theorem dX7_fill_8 : decode cX7_fill 8 = .ok (.invokestatic 75, 3) := by decide +kernel
theorem dX7_fill_11 : decode cX7_fill 11 = .ok (.istore_n 2, 1) := by decide +kernel
theorem dX7_fill_12 : decode cX7_fill 12 = .ok (.iconst 0, 1) := by decide +kernel
theorem dX7_fill_13 : decode cX7_fill 13 = .ok (.istore_n 3, 1) := by decide +kernel
theorem dX7_fill_14 : decode cX7_fill 14 = .ok (.iload_n 3, 1) := by decide +kernel
theorem dX7_fill_15 : decode cX7_fill 15 = .ok (.aload_n 0, 1) := by decide +kernel
theorem dX7_fill_16 : decode cX7_fill 16 = .ok (.iload_n 1, 1) := by decide +kernel
theorem dX7_fill_17 : decode cX7_fill 17 = .ok (.invokestatic 64, 3) := by decide +kernel
theorem dX7_fill_20 : decode cX7_fill 20 = .ok (.if_icmp .ge 93, 3) := by decide +kernel
theorem dX7_fill_23 : decode cX7_fill 23 = .ok (.iload_n 2, 1) := by decide +kernel
theorem dX7_fill_24 : decode cX7_fill 24 = .ok (.bipush (-9), 2) := by decide +kernel
theorem dX7_fill_26 : decode cX7_fill 26 = .ok (.if_icmp .eq 87, 3) := by decide +kernel
theorem dX7_fill_29 : decode cX7_fill 29 = .ok (.aload_n 0, 1) := by decide +kernel
theorem dX7_fill_30 : decode cX7_fill 30 = .ok (.iload_n 1, 1) := by decide +kernel
theorem dX7_fill_31 : decode cX7_fill 31 = .ok (.iload_n 3, 1) := by decide +kernel
theorem dX7_fill_32 : decode cX7_fill 32 = .ok (.invokestatic 68, 3) := by decide +kernel
theorem dX7_fill_35 : decode cX7_fill 35 = .ok (.istore 4, 2) := by decide +kernel
theorem dX7_fill_37 : decode cX7_fill 37 = .ok (.aload_n 0, 1) := by decide +kernel
theorem dX7_fill_38 : decode cX7_fill 38 = .ok (.iload 4, 2) := by decide +kernel
theorem dX7_fill_40 : decode cX7_fill 40 = .ok (.iconst 2, 1) := by decide +kernel
theorem dX7_fill_41 : decode cX7_fill 41 = .ok (.invokestatic 72, 3) := by decide +kernel
theorem dX7_fill_44 : decode cX7_fill 44 = .ok (.iaload, 1) := by decide +kernel
theorem dX7_fill_45 : decode cX7_fill 45 = .ok (.aload_n 0, 1) := by decide +kernel
theorem dX7_fill_46 : decode cX7_fill 46 = .ok (.iload 4, 2) := by decide +kernel
theorem dX7_fill_48 : decode cX7_fill 48 = .ok (.iconst 3, 1) := by decide +kernel
theorem dX7_fill_49 : decode cX7_fill 49 = .ok (.invokestatic 72, 3) := by decide +kernel
theorem dX7_fill_52 : decode cX7_fill 52 = .ok (.iaload, 1) := by decide +kernel
theorem dX7_fill_53 : decode cX7_fill 53 = .ok (.isub, 1) := by decide +kernel
theorem dX7_fill_54 : decode cX7_fill 54 = .ok (.istore 5, 2) := by decide +kernel
theorem dX7_fill_56 : decode cX7_fill 56 = .ok (.iload 5, 2) := by decide +kernel
theorem dX7_fill_58 : decode cX7_fill 58 = .ok (.aload_n 0, 1) := by decide +kernel
theorem dX7_fill_59 : decode cX7_fill 59 = .ok (.iload_n 2, 1) := by decide +kernel
theorem dX7_fill_60 : decode cX7_fill 60 = .ok (.iconst 1, 1) := by decide +kernel
theorem dX7_fill_61 : decode cX7_fill 61 = .ok (.invokestatic 61, 3) := by decide +kernel
theorem dX7_fill_64 : decode cX7_fill 64 = .ok (.iaload, 1) := by decide +kernel
theorem dX7_fill_65 : decode cX7_fill 65 = .ok (.if_icmp .ge 8, 3) := by decide +kernel
theorem dX7_fill_68 : decode cX7_fill 68 = .ok (.iload 5, 2) := by decide +kernel
theorem dX7_fill_70 : decode cX7_fill 70 = .ok (.goto 10, 3) := by decide +kernel
theorem dX7_fill_73 : decode cX7_fill 73 = .ok (.aload_n 0, 1) := by decide +kernel
theorem dX7_fill_74 : decode cX7_fill 74 = .ok (.iload_n 2, 1) := by decide +kernel
theorem dX7_fill_75 : decode cX7_fill 75 = .ok (.iconst 1, 1) := by decide +kernel
theorem dX7_fill_76 : decode cX7_fill 76 = .ok (.invokestatic 61, 3) := by decide +kernel
theorem dX7_fill_79 : decode cX7_fill 79 = .ok (.iaload, 1) := by decide +kernel
theorem dX7_fill_80 : decode cX7_fill 80 = .ok (.istore 6, 2) := by decide +kernel
theorem dX7_fill_82 : decode cX7_fill 82 = .ok (.aload_n 0, 1) := by decide +kernel
theorem dX7_fill_83 : decode cX7_fill 83 = .ok (.iload 4, 2) := by decide +kernel
theorem dX7_fill_85 : decode cX7_fill 85 = .ok (.iconst 3, 1) := by decide +kernel
theorem dX7_fill_86 : decode cX7_fill 86 = .ok (.invokestatic 72, 3) := by decide +kernel
theorem dX7_fill_89 : decode cX7_fill 89 = .ok (.dup2, 1) := by decide +kernel
theorem dX7_fill_90 : decode cX7_fill 90 = .ok (.iaload, 1) := by decide +kernel
theorem dX7_fill_91 : decode cX7_fill 91 = .ok (.iload 6, 2) := by decide +kernel
theorem dX7_fill_93 : decode cX7_fill 93 = .ok (.iadd, 1) := by decide +kernel
theorem dX7_fill_94 : decode cX7_fill 94 = .ok (.iastore, 1) := by decide +kernel
theorem dX7_fill_95 : decode cX7_fill 95 = .ok (.aload_n 0, 1) := by decide +kernel
theorem dX7_fill_96 : decode cX7_fill 96 = .ok (.iload_n 2, 1) := by decide +kernel
theorem dX7_fill_97 : decode cX7_fill 97 = .ok (.iconst 1, 1) := by decide +kernel
theorem dX7_fill_98 : decode cX7_fill 98 = .ok (.invokestatic 61, 3) := by decide +kernel
theorem dX7_fill_101 : decode cX7_fill 101 = .ok (.dup2, 1) := by decide +kernel
theorem dX7_fill_102 : decode cX7_fill 102 = .ok (.iaload, 1) := by decide +kernel
theorem dX7_fill_103 : decode cX7_fill 103 = .ok (.iload 6, 2) := by decide +kernel
theorem dX7_fill_105 : decode cX7_fill 105 = .ok (.isub, 1) := by decide +kernel
theorem dX7_fill_106 : decode cX7_fill 106 = .ok (.iastore, 1) := by decide +kernel
theorem dX7_fill_107 : decode cX7_fill 107 = .ok (.iinc 3 1, 3) := by decide +kernel
theorem dX7_fill_110 : decode cX7_fill 110 = .ok (.goto (-96), 3) := by decide +kernel
theorem dX7_fill_113 : decode cX7_fill 113 = .ok (.return_, 1) := by decide +kernel
theorem dX7_isShort_0 : decode cX7_isShort 0 = .ok (.aload_n 0, 1) := by decide +kernel
theorem dX7_isShort_1 : decode cX7_isShort 1 = .ok (.iload_n 1, 1) := by decide +kernel
theorem dX7_isShort_2 : decode cX7_isShort 2 = .ok (.iconst 3, 1) := by decide +kernel
theorem dX7_isShort_3 : decode cX7_isShort 3 = .ok (.invokestatic 72, 3) := by decide +kernel
theorem dX7_isShort_6 : decode cX7_isShort 6 = .ok (.iaload, 1) := by decide +kernel
theorem dX7_isShort_7 : decode cX7_isShort 7 = .ok (.aload_n 0, 1) := by decide +kernel
theorem dX7_isShort_8 : decode cX7_isShort 8 = .ok (.iload_n 1, 1) := by decide +kernel
theorem dX7_isShort_9 : decode cX7_isShort 9 = .ok (.iconst 1, 1) := by decide +kernel
theorem dX7_isShort_10 : decode cX7_isShort 10 = .ok (.invokestatic 72, 3) := by decide +kernel
theorem dX7_isShort_13 : decode cX7_isShort 13 = .ok (.iaload, 1) := by decide +kernel
theorem dX7_isShort_14 : decode cX7_isShort 14 = .ok (.if_icmp .ge 7, 3) := by decide +kernel
theorem dX7_isShort_17 : decode cX7_isShort 17 = .ok (.iconst 1, 1) := by decide +kernel
theorem dX7_isShort_18 : decode cX7_isShort 18 = .ok (.goto 4, 3) := by decide +kernel
theorem dX7_isShort_21 : decode cX7_isShort 21 = .ok (.iconst 0, 1) := by decide +kernel
theorem dX7_isShort_22 : decode cX7_isShort 22 = .ok (.ireturn, 1) := by decide +kernel
theorem dX7_drop_0 : decode cX7_drop 0 = .ok (.iload_n 2, 1) := by decide +kernel
theorem dX7_drop_1 : decode cX7_drop 1 = .ok (.istore 4, 2) := by decide +kernel
theorem dX7_drop_3 : decode cX7_drop 3 = .ok (.iload 4, 2) := by decide +kernel
theorem dX7_drop_5 : decode cX7_drop 5 = .ok (.iload_n 3, 1) := by decide +kernel
theorem dX7_drop_6 : decode cX7_drop 6 = .ok (.iconst 1, 1) := by decide +kernel
theorem dX7_drop_7 : decode cX7_drop 7 = .ok (.isub, 1) := by decide +kernel
theorem dX7_drop_8 : decode cX7_drop 8 = .ok (.if_icmp .ge 23, 3) := by decide +kernel
theorem dX7_drop_11 : decode cX7_drop 11 = .ok (.aload_n 0, 1) := by decide +kernel
theorem dX7_drop_12 : decode cX7_drop 12 = .ok (.iload_n 1, 1) := by decide +kernel
theorem dX7_drop_13 : decode cX7_drop 13 = .ok (.iload 4, 2) := by decide +kernel
theorem dX7_drop_15 : decode cX7_drop 15 = .ok (.iadd, 1) := by decide +kernel
theorem dX7_drop_16 : decode cX7_drop 16 = .ok (.aload_n 0, 1) := by decide +kernel
theorem dX7_drop_17 : decode cX7_drop 17 = .ok (.iload_n 1, 1) := by decide +kernel
theorem dX7_drop_18 : decode cX7_drop 18 = .ok (.iload 4, 2) := by decide +kernel
theorem dX7_drop_20 : decode cX7_drop 20 = .ok (.iadd, 1) := by decide +kernel
theorem dX7_drop_21 : decode cX7_drop 21 = .ok (.iconst 1, 1) := by decide +kernel
theorem dX7_drop_22 : decode cX7_drop 22 = .ok (.iadd, 1) := by decide +kernel
theorem dX7_drop_23 : decode cX7_drop 23 = .ok (.iaload, 1) := by decide +kernel
theorem dX7_drop_24 : decode cX7_drop 24 = .ok (.iastore, 1) := by decide +kernel
theorem dX7_drop_25 : decode cX7_drop 25 = .ok (.iinc 4 1, 3) := by decide +kernel
theorem dX7_drop_28 : decode cX7_drop 28 = .ok (.goto (-25), 3) := by decide +kernel
theorem dX7_drop_31 : decode cX7_drop 31 = .ok (.return_, 1) := by decide +kernel
theorem dX7_sheds_0 : decode cX7_sheds 0 = .ok (.aload_n 1, 1) := by decide +kernel
theorem dX7_sheds_1 : decode cX7_sheds 1 = .ok (.aload_n 1, 1) := by decide +kernel
theorem dX7_sheds_2 : decode cX7_sheds 2 = .ok (.iload_n 2, 1) := by decide +kernel
theorem dX7_sheds_3 : decode cX7_sheds 3 = .ok (.iconst 0, 1) := by decide +kernel
theorem dX7_sheds_4 : decode cX7_sheds 4 = .ok (.invokestatic 51, 3) := by decide +kernel
theorem dX7_sheds_7 : decode cX7_sheds 7 = .ok (.iaload, 1) := by decide +kernel
theorem dX7_sheds_8 : decode cX7_sheds 8 = .ok (.invokestatic 78, 3) := by decide +kernel
theorem dX7_sheds_11 : decode cX7_sheds 11 = .ok (.istore_n 3, 1) := by decide +kernel
theorem dX7_sheds_12 : decode cX7_sheds 12 = .ok (.iconst 0, 1) := by decide +kernel
theorem dX7_sheds_13 : decode cX7_sheds 13 = .ok (.istore 4, 2) := by decide +kernel
theorem dX7_sheds_15 : decode cX7_sheds 15 = .ok (.iconst 1, 1) := by decide +kernel
theorem dX7_sheds_16 : decode cX7_sheds 16 = .ok (.istore 5, 2) := by decide +kernel
theorem dX7_sheds_18 : decode cX7_sheds 18 = .ok (.iload 4, 2) := by decide +kernel
theorem dX7_sheds_20 : decode cX7_sheds 20 = .ok (.aload_n 1, 1) := by decide +kernel
theorem dX7_sheds_21 : decode cX7_sheds 21 = .ok (.iload_n 2, 1) := by decide +kernel
theorem dX7_sheds_22 : decode cX7_sheds 22 = .ok (.invokestatic 64, 3) := by decide +kernel
theorem dX7_sheds_25 : decode cX7_sheds 25 = .ok (.if_icmp .ge 194, 3) := by decide +kernel
theorem dX7_sheds_28 : decode cX7_sheds 28 = .ok (.aload_n 1, 1) := by decide +kernel
theorem dX7_sheds_29 : decode cX7_sheds 29 = .ok (.iload_n 2, 1) := by decide +kernel
theorem dX7_sheds_30 : decode cX7_sheds 30 = .ok (.iload 4, 2) := by decide +kernel
theorem dX7_sheds_32 : decode cX7_sheds 32 = .ok (.invokestatic 68, 3) := by decide +kernel
theorem dX7_sheds_35 : decode cX7_sheds 35 = .ok (.istore 6, 2) := by decide +kernel
theorem dX7_sheds_37 : decode cX7_sheds 37 = .ok (.iload_n 3, 1) := by decide +kernel
theorem dX7_sheds_38 : decode cX7_sheds 38 = .ok (.bipush (-9), 2) := by decide +kernel
theorem dX7_sheds_40 : decode cX7_sheds 40 = .ok (.if_icmp .eq 24, 3) := by decide +kernel
theorem dX7_sheds_43 : decode cX7_sheds 43 = .ok (.aload_n 1, 1) := by decide +kernel
theorem dX7_sheds_44 : decode cX7_sheds 44 = .ok (.iload_n 3, 1) := by decide +kernel
theorem dX7_sheds_45 : decode cX7_sheds 45 = .ok (.iconst 2, 1) := by decide +kernel
theorem dX7_sheds_46 : decode cX7_sheds 46 = .ok (.invokestatic 58, 3) := by decide +kernel
theorem dX7_sheds_49 : decode cX7_sheds 49 = .ok (.iaload, 1) := by decide +kernel
theorem dX7_sheds_50 : decode cX7_sheds 50 = .ok (.aload_n 1, 1) := by decide +kernel
theorem dX7_sheds_51 : decode cX7_sheds 51 = .ok (.iload_n 3, 1) := by decide +kernel
theorem dX7_sheds_52 : decode cX7_sheds 52 = .ok (.iconst 1, 1) := by decide +kernel
theorem dX7_sheds_53 : decode cX7_sheds 53 = .ok (.invokestatic 58, 3) := by decide +kernel
theorem dX7_sheds_56 : decode cX7_sheds 56 = .ok (.iaload, 1) := by decide +kernel
theorem dX7_sheds_57 : decode cX7_sheds 57 = .ok (.if_icmp .ge 7, 3) := by decide +kernel
theorem dX7_sheds_60 : decode cX7_sheds 60 = .ok (.iconst 1, 1) := by decide +kernel
theorem dX7_sheds_61 : decode cX7_sheds 61 = .ok (.goto 4, 3) := by decide +kernel
theorem dX7_sheds_64 : decode cX7_sheds 64 = .ok (.iconst 0, 1) := by decide +kernel
theorem dX7_sheds_65 : decode cX7_sheds 65 = .ok (.istore 7, 2) := by decide +kernel
theorem dX7_sheds_67 : decode cX7_sheds 67 = .ok (.aload_n 1, 1) := by decide +kernel
theorem dX7_sheds_68 : decode cX7_sheds 68 = .ok (.iload 6, 2) := by decide +kernel
theorem dX7_sheds_70 : decode cX7_sheds 70 = .ok (.invokestatic 81, 3) := by decide +kernel
theorem dX7_sheds_73 : decode cX7_sheds 73 = .ok (.ifCond .eq 119, 3) := by decide +kernel
theorem dX7_sheds_76 : decode cX7_sheds 76 = .ok (.iload 7, 2) := by decide +kernel
theorem dX7_sheds_78 : decode cX7_sheds 78 = .ok (.ifCond .eq 114, 3) := by decide +kernel
theorem dX7_sheds_81 : decode cX7_sheds 81 = .ok (.aload_n 1, 1) := by decide +kernel
theorem dX7_sheds_82 : decode cX7_sheds 82 = .ok (.iload_n 3, 1) := by decide +kernel
theorem dX7_sheds_83 : decode cX7_sheds 83 = .ok (.iconst 3, 1) := by decide +kernel
theorem dX7_sheds_84 : decode cX7_sheds 84 = .ok (.aload_n 1, 1) := by decide +kernel
theorem dX7_sheds_85 : decode cX7_sheds 85 = .ok (.iload_n 3, 1) := by decide +kernel
theorem dX7_sheds_86 : decode cX7_sheds 86 = .ok (.iconst 2, 1) := by decide +kernel
theorem dX7_sheds_87 : decode cX7_sheds 87 = .ok (.invokestatic 58, 3) := by decide +kernel
theorem dX7_sheds_90 : decode cX7_sheds 90 = .ok (.iaload, 1) := by decide +kernel
theorem dX7_sheds_91 : decode cX7_sheds 91 = .ok (.iadd, 1) := by decide +kernel
theorem dX7_sheds_92 : decode cX7_sheds 92 = .ok (.invokestatic 58, 3) := by decide +kernel
theorem dX7_sheds_95 : decode cX7_sheds 95 = .ok (.iload 6, 2) := by decide +kernel
theorem dX7_sheds_97 : decode cX7_sheds 97 = .ok (.iastore, 1) := by decide +kernel
theorem dX7_sheds_98 : decode cX7_sheds 98 = .ok (.aload_n 1, 1) := by decide +kernel
theorem dX7_sheds_99 : decode cX7_sheds 99 = .ok (.iload_n 3, 1) := by decide +kernel
theorem dX7_sheds_100 : decode cX7_sheds 100 = .ok (.iconst 2, 1) := by decide +kernel
theorem dX7_sheds_101 : decode cX7_sheds 101 = .ok (.invokestatic 58, 3) := by decide +kernel
theorem dX7_sheds_104 : decode cX7_sheds 104 = .ok (.dup2, 1) := by decide +kernel
theorem dX7_sheds_105 : decode cX7_sheds 105 = .ok (.iaload, 1) := by decide +kernel
theorem dX7_sheds_106 : decode cX7_sheds 106 = .ok (.iconst 1, 1) := by decide +kernel
theorem dX7_sheds_107 : decode cX7_sheds 107 = .ok (.iadd, 1) := by decide +kernel
theorem dX7_sheds_108 : decode cX7_sheds 108 = .ok (.iastore, 1) := by decide +kernel
theorem dX7_sheds_109 : decode cX7_sheds 109 = .ok (.aload_n 1, 1) := by decide +kernel
theorem dX7_sheds_110 : decode cX7_sheds 110 = .ok (.iload 6, 2) := by decide +kernel
theorem dX7_sheds_112 : decode cX7_sheds 112 = .ok (.iconst 4, 1) := by decide +kernel
theorem dX7_sheds_113 : decode cX7_sheds 113 = .ok (.invokestatic 72, 3) := by decide +kernel
theorem dX7_sheds_116 : decode cX7_sheds 116 = .ok (.iconst 1, 1) := by decide +kernel
theorem dX7_sheds_117 : decode cX7_sheds 117 = .ok (.iastore, 1) := by decide +kernel
theorem dX7_sheds_118 : decode cX7_sheds 118 = .ok (.aload_n 1, 1) := by decide +kernel
theorem dX7_sheds_119 : decode cX7_sheds 119 = .ok (.iload 6, 2) := by decide +kernel
theorem dX7_sheds_121 : decode cX7_sheds 121 = .ok (.iconst 5, 1) := by decide +kernel
theorem dX7_sheds_122 : decode cX7_sheds 122 = .ok (.invokestatic 72, 3) := by decide +kernel
theorem dX7_sheds_125 : decode cX7_sheds 125 = .ok (.iload_n 3, 1) := by decide +kernel
theorem dX7_sheds_126 : decode cX7_sheds 126 = .ok (.iastore, 1) := by decide +kernel
theorem dX7_sheds_127 : decode cX7_sheds 127 = .ok (.aload_n 1, 1) := by decide +kernel
theorem dX7_sheds_128 : decode cX7_sheds 128 = .ok (.iload_n 2, 1) := by decide +kernel
theorem dX7_sheds_129 : decode cX7_sheds 129 = .ok (.iconst 5, 1) := by decide +kernel
theorem dX7_sheds_130 : decode cX7_sheds 130 = .ok (.invokestatic 51, 3) := by decide +kernel
theorem dX7_sheds_133 : decode cX7_sheds 133 = .ok (.iload 4, 2) := by decide +kernel
theorem dX7_sheds_135 : decode cX7_sheds 135 = .ok (.aload_n 1, 1) := by decide +kernel
theorem dX7_sheds_136 : decode cX7_sheds 136 = .ok (.iload_n 2, 1) := by decide +kernel
theorem dX7_sheds_137 : decode cX7_sheds 137 = .ok (.invokestatic 64, 3) := by decide +kernel
theorem dX7_sheds_140 : decode cX7_sheds 140 = .ok (.invokestatic 85, 3) := by decide +kernel
theorem dX7_sheds_143 : decode cX7_sheds 143 = .ok (.aload_n 1, 1) := by decide +kernel
theorem dX7_sheds_144 : decode cX7_sheds 144 = .ok (.iload_n 2, 1) := by decide +kernel
theorem dX7_sheds_145 : decode cX7_sheds 145 = .ok (.iconst 1, 1) := by decide +kernel
theorem dX7_sheds_146 : decode cX7_sheds 146 = .ok (.invokestatic 51, 3) := by decide +kernel
theorem dX7_sheds_149 : decode cX7_sheds 149 = .ok (.dup2, 1) := by decide +kernel
theorem dX7_sheds_150 : decode cX7_sheds 150 = .ok (.iaload, 1) := by decide +kernel
theorem dX7_sheds_151 : decode cX7_sheds 151 = .ok (.iconst 1, 1) := by decide +kernel
theorem dX7_sheds_152 : decode cX7_sheds 152 = .ok (.isub, 1) := by decide +kernel
theorem dX7_sheds_153 : decode cX7_sheds 153 = .ok (.iastore, 1) := by decide +kernel
theorem dX7_sheds_154 : decode cX7_sheds 154 = .ok (.aload_n 0, 1) := by decide +kernel
theorem dX7_sheds_155 : decode cX7_sheds 155 = .ok (.iload_n 2, 1) := by decide +kernel
theorem dX7_sheds_156 : decode cX7_sheds 156 = .ok (.aload_n 0, 1) := by decide +kernel
theorem dX7_sheds_157 : decode cX7_sheds 157 = .ok (.getfield 32, 3) := by decide +kernel
theorem dX7_sheds_160 : decode cX7_sheds 160 = .ok (.if_icmp .ne 22, 3) := by decide +kernel
theorem dX7_sheds_163 : decode cX7_sheds 163 = .ok (.aload_n 0, 1) := by decide +kernel
theorem dX7_sheds_164 : decode cX7_sheds 164 = .ok (.getfield 36, 3) := by decide +kernel
theorem dX7_sheds_167 : decode cX7_sheds 167 = .ok (.bipush (-9), 2) := by decide +kernel
theorem dX7_sheds_169 : decode cX7_sheds 169 = .ok (.if_icmp .ne 13, 3) := by decide +kernel
theorem dX7_sheds_172 : decode cX7_sheds 172 = .ok (.bipush 100, 2) := by decide +kernel
theorem dX7_sheds_174 : decode cX7_sheds 174 = .ok (.iload_n 3, 1) := by decide +kernel
theorem dX7_sheds_175 : decode cX7_sheds 175 = .ok (.imul, 1) := by decide +kernel
theorem dX7_sheds_176 : decode cX7_sheds 176 = .ok (.iload 6, 2) := by decide +kernel
theorem dX7_sheds_178 : decode cX7_sheds 178 = .ok (.iadd, 1) := by decide +kernel
theorem dX7_sheds_179 : decode cX7_sheds 179 = .ok (.goto 7, 3) := by decide +kernel
theorem dX7_sheds_182 : decode cX7_sheds 182 = .ok (.aload_n 0, 1) := by decide +kernel
theorem dX7_sheds_183 : decode cX7_sheds 183 = .ok (.getfield 36, 3) := by decide +kernel
theorem dX7_sheds_186 : decode cX7_sheds 186 = .ok (.putfield 36, 3) := by decide +kernel
theorem dX7_sheds_189 : decode cX7_sheds 189 = .ok (.goto 27, 3) := by decide +kernel
theorem dX7_sheds_192 : decode cX7_sheds 192 = .ok (.iload 5, 2) := by decide +kernel
theorem dX7_sheds_194 : decode cX7_sheds 194 = .ok (.ifCond .eq 16, 3) := by decide +kernel
theorem dX7_sheds_197 : decode cX7_sheds 197 = .ok (.aload_n 1, 1) := by decide +kernel
theorem dX7_sheds_198 : decode cX7_sheds 198 = .ok (.iload 6, 2) := by decide +kernel
theorem dX7_sheds_200 : decode cX7_sheds 200 = .ok (.invokestatic 81, 3) := by decide +kernel
theorem dX7_sheds_203 : decode cX7_sheds 203 = .ok (.ifCond .ne 7, 3) := by decide +kernel
theorem dX7_sheds_206 : decode cX7_sheds 206 = .ok (.iconst 1, 1) := by decide +kernel
theorem dX7_sheds_207 : decode cX7_sheds 207 = .ok (.goto 4, 3) := by decide +kernel
theorem dX7_sheds_210 : decode cX7_sheds 210 = .ok (.iconst 0, 1) := by decide +kernel
theorem dX7_sheds_211 : decode cX7_sheds 211 = .ok (.istore 5, 2) := by decide +kernel
theorem dX7_sheds_213 : decode cX7_sheds 213 = .ok (.iinc 4 1, 3) := by decide +kernel
theorem dX7_sheds_216 : decode cX7_sheds 216 = .ok (.goto (-198), 3) := by decide +kernel
theorem dX7_sheds_219 : decode cX7_sheds 219 = .ok (.iload 5, 2) := by decide +kernel
theorem dX7_sheds_221 : decode cX7_sheds 221 = .ok (.ifCond .eq 15, 3) := by decide +kernel
theorem dX7_sheds_224 : decode cX7_sheds 224 = .ok (.aload_n 1, 1) := by decide +kernel
theorem dX7_sheds_225 : decode cX7_sheds 225 = .ok (.iload_n 2, 1) := by decide +kernel
theorem dX7_sheds_226 : decode cX7_sheds 226 = .ok (.invokestatic 64, 3) := by decide +kernel
theorem dX7_sheds_229 : decode cX7_sheds 229 = .ok (.ifCond .le 7, 3) := by decide +kernel
theorem dX7_sheds_232 : decode cX7_sheds 232 = .ok (.iconst 1, 1) := by decide +kernel
theorem dX7_sheds_233 : decode cX7_sheds 233 = .ok (.goto 4, 3) := by decide +kernel
theorem dX7_sheds_236 : decode cX7_sheds 236 = .ok (.iconst 0, 1) := by decide +kernel
theorem dX7_sheds_237 : decode cX7_sheds 237 = .ok (.ireturn, 1) := by decide +kernel
theorem dX7_burn_0 : decode cX7_burn 0 = .ok (.aload_n 0, 1) := by decide +kernel
theorem dX7_burn_1 : decode cX7_burn 1 = .ok (.iload_n 1, 1) := by decide +kernel
theorem dX7_burn_2 : decode cX7_burn 2 = .ok (.iconst 0, 1) := by decide +kernel
theorem dX7_burn_3 : decode cX7_burn 3 = .ok (.invokestatic 51, 3) := by decide +kernel
theorem dX7_burn_6 : decode cX7_burn 6 = .ok (.dup2, 1) := by decide +kernel
theorem dX7_burn_7 : decode cX7_burn 7 = .ok (.iaload, 1) := by decide +kernel
theorem dX7_burn_8 : decode cX7_burn 8 = .ok (.iconst 1, 1) := by decide +kernel
theorem dX7_burn_9 : decode cX7_burn 9 = .ok (.iadd, 1) := by decide +kernel
theorem dX7_burn_10 : decode cX7_burn 10 = .ok (.iastore, 1) := by decide +kernel
theorem dX7_burn_11 : decode cX7_burn 11 = .ok (.iconst 0, 1) := by decide +kernel
theorem dX7_burn_12 : decode cX7_burn 12 = .ok (.istore_n 2, 1) := by decide +kernel
theorem dX7_burn_13 : decode cX7_burn 13 = .ok (.iload_n 2, 1) := by decide +kernel
theorem dX7_burn_14 : decode cX7_burn 14 = .ok (.aload_n 0, 1) := by decide +kernel
theorem dX7_burn_15 : decode cX7_burn 15 = .ok (.iload_n 1, 1) := by decide +kernel
theorem dX7_burn_16 : decode cX7_burn 16 = .ok (.invokestatic 64, 3) := by decide +kernel
theorem dX7_burn_19 : decode cX7_burn 19 = .ok (.if_icmp .ge 65, 3) := by decide +kernel
theorem dX7_burn_22 : decode cX7_burn 22 = .ok (.aload_n 0, 1) := by decide +kernel
theorem dX7_burn_23 : decode cX7_burn 23 = .ok (.iload_n 1, 1) := by decide +kernel
theorem dX7_burn_24 : decode cX7_burn 24 = .ok (.iload_n 2, 1) := by decide +kernel
theorem dX7_burn_25 : decode cX7_burn 25 = .ok (.invokestatic 68, 3) := by decide +kernel
theorem dX7_burn_28 : decode cX7_burn 28 = .ok (.istore_n 3, 1) := by decide +kernel
theorem dX7_burn_29 : decode cX7_burn 29 = .ok (.aload_n 0, 1) := by decide +kernel
theorem dX7_burn_30 : decode cX7_burn 30 = .ok (.iload_n 3, 1) := by decide +kernel
theorem dX7_burn_31 : decode cX7_burn 31 = .ok (.iconst 3, 1) := by decide +kernel
theorem dX7_burn_32 : decode cX7_burn 32 = .ok (.invokestatic 72, 3) := by decide +kernel
theorem dX7_burn_35 : decode cX7_burn 35 = .ok (.dup2, 1) := by decide +kernel
theorem dX7_burn_36 : decode cX7_burn 36 = .ok (.iaload, 1) := by decide +kernel
theorem dX7_burn_37 : decode cX7_burn 37 = .ok (.aload_n 0, 1) := by decide +kernel
theorem dX7_burn_38 : decode cX7_burn 38 = .ok (.iload_n 3, 1) := by decide +kernel
theorem dX7_burn_39 : decode cX7_burn 39 = .ok (.iconst 1, 1) := by decide +kernel
theorem dX7_burn_40 : decode cX7_burn 40 = .ok (.invokestatic 72, 3) := by decide +kernel
theorem dX7_burn_43 : decode cX7_burn 43 = .ok (.iaload, 1) := by decide +kernel
theorem dX7_burn_44 : decode cX7_burn 44 = .ok (.isub, 1) := by decide +kernel
theorem dX7_burn_45 : decode cX7_burn 45 = .ok (.iastore, 1) := by decide +kernel
theorem dX7_burn_46 : decode cX7_burn 46 = .ok (.aload_n 0, 1) := by decide +kernel
theorem dX7_burn_47 : decode cX7_burn 47 = .ok (.iload_n 3, 1) := by decide +kernel
theorem dX7_burn_48 : decode cX7_burn 48 = .ok (.bipush 6, 2) := by decide +kernel
theorem dX7_burn_50 : decode cX7_burn 50 = .ok (.invokestatic 72, 3) := by decide +kernel
theorem dX7_burn_53 : decode cX7_burn 53 = .ok (.dup2, 1) := by decide +kernel
theorem dX7_burn_54 : decode cX7_burn 54 = .ok (.iaload, 1) := by decide +kernel
theorem dX7_burn_55 : decode cX7_burn 55 = .ok (.aload_n 0, 1) := by decide +kernel
theorem dX7_burn_56 : decode cX7_burn 56 = .ok (.iload_n 3, 1) := by decide +kernel
theorem dX7_burn_57 : decode cX7_burn 57 = .ok (.iconst 1, 1) := by decide +kernel
theorem dX7_burn_58 : decode cX7_burn 58 = .ok (.invokestatic 72, 3) := by decide +kernel
theorem dX7_burn_61 : decode cX7_burn 61 = .ok (.iaload, 1) := by decide +kernel
theorem dX7_burn_62 : decode cX7_burn 62 = .ok (.iadd, 1) := by decide +kernel
theorem dX7_burn_63 : decode cX7_burn 63 = .ok (.iastore, 1) := by decide +kernel
theorem dX7_burn_64 : decode cX7_burn 64 = .ok (.aload_n 0, 1) := by decide +kernel
theorem dX7_burn_65 : decode cX7_burn 65 = .ok (.bipush 7, 2) := by decide +kernel
theorem dX7_burn_67 : decode cX7_burn 67 = .ok (.dup2, 1) := by decide +kernel
theorem dX7_burn_68 : decode cX7_burn 68 = .ok (.iaload, 1) := by decide +kernel
theorem dX7_burn_69 : decode cX7_burn 69 = .ok (.aload_n 0, 1) := by decide +kernel
theorem dX7_burn_70 : decode cX7_burn 70 = .ok (.iload_n 3, 1) := by decide +kernel
theorem dX7_burn_71 : decode cX7_burn 71 = .ok (.iconst 1, 1) := by decide +kernel
theorem dX7_burn_72 : decode cX7_burn 72 = .ok (.invokestatic 72, 3) := by decide +kernel
theorem dX7_burn_75 : decode cX7_burn 75 = .ok (.iaload, 1) := by decide +kernel
theorem dX7_burn_76 : decode cX7_burn 76 = .ok (.iadd, 1) := by decide +kernel
theorem dX7_burn_77 : decode cX7_burn 77 = .ok (.iastore, 1) := by decide +kernel
theorem dX7_burn_78 : decode cX7_burn 78 = .ok (.iinc 2 1, 3) := by decide +kernel
theorem dX7_burn_81 : decode cX7_burn 81 = .ok (.goto (-68), 3) := by decide +kernel
theorem dX7_burn_84 : decode cX7_burn 84 = .ok (.return_, 1) := by decide +kernel
theorem dX7_arrive_0 : decode cX7_arrive 0 = .ok (.iconst 0, 1) := by decide +kernel
theorem dX7_arrive_1 : decode cX7_arrive 1 = .ok (.istore_n 2, 1) := by decide +kernel
theorem dX7_arrive_2 : decode cX7_arrive 2 = .ok (.iload_n 2, 1) := by decide +kernel
theorem dX7_arrive_3 : decode cX7_arrive 3 = .ok (.aload_n 0, 1) := by decide +kernel
theorem dX7_arrive_4 : decode cX7_arrive 4 = .ok (.iload_n 1, 1) := by decide +kernel
theorem dX7_arrive_5 : decode cX7_arrive 5 = .ok (.invokestatic 64, 3) := by decide +kernel
theorem dX7_arrive_8 : decode cX7_arrive 8 = .ok (.if_icmp .ge 36, 3) := by decide +kernel
theorem dX7_arrive_11 : decode cX7_arrive 11 = .ok (.aload_n 0, 1) := by decide +kernel
theorem dX7_arrive_12 : decode cX7_arrive 12 = .ok (.aload_n 0, 1) := by decide +kernel
theorem dX7_arrive_13 : decode cX7_arrive 13 = .ok (.iload_n 1, 1) := by decide +kernel
theorem dX7_arrive_14 : decode cX7_arrive 14 = .ok (.iload_n 2, 1) := by decide +kernel
theorem dX7_arrive_15 : decode cX7_arrive 15 = .ok (.invokestatic 68, 3) := by decide +kernel
theorem dX7_arrive_18 : decode cX7_arrive 18 = .ok (.iconst 4, 1) := by decide +kernel
theorem dX7_arrive_19 : decode cX7_arrive 19 = .ok (.invokestatic 72, 3) := by decide +kernel
theorem dX7_arrive_22 : decode cX7_arrive 22 = .ok (.iconst 2, 1) := by decide +kernel
theorem dX7_arrive_23 : decode cX7_arrive 23 = .ok (.iastore, 1) := by decide +kernel
theorem dX7_arrive_24 : decode cX7_arrive 24 = .ok (.aload_n 0, 1) := by decide +kernel
theorem dX7_arrive_25 : decode cX7_arrive 25 = .ok (.aload_n 0, 1) := by decide +kernel
theorem dX7_arrive_26 : decode cX7_arrive 26 = .ok (.iload_n 1, 1) := by decide +kernel
theorem dX7_arrive_27 : decode cX7_arrive 27 = .ok (.iload_n 2, 1) := by decide +kernel
theorem dX7_arrive_28 : decode cX7_arrive 28 = .ok (.invokestatic 68, 3) := by decide +kernel
theorem dX7_arrive_31 : decode cX7_arrive 31 = .ok (.iconst 5, 1) := by decide +kernel
theorem dX7_arrive_32 : decode cX7_arrive 32 = .ok (.invokestatic 72, 3) := by decide +kernel
theorem dX7_arrive_35 : decode cX7_arrive 35 = .ok (.bipush (-9), 2) := by decide +kernel
theorem dX7_arrive_37 : decode cX7_arrive 37 = .ok (.iastore, 1) := by decide +kernel
theorem dX7_arrive_38 : decode cX7_arrive 38 = .ok (.iinc 2 1, 3) := by decide +kernel
theorem dX7_arrive_41 : decode cX7_arrive 41 = .ok (.goto (-39), 3) := by decide +kernel
theorem dX7_arrive_44 : decode cX7_arrive 44 = .ok (.aload_n 0, 1) := by decide +kernel
theorem dX7_arrive_45 : decode cX7_arrive 45 = .ok (.iload_n 1, 1) := by decide +kernel
theorem dX7_arrive_46 : decode cX7_arrive 46 = .ok (.iconst 1, 1) := by decide +kernel
theorem dX7_arrive_47 : decode cX7_arrive 47 = .ok (.invokestatic 51, 3) := by decide +kernel
theorem dX7_arrive_50 : decode cX7_arrive 50 = .ok (.iconst 0, 1) := by decide +kernel
theorem dX7_arrive_51 : decode cX7_arrive 51 = .ok (.iastore, 1) := by decide +kernel
theorem dX7_arrive_52 : decode cX7_arrive 52 = .ok (.return_, 1) := by decide +kernel
theorem dX7_helps_0 : decode cX7_helps 0 = .ok (.aload_n 0, 1) := by decide +kernel
theorem dX7_helps_1 : decode cX7_helps 1 = .ok (.iload_n 2, 1) := by decide +kernel
theorem dX7_helps_2 : decode cX7_helps 2 = .ok (.iconst 3, 1) := by decide +kernel
theorem dX7_helps_3 : decode cX7_helps 3 = .ok (.invokestatic 58, 3) := by decide +kernel
theorem dX7_helps_6 : decode cX7_helps 6 = .ok (.iaload, 1) := by decide +kernel
theorem dX7_helps_7 : decode cX7_helps 7 = .ok (.istore_n 3, 1) := by decide +kernel
theorem dX7_helps_8 : decode cX7_helps 8 = .ok (.aload_n 0, 1) := by decide +kernel
theorem dX7_helps_9 : decode cX7_helps 9 = .ok (.iload_n 1, 1) := by decide +kernel
theorem dX7_helps_10 : decode cX7_helps 10 = .ok (.iconst 0, 1) := by decide +kernel
theorem dX7_helps_11 : decode cX7_helps 11 = .ok (.invokestatic 68, 3) := by decide +kernel
theorem dX7_helps_14 : decode cX7_helps 14 = .ok (.istore 4, 2) := by decide +kernel
theorem dX7_helps_16 : decode cX7_helps 16 = .ok (.iconst 1, 1) := by decide +kernel
theorem dX7_helps_17 : decode cX7_helps 17 = .ok (.istore 5, 2) := by decide +kernel
theorem dX7_helps_19 : decode cX7_helps 19 = .ok (.iload 5, 2) := by decide +kernel
theorem dX7_helps_21 : decode cX7_helps 21 = .ok (.aload_n 0, 1) := by decide +kernel
theorem dX7_helps_22 : decode cX7_helps 22 = .ok (.iload_n 1, 1) := by decide +kernel
theorem dX7_helps_23 : decode cX7_helps 23 = .ok (.invokestatic 64, 3) := by decide +kernel
theorem dX7_helps_26 : decode cX7_helps 26 = .ok (.if_icmp .ge 46, 3) := by decide +kernel
theorem dX7_helps_29 : decode cX7_helps 29 = .ok (.aload_n 0, 1) := by decide +kernel
theorem dX7_helps_30 : decode cX7_helps 30 = .ok (.iload_n 1, 1) := by decide +kernel
theorem dX7_helps_31 : decode cX7_helps 31 = .ok (.iload 5, 2) := by decide +kernel
theorem dX7_helps_33 : decode cX7_helps 33 = .ok (.invokestatic 68, 3) := by decide +kernel
theorem dX7_helps_36 : decode cX7_helps 36 = .ok (.istore 6, 2) := by decide +kernel
theorem dX7_helps_38 : decode cX7_helps 38 = .ok (.aload_n 0, 1) := by decide +kernel
theorem dX7_helps_39 : decode cX7_helps 39 = .ok (.iload 6, 2) := by decide +kernel
theorem dX7_helps_41 : decode cX7_helps 41 = .ok (.iconst 3, 1) := by decide +kernel
theorem dX7_helps_42 : decode cX7_helps 42 = .ok (.invokestatic 72, 3) := by decide +kernel
theorem dX7_helps_45 : decode cX7_helps 45 = .ok (.iaload, 1) := by decide +kernel
theorem dX7_helps_46 : decode cX7_helps 46 = .ok (.aload_n 0, 1) := by decide +kernel
theorem dX7_helps_47 : decode cX7_helps 47 = .ok (.iload 4, 2) := by decide +kernel
theorem dX7_helps_49 : decode cX7_helps 49 = .ok (.iconst 3, 1) := by decide +kernel
theorem dX7_helps_50 : decode cX7_helps 50 = .ok (.invokestatic 72, 3) := by decide +kernel
theorem dX7_helps_53 : decode cX7_helps 53 = .ok (.iaload, 1) := by decide +kernel
theorem dX7_helps_54 : decode cX7_helps 54 = .ok (.if_icmp .le 8, 3) := by decide +kernel
theorem dX7_helps_57 : decode cX7_helps 57 = .ok (.iload 6, 2) := by decide +kernel
theorem dX7_helps_59 : decode cX7_helps 59 = .ok (.goto 5, 3) := by decide +kernel
theorem dX7_helps_62 : decode cX7_helps 62 = .ok (.iload 4, 2) := by decide +kernel
theorem dX7_helps_64 : decode cX7_helps 64 = .ok (.istore 4, 2) := by decide +kernel
theorem dX7_helps_66 : decode cX7_helps 66 = .ok (.iinc 5 1, 3) := by decide +kernel
theorem dX7_helps_69 : decode cX7_helps 69 = .ok (.goto (-50), 3) := by decide +kernel
theorem dX7_helps_72 : decode cX7_helps 72 = .ok (.aload_n 0, 1) := by decide +kernel
theorem dX7_helps_73 : decode cX7_helps 73 = .ok (.iload 4, 2) := by decide +kernel
theorem dX7_helps_75 : decode cX7_helps 75 = .ok (.iconst 3, 1) := by decide +kernel
theorem dX7_helps_76 : decode cX7_helps 76 = .ok (.invokestatic 72, 3) := by decide +kernel
theorem dX7_helps_79 : decode cX7_helps 79 = .ok (.iaload, 1) := by decide +kernel
theorem dX7_helps_80 : decode cX7_helps 80 = .ok (.iconst 2, 1) := by decide +kernel
theorem dX7_helps_81 : decode cX7_helps 81 = .ok (.idiv, 1) := by decide +kernel
theorem dX7_helps_82 : decode cX7_helps 82 = .ok (.istore 5, 2) := by decide +kernel
theorem dX7_helps_84 : decode cX7_helps 84 = .ok (.iload 5, 2) := by decide +kernel
theorem dX7_helps_86 : decode cX7_helps 86 = .ok (.bipush 10, 2) := by decide +kernel
theorem dX7_helps_88 : decode cX7_helps 88 = .ok (.if_icmp .le 8, 3) := by decide +kernel
theorem dX7_helps_91 : decode cX7_helps 91 = .ok (.bipush 10, 2) := by decide +kernel
theorem dX7_helps_93 : decode cX7_helps 93 = .ok (.goto 5, 3) := by decide +kernel
theorem dX7_helps_96 : decode cX7_helps 96 = .ok (.iload 5, 2) := by decide +kernel
theorem dX7_helps_98 : decode cX7_helps 98 = .ok (.istore 5, 2) := by decide +kernel
