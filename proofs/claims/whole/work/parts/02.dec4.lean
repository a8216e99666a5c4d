theorem dX11_stepsOn_264 : decode cX11_stepsOn 264 = .ok (.aload_n 0, 1) := by decide +kernel
theorem dX11_stepsOn_265 : decode cX11_stepsOn 265 = .ok (.getfield 90, 3) := by decide +kernel
theorem dX11_stepsOn_268 : decode cX11_stepsOn 268 = .ok (.iload 4, 2) := by decide +kernel
theorem dX11_stepsOn_270 : decode cX11_stepsOn 270 = .ok (.aload_n 0, 1) := by decide +kernel
theorem dX11_stepsOn_271 : decode cX11_stepsOn 271 = .ok (.getfield 90, 3) := by decide +kernel
theorem dX11_stepsOn_274 : decode cX11_stepsOn 274 = .ok (.iload 4, 2) := by decide +kernel
theorem dX11_stepsOn_276 : decode cX11_stepsOn 276 = .ok (.iaload, 1) := by decide +kernel
theorem dX11_stepsOn_277 : decode cX11_stepsOn 277 = .ok (.aload_n 0, 1) := by decide +kernel
theorem dX11_stepsOn_278 : decode cX11_stepsOn 278 = .ok (.getfield 75, 3) := by decide +kernel
theorem dX11_stepsOn_281 : decode cX11_stepsOn 281 = .ok (.iload_n 3, 1) := by decide +kernel
theorem dX11_stepsOn_282 : decode cX11_stepsOn 282 = .ok (.iaload, 1) := by decide +kernel
theorem dX11_stepsOn_283 : decode cX11_stepsOn 283 = .ok (.iadd, 1) := by decide +kernel
theorem dX11_stepsOn_284 : decode cX11_stepsOn 284 = .ok (.iconst 4, 1) := by decide +kernel
theorem dX11_stepsOn_285 : decode cX11_stepsOn 285 = .ok (.irem, 1) := by decide +kernel
theorem dX11_stepsOn_286 : decode cX11_stepsOn 286 = .ok (.iastore, 1) := by decide +kernel
theorem dX11_stepsOn_287 : decode cX11_stepsOn 287 = .ok (.goto 43, 3) := by decide +kernel
theorem dX11_stepsOn_290 : decode cX11_stepsOn 290 = .ok (.aload_n 0, 1) := by decide +kernel
theorem dX11_stepsOn_291 : decode cX11_stepsOn 291 = .ok (.getfield 99, 3) := by decide +kernel
theorem dX11_stepsOn_294 : decode cX11_stepsOn 294 = .ok (.iload_n 1, 1) := by decide +kernel
theorem dX11_stepsOn_295 : decode cX11_stepsOn 295 = .ok (.iaload, 1) := by decide +kernel
theorem dX11_stepsOn_296 : decode cX11_stepsOn 296 = .ok (.ifCond .ne 12, 3) := by decide +kernel
theorem dX11_stepsOn_299 : decode cX11_stepsOn 299 = .ok (.aload_n 0, 1) := by decide +kernel
theorem dX11_stepsOn_300 : decode cX11_stepsOn 300 = .ok (.getfield 81, 3) := by decide +kernel
theorem dX11_stepsOn_303 : decode cX11_stepsOn 303 = .ok (.iload_n 3, 1) := by decide +kernel
theorem dX11_stepsOn_304 : decode cX11_stepsOn 304 = .ok (.iaload, 1) := by decide +kernel
theorem dX11_stepsOn_305 : decode cX11_stepsOn 305 = .ok (.goto 5, 3) := by decide +kernel
theorem dX11_stepsOn_308 : decode cX11_stepsOn 308 = .ok (.iload 5, 2) := by decide +kernel
theorem dX11_stepsOn_310 : decode cX11_stepsOn 310 = .ok (.istore 5, 2) := by decide +kernel
theorem dX11_stepsOn_312 : decode cX11_stepsOn 312 = .ok (.goto 18, 3) := by decide +kernel
theorem dX11_stepsOn_315 : decode cX11_stepsOn 315 = .ok (.aload_n 0, 1) := by decide +kernel
theorem dX11_stepsOn_316 : decode cX11_stepsOn 316 = .ok (.getfield 99, 3) := by decide +kernel
theorem dX11_stepsOn_319 : decode cX11_stepsOn 319 = .ok (.iload_n 1, 1) := by decide +kernel
theorem dX11_stepsOn_320 : decode cX11_stepsOn 320 = .ok (.aload_n 0, 1) := by decide +kernel
theorem dX11_stepsOn_321 : decode cX11_stepsOn 321 = .ok (.getfield 75, 3) := by decide +kernel
theorem dX11_stepsOn_324 : decode cX11_stepsOn 324 = .ok (.iload_n 3, 1) := by decide +kernel
theorem dX11_stepsOn_325 : decode cX11_stepsOn 325 = .ok (.iaload, 1) := by decide +kernel
theorem dX11_stepsOn_326 : decode cX11_stepsOn 326 = .ok (.iastore, 1) := by decide +kernel
theorem dX11_stepsOn_327 : decode cX11_stepsOn 327 = .ok (.goto 3, 3) := by decide +kernel
theorem dX11_stepsOn_330 : decode cX11_stepsOn 330 = .ok (.aload_n 0, 1) := by decide +kernel
theorem dX11_stepsOn_331 : decode cX11_stepsOn 331 = .ok (.iload_n 1, 1) := by decide +kernel
theorem dX11_stepsOn_332 : decode cX11_stepsOn 332 = .ok (.iload 5, 2) := by decide +kernel
theorem dX11_stepsOn_334 : decode cX11_stepsOn 334 = .ok (.invokevirtual 274, 3) := by decide +kernel
theorem dX11_stepsOn_337 : decode cX11_stepsOn 337 = .ok (.return_, 1) := by decide +kernel
theorem dX11_does_0 : decode cX11_does 0 = .ok (.aload_n 0, 1) := by decide +kernel
theorem dX11_does_1 : decode cX11_does 1 = .ok (.iconst (-1), 1) := by decide +kernel
theorem dX11_does_2 : decode cX11_does 2 = .ok (.putfield 264, 3) := by decide +kernel
theorem dX11_does_5 : decode cX11_does 5 = .ok (.iload_n 1, 1) := by decide +kernel
theorem dX11_does_6 : decode cX11_does 6 = .ok (.bipush 10, 2) := by decide +kernel
theorem dX11_does_8 : decode cX11_does 8 = .ok (.if_icmp .ge 10, 3) := by decide +kernel
theorem dX11_does_11 : decode cX11_does 11 = .ok (.aload_n 0, 1) := by decide +kernel
theorem dX11_does_12 : decode cX11_does 12 = .ok (.iload_n 1, 1) := by decide +kernel
theorem dX11_does_13 : decode cX11_does 13 = .ok (.iload_n 2, 1) := by decide +kernel
theorem dX11_does_14 : decode cX11_does 14 = .ok (.invokevirtual 277, 3) := by decide +kernel
theorem dX11_does_17 : decode cX11_does 17 = .ok (.return_, 1) := by decide +kernel
theorem dX11_does_18 : decode cX11_does 18 = .ok (.iload_n 1, 1) := by decide +kernel
theorem dX11_does_19 : decode cX11_does 19 = .ok (.bipush 10, 2) := by decide +kernel
theorem dX11_does_21 : decode cX11_does 21 = .ok (.isub, 1) := by decide +kernel
theorem dX11_does_22 : decode cX11_does 22 = .ok (.istore_n 3, 1) := by decide +kernel
theorem dX11_does_23 : decode cX11_does 23 = .ok (.aload_n 0, 1) := by decide +kernel
theorem dX11_does_24 : decode cX11_does 24 = .ok (.aload_n 0, 1) := by decide +kernel
theorem dX11_does_25 : decode cX11_does 25 = .ok (.getfield 108, 3) := by decide +kernel
theorem dX11_does_28 : decode cX11_does 28 = .ok (.iconst 2, 1) := by decide +kernel
theorem dX11_does_29 : decode cX11_does 29 = .ok (.iload_n 3, 1) := by decide +kernel
theorem dX11_does_30 : decode cX11_does 30 = .ok (.imul, 1) := by decide +kernel
theorem dX11_does_31 : decode cX11_does 31 = .ok (.iaload, 1) := by decide +kernel
theorem dX11_does_32 : decode cX11_does 32 = .ok (.putfield 264, 3) := by decide +kernel
theorem dX11_does_35 : decode cX11_does 35 = .ok (.aload_n 0, 1) := by decide +kernel
theorem dX11_does_36 : decode cX11_does 36 = .ok (.getfield 90, 3) := by decide +kernel
theorem dX11_does_39 : decode cX11_does 39 = .ok (.aload_n 0, 1) := by decide +kernel
theorem dX11_does_40 : decode cX11_does 40 = .ok (.getfield 264, 3) := by decide +kernel
theorem dX11_does_43 : decode cX11_does 43 = .ok (.aload_n 0, 1) := by decide +kernel
theorem dX11_does_44 : decode cX11_does 44 = .ok (.getfield 111, 3) := by decide +kernel
theorem dX11_does_47 : decode cX11_does 47 = .ok (.iconst 2, 1) := by decide +kernel
theorem dX11_does_48 : decode cX11_does 48 = .ok (.iload_n 3, 1) := by decide +kernel
theorem dX11_does_49 : decode cX11_does 49 = .ok (.imul, 1) := by decide +kernel
theorem dX11_does_50 : decode cX11_does 50 = .ok (.iaload, 1) := by decide +kernel
theorem dX11_does_51 : decode cX11_does 51 = .ok (.iastore, 1) := by decide +kernel
theorem dX11_does_52 : decode cX11_does 52 = .ok (.aload_n 0, 1) := by decide +kernel
theorem dX11_does_53 : decode cX11_does 53 = .ok (.getfield 108, 3) := by decide +kernel
theorem dX11_does_56 : decode cX11_does 56 = .ok (.iconst 2, 1) := by decide +kernel
theorem dX11_does_57 : decode cX11_does 57 = .ok (.iload_n 3, 1) := by decide +kernel
theorem dX11_does_58 : decode cX11_does 58 = .ok (.imul, 1) := by decide +kernel
theorem dX11_does_59 : decode cX11_does 59 = .ok (.aload_n 0, 1) := by decide +kernel
theorem dX11_does_60 : decode cX11_does 60 = .ok (.getfield 108, 3) := by decide +kernel
theorem dX11_does_63 : decode cX11_does 63 = .ok (.iconst 2, 1) := by decide +kernel
theorem dX11_does_64 : decode cX11_does 64 = .ok (.iload_n 3, 1) := by decide +kernel
theorem dX11_does_65 : decode cX11_does 65 = .ok (.imul, 1) := by decide +kernel
theorem dX11_does_66 : decode cX11_does 66 = .ok (.iconst 1, 1) := by decide +kernel
theorem dX11_does_67 : decode cX11_does 67 = .ok (.iadd, 1) := by decide +kernel
theorem dX11_does_68 : decode cX11_does 68 = .ok (.iaload, 1) := by decide +kernel
theorem dX11_does_69 : decode cX11_does 69 = .ok (.iastore, 1) := by decide +kernel
theorem dX11_does_70 : decode cX11_does 70 = .ok (.aload_n 0, 1) := by decide +kernel
theorem dX11_does_71 : decode cX11_does 71 = .ok (.getfield 111, 3) := by decide +kernel
theorem dX11_does_74 : decode cX11_does 74 = .ok (.iconst 2, 1) := by decide +kernel
theorem dX11_does_75 : decode cX11_does 75 = .ok (.iload_n 3, 1) := by decide +kernel
theorem dX11_does_76 : decode cX11_does 76 = .ok (.imul, 1) := by decide +kernel
theorem dX11_does_77 : decode cX11_does 77 = .ok (.aload_n 0, 1) := by decide +kernel
theorem dX11_does_78 : decode cX11_does 78 = .ok (.getfield 111, 3) := by decide +kernel
theorem dX11_does_81 : decode cX11_does 81 = .ok (.iconst 2, 1) := by decide +kernel
theorem dX11_does_82 : decode cX11_does 82 = .ok (.iload_n 3, 1) := by decide +kernel
theorem dX11_does_83 : decode cX11_does 83 = .ok (.imul, 1) := by decide +kernel
theorem dX11_does_84 : decode cX11_does 84 = .ok (.iconst 1, 1) := by decide +kernel
theorem dX11_does_85 : decode cX11_does 85 = .ok (.iadd, 1) := by decide +kernel
theorem dX11_does_86 : decode cX11_does 86 = .ok (.iaload, 1) := by decide +kernel
theorem dX11_does_87 : decode cX11_does 87 = .ok (.iastore, 1) := by decide +kernel
theorem dX11_does_88 : decode cX11_does 88 = .ok (.aload_n 0, 1) := by decide +kernel
theorem dX11_does_89 : decode cX11_does 89 = .ok (.getfield 105, 3) := by decide +kernel
theorem dX11_does_92 : decode cX11_does 92 = .ok (.iload_n 3, 1) := by decide +kernel
theorem dX11_does_93 : decode cX11_does 93 = .ok (.dup2, 1) := by decide +kernel
theorem dX11_does_94 : decode cX11_does 94 = .ok (.iaload, 1) := by decide +kernel
theorem dX11_does_95 : decode cX11_does 95 = .ok (.iconst 1, 1) := by decide +kernel
theorem dX11_does_96 : decode cX11_does 96 = .ok (.isub, 1) := by decide +kernel
theorem dX11_does_97 : decode cX11_does 97 = .ok (.iastore, 1) := by decide +kernel
theorem dX11_does_98 : decode cX11_does 98 = .ok (.return_, 1) := by decide +kernel
theorem dX11_moveOf_0 : decode cX11_moveOf 0 = .ok (.iload_n 0, 1) := by decide +kernel
theorem dX11_moveOf_1 : decode cX11_moveOf 1 = .ok (.iconst 3, 1) := by decide +kernel
theorem dX11_moveOf_2 : decode cX11_moveOf 2 = .ok (.if_icmp .ge 7, 3) := by decide +kernel
theorem dX11_moveOf_5 : decode cX11_moveOf 5 = .ok (.iload_n 0, 1) := by decide +kernel
theorem dX11_moveOf_6 : decode cX11_moveOf 6 = .ok (.goto 7, 3) := by decide +kernel
theorem dX11_moveOf_9 : decode cX11_moveOf 9 = .ok (.bipush 7, 2) := by decide +kernel
theorem dX11_moveOf_11 : decode cX11_moveOf 11 = .ok (.iload_n 0, 1) := by decide +kernel
theorem dX11_moveOf_12 : decode cX11_moveOf 12 = .ok (.iadd, 1) := by decide +kernel
theorem dX11_moveOf_13 : decode cX11_moveOf 13 = .ok (.ireturn, 1) := by decide +kernel
theorem dX11_placeOf_0 : decode cX11_placeOf 0 = .ok (.lload_n 1, 1) := by decide +kernel
theorem dX11_placeOf_1 : decode cX11_placeOf 1 = .ok (.lload_n 1, 1) := by decide +kernel
theorem dX11_placeOf_2 : decode cX11_placeOf 2 = .ok (.bipush 17, 2) := by decide +kernel
theorem dX11_placeOf_4 : decode cX11_placeOf 4 = .ok (.lshr, 1) := by decide +kernel
theorem dX11_placeOf_5 : decode cX11_placeOf 5 = .ok (.lxor, 1) := by decide +kernel
theorem dX11_placeOf_6 : decode cX11_placeOf 6 = .ok (.lload_n 1, 1) := by decide +kernel
theorem dX11_placeOf_7 : decode cX11_placeOf 7 = .ok (.bipush 35, 2) := by decide +kernel
theorem dX11_placeOf_9 : decode cX11_placeOf 9 = .ok (.lshr, 1) := by decide +kernel
theorem dX11_placeOf_10 : decode cX11_placeOf 10 = .ok (.lxor, 1) := by decide +kernel
theorem dX11_placeOf_11 : decode cX11_placeOf 11 = .ok (.ldc2_w 280, 3) := by decide +kernel
theorem dX11_placeOf_14 : decode cX11_placeOf 14 = .ok (.land, 1) := by decide +kernel
theorem dX11_placeOf_15 : decode cX11_placeOf 15 = .ok (.l2i, 1) := by decide +kernel
theorem dX11_placeOf_16 : decode cX11_placeOf 16 = .ok (.istore 4, 2) := by decide +kernel
theorem dX11_placeOf_18 : decode cX11_placeOf 18 = .ok (.aload_n 0, 1) := by decide +kernel
theorem dX11_placeOf_19 : decode cX11_placeOf 19 = .ok (.getfield 124, 3) := by decide +kernel
theorem dX11_placeOf_22 : decode cX11_placeOf 22 = .ok (.iload 4, 2) := by decide +kernel
theorem dX11_placeOf_24 : decode cX11_placeOf 24 = .ok (.iaload, 1) := by decide +kernel
theorem dX11_placeOf_25 : decode cX11_placeOf 25 = .ok (.ifCond .eq 35, 3) := by decide +kernel
theorem dX11_placeOf_28 : decode cX11_placeOf 28 = .ok (.aload_n 0, 1) := by decide +kernel
theorem dX11_placeOf_29 : decode cX11_placeOf 29 = .ok (.getfield 114, 3) := by decide +kernel
theorem dX11_placeOf_32 : decode cX11_placeOf 32 = .ok (.aload_n 0, 1) := by decide +kernel
theorem dX11_placeOf_33 : decode cX11_placeOf 33 = .ok (.getfield 124, 3) := by decide +kernel
theorem dX11_placeOf_36 : decode cX11_placeOf 36 = .ok (.iload 4, 2) := by decide +kernel
theorem dX11_placeOf_38 : decode cX11_placeOf 38 = .ok (.iaload, 1) := by decide +kernel
theorem dX11_placeOf_39 : decode cX11_placeOf 39 = .ok (.iconst 1, 1) := by decide +kernel
theorem dX11_placeOf_40 : decode cX11_placeOf 40 = .ok (.isub, 1) := by decide +kernel
theorem dX11_placeOf_41 : decode cX11_placeOf 41 = .ok (.laload, 1) := by decide +kernel
theorem dX11_placeOf_42 : decode cX11_placeOf 42 = .ok (.lload_n 1, 1) := by decide +kernel
theorem dX11_placeOf_43 : decode cX11_placeOf 43 = .ok (.lcmp, 1) := by decide +kernel
theorem dX11_placeOf_44 : decode cX11_placeOf 44 = .ok (.ifCond .eq 16, 3) := by decide +kernel
theorem dX11_placeOf_47 : decode cX11_placeOf 47 = .ok (.iload 4, 2) := by decide +kernel
theorem dX11_placeOf_49 : decode cX11_placeOf 49 = .ok (.iconst 1, 1) := by decide +kernel
theorem dX11_placeOf_50 : decode cX11_placeOf 50 = .ok (.iadd, 1) := by decide +kernel
theorem dX11_placeOf_51 : decode cX11_placeOf 51 = .ok (.sipush 16383, 3) := by decide +kernel
theorem dX11_placeOf_54 : decode cX11_placeOf 54 = .ok (.iand, 1) := by decide +kernel
theorem dX11_placeOf_55 : decode cX11_placeOf 55 = .ok (.istore 4, 2) := by decide +kernel
theorem dX11_placeOf_57 : decode cX11_placeOf 57 = .ok (.goto (-39), 3) := by decide +kernel
theorem dX11_placeOf_60 : decode cX11_placeOf 60 = .ok (.aload_n 0, 1) := by decide +kernel
theorem dX11_placeOf_61 : decode cX11_placeOf 61 = .ok (.getfield 124, 3) := by decide +kernel
theorem dX11_placeOf_64 : decode cX11_placeOf 64 = .ok (.iload 4, 2) := by decide +kernel
theorem dX11_placeOf_66 : decode cX11_placeOf 66 = .ok (.iaload, 1) := by decide +kernel
theorem dX11_placeOf_67 : decode cX11_placeOf 67 = .ok (.ifCond .ne 44, 3) := by decide +kernel
theorem dX11_placeOf_70 : decode cX11_placeOf 70 = .ok (.aload_n 0, 1) := by decide +kernel
theorem dX11_placeOf_71 : decode cX11_placeOf 71 = .ok (.getfield 114, 3) := by decide +kernel
theorem dX11_placeOf_74 : decode cX11_placeOf 74 = .ok (.aload_n 0, 1) := by decide +kernel
theorem dX11_placeOf_75 : decode cX11_placeOf 75 = .ok (.getfield 282, 3) := by decide +kernel
theorem dX11_placeOf_78 : decode cX11_placeOf 78 = .ok (.lload_n 1, 1) := by decide +kernel
theorem dX11_placeOf_79 : decode cX11_placeOf 79 = .ok (.lastore, 1) := by decide +kernel
theorem dX11_placeOf_80 : decode cX11_placeOf 80 = .ok (.aload_n 0, 1) := by decide +kernel
theorem dX11_placeOf_81 : decode cX11_placeOf 81 = .ok (.getfield 121, 3) := by decide +kernel
theorem dX11_placeOf_84 : decode cX11_placeOf 84 = .ok (.aload_n 0, 1) := by decide +kernel
theorem dX11_placeOf_85 : decode cX11_placeOf 85 = .ok (.getfield 282, 3) := by decide +kernel
theorem dX11_placeOf_88 : decode cX11_placeOf 88 = .ok (.iload_n 3, 1) := by decide +kernel
theorem dX11_placeOf_89 : decode cX11_placeOf 89 = .ok (.iastore, 1) := by decide +kernel
theorem dX11_placeOf_90 : decode cX11_placeOf 90 = .ok (.aload_n 0, 1) := by decide +kernel
theorem dX11_placeOf_91 : decode cX11_placeOf 91 = .ok (.dup, 1) := by decide +kernel
theorem dX11_placeOf_92 : decode cX11_placeOf 92 = .ok (.getfield 282, 3) := by decide +kernel
theorem dX11_placeOf_95 : decode cX11_placeOf 95 = .ok (.iconst 1, 1) := by decide +kernel
theorem dX11_placeOf_96 : decode cX11_placeOf 96 = .ok (.iadd, 1) := by decide +kernel
theorem dX11_placeOf_97 : decode cX11_placeOf 97 = .ok (.putfield 282, 3) := by decide +kernel
theorem dX11_placeOf_100 : decode cX11_placeOf 100 = .ok (.aload_n 0, 1) := by decide +kernel
theorem dX11_placeOf_101 : decode cX11_placeOf 101 = .ok (.getfield 124, 3) := by decide +kernel
theorem dX11_placeOf_104 : decode cX11_placeOf 104 = .ok (.iload 4, 2) := by decide +kernel
theorem dX11_placeOf_106 : decode cX11_placeOf 106 = .ok (.aload_n 0, 1) := by decide +kernel
theorem dX11_placeOf_107 : decode cX11_placeOf 107 = .ok (.getfield 282, 3) := by decide +kernel
theorem dX11_placeOf_110 : decode cX11_placeOf 110 = .ok (.iastore, 1) := by decide +kernel
theorem dX11_placeOf_111 : decode cX11_placeOf 111 = .ok (.aload_n 0, 1) := by decide +kernel
theorem dX11_placeOf_112 : decode cX11_placeOf 112 = .ok (.getfield 124, 3) := by decide +kernel
theorem dX11_placeOf_115 : decode cX11_placeOf 115 = .ok (.iload 4, 2) := by decide +kernel
theorem dX11_placeOf_117 : decode cX11_placeOf 117 = .ok (.iaload, 1) := by decide +kernel
theorem dX11_placeOf_118 : decode cX11_placeOf 118 = .ok (.iconst 1, 1) := by decide +kernel
theorem dX11_placeOf_119 : decode cX11_placeOf 119 = .ok (.isub, 1) := by decide +kernel
theorem dX11_placeOf_120 : decode cX11_placeOf 120 = .ok (.ireturn, 1) := by decide +kernel
theorem dX11_goesThrough_0 : decode cX11_goesThrough 0 = .ok (.aload_n 0, 1) := by decide +kernel
theorem dX11_goesThrough_1 : decode cX11_goesThrough 1 = .ok (.iload_n 1, 1) := by decide +kernel
theorem dX11_goesThrough_2 : decode cX11_goesThrough 2 = .ok (.invokevirtual 285, 3) := by decide +kernel
theorem dX11_goesThrough_5 : decode cX11_goesThrough 5 = .ok (.iconst 0, 1) := by decide +kernel
theorem dX11_goesThrough_6 : decode cX11_goesThrough 6 = .ok (.istore_n 2, 1) := by decide +kernel
theorem dX11_goesThrough_7 : decode cX11_goesThrough 7 = .ok (.iload_n 2, 1) := by decide +kernel
theorem dX11_goesThrough_8 : decode cX11_goesThrough 8 = .ok (.sipush 16384, 3) := by decide +kernel
theorem dX11_goesThrough_11 : decode cX11_goesThrough 11 = .ok (.if_icmp .ge 16, 3) := by decide +kernel
theorem dX11_goesThrough_14 : decode cX11_goesThrough 14 = .ok (.aload_n 0, 1) := by decide +kernel
theorem dX11_goesThrough_15 : decode cX11_goesThrough 15 = .ok (.getfield 124, 3) := by decide +kernel
theorem dX11_goesThrough_18 : decode cX11_goesThrough 18 = .ok (.iload_n 2, 1) := by decide +kernel
theorem dX11_goesThrough_19 : decode cX11_goesThrough 19 = .ok (.iconst 0, 1) := by decide +kernel
theorem dX11_goesThrough_20 : decode cX11_goesThrough 20 = .ok (.iastore, 1) := by decide +kernel
theorem dX11_goesThrough_21 : decode cX11_goesThrough 21 = .ok (.iinc 2 1, 3) := by decide +kernel
theorem dX11_goesThrough_24 : decode cX11_goesThrough 24 = .ok (.goto (-17), 3) := by decide +kernel
theorem dX11_goesThrough_27 : decode cX11_goesThrough 27 = .ok (.aload_n 0, 1) := by decide +kernel
theorem dX11_goesThrough_28 : decode cX11_goesThrough 28 = .ok (.iconst 0, 1) := by decide +kernel
theorem dX11_goesThrough_29 : decode cX11_goesThrough 29 = .ok (.putfield 282, 3) := by decide +kernel
theorem dX11_goesThrough_32 : decode cX11_goesThrough 32 = .ok (.aload_n 0, 1) := by decide +kernel
theorem dX11_goesThrough_33 : decode cX11_goesThrough 33 = .ok (.invokevirtual 288, 3) := by decide +kernel
theorem dX11_goesThrough_36 : decode cX11_goesThrough 36 = .ok (.aload_n 0, 1) := by decide +kernel
theorem dX11_goesThrough_37 : decode cX11_goesThrough 37 = .ok (.aload_n 0, 1) := by decide +kernel
theorem dX11_goesThrough_38 : decode cX11_goesThrough 38 = .ok (.invokevirtual 291, 3) := by decide +kernel
theorem dX11_goesThrough_41 : decode cX11_goesThrough 41 = .ok (.iconst 0, 1) := by decide +kernel
theorem dX11_goesThrough_42 : decode cX11_goesThrough 42 = .ok (.invokevirtual 295, 3) := by decide +kernel
theorem dX11_goesThrough_45 : decode cX11_goesThrough 45 = .ok (.istore_n 2, 1) := by decide +kernel
theorem dX11_goesThrough_46 : decode cX11_goesThrough 46 = .ok (.iload_n 2, 1) := by decide +kernel
theorem dX11_goesThrough_47 : decode cX11_goesThrough 47 = .ok (.istore_n 3, 1) := by decide +kernel
theorem dX11_goesThrough_48 : decode cX11_goesThrough 48 = .ok (.iload_n 3, 1) := by decide +kernel
theorem dX11_goesThrough_49 : decode cX11_goesThrough 49 = .ok (.aload_n 0, 1) := by decide +kernel
theorem dX11_goesThrough_50 : decode cX11_goesThrough 50 = .ok (.getfield 282, 3) := by decide +kernel
theorem dX11_goesThrough_53 : decode cX11_goesThrough 53 = .ok (.if_icmp .ge 156, 3) := by decide +kernel
theorem dX11_goesThrough_56 : decode cX11_goesThrough 56 = .ok (.aload_n 0, 1) := by decide +kernel
theorem dX11_goesThrough_57 : decode cX11_goesThrough 57 = .ok (.getfield 282, 3) := by decide +kernel
theorem dX11_goesThrough_60 : decode cX11_goesThrough 60 = .ok (.sipush 6000, 3) := by decide +kernel
theorem dX11_goesThrough_63 : decode cX11_goesThrough 63 = .ok (.if_icmp .gt 146, 3) := by decide +kernel
theorem dX11_goesThrough_66 : decode cX11_goesThrough 66 = .ok (.aload_n 0, 1) := by decide +kernel
theorem dX11_goesThrough_67 : decode cX11_goesThrough 67 = .ok (.aload_n 0, 1) := by decide +kernel
theorem dX11_goesThrough_68 : decode cX11_goesThrough 68 = .ok (.getfield 114, 3) := by decide +kernel
theorem dX11_goesThrough_71 : decode cX11_goesThrough 71 = .ok (.iload_n 3, 1) := by decide +kernel
theorem dX11_goesThrough_72 : decode cX11_goesThrough 72 = .ok (.laload, 1) := by decide +kernel
theorem dX11_goesThrough_73 : decode cX11_goesThrough 73 = .ok (.invokevirtual 299, 3) := by decide +kernel
theorem dX11_goesThrough_76 : decode cX11_goesThrough 76 = .ok (.aload_n 0, 1) := by decide +kernel
theorem dX11_goesThrough_77 : decode cX11_goesThrough 77 = .ok (.getfield 131, 3) := by decide +kernel
theorem dX11_goesThrough_80 : decode cX11_goesThrough 80 = .ok (.iload_n 3, 1) := by decide +kernel
theorem dX11_goesThrough_81 : decode cX11_goesThrough 81 = .ok (.aload_n 0, 1) := by decide +kernel
theorem dX11_goesThrough_82 : decode cX11_goesThrough 82 = .ok (.invokevirtual 303, 3) := by decide +kernel
theorem dX11_goesThrough_85 : decode cX11_goesThrough 85 = .ok (.ifCond .eq 10, 3) := by decide +kernel
theorem dX11_goesThrough_88 : decode cX11_goesThrough 88 = .ok (.aload_n 0, 1) := by decide +kernel
theorem dX11_goesThrough_89 : decode cX11_goesThrough 89 = .ok (.invokevirtual 307, 3) := by decide +kernel
theorem dX11_goesThrough_92 : decode cX11_goesThrough 92 = .ok (.goto 4, 3) := by decide +kernel
theorem dX11_goesThrough_95 : decode cX11_goesThrough 95 = .ok (.iconst (-1), 1) := by decide +kernel
theorem dX11_goesThrough_96 : decode cX11_goesThrough 96 = .ok (.iastore, 1) := by decide +kernel
theorem dX11_goesThrough_97 : decode cX11_goesThrough 97 = .ok (.iconst 0, 1) := by decide +kernel
theorem dX11_goesThrough_98 : decode cX11_goesThrough 98 = .ok (.istore 4, 2) := by decide +kernel
theorem dX11_goesThrough_100 : decode cX11_goesThrough 100 = .ok (.iload 4, 2) := by decide +kernel
theorem dX11_goesThrough_102 : decode cX11_goesThrough 102 = .ok (.bipush 6, 2) := by decide +kernel
theorem dX11_goesThrough_104 : decode cX11_goesThrough 104 = .ok (.if_icmp .ge 99, 3) := by decide +kernel
theorem dX11_goesThrough_107 : decode cX11_goesThrough 107 = .ok (.aload_n 0, 1) := by decide +kernel
theorem dX11_goesThrough_108 : decode cX11_goesThrough 108 = .ok (.getfield 282, 3) := by decide +kernel
theorem dX11_goesThrough_111 : decode cX11_goesThrough 111 = .ok (.sipush 6000, 3) := by decide +kernel
theorem dX11_goesThrough_114 : decode cX11_goesThrough 114 = .ok (.if_icmp .gt 89, 3) := by decide +kernel
theorem dX11_goesThrough_117 : decode cX11_goesThrough 117 = .ok (.aload_n 0, 1) := by decide +kernel
theorem dX11_goesThrough_118 : decode cX11_goesThrough 118 = .ok (.aload_n 0, 1) := by decide +kernel
theorem dX11_goesThrough_119 : decode cX11_goesThrough 119 = .ok (.getfield 114, 3) := by decide +kernel
theorem dX11_goesThrough_122 : decode cX11_goesThrough 122 = .ok (.iload_n 3, 1) := by decide +kernel
theorem dX11_goesThrough_123 : decode cX11_goesThrough 123 = .ok (.laload, 1) := by decide +kernel
theorem dX11_goesThrough_124 : decode cX11_goesThrough 124 = .ok (.invokevirtual 299, 3) := by decide +kernel
theorem dX11_goesThrough_127 : decode cX11_goesThrough 127 = .ok (.aload_n 0, 1) := by decide +kernel
theorem dX11_goesThrough_128 : decode cX11_goesThrough 128 = .ok (.getfield 118, 3) := by decide +kernel
theorem dX11_goesThrough_131 : decode cX11_goesThrough 131 = .ok (.bipush 6, 2) := by decide +kernel
theorem dX11_goesThrough_133 : decode cX11_goesThrough 133 = .ok (.iload_n 3, 1) := by decide +kernel
theorem dX11_goesThrough_134 : decode cX11_goesThrough 134 = .ok (.imul, 1) := by decide +kernel
theorem dX11_goesThrough_135 : decode cX11_goesThrough 135 = .ok (.iload 4, 2) := by decide +kernel
theorem dX11_goesThrough_137 : decode cX11_goesThrough 137 = .ok (.iadd, 1) := by decide +kernel
theorem dX11_goesThrough_138 : decode cX11_goesThrough 138 = .ok (.iconst (-1), 1) := by decide +kernel
theorem dX11_goesThrough_139 : decode cX11_goesThrough 139 = .ok (.iastore, 1) := by decide +kernel
theorem dX11_goesThrough_140 : decode cX11_goesThrough 140 = .ok (.aload_n 0, 1) := by decide +kernel
theorem dX11_goesThrough_141 : decode cX11_goesThrough 141 = .ok (.iload 4, 2) := by decide +kernel
theorem dX11_goesThrough_143 : decode cX11_goesThrough 143 = .ok (.invokestatic 311, 3) := by decide +kernel
theorem dX11_goesThrough_146 : decode cX11_goesThrough 146 = .ok (.aload_n 0, 1) := by decide +kernel
theorem dX11_goesThrough_147 : decode cX11_goesThrough 147 = .ok (.getfield 155, 3) := by decide +kernel
theorem dX11_goesThrough_150 : decode cX11_goesThrough 150 = .ok (.invokevirtual 314, 3) := by decide +kernel
theorem dX11_goesThrough_153 : decode cX11_goesThrough 153 = .ok (.ifCond .eq 44, 3) := by decide +kernel
theorem dX11_goesThrough_156 : decode cX11_goesThrough 156 = .ok (.aload_n 0, 1) := by decide +kernel
theorem dX11_goesThrough_157 : decode cX11_goesThrough 157 = .ok (.iload 4, 2) := by decide +kernel
theorem dX11_goesThrough_159 : decode cX11_goesThrough 159 = .ok (.invokestatic 311, 3) := by decide +kernel
theorem dX11_goesThrough_162 : decode cX11_goesThrough 162 = .ok (.aload_n 0, 1) := by decide +kernel
theorem dX11_goesThrough_163 : decode cX11_goesThrough 163 = .ok (.getfield 155, 3) := by decide +kernel
theorem dX11_goesThrough_166 : decode cX11_goesThrough 166 = .ok (.invokevirtual 317, 3) := by decide +kernel
theorem dX11_goesThrough_169 : decode cX11_goesThrough 169 = .ok (.aload_n 0, 1) := by decide +kernel
theorem dX11_goesThrough_170 : decode cX11_goesThrough 170 = .ok (.getfield 118, 3) := by decide +kernel
theorem dX11_goesThrough_173 : decode cX11_goesThrough 173 = .ok (.bipush 6, 2) := by decide +kernel
theorem dX11_goesThrough_175 : decode cX11_goesThrough 175 = .ok (.iload_n 3, 1) := by decide +kernel
theorem dX11_goesThrough_176 : decode cX11_goesThrough 176 = .ok (.imul, 1) := by decide +kernel
theorem dX11_goesThrough_177 : decode cX11_goesThrough 177 = .ok (.iload 4, 2) := by decide +kernel
theorem dX11_goesThrough_179 : decode cX11_goesThrough 179 = .ok (.iadd, 1) := by decide +kernel
theorem dX11_goesThrough_180 : decode cX11_goesThrough 180 = .ok (.aload_n 0, 1) := by decide +kernel
theorem dX11_goesThrough_181 : decode cX11_goesThrough 181 = .ok (.aload_n 0, 1) := by decide +kernel
theorem dX11_goesThrough_182 : decode cX11_goesThrough 182 = .ok (.invokevirtual 291, 3) := by decide +kernel
theorem dX11_goesThrough_185 : decode cX11_goesThrough 185 = .ok (.aload_n 0, 1) := by decide +kernel
theorem dX11_goesThrough_186 : decode cX11_goesThrough 186 = .ok (.getfield 121, 3) := by decide +kernel
theorem dX11_goesThrough_189 : decode cX11_goesThrough 189 = .ok (.iload_n 3, 1) := by decide +kernel
theorem dX11_goesThrough_190 : decode cX11_goesThrough 190 = .ok (.iaload, 1) := by decide +kernel
theorem dX11_goesThrough_191 : decode cX11_goesThrough 191 = .ok (.iconst 1, 1) := by decide +kernel
theorem dX11_goesThrough_192 : decode cX11_goesThrough 192 = .ok (.iadd, 1) := by decide +kernel
theorem dX11_goesThrough_193 : decode cX11_goesThrough 193 = .ok (.invokevirtual 295, 3) := by decide +kernel
theorem dX11_goesThrough_196 : decode cX11_goesThrough 196 = .ok (.iastore, 1) := by decide +kernel
theorem dX11_goesThrough_197 : decode cX11_goesThrough 197 = .ok (.iinc 4 1, 3) := by decide +kernel
theorem dX11_goesThrough_200 : decode cX11_goesThrough 200 = .ok (.goto (-100), 3) := by decide +kernel
theorem dX11_goesThrough_203 : decode cX11_goesThrough 203 = .ok (.iinc 3 1, 3) := by decide +kernel
theorem dX11_goesThrough_206 : decode cX11_goesThrough 206 = .ok (.goto (-158), 3) := by decide +kernel
theorem dX11_goesThrough_209 : decode cX11_goesThrough 209 = .ok (.aload_n 0, 1) := by decide +kernel
theorem dX11_goesThrough_210 : decode cX11_goesThrough 210 = .ok (.getfield 282, 3) := by decide +kernel
theorem dX11_goesThrough_213 : decode cX11_goesThrough 213 = .ok (.sipush 6000, 3) := by decide +kernel
theorem dX11_goesThrough_216 : decode cX11_goesThrough 216 = .ok (.if_icmp .gt 7, 3) := by decide +kernel
theorem dX11_goesThrough_219 : decode cX11_goesThrough 219 = .ok (.iconst 1, 1) := by decide +kernel
theorem dX11_goesThrough_220 : decode cX11_goesThrough 220 = .ok (.goto 4, 3) := by decide +kernel
theorem dX11_goesThrough_223 : decode cX11_goesThrough 223 = .ok (.iconst 0, 1) := by decide +kernel
theorem dX11_goesThrough_224 : decode cX11_goesThrough 224 = .ok (.ireturn, 1) := by decide +kernel
theorem dX11_comes_0 : decode cX11_comes 0 = .ok (.iload_n 1, 1) := by decide +kernel
theorem dX11_comes_1 : decode cX11_comes 1 = .ok (.istore_n 3, 1) := by decide +kernel
theorem dX11_comes_2 : decode cX11_comes 2 = .ok (.iload_n 3, 1) := by decide +kernel
theorem dX11_comes_3 : decode cX11_comes 3 = .ok (.ifCond .le 18, 3) := by decide +kernel
theorem dX11_comes_6 : decode cX11_comes 6 = .ok (.aload_n 0, 1) := by decide +kernel
theorem dX11_comes_7 : decode cX11_comes 7 = .ok (.iload_n 3, 1) := by decide +kernel
theorem dX11_comes_8 : decode cX11_comes 8 = .ok (.iconst 1, 1) := by decide +kernel
theorem dX11_comes_9 : decode cX11_comes 9 = .ok (.isub, 1) := by decide +kernel
theorem dX11_comes_10 : decode cX11_comes 10 = .ok (.iaload, 1) := by decide +kernel
theorem dX11_comes_11 : decode cX11_comes 11 = .ok (.iload_n 2, 1) := by decide +kernel
theorem dX11_comes_12 : decode cX11_comes 12 = .ok (.if_icmp .le 9, 3) := by decide +kernel
theorem dX11_comes_15 : decode cX11_comes 15 = .ok (.iinc 3 (-1), 3) := by decide +kernel
theorem dX11_comes_18 : decode cX11_comes 18 = .ok (.goto (-16), 3) := by decide +kernel
theorem dX11_comes_21 : decode cX11_comes 21 = .ok (.iload_n 3, 1) := by decide +kernel
theorem dX11_comes_22 : decode cX11_comes 22 = .ok (.ifCond .le 14, 3) := by decide +kernel
theorem dX11_comes_25 : decode cX11_comes 25 = .ok (.aload_n 0, 1) := by decide +kernel
theorem dX11_comes_26 : decode cX11_comes 26 = .ok (.iload_n 3, 1) := by decide +kernel
theorem dX11_comes_27 : decode cX11_comes 27 = .ok (.iconst 1, 1) := by decide +kernel
theorem dX11_comes_28 : decode cX11_comes 28 = .ok (.isub, 1) := by decide +kernel
theorem dX11_comes_29 : decode cX11_comes 29 = .ok (.iaload, 1) := by decide +kernel
theorem dX11_comes_30 : decode cX11_comes 30 = .ok (.iload_n 2, 1) := by decide +kernel
theorem dX11_comes_31 : decode cX11_comes 31 = .ok (.if_icmp .ne 5, 3) := by decide +kernel
theorem dX11_comes_34 : decode cX11_comes 34 = .ok (.iload_n 1, 1) := by decide +kernel
theorem dX11_comes_35 : decode cX11_comes 35 = .ok (.ireturn, 1) := by decide +kernel
theorem dX11_comes_36 : decode cX11_comes 36 = .ok (.iload_n 1, 1) := by decide +kernel
theorem dX11_comes_37 : decode cX11_comes 37 = .ok (.istore 4, 2) := by decide +kernel
theorem dX11_comes_39 : decode cX11_comes 39 = .ok (.iload 4, 2) := by decide +kernel
theorem dX11_comes_41 : decode cX11_comes 41 = .ok (.iload_n 3, 1) := by decide +kernel
theorem dX11_comes_42 : decode cX11_comes 42 = .ok (.if_icmp .le 19, 3) := by decide +kernel
theorem dX11_comes_45 : decode cX11_comes 45 = .ok (.aload_n 0, 1) := by decide +kernel
theorem dX11_comes_46 : decode cX11_comes 46 = .ok (.iload 4, 2) := by decide +kernel
theorem dX11_comes_48 : decode cX11_comes 48 = .ok (.aload_n 0, 1) := by decide +kernel
theorem dX11_comes_49 : decode cX11_comes 49 = .ok (.iload 4, 2) := by decide +kernel
theorem dX11_comes_51 : decode cX11_comes 51 = .ok (.iconst 1, 1) := by decide +kernel
theorem dX11_comes_52 : decode cX11_comes 52 = .ok (.isub, 1) := by decide +kernel
theorem dX11_comes_53 : decode cX11_comes 53 = .ok (.iaload, 1) := by decide +kernel
theorem dX11_comes_54 : decode cX11_comes 54 = .ok (.iastore, 1) := by decide +kernel
theorem dX11_comes_55 : decode cX11_comes 55 = .ok (.iinc 4 (-1), 3) := by decide +kernel
theorem dX11_comes_58 : decode cX11_comes 58 = .ok (.goto (-19), 3) := by decide +kernel
theorem dX11_comes_61 : decode cX11_comes 61 = .ok (.aload_n 0, 1) := by decide +kernel
theorem dX11_comes_62 : decode cX11_comes 62 = .ok (.iload_n 3, 1) := by decide +kernel
theorem dX11_comes_63 : decode cX11_comes 63 = .ok (.iload_n 2, 1) := by decide +kernel
theorem dX11_comes_64 : decode cX11_comes 64 = .ok (.iastore, 1) := by decide +kernel
theorem dX11_comes_65 : decode cX11_comes 65 = .ok (.iload_n 1, 1) := by decide +kernel
theorem dX11_comes_66 : decode cX11_comes 66 = .ok (.iconst 1, 1) := by decide +kernel
theorem dX11_comes_67 : decode cX11_comes 67 = .ok (.iadd, 1) := by decide +kernel
theorem dX11_comes_68 : decode cX11_comes 68 = .ok (.ireturn, 1) := by decide +kernel
theorem dX11_findResults_0 : decode cX11_findResults 0 = .ok (.aload_n 0, 1) := by decide +kernel
theorem dX11_findResults_1 : decode cX11_findResults 1 = .ok (.iconst 0, 1) := by decide +kernel
theorem dX11_findResults_2 : decode cX11_findResults 2 = .ok (.putfield 320, 3) := by decide +kernel
theorem dX11_findResults_5 : decode cX11_findResults 5 = .ok (.iconst 0, 1) := by decide +kernel
theorem dX11_findResults_6 : decode cX11_findResults 6 = .ok (.istore_n 1, 1) := by decide +kernel
theorem dX11_findResults_7 : decode cX11_findResults 7 = .ok (.iload_n 1, 1) := by decide +kernel
theorem dX11_findResults_8 : decode cX11_findResults 8 = .ok (.aload_n 0, 1) := by decide +kernel
theorem dX11_findResults_9 : decode cX11_findResults 9 = .ok (.getfield 282, 3) := by decide +kernel
theorem dX11_findResults_12 : decode cX11_findResults 12 = .ok (.if_icmp .ge 46, 3) := by decide +kernel
theorem dX11_findResults_15 : decode cX11_findResults 15 = .ok (.aload_n 0, 1) := by decide +kernel
theorem dX11_findResults_16 : decode cX11_findResults 16 = .ok (.aload_n 0, 1) := by decide +kernel
theorem dX11_findResults_17 : decode cX11_findResults 17 = .ok (.getfield 131, 3) := by decide +kernel
theorem dX11_findResults_20 : decode cX11_findResults 20 = .ok (.iload_n 1, 1) := by decide +kernel
theorem dX11_findResults_21 : decode cX11_findResults 21 = .ok (.iaload, 1) := by decide +kernel
theorem dX11_findResults_22 : decode cX11_findResults 22 = .ok (.ifCond .ge 10, 3) := by decide +kernel
theorem dX11_findResults_25 : decode cX11_findResults 25 = .ok (.aload_n 0, 1) := by decide +kernel
theorem dX11_findResults_26 : decode cX11_findResults 26 = .ok (.getfield 320, 3) := by decide +kernel
theorem dX11_findResults_29 : decode cX11_findResults 29 = .ok (.goto 20, 3) := by decide +kernel
theorem dX11_findResults_32 : decode cX11_findResults 32 = .ok (.aload_n 0, 1) := by decide +kernel
theorem dX11_findResults_33 : decode cX11_findResults 33 = .ok (.getfield 134, 3) := by decide +kernel
theorem dX11_findResults_36 : decode cX11_findResults 36 = .ok (.aload_n 0, 1) := by decide +kernel
theorem dX11_findResults_37 : decode cX11_findResults 37 = .ok (.getfield 320, 3) := by decide +kernel
theorem dX11_findResults_40 : decode cX11_findResults 40 = .ok (.aload_n 0, 1) := by decide +kernel
theorem dX11_findResults_41 : decode cX11_findResults 41 = .ok (.getfield 131, 3) := by decide +kernel
theorem dX11_findResults_44 : decode cX11_findResults 44 = .ok (.iload_n 1, 1) := by decide +kernel
theorem dX11_findResults_45 : decode cX11_findResults 45 = .ok (.iaload, 1) := by decide +kernel
theorem dX11_findResults_46 : decode cX11_findResults 46 = .ok (.invokestatic 323, 3) := by decide +kernel
theorem dX11_findResults_49 : decode cX11_findResults 49 = .ok (.putfield 320, 3) := by decide +kernel
theorem dX11_findResults_52 : decode cX11_findResults 52 = .ok (.iinc 1 1, 3) := by decide +kernel
theorem dX11_findResults_55 : decode cX11_findResults 55 = .ok (.goto (-48), 3) := by decide +kernel
theorem dX11_findResults_58 : decode cX11_findResults 58 = .ok (.return_, 1) := by decide +kernel
theorem dX11_wholeCall_0 : decode cX11_wholeCall 0 = .ok (.aload_n 0, 1) := by decide +kernel
theorem dX11_wholeCall_1 : decode cX11_wholeCall 1 = .ok (.getfield 93, 3) := by decide +kernel
theorem dX11_wholeCall_4 : decode cX11_wholeCall 4 = .ok (.iload_n 1, 1) := by decide +kernel
theorem dX11_wholeCall_5 : decode cX11_wholeCall 5 = .ok (.iaload, 1) := by decide +kernel
theorem dX11_wholeCall_6 : decode cX11_wholeCall 6 = .ok (.istore_n 2, 1) := by decide +kernel
theorem dX11_wholeCall_7 : decode cX11_wholeCall 7 = .ok (.sipush 14337, 3) := by decide +kernel
theorem dX11_wholeCall_10 : decode cX11_wholeCall 10 = .ok (.istore_n 3, 1) := by decide +kernel
theorem dX11_wholeCall_11 : decode cX11_wholeCall 11 = .ok (.aload_n 0, 1) := by decide +kernel
theorem dX11_wholeCall_12 : decode cX11_wholeCall 12 = .ok (.getfield 93, 3) := by decide +kernel
theorem dX11_wholeCall_15 : decode cX11_wholeCall 15 = .ok (.iload_n 1, 1) := by decide +kernel
theorem dX11_wholeCall_16 : decode cX11_wholeCall 16 = .ok (.iaload, 1) := by decide +kernel
theorem dX11_wholeCall_17 : decode cX11_wholeCall 17 = .ok (.iload_n 2, 1) := by decide +kernel
theorem dX11_wholeCall_18 : decode cX11_wholeCall 18 = .ok (.if_icmp .ne 19, 3) := by decide +kernel
theorem dX11_wholeCall_21 : decode cX11_wholeCall 21 = .ok (.iload_n 3, 1) := by decide +kernel
theorem dX11_wholeCall_22 : decode cX11_wholeCall 22 = .ok (.ifCond .le 15, 3) := by decide +kernel
theorem dX11_wholeCall_25 : decode cX11_wholeCall 25 = .ok (.aload_n 0, 1) := by decide +kernel
theorem dX11_wholeCall_26 : decode cX11_wholeCall 26 = .ok (.iload_n 1, 1) := by decide +kernel
theorem dX11_wholeCall_27 : decode cX11_wholeCall 27 = .ok (.iconst 0, 1) := by decide +kernel
theorem dX11_wholeCall_28 : decode cX11_wholeCall 28 = .ok (.invokevirtual 277, 3) := by decide +kernel
theorem dX11_wholeCall_31 : decode cX11_wholeCall 31 = .ok (.iinc 3 (-1), 3) := by decide +kernel
theorem dX11_wholeCall_34 : decode cX11_wholeCall 34 = .ok (.goto (-23), 3) := by decide +kernel
theorem dX11_wholeCall_37 : decode cX11_wholeCall 37 = .ok (.aload_n 0, 1) := by decide +kernel
theorem dX11_wholeCall_38 : decode cX11_wholeCall 38 = .ok (.getfield 93, 3) := by decide +kernel
theorem dX11_wholeCall_41 : decode cX11_wholeCall 41 = .ok (.iload_n 1, 1) := by decide +kernel
theorem dX11_wholeCall_42 : decode cX11_wholeCall 42 = .ok (.iaload, 1) := by decide +kernel
theorem dX11_wholeCall_43 : decode cX11_wholeCall 43 = .ok (.iload_n 2, 1) := by decide +kernel
theorem dX11_wholeCall_44 : decode cX11_wholeCall 44 = .ok (.if_icmp .le 7, 3) := by decide +kernel
theorem dX11_wholeCall_47 : decode cX11_wholeCall 47 = .ok (.iconst 1, 1) := by decide +kernel
theorem dX11_wholeCall_48 : decode cX11_wholeCall 48 = .ok (.goto 4, 3) := by decide +kernel
theorem dX11_wholeCall_51 : decode cX11_wholeCall 51 = .ok (.iconst 0, 1) := by decide +kernel
theorem dX11_wholeCall_52 : decode cX11_wholeCall 52 = .ok (.ireturn, 1) := by decide +kernel
theorem dX11_ordersFrom_0 : decode cX11_ordersFrom 0 = .ok (.iconst 1, 1) := by decide +kernel
theorem dX11_ordersFrom_1 : decode cX11_ordersFrom 1 = .ok (.istore_n 2, 1) := by decide +kernel
theorem dX11_ordersFrom_2 : decode cX11_ordersFrom 2 = .ok (.aload_n 0, 1) := by decide +kernel
theorem dX11_ordersFrom_3 : decode cX11_ordersFrom 3 = .ok (.getfield 140, 3) := by decide +kernel
theorem dX11_ordersFrom_6 : decode cX11_ordersFrom 6 = .ok (.iload_n 1, 1) := by decide +kernel
theorem dX11_ordersFrom_7 : decode cX11_ordersFrom 7 = .ok (.aload_n 0, 1) := by decide +kernel
theorem dX11_ordersFrom_8 : decode cX11_ordersFrom 8 = .ok (.invokevirtual 291, 3) := by decide +kernel
theorem dX11_ordersFrom_11 : decode cX11_ordersFrom 11 = .ok (.lastore, 1) := by decide +kernel
theorem dX11_ordersFrom_12 : decode cX11_ordersFrom 12 = .ok (.iconst 0, 1) := by decide +kernel
theorem dX11_ordersFrom_13 : decode cX11_ordersFrom 13 = .ok (.istore_n 3, 1) := by decide +kernel
theorem dX11_ordersFrom_14 : decode cX11_ordersFrom 14 = .ok (.iload_n 3, 1) := by decide +kernel
theorem dX11_ordersFrom_15 : decode cX11_ordersFrom 15 = .ok (.aload_n 0, 1) := by decide +kernel
theorem dX11_ordersFrom_16 : decode cX11_ordersFrom 16 = .ok (.getfield 234, 3) := by decide +kernel
theorem dX11_ordersFrom_19 : decode cX11_ordersFrom 19 = .ok (.if_icmp .ge 54, 3) := by decide +kernel
theorem dX11_ordersFrom_22 : decode cX11_ordersFrom 22 = .ok (.aload_n 0, 1) := by decide +kernel
theorem dX11_ordersFrom_23 : decode cX11_ordersFrom 23 = .ok (.aload_n 0, 1) := by decide +kernel
theorem dX11_ordersFrom_24 : decode cX11_ordersFrom 24 = .ok (.getfield 140, 3) := by decide +kernel
theorem dX11_ordersFrom_27 : decode cX11_ordersFrom 27 = .ok (.iload_n 1, 1) := by decide +kernel
theorem dX11_ordersFrom_28 : decode cX11_ordersFrom 28 = .ok (.laload, 1) := by decide +kernel
theorem dX11_ordersFrom_29 : decode cX11_ordersFrom 29 = .ok (.invokevirtual 299, 3) := by decide +kernel
theorem dX11_ordersFrom_32 : decode cX11_ordersFrom 32 = .ok (.aload_n 0, 1) := by decide +kernel
theorem dX11_ordersFrom_33 : decode cX11_ordersFrom 33 = .ok (.getfield 93, 3) := by decide +kernel
theorem dX11_ordersFrom_36 : decode cX11_ordersFrom 36 = .ok (.iload_n 3, 1) := by decide +kernel
theorem dX11_ordersFrom_37 : decode cX11_ordersFrom 37 = .ok (.iaload, 1) := by decide +kernel
theorem dX11_ordersFrom_38 : decode cX11_ordersFrom 38 = .ok (.aload_n 0, 1) := by decide +kernel
theorem dX11_ordersFrom_39 : decode cX11_ordersFrom 39 = .ok (.getfield 31, 3) := by decide +kernel
theorem dX11_ordersFrom_42 : decode cX11_ordersFrom 42 = .ok (.iload_n 3, 1) := by decide +kernel
theorem dX11_ordersFrom_43 : decode cX11_ordersFrom 43 = .ok (.iaload, 1) := by decide +kernel
theorem dX11_ordersFrom_44 : decode cX11_ordersFrom 44 = .ok (.if_icmp .ne 6, 3) := by decide +kernel
theorem dX11_ordersFrom_47 : decode cX11_ordersFrom 47 = .ok (.goto 20, 3) := by decide +kernel
theorem dX11_ordersFrom_50 : decode cX11_ordersFrom 50 = .ok (.iconst 0, 1) := by decide +kernel
theorem dX11_ordersFrom_51 : decode cX11_ordersFrom 51 = .ok (.istore_n 2, 1) := by decide +kernel
theorem dX11_ordersFrom_52 : decode cX11_ordersFrom 52 = .ok (.aload_n 0, 1) := by decide +kernel
theorem dX11_ordersFrom_53 : decode cX11_ordersFrom 53 = .ok (.iload_n 3, 1) := by decide +kernel
theorem dX11_ordersFrom_54 : decode cX11_ordersFrom 54 = .ok (.invokevirtual 327, 3) := by decide +kernel
theorem dX11_ordersFrom_57 : decode cX11_ordersFrom 57 = .ok (.ifCond .eq 10, 3) := by decide +kernel
theorem dX11_ordersFrom_60 : decode cX11_ordersFrom 60 = .ok (.aload_n 0, 1) := by decide +kernel
theorem dX11_ordersFrom_61 : decode cX11_ordersFrom 61 = .ok (.iload_n 1, 1) := by decide +kernel
theorem dX11_ordersFrom_62 : decode cX11_ordersFrom 62 = .ok (.iconst 1, 1) := by decide +kernel
theorem dX11_ordersFrom_63 : decode cX11_ordersFrom 63 = .ok (.iadd, 1) := by decide +kernel
theorem dX11_ordersFrom_64 : decode cX11_ordersFrom 64 = .ok (.invokevirtual 330, 3) := by decide +kernel
theorem dX11_ordersFrom_67 : decode cX11_ordersFrom 67 = .ok (.iinc 3 1, 3) := by decide +kernel
theorem dX11_ordersFrom_70 : decode cX11_ordersFrom 70 = .ok (.goto (-56), 3) := by decide +kernel
theorem dX11_ordersFrom_73 : decode cX11_ordersFrom 73 = .ok (.iload_n 2, 1) := by decide +kernel
theorem dX11_ordersFrom_74 : decode cX11_ordersFrom 74 = .ok (.ifCond .eq 32, 3) := by decide +kernel
theorem dX11_ordersFrom_77 : decode cX11_ordersFrom 77 = .ok (.aload_n 0, 1) := by decide +kernel
theorem dX11_ordersFrom_78 : decode cX11_ordersFrom 78 = .ok (.aload_n 0, 1) := by decide +kernel
theorem dX11_ordersFrom_79 : decode cX11_ordersFrom 79 = .ok (.getfield 140, 3) := by decide +kernel
theorem dX11_ordersFrom_82 : decode cX11_ordersFrom 82 = .ok (.iload_n 1, 1) := by decide +kernel
theorem dX11_ordersFrom_83 : decode cX11_ordersFrom 83 = .ok (.laload, 1) := by decide +kernel
theorem dX11_ordersFrom_84 : decode cX11_ordersFrom 84 = .ok (.invokevirtual 299, 3) := by decide +kernel
theorem dX11_ordersFrom_87 : decode cX11_ordersFrom 87 = .ok (.aload_n 0, 1) := by decide +kernel
theorem dX11_ordersFrom_88 : decode cX11_ordersFrom 88 = .ok (.aload_n 0, 1) := by decide +kernel
theorem dX11_ordersFrom_89 : decode cX11_ordersFrom 89 = .ok (.getfield 137, 3) := by decide +kernel
theorem dX11_ordersFrom_92 : decode cX11_ordersFrom 92 = .ok (.aload_n 0, 1) := by decide +kernel
theorem dX11_ordersFrom_93 : decode cX11_ordersFrom 93 = .ok (.getfield 333, 3) := by decide +kernel
theorem dX11_ordersFrom_96 : decode cX11_ordersFrom 96 = .ok (.aload_n 0, 1) := by decide +kernel
theorem dX11_ordersFrom_97 : decode cX11_ordersFrom 97 = .ok (.invokevirtual 307, 3) := by decide +kernel
theorem dX11_ordersFrom_100 : decode cX11_ordersFrom 100 = .ok (.invokestatic 323, 3) := by decide +kernel
theorem dX11_ordersFrom_103 : decode cX11_ordersFrom 103 = .ok (.putfield 333, 3) := by decide +kernel
theorem dX11_ordersFrom_106 : decode cX11_ordersFrom 106 = .ok (.return_, 1) := by decide +kernel
theorem dX11_findGoods_0 : decode cX11_findGoods 0 = .ok (.aload_n 0, 1) := by decide +kernel
theorem dX11_findGoods_1 : decode cX11_findGoods 1 = .ok (.iconst 0, 1) := by decide +kernel
theorem dX11_findGoods_2 : decode cX11_findGoods 2 = .ok (.putfield 333, 3) := by decide +kernel
theorem dX11_findGoods_5 : decode cX11_findGoods 5 = .ok (.aload_n 0, 1) := by decide +kernel
theorem dX11_findGoods_6 : decode cX11_findGoods 6 = .ok (.invokevirtual 288, 3) := by decide +kernel
theorem dX11_findGoods_9 : decode cX11_findGoods 9 = .ok (.aload_n 0, 1) := by decide +kernel
theorem dX11_findGoods_10 : decode cX11_findGoods 10 = .ok (.iconst 0, 1) := by decide +kernel
theorem dX11_findGoods_11 : decode cX11_findGoods 11 = .ok (.invokevirtual 330, 3) := by decide +kernel
theorem dX11_findGoods_14 : decode cX11_findGoods 14 = .ok (.return_, 1) := by decide +kernel
theorem dX11_isGood_0 : decode cX11_isGood 0 = .ok (.iconst 0, 1) := by decide +kernel
theorem dX11_isGood_1 : decode cX11_isGood 1 = .ok (.istore_n 2, 1) := by decide +kernel
theorem dX11_isGood_2 : decode cX11_isGood 2 = .ok (.iconst 0, 1) := by decide +kernel
theorem dX11_isGood_3 : decode cX11_isGood 3 = .ok (.istore_n 3, 1) := by decide +kernel
theorem dX11_isGood_4 : decode cX11_isGood 4 = .ok (.iload_n 3, 1) := by decide +kernel
theorem dX11_isGood_5 : decode cX11_isGood 5 = .ok (.aload_n 0, 1) := by decide +kernel
theorem dX11_isGood_6 : decode cX11_isGood 6 = .ok (.getfield 333, 3) := by decide +kernel
theorem dX11_isGood_9 : decode cX11_isGood 9 = .ok (.if_icmp .ge 29, 3) := by decide +kernel
theorem dX11_isGood_12 : decode cX11_isGood 12 = .ok (.iload_n 2, 1) := by decide +kernel
theorem dX11_isGood_13 : decode cX11_isGood 13 = .ok (.ifCond .ne 13, 3) := by decide +kernel
theorem dX11_isGood_16 : decode cX11_isGood 16 = .ok (.aload_n 0, 1) := by decide +kernel
theorem dX11_isGood_17 : decode cX11_isGood 17 = .ok (.getfield 137, 3) := by decide +kernel
theorem dX11_isGood_20 : decode cX11_isGood 20 = .ok (.iload_n 3, 1) := by decide +kernel
theorem dX11_isGood_21 : decode cX11_isGood 21 = .ok (.iaload, 1) := by decide +kernel
theorem dX11_isGood_22 : decode cX11_isGood 22 = .ok (.iload_n 1, 1) := by decide +kernel
theorem dX11_isGood_23 : decode cX11_isGood 23 = .ok (.if_icmp .ne 7, 3) := by decide +kernel
theorem dX11_isGood_26 : decode cX11_isGood 26 = .ok (.iconst 1, 1) := by decide +kernel
theorem dX11_isGood_27 : decode cX11_isGood 27 = .ok (.goto 4, 3) := by decide +kernel
theorem dX11_isGood_30 : decode cX11_isGood 30 = .ok (.iconst 0, 1) := by decide +kernel
theorem dX11_isGood_31 : decode cX11_isGood 31 = .ok (.istore_n 2, 1) := by decide +kernel
theorem dX11_isGood_32 : decode cX11_isGood 32 = .ok (.iinc 3 1, 3) := by decide +kernel
theorem dX11_isGood_35 : decode cX11_isGood 35 = .ok (.goto (-31), 3) := by decide +kernel
theorem dX11_isGood_38 : decode cX11_isGood 38 = .ok (.iload_n 2, 1) := by decide +kernel
theorem dX11_isGood_39 : decode cX11_isGood 39 = .ok (.ireturn, 1) := by decide +kernel
theorem dX11_lookAll_0 : decode cX11_lookAll 0 = .ok (.aload_n 0, 1) := by decide +kernel
theorem dX11_lookAll_1 : decode cX11_lookAll 1 = .ok (.getfield 218, 3) := by decide +kernel
theorem dX11_lookAll_4 : decode cX11_lookAll 4 = .ok (.ifCond .eq 4, 3) := by decide +kernel
theorem dX11_lookAll_7 : decode cX11_lookAll 7 = .ok (.return_, 1) := by decide +kernel
theorem dX11_lookAll_8 : decode cX11_lookAll 8 = .ok (.aload_n 0, 1) := by decide +kernel
theorem dX11_lookAll_9 : decode cX11_lookAll 9 = .ok (.aload_n 0, 1) := by decide +kernel
theorem dX11_lookAll_10 : decode cX11_lookAll 10 = .ok (.iconst 0, 1) := by decide +kernel
theorem dX11_lookAll_11 : decode cX11_lookAll 11 = .ok (.invokevirtual 336, 3) := by decide +kernel
theorem dX11_lookAll_14 : decode cX11_lookAll 14 = .ok (.ifCond .ne 7, 3) := by decide +kernel
theorem dX11_lookAll_17 : decode cX11_lookAll 17 = .ok (.iconst 1, 1) := by decide +kernel
theorem dX11_lookAll_18 : decode cX11_lookAll 18 = .ok (.goto 4, 3) := by decide +kernel
theorem dX11_lookAll_21 : decode cX11_lookAll 21 = .ok (.iconst 0, 1) := by decide +kernel
theorem dX11_lookAll_22 : decode cX11_lookAll 22 = .ok (.putfield 339, 3) := by decide +kernel
theorem dX11_lookAll_25 : decode cX11_lookAll 25 = .ok (.aload_n 0, 1) := by decide +kernel
theorem dX11_lookAll_26 : decode cX11_lookAll 26 = .ok (.getfield 339, 3) := by decide +kernel
theorem dX11_lookAll_29 : decode cX11_lookAll 29 = .ok (.ifCond .ne 7, 3) := by decide +kernel
theorem dX11_lookAll_32 : decode cX11_lookAll 32 = .ok (.aload_n 0, 1) := by decide +kernel
theorem dX11_lookAll_33 : decode cX11_lookAll 33 = .ok (.invokevirtual 342, 3) := by decide +kernel
theorem dX11_lookAll_36 : decode cX11_lookAll 36 = .ok (.aload_n 0, 1) := by decide +kernel
theorem dX11_lookAll_37 : decode cX11_lookAll 37 = .ok (.invokevirtual 345, 3) := by decide +kernel
theorem dX11_lookAll_40 : decode cX11_lookAll 40 = .ok (.aload_n 0, 1) := by decide +kernel
theorem dX11_lookAll_41 : decode cX11_lookAll 41 = .ok (.iconst 1, 1) := by decide +kernel
theorem dX11_lookAll_42 : decode cX11_lookAll 42 = .ok (.putfield 218, 3) := by decide +kernel
theorem dX11_lookAll_45 : decode cX11_lookAll 45 = .ok (.return_, 1) := by decide +kernel
theorem dX11_badMany_0 : decode cX11_badMany 0 = .ok (.iconst 0, 1) := by decide +kernel
theorem dX11_badMany_1 : decode cX11_badMany 1 = .ok (.istore_n 1, 1) := by decide +kernel
theorem dX11_badMany_2 : decode cX11_badMany 2 = .ok (.iconst 0, 1) := by decide +kernel
theorem dX11_badMany_3 : decode cX11_badMany 3 = .ok (.istore_n 2, 1) := by decide +kernel
theorem dX11_badMany_4 : decode cX11_badMany 4 = .ok (.iload_n 2, 1) := by decide +kernel
theorem dX11_badMany_5 : decode cX11_badMany 5 = .ok (.aload_n 0, 1) := by decide +kernel
theorem dX11_badMany_6 : decode cX11_badMany 6 = .ok (.getfield 320, 3) := by decide +kernel
theorem dX11_badMany_9 : decode cX11_badMany 9 = .ok (.if_icmp .ge 30, 3) := by decide +kernel
theorem dX11_badMany_12 : decode cX11_badMany 12 = .ok (.iload_n 1, 1) := by decide +kernel
theorem dX11_badMany_13 : decode cX11_badMany 13 = .ok (.aload_n 0, 1) := by decide +kernel
theorem dX11_badMany_14 : decode cX11_badMany 14 = .ok (.aload_n 0, 1) := by decide +kernel
theorem dX11_badMany_15 : decode cX11_badMany 15 = .ok (.getfield 134, 3) := by decide +kernel
theorem dX11_badMany_18 : decode cX11_badMany 18 = .ok (.iload_n 2, 1) := by decide +kernel
theorem dX11_badMany_19 : decode cX11_badMany 19 = .ok (.iaload, 1) := by decide +kernel
theorem dX11_badMany_20 : decode cX11_badMany 20 = .ok (.invokevirtual 348, 3) := by decide +kernel
theorem dX11_badMany_23 : decode cX11_badMany 23 = .ok (.ifCond .eq 7, 3) := by decide +kernel
theorem dX11_badMany_26 : decode cX11_badMany 26 = .ok (.iconst 0, 1) := by decide +kernel
theorem dX11_badMany_27 : decode cX11_badMany 27 = .ok (.goto 4, 3) := by decide +kernel
theorem dX11_badMany_30 : decode cX11_badMany 30 = .ok (.iconst 1, 1) := by decide +kernel
theorem dX11_badMany_31 : decode cX11_badMany 31 = .ok (.iadd, 1) := by decide +kernel
theorem dX11_badMany_32 : decode cX11_badMany 32 = .ok (.istore_n 1, 1) := by decide +kernel
theorem dX11_badMany_33 : decode cX11_badMany 33 = .ok (.iinc 2 1, 3) := by decide +kernel
theorem dX11_badMany_36 : decode cX11_badMany 36 = .ok (.goto (-32), 3) := by decide +kernel
theorem dX11_badMany_39 : decode cX11_badMany 39 = .ok (.iload_n 1, 1) := by decide +kernel
theorem dX11_badMany_40 : decode cX11_badMany 40 = .ok (.ireturn, 1) := by decide +kernel
theorem dX11_leastBad_0 : decode cX11_leastBad 0 = .ok (.iconst 0, 1) := by decide +kernel
theorem dX11_leastBad_1 : decode cX11_leastBad 1 = .ok (.istore_n 1, 1) := by decide +kernel
theorem dX11_leastBad_2 : decode cX11_leastBad 2 = .ok (.iload_n 1, 1) := by decide +kernel
theorem dX11_leastBad_3 : decode cX11_leastBad 3 = .ok (.aload_n 0, 1) := by decide +kernel
theorem dX11_leastBad_4 : decode cX11_leastBad 4 = .ok (.getfield 320, 3) := by decide +kernel
theorem dX11_leastBad_7 : decode cX11_leastBad 7 = .ok (.if_icmp .ge 29, 3) := by decide +kernel
theorem dX11_leastBad_10 : decode cX11_leastBad 10 = .ok (.aload_n 0, 1) := by decide +kernel
theorem dX11_leastBad_11 : decode cX11_leastBad 11 = .ok (.aload_n 0, 1) := by decide +kernel
theorem dX11_leastBad_12 : decode cX11_leastBad 12 = .ok (.getfield 134, 3) := by decide +kernel
theorem dX11_leastBad_15 : decode cX11_leastBad 15 = .ok (.iload_n 1, 1) := by decide +kernel
theorem dX11_leastBad_16 : decode cX11_leastBad 16 = .ok (.iaload, 1) := by decide +kernel
theorem dX11_leastBad_17 : decode cX11_leastBad 17 = .ok (.invokevirtual 348, 3) := by decide +kernel
theorem dX11_leastBad_20 : decode cX11_leastBad 20 = .ok (.ifCond .ne 10, 3) := by decide +kernel
theorem dX11_leastBad_23 : decode cX11_leastBad 23 = .ok (.aload_n 0, 1) := by decide +kernel
theorem dX11_leastBad_24 : decode cX11_leastBad 24 = .ok (.getfield 134, 3) := by decide +kernel
theorem dX11_leastBad_27 : decode cX11_leastBad 27 = .ok (.iload_n 1, 1) := by decide +kernel
theorem dX11_leastBad_28 : decode cX11_leastBad 28 = .ok (.iaload, 1) := by decide +kernel
theorem dX11_leastBad_29 : decode cX11_leastBad 29 = .ok (.ireturn, 1) := by decide +kernel
theorem dX11_leastBad_30 : decode cX11_leastBad 30 = .ok (.iinc 1 1, 3) := by decide +kernel
theorem dX11_leastBad_33 : decode cX11_leastBad 33 = .ok (.goto (-31), 3) := by decide +kernel
theorem dX11_leastBad_36 : decode cX11_leastBad 36 = .ok (.iconst (-1), 1) := by decide +kernel
theorem dX11_leastBad_37 : decode cX11_leastBad 37 = .ok (.ireturn, 1) := by decide +kernel
theorem dX11_states_0 : decode cX11_states 0 = .ok (.aload_n 0, 1) := by decide +kernel
theorem dX11_states_1 : decode cX11_states 1 = .ok (.invokevirtual 351, 3) := by decide +kernel
theorem dX11_states_4 : decode cX11_states 4 = .ok (.aload_n 0, 1) := by decide +kernel
theorem dX11_states_5 : decode cX11_states 5 = .ok (.getfield 339, 3) := by decide +kernel
theorem dX11_states_8 : decode cX11_states 8 = .ok (.ifCond .eq 13, 3) := by decide +kernel
theorem dX11_states_11 : decode cX11_states 11 = .ok (.aload_n 0, 1) := by decide +kernel
theorem dX11_states_12 : decode cX11_states 12 = .ok (.ldc_w 354, 3) := by decide +kernel
theorem dX11_states_15 : decode cX11_states 15 = .ok (.invokevirtual 171, 3) := by decide +kernel
theorem dX11_states_18 : decode cX11_states 18 = .ok (.goto 7, 3) := by decide +kernel
theorem dX11_states_21 : decode cX11_states 21 = .ok (.aload_n 0, 1) := by decide +kernel
theorem dX11_states_22 : decode cX11_states 22 = .ok (.getfield 282, 3) := by decide +kernel
theorem dX11_states_25 : decode cX11_states 25 = .ok (.ireturn, 1) := by decide +kernel
theorem dX11_ends_0 : decode cX11_ends 0 = .ok (.aload_n 0, 1) := by decide +kernel
theorem dX11_ends_1 : decode cX11_ends 1 = .ok (.invokevirtual 351, 3) := by decide +kernel
theorem dX11_ends_4 : decode cX11_ends 4 = .ok (.aload_n 0, 1) := by decide +kernel
theorem dX11_ends_5 : decode cX11_ends 5 = .ok (.getfield 339, 3) := by decide +kernel
theorem dX11_ends_8 : decode cX11_ends 8 = .ok (.ifCond .eq 13, 3) := by decide +kernel
theorem dX11_ends_11 : decode cX11_ends 11 = .ok (.aload_n 0, 1) := by decide +kernel
theorem dX11_ends_12 : decode cX11_ends 12 = .ok (.ldc_w 354, 3) := by decide +kernel
theorem dX11_ends_15 : decode cX11_ends 15 = .ok (.invokevirtual 171, 3) := by decide +kernel
theorem dX11_ends_18 : decode cX11_ends 18 = .ok (.goto 7, 3) := by decide +kernel
theorem dX11_ends_21 : decode cX11_ends 21 = .ok (.aload_n 0, 1) := by decide +kernel
theorem dX11_ends_22 : decode cX11_ends 22 = .ok (.getfield 320, 3) := by decide +kernel
theorem dX11_ends_25 : decode cX11_ends 25 = .ok (.ireturn, 1) := by decide +kernel
theorem dX11_result_0 : decode cX11_result 0 = .ok (.iload_n 1, 1) := by decide +kernel
theorem dX11_result_1 : decode cX11_result 1 = .ok (.ifCond .ge 10, 3) := by decide +kernel
theorem dX11_result_4 : decode cX11_result 4 = .ok (.aload_n 0, 1) := by decide +kernel
theorem dX11_result_5 : decode cX11_result 5 = .ok (.ldc 159, 2) := by decide +kernel
theorem dX11_result_7 : decode cX11_result 7 = .ok (.invokevirtual 171, 3) := by decide +kernel
theorem dX11_result_10 : decode cX11_result 10 = .ok (.ireturn, 1) := by decide +kernel
theorem dX11_result_11 : decode cX11_result 11 = .ok (.aload_n 0, 1) := by decide +kernel
theorem dX11_result_12 : decode cX11_result 12 = .ok (.invokevirtual 351, 3) := by decide +kernel
theorem dX11_result_15 : decode cX11_result 15 = .ok (.aload_n 0, 1) := by decide +kernel
theorem dX11_result_16 : decode cX11_result 16 = .ok (.getfield 339, 3) := by decide +kernel
theorem dX11_result_19 : decode cX11_result 19 = .ok (.ifCond .eq 13, 3) := by decide +kernel
theorem dX11_result_22 : decode cX11_result 22 = .ok (.aload_n 0, 1) := by decide +kernel
theorem dX11_result_23 : decode cX11_result 23 = .ok (.ldc_w 354, 3) := by decide +kernel
theorem dX11_result_26 : decode cX11_result 26 = .ok (.invokevirtual 171, 3) := by decide +kernel
theorem dX11_result_29 : decode cX11_result 29 = .ok (.goto 27, 3) := by decide +kernel
theorem dX11_result_32 : decode cX11_result 32 = .ok (.iload_n 1, 1) := by decide +kernel
theorem dX11_result_33 : decode cX11_result 33 = .ok (.aload_n 0, 1) := by decide +kernel
theorem dX11_result_34 : decode cX11_result 34 = .ok (.getfield 320, 3) := by decide +kernel
theorem dX11_result_37 : decode cX11_result 37 = .ok (.if_icmp .ge 12, 3) := by decide +kernel
theorem dX11_result_40 : decode cX11_result 40 = .ok (.aload_n 0, 1) := by decide +kernel
theorem dX11_result_41 : decode cX11_result 41 = .ok (.getfield 134, 3) := by decide +kernel
theorem dX11_result_44 : decode cX11_result 44 = .ok (.iload_n 1, 1) := by decide +kernel
theorem dX11_result_45 : decode cX11_result 45 = .ok (.iaload, 1) := by decide +kernel
theorem dX11_result_46 : decode cX11_result 46 = .ok (.goto 10, 3) := by decide +kernel
theorem dX11_result_49 : decode cX11_result 49 = .ok (.aload_n 0, 1) := by decide +kernel
theorem dX11_result_50 : decode cX11_result 50 = .ok (.ldc_w 355, 3) := by decide +kernel
theorem dX11_result_53 : decode cX11_result 53 = .ok (.invokevirtual 171, 3) := by decide +kernel
theorem dX11_result_56 : decode cX11_result 56 = .ok (.ireturn, 1) := by decide +kernel
theorem dX11_orders_0 : decode cX11_orders 0 = .ok (.aload_n 0, 1) := by decide +kernel
theorem dX11_orders_1 : decode cX11_orders 1 = .ok (.invokevirtual 351, 3) := by decide +kernel
theorem dX11_orders_4 : decode cX11_orders 4 = .ok (.aload_n 0, 1) := by decide +kernel
theorem dX11_orders_5 : decode cX11_orders 5 = .ok (.getfield 333, 3) := by decide +kernel
theorem dX11_orders_8 : decode cX11_orders 8 = .ok (.ireturn, 1) := by decide +kernel
theorem dX11_inOrder_0 : decode cX11_inOrder 0 = .ok (.iload_n 1, 1) := by decide +kernel
theorem dX11_inOrder_1 : decode cX11_inOrder 1 = .ok (.ifCond .ge 10, 3) := by decide +kernel
theorem dX11_inOrder_4 : decode cX11_inOrder 4 = .ok (.aload_n 0, 1) := by decide +kernel
theorem dX11_inOrder_5 : decode cX11_inOrder 5 = .ok (.ldc 159, 2) := by decide +kernel
theorem dX11_inOrder_7 : decode cX11_inOrder 7 = .ok (.invokevirtual 171, 3) := by decide +kernel
theorem dX11_inOrder_10 : decode cX11_inOrder 10 = .ok (.ireturn, 1) := by decide +kernel
theorem dX11_inOrder_11 : decode cX11_inOrder 11 = .ok (.aload_n 0, 1) := by decide +kernel
theorem dX11_inOrder_12 : decode cX11_inOrder 12 = .ok (.invokevirtual 351, 3) := by decide +kernel
theorem dX11_inOrder_15 : decode cX11_inOrder 15 = .ok (.iload_n 1, 1) := by decide +kernel
theorem dX11_inOrder_16 : decode cX11_inOrder 16 = .ok (.aload_n 0, 1) := by decide +kernel
theorem dX11_inOrder_17 : decode cX11_inOrder 17 = .ok (.getfield 333, 3) := by decide +kernel
theorem dX11_inOrder_20 : decode cX11_inOrder 20 = .ok (.if_icmp .ge 12, 3) := by decide +kernel
theorem dX11_inOrder_23 : decode cX11_inOrder 23 = .ok (.aload_n 0, 1) := by decide +kernel
theorem dX11_inOrder_24 : decode cX11_inOrder 24 = .ok (.getfield 137, 3) := by decide +kernel
theorem dX11_inOrder_27 : decode cX11_inOrder 27 = .ok (.iload_n 1, 1) := by decide +kernel
theorem dX11_inOrder_28 : decode cX11_inOrder 28 = .ok (.iaload, 1) := by decide +kernel
theorem dX11_inOrder_29 : decode cX11_inOrder 29 = .ok (.goto 10, 3) := by decide +kernel
theorem dX11_inOrder_32 : decode cX11_inOrder 32 = .ok (.aload_n 0, 1) := by decide +kernel
theorem dX11_inOrder_33 : decode cX11_inOrder 33 = .ok (.ldc_w 355, 3) := by decide +kernel
theorem dX11_inOrder_36 : decode cX11_inOrder 36 = .ok (.invokevirtual 171, 3) := by decide +kernel
theorem dX11_inOrder_39 : decode cX11_inOrder 39 = .ok (.ireturn, 1) := by decide +kernel
theorem dX11_bad_0 : decode cX11_bad 0 = .ok (.aload_n 0, 1) := by decide +kernel
theorem dX11_bad_1 : decode cX11_bad 1 = .ok (.invokevirtual 351, 3) := by decide +kernel
theorem dX11_bad_4 : decode cX11_bad 4 = .ok (.aload_n 0, 1) := by decide +kernel
theorem dX11_bad_5 : decode cX11_bad 5 = .ok (.getfield 339, 3) := by decide +kernel
theorem dX11_bad_8 : decode cX11_bad 8 = .ok (.ifCond .eq 13, 3) := by decide +kernel
theorem dX11_bad_11 : decode cX11_bad 11 = .ok (.aload_n 0, 1) := by decide +kernel
theorem dX11_bad_12 : decode cX11_bad 12 = .ok (.ldc_w 354, 3) := by decide +kernel
theorem dX11_bad_15 : decode cX11_bad 15 = .ok (.invokevirtual 171, 3) := by decide +kernel
theorem dX11_bad_18 : decode cX11_bad 18 = .ok (.goto 7, 3) := by decide +kernel
theorem dX11_bad_21 : decode cX11_bad 21 = .ok (.aload_n 0, 1) := by decide +kernel
theorem dX11_bad_22 : decode cX11_bad 22 = .ok (.invokevirtual 356, 3) := by decide +kernel
theorem dX11_bad_25 : decode cX11_bad 25 = .ok (.ireturn, 1) := by decide +kernel
theorem dX11_worst_0 : decode cX11_worst 0 = .ok (.aload_n 0, 1) := by decide +kernel
theorem dX11_worst_1 : decode cX11_worst 1 = .ok (.invokevirtual 351, 3) := by decide +kernel
theorem dX11_worst_4 : decode cX11_worst 4 = .ok (.aload_n 0, 1) := by decide +kernel
theorem dX11_worst_5 : decode cX11_worst 5 = .ok (.getfield 339, 3) := by decide +kernel
theorem dX11_worst_8 : decode cX11_worst 8 = .ok (.ifCond .eq 11, 3) := by decide +kernel
theorem dX11_worst_11 : decode cX11_worst 11 = .ok (.aload_n 0, 1) := by decide +kernel
theorem dX11_worst_12 : decode cX11_worst 12 = .ok (.ldc_w 354, 3) := by decide +kernel
theorem dX11_worst_15 : decode cX11_worst 15 = .ok (.invokevirtual 171, 3) := by decide +kernel
theorem dX11_worst_18 : decode cX11_worst 18 = .ok (.ireturn, 1) := by decide +kernel
theorem dX11_worst_19 : decode cX11_worst 19 = .ok (.aload_n 0, 1) := by decide +kernel
theorem dX11_worst_20 : decode cX11_worst 20 = .ok (.invokevirtual 359, 3) := by decide +kernel
theorem dX11_worst_23 : decode cX11_worst 23 = .ok (.istore_n 1, 1) := by decide +kernel
theorem dX11_worst_24 : decode cX11_worst 24 = .ok (.iload_n 1, 1) := by decide +kernel
theorem dX11_worst_25 : decode cX11_worst 25 = .ok (.ifCond .ge 13, 3) := by decide +kernel
theorem dX11_worst_28 : decode cX11_worst 28 = .ok (.aload_n 0, 1) := by decide +kernel
theorem dX11_worst_29 : decode cX11_worst 29 = .ok (.ldc_w 355, 3) := by decide +kernel
theorem dX11_worst_32 : decode cX11_worst 32 = .ok (.invokevirtual 171, 3) := by decide +kernel
theorem dX11_worst_35 : decode cX11_worst 35 = .ok (.goto 4, 3) := by decide +kernel
theorem dX11_worst_38 : decode cX11_worst 38 = .ok (.iload_n 1, 1) := by decide +kernel
theorem dX11_worst_39 : decode cX11_worst 39 = .ok (.ireturn, 1) := by decide +kernel
theorem dX11_findWay_0 : decode cX11_findWay 0 = .ok (.aload_n 0, 1) := by decide +kernel
theorem dX11_findWay_1 : decode cX11_findWay 1 = .ok (.getfield 282, 3) := by decide +kernel
theorem dX11_findWay_4 : decode cX11_findWay 4 = .ok (.iconst 1, 1) := by decide +kernel
theorem dX11_findWay_5 : decode cX11_findWay 5 = .ok (.isub, 1) := by decide +kernel
theorem dX11_findWay_6 : decode cX11_findWay 6 = .ok (.istore_n 2, 1) := by decide +kernel
theorem dX11_findWay_7 : decode cX11_findWay 7 = .ok (.iload_n 2, 1) := by decide +kernel
theorem dX11_findWay_8 : decode cX11_findWay 8 = .ok (.ifCond .lt 111, 3) := by decide +kernel
theorem dX11_findWay_11 : decode cX11_findWay 11 = .ok (.aload_n 0, 1) := by decide +kernel
theorem dX11_findWay_12 : decode cX11_findWay 12 = .ok (.getfield 127, 3) := by decide +kernel
theorem dX11_findWay_15 : decode cX11_findWay 15 = .ok (.iload_n 2, 1) := by decide +kernel
theorem dX11_findWay_16 : decode cX11_findWay 16 = .ok (.aload_n 0, 1) := by decide +kernel
theorem dX11_findWay_17 : decode cX11_findWay 17 = .ok (.getfield 131, 3) := by decide +kernel
theorem dX11_findWay_20 : decode cX11_findWay 20 = .ok (.iload_n 2, 1) := by decide +kernel
theorem dX11_findWay_21 : decode cX11_findWay 21 = .ok (.iaload, 1) := by decide +kernel
theorem dX11_findWay_22 : decode cX11_findWay 22 = .ok (.iload_n 1, 1) := by decide +kernel
theorem dX11_findWay_23 : decode cX11_findWay 23 = .ok (.if_icmp .ne 7, 3) := by decide +kernel
theorem dX11_findWay_26 : decode cX11_findWay 26 = .ok (.iconst 1, 1) := by decide +kernel
theorem dX11_findWay_27 : decode cX11_findWay 27 = .ok (.goto 4, 3) := by decide +kernel
theorem dX11_findWay_30 : decode cX11_findWay 30 = .ok (.iconst 0, 1) := by decide +kernel
theorem dX11_findWay_31 : decode cX11_findWay 31 = .ok (.bastore, 1) := by decide +kernel
theorem dX11_findWay_32 : decode cX11_findWay 32 = .ok (.iconst 0, 1) := by decide +kernel
theorem dX11_findWay_33 : decode cX11_findWay 33 = .ok (.istore_n 3, 1) := by decide +kernel
theorem dX11_findWay_34 : decode cX11_findWay 34 = .ok (.iload_n 3, 1) := by decide +kernel
theorem dX11_findWay_35 : decode cX11_findWay 35 = .ok (.bipush 6, 2) := by decide +kernel
theorem dX11_findWay_37 : decode cX11_findWay 37 = .ok (.if_icmp .ge 76, 3) := by decide +kernel
theorem dX11_findWay_40 : decode cX11_findWay 40 = .ok (.aload_n 0, 1) := by decide +kernel
theorem dX11_findWay_41 : decode cX11_findWay 41 = .ok (.getfield 118, 3) := by decide +kernel
theorem dX11_findWay_44 : decode cX11_findWay 44 = .ok (.bipush 6, 2) := by decide +kernel
theorem dX11_findWay_46 : decode cX11_findWay 46 = .ok (.iload_n 2, 1) := by decide +kernel
theorem dX11_findWay_47 : decode cX11_findWay 47 = .ok (.imul, 1) := by decide +kernel
theorem dX11_findWay_48 : decode cX11_findWay 48 = .ok (.iload_n 3, 1) := by decide +kernel
theorem dX11_findWay_49 : decode cX11_findWay 49 = .ok (.iadd, 1) := by decide +kernel
theorem dX11_findWay_50 : decode cX11_findWay 50 = .ok (.iaload, 1) := by decide +kernel
theorem dX11_findWay_51 : decode cX11_findWay 51 = .ok (.istore 4, 2) := by decide +kernel
theorem dX11_findWay_53 : decode cX11_findWay 53 = .ok (.aload_n 0, 1) := by decide +kernel
theorem dX11_findWay_54 : decode cX11_findWay 54 = .ok (.getfield 127, 3) := by decide +kernel
theorem dX11_findWay_57 : decode cX11_findWay 57 = .ok (.iload_n 2, 1) := by decide +kernel
theorem dX11_findWay_58 : decode cX11_findWay 58 = .ok (.aload_n 0, 1) := by decide +kernel
theorem dX11_findWay_59 : decode cX11_findWay 59 = .ok (.getfield 127, 3) := by decide +kernel
theorem dX11_findWay_62 : decode cX11_findWay 62 = .ok (.iload_n 2, 1) := by decide +kernel
theorem dX11_findWay_63 : decode cX11_findWay 63 = .ok (.baload, 1) := by decide +kernel
theorem dX11_findWay_64 : decode cX11_findWay 64 = .ok (.ifCond .ne 37, 3) := by decide +kernel
theorem dX11_findWay_67 : decode cX11_findWay 67 = .ok (.iload 4, 2) := by decide +kernel
theorem dX11_findWay_69 : decode cX11_findWay 69 = .ok (.iload_n 2, 1) := by decide +kernel
theorem dX11_findWay_70 : decode cX11_findWay 70 = .ok (.if_icmp .le 35, 3) := by decide +kernel
theorem dX11_findWay_73 : decode cX11_findWay 73 = .ok (.aload_n 0, 1) := by decide +kernel
theorem dX11_findWay_74 : decode cX11_findWay 74 = .ok (.getfield 127, 3) := by decide +kernel
theorem dX11_findWay_77 : decode cX11_findWay 77 = .ok (.iload 4, 2) := by decide +kernel
theorem dX11_findWay_79 : decode cX11_findWay 79 = .ok (.baload, 1) := by decide +kernel
theorem dX11_findWay_80 : decode cX11_findWay 80 = .ok (.ifCond .eq 25, 3) := by decide +kernel
theorem dX11_findWay_83 : decode cX11_findWay 83 = .ok (.aload_n 0, 1) := by decide +kernel
theorem dX11_findWay_84 : decode cX11_findWay 84 = .ok (.getfield 121, 3) := by decide +kernel
theorem dX11_findWay_87 : decode cX11_findWay 87 = .ok (.iload 4, 2) := by decide +kernel
theorem dX11_findWay_89 : decode cX11_findWay 89 = .ok (.iaload, 1) := by decide +kernel
theorem dX11_findWay_90 : decode cX11_findWay 90 = .ok (.aload_n 0, 1) := by decide +kernel
theorem dX11_findWay_91 : decode cX11_findWay 91 = .ok (.getfield 121, 3) := by decide +kernel
theorem dX11_findWay_94 : decode cX11_findWay 94 = .ok (.iload_n 2, 1) := by decide +kernel
theorem dX11_findWay_95 : decode cX11_findWay 95 = .ok (.iaload, 1) := by decide +kernel
theorem dX11_findWay_96 : decode cX11_findWay 96 = .ok (.iconst 1, 1) := by decide +kernel
theorem dX11_findWay_97 : decode cX11_findWay 97 = .ok (.iadd, 1) := by decide +kernel
theorem dX11_findWay_98 : decode cX11_findWay 98 = .ok (.if_icmp .ne 7, 3) := by decide +kernel
theorem dX11_findWay_101 : decode cX11_findWay 101 = .ok (.iconst 1, 1) := by decide +kernel
theorem dX11_findWay_102 : decode cX11_findWay 102 = .ok (.goto 4, 3) := by decide +kernel
theorem dX11_findWay_105 : decode cX11_findWay 105 = .ok (.iconst 0, 1) := by decide +kernel
theorem dX11_findWay_106 : decode cX11_findWay 106 = .ok (.bastore, 1) := by decide +kernel
theorem dX11_findWay_107 : decode cX11_findWay 107 = .ok (.iinc 3 1, 3) := by decide +kernel
theorem dX11_findWay_110 : decode cX11_findWay 110 = .ok (.goto (-76), 3) := by decide +kernel
theorem dX11_findWay_113 : decode cX11_findWay 113 = .ok (.iinc 2 (-1), 3) := by decide +kernel
theorem dX11_findWay_116 : decode cX11_findWay 116 = .ok (.goto (-109), 3) := by decide +kernel
theorem dX11_findWay_119 : decode cX11_findWay 119 = .ok (.aload_n 0, 1) := by decide +kernel
theorem dX11_findWay_120 : decode cX11_findWay 120 = .ok (.iconst 0, 1) := by decide +kernel
theorem dX11_findWay_121 : decode cX11_findWay 121 = .ok (.putfield 362, 3) := by decide +kernel
theorem dX11_findWay_124 : decode cX11_findWay 124 = .ok (.iconst 0, 1) := by decide +kernel
theorem dX11_findWay_125 : decode cX11_findWay 125 = .ok (.istore_n 2, 1) := by decide +kernel
theorem dX11_findWay_126 : decode cX11_findWay 126 = .ok (.aload_n 0, 1) := by decide +kernel
theorem dX11_findWay_127 : decode cX11_findWay 127 = .ok (.getfield 131, 3) := by decide +kernel
theorem dX11_findWay_130 : decode cX11_findWay 130 = .ok (.iload_n 2, 1) := by decide +kernel
theorem dX11_findWay_131 : decode cX11_findWay 131 = .ok (.iaload, 1) := by decide +kernel
theorem dX11_findWay_132 : decode cX11_findWay 132 = .ok (.iload_n 1, 1) := by decide +kernel
theorem dX11_findWay_133 : decode cX11_findWay 133 = .ok (.if_icmp .eq 109, 3) := by decide +kernel
theorem dX11_findWay_136 : decode cX11_findWay 136 = .ok (.iconst 0, 1) := by decide +kernel
theorem dX11_findWay_137 : decode cX11_findWay 137 = .ok (.istore_n 3, 1) := by decide +kernel
theorem dX11_findWay_138 : decode cX11_findWay 138 = .ok (.aload_n 0, 1) := by decide +kernel
theorem dX11_findWay_139 : decode cX11_findWay 139 = .ok (.getfield 118, 3) := by decide +kernel
theorem dX11_findWay_142 : decode cX11_findWay 142 = .ok (.bipush 6, 2) := by decide +kernel
theorem dX11_findWay_144 : decode cX11_findWay 144 = .ok (.iload_n 2, 1) := by decide +kernel
theorem dX11_findWay_145 : decode cX11_findWay 145 = .ok (.imul, 1) := by decide +kernel
theorem dX11_findWay_146 : decode cX11_findWay 146 = .ok (.iload_n 3, 1) := by decide +kernel
theorem dX11_findWay_147 : decode cX11_findWay 147 = .ok (.iadd, 1) := by decide +kernel
theorem dX11_findWay_148 : decode cX11_findWay 148 = .ok (.iaload, 1) := by decide +kernel
theorem dX11_findWay_149 : decode cX11_findWay 149 = .ok (.ifCond .lt 49, 3) := by decide +kernel
theorem dX11_findWay_152 : decode cX11_findWay 152 = .ok (.aload_n 0, 1) := by decide +kernel
theorem dX11_findWay_153 : decode cX11_findWay 153 = .ok (.getfield 127, 3) := by decide +kernel
theorem dX11_findWay_156 : decode cX11_findWay 156 = .ok (.aload_n 0, 1) := by decide +kernel
theorem dX11_findWay_157 : decode cX11_findWay 157 = .ok (.getfield 118, 3) := by decide +kernel
theorem dX11_findWay_160 : decode cX11_findWay 160 = .ok (.bipush 6, 2) := by decide +kernel
theorem dX11_findWay_162 : decode cX11_findWay 162 = .ok (.iload_n 2, 1) := by decide +kernel
theorem dX11_findWay_163 : decode cX11_findWay 163 = .ok (.imul, 1) := by decide +kernel
theorem dX11_findWay_164 : decode cX11_findWay 164 = .ok (.iload_n 3, 1) := by decide +kernel
theorem dX11_findWay_165 : decode cX11_findWay 165 = .ok (.iadd, 1) := by decide +kernel
theorem dX11_findWay_166 : decode cX11_findWay 166 = .ok (.iaload, 1) := by decide +kernel
theorem dX11_findWay_167 : decode cX11_findWay 167 = .ok (.baload, 1) := by decide +kernel
theorem dX11_findWay_168 : decode cX11_findWay 168 = .ok (.ifCond .eq 30, 3) := by decide +kernel
theorem dX11_findWay_171 : decode cX11_findWay 171 = .ok (.aload_n 0, 1) := by decide +kernel
theorem dX11_findWay_172 : decode cX11_findWay 172 = .ok (.getfield 121, 3) := by decide +kernel
theorem dX11_findWay_175 : decode cX11_findWay 175 = .ok (.aload_n 0, 1) := by decide +kernel
theorem dX11_findWay_176 : decode cX11_findWay 176 = .ok (.getfield 118, 3) := by decide +kernel
theorem dX11_findWay_179 : decode cX11_findWay 179 = .ok (.bipush 6, 2) := by decide +kernel
theorem dX11_findWay_181 : decode cX11_findWay 181 = .ok (.iload_n 2, 1) := by decide +kernel
theorem dX11_findWay_182 : decode cX11_findWay 182 = .ok (.imul, 1) := by decide +kernel
theorem dX11_findWay_183 : decode cX11_findWay 183 = .ok (.iload_n 3, 1) := by decide +kernel
theorem dX11_findWay_184 : decode cX11_findWay 184 = .ok (.iadd, 1) := by decide +kernel
theorem dX11_findWay_185 : decode cX11_findWay 185 = .ok (.iaload, 1) := by decide +kernel
theorem dX11_findWay_186 : decode cX11_findWay 186 = .ok (.iaload, 1) := by decide +kernel
theorem dX11_findWay_187 : decode cX11_findWay 187 = .ok (.aload_n 0, 1) := by decide +kernel
theorem dX11_findWay_188 : decode cX11_findWay 188 = .ok (.getfield 121, 3) := by decide +kernel
theorem dX11_findWay_191 : decode cX11_findWay 191 = .ok (.iload_n 2, 1) := by decide +kernel
theorem dX11_findWay_192 : decode cX11_findWay 192 = .ok (.iaload, 1) := by decide +kernel
theorem dX11_findWay_193 : decode cX11_findWay 193 = .ok (.iconst 1, 1) := by decide +kernel
theorem dX11_findWay_194 : decode cX11_findWay 194 = .ok (.iadd, 1) := by decide +kernel
theorem dX11_findWay_195 : decode cX11_findWay 195 = .ok (.if_icmp .eq 9, 3) := by decide +kernel
theorem dX11_findWay_198 : decode cX11_findWay 198 = .ok (.iinc 3 1, 3) := by decide +kernel
theorem dX11_findWay_201 : decode cX11_findWay 201 = .ok (.goto (-63), 3) := by decide +kernel
theorem dX11_findWay_204 : decode cX11_findWay 204 = .ok (.aload_n 0, 1) := by decide +kernel
theorem dX11_findWay_205 : decode cX11_findWay 205 = .ok (.getfield 143, 3) := by decide +kernel
theorem dX11_findWay_208 : decode cX11_findWay 208 = .ok (.aload_n 0, 1) := by decide +kernel
theorem dX11_findWay_209 : decode cX11_findWay 209 = .ok (.getfield 362, 3) := by decide +kernel
theorem dX11_findWay_212 : decode cX11_findWay 212 = .ok (.iload_n 3, 1) := by decide +kernel
theorem dX11_findWay_213 : decode cX11_findWay 213 = .ok (.invokestatic 311, 3) := by decide +kernel
theorem dX11_findWay_216 : decode cX11_findWay 216 = .ok (.iastore, 1) := by decide +kernel
theorem dX11_findWay_217 : decode cX11_findWay 217 = .ok (.aload_n 0, 1) := by decide +kernel
theorem dX11_findWay_218 : decode cX11_findWay 218 = .ok (.dup, 1) := by decide +kernel
theorem dX11_findWay_219 : decode cX11_findWay 219 = .ok (.getfield 362, 3) := by decide +kernel
theorem dX11_findWay_222 : decode cX11_findWay 222 = .ok (.iconst 1, 1) := by decide +kernel
theorem dX11_findWay_223 : decode cX11_findWay 223 = .ok (.iadd, 1) := by decide +kernel
theorem dX11_findWay_224 : decode cX11_findWay 224 = .ok (.putfield 362, 3) := by decide +kernel
theorem dX11_findWay_227 : decode cX11_findWay 227 = .ok (.aload_n 0, 1) := by decide +kernel
theorem dX11_findWay_228 : decode cX11_findWay 228 = .ok (.getfield 118, 3) := by decide +kernel
theorem dX11_findWay_231 : decode cX11_findWay 231 = .ok (.bipush 6, 2) := by decide +kernel
theorem dX11_findWay_233 : decode cX11_findWay 233 = .ok (.iload_n 2, 1) := by decide +kernel
theorem dX11_findWay_234 : decode cX11_findWay 234 = .ok (.imul, 1) := by decide +kernel
theorem dX11_findWay_235 : decode cX11_findWay 235 = .ok (.iload_n 3, 1) := by decide +kernel
theorem dX11_findWay_236 : decode cX11_findWay 236 = .ok (.iadd, 1) := by decide +kernel
theorem dX11_findWay_237 : decode cX11_findWay 237 = .ok (.iaload, 1) := by decide +kernel
theorem dX11_findWay_238 : decode cX11_findWay 238 = .ok (.istore_n 2, 1) := by decide +kernel
theorem dX11_findWay_239 : decode cX11_findWay 239 = .ok (.goto (-113), 3) := by decide +kernel
theorem dX11_findWay_242 : decode cX11_findWay 242 = .ok (.return_, 1) := by decide +kernel
theorem dX11_leads_0 : decode cX11_leads 0 = .ok (.aload_n 0, 1) := by decide +kernel
theorem dX11_leads_1 : decode cX11_leads 1 = .ok (.invokevirtual 351, 3) := by decide +kernel
theorem dX11_leads_4 : decode cX11_leads 4 = .ok (.aload_n 0, 1) := by decide +kernel
theorem dX11_leads_5 : decode cX11_leads 5 = .ok (.getfield 339, 3) := by decide +kernel
theorem dX11_leads_8 : decode cX11_leads 8 = .ok (.ifCond .eq 7, 3) := by decide +kernel
theorem dX11_leads_11 : decode cX11_leads 11 = .ok (.ldc_w 354, 3) := by decide +kernel
theorem dX11_leads_14 : decode cX11_leads 14 = .ok (.ireturn, 1) := by decide +kernel
theorem dX11_leads_15 : decode cX11_leads 15 = .ok (.aload_n 0, 1) := by decide +kernel
theorem dX11_leads_16 : decode cX11_leads 16 = .ok (.invokevirtual 359, 3) := by decide +kernel
theorem dX11_leads_19 : decode cX11_leads 19 = .ok (.istore_n 1, 1) := by decide +kernel
theorem dX11_leads_20 : decode cX11_leads 20 = .ok (.iload_n 1, 1) := by decide +kernel
theorem dX11_leads_21 : decode cX11_leads 21 = .ok (.ifCond .ge 7, 3) := by decide +kernel
theorem dX11_leads_24 : decode cX11_leads 24 = .ok (.ldc_w 355, 3) := by decide +kernel
theorem dX11_leads_27 : decode cX11_leads 27 = .ok (.ireturn, 1) := by decide +kernel
theorem dX11_leads_28 : decode cX11_leads 28 = .ok (.aload_n 0, 1) := by decide +kernel
theorem dX11_leads_29 : decode cX11_leads 29 = .ok (.iload_n 1, 1) := by decide +kernel
theorem dX11_leads_30 : decode cX11_leads 30 = .ok (.invokevirtual 365, 3) := by decide +kernel
theorem dX11_leads_33 : decode cX11_leads 33 = .ok (.iconst 0, 1) := by decide +kernel
theorem dX11_leads_34 : decode cX11_leads 34 = .ok (.ireturn, 1) := by decide +kernel
theorem dX11_turn_0 : decode cX11_turn 0 = .ok (.iload_n 1, 1) := by decide +kernel
theorem dX11_turn_1 : decode cX11_turn 1 = .ok (.iconst (-1), 1) := by decide +kernel
theorem dX11_turn_2 : decode cX11_turn 2 = .ok (.if_icmp .ge 10, 3) := by decide +kernel
theorem dX11_turn_5 : decode cX11_turn 5 = .ok (.aload_n 0, 1) := by decide +kernel
theorem dX11_turn_6 : decode cX11_turn 6 = .ok (.ldc 159, 2) := by decide +kernel
theorem dX11_turn_8 : decode cX11_turn 8 = .ok (.invokevirtual 171, 3) := by decide +kernel
theorem dX11_turn_11 : decode cX11_turn 11 = .ok (.ireturn, 1) := by decide +kernel
theorem dX11_turn_12 : decode cX11_turn 12 = .ok (.aload_n 0, 1) := by decide +kernel
theorem dX11_turn_13 : decode cX11_turn 13 = .ok (.invokevirtual 368, 3) := by decide +kernel
theorem dX11_turn_16 : decode cX11_turn 16 = .ok (.istore_n 2, 1) := by decide +kernel
theorem dX11_turn_17 : decode cX11_turn 17 = .ok (.iload_n 2, 1) := by decide +kernel
theorem dX11_turn_18 : decode cX11_turn 18 = .ok (.ifCond .eq 9, 3) := by decide +kernel
theorem dX11_turn_21 : decode cX11_turn 21 = .ok (.aload_n 0, 1) := by decide +kernel
theorem dX11_turn_22 : decode cX11_turn 22 = .ok (.iload_n 2, 1) := by decide +kernel
theorem dX11_turn_23 : decode cX11_turn 23 = .ok (.invokevirtual 171, 3) := by decide +kernel
theorem dX11_turn_26 : decode cX11_turn 26 = .ok (.ireturn, 1) := by decide +kernel
theorem dX11_turn_27 : decode cX11_turn 27 = .ok (.iload_n 1, 1) := by decide +kernel
theorem dX11_turn_28 : decode cX11_turn 28 = .ok (.iconst (-1), 1) := by decide +kernel
theorem dX11_turn_29 : decode cX11_turn 29 = .ok (.if_icmp .ne 10, 3) := by decide +kernel
theorem dX11_turn_32 : decode cX11_turn 32 = .ok (.aload_n 0, 1) := by decide +kernel
theorem dX11_turn_33 : decode cX11_turn 33 = .ok (.getfield 362, 3) := by decide +kernel
theorem dX11_turn_36 : decode cX11_turn 36 = .ok (.goto 27, 3) := by decide +kernel
theorem dX11_turn_39 : decode cX11_turn 39 = .ok (.iload_n 1, 1) := by decide +kernel
theorem dX11_turn_40 : decode cX11_turn 40 = .ok (.aload_n 0, 1) := by decide +kernel
theorem dX11_turn_41 : decode cX11_turn 41 = .ok (.getfield 362, 3) := by decide +kernel
theorem dX11_turn_44 : decode cX11_turn 44 = .ok (.if_icmp .ge 12, 3) := by decide +kernel
theorem dX11_turn_47 : decode cX11_turn 47 = .ok (.aload_n 0, 1) := by decide +kernel
theorem dX11_turn_48 : decode cX11_turn 48 = .ok (.getfield 143, 3) := by decide +kernel
theorem dX11_turn_51 : decode cX11_turn 51 = .ok (.iload_n 1, 1) := by decide +kernel
theorem dX11_turn_52 : decode cX11_turn 52 = .ok (.iaload, 1) := by decide +kernel
theorem dX11_turn_53 : decode cX11_turn 53 = .ok (.goto 10, 3) := by decide +kernel
theorem dX11_turn_56 : decode cX11_turn 56 = .ok (.aload_n 0, 1) := by decide +kernel
theorem dX11_turn_57 : decode cX11_turn 57 = .ok (.ldc_w 355, 3) := by decide +kernel
theorem dX11_turn_60 : decode cX11_turn 60 = .ok (.invokevirtual 171, 3) := by decide +kernel
theorem dX11_turn_63 : decode cX11_turn 63 = .ok (.ireturn, 1) := by decide +kernel
theorem dX11_stuck_0 : decode cX11_stuck 0 = .ok (.aload_n 0, 1) := by decide +kernel
theorem dX11_stuck_1 : decode cX11_stuck 1 = .ok (.invokevirtual 351, 3) := by decide +kernel
theorem dX11_stuck_4 : decode cX11_stuck 4 = .ok (.aload_n 0, 1) := by decide +kernel
theorem dX11_stuck_5 : decode cX11_stuck 5 = .ok (.getfield 339, 3) := by decide +kernel
theorem dX11_stuck_8 : decode cX11_stuck 8 = .ok (.ifCond .eq 11, 3) := by decide +kernel
theorem dX11_stuck_11 : decode cX11_stuck 11 = .ok (.aload_n 0, 1) := by decide +kernel
theorem dX11_stuck_12 : decode cX11_stuck 12 = .ok (.ldc_w 354, 3) := by decide +kernel
theorem dX11_stuck_15 : decode cX11_stuck 15 = .ok (.invokevirtual 171, 3) := by decide +kernel
theorem dX11_stuck_18 : decode cX11_stuck 18 = .ok (.ireturn, 1) := by decide +kernel
theorem dX11_stuck_19 : decode cX11_stuck 19 = .ok (.iconst 0, 1) := by decide +kernel
theorem dX11_stuck_20 : decode cX11_stuck 20 = .ok (.istore_n 1, 1) := by decide +kernel
theorem dX11_stuck_21 : decode cX11_stuck 21 = .ok (.iload_n 1, 1) := by decide +kernel
theorem dX11_stuck_22 : decode cX11_stuck 22 = .ok (.aload_n 0, 1) := by decide +kernel
theorem dX11_stuck_23 : decode cX11_stuck 23 = .ok (.getfield 282, 3) := by decide +kernel
theorem dX11_stuck_26 : decode cX11_stuck 26 = .ok (.if_icmp .ge 29, 3) := by decide +kernel
theorem dX11_stuck_29 : decode cX11_stuck 29 = .ok (.aload_n 0, 1) := by decide +kernel
theorem dX11_stuck_30 : decode cX11_stuck 30 = .ok (.getfield 127, 3) := by decide +kernel
theorem dX11_stuck_33 : decode cX11_stuck 33 = .ok (.iload_n 1, 1) := by decide +kernel
theorem dX11_stuck_34 : decode cX11_stuck 34 = .ok (.aload_n 0, 1) := by decide +kernel
theorem dX11_stuck_35 : decode cX11_stuck 35 = .ok (.getfield 131, 3) := by decide +kernel
theorem dX11_stuck_38 : decode cX11_stuck 38 = .ok (.iload_n 1, 1) := by decide +kernel
theorem dX11_stuck_39 : decode cX11_stuck 39 = .ok (.iaload, 1) := by decide +kernel
theorem dX11_stuck_40 : decode cX11_stuck 40 = .ok (.ifCond .lt 7, 3) := by decide +kernel
theorem dX11_stuck_43 : decode cX11_stuck 43 = .ok (.iconst 1, 1) := by decide +kernel
theorem dX11_stuck_44 : decode cX11_stuck 44 = .ok (.goto 4, 3) := by decide +kernel
theorem dX11_stuck_47 : decode cX11_stuck 47 = .ok (.iconst 0, 1) := by decide +kernel
theorem dX11_stuck_48 : decode cX11_stuck 48 = .ok (.bastore, 1) := by decide +kernel
theorem dX11_stuck_49 : decode cX11_stuck 49 = .ok (.iinc 1 1, 3) := by decide +kernel
theorem dX11_stuck_52 : decode cX11_stuck 52 = .ok (.goto (-31), 3) := by decide +kernel
theorem dX11_stuck_55 : decode cX11_stuck 55 = .ok (.iconst 1, 1) := by decide +kernel
theorem dX11_stuck_56 : decode cX11_stuck 56 = .ok (.istore_n 1, 1) := by decide +kernel
theorem dX11_stuck_57 : decode cX11_stuck 57 = .ok (.iload_n 1, 1) := by decide +kernel
theorem dX11_stuck_58 : decode cX11_stuck 58 = .ok (.ifCond .eq 106, 3) := by decide +kernel
theorem dX11_stuck_61 : decode cX11_stuck 61 = .ok (.iconst 0, 1) := by decide +kernel
theorem dX11_stuck_62 : decode cX11_stuck 62 = .ok (.istore_n 1, 1) := by decide +kernel
theorem dX11_stuck_63 : decode cX11_stuck 63 = .ok (.aload_n 0, 1) := by decide +kernel
theorem dX11_stuck_64 : decode cX11_stuck 64 = .ok (.getfield 282, 3) := by decide +kernel
theorem dX11_stuck_67 : decode cX11_stuck 67 = .ok (.iconst 1, 1) := by decide +kernel
theorem dX11_stuck_68 : decode cX11_stuck 68 = .ok (.isub, 1) := by decide +kernel
theorem dX11_stuck_69 : decode cX11_stuck 69 = .ok (.istore_n 2, 1) := by decide +kernel
theorem dX11_stuck_70 : decode cX11_stuck 70 = .ok (.iload_n 2, 1) := by decide +kernel
theorem dX11_stuck_71 : decode cX11_stuck 71 = .ok (.ifCond .lt 90, 3) := by decide +kernel
theorem dX11_stuck_74 : decode cX11_stuck 74 = .ok (.iconst 0, 1) := by decide +kernel
theorem dX11_stuck_75 : decode cX11_stuck 75 = .ok (.istore_n 3, 1) := by decide +kernel
theorem dX11_stuck_76 : decode cX11_stuck 76 = .ok (.iload_n 3, 1) := by decide +kernel
theorem dX11_stuck_77 : decode cX11_stuck 77 = .ok (.bipush 6, 2) := by decide +kernel
theorem dX11_stuck_79 : decode cX11_stuck 79 = .ok (.if_icmp .ge 76, 3) := by decide +kernel
theorem dX11_stuck_82 : decode cX11_stuck 82 = .ok (.aload_n 0, 1) := by decide +kernel
theorem dX11_stuck_83 : decode cX11_stuck 83 = .ok (.getfield 127, 3) := by decide +kernel
theorem dX11_stuck_86 : decode cX11_stuck 86 = .ok (.iload_n 2, 1) := by decide +kernel
theorem dX11_stuck_87 : decode cX11_stuck 87 = .ok (.baload, 1) := by decide +kernel
theorem dX11_stuck_88 : decode cX11_stuck 88 = .ok (.ifCond .ne 67, 3) := by decide +kernel
theorem dX11_stuck_91 : decode cX11_stuck 91 = .ok (.aload_n 0, 1) := by decide +kernel
theorem dX11_stuck_92 : decode cX11_stuck 92 = .ok (.getfield 118, 3) := by decide +kernel
theorem dX11_stuck_95 : decode cX11_stuck 95 = .ok (.bipush 6, 2) := by decide +kernel
theorem dX11_stuck_97 : decode cX11_stuck 97 = .ok (.iload_n 2, 1) := by decide +kernel
theorem dX11_stuck_98 : decode cX11_stuck 98 = .ok (.imul, 1) := by decide +kernel
theorem dX11_stuck_99 : decode cX11_stuck 99 = .ok (.iload_n 3, 1) := by decide +kernel
theorem dX11_stuck_100 : decode cX11_stuck 100 = .ok (.iadd, 1) := by decide +kernel
theorem dX11_stuck_101 : decode cX11_stuck 101 = .ok (.iaload, 1) := by decide +kernel
theorem dX11_stuck_102 : decode cX11_stuck 102 = .ok (.istore 4, 2) := by decide +kernel
theorem dX11_stuck_104 : decode cX11_stuck 104 = .ok (.aload_n 0, 1) := by decide +kernel
theorem dX11_stuck_105 : decode cX11_stuck 105 = .ok (.getfield 127, 3) := by decide +kernel
theorem dX11_stuck_108 : decode cX11_stuck 108 = .ok (.iload_n 2, 1) := by decide +kernel
theorem dX11_stuck_109 : decode cX11_stuck 109 = .ok (.iload 4, 2) := by decide +kernel
theorem dX11_stuck_111 : decode cX11_stuck 111 = .ok (.ifCond .lt 17, 3) := by decide +kernel
theorem dX11_stuck_114 : decode cX11_stuck 114 = .ok (.aload_n 0, 1) := by decide +kernel
theorem dX11_stuck_115 : decode cX11_stuck 115 = .ok (.getfield 127, 3) := by decide +kernel
theorem dX11_stuck_118 : decode cX11_stuck 118 = .ok (.iload 4, 2) := by decide +kernel
theorem dX11_stuck_120 : decode cX11_stuck 120 = .ok (.baload, 1) := by decide +kernel
theorem dX11_stuck_121 : decode cX11_stuck 121 = .ok (.ifCond .eq 7, 3) := by decide +kernel
theorem dX11_stuck_124 : decode cX11_stuck 124 = .ok (.iconst 1, 1) := by decide +kernel
theorem dX11_stuck_125 : decode cX11_stuck 125 = .ok (.goto 4, 3) := by decide +kernel
theorem dX11_stuck_128 : decode cX11_stuck 128 = .ok (.iconst 0, 1) := by decide +kernel
theorem dX11_stuck_129 : decode cX11_stuck 129 = .ok (.bastore, 1) := by decide +kernel
theorem dX11_stuck_130 : decode cX11_stuck 130 = .ok (.iload_n 1, 1) := by decide +kernel
theorem dX11_stuck_131 : decode cX11_stuck 131 = .ok (.ifCond .ne 12, 3) := by decide +kernel
theorem dX11_stuck_134 : decode cX11_stuck 134 = .ok (.aload_n 0, 1) := by decide +kernel
theorem dX11_stuck_135 : decode cX11_stuck 135 = .ok (.getfield 127, 3) := by decide +kernel
theorem dX11_stuck_138 : decode cX11_stuck 138 = .ok (.iload_n 2, 1) := by decide +kernel
theorem dX11_stuck_139 : decode cX11_stuck 139 = .ok (.baload, 1) := by decide +kernel
theorem dX11_stuck_140 : decode cX11_stuck 140 = .ok (.ifCond .eq 7, 3) := by decide +kernel
theorem dX11_stuck_143 : decode cX11_stuck 143 = .ok (.iconst 1, 1) := by decide +kernel
theorem dX11_stuck_144 : decode cX11_stuck 144 = .ok (.goto 4, 3) := by decide +kernel
theorem dX11_stuck_147 : decode cX11_stuck 147 = .ok (.iconst 0, 1) := by decide +kernel
theorem dX11_stuck_148 : decode cX11_stuck 148 = .ok (.istore_n 1, 1) := by decide +kernel
theorem dX11_stuck_149 : decode cX11_stuck 149 = .ok (.iinc 3 1, 3) := by decide +kernel
theorem dX11_stuck_152 : decode cX11_stuck 152 = .ok (.goto (-76), 3) := by decide +kernel
theorem dX11_stuck_155 : decode cX11_stuck 155 = .ok (.iinc 2 (-1), 3) := by decide +kernel
theorem dX11_stuck_158 : decode cX11_stuck 158 = .ok (.goto (-88), 3) := by decide +kernel
theorem dX11_stuck_161 : decode cX11_stuck 161 = .ok (.goto (-104), 3) := by decide +kernel
theorem dX11_stuck_164 : decode cX11_stuck 164 = .ok (.iconst 0, 1) := by decide +kernel
theorem dX11_stuck_165 : decode cX11_stuck 165 = .ok (.istore_n 2, 1) := by decide +kernel
theorem dX11_stuck_166 : decode cX11_stuck 166 = .ok (.iconst 0, 1) := by decide +kernel
theorem dX11_stuck_167 : decode cX11_stuck 167 = .ok (.istore_n 3, 1) := by decide +kernel
theorem dX11_stuck_168 : decode cX11_stuck 168 = .ok (.iload_n 3, 1) := by decide +kernel
theorem dX11_stuck_169 : decode cX11_stuck 169 = .ok (.aload_n 0, 1) := by decide +kernel
theorem dX11_stuck_170 : decode cX11_stuck 170 = .ok (.getfield 282, 3) := by decide +kernel
theorem dX11_stuck_173 : decode cX11_stuck 173 = .ok (.if_icmp .ge 26, 3) := by decide +kernel
theorem dX11_stuck_176 : decode cX11_stuck 176 = .ok (.iload_n 2, 1) := by decide +kernel
theorem dX11_stuck_177 : decode cX11_stuck 177 = .ok (.aload_n 0, 1) := by decide +kernel
theorem dX11_stuck_178 : decode cX11_stuck 178 = .ok (.getfield 127, 3) := by decide +kernel
theorem dX11_stuck_181 : decode cX11_stuck 181 = .ok (.iload_n 3, 1) := by decide +kernel
theorem dX11_stuck_182 : decode cX11_stuck 182 = .ok (.baload, 1) := by decide +kernel
theorem dX11_stuck_183 : decode cX11_stuck 183 = .ok (.ifCond .eq 7, 3) := by decide +kernel
theorem dX11_stuck_186 : decode cX11_stuck 186 = .ok (.iconst 0, 1) := by decide +kernel
theorem dX11_stuck_187 : decode cX11_stuck 187 = .ok (.goto 4, 3) := by decide +kernel
theorem dX11_stuck_190 : decode cX11_stuck 190 = .ok (.iconst 1, 1) := by decide +kernel
theorem dX11_stuck_191 : decode cX11_stuck 191 = .ok (.iadd, 1) := by decide +kernel
theorem dX11_stuck_192 : decode cX11_stuck 192 = .ok (.istore_n 2, 1) := by decide +kernel
theorem dX11_stuck_193 : decode cX11_stuck 193 = .ok (.iinc 3 1, 3) := by decide +kernel
theorem dX11_stuck_196 : decode cX11_stuck 196 = .ok (.goto (-28), 3) := by decide +kernel
theorem dX11_stuck_199 : decode cX11_stuck 199 = .ok (.iload_n 2, 1) := by decide +kernel
theorem dX11_stuck_200 : decode cX11_stuck 200 = .ok (.ireturn, 1) := by decide +kernel
theorem dX11_round_0 : decode cX11_round 0 = .ok (.aload_n 0, 1) := by decide +kernel
theorem dX11_round_1 : decode cX11_round 1 = .ok (.invokevirtual 351, 3) := by decide +kernel
theorem dX11_round_4 : decode cX11_round 4 = .ok (.aload_n 0, 1) := by decide +kernel
theorem dX11_round_5 : decode cX11_round 5 = .ok (.getfield 339, 3) := by decide +kernel
theorem dX11_round_8 : decode cX11_round 8 = .ok (.ifCond .eq 11, 3) := by decide +kernel
theorem dX11_round_11 : decode cX11_round 11 = .ok (.aload_n 0, 1) := by decide +kernel
theorem dX11_round_12 : decode cX11_round 12 = .ok (.ldc_w 354, 3) := by decide +kernel
theorem dX11_round_15 : decode cX11_round 15 = .ok (.invokevirtual 171, 3) := by decide +kernel
theorem dX11_round_18 : decode cX11_round 18 = .ok (.ireturn, 1) := by decide +kernel
theorem dX11_round_19 : decode cX11_round 19 = .ok (.iconst 0, 1) := by decide +kernel
theorem dX11_round_20 : decode cX11_round 20 = .ok (.istore_n 1, 1) := by decide +kernel
theorem dX11_round_21 : decode cX11_round 21 = .ok (.iload_n 1, 1) := by decide +kernel
theorem dX11_round_22 : decode cX11_round 22 = .ok (.aload_n 0, 1) := by decide +kernel
theorem dX11_round_23 : decode cX11_round 23 = .ok (.getfield 282, 3) := by decide +kernel
theorem dX11_round_26 : decode cX11_round 26 = .ok (.if_icmp .ge 16, 3) := by decide +kernel
theorem dX11_round_29 : decode cX11_round 29 = .ok (.aload_n 0, 1) := by decide +kernel
theorem dX11_round_30 : decode cX11_round 30 = .ok (.getfield 146, 3) := by decide +kernel
theorem dX11_round_33 : decode cX11_round 33 = .ok (.iload_n 1, 1) := by decide +kernel
theorem dX11_round_34 : decode cX11_round 34 = .ok (.iconst 0, 1) := by decide +kernel
theorem dX11_round_35 : decode cX11_round 35 = .ok (.iastore, 1) := by decide +kernel
theorem dX11_round_36 : decode cX11_round 36 = .ok (.iinc 1 1, 3) := by decide +kernel
theorem dX11_round_39 : decode cX11_round 39 = .ok (.goto (-18), 3) := by decide +kernel
theorem dX11_round_42 : decode cX11_round 42 = .ok (.iconst 0, 1) := by decide +kernel
theorem dX11_round_43 : decode cX11_round 43 = .ok (.istore_n 1, 1) := by decide +kernel
theorem dX11_round_44 : decode cX11_round 44 = .ok (.iload_n 1, 1) := by decide +kernel
theorem dX11_round_45 : decode cX11_round 45 = .ok (.bipush 6, 2) := by decide +kernel
theorem dX11_round_47 : decode cX11_round 47 = .ok (.aload_n 0, 1) := by decide +kernel
theorem dX11_round_48 : decode cX11_round 48 = .ok (.getfield 282, 3) := by decide +kernel
theorem dX11_round_51 : decode cX11_round 51 = .ok (.imul, 1) := by decide +kernel
theorem dX11_round_52 : decode cX11_round 52 = .ok (.if_icmp .ge 33, 3) := by decide +kernel
theorem dX11_round_55 : decode cX11_round 55 = .ok (.aload_n 0, 1) := by decide +kernel
theorem dX11_round_56 : decode cX11_round 56 = .ok (.getfield 118, 3) := by decide +kernel
theorem dX11_round_59 : decode cX11_round 59 = .ok (.iload_n 1, 1) := by decide +kernel
theorem dX11_round_60 : decode cX11_round 60 = .ok (.iaload, 1) := by decide +kernel
theorem dX11_round_61 : decode cX11_round 61 = .ok (.ifCond .lt 18, 3) := by decide +kernel
theorem dX11_round_64 : decode cX11_round 64 = .ok (.aload_n 0, 1) := by decide +kernel
theorem dX11_round_65 : decode cX11_round 65 = .ok (.getfield 146, 3) := by decide +kernel
theorem dX11_round_68 : decode cX11_round 68 = .ok (.aload_n 0, 1) := by decide +kernel
theorem dX11_round_69 : decode cX11_round 69 = .ok (.getfield 118, 3) := by decide +kernel
theorem dX11_round_72 : decode cX11_round 72 = .ok (.iload_n 1, 1) := by decide +kernel
theorem dX11_round_73 : decode cX11_round 73 = .ok (.iaload, 1) := by decide +kernel
theorem dX11_round_74 : decode cX11_round 74 = .ok (.dup2, 1) := by decide +kernel
theorem dX11_round_75 : decode cX11_round 75 = .ok (.iaload, 1) := by decide +kernel
theorem dX11_round_76 : decode cX11_round 76 = .ok (.iconst 1, 1) := by decide +kernel
theorem dX11_round_77 : decode cX11_round 77 = .ok (.iadd, 1) := by decide +kernel
theorem dX11_round_78 : decode cX11_round 78 = .ok (.iastore, 1) := by decide +kernel
theorem dX11_round_79 : decode cX11_round 79 = .ok (.iinc 1 1, 3) := by decide +kernel
theorem dX11_round_82 : decode cX11_round 82 = .ok (.goto (-38), 3) := by decide +kernel
theorem dX11_round_85 : decode cX11_round 85 = .ok (.iconst 0, 1) := by decide +kernel
theorem dX11_round_86 : decode cX11_round 86 = .ok (.istore_n 1, 1) := by decide +kernel
theorem dX11_round_87 : decode cX11_round 87 = .ok (.iconst 0, 1) := by decide +kernel
theorem dX11_round_88 : decode cX11_round 88 = .ok (.istore_n 2, 1) := by decide +kernel
theorem dX11_round_89 : decode cX11_round 89 = .ok (.iload_n 2, 1) := by decide +kernel
theorem dX11_round_90 : decode cX11_round 90 = .ok (.aload_n 0, 1) := by decide +kernel
theorem dX11_round_91 : decode cX11_round 91 = .ok (.getfield 282, 3) := by decide +kernel
theorem dX11_round_94 : decode cX11_round 94 = .ok (.if_icmp .ge 28, 3) := by decide +kernel
theorem dX11_round_97 : decode cX11_round 97 = .ok (.aload_n 0, 1) := by decide +kernel
theorem dX11_round_98 : decode cX11_round 98 = .ok (.getfield 146, 3) := by decide +kernel
theorem dX11_round_101 : decode cX11_round 101 = .ok (.iload_n 2, 1) := by decide +kernel
theorem dX11_round_102 : decode cX11_round 102 = .ok (.iaload, 1) := by decide +kernel
theorem dX11_round_103 : decode cX11_round 103 = .ok (.ifCond .ne 13, 3) := by decide +kernel
theorem dX11_round_106 : decode cX11_round 106 = .ok (.aload_n 0, 1) := by decide +kernel
theorem dX11_round_107 : decode cX11_round 107 = .ok (.getfield 149, 3) := by decide +kernel
theorem dX11_round_110 : decode cX11_round 110 = .ok (.iload_n 1, 1) := by decide +kernel
theorem dX11_round_111 : decode cX11_round 111 = .ok (.iload_n 2, 1) := by decide +kernel
theorem dX11_round_112 : decode cX11_round 112 = .ok (.iastore, 1) := by decide +kernel
theorem dX11_round_113 : decode cX11_round 113 = .ok (.iinc 1 1, 3) := by decide +kernel
theorem dX11_round_116 : decode cX11_round 116 = .ok (.iinc 2 1, 3) := by decide +kernel
theorem dX11_round_119 : decode cX11_round 119 = .ok (.goto (-30), 3) := by decide +kernel
theorem dX11_round_122 : decode cX11_round 122 = .ok (.iconst 0, 1) := by decide +kernel
theorem dX11_round_123 : decode cX11_round 123 = .ok (.istore_n 2, 1) := by decide +kernel
theorem dX11_round_124 : decode cX11_round 124 = .ok (.iload_n 2, 1) := by decide +kernel
theorem dX11_round_125 : decode cX11_round 125 = .ok (.iload_n 1, 1) := by decide +kernel
theorem dX11_round_126 : decode cX11_round 126 = .ok (.if_icmp .ge 81, 3) := by decide +kernel
theorem dX11_round_129 : decode cX11_round 129 = .ok (.iconst 0, 1) := by decide +kernel
theorem dX11_round_130 : decode cX11_round 130 = .ok (.istore_n 3, 1) := by decide +kernel
theorem dX11_round_131 : decode cX11_round 131 = .ok (.iload_n 3, 1) := by decide +kernel
theorem dX11_round_132 : decode cX11_round 132 = .ok (.bipush 6, 2) := by decide +kernel
theorem dX11_round_134 : decode cX11_round 134 = .ok (.if_icmp .ge 67, 3) := by decide +kernel
theorem dX11_round_137 : decode cX11_round 137 = .ok (.aload_n 0, 1) := by decide +kernel
theorem dX11_round_138 : decode cX11_round 138 = .ok (.getfield 118, 3) := by decide +kernel
theorem dX11_round_141 : decode cX11_round 141 = .ok (.bipush 6, 2) := by decide +kernel
theorem dX11_round_143 : decode cX11_round 143 = .ok (.aload_n 0, 1) := by decide +kernel
theorem dX11_round_144 : decode cX11_round 144 = .ok (.getfield 149, 3) := by decide +kernel
theorem dX11_round_147 : decode cX11_round 147 = .ok (.iload_n 2, 1) := by decide +kernel
theorem dX11_round_148 : decode cX11_round 148 = .ok (.iaload, 1) := by decide +kernel
theorem dX11_round_149 : decode cX11_round 149 = .ok (.imul, 1) := by decide +kernel
theorem dX11_round_150 : decode cX11_round 150 = .ok (.iload_n 3, 1) := by decide +kernel
theorem dX11_round_151 : decode cX11_round 151 = .ok (.iadd, 1) := by decide +kernel
theorem dX11_round_152 : decode cX11_round 152 = .ok (.iaload, 1) := by decide +kernel
theorem dX11_round_153 : decode cX11_round 153 = .ok (.istore 4, 2) := by decide +kernel
theorem dX11_round_155 : decode cX11_round 155 = .ok (.iload 4, 2) := by decide +kernel
theorem dX11_round_157 : decode cX11_round 157 = .ok (.ifCond .ge 6, 3) := by decide +kernel
theorem dX11_round_160 : decode cX11_round 160 = .ok (.goto 35, 3) := by decide +kernel
theorem dX11_round_163 : decode cX11_round 163 = .ok (.aload_n 0, 1) := by decide +kernel
theorem dX11_round_164 : decode cX11_round 164 = .ok (.getfield 146, 3) := by decide +kernel
theorem dX11_round_167 : decode cX11_round 167 = .ok (.iload 4, 2) := by decide +kernel
theorem dX11_round_169 : decode cX11_round 169 = .ok (.dup2, 1) := by decide +kernel
theorem dX11_round_170 : decode cX11_round 170 = .ok (.iaload, 1) := by decide +kernel
theorem dX11_round_171 : decode cX11_round 171 = .ok (.iconst 1, 1) := by decide +kernel
theorem dX11_round_172 : decode cX11_round 172 = .ok (.isub, 1) := by decide +kernel
theorem dX11_round_173 : decode cX11_round 173 = .ok (.iastore, 1) := by decide +kernel
theorem dX11_round_174 : decode cX11_round 174 = .ok (.aload_n 0, 1) := by decide +kernel
theorem dX11_round_175 : decode cX11_round 175 = .ok (.getfield 146, 3) := by decide +kernel
theorem dX11_round_178 : decode cX11_round 178 = .ok (.iload 4, 2) := by decide +kernel
theorem dX11_round_180 : decode cX11_round 180 = .ok (.iaload, 1) := by decide +kernel
theorem dX11_round_181 : decode cX11_round 181 = .ok (.ifCond .ne 14, 3) := by decide +kernel
theorem dX11_round_184 : decode cX11_round 184 = .ok (.aload_n 0, 1) := by decide +kernel
theorem dX11_round_185 : decode cX11_round 185 = .ok (.getfield 149, 3) := by decide +kernel
theorem dX11_round_188 : decode cX11_round 188 = .ok (.iload_n 1, 1) := by decide +kernel
theorem dX11_round_189 : decode cX11_round 189 = .ok (.iload 4, 2) := by decide +kernel
theorem dX11_round_191 : decode cX11_round 191 = .ok (.iastore, 1) := by decide +kernel
theorem dX11_round_192 : decode cX11_round 192 = .ok (.iinc 1 1, 3) := by decide +kernel
theorem dX11_round_195 : decode cX11_round 195 = .ok (.iinc 3 1, 3) := by decide +kernel
theorem dX11_round_198 : decode cX11_round 198 = .ok (.goto (-67), 3) := by decide +kernel
theorem dX11_round_201 : decode cX11_round 201 = .ok (.iinc 2 1, 3) := by decide +kernel
theorem dX11_round_204 : decode cX11_round 204 = .ok (.goto (-80), 3) := by decide +kernel
theorem dX11_round_207 : decode cX11_round 207 = .ok (.iload_n 1, 1) := by decide +kernel
theorem dX11_round_208 : decode cX11_round 208 = .ok (.aload_n 0, 1) := by decide +kernel
theorem dX11_round_209 : decode cX11_round 209 = .ok (.getfield 282, 3) := by decide +kernel
theorem dX11_round_212 : decode cX11_round 212 = .ok (.if_icmp .ge 7, 3) := by decide +kernel
theorem dX11_round_215 : decode cX11_round 215 = .ok (.iconst 1, 1) := by decide +kernel
theorem dX11_round_216 : decode cX11_round 216 = .ok (.goto 4, 3) := by decide +kernel
theorem dX11_round_219 : decode cX11_round 219 = .ok (.iconst 0, 1) := by decide +kernel
theorem dX11_round_220 : decode cX11_round 220 = .ok (.ireturn, 1) := by decide +kernel
theorem dX11_badWith_0 : decode cX11_badWith 0 = .ok (.aload_n 0, 1) := by decide +kernel
theorem dX11_badWith_1 : decode cX11_badWith 1 = .ok (.iload_n 1, 1) := by decide +kernel
theorem dX11_badWith_2 : decode cX11_badWith 2 = .ok (.invokevirtual 336, 3) := by decide +kernel
theorem dX11_badWith_5 : decode cX11_badWith 5 = .ok (.ifCond .ne 7, 3) := by decide +kernel
theorem dX11_badWith_8 : decode cX11_badWith 8 = .ok (.ldc_w 354, 3) := by decide +kernel
theorem dX11_badWith_11 : decode cX11_badWith 11 = .ok (.ireturn, 1) := by decide +kernel
theorem dX11_badWith_12 : decode cX11_badWith 12 = .ok (.aload_n 0, 1) := by decide +kernel
theorem dX11_badWith_13 : decode cX11_badWith 13 = .ok (.invokevirtual 342, 3) := by decide +kernel
theorem dX11_badWith_16 : decode cX11_badWith 16 = .ok (.aload_n 0, 1) := by decide +kernel
theorem dX11_badWith_17 : decode cX11_badWith 17 = .ok (.invokevirtual 345, 3) := by decide +kernel
theorem dX11_badWith_20 : decode cX11_badWith 20 = .ok (.aload_n 0, 1) := by decide +kernel
theorem dX11_badWith_21 : decode cX11_badWith 21 = .ok (.invokevirtual 356, 3) := by decide +kernel
theorem dX11_badWith_24 : decode cX11_badWith 24 = .ok (.ifCond .ne 7, 3) := by decide +kernel
theorem dX11_badWith_27 : decode cX11_badWith 27 = .ok (.iconst 0, 1) := by decide +kernel
theorem dX11_badWith_28 : decode cX11_badWith 28 = .ok (.goto 4, 3) := by decide +kernel
theorem dX11_badWith_31 : decode cX11_badWith 31 = .ok (.iconst 1, 1) := by decide +kernel
theorem dX11_badWith_32 : decode cX11_badWith 32 = .ok (.ireturn, 1) := by decide +kernel
theorem dX11_heal_0 : decode cX11_heal 0 = .ok (.aload_n 0, 1) := by decide +kernel
theorem dX11_heal_1 : decode cX11_heal 1 = .ok (.iload_n 1, 1) := by decide +kernel
theorem dX11_heal_2 : decode cX11_heal 2 = .ok (.iload_n 2, 1) := by decide +kernel
theorem dX11_heal_3 : decode cX11_heal 3 = .ok (.invokevirtual 222, 3) := by decide +kernel
theorem dX11_heal_6 : decode cX11_heal 6 = .ok (.ifCond .ne 10, 3) := by decide +kernel
theorem dX11_heal_9 : decode cX11_heal 9 = .ok (.aload_n 0, 1) := by decide +kernel
theorem dX11_heal_10 : decode cX11_heal 10 = .ok (.ldc 159, 2) := by decide +kernel
theorem dX11_heal_12 : decode cX11_heal 12 = .ok (.invokevirtual 171, 3) := by decide +kernel
theorem dX11_heal_15 : decode cX11_heal 15 = .ok (.ireturn, 1) := by decide +kernel
theorem dX11_heal_16 : decode cX11_heal 16 = .ok (.bipush 7, 2) := by decide +kernel
theorem dX11_heal_18 : decode cX11_heal 18 = .ok (.iload_n 1, 1) := by decide +kernel
theorem dX11_heal_19 : decode cX11_heal 19 = .ok (.imul, 1) := by decide +kernel
theorem dX11_heal_20 : decode cX11_heal 20 = .ok (.iload_n 2, 1) := by decide +kernel
theorem dX11_heal_21 : decode cX11_heal 21 = .ok (.iadd, 1) := by decide +kernel
theorem dX11_heal_22 : decode cX11_heal 22 = .ok (.istore_n 3, 1) := by decide +kernel
theorem dX11_heal_23 : decode cX11_heal 23 = .ok (.aload_n 0, 1) := by decide +kernel
theorem dX11_heal_24 : decode cX11_heal 24 = .ok (.iload_n 3, 1) := by decide +kernel
theorem dX11_heal_25 : decode cX11_heal 25 = .ok (.invokevirtual 227, 3) := by decide +kernel
theorem dX11_heal_28 : decode cX11_heal 28 = .ok (.ifCond .ne 10, 3) := by decide +kernel
theorem dX11_heal_31 : decode cX11_heal 31 = .ok (.aload_n 0, 1) := by decide +kernel
theorem dX11_heal_32 : decode cX11_heal 32 = .ok (.ldc 226, 2) := by decide +kernel
theorem dX11_heal_34 : decode cX11_heal 34 = .ok (.invokevirtual 171, 3) := by decide +kernel
theorem dX11_heal_37 : decode cX11_heal 37 = .ok (.ireturn, 1) := by decide +kernel
theorem dX11_heal_38 : decode cX11_heal 38 = .ok (.aload_n 0, 1) := by decide +kernel
theorem dX11_heal_39 : decode cX11_heal 39 = .ok (.iload_n 3, 1) := by decide +kernel
theorem dX11_heal_40 : decode cX11_heal 40 = .ok (.iconst 0, 1) := by decide +kernel
theorem dX11_heal_41 : decode cX11_heal 41 = .ok (.invokevirtual 230, 3) := by decide +kernel
theorem dX11_heal_44 : decode cX11_heal 44 = .ok (.istore 4, 2) := by decide +kernel
theorem dX11_heal_46 : decode cX11_heal 46 = .ok (.iconst 0, 1) := by decide +kernel
theorem dX11_heal_47 : decode cX11_heal 47 = .ok (.istore 5, 2) := by decide +kernel
theorem dX11_heal_49 : decode cX11_heal 49 = .ok (.iconst 0, 1) := by decide +kernel
theorem dX11_heal_50 : decode cX11_heal 50 = .ok (.istore 6, 2) := by decide +kernel
theorem dX11_heal_52 : decode cX11_heal 52 = .ok (.iconst 0, 1) := by decide +kernel
theorem dX11_heal_53 : decode cX11_heal 53 = .ok (.istore 7, 2) := by decide +kernel
theorem dX11_heal_55 : decode cX11_heal 55 = .ok (.iload 7, 2) := by decide +kernel
theorem dX11_heal_57 : decode cX11_heal 57 = .ok (.iconst 4, 1) := by decide +kernel
theorem dX11_heal_58 : decode cX11_heal 58 = .ok (.if_icmp .ge 63, 3) := by decide +kernel
theorem dX11_heal_61 : decode cX11_heal 61 = .ok (.iload 6, 2) := by decide +kernel
theorem dX11_heal_63 : decode cX11_heal 63 = .ok (.ifCond .ne 58, 3) := by decide +kernel
theorem dX11_heal_66 : decode cX11_heal 66 = .ok (.aload_n 0, 1) := by decide +kernel
theorem dX11_heal_67 : decode cX11_heal 67 = .ok (.iload_n 3, 1) := by decide +kernel
theorem dX11_heal_68 : decode cX11_heal 68 = .ok (.iload 7, 2) := by decide +kernel
theorem dX11_heal_70 : decode cX11_heal 70 = .ok (.invokevirtual 230, 3) := by decide +kernel
theorem dX11_heal_73 : decode cX11_heal 73 = .ok (.istore 8, 2) := by decide +kernel
theorem dX11_heal_75 : decode cX11_heal 75 = .ok (.aload_n 0, 1) := by decide +kernel
theorem dX11_heal_76 : decode cX11_heal 76 = .ok (.iconst 0, 1) := by decide +kernel
theorem dX11_heal_77 : decode cX11_heal 77 = .ok (.invokevirtual 371, 3) := by decide +kernel
theorem dX11_heal_80 : decode cX11_heal 80 = .ok (.istore 9, 2) := by decide +kernel
theorem dX11_heal_82 : decode cX11_heal 82 = .ok (.iload 9, 2) := by decide +kernel
theorem dX11_heal_84 : decode cX11_heal 84 = .ok (.ldc_w 354, 3) := by decide +kernel
theorem dX11_heal_87 : decode cX11_heal 87 = .ok (.if_icmp .ne 7, 3) := by decide +kernel
theorem dX11_heal_90 : decode cX11_heal 90 = .ok (.iconst 1, 1) := by decide +kernel
theorem dX11_heal_91 : decode cX11_heal 91 = .ok (.goto 4, 3) := by decide +kernel
theorem dX11_heal_94 : decode cX11_heal 94 = .ok (.iconst 0, 1) := by decide +kernel
theorem dX11_heal_95 : decode cX11_heal 95 = .ok (.istore 6, 2) := by decide +kernel
theorem dX11_heal_97 : decode cX11_heal 97 = .ok (.iload 5, 2) := by decide +kernel
theorem dX11_heal_99 : decode cX11_heal 99 = .ok (.iload 9, 2) := by decide +kernel
theorem dX11_heal_101 : decode cX11_heal 101 = .ok (.ifCond .ne 10, 3) := by decide +kernel
theorem dX11_heal_104 : decode cX11_heal 104 = .ok (.iconst 1, 1) := by decide +kernel
theorem dX11_heal_105 : decode cX11_heal 105 = .ok (.iload 7, 2) := by decide +kernel
theorem dX11_heal_107 : decode cX11_heal 107 = .ok (.ishl, 1) := by decide +kernel
theorem dX11_heal_108 : decode cX11_heal 108 = .ok (.goto 4, 3) := by decide +kernel
theorem dX11_heal_111 : decode cX11_heal 111 = .ok (.iconst 0, 1) := by decide +kernel
theorem dX11_heal_112 : decode cX11_heal 112 = .ok (.ior, 1) := by decide +kernel
theorem dX11_heal_113 : decode cX11_heal 113 = .ok (.istore 5, 2) := by decide +kernel
theorem dX11_heal_115 : decode cX11_heal 115 = .ok (.iinc 7 1, 3) := by decide +kernel
theorem dX11_heal_118 : decode cX11_heal 118 = .ok (.goto (-63), 3) := by decide +kernel
theorem dX11_heal_121 : decode cX11_heal 121 = .ok (.aload_n 0, 1) := by decide +kernel
theorem dX11_heal_122 : decode cX11_heal 122 = .ok (.iload_n 3, 1) := by decide +kernel
theorem dX11_heal_123 : decode cX11_heal 123 = .ok (.iload 4, 2) := by decide +kernel
theorem dX11_heal_125 : decode cX11_heal 125 = .ok (.invokevirtual 230, 3) := by decide +kernel
theorem dX11_heal_128 : decode cX11_heal 128 = .ok (.istore 7, 2) := by decide +kernel
theorem dX11_heal_130 : decode cX11_heal 130 = .ok (.iload 6, 2) := by decide +kernel
theorem dX11_heal_132 : decode cX11_heal 132 = .ok (.ifCond .eq 13, 3) := by decide +kernel
theorem dX11_heal_135 : decode cX11_heal 135 = .ok (.aload_n 0, 1) := by decide +kernel
theorem dX11_heal_136 : decode cX11_heal 136 = .ok (.ldc_w 354, 3) := by decide +kernel
theorem dX11_heal_139 : decode cX11_heal 139 = .ok (.invokevirtual 171, 3) := by decide +kernel
theorem dX11_heal_142 : decode cX11_heal 142 = .ok (.goto 5, 3) := by decide +kernel
theorem dX11_heal_145 : decode cX11_heal 145 = .ok (.iload 5, 2) := by decide +kernel
theorem dX11_heal_147 : decode cX11_heal 147 = .ok (.ireturn, 1) := by decide +kernel
theorem dX11_ones_0 : decode cX11_ones 0 = .ok (.iconst 0, 1) := by decide +kernel
theorem dX11_ones_1 : decode cX11_ones 1 = .ok (.istore_n 1, 1) := by decide +kernel
theorem dX11_ones_2 : decode cX11_ones 2 = .ok (.iconst 0, 1) := by decide +kernel
theorem dX11_ones_3 : decode cX11_ones 3 = .ok (.istore_n 2, 1) := by decide +kernel
theorem dX11_ones_4 : decode cX11_ones 4 = .ok (.iload_n 2, 1) := by decide +kernel
theorem dX11_ones_5 : decode cX11_ones 5 = .ok (.bipush 6, 2) := by decide +kernel
theorem dX11_ones_7 : decode cX11_ones 7 = .ok (.if_icmp .ge 17, 3) := by decide +kernel
theorem dX11_ones_10 : decode cX11_ones 10 = .ok (.iload_n 1, 1) := by decide +kernel
theorem dX11_ones_11 : decode cX11_ones 11 = .ok (.iload_n 0, 1) := by decide +kernel
theorem dX11_ones_12 : decode cX11_ones 12 = .ok (.iload_n 2, 1) := by decide +kernel
theorem dX11_ones_13 : decode cX11_ones 13 = .ok (.ishr, 1) := by decide +kernel
theorem dX11_ones_14 : decode cX11_ones 14 = .ok (.iconst 1, 1) := by decide +kernel
theorem dX11_ones_15 : decode cX11_ones 15 = .ok (.iand, 1) := by decide +kernel
theorem dX11_ones_16 : decode cX11_ones 16 = .ok (.iadd, 1) := by decide +kernel
theorem dX11_ones_17 : decode cX11_ones 17 = .ok (.istore_n 1, 1) := by decide +kernel
theorem dX11_ones_18 : decode cX11_ones 18 = .ok (.iinc 2 1, 3) := by decide +kernel
theorem dX11_ones_21 : decode cX11_ones 21 = .ok (.goto (-17), 3) := by decide +kernel
theorem dX11_ones_24 : decode cX11_ones 24 = .ok (.iload_n 1, 1) := by decide +kernel
theorem dX11_ones_25 : decode cX11_ones 25 = .ok (.ireturn, 1) := by decide +kernel
theorem dX11_fences_0 : decode cX11_fences 0 = .ok (.aload_n 0, 1) := by decide +kernel
theorem dX11_fences_1 : decode cX11_fences 1 = .ok (.invokevirtual 374, 3) := by decide +kernel
theorem dX11_fences_4 : decode cX11_fences 4 = .ok (.aload_n 0, 1) := by decide +kernel
theorem dX11_fences_5 : decode cX11_fences 5 = .ok (.iconst 0, 1) := by decide +kernel
theorem dX11_fences_6 : decode cX11_fences 6 = .ok (.putfield 218, 3) := by decide +kernel
theorem dX11_fences_9 : decode cX11_fences 9 = .ok (.iconst 0, 1) := by decide +kernel
theorem dX11_fences_10 : decode cX11_fences 10 = .ok (.istore_n 1, 1) := by decide +kernel
theorem dX11_fences_11 : decode cX11_fences 11 = .ok (.iload_n 1, 1) := by decide +kernel
theorem dX11_fences_12 : decode cX11_fences 12 = .ok (.aload_n 0, 1) := by decide +kernel
theorem dX11_fences_13 : decode cX11_fences 13 = .ok (.getfield 237, 3) := by decide +kernel
theorem dX11_fences_16 : decode cX11_fences 16 = .ok (.if_icmp .gt 68, 3) := by decide +kernel
theorem dX11_fences_19 : decode cX11_fences 19 = .ok (.iconst 0, 1) := by decide +kernel
theorem dX11_fences_20 : decode cX11_fences 20 = .ok (.istore_n 2, 1) := by decide +kernel
theorem dX11_fences_21 : decode cX11_fences 21 = .ok (.iload_n 2, 1) := by decide +kernel
theorem dX11_fences_22 : decode cX11_fences 22 = .ok (.iconst 1, 1) := by decide +kernel
theorem dX11_fences_23 : decode cX11_fences 23 = .ok (.aload_n 0, 1) := by decide +kernel
theorem dX11_fences_24 : decode cX11_fences 24 = .ok (.getfield 237, 3) := by decide +kernel
theorem dX11_fences_27 : decode cX11_fences 27 = .ok (.ishl, 1) := by decide +kernel
theorem dX11_fences_28 : decode cX11_fences 28 = .ok (.if_icmp .ge 50, 3) := by decide +kernel
theorem dX11_fences_31 : decode cX11_fences 31 = .ok (.iload_n 2, 1) := by decide +kernel
theorem dX11_fences_32 : decode cX11_fences 32 = .ok (.invokestatic 377, 3) := by decide +kernel
theorem dX11_fences_35 : decode cX11_fences 35 = .ok (.iload_n 1, 1) := by decide +kernel
theorem dX11_fences_36 : decode cX11_fences 36 = .ok (.if_icmp .eq 6, 3) := by decide +kernel
theorem dX11_fences_39 : decode cX11_fences 39 = .ok (.goto 33, 3) := by decide +kernel
theorem dX11_fences_42 : decode cX11_fences 42 = .ok (.aload_n 0, 1) := by decide +kernel
theorem dX11_fences_43 : decode cX11_fences 43 = .ok (.iload_n 2, 1) := by decide +kernel
theorem dX11_fences_44 : decode cX11_fences 44 = .ok (.invokevirtual 371, 3) := by decide +kernel
theorem dX11_fences_47 : decode cX11_fences 47 = .ok (.istore_n 3, 1) := by decide +kernel
theorem dX11_fences_48 : decode cX11_fences 48 = .ok (.iload_n 3, 1) := by decide +kernel
theorem dX11_fences_49 : decode cX11_fences 49 = .ok (.iconst 1, 1) := by decide +kernel
theorem dX11_fences_50 : decode cX11_fences 50 = .ok (.if_icmp .eq 22, 3) := by decide +kernel
theorem dX11_fences_53 : decode cX11_fences 53 = .ok (.iload_n 3, 1) := by decide +kernel
theorem dX11_fences_54 : decode cX11_fences 54 = .ok (.ldc_w 354, 3) := by decide +kernel
theorem dX11_fences_57 : decode cX11_fences 57 = .ok (.if_icmp .ne 13, 3) := by decide +kernel
theorem dX11_fences_60 : decode cX11_fences 60 = .ok (.aload_n 0, 1) := by decide +kernel
theorem dX11_fences_61 : decode cX11_fences 61 = .ok (.ldc_w 354, 3) := by decide +kernel
theorem dX11_fences_64 : decode cX11_fences 64 = .ok (.invokevirtual 171, 3) := by decide +kernel
theorem dX11_fences_67 : decode cX11_fences 67 = .ok (.goto 4, 3) := by decide +kernel
theorem dX11_fences_70 : decode cX11_fences 70 = .ok (.iload_n 2, 1) := by decide +kernel
theorem dX11_fences_71 : decode cX11_fences 71 = .ok (.ireturn, 1) := by decide +kernel
theorem dX11_fences_72 : decode cX11_fences 72 = .ok (.iinc 2 1, 3) := by decide +kernel
theorem dX11_fences_75 : decode cX11_fences 75 = .ok (.goto (-54), 3) := by decide +kernel
theorem dX11_fences_78 : decode cX11_fences 78 = .ok (.iinc 1 1, 3) := by decide +kernel
theorem dX11_fences_81 : decode cX11_fences 81 = .ok (.goto (-70), 3) := by decide +kernel
theorem dX11_fences_84 : decode cX11_fences 84 = .ok (.aload_n 0, 1) := by decide +kernel
theorem dX11_fences_85 : decode cX11_fences 85 = .ok (.ldc_w 355, 3) := by decide +kernel
theorem dX11_fences_88 : decode cX11_fences 88 = .ok (.invokevirtual 171, 3) := by decide +kernel
theorem dX11_fences_91 : decode cX11_fences 91 = .ok (.ireturn, 1) := by decide +kernel
theorem dX11_isSheet_0 : decode cX11_isSheet 0 = .ok (.iload_n 0, 1) := by decide +kernel
theorem dX11_isSheet_1 : decode cX11_isSheet 1 = .ok (.iconst 0, 1) := by decide +kernel
theorem dX11_isSheet_2 : decode cX11_isSheet 2 = .ok (.iconst 3, 1) := by decide +kernel
theorem dX11_isSheet_3 : decode cX11_isSheet 3 = .ok (.invokestatic 163, 3) := by decide +kernel
theorem dX11_isSheet_6 : decode cX11_isSheet 6 = .ok (.ireturn, 1) := by decide +kernel
theorem dX11_plays_0 : decode cX11_plays 0 = .ok (.aload_n 0, 1) := by decide +kernel
theorem dX11_plays_1 : decode cX11_plays 1 = .ok (.iconst 0, 1) := by decide +kernel
theorem dX11_plays_2 : decode cX11_plays 2 = .ok (.invokevirtual 285, 3) := by decide +kernel
theorem dX11_plays_5 : decode cX11_plays 5 = .ok (.aload_n 0, 1) := by decide +kernel
theorem dX11_plays_6 : decode cX11_plays 6 = .ok (.invokevirtual 288, 3) := by decide +kernel
theorem dX11_plays_9 : decode cX11_plays 9 = .ok (.aload_n 0, 1) := by decide +kernel
theorem dX11_plays_10 : decode cX11_plays 10 = .ok (.iconst 0, 1) := by decide +kernel
theorem dX11_plays_11 : decode cX11_plays 11 = .ok (.putfield 380, 3) := by decide +kernel
theorem dX11_plays_14 : decode cX11_plays 14 = .ok (.iconst 0, 1) := by decide +kernel
theorem dX11_plays_15 : decode cX11_plays 15 = .ok (.istore_n 2, 1) := by decide +kernel
theorem dX11_plays_16 : decode cX11_plays 16 = .ok (.iload_n 2, 1) := by decide +kernel
theorem dX11_plays_17 : decode cX11_plays 17 = .ok (.iconst 3, 1) := by decide +kernel
theorem dX11_plays_18 : decode cX11_plays 18 = .ok (.if_icmp .ge 16, 3) := by decide +kernel
theorem dX11_plays_21 : decode cX11_plays 21 = .ok (.aload_n 0, 1) := by decide +kernel
theorem dX11_plays_22 : decode cX11_plays 22 = .ok (.getfield 152, 3) := by decide +kernel
theorem dX11_plays_25 : decode cX11_plays 25 = .ok (.iload_n 2, 1) := by decide +kernel
theorem dX11_plays_26 : decode cX11_plays 26 = .ok (.iconst (-1), 1) := by decide +kernel
theorem dX11_plays_27 : decode cX11_plays 27 = .ok (.iastore, 1) := by decide +kernel
theorem dX11_plays_28 : decode cX11_plays 28 = .ok (.iinc 2 1, 3) := by decide +kernel
theorem dX11_plays_31 : decode cX11_plays 31 = .ok (.goto (-15), 3) := by decide +kernel
theorem dX11_plays_34 : decode cX11_plays 34 = .ok (.iconst 0, 1) := by decide +kernel
theorem dX11_plays_35 : decode cX11_plays 35 = .ok (.istore_n 2, 1) := by decide +kernel
theorem dX11_plays_36 : decode cX11_plays 36 = .ok (.iload_n 2, 1) := by decide +kernel
theorem dX11_plays_37 : decode cX11_plays 37 = .ok (.aload_n 0, 1) := by decide +kernel
theorem dX11_plays_38 : decode cX11_plays 38 = .ok (.getfield 49, 3) := by decide +kernel
theorem dX11_plays_41 : decode cX11_plays 41 = .ok (.iload_n 1, 1) := by decide +kernel
theorem dX11_plays_42 : decode cX11_plays 42 = .ok (.iaload, 1) := by decide +kernel
theorem dX11_plays_43 : decode cX11_plays 43 = .ok (.if_icmp .ge 135, 3) := by decide +kernel
theorem dX11_plays_46 : decode cX11_plays 46 = .ok (.aload_n 0, 1) := by decide +kernel
theorem dX11_plays_47 : decode cX11_plays 47 = .ok (.getfield 52, 3) := by decide +kernel
theorem dX11_plays_50 : decode cX11_plays 50 = .ok (.bipush 40, 2) := by decide +kernel
theorem dX11_plays_52 : decode cX11_plays 52 = .ok (.iload_n 1, 1) := by decide +kernel
theorem dX11_plays_53 : decode cX11_plays 53 = .ok (.imul, 1) := by decide +kernel
theorem dX11_plays_54 : decode cX11_plays 54 = .ok (.iload_n 2, 1) := by decide +kernel
theorem dX11_plays_55 : decode cX11_plays 55 = .ok (.iadd, 1) := by decide +kernel
theorem dX11_plays_56 : decode cX11_plays 56 = .ok (.laload, 1) := by decide +kernel
theorem dX11_plays_57 : decode cX11_plays 57 = .ok (.lstore_n 3, 1) := by decide +kernel
theorem dX11_plays_58 : decode cX11_plays 58 = .ok (.lload_n 3, 1) := by decide +kernel
theorem dX11_plays_59 : decode cX11_plays 59 = .ok (.lconst 0, 1) := by decide +kernel
theorem dX11_plays_60 : decode cX11_plays 60 = .ok (.lcmp, 1) := by decide +kernel
theorem dX11_plays_61 : decode cX11_plays 61 = .ok (.ifCond .lt 24, 3) := by decide +kernel
theorem dX11_plays_64 : decode cX11_plays 64 = .ok (.lload_n 3, 1) := by decide +kernel
theorem dX11_plays_65 : decode cX11_plays 65 = .ok (.ldc2_w 383, 3) := by decide +kernel
theorem dX11_plays_68 : decode cX11_plays 68 = .ok (.lcmp, 1) := by decide +kernel
theorem dX11_plays_69 : decode cX11_plays 69 = .ok (.ifCond .gt 16, 3) := by decide +kernel
theorem dX11_plays_72 : decode cX11_plays 72 = .ok (.aload_n 0, 1) := by decide +kernel
theorem dX11_plays_73 : decode cX11_plays 73 = .ok (.lload_n 3, 1) := by decide +kernel
theorem dX11_plays_74 : decode cX11_plays 74 = .ok (.l2i, 1) := by decide +kernel
theorem dX11_plays_75 : decode cX11_plays 75 = .ok (.aload_n 0, 1) := by decide +kernel
theorem dX11_plays_76 : decode cX11_plays 76 = .ok (.getfield 155, 3) := by decide +kernel
theorem dX11_plays_79 : decode cX11_plays 79 = .ok (.invokevirtual 314, 3) := by decide +kernel
theorem dX11_plays_82 : decode cX11_plays 82 = .ok (.ifCond .ne 5, 3) := by decide +kernel
theorem dX11_plays_85 : decode cX11_plays 85 = .ok (.iload_n 2, 1) := by decide +kernel
theorem dX11_plays_86 : decode cX11_plays 86 = .ok (.ireturn, 1) := by decide +kernel
theorem dX11_plays_87 : decode cX11_plays 87 = .ok (.aload_n 0, 1) := by decide +kernel
theorem dX11_plays_88 : decode cX11_plays 88 = .ok (.lload_n 3, 1) := by decide +kernel
theorem dX11_plays_89 : decode cX11_plays 89 = .ok (.l2i, 1) := by decide +kernel
theorem dX11_plays_90 : decode cX11_plays 90 = .ok (.aload_n 0, 1) := by decide +kernel
theorem dX11_plays_91 : decode cX11_plays 91 = .ok (.getfield 155, 3) := by decide +kernel
theorem dX11_plays_94 : decode cX11_plays 94 = .ok (.invokevirtual 317, 3) := by decide +kernel
theorem dX11_plays_97 : decode cX11_plays 97 = .ok (.aload_n 0, 1) := by decide +kernel
theorem dX11_plays_98 : decode cX11_plays 98 = .ok (.dup, 1) := by decide +kernel
theorem dX11_plays_99 : decode cX11_plays 99 = .ok (.getfield 380, 3) := by decide +kernel
theorem dX11_plays_102 : decode cX11_plays 102 = .ok (.iconst 1, 1) := by decide +kernel
theorem dX11_plays_103 : decode cX11_plays 103 = .ok (.iadd, 1) := by decide +kernel
theorem dX11_plays_104 : decode cX11_plays 104 = .ok (.putfield 380, 3) := by decide +kernel
theorem dX11_plays_107 : decode cX11_plays 107 = .ok (.aload_n 0, 1) := by decide +kernel
theorem dX11_plays_108 : decode cX11_plays 108 = .ok (.getfield 264, 3) := by decide +kernel
theorem dX11_plays_111 : decode cX11_plays 111 = .ok (.ifCond .lt 61, 3) := by decide +kernel
theorem dX11_plays_114 : decode cX11_plays 114 = .ok (.lload_n 3, 1) := by decide +kernel
theorem dX11_plays_115 : decode cX11_plays 115 = .ok (.l2i, 1) := by decide +kernel
theorem dX11_plays_116 : decode cX11_plays 116 = .ok (.bipush 10, 2) := by decide +kernel
theorem dX11_plays_118 : decode cX11_plays 118 = .ok (.irem, 1) := by decide +kernel
theorem dX11_plays_119 : decode cX11_plays 119 = .ok (.istore 5, 2) := by decide +kernel
theorem dX11_plays_121 : decode cX11_plays 121 = .ok (.aload_n 0, 1) := by decide +kernel
theorem dX11_plays_122 : decode cX11_plays 122 = .ok (.dup, 1) := by decide +kernel
theorem dX11_plays_123 : decode cX11_plays 123 = .ok (.getfield 380, 3) := by decide +kernel
theorem dX11_plays_126 : decode cX11_plays 126 = .ok (.aload_n 0, 1) := by decide +kernel
theorem dX11_plays_127 : decode cX11_plays 127 = .ok (.getfield 152, 3) := by decide +kernel
theorem dX11_plays_130 : decode cX11_plays 130 = .ok (.aload_n 0, 1) := by decide +kernel
theorem dX11_plays_131 : decode cX11_plays 131 = .ok (.getfield 264, 3) := by decide +kernel
theorem dX11_plays_134 : decode cX11_plays 134 = .ok (.iaload, 1) := by decide +kernel
theorem dX11_plays_135 : decode cX11_plays 135 = .ok (.ifCond .lt 21, 3) := by decide +kernel
theorem dX11_plays_138 : decode cX11_plays 138 = .ok (.aload_n 0, 1) := by decide +kernel
theorem dX11_plays_139 : decode cX11_plays 139 = .ok (.getfield 152, 3) := by decide +kernel
theorem dX11_plays_142 : decode cX11_plays 142 = .ok (.aload_n 0, 1) := by decide +kernel
theorem dX11_plays_143 : decode cX11_plays 143 = .ok (.getfield 264, 3) := by decide +kernel
theorem dX11_plays_146 : decode cX11_plays 146 = .ok (.iaload, 1) := by decide +kernel
theorem dX11_plays_147 : decode cX11_plays 147 = .ok (.iload 5, 2) := by decide +kernel
theorem dX11_plays_149 : decode cX11_plays 149 = .ok (.if_icmp .eq 7, 3) := by decide +kernel
theorem dX11_plays_152 : decode cX11_plays 152 = .ok (.iconst 4, 1) := by decide +kernel
theorem dX11_plays_153 : decode cX11_plays 153 = .ok (.goto 4, 3) := by decide +kernel
theorem dX11_plays_156 : decode cX11_plays 156 = .ok (.iconst 0, 1) := by decide +kernel
theorem dX11_plays_157 : decode cX11_plays 157 = .ok (.iadd, 1) := by decide +kernel
theorem dX11_plays_158 : decode cX11_plays 158 = .ok (.putfield 380, 3) := by decide +kernel
theorem dX11_plays_161 : decode cX11_plays 161 = .ok (.aload_n 0, 1) := by decide +kernel
theorem dX11_plays_162 : decode cX11_plays 162 = .ok (.getfield 152, 3) := by decide +kernel
theorem dX11_plays_165 : decode cX11_plays 165 = .ok (.aload_n 0, 1) := by decide +kernel
theorem dX11_plays_166 : decode cX11_plays 166 = .ok (.getfield 264, 3) := by decide +kernel
theorem dX11_plays_169 : decode cX11_plays 169 = .ok (.iload 5, 2) := by decide +kernel
theorem dX11_plays_171 : decode cX11_plays 171 = .ok (.iastore, 1) := by decide +kernel
theorem dX11_plays_172 : decode cX11_plays 172 = .ok (.iinc 2 1, 3) := by decide +kernel
theorem dX11_plays_175 : decode cX11_plays 175 = .ok (.goto (-139), 3) := by decide +kernel
theorem dX11_plays_178 : decode cX11_plays 178 = .ok (.aload_n 0, 1) := by decide +kernel
theorem dX11_plays_179 : decode cX11_plays 179 = .ok (.getfield 49, 3) := by decide +kernel
theorem dX11_plays_182 : decode cX11_plays 182 = .ok (.iload_n 1, 1) := by decide +kernel
theorem dX11_plays_183 : decode cX11_plays 183 = .ok (.iaload, 1) := by decide +kernel
theorem dX11_plays_184 : decode cX11_plays 184 = .ok (.ireturn, 1) := by decide +kernel
theorem dX11_playedWhole_0 : decode cX11_playedWhole 0 = .ok (.iload_n 1, 1) := by decide +kernel
theorem dX11_playedWhole_1 : decode cX11_playedWhole 1 = .ok (.invokestatic 385, 3) := by decide +kernel
theorem dX11_playedWhole_4 : decode cX11_playedWhole 4 = .ok (.ifCond .ne 6, 3) := by decide +kernel
theorem dX11_playedWhole_7 : decode cX11_playedWhole 7 = .ok (.ldc 159, 2) := by decide +kernel
theorem dX11_playedWhole_9 : decode cX11_playedWhole 9 = .ok (.ireturn, 1) := by decide +kernel
theorem dX11_playedWhole_10 : decode cX11_playedWhole 10 = .ok (.aload_n 0, 1) := by decide +kernel
theorem dX11_playedWhole_11 : decode cX11_playedWhole 11 = .ok (.getfield 46, 3) := by decide +kernel
theorem dX11_playedWhole_14 : decode cX11_playedWhole 14 = .ok (.iload_n 1, 1) := by decide +kernel
theorem dX11_playedWhole_15 : decode cX11_playedWhole 15 = .ok (.iaload, 1) := by decide +kernel
theorem dX11_playedWhole_16 : decode cX11_playedWhole 16 = .ok (.ifCond .ne 7, 3) := by decide +kernel
theorem dX11_playedWhole_19 : decode cX11_playedWhole 19 = .ok (.ldc_w 388, 3) := by decide +kernel
theorem dX11_playedWhole_22 : decode cX11_playedWhole 22 = .ok (.ireturn, 1) := by decide +kernel
theorem dX11_playedWhole_23 : decode cX11_playedWhole 23 = .ok (.aload_n 0, 1) := by decide +kernel
theorem dX11_playedWhole_24 : decode cX11_playedWhole 24 = .ok (.iload_n 1, 1) := by decide +kernel
theorem dX11_playedWhole_25 : decode cX11_playedWhole 25 = .ok (.invokevirtual 389, 3) := by decide +kernel
theorem dX11_playedWhole_28 : decode cX11_playedWhole 28 = .ok (.aload_n 0, 1) := by decide +kernel
theorem dX11_playedWhole_29 : decode cX11_playedWhole 29 = .ok (.getfield 49, 3) := by decide +kernel
theorem dX11_playedWhole_32 : decode cX11_playedWhole 32 = .ok (.iload_n 1, 1) := by decide +kernel
theorem dX11_playedWhole_33 : decode cX11_playedWhole 33 = .ok (.iaload, 1) := by decide +kernel
theorem dX11_playedWhole_34 : decode cX11_playedWhole 34 = .ok (.if_icmp .ge 9, 3) := by decide +kernel
theorem dX11_playedWhole_37 : decode cX11_playedWhole 37 = .ok (.ldc_w 392, 3) := by decide +kernel
theorem dX11_playedWhole_40 : decode cX11_playedWhole 40 = .ok (.goto 4, 3) := by decide +kernel
theorem dX11_playedWhole_43 : decode cX11_playedWhole 43 = .ok (.iconst 0, 1) := by decide +kernel
theorem dX11_playedWhole_44 : decode cX11_playedWhole 44 = .ok (.ireturn, 1) := by decide +kernel
theorem dX11_cost_0 : decode cX11_cost 0 = .ok (.aload_n 0, 1) := by decide +kernel
theorem dX11_cost_1 : decode cX11_cost 1 = .ok (.iload_n 1, 1) := by decide +kernel
theorem dX11_cost_2 : decode cX11_cost 2 = .ok (.invokevirtual 393, 3) := by decide +kernel
theorem dX11_cost_5 : decode cX11_cost 5 = .ok (.istore_n 2, 1) := by decide +kernel
theorem dX11_cost_6 : decode cX11_cost 6 = .ok (.iload_n 2, 1) := by decide +kernel
theorem dX11_cost_7 : decode cX11_cost 7 = .ok (.ifCond .eq 11, 3) := by decide +kernel
theorem dX11_cost_10 : decode cX11_cost 10 = .ok (.aload_n 0, 1) := by decide +kernel
theorem dX11_cost_11 : decode cX11_cost 11 = .ok (.iload_n 2, 1) := by decide +kernel
theorem dX11_cost_12 : decode cX11_cost 12 = .ok (.invokevirtual 171, 3) := by decide +kernel
theorem dX11_cost_15 : decode cX11_cost 15 = .ok (.goto 7, 3) := by decide +kernel
theorem dX11_cost_18 : decode cX11_cost 18 = .ok (.aload_n 0, 1) := by decide +kernel
theorem dX11_cost_19 : decode cX11_cost 19 = .ok (.getfield 380, 3) := by decide +kernel
theorem dX11_cost_22 : decode cX11_cost 22 = .ok (.ireturn, 1) := by decide +kernel
theorem dX11_played_0 : decode cX11_played 0 = .ok (.iload_n 1, 1) := by decide +kernel
theorem dX11_played_1 : decode cX11_played 1 = .ok (.invokestatic 385, 3) := by decide +kernel
theorem dX11_played_4 : decode cX11_played 4 = .ok (.ifCond .ne 10, 3) := by decide +kernel
theorem dX11_played_7 : decode cX11_played 7 = .ok (.aload_n 0, 1) := by decide +kernel
theorem dX11_played_8 : decode cX11_played 8 = .ok (.ldc 159, 2) := by decide +kernel
theorem dX11_played_10 : decode cX11_played 10 = .ok (.invokevirtual 171, 3) := by decide +kernel
theorem dX11_played_13 : decode cX11_played 13 = .ok (.ireturn, 1) := by decide +kernel
theorem dX11_played_14 : decode cX11_played 14 = .ok (.aload_n 0, 1) := by decide +kernel
theorem dX11_played_15 : decode cX11_played 15 = .ok (.getfield 46, 3) := by decide +kernel
theorem dX11_played_18 : decode cX11_played 18 = .ok (.iload_n 1, 1) := by decide +kernel
theorem dX11_played_19 : decode cX11_played 19 = .ok (.iaload, 1) := by decide +kernel
theorem dX11_played_20 : decode cX11_played 20 = .ok (.ifCond .ne 13, 3) := by decide +kernel
theorem dX11_played_23 : decode cX11_played 23 = .ok (.aload_n 0, 1) := by decide +kernel
theorem dX11_played_24 : decode cX11_played 24 = .ok (.ldc_w 388, 3) := by decide +kernel
theorem dX11_played_27 : decode cX11_played 27 = .ok (.invokevirtual 171, 3) := by decide +kernel
theorem dX11_played_30 : decode cX11_played 30 = .ok (.goto 8, 3) := by decide +kernel
theorem dX11_played_33 : decode cX11_played 33 = .ok (.aload_n 0, 1) := by decide +kernel
theorem dX11_played_34 : decode cX11_played 34 = .ok (.iload_n 1, 1) := by decide +kernel
theorem dX11_played_35 : decode cX11_played 35 = .ok (.invokevirtual 389, 3) := by decide +kernel
theorem dX11_played_38 : decode cX11_played 38 = .ok (.ireturn, 1) := by decide +kernel
theorem dX11_judge_0 : decode cX11_judge 0 = .ok (.aload_n 0, 1) := by decide +kernel
theorem dX11_judge_1 : decode cX11_judge 1 = .ok (.iload_n 1, 1) := by decide +kernel
theorem dX11_judge_2 : decode cX11_judge 2 = .ok (.invokevirtual 393, 3) := by decide +kernel
theorem dX11_judge_5 : decode cX11_judge 5 = .ok (.istore_n 2, 1) := by decide +kernel
theorem dX11_judge_6 : decode cX11_judge 6 = .ok (.iload_n 2, 1) := by decide +kernel
theorem dX11_judge_7 : decode cX11_judge 7 = .ok (.ifCond .eq 9, 3) := by decide +kernel
theorem dX11_judge_10 : decode cX11_judge 10 = .ok (.aload_n 0, 1) := by decide +kernel
theorem dX11_judge_11 : decode cX11_judge 11 = .ok (.iload_n 2, 1) := by decide +kernel
theorem dX11_judge_12 : decode cX11_judge 12 = .ok (.invokevirtual 171, 3) := by decide +kernel
theorem dX11_judge_15 : decode cX11_judge 15 = .ok (.ireturn, 1) := by decide +kernel
theorem dX11_judge_16 : decode cX11_judge 16 = .ok (.aload_n 0, 1) := by decide +kernel
theorem dX11_judge_17 : decode cX11_judge 17 = .ok (.invokevirtual 303, 3) := by decide +kernel
theorem dX11_judge_20 : decode cX11_judge 20 = .ok (.ifCond .ne 5, 3) := by decide +kernel
theorem dX11_judge_23 : decode cX11_judge 23 = .ok (.iconst 2, 1) := by decide +kernel
theorem dX11_judge_24 : decode cX11_judge 24 = .ok (.ireturn, 1) := by decide +kernel
theorem dX11_judge_25 : decode cX11_judge 25 = .ok (.aload_n 0, 1) := by decide +kernel
theorem dX11_judge_26 : decode cX11_judge 26 = .ok (.invokevirtual 307, 3) := by decide +kernel
theorem dX11_judge_29 : decode cX11_judge 29 = .ok (.istore_n 3, 1) := by decide +kernel
theorem dX11_judge_30 : decode cX11_judge 30 = .ok (.aload_n 0, 1) := by decide +kernel
theorem dX11_judge_31 : decode cX11_judge 31 = .ok (.invokevirtual 345, 3) := by decide +kernel
theorem dX11_judge_34 : decode cX11_judge 34 = .ok (.aload_n 0, 1) := by decide +kernel
theorem dX11_judge_35 : decode cX11_judge 35 = .ok (.iload_n 3, 1) := by decide +kernel
theorem dX11_judge_36 : decode cX11_judge 36 = .ok (.invokevirtual 348, 3) := by decide +kernel
theorem dX11_judge_39 : decode cX11_judge 39 = .ok (.ifCond .eq 7, 3) := by decide +kernel
theorem dX11_judge_42 : decode cX11_judge 42 = .ok (.iconst 0, 1) := by decide +kernel
theorem dX11_judge_43 : decode cX11_judge 43 = .ok (.goto 4, 3) := by decide +kernel
theorem dX11_judge_46 : decode cX11_judge 46 = .ok (.iconst 1, 1) := by decide +kernel
theorem dX11_judge_47 : decode cX11_judge 47 = .ok (.ireturn, 1) := by decide +kernel
theorem dX11_moves_0 : decode cX11_moves 0 = .ok (.aload_n 0, 1) := by decide +kernel
theorem dX11_moves_1 : decode cX11_moves 1 = .ok (.iload_n 1, 1) := by decide +kernel
theorem dX11_moves_2 : decode cX11_moves 2 = .ok (.invokevirtual 393, 3) := by decide +kernel
theorem dX11_moves_5 : decode cX11_moves 5 = .ok (.istore_n 2, 1) := by decide +kernel
theorem dX11_moves_6 : decode cX11_moves 6 = .ok (.iload_n 2, 1) := by decide +kernel
theorem dX11_moves_7 : decode cX11_moves 7 = .ok (.ifCond .eq 9, 3) := by decide +kernel
theorem dX11_moves_10 : decode cX11_moves 10 = .ok (.aload_n 0, 1) := by decide +kernel
theorem dX11_moves_11 : decode cX11_moves 11 = .ok (.iload_n 2, 1) := by decide +kernel
theorem dX11_moves_12 : decode cX11_moves 12 = .ok (.invokevirtual 171, 3) := by decide +kernel
theorem dX11_moves_15 : decode cX11_moves 15 = .ok (.ireturn, 1) := by decide +kernel
theorem dX11_moves_16 : decode cX11_moves 16 = .ok (.iconst 0, 1) := by decide +kernel
theorem dX11_moves_17 : decode cX11_moves 17 = .ok (.istore_n 3, 1) := by decide +kernel
theorem dX11_moves_18 : decode cX11_moves 18 = .ok (.iconst 0, 1) := by decide +kernel
theorem dX11_moves_19 : decode cX11_moves 19 = .ok (.istore 4, 2) := by decide +kernel
theorem dX11_moves_21 : decode cX11_moves 21 = .ok (.iload 4, 2) := by decide +kernel
theorem dX11_moves_23 : decode cX11_moves 23 = .ok (.bipush 6, 2) := by decide +kernel
theorem dX11_moves_25 : decode cX11_moves 25 = .ok (.if_icmp .ge 36, 3) := by decide +kernel
theorem dX11_moves_28 : decode cX11_moves 28 = .ok (.iload_n 3, 1) := by decide +kernel
theorem dX11_moves_29 : decode cX11_moves 29 = .ok (.aload_n 0, 1) := by decide +kernel
theorem dX11_moves_30 : decode cX11_moves 30 = .ok (.iload 4, 2) := by decide +kernel
theorem dX11_moves_32 : decode cX11_moves 32 = .ok (.invokestatic 311, 3) := by decide +kernel
theorem dX11_moves_35 : decode cX11_moves 35 = .ok (.aload_n 0, 1) := by decide +kernel
theorem dX11_moves_36 : decode cX11_moves 36 = .ok (.getfield 155, 3) := by decide +kernel
theorem dX11_moves_39 : decode cX11_moves 39 = .ok (.invokevirtual 314, 3) := by decide +kernel
theorem dX11_moves_42 : decode cX11_moves 42 = .ok (.ifCond .eq 10, 3) := by decide +kernel
theorem dX11_moves_45 : decode cX11_moves 45 = .ok (.iconst 1, 1) := by decide +kernel
theorem dX11_moves_46 : decode cX11_moves 46 = .ok (.iload 4, 2) := by decide +kernel
theorem dX11_moves_48 : decode cX11_moves 48 = .ok (.ishl, 1) := by decide +kernel
theorem dX11_moves_49 : decode cX11_moves 49 = .ok (.goto 4, 3) := by decide +kernel
theorem dX11_moves_52 : decode cX11_moves 52 = .ok (.iconst 0, 1) := by decide +kernel
theorem dX11_moves_53 : decode cX11_moves 53 = .ok (.ior, 1) := by decide +kernel
theorem dX11_moves_54 : decode cX11_moves 54 = .ok (.istore_n 3, 1) := by decide +kernel
theorem dX11_moves_55 : decode cX11_moves 55 = .ok (.iinc 4 1, 3) := by decide +kernel
theorem dX11_moves_58 : decode cX11_moves 58 = .ok (.goto (-37), 3) := by decide +kernel
theorem dX11_moves_61 : decode cX11_moves 61 = .ok (.iload_n 3, 1) := by decide +kernel
theorem dX11_moves_62 : decode cX11_moves 62 = .ok (.ireturn, 1) := by decide +kernel
theorem dX11_after_0 : decode cX11_after 0 = .ok (.iload_n 2, 1) := by decide +kernel
theorem dX11_after_1 : decode cX11_after 1 = .ok (.iconst 0, 1) := by decide +kernel
theorem dX11_after_2 : decode cX11_after 2 = .ok (.iconst 2, 1) := by decide +kernel
theorem dX11_after_3 : decode cX11_after 3 = .ok (.invokestatic 163, 3) := by decide +kernel
theorem dX11_after_6 : decode cX11_after 6 = .ok (.ifCond .ne 28, 3) := by decide +kernel
theorem dX11_after_9 : decode cX11_after 9 = .ok (.iload_n 2, 1) := by decide +kernel
theorem dX11_after_10 : decode cX11_after 10 = .ok (.bipush 10, 2) := by decide +kernel
theorem dX11_after_12 : decode cX11_after 12 = .ok (.if_icmp .lt 26, 3) := by decide +kernel
theorem dX11_after_15 : decode cX11_after 15 = .ok (.iload_n 2, 1) := by decide +kernel
theorem dX11_after_16 : decode cX11_after 16 = .ok (.bipush 10, 2) := by decide +kernel
theorem dX11_after_18 : decode cX11_after 18 = .ok (.idiv, 1) := by decide +kernel
theorem dX11_after_19 : decode cX11_after 19 = .ok (.aload_n 0, 1) := by decide +kernel
theorem dX11_after_20 : decode cX11_after 20 = .ok (.getfield 234, 3) := by decide +kernel
theorem dX11_after_23 : decode cX11_after 23 = .ok (.if_icmp .gt 15, 3) := by decide +kernel
theorem dX11_after_26 : decode cX11_after 26 = .ok (.iload_n 2, 1) := by decide +kernel
theorem dX11_after_27 : decode cX11_after 27 = .ok (.bipush 10, 2) := by decide +kernel
theorem dX11_after_29 : decode cX11_after 29 = .ok (.irem, 1) := by decide +kernel
theorem dX11_after_30 : decode cX11_after 30 = .ok (.iconst 4, 1) := by decide +kernel
theorem dX11_after_31 : decode cX11_after 31 = .ok (.if_icmp .gt 7, 3) := by decide +kernel
theorem dX11_after_34 : decode cX11_after 34 = .ok (.iconst 1, 1) := by decide +kernel
theorem dX11_after_35 : decode cX11_after 35 = .ok (.goto 4, 3) := by decide +kernel
theorem dX11_after_38 : decode cX11_after 38 = .ok (.iconst 0, 1) := by decide +kernel
theorem dX11_after_39 : decode cX11_after 39 = .ok (.istore_n 3, 1) := by decide +kernel
theorem dX11_after_40 : decode cX11_after 40 = .ok (.iload_n 1, 1) := by decide +kernel
theorem dX11_after_41 : decode cX11_after 41 = .ok (.invokestatic 385, 3) := by decide +kernel
theorem dX11_after_44 : decode cX11_after 44 = .ok (.ifCond .eq 7, 3) := by decide +kernel
theorem dX11_after_47 : decode cX11_after 47 = .ok (.iload_n 3, 1) := by decide +kernel
theorem dX11_after_48 : decode cX11_after 48 = .ok (.ifCond .ne 10, 3) := by decide +kernel
theorem dX11_after_51 : decode cX11_after 51 = .ok (.aload_n 0, 1) := by decide +kernel
theorem dX11_after_52 : decode cX11_after 52 = .ok (.ldc 159, 2) := by decide +kernel
theorem dX11_after_54 : decode cX11_after 54 = .ok (.invokevirtual 171, 3) := by decide +kernel
theorem dX11_after_57 : decode cX11_after 57 = .ok (.ireturn, 1) := by decide +kernel
theorem dX11_after_58 : decode cX11_after 58 = .ok (.aload_n 0, 1) := by decide +kernel
theorem dX11_after_59 : decode cX11_after 59 = .ok (.iload_n 1, 1) := by decide +kernel
theorem dX11_after_60 : decode cX11_after 60 = .ok (.invokevirtual 393, 3) := by decide +kernel
theorem dX11_after_63 : decode cX11_after 63 = .ok (.istore 4, 2) := by decide +kernel
theorem dX11_after_65 : decode cX11_after 65 = .ok (.iload 4, 2) := by decide +kernel
theorem dX11_after_67 : decode cX11_after 67 = .ok (.ifCond .eq 10, 3) := by decide +kernel
theorem dX11_after_70 : decode cX11_after 70 = .ok (.aload_n 0, 1) := by decide +kernel
theorem dX11_after_71 : decode cX11_after 71 = .ok (.iload 4, 2) := by decide +kernel
theorem dX11_after_73 : decode cX11_after 73 = .ok (.invokevirtual 171, 3) := by decide +kernel
theorem dX11_after_76 : decode cX11_after 76 = .ok (.ireturn, 1) := by decide +kernel
theorem dX11_after_77 : decode cX11_after 77 = .ok (.iload_n 2, 1) := by decide +kernel
theorem dX11_after_78 : decode cX11_after 78 = .ok (.bipush 10, 2) := by decide +kernel
theorem dX11_after_80 : decode cX11_after 80 = .ok (.if_icmp .ge 10, 3) := by decide +kernel
theorem dX11_after_83 : decode cX11_after 83 = .ok (.aload_n 0, 1) := by decide +kernel
theorem dX11_after_84 : decode cX11_after 84 = .ok (.getfield 90, 3) := by decide +kernel
theorem dX11_after_87 : decode cX11_after 87 = .ok (.iload_n 2, 1) := by decide +kernel
theorem dX11_after_88 : decode cX11_after 88 = .ok (.iaload, 1) := by decide +kernel
theorem dX11_after_89 : decode cX11_after 89 = .ok (.ireturn, 1) := by decide +kernel
theorem dX11_after_90 : decode cX11_after 90 = .ok (.iload_n 2, 1) := by decide +kernel
theorem dX11_after_91 : decode cX11_after 91 = .ok (.bipush 10, 2) := by decide +kernel
theorem dX11_after_93 : decode cX11_after 93 = .ok (.idiv, 1) := by decide +kernel
theorem dX11_after_94 : decode cX11_after 94 = .ok (.iconst 1, 1) := by decide +kernel
theorem dX11_after_95 : decode cX11_after 95 = .ok (.isub, 1) := by decide +kernel
theorem dX11_after_96 : decode cX11_after 96 = .ok (.istore 5, 2) := by decide +kernel
theorem dX11_after_98 : decode cX11_after 98 = .ok (.iload_n 2, 1) := by decide +kernel
theorem dX11_after_99 : decode cX11_after 99 = .ok (.bipush 10, 2) := by decide +kernel
theorem dX11_after_101 : decode cX11_after 101 = .ok (.irem, 1) := by decide +kernel
theorem dX11_after_102 : decode cX11_after 102 = .ok (.tableswitch 62 0 3 #[30, 38, 46, 54], 30) := by decide +kernel
theorem dX11_after_132 : decode cX11_after 132 = .ok (.aload_n 0, 1) := by decide +kernel
theorem dX11_after_133 : decode cX11_after 133 = .ok (.getfield 99, 3) := by decide +kernel
theorem dX11_after_136 : decode cX11_after 136 = .ok (.iload 5, 2) := by decide +kernel
