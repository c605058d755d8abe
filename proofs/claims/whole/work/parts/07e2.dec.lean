theorem dX11_councils_244 : decode cX11_councils 244 = .ok (.iload 11, 2) := by decide +kernel
theorem dX11_councils_246 : decode cX11_councils 246 = .ok (.iaload, 1) := by decide +kernel
theorem dX11_councils_247 : decode cX11_councils 247 = .ok (.if_icmp .gt 33, 3) := by decide +kernel
theorem dX11_councils_250 : decode cX11_councils 250 = .ok (.aload_n 0, 1) := by decide +kernel
theorem dX11_councils_251 : decode cX11_councils 251 = .ok (.getfield 44, 3) := by decide +kernel
theorem dX11_councils_254 : decode cX11_councils 254 = .ok (.iload 11, 2) := by decide +kernel
theorem dX11_councils_256 : decode cX11_councils 256 = .ok (.bipush 10, 2) := by decide +kernel
theorem dX11_councils_258 : decode cX11_councils 258 = .ok (.idiv, 1) := by decide +kernel
theorem dX11_councils_259 : decode cX11_councils 259 = .ok (.bipush 10, 2) := by decide +kernel
theorem dX11_councils_261 : decode cX11_councils 261 = .ok (.imul, 1) := by decide +kernel
theorem dX11_councils_262 : decode cX11_councils 262 = .ok (.iload 13, 2) := by decide +kernel
theorem dX11_councils_264 : decode cX11_councils 264 = .ok (.iadd, 1) := by decide +kernel
theorem dX11_councils_265 : decode cX11_councils 265 = .ok (.iaload, 1) := by decide +kernel
theorem dX11_councils_266 : decode cX11_councils 266 = .ok (.aload_n 0, 1) := by decide +kernel
theorem dX11_councils_267 : decode cX11_councils 267 = .ok (.getfield 44, 3) := by decide +kernel
theorem dX11_councils_270 : decode cX11_councils 270 = .ok (.iload 11, 2) := by decide +kernel
theorem dX11_councils_272 : decode cX11_councils 272 = .ok (.iaload, 1) := by decide +kernel
theorem dX11_councils_273 : decode cX11_councils 273 = .ok (.if_icmp .gt 7, 3) := by decide +kernel
theorem dX11_councils_276 : decode cX11_councils 276 = .ok (.iconst 1, 1) := by decide +kernel
theorem dX11_councils_277 : decode cX11_councils 277 = .ok (.goto 4, 3) := by decide +kernel
theorem dX11_councils_280 : decode cX11_councils 280 = .ok (.iconst 0, 1) := by decide +kernel
theorem dX11_councils_281 : decode cX11_councils 281 = .ok (.istore 12, 2) := by decide +kernel
theorem dX11_councils_283 : decode cX11_councils 283 = .ok (.iinc 13 1, 3) := by decide +kernel
theorem dX11_councils_286 : decode cX11_councils 286 = .ok (.goto (-74), 3) := by decide +kernel
theorem dX11_councils_289 : decode cX11_councils 289 = .ok (.iload 12, 2) := by decide +kernel
theorem dX11_councils_291 : decode cX11_councils 291 = .ok (.ifCond .eq 13, 3) := by decide +kernel
theorem dX11_councils_294 : decode cX11_councils 294 = .ok (.iload 9, 2) := by decide +kernel
theorem dX11_councils_296 : decode cX11_councils 296 = .ok (.ifCond .ne 8, 3) := by decide +kernel
theorem dX11_councils_299 : decode cX11_councils 299 = .ok (.iload 11, 2) := by decide +kernel
theorem dX11_councils_301 : decode cX11_councils 301 = .ok (.goto 5, 3) := by decide +kernel
theorem dX11_councils_304 : decode cX11_councils 304 = .ok (.iload 10, 2) := by decide +kernel
theorem dX11_councils_306 : decode cX11_councils 306 = .ok (.istore 10, 2) := by decide +kernel
theorem dX11_councils_308 : decode cX11_councils 308 = .ok (.iload 9, 2) := by decide +kernel
theorem dX11_councils_310 : decode cX11_councils 310 = .ok (.iload 12, 2) := by decide +kernel
theorem dX11_councils_312 : decode cX11_councils 312 = .ok (.ifCond .eq 7, 3) := by decide +kernel
theorem dX11_councils_315 : decode cX11_councils 315 = .ok (.iconst 1, 1) := by decide +kernel
theorem dX11_councils_316 : decode cX11_councils 316 = .ok (.goto 4, 3) := by decide +kernel
theorem dX11_councils_319 : decode cX11_councils 319 = .ok (.iconst 0, 1) := by decide +kernel
theorem dX11_councils_320 : decode cX11_councils 320 = .ok (.iadd, 1) := by decide +kernel
theorem dX11_councils_321 : decode cX11_councils 321 = .ok (.istore 9, 2) := by decide +kernel
theorem dX11_councils_323 : decode cX11_councils 323 = .ok (.iinc 11 1, 3) := by decide +kernel
theorem dX11_councils_326 : decode cX11_councils 326 = .ok (.goto (-139), 3) := by decide +kernel
theorem dX11_councils_329 : decode cX11_councils 329 = .ok (.iload 4, 2) := by decide +kernel
theorem dX11_councils_331 : decode cX11_councils 331 = .ok (.ifCond .ne 8, 3) := by decide +kernel
theorem dX11_councils_334 : decode cX11_councils 334 = .ok (.iload 9, 2) := by decide +kernel
theorem dX11_councils_336 : decode cX11_councils 336 = .ok (.goto 5, 3) := by decide +kernel
theorem dX11_councils_339 : decode cX11_councils 339 = .ok (.iload 10, 2) := by decide +kernel
theorem dX11_councils_341 : decode cX11_councils 341 = .ok (.ireturn, 1) := by decide +kernel
theorem dX11_worthOf_0 : decode cX11_worthOf 0 = .ok (.iconst 0, 1) := by decide +kernel
theorem dX11_worthOf_1 : decode cX11_worthOf 1 = .ok (.istore_n 3, 1) := by decide +kernel
theorem dX11_worthOf_2 : decode cX11_worthOf 2 = .ok (.iconst 0, 1) := by decide +kernel
theorem dX11_worthOf_3 : decode cX11_worthOf 3 = .ok (.istore 4, 2) := by decide +kernel
theorem dX11_worthOf_5 : decode cX11_worthOf 5 = .ok (.iload 4, 2) := by decide +kernel
theorem dX11_worthOf_7 : decode cX11_worthOf 7 = .ok (.aload_n 0, 1) := by decide +kernel
theorem dX11_worthOf_8 : decode cX11_worthOf 8 = .ok (.getfield 7, 3) := by decide +kernel
theorem dX11_worthOf_11 : decode cX11_worthOf 11 = .ok (.iconst 3, 1) := by decide +kernel
theorem dX11_worthOf_12 : decode cX11_worthOf 12 = .ok (.iaload, 1) := by decide +kernel
theorem dX11_worthOf_13 : decode cX11_worthOf 13 = .ok (.if_icmp .ge 41, 3) := by decide +kernel
theorem dX11_worthOf_16 : decode cX11_worthOf 16 = .ok (.aload_n 0, 1) := by decide +kernel
theorem dX11_worthOf_17 : decode cX11_worthOf 17 = .ok (.iload 4, 2) := by decide +kernel
theorem dX11_worthOf_19 : decode cX11_worthOf 19 = .ok (.iload_n 2, 1) := by decide +kernel
theorem dX11_worthOf_20 : decode cX11_worthOf 20 = .ok (.iload_n 1, 1) := by decide +kernel
theorem dX11_worthOf_21 : decode cX11_worthOf 21 = .ok (.invokevirtual 176, 3) := by decide +kernel
theorem dX11_worthOf_24 : decode cX11_worthOf 24 = .ok (.istore 5, 2) := by decide +kernel
theorem dX11_worthOf_26 : decode cX11_worthOf 26 = .ok (.iload_n 3, 1) := by decide +kernel
theorem dX11_worthOf_27 : decode cX11_worthOf 27 = .ok (.iload 5, 2) := by decide +kernel
theorem dX11_worthOf_29 : decode cX11_worthOf 29 = .ok (.bipush (-4), 2) := by decide +kernel
theorem dX11_worthOf_31 : decode cX11_worthOf 31 = .ok (.if_icmp .ne 7, 3) := by decide +kernel
theorem dX11_worthOf_34 : decode cX11_worthOf 34 = .ok (.iconst 0, 1) := by decide +kernel
theorem dX11_worthOf_35 : decode cX11_worthOf 35 = .ok (.goto 11, 3) := by decide +kernel
theorem dX11_worthOf_38 : decode cX11_worthOf 38 = .ok (.aload_n 0, 1) := by decide +kernel
theorem dX11_worthOf_39 : decode cX11_worthOf 39 = .ok (.iload 4, 2) := by decide +kernel
theorem dX11_worthOf_41 : decode cX11_worthOf 41 = .ok (.iload 5, 2) := by decide +kernel
theorem dX11_worthOf_43 : decode cX11_worthOf 43 = .ok (.invokevirtual 172, 3) := by decide +kernel
theorem dX11_worthOf_46 : decode cX11_worthOf 46 = .ok (.iadd, 1) := by decide +kernel
theorem dX11_worthOf_47 : decode cX11_worthOf 47 = .ok (.istore_n 3, 1) := by decide +kernel
theorem dX11_worthOf_48 : decode cX11_worthOf 48 = .ok (.iinc 4 1, 3) := by decide +kernel
theorem dX11_worthOf_51 : decode cX11_worthOf 51 = .ok (.goto (-46), 3) := by decide +kernel
theorem dX11_worthOf_54 : decode cX11_worthOf 54 = .ok (.iload_n 3, 1) := by decide +kernel
theorem dX11_worthOf_55 : decode cX11_worthOf 55 = .ok (.ireturn, 1) := by decide +kernel
theorem dX11_isSet_0 : decode cX11_isSet 0 = .ok (.iload_n 1, 1) := by decide +kernel
theorem dX11_isSet_1 : decode cX11_isSet 1 = .ok (.i2l, 1) := by decide +kernel
theorem dX11_isSet_2 : decode cX11_isSet 2 = .ok (.lconst 0, 1) := by decide +kernel
theorem dX11_isSet_3 : decode cX11_isSet 3 = .ok (.iconst 1, 1) := by decide +kernel
theorem dX11_isSet_4 : decode cX11_isSet 4 = .ok (.aload_n 0, 1) := by decide +kernel
theorem dX11_isSet_5 : decode cX11_isSet 5 = .ok (.getfield 7, 3) := by decide +kernel
theorem dX11_isSet_8 : decode cX11_isSet 8 = .ok (.iconst 0, 1) := by decide +kernel
theorem dX11_isSet_9 : decode cX11_isSet 9 = .ok (.iaload, 1) := by decide +kernel
theorem dX11_isSet_10 : decode cX11_isSet 10 = .ok (.ishl, 1) := by decide +kernel
theorem dX11_isSet_11 : decode cX11_isSet 11 = .ok (.iconst 1, 1) := by decide +kernel
theorem dX11_isSet_12 : decode cX11_isSet 12 = .ok (.isub, 1) := by decide +kernel
theorem dX11_isSet_13 : decode cX11_isSet 13 = .ok (.i2l, 1) := by decide +kernel
theorem dX11_isSet_14 : decode cX11_isSet 14 = .ok (.invokestatic 50, 3) := by decide +kernel
theorem dX11_isSet_17 : decode cX11_isSet 17 = .ok (.ireturn, 1) := by decide +kernel
theorem dX11_league_0 : decode cX11_league 0 = .ok (.aload_n 0, 1) := by decide +kernel
theorem dX11_league_1 : decode cX11_league 1 = .ok (.iload_n 1, 1) := by decide +kernel
theorem dX11_league_2 : decode cX11_league 2 = .ok (.invokevirtual 194, 3) := by decide +kernel
theorem dX11_league_5 : decode cX11_league 5 = .ok (.ifCond .eq 27, 3) := by decide +kernel
theorem dX11_league_8 : decode cX11_league 8 = .ok (.aload_n 0, 1) := by decide +kernel
theorem dX11_league_9 : decode cX11_league 9 = .ok (.iload_n 2, 1) := by decide +kernel
theorem dX11_league_10 : decode cX11_league 10 = .ok (.invokevirtual 97, 3) := by decide +kernel
theorem dX11_league_13 : decode cX11_league 13 = .ok (.ifCond .eq 19, 3) := by decide +kernel
theorem dX11_league_16 : decode cX11_league 16 = .ok (.aload_n 0, 1) := by decide +kernel
theorem dX11_league_17 : decode cX11_league 17 = .ok (.iload_n 1, 1) := by decide +kernel
theorem dX11_league_18 : decode cX11_league 18 = .ok (.iload_n 2, 1) := by decide +kernel
theorem dX11_league_19 : decode cX11_league 19 = .ok (.invokevirtual 197, 3) := by decide +kernel
theorem dX11_league_22 : decode cX11_league 22 = .ok (.aload_n 0, 1) := by decide +kernel
theorem dX11_league_23 : decode cX11_league 23 = .ok (.iconst 0, 1) := by decide +kernel
theorem dX11_league_24 : decode cX11_league 24 = .ok (.iload_n 2, 1) := by decide +kernel
theorem dX11_league_25 : decode cX11_league 25 = .ok (.invokevirtual 197, 3) := by decide +kernel
theorem dX11_league_28 : decode cX11_league 28 = .ok (.isub, 1) := by decide +kernel
theorem dX11_league_29 : decode cX11_league 29 = .ok (.goto 5, 3) := by decide +kernel
theorem dX11_league_32 : decode cX11_league 32 = .ok (.ldc 171, 2) := by decide +kernel
theorem dX11_league_34 : decode cX11_league 34 = .ok (.ireturn, 1) := by decide +kernel
theorem dX11_orders_0 : decode cX11_orders 0 = .ok (.lconst 1, 1) := by decide +kernel
theorem dX11_orders_1 : decode cX11_orders 1 = .ok (.lstore_n 1, 1) := by decide +kernel
theorem dX11_orders_2 : decode cX11_orders 2 = .ok (.iconst 2, 1) := by decide +kernel
theorem dX11_orders_3 : decode cX11_orders 3 = .ok (.istore_n 3, 1) := by decide +kernel
theorem dX11_orders_4 : decode cX11_orders 4 = .ok (.iload_n 3, 1) := by decide +kernel
theorem dX11_orders_5 : decode cX11_orders 5 = .ok (.iload_n 0, 1) := by decide +kernel
theorem dX11_orders_6 : decode cX11_orders 6 = .ok (.if_icmp .gt 14, 3) := by decide +kernel
theorem dX11_orders_9 : decode cX11_orders 9 = .ok (.lload_n 1, 1) := by decide +kernel
theorem dX11_orders_10 : decode cX11_orders 10 = .ok (.iload_n 3, 1) := by decide +kernel
theorem dX11_orders_11 : decode cX11_orders 11 = .ok (.i2l, 1) := by decide +kernel
theorem dX11_orders_12 : decode cX11_orders 12 = .ok (.lmul, 1) := by decide +kernel
theorem dX11_orders_13 : decode cX11_orders 13 = .ok (.lstore_n 1, 1) := by decide +kernel
theorem dX11_orders_14 : decode cX11_orders 14 = .ok (.iinc 3 1, 3) := by decide +kernel
theorem dX11_orders_17 : decode cX11_orders 17 = .ok (.goto (-13), 3) := by decide +kernel
theorem dX11_orders_20 : decode cX11_orders 20 = .ok (.lload_n 1, 1) := by decide +kernel
theorem dX11_orders_21 : decode cX11_orders 21 = .ok (.lreturn, 1) := by decide +kernel
theorem dX11_layPart_0 : decode cX11_layPart 0 = .ok (.aload_n 0, 1) := by decide +kernel
theorem dX11_layPart_1 : decode cX11_layPart 1 = .ok (.iload_n 1, 1) := by decide +kernel
theorem dX11_layPart_2 : decode cX11_layPart 2 = .ok (.invokevirtual 68, 3) := by decide +kernel
theorem dX11_layPart_5 : decode cX11_layPart 5 = .ok (.ifCond .eq 27, 3) := by decide +kernel
theorem dX11_layPart_8 : decode cX11_layPart 8 = .ok (.aload_n 0, 1) := by decide +kernel
theorem dX11_layPart_9 : decode cX11_layPart 9 = .ok (.iload_n 2, 1) := by decide +kernel
theorem dX11_layPart_10 : decode cX11_layPart 10 = .ok (.invokevirtual 194, 3) := by decide +kernel
theorem dX11_layPart_13 : decode cX11_layPart 13 = .ok (.ifCond .eq 19, 3) := by decide +kernel
theorem dX11_layPart_16 : decode cX11_layPart 16 = .ok (.iload_n 2, 1) := by decide +kernel
theorem dX11_layPart_17 : decode cX11_layPart 17 = .ok (.iload_n 1, 1) := by decide +kernel
theorem dX11_layPart_18 : decode cX11_layPart 18 = .ok (.ishr, 1) := by decide +kernel
theorem dX11_layPart_19 : decode cX11_layPart 19 = .ok (.iconst 1, 1) := by decide +kernel
theorem dX11_layPart_20 : decode cX11_layPart 20 = .ok (.iand, 1) := by decide +kernel
theorem dX11_layPart_21 : decode cX11_layPart 21 = .ok (.ifCond .eq 11, 3) := by decide +kernel
theorem dX11_layPart_24 : decode cX11_layPart 24 = .ok (.aload_n 0, 1) := by decide +kernel
theorem dX11_layPart_25 : decode cX11_layPart 25 = .ok (.iload_n 3, 1) := by decide +kernel
theorem dX11_layPart_26 : decode cX11_layPart 26 = .ok (.invokevirtual 97, 3) := by decide +kernel
theorem dX11_layPart_29 : decode cX11_layPart 29 = .ok (.ifCond .ne 5, 3) := by decide +kernel
theorem dX11_layPart_32 : decode cX11_layPart 32 = .ok (.iconst 0, 1) := by decide +kernel
theorem dX11_layPart_33 : decode cX11_layPart 33 = .ok (.ireturn, 1) := by decide +kernel
theorem dX11_layPart_34 : decode cX11_layPart 34 = .ok (.iload_n 2, 1) := by decide +kernel
theorem dX11_layPart_35 : decode cX11_layPart 35 = .ok (.invokestatic 185, 3) := by decide +kernel
theorem dX11_layPart_38 : decode cX11_layPart 38 = .ok (.istore 4, 2) := by decide +kernel
theorem dX11_layPart_40 : decode cX11_layPart 40 = .ok (.aload_n 0, 1) := by decide +kernel
theorem dX11_layPart_41 : decode cX11_layPart 41 = .ok (.lconst 0, 1) := by decide +kernel
theorem dX11_layPart_42 : decode cX11_layPart 42 = .ok (.putfield 200, 3) := by decide +kernel
theorem dX11_layPart_45 : decode cX11_layPart 45 = .ok (.aload_n 0, 1) := by decide +kernel
theorem dX11_layPart_46 : decode cX11_layPart 46 = .ok (.iload 4, 2) := by decide +kernel
theorem dX11_layPart_48 : decode cX11_layPart 48 = .ok (.invokestatic 204, 3) := by decide +kernel
theorem dX11_layPart_51 : decode cX11_layPart 51 = .ok (.putfield 208, 3) := by decide +kernel
theorem dX11_layPart_54 : decode cX11_layPart 54 = .ok (.iconst 0, 1) := by decide +kernel
theorem dX11_layPart_55 : decode cX11_layPart 55 = .ok (.istore 5, 2) := by decide +kernel
theorem dX11_layPart_57 : decode cX11_layPart 57 = .ok (.iload 5, 2) := by decide +kernel
theorem dX11_layPart_59 : decode cX11_layPart 59 = .ok (.iload_n 2, 1) := by decide +kernel
theorem dX11_layPart_60 : decode cX11_layPart 60 = .ok (.if_icmp .gt 80, 3) := by decide +kernel
theorem dX11_layPart_63 : decode cX11_layPart 63 = .ok (.iload 5, 2) := by decide +kernel
theorem dX11_layPart_65 : decode cX11_layPart 65 = .ok (.iload_n 2, 1) := by decide +kernel
theorem dX11_layPart_66 : decode cX11_layPart 66 = .ok (.iconst (-1), 1) := by decide +kernel
theorem dX11_layPart_67 : decode cX11_layPart 67 = .ok (.ixor, 1) := by decide +kernel
theorem dX11_layPart_68 : decode cX11_layPart 68 = .ok (.iand, 1) := by decide +kernel
theorem dX11_layPart_69 : decode cX11_layPart 69 = .ok (.ifCond .ne 65, 3) := by decide +kernel
theorem dX11_layPart_72 : decode cX11_layPart 72 = .ok (.iload 5, 2) := by decide +kernel
theorem dX11_layPart_74 : decode cX11_layPart 74 = .ok (.iload_n 1, 1) := by decide +kernel
theorem dX11_layPart_75 : decode cX11_layPart 75 = .ok (.ishr, 1) := by decide +kernel
theorem dX11_layPart_76 : decode cX11_layPart 76 = .ok (.iconst 1, 1) := by decide +kernel
theorem dX11_layPart_77 : decode cX11_layPart 77 = .ok (.iand, 1) := by decide +kernel
theorem dX11_layPart_78 : decode cX11_layPart 78 = .ok (.ifCond .ne 56, 3) := by decide +kernel
theorem dX11_layPart_81 : decode cX11_layPart 81 = .ok (.iload 5, 2) := by decide +kernel
theorem dX11_layPart_83 : decode cX11_layPart 83 = .ok (.invokestatic 185, 3) := by decide +kernel
theorem dX11_layPart_86 : decode cX11_layPart 86 = .ok (.istore 6, 2) := by decide +kernel
theorem dX11_layPart_88 : decode cX11_layPart 88 = .ok (.aload_n 0, 1) := by decide +kernel
theorem dX11_layPart_89 : decode cX11_layPart 89 = .ok (.dup, 1) := by decide +kernel
theorem dX11_layPart_90 : decode cX11_layPart 90 = .ok (.getfield 200, 3) := by decide +kernel
theorem dX11_layPart_93 : decode cX11_layPart 93 = .ok (.iload 6, 2) := by decide +kernel
theorem dX11_layPart_95 : decode cX11_layPart 95 = .ok (.invokestatic 204, 3) := by decide +kernel
theorem dX11_layPart_98 : decode cX11_layPart 98 = .ok (.iload 4, 2) := by decide +kernel
theorem dX11_layPart_100 : decode cX11_layPart 100 = .ok (.iconst 1, 1) := by decide +kernel
theorem dX11_layPart_101 : decode cX11_layPart 101 = .ok (.isub, 1) := by decide +kernel
theorem dX11_layPart_102 : decode cX11_layPart 102 = .ok (.iload 6, 2) := by decide +kernel
theorem dX11_layPart_104 : decode cX11_layPart 104 = .ok (.isub, 1) := by decide +kernel
theorem dX11_layPart_105 : decode cX11_layPart 105 = .ok (.invokestatic 204, 3) := by decide +kernel
theorem dX11_layPart_108 : decode cX11_layPart 108 = .ok (.lmul, 1) := by decide +kernel
theorem dX11_layPart_109 : decode cX11_layPart 109 = .ok (.aload_n 0, 1) := by decide +kernel
theorem dX11_layPart_110 : decode cX11_layPart 110 = .ok (.iload 5, 2) := by decide +kernel
theorem dX11_layPart_112 : decode cX11_layPart 112 = .ok (.iconst 1, 1) := by decide +kernel
theorem dX11_layPart_113 : decode cX11_layPart 113 = .ok (.iload_n 1, 1) := by decide +kernel
theorem dX11_layPart_114 : decode cX11_layPart 114 = .ok (.ishl, 1) := by decide +kernel
theorem dX11_layPart_115 : decode cX11_layPart 115 = .ok (.ior, 1) := by decide +kernel
theorem dX11_layPart_116 : decode cX11_layPart 116 = .ok (.iload_n 3, 1) := by decide +kernel
theorem dX11_layPart_117 : decode cX11_layPart 117 = .ok (.invokevirtual 197, 3) := by decide +kernel
theorem dX11_layPart_120 : decode cX11_layPart 120 = .ok (.aload_n 0, 1) := by decide +kernel
theorem dX11_layPart_121 : decode cX11_layPart 121 = .ok (.iload 5, 2) := by decide +kernel
theorem dX11_layPart_123 : decode cX11_layPart 123 = .ok (.iload_n 3, 1) := by decide +kernel
theorem dX11_layPart_124 : decode cX11_layPart 124 = .ok (.invokevirtual 197, 3) := by decide +kernel
theorem dX11_layPart_127 : decode cX11_layPart 127 = .ok (.isub, 1) := by decide +kernel
theorem dX11_layPart_128 : decode cX11_layPart 128 = .ok (.i2l, 1) := by decide +kernel
theorem dX11_layPart_129 : decode cX11_layPart 129 = .ok (.lmul, 1) := by decide +kernel
theorem dX11_layPart_130 : decode cX11_layPart 130 = .ok (.ladd, 1) := by decide +kernel
theorem dX11_layPart_131 : decode cX11_layPart 131 = .ok (.putfield 200, 3) := by decide +kernel
theorem dX11_layPart_134 : decode cX11_layPart 134 = .ok (.iinc 5 1, 3) := by decide +kernel
theorem dX11_layPart_137 : decode cX11_layPart 137 = .ok (.goto (-80), 3) := by decide +kernel
theorem dX11_layPart_140 : decode cX11_layPart 140 = .ok (.aload_n 0, 1) := by decide +kernel
theorem dX11_layPart_141 : decode cX11_layPart 141 = .ok (.getfield 200, 3) := by decide +kernel
theorem dX11_layPart_144 : decode cX11_layPart 144 = .ok (.lconst 0, 1) := by decide +kernel
theorem dX11_layPart_145 : decode cX11_layPart 145 = .ok (.lcmp, 1) := by decide +kernel
theorem dX11_layPart_146 : decode cX11_layPart 146 = .ok (.ifCond .ge 11, 3) := by decide +kernel
theorem dX11_layPart_149 : decode cX11_layPart 149 = .ok (.aload_n 0, 1) := by decide +kernel
theorem dX11_layPart_150 : decode cX11_layPart 150 = .ok (.getfield 200, 3) := by decide +kernel
theorem dX11_layPart_153 : decode cX11_layPart 153 = .ok (.lneg, 1) := by decide +kernel
theorem dX11_layPart_154 : decode cX11_layPart 154 = .ok (.goto 7, 3) := by decide +kernel
theorem dX11_layPart_157 : decode cX11_layPart 157 = .ok (.aload_n 0, 1) := by decide +kernel
theorem dX11_layPart_158 : decode cX11_layPart 158 = .ok (.getfield 200, 3) := by decide +kernel
theorem dX11_layPart_161 : decode cX11_layPart 161 = .ok (.lstore 5, 2) := by decide +kernel
theorem dX11_layPart_163 : decode cX11_layPart 163 = .ok (.aload_n 0, 1) := by decide +kernel
theorem dX11_layPart_164 : decode cX11_layPart 164 = .ok (.getfield 208, 3) := by decide +kernel
theorem dX11_layPart_167 : decode cX11_layPart 167 = .ok (.lstore 7, 2) := by decide +kernel
theorem dX11_layPart_169 : decode cX11_layPart 169 = .ok (.lload 7, 2) := by decide +kernel
theorem dX11_layPart_171 : decode cX11_layPart 171 = .ok (.lconst 0, 1) := by decide +kernel
theorem dX11_layPart_172 : decode cX11_layPart 172 = .ok (.lcmp, 1) := by decide +kernel
theorem dX11_layPart_173 : decode cX11_layPart 173 = .ok (.ifCond .eq 21, 3) := by decide +kernel
theorem dX11_layPart_176 : decode cX11_layPart 176 = .ok (.lload 5, 2) := by decide +kernel
theorem dX11_layPart_178 : decode cX11_layPart 178 = .ok (.lload 7, 2) := by decide +kernel
theorem dX11_layPart_180 : decode cX11_layPart 180 = .ok (.lrem, 1) := by decide +kernel
theorem dX11_layPart_181 : decode cX11_layPart 181 = .ok (.lstore 9, 2) := by decide +kernel
theorem dX11_layPart_183 : decode cX11_layPart 183 = .ok (.lload 7, 2) := by decide +kernel
theorem dX11_layPart_185 : decode cX11_layPart 185 = .ok (.lstore 5, 2) := by decide +kernel
theorem dX11_layPart_187 : decode cX11_layPart 187 = .ok (.lload 9, 2) := by decide +kernel
theorem dX11_layPart_189 : decode cX11_layPart 189 = .ok (.lstore 7, 2) := by decide +kernel
theorem dX11_layPart_191 : decode cX11_layPart 191 = .ok (.goto (-22), 3) := by decide +kernel
theorem dX11_layPart_194 : decode cX11_layPart 194 = .ok (.aload_n 0, 1) := by decide +kernel
theorem dX11_layPart_195 : decode cX11_layPart 195 = .ok (.dup, 1) := by decide +kernel
theorem dX11_layPart_196 : decode cX11_layPart 196 = .ok (.getfield 200, 3) := by decide +kernel
theorem dX11_layPart_199 : decode cX11_layPart 199 = .ok (.lload 5, 2) := by decide +kernel
theorem dX11_layPart_201 : decode cX11_layPart 201 = .ok (.ldiv, 1) := by decide +kernel
theorem dX11_layPart_202 : decode cX11_layPart 202 = .ok (.putfield 200, 3) := by decide +kernel
theorem dX11_layPart_205 : decode cX11_layPart 205 = .ok (.aload_n 0, 1) := by decide +kernel
theorem dX11_layPart_206 : decode cX11_layPart 206 = .ok (.dup, 1) := by decide +kernel
theorem dX11_layPart_207 : decode cX11_layPart 207 = .ok (.getfield 208, 3) := by decide +kernel
theorem dX11_layPart_210 : decode cX11_layPart 210 = .ok (.lload 5, 2) := by decide +kernel
theorem dX11_layPart_212 : decode cX11_layPart 212 = .ok (.ldiv, 1) := by decide +kernel
theorem dX11_layPart_213 : decode cX11_layPart 213 = .ok (.putfield 208, 3) := by decide +kernel
theorem dX11_layPart_216 : decode cX11_layPart 216 = .ok (.iconst 1, 1) := by decide +kernel
theorem dX11_layPart_217 : decode cX11_layPart 217 = .ok (.ireturn, 1) := by decide +kernel
theorem dX11_upper_0 : decode cX11_upper 0 = .ok (.aload_n 0, 1) := by decide +kernel
theorem dX11_upper_1 : decode cX11_upper 1 = .ok (.iload_n 1, 1) := by decide +kernel
theorem dX11_upper_2 : decode cX11_upper 2 = .ok (.iload_n 2, 1) := by decide +kernel
theorem dX11_upper_3 : decode cX11_upper 3 = .ok (.iload_n 3, 1) := by decide +kernel
theorem dX11_upper_4 : decode cX11_upper 4 = .ok (.invokevirtual 211, 3) := by decide +kernel
theorem dX11_upper_7 : decode cX11_upper 7 = .ok (.ifCond .eq 10, 3) := by decide +kernel
theorem dX11_upper_10 : decode cX11_upper 10 = .ok (.aload_n 0, 1) := by decide +kernel
theorem dX11_upper_11 : decode cX11_upper 11 = .ok (.getfield 200, 3) := by decide +kernel
theorem dX11_upper_14 : decode cX11_upper 14 = .ok (.goto 6, 3) := by decide +kernel
theorem dX11_upper_17 : decode cX11_upper 17 = .ok (.ldc2_w 214, 3) := by decide +kernel
theorem dX11_upper_20 : decode cX11_upper 20 = .ok (.lreturn, 1) := by decide +kernel
theorem dX11_lower_0 : decode cX11_lower 0 = .ok (.aload_n 0, 1) := by decide +kernel
theorem dX11_lower_1 : decode cX11_lower 1 = .ok (.iload_n 1, 1) := by decide +kernel
theorem dX11_lower_2 : decode cX11_lower 2 = .ok (.iload_n 2, 1) := by decide +kernel
theorem dX11_lower_3 : decode cX11_lower 3 = .ok (.iload_n 3, 1) := by decide +kernel
theorem dX11_lower_4 : decode cX11_lower 4 = .ok (.invokevirtual 211, 3) := by decide +kernel
theorem dX11_lower_7 : decode cX11_lower 7 = .ok (.ifCond .eq 10, 3) := by decide +kernel
theorem dX11_lower_10 : decode cX11_lower 10 = .ok (.aload_n 0, 1) := by decide +kernel
theorem dX11_lower_11 : decode cX11_lower 11 = .ok (.getfield 208, 3) := by decide +kernel
theorem dX11_lower_14 : decode cX11_lower 14 = .ok (.goto 6, 3) := by decide +kernel
theorem dX11_lower_17 : decode cX11_lower 17 = .ok (.ldc2_w 160, 3) := by decide +kernel
theorem dX11_lower_20 : decode cX11_lower 20 = .ok (.lreturn, 1) := by decide +kernel
theorem dX11_change_0 : decode cX11_change 0 = .ok (.aload_n 0, 1) := by decide +kernel
theorem dX11_change_1 : decode cX11_change 1 = .ok (.iload_n 1, 1) := by decide +kernel
theorem dX11_change_2 : decode cX11_change 2 = .ok (.invokevirtual 68, 3) := by decide +kernel
theorem dX11_change_5 : decode cX11_change 5 = .ok (.ifCond .eq 22, 3) := by decide +kernel
theorem dX11_change_8 : decode cX11_change 8 = .ok (.iload_n 2, 1) := by decide +kernel
theorem dX11_change_9 : decode cX11_change 9 = .ok (.i2l, 1) := by decide +kernel
theorem dX11_change_10 : decode cX11_change 10 = .ok (.lconst 1, 1) := by decide +kernel
theorem dX11_change_11 : decode cX11_change 11 = .ok (.ldc2_w 72, 3) := by decide +kernel
theorem dX11_change_14 : decode cX11_change 14 = .ok (.invokestatic 50, 3) := by decide +kernel
theorem dX11_change_17 : decode cX11_change 17 = .ok (.ifCond .eq 10, 3) := by decide +kernel
theorem dX11_change_20 : decode cX11_change 20 = .ok (.iload_n 3, 1) := by decide +kernel
theorem dX11_change_21 : decode cX11_change 21 = .ok (.invokestatic 179, 3) := by decide +kernel
theorem dX11_change_24 : decode cX11_change 24 = .ok (.ifCond .ne 5, 3) := by decide +kernel
theorem dX11_change_27 : decode cX11_change 27 = .ok (.iconst (-1), 1) := by decide +kernel
theorem dX11_change_28 : decode cX11_change 28 = .ok (.ireturn, 1) := by decide +kernel
theorem dX11_change_29 : decode cX11_change 29 = .ok (.aload_n 0, 1) := by decide +kernel
theorem dX11_change_30 : decode cX11_change 30 = .ok (.getfield 7, 3) := by decide +kernel
theorem dX11_change_33 : decode cX11_change 33 = .ok (.bipush 6, 2) := by decide +kernel
theorem dX11_change_35 : decode cX11_change 35 = .ok (.iload_n 1, 1) := by decide +kernel
theorem dX11_change_36 : decode cX11_change 36 = .ok (.iadd, 1) := by decide +kernel
theorem dX11_change_37 : decode cX11_change 37 = .ok (.iaload, 1) := by decide +kernel
theorem dX11_change_38 : decode cX11_change 38 = .ok (.istore 4, 2) := by decide +kernel
theorem dX11_change_40 : decode cX11_change 40 = .ok (.iconst 0, 1) := by decide +kernel
theorem dX11_change_41 : decode cX11_change 41 = .ok (.istore 5, 2) := by decide +kernel
theorem dX11_change_43 : decode cX11_change 43 = .ok (.iconst 0, 1) := by decide +kernel
theorem dX11_change_44 : decode cX11_change 44 = .ok (.istore 6, 2) := by decide +kernel
theorem dX11_change_46 : decode cX11_change 46 = .ok (.iload 6, 2) := by decide +kernel
theorem dX11_change_48 : decode cX11_change 48 = .ok (.aload_n 0, 1) := by decide +kernel
theorem dX11_change_49 : decode cX11_change 49 = .ok (.getfield 7, 3) := by decide +kernel
theorem dX11_change_52 : decode cX11_change 52 = .ok (.iconst 3, 1) := by decide +kernel
theorem dX11_change_53 : decode cX11_change 53 = .ok (.iaload, 1) := by decide +kernel
theorem dX11_change_54 : decode cX11_change 54 = .ok (.if_icmp .ge 94, 3) := by decide +kernel
theorem dX11_change_57 : decode cX11_change 57 = .ok (.iload_n 3, 1) := by decide +kernel
theorem dX11_change_58 : decode cX11_change 58 = .ok (.ifCond .ne 90, 3) := by decide +kernel
theorem dX11_change_61 : decode cX11_change 61 = .ok (.aload_n 0, 1) := by decide +kernel
theorem dX11_change_62 : decode cX11_change 62 = .ok (.getfield 7, 3) := by decide +kernel
theorem dX11_change_65 : decode cX11_change 65 = .ok (.bipush 111, 2) := by decide +kernel
theorem dX11_change_67 : decode cX11_change 67 = .ok (.iload 6, 2) := by decide +kernel
theorem dX11_change_69 : decode cX11_change 69 = .ok (.iadd, 1) := by decide +kernel
theorem dX11_change_70 : decode cX11_change 70 = .ok (.iaload, 1) := by decide +kernel
theorem dX11_change_71 : decode cX11_change 71 = .ok (.iload_n 1, 1) := by decide +kernel
theorem dX11_change_72 : decode cX11_change 72 = .ok (.if_icmp .ne 20, 3) := by decide +kernel
theorem dX11_change_75 : decode cX11_change 75 = .ok (.aload_n 0, 1) := by decide +kernel
theorem dX11_change_76 : decode cX11_change 76 = .ok (.getfield 7, 3) := by decide +kernel
theorem dX11_change_79 : decode cX11_change 79 = .ok (.bipush 117, 2) := by decide +kernel
theorem dX11_change_81 : decode cX11_change 81 = .ok (.iload 6, 2) := by decide +kernel
theorem dX11_change_83 : decode cX11_change 83 = .ok (.iadd, 1) := by decide +kernel
theorem dX11_change_84 : decode cX11_change 84 = .ok (.iaload, 1) := by decide +kernel
theorem dX11_change_85 : decode cX11_change 85 = .ok (.ifCond .le 7, 3) := by decide +kernel
theorem dX11_change_88 : decode cX11_change 88 = .ok (.iconst 1, 1) := by decide +kernel
theorem dX11_change_89 : decode cX11_change 89 = .ok (.goto 4, 3) := by decide +kernel
theorem dX11_change_92 : decode cX11_change 92 = .ok (.iconst 0, 1) := by decide +kernel
theorem dX11_change_93 : decode cX11_change 93 = .ok (.istore 7, 2) := by decide +kernel
theorem dX11_change_95 : decode cX11_change 95 = .ok (.iload 5, 2) := by decide +kernel
theorem dX11_change_97 : decode cX11_change 97 = .ok (.iload 7, 2) := by decide +kernel
theorem dX11_change_99 : decode cX11_change 99 = .ok (.ifCond .eq 39, 3) := by decide +kernel
theorem dX11_change_102 : decode cX11_change 102 = .ok (.iload 4, 2) := by decide +kernel
theorem dX11_change_104 : decode cX11_change 104 = .ok (.iload_n 2, 1) := by decide +kernel
theorem dX11_change_105 : decode cX11_change 105 = .ok (.aload_n 0, 1) := by decide +kernel
theorem dX11_change_106 : decode cX11_change 106 = .ok (.getfield 7, 3) := by decide +kernel
theorem dX11_change_109 : decode cX11_change 109 = .ok (.bipush 99, 2) := by decide +kernel
theorem dX11_change_111 : decode cX11_change 111 = .ok (.iload 6, 2) := by decide +kernel
theorem dX11_change_113 : decode cX11_change 113 = .ok (.iadd, 1) := by decide +kernel
theorem dX11_change_114 : decode cX11_change 114 = .ok (.iaload, 1) := by decide +kernel
theorem dX11_change_115 : decode cX11_change 115 = .ok (.invokestatic 58, 3) := by decide +kernel
theorem dX11_change_118 : decode cX11_change 118 = .ok (.aload_n 0, 1) := by decide +kernel
theorem dX11_change_119 : decode cX11_change 119 = .ok (.getfield 7, 3) := by decide +kernel
theorem dX11_change_122 : decode cX11_change 122 = .ok (.bipush 117, 2) := by decide +kernel
theorem dX11_change_124 : decode cX11_change 124 = .ok (.iload 6, 2) := by decide +kernel
theorem dX11_change_126 : decode cX11_change 126 = .ok (.iadd, 1) := by decide +kernel
theorem dX11_change_127 : decode cX11_change 127 = .ok (.iaload, 1) := by decide +kernel
theorem dX11_change_128 : decode cX11_change 128 = .ok (.if_icmp .le 10, 3) := by decide +kernel
theorem dX11_change_131 : decode cX11_change 131 = .ok (.iconst 1, 1) := by decide +kernel
theorem dX11_change_132 : decode cX11_change 132 = .ok (.iload 6, 2) := by decide +kernel
theorem dX11_change_134 : decode cX11_change 134 = .ok (.ishl, 1) := by decide +kernel
theorem dX11_change_135 : decode cX11_change 135 = .ok (.goto 4, 3) := by decide +kernel
theorem dX11_change_138 : decode cX11_change 138 = .ok (.iconst 0, 1) := by decide +kernel
theorem dX11_change_139 : decode cX11_change 139 = .ok (.ior, 1) := by decide +kernel
theorem dX11_change_140 : decode cX11_change 140 = .ok (.istore 5, 2) := by decide +kernel
theorem dX11_change_142 : decode cX11_change 142 = .ok (.iinc 6 1, 3) := by decide +kernel
theorem dX11_change_145 : decode cX11_change 145 = .ok (.goto (-99), 3) := by decide +kernel
theorem dX11_change_148 : decode cX11_change 148 = .ok (.iconst 0, 1) := by decide +kernel
theorem dX11_change_149 : decode cX11_change 149 = .ok (.istore 6, 2) := by decide +kernel
theorem dX11_change_151 : decode cX11_change 151 = .ok (.iload 6, 2) := by decide +kernel
theorem dX11_change_153 : decode cX11_change 153 = .ok (.aload_n 0, 1) := by decide +kernel
theorem dX11_change_154 : decode cX11_change 154 = .ok (.getfield 7, 3) := by decide +kernel
theorem dX11_change_157 : decode cX11_change 157 = .ok (.iconst 4, 1) := by decide +kernel
theorem dX11_change_158 : decode cX11_change 158 = .ok (.iaload, 1) := by decide +kernel
theorem dX11_change_159 : decode cX11_change 159 = .ok (.if_icmp .ge 88, 3) := by decide +kernel
theorem dX11_change_162 : decode cX11_change 162 = .ok (.iload_n 3, 1) := by decide +kernel
theorem dX11_change_163 : decode cX11_change 163 = .ok (.iconst 1, 1) := by decide +kernel
theorem dX11_change_164 : decode cX11_change 164 = .ok (.if_icmp .ne 83, 3) := by decide +kernel
theorem dX11_change_167 : decode cX11_change 167 = .ok (.iload 4, 2) := by decide +kernel
theorem dX11_change_169 : decode cX11_change 169 = .ok (.iload_n 2, 1) := by decide +kernel
theorem dX11_change_170 : decode cX11_change 170 = .ok (.aload_n 0, 1) := by decide +kernel
theorem dX11_change_171 : decode cX11_change 171 = .ok (.getfield 7, 3) := by decide +kernel
theorem dX11_change_174 : decode cX11_change 174 = .ok (.bipush 123, 2) := by decide +kernel
theorem dX11_change_176 : decode cX11_change 176 = .ok (.iload 6, 2) := by decide +kernel
theorem dX11_change_178 : decode cX11_change 178 = .ok (.iadd, 1) := by decide +kernel
theorem dX11_change_179 : decode cX11_change 179 = .ok (.iaload, 1) := by decide +kernel
theorem dX11_change_180 : decode cX11_change 180 = .ok (.invokestatic 58, 3) := by decide +kernel
theorem dX11_change_183 : decode cX11_change 183 = .ok (.aload_n 0, 1) := by decide +kernel
theorem dX11_change_184 : decode cX11_change 184 = .ok (.iload_n 1, 1) := by decide +kernel
theorem dX11_change_185 : decode cX11_change 185 = .ok (.aload_n 0, 1) := by decide +kernel
theorem dX11_change_186 : decode cX11_change 186 = .ok (.getfield 7, 3) := by decide +kernel
theorem dX11_change_189 : decode cX11_change 189 = .ok (.bipush 123, 2) := by decide +kernel
theorem dX11_change_191 : decode cX11_change 191 = .ok (.iload 6, 2) := by decide +kernel
theorem dX11_change_193 : decode cX11_change 193 = .ok (.iadd, 1) := by decide +kernel
theorem dX11_change_194 : decode cX11_change 194 = .ok (.iaload, 1) := by decide +kernel
theorem dX11_change_195 : decode cX11_change 195 = .ok (.invokevirtual 88, 3) := by decide +kernel
theorem dX11_change_198 : decode cX11_change 198 = .ok (.if_icmp .ge 7, 3) := by decide +kernel
theorem dX11_change_201 : decode cX11_change 201 = .ok (.iconst 1, 1) := by decide +kernel
theorem dX11_change_202 : decode cX11_change 202 = .ok (.goto 4, 3) := by decide +kernel
theorem dX11_change_205 : decode cX11_change 205 = .ok (.iconst 0, 1) := by decide +kernel
theorem dX11_change_206 : decode cX11_change 206 = .ok (.istore 7, 2) := by decide +kernel
theorem dX11_change_208 : decode cX11_change 208 = .ok (.iload 5, 2) := by decide +kernel
theorem dX11_change_210 : decode cX11_change 210 = .ok (.aload_n 0, 1) := by decide +kernel
theorem dX11_change_211 : decode cX11_change 211 = .ok (.getfield 7, 3) := by decide +kernel
theorem dX11_change_214 : decode cX11_change 214 = .ok (.sipush 129, 3) := by decide +kernel
theorem dX11_change_217 : decode cX11_change 217 = .ok (.iload 6, 2) := by decide +kernel
theorem dX11_change_219 : decode cX11_change 219 = .ok (.iadd, 1) := by decide +kernel
theorem dX11_change_220 : decode cX11_change 220 = .ok (.iaload, 1) := by decide +kernel
theorem dX11_change_221 : decode cX11_change 221 = .ok (.iload_n 1, 1) := by decide +kernel
theorem dX11_change_222 : decode cX11_change 222 = .ok (.if_icmp .ne 15, 3) := by decide +kernel
theorem dX11_change_225 : decode cX11_change 225 = .ok (.iload 7, 2) := by decide +kernel
theorem dX11_change_227 : decode cX11_change 227 = .ok (.ifCond .eq 10, 3) := by decide +kernel
theorem dX11_change_230 : decode cX11_change 230 = .ok (.iconst 1, 1) := by decide +kernel
theorem dX11_change_231 : decode cX11_change 231 = .ok (.iload 6, 2) := by decide +kernel
theorem dX11_change_233 : decode cX11_change 233 = .ok (.ishl, 1) := by decide +kernel
theorem dX11_change_234 : decode cX11_change 234 = .ok (.goto 4, 3) := by decide +kernel
theorem dX11_change_237 : decode cX11_change 237 = .ok (.iconst 0, 1) := by decide +kernel
theorem dX11_change_238 : decode cX11_change 238 = .ok (.ior, 1) := by decide +kernel
theorem dX11_change_239 : decode cX11_change 239 = .ok (.istore 5, 2) := by decide +kernel
theorem dX11_change_241 : decode cX11_change 241 = .ok (.iinc 6 1, 3) := by decide +kernel
theorem dX11_change_244 : decode cX11_change 244 = .ok (.goto (-93), 3) := by decide +kernel
theorem dX11_change_247 : decode cX11_change 247 = .ok (.iload 5, 2) := by decide +kernel
theorem dX11_change_249 : decode cX11_change 249 = .ok (.ireturn, 1) := by decide +kernel
theorem dX11_well_0 : decode cX11_well 0 = .ok (.aload_n 0, 1) := by decide +kernel
theorem dX11_well_1 : decode cX11_well 1 = .ok (.iload_n 1, 1) := by decide +kernel
theorem dX11_well_2 : decode cX11_well 2 = .ok (.invokevirtual 68, 3) := by decide +kernel
theorem dX11_well_5 : decode cX11_well 5 = .ok (.ifCond .eq 15, 3) := by decide +kernel
theorem dX11_well_8 : decode cX11_well 8 = .ok (.iload_n 2, 1) := by decide +kernel
theorem dX11_well_9 : decode cX11_well 9 = .ok (.i2l, 1) := by decide +kernel
theorem dX11_well_10 : decode cX11_well 10 = .ok (.lconst 1, 1) := by decide +kernel
theorem dX11_well_11 : decode cX11_well 11 = .ok (.ldc2_w 81, 3) := by decide +kernel
theorem dX11_well_14 : decode cX11_well 14 = .ok (.invokestatic 50, 3) := by decide +kernel
theorem dX11_well_17 : decode cX11_well 17 = .ok (.ifCond .ne 5, 3) := by decide +kernel
theorem dX11_well_20 : decode cX11_well 20 = .ok (.iconst (-1), 1) := by decide +kernel
theorem dX11_well_21 : decode cX11_well 21 = .ok (.ireturn, 1) := by decide +kernel
theorem dX11_well_22 : decode cX11_well 22 = .ok (.aload_n 0, 1) := by decide +kernel
theorem dX11_well_23 : decode cX11_well 23 = .ok (.getfield 7, 3) := by decide +kernel
theorem dX11_well_26 : decode cX11_well 26 = .ok (.bipush 6, 2) := by decide +kernel
theorem dX11_well_28 : decode cX11_well 28 = .ok (.iload_n 1, 1) := by decide +kernel
theorem dX11_well_29 : decode cX11_well 29 = .ok (.iadd, 1) := by decide +kernel
theorem dX11_well_30 : decode cX11_well 30 = .ok (.iaload, 1) := by decide +kernel
theorem dX11_well_31 : decode cX11_well 31 = .ok (.istore_n 3, 1) := by decide +kernel
theorem dX11_well_32 : decode cX11_well 32 = .ok (.iload_n 3, 1) := by decide +kernel
theorem dX11_well_33 : decode cX11_well 33 = .ok (.iconst 2, 1) := by decide +kernel
theorem dX11_well_34 : decode cX11_well 34 = .ok (.if_icmp .ne 8, 3) := by decide +kernel
theorem dX11_well_37 : decode cX11_well 37 = .ok (.bipush (-4), 2) := by decide +kernel
theorem dX11_well_39 : decode cX11_well 39 = .ok (.goto 11, 3) := by decide +kernel
theorem dX11_well_42 : decode cX11_well 42 = .ok (.iload_n 2, 1) := by decide +kernel
theorem dX11_well_43 : decode cX11_well 43 = .ok (.aload_n 0, 1) := by decide +kernel
theorem dX11_well_44 : decode cX11_well 44 = .ok (.iload_n 1, 1) := by decide +kernel
theorem dX11_well_45 : decode cX11_well 45 = .ok (.iconst 1, 1) := by decide +kernel
theorem dX11_well_46 : decode cX11_well 46 = .ok (.invokevirtual 88, 3) := by decide +kernel
theorem dX11_well_49 : decode cX11_well 49 = .ok (.imul, 1) := by decide +kernel
theorem dX11_well_50 : decode cX11_well 50 = .ok (.ireturn, 1) := by decide +kernel
theorem dX11_image_0 : decode cX11_image 0 = .ok (.iconst 0, 1) := by decide +kernel
theorem dX11_image_1 : decode cX11_image 1 = .ok (.istore_n 1, 1) := by decide +kernel
theorem dX11_image_2 : decode cX11_image 2 = .ok (.iload_n 1, 1) := by decide +kernel
theorem dX11_image_3 : decode cX11_image 3 = .ok (.sipush 135, 3) := by decide +kernel
theorem dX11_image_6 : decode cX11_image 6 = .ok (.if_icmp .ge 21, 3) := by decide +kernel
theorem dX11_image_9 : decode cX11_image 9 = .ok (.aload_n 0, 1) := by decide +kernel
theorem dX11_image_10 : decode cX11_image 10 = .ok (.getfield 13, 3) := by decide +kernel
theorem dX11_image_13 : decode cX11_image 13 = .ok (.iload_n 1, 1) := by decide +kernel
theorem dX11_image_14 : decode cX11_image 14 = .ok (.aload_n 0, 1) := by decide +kernel
theorem dX11_image_15 : decode cX11_image 15 = .ok (.getfield 7, 3) := by decide +kernel
theorem dX11_image_18 : decode cX11_image 18 = .ok (.iload_n 1, 1) := by decide +kernel
theorem dX11_image_19 : decode cX11_image 19 = .ok (.iaload, 1) := by decide +kernel
theorem dX11_image_20 : decode cX11_image 20 = .ok (.iastore, 1) := by decide +kernel
theorem dX11_image_21 : decode cX11_image 21 = .ok (.iinc 1 1, 3) := by decide +kernel
theorem dX11_image_24 : decode cX11_image 24 = .ok (.goto (-22), 3) := by decide +kernel
theorem dX11_image_27 : decode cX11_image 27 = .ok (.aload_n 0, 1) := by decide +kernel
theorem dX11_image_28 : decode cX11_image 28 = .ok (.iconst 1, 1) := by decide +kernel
theorem dX11_image_29 : decode cX11_image 29 = .ok (.putfield 216, 3) := by decide +kernel
theorem dX11_image_32 : decode cX11_image 32 = .ok (.iconst 1, 1) := by decide +kernel
theorem dX11_image_33 : decode cX11_image 33 = .ok (.ireturn, 1) := by decide +kernel
theorem dX11_restore_0 : decode cX11_restore 0 = .ok (.aload_n 0, 1) := by decide +kernel
theorem dX11_restore_1 : decode cX11_restore 1 = .ok (.getfield 216, 3) := by decide +kernel
theorem dX11_restore_4 : decode cX11_restore 4 = .ok (.ifCond .ne 6, 3) := by decide +kernel
theorem dX11_restore_7 : decode cX11_restore 7 = .ok (.bipush (-4), 2) := by decide +kernel
theorem dX11_restore_9 : decode cX11_restore 9 = .ok (.ireturn, 1) := by decide +kernel
theorem dX11_restore_10 : decode cX11_restore 10 = .ok (.iconst 0, 1) := by decide +kernel
theorem dX11_restore_11 : decode cX11_restore 11 = .ok (.istore_n 1, 1) := by decide +kernel
theorem dX11_restore_12 : decode cX11_restore 12 = .ok (.iload_n 1, 1) := by decide +kernel
theorem dX11_restore_13 : decode cX11_restore 13 = .ok (.sipush 135, 3) := by decide +kernel
theorem dX11_restore_16 : decode cX11_restore 16 = .ok (.if_icmp .ge 21, 3) := by decide +kernel
theorem dX11_restore_19 : decode cX11_restore 19 = .ok (.aload_n 0, 1) := by decide +kernel
theorem dX11_restore_20 : decode cX11_restore 20 = .ok (.getfield 7, 3) := by decide +kernel
theorem dX11_restore_23 : decode cX11_restore 23 = .ok (.iload_n 1, 1) := by decide +kernel
theorem dX11_restore_24 : decode cX11_restore 24 = .ok (.aload_n 0, 1) := by decide +kernel
theorem dX11_restore_25 : decode cX11_restore 25 = .ok (.getfield 13, 3) := by decide +kernel
theorem dX11_restore_28 : decode cX11_restore 28 = .ok (.iload_n 1, 1) := by decide +kernel
theorem dX11_restore_29 : decode cX11_restore 29 = .ok (.iaload, 1) := by decide +kernel
theorem dX11_restore_30 : decode cX11_restore 30 = .ok (.iastore, 1) := by decide +kernel
theorem dX11_restore_31 : decode cX11_restore 31 = .ok (.iinc 1 1, 3) := by decide +kernel
theorem dX11_restore_34 : decode cX11_restore 34 = .ok (.goto (-22), 3) := by decide +kernel
theorem dX11_restore_37 : decode cX11_restore 37 = .ok (.iconst 1, 1) := by decide +kernel
theorem dX11_restore_38 : decode cX11_restore 38 = .ok (.ireturn, 1) := by decide +kernel
theorem dX11_isSheet_0 : decode cX11_isSheet 0 = .ok (.iload_n 0, 1) := by decide +kernel
theorem dX11_isSheet_1 : decode cX11_isSheet 1 = .ok (.i2l, 1) := by decide +kernel
theorem dX11_isSheet_2 : decode cX11_isSheet 2 = .ok (.lconst 0, 1) := by decide +kernel
theorem dX11_isSheet_3 : decode cX11_isSheet 3 = .ok (.ldc2_w 62, 3) := by decide +kernel
theorem dX11_isSheet_6 : decode cX11_isSheet 6 = .ok (.invokestatic 50, 3) := by decide +kernel
theorem dX11_isSheet_9 : decode cX11_isSheet 9 = .ok (.ireturn, 1) := by decide +kernel
theorem dX11_isLane_0 : decode cX11_isLane 0 = .ok (.iload_n 0, 1) := by decide +kernel
theorem dX11_isLane_1 : decode cX11_isLane 1 = .ok (.i2l, 1) := by decide +kernel
theorem dX11_isLane_2 : decode cX11_isLane 2 = .ok (.lconst 0, 1) := by decide +kernel
theorem dX11_isLane_3 : decode cX11_isLane 3 = .ok (.ldc2_w 93, 3) := by decide +kernel
theorem dX11_isLane_6 : decode cX11_isLane 6 = .ok (.invokestatic 50, 3) := by decide +kernel
theorem dX11_isLane_9 : decode cX11_isLane 9 = .ok (.ireturn, 1) := by decide +kernel
theorem dX11_finds_0 : decode cX11_finds 0 = .ok (.aload_n 0, 1) := by decide +kernel
theorem dX11_finds_1 : decode cX11_finds 1 = .ok (.getfield 22, 3) := by decide +kernel
theorem dX11_finds_4 : decode cX11_finds 4 = .ok (.iload_n 1, 1) := by decide +kernel
theorem dX11_finds_5 : decode cX11_finds 5 = .ok (.iaload, 1) := by decide +kernel
theorem dX11_finds_6 : decode cX11_finds 6 = .ok (.ifCond .ge 8, 3) := by decide +kernel
theorem dX11_finds_9 : decode cX11_finds 9 = .ok (.bipush (-11), 2) := by decide +kernel
theorem dX11_finds_11 : decode cX11_finds 11 = .ok (.goto 50, 3) := by decide +kernel
theorem dX11_finds_14 : decode cX11_finds 14 = .ok (.aload_n 0, 1) := by decide +kernel
theorem dX11_finds_15 : decode cX11_finds 15 = .ok (.getfield 19, 3) := by decide +kernel
theorem dX11_finds_18 : decode cX11_finds 18 = .ok (.iload_n 1, 1) := by decide +kernel
theorem dX11_finds_19 : decode cX11_finds 19 = .ok (.iaload, 1) := by decide +kernel
theorem dX11_finds_20 : decode cX11_finds 20 = .ok (.iload_n 2, 1) := by decide +kernel
theorem dX11_finds_21 : decode cX11_finds 21 = .ok (.if_icmp .eq 8, 3) := by decide +kernel
theorem dX11_finds_24 : decode cX11_finds 24 = .ok (.bipush (-12), 2) := by decide +kernel
theorem dX11_finds_26 : decode cX11_finds 26 = .ok (.goto 35, 3) := by decide +kernel
theorem dX11_finds_29 : decode cX11_finds 29 = .ok (.iload_n 3, 1) := by decide +kernel
theorem dX11_finds_30 : decode cX11_finds 30 = .ok (.ifCond .lt 25, 3) := by decide +kernel
theorem dX11_finds_33 : decode cX11_finds 33 = .ok (.iload 4, 2) := by decide +kernel
theorem dX11_finds_35 : decode cX11_finds 35 = .ok (.ifCond .lt 20, 3) := by decide +kernel
theorem dX11_finds_38 : decode cX11_finds 38 = .ok (.iload_n 3, 1) := by decide +kernel
theorem dX11_finds_39 : decode cX11_finds 39 = .ok (.i2l, 1) := by decide +kernel
theorem dX11_finds_40 : decode cX11_finds 40 = .ok (.iload 4, 2) := by decide +kernel
theorem dX11_finds_42 : decode cX11_finds 42 = .ok (.i2l, 1) := by decide +kernel
theorem dX11_finds_43 : decode cX11_finds 43 = .ok (.ladd, 1) := by decide +kernel
theorem dX11_finds_44 : decode cX11_finds 44 = .ok (.aload_n 0, 1) := by decide +kernel
theorem dX11_finds_45 : decode cX11_finds 45 = .ok (.getfield 22, 3) := by decide +kernel
theorem dX11_finds_48 : decode cX11_finds 48 = .ok (.iload_n 1, 1) := by decide +kernel
theorem dX11_finds_49 : decode cX11_finds 49 = .ok (.iaload, 1) := by decide +kernel
theorem dX11_finds_50 : decode cX11_finds 50 = .ok (.i2l, 1) := by decide +kernel
theorem dX11_finds_51 : decode cX11_finds 51 = .ok (.lcmp, 1) := by decide +kernel
theorem dX11_finds_52 : decode cX11_finds 52 = .ok (.ifCond .le 8, 3) := by decide +kernel
theorem dX11_finds_55 : decode cX11_finds 55 = .ok (.bipush (-13), 2) := by decide +kernel
theorem dX11_finds_57 : decode cX11_finds 57 = .ok (.goto 4, 3) := by decide +kernel
theorem dX11_finds_60 : decode cX11_finds 60 = .ok (.iconst 0, 1) := by decide +kernel
theorem dX11_finds_61 : decode cX11_finds 61 = .ok (.ireturn, 1) := by decide +kernel
theorem dX11_evens_0 : decode cX11_evens 0 = .ok (.iconst 0, 1) := by decide +kernel
theorem dX11_evens_1 : decode cX11_evens 1 = .ok (.istore 4, 2) := by decide +kernel
theorem dX11_evens_3 : decode cX11_evens 3 = .ok (.iload 4, 2) := by decide +kernel
theorem dX11_evens_5 : decode cX11_evens 5 = .ok (.bipush 30, 2) := by decide +kernel
theorem dX11_evens_7 : decode cX11_evens 7 = .ok (.if_icmp .gt 122, 3) := by decide +kernel
theorem dX11_evens_10 : decode cX11_evens 10 = .ok (.iconst 0, 1) := by decide +kernel
theorem dX11_evens_11 : decode cX11_evens 11 = .ok (.istore 5, 2) := by decide +kernel
theorem dX11_evens_13 : decode cX11_evens 13 = .ok (.iload 5, 2) := by decide +kernel
theorem dX11_evens_15 : decode cX11_evens 15 = .ok (.iload 4, 2) := by decide +kernel
theorem dX11_evens_17 : decode cX11_evens 17 = .ok (.if_icmp .gt 106, 3) := by decide +kernel
theorem dX11_evens_20 : decode cX11_evens 20 = .ok (.iload 5, 2) := by decide +kernel
theorem dX11_evens_22 : decode cX11_evens 22 = .ok (.istore 6, 2) := by decide +kernel
theorem dX11_evens_24 : decode cX11_evens 24 = .ok (.iload 6, 2) := by decide +kernel
theorem dX11_evens_26 : decode cX11_evens 26 = .ok (.bipush 6, 2) := by decide +kernel
theorem dX11_evens_28 : decode cX11_evens 28 = .ok (.iload 5, 2) := by decide +kernel
theorem dX11_evens_30 : decode cX11_evens 30 = .ok (.imul, 1) := by decide +kernel
theorem dX11_evens_31 : decode cX11_evens 31 = .ok (.if_icmp .gt 86, 3) := by decide +kernel
theorem dX11_evens_34 : decode cX11_evens 34 = .ok (.iload_n 1, 1) := by decide +kernel
theorem dX11_evens_35 : decode cX11_evens 35 = .ok (.iload_n 3, 1) := by decide +kernel
theorem dX11_evens_36 : decode cX11_evens 36 = .ok (.iload 6, 2) := by decide +kernel
theorem dX11_evens_38 : decode cX11_evens 38 = .ok (.imul, 1) := by decide +kernel
theorem dX11_evens_39 : decode cX11_evens 39 = .ok (.iadd, 1) := by decide +kernel
theorem dX11_evens_40 : decode cX11_evens 40 = .ok (.istore 7, 2) := by decide +kernel
theorem dX11_evens_42 : decode cX11_evens 42 = .ok (.bipush 6, 2) := by decide +kernel
theorem dX11_evens_44 : decode cX11_evens 44 = .ok (.iload 4, 2) := by decide +kernel
theorem dX11_evens_46 : decode cX11_evens 46 = .ok (.iload 5, 2) := by decide +kernel
theorem dX11_evens_48 : decode cX11_evens 48 = .ok (.isub, 1) := by decide +kernel
theorem dX11_evens_49 : decode cX11_evens 49 = .ok (.imul, 1) := by decide +kernel
theorem dX11_evens_50 : decode cX11_evens 50 = .ok (.istore 8, 2) := by decide +kernel
theorem dX11_evens_52 : decode cX11_evens 52 = .ok (.iload_n 2, 1) := by decide +kernel
theorem dX11_evens_53 : decode cX11_evens 53 = .ok (.ifCond .ne 16, 3) := by decide +kernel
theorem dX11_evens_56 : decode cX11_evens 56 = .ok (.iload 7, 2) := by decide +kernel
theorem dX11_evens_58 : decode cX11_evens 58 = .ok (.ifCond .ne 7, 3) := by decide +kernel
theorem dX11_evens_61 : decode cX11_evens 61 = .ok (.iconst 1, 1) := by decide +kernel
theorem dX11_evens_62 : decode cX11_evens 62 = .ok (.goto 39, 3) := by decide +kernel
theorem dX11_evens_65 : decode cX11_evens 65 = .ok (.iconst 0, 1) := by decide +kernel
theorem dX11_evens_66 : decode cX11_evens 66 = .ok (.goto 35, 3) := by decide +kernel
theorem dX11_evens_69 : decode cX11_evens 69 = .ok (.iload 7, 2) := by decide +kernel
theorem dX11_evens_71 : decode cX11_evens 71 = .ok (.iload_n 2, 1) := by decide +kernel
theorem dX11_evens_72 : decode cX11_evens 72 = .ok (.irem, 1) := by decide +kernel
theorem dX11_evens_73 : decode cX11_evens 73 = .ok (.ifCond .ne 27, 3) := by decide +kernel
theorem dX11_evens_76 : decode cX11_evens 76 = .ok (.iload 7, 2) := by decide +kernel
theorem dX11_evens_78 : decode cX11_evens 78 = .ok (.iload_n 2, 1) := by decide +kernel
theorem dX11_evens_79 : decode cX11_evens 79 = .ok (.idiv, 1) := by decide +kernel
theorem dX11_evens_80 : decode cX11_evens 80 = .ok (.i2l, 1) := by decide +kernel
theorem dX11_evens_81 : decode cX11_evens 81 = .ok (.iload 4, 2) := by decide +kernel
theorem dX11_evens_83 : decode cX11_evens 83 = .ok (.iload 5, 2) := by decide +kernel
theorem dX11_evens_85 : decode cX11_evens 85 = .ok (.isub, 1) := by decide +kernel
theorem dX11_evens_86 : decode cX11_evens 86 = .ok (.i2l, 1) := by decide +kernel
theorem dX11_evens_87 : decode cX11_evens 87 = .ok (.iload 8, 2) := by decide +kernel
theorem dX11_evens_89 : decode cX11_evens 89 = .ok (.i2l, 1) := by decide +kernel
theorem dX11_evens_90 : decode cX11_evens 90 = .ok (.invokestatic 50, 3) := by decide +kernel
theorem dX11_evens_93 : decode cX11_evens 93 = .ok (.ifCond .eq 7, 3) := by decide +kernel
theorem dX11_evens_96 : decode cX11_evens 96 = .ok (.iconst 1, 1) := by decide +kernel
theorem dX11_evens_97 : decode cX11_evens 97 = .ok (.goto 4, 3) := by decide +kernel
theorem dX11_evens_100 : decode cX11_evens 100 = .ok (.iconst 0, 1) := by decide +kernel
theorem dX11_evens_101 : decode cX11_evens 101 = .ok (.istore 9, 2) := by decide +kernel
theorem dX11_evens_103 : decode cX11_evens 103 = .ok (.iload 9, 2) := by decide +kernel
theorem dX11_evens_105 : decode cX11_evens 105 = .ok (.ifCond .eq 6, 3) := by decide +kernel
theorem dX11_evens_108 : decode cX11_evens 108 = .ok (.iload 4, 2) := by decide +kernel
theorem dX11_evens_110 : decode cX11_evens 110 = .ok (.ireturn, 1) := by decide +kernel
theorem dX11_evens_111 : decode cX11_evens 111 = .ok (.iinc 6 1, 3) := by decide +kernel
theorem dX11_evens_114 : decode cX11_evens 114 = .ok (.goto (-90), 3) := by decide +kernel
theorem dX11_evens_117 : decode cX11_evens 117 = .ok (.iinc 5 1, 3) := by decide +kernel
theorem dX11_evens_120 : decode cX11_evens 120 = .ok (.goto (-107), 3) := by decide +kernel
theorem dX11_evens_123 : decode cX11_evens 123 = .ok (.iinc 4 1, 3) := by decide +kernel
theorem dX11_evens_126 : decode cX11_evens 126 = .ok (.goto (-123), 3) := by decide +kernel
theorem dX11_evens_129 : decode cX11_evens 129 = .ok (.bipush (-4), 2) := by decide +kernel
theorem dX11_evens_131 : decode cX11_evens 131 = .ok (.ireturn, 1) := by decide +kernel
theorem dX11_beam_0 : decode cX11_beam 0 = .ok (.aload_n 0, 1) := by decide +kernel
theorem dX11_beam_1 : decode cX11_beam 1 = .ok (.iload_n 1, 1) := by decide +kernel
theorem dX11_beam_2 : decode cX11_beam 2 = .ok (.invokevirtual 68, 3) := by decide +kernel
theorem dX11_beam_5 : decode cX11_beam 5 = .ok (.ifCond .eq 47, 3) := by decide +kernel
theorem dX11_beam_8 : decode cX11_beam 8 = .ok (.aload_n 0, 1) := by decide +kernel
theorem dX11_beam_9 : decode cX11_beam 9 = .ok (.iload_n 2, 1) := by decide +kernel
theorem dX11_beam_10 : decode cX11_beam 10 = .ok (.invokevirtual 68, 3) := by decide +kernel
theorem dX11_beam_13 : decode cX11_beam 13 = .ok (.ifCond .eq 39, 3) := by decide +kernel
theorem dX11_beam_16 : decode cX11_beam 16 = .ok (.iload_n 3, 1) := by decide +kernel
theorem dX11_beam_17 : decode cX11_beam 17 = .ok (.invokestatic 220, 3) := by decide +kernel
theorem dX11_beam_20 : decode cX11_beam 20 = .ok (.ifCond .eq 32, 3) := by decide +kernel
theorem dX11_beam_23 : decode cX11_beam 23 = .ok (.iload 4, 2) := by decide +kernel
theorem dX11_beam_25 : decode cX11_beam 25 = .ok (.invokestatic 223, 3) := by decide +kernel
theorem dX11_beam_28 : decode cX11_beam 28 = .ok (.ifCond .eq 24, 3) := by decide +kernel
theorem dX11_beam_31 : decode cX11_beam 31 = .ok (.iload 6, 2) := by decide +kernel
theorem dX11_beam_33 : decode cX11_beam 33 = .ok (.i2l, 1) := by decide +kernel
theorem dX11_beam_34 : decode cX11_beam 34 = .ok (.lconst 0, 1) := by decide +kernel
theorem dX11_beam_35 : decode cX11_beam 35 = .ok (.ldc2_w 102, 3) := by decide +kernel
theorem dX11_beam_38 : decode cX11_beam 38 = .ok (.invokestatic 50, 3) := by decide +kernel
theorem dX11_beam_41 : decode cX11_beam 41 = .ok (.ifCond .eq 11, 3) := by decide +kernel
theorem dX11_beam_44 : decode cX11_beam 44 = .ok (.iload 7, 2) := by decide +kernel
theorem dX11_beam_46 : decode cX11_beam 46 = .ok (.invokestatic 179, 3) := by decide +kernel
theorem dX11_beam_49 : decode cX11_beam 49 = .ok (.ifCond .ne 6, 3) := by decide +kernel
theorem dX11_beam_52 : decode cX11_beam 52 = .ok (.ldc 171, 2) := by decide +kernel
theorem dX11_beam_54 : decode cX11_beam 54 = .ok (.ireturn, 1) := by decide +kernel
theorem dX11_beam_55 : decode cX11_beam 55 = .ok (.aload_n 0, 1) := by decide +kernel
theorem dX11_beam_56 : decode cX11_beam 56 = .ok (.iload_n 3, 1) := by decide +kernel
theorem dX11_beam_57 : decode cX11_beam 57 = .ok (.iload 4, 2) := by decide +kernel
theorem dX11_beam_59 : decode cX11_beam 59 = .ok (.iload 5, 2) := by decide +kernel
theorem dX11_beam_61 : decode cX11_beam 61 = .ok (.iconst 2, 1) := by decide +kernel
theorem dX11_beam_62 : decode cX11_beam 62 = .ok (.iload 6, 2) := by decide +kernel
theorem dX11_beam_64 : decode cX11_beam 64 = .ok (.imul, 1) := by decide +kernel
theorem dX11_beam_65 : decode cX11_beam 65 = .ok (.invokevirtual 226, 3) := by decide +kernel
theorem dX11_beam_68 : decode cX11_beam 68 = .ok (.istore 8, 2) := by decide +kernel
theorem dX11_beam_70 : decode cX11_beam 70 = .ok (.iload 8, 2) := by decide +kernel
theorem dX11_beam_72 : decode cX11_beam 72 = .ok (.ifCond .ge 9, 3) := by decide +kernel
theorem dX11_beam_75 : decode cX11_beam 75 = .ok (.iload 8, 2) := by decide +kernel
theorem dX11_beam_77 : decode cX11_beam 77 = .ok (.ldc 229, 2) := by decide +kernel
theorem dX11_beam_79 : decode cX11_beam 79 = .ok (.isub, 1) := by decide +kernel
theorem dX11_beam_80 : decode cX11_beam 80 = .ok (.ireturn, 1) := by decide +kernel
theorem dX11_beam_81 : decode cX11_beam 81 = .ok (.iconst 0, 1) := by decide +kernel
theorem dX11_beam_82 : decode cX11_beam 82 = .ok (.istore 9, 2) := by decide +kernel
theorem dX11_beam_84 : decode cX11_beam 84 = .ok (.iconst 0, 1) := by decide +kernel
theorem dX11_beam_85 : decode cX11_beam 85 = .ok (.istore 10, 2) := by decide +kernel
theorem dX11_beam_87 : decode cX11_beam 87 = .ok (.iload 10, 2) := by decide +kernel
theorem dX11_beam_89 : decode cX11_beam 89 = .ok (.iload 6, 2) := by decide +kernel
theorem dX11_beam_91 : decode cX11_beam 91 = .ok (.if_icmp .ge 113, 3) := by decide +kernel
theorem dX11_beam_94 : decode cX11_beam 94 = .ok (.aload_n 0, 1) := by decide +kernel
theorem dX11_beam_95 : decode cX11_beam 95 = .ok (.getfield 25, 3) := by decide +kernel
theorem dX11_beam_98 : decode cX11_beam 98 = .ok (.bipush 24, 2) := by decide +kernel
theorem dX11_beam_100 : decode cX11_beam 100 = .ok (.iload_n 3, 1) := by decide +kernel
theorem dX11_beam_101 : decode cX11_beam 101 = .ok (.imul, 1) := by decide +kernel
theorem dX11_beam_102 : decode cX11_beam 102 = .ok (.iload 5, 2) := by decide +kernel
theorem dX11_beam_104 : decode cX11_beam 104 = .ok (.iadd, 1) := by decide +kernel
theorem dX11_beam_105 : decode cX11_beam 105 = .ok (.iconst 2, 1) := by decide +kernel
theorem dX11_beam_106 : decode cX11_beam 106 = .ok (.iload 10, 2) := by decide +kernel
theorem dX11_beam_108 : decode cX11_beam 108 = .ok (.imul, 1) := by decide +kernel
theorem dX11_beam_109 : decode cX11_beam 109 = .ok (.iadd, 1) := by decide +kernel
theorem dX11_beam_110 : decode cX11_beam 110 = .ok (.laload, 1) := by decide +kernel
theorem dX11_beam_111 : decode cX11_beam 111 = .ok (.lstore 11, 2) := by decide +kernel
theorem dX11_beam_113 : decode cX11_beam 113 = .ok (.aload_n 0, 1) := by decide +kernel
theorem dX11_beam_114 : decode cX11_beam 114 = .ok (.getfield 25, 3) := by decide +kernel
theorem dX11_beam_117 : decode cX11_beam 117 = .ok (.bipush 24, 2) := by decide +kernel
theorem dX11_beam_119 : decode cX11_beam 119 = .ok (.iload_n 3, 1) := by decide +kernel
theorem dX11_beam_120 : decode cX11_beam 120 = .ok (.imul, 1) := by decide +kernel
theorem dX11_beam_121 : decode cX11_beam 121 = .ok (.iload 5, 2) := by decide +kernel
theorem dX11_beam_123 : decode cX11_beam 123 = .ok (.iadd, 1) := by decide +kernel
theorem dX11_beam_124 : decode cX11_beam 124 = .ok (.iconst 2, 1) := by decide +kernel
theorem dX11_beam_125 : decode cX11_beam 125 = .ok (.iload 10, 2) := by decide +kernel
theorem dX11_beam_127 : decode cX11_beam 127 = .ok (.imul, 1) := by decide +kernel
theorem dX11_beam_128 : decode cX11_beam 128 = .ok (.iadd, 1) := by decide +kernel
theorem dX11_beam_129 : decode cX11_beam 129 = .ok (.iconst 1, 1) := by decide +kernel
theorem dX11_beam_130 : decode cX11_beam 130 = .ok (.iadd, 1) := by decide +kernel
theorem dX11_beam_131 : decode cX11_beam 131 = .ok (.laload, 1) := by decide +kernel
theorem dX11_beam_132 : decode cX11_beam 132 = .ok (.lstore 13, 2) := by decide +kernel
theorem dX11_beam_134 : decode cX11_beam 134 = .ok (.lload 11, 2) := by decide +kernel
theorem dX11_beam_136 : decode cX11_beam 136 = .ok (.lconst 1, 1) := by decide +kernel
theorem dX11_beam_137 : decode cX11_beam 137 = .ok (.ldc2_w 83, 3) := by decide +kernel
theorem dX11_beam_140 : decode cX11_beam 140 = .ok (.invokestatic 50, 3) := by decide +kernel
theorem dX11_beam_143 : decode cX11_beam 143 = .ok (.ifCond .eq 24, 3) := by decide +kernel
theorem dX11_beam_146 : decode cX11_beam 146 = .ok (.lload 13, 2) := by decide +kernel
theorem dX11_beam_148 : decode cX11_beam 148 = .ok (.ldc2_w 230, 3) := by decide +kernel
theorem dX11_beam_151 : decode cX11_beam 151 = .ok (.ldc2_w 232, 3) := by decide +kernel
theorem dX11_beam_154 : decode cX11_beam 154 = .ok (.invokestatic 50, 3) := by decide +kernel
theorem dX11_beam_157 : decode cX11_beam 157 = .ok (.ifCond .eq 10, 3) := by decide +kernel
theorem dX11_beam_160 : decode cX11_beam 160 = .ok (.lload 13, 2) := by decide +kernel
theorem dX11_beam_162 : decode cX11_beam 162 = .ok (.lconst 0, 1) := by decide +kernel
theorem dX11_beam_163 : decode cX11_beam 163 = .ok (.lcmp, 1) := by decide +kernel
theorem dX11_beam_164 : decode cX11_beam 164 = .ok (.ifCond .ne 6, 3) := by decide +kernel
theorem dX11_beam_167 : decode cX11_beam 167 = .ok (.ldc 234, 2) := by decide +kernel
theorem dX11_beam_169 : decode cX11_beam 169 = .ok (.ireturn, 1) := by decide +kernel
theorem dX11_beam_170 : decode cX11_beam 170 = .ok (.iload 9, 2) := by decide +kernel
theorem dX11_beam_172 : decode cX11_beam 172 = .ok (.aload_n 0, 1) := by decide +kernel
theorem dX11_beam_173 : decode cX11_beam 173 = .ok (.lload 13, 2) := by decide +kernel
theorem dX11_beam_175 : decode cX11_beam 175 = .ok (.lconst 0, 1) := by decide +kernel
theorem dX11_beam_176 : decode cX11_beam 176 = .ok (.lcmp, 1) := by decide +kernel
theorem dX11_beam_177 : decode cX11_beam 177 = .ok (.ifCond .ge 7, 3) := by decide +kernel
theorem dX11_beam_180 : decode cX11_beam 180 = .ok (.iload_n 1, 1) := by decide +kernel
theorem dX11_beam_181 : decode cX11_beam 181 = .ok (.goto 4, 3) := by decide +kernel
theorem dX11_beam_184 : decode cX11_beam 184 = .ok (.iload_n 2, 1) := by decide +kernel
theorem dX11_beam_185 : decode cX11_beam 185 = .ok (.lload 11, 2) := by decide +kernel
theorem dX11_beam_187 : decode cX11_beam 187 = .ok (.l2i, 1) := by decide +kernel
theorem dX11_beam_188 : decode cX11_beam 188 = .ok (.invokevirtual 88, 3) := by decide +kernel
theorem dX11_beam_191 : decode cX11_beam 191 = .ok (.lload 13, 2) := by decide +kernel
theorem dX11_beam_193 : decode cX11_beam 193 = .ok (.l2i, 1) := by decide +kernel
theorem dX11_beam_194 : decode cX11_beam 194 = .ok (.imul, 1) := by decide +kernel
theorem dX11_beam_195 : decode cX11_beam 195 = .ok (.iadd, 1) := by decide +kernel
theorem dX11_beam_196 : decode cX11_beam 196 = .ok (.istore 9, 2) := by decide +kernel
theorem dX11_beam_198 : decode cX11_beam 198 = .ok (.iinc 10 1, 3) := by decide +kernel
theorem dX11_beam_201 : decode cX11_beam 201 = .ok (.goto (-114), 3) := by decide +kernel
theorem dX11_beam_204 : decode cX11_beam 204 = .ok (.iload 7, 2) := by decide +kernel
theorem dX11_beam_206 : decode cX11_beam 206 = .ok (.ifCond .ne 6, 3) := by decide +kernel
theorem dX11_beam_209 : decode cX11_beam 209 = .ok (.iload 9, 2) := by decide +kernel
theorem dX11_beam_211 : decode cX11_beam 211 = .ok (.ireturn, 1) := by decide +kernel
theorem dX11_beam_212 : decode cX11_beam 212 = .ok (.aload_n 0, 1) := by decide +kernel
theorem dX11_beam_213 : decode cX11_beam 213 = .ok (.iload 9, 2) := by decide +kernel
theorem dX11_beam_215 : decode cX11_beam 215 = .ok (.aload_n 0, 1) := by decide +kernel
theorem dX11_beam_216 : decode cX11_beam 216 = .ok (.iload_n 1, 1) := by decide +kernel
theorem dX11_beam_217 : decode cX11_beam 217 = .ok (.iconst 1, 1) := by decide +kernel
theorem dX11_beam_218 : decode cX11_beam 218 = .ok (.invokevirtual 88, 3) := by decide +kernel
theorem dX11_beam_221 : decode cX11_beam 221 = .ok (.aload_n 0, 1) := by decide +kernel
theorem dX11_beam_222 : decode cX11_beam 222 = .ok (.iload_n 2, 1) := by decide +kernel
theorem dX11_beam_223 : decode cX11_beam 223 = .ok (.iconst 1, 1) := by decide +kernel
theorem dX11_beam_224 : decode cX11_beam 224 = .ok (.invokevirtual 88, 3) := by decide +kernel
theorem dX11_beam_227 : decode cX11_beam 227 = .ok (.invokevirtual 235, 3) := by decide +kernel
theorem dX11_beam_230 : decode cX11_beam 230 = .ok (.istore 10, 2) := by decide +kernel
theorem dX11_beam_232 : decode cX11_beam 232 = .ok (.iload 10, 2) := by decide +kernel
theorem dX11_beam_234 : decode cX11_beam 234 = .ok (.bipush (-4), 2) := by decide +kernel
theorem dX11_beam_236 : decode cX11_beam 236 = .ok (.if_icmp .ne 8, 3) := by decide +kernel
theorem dX11_beam_239 : decode cX11_beam 239 = .ok (.ldc 175, 2) := by decide +kernel
theorem dX11_beam_241 : decode cX11_beam 241 = .ok (.goto 5, 3) := by decide +kernel
theorem dX11_beam_244 : decode cX11_beam 244 = .ok (.iload 10, 2) := by decide +kernel
theorem dX11_beam_246 : decode cX11_beam 246 = .ok (.ireturn, 1) := by decide +kernel
theorem dX11_layBook_0 : decode cX11_layBook 0 = .ok (.iconst 0, 1) := by decide +kernel
theorem dX11_layBook_1 : decode cX11_layBook 1 = .ok (.istore 6, 2) := by decide +kernel
theorem dX11_layBook_3 : decode cX11_layBook 3 = .ok (.iload 6, 2) := by decide +kernel
theorem dX11_layBook_5 : decode cX11_layBook 5 = .ok (.iconst 4, 1) := by decide +kernel
theorem dX11_layBook_6 : decode cX11_layBook 6 = .ok (.if_icmp .ge 19, 3) := by decide +kernel
theorem dX11_layBook_9 : decode cX11_layBook 9 = .ok (.aload_n 0, 1) := by decide +kernel
theorem dX11_layBook_10 : decode cX11_layBook 10 = .ok (.getfield 47, 3) := by decide +kernel
theorem dX11_layBook_13 : decode cX11_layBook 13 = .ok (.iload 6, 2) := by decide +kernel
theorem dX11_layBook_15 : decode cX11_layBook 15 = .ok (.sipush 1022, 3) := by decide +kernel
theorem dX11_layBook_18 : decode cX11_layBook 18 = .ok (.iastore, 1) := by decide +kernel
theorem dX11_layBook_19 : decode cX11_layBook 19 = .ok (.iinc 6 1, 3) := by decide +kernel
theorem dX11_layBook_22 : decode cX11_layBook 22 = .ok (.goto (-19), 3) := by decide +kernel
theorem dX11_layBook_25 : decode cX11_layBook 25 = .ok (.bipush (-4), 2) := by decide +kernel
theorem dX11_layBook_27 : decode cX11_layBook 27 = .ok (.istore 6, 2) := by decide +kernel
theorem dX11_layBook_29 : decode cX11_layBook 29 = .ok (.iconst 0, 1) := by decide +kernel
theorem dX11_layBook_30 : decode cX11_layBook 30 = .ok (.istore 7, 2) := by decide +kernel
theorem dX11_layBook_32 : decode cX11_layBook 32 = .ok (.iload 7, 2) := by decide +kernel
theorem dX11_layBook_34 : decode cX11_layBook 34 = .ok (.iload 5, 2) := by decide +kernel
theorem dX11_layBook_36 : decode cX11_layBook 36 = .ok (.if_icmp .ge 123, 3) := by decide +kernel
theorem dX11_layBook_39 : decode cX11_layBook 39 = .ok (.iload_n 3, 1) := by decide +kernel
theorem dX11_layBook_40 : decode cX11_layBook 40 = .ok (.iload 7, 2) := by decide +kernel
theorem dX11_layBook_42 : decode cX11_layBook 42 = .ok (.iadd, 1) := by decide +kernel
theorem dX11_layBook_43 : decode cX11_layBook 43 = .ok (.bipush 13, 2) := by decide +kernel
theorem dX11_layBook_45 : decode cX11_layBook 45 = .ok (.idiv, 1) := by decide +kernel
theorem dX11_layBook_46 : decode cX11_layBook 46 = .ok (.iconst 4, 1) := by decide +kernel
theorem dX11_layBook_47 : decode cX11_layBook 47 = .ok (.irem, 1) := by decide +kernel
theorem dX11_layBook_48 : decode cX11_layBook 48 = .ok (.istore 8, 2) := by decide +kernel
theorem dX11_layBook_50 : decode cX11_layBook 50 = .ok (.aload_n 0, 1) := by decide +kernel
theorem dX11_layBook_51 : decode cX11_layBook 51 = .ok (.getfield 25, 3) := by decide +kernel
theorem dX11_layBook_54 : decode cX11_layBook 54 = .ok (.iload 4, 2) := by decide +kernel
theorem dX11_layBook_56 : decode cX11_layBook 56 = .ok (.iload 7, 2) := by decide +kernel
theorem dX11_layBook_58 : decode cX11_layBook 58 = .ok (.iadd, 1) := by decide +kernel
theorem dX11_layBook_59 : decode cX11_layBook 59 = .ok (.laload, 1) := by decide +kernel
theorem dX11_layBook_60 : decode cX11_layBook 60 = .ok (.lstore 9, 2) := by decide +kernel
theorem dX11_layBook_62 : decode cX11_layBook 62 = .ok (.iconst 1, 1) := by decide +kernel
theorem dX11_layBook_63 : decode cX11_layBook 63 = .ok (.istore 11, 2) := by decide +kernel
theorem dX11_layBook_65 : decode cX11_layBook 65 = .ok (.iload 11, 2) := by decide +kernel
theorem dX11_layBook_67 : decode cX11_layBook 67 = .ok (.bipush 10, 2) := by decide +kernel
theorem dX11_layBook_69 : decode cX11_layBook 69 = .ok (.if_icmp .ge 58, 3) := by decide +kernel
theorem dX11_layBook_72 : decode cX11_layBook 72 = .ok (.lload 9, 2) := by decide +kernel
theorem dX11_layBook_74 : decode cX11_layBook 74 = .ok (.lconst 0, 1) := by decide +kernel
theorem dX11_layBook_75 : decode cX11_layBook 75 = .ok (.lcmp, 1) := by decide +kernel
theorem dX11_layBook_76 : decode cX11_layBook 76 = .ok (.ifCond .lt 51, 3) := by decide +kernel
theorem dX11_layBook_79 : decode cX11_layBook 79 = .ok (.aload_n 0, 1) := by decide +kernel
theorem dX11_layBook_80 : decode cX11_layBook 80 = .ok (.getfield 47, 3) := by decide +kernel
theorem dX11_layBook_83 : decode cX11_layBook 83 = .ok (.iload 8, 2) := by decide +kernel
theorem dX11_layBook_85 : decode cX11_layBook 85 = .ok (.dup2, 1) := by decide +kernel
theorem dX11_layBook_86 : decode cX11_layBook 86 = .ok (.iaload, 1) := by decide +kernel
theorem dX11_layBook_87 : decode cX11_layBook 87 = .ok (.aload_n 0, 1) := by decide +kernel
theorem dX11_layBook_88 : decode cX11_layBook 88 = .ok (.getfield 7, 3) := by decide +kernel
theorem dX11_layBook_91 : decode cX11_layBook 91 = .ok (.bipush 6, 2) := by decide +kernel
theorem dX11_layBook_93 : decode cX11_layBook 93 = .ok (.iload_n 1, 1) := by decide +kernel
theorem dX11_layBook_94 : decode cX11_layBook 94 = .ok (.iadd, 1) := by decide +kernel
theorem dX11_layBook_95 : decode cX11_layBook 95 = .ok (.iaload, 1) := by decide +kernel
theorem dX11_layBook_96 : decode cX11_layBook 96 = .ok (.iload 11, 2) := by decide +kernel
theorem dX11_layBook_98 : decode cX11_layBook 98 = .ok (.iload_n 2, 1) := by decide +kernel
theorem dX11_layBook_99 : decode cX11_layBook 99 = .ok (.invokestatic 58, 3) := by decide +kernel
theorem dX11_layBook_102 : decode cX11_layBook 102 = .ok (.i2l, 1) := by decide +kernel
theorem dX11_layBook_103 : decode cX11_layBook 103 = .ok (.lload 9, 2) := by decide +kernel
theorem dX11_layBook_105 : decode cX11_layBook 105 = .ok (.lcmp, 1) := by decide +kernel
theorem dX11_layBook_106 : decode cX11_layBook 106 = .ok (.ifCond .ne 7, 3) := by decide +kernel
theorem dX11_layBook_109 : decode cX11_layBook 109 = .ok (.iconst (-1), 1) := by decide +kernel
theorem dX11_layBook_110 : decode cX11_layBook 110 = .ok (.goto 9, 3) := by decide +kernel
theorem dX11_layBook_113 : decode cX11_layBook 113 = .ok (.iconst 1, 1) := by decide +kernel
theorem dX11_layBook_114 : decode cX11_layBook 114 = .ok (.iload 11, 2) := by decide +kernel
theorem dX11_layBook_116 : decode cX11_layBook 116 = .ok (.ishl, 1) := by decide +kernel
theorem dX11_layBook_117 : decode cX11_layBook 117 = .ok (.iconst (-1), 1) := by decide +kernel
theorem dX11_layBook_118 : decode cX11_layBook 118 = .ok (.ixor, 1) := by decide +kernel
theorem dX11_layBook_119 : decode cX11_layBook 119 = .ok (.iand, 1) := by decide +kernel
theorem dX11_layBook_120 : decode cX11_layBook 120 = .ok (.iastore, 1) := by decide +kernel
theorem dX11_layBook_121 : decode cX11_layBook 121 = .ok (.iinc 11 1, 3) := by decide +kernel
theorem dX11_layBook_124 : decode cX11_layBook 124 = .ok (.goto (-59), 3) := by decide +kernel
theorem dX11_layBook_127 : decode cX11_layBook 127 = .ok (.iload 6, 2) := by decide +kernel
theorem dX11_layBook_129 : decode cX11_layBook 129 = .ok (.bipush (-4), 2) := by decide +kernel
theorem dX11_layBook_131 : decode cX11_layBook 131 = .ok (.if_icmp .ne 18, 3) := by decide +kernel
theorem dX11_layBook_134 : decode cX11_layBook 134 = .ok (.aload_n 0, 1) := by decide +kernel
theorem dX11_layBook_135 : decode cX11_layBook 135 = .ok (.getfield 47, 3) := by decide +kernel
theorem dX11_layBook_138 : decode cX11_layBook 138 = .ok (.iload 8, 2) := by decide +kernel
theorem dX11_layBook_140 : decode cX11_layBook 140 = .ok (.iaload, 1) := by decide +kernel
theorem dX11_layBook_141 : decode cX11_layBook 141 = .ok (.ifCond .ne 8, 3) := by decide +kernel
theorem dX11_layBook_144 : decode cX11_layBook 144 = .ok (.iload 7, 2) := by decide +kernel
theorem dX11_layBook_146 : decode cX11_layBook 146 = .ok (.goto 5, 3) := by decide +kernel
theorem dX11_layBook_149 : decode cX11_layBook 149 = .ok (.iload 6, 2) := by decide +kernel
theorem dX11_layBook_151 : decode cX11_layBook 151 = .ok (.istore 6, 2) := by decide +kernel
theorem dX11_layBook_153 : decode cX11_layBook 153 = .ok (.iinc 7 1, 3) := by decide +kernel
theorem dX11_layBook_156 : decode cX11_layBook 156 = .ok (.goto (-124), 3) := by decide +kernel
theorem dX11_layBook_159 : decode cX11_layBook 159 = .ok (.iload 6, 2) := by decide +kernel
theorem dX11_layBook_161 : decode cX11_layBook 161 = .ok (.ireturn, 1) := by decide +kernel
theorem dX11_book_0 : decode cX11_book 0 = .ok (.aload_n 0, 1) := by decide +kernel
theorem dX11_book_1 : decode cX11_book 1 = .ok (.iload_n 1, 1) := by decide +kernel
theorem dX11_book_2 : decode cX11_book 2 = .ok (.invokevirtual 68, 3) := by decide +kernel
theorem dX11_book_5 : decode cX11_book 5 = .ok (.ifCond .eq 69, 3) := by decide +kernel
theorem dX11_book_8 : decode cX11_book 8 = .ok (.iload_n 2, 1) := by decide +kernel
theorem dX11_book_9 : decode cX11_book 9 = .ok (.i2l, 1) := by decide +kernel
theorem dX11_book_10 : decode cX11_book 10 = .ok (.lconst 1, 1) := by decide +kernel
theorem dX11_book_11 : decode cX11_book 11 = .ok (.ldc2_w 83, 3) := by decide +kernel
theorem dX11_book_14 : decode cX11_book 14 = .ok (.invokestatic 50, 3) := by decide +kernel
theorem dX11_book_17 : decode cX11_book 17 = .ok (.ifCond .eq 57, 3) := by decide +kernel
theorem dX11_book_20 : decode cX11_book 20 = .ok (.iload_n 3, 1) := by decide +kernel
theorem dX11_book_21 : decode cX11_book 21 = .ok (.i2l, 1) := by decide +kernel
theorem dX11_book_22 : decode cX11_book 22 = .ok (.lconst 0, 1) := by decide +kernel
theorem dX11_book_23 : decode cX11_book 23 = .ok (.ldc2_w 238, 3) := by decide +kernel
theorem dX11_book_26 : decode cX11_book 26 = .ok (.invokestatic 50, 3) := by decide +kernel
theorem dX11_book_29 : decode cX11_book 29 = .ok (.ifCond .eq 45, 3) := by decide +kernel
theorem dX11_book_32 : decode cX11_book 32 = .ok (.iload 4, 2) := by decide +kernel
theorem dX11_book_34 : decode cX11_book 34 = .ok (.invokestatic 220, 3) := by decide +kernel
theorem dX11_book_37 : decode cX11_book 37 = .ok (.ifCond .eq 37, 3) := by decide +kernel
theorem dX11_book_40 : decode cX11_book 40 = .ok (.iload 5, 2) := by decide +kernel
theorem dX11_book_42 : decode cX11_book 42 = .ok (.invokestatic 223, 3) := by decide +kernel
theorem dX11_book_45 : decode cX11_book 45 = .ok (.ifCond .eq 29, 3) := by decide +kernel
theorem dX11_book_48 : decode cX11_book 48 = .ok (.iload 7, 2) := by decide +kernel
theorem dX11_book_50 : decode cX11_book 50 = .ok (.i2l, 1) := by decide +kernel
theorem dX11_book_51 : decode cX11_book 51 = .ok (.lconst 1, 1) := by decide +kernel
theorem dX11_book_52 : decode cX11_book 52 = .ok (.ldc2_w 240, 3) := by decide +kernel
theorem dX11_book_55 : decode cX11_book 55 = .ok (.invokestatic 50, 3) := by decide +kernel
theorem dX11_book_58 : decode cX11_book 58 = .ok (.ifCond .eq 16, 3) := by decide +kernel
theorem dX11_book_61 : decode cX11_book 61 = .ok (.iload 8, 2) := by decide +kernel
theorem dX11_book_63 : decode cX11_book 63 = .ok (.i2l, 1) := by decide +kernel
theorem dX11_book_64 : decode cX11_book 64 = .ok (.lconst 0, 1) := by decide +kernel
theorem dX11_book_65 : decode cX11_book 65 = .ok (.ldc2_w 93, 3) := by decide +kernel
theorem dX11_book_68 : decode cX11_book 68 = .ok (.invokestatic 50, 3) := by decide +kernel
theorem dX11_book_71 : decode cX11_book 71 = .ok (.ifCond .ne 5, 3) := by decide +kernel
theorem dX11_book_74 : decode cX11_book 74 = .ok (.iconst (-1), 1) := by decide +kernel
theorem dX11_book_75 : decode cX11_book 75 = .ok (.ireturn, 1) := by decide +kernel
theorem dX11_book_76 : decode cX11_book 76 = .ok (.aload_n 0, 1) := by decide +kernel
theorem dX11_book_77 : decode cX11_book 77 = .ok (.iload 4, 2) := by decide +kernel
theorem dX11_book_79 : decode cX11_book 79 = .ok (.iload 5, 2) := by decide +kernel
theorem dX11_book_81 : decode cX11_book 81 = .ok (.iload 6, 2) := by decide +kernel
theorem dX11_book_83 : decode cX11_book 83 = .ok (.iload 7, 2) := by decide +kernel
theorem dX11_book_85 : decode cX11_book 85 = .ok (.invokevirtual 226, 3) := by decide +kernel
theorem dX11_book_88 : decode cX11_book 88 = .ok (.istore 9, 2) := by decide +kernel
theorem dX11_book_90 : decode cX11_book 90 = .ok (.iload 9, 2) := by decide +kernel
theorem dX11_book_92 : decode cX11_book 92 = .ok (.ifCond .ge 6, 3) := by decide +kernel
theorem dX11_book_95 : decode cX11_book 95 = .ok (.iload 9, 2) := by decide +kernel
theorem dX11_book_97 : decode cX11_book 97 = .ok (.ireturn, 1) := by decide +kernel
theorem dX11_book_98 : decode cX11_book 98 = .ok (.aload_n 0, 1) := by decide +kernel
theorem dX11_book_99 : decode cX11_book 99 = .ok (.iload_n 1, 1) := by decide +kernel
theorem dX11_book_100 : decode cX11_book 100 = .ok (.iload_n 2, 1) := by decide +kernel
theorem dX11_book_101 : decode cX11_book 101 = .ok (.iload_n 3, 1) := by decide +kernel
theorem dX11_book_102 : decode cX11_book 102 = .ok (.bipush 24, 2) := by decide +kernel
theorem dX11_book_104 : decode cX11_book 104 = .ok (.iload 4, 2) := by decide +kernel
theorem dX11_book_106 : decode cX11_book 106 = .ok (.imul, 1) := by decide +kernel
theorem dX11_book_107 : decode cX11_book 107 = .ok (.iload 6, 2) := by decide +kernel
theorem dX11_book_109 : decode cX11_book 109 = .ok (.iadd, 1) := by decide +kernel
theorem dX11_book_110 : decode cX11_book 110 = .ok (.iload 7, 2) := by decide +kernel
theorem dX11_book_112 : decode cX11_book 112 = .ok (.invokevirtual 242, 3) := by decide +kernel
theorem dX11_book_115 : decode cX11_book 115 = .ok (.istore 10, 2) := by decide +kernel
theorem dX11_book_117 : decode cX11_book 117 = .ok (.iconst 1, 1) := by decide +kernel
theorem dX11_book_118 : decode cX11_book 118 = .ok (.istore 11, 2) := by decide +kernel
theorem dX11_book_120 : decode cX11_book 120 = .ok (.iconst 0, 1) := by decide +kernel
theorem dX11_book_121 : decode cX11_book 121 = .ok (.istore 12, 2) := by decide +kernel
theorem dX11_book_123 : decode cX11_book 123 = .ok (.iconst 0, 1) := by decide +kernel
theorem dX11_book_124 : decode cX11_book 124 = .ok (.istore 13, 2) := by decide +kernel
theorem dX11_book_126 : decode cX11_book 126 = .ok (.iload 13, 2) := by decide +kernel
theorem dX11_book_128 : decode cX11_book 128 = .ok (.iconst 4, 1) := by decide +kernel
theorem dX11_book_129 : decode cX11_book 129 = .ok (.if_icmp .ge 51, 3) := by decide +kernel
theorem dX11_book_132 : decode cX11_book 132 = .ok (.iload 11, 2) := by decide +kernel
theorem dX11_book_134 : decode cX11_book 134 = .ok (.aload_n 0, 1) := by decide +kernel
theorem dX11_book_135 : decode cX11_book 135 = .ok (.getfield 47, 3) := by decide +kernel
theorem dX11_book_138 : decode cX11_book 138 = .ok (.iload 13, 2) := by decide +kernel
theorem dX11_book_140 : decode cX11_book 140 = .ok (.iaload, 1) := by decide +kernel
theorem dX11_book_141 : decode cX11_book 141 = .ok (.invokestatic 185, 3) := by decide +kernel
theorem dX11_book_144 : decode cX11_book 144 = .ok (.imul, 1) := by decide +kernel
theorem dX11_book_145 : decode cX11_book 145 = .ok (.istore 11, 2) := by decide +kernel
theorem dX11_book_147 : decode cX11_book 147 = .ok (.iload 12, 2) := by decide +kernel
theorem dX11_book_149 : decode cX11_book 149 = .ok (.aload_n 0, 1) := by decide +kernel
theorem dX11_book_150 : decode cX11_book 150 = .ok (.getfield 47, 3) := by decide +kernel
theorem dX11_book_153 : decode cX11_book 153 = .ok (.iload 13, 2) := by decide +kernel
theorem dX11_book_155 : decode cX11_book 155 = .ok (.iaload, 1) := by decide +kernel
theorem dX11_book_156 : decode cX11_book 156 = .ok (.invokestatic 185, 3) := by decide +kernel
theorem dX11_book_159 : decode cX11_book 159 = .ok (.iconst 1, 1) := by decide +kernel
theorem dX11_book_160 : decode cX11_book 160 = .ok (.if_icmp .ne 10, 3) := by decide +kernel
theorem dX11_book_163 : decode cX11_book 163 = .ok (.iconst 1, 1) := by decide +kernel
theorem dX11_book_164 : decode cX11_book 164 = .ok (.iload 13, 2) := by decide +kernel
theorem dX11_book_166 : decode cX11_book 166 = .ok (.ishl, 1) := by decide +kernel
theorem dX11_book_167 : decode cX11_book 167 = .ok (.goto 4, 3) := by decide +kernel
theorem dX11_book_170 : decode cX11_book 170 = .ok (.iconst 0, 1) := by decide +kernel
theorem dX11_book_171 : decode cX11_book 171 = .ok (.ior, 1) := by decide +kernel
theorem dX11_book_172 : decode cX11_book 172 = .ok (.istore 12, 2) := by decide +kernel
theorem dX11_book_174 : decode cX11_book 174 = .ok (.iinc 13 1, 3) := by decide +kernel
theorem dX11_book_177 : decode cX11_book 177 = .ok (.goto (-51), 3) := by decide +kernel
theorem dX11_book_180 : decode cX11_book 180 = .ok (.iload 8, 2) := by decide +kernel
theorem dX11_book_182 : decode cX11_book 182 = .ok (.ifCond .ne 8, 3) := by decide +kernel
theorem dX11_book_185 : decode cX11_book 185 = .ok (.iload 11, 2) := by decide +kernel
theorem dX11_book_187 : decode cX11_book 187 = .ok (.goto 26, 3) := by decide +kernel
theorem dX11_book_190 : decode cX11_book 190 = .ok (.iload 8, 2) := by decide +kernel
theorem dX11_book_192 : decode cX11_book 192 = .ok (.iconst 2, 1) := by decide +kernel
theorem dX11_book_193 : decode cX11_book 193 = .ok (.if_icmp .ne 8, 3) := by decide +kernel
theorem dX11_book_196 : decode cX11_book 196 = .ok (.iload 10, 2) := by decide +kernel
theorem dX11_book_198 : decode cX11_book 198 = .ok (.goto 15, 3) := by decide +kernel
theorem dX11_book_201 : decode cX11_book 201 = .ok (.iload 11, 2) := by decide +kernel
theorem dX11_book_203 : decode cX11_book 203 = .ok (.ifCond .ne 8, 3) := by decide +kernel
theorem dX11_book_206 : decode cX11_book 206 = .ok (.bipush (-4), 2) := by decide +kernel
theorem dX11_book_208 : decode cX11_book 208 = .ok (.goto 5, 3) := by decide +kernel
theorem dX11_book_211 : decode cX11_book 211 = .ok (.iload 12, 2) := by decide +kernel
theorem dX11_book_213 : decode cX11_book 213 = .ok (.ireturn, 1) := by decide +kernel
theorem dX11_mills_0 : decode cX11_mills 0 = .ok (.iload_n 1, 1) := by decide +kernel
theorem dX11_mills_1 : decode cX11_mills 1 = .ok (.invokestatic 220, 3) := by decide +kernel
theorem dX11_mills_4 : decode cX11_mills 4 = .ok (.ifCond .eq 23, 3) := by decide +kernel
theorem dX11_mills_7 : decode cX11_mills 7 = .ok (.iload_n 2, 1) := by decide +kernel
theorem dX11_mills_8 : decode cX11_mills 8 = .ok (.invokestatic 223, 3) := by decide +kernel
theorem dX11_mills_11 : decode cX11_mills 11 = .ok (.ifCond .eq 16, 3) := by decide +kernel
theorem dX11_mills_14 : decode cX11_mills 14 = .ok (.iload 4, 2) := by decide +kernel
theorem dX11_mills_16 : decode cX11_mills 16 = .ok (.i2l, 1) := by decide +kernel
theorem dX11_mills_17 : decode cX11_mills 17 = .ok (.lconst 1, 1) := by decide +kernel
theorem dX11_mills_18 : decode cX11_mills 18 = .ok (.ldc2_w 102, 3) := by decide +kernel
theorem dX11_mills_21 : decode cX11_mills 21 = .ok (.invokestatic 50, 3) := by decide +kernel
theorem dX11_mills_24 : decode cX11_mills 24 = .ok (.ifCond .ne 5, 3) := by decide +kernel
theorem dX11_mills_27 : decode cX11_mills 27 = .ok (.iconst (-1), 1) := by decide +kernel
theorem dX11_mills_28 : decode cX11_mills 28 = .ok (.ireturn, 1) := by decide +kernel
theorem dX11_mills_29 : decode cX11_mills 29 = .ok (.aload_n 0, 1) := by decide +kernel
theorem dX11_mills_30 : decode cX11_mills 30 = .ok (.iload_n 1, 1) := by decide +kernel
theorem dX11_mills_31 : decode cX11_mills 31 = .ok (.iload_n 2, 1) := by decide +kernel
theorem dX11_mills_32 : decode cX11_mills 32 = .ok (.iload_n 3, 1) := by decide +kernel
theorem dX11_mills_33 : decode cX11_mills 33 = .ok (.iconst 2, 1) := by decide +kernel
theorem dX11_mills_34 : decode cX11_mills 34 = .ok (.iload 4, 2) := by decide +kernel
theorem dX11_mills_36 : decode cX11_mills 36 = .ok (.imul, 1) := by decide +kernel
theorem dX11_mills_37 : decode cX11_mills 37 = .ok (.invokevirtual 226, 3) := by decide +kernel
theorem dX11_mills_40 : decode cX11_mills 40 = .ok (.istore 5, 2) := by decide +kernel
theorem dX11_mills_42 : decode cX11_mills 42 = .ok (.iload 5, 2) := by decide +kernel
theorem dX11_mills_44 : decode cX11_mills 44 = .ok (.ifCond .ge 6, 3) := by decide +kernel
theorem dX11_mills_47 : decode cX11_mills 47 = .ok (.iload 5, 2) := by decide +kernel
theorem dX11_mills_49 : decode cX11_mills 49 = .ok (.ireturn, 1) := by decide +kernel
theorem dX11_mills_50 : decode cX11_mills 50 = .ok (.iconst 0, 1) := by decide +kernel
theorem dX11_mills_51 : decode cX11_mills 51 = .ok (.istore 6, 2) := by decide +kernel
theorem dX11_mills_53 : decode cX11_mills 53 = .ok (.iconst 0, 1) := by decide +kernel
theorem dX11_mills_54 : decode cX11_mills 54 = .ok (.istore 7, 2) := by decide +kernel
theorem dX11_mills_56 : decode cX11_mills 56 = .ok (.iload 7, 2) := by decide +kernel
theorem dX11_mills_58 : decode cX11_mills 58 = .ok (.iload 4, 2) := by decide +kernel
theorem dX11_mills_60 : decode cX11_mills 60 = .ok (.if_icmp .ge 97, 3) := by decide +kernel
theorem dX11_mills_63 : decode cX11_mills 63 = .ok (.aload_n 0, 1) := by decide +kernel
theorem dX11_mills_64 : decode cX11_mills 64 = .ok (.getfield 25, 3) := by decide +kernel
theorem dX11_mills_67 : decode cX11_mills 67 = .ok (.bipush 24, 2) := by decide +kernel
theorem dX11_mills_69 : decode cX11_mills 69 = .ok (.iload_n 1, 1) := by decide +kernel
theorem dX11_mills_70 : decode cX11_mills 70 = .ok (.imul, 1) := by decide +kernel
theorem dX11_mills_71 : decode cX11_mills 71 = .ok (.iload_n 3, 1) := by decide +kernel
theorem dX11_mills_72 : decode cX11_mills 72 = .ok (.iadd, 1) := by decide +kernel
theorem dX11_mills_73 : decode cX11_mills 73 = .ok (.iconst 2, 1) := by decide +kernel
theorem dX11_mills_74 : decode cX11_mills 74 = .ok (.iload 7, 2) := by decide +kernel
theorem dX11_mills_76 : decode cX11_mills 76 = .ok (.imul, 1) := by decide +kernel
theorem dX11_mills_77 : decode cX11_mills 77 = .ok (.iadd, 1) := by decide +kernel
theorem dX11_mills_78 : decode cX11_mills 78 = .ok (.laload, 1) := by decide +kernel
theorem dX11_mills_79 : decode cX11_mills 79 = .ok (.lstore 8, 2) := by decide +kernel
theorem dX11_mills_81 : decode cX11_mills 81 = .ok (.aload_n 0, 1) := by decide +kernel
theorem dX11_mills_82 : decode cX11_mills 82 = .ok (.getfield 25, 3) := by decide +kernel
theorem dX11_mills_85 : decode cX11_mills 85 = .ok (.bipush 24, 2) := by decide +kernel
theorem dX11_mills_87 : decode cX11_mills 87 = .ok (.iload_n 1, 1) := by decide +kernel
theorem dX11_mills_88 : decode cX11_mills 88 = .ok (.imul, 1) := by decide +kernel
theorem dX11_mills_89 : decode cX11_mills 89 = .ok (.iload_n 3, 1) := by decide +kernel
theorem dX11_mills_90 : decode cX11_mills 90 = .ok (.iadd, 1) := by decide +kernel
theorem dX11_mills_91 : decode cX11_mills 91 = .ok (.iconst 2, 1) := by decide +kernel
theorem dX11_mills_92 : decode cX11_mills 92 = .ok (.iload 7, 2) := by decide +kernel
theorem dX11_mills_94 : decode cX11_mills 94 = .ok (.imul, 1) := by decide +kernel
theorem dX11_mills_95 : decode cX11_mills 95 = .ok (.iadd, 1) := by decide +kernel
theorem dX11_mills_96 : decode cX11_mills 96 = .ok (.iconst 1, 1) := by decide +kernel
theorem dX11_mills_97 : decode cX11_mills 97 = .ok (.iadd, 1) := by decide +kernel
theorem dX11_mills_98 : decode cX11_mills 98 = .ok (.laload, 1) := by decide +kernel
theorem dX11_mills_99 : decode cX11_mills 99 = .ok (.lstore 10, 2) := by decide +kernel
theorem dX11_mills_101 : decode cX11_mills 101 = .ok (.lload 8, 2) := by decide +kernel
theorem dX11_mills_103 : decode cX11_mills 103 = .ok (.lconst 0, 1) := by decide +kernel
theorem dX11_mills_104 : decode cX11_mills 104 = .ok (.aload_n 0, 1) := by decide +kernel
theorem dX11_mills_105 : decode cX11_mills 105 = .ok (.getfield 7, 3) := by decide +kernel
theorem dX11_mills_108 : decode cX11_mills 108 = .ok (.iconst 0, 1) := by decide +kernel
theorem dX11_mills_109 : decode cX11_mills 109 = .ok (.iaload, 1) := by decide +kernel
theorem dX11_mills_110 : decode cX11_mills 110 = .ok (.iconst 1, 1) := by decide +kernel
theorem dX11_mills_111 : decode cX11_mills 111 = .ok (.isub, 1) := by decide +kernel
theorem dX11_mills_112 : decode cX11_mills 112 = .ok (.i2l, 1) := by decide +kernel
theorem dX11_mills_113 : decode cX11_mills 113 = .ok (.invokestatic 50, 3) := by decide +kernel
theorem dX11_mills_116 : decode cX11_mills 116 = .ok (.ifCond .eq 15, 3) := by decide +kernel
theorem dX11_mills_119 : decode cX11_mills 119 = .ok (.lload 10, 2) := by decide +kernel
theorem dX11_mills_121 : decode cX11_mills 121 = .ok (.lconst 0, 1) := by decide +kernel
theorem dX11_mills_122 : decode cX11_mills 122 = .ok (.ldc2_w 83, 3) := by decide +kernel
theorem dX11_mills_125 : decode cX11_mills 125 = .ok (.invokestatic 50, 3) := by decide +kernel
theorem dX11_mills_128 : decode cX11_mills 128 = .ok (.ifCond .ne 6, 3) := by decide +kernel
theorem dX11_mills_131 : decode cX11_mills 131 = .ok (.bipush (-2), 2) := by decide +kernel
theorem dX11_mills_133 : decode cX11_mills 133 = .ok (.ireturn, 1) := by decide +kernel
theorem dX11_mills_134 : decode cX11_mills 134 = .ok (.iload 6, 2) := by decide +kernel
theorem dX11_mills_136 : decode cX11_mills 136 = .ok (.aload_n 0, 1) := by decide +kernel
theorem dX11_mills_137 : decode cX11_mills 137 = .ok (.lload 8, 2) := by decide +kernel
theorem dX11_mills_139 : decode cX11_mills 139 = .ok (.l2i, 1) := by decide +kernel
theorem dX11_mills_140 : decode cX11_mills 140 = .ok (.iconst 1, 1) := by decide +kernel
theorem dX11_mills_141 : decode cX11_mills 141 = .ok (.invokevirtual 88, 3) := by decide +kernel
theorem dX11_mills_144 : decode cX11_mills 144 = .ok (.lload 10, 2) := by decide +kernel
theorem dX11_mills_146 : decode cX11_mills 146 = .ok (.l2i, 1) := by decide +kernel
theorem dX11_mills_147 : decode cX11_mills 147 = .ok (.imul, 1) := by decide +kernel
theorem dX11_mills_148 : decode cX11_mills 148 = .ok (.iadd, 1) := by decide +kernel
theorem dX11_mills_149 : decode cX11_mills 149 = .ok (.istore 6, 2) := by decide +kernel
theorem dX11_mills_151 : decode cX11_mills 151 = .ok (.iinc 7 1, 3) := by decide +kernel
theorem dX11_mills_154 : decode cX11_mills 154 = .ok (.goto (-98), 3) := by decide +kernel
theorem dX11_mills_157 : decode cX11_mills 157 = .ok (.iload 6, 2) := by decide +kernel
theorem dX11_mills_159 : decode cX11_mills 159 = .ok (.ireturn, 1) := by decide +kernel
theorem dX11_cut_0 : decode cX11_cut 0 = .ok (.iload_n 0, 1) := by decide +kernel
theorem dX11_cut_1 : decode cX11_cut 1 = .ok (.ifCond .ne 10, 3) := by decide +kernel
theorem dX11_cut_4 : decode cX11_cut 4 = .ok (.lload_n 1, 1) := by decide +kernel
theorem dX11_cut_5 : decode cX11_cut 5 = .ok (.l2i, 1) := by decide +kernel
theorem dX11_cut_6 : decode cX11_cut 6 = .ok (.i2s, 1) := by decide +kernel
theorem dX11_cut_7 : decode cX11_cut 7 = .ok (.i2l, 1) := by decide +kernel
theorem dX11_cut_8 : decode cX11_cut 8 = .ok (.goto 15, 3) := by decide +kernel
theorem dX11_cut_11 : decode cX11_cut 11 = .ok (.iload_n 0, 1) := by decide +kernel
theorem dX11_cut_12 : decode cX11_cut 12 = .ok (.iconst 1, 1) := by decide +kernel
theorem dX11_cut_13 : decode cX11_cut 13 = .ok (.if_icmp .ne 9, 3) := by decide +kernel
theorem dX11_cut_16 : decode cX11_cut 16 = .ok (.lload_n 1, 1) := by decide +kernel
theorem dX11_cut_17 : decode cX11_cut 17 = .ok (.l2i, 1) := by decide +kernel
theorem dX11_cut_18 : decode cX11_cut 18 = .ok (.i2l, 1) := by decide +kernel
theorem dX11_cut_19 : decode cX11_cut 19 = .ok (.goto 4, 3) := by decide +kernel
theorem dX11_cut_22 : decode cX11_cut 22 = .ok (.lload_n 1, 1) := by decide +kernel
theorem dX11_cut_23 : decode cX11_cut 23 = .ok (.lreturn, 1) := by decide +kernel
theorem dX11_film_0 : decode cX11_film 0 = .ok (.iload_n 1, 1) := by decide +kernel
theorem dX11_film_1 : decode cX11_film 1 = .ok (.invokestatic 220, 3) := by decide +kernel
theorem dX11_film_4 : decode cX11_film 4 = .ok (.ifCond .eq 10, 3) := by decide +kernel
theorem dX11_film_7 : decode cX11_film 7 = .ok (.iload_n 2, 1) := by decide +kernel
theorem dX11_film_8 : decode cX11_film 8 = .ok (.invokestatic 223, 3) := by decide +kernel
theorem dX11_film_11 : decode cX11_film 11 = .ok (.ifCond .ne 5, 3) := by decide +kernel
theorem dX11_film_14 : decode cX11_film 14 = .ok (.iconst (-1), 1) := by decide +kernel
theorem dX11_film_15 : decode cX11_film 15 = .ok (.ireturn, 1) := by decide +kernel
theorem dX11_film_16 : decode cX11_film 16 = .ok (.aload_n 0, 1) := by decide +kernel
theorem dX11_film_17 : decode cX11_film 17 = .ok (.iload_n 1, 1) := by decide +kernel
theorem dX11_film_18 : decode cX11_film 18 = .ok (.iload_n 2, 1) := by decide +kernel
theorem dX11_film_19 : decode cX11_film 19 = .ok (.iload_n 3, 1) := by decide +kernel
theorem dX11_film_20 : decode cX11_film 20 = .ok (.aload_n 0, 1) := by decide +kernel
theorem dX11_film_21 : decode cX11_film 21 = .ok (.getfield 7, 3) := by decide +kernel
theorem dX11_film_24 : decode cX11_film 24 = .ok (.iconst 3, 1) := by decide +kernel
theorem dX11_film_25 : decode cX11_film 25 = .ok (.iaload, 1) := by decide +kernel
theorem dX11_film_26 : decode cX11_film 26 = .ok (.invokevirtual 226, 3) := by decide +kernel
theorem dX11_film_29 : decode cX11_film 29 = .ok (.istore 4, 2) := by decide +kernel
theorem dX11_film_31 : decode cX11_film 31 = .ok (.iload 4, 2) := by decide +kernel
theorem dX11_film_33 : decode cX11_film 33 = .ok (.ifCond .ge 6, 3) := by decide +kernel
theorem dX11_film_36 : decode cX11_film 36 = .ok (.iload 4, 2) := by decide +kernel
theorem dX11_film_38 : decode cX11_film 38 = .ok (.ireturn, 1) := by decide +kernel
theorem dX11_film_39 : decode cX11_film 39 = .ok (.iconst 0, 1) := by decide +kernel
theorem dX11_film_40 : decode cX11_film 40 = .ok (.istore 5, 2) := by decide +kernel
theorem dX11_film_42 : decode cX11_film 42 = .ok (.iload 5, 2) := by decide +kernel
theorem dX11_film_44 : decode cX11_film 44 = .ok (.aload_n 0, 1) := by decide +kernel
theorem dX11_film_45 : decode cX11_film 45 = .ok (.getfield 7, 3) := by decide +kernel
theorem dX11_film_48 : decode cX11_film 48 = .ok (.iconst 3, 1) := by decide +kernel
theorem dX11_film_49 : decode cX11_film 49 = .ok (.iaload, 1) := by decide +kernel
theorem dX11_film_50 : decode cX11_film 50 = .ok (.if_icmp .ge 52, 3) := by decide +kernel
theorem dX11_film_53 : decode cX11_film 53 = .ok (.aload_n 0, 1) := by decide +kernel
theorem dX11_film_54 : decode cX11_film 54 = .ok (.getfield 25, 3) := by decide +kernel
theorem dX11_film_57 : decode cX11_film 57 = .ok (.bipush 24, 2) := by decide +kernel
theorem dX11_film_59 : decode cX11_film 59 = .ok (.iload_n 1, 1) := by decide +kernel
theorem dX11_film_60 : decode cX11_film 60 = .ok (.imul, 1) := by decide +kernel
theorem dX11_film_61 : decode cX11_film 61 = .ok (.iload_n 3, 1) := by decide +kernel
theorem dX11_film_62 : decode cX11_film 62 = .ok (.iadd, 1) := by decide +kernel
theorem dX11_film_63 : decode cX11_film 63 = .ok (.iload 5, 2) := by decide +kernel
theorem dX11_film_65 : decode cX11_film 65 = .ok (.iadd, 1) := by decide +kernel
theorem dX11_film_66 : decode cX11_film 66 = .ok (.iload_n 2, 1) := by decide +kernel
theorem dX11_film_67 : decode cX11_film 67 = .ok (.aload_n 0, 1) := by decide +kernel
theorem dX11_film_68 : decode cX11_film 68 = .ok (.aload_n 0, 1) := by decide +kernel
theorem dX11_film_69 : decode cX11_film 69 = .ok (.getfield 7, 3) := by decide +kernel
theorem dX11_film_72 : decode cX11_film 72 = .ok (.bipush 111, 2) := by decide +kernel
theorem dX11_film_74 : decode cX11_film 74 = .ok (.iload 5, 2) := by decide +kernel
theorem dX11_film_76 : decode cX11_film 76 = .ok (.iadd, 1) := by decide +kernel
theorem dX11_film_77 : decode cX11_film 77 = .ok (.iaload, 1) := by decide +kernel
theorem dX11_film_78 : decode cX11_film 78 = .ok (.aload_n 0, 1) := by decide +kernel
theorem dX11_film_79 : decode cX11_film 79 = .ok (.getfield 7, 3) := by decide +kernel
theorem dX11_film_82 : decode cX11_film 82 = .ok (.bipush 99, 2) := by decide +kernel
theorem dX11_film_84 : decode cX11_film 84 = .ok (.iload 5, 2) := by decide +kernel
theorem dX11_film_86 : decode cX11_film 86 = .ok (.iadd, 1) := by decide +kernel
theorem dX11_film_87 : decode cX11_film 87 = .ok (.iaload, 1) := by decide +kernel
theorem dX11_film_88 : decode cX11_film 88 = .ok (.invokevirtual 88, 3) := by decide +kernel
theorem dX11_film_91 : decode cX11_film 91 = .ok (.i2l, 1) := by decide +kernel
theorem dX11_film_92 : decode cX11_film 92 = .ok (.invokestatic 245, 3) := by decide +kernel
theorem dX11_film_95 : decode cX11_film 95 = .ok (.lastore, 1) := by decide +kernel
theorem dX11_film_96 : decode cX11_film 96 = .ok (.iinc 5 1, 3) := by decide +kernel
theorem dX11_film_99 : decode cX11_film 99 = .ok (.goto (-57), 3) := by decide +kernel
theorem dX11_film_102 : decode cX11_film 102 = .ok (.aload_n 0, 1) := by decide +kernel
theorem dX11_film_103 : decode cX11_film 103 = .ok (.getfield 7, 3) := by decide +kernel
theorem dX11_film_106 : decode cX11_film 106 = .ok (.iconst 3, 1) := by decide +kernel
theorem dX11_film_107 : decode cX11_film 107 = .ok (.iaload, 1) := by decide +kernel
theorem dX11_film_108 : decode cX11_film 108 = .ok (.ireturn, 1) := by decide +kernel
theorem dX11_sheet_0 : decode cX11_sheet 0 = .ok (.iload_n 1, 1) := by decide +kernel
theorem dX11_sheet_1 : decode cX11_sheet 1 = .ok (.invokestatic 220, 3) := by decide +kernel
theorem dX11_sheet_4 : decode cX11_sheet 4 = .ok (.ifCond .eq 16, 3) := by decide +kernel
theorem dX11_sheet_7 : decode cX11_sheet 7 = .ok (.iload_n 2, 1) := by decide +kernel
theorem dX11_sheet_8 : decode cX11_sheet 8 = .ok (.invokestatic 223, 3) := by decide +kernel
theorem dX11_sheet_11 : decode cX11_sheet 11 = .ok (.ifCond .eq 9, 3) := by decide +kernel
theorem dX11_sheet_14 : decode cX11_sheet 14 = .ok (.iload_n 3, 1) := by decide +kernel
theorem dX11_sheet_15 : decode cX11_sheet 15 = .ok (.bipush 24, 2) := by decide +kernel
theorem dX11_sheet_17 : decode cX11_sheet 17 = .ok (.if_icmp .le 5, 3) := by decide +kernel
theorem dX11_sheet_20 : decode cX11_sheet 20 = .ok (.iconst (-1), 1) := by decide +kernel
theorem dX11_sheet_21 : decode cX11_sheet 21 = .ok (.ireturn, 1) := by decide +kernel
theorem dX11_sheet_22 : decode cX11_sheet 22 = .ok (.iload_n 3, 1) := by decide +kernel
theorem dX11_sheet_23 : decode cX11_sheet 23 = .ok (.ifCond .ge 6, 3) := by decide +kernel
theorem dX11_sheet_26 : decode cX11_sheet 26 = .ok (.bipush (-14), 2) := by decide +kernel
theorem dX11_sheet_28 : decode cX11_sheet 28 = .ok (.ireturn, 1) := by decide +kernel
theorem dX11_sheet_29 : decode cX11_sheet 29 = .ok (.aload_n 0, 1) := by decide +kernel
theorem dX11_sheet_30 : decode cX11_sheet 30 = .ok (.getfield 19, 3) := by decide +kernel
theorem dX11_sheet_33 : decode cX11_sheet 33 = .ok (.iload_n 1, 1) := by decide +kernel
theorem dX11_sheet_34 : decode cX11_sheet 34 = .ok (.iload_n 2, 1) := by decide +kernel
theorem dX11_sheet_35 : decode cX11_sheet 35 = .ok (.iastore, 1) := by decide +kernel
theorem dX11_sheet_36 : decode cX11_sheet 36 = .ok (.aload_n 0, 1) := by decide +kernel
theorem dX11_sheet_37 : decode cX11_sheet 37 = .ok (.getfield 22, 3) := by decide +kernel
theorem dX11_sheet_40 : decode cX11_sheet 40 = .ok (.iload_n 1, 1) := by decide +kernel
theorem dX11_sheet_41 : decode cX11_sheet 41 = .ok (.iload_n 3, 1) := by decide +kernel
theorem dX11_sheet_42 : decode cX11_sheet 42 = .ok (.iastore, 1) := by decide +kernel
theorem dX11_sheet_43 : decode cX11_sheet 43 = .ok (.iconst 0, 1) := by decide +kernel
theorem dX11_sheet_44 : decode cX11_sheet 44 = .ok (.istore 4, 2) := by decide +kernel
theorem dX11_sheet_46 : decode cX11_sheet 46 = .ok (.iload 4, 2) := by decide +kernel
theorem dX11_sheet_48 : decode cX11_sheet 48 = .ok (.bipush 24, 2) := by decide +kernel
theorem dX11_sheet_50 : decode cX11_sheet 50 = .ok (.if_icmp .ge 22, 3) := by decide +kernel
theorem dX11_sheet_53 : decode cX11_sheet 53 = .ok (.aload_n 0, 1) := by decide +kernel
theorem dX11_sheet_54 : decode cX11_sheet 54 = .ok (.getfield 25, 3) := by decide +kernel
theorem dX11_sheet_57 : decode cX11_sheet 57 = .ok (.bipush 24, 2) := by decide +kernel
theorem dX11_sheet_59 : decode cX11_sheet 59 = .ok (.iload_n 1, 1) := by decide +kernel
theorem dX11_sheet_60 : decode cX11_sheet 60 = .ok (.imul, 1) := by decide +kernel
theorem dX11_sheet_61 : decode cX11_sheet 61 = .ok (.iload 4, 2) := by decide +kernel
theorem dX11_sheet_63 : decode cX11_sheet 63 = .ok (.iadd, 1) := by decide +kernel
theorem dX11_sheet_64 : decode cX11_sheet 64 = .ok (.lconst 0, 1) := by decide +kernel
theorem dX11_sheet_65 : decode cX11_sheet 65 = .ok (.lastore, 1) := by decide +kernel
theorem dX11_sheet_66 : decode cX11_sheet 66 = .ok (.iinc 4 1, 3) := by decide +kernel
theorem dX11_sheet_69 : decode cX11_sheet 69 = .ok (.goto (-23), 3) := by decide +kernel
theorem dX11_sheet_72 : decode cX11_sheet 72 = .ok (.iload_n 3, 1) := by decide +kernel
theorem dX11_sheet_73 : decode cX11_sheet 73 = .ok (.ireturn, 1) := by decide +kernel
theorem dX11_drop_0 : decode cX11_drop 0 = .ok (.iload_n 1, 1) := by decide +kernel
theorem dX11_drop_1 : decode cX11_drop 1 = .ok (.invokestatic 220, 3) := by decide +kernel
theorem dX11_drop_4 : decode cX11_drop 4 = .ok (.ifCond .ne 5, 3) := by decide +kernel
theorem dX11_drop_7 : decode cX11_drop 7 = .ok (.iconst (-1), 1) := by decide +kernel
theorem dX11_drop_8 : decode cX11_drop 8 = .ok (.ireturn, 1) := by decide +kernel
theorem dX11_drop_9 : decode cX11_drop 9 = .ok (.aload_n 0, 1) := by decide +kernel
theorem dX11_drop_10 : decode cX11_drop 10 = .ok (.getfield 22, 3) := by decide +kernel
theorem dX11_drop_13 : decode cX11_drop 13 = .ok (.iload_n 1, 1) := by decide +kernel
theorem dX11_drop_14 : decode cX11_drop 14 = .ok (.iaload, 1) := by decide +kernel
theorem dX11_drop_15 : decode cX11_drop 15 = .ok (.ifCond .ge 6, 3) := by decide +kernel
theorem dX11_drop_18 : decode cX11_drop 18 = .ok (.bipush (-11), 2) := by decide +kernel
theorem dX11_drop_20 : decode cX11_drop 20 = .ok (.ireturn, 1) := by decide +kernel
theorem dX11_drop_21 : decode cX11_drop 21 = .ok (.aload_n 0, 1) := by decide +kernel
theorem dX11_drop_22 : decode cX11_drop 22 = .ok (.getfield 22, 3) := by decide +kernel
theorem dX11_drop_25 : decode cX11_drop 25 = .ok (.iload_n 1, 1) := by decide +kernel
theorem dX11_drop_26 : decode cX11_drop 26 = .ok (.iaload, 1) := by decide +kernel
theorem dX11_drop_27 : decode cX11_drop 27 = .ok (.istore_n 2, 1) := by decide +kernel
theorem dX11_drop_28 : decode cX11_drop 28 = .ok (.aload_n 0, 1) := by decide +kernel
theorem dX11_drop_29 : decode cX11_drop 29 = .ok (.getfield 22, 3) := by decide +kernel
theorem dX11_drop_32 : decode cX11_drop 32 = .ok (.iload_n 1, 1) := by decide +kernel
theorem dX11_drop_33 : decode cX11_drop 33 = .ok (.iconst (-1), 1) := by decide +kernel
theorem dX11_drop_34 : decode cX11_drop 34 = .ok (.iastore, 1) := by decide +kernel
theorem dX11_drop_35 : decode cX11_drop 35 = .ok (.iload_n 2, 1) := by decide +kernel
theorem dX11_drop_36 : decode cX11_drop 36 = .ok (.ireturn, 1) := by decide +kernel
theorem dX11_item_0 : decode cX11_item 0 = .ok (.iload_n 1, 1) := by decide +kernel
theorem dX11_item_1 : decode cX11_item 1 = .ok (.invokestatic 220, 3) := by decide +kernel
theorem dX11_item_4 : decode cX11_item 4 = .ok (.ifCond .eq 10, 3) := by decide +kernel
theorem dX11_item_7 : decode cX11_item 7 = .ok (.iload_n 2, 1) := by decide +kernel
theorem dX11_item_8 : decode cX11_item 8 = .ok (.invokestatic 223, 3) := by decide +kernel
theorem dX11_item_11 : decode cX11_item 11 = .ok (.ifCond .ne 5, 3) := by decide +kernel
theorem dX11_item_14 : decode cX11_item 14 = .ok (.iconst (-1), 1) := by decide +kernel
theorem dX11_item_15 : decode cX11_item 15 = .ok (.ireturn, 1) := by decide +kernel
theorem dX11_item_16 : decode cX11_item 16 = .ok (.aload_n 0, 1) := by decide +kernel
theorem dX11_item_17 : decode cX11_item 17 = .ok (.iload_n 1, 1) := by decide +kernel
theorem dX11_item_18 : decode cX11_item 18 = .ok (.iload_n 2, 1) := by decide +kernel
theorem dX11_item_19 : decode cX11_item 19 = .ok (.iload_n 3, 1) := by decide +kernel
theorem dX11_item_20 : decode cX11_item 20 = .ok (.iconst 1, 1) := by decide +kernel
theorem dX11_item_21 : decode cX11_item 21 = .ok (.invokevirtual 226, 3) := by decide +kernel
theorem dX11_item_24 : decode cX11_item 24 = .ok (.istore 6, 2) := by decide +kernel
theorem dX11_item_26 : decode cX11_item 26 = .ok (.iload 6, 2) := by decide +kernel
theorem dX11_item_28 : decode cX11_item 28 = .ok (.ifCond .ge 6, 3) := by decide +kernel
theorem dX11_item_31 : decode cX11_item 31 = .ok (.iload 6, 2) := by decide +kernel
theorem dX11_item_33 : decode cX11_item 33 = .ok (.ireturn, 1) := by decide +kernel
theorem dX11_item_34 : decode cX11_item 34 = .ok (.aload_n 0, 1) := by decide +kernel
theorem dX11_item_35 : decode cX11_item 35 = .ok (.getfield 25, 3) := by decide +kernel
theorem dX11_item_38 : decode cX11_item 38 = .ok (.bipush 24, 2) := by decide +kernel
theorem dX11_item_40 : decode cX11_item 40 = .ok (.iload_n 1, 1) := by decide +kernel
theorem dX11_item_41 : decode cX11_item 41 = .ok (.imul, 1) := by decide +kernel
theorem dX11_item_42 : decode cX11_item 42 = .ok (.iload_n 3, 1) := by decide +kernel
theorem dX11_item_43 : decode cX11_item 43 = .ok (.iadd, 1) := by decide +kernel
theorem dX11_item_44 : decode cX11_item 44 = .ok (.iload_n 2, 1) := by decide +kernel
theorem dX11_item_45 : decode cX11_item 45 = .ok (.lload 4, 2) := by decide +kernel
theorem dX11_item_47 : decode cX11_item 47 = .ok (.invokestatic 245, 3) := by decide +kernel
theorem dX11_item_50 : decode cX11_item 50 = .ok (.lastore, 1) := by decide +kernel
theorem dX11_item_51 : decode cX11_item 51 = .ok (.iconst 1, 1) := by decide +kernel
theorem dX11_item_52 : decode cX11_item 52 = .ok (.ireturn, 1) := by decide +kernel
theorem dX11_copy_0 : decode cX11_copy 0 = .ok (.iload_n 1, 1) := by decide +kernel
theorem dX11_copy_1 : decode cX11_copy 1 = .ok (.invokestatic 220, 3) := by decide +kernel
theorem dX11_copy_4 : decode cX11_copy 4 = .ok (.ifCond .eq 10, 3) := by decide +kernel
theorem dX11_copy_7 : decode cX11_copy 7 = .ok (.iload_n 3, 1) := by decide +kernel
theorem dX11_copy_8 : decode cX11_copy 8 = .ok (.invokestatic 220, 3) := by decide +kernel
theorem dX11_copy_11 : decode cX11_copy 11 = .ok (.ifCond .ne 5, 3) := by decide +kernel
theorem dX11_copy_14 : decode cX11_copy 14 = .ok (.iconst (-1), 1) := by decide +kernel
theorem dX11_copy_15 : decode cX11_copy 15 = .ok (.ireturn, 1) := by decide +kernel
theorem dX11_copy_16 : decode cX11_copy 16 = .ok (.aload_n 0, 1) := by decide +kernel
theorem dX11_copy_17 : decode cX11_copy 17 = .ok (.getfield 22, 3) := by decide +kernel
theorem dX11_copy_20 : decode cX11_copy 20 = .ok (.iload_n 1, 1) := by decide +kernel
theorem dX11_copy_21 : decode cX11_copy 21 = .ok (.iaload, 1) := by decide +kernel
theorem dX11_copy_22 : decode cX11_copy 22 = .ok (.ifCond .lt 12, 3) := by decide +kernel
theorem dX11_copy_25 : decode cX11_copy 25 = .ok (.aload_n 0, 1) := by decide +kernel
theorem dX11_copy_26 : decode cX11_copy 26 = .ok (.getfield 22, 3) := by decide +kernel
theorem dX11_copy_29 : decode cX11_copy 29 = .ok (.iload_n 3, 1) := by decide +kernel
theorem dX11_copy_30 : decode cX11_copy 30 = .ok (.iaload, 1) := by decide +kernel
theorem dX11_copy_31 : decode cX11_copy 31 = .ok (.ifCond .ge 6, 3) := by decide +kernel
theorem dX11_copy_34 : decode cX11_copy 34 = .ok (.bipush (-11), 2) := by decide +kernel
theorem dX11_copy_36 : decode cX11_copy 36 = .ok (.ireturn, 1) := by decide +kernel
theorem dX11_copy_37 : decode cX11_copy 37 = .ok (.aload_n 0, 1) := by decide +kernel
theorem dX11_copy_38 : decode cX11_copy 38 = .ok (.iload_n 1, 1) := by decide +kernel
theorem dX11_copy_39 : decode cX11_copy 39 = .ok (.aload_n 0, 1) := by decide +kernel
theorem dX11_copy_40 : decode cX11_copy 40 = .ok (.getfield 19, 3) := by decide +kernel
theorem dX11_copy_43 : decode cX11_copy 43 = .ok (.iload_n 3, 1) := by decide +kernel
theorem dX11_copy_44 : decode cX11_copy 44 = .ok (.iaload, 1) := by decide +kernel
theorem dX11_copy_45 : decode cX11_copy 45 = .ok (.iload_n 2, 1) := by decide +kernel
theorem dX11_copy_46 : decode cX11_copy 46 = .ok (.iload 5, 2) := by decide +kernel
theorem dX11_copy_48 : decode cX11_copy 48 = .ok (.invokevirtual 226, 3) := by decide +kernel
theorem dX11_copy_51 : decode cX11_copy 51 = .ok (.istore 6, 2) := by decide +kernel
theorem dX11_copy_53 : decode cX11_copy 53 = .ok (.iload 6, 2) := by decide +kernel
theorem dX11_copy_55 : decode cX11_copy 55 = .ok (.ifCond .ge 8, 3) := by decide +kernel
theorem dX11_copy_58 : decode cX11_copy 58 = .ok (.iload 6, 2) := by decide +kernel
theorem dX11_copy_60 : decode cX11_copy 60 = .ok (.goto 18, 3) := by decide +kernel
theorem dX11_copy_63 : decode cX11_copy 63 = .ok (.aload_n 0, 1) := by decide +kernel
theorem dX11_copy_64 : decode cX11_copy 64 = .ok (.iload_n 3, 1) := by decide +kernel
theorem dX11_copy_65 : decode cX11_copy 65 = .ok (.aload_n 0, 1) := by decide +kernel
theorem dX11_copy_66 : decode cX11_copy 66 = .ok (.getfield 19, 3) := by decide +kernel
theorem dX11_copy_69 : decode cX11_copy 69 = .ok (.iload_n 3, 1) := by decide +kernel
theorem dX11_copy_70 : decode cX11_copy 70 = .ok (.iaload, 1) := by decide +kernel
theorem dX11_copy_71 : decode cX11_copy 71 = .ok (.iload 4, 2) := by decide +kernel
theorem dX11_copy_73 : decode cX11_copy 73 = .ok (.iload 5, 2) := by decide +kernel
theorem dX11_copy_75 : decode cX11_copy 75 = .ok (.invokevirtual 226, 3) := by decide +kernel
theorem dX11_copy_78 : decode cX11_copy 78 = .ok (.istore 7, 2) := by decide +kernel
theorem dX11_copy_80 : decode cX11_copy 80 = .ok (.iload 7, 2) := by decide +kernel
theorem dX11_copy_82 : decode cX11_copy 82 = .ok (.ifCond .ge 6, 3) := by decide +kernel
theorem dX11_copy_85 : decode cX11_copy 85 = .ok (.iload 7, 2) := by decide +kernel
theorem dX11_copy_87 : decode cX11_copy 87 = .ok (.ireturn, 1) := by decide +kernel
theorem dX11_copy_88 : decode cX11_copy 88 = .ok (.iconst 0, 1) := by decide +kernel
theorem dX11_copy_89 : decode cX11_copy 89 = .ok (.istore 8, 2) := by decide +kernel
theorem dX11_copy_91 : decode cX11_copy 91 = .ok (.iload 8, 2) := by decide +kernel
theorem dX11_copy_93 : decode cX11_copy 93 = .ok (.iload 5, 2) := by decide +kernel
theorem dX11_copy_95 : decode cX11_copy 95 = .ok (.if_icmp .ge 58, 3) := by decide +kernel
theorem dX11_copy_98 : decode cX11_copy 98 = .ok (.iload 4, 2) := by decide +kernel
theorem dX11_copy_100 : decode cX11_copy 100 = .ok (.iload_n 2, 1) := by decide +kernel
theorem dX11_copy_101 : decode cX11_copy 101 = .ok (.if_icmp .le 13, 3) := by decide +kernel
theorem dX11_copy_104 : decode cX11_copy 104 = .ok (.iload 5, 2) := by decide +kernel
theorem dX11_copy_106 : decode cX11_copy 106 = .ok (.iconst 1, 1) := by decide +kernel
theorem dX11_copy_107 : decode cX11_copy 107 = .ok (.isub, 1) := by decide +kernel
theorem dX11_copy_108 : decode cX11_copy 108 = .ok (.iload 8, 2) := by decide +kernel
theorem dX11_copy_110 : decode cX11_copy 110 = .ok (.isub, 1) := by decide +kernel
theorem dX11_copy_111 : decode cX11_copy 111 = .ok (.goto 5, 3) := by decide +kernel
theorem dX11_copy_114 : decode cX11_copy 114 = .ok (.iload 8, 2) := by decide +kernel
theorem dX11_copy_116 : decode cX11_copy 116 = .ok (.istore 9, 2) := by decide +kernel
theorem dX11_copy_118 : decode cX11_copy 118 = .ok (.aload_n 0, 1) := by decide +kernel
theorem dX11_copy_119 : decode cX11_copy 119 = .ok (.getfield 25, 3) := by decide +kernel
theorem dX11_copy_122 : decode cX11_copy 122 = .ok (.bipush 24, 2) := by decide +kernel
theorem dX11_copy_124 : decode cX11_copy 124 = .ok (.iload_n 3, 1) := by decide +kernel
theorem dX11_copy_125 : decode cX11_copy 125 = .ok (.imul, 1) := by decide +kernel
theorem dX11_copy_126 : decode cX11_copy 126 = .ok (.iload 4, 2) := by decide +kernel
theorem dX11_copy_128 : decode cX11_copy 128 = .ok (.iadd, 1) := by decide +kernel
theorem dX11_copy_129 : decode cX11_copy 129 = .ok (.iload 9, 2) := by decide +kernel
theorem dX11_copy_131 : decode cX11_copy 131 = .ok (.iadd, 1) := by decide +kernel
theorem dX11_copy_132 : decode cX11_copy 132 = .ok (.aload_n 0, 1) := by decide +kernel
theorem dX11_copy_133 : decode cX11_copy 133 = .ok (.getfield 25, 3) := by decide +kernel
theorem dX11_copy_136 : decode cX11_copy 136 = .ok (.bipush 24, 2) := by decide +kernel
theorem dX11_copy_138 : decode cX11_copy 138 = .ok (.iload_n 1, 1) := by decide +kernel
theorem dX11_copy_139 : decode cX11_copy 139 = .ok (.imul, 1) := by decide +kernel
theorem dX11_copy_140 : decode cX11_copy 140 = .ok (.iload_n 2, 1) := by decide +kernel
theorem dX11_copy_141 : decode cX11_copy 141 = .ok (.iadd, 1) := by decide +kernel
theorem dX11_copy_142 : decode cX11_copy 142 = .ok (.iload 9, 2) := by decide +kernel
theorem dX11_copy_144 : decode cX11_copy 144 = .ok (.iadd, 1) := by decide +kernel
theorem dX11_copy_145 : decode cX11_copy 145 = .ok (.laload, 1) := by decide +kernel
theorem dX11_copy_146 : decode cX11_copy 146 = .ok (.lastore, 1) := by decide +kernel
theorem dX11_copy_147 : decode cX11_copy 147 = .ok (.iinc 8 1, 3) := by decide +kernel
theorem dX11_copy_150 : decode cX11_copy 150 = .ok (.goto (-59), 3) := by decide +kernel
theorem dX11_copy_153 : decode cX11_copy 153 = .ok (.iload 5, 2) := by decide +kernel
theorem dX11_copy_155 : decode cX11_copy 155 = .ok (.ireturn, 1) := by decide +kernel
