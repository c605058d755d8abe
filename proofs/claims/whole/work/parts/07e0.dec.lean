theorem dX11_init_0 : decode cX11_init 0 = .ok (.aload_n 0, 1) := by decide +kernel
theorem dX11_init_1 : decode cX11_init 1 = .ok (.invokespecial 1, 3) := by decide +kernel
theorem dX11_init_4 : decode cX11_init 4 = .ok (.aload_n 0, 1) := by decide +kernel
theorem dX11_init_5 : decode cX11_init 5 = .ok (.sipush 135, 3) := by decide +kernel
theorem dX11_init_8 : decode cX11_init 8 = .ok (.newarray .int, 2) := by decide +kernel
theorem dX11_init_10 : decode cX11_init 10 = .ok (.putfield 7, 3) := by decide +kernel
theorem dX11_init_13 : decode cX11_init 13 = .ok (.aload_n 0, 1) := by decide +kernel
theorem dX11_init_14 : decode cX11_init 14 = .ok (.sipush 135, 3) := by decide +kernel
theorem dX11_init_17 : decode cX11_init 17 = .ok (.newarray .int, 2) := by decide +kernel
theorem dX11_init_19 : decode cX11_init 19 = .ok (.putfield 13, 3) := by decide +kernel
theorem dX11_init_22 : decode cX11_init 22 = .ok (.aload_n 0, 1) := by decide +kernel
theorem dX11_init_23 : decode cX11_init 23 = .ok (.bipush 120, 2) := by decide +kernel
theorem dX11_init_25 : decode cX11_init 25 = .ok (.newarray .int, 2) := by decide +kernel
theorem dX11_init_27 : decode cX11_init 27 = .ok (.putfield 16, 3) := by decide +kernel
theorem dX11_init_30 : decode cX11_init 30 = .ok (.aload_n 0, 1) := by decide +kernel
theorem dX11_init_31 : decode cX11_init 31 = .ok (.iconst 4, 1) := by decide +kernel
theorem dX11_init_32 : decode cX11_init 32 = .ok (.newarray .int, 2) := by decide +kernel
theorem dX11_init_34 : decode cX11_init 34 = .ok (.putfield 19, 3) := by decide +kernel
theorem dX11_init_37 : decode cX11_init 37 = .ok (.aload_n 0, 1) := by decide +kernel
theorem dX11_init_38 : decode cX11_init 38 = .ok (.iconst 4, 1) := by decide +kernel
theorem dX11_init_39 : decode cX11_init 39 = .ok (.newarray .int, 2) := by decide +kernel
theorem dX11_init_41 : decode cX11_init 41 = .ok (.putfield 22, 3) := by decide +kernel
theorem dX11_init_44 : decode cX11_init 44 = .ok (.aload_n 0, 1) := by decide +kernel
theorem dX11_init_45 : decode cX11_init 45 = .ok (.bipush 96, 2) := by decide +kernel
theorem dX11_init_47 : decode cX11_init 47 = .ok (.newarray .long, 2) := by decide +kernel
theorem dX11_init_49 : decode cX11_init 49 = .ok (.putfield 25, 3) := by decide +kernel
theorem dX11_init_52 : decode cX11_init 52 = .ok (.aload_n 0, 1) := by decide +kernel
theorem dX11_init_53 : decode cX11_init 53 = .ok (.sipush 135, 3) := by decide +kernel
theorem dX11_init_56 : decode cX11_init 56 = .ok (.newarray .int, 2) := by decide +kernel
theorem dX11_init_58 : decode cX11_init 58 = .ok (.putfield 29, 3) := by decide +kernel
theorem dX11_init_61 : decode cX11_init 61 = .ok (.aload_n 0, 1) := by decide +kernel
theorem dX11_init_62 : decode cX11_init 62 = .ok (.bipush 64, 2) := by decide +kernel
theorem dX11_init_64 : decode cX11_init 64 = .ok (.newarray .int, 2) := by decide +kernel
theorem dX11_init_66 : decode cX11_init 66 = .ok (.putfield 32, 3) := by decide +kernel
theorem dX11_init_69 : decode cX11_init 69 = .ok (.aload_n 0, 1) := by decide +kernel
theorem dX11_init_70 : decode cX11_init 70 = .ok (.bipush 9, 2) := by decide +kernel
theorem dX11_init_72 : decode cX11_init 72 = .ok (.newarray .int, 2) := by decide +kernel
theorem dX11_init_74 : decode cX11_init 74 = .ok (.putfield 35, 3) := by decide +kernel
theorem dX11_init_77 : decode cX11_init 77 = .ok (.aload_n 0, 1) := by decide +kernel
theorem dX11_init_78 : decode cX11_init 78 = .ok (.bipush 9, 2) := by decide +kernel
theorem dX11_init_80 : decode cX11_init 80 = .ok (.newarray .int, 2) := by decide +kernel
theorem dX11_init_82 : decode cX11_init 82 = .ok (.putfield 38, 3) := by decide +kernel
theorem dX11_init_85 : decode cX11_init 85 = .ok (.aload_n 0, 1) := by decide +kernel
theorem dX11_init_86 : decode cX11_init 86 = .ok (.bipush 100, 2) := by decide +kernel
theorem dX11_init_88 : decode cX11_init 88 = .ok (.newarray .int, 2) := by decide +kernel
theorem dX11_init_90 : decode cX11_init 90 = .ok (.putfield 41, 3) := by decide +kernel
theorem dX11_init_93 : decode cX11_init 93 = .ok (.aload_n 0, 1) := by decide +kernel
theorem dX11_init_94 : decode cX11_init 94 = .ok (.bipush 100, 2) := by decide +kernel
theorem dX11_init_96 : decode cX11_init 96 = .ok (.newarray .int, 2) := by decide +kernel
theorem dX11_init_98 : decode cX11_init 98 = .ok (.putfield 44, 3) := by decide +kernel
theorem dX11_init_101 : decode cX11_init 101 = .ok (.aload_n 0, 1) := by decide +kernel
theorem dX11_init_102 : decode cX11_init 102 = .ok (.iconst 4, 1) := by decide +kernel
theorem dX11_init_103 : decode cX11_init 103 = .ok (.newarray .int, 2) := by decide +kernel
theorem dX11_init_105 : decode cX11_init 105 = .ok (.putfield 47, 3) := by decide +kernel
theorem dX11_init_108 : decode cX11_init 108 = .ok (.iconst 0, 1) := by decide +kernel
theorem dX11_init_109 : decode cX11_init 109 = .ok (.istore_n 1, 1) := by decide +kernel
theorem dX11_init_110 : decode cX11_init 110 = .ok (.iload_n 1, 1) := by decide +kernel
theorem dX11_init_111 : decode cX11_init 111 = .ok (.iconst 4, 1) := by decide +kernel
theorem dX11_init_112 : decode cX11_init 112 = .ok (.if_icmp .ge 16, 3) := by decide +kernel
theorem dX11_init_115 : decode cX11_init 115 = .ok (.aload_n 0, 1) := by decide +kernel
theorem dX11_init_116 : decode cX11_init 116 = .ok (.getfield 22, 3) := by decide +kernel
theorem dX11_init_119 : decode cX11_init 119 = .ok (.iload_n 1, 1) := by decide +kernel
theorem dX11_init_120 : decode cX11_init 120 = .ok (.iconst (-1), 1) := by decide +kernel
theorem dX11_init_121 : decode cX11_init 121 = .ok (.iastore, 1) := by decide +kernel
theorem dX11_init_122 : decode cX11_init 122 = .ok (.iinc 1 1, 3) := by decide +kernel
theorem dX11_init_125 : decode cX11_init 125 = .ok (.goto (-15), 3) := by decide +kernel
theorem dX11_init_128 : decode cX11_init 128 = .ok (.return_, 1) := by decide +kernel
theorem dX11_in_0 : decode cX11_in 0 = .ok (.lload_n 0, 1) := by decide +kernel
theorem dX11_in_1 : decode cX11_in 1 = .ok (.lload_n 2, 1) := by decide +kernel
theorem dX11_in_2 : decode cX11_in 2 = .ok (.lcmp, 1) := by decide +kernel
theorem dX11_in_3 : decode cX11_in 3 = .ok (.ifCond .lt 14, 3) := by decide +kernel
theorem dX11_in_6 : decode cX11_in 6 = .ok (.lload_n 0, 1) := by decide +kernel
theorem dX11_in_7 : decode cX11_in 7 = .ok (.lload 4, 2) := by decide +kernel
theorem dX11_in_9 : decode cX11_in 9 = .ok (.lcmp, 1) := by decide +kernel
theorem dX11_in_10 : decode cX11_in 10 = .ok (.ifCond .gt 7, 3) := by decide +kernel
theorem dX11_in_13 : decode cX11_in 13 = .ok (.iconst 1, 1) := by decide +kernel
theorem dX11_in_14 : decode cX11_in 14 = .ok (.goto 4, 3) := by decide +kernel
theorem dX11_in_17 : decode cX11_in 17 = .ok (.iconst 0, 1) := by decide +kernel
theorem dX11_in_18 : decode cX11_in 18 = .ok (.ireturn, 1) := by decide +kernel
theorem dX11_isParish_0 : decode cX11_isParish 0 = .ok (.iload_n 1, 1) := by decide +kernel
theorem dX11_isParish_1 : decode cX11_isParish 1 = .ok (.i2l, 1) := by decide +kernel
theorem dX11_isParish_2 : decode cX11_isParish 2 = .ok (.lconst 0, 1) := by decide +kernel
theorem dX11_isParish_3 : decode cX11_isParish 3 = .ok (.aload_n 0, 1) := by decide +kernel
theorem dX11_isParish_4 : decode cX11_isParish 4 = .ok (.getfield 7, 3) := by decide +kernel
theorem dX11_isParish_7 : decode cX11_isParish 7 = .ok (.iconst 0, 1) := by decide +kernel
theorem dX11_isParish_8 : decode cX11_isParish 8 = .ok (.iaload, 1) := by decide +kernel
theorem dX11_isParish_9 : decode cX11_isParish 9 = .ok (.iconst 1, 1) := by decide +kernel
theorem dX11_isParish_10 : decode cX11_isParish 10 = .ok (.isub, 1) := by decide +kernel
theorem dX11_isParish_11 : decode cX11_isParish 11 = .ok (.i2l, 1) := by decide +kernel
theorem dX11_isParish_12 : decode cX11_isParish 12 = .ok (.invokestatic 50, 3) := by decide +kernel
theorem dX11_isParish_15 : decode cX11_isParish 15 = .ok (.ireturn, 1) := by decide +kernel
theorem dX11_isRoad_0 : decode cX11_isRoad 0 = .ok (.iload_n 1, 1) := by decide +kernel
theorem dX11_isRoad_1 : decode cX11_isRoad 1 = .ok (.i2l, 1) := by decide +kernel
theorem dX11_isRoad_2 : decode cX11_isRoad 2 = .ok (.lconst 0, 1) := by decide +kernel
theorem dX11_isRoad_3 : decode cX11_isRoad 3 = .ok (.aload_n 0, 1) := by decide +kernel
theorem dX11_isRoad_4 : decode cX11_isRoad 4 = .ok (.getfield 7, 3) := by decide +kernel
theorem dX11_isRoad_7 : decode cX11_isRoad 7 = .ok (.iconst 1, 1) := by decide +kernel
theorem dX11_isRoad_8 : decode cX11_isRoad 8 = .ok (.iaload, 1) := by decide +kernel
theorem dX11_isRoad_9 : decode cX11_isRoad 9 = .ok (.iconst 1, 1) := by decide +kernel
theorem dX11_isRoad_10 : decode cX11_isRoad 10 = .ok (.isub, 1) := by decide +kernel
theorem dX11_isRoad_11 : decode cX11_isRoad 11 = .ok (.i2l, 1) := by decide +kernel
theorem dX11_isRoad_12 : decode cX11_isRoad 12 = .ok (.invokestatic 50, 3) := by decide +kernel
theorem dX11_isRoad_15 : decode cX11_isRoad 15 = .ok (.ireturn, 1) := by decide +kernel
theorem dX11_isCart_0 : decode cX11_isCart 0 = .ok (.iload_n 1, 1) := by decide +kernel
theorem dX11_isCart_1 : decode cX11_isCart 1 = .ok (.i2l, 1) := by decide +kernel
theorem dX11_isCart_2 : decode cX11_isCart 2 = .ok (.lconst 0, 1) := by decide +kernel
theorem dX11_isCart_3 : decode cX11_isCart 3 = .ok (.aload_n 0, 1) := by decide +kernel
theorem dX11_isCart_4 : decode cX11_isCart 4 = .ok (.getfield 7, 3) := by decide +kernel
theorem dX11_isCart_7 : decode cX11_isCart 7 = .ok (.iconst 2, 1) := by decide +kernel
theorem dX11_isCart_8 : decode cX11_isCart 8 = .ok (.iaload, 1) := by decide +kernel
theorem dX11_isCart_9 : decode cX11_isCart 9 = .ok (.iconst 1, 1) := by decide +kernel
theorem dX11_isCart_10 : decode cX11_isCart 10 = .ok (.isub, 1) := by decide +kernel
theorem dX11_isCart_11 : decode cX11_isCart 11 = .ok (.i2l, 1) := by decide +kernel
theorem dX11_isCart_12 : decode cX11_isCart 12 = .ok (.invokestatic 50, 3) := by decide +kernel
theorem dX11_isCart_15 : decode cX11_isCart 15 = .ok (.ireturn, 1) := by decide +kernel
theorem dX11_isGood_0 : decode cX11_isGood 0 = .ok (.iload_n 1, 1) := by decide +kernel
theorem dX11_isGood_1 : decode cX11_isGood 1 = .ok (.i2l, 1) := by decide +kernel
theorem dX11_isGood_2 : decode cX11_isGood 2 = .ok (.lconst 0, 1) := by decide +kernel
theorem dX11_isGood_3 : decode cX11_isGood 3 = .ok (.aload_n 0, 1) := by decide +kernel
theorem dX11_isGood_4 : decode cX11_isGood 4 = .ok (.getfield 7, 3) := by decide +kernel
theorem dX11_isGood_7 : decode cX11_isGood 7 = .ok (.iconst 3, 1) := by decide +kernel
theorem dX11_isGood_8 : decode cX11_isGood 8 = .ok (.iaload, 1) := by decide +kernel
theorem dX11_isGood_9 : decode cX11_isGood 9 = .ok (.iconst 1, 1) := by decide +kernel
theorem dX11_isGood_10 : decode cX11_isGood 10 = .ok (.isub, 1) := by decide +kernel
theorem dX11_isGood_11 : decode cX11_isGood 11 = .ok (.i2l, 1) := by decide +kernel
theorem dX11_isGood_12 : decode cX11_isGood 12 = .ok (.invokestatic 50, 3) := by decide +kernel
theorem dX11_isGood_15 : decode cX11_isGood 15 = .ok (.ireturn, 1) := by decide +kernel
theorem dX11_isPerson_0 : decode cX11_isPerson 0 = .ok (.iload_n 1, 1) := by decide +kernel
theorem dX11_isPerson_1 : decode cX11_isPerson 1 = .ok (.i2l, 1) := by decide +kernel
theorem dX11_isPerson_2 : decode cX11_isPerson 2 = .ok (.lconst 0, 1) := by decide +kernel
theorem dX11_isPerson_3 : decode cX11_isPerson 3 = .ok (.aload_n 0, 1) := by decide +kernel
theorem dX11_isPerson_4 : decode cX11_isPerson 4 = .ok (.getfield 7, 3) := by decide +kernel
theorem dX11_isPerson_7 : decode cX11_isPerson 7 = .ok (.iconst 4, 1) := by decide +kernel
theorem dX11_isPerson_8 : decode cX11_isPerson 8 = .ok (.iaload, 1) := by decide +kernel
theorem dX11_isPerson_9 : decode cX11_isPerson 9 = .ok (.iconst 1, 1) := by decide +kernel
theorem dX11_isPerson_10 : decode cX11_isPerson 10 = .ok (.isub, 1) := by decide +kernel
theorem dX11_isPerson_11 : decode cX11_isPerson 11 = .ok (.i2l, 1) := by decide +kernel
theorem dX11_isPerson_12 : decode cX11_isPerson 12 = .ok (.invokestatic 50, 3) := by decide +kernel
theorem dX11_isPerson_15 : decode cX11_isPerson 15 = .ok (.ireturn, 1) := by decide +kernel
theorem dX11_isTwo_0 : decode cX11_isTwo 0 = .ok (.iload_n 0, 1) := by decide +kernel
theorem dX11_isTwo_1 : decode cX11_isTwo 1 = .ok (.i2l, 1) := by decide +kernel
theorem dX11_isTwo_2 : decode cX11_isTwo 2 = .ok (.lconst 0, 1) := by decide +kernel
theorem dX11_isTwo_3 : decode cX11_isTwo 3 = .ok (.lconst 1, 1) := by decide +kernel
theorem dX11_isTwo_4 : decode cX11_isTwo 4 = .ok (.invokestatic 50, 3) := by decide +kernel
theorem dX11_isTwo_7 : decode cX11_isTwo 7 = .ok (.ireturn, 1) := by decide +kernel
theorem dX11_season_0 : decode cX11_season 0 = .ok (.aload_n 0, 1) := by decide +kernel
theorem dX11_season_1 : decode cX11_season 1 = .ok (.getfield 7, 3) := by decide +kernel
theorem dX11_season_4 : decode cX11_season 4 = .ok (.iconst 5, 1) := by decide +kernel
theorem dX11_season_5 : decode cX11_season 5 = .ok (.iaload, 1) := by decide +kernel
theorem dX11_season_6 : decode cX11_season 6 = .ok (.bipush 13, 2) := by decide +kernel
theorem dX11_season_8 : decode cX11_season 8 = .ok (.idiv, 1) := by decide +kernel
theorem dX11_season_9 : decode cX11_season 9 = .ok (.iconst 4, 1) := by decide +kernel
theorem dX11_season_10 : decode cX11_season 10 = .ok (.irem, 1) := by decide +kernel
theorem dX11_season_11 : decode cX11_season 11 = .ok (.ireturn, 1) := by decide +kernel
theorem dX11_weightBy_0 : decode cX11_weightBy 0 = .ok (.iload_n 2, 1) := by decide +kernel
theorem dX11_weightBy_1 : decode cX11_weightBy 1 = .ok (.iload_n 1, 1) := by decide +kernel
theorem dX11_weightBy_2 : decode cX11_weightBy 2 = .ok (.imul, 1) := by decide +kernel
theorem dX11_weightBy_3 : decode cX11_weightBy 3 = .ok (.istore_n 3, 1) := by decide +kernel
theorem dX11_weightBy_4 : decode cX11_weightBy 4 = .ok (.iload_n 0, 1) := by decide +kernel
theorem dX11_weightBy_5 : decode cX11_weightBy 5 = .ok (.iconst 1, 1) := by decide +kernel
theorem dX11_weightBy_6 : decode cX11_weightBy 6 = .ok (.if_icmp .ne 9, 3) := by decide +kernel
theorem dX11_weightBy_9 : decode cX11_weightBy 9 = .ok (.iload_n 3, 1) := by decide +kernel
theorem dX11_weightBy_10 : decode cX11_weightBy 10 = .ok (.iload_n 2, 1) := by decide +kernel
theorem dX11_weightBy_11 : decode cX11_weightBy 11 = .ok (.iadd, 1) := by decide +kernel
theorem dX11_weightBy_12 : decode cX11_weightBy 12 = .ok (.goto 26, 3) := by decide +kernel
theorem dX11_weightBy_15 : decode cX11_weightBy 15 = .ok (.iload_n 0, 1) := by decide +kernel
theorem dX11_weightBy_16 : decode cX11_weightBy 16 = .ok (.iconst 2, 1) := by decide +kernel
theorem dX11_weightBy_17 : decode cX11_weightBy 17 = .ok (.if_icmp .ne 7, 3) := by decide +kernel
theorem dX11_weightBy_20 : decode cX11_weightBy 20 = .ok (.iconst 0, 1) := by decide +kernel
theorem dX11_weightBy_21 : decode cX11_weightBy 21 = .ok (.goto 17, 3) := by decide +kernel
theorem dX11_weightBy_24 : decode cX11_weightBy 24 = .ok (.iload_n 0, 1) := by decide +kernel
theorem dX11_weightBy_25 : decode cX11_weightBy 25 = .ok (.iconst 3, 1) := by decide +kernel
theorem dX11_weightBy_26 : decode cX11_weightBy 26 = .ok (.if_icmp .ne 11, 3) := by decide +kernel
theorem dX11_weightBy_29 : decode cX11_weightBy 29 = .ok (.iload_n 3, 1) := by decide +kernel
theorem dX11_weightBy_30 : decode cX11_weightBy 30 = .ok (.iload_n 2, 1) := by decide +kernel
theorem dX11_weightBy_31 : decode cX11_weightBy 31 = .ok (.iadd, 1) := by decide +kernel
theorem dX11_weightBy_32 : decode cX11_weightBy 32 = .ok (.iconst 2, 1) := by decide +kernel
theorem dX11_weightBy_33 : decode cX11_weightBy 33 = .ok (.idiv, 1) := by decide +kernel
theorem dX11_weightBy_34 : decode cX11_weightBy 34 = .ok (.goto 4, 3) := by decide +kernel
theorem dX11_weightBy_37 : decode cX11_weightBy 37 = .ok (.iload_n 3, 1) := by decide +kernel
theorem dX11_weightBy_38 : decode cX11_weightBy 38 = .ok (.ireturn, 1) := by decide +kernel
theorem dX11_weight_0 : decode cX11_weight 0 = .ok (.aload_n 0, 1) := by decide +kernel
theorem dX11_weight_1 : decode cX11_weight 1 = .ok (.getfield 7, 3) := by decide +kernel
theorem dX11_weight_4 : decode cX11_weight 4 = .ok (.bipush 6, 2) := by decide +kernel
theorem dX11_weight_6 : decode cX11_weight 6 = .ok (.iload_n 1, 1) := by decide +kernel
theorem dX11_weight_7 : decode cX11_weight 7 = .ok (.iadd, 1) := by decide +kernel
theorem dX11_weight_8 : decode cX11_weight 8 = .ok (.iaload, 1) := by decide +kernel
theorem dX11_weight_9 : decode cX11_weight 9 = .ok (.aload_n 0, 1) := by decide +kernel
theorem dX11_weight_10 : decode cX11_weight 10 = .ok (.getfield 7, 3) := by decide +kernel
theorem dX11_weight_13 : decode cX11_weight 13 = .ok (.bipush 14, 2) := by decide +kernel
theorem dX11_weight_15 : decode cX11_weight 15 = .ok (.iconst 4, 1) := by decide +kernel
theorem dX11_weight_16 : decode cX11_weight 16 = .ok (.iload_n 1, 1) := by decide +kernel
theorem dX11_weight_17 : decode cX11_weight 17 = .ok (.imul, 1) := by decide +kernel
theorem dX11_weight_18 : decode cX11_weight 18 = .ok (.iadd, 1) := by decide +kernel
theorem dX11_weight_19 : decode cX11_weight 19 = .ok (.aload_n 0, 1) := by decide +kernel
theorem dX11_weight_20 : decode cX11_weight 20 = .ok (.invokevirtual 54, 3) := by decide +kernel
theorem dX11_weight_23 : decode cX11_weight 23 = .ok (.iadd, 1) := by decide +kernel
theorem dX11_weight_24 : decode cX11_weight 24 = .ok (.iaload, 1) := by decide +kernel
theorem dX11_weight_25 : decode cX11_weight 25 = .ok (.iload_n 2, 1) := by decide +kernel
theorem dX11_weight_26 : decode cX11_weight 26 = .ok (.invokestatic 58, 3) := by decide +kernel
theorem dX11_weight_29 : decode cX11_weight 29 = .ok (.ireturn, 1) := by decide +kernel
theorem dX11_joins_0 : decode cX11_joins 0 = .ok (.aload_n 0, 1) := by decide +kernel
theorem dX11_joins_1 : decode cX11_joins 1 = .ok (.getfield 7, 3) := by decide +kernel
theorem dX11_joins_4 : decode cX11_joins 4 = .ok (.iconst 0, 1) := by decide +kernel
theorem dX11_joins_5 : decode cX11_joins 5 = .ok (.iaload, 1) := by decide +kernel
theorem dX11_joins_6 : decode cX11_joins 6 = .ok (.istore_n 2, 1) := by decide +kernel
theorem dX11_joins_7 : decode cX11_joins 7 = .ok (.aload_n 0, 1) := by decide +kernel
theorem dX11_joins_8 : decode cX11_joins 8 = .ok (.getfield 7, 3) := by decide +kernel
theorem dX11_joins_11 : decode cX11_joins 11 = .ok (.bipush 6, 2) := by decide +kernel
theorem dX11_joins_13 : decode cX11_joins 13 = .ok (.iload_n 2, 1) := by decide +kernel
theorem dX11_joins_14 : decode cX11_joins 14 = .ok (.iadd, 1) := by decide +kernel
theorem dX11_joins_15 : decode cX11_joins 15 = .ok (.iload_n 1, 1) := by decide +kernel
theorem dX11_joins_16 : decode cX11_joins 16 = .ok (.iastore, 1) := by decide +kernel
theorem dX11_joins_17 : decode cX11_joins 17 = .ok (.iconst 0, 1) := by decide +kernel
theorem dX11_joins_18 : decode cX11_joins 18 = .ok (.istore_n 3, 1) := by decide +kernel
theorem dX11_joins_19 : decode cX11_joins 19 = .ok (.iload_n 3, 1) := by decide +kernel
theorem dX11_joins_20 : decode cX11_joins 20 = .ok (.iconst 4, 1) := by decide +kernel
theorem dX11_joins_21 : decode cX11_joins 21 = .ok (.if_icmp .ge 23, 3) := by decide +kernel
theorem dX11_joins_24 : decode cX11_joins 24 = .ok (.aload_n 0, 1) := by decide +kernel
theorem dX11_joins_25 : decode cX11_joins 25 = .ok (.getfield 7, 3) := by decide +kernel
theorem dX11_joins_28 : decode cX11_joins 28 = .ok (.bipush 14, 2) := by decide +kernel
theorem dX11_joins_30 : decode cX11_joins 30 = .ok (.iconst 4, 1) := by decide +kernel
theorem dX11_joins_31 : decode cX11_joins 31 = .ok (.iload_n 2, 1) := by decide +kernel
theorem dX11_joins_32 : decode cX11_joins 32 = .ok (.imul, 1) := by decide +kernel
theorem dX11_joins_33 : decode cX11_joins 33 = .ok (.iadd, 1) := by decide +kernel
theorem dX11_joins_34 : decode cX11_joins 34 = .ok (.iload_n 3, 1) := by decide +kernel
theorem dX11_joins_35 : decode cX11_joins 35 = .ok (.iadd, 1) := by decide +kernel
theorem dX11_joins_36 : decode cX11_joins 36 = .ok (.iconst 5, 1) := by decide +kernel
theorem dX11_joins_37 : decode cX11_joins 37 = .ok (.iastore, 1) := by decide +kernel
theorem dX11_joins_38 : decode cX11_joins 38 = .ok (.iinc 3 1, 3) := by decide +kernel
theorem dX11_joins_41 : decode cX11_joins 41 = .ok (.goto (-22), 3) := by decide +kernel
theorem dX11_joins_44 : decode cX11_joins 44 = .ok (.aload_n 0, 1) := by decide +kernel
theorem dX11_joins_45 : decode cX11_joins 45 = .ok (.getfield 7, 3) := by decide +kernel
theorem dX11_joins_48 : decode cX11_joins 48 = .ok (.iconst 0, 1) := by decide +kernel
theorem dX11_joins_49 : decode cX11_joins 49 = .ok (.dup2, 1) := by decide +kernel
theorem dX11_joins_50 : decode cX11_joins 50 = .ok (.iaload, 1) := by decide +kernel
theorem dX11_joins_51 : decode cX11_joins 51 = .ok (.iconst 1, 1) := by decide +kernel
theorem dX11_joins_52 : decode cX11_joins 52 = .ok (.iadd, 1) := by decide +kernel
theorem dX11_joins_53 : decode cX11_joins 53 = .ok (.iastore, 1) := by decide +kernel
theorem dX11_joins_54 : decode cX11_joins 54 = .ok (.iload_n 2, 1) := by decide +kernel
theorem dX11_joins_55 : decode cX11_joins 55 = .ok (.ireturn, 1) := by decide +kernel
theorem dX11_parish_0 : decode cX11_parish 0 = .ok (.iload_n 1, 1) := by decide +kernel
theorem dX11_parish_1 : decode cX11_parish 1 = .ok (.i2l, 1) := by decide +kernel
theorem dX11_parish_2 : decode cX11_parish 2 = .ok (.lconst 0, 1) := by decide +kernel
theorem dX11_parish_3 : decode cX11_parish 3 = .ok (.ldc2_w 62, 3) := by decide +kernel
theorem dX11_parish_6 : decode cX11_parish 6 = .ok (.invokestatic 50, 3) := by decide +kernel
theorem dX11_parish_9 : decode cX11_parish 9 = .ok (.ifCond .ne 5, 3) := by decide +kernel
theorem dX11_parish_12 : decode cX11_parish 12 = .ok (.iconst (-1), 1) := by decide +kernel
theorem dX11_parish_13 : decode cX11_parish 13 = .ok (.ireturn, 1) := by decide +kernel
theorem dX11_parish_14 : decode cX11_parish 14 = .ok (.aload_n 0, 1) := by decide +kernel
theorem dX11_parish_15 : decode cX11_parish 15 = .ok (.getfield 7, 3) := by decide +kernel
theorem dX11_parish_18 : decode cX11_parish 18 = .ok (.iconst 0, 1) := by decide +kernel
theorem dX11_parish_19 : decode cX11_parish 19 = .ok (.iaload, 1) := by decide +kernel
theorem dX11_parish_20 : decode cX11_parish 20 = .ok (.bipush 8, 2) := by decide +kernel
theorem dX11_parish_22 : decode cX11_parish 22 = .ok (.if_icmp .ne 8, 3) := by decide +kernel
theorem dX11_parish_25 : decode cX11_parish 25 = .ok (.bipush (-3), 2) := by decide +kernel
theorem dX11_parish_27 : decode cX11_parish 27 = .ok (.goto 8, 3) := by decide +kernel
theorem dX11_parish_30 : decode cX11_parish 30 = .ok (.aload_n 0, 1) := by decide +kernel
theorem dX11_parish_31 : decode cX11_parish 31 = .ok (.iload_n 1, 1) := by decide +kernel
theorem dX11_parish_32 : decode cX11_parish 32 = .ok (.invokevirtual 64, 3) := by decide +kernel
theorem dX11_parish_35 : decode cX11_parish 35 = .ok (.ireturn, 1) := by decide +kernel
theorem dX11_pull_0 : decode cX11_pull 0 = .ok (.aload_n 0, 1) := by decide +kernel
theorem dX11_pull_1 : decode cX11_pull 1 = .ok (.iload_n 1, 1) := by decide +kernel
theorem dX11_pull_2 : decode cX11_pull 2 = .ok (.invokevirtual 68, 3) := by decide +kernel
theorem dX11_pull_5 : decode cX11_pull 5 = .ok (.ifCond .eq 27, 3) := by decide +kernel
theorem dX11_pull_8 : decode cX11_pull 8 = .ok (.iload_n 2, 1) := by decide +kernel
theorem dX11_pull_9 : decode cX11_pull 9 = .ok (.i2l, 1) := by decide +kernel
theorem dX11_pull_10 : decode cX11_pull 10 = .ok (.lconst 0, 1) := by decide +kernel
theorem dX11_pull_11 : decode cX11_pull 11 = .ok (.ldc2_w 62, 3) := by decide +kernel
theorem dX11_pull_14 : decode cX11_pull 14 = .ok (.invokestatic 50, 3) := by decide +kernel
theorem dX11_pull_17 : decode cX11_pull 17 = .ok (.ifCond .eq 15, 3) := by decide +kernel
theorem dX11_pull_20 : decode cX11_pull 20 = .ok (.iload_n 3, 1) := by decide +kernel
theorem dX11_pull_21 : decode cX11_pull 21 = .ok (.i2l, 1) := by decide +kernel
theorem dX11_pull_22 : decode cX11_pull 22 = .ok (.lconst 1, 1) := by decide +kernel
theorem dX11_pull_23 : decode cX11_pull 23 = .ok (.ldc2_w 72, 3) := by decide +kernel
theorem dX11_pull_26 : decode cX11_pull 26 = .ok (.invokestatic 50, 3) := by decide +kernel
theorem dX11_pull_29 : decode cX11_pull 29 = .ok (.ifCond .ne 5, 3) := by decide +kernel
theorem dX11_pull_32 : decode cX11_pull 32 = .ok (.iconst (-1), 1) := by decide +kernel
theorem dX11_pull_33 : decode cX11_pull 33 = .ok (.ireturn, 1) := by decide +kernel
theorem dX11_pull_34 : decode cX11_pull 34 = .ok (.aload_n 0, 1) := by decide +kernel
theorem dX11_pull_35 : decode cX11_pull 35 = .ok (.getfield 7, 3) := by decide +kernel
theorem dX11_pull_38 : decode cX11_pull 38 = .ok (.bipush 14, 2) := by decide +kernel
theorem dX11_pull_40 : decode cX11_pull 40 = .ok (.iconst 4, 1) := by decide +kernel
theorem dX11_pull_41 : decode cX11_pull 41 = .ok (.iload_n 1, 1) := by decide +kernel
theorem dX11_pull_42 : decode cX11_pull 42 = .ok (.imul, 1) := by decide +kernel
theorem dX11_pull_43 : decode cX11_pull 43 = .ok (.iadd, 1) := by decide +kernel
theorem dX11_pull_44 : decode cX11_pull 44 = .ok (.iload_n 2, 1) := by decide +kernel
theorem dX11_pull_45 : decode cX11_pull 45 = .ok (.iadd, 1) := by decide +kernel
theorem dX11_pull_46 : decode cX11_pull 46 = .ok (.iaload, 1) := by decide +kernel
theorem dX11_pull_47 : decode cX11_pull 47 = .ok (.istore 4, 2) := by decide +kernel
theorem dX11_pull_49 : decode cX11_pull 49 = .ok (.aload_n 0, 1) := by decide +kernel
theorem dX11_pull_50 : decode cX11_pull 50 = .ok (.getfield 7, 3) := by decide +kernel
theorem dX11_pull_53 : decode cX11_pull 53 = .ok (.bipush 14, 2) := by decide +kernel
theorem dX11_pull_55 : decode cX11_pull 55 = .ok (.iconst 4, 1) := by decide +kernel
theorem dX11_pull_56 : decode cX11_pull 56 = .ok (.iload_n 1, 1) := by decide +kernel
theorem dX11_pull_57 : decode cX11_pull 57 = .ok (.imul, 1) := by decide +kernel
theorem dX11_pull_58 : decode cX11_pull 58 = .ok (.iadd, 1) := by decide +kernel
theorem dX11_pull_59 : decode cX11_pull 59 = .ok (.iload_n 2, 1) := by decide +kernel
theorem dX11_pull_60 : decode cX11_pull 60 = .ok (.iadd, 1) := by decide +kernel
theorem dX11_pull_61 : decode cX11_pull 61 = .ok (.iload_n 3, 1) := by decide +kernel
theorem dX11_pull_62 : decode cX11_pull 62 = .ok (.iastore, 1) := by decide +kernel
theorem dX11_pull_63 : decode cX11_pull 63 = .ok (.iload 4, 2) := by decide +kernel
theorem dX11_pull_65 : decode cX11_pull 65 = .ok (.ireturn, 1) := by decide +kernel
theorem dX11_roadOf_0 : decode cX11_roadOf 0 = .ok (.iconst (-1), 1) := by decide +kernel
theorem dX11_roadOf_1 : decode cX11_roadOf 1 = .ok (.istore_n 3, 1) := by decide +kernel
theorem dX11_roadOf_2 : decode cX11_roadOf 2 = .ok (.iconst 0, 1) := by decide +kernel
theorem dX11_roadOf_3 : decode cX11_roadOf 3 = .ok (.istore 4, 2) := by decide +kernel
theorem dX11_roadOf_5 : decode cX11_roadOf 5 = .ok (.iload 4, 2) := by decide +kernel
theorem dX11_roadOf_7 : decode cX11_roadOf 7 = .ok (.aload_n 0, 1) := by decide +kernel
theorem dX11_roadOf_8 : decode cX11_roadOf 8 = .ok (.getfield 7, 3) := by decide +kernel
theorem dX11_roadOf_11 : decode cX11_roadOf 11 = .ok (.iconst 1, 1) := by decide +kernel
theorem dX11_roadOf_12 : decode cX11_roadOf 12 = .ok (.iaload, 1) := by decide +kernel
theorem dX11_roadOf_13 : decode cX11_roadOf 13 = .ok (.if_icmp .ge 84, 3) := by decide +kernel
theorem dX11_roadOf_16 : decode cX11_roadOf 16 = .ok (.aload_n 0, 1) := by decide +kernel
theorem dX11_roadOf_17 : decode cX11_roadOf 17 = .ok (.getfield 7, 3) := by decide +kernel
theorem dX11_roadOf_20 : decode cX11_roadOf 20 = .ok (.bipush 46, 2) := by decide +kernel
theorem dX11_roadOf_22 : decode cX11_roadOf 22 = .ok (.iload 4, 2) := by decide +kernel
theorem dX11_roadOf_24 : decode cX11_roadOf 24 = .ok (.iadd, 1) := by decide +kernel
theorem dX11_roadOf_25 : decode cX11_roadOf 25 = .ok (.iaload, 1) := by decide +kernel
theorem dX11_roadOf_26 : decode cX11_roadOf 26 = .ok (.iload_n 1, 1) := by decide +kernel
theorem dX11_roadOf_27 : decode cX11_roadOf 27 = .ok (.if_icmp .ne 17, 3) := by decide +kernel
theorem dX11_roadOf_30 : decode cX11_roadOf 30 = .ok (.aload_n 0, 1) := by decide +kernel
theorem dX11_roadOf_31 : decode cX11_roadOf 31 = .ok (.getfield 7, 3) := by decide +kernel
theorem dX11_roadOf_34 : decode cX11_roadOf 34 = .ok (.bipush 61, 2) := by decide +kernel
theorem dX11_roadOf_36 : decode cX11_roadOf 36 = .ok (.iload 4, 2) := by decide +kernel
theorem dX11_roadOf_38 : decode cX11_roadOf 38 = .ok (.iadd, 1) := by decide +kernel
theorem dX11_roadOf_39 : decode cX11_roadOf 39 = .ok (.iaload, 1) := by decide +kernel
theorem dX11_roadOf_40 : decode cX11_roadOf 40 = .ok (.iload_n 2, 1) := by decide +kernel
theorem dX11_roadOf_41 : decode cX11_roadOf 41 = .ok (.if_icmp .eq 31, 3) := by decide +kernel
theorem dX11_roadOf_44 : decode cX11_roadOf 44 = .ok (.aload_n 0, 1) := by decide +kernel
theorem dX11_roadOf_45 : decode cX11_roadOf 45 = .ok (.getfield 7, 3) := by decide +kernel
theorem dX11_roadOf_48 : decode cX11_roadOf 48 = .ok (.bipush 46, 2) := by decide +kernel
theorem dX11_roadOf_50 : decode cX11_roadOf 50 = .ok (.iload 4, 2) := by decide +kernel
theorem dX11_roadOf_52 : decode cX11_roadOf 52 = .ok (.iadd, 1) := by decide +kernel
theorem dX11_roadOf_53 : decode cX11_roadOf 53 = .ok (.iaload, 1) := by decide +kernel
theorem dX11_roadOf_54 : decode cX11_roadOf 54 = .ok (.iload_n 2, 1) := by decide +kernel
theorem dX11_roadOf_55 : decode cX11_roadOf 55 = .ok (.if_icmp .ne 21, 3) := by decide +kernel
theorem dX11_roadOf_58 : decode cX11_roadOf 58 = .ok (.aload_n 0, 1) := by decide +kernel
theorem dX11_roadOf_59 : decode cX11_roadOf 59 = .ok (.getfield 7, 3) := by decide +kernel
theorem dX11_roadOf_62 : decode cX11_roadOf 62 = .ok (.bipush 61, 2) := by decide +kernel
theorem dX11_roadOf_64 : decode cX11_roadOf 64 = .ok (.iload 4, 2) := by decide +kernel
theorem dX11_roadOf_66 : decode cX11_roadOf 66 = .ok (.iadd, 1) := by decide +kernel
theorem dX11_roadOf_67 : decode cX11_roadOf 67 = .ok (.iaload, 1) := by decide +kernel
theorem dX11_roadOf_68 : decode cX11_roadOf 68 = .ok (.iload_n 1, 1) := by decide +kernel
theorem dX11_roadOf_69 : decode cX11_roadOf 69 = .ok (.if_icmp .ne 7, 3) := by decide +kernel
theorem dX11_roadOf_72 : decode cX11_roadOf 72 = .ok (.iconst 1, 1) := by decide +kernel
theorem dX11_roadOf_73 : decode cX11_roadOf 73 = .ok (.goto 4, 3) := by decide +kernel
theorem dX11_roadOf_76 : decode cX11_roadOf 76 = .ok (.iconst 0, 1) := by decide +kernel
theorem dX11_roadOf_77 : decode cX11_roadOf 77 = .ok (.istore 5, 2) := by decide +kernel
theorem dX11_roadOf_79 : decode cX11_roadOf 79 = .ok (.iload 5, 2) := by decide +kernel
theorem dX11_roadOf_81 : decode cX11_roadOf 81 = .ok (.ifCond .eq 8, 3) := by decide +kernel
theorem dX11_roadOf_84 : decode cX11_roadOf 84 = .ok (.iload 4, 2) := by decide +kernel
theorem dX11_roadOf_86 : decode cX11_roadOf 86 = .ok (.goto 4, 3) := by decide +kernel
theorem dX11_roadOf_89 : decode cX11_roadOf 89 = .ok (.iload_n 3, 1) := by decide +kernel
theorem dX11_roadOf_90 : decode cX11_roadOf 90 = .ok (.istore_n 3, 1) := by decide +kernel
theorem dX11_roadOf_91 : decode cX11_roadOf 91 = .ok (.iinc 4 1, 3) := by decide +kernel
theorem dX11_roadOf_94 : decode cX11_roadOf 94 = .ok (.goto (-89), 3) := by decide +kernel
theorem dX11_roadOf_97 : decode cX11_roadOf 97 = .ok (.iload_n 3, 1) := by decide +kernel
theorem dX11_roadOf_98 : decode cX11_roadOf 98 = .ok (.ireturn, 1) := by decide +kernel
theorem dX11_road_0 : decode cX11_road 0 = .ok (.aload_n 0, 1) := by decide +kernel
theorem dX11_road_1 : decode cX11_road 1 = .ok (.iload_n 1, 1) := by decide +kernel
theorem dX11_road_2 : decode cX11_road 2 = .ok (.invokevirtual 68, 3) := by decide +kernel
theorem dX11_road_5 : decode cX11_road 5 = .ok (.ifCond .eq 28, 3) := by decide +kernel
theorem dX11_road_8 : decode cX11_road 8 = .ok (.aload_n 0, 1) := by decide +kernel
theorem dX11_road_9 : decode cX11_road 9 = .ok (.iload_n 2, 1) := by decide +kernel
theorem dX11_road_10 : decode cX11_road 10 = .ok (.invokevirtual 68, 3) := by decide +kernel
theorem dX11_road_13 : decode cX11_road 13 = .ok (.ifCond .eq 20, 3) := by decide +kernel
theorem dX11_road_16 : decode cX11_road 16 = .ok (.iload_n 1, 1) := by decide +kernel
theorem dX11_road_17 : decode cX11_road 17 = .ok (.iload_n 2, 1) := by decide +kernel
theorem dX11_road_18 : decode cX11_road 18 = .ok (.if_icmp .eq 15, 3) := by decide +kernel
theorem dX11_road_21 : decode cX11_road 21 = .ok (.iload_n 3, 1) := by decide +kernel
theorem dX11_road_22 : decode cX11_road 22 = .ok (.i2l, 1) := by decide +kernel
theorem dX11_road_23 : decode cX11_road 23 = .ok (.lconst 0, 1) := by decide +kernel
theorem dX11_road_24 : decode cX11_road 24 = .ok (.ldc2_w 72, 3) := by decide +kernel
theorem dX11_road_27 : decode cX11_road 27 = .ok (.invokestatic 50, 3) := by decide +kernel
theorem dX11_road_30 : decode cX11_road 30 = .ok (.ifCond .ne 5, 3) := by decide +kernel
theorem dX11_road_33 : decode cX11_road 33 = .ok (.iconst (-1), 1) := by decide +kernel
theorem dX11_road_34 : decode cX11_road 34 = .ok (.ireturn, 1) := by decide +kernel
theorem dX11_road_35 : decode cX11_road 35 = .ok (.aload_n 0, 1) := by decide +kernel
theorem dX11_road_36 : decode cX11_road 36 = .ok (.iload_n 1, 1) := by decide +kernel
theorem dX11_road_37 : decode cX11_road 37 = .ok (.iload_n 2, 1) := by decide +kernel
theorem dX11_road_38 : decode cX11_road 38 = .ok (.invokevirtual 74, 3) := by decide +kernel
theorem dX11_road_41 : decode cX11_road 41 = .ok (.ifCond .lt 6, 3) := by decide +kernel
theorem dX11_road_44 : decode cX11_road 44 = .ok (.bipush (-2), 2) := by decide +kernel
theorem dX11_road_46 : decode cX11_road 46 = .ok (.ireturn, 1) := by decide +kernel
theorem dX11_road_47 : decode cX11_road 47 = .ok (.aload_n 0, 1) := by decide +kernel
theorem dX11_road_48 : decode cX11_road 48 = .ok (.getfield 7, 3) := by decide +kernel
theorem dX11_road_51 : decode cX11_road 51 = .ok (.iconst 1, 1) := by decide +kernel
theorem dX11_road_52 : decode cX11_road 52 = .ok (.iaload, 1) := by decide +kernel
theorem dX11_road_53 : decode cX11_road 53 = .ok (.bipush 15, 2) := by decide +kernel
theorem dX11_road_55 : decode cX11_road 55 = .ok (.if_icmp .ne 6, 3) := by decide +kernel
theorem dX11_road_58 : decode cX11_road 58 = .ok (.bipush (-3), 2) := by decide +kernel
theorem dX11_road_60 : decode cX11_road 60 = .ok (.ireturn, 1) := by decide +kernel
theorem dX11_road_61 : decode cX11_road 61 = .ok (.aload_n 0, 1) := by decide +kernel
theorem dX11_road_62 : decode cX11_road 62 = .ok (.getfield 7, 3) := by decide +kernel
theorem dX11_road_65 : decode cX11_road 65 = .ok (.iconst 1, 1) := by decide +kernel
theorem dX11_road_66 : decode cX11_road 66 = .ok (.iaload, 1) := by decide +kernel
theorem dX11_road_67 : decode cX11_road 67 = .ok (.istore 4, 2) := by decide +kernel
theorem dX11_road_69 : decode cX11_road 69 = .ok (.aload_n 0, 1) := by decide +kernel
theorem dX11_road_70 : decode cX11_road 70 = .ok (.getfield 7, 3) := by decide +kernel
theorem dX11_road_73 : decode cX11_road 73 = .ok (.bipush 46, 2) := by decide +kernel
theorem dX11_road_75 : decode cX11_road 75 = .ok (.iload 4, 2) := by decide +kernel
theorem dX11_road_77 : decode cX11_road 77 = .ok (.iadd, 1) := by decide +kernel
theorem dX11_road_78 : decode cX11_road 78 = .ok (.iload_n 1, 1) := by decide +kernel
theorem dX11_road_79 : decode cX11_road 79 = .ok (.iload_n 2, 1) := by decide +kernel
theorem dX11_road_80 : decode cX11_road 80 = .ok (.if_icmp .ge 7, 3) := by decide +kernel
theorem dX11_road_83 : decode cX11_road 83 = .ok (.iload_n 1, 1) := by decide +kernel
theorem dX11_road_84 : decode cX11_road 84 = .ok (.goto 4, 3) := by decide +kernel
theorem dX11_road_87 : decode cX11_road 87 = .ok (.iload_n 2, 1) := by decide +kernel
theorem dX11_road_88 : decode cX11_road 88 = .ok (.iastore, 1) := by decide +kernel
theorem dX11_road_89 : decode cX11_road 89 = .ok (.aload_n 0, 1) := by decide +kernel
theorem dX11_road_90 : decode cX11_road 90 = .ok (.getfield 7, 3) := by decide +kernel
theorem dX11_road_93 : decode cX11_road 93 = .ok (.bipush 61, 2) := by decide +kernel
theorem dX11_road_95 : decode cX11_road 95 = .ok (.iload 4, 2) := by decide +kernel
theorem dX11_road_97 : decode cX11_road 97 = .ok (.iadd, 1) := by decide +kernel
theorem dX11_road_98 : decode cX11_road 98 = .ok (.iload_n 1, 1) := by decide +kernel
theorem dX11_road_99 : decode cX11_road 99 = .ok (.iload_n 2, 1) := by decide +kernel
theorem dX11_road_100 : decode cX11_road 100 = .ok (.if_icmp .ge 7, 3) := by decide +kernel
theorem dX11_road_103 : decode cX11_road 103 = .ok (.iload_n 2, 1) := by decide +kernel
theorem dX11_road_104 : decode cX11_road 104 = .ok (.goto 4, 3) := by decide +kernel
theorem dX11_road_107 : decode cX11_road 107 = .ok (.iload_n 1, 1) := by decide +kernel
theorem dX11_road_108 : decode cX11_road 108 = .ok (.iastore, 1) := by decide +kernel
theorem dX11_road_109 : decode cX11_road 109 = .ok (.aload_n 0, 1) := by decide +kernel
theorem dX11_road_110 : decode cX11_road 110 = .ok (.getfield 7, 3) := by decide +kernel
theorem dX11_road_113 : decode cX11_road 113 = .ok (.bipush 76, 2) := by decide +kernel
theorem dX11_road_115 : decode cX11_road 115 = .ok (.iload 4, 2) := by decide +kernel
theorem dX11_road_117 : decode cX11_road 117 = .ok (.iadd, 1) := by decide +kernel
theorem dX11_road_118 : decode cX11_road 118 = .ok (.iload_n 3, 1) := by decide +kernel
theorem dX11_road_119 : decode cX11_road 119 = .ok (.iastore, 1) := by decide +kernel
theorem dX11_road_120 : decode cX11_road 120 = .ok (.aload_n 0, 1) := by decide +kernel
theorem dX11_road_121 : decode cX11_road 121 = .ok (.getfield 7, 3) := by decide +kernel
theorem dX11_road_124 : decode cX11_road 124 = .ok (.iconst 1, 1) := by decide +kernel
theorem dX11_road_125 : decode cX11_road 125 = .ok (.dup2, 1) := by decide +kernel
theorem dX11_road_126 : decode cX11_road 126 = .ok (.iaload, 1) := by decide +kernel
theorem dX11_road_127 : decode cX11_road 127 = .ok (.iconst 1, 1) := by decide +kernel
theorem dX11_road_128 : decode cX11_road 128 = .ok (.iadd, 1) := by decide +kernel
theorem dX11_road_129 : decode cX11_road 129 = .ok (.iastore, 1) := by decide +kernel
theorem dX11_road_130 : decode cX11_road 130 = .ok (.iload 4, 2) := by decide +kernel
theorem dX11_road_132 : decode cX11_road 132 = .ok (.ireturn, 1) := by decide +kernel
theorem dX11_toll_0 : decode cX11_toll 0 = .ok (.aload_n 0, 1) := by decide +kernel
theorem dX11_toll_1 : decode cX11_toll 1 = .ok (.iload_n 1, 1) := by decide +kernel
theorem dX11_toll_2 : decode cX11_toll 2 = .ok (.invokevirtual 78, 3) := by decide +kernel
theorem dX11_toll_5 : decode cX11_toll 5 = .ok (.ifCond .eq 15, 3) := by decide +kernel
theorem dX11_toll_8 : decode cX11_toll 8 = .ok (.iload_n 2, 1) := by decide +kernel
theorem dX11_toll_9 : decode cX11_toll 9 = .ok (.i2l, 1) := by decide +kernel
theorem dX11_toll_10 : decode cX11_toll 10 = .ok (.lconst 0, 1) := by decide +kernel
theorem dX11_toll_11 : decode cX11_toll 11 = .ok (.ldc2_w 72, 3) := by decide +kernel
theorem dX11_toll_14 : decode cX11_toll 14 = .ok (.invokestatic 50, 3) := by decide +kernel
theorem dX11_toll_17 : decode cX11_toll 17 = .ok (.ifCond .ne 5, 3) := by decide +kernel
theorem dX11_toll_20 : decode cX11_toll 20 = .ok (.iconst (-1), 1) := by decide +kernel
theorem dX11_toll_21 : decode cX11_toll 21 = .ok (.ireturn, 1) := by decide +kernel
theorem dX11_toll_22 : decode cX11_toll 22 = .ok (.aload_n 0, 1) := by decide +kernel
theorem dX11_toll_23 : decode cX11_toll 23 = .ok (.getfield 7, 3) := by decide +kernel
theorem dX11_toll_26 : decode cX11_toll 26 = .ok (.bipush 76, 2) := by decide +kernel
theorem dX11_toll_28 : decode cX11_toll 28 = .ok (.iload_n 1, 1) := by decide +kernel
theorem dX11_toll_29 : decode cX11_toll 29 = .ok (.iadd, 1) := by decide +kernel
theorem dX11_toll_30 : decode cX11_toll 30 = .ok (.iaload, 1) := by decide +kernel
theorem dX11_toll_31 : decode cX11_toll 31 = .ok (.istore_n 3, 1) := by decide +kernel
theorem dX11_toll_32 : decode cX11_toll 32 = .ok (.aload_n 0, 1) := by decide +kernel
theorem dX11_toll_33 : decode cX11_toll 33 = .ok (.getfield 7, 3) := by decide +kernel
theorem dX11_toll_36 : decode cX11_toll 36 = .ok (.bipush 76, 2) := by decide +kernel
theorem dX11_toll_38 : decode cX11_toll 38 = .ok (.iload_n 1, 1) := by decide +kernel
theorem dX11_toll_39 : decode cX11_toll 39 = .ok (.iadd, 1) := by decide +kernel
theorem dX11_toll_40 : decode cX11_toll 40 = .ok (.iload_n 2, 1) := by decide +kernel
theorem dX11_toll_41 : decode cX11_toll 41 = .ok (.iastore, 1) := by decide +kernel
theorem dX11_toll_42 : decode cX11_toll 42 = .ok (.iload_n 3, 1) := by decide +kernel
theorem dX11_toll_43 : decode cX11_toll 43 = .ok (.ireturn, 1) := by decide +kernel
theorem dX11_cart_0 : decode cX11_cart 0 = .ok (.iload_n 1, 1) := by decide +kernel
theorem dX11_cart_1 : decode cX11_cart 1 = .ok (.i2l, 1) := by decide +kernel
theorem dX11_cart_2 : decode cX11_cart 2 = .ok (.lconst 0, 1) := by decide +kernel
theorem dX11_cart_3 : decode cX11_cart 3 = .ok (.ldc2_w 81, 3) := by decide +kernel
theorem dX11_cart_6 : decode cX11_cart 6 = .ok (.invokestatic 50, 3) := by decide +kernel
theorem dX11_cart_9 : decode cX11_cart 9 = .ok (.ifCond .eq 15, 3) := by decide +kernel
theorem dX11_cart_12 : decode cX11_cart 12 = .ok (.iload_n 2, 1) := by decide +kernel
theorem dX11_cart_13 : decode cX11_cart 13 = .ok (.i2l, 1) := by decide +kernel
theorem dX11_cart_14 : decode cX11_cart 14 = .ok (.lconst 0, 1) := by decide +kernel
theorem dX11_cart_15 : decode cX11_cart 15 = .ok (.ldc2_w 83, 3) := by decide +kernel
theorem dX11_cart_18 : decode cX11_cart 18 = .ok (.invokestatic 50, 3) := by decide +kernel
theorem dX11_cart_21 : decode cX11_cart 21 = .ok (.ifCond .ne 5, 3) := by decide +kernel
theorem dX11_cart_24 : decode cX11_cart 24 = .ok (.iconst (-1), 1) := by decide +kernel
theorem dX11_cart_25 : decode cX11_cart 25 = .ok (.ireturn, 1) := by decide +kernel
theorem dX11_cart_26 : decode cX11_cart 26 = .ok (.aload_n 0, 1) := by decide +kernel
theorem dX11_cart_27 : decode cX11_cart 27 = .ok (.getfield 7, 3) := by decide +kernel
theorem dX11_cart_30 : decode cX11_cart 30 = .ok (.iconst 2, 1) := by decide +kernel
theorem dX11_cart_31 : decode cX11_cart 31 = .ok (.iaload, 1) := by decide +kernel
theorem dX11_cart_32 : decode cX11_cart 32 = .ok (.iconst 4, 1) := by decide +kernel
theorem dX11_cart_33 : decode cX11_cart 33 = .ok (.if_icmp .ne 6, 3) := by decide +kernel
theorem dX11_cart_36 : decode cX11_cart 36 = .ok (.bipush (-3), 2) := by decide +kernel
theorem dX11_cart_38 : decode cX11_cart 38 = .ok (.ireturn, 1) := by decide +kernel
theorem dX11_cart_39 : decode cX11_cart 39 = .ok (.aload_n 0, 1) := by decide +kernel
theorem dX11_cart_40 : decode cX11_cart 40 = .ok (.getfield 7, 3) := by decide +kernel
theorem dX11_cart_43 : decode cX11_cart 43 = .ok (.iconst 2, 1) := by decide +kernel
theorem dX11_cart_44 : decode cX11_cart 44 = .ok (.iaload, 1) := by decide +kernel
theorem dX11_cart_45 : decode cX11_cart 45 = .ok (.istore_n 3, 1) := by decide +kernel
theorem dX11_cart_46 : decode cX11_cart 46 = .ok (.aload_n 0, 1) := by decide +kernel
theorem dX11_cart_47 : decode cX11_cart 47 = .ok (.getfield 7, 3) := by decide +kernel
theorem dX11_cart_50 : decode cX11_cart 50 = .ok (.bipush 91, 2) := by decide +kernel
theorem dX11_cart_52 : decode cX11_cart 52 = .ok (.iload_n 3, 1) := by decide +kernel
theorem dX11_cart_53 : decode cX11_cart 53 = .ok (.iadd, 1) := by decide +kernel
theorem dX11_cart_54 : decode cX11_cart 54 = .ok (.iload_n 1, 1) := by decide +kernel
theorem dX11_cart_55 : decode cX11_cart 55 = .ok (.iastore, 1) := by decide +kernel
theorem dX11_cart_56 : decode cX11_cart 56 = .ok (.aload_n 0, 1) := by decide +kernel
theorem dX11_cart_57 : decode cX11_cart 57 = .ok (.getfield 7, 3) := by decide +kernel
theorem dX11_cart_60 : decode cX11_cart 60 = .ok (.bipush 95, 2) := by decide +kernel
theorem dX11_cart_62 : decode cX11_cart 62 = .ok (.iload_n 3, 1) := by decide +kernel
theorem dX11_cart_63 : decode cX11_cart 63 = .ok (.iadd, 1) := by decide +kernel
theorem dX11_cart_64 : decode cX11_cart 64 = .ok (.iload_n 2, 1) := by decide +kernel
theorem dX11_cart_65 : decode cX11_cart 65 = .ok (.iastore, 1) := by decide +kernel
theorem dX11_cart_66 : decode cX11_cart 66 = .ok (.aload_n 0, 1) := by decide +kernel
theorem dX11_cart_67 : decode cX11_cart 67 = .ok (.getfield 7, 3) := by decide +kernel
theorem dX11_cart_70 : decode cX11_cart 70 = .ok (.iconst 2, 1) := by decide +kernel
theorem dX11_cart_71 : decode cX11_cart 71 = .ok (.dup2, 1) := by decide +kernel
theorem dX11_cart_72 : decode cX11_cart 72 = .ok (.iaload, 1) := by decide +kernel
theorem dX11_cart_73 : decode cX11_cart 73 = .ok (.iconst 1, 1) := by decide +kernel
theorem dX11_cart_74 : decode cX11_cart 74 = .ok (.iadd, 1) := by decide +kernel
theorem dX11_cart_75 : decode cX11_cart 75 = .ok (.iastore, 1) := by decide +kernel
theorem dX11_cart_76 : decode cX11_cart 76 = .ok (.iload_n 3, 1) := by decide +kernel
theorem dX11_cart_77 : decode cX11_cart 77 = .ok (.ireturn, 1) := by decide +kernel
theorem dX11_good_0 : decode cX11_good 0 = .ok (.iload_n 1, 1) := by decide +kernel
theorem dX11_good_1 : decode cX11_good 1 = .ok (.i2l, 1) := by decide +kernel
theorem dX11_good_2 : decode cX11_good 2 = .ok (.lconst 1, 1) := by decide +kernel
theorem dX11_good_3 : decode cX11_good 3 = .ok (.ldc2_w 83, 3) := by decide +kernel
theorem dX11_good_6 : decode cX11_good 6 = .ok (.invokestatic 50, 3) := by decide +kernel
theorem dX11_good_9 : decode cX11_good 9 = .ok (.ifCond .eq 23, 3) := by decide +kernel
theorem dX11_good_12 : decode cX11_good 12 = .ok (.iload_n 2, 1) := by decide +kernel
theorem dX11_good_13 : decode cX11_good 13 = .ok (.i2l, 1) := by decide +kernel
theorem dX11_good_14 : decode cX11_good 14 = .ok (.lconst 1, 1) := by decide +kernel
theorem dX11_good_15 : decode cX11_good 15 = .ok (.ldc2_w 72, 3) := by decide +kernel
theorem dX11_good_18 : decode cX11_good 18 = .ok (.invokestatic 50, 3) := by decide +kernel
theorem dX11_good_21 : decode cX11_good 21 = .ok (.ifCond .eq 11, 3) := by decide +kernel
theorem dX11_good_24 : decode cX11_good 24 = .ok (.aload_n 0, 1) := by decide +kernel
theorem dX11_good_25 : decode cX11_good 25 = .ok (.iload_n 3, 1) := by decide +kernel
theorem dX11_good_26 : decode cX11_good 26 = .ok (.invokevirtual 68, 3) := by decide +kernel
theorem dX11_good_29 : decode cX11_good 29 = .ok (.ifCond .ne 5, 3) := by decide +kernel
theorem dX11_good_32 : decode cX11_good 32 = .ok (.iconst (-1), 1) := by decide +kernel
theorem dX11_good_33 : decode cX11_good 33 = .ok (.ireturn, 1) := by decide +kernel
theorem dX11_good_34 : decode cX11_good 34 = .ok (.aload_n 0, 1) := by decide +kernel
theorem dX11_good_35 : decode cX11_good 35 = .ok (.getfield 7, 3) := by decide +kernel
theorem dX11_good_38 : decode cX11_good 38 = .ok (.iconst 3, 1) := by decide +kernel
theorem dX11_good_39 : decode cX11_good 39 = .ok (.iaload, 1) := by decide +kernel
theorem dX11_good_40 : decode cX11_good 40 = .ok (.bipush 6, 2) := by decide +kernel
theorem dX11_good_42 : decode cX11_good 42 = .ok (.if_icmp .ne 6, 3) := by decide +kernel
theorem dX11_good_45 : decode cX11_good 45 = .ok (.bipush (-3), 2) := by decide +kernel
theorem dX11_good_47 : decode cX11_good 47 = .ok (.ireturn, 1) := by decide +kernel
theorem dX11_good_48 : decode cX11_good 48 = .ok (.aload_n 0, 1) := by decide +kernel
theorem dX11_good_49 : decode cX11_good 49 = .ok (.getfield 7, 3) := by decide +kernel
theorem dX11_good_52 : decode cX11_good 52 = .ok (.iconst 3, 1) := by decide +kernel
theorem dX11_good_53 : decode cX11_good 53 = .ok (.iaload, 1) := by decide +kernel
theorem dX11_good_54 : decode cX11_good 54 = .ok (.istore 4, 2) := by decide +kernel
theorem dX11_good_56 : decode cX11_good 56 = .ok (.aload_n 0, 1) := by decide +kernel
theorem dX11_good_57 : decode cX11_good 57 = .ok (.getfield 7, 3) := by decide +kernel
theorem dX11_good_60 : decode cX11_good 60 = .ok (.bipush 99, 2) := by decide +kernel
theorem dX11_good_62 : decode cX11_good 62 = .ok (.iload 4, 2) := by decide +kernel
theorem dX11_good_64 : decode cX11_good 64 = .ok (.iadd, 1) := by decide +kernel
theorem dX11_good_65 : decode cX11_good 65 = .ok (.iload_n 1, 1) := by decide +kernel
theorem dX11_good_66 : decode cX11_good 66 = .ok (.iastore, 1) := by decide +kernel
theorem dX11_good_67 : decode cX11_good 67 = .ok (.aload_n 0, 1) := by decide +kernel
theorem dX11_good_68 : decode cX11_good 68 = .ok (.getfield 7, 3) := by decide +kernel
theorem dX11_good_71 : decode cX11_good 71 = .ok (.bipush 105, 2) := by decide +kernel
theorem dX11_good_73 : decode cX11_good 73 = .ok (.iload 4, 2) := by decide +kernel
theorem dX11_good_75 : decode cX11_good 75 = .ok (.iadd, 1) := by decide +kernel
theorem dX11_good_76 : decode cX11_good 76 = .ok (.iload_n 2, 1) := by decide +kernel
theorem dX11_good_77 : decode cX11_good 77 = .ok (.iastore, 1) := by decide +kernel
theorem dX11_good_78 : decode cX11_good 78 = .ok (.aload_n 0, 1) := by decide +kernel
theorem dX11_good_79 : decode cX11_good 79 = .ok (.getfield 7, 3) := by decide +kernel
theorem dX11_good_82 : decode cX11_good 82 = .ok (.bipush 111, 2) := by decide +kernel
theorem dX11_good_84 : decode cX11_good 84 = .ok (.iload 4, 2) := by decide +kernel
theorem dX11_good_86 : decode cX11_good 86 = .ok (.iadd, 1) := by decide +kernel
theorem dX11_good_87 : decode cX11_good 87 = .ok (.iload_n 3, 1) := by decide +kernel
theorem dX11_good_88 : decode cX11_good 88 = .ok (.iastore, 1) := by decide +kernel
theorem dX11_good_89 : decode cX11_good 89 = .ok (.aload_n 0, 1) := by decide +kernel
theorem dX11_good_90 : decode cX11_good 90 = .ok (.getfield 7, 3) := by decide +kernel
theorem dX11_good_93 : decode cX11_good 93 = .ok (.bipush 117, 2) := by decide +kernel
theorem dX11_good_95 : decode cX11_good 95 = .ok (.iload 4, 2) := by decide +kernel
theorem dX11_good_97 : decode cX11_good 97 = .ok (.iadd, 1) := by decide +kernel
theorem dX11_good_98 : decode cX11_good 98 = .ok (.iconst 0, 1) := by decide +kernel
theorem dX11_good_99 : decode cX11_good 99 = .ok (.iastore, 1) := by decide +kernel
theorem dX11_good_100 : decode cX11_good 100 = .ok (.aload_n 0, 1) := by decide +kernel
theorem dX11_good_101 : decode cX11_good 101 = .ok (.getfield 7, 3) := by decide +kernel
theorem dX11_good_104 : decode cX11_good 104 = .ok (.iconst 3, 1) := by decide +kernel
theorem dX11_good_105 : decode cX11_good 105 = .ok (.dup2, 1) := by decide +kernel
theorem dX11_good_106 : decode cX11_good 106 = .ok (.iaload, 1) := by decide +kernel
theorem dX11_good_107 : decode cX11_good 107 = .ok (.iconst 1, 1) := by decide +kernel
theorem dX11_good_108 : decode cX11_good 108 = .ok (.iadd, 1) := by decide +kernel
theorem dX11_good_109 : decode cX11_good 109 = .ok (.iastore, 1) := by decide +kernel
theorem dX11_good_110 : decode cX11_good 110 = .ok (.iload 4, 2) := by decide +kernel
theorem dX11_good_112 : decode cX11_good 112 = .ok (.ireturn, 1) := by decide +kernel
theorem dX11_hang_0 : decode cX11_hang 0 = .ok (.aload_n 0, 1) := by decide +kernel
theorem dX11_hang_1 : decode cX11_hang 1 = .ok (.iload_n 1, 1) := by decide +kernel
theorem dX11_hang_2 : decode cX11_hang 2 = .ok (.invokevirtual 85, 3) := by decide +kernel
theorem dX11_hang_5 : decode cX11_hang 5 = .ok (.ifCond .eq 15, 3) := by decide +kernel
theorem dX11_hang_8 : decode cX11_hang 8 = .ok (.iload_n 2, 1) := by decide +kernel
theorem dX11_hang_9 : decode cX11_hang 9 = .ok (.i2l, 1) := by decide +kernel
theorem dX11_hang_10 : decode cX11_hang 10 = .ok (.lconst 0, 1) := by decide +kernel
theorem dX11_hang_11 : decode cX11_hang 11 = .ok (.ldc2_w 81, 3) := by decide +kernel
theorem dX11_hang_14 : decode cX11_hang 14 = .ok (.invokestatic 50, 3) := by decide +kernel
theorem dX11_hang_17 : decode cX11_hang 17 = .ok (.ifCond .ne 5, 3) := by decide +kernel
theorem dX11_hang_20 : decode cX11_hang 20 = .ok (.iconst (-1), 1) := by decide +kernel
theorem dX11_hang_21 : decode cX11_hang 21 = .ok (.ireturn, 1) := by decide +kernel
theorem dX11_hang_22 : decode cX11_hang 22 = .ok (.iload_n 2, 1) := by decide +kernel
theorem dX11_hang_23 : decode cX11_hang 23 = .ok (.ifCond .le 32, 3) := by decide +kernel
theorem dX11_hang_26 : decode cX11_hang 26 = .ok (.aload_n 0, 1) := by decide +kernel
theorem dX11_hang_27 : decode cX11_hang 27 = .ok (.aload_n 0, 1) := by decide +kernel
theorem dX11_hang_28 : decode cX11_hang 28 = .ok (.getfield 7, 3) := by decide +kernel
theorem dX11_hang_31 : decode cX11_hang 31 = .ok (.bipush 111, 2) := by decide +kernel
theorem dX11_hang_33 : decode cX11_hang 33 = .ok (.iload_n 1, 1) := by decide +kernel
theorem dX11_hang_34 : decode cX11_hang 34 = .ok (.iadd, 1) := by decide +kernel
theorem dX11_hang_35 : decode cX11_hang 35 = .ok (.iaload, 1) := by decide +kernel
theorem dX11_hang_36 : decode cX11_hang 36 = .ok (.aload_n 0, 1) := by decide +kernel
theorem dX11_hang_37 : decode cX11_hang 37 = .ok (.getfield 7, 3) := by decide +kernel
theorem dX11_hang_40 : decode cX11_hang 40 = .ok (.bipush 99, 2) := by decide +kernel
theorem dX11_hang_42 : decode cX11_hang 42 = .ok (.iload_n 1, 1) := by decide +kernel
theorem dX11_hang_43 : decode cX11_hang 43 = .ok (.iadd, 1) := by decide +kernel
theorem dX11_hang_44 : decode cX11_hang 44 = .ok (.iaload, 1) := by decide +kernel
theorem dX11_hang_45 : decode cX11_hang 45 = .ok (.invokevirtual 88, 3) := by decide +kernel
theorem dX11_hang_48 : decode cX11_hang 48 = .ok (.iload_n 2, 1) := by decide +kernel
theorem dX11_hang_49 : decode cX11_hang 49 = .ok (.if_icmp .le 6, 3) := by decide +kernel
theorem dX11_hang_52 : decode cX11_hang 52 = .ok (.bipush (-2), 2) := by decide +kernel
theorem dX11_hang_54 : decode cX11_hang 54 = .ok (.ireturn, 1) := by decide +kernel
theorem dX11_hang_55 : decode cX11_hang 55 = .ok (.aload_n 0, 1) := by decide +kernel
theorem dX11_hang_56 : decode cX11_hang 56 = .ok (.getfield 7, 3) := by decide +kernel
theorem dX11_hang_59 : decode cX11_hang 59 = .ok (.bipush 117, 2) := by decide +kernel
theorem dX11_hang_61 : decode cX11_hang 61 = .ok (.iload_n 1, 1) := by decide +kernel
theorem dX11_hang_62 : decode cX11_hang 62 = .ok (.iadd, 1) := by decide +kernel
theorem dX11_hang_63 : decode cX11_hang 63 = .ok (.iaload, 1) := by decide +kernel
theorem dX11_hang_64 : decode cX11_hang 64 = .ok (.istore_n 3, 1) := by decide +kernel
theorem dX11_hang_65 : decode cX11_hang 65 = .ok (.aload_n 0, 1) := by decide +kernel
theorem dX11_hang_66 : decode cX11_hang 66 = .ok (.getfield 7, 3) := by decide +kernel
theorem dX11_hang_69 : decode cX11_hang 69 = .ok (.bipush 117, 2) := by decide +kernel
theorem dX11_hang_71 : decode cX11_hang 71 = .ok (.iload_n 1, 1) := by decide +kernel
theorem dX11_hang_72 : decode cX11_hang 72 = .ok (.iadd, 1) := by decide +kernel
theorem dX11_hang_73 : decode cX11_hang 73 = .ok (.iload_n 2, 1) := by decide +kernel
theorem dX11_hang_74 : decode cX11_hang 74 = .ok (.iastore, 1) := by decide +kernel
theorem dX11_hang_75 : decode cX11_hang 75 = .ok (.iload_n 3, 1) := by decide +kernel
theorem dX11_hang_76 : decode cX11_hang 76 = .ok (.ireturn, 1) := by decide +kernel
theorem dX11_person_0 : decode cX11_person 0 = .ok (.iload_n 1, 1) := by decide +kernel
theorem dX11_person_1 : decode cX11_person 1 = .ok (.i2l, 1) := by decide +kernel
theorem dX11_person_2 : decode cX11_person 2 = .ok (.lconst 1, 1) := by decide +kernel
theorem dX11_person_3 : decode cX11_person 3 = .ok (.ldc2_w 83, 3) := by decide +kernel
theorem dX11_person_6 : decode cX11_person 6 = .ok (.invokestatic 50, 3) := by decide +kernel
theorem dX11_person_9 : decode cX11_person 9 = .ok (.ifCond .eq 11, 3) := by decide +kernel
theorem dX11_person_12 : decode cX11_person 12 = .ok (.aload_n 0, 1) := by decide +kernel
theorem dX11_person_13 : decode cX11_person 13 = .ok (.iload_n 2, 1) := by decide +kernel
theorem dX11_person_14 : decode cX11_person 14 = .ok (.invokevirtual 68, 3) := by decide +kernel
theorem dX11_person_17 : decode cX11_person 17 = .ok (.ifCond .ne 5, 3) := by decide +kernel
theorem dX11_person_20 : decode cX11_person 20 = .ok (.iconst (-1), 1) := by decide +kernel
theorem dX11_person_21 : decode cX11_person 21 = .ok (.ireturn, 1) := by decide +kernel
theorem dX11_person_22 : decode cX11_person 22 = .ok (.aload_n 0, 1) := by decide +kernel
theorem dX11_person_23 : decode cX11_person 23 = .ok (.getfield 7, 3) := by decide +kernel
theorem dX11_person_26 : decode cX11_person 26 = .ok (.iconst 4, 1) := by decide +kernel
theorem dX11_person_27 : decode cX11_person 27 = .ok (.iaload, 1) := by decide +kernel
theorem dX11_person_28 : decode cX11_person 28 = .ok (.bipush 6, 2) := by decide +kernel
theorem dX11_person_30 : decode cX11_person 30 = .ok (.if_icmp .ne 6, 3) := by decide +kernel
theorem dX11_person_33 : decode cX11_person 33 = .ok (.bipush (-3), 2) := by decide +kernel
theorem dX11_person_35 : decode cX11_person 35 = .ok (.ireturn, 1) := by decide +kernel
theorem dX11_person_36 : decode cX11_person 36 = .ok (.aload_n 0, 1) := by decide +kernel
theorem dX11_person_37 : decode cX11_person 37 = .ok (.getfield 7, 3) := by decide +kernel
theorem dX11_person_40 : decode cX11_person 40 = .ok (.iconst 4, 1) := by decide +kernel
theorem dX11_person_41 : decode cX11_person 41 = .ok (.iaload, 1) := by decide +kernel
theorem dX11_person_42 : decode cX11_person 42 = .ok (.istore_n 3, 1) := by decide +kernel
theorem dX11_person_43 : decode cX11_person 43 = .ok (.aload_n 0, 1) := by decide +kernel
theorem dX11_person_44 : decode cX11_person 44 = .ok (.getfield 7, 3) := by decide +kernel
theorem dX11_person_47 : decode cX11_person 47 = .ok (.bipush 123, 2) := by decide +kernel
theorem dX11_person_49 : decode cX11_person 49 = .ok (.iload_n 3, 1) := by decide +kernel
theorem dX11_person_50 : decode cX11_person 50 = .ok (.iadd, 1) := by decide +kernel
theorem dX11_person_51 : decode cX11_person 51 = .ok (.iload_n 1, 1) := by decide +kernel
theorem dX11_person_52 : decode cX11_person 52 = .ok (.iastore, 1) := by decide +kernel
theorem dX11_person_53 : decode cX11_person 53 = .ok (.aload_n 0, 1) := by decide +kernel
theorem dX11_person_54 : decode cX11_person 54 = .ok (.getfield 7, 3) := by decide +kernel
theorem dX11_person_57 : decode cX11_person 57 = .ok (.sipush 129, 3) := by decide +kernel
theorem dX11_person_60 : decode cX11_person 60 = .ok (.iload_n 3, 1) := by decide +kernel
theorem dX11_person_61 : decode cX11_person 61 = .ok (.iadd, 1) := by decide +kernel
theorem dX11_person_62 : decode cX11_person 62 = .ok (.iload_n 2, 1) := by decide +kernel
theorem dX11_person_63 : decode cX11_person 63 = .ok (.iastore, 1) := by decide +kernel
theorem dX11_person_64 : decode cX11_person 64 = .ok (.aload_n 0, 1) := by decide +kernel
theorem dX11_person_65 : decode cX11_person 65 = .ok (.getfield 7, 3) := by decide +kernel
theorem dX11_person_68 : decode cX11_person 68 = .ok (.iconst 4, 1) := by decide +kernel
theorem dX11_person_69 : decode cX11_person 69 = .ok (.dup2, 1) := by decide +kernel
theorem dX11_person_70 : decode cX11_person 70 = .ok (.iaload, 1) := by decide +kernel
theorem dX11_person_71 : decode cX11_person 71 = .ok (.iconst 1, 1) := by decide +kernel
theorem dX11_person_72 : decode cX11_person 72 = .ok (.iadd, 1) := by decide +kernel
theorem dX11_person_73 : decode cX11_person 73 = .ok (.iastore, 1) := by decide +kernel
theorem dX11_person_74 : decode cX11_person 74 = .ok (.iload_n 3, 1) := by decide +kernel
theorem dX11_person_75 : decode cX11_person 75 = .ok (.ireturn, 1) := by decide +kernel
theorem dX11_of_0 : decode cX11_of 0 = .ok (.aload_n 0, 1) := by decide +kernel
theorem dX11_of_1 : decode cX11_of 1 = .ok (.iload_n 1, 1) := by decide +kernel
theorem dX11_of_2 : decode cX11_of 2 = .ok (.invokevirtual 68, 3) := by decide +kernel
theorem dX11_of_5 : decode cX11_of 5 = .ok (.ifCond .eq 15, 3) := by decide +kernel
theorem dX11_of_8 : decode cX11_of 8 = .ok (.iload_n 2, 1) := by decide +kernel
theorem dX11_of_9 : decode cX11_of 9 = .ok (.i2l, 1) := by decide +kernel
theorem dX11_of_10 : decode cX11_of 10 = .ok (.lconst 0, 1) := by decide +kernel
theorem dX11_of_11 : decode cX11_of 11 = .ok (.ldc2_w 91, 3) := by decide +kernel
theorem dX11_of_14 : decode cX11_of 14 = .ok (.invokestatic 50, 3) := by decide +kernel
theorem dX11_of_17 : decode cX11_of 17 = .ok (.ifCond .ne 5, 3) := by decide +kernel
theorem dX11_of_20 : decode cX11_of 20 = .ok (.iconst (-1), 1) := by decide +kernel
theorem dX11_of_21 : decode cX11_of 21 = .ok (.ireturn, 1) := by decide +kernel
theorem dX11_of_22 : decode cX11_of 22 = .ok (.iload_n 2, 1) := by decide +kernel
theorem dX11_of_23 : decode cX11_of 23 = .ok (.iconst 5, 1) := by decide +kernel
theorem dX11_of_24 : decode cX11_of 24 = .ok (.if_icmp .ge 35, 3) := by decide +kernel
theorem dX11_of_27 : decode cX11_of 27 = .ok (.iload_n 2, 1) := by decide +kernel
theorem dX11_of_28 : decode cX11_of 28 = .ok (.ifCond .ne 15, 3) := by decide +kernel
theorem dX11_of_31 : decode cX11_of 31 = .ok (.aload_n 0, 1) := by decide +kernel
theorem dX11_of_32 : decode cX11_of 32 = .ok (.getfield 7, 3) := by decide +kernel
theorem dX11_of_35 : decode cX11_of 35 = .ok (.bipush 6, 2) := by decide +kernel
theorem dX11_of_37 : decode cX11_of 37 = .ok (.iload_n 1, 1) := by decide +kernel
theorem dX11_of_38 : decode cX11_of 38 = .ok (.iadd, 1) := by decide +kernel
theorem dX11_of_39 : decode cX11_of 39 = .ok (.iaload, 1) := by decide +kernel
theorem dX11_of_40 : decode cX11_of 40 = .ok (.goto 18, 3) := by decide +kernel
theorem dX11_of_43 : decode cX11_of 43 = .ok (.aload_n 0, 1) := by decide +kernel
theorem dX11_of_44 : decode cX11_of 44 = .ok (.getfield 7, 3) := by decide +kernel
theorem dX11_of_47 : decode cX11_of 47 = .ok (.bipush 14, 2) := by decide +kernel
theorem dX11_of_49 : decode cX11_of 49 = .ok (.iconst 4, 1) := by decide +kernel
theorem dX11_of_50 : decode cX11_of 50 = .ok (.iload_n 1, 1) := by decide +kernel
theorem dX11_of_51 : decode cX11_of 51 = .ok (.imul, 1) := by decide +kernel
theorem dX11_of_52 : decode cX11_of 52 = .ok (.iadd, 1) := by decide +kernel
theorem dX11_of_53 : decode cX11_of 53 = .ok (.iload_n 2, 1) := by decide +kernel
theorem dX11_of_54 : decode cX11_of 54 = .ok (.iadd, 1) := by decide +kernel
theorem dX11_of_55 : decode cX11_of 55 = .ok (.iconst 1, 1) := by decide +kernel
theorem dX11_of_56 : decode cX11_of 56 = .ok (.isub, 1) := by decide +kernel
theorem dX11_of_57 : decode cX11_of 57 = .ok (.iaload, 1) := by decide +kernel
theorem dX11_of_58 : decode cX11_of 58 = .ok (.ireturn, 1) := by decide +kernel
theorem dX11_of_59 : decode cX11_of 59 = .ok (.iconst 0, 1) := by decide +kernel
theorem dX11_of_60 : decode cX11_of 60 = .ok (.istore_n 3, 1) := by decide +kernel
theorem dX11_of_61 : decode cX11_of 61 = .ok (.iconst 0, 1) := by decide +kernel
theorem dX11_of_62 : decode cX11_of 62 = .ok (.istore 4, 2) := by decide +kernel
theorem dX11_of_64 : decode cX11_of 64 = .ok (.iload 4, 2) := by decide +kernel
theorem dX11_of_66 : decode cX11_of 66 = .ok (.aload_n 0, 1) := by decide +kernel
theorem dX11_of_67 : decode cX11_of 67 = .ok (.getfield 7, 3) := by decide +kernel
theorem dX11_of_70 : decode cX11_of 70 = .ok (.iconst 1, 1) := by decide +kernel
theorem dX11_of_71 : decode cX11_of 71 = .ok (.iaload, 1) := by decide +kernel
theorem dX11_of_72 : decode cX11_of 72 = .ok (.if_icmp .ge 50, 3) := by decide +kernel
theorem dX11_of_75 : decode cX11_of 75 = .ok (.iload_n 2, 1) := by decide +kernel
theorem dX11_of_76 : decode cX11_of 76 = .ok (.iconst 5, 1) := by decide +kernel
theorem dX11_of_77 : decode cX11_of 77 = .ok (.if_icmp .ne 45, 3) := by decide +kernel
theorem dX11_of_80 : decode cX11_of 80 = .ok (.iload_n 3, 1) := by decide +kernel
theorem dX11_of_81 : decode cX11_of 81 = .ok (.aload_n 0, 1) := by decide +kernel
theorem dX11_of_82 : decode cX11_of 82 = .ok (.getfield 7, 3) := by decide +kernel
theorem dX11_of_85 : decode cX11_of 85 = .ok (.bipush 46, 2) := by decide +kernel
theorem dX11_of_87 : decode cX11_of 87 = .ok (.iload 4, 2) := by decide +kernel
theorem dX11_of_89 : decode cX11_of 89 = .ok (.iadd, 1) := by decide +kernel
theorem dX11_of_90 : decode cX11_of 90 = .ok (.iaload, 1) := by decide +kernel
theorem dX11_of_91 : decode cX11_of 91 = .ok (.iload_n 1, 1) := by decide +kernel
theorem dX11_of_92 : decode cX11_of 92 = .ok (.if_icmp .eq 17, 3) := by decide +kernel
theorem dX11_of_95 : decode cX11_of 95 = .ok (.aload_n 0, 1) := by decide +kernel
theorem dX11_of_96 : decode cX11_of 96 = .ok (.getfield 7, 3) := by decide +kernel
theorem dX11_of_99 : decode cX11_of 99 = .ok (.bipush 61, 2) := by decide +kernel
theorem dX11_of_101 : decode cX11_of 101 = .ok (.iload 4, 2) := by decide +kernel
theorem dX11_of_103 : decode cX11_of 103 = .ok (.iadd, 1) := by decide +kernel
theorem dX11_of_104 : decode cX11_of 104 = .ok (.iaload, 1) := by decide +kernel
theorem dX11_of_105 : decode cX11_of 105 = .ok (.iload_n 1, 1) := by decide +kernel
theorem dX11_of_106 : decode cX11_of 106 = .ok (.if_icmp .ne 7, 3) := by decide +kernel
theorem dX11_of_109 : decode cX11_of 109 = .ok (.iconst 1, 1) := by decide +kernel
theorem dX11_of_110 : decode cX11_of 110 = .ok (.goto 4, 3) := by decide +kernel
theorem dX11_of_113 : decode cX11_of 113 = .ok (.iconst 0, 1) := by decide +kernel
theorem dX11_of_114 : decode cX11_of 114 = .ok (.iadd, 1) := by decide +kernel
theorem dX11_of_115 : decode cX11_of 115 = .ok (.istore_n 3, 1) := by decide +kernel
theorem dX11_of_116 : decode cX11_of 116 = .ok (.iinc 4 1, 3) := by decide +kernel
theorem dX11_of_119 : decode cX11_of 119 = .ok (.goto (-55), 3) := by decide +kernel
theorem dX11_of_122 : decode cX11_of 122 = .ok (.iconst 0, 1) := by decide +kernel
theorem dX11_of_123 : decode cX11_of 123 = .ok (.istore 4, 2) := by decide +kernel
theorem dX11_of_125 : decode cX11_of 125 = .ok (.iload 4, 2) := by decide +kernel
theorem dX11_of_127 : decode cX11_of 127 = .ok (.aload_n 0, 1) := by decide +kernel
theorem dX11_of_128 : decode cX11_of 128 = .ok (.getfield 7, 3) := by decide +kernel
theorem dX11_of_131 : decode cX11_of 131 = .ok (.iconst 3, 1) := by decide +kernel
theorem dX11_of_132 : decode cX11_of 132 = .ok (.iaload, 1) := by decide +kernel
theorem dX11_of_133 : decode cX11_of 133 = .ok (.if_icmp .ge 40, 3) := by decide +kernel
theorem dX11_of_136 : decode cX11_of 136 = .ok (.iload_n 2, 1) := by decide +kernel
theorem dX11_of_137 : decode cX11_of 137 = .ok (.bipush 6, 2) := by decide +kernel
theorem dX11_of_139 : decode cX11_of 139 = .ok (.if_icmp .ne 34, 3) := by decide +kernel
theorem dX11_of_142 : decode cX11_of 142 = .ok (.iload_n 3, 1) := by decide +kernel
theorem dX11_of_143 : decode cX11_of 143 = .ok (.aload_n 0, 1) := by decide +kernel
theorem dX11_of_144 : decode cX11_of 144 = .ok (.getfield 7, 3) := by decide +kernel
theorem dX11_of_147 : decode cX11_of 147 = .ok (.bipush 111, 2) := by decide +kernel
theorem dX11_of_149 : decode cX11_of 149 = .ok (.iload 4, 2) := by decide +kernel
theorem dX11_of_151 : decode cX11_of 151 = .ok (.iadd, 1) := by decide +kernel
theorem dX11_of_152 : decode cX11_of 152 = .ok (.iaload, 1) := by decide +kernel
theorem dX11_of_153 : decode cX11_of 153 = .ok (.iload_n 1, 1) := by decide +kernel
theorem dX11_of_154 : decode cX11_of 154 = .ok (.if_icmp .ne 10, 3) := by decide +kernel
theorem dX11_of_157 : decode cX11_of 157 = .ok (.iconst 1, 1) := by decide +kernel
theorem dX11_of_158 : decode cX11_of 158 = .ok (.iload 4, 2) := by decide +kernel
theorem dX11_of_160 : decode cX11_of 160 = .ok (.ishl, 1) := by decide +kernel
theorem dX11_of_161 : decode cX11_of 161 = .ok (.goto 4, 3) := by decide +kernel
theorem dX11_of_164 : decode cX11_of 164 = .ok (.iconst 0, 1) := by decide +kernel
theorem dX11_of_165 : decode cX11_of 165 = .ok (.ior, 1) := by decide +kernel
theorem dX11_of_166 : decode cX11_of 166 = .ok (.istore_n 3, 1) := by decide +kernel
theorem dX11_of_167 : decode cX11_of 167 = .ok (.iinc 4 1, 3) := by decide +kernel
theorem dX11_of_170 : decode cX11_of 170 = .ok (.goto (-45), 3) := by decide +kernel
theorem dX11_of_173 : decode cX11_of 173 = .ok (.iconst 0, 1) := by decide +kernel
theorem dX11_of_174 : decode cX11_of 174 = .ok (.istore 4, 2) := by decide +kernel
theorem dX11_of_176 : decode cX11_of 176 = .ok (.iload 4, 2) := by decide +kernel
theorem dX11_of_178 : decode cX11_of 178 = .ok (.aload_n 0, 1) := by decide +kernel
theorem dX11_of_179 : decode cX11_of 179 = .ok (.getfield 7, 3) := by decide +kernel
theorem dX11_of_182 : decode cX11_of 182 = .ok (.iconst 4, 1) := by decide +kernel
theorem dX11_of_183 : decode cX11_of 183 = .ok (.iaload, 1) := by decide +kernel
theorem dX11_of_184 : decode cX11_of 184 = .ok (.if_icmp .ge 41, 3) := by decide +kernel
theorem dX11_of_187 : decode cX11_of 187 = .ok (.iload_n 2, 1) := by decide +kernel
theorem dX11_of_188 : decode cX11_of 188 = .ok (.bipush 7, 2) := by decide +kernel
theorem dX11_of_190 : decode cX11_of 190 = .ok (.if_icmp .ne 35, 3) := by decide +kernel
theorem dX11_of_193 : decode cX11_of 193 = .ok (.iload_n 3, 1) := by decide +kernel
theorem dX11_of_194 : decode cX11_of 194 = .ok (.aload_n 0, 1) := by decide +kernel
theorem dX11_of_195 : decode cX11_of 195 = .ok (.getfield 7, 3) := by decide +kernel
theorem dX11_of_198 : decode cX11_of 198 = .ok (.sipush 129, 3) := by decide +kernel
theorem dX11_of_201 : decode cX11_of 201 = .ok (.iload 4, 2) := by decide +kernel
theorem dX11_of_203 : decode cX11_of 203 = .ok (.iadd, 1) := by decide +kernel
theorem dX11_of_204 : decode cX11_of 204 = .ok (.iaload, 1) := by decide +kernel
theorem dX11_of_205 : decode cX11_of 205 = .ok (.iload_n 1, 1) := by decide +kernel
theorem dX11_of_206 : decode cX11_of 206 = .ok (.if_icmp .ne 10, 3) := by decide +kernel
theorem dX11_of_209 : decode cX11_of 209 = .ok (.iconst 1, 1) := by decide +kernel
theorem dX11_of_210 : decode cX11_of 210 = .ok (.iload 4, 2) := by decide +kernel
theorem dX11_of_212 : decode cX11_of 212 = .ok (.ishl, 1) := by decide +kernel
theorem dX11_of_213 : decode cX11_of 213 = .ok (.goto 4, 3) := by decide +kernel
theorem dX11_of_216 : decode cX11_of 216 = .ok (.iconst 0, 1) := by decide +kernel
theorem dX11_of_217 : decode cX11_of 217 = .ok (.ior, 1) := by decide +kernel
theorem dX11_of_218 : decode cX11_of 218 = .ok (.istore_n 3, 1) := by decide +kernel
theorem dX11_of_219 : decode cX11_of 219 = .ok (.iinc 4 1, 3) := by decide +kernel
theorem dX11_of_222 : decode cX11_of 222 = .ok (.goto (-46), 3) := by decide +kernel
theorem dX11_of_225 : decode cX11_of 225 = .ok (.iload_n 3, 1) := by decide +kernel
theorem dX11_of_226 : decode cX11_of 226 = .ok (.ireturn, 1) := by decide +kernel
theorem dX11_told_0 : decode cX11_told 0 = .ok (.iload_n 2, 1) := by decide +kernel
theorem dX11_told_1 : decode cX11_told 1 = .ok (.i2l, 1) := by decide +kernel
theorem dX11_told_2 : decode cX11_told 2 = .ok (.lconst 0, 1) := by decide +kernel
theorem dX11_told_3 : decode cX11_told 3 = .ok (.ldc2_w 93, 3) := by decide +kernel
theorem dX11_told_6 : decode cX11_told 6 = .ok (.invokestatic 50, 3) := by decide +kernel
theorem dX11_told_9 : decode cX11_told 9 = .ok (.ifCond .eq 11, 3) := by decide +kernel
theorem dX11_told_12 : decode cX11_told 12 = .ok (.aload_n 0, 1) := by decide +kernel
theorem dX11_told_13 : decode cX11_told 13 = .ok (.iload_n 1, 1) := by decide +kernel
theorem dX11_told_14 : decode cX11_told 14 = .ok (.invokevirtual 78, 3) := by decide +kernel
theorem dX11_told_17 : decode cX11_told 17 = .ok (.goto 74, 3) := by decide +kernel
theorem dX11_told_20 : decode cX11_told 20 = .ok (.iload_n 2, 1) := by decide +kernel
theorem dX11_told_21 : decode cX11_told 21 = .ok (.i2l, 1) := by decide +kernel
theorem dX11_told_22 : decode cX11_told 22 = .ok (.ldc2_w 62, 3) := by decide +kernel
theorem dX11_told_25 : decode cX11_told 25 = .ok (.ldc2_w 95, 3) := by decide +kernel
theorem dX11_told_28 : decode cX11_told 28 = .ok (.invokestatic 50, 3) := by decide +kernel
theorem dX11_told_31 : decode cX11_told 31 = .ok (.ifCond .eq 11, 3) := by decide +kernel
theorem dX11_told_34 : decode cX11_told 34 = .ok (.aload_n 0, 1) := by decide +kernel
theorem dX11_told_35 : decode cX11_told 35 = .ok (.iload_n 1, 1) := by decide +kernel
theorem dX11_told_36 : decode cX11_told 36 = .ok (.invokevirtual 97, 3) := by decide +kernel
theorem dX11_told_39 : decode cX11_told 39 = .ok (.goto 52, 3) := by decide +kernel
theorem dX11_told_42 : decode cX11_told 42 = .ok (.iload_n 2, 1) := by decide +kernel
theorem dX11_told_43 : decode cX11_told 43 = .ok (.i2l, 1) := by decide +kernel
theorem dX11_told_44 : decode cX11_told 44 = .ok (.ldc2_w 100, 3) := by decide +kernel
theorem dX11_told_47 : decode cX11_told 47 = .ok (.ldc2_w 102, 3) := by decide +kernel
theorem dX11_told_50 : decode cX11_told 50 = .ok (.invokestatic 50, 3) := by decide +kernel
theorem dX11_told_53 : decode cX11_told 53 = .ok (.ifCond .eq 11, 3) := by decide +kernel
theorem dX11_told_56 : decode cX11_told 56 = .ok (.aload_n 0, 1) := by decide +kernel
theorem dX11_told_57 : decode cX11_told 57 = .ok (.iload_n 1, 1) := by decide +kernel
theorem dX11_told_58 : decode cX11_told 58 = .ok (.invokevirtual 85, 3) := by decide +kernel
theorem dX11_told_61 : decode cX11_told 61 = .ok (.goto 30, 3) := by decide +kernel
theorem dX11_told_64 : decode cX11_told 64 = .ok (.iload_n 2, 1) := by decide +kernel
theorem dX11_told_65 : decode cX11_told 65 = .ok (.i2l, 1) := by decide +kernel
theorem dX11_told_66 : decode cX11_told 66 = .ok (.ldc2_w 72, 3) := by decide +kernel
theorem dX11_told_69 : decode cX11_told 69 = .ok (.ldc2_w 104, 3) := by decide +kernel
theorem dX11_told_72 : decode cX11_told 72 = .ok (.invokestatic 50, 3) := by decide +kernel
theorem dX11_told_75 : decode cX11_told 75 = .ok (.ifCond .eq 15, 3) := by decide +kernel
theorem dX11_told_78 : decode cX11_told 78 = .ok (.aload_n 0, 1) := by decide +kernel
theorem dX11_told_79 : decode cX11_told 79 = .ok (.iload_n 1, 1) := by decide +kernel
theorem dX11_told_80 : decode cX11_told 80 = .ok (.invokevirtual 106, 3) := by decide +kernel
theorem dX11_told_83 : decode cX11_told 83 = .ok (.ifCond .eq 7, 3) := by decide +kernel
theorem dX11_told_86 : decode cX11_told 86 = .ok (.iconst 1, 1) := by decide +kernel
theorem dX11_told_87 : decode cX11_told 87 = .ok (.goto 4, 3) := by decide +kernel
theorem dX11_told_90 : decode cX11_told 90 = .ok (.iconst 0, 1) := by decide +kernel
theorem dX11_told_91 : decode cX11_told 91 = .ok (.istore_n 3, 1) := by decide +kernel
theorem dX11_told_92 : decode cX11_told 92 = .ok (.iload_n 3, 1) := by decide +kernel
theorem dX11_told_93 : decode cX11_told 93 = .ok (.ifCond .ne 5, 3) := by decide +kernel
theorem dX11_told_96 : decode cX11_told 96 = .ok (.iconst (-1), 1) := by decide +kernel
theorem dX11_told_97 : decode cX11_told 97 = .ok (.ireturn, 1) := by decide +kernel
theorem dX11_told_98 : decode cX11_told 98 = .ok (.iload_n 2, 1) := by decide +kernel
theorem dX11_told_99 : decode cX11_told 99 = .ok (.iconst 3, 1) := by decide +kernel
theorem dX11_told_100 : decode cX11_told 100 = .ok (.if_icmp .ge 13, 3) := by decide +kernel
theorem dX11_told_103 : decode cX11_told 103 = .ok (.bipush 46, 2) := by decide +kernel
theorem dX11_told_105 : decode cX11_told 105 = .ok (.bipush 15, 2) := by decide +kernel
theorem dX11_told_107 : decode cX11_told 107 = .ok (.iload_n 2, 1) := by decide +kernel
theorem dX11_told_108 : decode cX11_told 108 = .ok (.imul, 1) := by decide +kernel
theorem dX11_told_109 : decode cX11_told 109 = .ok (.iadd, 1) := by decide +kernel
theorem dX11_told_110 : decode cX11_told 110 = .ok (.goto 47, 3) := by decide +kernel
theorem dX11_told_113 : decode cX11_told 113 = .ok (.iload_n 2, 1) := by decide +kernel
theorem dX11_told_114 : decode cX11_told 114 = .ok (.iconst 5, 1) := by decide +kernel
theorem dX11_told_115 : decode cX11_told 115 = .ok (.if_icmp .ge 14, 3) := by decide +kernel
theorem dX11_told_118 : decode cX11_told 118 = .ok (.bipush 91, 2) := by decide +kernel
theorem dX11_told_120 : decode cX11_told 120 = .ok (.iconst 4, 1) := by decide +kernel
theorem dX11_told_121 : decode cX11_told 121 = .ok (.iload_n 2, 1) := by decide +kernel
theorem dX11_told_122 : decode cX11_told 122 = .ok (.iconst 3, 1) := by decide +kernel
theorem dX11_told_123 : decode cX11_told 123 = .ok (.isub, 1) := by decide +kernel
theorem dX11_told_124 : decode cX11_told 124 = .ok (.imul, 1) := by decide +kernel
theorem dX11_told_125 : decode cX11_told 125 = .ok (.iadd, 1) := by decide +kernel
theorem dX11_told_126 : decode cX11_told 126 = .ok (.goto 31, 3) := by decide +kernel
theorem dX11_told_129 : decode cX11_told 129 = .ok (.iload_n 2, 1) := by decide +kernel
theorem dX11_told_130 : decode cX11_told 130 = .ok (.bipush 9, 2) := by decide +kernel
theorem dX11_told_132 : decode cX11_told 132 = .ok (.if_icmp .ge 15, 3) := by decide +kernel
theorem dX11_told_135 : decode cX11_told 135 = .ok (.bipush 99, 2) := by decide +kernel
theorem dX11_told_137 : decode cX11_told 137 = .ok (.bipush 6, 2) := by decide +kernel
theorem dX11_told_139 : decode cX11_told 139 = .ok (.iload_n 2, 1) := by decide +kernel
theorem dX11_told_140 : decode cX11_told 140 = .ok (.iconst 5, 1) := by decide +kernel
theorem dX11_told_141 : decode cX11_told 141 = .ok (.isub, 1) := by decide +kernel
theorem dX11_told_142 : decode cX11_told 142 = .ok (.imul, 1) := by decide +kernel
theorem dX11_told_143 : decode cX11_told 143 = .ok (.iadd, 1) := by decide +kernel
theorem dX11_told_144 : decode cX11_told 144 = .ok (.goto 13, 3) := by decide +kernel
theorem dX11_told_147 : decode cX11_told 147 = .ok (.bipush 123, 2) := by decide +kernel
theorem dX11_told_149 : decode cX11_told 149 = .ok (.bipush 6, 2) := by decide +kernel
theorem dX11_told_151 : decode cX11_told 151 = .ok (.iload_n 2, 1) := by decide +kernel
theorem dX11_told_152 : decode cX11_told 152 = .ok (.bipush 9, 2) := by decide +kernel
theorem dX11_told_154 : decode cX11_told 154 = .ok (.isub, 1) := by decide +kernel
theorem dX11_told_155 : decode cX11_told 155 = .ok (.imul, 1) := by decide +kernel
theorem dX11_told_156 : decode cX11_told 156 = .ok (.iadd, 1) := by decide +kernel
theorem dX11_told_157 : decode cX11_told 157 = .ok (.istore 4, 2) := by decide +kernel
theorem dX11_told_159 : decode cX11_told 159 = .ok (.aload_n 0, 1) := by decide +kernel
theorem dX11_told_160 : decode cX11_told 160 = .ok (.getfield 7, 3) := by decide +kernel
theorem dX11_told_163 : decode cX11_told 163 = .ok (.iload 4, 2) := by decide +kernel
theorem dX11_told_165 : decode cX11_told 165 = .ok (.iload_n 1, 1) := by decide +kernel
theorem dX11_told_166 : decode cX11_told 166 = .ok (.iadd, 1) := by decide +kernel
theorem dX11_told_167 : decode cX11_told 167 = .ok (.iaload, 1) := by decide +kernel
theorem dX11_told_168 : decode cX11_told 168 = .ok (.ireturn, 1) := by decide +kernel
theorem dX11_weighs_0 : decode cX11_weighs 0 = .ok (.aload_n 0, 1) := by decide +kernel
theorem dX11_weighs_1 : decode cX11_weighs 1 = .ok (.iload_n 1, 1) := by decide +kernel
theorem dX11_weighs_2 : decode cX11_weighs 2 = .ok (.invokevirtual 68, 3) := by decide +kernel
theorem dX11_weighs_5 : decode cX11_weighs 5 = .ok (.ifCond .eq 24, 3) := by decide +kernel
theorem dX11_weighs_8 : decode cX11_weighs 8 = .ok (.iload_n 2, 1) := by decide +kernel
theorem dX11_weighs_9 : decode cX11_weighs 9 = .ok (.i2l, 1) := by decide +kernel
theorem dX11_weighs_10 : decode cX11_weighs 10 = .ok (.lconst 1, 1) := by decide +kernel
theorem dX11_weighs_11 : decode cX11_weighs 11 = .ok (.ldc2_w 83, 3) := by decide +kernel
theorem dX11_weighs_14 : decode cX11_weighs 14 = .ok (.invokestatic 50, 3) := by decide +kernel
theorem dX11_weighs_17 : decode cX11_weighs 17 = .ok (.ifCond .eq 12, 3) := by decide +kernel
theorem dX11_weighs_20 : decode cX11_weighs 20 = .ok (.aload_n 0, 1) := by decide +kernel
theorem dX11_weighs_21 : decode cX11_weighs 21 = .ok (.iload_n 1, 1) := by decide +kernel
theorem dX11_weighs_22 : decode cX11_weighs 22 = .ok (.iload_n 2, 1) := by decide +kernel
theorem dX11_weighs_23 : decode cX11_weighs 23 = .ok (.invokevirtual 88, 3) := by decide +kernel
theorem dX11_weighs_26 : decode cX11_weighs 26 = .ok (.goto 4, 3) := by decide +kernel
theorem dX11_weighs_29 : decode cX11_weighs 29 = .ok (.iconst (-1), 1) := by decide +kernel
theorem dX11_weighs_30 : decode cX11_weighs 30 = .ok (.ireturn, 1) := by decide +kernel
theorem dX11_type_0 : decode cX11_type 0 = .ok (.iload_n 1, 1) := by decide +kernel
theorem dX11_type_1 : decode cX11_type 1 = .ok (.i2l, 1) := by decide +kernel
theorem dX11_type_2 : decode cX11_type 2 = .ok (.ldc2_w 109, 3) := by decide +kernel
theorem dX11_type_5 : decode cX11_type 5 = .ok (.ldc2_w 111, 3) := by decide +kernel
theorem dX11_type_8 : decode cX11_type 8 = .ok (.invokestatic 50, 3) := by decide +kernel
theorem dX11_type_11 : decode cX11_type 11 = .ok (.ifCond .ne 5, 3) := by decide +kernel
theorem dX11_type_14 : decode cX11_type 14 = .ok (.iconst (-1), 1) := by decide +kernel
theorem dX11_type_15 : decode cX11_type 15 = .ok (.ireturn, 1) := by decide +kernel
theorem dX11_type_16 : decode cX11_type 16 = .ok (.aload_n 0, 1) := by decide +kernel
theorem dX11_type_17 : decode cX11_type 17 = .ok (.getfield 113, 3) := by decide +kernel
theorem dX11_type_20 : decode cX11_type 20 = .ok (.bipush 120, 2) := by decide +kernel
theorem dX11_type_22 : decode cX11_type 22 = .ok (.if_icmp .ne 6, 3) := by decide +kernel
theorem dX11_type_25 : decode cX11_type 25 = .ok (.bipush (-3), 2) := by decide +kernel
theorem dX11_type_27 : decode cX11_type 27 = .ok (.ireturn, 1) := by decide +kernel
theorem dX11_type_28 : decode cX11_type 28 = .ok (.aload_n 0, 1) := by decide +kernel
theorem dX11_type_29 : decode cX11_type 29 = .ok (.getfield 16, 3) := by decide +kernel
theorem dX11_type_32 : decode cX11_type 32 = .ok (.aload_n 0, 1) := by decide +kernel
theorem dX11_type_33 : decode cX11_type 33 = .ok (.getfield 113, 3) := by decide +kernel
theorem dX11_type_36 : decode cX11_type 36 = .ok (.iload_n 1, 1) := by decide +kernel
theorem dX11_type_37 : decode cX11_type 37 = .ok (.iastore, 1) := by decide +kernel
theorem dX11_type_38 : decode cX11_type 38 = .ok (.aload_n 0, 1) := by decide +kernel
theorem dX11_type_39 : decode cX11_type 39 = .ok (.dup, 1) := by decide +kernel
theorem dX11_type_40 : decode cX11_type 40 = .ok (.getfield 113, 3) := by decide +kernel
theorem dX11_type_43 : decode cX11_type 43 = .ok (.iconst 1, 1) := by decide +kernel
theorem dX11_type_44 : decode cX11_type 44 = .ok (.iadd, 1) := by decide +kernel
theorem dX11_type_45 : decode cX11_type 45 = .ok (.putfield 113, 3) := by decide +kernel
theorem dX11_type_48 : decode cX11_type 48 = .ok (.aload_n 0, 1) := by decide +kernel
theorem dX11_type_49 : decode cX11_type 49 = .ok (.getfield 113, 3) := by decide +kernel
theorem dX11_type_52 : decode cX11_type 52 = .ok (.ireturn, 1) := by decide +kernel
theorem dX11_next_0 : decode cX11_next 0 = .ok (.aload_n 0, 1) := by decide +kernel
theorem dX11_next_1 : decode cX11_next 1 = .ok (.getfield 117, 3) := by decide +kernel
theorem dX11_next_4 : decode cX11_next 4 = .ok (.aload_n 0, 1) := by decide +kernel
theorem dX11_next_5 : decode cX11_next 5 = .ok (.getfield 113, 3) := by decide +kernel
theorem dX11_next_8 : decode cX11_next 8 = .ok (.if_icmp .ge 30, 3) := by decide +kernel
theorem dX11_next_11 : decode cX11_next 11 = .ok (.aload_n 0, 1) := by decide +kernel
theorem dX11_next_12 : decode cX11_next 12 = .ok (.getfield 16, 3) := by decide +kernel
theorem dX11_next_15 : decode cX11_next 15 = .ok (.aload_n 0, 1) := by decide +kernel
theorem dX11_next_16 : decode cX11_next 16 = .ok (.getfield 117, 3) := by decide +kernel
theorem dX11_next_19 : decode cX11_next 19 = .ok (.iaload, 1) := by decide +kernel
theorem dX11_next_20 : decode cX11_next 20 = .ok (.bipush 32, 2) := by decide +kernel
theorem dX11_next_22 : decode cX11_next 22 = .ok (.if_icmp .ne 16, 3) := by decide +kernel
theorem dX11_next_25 : decode cX11_next 25 = .ok (.aload_n 0, 1) := by decide +kernel
theorem dX11_next_26 : decode cX11_next 26 = .ok (.dup, 1) := by decide +kernel
theorem dX11_next_27 : decode cX11_next 27 = .ok (.getfield 117, 3) := by decide +kernel
theorem dX11_next_30 : decode cX11_next 30 = .ok (.iconst 1, 1) := by decide +kernel
theorem dX11_next_31 : decode cX11_next 31 = .ok (.iadd, 1) := by decide +kernel
theorem dX11_next_32 : decode cX11_next 32 = .ok (.putfield 117, 3) := by decide +kernel
theorem dX11_next_35 : decode cX11_next 35 = .ok (.goto (-35), 3) := by decide +kernel
theorem dX11_next_38 : decode cX11_next 38 = .ok (.aload_n 0, 1) := by decide +kernel
theorem dX11_next_39 : decode cX11_next 39 = .ok (.getfield 117, 3) := by decide +kernel
theorem dX11_next_42 : decode cX11_next 42 = .ok (.aload_n 0, 1) := by decide +kernel
theorem dX11_next_43 : decode cX11_next 43 = .ok (.getfield 113, 3) := by decide +kernel
theorem dX11_next_46 : decode cX11_next 46 = .ok (.if_icmp .ge 15, 3) := by decide +kernel
theorem dX11_next_49 : decode cX11_next 49 = .ok (.aload_n 0, 1) := by decide +kernel
theorem dX11_next_50 : decode cX11_next 50 = .ok (.getfield 16, 3) := by decide +kernel
theorem dX11_next_53 : decode cX11_next 53 = .ok (.aload_n 0, 1) := by decide +kernel
theorem dX11_next_54 : decode cX11_next 54 = .ok (.getfield 117, 3) := by decide +kernel
theorem dX11_next_57 : decode cX11_next 57 = .ok (.iaload, 1) := by decide +kernel
theorem dX11_next_58 : decode cX11_next 58 = .ok (.goto 4, 3) := by decide +kernel
theorem dX11_next_61 : decode cX11_next 61 = .ok (.iconst 0, 1) := by decide +kernel
theorem dX11_next_62 : decode cX11_next 62 = .ok (.ireturn, 1) := by decide +kernel
theorem dX11_isDigit_0 : decode cX11_isDigit 0 = .ok (.aload_n 0, 1) := by decide +kernel
theorem dX11_isDigit_1 : decode cX11_isDigit 1 = .ok (.invokevirtual 120, 3) := by decide +kernel
theorem dX11_isDigit_4 : decode cX11_isDigit 4 = .ok (.i2l, 1) := by decide +kernel
theorem dX11_isDigit_5 : decode cX11_isDigit 5 = .ok (.bipush 48, 2) := by decide +kernel
theorem dX11_isDigit_7 : decode cX11_isDigit 7 = .ok (.iload_n 1, 1) := by decide +kernel
theorem dX11_isDigit_8 : decode cX11_isDigit 8 = .ok (.iadd, 1) := by decide +kernel
theorem dX11_isDigit_9 : decode cX11_isDigit 9 = .ok (.i2l, 1) := by decide +kernel
theorem dX11_isDigit_10 : decode cX11_isDigit 10 = .ok (.bipush 48, 2) := by decide +kernel
theorem dX11_isDigit_12 : decode cX11_isDigit 12 = .ok (.iload_n 2, 1) := by decide +kernel
theorem dX11_isDigit_13 : decode cX11_isDigit 13 = .ok (.iadd, 1) := by decide +kernel
theorem dX11_isDigit_14 : decode cX11_isDigit 14 = .ok (.i2l, 1) := by decide +kernel
theorem dX11_isDigit_15 : decode cX11_isDigit 15 = .ok (.invokestatic 50, 3) := by decide +kernel
theorem dX11_isDigit_18 : decode cX11_isDigit 18 = .ok (.ireturn, 1) := by decide +kernel
theorem dX11_digit_0 : decode cX11_digit 0 = .ok (.aload_n 0, 1) := by decide +kernel
theorem dX11_digit_1 : decode cX11_digit 1 = .ok (.invokevirtual 120, 3) := by decide +kernel
theorem dX11_digit_4 : decode cX11_digit 4 = .ok (.bipush 48, 2) := by decide +kernel
theorem dX11_digit_6 : decode cX11_digit 6 = .ok (.isub, 1) := by decide +kernel
theorem dX11_digit_7 : decode cX11_digit 7 = .ok (.istore_n 1, 1) := by decide +kernel
theorem dX11_digit_8 : decode cX11_digit 8 = .ok (.aload_n 0, 1) := by decide +kernel
theorem dX11_digit_9 : decode cX11_digit 9 = .ok (.dup, 1) := by decide +kernel
theorem dX11_digit_10 : decode cX11_digit 10 = .ok (.getfield 117, 3) := by decide +kernel
theorem dX11_digit_13 : decode cX11_digit 13 = .ok (.iconst 1, 1) := by decide +kernel
theorem dX11_digit_14 : decode cX11_digit 14 = .ok (.iadd, 1) := by decide +kernel
theorem dX11_digit_15 : decode cX11_digit 15 = .ok (.putfield 117, 3) := by decide +kernel
theorem dX11_digit_18 : decode cX11_digit 18 = .ok (.iload_n 1, 1) := by decide +kernel
theorem dX11_digit_19 : decode cX11_digit 19 = .ok (.ireturn, 1) := by decide +kernel
theorem dX11_kindOf_0 : decode cX11_kindOf 0 = .ok (.iload_n 0, 1) := by decide +kernel
theorem dX11_kindOf_1 : decode cX11_kindOf 1 = .ok (.bipush 108, 2) := by decide +kernel
theorem dX11_kindOf_3 : decode cX11_kindOf 3 = .ok (.if_icmp .ne 7, 3) := by decide +kernel
theorem dX11_kindOf_6 : decode cX11_kindOf 6 = .ok (.iconst 0, 1) := by decide +kernel
theorem dX11_kindOf_7 : decode cX11_kindOf 7 = .ok (.goto 34, 3) := by decide +kernel
theorem dX11_kindOf_10 : decode cX11_kindOf 10 = .ok (.iload_n 0, 1) := by decide +kernel
theorem dX11_kindOf_11 : decode cX11_kindOf 11 = .ok (.bipush 104, 2) := by decide +kernel
theorem dX11_kindOf_13 : decode cX11_kindOf 13 = .ok (.if_icmp .ne 7, 3) := by decide +kernel
theorem dX11_kindOf_16 : decode cX11_kindOf 16 = .ok (.iconst 1, 1) := by decide +kernel
theorem dX11_kindOf_17 : decode cX11_kindOf 17 = .ok (.goto 24, 3) := by decide +kernel
theorem dX11_kindOf_20 : decode cX11_kindOf 20 = .ok (.iload_n 0, 1) := by decide +kernel
theorem dX11_kindOf_21 : decode cX11_kindOf 21 = .ok (.bipush 115, 2) := by decide +kernel
theorem dX11_kindOf_23 : decode cX11_kindOf 23 = .ok (.if_icmp .ne 7, 3) := by decide +kernel
theorem dX11_kindOf_26 : decode cX11_kindOf 26 = .ok (.iconst 2, 1) := by decide +kernel
theorem dX11_kindOf_27 : decode cX11_kindOf 27 = .ok (.goto 14, 3) := by decide +kernel
theorem dX11_kindOf_30 : decode cX11_kindOf 30 = .ok (.iload_n 0, 1) := by decide +kernel
theorem dX11_kindOf_31 : decode cX11_kindOf 31 = .ok (.bipush 97, 2) := by decide +kernel
theorem dX11_kindOf_33 : decode cX11_kindOf 33 = .ok (.if_icmp .ne 7, 3) := by decide +kernel
theorem dX11_kindOf_36 : decode cX11_kindOf 36 = .ok (.iconst 3, 1) := by decide +kernel
theorem dX11_kindOf_37 : decode cX11_kindOf 37 = .ok (.goto 4, 3) := by decide +kernel
theorem dX11_kindOf_40 : decode cX11_kindOf 40 = .ok (.iconst (-1), 1) := by decide +kernel
theorem dX11_kindOf_41 : decode cX11_kindOf 41 = .ok (.ireturn, 1) := by decide +kernel
theorem dX11_readsParish_0 : decode cX11_readsParish 0 = .ok (.aload_n 0, 1) := by decide +kernel
theorem dX11_readsParish_1 : decode cX11_readsParish 1 = .ok (.invokevirtual 120, 3) := by decide +kernel
theorem dX11_readsParish_4 : decode cX11_readsParish 4 = .ok (.invokestatic 123, 3) := by decide +kernel
theorem dX11_readsParish_7 : decode cX11_readsParish 7 = .ok (.istore_n 1, 1) := by decide +kernel
theorem dX11_readsParish_8 : decode cX11_readsParish 8 = .ok (.iload_n 1, 1) := by decide +kernel
theorem dX11_readsParish_9 : decode cX11_readsParish 9 = .ok (.ifCond .ge 5, 3) := by decide +kernel
theorem dX11_readsParish_12 : decode cX11_readsParish 12 = .ok (.iconst 0, 1) := by decide +kernel
theorem dX11_readsParish_13 : decode cX11_readsParish 13 = .ok (.ireturn, 1) := by decide +kernel
theorem dX11_readsParish_14 : decode cX11_readsParish 14 = .ok (.aload_n 0, 1) := by decide +kernel
theorem dX11_readsParish_15 : decode cX11_readsParish 15 = .ok (.dup, 1) := by decide +kernel
theorem dX11_readsParish_16 : decode cX11_readsParish 16 = .ok (.getfield 117, 3) := by decide +kernel
theorem dX11_readsParish_19 : decode cX11_readsParish 19 = .ok (.iconst 1, 1) := by decide +kernel
theorem dX11_readsParish_20 : decode cX11_readsParish 20 = .ok (.iadd, 1) := by decide +kernel
theorem dX11_readsParish_21 : decode cX11_readsParish 21 = .ok (.putfield 117, 3) := by decide +kernel
theorem dX11_readsParish_24 : decode cX11_readsParish 24 = .ok (.aload_n 0, 1) := by decide +kernel
theorem dX11_readsParish_25 : decode cX11_readsParish 25 = .ok (.iload_n 1, 1) := by decide +kernel
theorem dX11_readsParish_26 : decode cX11_readsParish 26 = .ok (.invokevirtual 64, 3) := by decide +kernel
theorem dX11_readsParish_29 : decode cX11_readsParish 29 = .ok (.istore_n 2, 1) := by decide +kernel
theorem dX11_readsParish_30 : decode cX11_readsParish 30 = .ok (.aload_n 0, 1) := by decide +kernel
theorem dX11_readsParish_31 : decode cX11_readsParish 31 = .ok (.iconst 1, 1) := by decide +kernel
theorem dX11_readsParish_32 : decode cX11_readsParish 32 = .ok (.bipush 9, 2) := by decide +kernel
theorem dX11_readsParish_34 : decode cX11_readsParish 34 = .ok (.invokevirtual 126, 3) := by decide +kernel
theorem dX11_readsParish_37 : decode cX11_readsParish 37 = .ok (.ifCond .ne 5, 3) := by decide +kernel
theorem dX11_readsParish_40 : decode cX11_readsParish 40 = .ok (.iconst 1, 1) := by decide +kernel
theorem dX11_readsParish_41 : decode cX11_readsParish 41 = .ok (.ireturn, 1) := by decide +kernel
theorem dX11_readsParish_42 : decode cX11_readsParish 42 = .ok (.iconst 0, 1) := by decide +kernel
theorem dX11_readsParish_43 : decode cX11_readsParish 43 = .ok (.istore_n 3, 1) := by decide +kernel
theorem dX11_readsParish_44 : decode cX11_readsParish 44 = .ok (.iload_n 3, 1) := by decide +kernel
theorem dX11_readsParish_45 : decode cX11_readsParish 45 = .ok (.iconst 4, 1) := by decide +kernel
theorem dX11_readsParish_46 : decode cX11_readsParish 46 = .ok (.if_icmp .ge 38, 3) := by decide +kernel
theorem dX11_readsParish_49 : decode cX11_readsParish 49 = .ok (.aload_n 0, 1) := by decide +kernel
theorem dX11_readsParish_50 : decode cX11_readsParish 50 = .ok (.iconst 1, 1) := by decide +kernel
theorem dX11_readsParish_51 : decode cX11_readsParish 51 = .ok (.bipush 9, 2) := by decide +kernel
theorem dX11_readsParish_53 : decode cX11_readsParish 53 = .ok (.invokevirtual 126, 3) := by decide +kernel
theorem dX11_readsParish_56 : decode cX11_readsParish 56 = .ok (.ifCond .ne 5, 3) := by decide +kernel
theorem dX11_readsParish_59 : decode cX11_readsParish 59 = .ok (.iconst 0, 1) := by decide +kernel
theorem dX11_readsParish_60 : decode cX11_readsParish 60 = .ok (.ireturn, 1) := by decide +kernel
theorem dX11_readsParish_61 : decode cX11_readsParish 61 = .ok (.aload_n 0, 1) := by decide +kernel
theorem dX11_readsParish_62 : decode cX11_readsParish 62 = .ok (.getfield 7, 3) := by decide +kernel
theorem dX11_readsParish_65 : decode cX11_readsParish 65 = .ok (.bipush 14, 2) := by decide +kernel
theorem dX11_readsParish_67 : decode cX11_readsParish 67 = .ok (.iconst 4, 1) := by decide +kernel
theorem dX11_readsParish_68 : decode cX11_readsParish 68 = .ok (.iload_n 2, 1) := by decide +kernel
theorem dX11_readsParish_69 : decode cX11_readsParish 69 = .ok (.imul, 1) := by decide +kernel
theorem dX11_readsParish_70 : decode cX11_readsParish 70 = .ok (.iadd, 1) := by decide +kernel
theorem dX11_readsParish_71 : decode cX11_readsParish 71 = .ok (.iload_n 3, 1) := by decide +kernel
theorem dX11_readsParish_72 : decode cX11_readsParish 72 = .ok (.iadd, 1) := by decide +kernel
theorem dX11_readsParish_73 : decode cX11_readsParish 73 = .ok (.aload_n 0, 1) := by decide +kernel
theorem dX11_readsParish_74 : decode cX11_readsParish 74 = .ok (.invokevirtual 130, 3) := by decide +kernel
theorem dX11_readsParish_77 : decode cX11_readsParish 77 = .ok (.iastore, 1) := by decide +kernel
theorem dX11_readsParish_78 : decode cX11_readsParish 78 = .ok (.iinc 3 1, 3) := by decide +kernel
theorem dX11_readsParish_81 : decode cX11_readsParish 81 = .ok (.goto (-37), 3) := by decide +kernel
theorem dX11_readsParish_84 : decode cX11_readsParish 84 = .ok (.iconst 1, 1) := by decide +kernel
theorem dX11_readsParish_85 : decode cX11_readsParish 85 = .ok (.ireturn, 1) := by decide +kernel
theorem dX11_readsRoad_0 : decode cX11_readsRoad 0 = .ok (.aload_n 0, 1) := by decide +kernel
theorem dX11_readsRoad_1 : decode cX11_readsRoad 1 = .ok (.getfield 7, 3) := by decide +kernel
theorem dX11_readsRoad_4 : decode cX11_readsRoad 4 = .ok (.iconst 0, 1) := by decide +kernel
theorem dX11_readsRoad_5 : decode cX11_readsRoad 5 = .ok (.iaload, 1) := by decide +kernel
theorem dX11_readsRoad_6 : decode cX11_readsRoad 6 = .ok (.iconst 1, 1) := by decide +kernel
theorem dX11_readsRoad_7 : decode cX11_readsRoad 7 = .ok (.isub, 1) := by decide +kernel
theorem dX11_readsRoad_8 : decode cX11_readsRoad 8 = .ok (.istore_n 1, 1) := by decide +kernel
theorem dX11_readsRoad_9 : decode cX11_readsRoad 9 = .ok (.aload_n 0, 1) := by decide +kernel
theorem dX11_readsRoad_10 : decode cX11_readsRoad 10 = .ok (.iconst 0, 1) := by decide +kernel
theorem dX11_readsRoad_11 : decode cX11_readsRoad 11 = .ok (.iload_n 1, 1) := by decide +kernel
theorem dX11_readsRoad_12 : decode cX11_readsRoad 12 = .ok (.invokevirtual 126, 3) := by decide +kernel
theorem dX11_readsRoad_15 : decode cX11_readsRoad 15 = .ok (.ifCond .ne 5, 3) := by decide +kernel
theorem dX11_readsRoad_18 : decode cX11_readsRoad 18 = .ok (.iconst 0, 1) := by decide +kernel
theorem dX11_readsRoad_19 : decode cX11_readsRoad 19 = .ok (.ireturn, 1) := by decide +kernel
theorem dX11_readsRoad_20 : decode cX11_readsRoad 20 = .ok (.aload_n 0, 1) := by decide +kernel
theorem dX11_readsRoad_21 : decode cX11_readsRoad 21 = .ok (.invokevirtual 130, 3) := by decide +kernel
theorem dX11_readsRoad_24 : decode cX11_readsRoad 24 = .ok (.istore_n 2, 1) := by decide +kernel
theorem dX11_readsRoad_25 : decode cX11_readsRoad 25 = .ok (.aload_n 0, 1) := by decide +kernel
theorem dX11_readsRoad_26 : decode cX11_readsRoad 26 = .ok (.iconst 0, 1) := by decide +kernel
theorem dX11_readsRoad_27 : decode cX11_readsRoad 27 = .ok (.iload_n 1, 1) := by decide +kernel
theorem dX11_readsRoad_28 : decode cX11_readsRoad 28 = .ok (.invokevirtual 126, 3) := by decide +kernel
theorem dX11_readsRoad_31 : decode cX11_readsRoad 31 = .ok (.ifCond .eq 29, 3) := by decide +kernel
theorem dX11_readsRoad_34 : decode cX11_readsRoad 34 = .ok (.aload_n 0, 1) := by decide +kernel
theorem dX11_readsRoad_35 : decode cX11_readsRoad 35 = .ok (.invokevirtual 120, 3) := by decide +kernel
theorem dX11_readsRoad_38 : decode cX11_readsRoad 38 = .ok (.bipush 48, 2) := by decide +kernel
theorem dX11_readsRoad_40 : decode cX11_readsRoad 40 = .ok (.isub, 1) := by decide +kernel
theorem dX11_readsRoad_41 : decode cX11_readsRoad 41 = .ok (.iload_n 2, 1) := by decide +kernel
theorem dX11_readsRoad_42 : decode cX11_readsRoad 42 = .ok (.if_icmp .eq 18, 3) := by decide +kernel
theorem dX11_readsRoad_45 : decode cX11_readsRoad 45 = .ok (.aload_n 0, 1) := by decide +kernel
theorem dX11_readsRoad_46 : decode cX11_readsRoad 46 = .ok (.iload_n 2, 1) := by decide +kernel
theorem dX11_readsRoad_47 : decode cX11_readsRoad 47 = .ok (.aload_n 0, 1) := by decide +kernel
theorem dX11_readsRoad_48 : decode cX11_readsRoad 48 = .ok (.invokevirtual 120, 3) := by decide +kernel
theorem dX11_readsRoad_51 : decode cX11_readsRoad 51 = .ok (.bipush 48, 2) := by decide +kernel
theorem dX11_readsRoad_53 : decode cX11_readsRoad 53 = .ok (.isub, 1) := by decide +kernel
theorem dX11_readsRoad_54 : decode cX11_readsRoad 54 = .ok (.invokevirtual 74, 3) := by decide +kernel
theorem dX11_readsRoad_57 : decode cX11_readsRoad 57 = .ok (.ifCond .lt 5, 3) := by decide +kernel
theorem dX11_readsRoad_60 : decode cX11_readsRoad 60 = .ok (.iconst 0, 1) := by decide +kernel
theorem dX11_readsRoad_61 : decode cX11_readsRoad 61 = .ok (.ireturn, 1) := by decide +kernel
theorem dX11_readsRoad_62 : decode cX11_readsRoad 62 = .ok (.aload_n 0, 1) := by decide +kernel
theorem dX11_readsRoad_63 : decode cX11_readsRoad 63 = .ok (.invokevirtual 130, 3) := by decide +kernel
theorem dX11_readsRoad_66 : decode cX11_readsRoad 66 = .ok (.istore_n 3, 1) := by decide +kernel
theorem dX11_readsRoad_67 : decode cX11_readsRoad 67 = .ok (.iconst 0, 1) := by decide +kernel
theorem dX11_readsRoad_68 : decode cX11_readsRoad 68 = .ok (.istore 4, 2) := by decide +kernel
theorem dX11_readsRoad_70 : decode cX11_readsRoad 70 = .ok (.aload_n 0, 1) := by decide +kernel
theorem dX11_readsRoad_71 : decode cX11_readsRoad 71 = .ok (.invokevirtual 120, 3) := by decide +kernel
theorem dX11_readsRoad_74 : decode cX11_readsRoad 74 = .ok (.bipush 116, 2) := by decide +kernel
theorem dX11_readsRoad_76 : decode cX11_readsRoad 76 = .ok (.if_icmp .ne 31, 3) := by decide +kernel
theorem dX11_readsRoad_79 : decode cX11_readsRoad 79 = .ok (.aload_n 0, 1) := by decide +kernel
theorem dX11_readsRoad_80 : decode cX11_readsRoad 80 = .ok (.dup, 1) := by decide +kernel
theorem dX11_readsRoad_81 : decode cX11_readsRoad 81 = .ok (.getfield 117, 3) := by decide +kernel
theorem dX11_readsRoad_84 : decode cX11_readsRoad 84 = .ok (.iconst 1, 1) := by decide +kernel
theorem dX11_readsRoad_85 : decode cX11_readsRoad 85 = .ok (.iadd, 1) := by decide +kernel
theorem dX11_readsRoad_86 : decode cX11_readsRoad 86 = .ok (.putfield 117, 3) := by decide +kernel
theorem dX11_readsRoad_89 : decode cX11_readsRoad 89 = .ok (.aload_n 0, 1) := by decide +kernel
theorem dX11_readsRoad_90 : decode cX11_readsRoad 90 = .ok (.iconst 0, 1) := by decide +kernel
theorem dX11_readsRoad_91 : decode cX11_readsRoad 91 = .ok (.bipush 9, 2) := by decide +kernel
theorem dX11_readsRoad_93 : decode cX11_readsRoad 93 = .ok (.invokevirtual 126, 3) := by decide +kernel
theorem dX11_readsRoad_96 : decode cX11_readsRoad 96 = .ok (.ifCond .ne 5, 3) := by decide +kernel
theorem dX11_readsRoad_99 : decode cX11_readsRoad 99 = .ok (.iconst 0, 1) := by decide +kernel
theorem dX11_readsRoad_100 : decode cX11_readsRoad 100 = .ok (.ireturn, 1) := by decide +kernel
theorem dX11_readsRoad_101 : decode cX11_readsRoad 101 = .ok (.aload_n 0, 1) := by decide +kernel
theorem dX11_readsRoad_102 : decode cX11_readsRoad 102 = .ok (.invokevirtual 130, 3) := by decide +kernel
theorem dX11_readsRoad_105 : decode cX11_readsRoad 105 = .ok (.istore 4, 2) := by decide +kernel
theorem dX11_readsRoad_107 : decode cX11_readsRoad 107 = .ok (.aload_n 0, 1) := by decide +kernel
theorem dX11_readsRoad_108 : decode cX11_readsRoad 108 = .ok (.iload_n 2, 1) := by decide +kernel
theorem dX11_readsRoad_109 : decode cX11_readsRoad 109 = .ok (.iload_n 3, 1) := by decide +kernel
theorem dX11_readsRoad_110 : decode cX11_readsRoad 110 = .ok (.iload 4, 2) := by decide +kernel
theorem dX11_readsRoad_112 : decode cX11_readsRoad 112 = .ok (.invokevirtual 133, 3) := by decide +kernel
theorem dX11_readsRoad_115 : decode cX11_readsRoad 115 = .ok (.ifCond .lt 7, 3) := by decide +kernel
theorem dX11_readsRoad_118 : decode cX11_readsRoad 118 = .ok (.iconst 1, 1) := by decide +kernel
theorem dX11_readsRoad_119 : decode cX11_readsRoad 119 = .ok (.goto 4, 3) := by decide +kernel
theorem dX11_readsRoad_122 : decode cX11_readsRoad 122 = .ok (.iconst 0, 1) := by decide +kernel
theorem dX11_readsRoad_123 : decode cX11_readsRoad 123 = .ok (.ireturn, 1) := by decide +kernel
theorem dX11_reads_0 : decode cX11_reads 0 = .ok (.iconst 1, 1) := by decide +kernel
theorem dX11_reads_1 : decode cX11_reads 1 = .ok (.istore_n 1, 1) := by decide +kernel
theorem dX11_reads_2 : decode cX11_reads 2 = .ok (.iload_n 1, 1) := by decide +kernel
theorem dX11_reads_3 : decode cX11_reads 3 = .ok (.ifCond .eq 59, 3) := by decide +kernel
theorem dX11_reads_6 : decode cX11_reads 6 = .ok (.aload_n 0, 1) := by decide +kernel
theorem dX11_reads_7 : decode cX11_reads 7 = .ok (.invokevirtual 136, 3) := by decide +kernel
theorem dX11_reads_10 : decode cX11_reads 10 = .ok (.ifCond .ne 5, 3) := by decide +kernel
theorem dX11_reads_13 : decode cX11_reads 13 = .ok (.iconst 0, 1) := by decide +kernel
theorem dX11_reads_14 : decode cX11_reads 14 = .ok (.ireturn, 1) := by decide +kernel
theorem dX11_reads_15 : decode cX11_reads 15 = .ok (.aload_n 0, 1) := by decide +kernel
theorem dX11_reads_16 : decode cX11_reads 16 = .ok (.invokevirtual 120, 3) := by decide +kernel
theorem dX11_reads_19 : decode cX11_reads 19 = .ok (.bipush 44, 2) := by decide +kernel
theorem dX11_reads_21 : decode cX11_reads 21 = .ok (.if_icmp .ne 18, 3) := by decide +kernel
theorem dX11_reads_24 : decode cX11_reads 24 = .ok (.aload_n 0, 1) := by decide +kernel
theorem dX11_reads_25 : decode cX11_reads 25 = .ok (.getfield 7, 3) := by decide +kernel
theorem dX11_reads_28 : decode cX11_reads 28 = .ok (.iconst 0, 1) := by decide +kernel
theorem dX11_reads_29 : decode cX11_reads 29 = .ok (.iaload, 1) := by decide +kernel
theorem dX11_reads_30 : decode cX11_reads 30 = .ok (.bipush 8, 2) := by decide +kernel
theorem dX11_reads_32 : decode cX11_reads 32 = .ok (.if_icmp .ge 7, 3) := by decide +kernel
theorem dX11_reads_35 : decode cX11_reads 35 = .ok (.iconst 1, 1) := by decide +kernel
theorem dX11_reads_36 : decode cX11_reads 36 = .ok (.goto 4, 3) := by decide +kernel
theorem dX11_reads_39 : decode cX11_reads 39 = .ok (.iconst 0, 1) := by decide +kernel
theorem dX11_reads_40 : decode cX11_reads 40 = .ok (.istore_n 1, 1) := by decide +kernel
theorem dX11_reads_41 : decode cX11_reads 41 = .ok (.aload_n 0, 1) := by decide +kernel
theorem dX11_reads_42 : decode cX11_reads 42 = .ok (.dup, 1) := by decide +kernel
theorem dX11_reads_43 : decode cX11_reads 43 = .ok (.getfield 117, 3) := by decide +kernel
theorem dX11_reads_46 : decode cX11_reads 46 = .ok (.iload_n 1, 1) := by decide +kernel
theorem dX11_reads_47 : decode cX11_reads 47 = .ok (.ifCond .eq 7, 3) := by decide +kernel
theorem dX11_reads_50 : decode cX11_reads 50 = .ok (.iconst 1, 1) := by decide +kernel
theorem dX11_reads_51 : decode cX11_reads 51 = .ok (.goto 4, 3) := by decide +kernel
theorem dX11_reads_54 : decode cX11_reads 54 = .ok (.iconst 0, 1) := by decide +kernel
theorem dX11_reads_55 : decode cX11_reads 55 = .ok (.iadd, 1) := by decide +kernel
theorem dX11_reads_56 : decode cX11_reads 56 = .ok (.putfield 117, 3) := by decide +kernel
theorem dX11_reads_59 : decode cX11_reads 59 = .ok (.goto (-57), 3) := by decide +kernel
theorem dX11_reads_62 : decode cX11_reads 62 = .ok (.aload_n 0, 1) := by decide +kernel
theorem dX11_reads_63 : decode cX11_reads 63 = .ok (.invokevirtual 120, 3) := by decide +kernel
theorem dX11_reads_66 : decode cX11_reads 66 = .ok (.bipush 59, 2) := by decide +kernel
theorem dX11_reads_68 : decode cX11_reads 68 = .ok (.if_icmp .ne 7, 3) := by decide +kernel
theorem dX11_reads_71 : decode cX11_reads 71 = .ok (.iconst 1, 1) := by decide +kernel
theorem dX11_reads_72 : decode cX11_reads 72 = .ok (.goto 4, 3) := by decide +kernel
theorem dX11_reads_75 : decode cX11_reads 75 = .ok (.iconst 0, 1) := by decide +kernel
theorem dX11_reads_76 : decode cX11_reads 76 = .ok (.istore_n 1, 1) := by decide +kernel
theorem dX11_reads_77 : decode cX11_reads 77 = .ok (.aload_n 0, 1) := by decide +kernel
theorem dX11_reads_78 : decode cX11_reads 78 = .ok (.dup, 1) := by decide +kernel
theorem dX11_reads_79 : decode cX11_reads 79 = .ok (.getfield 117, 3) := by decide +kernel
theorem dX11_reads_82 : decode cX11_reads 82 = .ok (.iload_n 1, 1) := by decide +kernel
theorem dX11_reads_83 : decode cX11_reads 83 = .ok (.ifCond .eq 7, 3) := by decide +kernel
theorem dX11_reads_86 : decode cX11_reads 86 = .ok (.iconst 1, 1) := by decide +kernel
theorem dX11_reads_87 : decode cX11_reads 87 = .ok (.goto 4, 3) := by decide +kernel
theorem dX11_reads_90 : decode cX11_reads 90 = .ok (.iconst 0, 1) := by decide +kernel
theorem dX11_reads_91 : decode cX11_reads 91 = .ok (.iadd, 1) := by decide +kernel
theorem dX11_reads_92 : decode cX11_reads 92 = .ok (.putfield 117, 3) := by decide +kernel
theorem dX11_reads_95 : decode cX11_reads 95 = .ok (.iload_n 1, 1) := by decide +kernel
theorem dX11_reads_96 : decode cX11_reads 96 = .ok (.ifCond .eq 59, 3) := by decide +kernel
theorem dX11_reads_99 : decode cX11_reads 99 = .ok (.aload_n 0, 1) := by decide +kernel
theorem dX11_reads_100 : decode cX11_reads 100 = .ok (.invokevirtual 140, 3) := by decide +kernel
theorem dX11_reads_103 : decode cX11_reads 103 = .ok (.ifCond .ne 5, 3) := by decide +kernel
theorem dX11_reads_106 : decode cX11_reads 106 = .ok (.iconst 0, 1) := by decide +kernel
theorem dX11_reads_107 : decode cX11_reads 107 = .ok (.ireturn, 1) := by decide +kernel
theorem dX11_reads_108 : decode cX11_reads 108 = .ok (.aload_n 0, 1) := by decide +kernel
theorem dX11_reads_109 : decode cX11_reads 109 = .ok (.invokevirtual 120, 3) := by decide +kernel
theorem dX11_reads_112 : decode cX11_reads 112 = .ok (.bipush 44, 2) := by decide +kernel
theorem dX11_reads_114 : decode cX11_reads 114 = .ok (.if_icmp .ne 18, 3) := by decide +kernel
theorem dX11_reads_117 : decode cX11_reads 117 = .ok (.aload_n 0, 1) := by decide +kernel
theorem dX11_reads_118 : decode cX11_reads 118 = .ok (.getfield 7, 3) := by decide +kernel
theorem dX11_reads_121 : decode cX11_reads 121 = .ok (.iconst 1, 1) := by decide +kernel
theorem dX11_reads_122 : decode cX11_reads 122 = .ok (.iaload, 1) := by decide +kernel
theorem dX11_reads_123 : decode cX11_reads 123 = .ok (.bipush 15, 2) := by decide +kernel
theorem dX11_reads_125 : decode cX11_reads 125 = .ok (.if_icmp .ge 7, 3) := by decide +kernel
theorem dX11_reads_128 : decode cX11_reads 128 = .ok (.iconst 1, 1) := by decide +kernel
theorem dX11_reads_129 : decode cX11_reads 129 = .ok (.goto 4, 3) := by decide +kernel
theorem dX11_reads_132 : decode cX11_reads 132 = .ok (.iconst 0, 1) := by decide +kernel
theorem dX11_reads_133 : decode cX11_reads 133 = .ok (.istore_n 1, 1) := by decide +kernel
theorem dX11_reads_134 : decode cX11_reads 134 = .ok (.aload_n 0, 1) := by decide +kernel
theorem dX11_reads_135 : decode cX11_reads 135 = .ok (.dup, 1) := by decide +kernel
theorem dX11_reads_136 : decode cX11_reads 136 = .ok (.getfield 117, 3) := by decide +kernel
theorem dX11_reads_139 : decode cX11_reads 139 = .ok (.iload_n 1, 1) := by decide +kernel
theorem dX11_reads_140 : decode cX11_reads 140 = .ok (.ifCond .eq 7, 3) := by decide +kernel
theorem dX11_reads_143 : decode cX11_reads 143 = .ok (.iconst 1, 1) := by decide +kernel
theorem dX11_reads_144 : decode cX11_reads 144 = .ok (.goto 4, 3) := by decide +kernel
theorem dX11_reads_147 : decode cX11_reads 147 = .ok (.iconst 0, 1) := by decide +kernel
theorem dX11_reads_148 : decode cX11_reads 148 = .ok (.iadd, 1) := by decide +kernel
theorem dX11_reads_149 : decode cX11_reads 149 = .ok (.putfield 117, 3) := by decide +kernel
theorem dX11_reads_152 : decode cX11_reads 152 = .ok (.goto (-57), 3) := by decide +kernel
theorem dX11_reads_155 : decode cX11_reads 155 = .ok (.aload_n 0, 1) := by decide +kernel
theorem dX11_reads_156 : decode cX11_reads 156 = .ok (.invokevirtual 120, 3) := by decide +kernel
theorem dX11_reads_159 : decode cX11_reads 159 = .ok (.ifCond .ne 7, 3) := by decide +kernel
theorem dX11_reads_162 : decode cX11_reads 162 = .ok (.iconst 1, 1) := by decide +kernel
theorem dX11_reads_163 : decode cX11_reads 163 = .ok (.goto 4, 3) := by decide +kernel
theorem dX11_reads_166 : decode cX11_reads 166 = .ok (.iconst 0, 1) := by decide +kernel
theorem dX11_reads_167 : decode cX11_reads 167 = .ok (.ireturn, 1) := by decide +kernel
theorem dX11_land_0 : decode cX11_land 0 = .ok (.iconst 0, 1) := by decide +kernel
theorem dX11_land_1 : decode cX11_land 1 = .ok (.istore_n 1, 1) := by decide +kernel
theorem dX11_land_2 : decode cX11_land 2 = .ok (.iload_n 1, 1) := by decide +kernel
theorem dX11_land_3 : decode cX11_land 3 = .ok (.sipush 135, 3) := by decide +kernel
theorem dX11_land_6 : decode cX11_land 6 = .ok (.if_icmp .ge 21, 3) := by decide +kernel
theorem dX11_land_9 : decode cX11_land 9 = .ok (.aload_n 0, 1) := by decide +kernel
theorem dX11_land_10 : decode cX11_land 10 = .ok (.getfield 29, 3) := by decide +kernel
theorem dX11_land_13 : decode cX11_land 13 = .ok (.iload_n 1, 1) := by decide +kernel
theorem dX11_land_14 : decode cX11_land 14 = .ok (.aload_n 0, 1) := by decide +kernel
theorem dX11_land_15 : decode cX11_land 15 = .ok (.getfield 7, 3) := by decide +kernel
theorem dX11_land_18 : decode cX11_land 18 = .ok (.iload_n 1, 1) := by decide +kernel
theorem dX11_land_19 : decode cX11_land 19 = .ok (.iaload, 1) := by decide +kernel
theorem dX11_land_20 : decode cX11_land 20 = .ok (.iastore, 1) := by decide +kernel
theorem dX11_land_21 : decode cX11_land 21 = .ok (.iinc 1 1, 3) := by decide +kernel
theorem dX11_land_24 : decode cX11_land 24 = .ok (.goto (-22), 3) := by decide +kernel
theorem dX11_land_27 : decode cX11_land 27 = .ok (.aload_n 0, 1) := by decide +kernel
theorem dX11_land_28 : decode cX11_land 28 = .ok (.getfield 7, 3) := by decide +kernel
theorem dX11_land_31 : decode cX11_land 31 = .ok (.iconst 0, 1) := by decide +kernel
theorem dX11_land_32 : decode cX11_land 32 = .ok (.iconst 0, 1) := by decide +kernel
theorem dX11_land_33 : decode cX11_land 33 = .ok (.iastore, 1) := by decide +kernel
theorem dX11_land_34 : decode cX11_land 34 = .ok (.aload_n 0, 1) := by decide +kernel
theorem dX11_land_35 : decode cX11_land 35 = .ok (.getfield 7, 3) := by decide +kernel
theorem dX11_land_38 : decode cX11_land 38 = .ok (.iconst 1, 1) := by decide +kernel
theorem dX11_land_39 : decode cX11_land 39 = .ok (.iconst 0, 1) := by decide +kernel
theorem dX11_land_40 : decode cX11_land 40 = .ok (.iastore, 1) := by decide +kernel
theorem dX11_land_41 : decode cX11_land 41 = .ok (.aload_n 0, 1) := by decide +kernel
theorem dX11_land_42 : decode cX11_land 42 = .ok (.getfield 7, 3) := by decide +kernel
theorem dX11_land_45 : decode cX11_land 45 = .ok (.iconst 3, 1) := by decide +kernel
theorem dX11_land_46 : decode cX11_land 46 = .ok (.iconst 0, 1) := by decide +kernel
theorem dX11_land_47 : decode cX11_land 47 = .ok (.iastore, 1) := by decide +kernel
theorem dX11_land_48 : decode cX11_land 48 = .ok (.aload_n 0, 1) := by decide +kernel
theorem dX11_land_49 : decode cX11_land 49 = .ok (.getfield 7, 3) := by decide +kernel
theorem dX11_land_52 : decode cX11_land 52 = .ok (.iconst 4, 1) := by decide +kernel
theorem dX11_land_53 : decode cX11_land 53 = .ok (.iconst 0, 1) := by decide +kernel
theorem dX11_land_54 : decode cX11_land 54 = .ok (.iastore, 1) := by decide +kernel
theorem dX11_land_55 : decode cX11_land 55 = .ok (.aload_n 0, 1) := by decide +kernel
theorem dX11_land_56 : decode cX11_land 56 = .ok (.iconst 0, 1) := by decide +kernel
theorem dX11_land_57 : decode cX11_land 57 = .ok (.putfield 117, 3) := by decide +kernel
theorem dX11_land_60 : decode cX11_land 60 = .ok (.aload_n 0, 1) := by decide +kernel
theorem dX11_land_61 : decode cX11_land 61 = .ok (.invokevirtual 143, 3) := by decide +kernel
theorem dX11_land_64 : decode cX11_land 64 = .ok (.istore_n 1, 1) := by decide +kernel
theorem dX11_land_65 : decode cX11_land 65 = .ok (.aload_n 0, 1) := by decide +kernel
theorem dX11_land_66 : decode cX11_land 66 = .ok (.iconst 0, 1) := by decide +kernel
theorem dX11_land_67 : decode cX11_land 67 = .ok (.putfield 113, 3) := by decide +kernel
theorem dX11_land_70 : decode cX11_land 70 = .ok (.iload_n 1, 1) := by decide +kernel
