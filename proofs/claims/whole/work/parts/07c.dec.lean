theorem dX5_init_0 : decode cX5_init 0 = .ok (.aload_n 0, 1) := by decide +kernel
theorem dX5_init_1 : decode cX5_init 1 = .ok (.invokespecial 3, 3) := by decide +kernel
theorem dX5_init_4 : decode cX5_init 4 = .ok (.aload_n 0, 1) := by decide +kernel
theorem dX5_init_5 : decode cX5_init 5 = .ok (.bipush 64, 2) := by decide +kernel
theorem dX5_init_7 : decode cX5_init 7 = .ok (.newarray .int, 2) := by decide +kernel
theorem dX5_init_9 : decode cX5_init 9 = .ok (.putfield 11, 3) := by decide +kernel
theorem dX5_init_12 : decode cX5_init 12 = .ok (.aload_n 0, 1) := by decide +kernel
theorem dX5_init_13 : decode cX5_init 13 = .ok (.bipush 64, 2) := by decide +kernel
theorem dX5_init_15 : decode cX5_init 15 = .ok (.newarray .int, 2) := by decide +kernel
theorem dX5_init_17 : decode cX5_init 17 = .ok (.putfield 15, 3) := by decide +kernel
theorem dX5_init_20 : decode cX5_init 20 = .ok (.aload_n 0, 1) := by decide +kernel
theorem dX5_init_21 : decode cX5_init 21 = .ok (.bipush 8, 2) := by decide +kernel
theorem dX5_init_23 : decode cX5_init 23 = .ok (.newarray .int, 2) := by decide +kernel
theorem dX5_init_25 : decode cX5_init 25 = .ok (.putfield 18, 3) := by decide +kernel
theorem dX5_init_28 : decode cX5_init 28 = .ok (.aload_n 0, 1) := by decide +kernel
theorem dX5_init_29 : decode cX5_init 29 = .ok (.bipush 8, 2) := by decide +kernel
theorem dX5_init_31 : decode cX5_init 31 = .ok (.newarray .int, 2) := by decide +kernel
theorem dX5_init_33 : decode cX5_init 33 = .ok (.putfield 21, 3) := by decide +kernel
theorem dX5_init_36 : decode cX5_init 36 = .ok (.aload_n 0, 1) := by decide +kernel
theorem dX5_init_37 : decode cX5_init 37 = .ok (.bipush 8, 2) := by decide +kernel
theorem dX5_init_39 : decode cX5_init 39 = .ok (.newarray .int, 2) := by decide +kernel
theorem dX5_init_41 : decode cX5_init 41 = .ok (.putfield 24, 3) := by decide +kernel
theorem dX5_init_44 : decode cX5_init 44 = .ok (.aload_n 0, 1) := by decide +kernel
theorem dX5_init_45 : decode cX5_init 45 = .ok (.bipush 8, 2) := by decide +kernel
theorem dX5_init_47 : decode cX5_init 47 = .ok (.newarray .int, 2) := by decide +kernel
theorem dX5_init_49 : decode cX5_init 49 = .ok (.putfield 27, 3) := by decide +kernel
theorem dX5_init_52 : decode cX5_init 52 = .ok (.aload_n 0, 1) := by decide +kernel
theorem dX5_init_53 : decode cX5_init 53 = .ok (.aload_n 1, 1) := by decide +kernel
theorem dX5_init_54 : decode cX5_init 54 = .ok (.putfield 30, 3) := by decide +kernel
theorem dX5_init_57 : decode cX5_init 57 = .ok (.return_, 1) := by decide +kernel
theorem dX5_harness_0 : decode cX5_harness 0 = .ok (.aload_n 0, 1) := by decide +kernel
theorem dX5_harness_1 : decode cX5_harness 1 = .ok (.getfield 30, 3) := by decide +kernel
theorem dX5_harness_4 : decode cX5_harness 4 = .ok (.getfield 34, 3) := by decide +kernel
theorem dX5_harness_7 : decode cX5_harness 7 = .ok (.astore_n 2, 1) := by decide +kernel
theorem dX5_harness_8 : decode cX5_harness 8 = .ok (.aload_n 0, 1) := by decide +kernel
theorem dX5_harness_9 : decode cX5_harness 9 = .ok (.aload_n 2, 1) := by decide +kernel
theorem dX5_harness_10 : decode cX5_harness 10 = .ok (.getfield 40, 3) := by decide +kernel
theorem dX5_harness_13 : decode cX5_harness 13 = .ok (.putfield 46, 3) := by decide +kernel
theorem dX5_harness_16 : decode cX5_harness 16 = .ok (.aload_n 0, 1) := by decide +kernel
theorem dX5_harness_17 : decode cX5_harness 17 = .ok (.aload_n 0, 1) := by decide +kernel
theorem dX5_harness_18 : decode cX5_harness 18 = .ok (.getfield 30, 3) := by decide +kernel
theorem dX5_harness_21 : decode cX5_harness 21 = .ok (.getfield 47, 3) := by decide +kernel
theorem dX5_harness_24 : decode cX5_harness 24 = .ok (.iload_n 1, 1) := by decide +kernel
theorem dX5_harness_25 : decode cX5_harness 25 = .ok (.iaload, 1) := by decide +kernel
theorem dX5_harness_26 : decode cX5_harness 26 = .ok (.putfield 50, 3) := by decide +kernel
theorem dX5_harness_29 : decode cX5_harness 29 = .ok (.aload_n 0, 1) := by decide +kernel
theorem dX5_harness_30 : decode cX5_harness 30 = .ok (.aload_n 0, 1) := by decide +kernel
theorem dX5_harness_31 : decode cX5_harness 31 = .ok (.getfield 30, 3) := by decide +kernel
theorem dX5_harness_34 : decode cX5_harness 34 = .ok (.getfield 53, 3) := by decide +kernel
theorem dX5_harness_37 : decode cX5_harness 37 = .ok (.iload_n 1, 1) := by decide +kernel
theorem dX5_harness_38 : decode cX5_harness 38 = .ok (.iaload, 1) := by decide +kernel
theorem dX5_harness_39 : decode cX5_harness 39 = .ok (.putfield 54, 3) := by decide +kernel
theorem dX5_harness_42 : decode cX5_harness 42 = .ok (.aload_n 0, 1) := by decide +kernel
theorem dX5_harness_43 : decode cX5_harness 43 = .ok (.iconst 0, 1) := by decide +kernel
theorem dX5_harness_44 : decode cX5_harness 44 = .ok (.putfield 57, 3) := by decide +kernel
theorem dX5_harness_47 : decode cX5_harness 47 = .ok (.aload_n 0, 1) := by decide +kernel
theorem dX5_harness_48 : decode cX5_harness 48 = .ok (.getfield 11, 3) := by decide +kernel
theorem dX5_harness_51 : decode cX5_harness 51 = .ok (.iconst (-1), 1) := by decide +kernel
theorem dX5_harness_52 : decode cX5_harness 52 = .ok (.invokestatic 60, 3) := by decide +kernel
theorem dX5_harness_55 : decode cX5_harness 55 = .ok (.iconst 0, 1) := by decide +kernel
theorem dX5_harness_56 : decode cX5_harness 56 = .ok (.istore_n 3, 1) := by decide +kernel
theorem dX5_harness_57 : decode cX5_harness 57 = .ok (.iload_n 3, 1) := by decide +kernel
theorem dX5_harness_58 : decode cX5_harness 58 = .ok (.aload_n 2, 1) := by decide +kernel
theorem dX5_harness_59 : decode cX5_harness 59 = .ok (.getfield 66, 3) := by decide +kernel
theorem dX5_harness_62 : decode cX5_harness 62 = .ok (.if_icmp .ge 63, 3) := by decide +kernel
theorem dX5_harness_65 : decode cX5_harness 65 = .ok (.aload_n 2, 1) := by decide +kernel
theorem dX5_harness_66 : decode cX5_harness 66 = .ok (.getfield 69, 3) := by decide +kernel
theorem dX5_harness_69 : decode cX5_harness 69 = .ok (.iload_n 3, 1) := by decide +kernel
theorem dX5_harness_70 : decode cX5_harness 70 = .ok (.iaload, 1) := by decide +kernel
theorem dX5_harness_71 : decode cX5_harness 71 = .ok (.istore 4, 2) := by decide +kernel
theorem dX5_harness_73 : decode cX5_harness 73 = .ok (.aload_n 2, 1) := by decide +kernel
theorem dX5_harness_74 : decode cX5_harness 74 = .ok (.getfield 72, 3) := by decide +kernel
theorem dX5_harness_77 : decode cX5_harness 77 = .ok (.iload_n 3, 1) := by decide +kernel
theorem dX5_harness_78 : decode cX5_harness 78 = .ok (.iaload, 1) := by decide +kernel
theorem dX5_harness_79 : decode cX5_harness 79 = .ok (.istore 5, 2) := by decide +kernel
theorem dX5_harness_81 : decode cX5_harness 81 = .ok (.aload_n 0, 1) := by decide +kernel
theorem dX5_harness_82 : decode cX5_harness 82 = .ok (.getfield 11, 3) := by decide +kernel
theorem dX5_harness_85 : decode cX5_harness 85 = .ok (.iload 4, 2) := by decide +kernel
theorem dX5_harness_87 : decode cX5_harness 87 = .ok (.bipush 8, 2) := by decide +kernel
theorem dX5_harness_89 : decode cX5_harness 89 = .ok (.imul, 1) := by decide +kernel
theorem dX5_harness_90 : decode cX5_harness 90 = .ok (.iload 5, 2) := by decide +kernel
theorem dX5_harness_92 : decode cX5_harness 92 = .ok (.iadd, 1) := by decide +kernel
theorem dX5_harness_93 : decode cX5_harness 93 = .ok (.aload_n 2, 1) := by decide +kernel
theorem dX5_harness_94 : decode cX5_harness 94 = .ok (.getfield 75, 3) := by decide +kernel
theorem dX5_harness_97 : decode cX5_harness 97 = .ok (.iload_n 3, 1) := by decide +kernel
theorem dX5_harness_98 : decode cX5_harness 98 = .ok (.iaload, 1) := by decide +kernel
theorem dX5_harness_99 : decode cX5_harness 99 = .ok (.iastore, 1) := by decide +kernel
theorem dX5_harness_100 : decode cX5_harness 100 = .ok (.aload_n 0, 1) := by decide +kernel
theorem dX5_harness_101 : decode cX5_harness 101 = .ok (.getfield 11, 3) := by decide +kernel
theorem dX5_harness_104 : decode cX5_harness 104 = .ok (.iload 5, 2) := by decide +kernel
theorem dX5_harness_106 : decode cX5_harness 106 = .ok (.bipush 8, 2) := by decide +kernel
theorem dX5_harness_108 : decode cX5_harness 108 = .ok (.imul, 1) := by decide +kernel
theorem dX5_harness_109 : decode cX5_harness 109 = .ok (.iload 4, 2) := by decide +kernel
theorem dX5_harness_111 : decode cX5_harness 111 = .ok (.iadd, 1) := by decide +kernel
theorem dX5_harness_112 : decode cX5_harness 112 = .ok (.aload_n 2, 1) := by decide +kernel
theorem dX5_harness_113 : decode cX5_harness 113 = .ok (.getfield 75, 3) := by decide +kernel
theorem dX5_harness_116 : decode cX5_harness 116 = .ok (.iload_n 3, 1) := by decide +kernel
theorem dX5_harness_117 : decode cX5_harness 117 = .ok (.iaload, 1) := by decide +kernel
theorem dX5_harness_118 : decode cX5_harness 118 = .ok (.iastore, 1) := by decide +kernel
theorem dX5_harness_119 : decode cX5_harness 119 = .ok (.iinc 3 1, 3) := by decide +kernel
theorem dX5_harness_122 : decode cX5_harness 122 = .ok (.goto (-65), 3) := by decide +kernel
theorem dX5_harness_125 : decode cX5_harness 125 = .ok (.return_, 1) := by decide +kernel
theorem dX5_weigh_0 : decode cX5_weigh 0 = .ok (.iconst 0, 1) := by decide +kernel
theorem dX5_weigh_1 : decode cX5_weigh 1 = .ok (.istore_n 2, 1) := by decide +kernel
theorem dX5_weigh_2 : decode cX5_weigh 2 = .ok (.iload_n 2, 1) := by decide +kernel
theorem dX5_weigh_3 : decode cX5_weigh 3 = .ok (.aload_n 0, 1) := by decide +kernel
theorem dX5_weigh_4 : decode cX5_weigh 4 = .ok (.getfield 46, 3) := by decide +kernel
theorem dX5_weigh_7 : decode cX5_weigh 7 = .ok (.if_icmp .ge 24, 3) := by decide +kernel
theorem dX5_weigh_10 : decode cX5_weigh 10 = .ok (.aload_n 0, 1) := by decide +kernel
theorem dX5_weigh_11 : decode cX5_weigh 11 = .ok (.getfield 18, 3) := by decide +kernel
theorem dX5_weigh_14 : decode cX5_weigh 14 = .ok (.iload_n 2, 1) := by decide +kernel
theorem dX5_weigh_15 : decode cX5_weigh 15 = .ok (.aload_n 0, 1) := by decide +kernel
theorem dX5_weigh_16 : decode cX5_weigh 16 = .ok (.getfield 30, 3) := by decide +kernel
theorem dX5_weigh_19 : decode cX5_weigh 19 = .ok (.iload_n 2, 1) := by decide +kernel
theorem dX5_weigh_20 : decode cX5_weigh 20 = .ok (.iload_n 1, 1) := by decide +kernel
theorem dX5_weigh_21 : decode cX5_weigh 21 = .ok (.invokevirtual 76, 3) := by decide +kernel
theorem dX5_weigh_24 : decode cX5_weigh 24 = .ok (.iastore, 1) := by decide +kernel
theorem dX5_weigh_25 : decode cX5_weigh 25 = .ok (.iinc 2 1, 3) := by decide +kernel
theorem dX5_weigh_28 : decode cX5_weigh 28 = .ok (.goto (-26), 3) := by decide +kernel
theorem dX5_weigh_31 : decode cX5_weigh 31 = .ok (.return_, 1) := by decide +kernel
theorem dX5_spread_0 : decode cX5_spread 0 = .ok (.aload_n 0, 1) := by decide +kernel
theorem dX5_spread_1 : decode cX5_spread 1 = .ok (.iload_n 1, 1) := by decide +kernel
theorem dX5_spread_2 : decode cX5_spread 2 = .ok (.invokevirtual 80, 3) := by decide +kernel
theorem dX5_spread_5 : decode cX5_spread 5 = .ok (.iconst 0, 1) := by decide +kernel
theorem dX5_spread_6 : decode cX5_spread 6 = .ok (.istore_n 2, 1) := by decide +kernel
theorem dX5_spread_7 : decode cX5_spread 7 = .ok (.iload_n 2, 1) := by decide +kernel
theorem dX5_spread_8 : decode cX5_spread 8 = .ok (.aload_n 0, 1) := by decide +kernel
theorem dX5_spread_9 : decode cX5_spread 9 = .ok (.getfield 46, 3) := by decide +kernel
theorem dX5_spread_12 : decode cX5_spread 12 = .ok (.if_icmp .ge 24, 3) := by decide +kernel
theorem dX5_spread_15 : decode cX5_spread 15 = .ok (.aload_n 0, 1) := by decide +kernel
theorem dX5_spread_16 : decode cX5_spread 16 = .ok (.invokevirtual 84, 3) := by decide +kernel
theorem dX5_spread_19 : decode cX5_spread 19 = .ok (.istore_n 3, 1) := by decide +kernel
theorem dX5_spread_20 : decode cX5_spread 20 = .ok (.iload_n 3, 1) := by decide +kernel
theorem dX5_spread_21 : decode cX5_spread 21 = .ok (.ifCond .ge 4, 3) := by decide +kernel
theorem dX5_spread_24 : decode cX5_spread 24 = .ok (.return_, 1) := by decide +kernel
theorem dX5_spread_25 : decode cX5_spread 25 = .ok (.aload_n 0, 1) := by decide +kernel
theorem dX5_spread_26 : decode cX5_spread 26 = .ok (.iload_n 3, 1) := by decide +kernel
theorem dX5_spread_27 : decode cX5_spread 27 = .ok (.invokevirtual 88, 3) := by decide +kernel
theorem dX5_spread_30 : decode cX5_spread 30 = .ok (.iinc 2 1, 3) := by decide +kernel
theorem dX5_spread_33 : decode cX5_spread 33 = .ok (.goto (-26), 3) := by decide +kernel
theorem dX5_spread_36 : decode cX5_spread 36 = .ok (.return_, 1) := by decide +kernel
theorem dX5_bestPlace_0 : decode cX5_bestPlace 0 = .ok (.aload_n 0, 1) := by decide +kernel
theorem dX5_bestPlace_1 : decode cX5_bestPlace 1 = .ok (.iload_n 1, 1) := by decide +kernel
theorem dX5_bestPlace_2 : decode cX5_bestPlace 2 = .ok (.invokevirtual 80, 3) := by decide +kernel
theorem dX5_bestPlace_5 : decode cX5_bestPlace 5 = .ok (.iconst (-1), 1) := by decide +kernel
theorem dX5_bestPlace_6 : decode cX5_bestPlace 6 = .ok (.istore_n 3, 1) := by decide +kernel
theorem dX5_bestPlace_7 : decode cX5_bestPlace 7 = .ok (.iload_n 2, 1) := by decide +kernel
theorem dX5_bestPlace_8 : decode cX5_bestPlace 8 = .ok (.aload_n 0, 1) := by decide +kernel
theorem dX5_bestPlace_9 : decode cX5_bestPlace 9 = .ok (.invokevirtual 91, 3) := by decide +kernel
theorem dX5_bestPlace_12 : decode cX5_bestPlace 12 = .ok (.imul, 1) := by decide +kernel
theorem dX5_bestPlace_13 : decode cX5_bestPlace 13 = .ok (.istore 4, 2) := by decide +kernel
theorem dX5_bestPlace_15 : decode cX5_bestPlace 15 = .ok (.iconst 0, 1) := by decide +kernel
theorem dX5_bestPlace_16 : decode cX5_bestPlace 16 = .ok (.istore 5, 2) := by decide +kernel
theorem dX5_bestPlace_18 : decode cX5_bestPlace 18 = .ok (.iload 5, 2) := by decide +kernel
theorem dX5_bestPlace_20 : decode cX5_bestPlace 20 = .ok (.aload_n 0, 1) := by decide +kernel
theorem dX5_bestPlace_21 : decode cX5_bestPlace 21 = .ok (.getfield 46, 3) := by decide +kernel
theorem dX5_bestPlace_24 : decode cX5_bestPlace 24 = .ok (.if_icmp .ge 105, 3) := by decide +kernel
theorem dX5_bestPlace_27 : decode cX5_bestPlace 27 = .ok (.aload_n 0, 1) := by decide +kernel
theorem dX5_bestPlace_28 : decode cX5_bestPlace 28 = .ok (.invokevirtual 84, 3) := by decide +kernel
theorem dX5_bestPlace_31 : decode cX5_bestPlace 31 = .ok (.istore 6, 2) := by decide +kernel
theorem dX5_bestPlace_33 : decode cX5_bestPlace 33 = .ok (.iload 6, 2) := by decide +kernel
theorem dX5_bestPlace_35 : decode cX5_bestPlace 35 = .ok (.ifCond .lt 24, 3) := by decide +kernel
theorem dX5_bestPlace_38 : decode cX5_bestPlace 38 = .ok (.iload_n 3, 1) := by decide +kernel
theorem dX5_bestPlace_39 : decode cX5_bestPlace 39 = .ok (.ifCond .lt 22, 3) := by decide +kernel
theorem dX5_bestPlace_42 : decode cX5_bestPlace 42 = .ok (.iload 4, 2) := by decide +kernel
theorem dX5_bestPlace_44 : decode cX5_bestPlace 44 = .ok (.aload_n 0, 1) := by decide +kernel
theorem dX5_bestPlace_45 : decode cX5_bestPlace 45 = .ok (.getfield 21, 3) := by decide +kernel
theorem dX5_bestPlace_48 : decode cX5_bestPlace 48 = .ok (.iload 6, 2) := by decide +kernel
theorem dX5_bestPlace_50 : decode cX5_bestPlace 50 = .ok (.iaload, 1) := by decide +kernel
theorem dX5_bestPlace_51 : decode cX5_bestPlace 51 = .ok (.isub, 1) := by decide +kernel
theorem dX5_bestPlace_52 : decode cX5_bestPlace 52 = .ok (.aload_n 0, 1) := by decide +kernel
theorem dX5_bestPlace_53 : decode cX5_bestPlace 53 = .ok (.getfield 94, 3) := by decide +kernel
theorem dX5_bestPlace_56 : decode cX5_bestPlace 56 = .ok (.if_icmp .ge 5, 3) := by decide +kernel
theorem dX5_bestPlace_59 : decode cX5_bestPlace 59 = .ok (.iload_n 3, 1) := by decide +kernel
theorem dX5_bestPlace_60 : decode cX5_bestPlace 60 = .ok (.ireturn, 1) := by decide +kernel
theorem dX5_bestPlace_61 : decode cX5_bestPlace 61 = .ok (.iload_n 2, 1) := by decide +kernel
theorem dX5_bestPlace_62 : decode cX5_bestPlace 62 = .ok (.aload_n 0, 1) := by decide +kernel
theorem dX5_bestPlace_63 : decode cX5_bestPlace 63 = .ok (.getfield 18, 3) := by decide +kernel
theorem dX5_bestPlace_66 : decode cX5_bestPlace 66 = .ok (.iload 6, 2) := by decide +kernel
theorem dX5_bestPlace_68 : decode cX5_bestPlace 68 = .ok (.iaload, 1) := by decide +kernel
theorem dX5_bestPlace_69 : decode cX5_bestPlace 69 = .ok (.imul, 1) := by decide +kernel
theorem dX5_bestPlace_70 : decode cX5_bestPlace 70 = .ok (.aload_n 0, 1) := by decide +kernel
theorem dX5_bestPlace_71 : decode cX5_bestPlace 71 = .ok (.getfield 21, 3) := by decide +kernel
theorem dX5_bestPlace_74 : decode cX5_bestPlace 74 = .ok (.iload 6, 2) := by decide +kernel
theorem dX5_bestPlace_76 : decode cX5_bestPlace 76 = .ok (.iaload, 1) := by decide +kernel
theorem dX5_bestPlace_77 : decode cX5_bestPlace 77 = .ok (.isub, 1) := by decide +kernel
theorem dX5_bestPlace_78 : decode cX5_bestPlace 78 = .ok (.istore 7, 2) := by decide +kernel
theorem dX5_bestPlace_80 : decode cX5_bestPlace 80 = .ok (.iload_n 3, 1) := by decide +kernel
theorem dX5_bestPlace_81 : decode cX5_bestPlace 81 = .ok (.ifCond .lt 27, 3) := by decide +kernel
theorem dX5_bestPlace_84 : decode cX5_bestPlace 84 = .ok (.iload 7, 2) := by decide +kernel
theorem dX5_bestPlace_86 : decode cX5_bestPlace 86 = .ok (.aload_n 0, 1) := by decide +kernel
theorem dX5_bestPlace_87 : decode cX5_bestPlace 87 = .ok (.getfield 94, 3) := by decide +kernel
theorem dX5_bestPlace_90 : decode cX5_bestPlace 90 = .ok (.if_icmp .gt 18, 3) := by decide +kernel
theorem dX5_bestPlace_93 : decode cX5_bestPlace 93 = .ok (.iload 7, 2) := by decide +kernel
theorem dX5_bestPlace_95 : decode cX5_bestPlace 95 = .ok (.aload_n 0, 1) := by decide +kernel
theorem dX5_bestPlace_96 : decode cX5_bestPlace 96 = .ok (.getfield 94, 3) := by decide +kernel
theorem dX5_bestPlace_99 : decode cX5_bestPlace 99 = .ok (.if_icmp .ne 18, 3) := by decide +kernel
theorem dX5_bestPlace_102 : decode cX5_bestPlace 102 = .ok (.iload 6, 2) := by decide +kernel
theorem dX5_bestPlace_104 : decode cX5_bestPlace 104 = .ok (.iload_n 3, 1) := by decide +kernel
theorem dX5_bestPlace_105 : decode cX5_bestPlace 105 = .ok (.if_icmp .ge 12, 3) := by decide +kernel
theorem dX5_bestPlace_108 : decode cX5_bestPlace 108 = .ok (.iload 6, 2) := by decide +kernel
theorem dX5_bestPlace_110 : decode cX5_bestPlace 110 = .ok (.istore_n 3, 1) := by decide +kernel
theorem dX5_bestPlace_111 : decode cX5_bestPlace 111 = .ok (.aload_n 0, 1) := by decide +kernel
theorem dX5_bestPlace_112 : decode cX5_bestPlace 112 = .ok (.iload 7, 2) := by decide +kernel
theorem dX5_bestPlace_114 : decode cX5_bestPlace 114 = .ok (.putfield 94, 3) := by decide +kernel
theorem dX5_bestPlace_117 : decode cX5_bestPlace 117 = .ok (.aload_n 0, 1) := by decide +kernel
theorem dX5_bestPlace_118 : decode cX5_bestPlace 118 = .ok (.iload 6, 2) := by decide +kernel
theorem dX5_bestPlace_120 : decode cX5_bestPlace 120 = .ok (.invokevirtual 88, 3) := by decide +kernel
theorem dX5_bestPlace_123 : decode cX5_bestPlace 123 = .ok (.iinc 5 1, 3) := by decide +kernel
theorem dX5_bestPlace_126 : decode cX5_bestPlace 126 = .ok (.goto (-108), 3) := by decide +kernel
theorem dX5_bestPlace_129 : decode cX5_bestPlace 129 = .ok (.iload_n 3, 1) := by decide +kernel
theorem dX5_bestPlace_130 : decode cX5_bestPlace 130 = .ok (.ireturn, 1) := by decide +kernel
theorem dX5_marketOf_0 : decode cX5_marketOf 0 = .ok (.aload_n 0, 1) := by decide +kernel
theorem dX5_marketOf_1 : decode cX5_marketOf 1 = .ok (.aload_n 0, 1) := by decide +kernel
theorem dX5_marketOf_2 : decode cX5_marketOf 2 = .ok (.getfield 30, 3) := by decide +kernel
theorem dX5_marketOf_5 : decode cX5_marketOf 5 = .ok (.getfield 97, 3) := by decide +kernel
theorem dX5_marketOf_8 : decode cX5_marketOf 8 = .ok (.iload_n 1, 1) := by decide +kernel
theorem dX5_marketOf_9 : decode cX5_marketOf 9 = .ok (.iaload, 1) := by decide +kernel
theorem dX5_marketOf_10 : decode cX5_marketOf 10 = .ok (.invokevirtual 100, 3) := by decide +kernel
theorem dX5_marketOf_13 : decode cX5_marketOf 13 = .ok (.aload_n 0, 1) := by decide +kernel
theorem dX5_marketOf_14 : decode cX5_marketOf 14 = .ok (.aload_n 0, 1) := by decide +kernel
theorem dX5_marketOf_15 : decode cX5_marketOf 15 = .ok (.getfield 30, 3) := by decide +kernel
theorem dX5_marketOf_18 : decode cX5_marketOf 18 = .ok (.getfield 103, 3) := by decide +kernel
theorem dX5_marketOf_21 : decode cX5_marketOf 21 = .ok (.iload_n 1, 1) := by decide +kernel
theorem dX5_marketOf_22 : decode cX5_marketOf 22 = .ok (.iaload, 1) := by decide +kernel
theorem dX5_marketOf_23 : decode cX5_marketOf 23 = .ok (.aload_n 0, 1) := by decide +kernel
theorem dX5_marketOf_24 : decode cX5_marketOf 24 = .ok (.getfield 30, 3) := by decide +kernel
theorem dX5_marketOf_27 : decode cX5_marketOf 27 = .ok (.getfield 106, 3) := by decide +kernel
theorem dX5_marketOf_30 : decode cX5_marketOf 30 = .ok (.iload_n 1, 1) := by decide +kernel
theorem dX5_marketOf_31 : decode cX5_marketOf 31 = .ok (.iaload, 1) := by decide +kernel
theorem dX5_marketOf_32 : decode cX5_marketOf 32 = .ok (.invokevirtual 109, 3) := by decide +kernel
theorem dX5_marketOf_35 : decode cX5_marketOf 35 = .ok (.ireturn, 1) := by decide +kernel
theorem dX5_start_0 : decode cX5_start 0 = .ok (.aload_n 0, 1) := by decide +kernel
theorem dX5_start_1 : decode cX5_start 1 = .ok (.getfield 21, 3) := by decide +kernel
theorem dX5_start_4 : decode cX5_start 4 = .ok (.ldc 112, 2) := by decide +kernel
theorem dX5_start_6 : decode cX5_start 6 = .ok (.invokestatic 60, 3) := by decide +kernel
theorem dX5_start_9 : decode cX5_start 9 = .ok (.aload_n 0, 1) := by decide +kernel
theorem dX5_start_10 : decode cX5_start 10 = .ok (.iconst 0, 1) := by decide +kernel
theorem dX5_start_11 : decode cX5_start 11 = .ok (.putfield 113, 3) := by decide +kernel
theorem dX5_start_14 : decode cX5_start 14 = .ok (.iconst 0, 1) := by decide +kernel
theorem dX5_start_15 : decode cX5_start 15 = .ok (.istore_n 2, 1) := by decide +kernel
theorem dX5_start_16 : decode cX5_start 16 = .ok (.iload_n 2, 1) := by decide +kernel
theorem dX5_start_17 : decode cX5_start 17 = .ok (.aload_n 0, 1) := by decide +kernel
theorem dX5_start_18 : decode cX5_start 18 = .ok (.getfield 46, 3) := by decide +kernel
theorem dX5_start_21 : decode cX5_start 21 = .ok (.if_icmp .ge 34, 3) := by decide +kernel
theorem dX5_start_24 : decode cX5_start 24 = .ok (.aload_n 0, 1) := by decide +kernel
theorem dX5_start_25 : decode cX5_start 25 = .ok (.getfield 18, 3) := by decide +kernel
theorem dX5_start_28 : decode cX5_start 28 = .ok (.iload_n 2, 1) := by decide +kernel
theorem dX5_start_29 : decode cX5_start 29 = .ok (.iaload, 1) := by decide +kernel
theorem dX5_start_30 : decode cX5_start 30 = .ok (.aload_n 0, 1) := by decide +kernel
theorem dX5_start_31 : decode cX5_start 31 = .ok (.getfield 50, 3) := by decide +kernel
theorem dX5_start_34 : decode cX5_start 34 = .ok (.if_icmp .gt 15, 3) := by decide +kernel
theorem dX5_start_37 : decode cX5_start 37 = .ok (.aload_n 0, 1) := by decide +kernel
theorem dX5_start_38 : decode cX5_start 38 = .ok (.dup, 1) := by decide +kernel
theorem dX5_start_39 : decode cX5_start 39 = .ok (.getfield 113, 3) := by decide +kernel
theorem dX5_start_42 : decode cX5_start 42 = .ok (.iconst 1, 1) := by decide +kernel
theorem dX5_start_43 : decode cX5_start 43 = .ok (.iload_n 2, 1) := by decide +kernel
theorem dX5_start_44 : decode cX5_start 44 = .ok (.ishl, 1) := by decide +kernel
theorem dX5_start_45 : decode cX5_start 45 = .ok (.ior, 1) := by decide +kernel
theorem dX5_start_46 : decode cX5_start 46 = .ok (.putfield 113, 3) := by decide +kernel
theorem dX5_start_49 : decode cX5_start 49 = .ok (.iinc 2 1, 3) := by decide +kernel
theorem dX5_start_52 : decode cX5_start 52 = .ok (.goto (-36), 3) := by decide +kernel
theorem dX5_start_55 : decode cX5_start 55 = .ok (.aload_n 0, 1) := by decide +kernel
theorem dX5_start_56 : decode cX5_start 56 = .ok (.getfield 18, 3) := by decide +kernel
theorem dX5_start_59 : decode cX5_start 59 = .ok (.iload_n 1, 1) := by decide +kernel
theorem dX5_start_60 : decode cX5_start 60 = .ok (.iaload, 1) := by decide +kernel
theorem dX5_start_61 : decode cX5_start 61 = .ok (.aload_n 0, 1) := by decide +kernel
theorem dX5_start_62 : decode cX5_start 62 = .ok (.getfield 50, 3) := by decide +kernel
theorem dX5_start_65 : decode cX5_start 65 = .ok (.if_icmp .gt 10, 3) := by decide +kernel
theorem dX5_start_68 : decode cX5_start 68 = .ok (.aload_n 0, 1) := by decide +kernel
theorem dX5_start_69 : decode cX5_start 69 = .ok (.getfield 21, 3) := by decide +kernel
theorem dX5_start_72 : decode cX5_start 72 = .ok (.iload_n 1, 1) := by decide +kernel
theorem dX5_start_73 : decode cX5_start 73 = .ok (.iconst 0, 1) := by decide +kernel
theorem dX5_start_74 : decode cX5_start 74 = .ok (.iastore, 1) := by decide +kernel
theorem dX5_start_75 : decode cX5_start 75 = .ok (.return_, 1) := by decide +kernel
theorem dX5_heaviestOpen_0 : decode cX5_heaviestOpen 0 = .ok (.iconst 0, 1) := by decide +kernel
theorem dX5_heaviestOpen_1 : decode cX5_heaviestOpen 1 = .ok (.istore_n 1, 1) := by decide +kernel
theorem dX5_heaviestOpen_2 : decode cX5_heaviestOpen 2 = .ok (.iconst 0, 1) := by decide +kernel
theorem dX5_heaviestOpen_3 : decode cX5_heaviestOpen 3 = .ok (.istore_n 2, 1) := by decide +kernel
theorem dX5_heaviestOpen_4 : decode cX5_heaviestOpen 4 = .ok (.iload_n 2, 1) := by decide +kernel
theorem dX5_heaviestOpen_5 : decode cX5_heaviestOpen 5 = .ok (.aload_n 0, 1) := by decide +kernel
theorem dX5_heaviestOpen_6 : decode cX5_heaviestOpen 6 = .ok (.getfield 46, 3) := by decide +kernel
theorem dX5_heaviestOpen_9 : decode cX5_heaviestOpen 9 = .ok (.if_icmp .ge 39, 3) := by decide +kernel
theorem dX5_heaviestOpen_12 : decode cX5_heaviestOpen 12 = .ok (.aload_n 0, 1) := by decide +kernel
theorem dX5_heaviestOpen_13 : decode cX5_heaviestOpen 13 = .ok (.getfield 18, 3) := by decide +kernel
theorem dX5_heaviestOpen_16 : decode cX5_heaviestOpen 16 = .ok (.iload_n 2, 1) := by decide +kernel
theorem dX5_heaviestOpen_17 : decode cX5_heaviestOpen 17 = .ok (.iaload, 1) := by decide +kernel
theorem dX5_heaviestOpen_18 : decode cX5_heaviestOpen 18 = .ok (.aload_n 0, 1) := by decide +kernel
theorem dX5_heaviestOpen_19 : decode cX5_heaviestOpen 19 = .ok (.getfield 50, 3) := by decide +kernel
theorem dX5_heaviestOpen_22 : decode cX5_heaviestOpen 22 = .ok (.if_icmp .gt 20, 3) := by decide +kernel
theorem dX5_heaviestOpen_25 : decode cX5_heaviestOpen 25 = .ok (.aload_n 0, 1) := by decide +kernel
theorem dX5_heaviestOpen_26 : decode cX5_heaviestOpen 26 = .ok (.getfield 18, 3) := by decide +kernel
theorem dX5_heaviestOpen_29 : decode cX5_heaviestOpen 29 = .ok (.iload_n 2, 1) := by decide +kernel
theorem dX5_heaviestOpen_30 : decode cX5_heaviestOpen 30 = .ok (.iaload, 1) := by decide +kernel
theorem dX5_heaviestOpen_31 : decode cX5_heaviestOpen 31 = .ok (.iload_n 1, 1) := by decide +kernel
theorem dX5_heaviestOpen_32 : decode cX5_heaviestOpen 32 = .ok (.if_icmp .le 10, 3) := by decide +kernel
theorem dX5_heaviestOpen_35 : decode cX5_heaviestOpen 35 = .ok (.aload_n 0, 1) := by decide +kernel
theorem dX5_heaviestOpen_36 : decode cX5_heaviestOpen 36 = .ok (.getfield 18, 3) := by decide +kernel
theorem dX5_heaviestOpen_39 : decode cX5_heaviestOpen 39 = .ok (.iload_n 2, 1) := by decide +kernel
theorem dX5_heaviestOpen_40 : decode cX5_heaviestOpen 40 = .ok (.iaload, 1) := by decide +kernel
theorem dX5_heaviestOpen_41 : decode cX5_heaviestOpen 41 = .ok (.istore_n 1, 1) := by decide +kernel
theorem dX5_heaviestOpen_42 : decode cX5_heaviestOpen 42 = .ok (.iinc 2 1, 3) := by decide +kernel
theorem dX5_heaviestOpen_45 : decode cX5_heaviestOpen 45 = .ok (.goto (-41), 3) := by decide +kernel
theorem dX5_heaviestOpen_48 : decode cX5_heaviestOpen 48 = .ok (.iload_n 1, 1) := by decide +kernel
theorem dX5_heaviestOpen_49 : decode cX5_heaviestOpen 49 = .ok (.ireturn, 1) := by decide +kernel
theorem dX5_nearest_0 : decode cX5_nearest 0 = .ok (.iconst (-1), 1) := by decide +kernel
theorem dX5_nearest_1 : decode cX5_nearest 1 = .ok (.istore_n 1, 1) := by decide +kernel
theorem dX5_nearest_2 : decode cX5_nearest 2 = .ok (.ldc 112, 2) := by decide +kernel
theorem dX5_nearest_4 : decode cX5_nearest 4 = .ok (.istore_n 2, 1) := by decide +kernel
theorem dX5_nearest_5 : decode cX5_nearest 5 = .ok (.iconst 0, 1) := by decide +kernel
theorem dX5_nearest_6 : decode cX5_nearest 6 = .ok (.istore_n 3, 1) := by decide +kernel
theorem dX5_nearest_7 : decode cX5_nearest 7 = .ok (.iload_n 3, 1) := by decide +kernel
theorem dX5_nearest_8 : decode cX5_nearest 8 = .ok (.aload_n 0, 1) := by decide +kernel
theorem dX5_nearest_9 : decode cX5_nearest 9 = .ok (.getfield 46, 3) := by decide +kernel
theorem dX5_nearest_12 : decode cX5_nearest 12 = .ok (.if_icmp .ge 39, 3) := by decide +kernel
theorem dX5_nearest_15 : decode cX5_nearest 15 = .ok (.aload_n 0, 1) := by decide +kernel
theorem dX5_nearest_16 : decode cX5_nearest 16 = .ok (.getfield 113, 3) := by decide +kernel
theorem dX5_nearest_19 : decode cX5_nearest 19 = .ok (.iload_n 3, 1) := by decide +kernel
theorem dX5_nearest_20 : decode cX5_nearest 20 = .ok (.ishr, 1) := by decide +kernel
theorem dX5_nearest_21 : decode cX5_nearest 21 = .ok (.iconst 1, 1) := by decide +kernel
theorem dX5_nearest_22 : decode cX5_nearest 22 = .ok (.iand, 1) := by decide +kernel
theorem dX5_nearest_23 : decode cX5_nearest 23 = .ok (.ifCond .eq 22, 3) := by decide +kernel
theorem dX5_nearest_26 : decode cX5_nearest 26 = .ok (.aload_n 0, 1) := by decide +kernel
theorem dX5_nearest_27 : decode cX5_nearest 27 = .ok (.getfield 21, 3) := by decide +kernel
theorem dX5_nearest_30 : decode cX5_nearest 30 = .ok (.iload_n 3, 1) := by decide +kernel
theorem dX5_nearest_31 : decode cX5_nearest 31 = .ok (.iaload, 1) := by decide +kernel
theorem dX5_nearest_32 : decode cX5_nearest 32 = .ok (.iload_n 2, 1) := by decide +kernel
theorem dX5_nearest_33 : decode cX5_nearest 33 = .ok (.if_icmp .ge 12, 3) := by decide +kernel
theorem dX5_nearest_36 : decode cX5_nearest 36 = .ok (.iload_n 3, 1) := by decide +kernel
theorem dX5_nearest_37 : decode cX5_nearest 37 = .ok (.istore_n 1, 1) := by decide +kernel
theorem dX5_nearest_38 : decode cX5_nearest 38 = .ok (.aload_n 0, 1) := by decide +kernel
theorem dX5_nearest_39 : decode cX5_nearest 39 = .ok (.getfield 21, 3) := by decide +kernel
theorem dX5_nearest_42 : decode cX5_nearest 42 = .ok (.iload_n 3, 1) := by decide +kernel
theorem dX5_nearest_43 : decode cX5_nearest 43 = .ok (.iaload, 1) := by decide +kernel
theorem dX5_nearest_44 : decode cX5_nearest 44 = .ok (.istore_n 2, 1) := by decide +kernel
theorem dX5_nearest_45 : decode cX5_nearest 45 = .ok (.iinc 3 1, 3) := by decide +kernel
theorem dX5_nearest_48 : decode cX5_nearest 48 = .ok (.goto (-41), 3) := by decide +kernel
theorem dX5_nearest_51 : decode cX5_nearest 51 = .ok (.iload_n 1, 1) := by decide +kernel
theorem dX5_nearest_52 : decode cX5_nearest 52 = .ok (.ireturn, 1) := by decide +kernel
theorem dX5_leave_0 : decode cX5_leave 0 = .ok (.aload_n 0, 1) := by decide +kernel
theorem dX5_leave_1 : decode cX5_leave 1 = .ok (.dup, 1) := by decide +kernel
theorem dX5_leave_2 : decode cX5_leave 2 = .ok (.getfield 113, 3) := by decide +kernel
theorem dX5_leave_5 : decode cX5_leave 5 = .ok (.iconst 1, 1) := by decide +kernel
theorem dX5_leave_6 : decode cX5_leave 6 = .ok (.iload_n 1, 1) := by decide +kernel
theorem dX5_leave_7 : decode cX5_leave 7 = .ok (.ishl, 1) := by decide +kernel
theorem dX5_leave_8 : decode cX5_leave 8 = .ok (.iconst (-1), 1) := by decide +kernel
theorem dX5_leave_9 : decode cX5_leave 9 = .ok (.ixor, 1) := by decide +kernel
theorem dX5_leave_10 : decode cX5_leave 10 = .ok (.iand, 1) := by decide +kernel
theorem dX5_leave_11 : decode cX5_leave 11 = .ok (.putfield 113, 3) := by decide +kernel
theorem dX5_leave_14 : decode cX5_leave 14 = .ok (.iconst 0, 1) := by decide +kernel
theorem dX5_leave_15 : decode cX5_leave 15 = .ok (.istore_n 2, 1) := by decide +kernel
theorem dX5_leave_16 : decode cX5_leave 16 = .ok (.iload_n 2, 1) := by decide +kernel
theorem dX5_leave_17 : decode cX5_leave 17 = .ok (.aload_n 0, 1) := by decide +kernel
theorem dX5_leave_18 : decode cX5_leave 18 = .ok (.getfield 46, 3) := by decide +kernel
theorem dX5_leave_21 : decode cX5_leave 21 = .ok (.if_icmp .ge 66, 3) := by decide +kernel
theorem dX5_leave_24 : decode cX5_leave 24 = .ok (.aload_n 0, 1) := by decide +kernel
theorem dX5_leave_25 : decode cX5_leave 25 = .ok (.getfield 113, 3) := by decide +kernel
theorem dX5_leave_28 : decode cX5_leave 28 = .ok (.iload_n 2, 1) := by decide +kernel
theorem dX5_leave_29 : decode cX5_leave 29 = .ok (.ishr, 1) := by decide +kernel
theorem dX5_leave_30 : decode cX5_leave 30 = .ok (.iconst 1, 1) := by decide +kernel
theorem dX5_leave_31 : decode cX5_leave 31 = .ok (.iand, 1) := by decide +kernel
theorem dX5_leave_32 : decode cX5_leave 32 = .ok (.ifCond .eq 49, 3) := by decide +kernel
theorem dX5_leave_35 : decode cX5_leave 35 = .ok (.aload_n 0, 1) := by decide +kernel
theorem dX5_leave_36 : decode cX5_leave 36 = .ok (.getfield 11, 3) := by decide +kernel
theorem dX5_leave_39 : decode cX5_leave 39 = .ok (.iload_n 1, 1) := by decide +kernel
theorem dX5_leave_40 : decode cX5_leave 40 = .ok (.bipush 8, 2) := by decide +kernel
theorem dX5_leave_42 : decode cX5_leave 42 = .ok (.imul, 1) := by decide +kernel
theorem dX5_leave_43 : decode cX5_leave 43 = .ok (.iload_n 2, 1) := by decide +kernel
theorem dX5_leave_44 : decode cX5_leave 44 = .ok (.iadd, 1) := by decide +kernel
theorem dX5_leave_45 : decode cX5_leave 45 = .ok (.iaload, 1) := by decide +kernel
theorem dX5_leave_46 : decode cX5_leave 46 = .ok (.iconst (-1), 1) := by decide +kernel
theorem dX5_leave_47 : decode cX5_leave 47 = .ok (.if_icmp .eq 34, 3) := by decide +kernel
theorem dX5_leave_50 : decode cX5_leave 50 = .ok (.aload_n 0, 1) := by decide +kernel
theorem dX5_leave_51 : decode cX5_leave 51 = .ok (.getfield 21, 3) := by decide +kernel
theorem dX5_leave_54 : decode cX5_leave 54 = .ok (.iload_n 1, 1) := by decide +kernel
theorem dX5_leave_55 : decode cX5_leave 55 = .ok (.iaload, 1) := by decide +kernel
theorem dX5_leave_56 : decode cX5_leave 56 = .ok (.aload_n 0, 1) := by decide +kernel
theorem dX5_leave_57 : decode cX5_leave 57 = .ok (.iload_n 1, 1) := by decide +kernel
theorem dX5_leave_58 : decode cX5_leave 58 = .ok (.iload_n 2, 1) := by decide +kernel
theorem dX5_leave_59 : decode cX5_leave 59 = .ok (.invokevirtual 116, 3) := by decide +kernel
theorem dX5_leave_62 : decode cX5_leave 62 = .ok (.iadd, 1) := by decide +kernel
theorem dX5_leave_63 : decode cX5_leave 63 = .ok (.istore_n 3, 1) := by decide +kernel
theorem dX5_leave_64 : decode cX5_leave 64 = .ok (.iload_n 3, 1) := by decide +kernel
theorem dX5_leave_65 : decode cX5_leave 65 = .ok (.aload_n 0, 1) := by decide +kernel
theorem dX5_leave_66 : decode cX5_leave 66 = .ok (.getfield 21, 3) := by decide +kernel
theorem dX5_leave_69 : decode cX5_leave 69 = .ok (.iload_n 2, 1) := by decide +kernel
theorem dX5_leave_70 : decode cX5_leave 70 = .ok (.iaload, 1) := by decide +kernel
theorem dX5_leave_71 : decode cX5_leave 71 = .ok (.if_icmp .ge 10, 3) := by decide +kernel
theorem dX5_leave_74 : decode cX5_leave 74 = .ok (.aload_n 0, 1) := by decide +kernel
theorem dX5_leave_75 : decode cX5_leave 75 = .ok (.getfield 21, 3) := by decide +kernel
theorem dX5_leave_78 : decode cX5_leave 78 = .ok (.iload_n 2, 1) := by decide +kernel
theorem dX5_leave_79 : decode cX5_leave 79 = .ok (.iload_n 3, 1) := by decide +kernel
theorem dX5_leave_80 : decode cX5_leave 80 = .ok (.iastore, 1) := by decide +kernel
theorem dX5_leave_81 : decode cX5_leave 81 = .ok (.iinc 2 1, 3) := by decide +kernel
theorem dX5_leave_84 : decode cX5_leave 84 = .ok (.goto (-68), 3) := by decide +kernel
theorem dX5_leave_87 : decode cX5_leave 87 = .ok (.return_, 1) := by decide +kernel
theorem dX5_roadCost_0 : decode cX5_roadCost 0 = .ok (.aload_n 0, 1) := by decide +kernel
theorem dX5_roadCost_1 : decode cX5_roadCost 1 = .ok (.getfield 57, 3) := by decide +kernel
theorem dX5_roadCost_4 : decode cX5_roadCost 4 = .ok (.iload_n 1, 1) := by decide +kernel
theorem dX5_roadCost_5 : decode cX5_roadCost 5 = .ok (.ishr, 1) := by decide +kernel
theorem dX5_roadCost_6 : decode cX5_roadCost 6 = .ok (.aload_n 0, 1) := by decide +kernel
theorem dX5_roadCost_7 : decode cX5_roadCost 7 = .ok (.getfield 57, 3) := by decide +kernel
theorem dX5_roadCost_10 : decode cX5_roadCost 10 = .ok (.iload_n 2, 1) := by decide +kernel
theorem dX5_roadCost_11 : decode cX5_roadCost 11 = .ok (.ishr, 1) := by decide +kernel
theorem dX5_roadCost_12 : decode cX5_roadCost 12 = .ok (.iand, 1) := by decide +kernel
theorem dX5_roadCost_13 : decode cX5_roadCost 13 = .ok (.iconst 1, 1) := by decide +kernel
theorem dX5_roadCost_14 : decode cX5_roadCost 14 = .ok (.iand, 1) := by decide +kernel
theorem dX5_roadCost_15 : decode cX5_roadCost 15 = .ok (.ifCond .eq 7, 3) := by decide +kernel
theorem dX5_roadCost_18 : decode cX5_roadCost 18 = .ok (.iconst 1, 1) := by decide +kernel
theorem dX5_roadCost_19 : decode cX5_roadCost 19 = .ok (.goto 4, 3) := by decide +kernel
theorem dX5_roadCost_22 : decode cX5_roadCost 22 = .ok (.iconst 0, 1) := by decide +kernel
theorem dX5_roadCost_23 : decode cX5_roadCost 23 = .ok (.istore_n 3, 1) := by decide +kernel
theorem dX5_roadCost_24 : decode cX5_roadCost 24 = .ok (.iload_n 3, 1) := by decide +kernel
theorem dX5_roadCost_25 : decode cX5_roadCost 25 = .ok (.ifCond .eq 10, 3) := by decide +kernel
theorem dX5_roadCost_28 : decode cX5_roadCost 28 = .ok (.aload_n 0, 1) := by decide +kernel
theorem dX5_roadCost_29 : decode cX5_roadCost 29 = .ok (.getfield 54, 3) := by decide +kernel
theorem dX5_roadCost_32 : decode cX5_roadCost 32 = .ok (.goto 29, 3) := by decide +kernel
theorem dX5_roadCost_35 : decode cX5_roadCost 35 = .ok (.aload_n 0, 1) := by decide +kernel
theorem dX5_roadCost_36 : decode cX5_roadCost 36 = .ok (.getfield 54, 3) := by decide +kernel
theorem dX5_roadCost_39 : decode cX5_roadCost 39 = .ok (.aload_n 0, 1) := by decide +kernel
theorem dX5_roadCost_40 : decode cX5_roadCost 40 = .ok (.getfield 11, 3) := by decide +kernel
theorem dX5_roadCost_43 : decode cX5_roadCost 43 = .ok (.iload_n 1, 1) := by decide +kernel
theorem dX5_roadCost_44 : decode cX5_roadCost 44 = .ok (.bipush 8, 2) := by decide +kernel
theorem dX5_roadCost_46 : decode cX5_roadCost 46 = .ok (.imul, 1) := by decide +kernel
theorem dX5_roadCost_47 : decode cX5_roadCost 47 = .ok (.iload_n 2, 1) := by decide +kernel
theorem dX5_roadCost_48 : decode cX5_roadCost 48 = .ok (.iadd, 1) := by decide +kernel
theorem dX5_roadCost_49 : decode cX5_roadCost 49 = .ok (.iaload, 1) := by decide +kernel
theorem dX5_roadCost_50 : decode cX5_roadCost 50 = .ok (.aload_n 0, 1) := by decide +kernel
theorem dX5_roadCost_51 : decode cX5_roadCost 51 = .ok (.getfield 18, 3) := by decide +kernel
theorem dX5_roadCost_54 : decode cX5_roadCost 54 = .ok (.iload_n 1, 1) := by decide +kernel
theorem dX5_roadCost_55 : decode cX5_roadCost 55 = .ok (.iaload, 1) := by decide +kernel
theorem dX5_roadCost_56 : decode cX5_roadCost 56 = .ok (.imul, 1) := by decide +kernel
theorem dX5_roadCost_57 : decode cX5_roadCost 57 = .ok (.bipush 10, 2) := by decide +kernel
theorem dX5_roadCost_59 : decode cX5_roadCost 59 = .ok (.idiv, 1) := by decide +kernel
theorem dX5_roadCost_60 : decode cX5_roadCost 60 = .ok (.iadd, 1) := by decide +kernel
theorem dX5_roadCost_61 : decode cX5_roadCost 61 = .ok (.ireturn, 1) := by decide +kernel
theorem dX5_leads_0 : decode cX5_leads 0 = .ok (.iload_n 1, 1) := by decide +kernel
theorem dX5_leads_1 : decode cX5_leads 1 = .ok (.iload_n 2, 1) := by decide +kernel
theorem dX5_leads_2 : decode cX5_leads 2 = .ok (.if_icmp .eq 23, 3) := by decide +kernel
theorem dX5_leads_5 : decode cX5_leads 5 = .ok (.aload_n 0, 1) := by decide +kernel
theorem dX5_leads_6 : decode cX5_leads 6 = .ok (.getfield 15, 3) := by decide +kernel
theorem dX5_leads_9 : decode cX5_leads 9 = .ok (.iload_n 1, 1) := by decide +kernel
theorem dX5_leads_10 : decode cX5_leads 10 = .ok (.bipush 8, 2) := by decide +kernel
theorem dX5_leads_12 : decode cX5_leads 12 = .ok (.imul, 1) := by decide +kernel
theorem dX5_leads_13 : decode cX5_leads 13 = .ok (.iload_n 2, 1) := by decide +kernel
theorem dX5_leads_14 : decode cX5_leads 14 = .ok (.iadd, 1) := by decide +kernel
theorem dX5_leads_15 : decode cX5_leads 15 = .ok (.iaload, 1) := by decide +kernel
theorem dX5_leads_16 : decode cX5_leads 16 = .ok (.ldc 112, 2) := by decide +kernel
theorem dX5_leads_18 : decode cX5_leads 18 = .ok (.if_icmp .ge 7, 3) := by decide +kernel
theorem dX5_leads_21 : decode cX5_leads 21 = .ok (.iconst 1, 1) := by decide +kernel
theorem dX5_leads_22 : decode cX5_leads 22 = .ok (.goto 4, 3) := by decide +kernel
theorem dX5_leads_25 : decode cX5_leads 25 = .ok (.iconst 0, 1) := by decide +kernel
theorem dX5_leads_26 : decode cX5_leads 26 = .ok (.ireturn, 1) := by decide +kernel
theorem dX5_spreadAll_0 : decode cX5_spreadAll 0 = .ok (.iconst 0, 1) := by decide +kernel
theorem dX5_spreadAll_1 : decode cX5_spreadAll 1 = .ok (.istore_n 1, 1) := by decide +kernel
theorem dX5_spreadAll_2 : decode cX5_spreadAll 2 = .ok (.iload_n 1, 1) := by decide +kernel
theorem dX5_spreadAll_3 : decode cX5_spreadAll 3 = .ok (.aload_n 0, 1) := by decide +kernel
theorem dX5_spreadAll_4 : decode cX5_spreadAll 4 = .ok (.getfield 46, 3) := by decide +kernel
theorem dX5_spreadAll_7 : decode cX5_spreadAll 7 = .ok (.if_icmp .ge 32, 3) := by decide +kernel
theorem dX5_spreadAll_10 : decode cX5_spreadAll 10 = .ok (.aload_n 0, 1) := by decide +kernel
theorem dX5_spreadAll_11 : decode cX5_spreadAll 11 = .ok (.iload_n 1, 1) := by decide +kernel
theorem dX5_spreadAll_12 : decode cX5_spreadAll 12 = .ok (.invokevirtual 119, 3) := by decide +kernel
theorem dX5_spreadAll_15 : decode cX5_spreadAll 15 = .ok (.aload_n 0, 1) := by decide +kernel
theorem dX5_spreadAll_16 : decode cX5_spreadAll 16 = .ok (.getfield 21, 3) := by decide +kernel
theorem dX5_spreadAll_19 : decode cX5_spreadAll 19 = .ok (.iconst 0, 1) := by decide +kernel
theorem dX5_spreadAll_20 : decode cX5_spreadAll 20 = .ok (.aload_n 0, 1) := by decide +kernel
theorem dX5_spreadAll_21 : decode cX5_spreadAll 21 = .ok (.getfield 15, 3) := by decide +kernel
theorem dX5_spreadAll_24 : decode cX5_spreadAll 24 = .ok (.iload_n 1, 1) := by decide +kernel
theorem dX5_spreadAll_25 : decode cX5_spreadAll 25 = .ok (.bipush 8, 2) := by decide +kernel
theorem dX5_spreadAll_27 : decode cX5_spreadAll 27 = .ok (.imul, 1) := by decide +kernel
theorem dX5_spreadAll_28 : decode cX5_spreadAll 28 = .ok (.bipush 8, 2) := by decide +kernel
theorem dX5_spreadAll_30 : decode cX5_spreadAll 30 = .ok (.invokestatic 122, 3) := by decide +kernel
theorem dX5_spreadAll_33 : decode cX5_spreadAll 33 = .ok (.iinc 1 1, 3) := by decide +kernel
theorem dX5_spreadAll_36 : decode cX5_spreadAll 36 = .ok (.goto (-34), 3) := by decide +kernel
theorem dX5_spreadAll_39 : decode cX5_spreadAll 39 = .ok (.return_, 1) := by decide +kernel
theorem dX5_trace_0 : decode cX5_trace 0 = .ok (.aload_n 0, 1) := by decide +kernel
theorem dX5_trace_1 : decode cX5_trace 1 = .ok (.invokevirtual 128, 3) := by decide +kernel
theorem dX5_trace_4 : decode cX5_trace 4 = .ok (.aload_n 0, 1) := by decide +kernel
theorem dX5_trace_5 : decode cX5_trace 5 = .ok (.getfield 15, 3) := by decide +kernel
theorem dX5_trace_8 : decode cX5_trace 8 = .ok (.iload_n 1, 1) := by decide +kernel
theorem dX5_trace_9 : decode cX5_trace 9 = .ok (.bipush 8, 2) := by decide +kernel
theorem dX5_trace_11 : decode cX5_trace 11 = .ok (.imul, 1) := by decide +kernel
theorem dX5_trace_12 : decode cX5_trace 12 = .ok (.iload_n 2, 1) := by decide +kernel
theorem dX5_trace_13 : decode cX5_trace 13 = .ok (.iadd, 1) := by decide +kernel
theorem dX5_trace_14 : decode cX5_trace 14 = .ok (.iaload, 1) := by decide +kernel
theorem dX5_trace_15 : decode cX5_trace 15 = .ok (.ldc 112, 2) := by decide +kernel
theorem dX5_trace_17 : decode cX5_trace 17 = .ok (.if_icmp .lt 5, 3) := by decide +kernel
theorem dX5_trace_20 : decode cX5_trace 20 = .ok (.iconst 0, 1) := by decide +kernel
theorem dX5_trace_21 : decode cX5_trace 21 = .ok (.ireturn, 1) := by decide +kernel
theorem dX5_trace_22 : decode cX5_trace 22 = .ok (.aload_n 0, 1) := by decide +kernel
theorem dX5_trace_23 : decode cX5_trace 23 = .ok (.iload_n 2, 1) := by decide +kernel
theorem dX5_trace_24 : decode cX5_trace 24 = .ok (.invokevirtual 131, 3) := by decide +kernel
theorem dX5_trace_27 : decode cX5_trace 27 = .ok (.aload_n 0, 1) := by decide +kernel
theorem dX5_trace_28 : decode cX5_trace 28 = .ok (.getfield 27, 3) := by decide +kernel
theorem dX5_trace_31 : decode cX5_trace 31 = .ok (.iconst 0, 1) := by decide +kernel
theorem dX5_trace_32 : decode cX5_trace 32 = .ok (.iload_n 1, 1) := by decide +kernel
theorem dX5_trace_33 : decode cX5_trace 33 = .ok (.iastore, 1) := by decide +kernel
theorem dX5_trace_34 : decode cX5_trace 34 = .ok (.aload_n 0, 1) := by decide +kernel
theorem dX5_trace_35 : decode cX5_trace 35 = .ok (.iconst 1, 1) := by decide +kernel
theorem dX5_trace_36 : decode cX5_trace 36 = .ok (.putfield 134, 3) := by decide +kernel
theorem dX5_trace_39 : decode cX5_trace 39 = .ok (.iconst 1, 1) := by decide +kernel
theorem dX5_trace_40 : decode cX5_trace 40 = .ok (.aload_n 0, 1) := by decide +kernel
theorem dX5_trace_41 : decode cX5_trace 41 = .ok (.getfield 46, 3) := by decide +kernel
theorem dX5_trace_44 : decode cX5_trace 44 = .ok (.ishl, 1) := by decide +kernel
theorem dX5_trace_45 : decode cX5_trace 45 = .ok (.iconst 1, 1) := by decide +kernel
theorem dX5_trace_46 : decode cX5_trace 46 = .ok (.isub, 1) := by decide +kernel
theorem dX5_trace_47 : decode cX5_trace 47 = .ok (.iconst 1, 1) := by decide +kernel
theorem dX5_trace_48 : decode cX5_trace 48 = .ok (.iload_n 1, 1) := by decide +kernel
theorem dX5_trace_49 : decode cX5_trace 49 = .ok (.ishl, 1) := by decide +kernel
theorem dX5_trace_50 : decode cX5_trace 50 = .ok (.iconst (-1), 1) := by decide +kernel
theorem dX5_trace_51 : decode cX5_trace 51 = .ok (.ixor, 1) := by decide +kernel
theorem dX5_trace_52 : decode cX5_trace 52 = .ok (.iand, 1) := by decide +kernel
theorem dX5_trace_53 : decode cX5_trace 53 = .ok (.istore_n 3, 1) := by decide +kernel
theorem dX5_trace_54 : decode cX5_trace 54 = .ok (.iload_n 1, 1) := by decide +kernel
theorem dX5_trace_55 : decode cX5_trace 55 = .ok (.istore 4, 2) := by decide +kernel
theorem dX5_trace_57 : decode cX5_trace 57 = .ok (.iconst 1, 1) := by decide +kernel
theorem dX5_trace_58 : decode cX5_trace 58 = .ok (.istore 5, 2) := by decide +kernel
theorem dX5_trace_60 : decode cX5_trace 60 = .ok (.iload 5, 2) := by decide +kernel
theorem dX5_trace_62 : decode cX5_trace 62 = .ok (.aload_n 0, 1) := by decide +kernel
theorem dX5_trace_63 : decode cX5_trace 63 = .ok (.getfield 46, 3) := by decide +kernel
theorem dX5_trace_66 : decode cX5_trace 66 = .ok (.if_icmp .ge 58, 3) := by decide +kernel
theorem dX5_trace_69 : decode cX5_trace 69 = .ok (.iload 4, 2) := by decide +kernel
theorem dX5_trace_71 : decode cX5_trace 71 = .ok (.iload_n 2, 1) := by decide +kernel
theorem dX5_trace_72 : decode cX5_trace 72 = .ok (.if_icmp .eq 52, 3) := by decide +kernel
theorem dX5_trace_75 : decode cX5_trace 75 = .ok (.aload_n 0, 1) := by decide +kernel
theorem dX5_trace_76 : decode cX5_trace 76 = .ok (.iload 4, 2) := by decide +kernel
theorem dX5_trace_78 : decode cX5_trace 78 = .ok (.iload_n 2, 1) := by decide +kernel
theorem dX5_trace_79 : decode cX5_trace 79 = .ok (.iload_n 3, 1) := by decide +kernel
theorem dX5_trace_80 : decode cX5_trace 80 = .ok (.invokevirtual 137, 3) := by decide +kernel
theorem dX5_trace_83 : decode cX5_trace 83 = .ok (.istore 4, 2) := by decide +kernel
theorem dX5_trace_85 : decode cX5_trace 85 = .ok (.iload 4, 2) := by decide +kernel
theorem dX5_trace_87 : decode cX5_trace 87 = .ok (.ifCond .ge 5, 3) := by decide +kernel
theorem dX5_trace_90 : decode cX5_trace 90 = .ok (.iconst 0, 1) := by decide +kernel
theorem dX5_trace_91 : decode cX5_trace 91 = .ok (.ireturn, 1) := by decide +kernel
theorem dX5_trace_92 : decode cX5_trace 92 = .ok (.iload_n 3, 1) := by decide +kernel
theorem dX5_trace_93 : decode cX5_trace 93 = .ok (.iconst 1, 1) := by decide +kernel
theorem dX5_trace_94 : decode cX5_trace 94 = .ok (.iload 4, 2) := by decide +kernel
theorem dX5_trace_96 : decode cX5_trace 96 = .ok (.ishl, 1) := by decide +kernel
theorem dX5_trace_97 : decode cX5_trace 97 = .ok (.iconst (-1), 1) := by decide +kernel
theorem dX5_trace_98 : decode cX5_trace 98 = .ok (.ixor, 1) := by decide +kernel
theorem dX5_trace_99 : decode cX5_trace 99 = .ok (.iand, 1) := by decide +kernel
theorem dX5_trace_100 : decode cX5_trace 100 = .ok (.istore_n 3, 1) := by decide +kernel
theorem dX5_trace_101 : decode cX5_trace 101 = .ok (.aload_n 0, 1) := by decide +kernel
theorem dX5_trace_102 : decode cX5_trace 102 = .ok (.getfield 27, 3) := by decide +kernel
theorem dX5_trace_105 : decode cX5_trace 105 = .ok (.iload 5, 2) := by decide +kernel
theorem dX5_trace_107 : decode cX5_trace 107 = .ok (.iload 4, 2) := by decide +kernel
theorem dX5_trace_109 : decode cX5_trace 109 = .ok (.iastore, 1) := by decide +kernel
theorem dX5_trace_110 : decode cX5_trace 110 = .ok (.aload_n 0, 1) := by decide +kernel
theorem dX5_trace_111 : decode cX5_trace 111 = .ok (.iload 5, 2) := by decide +kernel
theorem dX5_trace_113 : decode cX5_trace 113 = .ok (.iconst 1, 1) := by decide +kernel
theorem dX5_trace_114 : decode cX5_trace 114 = .ok (.iadd, 1) := by decide +kernel
theorem dX5_trace_115 : decode cX5_trace 115 = .ok (.putfield 134, 3) := by decide +kernel
theorem dX5_trace_118 : decode cX5_trace 118 = .ok (.iinc 5 1, 3) := by decide +kernel
theorem dX5_trace_121 : decode cX5_trace 121 = .ok (.goto (-61), 3) := by decide +kernel
theorem dX5_trace_124 : decode cX5_trace 124 = .ok (.iload 4, 2) := by decide +kernel
theorem dX5_trace_126 : decode cX5_trace 126 = .ok (.iload_n 2, 1) := by decide +kernel
theorem dX5_trace_127 : decode cX5_trace 127 = .ok (.if_icmp .ne 7, 3) := by decide +kernel
theorem dX5_trace_130 : decode cX5_trace 130 = .ok (.iconst 1, 1) := by decide +kernel
theorem dX5_trace_131 : decode cX5_trace 131 = .ok (.goto 4, 3) := by decide +kernel
theorem dX5_trace_134 : decode cX5_trace 134 = .ok (.iconst 0, 1) := by decide +kernel
theorem dX5_trace_135 : decode cX5_trace 135 = .ok (.ireturn, 1) := by decide +kernel
theorem dX5_findNext_0 : decode cX5_findNext 0 = .ok (.iconst 0, 1) := by decide +kernel
theorem dX5_findNext_1 : decode cX5_findNext 1 = .ok (.istore_n 2, 1) := by decide +kernel
theorem dX5_findNext_2 : decode cX5_findNext 2 = .ok (.iload_n 2, 1) := by decide +kernel
theorem dX5_findNext_3 : decode cX5_findNext 3 = .ok (.aload_n 0, 1) := by decide +kernel
theorem dX5_findNext_4 : decode cX5_findNext 4 = .ok (.getfield 46, 3) := by decide +kernel
theorem dX5_findNext_7 : decode cX5_findNext 7 = .ok (.if_icmp .ge 105, 3) := by decide +kernel
theorem dX5_findNext_10 : decode cX5_findNext 10 = .ok (.aload_n 0, 1) := by decide +kernel
theorem dX5_findNext_11 : decode cX5_findNext 11 = .ok (.getfield 24, 3) := by decide +kernel
theorem dX5_findNext_14 : decode cX5_findNext 14 = .ok (.iload_n 2, 1) := by decide +kernel
theorem dX5_findNext_15 : decode cX5_findNext 15 = .ok (.iconst 0, 1) := by decide +kernel
theorem dX5_findNext_16 : decode cX5_findNext 16 = .ok (.iastore, 1) := by decide +kernel
theorem dX5_findNext_17 : decode cX5_findNext 17 = .ok (.aload_n 0, 1) := by decide +kernel
theorem dX5_findNext_18 : decode cX5_findNext 18 = .ok (.getfield 15, 3) := by decide +kernel
theorem dX5_findNext_21 : decode cX5_findNext 21 = .ok (.iload_n 2, 1) := by decide +kernel
theorem dX5_findNext_22 : decode cX5_findNext 22 = .ok (.bipush 8, 2) := by decide +kernel
theorem dX5_findNext_24 : decode cX5_findNext 24 = .ok (.imul, 1) := by decide +kernel
theorem dX5_findNext_25 : decode cX5_findNext 25 = .ok (.iload_n 1, 1) := by decide +kernel
theorem dX5_findNext_26 : decode cX5_findNext 26 = .ok (.iadd, 1) := by decide +kernel
theorem dX5_findNext_27 : decode cX5_findNext 27 = .ok (.iaload, 1) := by decide +kernel
theorem dX5_findNext_28 : decode cX5_findNext 28 = .ok (.istore_n 3, 1) := by decide +kernel
theorem dX5_findNext_29 : decode cX5_findNext 29 = .ok (.iconst 0, 1) := by decide +kernel
theorem dX5_findNext_30 : decode cX5_findNext 30 = .ok (.istore 4, 2) := by decide +kernel
theorem dX5_findNext_32 : decode cX5_findNext 32 = .ok (.iload 4, 2) := by decide +kernel
theorem dX5_findNext_34 : decode cX5_findNext 34 = .ok (.aload_n 0, 1) := by decide +kernel
theorem dX5_findNext_35 : decode cX5_findNext 35 = .ok (.getfield 46, 3) := by decide +kernel
theorem dX5_findNext_38 : decode cX5_findNext 38 = .ok (.if_icmp .ge 68, 3) := by decide +kernel
theorem dX5_findNext_41 : decode cX5_findNext 41 = .ok (.iload_n 3, 1) := by decide +kernel
theorem dX5_findNext_42 : decode cX5_findNext 42 = .ok (.ldc 112, 2) := by decide +kernel
theorem dX5_findNext_44 : decode cX5_findNext 44 = .ok (.if_icmp .ge 56, 3) := by decide +kernel
theorem dX5_findNext_47 : decode cX5_findNext 47 = .ok (.aload_n 0, 1) := by decide +kernel
theorem dX5_findNext_48 : decode cX5_findNext 48 = .ok (.getfield 11, 3) := by decide +kernel
theorem dX5_findNext_51 : decode cX5_findNext 51 = .ok (.iload_n 2, 1) := by decide +kernel
theorem dX5_findNext_52 : decode cX5_findNext 52 = .ok (.bipush 8, 2) := by decide +kernel
theorem dX5_findNext_54 : decode cX5_findNext 54 = .ok (.imul, 1) := by decide +kernel
theorem dX5_findNext_55 : decode cX5_findNext 55 = .ok (.iload 4, 2) := by decide +kernel
theorem dX5_findNext_57 : decode cX5_findNext 57 = .ok (.iadd, 1) := by decide +kernel
theorem dX5_findNext_58 : decode cX5_findNext 58 = .ok (.iaload, 1) := by decide +kernel
theorem dX5_findNext_59 : decode cX5_findNext 59 = .ok (.iconst (-1), 1) := by decide +kernel
theorem dX5_findNext_60 : decode cX5_findNext 60 = .ok (.if_icmp .eq 40, 3) := by decide +kernel
theorem dX5_findNext_63 : decode cX5_findNext 63 = .ok (.aload_n 0, 1) := by decide +kernel
theorem dX5_findNext_64 : decode cX5_findNext 64 = .ok (.iload_n 2, 1) := by decide +kernel
theorem dX5_findNext_65 : decode cX5_findNext 65 = .ok (.iload 4, 2) := by decide +kernel
theorem dX5_findNext_67 : decode cX5_findNext 67 = .ok (.invokevirtual 116, 3) := by decide +kernel
theorem dX5_findNext_70 : decode cX5_findNext 70 = .ok (.aload_n 0, 1) := by decide +kernel
theorem dX5_findNext_71 : decode cX5_findNext 71 = .ok (.getfield 15, 3) := by decide +kernel
theorem dX5_findNext_74 : decode cX5_findNext 74 = .ok (.iload 4, 2) := by decide +kernel
theorem dX5_findNext_76 : decode cX5_findNext 76 = .ok (.bipush 8, 2) := by decide +kernel
theorem dX5_findNext_78 : decode cX5_findNext 78 = .ok (.imul, 1) := by decide +kernel
theorem dX5_findNext_79 : decode cX5_findNext 79 = .ok (.iload_n 1, 1) := by decide +kernel
theorem dX5_findNext_80 : decode cX5_findNext 80 = .ok (.iadd, 1) := by decide +kernel
theorem dX5_findNext_81 : decode cX5_findNext 81 = .ok (.iaload, 1) := by decide +kernel
theorem dX5_findNext_82 : decode cX5_findNext 82 = .ok (.iadd, 1) := by decide +kernel
theorem dX5_findNext_83 : decode cX5_findNext 83 = .ok (.iload_n 3, 1) := by decide +kernel
theorem dX5_findNext_84 : decode cX5_findNext 84 = .ok (.if_icmp .ne 16, 3) := by decide +kernel
theorem dX5_findNext_87 : decode cX5_findNext 87 = .ok (.aload_n 0, 1) := by decide +kernel
theorem dX5_findNext_88 : decode cX5_findNext 88 = .ok (.getfield 24, 3) := by decide +kernel
theorem dX5_findNext_91 : decode cX5_findNext 91 = .ok (.iload_n 2, 1) := by decide +kernel
theorem dX5_findNext_92 : decode cX5_findNext 92 = .ok (.dup2, 1) := by decide +kernel
theorem dX5_findNext_93 : decode cX5_findNext 93 = .ok (.iaload, 1) := by decide +kernel
theorem dX5_findNext_94 : decode cX5_findNext 94 = .ok (.iconst 1, 1) := by decide +kernel
theorem dX5_findNext_95 : decode cX5_findNext 95 = .ok (.iload 4, 2) := by decide +kernel
theorem dX5_findNext_97 : decode cX5_findNext 97 = .ok (.ishl, 1) := by decide +kernel
theorem dX5_findNext_98 : decode cX5_findNext 98 = .ok (.ior, 1) := by decide +kernel
theorem dX5_findNext_99 : decode cX5_findNext 99 = .ok (.iastore, 1) := by decide +kernel
theorem dX5_findNext_100 : decode cX5_findNext 100 = .ok (.iinc 4 1, 3) := by decide +kernel
theorem dX5_findNext_103 : decode cX5_findNext 103 = .ok (.goto (-71), 3) := by decide +kernel
theorem dX5_findNext_106 : decode cX5_findNext 106 = .ok (.iinc 2 1, 3) := by decide +kernel
theorem dX5_findNext_109 : decode cX5_findNext 109 = .ok (.goto (-107), 3) := by decide +kernel
theorem dX5_findNext_112 : decode cX5_findNext 112 = .ok (.return_, 1) := by decide +kernel
theorem dX5_firstStep_0 : decode cX5_firstStep 0 = .ok (.aload_n 0, 1) := by decide +kernel
theorem dX5_firstStep_1 : decode cX5_firstStep 1 = .ok (.getfield 24, 3) := by decide +kernel
theorem dX5_firstStep_4 : decode cX5_firstStep 4 = .ok (.iload_n 1, 1) := by decide +kernel
theorem dX5_firstStep_5 : decode cX5_firstStep 5 = .ok (.iaload, 1) := by decide +kernel
theorem dX5_firstStep_6 : decode cX5_firstStep 6 = .ok (.iload_n 3, 1) := by decide +kernel
theorem dX5_firstStep_7 : decode cX5_firstStep 7 = .ok (.iand, 1) := by decide +kernel
theorem dX5_firstStep_8 : decode cX5_firstStep 8 = .ok (.istore 4, 2) := by decide +kernel
theorem dX5_firstStep_10 : decode cX5_firstStep 10 = .ok (.iconst 0, 1) := by decide +kernel
theorem dX5_firstStep_11 : decode cX5_firstStep 11 = .ok (.istore 5, 2) := by decide +kernel
theorem dX5_firstStep_13 : decode cX5_firstStep 13 = .ok (.iload 5, 2) := by decide +kernel
theorem dX5_firstStep_15 : decode cX5_firstStep 15 = .ok (.aload_n 0, 1) := by decide +kernel
theorem dX5_firstStep_16 : decode cX5_firstStep 16 = .ok (.getfield 46, 3) := by decide +kernel
theorem dX5_firstStep_19 : decode cX5_firstStep 19 = .ok (.if_icmp .ge 33, 3) := by decide +kernel
theorem dX5_firstStep_22 : decode cX5_firstStep 22 = .ok (.iload 4, 2) := by decide +kernel
theorem dX5_firstStep_24 : decode cX5_firstStep 24 = .ok (.iload 5, 2) := by decide +kernel
theorem dX5_firstStep_26 : decode cX5_firstStep 26 = .ok (.ishr, 1) := by decide +kernel
theorem dX5_firstStep_27 : decode cX5_firstStep 27 = .ok (.iconst 1, 1) := by decide +kernel
theorem dX5_firstStep_28 : decode cX5_firstStep 28 = .ok (.iand, 1) := by decide +kernel
theorem dX5_firstStep_29 : decode cX5_firstStep 29 = .ok (.ifCond .eq 17, 3) := by decide +kernel
theorem dX5_firstStep_32 : decode cX5_firstStep 32 = .ok (.aload_n 0, 1) := by decide +kernel
theorem dX5_firstStep_33 : decode cX5_firstStep 33 = .ok (.iload 5, 2) := by decide +kernel
theorem dX5_firstStep_35 : decode cX5_firstStep 35 = .ok (.iload_n 2, 1) := by decide +kernel
theorem dX5_firstStep_36 : decode cX5_firstStep 36 = .ok (.iload_n 3, 1) := by decide +kernel
theorem dX5_firstStep_37 : decode cX5_firstStep 37 = .ok (.invokevirtual 141, 3) := by decide +kernel
theorem dX5_firstStep_40 : decode cX5_firstStep 40 = .ok (.ifCond .eq 6, 3) := by decide +kernel
theorem dX5_firstStep_43 : decode cX5_firstStep 43 = .ok (.iload 5, 2) := by decide +kernel
theorem dX5_firstStep_45 : decode cX5_firstStep 45 = .ok (.ireturn, 1) := by decide +kernel
theorem dX5_firstStep_46 : decode cX5_firstStep 46 = .ok (.iinc 5 1, 3) := by decide +kernel
theorem dX5_firstStep_49 : decode cX5_firstStep 49 = .ok (.goto (-36), 3) := by decide +kernel
theorem dX5_firstStep_52 : decode cX5_firstStep 52 = .ok (.iconst (-1), 1) := by decide +kernel
theorem dX5_firstStep_53 : decode cX5_firstStep 53 = .ok (.ireturn, 1) := by decide +kernel
theorem dX5_reaches_0 : decode cX5_reaches 0 = .ok (.iconst 1, 1) := by decide +kernel
theorem dX5_reaches_1 : decode cX5_reaches 1 = .ok (.iload_n 1, 1) := by decide +kernel
theorem dX5_reaches_2 : decode cX5_reaches 2 = .ok (.ishl, 1) := by decide +kernel
theorem dX5_reaches_3 : decode cX5_reaches 3 = .ok (.istore 4, 2) := by decide +kernel
theorem dX5_reaches_5 : decode cX5_reaches 5 = .ok (.iconst 0, 1) := by decide +kernel
theorem dX5_reaches_6 : decode cX5_reaches 6 = .ok (.istore 5, 2) := by decide +kernel
theorem dX5_reaches_8 : decode cX5_reaches 8 = .ok (.iload 5, 2) := by decide +kernel
theorem dX5_reaches_10 : decode cX5_reaches 10 = .ok (.aload_n 0, 1) := by decide +kernel
theorem dX5_reaches_11 : decode cX5_reaches 11 = .ok (.getfield 46, 3) := by decide +kernel
theorem dX5_reaches_14 : decode cX5_reaches 14 = .ok (.if_icmp .ge 51, 3) := by decide +kernel
theorem dX5_reaches_17 : decode cX5_reaches 17 = .ok (.iconst 0, 1) := by decide +kernel
theorem dX5_reaches_18 : decode cX5_reaches 18 = .ok (.istore 6, 2) := by decide +kernel
theorem dX5_reaches_20 : decode cX5_reaches 20 = .ok (.iload 6, 2) := by decide +kernel
theorem dX5_reaches_22 : decode cX5_reaches 22 = .ok (.aload_n 0, 1) := by decide +kernel
theorem dX5_reaches_23 : decode cX5_reaches 23 = .ok (.getfield 46, 3) := by decide +kernel
theorem dX5_reaches_26 : decode cX5_reaches 26 = .ok (.if_icmp .ge 33, 3) := by decide +kernel
theorem dX5_reaches_29 : decode cX5_reaches 29 = .ok (.iload 4, 2) := by decide +kernel
theorem dX5_reaches_31 : decode cX5_reaches 31 = .ok (.iload 6, 2) := by decide +kernel
theorem dX5_reaches_33 : decode cX5_reaches 33 = .ok (.ishr, 1) := by decide +kernel
theorem dX5_reaches_34 : decode cX5_reaches 34 = .ok (.iconst 1, 1) := by decide +kernel
theorem dX5_reaches_35 : decode cX5_reaches 35 = .ok (.iand, 1) := by decide +kernel
theorem dX5_reaches_36 : decode cX5_reaches 36 = .ok (.ifCond .eq 17, 3) := by decide +kernel
theorem dX5_reaches_39 : decode cX5_reaches 39 = .ok (.iload 4, 2) := by decide +kernel
theorem dX5_reaches_41 : decode cX5_reaches 41 = .ok (.aload_n 0, 1) := by decide +kernel
theorem dX5_reaches_42 : decode cX5_reaches 42 = .ok (.getfield 24, 3) := by decide +kernel
theorem dX5_reaches_45 : decode cX5_reaches 45 = .ok (.iload 6, 2) := by decide +kernel
theorem dX5_reaches_47 : decode cX5_reaches 47 = .ok (.iaload, 1) := by decide +kernel
theorem dX5_reaches_48 : decode cX5_reaches 48 = .ok (.iload_n 3, 1) := by decide +kernel
theorem dX5_reaches_49 : decode cX5_reaches 49 = .ok (.iand, 1) := by decide +kernel
theorem dX5_reaches_50 : decode cX5_reaches 50 = .ok (.ior, 1) := by decide +kernel
theorem dX5_reaches_51 : decode cX5_reaches 51 = .ok (.istore 4, 2) := by decide +kernel
theorem dX5_reaches_53 : decode cX5_reaches 53 = .ok (.iinc 6 1, 3) := by decide +kernel
theorem dX5_reaches_56 : decode cX5_reaches 56 = .ok (.goto (-36), 3) := by decide +kernel
theorem dX5_reaches_59 : decode cX5_reaches 59 = .ok (.iinc 5 1, 3) := by decide +kernel
theorem dX5_reaches_62 : decode cX5_reaches 62 = .ok (.goto (-54), 3) := by decide +kernel
theorem dX5_reaches_65 : decode cX5_reaches 65 = .ok (.iload 4, 2) := by decide +kernel
theorem dX5_reaches_67 : decode cX5_reaches 67 = .ok (.iload_n 2, 1) := by decide +kernel
theorem dX5_reaches_68 : decode cX5_reaches 68 = .ok (.ishr, 1) := by decide +kernel
theorem dX5_reaches_69 : decode cX5_reaches 69 = .ok (.iconst 1, 1) := by decide +kernel
theorem dX5_reaches_70 : decode cX5_reaches 70 = .ok (.iand, 1) := by decide +kernel
theorem dX5_reaches_71 : decode cX5_reaches 71 = .ok (.ifCond .eq 7, 3) := by decide +kernel
theorem dX5_reaches_74 : decode cX5_reaches 74 = .ok (.iconst 1, 1) := by decide +kernel
theorem dX5_reaches_75 : decode cX5_reaches 75 = .ok (.goto 4, 3) := by decide +kernel
theorem dX5_reaches_78 : decode cX5_reaches 78 = .ok (.iconst 0, 1) := by decide +kernel
theorem dX5_reaches_79 : decode cX5_reaches 79 = .ok (.ireturn, 1) := by decide +kernel
theorem dX8_init_0 : decode cX8_init 0 = .ok (.aload_n 0, 1) := by decide +kernel
theorem dX8_init_1 : decode cX8_init 1 = .ok (.invokespecial 3, 3) := by decide +kernel
theorem dX8_init_4 : decode cX8_init 4 = .ok (.aload_n 0, 1) := by decide +kernel
theorem dX8_init_5 : decode cX8_init 5 = .ok (.bipush 120, 2) := by decide +kernel
theorem dX8_init_7 : decode cX8_init 7 = .ok (.newarray .char, 2) := by decide +kernel
theorem dX8_init_9 : decode cX8_init 9 = .ok (.putfield 11, 3) := by decide +kernel
theorem dX8_init_12 : decode cX8_init 12 = .ok (.aload_n 0, 1) := by decide +kernel
theorem dX8_init_13 : decode cX8_init 13 = .ok (.new 15, 3) := by decide +kernel
theorem dX8_init_16 : decode cX8_init 16 = .ok (.dup, 1) := by decide +kernel
theorem dX8_init_17 : decode cX8_init 17 = .ok (.invokespecial 17, 3) := by decide +kernel
theorem dX8_init_20 : decode cX8_init 20 = .ok (.putfield 18, 3) := by decide +kernel
theorem dX8_init_23 : decode cX8_init 23 = .ok (.return_, 1) := by decide +kernel
theorem dX8_isFull_0 : decode cX8_isFull 0 = .ok (.aload_n 0, 1) := by decide +kernel
theorem dX8_isFull_1 : decode cX8_isFull 1 = .ok (.getfield 22, 3) := by decide +kernel
theorem dX8_isFull_4 : decode cX8_isFull 4 = .ok (.bipush 120, 2) := by decide +kernel
theorem dX8_isFull_6 : decode cX8_isFull 6 = .ok (.if_icmp .lt 7, 3) := by decide +kernel
theorem dX8_isFull_9 : decode cX8_isFull 9 = .ok (.iconst 1, 1) := by decide +kernel
theorem dX8_isFull_10 : decode cX8_isFull 10 = .ok (.goto 4, 3) := by decide +kernel
theorem dX8_isFull_13 : decode cX8_isFull 13 = .ok (.iconst 0, 1) := by decide +kernel
theorem dX8_isFull_14 : decode cX8_isFull 14 = .ok (.ireturn, 1) := by decide +kernel
theorem dX8_add_0 : decode cX8_add 0 = .ok (.aload_n 0, 1) := by decide +kernel
theorem dX8_add_1 : decode cX8_add 1 = .ok (.getfield 11, 3) := by decide +kernel
theorem dX8_add_4 : decode cX8_add 4 = .ok (.aload_n 0, 1) := by decide +kernel
theorem dX8_add_5 : decode cX8_add 5 = .ok (.getfield 22, 3) := by decide +kernel
theorem dX8_add_8 : decode cX8_add 8 = .ok (.iload_n 1, 1) := by decide +kernel
theorem dX8_add_9 : decode cX8_add 9 = .ok (.i2c, 1) := by decide +kernel
theorem dX8_add_10 : decode cX8_add 10 = .ok (.castore, 1) := by decide +kernel
theorem dX8_add_11 : decode cX8_add 11 = .ok (.aload_n 0, 1) := by decide +kernel
theorem dX8_add_12 : decode cX8_add 12 = .ok (.dup, 1) := by decide +kernel
theorem dX8_add_13 : decode cX8_add 13 = .ok (.getfield 22, 3) := by decide +kernel
theorem dX8_add_16 : decode cX8_add 16 = .ok (.iconst 1, 1) := by decide +kernel
theorem dX8_add_17 : decode cX8_add 17 = .ok (.iadd, 1) := by decide +kernel
theorem dX8_add_18 : decode cX8_add 18 = .ok (.putfield 22, 3) := by decide +kernel
theorem dX8_add_21 : decode cX8_add 21 = .ok (.aload_n 0, 1) := by decide +kernel
theorem dX8_add_22 : decode cX8_add 22 = .ok (.getfield 22, 3) := by decide +kernel
theorem dX8_add_25 : decode cX8_add 25 = .ok (.ireturn, 1) := by decide +kernel
theorem dX8_clear_0 : decode cX8_clear 0 = .ok (.aload_n 0, 1) := by decide +kernel
theorem dX8_clear_1 : decode cX8_clear 1 = .ok (.iconst 0, 1) := by decide +kernel
theorem dX8_clear_2 : decode cX8_clear 2 = .ok (.putfield 22, 3) := by decide +kernel
theorem dX8_clear_5 : decode cX8_clear 5 = .ok (.return_, 1) := by decide +kernel
theorem dX8_read_0 : decode cX8_read 0 = .ok (.aload_n 0, 1) := by decide +kernel
theorem dX8_read_1 : decode cX8_read 1 = .ok (.iconst 0, 1) := by decide +kernel
theorem dX8_read_2 : decode cX8_read 2 = .ok (.putfield 26, 3) := by decide +kernel
theorem dX8_read_5 : decode cX8_read 5 = .ok (.aload_n 0, 1) := by decide +kernel
theorem dX8_read_6 : decode cX8_read 6 = .ok (.getfield 18, 3) := by decide +kernel
theorem dX8_read_9 : decode cX8_read 9 = .ok (.invokevirtual 29, 3) := by decide +kernel
theorem dX8_read_12 : decode cX8_read 12 = .ok (.aload_n 0, 1) := by decide +kernel
theorem dX8_read_13 : decode cX8_read 13 = .ok (.invokevirtual 32, 3) := by decide +kernel
theorem dX8_read_16 : decode cX8_read 16 = .ok (.ifCond .ne 5, 3) := by decide +kernel
theorem dX8_read_19 : decode cX8_read 19 = .ok (.iconst 0, 1) := by decide +kernel
theorem dX8_read_20 : decode cX8_read 20 = .ok (.ireturn, 1) := by decide +kernel
theorem dX8_read_21 : decode cX8_read 21 = .ok (.aload_n 0, 1) := by decide +kernel
theorem dX8_read_22 : decode cX8_read 22 = .ok (.bipush 59, 2) := by decide +kernel
theorem dX8_read_24 : decode cX8_read 24 = .ok (.invokevirtual 36, 3) := by decide +kernel
theorem dX8_read_27 : decode cX8_read 27 = .ok (.ifCond .eq 12, 3) := by decide +kernel
theorem dX8_read_30 : decode cX8_read 30 = .ok (.aload_n 0, 1) := by decide +kernel
theorem dX8_read_31 : decode cX8_read 31 = .ok (.invokevirtual 40, 3) := by decide +kernel
theorem dX8_read_34 : decode cX8_read 34 = .ok (.ifCond .ne 5, 3) := by decide +kernel
theorem dX8_read_37 : decode cX8_read 37 = .ok (.iconst 0, 1) := by decide +kernel
theorem dX8_read_38 : decode cX8_read 38 = .ok (.ireturn, 1) := by decide +kernel
theorem dX8_read_39 : decode cX8_read 39 = .ok (.aload_n 0, 1) := by decide +kernel
theorem dX8_read_40 : decode cX8_read 40 = .ok (.invokevirtual 43, 3) := by decide +kernel
theorem dX8_read_43 : decode cX8_read 43 = .ok (.aload_n 0, 1) := by decide +kernel
theorem dX8_read_44 : decode cX8_read 44 = .ok (.getfield 26, 3) := by decide +kernel
theorem dX8_read_47 : decode cX8_read 47 = .ok (.aload_n 0, 1) := by decide +kernel
theorem dX8_read_48 : decode cX8_read 48 = .ok (.getfield 22, 3) := by decide +kernel
theorem dX8_read_51 : decode cX8_read 51 = .ok (.if_icmp .lt 7, 3) := by decide +kernel
theorem dX8_read_54 : decode cX8_read 54 = .ok (.iconst 1, 1) := by decide +kernel
theorem dX8_read_55 : decode cX8_read 55 = .ok (.goto 4, 3) := by decide +kernel
theorem dX8_read_58 : decode cX8_read 58 = .ok (.iconst 0, 1) := by decide +kernel
theorem dX8_read_59 : decode cX8_read 59 = .ok (.ireturn, 1) := by decide +kernel
theorem dX8_readParishes_0 : decode cX8_readParishes 0 = .ok (.iconst 1, 1) := by decide +kernel
theorem dX8_readParishes_1 : decode cX8_readParishes 1 = .ok (.istore_n 1, 1) := by decide +kernel
theorem dX8_readParishes_2 : decode cX8_readParishes 2 = .ok (.iload_n 1, 1) := by decide +kernel
theorem dX8_readParishes_3 : decode cX8_readParishes 3 = .ok (.bipush 8, 2) := by decide +kernel
theorem dX8_readParishes_5 : decode cX8_readParishes 5 = .ok (.if_icmp .gt 35, 3) := by decide +kernel
theorem dX8_readParishes_8 : decode cX8_readParishes 8 = .ok (.aload_n 0, 1) := by decide +kernel
theorem dX8_readParishes_9 : decode cX8_readParishes 9 = .ok (.invokevirtual 46, 3) := by decide +kernel
theorem dX8_readParishes_12 : decode cX8_readParishes 12 = .ok (.ifCond .ne 5, 3) := by decide +kernel
theorem dX8_readParishes_15 : decode cX8_readParishes 15 = .ok (.iconst 0, 1) := by decide +kernel
theorem dX8_readParishes_16 : decode cX8_readParishes 16 = .ok (.ireturn, 1) := by decide +kernel
theorem dX8_readParishes_17 : decode cX8_readParishes 17 = .ok (.iload_n 1, 1) := by decide +kernel
theorem dX8_readParishes_18 : decode cX8_readParishes 18 = .ok (.bipush 8, 2) := by decide +kernel
theorem dX8_readParishes_20 : decode cX8_readParishes 20 = .ok (.if_icmp .eq 12, 3) := by decide +kernel
theorem dX8_readParishes_23 : decode cX8_readParishes 23 = .ok (.aload_n 0, 1) := by decide +kernel
theorem dX8_readParishes_24 : decode cX8_readParishes 24 = .ok (.bipush 44, 2) := by decide +kernel
theorem dX8_readParishes_26 : decode cX8_readParishes 26 = .ok (.invokevirtual 36, 3) := by decide +kernel
theorem dX8_readParishes_29 : decode cX8_readParishes 29 = .ok (.ifCond .ne 5, 3) := by decide +kernel
theorem dX8_readParishes_32 : decode cX8_readParishes 32 = .ok (.iconst 1, 1) := by decide +kernel
theorem dX8_readParishes_33 : decode cX8_readParishes 33 = .ok (.ireturn, 1) := by decide +kernel
theorem dX8_readParishes_34 : decode cX8_readParishes 34 = .ok (.iinc 1 1, 3) := by decide +kernel
theorem dX8_readParishes_37 : decode cX8_readParishes 37 = .ok (.goto (-35), 3) := by decide +kernel
theorem dX8_readParishes_40 : decode cX8_readParishes 40 = .ok (.iconst 1, 1) := by decide +kernel
theorem dX8_readParishes_41 : decode cX8_readParishes 41 = .ok (.ireturn, 1) := by decide +kernel
theorem dX8_readParish_0 : decode cX8_readParish 0 = .ok (.aload_n 0, 1) := by decide +kernel
theorem dX8_readParish_1 : decode cX8_readParish 1 = .ok (.invokevirtual 43, 3) := by decide +kernel
theorem dX8_readParish_4 : decode cX8_readParish 4 = .ok (.aload_n 0, 1) := by decide +kernel
theorem dX8_readParish_5 : decode cX8_readParish 5 = .ok (.getfield 26, 3) := by decide +kernel
theorem dX8_readParish_8 : decode cX8_readParish 8 = .ok (.aload_n 0, 1) := by decide +kernel
theorem dX8_readParish_9 : decode cX8_readParish 9 = .ok (.getfield 22, 3) := by decide +kernel
theorem dX8_readParish_12 : decode cX8_readParish 12 = .ok (.if_icmp .ge 20, 3) := by decide +kernel
theorem dX8_readParish_15 : decode cX8_readParish 15 = .ok (.ldc 49, 2) := by decide +kernel
theorem dX8_readParish_17 : decode cX8_readParish 17 = .ok (.aload_n 0, 1) := by decide +kernel
theorem dX8_readParish_18 : decode cX8_readParish 18 = .ok (.getfield 11, 3) := by decide +kernel
theorem dX8_readParish_21 : decode cX8_readParish 21 = .ok (.aload_n 0, 1) := by decide +kernel
theorem dX8_readParish_22 : decode cX8_readParish 22 = .ok (.getfield 26, 3) := by decide +kernel
theorem dX8_readParish_25 : decode cX8_readParish 25 = .ok (.caload, 1) := by decide +kernel
theorem dX8_readParish_26 : decode cX8_readParish 26 = .ok (.invokevirtual 51, 3) := by decide +kernel
theorem dX8_readParish_29 : decode cX8_readParish 29 = .ok (.goto 4, 3) := by decide +kernel
theorem dX8_readParish_32 : decode cX8_readParish 32 = .ok (.iconst (-1), 1) := by decide +kernel
theorem dX8_readParish_33 : decode cX8_readParish 33 = .ok (.istore_n 1, 1) := by decide +kernel
theorem dX8_readParish_34 : decode cX8_readParish 34 = .ok (.iload_n 1, 1) := by decide +kernel
theorem dX8_readParish_35 : decode cX8_readParish 35 = .ok (.ifCond .ge 5, 3) := by decide +kernel
theorem dX8_readParish_38 : decode cX8_readParish 38 = .ok (.iconst 0, 1) := by decide +kernel
theorem dX8_readParish_39 : decode cX8_readParish 39 = .ok (.ireturn, 1) := by decide +kernel
theorem dX8_readParish_40 : decode cX8_readParish 40 = .ok (.aload_n 0, 1) := by decide +kernel
theorem dX8_readParish_41 : decode cX8_readParish 41 = .ok (.dup, 1) := by decide +kernel
theorem dX8_readParish_42 : decode cX8_readParish 42 = .ok (.getfield 26, 3) := by decide +kernel
theorem dX8_readParish_45 : decode cX8_readParish 45 = .ok (.iconst 1, 1) := by decide +kernel
theorem dX8_readParish_46 : decode cX8_readParish 46 = .ok (.iadd, 1) := by decide +kernel
theorem dX8_readParish_47 : decode cX8_readParish 47 = .ok (.putfield 26, 3) := by decide +kernel
theorem dX8_readParish_50 : decode cX8_readParish 50 = .ok (.aload_n 0, 1) := by decide +kernel
theorem dX8_readParish_51 : decode cX8_readParish 51 = .ok (.getfield 18, 3) := by decide +kernel
theorem dX8_readParish_54 : decode cX8_readParish 54 = .ok (.iload_n 1, 1) := by decide +kernel
theorem dX8_readParish_55 : decode cX8_readParish 55 = .ok (.invokevirtual 57, 3) := by decide +kernel
theorem dX8_readParish_58 : decode cX8_readParish 58 = .ok (.istore_n 2, 1) := by decide +kernel
theorem dX8_readParish_59 : decode cX8_readParish 59 = .ok (.aload_n 0, 1) := by decide +kernel
theorem dX8_readParish_60 : decode cX8_readParish 60 = .ok (.iconst 1, 1) := by decide +kernel
theorem dX8_readParish_61 : decode cX8_readParish 61 = .ok (.bipush 9, 2) := by decide +kernel
theorem dX8_readParish_63 : decode cX8_readParish 63 = .ok (.invokevirtual 60, 3) := by decide +kernel
theorem dX8_readParish_66 : decode cX8_readParish 66 = .ok (.ifCond .ge 5, 3) := by decide +kernel
theorem dX8_readParish_69 : decode cX8_readParish 69 = .ok (.iconst 1, 1) := by decide +kernel
theorem dX8_readParish_70 : decode cX8_readParish 70 = .ok (.ireturn, 1) := by decide +kernel
theorem dX8_readParish_71 : decode cX8_readParish 71 = .ok (.iconst 0, 1) := by decide +kernel
theorem dX8_readParish_72 : decode cX8_readParish 72 = .ok (.istore_n 3, 1) := by decide +kernel
theorem dX8_readParish_73 : decode cX8_readParish 73 = .ok (.iload_n 3, 1) := by decide +kernel
theorem dX8_readParish_74 : decode cX8_readParish 74 = .ok (.iconst 4, 1) := by decide +kernel
theorem dX8_readParish_75 : decode cX8_readParish 75 = .ok (.if_icmp .ge 50, 3) := by decide +kernel
theorem dX8_readParish_78 : decode cX8_readParish 78 = .ok (.aload_n 0, 1) := by decide +kernel
theorem dX8_readParish_79 : decode cX8_readParish 79 = .ok (.iconst 1, 1) := by decide +kernel
theorem dX8_readParish_80 : decode cX8_readParish 80 = .ok (.bipush 9, 2) := by decide +kernel
theorem dX8_readParish_82 : decode cX8_readParish 82 = .ok (.invokevirtual 60, 3) := by decide +kernel
theorem dX8_readParish_85 : decode cX8_readParish 85 = .ok (.istore 4, 2) := by decide +kernel
theorem dX8_readParish_87 : decode cX8_readParish 87 = .ok (.iload 4, 2) := by decide +kernel
theorem dX8_readParish_89 : decode cX8_readParish 89 = .ok (.ifCond .ge 5, 3) := by decide +kernel
theorem dX8_readParish_92 : decode cX8_readParish 92 = .ok (.iconst 0, 1) := by decide +kernel
theorem dX8_readParish_93 : decode cX8_readParish 93 = .ok (.ireturn, 1) := by decide +kernel
theorem dX8_readParish_94 : decode cX8_readParish 94 = .ok (.aload_n 0, 1) := by decide +kernel
theorem dX8_readParish_95 : decode cX8_readParish 95 = .ok (.dup, 1) := by decide +kernel
theorem dX8_readParish_96 : decode cX8_readParish 96 = .ok (.getfield 26, 3) := by decide +kernel
theorem dX8_readParish_99 : decode cX8_readParish 99 = .ok (.iconst 1, 1) := by decide +kernel
theorem dX8_readParish_100 : decode cX8_readParish 100 = .ok (.iadd, 1) := by decide +kernel
theorem dX8_readParish_101 : decode cX8_readParish 101 = .ok (.putfield 26, 3) := by decide +kernel
theorem dX8_readParish_104 : decode cX8_readParish 104 = .ok (.aload_n 0, 1) := by decide +kernel
theorem dX8_readParish_105 : decode cX8_readParish 105 = .ok (.getfield 18, 3) := by decide +kernel
theorem dX8_readParish_108 : decode cX8_readParish 108 = .ok (.getfield 64, 3) := by decide +kernel
theorem dX8_readParish_111 : decode cX8_readParish 111 = .ok (.iload_n 2, 1) := by decide +kernel
theorem dX8_readParish_112 : decode cX8_readParish 112 = .ok (.iconst 4, 1) := by decide +kernel
theorem dX8_readParish_113 : decode cX8_readParish 113 = .ok (.imul, 1) := by decide +kernel
theorem dX8_readParish_114 : decode cX8_readParish 114 = .ok (.iload_n 3, 1) := by decide +kernel
theorem dX8_readParish_115 : decode cX8_readParish 115 = .ok (.iadd, 1) := by decide +kernel
theorem dX8_readParish_116 : decode cX8_readParish 116 = .ok (.iload 4, 2) := by decide +kernel
theorem dX8_readParish_118 : decode cX8_readParish 118 = .ok (.iastore, 1) := by decide +kernel
theorem dX8_readParish_119 : decode cX8_readParish 119 = .ok (.iinc 3 1, 3) := by decide +kernel
theorem dX8_readParish_122 : decode cX8_readParish 122 = .ok (.goto (-49), 3) := by decide +kernel
theorem dX8_readParish_125 : decode cX8_readParish 125 = .ok (.iconst 1, 1) := by decide +kernel
theorem dX8_readParish_126 : decode cX8_readParish 126 = .ok (.ireturn, 1) := by decide +kernel
theorem dX8_readRoads_0 : decode cX8_readRoads 0 = .ok (.iconst 1, 1) := by decide +kernel
theorem dX8_readRoads_1 : decode cX8_readRoads 1 = .ok (.istore_n 1, 1) := by decide +kernel
theorem dX8_readRoads_2 : decode cX8_readRoads 2 = .ok (.iload_n 1, 1) := by decide +kernel
theorem dX8_readRoads_3 : decode cX8_readRoads 3 = .ok (.bipush 15, 2) := by decide +kernel
theorem dX8_readRoads_5 : decode cX8_readRoads 5 = .ok (.if_icmp .gt 35, 3) := by decide +kernel
theorem dX8_readRoads_8 : decode cX8_readRoads 8 = .ok (.aload_n 0, 1) := by decide +kernel
theorem dX8_readRoads_9 : decode cX8_readRoads 9 = .ok (.invokevirtual 68, 3) := by decide +kernel
theorem dX8_readRoads_12 : decode cX8_readRoads 12 = .ok (.ifCond .ne 5, 3) := by decide +kernel
theorem dX8_readRoads_15 : decode cX8_readRoads 15 = .ok (.iconst 0, 1) := by decide +kernel
theorem dX8_readRoads_16 : decode cX8_readRoads 16 = .ok (.ireturn, 1) := by decide +kernel
theorem dX8_readRoads_17 : decode cX8_readRoads 17 = .ok (.iload_n 1, 1) := by decide +kernel
theorem dX8_readRoads_18 : decode cX8_readRoads 18 = .ok (.bipush 15, 2) := by decide +kernel
theorem dX8_readRoads_20 : decode cX8_readRoads 20 = .ok (.if_icmp .eq 12, 3) := by decide +kernel
theorem dX8_readRoads_23 : decode cX8_readRoads 23 = .ok (.aload_n 0, 1) := by decide +kernel
theorem dX8_readRoads_24 : decode cX8_readRoads 24 = .ok (.bipush 44, 2) := by decide +kernel
theorem dX8_readRoads_26 : decode cX8_readRoads 26 = .ok (.invokevirtual 36, 3) := by decide +kernel
theorem dX8_readRoads_29 : decode cX8_readRoads 29 = .ok (.ifCond .ne 5, 3) := by decide +kernel
theorem dX8_readRoads_32 : decode cX8_readRoads 32 = .ok (.iconst 1, 1) := by decide +kernel
theorem dX8_readRoads_33 : decode cX8_readRoads 33 = .ok (.ireturn, 1) := by decide +kernel
theorem dX8_readRoads_34 : decode cX8_readRoads 34 = .ok (.iinc 1 1, 3) := by decide +kernel
theorem dX8_readRoads_37 : decode cX8_readRoads 37 = .ok (.goto (-35), 3) := by decide +kernel
theorem dX8_readRoads_40 : decode cX8_readRoads 40 = .ok (.iconst 1, 1) := by decide +kernel
theorem dX8_readRoads_41 : decode cX8_readRoads 41 = .ok (.ireturn, 1) := by decide +kernel
theorem dX8_readRoad_0 : decode cX8_readRoad 0 = .ok (.aload_n 0, 1) := by decide +kernel
theorem dX8_readRoad_1 : decode cX8_readRoad 1 = .ok (.iconst 0, 1) := by decide +kernel
theorem dX8_readRoad_2 : decode cX8_readRoad 2 = .ok (.aload_n 0, 1) := by decide +kernel
theorem dX8_readRoad_3 : decode cX8_readRoad 3 = .ok (.getfield 18, 3) := by decide +kernel
theorem dX8_readRoad_6 : decode cX8_readRoad 6 = .ok (.getfield 71, 3) := by decide +kernel
theorem dX8_readRoad_9 : decode cX8_readRoad 9 = .ok (.iconst 1, 1) := by decide +kernel
theorem dX8_readRoad_10 : decode cX8_readRoad 10 = .ok (.isub, 1) := by decide +kernel
theorem dX8_readRoad_11 : decode cX8_readRoad 11 = .ok (.invokevirtual 60, 3) := by decide +kernel
theorem dX8_readRoad_14 : decode cX8_readRoad 14 = .ok (.istore_n 1, 1) := by decide +kernel
theorem dX8_readRoad_15 : decode cX8_readRoad 15 = .ok (.iload_n 1, 1) := by decide +kernel
theorem dX8_readRoad_16 : decode cX8_readRoad 16 = .ok (.ifCond .ge 5, 3) := by decide +kernel
theorem dX8_readRoad_19 : decode cX8_readRoad 19 = .ok (.iconst 0, 1) := by decide +kernel
theorem dX8_readRoad_20 : decode cX8_readRoad 20 = .ok (.ireturn, 1) := by decide +kernel
theorem dX8_readRoad_21 : decode cX8_readRoad 21 = .ok (.aload_n 0, 1) := by decide +kernel
theorem dX8_readRoad_22 : decode cX8_readRoad 22 = .ok (.dup, 1) := by decide +kernel
theorem dX8_readRoad_23 : decode cX8_readRoad 23 = .ok (.getfield 26, 3) := by decide +kernel
theorem dX8_readRoad_26 : decode cX8_readRoad 26 = .ok (.iconst 1, 1) := by decide +kernel
theorem dX8_readRoad_27 : decode cX8_readRoad 27 = .ok (.iadd, 1) := by decide +kernel
theorem dX8_readRoad_28 : decode cX8_readRoad 28 = .ok (.putfield 26, 3) := by decide +kernel
theorem dX8_readRoad_31 : decode cX8_readRoad 31 = .ok (.aload_n 0, 1) := by decide +kernel
theorem dX8_readRoad_32 : decode cX8_readRoad 32 = .ok (.iconst 0, 1) := by decide +kernel
theorem dX8_readRoad_33 : decode cX8_readRoad 33 = .ok (.aload_n 0, 1) := by decide +kernel
theorem dX8_readRoad_34 : decode cX8_readRoad 34 = .ok (.getfield 18, 3) := by decide +kernel
theorem dX8_readRoad_37 : decode cX8_readRoad 37 = .ok (.getfield 71, 3) := by decide +kernel
theorem dX8_readRoad_40 : decode cX8_readRoad 40 = .ok (.iconst 1, 1) := by decide +kernel
theorem dX8_readRoad_41 : decode cX8_readRoad 41 = .ok (.isub, 1) := by decide +kernel
theorem dX8_readRoad_42 : decode cX8_readRoad 42 = .ok (.invokevirtual 60, 3) := by decide +kernel
theorem dX8_readRoad_45 : decode cX8_readRoad 45 = .ok (.istore_n 2, 1) := by decide +kernel
theorem dX8_readRoad_46 : decode cX8_readRoad 46 = .ok (.iload_n 2, 1) := by decide +kernel
theorem dX8_readRoad_47 : decode cX8_readRoad 47 = .ok (.ifCond .lt 20, 3) := by decide +kernel
theorem dX8_readRoad_50 : decode cX8_readRoad 50 = .ok (.iload_n 1, 1) := by decide +kernel
theorem dX8_readRoad_51 : decode cX8_readRoad 51 = .ok (.iload_n 2, 1) := by decide +kernel
theorem dX8_readRoad_52 : decode cX8_readRoad 52 = .ok (.if_icmp .eq 15, 3) := by decide +kernel
theorem dX8_readRoad_55 : decode cX8_readRoad 55 = .ok (.aload_n 0, 1) := by decide +kernel
theorem dX8_readRoad_56 : decode cX8_readRoad 56 = .ok (.getfield 18, 3) := by decide +kernel
theorem dX8_readRoad_59 : decode cX8_readRoad 59 = .ok (.iload_n 1, 1) := by decide +kernel
theorem dX8_readRoad_60 : decode cX8_readRoad 60 = .ok (.iload_n 2, 1) := by decide +kernel
theorem dX8_readRoad_61 : decode cX8_readRoad 61 = .ok (.invokevirtual 74, 3) := by decide +kernel
theorem dX8_readRoad_64 : decode cX8_readRoad 64 = .ok (.ifCond .eq 5, 3) := by decide +kernel
theorem dX8_readRoad_67 : decode cX8_readRoad 67 = .ok (.iconst 0, 1) := by decide +kernel
theorem dX8_readRoad_68 : decode cX8_readRoad 68 = .ok (.ireturn, 1) := by decide +kernel
theorem dX8_readRoad_69 : decode cX8_readRoad 69 = .ok (.aload_n 0, 1) := by decide +kernel
theorem dX8_readRoad_70 : decode cX8_readRoad 70 = .ok (.dup, 1) := by decide +kernel
theorem dX8_readRoad_71 : decode cX8_readRoad 71 = .ok (.getfield 26, 3) := by decide +kernel
theorem dX8_readRoad_74 : decode cX8_readRoad 74 = .ok (.iconst 1, 1) := by decide +kernel
theorem dX8_readRoad_75 : decode cX8_readRoad 75 = .ok (.iadd, 1) := by decide +kernel
theorem dX8_readRoad_76 : decode cX8_readRoad 76 = .ok (.putfield 26, 3) := by decide +kernel
theorem dX8_readRoad_79 : decode cX8_readRoad 79 = .ok (.iconst 0, 1) := by decide +kernel
theorem dX8_readRoad_80 : decode cX8_readRoad 80 = .ok (.istore_n 3, 1) := by decide +kernel
theorem dX8_readRoad_81 : decode cX8_readRoad 81 = .ok (.aload_n 0, 1) := by decide +kernel
theorem dX8_readRoad_82 : decode cX8_readRoad 82 = .ok (.bipush 116, 2) := by decide +kernel
theorem dX8_readRoad_84 : decode cX8_readRoad 84 = .ok (.invokevirtual 36, 3) := by decide +kernel
theorem dX8_readRoad_87 : decode cX8_readRoad 87 = .ok (.ifCond .eq 27, 3) := by decide +kernel
theorem dX8_readRoad_90 : decode cX8_readRoad 90 = .ok (.aload_n 0, 1) := by decide +kernel
theorem dX8_readRoad_91 : decode cX8_readRoad 91 = .ok (.iconst 0, 1) := by decide +kernel
theorem dX8_readRoad_92 : decode cX8_readRoad 92 = .ok (.bipush 9, 2) := by decide +kernel
theorem dX8_readRoad_94 : decode cX8_readRoad 94 = .ok (.invokevirtual 60, 3) := by decide +kernel
theorem dX8_readRoad_97 : decode cX8_readRoad 97 = .ok (.istore_n 3, 1) := by decide +kernel
theorem dX8_readRoad_98 : decode cX8_readRoad 98 = .ok (.iload_n 3, 1) := by decide +kernel
theorem dX8_readRoad_99 : decode cX8_readRoad 99 = .ok (.ifCond .ge 5, 3) := by decide +kernel
theorem dX8_readRoad_102 : decode cX8_readRoad 102 = .ok (.iconst 0, 1) := by decide +kernel
theorem dX8_readRoad_103 : decode cX8_readRoad 103 = .ok (.ireturn, 1) := by decide +kernel
theorem dX8_readRoad_104 : decode cX8_readRoad 104 = .ok (.aload_n 0, 1) := by decide +kernel
theorem dX8_readRoad_105 : decode cX8_readRoad 105 = .ok (.dup, 1) := by decide +kernel
theorem dX8_readRoad_106 : decode cX8_readRoad 106 = .ok (.getfield 26, 3) := by decide +kernel
theorem dX8_readRoad_109 : decode cX8_readRoad 109 = .ok (.iconst 1, 1) := by decide +kernel
theorem dX8_readRoad_110 : decode cX8_readRoad 110 = .ok (.iadd, 1) := by decide +kernel
theorem dX8_readRoad_111 : decode cX8_readRoad 111 = .ok (.putfield 26, 3) := by decide +kernel
theorem dX8_readRoad_114 : decode cX8_readRoad 114 = .ok (.aload_n 0, 1) := by decide +kernel
theorem dX8_readRoad_115 : decode cX8_readRoad 115 = .ok (.getfield 18, 3) := by decide +kernel
theorem dX8_readRoad_118 : decode cX8_readRoad 118 = .ok (.iload_n 1, 1) := by decide +kernel
theorem dX8_readRoad_119 : decode cX8_readRoad 119 = .ok (.iload_n 2, 1) := by decide +kernel
theorem dX8_readRoad_120 : decode cX8_readRoad 120 = .ok (.iload_n 3, 1) := by decide +kernel
theorem dX8_readRoad_121 : decode cX8_readRoad 121 = .ok (.invokevirtual 78, 3) := by decide +kernel
theorem dX8_readRoad_124 : decode cX8_readRoad 124 = .ok (.pop, 1) := by decide +kernel
theorem dX8_readRoad_125 : decode cX8_readRoad 125 = .ok (.iconst 1, 1) := by decide +kernel
theorem dX8_readRoad_126 : decode cX8_readRoad 126 = .ok (.ireturn, 1) := by decide +kernel
theorem dX8_skipBlanks_0 : decode cX8_skipBlanks 0 = .ok (.aload_n 0, 1) := by decide +kernel
theorem dX8_skipBlanks_1 : decode cX8_skipBlanks 1 = .ok (.getfield 26, 3) := by decide +kernel
theorem dX8_skipBlanks_4 : decode cX8_skipBlanks 4 = .ok (.aload_n 0, 1) := by decide +kernel
theorem dX8_skipBlanks_5 : decode cX8_skipBlanks 5 = .ok (.getfield 22, 3) := by decide +kernel
theorem dX8_skipBlanks_8 : decode cX8_skipBlanks 8 = .ok (.if_icmp .ge 30, 3) := by decide +kernel
theorem dX8_skipBlanks_11 : decode cX8_skipBlanks 11 = .ok (.aload_n 0, 1) := by decide +kernel
theorem dX8_skipBlanks_12 : decode cX8_skipBlanks 12 = .ok (.getfield 11, 3) := by decide +kernel
theorem dX8_skipBlanks_15 : decode cX8_skipBlanks 15 = .ok (.aload_n 0, 1) := by decide +kernel
theorem dX8_skipBlanks_16 : decode cX8_skipBlanks 16 = .ok (.getfield 26, 3) := by decide +kernel
theorem dX8_skipBlanks_19 : decode cX8_skipBlanks 19 = .ok (.caload, 1) := by decide +kernel
theorem dX8_skipBlanks_20 : decode cX8_skipBlanks 20 = .ok (.bipush 32, 2) := by decide +kernel
theorem dX8_skipBlanks_22 : decode cX8_skipBlanks 22 = .ok (.if_icmp .ne 16, 3) := by decide +kernel
theorem dX8_skipBlanks_25 : decode cX8_skipBlanks 25 = .ok (.aload_n 0, 1) := by decide +kernel
theorem dX8_skipBlanks_26 : decode cX8_skipBlanks 26 = .ok (.dup, 1) := by decide +kernel
theorem dX8_skipBlanks_27 : decode cX8_skipBlanks 27 = .ok (.getfield 26, 3) := by decide +kernel
theorem dX8_skipBlanks_30 : decode cX8_skipBlanks 30 = .ok (.iconst 1, 1) := by decide +kernel
theorem dX8_skipBlanks_31 : decode cX8_skipBlanks 31 = .ok (.iadd, 1) := by decide +kernel
theorem dX8_skipBlanks_32 : decode cX8_skipBlanks 32 = .ok (.putfield 26, 3) := by decide +kernel
theorem dX8_skipBlanks_35 : decode cX8_skipBlanks 35 = .ok (.goto (-35), 3) := by decide +kernel
theorem dX8_skipBlanks_38 : decode cX8_skipBlanks 38 = .ok (.return_, 1) := by decide +kernel
theorem dX8_takes_0 : decode cX8_takes 0 = .ok (.aload_n 0, 1) := by decide +kernel
theorem dX8_takes_1 : decode cX8_takes 1 = .ok (.invokevirtual 43, 3) := by decide +kernel
theorem dX8_takes_4 : decode cX8_takes 4 = .ok (.aload_n 0, 1) := by decide +kernel
theorem dX8_takes_5 : decode cX8_takes 5 = .ok (.getfield 26, 3) := by decide +kernel
theorem dX8_takes_8 : decode cX8_takes 8 = .ok (.aload_n 0, 1) := by decide +kernel
theorem dX8_takes_9 : decode cX8_takes 9 = .ok (.getfield 22, 3) := by decide +kernel
theorem dX8_takes_12 : decode cX8_takes 12 = .ok (.if_icmp .ge 16, 3) := by decide +kernel
theorem dX8_takes_15 : decode cX8_takes 15 = .ok (.aload_n 0, 1) := by decide +kernel
theorem dX8_takes_16 : decode cX8_takes 16 = .ok (.getfield 11, 3) := by decide +kernel
theorem dX8_takes_19 : decode cX8_takes 19 = .ok (.aload_n 0, 1) := by decide +kernel
theorem dX8_takes_20 : decode cX8_takes 20 = .ok (.getfield 26, 3) := by decide +kernel
theorem dX8_takes_23 : decode cX8_takes 23 = .ok (.caload, 1) := by decide +kernel
theorem dX8_takes_24 : decode cX8_takes 24 = .ok (.iload_n 1, 1) := by decide +kernel
theorem dX8_takes_25 : decode cX8_takes 25 = .ok (.if_icmp .eq 5, 3) := by decide +kernel
theorem dX8_takes_28 : decode cX8_takes 28 = .ok (.iconst 0, 1) := by decide +kernel
theorem dX8_takes_29 : decode cX8_takes 29 = .ok (.ireturn, 1) := by decide +kernel
theorem dX8_takes_30 : decode cX8_takes 30 = .ok (.aload_n 0, 1) := by decide +kernel
theorem dX8_takes_31 : decode cX8_takes 31 = .ok (.dup, 1) := by decide +kernel
theorem dX8_takes_32 : decode cX8_takes 32 = .ok (.getfield 26, 3) := by decide +kernel
theorem dX8_takes_35 : decode cX8_takes 35 = .ok (.iconst 1, 1) := by decide +kernel
theorem dX8_takes_36 : decode cX8_takes 36 = .ok (.iadd, 1) := by decide +kernel
theorem dX8_takes_37 : decode cX8_takes 37 = .ok (.putfield 26, 3) := by decide +kernel
theorem dX8_takes_40 : decode cX8_takes 40 = .ok (.iconst 1, 1) := by decide +kernel
theorem dX8_takes_41 : decode cX8_takes 41 = .ok (.ireturn, 1) := by decide +kernel
theorem dX8_digit_0 : decode cX8_digit 0 = .ok (.aload_n 0, 1) := by decide +kernel
theorem dX8_digit_1 : decode cX8_digit 1 = .ok (.invokevirtual 43, 3) := by decide +kernel
theorem dX8_digit_4 : decode cX8_digit 4 = .ok (.aload_n 0, 1) := by decide +kernel
theorem dX8_digit_5 : decode cX8_digit 5 = .ok (.getfield 26, 3) := by decide +kernel
theorem dX8_digit_8 : decode cX8_digit 8 = .ok (.aload_n 0, 1) := by decide +kernel
theorem dX8_digit_9 : decode cX8_digit 9 = .ok (.getfield 22, 3) := by decide +kernel
theorem dX8_digit_12 : decode cX8_digit 12 = .ok (.if_icmp .lt 5, 3) := by decide +kernel
theorem dX8_digit_15 : decode cX8_digit 15 = .ok (.iconst (-1), 1) := by decide +kernel
theorem dX8_digit_16 : decode cX8_digit 16 = .ok (.ireturn, 1) := by decide +kernel
theorem dX8_digit_17 : decode cX8_digit 17 = .ok (.aload_n 0, 1) := by decide +kernel
theorem dX8_digit_18 : decode cX8_digit 18 = .ok (.getfield 11, 3) := by decide +kernel
theorem dX8_digit_21 : decode cX8_digit 21 = .ok (.aload_n 0, 1) := by decide +kernel
theorem dX8_digit_22 : decode cX8_digit 22 = .ok (.getfield 26, 3) := by decide +kernel
theorem dX8_digit_25 : decode cX8_digit 25 = .ok (.caload, 1) := by decide +kernel
theorem dX8_digit_26 : decode cX8_digit 26 = .ok (.bipush 48, 2) := by decide +kernel
theorem dX8_digit_28 : decode cX8_digit 28 = .ok (.isub, 1) := by decide +kernel
theorem dX8_digit_29 : decode cX8_digit 29 = .ok (.istore_n 3, 1) := by decide +kernel
theorem dX8_digit_30 : decode cX8_digit 30 = .ok (.iload_n 3, 1) := by decide +kernel
theorem dX8_digit_31 : decode cX8_digit 31 = .ok (.iload_n 1, 1) := by decide +kernel
theorem dX8_digit_32 : decode cX8_digit 32 = .ok (.if_icmp .lt 12, 3) := by decide +kernel
theorem dX8_digit_35 : decode cX8_digit 35 = .ok (.iload_n 3, 1) := by decide +kernel
theorem dX8_digit_36 : decode cX8_digit 36 = .ok (.iload_n 2, 1) := by decide +kernel
theorem dX8_digit_37 : decode cX8_digit 37 = .ok (.if_icmp .gt 7, 3) := by decide +kernel
theorem dX8_digit_40 : decode cX8_digit 40 = .ok (.iload_n 3, 1) := by decide +kernel
theorem dX8_digit_41 : decode cX8_digit 41 = .ok (.goto 4, 3) := by decide +kernel
theorem dX8_digit_44 : decode cX8_digit 44 = .ok (.iconst (-1), 1) := by decide +kernel
theorem dX8_digit_45 : decode cX8_digit 45 = .ok (.ireturn, 1) := by decide +kernel
