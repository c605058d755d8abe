theorem dX11_land_71 : decode cX11_land 71 = .ok (.ifCond .eq 10, 3) := by decide +kernel
theorem dX11_land_74 : decode cX11_land 74 = .ok (.aload_n 0, 1) := by decide +kernel
theorem dX11_land_75 : decode cX11_land 75 = .ok (.getfield 7, 3) := by decide +kernel
theorem dX11_land_78 : decode cX11_land 78 = .ok (.iconst 0, 1) := by decide +kernel
theorem dX11_land_79 : decode cX11_land 79 = .ok (.iaload, 1) := by decide +kernel
theorem dX11_land_80 : decode cX11_land 80 = .ok (.ireturn, 1) := by decide +kernel
theorem dX11_land_81 : decode cX11_land 81 = .ok (.iconst 0, 1) := by decide +kernel
theorem dX11_land_82 : decode cX11_land 82 = .ok (.istore_n 2, 1) := by decide +kernel
theorem dX11_land_83 : decode cX11_land 83 = .ok (.iload_n 2, 1) := by decide +kernel
theorem dX11_land_84 : decode cX11_land 84 = .ok (.sipush 135, 3) := by decide +kernel
theorem dX11_land_87 : decode cX11_land 87 = .ok (.if_icmp .ge 21, 3) := by decide +kernel
theorem dX11_land_90 : decode cX11_land 90 = .ok (.aload_n 0, 1) := by decide +kernel
theorem dX11_land_91 : decode cX11_land 91 = .ok (.getfield 7, 3) := by decide +kernel
theorem dX11_land_94 : decode cX11_land 94 = .ok (.iload_n 2, 1) := by decide +kernel
theorem dX11_land_95 : decode cX11_land 95 = .ok (.aload_n 0, 1) := by decide +kernel
theorem dX11_land_96 : decode cX11_land 96 = .ok (.getfield 29, 3) := by decide +kernel
theorem dX11_land_99 : decode cX11_land 99 = .ok (.iload_n 2, 1) := by decide +kernel
theorem dX11_land_100 : decode cX11_land 100 = .ok (.iaload, 1) := by decide +kernel
theorem dX11_land_101 : decode cX11_land 101 = .ok (.iastore, 1) := by decide +kernel
theorem dX11_land_102 : decode cX11_land 102 = .ok (.iinc 2 1, 3) := by decide +kernel
theorem dX11_land_105 : decode cX11_land 105 = .ok (.goto (-22), 3) := by decide +kernel
theorem dX11_land_108 : decode cX11_land 108 = .ok (.bipush (-20), 2) := by decide +kernel
theorem dX11_land_110 : decode cX11_land 110 = .ok (.aload_n 0, 1) := by decide +kernel
theorem dX11_land_111 : decode cX11_land 111 = .ok (.getfield 117, 3) := by decide +kernel
theorem dX11_land_114 : decode cX11_land 114 = .ok (.isub, 1) := by decide +kernel
theorem dX11_land_115 : decode cX11_land 115 = .ok (.ireturn, 1) := by decide +kernel
theorem dX11_count_0 : decode cX11_count 0 = .ok (.iconst 0, 1) := by decide +kernel
theorem dX11_count_1 : decode cX11_count 1 = .ok (.istore_n 2, 1) := by decide +kernel
theorem dX11_count_2 : decode cX11_count 2 = .ok (.iconst 0, 1) := by decide +kernel
theorem dX11_count_3 : decode cX11_count 3 = .ok (.istore_n 3, 1) := by decide +kernel
theorem dX11_count_4 : decode cX11_count 4 = .ok (.iload_n 3, 1) := by decide +kernel
theorem dX11_count_5 : decode cX11_count 5 = .ok (.aload_n 0, 1) := by decide +kernel
theorem dX11_count_6 : decode cX11_count 6 = .ok (.getfield 7, 3) := by decide +kernel
theorem dX11_count_9 : decode cX11_count 9 = .ok (.iconst 3, 1) := by decide +kernel
theorem dX11_count_10 : decode cX11_count 10 = .ok (.iaload, 1) := by decide +kernel
theorem dX11_count_11 : decode cX11_count 11 = .ok (.if_icmp .ge 29, 3) := by decide +kernel
theorem dX11_count_14 : decode cX11_count 14 = .ok (.iload_n 2, 1) := by decide +kernel
theorem dX11_count_15 : decode cX11_count 15 = .ok (.aload_n 0, 1) := by decide +kernel
theorem dX11_count_16 : decode cX11_count 16 = .ok (.getfield 7, 3) := by decide +kernel
theorem dX11_count_19 : decode cX11_count 19 = .ok (.bipush 117, 2) := by decide +kernel
theorem dX11_count_21 : decode cX11_count 21 = .ok (.iload_n 3, 1) := by decide +kernel
theorem dX11_count_22 : decode cX11_count 22 = .ok (.iadd, 1) := by decide +kernel
theorem dX11_count_23 : decode cX11_count 23 = .ok (.iaload, 1) := by decide +kernel
theorem dX11_count_24 : decode cX11_count 24 = .ok (.ifCond .le 7, 3) := by decide +kernel
theorem dX11_count_27 : decode cX11_count 27 = .ok (.iconst 1, 1) := by decide +kernel
theorem dX11_count_28 : decode cX11_count 28 = .ok (.goto 4, 3) := by decide +kernel
theorem dX11_count_31 : decode cX11_count 31 = .ok (.iconst 0, 1) := by decide +kernel
theorem dX11_count_32 : decode cX11_count 32 = .ok (.iadd, 1) := by decide +kernel
theorem dX11_count_33 : decode cX11_count 33 = .ok (.istore_n 2, 1) := by decide +kernel
theorem dX11_count_34 : decode cX11_count 34 = .ok (.iinc 3 1, 3) := by decide +kernel
theorem dX11_count_37 : decode cX11_count 37 = .ok (.goto (-33), 3) := by decide +kernel
theorem dX11_count_40 : decode cX11_count 40 = .ok (.iload_n 1, 1) := by decide +kernel
theorem dX11_count_41 : decode cX11_count 41 = .ok (.i2l, 1) := by decide +kernel
theorem dX11_count_42 : decode cX11_count 42 = .ok (.lconst 0, 1) := by decide +kernel
theorem dX11_count_43 : decode cX11_count 43 = .ok (.ldc2_w 91, 3) := by decide +kernel
theorem dX11_count_46 : decode cX11_count 46 = .ok (.invokestatic 50, 3) := by decide +kernel
theorem dX11_count_49 : decode cX11_count 49 = .ok (.ifCond .ne 7, 3) := by decide +kernel
theorem dX11_count_52 : decode cX11_count 52 = .ok (.iconst (-1), 1) := by decide +kernel
theorem dX11_count_53 : decode cX11_count 53 = .ok (.goto 32, 3) := by decide +kernel
theorem dX11_count_56 : decode cX11_count 56 = .ok (.iload_n 1, 1) := by decide +kernel
theorem dX11_count_57 : decode cX11_count 57 = .ok (.bipush 6, 2) := by decide +kernel
theorem dX11_count_59 : decode cX11_count 59 = .ok (.if_icmp .ge 12, 3) := by decide +kernel
theorem dX11_count_62 : decode cX11_count 62 = .ok (.aload_n 0, 1) := by decide +kernel
theorem dX11_count_63 : decode cX11_count 63 = .ok (.getfield 7, 3) := by decide +kernel
theorem dX11_count_66 : decode cX11_count 66 = .ok (.iload_n 1, 1) := by decide +kernel
theorem dX11_count_67 : decode cX11_count 67 = .ok (.iaload, 1) := by decide +kernel
theorem dX11_count_68 : decode cX11_count 68 = .ok (.goto 17, 3) := by decide +kernel
theorem dX11_count_71 : decode cX11_count 71 = .ok (.iload_n 1, 1) := by decide +kernel
theorem dX11_count_72 : decode cX11_count 72 = .ok (.bipush 6, 2) := by decide +kernel
theorem dX11_count_74 : decode cX11_count 74 = .ok (.if_icmp .ne 10, 3) := by decide +kernel
theorem dX11_count_77 : decode cX11_count 77 = .ok (.aload_n 0, 1) := by decide +kernel
theorem dX11_count_78 : decode cX11_count 78 = .ok (.invokevirtual 54, 3) := by decide +kernel
theorem dX11_count_81 : decode cX11_count 81 = .ok (.goto 4, 3) := by decide +kernel
theorem dX11_count_84 : decode cX11_count 84 = .ok (.iload_n 2, 1) := by decide +kernel
theorem dX11_count_85 : decode cX11_count 85 = .ok (.ireturn, 1) := by decide +kernel
theorem dX11_goes_0 : decode cX11_goes 0 = .ok (.aload_n 0, 1) := by decide +kernel
theorem dX11_goes_1 : decode cX11_goes 1 = .ok (.getfield 7, 3) := by decide +kernel
theorem dX11_goes_4 : decode cX11_goes 4 = .ok (.sipush 129, 3) := by decide +kernel
theorem dX11_goes_7 : decode cX11_goes 7 = .ok (.iload_n 1, 1) := by decide +kernel
theorem dX11_goes_8 : decode cX11_goes 8 = .ok (.iadd, 1) := by decide +kernel
theorem dX11_goes_9 : decode cX11_goes 9 = .ok (.iaload, 1) := by decide +kernel
theorem dX11_goes_10 : decode cX11_goes 10 = .ok (.istore_n 2, 1) := by decide +kernel
theorem dX11_goes_11 : decode cX11_goes 11 = .ok (.aload_n 0, 1) := by decide +kernel
theorem dX11_goes_12 : decode cX11_goes 12 = .ok (.getfield 7, 3) := by decide +kernel
theorem dX11_goes_15 : decode cX11_goes 15 = .ok (.bipush 123, 2) := by decide +kernel
theorem dX11_goes_17 : decode cX11_goes 17 = .ok (.iload_n 1, 1) := by decide +kernel
theorem dX11_goes_18 : decode cX11_goes 18 = .ok (.iadd, 1) := by decide +kernel
theorem dX11_goes_19 : decode cX11_goes 19 = .ok (.iaload, 1) := by decide +kernel
theorem dX11_goes_20 : decode cX11_goes 20 = .ok (.istore_n 3, 1) := by decide +kernel
theorem dX11_goes_21 : decode cX11_goes 21 = .ok (.iload_n 2, 1) := by decide +kernel
theorem dX11_goes_22 : decode cX11_goes 22 = .ok (.istore 4, 2) := by decide +kernel
theorem dX11_goes_24 : decode cX11_goes 24 = .ok (.iconst 0, 1) := by decide +kernel
theorem dX11_goes_25 : decode cX11_goes 25 = .ok (.istore 5, 2) := by decide +kernel
theorem dX11_goes_27 : decode cX11_goes 27 = .ok (.iload 5, 2) := by decide +kernel
theorem dX11_goes_29 : decode cX11_goes 29 = .ok (.aload_n 0, 1) := by decide +kernel
theorem dX11_goes_30 : decode cX11_goes 30 = .ok (.getfield 7, 3) := by decide +kernel
theorem dX11_goes_33 : decode cX11_goes 33 = .ok (.iconst 0, 1) := by decide +kernel
theorem dX11_goes_34 : decode cX11_goes 34 = .ok (.iaload, 1) := by decide +kernel
theorem dX11_goes_35 : decode cX11_goes 35 = .ok (.if_icmp .ge 63, 3) := by decide +kernel
theorem dX11_goes_38 : decode cX11_goes 38 = .ok (.iload 5, 2) := by decide +kernel
theorem dX11_goes_40 : decode cX11_goes 40 = .ok (.iload_n 2, 1) := by decide +kernel
theorem dX11_goes_41 : decode cX11_goes 41 = .ok (.if_icmp .eq 17, 3) := by decide +kernel
theorem dX11_goes_44 : decode cX11_goes 44 = .ok (.aload_n 0, 1) := by decide +kernel
theorem dX11_goes_45 : decode cX11_goes 45 = .ok (.iload_n 2, 1) := by decide +kernel
theorem dX11_goes_46 : decode cX11_goes 46 = .ok (.iload 5, 2) := by decide +kernel
theorem dX11_goes_48 : decode cX11_goes 48 = .ok (.invokevirtual 74, 3) := by decide +kernel
theorem dX11_goes_51 : decode cX11_goes 51 = .ok (.ifCond .lt 7, 3) := by decide +kernel
theorem dX11_goes_54 : decode cX11_goes 54 = .ok (.iconst 1, 1) := by decide +kernel
theorem dX11_goes_55 : decode cX11_goes 55 = .ok (.goto 4, 3) := by decide +kernel
theorem dX11_goes_58 : decode cX11_goes 58 = .ok (.iconst 0, 1) := by decide +kernel
theorem dX11_goes_59 : decode cX11_goes 59 = .ok (.istore 6, 2) := by decide +kernel
theorem dX11_goes_61 : decode cX11_goes 61 = .ok (.iload 6, 2) := by decide +kernel
theorem dX11_goes_63 : decode cX11_goes 63 = .ok (.ifCond .eq 25, 3) := by decide +kernel
theorem dX11_goes_66 : decode cX11_goes 66 = .ok (.aload_n 0, 1) := by decide +kernel
theorem dX11_goes_67 : decode cX11_goes 67 = .ok (.iload 5, 2) := by decide +kernel
theorem dX11_goes_69 : decode cX11_goes 69 = .ok (.iload_n 3, 1) := by decide +kernel
theorem dX11_goes_70 : decode cX11_goes 70 = .ok (.invokevirtual 88, 3) := by decide +kernel
theorem dX11_goes_73 : decode cX11_goes 73 = .ok (.aload_n 0, 1) := by decide +kernel
theorem dX11_goes_74 : decode cX11_goes 74 = .ok (.iload 4, 2) := by decide +kernel
theorem dX11_goes_76 : decode cX11_goes 76 = .ok (.iload_n 3, 1) := by decide +kernel
theorem dX11_goes_77 : decode cX11_goes 77 = .ok (.invokevirtual 88, 3) := by decide +kernel
theorem dX11_goes_80 : decode cX11_goes 80 = .ok (.if_icmp .ge 8, 3) := by decide +kernel
theorem dX11_goes_83 : decode cX11_goes 83 = .ok (.iload 5, 2) := by decide +kernel
theorem dX11_goes_85 : decode cX11_goes 85 = .ok (.goto 5, 3) := by decide +kernel
theorem dX11_goes_88 : decode cX11_goes 88 = .ok (.iload 4, 2) := by decide +kernel
theorem dX11_goes_90 : decode cX11_goes 90 = .ok (.istore 4, 2) := by decide +kernel
theorem dX11_goes_92 : decode cX11_goes 92 = .ok (.iinc 5 1, 3) := by decide +kernel
theorem dX11_goes_95 : decode cX11_goes 95 = .ok (.goto (-68), 3) := by decide +kernel
theorem dX11_goes_98 : decode cX11_goes 98 = .ok (.aload_n 0, 1) := by decide +kernel
theorem dX11_goes_99 : decode cX11_goes 99 = .ok (.getfield 7, 3) := by decide +kernel
theorem dX11_goes_102 : decode cX11_goes 102 = .ok (.sipush 129, 3) := by decide +kernel
theorem dX11_goes_105 : decode cX11_goes 105 = .ok (.iload_n 1, 1) := by decide +kernel
theorem dX11_goes_106 : decode cX11_goes 106 = .ok (.iadd, 1) := by decide +kernel
theorem dX11_goes_107 : decode cX11_goes 107 = .ok (.iload 4, 2) := by decide +kernel
theorem dX11_goes_109 : decode cX11_goes 109 = .ok (.iastore, 1) := by decide +kernel
theorem dX11_goes_110 : decode cX11_goes 110 = .ok (.iload 4, 2) := by decide +kernel
theorem dX11_goes_112 : decode cX11_goes 112 = .ok (.iload_n 2, 1) := by decide +kernel
theorem dX11_goes_113 : decode cX11_goes 113 = .ok (.if_icmp .ne 7, 3) := by decide +kernel
theorem dX11_goes_116 : decode cX11_goes 116 = .ok (.iconst 0, 1) := by decide +kernel
theorem dX11_goes_117 : decode cX11_goes 117 = .ok (.goto 4, 3) := by decide +kernel
theorem dX11_goes_120 : decode cX11_goes 120 = .ok (.iconst 1, 1) := by decide +kernel
theorem dX11_goes_121 : decode cX11_goes 121 = .ok (.ireturn, 1) := by decide +kernel
theorem dX11_weeks_0 : decode cX11_weeks 0 = .ok (.iload_n 1, 1) := by decide +kernel
theorem dX11_weeks_1 : decode cX11_weeks 1 = .ok (.i2l, 1) := by decide +kernel
theorem dX11_weeks_2 : decode cX11_weeks 2 = .ok (.lconst 1, 1) := by decide +kernel
theorem dX11_weeks_3 : decode cX11_weeks 3 = .ok (.ldc2_w 146, 3) := by decide +kernel
theorem dX11_weeks_6 : decode cX11_weeks 6 = .ok (.invokestatic 50, 3) := by decide +kernel
theorem dX11_weeks_9 : decode cX11_weeks 9 = .ok (.ifCond .ne 5, 3) := by decide +kernel
theorem dX11_weeks_12 : decode cX11_weeks 12 = .ok (.iconst (-1), 1) := by decide +kernel
theorem dX11_weeks_13 : decode cX11_weeks 13 = .ok (.ireturn, 1) := by decide +kernel
theorem dX11_weeks_14 : decode cX11_weeks 14 = .ok (.aload_n 0, 1) := by decide +kernel
theorem dX11_weeks_15 : decode cX11_weeks 15 = .ok (.getfield 7, 3) := by decide +kernel
theorem dX11_weeks_18 : decode cX11_weeks 18 = .ok (.iconst 5, 1) := by decide +kernel
theorem dX11_weeks_19 : decode cX11_weeks 19 = .ok (.iaload, 1) := by decide +kernel
theorem dX11_weeks_20 : decode cX11_weeks 20 = .ok (.iload_n 1, 1) := by decide +kernel
theorem dX11_weeks_21 : decode cX11_weeks 21 = .ok (.iadd, 1) := by decide +kernel
theorem dX11_weeks_22 : decode cX11_weeks 22 = .ok (.sipush 9999, 3) := by decide +kernel
theorem dX11_weeks_25 : decode cX11_weeks 25 = .ok (.if_icmp .le 6, 3) := by decide +kernel
theorem dX11_weeks_28 : decode cX11_weeks 28 = .ok (.bipush (-3), 2) := by decide +kernel
theorem dX11_weeks_30 : decode cX11_weeks 30 = .ok (.ireturn, 1) := by decide +kernel
theorem dX11_weeks_31 : decode cX11_weeks 31 = .ok (.iconst 0, 1) := by decide +kernel
theorem dX11_weeks_32 : decode cX11_weeks 32 = .ok (.istore_n 2, 1) := by decide +kernel
theorem dX11_weeks_33 : decode cX11_weeks 33 = .ok (.iconst 0, 1) := by decide +kernel
theorem dX11_weeks_34 : decode cX11_weeks 34 = .ok (.istore_n 3, 1) := by decide +kernel
theorem dX11_weeks_35 : decode cX11_weeks 35 = .ok (.iconst 0, 1) := by decide +kernel
theorem dX11_weeks_36 : decode cX11_weeks 36 = .ok (.istore 4, 2) := by decide +kernel
theorem dX11_weeks_38 : decode cX11_weeks 38 = .ok (.iload 4, 2) := by decide +kernel
theorem dX11_weeks_40 : decode cX11_weeks 40 = .ok (.iload_n 1, 1) := by decide +kernel
theorem dX11_weeks_41 : decode cX11_weeks 41 = .ok (.if_icmp .ge 167, 3) := by decide +kernel
theorem dX11_weeks_44 : decode cX11_weeks 44 = .ok (.aload_n 0, 1) := by decide +kernel
theorem dX11_weeks_45 : decode cX11_weeks 45 = .ok (.getfield 7, 3) := by decide +kernel
theorem dX11_weeks_48 : decode cX11_weeks 48 = .ok (.iconst 5, 1) := by decide +kernel
theorem dX11_weeks_49 : decode cX11_weeks 49 = .ok (.dup2, 1) := by decide +kernel
theorem dX11_weeks_50 : decode cX11_weeks 50 = .ok (.iaload, 1) := by decide +kernel
theorem dX11_weeks_51 : decode cX11_weeks 51 = .ok (.iconst 1, 1) := by decide +kernel
theorem dX11_weeks_52 : decode cX11_weeks 52 = .ok (.iadd, 1) := by decide +kernel
theorem dX11_weeks_53 : decode cX11_weeks 53 = .ok (.iastore, 1) := by decide +kernel
theorem dX11_weeks_54 : decode cX11_weeks 54 = .ok (.iconst 0, 1) := by decide +kernel
theorem dX11_weeks_55 : decode cX11_weeks 55 = .ok (.istore 5, 2) := by decide +kernel
theorem dX11_weeks_57 : decode cX11_weeks 57 = .ok (.iload 5, 2) := by decide +kernel
theorem dX11_weeks_59 : decode cX11_weeks 59 = .ok (.aload_n 0, 1) := by decide +kernel
theorem dX11_weeks_60 : decode cX11_weeks 60 = .ok (.getfield 7, 3) := by decide +kernel
theorem dX11_weeks_63 : decode cX11_weeks 63 = .ok (.iconst 4, 1) := by decide +kernel
theorem dX11_weeks_64 : decode cX11_weeks 64 = .ok (.iaload, 1) := by decide +kernel
theorem dX11_weeks_65 : decode cX11_weeks 65 = .ok (.if_icmp .ge 18, 3) := by decide +kernel
theorem dX11_weeks_68 : decode cX11_weeks 68 = .ok (.iload_n 3, 1) := by decide +kernel
theorem dX11_weeks_69 : decode cX11_weeks 69 = .ok (.aload_n 0, 1) := by decide +kernel
theorem dX11_weeks_70 : decode cX11_weeks 70 = .ok (.iload 5, 2) := by decide +kernel
theorem dX11_weeks_72 : decode cX11_weeks 72 = .ok (.invokevirtual 148, 3) := by decide +kernel
theorem dX11_weeks_75 : decode cX11_weeks 75 = .ok (.iadd, 1) := by decide +kernel
theorem dX11_weeks_76 : decode cX11_weeks 76 = .ok (.istore_n 3, 1) := by decide +kernel
theorem dX11_weeks_77 : decode cX11_weeks 77 = .ok (.iinc 5 1, 3) := by decide +kernel
theorem dX11_weeks_80 : decode cX11_weeks 80 = .ok (.goto (-23), 3) := by decide +kernel
theorem dX11_weeks_83 : decode cX11_weeks 83 = .ok (.iconst 0, 1) := by decide +kernel
theorem dX11_weeks_84 : decode cX11_weeks 84 = .ok (.istore 5, 2) := by decide +kernel
theorem dX11_weeks_86 : decode cX11_weeks 86 = .ok (.iload 5, 2) := by decide +kernel
theorem dX11_weeks_88 : decode cX11_weeks 88 = .ok (.aload_n 0, 1) := by decide +kernel
theorem dX11_weeks_89 : decode cX11_weeks 89 = .ok (.getfield 7, 3) := by decide +kernel
theorem dX11_weeks_92 : decode cX11_weeks 92 = .ok (.iconst 3, 1) := by decide +kernel
theorem dX11_weeks_93 : decode cX11_weeks 93 = .ok (.iaload, 1) := by decide +kernel
theorem dX11_weeks_94 : decode cX11_weeks 94 = .ok (.if_icmp .ge 108, 3) := by decide +kernel
theorem dX11_weeks_97 : decode cX11_weeks 97 = .ok (.aload_n 0, 1) := by decide +kernel
theorem dX11_weeks_98 : decode cX11_weeks 98 = .ok (.getfield 7, 3) := by decide +kernel
theorem dX11_weeks_101 : decode cX11_weeks 101 = .ok (.bipush 117, 2) := by decide +kernel
theorem dX11_weeks_103 : decode cX11_weeks 103 = .ok (.iload 5, 2) := by decide +kernel
theorem dX11_weeks_105 : decode cX11_weeks 105 = .ok (.iadd, 1) := by decide +kernel
theorem dX11_weeks_106 : decode cX11_weeks 106 = .ok (.iaload, 1) := by decide +kernel
theorem dX11_weeks_107 : decode cX11_weeks 107 = .ok (.ifCond .le 44, 3) := by decide +kernel
theorem dX11_weeks_110 : decode cX11_weeks 110 = .ok (.aload_n 0, 1) := by decide +kernel
theorem dX11_weeks_111 : decode cX11_weeks 111 = .ok (.aload_n 0, 1) := by decide +kernel
theorem dX11_weeks_112 : decode cX11_weeks 112 = .ok (.getfield 7, 3) := by decide +kernel
theorem dX11_weeks_115 : decode cX11_weeks 115 = .ok (.bipush 111, 2) := by decide +kernel
theorem dX11_weeks_117 : decode cX11_weeks 117 = .ok (.iload 5, 2) := by decide +kernel
theorem dX11_weeks_119 : decode cX11_weeks 119 = .ok (.iadd, 1) := by decide +kernel
theorem dX11_weeks_120 : decode cX11_weeks 120 = .ok (.iaload, 1) := by decide +kernel
theorem dX11_weeks_121 : decode cX11_weeks 121 = .ok (.aload_n 0, 1) := by decide +kernel
theorem dX11_weeks_122 : decode cX11_weeks 122 = .ok (.getfield 7, 3) := by decide +kernel
theorem dX11_weeks_125 : decode cX11_weeks 125 = .ok (.bipush 99, 2) := by decide +kernel
theorem dX11_weeks_127 : decode cX11_weeks 127 = .ok (.iload 5, 2) := by decide +kernel
theorem dX11_weeks_129 : decode cX11_weeks 129 = .ok (.iadd, 1) := by decide +kernel
theorem dX11_weeks_130 : decode cX11_weeks 130 = .ok (.iaload, 1) := by decide +kernel
theorem dX11_weeks_131 : decode cX11_weeks 131 = .ok (.invokevirtual 88, 3) := by decide +kernel
theorem dX11_weeks_134 : decode cX11_weeks 134 = .ok (.aload_n 0, 1) := by decide +kernel
theorem dX11_weeks_135 : decode cX11_weeks 135 = .ok (.getfield 7, 3) := by decide +kernel
theorem dX11_weeks_138 : decode cX11_weeks 138 = .ok (.bipush 117, 2) := by decide +kernel
theorem dX11_weeks_140 : decode cX11_weeks 140 = .ok (.iload 5, 2) := by decide +kernel
theorem dX11_weeks_142 : decode cX11_weeks 142 = .ok (.iadd, 1) := by decide +kernel
theorem dX11_weeks_143 : decode cX11_weeks 143 = .ok (.iaload, 1) := by decide +kernel
theorem dX11_weeks_144 : decode cX11_weeks 144 = .ok (.if_icmp .le 7, 3) := by decide +kernel
theorem dX11_weeks_147 : decode cX11_weeks 147 = .ok (.iconst 1, 1) := by decide +kernel
theorem dX11_weeks_148 : decode cX11_weeks 148 = .ok (.goto 4, 3) := by decide +kernel
theorem dX11_weeks_151 : decode cX11_weeks 151 = .ok (.iconst 0, 1) := by decide +kernel
theorem dX11_weeks_152 : decode cX11_weeks 152 = .ok (.istore 6, 2) := by decide +kernel
theorem dX11_weeks_154 : decode cX11_weeks 154 = .ok (.iload_n 2, 1) := by decide +kernel
theorem dX11_weeks_155 : decode cX11_weeks 155 = .ok (.iload 6, 2) := by decide +kernel
theorem dX11_weeks_157 : decode cX11_weeks 157 = .ok (.ifCond .eq 7, 3) := by decide +kernel
theorem dX11_weeks_160 : decode cX11_weeks 160 = .ok (.iconst 1, 1) := by decide +kernel
theorem dX11_weeks_161 : decode cX11_weeks 161 = .ok (.goto 4, 3) := by decide +kernel
theorem dX11_weeks_164 : decode cX11_weeks 164 = .ok (.iconst 0, 1) := by decide +kernel
theorem dX11_weeks_165 : decode cX11_weeks 165 = .ok (.iadd, 1) := by decide +kernel
theorem dX11_weeks_166 : decode cX11_weeks 166 = .ok (.istore_n 2, 1) := by decide +kernel
theorem dX11_weeks_167 : decode cX11_weeks 167 = .ok (.aload_n 0, 1) := by decide +kernel
theorem dX11_weeks_168 : decode cX11_weeks 168 = .ok (.getfield 7, 3) := by decide +kernel
theorem dX11_weeks_171 : decode cX11_weeks 171 = .ok (.bipush 117, 2) := by decide +kernel
theorem dX11_weeks_173 : decode cX11_weeks 173 = .ok (.iload 5, 2) := by decide +kernel
theorem dX11_weeks_175 : decode cX11_weeks 175 = .ok (.iadd, 1) := by decide +kernel
theorem dX11_weeks_176 : decode cX11_weeks 176 = .ok (.iload 6, 2) := by decide +kernel
theorem dX11_weeks_178 : decode cX11_weeks 178 = .ok (.ifCond .eq 7, 3) := by decide +kernel
theorem dX11_weeks_181 : decode cX11_weeks 181 = .ok (.iconst 0, 1) := by decide +kernel
theorem dX11_weeks_182 : decode cX11_weeks 182 = .ok (.goto 13, 3) := by decide +kernel
theorem dX11_weeks_185 : decode cX11_weeks 185 = .ok (.aload_n 0, 1) := by decide +kernel
theorem dX11_weeks_186 : decode cX11_weeks 186 = .ok (.getfield 7, 3) := by decide +kernel
theorem dX11_weeks_189 : decode cX11_weeks 189 = .ok (.bipush 117, 2) := by decide +kernel
theorem dX11_weeks_191 : decode cX11_weeks 191 = .ok (.iload 5, 2) := by decide +kernel
theorem dX11_weeks_193 : decode cX11_weeks 193 = .ok (.iadd, 1) := by decide +kernel
theorem dX11_weeks_194 : decode cX11_weeks 194 = .ok (.iaload, 1) := by decide +kernel
theorem dX11_weeks_195 : decode cX11_weeks 195 = .ok (.iastore, 1) := by decide +kernel
theorem dX11_weeks_196 : decode cX11_weeks 196 = .ok (.iinc 5 1, 3) := by decide +kernel
theorem dX11_weeks_199 : decode cX11_weeks 199 = .ok (.goto (-113), 3) := by decide +kernel
theorem dX11_weeks_202 : decode cX11_weeks 202 = .ok (.iinc 4 1, 3) := by decide +kernel
theorem dX11_weeks_205 : decode cX11_weeks 205 = .ok (.goto (-167), 3) := by decide +kernel
theorem dX11_weeks_208 : decode cX11_weeks 208 = .ok (.iload_n 2, 1) := by decide +kernel
theorem dX11_weeks_209 : decode cX11_weeks 209 = .ok (.bipush 100, 2) := by decide +kernel
theorem dX11_weeks_211 : decode cX11_weeks 211 = .ok (.iload_n 3, 1) := by decide +kernel
theorem dX11_weeks_212 : decode cX11_weeks 212 = .ok (.imul, 1) := by decide +kernel
theorem dX11_weeks_213 : decode cX11_weeks 213 = .ok (.iadd, 1) := by decide +kernel
theorem dX11_weeks_214 : decode cX11_weeks 214 = .ok (.ireturn, 1) := by decide +kernel
theorem dX11_costOf_0 : decode cX11_costOf 0 = .ok (.aload_n 0, 1) := by decide +kernel
theorem dX11_costOf_1 : decode cX11_costOf 1 = .ok (.iload 4, 2) := by decide +kernel
theorem dX11_costOf_3 : decode cX11_costOf 3 = .ok (.iload 5, 2) := by decide +kernel
theorem dX11_costOf_5 : decode cX11_costOf 5 = .ok (.invokevirtual 74, 3) := by decide +kernel
theorem dX11_costOf_8 : decode cX11_costOf 8 = .ok (.istore 6, 2) := by decide +kernel
theorem dX11_costOf_10 : decode cX11_costOf 10 = .ok (.iload 6, 2) := by decide +kernel
theorem dX11_costOf_12 : decode cX11_costOf 12 = .ok (.ifCond .ge 6, 3) := by decide +kernel
theorem dX11_costOf_15 : decode cX11_costOf 15 = .ok (.ldc 151, 2) := by decide +kernel
theorem dX11_costOf_17 : decode cX11_costOf 17 = .ok (.ireturn, 1) := by decide +kernel
theorem dX11_costOf_18 : decode cX11_costOf 18 = .ok (.iload_n 3, 1) := by decide +kernel
theorem dX11_costOf_19 : decode cX11_costOf 19 = .ok (.iload 4, 2) := by decide +kernel
theorem dX11_costOf_21 : decode cX11_costOf 21 = .ok (.ishr, 1) := by decide +kernel
theorem dX11_costOf_22 : decode cX11_costOf 22 = .ok (.iconst 1, 1) := by decide +kernel
theorem dX11_costOf_23 : decode cX11_costOf 23 = .ok (.iand, 1) := by decide +kernel
theorem dX11_costOf_24 : decode cX11_costOf 24 = .ok (.iconst 1, 1) := by decide +kernel
theorem dX11_costOf_25 : decode cX11_costOf 25 = .ok (.if_icmp .ne 17, 3) := by decide +kernel
theorem dX11_costOf_28 : decode cX11_costOf 28 = .ok (.iload_n 3, 1) := by decide +kernel
theorem dX11_costOf_29 : decode cX11_costOf 29 = .ok (.iload 5, 2) := by decide +kernel
theorem dX11_costOf_31 : decode cX11_costOf 31 = .ok (.ishr, 1) := by decide +kernel
theorem dX11_costOf_32 : decode cX11_costOf 32 = .ok (.iconst 1, 1) := by decide +kernel
theorem dX11_costOf_33 : decode cX11_costOf 33 = .ok (.iand, 1) := by decide +kernel
theorem dX11_costOf_34 : decode cX11_costOf 34 = .ok (.iconst 1, 1) := by decide +kernel
theorem dX11_costOf_35 : decode cX11_costOf 35 = .ok (.if_icmp .ne 7, 3) := by decide +kernel
theorem dX11_costOf_38 : decode cX11_costOf 38 = .ok (.iconst 1, 1) := by decide +kernel
theorem dX11_costOf_39 : decode cX11_costOf 39 = .ok (.goto 4, 3) := by decide +kernel
theorem dX11_costOf_42 : decode cX11_costOf 42 = .ok (.iconst 0, 1) := by decide +kernel
theorem dX11_costOf_43 : decode cX11_costOf 43 = .ok (.istore 7, 2) := by decide +kernel
theorem dX11_costOf_45 : decode cX11_costOf 45 = .ok (.aload_n 0, 1) := by decide +kernel
theorem dX11_costOf_46 : decode cX11_costOf 46 = .ok (.getfield 7, 3) := by decide +kernel
theorem dX11_costOf_49 : decode cX11_costOf 49 = .ok (.bipush 95, 2) := by decide +kernel
theorem dX11_costOf_51 : decode cX11_costOf 51 = .ok (.iload_n 1, 1) := by decide +kernel
theorem dX11_costOf_52 : decode cX11_costOf 52 = .ok (.iadd, 1) := by decide +kernel
theorem dX11_costOf_53 : decode cX11_costOf 53 = .ok (.iaload, 1) := by decide +kernel
theorem dX11_costOf_54 : decode cX11_costOf 54 = .ok (.iload 7, 2) := by decide +kernel
theorem dX11_costOf_56 : decode cX11_costOf 56 = .ok (.ifCond .eq 7, 3) := by decide +kernel
theorem dX11_costOf_59 : decode cX11_costOf 59 = .ok (.iconst 0, 1) := by decide +kernel
theorem dX11_costOf_60 : decode cX11_costOf 60 = .ok (.goto 24, 3) := by decide +kernel
theorem dX11_costOf_63 : decode cX11_costOf 63 = .ok (.aload_n 0, 1) := by decide +kernel
theorem dX11_costOf_64 : decode cX11_costOf 64 = .ok (.getfield 7, 3) := by decide +kernel
theorem dX11_costOf_67 : decode cX11_costOf 67 = .ok (.bipush 76, 2) := by decide +kernel
theorem dX11_costOf_69 : decode cX11_costOf 69 = .ok (.iload 6, 2) := by decide +kernel
theorem dX11_costOf_71 : decode cX11_costOf 71 = .ok (.iadd, 1) := by decide +kernel
theorem dX11_costOf_72 : decode cX11_costOf 72 = .ok (.iaload, 1) := by decide +kernel
theorem dX11_costOf_73 : decode cX11_costOf 73 = .ok (.aload_n 0, 1) := by decide +kernel
theorem dX11_costOf_74 : decode cX11_costOf 74 = .ok (.iload 4, 2) := by decide +kernel
theorem dX11_costOf_76 : decode cX11_costOf 76 = .ok (.iload_n 2, 1) := by decide +kernel
theorem dX11_costOf_77 : decode cX11_costOf 77 = .ok (.invokevirtual 88, 3) := by decide +kernel
theorem dX11_costOf_80 : decode cX11_costOf 80 = .ok (.imul, 1) := by decide +kernel
theorem dX11_costOf_81 : decode cX11_costOf 81 = .ok (.bipush 10, 2) := by decide +kernel
theorem dX11_costOf_83 : decode cX11_costOf 83 = .ok (.idiv, 1) := by decide +kernel
theorem dX11_costOf_84 : decode cX11_costOf 84 = .ok (.iadd, 1) := by decide +kernel
theorem dX11_costOf_85 : decode cX11_costOf 85 = .ok (.ireturn, 1) := by decide +kernel
theorem dX11_bears_0 : decode cX11_bears 0 = .ok (.aload_n 0, 1) := by decide +kernel
theorem dX11_bears_1 : decode cX11_bears 1 = .ok (.iload_n 3, 1) := by decide +kernel
theorem dX11_bears_2 : decode cX11_bears 2 = .ok (.iload_n 2, 1) := by decide +kernel
theorem dX11_bears_3 : decode cX11_bears 3 = .ok (.invokevirtual 88, 3) := by decide +kernel
theorem dX11_bears_6 : decode cX11_bears 6 = .ok (.aload_n 0, 1) := by decide +kernel
theorem dX11_bears_7 : decode cX11_bears 7 = .ok (.getfield 7, 3) := by decide +kernel
theorem dX11_bears_10 : decode cX11_bears 10 = .ok (.bipush 91, 2) := by decide +kernel
theorem dX11_bears_12 : decode cX11_bears 12 = .ok (.iload_n 1, 1) := by decide +kernel
theorem dX11_bears_13 : decode cX11_bears 13 = .ok (.iadd, 1) := by decide +kernel
theorem dX11_bears_14 : decode cX11_bears 14 = .ok (.iaload, 1) := by decide +kernel
theorem dX11_bears_15 : decode cX11_bears 15 = .ok (.if_icmp .gt 7, 3) := by decide +kernel
theorem dX11_bears_18 : decode cX11_bears 18 = .ok (.iconst 1, 1) := by decide +kernel
theorem dX11_bears_19 : decode cX11_bears 19 = .ok (.goto 4, 3) := by decide +kernel
theorem dX11_bears_22 : decode cX11_bears 22 = .ok (.iconst 0, 1) := by decide +kernel
theorem dX11_bears_23 : decode cX11_bears 23 = .ok (.ireturn, 1) := by decide +kernel
theorem dX11_layWays_0 : decode cX11_layWays 0 = .ok (.aload_n 0, 1) := by decide +kernel
theorem dX11_layWays_1 : decode cX11_layWays 1 = .ok (.getfield 7, 3) := by decide +kernel
theorem dX11_layWays_4 : decode cX11_layWays 4 = .ok (.iconst 0, 1) := by decide +kernel
theorem dX11_layWays_5 : decode cX11_layWays 5 = .ok (.iaload, 1) := by decide +kernel
theorem dX11_layWays_6 : decode cX11_layWays 6 = .ok (.istore 4, 2) := by decide +kernel
theorem dX11_layWays_8 : decode cX11_layWays 8 = .ok (.iconst 0, 1) := by decide +kernel
theorem dX11_layWays_9 : decode cX11_layWays 9 = .ok (.istore 5, 2) := by decide +kernel
theorem dX11_layWays_11 : decode cX11_layWays 11 = .ok (.iload 5, 2) := by decide +kernel
theorem dX11_layWays_13 : decode cX11_layWays 13 = .ok (.iload 4, 2) := by decide +kernel
theorem dX11_layWays_15 : decode cX11_layWays 15 = .ok (.if_icmp .ge 99, 3) := by decide +kernel
theorem dX11_layWays_18 : decode cX11_layWays 18 = .ok (.iconst 0, 1) := by decide +kernel
theorem dX11_layWays_19 : decode cX11_layWays 19 = .ok (.istore 6, 2) := by decide +kernel
theorem dX11_layWays_21 : decode cX11_layWays 21 = .ok (.iload 6, 2) := by decide +kernel
theorem dX11_layWays_23 : decode cX11_layWays 23 = .ok (.iload 4, 2) := by decide +kernel
theorem dX11_layWays_25 : decode cX11_layWays 25 = .ok (.if_icmp .ge 83, 3) := by decide +kernel
theorem dX11_layWays_28 : decode cX11_layWays 28 = .ok (.aload_n 0, 1) := by decide +kernel
theorem dX11_layWays_29 : decode cX11_layWays 29 = .ok (.iload_n 1, 1) := by decide +kernel
theorem dX11_layWays_30 : decode cX11_layWays 30 = .ok (.iload_n 2, 1) := by decide +kernel
theorem dX11_layWays_31 : decode cX11_layWays 31 = .ok (.iload 5, 2) := by decide +kernel
theorem dX11_layWays_33 : decode cX11_layWays 33 = .ok (.invokevirtual 152, 3) := by decide +kernel
theorem dX11_layWays_36 : decode cX11_layWays 36 = .ok (.ifCond .eq 18, 3) := by decide +kernel
theorem dX11_layWays_39 : decode cX11_layWays 39 = .ok (.aload_n 0, 1) := by decide +kernel
theorem dX11_layWays_40 : decode cX11_layWays 40 = .ok (.iload_n 1, 1) := by decide +kernel
theorem dX11_layWays_41 : decode cX11_layWays 41 = .ok (.iload_n 2, 1) := by decide +kernel
theorem dX11_layWays_42 : decode cX11_layWays 42 = .ok (.iload 6, 2) := by decide +kernel
theorem dX11_layWays_44 : decode cX11_layWays 44 = .ok (.invokevirtual 152, 3) := by decide +kernel
theorem dX11_layWays_47 : decode cX11_layWays 47 = .ok (.ifCond .eq 7, 3) := by decide +kernel
theorem dX11_layWays_50 : decode cX11_layWays 50 = .ok (.iconst 1, 1) := by decide +kernel
theorem dX11_layWays_51 : decode cX11_layWays 51 = .ok (.goto 4, 3) := by decide +kernel
theorem dX11_layWays_54 : decode cX11_layWays 54 = .ok (.iconst 0, 1) := by decide +kernel
theorem dX11_layWays_55 : decode cX11_layWays 55 = .ok (.istore 7, 2) := by decide +kernel
theorem dX11_layWays_57 : decode cX11_layWays 57 = .ok (.aload_n 0, 1) := by decide +kernel
theorem dX11_layWays_58 : decode cX11_layWays 58 = .ok (.getfield 32, 3) := by decide +kernel
theorem dX11_layWays_61 : decode cX11_layWays 61 = .ok (.bipush 8, 2) := by decide +kernel
theorem dX11_layWays_63 : decode cX11_layWays 63 = .ok (.iload 5, 2) := by decide +kernel
theorem dX11_layWays_65 : decode cX11_layWays 65 = .ok (.imul, 1) := by decide +kernel
theorem dX11_layWays_66 : decode cX11_layWays 66 = .ok (.iload 6, 2) := by decide +kernel
theorem dX11_layWays_68 : decode cX11_layWays 68 = .ok (.iadd, 1) := by decide +kernel
theorem dX11_layWays_69 : decode cX11_layWays 69 = .ok (.iload 7, 2) := by decide +kernel
theorem dX11_layWays_71 : decode cX11_layWays 71 = .ok (.ifCond .ne 8, 3) := by decide +kernel
theorem dX11_layWays_74 : decode cX11_layWays 74 = .ok (.ldc 151, 2) := by decide +kernel
theorem dX11_layWays_76 : decode cX11_layWays 76 = .ok (.goto 25, 3) := by decide +kernel
theorem dX11_layWays_79 : decode cX11_layWays 79 = .ok (.iload 5, 2) := by decide +kernel
theorem dX11_layWays_81 : decode cX11_layWays 81 = .ok (.iload 6, 2) := by decide +kernel
theorem dX11_layWays_83 : decode cX11_layWays 83 = .ok (.if_icmp .ne 7, 3) := by decide +kernel
theorem dX11_layWays_86 : decode cX11_layWays 86 = .ok (.iconst 0, 1) := by decide +kernel
theorem dX11_layWays_87 : decode cX11_layWays 87 = .ok (.goto 14, 3) := by decide +kernel
theorem dX11_layWays_90 : decode cX11_layWays 90 = .ok (.aload_n 0, 1) := by decide +kernel
theorem dX11_layWays_91 : decode cX11_layWays 91 = .ok (.iload_n 1, 1) := by decide +kernel
theorem dX11_layWays_92 : decode cX11_layWays 92 = .ok (.iload_n 2, 1) := by decide +kernel
theorem dX11_layWays_93 : decode cX11_layWays 93 = .ok (.iload_n 3, 1) := by decide +kernel
theorem dX11_layWays_94 : decode cX11_layWays 94 = .ok (.iload 5, 2) := by decide +kernel
theorem dX11_layWays_96 : decode cX11_layWays 96 = .ok (.iload 6, 2) := by decide +kernel
theorem dX11_layWays_98 : decode cX11_layWays 98 = .ok (.invokevirtual 156, 3) := by decide +kernel
theorem dX11_layWays_101 : decode cX11_layWays 101 = .ok (.iastore, 1) := by decide +kernel
theorem dX11_layWays_102 : decode cX11_layWays 102 = .ok (.iinc 6 1, 3) := by decide +kernel
theorem dX11_layWays_105 : decode cX11_layWays 105 = .ok (.goto (-84), 3) := by decide +kernel
theorem dX11_layWays_108 : decode cX11_layWays 108 = .ok (.iinc 5 1, 3) := by decide +kernel
theorem dX11_layWays_111 : decode cX11_layWays 111 = .ok (.goto (-100), 3) := by decide +kernel
theorem dX11_layWays_114 : decode cX11_layWays 114 = .ok (.iconst 0, 1) := by decide +kernel
theorem dX11_layWays_115 : decode cX11_layWays 115 = .ok (.istore 5, 2) := by decide +kernel
theorem dX11_layWays_117 : decode cX11_layWays 117 = .ok (.iload 5, 2) := by decide +kernel
theorem dX11_layWays_119 : decode cX11_layWays 119 = .ok (.iload 4, 2) := by decide +kernel
theorem dX11_layWays_121 : decode cX11_layWays 121 = .ok (.if_icmp .ge 119, 3) := by decide +kernel
theorem dX11_layWays_124 : decode cX11_layWays 124 = .ok (.iconst 0, 1) := by decide +kernel
theorem dX11_layWays_125 : decode cX11_layWays 125 = .ok (.istore 6, 2) := by decide +kernel
theorem dX11_layWays_127 : decode cX11_layWays 127 = .ok (.iload 6, 2) := by decide +kernel
theorem dX11_layWays_129 : decode cX11_layWays 129 = .ok (.iload 4, 2) := by decide +kernel
theorem dX11_layWays_131 : decode cX11_layWays 131 = .ok (.if_icmp .ge 103, 3) := by decide +kernel
theorem dX11_layWays_134 : decode cX11_layWays 134 = .ok (.iconst 0, 1) := by decide +kernel
theorem dX11_layWays_135 : decode cX11_layWays 135 = .ok (.istore 7, 2) := by decide +kernel
theorem dX11_layWays_137 : decode cX11_layWays 137 = .ok (.iload 7, 2) := by decide +kernel
theorem dX11_layWays_139 : decode cX11_layWays 139 = .ok (.iload 4, 2) := by decide +kernel
theorem dX11_layWays_141 : decode cX11_layWays 141 = .ok (.if_icmp .ge 87, 3) := by decide +kernel
theorem dX11_layWays_144 : decode cX11_layWays 144 = .ok (.aload_n 0, 1) := by decide +kernel
theorem dX11_layWays_145 : decode cX11_layWays 145 = .ok (.getfield 32, 3) := by decide +kernel
theorem dX11_layWays_148 : decode cX11_layWays 148 = .ok (.bipush 8, 2) := by decide +kernel
theorem dX11_layWays_150 : decode cX11_layWays 150 = .ok (.iload 6, 2) := by decide +kernel
theorem dX11_layWays_152 : decode cX11_layWays 152 = .ok (.imul, 1) := by decide +kernel
theorem dX11_layWays_153 : decode cX11_layWays 153 = .ok (.iload 5, 2) := by decide +kernel
theorem dX11_layWays_155 : decode cX11_layWays 155 = .ok (.iadd, 1) := by decide +kernel
theorem dX11_layWays_156 : decode cX11_layWays 156 = .ok (.iaload, 1) := by decide +kernel
theorem dX11_layWays_157 : decode cX11_layWays 157 = .ok (.aload_n 0, 1) := by decide +kernel
theorem dX11_layWays_158 : decode cX11_layWays 158 = .ok (.getfield 32, 3) := by decide +kernel
theorem dX11_layWays_161 : decode cX11_layWays 161 = .ok (.bipush 8, 2) := by decide +kernel
theorem dX11_layWays_163 : decode cX11_layWays 163 = .ok (.iload 5, 2) := by decide +kernel
theorem dX11_layWays_165 : decode cX11_layWays 165 = .ok (.imul, 1) := by decide +kernel
theorem dX11_layWays_166 : decode cX11_layWays 166 = .ok (.iload 7, 2) := by decide +kernel
theorem dX11_layWays_168 : decode cX11_layWays 168 = .ok (.iadd, 1) := by decide +kernel
theorem dX11_layWays_169 : decode cX11_layWays 169 = .ok (.iaload, 1) := by decide +kernel
theorem dX11_layWays_170 : decode cX11_layWays 170 = .ok (.iadd, 1) := by decide +kernel
theorem dX11_layWays_171 : decode cX11_layWays 171 = .ok (.istore 8, 2) := by decide +kernel
theorem dX11_layWays_173 : decode cX11_layWays 173 = .ok (.aload_n 0, 1) := by decide +kernel
theorem dX11_layWays_174 : decode cX11_layWays 174 = .ok (.getfield 32, 3) := by decide +kernel
theorem dX11_layWays_177 : decode cX11_layWays 177 = .ok (.bipush 8, 2) := by decide +kernel
theorem dX11_layWays_179 : decode cX11_layWays 179 = .ok (.iload 6, 2) := by decide +kernel
theorem dX11_layWays_181 : decode cX11_layWays 181 = .ok (.imul, 1) := by decide +kernel
theorem dX11_layWays_182 : decode cX11_layWays 182 = .ok (.iload 7, 2) := by decide +kernel
theorem dX11_layWays_184 : decode cX11_layWays 184 = .ok (.iadd, 1) := by decide +kernel
theorem dX11_layWays_185 : decode cX11_layWays 185 = .ok (.iload 8, 2) := by decide +kernel
theorem dX11_layWays_187 : decode cX11_layWays 187 = .ok (.aload_n 0, 1) := by decide +kernel
theorem dX11_layWays_188 : decode cX11_layWays 188 = .ok (.getfield 32, 3) := by decide +kernel
theorem dX11_layWays_191 : decode cX11_layWays 191 = .ok (.bipush 8, 2) := by decide +kernel
theorem dX11_layWays_193 : decode cX11_layWays 193 = .ok (.iload 6, 2) := by decide +kernel
theorem dX11_layWays_195 : decode cX11_layWays 195 = .ok (.imul, 1) := by decide +kernel
theorem dX11_layWays_196 : decode cX11_layWays 196 = .ok (.iload 7, 2) := by decide +kernel
theorem dX11_layWays_198 : decode cX11_layWays 198 = .ok (.iadd, 1) := by decide +kernel
theorem dX11_layWays_199 : decode cX11_layWays 199 = .ok (.iaload, 1) := by decide +kernel
theorem dX11_layWays_200 : decode cX11_layWays 200 = .ok (.if_icmp .ge 8, 3) := by decide +kernel
theorem dX11_layWays_203 : decode cX11_layWays 203 = .ok (.iload 8, 2) := by decide +kernel
theorem dX11_layWays_205 : decode cX11_layWays 205 = .ok (.goto 16, 3) := by decide +kernel
theorem dX11_layWays_208 : decode cX11_layWays 208 = .ok (.aload_n 0, 1) := by decide +kernel
theorem dX11_layWays_209 : decode cX11_layWays 209 = .ok (.getfield 32, 3) := by decide +kernel
theorem dX11_layWays_212 : decode cX11_layWays 212 = .ok (.bipush 8, 2) := by decide +kernel
theorem dX11_layWays_214 : decode cX11_layWays 214 = .ok (.iload 6, 2) := by decide +kernel
theorem dX11_layWays_216 : decode cX11_layWays 216 = .ok (.imul, 1) := by decide +kernel
theorem dX11_layWays_217 : decode cX11_layWays 217 = .ok (.iload 7, 2) := by decide +kernel
theorem dX11_layWays_219 : decode cX11_layWays 219 = .ok (.iadd, 1) := by decide +kernel
theorem dX11_layWays_220 : decode cX11_layWays 220 = .ok (.iaload, 1) := by decide +kernel
theorem dX11_layWays_221 : decode cX11_layWays 221 = .ok (.iastore, 1) := by decide +kernel
theorem dX11_layWays_222 : decode cX11_layWays 222 = .ok (.iinc 7 1, 3) := by decide +kernel
theorem dX11_layWays_225 : decode cX11_layWays 225 = .ok (.goto (-88), 3) := by decide +kernel
theorem dX11_layWays_228 : decode cX11_layWays 228 = .ok (.iinc 6 1, 3) := by decide +kernel
theorem dX11_layWays_231 : decode cX11_layWays 231 = .ok (.goto (-104), 3) := by decide +kernel
theorem dX11_layWays_234 : decode cX11_layWays 234 = .ok (.iinc 5 1, 3) := by decide +kernel
theorem dX11_layWays_237 : decode cX11_layWays 237 = .ok (.goto (-120), 3) := by decide +kernel
theorem dX11_layWays_240 : decode cX11_layWays 240 = .ok (.return_, 1) := by decide +kernel
theorem dX11_layPath_0 : decode cX11_layPath 0 = .ok (.aload_n 0, 1) := by decide +kernel
theorem dX11_layPath_1 : decode cX11_layPath 1 = .ok (.getfield 32, 3) := by decide +kernel
theorem dX11_layPath_4 : decode cX11_layPath 4 = .ok (.bipush 8, 2) := by decide +kernel
theorem dX11_layPath_6 : decode cX11_layPath 6 = .ok (.iload_n 3, 1) := by decide +kernel
theorem dX11_layPath_7 : decode cX11_layPath 7 = .ok (.imul, 1) := by decide +kernel
theorem dX11_layPath_8 : decode cX11_layPath 8 = .ok (.iload 4, 2) := by decide +kernel
theorem dX11_layPath_10 : decode cX11_layPath 10 = .ok (.iadd, 1) := by decide +kernel
theorem dX11_layPath_11 : decode cX11_layPath 11 = .ok (.iaload, 1) := by decide +kernel
theorem dX11_layPath_12 : decode cX11_layPath 12 = .ok (.istore 5, 2) := by decide +kernel
theorem dX11_layPath_14 : decode cX11_layPath 14 = .ok (.iconst 0, 1) := by decide +kernel
theorem dX11_layPath_15 : decode cX11_layPath 15 = .ok (.istore 6, 2) := by decide +kernel
theorem dX11_layPath_17 : decode cX11_layPath 17 = .ok (.iconst 1, 1) := by decide +kernel
theorem dX11_layPath_18 : decode cX11_layPath 18 = .ok (.iload_n 3, 1) := by decide +kernel
theorem dX11_layPath_19 : decode cX11_layPath 19 = .ok (.ishl, 1) := by decide +kernel
theorem dX11_layPath_20 : decode cX11_layPath 20 = .ok (.istore 7, 2) := by decide +kernel
theorem dX11_layPath_22 : decode cX11_layPath 22 = .ok (.aload_n 0, 1) := by decide +kernel
theorem dX11_layPath_23 : decode cX11_layPath 23 = .ok (.getfield 35, 3) := by decide +kernel
theorem dX11_layPath_26 : decode cX11_layPath 26 = .ok (.iconst 0, 1) := by decide +kernel
theorem dX11_layPath_27 : decode cX11_layPath 27 = .ok (.iload_n 3, 1) := by decide +kernel
theorem dX11_layPath_28 : decode cX11_layPath 28 = .ok (.iastore, 1) := by decide +kernel
theorem dX11_layPath_29 : decode cX11_layPath 29 = .ok (.aload_n 0, 1) := by decide +kernel
theorem dX11_layPath_30 : decode cX11_layPath 30 = .ok (.getfield 38, 3) := by decide +kernel
theorem dX11_layPath_33 : decode cX11_layPath 33 = .ok (.iconst 0, 1) := by decide +kernel
theorem dX11_layPath_34 : decode cX11_layPath 34 = .ok (.iconst 0, 1) := by decide +kernel
theorem dX11_layPath_35 : decode cX11_layPath 35 = .ok (.iastore, 1) := by decide +kernel
theorem dX11_layPath_36 : decode cX11_layPath 36 = .ok (.iconst (-1), 1) := by decide +kernel
theorem dX11_layPath_37 : decode cX11_layPath 37 = .ok (.istore 8, 2) := by decide +kernel
theorem dX11_layPath_39 : decode cX11_layPath 39 = .ok (.aload_n 0, 1) := by decide +kernel
theorem dX11_layPath_40 : decode cX11_layPath 40 = .ok (.getfield 35, 3) := by decide +kernel
theorem dX11_layPath_43 : decode cX11_layPath 43 = .ok (.iload 6, 2) := by decide +kernel
theorem dX11_layPath_45 : decode cX11_layPath 45 = .ok (.iaload, 1) := by decide +kernel
theorem dX11_layPath_46 : decode cX11_layPath 46 = .ok (.iload 4, 2) := by decide +kernel
theorem dX11_layPath_48 : decode cX11_layPath 48 = .ok (.if_icmp .ne 15, 3) := by decide +kernel
theorem dX11_layPath_51 : decode cX11_layPath 51 = .ok (.aload_n 0, 1) := by decide +kernel
theorem dX11_layPath_52 : decode cX11_layPath 52 = .ok (.getfield 38, 3) := by decide +kernel
theorem dX11_layPath_55 : decode cX11_layPath 55 = .ok (.iload 6, 2) := by decide +kernel
theorem dX11_layPath_57 : decode cX11_layPath 57 = .ok (.iaload, 1) := by decide +kernel
theorem dX11_layPath_58 : decode cX11_layPath 58 = .ok (.iload 5, 2) := by decide +kernel
theorem dX11_layPath_60 : decode cX11_layPath 60 = .ok (.if_icmp .eq 248, 3) := by decide +kernel
theorem dX11_layPath_63 : decode cX11_layPath 63 = .ok (.iload 8, 2) := by decide +kernel
theorem dX11_layPath_65 : decode cX11_layPath 65 = .ok (.iconst 1, 1) := by decide +kernel
theorem dX11_layPath_66 : decode cX11_layPath 66 = .ok (.iadd, 1) := by decide +kernel
theorem dX11_layPath_67 : decode cX11_layPath 67 = .ok (.istore 9, 2) := by decide +kernel
theorem dX11_layPath_69 : decode cX11_layPath 69 = .ok (.iconst 0, 1) := by decide +kernel
theorem dX11_layPath_70 : decode cX11_layPath 70 = .ok (.istore 10, 2) := by decide +kernel
theorem dX11_layPath_72 : decode cX11_layPath 72 = .ok (.iload 9, 2) := by decide +kernel
theorem dX11_layPath_74 : decode cX11_layPath 74 = .ok (.aload_n 0, 1) := by decide +kernel
theorem dX11_layPath_75 : decode cX11_layPath 75 = .ok (.getfield 7, 3) := by decide +kernel
theorem dX11_layPath_78 : decode cX11_layPath 78 = .ok (.iconst 0, 1) := by decide +kernel
theorem dX11_layPath_79 : decode cX11_layPath 79 = .ok (.iaload, 1) := by decide +kernel
theorem dX11_layPath_80 : decode cX11_layPath 80 = .ok (.if_icmp .ge 169, 3) := by decide +kernel
theorem dX11_layPath_83 : decode cX11_layPath 83 = .ok (.iload 10, 2) := by decide +kernel
theorem dX11_layPath_85 : decode cX11_layPath 85 = .ok (.ifCond .ne 164, 3) := by decide +kernel
theorem dX11_layPath_88 : decode cX11_layPath 88 = .ok (.aload_n 0, 1) := by decide +kernel
theorem dX11_layPath_89 : decode cX11_layPath 89 = .ok (.getfield 35, 3) := by decide +kernel
theorem dX11_layPath_92 : decode cX11_layPath 92 = .ok (.iload 6, 2) := by decide +kernel
theorem dX11_layPath_94 : decode cX11_layPath 94 = .ok (.iaload, 1) := by decide +kernel
theorem dX11_layPath_95 : decode cX11_layPath 95 = .ok (.iload 4, 2) := by decide +kernel
theorem dX11_layPath_97 : decode cX11_layPath 97 = .ok (.if_icmp .eq 152, 3) := by decide +kernel
theorem dX11_layPath_100 : decode cX11_layPath 100 = .ok (.iload 7, 2) := by decide +kernel
theorem dX11_layPath_102 : decode cX11_layPath 102 = .ok (.iload 9, 2) := by decide +kernel
theorem dX11_layPath_104 : decode cX11_layPath 104 = .ok (.ishr, 1) := by decide +kernel
theorem dX11_layPath_105 : decode cX11_layPath 105 = .ok (.iconst 1, 1) := by decide +kernel
theorem dX11_layPath_106 : decode cX11_layPath 106 = .ok (.iand, 1) := by decide +kernel
theorem dX11_layPath_107 : decode cX11_layPath 107 = .ok (.ifCond .ne 34, 3) := by decide +kernel
theorem dX11_layPath_110 : decode cX11_layPath 110 = .ok (.aload_n 0, 1) := by decide +kernel
theorem dX11_layPath_111 : decode cX11_layPath 111 = .ok (.iload_n 1, 1) := by decide +kernel
theorem dX11_layPath_112 : decode cX11_layPath 112 = .ok (.iload_n 2, 1) := by decide +kernel
theorem dX11_layPath_113 : decode cX11_layPath 113 = .ok (.iload 9, 2) := by decide +kernel
theorem dX11_layPath_115 : decode cX11_layPath 115 = .ok (.invokevirtual 152, 3) := by decide +kernel
theorem dX11_layPath_118 : decode cX11_layPath 118 = .ok (.ifCond .eq 23, 3) := by decide +kernel
theorem dX11_layPath_121 : decode cX11_layPath 121 = .ok (.aload_n 0, 1) := by decide +kernel
theorem dX11_layPath_122 : decode cX11_layPath 122 = .ok (.aload_n 0, 1) := by decide +kernel
theorem dX11_layPath_123 : decode cX11_layPath 123 = .ok (.getfield 35, 3) := by decide +kernel
theorem dX11_layPath_126 : decode cX11_layPath 126 = .ok (.iload 6, 2) := by decide +kernel
theorem dX11_layPath_128 : decode cX11_layPath 128 = .ok (.iaload, 1) := by decide +kernel
theorem dX11_layPath_129 : decode cX11_layPath 129 = .ok (.iload 9, 2) := by decide +kernel
theorem dX11_layPath_131 : decode cX11_layPath 131 = .ok (.invokevirtual 74, 3) := by decide +kernel
theorem dX11_layPath_134 : decode cX11_layPath 134 = .ok (.ifCond .lt 7, 3) := by decide +kernel
theorem dX11_layPath_137 : decode cX11_layPath 137 = .ok (.iconst 1, 1) := by decide +kernel
theorem dX11_layPath_138 : decode cX11_layPath 138 = .ok (.goto 4, 3) := by decide +kernel
theorem dX11_layPath_141 : decode cX11_layPath 141 = .ok (.iconst 0, 1) := by decide +kernel
theorem dX11_layPath_142 : decode cX11_layPath 142 = .ok (.istore 11, 2) := by decide +kernel
theorem dX11_layPath_144 : decode cX11_layPath 144 = .ok (.iload 11, 2) := by decide +kernel
theorem dX11_layPath_146 : decode cX11_layPath 146 = .ok (.ifCond .eq 30, 3) := by decide +kernel
theorem dX11_layPath_149 : decode cX11_layPath 149 = .ok (.aload_n 0, 1) := by decide +kernel
theorem dX11_layPath_150 : decode cX11_layPath 150 = .ok (.getfield 38, 3) := by decide +kernel
theorem dX11_layPath_153 : decode cX11_layPath 153 = .ok (.iload 6, 2) := by decide +kernel
theorem dX11_layPath_155 : decode cX11_layPath 155 = .ok (.iaload, 1) := by decide +kernel
theorem dX11_layPath_156 : decode cX11_layPath 156 = .ok (.aload_n 0, 1) := by decide +kernel
theorem dX11_layPath_157 : decode cX11_layPath 157 = .ok (.iload_n 1, 1) := by decide +kernel
theorem dX11_layPath_158 : decode cX11_layPath 158 = .ok (.iload_n 2, 1) := by decide +kernel
theorem dX11_layPath_159 : decode cX11_layPath 159 = .ok (.iconst 0, 1) := by decide +kernel
theorem dX11_layPath_160 : decode cX11_layPath 160 = .ok (.aload_n 0, 1) := by decide +kernel
theorem dX11_layPath_161 : decode cX11_layPath 161 = .ok (.getfield 35, 3) := by decide +kernel
theorem dX11_layPath_164 : decode cX11_layPath 164 = .ok (.iload 6, 2) := by decide +kernel
theorem dX11_layPath_166 : decode cX11_layPath 166 = .ok (.iaload, 1) := by decide +kernel
theorem dX11_layPath_167 : decode cX11_layPath 167 = .ok (.iload 9, 2) := by decide +kernel
theorem dX11_layPath_169 : decode cX11_layPath 169 = .ok (.invokevirtual 156, 3) := by decide +kernel
theorem dX11_layPath_172 : decode cX11_layPath 172 = .ok (.iadd, 1) := by decide +kernel
theorem dX11_layPath_173 : decode cX11_layPath 173 = .ok (.goto 5, 3) := by decide +kernel
theorem dX11_layPath_176 : decode cX11_layPath 176 = .ok (.ldc 151, 2) := by decide +kernel
theorem dX11_layPath_178 : decode cX11_layPath 178 = .ok (.istore 12, 2) := by decide +kernel
theorem dX11_layPath_180 : decode cX11_layPath 180 = .ok (.iload 11, 2) := by decide +kernel
theorem dX11_layPath_182 : decode cX11_layPath 182 = .ok (.ifCond .eq 28, 3) := by decide +kernel
theorem dX11_layPath_185 : decode cX11_layPath 185 = .ok (.iload 12, 2) := by decide +kernel
theorem dX11_layPath_187 : decode cX11_layPath 187 = .ok (.aload_n 0, 1) := by decide +kernel
theorem dX11_layPath_188 : decode cX11_layPath 188 = .ok (.getfield 32, 3) := by decide +kernel
theorem dX11_layPath_191 : decode cX11_layPath 191 = .ok (.bipush 8, 2) := by decide +kernel
theorem dX11_layPath_193 : decode cX11_layPath 193 = .ok (.iload 9, 2) := by decide +kernel
theorem dX11_layPath_195 : decode cX11_layPath 195 = .ok (.imul, 1) := by decide +kernel
theorem dX11_layPath_196 : decode cX11_layPath 196 = .ok (.iload 4, 2) := by decide +kernel
theorem dX11_layPath_198 : decode cX11_layPath 198 = .ok (.iadd, 1) := by decide +kernel
theorem dX11_layPath_199 : decode cX11_layPath 199 = .ok (.iaload, 1) := by decide +kernel
theorem dX11_layPath_200 : decode cX11_layPath 200 = .ok (.iadd, 1) := by decide +kernel
theorem dX11_layPath_201 : decode cX11_layPath 201 = .ok (.iload 5, 2) := by decide +kernel
theorem dX11_layPath_203 : decode cX11_layPath 203 = .ok (.if_icmp .gt 7, 3) := by decide +kernel
theorem dX11_layPath_206 : decode cX11_layPath 206 = .ok (.iconst 1, 1) := by decide +kernel
theorem dX11_layPath_207 : decode cX11_layPath 207 = .ok (.goto 4, 3) := by decide +kernel
theorem dX11_layPath_210 : decode cX11_layPath 210 = .ok (.iconst 0, 1) := by decide +kernel
theorem dX11_layPath_211 : decode cX11_layPath 211 = .ok (.istore 10, 2) := by decide +kernel
theorem dX11_layPath_213 : decode cX11_layPath 213 = .ok (.iload 10, 2) := by decide +kernel
theorem dX11_layPath_215 : decode cX11_layPath 215 = .ok (.ifCond .eq 28, 3) := by decide +kernel
theorem dX11_layPath_218 : decode cX11_layPath 218 = .ok (.aload_n 0, 1) := by decide +kernel
theorem dX11_layPath_219 : decode cX11_layPath 219 = .ok (.getfield 35, 3) := by decide +kernel
theorem dX11_layPath_222 : decode cX11_layPath 222 = .ok (.iload 6, 2) := by decide +kernel
theorem dX11_layPath_224 : decode cX11_layPath 224 = .ok (.iconst 1, 1) := by decide +kernel
theorem dX11_layPath_225 : decode cX11_layPath 225 = .ok (.iadd, 1) := by decide +kernel
theorem dX11_layPath_226 : decode cX11_layPath 226 = .ok (.iload 9, 2) := by decide +kernel
theorem dX11_layPath_228 : decode cX11_layPath 228 = .ok (.iastore, 1) := by decide +kernel
theorem dX11_layPath_229 : decode cX11_layPath 229 = .ok (.aload_n 0, 1) := by decide +kernel
theorem dX11_layPath_230 : decode cX11_layPath 230 = .ok (.getfield 38, 3) := by decide +kernel
theorem dX11_layPath_233 : decode cX11_layPath 233 = .ok (.iload 6, 2) := by decide +kernel
theorem dX11_layPath_235 : decode cX11_layPath 235 = .ok (.iconst 1, 1) := by decide +kernel
theorem dX11_layPath_236 : decode cX11_layPath 236 = .ok (.iadd, 1) := by decide +kernel
theorem dX11_layPath_237 : decode cX11_layPath 237 = .ok (.iload 12, 2) := by decide +kernel
theorem dX11_layPath_239 : decode cX11_layPath 239 = .ok (.iastore, 1) := by decide +kernel
theorem dX11_layPath_240 : decode cX11_layPath 240 = .ok (.goto 6, 3) := by decide +kernel
theorem dX11_layPath_243 : decode cX11_layPath 243 = .ok (.iinc 9 1, 3) := by decide +kernel
theorem dX11_layPath_246 : decode cX11_layPath 246 = .ok (.goto (-174), 3) := by decide +kernel
theorem dX11_layPath_249 : decode cX11_layPath 249 = .ok (.iload 10, 2) := by decide +kernel
theorem dX11_layPath_251 : decode cX11_layPath 251 = .ok (.ifCond .eq 26, 3) := by decide +kernel
theorem dX11_layPath_254 : decode cX11_layPath 254 = .ok (.iinc 6 1, 3) := by decide +kernel
theorem dX11_layPath_257 : decode cX11_layPath 257 = .ok (.iload 7, 2) := by decide +kernel
theorem dX11_layPath_259 : decode cX11_layPath 259 = .ok (.iconst 1, 1) := by decide +kernel
theorem dX11_layPath_260 : decode cX11_layPath 260 = .ok (.aload_n 0, 1) := by decide +kernel
theorem dX11_layPath_261 : decode cX11_layPath 261 = .ok (.getfield 35, 3) := by decide +kernel
theorem dX11_layPath_264 : decode cX11_layPath 264 = .ok (.iload 6, 2) := by decide +kernel
theorem dX11_layPath_266 : decode cX11_layPath 266 = .ok (.iaload, 1) := by decide +kernel
theorem dX11_layPath_267 : decode cX11_layPath 267 = .ok (.ishl, 1) := by decide +kernel
theorem dX11_layPath_268 : decode cX11_layPath 268 = .ok (.ior, 1) := by decide +kernel
theorem dX11_layPath_269 : decode cX11_layPath 269 = .ok (.istore 7, 2) := by decide +kernel
theorem dX11_layPath_271 : decode cX11_layPath 271 = .ok (.iconst (-1), 1) := by decide +kernel
theorem dX11_layPath_272 : decode cX11_layPath 272 = .ok (.istore 8, 2) := by decide +kernel
theorem dX11_layPath_274 : decode cX11_layPath 274 = .ok (.goto 31, 3) := by decide +kernel
theorem dX11_layPath_277 : decode cX11_layPath 277 = .ok (.aload_n 0, 1) := by decide +kernel
theorem dX11_layPath_278 : decode cX11_layPath 278 = .ok (.getfield 35, 3) := by decide +kernel
theorem dX11_layPath_281 : decode cX11_layPath 281 = .ok (.iload 6, 2) := by decide +kernel
theorem dX11_layPath_283 : decode cX11_layPath 283 = .ok (.iaload, 1) := by decide +kernel
theorem dX11_layPath_284 : decode cX11_layPath 284 = .ok (.istore 8, 2) := by decide +kernel
theorem dX11_layPath_286 : decode cX11_layPath 286 = .ok (.iload 7, 2) := by decide +kernel
theorem dX11_layPath_288 : decode cX11_layPath 288 = .ok (.iconst 1, 1) := by decide +kernel
theorem dX11_layPath_289 : decode cX11_layPath 289 = .ok (.aload_n 0, 1) := by decide +kernel
theorem dX11_layPath_290 : decode cX11_layPath 290 = .ok (.getfield 35, 3) := by decide +kernel
theorem dX11_layPath_293 : decode cX11_layPath 293 = .ok (.iload 6, 2) := by decide +kernel
theorem dX11_layPath_295 : decode cX11_layPath 295 = .ok (.iaload, 1) := by decide +kernel
theorem dX11_layPath_296 : decode cX11_layPath 296 = .ok (.ishl, 1) := by decide +kernel
theorem dX11_layPath_297 : decode cX11_layPath 297 = .ok (.iconst (-1), 1) := by decide +kernel
theorem dX11_layPath_298 : decode cX11_layPath 298 = .ok (.ixor, 1) := by decide +kernel
theorem dX11_layPath_299 : decode cX11_layPath 299 = .ok (.iand, 1) := by decide +kernel
theorem dX11_layPath_300 : decode cX11_layPath 300 = .ok (.istore 7, 2) := by decide +kernel
theorem dX11_layPath_302 : decode cX11_layPath 302 = .ok (.iinc 6 (-1), 3) := by decide +kernel
theorem dX11_layPath_305 : decode cX11_layPath 305 = .ok (.goto (-266), 3) := by decide +kernel
theorem dX11_layPath_308 : decode cX11_layPath 308 = .ok (.iload 6, 2) := by decide +kernel
theorem dX11_layPath_310 : decode cX11_layPath 310 = .ok (.iconst 1, 1) := by decide +kernel
theorem dX11_layPath_311 : decode cX11_layPath 311 = .ok (.iadd, 1) := by decide +kernel
theorem dX11_layPath_312 : decode cX11_layPath 312 = .ok (.ireturn, 1) := by decide +kernel
theorem dX11_way_0 : decode cX11_way 0 = .ok (.aload_n 0, 1) := by decide +kernel
theorem dX11_way_1 : decode cX11_way 1 = .ok (.iload_n 1, 1) := by decide +kernel
theorem dX11_way_2 : decode cX11_way 2 = .ok (.invokevirtual 97, 3) := by decide +kernel
theorem dX11_way_5 : decode cX11_way 5 = .ok (.ifCond .eq 47, 3) := by decide +kernel
theorem dX11_way_8 : decode cX11_way 8 = .ok (.iload_n 2, 1) := by decide +kernel
theorem dX11_way_9 : decode cX11_way 9 = .ok (.i2l, 1) := by decide +kernel
theorem dX11_way_10 : decode cX11_way 10 = .ok (.lconst 1, 1) := by decide +kernel
theorem dX11_way_11 : decode cX11_way 11 = .ok (.ldc2_w 83, 3) := by decide +kernel
theorem dX11_way_14 : decode cX11_way 14 = .ok (.invokestatic 50, 3) := by decide +kernel
theorem dX11_way_17 : decode cX11_way 17 = .ok (.ifCond .eq 35, 3) := by decide +kernel
theorem dX11_way_20 : decode cX11_way 20 = .ok (.aload_n 0, 1) := by decide +kernel
theorem dX11_way_21 : decode cX11_way 21 = .ok (.iload_n 3, 1) := by decide +kernel
theorem dX11_way_22 : decode cX11_way 22 = .ok (.invokevirtual 68, 3) := by decide +kernel
theorem dX11_way_25 : decode cX11_way 25 = .ok (.ifCond .eq 27, 3) := by decide +kernel
theorem dX11_way_28 : decode cX11_way 28 = .ok (.aload_n 0, 1) := by decide +kernel
theorem dX11_way_29 : decode cX11_way 29 = .ok (.iload 4, 2) := by decide +kernel
theorem dX11_way_31 : decode cX11_way 31 = .ok (.invokevirtual 68, 3) := by decide +kernel
theorem dX11_way_34 : decode cX11_way 34 = .ok (.ifCond .eq 18, 3) := by decide +kernel
theorem dX11_way_37 : decode cX11_way 37 = .ok (.iload 5, 2) := by decide +kernel
theorem dX11_way_39 : decode cX11_way 39 = .ok (.i2l, 1) := by decide +kernel
theorem dX11_way_40 : decode cX11_way 40 = .ok (.ldc2_w 160, 3) := by decide +kernel
theorem dX11_way_43 : decode cX11_way 43 = .ok (.ldc2_w 91, 3) := by decide +kernel
theorem dX11_way_46 : decode cX11_way 46 = .ok (.invokestatic 50, 3) := by decide +kernel
theorem dX11_way_49 : decode cX11_way 49 = .ok (.ifCond .ne 5, 3) := by decide +kernel
theorem dX11_way_52 : decode cX11_way 52 = .ok (.iconst (-1), 1) := by decide +kernel
theorem dX11_way_53 : decode cX11_way 53 = .ok (.ireturn, 1) := by decide +kernel
theorem dX11_way_54 : decode cX11_way 54 = .ok (.aload_n 0, 1) := by decide +kernel
theorem dX11_way_55 : decode cX11_way 55 = .ok (.iload_n 1, 1) := by decide +kernel
theorem dX11_way_56 : decode cX11_way 56 = .ok (.iload_n 2, 1) := by decide +kernel
theorem dX11_way_57 : decode cX11_way 57 = .ok (.iconst 0, 1) := by decide +kernel
theorem dX11_way_58 : decode cX11_way 58 = .ok (.invokevirtual 162, 3) := by decide +kernel
theorem dX11_way_61 : decode cX11_way 61 = .ok (.aload_n 0, 1) := by decide +kernel
theorem dX11_way_62 : decode cX11_way 62 = .ok (.getfield 32, 3) := by decide +kernel
theorem dX11_way_65 : decode cX11_way 65 = .ok (.bipush 8, 2) := by decide +kernel
theorem dX11_way_67 : decode cX11_way 67 = .ok (.iload_n 3, 1) := by decide +kernel
theorem dX11_way_68 : decode cX11_way 68 = .ok (.imul, 1) := by decide +kernel
theorem dX11_way_69 : decode cX11_way 69 = .ok (.iload 4, 2) := by decide +kernel
theorem dX11_way_71 : decode cX11_way 71 = .ok (.iadd, 1) := by decide +kernel
theorem dX11_way_72 : decode cX11_way 72 = .ok (.iaload, 1) := by decide +kernel
theorem dX11_way_73 : decode cX11_way 73 = .ok (.ldc 151, 2) := by decide +kernel
theorem dX11_way_75 : decode cX11_way 75 = .ok (.if_icmp .lt 6, 3) := by decide +kernel
theorem dX11_way_78 : decode cX11_way 78 = .ok (.bipush (-4), 2) := by decide +kernel
theorem dX11_way_80 : decode cX11_way 80 = .ok (.ireturn, 1) := by decide +kernel
theorem dX11_way_81 : decode cX11_way 81 = .ok (.iload 5, 2) := by decide +kernel
theorem dX11_way_83 : decode cX11_way 83 = .ok (.ifCond .ge 16, 3) := by decide +kernel
theorem dX11_way_86 : decode cX11_way 86 = .ok (.aload_n 0, 1) := by decide +kernel
theorem dX11_way_87 : decode cX11_way 87 = .ok (.getfield 32, 3) := by decide +kernel
theorem dX11_way_90 : decode cX11_way 90 = .ok (.bipush 8, 2) := by decide +kernel
theorem dX11_way_92 : decode cX11_way 92 = .ok (.iload_n 3, 1) := by decide +kernel
theorem dX11_way_93 : decode cX11_way 93 = .ok (.imul, 1) := by decide +kernel
theorem dX11_way_94 : decode cX11_way 94 = .ok (.iload 4, 2) := by decide +kernel
theorem dX11_way_96 : decode cX11_way 96 = .ok (.iadd, 1) := by decide +kernel
theorem dX11_way_97 : decode cX11_way 97 = .ok (.iaload, 1) := by decide +kernel
theorem dX11_way_98 : decode cX11_way 98 = .ok (.ireturn, 1) := by decide +kernel
theorem dX11_way_99 : decode cX11_way 99 = .ok (.iload 5, 2) := by decide +kernel
theorem dX11_way_101 : decode cX11_way 101 = .ok (.aload_n 0, 1) := by decide +kernel
theorem dX11_way_102 : decode cX11_way 102 = .ok (.iload_n 1, 1) := by decide +kernel
theorem dX11_way_103 : decode cX11_way 103 = .ok (.iload_n 2, 1) := by decide +kernel
theorem dX11_way_104 : decode cX11_way 104 = .ok (.iload_n 3, 1) := by decide +kernel
theorem dX11_way_105 : decode cX11_way 105 = .ok (.iload 4, 2) := by decide +kernel
theorem dX11_way_107 : decode cX11_way 107 = .ok (.invokevirtual 166, 3) := by decide +kernel
theorem dX11_way_110 : decode cX11_way 110 = .ok (.if_icmp .ge 13, 3) := by decide +kernel
theorem dX11_way_113 : decode cX11_way 113 = .ok (.aload_n 0, 1) := by decide +kernel
theorem dX11_way_114 : decode cX11_way 114 = .ok (.getfield 35, 3) := by decide +kernel
theorem dX11_way_117 : decode cX11_way 117 = .ok (.iload 5, 2) := by decide +kernel
theorem dX11_way_119 : decode cX11_way 119 = .ok (.iaload, 1) := by decide +kernel
theorem dX11_way_120 : decode cX11_way 120 = .ok (.goto 5, 3) := by decide +kernel
theorem dX11_way_123 : decode cX11_way 123 = .ok (.bipush (-4), 2) := by decide +kernel
theorem dX11_way_125 : decode cX11_way 125 = .ok (.ireturn, 1) := by decide +kernel
theorem dX11_netOf_0 : decode cX11_netOf 0 = .ok (.aload_n 0, 1) := by decide +kernel
theorem dX11_netOf_1 : decode cX11_netOf 1 = .ok (.getfield 32, 3) := by decide +kernel
theorem dX11_netOf_4 : decode cX11_netOf 4 = .ok (.bipush 8, 2) := by decide +kernel
theorem dX11_netOf_6 : decode cX11_netOf 6 = .ok (.aload_n 0, 1) := by decide +kernel
theorem dX11_netOf_7 : decode cX11_netOf 7 = .ok (.getfield 7, 3) := by decide +kernel
theorem dX11_netOf_10 : decode cX11_netOf 10 = .ok (.bipush 111, 2) := by decide +kernel
theorem dX11_netOf_12 : decode cX11_netOf 12 = .ok (.iload_n 1, 1) := by decide +kernel
theorem dX11_netOf_13 : decode cX11_netOf 13 = .ok (.iadd, 1) := by decide +kernel
theorem dX11_netOf_14 : decode cX11_netOf 14 = .ok (.iaload, 1) := by decide +kernel
theorem dX11_netOf_15 : decode cX11_netOf 15 = .ok (.imul, 1) := by decide +kernel
theorem dX11_netOf_16 : decode cX11_netOf 16 = .ok (.iload_n 2, 1) := by decide +kernel
theorem dX11_netOf_17 : decode cX11_netOf 17 = .ok (.iadd, 1) := by decide +kernel
theorem dX11_netOf_18 : decode cX11_netOf 18 = .ok (.iaload, 1) := by decide +kernel
theorem dX11_netOf_19 : decode cX11_netOf 19 = .ok (.istore_n 3, 1) := by decide +kernel
theorem dX11_netOf_20 : decode cX11_netOf 20 = .ok (.iload_n 3, 1) := by decide +kernel
theorem dX11_netOf_21 : decode cX11_netOf 21 = .ok (.ldc 151, 2) := by decide +kernel
theorem dX11_netOf_23 : decode cX11_netOf 23 = .ok (.if_icmp .lt 8, 3) := by decide +kernel
theorem dX11_netOf_26 : decode cX11_netOf 26 = .ok (.ldc 170, 2) := by decide +kernel
theorem dX11_netOf_28 : decode cX11_netOf 28 = .ok (.goto 29, 3) := by decide +kernel
theorem dX11_netOf_31 : decode cX11_netOf 31 = .ok (.aload_n 0, 1) := by decide +kernel
theorem dX11_netOf_32 : decode cX11_netOf 32 = .ok (.getfield 7, 3) := by decide +kernel
theorem dX11_netOf_35 : decode cX11_netOf 35 = .ok (.bipush 105, 2) := by decide +kernel
theorem dX11_netOf_37 : decode cX11_netOf 37 = .ok (.iload_n 1, 1) := by decide +kernel
theorem dX11_netOf_38 : decode cX11_netOf 38 = .ok (.iadd, 1) := by decide +kernel
theorem dX11_netOf_39 : decode cX11_netOf 39 = .ok (.iaload, 1) := by decide +kernel
theorem dX11_netOf_40 : decode cX11_netOf 40 = .ok (.aload_n 0, 1) := by decide +kernel
theorem dX11_netOf_41 : decode cX11_netOf 41 = .ok (.iload_n 2, 1) := by decide +kernel
theorem dX11_netOf_42 : decode cX11_netOf 42 = .ok (.aload_n 0, 1) := by decide +kernel
theorem dX11_netOf_43 : decode cX11_netOf 43 = .ok (.getfield 7, 3) := by decide +kernel
theorem dX11_netOf_46 : decode cX11_netOf 46 = .ok (.bipush 99, 2) := by decide +kernel
theorem dX11_netOf_48 : decode cX11_netOf 48 = .ok (.iload_n 1, 1) := by decide +kernel
theorem dX11_netOf_49 : decode cX11_netOf 49 = .ok (.iadd, 1) := by decide +kernel
theorem dX11_netOf_50 : decode cX11_netOf 50 = .ok (.iaload, 1) := by decide +kernel
theorem dX11_netOf_51 : decode cX11_netOf 51 = .ok (.invokevirtual 88, 3) := by decide +kernel
theorem dX11_netOf_54 : decode cX11_netOf 54 = .ok (.imul, 1) := by decide +kernel
theorem dX11_netOf_55 : decode cX11_netOf 55 = .ok (.iload_n 3, 1) := by decide +kernel
theorem dX11_netOf_56 : decode cX11_netOf 56 = .ok (.isub, 1) := by decide +kernel
theorem dX11_netOf_57 : decode cX11_netOf 57 = .ok (.ireturn, 1) := by decide +kernel
theorem dX11_net_0 : decode cX11_net 0 = .ok (.aload_n 0, 1) := by decide +kernel
theorem dX11_net_1 : decode cX11_net 1 = .ok (.iload_n 1, 1) := by decide +kernel
theorem dX11_net_2 : decode cX11_net 2 = .ok (.invokevirtual 85, 3) := by decide +kernel
theorem dX11_net_5 : decode cX11_net 5 = .ok (.ifCond .eq 19, 3) := by decide +kernel
theorem dX11_net_8 : decode cX11_net 8 = .ok (.aload_n 0, 1) := by decide +kernel
theorem dX11_net_9 : decode cX11_net 9 = .ok (.iload_n 2, 1) := by decide +kernel
theorem dX11_net_10 : decode cX11_net 10 = .ok (.invokevirtual 68, 3) := by decide +kernel
theorem dX11_net_13 : decode cX11_net 13 = .ok (.ifCond .eq 11, 3) := by decide +kernel
theorem dX11_net_16 : decode cX11_net 16 = .ok (.aload_n 0, 1) := by decide +kernel
theorem dX11_net_17 : decode cX11_net 17 = .ok (.iload_n 3, 1) := by decide +kernel
theorem dX11_net_18 : decode cX11_net 18 = .ok (.invokevirtual 97, 3) := by decide +kernel
theorem dX11_net_21 : decode cX11_net 21 = .ok (.ifCond .ne 6, 3) := by decide +kernel
theorem dX11_net_24 : decode cX11_net 24 = .ok (.ldc 171, 2) := by decide +kernel
theorem dX11_net_26 : decode cX11_net 26 = .ok (.ireturn, 1) := by decide +kernel
theorem dX11_net_27 : decode cX11_net 27 = .ok (.aload_n 0, 1) := by decide +kernel
theorem dX11_net_28 : decode cX11_net 28 = .ok (.iload_n 3, 1) := by decide +kernel
theorem dX11_net_29 : decode cX11_net 29 = .ok (.aload_n 0, 1) := by decide +kernel
theorem dX11_net_30 : decode cX11_net 30 = .ok (.getfield 7, 3) := by decide +kernel
theorem dX11_net_33 : decode cX11_net 33 = .ok (.bipush 99, 2) := by decide +kernel
theorem dX11_net_35 : decode cX11_net 35 = .ok (.iload_n 1, 1) := by decide +kernel
theorem dX11_net_36 : decode cX11_net 36 = .ok (.iadd, 1) := by decide +kernel
theorem dX11_net_37 : decode cX11_net 37 = .ok (.iaload, 1) := by decide +kernel
theorem dX11_net_38 : decode cX11_net 38 = .ok (.iconst 0, 1) := by decide +kernel
theorem dX11_net_39 : decode cX11_net 39 = .ok (.invokevirtual 162, 3) := by decide +kernel
theorem dX11_net_42 : decode cX11_net 42 = .ok (.aload_n 0, 1) := by decide +kernel
theorem dX11_net_43 : decode cX11_net 43 = .ok (.iload_n 1, 1) := by decide +kernel
theorem dX11_net_44 : decode cX11_net 44 = .ok (.iload_n 2, 1) := by decide +kernel
theorem dX11_net_45 : decode cX11_net 45 = .ok (.invokevirtual 172, 3) := by decide +kernel
theorem dX11_net_48 : decode cX11_net 48 = .ok (.istore 4, 2) := by decide +kernel
theorem dX11_net_50 : decode cX11_net 50 = .ok (.iload 4, 2) := by decide +kernel
theorem dX11_net_52 : decode cX11_net 52 = .ok (.ldc 170, 2) := by decide +kernel
theorem dX11_net_54 : decode cX11_net 54 = .ok (.if_icmp .ne 8, 3) := by decide +kernel
theorem dX11_net_57 : decode cX11_net 57 = .ok (.ldc 175, 2) := by decide +kernel
theorem dX11_net_59 : decode cX11_net 59 = .ok (.goto 5, 3) := by decide +kernel
theorem dX11_net_62 : decode cX11_net 62 = .ok (.iload 4, 2) := by decide +kernel
theorem dX11_net_64 : decode cX11_net 64 = .ok (.ireturn, 1) := by decide +kernel
theorem dX11_marketOf_0 : decode cX11_marketOf 0 = .ok (.aload_n 0, 1) := by decide +kernel
theorem dX11_marketOf_1 : decode cX11_marketOf 1 = .ok (.iload_n 2, 1) := by decide +kernel
theorem dX11_marketOf_2 : decode cX11_marketOf 2 = .ok (.aload_n 0, 1) := by decide +kernel
theorem dX11_marketOf_3 : decode cX11_marketOf 3 = .ok (.getfield 7, 3) := by decide +kernel
theorem dX11_marketOf_6 : decode cX11_marketOf 6 = .ok (.bipush 99, 2) := by decide +kernel
theorem dX11_marketOf_8 : decode cX11_marketOf 8 = .ok (.iload_n 1, 1) := by decide +kernel
theorem dX11_marketOf_9 : decode cX11_marketOf 9 = .ok (.iadd, 1) := by decide +kernel
theorem dX11_marketOf_10 : decode cX11_marketOf 10 = .ok (.iaload, 1) := by decide +kernel
theorem dX11_marketOf_11 : decode cX11_marketOf 11 = .ok (.iload_n 3, 1) := by decide +kernel
theorem dX11_marketOf_12 : decode cX11_marketOf 12 = .ok (.invokevirtual 162, 3) := by decide +kernel
theorem dX11_marketOf_15 : decode cX11_marketOf 15 = .ok (.bipush (-4), 2) := by decide +kernel
theorem dX11_marketOf_17 : decode cX11_marketOf 17 = .ok (.istore 4, 2) := by decide +kernel
theorem dX11_marketOf_19 : decode cX11_marketOf 19 = .ok (.iconst 0, 1) := by decide +kernel
theorem dX11_marketOf_20 : decode cX11_marketOf 20 = .ok (.istore 5, 2) := by decide +kernel
theorem dX11_marketOf_22 : decode cX11_marketOf 22 = .ok (.iload 5, 2) := by decide +kernel
theorem dX11_marketOf_24 : decode cX11_marketOf 24 = .ok (.aload_n 0, 1) := by decide +kernel
theorem dX11_marketOf_25 : decode cX11_marketOf 25 = .ok (.getfield 7, 3) := by decide +kernel
theorem dX11_marketOf_28 : decode cX11_marketOf 28 = .ok (.iconst 0, 1) := by decide +kernel
theorem dX11_marketOf_29 : decode cX11_marketOf 29 = .ok (.iaload, 1) := by decide +kernel
theorem dX11_marketOf_30 : decode cX11_marketOf 30 = .ok (.if_icmp .ge 53, 3) := by decide +kernel
theorem dX11_marketOf_33 : decode cX11_marketOf 33 = .ok (.aload_n 0, 1) := by decide +kernel
theorem dX11_marketOf_34 : decode cX11_marketOf 34 = .ok (.iload_n 1, 1) := by decide +kernel
theorem dX11_marketOf_35 : decode cX11_marketOf 35 = .ok (.iload 5, 2) := by decide +kernel
theorem dX11_marketOf_37 : decode cX11_marketOf 37 = .ok (.invokevirtual 172, 3) := by decide +kernel
theorem dX11_marketOf_40 : decode cX11_marketOf 40 = .ok (.istore 6, 2) := by decide +kernel
theorem dX11_marketOf_42 : decode cX11_marketOf 42 = .ok (.iload 6, 2) := by decide +kernel
theorem dX11_marketOf_44 : decode cX11_marketOf 44 = .ok (.ldc 170, 2) := by decide +kernel
theorem dX11_marketOf_46 : decode cX11_marketOf 46 = .ok (.if_icmp .le 27, 3) := by decide +kernel
theorem dX11_marketOf_49 : decode cX11_marketOf 49 = .ok (.iload 4, 2) := by decide +kernel
theorem dX11_marketOf_51 : decode cX11_marketOf 51 = .ok (.bipush (-4), 2) := by decide +kernel
theorem dX11_marketOf_53 : decode cX11_marketOf 53 = .ok (.if_icmp .eq 15, 3) := by decide +kernel
theorem dX11_marketOf_56 : decode cX11_marketOf 56 = .ok (.iload 6, 2) := by decide +kernel
theorem dX11_marketOf_58 : decode cX11_marketOf 58 = .ok (.aload_n 0, 1) := by decide +kernel
theorem dX11_marketOf_59 : decode cX11_marketOf 59 = .ok (.iload_n 1, 1) := by decide +kernel
theorem dX11_marketOf_60 : decode cX11_marketOf 60 = .ok (.iload 4, 2) := by decide +kernel
theorem dX11_marketOf_62 : decode cX11_marketOf 62 = .ok (.invokevirtual 172, 3) := by decide +kernel
theorem dX11_marketOf_65 : decode cX11_marketOf 65 = .ok (.if_icmp .le 8, 3) := by decide +kernel
theorem dX11_marketOf_68 : decode cX11_marketOf 68 = .ok (.iload 5, 2) := by decide +kernel
theorem dX11_marketOf_70 : decode cX11_marketOf 70 = .ok (.goto 5, 3) := by decide +kernel
theorem dX11_marketOf_73 : decode cX11_marketOf 73 = .ok (.iload 4, 2) := by decide +kernel
theorem dX11_marketOf_75 : decode cX11_marketOf 75 = .ok (.istore 4, 2) := by decide +kernel
theorem dX11_marketOf_77 : decode cX11_marketOf 77 = .ok (.iinc 5 1, 3) := by decide +kernel
theorem dX11_marketOf_80 : decode cX11_marketOf 80 = .ok (.goto (-58), 3) := by decide +kernel
theorem dX11_marketOf_83 : decode cX11_marketOf 83 = .ok (.iload 4, 2) := by decide +kernel
theorem dX11_marketOf_85 : decode cX11_marketOf 85 = .ok (.ireturn, 1) := by decide +kernel
theorem dX11_market_0 : decode cX11_market 0 = .ok (.aload_n 0, 1) := by decide +kernel
theorem dX11_market_1 : decode cX11_market 1 = .ok (.iload_n 1, 1) := by decide +kernel
theorem dX11_market_2 : decode cX11_market 2 = .ok (.invokevirtual 85, 3) := by decide +kernel
theorem dX11_market_5 : decode cX11_market 5 = .ok (.ifCond .eq 21, 3) := by decide +kernel
theorem dX11_market_8 : decode cX11_market 8 = .ok (.aload_n 0, 1) := by decide +kernel
theorem dX11_market_9 : decode cX11_market 9 = .ok (.iload_n 2, 1) := by decide +kernel
theorem dX11_market_10 : decode cX11_market 10 = .ok (.invokevirtual 97, 3) := by decide +kernel
theorem dX11_market_13 : decode cX11_market 13 = .ok (.ifCond .eq 13, 3) := by decide +kernel
theorem dX11_market_16 : decode cX11_market 16 = .ok (.aload_n 0, 1) := by decide +kernel
theorem dX11_market_17 : decode cX11_market 17 = .ok (.iload_n 1, 1) := by decide +kernel
theorem dX11_market_18 : decode cX11_market 18 = .ok (.iload_n 2, 1) := by decide +kernel
theorem dX11_market_19 : decode cX11_market 19 = .ok (.iconst 0, 1) := by decide +kernel
theorem dX11_market_20 : decode cX11_market 20 = .ok (.invokevirtual 176, 3) := by decide +kernel
theorem dX11_market_23 : decode cX11_market 23 = .ok (.goto 4, 3) := by decide +kernel
theorem dX11_market_26 : decode cX11_market 26 = .ok (.iconst (-1), 1) := by decide +kernel
theorem dX11_market_27 : decode cX11_market 27 = .ok (.ireturn, 1) := by decide +kernel
theorem dX11_trade_0 : decode cX11_trade 0 = .ok (.aload_n 0, 1) := by decide +kernel
theorem dX11_trade_1 : decode cX11_trade 1 = .ok (.iload_n 1, 1) := by decide +kernel
theorem dX11_trade_2 : decode cX11_trade 2 = .ok (.invokevirtual 85, 3) := by decide +kernel
theorem dX11_trade_5 : decode cX11_trade 5 = .ok (.ifCond .eq 18, 3) := by decide +kernel
theorem dX11_trade_8 : decode cX11_trade 8 = .ok (.aload_n 0, 1) := by decide +kernel
theorem dX11_trade_9 : decode cX11_trade 9 = .ok (.iload_n 2, 1) := by decide +kernel
theorem dX11_trade_10 : decode cX11_trade 10 = .ok (.invokevirtual 97, 3) := by decide +kernel
theorem dX11_trade_13 : decode cX11_trade 13 = .ok (.ifCond .eq 10, 3) := by decide +kernel
theorem dX11_trade_16 : decode cX11_trade 16 = .ok (.iload_n 3, 1) := by decide +kernel
theorem dX11_trade_17 : decode cX11_trade 17 = .ok (.invokestatic 179, 3) := by decide +kernel
theorem dX11_trade_20 : decode cX11_trade 20 = .ok (.ifCond .ne 6, 3) := by decide +kernel
theorem dX11_trade_23 : decode cX11_trade 23 = .ok (.ldc 171, 2) := by decide +kernel
theorem dX11_trade_25 : decode cX11_trade 25 = .ok (.ireturn, 1) := by decide +kernel
theorem dX11_trade_26 : decode cX11_trade 26 = .ok (.aload_n 0, 1) := by decide +kernel
theorem dX11_trade_27 : decode cX11_trade 27 = .ok (.iload_n 2, 1) := by decide +kernel
theorem dX11_trade_28 : decode cX11_trade 28 = .ok (.aload_n 0, 1) := by decide +kernel
theorem dX11_trade_29 : decode cX11_trade 29 = .ok (.getfield 7, 3) := by decide +kernel
theorem dX11_trade_32 : decode cX11_trade 32 = .ok (.bipush 99, 2) := by decide +kernel
theorem dX11_trade_34 : decode cX11_trade 34 = .ok (.iload_n 1, 1) := by decide +kernel
theorem dX11_trade_35 : decode cX11_trade 35 = .ok (.iadd, 1) := by decide +kernel
theorem dX11_trade_36 : decode cX11_trade 36 = .ok (.iaload, 1) := by decide +kernel
theorem dX11_trade_37 : decode cX11_trade 37 = .ok (.iconst 0, 1) := by decide +kernel
theorem dX11_trade_38 : decode cX11_trade 38 = .ok (.invokevirtual 162, 3) := by decide +kernel
theorem dX11_trade_41 : decode cX11_trade 41 = .ok (.ldc 170, 2) := by decide +kernel
theorem dX11_trade_43 : decode cX11_trade 43 = .ok (.istore 4, 2) := by decide +kernel
theorem dX11_trade_45 : decode cX11_trade 45 = .ok (.iconst 0, 1) := by decide +kernel
theorem dX11_trade_46 : decode cX11_trade 46 = .ok (.istore 5, 2) := by decide +kernel
theorem dX11_trade_48 : decode cX11_trade 48 = .ok (.iconst 0, 1) := by decide +kernel
theorem dX11_trade_49 : decode cX11_trade 49 = .ok (.istore 6, 2) := by decide +kernel
theorem dX11_trade_51 : decode cX11_trade 51 = .ok (.iload 6, 2) := by decide +kernel
theorem dX11_trade_53 : decode cX11_trade 53 = .ok (.aload_n 0, 1) := by decide +kernel
theorem dX11_trade_54 : decode cX11_trade 54 = .ok (.getfield 7, 3) := by decide +kernel
theorem dX11_trade_57 : decode cX11_trade 57 = .ok (.iconst 0, 1) := by decide +kernel
theorem dX11_trade_58 : decode cX11_trade 58 = .ok (.iaload, 1) := by decide +kernel
theorem dX11_trade_59 : decode cX11_trade 59 = .ok (.if_icmp .ge 125, 3) := by decide +kernel
theorem dX11_trade_62 : decode cX11_trade 62 = .ok (.iconst 0, 1) := by decide +kernel
theorem dX11_trade_63 : decode cX11_trade 63 = .ok (.istore 7, 2) := by decide +kernel
theorem dX11_trade_65 : decode cX11_trade 65 = .ok (.iload 7, 2) := by decide +kernel
theorem dX11_trade_67 : decode cX11_trade 67 = .ok (.aload_n 0, 1) := by decide +kernel
theorem dX11_trade_68 : decode cX11_trade 68 = .ok (.getfield 7, 3) := by decide +kernel
theorem dX11_trade_71 : decode cX11_trade 71 = .ok (.iconst 0, 1) := by decide +kernel
theorem dX11_trade_72 : decode cX11_trade 72 = .ok (.iaload, 1) := by decide +kernel
theorem dX11_trade_73 : decode cX11_trade 73 = .ok (.if_icmp .ge 105, 3) := by decide +kernel
theorem dX11_trade_76 : decode cX11_trade 76 = .ok (.aload_n 0, 1) := by decide +kernel
theorem dX11_trade_77 : decode cX11_trade 77 = .ok (.getfield 32, 3) := by decide +kernel
theorem dX11_trade_80 : decode cX11_trade 80 = .ok (.bipush 8, 2) := by decide +kernel
theorem dX11_trade_82 : decode cX11_trade 82 = .ok (.iload 6, 2) := by decide +kernel
theorem dX11_trade_84 : decode cX11_trade 84 = .ok (.imul, 1) := by decide +kernel
theorem dX11_trade_85 : decode cX11_trade 85 = .ok (.iload 7, 2) := by decide +kernel
theorem dX11_trade_87 : decode cX11_trade 87 = .ok (.iadd, 1) := by decide +kernel
theorem dX11_trade_88 : decode cX11_trade 88 = .ok (.iaload, 1) := by decide +kernel
theorem dX11_trade_89 : decode cX11_trade 89 = .ok (.istore 8, 2) := by decide +kernel
theorem dX11_trade_91 : decode cX11_trade 91 = .ok (.aload_n 0, 1) := by decide +kernel
theorem dX11_trade_92 : decode cX11_trade 92 = .ok (.getfield 7, 3) := by decide +kernel
theorem dX11_trade_95 : decode cX11_trade 95 = .ok (.bipush 105, 2) := by decide +kernel
theorem dX11_trade_97 : decode cX11_trade 97 = .ok (.iload_n 1, 1) := by decide +kernel
theorem dX11_trade_98 : decode cX11_trade 98 = .ok (.iadd, 1) := by decide +kernel
theorem dX11_trade_99 : decode cX11_trade 99 = .ok (.iaload, 1) := by decide +kernel
theorem dX11_trade_100 : decode cX11_trade 100 = .ok (.aload_n 0, 1) := by decide +kernel
theorem dX11_trade_101 : decode cX11_trade 101 = .ok (.iload 7, 2) := by decide +kernel
theorem dX11_trade_103 : decode cX11_trade 103 = .ok (.aload_n 0, 1) := by decide +kernel
theorem dX11_trade_104 : decode cX11_trade 104 = .ok (.getfield 7, 3) := by decide +kernel
theorem dX11_trade_107 : decode cX11_trade 107 = .ok (.bipush 99, 2) := by decide +kernel
theorem dX11_trade_109 : decode cX11_trade 109 = .ok (.iload_n 1, 1) := by decide +kernel
theorem dX11_trade_110 : decode cX11_trade 110 = .ok (.iadd, 1) := by decide +kernel
theorem dX11_trade_111 : decode cX11_trade 111 = .ok (.iaload, 1) := by decide +kernel
theorem dX11_trade_112 : decode cX11_trade 112 = .ok (.invokevirtual 88, 3) := by decide +kernel
theorem dX11_trade_115 : decode cX11_trade 115 = .ok (.aload_n 0, 1) := by decide +kernel
theorem dX11_trade_116 : decode cX11_trade 116 = .ok (.iload 6, 2) := by decide +kernel
theorem dX11_trade_118 : decode cX11_trade 118 = .ok (.aload_n 0, 1) := by decide +kernel
theorem dX11_trade_119 : decode cX11_trade 119 = .ok (.getfield 7, 3) := by decide +kernel
theorem dX11_trade_122 : decode cX11_trade 122 = .ok (.bipush 99, 2) := by decide +kernel
theorem dX11_trade_124 : decode cX11_trade 124 = .ok (.iload_n 1, 1) := by decide +kernel
theorem dX11_trade_125 : decode cX11_trade 125 = .ok (.iadd, 1) := by decide +kernel
theorem dX11_trade_126 : decode cX11_trade 126 = .ok (.iaload, 1) := by decide +kernel
theorem dX11_trade_127 : decode cX11_trade 127 = .ok (.invokevirtual 88, 3) := by decide +kernel
theorem dX11_trade_130 : decode cX11_trade 130 = .ok (.isub, 1) := by decide +kernel
theorem dX11_trade_131 : decode cX11_trade 131 = .ok (.imul, 1) := by decide +kernel
theorem dX11_trade_132 : decode cX11_trade 132 = .ok (.iload 8, 2) := by decide +kernel
theorem dX11_trade_134 : decode cX11_trade 134 = .ok (.isub, 1) := by decide +kernel
theorem dX11_trade_135 : decode cX11_trade 135 = .ok (.istore 9, 2) := by decide +kernel
theorem dX11_trade_137 : decode cX11_trade 137 = .ok (.iload 6, 2) := by decide +kernel
theorem dX11_trade_139 : decode cX11_trade 139 = .ok (.iload 7, 2) := by decide +kernel
theorem dX11_trade_141 : decode cX11_trade 141 = .ok (.if_icmp .eq 31, 3) := by decide +kernel
theorem dX11_trade_144 : decode cX11_trade 144 = .ok (.iload 8, 2) := by decide +kernel
theorem dX11_trade_146 : decode cX11_trade 146 = .ok (.ldc 151, 2) := by decide +kernel
theorem dX11_trade_148 : decode cX11_trade 148 = .ok (.if_icmp .ge 24, 3) := by decide +kernel
theorem dX11_trade_151 : decode cX11_trade 151 = .ok (.iload 9, 2) := by decide +kernel
theorem dX11_trade_153 : decode cX11_trade 153 = .ok (.iload 4, 2) := by decide +kernel
theorem dX11_trade_155 : decode cX11_trade 155 = .ok (.if_icmp .le 17, 3) := by decide +kernel
theorem dX11_trade_158 : decode cX11_trade 158 = .ok (.iload 9, 2) := by decide +kernel
theorem dX11_trade_160 : decode cX11_trade 160 = .ok (.istore 4, 2) := by decide +kernel
theorem dX11_trade_162 : decode cX11_trade 162 = .ok (.bipush 10, 2) := by decide +kernel
theorem dX11_trade_164 : decode cX11_trade 164 = .ok (.iload 6, 2) := by decide +kernel
theorem dX11_trade_166 : decode cX11_trade 166 = .ok (.imul, 1) := by decide +kernel
theorem dX11_trade_167 : decode cX11_trade 167 = .ok (.iload 7, 2) := by decide +kernel
theorem dX11_trade_169 : decode cX11_trade 169 = .ok (.iadd, 1) := by decide +kernel
theorem dX11_trade_170 : decode cX11_trade 170 = .ok (.istore 5, 2) := by decide +kernel
theorem dX11_trade_172 : decode cX11_trade 172 = .ok (.iinc 7 1, 3) := by decide +kernel
theorem dX11_trade_175 : decode cX11_trade 175 = .ok (.goto (-110), 3) := by decide +kernel
theorem dX11_trade_178 : decode cX11_trade 178 = .ok (.iinc 6 1, 3) := by decide +kernel
theorem dX11_trade_181 : decode cX11_trade 181 = .ok (.goto (-130), 3) := by decide +kernel
theorem dX11_trade_184 : decode cX11_trade 184 = .ok (.iload 4, 2) := by decide +kernel
theorem dX11_trade_186 : decode cX11_trade 186 = .ok (.ldc 170, 2) := by decide +kernel
theorem dX11_trade_188 : decode cX11_trade 188 = .ok (.if_icmp .ne 8, 3) := by decide +kernel
theorem dX11_trade_191 : decode cX11_trade 191 = .ok (.ldc 175, 2) := by decide +kernel
theorem dX11_trade_193 : decode cX11_trade 193 = .ok (.goto 14, 3) := by decide +kernel
theorem dX11_trade_196 : decode cX11_trade 196 = .ok (.iload_n 3, 1) := by decide +kernel
theorem dX11_trade_197 : decode cX11_trade 197 = .ok (.ifCond .ne 8, 3) := by decide +kernel
theorem dX11_trade_200 : decode cX11_trade 200 = .ok (.iload 4, 2) := by decide +kernel
theorem dX11_trade_202 : decode cX11_trade 202 = .ok (.goto 5, 3) := by decide +kernel
theorem dX11_trade_205 : decode cX11_trade 205 = .ok (.iload 5, 2) := by decide +kernel
theorem dX11_trade_207 : decode cX11_trade 207 = .ok (.ireturn, 1) := by decide +kernel
theorem dX11_bits_0 : decode cX11_bits 0 = .ok (.iconst 0, 1) := by decide +kernel
theorem dX11_bits_1 : decode cX11_bits 1 = .ok (.istore_n 1, 1) := by decide +kernel
theorem dX11_bits_2 : decode cX11_bits 2 = .ok (.iload_n 0, 1) := by decide +kernel
theorem dX11_bits_3 : decode cX11_bits 3 = .ok (.istore_n 2, 1) := by decide +kernel
theorem dX11_bits_4 : decode cX11_bits 4 = .ok (.iload_n 2, 1) := by decide +kernel
theorem dX11_bits_5 : decode cX11_bits 5 = .ok (.ifCond .eq 15, 3) := by decide +kernel
theorem dX11_bits_8 : decode cX11_bits 8 = .ok (.iinc 1 1, 3) := by decide +kernel
theorem dX11_bits_11 : decode cX11_bits 11 = .ok (.iload_n 2, 1) := by decide +kernel
theorem dX11_bits_12 : decode cX11_bits 12 = .ok (.iload_n 2, 1) := by decide +kernel
theorem dX11_bits_13 : decode cX11_bits 13 = .ok (.iconst 1, 1) := by decide +kernel
theorem dX11_bits_14 : decode cX11_bits 14 = .ok (.isub, 1) := by decide +kernel
theorem dX11_bits_15 : decode cX11_bits 15 = .ok (.iand, 1) := by decide +kernel
theorem dX11_bits_16 : decode cX11_bits 16 = .ok (.istore_n 2, 1) := by decide +kernel
theorem dX11_bits_17 : decode cX11_bits 17 = .ok (.goto (-13), 3) := by decide +kernel
theorem dX11_bits_20 : decode cX11_bits 20 = .ok (.iload_n 1, 1) := by decide +kernel
theorem dX11_bits_21 : decode cX11_bits 21 = .ok (.ireturn, 1) := by decide +kernel
theorem dX11_paid_0 : decode cX11_paid 0 = .ok (.aload_n 0, 1) := by decide +kernel
theorem dX11_paid_1 : decode cX11_paid 1 = .ok (.getfield 7, 3) := by decide +kernel
theorem dX11_paid_4 : decode cX11_paid 4 = .ok (.bipush 105, 2) := by decide +kernel
theorem dX11_paid_6 : decode cX11_paid 6 = .ok (.iload_n 1, 1) := by decide +kernel
theorem dX11_paid_7 : decode cX11_paid 7 = .ok (.iadd, 1) := by decide +kernel
theorem dX11_paid_8 : decode cX11_paid 8 = .ok (.iaload, 1) := by decide +kernel
theorem dX11_paid_9 : decode cX11_paid 9 = .ok (.iload_n 3, 1) := by decide +kernel
theorem dX11_paid_10 : decode cX11_paid 10 = .ok (.iload_n 2, 1) := by decide +kernel
theorem dX11_paid_11 : decode cX11_paid 11 = .ok (.ishr, 1) := by decide +kernel
theorem dX11_paid_12 : decode cX11_paid 12 = .ok (.iconst 1, 1) := by decide +kernel
theorem dX11_paid_13 : decode cX11_paid 13 = .ok (.iand, 1) := by decide +kernel
theorem dX11_paid_14 : decode cX11_paid 14 = .ok (.iconst 1, 1) := by decide +kernel
theorem dX11_paid_15 : decode cX11_paid 15 = .ok (.if_icmp .ne 17, 3) := by decide +kernel
theorem dX11_paid_18 : decode cX11_paid 18 = .ok (.iconst 5, 1) := by decide +kernel
theorem dX11_paid_19 : decode cX11_paid 19 = .ok (.aload_n 0, 1) := by decide +kernel
theorem dX11_paid_20 : decode cX11_paid 20 = .ok (.getfield 7, 3) := by decide +kernel
theorem dX11_paid_23 : decode cX11_paid 23 = .ok (.bipush 99, 2) := by decide +kernel
theorem dX11_paid_25 : decode cX11_paid 25 = .ok (.iload_n 1, 1) := by decide +kernel
theorem dX11_paid_26 : decode cX11_paid 26 = .ok (.iadd, 1) := by decide +kernel
theorem dX11_paid_27 : decode cX11_paid 27 = .ok (.iaload, 1) := by decide +kernel
theorem dX11_paid_28 : decode cX11_paid 28 = .ok (.imul, 1) := by decide +kernel
theorem dX11_paid_29 : decode cX11_paid 29 = .ok (.goto 17, 3) := by decide +kernel
theorem dX11_paid_32 : decode cX11_paid 32 = .ok (.aload_n 0, 1) := by decide +kernel
theorem dX11_paid_33 : decode cX11_paid 33 = .ok (.iload_n 2, 1) := by decide +kernel
theorem dX11_paid_34 : decode cX11_paid 34 = .ok (.aload_n 0, 1) := by decide +kernel
theorem dX11_paid_35 : decode cX11_paid 35 = .ok (.getfield 7, 3) := by decide +kernel
theorem dX11_paid_38 : decode cX11_paid 38 = .ok (.bipush 99, 2) := by decide +kernel
theorem dX11_paid_40 : decode cX11_paid 40 = .ok (.iload_n 1, 1) := by decide +kernel
theorem dX11_paid_41 : decode cX11_paid 41 = .ok (.iadd, 1) := by decide +kernel
theorem dX11_paid_42 : decode cX11_paid 42 = .ok (.iaload, 1) := by decide +kernel
theorem dX11_paid_43 : decode cX11_paid 43 = .ok (.invokevirtual 88, 3) := by decide +kernel
theorem dX11_paid_46 : decode cX11_paid 46 = .ok (.imul, 1) := by decide +kernel
theorem dX11_paid_47 : decode cX11_paid 47 = .ok (.ireturn, 1) := by decide +kernel
theorem dX11_isEnded_0 : decode cX11_isEnded 0 = .ok (.iconst 1, 1) := by decide +kernel
theorem dX11_isEnded_1 : decode cX11_isEnded 1 = .ok (.istore_n 3, 1) := by decide +kernel
theorem dX11_isEnded_2 : decode cX11_isEnded 2 = .ok (.iconst 0, 1) := by decide +kernel
theorem dX11_isEnded_3 : decode cX11_isEnded 3 = .ok (.istore 4, 2) := by decide +kernel
theorem dX11_isEnded_5 : decode cX11_isEnded 5 = .ok (.iload 4, 2) := by decide +kernel
theorem dX11_isEnded_7 : decode cX11_isEnded 7 = .ok (.aload_n 0, 1) := by decide +kernel
theorem dX11_isEnded_8 : decode cX11_isEnded 8 = .ok (.getfield 7, 3) := by decide +kernel
theorem dX11_isEnded_11 : decode cX11_isEnded 11 = .ok (.iconst 0, 1) := by decide +kernel
theorem dX11_isEnded_12 : decode cX11_isEnded 12 = .ok (.iaload, 1) := by decide +kernel
theorem dX11_isEnded_13 : decode cX11_isEnded 13 = .ok (.if_icmp .ge 90, 3) := by decide +kernel
theorem dX11_isEnded_16 : decode cX11_isEnded 16 = .ok (.iconst 0, 1) := by decide +kernel
theorem dX11_isEnded_17 : decode cX11_isEnded 17 = .ok (.istore 5, 2) := by decide +kernel
theorem dX11_isEnded_19 : decode cX11_isEnded 19 = .ok (.iload 5, 2) := by decide +kernel
theorem dX11_isEnded_21 : decode cX11_isEnded 21 = .ok (.aload_n 0, 1) := by decide +kernel
theorem dX11_isEnded_22 : decode cX11_isEnded 22 = .ok (.getfield 7, 3) := by decide +kernel
theorem dX11_isEnded_25 : decode cX11_isEnded 25 = .ok (.iconst 0, 1) := by decide +kernel
theorem dX11_isEnded_26 : decode cX11_isEnded 26 = .ok (.iaload, 1) := by decide +kernel
theorem dX11_isEnded_27 : decode cX11_isEnded 27 = .ok (.if_icmp .ge 70, 3) := by decide +kernel
theorem dX11_isEnded_30 : decode cX11_isEnded 30 = .ok (.iload_n 3, 1) := by decide +kernel
theorem dX11_isEnded_31 : decode cX11_isEnded 31 = .ok (.ifCond .eq 58, 3) := by decide +kernel
theorem dX11_isEnded_34 : decode cX11_isEnded 34 = .ok (.aload_n 0, 1) := by decide +kernel
theorem dX11_isEnded_35 : decode cX11_isEnded 35 = .ok (.getfield 32, 3) := by decide +kernel
theorem dX11_isEnded_38 : decode cX11_isEnded 38 = .ok (.bipush 8, 2) := by decide +kernel
theorem dX11_isEnded_40 : decode cX11_isEnded 40 = .ok (.iload 4, 2) := by decide +kernel
theorem dX11_isEnded_42 : decode cX11_isEnded 42 = .ok (.imul, 1) := by decide +kernel
theorem dX11_isEnded_43 : decode cX11_isEnded 43 = .ok (.iload 5, 2) := by decide +kernel
theorem dX11_isEnded_45 : decode cX11_isEnded 45 = .ok (.iadd, 1) := by decide +kernel
theorem dX11_isEnded_46 : decode cX11_isEnded 46 = .ok (.iaload, 1) := by decide +kernel
theorem dX11_isEnded_47 : decode cX11_isEnded 47 = .ok (.ldc 151, 2) := by decide +kernel
theorem dX11_isEnded_49 : decode cX11_isEnded 49 = .ok (.if_icmp .ge 36, 3) := by decide +kernel
theorem dX11_isEnded_52 : decode cX11_isEnded 52 = .ok (.aload_n 0, 1) := by decide +kernel
theorem dX11_isEnded_53 : decode cX11_isEnded 53 = .ok (.iload_n 1, 1) := by decide +kernel
theorem dX11_isEnded_54 : decode cX11_isEnded 54 = .ok (.iload 5, 2) := by decide +kernel
theorem dX11_isEnded_56 : decode cX11_isEnded 56 = .ok (.iload_n 2, 1) := by decide +kernel
theorem dX11_isEnded_57 : decode cX11_isEnded 57 = .ok (.invokevirtual 182, 3) := by decide +kernel
theorem dX11_isEnded_60 : decode cX11_isEnded 60 = .ok (.aload_n 0, 1) := by decide +kernel
theorem dX11_isEnded_61 : decode cX11_isEnded 61 = .ok (.iload_n 1, 1) := by decide +kernel
theorem dX11_isEnded_62 : decode cX11_isEnded 62 = .ok (.iload 4, 2) := by decide +kernel
theorem dX11_isEnded_64 : decode cX11_isEnded 64 = .ok (.iload_n 2, 1) := by decide +kernel
theorem dX11_isEnded_65 : decode cX11_isEnded 65 = .ok (.invokevirtual 182, 3) := by decide +kernel
theorem dX11_isEnded_68 : decode cX11_isEnded 68 = .ok (.isub, 1) := by decide +kernel
theorem dX11_isEnded_69 : decode cX11_isEnded 69 = .ok (.aload_n 0, 1) := by decide +kernel
theorem dX11_isEnded_70 : decode cX11_isEnded 70 = .ok (.getfield 32, 3) := by decide +kernel
theorem dX11_isEnded_73 : decode cX11_isEnded 73 = .ok (.bipush 8, 2) := by decide +kernel
theorem dX11_isEnded_75 : decode cX11_isEnded 75 = .ok (.iload 4, 2) := by decide +kernel
theorem dX11_isEnded_77 : decode cX11_isEnded 77 = .ok (.imul, 1) := by decide +kernel
theorem dX11_isEnded_78 : decode cX11_isEnded 78 = .ok (.iload 5, 2) := by decide +kernel
theorem dX11_isEnded_80 : decode cX11_isEnded 80 = .ok (.iadd, 1) := by decide +kernel
theorem dX11_isEnded_81 : decode cX11_isEnded 81 = .ok (.iaload, 1) := by decide +kernel
theorem dX11_isEnded_82 : decode cX11_isEnded 82 = .ok (.if_icmp .gt 7, 3) := by decide +kernel
theorem dX11_isEnded_85 : decode cX11_isEnded 85 = .ok (.iconst 1, 1) := by decide +kernel
theorem dX11_isEnded_86 : decode cX11_isEnded 86 = .ok (.goto 4, 3) := by decide +kernel
theorem dX11_isEnded_89 : decode cX11_isEnded 89 = .ok (.iconst 0, 1) := by decide +kernel
theorem dX11_isEnded_90 : decode cX11_isEnded 90 = .ok (.istore_n 3, 1) := by decide +kernel
theorem dX11_isEnded_91 : decode cX11_isEnded 91 = .ok (.iinc 5 1, 3) := by decide +kernel
theorem dX11_isEnded_94 : decode cX11_isEnded 94 = .ok (.goto (-75), 3) := by decide +kernel
theorem dX11_isEnded_97 : decode cX11_isEnded 97 = .ok (.iinc 4 1, 3) := by decide +kernel
theorem dX11_isEnded_100 : decode cX11_isEnded 100 = .ok (.goto (-95), 3) := by decide +kernel
theorem dX11_isEnded_103 : decode cX11_isEnded 103 = .ok (.iload_n 3, 1) := by decide +kernel
theorem dX11_isEnded_104 : decode cX11_isEnded 104 = .ok (.ireturn, 1) := by decide +kernel
theorem dX11_scales_0 : decode cX11_scales 0 = .ok (.aload_n 0, 1) := by decide +kernel
theorem dX11_scales_1 : decode cX11_scales 1 = .ok (.iload_n 1, 1) := by decide +kernel
theorem dX11_scales_2 : decode cX11_scales 2 = .ok (.invokevirtual 85, 3) := by decide +kernel
theorem dX11_scales_5 : decode cX11_scales 5 = .ok (.ifCond .eq 11, 3) := by decide +kernel
theorem dX11_scales_8 : decode cX11_scales 8 = .ok (.aload_n 0, 1) := by decide +kernel
theorem dX11_scales_9 : decode cX11_scales 9 = .ok (.iload_n 2, 1) := by decide +kernel
theorem dX11_scales_10 : decode cX11_scales 10 = .ok (.invokevirtual 97, 3) := by decide +kernel
theorem dX11_scales_13 : decode cX11_scales 13 = .ok (.ifCond .ne 5, 3) := by decide +kernel
theorem dX11_scales_16 : decode cX11_scales 16 = .ok (.iconst (-1), 1) := by decide +kernel
theorem dX11_scales_17 : decode cX11_scales 17 = .ok (.ireturn, 1) := by decide +kernel
theorem dX11_scales_18 : decode cX11_scales 18 = .ok (.aload_n 0, 1) := by decide +kernel
theorem dX11_scales_19 : decode cX11_scales 19 = .ok (.iload_n 2, 1) := by decide +kernel
theorem dX11_scales_20 : decode cX11_scales 20 = .ok (.aload_n 0, 1) := by decide +kernel
theorem dX11_scales_21 : decode cX11_scales 21 = .ok (.getfield 7, 3) := by decide +kernel
theorem dX11_scales_24 : decode cX11_scales 24 = .ok (.bipush 99, 2) := by decide +kernel
theorem dX11_scales_26 : decode cX11_scales 26 = .ok (.iload_n 1, 1) := by decide +kernel
theorem dX11_scales_27 : decode cX11_scales 27 = .ok (.iadd, 1) := by decide +kernel
theorem dX11_scales_28 : decode cX11_scales 28 = .ok (.iaload, 1) := by decide +kernel
theorem dX11_scales_29 : decode cX11_scales 29 = .ok (.iconst 0, 1) := by decide +kernel
theorem dX11_scales_30 : decode cX11_scales 30 = .ok (.invokevirtual 162, 3) := by decide +kernel
theorem dX11_scales_33 : decode cX11_scales 33 = .ok (.bipush (-4), 2) := by decide +kernel
theorem dX11_scales_35 : decode cX11_scales 35 = .ok (.istore_n 3, 1) := by decide +kernel
theorem dX11_scales_36 : decode cX11_scales 36 = .ok (.iconst 0, 1) := by decide +kernel
theorem dX11_scales_37 : decode cX11_scales 37 = .ok (.istore 4, 2) := by decide +kernel
theorem dX11_scales_39 : decode cX11_scales 39 = .ok (.iload 4, 2) := by decide +kernel
theorem dX11_scales_41 : decode cX11_scales 41 = .ok (.iconst 1, 1) := by decide +kernel
theorem dX11_scales_42 : decode cX11_scales 42 = .ok (.aload_n 0, 1) := by decide +kernel
theorem dX11_scales_43 : decode cX11_scales 43 = .ok (.getfield 7, 3) := by decide +kernel
theorem dX11_scales_46 : decode cX11_scales 46 = .ok (.iconst 0, 1) := by decide +kernel
theorem dX11_scales_47 : decode cX11_scales 47 = .ok (.iaload, 1) := by decide +kernel
theorem dX11_scales_48 : decode cX11_scales 48 = .ok (.ishl, 1) := by decide +kernel
theorem dX11_scales_49 : decode cX11_scales 49 = .ok (.if_icmp .ge 56, 3) := by decide +kernel
theorem dX11_scales_52 : decode cX11_scales 52 = .ok (.iload_n 3, 1) := by decide +kernel
theorem dX11_scales_53 : decode cX11_scales 53 = .ok (.bipush (-4), 2) := by decide +kernel
theorem dX11_scales_55 : decode cX11_scales 55 = .ok (.if_icmp .eq 15, 3) := by decide +kernel
theorem dX11_scales_58 : decode cX11_scales 58 = .ok (.iload 4, 2) := by decide +kernel
theorem dX11_scales_60 : decode cX11_scales 60 = .ok (.invokestatic 185, 3) := by decide +kernel
theorem dX11_scales_63 : decode cX11_scales 63 = .ok (.iload_n 3, 1) := by decide +kernel
theorem dX11_scales_64 : decode cX11_scales 64 = .ok (.invokestatic 185, 3) := by decide +kernel
theorem dX11_scales_67 : decode cX11_scales 67 = .ok (.if_icmp .ge 7, 3) := by decide +kernel
theorem dX11_scales_70 : decode cX11_scales 70 = .ok (.iconst 1, 1) := by decide +kernel
theorem dX11_scales_71 : decode cX11_scales 71 = .ok (.goto 4, 3) := by decide +kernel
theorem dX11_scales_74 : decode cX11_scales 74 = .ok (.iconst 0, 1) := by decide +kernel
theorem dX11_scales_75 : decode cX11_scales 75 = .ok (.istore 5, 2) := by decide +kernel
theorem dX11_scales_77 : decode cX11_scales 77 = .ok (.iload 5, 2) := by decide +kernel
theorem dX11_scales_79 : decode cX11_scales 79 = .ok (.ifCond .eq 18, 3) := by decide +kernel
theorem dX11_scales_82 : decode cX11_scales 82 = .ok (.aload_n 0, 1) := by decide +kernel
theorem dX11_scales_83 : decode cX11_scales 83 = .ok (.iload_n 1, 1) := by decide +kernel
theorem dX11_scales_84 : decode cX11_scales 84 = .ok (.iload 4, 2) := by decide +kernel
theorem dX11_scales_86 : decode cX11_scales 86 = .ok (.invokevirtual 188, 3) := by decide +kernel
theorem dX11_scales_89 : decode cX11_scales 89 = .ok (.ifCond .eq 8, 3) := by decide +kernel
theorem dX11_scales_92 : decode cX11_scales 92 = .ok (.iload 4, 2) := by decide +kernel
theorem dX11_scales_94 : decode cX11_scales 94 = .ok (.goto 4, 3) := by decide +kernel
theorem dX11_scales_97 : decode cX11_scales 97 = .ok (.iload_n 3, 1) := by decide +kernel
theorem dX11_scales_98 : decode cX11_scales 98 = .ok (.istore_n 3, 1) := by decide +kernel
theorem dX11_scales_99 : decode cX11_scales 99 = .ok (.iinc 4 1, 3) := by decide +kernel
theorem dX11_scales_102 : decode cX11_scales 102 = .ok (.goto (-63), 3) := by decide +kernel
theorem dX11_scales_105 : decode cX11_scales 105 = .ok (.iload_n 3, 1) := by decide +kernel
theorem dX11_scales_106 : decode cX11_scales 106 = .ok (.ireturn, 1) := by decide +kernel
theorem dX11_takeOf_0 : decode cX11_takeOf 0 = .ok (.iconst 0, 1) := by decide +kernel
theorem dX11_takeOf_1 : decode cX11_takeOf 1 = .ok (.istore_n 3, 1) := by decide +kernel
theorem dX11_takeOf_2 : decode cX11_takeOf 2 = .ok (.iconst 0, 1) := by decide +kernel
theorem dX11_takeOf_3 : decode cX11_takeOf 3 = .ok (.istore 4, 2) := by decide +kernel
theorem dX11_takeOf_5 : decode cX11_takeOf 5 = .ok (.iload 4, 2) := by decide +kernel
theorem dX11_takeOf_7 : decode cX11_takeOf 7 = .ok (.aload_n 0, 1) := by decide +kernel
theorem dX11_takeOf_8 : decode cX11_takeOf 8 = .ok (.getfield 7, 3) := by decide +kernel
theorem dX11_takeOf_11 : decode cX11_takeOf 11 = .ok (.iconst 3, 1) := by decide +kernel
theorem dX11_takeOf_12 : decode cX11_takeOf 12 = .ok (.iaload, 1) := by decide +kernel
theorem dX11_takeOf_13 : decode cX11_takeOf 13 = .ok (.if_icmp .ge 29, 3) := by decide +kernel
theorem dX11_takeOf_16 : decode cX11_takeOf 16 = .ok (.iload_n 3, 1) := by decide +kernel
theorem dX11_takeOf_17 : decode cX11_takeOf 17 = .ok (.aload_n 0, 1) := by decide +kernel
theorem dX11_takeOf_18 : decode cX11_takeOf 18 = .ok (.iload 4, 2) := by decide +kernel
theorem dX11_takeOf_20 : decode cX11_takeOf 20 = .ok (.iload_n 2, 1) := by decide +kernel
theorem dX11_takeOf_21 : decode cX11_takeOf 21 = .ok (.iconst 0, 1) := by decide +kernel
theorem dX11_takeOf_22 : decode cX11_takeOf 22 = .ok (.invokevirtual 176, 3) := by decide +kernel
theorem dX11_takeOf_25 : decode cX11_takeOf 25 = .ok (.iload_n 1, 1) := by decide +kernel
theorem dX11_takeOf_26 : decode cX11_takeOf 26 = .ok (.if_icmp .ne 7, 3) := by decide +kernel
theorem dX11_takeOf_29 : decode cX11_takeOf 29 = .ok (.iconst 1, 1) := by decide +kernel
theorem dX11_takeOf_30 : decode cX11_takeOf 30 = .ok (.goto 4, 3) := by decide +kernel
theorem dX11_takeOf_33 : decode cX11_takeOf 33 = .ok (.iconst 0, 1) := by decide +kernel
theorem dX11_takeOf_34 : decode cX11_takeOf 34 = .ok (.iadd, 1) := by decide +kernel
theorem dX11_takeOf_35 : decode cX11_takeOf 35 = .ok (.istore_n 3, 1) := by decide +kernel
theorem dX11_takeOf_36 : decode cX11_takeOf 36 = .ok (.iinc 4 1, 3) := by decide +kernel
theorem dX11_takeOf_39 : decode cX11_takeOf 39 = .ok (.goto (-34), 3) := by decide +kernel
theorem dX11_takeOf_42 : decode cX11_takeOf 42 = .ok (.iload_n 3, 1) := by decide +kernel
theorem dX11_takeOf_43 : decode cX11_takeOf 43 = .ok (.ireturn, 1) := by decide +kernel
theorem dX11_take_0 : decode cX11_take 0 = .ok (.aload_n 0, 1) := by decide +kernel
theorem dX11_take_1 : decode cX11_take 1 = .ok (.iload_n 1, 1) := by decide +kernel
theorem dX11_take_2 : decode cX11_take 2 = .ok (.invokevirtual 68, 3) := by decide +kernel
theorem dX11_take_5 : decode cX11_take 5 = .ok (.ifCond .eq 20, 3) := by decide +kernel
theorem dX11_take_8 : decode cX11_take 8 = .ok (.aload_n 0, 1) := by decide +kernel
theorem dX11_take_9 : decode cX11_take 9 = .ok (.iload_n 2, 1) := by decide +kernel
theorem dX11_take_10 : decode cX11_take 10 = .ok (.invokevirtual 97, 3) := by decide +kernel
theorem dX11_take_13 : decode cX11_take 13 = .ok (.ifCond .eq 12, 3) := by decide +kernel
theorem dX11_take_16 : decode cX11_take 16 = .ok (.aload_n 0, 1) := by decide +kernel
theorem dX11_take_17 : decode cX11_take 17 = .ok (.iload_n 1, 1) := by decide +kernel
theorem dX11_take_18 : decode cX11_take 18 = .ok (.iload_n 2, 1) := by decide +kernel
theorem dX11_take_19 : decode cX11_take 19 = .ok (.invokevirtual 191, 3) := by decide +kernel
theorem dX11_take_22 : decode cX11_take 22 = .ok (.goto 4, 3) := by decide +kernel
theorem dX11_take_25 : decode cX11_take 25 = .ok (.iconst (-1), 1) := by decide +kernel
theorem dX11_take_26 : decode cX11_take 26 = .ok (.ireturn, 1) := by decide +kernel
theorem dX11_councils_0 : decode cX11_councils 0 = .ok (.aload_n 0, 1) := by decide +kernel
theorem dX11_councils_1 : decode cX11_councils 1 = .ok (.iload_n 1, 1) := by decide +kernel
theorem dX11_councils_2 : decode cX11_councils 2 = .ok (.invokevirtual 68, 3) := by decide +kernel
theorem dX11_councils_5 : decode cX11_councils 5 = .ok (.ifCond .eq 32, 3) := by decide +kernel
theorem dX11_councils_8 : decode cX11_councils 8 = .ok (.aload_n 0, 1) := by decide +kernel
theorem dX11_councils_9 : decode cX11_councils 9 = .ok (.iload_n 2, 1) := by decide +kernel
theorem dX11_councils_10 : decode cX11_councils 10 = .ok (.invokevirtual 68, 3) := by decide +kernel
theorem dX11_councils_13 : decode cX11_councils 13 = .ok (.ifCond .eq 24, 3) := by decide +kernel
theorem dX11_councils_16 : decode cX11_councils 16 = .ok (.iload_n 1, 1) := by decide +kernel
theorem dX11_councils_17 : decode cX11_councils 17 = .ok (.iload_n 2, 1) := by decide +kernel
theorem dX11_councils_18 : decode cX11_councils 18 = .ok (.if_icmp .eq 19, 3) := by decide +kernel
theorem dX11_councils_21 : decode cX11_councils 21 = .ok (.aload_n 0, 1) := by decide +kernel
theorem dX11_councils_22 : decode cX11_councils 22 = .ok (.iload_n 3, 1) := by decide +kernel
theorem dX11_councils_23 : decode cX11_councils 23 = .ok (.invokevirtual 97, 3) := by decide +kernel
theorem dX11_councils_26 : decode cX11_councils 26 = .ok (.ifCond .eq 11, 3) := by decide +kernel
theorem dX11_councils_29 : decode cX11_councils 29 = .ok (.iload 4, 2) := by decide +kernel
theorem dX11_councils_31 : decode cX11_councils 31 = .ok (.invokestatic 179, 3) := by decide +kernel
theorem dX11_councils_34 : decode cX11_councils 34 = .ok (.ifCond .ne 5, 3) := by decide +kernel
theorem dX11_councils_37 : decode cX11_councils 37 = .ok (.iconst (-1), 1) := by decide +kernel
theorem dX11_councils_38 : decode cX11_councils 38 = .ok (.ireturn, 1) := by decide +kernel
theorem dX11_councils_39 : decode cX11_councils 39 = .ok (.bipush 14, 2) := by decide +kernel
theorem dX11_councils_41 : decode cX11_councils 41 = .ok (.iconst 4, 1) := by decide +kernel
theorem dX11_councils_42 : decode cX11_councils 42 = .ok (.iload_n 1, 1) := by decide +kernel
theorem dX11_councils_43 : decode cX11_councils 43 = .ok (.imul, 1) := by decide +kernel
theorem dX11_councils_44 : decode cX11_councils 44 = .ok (.iadd, 1) := by decide +kernel
theorem dX11_councils_45 : decode cX11_councils 45 = .ok (.aload_n 0, 1) := by decide +kernel
theorem dX11_councils_46 : decode cX11_councils 46 = .ok (.invokevirtual 54, 3) := by decide +kernel
theorem dX11_councils_49 : decode cX11_councils 49 = .ok (.iadd, 1) := by decide +kernel
theorem dX11_councils_50 : decode cX11_councils 50 = .ok (.istore 5, 2) := by decide +kernel
theorem dX11_councils_52 : decode cX11_councils 52 = .ok (.bipush 14, 2) := by decide +kernel
theorem dX11_councils_54 : decode cX11_councils 54 = .ok (.iconst 4, 1) := by decide +kernel
theorem dX11_councils_55 : decode cX11_councils 55 = .ok (.iload_n 2, 1) := by decide +kernel
theorem dX11_councils_56 : decode cX11_councils 56 = .ok (.imul, 1) := by decide +kernel
theorem dX11_councils_57 : decode cX11_councils 57 = .ok (.iadd, 1) := by decide +kernel
theorem dX11_councils_58 : decode cX11_councils 58 = .ok (.aload_n 0, 1) := by decide +kernel
theorem dX11_councils_59 : decode cX11_councils 59 = .ok (.invokevirtual 54, 3) := by decide +kernel
theorem dX11_councils_62 : decode cX11_councils 62 = .ok (.iadd, 1) := by decide +kernel
theorem dX11_councils_63 : decode cX11_councils 63 = .ok (.istore 6, 2) := by decide +kernel
theorem dX11_councils_65 : decode cX11_councils 65 = .ok (.aload_n 0, 1) := by decide +kernel
theorem dX11_councils_66 : decode cX11_councils 66 = .ok (.getfield 7, 3) := by decide +kernel
theorem dX11_councils_69 : decode cX11_councils 69 = .ok (.iload 5, 2) := by decide +kernel
theorem dX11_councils_71 : decode cX11_councils 71 = .ok (.iaload, 1) := by decide +kernel
theorem dX11_councils_72 : decode cX11_councils 72 = .ok (.istore 7, 2) := by decide +kernel
theorem dX11_councils_74 : decode cX11_councils 74 = .ok (.aload_n 0, 1) := by decide +kernel
theorem dX11_councils_75 : decode cX11_councils 75 = .ok (.getfield 7, 3) := by decide +kernel
theorem dX11_councils_78 : decode cX11_councils 78 = .ok (.iload 6, 2) := by decide +kernel
theorem dX11_councils_80 : decode cX11_councils 80 = .ok (.iaload, 1) := by decide +kernel
theorem dX11_councils_81 : decode cX11_councils 81 = .ok (.istore 8, 2) := by decide +kernel
theorem dX11_councils_83 : decode cX11_councils 83 = .ok (.bipush 11, 2) := by decide +kernel
theorem dX11_councils_85 : decode cX11_councils 85 = .ok (.istore 9, 2) := by decide +kernel
theorem dX11_councils_87 : decode cX11_councils 87 = .ok (.iload 9, 2) := by decide +kernel
theorem dX11_councils_89 : decode cX11_councils 89 = .ok (.bipush 100, 2) := by decide +kernel
theorem dX11_councils_91 : decode cX11_councils 91 = .ok (.if_icmp .ge 67, 3) := by decide +kernel
theorem dX11_councils_94 : decode cX11_councils 94 = .ok (.iload 9, 2) := by decide +kernel
theorem dX11_councils_96 : decode cX11_councils 96 = .ok (.bipush 10, 2) := by decide +kernel
theorem dX11_councils_98 : decode cX11_councils 98 = .ok (.irem, 1) := by decide +kernel
theorem dX11_councils_99 : decode cX11_councils 99 = .ok (.ifCond .le 53, 3) := by decide +kernel
theorem dX11_councils_102 : decode cX11_councils 102 = .ok (.aload_n 0, 1) := by decide +kernel
theorem dX11_councils_103 : decode cX11_councils 103 = .ok (.getfield 7, 3) := by decide +kernel
theorem dX11_councils_106 : decode cX11_councils 106 = .ok (.iload 5, 2) := by decide +kernel
theorem dX11_councils_108 : decode cX11_councils 108 = .ok (.iload 9, 2) := by decide +kernel
theorem dX11_councils_110 : decode cX11_councils 110 = .ok (.bipush 10, 2) := by decide +kernel
theorem dX11_councils_112 : decode cX11_councils 112 = .ok (.idiv, 1) := by decide +kernel
theorem dX11_councils_113 : decode cX11_councils 113 = .ok (.iastore, 1) := by decide +kernel
theorem dX11_councils_114 : decode cX11_councils 114 = .ok (.aload_n 0, 1) := by decide +kernel
theorem dX11_councils_115 : decode cX11_councils 115 = .ok (.getfield 7, 3) := by decide +kernel
theorem dX11_councils_118 : decode cX11_councils 118 = .ok (.iload 6, 2) := by decide +kernel
theorem dX11_councils_120 : decode cX11_councils 120 = .ok (.iload 9, 2) := by decide +kernel
theorem dX11_councils_122 : decode cX11_councils 122 = .ok (.bipush 10, 2) := by decide +kernel
theorem dX11_councils_124 : decode cX11_councils 124 = .ok (.irem, 1) := by decide +kernel
theorem dX11_councils_125 : decode cX11_councils 125 = .ok (.iastore, 1) := by decide +kernel
theorem dX11_councils_126 : decode cX11_councils 126 = .ok (.aload_n 0, 1) := by decide +kernel
theorem dX11_councils_127 : decode cX11_councils 127 = .ok (.getfield 41, 3) := by decide +kernel
theorem dX11_councils_130 : decode cX11_councils 130 = .ok (.iload 9, 2) := by decide +kernel
theorem dX11_councils_132 : decode cX11_councils 132 = .ok (.aload_n 0, 1) := by decide +kernel
theorem dX11_councils_133 : decode cX11_councils 133 = .ok (.iload_n 1, 1) := by decide +kernel
theorem dX11_councils_134 : decode cX11_councils 134 = .ok (.iload_n 3, 1) := by decide +kernel
theorem dX11_councils_135 : decode cX11_councils 135 = .ok (.invokevirtual 191, 3) := by decide +kernel
theorem dX11_councils_138 : decode cX11_councils 138 = .ok (.iastore, 1) := by decide +kernel
theorem dX11_councils_139 : decode cX11_councils 139 = .ok (.aload_n 0, 1) := by decide +kernel
theorem dX11_councils_140 : decode cX11_councils 140 = .ok (.getfield 44, 3) := by decide +kernel
theorem dX11_councils_143 : decode cX11_councils 143 = .ok (.iload 9, 2) := by decide +kernel
theorem dX11_councils_145 : decode cX11_councils 145 = .ok (.aload_n 0, 1) := by decide +kernel
theorem dX11_councils_146 : decode cX11_councils 146 = .ok (.iload_n 2, 1) := by decide +kernel
theorem dX11_councils_147 : decode cX11_councils 147 = .ok (.iload_n 3, 1) := by decide +kernel
theorem dX11_councils_148 : decode cX11_councils 148 = .ok (.invokevirtual 191, 3) := by decide +kernel
theorem dX11_councils_151 : decode cX11_councils 151 = .ok (.iastore, 1) := by decide +kernel
theorem dX11_councils_152 : decode cX11_councils 152 = .ok (.iinc 9 1, 3) := by decide +kernel
theorem dX11_councils_155 : decode cX11_councils 155 = .ok (.goto (-68), 3) := by decide +kernel
theorem dX11_councils_158 : decode cX11_councils 158 = .ok (.aload_n 0, 1) := by decide +kernel
theorem dX11_councils_159 : decode cX11_councils 159 = .ok (.getfield 7, 3) := by decide +kernel
theorem dX11_councils_162 : decode cX11_councils 162 = .ok (.iload 5, 2) := by decide +kernel
theorem dX11_councils_164 : decode cX11_councils 164 = .ok (.iload 7, 2) := by decide +kernel
theorem dX11_councils_166 : decode cX11_councils 166 = .ok (.iastore, 1) := by decide +kernel
theorem dX11_councils_167 : decode cX11_councils 167 = .ok (.aload_n 0, 1) := by decide +kernel
theorem dX11_councils_168 : decode cX11_councils 168 = .ok (.getfield 7, 3) := by decide +kernel
theorem dX11_councils_171 : decode cX11_councils 171 = .ok (.iload 6, 2) := by decide +kernel
theorem dX11_councils_173 : decode cX11_councils 173 = .ok (.iload 8, 2) := by decide +kernel
theorem dX11_councils_175 : decode cX11_councils 175 = .ok (.iastore, 1) := by decide +kernel
theorem dX11_councils_176 : decode cX11_councils 176 = .ok (.iconst 0, 1) := by decide +kernel
theorem dX11_councils_177 : decode cX11_councils 177 = .ok (.istore 9, 2) := by decide +kernel
theorem dX11_councils_179 : decode cX11_councils 179 = .ok (.bipush (-4), 2) := by decide +kernel
theorem dX11_councils_181 : decode cX11_councils 181 = .ok (.istore 10, 2) := by decide +kernel
theorem dX11_councils_183 : decode cX11_councils 183 = .ok (.bipush 11, 2) := by decide +kernel
theorem dX11_councils_185 : decode cX11_councils 185 = .ok (.istore 11, 2) := by decide +kernel
theorem dX11_councils_187 : decode cX11_councils 187 = .ok (.iload 11, 2) := by decide +kernel
theorem dX11_councils_189 : decode cX11_councils 189 = .ok (.bipush 100, 2) := by decide +kernel
theorem dX11_councils_191 : decode cX11_councils 191 = .ok (.if_icmp .ge 138, 3) := by decide +kernel
theorem dX11_councils_194 : decode cX11_councils 194 = .ok (.iload 11, 2) := by decide +kernel
theorem dX11_councils_196 : decode cX11_councils 196 = .ok (.bipush 10, 2) := by decide +kernel
theorem dX11_councils_198 : decode cX11_councils 198 = .ok (.irem, 1) := by decide +kernel
theorem dX11_councils_199 : decode cX11_councils 199 = .ok (.ifCond .le 7, 3) := by decide +kernel
theorem dX11_councils_202 : decode cX11_councils 202 = .ok (.iconst 1, 1) := by decide +kernel
theorem dX11_councils_203 : decode cX11_councils 203 = .ok (.goto 4, 3) := by decide +kernel
theorem dX11_councils_206 : decode cX11_councils 206 = .ok (.iconst 0, 1) := by decide +kernel
theorem dX11_councils_207 : decode cX11_councils 207 = .ok (.istore 12, 2) := by decide +kernel
theorem dX11_councils_209 : decode cX11_councils 209 = .ok (.iconst 1, 1) := by decide +kernel
theorem dX11_councils_210 : decode cX11_councils 210 = .ok (.istore 13, 2) := by decide +kernel
theorem dX11_councils_212 : decode cX11_councils 212 = .ok (.iload 13, 2) := by decide +kernel
theorem dX11_councils_214 : decode cX11_councils 214 = .ok (.bipush 10, 2) := by decide +kernel
theorem dX11_councils_216 : decode cX11_councils 216 = .ok (.if_icmp .ge 73, 3) := by decide +kernel
theorem dX11_councils_219 : decode cX11_councils 219 = .ok (.iload 12, 2) := by decide +kernel
theorem dX11_councils_221 : decode cX11_councils 221 = .ok (.ifCond .eq 68, 3) := by decide +kernel
theorem dX11_councils_224 : decode cX11_councils 224 = .ok (.aload_n 0, 1) := by decide +kernel
theorem dX11_councils_225 : decode cX11_councils 225 = .ok (.getfield 41, 3) := by decide +kernel
theorem dX11_councils_228 : decode cX11_councils 228 = .ok (.bipush 10, 2) := by decide +kernel
theorem dX11_councils_230 : decode cX11_councils 230 = .ok (.iload 13, 2) := by decide +kernel
theorem dX11_councils_232 : decode cX11_councils 232 = .ok (.imul, 1) := by decide +kernel
theorem dX11_councils_233 : decode cX11_councils 233 = .ok (.iload 11, 2) := by decide +kernel
theorem dX11_councils_235 : decode cX11_councils 235 = .ok (.bipush 10, 2) := by decide +kernel
theorem dX11_councils_237 : decode cX11_councils 237 = .ok (.irem, 1) := by decide +kernel
theorem dX11_councils_238 : decode cX11_councils 238 = .ok (.iadd, 1) := by decide +kernel
theorem dX11_councils_239 : decode cX11_councils 239 = .ok (.iaload, 1) := by decide +kernel
theorem dX11_councils_240 : decode cX11_councils 240 = .ok (.aload_n 0, 1) := by decide +kernel
theorem dX11_councils_241 : decode cX11_councils 241 = .ok (.getfield 41, 3) := by decide +kernel
