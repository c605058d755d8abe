theorem dX10_init_0 : decode cX10_init 0 = .ok (.aload_n 0, 1) := by decide +kernel
theorem dX10_init_1 : decode cX10_init 1 = .ok (.invokespecial 1, 3) := by decide +kernel
theorem dX10_init_4 : decode cX10_init 4 = .ok (.aload_n 0, 1) := by decide +kernel
theorem dX10_init_5 : decode cX10_init 5 = .ok (.new 7, 3) := by decide +kernel
theorem dX10_init_8 : decode cX10_init 8 = .ok (.dup, 1) := by decide +kernel
theorem dX10_init_9 : decode cX10_init 9 = .ok (.invokespecial 9, 3) := by decide +kernel
theorem dX10_init_12 : decode cX10_init 12 = .ok (.putfield 10, 3) := by decide +kernel
theorem dX10_init_15 : decode cX10_init 15 = .ok (.aload_n 0, 1) := by decide +kernel
theorem dX10_init_16 : decode cX10_init 16 = .ok (.new 7, 3) := by decide +kernel
theorem dX10_init_19 : decode cX10_init 19 = .ok (.dup, 1) := by decide +kernel
theorem dX10_init_20 : decode cX10_init 20 = .ok (.invokespecial 9, 3) := by decide +kernel
theorem dX10_init_23 : decode cX10_init 23 = .ok (.putfield 16, 3) := by decide +kernel
theorem dX10_init_26 : decode cX10_init 26 = .ok (.aload_n 0, 1) := by decide +kernel
theorem dX10_init_27 : decode cX10_init 27 = .ok (.new 19, 3) := by decide +kernel
theorem dX10_init_30 : decode cX10_init 30 = .ok (.dup, 1) := by decide +kernel
theorem dX10_init_31 : decode cX10_init 31 = .ok (.invokespecial 21, 3) := by decide +kernel
theorem dX10_init_34 : decode cX10_init 34 = .ok (.putfield 22, 3) := by decide +kernel
theorem dX10_init_37 : decode cX10_init 37 = .ok (.aload_n 0, 1) := by decide +kernel
theorem dX10_init_38 : decode cX10_init 38 = .ok (.new 26, 3) := by decide +kernel
theorem dX10_init_41 : decode cX10_init 41 = .ok (.dup, 1) := by decide +kernel
theorem dX10_init_42 : decode cX10_init 42 = .ok (.invokespecial 28, 3) := by decide +kernel
theorem dX10_init_45 : decode cX10_init 45 = .ok (.putfield 29, 3) := by decide +kernel
theorem dX10_init_48 : decode cX10_init 48 = .ok (.aload_n 0, 1) := by decide +kernel
theorem dX10_init_49 : decode cX10_init 49 = .ok (.new 33, 3) := by decide +kernel
theorem dX10_init_52 : decode cX10_init 52 = .ok (.dup, 1) := by decide +kernel
theorem dX10_init_53 : decode cX10_init 53 = .ok (.aload_n 0, 1) := by decide +kernel
theorem dX10_init_54 : decode cX10_init 54 = .ok (.getfield 10, 3) := by decide +kernel
theorem dX10_init_57 : decode cX10_init 57 = .ok (.invokespecial 35, 3) := by decide +kernel
theorem dX10_init_60 : decode cX10_init 60 = .ok (.putfield 38, 3) := by decide +kernel
theorem dX10_init_63 : decode cX10_init 63 = .ok (.aload_n 0, 1) := by decide +kernel
theorem dX10_init_64 : decode cX10_init 64 = .ok (.new 42, 3) := by decide +kernel
theorem dX10_init_67 : decode cX10_init 67 = .ok (.dup, 1) := by decide +kernel
theorem dX10_init_68 : decode cX10_init 68 = .ok (.aload_n 0, 1) := by decide +kernel
theorem dX10_init_69 : decode cX10_init 69 = .ok (.getfield 10, 3) := by decide +kernel
theorem dX10_init_72 : decode cX10_init 72 = .ok (.aload_n 0, 1) := by decide +kernel
theorem dX10_init_73 : decode cX10_init 73 = .ok (.getfield 38, 3) := by decide +kernel
theorem dX10_init_76 : decode cX10_init 76 = .ok (.invokespecial 44, 3) := by decide +kernel
theorem dX10_init_79 : decode cX10_init 79 = .ok (.putfield 47, 3) := by decide +kernel
theorem dX10_init_82 : decode cX10_init 82 = .ok (.aload_n 0, 1) := by decide +kernel
theorem dX10_init_83 : decode cX10_init 83 = .ok (.new 51, 3) := by decide +kernel
theorem dX10_init_86 : decode cX10_init 86 = .ok (.dup, 1) := by decide +kernel
theorem dX10_init_87 : decode cX10_init 87 = .ok (.aload_n 0, 1) := by decide +kernel
theorem dX10_init_88 : decode cX10_init 88 = .ok (.getfield 10, 3) := by decide +kernel
theorem dX10_init_91 : decode cX10_init 91 = .ok (.aload_n 0, 1) := by decide +kernel
theorem dX10_init_92 : decode cX10_init 92 = .ok (.getfield 38, 3) := by decide +kernel
theorem dX10_init_95 : decode cX10_init 95 = .ok (.invokespecial 53, 3) := by decide +kernel
theorem dX10_init_98 : decode cX10_init 98 = .ok (.putfield 54, 3) := by decide +kernel
theorem dX10_init_101 : decode cX10_init 101 = .ok (.aload_n 0, 1) := by decide +kernel
theorem dX10_init_102 : decode cX10_init 102 = .ok (.new 58, 3) := by decide +kernel
theorem dX10_init_105 : decode cX10_init 105 = .ok (.dup, 1) := by decide +kernel
theorem dX10_init_106 : decode cX10_init 106 = .ok (.aload_n 0, 1) := by decide +kernel
theorem dX10_init_107 : decode cX10_init 107 = .ok (.getfield 10, 3) := by decide +kernel
theorem dX10_init_110 : decode cX10_init 110 = .ok (.aload_n 0, 1) := by decide +kernel
theorem dX10_init_111 : decode cX10_init 111 = .ok (.getfield 38, 3) := by decide +kernel
theorem dX10_init_114 : decode cX10_init 114 = .ok (.invokespecial 60, 3) := by decide +kernel
theorem dX10_init_117 : decode cX10_init 117 = .ok (.putfield 61, 3) := by decide +kernel
theorem dX10_init_120 : decode cX10_init 120 = .ok (.aload_n 0, 1) := by decide +kernel
theorem dX10_init_121 : decode cX10_init 121 = .ok (.new 65, 3) := by decide +kernel
theorem dX10_init_124 : decode cX10_init 124 = .ok (.dup, 1) := by decide +kernel
theorem dX10_init_125 : decode cX10_init 125 = .ok (.invokespecial 67, 3) := by decide +kernel
theorem dX10_init_128 : decode cX10_init 128 = .ok (.putfield 68, 3) := by decide +kernel
theorem dX10_init_131 : decode cX10_init 131 = .ok (.return_, 1) := by decide +kernel
theorem dX10_parish_0 : decode cX10_parish 0 = .ok (.iload_n 1, 1) := by decide +kernel
theorem dX10_parish_1 : decode cX10_parish 1 = .ok (.iconst 0, 1) := by decide +kernel
theorem dX10_parish_2 : decode cX10_parish 2 = .ok (.iconst 3, 1) := by decide +kernel
theorem dX10_parish_3 : decode cX10_parish 3 = .ok (.invokestatic 72, 3) := by decide +kernel
theorem dX10_parish_6 : decode cX10_parish 6 = .ok (.ifCond .ne 5, 3) := by decide +kernel
theorem dX10_parish_9 : decode cX10_parish 9 = .ok (.iconst (-1), 1) := by decide +kernel
theorem dX10_parish_10 : decode cX10_parish 10 = .ok (.ireturn, 1) := by decide +kernel
theorem dX10_parish_11 : decode cX10_parish 11 = .ok (.aload_n 0, 1) := by decide +kernel
theorem dX10_parish_12 : decode cX10_parish 12 = .ok (.getfield 10, 3) := by decide +kernel
theorem dX10_parish_15 : decode cX10_parish 15 = .ok (.getfield 76, 3) := by decide +kernel
theorem dX10_parish_18 : decode cX10_parish 18 = .ok (.getfield 80, 3) := by decide +kernel
theorem dX10_parish_21 : decode cX10_parish 21 = .ok (.bipush 8, 2) := by decide +kernel
theorem dX10_parish_23 : decode cX10_parish 23 = .ok (.if_icmp .lt 6, 3) := by decide +kernel
theorem dX10_parish_26 : decode cX10_parish 26 = .ok (.bipush (-3), 2) := by decide +kernel
theorem dX10_parish_28 : decode cX10_parish 28 = .ok (.ireturn, 1) := by decide +kernel
theorem dX10_parish_29 : decode cX10_parish 29 = .ok (.aload_n 0, 1) := by decide +kernel
theorem dX10_parish_30 : decode cX10_parish 30 = .ok (.getfield 10, 3) := by decide +kernel
theorem dX10_parish_33 : decode cX10_parish 33 = .ok (.getfield 76, 3) := by decide +kernel
theorem dX10_parish_36 : decode cX10_parish 36 = .ok (.iload_n 1, 1) := by decide +kernel
theorem dX10_parish_37 : decode cX10_parish 37 = .ok (.invokevirtual 86, 3) := by decide +kernel
theorem dX10_parish_40 : decode cX10_parish 40 = .ok (.ireturn, 1) := by decide +kernel
theorem dX10_pull_0 : decode cX10_pull 0 = .ok (.aload_n 0, 1) := by decide +kernel
theorem dX10_pull_1 : decode cX10_pull 1 = .ok (.getfield 10, 3) := by decide +kernel
theorem dX10_pull_4 : decode cX10_pull 4 = .ok (.getfield 76, 3) := by decide +kernel
theorem dX10_pull_7 : decode cX10_pull 7 = .ok (.iload_n 1, 1) := by decide +kernel
theorem dX10_pull_8 : decode cX10_pull 8 = .ok (.invokevirtual 90, 3) := by decide +kernel
theorem dX10_pull_11 : decode cX10_pull 11 = .ok (.ifCond .eq 22, 3) := by decide +kernel
theorem dX10_pull_14 : decode cX10_pull 14 = .ok (.iload_n 2, 1) := by decide +kernel
theorem dX10_pull_15 : decode cX10_pull 15 = .ok (.iconst 0, 1) := by decide +kernel
theorem dX10_pull_16 : decode cX10_pull 16 = .ok (.iconst 3, 1) := by decide +kernel
theorem dX10_pull_17 : decode cX10_pull 17 = .ok (.invokestatic 72, 3) := by decide +kernel
theorem dX10_pull_20 : decode cX10_pull 20 = .ok (.ifCond .eq 13, 3) := by decide +kernel
theorem dX10_pull_23 : decode cX10_pull 23 = .ok (.iload_n 3, 1) := by decide +kernel
theorem dX10_pull_24 : decode cX10_pull 24 = .ok (.iconst 1, 1) := by decide +kernel
theorem dX10_pull_25 : decode cX10_pull 25 = .ok (.bipush 9, 2) := by decide +kernel
theorem dX10_pull_27 : decode cX10_pull 27 = .ok (.invokestatic 72, 3) := by decide +kernel
theorem dX10_pull_30 : decode cX10_pull 30 = .ok (.ifCond .ne 5, 3) := by decide +kernel
theorem dX10_pull_33 : decode cX10_pull 33 = .ok (.iconst (-1), 1) := by decide +kernel
theorem dX10_pull_34 : decode cX10_pull 34 = .ok (.ireturn, 1) := by decide +kernel
theorem dX10_pull_35 : decode cX10_pull 35 = .ok (.aload_n 0, 1) := by decide +kernel
theorem dX10_pull_36 : decode cX10_pull 36 = .ok (.getfield 10, 3) := by decide +kernel
theorem dX10_pull_39 : decode cX10_pull 39 = .ok (.getfield 76, 3) := by decide +kernel
theorem dX10_pull_42 : decode cX10_pull 42 = .ok (.getfield 94, 3) := by decide +kernel
theorem dX10_pull_45 : decode cX10_pull 45 = .ok (.iload_n 1, 1) := by decide +kernel
theorem dX10_pull_46 : decode cX10_pull 46 = .ok (.iconst 4, 1) := by decide +kernel
theorem dX10_pull_47 : decode cX10_pull 47 = .ok (.imul, 1) := by decide +kernel
theorem dX10_pull_48 : decode cX10_pull 48 = .ok (.iload_n 2, 1) := by decide +kernel
theorem dX10_pull_49 : decode cX10_pull 49 = .ok (.iadd, 1) := by decide +kernel
theorem dX10_pull_50 : decode cX10_pull 50 = .ok (.iaload, 1) := by decide +kernel
theorem dX10_pull_51 : decode cX10_pull 51 = .ok (.istore 4, 2) := by decide +kernel
theorem dX10_pull_53 : decode cX10_pull 53 = .ok (.aload_n 0, 1) := by decide +kernel
theorem dX10_pull_54 : decode cX10_pull 54 = .ok (.getfield 10, 3) := by decide +kernel
theorem dX10_pull_57 : decode cX10_pull 57 = .ok (.getfield 76, 3) := by decide +kernel
theorem dX10_pull_60 : decode cX10_pull 60 = .ok (.getfield 94, 3) := by decide +kernel
theorem dX10_pull_63 : decode cX10_pull 63 = .ok (.iload_n 1, 1) := by decide +kernel
theorem dX10_pull_64 : decode cX10_pull 64 = .ok (.iconst 4, 1) := by decide +kernel
theorem dX10_pull_65 : decode cX10_pull 65 = .ok (.imul, 1) := by decide +kernel
theorem dX10_pull_66 : decode cX10_pull 66 = .ok (.iload_n 2, 1) := by decide +kernel
theorem dX10_pull_67 : decode cX10_pull 67 = .ok (.iadd, 1) := by decide +kernel
theorem dX10_pull_68 : decode cX10_pull 68 = .ok (.iload_n 3, 1) := by decide +kernel
theorem dX10_pull_69 : decode cX10_pull 69 = .ok (.iastore, 1) := by decide +kernel
theorem dX10_pull_70 : decode cX10_pull 70 = .ok (.iload 4, 2) := by decide +kernel
theorem dX10_pull_72 : decode cX10_pull 72 = .ok (.ireturn, 1) := by decide +kernel
theorem dX10_road_0 : decode cX10_road 0 = .ok (.aload_n 0, 1) := by decide +kernel
theorem dX10_road_1 : decode cX10_road 1 = .ok (.getfield 10, 3) := by decide +kernel
theorem dX10_road_4 : decode cX10_road 4 = .ok (.getfield 76, 3) := by decide +kernel
theorem dX10_road_7 : decode cX10_road 7 = .ok (.iload_n 1, 1) := by decide +kernel
theorem dX10_road_8 : decode cX10_road 8 = .ok (.invokevirtual 90, 3) := by decide +kernel
theorem dX10_road_11 : decode cX10_road 11 = .ok (.ifCond .eq 32, 3) := by decide +kernel
theorem dX10_road_14 : decode cX10_road 14 = .ok (.aload_n 0, 1) := by decide +kernel
theorem dX10_road_15 : decode cX10_road 15 = .ok (.getfield 10, 3) := by decide +kernel
theorem dX10_road_18 : decode cX10_road 18 = .ok (.getfield 76, 3) := by decide +kernel
theorem dX10_road_21 : decode cX10_road 21 = .ok (.iload_n 2, 1) := by decide +kernel
theorem dX10_road_22 : decode cX10_road 22 = .ok (.invokevirtual 90, 3) := by decide +kernel
theorem dX10_road_25 : decode cX10_road 25 = .ok (.ifCond .eq 18, 3) := by decide +kernel
theorem dX10_road_28 : decode cX10_road 28 = .ok (.iload_n 1, 1) := by decide +kernel
theorem dX10_road_29 : decode cX10_road 29 = .ok (.iload_n 2, 1) := by decide +kernel
theorem dX10_road_30 : decode cX10_road 30 = .ok (.if_icmp .eq 13, 3) := by decide +kernel
theorem dX10_road_33 : decode cX10_road 33 = .ok (.iload_n 3, 1) := by decide +kernel
theorem dX10_road_34 : decode cX10_road 34 = .ok (.iconst 0, 1) := by decide +kernel
theorem dX10_road_35 : decode cX10_road 35 = .ok (.bipush 9, 2) := by decide +kernel
theorem dX10_road_37 : decode cX10_road 37 = .ok (.invokestatic 72, 3) := by decide +kernel
theorem dX10_road_40 : decode cX10_road 40 = .ok (.ifCond .ne 5, 3) := by decide +kernel
theorem dX10_road_43 : decode cX10_road 43 = .ok (.iconst (-1), 1) := by decide +kernel
theorem dX10_road_44 : decode cX10_road 44 = .ok (.ireturn, 1) := by decide +kernel
theorem dX10_road_45 : decode cX10_road 45 = .ok (.aload_n 0, 1) := by decide +kernel
theorem dX10_road_46 : decode cX10_road 46 = .ok (.getfield 10, 3) := by decide +kernel
theorem dX10_road_49 : decode cX10_road 49 = .ok (.getfield 76, 3) := by decide +kernel
theorem dX10_road_52 : decode cX10_road 52 = .ok (.iload_n 1, 1) := by decide +kernel
theorem dX10_road_53 : decode cX10_road 53 = .ok (.iload_n 2, 1) := by decide +kernel
theorem dX10_road_54 : decode cX10_road 54 = .ok (.invokevirtual 98, 3) := by decide +kernel
theorem dX10_road_57 : decode cX10_road 57 = .ok (.ifCond .eq 6, 3) := by decide +kernel
theorem dX10_road_60 : decode cX10_road 60 = .ok (.bipush (-2), 2) := by decide +kernel
theorem dX10_road_62 : decode cX10_road 62 = .ok (.ireturn, 1) := by decide +kernel
theorem dX10_road_63 : decode cX10_road 63 = .ok (.aload_n 0, 1) := by decide +kernel
theorem dX10_road_64 : decode cX10_road 64 = .ok (.getfield 10, 3) := by decide +kernel
theorem dX10_road_67 : decode cX10_road 67 = .ok (.getfield 76, 3) := by decide +kernel
theorem dX10_road_70 : decode cX10_road 70 = .ok (.getfield 102, 3) := by decide +kernel
theorem dX10_road_73 : decode cX10_road 73 = .ok (.bipush 15, 2) := by decide +kernel
theorem dX10_road_75 : decode cX10_road 75 = .ok (.if_icmp .lt 6, 3) := by decide +kernel
theorem dX10_road_78 : decode cX10_road 78 = .ok (.bipush (-3), 2) := by decide +kernel
theorem dX10_road_80 : decode cX10_road 80 = .ok (.ireturn, 1) := by decide +kernel
theorem dX10_road_81 : decode cX10_road 81 = .ok (.aload_n 0, 1) := by decide +kernel
theorem dX10_road_82 : decode cX10_road 82 = .ok (.getfield 10, 3) := by decide +kernel
theorem dX10_road_85 : decode cX10_road 85 = .ok (.getfield 76, 3) := by decide +kernel
theorem dX10_road_88 : decode cX10_road 88 = .ok (.iload_n 1, 1) := by decide +kernel
theorem dX10_road_89 : decode cX10_road 89 = .ok (.iload_n 2, 1) := by decide +kernel
theorem dX10_road_90 : decode cX10_road 90 = .ok (.iload_n 3, 1) := by decide +kernel
theorem dX10_road_91 : decode cX10_road 91 = .ok (.invokevirtual 105, 3) := by decide +kernel
theorem dX10_road_94 : decode cX10_road 94 = .ok (.ireturn, 1) := by decide +kernel
theorem dX10_toll_0 : decode cX10_toll 0 = .ok (.aload_n 0, 1) := by decide +kernel
theorem dX10_toll_1 : decode cX10_toll 1 = .ok (.getfield 10, 3) := by decide +kernel
theorem dX10_toll_4 : decode cX10_toll 4 = .ok (.getfield 76, 3) := by decide +kernel
theorem dX10_toll_7 : decode cX10_toll 7 = .ok (.iload_n 1, 1) := by decide +kernel
theorem dX10_toll_8 : decode cX10_toll 8 = .ok (.invokevirtual 109, 3) := by decide +kernel
theorem dX10_toll_11 : decode cX10_toll 11 = .ok (.ifCond .eq 13, 3) := by decide +kernel
theorem dX10_toll_14 : decode cX10_toll 14 = .ok (.iload_n 2, 1) := by decide +kernel
theorem dX10_toll_15 : decode cX10_toll 15 = .ok (.iconst 0, 1) := by decide +kernel
theorem dX10_toll_16 : decode cX10_toll 16 = .ok (.bipush 9, 2) := by decide +kernel
theorem dX10_toll_18 : decode cX10_toll 18 = .ok (.invokestatic 72, 3) := by decide +kernel
theorem dX10_toll_21 : decode cX10_toll 21 = .ok (.ifCond .ne 5, 3) := by decide +kernel
theorem dX10_toll_24 : decode cX10_toll 24 = .ok (.iconst (-1), 1) := by decide +kernel
theorem dX10_toll_25 : decode cX10_toll 25 = .ok (.ireturn, 1) := by decide +kernel
theorem dX10_toll_26 : decode cX10_toll 26 = .ok (.aload_n 0, 1) := by decide +kernel
theorem dX10_toll_27 : decode cX10_toll 27 = .ok (.getfield 10, 3) := by decide +kernel
theorem dX10_toll_30 : decode cX10_toll 30 = .ok (.getfield 76, 3) := by decide +kernel
theorem dX10_toll_33 : decode cX10_toll 33 = .ok (.getfield 112, 3) := by decide +kernel
theorem dX10_toll_36 : decode cX10_toll 36 = .ok (.iload_n 1, 1) := by decide +kernel
theorem dX10_toll_37 : decode cX10_toll 37 = .ok (.iaload, 1) := by decide +kernel
theorem dX10_toll_38 : decode cX10_toll 38 = .ok (.istore_n 3, 1) := by decide +kernel
theorem dX10_toll_39 : decode cX10_toll 39 = .ok (.aload_n 0, 1) := by decide +kernel
theorem dX10_toll_40 : decode cX10_toll 40 = .ok (.getfield 10, 3) := by decide +kernel
theorem dX10_toll_43 : decode cX10_toll 43 = .ok (.getfield 76, 3) := by decide +kernel
theorem dX10_toll_46 : decode cX10_toll 46 = .ok (.getfield 112, 3) := by decide +kernel
theorem dX10_toll_49 : decode cX10_toll 49 = .ok (.iload_n 1, 1) := by decide +kernel
theorem dX10_toll_50 : decode cX10_toll 50 = .ok (.iload_n 2, 1) := by decide +kernel
theorem dX10_toll_51 : decode cX10_toll 51 = .ok (.iastore, 1) := by decide +kernel
theorem dX10_toll_52 : decode cX10_toll 52 = .ok (.iload_n 3, 1) := by decide +kernel
theorem dX10_toll_53 : decode cX10_toll 53 = .ok (.ireturn, 1) := by decide +kernel
theorem dX10_cart_0 : decode cX10_cart 0 = .ok (.iload_n 1, 1) := by decide +kernel
theorem dX10_cart_1 : decode cX10_cart 1 = .ok (.iconst 0, 1) := by decide +kernel
theorem dX10_cart_2 : decode cX10_cart 2 = .ok (.sipush 999, 3) := by decide +kernel
theorem dX10_cart_5 : decode cX10_cart 5 = .ok (.invokestatic 72, 3) := by decide +kernel
theorem dX10_cart_8 : decode cX10_cart 8 = .ok (.ifCond .eq 13, 3) := by decide +kernel
theorem dX10_cart_11 : decode cX10_cart 11 = .ok (.iload_n 2, 1) := by decide +kernel
theorem dX10_cart_12 : decode cX10_cart 12 = .ok (.iconst 0, 1) := by decide +kernel
theorem dX10_cart_13 : decode cX10_cart 13 = .ok (.bipush 99, 2) := by decide +kernel
theorem dX10_cart_15 : decode cX10_cart 15 = .ok (.invokestatic 72, 3) := by decide +kernel
theorem dX10_cart_18 : decode cX10_cart 18 = .ok (.ifCond .ne 5, 3) := by decide +kernel
theorem dX10_cart_21 : decode cX10_cart 21 = .ok (.iconst (-1), 1) := by decide +kernel
theorem dX10_cart_22 : decode cX10_cart 22 = .ok (.ireturn, 1) := by decide +kernel
theorem dX10_cart_23 : decode cX10_cart 23 = .ok (.aload_n 0, 1) := by decide +kernel
theorem dX10_cart_24 : decode cX10_cart 24 = .ok (.getfield 10, 3) := by decide +kernel
theorem dX10_cart_27 : decode cX10_cart 27 = .ok (.getfield 115, 3) := by decide +kernel
theorem dX10_cart_30 : decode cX10_cart 30 = .ok (.iconst 4, 1) := by decide +kernel
theorem dX10_cart_31 : decode cX10_cart 31 = .ok (.if_icmp .lt 6, 3) := by decide +kernel
theorem dX10_cart_34 : decode cX10_cart 34 = .ok (.bipush (-3), 2) := by decide +kernel
theorem dX10_cart_36 : decode cX10_cart 36 = .ok (.ireturn, 1) := by decide +kernel
theorem dX10_cart_37 : decode cX10_cart 37 = .ok (.aload_n 0, 1) := by decide +kernel
theorem dX10_cart_38 : decode cX10_cart 38 = .ok (.getfield 10, 3) := by decide +kernel
theorem dX10_cart_41 : decode cX10_cart 41 = .ok (.iload_n 1, 1) := by decide +kernel
theorem dX10_cart_42 : decode cX10_cart 42 = .ok (.iload_n 2, 1) := by decide +kernel
theorem dX10_cart_43 : decode cX10_cart 43 = .ok (.invokevirtual 118, 3) := by decide +kernel
theorem dX10_cart_46 : decode cX10_cart 46 = .ok (.ireturn, 1) := by decide +kernel
theorem dX10_good_0 : decode cX10_good 0 = .ok (.iload_n 1, 1) := by decide +kernel
theorem dX10_good_1 : decode cX10_good 1 = .ok (.iconst 1, 1) := by decide +kernel
theorem dX10_good_2 : decode cX10_good 2 = .ok (.bipush 99, 2) := by decide +kernel
theorem dX10_good_4 : decode cX10_good 4 = .ok (.invokestatic 72, 3) := by decide +kernel
theorem dX10_good_7 : decode cX10_good 7 = .ok (.ifCond .eq 27, 3) := by decide +kernel
theorem dX10_good_10 : decode cX10_good 10 = .ok (.iload_n 2, 1) := by decide +kernel
theorem dX10_good_11 : decode cX10_good 11 = .ok (.iconst 1, 1) := by decide +kernel
theorem dX10_good_12 : decode cX10_good 12 = .ok (.bipush 9, 2) := by decide +kernel
theorem dX10_good_14 : decode cX10_good 14 = .ok (.invokestatic 72, 3) := by decide +kernel
theorem dX10_good_17 : decode cX10_good 17 = .ok (.ifCond .eq 17, 3) := by decide +kernel
theorem dX10_good_20 : decode cX10_good 20 = .ok (.aload_n 0, 1) := by decide +kernel
theorem dX10_good_21 : decode cX10_good 21 = .ok (.getfield 10, 3) := by decide +kernel
theorem dX10_good_24 : decode cX10_good 24 = .ok (.getfield 76, 3) := by decide +kernel
theorem dX10_good_27 : decode cX10_good 27 = .ok (.iload_n 3, 1) := by decide +kernel
theorem dX10_good_28 : decode cX10_good 28 = .ok (.invokevirtual 90, 3) := by decide +kernel
theorem dX10_good_31 : decode cX10_good 31 = .ok (.ifCond .ne 5, 3) := by decide +kernel
theorem dX10_good_34 : decode cX10_good 34 = .ok (.iconst (-1), 1) := by decide +kernel
theorem dX10_good_35 : decode cX10_good 35 = .ok (.ireturn, 1) := by decide +kernel
theorem dX10_good_36 : decode cX10_good 36 = .ok (.aload_n 0, 1) := by decide +kernel
theorem dX10_good_37 : decode cX10_good 37 = .ok (.getfield 10, 3) := by decide +kernel
theorem dX10_good_40 : decode cX10_good 40 = .ok (.getfield 122, 3) := by decide +kernel
theorem dX10_good_43 : decode cX10_good 43 = .ok (.bipush 6, 2) := by decide +kernel
theorem dX10_good_45 : decode cX10_good 45 = .ok (.if_icmp .lt 6, 3) := by decide +kernel
theorem dX10_good_48 : decode cX10_good 48 = .ok (.bipush (-3), 2) := by decide +kernel
theorem dX10_good_50 : decode cX10_good 50 = .ok (.ireturn, 1) := by decide +kernel
theorem dX10_good_51 : decode cX10_good 51 = .ok (.aload_n 0, 1) := by decide +kernel
theorem dX10_good_52 : decode cX10_good 52 = .ok (.getfield 10, 3) := by decide +kernel
theorem dX10_good_55 : decode cX10_good 55 = .ok (.iload_n 1, 1) := by decide +kernel
theorem dX10_good_56 : decode cX10_good 56 = .ok (.iload_n 2, 1) := by decide +kernel
theorem dX10_good_57 : decode cX10_good 57 = .ok (.iload_n 3, 1) := by decide +kernel
theorem dX10_good_58 : decode cX10_good 58 = .ok (.invokevirtual 125, 3) := by decide +kernel
theorem dX10_good_61 : decode cX10_good 61 = .ok (.ireturn, 1) := by decide +kernel
theorem dX10_hang_0 : decode cX10_hang 0 = .ok (.aload_n 0, 1) := by decide +kernel
theorem dX10_hang_1 : decode cX10_hang 1 = .ok (.getfield 10, 3) := by decide +kernel
theorem dX10_hang_4 : decode cX10_hang 4 = .ok (.iload_n 1, 1) := by decide +kernel
theorem dX10_hang_5 : decode cX10_hang 5 = .ok (.invokevirtual 128, 3) := by decide +kernel
theorem dX10_hang_8 : decode cX10_hang 8 = .ok (.ifCond .eq 14, 3) := by decide +kernel
theorem dX10_hang_11 : decode cX10_hang 11 = .ok (.iload_n 2, 1) := by decide +kernel
theorem dX10_hang_12 : decode cX10_hang 12 = .ok (.iconst 0, 1) := by decide +kernel
theorem dX10_hang_13 : decode cX10_hang 13 = .ok (.sipush 999, 3) := by decide +kernel
theorem dX10_hang_16 : decode cX10_hang 16 = .ok (.invokestatic 72, 3) := by decide +kernel
theorem dX10_hang_19 : decode cX10_hang 19 = .ok (.ifCond .ne 5, 3) := by decide +kernel
theorem dX10_hang_22 : decode cX10_hang 22 = .ok (.iconst (-1), 1) := by decide +kernel
theorem dX10_hang_23 : decode cX10_hang 23 = .ok (.ireturn, 1) := by decide +kernel
theorem dX10_hang_24 : decode cX10_hang 24 = .ok (.iload_n 2, 1) := by decide +kernel
theorem dX10_hang_25 : decode cX10_hang 25 = .ok (.ifCond .le 18, 3) := by decide +kernel
theorem dX10_hang_28 : decode cX10_hang 28 = .ok (.aload_n 0, 1) := by decide +kernel
theorem dX10_hang_29 : decode cX10_hang 29 = .ok (.getfield 10, 3) := by decide +kernel
theorem dX10_hang_32 : decode cX10_hang 32 = .ok (.iload_n 1, 1) := by decide +kernel
theorem dX10_hang_33 : decode cX10_hang 33 = .ok (.invokevirtual 131, 3) := by decide +kernel
theorem dX10_hang_36 : decode cX10_hang 36 = .ok (.iload_n 2, 1) := by decide +kernel
theorem dX10_hang_37 : decode cX10_hang 37 = .ok (.if_icmp .le 6, 3) := by decide +kernel
theorem dX10_hang_40 : decode cX10_hang 40 = .ok (.bipush (-2), 2) := by decide +kernel
theorem dX10_hang_42 : decode cX10_hang 42 = .ok (.ireturn, 1) := by decide +kernel
theorem dX10_hang_43 : decode cX10_hang 43 = .ok (.aload_n 0, 1) := by decide +kernel
theorem dX10_hang_44 : decode cX10_hang 44 = .ok (.getfield 10, 3) := by decide +kernel
theorem dX10_hang_47 : decode cX10_hang 47 = .ok (.getfield 134, 3) := by decide +kernel
theorem dX10_hang_50 : decode cX10_hang 50 = .ok (.iload_n 1, 1) := by decide +kernel
theorem dX10_hang_51 : decode cX10_hang 51 = .ok (.iaload, 1) := by decide +kernel
theorem dX10_hang_52 : decode cX10_hang 52 = .ok (.istore_n 3, 1) := by decide +kernel
theorem dX10_hang_53 : decode cX10_hang 53 = .ok (.aload_n 0, 1) := by decide +kernel
theorem dX10_hang_54 : decode cX10_hang 54 = .ok (.getfield 10, 3) := by decide +kernel
theorem dX10_hang_57 : decode cX10_hang 57 = .ok (.getfield 134, 3) := by decide +kernel
theorem dX10_hang_60 : decode cX10_hang 60 = .ok (.iload_n 1, 1) := by decide +kernel
theorem dX10_hang_61 : decode cX10_hang 61 = .ok (.iload_n 2, 1) := by decide +kernel
theorem dX10_hang_62 : decode cX10_hang 62 = .ok (.iastore, 1) := by decide +kernel
theorem dX10_hang_63 : decode cX10_hang 63 = .ok (.iload_n 3, 1) := by decide +kernel
theorem dX10_hang_64 : decode cX10_hang 64 = .ok (.ireturn, 1) := by decide +kernel
theorem dX10_person_0 : decode cX10_person 0 = .ok (.iload_n 1, 1) := by decide +kernel
theorem dX10_person_1 : decode cX10_person 1 = .ok (.iconst 1, 1) := by decide +kernel
theorem dX10_person_2 : decode cX10_person 2 = .ok (.bipush 99, 2) := by decide +kernel
theorem dX10_person_4 : decode cX10_person 4 = .ok (.invokestatic 72, 3) := by decide +kernel
theorem dX10_person_7 : decode cX10_person 7 = .ok (.ifCond .eq 17, 3) := by decide +kernel
theorem dX10_person_10 : decode cX10_person 10 = .ok (.aload_n 0, 1) := by decide +kernel
theorem dX10_person_11 : decode cX10_person 11 = .ok (.getfield 10, 3) := by decide +kernel
theorem dX10_person_14 : decode cX10_person 14 = .ok (.getfield 76, 3) := by decide +kernel
theorem dX10_person_17 : decode cX10_person 17 = .ok (.iload_n 2, 1) := by decide +kernel
theorem dX10_person_18 : decode cX10_person 18 = .ok (.invokevirtual 90, 3) := by decide +kernel
theorem dX10_person_21 : decode cX10_person 21 = .ok (.ifCond .ne 5, 3) := by decide +kernel
theorem dX10_person_24 : decode cX10_person 24 = .ok (.iconst (-1), 1) := by decide +kernel
theorem dX10_person_25 : decode cX10_person 25 = .ok (.ireturn, 1) := by decide +kernel
theorem dX10_person_26 : decode cX10_person 26 = .ok (.aload_n 0, 1) := by decide +kernel
theorem dX10_person_27 : decode cX10_person 27 = .ok (.getfield 10, 3) := by decide +kernel
theorem dX10_person_30 : decode cX10_person 30 = .ok (.getfield 137, 3) := by decide +kernel
theorem dX10_person_33 : decode cX10_person 33 = .ok (.bipush 6, 2) := by decide +kernel
theorem dX10_person_35 : decode cX10_person 35 = .ok (.if_icmp .lt 6, 3) := by decide +kernel
theorem dX10_person_38 : decode cX10_person 38 = .ok (.bipush (-3), 2) := by decide +kernel
theorem dX10_person_40 : decode cX10_person 40 = .ok (.ireturn, 1) := by decide +kernel
theorem dX10_person_41 : decode cX10_person 41 = .ok (.aload_n 0, 1) := by decide +kernel
theorem dX10_person_42 : decode cX10_person 42 = .ok (.getfield 10, 3) := by decide +kernel
theorem dX10_person_45 : decode cX10_person 45 = .ok (.iload_n 1, 1) := by decide +kernel
theorem dX10_person_46 : decode cX10_person 46 = .ok (.iload_n 2, 1) := by decide +kernel
theorem dX10_person_47 : decode cX10_person 47 = .ok (.invokevirtual 140, 3) := by decide +kernel
theorem dX10_person_50 : decode cX10_person 50 = .ok (.ireturn, 1) := by decide +kernel
theorem dX10_of_0 : decode cX10_of 0 = .ok (.aload_n 0, 1) := by decide +kernel
theorem dX10_of_1 : decode cX10_of 1 = .ok (.getfield 10, 3) := by decide +kernel
theorem dX10_of_4 : decode cX10_of 4 = .ok (.getfield 76, 3) := by decide +kernel
theorem dX10_of_7 : decode cX10_of 7 = .ok (.iload_n 1, 1) := by decide +kernel
theorem dX10_of_8 : decode cX10_of 8 = .ok (.invokevirtual 90, 3) := by decide +kernel
theorem dX10_of_11 : decode cX10_of 11 = .ok (.ifCond .ne 5, 3) := by decide +kernel
theorem dX10_of_14 : decode cX10_of 14 = .ok (.iconst (-1), 1) := by decide +kernel
theorem dX10_of_15 : decode cX10_of 15 = .ok (.ireturn, 1) := by decide +kernel
theorem dX10_of_16 : decode cX10_of 16 = .ok (.iload_n 2, 1) := by decide +kernel
theorem dX10_of_17 : decode cX10_of 17 = .ok (.tableswitch 129 0 7 #[47, 60, 60, 60, 60, 79, 91, 110], 47) := by decide +kernel
theorem dX10_of_64 : decode cX10_of 64 = .ok (.aload_n 0, 1) := by decide +kernel
theorem dX10_of_65 : decode cX10_of 65 = .ok (.getfield 10, 3) := by decide +kernel
theorem dX10_of_68 : decode cX10_of 68 = .ok (.getfield 76, 3) := by decide +kernel
theorem dX10_of_71 : decode cX10_of 71 = .ok (.getfield 143, 3) := by decide +kernel
theorem dX10_of_74 : decode cX10_of 74 = .ok (.iload_n 1, 1) := by decide +kernel
theorem dX10_of_75 : decode cX10_of 75 = .ok (.iaload, 1) := by decide +kernel
theorem dX10_of_76 : decode cX10_of 76 = .ok (.ireturn, 1) := by decide +kernel
theorem dX10_of_77 : decode cX10_of 77 = .ok (.aload_n 0, 1) := by decide +kernel
theorem dX10_of_78 : decode cX10_of 78 = .ok (.getfield 10, 3) := by decide +kernel
theorem dX10_of_81 : decode cX10_of 81 = .ok (.getfield 76, 3) := by decide +kernel
theorem dX10_of_84 : decode cX10_of 84 = .ok (.getfield 94, 3) := by decide +kernel
theorem dX10_of_87 : decode cX10_of 87 = .ok (.iload_n 1, 1) := by decide +kernel
theorem dX10_of_88 : decode cX10_of 88 = .ok (.iconst 4, 1) := by decide +kernel
theorem dX10_of_89 : decode cX10_of 89 = .ok (.imul, 1) := by decide +kernel
theorem dX10_of_90 : decode cX10_of 90 = .ok (.iload_n 2, 1) := by decide +kernel
theorem dX10_of_91 : decode cX10_of 91 = .ok (.iadd, 1) := by decide +kernel
theorem dX10_of_92 : decode cX10_of 92 = .ok (.iconst 1, 1) := by decide +kernel
theorem dX10_of_93 : decode cX10_of 93 = .ok (.isub, 1) := by decide +kernel
theorem dX10_of_94 : decode cX10_of 94 = .ok (.iaload, 1) := by decide +kernel
theorem dX10_of_95 : decode cX10_of 95 = .ok (.ireturn, 1) := by decide +kernel
theorem dX10_of_96 : decode cX10_of 96 = .ok (.aload_n 0, 1) := by decide +kernel
theorem dX10_of_97 : decode cX10_of 97 = .ok (.getfield 10, 3) := by decide +kernel
theorem dX10_of_100 : decode cX10_of 100 = .ok (.getfield 76, 3) := by decide +kernel
theorem dX10_of_103 : decode cX10_of 103 = .ok (.iload_n 1, 1) := by decide +kernel
theorem dX10_of_104 : decode cX10_of 104 = .ok (.invokevirtual 146, 3) := by decide +kernel
theorem dX10_of_107 : decode cX10_of 107 = .ok (.ireturn, 1) := by decide +kernel
theorem dX10_of_108 : decode cX10_of 108 = .ok (.aload_n 0, 1) := by decide +kernel
theorem dX10_of_109 : decode cX10_of 109 = .ok (.getfield 10, 3) := by decide +kernel
theorem dX10_of_112 : decode cX10_of 112 = .ok (.getfield 149, 3) := by decide +kernel
theorem dX10_of_115 : decode cX10_of 115 = .ok (.aload_n 0, 1) := by decide +kernel
theorem dX10_of_116 : decode cX10_of 116 = .ok (.getfield 10, 3) := by decide +kernel
theorem dX10_of_119 : decode cX10_of 119 = .ok (.getfield 122, 3) := by decide +kernel
theorem dX10_of_122 : decode cX10_of 122 = .ok (.iload_n 1, 1) := by decide +kernel
theorem dX10_of_123 : decode cX10_of 123 = .ok (.invokestatic 152, 3) := by decide +kernel
theorem dX10_of_126 : decode cX10_of 126 = .ok (.ireturn, 1) := by decide +kernel
theorem dX10_of_127 : decode cX10_of 127 = .ok (.aload_n 0, 1) := by decide +kernel
theorem dX10_of_128 : decode cX10_of 128 = .ok (.getfield 10, 3) := by decide +kernel
theorem dX10_of_131 : decode cX10_of 131 = .ok (.getfield 156, 3) := by decide +kernel
theorem dX10_of_134 : decode cX10_of 134 = .ok (.aload_n 0, 1) := by decide +kernel
theorem dX10_of_135 : decode cX10_of 135 = .ok (.getfield 10, 3) := by decide +kernel
theorem dX10_of_138 : decode cX10_of 138 = .ok (.getfield 137, 3) := by decide +kernel
theorem dX10_of_141 : decode cX10_of 141 = .ok (.iload_n 1, 1) := by decide +kernel
theorem dX10_of_142 : decode cX10_of 142 = .ok (.invokestatic 152, 3) := by decide +kernel
theorem dX10_of_145 : decode cX10_of 145 = .ok (.ireturn, 1) := by decide +kernel
theorem dX10_of_146 : decode cX10_of 146 = .ok (.iconst (-1), 1) := by decide +kernel
theorem dX10_of_147 : decode cX10_of 147 = .ok (.ireturn, 1) := by decide +kernel
theorem dX10_told_0 : decode cX10_told 0 = .ok (.iload_n 2, 1) := by decide +kernel
theorem dX10_told_1 : decode cX10_told 1 = .ok (.iconst 0, 1) := by decide +kernel
theorem dX10_told_2 : decode cX10_told 2 = .ok (.iconst 2, 1) := by decide +kernel
theorem dX10_told_3 : decode cX10_told 3 = .ok (.invokestatic 72, 3) := by decide +kernel
theorem dX10_told_6 : decode cX10_told 6 = .ok (.ifCond .eq 10, 3) := by decide +kernel
theorem dX10_told_9 : decode cX10_told 9 = .ok (.aload_n 0, 1) := by decide +kernel
theorem dX10_told_10 : decode cX10_told 10 = .ok (.iload_n 1, 1) := by decide +kernel
theorem dX10_told_11 : decode cX10_told 11 = .ok (.iload_n 2, 1) := by decide +kernel
theorem dX10_told_12 : decode cX10_told 12 = .ok (.invokevirtual 159, 3) := by decide +kernel
theorem dX10_told_15 : decode cX10_told 15 = .ok (.ireturn, 1) := by decide +kernel
theorem dX10_told_16 : decode cX10_told 16 = .ok (.iload_n 2, 1) := by decide +kernel
theorem dX10_told_17 : decode cX10_told 17 = .ok (.iconst 3, 1) := by decide +kernel
theorem dX10_told_18 : decode cX10_told 18 = .ok (.iconst 4, 1) := by decide +kernel
theorem dX10_told_19 : decode cX10_told 19 = .ok (.invokestatic 72, 3) := by decide +kernel
theorem dX10_told_22 : decode cX10_told 22 = .ok (.ifCond .eq 10, 3) := by decide +kernel
theorem dX10_told_25 : decode cX10_told 25 = .ok (.aload_n 0, 1) := by decide +kernel
theorem dX10_told_26 : decode cX10_told 26 = .ok (.iload_n 1, 1) := by decide +kernel
theorem dX10_told_27 : decode cX10_told 27 = .ok (.iload_n 2, 1) := by decide +kernel
theorem dX10_told_28 : decode cX10_told 28 = .ok (.invokevirtual 162, 3) := by decide +kernel
theorem dX10_told_31 : decode cX10_told 31 = .ok (.ireturn, 1) := by decide +kernel
theorem dX10_told_32 : decode cX10_told 32 = .ok (.iload_n 2, 1) := by decide +kernel
theorem dX10_told_33 : decode cX10_told 33 = .ok (.iconst 5, 1) := by decide +kernel
theorem dX10_told_34 : decode cX10_told 34 = .ok (.bipush 8, 2) := by decide +kernel
theorem dX10_told_36 : decode cX10_told 36 = .ok (.invokestatic 72, 3) := by decide +kernel
theorem dX10_told_39 : decode cX10_told 39 = .ok (.ifCond .eq 10, 3) := by decide +kernel
theorem dX10_told_42 : decode cX10_told 42 = .ok (.aload_n 0, 1) := by decide +kernel
theorem dX10_told_43 : decode cX10_told 43 = .ok (.iload_n 1, 1) := by decide +kernel
theorem dX10_told_44 : decode cX10_told 44 = .ok (.iload_n 2, 1) := by decide +kernel
theorem dX10_told_45 : decode cX10_told 45 = .ok (.invokevirtual 165, 3) := by decide +kernel
theorem dX10_told_48 : decode cX10_told 48 = .ok (.ireturn, 1) := by decide +kernel
theorem dX10_told_49 : decode cX10_told 49 = .ok (.iload_n 2, 1) := by decide +kernel
theorem dX10_told_50 : decode cX10_told 50 = .ok (.bipush 9, 2) := by decide +kernel
theorem dX10_told_52 : decode cX10_told 52 = .ok (.bipush 10, 2) := by decide +kernel
theorem dX10_told_54 : decode cX10_told 54 = .ok (.invokestatic 72, 3) := by decide +kernel
theorem dX10_told_57 : decode cX10_told 57 = .ok (.ifCond .eq 12, 3) := by decide +kernel
theorem dX10_told_60 : decode cX10_told 60 = .ok (.aload_n 0, 1) := by decide +kernel
theorem dX10_told_61 : decode cX10_told 61 = .ok (.iload_n 1, 1) := by decide +kernel
theorem dX10_told_62 : decode cX10_told 62 = .ok (.iload_n 2, 1) := by decide +kernel
theorem dX10_told_63 : decode cX10_told 63 = .ok (.invokevirtual 168, 3) := by decide +kernel
theorem dX10_told_66 : decode cX10_told 66 = .ok (.goto 4, 3) := by decide +kernel
theorem dX10_told_69 : decode cX10_told 69 = .ok (.iconst (-1), 1) := by decide +kernel
theorem dX10_told_70 : decode cX10_told 70 = .ok (.ireturn, 1) := by decide +kernel
theorem dX10_weighs_0 : decode cX10_weighs 0 = .ok (.aload_n 0, 1) := by decide +kernel
theorem dX10_weighs_1 : decode cX10_weighs 1 = .ok (.getfield 10, 3) := by decide +kernel
theorem dX10_weighs_4 : decode cX10_weighs 4 = .ok (.getfield 76, 3) := by decide +kernel
theorem dX10_weighs_7 : decode cX10_weighs 7 = .ok (.iload_n 1, 1) := by decide +kernel
theorem dX10_weighs_8 : decode cX10_weighs 8 = .ok (.invokevirtual 90, 3) := by decide +kernel
theorem dX10_weighs_11 : decode cX10_weighs 11 = .ok (.ifCond .eq 13, 3) := by decide +kernel
theorem dX10_weighs_14 : decode cX10_weighs 14 = .ok (.iload_n 2, 1) := by decide +kernel
theorem dX10_weighs_15 : decode cX10_weighs 15 = .ok (.iconst 1, 1) := by decide +kernel
theorem dX10_weighs_16 : decode cX10_weighs 16 = .ok (.bipush 99, 2) := by decide +kernel
theorem dX10_weighs_18 : decode cX10_weighs 18 = .ok (.invokestatic 72, 3) := by decide +kernel
theorem dX10_weighs_21 : decode cX10_weighs 21 = .ok (.ifCond .ne 5, 3) := by decide +kernel
theorem dX10_weighs_24 : decode cX10_weighs 24 = .ok (.iconst (-1), 1) := by decide +kernel
theorem dX10_weighs_25 : decode cX10_weighs 25 = .ok (.ireturn, 1) := by decide +kernel
theorem dX10_weighs_26 : decode cX10_weighs 26 = .ok (.aload_n 0, 1) := by decide +kernel
theorem dX10_weighs_27 : decode cX10_weighs 27 = .ok (.getfield 10, 3) := by decide +kernel
theorem dX10_weighs_30 : decode cX10_weighs 30 = .ok (.iload_n 1, 1) := by decide +kernel
theorem dX10_weighs_31 : decode cX10_weighs 31 = .ok (.iload_n 2, 1) := by decide +kernel
theorem dX10_weighs_32 : decode cX10_weighs 32 = .ok (.invokevirtual 171, 3) := by decide +kernel
theorem dX10_weighs_35 : decode cX10_weighs 35 = .ok (.ireturn, 1) := by decide +kernel
theorem dX10_type_0 : decode cX10_type 0 = .ok (.iload_n 1, 1) := by decide +kernel
theorem dX10_type_1 : decode cX10_type 1 = .ok (.bipush 32, 2) := by decide +kernel
theorem dX10_type_3 : decode cX10_type 3 = .ok (.bipush 126, 2) := by decide +kernel
theorem dX10_type_5 : decode cX10_type 5 = .ok (.invokestatic 72, 3) := by decide +kernel
theorem dX10_type_8 : decode cX10_type 8 = .ok (.ifCond .ne 5, 3) := by decide +kernel
theorem dX10_type_11 : decode cX10_type 11 = .ok (.iconst (-1), 1) := by decide +kernel
theorem dX10_type_12 : decode cX10_type 12 = .ok (.ireturn, 1) := by decide +kernel
theorem dX10_type_13 : decode cX10_type 13 = .ok (.aload_n 0, 1) := by decide +kernel
theorem dX10_type_14 : decode cX10_type 14 = .ok (.getfield 22, 3) := by decide +kernel
theorem dX10_type_17 : decode cX10_type 17 = .ok (.invokevirtual 174, 3) := by decide +kernel
theorem dX10_type_20 : decode cX10_type 20 = .ok (.ifCond .eq 8, 3) := by decide +kernel
theorem dX10_type_23 : decode cX10_type 23 = .ok (.bipush (-3), 2) := by decide +kernel
theorem dX10_type_25 : decode cX10_type 25 = .ok (.goto 11, 3) := by decide +kernel
theorem dX10_type_28 : decode cX10_type 28 = .ok (.aload_n 0, 1) := by decide +kernel
theorem dX10_type_29 : decode cX10_type 29 = .ok (.getfield 22, 3) := by decide +kernel
theorem dX10_type_32 : decode cX10_type 32 = .ok (.iload_n 1, 1) := by decide +kernel
theorem dX10_type_33 : decode cX10_type 33 = .ok (.invokevirtual 178, 3) := by decide +kernel
theorem dX10_type_36 : decode cX10_type 36 = .ok (.ireturn, 1) := by decide +kernel
theorem dX10_land_0 : decode cX10_land 0 = .ok (.aload_n 0, 1) := by decide +kernel
theorem dX10_land_1 : decode cX10_land 1 = .ok (.getfield 22, 3) := by decide +kernel
theorem dX10_land_4 : decode cX10_land 4 = .ok (.invokevirtual 181, 3) := by decide +kernel
theorem dX10_land_7 : decode cX10_land 7 = .ok (.istore_n 1, 1) := by decide +kernel
theorem dX10_land_8 : decode cX10_land 8 = .ok (.bipush (-20), 2) := by decide +kernel
theorem dX10_land_10 : decode cX10_land 10 = .ok (.aload_n 0, 1) := by decide +kernel
theorem dX10_land_11 : decode cX10_land 11 = .ok (.getfield 22, 3) := by decide +kernel
theorem dX10_land_14 : decode cX10_land 14 = .ok (.getfield 184, 3) := by decide +kernel
theorem dX10_land_17 : decode cX10_land 17 = .ok (.isub, 1) := by decide +kernel
theorem dX10_land_18 : decode cX10_land 18 = .ok (.istore_n 2, 1) := by decide +kernel
theorem dX10_land_19 : decode cX10_land 19 = .ok (.aload_n 0, 1) := by decide +kernel
theorem dX10_land_20 : decode cX10_land 20 = .ok (.getfield 22, 3) := by decide +kernel
theorem dX10_land_23 : decode cX10_land 23 = .ok (.invokevirtual 187, 3) := by decide +kernel
theorem dX10_land_26 : decode cX10_land 26 = .ok (.iload_n 1, 1) := by decide +kernel
theorem dX10_land_27 : decode cX10_land 27 = .ok (.ifCond .ne 5, 3) := by decide +kernel
theorem dX10_land_30 : decode cX10_land 30 = .ok (.iload_n 2, 1) := by decide +kernel
theorem dX10_land_31 : decode cX10_land 31 = .ok (.ireturn, 1) := by decide +kernel
theorem dX10_land_32 : decode cX10_land 32 = .ok (.aload_n 0, 1) := by decide +kernel
theorem dX10_land_33 : decode cX10_land 33 = .ok (.getfield 10, 3) := by decide +kernel
theorem dX10_land_36 : decode cX10_land 36 = .ok (.aload_n 0, 1) := by decide +kernel
theorem dX10_land_37 : decode cX10_land 37 = .ok (.getfield 22, 3) := by decide +kernel
theorem dX10_land_40 : decode cX10_land 40 = .ok (.getfield 190, 3) := by decide +kernel
theorem dX10_land_43 : decode cX10_land 43 = .ok (.invokevirtual 193, 3) := by decide +kernel
theorem dX10_land_46 : decode cX10_land 46 = .ok (.aload_n 0, 1) := by decide +kernel
theorem dX10_land_47 : decode cX10_land 47 = .ok (.getfield 10, 3) := by decide +kernel
theorem dX10_land_50 : decode cX10_land 50 = .ok (.getfield 76, 3) := by decide +kernel
theorem dX10_land_53 : decode cX10_land 53 = .ok (.getfield 80, 3) := by decide +kernel
theorem dX10_land_56 : decode cX10_land 56 = .ok (.ireturn, 1) := by decide +kernel
theorem dX10_count_0 : decode cX10_count 0 = .ok (.iload_n 1, 1) := by decide +kernel
theorem dX10_count_1 : decode cX10_count 1 = .ok (.tableswitch 117 0 7 #[47, 58, 69, 77, 85, 93, 101, 109], 47) := by decide +kernel
theorem dX10_count_48 : decode cX10_count 48 = .ok (.aload_n 0, 1) := by decide +kernel
theorem dX10_count_49 : decode cX10_count 49 = .ok (.getfield 10, 3) := by decide +kernel
theorem dX10_count_52 : decode cX10_count 52 = .ok (.getfield 76, 3) := by decide +kernel
theorem dX10_count_55 : decode cX10_count 55 = .ok (.getfield 80, 3) := by decide +kernel
theorem dX10_count_58 : decode cX10_count 58 = .ok (.ireturn, 1) := by decide +kernel
theorem dX10_count_59 : decode cX10_count 59 = .ok (.aload_n 0, 1) := by decide +kernel
theorem dX10_count_60 : decode cX10_count 60 = .ok (.getfield 10, 3) := by decide +kernel
theorem dX10_count_63 : decode cX10_count 63 = .ok (.getfield 76, 3) := by decide +kernel
theorem dX10_count_66 : decode cX10_count 66 = .ok (.getfield 102, 3) := by decide +kernel
theorem dX10_count_69 : decode cX10_count 69 = .ok (.ireturn, 1) := by decide +kernel
theorem dX10_count_70 : decode cX10_count 70 = .ok (.aload_n 0, 1) := by decide +kernel
theorem dX10_count_71 : decode cX10_count 71 = .ok (.getfield 10, 3) := by decide +kernel
theorem dX10_count_74 : decode cX10_count 74 = .ok (.getfield 115, 3) := by decide +kernel
theorem dX10_count_77 : decode cX10_count 77 = .ok (.ireturn, 1) := by decide +kernel
theorem dX10_count_78 : decode cX10_count 78 = .ok (.aload_n 0, 1) := by decide +kernel
theorem dX10_count_79 : decode cX10_count 79 = .ok (.getfield 10, 3) := by decide +kernel
theorem dX10_count_82 : decode cX10_count 82 = .ok (.getfield 122, 3) := by decide +kernel
theorem dX10_count_85 : decode cX10_count 85 = .ok (.ireturn, 1) := by decide +kernel
theorem dX10_count_86 : decode cX10_count 86 = .ok (.aload_n 0, 1) := by decide +kernel
theorem dX10_count_87 : decode cX10_count 87 = .ok (.getfield 10, 3) := by decide +kernel
theorem dX10_count_90 : decode cX10_count 90 = .ok (.getfield 137, 3) := by decide +kernel
theorem dX10_count_93 : decode cX10_count 93 = .ok (.ireturn, 1) := by decide +kernel
theorem dX10_count_94 : decode cX10_count 94 = .ok (.aload_n 0, 1) := by decide +kernel
theorem dX10_count_95 : decode cX10_count 95 = .ok (.getfield 10, 3) := by decide +kernel
theorem dX10_count_98 : decode cX10_count 98 = .ok (.getfield 197, 3) := by decide +kernel
theorem dX10_count_101 : decode cX10_count 101 = .ok (.ireturn, 1) := by decide +kernel
theorem dX10_count_102 : decode cX10_count 102 = .ok (.aload_n 0, 1) := by decide +kernel
theorem dX10_count_103 : decode cX10_count 103 = .ok (.getfield 10, 3) := by decide +kernel
theorem dX10_count_106 : decode cX10_count 106 = .ok (.invokevirtual 200, 3) := by decide +kernel
theorem dX10_count_109 : decode cX10_count 109 = .ok (.ireturn, 1) := by decide +kernel
theorem dX10_count_110 : decode cX10_count 110 = .ok (.aload_n 0, 1) := by decide +kernel
theorem dX10_count_111 : decode cX10_count 111 = .ok (.getfield 10, 3) := by decide +kernel
theorem dX10_count_114 : decode cX10_count 114 = .ok (.invokevirtual 204, 3) := by decide +kernel
theorem dX10_count_117 : decode cX10_count 117 = .ok (.ireturn, 1) := by decide +kernel
theorem dX10_count_118 : decode cX10_count 118 = .ok (.iconst (-1), 1) := by decide +kernel
theorem dX10_count_119 : decode cX10_count 119 = .ok (.ireturn, 1) := by decide +kernel
theorem dX10_weeks_0 : decode cX10_weeks 0 = .ok (.iload_n 1, 1) := by decide +kernel
theorem dX10_weeks_1 : decode cX10_weeks 1 = .ok (.iconst 1, 1) := by decide +kernel
theorem dX10_weeks_2 : decode cX10_weeks 2 = .ok (.bipush 52, 2) := by decide +kernel
theorem dX10_weeks_4 : decode cX10_weeks 4 = .ok (.invokestatic 72, 3) := by decide +kernel
theorem dX10_weeks_7 : decode cX10_weeks 7 = .ok (.ifCond .ne 5, 3) := by decide +kernel
theorem dX10_weeks_10 : decode cX10_weeks 10 = .ok (.iconst (-1), 1) := by decide +kernel
theorem dX10_weeks_11 : decode cX10_weeks 11 = .ok (.ireturn, 1) := by decide +kernel
theorem dX10_weeks_12 : decode cX10_weeks 12 = .ok (.aload_n 0, 1) := by decide +kernel
theorem dX10_weeks_13 : decode cX10_weeks 13 = .ok (.getfield 10, 3) := by decide +kernel
theorem dX10_weeks_16 : decode cX10_weeks 16 = .ok (.getfield 197, 3) := by decide +kernel
theorem dX10_weeks_19 : decode cX10_weeks 19 = .ok (.iload_n 1, 1) := by decide +kernel
theorem dX10_weeks_20 : decode cX10_weeks 20 = .ok (.iadd, 1) := by decide +kernel
theorem dX10_weeks_21 : decode cX10_weeks 21 = .ok (.sipush 9999, 3) := by decide +kernel
theorem dX10_weeks_24 : decode cX10_weeks 24 = .ok (.if_icmp .le 6, 3) := by decide +kernel
theorem dX10_weeks_27 : decode cX10_weeks 27 = .ok (.bipush (-3), 2) := by decide +kernel
theorem dX10_weeks_29 : decode cX10_weeks 29 = .ok (.ireturn, 1) := by decide +kernel
theorem dX10_weeks_30 : decode cX10_weeks 30 = .ok (.iconst 0, 1) := by decide +kernel
theorem dX10_weeks_31 : decode cX10_weeks 31 = .ok (.istore_n 2, 1) := by decide +kernel
theorem dX10_weeks_32 : decode cX10_weeks 32 = .ok (.iconst 0, 1) := by decide +kernel
theorem dX10_weeks_33 : decode cX10_weeks 33 = .ok (.istore_n 3, 1) := by decide +kernel
theorem dX10_weeks_34 : decode cX10_weeks 34 = .ok (.iload_n 3, 1) := by decide +kernel
theorem dX10_weeks_35 : decode cX10_weeks 35 = .ok (.iload_n 1, 1) := by decide +kernel
theorem dX10_weeks_36 : decode cX10_weeks 36 = .ok (.if_icmp .ge 19, 3) := by decide +kernel
theorem dX10_weeks_39 : decode cX10_weeks 39 = .ok (.iload_n 2, 1) := by decide +kernel
theorem dX10_weeks_40 : decode cX10_weeks 40 = .ok (.aload_n 0, 1) := by decide +kernel
theorem dX10_weeks_41 : decode cX10_weeks 41 = .ok (.getfield 10, 3) := by decide +kernel
theorem dX10_weeks_44 : decode cX10_weeks 44 = .ok (.invokevirtual 207, 3) := by decide +kernel
theorem dX10_weeks_47 : decode cX10_weeks 47 = .ok (.iadd, 1) := by decide +kernel
theorem dX10_weeks_48 : decode cX10_weeks 48 = .ok (.istore_n 2, 1) := by decide +kernel
theorem dX10_weeks_49 : decode cX10_weeks 49 = .ok (.iinc 3 1, 3) := by decide +kernel
theorem dX10_weeks_52 : decode cX10_weeks 52 = .ok (.goto (-18), 3) := by decide +kernel
theorem dX10_weeks_55 : decode cX10_weeks 55 = .ok (.iload_n 2, 1) := by decide +kernel
theorem dX10_weeks_56 : decode cX10_weeks 56 = .ok (.ireturn, 1) := by decide +kernel
theorem dX10_way_0 : decode cX10_way 0 = .ok (.aload_n 0, 1) := by decide +kernel
theorem dX10_way_1 : decode cX10_way 1 = .ok (.getfield 10, 3) := by decide +kernel
theorem dX10_way_4 : decode cX10_way 4 = .ok (.iload_n 1, 1) := by decide +kernel
theorem dX10_way_5 : decode cX10_way 5 = .ok (.invokevirtual 210, 3) := by decide +kernel
theorem dX10_way_8 : decode cX10_way 8 = .ok (.ifCond .eq 53, 3) := by decide +kernel
theorem dX10_way_11 : decode cX10_way 11 = .ok (.iload_n 2, 1) := by decide +kernel
theorem dX10_way_12 : decode cX10_way 12 = .ok (.iconst 1, 1) := by decide +kernel
theorem dX10_way_13 : decode cX10_way 13 = .ok (.bipush 99, 2) := by decide +kernel
theorem dX10_way_15 : decode cX10_way 15 = .ok (.invokestatic 72, 3) := by decide +kernel
theorem dX10_way_18 : decode cX10_way 18 = .ok (.ifCond .eq 43, 3) := by decide +kernel
theorem dX10_way_21 : decode cX10_way 21 = .ok (.aload_n 0, 1) := by decide +kernel
theorem dX10_way_22 : decode cX10_way 22 = .ok (.getfield 10, 3) := by decide +kernel
theorem dX10_way_25 : decode cX10_way 25 = .ok (.getfield 76, 3) := by decide +kernel
theorem dX10_way_28 : decode cX10_way 28 = .ok (.iload_n 3, 1) := by decide +kernel
theorem dX10_way_29 : decode cX10_way 29 = .ok (.invokevirtual 90, 3) := by decide +kernel
theorem dX10_way_32 : decode cX10_way 32 = .ok (.ifCond .eq 29, 3) := by decide +kernel
theorem dX10_way_35 : decode cX10_way 35 = .ok (.aload_n 0, 1) := by decide +kernel
theorem dX10_way_36 : decode cX10_way 36 = .ok (.getfield 10, 3) := by decide +kernel
theorem dX10_way_39 : decode cX10_way 39 = .ok (.getfield 76, 3) := by decide +kernel
theorem dX10_way_42 : decode cX10_way 42 = .ok (.iload 4, 2) := by decide +kernel
theorem dX10_way_44 : decode cX10_way 44 = .ok (.invokevirtual 90, 3) := by decide +kernel
theorem dX10_way_47 : decode cX10_way 47 = .ok (.ifCond .eq 14, 3) := by decide +kernel
theorem dX10_way_50 : decode cX10_way 50 = .ok (.iload 5, 2) := by decide +kernel
theorem dX10_way_52 : decode cX10_way 52 = .ok (.iconst (-1), 1) := by decide +kernel
theorem dX10_way_53 : decode cX10_way 53 = .ok (.bipush 7, 2) := by decide +kernel
theorem dX10_way_55 : decode cX10_way 55 = .ok (.invokestatic 72, 3) := by decide +kernel
theorem dX10_way_58 : decode cX10_way 58 = .ok (.ifCond .ne 5, 3) := by decide +kernel
theorem dX10_way_61 : decode cX10_way 61 = .ok (.iconst (-1), 1) := by decide +kernel
theorem dX10_way_62 : decode cX10_way 62 = .ok (.ireturn, 1) := by decide +kernel
theorem dX10_way_63 : decode cX10_way 63 = .ok (.aload_n 0, 1) := by decide +kernel
theorem dX10_way_64 : decode cX10_way 64 = .ok (.getfield 38, 3) := by decide +kernel
theorem dX10_way_67 : decode cX10_way 67 = .ok (.iload_n 1, 1) := by decide +kernel
theorem dX10_way_68 : decode cX10_way 68 = .ok (.invokevirtual 213, 3) := by decide +kernel
theorem dX10_way_71 : decode cX10_way 71 = .ok (.aload_n 0, 1) := by decide +kernel
theorem dX10_way_72 : decode cX10_way 72 = .ok (.getfield 38, 3) := by decide +kernel
theorem dX10_way_75 : decode cX10_way 75 = .ok (.iload_n 2, 1) := by decide +kernel
theorem dX10_way_76 : decode cX10_way 76 = .ok (.invokevirtual 217, 3) := by decide +kernel
theorem dX10_way_79 : decode cX10_way 79 = .ok (.aload_n 0, 1) := by decide +kernel
theorem dX10_way_80 : decode cX10_way 80 = .ok (.getfield 38, 3) := by decide +kernel
theorem dX10_way_83 : decode cX10_way 83 = .ok (.iload_n 3, 1) := by decide +kernel
theorem dX10_way_84 : decode cX10_way 84 = .ok (.iload 4, 2) := by decide +kernel
theorem dX10_way_86 : decode cX10_way 86 = .ok (.invokevirtual 220, 3) := by decide +kernel
theorem dX10_way_89 : decode cX10_way 89 = .ok (.ifCond .ne 6, 3) := by decide +kernel
theorem dX10_way_92 : decode cX10_way 92 = .ok (.bipush (-4), 2) := by decide +kernel
theorem dX10_way_94 : decode cX10_way 94 = .ok (.ireturn, 1) := by decide +kernel
theorem dX10_way_95 : decode cX10_way 95 = .ok (.iload 5, 2) := by decide +kernel
theorem dX10_way_97 : decode cX10_way 97 = .ok (.ifCond .ge 19, 3) := by decide +kernel
theorem dX10_way_100 : decode cX10_way 100 = .ok (.aload_n 0, 1) := by decide +kernel
theorem dX10_way_101 : decode cX10_way 101 = .ok (.getfield 38, 3) := by decide +kernel
theorem dX10_way_104 : decode cX10_way 104 = .ok (.getfield 223, 3) := by decide +kernel
theorem dX10_way_107 : decode cX10_way 107 = .ok (.iload_n 3, 1) := by decide +kernel
theorem dX10_way_108 : decode cX10_way 108 = .ok (.bipush 8, 2) := by decide +kernel
theorem dX10_way_110 : decode cX10_way 110 = .ok (.imul, 1) := by decide +kernel
theorem dX10_way_111 : decode cX10_way 111 = .ok (.iload 4, 2) := by decide +kernel
theorem dX10_way_113 : decode cX10_way 113 = .ok (.iadd, 1) := by decide +kernel
theorem dX10_way_114 : decode cX10_way 114 = .ok (.iaload, 1) := by decide +kernel
theorem dX10_way_115 : decode cX10_way 115 = .ok (.ireturn, 1) := by decide +kernel
theorem dX10_way_116 : decode cX10_way 116 = .ok (.iload 5, 2) := by decide +kernel
theorem dX10_way_118 : decode cX10_way 118 = .ok (.aload_n 0, 1) := by decide +kernel
theorem dX10_way_119 : decode cX10_way 119 = .ok (.getfield 38, 3) := by decide +kernel
theorem dX10_way_122 : decode cX10_way 122 = .ok (.getfield 226, 3) := by decide +kernel
theorem dX10_way_125 : decode cX10_way 125 = .ok (.if_icmp .ge 16, 3) := by decide +kernel
theorem dX10_way_128 : decode cX10_way 128 = .ok (.aload_n 0, 1) := by decide +kernel
theorem dX10_way_129 : decode cX10_way 129 = .ok (.getfield 38, 3) := by decide +kernel
theorem dX10_way_132 : decode cX10_way 132 = .ok (.getfield 229, 3) := by decide +kernel
theorem dX10_way_135 : decode cX10_way 135 = .ok (.iload 5, 2) := by decide +kernel
theorem dX10_way_137 : decode cX10_way 137 = .ok (.iaload, 1) := by decide +kernel
theorem dX10_way_138 : decode cX10_way 138 = .ok (.goto 5, 3) := by decide +kernel
theorem dX10_way_141 : decode cX10_way 141 = .ok (.bipush (-4), 2) := by decide +kernel
theorem dX10_way_143 : decode cX10_way 143 = .ok (.ireturn, 1) := by decide +kernel
theorem dX10_net_0 : decode cX10_net 0 = .ok (.aload_n 0, 1) := by decide +kernel
theorem dX10_net_1 : decode cX10_net 1 = .ok (.getfield 10, 3) := by decide +kernel
theorem dX10_net_4 : decode cX10_net 4 = .ok (.iload_n 1, 1) := by decide +kernel
theorem dX10_net_5 : decode cX10_net 5 = .ok (.invokevirtual 128, 3) := by decide +kernel
theorem dX10_net_8 : decode cX10_net 8 = .ok (.ifCond .eq 28, 3) := by decide +kernel
theorem dX10_net_11 : decode cX10_net 11 = .ok (.aload_n 0, 1) := by decide +kernel
theorem dX10_net_12 : decode cX10_net 12 = .ok (.getfield 10, 3) := by decide +kernel
theorem dX10_net_15 : decode cX10_net 15 = .ok (.getfield 76, 3) := by decide +kernel
theorem dX10_net_18 : decode cX10_net 18 = .ok (.iload_n 2, 1) := by decide +kernel
theorem dX10_net_19 : decode cX10_net 19 = .ok (.invokevirtual 90, 3) := by decide +kernel
theorem dX10_net_22 : decode cX10_net 22 = .ok (.ifCond .eq 14, 3) := by decide +kernel
theorem dX10_net_25 : decode cX10_net 25 = .ok (.aload_n 0, 1) := by decide +kernel
theorem dX10_net_26 : decode cX10_net 26 = .ok (.getfield 10, 3) := by decide +kernel
theorem dX10_net_29 : decode cX10_net 29 = .ok (.iload_n 3, 1) := by decide +kernel
theorem dX10_net_30 : decode cX10_net 30 = .ok (.invokevirtual 210, 3) := by decide +kernel
theorem dX10_net_33 : decode cX10_net 33 = .ok (.ifCond .ne 6, 3) := by decide +kernel
theorem dX10_net_36 : decode cX10_net 36 = .ok (.ldc 232, 2) := by decide +kernel
theorem dX10_net_38 : decode cX10_net 38 = .ok (.ireturn, 1) := by decide +kernel
theorem dX10_net_39 : decode cX10_net 39 = .ok (.aload_n 0, 1) := by decide +kernel
theorem dX10_net_40 : decode cX10_net 40 = .ok (.getfield 38, 3) := by decide +kernel
theorem dX10_net_43 : decode cX10_net 43 = .ok (.iload_n 3, 1) := by decide +kernel
theorem dX10_net_44 : decode cX10_net 44 = .ok (.invokevirtual 213, 3) := by decide +kernel
theorem dX10_net_47 : decode cX10_net 47 = .ok (.aload_n 0, 1) := by decide +kernel
theorem dX10_net_48 : decode cX10_net 48 = .ok (.getfield 38, 3) := by decide +kernel
theorem dX10_net_51 : decode cX10_net 51 = .ok (.aload_n 0, 1) := by decide +kernel
theorem dX10_net_52 : decode cX10_net 52 = .ok (.getfield 10, 3) := by decide +kernel
theorem dX10_net_55 : decode cX10_net 55 = .ok (.getfield 233, 3) := by decide +kernel
theorem dX10_net_58 : decode cX10_net 58 = .ok (.iload_n 1, 1) := by decide +kernel
theorem dX10_net_59 : decode cX10_net 59 = .ok (.iaload, 1) := by decide +kernel
theorem dX10_net_60 : decode cX10_net 60 = .ok (.invokevirtual 217, 3) := by decide +kernel
theorem dX10_net_63 : decode cX10_net 63 = .ok (.aload_n 0, 1) := by decide +kernel
theorem dX10_net_64 : decode cX10_net 64 = .ok (.getfield 38, 3) := by decide +kernel
theorem dX10_net_67 : decode cX10_net 67 = .ok (.aload_n 0, 1) := by decide +kernel
theorem dX10_net_68 : decode cX10_net 68 = .ok (.getfield 10, 3) := by decide +kernel
theorem dX10_net_71 : decode cX10_net 71 = .ok (.getfield 149, 3) := by decide +kernel
theorem dX10_net_74 : decode cX10_net 74 = .ok (.iload_n 1, 1) := by decide +kernel
theorem dX10_net_75 : decode cX10_net 75 = .ok (.iaload, 1) := by decide +kernel
theorem dX10_net_76 : decode cX10_net 76 = .ok (.invokevirtual 236, 3) := by decide +kernel
theorem dX10_net_79 : decode cX10_net 79 = .ok (.aload_n 0, 1) := by decide +kernel
theorem dX10_net_80 : decode cX10_net 80 = .ok (.getfield 38, 3) := by decide +kernel
theorem dX10_net_83 : decode cX10_net 83 = .ok (.getfield 239, 3) := by decide +kernel
theorem dX10_net_86 : decode cX10_net 86 = .ok (.iload_n 2, 1) := by decide +kernel
theorem dX10_net_87 : decode cX10_net 87 = .ok (.iaload, 1) := by decide +kernel
theorem dX10_net_88 : decode cX10_net 88 = .ok (.ldc 242, 2) := by decide +kernel
theorem dX10_net_90 : decode cX10_net 90 = .ok (.if_icmp .lt 6, 3) := by decide +kernel
theorem dX10_net_93 : decode cX10_net 93 = .ok (.ldc 243, 2) := by decide +kernel
theorem dX10_net_95 : decode cX10_net 95 = .ok (.ireturn, 1) := by decide +kernel
theorem dX10_net_96 : decode cX10_net 96 = .ok (.aload_n 0, 1) := by decide +kernel
theorem dX10_net_97 : decode cX10_net 97 = .ok (.getfield 10, 3) := by decide +kernel
theorem dX10_net_100 : decode cX10_net 100 = .ok (.getfield 244, 3) := by decide +kernel
theorem dX10_net_103 : decode cX10_net 103 = .ok (.iload_n 1, 1) := by decide +kernel
theorem dX10_net_104 : decode cX10_net 104 = .ok (.iaload, 1) := by decide +kernel
theorem dX10_net_105 : decode cX10_net 105 = .ok (.aload_n 0, 1) := by decide +kernel
theorem dX10_net_106 : decode cX10_net 106 = .ok (.getfield 38, 3) := by decide +kernel
theorem dX10_net_109 : decode cX10_net 109 = .ok (.getfield 247, 3) := by decide +kernel
theorem dX10_net_112 : decode cX10_net 112 = .ok (.iload_n 2, 1) := by decide +kernel
theorem dX10_net_113 : decode cX10_net 113 = .ok (.iaload, 1) := by decide +kernel
theorem dX10_net_114 : decode cX10_net 114 = .ok (.imul, 1) := by decide +kernel
theorem dX10_net_115 : decode cX10_net 115 = .ok (.aload_n 0, 1) := by decide +kernel
theorem dX10_net_116 : decode cX10_net 116 = .ok (.getfield 38, 3) := by decide +kernel
theorem dX10_net_119 : decode cX10_net 119 = .ok (.getfield 239, 3) := by decide +kernel
theorem dX10_net_122 : decode cX10_net 122 = .ok (.iload_n 2, 1) := by decide +kernel
theorem dX10_net_123 : decode cX10_net 123 = .ok (.iaload, 1) := by decide +kernel
theorem dX10_net_124 : decode cX10_net 124 = .ok (.isub, 1) := by decide +kernel
theorem dX10_net_125 : decode cX10_net 125 = .ok (.ireturn, 1) := by decide +kernel
theorem dX10_market_0 : decode cX10_market 0 = .ok (.aload_n 0, 1) := by decide +kernel
theorem dX10_market_1 : decode cX10_market 1 = .ok (.getfield 10, 3) := by decide +kernel
theorem dX10_market_4 : decode cX10_market 4 = .ok (.iload_n 1, 1) := by decide +kernel
theorem dX10_market_5 : decode cX10_market 5 = .ok (.invokevirtual 128, 3) := by decide +kernel
theorem dX10_market_8 : decode cX10_market 8 = .ok (.ifCond .eq 14, 3) := by decide +kernel
theorem dX10_market_11 : decode cX10_market 11 = .ok (.aload_n 0, 1) := by decide +kernel
theorem dX10_market_12 : decode cX10_market 12 = .ok (.getfield 10, 3) := by decide +kernel
theorem dX10_market_15 : decode cX10_market 15 = .ok (.iload_n 2, 1) := by decide +kernel
theorem dX10_market_16 : decode cX10_market 16 = .ok (.invokevirtual 210, 3) := by decide +kernel
theorem dX10_market_19 : decode cX10_market 19 = .ok (.ifCond .ne 5, 3) := by decide +kernel
theorem dX10_market_22 : decode cX10_market 22 = .ok (.iconst (-1), 1) := by decide +kernel
theorem dX10_market_23 : decode cX10_market 23 = .ok (.ireturn, 1) := by decide +kernel
theorem dX10_market_24 : decode cX10_market 24 = .ok (.aload_n 0, 1) := by decide +kernel
theorem dX10_market_25 : decode cX10_market 25 = .ok (.getfield 38, 3) := by decide +kernel
theorem dX10_market_28 : decode cX10_market 28 = .ok (.iload_n 2, 1) := by decide +kernel
theorem dX10_market_29 : decode cX10_market 29 = .ok (.invokevirtual 213, 3) := by decide +kernel
theorem dX10_market_32 : decode cX10_market 32 = .ok (.aload_n 0, 1) := by decide +kernel
theorem dX10_market_33 : decode cX10_market 33 = .ok (.getfield 38, 3) := by decide +kernel
theorem dX10_market_36 : decode cX10_market 36 = .ok (.iload_n 1, 1) := by decide +kernel
theorem dX10_market_37 : decode cX10_market 37 = .ok (.invokevirtual 250, 3) := by decide +kernel
theorem dX10_market_40 : decode cX10_market 40 = .ok (.istore_n 3, 1) := by decide +kernel
theorem dX10_market_41 : decode cX10_market 41 = .ok (.iload_n 3, 1) := by decide +kernel
theorem dX10_market_42 : decode cX10_market 42 = .ok (.ifCond .ge 8, 3) := by decide +kernel
theorem dX10_market_45 : decode cX10_market 45 = .ok (.bipush (-4), 2) := by decide +kernel
theorem dX10_market_47 : decode cX10_market 47 = .ok (.goto 4, 3) := by decide +kernel
theorem dX10_market_50 : decode cX10_market 50 = .ok (.iload_n 3, 1) := by decide +kernel
theorem dX10_market_51 : decode cX10_market 51 = .ok (.ireturn, 1) := by decide +kernel
theorem dX10_trade_0 : decode cX10_trade 0 = .ok (.aload_n 0, 1) := by decide +kernel
theorem dX10_trade_1 : decode cX10_trade 1 = .ok (.getfield 10, 3) := by decide +kernel
theorem dX10_trade_4 : decode cX10_trade 4 = .ok (.iload_n 1, 1) := by decide +kernel
theorem dX10_trade_5 : decode cX10_trade 5 = .ok (.invokevirtual 128, 3) := by decide +kernel
theorem dX10_trade_8 : decode cX10_trade 8 = .ok (.ifCond .eq 23, 3) := by decide +kernel
theorem dX10_trade_11 : decode cX10_trade 11 = .ok (.aload_n 0, 1) := by decide +kernel
theorem dX10_trade_12 : decode cX10_trade 12 = .ok (.getfield 10, 3) := by decide +kernel
theorem dX10_trade_15 : decode cX10_trade 15 = .ok (.iload_n 2, 1) := by decide +kernel
theorem dX10_trade_16 : decode cX10_trade 16 = .ok (.invokevirtual 210, 3) := by decide +kernel
theorem dX10_trade_19 : decode cX10_trade 19 = .ok (.ifCond .eq 12, 3) := by decide +kernel
theorem dX10_trade_22 : decode cX10_trade 22 = .ok (.iload_n 3, 1) := by decide +kernel
theorem dX10_trade_23 : decode cX10_trade 23 = .ok (.iconst 0, 1) := by decide +kernel
theorem dX10_trade_24 : decode cX10_trade 24 = .ok (.iconst 1, 1) := by decide +kernel
theorem dX10_trade_25 : decode cX10_trade 25 = .ok (.invokestatic 72, 3) := by decide +kernel
theorem dX10_trade_28 : decode cX10_trade 28 = .ok (.ifCond .ne 6, 3) := by decide +kernel
theorem dX10_trade_31 : decode cX10_trade 31 = .ok (.ldc 232, 2) := by decide +kernel
theorem dX10_trade_33 : decode cX10_trade 33 = .ok (.ireturn, 1) := by decide +kernel
theorem dX10_trade_34 : decode cX10_trade 34 = .ok (.aload_n 0, 1) := by decide +kernel
theorem dX10_trade_35 : decode cX10_trade 35 = .ok (.getfield 47, 3) := by decide +kernel
theorem dX10_trade_38 : decode cX10_trade 38 = .ok (.iload_n 1, 1) := by decide +kernel
theorem dX10_trade_39 : decode cX10_trade 39 = .ok (.iload_n 2, 1) := by decide +kernel
theorem dX10_trade_40 : decode cX10_trade 40 = .ok (.invokevirtual 253, 3) := by decide +kernel
theorem dX10_trade_43 : decode cX10_trade 43 = .ok (.istore 4, 2) := by decide +kernel
theorem dX10_trade_45 : decode cX10_trade 45 = .ok (.iload 4, 2) := by decide +kernel
theorem dX10_trade_47 : decode cX10_trade 47 = .ok (.ifCond .ge 6, 3) := by decide +kernel
theorem dX10_trade_50 : decode cX10_trade 50 = .ok (.ldc 243, 2) := by decide +kernel
theorem dX10_trade_52 : decode cX10_trade 52 = .ok (.ireturn, 1) := by decide +kernel
theorem dX10_trade_53 : decode cX10_trade 53 = .ok (.iload_n 3, 1) := by decide +kernel
theorem dX10_trade_54 : decode cX10_trade 54 = .ok (.ifCond .ne 13, 3) := by decide +kernel
theorem dX10_trade_57 : decode cX10_trade 57 = .ok (.aload_n 0, 1) := by decide +kernel
theorem dX10_trade_58 : decode cX10_trade 58 = .ok (.getfield 47, 3) := by decide +kernel
theorem dX10_trade_61 : decode cX10_trade 61 = .ok (.getfield 256, 3) := by decide +kernel
theorem dX10_trade_64 : decode cX10_trade 64 = .ok (.goto 5, 3) := by decide +kernel
theorem dX10_trade_67 : decode cX10_trade 67 = .ok (.iload 4, 2) := by decide +kernel
theorem dX10_trade_69 : decode cX10_trade 69 = .ok (.ireturn, 1) := by decide +kernel
theorem dX10_scales_0 : decode cX10_scales 0 = .ok (.aload_n 0, 1) := by decide +kernel
theorem dX10_scales_1 : decode cX10_scales 1 = .ok (.getfield 10, 3) := by decide +kernel
theorem dX10_scales_4 : decode cX10_scales 4 = .ok (.iload_n 1, 1) := by decide +kernel
theorem dX10_scales_5 : decode cX10_scales 5 = .ok (.invokevirtual 128, 3) := by decide +kernel
theorem dX10_scales_8 : decode cX10_scales 8 = .ok (.ifCond .eq 14, 3) := by decide +kernel
theorem dX10_scales_11 : decode cX10_scales 11 = .ok (.aload_n 0, 1) := by decide +kernel
theorem dX10_scales_12 : decode cX10_scales 12 = .ok (.getfield 10, 3) := by decide +kernel
theorem dX10_scales_15 : decode cX10_scales 15 = .ok (.iload_n 2, 1) := by decide +kernel
theorem dX10_scales_16 : decode cX10_scales 16 = .ok (.invokevirtual 210, 3) := by decide +kernel
theorem dX10_scales_19 : decode cX10_scales 19 = .ok (.ifCond .ne 5, 3) := by decide +kernel
theorem dX10_scales_22 : decode cX10_scales 22 = .ok (.iconst (-1), 1) := by decide +kernel
theorem dX10_scales_23 : decode cX10_scales 23 = .ok (.ireturn, 1) := by decide +kernel
theorem dX10_scales_24 : decode cX10_scales 24 = .ok (.aload_n 0, 1) := by decide +kernel
theorem dX10_scales_25 : decode cX10_scales 25 = .ok (.getfield 47, 3) := by decide +kernel
theorem dX10_scales_28 : decode cX10_scales 28 = .ok (.iload_n 1, 1) := by decide +kernel
theorem dX10_scales_29 : decode cX10_scales 29 = .ok (.iload_n 2, 1) := by decide +kernel
theorem dX10_scales_30 : decode cX10_scales 30 = .ok (.invokevirtual 259, 3) := by decide +kernel
theorem dX10_scales_33 : decode cX10_scales 33 = .ok (.ireturn, 1) := by decide +kernel
theorem dX10_take_0 : decode cX10_take 0 = .ok (.aload_n 0, 1) := by decide +kernel
theorem dX10_take_1 : decode cX10_take 1 = .ok (.getfield 10, 3) := by decide +kernel
theorem dX10_take_4 : decode cX10_take 4 = .ok (.getfield 76, 3) := by decide +kernel
theorem dX10_take_7 : decode cX10_take 7 = .ok (.iload_n 1, 1) := by decide +kernel
theorem dX10_take_8 : decode cX10_take 8 = .ok (.invokevirtual 90, 3) := by decide +kernel
theorem dX10_take_11 : decode cX10_take 11 = .ok (.ifCond .eq 14, 3) := by decide +kernel
theorem dX10_take_14 : decode cX10_take 14 = .ok (.aload_n 0, 1) := by decide +kernel
theorem dX10_take_15 : decode cX10_take 15 = .ok (.getfield 10, 3) := by decide +kernel
theorem dX10_take_18 : decode cX10_take 18 = .ok (.iload_n 2, 1) := by decide +kernel
theorem dX10_take_19 : decode cX10_take 19 = .ok (.invokevirtual 210, 3) := by decide +kernel
theorem dX10_take_22 : decode cX10_take 22 = .ok (.ifCond .ne 5, 3) := by decide +kernel
theorem dX10_take_25 : decode cX10_take 25 = .ok (.iconst (-1), 1) := by decide +kernel
theorem dX10_take_26 : decode cX10_take 26 = .ok (.ireturn, 1) := by decide +kernel
theorem dX10_take_27 : decode cX10_take 27 = .ok (.aload_n 0, 1) := by decide +kernel
theorem dX10_take_28 : decode cX10_take 28 = .ok (.getfield 54, 3) := by decide +kernel
theorem dX10_take_31 : decode cX10_take 31 = .ok (.iload_n 1, 1) := by decide +kernel
theorem dX10_take_32 : decode cX10_take 32 = .ok (.iload_n 2, 1) := by decide +kernel
theorem dX10_take_33 : decode cX10_take 33 = .ok (.invokevirtual 262, 3) := by decide +kernel
theorem dX10_take_36 : decode cX10_take 36 = .ok (.ireturn, 1) := by decide +kernel
theorem dX10_councils_0 : decode cX10_councils 0 = .ok (.aload_n 0, 1) := by decide +kernel
theorem dX10_councils_1 : decode cX10_councils 1 = .ok (.getfield 10, 3) := by decide +kernel
theorem dX10_councils_4 : decode cX10_councils 4 = .ok (.getfield 76, 3) := by decide +kernel
theorem dX10_councils_7 : decode cX10_councils 7 = .ok (.iload_n 1, 1) := by decide +kernel
theorem dX10_councils_8 : decode cX10_councils 8 = .ok (.invokevirtual 90, 3) := by decide +kernel
theorem dX10_councils_11 : decode cX10_councils 11 = .ok (.ifCond .eq 43, 3) := by decide +kernel
theorem dX10_councils_14 : decode cX10_councils 14 = .ok (.aload_n 0, 1) := by decide +kernel
theorem dX10_councils_15 : decode cX10_councils 15 = .ok (.getfield 10, 3) := by decide +kernel
theorem dX10_councils_18 : decode cX10_councils 18 = .ok (.getfield 76, 3) := by decide +kernel
theorem dX10_councils_21 : decode cX10_councils 21 = .ok (.iload_n 2, 1) := by decide +kernel
theorem dX10_councils_22 : decode cX10_councils 22 = .ok (.invokevirtual 90, 3) := by decide +kernel
theorem dX10_councils_25 : decode cX10_councils 25 = .ok (.ifCond .eq 29, 3) := by decide +kernel
theorem dX10_councils_28 : decode cX10_councils 28 = .ok (.iload_n 1, 1) := by decide +kernel
theorem dX10_councils_29 : decode cX10_councils 29 = .ok (.iload_n 2, 1) := by decide +kernel
theorem dX10_councils_30 : decode cX10_councils 30 = .ok (.if_icmp .eq 24, 3) := by decide +kernel
theorem dX10_councils_33 : decode cX10_councils 33 = .ok (.aload_n 0, 1) := by decide +kernel
theorem dX10_councils_34 : decode cX10_councils 34 = .ok (.getfield 10, 3) := by decide +kernel
theorem dX10_councils_37 : decode cX10_councils 37 = .ok (.iload_n 3, 1) := by decide +kernel
theorem dX10_councils_38 : decode cX10_councils 38 = .ok (.invokevirtual 210, 3) := by decide +kernel
theorem dX10_councils_41 : decode cX10_councils 41 = .ok (.ifCond .eq 13, 3) := by decide +kernel
theorem dX10_councils_44 : decode cX10_councils 44 = .ok (.iload 4, 2) := by decide +kernel
theorem dX10_councils_46 : decode cX10_councils 46 = .ok (.iconst 0, 1) := by decide +kernel
theorem dX10_councils_47 : decode cX10_councils 47 = .ok (.iconst 1, 1) := by decide +kernel
theorem dX10_councils_48 : decode cX10_councils 48 = .ok (.invokestatic 72, 3) := by decide +kernel
theorem dX10_councils_51 : decode cX10_councils 51 = .ok (.ifCond .ne 5, 3) := by decide +kernel
theorem dX10_councils_54 : decode cX10_councils 54 = .ok (.iconst (-1), 1) := by decide +kernel
theorem dX10_councils_55 : decode cX10_councils 55 = .ok (.ireturn, 1) := by decide +kernel
theorem dX10_councils_56 : decode cX10_councils 56 = .ok (.aload_n 0, 1) := by decide +kernel
theorem dX10_councils_57 : decode cX10_councils 57 = .ok (.getfield 54, 3) := by decide +kernel
theorem dX10_councils_60 : decode cX10_councils 60 = .ok (.iload_n 1, 1) := by decide +kernel
theorem dX10_councils_61 : decode cX10_councils 61 = .ok (.iload_n 2, 1) := by decide +kernel
theorem dX10_councils_62 : decode cX10_councils 62 = .ok (.iload_n 3, 1) := by decide +kernel
theorem dX10_councils_63 : decode cX10_councils 63 = .ok (.invokevirtual 265, 3) := by decide +kernel
theorem dX10_councils_66 : decode cX10_councils 66 = .ok (.iload 4, 2) := by decide +kernel
theorem dX10_councils_68 : decode cX10_councils 68 = .ok (.ifCond .ne 11, 3) := by decide +kernel
theorem dX10_councils_71 : decode cX10_councils 71 = .ok (.aload_n 0, 1) := by decide +kernel
theorem dX10_councils_72 : decode cX10_councils 72 = .ok (.getfield 54, 3) := by decide +kernel
theorem dX10_councils_75 : decode cX10_councils 75 = .ok (.getfield 269, 3) := by decide +kernel
theorem dX10_councils_78 : decode cX10_councils 78 = .ok (.ireturn, 1) := by decide +kernel
theorem dX10_councils_79 : decode cX10_councils 79 = .ok (.aload_n 0, 1) := by decide +kernel
theorem dX10_councils_80 : decode cX10_councils 80 = .ok (.getfield 54, 3) := by decide +kernel
theorem dX10_councils_83 : decode cX10_councils 83 = .ok (.getfield 269, 3) := by decide +kernel
theorem dX10_councils_86 : decode cX10_councils 86 = .ok (.ifCond .le 13, 3) := by decide +kernel
theorem dX10_councils_89 : decode cX10_councils 89 = .ok (.aload_n 0, 1) := by decide +kernel
theorem dX10_councils_90 : decode cX10_councils 90 = .ok (.getfield 54, 3) := by decide +kernel
theorem dX10_councils_93 : decode cX10_councils 93 = .ok (.getfield 272, 3) := by decide +kernel
theorem dX10_councils_96 : decode cX10_councils 96 = .ok (.goto 5, 3) := by decide +kernel
theorem dX10_councils_99 : decode cX10_councils 99 = .ok (.bipush (-4), 2) := by decide +kernel
theorem dX10_councils_101 : decode cX10_councils 101 = .ok (.ireturn, 1) := by decide +kernel
theorem dX10_league_0 : decode cX10_league 0 = .ok (.aload_n 0, 1) := by decide +kernel
theorem dX10_league_1 : decode cX10_league 1 = .ok (.getfield 10, 3) := by decide +kernel
theorem dX10_league_4 : decode cX10_league 4 = .ok (.getfield 76, 3) := by decide +kernel
theorem dX10_league_7 : decode cX10_league 7 = .ok (.iload_n 1, 1) := by decide +kernel
theorem dX10_league_8 : decode cX10_league 8 = .ok (.invokevirtual 275, 3) := by decide +kernel
theorem dX10_league_11 : decode cX10_league 11 = .ok (.ifCond .eq 14, 3) := by decide +kernel
theorem dX10_league_14 : decode cX10_league 14 = .ok (.aload_n 0, 1) := by decide +kernel
theorem dX10_league_15 : decode cX10_league 15 = .ok (.getfield 10, 3) := by decide +kernel
theorem dX10_league_18 : decode cX10_league 18 = .ok (.iload_n 2, 1) := by decide +kernel
theorem dX10_league_19 : decode cX10_league 19 = .ok (.invokevirtual 210, 3) := by decide +kernel
theorem dX10_league_22 : decode cX10_league 22 = .ok (.ifCond .ne 6, 3) := by decide +kernel
theorem dX10_league_25 : decode cX10_league 25 = .ok (.ldc 232, 2) := by decide +kernel
theorem dX10_league_27 : decode cX10_league 27 = .ok (.ireturn, 1) := by decide +kernel
theorem dX10_league_28 : decode cX10_league 28 = .ok (.aload_n 0, 1) := by decide +kernel
theorem dX10_league_29 : decode cX10_league 29 = .ok (.getfield 61, 3) := by decide +kernel
theorem dX10_league_32 : decode cX10_league 32 = .ok (.iload_n 1, 1) := by decide +kernel
theorem dX10_league_33 : decode cX10_league 33 = .ok (.iload_n 2, 1) := by decide +kernel
theorem dX10_league_34 : decode cX10_league 34 = .ok (.invokevirtual 278, 3) := by decide +kernel
theorem dX10_league_37 : decode cX10_league 37 = .ok (.ireturn, 1) := by decide +kernel
theorem dX10_upper_0 : decode cX10_upper 0 = .ok (.aload_n 0, 1) := by decide +kernel
theorem dX10_upper_1 : decode cX10_upper 1 = .ok (.iload_n 1, 1) := by decide +kernel
theorem dX10_upper_2 : decode cX10_upper 2 = .ok (.iload_n 2, 1) := by decide +kernel
theorem dX10_upper_3 : decode cX10_upper 3 = .ok (.invokevirtual 281, 3) := by decide +kernel
theorem dX10_upper_6 : decode cX10_upper 6 = .ok (.ifCond .eq 14, 3) := by decide +kernel
theorem dX10_upper_9 : decode cX10_upper 9 = .ok (.aload_n 0, 1) := by decide +kernel
theorem dX10_upper_10 : decode cX10_upper 10 = .ok (.getfield 10, 3) := by decide +kernel
theorem dX10_upper_13 : decode cX10_upper 13 = .ok (.iload_n 3, 1) := by decide +kernel
theorem dX10_upper_14 : decode cX10_upper 14 = .ok (.invokevirtual 210, 3) := by decide +kernel
theorem dX10_upper_17 : decode cX10_upper 17 = .ok (.ifCond .ne 7, 3) := by decide +kernel
theorem dX10_upper_20 : decode cX10_upper 20 = .ok (.ldc2_w 284, 3) := by decide +kernel
theorem dX10_upper_23 : decode cX10_upper 23 = .ok (.lreturn, 1) := by decide +kernel
theorem dX10_upper_24 : decode cX10_upper 24 = .ok (.aload_n 0, 1) := by decide +kernel
theorem dX10_upper_25 : decode cX10_upper 25 = .ok (.getfield 61, 3) := by decide +kernel
theorem dX10_upper_28 : decode cX10_upper 28 = .ok (.iload_n 1, 1) := by decide +kernel
theorem dX10_upper_29 : decode cX10_upper 29 = .ok (.iload_n 2, 1) := by decide +kernel
theorem dX10_upper_30 : decode cX10_upper 30 = .ok (.iload_n 3, 1) := by decide +kernel
theorem dX10_upper_31 : decode cX10_upper 31 = .ok (.invokevirtual 286, 3) := by decide +kernel
theorem dX10_upper_34 : decode cX10_upper 34 = .ok (.aload_n 0, 1) := by decide +kernel
theorem dX10_upper_35 : decode cX10_upper 35 = .ok (.getfield 61, 3) := by decide +kernel
theorem dX10_upper_38 : decode cX10_upper 38 = .ok (.getfield 289, 3) := by decide +kernel
theorem dX10_upper_41 : decode cX10_upper 41 = .ok (.lreturn, 1) := by decide +kernel
theorem dX10_lower_0 : decode cX10_lower 0 = .ok (.aload_n 0, 1) := by decide +kernel
theorem dX10_lower_1 : decode cX10_lower 1 = .ok (.iload_n 1, 1) := by decide +kernel
theorem dX10_lower_2 : decode cX10_lower 2 = .ok (.iload_n 2, 1) := by decide +kernel
theorem dX10_lower_3 : decode cX10_lower 3 = .ok (.invokevirtual 281, 3) := by decide +kernel
theorem dX10_lower_6 : decode cX10_lower 6 = .ok (.ifCond .eq 14, 3) := by decide +kernel
theorem dX10_lower_9 : decode cX10_lower 9 = .ok (.aload_n 0, 1) := by decide +kernel
theorem dX10_lower_10 : decode cX10_lower 10 = .ok (.getfield 10, 3) := by decide +kernel
theorem dX10_lower_13 : decode cX10_lower 13 = .ok (.iload_n 3, 1) := by decide +kernel
theorem dX10_lower_14 : decode cX10_lower 14 = .ok (.invokevirtual 210, 3) := by decide +kernel
theorem dX10_lower_17 : decode cX10_lower 17 = .ok (.ifCond .ne 7, 3) := by decide +kernel
theorem dX10_lower_20 : decode cX10_lower 20 = .ok (.ldc2_w 293, 3) := by decide +kernel
theorem dX10_lower_23 : decode cX10_lower 23 = .ok (.lreturn, 1) := by decide +kernel
theorem dX10_lower_24 : decode cX10_lower 24 = .ok (.aload_n 0, 1) := by decide +kernel
theorem dX10_lower_25 : decode cX10_lower 25 = .ok (.getfield 61, 3) := by decide +kernel
theorem dX10_lower_28 : decode cX10_lower 28 = .ok (.iload_n 1, 1) := by decide +kernel
theorem dX10_lower_29 : decode cX10_lower 29 = .ok (.iload_n 2, 1) := by decide +kernel
theorem dX10_lower_30 : decode cX10_lower 30 = .ok (.iload_n 3, 1) := by decide +kernel
theorem dX10_lower_31 : decode cX10_lower 31 = .ok (.invokevirtual 286, 3) := by decide +kernel
theorem dX10_lower_34 : decode cX10_lower 34 = .ok (.aload_n 0, 1) := by decide +kernel
theorem dX10_lower_35 : decode cX10_lower 35 = .ok (.getfield 61, 3) := by decide +kernel
theorem dX10_lower_38 : decode cX10_lower 38 = .ok (.getfield 295, 3) := by decide +kernel
theorem dX10_lower_41 : decode cX10_lower 41 = .ok (.lreturn, 1) := by decide +kernel
theorem dX10_change_0 : decode cX10_change 0 = .ok (.aload_n 0, 1) := by decide +kernel
theorem dX10_change_1 : decode cX10_change 1 = .ok (.getfield 10, 3) := by decide +kernel
theorem dX10_change_4 : decode cX10_change 4 = .ok (.getfield 76, 3) := by decide +kernel
theorem dX10_change_7 : decode cX10_change 7 = .ok (.iload_n 1, 1) := by decide +kernel
theorem dX10_change_8 : decode cX10_change 8 = .ok (.invokevirtual 90, 3) := by decide +kernel
theorem dX10_change_11 : decode cX10_change 11 = .ok (.ifCond .eq 22, 3) := by decide +kernel
theorem dX10_change_14 : decode cX10_change 14 = .ok (.iload_n 2, 1) := by decide +kernel
theorem dX10_change_15 : decode cX10_change 15 = .ok (.iconst 1, 1) := by decide +kernel
theorem dX10_change_16 : decode cX10_change 16 = .ok (.bipush 9, 2) := by decide +kernel
theorem dX10_change_18 : decode cX10_change 18 = .ok (.invokestatic 72, 3) := by decide +kernel
theorem dX10_change_21 : decode cX10_change 21 = .ok (.ifCond .eq 12, 3) := by decide +kernel
theorem dX10_change_24 : decode cX10_change 24 = .ok (.iload_n 3, 1) := by decide +kernel
theorem dX10_change_25 : decode cX10_change 25 = .ok (.iconst 0, 1) := by decide +kernel
theorem dX10_change_26 : decode cX10_change 26 = .ok (.iconst 1, 1) := by decide +kernel
theorem dX10_change_27 : decode cX10_change 27 = .ok (.invokestatic 72, 3) := by decide +kernel
theorem dX10_change_30 : decode cX10_change 30 = .ok (.ifCond .ne 5, 3) := by decide +kernel
theorem dX10_change_33 : decode cX10_change 33 = .ok (.iconst (-1), 1) := by decide +kernel
theorem dX10_change_34 : decode cX10_change 34 = .ok (.ireturn, 1) := by decide +kernel
theorem dX10_change_35 : decode cX10_change 35 = .ok (.iload_n 3, 1) := by decide +kernel
theorem dX10_change_36 : decode cX10_change 36 = .ok (.ifCond .ne 15, 3) := by decide +kernel
theorem dX10_change_39 : decode cX10_change 39 = .ok (.aload_n 0, 1) := by decide +kernel
theorem dX10_change_40 : decode cX10_change 40 = .ok (.getfield 10, 3) := by decide +kernel
theorem dX10_change_43 : decode cX10_change 43 = .ok (.iload_n 1, 1) := by decide +kernel
theorem dX10_change_44 : decode cX10_change 44 = .ok (.iload_n 2, 1) := by decide +kernel
theorem dX10_change_45 : decode cX10_change 45 = .ok (.invokevirtual 298, 3) := by decide +kernel
theorem dX10_change_48 : decode cX10_change 48 = .ok (.goto 12, 3) := by decide +kernel
theorem dX10_change_51 : decode cX10_change 51 = .ok (.aload_n 0, 1) := by decide +kernel
theorem dX10_change_52 : decode cX10_change 52 = .ok (.getfield 10, 3) := by decide +kernel
theorem dX10_change_55 : decode cX10_change 55 = .ok (.iload_n 1, 1) := by decide +kernel
theorem dX10_change_56 : decode cX10_change 56 = .ok (.iload_n 2, 1) := by decide +kernel
theorem dX10_change_57 : decode cX10_change 57 = .ok (.invokevirtual 301, 3) := by decide +kernel
theorem dX10_change_60 : decode cX10_change 60 = .ok (.ireturn, 1) := by decide +kernel
theorem dX10_well_0 : decode cX10_well 0 = .ok (.aload_n 0, 1) := by decide +kernel
theorem dX10_well_1 : decode cX10_well 1 = .ok (.getfield 10, 3) := by decide +kernel
theorem dX10_well_4 : decode cX10_well 4 = .ok (.getfield 76, 3) := by decide +kernel
theorem dX10_well_7 : decode cX10_well 7 = .ok (.iload_n 1, 1) := by decide +kernel
theorem dX10_well_8 : decode cX10_well 8 = .ok (.invokevirtual 90, 3) := by decide +kernel
theorem dX10_well_11 : decode cX10_well 11 = .ok (.ifCond .eq 14, 3) := by decide +kernel
theorem dX10_well_14 : decode cX10_well 14 = .ok (.iload_n 2, 1) := by decide +kernel
theorem dX10_well_15 : decode cX10_well 15 = .ok (.iconst 1, 1) := by decide +kernel
theorem dX10_well_16 : decode cX10_well 16 = .ok (.sipush 999, 3) := by decide +kernel
theorem dX10_well_19 : decode cX10_well 19 = .ok (.invokestatic 72, 3) := by decide +kernel
theorem dX10_well_22 : decode cX10_well 22 = .ok (.ifCond .ne 5, 3) := by decide +kernel
theorem dX10_well_25 : decode cX10_well 25 = .ok (.iconst (-1), 1) := by decide +kernel
theorem dX10_well_26 : decode cX10_well 26 = .ok (.ireturn, 1) := by decide +kernel
theorem dX10_well_27 : decode cX10_well 27 = .ok (.aload_n 0, 1) := by decide +kernel
theorem dX10_well_28 : decode cX10_well 28 = .ok (.getfield 10, 3) := by decide +kernel
theorem dX10_well_31 : decode cX10_well 31 = .ok (.getfield 76, 3) := by decide +kernel
theorem dX10_well_34 : decode cX10_well 34 = .ok (.getfield 143, 3) := by decide +kernel
theorem dX10_well_37 : decode cX10_well 37 = .ok (.iload_n 1, 1) := by decide +kernel
theorem dX10_well_38 : decode cX10_well 38 = .ok (.iaload, 1) := by decide +kernel
theorem dX10_well_39 : decode cX10_well 39 = .ok (.iconst 2, 1) := by decide +kernel
theorem dX10_well_40 : decode cX10_well 40 = .ok (.if_icmp .ne 6, 3) := by decide +kernel
theorem dX10_well_43 : decode cX10_well 43 = .ok (.bipush (-4), 2) := by decide +kernel
theorem dX10_well_45 : decode cX10_well 45 = .ok (.ireturn, 1) := by decide +kernel
theorem dX10_well_46 : decode cX10_well 46 = .ok (.iload_n 2, 1) := by decide +kernel
theorem dX10_well_47 : decode cX10_well 47 = .ok (.aload_n 0, 1) := by decide +kernel
theorem dX10_well_48 : decode cX10_well 48 = .ok (.getfield 10, 3) := by decide +kernel
theorem dX10_well_51 : decode cX10_well 51 = .ok (.iload_n 1, 1) := by decide +kernel
theorem dX10_well_52 : decode cX10_well 52 = .ok (.iconst 1, 1) := by decide +kernel
theorem dX10_well_53 : decode cX10_well 53 = .ok (.invokevirtual 171, 3) := by decide +kernel
theorem dX10_well_56 : decode cX10_well 56 = .ok (.imul, 1) := by decide +kernel
theorem dX10_well_57 : decode cX10_well 57 = .ok (.ireturn, 1) := by decide +kernel
theorem dX10_image_0 : decode cX10_image 0 = .ok (.aload_n 0, 1) := by decide +kernel
theorem dX10_image_1 : decode cX10_image 1 = .ok (.getfield 16, 3) := by decide +kernel
theorem dX10_image_4 : decode cX10_image 4 = .ok (.aload_n 0, 1) := by decide +kernel
theorem dX10_image_5 : decode cX10_image 5 = .ok (.getfield 10, 3) := by decide +kernel
theorem dX10_image_8 : decode cX10_image 8 = .ok (.invokevirtual 304, 3) := by decide +kernel
theorem dX10_image_11 : decode cX10_image 11 = .ok (.aload_n 0, 1) := by decide +kernel
theorem dX10_image_12 : decode cX10_image 12 = .ok (.iconst 1, 1) := by decide +kernel
theorem dX10_image_13 : decode cX10_image 13 = .ok (.putfield 307, 3) := by decide +kernel
theorem dX10_image_16 : decode cX10_image 16 = .ok (.iconst 1, 1) := by decide +kernel
theorem dX10_image_17 : decode cX10_image 17 = .ok (.ireturn, 1) := by decide +kernel
theorem dX10_restore_0 : decode cX10_restore 0 = .ok (.aload_n 0, 1) := by decide +kernel
theorem dX10_restore_1 : decode cX10_restore 1 = .ok (.getfield 307, 3) := by decide +kernel
theorem dX10_restore_4 : decode cX10_restore 4 = .ok (.ifCond .ne 6, 3) := by decide +kernel
theorem dX10_restore_7 : decode cX10_restore 7 = .ok (.bipush (-4), 2) := by decide +kernel
theorem dX10_restore_9 : decode cX10_restore 9 = .ok (.ireturn, 1) := by decide +kernel
theorem dX10_restore_10 : decode cX10_restore 10 = .ok (.aload_n 0, 1) := by decide +kernel
theorem dX10_restore_11 : decode cX10_restore 11 = .ok (.getfield 10, 3) := by decide +kernel
theorem dX10_restore_14 : decode cX10_restore 14 = .ok (.aload_n 0, 1) := by decide +kernel
theorem dX10_restore_15 : decode cX10_restore 15 = .ok (.getfield 16, 3) := by decide +kernel
theorem dX10_restore_18 : decode cX10_restore 18 = .ok (.invokevirtual 304, 3) := by decide +kernel
theorem dX10_restore_21 : decode cX10_restore 21 = .ok (.iconst 1, 1) := by decide +kernel
theorem dX10_restore_22 : decode cX10_restore 22 = .ok (.ireturn, 1) := by decide +kernel
theorem dX10_beam_0 : decode cX10_beam 0 = .ok (.aload_n 0, 1) := by decide +kernel
theorem dX10_beam_1 : decode cX10_beam 1 = .ok (.getfield 10, 3) := by decide +kernel
theorem dX10_beam_4 : decode cX10_beam 4 = .ok (.getfield 76, 3) := by decide +kernel
theorem dX10_beam_7 : decode cX10_beam 7 = .ok (.iload_n 1, 1) := by decide +kernel
theorem dX10_beam_8 : decode cX10_beam 8 = .ok (.invokevirtual 90, 3) := by decide +kernel
theorem dX10_beam_11 : decode cX10_beam 11 = .ok (.ifCond .eq 47, 3) := by decide +kernel
theorem dX10_beam_14 : decode cX10_beam 14 = .ok (.aload_n 0, 1) := by decide +kernel
theorem dX10_beam_15 : decode cX10_beam 15 = .ok (.getfield 10, 3) := by decide +kernel
theorem dX10_beam_18 : decode cX10_beam 18 = .ok (.getfield 76, 3) := by decide +kernel
theorem dX10_beam_21 : decode cX10_beam 21 = .ok (.iload_n 2, 1) := by decide +kernel
theorem dX10_beam_22 : decode cX10_beam 22 = .ok (.invokevirtual 90, 3) := by decide +kernel
theorem dX10_beam_25 : decode cX10_beam 25 = .ok (.ifCond .eq 33, 3) := by decide +kernel
theorem dX10_beam_28 : decode cX10_beam 28 = .ok (.iload_n 3, 1) := by decide +kernel
theorem dX10_beam_29 : decode cX10_beam 29 = .ok (.iload 4, 2) := by decide +kernel
theorem dX10_beam_31 : decode cX10_beam 31 = .ok (.invokestatic 311, 3) := by decide +kernel
theorem dX10_beam_34 : decode cX10_beam 34 = .ok (.ifCond .eq 24, 3) := by decide +kernel
theorem dX10_beam_37 : decode cX10_beam 37 = .ok (.iload 6, 2) := by decide +kernel
theorem dX10_beam_39 : decode cX10_beam 39 = .ok (.iconst 0, 1) := by decide +kernel
theorem dX10_beam_40 : decode cX10_beam 40 = .ok (.bipush 8, 2) := by decide +kernel
theorem dX10_beam_42 : decode cX10_beam 42 = .ok (.invokestatic 72, 3) := by decide +kernel
theorem dX10_beam_45 : decode cX10_beam 45 = .ok (.ifCond .eq 13, 3) := by decide +kernel
theorem dX10_beam_48 : decode cX10_beam 48 = .ok (.iload 7, 2) := by decide +kernel
theorem dX10_beam_50 : decode cX10_beam 50 = .ok (.iconst 0, 1) := by decide +kernel
theorem dX10_beam_51 : decode cX10_beam 51 = .ok (.iconst 1, 1) := by decide +kernel
theorem dX10_beam_52 : decode cX10_beam 52 = .ok (.invokestatic 72, 3) := by decide +kernel
theorem dX10_beam_55 : decode cX10_beam 55 = .ok (.ifCond .ne 6, 3) := by decide +kernel
theorem dX10_beam_58 : decode cX10_beam 58 = .ok (.ldc 232, 2) := by decide +kernel
theorem dX10_beam_60 : decode cX10_beam 60 = .ok (.ireturn, 1) := by decide +kernel
theorem dX10_beam_61 : decode cX10_beam 61 = .ok (.aload_n 0, 1) := by decide +kernel
theorem dX10_beam_62 : decode cX10_beam 62 = .ok (.getfield 29, 3) := by decide +kernel
theorem dX10_beam_65 : decode cX10_beam 65 = .ok (.iload_n 3, 1) := by decide +kernel
theorem dX10_beam_66 : decode cX10_beam 66 = .ok (.iload 4, 2) := by decide +kernel
theorem dX10_beam_68 : decode cX10_beam 68 = .ok (.iload 5, 2) := by decide +kernel
theorem dX10_beam_70 : decode cX10_beam 70 = .ok (.iconst 2, 1) := by decide +kernel
theorem dX10_beam_71 : decode cX10_beam 71 = .ok (.iload 6, 2) := by decide +kernel
theorem dX10_beam_73 : decode cX10_beam 73 = .ok (.imul, 1) := by decide +kernel
theorem dX10_beam_74 : decode cX10_beam 74 = .ok (.invokevirtual 316, 3) := by decide +kernel
theorem dX10_beam_77 : decode cX10_beam 77 = .ok (.istore 8, 2) := by decide +kernel
theorem dX10_beam_79 : decode cX10_beam 79 = .ok (.iload 8, 2) := by decide +kernel
theorem dX10_beam_81 : decode cX10_beam 81 = .ok (.ifCond .ge 10, 3) := by decide +kernel
theorem dX10_beam_84 : decode cX10_beam 84 = .ok (.ldc_w 320, 3) := by decide +kernel
theorem dX10_beam_87 : decode cX10_beam 87 = .ok (.iload 8, 2) := by decide +kernel
theorem dX10_beam_89 : decode cX10_beam 89 = .ok (.iadd, 1) := by decide +kernel
theorem dX10_beam_90 : decode cX10_beam 90 = .ok (.ireturn, 1) := by decide +kernel
theorem dX10_beam_91 : decode cX10_beam 91 = .ok (.aload_n 0, 1) := by decide +kernel
theorem dX10_beam_92 : decode cX10_beam 92 = .ok (.getfield 29, 3) := by decide +kernel
theorem dX10_beam_95 : decode cX10_beam 95 = .ok (.getfield 321, 3) := by decide +kernel
theorem dX10_beam_98 : decode cX10_beam 98 = .ok (.iload_n 3, 1) := by decide +kernel
theorem dX10_beam_99 : decode cX10_beam 99 = .ok (.aaload, 1) := by decide +kernel
theorem dX10_beam_100 : decode cX10_beam 100 = .ok (.astore 9, 2) := by decide +kernel
theorem dX10_beam_102 : decode cX10_beam 102 = .ok (.aload 9, 2) := by decide +kernel
theorem dX10_beam_104 : decode cX10_beam 104 = .ok (.iload 5, 2) := by decide +kernel
theorem dX10_beam_106 : decode cX10_beam 106 = .ok (.iload 6, 2) := by decide +kernel
theorem dX10_beam_108 : decode cX10_beam 108 = .ok (.invokestatic 325, 3) := by decide +kernel
theorem dX10_beam_111 : decode cX10_beam 111 = .ok (.ifCond .ne 7, 3) := by decide +kernel
theorem dX10_beam_114 : decode cX10_beam 114 = .ok (.ldc_w 329, 3) := by decide +kernel
theorem dX10_beam_117 : decode cX10_beam 117 = .ok (.ireturn, 1) := by decide +kernel
theorem dX10_beam_118 : decode cX10_beam 118 = .ok (.aload_n 0, 1) := by decide +kernel
theorem dX10_beam_119 : decode cX10_beam 119 = .ok (.getfield 10, 3) := by decide +kernel
theorem dX10_beam_122 : decode cX10_beam 122 = .ok (.iload_n 1, 1) := by decide +kernel
theorem dX10_beam_123 : decode cX10_beam 123 = .ok (.iload_n 2, 1) := by decide +kernel
theorem dX10_beam_124 : decode cX10_beam 124 = .ok (.aload 9, 2) := by decide +kernel
theorem dX10_beam_126 : decode cX10_beam 126 = .ok (.iload 5, 2) := by decide +kernel
theorem dX10_beam_128 : decode cX10_beam 128 = .ok (.iload 6, 2) := by decide +kernel
theorem dX10_beam_130 : decode cX10_beam 130 = .ok (.invokestatic 330, 3) := by decide +kernel
theorem dX10_beam_133 : decode cX10_beam 133 = .ok (.istore 10, 2) := by decide +kernel
theorem dX10_beam_135 : decode cX10_beam 135 = .ok (.iload 7, 2) := by decide +kernel
theorem dX10_beam_137 : decode cX10_beam 137 = .ok (.ifCond .ne 6, 3) := by decide +kernel
theorem dX10_beam_140 : decode cX10_beam 140 = .ok (.iload 10, 2) := by decide +kernel
theorem dX10_beam_142 : decode cX10_beam 142 = .ok (.ireturn, 1) := by decide +kernel
theorem dX10_beam_143 : decode cX10_beam 143 = .ok (.iload 10, 2) := by decide +kernel
theorem dX10_beam_145 : decode cX10_beam 145 = .ok (.aload_n 0, 1) := by decide +kernel
theorem dX10_beam_146 : decode cX10_beam 146 = .ok (.getfield 10, 3) := by decide +kernel
theorem dX10_beam_149 : decode cX10_beam 149 = .ok (.iload_n 1, 1) := by decide +kernel
theorem dX10_beam_150 : decode cX10_beam 150 = .ok (.iconst 1, 1) := by decide +kernel
theorem dX10_beam_151 : decode cX10_beam 151 = .ok (.invokevirtual 171, 3) := by decide +kernel
theorem dX10_beam_154 : decode cX10_beam 154 = .ok (.aload_n 0, 1) := by decide +kernel
theorem dX10_beam_155 : decode cX10_beam 155 = .ok (.getfield 10, 3) := by decide +kernel
theorem dX10_beam_158 : decode cX10_beam 158 = .ok (.iload_n 2, 1) := by decide +kernel
theorem dX10_beam_159 : decode cX10_beam 159 = .ok (.iconst 1, 1) := by decide +kernel
theorem dX10_beam_160 : decode cX10_beam 160 = .ok (.invokevirtual 171, 3) := by decide +kernel
theorem dX10_beam_163 : decode cX10_beam 163 = .ok (.invokestatic 334, 3) := by decide +kernel
theorem dX10_beam_166 : decode cX10_beam 166 = .ok (.istore 11, 2) := by decide +kernel
theorem dX10_beam_168 : decode cX10_beam 168 = .ok (.iload 11, 2) := by decide +kernel
theorem dX10_beam_170 : decode cX10_beam 170 = .ok (.bipush 30, 2) := by decide +kernel
theorem dX10_beam_172 : decode cX10_beam 172 = .ok (.if_icmp .le 8, 3) := by decide +kernel
theorem dX10_beam_175 : decode cX10_beam 175 = .ok (.ldc 243, 2) := by decide +kernel
theorem dX10_beam_177 : decode cX10_beam 177 = .ok (.goto 5, 3) := by decide +kernel
theorem dX10_beam_180 : decode cX10_beam 180 = .ok (.iload 11, 2) := by decide +kernel
theorem dX10_beam_182 : decode cX10_beam 182 = .ok (.ireturn, 1) := by decide +kernel
theorem dX10_book_0 : decode cX10_book 0 = .ok (.aload_n 0, 1) := by decide +kernel
theorem dX10_book_1 : decode cX10_book 1 = .ok (.getfield 10, 3) := by decide +kernel
theorem dX10_book_4 : decode cX10_book 4 = .ok (.getfield 76, 3) := by decide +kernel
theorem dX10_book_7 : decode cX10_book 7 = .ok (.iload_n 1, 1) := by decide +kernel
theorem dX10_book_8 : decode cX10_book 8 = .ok (.invokevirtual 90, 3) := by decide +kernel
theorem dX10_book_11 : decode cX10_book 11 = .ok (.ifCond .eq 55, 3) := by decide +kernel
theorem dX10_book_14 : decode cX10_book 14 = .ok (.iload_n 2, 1) := by decide +kernel
theorem dX10_book_15 : decode cX10_book 15 = .ok (.iconst 1, 1) := by decide +kernel
theorem dX10_book_16 : decode cX10_book 16 = .ok (.bipush 99, 2) := by decide +kernel
theorem dX10_book_18 : decode cX10_book 18 = .ok (.invokestatic 72, 3) := by decide +kernel
theorem dX10_book_21 : decode cX10_book 21 = .ok (.ifCond .eq 45, 3) := by decide +kernel
theorem dX10_book_24 : decode cX10_book 24 = .ok (.iload_n 3, 1) := by decide +kernel
theorem dX10_book_25 : decode cX10_book 25 = .ok (.iconst 0, 1) := by decide +kernel
theorem dX10_book_26 : decode cX10_book 26 = .ok (.sipush 9975, 3) := by decide +kernel
theorem dX10_book_29 : decode cX10_book 29 = .ok (.invokestatic 72, 3) := by decide +kernel
theorem dX10_book_32 : decode cX10_book 32 = .ok (.ifCond .eq 34, 3) := by decide +kernel
theorem dX10_book_35 : decode cX10_book 35 = .ok (.iload 4, 2) := by decide +kernel
theorem dX10_book_37 : decode cX10_book 37 = .ok (.iload 5, 2) := by decide +kernel
theorem dX10_book_39 : decode cX10_book 39 = .ok (.invokestatic 311, 3) := by decide +kernel
theorem dX10_book_42 : decode cX10_book 42 = .ok (.ifCond .eq 24, 3) := by decide +kernel
theorem dX10_book_45 : decode cX10_book 45 = .ok (.iload 7, 2) := by decide +kernel
theorem dX10_book_47 : decode cX10_book 47 = .ok (.iconst 1, 1) := by decide +kernel
theorem dX10_book_48 : decode cX10_book 48 = .ok (.bipush 24, 2) := by decide +kernel
theorem dX10_book_50 : decode cX10_book 50 = .ok (.invokestatic 72, 3) := by decide +kernel
theorem dX10_book_53 : decode cX10_book 53 = .ok (.ifCond .eq 13, 3) := by decide +kernel
theorem dX10_book_56 : decode cX10_book 56 = .ok (.iload 8, 2) := by decide +kernel
theorem dX10_book_58 : decode cX10_book 58 = .ok (.iconst 0, 1) := by decide +kernel
theorem dX10_book_59 : decode cX10_book 59 = .ok (.iconst 2, 1) := by decide +kernel
theorem dX10_book_60 : decode cX10_book 60 = .ok (.invokestatic 72, 3) := by decide +kernel
theorem dX10_book_63 : decode cX10_book 63 = .ok (.ifCond .ne 5, 3) := by decide +kernel
theorem dX10_book_66 : decode cX10_book 66 = .ok (.iconst (-1), 1) := by decide +kernel
theorem dX10_book_67 : decode cX10_book 67 = .ok (.ireturn, 1) := by decide +kernel
theorem dX10_book_68 : decode cX10_book 68 = .ok (.aload_n 0, 1) := by decide +kernel
theorem dX10_book_69 : decode cX10_book 69 = .ok (.getfield 29, 3) := by decide +kernel
theorem dX10_book_72 : decode cX10_book 72 = .ok (.iload 4, 2) := by decide +kernel
theorem dX10_book_74 : decode cX10_book 74 = .ok (.iload 5, 2) := by decide +kernel
theorem dX10_book_76 : decode cX10_book 76 = .ok (.iload 6, 2) := by decide +kernel
theorem dX10_book_78 : decode cX10_book 78 = .ok (.iload 7, 2) := by decide +kernel
theorem dX10_book_80 : decode cX10_book 80 = .ok (.invokevirtual 316, 3) := by decide +kernel
theorem dX10_book_83 : decode cX10_book 83 = .ok (.istore 9, 2) := by decide +kernel
theorem dX10_book_85 : decode cX10_book 85 = .ok (.iload 9, 2) := by decide +kernel
theorem dX10_book_87 : decode cX10_book 87 = .ok (.ifCond .ge 6, 3) := by decide +kernel
theorem dX10_book_90 : decode cX10_book 90 = .ok (.iload 9, 2) := by decide +kernel
theorem dX10_book_92 : decode cX10_book 92 = .ok (.ireturn, 1) := by decide +kernel
theorem dX10_book_93 : decode cX10_book 93 = .ok (.aload_n 0, 1) := by decide +kernel
theorem dX10_book_94 : decode cX10_book 94 = .ok (.getfield 68, 3) := by decide +kernel
theorem dX10_book_97 : decode cX10_book 97 = .ok (.aload_n 0, 1) := by decide +kernel
theorem dX10_book_98 : decode cX10_book 98 = .ok (.getfield 10, 3) := by decide +kernel
theorem dX10_book_101 : decode cX10_book 101 = .ok (.getfield 76, 3) := by decide +kernel
theorem dX10_book_104 : decode cX10_book 104 = .ok (.getfield 143, 3) := by decide +kernel
theorem dX10_book_107 : decode cX10_book 107 = .ok (.iload_n 1, 1) := by decide +kernel
theorem dX10_book_108 : decode cX10_book 108 = .ok (.iaload, 1) := by decide +kernel
theorem dX10_book_109 : decode cX10_book 109 = .ok (.iload_n 2, 1) := by decide +kernel
theorem dX10_book_110 : decode cX10_book 110 = .ok (.iload_n 3, 1) := by decide +kernel
theorem dX10_book_111 : decode cX10_book 111 = .ok (.invokevirtual 337, 3) := by decide +kernel
theorem dX10_book_114 : decode cX10_book 114 = .ok (.aload_n 0, 1) := by decide +kernel
theorem dX10_book_115 : decode cX10_book 115 = .ok (.getfield 68, 3) := by decide +kernel
theorem dX10_book_118 : decode cX10_book 118 = .ok (.aload_n 0, 1) := by decide +kernel
theorem dX10_book_119 : decode cX10_book 119 = .ok (.getfield 29, 3) := by decide +kernel
theorem dX10_book_122 : decode cX10_book 122 = .ok (.getfield 321, 3) := by decide +kernel
theorem dX10_book_125 : decode cX10_book 125 = .ok (.iload 4, 2) := by decide +kernel
theorem dX10_book_127 : decode cX10_book 127 = .ok (.aaload, 1) := by decide +kernel
theorem dX10_book_128 : decode cX10_book 128 = .ok (.iload 6, 2) := by decide +kernel
theorem dX10_book_130 : decode cX10_book 130 = .ok (.iload 7, 2) := by decide +kernel
theorem dX10_book_132 : decode cX10_book 132 = .ok (.invokevirtual 340, 3) := by decide +kernel
theorem dX10_book_135 : decode cX10_book 135 = .ok (.istore 10, 2) := by decide +kernel
theorem dX10_book_137 : decode cX10_book 137 = .ok (.iload 8, 2) := by decide +kernel
theorem dX10_book_139 : decode cX10_book 139 = .ok (.ifCond .ne 11, 3) := by decide +kernel
theorem dX10_book_142 : decode cX10_book 142 = .ok (.aload_n 0, 1) := by decide +kernel
theorem dX10_book_143 : decode cX10_book 143 = .ok (.getfield 68, 3) := by decide +kernel
theorem dX10_book_146 : decode cX10_book 146 = .ok (.invokevirtual 344, 3) := by decide +kernel
theorem dX10_book_149 : decode cX10_book 149 = .ok (.ireturn, 1) := by decide +kernel
theorem dX10_book_150 : decode cX10_book 150 = .ok (.iload 8, 2) := by decide +kernel
theorem dX10_book_152 : decode cX10_book 152 = .ok (.iconst 1, 1) := by decide +kernel
theorem dX10_book_153 : decode cX10_book 153 = .ok (.if_icmp .ne 21, 3) := by decide +kernel
theorem dX10_book_156 : decode cX10_book 156 = .ok (.iload 10, 2) := by decide +kernel
theorem dX10_book_158 : decode cX10_book 158 = .ok (.ifCond .ge 13, 3) := by decide +kernel
theorem dX10_book_161 : decode cX10_book 161 = .ok (.aload_n 0, 1) := by decide +kernel
theorem dX10_book_162 : decode cX10_book 162 = .ok (.getfield 68, 3) := by decide +kernel
theorem dX10_book_165 : decode cX10_book 165 = .ok (.invokevirtual 347, 3) := by decide +kernel
theorem dX10_book_168 : decode cX10_book 168 = .ok (.goto 5, 3) := by decide +kernel
theorem dX10_book_171 : decode cX10_book 171 = .ok (.bipush (-4), 2) := by decide +kernel
theorem dX10_book_173 : decode cX10_book 173 = .ok (.ireturn, 1) := by decide +kernel
theorem dX10_book_174 : decode cX10_book 174 = .ok (.iload 10, 2) := by decide +kernel
theorem dX10_book_176 : decode cX10_book 176 = .ok (.ifCond .ge 8, 3) := by decide +kernel
theorem dX10_book_179 : decode cX10_book 179 = .ok (.bipush (-4), 2) := by decide +kernel
theorem dX10_book_181 : decode cX10_book 181 = .ok (.goto 5, 3) := by decide +kernel
theorem dX10_book_184 : decode cX10_book 184 = .ok (.iload 10, 2) := by decide +kernel
theorem dX10_book_186 : decode cX10_book 186 = .ok (.ireturn, 1) := by decide +kernel
theorem dX10_mills_0 : decode cX10_mills 0 = .ok (.iload_n 1, 1) := by decide +kernel
theorem dX10_mills_1 : decode cX10_mills 1 = .ok (.iload_n 2, 1) := by decide +kernel
theorem dX10_mills_2 : decode cX10_mills 2 = .ok (.invokestatic 311, 3) := by decide +kernel
theorem dX10_mills_5 : decode cX10_mills 5 = .ok (.ifCond .eq 14, 3) := by decide +kernel
theorem dX10_mills_8 : decode cX10_mills 8 = .ok (.iload 4, 2) := by decide +kernel
theorem dX10_mills_10 : decode cX10_mills 10 = .ok (.iconst 1, 1) := by decide +kernel
theorem dX10_mills_11 : decode cX10_mills 11 = .ok (.bipush 8, 2) := by decide +kernel
theorem dX10_mills_13 : decode cX10_mills 13 = .ok (.invokestatic 72, 3) := by decide +kernel
theorem dX10_mills_16 : decode cX10_mills 16 = .ok (.ifCond .ne 5, 3) := by decide +kernel
theorem dX10_mills_19 : decode cX10_mills 19 = .ok (.iconst (-1), 1) := by decide +kernel
theorem dX10_mills_20 : decode cX10_mills 20 = .ok (.ireturn, 1) := by decide +kernel
theorem dX10_mills_21 : decode cX10_mills 21 = .ok (.aload_n 0, 1) := by decide +kernel
theorem dX10_mills_22 : decode cX10_mills 22 = .ok (.getfield 29, 3) := by decide +kernel
theorem dX10_mills_25 : decode cX10_mills 25 = .ok (.iload_n 1, 1) := by decide +kernel
theorem dX10_mills_26 : decode cX10_mills 26 = .ok (.iload_n 2, 1) := by decide +kernel
theorem dX10_mills_27 : decode cX10_mills 27 = .ok (.iload_n 3, 1) := by decide +kernel
theorem dX10_mills_28 : decode cX10_mills 28 = .ok (.iconst 2, 1) := by decide +kernel
theorem dX10_mills_29 : decode cX10_mills 29 = .ok (.iload 4, 2) := by decide +kernel
theorem dX10_mills_31 : decode cX10_mills 31 = .ok (.imul, 1) := by decide +kernel
theorem dX10_mills_32 : decode cX10_mills 32 = .ok (.invokevirtual 316, 3) := by decide +kernel
theorem dX10_mills_35 : decode cX10_mills 35 = .ok (.istore 5, 2) := by decide +kernel
theorem dX10_mills_37 : decode cX10_mills 37 = .ok (.iload 5, 2) := by decide +kernel
theorem dX10_mills_39 : decode cX10_mills 39 = .ok (.ifCond .ge 6, 3) := by decide +kernel
theorem dX10_mills_42 : decode cX10_mills 42 = .ok (.iload 5, 2) := by decide +kernel
theorem dX10_mills_44 : decode cX10_mills 44 = .ok (.ireturn, 1) := by decide +kernel
theorem dX10_mills_45 : decode cX10_mills 45 = .ok (.aload_n 0, 1) := by decide +kernel
theorem dX10_mills_46 : decode cX10_mills 46 = .ok (.getfield 29, 3) := by decide +kernel
theorem dX10_mills_49 : decode cX10_mills 49 = .ok (.getfield 321, 3) := by decide +kernel
theorem dX10_mills_52 : decode cX10_mills 52 = .ok (.iload_n 1, 1) := by decide +kernel
theorem dX10_mills_53 : decode cX10_mills 53 = .ok (.aaload, 1) := by decide +kernel
theorem dX10_mills_54 : decode cX10_mills 54 = .ok (.astore 6, 2) := by decide +kernel
theorem dX10_mills_56 : decode cX10_mills 56 = .ok (.iconst 0, 1) := by decide +kernel
theorem dX10_mills_57 : decode cX10_mills 57 = .ok (.istore 7, 2) := by decide +kernel
theorem dX10_mills_59 : decode cX10_mills 59 = .ok (.iload_n 3, 1) := by decide +kernel
theorem dX10_mills_60 : decode cX10_mills 60 = .ok (.istore 8, 2) := by decide +kernel
theorem dX10_mills_62 : decode cX10_mills 62 = .ok (.iload 8, 2) := by decide +kernel
theorem dX10_mills_64 : decode cX10_mills 64 = .ok (.iload_n 3, 1) := by decide +kernel
theorem dX10_mills_65 : decode cX10_mills 65 = .ok (.iconst 2, 1) := by decide +kernel
theorem dX10_mills_66 : decode cX10_mills 66 = .ok (.iload 4, 2) := by decide +kernel
theorem dX10_mills_68 : decode cX10_mills 68 = .ok (.imul, 1) := by decide +kernel
theorem dX10_mills_69 : decode cX10_mills 69 = .ok (.iadd, 1) := by decide +kernel
theorem dX10_mills_70 : decode cX10_mills 70 = .ok (.if_icmp .ge 90, 3) := by decide +kernel
theorem dX10_mills_73 : decode cX10_mills 73 = .ok (.aload 6, 2) := by decide +kernel
theorem dX10_mills_75 : decode cX10_mills 75 = .ok (.iload 8, 2) := by decide +kernel
theorem dX10_mills_77 : decode cX10_mills 77 = .ok (.iconst 1, 1) := by decide +kernel
theorem dX10_mills_78 : decode cX10_mills 78 = .ok (.iadd, 1) := by decide +kernel
theorem dX10_mills_79 : decode cX10_mills 79 = .ok (.laload, 1) := by decide +kernel
theorem dX10_mills_80 : decode cX10_mills 80 = .ok (.lstore 9, 2) := by decide +kernel
theorem dX10_mills_82 : decode cX10_mills 82 = .ok (.aload 6, 2) := by decide +kernel
theorem dX10_mills_84 : decode cX10_mills 84 = .ok (.iload 8, 2) := by decide +kernel
theorem dX10_mills_86 : decode cX10_mills 86 = .ok (.laload, 1) := by decide +kernel
theorem dX10_mills_87 : decode cX10_mills 87 = .ok (.lconst 0, 1) := by decide +kernel
theorem dX10_mills_88 : decode cX10_mills 88 = .ok (.lcmp, 1) := by decide +kernel
theorem dX10_mills_89 : decode cX10_mills 89 = .ok (.ifCond .lt 39, 3) := by decide +kernel
theorem dX10_mills_92 : decode cX10_mills 92 = .ok (.aload 6, 2) := by decide +kernel
theorem dX10_mills_94 : decode cX10_mills 94 = .ok (.iload 8, 2) := by decide +kernel
theorem dX10_mills_96 : decode cX10_mills 96 = .ok (.laload, 1) := by decide +kernel
theorem dX10_mills_97 : decode cX10_mills 97 = .ok (.aload_n 0, 1) := by decide +kernel
theorem dX10_mills_98 : decode cX10_mills 98 = .ok (.getfield 10, 3) := by decide +kernel
theorem dX10_mills_101 : decode cX10_mills 101 = .ok (.getfield 76, 3) := by decide +kernel
theorem dX10_mills_104 : decode cX10_mills 104 = .ok (.getfield 80, 3) := by decide +kernel
theorem dX10_mills_107 : decode cX10_mills 107 = .ok (.i2l, 1) := by decide +kernel
theorem dX10_mills_108 : decode cX10_mills 108 = .ok (.lcmp, 1) := by decide +kernel
theorem dX10_mills_109 : decode cX10_mills 109 = .ok (.ifCond .ge 19, 3) := by decide +kernel
theorem dX10_mills_112 : decode cX10_mills 112 = .ok (.lload 9, 2) := by decide +kernel
theorem dX10_mills_114 : decode cX10_mills 114 = .ok (.lconst 0, 1) := by decide +kernel
theorem dX10_mills_115 : decode cX10_mills 115 = .ok (.lcmp, 1) := by decide +kernel
theorem dX10_mills_116 : decode cX10_mills 116 = .ok (.ifCond .lt 12, 3) := by decide +kernel
theorem dX10_mills_119 : decode cX10_mills 119 = .ok (.lload 9, 2) := by decide +kernel
theorem dX10_mills_121 : decode cX10_mills 121 = .ok (.ldc2_w 350, 3) := by decide +kernel
theorem dX10_mills_124 : decode cX10_mills 124 = .ok (.lcmp, 1) := by decide +kernel
theorem dX10_mills_125 : decode cX10_mills 125 = .ok (.ifCond .le 6, 3) := by decide +kernel
theorem dX10_mills_128 : decode cX10_mills 128 = .ok (.bipush (-2), 2) := by decide +kernel
theorem dX10_mills_130 : decode cX10_mills 130 = .ok (.ireturn, 1) := by decide +kernel
theorem dX10_mills_131 : decode cX10_mills 131 = .ok (.iload 7, 2) := by decide +kernel
theorem dX10_mills_133 : decode cX10_mills 133 = .ok (.aload_n 0, 1) := by decide +kernel
theorem dX10_mills_134 : decode cX10_mills 134 = .ok (.getfield 10, 3) := by decide +kernel
theorem dX10_mills_137 : decode cX10_mills 137 = .ok (.aload 6, 2) := by decide +kernel
theorem dX10_mills_139 : decode cX10_mills 139 = .ok (.iload 8, 2) := by decide +kernel
theorem dX10_mills_141 : decode cX10_mills 141 = .ok (.laload, 1) := by decide +kernel
theorem dX10_mills_142 : decode cX10_mills 142 = .ok (.l2i, 1) := by decide +kernel
theorem dX10_mills_143 : decode cX10_mills 143 = .ok (.iconst 1, 1) := by decide +kernel
theorem dX10_mills_144 : decode cX10_mills 144 = .ok (.invokevirtual 171, 3) := by decide +kernel
theorem dX10_mills_147 : decode cX10_mills 147 = .ok (.lload 9, 2) := by decide +kernel
theorem dX10_mills_149 : decode cX10_mills 149 = .ok (.l2i, 1) := by decide +kernel
theorem dX10_mills_150 : decode cX10_mills 150 = .ok (.imul, 1) := by decide +kernel
theorem dX10_mills_151 : decode cX10_mills 151 = .ok (.iadd, 1) := by decide +kernel
theorem dX10_mills_152 : decode cX10_mills 152 = .ok (.istore 7, 2) := by decide +kernel
theorem dX10_mills_154 : decode cX10_mills 154 = .ok (.iinc 8 2, 3) := by decide +kernel
theorem dX10_mills_157 : decode cX10_mills 157 = .ok (.goto (-95), 3) := by decide +kernel
theorem dX10_mills_160 : decode cX10_mills 160 = .ok (.iload 7, 2) := by decide +kernel
theorem dX10_mills_162 : decode cX10_mills 162 = .ok (.ireturn, 1) := by decide +kernel
theorem dX10_film_0 : decode cX10_film 0 = .ok (.iload_n 1, 1) := by decide +kernel
theorem dX10_film_1 : decode cX10_film 1 = .ok (.iload_n 2, 1) := by decide +kernel
theorem dX10_film_2 : decode cX10_film 2 = .ok (.invokestatic 311, 3) := by decide +kernel
theorem dX10_film_5 : decode cX10_film 5 = .ok (.ifCond .ne 5, 3) := by decide +kernel
theorem dX10_film_8 : decode cX10_film 8 = .ok (.iconst (-1), 1) := by decide +kernel
theorem dX10_film_9 : decode cX10_film 9 = .ok (.ireturn, 1) := by decide +kernel
theorem dX10_film_10 : decode cX10_film 10 = .ok (.aload_n 0, 1) := by decide +kernel
theorem dX10_film_11 : decode cX10_film 11 = .ok (.getfield 29, 3) := by decide +kernel
theorem dX10_film_14 : decode cX10_film 14 = .ok (.iload_n 1, 1) := by decide +kernel
theorem dX10_film_15 : decode cX10_film 15 = .ok (.iload_n 2, 1) := by decide +kernel
theorem dX10_film_16 : decode cX10_film 16 = .ok (.iload_n 3, 1) := by decide +kernel
theorem dX10_film_17 : decode cX10_film 17 = .ok (.aload_n 0, 1) := by decide +kernel
theorem dX10_film_18 : decode cX10_film 18 = .ok (.getfield 10, 3) := by decide +kernel
theorem dX10_film_21 : decode cX10_film 21 = .ok (.getfield 122, 3) := by decide +kernel
theorem dX10_film_24 : decode cX10_film 24 = .ok (.invokevirtual 316, 3) := by decide +kernel
theorem dX10_film_27 : decode cX10_film 27 = .ok (.istore 4, 2) := by decide +kernel
theorem dX10_film_29 : decode cX10_film 29 = .ok (.iload 4, 2) := by decide +kernel
theorem dX10_film_31 : decode cX10_film 31 = .ok (.ifCond .ge 6, 3) := by decide +kernel
theorem dX10_film_34 : decode cX10_film 34 = .ok (.iload 4, 2) := by decide +kernel
theorem dX10_film_36 : decode cX10_film 36 = .ok (.ireturn, 1) := by decide +kernel
theorem dX10_film_37 : decode cX10_film 37 = .ok (.iconst 0, 1) := by decide +kernel
theorem dX10_film_38 : decode cX10_film 38 = .ok (.istore 5, 2) := by decide +kernel
theorem dX10_film_40 : decode cX10_film 40 = .ok (.iload 5, 2) := by decide +kernel
theorem dX10_film_42 : decode cX10_film 42 = .ok (.aload_n 0, 1) := by decide +kernel
theorem dX10_film_43 : decode cX10_film 43 = .ok (.getfield 10, 3) := by decide +kernel
theorem dX10_film_46 : decode cX10_film 46 = .ok (.getfield 122, 3) := by decide +kernel
theorem dX10_film_49 : decode cX10_film 49 = .ok (.if_icmp .ge 31, 3) := by decide +kernel
theorem dX10_film_52 : decode cX10_film 52 = .ok (.aload_n 0, 1) := by decide +kernel
theorem dX10_film_53 : decode cX10_film 53 = .ok (.getfield 29, 3) := by decide +kernel
theorem dX10_film_56 : decode cX10_film 56 = .ok (.iload_n 1, 1) := by decide +kernel
theorem dX10_film_57 : decode cX10_film 57 = .ok (.iload_n 3, 1) := by decide +kernel
theorem dX10_film_58 : decode cX10_film 58 = .ok (.iload 5, 2) := by decide +kernel
theorem dX10_film_60 : decode cX10_film 60 = .ok (.iadd, 1) := by decide +kernel
theorem dX10_film_61 : decode cX10_film 61 = .ok (.aload_n 0, 1) := by decide +kernel
theorem dX10_film_62 : decode cX10_film 62 = .ok (.getfield 10, 3) := by decide +kernel
theorem dX10_film_65 : decode cX10_film 65 = .ok (.iload 5, 2) := by decide +kernel
theorem dX10_film_67 : decode cX10_film 67 = .ok (.invokevirtual 131, 3) := by decide +kernel
theorem dX10_film_70 : decode cX10_film 70 = .ok (.i2l, 1) := by decide +kernel
theorem dX10_film_71 : decode cX10_film 71 = .ok (.invokevirtual 352, 3) := by decide +kernel
theorem dX10_film_74 : decode cX10_film 74 = .ok (.iinc 5 1, 3) := by decide +kernel
theorem dX10_film_77 : decode cX10_film 77 = .ok (.goto (-37), 3) := by decide +kernel
theorem dX10_film_80 : decode cX10_film 80 = .ok (.aload_n 0, 1) := by decide +kernel
theorem dX10_film_81 : decode cX10_film 81 = .ok (.getfield 10, 3) := by decide +kernel
theorem dX10_film_84 : decode cX10_film 84 = .ok (.getfield 122, 3) := by decide +kernel
theorem dX10_film_87 : decode cX10_film 87 = .ok (.ireturn, 1) := by decide +kernel
theorem dX10_sheet_0 : decode cX10_sheet 0 = .ok (.iload_n 1, 1) := by decide +kernel
theorem dX10_sheet_1 : decode cX10_sheet 1 = .ok (.iload_n 2, 1) := by decide +kernel
theorem dX10_sheet_2 : decode cX10_sheet 2 = .ok (.invokestatic 311, 3) := by decide +kernel
theorem dX10_sheet_5 : decode cX10_sheet 5 = .ok (.ifCond .eq 9, 3) := by decide +kernel
theorem dX10_sheet_8 : decode cX10_sheet 8 = .ok (.iload_n 3, 1) := by decide +kernel
theorem dX10_sheet_9 : decode cX10_sheet 9 = .ok (.bipush 24, 2) := by decide +kernel
theorem dX10_sheet_11 : decode cX10_sheet 11 = .ok (.if_icmp .le 5, 3) := by decide +kernel
theorem dX10_sheet_14 : decode cX10_sheet 14 = .ok (.iconst (-1), 1) := by decide +kernel
theorem dX10_sheet_15 : decode cX10_sheet 15 = .ok (.ireturn, 1) := by decide +kernel
theorem dX10_sheet_16 : decode cX10_sheet 16 = .ok (.iload_n 3, 1) := by decide +kernel
theorem dX10_sheet_17 : decode cX10_sheet 17 = .ok (.ifCond .ge 6, 3) := by decide +kernel
theorem dX10_sheet_20 : decode cX10_sheet 20 = .ok (.bipush (-14), 2) := by decide +kernel
theorem dX10_sheet_22 : decode cX10_sheet 22 = .ok (.ireturn, 1) := by decide +kernel
theorem dX10_sheet_23 : decode cX10_sheet 23 = .ok (.aload_n 0, 1) := by decide +kernel
theorem dX10_sheet_24 : decode cX10_sheet 24 = .ok (.getfield 29, 3) := by decide +kernel
theorem dX10_sheet_27 : decode cX10_sheet 27 = .ok (.iload_n 1, 1) := by decide +kernel
theorem dX10_sheet_28 : decode cX10_sheet 28 = .ok (.iload_n 2, 1) := by decide +kernel
theorem dX10_sheet_29 : decode cX10_sheet 29 = .ok (.iload_n 3, 1) := by decide +kernel
theorem dX10_sheet_30 : decode cX10_sheet 30 = .ok (.invokevirtual 356, 3) := by decide +kernel
theorem dX10_sheet_33 : decode cX10_sheet 33 = .ok (.iload_n 3, 1) := by decide +kernel
theorem dX10_sheet_34 : decode cX10_sheet 34 = .ok (.ireturn, 1) := by decide +kernel
theorem dX10_drop_0 : decode cX10_drop 0 = .ok (.iload_n 1, 1) := by decide +kernel
theorem dX10_drop_1 : decode cX10_drop 1 = .ok (.invokestatic 359, 3) := by decide +kernel
theorem dX10_drop_4 : decode cX10_drop 4 = .ok (.ifCond .ne 5, 3) := by decide +kernel
theorem dX10_drop_7 : decode cX10_drop 7 = .ok (.iconst (-1), 1) := by decide +kernel
theorem dX10_drop_8 : decode cX10_drop 8 = .ok (.ireturn, 1) := by decide +kernel
theorem dX10_drop_9 : decode cX10_drop 9 = .ok (.aload_n 0, 1) := by decide +kernel
theorem dX10_drop_10 : decode cX10_drop 10 = .ok (.getfield 29, 3) := by decide +kernel
theorem dX10_drop_13 : decode cX10_drop 13 = .ok (.iload_n 1, 1) := by decide +kernel
theorem dX10_drop_14 : decode cX10_drop 14 = .ok (.invokevirtual 362, 3) := by decide +kernel
theorem dX10_drop_17 : decode cX10_drop 17 = .ok (.ifCond .eq 8, 3) := by decide +kernel
theorem dX10_drop_20 : decode cX10_drop 20 = .ok (.bipush (-11), 2) := by decide +kernel
theorem dX10_drop_22 : decode cX10_drop 22 = .ok (.goto 11, 3) := by decide +kernel
theorem dX10_drop_25 : decode cX10_drop 25 = .ok (.aload_n 0, 1) := by decide +kernel
theorem dX10_drop_26 : decode cX10_drop 26 = .ok (.getfield 29, 3) := by decide +kernel
theorem dX10_drop_29 : decode cX10_drop 29 = .ok (.iload_n 1, 1) := by decide +kernel
theorem dX10_drop_30 : decode cX10_drop 30 = .ok (.invokevirtual 365, 3) := by decide +kernel
theorem dX10_drop_33 : decode cX10_drop 33 = .ok (.ireturn, 1) := by decide +kernel
theorem dX10_item_0 : decode cX10_item 0 = .ok (.iload_n 1, 1) := by decide +kernel
theorem dX10_item_1 : decode cX10_item 1 = .ok (.iload_n 2, 1) := by decide +kernel
theorem dX10_item_2 : decode cX10_item 2 = .ok (.invokestatic 311, 3) := by decide +kernel
theorem dX10_item_5 : decode cX10_item 5 = .ok (.ifCond .ne 5, 3) := by decide +kernel
theorem dX10_item_8 : decode cX10_item 8 = .ok (.iconst (-1), 1) := by decide +kernel
theorem dX10_item_9 : decode cX10_item 9 = .ok (.ireturn, 1) := by decide +kernel
theorem dX10_item_10 : decode cX10_item 10 = .ok (.aload_n 0, 1) := by decide +kernel
theorem dX10_item_11 : decode cX10_item 11 = .ok (.getfield 29, 3) := by decide +kernel
theorem dX10_item_14 : decode cX10_item 14 = .ok (.iload_n 1, 1) := by decide +kernel
theorem dX10_item_15 : decode cX10_item 15 = .ok (.iload_n 2, 1) := by decide +kernel
theorem dX10_item_16 : decode cX10_item 16 = .ok (.iload_n 3, 1) := by decide +kernel
theorem dX10_item_17 : decode cX10_item 17 = .ok (.iconst 1, 1) := by decide +kernel
theorem dX10_item_18 : decode cX10_item 18 = .ok (.invokevirtual 316, 3) := by decide +kernel
theorem dX10_item_21 : decode cX10_item 21 = .ok (.istore 6, 2) := by decide +kernel
theorem dX10_item_23 : decode cX10_item 23 = .ok (.iload 6, 2) := by decide +kernel
theorem dX10_item_25 : decode cX10_item 25 = .ok (.ifCond .ge 6, 3) := by decide +kernel
theorem dX10_item_28 : decode cX10_item 28 = .ok (.iload 6, 2) := by decide +kernel
theorem dX10_item_30 : decode cX10_item 30 = .ok (.ireturn, 1) := by decide +kernel
theorem dX10_item_31 : decode cX10_item 31 = .ok (.aload_n 0, 1) := by decide +kernel
theorem dX10_item_32 : decode cX10_item 32 = .ok (.getfield 29, 3) := by decide +kernel
theorem dX10_item_35 : decode cX10_item 35 = .ok (.iload_n 1, 1) := by decide +kernel
theorem dX10_item_36 : decode cX10_item 36 = .ok (.iload_n 3, 1) := by decide +kernel
theorem dX10_item_37 : decode cX10_item 37 = .ok (.lload 4, 2) := by decide +kernel
theorem dX10_item_39 : decode cX10_item 39 = .ok (.invokevirtual 352, 3) := by decide +kernel
theorem dX10_item_42 : decode cX10_item 42 = .ok (.iconst 1, 1) := by decide +kernel
theorem dX10_item_43 : decode cX10_item 43 = .ok (.ireturn, 1) := by decide +kernel
theorem dX10_copy_0 : decode cX10_copy 0 = .ok (.iload_n 1, 1) := by decide +kernel
theorem dX10_copy_1 : decode cX10_copy 1 = .ok (.invokestatic 359, 3) := by decide +kernel
theorem dX10_copy_4 : decode cX10_copy 4 = .ok (.ifCond .eq 10, 3) := by decide +kernel
theorem dX10_copy_7 : decode cX10_copy 7 = .ok (.iload_n 3, 1) := by decide +kernel
theorem dX10_copy_8 : decode cX10_copy 8 = .ok (.invokestatic 359, 3) := by decide +kernel
theorem dX10_copy_11 : decode cX10_copy 11 = .ok (.ifCond .ne 5, 3) := by decide +kernel
theorem dX10_copy_14 : decode cX10_copy 14 = .ok (.iconst (-1), 1) := by decide +kernel
theorem dX10_copy_15 : decode cX10_copy 15 = .ok (.ireturn, 1) := by decide +kernel
theorem dX10_copy_16 : decode cX10_copy 16 = .ok (.aload_n 0, 1) := by decide +kernel
theorem dX10_copy_17 : decode cX10_copy 17 = .ok (.getfield 29, 3) := by decide +kernel
theorem dX10_copy_20 : decode cX10_copy 20 = .ok (.iload_n 1, 1) := by decide +kernel
theorem dX10_copy_21 : decode cX10_copy 21 = .ok (.invokevirtual 362, 3) := by decide +kernel
theorem dX10_copy_24 : decode cX10_copy 24 = .ok (.ifCond .ne 14, 3) := by decide +kernel
theorem dX10_copy_27 : decode cX10_copy 27 = .ok (.aload_n 0, 1) := by decide +kernel
theorem dX10_copy_28 : decode cX10_copy 28 = .ok (.getfield 29, 3) := by decide +kernel
theorem dX10_copy_31 : decode cX10_copy 31 = .ok (.iload_n 3, 1) := by decide +kernel
theorem dX10_copy_32 : decode cX10_copy 32 = .ok (.invokevirtual 362, 3) := by decide +kernel
theorem dX10_copy_35 : decode cX10_copy 35 = .ok (.ifCond .eq 6, 3) := by decide +kernel
theorem dX10_copy_38 : decode cX10_copy 38 = .ok (.bipush (-11), 2) := by decide +kernel
theorem dX10_copy_40 : decode cX10_copy 40 = .ok (.ireturn, 1) := by decide +kernel
theorem dX10_copy_41 : decode cX10_copy 41 = .ok (.aload_n 0, 1) := by decide +kernel
theorem dX10_copy_42 : decode cX10_copy 42 = .ok (.getfield 29, 3) := by decide +kernel
theorem dX10_copy_45 : decode cX10_copy 45 = .ok (.getfield 368, 3) := by decide +kernel
theorem dX10_copy_48 : decode cX10_copy 48 = .ok (.iload_n 1, 1) := by decide +kernel
theorem dX10_copy_49 : decode cX10_copy 49 = .ok (.iaload, 1) := by decide +kernel
theorem dX10_copy_50 : decode cX10_copy 50 = .ok (.aload_n 0, 1) := by decide +kernel
theorem dX10_copy_51 : decode cX10_copy 51 = .ok (.getfield 29, 3) := by decide +kernel
theorem dX10_copy_54 : decode cX10_copy 54 = .ok (.getfield 368, 3) := by decide +kernel
theorem dX10_copy_57 : decode cX10_copy 57 = .ok (.iload_n 3, 1) := by decide +kernel
theorem dX10_copy_58 : decode cX10_copy 58 = .ok (.iaload, 1) := by decide +kernel
theorem dX10_copy_59 : decode cX10_copy 59 = .ok (.if_icmp .eq 6, 3) := by decide +kernel
theorem dX10_copy_62 : decode cX10_copy 62 = .ok (.bipush (-12), 2) := by decide +kernel
theorem dX10_copy_64 : decode cX10_copy 64 = .ok (.ireturn, 1) := by decide +kernel
theorem dX10_copy_65 : decode cX10_copy 65 = .ok (.aload_n 0, 1) := by decide +kernel
theorem dX10_copy_66 : decode cX10_copy 66 = .ok (.getfield 29, 3) := by decide +kernel
theorem dX10_copy_69 : decode cX10_copy 69 = .ok (.iload_n 1, 1) := by decide +kernel
theorem dX10_copy_70 : decode cX10_copy 70 = .ok (.iload_n 2, 1) := by decide +kernel
theorem dX10_copy_71 : decode cX10_copy 71 = .ok (.iload 5, 2) := by decide +kernel
theorem dX10_copy_73 : decode cX10_copy 73 = .ok (.invokevirtual 371, 3) := by decide +kernel
theorem dX10_copy_76 : decode cX10_copy 76 = .ok (.ifCond .eq 18, 3) := by decide +kernel
theorem dX10_copy_79 : decode cX10_copy 79 = .ok (.aload_n 0, 1) := by decide +kernel
theorem dX10_copy_80 : decode cX10_copy 80 = .ok (.getfield 29, 3) := by decide +kernel
theorem dX10_copy_83 : decode cX10_copy 83 = .ok (.iload_n 3, 1) := by decide +kernel
theorem dX10_copy_84 : decode cX10_copy 84 = .ok (.iload 4, 2) := by decide +kernel
theorem dX10_copy_86 : decode cX10_copy 86 = .ok (.iload 5, 2) := by decide +kernel
theorem dX10_copy_88 : decode cX10_copy 88 = .ok (.invokevirtual 371, 3) := by decide +kernel
theorem dX10_copy_91 : decode cX10_copy 91 = .ok (.ifCond .ne 6, 3) := by decide +kernel
theorem dX10_copy_94 : decode cX10_copy 94 = .ok (.bipush (-13), 2) := by decide +kernel
theorem dX10_copy_96 : decode cX10_copy 96 = .ok (.ireturn, 1) := by decide +kernel
theorem dX10_copy_97 : decode cX10_copy 97 = .ok (.aload_n 0, 1) := by decide +kernel
theorem dX10_copy_98 : decode cX10_copy 98 = .ok (.getfield 29, 3) := by decide +kernel
theorem dX10_copy_101 : decode cX10_copy 101 = .ok (.getfield 321, 3) := by decide +kernel
theorem dX10_copy_104 : decode cX10_copy 104 = .ok (.iload_n 1, 1) := by decide +kernel
theorem dX10_copy_105 : decode cX10_copy 105 = .ok (.aaload, 1) := by decide +kernel
theorem dX10_copy_106 : decode cX10_copy 106 = .ok (.iload_n 2, 1) := by decide +kernel
theorem dX10_copy_107 : decode cX10_copy 107 = .ok (.aload_n 0, 1) := by decide +kernel
theorem dX10_copy_108 : decode cX10_copy 108 = .ok (.getfield 29, 3) := by decide +kernel
theorem dX10_copy_111 : decode cX10_copy 111 = .ok (.getfield 321, 3) := by decide +kernel
theorem dX10_copy_114 : decode cX10_copy 114 = .ok (.iload_n 3, 1) := by decide +kernel
theorem dX10_copy_115 : decode cX10_copy 115 = .ok (.aaload, 1) := by decide +kernel
theorem dX10_copy_116 : decode cX10_copy 116 = .ok (.iload 4, 2) := by decide +kernel
theorem dX10_copy_118 : decode cX10_copy 118 = .ok (.iload 5, 2) := by decide +kernel
theorem dX10_copy_120 : decode cX10_copy 120 = .ok (.invokestatic 374, 3) := by decide +kernel
theorem dX10_copy_123 : decode cX10_copy 123 = .ok (.iload 5, 2) := by decide +kernel
theorem dX10_copy_125 : decode cX10_copy 125 = .ok (.ireturn, 1) := by decide +kernel
theorem dX10_within_0 : decode cX10_within 0 = .ok (.iload_n 0, 1) := by decide +kernel
theorem dX10_within_1 : decode cX10_within 1 = .ok (.iload_n 1, 1) := by decide +kernel
theorem dX10_within_2 : decode cX10_within 2 = .ok (.if_icmp .lt 12, 3) := by decide +kernel
theorem dX10_within_5 : decode cX10_within 5 = .ok (.iload_n 0, 1) := by decide +kernel
theorem dX10_within_6 : decode cX10_within 6 = .ok (.iload_n 2, 1) := by decide +kernel
theorem dX10_within_7 : decode cX10_within 7 = .ok (.if_icmp .gt 7, 3) := by decide +kernel
theorem dX10_within_10 : decode cX10_within 10 = .ok (.iconst 1, 1) := by decide +kernel
theorem dX10_within_11 : decode cX10_within 11 = .ok (.goto 4, 3) := by decide +kernel
theorem dX10_within_14 : decode cX10_within 14 = .ok (.iconst 0, 1) := by decide +kernel
theorem dX10_within_15 : decode cX10_within 15 = .ok (.ireturn, 1) := by decide +kernel
theorem dX10_isMember_0 : decode cX10_isMember 0 = .ok (.aload_n 0, 1) := by decide +kernel
theorem dX10_isMember_1 : decode cX10_isMember 1 = .ok (.getfield 10, 3) := by decide +kernel
theorem dX10_isMember_4 : decode cX10_isMember 4 = .ok (.getfield 76, 3) := by decide +kernel
theorem dX10_isMember_7 : decode cX10_isMember 7 = .ok (.iload_n 2, 1) := by decide +kernel
theorem dX10_isMember_8 : decode cX10_isMember 8 = .ok (.invokevirtual 275, 3) := by decide +kernel
theorem dX10_isMember_11 : decode cX10_isMember 11 = .ok (.ifCond .eq 29, 3) := by decide +kernel
theorem dX10_isMember_14 : decode cX10_isMember 14 = .ok (.aload_n 0, 1) := by decide +kernel
theorem dX10_isMember_15 : decode cX10_isMember 15 = .ok (.getfield 10, 3) := by decide +kernel
theorem dX10_isMember_18 : decode cX10_isMember 18 = .ok (.getfield 76, 3) := by decide +kernel
theorem dX10_isMember_21 : decode cX10_isMember 21 = .ok (.iload_n 1, 1) := by decide +kernel
theorem dX10_isMember_22 : decode cX10_isMember 22 = .ok (.invokevirtual 90, 3) := by decide +kernel
theorem dX10_isMember_25 : decode cX10_isMember 25 = .ok (.ifCond .eq 15, 3) := by decide +kernel
theorem dX10_isMember_28 : decode cX10_isMember 28 = .ok (.iload_n 2, 1) := by decide +kernel
theorem dX10_isMember_29 : decode cX10_isMember 29 = .ok (.iload_n 1, 1) := by decide +kernel
theorem dX10_isMember_30 : decode cX10_isMember 30 = .ok (.ishr, 1) := by decide +kernel
theorem dX10_isMember_31 : decode cX10_isMember 31 = .ok (.iconst 1, 1) := by decide +kernel
theorem dX10_isMember_32 : decode cX10_isMember 32 = .ok (.iand, 1) := by decide +kernel
theorem dX10_isMember_33 : decode cX10_isMember 33 = .ok (.ifCond .eq 7, 3) := by decide +kernel
theorem dX10_isMember_36 : decode cX10_isMember 36 = .ok (.iconst 1, 1) := by decide +kernel
theorem dX10_isMember_37 : decode cX10_isMember 37 = .ok (.goto 4, 3) := by decide +kernel
theorem dX10_isMember_40 : decode cX10_isMember 40 = .ok (.iconst 0, 1) := by decide +kernel
theorem dX10_isMember_41 : decode cX10_isMember 41 = .ok (.ireturn, 1) := by decide +kernel
theorem dX10_setThere_0 : decode cX10_setThere 0 = .ok (.iconst 0, 1) := by decide +kernel
theorem dX10_setThere_1 : decode cX10_setThere 1 = .ok (.istore_n 3, 1) := by decide +kernel
theorem dX10_setThere_2 : decode cX10_setThere 2 = .ok (.iconst 0, 1) := by decide +kernel
theorem dX10_setThere_3 : decode cX10_setThere 3 = .ok (.istore 4, 2) := by decide +kernel
theorem dX10_setThere_5 : decode cX10_setThere 5 = .ok (.iload 4, 2) := by decide +kernel
theorem dX10_setThere_7 : decode cX10_setThere 7 = .ok (.iload_n 1, 1) := by decide +kernel
theorem dX10_setThere_8 : decode cX10_setThere 8 = .ok (.if_icmp .ge 24, 3) := by decide +kernel
theorem dX10_setThere_11 : decode cX10_setThere 11 = .ok (.aload_n 0, 1) := by decide +kernel
theorem dX10_setThere_12 : decode cX10_setThere 12 = .ok (.iload 4, 2) := by decide +kernel
theorem dX10_setThere_14 : decode cX10_setThere 14 = .ok (.iaload, 1) := by decide +kernel
theorem dX10_setThere_15 : decode cX10_setThere 15 = .ok (.iload_n 2, 1) := by decide +kernel
theorem dX10_setThere_16 : decode cX10_setThere 16 = .ok (.if_icmp .ne 10, 3) := by decide +kernel
theorem dX10_setThere_19 : decode cX10_setThere 19 = .ok (.iload_n 3, 1) := by decide +kernel
theorem dX10_setThere_20 : decode cX10_setThere 20 = .ok (.iconst 1, 1) := by decide +kernel
theorem dX10_setThere_21 : decode cX10_setThere 21 = .ok (.iload 4, 2) := by decide +kernel
theorem dX10_setThere_23 : decode cX10_setThere 23 = .ok (.ishl, 1) := by decide +kernel
theorem dX10_setThere_24 : decode cX10_setThere 24 = .ok (.ior, 1) := by decide +kernel
theorem dX10_setThere_25 : decode cX10_setThere 25 = .ok (.istore_n 3, 1) := by decide +kernel
theorem dX10_setThere_26 : decode cX10_setThere 26 = .ok (.iinc 4 1, 3) := by decide +kernel
theorem dX10_setThere_29 : decode cX10_setThere 29 = .ok (.goto (-24), 3) := by decide +kernel
theorem dX10_setThere_32 : decode cX10_setThere 32 = .ok (.iload_n 3, 1) := by decide +kernel
theorem dX10_setThere_33 : decode cX10_setThere 33 = .ok (.ireturn, 1) := by decide +kernel
theorem dX10_toldOfRoad_0 : decode cX10_toldOfRoad 0 = .ok (.aload_n 0, 1) := by decide +kernel
theorem dX10_toldOfRoad_1 : decode cX10_toldOfRoad 1 = .ok (.getfield 10, 3) := by decide +kernel
theorem dX10_toldOfRoad_4 : decode cX10_toldOfRoad 4 = .ok (.getfield 76, 3) := by decide +kernel
theorem dX10_toldOfRoad_7 : decode cX10_toldOfRoad 7 = .ok (.iload_n 1, 1) := by decide +kernel
theorem dX10_toldOfRoad_8 : decode cX10_toldOfRoad 8 = .ok (.invokevirtual 109, 3) := by decide +kernel
theorem dX10_toldOfRoad_11 : decode cX10_toldOfRoad 11 = .ok (.ifCond .ne 5, 3) := by decide +kernel
theorem dX10_toldOfRoad_14 : decode cX10_toldOfRoad 14 = .ok (.iconst (-1), 1) := by decide +kernel
theorem dX10_toldOfRoad_15 : decode cX10_toldOfRoad 15 = .ok (.ireturn, 1) := by decide +kernel
theorem dX10_toldOfRoad_16 : decode cX10_toldOfRoad 16 = .ok (.iload_n 2, 1) := by decide +kernel
theorem dX10_toldOfRoad_17 : decode cX10_toldOfRoad 17 = .ok (.ifCond .ne 16, 3) := by decide +kernel
theorem dX10_toldOfRoad_20 : decode cX10_toldOfRoad 20 = .ok (.aload_n 0, 1) := by decide +kernel
theorem dX10_toldOfRoad_21 : decode cX10_toldOfRoad 21 = .ok (.getfield 10, 3) := by decide +kernel
theorem dX10_toldOfRoad_24 : decode cX10_toldOfRoad 24 = .ok (.getfield 76, 3) := by decide +kernel
theorem dX10_toldOfRoad_27 : decode cX10_toldOfRoad 27 = .ok (.getfield 380, 3) := by decide +kernel
theorem dX10_toldOfRoad_30 : decode cX10_toldOfRoad 30 = .ok (.iload_n 1, 1) := by decide +kernel
theorem dX10_toldOfRoad_31 : decode cX10_toldOfRoad 31 = .ok (.iaload, 1) := by decide +kernel
theorem dX10_toldOfRoad_32 : decode cX10_toldOfRoad 32 = .ok (.ireturn, 1) := by decide +kernel
theorem dX10_toldOfRoad_33 : decode cX10_toldOfRoad 33 = .ok (.iload_n 2, 1) := by decide +kernel
theorem dX10_toldOfRoad_34 : decode cX10_toldOfRoad 34 = .ok (.iconst 1, 1) := by decide +kernel
theorem dX10_toldOfRoad_35 : decode cX10_toldOfRoad 35 = .ok (.if_icmp .ne 18, 3) := by decide +kernel
theorem dX10_toldOfRoad_38 : decode cX10_toldOfRoad 38 = .ok (.aload_n 0, 1) := by decide +kernel
theorem dX10_toldOfRoad_39 : decode cX10_toldOfRoad 39 = .ok (.getfield 10, 3) := by decide +kernel
theorem dX10_toldOfRoad_42 : decode cX10_toldOfRoad 42 = .ok (.getfield 76, 3) := by decide +kernel
theorem dX10_toldOfRoad_45 : decode cX10_toldOfRoad 45 = .ok (.getfield 383, 3) := by decide +kernel
theorem dX10_toldOfRoad_48 : decode cX10_toldOfRoad 48 = .ok (.iload_n 1, 1) := by decide +kernel
theorem dX10_toldOfRoad_49 : decode cX10_toldOfRoad 49 = .ok (.iaload, 1) := by decide +kernel
theorem dX10_toldOfRoad_50 : decode cX10_toldOfRoad 50 = .ok (.goto 15, 3) := by decide +kernel
theorem dX10_toldOfRoad_53 : decode cX10_toldOfRoad 53 = .ok (.aload_n 0, 1) := by decide +kernel
theorem dX10_toldOfRoad_54 : decode cX10_toldOfRoad 54 = .ok (.getfield 10, 3) := by decide +kernel
theorem dX10_toldOfRoad_57 : decode cX10_toldOfRoad 57 = .ok (.getfield 76, 3) := by decide +kernel
theorem dX10_toldOfRoad_60 : decode cX10_toldOfRoad 60 = .ok (.getfield 112, 3) := by decide +kernel
theorem dX10_toldOfRoad_63 : decode cX10_toldOfRoad 63 = .ok (.iload_n 1, 1) := by decide +kernel
theorem dX10_toldOfRoad_64 : decode cX10_toldOfRoad 64 = .ok (.iaload, 1) := by decide +kernel
theorem dX10_toldOfRoad_65 : decode cX10_toldOfRoad 65 = .ok (.ireturn, 1) := by decide +kernel
theorem dX10_toldOfCart_0 : decode cX10_toldOfCart 0 = .ok (.aload_n 0, 1) := by decide +kernel
theorem dX10_toldOfCart_1 : decode cX10_toldOfCart 1 = .ok (.getfield 10, 3) := by decide +kernel
theorem dX10_toldOfCart_4 : decode cX10_toldOfCart 4 = .ok (.iload_n 1, 1) := by decide +kernel
theorem dX10_toldOfCart_5 : decode cX10_toldOfCart 5 = .ok (.invokevirtual 210, 3) := by decide +kernel
theorem dX10_toldOfCart_8 : decode cX10_toldOfCart 8 = .ok (.ifCond .ne 5, 3) := by decide +kernel
theorem dX10_toldOfCart_11 : decode cX10_toldOfCart 11 = .ok (.iconst (-1), 1) := by decide +kernel
theorem dX10_toldOfCart_12 : decode cX10_toldOfCart 12 = .ok (.ireturn, 1) := by decide +kernel
theorem dX10_toldOfCart_13 : decode cX10_toldOfCart 13 = .ok (.iload_n 2, 1) := by decide +kernel
theorem dX10_toldOfCart_14 : decode cX10_toldOfCart 14 = .ok (.iconst 3, 1) := by decide +kernel
theorem dX10_toldOfCart_15 : decode cX10_toldOfCart 15 = .ok (.if_icmp .ne 15, 3) := by decide +kernel
theorem dX10_toldOfCart_18 : decode cX10_toldOfCart 18 = .ok (.aload_n 0, 1) := by decide +kernel
theorem dX10_toldOfCart_19 : decode cX10_toldOfCart 19 = .ok (.getfield 10, 3) := by decide +kernel
theorem dX10_toldOfCart_22 : decode cX10_toldOfCart 22 = .ok (.getfield 386, 3) := by decide +kernel
theorem dX10_toldOfCart_25 : decode cX10_toldOfCart 25 = .ok (.iload_n 1, 1) := by decide +kernel
theorem dX10_toldOfCart_26 : decode cX10_toldOfCart 26 = .ok (.iaload, 1) := by decide +kernel
theorem dX10_toldOfCart_27 : decode cX10_toldOfCart 27 = .ok (.goto 12, 3) := by decide +kernel
theorem dX10_toldOfCart_30 : decode cX10_toldOfCart 30 = .ok (.aload_n 0, 1) := by decide +kernel
theorem dX10_toldOfCart_31 : decode cX10_toldOfCart 31 = .ok (.getfield 10, 3) := by decide +kernel
theorem dX10_toldOfCart_34 : decode cX10_toldOfCart 34 = .ok (.getfield 389, 3) := by decide +kernel
theorem dX10_toldOfCart_37 : decode cX10_toldOfCart 37 = .ok (.iload_n 1, 1) := by decide +kernel
theorem dX10_toldOfCart_38 : decode cX10_toldOfCart 38 = .ok (.iaload, 1) := by decide +kernel
theorem dX10_toldOfCart_39 : decode cX10_toldOfCart 39 = .ok (.ireturn, 1) := by decide +kernel
theorem dX10_toldOfGood_0 : decode cX10_toldOfGood 0 = .ok (.aload_n 0, 1) := by decide +kernel
theorem dX10_toldOfGood_1 : decode cX10_toldOfGood 1 = .ok (.getfield 10, 3) := by decide +kernel
theorem dX10_toldOfGood_4 : decode cX10_toldOfGood 4 = .ok (.iload_n 1, 1) := by decide +kernel
theorem dX10_toldOfGood_5 : decode cX10_toldOfGood 5 = .ok (.invokevirtual 128, 3) := by decide +kernel
theorem dX10_toldOfGood_8 : decode cX10_toldOfGood 8 = .ok (.ifCond .ne 5, 3) := by decide +kernel
theorem dX10_toldOfGood_11 : decode cX10_toldOfGood 11 = .ok (.iconst (-1), 1) := by decide +kernel
theorem dX10_toldOfGood_12 : decode cX10_toldOfGood 12 = .ok (.ireturn, 1) := by decide +kernel
theorem dX10_toldOfGood_13 : decode cX10_toldOfGood 13 = .ok (.iload_n 2, 1) := by decide +kernel
theorem dX10_toldOfGood_14 : decode cX10_toldOfGood 14 = .ok (.tableswitch 56 5 7 #[26, 36, 46], 26) := by decide +kernel
theorem dX10_toldOfGood_40 : decode cX10_toldOfGood 40 = .ok (.aload_n 0, 1) := by decide +kernel
theorem dX10_toldOfGood_41 : decode cX10_toldOfGood 41 = .ok (.getfield 10, 3) := by decide +kernel
theorem dX10_toldOfGood_44 : decode cX10_toldOfGood 44 = .ok (.getfield 233, 3) := by decide +kernel
theorem dX10_toldOfGood_47 : decode cX10_toldOfGood 47 = .ok (.iload_n 1, 1) := by decide +kernel
theorem dX10_toldOfGood_48 : decode cX10_toldOfGood 48 = .ok (.iaload, 1) := by decide +kernel
theorem dX10_toldOfGood_49 : decode cX10_toldOfGood 49 = .ok (.ireturn, 1) := by decide +kernel
theorem dX10_toldOfGood_50 : decode cX10_toldOfGood 50 = .ok (.aload_n 0, 1) := by decide +kernel
theorem dX10_toldOfGood_51 : decode cX10_toldOfGood 51 = .ok (.getfield 10, 3) := by decide +kernel
theorem dX10_toldOfGood_54 : decode cX10_toldOfGood 54 = .ok (.getfield 244, 3) := by decide +kernel
theorem dX10_toldOfGood_57 : decode cX10_toldOfGood 57 = .ok (.iload_n 1, 1) := by decide +kernel
theorem dX10_toldOfGood_58 : decode cX10_toldOfGood 58 = .ok (.iaload, 1) := by decide +kernel
theorem dX10_toldOfGood_59 : decode cX10_toldOfGood 59 = .ok (.ireturn, 1) := by decide +kernel
theorem dX10_toldOfGood_60 : decode cX10_toldOfGood 60 = .ok (.aload_n 0, 1) := by decide +kernel
theorem dX10_toldOfGood_61 : decode cX10_toldOfGood 61 = .ok (.getfield 10, 3) := by decide +kernel
theorem dX10_toldOfGood_64 : decode cX10_toldOfGood 64 = .ok (.getfield 149, 3) := by decide +kernel
theorem dX10_toldOfGood_67 : decode cX10_toldOfGood 67 = .ok (.iload_n 1, 1) := by decide +kernel
theorem dX10_toldOfGood_68 : decode cX10_toldOfGood 68 = .ok (.iaload, 1) := by decide +kernel
theorem dX10_toldOfGood_69 : decode cX10_toldOfGood 69 = .ok (.ireturn, 1) := by decide +kernel
theorem dX10_toldOfGood_70 : decode cX10_toldOfGood 70 = .ok (.aload_n 0, 1) := by decide +kernel
theorem dX10_toldOfGood_71 : decode cX10_toldOfGood 71 = .ok (.getfield 10, 3) := by decide +kernel
theorem dX10_toldOfGood_74 : decode cX10_toldOfGood 74 = .ok (.getfield 134, 3) := by decide +kernel
theorem dX10_toldOfGood_77 : decode cX10_toldOfGood 77 = .ok (.iload_n 1, 1) := by decide +kernel
theorem dX10_toldOfGood_78 : decode cX10_toldOfGood 78 = .ok (.iaload, 1) := by decide +kernel
theorem dX10_toldOfGood_79 : decode cX10_toldOfGood 79 = .ok (.ireturn, 1) := by decide +kernel
theorem dX10_toldOfPerson_0 : decode cX10_toldOfPerson 0 = .ok (.iload_n 1, 1) := by decide +kernel
theorem dX10_toldOfPerson_1 : decode cX10_toldOfPerson 1 = .ok (.ifCond .lt 14, 3) := by decide +kernel
theorem dX10_toldOfPerson_4 : decode cX10_toldOfPerson 4 = .ok (.iload_n 1, 1) := by decide +kernel
theorem dX10_toldOfPerson_5 : decode cX10_toldOfPerson 5 = .ok (.aload_n 0, 1) := by decide +kernel
theorem dX10_toldOfPerson_6 : decode cX10_toldOfPerson 6 = .ok (.getfield 10, 3) := by decide +kernel
theorem dX10_toldOfPerson_9 : decode cX10_toldOfPerson 9 = .ok (.getfield 137, 3) := by decide +kernel
theorem dX10_toldOfPerson_12 : decode cX10_toldOfPerson 12 = .ok (.if_icmp .lt 5, 3) := by decide +kernel
theorem dX10_toldOfPerson_15 : decode cX10_toldOfPerson 15 = .ok (.iconst (-1), 1) := by decide +kernel
theorem dX10_toldOfPerson_16 : decode cX10_toldOfPerson 16 = .ok (.ireturn, 1) := by decide +kernel
theorem dX10_toldOfPerson_17 : decode cX10_toldOfPerson 17 = .ok (.iload_n 2, 1) := by decide +kernel
theorem dX10_toldOfPerson_18 : decode cX10_toldOfPerson 18 = .ok (.bipush 9, 2) := by decide +kernel
theorem dX10_toldOfPerson_20 : decode cX10_toldOfPerson 20 = .ok (.if_icmp .ne 15, 3) := by decide +kernel
theorem dX10_toldOfPerson_23 : decode cX10_toldOfPerson 23 = .ok (.aload_n 0, 1) := by decide +kernel
theorem dX10_toldOfPerson_24 : decode cX10_toldOfPerson 24 = .ok (.getfield 10, 3) := by decide +kernel
theorem dX10_toldOfPerson_27 : decode cX10_toldOfPerson 27 = .ok (.getfield 390, 3) := by decide +kernel
theorem dX10_toldOfPerson_30 : decode cX10_toldOfPerson 30 = .ok (.iload_n 1, 1) := by decide +kernel
theorem dX10_toldOfPerson_31 : decode cX10_toldOfPerson 31 = .ok (.iaload, 1) := by decide +kernel
theorem dX10_toldOfPerson_32 : decode cX10_toldOfPerson 32 = .ok (.goto 12, 3) := by decide +kernel
theorem dX10_toldOfPerson_35 : decode cX10_toldOfPerson 35 = .ok (.aload_n 0, 1) := by decide +kernel
theorem dX10_toldOfPerson_36 : decode cX10_toldOfPerson 36 = .ok (.getfield 10, 3) := by decide +kernel
theorem dX10_toldOfPerson_39 : decode cX10_toldOfPerson 39 = .ok (.getfield 156, 3) := by decide +kernel
theorem dX10_toldOfPerson_42 : decode cX10_toldOfPerson 42 = .ok (.iload_n 1, 1) := by decide +kernel
theorem dX10_toldOfPerson_43 : decode cX10_toldOfPerson 43 = .ok (.iaload, 1) := by decide +kernel
theorem dX10_toldOfPerson_44 : decode cX10_toldOfPerson 44 = .ok (.ireturn, 1) := by decide +kernel
