theorem dX0_areStones_0 : decode cX0_areStones 0 = .ok (.iload_n 1, 1) := by decide +kernel
theorem dX0_areStones_1 : decode cX0_areStones 1 = .ok (.istore_n 3, 1) := by decide +kernel
theorem dX0_areStones_2 : decode cX0_areStones 2 = .ok (.iload_n 3, 1) := by decide +kernel
theorem dX0_areStones_3 : decode cX0_areStones 3 = .ok (.iload_n 1, 1) := by decide +kernel
theorem dX0_areStones_4 : decode cX0_areStones 4 = .ok (.iconst 2, 1) := by decide +kernel
theorem dX0_areStones_5 : decode cX0_areStones 5 = .ok (.iload_n 2, 1) := by decide +kernel
theorem dX0_areStones_6 : decode cX0_areStones 6 = .ok (.imul, 1) := by decide +kernel
theorem dX0_areStones_7 : decode cX0_areStones 7 = .ok (.iadd, 1) := by decide +kernel
theorem dX0_areStones_8 : decode cX0_areStones 8 = .ok (.if_icmp .ge 61, 3) := by decide +kernel
theorem dX0_areStones_11 : decode cX0_areStones 11 = .ok (.aload_n 0, 1) := by decide +kernel
theorem dX0_areStones_12 : decode cX0_areStones 12 = .ok (.iload_n 3, 1) := by decide +kernel
theorem dX0_areStones_13 : decode cX0_areStones 13 = .ok (.iconst 1, 1) := by decide +kernel
theorem dX0_areStones_14 : decode cX0_areStones 14 = .ok (.iadd, 1) := by decide +kernel
theorem dX0_areStones_15 : decode cX0_areStones 15 = .ok (.laload, 1) := by decide +kernel
theorem dX0_areStones_16 : decode cX0_areStones 16 = .ok (.lstore 4, 2) := by decide +kernel
theorem dX0_areStones_18 : decode cX0_areStones 18 = .ok (.aload_n 0, 1) := by decide +kernel
theorem dX0_areStones_19 : decode cX0_areStones 19 = .ok (.iload_n 3, 1) := by decide +kernel
theorem dX0_areStones_20 : decode cX0_areStones 20 = .ok (.laload, 1) := by decide +kernel
theorem dX0_areStones_21 : decode cX0_areStones 21 = .ok (.lconst 1, 1) := by decide +kernel
theorem dX0_areStones_22 : decode cX0_areStones 22 = .ok (.lcmp, 1) := by decide +kernel
theorem dX0_areStones_23 : decode cX0_areStones 23 = .ok (.ifCond .lt 38, 3) := by decide +kernel
theorem dX0_areStones_26 : decode cX0_areStones 26 = .ok (.aload_n 0, 1) := by decide +kernel
theorem dX0_areStones_27 : decode cX0_areStones 27 = .ok (.iload_n 3, 1) := by decide +kernel
theorem dX0_areStones_28 : decode cX0_areStones 28 = .ok (.laload, 1) := by decide +kernel
theorem dX0_areStones_29 : decode cX0_areStones 29 = .ok (.ldc2_w 9, 3) := by decide +kernel
theorem dX0_areStones_32 : decode cX0_areStones 32 = .ok (.lcmp, 1) := by decide +kernel
theorem dX0_areStones_33 : decode cX0_areStones 33 = .ok (.ifCond .gt 28, 3) := by decide +kernel
theorem dX0_areStones_36 : decode cX0_areStones 36 = .ok (.lload 4, 2) := by decide +kernel
theorem dX0_areStones_38 : decode cX0_areStones 38 = .ok (.ldc2_w 13, 3) := by decide +kernel
theorem dX0_areStones_41 : decode cX0_areStones 41 = .ok (.lcmp, 1) := by decide +kernel
theorem dX0_areStones_42 : decode cX0_areStones 42 = .ok (.ifCond .lt 19, 3) := by decide +kernel
theorem dX0_areStones_45 : decode cX0_areStones 45 = .ok (.lload 4, 2) := by decide +kernel
theorem dX0_areStones_47 : decode cX0_areStones 47 = .ok (.ldc2_w 15, 3) := by decide +kernel
theorem dX0_areStones_50 : decode cX0_areStones 50 = .ok (.lcmp, 1) := by decide +kernel
theorem dX0_areStones_51 : decode cX0_areStones 51 = .ok (.ifCond .gt 10, 3) := by decide +kernel
theorem dX0_areStones_54 : decode cX0_areStones 54 = .ok (.lload 4, 2) := by decide +kernel
theorem dX0_areStones_56 : decode cX0_areStones 56 = .ok (.lconst 0, 1) := by decide +kernel
theorem dX0_areStones_57 : decode cX0_areStones 57 = .ok (.lcmp, 1) := by decide +kernel
theorem dX0_areStones_58 : decode cX0_areStones 58 = .ok (.ifCond .ne 5, 3) := by decide +kernel
theorem dX0_areStones_61 : decode cX0_areStones 61 = .ok (.iconst 0, 1) := by decide +kernel
theorem dX0_areStones_62 : decode cX0_areStones 62 = .ok (.ireturn, 1) := by decide +kernel
theorem dX0_areStones_63 : decode cX0_areStones 63 = .ok (.iinc 3 2, 3) := by decide +kernel
theorem dX0_areStones_66 : decode cX0_areStones 66 = .ok (.goto (-64), 3) := by decide +kernel
theorem dX0_areStones_69 : decode cX0_areStones 69 = .ok (.iconst 1, 1) := by decide +kernel
theorem dX0_areStones_70 : decode cX0_areStones 70 = .ok (.ireturn, 1) := by decide +kernel
theorem dX0_turning_0 : decode cX0_turning 0 = .ok (.iconst 0, 1) := by decide +kernel
theorem dX0_turning_1 : decode cX0_turning 1 = .ok (.istore 6, 2) := by decide +kernel
theorem dX0_turning_3 : decode cX0_turning 3 = .ok (.iload 4, 2) := by decide +kernel
theorem dX0_turning_5 : decode cX0_turning 5 = .ok (.istore 7, 2) := by decide +kernel
theorem dX0_turning_7 : decode cX0_turning 7 = .ok (.iload 7, 2) := by decide +kernel
theorem dX0_turning_9 : decode cX0_turning 9 = .ok (.iload 4, 2) := by decide +kernel
theorem dX0_turning_11 : decode cX0_turning 11 = .ok (.iconst 2, 1) := by decide +kernel
theorem dX0_turning_12 : decode cX0_turning 12 = .ok (.iload 5, 2) := by decide +kernel
theorem dX0_turning_14 : decode cX0_turning 14 = .ok (.imul, 1) := by decide +kernel
theorem dX0_turning_15 : decode cX0_turning 15 = .ok (.iadd, 1) := by decide +kernel
theorem dX0_turning_16 : decode cX0_turning 16 = .ok (.if_icmp .ge 45, 3) := by decide +kernel
theorem dX0_turning_19 : decode cX0_turning 19 = .ok (.aload_n 3, 1) := by decide +kernel
theorem dX0_turning_20 : decode cX0_turning 20 = .ok (.iload 7, 2) := by decide +kernel
theorem dX0_turning_22 : decode cX0_turning 22 = .ok (.iconst 1, 1) := by decide +kernel
theorem dX0_turning_23 : decode cX0_turning 23 = .ok (.iadd, 1) := by decide +kernel
theorem dX0_turning_24 : decode cX0_turning 24 = .ok (.laload, 1) := by decide +kernel
theorem dX0_turning_25 : decode cX0_turning 25 = .ok (.l2i, 1) := by decide +kernel
theorem dX0_turning_26 : decode cX0_turning 26 = .ok (.istore 8, 2) := by decide +kernel
theorem dX0_turning_28 : decode cX0_turning 28 = .ok (.iload 6, 2) := by decide +kernel
theorem dX0_turning_30 : decode cX0_turning 30 = .ok (.aload_n 0, 1) := by decide +kernel
theorem dX0_turning_31 : decode cX0_turning 31 = .ok (.iload 8, 2) := by decide +kernel
theorem dX0_turning_33 : decode cX0_turning 33 = .ok (.ifCond .ge 7, 3) := by decide +kernel
theorem dX0_turning_36 : decode cX0_turning 36 = .ok (.iload_n 1, 1) := by decide +kernel
theorem dX0_turning_37 : decode cX0_turning 37 = .ok (.goto 4, 3) := by decide +kernel
theorem dX0_turning_40 : decode cX0_turning 40 = .ok (.iload_n 2, 1) := by decide +kernel
theorem dX0_turning_41 : decode cX0_turning 41 = .ok (.aload_n 3, 1) := by decide +kernel
theorem dX0_turning_42 : decode cX0_turning 42 = .ok (.iload 7, 2) := by decide +kernel
theorem dX0_turning_44 : decode cX0_turning 44 = .ok (.laload, 1) := by decide +kernel
theorem dX0_turning_45 : decode cX0_turning 45 = .ok (.l2i, 1) := by decide +kernel
theorem dX0_turning_46 : decode cX0_turning 46 = .ok (.invokevirtual 17, 3) := by decide +kernel
theorem dX0_turning_49 : decode cX0_turning 49 = .ok (.iload 8, 2) := by decide +kernel
theorem dX0_turning_51 : decode cX0_turning 51 = .ok (.imul, 1) := by decide +kernel
theorem dX0_turning_52 : decode cX0_turning 52 = .ok (.iadd, 1) := by decide +kernel
theorem dX0_turning_53 : decode cX0_turning 53 = .ok (.istore 6, 2) := by decide +kernel
theorem dX0_turning_55 : decode cX0_turning 55 = .ok (.iinc 7 2, 3) := by decide +kernel
theorem dX0_turning_58 : decode cX0_turning 58 = .ok (.goto (-51), 3) := by decide +kernel
theorem dX0_turning_61 : decode cX0_turning 61 = .ok (.iload 6, 2) := by decide +kernel
theorem dX0_turning_63 : decode cX0_turning 63 = .ok (.ireturn, 1) := by decide +kernel
theorem dX0_fewest_0 : decode cX0_fewest 0 = .ok (.bipush 31, 2) := by decide +kernel
theorem dX0_fewest_2 : decode cX0_fewest 2 = .ok (.istore_n 3, 1) := by decide +kernel
theorem dX0_fewest_3 : decode cX0_fewest 3 = .ok (.iconst 0, 1) := by decide +kernel
theorem dX0_fewest_4 : decode cX0_fewest 4 = .ok (.istore 4, 2) := by decide +kernel
theorem dX0_fewest_6 : decode cX0_fewest 6 = .ok (.iload 4, 2) := by decide +kernel
theorem dX0_fewest_8 : decode cX0_fewest 8 = .ok (.sipush 180, 3) := by decide +kernel
theorem dX0_fewest_11 : decode cX0_fewest 11 = .ok (.if_icmp .gt 70, 3) := by decide +kernel
theorem dX0_fewest_14 : decode cX0_fewest 14 = .ok (.iload 4, 2) := by decide +kernel
theorem dX0_fewest_16 : decode cX0_fewest 16 = .ok (.invokestatic 23, 3) := by decide +kernel
theorem dX0_fewest_19 : decode cX0_fewest 19 = .ok (.iload_n 3, 1) := by decide +kernel
theorem dX0_fewest_20 : decode cX0_fewest 20 = .ok (.if_icmp .ge 61, 3) := by decide +kernel
theorem dX0_fewest_23 : decode cX0_fewest 23 = .ok (.iload_n 0, 1) := by decide +kernel
theorem dX0_fewest_24 : decode cX0_fewest 24 = .ok (.iload_n 2, 1) := by decide +kernel
theorem dX0_fewest_25 : decode cX0_fewest 25 = .ok (.iload 4, 2) := by decide +kernel
theorem dX0_fewest_27 : decode cX0_fewest 27 = .ok (.imul, 1) := by decide +kernel
theorem dX0_fewest_28 : decode cX0_fewest 28 = .ok (.iadd, 1) := by decide +kernel
theorem dX0_fewest_29 : decode cX0_fewest 29 = .ok (.istore 5, 2) := by decide +kernel
theorem dX0_fewest_31 : decode cX0_fewest 31 = .ok (.iload_n 1, 1) := by decide +kernel
theorem dX0_fewest_32 : decode cX0_fewest 32 = .ok (.ifCond .le 10, 3) := by decide +kernel
theorem dX0_fewest_35 : decode cX0_fewest 35 = .ok (.iload 5, 2) := by decide +kernel
theorem dX0_fewest_37 : decode cX0_fewest 37 = .ok (.iload_n 1, 1) := by decide +kernel
theorem dX0_fewest_38 : decode cX0_fewest 38 = .ok (.idiv, 1) := by decide +kernel
theorem dX0_fewest_39 : decode cX0_fewest 39 = .ok (.goto 4, 3) := by decide +kernel
theorem dX0_fewest_42 : decode cX0_fewest 42 = .ok (.iconst 0, 1) := by decide +kernel
theorem dX0_fewest_43 : decode cX0_fewest 43 = .ok (.istore 6, 2) := by decide +kernel
theorem dX0_fewest_45 : decode cX0_fewest 45 = .ok (.iload 5, 2) := by decide +kernel
theorem dX0_fewest_47 : decode cX0_fewest 47 = .ok (.ifCond .lt 28, 3) := by decide +kernel
theorem dX0_fewest_50 : decode cX0_fewest 50 = .ok (.iload 6, 2) := by decide +kernel
theorem dX0_fewest_52 : decode cX0_fewest 52 = .ok (.iload_n 1, 1) := by decide +kernel
theorem dX0_fewest_53 : decode cX0_fewest 53 = .ok (.imul, 1) := by decide +kernel
theorem dX0_fewest_54 : decode cX0_fewest 54 = .ok (.iload 5, 2) := by decide +kernel
theorem dX0_fewest_56 : decode cX0_fewest 56 = .ok (.if_icmp .ne 19, 3) := by decide +kernel
theorem dX0_fewest_59 : decode cX0_fewest 59 = .ok (.iload_n 3, 1) := by decide +kernel
theorem dX0_fewest_60 : decode cX0_fewest 60 = .ok (.iload 4, 2) := by decide +kernel
theorem dX0_fewest_62 : decode cX0_fewest 62 = .ok (.invokestatic 23, 3) := by decide +kernel
theorem dX0_fewest_65 : decode cX0_fewest 65 = .ok (.iload 6, 2) := by decide +kernel
theorem dX0_fewest_67 : decode cX0_fewest 67 = .ok (.invokestatic 23, 3) := by decide +kernel
theorem dX0_fewest_70 : decode cX0_fewest 70 = .ok (.iadd, 1) := by decide +kernel
theorem dX0_fewest_71 : decode cX0_fewest 71 = .ok (.invokestatic 27, 3) := by decide +kernel
theorem dX0_fewest_74 : decode cX0_fewest 74 = .ok (.istore_n 3, 1) := by decide +kernel
theorem dX0_fewest_75 : decode cX0_fewest 75 = .ok (.iinc 4 1, 3) := by decide +kernel
theorem dX0_fewest_78 : decode cX0_fewest 78 = .ok (.goto (-72), 3) := by decide +kernel
theorem dX0_fewest_81 : decode cX0_fewest 81 = .ok (.iload_n 3, 1) := by decide +kernel
theorem dX0_fewest_82 : decode cX0_fewest 82 = .ok (.ireturn, 1) := by decide +kernel
theorem dX0_stonesFor_0 : decode cX0_stonesFor 0 = .ok (.iload_n 0, 1) := by decide +kernel
theorem dX0_stonesFor_1 : decode cX0_stonesFor 1 = .ok (.bipush 6, 2) := by decide +kernel
theorem dX0_stonesFor_3 : decode cX0_stonesFor 3 = .ok (.iadd, 1) := by decide +kernel
theorem dX0_stonesFor_4 : decode cX0_stonesFor 4 = .ok (.iconst 1, 1) := by decide +kernel
theorem dX0_stonesFor_5 : decode cX0_stonesFor 5 = .ok (.isub, 1) := by decide +kernel
theorem dX0_stonesFor_6 : decode cX0_stonesFor 6 = .ok (.bipush 6, 2) := by decide +kernel
theorem dX0_stonesFor_8 : decode cX0_stonesFor 8 = .ok (.idiv, 1) := by decide +kernel
theorem dX0_stonesFor_9 : decode cX0_stonesFor 9 = .ok (.ireturn, 1) := by decide +kernel
theorem dX1_init_0 : decode cX1_init 0 = .ok (.aload_n 0, 1) := by decide +kernel
theorem dX1_init_1 : decode cX1_init 1 = .ok (.invokespecial 3, 3) := by decide +kernel
theorem dX1_init_4 : decode cX1_init 4 = .ok (.aload_n 0, 1) := by decide +kernel
theorem dX1_init_5 : decode cX1_init 5 = .ok (.iconst 4, 1) := by decide +kernel
theorem dX1_init_6 : decode cX1_init 6 = .ok (.newarray .int, 2) := by decide +kernel
theorem dX1_init_8 : decode cX1_init 8 = .ok (.putfield 9, 3) := by decide +kernel
theorem dX1_init_11 : decode cX1_init 11 = .ok (.return_, 1) := by decide +kernel
theorem dX1_open_0 : decode cX1_open 0 = .ok (.aload_n 0, 1) := by decide +kernel
theorem dX1_open_1 : decode cX1_open 1 = .ok (.iload_n 1, 1) := by decide +kernel
theorem dX1_open_2 : decode cX1_open 2 = .ok (.putfield 15, 3) := by decide +kernel
theorem dX1_open_5 : decode cX1_open 5 = .ok (.aload_n 0, 1) := by decide +kernel
theorem dX1_open_6 : decode cX1_open 6 = .ok (.iload_n 2, 1) := by decide +kernel
theorem dX1_open_7 : decode cX1_open 7 = .ok (.putfield 19, 3) := by decide +kernel
theorem dX1_open_10 : decode cX1_open 10 = .ok (.aload_n 0, 1) := by decide +kernel
theorem dX1_open_11 : decode cX1_open 11 = .ok (.iload_n 3, 1) := by decide +kernel
theorem dX1_open_12 : decode cX1_open 12 = .ok (.putfield 22, 3) := by decide +kernel
theorem dX1_open_15 : decode cX1_open 15 = .ok (.aload_n 0, 1) := by decide +kernel
theorem dX1_open_16 : decode cX1_open 16 = .ok (.getfield 9, 3) := by decide +kernel
theorem dX1_open_19 : decode cX1_open 19 = .ok (.sipush 1022, 3) := by decide +kernel
theorem dX1_open_22 : decode cX1_open 22 = .ok (.invokestatic 25, 3) := by decide +kernel
theorem dX1_open_25 : decode cX1_open 25 = .ok (.return_, 1) := by decide +kernel
theorem dX1_readItems_0 : decode cX1_readItems 0 = .ok (.iconst 0, 1) := by decide +kernel
theorem dX1_readItems_1 : decode cX1_readItems 1 = .ok (.istore 4, 2) := by decide +kernel
theorem dX1_readItems_3 : decode cX1_readItems 3 = .ok (.iload 4, 2) := by decide +kernel
theorem dX1_readItems_5 : decode cX1_readItems 5 = .ok (.iload_n 3, 1) := by decide +kernel
theorem dX1_readItems_6 : decode cX1_readItems 6 = .ok (.if_icmp .ge 65, 3) := by decide +kernel
theorem dX1_readItems_9 : decode cX1_readItems 9 = .ok (.aload_n 1, 1) := by decide +kernel
theorem dX1_readItems_10 : decode cX1_readItems 10 = .ok (.iload_n 2, 1) := by decide +kernel
theorem dX1_readItems_11 : decode cX1_readItems 11 = .ok (.iload 4, 2) := by decide +kernel
theorem dX1_readItems_13 : decode cX1_readItems 13 = .ok (.iadd, 1) := by decide +kernel
theorem dX1_readItems_14 : decode cX1_readItems 14 = .ok (.laload, 1) := by decide +kernel
theorem dX1_readItems_15 : decode cX1_readItems 15 = .ok (.lconst 0, 1) := by decide +kernel
theorem dX1_readItems_16 : decode cX1_readItems 16 = .ok (.lcmp, 1) := by decide +kernel
theorem dX1_readItems_17 : decode cX1_readItems 17 = .ok (.ifCond .lt 48, 3) := by decide +kernel
theorem dX1_readItems_20 : decode cX1_readItems 20 = .ok (.aload_n 0, 1) := by decide +kernel
theorem dX1_readItems_21 : decode cX1_readItems 21 = .ok (.getfield 22, 3) := by decide +kernel
theorem dX1_readItems_24 : decode cX1_readItems 24 = .ok (.iload 4, 2) := by decide +kernel
theorem dX1_readItems_26 : decode cX1_readItems 26 = .ok (.iadd, 1) := by decide +kernel
theorem dX1_readItems_27 : decode cX1_readItems 27 = .ok (.invokestatic 31, 3) := by decide +kernel
theorem dX1_readItems_30 : decode cX1_readItems 30 = .ok (.istore 5, 2) := by decide +kernel
theorem dX1_readItems_32 : decode cX1_readItems 32 = .ok (.aload_n 0, 1) := by decide +kernel
theorem dX1_readItems_33 : decode cX1_readItems 33 = .ok (.getfield 9, 3) := by decide +kernel
theorem dX1_readItems_36 : decode cX1_readItems 36 = .ok (.iload 5, 2) := by decide +kernel
theorem dX1_readItems_38 : decode cX1_readItems 38 = .ok (.dup2, 1) := by decide +kernel
theorem dX1_readItems_39 : decode cX1_readItems 39 = .ok (.iaload, 1) := by decide +kernel
theorem dX1_readItems_40 : decode cX1_readItems 40 = .ok (.aload_n 0, 1) := by decide +kernel
theorem dX1_readItems_41 : decode cX1_readItems 41 = .ok (.aload_n 1, 1) := by decide +kernel
theorem dX1_readItems_42 : decode cX1_readItems 42 = .ok (.iload_n 2, 1) := by decide +kernel
theorem dX1_readItems_43 : decode cX1_readItems 43 = .ok (.iload 4, 2) := by decide +kernel
theorem dX1_readItems_45 : decode cX1_readItems 45 = .ok (.iadd, 1) := by decide +kernel
theorem dX1_readItems_46 : decode cX1_readItems 46 = .ok (.laload, 1) := by decide +kernel
theorem dX1_readItems_47 : decode cX1_readItems 47 = .ok (.invokevirtual 37, 3) := by decide +kernel
theorem dX1_readItems_50 : decode cX1_readItems 50 = .ok (.iand, 1) := by decide +kernel
theorem dX1_readItems_51 : decode cX1_readItems 51 = .ok (.iastore, 1) := by decide +kernel
theorem dX1_readItems_52 : decode cX1_readItems 52 = .ok (.aload_n 0, 1) := by decide +kernel
theorem dX1_readItems_53 : decode cX1_readItems 53 = .ok (.getfield 9, 3) := by decide +kernel
theorem dX1_readItems_56 : decode cX1_readItems 56 = .ok (.iload 5, 2) := by decide +kernel
theorem dX1_readItems_58 : decode cX1_readItems 58 = .ok (.iaload, 1) := by decide +kernel
theorem dX1_readItems_59 : decode cX1_readItems 59 = .ok (.ifCond .ne 6, 3) := by decide +kernel
theorem dX1_readItems_62 : decode cX1_readItems 62 = .ok (.iload 4, 2) := by decide +kernel
theorem dX1_readItems_64 : decode cX1_readItems 64 = .ok (.ireturn, 1) := by decide +kernel
theorem dX1_readItems_65 : decode cX1_readItems 65 = .ok (.iinc 4 1, 3) := by decide +kernel
theorem dX1_readItems_68 : decode cX1_readItems 68 = .ok (.goto (-65), 3) := by decide +kernel
theorem dX1_readItems_71 : decode cX1_readItems 71 = .ok (.iconst (-1), 1) := by decide +kernel
theorem dX1_readItems_72 : decode cX1_readItems 72 = .ok (.ireturn, 1) := by decide +kernel
theorem dX1_fittingRows_0 : decode cX1_fittingRows 0 = .ok (.iconst 1, 1) := by decide +kernel
theorem dX1_fittingRows_1 : decode cX1_fittingRows 1 = .ok (.istore_n 1, 1) := by decide +kernel
theorem dX1_fittingRows_2 : decode cX1_fittingRows 2 = .ok (.iconst 0, 1) := by decide +kernel
theorem dX1_fittingRows_3 : decode cX1_fittingRows 3 = .ok (.istore_n 2, 1) := by decide +kernel
theorem dX1_fittingRows_4 : decode cX1_fittingRows 4 = .ok (.iload_n 2, 1) := by decide +kernel
theorem dX1_fittingRows_5 : decode cX1_fittingRows 5 = .ok (.iconst 4, 1) := by decide +kernel
theorem dX1_fittingRows_6 : decode cX1_fittingRows 6 = .ok (.if_icmp .ge 21, 3) := by decide +kernel
theorem dX1_fittingRows_9 : decode cX1_fittingRows 9 = .ok (.iload_n 1, 1) := by decide +kernel
theorem dX1_fittingRows_10 : decode cX1_fittingRows 10 = .ok (.aload_n 0, 1) := by decide +kernel
theorem dX1_fittingRows_11 : decode cX1_fittingRows 11 = .ok (.getfield 9, 3) := by decide +kernel
theorem dX1_fittingRows_14 : decode cX1_fittingRows 14 = .ok (.iload_n 2, 1) := by decide +kernel
theorem dX1_fittingRows_15 : decode cX1_fittingRows 15 = .ok (.iaload, 1) := by decide +kernel
theorem dX1_fittingRows_16 : decode cX1_fittingRows 16 = .ok (.invokestatic 41, 3) := by decide +kernel
theorem dX1_fittingRows_19 : decode cX1_fittingRows 19 = .ok (.imul, 1) := by decide +kernel
theorem dX1_fittingRows_20 : decode cX1_fittingRows 20 = .ok (.istore_n 1, 1) := by decide +kernel
theorem dX1_fittingRows_21 : decode cX1_fittingRows 21 = .ok (.iinc 2 1, 3) := by decide +kernel
theorem dX1_fittingRows_24 : decode cX1_fittingRows 24 = .ok (.goto (-20), 3) := by decide +kernel
theorem dX1_fittingRows_27 : decode cX1_fittingRows 27 = .ok (.iload_n 1, 1) := by decide +kernel
theorem dX1_fittingRows_28 : decode cX1_fittingRows 28 = .ok (.ireturn, 1) := by decide +kernel
theorem dX1_sureSeasons_0 : decode cX1_sureSeasons 0 = .ok (.iconst 0, 1) := by decide +kernel
theorem dX1_sureSeasons_1 : decode cX1_sureSeasons 1 = .ok (.istore_n 1, 1) := by decide +kernel
theorem dX1_sureSeasons_2 : decode cX1_sureSeasons 2 = .ok (.iconst 0, 1) := by decide +kernel
theorem dX1_sureSeasons_3 : decode cX1_sureSeasons 3 = .ok (.istore_n 2, 1) := by decide +kernel
theorem dX1_sureSeasons_4 : decode cX1_sureSeasons 4 = .ok (.iload_n 2, 1) := by decide +kernel
theorem dX1_sureSeasons_5 : decode cX1_sureSeasons 5 = .ok (.iconst 4, 1) := by decide +kernel
theorem dX1_sureSeasons_6 : decode cX1_sureSeasons 6 = .ok (.if_icmp .ge 28, 3) := by decide +kernel
theorem dX1_sureSeasons_9 : decode cX1_sureSeasons 9 = .ok (.aload_n 0, 1) := by decide +kernel
theorem dX1_sureSeasons_10 : decode cX1_sureSeasons 10 = .ok (.getfield 9, 3) := by decide +kernel
theorem dX1_sureSeasons_13 : decode cX1_sureSeasons 13 = .ok (.iload_n 2, 1) := by decide +kernel
theorem dX1_sureSeasons_14 : decode cX1_sureSeasons 14 = .ok (.iaload, 1) := by decide +kernel
theorem dX1_sureSeasons_15 : decode cX1_sureSeasons 15 = .ok (.invokestatic 41, 3) := by decide +kernel
theorem dX1_sureSeasons_18 : decode cX1_sureSeasons 18 = .ok (.iconst 1, 1) := by decide +kernel
theorem dX1_sureSeasons_19 : decode cX1_sureSeasons 19 = .ok (.if_icmp .ne 9, 3) := by decide +kernel
theorem dX1_sureSeasons_22 : decode cX1_sureSeasons 22 = .ok (.iload_n 1, 1) := by decide +kernel
theorem dX1_sureSeasons_23 : decode cX1_sureSeasons 23 = .ok (.iconst 1, 1) := by decide +kernel
theorem dX1_sureSeasons_24 : decode cX1_sureSeasons 24 = .ok (.iload_n 2, 1) := by decide +kernel
theorem dX1_sureSeasons_25 : decode cX1_sureSeasons 25 = .ok (.ishl, 1) := by decide +kernel
theorem dX1_sureSeasons_26 : decode cX1_sureSeasons 26 = .ok (.ior, 1) := by decide +kernel
theorem dX1_sureSeasons_27 : decode cX1_sureSeasons 27 = .ok (.istore_n 1, 1) := by decide +kernel
theorem dX1_sureSeasons_28 : decode cX1_sureSeasons 28 = .ok (.iinc 2 1, 3) := by decide +kernel
theorem dX1_sureSeasons_31 : decode cX1_sureSeasons 31 = .ok (.goto (-27), 3) := by decide +kernel
theorem dX1_sureSeasons_34 : decode cX1_sureSeasons 34 = .ok (.iload_n 1, 1) := by decide +kernel
theorem dX1_sureSeasons_35 : decode cX1_sureSeasons 35 = .ok (.ireturn, 1) := by decide +kernel
theorem dX1_pullsFor_0 : decode cX1_pullsFor 0 = .ok (.iconst 0, 1) := by decide +kernel
theorem dX1_pullsFor_1 : decode cX1_pullsFor 1 = .ok (.istore_n 3, 1) := by decide +kernel
theorem dX1_pullsFor_2 : decode cX1_pullsFor 2 = .ok (.iconst 1, 1) := by decide +kernel
theorem dX1_pullsFor_3 : decode cX1_pullsFor 3 = .ok (.istore 4, 2) := by decide +kernel
theorem dX1_pullsFor_5 : decode cX1_pullsFor 5 = .ok (.iload 4, 2) := by decide +kernel
theorem dX1_pullsFor_7 : decode cX1_pullsFor 7 = .ok (.bipush 9, 2) := by decide +kernel
theorem dX1_pullsFor_9 : decode cX1_pullsFor 9 = .ok (.if_icmp .gt 35, 3) := by decide +kernel
theorem dX1_pullsFor_12 : decode cX1_pullsFor 12 = .ok (.aload_n 0, 1) := by decide +kernel
theorem dX1_pullsFor_13 : decode cX1_pullsFor 13 = .ok (.getfield 15, 3) := by decide +kernel
theorem dX1_pullsFor_16 : decode cX1_pullsFor 16 = .ok (.iload 4, 2) := by decide +kernel
theorem dX1_pullsFor_18 : decode cX1_pullsFor 18 = .ok (.aload_n 0, 1) := by decide +kernel
theorem dX1_pullsFor_19 : decode cX1_pullsFor 19 = .ok (.getfield 19, 3) := by decide +kernel
theorem dX1_pullsFor_22 : decode cX1_pullsFor 22 = .ok (.invokestatic 46, 3) := by decide +kernel
theorem dX1_pullsFor_25 : decode cX1_pullsFor 25 = .ok (.i2l, 1) := by decide +kernel
theorem dX1_pullsFor_26 : decode cX1_pullsFor 26 = .ok (.lload_n 1, 1) := by decide +kernel
theorem dX1_pullsFor_27 : decode cX1_pullsFor 27 = .ok (.lcmp, 1) := by decide +kernel
theorem dX1_pullsFor_28 : decode cX1_pullsFor 28 = .ok (.ifCond .ne 10, 3) := by decide +kernel
theorem dX1_pullsFor_31 : decode cX1_pullsFor 31 = .ok (.iload_n 3, 1) := by decide +kernel
theorem dX1_pullsFor_32 : decode cX1_pullsFor 32 = .ok (.iconst 1, 1) := by decide +kernel
theorem dX1_pullsFor_33 : decode cX1_pullsFor 33 = .ok (.iload 4, 2) := by decide +kernel
theorem dX1_pullsFor_35 : decode cX1_pullsFor 35 = .ok (.ishl, 1) := by decide +kernel
theorem dX1_pullsFor_36 : decode cX1_pullsFor 36 = .ok (.ior, 1) := by decide +kernel
theorem dX1_pullsFor_37 : decode cX1_pullsFor 37 = .ok (.istore_n 3, 1) := by decide +kernel
theorem dX1_pullsFor_38 : decode cX1_pullsFor 38 = .ok (.iinc 4 1, 3) := by decide +kernel
theorem dX1_pullsFor_41 : decode cX1_pullsFor 41 = .ok (.goto (-36), 3) := by decide +kernel
theorem dX1_pullsFor_44 : decode cX1_pullsFor 44 = .ok (.iload_n 3, 1) := by decide +kernel
theorem dX1_pullsFor_45 : decode cX1_pullsFor 45 = .ok (.ireturn, 1) := by decide +kernel
theorem dX2_init_0 : decode cX2_init 0 = .ok (.aload_n 0, 1) := by decide +kernel
theorem dX2_init_1 : decode cX2_init 1 = .ok (.invokespecial 3, 3) := by decide +kernel
theorem dX2_init_4 : decode cX2_init 4 = .ok (.aload_n 0, 1) := by decide +kernel
theorem dX2_init_5 : decode cX2_init 5 = .ok (.bipush 81, 2) := by decide +kernel
theorem dX2_init_7 : decode cX2_init 7 = .ok (.newarray .int, 2) := by decide +kernel
theorem dX2_init_9 : decode cX2_init 9 = .ok (.putfield 11, 3) := by decide +kernel
theorem dX2_init_12 : decode cX2_init 12 = .ok (.aload_n 0, 1) := by decide +kernel
theorem dX2_init_13 : decode cX2_init 13 = .ok (.bipush 81, 2) := by decide +kernel
theorem dX2_init_15 : decode cX2_init 15 = .ok (.newarray .int, 2) := by decide +kernel
theorem dX2_init_17 : decode cX2_init 17 = .ok (.putfield 15, 3) := by decide +kernel
theorem dX2_init_20 : decode cX2_init 20 = .ok (.aload_n 0, 1) := by decide +kernel
theorem dX2_init_21 : decode cX2_init 21 = .ok (.aload_n 1, 1) := by decide +kernel
theorem dX2_init_22 : decode cX2_init 22 = .ok (.putfield 18, 3) := by decide +kernel
theorem dX2_init_25 : decode cX2_init 25 = .ok (.aload_n 0, 1) := by decide +kernel
theorem dX2_init_26 : decode cX2_init 26 = .ok (.aload_n 2, 1) := by decide +kernel
theorem dX2_init_27 : decode cX2_init 27 = .ok (.putfield 22, 3) := by decide +kernel
theorem dX2_init_30 : decode cX2_init 30 = .ok (.return_, 1) := by decide +kernel
theorem dX2_takeOf_0 : decode cX2_takeOf 0 = .ok (.aload_n 0, 1) := by decide +kernel
theorem dX2_takeOf_1 : decode cX2_takeOf 1 = .ok (.getfield 22, 3) := by decide +kernel
theorem dX2_takeOf_4 : decode cX2_takeOf 4 = .ok (.iload_n 2, 1) := by decide +kernel
theorem dX2_takeOf_5 : decode cX2_takeOf 5 = .ok (.invokevirtual 26, 3) := by decide +kernel
theorem dX2_takeOf_8 : decode cX2_takeOf 8 = .ok (.iconst 0, 1) := by decide +kernel
theorem dX2_takeOf_9 : decode cX2_takeOf 9 = .ok (.istore_n 3, 1) := by decide +kernel
theorem dX2_takeOf_10 : decode cX2_takeOf 10 = .ok (.iconst 0, 1) := by decide +kernel
theorem dX2_takeOf_11 : decode cX2_takeOf 11 = .ok (.istore 4, 2) := by decide +kernel
theorem dX2_takeOf_13 : decode cX2_takeOf 13 = .ok (.iload 4, 2) := by decide +kernel
theorem dX2_takeOf_15 : decode cX2_takeOf 15 = .ok (.aload_n 0, 1) := by decide +kernel
theorem dX2_takeOf_16 : decode cX2_takeOf 16 = .ok (.getfield 18, 3) := by decide +kernel
theorem dX2_takeOf_19 : decode cX2_takeOf 19 = .ok (.getfield 32, 3) := by decide +kernel
theorem dX2_takeOf_22 : decode cX2_takeOf 22 = .ok (.if_icmp .ge 25, 3) := by decide +kernel
theorem dX2_takeOf_25 : decode cX2_takeOf 25 = .ok (.aload_n 0, 1) := by decide +kernel
theorem dX2_takeOf_26 : decode cX2_takeOf 26 = .ok (.getfield 22, 3) := by decide +kernel
theorem dX2_takeOf_29 : decode cX2_takeOf 29 = .ok (.iload 4, 2) := by decide +kernel
theorem dX2_takeOf_31 : decode cX2_takeOf 31 = .ok (.invokevirtual 38, 3) := by decide +kernel
theorem dX2_takeOf_34 : decode cX2_takeOf 34 = .ok (.iload_n 1, 1) := by decide +kernel
theorem dX2_takeOf_35 : decode cX2_takeOf 35 = .ok (.if_icmp .ne 6, 3) := by decide +kernel
theorem dX2_takeOf_38 : decode cX2_takeOf 38 = .ok (.iinc 3 1, 3) := by decide +kernel
theorem dX2_takeOf_41 : decode cX2_takeOf 41 = .ok (.iinc 4 1, 3) := by decide +kernel
theorem dX2_takeOf_44 : decode cX2_takeOf 44 = .ok (.goto (-31), 3) := by decide +kernel
theorem dX2_takeOf_47 : decode cX2_takeOf 47 = .ok (.iload_n 3, 1) := by decide +kernel
theorem dX2_takeOf_48 : decode cX2_takeOf 48 = .ok (.ireturn, 1) := by decide +kernel
theorem dX2_findRests_0 : decode cX2_findRests 0 = .ok (.aload_n 0, 1) := by decide +kernel
theorem dX2_findRests_1 : decode cX2_findRests 1 = .ok (.getfield 11, 3) := by decide +kernel
theorem dX2_findRests_4 : decode cX2_findRests 4 = .ok (.iconst 0, 1) := by decide +kernel
theorem dX2_findRests_5 : decode cX2_findRests 5 = .ok (.invokestatic 42, 3) := by decide +kernel
theorem dX2_findRests_8 : decode cX2_findRests 8 = .ok (.aload_n 0, 1) := by decide +kernel
theorem dX2_findRests_9 : decode cX2_findRests 9 = .ok (.getfield 15, 3) := by decide +kernel
theorem dX2_findRests_12 : decode cX2_findRests 12 = .ok (.iconst 0, 1) := by decide +kernel
theorem dX2_findRests_13 : decode cX2_findRests 13 = .ok (.invokestatic 42, 3) := by decide +kernel
theorem dX2_findRests_16 : decode cX2_findRests 16 = .ok (.aload_n 0, 1) := by decide +kernel
theorem dX2_findRests_17 : decode cX2_findRests 17 = .ok (.getfield 22, 3) := by decide +kernel
theorem dX2_findRests_20 : decode cX2_findRests 20 = .ok (.iload_n 3, 1) := by decide +kernel
theorem dX2_findRests_21 : decode cX2_findRests 21 = .ok (.invokevirtual 26, 3) := by decide +kernel
theorem dX2_findRests_24 : decode cX2_findRests 24 = .ok (.iconst 0, 1) := by decide +kernel
theorem dX2_findRests_25 : decode cX2_findRests 25 = .ok (.istore 4, 2) := by decide +kernel
theorem dX2_findRests_27 : decode cX2_findRests 27 = .ok (.iload 4, 2) := by decide +kernel
theorem dX2_findRests_29 : decode cX2_findRests 29 = .ok (.aload_n 0, 1) := by decide +kernel
theorem dX2_findRests_30 : decode cX2_findRests 30 = .ok (.getfield 18, 3) := by decide +kernel
theorem dX2_findRests_33 : decode cX2_findRests 33 = .ok (.getfield 32, 3) := by decide +kernel
theorem dX2_findRests_36 : decode cX2_findRests 36 = .ok (.if_icmp .ge 17, 3) := by decide +kernel
theorem dX2_findRests_39 : decode cX2_findRests 39 = .ok (.aload_n 0, 1) := by decide +kernel
theorem dX2_findRests_40 : decode cX2_findRests 40 = .ok (.iload_n 1, 1) := by decide +kernel
theorem dX2_findRests_41 : decode cX2_findRests 41 = .ok (.iload_n 2, 1) := by decide +kernel
theorem dX2_findRests_42 : decode cX2_findRests 42 = .ok (.iload 4, 2) := by decide +kernel
theorem dX2_findRests_44 : decode cX2_findRests 44 = .ok (.invokevirtual 48, 3) := by decide +kernel
theorem dX2_findRests_47 : decode cX2_findRests 47 = .ok (.iinc 4 1, 3) := by decide +kernel
theorem dX2_findRests_50 : decode cX2_findRests 50 = .ok (.goto (-23), 3) := by decide +kernel
theorem dX2_findRests_53 : decode cX2_findRests 53 = .ok (.aload_n 0, 1) := by decide +kernel
theorem dX2_findRests_54 : decode cX2_findRests 54 = .ok (.iconst 0, 1) := by decide +kernel
theorem dX2_findRests_55 : decode cX2_findRests 55 = .ok (.putfield 52, 3) := by decide +kernel
theorem dX2_findRests_58 : decode cX2_findRests 58 = .ok (.aload_n 0, 1) := by decide +kernel
theorem dX2_findRests_59 : decode cX2_findRests 59 = .ok (.iconst 0, 1) := by decide +kernel
theorem dX2_findRests_60 : decode cX2_findRests 60 = .ok (.putfield 55, 3) := by decide +kernel
theorem dX2_findRests_63 : decode cX2_findRests 63 = .ok (.iconst 0, 1) := by decide +kernel
theorem dX2_findRests_64 : decode cX2_findRests 64 = .ok (.istore 4, 2) := by decide +kernel
theorem dX2_findRests_66 : decode cX2_findRests 66 = .ok (.iload 4, 2) := by decide +kernel
theorem dX2_findRests_68 : decode cX2_findRests 68 = .ok (.bipush 81, 2) := by decide +kernel
theorem dX2_findRests_70 : decode cX2_findRests 70 = .ok (.if_icmp .ge 105, 3) := by decide +kernel
theorem dX2_findRests_73 : decode cX2_findRests 73 = .ok (.aload_n 0, 1) := by decide +kernel
theorem dX2_findRests_74 : decode cX2_findRests 74 = .ok (.getfield 11, 3) := by decide +kernel
theorem dX2_findRests_77 : decode cX2_findRests 77 = .ok (.iload 4, 2) := by decide +kernel
theorem dX2_findRests_79 : decode cX2_findRests 79 = .ok (.iaload, 1) := by decide +kernel
theorem dX2_findRests_80 : decode cX2_findRests 80 = .ok (.aload_n 0, 1) := by decide +kernel
theorem dX2_findRests_81 : decode cX2_findRests 81 = .ok (.getfield 11, 3) := by decide +kernel
theorem dX2_findRests_84 : decode cX2_findRests 84 = .ok (.iload 4, 2) := by decide +kernel
theorem dX2_findRests_86 : decode cX2_findRests 86 = .ok (.bipush 9, 2) := by decide +kernel
theorem dX2_findRests_88 : decode cX2_findRests 88 = .ok (.irem, 1) := by decide +kernel
theorem dX2_findRests_89 : decode cX2_findRests 89 = .ok (.bipush 9, 2) := by decide +kernel
theorem dX2_findRests_91 : decode cX2_findRests 91 = .ok (.invokestatic 58, 3) := by decide +kernel
theorem dX2_findRests_94 : decode cX2_findRests 94 = .ok (.if_icmp .lt 75, 3) := by decide +kernel
theorem dX2_findRests_97 : decode cX2_findRests 97 = .ok (.aload_n 0, 1) := by decide +kernel
theorem dX2_findRests_98 : decode cX2_findRests 98 = .ok (.getfield 15, 3) := by decide +kernel
theorem dX2_findRests_101 : decode cX2_findRests 101 = .ok (.iload 4, 2) := by decide +kernel
theorem dX2_findRests_103 : decode cX2_findRests 103 = .ok (.iaload, 1) := by decide +kernel
theorem dX2_findRests_104 : decode cX2_findRests 104 = .ok (.aload_n 0, 1) := by decide +kernel
theorem dX2_findRests_105 : decode cX2_findRests 105 = .ok (.getfield 15, 3) := by decide +kernel
theorem dX2_findRests_108 : decode cX2_findRests 108 = .ok (.iload 4, 2) := by decide +kernel
theorem dX2_findRests_110 : decode cX2_findRests 110 = .ok (.iload 4, 2) := by decide +kernel
theorem dX2_findRests_112 : decode cX2_findRests 112 = .ok (.bipush 9, 2) := by decide +kernel
theorem dX2_findRests_114 : decode cX2_findRests 114 = .ok (.irem, 1) := by decide +kernel
theorem dX2_findRests_115 : decode cX2_findRests 115 = .ok (.isub, 1) := by decide +kernel
theorem dX2_findRests_116 : decode cX2_findRests 116 = .ok (.iconst 1, 1) := by decide +kernel
theorem dX2_findRests_117 : decode cX2_findRests 117 = .ok (.invokestatic 58, 3) := by decide +kernel
theorem dX2_findRests_120 : decode cX2_findRests 120 = .ok (.if_icmp .lt 49, 3) := by decide +kernel
theorem dX2_findRests_123 : decode cX2_findRests 123 = .ok (.aload_n 0, 1) := by decide +kernel
theorem dX2_findRests_124 : decode cX2_findRests 124 = .ok (.aload_n 0, 1) := by decide +kernel
theorem dX2_findRests_125 : decode cX2_findRests 125 = .ok (.getfield 52, 3) := by decide +kernel
theorem dX2_findRests_128 : decode cX2_findRests 128 = .ok (.ifCond .le 10, 3) := by decide +kernel
theorem dX2_findRests_131 : decode cX2_findRests 131 = .ok (.aload_n 0, 1) := by decide +kernel
theorem dX2_findRests_132 : decode cX2_findRests 132 = .ok (.getfield 55, 3) := by decide +kernel
theorem dX2_findRests_135 : decode cX2_findRests 135 = .ok (.goto 21, 3) := by decide +kernel
theorem dX2_findRests_138 : decode cX2_findRests 138 = .ok (.bipush 10, 2) := by decide +kernel
theorem dX2_findRests_140 : decode cX2_findRests 140 = .ok (.iload 4, 2) := by decide +kernel
theorem dX2_findRests_142 : decode cX2_findRests 142 = .ok (.bipush 9, 2) := by decide +kernel
theorem dX2_findRests_144 : decode cX2_findRests 144 = .ok (.idiv, 1) := by decide +kernel
theorem dX2_findRests_145 : decode cX2_findRests 145 = .ok (.iconst 1, 1) := by decide +kernel
theorem dX2_findRests_146 : decode cX2_findRests 146 = .ok (.iadd, 1) := by decide +kernel
theorem dX2_findRests_147 : decode cX2_findRests 147 = .ok (.imul, 1) := by decide +kernel
theorem dX2_findRests_148 : decode cX2_findRests 148 = .ok (.iload 4, 2) := by decide +kernel
theorem dX2_findRests_150 : decode cX2_findRests 150 = .ok (.bipush 9, 2) := by decide +kernel
theorem dX2_findRests_152 : decode cX2_findRests 152 = .ok (.irem, 1) := by decide +kernel
theorem dX2_findRests_153 : decode cX2_findRests 153 = .ok (.iadd, 1) := by decide +kernel
theorem dX2_findRests_154 : decode cX2_findRests 154 = .ok (.iconst 1, 1) := by decide +kernel
theorem dX2_findRests_155 : decode cX2_findRests 155 = .ok (.iadd, 1) := by decide +kernel
theorem dX2_findRests_156 : decode cX2_findRests 156 = .ok (.putfield 55, 3) := by decide +kernel
theorem dX2_findRests_159 : decode cX2_findRests 159 = .ok (.aload_n 0, 1) := by decide +kernel
theorem dX2_findRests_160 : decode cX2_findRests 160 = .ok (.dup, 1) := by decide +kernel
theorem dX2_findRests_161 : decode cX2_findRests 161 = .ok (.getfield 52, 3) := by decide +kernel
theorem dX2_findRests_164 : decode cX2_findRests 164 = .ok (.iconst 1, 1) := by decide +kernel
theorem dX2_findRests_165 : decode cX2_findRests 165 = .ok (.iadd, 1) := by decide +kernel
theorem dX2_findRests_166 : decode cX2_findRests 166 = .ok (.putfield 52, 3) := by decide +kernel
theorem dX2_findRests_169 : decode cX2_findRests 169 = .ok (.iinc 4 1, 3) := by decide +kernel
theorem dX2_findRests_172 : decode cX2_findRests 172 = .ok (.goto (-106), 3) := by decide +kernel
theorem dX2_findRests_175 : decode cX2_findRests 175 = .ok (.return_, 1) := by decide +kernel
theorem dX2_addTakes_0 : decode cX2_addTakes 0 = .ok (.aload_n 0, 1) := by decide +kernel
theorem dX2_addTakes_1 : decode cX2_addTakes 1 = .ok (.getfield 18, 3) := by decide +kernel
theorem dX2_addTakes_4 : decode cX2_addTakes 4 = .ok (.getfield 62, 3) := by decide +kernel
theorem dX2_addTakes_7 : decode cX2_addTakes 7 = .ok (.iload_n 3, 1) := by decide +kernel
theorem dX2_addTakes_8 : decode cX2_addTakes 8 = .ok (.iaload, 1) := by decide +kernel
theorem dX2_addTakes_9 : decode cX2_addTakes 9 = .ok (.istore 4, 2) := by decide +kernel
theorem dX2_addTakes_11 : decode cX2_addTakes 11 = .ok (.aload_n 0, 1) := by decide +kernel
theorem dX2_addTakes_12 : decode cX2_addTakes 12 = .ok (.getfield 22, 3) := by decide +kernel
theorem dX2_addTakes_15 : decode cX2_addTakes 15 = .ok (.iload 4, 2) := by decide +kernel
theorem dX2_addTakes_17 : decode cX2_addTakes 17 = .ok (.invokevirtual 65, 3) := by decide +kernel
theorem dX2_addTakes_20 : decode cX2_addTakes 20 = .ok (.iconst 0, 1) := by decide +kernel
theorem dX2_addTakes_21 : decode cX2_addTakes 21 = .ok (.istore 5, 2) := by decide +kernel
theorem dX2_addTakes_23 : decode cX2_addTakes 23 = .ok (.iload 5, 2) := by decide +kernel
theorem dX2_addTakes_25 : decode cX2_addTakes 25 = .ok (.bipush 81, 2) := by decide +kernel
theorem dX2_addTakes_27 : decode cX2_addTakes 27 = .ok (.if_icmp .ge 139, 3) := by decide +kernel
theorem dX2_addTakes_30 : decode cX2_addTakes 30 = .ok (.aload_n 0, 1) := by decide +kernel
theorem dX2_addTakes_31 : decode cX2_addTakes 31 = .ok (.getfield 22, 3) := by decide +kernel
theorem dX2_addTakes_34 : decode cX2_addTakes 34 = .ok (.getfield 68, 3) := by decide +kernel
theorem dX2_addTakes_37 : decode cX2_addTakes 37 = .ok (.iload_n 1, 1) := by decide +kernel
theorem dX2_addTakes_38 : decode cX2_addTakes 38 = .ok (.aload_n 0, 1) := by decide +kernel
theorem dX2_addTakes_39 : decode cX2_addTakes 39 = .ok (.getfield 18, 3) := by decide +kernel
theorem dX2_addTakes_42 : decode cX2_addTakes 42 = .ok (.getfield 71, 3) := by decide +kernel
theorem dX2_addTakes_45 : decode cX2_addTakes 45 = .ok (.getfield 75, 3) := by decide +kernel
theorem dX2_addTakes_48 : decode cX2_addTakes 48 = .ok (.iload_n 1, 1) := by decide +kernel
theorem dX2_addTakes_49 : decode cX2_addTakes 49 = .ok (.iaload, 1) := by decide +kernel
theorem dX2_addTakes_50 : decode cX2_addTakes 50 = .ok (.iload 5, 2) := by decide +kernel
theorem dX2_addTakes_52 : decode cX2_addTakes 52 = .ok (.bipush 9, 2) := by decide +kernel
theorem dX2_addTakes_54 : decode cX2_addTakes 54 = .ok (.idiv, 1) := by decide +kernel
theorem dX2_addTakes_55 : decode cX2_addTakes 55 = .ok (.iconst 1, 1) := by decide +kernel
theorem dX2_addTakes_56 : decode cX2_addTakes 56 = .ok (.iadd, 1) := by decide +kernel
theorem dX2_addTakes_57 : decode cX2_addTakes 57 = .ok (.iload 4, 2) := by decide +kernel
theorem dX2_addTakes_59 : decode cX2_addTakes 59 = .ok (.invokestatic 80, 3) := by decide +kernel
theorem dX2_addTakes_62 : decode cX2_addTakes 62 = .ok (.iastore, 1) := by decide +kernel
theorem dX2_addTakes_63 : decode cX2_addTakes 63 = .ok (.aload_n 0, 1) := by decide +kernel
theorem dX2_addTakes_64 : decode cX2_addTakes 64 = .ok (.getfield 22, 3) := by decide +kernel
theorem dX2_addTakes_67 : decode cX2_addTakes 67 = .ok (.getfield 68, 3) := by decide +kernel
theorem dX2_addTakes_70 : decode cX2_addTakes 70 = .ok (.iload_n 2, 1) := by decide +kernel
theorem dX2_addTakes_71 : decode cX2_addTakes 71 = .ok (.aload_n 0, 1) := by decide +kernel
theorem dX2_addTakes_72 : decode cX2_addTakes 72 = .ok (.getfield 18, 3) := by decide +kernel
theorem dX2_addTakes_75 : decode cX2_addTakes 75 = .ok (.getfield 71, 3) := by decide +kernel
theorem dX2_addTakes_78 : decode cX2_addTakes 78 = .ok (.getfield 75, 3) := by decide +kernel
theorem dX2_addTakes_81 : decode cX2_addTakes 81 = .ok (.iload_n 2, 1) := by decide +kernel
theorem dX2_addTakes_82 : decode cX2_addTakes 82 = .ok (.iaload, 1) := by decide +kernel
theorem dX2_addTakes_83 : decode cX2_addTakes 83 = .ok (.iload 5, 2) := by decide +kernel
theorem dX2_addTakes_85 : decode cX2_addTakes 85 = .ok (.bipush 9, 2) := by decide +kernel
theorem dX2_addTakes_87 : decode cX2_addTakes 87 = .ok (.irem, 1) := by decide +kernel
theorem dX2_addTakes_88 : decode cX2_addTakes 88 = .ok (.iconst 1, 1) := by decide +kernel
theorem dX2_addTakes_89 : decode cX2_addTakes 89 = .ok (.iadd, 1) := by decide +kernel
theorem dX2_addTakes_90 : decode cX2_addTakes 90 = .ok (.iload 4, 2) := by decide +kernel
theorem dX2_addTakes_92 : decode cX2_addTakes 92 = .ok (.invokestatic 80, 3) := by decide +kernel
theorem dX2_addTakes_95 : decode cX2_addTakes 95 = .ok (.iastore, 1) := by decide +kernel
theorem dX2_addTakes_96 : decode cX2_addTakes 96 = .ok (.aload_n 0, 1) := by decide +kernel
theorem dX2_addTakes_97 : decode cX2_addTakes 97 = .ok (.getfield 22, 3) := by decide +kernel
theorem dX2_addTakes_100 : decode cX2_addTakes 100 = .ok (.aload_n 0, 1) := by decide +kernel
theorem dX2_addTakes_101 : decode cX2_addTakes 101 = .ok (.getfield 18, 3) := by decide +kernel
theorem dX2_addTakes_104 : decode cX2_addTakes 104 = .ok (.getfield 84, 3) := by decide +kernel
theorem dX2_addTakes_107 : decode cX2_addTakes 107 = .ok (.iload_n 3, 1) := by decide +kernel
theorem dX2_addTakes_108 : decode cX2_addTakes 108 = .ok (.iaload, 1) := by decide +kernel
theorem dX2_addTakes_109 : decode cX2_addTakes 109 = .ok (.aload_n 0, 1) := by decide +kernel
theorem dX2_addTakes_110 : decode cX2_addTakes 110 = .ok (.getfield 18, 3) := by decide +kernel
theorem dX2_addTakes_113 : decode cX2_addTakes 113 = .ok (.getfield 87, 3) := by decide +kernel
theorem dX2_addTakes_116 : decode cX2_addTakes 116 = .ok (.iload_n 3, 1) := by decide +kernel
theorem dX2_addTakes_117 : decode cX2_addTakes 117 = .ok (.iaload, 1) := by decide +kernel
theorem dX2_addTakes_118 : decode cX2_addTakes 118 = .ok (.invokevirtual 90, 3) := by decide +kernel
theorem dX2_addTakes_121 : decode cX2_addTakes 121 = .ok (.istore 6, 2) := by decide +kernel
theorem dX2_addTakes_123 : decode cX2_addTakes 123 = .ok (.iload 6, 2) := by decide +kernel
theorem dX2_addTakes_125 : decode cX2_addTakes 125 = .ok (.iload_n 1, 1) := by decide +kernel
theorem dX2_addTakes_126 : decode cX2_addTakes 126 = .ok (.if_icmp .ne 17, 3) := by decide +kernel
theorem dX2_addTakes_129 : decode cX2_addTakes 129 = .ok (.aload_n 0, 1) := by decide +kernel
theorem dX2_addTakes_130 : decode cX2_addTakes 130 = .ok (.getfield 11, 3) := by decide +kernel
theorem dX2_addTakes_133 : decode cX2_addTakes 133 = .ok (.iload 5, 2) := by decide +kernel
theorem dX2_addTakes_135 : decode cX2_addTakes 135 = .ok (.dup2, 1) := by decide +kernel
theorem dX2_addTakes_136 : decode cX2_addTakes 136 = .ok (.iaload, 1) := by decide +kernel
theorem dX2_addTakes_137 : decode cX2_addTakes 137 = .ok (.iconst 1, 1) := by decide +kernel
theorem dX2_addTakes_138 : decode cX2_addTakes 138 = .ok (.iadd, 1) := by decide +kernel
theorem dX2_addTakes_139 : decode cX2_addTakes 139 = .ok (.iastore, 1) := by decide +kernel
theorem dX2_addTakes_140 : decode cX2_addTakes 140 = .ok (.goto 20, 3) := by decide +kernel
theorem dX2_addTakes_143 : decode cX2_addTakes 143 = .ok (.iload 6, 2) := by decide +kernel
theorem dX2_addTakes_145 : decode cX2_addTakes 145 = .ok (.iload_n 2, 1) := by decide +kernel
theorem dX2_addTakes_146 : decode cX2_addTakes 146 = .ok (.if_icmp .ne 14, 3) := by decide +kernel
theorem dX2_addTakes_149 : decode cX2_addTakes 149 = .ok (.aload_n 0, 1) := by decide +kernel
theorem dX2_addTakes_150 : decode cX2_addTakes 150 = .ok (.getfield 15, 3) := by decide +kernel
theorem dX2_addTakes_153 : decode cX2_addTakes 153 = .ok (.iload 5, 2) := by decide +kernel
theorem dX2_addTakes_155 : decode cX2_addTakes 155 = .ok (.dup2, 1) := by decide +kernel
theorem dX2_addTakes_156 : decode cX2_addTakes 156 = .ok (.iaload, 1) := by decide +kernel
theorem dX2_addTakes_157 : decode cX2_addTakes 157 = .ok (.iconst 1, 1) := by decide +kernel
theorem dX2_addTakes_158 : decode cX2_addTakes 158 = .ok (.iadd, 1) := by decide +kernel
theorem dX2_addTakes_159 : decode cX2_addTakes 159 = .ok (.iastore, 1) := by decide +kernel
theorem dX2_addTakes_160 : decode cX2_addTakes 160 = .ok (.iinc 5 1, 3) := by decide +kernel
theorem dX2_addTakes_163 : decode cX2_addTakes 163 = .ok (.goto (-140), 3) := by decide +kernel
theorem dX2_addTakes_166 : decode cX2_addTakes 166 = .ok (.return_, 1) := by decide +kernel
theorem dX2_most_0 : decode cX2_most 0 = .ok (.iconst 0, 1) := by decide +kernel
theorem dX2_most_1 : decode cX2_most 1 = .ok (.istore_n 3, 1) := by decide +kernel
theorem dX2_most_2 : decode cX2_most 2 = .ok (.iconst 0, 1) := by decide +kernel
theorem dX2_most_3 : decode cX2_most 3 = .ok (.istore 4, 2) := by decide +kernel
theorem dX2_most_5 : decode cX2_most 5 = .ok (.iload 4, 2) := by decide +kernel
theorem dX2_most_7 : decode cX2_most 7 = .ok (.bipush 9, 2) := by decide +kernel
theorem dX2_most_9 : decode cX2_most 9 = .ok (.if_icmp .ge 22, 3) := by decide +kernel
theorem dX2_most_12 : decode cX2_most 12 = .ok (.iload_n 3, 1) := by decide +kernel
theorem dX2_most_13 : decode cX2_most 13 = .ok (.aload_n 0, 1) := by decide +kernel
theorem dX2_most_14 : decode cX2_most 14 = .ok (.iload_n 1, 1) := by decide +kernel
theorem dX2_most_15 : decode cX2_most 15 = .ok (.iload 4, 2) := by decide +kernel
theorem dX2_most_17 : decode cX2_most 17 = .ok (.iload_n 2, 1) := by decide +kernel
theorem dX2_most_18 : decode cX2_most 18 = .ok (.imul, 1) := by decide +kernel
theorem dX2_most_19 : decode cX2_most 19 = .ok (.iadd, 1) := by decide +kernel
theorem dX2_most_20 : decode cX2_most 20 = .ok (.iaload, 1) := by decide +kernel
theorem dX2_most_21 : decode cX2_most 21 = .ok (.invokestatic 94, 3) := by decide +kernel
theorem dX2_most_24 : decode cX2_most 24 = .ok (.istore_n 3, 1) := by decide +kernel
theorem dX2_most_25 : decode cX2_most 25 = .ok (.iinc 4 1, 3) := by decide +kernel
theorem dX2_most_28 : decode cX2_most 28 = .ok (.goto (-23), 3) := by decide +kernel
theorem dX2_most_31 : decode cX2_most 31 = .ok (.iload_n 3, 1) := by decide +kernel
theorem dX2_most_32 : decode cX2_most 32 = .ok (.ireturn, 1) := by decide +kernel
theorem dX4_init_0 : decode cX4_init 0 = .ok (.aload_n 0, 1) := by decide +kernel
theorem dX4_init_1 : decode cX4_init 1 = .ok (.invokespecial 3, 3) := by decide +kernel
theorem dX4_init_4 : decode cX4_init 4 = .ok (.aload_n 0, 1) := by decide +kernel
theorem dX4_init_5 : decode cX4_init 5 = .ok (.sipush 256, 3) := by decide +kernel
theorem dX4_init_8 : decode cX4_init 8 = .ok (.newarray .int, 2) := by decide +kernel
theorem dX4_init_10 : decode cX4_init 10 = .ok (.putfield 9, 3) := by decide +kernel
theorem dX4_init_13 : decode cX4_init 13 = .ok (.aload_n 0, 1) := by decide +kernel
theorem dX4_init_14 : decode cX4_init 14 = .ok (.aload_n 1, 1) := by decide +kernel
theorem dX4_init_15 : decode cX4_init 15 = .ok (.putfield 15, 3) := by decide +kernel
theorem dX4_init_18 : decode cX4_init 18 = .ok (.aload_n 0, 1) := by decide +kernel
theorem dX4_init_19 : decode cX4_init 19 = .ok (.aload_n 2, 1) := by decide +kernel
theorem dX4_init_20 : decode cX4_init 20 = .ok (.putfield 19, 3) := by decide +kernel
theorem dX4_init_23 : decode cX4_init 23 = .ok (.return_, 1) := by decide +kernel
theorem dX4_worth_0 : decode cX4_worth 0 = .ok (.aload_n 0, 1) := by decide +kernel
theorem dX4_worth_1 : decode cX4_worth 1 = .ok (.getfield 9, 3) := by decide +kernel
theorem dX4_worth_4 : decode cX4_worth 4 = .ok (.iconst 0, 1) := by decide +kernel
theorem dX4_worth_5 : decode cX4_worth 5 = .ok (.iconst 0, 1) := by decide +kernel
theorem dX4_worth_6 : decode cX4_worth 6 = .ok (.iastore, 1) := by decide +kernel
theorem dX4_worth_7 : decode cX4_worth 7 = .ok (.aload_n 0, 1) := by decide +kernel
theorem dX4_worth_8 : decode cX4_worth 8 = .ok (.getfield 9, 3) := by decide +kernel
theorem dX4_worth_11 : decode cX4_worth 11 = .ok (.iload_n 1, 1) := by decide +kernel
theorem dX4_worth_12 : decode cX4_worth 12 = .ok (.iconst 0, 1) := by decide +kernel
theorem dX4_worth_13 : decode cX4_worth 13 = .ok (.iastore, 1) := by decide +kernel
theorem dX4_worth_14 : decode cX4_worth 14 = .ok (.aload_n 0, 1) := by decide +kernel
theorem dX4_worth_15 : decode cX4_worth 15 = .ok (.getfield 19, 3) := by decide +kernel
theorem dX4_worth_18 : decode cX4_worth 18 = .ok (.iload_n 2, 1) := by decide +kernel
theorem dX4_worth_19 : decode cX4_worth 19 = .ok (.invokevirtual 23, 3) := by decide +kernel
theorem dX4_worth_22 : decode cX4_worth 22 = .ok (.iconst 0, 1) := by decide +kernel
theorem dX4_worth_23 : decode cX4_worth 23 = .ok (.istore_n 3, 1) := by decide +kernel
theorem dX4_worth_24 : decode cX4_worth 24 = .ok (.iload_n 3, 1) := by decide +kernel
theorem dX4_worth_25 : decode cX4_worth 25 = .ok (.aload_n 0, 1) := by decide +kernel
theorem dX4_worth_26 : decode cX4_worth 26 = .ok (.getfield 15, 3) := by decide +kernel
theorem dX4_worth_29 : decode cX4_worth 29 = .ok (.getfield 29, 3) := by decide +kernel
theorem dX4_worth_32 : decode cX4_worth 32 = .ok (.if_icmp .ge 41, 3) := by decide +kernel
theorem dX4_worth_35 : decode cX4_worth 35 = .ok (.aload_n 0, 1) := by decide +kernel
theorem dX4_worth_36 : decode cX4_worth 36 = .ok (.getfield 19, 3) := by decide +kernel
theorem dX4_worth_39 : decode cX4_worth 39 = .ok (.aload_n 0, 1) := by decide +kernel
theorem dX4_worth_40 : decode cX4_worth 40 = .ok (.getfield 15, 3) := by decide +kernel
theorem dX4_worth_43 : decode cX4_worth 43 = .ok (.getfield 35, 3) := by decide +kernel
theorem dX4_worth_46 : decode cX4_worth 46 = .ok (.iload_n 3, 1) := by decide +kernel
theorem dX4_worth_47 : decode cX4_worth 47 = .ok (.iaload, 1) := by decide +kernel
theorem dX4_worth_48 : decode cX4_worth 48 = .ok (.invokevirtual 38, 3) := by decide +kernel
theorem dX4_worth_51 : decode cX4_worth 51 = .ok (.aload_n 0, 1) := by decide +kernel
theorem dX4_worth_52 : decode cX4_worth 52 = .ok (.iload_n 3, 1) := by decide +kernel
theorem dX4_worth_53 : decode cX4_worth 53 = .ok (.iconst 0, 1) := by decide +kernel
theorem dX4_worth_54 : decode cX4_worth 54 = .ok (.invokevirtual 41, 3) := by decide +kernel
theorem dX4_worth_57 : decode cX4_worth 57 = .ok (.iload_n 1, 1) := by decide +kernel
theorem dX4_worth_58 : decode cX4_worth 58 = .ok (.ifCond .eq 9, 3) := by decide +kernel
theorem dX4_worth_61 : decode cX4_worth 61 = .ok (.aload_n 0, 1) := by decide +kernel
theorem dX4_worth_62 : decode cX4_worth 62 = .ok (.iload_n 3, 1) := by decide +kernel
theorem dX4_worth_63 : decode cX4_worth 63 = .ok (.iload_n 1, 1) := by decide +kernel
theorem dX4_worth_64 : decode cX4_worth 64 = .ok (.invokevirtual 41, 3) := by decide +kernel
theorem dX4_worth_67 : decode cX4_worth 67 = .ok (.iinc 3 1, 3) := by decide +kernel
theorem dX4_worth_70 : decode cX4_worth 70 = .ok (.goto (-46), 3) := by decide +kernel
theorem dX4_worth_73 : decode cX4_worth 73 = .ok (.aload_n 0, 1) := by decide +kernel
theorem dX4_worth_74 : decode cX4_worth 74 = .ok (.getfield 9, 3) := by decide +kernel
theorem dX4_worth_77 : decode cX4_worth 77 = .ok (.iload_n 1, 1) := by decide +kernel
theorem dX4_worth_78 : decode cX4_worth 78 = .ok (.iaload, 1) := by decide +kernel
theorem dX4_worth_79 : decode cX4_worth 79 = .ok (.aload_n 0, 1) := by decide +kernel
theorem dX4_worth_80 : decode cX4_worth 80 = .ok (.getfield 9, 3) := by decide +kernel
theorem dX4_worth_83 : decode cX4_worth 83 = .ok (.iconst 0, 1) := by decide +kernel
theorem dX4_worth_84 : decode cX4_worth 84 = .ok (.iaload, 1) := by decide +kernel
theorem dX4_worth_85 : decode cX4_worth 85 = .ok (.isub, 1) := by decide +kernel
theorem dX4_worth_86 : decode cX4_worth 86 = .ok (.ireturn, 1) := by decide +kernel
theorem dX4_findPart_0 : decode cX4_findPart 0 = .ok (.aload_n 0, 1) := by decide +kernel
theorem dX4_findPart_1 : decode cX4_findPart 1 = .ok (.iload_n 2, 1) := by decide +kernel
theorem dX4_findPart_2 : decode cX4_findPart 2 = .ok (.iload_n 3, 1) := by decide +kernel
theorem dX4_findPart_3 : decode cX4_findPart 3 = .ok (.invokevirtual 45, 3) := by decide +kernel
theorem dX4_findPart_6 : decode cX4_findPart 6 = .ok (.iload_n 2, 1) := by decide +kernel
theorem dX4_findPart_7 : decode cX4_findPart 7 = .ok (.invokestatic 48, 3) := by decide +kernel
theorem dX4_findPart_10 : decode cX4_findPart 10 = .ok (.istore 4, 2) := by decide +kernel
theorem dX4_findPart_12 : decode cX4_findPart 12 = .ok (.iload_n 2, 1) := by decide +kernel
theorem dX4_findPart_13 : decode cX4_findPart 13 = .ok (.iconst 1, 1) := by decide +kernel
theorem dX4_findPart_14 : decode cX4_findPart 14 = .ok (.iload_n 1, 1) := by decide +kernel
theorem dX4_findPart_15 : decode cX4_findPart 15 = .ok (.ishl, 1) := by decide +kernel
theorem dX4_findPart_16 : decode cX4_findPart 16 = .ok (.iconst (-1), 1) := by decide +kernel
theorem dX4_findPart_17 : decode cX4_findPart 17 = .ok (.ixor, 1) := by decide +kernel
theorem dX4_findPart_18 : decode cX4_findPart 18 = .ok (.iand, 1) := by decide +kernel
theorem dX4_findPart_19 : decode cX4_findPart 19 = .ok (.istore 5, 2) := by decide +kernel
theorem dX4_findPart_21 : decode cX4_findPart 21 = .ok (.lconst 0, 1) := by decide +kernel
theorem dX4_findPart_22 : decode cX4_findPart 22 = .ok (.lstore 6, 2) := by decide +kernel
theorem dX4_findPart_24 : decode cX4_findPart 24 = .ok (.iconst 0, 1) := by decide +kernel
theorem dX4_findPart_25 : decode cX4_findPart 25 = .ok (.istore 8, 2) := by decide +kernel
theorem dX4_findPart_27 : decode cX4_findPart 27 = .ok (.iload 8, 2) := by decide +kernel
theorem dX4_findPart_29 : decode cX4_findPart 29 = .ok (.iload 5, 2) := by decide +kernel
theorem dX4_findPart_31 : decode cX4_findPart 31 = .ok (.if_icmp .gt 70, 3) := by decide +kernel
theorem dX4_findPart_34 : decode cX4_findPart 34 = .ok (.iload 8, 2) := by decide +kernel
theorem dX4_findPart_36 : decode cX4_findPart 36 = .ok (.iload 5, 2) := by decide +kernel
theorem dX4_findPart_38 : decode cX4_findPart 38 = .ok (.iconst (-1), 1) := by decide +kernel
theorem dX4_findPart_39 : decode cX4_findPart 39 = .ok (.ixor, 1) := by decide +kernel
theorem dX4_findPart_40 : decode cX4_findPart 40 = .ok (.iand, 1) := by decide +kernel
theorem dX4_findPart_41 : decode cX4_findPart 41 = .ok (.ifCond .ne 54, 3) := by decide +kernel
theorem dX4_findPart_44 : decode cX4_findPart 44 = .ok (.iload 8, 2) := by decide +kernel
theorem dX4_findPart_46 : decode cX4_findPart 46 = .ok (.invokestatic 48, 3) := by decide +kernel
theorem dX4_findPart_49 : decode cX4_findPart 49 = .ok (.istore 9, 2) := by decide +kernel
theorem dX4_findPart_51 : decode cX4_findPart 51 = .ok (.lload 6, 2) := by decide +kernel
theorem dX4_findPart_53 : decode cX4_findPart 53 = .ok (.getstatic 54, 3) := by decide +kernel
theorem dX4_findPart_56 : decode cX4_findPart 56 = .ok (.iload 9, 2) := by decide +kernel
theorem dX4_findPart_58 : decode cX4_findPart 58 = .ok (.laload, 1) := by decide +kernel
theorem dX4_findPart_59 : decode cX4_findPart 59 = .ok (.getstatic 54, 3) := by decide +kernel
theorem dX4_findPart_62 : decode cX4_findPart 62 = .ok (.iload 4, 2) := by decide +kernel
theorem dX4_findPart_64 : decode cX4_findPart 64 = .ok (.iconst 1, 1) := by decide +kernel
theorem dX4_findPart_65 : decode cX4_findPart 65 = .ok (.isub, 1) := by decide +kernel
theorem dX4_findPart_66 : decode cX4_findPart 66 = .ok (.iload 9, 2) := by decide +kernel
theorem dX4_findPart_68 : decode cX4_findPart 68 = .ok (.isub, 1) := by decide +kernel
theorem dX4_findPart_69 : decode cX4_findPart 69 = .ok (.laload, 1) := by decide +kernel
theorem dX4_findPart_70 : decode cX4_findPart 70 = .ok (.lmul, 1) := by decide +kernel
theorem dX4_findPart_71 : decode cX4_findPart 71 = .ok (.aload_n 0, 1) := by decide +kernel
theorem dX4_findPart_72 : decode cX4_findPart 72 = .ok (.getfield 9, 3) := by decide +kernel
theorem dX4_findPart_75 : decode cX4_findPart 75 = .ok (.iload 8, 2) := by decide +kernel
theorem dX4_findPart_77 : decode cX4_findPart 77 = .ok (.iconst 1, 1) := by decide +kernel
theorem dX4_findPart_78 : decode cX4_findPart 78 = .ok (.iload_n 1, 1) := by decide +kernel
theorem dX4_findPart_79 : decode cX4_findPart 79 = .ok (.ishl, 1) := by decide +kernel
theorem dX4_findPart_80 : decode cX4_findPart 80 = .ok (.ior, 1) := by decide +kernel
theorem dX4_findPart_81 : decode cX4_findPart 81 = .ok (.iaload, 1) := by decide +kernel
theorem dX4_findPart_82 : decode cX4_findPart 82 = .ok (.aload_n 0, 1) := by decide +kernel
theorem dX4_findPart_83 : decode cX4_findPart 83 = .ok (.getfield 9, 3) := by decide +kernel
theorem dX4_findPart_86 : decode cX4_findPart 86 = .ok (.iload 8, 2) := by decide +kernel
theorem dX4_findPart_88 : decode cX4_findPart 88 = .ok (.iaload, 1) := by decide +kernel
theorem dX4_findPart_89 : decode cX4_findPart 89 = .ok (.isub, 1) := by decide +kernel
theorem dX4_findPart_90 : decode cX4_findPart 90 = .ok (.i2l, 1) := by decide +kernel
theorem dX4_findPart_91 : decode cX4_findPart 91 = .ok (.lmul, 1) := by decide +kernel
theorem dX4_findPart_92 : decode cX4_findPart 92 = .ok (.ladd, 1) := by decide +kernel
theorem dX4_findPart_93 : decode cX4_findPart 93 = .ok (.lstore 6, 2) := by decide +kernel
theorem dX4_findPart_95 : decode cX4_findPart 95 = .ok (.iinc 8 1, 3) := by decide +kernel
theorem dX4_findPart_98 : decode cX4_findPart 98 = .ok (.goto (-71), 3) := by decide +kernel
theorem dX4_findPart_101 : decode cX4_findPart 101 = .ok (.lload 6, 2) := by decide +kernel
theorem dX4_findPart_103 : decode cX4_findPart 103 = .ok (.getstatic 54, 3) := by decide +kernel
theorem dX4_findPart_106 : decode cX4_findPart 106 = .ok (.iload 4, 2) := by decide +kernel
theorem dX4_findPart_108 : decode cX4_findPart 108 = .ok (.laload, 1) := by decide +kernel
theorem dX4_findPart_109 : decode cX4_findPart 109 = .ok (.invokestatic 58, 3) := by decide +kernel
theorem dX4_findPart_112 : decode cX4_findPart 112 = .ok (.lstore 8, 2) := by decide +kernel
theorem dX4_findPart_114 : decode cX4_findPart 114 = .ok (.aload_n 0, 1) := by decide +kernel
theorem dX4_findPart_115 : decode cX4_findPart 115 = .ok (.lload 8, 2) := by decide +kernel
theorem dX4_findPart_117 : decode cX4_findPart 117 = .ok (.lconst 0, 1) := by decide +kernel
theorem dX4_findPart_118 : decode cX4_findPart 118 = .ok (.lcmp, 1) := by decide +kernel
theorem dX4_findPart_119 : decode cX4_findPart 119 = .ok (.ifCond .le 11, 3) := by decide +kernel
theorem dX4_findPart_122 : decode cX4_findPart 122 = .ok (.lload 6, 2) := by decide +kernel
theorem dX4_findPart_124 : decode cX4_findPart 124 = .ok (.lload 8, 2) := by decide +kernel
theorem dX4_findPart_126 : decode cX4_findPart 126 = .ok (.ldiv, 1) := by decide +kernel
theorem dX4_findPart_127 : decode cX4_findPart 127 = .ok (.goto 4, 3) := by decide +kernel
theorem dX4_findPart_130 : decode cX4_findPart 130 = .ok (.lconst 0, 1) := by decide +kernel
theorem dX4_findPart_131 : decode cX4_findPart 131 = .ok (.putfield 62, 3) := by decide +kernel
theorem dX4_findPart_134 : decode cX4_findPart 134 = .ok (.aload_n 0, 1) := by decide +kernel
theorem dX4_findPart_135 : decode cX4_findPart 135 = .ok (.lload 8, 2) := by decide +kernel
theorem dX4_findPart_137 : decode cX4_findPart 137 = .ok (.lconst 0, 1) := by decide +kernel
theorem dX4_findPart_138 : decode cX4_findPart 138 = .ok (.lcmp, 1) := by decide +kernel
theorem dX4_findPart_139 : decode cX4_findPart 139 = .ok (.ifCond .le 15, 3) := by decide +kernel
theorem dX4_findPart_142 : decode cX4_findPart 142 = .ok (.getstatic 54, 3) := by decide +kernel
theorem dX4_findPart_145 : decode cX4_findPart 145 = .ok (.iload 4, 2) := by decide +kernel
theorem dX4_findPart_147 : decode cX4_findPart 147 = .ok (.laload, 1) := by decide +kernel
theorem dX4_findPart_148 : decode cX4_findPart 148 = .ok (.lload 8, 2) := by decide +kernel
theorem dX4_findPart_150 : decode cX4_findPart 150 = .ok (.ldiv, 1) := by decide +kernel
theorem dX4_findPart_151 : decode cX4_findPart 151 = .ok (.goto 4, 3) := by decide +kernel
theorem dX4_findPart_154 : decode cX4_findPart 154 = .ok (.lconst 1, 1) := by decide +kernel
theorem dX4_findPart_155 : decode cX4_findPart 155 = .ok (.putfield 66, 3) := by decide +kernel
theorem dX4_findPart_158 : decode cX4_findPart 158 = .ok (.return_, 1) := by decide +kernel
theorem dX4_findTotals_0 : decode cX4_findTotals 0 = .ok (.aload_n 0, 1) := by decide +kernel
theorem dX4_findTotals_1 : decode cX4_findTotals 1 = .ok (.getfield 9, 3) := by decide +kernel
theorem dX4_findTotals_4 : decode cX4_findTotals 4 = .ok (.iconst 0, 1) := by decide +kernel
theorem dX4_findTotals_5 : decode cX4_findTotals 5 = .ok (.invokestatic 69, 3) := by decide +kernel
theorem dX4_findTotals_8 : decode cX4_findTotals 8 = .ok (.aload_n 0, 1) := by decide +kernel
theorem dX4_findTotals_9 : decode cX4_findTotals 9 = .ok (.getfield 19, 3) := by decide +kernel
theorem dX4_findTotals_12 : decode cX4_findTotals 12 = .ok (.iload_n 2, 1) := by decide +kernel
theorem dX4_findTotals_13 : decode cX4_findTotals 13 = .ok (.invokevirtual 23, 3) := by decide +kernel
theorem dX4_findTotals_16 : decode cX4_findTotals 16 = .ok (.iconst 0, 1) := by decide +kernel
theorem dX4_findTotals_17 : decode cX4_findTotals 17 = .ok (.istore_n 3, 1) := by decide +kernel
theorem dX4_findTotals_18 : decode cX4_findTotals 18 = .ok (.iload_n 3, 1) := by decide +kernel
theorem dX4_findTotals_19 : decode cX4_findTotals 19 = .ok (.aload_n 0, 1) := by decide +kernel
theorem dX4_findTotals_20 : decode cX4_findTotals 20 = .ok (.getfield 15, 3) := by decide +kernel
theorem dX4_findTotals_23 : decode cX4_findTotals 23 = .ok (.getfield 29, 3) := by decide +kernel
theorem dX4_findTotals_26 : decode cX4_findTotals 26 = .ok (.if_icmp .ge 56, 3) := by decide +kernel
theorem dX4_findTotals_29 : decode cX4_findTotals 29 = .ok (.aload_n 0, 1) := by decide +kernel
theorem dX4_findTotals_30 : decode cX4_findTotals 30 = .ok (.getfield 19, 3) := by decide +kernel
theorem dX4_findTotals_33 : decode cX4_findTotals 33 = .ok (.aload_n 0, 1) := by decide +kernel
theorem dX4_findTotals_34 : decode cX4_findTotals 34 = .ok (.getfield 15, 3) := by decide +kernel
theorem dX4_findTotals_37 : decode cX4_findTotals 37 = .ok (.getfield 35, 3) := by decide +kernel
theorem dX4_findTotals_40 : decode cX4_findTotals 40 = .ok (.iload_n 3, 1) := by decide +kernel
theorem dX4_findTotals_41 : decode cX4_findTotals 41 = .ok (.iaload, 1) := by decide +kernel
theorem dX4_findTotals_42 : decode cX4_findTotals 42 = .ok (.invokevirtual 38, 3) := by decide +kernel
theorem dX4_findTotals_45 : decode cX4_findTotals 45 = .ok (.iconst 0, 1) := by decide +kernel
theorem dX4_findTotals_46 : decode cX4_findTotals 46 = .ok (.istore 4, 2) := by decide +kernel
theorem dX4_findTotals_48 : decode cX4_findTotals 48 = .ok (.iload 4, 2) := by decide +kernel
theorem dX4_findTotals_50 : decode cX4_findTotals 50 = .ok (.iload_n 1, 1) := by decide +kernel
theorem dX4_findTotals_51 : decode cX4_findTotals 51 = .ok (.if_icmp .gt 25, 3) := by decide +kernel
theorem dX4_findTotals_54 : decode cX4_findTotals 54 = .ok (.iload 4, 2) := by decide +kernel
theorem dX4_findTotals_56 : decode cX4_findTotals 56 = .ok (.iload_n 1, 1) := by decide +kernel
theorem dX4_findTotals_57 : decode cX4_findTotals 57 = .ok (.iconst (-1), 1) := by decide +kernel
theorem dX4_findTotals_58 : decode cX4_findTotals 58 = .ok (.ixor, 1) := by decide +kernel
theorem dX4_findTotals_59 : decode cX4_findTotals 59 = .ok (.iand, 1) := by decide +kernel
theorem dX4_findTotals_60 : decode cX4_findTotals 60 = .ok (.ifCond .ne 10, 3) := by decide +kernel
theorem dX4_findTotals_63 : decode cX4_findTotals 63 = .ok (.aload_n 0, 1) := by decide +kernel
theorem dX4_findTotals_64 : decode cX4_findTotals 64 = .ok (.iload_n 3, 1) := by decide +kernel
theorem dX4_findTotals_65 : decode cX4_findTotals 65 = .ok (.iload 4, 2) := by decide +kernel
theorem dX4_findTotals_67 : decode cX4_findTotals 67 = .ok (.invokevirtual 41, 3) := by decide +kernel
theorem dX4_findTotals_70 : decode cX4_findTotals 70 = .ok (.iinc 4 1, 3) := by decide +kernel
theorem dX4_findTotals_73 : decode cX4_findTotals 73 = .ok (.goto (-25), 3) := by decide +kernel
theorem dX4_findTotals_76 : decode cX4_findTotals 76 = .ok (.iinc 3 1, 3) := by decide +kernel
theorem dX4_findTotals_79 : decode cX4_findTotals 79 = .ok (.goto (-61), 3) := by decide +kernel
theorem dX4_findTotals_82 : decode cX4_findTotals 82 = .ok (.return_, 1) := by decide +kernel
theorem dX4_addTotal_0 : decode cX4_addTotal 0 = .ok (.aload_n 0, 1) := by decide +kernel
theorem dX4_addTotal_1 : decode cX4_addTotal 1 = .ok (.getfield 19, 3) := by decide +kernel
theorem dX4_addTotal_4 : decode cX4_addTotal 4 = .ok (.iload_n 2, 1) := by decide +kernel
theorem dX4_addTotal_5 : decode cX4_addTotal 5 = .ok (.putfield 75, 3) := by decide +kernel
theorem dX4_addTotal_8 : decode cX4_addTotal 8 = .ok (.aload_n 0, 1) := by decide +kernel
theorem dX4_addTotal_9 : decode cX4_addTotal 9 = .ok (.getfield 19, 3) := by decide +kernel
theorem dX4_addTotal_12 : decode cX4_addTotal 12 = .ok (.aload_n 0, 1) := by decide +kernel
theorem dX4_addTotal_13 : decode cX4_addTotal 13 = .ok (.getfield 15, 3) := by decide +kernel
theorem dX4_addTotal_16 : decode cX4_addTotal 16 = .ok (.getfield 78, 3) := by decide +kernel
theorem dX4_addTotal_19 : decode cX4_addTotal 19 = .ok (.iload_n 1, 1) := by decide +kernel
theorem dX4_addTotal_20 : decode cX4_addTotal 20 = .ok (.iaload, 1) := by decide +kernel
theorem dX4_addTotal_21 : decode cX4_addTotal 21 = .ok (.aload_n 0, 1) := by decide +kernel
theorem dX4_addTotal_22 : decode cX4_addTotal 22 = .ok (.getfield 15, 3) := by decide +kernel
theorem dX4_addTotal_25 : decode cX4_addTotal 25 = .ok (.getfield 81, 3) := by decide +kernel
theorem dX4_addTotal_28 : decode cX4_addTotal 28 = .ok (.iload_n 1, 1) := by decide +kernel
theorem dX4_addTotal_29 : decode cX4_addTotal 29 = .ok (.iaload, 1) := by decide +kernel
theorem dX4_addTotal_30 : decode cX4_addTotal 30 = .ok (.invokevirtual 84, 3) := by decide +kernel
theorem dX4_addTotal_33 : decode cX4_addTotal 33 = .ok (.ifCond .lt 19, 3) := by decide +kernel
theorem dX4_addTotal_36 : decode cX4_addTotal 36 = .ok (.aload_n 0, 1) := by decide +kernel
theorem dX4_addTotal_37 : decode cX4_addTotal 37 = .ok (.getfield 9, 3) := by decide +kernel
theorem dX4_addTotal_40 : decode cX4_addTotal 40 = .ok (.iload_n 2, 1) := by decide +kernel
theorem dX4_addTotal_41 : decode cX4_addTotal 41 = .ok (.dup2, 1) := by decide +kernel
theorem dX4_addTotal_42 : decode cX4_addTotal 42 = .ok (.iaload, 1) := by decide +kernel
theorem dX4_addTotal_43 : decode cX4_addTotal 43 = .ok (.aload_n 0, 1) := by decide +kernel
theorem dX4_addTotal_44 : decode cX4_addTotal 44 = .ok (.getfield 19, 3) := by decide +kernel
theorem dX4_addTotal_47 : decode cX4_addTotal 47 = .ok (.getfield 88, 3) := by decide +kernel
theorem dX4_addTotal_50 : decode cX4_addTotal 50 = .ok (.iadd, 1) := by decide +kernel
theorem dX4_addTotal_51 : decode cX4_addTotal 51 = .ok (.iastore, 1) := by decide +kernel
theorem dX4_addTotal_52 : decode cX4_addTotal 52 = .ok (.return_, 1) := by decide +kernel
theorem dX4_commonDivisor_0 : decode cX4_commonDivisor 0 = .ok (.lload_n 2, 1) := by decide +kernel
theorem dX4_commonDivisor_1 : decode cX4_commonDivisor 1 = .ok (.lstore 4, 2) := by decide +kernel
theorem dX4_commonDivisor_3 : decode cX4_commonDivisor 3 = .ok (.lload_n 0, 1) := by decide +kernel
theorem dX4_commonDivisor_4 : decode cX4_commonDivisor 4 = .ok (.lstore 6, 2) := by decide +kernel
theorem dX4_commonDivisor_6 : decode cX4_commonDivisor 6 = .ok (.iconst 0, 1) := by decide +kernel
theorem dX4_commonDivisor_7 : decode cX4_commonDivisor 7 = .ok (.istore 8, 2) := by decide +kernel
theorem dX4_commonDivisor_9 : decode cX4_commonDivisor 9 = .ok (.iload 8, 2) := by decide +kernel
theorem dX4_commonDivisor_11 : decode cX4_commonDivisor 11 = .ok (.bipush 100, 2) := by decide +kernel
theorem dX4_commonDivisor_13 : decode cX4_commonDivisor 13 = .ok (.if_icmp .ge 31, 3) := by decide +kernel
theorem dX4_commonDivisor_16 : decode cX4_commonDivisor 16 = .ok (.lload 6, 2) := by decide +kernel
theorem dX4_commonDivisor_18 : decode cX4_commonDivisor 18 = .ok (.lconst 0, 1) := by decide +kernel
theorem dX4_commonDivisor_19 : decode cX4_commonDivisor 19 = .ok (.lcmp, 1) := by decide +kernel
theorem dX4_commonDivisor_20 : decode cX4_commonDivisor 20 = .ok (.ifCond .eq 24, 3) := by decide +kernel
theorem dX4_commonDivisor_23 : decode cX4_commonDivisor 23 = .ok (.lload 4, 2) := by decide +kernel
theorem dX4_commonDivisor_25 : decode cX4_commonDivisor 25 = .ok (.lload 6, 2) := by decide +kernel
theorem dX4_commonDivisor_27 : decode cX4_commonDivisor 27 = .ok (.lrem, 1) := by decide +kernel
theorem dX4_commonDivisor_28 : decode cX4_commonDivisor 28 = .ok (.lstore 9, 2) := by decide +kernel
theorem dX4_commonDivisor_30 : decode cX4_commonDivisor 30 = .ok (.lload 6, 2) := by decide +kernel
theorem dX4_commonDivisor_32 : decode cX4_commonDivisor 32 = .ok (.lstore 4, 2) := by decide +kernel
theorem dX4_commonDivisor_34 : decode cX4_commonDivisor 34 = .ok (.lload 9, 2) := by decide +kernel
theorem dX4_commonDivisor_36 : decode cX4_commonDivisor 36 = .ok (.lstore 6, 2) := by decide +kernel
theorem dX4_commonDivisor_38 : decode cX4_commonDivisor 38 = .ok (.iinc 8 1, 3) := by decide +kernel
theorem dX4_commonDivisor_41 : decode cX4_commonDivisor 41 = .ok (.goto (-32), 3) := by decide +kernel
theorem dX4_commonDivisor_44 : decode cX4_commonDivisor 44 = .ok (.lload 4, 2) := by decide +kernel
theorem dX4_commonDivisor_46 : decode cX4_commonDivisor 46 = .ok (.lreturn, 1) := by decide +kernel
theorem dX6_init_0 : decode cX6_init 0 = .ok (.aload_n 0, 1) := by decide +kernel
theorem dX6_init_1 : decode cX6_init 1 = .ok (.invokespecial 3, 3) := by decide +kernel
theorem dX6_init_4 : decode cX6_init 4 = .ok (.aload_n 0, 1) := by decide +kernel
theorem dX6_init_5 : decode cX6_init 5 = .ok (.iconst 4, 1) := by decide +kernel
theorem dX6_init_6 : decode cX6_init 6 = .ok (.bipush 24, 2) := by decide +kernel
theorem dX6_init_8 : decode cX6_init 8 = .ok (.multianewarray 11 2, 4) := by decide +kernel
theorem dX6_init_12 : decode cX6_init 12 = .ok (.putfield 13, 3) := by decide +kernel
theorem dX6_init_15 : decode cX6_init 15 = .ok (.aload_n 0, 1) := by decide +kernel
theorem dX6_init_16 : decode cX6_init 16 = .ok (.iconst 4, 1) := by decide +kernel
theorem dX6_init_17 : decode cX6_init 17 = .ok (.newarray .int, 2) := by decide +kernel
theorem dX6_init_19 : decode cX6_init 19 = .ok (.putfield 16, 3) := by decide +kernel
theorem dX6_init_22 : decode cX6_init 22 = .ok (.aload_n 0, 1) := by decide +kernel
theorem dX6_init_23 : decode cX6_init 23 = .ok (.iconst 4, 1) := by decide +kernel
theorem dX6_init_24 : decode cX6_init 24 = .ok (.newarray .int, 2) := by decide +kernel
theorem dX6_init_26 : decode cX6_init 26 = .ok (.putfield 20, 3) := by decide +kernel
theorem dX6_init_29 : decode cX6_init 29 = .ok (.aload_n 0, 1) := by decide +kernel
theorem dX6_init_30 : decode cX6_init 30 = .ok (.iconst 4, 1) := by decide +kernel
theorem dX6_init_31 : decode cX6_init 31 = .ok (.newarray .boolean, 2) := by decide +kernel
theorem dX6_init_33 : decode cX6_init 33 = .ok (.putfield 23, 3) := by decide +kernel
theorem dX6_init_36 : decode cX6_init 36 = .ok (.return_, 1) := by decide +kernel
theorem dX6_isSheet_0 : decode cX6_isSheet 0 = .ok (.iload_n 0, 1) := by decide +kernel
theorem dX6_isSheet_1 : decode cX6_isSheet 1 = .ok (.ifCond .lt 12, 3) := by decide +kernel
theorem dX6_isSheet_4 : decode cX6_isSheet 4 = .ok (.iload_n 0, 1) := by decide +kernel
theorem dX6_isSheet_5 : decode cX6_isSheet 5 = .ok (.iconst 4, 1) := by decide +kernel
theorem dX6_isSheet_6 : decode cX6_isSheet 6 = .ok (.if_icmp .ge 7, 3) := by decide +kernel
theorem dX6_isSheet_9 : decode cX6_isSheet 9 = .ok (.iconst 1, 1) := by decide +kernel
theorem dX6_isSheet_10 : decode cX6_isSheet 10 = .ok (.goto 4, 3) := by decide +kernel
theorem dX6_isSheet_13 : decode cX6_isSheet 13 = .ok (.iconst 0, 1) := by decide +kernel
theorem dX6_isSheet_14 : decode cX6_isSheet 14 = .ok (.ireturn, 1) := by decide +kernel
theorem dX6_isLane_0 : decode cX6_isLane 0 = .ok (.iload_n 0, 1) := by decide +kernel
theorem dX6_isLane_1 : decode cX6_isLane 1 = .ok (.invokestatic 27, 3) := by decide +kernel
theorem dX6_isLane_4 : decode cX6_isLane 4 = .ok (.ifCond .eq 16, 3) := by decide +kernel
theorem dX6_isLane_7 : decode cX6_isLane 7 = .ok (.iload_n 1, 1) := by decide +kernel
theorem dX6_isLane_8 : decode cX6_isLane 8 = .ok (.ifCond .lt 12, 3) := by decide +kernel
theorem dX6_isLane_11 : decode cX6_isLane 11 = .ok (.iload_n 1, 1) := by decide +kernel
theorem dX6_isLane_12 : decode cX6_isLane 12 = .ok (.iconst 3, 1) := by decide +kernel
theorem dX6_isLane_13 : decode cX6_isLane 13 = .ok (.if_icmp .ge 7, 3) := by decide +kernel
theorem dX6_isLane_16 : decode cX6_isLane 16 = .ok (.iconst 1, 1) := by decide +kernel
theorem dX6_isLane_17 : decode cX6_isLane 17 = .ok (.goto 4, 3) := by decide +kernel
theorem dX6_isLane_20 : decode cX6_isLane 20 = .ok (.iconst 0, 1) := by decide +kernel
theorem dX6_isLane_21 : decode cX6_isLane 21 = .ok (.ireturn, 1) := by decide +kernel
theorem dX6_isMissing_0 : decode cX6_isMissing 0 = .ok (.aload_n 0, 1) := by decide +kernel
theorem dX6_isMissing_1 : decode cX6_isMissing 1 = .ok (.getfield 23, 3) := by decide +kernel
theorem dX6_isMissing_4 : decode cX6_isMissing 4 = .ok (.iload_n 1, 1) := by decide +kernel
theorem dX6_isMissing_5 : decode cX6_isMissing 5 = .ok (.baload, 1) := by decide +kernel
theorem dX6_isMissing_6 : decode cX6_isMissing 6 = .ok (.ifCond .ne 7, 3) := by decide +kernel
theorem dX6_isMissing_9 : decode cX6_isMissing 9 = .ok (.iconst 1, 1) := by decide +kernel
theorem dX6_isMissing_10 : decode cX6_isMissing 10 = .ok (.goto 4, 3) := by decide +kernel
theorem dX6_isMissing_13 : decode cX6_isMissing 13 = .ok (.iconst 0, 1) := by decide +kernel
theorem dX6_isMissing_14 : decode cX6_isMissing 14 = .ok (.ireturn, 1) := by decide +kernel
theorem dX6_fault_0 : decode cX6_fault 0 = .ok (.aload_n 0, 1) := by decide +kernel
theorem dX6_fault_1 : decode cX6_fault 1 = .ok (.iload_n 1, 1) := by decide +kernel
theorem dX6_fault_2 : decode cX6_fault 2 = .ok (.invokevirtual 31, 3) := by decide +kernel
theorem dX6_fault_5 : decode cX6_fault 5 = .ok (.ifCond .eq 6, 3) := by decide +kernel
theorem dX6_fault_8 : decode cX6_fault 8 = .ok (.bipush (-11), 2) := by decide +kernel
theorem dX6_fault_10 : decode cX6_fault 10 = .ok (.ireturn, 1) := by decide +kernel
theorem dX6_fault_11 : decode cX6_fault 11 = .ok (.aload_n 0, 1) := by decide +kernel
theorem dX6_fault_12 : decode cX6_fault 12 = .ok (.getfield 16, 3) := by decide +kernel
theorem dX6_fault_15 : decode cX6_fault 15 = .ok (.iload_n 1, 1) := by decide +kernel
theorem dX6_fault_16 : decode cX6_fault 16 = .ok (.iaload, 1) := by decide +kernel
theorem dX6_fault_17 : decode cX6_fault 17 = .ok (.iload_n 2, 1) := by decide +kernel
theorem dX6_fault_18 : decode cX6_fault 18 = .ok (.if_icmp .eq 6, 3) := by decide +kernel
theorem dX6_fault_21 : decode cX6_fault 21 = .ok (.bipush (-12), 2) := by decide +kernel
theorem dX6_fault_23 : decode cX6_fault 23 = .ok (.ireturn, 1) := by decide +kernel
theorem dX6_fault_24 : decode cX6_fault 24 = .ok (.aload_n 0, 1) := by decide +kernel
theorem dX6_fault_25 : decode cX6_fault 25 = .ok (.iload_n 1, 1) := by decide +kernel
theorem dX6_fault_26 : decode cX6_fault 26 = .ok (.iload_n 3, 1) := by decide +kernel
theorem dX6_fault_27 : decode cX6_fault 27 = .ok (.iload 4, 2) := by decide +kernel
theorem dX6_fault_29 : decode cX6_fault 29 = .ok (.invokevirtual 34, 3) := by decide +kernel
theorem dX6_fault_32 : decode cX6_fault 32 = .ok (.ifCond .eq 7, 3) := by decide +kernel
theorem dX6_fault_35 : decode cX6_fault 35 = .ok (.iconst 0, 1) := by decide +kernel
theorem dX6_fault_36 : decode cX6_fault 36 = .ok (.goto 5, 3) := by decide +kernel
theorem dX6_fault_39 : decode cX6_fault 39 = .ok (.bipush (-13), 2) := by decide +kernel
theorem dX6_fault_41 : decode cX6_fault 41 = .ok (.ireturn, 1) := by decide +kernel
theorem dX6_holds_0 : decode cX6_holds 0 = .ok (.iload_n 2, 1) := by decide +kernel
theorem dX6_holds_1 : decode cX6_holds 1 = .ok (.ifCond .lt 23, 3) := by decide +kernel
theorem dX6_holds_4 : decode cX6_holds 4 = .ok (.iload_n 3, 1) := by decide +kernel
theorem dX6_holds_5 : decode cX6_holds 5 = .ok (.ifCond .lt 19, 3) := by decide +kernel
theorem dX6_holds_8 : decode cX6_holds 8 = .ok (.iload_n 2, 1) := by decide +kernel
theorem dX6_holds_9 : decode cX6_holds 9 = .ok (.aload_n 0, 1) := by decide +kernel
theorem dX6_holds_10 : decode cX6_holds 10 = .ok (.getfield 20, 3) := by decide +kernel
theorem dX6_holds_13 : decode cX6_holds 13 = .ok (.iload_n 1, 1) := by decide +kernel
theorem dX6_holds_14 : decode cX6_holds 14 = .ok (.iaload, 1) := by decide +kernel
theorem dX6_holds_15 : decode cX6_holds 15 = .ok (.iload_n 3, 1) := by decide +kernel
theorem dX6_holds_16 : decode cX6_holds 16 = .ok (.isub, 1) := by decide +kernel
theorem dX6_holds_17 : decode cX6_holds 17 = .ok (.if_icmp .gt 7, 3) := by decide +kernel
theorem dX6_holds_20 : decode cX6_holds 20 = .ok (.iconst 1, 1) := by decide +kernel
theorem dX6_holds_21 : decode cX6_holds 21 = .ok (.goto 4, 3) := by decide +kernel
theorem dX6_holds_24 : decode cX6_holds 24 = .ok (.iconst 0, 1) := by decide +kernel
theorem dX6_holds_25 : decode cX6_holds 25 = .ok (.ireturn, 1) := by decide +kernel
theorem dX6_renew_0 : decode cX6_renew 0 = .ok (.aload_n 0, 1) := by decide +kernel
theorem dX6_renew_1 : decode cX6_renew 1 = .ok (.getfield 13, 3) := by decide +kernel
theorem dX6_renew_4 : decode cX6_renew 4 = .ok (.iload_n 1, 1) := by decide +kernel
theorem dX6_renew_5 : decode cX6_renew 5 = .ok (.aaload, 1) := by decide +kernel
theorem dX6_renew_6 : decode cX6_renew 6 = .ok (.lconst 0, 1) := by decide +kernel
theorem dX6_renew_7 : decode cX6_renew 7 = .ok (.invokestatic 38, 3) := by decide +kernel
theorem dX6_renew_10 : decode cX6_renew 10 = .ok (.aload_n 0, 1) := by decide +kernel
theorem dX6_renew_11 : decode cX6_renew 11 = .ok (.getfield 16, 3) := by decide +kernel
theorem dX6_renew_14 : decode cX6_renew 14 = .ok (.iload_n 1, 1) := by decide +kernel
theorem dX6_renew_15 : decode cX6_renew 15 = .ok (.iload_n 2, 1) := by decide +kernel
theorem dX6_renew_16 : decode cX6_renew 16 = .ok (.iastore, 1) := by decide +kernel
theorem dX6_renew_17 : decode cX6_renew 17 = .ok (.aload_n 0, 1) := by decide +kernel
theorem dX6_renew_18 : decode cX6_renew 18 = .ok (.getfield 20, 3) := by decide +kernel
theorem dX6_renew_21 : decode cX6_renew 21 = .ok (.iload_n 1, 1) := by decide +kernel
theorem dX6_renew_22 : decode cX6_renew 22 = .ok (.iload_n 3, 1) := by decide +kernel
theorem dX6_renew_23 : decode cX6_renew 23 = .ok (.iastore, 1) := by decide +kernel
theorem dX6_renew_24 : decode cX6_renew 24 = .ok (.aload_n 0, 1) := by decide +kernel
theorem dX6_renew_25 : decode cX6_renew 25 = .ok (.getfield 23, 3) := by decide +kernel
theorem dX6_renew_28 : decode cX6_renew 28 = .ok (.iload_n 1, 1) := by decide +kernel
theorem dX6_renew_29 : decode cX6_renew 29 = .ok (.iconst 1, 1) := by decide +kernel
theorem dX6_renew_30 : decode cX6_renew 30 = .ok (.bastore, 1) := by decide +kernel
theorem dX6_renew_31 : decode cX6_renew 31 = .ok (.return_, 1) := by decide +kernel
theorem dX6_empty_0 : decode cX6_empty 0 = .ok (.aload_n 0, 1) := by decide +kernel
theorem dX6_empty_1 : decode cX6_empty 1 = .ok (.getfield 23, 3) := by decide +kernel
theorem dX6_empty_4 : decode cX6_empty 4 = .ok (.iload_n 1, 1) := by decide +kernel
theorem dX6_empty_5 : decode cX6_empty 5 = .ok (.iconst 0, 1) := by decide +kernel
theorem dX6_empty_6 : decode cX6_empty 6 = .ok (.bastore, 1) := by decide +kernel
theorem dX6_empty_7 : decode cX6_empty 7 = .ok (.aload_n 0, 1) := by decide +kernel
theorem dX6_empty_8 : decode cX6_empty 8 = .ok (.getfield 20, 3) := by decide +kernel
theorem dX6_empty_11 : decode cX6_empty 11 = .ok (.iload_n 1, 1) := by decide +kernel
theorem dX6_empty_12 : decode cX6_empty 12 = .ok (.iaload, 1) := by decide +kernel
theorem dX6_empty_13 : decode cX6_empty 13 = .ok (.ireturn, 1) := by decide +kernel
theorem dX6_put_0 : decode cX6_put 0 = .ok (.aload_n 0, 1) := by decide +kernel
theorem dX6_put_1 : decode cX6_put 1 = .ok (.getfield 16, 3) := by decide +kernel
theorem dX6_put_4 : decode cX6_put 4 = .ok (.iload_n 1, 1) := by decide +kernel
theorem dX6_put_5 : decode cX6_put 5 = .ok (.iaload, 1) := by decide +kernel
theorem dX6_put_6 : decode cX6_put 6 = .ok (.ifCond .ne 18, 3) := by decide +kernel
theorem dX6_put_9 : decode cX6_put 9 = .ok (.aload_n 0, 1) := by decide +kernel
theorem dX6_put_10 : decode cX6_put 10 = .ok (.getfield 13, 3) := by decide +kernel
theorem dX6_put_13 : decode cX6_put 13 = .ok (.iload_n 1, 1) := by decide +kernel
theorem dX6_put_14 : decode cX6_put 14 = .ok (.aaload, 1) := by decide +kernel
theorem dX6_put_15 : decode cX6_put 15 = .ok (.iload_n 2, 1) := by decide +kernel
theorem dX6_put_16 : decode cX6_put 16 = .ok (.lload_n 3, 1) := by decide +kernel
theorem dX6_put_17 : decode cX6_put 17 = .ok (.l2i, 1) := by decide +kernel
theorem dX6_put_18 : decode cX6_put 18 = .ok (.i2s, 1) := by decide +kernel
theorem dX6_put_19 : decode cX6_put 19 = .ok (.i2l, 1) := by decide +kernel
theorem dX6_put_20 : decode cX6_put 20 = .ok (.lastore, 1) := by decide +kernel
theorem dX6_put_21 : decode cX6_put 21 = .ok (.goto 28, 3) := by decide +kernel
theorem dX6_put_24 : decode cX6_put 24 = .ok (.aload_n 0, 1) := by decide +kernel
theorem dX6_put_25 : decode cX6_put 25 = .ok (.getfield 13, 3) := by decide +kernel
theorem dX6_put_28 : decode cX6_put 28 = .ok (.iload_n 1, 1) := by decide +kernel
theorem dX6_put_29 : decode cX6_put 29 = .ok (.aaload, 1) := by decide +kernel
theorem dX6_put_30 : decode cX6_put 30 = .ok (.iload_n 2, 1) := by decide +kernel
theorem dX6_put_31 : decode cX6_put 31 = .ok (.aload_n 0, 1) := by decide +kernel
theorem dX6_put_32 : decode cX6_put 32 = .ok (.getfield 16, 3) := by decide +kernel
theorem dX6_put_35 : decode cX6_put 35 = .ok (.iload_n 1, 1) := by decide +kernel
theorem dX6_put_36 : decode cX6_put 36 = .ok (.iaload, 1) := by decide +kernel
theorem dX6_put_37 : decode cX6_put 37 = .ok (.iconst 1, 1) := by decide +kernel
theorem dX6_put_38 : decode cX6_put 38 = .ok (.if_icmp .ne 9, 3) := by decide +kernel
theorem dX6_put_41 : decode cX6_put 41 = .ok (.lload_n 3, 1) := by decide +kernel
theorem dX6_put_42 : decode cX6_put 42 = .ok (.l2i, 1) := by decide +kernel
theorem dX6_put_43 : decode cX6_put 43 = .ok (.i2l, 1) := by decide +kernel
theorem dX6_put_44 : decode cX6_put 44 = .ok (.goto 4, 3) := by decide +kernel
theorem dX6_put_47 : decode cX6_put 47 = .ok (.lload_n 3, 1) := by decide +kernel
theorem dX6_put_48 : decode cX6_put 48 = .ok (.lastore, 1) := by decide +kernel
theorem dX6_put_49 : decode cX6_put 49 = .ok (.return_, 1) := by decide +kernel
theorem dX9_init_0 : decode cX9_init 0 = .ok (.aload_n 0, 1) := by decide +kernel
theorem dX9_init_1 : decode cX9_init 1 = .ok (.invokespecial 5, 3) := by decide +kernel
theorem dX9_init_4 : decode cX9_init 4 = .ok (.aload_n 0, 1) := by decide +kernel
theorem dX9_init_5 : decode cX9_init 5 = .ok (.bipush 8, 2) := by decide +kernel
theorem dX9_init_7 : decode cX9_init 7 = .ok (.newarray .int, 2) := by decide +kernel
theorem dX9_init_9 : decode cX9_init 9 = .ok (.putfield 11, 3) := by decide +kernel
theorem dX9_init_12 : decode cX9_init 12 = .ok (.aload_n 0, 1) := by decide +kernel
theorem dX9_init_13 : decode cX9_init 13 = .ok (.bipush 8, 2) := by decide +kernel
theorem dX9_init_15 : decode cX9_init 15 = .ok (.newarray .int, 2) := by decide +kernel
theorem dX9_init_17 : decode cX9_init 17 = .ok (.putfield 17, 3) := by decide +kernel
theorem dX9_init_20 : decode cX9_init 20 = .ok (.aload_n 0, 1) := by decide +kernel
theorem dX9_init_21 : decode cX9_init 21 = .ok (.bipush 8, 2) := by decide +kernel
theorem dX9_init_23 : decode cX9_init 23 = .ok (.newarray .int, 2) := by decide +kernel
theorem dX9_init_25 : decode cX9_init 25 = .ok (.putfield 20, 3) := by decide +kernel
theorem dX9_init_28 : decode cX9_init 28 = .ok (.aload_n 0, 1) := by decide +kernel
theorem dX9_init_29 : decode cX9_init 29 = .ok (.bipush 8, 2) := by decide +kernel
theorem dX9_init_31 : decode cX9_init 31 = .ok (.newarray .int, 2) := by decide +kernel
theorem dX9_init_33 : decode cX9_init 33 = .ok (.putfield 23, 3) := by decide +kernel
theorem dX9_init_36 : decode cX9_init 36 = .ok (.aload_n 0, 1) := by decide +kernel
theorem dX9_init_37 : decode cX9_init 37 = .ok (.aload_n 1, 1) := by decide +kernel
theorem dX9_init_38 : decode cX9_init 38 = .ok (.putfield 26, 3) := by decide +kernel
theorem dX9_init_41 : decode cX9_init 41 = .ok (.aload_n 0, 1) := by decide +kernel
theorem dX9_init_42 : decode cX9_init 42 = .ok (.aload_n 2, 1) := by decide +kernel
theorem dX9_init_43 : decode cX9_init 43 = .ok (.putfield 30, 3) := by decide +kernel
theorem dX9_init_46 : decode cX9_init 46 = .ok (.return_, 1) := by decide +kernel
theorem dX9_best_0 : decode cX9_best 0 = .ok (.aload_n 0, 1) := by decide +kernel
theorem dX9_best_1 : decode cX9_best 1 = .ok (.iload_n 1, 1) := by decide +kernel
theorem dX9_best_2 : decode cX9_best 2 = .ok (.iload_n 2, 1) := by decide +kernel
theorem dX9_best_3 : decode cX9_best 3 = .ok (.invokevirtual 34, 3) := by decide +kernel
theorem dX9_best_6 : decode cX9_best 6 = .ok (.iconst (-1), 1) := by decide +kernel
theorem dX9_best_7 : decode cX9_best 7 = .ok (.istore_n 3, 1) := by decide +kernel
theorem dX9_best_8 : decode cX9_best 8 = .ok (.iconst 0, 1) := by decide +kernel
theorem dX9_best_9 : decode cX9_best 9 = .ok (.istore 4, 2) := by decide +kernel
theorem dX9_best_11 : decode cX9_best 11 = .ok (.iload 4, 2) := by decide +kernel
theorem dX9_best_13 : decode cX9_best 13 = .ok (.aload_n 0, 1) := by decide +kernel
theorem dX9_best_14 : decode cX9_best 14 = .ok (.getfield 30, 3) := by decide +kernel
theorem dX9_best_17 : decode cX9_best 17 = .ok (.getfield 38, 3) := by decide +kernel
theorem dX9_best_20 : decode cX9_best 20 = .ok (.if_icmp .ge 106, 3) := by decide +kernel
theorem dX9_best_23 : decode cX9_best 23 = .ok (.iconst 0, 1) := by decide +kernel
theorem dX9_best_24 : decode cX9_best 24 = .ok (.istore 5, 2) := by decide +kernel
theorem dX9_best_26 : decode cX9_best 26 = .ok (.iload 5, 2) := by decide +kernel
theorem dX9_best_28 : decode cX9_best 28 = .ok (.aload_n 0, 1) := by decide +kernel
theorem dX9_best_29 : decode cX9_best 29 = .ok (.getfield 30, 3) := by decide +kernel
theorem dX9_best_32 : decode cX9_best 32 = .ok (.getfield 38, 3) := by decide +kernel
theorem dX9_best_35 : decode cX9_best 35 = .ok (.if_icmp .ge 85, 3) := by decide +kernel
theorem dX9_best_38 : decode cX9_best 38 = .ok (.aload_n 0, 1) := by decide +kernel
theorem dX9_best_39 : decode cX9_best 39 = .ok (.getfield 30, 3) := by decide +kernel
theorem dX9_best_42 : decode cX9_best 42 = .ok (.iload 4, 2) := by decide +kernel
theorem dX9_best_44 : decode cX9_best 44 = .ok (.iload 5, 2) := by decide +kernel
theorem dX9_best_46 : decode cX9_best 46 = .ok (.invokevirtual 42, 3) := by decide +kernel
theorem dX9_best_49 : decode cX9_best 49 = .ok (.ifCond .eq 65, 3) := by decide +kernel
theorem dX9_best_52 : decode cX9_best 52 = .ok (.aload_n 0, 1) := by decide +kernel
theorem dX9_best_53 : decode cX9_best 53 = .ok (.getfield 11, 3) := by decide +kernel
theorem dX9_best_56 : decode cX9_best 56 = .ok (.iload 5, 2) := by decide +kernel
theorem dX9_best_58 : decode cX9_best 58 = .ok (.iaload, 1) := by decide +kernel
theorem dX9_best_59 : decode cX9_best 59 = .ok (.aload_n 0, 1) := by decide +kernel
theorem dX9_best_60 : decode cX9_best 60 = .ok (.getfield 11, 3) := by decide +kernel
theorem dX9_best_63 : decode cX9_best 63 = .ok (.iload 4, 2) := by decide +kernel
theorem dX9_best_65 : decode cX9_best 65 = .ok (.iaload, 1) := by decide +kernel
theorem dX9_best_66 : decode cX9_best 66 = .ok (.isub, 1) := by decide +kernel
theorem dX9_best_67 : decode cX9_best 67 = .ok (.aload_n 0, 1) := by decide +kernel
theorem dX9_best_68 : decode cX9_best 68 = .ok (.getfield 30, 3) := by decide +kernel
theorem dX9_best_71 : decode cX9_best 71 = .ok (.getfield 46, 3) := by decide +kernel
theorem dX9_best_74 : decode cX9_best 74 = .ok (.iload 4, 2) := by decide +kernel
theorem dX9_best_76 : decode cX9_best 76 = .ok (.bipush 8, 2) := by decide +kernel
theorem dX9_best_78 : decode cX9_best 78 = .ok (.imul, 1) := by decide +kernel
theorem dX9_best_79 : decode cX9_best 79 = .ok (.iload 5, 2) := by decide +kernel
theorem dX9_best_81 : decode cX9_best 81 = .ok (.iadd, 1) := by decide +kernel
theorem dX9_best_82 : decode cX9_best 82 = .ok (.iaload, 1) := by decide +kernel
theorem dX9_best_83 : decode cX9_best 83 = .ok (.isub, 1) := by decide +kernel
theorem dX9_best_84 : decode cX9_best 84 = .ok (.istore 6, 2) := by decide +kernel
theorem dX9_best_86 : decode cX9_best 86 = .ok (.iload_n 3, 1) := by decide +kernel
theorem dX9_best_87 : decode cX9_best 87 = .ok (.ifCond .lt 12, 3) := by decide +kernel
theorem dX9_best_90 : decode cX9_best 90 = .ok (.iload 6, 2) := by decide +kernel
theorem dX9_best_92 : decode cX9_best 92 = .ok (.aload_n 0, 1) := by decide +kernel
theorem dX9_best_93 : decode cX9_best 93 = .ok (.getfield 49, 3) := by decide +kernel
theorem dX9_best_96 : decode cX9_best 96 = .ok (.if_icmp .le 18, 3) := by decide +kernel
theorem dX9_best_99 : decode cX9_best 99 = .ok (.bipush 10, 2) := by decide +kernel
theorem dX9_best_101 : decode cX9_best 101 = .ok (.iload 4, 2) := by decide +kernel
theorem dX9_best_103 : decode cX9_best 103 = .ok (.imul, 1) := by decide +kernel
theorem dX9_best_104 : decode cX9_best 104 = .ok (.iload 5, 2) := by decide +kernel
theorem dX9_best_106 : decode cX9_best 106 = .ok (.iadd, 1) := by decide +kernel
theorem dX9_best_107 : decode cX9_best 107 = .ok (.istore_n 3, 1) := by decide +kernel
theorem dX9_best_108 : decode cX9_best 108 = .ok (.aload_n 0, 1) := by decide +kernel
theorem dX9_best_109 : decode cX9_best 109 = .ok (.iload 6, 2) := by decide +kernel
theorem dX9_best_111 : decode cX9_best 111 = .ok (.putfield 49, 3) := by decide +kernel
theorem dX9_best_114 : decode cX9_best 114 = .ok (.iinc 5 1, 3) := by decide +kernel
theorem dX9_best_117 : decode cX9_best 117 = .ok (.goto (-91), 3) := by decide +kernel
theorem dX9_best_120 : decode cX9_best 120 = .ok (.iinc 4 1, 3) := by decide +kernel
theorem dX9_best_123 : decode cX9_best 123 = .ok (.goto (-112), 3) := by decide +kernel
theorem dX9_best_126 : decode cX9_best 126 = .ok (.iload_n 3, 1) := by decide +kernel
theorem dX9_best_127 : decode cX9_best 127 = .ok (.ireturn, 1) := by decide +kernel
theorem dX9_law_0 : decode cX9_law 0 = .ok (.aload_n 0, 1) := by decide +kernel
theorem dX9_law_1 : decode cX9_law 1 = .ok (.iload_n 1, 1) := by decide +kernel
theorem dX9_law_2 : decode cX9_law 2 = .ok (.iload_n 2, 1) := by decide +kernel
theorem dX9_law_3 : decode cX9_law 3 = .ok (.invokevirtual 34, 3) := by decide +kernel
theorem dX9_law_6 : decode cX9_law 6 = .ok (.aload_n 0, 1) := by decide +kernel
theorem dX9_law_7 : decode cX9_law 7 = .ok (.aload_n 0, 1) := by decide +kernel
theorem dX9_law_8 : decode cX9_law 8 = .ok (.getfield 26, 3) := by decide +kernel
theorem dX9_law_11 : decode cX9_law 11 = .ok (.getfield 52, 3) := by decide +kernel
theorem dX9_law_14 : decode cX9_law 14 = .ok (.iload_n 1, 1) := by decide +kernel
theorem dX9_law_15 : decode cX9_law 15 = .ok (.iaload, 1) := by decide +kernel
theorem dX9_law_16 : decode cX9_law 16 = .ok (.iconst 5, 1) := by decide +kernel
theorem dX9_law_17 : decode cX9_law 17 = .ok (.imul, 1) := by decide +kernel
theorem dX9_law_18 : decode cX9_law 18 = .ok (.aload_n 0, 1) := by decide +kernel
theorem dX9_law_19 : decode cX9_law 19 = .ok (.getfield 26, 3) := by decide +kernel
theorem dX9_law_22 : decode cX9_law 22 = .ok (.getfield 57, 3) := by decide +kernel
theorem dX9_law_25 : decode cX9_law 25 = .ok (.iload_n 1, 1) := by decide +kernel
theorem dX9_law_26 : decode cX9_law 26 = .ok (.iaload, 1) := by decide +kernel
theorem dX9_law_27 : decode cX9_law 27 = .ok (.imul, 1) := by decide +kernel
theorem dX9_law_28 : decode cX9_law 28 = .ok (.invokevirtual 60, 3) := by decide +kernel
theorem dX9_law_31 : decode cX9_law 31 = .ok (.iconst 1, 1) := by decide +kernel
theorem dX9_law_32 : decode cX9_law 32 = .ok (.aload_n 0, 1) := by decide +kernel
theorem dX9_law_33 : decode cX9_law 33 = .ok (.getfield 30, 3) := by decide +kernel
theorem dX9_law_36 : decode cX9_law 36 = .ok (.getfield 38, 3) := by decide +kernel
theorem dX9_law_39 : decode cX9_law 39 = .ok (.ishl, 1) := by decide +kernel
theorem dX9_law_40 : decode cX9_law 40 = .ok (.iconst 1, 1) := by decide +kernel
theorem dX9_law_41 : decode cX9_law 41 = .ok (.isub, 1) := by decide +kernel
theorem dX9_law_42 : decode cX9_law 42 = .ok (.istore_n 3, 1) := by decide +kernel
theorem dX9_law_43 : decode cX9_law 43 = .ok (.iload_n 3, 1) := by decide +kernel
theorem dX9_law_44 : decode cX9_law 44 = .ok (.istore 4, 2) := by decide +kernel
theorem dX9_law_46 : decode cX9_law 46 = .ok (.iconst 0, 1) := by decide +kernel
theorem dX9_law_47 : decode cX9_law 47 = .ok (.istore 5, 2) := by decide +kernel
theorem dX9_law_49 : decode cX9_law 49 = .ok (.iload 5, 2) := by decide +kernel
theorem dX9_law_51 : decode cX9_law 51 = .ok (.iload_n 3, 1) := by decide +kernel
theorem dX9_law_52 : decode cX9_law 52 = .ok (.if_icmp .ge 35, 3) := by decide +kernel
theorem dX9_law_55 : decode cX9_law 55 = .ok (.iload 5, 2) := by decide +kernel
theorem dX9_law_57 : decode cX9_law 57 = .ok (.invokestatic 64, 3) := by decide +kernel
theorem dX9_law_60 : decode cX9_law 60 = .ok (.iload 4, 2) := by decide +kernel
theorem dX9_law_62 : decode cX9_law 62 = .ok (.invokestatic 64, 3) := by decide +kernel
theorem dX9_law_65 : decode cX9_law 65 = .ok (.if_icmp .ge 16, 3) := by decide +kernel
theorem dX9_law_68 : decode cX9_law 68 = .ok (.aload_n 0, 1) := by decide +kernel
theorem dX9_law_69 : decode cX9_law 69 = .ok (.iload 5, 2) := by decide +kernel
theorem dX9_law_71 : decode cX9_law 71 = .ok (.invokevirtual 70, 3) := by decide +kernel
theorem dX9_law_74 : decode cX9_law 74 = .ok (.ifCond .eq 7, 3) := by decide +kernel
theorem dX9_law_77 : decode cX9_law 77 = .ok (.iload 5, 2) := by decide +kernel
theorem dX9_law_79 : decode cX9_law 79 = .ok (.istore 4, 2) := by decide +kernel
theorem dX9_law_81 : decode cX9_law 81 = .ok (.iinc 5 1, 3) := by decide +kernel
theorem dX9_law_84 : decode cX9_law 84 = .ok (.goto (-35), 3) := by decide +kernel
theorem dX9_law_87 : decode cX9_law 87 = .ok (.iload 4, 2) := by decide +kernel
theorem dX9_law_89 : decode cX9_law 89 = .ok (.ireturn, 1) := by decide +kernel
theorem dX9_findValues_0 : decode cX9_findValues 0 = .ok (.aload_n 0, 1) := by decide +kernel
theorem dX9_findValues_1 : decode cX9_findValues 1 = .ok (.getfield 30, 3) := by decide +kernel
theorem dX9_findValues_4 : decode cX9_findValues 4 = .ok (.iload_n 2, 1) := by decide +kernel
theorem dX9_findValues_5 : decode cX9_findValues 5 = .ok (.invokevirtual 74, 3) := by decide +kernel
theorem dX9_findValues_8 : decode cX9_findValues 8 = .ok (.aload_n 0, 1) := by decide +kernel
theorem dX9_findValues_9 : decode cX9_findValues 9 = .ok (.getfield 30, 3) := by decide +kernel
theorem dX9_findValues_12 : decode cX9_findValues 12 = .ok (.aload_n 0, 1) := by decide +kernel
theorem dX9_findValues_13 : decode cX9_findValues 13 = .ok (.getfield 26, 3) := by decide +kernel
theorem dX9_findValues_16 : decode cX9_findValues 16 = .ok (.getfield 57, 3) := by decide +kernel
theorem dX9_findValues_19 : decode cX9_findValues 19 = .ok (.iload_n 1, 1) := by decide +kernel
theorem dX9_findValues_20 : decode cX9_findValues 20 = .ok (.iaload, 1) := by decide +kernel
theorem dX9_findValues_21 : decode cX9_findValues 21 = .ok (.invokevirtual 77, 3) := by decide +kernel
theorem dX9_findValues_24 : decode cX9_findValues 24 = .ok (.aload_n 0, 1) := by decide +kernel
theorem dX9_findValues_25 : decode cX9_findValues 25 = .ok (.getfield 30, 3) := by decide +kernel
theorem dX9_findValues_28 : decode cX9_findValues 28 = .ok (.invokevirtual 80, 3) := by decide +kernel
theorem dX9_findValues_31 : decode cX9_findValues 31 = .ok (.iconst 0, 1) := by decide +kernel
theorem dX9_findValues_32 : decode cX9_findValues 32 = .ok (.istore_n 3, 1) := by decide +kernel
theorem dX9_findValues_33 : decode cX9_findValues 33 = .ok (.iload_n 3, 1) := by decide +kernel
theorem dX9_findValues_34 : decode cX9_findValues 34 = .ok (.aload_n 0, 1) := by decide +kernel
theorem dX9_findValues_35 : decode cX9_findValues 35 = .ok (.getfield 30, 3) := by decide +kernel
theorem dX9_findValues_38 : decode cX9_findValues 38 = .ok (.getfield 38, 3) := by decide +kernel
theorem dX9_findValues_41 : decode cX9_findValues 41 = .ok (.if_icmp .ge 34, 3) := by decide +kernel
theorem dX9_findValues_44 : decode cX9_findValues 44 = .ok (.aload_n 0, 1) := by decide +kernel
theorem dX9_findValues_45 : decode cX9_findValues 45 = .ok (.getfield 11, 3) := by decide +kernel
theorem dX9_findValues_48 : decode cX9_findValues 48 = .ok (.iload_n 3, 1) := by decide +kernel
theorem dX9_findValues_49 : decode cX9_findValues 49 = .ok (.aload_n 0, 1) := by decide +kernel
theorem dX9_findValues_50 : decode cX9_findValues 50 = .ok (.getfield 26, 3) := by decide +kernel
theorem dX9_findValues_53 : decode cX9_findValues 53 = .ok (.getfield 52, 3) := by decide +kernel
theorem dX9_findValues_56 : decode cX9_findValues 56 = .ok (.iload_n 1, 1) := by decide +kernel
theorem dX9_findValues_57 : decode cX9_findValues 57 = .ok (.iaload, 1) := by decide +kernel
theorem dX9_findValues_58 : decode cX9_findValues 58 = .ok (.aload_n 0, 1) := by decide +kernel
theorem dX9_findValues_59 : decode cX9_findValues 59 = .ok (.getfield 30, 3) := by decide +kernel
theorem dX9_findValues_62 : decode cX9_findValues 62 = .ok (.getfield 83, 3) := by decide +kernel
theorem dX9_findValues_65 : decode cX9_findValues 65 = .ok (.iload_n 3, 1) := by decide +kernel
theorem dX9_findValues_66 : decode cX9_findValues 66 = .ok (.iaload, 1) := by decide +kernel
theorem dX9_findValues_67 : decode cX9_findValues 67 = .ok (.imul, 1) := by decide +kernel
theorem dX9_findValues_68 : decode cX9_findValues 68 = .ok (.iastore, 1) := by decide +kernel
theorem dX9_findValues_69 : decode cX9_findValues 69 = .ok (.iinc 3 1, 3) := by decide +kernel
theorem dX9_findValues_72 : decode cX9_findValues 72 = .ok (.goto (-39), 3) := by decide +kernel
theorem dX9_findValues_75 : decode cX9_findValues 75 = .ok (.return_, 1) := by decide +kernel
theorem dX9_findGains_0 : decode cX9_findGains 0 = .ok (.iconst 0, 1) := by decide +kernel
theorem dX9_findGains_1 : decode cX9_findGains 1 = .ok (.istore_n 2, 1) := by decide +kernel
theorem dX9_findGains_2 : decode cX9_findGains 2 = .ok (.iload_n 2, 1) := by decide +kernel
theorem dX9_findGains_3 : decode cX9_findGains 3 = .ok (.aload_n 0, 1) := by decide +kernel
theorem dX9_findGains_4 : decode cX9_findGains 4 = .ok (.getfield 30, 3) := by decide +kernel
theorem dX9_findGains_7 : decode cX9_findGains 7 = .ok (.getfield 38, 3) := by decide +kernel
theorem dX9_findGains_10 : decode cX9_findGains 10 = .ok (.if_icmp .ge 169, 3) := by decide +kernel
theorem dX9_findGains_13 : decode cX9_findGains 13 = .ok (.aload_n 0, 1) := by decide +kernel
theorem dX9_findGains_14 : decode cX9_findGains 14 = .ok (.getfield 17, 3) := by decide +kernel
theorem dX9_findGains_17 : decode cX9_findGains 17 = .ok (.iload_n 2, 1) := by decide +kernel
theorem dX9_findGains_18 : decode cX9_findGains 18 = .ok (.iconst 0, 1) := by decide +kernel
theorem dX9_findGains_19 : decode cX9_findGains 19 = .ok (.iastore, 1) := by decide +kernel
theorem dX9_findGains_20 : decode cX9_findGains 20 = .ok (.aload_n 0, 1) := by decide +kernel
theorem dX9_findGains_21 : decode cX9_findGains 21 = .ok (.getfield 20, 3) := by decide +kernel
theorem dX9_findGains_24 : decode cX9_findGains 24 = .ok (.iload_n 2, 1) := by decide +kernel
theorem dX9_findGains_25 : decode cX9_findGains 25 = .ok (.iconst 0, 1) := by decide +kernel
theorem dX9_findGains_26 : decode cX9_findGains 26 = .ok (.iastore, 1) := by decide +kernel
theorem dX9_findGains_27 : decode cX9_findGains 27 = .ok (.aload_n 0, 1) := by decide +kernel
theorem dX9_findGains_28 : decode cX9_findGains 28 = .ok (.getfield 23, 3) := by decide +kernel
theorem dX9_findGains_31 : decode cX9_findGains 31 = .ok (.iload_n 2, 1) := by decide +kernel
theorem dX9_findGains_32 : decode cX9_findGains 32 = .ok (.iconst 0, 1) := by decide +kernel
theorem dX9_findGains_33 : decode cX9_findGains 33 = .ok (.iastore, 1) := by decide +kernel
theorem dX9_findGains_34 : decode cX9_findGains 34 = .ok (.iconst 0, 1) := by decide +kernel
theorem dX9_findGains_35 : decode cX9_findGains 35 = .ok (.istore_n 3, 1) := by decide +kernel
theorem dX9_findGains_36 : decode cX9_findGains 36 = .ok (.iload_n 3, 1) := by decide +kernel
theorem dX9_findGains_37 : decode cX9_findGains 37 = .ok (.aload_n 0, 1) := by decide +kernel
theorem dX9_findGains_38 : decode cX9_findGains 38 = .ok (.getfield 30, 3) := by decide +kernel
theorem dX9_findGains_41 : decode cX9_findGains 41 = .ok (.getfield 38, 3) := by decide +kernel
theorem dX9_findGains_44 : decode cX9_findGains 44 = .ok (.if_icmp .ge 129, 3) := by decide +kernel
theorem dX9_findGains_47 : decode cX9_findGains 47 = .ok (.aload_n 0, 1) := by decide +kernel
theorem dX9_findGains_48 : decode cX9_findGains 48 = .ok (.getfield 30, 3) := by decide +kernel
theorem dX9_findGains_51 : decode cX9_findGains 51 = .ok (.iload_n 2, 1) := by decide +kernel
theorem dX9_findGains_52 : decode cX9_findGains 52 = .ok (.iload_n 3, 1) := by decide +kernel
theorem dX9_findGains_53 : decode cX9_findGains 53 = .ok (.invokevirtual 42, 3) := by decide +kernel
theorem dX9_findGains_56 : decode cX9_findGains 56 = .ok (.ifCond .eq 111, 3) := by decide +kernel
theorem dX9_findGains_59 : decode cX9_findGains 59 = .ok (.aload_n 0, 1) := by decide +kernel
theorem dX9_findGains_60 : decode cX9_findGains 60 = .ok (.getfield 30, 3) := by decide +kernel
theorem dX9_findGains_63 : decode cX9_findGains 63 = .ok (.getfield 46, 3) := by decide +kernel
theorem dX9_findGains_66 : decode cX9_findGains 66 = .ok (.iload_n 2, 1) := by decide +kernel
theorem dX9_findGains_67 : decode cX9_findGains 67 = .ok (.bipush 8, 2) := by decide +kernel
theorem dX9_findGains_69 : decode cX9_findGains 69 = .ok (.imul, 1) := by decide +kernel
theorem dX9_findGains_70 : decode cX9_findGains 70 = .ok (.iload_n 3, 1) := by decide +kernel
theorem dX9_findGains_71 : decode cX9_findGains 71 = .ok (.iadd, 1) := by decide +kernel
theorem dX9_findGains_72 : decode cX9_findGains 72 = .ok (.iaload, 1) := by decide +kernel
theorem dX9_findGains_73 : decode cX9_findGains 73 = .ok (.istore 4, 2) := by decide +kernel
theorem dX9_findGains_75 : decode cX9_findGains 75 = .ok (.aload_n 0, 1) := by decide +kernel
theorem dX9_findGains_76 : decode cX9_findGains 76 = .ok (.getfield 17, 3) := by decide +kernel
theorem dX9_findGains_79 : decode cX9_findGains 79 = .ok (.iload_n 2, 1) := by decide +kernel
theorem dX9_findGains_80 : decode cX9_findGains 80 = .ok (.dup2, 1) := by decide +kernel
theorem dX9_findGains_81 : decode cX9_findGains 81 = .ok (.iaload, 1) := by decide +kernel
theorem dX9_findGains_82 : decode cX9_findGains 82 = .ok (.aload_n 0, 1) := by decide +kernel
theorem dX9_findGains_83 : decode cX9_findGains 83 = .ok (.getfield 11, 3) := by decide +kernel
theorem dX9_findGains_86 : decode cX9_findGains 86 = .ok (.iload_n 3, 1) := by decide +kernel
theorem dX9_findGains_87 : decode cX9_findGains 87 = .ok (.iaload, 1) := by decide +kernel
theorem dX9_findGains_88 : decode cX9_findGains 88 = .ok (.aload_n 0, 1) := by decide +kernel
theorem dX9_findGains_89 : decode cX9_findGains 89 = .ok (.getfield 11, 3) := by decide +kernel
theorem dX9_findGains_92 : decode cX9_findGains 92 = .ok (.iload_n 2, 1) := by decide +kernel
theorem dX9_findGains_93 : decode cX9_findGains 93 = .ok (.iaload, 1) := by decide +kernel
theorem dX9_findGains_94 : decode cX9_findGains 94 = .ok (.isub, 1) := by decide +kernel
theorem dX9_findGains_95 : decode cX9_findGains 95 = .ok (.iload 4, 2) := by decide +kernel
theorem dX9_findGains_97 : decode cX9_findGains 97 = .ok (.if_icmp .le 9, 3) := by decide +kernel
theorem dX9_findGains_100 : decode cX9_findGains 100 = .ok (.iconst 1, 1) := by decide +kernel
theorem dX9_findGains_101 : decode cX9_findGains 101 = .ok (.iload_n 3, 1) := by decide +kernel
theorem dX9_findGains_102 : decode cX9_findGains 102 = .ok (.ishl, 1) := by decide +kernel
theorem dX9_findGains_103 : decode cX9_findGains 103 = .ok (.goto 4, 3) := by decide +kernel
theorem dX9_findGains_106 : decode cX9_findGains 106 = .ok (.iconst 0, 1) := by decide +kernel
theorem dX9_findGains_107 : decode cX9_findGains 107 = .ok (.ior, 1) := by decide +kernel
theorem dX9_findGains_108 : decode cX9_findGains 108 = .ok (.iastore, 1) := by decide +kernel
theorem dX9_findGains_109 : decode cX9_findGains 109 = .ok (.aload_n 0, 1) := by decide +kernel
theorem dX9_findGains_110 : decode cX9_findGains 110 = .ok (.getfield 20, 3) := by decide +kernel
theorem dX9_findGains_113 : decode cX9_findGains 113 = .ok (.iload_n 2, 1) := by decide +kernel
theorem dX9_findGains_114 : decode cX9_findGains 114 = .ok (.dup2, 1) := by decide +kernel
theorem dX9_findGains_115 : decode cX9_findGains 115 = .ok (.iaload, 1) := by decide +kernel
theorem dX9_findGains_116 : decode cX9_findGains 116 = .ok (.iload_n 1, 1) := by decide +kernel
theorem dX9_findGains_117 : decode cX9_findGains 117 = .ok (.aload_n 0, 1) := by decide +kernel
theorem dX9_findGains_118 : decode cX9_findGains 118 = .ok (.getfield 11, 3) := by decide +kernel
theorem dX9_findGains_121 : decode cX9_findGains 121 = .ok (.iload_n 2, 1) := by decide +kernel
theorem dX9_findGains_122 : decode cX9_findGains 122 = .ok (.iaload, 1) := by decide +kernel
theorem dX9_findGains_123 : decode cX9_findGains 123 = .ok (.isub, 1) := by decide +kernel
theorem dX9_findGains_124 : decode cX9_findGains 124 = .ok (.iload 4, 2) := by decide +kernel
theorem dX9_findGains_126 : decode cX9_findGains 126 = .ok (.if_icmp .le 9, 3) := by decide +kernel
theorem dX9_findGains_129 : decode cX9_findGains 129 = .ok (.iconst 1, 1) := by decide +kernel
theorem dX9_findGains_130 : decode cX9_findGains 130 = .ok (.iload_n 3, 1) := by decide +kernel
theorem dX9_findGains_131 : decode cX9_findGains 131 = .ok (.ishl, 1) := by decide +kernel
theorem dX9_findGains_132 : decode cX9_findGains 132 = .ok (.goto 4, 3) := by decide +kernel
theorem dX9_findGains_135 : decode cX9_findGains 135 = .ok (.iconst 0, 1) := by decide +kernel
theorem dX9_findGains_136 : decode cX9_findGains 136 = .ok (.ior, 1) := by decide +kernel
theorem dX9_findGains_137 : decode cX9_findGains 137 = .ok (.iastore, 1) := by decide +kernel
theorem dX9_findGains_138 : decode cX9_findGains 138 = .ok (.aload_n 0, 1) := by decide +kernel
theorem dX9_findGains_139 : decode cX9_findGains 139 = .ok (.getfield 23, 3) := by decide +kernel
theorem dX9_findGains_142 : decode cX9_findGains 142 = .ok (.iload_n 2, 1) := by decide +kernel
theorem dX9_findGains_143 : decode cX9_findGains 143 = .ok (.dup2, 1) := by decide +kernel
theorem dX9_findGains_144 : decode cX9_findGains 144 = .ok (.iaload, 1) := by decide +kernel
theorem dX9_findGains_145 : decode cX9_findGains 145 = .ok (.aload_n 0, 1) := by decide +kernel
theorem dX9_findGains_146 : decode cX9_findGains 146 = .ok (.getfield 11, 3) := by decide +kernel
theorem dX9_findGains_149 : decode cX9_findGains 149 = .ok (.iload_n 3, 1) := by decide +kernel
theorem dX9_findGains_150 : decode cX9_findGains 150 = .ok (.iaload, 1) := by decide +kernel
theorem dX9_findGains_151 : decode cX9_findGains 151 = .ok (.iload_n 1, 1) := by decide +kernel
theorem dX9_findGains_152 : decode cX9_findGains 152 = .ok (.isub, 1) := by decide +kernel
theorem dX9_findGains_153 : decode cX9_findGains 153 = .ok (.iload 4, 2) := by decide +kernel
theorem dX9_findGains_155 : decode cX9_findGains 155 = .ok (.if_icmp .le 9, 3) := by decide +kernel
theorem dX9_findGains_158 : decode cX9_findGains 158 = .ok (.iconst 1, 1) := by decide +kernel
theorem dX9_findGains_159 : decode cX9_findGains 159 = .ok (.iload_n 3, 1) := by decide +kernel
theorem dX9_findGains_160 : decode cX9_findGains 160 = .ok (.ishl, 1) := by decide +kernel
theorem dX9_findGains_161 : decode cX9_findGains 161 = .ok (.goto 4, 3) := by decide +kernel
theorem dX9_findGains_164 : decode cX9_findGains 164 = .ok (.iconst 0, 1) := by decide +kernel
theorem dX9_findGains_165 : decode cX9_findGains 165 = .ok (.ior, 1) := by decide +kernel
theorem dX9_findGains_166 : decode cX9_findGains 166 = .ok (.iastore, 1) := by decide +kernel
theorem dX9_findGains_167 : decode cX9_findGains 167 = .ok (.iinc 3 1, 3) := by decide +kernel
theorem dX9_findGains_170 : decode cX9_findGains 170 = .ok (.goto (-134), 3) := by decide +kernel
theorem dX9_findGains_173 : decode cX9_findGains 173 = .ok (.iinc 2 1, 3) := by decide +kernel
theorem dX9_findGains_176 : decode cX9_findGains 176 = .ok (.goto (-174), 3) := by decide +kernel
theorem dX9_findGains_179 : decode cX9_findGains 179 = .ok (.return_, 1) := by decide +kernel
theorem dX9_endsGains_0 : decode cX9_endsGains 0 = .ok (.iconst 0, 1) := by decide +kernel
theorem dX9_endsGains_1 : decode cX9_endsGains 1 = .ok (.istore_n 2, 1) := by decide +kernel
theorem dX9_endsGains_2 : decode cX9_endsGains 2 = .ok (.iload_n 2, 1) := by decide +kernel
theorem dX9_endsGains_3 : decode cX9_endsGains 3 = .ok (.aload_n 0, 1) := by decide +kernel
theorem dX9_endsGains_4 : decode cX9_endsGains 4 = .ok (.getfield 30, 3) := by decide +kernel
theorem dX9_endsGains_7 : decode cX9_endsGains 7 = .ok (.getfield 38, 3) := by decide +kernel
theorem dX9_endsGains_10 : decode cX9_endsGains 10 = .ok (.if_icmp .ge 56, 3) := by decide +kernel
theorem dX9_endsGains_13 : decode cX9_endsGains 13 = .ok (.iload_n 1, 1) := by decide +kernel
theorem dX9_endsGains_14 : decode cX9_endsGains 14 = .ok (.iload_n 2, 1) := by decide +kernel
theorem dX9_endsGains_15 : decode cX9_endsGains 15 = .ok (.ishr, 1) := by decide +kernel
theorem dX9_endsGains_16 : decode cX9_endsGains 16 = .ok (.iconst 1, 1) := by decide +kernel
theorem dX9_endsGains_17 : decode cX9_endsGains 17 = .ok (.iand, 1) := by decide +kernel
theorem dX9_endsGains_18 : decode cX9_endsGains 18 = .ok (.ifCond .eq 16, 3) := by decide +kernel
theorem dX9_endsGains_21 : decode cX9_endsGains 21 = .ok (.aload_n 0, 1) := by decide +kernel
theorem dX9_endsGains_22 : decode cX9_endsGains 22 = .ok (.getfield 23, 3) := by decide +kernel
theorem dX9_endsGains_25 : decode cX9_endsGains 25 = .ok (.iload_n 2, 1) := by decide +kernel
theorem dX9_endsGains_26 : decode cX9_endsGains 26 = .ok (.iaload, 1) := by decide +kernel
theorem dX9_endsGains_27 : decode cX9_endsGains 27 = .ok (.iload_n 1, 1) := by decide +kernel
theorem dX9_endsGains_28 : decode cX9_endsGains 28 = .ok (.iconst (-1), 1) := by decide +kernel
theorem dX9_endsGains_29 : decode cX9_endsGains 29 = .ok (.ixor, 1) := by decide +kernel
theorem dX9_endsGains_30 : decode cX9_endsGains 30 = .ok (.iand, 1) := by decide +kernel
theorem dX9_endsGains_31 : decode cX9_endsGains 31 = .ok (.goto 22, 3) := by decide +kernel
theorem dX9_endsGains_34 : decode cX9_endsGains 34 = .ok (.aload_n 0, 1) := by decide +kernel
theorem dX9_endsGains_35 : decode cX9_endsGains 35 = .ok (.getfield 17, 3) := by decide +kernel
theorem dX9_endsGains_38 : decode cX9_endsGains 38 = .ok (.iload_n 2, 1) := by decide +kernel
theorem dX9_endsGains_39 : decode cX9_endsGains 39 = .ok (.iaload, 1) := by decide +kernel
theorem dX9_endsGains_40 : decode cX9_endsGains 40 = .ok (.iload_n 1, 1) := by decide +kernel
theorem dX9_endsGains_41 : decode cX9_endsGains 41 = .ok (.iconst (-1), 1) := by decide +kernel
theorem dX9_endsGains_42 : decode cX9_endsGains 42 = .ok (.ixor, 1) := by decide +kernel
theorem dX9_endsGains_43 : decode cX9_endsGains 43 = .ok (.iand, 1) := by decide +kernel
theorem dX9_endsGains_44 : decode cX9_endsGains 44 = .ok (.aload_n 0, 1) := by decide +kernel
theorem dX9_endsGains_45 : decode cX9_endsGains 45 = .ok (.getfield 20, 3) := by decide +kernel
theorem dX9_endsGains_48 : decode cX9_endsGains 48 = .ok (.iload_n 2, 1) := by decide +kernel
theorem dX9_endsGains_49 : decode cX9_endsGains 49 = .ok (.iaload, 1) := by decide +kernel
theorem dX9_endsGains_50 : decode cX9_endsGains 50 = .ok (.iload_n 1, 1) := by decide +kernel
theorem dX9_endsGains_51 : decode cX9_endsGains 51 = .ok (.iand, 1) := by decide +kernel
theorem dX9_endsGains_52 : decode cX9_endsGains 52 = .ok (.ior, 1) := by decide +kernel
theorem dX9_endsGains_53 : decode cX9_endsGains 53 = .ok (.istore_n 3, 1) := by decide +kernel
theorem dX9_endsGains_54 : decode cX9_endsGains 54 = .ok (.iload_n 3, 1) := by decide +kernel
theorem dX9_endsGains_55 : decode cX9_endsGains 55 = .ok (.ifCond .eq 5, 3) := by decide +kernel
theorem dX9_endsGains_58 : decode cX9_endsGains 58 = .ok (.iconst 0, 1) := by decide +kernel
theorem dX9_endsGains_59 : decode cX9_endsGains 59 = .ok (.ireturn, 1) := by decide +kernel
theorem dX9_endsGains_60 : decode cX9_endsGains 60 = .ok (.iinc 2 1, 3) := by decide +kernel
theorem dX9_endsGains_63 : decode cX9_endsGains 63 = .ok (.goto (-61), 3) := by decide +kernel
theorem dX9_endsGains_66 : decode cX9_endsGains 66 = .ok (.iconst 1, 1) := by decide +kernel
theorem dX9_endsGains_67 : decode cX9_endsGains 67 = .ok (.ireturn, 1) := by decide +kernel
theorem dJ0_length_8abf5_0 : decode cJ0_length_8abf5 0 = .ok (.aload_n 0, 1) := by decide +kernel
theorem dJ0_length_8abf5_1 : decode cJ0_length_8abf5 1 = .ok (.getfield 9, 3) := by decide +kernel
theorem dJ0_length_8abf5_4 : decode cJ0_length_8abf5 4 = .ok (.arraylength, 1) := by decide +kernel
theorem dJ0_length_8abf5_5 : decode cJ0_length_8abf5 5 = .ok (.aload_n 0, 1) := by decide +kernel
theorem dJ0_length_8abf5_6 : decode cJ0_length_8abf5 6 = .ok (.invokevirtual 335, 3) := by decide +kernel
theorem dJ0_length_8abf5_9 : decode cJ0_length_8abf5 9 = .ok (.ishr, 1) := by decide +kernel
theorem dJ0_length_8abf5_10 : decode cJ0_length_8abf5 10 = .ok (.ireturn, 1) := by decide +kernel
theorem dJ0_indexOf_0f7a4_0 : decode cJ0_indexOf_0f7a4 0 = .ok (.aload_n 0, 1) := by decide +kernel
theorem dJ0_indexOf_0f7a4_1 : decode cJ0_indexOf_0f7a4 1 = .ok (.iload_n 1, 1) := by decide +kernel
theorem dJ0_indexOf_0f7a4_2 : decode cJ0_indexOf_0f7a4 2 = .ok (.iconst 0, 1) := by decide +kernel
theorem dJ0_indexOf_0f7a4_3 : decode cJ0_indexOf_0f7a4 3 = .ok (.invokevirtual 633, 3) := by decide +kernel
theorem dJ0_indexOf_0f7a4_6 : decode cJ0_indexOf_0f7a4 6 = .ok (.ireturn, 1) := by decide +kernel
theorem dJ0_indexOf_7cf53_0 : decode cJ0_indexOf_7cf53 0 = .ok (.aload_n 0, 1) := by decide +kernel
theorem dJ0_indexOf_7cf53_1 : decode cJ0_indexOf_7cf53 1 = .ok (.invokevirtual 492, 3) := by decide +kernel
theorem dJ0_indexOf_7cf53_4 : decode cJ0_indexOf_7cf53 4 = .ok (.ifCond .eq 19, 3) := by decide +kernel
theorem dJ0_indexOf_7cf53_7 : decode cJ0_indexOf_7cf53 7 = .ok (.aload_n 0, 1) := by decide +kernel
theorem dJ0_indexOf_7cf53_8 : decode cJ0_indexOf_7cf53 8 = .ok (.getfield 9, 3) := by decide +kernel
theorem dJ0_indexOf_7cf53_11 : decode cJ0_indexOf_7cf53 11 = .ok (.iload_n 1, 1) := by decide +kernel
theorem dJ0_indexOf_7cf53_12 : decode cJ0_indexOf_7cf53 12 = .ok (.iload_n 2, 1) := by decide +kernel
theorem dJ0_indexOf_7cf53_13 : decode cJ0_indexOf_7cf53 13 = .ok (.aload_n 0, 1) := by decide +kernel
theorem dJ0_indexOf_7cf53_14 : decode cJ0_indexOf_7cf53 14 = .ok (.invokevirtual 505, 3) := by decide +kernel
theorem dJ0_indexOf_7cf53_17 : decode cJ0_indexOf_7cf53 17 = .ok (.invokestatic 637, 3) := by decide +kernel
theorem dJ0_indexOf_7cf53_20 : decode cJ0_indexOf_7cf53 20 = .ok (.goto 16, 3) := by decide +kernel
theorem dJ0_indexOf_7cf53_23 : decode cJ0_indexOf_7cf53 23 = .ok (.aload_n 0, 1) := by decide +kernel
theorem dJ0_indexOf_7cf53_24 : decode cJ0_indexOf_7cf53 24 = .ok (.getfield 9, 3) := by decide +kernel
theorem dJ0_indexOf_7cf53_27 : decode cJ0_indexOf_7cf53 27 = .ok (.iload_n 1, 1) := by decide +kernel
theorem dJ0_indexOf_7cf53_28 : decode cJ0_indexOf_7cf53 28 = .ok (.iload_n 2, 1) := by decide +kernel
theorem dJ0_indexOf_7cf53_29 : decode cJ0_indexOf_7cf53 29 = .ok (.aload_n 0, 1) := by decide +kernel
theorem dJ0_indexOf_7cf53_30 : decode cJ0_indexOf_7cf53 30 = .ok (.invokevirtual 505, 3) := by decide +kernel
theorem dJ0_indexOf_7cf53_33 : decode cJ0_indexOf_7cf53 33 = .ok (.invokestatic 640, 3) := by decide +kernel
theorem dJ0_indexOf_7cf53_36 : decode cJ0_indexOf_7cf53 36 = .ok (.ireturn, 1) := by decide +kernel
theorem dJ0_coder_7d493_0 : decode cJ0_coder_7d493 0 = .ok (.getstatic 38, 3) := by decide +kernel
theorem dJ0_coder_7d493_3 : decode cJ0_coder_7d493 3 = .ok (.ifCond .eq 10, 3) := by decide +kernel
theorem dJ0_coder_7d493_6 : decode cJ0_coder_7d493 6 = .ok (.aload_n 0, 1) := by decide +kernel
theorem dJ0_coder_7d493_7 : decode cJ0_coder_7d493 7 = .ok (.getfield 15, 3) := by decide +kernel
theorem dJ0_coder_7d493_10 : decode cJ0_coder_7d493 10 = .ok (.goto 4, 3) := by decide +kernel
theorem dJ0_coder_7d493_13 : decode cJ0_coder_7d493 13 = .ok (.iconst 1, 1) := by decide +kernel
theorem dJ0_coder_7d493_14 : decode cJ0_coder_7d493 14 = .ok (.ireturn, 1) := by decide +kernel
theorem dJ0_isLatin1_aae02_0 : decode cJ0_isLatin1_aae02 0 = .ok (.getstatic 38, 3) := by decide +kernel
theorem dJ0_isLatin1_aae02_3 : decode cJ0_isLatin1_aae02 3 = .ok (.ifCond .eq 14, 3) := by decide +kernel
theorem dJ0_isLatin1_aae02_6 : decode cJ0_isLatin1_aae02 6 = .ok (.aload_n 0, 1) := by decide +kernel
theorem dJ0_isLatin1_aae02_7 : decode cJ0_isLatin1_aae02 7 = .ok (.getfield 15, 3) := by decide +kernel
theorem dJ0_isLatin1_aae02_10 : decode cJ0_isLatin1_aae02 10 = .ok (.ifCond .ne 7, 3) := by decide +kernel
theorem dJ0_isLatin1_aae02_13 : decode cJ0_isLatin1_aae02 13 = .ok (.iconst 1, 1) := by decide +kernel
theorem dJ0_isLatin1_aae02_14 : decode cJ0_isLatin1_aae02 14 = .ok (.goto 4, 3) := by decide +kernel
theorem dJ0_isLatin1_aae02_17 : decode cJ0_isLatin1_aae02 17 = .ok (.iconst 0, 1) := by decide +kernel
theorem dJ0_isLatin1_aae02_18 : decode cJ0_isLatin1_aae02 18 = .ok (.ireturn, 1) := by decide +kernel
theorem dJ0_checkBoundsBeginEnd_23922_0 : decode cJ0_checkBoundsBeginEnd_23922 0 = .ok (.iload_n 0, 1) := by decide +kernel
theorem dJ0_checkBoundsBeginEnd_23922_1 : decode cJ0_checkBoundsBeginEnd_23922 1 = .ok (.iload_n 1, 1) := by decide +kernel
theorem dJ0_checkBoundsBeginEnd_23922_2 : decode cJ0_checkBoundsBeginEnd_23922 2 = .ok (.iload_n 2, 1) := by decide +kernel
theorem dJ0_checkBoundsBeginEnd_23922_3 : decode cJ0_checkBoundsBeginEnd_23922 3 = .ok (.getstatic 1053, 3) := by decide +kernel
theorem dJ0_checkBoundsBeginEnd_23922_6 : decode cJ0_checkBoundsBeginEnd_23922 6 = .ok (.invokestatic 1062, 3) := by decide +kernel
theorem dJ0_checkBoundsBeginEnd_23922_9 : decode cJ0_checkBoundsBeginEnd_23922 9 = .ok (.pop, 1) := by decide +kernel
theorem dJ0_checkBoundsBeginEnd_23922_10 : decode cJ0_checkBoundsBeginEnd_23922 10 = .ok (.return_, 1) := by decide +kernel
theorem dJ1_canEncode_9a6ad_0 : decode cJ1_canEncode_9a6ad 0 = .ok (.iload_n 0, 1) := by decide +kernel
theorem dJ1_canEncode_9a6ad_1 : decode cJ1_canEncode_9a6ad 1 = .ok (.ifCond .lt 14, 3) := by decide +kernel
theorem dJ1_canEncode_9a6ad_4 : decode cJ1_canEncode_9a6ad 4 = .ok (.iload_n 0, 1) := by decide +kernel
theorem dJ1_canEncode_9a6ad_5 : decode cJ1_canEncode_9a6ad 5 = .ok (.sipush 255, 3) := by decide +kernel
theorem dJ1_canEncode_9a6ad_8 : decode cJ1_canEncode_9a6ad 8 = .ok (.if_icmp .gt 7, 3) := by decide +kernel
theorem dJ1_canEncode_9a6ad_11 : decode cJ1_canEncode_9a6ad 11 = .ok (.iconst 1, 1) := by decide +kernel
theorem dJ1_canEncode_9a6ad_12 : decode cJ1_canEncode_9a6ad 12 = .ok (.goto 4, 3) := by decide +kernel
theorem dJ1_canEncode_9a6ad_15 : decode cJ1_canEncode_9a6ad 15 = .ok (.iconst 0, 1) := by decide +kernel
theorem dJ1_canEncode_9a6ad_16 : decode cJ1_canEncode_9a6ad 16 = .ok (.ireturn, 1) := by decide +kernel
theorem dJ1_indexOf_4cfef_0 : decode cJ1_indexOf_4cfef 0 = .ok (.iload_n 1, 1) := by decide +kernel
theorem dJ1_indexOf_4cfef_1 : decode cJ1_indexOf_4cfef 1 = .ok (.invokestatic 88, 3) := by decide +kernel
theorem dJ1_indexOf_4cfef_4 : decode cJ1_indexOf_4cfef 4 = .ok (.ifCond .ne 5, 3) := by decide +kernel
theorem dJ1_indexOf_4cfef_7 : decode cJ1_indexOf_4cfef 7 = .ok (.iconst (-1), 1) := by decide +kernel
theorem dJ1_indexOf_4cfef_8 : decode cJ1_indexOf_4cfef 8 = .ok (.ireturn, 1) := by decide +kernel
theorem dJ1_indexOf_4cfef_9 : decode cJ1_indexOf_4cfef 9 = .ok (.iload_n 2, 1) := by decide +kernel
theorem dJ1_indexOf_4cfef_10 : decode cJ1_indexOf_4cfef 10 = .ok (.iconst 0, 1) := by decide +kernel
theorem dJ1_indexOf_4cfef_11 : decode cJ1_indexOf_4cfef 11 = .ok (.invokestatic 92, 3) := by decide +kernel
theorem dJ1_indexOf_4cfef_14 : decode cJ1_indexOf_4cfef 14 = .ok (.istore_n 2, 1) := by decide +kernel
theorem dJ1_indexOf_4cfef_15 : decode cJ1_indexOf_4cfef 15 = .ok (.iload_n 3, 1) := by decide +kernel
theorem dJ1_indexOf_4cfef_16 : decode cJ1_indexOf_4cfef 16 = .ok (.aload_n 0, 1) := by decide +kernel
theorem dJ1_indexOf_4cfef_17 : decode cJ1_indexOf_4cfef 17 = .ok (.arraylength, 1) := by decide +kernel
theorem dJ1_indexOf_4cfef_18 : decode cJ1_indexOf_4cfef 18 = .ok (.invokestatic 38, 3) := by decide +kernel
theorem dJ1_indexOf_4cfef_21 : decode cJ1_indexOf_4cfef 21 = .ok (.istore_n 3, 1) := by decide +kernel
theorem dJ1_indexOf_4cfef_22 : decode cJ1_indexOf_4cfef 22 = .ok (.iload_n 2, 1) := by decide +kernel
theorem dJ1_indexOf_4cfef_23 : decode cJ1_indexOf_4cfef 23 = .ok (.iload_n 3, 1) := by decide +kernel
theorem dJ1_indexOf_4cfef_24 : decode cJ1_indexOf_4cfef 24 = .ok (.if_icmp .lt 5, 3) := by decide +kernel
theorem dJ1_indexOf_4cfef_27 : decode cJ1_indexOf_4cfef 27 = .ok (.iconst (-1), 1) := by decide +kernel
theorem dJ1_indexOf_4cfef_28 : decode cJ1_indexOf_4cfef 28 = .ok (.ireturn, 1) := by decide +kernel
theorem dJ1_indexOf_4cfef_29 : decode cJ1_indexOf_4cfef 29 = .ok (.aload_n 0, 1) := by decide +kernel
theorem dJ1_indexOf_4cfef_30 : decode cJ1_indexOf_4cfef 30 = .ok (.iload_n 1, 1) := by decide +kernel
theorem dJ1_indexOf_4cfef_31 : decode cJ1_indexOf_4cfef 31 = .ok (.iload_n 2, 1) := by decide +kernel
theorem dJ1_indexOf_4cfef_32 : decode cJ1_indexOf_4cfef 32 = .ok (.iload_n 3, 1) := by decide +kernel
theorem dJ1_indexOf_4cfef_33 : decode cJ1_indexOf_4cfef 33 = .ok (.invokestatic 95, 3) := by decide +kernel
theorem dJ1_indexOf_4cfef_36 : decode cJ1_indexOf_4cfef 36 = .ok (.ireturn, 1) := by decide +kernel
theorem dJ1_indexOfChar_4cfef_0 : decode cJ1_indexOfChar_4cfef 0 = .ok (.iload_n 1, 1) := by decide +kernel
theorem dJ1_indexOfChar_4cfef_1 : decode cJ1_indexOfChar_4cfef 1 = .ok (.i2b, 1) := by decide +kernel
theorem dJ1_indexOfChar_4cfef_2 : decode cJ1_indexOfChar_4cfef 2 = .ok (.istore 4, 2) := by decide +kernel
theorem dJ1_indexOfChar_4cfef_4 : decode cJ1_indexOfChar_4cfef 4 = .ok (.iload_n 2, 1) := by decide +kernel
theorem dJ1_indexOfChar_4cfef_5 : decode cJ1_indexOfChar_4cfef 5 = .ok (.istore 5, 2) := by decide +kernel
theorem dJ1_indexOfChar_4cfef_7 : decode cJ1_indexOfChar_4cfef 7 = .ok (.iload 5, 2) := by decide +kernel
theorem dJ1_indexOfChar_4cfef_9 : decode cJ1_indexOfChar_4cfef 9 = .ok (.iload_n 3, 1) := by decide +kernel
theorem dJ1_indexOfChar_4cfef_10 : decode cJ1_indexOfChar_4cfef 10 = .ok (.if_icmp .ge 21, 3) := by decide +kernel
theorem dJ1_indexOfChar_4cfef_13 : decode cJ1_indexOfChar_4cfef 13 = .ok (.aload_n 0, 1) := by decide +kernel
theorem dJ1_indexOfChar_4cfef_14 : decode cJ1_indexOfChar_4cfef 14 = .ok (.iload 5, 2) := by decide +kernel
theorem dJ1_indexOfChar_4cfef_16 : decode cJ1_indexOfChar_4cfef 16 = .ok (.baload, 1) := by decide +kernel
theorem dJ1_indexOfChar_4cfef_17 : decode cJ1_indexOfChar_4cfef 17 = .ok (.iload 4, 2) := by decide +kernel
theorem dJ1_indexOfChar_4cfef_19 : decode cJ1_indexOfChar_4cfef 19 = .ok (.if_icmp .ne 6, 3) := by decide +kernel
theorem dJ1_indexOfChar_4cfef_22 : decode cJ1_indexOfChar_4cfef 22 = .ok (.iload 5, 2) := by decide +kernel
theorem dJ1_indexOfChar_4cfef_24 : decode cJ1_indexOfChar_4cfef 24 = .ok (.ireturn, 1) := by decide +kernel
theorem dJ1_indexOfChar_4cfef_25 : decode cJ1_indexOfChar_4cfef 25 = .ok (.iinc 5 1, 3) := by decide +kernel
theorem dJ1_indexOfChar_4cfef_28 : decode cJ1_indexOfChar_4cfef 28 = .ok (.goto (-21), 3) := by decide +kernel
theorem dJ1_indexOfChar_4cfef_31 : decode cJ1_indexOfChar_4cfef 31 = .ok (.iconst (-1), 1) := by decide +kernel
theorem dJ1_indexOfChar_4cfef_32 : decode cJ1_indexOfChar_4cfef 32 = .ok (.ireturn, 1) := by decide +kernel
