theorem dX3_init_0 : decode cX3_init 0 = .ok (.aload_n 0, 1) := by decide +kernel
theorem dX3_init_1 : decode cX3_init 1 = .ok (.invokespecial 3, 3) := by decide +kernel
theorem dX3_init_4 : decode cX3_init 4 = .ok (.aload_n 0, 1) := by decide +kernel
theorem dX3_init_5 : decode cX3_init 5 = .ok (.bipush 8, 2) := by decide +kernel
theorem dX3_init_7 : decode cX3_init 7 = .ok (.newarray .int, 2) := by decide +kernel
theorem dX3_init_9 : decode cX3_init 9 = .ok (.putfield 9, 3) := by decide +kernel
theorem dX3_init_12 : decode cX3_init 12 = .ok (.aload_n 0, 1) := by decide +kernel
theorem dX3_init_13 : decode cX3_init 13 = .ok (.bipush 32, 2) := by decide +kernel
theorem dX3_init_15 : decode cX3_init 15 = .ok (.newarray .int, 2) := by decide +kernel
theorem dX3_init_17 : decode cX3_init 17 = .ok (.putfield 15, 3) := by decide +kernel
theorem dX3_init_20 : decode cX3_init 20 = .ok (.aload_n 0, 1) := by decide +kernel
theorem dX3_init_21 : decode cX3_init 21 = .ok (.bipush 15, 2) := by decide +kernel
theorem dX3_init_23 : decode cX3_init 23 = .ok (.newarray .int, 2) := by decide +kernel
theorem dX3_init_25 : decode cX3_init 25 = .ok (.putfield 18, 3) := by decide +kernel
theorem dX3_init_28 : decode cX3_init 28 = .ok (.aload_n 0, 1) := by decide +kernel
theorem dX3_init_29 : decode cX3_init 29 = .ok (.bipush 15, 2) := by decide +kernel
theorem dX3_init_31 : decode cX3_init 31 = .ok (.newarray .int, 2) := by decide +kernel
theorem dX3_init_33 : decode cX3_init 33 = .ok (.putfield 21, 3) := by decide +kernel
theorem dX3_init_36 : decode cX3_init 36 = .ok (.aload_n 0, 1) := by decide +kernel
theorem dX3_init_37 : decode cX3_init 37 = .ok (.bipush 15, 2) := by decide +kernel
theorem dX3_init_39 : decode cX3_init 39 = .ok (.newarray .int, 2) := by decide +kernel
theorem dX3_init_41 : decode cX3_init 41 = .ok (.putfield 24, 3) := by decide +kernel
theorem dX3_init_44 : decode cX3_init 44 = .ok (.return_, 1) := by decide +kernel
theorem dX3_weight_0 : decode cX3_weight 0 = .ok (.iload_n 0, 1) := by decide +kernel
theorem dX3_weight_1 : decode cX3_weight 1 = .ok (.tableswitch 39 0 2 #[27, 31, 37], 27) := by decide +kernel
theorem dX3_weight_28 : decode cX3_weight 28 = .ok (.iload_n 2, 1) := by decide +kernel
theorem dX3_weight_29 : decode cX3_weight 29 = .ok (.iload_n 1, 1) := by decide +kernel
theorem dX3_weight_30 : decode cX3_weight 30 = .ok (.imul, 1) := by decide +kernel
theorem dX3_weight_31 : decode cX3_weight 31 = .ok (.ireturn, 1) := by decide +kernel
theorem dX3_weight_32 : decode cX3_weight 32 = .ok (.iload_n 2, 1) := by decide +kernel
theorem dX3_weight_33 : decode cX3_weight 33 = .ok (.iload_n 1, 1) := by decide +kernel
theorem dX3_weight_34 : decode cX3_weight 34 = .ok (.imul, 1) := by decide +kernel
theorem dX3_weight_35 : decode cX3_weight 35 = .ok (.iload_n 2, 1) := by decide +kernel
theorem dX3_weight_36 : decode cX3_weight 36 = .ok (.iadd, 1) := by decide +kernel
theorem dX3_weight_37 : decode cX3_weight 37 = .ok (.ireturn, 1) := by decide +kernel
theorem dX3_weight_38 : decode cX3_weight 38 = .ok (.iconst 0, 1) := by decide +kernel
theorem dX3_weight_39 : decode cX3_weight 39 = .ok (.ireturn, 1) := by decide +kernel
theorem dX3_weight_40 : decode cX3_weight 40 = .ok (.iload_n 2, 1) := by decide +kernel
theorem dX3_weight_41 : decode cX3_weight 41 = .ok (.iload_n 1, 1) := by decide +kernel
theorem dX3_weight_42 : decode cX3_weight 42 = .ok (.imul, 1) := by decide +kernel
theorem dX3_weight_43 : decode cX3_weight 43 = .ok (.iload_n 2, 1) := by decide +kernel
theorem dX3_weight_44 : decode cX3_weight 44 = .ok (.iadd, 1) := by decide +kernel
theorem dX3_weight_45 : decode cX3_weight 45 = .ok (.iconst 2, 1) := by decide +kernel
theorem dX3_weight_46 : decode cX3_weight 46 = .ok (.idiv, 1) := by decide +kernel
theorem dX3_weight_47 : decode cX3_weight 47 = .ok (.ireturn, 1) := by decide +kernel
theorem dX3_clear_0 : decode cX3_clear 0 = .ok (.aload_n 0, 1) := by decide +kernel
theorem dX3_clear_1 : decode cX3_clear 1 = .ok (.iconst 0, 1) := by decide +kernel
theorem dX3_clear_2 : decode cX3_clear 2 = .ok (.putfield 27, 3) := by decide +kernel
theorem dX3_clear_5 : decode cX3_clear 5 = .ok (.aload_n 0, 1) := by decide +kernel
theorem dX3_clear_6 : decode cX3_clear 6 = .ok (.iconst 0, 1) := by decide +kernel
theorem dX3_clear_7 : decode cX3_clear 7 = .ok (.putfield 31, 3) := by decide +kernel
theorem dX3_clear_10 : decode cX3_clear 10 = .ok (.return_, 1) := by decide +kernel
theorem dX3_hasParish_0 : decode cX3_hasParish 0 = .ok (.iload_n 1, 1) := by decide +kernel
theorem dX3_hasParish_1 : decode cX3_hasParish 1 = .ok (.ifCond .lt 15, 3) := by decide +kernel
theorem dX3_hasParish_4 : decode cX3_hasParish 4 = .ok (.iload_n 1, 1) := by decide +kernel
theorem dX3_hasParish_5 : decode cX3_hasParish 5 = .ok (.aload_n 0, 1) := by decide +kernel
theorem dX3_hasParish_6 : decode cX3_hasParish 6 = .ok (.getfield 27, 3) := by decide +kernel
theorem dX3_hasParish_9 : decode cX3_hasParish 9 = .ok (.if_icmp .ge 7, 3) := by decide +kernel
theorem dX3_hasParish_12 : decode cX3_hasParish 12 = .ok (.iconst 1, 1) := by decide +kernel
theorem dX3_hasParish_13 : decode cX3_hasParish 13 = .ok (.goto 4, 3) := by decide +kernel
theorem dX3_hasParish_16 : decode cX3_hasParish 16 = .ok (.iconst 0, 1) := by decide +kernel
theorem dX3_hasParish_17 : decode cX3_hasParish 17 = .ok (.ireturn, 1) := by decide +kernel
theorem dX3_hasRoad_0 : decode cX3_hasRoad 0 = .ok (.iload_n 1, 1) := by decide +kernel
theorem dX3_hasRoad_1 : decode cX3_hasRoad 1 = .ok (.ifCond .lt 15, 3) := by decide +kernel
theorem dX3_hasRoad_4 : decode cX3_hasRoad 4 = .ok (.iload_n 1, 1) := by decide +kernel
theorem dX3_hasRoad_5 : decode cX3_hasRoad 5 = .ok (.aload_n 0, 1) := by decide +kernel
theorem dX3_hasRoad_6 : decode cX3_hasRoad 6 = .ok (.getfield 31, 3) := by decide +kernel
theorem dX3_hasRoad_9 : decode cX3_hasRoad 9 = .ok (.if_icmp .ge 7, 3) := by decide +kernel
theorem dX3_hasRoad_12 : decode cX3_hasRoad 12 = .ok (.iconst 1, 1) := by decide +kernel
theorem dX3_hasRoad_13 : decode cX3_hasRoad 13 = .ok (.goto 4, 3) := by decide +kernel
theorem dX3_hasRoad_16 : decode cX3_hasRoad 16 = .ok (.iconst 0, 1) := by decide +kernel
theorem dX3_hasRoad_17 : decode cX3_hasRoad 17 = .ok (.ireturn, 1) := by decide +kernel
theorem dX3_hasSet_0 : decode cX3_hasSet 0 = .ok (.iload_n 1, 1) := by decide +kernel
theorem dX3_hasSet_1 : decode cX3_hasSet 1 = .ok (.ifCond .lt 17, 3) := by decide +kernel
theorem dX3_hasSet_4 : decode cX3_hasSet 4 = .ok (.iload_n 1, 1) := by decide +kernel
theorem dX3_hasSet_5 : decode cX3_hasSet 5 = .ok (.iconst 1, 1) := by decide +kernel
theorem dX3_hasSet_6 : decode cX3_hasSet 6 = .ok (.aload_n 0, 1) := by decide +kernel
theorem dX3_hasSet_7 : decode cX3_hasSet 7 = .ok (.getfield 27, 3) := by decide +kernel
theorem dX3_hasSet_10 : decode cX3_hasSet 10 = .ok (.ishl, 1) := by decide +kernel
theorem dX3_hasSet_11 : decode cX3_hasSet 11 = .ok (.if_icmp .ge 7, 3) := by decide +kernel
theorem dX3_hasSet_14 : decode cX3_hasSet 14 = .ok (.iconst 1, 1) := by decide +kernel
theorem dX3_hasSet_15 : decode cX3_hasSet 15 = .ok (.goto 4, 3) := by decide +kernel
theorem dX3_hasSet_18 : decode cX3_hasSet 18 = .ok (.iconst 0, 1) := by decide +kernel
theorem dX3_hasSet_19 : decode cX3_hasSet 19 = .ok (.ireturn, 1) := by decide +kernel
theorem dX3_addParish_0 : decode cX3_addParish 0 = .ok (.aload_n 0, 1) := by decide +kernel
theorem dX3_addParish_1 : decode cX3_addParish 1 = .ok (.getfield 27, 3) := by decide +kernel
theorem dX3_addParish_4 : decode cX3_addParish 4 = .ok (.istore_n 2, 1) := by decide +kernel
theorem dX3_addParish_5 : decode cX3_addParish 5 = .ok (.aload_n 0, 1) := by decide +kernel
theorem dX3_addParish_6 : decode cX3_addParish 6 = .ok (.getfield 9, 3) := by decide +kernel
theorem dX3_addParish_9 : decode cX3_addParish 9 = .ok (.iload_n 2, 1) := by decide +kernel
theorem dX3_addParish_10 : decode cX3_addParish 10 = .ok (.iload_n 1, 1) := by decide +kernel
theorem dX3_addParish_11 : decode cX3_addParish 11 = .ok (.iastore, 1) := by decide +kernel
theorem dX3_addParish_12 : decode cX3_addParish 12 = .ok (.iconst 0, 1) := by decide +kernel
theorem dX3_addParish_13 : decode cX3_addParish 13 = .ok (.istore_n 3, 1) := by decide +kernel
theorem dX3_addParish_14 : decode cX3_addParish 14 = .ok (.iload_n 3, 1) := by decide +kernel
theorem dX3_addParish_15 : decode cX3_addParish 15 = .ok (.iconst 4, 1) := by decide +kernel
theorem dX3_addParish_16 : decode cX3_addParish 16 = .ok (.if_icmp .ge 20, 3) := by decide +kernel
theorem dX3_addParish_19 : decode cX3_addParish 19 = .ok (.aload_n 0, 1) := by decide +kernel
theorem dX3_addParish_20 : decode cX3_addParish 20 = .ok (.getfield 15, 3) := by decide +kernel
theorem dX3_addParish_23 : decode cX3_addParish 23 = .ok (.iload_n 2, 1) := by decide +kernel
theorem dX3_addParish_24 : decode cX3_addParish 24 = .ok (.iconst 4, 1) := by decide +kernel
theorem dX3_addParish_25 : decode cX3_addParish 25 = .ok (.imul, 1) := by decide +kernel
theorem dX3_addParish_26 : decode cX3_addParish 26 = .ok (.iload_n 3, 1) := by decide +kernel
theorem dX3_addParish_27 : decode cX3_addParish 27 = .ok (.iadd, 1) := by decide +kernel
theorem dX3_addParish_28 : decode cX3_addParish 28 = .ok (.iconst 5, 1) := by decide +kernel
theorem dX3_addParish_29 : decode cX3_addParish 29 = .ok (.iastore, 1) := by decide +kernel
theorem dX3_addParish_30 : decode cX3_addParish 30 = .ok (.iinc 3 1, 3) := by decide +kernel
theorem dX3_addParish_33 : decode cX3_addParish 33 = .ok (.goto (-19), 3) := by decide +kernel
theorem dX3_addParish_36 : decode cX3_addParish 36 = .ok (.aload_n 0, 1) := by decide +kernel
theorem dX3_addParish_37 : decode cX3_addParish 37 = .ok (.dup, 1) := by decide +kernel
theorem dX3_addParish_38 : decode cX3_addParish 38 = .ok (.getfield 27, 3) := by decide +kernel
theorem dX3_addParish_41 : decode cX3_addParish 41 = .ok (.iconst 1, 1) := by decide +kernel
theorem dX3_addParish_42 : decode cX3_addParish 42 = .ok (.iadd, 1) := by decide +kernel
theorem dX3_addParish_43 : decode cX3_addParish 43 = .ok (.putfield 27, 3) := by decide +kernel
theorem dX3_addParish_46 : decode cX3_addParish 46 = .ok (.iload_n 2, 1) := by decide +kernel
theorem dX3_addParish_47 : decode cX3_addParish 47 = .ok (.ireturn, 1) := by decide +kernel
theorem dX3_addRoad_0 : decode cX3_addRoad 0 = .ok (.aload_n 0, 1) := by decide +kernel
theorem dX3_addRoad_1 : decode cX3_addRoad 1 = .ok (.getfield 31, 3) := by decide +kernel
theorem dX3_addRoad_4 : decode cX3_addRoad 4 = .ok (.istore 4, 2) := by decide +kernel
theorem dX3_addRoad_6 : decode cX3_addRoad 6 = .ok (.aload_n 0, 1) := by decide +kernel
theorem dX3_addRoad_7 : decode cX3_addRoad 7 = .ok (.getfield 18, 3) := by decide +kernel
theorem dX3_addRoad_10 : decode cX3_addRoad 10 = .ok (.iload 4, 2) := by decide +kernel
theorem dX3_addRoad_12 : decode cX3_addRoad 12 = .ok (.iload_n 1, 1) := by decide +kernel
theorem dX3_addRoad_13 : decode cX3_addRoad 13 = .ok (.iload_n 2, 1) := by decide +kernel
theorem dX3_addRoad_14 : decode cX3_addRoad 14 = .ok (.invokestatic 34, 3) := by decide +kernel
theorem dX3_addRoad_17 : decode cX3_addRoad 17 = .ok (.iastore, 1) := by decide +kernel
theorem dX3_addRoad_18 : decode cX3_addRoad 18 = .ok (.aload_n 0, 1) := by decide +kernel
theorem dX3_addRoad_19 : decode cX3_addRoad 19 = .ok (.getfield 21, 3) := by decide +kernel
theorem dX3_addRoad_22 : decode cX3_addRoad 22 = .ok (.iload 4, 2) := by decide +kernel
theorem dX3_addRoad_24 : decode cX3_addRoad 24 = .ok (.iload_n 1, 1) := by decide +kernel
theorem dX3_addRoad_25 : decode cX3_addRoad 25 = .ok (.iload_n 2, 1) := by decide +kernel
theorem dX3_addRoad_26 : decode cX3_addRoad 26 = .ok (.invokestatic 40, 3) := by decide +kernel
theorem dX3_addRoad_29 : decode cX3_addRoad 29 = .ok (.iastore, 1) := by decide +kernel
theorem dX3_addRoad_30 : decode cX3_addRoad 30 = .ok (.aload_n 0, 1) := by decide +kernel
theorem dX3_addRoad_31 : decode cX3_addRoad 31 = .ok (.getfield 24, 3) := by decide +kernel
theorem dX3_addRoad_34 : decode cX3_addRoad 34 = .ok (.iload 4, 2) := by decide +kernel
theorem dX3_addRoad_36 : decode cX3_addRoad 36 = .ok (.iload_n 3, 1) := by decide +kernel
theorem dX3_addRoad_37 : decode cX3_addRoad 37 = .ok (.iastore, 1) := by decide +kernel
theorem dX3_addRoad_38 : decode cX3_addRoad 38 = .ok (.aload_n 0, 1) := by decide +kernel
theorem dX3_addRoad_39 : decode cX3_addRoad 39 = .ok (.dup, 1) := by decide +kernel
theorem dX3_addRoad_40 : decode cX3_addRoad 40 = .ok (.getfield 31, 3) := by decide +kernel
theorem dX3_addRoad_43 : decode cX3_addRoad 43 = .ok (.iconst 1, 1) := by decide +kernel
theorem dX3_addRoad_44 : decode cX3_addRoad 44 = .ok (.iadd, 1) := by decide +kernel
theorem dX3_addRoad_45 : decode cX3_addRoad 45 = .ok (.putfield 31, 3) := by decide +kernel
theorem dX3_addRoad_48 : decode cX3_addRoad 48 = .ok (.iload 4, 2) := by decide +kernel
theorem dX3_addRoad_50 : decode cX3_addRoad 50 = .ok (.ireturn, 1) := by decide +kernel
theorem dX3_joins_0 : decode cX3_joins 0 = .ok (.iconst 0, 1) := by decide +kernel
theorem dX3_joins_1 : decode cX3_joins 1 = .ok (.istore_n 3, 1) := by decide +kernel
theorem dX3_joins_2 : decode cX3_joins 2 = .ok (.iload_n 3, 1) := by decide +kernel
theorem dX3_joins_3 : decode cX3_joins 3 = .ok (.aload_n 0, 1) := by decide +kernel
theorem dX3_joins_4 : decode cX3_joins 4 = .ok (.getfield 31, 3) := by decide +kernel
theorem dX3_joins_7 : decode cX3_joins 7 = .ok (.if_icmp .ge 39, 3) := by decide +kernel
theorem dX3_joins_10 : decode cX3_joins 10 = .ok (.aload_n 0, 1) := by decide +kernel
theorem dX3_joins_11 : decode cX3_joins 11 = .ok (.getfield 18, 3) := by decide +kernel
theorem dX3_joins_14 : decode cX3_joins 14 = .ok (.iload_n 3, 1) := by decide +kernel
theorem dX3_joins_15 : decode cX3_joins 15 = .ok (.iaload, 1) := by decide +kernel
theorem dX3_joins_16 : decode cX3_joins 16 = .ok (.iload_n 1, 1) := by decide +kernel
theorem dX3_joins_17 : decode cX3_joins 17 = .ok (.iload_n 2, 1) := by decide +kernel
theorem dX3_joins_18 : decode cX3_joins 18 = .ok (.invokestatic 34, 3) := by decide +kernel
theorem dX3_joins_21 : decode cX3_joins 21 = .ok (.if_icmp .ne 19, 3) := by decide +kernel
theorem dX3_joins_24 : decode cX3_joins 24 = .ok (.aload_n 0, 1) := by decide +kernel
theorem dX3_joins_25 : decode cX3_joins 25 = .ok (.getfield 21, 3) := by decide +kernel
theorem dX3_joins_28 : decode cX3_joins 28 = .ok (.iload_n 3, 1) := by decide +kernel
theorem dX3_joins_29 : decode cX3_joins 29 = .ok (.iaload, 1) := by decide +kernel
theorem dX3_joins_30 : decode cX3_joins 30 = .ok (.iload_n 1, 1) := by decide +kernel
theorem dX3_joins_31 : decode cX3_joins 31 = .ok (.iload_n 2, 1) := by decide +kernel
theorem dX3_joins_32 : decode cX3_joins 32 = .ok (.invokestatic 40, 3) := by decide +kernel
theorem dX3_joins_35 : decode cX3_joins 35 = .ok (.if_icmp .ne 5, 3) := by decide +kernel
theorem dX3_joins_38 : decode cX3_joins 38 = .ok (.iconst 1, 1) := by decide +kernel
theorem dX3_joins_39 : decode cX3_joins 39 = .ok (.ireturn, 1) := by decide +kernel
theorem dX3_joins_40 : decode cX3_joins 40 = .ok (.iinc 3 1, 3) := by decide +kernel
theorem dX3_joins_43 : decode cX3_joins 43 = .ok (.goto (-41), 3) := by decide +kernel
theorem dX3_joins_46 : decode cX3_joins 46 = .ok (.iconst 0, 1) := by decide +kernel
theorem dX3_joins_47 : decode cX3_joins 47 = .ok (.ireturn, 1) := by decide +kernel
theorem dX3_roadsAt_0 : decode cX3_roadsAt 0 = .ok (.iconst 0, 1) := by decide +kernel
theorem dX3_roadsAt_1 : decode cX3_roadsAt 1 = .ok (.istore_n 2, 1) := by decide +kernel
theorem dX3_roadsAt_2 : decode cX3_roadsAt 2 = .ok (.iconst 0, 1) := by decide +kernel
theorem dX3_roadsAt_3 : decode cX3_roadsAt 3 = .ok (.istore_n 3, 1) := by decide +kernel
theorem dX3_roadsAt_4 : decode cX3_roadsAt 4 = .ok (.iload_n 3, 1) := by decide +kernel
theorem dX3_roadsAt_5 : decode cX3_roadsAt 5 = .ok (.aload_n 0, 1) := by decide +kernel
theorem dX3_roadsAt_6 : decode cX3_roadsAt 6 = .ok (.getfield 31, 3) := by decide +kernel
theorem dX3_roadsAt_9 : decode cX3_roadsAt 9 = .ok (.if_icmp .ge 21, 3) := by decide +kernel
theorem dX3_roadsAt_12 : decode cX3_roadsAt 12 = .ok (.aload_n 0, 1) := by decide +kernel
theorem dX3_roadsAt_13 : decode cX3_roadsAt 13 = .ok (.iload_n 3, 1) := by decide +kernel
theorem dX3_roadsAt_14 : decode cX3_roadsAt 14 = .ok (.iload_n 1, 1) := by decide +kernel
theorem dX3_roadsAt_15 : decode cX3_roadsAt 15 = .ok (.invokevirtual 43, 3) := by decide +kernel
theorem dX3_roadsAt_18 : decode cX3_roadsAt 18 = .ok (.ifCond .lt 6, 3) := by decide +kernel
theorem dX3_roadsAt_21 : decode cX3_roadsAt 21 = .ok (.iinc 2 1, 3) := by decide +kernel
theorem dX3_roadsAt_24 : decode cX3_roadsAt 24 = .ok (.iinc 3 1, 3) := by decide +kernel
theorem dX3_roadsAt_27 : decode cX3_roadsAt 27 = .ok (.goto (-23), 3) := by decide +kernel
theorem dX3_roadsAt_30 : decode cX3_roadsAt 30 = .ok (.iload_n 2, 1) := by decide +kernel
theorem dX3_roadsAt_31 : decode cX3_roadsAt 31 = .ok (.ireturn, 1) := by decide +kernel
theorem dX3_otherEnd_0 : decode cX3_otherEnd 0 = .ok (.aload_n 0, 1) := by decide +kernel
theorem dX3_otherEnd_1 : decode cX3_otherEnd 1 = .ok (.getfield 18, 3) := by decide +kernel
theorem dX3_otherEnd_4 : decode cX3_otherEnd 4 = .ok (.iload_n 1, 1) := by decide +kernel
theorem dX3_otherEnd_5 : decode cX3_otherEnd 5 = .ok (.iaload, 1) := by decide +kernel
theorem dX3_otherEnd_6 : decode cX3_otherEnd 6 = .ok (.iload_n 2, 1) := by decide +kernel
theorem dX3_otherEnd_7 : decode cX3_otherEnd 7 = .ok (.if_icmp .ne 10, 3) := by decide +kernel
theorem dX3_otherEnd_10 : decode cX3_otherEnd 10 = .ok (.aload_n 0, 1) := by decide +kernel
theorem dX3_otherEnd_11 : decode cX3_otherEnd 11 = .ok (.getfield 21, 3) := by decide +kernel
theorem dX3_otherEnd_14 : decode cX3_otherEnd 14 = .ok (.iload_n 1, 1) := by decide +kernel
theorem dX3_otherEnd_15 : decode cX3_otherEnd 15 = .ok (.iaload, 1) := by decide +kernel
theorem dX3_otherEnd_16 : decode cX3_otherEnd 16 = .ok (.ireturn, 1) := by decide +kernel
theorem dX3_otherEnd_17 : decode cX3_otherEnd 17 = .ok (.aload_n 0, 1) := by decide +kernel
theorem dX3_otherEnd_18 : decode cX3_otherEnd 18 = .ok (.getfield 21, 3) := by decide +kernel
theorem dX3_otherEnd_21 : decode cX3_otherEnd 21 = .ok (.iload_n 1, 1) := by decide +kernel
theorem dX3_otherEnd_22 : decode cX3_otherEnd 22 = .ok (.iaload, 1) := by decide +kernel
theorem dX3_otherEnd_23 : decode cX3_otherEnd 23 = .ok (.iload_n 2, 1) := by decide +kernel
theorem dX3_otherEnd_24 : decode cX3_otherEnd 24 = .ok (.if_icmp .ne 12, 3) := by decide +kernel
theorem dX3_otherEnd_27 : decode cX3_otherEnd 27 = .ok (.aload_n 0, 1) := by decide +kernel
theorem dX3_otherEnd_28 : decode cX3_otherEnd 28 = .ok (.getfield 18, 3) := by decide +kernel
theorem dX3_otherEnd_31 : decode cX3_otherEnd 31 = .ok (.iload_n 1, 1) := by decide +kernel
theorem dX3_otherEnd_32 : decode cX3_otherEnd 32 = .ok (.iaload, 1) := by decide +kernel
theorem dX3_otherEnd_33 : decode cX3_otherEnd 33 = .ok (.goto 4, 3) := by decide +kernel
theorem dX3_otherEnd_36 : decode cX3_otherEnd 36 = .ok (.iconst (-1), 1) := by decide +kernel
theorem dX3_otherEnd_37 : decode cX3_otherEnd 37 = .ok (.ireturn, 1) := by decide +kernel
theorem dX3_copyFrom_0 : decode cX3_copyFrom 0 = .ok (.aload_n 1, 1) := by decide +kernel
theorem dX3_copyFrom_1 : decode cX3_copyFrom 1 = .ok (.getfield 9, 3) := by decide +kernel
theorem dX3_copyFrom_4 : decode cX3_copyFrom 4 = .ok (.iconst 0, 1) := by decide +kernel
theorem dX3_copyFrom_5 : decode cX3_copyFrom 5 = .ok (.aload_n 0, 1) := by decide +kernel
theorem dX3_copyFrom_6 : decode cX3_copyFrom 6 = .ok (.getfield 9, 3) := by decide +kernel
theorem dX3_copyFrom_9 : decode cX3_copyFrom 9 = .ok (.iconst 0, 1) := by decide +kernel
theorem dX3_copyFrom_10 : decode cX3_copyFrom 10 = .ok (.bipush 8, 2) := by decide +kernel
theorem dX3_copyFrom_12 : decode cX3_copyFrom 12 = .ok (.invokestatic 46, 3) := by decide +kernel
theorem dX3_copyFrom_15 : decode cX3_copyFrom 15 = .ok (.aload_n 1, 1) := by decide +kernel
theorem dX3_copyFrom_16 : decode cX3_copyFrom 16 = .ok (.getfield 15, 3) := by decide +kernel
theorem dX3_copyFrom_19 : decode cX3_copyFrom 19 = .ok (.iconst 0, 1) := by decide +kernel
theorem dX3_copyFrom_20 : decode cX3_copyFrom 20 = .ok (.aload_n 0, 1) := by decide +kernel
theorem dX3_copyFrom_21 : decode cX3_copyFrom 21 = .ok (.getfield 15, 3) := by decide +kernel
theorem dX3_copyFrom_24 : decode cX3_copyFrom 24 = .ok (.iconst 0, 1) := by decide +kernel
theorem dX3_copyFrom_25 : decode cX3_copyFrom 25 = .ok (.bipush 32, 2) := by decide +kernel
theorem dX3_copyFrom_27 : decode cX3_copyFrom 27 = .ok (.invokestatic 46, 3) := by decide +kernel
theorem dX3_copyFrom_30 : decode cX3_copyFrom 30 = .ok (.aload_n 1, 1) := by decide +kernel
theorem dX3_copyFrom_31 : decode cX3_copyFrom 31 = .ok (.getfield 18, 3) := by decide +kernel
theorem dX3_copyFrom_34 : decode cX3_copyFrom 34 = .ok (.iconst 0, 1) := by decide +kernel
theorem dX3_copyFrom_35 : decode cX3_copyFrom 35 = .ok (.aload_n 0, 1) := by decide +kernel
theorem dX3_copyFrom_36 : decode cX3_copyFrom 36 = .ok (.getfield 18, 3) := by decide +kernel
theorem dX3_copyFrom_39 : decode cX3_copyFrom 39 = .ok (.iconst 0, 1) := by decide +kernel
theorem dX3_copyFrom_40 : decode cX3_copyFrom 40 = .ok (.bipush 15, 2) := by decide +kernel
theorem dX3_copyFrom_42 : decode cX3_copyFrom 42 = .ok (.invokestatic 46, 3) := by decide +kernel
theorem dX3_copyFrom_45 : decode cX3_copyFrom 45 = .ok (.aload_n 1, 1) := by decide +kernel
theorem dX3_copyFrom_46 : decode cX3_copyFrom 46 = .ok (.getfield 21, 3) := by decide +kernel
theorem dX3_copyFrom_49 : decode cX3_copyFrom 49 = .ok (.iconst 0, 1) := by decide +kernel
theorem dX3_copyFrom_50 : decode cX3_copyFrom 50 = .ok (.aload_n 0, 1) := by decide +kernel
theorem dX3_copyFrom_51 : decode cX3_copyFrom 51 = .ok (.getfield 21, 3) := by decide +kernel
theorem dX3_copyFrom_54 : decode cX3_copyFrom 54 = .ok (.iconst 0, 1) := by decide +kernel
theorem dX3_copyFrom_55 : decode cX3_copyFrom 55 = .ok (.bipush 15, 2) := by decide +kernel
theorem dX3_copyFrom_57 : decode cX3_copyFrom 57 = .ok (.invokestatic 46, 3) := by decide +kernel
theorem dX3_copyFrom_60 : decode cX3_copyFrom 60 = .ok (.aload_n 1, 1) := by decide +kernel
theorem dX3_copyFrom_61 : decode cX3_copyFrom 61 = .ok (.getfield 24, 3) := by decide +kernel
theorem dX3_copyFrom_64 : decode cX3_copyFrom 64 = .ok (.iconst 0, 1) := by decide +kernel
theorem dX3_copyFrom_65 : decode cX3_copyFrom 65 = .ok (.aload_n 0, 1) := by decide +kernel
theorem dX3_copyFrom_66 : decode cX3_copyFrom 66 = .ok (.getfield 24, 3) := by decide +kernel
theorem dX3_copyFrom_69 : decode cX3_copyFrom 69 = .ok (.iconst 0, 1) := by decide +kernel
theorem dX3_copyFrom_70 : decode cX3_copyFrom 70 = .ok (.bipush 15, 2) := by decide +kernel
theorem dX3_copyFrom_72 : decode cX3_copyFrom 72 = .ok (.invokestatic 46, 3) := by decide +kernel
theorem dX3_copyFrom_75 : decode cX3_copyFrom 75 = .ok (.aload_n 0, 1) := by decide +kernel
theorem dX3_copyFrom_76 : decode cX3_copyFrom 76 = .ok (.aload_n 1, 1) := by decide +kernel
theorem dX3_copyFrom_77 : decode cX3_copyFrom 77 = .ok (.getfield 27, 3) := by decide +kernel
theorem dX3_copyFrom_80 : decode cX3_copyFrom 80 = .ok (.putfield 27, 3) := by decide +kernel
theorem dX3_copyFrom_83 : decode cX3_copyFrom 83 = .ok (.aload_n 0, 1) := by decide +kernel
theorem dX3_copyFrom_84 : decode cX3_copyFrom 84 = .ok (.aload_n 1, 1) := by decide +kernel
theorem dX3_copyFrom_85 : decode cX3_copyFrom 85 = .ok (.getfield 31, 3) := by decide +kernel
theorem dX3_copyFrom_88 : decode cX3_copyFrom 88 = .ok (.putfield 31, 3) := by decide +kernel
theorem dX3_copyFrom_91 : decode cX3_copyFrom 91 = .ok (.return_, 1) := by decide +kernel
theorem dX7_init_0 : decode cX7_init 0 = .ok (.aload_n 0, 1) := by decide +kernel
theorem dX7_init_1 : decode cX7_init 1 = .ok (.invokespecial 3, 3) := by decide +kernel
theorem dX7_init_4 : decode cX7_init 4 = .ok (.aload_n 0, 1) := by decide +kernel
theorem dX7_init_5 : decode cX7_init 5 = .ok (.new 9, 3) := by decide +kernel
theorem dX7_init_8 : decode cX7_init 8 = .ok (.dup, 1) := by decide +kernel
theorem dX7_init_9 : decode cX7_init 9 = .ok (.invokespecial 11, 3) := by decide +kernel
theorem dX7_init_12 : decode cX7_init 12 = .ok (.putfield 12, 3) := by decide +kernel
theorem dX7_init_15 : decode cX7_init 15 = .ok (.aload_n 0, 1) := by decide +kernel
theorem dX7_init_16 : decode cX7_init 16 = .ok (.iconst 4, 1) := by decide +kernel
theorem dX7_init_17 : decode cX7_init 17 = .ok (.newarray .int, 2) := by decide +kernel
theorem dX7_init_19 : decode cX7_init 19 = .ok (.putfield 18, 3) := by decide +kernel
theorem dX7_init_22 : decode cX7_init 22 = .ok (.aload_n 0, 1) := by decide +kernel
theorem dX7_init_23 : decode cX7_init 23 = .ok (.iconst 4, 1) := by decide +kernel
theorem dX7_init_24 : decode cX7_init 24 = .ok (.newarray .int, 2) := by decide +kernel
theorem dX7_init_26 : decode cX7_init 26 = .ok (.putfield 22, 3) := by decide +kernel
theorem dX7_init_29 : decode cX7_init 29 = .ok (.aload_n 0, 1) := by decide +kernel
theorem dX7_init_30 : decode cX7_init 30 = .ok (.bipush 6, 2) := by decide +kernel
theorem dX7_init_32 : decode cX7_init 32 = .ok (.newarray .int, 2) := by decide +kernel
theorem dX7_init_34 : decode cX7_init 34 = .ok (.putfield 25, 3) := by decide +kernel
theorem dX7_init_37 : decode cX7_init 37 = .ok (.aload_n 0, 1) := by decide +kernel
theorem dX7_init_38 : decode cX7_init 38 = .ok (.bipush 6, 2) := by decide +kernel
theorem dX7_init_40 : decode cX7_init 40 = .ok (.newarray .int, 2) := by decide +kernel
theorem dX7_init_42 : decode cX7_init 42 = .ok (.putfield 28, 3) := by decide +kernel
theorem dX7_init_45 : decode cX7_init 45 = .ok (.aload_n 0, 1) := by decide +kernel
theorem dX7_init_46 : decode cX7_init 46 = .ok (.bipush 6, 2) := by decide +kernel
theorem dX7_init_48 : decode cX7_init 48 = .ok (.newarray .int, 2) := by decide +kernel
theorem dX7_init_50 : decode cX7_init 50 = .ok (.putfield 31, 3) := by decide +kernel
theorem dX7_init_53 : decode cX7_init 53 = .ok (.aload_n 0, 1) := by decide +kernel
theorem dX7_init_54 : decode cX7_init 54 = .ok (.bipush 6, 2) := by decide +kernel
theorem dX7_init_56 : decode cX7_init 56 = .ok (.newarray .int, 2) := by decide +kernel
theorem dX7_init_58 : decode cX7_init 58 = .ok (.putfield 34, 3) := by decide +kernel
theorem dX7_init_61 : decode cX7_init 61 = .ok (.aload_n 0, 1) := by decide +kernel
theorem dX7_init_62 : decode cX7_init 62 = .ok (.bipush 6, 2) := by decide +kernel
theorem dX7_init_64 : decode cX7_init 64 = .ok (.newarray .int, 2) := by decide +kernel
theorem dX7_init_66 : decode cX7_init 66 = .ok (.putfield 37, 3) := by decide +kernel
theorem dX7_init_69 : decode cX7_init 69 = .ok (.aload_n 0, 1) := by decide +kernel
theorem dX7_init_70 : decode cX7_init 70 = .ok (.bipush 6, 2) := by decide +kernel
theorem dX7_init_72 : decode cX7_init 72 = .ok (.newarray .int, 2) := by decide +kernel
theorem dX7_init_74 : decode cX7_init 74 = .ok (.putfield 40, 3) := by decide +kernel
theorem dX7_init_77 : decode cX7_init 77 = .ok (.return_, 1) := by decide +kernel
theorem dX7_seasonOf_0 : decode cX7_seasonOf 0 = .ok (.iload_n 0, 1) := by decide +kernel
theorem dX7_seasonOf_1 : decode cX7_seasonOf 1 = .ok (.bipush 13, 2) := by decide +kernel
theorem dX7_seasonOf_3 : decode cX7_seasonOf 3 = .ok (.idiv, 1) := by decide +kernel
theorem dX7_seasonOf_4 : decode cX7_seasonOf 4 = .ok (.iconst 4, 1) := by decide +kernel
theorem dX7_seasonOf_5 : decode cX7_seasonOf 5 = .ok (.irem, 1) := by decide +kernel
theorem dX7_seasonOf_6 : decode cX7_seasonOf 6 = .ok (.ireturn, 1) := by decide +kernel
theorem dX7_season_0 : decode cX7_season 0 = .ok (.aload_n 0, 1) := by decide +kernel
theorem dX7_season_1 : decode cX7_season 1 = .ok (.getfield 43, 3) := by decide +kernel
theorem dX7_season_4 : decode cX7_season 4 = .ok (.invokestatic 47, 3) := by decide +kernel
theorem dX7_season_7 : decode cX7_season 7 = .ok (.ireturn, 1) := by decide +kernel
theorem dX7_weightAt_0 : decode cX7_weightAt 0 = .ok (.aload_n 0, 1) := by decide +kernel
theorem dX7_weightAt_1 : decode cX7_weightAt 1 = .ok (.getfield 12, 3) := by decide +kernel
theorem dX7_weightAt_4 : decode cX7_weightAt 4 = .ok (.getfield 51, 3) := by decide +kernel
theorem dX7_weightAt_7 : decode cX7_weightAt 7 = .ok (.iload_n 1, 1) := by decide +kernel
theorem dX7_weightAt_8 : decode cX7_weightAt 8 = .ok (.iaload, 1) := by decide +kernel
theorem dX7_weightAt_9 : decode cX7_weightAt 9 = .ok (.aload_n 0, 1) := by decide +kernel
theorem dX7_weightAt_10 : decode cX7_weightAt 10 = .ok (.getfield 12, 3) := by decide +kernel
theorem dX7_weightAt_13 : decode cX7_weightAt 13 = .ok (.getfield 54, 3) := by decide +kernel
theorem dX7_weightAt_16 : decode cX7_weightAt 16 = .ok (.iload_n 1, 1) := by decide +kernel
theorem dX7_weightAt_17 : decode cX7_weightAt 17 = .ok (.iconst 4, 1) := by decide +kernel
theorem dX7_weightAt_18 : decode cX7_weightAt 18 = .ok (.imul, 1) := by decide +kernel
theorem dX7_weightAt_19 : decode cX7_weightAt 19 = .ok (.aload_n 0, 1) := by decide +kernel
theorem dX7_weightAt_20 : decode cX7_weightAt 20 = .ok (.invokevirtual 57, 3) := by decide +kernel
theorem dX7_weightAt_23 : decode cX7_weightAt 23 = .ok (.iadd, 1) := by decide +kernel
theorem dX7_weightAt_24 : decode cX7_weightAt 24 = .ok (.iaload, 1) := by decide +kernel
theorem dX7_weightAt_25 : decode cX7_weightAt 25 = .ok (.iload_n 2, 1) := by decide +kernel
theorem dX7_weightAt_26 : decode cX7_weightAt 26 = .ok (.invokestatic 61, 3) := by decide +kernel
theorem dX7_weightAt_29 : decode cX7_weightAt 29 = .ok (.ireturn, 1) := by decide +kernel
theorem dX7_weightOfGood_0 : decode cX7_weightOfGood 0 = .ok (.aload_n 0, 1) := by decide +kernel
theorem dX7_weightOfGood_1 : decode cX7_weightOfGood 1 = .ok (.aload_n 0, 1) := by decide +kernel
theorem dX7_weightOfGood_2 : decode cX7_weightOfGood 2 = .ok (.getfield 31, 3) := by decide +kernel
theorem dX7_weightOfGood_5 : decode cX7_weightOfGood 5 = .ok (.iload_n 1, 1) := by decide +kernel
theorem dX7_weightOfGood_6 : decode cX7_weightOfGood 6 = .ok (.iaload, 1) := by decide +kernel
theorem dX7_weightOfGood_7 : decode cX7_weightOfGood 7 = .ok (.aload_n 0, 1) := by decide +kernel
theorem dX7_weightOfGood_8 : decode cX7_weightOfGood 8 = .ok (.getfield 25, 3) := by decide +kernel
theorem dX7_weightOfGood_11 : decode cX7_weightOfGood 11 = .ok (.iload_n 1, 1) := by decide +kernel
theorem dX7_weightOfGood_12 : decode cX7_weightOfGood 12 = .ok (.iaload, 1) := by decide +kernel
theorem dX7_weightOfGood_13 : decode cX7_weightOfGood 13 = .ok (.invokevirtual 65, 3) := by decide +kernel
theorem dX7_weightOfGood_16 : decode cX7_weightOfGood 16 = .ok (.ireturn, 1) := by decide +kernel
theorem dX7_hasCart_0 : decode cX7_hasCart 0 = .ok (.iload_n 1, 1) := by decide +kernel
theorem dX7_hasCart_1 : decode cX7_hasCart 1 = .ok (.ifCond .lt 15, 3) := by decide +kernel
theorem dX7_hasCart_4 : decode cX7_hasCart 4 = .ok (.iload_n 1, 1) := by decide +kernel
theorem dX7_hasCart_5 : decode cX7_hasCart 5 = .ok (.aload_n 0, 1) := by decide +kernel
theorem dX7_hasCart_6 : decode cX7_hasCart 6 = .ok (.getfield 69, 3) := by decide +kernel
theorem dX7_hasCart_9 : decode cX7_hasCart 9 = .ok (.if_icmp .ge 7, 3) := by decide +kernel
theorem dX7_hasCart_12 : decode cX7_hasCart 12 = .ok (.iconst 1, 1) := by decide +kernel
theorem dX7_hasCart_13 : decode cX7_hasCart 13 = .ok (.goto 4, 3) := by decide +kernel
theorem dX7_hasCart_16 : decode cX7_hasCart 16 = .ok (.iconst 0, 1) := by decide +kernel
theorem dX7_hasCart_17 : decode cX7_hasCart 17 = .ok (.ireturn, 1) := by decide +kernel
theorem dX7_hasGood_0 : decode cX7_hasGood 0 = .ok (.iload_n 1, 1) := by decide +kernel
theorem dX7_hasGood_1 : decode cX7_hasGood 1 = .ok (.ifCond .lt 15, 3) := by decide +kernel
theorem dX7_hasGood_4 : decode cX7_hasGood 4 = .ok (.iload_n 1, 1) := by decide +kernel
theorem dX7_hasGood_5 : decode cX7_hasGood 5 = .ok (.aload_n 0, 1) := by decide +kernel
theorem dX7_hasGood_6 : decode cX7_hasGood 6 = .ok (.getfield 72, 3) := by decide +kernel
theorem dX7_hasGood_9 : decode cX7_hasGood 9 = .ok (.if_icmp .ge 7, 3) := by decide +kernel
theorem dX7_hasGood_12 : decode cX7_hasGood 12 = .ok (.iconst 1, 1) := by decide +kernel
theorem dX7_hasGood_13 : decode cX7_hasGood 13 = .ok (.goto 4, 3) := by decide +kernel
theorem dX7_hasGood_16 : decode cX7_hasGood 16 = .ok (.iconst 0, 1) := by decide +kernel
theorem dX7_hasGood_17 : decode cX7_hasGood 17 = .ok (.ireturn, 1) := by decide +kernel
theorem dX7_addCart_0 : decode cX7_addCart 0 = .ok (.aload_n 0, 1) := by decide +kernel
theorem dX7_addCart_1 : decode cX7_addCart 1 = .ok (.getfield 18, 3) := by decide +kernel
theorem dX7_addCart_4 : decode cX7_addCart 4 = .ok (.aload_n 0, 1) := by decide +kernel
theorem dX7_addCart_5 : decode cX7_addCart 5 = .ok (.getfield 69, 3) := by decide +kernel
theorem dX7_addCart_8 : decode cX7_addCart 8 = .ok (.iload_n 1, 1) := by decide +kernel
theorem dX7_addCart_9 : decode cX7_addCart 9 = .ok (.iastore, 1) := by decide +kernel
theorem dX7_addCart_10 : decode cX7_addCart 10 = .ok (.aload_n 0, 1) := by decide +kernel
theorem dX7_addCart_11 : decode cX7_addCart 11 = .ok (.getfield 22, 3) := by decide +kernel
theorem dX7_addCart_14 : decode cX7_addCart 14 = .ok (.aload_n 0, 1) := by decide +kernel
theorem dX7_addCart_15 : decode cX7_addCart 15 = .ok (.getfield 69, 3) := by decide +kernel
theorem dX7_addCart_18 : decode cX7_addCart 18 = .ok (.iload_n 2, 1) := by decide +kernel
theorem dX7_addCart_19 : decode cX7_addCart 19 = .ok (.iastore, 1) := by decide +kernel
theorem dX7_addCart_20 : decode cX7_addCart 20 = .ok (.aload_n 0, 1) := by decide +kernel
theorem dX7_addCart_21 : decode cX7_addCart 21 = .ok (.dup, 1) := by decide +kernel
theorem dX7_addCart_22 : decode cX7_addCart 22 = .ok (.getfield 69, 3) := by decide +kernel
theorem dX7_addCart_25 : decode cX7_addCart 25 = .ok (.iconst 1, 1) := by decide +kernel
theorem dX7_addCart_26 : decode cX7_addCart 26 = .ok (.iadd, 1) := by decide +kernel
theorem dX7_addCart_27 : decode cX7_addCart 27 = .ok (.putfield 69, 3) := by decide +kernel
theorem dX7_addCart_30 : decode cX7_addCart 30 = .ok (.aload_n 0, 1) := by decide +kernel
theorem dX7_addCart_31 : decode cX7_addCart 31 = .ok (.getfield 69, 3) := by decide +kernel
theorem dX7_addCart_34 : decode cX7_addCart 34 = .ok (.iconst 1, 1) := by decide +kernel
theorem dX7_addCart_35 : decode cX7_addCart 35 = .ok (.isub, 1) := by decide +kernel
theorem dX7_addCart_36 : decode cX7_addCart 36 = .ok (.ireturn, 1) := by decide +kernel
theorem dX7_addGood_0 : decode cX7_addGood 0 = .ok (.aload_n 0, 1) := by decide +kernel
theorem dX7_addGood_1 : decode cX7_addGood 1 = .ok (.getfield 25, 3) := by decide +kernel
theorem dX7_addGood_4 : decode cX7_addGood 4 = .ok (.aload_n 0, 1) := by decide +kernel
theorem dX7_addGood_5 : decode cX7_addGood 5 = .ok (.getfield 72, 3) := by decide +kernel
theorem dX7_addGood_8 : decode cX7_addGood 8 = .ok (.iload_n 1, 1) := by decide +kernel
theorem dX7_addGood_9 : decode cX7_addGood 9 = .ok (.iastore, 1) := by decide +kernel
theorem dX7_addGood_10 : decode cX7_addGood 10 = .ok (.aload_n 0, 1) := by decide +kernel
theorem dX7_addGood_11 : decode cX7_addGood 11 = .ok (.getfield 28, 3) := by decide +kernel
theorem dX7_addGood_14 : decode cX7_addGood 14 = .ok (.aload_n 0, 1) := by decide +kernel
theorem dX7_addGood_15 : decode cX7_addGood 15 = .ok (.getfield 72, 3) := by decide +kernel
theorem dX7_addGood_18 : decode cX7_addGood 18 = .ok (.iload_n 2, 1) := by decide +kernel
theorem dX7_addGood_19 : decode cX7_addGood 19 = .ok (.iastore, 1) := by decide +kernel
theorem dX7_addGood_20 : decode cX7_addGood 20 = .ok (.aload_n 0, 1) := by decide +kernel
theorem dX7_addGood_21 : decode cX7_addGood 21 = .ok (.getfield 31, 3) := by decide +kernel
theorem dX7_addGood_24 : decode cX7_addGood 24 = .ok (.aload_n 0, 1) := by decide +kernel
theorem dX7_addGood_25 : decode cX7_addGood 25 = .ok (.getfield 72, 3) := by decide +kernel
theorem dX7_addGood_28 : decode cX7_addGood 28 = .ok (.iload_n 3, 1) := by decide +kernel
theorem dX7_addGood_29 : decode cX7_addGood 29 = .ok (.iastore, 1) := by decide +kernel
theorem dX7_addGood_30 : decode cX7_addGood 30 = .ok (.aload_n 0, 1) := by decide +kernel
theorem dX7_addGood_31 : decode cX7_addGood 31 = .ok (.getfield 34, 3) := by decide +kernel
theorem dX7_addGood_34 : decode cX7_addGood 34 = .ok (.aload_n 0, 1) := by decide +kernel
theorem dX7_addGood_35 : decode cX7_addGood 35 = .ok (.getfield 72, 3) := by decide +kernel
theorem dX7_addGood_38 : decode cX7_addGood 38 = .ok (.iconst 0, 1) := by decide +kernel
theorem dX7_addGood_39 : decode cX7_addGood 39 = .ok (.iastore, 1) := by decide +kernel
theorem dX7_addGood_40 : decode cX7_addGood 40 = .ok (.aload_n 0, 1) := by decide +kernel
theorem dX7_addGood_41 : decode cX7_addGood 41 = .ok (.dup, 1) := by decide +kernel
theorem dX7_addGood_42 : decode cX7_addGood 42 = .ok (.getfield 72, 3) := by decide +kernel
theorem dX7_addGood_45 : decode cX7_addGood 45 = .ok (.iconst 1, 1) := by decide +kernel
theorem dX7_addGood_46 : decode cX7_addGood 46 = .ok (.iadd, 1) := by decide +kernel
theorem dX7_addGood_47 : decode cX7_addGood 47 = .ok (.putfield 72, 3) := by decide +kernel
theorem dX7_addGood_50 : decode cX7_addGood 50 = .ok (.aload_n 0, 1) := by decide +kernel
theorem dX7_addGood_51 : decode cX7_addGood 51 = .ok (.getfield 72, 3) := by decide +kernel
theorem dX7_addGood_54 : decode cX7_addGood 54 = .ok (.iconst 1, 1) := by decide +kernel
theorem dX7_addGood_55 : decode cX7_addGood 55 = .ok (.isub, 1) := by decide +kernel
theorem dX7_addGood_56 : decode cX7_addGood 56 = .ok (.ireturn, 1) := by decide +kernel
theorem dX7_addPerson_0 : decode cX7_addPerson 0 = .ok (.aload_n 0, 1) := by decide +kernel
theorem dX7_addPerson_1 : decode cX7_addPerson 1 = .ok (.getfield 37, 3) := by decide +kernel
theorem dX7_addPerson_4 : decode cX7_addPerson 4 = .ok (.aload_n 0, 1) := by decide +kernel
theorem dX7_addPerson_5 : decode cX7_addPerson 5 = .ok (.getfield 75, 3) := by decide +kernel
theorem dX7_addPerson_8 : decode cX7_addPerson 8 = .ok (.iload_n 1, 1) := by decide +kernel
theorem dX7_addPerson_9 : decode cX7_addPerson 9 = .ok (.iastore, 1) := by decide +kernel
theorem dX7_addPerson_10 : decode cX7_addPerson 10 = .ok (.aload_n 0, 1) := by decide +kernel
theorem dX7_addPerson_11 : decode cX7_addPerson 11 = .ok (.getfield 40, 3) := by decide +kernel
theorem dX7_addPerson_14 : decode cX7_addPerson 14 = .ok (.aload_n 0, 1) := by decide +kernel
theorem dX7_addPerson_15 : decode cX7_addPerson 15 = .ok (.getfield 75, 3) := by decide +kernel
theorem dX7_addPerson_18 : decode cX7_addPerson 18 = .ok (.iload_n 2, 1) := by decide +kernel
theorem dX7_addPerson_19 : decode cX7_addPerson 19 = .ok (.iastore, 1) := by decide +kernel
theorem dX7_addPerson_20 : decode cX7_addPerson 20 = .ok (.aload_n 0, 1) := by decide +kernel
theorem dX7_addPerson_21 : decode cX7_addPerson 21 = .ok (.dup, 1) := by decide +kernel
theorem dX7_addPerson_22 : decode cX7_addPerson 22 = .ok (.getfield 75, 3) := by decide +kernel
theorem dX7_addPerson_25 : decode cX7_addPerson 25 = .ok (.iconst 1, 1) := by decide +kernel
theorem dX7_addPerson_26 : decode cX7_addPerson 26 = .ok (.iadd, 1) := by decide +kernel
theorem dX7_addPerson_27 : decode cX7_addPerson 27 = .ok (.putfield 75, 3) := by decide +kernel
theorem dX7_addPerson_30 : decode cX7_addPerson 30 = .ok (.aload_n 0, 1) := by decide +kernel
theorem dX7_addPerson_31 : decode cX7_addPerson 31 = .ok (.getfield 75, 3) := by decide +kernel
theorem dX7_addPerson_34 : decode cX7_addPerson 34 = .ok (.iconst 1, 1) := by decide +kernel
theorem dX7_addPerson_35 : decode cX7_addPerson 35 = .ok (.isub, 1) := by decide +kernel
theorem dX7_addPerson_36 : decode cX7_addPerson 36 = .ok (.ireturn, 1) := by decide +kernel
theorem dX7_hanging_0 : decode cX7_hanging 0 = .ok (.iconst 0, 1) := by decide +kernel
theorem dX7_hanging_1 : decode cX7_hanging 1 = .ok (.istore_n 1, 1) := by decide +kernel
theorem dX7_hanging_2 : decode cX7_hanging 2 = .ok (.iconst 0, 1) := by decide +kernel
theorem dX7_hanging_3 : decode cX7_hanging 3 = .ok (.istore_n 2, 1) := by decide +kernel
theorem dX7_hanging_4 : decode cX7_hanging 4 = .ok (.iload_n 2, 1) := by decide +kernel
theorem dX7_hanging_5 : decode cX7_hanging 5 = .ok (.aload_n 0, 1) := by decide +kernel
theorem dX7_hanging_6 : decode cX7_hanging 6 = .ok (.getfield 72, 3) := by decide +kernel
theorem dX7_hanging_9 : decode cX7_hanging 9 = .ok (.if_icmp .ge 21, 3) := by decide +kernel
theorem dX7_hanging_12 : decode cX7_hanging 12 = .ok (.aload_n 0, 1) := by decide +kernel
theorem dX7_hanging_13 : decode cX7_hanging 13 = .ok (.getfield 34, 3) := by decide +kernel
theorem dX7_hanging_16 : decode cX7_hanging 16 = .ok (.iload_n 2, 1) := by decide +kernel
theorem dX7_hanging_17 : decode cX7_hanging 17 = .ok (.iaload, 1) := by decide +kernel
theorem dX7_hanging_18 : decode cX7_hanging 18 = .ok (.ifCond .le 6, 3) := by decide +kernel
theorem dX7_hanging_21 : decode cX7_hanging 21 = .ok (.iinc 1 1, 3) := by decide +kernel
theorem dX7_hanging_24 : decode cX7_hanging 24 = .ok (.iinc 2 1, 3) := by decide +kernel
theorem dX7_hanging_27 : decode cX7_hanging 27 = .ok (.goto (-23), 3) := by decide +kernel
theorem dX7_hanging_30 : decode cX7_hanging 30 = .ok (.iload_n 1, 1) := by decide +kernel
theorem dX7_hanging_31 : decode cX7_hanging 31 = .ok (.ireturn, 1) := by decide +kernel
theorem dX7_passWeek_0 : decode cX7_passWeek 0 = .ok (.aload_n 0, 1) := by decide +kernel
theorem dX7_passWeek_1 : decode cX7_passWeek 1 = .ok (.dup, 1) := by decide +kernel
theorem dX7_passWeek_2 : decode cX7_passWeek 2 = .ok (.getfield 43, 3) := by decide +kernel
theorem dX7_passWeek_5 : decode cX7_passWeek 5 = .ok (.iconst 1, 1) := by decide +kernel
theorem dX7_passWeek_6 : decode cX7_passWeek 6 = .ok (.iadd, 1) := by decide +kernel
theorem dX7_passWeek_7 : decode cX7_passWeek 7 = .ok (.putfield 43, 3) := by decide +kernel
theorem dX7_passWeek_10 : decode cX7_passWeek 10 = .ok (.iconst 0, 1) := by decide +kernel
theorem dX7_passWeek_11 : decode cX7_passWeek 11 = .ok (.istore_n 1, 1) := by decide +kernel
theorem dX7_passWeek_12 : decode cX7_passWeek 12 = .ok (.iconst 0, 1) := by decide +kernel
theorem dX7_passWeek_13 : decode cX7_passWeek 13 = .ok (.istore_n 2, 1) := by decide +kernel
theorem dX7_passWeek_14 : decode cX7_passWeek 14 = .ok (.iload_n 2, 1) := by decide +kernel
theorem dX7_passWeek_15 : decode cX7_passWeek 15 = .ok (.aload_n 0, 1) := by decide +kernel
theorem dX7_passWeek_16 : decode cX7_passWeek 16 = .ok (.getfield 75, 3) := by decide +kernel
theorem dX7_passWeek_19 : decode cX7_passWeek 19 = .ok (.if_icmp .ge 35, 3) := by decide +kernel
theorem dX7_passWeek_22 : decode cX7_passWeek 22 = .ok (.aload_n 0, 1) := by decide +kernel
theorem dX7_passWeek_23 : decode cX7_passWeek 23 = .ok (.iload_n 2, 1) := by decide +kernel
theorem dX7_passWeek_24 : decode cX7_passWeek 24 = .ok (.invokevirtual 78, 3) := by decide +kernel
theorem dX7_passWeek_27 : decode cX7_passWeek 27 = .ok (.istore_n 3, 1) := by decide +kernel
theorem dX7_passWeek_28 : decode cX7_passWeek 28 = .ok (.iload_n 3, 1) := by decide +kernel
theorem dX7_passWeek_29 : decode cX7_passWeek 29 = .ok (.aload_n 0, 1) := by decide +kernel
theorem dX7_passWeek_30 : decode cX7_passWeek 30 = .ok (.getfield 40, 3) := by decide +kernel
theorem dX7_passWeek_33 : decode cX7_passWeek 33 = .ok (.iload_n 2, 1) := by decide +kernel
theorem dX7_passWeek_34 : decode cX7_passWeek 34 = .ok (.iaload, 1) := by decide +kernel
theorem dX7_passWeek_35 : decode cX7_passWeek 35 = .ok (.if_icmp .eq 13, 3) := by decide +kernel
theorem dX7_passWeek_38 : decode cX7_passWeek 38 = .ok (.aload_n 0, 1) := by decide +kernel
theorem dX7_passWeek_39 : decode cX7_passWeek 39 = .ok (.getfield 40, 3) := by decide +kernel
theorem dX7_passWeek_42 : decode cX7_passWeek 42 = .ok (.iload_n 2, 1) := by decide +kernel
theorem dX7_passWeek_43 : decode cX7_passWeek 43 = .ok (.iload_n 3, 1) := by decide +kernel
theorem dX7_passWeek_44 : decode cX7_passWeek 44 = .ok (.iastore, 1) := by decide +kernel
theorem dX7_passWeek_45 : decode cX7_passWeek 45 = .ok (.iinc 1 100, 3) := by decide +kernel
theorem dX7_passWeek_48 : decode cX7_passWeek 48 = .ok (.iinc 2 1, 3) := by decide +kernel
theorem dX7_passWeek_51 : decode cX7_passWeek 51 = .ok (.goto (-37), 3) := by decide +kernel
theorem dX7_passWeek_54 : decode cX7_passWeek 54 = .ok (.iconst 0, 1) := by decide +kernel
theorem dX7_passWeek_55 : decode cX7_passWeek 55 = .ok (.istore_n 2, 1) := by decide +kernel
theorem dX7_passWeek_56 : decode cX7_passWeek 56 = .ok (.iload_n 2, 1) := by decide +kernel
theorem dX7_passWeek_57 : decode cX7_passWeek 57 = .ok (.aload_n 0, 1) := by decide +kernel
theorem dX7_passWeek_58 : decode cX7_passWeek 58 = .ok (.getfield 72, 3) := by decide +kernel
theorem dX7_passWeek_61 : decode cX7_passWeek 61 = .ok (.if_icmp .ge 42, 3) := by decide +kernel
theorem dX7_passWeek_64 : decode cX7_passWeek 64 = .ok (.aload_n 0, 1) := by decide +kernel
theorem dX7_passWeek_65 : decode cX7_passWeek 65 = .ok (.getfield 34, 3) := by decide +kernel
theorem dX7_passWeek_68 : decode cX7_passWeek 68 = .ok (.iload_n 2, 1) := by decide +kernel
theorem dX7_passWeek_69 : decode cX7_passWeek 69 = .ok (.iaload, 1) := by decide +kernel
theorem dX7_passWeek_70 : decode cX7_passWeek 70 = .ok (.ifCond .le 27, 3) := by decide +kernel
theorem dX7_passWeek_73 : decode cX7_passWeek 73 = .ok (.aload_n 0, 1) := by decide +kernel
theorem dX7_passWeek_74 : decode cX7_passWeek 74 = .ok (.iload_n 2, 1) := by decide +kernel
theorem dX7_passWeek_75 : decode cX7_passWeek 75 = .ok (.invokevirtual 81, 3) := by decide +kernel
theorem dX7_passWeek_78 : decode cX7_passWeek 78 = .ok (.aload_n 0, 1) := by decide +kernel
theorem dX7_passWeek_79 : decode cX7_passWeek 79 = .ok (.getfield 34, 3) := by decide +kernel
theorem dX7_passWeek_82 : decode cX7_passWeek 82 = .ok (.iload_n 2, 1) := by decide +kernel
theorem dX7_passWeek_83 : decode cX7_passWeek 83 = .ok (.iaload, 1) := by decide +kernel
theorem dX7_passWeek_84 : decode cX7_passWeek 84 = .ok (.if_icmp .le 13, 3) := by decide +kernel
theorem dX7_passWeek_87 : decode cX7_passWeek 87 = .ok (.aload_n 0, 1) := by decide +kernel
theorem dX7_passWeek_88 : decode cX7_passWeek 88 = .ok (.getfield 34, 3) := by decide +kernel
theorem dX7_passWeek_91 : decode cX7_passWeek 91 = .ok (.iload_n 2, 1) := by decide +kernel
theorem dX7_passWeek_92 : decode cX7_passWeek 92 = .ok (.iconst 0, 1) := by decide +kernel
theorem dX7_passWeek_93 : decode cX7_passWeek 93 = .ok (.iastore, 1) := by decide +kernel
theorem dX7_passWeek_94 : decode cX7_passWeek 94 = .ok (.iinc 1 1, 3) := by decide +kernel
theorem dX7_passWeek_97 : decode cX7_passWeek 97 = .ok (.iinc 2 1, 3) := by decide +kernel
theorem dX7_passWeek_100 : decode cX7_passWeek 100 = .ok (.goto (-44), 3) := by decide +kernel
theorem dX7_passWeek_103 : decode cX7_passWeek 103 = .ok (.iload_n 1, 1) := by decide +kernel
theorem dX7_passWeek_104 : decode cX7_passWeek 104 = .ok (.ireturn, 1) := by decide +kernel
theorem dX7_lighterParish_0 : decode cX7_lighterParish 0 = .ok (.aload_n 0, 1) := by decide +kernel
theorem dX7_lighterParish_1 : decode cX7_lighterParish 1 = .ok (.getfield 40, 3) := by decide +kernel
theorem dX7_lighterParish_4 : decode cX7_lighterParish 4 = .ok (.iload_n 1, 1) := by decide +kernel
theorem dX7_lighterParish_5 : decode cX7_lighterParish 5 = .ok (.iaload, 1) := by decide +kernel
theorem dX7_lighterParish_6 : decode cX7_lighterParish 6 = .ok (.istore_n 2, 1) := by decide +kernel
theorem dX7_lighterParish_7 : decode cX7_lighterParish 7 = .ok (.iload_n 2, 1) := by decide +kernel
theorem dX7_lighterParish_8 : decode cX7_lighterParish 8 = .ok (.istore_n 3, 1) := by decide +kernel
theorem dX7_lighterParish_9 : decode cX7_lighterParish 9 = .ok (.aload_n 0, 1) := by decide +kernel
theorem dX7_lighterParish_10 : decode cX7_lighterParish 10 = .ok (.iload_n 2, 1) := by decide +kernel
theorem dX7_lighterParish_11 : decode cX7_lighterParish 11 = .ok (.aload_n 0, 1) := by decide +kernel
theorem dX7_lighterParish_12 : decode cX7_lighterParish 12 = .ok (.getfield 37, 3) := by decide +kernel
theorem dX7_lighterParish_15 : decode cX7_lighterParish 15 = .ok (.iload_n 1, 1) := by decide +kernel
theorem dX7_lighterParish_16 : decode cX7_lighterParish 16 = .ok (.iaload, 1) := by decide +kernel
theorem dX7_lighterParish_17 : decode cX7_lighterParish 17 = .ok (.invokevirtual 65, 3) := by decide +kernel
theorem dX7_lighterParish_20 : decode cX7_lighterParish 20 = .ok (.istore 4, 2) := by decide +kernel
theorem dX7_lighterParish_22 : decode cX7_lighterParish 22 = .ok (.iconst 0, 1) := by decide +kernel
theorem dX7_lighterParish_23 : decode cX7_lighterParish 23 = .ok (.istore 5, 2) := by decide +kernel
theorem dX7_lighterParish_25 : decode cX7_lighterParish 25 = .ok (.iload 5, 2) := by decide +kernel
theorem dX7_lighterParish_27 : decode cX7_lighterParish 27 = .ok (.aload_n 0, 1) := by decide +kernel
theorem dX7_lighterParish_28 : decode cX7_lighterParish 28 = .ok (.getfield 12, 3) := by decide +kernel
theorem dX7_lighterParish_31 : decode cX7_lighterParish 31 = .ok (.getfield 84, 3) := by decide +kernel
theorem dX7_lighterParish_34 : decode cX7_lighterParish 34 = .ok (.if_icmp .ge 72, 3) := by decide +kernel
theorem dX7_lighterParish_37 : decode cX7_lighterParish 37 = .ok (.aload_n 0, 1) := by decide +kernel
theorem dX7_lighterParish_38 : decode cX7_lighterParish 38 = .ok (.getfield 12, 3) := by decide +kernel
theorem dX7_lighterParish_41 : decode cX7_lighterParish 41 = .ok (.iload 5, 2) := by decide +kernel
theorem dX7_lighterParish_43 : decode cX7_lighterParish 43 = .ok (.iload_n 2, 1) := by decide +kernel
theorem dX7_lighterParish_44 : decode cX7_lighterParish 44 = .ok (.invokevirtual 87, 3) := by decide +kernel
theorem dX7_lighterParish_47 : decode cX7_lighterParish 47 = .ok (.istore 6, 2) := by decide +kernel
theorem dX7_lighterParish_49 : decode cX7_lighterParish 49 = .ok (.iload 6, 2) := by decide +kernel
theorem dX7_lighterParish_51 : decode cX7_lighterParish 51 = .ok (.ifCond .lt 49, 3) := by decide +kernel
theorem dX7_lighterParish_54 : decode cX7_lighterParish 54 = .ok (.aload_n 0, 1) := by decide +kernel
theorem dX7_lighterParish_55 : decode cX7_lighterParish 55 = .ok (.iload 6, 2) := by decide +kernel
theorem dX7_lighterParish_57 : decode cX7_lighterParish 57 = .ok (.aload_n 0, 1) := by decide +kernel
theorem dX7_lighterParish_58 : decode cX7_lighterParish 58 = .ok (.getfield 37, 3) := by decide +kernel
theorem dX7_lighterParish_61 : decode cX7_lighterParish 61 = .ok (.iload_n 1, 1) := by decide +kernel
theorem dX7_lighterParish_62 : decode cX7_lighterParish 62 = .ok (.iaload, 1) := by decide +kernel
theorem dX7_lighterParish_63 : decode cX7_lighterParish 63 = .ok (.invokevirtual 65, 3) := by decide +kernel
theorem dX7_lighterParish_66 : decode cX7_lighterParish 66 = .ok (.istore 7, 2) := by decide +kernel
theorem dX7_lighterParish_68 : decode cX7_lighterParish 68 = .ok (.iload 7, 2) := by decide +kernel
theorem dX7_lighterParish_70 : decode cX7_lighterParish 70 = .ok (.iload 4, 2) := by decide +kernel
theorem dX7_lighterParish_72 : decode cX7_lighterParish 72 = .ok (.if_icmp .lt 21, 3) := by decide +kernel
theorem dX7_lighterParish_75 : decode cX7_lighterParish 75 = .ok (.iload 7, 2) := by decide +kernel
theorem dX7_lighterParish_77 : decode cX7_lighterParish 77 = .ok (.iload 4, 2) := by decide +kernel
theorem dX7_lighterParish_79 : decode cX7_lighterParish 79 = .ok (.if_icmp .ne 21, 3) := by decide +kernel
theorem dX7_lighterParish_82 : decode cX7_lighterParish 82 = .ok (.iload_n 3, 1) := by decide +kernel
theorem dX7_lighterParish_83 : decode cX7_lighterParish 83 = .ok (.iload_n 2, 1) := by decide +kernel
theorem dX7_lighterParish_84 : decode cX7_lighterParish 84 = .ok (.if_icmp .eq 16, 3) := by decide +kernel
theorem dX7_lighterParish_87 : decode cX7_lighterParish 87 = .ok (.iload 6, 2) := by decide +kernel
theorem dX7_lighterParish_89 : decode cX7_lighterParish 89 = .ok (.iload_n 3, 1) := by decide +kernel
theorem dX7_lighterParish_90 : decode cX7_lighterParish 90 = .ok (.if_icmp .ge 10, 3) := by decide +kernel
theorem dX7_lighterParish_93 : decode cX7_lighterParish 93 = .ok (.iload 6, 2) := by decide +kernel
theorem dX7_lighterParish_95 : decode cX7_lighterParish 95 = .ok (.istore_n 3, 1) := by decide +kernel
theorem dX7_lighterParish_96 : decode cX7_lighterParish 96 = .ok (.iload 7, 2) := by decide +kernel
theorem dX7_lighterParish_98 : decode cX7_lighterParish 98 = .ok (.istore 4, 2) := by decide +kernel
theorem dX7_lighterParish_100 : decode cX7_lighterParish 100 = .ok (.iinc 5 1, 3) := by decide +kernel
theorem dX7_lighterParish_103 : decode cX7_lighterParish 103 = .ok (.goto (-78), 3) := by decide +kernel
theorem dX7_lighterParish_106 : decode cX7_lighterParish 106 = .ok (.iload_n 3, 1) := by decide +kernel
theorem dX7_lighterParish_107 : decode cX7_lighterParish 107 = .ok (.ireturn, 1) := by decide +kernel
theorem dX7_wouldFall_0 : decode cX7_wouldFall 0 = .ok (.iconst 0, 1) := by decide +kernel
theorem dX7_wouldFall_1 : decode cX7_wouldFall 1 = .ok (.istore_n 3, 1) := by decide +kernel
theorem dX7_wouldFall_2 : decode cX7_wouldFall 2 = .ok (.iconst 0, 1) := by decide +kernel
theorem dX7_wouldFall_3 : decode cX7_wouldFall 3 = .ok (.istore 4, 2) := by decide +kernel
theorem dX7_wouldFall_5 : decode cX7_wouldFall 5 = .ok (.iload 4, 2) := by decide +kernel
theorem dX7_wouldFall_7 : decode cX7_wouldFall 7 = .ok (.aload_n 0, 1) := by decide +kernel
theorem dX7_wouldFall_8 : decode cX7_wouldFall 8 = .ok (.getfield 72, 3) := by decide +kernel
theorem dX7_wouldFall_11 : decode cX7_wouldFall 11 = .ok (.if_icmp .ge 67, 3) := by decide +kernel
theorem dX7_wouldFall_14 : decode cX7_wouldFall 14 = .ok (.aload_n 0, 1) := by decide +kernel
theorem dX7_wouldFall_15 : decode cX7_wouldFall 15 = .ok (.getfield 31, 3) := by decide +kernel
theorem dX7_wouldFall_18 : decode cX7_wouldFall 18 = .ok (.iload 4, 2) := by decide +kernel
theorem dX7_wouldFall_20 : decode cX7_wouldFall 20 = .ok (.iaload, 1) := by decide +kernel
theorem dX7_wouldFall_21 : decode cX7_wouldFall 21 = .ok (.iload_n 1, 1) := by decide +kernel
theorem dX7_wouldFall_22 : decode cX7_wouldFall 22 = .ok (.if_icmp .ne 50, 3) := by decide +kernel
theorem dX7_wouldFall_25 : decode cX7_wouldFall 25 = .ok (.aload_n 0, 1) := by decide +kernel
theorem dX7_wouldFall_26 : decode cX7_wouldFall 26 = .ok (.getfield 34, 3) := by decide +kernel
theorem dX7_wouldFall_29 : decode cX7_wouldFall 29 = .ok (.iload 4, 2) := by decide +kernel
theorem dX7_wouldFall_31 : decode cX7_wouldFall 31 = .ok (.iaload, 1) := by decide +kernel
theorem dX7_wouldFall_32 : decode cX7_wouldFall 32 = .ok (.ifCond .le 40, 3) := by decide +kernel
theorem dX7_wouldFall_35 : decode cX7_wouldFall 35 = .ok (.aload_n 0, 1) := by decide +kernel
theorem dX7_wouldFall_36 : decode cX7_wouldFall 36 = .ok (.getfield 12, 3) := by decide +kernel
theorem dX7_wouldFall_39 : decode cX7_wouldFall 39 = .ok (.getfield 51, 3) := by decide +kernel
theorem dX7_wouldFall_42 : decode cX7_wouldFall 42 = .ok (.iload_n 1, 1) := by decide +kernel
theorem dX7_wouldFall_43 : decode cX7_wouldFall 43 = .ok (.iaload, 1) := by decide +kernel
theorem dX7_wouldFall_44 : decode cX7_wouldFall 44 = .ok (.iload_n 2, 1) := by decide +kernel
theorem dX7_wouldFall_45 : decode cX7_wouldFall 45 = .ok (.aload_n 0, 1) := by decide +kernel
theorem dX7_wouldFall_46 : decode cX7_wouldFall 46 = .ok (.getfield 25, 3) := by decide +kernel
theorem dX7_wouldFall_49 : decode cX7_wouldFall 49 = .ok (.iload 4, 2) := by decide +kernel
theorem dX7_wouldFall_51 : decode cX7_wouldFall 51 = .ok (.iaload, 1) := by decide +kernel
theorem dX7_wouldFall_52 : decode cX7_wouldFall 52 = .ok (.invokestatic 61, 3) := by decide +kernel
theorem dX7_wouldFall_55 : decode cX7_wouldFall 55 = .ok (.aload_n 0, 1) := by decide +kernel
theorem dX7_wouldFall_56 : decode cX7_wouldFall 56 = .ok (.getfield 34, 3) := by decide +kernel
theorem dX7_wouldFall_59 : decode cX7_wouldFall 59 = .ok (.iload 4, 2) := by decide +kernel
theorem dX7_wouldFall_61 : decode cX7_wouldFall 61 = .ok (.iaload, 1) := by decide +kernel
theorem dX7_wouldFall_62 : decode cX7_wouldFall 62 = .ok (.if_icmp .le 10, 3) := by decide +kernel
theorem dX7_wouldFall_65 : decode cX7_wouldFall 65 = .ok (.iload_n 3, 1) := by decide +kernel
theorem dX7_wouldFall_66 : decode cX7_wouldFall 66 = .ok (.iconst 1, 1) := by decide +kernel
theorem dX7_wouldFall_67 : decode cX7_wouldFall 67 = .ok (.iload 4, 2) := by decide +kernel
theorem dX7_wouldFall_69 : decode cX7_wouldFall 69 = .ok (.ishl, 1) := by decide +kernel
theorem dX7_wouldFall_70 : decode cX7_wouldFall 70 = .ok (.ior, 1) := by decide +kernel
theorem dX7_wouldFall_71 : decode cX7_wouldFall 71 = .ok (.istore_n 3, 1) := by decide +kernel
theorem dX7_wouldFall_72 : decode cX7_wouldFall 72 = .ok (.iinc 4 1, 3) := by decide +kernel
theorem dX7_wouldFall_75 : decode cX7_wouldFall 75 = .ok (.goto (-70), 3) := by decide +kernel
theorem dX7_wouldFall_78 : decode cX7_wouldFall 78 = .ok (.iload_n 3, 1) := by decide +kernel
theorem dX7_wouldFall_79 : decode cX7_wouldFall 79 = .ok (.ireturn, 1) := by decide +kernel
theorem dX7_wouldBeLighter_0 : decode cX7_wouldBeLighter 0 = .ok (.iconst 0, 1) := by decide +kernel
theorem dX7_wouldBeLighter_1 : decode cX7_wouldBeLighter 1 = .ok (.istore_n 3, 1) := by decide +kernel
theorem dX7_wouldBeLighter_2 : decode cX7_wouldBeLighter 2 = .ok (.iconst 0, 1) := by decide +kernel
theorem dX7_wouldBeLighter_3 : decode cX7_wouldBeLighter 3 = .ok (.istore 4, 2) := by decide +kernel
theorem dX7_wouldBeLighter_5 : decode cX7_wouldBeLighter 5 = .ok (.iload 4, 2) := by decide +kernel
theorem dX7_wouldBeLighter_7 : decode cX7_wouldBeLighter 7 = .ok (.aload_n 0, 1) := by decide +kernel
theorem dX7_wouldBeLighter_8 : decode cX7_wouldBeLighter 8 = .ok (.getfield 75, 3) := by decide +kernel
theorem dX7_wouldBeLighter_11 : decode cX7_wouldBeLighter 11 = .ok (.if_icmp .ge 61, 3) := by decide +kernel
theorem dX7_wouldBeLighter_14 : decode cX7_wouldBeLighter 14 = .ok (.aload_n 0, 1) := by decide +kernel
theorem dX7_wouldBeLighter_15 : decode cX7_wouldBeLighter 15 = .ok (.getfield 37, 3) := by decide +kernel
theorem dX7_wouldBeLighter_18 : decode cX7_wouldBeLighter 18 = .ok (.iload 4, 2) := by decide +kernel
theorem dX7_wouldBeLighter_20 : decode cX7_wouldBeLighter 20 = .ok (.iaload, 1) := by decide +kernel
theorem dX7_wouldBeLighter_21 : decode cX7_wouldBeLighter 21 = .ok (.istore 5, 2) := by decide +kernel
theorem dX7_wouldBeLighter_23 : decode cX7_wouldBeLighter 23 = .ok (.aload_n 0, 1) := by decide +kernel
theorem dX7_wouldBeLighter_24 : decode cX7_wouldBeLighter 24 = .ok (.getfield 40, 3) := by decide +kernel
theorem dX7_wouldBeLighter_27 : decode cX7_wouldBeLighter 27 = .ok (.iload 4, 2) := by decide +kernel
theorem dX7_wouldBeLighter_29 : decode cX7_wouldBeLighter 29 = .ok (.iaload, 1) := by decide +kernel
theorem dX7_wouldBeLighter_30 : decode cX7_wouldBeLighter 30 = .ok (.iload_n 1, 1) := by decide +kernel
theorem dX7_wouldBeLighter_31 : decode cX7_wouldBeLighter 31 = .ok (.if_icmp .ne 35, 3) := by decide +kernel
theorem dX7_wouldBeLighter_34 : decode cX7_wouldBeLighter 34 = .ok (.aload_n 0, 1) := by decide +kernel
theorem dX7_wouldBeLighter_35 : decode cX7_wouldBeLighter 35 = .ok (.getfield 12, 3) := by decide +kernel
theorem dX7_wouldBeLighter_38 : decode cX7_wouldBeLighter 38 = .ok (.getfield 51, 3) := by decide +kernel
theorem dX7_wouldBeLighter_41 : decode cX7_wouldBeLighter 41 = .ok (.iload_n 1, 1) := by decide +kernel
theorem dX7_wouldBeLighter_42 : decode cX7_wouldBeLighter 42 = .ok (.iaload, 1) := by decide +kernel
theorem dX7_wouldBeLighter_43 : decode cX7_wouldBeLighter 43 = .ok (.iload_n 2, 1) := by decide +kernel
theorem dX7_wouldBeLighter_44 : decode cX7_wouldBeLighter 44 = .ok (.iload 5, 2) := by decide +kernel
theorem dX7_wouldBeLighter_46 : decode cX7_wouldBeLighter 46 = .ok (.invokestatic 61, 3) := by decide +kernel
theorem dX7_wouldBeLighter_49 : decode cX7_wouldBeLighter 49 = .ok (.aload_n 0, 1) := by decide +kernel
theorem dX7_wouldBeLighter_50 : decode cX7_wouldBeLighter 50 = .ok (.iload_n 1, 1) := by decide +kernel
theorem dX7_wouldBeLighter_51 : decode cX7_wouldBeLighter 51 = .ok (.iload 5, 2) := by decide +kernel
theorem dX7_wouldBeLighter_53 : decode cX7_wouldBeLighter 53 = .ok (.invokevirtual 65, 3) := by decide +kernel
theorem dX7_wouldBeLighter_56 : decode cX7_wouldBeLighter 56 = .ok (.if_icmp .ge 10, 3) := by decide +kernel
theorem dX7_wouldBeLighter_59 : decode cX7_wouldBeLighter 59 = .ok (.iload_n 3, 1) := by decide +kernel
theorem dX7_wouldBeLighter_60 : decode cX7_wouldBeLighter 60 = .ok (.iconst 1, 1) := by decide +kernel
theorem dX7_wouldBeLighter_61 : decode cX7_wouldBeLighter 61 = .ok (.iload 4, 2) := by decide +kernel
theorem dX7_wouldBeLighter_63 : decode cX7_wouldBeLighter 63 = .ok (.ishl, 1) := by decide +kernel
theorem dX7_wouldBeLighter_64 : decode cX7_wouldBeLighter 64 = .ok (.ior, 1) := by decide +kernel
theorem dX7_wouldBeLighter_65 : decode cX7_wouldBeLighter 65 = .ok (.istore_n 3, 1) := by decide +kernel
theorem dX7_wouldBeLighter_66 : decode cX7_wouldBeLighter 66 = .ok (.iinc 4 1, 3) := by decide +kernel
theorem dX7_wouldBeLighter_69 : decode cX7_wouldBeLighter 69 = .ok (.goto (-64), 3) := by decide +kernel
theorem dX7_wouldBeLighter_72 : decode cX7_wouldBeLighter 72 = .ok (.iload_n 3, 1) := by decide +kernel
theorem dX7_wouldBeLighter_73 : decode cX7_wouldBeLighter 73 = .ok (.ireturn, 1) := by decide +kernel
theorem dX7_settle_0 : decode cX7_settle 0 = .ok (.aload_n 0, 1) := by decide +kernel
theorem dX7_settle_1 : decode cX7_settle 1 = .ok (.getfield 12, 3) := by decide +kernel
theorem dX7_settle_4 : decode cX7_settle 4 = .ok (.aload_n 1, 1) := by decide +kernel
theorem dX7_settle_5 : decode cX7_settle 5 = .ok (.invokevirtual 90, 3) := by decide +kernel
theorem dX7_settle_8 : decode cX7_settle 8 = .ok (.aload_n 0, 1) := by decide +kernel
theorem dX7_settle_9 : decode cX7_settle 9 = .ok (.iconst 0, 1) := by decide +kernel
theorem dX7_settle_10 : decode cX7_settle 10 = .ok (.putfield 72, 3) := by decide +kernel
theorem dX7_settle_13 : decode cX7_settle 13 = .ok (.aload_n 0, 1) := by decide +kernel
theorem dX7_settle_14 : decode cX7_settle 14 = .ok (.iconst 0, 1) := by decide +kernel
theorem dX7_settle_15 : decode cX7_settle 15 = .ok (.putfield 75, 3) := by decide +kernel
theorem dX7_settle_18 : decode cX7_settle 18 = .ok (.return_, 1) := by decide +kernel
theorem dX7_copyFrom_0 : decode cX7_copyFrom 0 = .ok (.aload_n 0, 1) := by decide +kernel
theorem dX7_copyFrom_1 : decode cX7_copyFrom 1 = .ok (.getfield 12, 3) := by decide +kernel
theorem dX7_copyFrom_4 : decode cX7_copyFrom 4 = .ok (.aload_n 1, 1) := by decide +kernel
theorem dX7_copyFrom_5 : decode cX7_copyFrom 5 = .ok (.getfield 12, 3) := by decide +kernel
theorem dX7_copyFrom_8 : decode cX7_copyFrom 8 = .ok (.invokevirtual 90, 3) := by decide +kernel
theorem dX7_copyFrom_11 : decode cX7_copyFrom 11 = .ok (.aload_n 1, 1) := by decide +kernel
theorem dX7_copyFrom_12 : decode cX7_copyFrom 12 = .ok (.getfield 18, 3) := by decide +kernel
theorem dX7_copyFrom_15 : decode cX7_copyFrom 15 = .ok (.iconst 0, 1) := by decide +kernel
theorem dX7_copyFrom_16 : decode cX7_copyFrom 16 = .ok (.aload_n 0, 1) := by decide +kernel
theorem dX7_copyFrom_17 : decode cX7_copyFrom 17 = .ok (.getfield 18, 3) := by decide +kernel
theorem dX7_copyFrom_20 : decode cX7_copyFrom 20 = .ok (.iconst 0, 1) := by decide +kernel
theorem dX7_copyFrom_21 : decode cX7_copyFrom 21 = .ok (.iconst 4, 1) := by decide +kernel
theorem dX7_copyFrom_22 : decode cX7_copyFrom 22 = .ok (.invokestatic 94, 3) := by decide +kernel
theorem dX7_copyFrom_25 : decode cX7_copyFrom 25 = .ok (.aload_n 1, 1) := by decide +kernel
theorem dX7_copyFrom_26 : decode cX7_copyFrom 26 = .ok (.getfield 22, 3) := by decide +kernel
theorem dX7_copyFrom_29 : decode cX7_copyFrom 29 = .ok (.iconst 0, 1) := by decide +kernel
theorem dX7_copyFrom_30 : decode cX7_copyFrom 30 = .ok (.aload_n 0, 1) := by decide +kernel
theorem dX7_copyFrom_31 : decode cX7_copyFrom 31 = .ok (.getfield 22, 3) := by decide +kernel
theorem dX7_copyFrom_34 : decode cX7_copyFrom 34 = .ok (.iconst 0, 1) := by decide +kernel
theorem dX7_copyFrom_35 : decode cX7_copyFrom 35 = .ok (.iconst 4, 1) := by decide +kernel
theorem dX7_copyFrom_36 : decode cX7_copyFrom 36 = .ok (.invokestatic 94, 3) := by decide +kernel
theorem dX7_copyFrom_39 : decode cX7_copyFrom 39 = .ok (.aload_n 1, 1) := by decide +kernel
theorem dX7_copyFrom_40 : decode cX7_copyFrom 40 = .ok (.getfield 25, 3) := by decide +kernel
theorem dX7_copyFrom_43 : decode cX7_copyFrom 43 = .ok (.iconst 0, 1) := by decide +kernel
theorem dX7_copyFrom_44 : decode cX7_copyFrom 44 = .ok (.aload_n 0, 1) := by decide +kernel
theorem dX7_copyFrom_45 : decode cX7_copyFrom 45 = .ok (.getfield 25, 3) := by decide +kernel
theorem dX7_copyFrom_48 : decode cX7_copyFrom 48 = .ok (.iconst 0, 1) := by decide +kernel
theorem dX7_copyFrom_49 : decode cX7_copyFrom 49 = .ok (.bipush 6, 2) := by decide +kernel
theorem dX7_copyFrom_51 : decode cX7_copyFrom 51 = .ok (.invokestatic 94, 3) := by decide +kernel
theorem dX7_copyFrom_54 : decode cX7_copyFrom 54 = .ok (.aload_n 1, 1) := by decide +kernel
theorem dX7_copyFrom_55 : decode cX7_copyFrom 55 = .ok (.getfield 28, 3) := by decide +kernel
theorem dX7_copyFrom_58 : decode cX7_copyFrom 58 = .ok (.iconst 0, 1) := by decide +kernel
theorem dX7_copyFrom_59 : decode cX7_copyFrom 59 = .ok (.aload_n 0, 1) := by decide +kernel
theorem dX7_copyFrom_60 : decode cX7_copyFrom 60 = .ok (.getfield 28, 3) := by decide +kernel
theorem dX7_copyFrom_63 : decode cX7_copyFrom 63 = .ok (.iconst 0, 1) := by decide +kernel
theorem dX7_copyFrom_64 : decode cX7_copyFrom 64 = .ok (.bipush 6, 2) := by decide +kernel
theorem dX7_copyFrom_66 : decode cX7_copyFrom 66 = .ok (.invokestatic 94, 3) := by decide +kernel
theorem dX7_copyFrom_69 : decode cX7_copyFrom 69 = .ok (.aload_n 1, 1) := by decide +kernel
theorem dX7_copyFrom_70 : decode cX7_copyFrom 70 = .ok (.getfield 31, 3) := by decide +kernel
theorem dX7_copyFrom_73 : decode cX7_copyFrom 73 = .ok (.iconst 0, 1) := by decide +kernel
theorem dX7_copyFrom_74 : decode cX7_copyFrom 74 = .ok (.aload_n 0, 1) := by decide +kernel
theorem dX7_copyFrom_75 : decode cX7_copyFrom 75 = .ok (.getfield 31, 3) := by decide +kernel
theorem dX7_copyFrom_78 : decode cX7_copyFrom 78 = .ok (.iconst 0, 1) := by decide +kernel
theorem dX7_copyFrom_79 : decode cX7_copyFrom 79 = .ok (.bipush 6, 2) := by decide +kernel
theorem dX7_copyFrom_81 : decode cX7_copyFrom 81 = .ok (.invokestatic 94, 3) := by decide +kernel
theorem dX7_copyFrom_84 : decode cX7_copyFrom 84 = .ok (.aload_n 1, 1) := by decide +kernel
theorem dX7_copyFrom_85 : decode cX7_copyFrom 85 = .ok (.getfield 34, 3) := by decide +kernel
theorem dX7_copyFrom_88 : decode cX7_copyFrom 88 = .ok (.iconst 0, 1) := by decide +kernel
theorem dX7_copyFrom_89 : decode cX7_copyFrom 89 = .ok (.aload_n 0, 1) := by decide +kernel
theorem dX7_copyFrom_90 : decode cX7_copyFrom 90 = .ok (.getfield 34, 3) := by decide +kernel
theorem dX7_copyFrom_93 : decode cX7_copyFrom 93 = .ok (.iconst 0, 1) := by decide +kernel
theorem dX7_copyFrom_94 : decode cX7_copyFrom 94 = .ok (.bipush 6, 2) := by decide +kernel
theorem dX7_copyFrom_96 : decode cX7_copyFrom 96 = .ok (.invokestatic 94, 3) := by decide +kernel
theorem dX7_copyFrom_99 : decode cX7_copyFrom 99 = .ok (.aload_n 1, 1) := by decide +kernel
theorem dX7_copyFrom_100 : decode cX7_copyFrom 100 = .ok (.getfield 37, 3) := by decide +kernel
theorem dX7_copyFrom_103 : decode cX7_copyFrom 103 = .ok (.iconst 0, 1) := by decide +kernel
theorem dX7_copyFrom_104 : decode cX7_copyFrom 104 = .ok (.aload_n 0, 1) := by decide +kernel
theorem dX7_copyFrom_105 : decode cX7_copyFrom 105 = .ok (.getfield 37, 3) := by decide +kernel
theorem dX7_copyFrom_108 : decode cX7_copyFrom 108 = .ok (.iconst 0, 1) := by decide +kernel
theorem dX7_copyFrom_109 : decode cX7_copyFrom 109 = .ok (.bipush 6, 2) := by decide +kernel
theorem dX7_copyFrom_111 : decode cX7_copyFrom 111 = .ok (.invokestatic 94, 3) := by decide +kernel
theorem dX7_copyFrom_114 : decode cX7_copyFrom 114 = .ok (.aload_n 1, 1) := by decide +kernel
theorem dX7_copyFrom_115 : decode cX7_copyFrom 115 = .ok (.getfield 40, 3) := by decide +kernel
theorem dX7_copyFrom_118 : decode cX7_copyFrom 118 = .ok (.iconst 0, 1) := by decide +kernel
theorem dX7_copyFrom_119 : decode cX7_copyFrom 119 = .ok (.aload_n 0, 1) := by decide +kernel
theorem dX7_copyFrom_120 : decode cX7_copyFrom 120 = .ok (.getfield 40, 3) := by decide +kernel
theorem dX7_copyFrom_123 : decode cX7_copyFrom 123 = .ok (.iconst 0, 1) := by decide +kernel
theorem dX7_copyFrom_124 : decode cX7_copyFrom 124 = .ok (.bipush 6, 2) := by decide +kernel
theorem dX7_copyFrom_126 : decode cX7_copyFrom 126 = .ok (.invokestatic 94, 3) := by decide +kernel
theorem dX7_copyFrom_129 : decode cX7_copyFrom 129 = .ok (.aload_n 0, 1) := by decide +kernel
theorem dX7_copyFrom_130 : decode cX7_copyFrom 130 = .ok (.aload_n 1, 1) := by decide +kernel
theorem dX7_copyFrom_131 : decode cX7_copyFrom 131 = .ok (.getfield 69, 3) := by decide +kernel
theorem dX7_copyFrom_134 : decode cX7_copyFrom 134 = .ok (.putfield 69, 3) := by decide +kernel
theorem dX7_copyFrom_137 : decode cX7_copyFrom 137 = .ok (.aload_n 0, 1) := by decide +kernel
theorem dX7_copyFrom_138 : decode cX7_copyFrom 138 = .ok (.aload_n 1, 1) := by decide +kernel
theorem dX7_copyFrom_139 : decode cX7_copyFrom 139 = .ok (.getfield 72, 3) := by decide +kernel
theorem dX7_copyFrom_142 : decode cX7_copyFrom 142 = .ok (.putfield 72, 3) := by decide +kernel
theorem dX7_copyFrom_145 : decode cX7_copyFrom 145 = .ok (.aload_n 0, 1) := by decide +kernel
theorem dX7_copyFrom_146 : decode cX7_copyFrom 146 = .ok (.aload_n 1, 1) := by decide +kernel
theorem dX7_copyFrom_147 : decode cX7_copyFrom 147 = .ok (.getfield 75, 3) := by decide +kernel
theorem dX7_copyFrom_150 : decode cX7_copyFrom 150 = .ok (.putfield 75, 3) := by decide +kernel
theorem dX7_copyFrom_153 : decode cX7_copyFrom 153 = .ok (.aload_n 0, 1) := by decide +kernel
theorem dX7_copyFrom_154 : decode cX7_copyFrom 154 = .ok (.aload_n 1, 1) := by decide +kernel
theorem dX7_copyFrom_155 : decode cX7_copyFrom 155 = .ok (.getfield 43, 3) := by decide +kernel
theorem dX7_copyFrom_158 : decode cX7_copyFrom 158 = .ok (.putfield 43, 3) := by decide +kernel
theorem dX7_copyFrom_161 : decode cX7_copyFrom 161 = .ok (.return_, 1) := by decide +kernel
theorem dJ6_bitCount_0f7a4_0 : decode cJ6_bitCount_0f7a4 0 = .ok (.iload_n 0, 1) := by decide +kernel
theorem dJ6_bitCount_0f7a4_1 : decode cJ6_bitCount_0f7a4 1 = .ok (.iload_n 0, 1) := by decide +kernel
theorem dJ6_bitCount_0f7a4_2 : decode cJ6_bitCount_0f7a4 2 = .ok (.iconst 1, 1) := by decide +kernel
theorem dJ6_bitCount_0f7a4_3 : decode cJ6_bitCount_0f7a4 3 = .ok (.iushr, 1) := by decide +kernel
theorem dJ6_bitCount_0f7a4_4 : decode cJ6_bitCount_0f7a4 4 = .ok (.ldc_w 265, 3) := by decide +kernel
theorem dJ6_bitCount_0f7a4_7 : decode cJ6_bitCount_0f7a4 7 = .ok (.iand, 1) := by decide +kernel
theorem dJ6_bitCount_0f7a4_8 : decode cJ6_bitCount_0f7a4 8 = .ok (.isub, 1) := by decide +kernel
theorem dJ6_bitCount_0f7a4_9 : decode cJ6_bitCount_0f7a4 9 = .ok (.istore_n 0, 1) := by decide +kernel
theorem dJ6_bitCount_0f7a4_10 : decode cJ6_bitCount_0f7a4 10 = .ok (.iload_n 0, 1) := by decide +kernel
theorem dJ6_bitCount_0f7a4_11 : decode cJ6_bitCount_0f7a4 11 = .ok (.ldc_w 266, 3) := by decide +kernel
theorem dJ6_bitCount_0f7a4_14 : decode cJ6_bitCount_0f7a4 14 = .ok (.iand, 1) := by decide +kernel
theorem dJ6_bitCount_0f7a4_15 : decode cJ6_bitCount_0f7a4 15 = .ok (.iload_n 0, 1) := by decide +kernel
theorem dJ6_bitCount_0f7a4_16 : decode cJ6_bitCount_0f7a4 16 = .ok (.iconst 2, 1) := by decide +kernel
theorem dJ6_bitCount_0f7a4_17 : decode cJ6_bitCount_0f7a4 17 = .ok (.iushr, 1) := by decide +kernel
theorem dJ6_bitCount_0f7a4_18 : decode cJ6_bitCount_0f7a4 18 = .ok (.ldc_w 266, 3) := by decide +kernel
theorem dJ6_bitCount_0f7a4_21 : decode cJ6_bitCount_0f7a4 21 = .ok (.iand, 1) := by decide +kernel
theorem dJ6_bitCount_0f7a4_22 : decode cJ6_bitCount_0f7a4 22 = .ok (.iadd, 1) := by decide +kernel
theorem dJ6_bitCount_0f7a4_23 : decode cJ6_bitCount_0f7a4 23 = .ok (.istore_n 0, 1) := by decide +kernel
theorem dJ6_bitCount_0f7a4_24 : decode cJ6_bitCount_0f7a4 24 = .ok (.iload_n 0, 1) := by decide +kernel
theorem dJ6_bitCount_0f7a4_25 : decode cJ6_bitCount_0f7a4 25 = .ok (.iload_n 0, 1) := by decide +kernel
theorem dJ6_bitCount_0f7a4_26 : decode cJ6_bitCount_0f7a4 26 = .ok (.iconst 4, 1) := by decide +kernel
theorem dJ6_bitCount_0f7a4_27 : decode cJ6_bitCount_0f7a4 27 = .ok (.iushr, 1) := by decide +kernel
theorem dJ6_bitCount_0f7a4_28 : decode cJ6_bitCount_0f7a4 28 = .ok (.iadd, 1) := by decide +kernel
theorem dJ6_bitCount_0f7a4_29 : decode cJ6_bitCount_0f7a4 29 = .ok (.ldc_w 267, 3) := by decide +kernel
theorem dJ6_bitCount_0f7a4_32 : decode cJ6_bitCount_0f7a4 32 = .ok (.iand, 1) := by decide +kernel
theorem dJ6_bitCount_0f7a4_33 : decode cJ6_bitCount_0f7a4 33 = .ok (.istore_n 0, 1) := by decide +kernel
theorem dJ6_bitCount_0f7a4_34 : decode cJ6_bitCount_0f7a4 34 = .ok (.iload_n 0, 1) := by decide +kernel
theorem dJ6_bitCount_0f7a4_35 : decode cJ6_bitCount_0f7a4 35 = .ok (.iload_n 0, 1) := by decide +kernel
theorem dJ6_bitCount_0f7a4_36 : decode cJ6_bitCount_0f7a4 36 = .ok (.bipush 8, 2) := by decide +kernel
theorem dJ6_bitCount_0f7a4_38 : decode cJ6_bitCount_0f7a4 38 = .ok (.iushr, 1) := by decide +kernel
theorem dJ6_bitCount_0f7a4_39 : decode cJ6_bitCount_0f7a4 39 = .ok (.iadd, 1) := by decide +kernel
theorem dJ6_bitCount_0f7a4_40 : decode cJ6_bitCount_0f7a4 40 = .ok (.istore_n 0, 1) := by decide +kernel
theorem dJ6_bitCount_0f7a4_41 : decode cJ6_bitCount_0f7a4 41 = .ok (.iload_n 0, 1) := by decide +kernel
theorem dJ6_bitCount_0f7a4_42 : decode cJ6_bitCount_0f7a4 42 = .ok (.iload_n 0, 1) := by decide +kernel
theorem dJ6_bitCount_0f7a4_43 : decode cJ6_bitCount_0f7a4 43 = .ok (.bipush 16, 2) := by decide +kernel
theorem dJ6_bitCount_0f7a4_45 : decode cJ6_bitCount_0f7a4 45 = .ok (.iushr, 1) := by decide +kernel
theorem dJ6_bitCount_0f7a4_46 : decode cJ6_bitCount_0f7a4 46 = .ok (.iadd, 1) := by decide +kernel
theorem dJ6_bitCount_0f7a4_47 : decode cJ6_bitCount_0f7a4 47 = .ok (.istore_n 0, 1) := by decide +kernel
theorem dJ6_bitCount_0f7a4_48 : decode cJ6_bitCount_0f7a4 48 = .ok (.iload_n 0, 1) := by decide +kernel
theorem dJ6_bitCount_0f7a4_49 : decode cJ6_bitCount_0f7a4 49 = .ok (.bipush 63, 2) := by decide +kernel
theorem dJ6_bitCount_0f7a4_51 : decode cJ6_bitCount_0f7a4 51 = .ok (.iand, 1) := by decide +kernel
theorem dJ6_bitCount_0f7a4_52 : decode cJ6_bitCount_0f7a4 52 = .ok (.ireturn, 1) := by decide +kernel
theorem dJ7_fill_d0a16_0 : decode cJ7_fill_d0a16 0 = .ok (.iconst 0, 1) := by decide +kernel
theorem dJ7_fill_d0a16_1 : decode cJ7_fill_d0a16 1 = .ok (.istore_n 3, 1) := by decide +kernel
theorem dJ7_fill_d0a16_2 : decode cJ7_fill_d0a16 2 = .ok (.aload_n 0, 1) := by decide +kernel
theorem dJ7_fill_d0a16_3 : decode cJ7_fill_d0a16 3 = .ok (.arraylength, 1) := by decide +kernel
theorem dJ7_fill_d0a16_4 : decode cJ7_fill_d0a16 4 = .ok (.istore 4, 2) := by decide +kernel
theorem dJ7_fill_d0a16_6 : decode cJ7_fill_d0a16 6 = .ok (.iload_n 3, 1) := by decide +kernel
theorem dJ7_fill_d0a16_7 : decode cJ7_fill_d0a16 7 = .ok (.iload 4, 2) := by decide +kernel
theorem dJ7_fill_d0a16_9 : decode cJ7_fill_d0a16 9 = .ok (.if_icmp .ge 13, 3) := by decide +kernel
theorem dJ7_fill_d0a16_12 : decode cJ7_fill_d0a16 12 = .ok (.aload_n 0, 1) := by decide +kernel
theorem dJ7_fill_d0a16_13 : decode cJ7_fill_d0a16 13 = .ok (.iload_n 3, 1) := by decide +kernel
theorem dJ7_fill_d0a16_14 : decode cJ7_fill_d0a16 14 = .ok (.lload_n 1, 1) := by decide +kernel
theorem dJ7_fill_d0a16_15 : decode cJ7_fill_d0a16 15 = .ok (.lastore, 1) := by decide +kernel
theorem dJ7_fill_d0a16_16 : decode cJ7_fill_d0a16 16 = .ok (.iinc 3 1, 3) := by decide +kernel
theorem dJ7_fill_d0a16_19 : decode cJ7_fill_d0a16 19 = .ok (.goto (-13), 3) := by decide +kernel
theorem dJ7_fill_d0a16_22 : decode cJ7_fill_d0a16 22 = .ok (.return_, 1) := by decide +kernel
theorem dJ7_fill_53178_0 : decode cJ7_fill_53178 0 = .ok (.iconst 0, 1) := by decide +kernel
theorem dJ7_fill_53178_1 : decode cJ7_fill_53178 1 = .ok (.istore_n 2, 1) := by decide +kernel
theorem dJ7_fill_53178_2 : decode cJ7_fill_53178 2 = .ok (.aload_n 0, 1) := by decide +kernel
theorem dJ7_fill_53178_3 : decode cJ7_fill_53178 3 = .ok (.arraylength, 1) := by decide +kernel
theorem dJ7_fill_53178_4 : decode cJ7_fill_53178 4 = .ok (.istore_n 3, 1) := by decide +kernel
theorem dJ7_fill_53178_5 : decode cJ7_fill_53178 5 = .ok (.iload_n 2, 1) := by decide +kernel
theorem dJ7_fill_53178_6 : decode cJ7_fill_53178 6 = .ok (.iload_n 3, 1) := by decide +kernel
theorem dJ7_fill_53178_7 : decode cJ7_fill_53178 7 = .ok (.if_icmp .ge 13, 3) := by decide +kernel
theorem dJ7_fill_53178_10 : decode cJ7_fill_53178 10 = .ok (.aload_n 0, 1) := by decide +kernel
theorem dJ7_fill_53178_11 : decode cJ7_fill_53178 11 = .ok (.iload_n 2, 1) := by decide +kernel
theorem dJ7_fill_53178_12 : decode cJ7_fill_53178 12 = .ok (.iload_n 1, 1) := by decide +kernel
theorem dJ7_fill_53178_13 : decode cJ7_fill_53178 13 = .ok (.iastore, 1) := by decide +kernel
theorem dJ7_fill_53178_14 : decode cJ7_fill_53178 14 = .ok (.iinc 2 1, 3) := by decide +kernel
theorem dJ7_fill_53178_17 : decode cJ7_fill_53178 17 = .ok (.goto (-12), 3) := by decide +kernel
theorem dJ7_fill_53178_20 : decode cJ7_fill_53178 20 = .ok (.return_, 1) := by decide +kernel
