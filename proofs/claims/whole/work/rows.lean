section
-- ===== PART A: goes FIRST, ahead of the names: the tables' words, and 'selects' of the private methods out of them =====
/-- a private method of a class that the tables say can be made, by its rows of tables_1 -/
def lw_okq (q : MethodName × Nat) : Prop := (q.1.cls ≠ "java/lang/invoke/MethodHandle" ∧ q.1.cls ≠ "java/lang/invoke/VarHandle") ∧ Cond.instantiable q.1.cls q.2 ∈ tables_1 ∧ Cond.privateMethod q.1 ∈ tables_1 ∧ Cond.instanceMethod q.1 ∈ tables_1
theorem lw_p0 : lw_okq (⟨"ParishPull", "toldOfRoad", "(II)I"⟩, 10) := ⟨⟨by decide +kernel, by decide +kernel⟩, List.mem_of_getElem? (i := 23) (by decide +kernel), List.mem_of_getElem? (i := 507) (by decide +kernel), List.mem_of_getElem? (i := 508) (by decide +kernel)⟩
theorem lw_p1 : lw_okq (⟨"ParishPull", "toldOfCart", "(II)I"⟩, 10) := ⟨⟨by decide +kernel, by decide +kernel⟩, List.mem_of_getElem? (i := 23) (by decide +kernel), List.mem_of_getElem? (i := 511) (by decide +kernel), List.mem_of_getElem? (i := 512) (by decide +kernel)⟩
theorem lw_p2 : lw_okq (⟨"ParishPull", "toldOfGood", "(II)I"⟩, 10) := ⟨⟨by decide +kernel, by decide +kernel⟩, List.mem_of_getElem? (i := 23) (by decide +kernel), List.mem_of_getElem? (i := 519) (by decide +kernel), List.mem_of_getElem? (i := 520) (by decide +kernel)⟩
theorem lw_p3 : lw_okq (⟨"ParishPull", "toldOfPerson", "(II)I"⟩, 10) := ⟨⟨by decide +kernel, by decide +kernel⟩, List.mem_of_getElem? (i := 23) (by decide +kernel), List.mem_of_getElem? (i := 523) (by decide +kernel), List.mem_of_getElem? (i := 524) (by decide +kernel)⟩
theorem lw_p4 : lw_okq (⟨"ParishPull$Tape", "readParishes", "()Z"⟩, 4) := ⟨⟨by decide +kernel, by decide +kernel⟩, List.mem_of_getElem? (i := 154) (by decide +kernel), List.mem_of_getElem? (i := 556) (by decide +kernel), List.mem_of_getElem? (i := 557) (by decide +kernel)⟩
theorem lw_p5 : lw_okq (⟨"ParishPull$Tape", "readParish", "()Z"⟩, 4) := ⟨⟨by decide +kernel, by decide +kernel⟩, List.mem_of_getElem? (i := 154) (by decide +kernel), List.mem_of_getElem? (i := 560) (by decide +kernel), List.mem_of_getElem? (i := 561) (by decide +kernel)⟩
theorem lw_p6 : lw_okq (⟨"ParishPull$Tape", "skipBlanks", "()V"⟩, 4) := ⟨⟨by decide +kernel, by decide +kernel⟩, List.mem_of_getElem? (i := 154) (by decide +kernel), List.mem_of_getElem? (i := 564) (by decide +kernel), List.mem_of_getElem? (i := 565) (by decide +kernel)⟩
theorem lw_p7 : lw_okq (⟨"ParishPull$Tape", "digit", "(II)I"⟩, 4) := ⟨⟨by decide +kernel, by decide +kernel⟩, List.mem_of_getElem? (i := 154) (by decide +kernel), List.mem_of_getElem? (i := 652) (by decide +kernel), List.mem_of_getElem? (i := 653) (by decide +kernel)⟩
theorem lw_p8 : lw_okq (⟨"ParishPull$Tape", "takes", "(C)Z"⟩, 4) := ⟨⟨by decide +kernel, by decide +kernel⟩, List.mem_of_getElem? (i := 154) (by decide +kernel), List.mem_of_getElem? (i := 656) (by decide +kernel), List.mem_of_getElem? (i := 657) (by decide +kernel)⟩
theorem lw_p9 : lw_okq (⟨"ParishPull$Tape", "readRoads", "()Z"⟩, 4) := ⟨⟨by decide +kernel, by decide +kernel⟩, List.mem_of_getElem? (i := 154) (by decide +kernel), List.mem_of_getElem? (i := 660) (by decide +kernel), List.mem_of_getElem? (i := 661) (by decide +kernel)⟩
theorem lw_p10 : lw_okq (⟨"ParishPull$Tape", "readRoad", "()Z"⟩, 4) := ⟨⟨by decide +kernel, by decide +kernel⟩, List.mem_of_getElem? (i := 154) (by decide +kernel), List.mem_of_getElem? (i := 664) (by decide +kernel), List.mem_of_getElem? (i := 665) (by decide +kernel)⟩
theorem lw_p11 : lw_okq (⟨"ParishPull$State", "lighterParish", "(I)I"⟩, 13) := ⟨⟨by decide +kernel, by decide +kernel⟩, List.mem_of_getElem? (i := 31) (by decide +kernel), List.mem_of_getElem? (i := 703) (by decide +kernel), List.mem_of_getElem? (i := 704) (by decide +kernel)⟩
theorem lw_p12 : lw_okq (⟨"ParishPull$Routes", "start", "(I)V"⟩, 14) := ⟨⟨by decide +kernel, by decide +kernel⟩, List.mem_of_getElem? (i := 203) (by decide +kernel), List.mem_of_getElem? (i := 737) (by decide +kernel), List.mem_of_getElem? (i := 738) (by decide +kernel)⟩
theorem lw_p13 : lw_okq (⟨"ParishPull$Routes", "nearest", "()I"⟩, 14) := ⟨⟨by decide +kernel, by decide +kernel⟩, List.mem_of_getElem? (i := 203) (by decide +kernel), List.mem_of_getElem? (i := 742) (by decide +kernel), List.mem_of_getElem? (i := 743) (by decide +kernel)⟩
theorem lw_p14 : lw_okq (⟨"ParishPull$Routes", "leave", "(I)V"⟩, 14) := ⟨⟨by decide +kernel, by decide +kernel⟩, List.mem_of_getElem? (i := 203) (by decide +kernel), List.mem_of_getElem? (i := 746) (by decide +kernel), List.mem_of_getElem? (i := 747) (by decide +kernel)⟩
theorem lw_p15 : lw_okq (⟨"ParishPull$Routes", "roadCost", "(II)I"⟩, 14) := ⟨⟨by decide +kernel, by decide +kernel⟩, List.mem_of_getElem? (i := 203) (by decide +kernel), List.mem_of_getElem? (i := 750) (by decide +kernel), List.mem_of_getElem? (i := 751) (by decide +kernel)⟩
def lw_privs_1 : List (MethodName × Nat) := [(⟨"ParishPull", "toldOfRoad", "(II)I"⟩, 10), (⟨"ParishPull", "toldOfCart", "(II)I"⟩, 10), (⟨"ParishPull", "toldOfGood", "(II)I"⟩, 10), (⟨"ParishPull", "toldOfPerson", "(II)I"⟩, 10), (⟨"ParishPull$Tape", "readParishes", "()Z"⟩, 4), (⟨"ParishPull$Tape", "readParish", "()Z"⟩, 4), (⟨"ParishPull$Tape", "skipBlanks", "()V"⟩, 4), (⟨"ParishPull$Tape", "digit", "(II)I"⟩, 4), (⟨"ParishPull$Tape", "takes", "(C)Z"⟩, 4), (⟨"ParishPull$Tape", "readRoads", "()Z"⟩, 4), (⟨"ParishPull$Tape", "readRoad", "()Z"⟩, 4), (⟨"ParishPull$State", "lighterParish", "(I)I"⟩, 13), (⟨"ParishPull$Routes", "start", "(I)V"⟩, 14), (⟨"ParishPull$Routes", "nearest", "()I"⟩, 14), (⟨"ParishPull$Routes", "leave", "(I)V"⟩, 14), (⟨"ParishPull$Routes", "roadCost", "(II)I"⟩, 14)]
theorem lw_r1 : ∀ q ∈ lw_privs_1, lw_okq q := List.forall_mem_cons.mpr ⟨lw_p0, List.forall_mem_cons.mpr ⟨lw_p1, List.forall_mem_cons.mpr ⟨lw_p2, List.forall_mem_cons.mpr ⟨lw_p3, List.forall_mem_cons.mpr ⟨lw_p4, List.forall_mem_cons.mpr ⟨lw_p5, List.forall_mem_cons.mpr ⟨lw_p6, List.forall_mem_cons.mpr ⟨lw_p7, List.forall_mem_cons.mpr ⟨lw_p8, List.forall_mem_cons.mpr ⟨lw_p9, List.forall_mem_cons.mpr ⟨lw_p10, List.forall_mem_cons.mpr ⟨lw_p11, List.forall_mem_cons.mpr ⟨lw_p12, List.forall_mem_cons.mpr ⟨lw_p13, List.forall_mem_cons.mpr ⟨lw_p14, List.forall_mem_cons.mpr ⟨lw_p15, fun _ h => absurd h List.not_mem_nil⟩⟩⟩⟩⟩⟩⟩⟩⟩⟩⟩⟩⟩⟩⟩⟩
theorem lw_p16 : lw_okq (⟨"ParishPull$Routes", "findNext", "(I)V"⟩, 14) := ⟨⟨by decide +kernel, by decide +kernel⟩, List.mem_of_getElem? (i := 203) (by decide +kernel), List.mem_of_getElem? (i := 755) (by decide +kernel), List.mem_of_getElem? (i := 756) (by decide +kernel)⟩
theorem lw_p17 : lw_okq (⟨"ParishPull$Routes", "firstStep", "(III)I"⟩, 14) := ⟨⟨by decide +kernel, by decide +kernel⟩, List.mem_of_getElem? (i := 203) (by decide +kernel), List.mem_of_getElem? (i := 759) (by decide +kernel), List.mem_of_getElem? (i := 760) (by decide +kernel)⟩
theorem lw_p18 : lw_okq (⟨"ParishPull$Routes", "reaches", "(III)Z"⟩, 14) := ⟨⟨by decide +kernel, by decide +kernel⟩, List.mem_of_getElem? (i := 203) (by decide +kernel), List.mem_of_getElem? (i := 763) (by decide +kernel), List.mem_of_getElem? (i := 764) (by decide +kernel)⟩
theorem lw_p19 : lw_okq (⟨"ParishPull$Routes", "heaviestOpen", "()I"⟩, 14) := ⟨⟨by decide +kernel, by decide +kernel⟩, List.mem_of_getElem? (i := 203) (by decide +kernel), List.mem_of_getElem? (i := 788) (by decide +kernel), List.mem_of_getElem? (i := 789) (by decide +kernel)⟩
theorem lw_p20 : lw_okq (⟨"ParishPull$Trades", "findValues", "(II)V"⟩, 7) := ⟨⟨by decide +kernel, by decide +kernel⟩, List.mem_of_getElem? (i := 263) (by decide +kernel), List.mem_of_getElem? (i := 800) (by decide +kernel), List.mem_of_getElem? (i := 801) (by decide +kernel)⟩
theorem lw_p21 : lw_okq (⟨"ParishPull$Trades", "findGains", "(I)V"⟩, 7) := ⟨⟨by decide +kernel, by decide +kernel⟩, List.mem_of_getElem? (i := 263) (by decide +kernel), List.mem_of_getElem? (i := 819) (by decide +kernel), List.mem_of_getElem? (i := 820) (by decide +kernel)⟩
theorem lw_p22 : lw_okq (⟨"ParishPull$Trades", "endsGains", "(I)Z"⟩, 7) := ⟨⟨by decide +kernel, by decide +kernel⟩, List.mem_of_getElem? (i := 263) (by decide +kernel), List.mem_of_getElem? (i := 829) (by decide +kernel), List.mem_of_getElem? (i := 830) (by decide +kernel)⟩
theorem lw_p23 : lw_okq (⟨"ParishPull$Councils", "addTakes", "(III)V"⟩, 6) := ⟨⟨by decide +kernel, by decide +kernel⟩, List.mem_of_getElem? (i := 292) (by decide +kernel), List.mem_of_getElem? (i := 852) (by decide +kernel), List.mem_of_getElem? (i := 853) (by decide +kernel)⟩
theorem lw_p24 : lw_okq (⟨"ParishPull$Leagues", "addTotal", "(II)V"⟩, 5) := ⟨⟨by decide +kernel, by decide +kernel⟩, List.mem_of_getElem? (i := 319) (by decide +kernel), List.mem_of_getElem? (i := 877) (by decide +kernel), List.mem_of_getElem? (i := 878) (by decide +kernel)⟩
theorem lw_p25 : lw_okq (⟨"ParishPull", "isMember", "(II)Z"⟩, 10) := ⟨⟨by decide +kernel, by decide +kernel⟩, List.mem_of_getElem? (i := 23) (by decide +kernel), List.mem_of_getElem? (i := 886) (by decide +kernel), List.mem_of_getElem? (i := 887) (by decide +kernel)⟩
theorem lw_p26 : lw_okq (⟨"ParishPull$Leagues", "findTotals", "(II)V"⟩, 5) := ⟨⟨by decide +kernel, by decide +kernel⟩, List.mem_of_getElem? (i := 319) (by decide +kernel), List.mem_of_getElem? (i := 895) (by decide +kernel), List.mem_of_getElem? (i := 896) (by decide +kernel)⟩
theorem lw_p27 : lw_okq (⟨"ParishPull$Book", "pullsFor", "(J)I"⟩, 4) := ⟨⟨by decide +kernel, by decide +kernel⟩, List.mem_of_getElem? (i := 343) (by decide +kernel), List.mem_of_getElem? (i := 995) (by decide +kernel), List.mem_of_getElem? (i := 996) (by decide +kernel)⟩
theorem lw_p28 : lw_okq (⟨"ParishPullModel", "joins", "(I)I"⟩, 18) := ⟨⟨by decide +kernel, by decide +kernel⟩, List.mem_of_getElem? (i := 1053) (by decide +kernel), List.mem_of_getElem? (i := 1122) (by decide +kernel), List.mem_of_getElem? (i := 1123) (by decide +kernel)⟩
theorem lw_p29 : lw_okq (⟨"ParishPullModel", "isParish", "(I)Z"⟩, 18) := ⟨⟨by decide +kernel, by decide +kernel⟩, List.mem_of_getElem? (i := 1053) (by decide +kernel), List.mem_of_getElem? (i := 1130) (by decide +kernel), List.mem_of_getElem? (i := 1131) (by decide +kernel)⟩
theorem lw_p30 : lw_okq (⟨"ParishPullModel", "roadOf", "(II)I"⟩, 18) := ⟨⟨by decide +kernel, by decide +kernel⟩, List.mem_of_getElem? (i := 1053) (by decide +kernel), List.mem_of_getElem? (i := 1139) (by decide +kernel), List.mem_of_getElem? (i := 1140) (by decide +kernel)⟩
theorem lw_p31 : lw_okq (⟨"ParishPullModel", "isRoad", "(I)Z"⟩, 18) := ⟨⟨by decide +kernel, by decide +kernel⟩, List.mem_of_getElem? (i := 1053) (by decide +kernel), List.mem_of_getElem? (i := 1147) (by decide +kernel), List.mem_of_getElem? (i := 1148) (by decide +kernel)⟩
def lw_privs_2 : List (MethodName × Nat) := [(⟨"ParishPull$Routes", "findNext", "(I)V"⟩, 14), (⟨"ParishPull$Routes", "firstStep", "(III)I"⟩, 14), (⟨"ParishPull$Routes", "reaches", "(III)Z"⟩, 14), (⟨"ParishPull$Routes", "heaviestOpen", "()I"⟩, 14), (⟨"ParishPull$Trades", "findValues", "(II)V"⟩, 7), (⟨"ParishPull$Trades", "findGains", "(I)V"⟩, 7), (⟨"ParishPull$Trades", "endsGains", "(I)Z"⟩, 7), (⟨"ParishPull$Councils", "addTakes", "(III)V"⟩, 6), (⟨"ParishPull$Leagues", "addTotal", "(II)V"⟩, 5), (⟨"ParishPull", "isMember", "(II)Z"⟩, 10), (⟨"ParishPull$Leagues", "findTotals", "(II)V"⟩, 5), (⟨"ParishPull$Book", "pullsFor", "(J)I"⟩, 4), (⟨"ParishPullModel", "joins", "(I)I"⟩, 18), (⟨"ParishPullModel", "isParish", "(I)Z"⟩, 18), (⟨"ParishPullModel", "roadOf", "(II)I"⟩, 18), (⟨"ParishPullModel", "isRoad", "(I)Z"⟩, 18)]
theorem lw_r2 : ∀ q ∈ lw_privs_2, lw_okq q := List.forall_mem_cons.mpr ⟨lw_p16, List.forall_mem_cons.mpr ⟨lw_p17, List.forall_mem_cons.mpr ⟨lw_p18, List.forall_mem_cons.mpr ⟨lw_p19, List.forall_mem_cons.mpr ⟨lw_p20, List.forall_mem_cons.mpr ⟨lw_p21, List.forall_mem_cons.mpr ⟨lw_p22, List.forall_mem_cons.mpr ⟨lw_p23, List.forall_mem_cons.mpr ⟨lw_p24, List.forall_mem_cons.mpr ⟨lw_p25, List.forall_mem_cons.mpr ⟨lw_p26, List.forall_mem_cons.mpr ⟨lw_p27, List.forall_mem_cons.mpr ⟨lw_p28, List.forall_mem_cons.mpr ⟨lw_p29, List.forall_mem_cons.mpr ⟨lw_p30, List.forall_mem_cons.mpr ⟨lw_p31, fun _ h => absurd h List.not_mem_nil⟩⟩⟩⟩⟩⟩⟩⟩⟩⟩⟩⟩⟩⟩⟩⟩
theorem lw_p32 : lw_okq (⟨"ParishPullModel", "isGood", "(I)Z"⟩, 18) := ⟨⟨by decide +kernel, by decide +kernel⟩, List.mem_of_getElem? (i := 1053) (by decide +kernel), List.mem_of_getElem? (i := 1165) (by decide +kernel), List.mem_of_getElem? (i := 1166) (by decide +kernel)⟩
theorem lw_p33 : lw_okq (⟨"ParishPullModel", "weight", "(II)I"⟩, 18) := ⟨⟨by decide +kernel, by decide +kernel⟩, List.mem_of_getElem? (i := 1053) (by decide +kernel), List.mem_of_getElem? (i := 1169) (by decide +kernel), List.mem_of_getElem? (i := 1170) (by decide +kernel)⟩
theorem lw_p34 : lw_okq (⟨"ParishPullModel", "season", "()I"⟩, 18) := ⟨⟨by decide +kernel, by decide +kernel⟩, List.mem_of_getElem? (i := 1053) (by decide +kernel), List.mem_of_getElem? (i := 1173) (by decide +kernel), List.mem_of_getElem? (i := 1174) (by decide +kernel)⟩
theorem lw_p35 : lw_okq (⟨"ParishPullModel", "isCart", "(I)Z"⟩, 18) := ⟨⟨by decide +kernel, by decide +kernel⟩, List.mem_of_getElem? (i := 1053) (by decide +kernel), List.mem_of_getElem? (i := 1195) (by decide +kernel), List.mem_of_getElem? (i := 1196) (by decide +kernel)⟩
theorem lw_p36 : lw_okq (⟨"ParishPullModel", "isPerson", "(I)Z"⟩, 18) := ⟨⟨by decide +kernel, by decide +kernel⟩, List.mem_of_getElem? (i := 1053) (by decide +kernel), List.mem_of_getElem? (i := 1202) (by decide +kernel), List.mem_of_getElem? (i := 1203) (by decide +kernel)⟩
theorem lw_p37 : lw_okq (⟨"ParishPullModel", "reads", "()Z"⟩, 18) := ⟨⟨by decide +kernel, by decide +kernel⟩, List.mem_of_getElem? (i := 1053) (by decide +kernel), List.mem_of_getElem? (i := 1220) (by decide +kernel), List.mem_of_getElem? (i := 1221) (by decide +kernel)⟩
theorem lw_p38 : lw_okq (⟨"ParishPullModel", "readsParish", "()Z"⟩, 18) := ⟨⟨by decide +kernel, by decide +kernel⟩, List.mem_of_getElem? (i := 1053) (by decide +kernel), List.mem_of_getElem? (i := 1224) (by decide +kernel), List.mem_of_getElem? (i := 1225) (by decide +kernel)⟩
theorem lw_p39 : lw_okq (⟨"ParishPullModel", "next", "()I"⟩, 18) := ⟨⟨by decide +kernel, by decide +kernel⟩, List.mem_of_getElem? (i := 1053) (by decide +kernel), List.mem_of_getElem? (i := 1228) (by decide +kernel), List.mem_of_getElem? (i := 1229) (by decide +kernel)⟩
theorem lw_p40 : lw_okq (⟨"ParishPullModel", "isDigit", "(II)Z"⟩, 18) := ⟨⟨by decide +kernel, by decide +kernel⟩, List.mem_of_getElem? (i := 1053) (by decide +kernel), List.mem_of_getElem? (i := 1235) (by decide +kernel), List.mem_of_getElem? (i := 1236) (by decide +kernel)⟩
theorem lw_p41 : lw_okq (⟨"ParishPullModel", "digit", "()I"⟩, 18) := ⟨⟨by decide +kernel, by decide +kernel⟩, List.mem_of_getElem? (i := 1053) (by decide +kernel), List.mem_of_getElem? (i := 1239) (by decide +kernel), List.mem_of_getElem? (i := 1240) (by decide +kernel)⟩
theorem lw_p42 : lw_okq (⟨"ParishPullModel", "readsRoad", "()Z"⟩, 18) := ⟨⟨by decide +kernel, by decide +kernel⟩, List.mem_of_getElem? (i := 1053) (by decide +kernel), List.mem_of_getElem? (i := 1243) (by decide +kernel), List.mem_of_getElem? (i := 1244) (by decide +kernel)⟩
theorem lw_p43 : lw_okq (⟨"ParishPullModel", "goes", "(I)I"⟩, 18) := ⟨⟨by decide +kernel, by decide +kernel⟩, List.mem_of_getElem? (i := 1053) (by decide +kernel), List.mem_of_getElem? (i := 1257) (by decide +kernel), List.mem_of_getElem? (i := 1258) (by decide +kernel)⟩
theorem lw_p44 : lw_okq (⟨"ParishPullModel", "layWays", "(III)V"⟩, 18) := ⟨⟨by decide +kernel, by decide +kernel⟩, List.mem_of_getElem? (i := 1053) (by decide +kernel), List.mem_of_getElem? (i := 1266) (by decide +kernel), List.mem_of_getElem? (i := 1267) (by decide +kernel)⟩
theorem lw_p45 : lw_okq (⟨"ParishPullModel", "bears", "(III)Z"⟩, 18) := ⟨⟨by decide +kernel, by decide +kernel⟩, List.mem_of_getElem? (i := 1053) (by decide +kernel), List.mem_of_getElem? (i := 1270) (by decide +kernel), List.mem_of_getElem? (i := 1271) (by decide +kernel)⟩
theorem lw_p46 : lw_okq (⟨"ParishPullModel", "costOf", "(IIIII)I"⟩, 18) := ⟨⟨by decide +kernel, by decide +kernel⟩, List.mem_of_getElem? (i := 1053) (by decide +kernel), List.mem_of_getElem? (i := 1275) (by decide +kernel), List.mem_of_getElem? (i := 1276) (by decide +kernel)⟩
theorem lw_p47 : lw_okq (⟨"ParishPullModel", "layPath", "(IIII)I"⟩, 18) := ⟨⟨by decide +kernel, by decide +kernel⟩, List.mem_of_getElem? (i := 1053) (by decide +kernel), List.mem_of_getElem? (i := 1279) (by decide +kernel), List.mem_of_getElem? (i := 1280) (by decide +kernel)⟩
def lw_privs_3 : List (MethodName × Nat) := [(⟨"ParishPullModel", "isGood", "(I)Z"⟩, 18), (⟨"ParishPullModel", "weight", "(II)I"⟩, 18), (⟨"ParishPullModel", "season", "()I"⟩, 18), (⟨"ParishPullModel", "isCart", "(I)Z"⟩, 18), (⟨"ParishPullModel", "isPerson", "(I)Z"⟩, 18), (⟨"ParishPullModel", "reads", "()Z"⟩, 18), (⟨"ParishPullModel", "readsParish", "()Z"⟩, 18), (⟨"ParishPullModel", "next", "()I"⟩, 18), (⟨"ParishPullModel", "isDigit", "(II)Z"⟩, 18), (⟨"ParishPullModel", "digit", "()I"⟩, 18), (⟨"ParishPullModel", "readsRoad", "()Z"⟩, 18), (⟨"ParishPullModel", "goes", "(I)I"⟩, 18), (⟨"ParishPullModel", "layWays", "(III)V"⟩, 18), (⟨"ParishPullModel", "bears", "(III)Z"⟩, 18), (⟨"ParishPullModel", "costOf", "(IIIII)I"⟩, 18), (⟨"ParishPullModel", "layPath", "(IIII)I"⟩, 18)]
theorem lw_r3 : ∀ q ∈ lw_privs_3, lw_okq q := List.forall_mem_cons.mpr ⟨lw_p32, List.forall_mem_cons.mpr ⟨lw_p33, List.forall_mem_cons.mpr ⟨lw_p34, List.forall_mem_cons.mpr ⟨lw_p35, List.forall_mem_cons.mpr ⟨lw_p36, List.forall_mem_cons.mpr ⟨lw_p37, List.forall_mem_cons.mpr ⟨lw_p38, List.forall_mem_cons.mpr ⟨lw_p39, List.forall_mem_cons.mpr ⟨lw_p40, List.forall_mem_cons.mpr ⟨lw_p41, List.forall_mem_cons.mpr ⟨lw_p42, List.forall_mem_cons.mpr ⟨lw_p43, List.forall_mem_cons.mpr ⟨lw_p44, List.forall_mem_cons.mpr ⟨lw_p45, List.forall_mem_cons.mpr ⟨lw_p46, List.forall_mem_cons.mpr ⟨lw_p47, fun _ h => absurd h List.not_mem_nil⟩⟩⟩⟩⟩⟩⟩⟩⟩⟩⟩⟩⟩⟩⟩⟩
theorem lw_p48 : lw_okq (⟨"ParishPullModel", "netOf", "(II)I"⟩, 18) := ⟨⟨by decide +kernel, by decide +kernel⟩, List.mem_of_getElem? (i := 1053) (by decide +kernel), List.mem_of_getElem? (i := 1288) (by decide +kernel), List.mem_of_getElem? (i := 1289) (by decide +kernel)⟩
theorem lw_p49 : lw_okq (⟨"ParishPullModel", "marketOf", "(III)I"⟩, 18) := ⟨⟨by decide +kernel, by decide +kernel⟩, List.mem_of_getElem? (i := 1053) (by decide +kernel), List.mem_of_getElem? (i := 1298) (by decide +kernel), List.mem_of_getElem? (i := 1299) (by decide +kernel)⟩
theorem lw_p50 : lw_okq (⟨"ParishPullModel", "isEnded", "(II)Z"⟩, 18) := ⟨⟨by decide +kernel, by decide +kernel⟩, List.mem_of_getElem? (i := 1053) (by decide +kernel), List.mem_of_getElem? (i := 1316) (by decide +kernel), List.mem_of_getElem? (i := 1317) (by decide +kernel)⟩
theorem lw_p51 : lw_okq (⟨"ParishPullModel", "paid", "(III)I"⟩, 18) := ⟨⟨by decide +kernel, by decide +kernel⟩, List.mem_of_getElem? (i := 1053) (by decide +kernel), List.mem_of_getElem? (i := 1320) (by decide +kernel), List.mem_of_getElem? (i := 1321) (by decide +kernel)⟩
theorem lw_p52 : lw_okq (⟨"ParishPullModel", "takeOf", "(II)I"⟩, 18) := ⟨⟨by decide +kernel, by decide +kernel⟩, List.mem_of_getElem? (i := 1053) (by decide +kernel), List.mem_of_getElem? (i := 1328) (by decide +kernel), List.mem_of_getElem? (i := 1329) (by decide +kernel)⟩
theorem lw_p53 : lw_okq (⟨"ParishPullModel", "isSet", "(I)Z"⟩, 18) := ⟨⟨by decide +kernel, by decide +kernel⟩, List.mem_of_getElem? (i := 1053) (by decide +kernel), List.mem_of_getElem? (i := 1340) (by decide +kernel), List.mem_of_getElem? (i := 1341) (by decide +kernel)⟩
theorem lw_p54 : lw_okq (⟨"ParishPullModel", "worthOf", "(II)I"⟩, 18) := ⟨⟨by decide +kernel, by decide +kernel⟩, List.mem_of_getElem? (i := 1053) (by decide +kernel), List.mem_of_getElem? (i := 1344) (by decide +kernel), List.mem_of_getElem? (i := 1345) (by decide +kernel)⟩
theorem lw_p55 : lw_okq (⟨"ParishPullModel", "layPart", "(III)Z"⟩, 18) := ⟨⟨by decide +kernel, by decide +kernel⟩, List.mem_of_getElem? (i := 1053) (by decide +kernel), List.mem_of_getElem? (i := 1352) (by decide +kernel), List.mem_of_getElem? (i := 1353) (by decide +kernel)⟩
theorem lw_p56 : lw_okq (⟨"ParishPullModel", "finds", "(IIII)I"⟩, 18) := ⟨⟨by decide +kernel, by decide +kernel⟩, List.mem_of_getElem? (i := 1053) (by decide +kernel), List.mem_of_getElem? (i := 1390) (by decide +kernel), List.mem_of_getElem? (i := 1391) (by decide +kernel)⟩
theorem lw_p57 : lw_okq (⟨"ParishPullModel", "evens", "(III)I"⟩, 18) := ⟨⟨by decide +kernel, by decide +kernel⟩, List.mem_of_getElem? (i := 1053) (by decide +kernel), List.mem_of_getElem? (i := 1398) (by decide +kernel), List.mem_of_getElem? (i := 1399) (by decide +kernel)⟩
theorem lw_p58 : lw_okq (⟨"ParishPullModel", "layBook", "(IIIII)I"⟩, 18) := ⟨⟨by decide +kernel, by decide +kernel⟩, List.mem_of_getElem? (i := 1053) (by decide +kernel), List.mem_of_getElem? (i := 1408) (by decide +kernel), List.mem_of_getElem? (i := 1409) (by decide +kernel)⟩
def lw_privs_4 : List (MethodName × Nat) := [(⟨"ParishPullModel", "netOf", "(II)I"⟩, 18), (⟨"ParishPullModel", "marketOf", "(III)I"⟩, 18), (⟨"ParishPullModel", "isEnded", "(II)Z"⟩, 18), (⟨"ParishPullModel", "paid", "(III)I"⟩, 18), (⟨"ParishPullModel", "takeOf", "(II)I"⟩, 18), (⟨"ParishPullModel", "isSet", "(I)Z"⟩, 18), (⟨"ParishPullModel", "worthOf", "(II)I"⟩, 18), (⟨"ParishPullModel", "layPart", "(III)Z"⟩, 18), (⟨"ParishPullModel", "finds", "(IIII)I"⟩, 18), (⟨"ParishPullModel", "evens", "(III)I"⟩, 18), (⟨"ParishPullModel", "layBook", "(IIIII)I"⟩, 18)]
theorem lw_r4 : ∀ q ∈ lw_privs_4, lw_okq q := List.forall_mem_cons.mpr ⟨lw_p48, List.forall_mem_cons.mpr ⟨lw_p49, List.forall_mem_cons.mpr ⟨lw_p50, List.forall_mem_cons.mpr ⟨lw_p51, List.forall_mem_cons.mpr ⟨lw_p52, List.forall_mem_cons.mpr ⟨lw_p53, List.forall_mem_cons.mpr ⟨lw_p54, List.forall_mem_cons.mpr ⟨lw_p55, List.forall_mem_cons.mpr ⟨lw_p56, List.forall_mem_cons.mpr ⟨lw_p57, List.forall_mem_cons.mpr ⟨lw_p58, fun _ h => absurd h List.not_mem_nil⟩⟩⟩⟩⟩⟩⟩⟩⟩⟩⟩
def lw_privs : List (MethodName × Nat) := lw_privs_1 ++ (lw_privs_2 ++ (lw_privs_3 ++ (lw_privs_4)))
def lw_tbl : List Cond := k2_sels lw_privs ++ tables_1
theorem lw_privs_ok : ∀ q ∈ lw_privs, lw_okq q := by
  show ∀ q ∈ lw_privs_1 ++ (lw_privs_2 ++ (lw_privs_3 ++ (lw_privs_4))), lw_okq q
  exact List.forall_mem_append.mpr ⟨lw_r1, List.forall_mem_append.mpr ⟨lw_r2, List.forall_mem_append.mpr ⟨lw_r3, lw_r4⟩⟩⟩
end
section
def RX0 : String := "ParishPull$Beam"
def TX0 : u_T := fun k => match k with
  | _ => ("", "", "", false)
def tyX0 : Nat → FieldType := fun k => match k with
  | _ => .int
abbrev wsX00 : List Cond := u_ws RX0 TX0 0
theorem nmX0 : ∀ a, a < 0 → ∀ b, b < 0 → a ≠ b → (TX0 a).2.1 ≠ (TX0 b).2.1 := by decide +kernel
theorem tyX0_ok : ∀ k, k < 0 → parseFieldDescriptor (TX0 k).2.2.1 = some (tyX0 k) := by decide +kernel
abbrev cX0_areStones : ByteArray := prog_2_method_2_code
def yX0_areStones : MethodName := ⟨RX0, "areStones", "([JII)Z"⟩
abbrev cX0_turning : ByteArray := prog_2_method_3_code
def yX0_turning : MethodName := ⟨RX0, "turning", "(LParishPull$State;II[JII)I"⟩
abbrev cX0_fewest : ByteArray := prog_2_method_4_code
def yX0_fewest : MethodName := ⟨RX0, "fewest", "(III)I"⟩
abbrev cX0_stonesFor : ByteArray := prog_2_method_5_code
def yX0_stonesFor : MethodName := ⟨RX0, "stonesFor", "(I)I"⟩
def RX1 : String := "ParishPull$Book"
def TX1 : u_T := fun k => match k with
  | 0 => ("ParishPull$Book", "fitting", "[I", true)
  | 1 => ("ParishPull$Book", "kind", "I", false)
  | 2 => ("ParishPull$Book", "mass", "I", false)
  | _ => ("ParishPull$Book", "week", "I", false)
def tyX1 : Nat → FieldType := fun k => match k with
  | 0 => .array .int
  | 1 => .int
  | 2 => .int
  | _ => .int
abbrev wsX10 : List Cond := u_ws RX1 TX1 4
theorem nmX1 : ∀ a, a < 4 → ∀ b, b < 4 → a ≠ b → (TX1 a).2.1 ≠ (TX1 b).2.1 := by decide +kernel
theorem tyX1_ok : ∀ k, k < 4 → parseFieldDescriptor (TX1 k).2.2.1 = some (tyX1 k) := by decide +kernel
abbrev cX1_init : ByteArray := prog_3_method_1_code
def yX1_init : MethodName := ⟨RX1, "<init>", "()V"⟩
abbrev cX1_open : ByteArray := prog_3_method_2_code
def yX1_open : MethodName := ⟨RX1, "open", "(III)V"⟩
abbrev cX1_readItems : ByteArray := prog_3_method_3_code
def yX1_readItems : MethodName := ⟨RX1, "readItems", "([JII)I"⟩
abbrev cX1_fittingRows : ByteArray := prog_3_method_4_code
def yX1_fittingRows : MethodName := ⟨RX1, "fittingRows", "()I"⟩
abbrev cX1_sureSeasons : ByteArray := prog_3_method_5_code
def yX1_sureSeasons : MethodName := ⟨RX1, "sureSeasons", "()I"⟩
abbrev cX1_pullsFor : ByteArray := prog_3_method_6_code
def yX1_pullsFor : MethodName := ⟨RX1, "pullsFor", "(J)I"⟩
def RX2 : String := "ParishPull$Councils"
def TX2 : u_T := fun k => match k with
  | 0 => ("ParishPull$Councils", "state", "LParishPull$State;", true)
  | 1 => ("ParishPull$Councils", "routes", "LParishPull$Routes;", true)
  | 2 => ("ParishPull$Councils", "firstTakes", "[I", true)
  | 3 => ("ParishPull$Councils", "otherTakes", "[I", true)
  | 4 => ("ParishPull$Councils", "rests", "I", false)
  | _ => ("ParishPull$Councils", "firstRest", "I", false)
def tyX2 : Nat → FieldType := fun k => match k with
  | 0 => .object "ParishPull$State"
  | 1 => .object "ParishPull$Routes"
  | 2 => .array .int
  | 3 => .array .int
  | 4 => .int
  | _ => .int
abbrev wsX20 : List Cond := u_ws RX2 TX2 6
theorem nmX2 : ∀ a, a < 6 → ∀ b, b < 6 → a ≠ b → (TX2 a).2.1 ≠ (TX2 b).2.1 := by decide +kernel
theorem tyX2_ok : ∀ k, k < 6 → parseFieldDescriptor (TX2 k).2.2.1 = some (tyX2 k) := by decide +kernel
abbrev cX2_init : ByteArray := prog_4_method_1_code
def yX2_init : MethodName := ⟨RX2, "<init>", "(LParishPull$State;LParishPull$Routes;)V"⟩
abbrev cX2_takeOf : ByteArray := prog_4_method_2_code
def yX2_takeOf : MethodName := ⟨RX2, "takeOf", "(II)I"⟩
abbrev cX2_findRests : ByteArray := prog_4_method_3_code
def yX2_findRests : MethodName := ⟨RX2, "findRests", "(III)V"⟩
abbrev cX2_addTakes : ByteArray := prog_4_method_4_code
def yX2_addTakes : MethodName := ⟨RX2, "addTakes", "(III)V"⟩
abbrev cX2_most : ByteArray := prog_4_method_5_code
def yX2_most : MethodName := ⟨RX2, "most", "([III)I"⟩
def RX3 : String := "ParishPull$Ground"
def TX3 : u_T := fun k => match k with
  | 0 => ("ParishPull$Ground", "kinds", "[I", true)
  | 1 => ("ParishPull$Ground", "pulls", "[I", true)
  | 2 => ("ParishPull$Ground", "lesser", "[I", true)
  | 3 => ("ParishPull$Ground", "greater", "[I", true)
  | 4 => ("ParishPull$Ground", "tolls", "[I", true)
  | 5 => ("ParishPull$Ground", "parishes", "I", false)
  | _ => ("ParishPull$Ground", "roads", "I", false)
def tyX3 : Nat → FieldType := fun k => match k with
  | 0 => .array .int
  | 1 => .array .int
  | 2 => .array .int
  | 3 => .array .int
  | 4 => .array .int
  | 5 => .int
  | _ => .int
abbrev wsX30 : List Cond := u_ws RX3 TX3 7
theorem nmX3 : ∀ a, a < 7 → ∀ b, b < 7 → a ≠ b → (TX3 a).2.1 ≠ (TX3 b).2.1 := by decide +kernel
theorem tyX3_ok : ∀ k, k < 7 → parseFieldDescriptor (TX3 k).2.2.1 = some (tyX3 k) := by decide +kernel
abbrev cX3_init : ByteArray := prog_5_method_1_code
def yX3_init : MethodName := ⟨RX3, "<init>", "()V"⟩
abbrev cX3_weight : ByteArray := prog_5_method_2_code
def yX3_weight : MethodName := ⟨RX3, "weight", "(III)I"⟩
abbrev cX3_clear : ByteArray := prog_5_method_3_code
def yX3_clear : MethodName := ⟨RX3, "clear", "()V"⟩
abbrev cX3_hasParish : ByteArray := prog_5_method_4_code
def yX3_hasParish : MethodName := ⟨RX3, "hasParish", "(I)Z"⟩
abbrev cX3_hasRoad : ByteArray := prog_5_method_5_code
def yX3_hasRoad : MethodName := ⟨RX3, "hasRoad", "(I)Z"⟩
abbrev cX3_hasSet : ByteArray := prog_5_method_6_code
def yX3_hasSet : MethodName := ⟨RX3, "hasSet", "(I)Z"⟩
abbrev cX3_addParish : ByteArray := prog_5_method_7_code
def yX3_addParish : MethodName := ⟨RX3, "addParish", "(I)I"⟩
abbrev cX3_addRoad : ByteArray := prog_5_method_8_code
def yX3_addRoad : MethodName := ⟨RX3, "addRoad", "(III)I"⟩
abbrev cX3_joins : ByteArray := prog_5_method_9_code
def yX3_joins : MethodName := ⟨RX3, "joins", "(II)Z"⟩
abbrev cX3_roadsAt : ByteArray := prog_5_method_10_code
def yX3_roadsAt : MethodName := ⟨RX3, "roadsAt", "(I)I"⟩
abbrev cX3_otherEnd : ByteArray := prog_5_method_11_code
def yX3_otherEnd : MethodName := ⟨RX3, "otherEnd", "(II)I"⟩
abbrev cX3_copyFrom : ByteArray := prog_5_method_12_code
def yX3_copyFrom : MethodName := ⟨RX3, "copyFrom", "(LParishPull$Ground;)V"⟩
def RX4 : String := "ParishPull$Leagues"
def TX4 : u_T := fun k => match k with
  | 0 => ("ParishPull$Leagues", "state", "LParishPull$State;", true)
  | 1 => ("ParishPull$Leagues", "routes", "LParishPull$Routes;", true)
  | 2 => ("ParishPull$Leagues", "totals", "[I", true)
  | 3 => ("ParishPull$Leagues", "partUpper", "J", false)
  | _ => ("ParishPull$Leagues", "partLower", "J", false)
def tyX4 : Nat → FieldType := fun k => match k with
  | 0 => .object "ParishPull$State"
  | 1 => .object "ParishPull$Routes"
  | 2 => .array .int
  | 3 => .long
  | _ => .long
abbrev wsX40 : List Cond := u_ws RX4 TX4 5
theorem nmX4 : ∀ a, a < 5 → ∀ b, b < 5 → a ≠ b → (TX4 a).2.1 ≠ (TX4 b).2.1 := by decide +kernel
theorem tyX4_ok : ∀ k, k < 5 → parseFieldDescriptor (TX4 k).2.2.1 = some (tyX4 k) := by decide +kernel
abbrev cX4_init : ByteArray := prog_6_method_1_code
def yX4_init : MethodName := ⟨RX4, "<init>", "(LParishPull$State;LParishPull$Routes;)V"⟩
abbrev cX4_worth : ByteArray := prog_6_method_2_code
def yX4_worth : MethodName := ⟨RX4, "worth", "(II)I"⟩
abbrev cX4_findPart : ByteArray := prog_6_method_3_code
def yX4_findPart : MethodName := ⟨RX4, "findPart", "(III)V"⟩
abbrev cX4_findTotals : ByteArray := prog_6_method_4_code
def yX4_findTotals : MethodName := ⟨RX4, "findTotals", "(II)V"⟩
abbrev cX4_addTotal : ByteArray := prog_6_method_5_code
def yX4_addTotal : MethodName := ⟨RX4, "addTotal", "(II)V"⟩
abbrev cX4_commonDivisor : ByteArray := prog_6_method_6_code
def yX4_commonDivisor : MethodName := ⟨RX4, "commonDivisor", "(JJ)J"⟩
def RX5 : String := "ParishPull$Routes"
def TX5 : u_T := fun k => match k with
  | 0 => ("ParishPull$Routes", "state", "LParishPull$State;", true)
  | 1 => ("ParishPull$Routes", "tolls", "[I", true)
  | 2 => ("ParishPull$Routes", "between", "[I", true)
  | 3 => ("ParishPull$Routes", "weights", "[I", true)
  | 4 => ("ParishPull$Routes", "costs", "[I", true)
  | 5 => ("ParishPull$Routes", "next", "[I", true)
  | 6 => ("ParishPull$Routes", "path", "[I", true)
  | 7 => ("ParishPull$Routes", "length", "I", false)
  | 8 => ("ParishPull$Routes", "parishes", "I", false)
  | 9 => ("ParishPull$Routes", "borne", "I", false)
  | 10 => ("ParishPull$Routes", "cost", "I", false)
  | 11 => ("ParishPull$Routes", "league", "I", false)
  | 12 => ("ParishPull$Routes", "open", "I", false)
  | _ => ("ParishPull$Routes", "bestNet", "I", false)
def tyX5 : Nat → FieldType := fun k => match k with
  | 0 => .object "ParishPull$State"
  | 1 => .array .int
  | 2 => .array .int
  | 3 => .array .int
  | 4 => .array .int
  | 5 => .array .int
  | 6 => .array .int
  | 7 => .int
  | 8 => .int
  | 9 => .int
  | 10 => .int
  | 11 => .int
  | 12 => .int
  | _ => .int
abbrev wsX50 : List Cond := u_ws RX5 TX5 14
theorem nmX5 : ∀ a, a < 14 → ∀ b, b < 14 → a ≠ b → (TX5 a).2.1 ≠ (TX5 b).2.1 := by decide +kernel
theorem tyX5_ok : ∀ k, k < 14 → parseFieldDescriptor (TX5 k).2.2.1 = some (tyX5 k) := by decide +kernel
abbrev cX5_init : ByteArray := prog_7_method_1_code
def yX5_init : MethodName := ⟨RX5, "<init>", "(LParishPull$State;)V"⟩
abbrev cX5_harness : ByteArray := prog_7_method_2_code
def yX5_harness : MethodName := ⟨RX5, "harness", "(I)V"⟩
abbrev cX5_weigh : ByteArray := prog_7_method_3_code
def yX5_weigh : MethodName := ⟨RX5, "weigh", "(I)V"⟩
abbrev cX5_spread : ByteArray := prog_7_method_4_code
def yX5_spread : MethodName := ⟨RX5, "spread", "(I)V"⟩
abbrev cX5_bestPlace : ByteArray := prog_7_method_5_code
def yX5_bestPlace : MethodName := ⟨RX5, "bestPlace", "(II)I"⟩
abbrev cX5_marketOf : ByteArray := prog_7_method_6_code
def yX5_marketOf : MethodName := ⟨RX5, "marketOf", "(I)I"⟩
abbrev cX5_start : ByteArray := prog_7_method_7_code
def yX5_start : MethodName := ⟨RX5, "start", "(I)V"⟩
abbrev cX5_heaviestOpen : ByteArray := prog_7_method_8_code
def yX5_heaviestOpen : MethodName := ⟨RX5, "heaviestOpen", "()I"⟩
abbrev cX5_nearest : ByteArray := prog_7_method_9_code
def yX5_nearest : MethodName := ⟨RX5, "nearest", "()I"⟩
abbrev cX5_leave : ByteArray := prog_7_method_10_code
def yX5_leave : MethodName := ⟨RX5, "leave", "(I)V"⟩
abbrev cX5_roadCost : ByteArray := prog_7_method_11_code
def yX5_roadCost : MethodName := ⟨RX5, "roadCost", "(II)I"⟩
abbrev cX5_leads : ByteArray := prog_7_method_12_code
def yX5_leads : MethodName := ⟨RX5, "leads", "(II)Z"⟩
abbrev cX5_spreadAll : ByteArray := prog_7_method_13_code
def yX5_spreadAll : MethodName := ⟨RX5, "spreadAll", "()V"⟩
abbrev cX5_trace : ByteArray := prog_7_method_14_code
def yX5_trace : MethodName := ⟨RX5, "trace", "(II)Z"⟩
abbrev cX5_findNext : ByteArray := prog_7_method_15_code
def yX5_findNext : MethodName := ⟨RX5, "findNext", "(I)V"⟩
abbrev cX5_firstStep : ByteArray := prog_7_method_16_code
def yX5_firstStep : MethodName := ⟨RX5, "firstStep", "(III)I"⟩
abbrev cX5_reaches : ByteArray := prog_7_method_17_code
def yX5_reaches : MethodName := ⟨RX5, "reaches", "(III)Z"⟩
def RX6 : String := "ParishPull$Sheets"
def TX6 : u_T := fun k => match k with
  | 0 => ("ParishPull$Sheets", "rows", "[[J", true)
  | 1 => ("ParishPull$Sheets", "lanes", "[I", true)
  | 2 => ("ParishPull$Sheets", "lengths", "[I", true)
  | _ => ("ParishPull$Sheets", "present", "[Z", true)
def tyX6 : Nat → FieldType := fun k => match k with
  | 0 => .array (.array .long)
  | 1 => .array .int
  | 2 => .array .int
  | _ => .array .boolean
abbrev wsX60 : List Cond := u_ws RX6 TX6 4
theorem nmX6 : ∀ a, a < 4 → ∀ b, b < 4 → a ≠ b → (TX6 a).2.1 ≠ (TX6 b).2.1 := by decide +kernel
theorem tyX6_ok : ∀ k, k < 4 → parseFieldDescriptor (TX6 k).2.2.1 = some (tyX6 k) := by decide +kernel
abbrev cX6_init : ByteArray := prog_8_method_1_code
def yX6_init : MethodName := ⟨RX6, "<init>", "()V"⟩
abbrev cX6_isSheet : ByteArray := prog_8_method_2_code
def yX6_isSheet : MethodName := ⟨RX6, "isSheet", "(I)Z"⟩
abbrev cX6_isLane : ByteArray := prog_8_method_3_code
def yX6_isLane : MethodName := ⟨RX6, "isLane", "(II)Z"⟩
abbrev cX6_isMissing : ByteArray := prog_8_method_4_code
def yX6_isMissing : MethodName := ⟨RX6, "isMissing", "(I)Z"⟩
abbrev cX6_fault : ByteArray := prog_8_method_5_code
def yX6_fault : MethodName := ⟨RX6, "fault", "(IIII)I"⟩
abbrev cX6_holds : ByteArray := prog_8_method_6_code
def yX6_holds : MethodName := ⟨RX6, "holds", "(III)Z"⟩
abbrev cX6_renew : ByteArray := prog_8_method_7_code
def yX6_renew : MethodName := ⟨RX6, "renew", "(III)V"⟩
abbrev cX6_empty : ByteArray := prog_8_method_8_code
def yX6_empty : MethodName := ⟨RX6, "empty", "(I)I"⟩
abbrev cX6_put : ByteArray := prog_8_method_9_code
def yX6_put : MethodName := ⟨RX6, "put", "(IIJ)V"⟩
def RX7 : String := "ParishPull$State"
def TX7 : u_T := fun k => match k with
  | 0 => ("ParishPull$State", "ground", "LParishPull$Ground;", true)
  | 1 => ("ParishPull$State", "bears", "[I", true)
  | 2 => ("ParishPull$State", "costs", "[I", true)
  | 3 => ("ParishPull$State", "masses", "[I", true)
  | 4 => ("ParishPull$State", "prices", "[I", true)
  | 5 => ("ParishPull$State", "places", "[I", true)
  | 6 => ("ParishPull$State", "ropes", "[I", true)
  | 7 => ("ParishPull$State", "bodies", "[I", true)
  | 8 => ("ParishPull$State", "homes", "[I", true)
  | 9 => ("ParishPull$State", "carts", "I", false)
  | 10 => ("ParishPull$State", "goods", "I", false)
  | 11 => ("ParishPull$State", "people", "I", false)
  | _ => ("ParishPull$State", "week", "I", false)
def tyX7 : Nat → FieldType := fun k => match k with
  | 0 => .object "ParishPull$Ground"
  | 1 => .array .int
  | 2 => .array .int
  | 3 => .array .int
  | 4 => .array .int
  | 5 => .array .int
  | 6 => .array .int
  | 7 => .array .int
  | 8 => .array .int
  | 9 => .int
  | 10 => .int
  | 11 => .int
  | _ => .int
abbrev wsX70 : List Cond := u_ws RX7 TX7 13
theorem nmX7 : ∀ a, a < 13 → ∀ b, b < 13 → a ≠ b → (TX7 a).2.1 ≠ (TX7 b).2.1 := by decide +kernel
theorem tyX7_ok : ∀ k, k < 13 → parseFieldDescriptor (TX7 k).2.2.1 = some (tyX7 k) := by decide +kernel
abbrev cX7_init : ByteArray := prog_9_method_1_code
def yX7_init : MethodName := ⟨RX7, "<init>", "()V"⟩
abbrev cX7_seasonOf : ByteArray := prog_9_method_2_code
def yX7_seasonOf : MethodName := ⟨RX7, "seasonOf", "(I)I"⟩
abbrev cX7_season : ByteArray := prog_9_method_3_code
def yX7_season : MethodName := ⟨RX7, "season", "()I"⟩
abbrev cX7_weightAt : ByteArray := prog_9_method_4_code
def yX7_weightAt : MethodName := ⟨RX7, "weightAt", "(II)I"⟩
abbrev cX7_weightOfGood : ByteArray := prog_9_method_5_code
def yX7_weightOfGood : MethodName := ⟨RX7, "weightOfGood", "(I)I"⟩
abbrev cX7_hasCart : ByteArray := prog_9_method_6_code
def yX7_hasCart : MethodName := ⟨RX7, "hasCart", "(I)Z"⟩
abbrev cX7_hasGood : ByteArray := prog_9_method_7_code
def yX7_hasGood : MethodName := ⟨RX7, "hasGood", "(I)Z"⟩
abbrev cX7_addCart : ByteArray := prog_9_method_8_code
def yX7_addCart : MethodName := ⟨RX7, "addCart", "(II)I"⟩
abbrev cX7_addGood : ByteArray := prog_9_method_9_code
def yX7_addGood : MethodName := ⟨RX7, "addGood", "(III)I"⟩
abbrev cX7_addPerson : ByteArray := prog_9_method_10_code
def yX7_addPerson : MethodName := ⟨RX7, "addPerson", "(II)I"⟩
abbrev cX7_hanging : ByteArray := prog_9_method_11_code
def yX7_hanging : MethodName := ⟨RX7, "hanging", "()I"⟩
abbrev cX7_passWeek : ByteArray := prog_9_method_12_code
def yX7_passWeek : MethodName := ⟨RX7, "passWeek", "()I"⟩
abbrev cX7_lighterParish : ByteArray := prog_9_method_13_code
def yX7_lighterParish : MethodName := ⟨RX7, "lighterParish", "(I)I"⟩
abbrev cX7_wouldFall : ByteArray := prog_9_method_14_code
def yX7_wouldFall : MethodName := ⟨RX7, "wouldFall", "(II)I"⟩
abbrev cX7_wouldBeLighter : ByteArray := prog_9_method_15_code
def yX7_wouldBeLighter : MethodName := ⟨RX7, "wouldBeLighter", "(II)I"⟩
abbrev cX7_settle : ByteArray := prog_9_method_16_code
def yX7_settle : MethodName := ⟨RX7, "settle", "(LParishPull$Ground;)V"⟩
abbrev cX7_copyFrom : ByteArray := prog_9_method_17_code
def yX7_copyFrom : MethodName := ⟨RX7, "copyFrom", "(LParishPull$State;)V"⟩
def RX8 : String := "ParishPull$Tape"
def TX8 : u_T := fun k => match k with
  | 0 => ("ParishPull$Tape", "letters", "[C", true)
  | 1 => ("ParishPull$Tape", "draft", "LParishPull$Ground;", true)
  | 2 => ("ParishPull$Tape", "length", "I", false)
  | _ => ("ParishPull$Tape", "place", "I", false)
def tyX8 : Nat → FieldType := fun k => match k with
  | 0 => .array .char
  | 1 => .object "ParishPull$Ground"
  | 2 => .int
  | _ => .int
abbrev wsX80 : List Cond := u_ws RX8 TX8 4
theorem nmX8 : ∀ a, a < 4 → ∀ b, b < 4 → a ≠ b → (TX8 a).2.1 ≠ (TX8 b).2.1 := by decide +kernel
theorem tyX8_ok : ∀ k, k < 4 → parseFieldDescriptor (TX8 k).2.2.1 = some (tyX8 k) := by decide +kernel
abbrev cX8_init : ByteArray := prog_10_method_1_code
def yX8_init : MethodName := ⟨RX8, "<init>", "()V"⟩
abbrev cX8_isFull : ByteArray := prog_10_method_2_code
def yX8_isFull : MethodName := ⟨RX8, "isFull", "()Z"⟩
abbrev cX8_add : ByteArray := prog_10_method_3_code
def yX8_add : MethodName := ⟨RX8, "add", "(I)I"⟩
abbrev cX8_clear : ByteArray := prog_10_method_4_code
def yX8_clear : MethodName := ⟨RX8, "clear", "()V"⟩
abbrev cX8_read : ByteArray := prog_10_method_5_code
def yX8_read : MethodName := ⟨RX8, "read", "()Z"⟩
abbrev cX8_readParishes : ByteArray := prog_10_method_6_code
def yX8_readParishes : MethodName := ⟨RX8, "readParishes", "()Z"⟩
abbrev cX8_readParish : ByteArray := prog_10_method_7_code
def yX8_readParish : MethodName := ⟨RX8, "readParish", "()Z"⟩
abbrev cX8_readRoads : ByteArray := prog_10_method_8_code
def yX8_readRoads : MethodName := ⟨RX8, "readRoads", "()Z"⟩
abbrev cX8_readRoad : ByteArray := prog_10_method_9_code
def yX8_readRoad : MethodName := ⟨RX8, "readRoad", "()Z"⟩
abbrev cX8_skipBlanks : ByteArray := prog_10_method_10_code
def yX8_skipBlanks : MethodName := ⟨RX8, "skipBlanks", "()V"⟩
abbrev cX8_takes : ByteArray := prog_10_method_11_code
def yX8_takes : MethodName := ⟨RX8, "takes", "(C)Z"⟩
abbrev cX8_digit : ByteArray := prog_10_method_12_code
def yX8_digit : MethodName := ⟨RX8, "digit", "(II)I"⟩
def RX9 : String := "ParishPull$Trades"
def TX9 : u_T := fun k => match k with
  | 0 => ("ParishPull$Trades", "state", "LParishPull$State;", true)
  | 1 => ("ParishPull$Trades", "routes", "LParishPull$Routes;", true)
  | 2 => ("ParishPull$Trades", "values", "[I", true)
  | 3 => ("ParishPull$Trades", "plainToPlain", "[I", true)
  | 4 => ("ParishPull$Trades", "plainToScale", "[I", true)
  | 5 => ("ParishPull$Trades", "scaleToPlain", "[I", true)
  | _ => ("ParishPull$Trades", "bestGain", "I", false)
def tyX9 : Nat → FieldType := fun k => match k with
  | 0 => .object "ParishPull$State"
  | 1 => .object "ParishPull$Routes"
  | 2 => .array .int
  | 3 => .array .int
  | 4 => .array .int
  | 5 => .array .int
  | _ => .int
abbrev wsX90 : List Cond := u_ws RX9 TX9 7
theorem nmX9 : ∀ a, a < 7 → ∀ b, b < 7 → a ≠ b → (TX9 a).2.1 ≠ (TX9 b).2.1 := by decide +kernel
theorem tyX9_ok : ∀ k, k < 7 → parseFieldDescriptor (TX9 k).2.2.1 = some (tyX9 k) := by decide +kernel
abbrev cX9_init : ByteArray := prog_11_method_1_code
def yX9_init : MethodName := ⟨RX9, "<init>", "(LParishPull$State;LParishPull$Routes;)V"⟩
abbrev cX9_best : ByteArray := prog_11_method_2_code
def yX9_best : MethodName := ⟨RX9, "best", "(II)I"⟩
abbrev cX9_law : ByteArray := prog_11_method_3_code
def yX9_law : MethodName := ⟨RX9, "law", "(II)I"⟩
abbrev cX9_findValues : ByteArray := prog_11_method_4_code
def yX9_findValues : MethodName := ⟨RX9, "findValues", "(II)V"⟩
abbrev cX9_findGains : ByteArray := prog_11_method_5_code
def yX9_findGains : MethodName := ⟨RX9, "findGains", "(I)V"⟩
abbrev cX9_endsGains : ByteArray := prog_11_method_6_code
def yX9_endsGains : MethodName := ⟨RX9, "endsGains", "(I)Z"⟩
def RX10 : String := "ParishPull"
def TX10 : u_T := fun k => match k with
  | 0 => ("ParishPull", "now", "LParishPull$State;", true)
  | 1 => ("ParishPull", "kept", "LParishPull$State;", true)
  | 2 => ("ParishPull", "tape", "LParishPull$Tape;", true)
  | 3 => ("ParishPull", "sheets", "LParishPull$Sheets;", true)
  | 4 => ("ParishPull", "routes", "LParishPull$Routes;", true)
  | 5 => ("ParishPull", "trades", "LParishPull$Trades;", true)
  | 6 => ("ParishPull", "contest", "LParishPull$Councils;", true)
  | 7 => ("ParishPull", "leagues", "LParishPull$Leagues;", true)
  | 8 => ("ParishPull", "scaleBook", "LParishPull$Book;", true)
  | _ => ("ParishPull", "imaged", "Z", false)
def tyX10 : Nat → FieldType := fun k => match k with
  | 0 => .object "ParishPull$State"
  | 1 => .object "ParishPull$State"
  | 2 => .object "ParishPull$Tape"
  | 3 => .object "ParishPull$Sheets"
  | 4 => .object "ParishPull$Routes"
  | 5 => .object "ParishPull$Trades"
  | 6 => .object "ParishPull$Councils"
  | 7 => .object "ParishPull$Leagues"
  | 8 => .object "ParishPull$Book"
  | _ => .boolean
abbrev wsX100 : List Cond := u_ws RX10 TX10 10
theorem nmX10 : ∀ a, a < 10 → ∀ b, b < 10 → a ≠ b → (TX10 a).2.1 ≠ (TX10 b).2.1 := by decide +kernel
theorem tyX10_ok : ∀ k, k < 10 → parseFieldDescriptor (TX10 k).2.2.1 = some (tyX10 k) := by decide +kernel
abbrev cX10_init : ByteArray := prog_1_method_1_code
def yX10_init : MethodName := ⟨RX10, "<init>", "()V"⟩
abbrev cX10_parish : ByteArray := prog_1_method_2_code
def yX10_parish : MethodName := ⟨RX10, "parish", "(I)I"⟩
abbrev cX10_pull : ByteArray := prog_1_method_3_code
def yX10_pull : MethodName := ⟨RX10, "pull", "(III)I"⟩
abbrev cX10_road : ByteArray := prog_1_method_4_code
def yX10_road : MethodName := ⟨RX10, "road", "(III)I"⟩
abbrev cX10_toll : ByteArray := prog_1_method_5_code
def yX10_toll : MethodName := ⟨RX10, "toll", "(II)I"⟩
abbrev cX10_cart : ByteArray := prog_1_method_6_code
def yX10_cart : MethodName := ⟨RX10, "cart", "(II)I"⟩
abbrev cX10_good : ByteArray := prog_1_method_7_code
def yX10_good : MethodName := ⟨RX10, "good", "(III)I"⟩
abbrev cX10_hang : ByteArray := prog_1_method_8_code
def yX10_hang : MethodName := ⟨RX10, "hang", "(II)I"⟩
abbrev cX10_person : ByteArray := prog_1_method_9_code
def yX10_person : MethodName := ⟨RX10, "person", "(II)I"⟩
abbrev cX10_of : ByteArray := prog_1_method_10_code
def yX10_of : MethodName := ⟨RX10, "of", "(II)I"⟩
abbrev cX10_told : ByteArray := prog_1_method_11_code
def yX10_told : MethodName := ⟨RX10, "told", "(II)I"⟩
abbrev cX10_weighs : ByteArray := prog_1_method_12_code
def yX10_weighs : MethodName := ⟨RX10, "weighs", "(II)I"⟩
abbrev cX10_type : ByteArray := prog_1_method_13_code
def yX10_type : MethodName := ⟨RX10, "type", "(I)I"⟩
abbrev cX10_land : ByteArray := prog_1_method_14_code
def yX10_land : MethodName := ⟨RX10, "land", "()I"⟩
abbrev cX10_count : ByteArray := prog_1_method_15_code
def yX10_count : MethodName := ⟨RX10, "count", "(I)I"⟩
abbrev cX10_weeks : ByteArray := prog_1_method_16_code
def yX10_weeks : MethodName := ⟨RX10, "weeks", "(I)I"⟩
abbrev cX10_way : ByteArray := prog_1_method_17_code
def yX10_way : MethodName := ⟨RX10, "way", "(IIIII)I"⟩
abbrev cX10_net : ByteArray := prog_1_method_18_code
def yX10_net : MethodName := ⟨RX10, "net", "(III)I"⟩
abbrev cX10_market : ByteArray := prog_1_method_19_code
def yX10_market : MethodName := ⟨RX10, "market", "(II)I"⟩
abbrev cX10_trade : ByteArray := prog_1_method_20_code
def yX10_trade : MethodName := ⟨RX10, "trade", "(III)I"⟩
abbrev cX10_scales : ByteArray := prog_1_method_21_code
def yX10_scales : MethodName := ⟨RX10, "scales", "(II)I"⟩
abbrev cX10_take : ByteArray := prog_1_method_22_code
def yX10_take : MethodName := ⟨RX10, "take", "(II)I"⟩
abbrev cX10_councils : ByteArray := prog_1_method_23_code
def yX10_councils : MethodName := ⟨RX10, "councils", "(IIII)I"⟩
abbrev cX10_league : ByteArray := prog_1_method_24_code
def yX10_league : MethodName := ⟨RX10, "league", "(II)I"⟩
abbrev cX10_upper : ByteArray := prog_1_method_25_code
def yX10_upper : MethodName := ⟨RX10, "upper", "(III)J"⟩
abbrev cX10_lower : ByteArray := prog_1_method_26_code
def yX10_lower : MethodName := ⟨RX10, "lower", "(III)J"⟩
abbrev cX10_change : ByteArray := prog_1_method_27_code
def yX10_change : MethodName := ⟨RX10, "change", "(III)I"⟩
abbrev cX10_well : ByteArray := prog_1_method_28_code
def yX10_well : MethodName := ⟨RX10, "well", "(II)I"⟩
abbrev cX10_image : ByteArray := prog_1_method_29_code
def yX10_image : MethodName := ⟨RX10, "image", "()I"⟩
abbrev cX10_restore : ByteArray := prog_1_method_30_code
def yX10_restore : MethodName := ⟨RX10, "restore", "()I"⟩
abbrev cX10_beam : ByteArray := prog_1_method_31_code
def yX10_beam : MethodName := ⟨RX10, "beam", "(IIIIIII)I"⟩
abbrev cX10_book : ByteArray := prog_1_method_32_code
def yX10_book : MethodName := ⟨RX10, "book", "(IIIIIIII)I"⟩
abbrev cX10_mills : ByteArray := prog_1_method_33_code
def yX10_mills : MethodName := ⟨RX10, "mills", "(IIII)I"⟩
abbrev cX10_film : ByteArray := prog_1_method_34_code
def yX10_film : MethodName := ⟨RX10, "film", "(III)I"⟩
abbrev cX10_sheet : ByteArray := prog_1_method_35_code
def yX10_sheet : MethodName := ⟨RX10, "sheet", "(III)I"⟩
abbrev cX10_drop : ByteArray := prog_1_method_36_code
def yX10_drop : MethodName := ⟨RX10, "drop", "(I)I"⟩
abbrev cX10_item : ByteArray := prog_1_method_37_code
def yX10_item : MethodName := ⟨RX10, "item", "(IIIJ)I"⟩
abbrev cX10_copy : ByteArray := prog_1_method_38_code
def yX10_copy : MethodName := ⟨RX10, "copy", "(IIIII)I"⟩
abbrev cX10_within : ByteArray := prog_1_method_39_code
def yX10_within : MethodName := ⟨RX10, "within", "(III)Z"⟩
abbrev cX10_isMember : ByteArray := prog_1_method_40_code
def yX10_isMember : MethodName := ⟨RX10, "isMember", "(II)Z"⟩
abbrev cX10_setThere : ByteArray := prog_1_method_41_code
def yX10_setThere : MethodName := ⟨RX10, "setThere", "([III)I"⟩
abbrev cX10_toldOfRoad : ByteArray := prog_1_method_42_code
def yX10_toldOfRoad : MethodName := ⟨RX10, "toldOfRoad", "(II)I"⟩
abbrev cX10_toldOfCart : ByteArray := prog_1_method_43_code
def yX10_toldOfCart : MethodName := ⟨RX10, "toldOfCart", "(II)I"⟩
abbrev cX10_toldOfGood : ByteArray := prog_1_method_44_code
def yX10_toldOfGood : MethodName := ⟨RX10, "toldOfGood", "(II)I"⟩
abbrev cX10_toldOfPerson : ByteArray := prog_1_method_45_code
def yX10_toldOfPerson : MethodName := ⟨RX10, "toldOfPerson", "(II)I"⟩
def RX11 : String := "ParishPullModel"
def TX11 : u_T := fun k => match k with
  | 0 => ("ParishPullModel", "now", "[I", true)
  | 1 => ("ParishPullModel", "kept", "[I", true)
  | 2 => ("ParishPullModel", "isKept", "Z", false)
  | 3 => ("ParishPullModel", "tape", "[I", true)
  | 4 => ("ParishPullModel", "taped", "I", false)
  | 5 => ("ParishPullModel", "lanes", "[I", true)
  | 6 => ("ParishPullModel", "sizes", "[I", true)
  | 7 => ("ParishPullModel", "items", "[J", true)
  | 8 => ("ParishPullModel", "at", "I", false)
  | 9 => ("ParishPullModel", "before", "[I", true)
  | 10 => ("ParishPullModel", "least", "[I", true)
  | 11 => ("ParishPullModel", "path", "[I", true)
  | 12 => ("ParishPullModel", "spent", "[I", true)
  | 13 => ("ParishPullModel", "ones", "[I", true)
  | 14 => ("ParishPullModel", "others", "[I", true)
  | 15 => ("ParishPullModel", "above", "J", false)
  | 16 => ("ParishPullModel", "below", "J", false)
  | _ => ("ParishPullModel", "left", "[I", true)
def tyX11 : Nat → FieldType := fun k => match k with
  | 0 => .array .int
  | 1 => .array .int
  | 2 => .boolean
  | 3 => .array .int
  | 4 => .int
  | 5 => .array .int
  | 6 => .array .int
  | 7 => .array .long
  | 8 => .int
  | 9 => .array .int
  | 10 => .array .int
  | 11 => .array .int
  | 12 => .array .int
  | 13 => .array .int
  | 14 => .array .int
  | 15 => .long
  | 16 => .long
  | _ => .array .int
abbrev wsX110 : List Cond := u_ws RX11 TX11 18
theorem nmX11 : ∀ a, a < 18 → ∀ b, b < 18 → a ≠ b → (TX11 a).2.1 ≠ (TX11 b).2.1 := by decide +kernel
theorem tyX11_ok : ∀ k, k < 18 → parseFieldDescriptor (TX11 k).2.2.1 = some (tyX11 k) := by decide +kernel
abbrev cX11_init : ByteArray := prog_13_method_1_code
def yX11_init : MethodName := ⟨RX11, "<init>", "()V"⟩
abbrev cX11_in : ByteArray := prog_13_method_3_code
def yX11_in : MethodName := ⟨RX11, "in", "(JJJ)Z"⟩
abbrev cX11_isParish : ByteArray := prog_13_method_4_code
def yX11_isParish : MethodName := ⟨RX11, "isParish", "(I)Z"⟩
abbrev cX11_isRoad : ByteArray := prog_13_method_5_code
def yX11_isRoad : MethodName := ⟨RX11, "isRoad", "(I)Z"⟩
abbrev cX11_isCart : ByteArray := prog_13_method_6_code
def yX11_isCart : MethodName := ⟨RX11, "isCart", "(I)Z"⟩
abbrev cX11_isGood : ByteArray := prog_13_method_7_code
def yX11_isGood : MethodName := ⟨RX11, "isGood", "(I)Z"⟩
abbrev cX11_isPerson : ByteArray := prog_13_method_8_code
def yX11_isPerson : MethodName := ⟨RX11, "isPerson", "(I)Z"⟩
abbrev cX11_isTwo : ByteArray := prog_13_method_9_code
def yX11_isTwo : MethodName := ⟨RX11, "isTwo", "(I)Z"⟩
abbrev cX11_season : ByteArray := prog_13_method_10_code
def yX11_season : MethodName := ⟨RX11, "season", "()I"⟩
abbrev cX11_weightBy : ByteArray := prog_13_method_11_code
def yX11_weightBy : MethodName := ⟨RX11, "weightBy", "(III)I"⟩
abbrev cX11_weight : ByteArray := prog_13_method_12_code
def yX11_weight : MethodName := ⟨RX11, "weight", "(II)I"⟩
abbrev cX11_joins : ByteArray := prog_13_method_13_code
def yX11_joins : MethodName := ⟨RX11, "joins", "(I)I"⟩
abbrev cX11_parish : ByteArray := prog_13_method_14_code
def yX11_parish : MethodName := ⟨RX11, "parish", "(I)I"⟩
abbrev cX11_pull : ByteArray := prog_13_method_15_code
def yX11_pull : MethodName := ⟨RX11, "pull", "(III)I"⟩
abbrev cX11_roadOf : ByteArray := prog_13_method_16_code
def yX11_roadOf : MethodName := ⟨RX11, "roadOf", "(II)I"⟩
abbrev cX11_road : ByteArray := prog_13_method_17_code
def yX11_road : MethodName := ⟨RX11, "road", "(III)I"⟩
abbrev cX11_toll : ByteArray := prog_13_method_18_code
def yX11_toll : MethodName := ⟨RX11, "toll", "(II)I"⟩
abbrev cX11_cart : ByteArray := prog_13_method_19_code
def yX11_cart : MethodName := ⟨RX11, "cart", "(II)I"⟩
abbrev cX11_good : ByteArray := prog_13_method_20_code
def yX11_good : MethodName := ⟨RX11, "good", "(III)I"⟩
abbrev cX11_hang : ByteArray := prog_13_method_21_code
def yX11_hang : MethodName := ⟨RX11, "hang", "(II)I"⟩
abbrev cX11_person : ByteArray := prog_13_method_22_code
def yX11_person : MethodName := ⟨RX11, "person", "(II)I"⟩
abbrev cX11_of : ByteArray := prog_13_method_23_code
def yX11_of : MethodName := ⟨RX11, "of", "(II)I"⟩
abbrev cX11_told : ByteArray := prog_13_method_24_code
def yX11_told : MethodName := ⟨RX11, "told", "(II)I"⟩
abbrev cX11_weighs : ByteArray := prog_13_method_25_code
def yX11_weighs : MethodName := ⟨RX11, "weighs", "(II)I"⟩
abbrev cX11_type : ByteArray := prog_13_method_26_code
def yX11_type : MethodName := ⟨RX11, "type", "(I)I"⟩
abbrev cX11_next : ByteArray := prog_13_method_27_code
def yX11_next : MethodName := ⟨RX11, "next", "()I"⟩
abbrev cX11_isDigit : ByteArray := prog_13_method_28_code
def yX11_isDigit : MethodName := ⟨RX11, "isDigit", "(II)Z"⟩
abbrev cX11_digit : ByteArray := prog_13_method_29_code
def yX11_digit : MethodName := ⟨RX11, "digit", "()I"⟩
abbrev cX11_kindOf : ByteArray := prog_13_method_30_code
def yX11_kindOf : MethodName := ⟨RX11, "kindOf", "(I)I"⟩
abbrev cX11_readsParish : ByteArray := prog_13_method_31_code
def yX11_readsParish : MethodName := ⟨RX11, "readsParish", "()Z"⟩
abbrev cX11_readsRoad : ByteArray := prog_13_method_32_code
def yX11_readsRoad : MethodName := ⟨RX11, "readsRoad", "()Z"⟩
abbrev cX11_reads : ByteArray := prog_13_method_33_code
def yX11_reads : MethodName := ⟨RX11, "reads", "()Z"⟩
abbrev cX11_land : ByteArray := prog_13_method_34_code
def yX11_land : MethodName := ⟨RX11, "land", "()I"⟩
abbrev cX11_count : ByteArray := prog_13_method_35_code
def yX11_count : MethodName := ⟨RX11, "count", "(I)I"⟩
abbrev cX11_goes : ByteArray := prog_13_method_36_code
def yX11_goes : MethodName := ⟨RX11, "goes", "(I)I"⟩
abbrev cX11_weeks : ByteArray := prog_13_method_37_code
def yX11_weeks : MethodName := ⟨RX11, "weeks", "(I)I"⟩
abbrev cX11_costOf : ByteArray := prog_13_method_38_code
def yX11_costOf : MethodName := ⟨RX11, "costOf", "(IIIII)I"⟩
abbrev cX11_bears : ByteArray := prog_13_method_39_code
def yX11_bears : MethodName := ⟨RX11, "bears", "(III)Z"⟩
abbrev cX11_layWays : ByteArray := prog_13_method_40_code
def yX11_layWays : MethodName := ⟨RX11, "layWays", "(III)V"⟩
abbrev cX11_layPath : ByteArray := prog_13_method_41_code
def yX11_layPath : MethodName := ⟨RX11, "layPath", "(IIII)I"⟩
abbrev cX11_way : ByteArray := prog_13_method_42_code
def yX11_way : MethodName := ⟨RX11, "way", "(IIIII)I"⟩
abbrev cX11_netOf : ByteArray := prog_13_method_43_code
def yX11_netOf : MethodName := ⟨RX11, "netOf", "(II)I"⟩
abbrev cX11_net : ByteArray := prog_13_method_44_code
def yX11_net : MethodName := ⟨RX11, "net", "(III)I"⟩
abbrev cX11_marketOf : ByteArray := prog_13_method_45_code
def yX11_marketOf : MethodName := ⟨RX11, "marketOf", "(III)I"⟩
abbrev cX11_market : ByteArray := prog_13_method_46_code
def yX11_market : MethodName := ⟨RX11, "market", "(II)I"⟩
abbrev cX11_trade : ByteArray := prog_13_method_47_code
def yX11_trade : MethodName := ⟨RX11, "trade", "(III)I"⟩
abbrev cX11_bits : ByteArray := prog_13_method_48_code
def yX11_bits : MethodName := ⟨RX11, "bits", "(I)I"⟩
abbrev cX11_paid : ByteArray := prog_13_method_49_code
def yX11_paid : MethodName := ⟨RX11, "paid", "(III)I"⟩
abbrev cX11_isEnded : ByteArray := prog_13_method_50_code
def yX11_isEnded : MethodName := ⟨RX11, "isEnded", "(II)Z"⟩
abbrev cX11_scales : ByteArray := prog_13_method_51_code
def yX11_scales : MethodName := ⟨RX11, "scales", "(II)I"⟩
abbrev cX11_takeOf : ByteArray := prog_13_method_52_code
def yX11_takeOf : MethodName := ⟨RX11, "takeOf", "(II)I"⟩
abbrev cX11_take : ByteArray := prog_13_method_53_code
def yX11_take : MethodName := ⟨RX11, "take", "(II)I"⟩
abbrev cX11_councils : ByteArray := prog_13_method_54_code
def yX11_councils : MethodName := ⟨RX11, "councils", "(IIII)I"⟩
abbrev cX11_worthOf : ByteArray := prog_13_method_55_code
def yX11_worthOf : MethodName := ⟨RX11, "worthOf", "(II)I"⟩
abbrev cX11_isSet : ByteArray := prog_13_method_56_code
def yX11_isSet : MethodName := ⟨RX11, "isSet", "(I)Z"⟩
abbrev cX11_league : ByteArray := prog_13_method_57_code
def yX11_league : MethodName := ⟨RX11, "league", "(II)I"⟩
abbrev cX11_orders : ByteArray := prog_13_method_58_code
def yX11_orders : MethodName := ⟨RX11, "orders", "(I)J"⟩
abbrev cX11_layPart : ByteArray := prog_13_method_59_code
def yX11_layPart : MethodName := ⟨RX11, "layPart", "(III)Z"⟩
abbrev cX11_upper : ByteArray := prog_13_method_60_code
def yX11_upper : MethodName := ⟨RX11, "upper", "(III)J"⟩
abbrev cX11_lower : ByteArray := prog_13_method_61_code
def yX11_lower : MethodName := ⟨RX11, "lower", "(III)J"⟩
abbrev cX11_change : ByteArray := prog_13_method_62_code
def yX11_change : MethodName := ⟨RX11, "change", "(III)I"⟩
abbrev cX11_well : ByteArray := prog_13_method_63_code
def yX11_well : MethodName := ⟨RX11, "well", "(II)I"⟩
abbrev cX11_image : ByteArray := prog_13_method_64_code
def yX11_image : MethodName := ⟨RX11, "image", "()I"⟩
abbrev cX11_restore : ByteArray := prog_13_method_65_code
def yX11_restore : MethodName := ⟨RX11, "restore", "()I"⟩
abbrev cX11_isSheet : ByteArray := prog_13_method_66_code
def yX11_isSheet : MethodName := ⟨RX11, "isSheet", "(I)Z"⟩
abbrev cX11_isLane : ByteArray := prog_13_method_67_code
def yX11_isLane : MethodName := ⟨RX11, "isLane", "(I)Z"⟩
abbrev cX11_finds : ByteArray := prog_13_method_68_code
def yX11_finds : MethodName := ⟨RX11, "finds", "(IIII)I"⟩
abbrev cX11_evens : ByteArray := prog_13_method_69_code
def yX11_evens : MethodName := ⟨RX11, "evens", "(III)I"⟩
abbrev cX11_beam : ByteArray := prog_13_method_70_code
def yX11_beam : MethodName := ⟨RX11, "beam", "(IIIIIII)I"⟩
abbrev cX11_layBook : ByteArray := prog_13_method_71_code
def yX11_layBook : MethodName := ⟨RX11, "layBook", "(IIIII)I"⟩
abbrev cX11_book : ByteArray := prog_13_method_72_code
def yX11_book : MethodName := ⟨RX11, "book", "(IIIIIIII)I"⟩
abbrev cX11_mills : ByteArray := prog_13_method_73_code
def yX11_mills : MethodName := ⟨RX11, "mills", "(IIII)I"⟩
abbrev cX11_cut : ByteArray := prog_13_method_74_code
def yX11_cut : MethodName := ⟨RX11, "cut", "(IJ)J"⟩
abbrev cX11_film : ByteArray := prog_13_method_75_code
def yX11_film : MethodName := ⟨RX11, "film", "(III)I"⟩
abbrev cX11_sheet : ByteArray := prog_13_method_76_code
def yX11_sheet : MethodName := ⟨RX11, "sheet", "(III)I"⟩
abbrev cX11_drop : ByteArray := prog_13_method_77_code
def yX11_drop : MethodName := ⟨RX11, "drop", "(I)I"⟩
abbrev cX11_item : ByteArray := prog_13_method_78_code
def yX11_item : MethodName := ⟨RX11, "item", "(IIIJ)I"⟩
abbrev cX11_copy : ByteArray := prog_13_method_79_code
def yX11_copy : MethodName := ⟨RX11, "copy", "(IIIII)I"⟩
def RJ11 : String := "java/lang/Character"
abbrev cJ11_isValidCodePoint_9a6ad : ByteArray := prog_14_method_11_code
def yJ11_isValidCodePoint_9a6ad : MethodName := ⟨RJ11, "isValidCodePoint", "(I)Z"⟩
abbrev cJ11_highSurrogate_5068e : ByteArray := prog_14_method_28_code
def yJ11_highSurrogate_5068e : MethodName := ⟨RJ11, "highSurrogate", "(I)C"⟩
abbrev cJ11_lowSurrogate_5068e : ByteArray := prog_14_method_29_code
def yJ11_lowSurrogate_5068e : MethodName := ⟨RJ11, "lowSurrogate", "(I)C"⟩
def RJ6 : String := "java/lang/Integer"
abbrev cJ6_bitCount_0f7a4 : ByteArray := prog_15_method_49_code
def yJ6_bitCount_0f7a4 : MethodName := ⟨RJ6, "bitCount", "(I)I"⟩
def RJ9 : String := "java/lang/Math"
abbrev cJ9_max_7cf53 : ByteArray := prog_16_method_65_code
def yJ9_max_7cf53 : MethodName := ⟨RJ9, "max", "(II)I"⟩
abbrev cJ9_min_7cf53 : ByteArray := prog_16_method_69_code
def yJ9_min_7cf53 : MethodName := ⟨RJ9, "min", "(II)I"⟩
def RJ0 : String := "java/lang/String"
abbrev cJ0_length_8abf5 : ByteArray := prog_17_method_54_code
def yJ0_length_8abf5 : MethodName := ⟨RJ0, "length", "()I"⟩
abbrev cJ0_indexOf_0f7a4 : ByteArray := prog_17_method_79_code
def yJ0_indexOf_0f7a4 : MethodName := ⟨RJ0, "indexOf", "(I)I"⟩
abbrev cJ0_indexOf_7cf53 : ByteArray := prog_17_method_80_code
def yJ0_indexOf_7cf53 : MethodName := ⟨RJ0, "indexOf", "(II)I"⟩
abbrev cJ0_coder_7d493 : ByteArray := prog_17_method_152_code
def yJ0_coder_7d493 : MethodName := ⟨RJ0, "coder", "()B"⟩
abbrev cJ0_isLatin1_aae02 : ByteArray := prog_17_method_154_code
def yJ0_isLatin1_aae02 : MethodName := ⟨RJ0, "isLatin1", "()Z"⟩
abbrev cJ0_checkBoundsBeginEnd_23922 : ByteArray := prog_17_method_158_code
def yJ0_checkBoundsBeginEnd_23922 : MethodName := ⟨RJ0, "checkBoundsBeginEnd", "(III)V"⟩
def RJ1 : String := "java/lang/StringLatin1"
abbrev cJ1_canEncode_9a6ad : ByteArray := prog_18_method_4_code
def yJ1_canEncode_9a6ad : MethodName := ⟨RJ1, "canEncode", "(I)Z"⟩
abbrev cJ1_indexOf_4cfef : ByteArray := prog_18_method_22_code
def yJ1_indexOf_4cfef : MethodName := ⟨RJ1, "indexOf", "([BIII)I"⟩
abbrev cJ1_indexOfChar_4cfef : ByteArray := prog_18_method_23_code
def yJ1_indexOfChar_4cfef : MethodName := ⟨RJ1, "indexOfChar", "([BIII)I"⟩
def RJ2 : String := "java/lang/StringUTF16"
abbrev cJ2_getChar_3b067 : ByteArray := prog_19_method_5_code
def yJ2_getChar_3b067 : MethodName := ⟨RJ2, "getChar", "([BI)C"⟩
abbrev cJ2_length_9d52b : ByteArray := prog_19_method_6_code
def yJ2_length_9d52b : MethodName := ⟨RJ2, "length", "([B)I"⟩
abbrev cJ2_indexOf_4cfef : ByteArray := prog_19_method_40_code
def yJ2_indexOf_4cfef : MethodName := ⟨RJ2, "indexOf", "([BIII)I"⟩
abbrev cJ2_indexOfChar_4cfef : ByteArray := prog_19_method_47_code
def yJ2_indexOfChar_4cfef : MethodName := ⟨RJ2, "indexOfChar", "([BIII)I"⟩
abbrev cJ2_indexOfCharUnsafe_4cfef : ByteArray := prog_19_method_48_code
def yJ2_indexOfCharUnsafe_4cfef : MethodName := ⟨RJ2, "indexOfCharUnsafe", "([BIII)I"⟩
abbrev cJ2_indexOfSupplementary_4cfef : ByteArray := prog_19_method_49_code
def yJ2_indexOfSupplementary_4cfef : MethodName := ⟨RJ2, "indexOfSupplementary", "([BIII)I"⟩
abbrev cJ2_checkBoundsBeginEnd_d044e : ByteArray := prog_19_method_93_code
def yJ2_checkBoundsBeginEnd_d044e : MethodName := ⟨RJ2, "checkBoundsBeginEnd", "(II[B)V"⟩
def RJ10 : String := "java/lang/System"
def RJ7 : String := "java/util/Arrays"
abbrev cJ7_fill_d0a16 : ByteArray := prog_21_method_101_code
def yJ7_fill_d0a16 : MethodName := ⟨RJ7, "fill", "([JJ)V"⟩
abbrev cJ7_fill_53178 : ByteArray := prog_21_method_103_code
def yJ7_fill_53178 : MethodName := ⟨RJ7, "fill", "([II)V"⟩
def RJ3 : String := "jdk/internal/util/Preconditions"
abbrev cJ3_checkFromToIndex_8c36e : ByteArray := prog_22_method_12_code
def yJ3_checkFromToIndex_8c36e : MethodName := ⟨RJ3, "checkFromToIndex", "(IIILjava/util/function/BiFunction;)I"⟩
def RL : String := "ParishPullLaw"
abbrev cL_law : ByteArray := code
def yL_law : MethodName := ⟨RL, "law", "([I)Z"⟩
end
section
/-- the words that pass from a method to its callees -/
def TB : List Cond := lw_tbl.filter goodWord
theorem tb {w : Cond} {i : Nat} (h : (lw_tbl[i]? == some w && goodWord w) = true) : w ∈ TB := by
  rw [Bool.and_eq_true] at h
  exact List.mem_filter.mpr ⟨List.mem_of_getElem? (beq_iff_eq.mp h.1), h.2⟩
theorem tb_good {w : Cond} (h : w ∈ TB) : goodWord w = true := (List.mem_filter.mp h).2
/-! THE WORLD OF BOTH OBJECTS: 81 cells at addresses ad 0 .. ad 80, their shapes fixed, their ints in I, their longs in L. -/
abbrev mI : Type := Nat → Nat → Int32
abbrev mL : Type := Nat → Nat → Int64
/-- a shape: an array (its items' type, 0 ints | 1 longs | b + 2 references to the cells b .., its length), or an object (its number in the list below, its fields: (0, cell) a reference that stays, (1, _) an int, (2, _) a long) -/
abbrev mShape : Type := (FieldType × Nat × Nat) ⊕ (Nat × List (Nat × Nat))
abbrev classesX : List vw_C := [(RX1, TX1, 4), (RX2, TX2, 6), (RX3, TX3, 7), (RX4, TX4, 5), (RX5, TX5, 14), (RX6, TX6, 4), (RX7, TX7, 13), (RX8, TX8, 4), (RX9, TX9, 7), (RX10, TX10, 10), (RX11, TX11, 18)]
/-- the cells of a Ground behind its object at b, and of a State -/
def shGround (b : Nat) : List mShape := [.inr (2, [(0, b + 1), (0, b + 2), (0, b + 3), (0, b + 4), (0, b + 5), (1, 0), (1, 0)]), .inl (.int, 0, 8), .inl (.int, 0, 32), .inl (.int, 0, 15), .inl (.int, 0, 15), .inl (.int, 0, 15)]
def shState (b : Nat) : List mShape := .inr (6, [(0, b + 1), (0, b + 7), (0, b + 8), (0, b + 9), (0, b + 10), (0, b + 11), (0, b + 12), (0, b + 13), (0, b + 14), (1, 0), (1, 0), (1, 0), (1, 0)]) :: (shGround (b + 1) ++ [.inl (.int, 0, 4), .inl (.int, 0, 4), .inl (.int, 0, 6), .inl (.int, 0, 6), .inl (.int, 0, 6), .inl (.int, 0, 6), .inl (.int, 0, 6), .inl (.int, 0, 6)])
def SH0 : List mShape := [.inr (9, [(0, 1), (0, 16), (0, 31), (0, 39), (0, 48), (0, 55), (0, 60), (0, 63), (0, 65), (1, 0)])] ++ (shState 1 ++ (shState 16 ++ ([.inr (7, [(0, 32), (0, 33), (1, 0), (1, 0)]), .inl (.char, 0, 120)] ++ (shGround 33 ++ [.inr (5, [(0, 40), (0, 45), (0, 46), (0, 47)]), .inl (.array .long, 43, 4), .inl (.long, 1, 24), .inl (.long, 1, 24), .inl (.long, 1, 24), .inl (.long, 1, 24), .inl (.int, 0, 4), .inl (.int, 0, 4), .inl (.boolean, 0, 4),
  .inr (4, [(0, 1), (0, 49), (0, 50), (0, 51), (0, 52), (0, 53), (0, 54), (1, 0), (1, 0), (1, 0), (1, 0), (1, 0), (1, 0), (1, 0)]), .inl (.int, 0, 64), .inl (.int, 0, 64), .inl (.int, 0, 8), .inl (.int, 0, 8), .inl (.int, 0, 8), .inl (.int, 0, 8),
  .inr (8, [(0, 1), (0, 48), (0, 56), (0, 57), (0, 58), (0, 59), (1, 0)]), .inl (.int, 0, 8), .inl (.int, 0, 8), .inl (.int, 0, 8), .inl (.int, 0, 8),
  .inr (1, [(0, 1), (0, 48), (0, 61), (0, 62), (1, 0), (1, 0)]), .inl (.int, 0, 81), .inl (.int, 0, 81),
  .inr (3, [(0, 1), (0, 48), (0, 64), (2, 0), (2, 0)]), .inl (.int, 0, 256),
  .inr (0, [(0, 66), (1, 0), (1, 0), (1, 0)]), .inl (.int, 0, 4),
  .inr (10, [(0, 68), (0, 69), (1, 0), (0, 70), (1, 0), (0, 71), (0, 72), (0, 73), (1, 0), (0, 74), (0, 75), (0, 76), (0, 77), (0, 78), (0, 79), (2, 0), (2, 0), (0, 80)]), .inl (.int, 0, 135), .inl (.int, 0, 135), .inl (.int, 0, 120), .inl (.int, 0, 4), .inl (.int, 0, 4), .inl (.long, 1, 96), .inl (.int, 0, 135), .inl (.int, 0, 64), .inl (.int, 0, 9), .inl (.int, 0, 9), .inl (.int, 0, 100), .inl (.int, 0, 100), .inl (.int, 0, 4)]))))
theorem SH0_len : SH0.length = 81 := by decide +kernel
/-- the shape of a cell by its number -/
def sh (k : Nat) : Option mShape := SH0[k]?
/-- an address by its number -/
def rn (ad : Nat → Nat) (v : Value) : Value := match v with
  | .ref k => .ref (ad k)
  | w => w
theorem rn_cat (ad : Nat → Nat) (v : Value) : (rn ad v).category = v.category := by cases v <;> rfl
def fldOf (ad : Nat → Nat) (Ik : Nat → Int32) (Lk : Nat → Int64) (j : Nat) (f : Nat × Nat) : Value := match f with
  | (0, r) => .ref (ad r)
  | (1, _) => .int (Ik j)
  | (_, _) => .long (Lk j)
def cellOf (ad : Nat → Nat) (ca : FieldType → ClassId) (Ik : Nat → Int32) (Lk : Nat → Int64) (s : mShape) : va_E := match s with
  | .inl (ty, 0, n) => .inl (ca ty, n, .inl Ik)
  | .inl (ty, 1, n) => .inl (ca ty, n, .inr (.inl Lk))
  | .inl (ty, b + 2, n) => .inl (ca ty, n, .inr (.inr (.inr (.inr (fun i => if i < n then some (ad (b + i)) else none)))))
  | .inr (ci, fs) => .inr (ci, fs.mapIdx (fldOf ad Ik Lk))
def wld (ad : Nat → Nat) (ca : FieldType → ClassId) (I : mI) (L : mL) : va_W := SH0.mapIdx (fun k s => (ad k, cellOf ad ca (I k) (L k) s))
theorem wld_get {ad : Nat → Nat} {ca : FieldType → ClassId} {I : mI} {L : mL} {k : Nat} {s : mShape} (h : sh k = some s) : (wld ad ca I L)[k]? = some (ad k, cellOf ad ca (I k) (L k) s) := by
  unfold sh at h
  simp [wld, List.getElem?_mapIdx, h]
theorem sh_lt {k : Nat} {s : mShape} (h : sh k = some s) : k < 81 := by
  unfold sh at h
  have := (List.getElem?_eq_some_iff.mp h).1
  rw [SH0_len] at this
  exact this
theorem wld_at {ad : Nat → Nat} {ca : FieldType → ClassId} {I : mI} {L : mL} {k : Nat} {q : Nat × va_E} (h : (wld ad ca I L)[k]? = some q) : ∃ s, sh k = some s ∧ q = (ad k, cellOf ad ca (I k) (L k) s) := by
  unfold wld at h
  rw [List.getElem?_mapIdx] at h
  unfold sh
  cases e : SH0[k]? with
  | none => rw [e] at h; cases h
  | some s => rw [e] at h; exact ⟨s, rfl, (Option.some.inj h).symm⟩
/-- a row of ints, of longs put -/
def pI (I : mI) (k : Nat) (f : Nat → Int32) : mI := fun a => if a = k then f else I a
def pL (L : mL) (k : Nat) (f : Nat → Int64) : mL := fun a => if a = k then f else L a
def uI (I : mI) (k j : Nat) (x : Int32) : mI := pI I k (upd (I k) j x)
def uL (L : mL) (k j : Nat) (x : Int64) : mL := pL L k (vp_updL (L k) j x)
theorem wld_setI {ad : Nat → Nat} {ca : FieldType → ClassId} {I : mI} {L : mL} {k : Nat} {s : mShape} {e : va_E} {f : Nat → Int32} (h : sh k = some s) (he : e = cellOf ad ca f (L k) s) : (wld ad ca I L).set k (ad k, e) = wld ad ca (pI I k f) L := by
  apply List.ext_getElem?
  intro i
  unfold sh at h
  rw [List.getElem?_set]
  unfold wld
  by_cases hi : k = i
  · subst hi
    obtain ⟨hl, hs⟩ := List.getElem?_eq_some_iff.mp h
    simp [List.getElem?_mapIdx, hl, he, pI, hs]
  · rw [if_neg hi]
    simp only [List.getElem?_mapIdx, pI]
    rw [if_neg (fun q => hi q.symm)]
theorem wld_setL {ad : Nat → Nat} {ca : FieldType → ClassId} {I : mI} {L : mL} {k : Nat} {s : mShape} {e : va_E} {f : Nat → Int64} (h : sh k = some s) (he : e = cellOf ad ca (I k) f s) : (wld ad ca I L).set k (ad k, e) = wld ad ca I (pL L k f) := by
  apply List.ext_getElem?
  intro i
  unfold sh at h
  rw [List.getElem?_set]
  unfold wld
  by_cases hi : k = i
  · subst hi
    obtain ⟨hl, hs⟩ := List.getElem?_eq_some_iff.mp h
    simp [List.getElem?_mapIdx, hl, he, pL, hs]
  · rw [if_neg hi]
    simp only [List.getElem?_mapIdx, pL]
    rw [if_neg (fun q => hi q.symm)]
/-- the cells that a method may change -/
def AA (ad : Nat → Nat) : Nat → Prop := fun q => ∃ k, k < 81 ∧ q = ad k
theorem wld_D {ad : Nat → Nat} {ca : FieldType → ClassId} {I : mI} {L : mL} (hi : ∀ i j, i < 81 → j < 81 → ad i = ad j → i = j) : va_D (AA ad) (wld ad ca I L) := by
  refine ⟨fun i j p q hp hq hpq => ?_, fun k q hq => ?_⟩
  · obtain ⟨s, hs, rfl⟩ := wld_at hp
    obtain ⟨s', hs', rfl⟩ := wld_at hq
    exact hi i j (sh_lt hs) (sh_lt hs') hpq
  · obtain ⟨s, hs, rfl⟩ := wld_at hq
    exact ⟨k, sh_lt hs, rfl⟩
abbrev tyl (ca : FieldType → ClassId) : List (ClassId × FieldType) := [(ca .int, .int), (ca .long, .long), (ca .char, .char), (ca .boolean, .boolean), (ca (.array .long), .array .long)]
def rmm (d : Nat) : Room := { frames := d, cells := 0, slots := 0, locals := 36 * d }
/-- a method: its own class's name, its code, how many locals, what it answers -/
abbrev mM : Type := String × ByteArray × Nat × Option FieldType
/-- the constants outside the world: ORDERS at ad 81; the text "lhsa" at ad 82, its bytes at ad 83 -/
def ordT : Nat → Value := fun j => .long (([1, 1, 2, 6, 24, 120, 720, 5040, 40320] : List Int64).getD j 0)
def Kons (ad : Nat → Nat) (s : State) (H : Heap) : Prop := va_Z RX4 "ORDERS" "[J" (.ref (ad 81)) (AA ad) s H ∧ va_T .long (ad 81) 9 ordT (AA ad) s H
theorem Kons.moved {ad : Nat → Nat} {u U : State} {H : Heap} (hvm : u.vm.Alike U.vm) (h : Kons ad u H) : Kons ad U H := ⟨h.1.moved hvm, h.2.moved hvm⟩
theorem Kons.kept {ad : Nat → Nat} {s : State} {H H1 : Heap} (h : Kons ad s H) (hq : ∀ a : Nat, a < H.size → ¬ AA ad a → H1[a]? = H[a]?) : Kons ad s H1 := ⟨h.1.kept hq, h.2.kept hq⟩
/-- what a method's walk stands on -/
def Cx (M : mM) (p : Program) (s : State) (m : MethodId) (args : Array Value) (meth : Method) (c : Code) (D : va_G) (ad : Nat → Nat) (ca : FieldType → ClassId) : Prop :=
  p.tables.exec = Jvm.exec ∧ c.code = M.2.1 ∧ meth.sig.returnType = M.2.2.2 ∧ c.maxLocals = M.2.2.1 ∧ s.vm.findClass M.1 = some m.cls ∧ meth.locks = false ∧ (∀ w ∈ TB, w.before args s = true) ∧ va_K D classesX (tyl ca) s ∧ (∀ i j, i < 81 → j < 81 → ad i = ad j → i = j) ∧ Kons ad s s.heap
/-- the locals: what is known of each slot -/
def LH (ad : Nat → Nat) (ls : Array Slot) (nL : Nat) (lc : List (Option Value)) : Prop := ls.size = nL ∧ lv_wf ls ∧ ∀ (i : Nat) (v : Value), lc[i]? = some (some v) → ls[i]? = some (.val (rn ad v))
/-- a method's end -/
def QQ (D : va_G) (ad : Nat → Nat) (ca : FieldType → ClassId) (Q : Option Value → mI → mL → Prop) : Array Value → State → Outcome → State → Prop := fun _ st oc t =>
  (∃ (v : Option Value) (I : mI) (L : mL), oc = .returned (v.map (rn ad)) ∧ Q v I L ∧ va_P D classesX (wld ad ca I L) t.heap) ∧ va_F (AA ad) st t
/-- THE JUDGEMENT: method M, with room for d calls one in another, at pc with the locals lc, the stack st, the ints I and longs L of the world, ends in an answer and a world with Q -/
def RR (M : mM) (d : Nat) (pc : Nat) (lc : List (Option Value)) (st : List Value) (I : mI) (L : mL) (Q : Option Value → mI → mL → Prop) : Prop :=
  ∀ (p : Program) (l : Launch) (e : Env) (s : State) (m : MethodId) (args : Array Value) (below : List Frame) (meth : Method) (c : Code) (D : va_G) (ad : Nat → Nat) (ca : FieldType → ClassId) (H : Heap) (locs : List Loc) (ls : Array Slot),
    Cx M p s m args meth c D ad ca → va_P D classesX (wld ad ca I L) H → va_S (AA ad) s.heap H locs → LH ad ls M.2.2.1 lc →
    W p l e (rmm d) s m args below meth c H locs 0 0 (MQ below (QQ D ad ca Q) args s 0 0 (AA ad)) (F0 m pc ls (st.map (rn ad)))
/-- the locals as the kit's rows take them -/
def asl (ad : Nat → Nat) (lc : List (Option Value)) : List (Nat × Value) := (List.range lc.length).filterMap (fun i => match lc[i]? with
  | some (some v) => some (i, rn ad v)
  | _ => none)
theorem asl_mem {ad : Nat → Nat} {lc : List (Option Value)} {i : Nat} {w : Value} : (i, w) ∈ asl ad lc ↔ ∃ v, lc[i]? = some (some v) ∧ w = rn ad v := by
  unfold asl
  rw [List.mem_filterMap]
  constructor
  · rintro ⟨a, -, h⟩
    split at h
    · rename_i v hv
      cases h
      exact ⟨v, hv, rfl⟩
    · cases h
  · rintro ⟨v, hv, rfl⟩
    refine ⟨i, List.mem_range.mpr (List.getElem?_eq_some_iff.mp hv).1, ?_⟩
    rw [hv]
theorem LH.has {ad : Nat → Nat} {ls : Array Slot} {nL : Nat} {lc : List (Option Value)} (h : LH ad ls nL lc) : lv_has ls nL (asl ad lc) := by
  refine ⟨h.1, h.2.1, fun q hq => ?_⟩
  obtain ⟨v, hv, e⟩ := asl_mem.mp (show (q.1, q.2) ∈ asl ad lc from hq)
  rw [e]
  exact h.2.2 _ _ hv
/-- slot i may be stored: no long begins just ahead of it -/
def okS (lc : List (Option Value)) (i : Nat) : Bool := match i with
  | 0 => true
  | k + 1 => match lc[k]? with
    | some (some v) => v.category == 1
    | _ => true
theorem okS_spec {lc : List (Option Value)} {i j : Nat} {v : Value} (h : okS lc i = true) (hj : lc[j]? = some (some v)) (e : j + 1 = i) : v.category = 1 := by
  subst e
  simp only [okS, hj] at h
  exact beq_iff_eq.mp h
theorem LH.store1 {ad : Nat → Nat} {ls : Array Slot} {nL i : Nat} {lc : List (Option Value)} {v : Value} (hs : okS lc i = true) (h : lv_has ls nL ((i, rn ad v) :: (asl ad lc).filter (fun q => !(q.1 == i) && !(q.1 + 1 == i && q.2.category == 2)))) : LH ad ls nL (lc.set i (some v)) := by
  refine ⟨h.1, h.2.1, fun j w hj => ?_⟩
  by_cases e : i = j
  · subst e
    rw [List.getElem?_set] at hj
    rw [if_pos rfl] at hj
    split at hj
    · cases hj
      exact h.2.2 (i, rn ad v) List.mem_cons_self
    · cases hj
  · rw [List.getElem?_set, if_neg e] at hj
    refine h.2.2 (j, rn ad w) (List.mem_cons_of_mem _ (List.mem_filter.mpr ⟨asl_mem.mpr ⟨w, hj, rfl⟩, ?_⟩))
    have e2 : ¬ j = i := fun q => e q.symm
    by_cases e3 : j + 1 = i
    · simp [e2, e3, rn_cat, okS_spec hs hj e3]
    · simp [e2, e3]
theorem LH.store2 {ad : Nat → Nat} {ls : Array Slot} {nL i : Nat} {lc : List (Option Value)} {v : Value} (hs : okS lc i = true) (h : lv_has ls nL ((i, rn ad v) :: (asl ad lc).filter (fun q => !(q.1 == i) && (!(q.1 == i + 1) && !(q.1 + 1 == i && q.2.category == 2))))) : LH ad ls nL ((lc.set i (some v)).set (i + 1) none) := by
  refine ⟨h.1, h.2.1, fun j w hj => ?_⟩
  by_cases e0 : i + 1 = j
  · subst e0
    rw [List.getElem?_set] at hj
    rw [if_pos rfl] at hj
    split at hj
    · cases hj
    · cases hj
  rw [List.getElem?_set, if_neg e0] at hj
  by_cases e : i = j
  · subst e
    rw [List.getElem?_set] at hj
    rw [if_pos rfl] at hj
    split at hj
    · cases hj
      exact h.2.2 (i, rn ad v) List.mem_cons_self
    · cases hj
  · rw [List.getElem?_set, if_neg e] at hj
    refine h.2.2 (j, rn ad w) (List.mem_cons_of_mem _ (List.mem_filter.mpr ⟨asl_mem.mpr ⟨w, hj, rfl⟩, ?_⟩))
    have e2 : ¬ j = i := fun q => e q.symm
    have e4 : ¬ j = i + 1 := fun q => e0 q.symm
    by_cases e3 : j + 1 = i
    · simp [e2, e3, e4, rn_cat, okS_spec hs hj e3]
    · simp [e2, e3, e4]
end
section
/-! ROWS OF THE JUDGEMENT: an instruction each -/
theorem wld_setA {ad : Nat → Nat} {ca : FieldType → ClassId} {I : mI} {L : mL} {k n : Nat} {ty : FieldType} {f : Nat → Int32} (h : sh k = some (.inl (ty, 0, n))) : (wld ad ca I L).set k (ad k, .inl (ca ty, n, .inl f)) = wld ad ca (pI I k f) L := wld_setI h rfl
theorem wld_setB {ad : Nat → Nat} {ca : FieldType → ClassId} {I : mI} {L : mL} {k n : Nat} {ty : FieldType} {f : Nat → Int64} (h : sh k = some (.inl (ty, 1, n))) : (wld ad ca I L).set k (ad k, .inl (ca ty, n, .inr (.inl f))) = wld ad ca I (pL L k f) := wld_setL h rfl
theorem wld_setF {ad : Nat → Nat} {ca : FieldType → ClassId} {I : mI} {L : mL} {k ci : Nat} {fs : List (Nat × Nat)} {f : Nat → Int32} (h : sh k = some (.inr (ci, fs))) : (wld ad ca I L).set k (ad k, .inr (ci, fs.mapIdx (fldOf ad f (L k)))) = wld ad ca (pI I k f) L := wld_setI h rfl
theorem wld_setG {ad : Nat → Nat} {ca : FieldType → ClassId} {I : mI} {L : mL} {k ci : Nat} {fs : List (Nat × Nat)} {f : Nat → Int64} (h : sh k = some (.inr (ci, fs))) : (wld ad ca I L).set k (ad k, .inr (ci, fs.mapIdx (fldOf ad (I k) f))) = wld ad ca I (pL L k f) := wld_setL h rfl
section RRows
variable {own : String} {cc : ByteArray} {nL d pc : Nat} {rt : Option FieldType} {lc : List (Option Value)} {st : List Value} {I : mI} {L : mL} {Q : Option Value → mI → mL → Prop}
theorem r_iconst {n : Int} {v : Int32} (hd : decode cc pc = .ok (.iconst n, 1)) (hv : Int32.ofInt n = v) (k : RR (own, cc, nL, rt) d (pc + 1) lc (.int v :: st) I L Q) : RR (own, cc, nL, rt) d pc lc st I L Q := by
  intro p l e s m args below meth c D ad ca H locs ls hC hP hS hl
  exact lv_iconst hC.1 hC.2.1 hd hv (k p l e s m args below meth c D ad ca H locs ls hC hP hS hl)
theorem r_bipush {n : Int} {v : Int32} (hd : decode cc pc = .ok (.bipush n, 2)) (hv : (Int8.ofInt n).toInt32 = v) (k : RR (own, cc, nL, rt) d (pc + 2) lc (.int v :: st) I L Q) : RR (own, cc, nL, rt) d pc lc st I L Q := by
  intro p l e s m args below meth c D ad ca H locs ls hC hP hS hl
  exact lv_bipush hC.1 hC.2.1 hd hv (k p l e s m args below meth c D ad ca H locs ls hC hP hS hl)
theorem r_sipush {n : Int} {v : Int32} (hd : decode cc pc = .ok (.sipush n, 3)) (hv : (Int16.ofInt n).toInt32 = v) (k : RR (own, cc, nL, rt) d (pc + 3) lc (.int v :: st) I L Q) : RR (own, cc, nL, rt) d pc lc st I L Q := by
  intro p l e s m args below meth c D ad ca H locs ls hC hP hS hl
  exact lv_sipush hC.1 hC.2.1 hd hv (k p l e s m args below meth c D ad ca H locs ls hC hP hS hl)
theorem r_lconst {n : Fin 2} {v : Int64} (hd : decode cc pc = .ok (.lconst n, 1)) (hv : Int64.ofNat (n : Nat) = v) (k : RR (own, cc, nL, rt) d (pc + 1) lc (.long v :: st) I L Q) : RR (own, cc, nL, rt) d pc lc st I L Q := by
  intro p l e s m args below meth c D ad ca H locs ls hC hP hS hl
  exact lv_lconst hC.1 hC.2.1 hd hv (k p l e s m args below meth c D ad ca H locs ls hC hP hS hl)
theorem r_ldc {index : Nat} {v : Int32} (hw : Cond.constant own index v ∈ TB) (hd : decode cc pc = .ok (.ldc index, 2)) (k : RR (own, cc, nL, rt) d (pc + 2) lc (.int v :: st) I L Q) : RR (own, cc, nL, rt) d pc lc st I L Q := by
  intro p l e s m args below meth c D ad ca H locs ls hC hP hS hl
  exact lv_ldc hC.1 hC.2.1 hC.2.2.2.2.1 (hC.2.2.2.2.2.2.1 _ hw) hd (k p l e s m args below meth c D ad ca H locs ls hC hP hS hl)
theorem r_ldcw {index : Nat} {v : Int32} (hw : Cond.constant own index v ∈ TB) (hd : decode cc pc = .ok (.ldc_w index, 3)) (k : RR (own, cc, nL, rt) d (pc + 3) lc (.int v :: st) I L Q) : RR (own, cc, nL, rt) d pc lc st I L Q := by
  intro p l e s m args below meth c D ad ca H locs ls hC hP hS hl
  exact lv_ldcw hC.1 hC.2.1 hC.2.2.2.2.1 (hC.2.2.2.2.2.2.1 _ hw) hd (k p l e s m args below meth c D ad ca H locs ls hC hP hS hl)
theorem r_ldc2 {index : Nat} {v : Int64} (hw : Cond.constantLong own index v ∈ TB) (hd : decode cc pc = .ok (.ldc2_w index, 3)) (k : RR (own, cc, nL, rt) d (pc + 3) lc (.long v :: st) I L Q) : RR (own, cc, nL, rt) d pc lc st I L Q := by
  intro p l e s m args below meth c D ad ca H locs ls hC hP hS hl
  exact lv_ldc2 hC.1 hC.2.1 hC.2.2.2.2.1 (hC.2.2.2.2.2.2.1 _ hw) hd (k p l e s m args below meth c D ad ca H locs ls hC hP hS hl)
theorem r_iload_n {q : Fin 4} {x : Int32} (hd : decode cc pc = .ok (.iload_n q, 1)) (hx : lc[(q : Nat)]? = some (some (.int x))) (k : RR (own, cc, nL, rt) d (pc + 1) lc (.int x :: st) I L Q) : RR (own, cc, nL, rt) d pc lc st I L Q := by
  intro p l e s m args below meth c D ad ca H locs ls hC hP hS hl
  exact lv_iload_n hC.1 hC.2.1 hd rfl (hl.2.2 _ _ hx) (k p l e s m args below meth c D ad ca H locs ls hC hP hS hl)
theorem r_iload {q : Nat} {x : Int32} (hd : decode cc pc = .ok (.iload q, 2)) (hx : lc[q]? = some (some (.int x))) (k : RR (own, cc, nL, rt) d (pc + 2) lc (.int x :: st) I L Q) : RR (own, cc, nL, rt) d pc lc st I L Q := by
  intro p l e s m args below meth c D ad ca H locs ls hC hP hS hl
  exact lv_iload hC.1 hC.2.1 hd (hl.2.2 _ _ hx) (k p l e s m args below meth c D ad ca H locs ls hC hP hS hl)
theorem r_lload_n {q : Fin 4} {x : Int64} (hd : decode cc pc = .ok (.lload_n q, 1)) (hx : lc[(q : Nat)]? = some (some (.long x))) (k : RR (own, cc, nL, rt) d (pc + 1) lc (.long x :: st) I L Q) : RR (own, cc, nL, rt) d pc lc st I L Q := by
  intro p l e s m args below meth c D ad ca H locs ls hC hP hS hl
  exact lv_lload_n hC.1 hC.2.1 hd rfl (hl.2.2 _ _ hx) (k p l e s m args below meth c D ad ca H locs ls hC hP hS hl)
theorem r_lload {q : Nat} {x : Int64} (hd : decode cc pc = .ok (.lload q, 2)) (hx : lc[q]? = some (some (.long x))) (k : RR (own, cc, nL, rt) d (pc + 2) lc (.long x :: st) I L Q) : RR (own, cc, nL, rt) d pc lc st I L Q := by
  intro p l e s m args below meth c D ad ca H locs ls hC hP hS hl
  exact lv_lload hC.1 hC.2.1 hd (hl.2.2 _ _ hx) (k p l e s m args below meth c D ad ca H locs ls hC hP hS hl)
theorem r_aload_n {q : Fin 4} {x : Nat} (hd : decode cc pc = .ok (.aload_n q, 1)) (hx : lc[(q : Nat)]? = some (some (.ref x))) (k : RR (own, cc, nL, rt) d (pc + 1) lc (.ref x :: st) I L Q) : RR (own, cc, nL, rt) d pc lc st I L Q := by
  intro p l e s m args below meth c D ad ca H locs ls hC hP hS hl
  exact lv_aload_n hC.1 hC.2.1 hd rfl (hl.2.2 _ _ hx) (k p l e s m args below meth c D ad ca H locs ls hC hP hS hl)
theorem r_aload {q : Nat} {x : Nat} (hd : decode cc pc = .ok (.aload q, 2)) (hx : lc[q]? = some (some (.ref x))) (k : RR (own, cc, nL, rt) d (pc + 2) lc (.ref x :: st) I L Q) : RR (own, cc, nL, rt) d pc lc st I L Q := by
  intro p l e s m args below meth c D ad ca H locs ls hC hP hS hl
  exact lv_aload hC.1 hC.2.1 hd (hl.2.2 _ _ hx) (k p l e s m args below meth c D ad ca H locs ls hC hP hS hl)
theorem r_istore_n {q : Fin 4} {x : Int32} (hd : decode cc pc = .ok (.istore_n q, 1)) (hn : (q : Nat) < nL) (ho : okS lc q = true) (k : RR (own, cc, nL, rt) d (pc + 1) (lc.set q (some (.int x))) st I L Q) : RR (own, cc, nL, rt) d pc lc (.int x :: st) I L Q := by
  intro p l e s m args below meth c D ad ca H locs ls hC hP hS hl
  exact lv_istore_n hC.1 hC.2.1 hd rfl hl.has hn rfl (fun ls hl => k p l e s m args below meth c D ad ca H locs ls hC hP hS (LH.store1 (v := .int x) ho hl))
theorem r_istore {q : Nat} {x : Int32} (hd : decode cc pc = .ok (.istore q, 2)) (hn : q < nL) (ho : okS lc q = true) (k : RR (own, cc, nL, rt) d (pc + 2) (lc.set q (some (.int x))) st I L Q) : RR (own, cc, nL, rt) d pc lc (.int x :: st) I L Q := by
  intro p l e s m args below meth c D ad ca H locs ls hC hP hS hl
  exact lv_istore hC.1 hC.2.1 hd hl.has hn rfl (fun ls hl => k p l e s m args below meth c D ad ca H locs ls hC hP hS (LH.store1 (v := .int x) ho hl))
theorem r_astore_n {q : Fin 4} {x : Nat} (hd : decode cc pc = .ok (.astore_n q, 1)) (hn : (q : Nat) < nL) (ho : okS lc q = true) (k : RR (own, cc, nL, rt) d (pc + 1) (lc.set q (some (.ref x))) st I L Q) : RR (own, cc, nL, rt) d pc lc (.ref x :: st) I L Q := by
  intro p l e s m args below meth c D ad ca H locs ls hC hP hS hl
  exact lv_astore_n hC.1 hC.2.1 hd rfl hl.has hn rfl (fun ls hl => k p l e s m args below meth c D ad ca H locs ls hC hP hS (LH.store1 (v := .ref x) ho hl))
theorem r_astore {q : Nat} {x : Nat} (hd : decode cc pc = .ok (.astore q, 2)) (hn : q < nL) (ho : okS lc q = true) (k : RR (own, cc, nL, rt) d (pc + 2) (lc.set q (some (.ref x))) st I L Q) : RR (own, cc, nL, rt) d pc lc (.ref x :: st) I L Q := by
  intro p l e s m args below meth c D ad ca H locs ls hC hP hS hl
  exact lv_astore hC.1 hC.2.1 hd hl.has hn rfl (fun ls hl => k p l e s m args below meth c D ad ca H locs ls hC hP hS (LH.store1 (v := .ref x) ho hl))
theorem r_lstore_n {q : Fin 4} {x : Int64} (hd : decode cc pc = .ok (.lstore_n q, 1)) (hn : (q : Nat) + 1 < nL) (ho : okS lc q = true) (k : RR (own, cc, nL, rt) d (pc + 1) ((lc.set q (some (.long x))).set (q + 1) none) st I L Q) : RR (own, cc, nL, rt) d pc lc (.long x :: st) I L Q := by
  intro p l e s m args below meth c D ad ca H locs ls hC hP hS hl
  exact lv_lstore_n hC.1 hC.2.1 hd rfl hl.has hn rfl (fun ls hl => k p l e s m args below meth c D ad ca H locs ls hC hP hS (LH.store2 (v := .long x) ho hl))
theorem r_lstore {q : Nat} {x : Int64} (hd : decode cc pc = .ok (.lstore q, 2)) (hn : q + 1 < nL) (ho : okS lc q = true) (k : RR (own, cc, nL, rt) d (pc + 2) ((lc.set q (some (.long x))).set (q + 1) none) st I L Q) : RR (own, cc, nL, rt) d pc lc (.long x :: st) I L Q := by
  intro p l e s m args below meth c D ad ca H locs ls hC hP hS hl
  exact lv_lstore hC.1 hC.2.1 hd hl.has hn rfl (fun ls hl => k p l e s m args below meth c D ad ca H locs ls hC hP hS (LH.store2 (v := .long x) ho hl))
theorem r_iinc {q : Nat} {n : Int} {x v : Int32} (hd : decode cc pc = .ok (.iinc q n, 3)) (hx : lc[q]? = some (some (.int x))) (hv : x + Int32.ofInt n = v) (hn : q < nL) (ho : okS lc q = true) (k : RR (own, cc, nL, rt) d (pc + 3) (lc.set q (some (.int v))) st I L Q) : RR (own, cc, nL, rt) d pc lc st I L Q := by
  intro p l e s m args below meth c D ad ca H locs ls hC hP hS hl
  obtain ⟨i, hi⟩ := List.getElem?_of_mem (asl_mem.mpr ⟨_, hx, rfl⟩ : (q, rn ad (.int x)) ∈ asl ad lc)
  exact lv_iinc hC.1 hC.2.1 hd hl.has hi hv hn rfl (fun ls hl => k p l e s m args below meth c D ad ca H locs ls hC hP hS (LH.store1 (v := .int v) ho hl))
theorem r_iadd {x y : Int32} (hd : decode cc pc = .ok (.iadd, 1)) (k : RR (own, cc, nL, rt) d (pc + 1) lc (.int (x + y) :: st) I L Q) : RR (own, cc, nL, rt) d pc lc (.int y :: .int x :: st) I L Q := by
  intro p l e s m args below meth c D ad ca H locs ls hC hP hS hl
  exact lv_iadd hC.1 hC.2.1 hd (k p l e s m args below meth c D ad ca H locs ls hC hP hS hl)
theorem r_isub {x y : Int32} (hd : decode cc pc = .ok (.isub, 1)) (k : RR (own, cc, nL, rt) d (pc + 1) lc (.int (x - y) :: st) I L Q) : RR (own, cc, nL, rt) d pc lc (.int y :: .int x :: st) I L Q := by
  intro p l e s m args below meth c D ad ca H locs ls hC hP hS hl
  exact lv_isub hC.1 hC.2.1 hd (k p l e s m args below meth c D ad ca H locs ls hC hP hS hl)
theorem r_imul {x y : Int32} (hd : decode cc pc = .ok (.imul, 1)) (k : RR (own, cc, nL, rt) d (pc + 1) lc (.int (x * y) :: st) I L Q) : RR (own, cc, nL, rt) d pc lc (.int y :: .int x :: st) I L Q := by
  intro p l e s m args below meth c D ad ca H locs ls hC hP hS hl
  exact lv_imul hC.1 hC.2.1 hd (k p l e s m args below meth c D ad ca H locs ls hC hP hS hl)
theorem r_iand {x y : Int32} (hd : decode cc pc = .ok (.iand, 1)) (k : RR (own, cc, nL, rt) d (pc + 1) lc (.int (x &&& y) :: st) I L Q) : RR (own, cc, nL, rt) d pc lc (.int y :: .int x :: st) I L Q := by
  intro p l e s m args below meth c D ad ca H locs ls hC hP hS hl
  exact lv_iand hC.1 hC.2.1 hd (k p l e s m args below meth c D ad ca H locs ls hC hP hS hl)
theorem r_ior {x y : Int32} (hd : decode cc pc = .ok (.ior, 1)) (k : RR (own, cc, nL, rt) d (pc + 1) lc (.int (x ||| y) :: st) I L Q) : RR (own, cc, nL, rt) d pc lc (.int y :: .int x :: st) I L Q := by
  intro p l e s m args below meth c D ad ca H locs ls hC hP hS hl
  exact lv_ior hC.1 hC.2.1 hd (k p l e s m args below meth c D ad ca H locs ls hC hP hS hl)
theorem r_ixor {x y : Int32} (hd : decode cc pc = .ok (.ixor, 1)) (k : RR (own, cc, nL, rt) d (pc + 1) lc (.int (x ^^^ y) :: st) I L Q) : RR (own, cc, nL, rt) d pc lc (.int y :: .int x :: st) I L Q := by
  intro p l e s m args below meth c D ad ca H locs ls hC hP hS hl
  exact lv_ixor hC.1 hC.2.1 hd (k p l e s m args below meth c D ad ca H locs ls hC hP hS hl)
theorem r_ishl {x y : Int32} (hd : decode cc pc = .ok (.ishl, 1)) (k : RR (own, cc, nL, rt) d (pc + 1) lc (.int (x <<< (y &&& 31)) :: st) I L Q) : RR (own, cc, nL, rt) d pc lc (.int y :: .int x :: st) I L Q := by
  intro p l e s m args below meth c D ad ca H locs ls hC hP hS hl
  exact lv_ishl hC.1 hC.2.1 hd (k p l e s m args below meth c D ad ca H locs ls hC hP hS hl)
theorem r_ishr {x y : Int32} (hd : decode cc pc = .ok (.ishr, 1)) (k : RR (own, cc, nL, rt) d (pc + 1) lc (.int (x >>> (y &&& 31)) :: st) I L Q) : RR (own, cc, nL, rt) d pc lc (.int y :: .int x :: st) I L Q := by
  intro p l e s m args below meth c D ad ca H locs ls hC hP hS hl
  exact lv_ishr hC.1 hC.2.1 hd (k p l e s m args below meth c D ad ca H locs ls hC hP hS hl)
theorem r_idiv {x y : Int32} (hd : decode cc pc = .ok (.idiv, 1)) (hne : ¬ y = 0) (k : RR (own, cc, nL, rt) d (pc + 1) lc (.int (x / y) :: st) I L Q) : RR (own, cc, nL, rt) d pc lc (.int y :: .int x :: st) I L Q := by
  intro p l e s m args below meth c D ad ca H locs ls hC hP hS hl
  exact lv_idiv hC.1 hC.2.1 hd hne (k p l e s m args below meth c D ad ca H locs ls hC hP hS hl)
theorem r_irem {x y : Int32} (hd : decode cc pc = .ok (.irem, 1)) (hne : ¬ y = 0) (k : RR (own, cc, nL, rt) d (pc + 1) lc (.int (x - x / y * y) :: st) I L Q) : RR (own, cc, nL, rt) d pc lc (.int y :: .int x :: st) I L Q := by
  intro p l e s m args below meth c D ad ca H locs ls hC hP hS hl
  exact lv_irem hC.1 hC.2.1 hd hne (k p l e s m args below meth c D ad ca H locs ls hC hP hS hl)
theorem r_iushr {x y : Int32} (hd : decode cc pc = .ok (.iushr, 1)) (k : RR (own, cc, nL, rt) d (pc + 1) lc (.int ((x.toUInt32 >>> (y.toUInt32 &&& Int32.toUInt32 31)).toInt32) :: st) I L Q) : RR (own, cc, nL, rt) d pc lc (.int y :: .int x :: st) I L Q := by
  intro p l e s m args below meth c D ad ca H locs ls hC hP hS hl
  exact lv_iushr hC.1 hC.2.1 hd rfl (k p l e s m args below meth c D ad ca H locs ls hC hP hS hl)
theorem r_ladd {x y : Int64} (hd : decode cc pc = .ok (.ladd, 1)) (k : RR (own, cc, nL, rt) d (pc + 1) lc (.long (x + y) :: st) I L Q) : RR (own, cc, nL, rt) d pc lc (.long y :: .long x :: st) I L Q := by
  intro p l e s m args below meth c D ad ca H locs ls hC hP hS hl
  exact lv_ladd hC.1 hC.2.1 hd (k p l e s m args below meth c D ad ca H locs ls hC hP hS hl)
theorem r_lsub {x y : Int64} (hd : decode cc pc = .ok (.lsub, 1)) (k : RR (own, cc, nL, rt) d (pc + 1) lc (.long (x - y) :: st) I L Q) : RR (own, cc, nL, rt) d pc lc (.long y :: .long x :: st) I L Q := by
  intro p l e s m args below meth c D ad ca H locs ls hC hP hS hl
  exact lv_lsub hC.1 hC.2.1 hd (k p l e s m args below meth c D ad ca H locs ls hC hP hS hl)
theorem r_lmul {x y : Int64} (hd : decode cc pc = .ok (.lmul, 1)) (k : RR (own, cc, nL, rt) d (pc + 1) lc (.long (x * y) :: st) I L Q) : RR (own, cc, nL, rt) d pc lc (.long y :: .long x :: st) I L Q := by
  intro p l e s m args below meth c D ad ca H locs ls hC hP hS hl
  exact lv_lmul hC.1 hC.2.1 hd (k p l e s m args below meth c D ad ca H locs ls hC hP hS hl)
theorem r_land {x y : Int64} (hd : decode cc pc = .ok (.land, 1)) (k : RR (own, cc, nL, rt) d (pc + 1) lc (.long (x &&& y) :: st) I L Q) : RR (own, cc, nL, rt) d pc lc (.long y :: .long x :: st) I L Q := by
  intro p l e s m args below meth c D ad ca H locs ls hC hP hS hl
  exact lv_land hC.1 hC.2.1 hd (k p l e s m args below meth c D ad ca H locs ls hC hP hS hl)
theorem r_lor {x y : Int64} (hd : decode cc pc = .ok (.lor, 1)) (k : RR (own, cc, nL, rt) d (pc + 1) lc (.long (x ||| y) :: st) I L Q) : RR (own, cc, nL, rt) d pc lc (.long y :: .long x :: st) I L Q := by
  intro p l e s m args below meth c D ad ca H locs ls hC hP hS hl
  exact lv_lor hC.1 hC.2.1 hd (k p l e s m args below meth c D ad ca H locs ls hC hP hS hl)
theorem r_ldiv {x y : Int64} (hd : decode cc pc = .ok (.ldiv, 1)) (hne : ¬ y = 0) (k : RR (own, cc, nL, rt) d (pc + 1) lc (.long (x / y) :: st) I L Q) : RR (own, cc, nL, rt) d pc lc (.long y :: .long x :: st) I L Q := by
  intro p l e s m args below meth c D ad ca H locs ls hC hP hS hl
  exact lv_ldiv hC.1 hC.2.1 hd hne (k p l e s m args below meth c D ad ca H locs ls hC hP hS hl)
theorem r_lrem {x y : Int64} (hd : decode cc pc = .ok (.lrem, 1)) (hne : ¬ y = 0) (k : RR (own, cc, nL, rt) d (pc + 1) lc (.long (x - x / y * y) :: st) I L Q) : RR (own, cc, nL, rt) d pc lc (.long y :: .long x :: st) I L Q := by
  intro p l e s m args below meth c D ad ca H locs ls hC hP hS hl
  exact lv_lrem hC.1 hC.2.1 hd hne (k p l e s m args below meth c D ad ca H locs ls hC hP hS hl)
theorem r_lneg {x : Int64} (hd : decode cc pc = .ok (.lneg, 1)) (k : RR (own, cc, nL, rt) d (pc + 1) lc (.long (-x) :: st) I L Q) : RR (own, cc, nL, rt) d pc lc (.long x :: st) I L Q := by
  intro p l e s m args below meth c D ad ca H locs ls hC hP hS hl
  exact lv_lneg hC.1 hC.2.1 hd (k p l e s m args below meth c D ad ca H locs ls hC hP hS hl)
theorem r_ineg {x : Int32} (hd : decode cc pc = .ok (.ineg, 1)) (k : RR (own, cc, nL, rt) d (pc + 1) lc (.int (-x) :: st) I L Q) : RR (own, cc, nL, rt) d pc lc (.int x :: st) I L Q := by
  intro p l e s m args below meth c D ad ca H locs ls hC hP hS hl
  exact lv_ineg hC.1 hC.2.1 hd (k p l e s m args below meth c D ad ca H locs ls hC hP hS hl)
theorem r_lcmp {x y : Int64} (hd : decode cc pc = .ok (.lcmp, 1)) (k : RR (own, cc, nL, rt) d (pc + 1) lc (.int (lg_cmp x y) :: st) I L Q) : RR (own, cc, nL, rt) d pc lc (.long y :: .long x :: st) I L Q := by
  intro p l e s m args below meth c D ad ca H locs ls hC hP hS hl
  exact W.lcmp hC.1 hC.2.1 hd (k p l e s m args below meth c D ad ca H locs ls hC hP hS hl)
theorem r_i2l {x : Int32} (hd : decode cc pc = .ok (.i2l, 1)) (k : RR (own, cc, nL, rt) d (pc + 1) lc (.long (x.toInt64) :: st) I L Q) : RR (own, cc, nL, rt) d pc lc (.int x :: st) I L Q := by
  intro p l e s m args below meth c D ad ca H locs ls hC hP hS hl
  exact lv_i2l hC.1 hC.2.1 hd rfl (k p l e s m args below meth c D ad ca H locs ls hC hP hS hl)
theorem r_l2i {x : Int64} (hd : decode cc pc = .ok (.l2i, 1)) (k : RR (own, cc, nL, rt) d (pc + 1) lc (.int (x.toInt32) :: st) I L Q) : RR (own, cc, nL, rt) d pc lc (.long x :: st) I L Q := by
  intro p l e s m args below meth c D ad ca H locs ls hC hP hS hl
  exact lv_l2i hC.1 hC.2.1 hd rfl (k p l e s m args below meth c D ad ca H locs ls hC hP hS hl)
theorem r_i2s {x : Int32} (hd : decode cc pc = .ok (.i2s, 1)) (k : RR (own, cc, nL, rt) d (pc + 1) lc (.int (x.toInt16.toInt32) :: st) I L Q) : RR (own, cc, nL, rt) d pc lc (.int x :: st) I L Q := by
  intro p l e s m args below meth c D ad ca H locs ls hC hP hS hl
  exact lv_i2s hC.1 hC.2.1 hd rfl (k p l e s m args below meth c D ad ca H locs ls hC hP hS hl)
theorem r_i2b {x : Int32} (hd : decode cc pc = .ok (.i2b, 1)) (k : RR (own, cc, nL, rt) d (pc + 1) lc (.int (x.toInt8.toInt32) :: st) I L Q) : RR (own, cc, nL, rt) d pc lc (.int x :: st) I L Q := by
  intro p l e s m args below meth c D ad ca H locs ls hC hP hS hl
  exact lv_i2b hC.1 hC.2.1 hd rfl (k p l e s m args below meth c D ad ca H locs ls hC hP hS hl)
theorem r_i2c {x : Int32} (hd : decode cc pc = .ok (.i2c, 1)) (k : RR (own, cc, nL, rt) d (pc + 1) lc (.int ((x.toUInt32 % 65536).toInt32) :: st) I L Q) : RR (own, cc, nL, rt) d pc lc (.int x :: st) I L Q := by
  intro p l e s m args below meth c D ad ca H locs ls hC hP hS hl
  exact lv_i2c hC.1 hC.2.1 hd rfl (k p l e s m args below meth c D ad ca H locs ls hC hP hS hl)
theorem r_dup {x : Value} (hd : decode cc pc = .ok (.dup, 1)) (hx : x.category = 1) (k : RR (own, cc, nL, rt) d (pc + 1) lc (x :: x :: st) I L Q) : RR (own, cc, nL, rt) d pc lc (x :: st) I L Q := by
  intro p l e s m args below meth c D ad ca H locs ls hC hP hS hl
  exact lv_dup hC.1 hC.2.1 hd (by rw [rn_cat]; exact hx) (k p l e s m args below meth c D ad ca H locs ls hC hP hS hl)
theorem r_pop {x : Value} (hd : decode cc pc = .ok (.pop, 1)) (hx : x.category = 1) (k : RR (own, cc, nL, rt) d (pc + 1) lc st I L Q) : RR (own, cc, nL, rt) d pc lc (x :: st) I L Q := by
  intro p l e s m args below meth c D ad ca H locs ls hC hP hS hl
  exact lv_pop hC.1 hC.2.1 hd (by rw [rn_cat]; exact hx) (k p l e s m args below meth c D ad ca H locs ls hC hP hS hl)
theorem r_dup2 {x y : Value} (hd : decode cc pc = .ok (.dup2, 1)) (hx : x.category = 1) (hy : y.category = 1) (k : RR (own, cc, nL, rt) d (pc + 1) lc (x :: y :: x :: y :: st) I L Q) : RR (own, cc, nL, rt) d pc lc (x :: y :: st) I L Q := by
  intro p l e s m args below meth c D ad ca H locs ls hC hP hS hl
  exact lv_dup2_11 hC.1 hC.2.1 hd (by rw [rn_cat]; exact hx) (by rw [rn_cat]; exact hy) (k p l e s m args below meth c D ad ca H locs ls hC hP hS hl)
theorem r_if_eq {x : Int32} {off : Int} {tgt : Nat} (hd : decode cc pc = .ok (.ifCond .eq off, 3)) (ht : (pc : Int) + off = (tgt : Int)) (kt : x = 0 → RR (own, cc, nL, rt) d tgt lc st I L Q) (kf : ¬ x = 0 → RR (own, cc, nL, rt) d (pc + 3) lc st I L Q) : RR (own, cc, nL, rt) d pc lc (.int x :: st) I L Q := by
  intro p l e s m args below meth c D ad ca H locs ls hC hP hS hl
  exact lv_if_eq hC.1 hC.2.1 hd ht (fun h => kt h p l e s m args below meth c D ad ca H locs ls hC hP hS hl) (fun h => kf h p l e s m args below meth c D ad ca H locs ls hC hP hS hl)
theorem r_icmp_eq {x y : Int32} {off : Int} {tgt : Nat} (hd : decode cc pc = .ok (.if_icmp .eq off, 3)) (ht : (pc : Int) + off = (tgt : Int)) (kt : x = y → RR (own, cc, nL, rt) d tgt lc st I L Q) (kf : ¬ x = y → RR (own, cc, nL, rt) d (pc + 3) lc st I L Q) : RR (own, cc, nL, rt) d pc lc (.int y :: .int x :: st) I L Q := by
  intro p l e s m args below meth c D ad ca H locs ls hC hP hS hl
  exact lv_icmp_eq hC.1 hC.2.1 hd ht (fun h => kt h p l e s m args below meth c D ad ca H locs ls hC hP hS hl) (fun h => kf h p l e s m args below meth c D ad ca H locs ls hC hP hS hl)
theorem r_if_ne {x : Int32} {off : Int} {tgt : Nat} (hd : decode cc pc = .ok (.ifCond .ne off, 3)) (ht : (pc : Int) + off = (tgt : Int)) (kt : ¬ x = 0 → RR (own, cc, nL, rt) d tgt lc st I L Q) (kf : x = 0 → RR (own, cc, nL, rt) d (pc + 3) lc st I L Q) : RR (own, cc, nL, rt) d pc lc (.int x :: st) I L Q := by
  intro p l e s m args below meth c D ad ca H locs ls hC hP hS hl
  exact lv_if_ne hC.1 hC.2.1 hd ht (fun h => kt h p l e s m args below meth c D ad ca H locs ls hC hP hS hl) (fun h => kf h p l e s m args below meth c D ad ca H locs ls hC hP hS hl)
theorem r_icmp_ne {x y : Int32} {off : Int} {tgt : Nat} (hd : decode cc pc = .ok (.if_icmp .ne off, 3)) (ht : (pc : Int) + off = (tgt : Int)) (kt : ¬ x = y → RR (own, cc, nL, rt) d tgt lc st I L Q) (kf : x = y → RR (own, cc, nL, rt) d (pc + 3) lc st I L Q) : RR (own, cc, nL, rt) d pc lc (.int y :: .int x :: st) I L Q := by
  intro p l e s m args below meth c D ad ca H locs ls hC hP hS hl
  exact lv_icmp_ne hC.1 hC.2.1 hd ht (fun h => kt h p l e s m args below meth c D ad ca H locs ls hC hP hS hl) (fun h => kf h p l e s m args below meth c D ad ca H locs ls hC hP hS hl)
theorem r_if_lt {x : Int32} {off : Int} {tgt : Nat} (hd : decode cc pc = .ok (.ifCond .lt off, 3)) (ht : (pc : Int) + off = (tgt : Int)) (kt : x < 0 → RR (own, cc, nL, rt) d tgt lc st I L Q) (kf : ¬ x < 0 → RR (own, cc, nL, rt) d (pc + 3) lc st I L Q) : RR (own, cc, nL, rt) d pc lc (.int x :: st) I L Q := by
  intro p l e s m args below meth c D ad ca H locs ls hC hP hS hl
  exact lv_if_lt hC.1 hC.2.1 hd ht (fun h => kt h p l e s m args below meth c D ad ca H locs ls hC hP hS hl) (fun h => kf h p l e s m args below meth c D ad ca H locs ls hC hP hS hl)
theorem r_icmp_lt {x y : Int32} {off : Int} {tgt : Nat} (hd : decode cc pc = .ok (.if_icmp .lt off, 3)) (ht : (pc : Int) + off = (tgt : Int)) (kt : x < y → RR (own, cc, nL, rt) d tgt lc st I L Q) (kf : ¬ x < y → RR (own, cc, nL, rt) d (pc + 3) lc st I L Q) : RR (own, cc, nL, rt) d pc lc (.int y :: .int x :: st) I L Q := by
  intro p l e s m args below meth c D ad ca H locs ls hC hP hS hl
  exact lv_icmp_lt hC.1 hC.2.1 hd ht (fun h => kt h p l e s m args below meth c D ad ca H locs ls hC hP hS hl) (fun h => kf h p l e s m args below meth c D ad ca H locs ls hC hP hS hl)
theorem r_if_ge {x : Int32} {off : Int} {tgt : Nat} (hd : decode cc pc = .ok (.ifCond .ge off, 3)) (ht : (pc : Int) + off = (tgt : Int)) (kt : 0 ≤ x → RR (own, cc, nL, rt) d tgt lc st I L Q) (kf : ¬ 0 ≤ x → RR (own, cc, nL, rt) d (pc + 3) lc st I L Q) : RR (own, cc, nL, rt) d pc lc (.int x :: st) I L Q := by
  intro p l e s m args below meth c D ad ca H locs ls hC hP hS hl
  exact lv_if_ge hC.1 hC.2.1 hd ht (fun h => kt h p l e s m args below meth c D ad ca H locs ls hC hP hS hl) (fun h => kf h p l e s m args below meth c D ad ca H locs ls hC hP hS hl)
theorem r_icmp_ge {x y : Int32} {off : Int} {tgt : Nat} (hd : decode cc pc = .ok (.if_icmp .ge off, 3)) (ht : (pc : Int) + off = (tgt : Int)) (kt : y ≤ x → RR (own, cc, nL, rt) d tgt lc st I L Q) (kf : ¬ y ≤ x → RR (own, cc, nL, rt) d (pc + 3) lc st I L Q) : RR (own, cc, nL, rt) d pc lc (.int y :: .int x :: st) I L Q := by
  intro p l e s m args below meth c D ad ca H locs ls hC hP hS hl
  exact lv_icmp_ge hC.1 hC.2.1 hd ht (fun h => kt h p l e s m args below meth c D ad ca H locs ls hC hP hS hl) (fun h => kf h p l e s m args below meth c D ad ca H locs ls hC hP hS hl)
theorem r_if_gt {x : Int32} {off : Int} {tgt : Nat} (hd : decode cc pc = .ok (.ifCond .gt off, 3)) (ht : (pc : Int) + off = (tgt : Int)) (kt : 0 < x → RR (own, cc, nL, rt) d tgt lc st I L Q) (kf : ¬ 0 < x → RR (own, cc, nL, rt) d (pc + 3) lc st I L Q) : RR (own, cc, nL, rt) d pc lc (.int x :: st) I L Q := by
  intro p l e s m args below meth c D ad ca H locs ls hC hP hS hl
  exact lv_if_gt hC.1 hC.2.1 hd ht (fun h => kt h p l e s m args below meth c D ad ca H locs ls hC hP hS hl) (fun h => kf h p l e s m args below meth c D ad ca H locs ls hC hP hS hl)
theorem r_icmp_gt {x y : Int32} {off : Int} {tgt : Nat} (hd : decode cc pc = .ok (.if_icmp .gt off, 3)) (ht : (pc : Int) + off = (tgt : Int)) (kt : y < x → RR (own, cc, nL, rt) d tgt lc st I L Q) (kf : ¬ y < x → RR (own, cc, nL, rt) d (pc + 3) lc st I L Q) : RR (own, cc, nL, rt) d pc lc (.int y :: .int x :: st) I L Q := by
  intro p l e s m args below meth c D ad ca H locs ls hC hP hS hl
  exact lv_icmp_gt hC.1 hC.2.1 hd ht (fun h => kt h p l e s m args below meth c D ad ca H locs ls hC hP hS hl) (fun h => kf h p l e s m args below meth c D ad ca H locs ls hC hP hS hl)
theorem r_if_le {x : Int32} {off : Int} {tgt : Nat} (hd : decode cc pc = .ok (.ifCond .le off, 3)) (ht : (pc : Int) + off = (tgt : Int)) (kt : x ≤ 0 → RR (own, cc, nL, rt) d tgt lc st I L Q) (kf : ¬ x ≤ 0 → RR (own, cc, nL, rt) d (pc + 3) lc st I L Q) : RR (own, cc, nL, rt) d pc lc (.int x :: st) I L Q := by
  intro p l e s m args below meth c D ad ca H locs ls hC hP hS hl
  exact lv_if_le hC.1 hC.2.1 hd ht (fun h => kt h p l e s m args below meth c D ad ca H locs ls hC hP hS hl) (fun h => kf h p l e s m args below meth c D ad ca H locs ls hC hP hS hl)
theorem r_icmp_le {x y : Int32} {off : Int} {tgt : Nat} (hd : decode cc pc = .ok (.if_icmp .le off, 3)) (ht : (pc : Int) + off = (tgt : Int)) (kt : x ≤ y → RR (own, cc, nL, rt) d tgt lc st I L Q) (kf : ¬ x ≤ y → RR (own, cc, nL, rt) d (pc + 3) lc st I L Q) : RR (own, cc, nL, rt) d pc lc (.int y :: .int x :: st) I L Q := by
  intro p l e s m args below meth c D ad ca H locs ls hC hP hS hl
  exact lv_icmp_le hC.1 hC.2.1 hd ht (fun h => kt h p l e s m args below meth c D ad ca H locs ls hC hP hS hl) (fun h => kf h p l e s m args below meth c D ad ca H locs ls hC hP hS hl)
theorem r_goto {off : Int} {tgt : Nat} (hd : decode cc pc = .ok (.goto off, 3)) (ht : (pc : Int) + off = (tgt : Int)) (k : RR (own, cc, nL, rt) d tgt lc st I L Q) : RR (own, cc, nL, rt) d pc lc st I L Q := by
  intro p l e s m args below meth c D ad ca H locs ls hC hP hS hl
  exact lv_goto hC.1 hC.2.1 hd ht (k p l e s m args below meth c D ad ca H locs ls hC hP hS hl)
theorem r_tabIn {dflt lo hi : Int} {offs : Array Int} {len : Nat} {x : Int32} {off : Int} {tgt : Nat} (hd : decode cc pc = .ok (.tableswitch dflt lo hi offs, len)) (h1 : ¬ x.toInt < lo) (h2 : ¬ hi < x.toInt) (ho : offs[(x.toInt - lo).toNat]? = some off) (ht : (pc : Int) + off = (tgt : Int)) (k : RR (own, cc, nL, rt) d tgt lc st I L Q) : RR (own, cc, nL, rt) d pc lc (.int x :: st) I L Q := by
  intro p l e s m args below meth c D ad ca H locs ls hC hP hS hl
  exact lv_tableIn hC.1 hC.2.1 hd h1 h2 ho ht (k p l e s m args below meth c D ad ca H locs ls hC hP hS hl)
theorem r_tabOut {dflt lo hi : Int} {offs : Array Int} {len : Nat} {x : Int32} {tgt : Nat} (hd : decode cc pc = .ok (.tableswitch dflt lo hi offs, len)) (h : x.toInt < lo ∨ hi < x.toInt) (ht : (pc : Int) + dflt = (tgt : Int)) (k : RR (own, cc, nL, rt) d tgt lc st I L Q) : RR (own, cc, nL, rt) d pc lc (.int x :: st) I L Q := by
  intro p l e s m args below meth c D ad ca H locs ls hC hP hS hl
  exact lv_tableOut hC.1 hC.2.1 hd h ht (k p l e s m args below meth c D ad ca H locs ls hC hP hS hl)
theorem r_iald {a n : Nat} {i : Int32} (hs : sh a = some (.inl (.int, 0, n))) (hin : vp_in i n) (hd : decode cc pc = .ok (.iaload, 1)) (k : RR (own, cc, nL, rt) d (pc + 1) lc (.int (I a i.toNatClampNeg) :: st) I L Q) : RR (own, cc, nL, rt) d pc lc (.int i :: .ref a :: st) I L Q := by
  intro p l e s m args below meth c D ad ca H locs ls hC hP hS hl
  exact va_iald hC.1 hC.2.1 hC.2.2.2.2.2.2.2.1 hP a 0 (wld_get hs) rfl hin hd (k p l e s m args below meth c D ad ca H locs ls hC hP hS hl)
theorem r_cald {a n : Nat} {i : Int32} (hs : sh a = some (.inl (.char, 0, n))) (hin : vp_in i n) (hd : decode cc pc = .ok (.caload, 1)) (k : RR (own, cc, nL, rt) d (pc + 1) lc (.int (I a i.toNatClampNeg) :: st) I L Q) : RR (own, cc, nL, rt) d pc lc (.int i :: .ref a :: st) I L Q := by
  intro p l e s m args below meth c D ad ca H locs ls hC hP hS hl
  exact va_cald hC.1 hC.2.1 hC.2.2.2.2.2.2.2.1 hP a 2 (wld_get hs) rfl hin hd (k p l e s m args below meth c D ad ca H locs ls hC hP hS hl)
theorem r_zald {a n : Nat} {i : Int32} (hs : sh a = some (.inl (.boolean, 0, n))) (hin : vp_in i n) (hd : decode cc pc = .ok (.baload, 1)) (k : RR (own, cc, nL, rt) d (pc + 1) lc (.int (I a i.toNatClampNeg) :: st) I L Q) : RR (own, cc, nL, rt) d pc lc (.int i :: .ref a :: st) I L Q := by
  intro p l e s m args below meth c D ad ca H locs ls hC hP hS hl
  exact va_zald hC.1 hC.2.1 hC.2.2.2.2.2.2.2.1 hP a 3 (wld_get hs) rfl hin hd (k p l e s m args below meth c D ad ca H locs ls hC hP hS hl)
theorem r_lald {a n : Nat} {i : Int32} (hs : sh a = some (.inl (.long, 1, n))) (hin : vp_in i n) (hd : decode cc pc = .ok (.laload, 1)) (k : RR (own, cc, nL, rt) d (pc + 1) lc (.long (L a i.toNatClampNeg) :: st) I L Q) : RR (own, cc, nL, rt) d pc lc (.int i :: .ref a :: st) I L Q := by
  intro p l e s m args below meth c D ad ca H locs ls hC hP hS hl
  exact va_lald hC.1 hC.2.1 hC.2.2.2.2.2.2.2.1 hP a 1 (wld_get hs) rfl hin hd (k p l e s m args below meth c D ad ca H locs ls hC hP hS hl)
theorem r_iast {a n : Nat} {i x : Int32} (hs : sh a = some (.inl (.int, 0, n))) (hin : vp_in i n) (hd : decode cc pc = .ok (.iastore, 1)) (k : RR (own, cc, nL, rt) d (pc + 1) lc st (uI I a i.toNatClampNeg x) L Q) : RR (own, cc, nL, rt) d pc lc (.int x :: .int i :: .ref a :: st) I L Q := by
  intro p l e s m args below meth c D ad ca H locs ls hC hP hS hl
  exact va_iast hC.1 hC.2.1 hC.2.2.2.2.2.2.2.1 hP (wld_D hC.2.2.2.2.2.2.2.2.1) hS a 0 (wld_get hs) rfl hin hd (fun H locs hP hD hS => k p l e s m args below meth c D ad ca H locs ls hC (by rw [wld_setA hs] at hP; exact hP) hS hl)
theorem r_cast {a n : Nat} {i x : Int32} (hs : sh a = some (.inl (.char, 0, n))) (hin : vp_in i n) (hd : decode cc pc = .ok (.castore, 1)) (k : RR (own, cc, nL, rt) d (pc + 1) lc st (uI I a i.toNatClampNeg (vp_nar .char x)) L Q) : RR (own, cc, nL, rt) d pc lc (.int x :: .int i :: .ref a :: st) I L Q := by
  intro p l e s m args below meth c D ad ca H locs ls hC hP hS hl
  exact va_cast hC.1 hC.2.1 hC.2.2.2.2.2.2.2.1 hP (wld_D hC.2.2.2.2.2.2.2.2.1) hS a 2 (wld_get hs) rfl hin hd (fun H locs hP hD hS => k p l e s m args below meth c D ad ca H locs ls hC (by rw [wld_setA hs] at hP; exact hP) hS hl)
theorem r_zast {a n : Nat} {i x : Int32} (hs : sh a = some (.inl (.boolean, 0, n))) (hin : vp_in i n) (hd : decode cc pc = .ok (.bastore, 1)) (k : RR (own, cc, nL, rt) d (pc + 1) lc st (uI I a i.toNatClampNeg (vp_nar .boolean x)) L Q) : RR (own, cc, nL, rt) d pc lc (.int x :: .int i :: .ref a :: st) I L Q := by
  intro p l e s m args below meth c D ad ca H locs ls hC hP hS hl
  exact va_zast hC.1 hC.2.1 hC.2.2.2.2.2.2.2.1 hP (wld_D hC.2.2.2.2.2.2.2.2.1) hS a 3 (wld_get hs) rfl hin hd (fun H locs hP hD hS => k p l e s m args below meth c D ad ca H locs ls hC (by rw [wld_setA hs] at hP; exact hP) hS hl)
theorem r_last {a n : Nat} {i : Int32} {x : Int64} (hs : sh a = some (.inl (.long, 1, n))) (hin : vp_in i n) (hd : decode cc pc = .ok (.lastore, 1)) (k : RR (own, cc, nL, rt) d (pc + 1) lc st I (uL L a i.toNatClampNeg x) Q) : RR (own, cc, nL, rt) d pc lc (.long x :: .int i :: .ref a :: st) I L Q := by
  intro p l e s m args below meth c D ad ca H locs ls hC hP hS hl
  exact va_last hC.1 hC.2.1 hC.2.2.2.2.2.2.2.1 hP (wld_D hC.2.2.2.2.2.2.2.2.1) hS a 1 (wld_get hs) rfl hin hd (fun H locs hP hD hS => k p l e s m args below meth c D ad ca H locs ls hC (by rw [wld_setB hs] at hP; exact hP) hS hl)
theorem r_aald {a b n : Nat} {i : Int32} (hs : sh a = some (.inl (.array .long, b + 2, n))) (hin : vp_in i n) (hd : decode cc pc = .ok (.aaload, 1)) (k : RR (own, cc, nL, rt) d (pc + 1) lc (.ref (b + i.toNatClampNeg) :: st) I L Q) : RR (own, cc, nL, rt) d pc lc (.int i :: .ref a :: st) I L Q := by
  intro p l e s m args below meth c D ad ca H locs ls hC hP hS hl
  have hlt : i.toNatClampNeg < n := Nat.not_le.mp fun q => hin (Or.inr q)
  have hv : ∀ f : Nat → Option Nat, f i.toNatClampNeg = some (ad (b + i.toNatClampNeg)) → va_rf (f i.toNatClampNeg) = rn ad (.ref (b + i.toNatClampNeg)) := fun f h => by rw [h]; rfl
  refine W.aald (v := rn ad (.ref (b + i.toNatClampNeg))) (ty := .array .long) hC.1 hC.2.1 (hP a _ (wld_get hs)) ((hC.2.2.2.2.2.2.2.1.2 4 _ rfl).1 n _) rfl (fun q => by cases q) (by show ¬ (i < 0 ∨ (arrV _ _ _).slots.size ≤ _); rw [arrV_size]; exact hin) (by show (arrV _ _ _).slots[_]? = _; rw [arrV_read _ _ hlt]; simp only [if_pos hlt]; rfl) rfl rfl hd (k p l e s m args below meth c D ad ca H locs ls hC hP hS hl)
theorem r_alenI {a n : Nat} {v : Int32} (hs : sh a = some (.inl (.int, 0, n))) (hv : Int32.ofNat n = v) (hd : decode cc pc = .ok (.arraylength, 1)) (k : RR (own, cc, nL, rt) d (pc + 1) lc (.int v :: st) I L Q) : RR (own, cc, nL, rt) d pc lc (.ref a :: st) I L Q := by
  intro p l e s m args below meth c D ad ca H locs ls hC hP hS hl
  exact va_alen hC.1 hC.2.1 hC.2.2.2.2.2.2.2.1 hP a 0 (wld_get hs) rfl hv hd (k p l e s m args below meth c D ad ca H locs ls hC hP hS hl)
theorem r_alenL {a n : Nat} {v : Int32} (hs : sh a = some (.inl (.long, 1, n))) (hv : Int32.ofNat n = v) (hd : decode cc pc = .ok (.arraylength, 1)) (k : RR (own, cc, nL, rt) d (pc + 1) lc (.int v :: st) I L Q) : RR (own, cc, nL, rt) d pc lc (.ref a :: st) I L Q := by
  intro p l e s m args below meth c D ad ca H locs ls hC hP hS hl
  exact va_alen hC.1 hC.2.1 hC.2.2.2.2.2.2.2.1 hP a 1 (wld_get hs) rfl hv hd (k p l e s m args below meth c D ad ca H locs ls hC hP hS hl)
theorem r_ords {index : Nat} (hw : Cond.fieldLink own index RX4 "ORDERS" "[J" ∈ TB) (hd : decode cc pc = .ok (.getstatic index, 3)) (k : RR (own, cc, nL, rt) d (pc + 3) lc (.ref 81 :: st) I L Q) : RR (own, cc, nL, rt) d pc lc st I L Q := by
  intro p l e s m args below meth c D ad ca H locs ls hC hP hS hl
  exact va_gets hC.1 hC.2.1 hC.2.2.2.2.2.2.2.2.2.1 hS hC.2.2.2.2.1 (hC.2.2.2.2.2.2.1 _ hw) (fun _ h => h) hd (k p l e s m args below meth c D ad ca H locs ls hC hP hS hl)
theorem r_ordsA {i : Int32} (hin : vp_in i 9) (hd : decode cc pc = .ok (.laload, 1)) (k : RR (own, cc, nL, rt) d (pc + 1) lc (ordT i.toNatClampNeg :: st) I L Q) : RR (own, cc, nL, rt) d pc lc (.int i :: .ref 81 :: st) I L Q := by
  intro p l e s m args below meth c D ad ca H locs ls hC hP hS hl
  exact va_tl hC.1 hC.2.1 hC.2.2.2.2.2.2.2.2.2.2 hS hin rfl hd (k p l e s m args below meth c D ad ca H locs ls hC hP hS hl)
/-- a field's link: of the method's own class by its entry, to field j of the world's class ci -/
def FL (own : String) (index ci j : Nat) (ty : FieldType) (fin : Bool) : Prop := ∃ (C : String) (T : u_T) (N : Nat) (ty0 : Nat → FieldType), classesX[ci]? = some (C, T, N) ∧ (∀ w ∈ u_ws C T N, w ∈ TB) ∧ j < N ∧ Cond.fieldLink own index (T j).1 (T j).2.1 (T j).2.2.1 ∈ TB ∧ (∀ k, k < N → parseFieldDescriptor (T k).2.2.1 = some (ty0 k)) ∧ (∀ a, a < N → ∀ b, b < N → a ≠ b → (T a).2.1 ≠ (T b).2.1) ∧ ty0 j = ty ∧ (T j).2.2.2 = fin
theorem fs_get {ad : Nat → Nat} {Ik : Nat → Int32} {Lk : Nat → Int64} {fs : List (Nat × Nat)} {j : Nat} {f : Nat × Nat} (h : fs[j]? = some f) : (fs.mapIdx (fldOf ad Ik Lk))[j]? = some (fldOf ad Ik Lk j f) := by
  simp [List.getElem?_mapIdx, h]
theorem fs_setI {ad : Nat → Nat} {Ik : Nat → Int32} {Lk : Nat → Int64} {fs : List (Nat × Nat)} {j b : Nat} {x : Int32} (h : fs[j]? = some (1, b)) : (fs.mapIdx (fldOf ad Ik Lk)).set j (.int x) = fs.mapIdx (fldOf ad (upd Ik j x) Lk) := by
  apply List.ext_getElem?
  intro i
  rw [List.getElem?_set]
  by_cases hi : j = i
  · subst hi
    obtain ⟨hl, hs⟩ := List.getElem?_eq_some_iff.mp h
    simp [List.getElem?_mapIdx, hl, hs, fldOf, upd]
  · rw [if_neg hi]
    simp only [List.getElem?_mapIdx]
    congr 1
    funext f
    obtain ⟨a, b⟩ := f
    match a with
    | 0 => rfl
    | 1 => show Value.int _ = Value.int _; rw [upd, if_neg (fun q => hi q.symm)]
    | n + 2 => rfl
theorem fs_setL {ad : Nat → Nat} {Ik : Nat → Int32} {Lk : Nat → Int64} {fs : List (Nat × Nat)} {j b : Nat} {x : Int64} (h : fs[j]? = some (2, b)) : (fs.mapIdx (fldOf ad Ik Lk)).set j (.long x) = fs.mapIdx (fldOf ad Ik (vp_updL Lk j x)) := by
  apply List.ext_getElem?
  intro i
  rw [List.getElem?_set]
  by_cases hi : j = i
  · subst hi
    obtain ⟨hl, hs⟩ := List.getElem?_eq_some_iff.mp h
    simp [List.getElem?_mapIdx, hl, hs, fldOf, vp_updL]
  · rw [if_neg hi]
    simp only [List.getElem?_mapIdx]
    congr 1
    funext f
    obtain ⟨a, b⟩ := f
    match a with
    | 0 => rfl
    | 1 => rfl
    | n + 2 => show Value.long _ = Value.long _; rw [vp_updL, if_neg (fun q => hi q.symm)]
theorem r_getR {index ci j a b : Nat} {ty : FieldType} {fin : Bool} {fs : List (Nat × Nat)} (hF : FL own index ci j ty fin) (hd : decode cc pc = .ok (.getfield index, 3)) (hs : sh a = some (.inr (ci, fs))) (hf : fs[j]? = some (0, b)) (k : RR (own, cc, nL, rt) d (pc + 3) lc ((.ref b) :: st) I L Q) : RR (own, cc, nL, rt) d pc lc (.ref a :: st) I L Q := by
  intro p l e s m args below meth c D ad ca H locs ls hC hP hS hl
  obtain ⟨C, T, N, ty0, h1, h2, h3, h4, h5, h6, h7, h8⟩ := hF
  exact va_get hC.1 hC.2.1 hC.2.2.2.2.2.2.1 h2 hC.2.2.2.2.1 hC.2.2.2.2.2.2.2.1 hP a (wld_get hs) h1 j h3 (hC.2.2.2.2.2.2.1 _ h4) (fun _ h => h) (fs_get hf) hd (k p l e s m args below meth c D ad ca H locs ls hC hP hS hl)
theorem r_getI {index ci j a b : Nat} {ty : FieldType} {fin : Bool} {fs : List (Nat × Nat)} (hF : FL own index ci j ty fin) (hd : decode cc pc = .ok (.getfield index, 3)) (hs : sh a = some (.inr (ci, fs))) (hf : fs[j]? = some (1, b)) (k : RR (own, cc, nL, rt) d (pc + 3) lc ((.int (I a j)) :: st) I L Q) : RR (own, cc, nL, rt) d pc lc (.ref a :: st) I L Q := by
  intro p l e s m args below meth c D ad ca H locs ls hC hP hS hl
  obtain ⟨C, T, N, ty0, h1, h2, h3, h4, h5, h6, h7, h8⟩ := hF
  exact va_get hC.1 hC.2.1 hC.2.2.2.2.2.2.1 h2 hC.2.2.2.2.1 hC.2.2.2.2.2.2.2.1 hP a (wld_get hs) h1 j h3 (hC.2.2.2.2.2.2.1 _ h4) (fun _ h => h) (fs_get hf) hd (k p l e s m args below meth c D ad ca H locs ls hC hP hS hl)
theorem r_getL {index ci j a b : Nat} {ty : FieldType} {fin : Bool} {fs : List (Nat × Nat)} (hF : FL own index ci j ty fin) (hd : decode cc pc = .ok (.getfield index, 3)) (hs : sh a = some (.inr (ci, fs))) (hf : fs[j]? = some (2, b)) (k : RR (own, cc, nL, rt) d (pc + 3) lc ((.long (L a j)) :: st) I L Q) : RR (own, cc, nL, rt) d pc lc (.ref a :: st) I L Q := by
  intro p l e s m args below meth c D ad ca H locs ls hC hP hS hl
  obtain ⟨C, T, N, ty0, h1, h2, h3, h4, h5, h6, h7, h8⟩ := hF
  exact va_get hC.1 hC.2.1 hC.2.2.2.2.2.2.1 h2 hC.2.2.2.2.1 hC.2.2.2.2.2.2.2.1 hP a (wld_get hs) h1 j h3 (hC.2.2.2.2.2.2.1 _ h4) (fun _ h => h) (fs_get hf) hd (k p l e s m args below meth c D ad ca H locs ls hC hP hS hl)
theorem r_putI {index ci j a b : Nat} {ty : FieldType} {fs : List (Nat × Nat)} {x : Int32} (hF : FL own index ci j ty false) (hn : narrow ty (.int x) = .int x) (hfit : fits ty (.int x) = true) (hd : decode cc pc = .ok (.putfield index, 3)) (hs : sh a = some (.inr (ci, fs))) (hf : fs[j]? = some (1, b)) (k : RR (own, cc, nL, rt) d (pc + 3) lc st (uI I a j x) L Q) : RR (own, cc, nL, rt) d pc lc (.int x :: .ref a :: st) I L Q := by
  intro p l e s m args below meth c D ad ca H locs ls hC hP hS hl
  obtain ⟨C, T, N, ty0, h1, h2, h3, h4, h5, h6, h7, h8⟩ := hF
  refine va_put (v := .int x) hC.1 hC.2.1 hC.2.2.2.2.2.2.1 h2 ty0 h5 h6 hC.2.2.2.2.1 hC.2.2.2.2.2.2.2.1 hP (wld_D hC.2.2.2.2.2.2.2.2.1) hS a (wld_get hs) h1 j h3 (hC.2.2.2.2.2.2.1 _ h4) (fun _ h => h) h8 (by rw [h5 j h3, h7]) hn hfit (by rw [List.length_mapIdx]; exact (List.getElem?_eq_some_iff.mp hf).1) hd (fun H locs hP hD hS => k p l e s m args below meth c D ad ca H locs ls hC ?_ hS hl)
  rw [fs_setI hf, wld_setF hs] at hP
  exact hP
theorem r_putL {index ci j a b : Nat} {ty : FieldType} {fs : List (Nat × Nat)} {x : Int64} (hF : FL own index ci j ty false) (hn : narrow ty (.long x) = .long x) (hfit : fits ty (.long x) = true) (hd : decode cc pc = .ok (.putfield index, 3)) (hs : sh a = some (.inr (ci, fs))) (hf : fs[j]? = some (2, b)) (k : RR (own, cc, nL, rt) d (pc + 3) lc st I (uL L a j x) Q) : RR (own, cc, nL, rt) d pc lc (.long x :: .ref a :: st) I L Q := by
  intro p l e s m args below meth c D ad ca H locs ls hC hP hS hl
  obtain ⟨C, T, N, ty0, h1, h2, h3, h4, h5, h6, h7, h8⟩ := hF
  refine va_put (v := .long x) hC.1 hC.2.1 hC.2.2.2.2.2.2.1 h2 ty0 h5 h6 hC.2.2.2.2.1 hC.2.2.2.2.2.2.2.1 hP (wld_D hC.2.2.2.2.2.2.2.2.1) hS a (wld_get hs) h1 j h3 (hC.2.2.2.2.2.2.1 _ h4) (fun _ h => h) h8 (by rw [h5 j h3, h7]) hn hfit (by rw [List.length_mapIdx]; exact (List.getElem?_eq_some_iff.mp hf).1) hd (fun H locs hP hD hS => k p l e s m args below meth c D ad ca H locs ls hC ?_ hS hl)
  rw [fs_setL hf, wld_setG hs] at hP
  exact hP
theorem r_iret {ty : FieldType} {v : Int32} (hn : narrow ty (.int v) = .int v) (hd : decode cc pc = .ok (.ireturn, 1)) (hQ : Q (some (.int v)) I L) : RR (own, cc, nL, some ty) d pc lc [.int v] I L Q := by
  intro p l e s m args below meth c D ad ca H locs ls hC hP hS hl
  exact W.zret (v := v) hC.1 hC.2.1 hC.2.2.1 hn (fun t ht hW => ⟨⟨some (.int v), I, L, rfl, hQ, by rw [ht]; exact hP⟩, hS.F ht⟩) hS.2.2 hd hC.2.2.2.2.2.1
theorem r_lret {v : Int64} (hd : decode cc pc = .ok (.lreturn, 1)) (hQ : Q (some (.long v)) I L) : RR (own, cc, nL, some .long) d pc lc [.long v] I L Q := by
  intro p l e s m args below meth c D ad ca H locs ls hC hP hS hl
  exact W.lret (v := v) hC.1 hC.2.1 hC.2.2.1 (fun t ht hW => ⟨⟨some (.long v), I, L, rfl, hQ, by rw [ht]; exact hP⟩, hS.F ht⟩) hS.2.2 hd hC.2.2.2.2.2.1
theorem r_vret (hd : decode cc pc = .ok (.return_, 1)) (hQ : Q none I L) : RR (own, cc, nL, none) d pc lc [] I L Q := by
  intro p l e s m args below meth c D ad ca H locs ls hC hP hS hl
  exact W.vret hC.1 hC.2.1 hC.2.2.1 (fun t ht hW => ⟨⟨none, I, L, rfl, hQ, by rw [ht]; exact hP⟩, hS.F ht⟩) hS.2.2 hd hC.2.2.2.2.2.1
/-- weaker ends -/
theorem RR.mono {M : mM} {Q' : Option Value → mI → mL → Prop} (h : ∀ v I L, Q v I L → Q' v I L) (k : RR M d pc lc st I L Q) : RR M d pc lc st I L Q' := by
  intro p l e s m args below meth c D ad ca H locs ls hC hP hS hl T hT X
  obtain ⟨t, a, o, b1, b2, ⟨⟨v, I', L', c1, c2, c3⟩, c4⟩, b4⟩ := k p l e s m args below meth c D ad ca H locs ls hC hP hS hl T hT X
  exact ⟨t, a, o, b1, b2, ⟨⟨v, I', L', c1, h _ _ _ c2, c3⟩, c4⟩, b4⟩
end RRows
end
section
/-! CALLS -/
abbrev wsM (y : MethodName) (M : mM) : List Cond := Cond.code y M.2.1 M.2.2.1 M.2.2.2 :: TB
theorem wsM_good {y : MethodName} {M : mM} (h : Cond.code y M.2.1 M.2.2.1 M.2.2.2 ∈ TB) : GoodIn TB (wsM y M) := by
  intro w hw
  rcases List.mem_cons.mp hw with rfl | hw
  · exact ⟨h, good_of_word (tb_good h)⟩
  · exact ⟨hw, good_of_word (tb_good hw)⟩
/-- the locals at a method's entry -/
def entA : List Value → List (Option Value)
  | [] => []
  | v :: r => if v.category = 2 then some v :: none :: entA r else some v :: entA r
def entL (nL : Nat) (As : List Value) : List (Option Value) := entA As ++ List.replicate (nL - (entA As).length) none
theorem entA_at (ad : Nat → Nat) : ∀ (As : List Value) (b i : Nat) (v : Value), (entA As)[i]? = some (some v) → (b + i, rn ad v) ∈ lv_args b (As.map (rn ad))
  | [], b, i, v, h => by simp [entA] at h
  | a :: r, b, i, v, h => by
    unfold entA at h
    show (b + i, rn ad v) ∈ lv_args b (rn ad a :: r.map (rn ad))
    unfold lv_args
    rw [rn_cat]
    split at h
    · rename_i hc
      rw [if_pos hc]
      match i, h with
      | 0, h => cases h; exact List.mem_cons_self
      | 1, h => cases h
      | i + 2, h =>
        have h2 := entA_at ad r (b + 2) i v h
        refine List.mem_cons_of_mem _ ?_
        rw [show b + (i + 2) = b + 2 + i by omega]
        exact h2
    · rename_i hc
      rw [if_neg hc]
      match i, h with
      | 0, h => cases h; exact List.mem_cons_self
      | i + 1, h =>
        have h2 := entA_at ad r (b + 1) i v h
        refine List.mem_cons_of_mem _ ?_
        rw [show b + (i + 1) = b + 1 + i by omega]
        exact h2
theorem LH.entry {ad : Nat → Nat} {ls : Array Slot} {nL : Nat} {As : List Value} (h : lv_has ls nL (lv_args 0 (As.map (rn ad)))) : LH ad ls nL (entL nL As) := by
  refine ⟨h.1, h.2.1, fun i v hi => ?_⟩
  unfold entL at hi
  by_cases hl : i < (entA As).length
  · rw [List.getElem?_append_left hl] at hi
    have := h.2.2 _ (entA_at ad As 0 i v hi)
    rw [Nat.zero_add] at this
    exact this
  · rw [List.getElem?_append_right (Nat.not_lt.mp hl)] at hi
    rw [List.getElem?_replicate] at hi
    split at hi <;> cases hi
/-- what a call stands on, of the callee: its code among the words, its class taken as initialised -/
def MI (y : MethodName) (M : mM) (n : Nat) : Prop := M.1 = y.cls ∧ plainName y.cls = true ∧ Cond.code y M.2.1 M.2.2.1 M.2.2.2 ∈ TB ∧ Cond.initialized y.cls ∈ TB ∧ (y.cls ≠ "java/lang/invoke/MethodHandle" ∧ y.cls ≠ "java/lang/invoke/VarHandle" ∧ (parseMethodDescriptor y.desc).map (fun d => d.parameters.length) = some n) ∧ M.2.2.1 ≤ 17
/-- a method's start, as its callers give it -/
def PP (D : va_G) (ad : Nat → Nat) (ca : FieldType → ClassId) (As : List Value) (I : mI) (L : mL) : Array Value → State → Prop := va_Pc (As.map (rn ad)) (fun U => va_P D classesX (wld ad ca I L) U.heap ∧ va_K D classesX (tyl ca) U ∧ Kons ad U U.heap)
theorem PP_blind {D : va_G} {ad : Nat → Nat} {ca : FieldType → ClassId} {As : List Value} {I : mI} {L : mL} : FrameBlind (PP D ad ca As I L) := by
  intro a U g mk h
  obtain ⟨h1, h2, h3, h4⟩ := h
  exact ⟨h1, h2, va_K.moved (u := U) (U := U.calling g mk a) (Vm.Alike.refl U.vm) h3, Kons.moved (u := U) (U := U.calling g mk a) (Vm.Alike.refl U.vm) h4⟩
/-- THE CONTRACT out of the judgement at a method's entry -/
theorem RR.met {l : Launch} {y : MethodName} {M : mM} {n d : Nat} {As : List Value} {I : mI} {L : mL} {Q : Option Value → mI → mL → Prop} {D : va_G} {ad : Nat → Nat} {ca : FieldType → ClassId} (hM : MI y M n) (hi : ∀ i j, i < 81 → j < 81 → ad i = ad j → i = j) (hA : (entA As).length ≤ M.2.2.1) (h : RR M d 0 (entL M.2.2.1 As) [] I L Q) :
    Met l y (wsM y M) (rmm d) (PP D ad ca As I L) (QQ D ad ca Q) 0 0 (AA ad) := by
  obtain ⟨hM1, hM2, hM3, hM4, hM5, hM6⟩ := hM
  refine Met.ofW (cc := M.2.1) (maxL := M.2.2.1) (ret := M.2.2.2) hM2 rfl ?_
  intro p e s m args below meth c s₁ B hml hv
  obtain ⟨rfl, hP, hK, hO⟩ := hv
  have hts := atoms_spec (ws := wsM y M) B.pre
  have hown : s.vm.findClass y.cls = some m.cls := findClass_of_methodNamed B.named
  have hlen : (lg_sl (As.map (rn ad))).length ≤ M.2.2.1 := by
    refine Nat.le_trans (Nat.le_of_eq ?_) hA
    clear hA h hP hts B
    induction As with
    | nil => rfl
    | cons a r ih =>
      unfold entA lg_sl
      unfold lg_sl at ih
      rw [List.map_cons, List.flatMap_cons, List.length_append, ih, rn_cat]
      split <;> simp <;> omega
  have hl := lv_entry (As.map (rn ad)) (n := M.2.2.1) hlen
  rw [lg_entry_eq]
  generalize (lg_sl (As.map (rn ad)) ++ List.replicate (M.2.2.1 - (lg_sl (As.map (rn ad))).length) Slot.unset).toArray = ls at hl ⊢
  exact h p l e s m _ below meth c D ad ca s.heap [] ls ⟨B.exec, B.bytes, B.returns, hml, by rw [hM1]; exact hown, B.notSynchronized, fun w hw => hts w (List.mem_cons_of_mem _ hw), hK, hi, hO⟩ hP va_S.rf (LH.entry hl)
section CallQ
variable {p : Program} {l : Launch} {e : Env} {R : Room} {s : State} {m : MethodId} {args : Array Value} {below : List Frame} {meth : Method} {c : Code} {H : Heap} {locs : List Loc} {Q : State → Prop} {pc : Nat} {ls : Array Slot} {rest st0 : List Value} {a : Array Value}
/-- behind a call -/
theorem cq {Q' : Option Value → mI → mL → Prop} {D : va_G} {ad : Nat → Nat} {ca : FieldType → ClassId} (hr : va_Run p l e R s m args below meth c H locs 0 0 0 0 (F0 m pc ls st0) rest (QQ D ad ca Q' a) (AA ad)) (hS : va_S (AA ad) s.heap H locs)
    (kk : ∀ (v : Option Value) (I : mI) (L : mL) (H1 : Heap) (locs1 : List Loc), Q' v I L → va_P D classesX (wld ad ca I L) H1 → va_S (AA ad) s.heap H1 locs1 → W p l e R s m args below meth c H1 locs1 0 0 Q (F0 m (pc + 3) ls ((v.map (rn ad)).toList ++ rest))) : W p l e R s m args below meth c H locs 0 0 Q (F0 m pc ls st0) := by
  intro T hT X
  obtain ⟨v, st₀, t, T', L0, h0, X', hL, e1, e2, ⟨⟨w, I', L', hv, hq, hb⟩, hz, hk⟩, st⟩ := hr T hT X
  cases hv
  rw [h0] at hz hk
  obtain ⟨t2, a1, b1⟩ := kk w I' L' T'.heap (locs ++ L0) hq (by rw [e1]; exact hb)
    ⟨Nat.le_trans hS.1 (by rw [e1]; exact hz), fun q h1 h2 => by rw [e1, hk q (Nat.lt_of_lt_of_le h1 hS.1) h2]; exact hS.2.1 q h1 h2, fun q hq => by
      rcases List.mem_append.mp hq with h | h
      · exact hS.2.2 q h
      · exact hL q h⟩ T' rfl X'
  exact ⟨t2, st t2 a1, b1⟩
end CallQ
section RCalls
variable {own : String} {cc : ByteArray} {nL d pc : Nat} {rt : Option FieldType} {lc : List (Option Value)} {st : List Value} {I : mI} {L : mL} {Q : Option Value → mI → mL → Prop}
theorem sum_rn (ad : Nat → Nat) : ∀ st : List Value, ((st.map (rn ad)).map fun v => v.category).sum = (st.map fun v => v.category).sum
  | [] => rfl
  | v :: r => by simp only [List.map_cons, List.sum_cons, rn_cat, sum_rn ad r]
/-- a call of a static method -/
theorem r_callS {index n d' : Nat} {y : MethodName} {M : mM} (As : List Value) {Q' : Option Value → mI → mL → Prop} (hM : MI y M n) (hw1 : Cond.methodLink own index y ∈ TB) (hw2 : Cond.static y ∈ TB) (hd : decode cc pc = .ok (.invokestatic index, 3)) (hdd : d' + 1 ≤ d) {st0 : List Value} (hst : st0 = As.reverse ++ st) (hn : As.length = n) (hr : (st.map fun v => v.category).sum ≤ 8) (hA : (entA As).length ≤ M.2.2.1)
    (hc : RR M d' 0 (entL M.2.2.1 As) [] I L Q') (k : ∀ v I L, Q' v I L → RR (own, cc, nL, rt) d (pc + 3) lc (v.toList ++ st) I L Q) : RR (own, cc, nL, rt) d pc lc st0 I L Q := by
  intro p l e s m args below meth c D ad ca H locs ls hC hP hS hl
  subst hst
  obtain ⟨hx, hb, -, hml, hown, -, hts, hK, hi, hO⟩ := id hC
  have hM' := hM
  obtain ⟨hM1, hM2, hM3, hM4, hM5, hM6⟩ := hM
  have hO' : Kons ad s H := hO.kept (fun a h1 h2 => hS.2.1 a h1 h2)
  have hcs := va_cwS (R := rmm d) (own := own) (index := index) (y := y) (bytes := M.2.1) (maxL := M.2.2.1) (ret := M.2.2.2) (ws := wsM y M) (rm := rmm d') (mc := 0) (ms := 0) n hts (fun w hw => by
    rcases List.mem_append.mp hw with h | h
    · rcases List.mem_cons.mp h with rfl | h
      · exact ⟨hw1, good_of_word (tb_good hw1)⟩
      · rcases List.mem_cons.mp h with rfl | h
        · exact ⟨hw2, good_of_word (tb_good hw2)⟩
        · rcases List.mem_cons.mp h with rfl | h
          · exact ⟨hM4, good_of_word (tb_good hM4)⟩
          · cases h
    · exact wsM_good hM3 w h) rfl rfl rfl hM5 ⟨hdd, by show 8 + (M.2.2.1 + 11) + 36 * d' ≤ 36 * d; omega⟩
  refine cq (va_runS (As := As.map (rn ad)) (rest := st.map (rn ad)) ⟨hx, hb, hml, hown, hts⟩ (RR.met (l := l) (D := D) (ad := ad) (ca := ca) hM' hi hA hc) hcs ⟨PP_blind, fun U hU hW => ⟨rfl, by rw [hU]; exact hP, va_K.moved hW.alike hK, by rw [hU]; exact hO'.moved hW.alike⟩⟩ rfl (by rw [List.length_map]; exact hn) hl.1 (by show List.map (rn ad) (As.reverse ++ st) = _; rw [List.map_append, List.map_reverse]) (lv_room (by rw [sum_rn]; exact hr)) hd ⟨Nat.zero_le _, Nat.zero_le _⟩) hS (fun v I' L' H1 locs1 hq hP1 hS1 => ?_)
  have h2 := k v I' L' hq p l e s m args below meth c D ad ca H1 locs1 ls hC hP1 hS1 hl
  rw [List.map_append] at h2
  cases v with
  | none => exact h2
  | some w => exact h2
/-- a call of an instance method on the object a -/
theorem r_callV {index n d' a ci : Nat} {fs : List (Nat × Nat)} {T : u_T} {N : Nat} {y : MethodName} {M : mM} (As : List Value) {Q' : Option Value → mI → mL → Prop} (hM : MI y M n) (hw1 : Cond.methodLink own index y ∈ TB) (hw2 : Cond.instanceMethod y ∈ TB) (hw3 : Cond.selects y.cls y y ∈ TB) (hs : sh a = some (.inr (ci, fs))) (hcl : classesX[ci]? = some (y.cls, T, N)) (hd : decode cc pc = .ok (.invokevirtual index, 3)) (hdd : d' + 1 ≤ d) {st0 : List Value} (hst : st0 = As.reverse ++ .ref a :: st) (hn : As.length = n) (hr : (st.map fun v => v.category).sum ≤ 8) (hA : (entA (.ref a :: As)).length ≤ M.2.2.1)
    (hc : RR M d' 0 (entL M.2.2.1 (.ref a :: As)) [] I L Q') (k : ∀ v I L, Q' v I L → RR (own, cc, nL, rt) d (pc + 3) lc (v.toList ++ st) I L Q) : RR (own, cc, nL, rt) d pc lc st0 I L Q := by
  intro p l e s m args below meth c D ad ca H locs ls hC hP hS hl
  subst hst
  obtain ⟨hx, hb, -, hml, hown, -, hts, hK, hi, hO⟩ := id hC
  have hM' := hM
  obtain ⟨hM1, hM2, hM3, hM4, hM5, hM6⟩ := hM
  have hO' : Kons ad s H := hO.kept (fun a h1 h2 => hS.2.1 a h1 h2)
  have hcs := cwV (R := rmm d) (own := own) (C := y.cls) (index := index) (y := y) (bytes := M.2.1) (maxL := M.2.2.1) (ret := M.2.2.2) (ws := wsM y M) (rm := rmm d') (mc := 0) (ms := 0) n hts (fun w hw => by
    unfold wsV at hw
    rcases List.mem_append.mp hw with h | h
    · rcases List.mem_cons.mp h with rfl | h
      · exact ⟨hw1, good_of_word (tb_good hw1)⟩
      · rcases List.mem_cons.mp h with rfl | h
        · exact ⟨hw2, good_of_word (tb_good hw2)⟩
        · rcases List.mem_cons.mp h with rfl | h
          · exact ⟨hw3, good_of_word (tb_good hw3)⟩
          · rcases List.mem_cons.mp h with rfl | h
            · exact ⟨hM4, good_of_word (tb_good hM4)⟩
            · cases h
    · exact wsM_good hM3 w h) rfl rfl rfl ⟨rfl, hM5⟩ ⟨hdd, by show 8 + (M.2.2.1 + 11) + 36 * d' ≤ 36 * d; omega⟩
  refine cq (va_runV (b := ad a) (As := As.map (rn ad)) (rest := st.map (rn ad)) ⟨hx, hb, hml, hown, hts⟩ (RR.met (l := l) (D := D) (ad := ad) (ca := ca) hM' hi hA hc) hcs ⟨PP_blind, va_recv hK hP hcl (wld_get hs), fun U hU hW => ⟨rfl, by rw [hU]; exact hP, va_K.moved hW.alike hK, by rw [hU]; exact hO'.moved hW.alike⟩⟩ rfl (by rw [List.length_map]; exact hn) hl.1 (by show List.map (rn ad) (As.reverse ++ .ref a :: st) = _; rw [List.map_append, List.map_reverse]; rfl) (lv_room (by rw [sum_rn]; exact hr)) hd ⟨Nat.zero_le _, Nat.zero_le _⟩) hS (fun v I' L' H1 locs1 hq hP1 hS1 => ?_)
  have h2 := k v I' L' hq p l e s m args below meth c D ad ca H1 locs1 ls hC hP1 hS1 hl
  rw [List.map_append] at h2
  cases v with
  | none => exact h2
  | some w => exact h2
end RCalls
end
