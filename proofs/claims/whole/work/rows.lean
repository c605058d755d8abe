section
-- ===== PART A: goes FIRST, ahead of the names: the tables' words, and 'selects' of the private methods out of them =====
/-- a private method of a class that the tables say can be made, by its rows of tables_1 -/
def lw_okq (q : MethodName × Nat) : Prop := (q.1.cls ≠ "java/lang/invoke/MethodHandle" ∧ q.1.cls ≠ "java/lang/invoke/VarHandle") ∧ Cond.instantiable q.1.cls q.2 ∈ tables_1 ∧ Cond.privateMethod q.1 ∈ tables_1 ∧ Cond.instanceMethod q.1 ∈ tables_1
theorem lw_p0 : lw_okq (⟨"ParishPull", "toldOfRoad", "(II)I"⟩, 10) := ⟨⟨by decide +kernel, by decide +kernel⟩, List.mem_of_getElem? (i := 23) (by decide +kernel), List.mem_of_getElem? (i := 507) (by decide +kernel), List.mem_of_getElem? (i := 508) (by decide +kernel)⟩
theorem lw_p1 : lw_okq (⟨"ParishPull", "toldOfCart", "(II)I"⟩, 10) := ⟨⟨by decide +kernel, by decide +kernel⟩, List.mem_of_getElem? (i := 23) (by decide +kernel), List.mem_of_getElem? (i := 511) (by decide +kernel), List.mem_of_getElem? (i := 512) (by decide +kernel)⟩
theorem lw_p2 : lw_okq (⟨"ParishPull", "toldOfGood", "(II)I"⟩, 10) := ⟨⟨by decide +kernel, by decide +kernel⟩, List.mem_of_getElem? (i := 23) (by decide +kernel), List.mem_of_getElem? (i := 519) (by decide +kernel), List.mem_of_getElem? (i := 520) (by decide +kernel)⟩
theorem lw_p3 : lw_okq (⟨"ParishPull", "toldOfPerson", "(II)I"⟩, 10) := ⟨⟨by decide +kernel, by decide +kernel⟩, List.mem_of_getElem? (i := 23) (by decide +kernel), List.mem_of_getElem? (i := 523) (by decide +kernel), List.mem_of_getElem? (i := 524) (by decide +kernel)⟩
theorem lw_p4 : lw_okq (⟨"ParishPull$Tape", "readParishes", "()Z"⟩, 4) := ⟨⟨by decide +kernel, by decide +kernel⟩, List.mem_of_getElem? (i := 154) (by decide +kernel), List.mem_of_getElem? (i := 556) (by decide +kernel), List.mem_of_getElem? (i := 557) (by decide +kernel)⟩
theorem lw_p5 : lw_okq (⟨"ParishPull$Tape", "readParish", "()Z"⟩, 4) := ⟨⟨by decide +kernel, by decide +kernel⟩, List.mem_of_getElem? (i := 154) (by decide +kernel), List.mem_of_getElem? (i := 560) (by decide +kernel), List.mem_of_getElem? (i := 561) (by decide +kernel)⟩
theorem lw_p6 : lw_okq (⟨"ParishPull$Tape", "skipBlanks", "()V"⟩, 4) := ⟨⟨by decide +kernel, by decide +kernel⟩, List.mem_of_getElem? (i := 154) (by decide +kernel), List.mem_of_getElem? (i := 564) (by decide +kernel), List.mem_of_getElem? (i := 565) (by decide +kernel)⟩
theorem lw_p7 : lw_okq (⟨"ParishPull$Tape", "digit", "(II)I"⟩, 4) := ⟨⟨by decide +kernel, by decide +kernel⟩, List.mem_of_getElem? (i := 154) (by decide +kernel), List.mem_of_getElem? (i := 652) (by decide +kernel), List.mem_of_getElem? (i := 653) (by decide +kernel)⟩
theorem lw_p8 : lw_okq (⟨"ParishPull$Tape", "takes", "(C)Z"⟩, 4) := ⟨⟨by decide +kernel, by decide +kernel⟩, List.mem_of_getElem? (i := 154) (by decide +kernel), List.mem_of_getElem? (i := 656) (by decide +kernel), List.mem_of_getElem? (i := 657) (by decide +kernel)⟩
theorem lw_p9 : lw_okq (⟨"ParishPull$Tape", "readRoads", "()Z"⟩, 4) := ⟨⟨by decide +kernel, by decide +kernel⟩, List.mem_of_getElem? (i := 154) (by decide +kernel), List.mem_of_getElem? (i := 660) (by decide +kernel), List.mem_of_getElem? (i := 661) (by decide +kernel)⟩
theorem lw_p10 : lw_okq (⟨"ParishPull$Tape", "readRoad", "()Z"⟩, 4) := ⟨⟨by decide +kernel, by decide +kernel⟩, List.mem_of_getElem? (i := 154) (by decide +kernel), List.mem_of_getElem? (i := 664) (by decide +kernel), List.mem_of_getElem? (i := 665) (by decide +kernel)⟩
theorem lw_p11 : lw_okq (⟨"ParishPull$State", "lighterParish", "(I)I"⟩, 13) := ⟨⟨by decide +kernel, by decide +kernel⟩, List.mem_of_getElem? (i := 31) (by decide +kernel), List.mem_of_getElem? (i := 703) (by decide +kernel), List.mem_of_getElem? (i := 704) (by decide +kernel)⟩
theorem lw_p12 : lw_okq (⟨"ParishPull$Routes", "start", "(I)V"⟩, 14) := ⟨⟨by decide +kernel, by decide +kernel⟩, List.mem_of_getElem? (i := 203) (by decide +kernel), List.mem_of_getElem? (i := 737) (by decide +kernel), List.mem_of_getElem? (i := 738) (by decide +kernel)⟩
theorem lw_p13 : lw_okq (⟨"ParishPull$Routes", "nearest", "()I"⟩, 14) := ⟨⟨by decide +kernel, by decide +kernel⟩, List.mem_of_getElem? (i := 203) (by decide +kernel), List.mem_of_getElem? (i := 742) (by decide +kernel), List.mem_of_getElem? (i := 743) (by decide +kernel)⟩
theorem lw_p14 : lw_okq (⟨"ParishPull$Routes", "leave", "(I)V"⟩, 14) := ⟨⟨by decide +kernel, by decide +kernel⟩, List.mem_of_getElem? (i := 203) (by decide +kernel), List.mem_of_getElem? (i := 746) (by decide +kernel), List.mem_of_getElem? (i := 747) (by decide +kernel)⟩
theorem lw_p15 : lw_okq (⟨"ParishPull$Routes", "roadCost", "(II)I"⟩, 14) := ⟨⟨by decide +kernel, by decide +kernel⟩, List.mem_of_getElem? (i := 203) (by decide +kernel), List.mem_of_getElem? (i := 750) (by decide +kernel), List.mem_of_getElem? (i := 751) (by decide +kernel)⟩
def lw_privs_1 : List (MethodName × Nat) := [(⟨"ParishPull", "toldOfRoad", "(II)I"⟩, 10), (⟨"ParishPull", "toldOfCart", "(II)I"⟩, 10), (⟨"ParishPull", "toldOfGood", "(II)I"⟩, 10), (⟨"ParishPull", "toldOfPerson", "(II)I"⟩, 10), (⟨"ParishPull$Tape", "readParishes", "()Z"⟩, 4), (⟨"ParishPull$Tape", "readParish", "()Z"⟩, 4), (⟨"ParishPull$Tape", "skipBlanks", "()V"⟩, 4), (⟨"ParishPull$Tape", "digit", "(II)I"⟩, 4), (⟨"ParishPull$Tape", "takes", "(C)Z"⟩, 4), (⟨"ParishPull$Tape", "readRoads", "()Z"⟩, 4), (⟨"ParishPull$Tape", "readRoad", "()Z"⟩, 4), (⟨"ParishPull$State", "lighterParish", "(I)I"⟩, 13), (⟨"ParishPull$Routes", "start", "(I)V"⟩, 14), (⟨"ParishPull$Routes", "nearest", "()I"⟩, 14), (⟨"ParishPull$Routes", "leave", "(I)V"⟩, 14), (⟨"ParishPull$Routes", "roadCost", "(II)I"⟩, 14)]
theorem lw_r1 : ∀ q ∈ lw_privs_1, lw_okq q := List.forall_mem_cons.mpr ⟨lw_p0, List.forall_mem_cons.mpr ⟨lw_p1, List.forall_mem_cons.mpr ⟨lw_p2, List.forall_mem_cons.mpr ⟨lw_p3, List.forall_mem_cons.mpr ⟨lw_p4, List.forall_mem_cons.mpr ⟨lw_p5, List.forall_mem_cons.mpr ⟨lw_p6, List.forall_mem_cons.mpr ⟨lw_p7, List.forall_mem_cons.mpr ⟨lw_p8, List.forall_mem_cons.mpr ⟨lw_p9, List.forall_mem_cons.mpr ⟨lw_p10, List.forall_mem_cons.mpr ⟨lw_p11, List.forall_mem_cons.mpr ⟨lw_p12, List.forall_mem_cons.mpr ⟨lw_p13, List.forall_mem_cons.mpr ⟨lw_p14, List.forall_mem_cons.mpr ⟨lw_p15, fun _ h => absurd h List.not_mem_nil⟩⟩⟩⟩⟩⟩⟩⟩⟩⟩⟩⟩⟩⟩⟩⟩
theorem lw_p16 : lw_okq (⟨"ParishPull$Routes", "findNext", "(I)V"⟩, 14) := ⟨⟨by decide +kernel, by decide +kernel⟩, List.mem_of_getElem? (i := 203) (by decide +kernel), List.mem_of_getElem? (i := 755) (by decide +kernel), List.mem_of_getElem? (i := 756) (by decide +kernel)⟩
theorem lw_p17 : lw_okq (⟨"ParishPull$Routes", "firstStep", "(III)I"⟩, 14) := ⟨⟨by decide +kernel, by decide +kernel⟩, List.mem_of_getElem? (i := 203) (by decide +kernel), List.mem_of_getElem? (i := 759) (by decide +kernel), List.mem_of_getElem? (i := 760) (by decide +kernel)⟩
theorem lw_p18 : lw_okq (⟨"ParishPull$Routes", "reaches", "(III)Z"⟩, 14) := ⟨⟨by decide +kernel, by decide +kernel⟩, List.mem_of_getElem? (i := 203) (by decide +kernel), List.mem_of_getElem? (i := 763) (by decide +kernel), List.mem_of_getElem? (i := 764) (by decide +kernel)⟩
theorem lw_p19 : lw_okq (⟨"ParishPull$Routes", "heaviestOpen", "()I"⟩, 14) := ⟨⟨by decide +kernel, by decide +kernel⟩, List.mem_of_getElem? (i := 203) (by decide +kernel), List.mem_of_getElem? (i := 788) (by decide +kernel), List.mem_of_getElem? (i := 789) (by decide +kernel)⟩
theorem lw_p20 : lw_okq (⟨"ParishPull$Trades", "findValues", "(II)V"⟩, 7) := ⟨⟨by decide +kernel, by decide +kernel⟩, List.mem_of_getElem? (i := 263) (by decide +kernel), List.mem_of_getElem? (i := 800) (by decide +kernel), List.mem_of_getElem? (i := 801) (by decide +kernel)⟩
theorem lw_p21 : lw_okq (⟨"ParishPull$Trades", "findGains", "(I)V"⟩, 7) := ⟨⟨by decide +kernel, by decide +kernel⟩, List.mem_of_getElem? (i := 263) (by decide +kernel), List.mem_of_getElem? (i := 819) (by decide +kernel), List.mem_of_getElem? (i := 820) (by decide +kernel)⟩
theorem lw_p22 : lw_okq (⟨"ParishPull$Trades", "endsGains", "(I)Z"⟩, 7) := ⟨⟨by decide +kernel, by decide +kernel⟩, List.mem_of_getElem? (i := 263) (by decide +kernel), List.mem_of_getElem? (i := 829) (by decide +kernel), List.mem_of_getElem? (i := 830) (by decide +kernel)⟩
theorem lw_p23 : lw_okq (⟨"ParishPull$Councils", "addTakes", "(III)V"⟩, 6) := ⟨⟨by decide +kernel, by decide +kernel⟩, List.mem_of_getElem? (i := 292) (by decide +kernel), List.mem_of_getElem? (i := 852) (by decide +kernel), List.mem_of_getElem? (i := 853) (by decide +kernel)⟩
theorem lw_p24 : lw_okq (⟨"ParishPull$Leagues", "addTotal", "(II)V"⟩, 5) := ⟨⟨by decide +kernel, by decide +kernel⟩, List.mem_of_getElem? (i := 319) (by decide +kernel), List.mem_of_getElem? (i := 877) (by decide +kernel), List.mem_of_getElem? (i := 878) (by decide +kernel)⟩
theorem lw_p25 : lw_okq (⟨"ParishPull", "isMember", "(II)Z"⟩, 10) := ⟨⟨by decide +kernel, by decide +kernel⟩, List.mem_of_getElem? (i := 23) (by decide +kernel), List.mem_of_getElem? (i := 886) (by decide +kernel), List.mem_of_getElem? (i := 887) (by decide +kernel)⟩
theorem lw_p26 : lw_okq (⟨"ParishPull$Leagues", "findTotals", "(II)V"⟩, 5) := ⟨⟨by decide +kernel, by decide +kernel⟩, List.mem_of_getElem? (i := 319) (by decide +kernel), List.mem_of_getElem? (i := 895) (by decide +kernel), List.mem_of_getElem? (i := 896) (by decide +kernel)⟩
theorem lw_p27 : lw_okq (⟨"ParishPull$Book", "pullsFor", "(J)I"⟩, 4) := ⟨⟨by decide +kernel, by decide +kernel⟩, List.mem_of_getElem? (i := 343) (by decide +kernel), List.mem_of_getElem? (i := 995) (by decide +kernel), List.mem_of_getElem? (i := 996) (by decide +kernel)⟩
theorem lw_p28 : lw_okq (⟨"ParishPullModel", "joins", "(I)I"⟩, 18) := ⟨⟨by decide +kernel, by decide +kernel⟩, List.mem_of_getElem? (i := 1053) (by decide +kernel), List.mem_of_getElem? (i := 1122) (by decide +kernel), List.mem_of_getElem? (i := 1123) (by decide +kernel)⟩
theorem lw_p29 : lw_okq (⟨"ParishPullModel", "isParish", "(I)Z"⟩, 18) := ⟨⟨by decide +kernel, by decide +kernel⟩, List.mem_of_getElem? (i := 1053) (by decide +kernel), List.mem_of_getElem? (i := 1130) (by decide +kernel), List.mem_of_getElem? (i := 1131) (by decide +kernel)⟩
theorem lw_p30 : lw_okq (⟨"ParishPullModel", "roadOf", "(II)I"⟩, 18) := ⟨⟨by decide +kernel, by decide +kernel⟩, List.mem_of_getElem? (i := 1053) (by decide +kernel), List.mem_of_getElem? (i := 1139) (by decide +kernel), List.mem_of_getElem? (i := 1140) (by decide +kernel)⟩
theorem lw_p31 : lw_okq (⟨"ParishPullModel", "isRoad", "(I)Z"⟩, 18) := ⟨⟨by decide +kernel, by decide +kernel⟩, List.mem_of_getElem? (i := 1053) (by decide +kernel), List.mem_of_getElem? (i := 1147) (by decide +kernel), List.mem_of_getElem? (i := 1148) (by decide +kernel)⟩
def lw_privs_2 : List (MethodName × Nat) := [(⟨"ParishPull$Routes", "findNext", "(I)V"⟩, 14), (⟨"ParishPull$Routes", "firstStep", "(III)I"⟩, 14), (⟨"ParishPull$Routes", "reaches", "(III)Z"⟩, 14), (⟨"ParishPull$Routes", "heaviestOpen", "()I"⟩, 14), (⟨"ParishPull$Trades", "findValues", "(II)V"⟩, 7), (⟨"ParishPull$Trades", "findGains", "(I)V"⟩, 7), (⟨"ParishPull$Trades", "endsGains", "(I)Z"⟩, 7), (⟨"ParishPull$Councils", "addTakes", "(III)V"⟩, 6), (⟨"ParishPull$Leagues", "addTotal", "(II)V"⟩, 5), (⟨"ParishPull", "isMember", "(II)Z"⟩, 10), (⟨"ParishPull$Leagues", "findTotals", "(II)V"⟩, 5), (⟨"ParishPull$Book", "pullsFor", "(J)I"⟩, 4), (⟨"ParishPullModel", "joins", "(I)I"⟩, 18), (⟨"ParishPullModel", "isParish", "(I)Z"⟩, 18), (⟨"ParishPullModel", "roadOf", "(II)I"⟩, 18), (⟨"ParishPullModel", "isRoad", "(I)Z"⟩, 18)]
theorem lw_r2 : ∀ q ∈ lw_privs_2, lw_okq q := List.forall_mem_cons.mpr ⟨lw_p16, List.forall_mem_cons.mpr ⟨lw_p17, List.forall_mem_cons.mpr ⟨lw_p18, List.forall_mem_cons.mpr ⟨lw_p19, List.forall_mem_cons.mpr ⟨lw_p20, List.forall_mem_cons.mpr ⟨lw_p21, List.forall_mem_cons.mpr ⟨lw_p22, List.forall_mem_cons.mpr ⟨lw_p23, List.forall_mem_cons.mpr ⟨lw_p24, List.forall_mem_cons.mpr ⟨lw_p25, List.forall_mem_cons.mpr ⟨lw_p26, List.forall_mem_cons.mpr ⟨lw_p27, List.forall_mem_cons.mpr ⟨lw_p28, List.forall_mem_cons.mpr ⟨lw_p29, List.forall_mem_cons.mpr ⟨lw_p30, List.forall_mem_cons.mpr ⟨lw_p31, fun _ h => absurd h List.not_mem_nil⟩⟩⟩⟩⟩⟩⟩⟩⟩⟩⟩⟩⟩⟩⟩⟩
theorem lw_p32 : lw_okq (⟨"ParishPullModel", "isGood", "(I)Z"⟩, 18) := ⟨⟨by decide +kernel, by decide +kernel⟩, List.mem_of_getElem? (i := 1053) (by decide +kernel), List.mem_of_getElem? (i := 1165) (by decide +kernel), List.mem_of_getElem? (i := 1166) (by decide +kernel)⟩
theorem lw_p33 : lw_okq (⟨"ParishPullModel", "weight", "(II)I"⟩, 18) := ⟨⟨by decide +kernel, by decide +kernel⟩, List.mem_of_getElem? (i := 1053) (by decide +kernel), List.mem_of_getElem? (i := 1169) (by decide +kernel), List.mem_of_getElem? (i := 1170) (by decide +kernel)⟩
theorem lw_p34 : lw_okq (⟨"ParishPullModel", "season", "()I"⟩, 18) := ⟨⟨by decide +kernel, by decide +kernel⟩, List.mem_of_getElem? (i := 1053) (by decide +kernel), List.mem_of_getElem? (i := 1173) (by decide +kernel), List.mem_of_getElem? (i := 1174) (by decide +kernel)⟩
theorem lw_p35 : lw_okq (⟨"ParishPullModel", "isCart", "(I)Z"⟩, 18) := ⟨⟨by decide +kernel, by decide +kernel⟩, List.mem_of_getElem? (i := 1053) (by decide +kernel), List.mem_of_getElem? (i := 1195) (by decide +kernel), List.mem_of_getElem? (i := 1196) (by decide +kernel)⟩
theorem lw_p36 : lw_okq (⟨"ParishPullModel", "isPerson", "(I)Z"⟩, 18) := ⟨⟨by decide +kernel, by decide +kernel⟩, List.mem_of_getElem? (i := 1053) (by decide +kernel), List.mem_of_getElem? (i := 1202) (by decide +kernel), List.mem_of_getElem? (i := 1203) (by decide +kernel)⟩
theorem lw_p37 : lw_okq (⟨"ParishPullModel", "reads", "()Z"⟩, 18) := ⟨⟨by decide +kernel, by decide +kernel⟩, List.mem_of_getElem? (i := 1053) (by decide +kernel), List.mem_of_getElem? (i := 1220) (by decide +kernel), List.mem_of_getElem? (i := 1221) (by decide +kernel)⟩
theorem lw_p38 : lw_okq (⟨"ParishPullModel", "readsParish", "()Z"⟩, 18) := ⟨⟨by decide +kernel, by decide +kernel⟩, List.mem_of_getElem? (i := 1053) (by decide +kernel), List.mem_of_getElem? (i := 1224) (by decide +kernel), List.mem_of_getElem? (i := 1225) (by decide +kernel)⟩
theorem lw_p39 : lw_okq (⟨"ParishPullModel", "next", "()I"⟩, 18) := ⟨⟨by decide +kernel, by decide +kernel⟩, List.mem_of_getElem? (i := 1053) (by decide +kernel), List.mem_of_getElem? (i := 1228) (by decide +kernel), List.mem_of_getElem? (i := 1229) (by decide +kernel)⟩
theorem lw_p40 : lw_okq (⟨"ParishPullModel", "isDigit", "(II)Z"⟩, 18) := ⟨⟨by decide +kernel, by decide +kernel⟩, List.mem_of_getElem? (i := 1053) (by decide +kernel), List.mem_of_getElem? (i := 1235) (by decide +kernel), List.mem_of_getElem? (i := 1236) (by decide +kernel)⟩
theorem lw_p41 : lw_okq (⟨"ParishPullModel", "digit", "()I"⟩, 18) := ⟨⟨by decide +kernel, by decide +kernel⟩, List.mem_of_getElem? (i := 1053) (by decide +kernel), List.mem_of_getElem? (i := 1239) (by decide +kernel), List.mem_of_getElem? (i := 1240) (by decide +kernel)⟩
theorem lw_p42 : lw_okq (⟨"ParishPullModel", "readsRoad", "()Z"⟩, 18) := ⟨⟨by decide +kernel, by decide +kernel⟩, List.mem_of_getElem? (i := 1053) (by decide +kernel), List.mem_of_getElem? (i := 1243) (by decide +kernel), List.mem_of_getElem? (i := 1244) (by decide +kernel)⟩
theorem lw_p43 : lw_okq (⟨"ParishPullModel", "goes", "(I)I"⟩, 18) := ⟨⟨by decide +kernel, by decide +kernel⟩, List.mem_of_getElem? (i := 1053) (by decide +kernel), List.mem_of_getElem? (i := 1257) (by decide +kernel), List.mem_of_getElem? (i := 1258) (by decide +kernel)⟩
theorem lw_p44 : lw_okq (⟨"ParishPullModel", "layWays", "(III)V"⟩, 18) := ⟨⟨by decide +kernel, by decide +kernel⟩, List.mem_of_getElem? (i := 1053) (by decide +kernel), List.mem_of_getElem? (i := 1266) (by decide +kernel), List.mem_of_getElem? (i := 1267) (by decide +kernel)⟩
theorem lw_p45 : lw_okq (⟨"ParishPullModel", "bears", "(III)Z"⟩, 18) := ⟨⟨by decide +kernel, by decide +kernel⟩, List.mem_of_getElem? (i := 1053) (by decide +kernel), List.mem_of_getElem? (i := 1270) (by decide +kernel), List.mem_of_getElem? (i := 1271) (by decide +kernel)⟩
theorem lw_p46 : lw_okq (⟨"ParishPullModel", "costOf", "(IIIII)I"⟩, 18) := ⟨⟨by decide +kernel, by decide +kernel⟩, List.mem_of_getElem? (i := 1053) (by decide +kernel), List.mem_of_getElem? (i := 1275) (by decide +kernel), List.mem_of_getElem? (i := 1276) (by decide +kernel)⟩
theorem lw_p47 : lw_okq (⟨"ParishPullModel", "layPath", "(IIII)I"⟩, 18) := ⟨⟨by decide +kernel, by decide +kernel⟩, List.mem_of_getElem? (i := 1053) (by decide +kernel), List.mem_of_getElem? (i := 1279) (by decide +kernel), List.mem_of_getElem? (i := 1280) (by decide +kernel)⟩
def lw_privs_3 : List (MethodName × Nat) := [(⟨"ParishPullModel", "isGood", "(I)Z"⟩, 18), (⟨"ParishPullModel", "weight", "(II)I"⟩, 18), (⟨"ParishPullModel", "season", "()I"⟩, 18), (⟨"ParishPullModel", "isCart", "(I)Z"⟩, 18), (⟨"ParishPullModel", "isPerson", "(I)Z"⟩, 18), (⟨"ParishPullModel", "reads", "()Z"⟩, 18), (⟨"ParishPullModel", "readsParish", "()Z"⟩, 18), (⟨"ParishPullModel", "next", "()I"⟩, 18), (⟨"ParishPullModel", "isDigit", "(II)Z"⟩, 18), (⟨"ParishPullModel", "digit", "()I"⟩, 18), (⟨"ParishPullModel", "readsRoad", "()Z"⟩, 18), (⟨"ParishPullModel", "goes", "(I)I"⟩, 18), (⟨"ParishPullModel", "layWays", "(III)V"⟩, 18), (⟨"ParishPullModel", "bears", "(III)Z"⟩, 18), (⟨"ParishPullModel", "costOf", "(IIIII)I"⟩, 18), (⟨"ParishPullModel", "layPath", "(IIII)I"⟩, 18)]
theorem lw_r3 : ∀ q ∈ lw_privs_3, lw_okq q := List.forall_mem_cons.mpr ⟨lw_p32, List.forall_mem_cons.mpr ⟨lw_p33, List.forall_mem_cons.mpr ⟨lw_p34, List.forall_mem_cons.mpr ⟨lw_p35, List.forall_mem_cons.mpr ⟨lw_p36, List.forall_mem_cons.mpr ⟨lw_p37, List.forall_mem_cons.mpr ⟨lw_p38, List.forall_mem_cons.mpr ⟨lw_p39, List.forall_mem_cons.mpr ⟨lw_p40, List.forall_mem_cons.mpr ⟨lw_p41, List.forall_mem_cons.mpr ⟨lw_p42, List.forall_mem_cons.mpr ⟨lw_p43, List.forall_mem_cons.mpr ⟨lw_p44, List.forall_mem_cons.mpr ⟨lw_p45, List.forall_mem_cons.mpr ⟨lw_p46, List.forall_mem_cons.mpr ⟨lw_p47, fun _ h => absurd h List.not_mem_nil⟩⟩⟩⟩⟩⟩⟩⟩⟩⟩⟩⟩⟩⟩⟩⟩
theorem lw_p48 : lw_okq (⟨"ParishPullModel", "netOf", "(II)I"⟩, 18) := ⟨⟨by decide +kernel, by decide +kernel⟩, List.mem_of_getElem? (i := 1053) (by decide +kernel), List.mem_of_getElem? (i := 1288) (by decide +kernel), List.mem_of_getElem? (i := 1289) (by decide +kernel)⟩
theorem lw_p49 : lw_okq (⟨"ParishPullModel", "marketOf", "(III)I"⟩, 18) := ⟨⟨by decide +kernel, by decide +kernel⟩, List.mem_of_getElem? (i := 1053) (by decide +kernel), List.mem_of_getElem? (i := 1298) (by decide +kernel), List.mem_of_getElem? (i := 1299) (by decide +kernel)⟩
theorem lw_p50 : lw_okq (⟨"ParishPullModel", "isEnded", "(II)Z"⟩, 18) := ⟨⟨by decide +kernel, by decide +kernel⟩, List.mem_of_getElem? (i := 1053) (by decide +kernel), List.mem_of_getElem? (i := 1316) (by decide +kernel), List.mem_of_getElem? (i := 1317) (by decide +kernel)⟩
theorem lw_p51 : lw_okq (⟨"ParishPullModel", "paid", "(III)I"⟩, 18) := ⟨⟨by decide +kernel, by decide +kernel⟩, List.mem_of_getElem? (i := 1053) (by decide +kernel), List.mem_of_getElem? (i := 1320) (by decide +kernel), List.mem_of_getElem? (i := 1321) (by decide +kernel)⟩
theorem lw_p52 : lw_okq (⟨"ParishPullModel", "takeOf", "(II)I"⟩, 18) := ⟨⟨by decide +kernel, by decide +kernel⟩, List.mem_of_getElem? (i := 1053) (by decide +kernel), List.mem_of_getElem? (i := 1328) (by decide +kernel), List.mem_of_getElem? (i := 1329) (by decide +kernel)⟩
theorem lw_p53 : lw_okq (⟨"ParishPullModel", "isSet", "(I)Z"⟩, 18) := ⟨⟨by decide +kernel, by decide +kernel⟩, List.mem_of_getElem? (i := 1053) (by decide +kernel), List.mem_of_getElem? (i := 1340) (by decide +kernel), List.mem_of_getElem? (i := 1341) (by decide +kernel)⟩
theorem lw_p54 : lw_okq (⟨"ParishPullModel", "worthOf", "(II)I"⟩, 18) := ⟨⟨by decide +kernel, by decide +kernel⟩, List.mem_of_getElem? (i := 1053) (by decide +kernel), List.mem_of_getElem? (i := 1344) (by decide +kernel), List.mem_of_getElem? (i := 1345) (by decide +kernel)⟩
theorem lw_p55 : lw_okq (⟨"ParishPullModel", "layPart", "(III)Z"⟩, 18) := ⟨⟨by decide +kernel, by decide +kernel⟩, List.mem_of_getElem? (i := 1053) (by decide +kernel), List.mem_of_getElem? (i := 1352) (by decide +kernel), List.mem_of_getElem? (i := 1353) (by decide +kernel)⟩
theorem lw_p56 : lw_okq (⟨"ParishPullModel", "finds", "(IIII)I"⟩, 18) := ⟨⟨by decide +kernel, by decide +kernel⟩, List.mem_of_getElem? (i := 1053) (by decide +kernel), List.mem_of_getElem? (i := 1390) (by decide +kernel), List.mem_of_getElem? (i := 1391) (by decide +kernel)⟩
theorem lw_p57 : lw_okq (⟨"ParishPullModel", "evens", "(III)I"⟩, 18) := ⟨⟨by decide +kernel, by decide +kernel⟩, List.mem_of_getElem? (i := 1053) (by decide +kernel), List.mem_of_getElem? (i := 1398) (by decide +kernel), List.mem_of_getElem? (i := 1399) (by decide +kernel)⟩
theorem lw_p58 : lw_okq (⟨"ParishPullModel", "layBook", "(IIIII)I"⟩, 18) := ⟨⟨by decide +kernel, by decide +kernel⟩, List.mem_of_getElem? (i := 1053) (by decide +kernel), List.mem_of_getElem? (i := 1408) (by decide +kernel), List.mem_of_getElem? (i := 1409) (by decide +kernel)⟩
def lw_privs_4 : List (MethodName × Nat) := [(⟨"ParishPullModel", "netOf", "(II)I"⟩, 18), (⟨"ParishPullModel", "marketOf", "(III)I"⟩, 18), (⟨"ParishPullModel", "isEnded", "(II)Z"⟩, 18), (⟨"ParishPullModel", "paid", "(III)I"⟩, 18), (⟨"ParishPullModel", "takeOf", "(II)I"⟩, 18), (⟨"ParishPullModel", "isSet", "(I)Z"⟩, 18), (⟨"ParishPullModel", "worthOf", "(II)I"⟩, 18), (⟨"ParishPullModel", "layPart", "(III)Z"⟩, 18), (⟨"ParishPullModel", "finds", "(IIII)I"⟩, 18), (⟨"ParishPullModel", "evens", "(III)I"⟩, 18), (⟨"ParishPullModel", "layBook", "(IIIII)I"⟩, 18)]
theorem lw_r4 : ∀ q ∈ lw_privs_4, lw_okq q := List.forall_mem_cons.mpr ⟨lw_p48, List.forall_mem_cons.mpr ⟨lw_p49, List.forall_mem_cons.mpr ⟨lw_p50, List.forall_mem_cons.mpr ⟨lw_p51, List.forall_mem_cons.mpr ⟨lw_p52, List.forall_mem_cons.mpr ⟨lw_p53, List.forall_mem_cons.mpr ⟨lw_p54, List.forall_mem_cons.mpr ⟨lw_p55, List.forall_mem_cons.mpr ⟨lw_p56, List.forall_mem_cons.mpr ⟨lw_p57, List.forall_mem_cons.mpr ⟨lw_p58, fun _ h => absurd h List.not_mem_nil⟩⟩⟩⟩⟩⟩⟩⟩⟩⟩⟩
def lw_privs : List (MethodName × Nat) := lw_privs_1 ++ (lw_privs_2 ++ (lw_privs_3 ++ (lw_privs_4)))
def lw_tbl : List Cond := k2_sels lw_privs ++ tables_1
theorem lw_privs_ok : ∀ q ∈ lw_privs, lw_okq q := by
  show ∀ q ∈ lw_privs_1 ++ (lw_privs_2 ++ (lw_privs_3 ++ (lw_privs_4))), lw_okq q
  exact List.forall_mem_append.mpr ⟨lw_r1, List.forall_mem_append.mpr ⟨lw_r2, List.forall_mem_append.mpr ⟨lw_r3, lw_r4⟩⟩⟩
end
section
def RX0 : String := "ParishPull$Beam"
def TX0 : u_T := fun k => match k with
  | _ => ("", "", "", false)
def tyX0 : Nat → FieldType := fun k => match k with
  | _ => .int
abbrev wsX00 : List Cond := u_ws RX0 TX0 0
theorem nmX0 : ∀ a, a < 0 → ∀ b, b < 0 → a ≠ b → (TX0 a).2.1 ≠ (TX0 b).2.1 := by decide +kernel
theorem tyX0_ok : ∀ k, k < 0 → parseFieldDescriptor (TX0 k).2.2.1 = some (tyX0 k) := by decide +kernel
abbrev cX0_areStones : ByteArray := prog_2_method_2_code
def yX0_areStones : MethodName := ⟨RX0, "areStones", "([JII)Z"⟩
abbrev cX0_turning : ByteArray := prog_2_method_3_code
def yX0_turning : MethodName := ⟨RX0, "turning", "(LParishPull$State;II[JII)I"⟩
abbrev cX0_fewest : ByteArray := prog_2_method_4_code
def yX0_fewest : MethodName := ⟨RX0, "fewest", "(III)I"⟩
abbrev cX0_stonesFor : ByteArray := prog_2_method_5_code
def yX0_stonesFor : MethodName := ⟨RX0, "stonesFor", "(I)I"⟩
def RX1 : String := "ParishPull$Book"
def TX1 : u_T := fun k => match k with
  | 0 => ("ParishPull$Book", "fitting", "[I", true)
  | 1 => ("ParishPull$Book", "kind", "I", false)
  | 2 => ("ParishPull$Book", "mass", "I", false)
  | _ => ("ParishPull$Book", "week", "I", false)
def tyX1 : Nat → FieldType := fun k => match k with
  | 0 => .array .int
  | 1 => .int
  | 2 => .int
  | _ => .int
abbrev wsX10 : List Cond := u_ws RX1 TX1 4
theorem nmX1 : ∀ a, a < 4 → ∀ b, b < 4 → a ≠ b → (TX1 a).2.1 ≠ (TX1 b).2.1 := by decide +kernel
theorem tyX1_ok : ∀ k, k < 4 → parseFieldDescriptor (TX1 k).2.2.1 = some (tyX1 k) := by decide +kernel
abbrev cX1_init : ByteArray := prog_3_method_1_code
def yX1_init : MethodName := ⟨RX1, "<init>", "()V"⟩
abbrev cX1_open : ByteArray := prog_3_method_2_code
def yX1_open : MethodName := ⟨RX1, "open", "(III)V"⟩
abbrev cX1_readItems : ByteArray := prog_3_method_3_code
def yX1_readItems : MethodName := ⟨RX1, "readItems", "([JII)I"⟩
abbrev cX1_fittingRows : ByteArray := prog_3_method_4_code
def yX1_fittingRows : MethodName := ⟨RX1, "fittingRows", "()I"⟩
abbrev cX1_sureSeasons : ByteArray := prog_3_method_5_code
def yX1_sureSeasons : MethodName := ⟨RX1, "sureSeasons", "()I"⟩
abbrev cX1_pullsFor : ByteArray := prog_3_method_6_code
def yX1_pullsFor : MethodName := ⟨RX1, "pullsFor", "(J)I"⟩
def RX2 : String := "ParishPull$Councils"
def TX2 : u_T := fun k => match k with
  | 0 => ("ParishPull$Councils", "state", "LParishPull$State;", true)
  | 1 => ("ParishPull$Councils", "routes", "LParishPull$Routes;", true)
  | 2 => ("ParishPull$Councils", "firstTakes", "[I", true)
  | 3 => ("ParishPull$Councils", "otherTakes", "[I", true)
  | 4 => ("ParishPull$Councils", "rests", "I", false)
  | _ => ("ParishPull$Councils", "firstRest", "I", false)
def tyX2 : Nat → FieldType := fun k => match k with
  | 0 => .object "ParishPull$State"
  | 1 => .object "ParishPull$Routes"
  | 2 => .array .int
  | 3 => .array .int
  | 4 => .int
  | _ => .int
abbrev wsX20 : List Cond := u_ws RX2 TX2 6
theorem nmX2 : ∀ a, a < 6 → ∀ b, b < 6 → a ≠ b → (TX2 a).2.1 ≠ (TX2 b).2.1 := by decide +kernel
theorem tyX2_ok : ∀ k, k < 6 → parseFieldDescriptor (TX2 k).2.2.1 = some (tyX2 k) := by decide +kernel
abbrev cX2_init : ByteArray := prog_4_method_1_code
def yX2_init : MethodName := ⟨RX2, "<init>", "(LParishPull$State;LParishPull$Routes;)V"⟩
abbrev cX2_takeOf : ByteArray := prog_4_method_2_code
def yX2_takeOf : MethodName := ⟨RX2, "takeOf", "(II)I"⟩
abbrev cX2_findRests : ByteArray := prog_4_method_3_code
def yX2_findRests : MethodName := ⟨RX2, "findRests", "(III)V"⟩
abbrev cX2_addTakes : ByteArray := prog_4_method_4_code
def yX2_addTakes : MethodName := ⟨RX2, "addTakes", "(III)V"⟩
abbrev cX2_most : ByteArray := prog_4_method_5_code
def yX2_most : MethodName := ⟨RX2, "most", "([III)I"⟩
def RX3 : String := "ParishPull$Ground"
def TX3 : u_T := fun k => match k with
  | 0 => ("ParishPull$Ground", "kinds", "[I", true)
  | 1 => ("ParishPull$Ground", "pulls", "[I", true)
  | 2 => ("ParishPull$Ground", "lesser", "[I", true)
  | 3 => ("ParishPull$Ground", "greater", "[I", true)
  | 4 => ("ParishPull$Ground", "tolls", "[I", true)
  | 5 => ("ParishPull$Ground", "parishes", "I", false)
  | _ => ("ParishPull$Ground", "roads", "I", false)
def tyX3 : Nat → FieldType := fun k => match k with
  | 0 => .array .int
  | 1 => .array .int
  | 2 => .array .int
  | 3 => .array .int
  | 4 => .array .int
  | 5 => .int
  | _ => .int
abbrev wsX30 : List Cond := u_ws RX3 TX3 7
theorem nmX3 : ∀ a, a < 7 → ∀ b, b < 7 → a ≠ b → (TX3 a).2.1 ≠ (TX3 b).2.1 := by decide +kernel
theorem tyX3_ok : ∀ k, k < 7 → parseFieldDescriptor (TX3 k).2.2.1 = some (tyX3 k) := by decide +kernel
abbrev cX3_init : ByteArray := prog_5_method_1_code
def yX3_init : MethodName := ⟨RX3, "<init>", "()V"⟩
abbrev cX3_weight : ByteArray := prog_5_method_2_code
def yX3_weight : MethodName := ⟨RX3, "weight", "(III)I"⟩
abbrev cX3_clear : ByteArray := prog_5_method_3_code
def yX3_clear : MethodName := ⟨RX3, "clear", "()V"⟩
abbrev cX3_hasParish : ByteArray := prog_5_method_4_code
def yX3_hasParish : MethodName := ⟨RX3, "hasParish", "(I)Z"⟩
abbrev cX3_hasRoad : ByteArray := prog_5_method_5_code
def yX3_hasRoad : MethodName := ⟨RX3, "hasRoad", "(I)Z"⟩
abbrev cX3_hasSet : ByteArray := prog_5_method_6_code
def yX3_hasSet : MethodName := ⟨RX3, "hasSet", "(I)Z"⟩
abbrev cX3_addParish : ByteArray := prog_5_method_7_code
def yX3_addParish : MethodName := ⟨RX3, "addParish", "(I)I"⟩
abbrev cX3_addRoad : ByteArray := prog_5_method_8_code
def yX3_addRoad : MethodName := ⟨RX3, "addRoad", "(III)I"⟩
abbrev cX3_joins : ByteArray := prog_5_method_9_code
def yX3_joins : MethodName := ⟨RX3, "joins", "(II)Z"⟩
abbrev cX3_roadsAt : ByteArray := prog_5_method_10_code
def yX3_roadsAt : MethodName := ⟨RX3, "roadsAt", "(I)I"⟩
abbrev cX3_otherEnd : ByteArray := prog_5_method_11_code
def yX3_otherEnd : MethodName := ⟨RX3, "otherEnd", "(II)I"⟩
abbrev cX3_copyFrom : ByteArray := prog_5_method_12_code
def yX3_copyFrom : MethodName := ⟨RX3, "copyFrom", "(LParishPull$Ground;)V"⟩
def RX4 : String := "ParishPull$Leagues"
def TX4 : u_T := fun k => match k with
  | 0 => ("ParishPull$Leagues", "state", "LParishPull$State;", true)
  | 1 => ("ParishPull$Leagues", "routes", "LParishPull$Routes;", true)
  | 2 => ("ParishPull$Leagues", "totals", "[I", true)
  | 3 => ("ParishPull$Leagues", "partUpper", "J", false)
  | _ => ("ParishPull$Leagues", "partLower", "J", false)
def tyX4 : Nat → FieldType := fun k => match k with
  | 0 => .object "ParishPull$State"
  | 1 => .object "ParishPull$Routes"
  | 2 => .array .int
  | 3 => .long
  | _ => .long
abbrev wsX40 : List Cond := u_ws RX4 TX4 5
theorem nmX4 : ∀ a, a < 5 → ∀ b, b < 5 → a ≠ b → (TX4 a).2.1 ≠ (TX4 b).2.1 := by decide +kernel
theorem tyX4_ok : ∀ k, k < 5 → parseFieldDescriptor (TX4 k).2.2.1 = some (tyX4 k) := by decide +kernel
abbrev cX4_init : ByteArray := prog_6_method_1_code
def yX4_init : MethodName := ⟨RX4, "<init>", "(LParishPull$State;LParishPull$Routes;)V"⟩
abbrev cX4_worth : ByteArray := prog_6_method_2_code
def yX4_worth : MethodName := ⟨RX4, "worth", "(II)I"⟩
abbrev cX4_findPart : ByteArray := prog_6_method_3_code
def yX4_findPart : MethodName := ⟨RX4, "findPart", "(III)V"⟩
abbrev cX4_findTotals : ByteArray := prog_6_method_4_code
def yX4_findTotals : MethodName := ⟨RX4, "findTotals", "(II)V"⟩
abbrev cX4_addTotal : ByteArray := prog_6_method_5_code
def yX4_addTotal : MethodName := ⟨RX4, "addTotal", "(II)V"⟩
abbrev cX4_commonDivisor : ByteArray := prog_6_method_6_code
def yX4_commonDivisor : MethodName := ⟨RX4, "commonDivisor", "(JJ)J"⟩
def RX5 : String := "ParishPull$Routes"
def TX5 : u_T := fun k => match k with
  | 0 => ("ParishPull$Routes", "state", "LParishPull$State;", true)
  | 1 => ("ParishPull$Routes", "tolls", "[I", true)
  | 2 => ("ParishPull$Routes", "between", "[I", true)
  | 3 => ("ParishPull$Routes", "weights", "[I", true)
  | 4 => ("ParishPull$Routes", "costs", "[I", true)
  | 5 => ("ParishPull$Routes", "next", "[I", true)
  | 6 => ("ParishPull$Routes", "path", "[I", true)
  | 7 => ("ParishPull$Routes", "length", "I", false)
  | 8 => ("ParishPull$Routes", "parishes", "I", false)
  | 9 => ("ParishPull$Routes", "borne", "I", false)
  | 10 => ("ParishPull$Routes", "cost", "I", false)
  | 11 => ("ParishPull$Routes", "league", "I", false)
  | 12 => ("ParishPull$Routes", "open", "I", false)
  | _ => ("ParishPull$Routes", "bestNet", "I", false)
def tyX5 : Nat → FieldType := fun k => match k with
  | 0 => .object "ParishPull$State"
  | 1 => .array .int
  | 2 => .array .int
  | 3 => .array .int
  | 4 => .array .int
  | 5 => .array .int
  | 6 => .array .int
  | 7 => .int
  | 8 => .int
  | 9 => .int
  | 10 => .int
  | 11 => .int
  | 12 => .int
  | _ => .int
abbrev wsX50 : List Cond := u_ws RX5 TX5 14
theorem nmX5 : ∀ a, a < 14 → ∀ b, b < 14 → a ≠ b → (TX5 a).2.1 ≠ (TX5 b).2.1 := by decide +kernel
theorem tyX5_ok : ∀ k, k < 14 → parseFieldDescriptor (TX5 k).2.2.1 = some (tyX5 k) := by decide +kernel
abbrev cX5_init : ByteArray := prog_7_method_1_code
def yX5_init : MethodName := ⟨RX5, "<init>", "(LParishPull$State;)V"⟩
abbrev cX5_harness : ByteArray := prog_7_method_2_code
def yX5_harness : MethodName := ⟨RX5, "harness", "(I)V"⟩
abbrev cX5_weigh : ByteArray := prog_7_method_3_code
def yX5_weigh : MethodName := ⟨RX5, "weigh", "(I)V"⟩
abbrev cX5_spread : ByteArray := prog_7_method_4_code
def yX5_spread : MethodName := ⟨RX5, "spread", "(I)V"⟩
abbrev cX5_bestPlace : ByteArray := prog_7_method_5_code
def yX5_bestPlace : MethodName := ⟨RX5, "bestPlace", "(II)I"⟩
abbrev cX5_marketOf : ByteArray := prog_7_method_6_code
def yX5_marketOf : MethodName := ⟨RX5, "marketOf", "(I)I"⟩
abbrev cX5_start : ByteArray := prog_7_method_7_code
def yX5_start : MethodName := ⟨RX5, "start", "(I)V"⟩
abbrev cX5_heaviestOpen : ByteArray := prog_7_method_8_code
def yX5_heaviestOpen : MethodName := ⟨RX5, "heaviestOpen", "()I"⟩
abbrev cX5_nearest : ByteArray := prog_7_method_9_code
def yX5_nearest : MethodName := ⟨RX5, "nearest", "()I"⟩
abbrev cX5_leave : ByteArray := prog_7_method_10_code
def yX5_leave : MethodName := ⟨RX5, "leave", "(I)V"⟩
abbrev cX5_roadCost : ByteArray := prog_7_method_11_code
def yX5_roadCost : MethodName := ⟨RX5, "roadCost", "(II)I"⟩
abbrev cX5_leads : ByteArray := prog_7_method_12_code
def yX5_leads : MethodName := ⟨RX5, "leads", "(II)Z"⟩
abbrev cX5_spreadAll : ByteArray := prog_7_method_13_code
def yX5_spreadAll : MethodName := ⟨RX5, "spreadAll", "()V"⟩
abbrev cX5_trace : ByteArray := prog_7_method_14_code
def yX5_trace : MethodName := ⟨RX5, "trace", "(II)Z"⟩
abbrev cX5_findNext : ByteArray := prog_7_method_15_code
def yX5_findNext : MethodName := ⟨RX5, "findNext", "(I)V"⟩
abbrev cX5_firstStep : ByteArray := prog_7_method_16_code
def yX5_firstStep : MethodName := ⟨RX5, "firstStep", "(III)I"⟩
abbrev cX5_reaches : ByteArray := prog_7_method_17_code
def yX5_reaches : MethodName := ⟨RX5, "reaches", "(III)Z"⟩
def RX6 : String := "ParishPull$Sheets"
def TX6 : u_T := fun k => match k with
  | 0 => ("ParishPull$Sheets", "rows", "[[J", true)
  | 1 => ("ParishPull$Sheets", "lanes", "[I", true)
  | 2 => ("ParishPull$Sheets", "lengths", "[I", true)
  | _ => ("ParishPull$Sheets", "present", "[Z", true)
def tyX6 : Nat → FieldType := fun k => match k with
  | 0 => .array (.array .long)
  | 1 => .array .int
  | 2 => .array .int
  | _ => .array .boolean
abbrev wsX60 : List Cond := u_ws RX6 TX6 4
theorem nmX6 : ∀ a, a < 4 → ∀ b, b < 4 → a ≠ b → (TX6 a).2.1 ≠ (TX6 b).2.1 := by decide +kernel
theorem tyX6_ok : ∀ k, k < 4 → parseFieldDescriptor (TX6 k).2.2.1 = some (tyX6 k) := by decide +kernel
abbrev cX6_init : ByteArray := prog_8_method_1_code
def yX6_init : MethodName := ⟨RX6, "<init>", "()V"⟩
abbrev cX6_isSheet : ByteArray := prog_8_method_2_code
def yX6_isSheet : MethodName := ⟨RX6, "isSheet", "(I)Z"⟩
abbrev cX6_isLane : ByteArray := prog_8_method_3_code
def yX6_isLane : MethodName := ⟨RX6, "isLane", "(II)Z"⟩
abbrev cX6_isMissing : ByteArray := prog_8_method_4_code
def yX6_isMissing : MethodName := ⟨RX6, "isMissing", "(I)Z"⟩
abbrev cX6_fault : ByteArray := prog_8_method_5_code
def yX6_fault : MethodName := ⟨RX6, "fault", "(IIII)I"⟩
abbrev cX6_holds : ByteArray := prog_8_method_6_code
def yX6_holds : MethodName := ⟨RX6, "holds", "(III)Z"⟩
abbrev cX6_renew : ByteArray := prog_8_method_7_code
def yX6_renew : MethodName := ⟨RX6, "renew", "(III)V"⟩
abbrev cX6_empty : ByteArray := prog_8_method_8_code
def yX6_empty : MethodName := ⟨RX6, "empty", "(I)I"⟩
abbrev cX6_put : ByteArray := prog_8_method_9_code
def yX6_put : MethodName := ⟨RX6, "put", "(IIJ)V"⟩
def RX7 : String := "ParishPull$State"
def TX7 : u_T := fun k => match k with
  | 0 => ("ParishPull$State", "ground", "LParishPull$Ground;", true)
  | 1 => ("ParishPull$State", "bears", "[I", true)
  | 2 => ("ParishPull$State", "costs", "[I", true)
  | 3 => ("ParishPull$State", "masses", "[I", true)
  | 4 => ("ParishPull$State", "prices", "[I", true)
  | 5 => ("ParishPull$State", "places", "[I", true)
  | 6 => ("ParishPull$State", "ropes", "[I", true)
  | 7 => ("ParishPull$State", "bodies", "[I", true)
  | 8 => ("ParishPull$State", "homes", "[I", true)
  | 9 => ("ParishPull$State", "carts", "I", false)
  | 10 => ("ParishPull$State", "goods", "I", false)
  | 11 => ("ParishPull$State", "people", "I", false)
  | _ => ("ParishPull$State", "week", "I", false)
def tyX7 : Nat → FieldType := fun k => match k with
  | 0 => .object "ParishPull$Ground"
  | 1 => .array .int
  | 2 => .array .int
  | 3 => .array .int
  | 4 => .array .int
  | 5 => .array .int
  | 6 => .array .int
  | 7 => .array .int
  | 8 => .array .int
  | 9 => .int
  | 10 => .int
  | 11 => .int
  | _ => .int
abbrev wsX70 : List Cond := u_ws RX7 TX7 13
theorem nmX7 : ∀ a, a < 13 → ∀ b, b < 13 → a ≠ b → (TX7 a).2.1 ≠ (TX7 b).2.1 := by decide +kernel
theorem tyX7_ok : ∀ k, k < 13 → parseFieldDescriptor (TX7 k).2.2.1 = some (tyX7 k) := by decide +kernel
abbrev cX7_init : ByteArray := prog_9_method_1_code
def yX7_init : MethodName := ⟨RX7, "<init>", "()V"⟩
abbrev cX7_seasonOf : ByteArray := prog_9_method_2_code
def yX7_seasonOf : MethodName := ⟨RX7, "seasonOf", "(I)I"⟩
abbrev cX7_season : ByteArray := prog_9_method_3_code
def yX7_season : MethodName := ⟨RX7, "season", "()I"⟩
abbrev cX7_weightAt : ByteArray := prog_9_method_4_code
def yX7_weightAt : MethodName := ⟨RX7, "weightAt", "(II)I"⟩
abbrev cX7_weightOfGood : ByteArray := prog_9_method_5_code
def yX7_weightOfGood : MethodName := ⟨RX7, "weightOfGood", "(I)I"⟩
abbrev cX7_hasCart : ByteArray := prog_9_method_6_code
def yX7_hasCart : MethodName := ⟨RX7, "hasCart", "(I)Z"⟩
abbrev cX7_hasGood : ByteArray := prog_9_method_7_code
def yX7_hasGood : MethodName := ⟨RX7, "hasGood", "(I)Z"⟩
abbrev cX7_addCart : ByteArray := prog_9_method_8_code
def yX7_addCart : MethodName := ⟨RX7, "addCart", "(II)I"⟩
abbrev cX7_addGood : ByteArray := prog_9_method_9_code
def yX7_addGood : MethodName := ⟨RX7, "addGood", "(III)I"⟩
abbrev cX7_addPerson : ByteArray := prog_9_method_10_code
def yX7_addPerson : MethodName := ⟨RX7, "addPerson", "(II)I"⟩
abbrev cX7_hanging : ByteArray := prog_9_method_11_code
def yX7_hanging : MethodName := ⟨RX7, "hanging", "()I"⟩
abbrev cX7_passWeek : ByteArray := prog_9_method_12_code
def yX7_passWeek : MethodName := ⟨RX7, "passWeek", "()I"⟩
abbrev cX7_lighterParish : ByteArray := prog_9_method_13_code
def yX7_lighterParish : MethodName := ⟨RX7, "lighterParish", "(I)I"⟩
abbrev cX7_wouldFall : ByteArray := prog_9_method_14_code
def yX7_wouldFall : MethodName := ⟨RX7, "wouldFall", "(II)I"⟩
abbrev cX7_wouldBeLighter : ByteArray := prog_9_method_15_code
def yX7_wouldBeLighter : MethodName := ⟨RX7, "wouldBeLighter", "(II)I"⟩
abbrev cX7_settle : ByteArray := prog_9_method_16_code
def yX7_settle : MethodName := ⟨RX7, "settle", "(LParishPull$Ground;)V"⟩
abbrev cX7_copyFrom : ByteArray := prog_9_method_17_code
def yX7_copyFrom : MethodName := ⟨RX7, "copyFrom", "(LParishPull$State;)V"⟩
def RX8 : String := "ParishPull$Tape"
def TX8 : u_T := fun k => match k with
  | 0 => ("ParishPull$Tape", "letters", "[C", true)
  | 1 => ("ParishPull$Tape", "draft", "LParishPull$Ground;", true)
  | 2 => ("ParishPull$Tape", "length", "I", false)
  | _ => ("ParishPull$Tape", "place", "I", false)
def tyX8 : Nat → FieldType := fun k => match k with
  | 0 => .array .char
  | 1 => .object "ParishPull$Ground"
  | 2 => .int
  | _ => .int
abbrev wsX80 : List Cond := u_ws RX8 TX8 4
theorem nmX8 : ∀ a, a < 4 → ∀ b, b < 4 → a ≠ b → (TX8 a).2.1 ≠ (TX8 b).2.1 := by decide +kernel
theorem tyX8_ok : ∀ k, k < 4 → parseFieldDescriptor (TX8 k).2.2.1 = some (tyX8 k) := by decide +kernel
abbrev cX8_init : ByteArray := prog_10_method_1_code
def yX8_init : MethodName := ⟨RX8, "<init>", "()V"⟩
abbrev cX8_isFull : ByteArray := prog_10_method_2_code
def yX8_isFull : MethodName := ⟨RX8, "isFull", "()Z"⟩
abbrev cX8_add : ByteArray := prog_10_method_3_code
def yX8_add : MethodName := ⟨RX8, "add", "(I)I"⟩
abbrev cX8_clear : ByteArray := prog_10_method_4_code
def yX8_clear : MethodName := ⟨RX8, "clear", "()V"⟩
abbrev cX8_read : ByteArray := prog_10_method_5_code
def yX8_read : MethodName := ⟨RX8, "read", "()Z"⟩
abbrev cX8_readParishes : ByteArray := prog_10_method_6_code
def yX8_readParishes : MethodName := ⟨RX8, "readParishes", "()Z"⟩
abbrev cX8_readParish : ByteArray := prog_10_method_7_code
def yX8_readParish : MethodName := ⟨RX8, "readParish", "()Z"⟩
abbrev cX8_readRoads : ByteArray := prog_10_method_8_code
def yX8_readRoads : MethodName := ⟨RX8, "readRoads", "()Z"⟩
abbrev cX8_readRoad : ByteArray := prog_10_method_9_code
def yX8_readRoad : MethodName := ⟨RX8, "readRoad", "()Z"⟩
abbrev cX8_skipBlanks : ByteArray := prog_10_method_10_code
def yX8_skipBlanks : MethodName := ⟨RX8, "skipBlanks", "()V"⟩
abbrev cX8_takes : ByteArray := prog_10_method_11_code
def yX8_takes : MethodName := ⟨RX8, "takes", "(C)Z"⟩
abbrev cX8_digit : ByteArray := prog_10_method_12_code
def yX8_digit : MethodName := ⟨RX8, "digit", "(II)I"⟩
def RX9 : String := "ParishPull$Trades"
def TX9 : u_T := fun k => match k with
  | 0 => ("ParishPull$Trades", "state", "LParishPull$State;", true)
  | 1 => ("ParishPull$Trades", "routes", "LParishPull$Routes;", true)
  | 2 => ("ParishPull$Trades", "values", "[I", true)
  | 3 => ("ParishPull$Trades", "plainToPlain", "[I", true)
  | 4 => ("ParishPull$Trades", "plainToScale", "[I", true)
  | 5 => ("ParishPull$Trades", "scaleToPlain", "[I", true)
  | _ => ("ParishPull$Trades", "bestGain", "I", false)
def tyX9 : Nat → FieldType := fun k => match k with
  | 0 => .object "ParishPull$State"
  | 1 => .object "ParishPull$Routes"
  | 2 => .array .int
  | 3 => .array .int
  | 4 => .array .int
  | 5 => .array .int
  | _ => .int
abbrev wsX90 : List Cond := u_ws RX9 TX9 7
theorem nmX9 : ∀ a, a < 7 → ∀ b, b < 7 → a ≠ b → (TX9 a).2.1 ≠ (TX9 b).2.1 := by decide +kernel
theorem tyX9_ok : ∀ k, k < 7 → parseFieldDescriptor (TX9 k).2.2.1 = some (tyX9 k) := by decide +kernel
abbrev cX9_init : ByteArray := prog_11_method_1_code
def yX9_init : MethodName := ⟨RX9, "<init>", "(LParishPull$State;LParishPull$Routes;)V"⟩
abbrev cX9_best : ByteArray := prog_11_method_2_code
def yX9_best : MethodName := ⟨RX9, "best", "(II)I"⟩
abbrev cX9_law : ByteArray := prog_11_method_3_code
def yX9_law : MethodName := ⟨RX9, "law", "(II)I"⟩
abbrev cX9_findValues : ByteArray := prog_11_method_4_code
def yX9_findValues : MethodName := ⟨RX9, "findValues", "(II)V"⟩
abbrev cX9_findGains : ByteArray := prog_11_method_5_code
def yX9_findGains : MethodName := ⟨RX9, "findGains", "(I)V"⟩
abbrev cX9_endsGains : ByteArray := prog_11_method_6_code
def yX9_endsGains : MethodName := ⟨RX9, "endsGains", "(I)Z"⟩
def RX10 : String := "ParishPull"
def TX10 : u_T := fun k => match k with
  | 0 => ("ParishPull", "now", "LParishPull$State;", true)
  | 1 => ("ParishPull", "kept", "LParishPull$State;", true)
  | 2 => ("ParishPull", "tape", "LParishPull$Tape;", true)
  | 3 => ("ParishPull", "sheets", "LParishPull$Sheets;", true)
  | 4 => ("ParishPull", "routes", "LParishPull$Routes;", true)
  | 5 => ("ParishPull", "trades", "LParishPull$Trades;", true)
  | 6 => ("ParishPull", "contest", "LParishPull$Councils;", true)
  | 7 => ("ParishPull", "leagues", "LParishPull$Leagues;", true)
  | 8 => ("ParishPull", "scaleBook", "LParishPull$Book;", true)
  | _ => ("ParishPull", "imaged", "Z", false)
def tyX10 : Nat → FieldType := fun k => match k with
  | 0 => .object "ParishPull$State"
  | 1 => .object "ParishPull$State"
  | 2 => .object "ParishPull$Tape"
  | 3 => .object "ParishPull$Sheets"
  | 4 => .object "ParishPull$Routes"
  | 5 => .object "ParishPull$Trades"
  | 6 => .object "ParishPull$Councils"
  | 7 => .object "ParishPull$Leagues"
  | 8 => .object "ParishPull$Book"
  | _ => .boolean
abbrev wsX100 : List Cond := u_ws RX10 TX10 10
theorem nmX10 : ∀ a, a < 10 → ∀ b, b < 10 → a ≠ b → (TX10 a).2.1 ≠ (TX10 b).2.1 := by decide +kernel
theorem tyX10_ok : ∀ k, k < 10 → parseFieldDescriptor (TX10 k).2.2.1 = some (tyX10 k) := by decide +kernel
abbrev cX10_init : ByteArray := prog_1_method_1_code
def yX10_init : MethodName := ⟨RX10, "<init>", "()V"⟩
abbrev cX10_parish : ByteArray := prog_1_method_2_code
def yX10_parish : MethodName := ⟨RX10, "parish", "(I)I"⟩
abbrev cX10_pull : ByteArray := prog_1_method_3_code
def yX10_pull : MethodName := ⟨RX10, "pull", "(III)I"⟩
abbrev cX10_road : ByteArray := prog_1_method_4_code
def yX10_road : MethodName := ⟨RX10, "road", "(III)I"⟩
abbrev cX10_toll : ByteArray := prog_1_method_5_code
def yX10_toll : MethodName := ⟨RX10, "toll", "(II)I"⟩
abbrev cX10_cart : ByteArray := prog_1_method_6_code
def yX10_cart : MethodName := ⟨RX10, "cart", "(II)I"⟩
abbrev cX10_good : ByteArray := prog_1_method_7_code
def yX10_good : MethodName := ⟨RX10, "good", "(III)I"⟩
abbrev cX10_hang : ByteArray := prog_1_method_8_code
def yX10_hang : MethodName := ⟨RX10, "hang", "(II)I"⟩
abbrev cX10_person : ByteArray := prog_1_method_9_code
def yX10_person : MethodName := ⟨RX10, "person", "(II)I"⟩
abbrev cX10_of : ByteArray := prog_1_method_10_code
def yX10_of : MethodName := ⟨RX10, "of", "(II)I"⟩
abbrev cX10_told : ByteArray := prog_1_method_11_code
def yX10_told : MethodName := ⟨RX10, "told", "(II)I"⟩
abbrev cX10_weighs : ByteArray := prog_1_method_12_code
def yX10_weighs : MethodName := ⟨RX10, "weighs", "(II)I"⟩
abbrev cX10_type : ByteArray := prog_1_method_13_code
def yX10_type : MethodName := ⟨RX10, "type", "(I)I"⟩
abbrev cX10_land : ByteArray := prog_1_method_14_code
def yX10_land : MethodName := ⟨RX10, "land", "()I"⟩
abbrev cX10_count : ByteArray := prog_1_method_15_code
def yX10_count : MethodName := ⟨RX10, "count", "(I)I"⟩
abbrev cX10_weeks : ByteArray := prog_1_method_16_code
def yX10_weeks : MethodName := ⟨RX10, "weeks", "(I)I"⟩
abbrev cX10_way : ByteArray := prog_1_method_17_code
def yX10_way : MethodName := ⟨RX10, "way", "(IIIII)I"⟩
abbrev cX10_net : ByteArray := prog_1_method_18_code
def yX10_net : MethodName := ⟨RX10, "net", "(III)I"⟩
abbrev cX10_market : ByteArray := prog_1_method_19_code
def yX10_market : MethodName := ⟨RX10, "market", "(II)I"⟩
abbrev cX10_trade : ByteArray := prog_1_method_20_code
def yX10_trade : MethodName := ⟨RX10, "trade", "(III)I"⟩
abbrev cX10_scales : ByteArray := prog_1_method_21_code
def yX10_scales : MethodName := ⟨RX10, "scales", "(II)I"⟩
abbrev cX10_take : ByteArray := prog_1_method_22_code
def yX10_take : MethodName := ⟨RX10, "take", "(II)I"⟩
abbrev cX10_councils : ByteArray := prog_1_method_23_code
def yX10_councils : MethodName := ⟨RX10, "councils", "(IIII)I"⟩
abbrev cX10_league : ByteArray := prog_1_method_24_code
def yX10_league : MethodName := ⟨RX10, "league", "(II)I"⟩
abbrev cX10_upper : ByteArray := prog_1_method_25_code
def yX10_upper : MethodName := ⟨RX10, "upper", "(III)J"⟩
abbrev cX10_lower : ByteArray := prog_1_method_26_code
def yX10_lower : MethodName := ⟨RX10, "lower", "(III)J"⟩
abbrev cX10_change : ByteArray := prog_1_method_27_code
def yX10_change : MethodName := ⟨RX10, "change", "(III)I"⟩
abbrev cX10_well : ByteArray := prog_1_method_28_code
def yX10_well : MethodName := ⟨RX10, "well", "(II)I"⟩
abbrev cX10_image : ByteArray := prog_1_method_29_code
def yX10_image : MethodName := ⟨RX10, "image", "()I"⟩
abbrev cX10_restore : ByteArray := prog_1_method_30_code
def yX10_restore : MethodName := ⟨RX10, "restore", "()I"⟩
abbrev cX10_beam : ByteArray := prog_1_method_31_code
def yX10_beam : MethodName := ⟨RX10, "beam", "(IIIIIII)I"⟩
abbrev cX10_book : ByteArray := prog_1_method_32_code
def yX10_book : MethodName := ⟨RX10, "book", "(IIIIIIII)I"⟩
abbrev cX10_mills : ByteArray := prog_1_method_33_code
def yX10_mills : MethodName := ⟨RX10, "mills", "(IIII)I"⟩
abbrev cX10_film : ByteArray := prog_1_method_34_code
def yX10_film : MethodName := ⟨RX10, "film", "(III)I"⟩
abbrev cX10_sheet : ByteArray := prog_1_method_35_code
def yX10_sheet : MethodName := ⟨RX10, "sheet", "(III)I"⟩
abbrev cX10_drop : ByteArray := prog_1_method_36_code
def yX10_drop : MethodName := ⟨RX10, "drop", "(I)I"⟩
abbrev cX10_item : ByteArray := prog_1_method_37_code
def yX10_item : MethodName := ⟨RX10, "item", "(IIIJ)I"⟩
abbrev cX10_copy : ByteArray := prog_1_method_38_code
def yX10_copy : MethodName := ⟨RX10, "copy", "(IIIII)I"⟩
abbrev cX10_within : ByteArray := prog_1_method_39_code
def yX10_within : MethodName := ⟨RX10, "within", "(III)Z"⟩
abbrev cX10_isMember : ByteArray := prog_1_method_40_code
def yX10_isMember : MethodName := ⟨RX10, "isMember", "(II)Z"⟩
abbrev cX10_setThere : ByteArray := prog_1_method_41_code
def yX10_setThere : MethodName := ⟨RX10, "setThere", "([III)I"⟩
abbrev cX10_toldOfRoad : ByteArray := prog_1_method_42_code
def yX10_toldOfRoad : MethodName := ⟨RX10, "toldOfRoad", "(II)I"⟩
abbrev cX10_toldOfCart : ByteArray := prog_1_method_43_code
def yX10_toldOfCart : MethodName := ⟨RX10, "toldOfCart", "(II)I"⟩
abbrev cX10_toldOfGood : ByteArray := prog_1_method_44_code
def yX10_toldOfGood : MethodName := ⟨RX10, "toldOfGood", "(II)I"⟩
abbrev cX10_toldOfPerson : ByteArray := prog_1_method_45_code
def yX10_toldOfPerson : MethodName := ⟨RX10, "toldOfPerson", "(II)I"⟩
def RX11 : String := "ParishPullModel"
def TX11 : u_T := fun k => match k with
  | 0 => ("ParishPullModel", "now", "[I", true)
  | 1 => ("ParishPullModel", "kept", "[I", true)
  | 2 => ("ParishPullModel", "isKept", "Z", false)
  | 3 => ("ParishPullModel", "tape", "[I", true)
  | 4 => ("ParishPullModel", "taped", "I", false)
  | 5 => ("ParishPullModel", "lanes", "[I", true)
  | 6 => ("ParishPullModel", "sizes", "[I", true)
  | 7 => ("ParishPullModel", "items", "[J", true)
  | 8 => ("ParishPullModel", "at", "I", false)
  | 9 => ("ParishPullModel", "before", "[I", true)
  | 10 => ("ParishPullModel", "least", "[I", true)
  | 11 => ("ParishPullModel", "path", "[I", true)
  | 12 => ("ParishPullModel", "spent", "[I", true)
  | 13 => ("ParishPullModel", "ones", "[I", true)
  | 14 => ("ParishPullModel", "others", "[I", true)
  | 15 => ("ParishPullModel", "above", "J", false)
  | 16 => ("ParishPullModel", "below", "J", false)
  | _ => ("ParishPullModel", "left", "[I", true)
def tyX11 : Nat → FieldType := fun k => match k with
  | 0 => .array .int
  | 1 => .array .int
  | 2 => .boolean
  | 3 => .array .int
  | 4 => .int
  | 5 => .array .int
  | 6 => .array .int
  | 7 => .array .long
  | 8 => .int
  | 9 => .array .int
  | 10 => .array .int
  | 11 => .array .int
  | 12 => .array .int
  | 13 => .array .int
  | 14 => .array .int
  | 15 => .long
  | 16 => .long
  | _ => .array .int
abbrev wsX110 : List Cond := u_ws RX11 TX11 18
theorem nmX11 : ∀ a, a < 18 → ∀ b, b < 18 → a ≠ b → (TX11 a).2.1 ≠ (TX11 b).2.1 := by decide +kernel
theorem tyX11_ok : ∀ k, k < 18 → parseFieldDescriptor (TX11 k).2.2.1 = some (tyX11 k) := by decide +kernel
abbrev cX11_init : ByteArray := prog_13_method_1_code
def yX11_init : MethodName := ⟨RX11, "<init>", "()V"⟩
abbrev cX11_in : ByteArray := prog_13_method_3_code
def yX11_in : MethodName := ⟨RX11, "in", "(JJJ)Z"⟩
abbrev cX11_isParish : ByteArray := prog_13_method_4_code
def yX11_isParish : MethodName := ⟨RX11, "isParish", "(I)Z"⟩
abbrev cX11_isRoad : ByteArray := prog_13_method_5_code
def yX11_isRoad : MethodName := ⟨RX11, "isRoad", "(I)Z"⟩
abbrev cX11_isCart : ByteArray := prog_13_method_6_code
def yX11_isCart : MethodName := ⟨RX11, "isCart", "(I)Z"⟩
abbrev cX11_isGood : ByteArray := prog_13_method_7_code
def yX11_isGood : MethodName := ⟨RX11, "isGood", "(I)Z"⟩
abbrev cX11_isPerson : ByteArray := prog_13_method_8_code
def yX11_isPerson : MethodName := ⟨RX11, "isPerson", "(I)Z"⟩
abbrev cX11_isTwo : ByteArray := prog_13_method_9_code
def yX11_isTwo : MethodName := ⟨RX11, "isTwo", "(I)Z"⟩
abbrev cX11_season : ByteArray := prog_13_method_10_code
def yX11_season : MethodName := ⟨RX11, "season", "()I"⟩
abbrev cX11_weightBy : ByteArray := prog_13_method_11_code
def yX11_weightBy : MethodName := ⟨RX11, "weightBy", "(III)I"⟩
abbrev cX11_weight : ByteArray := prog_13_method_12_code
def yX11_weight : MethodName := ⟨RX11, "weight", "(II)I"⟩
abbrev cX11_joins : ByteArray := prog_13_method_13_code
def yX11_joins : MethodName := ⟨RX11, "joins", "(I)I"⟩
abbrev cX11_parish : ByteArray := prog_13_method_14_code
def yX11_parish : MethodName := ⟨RX11, "parish", "(I)I"⟩
abbrev cX11_pull : ByteArray := prog_13_method_15_code
def yX11_pull : MethodName := ⟨RX11, "pull", "(III)I"⟩
abbrev cX11_roadOf : ByteArray := prog_13_method_16_code
def yX11_roadOf : MethodName := ⟨RX11, "roadOf", "(II)I"⟩
abbrev cX11_road : ByteArray := prog_13_method_17_code
def yX11_road : MethodName := ⟨RX11, "road", "(III)I"⟩
abbrev cX11_toll : ByteArray := prog_13_method_18_code
def yX11_toll : MethodName := ⟨RX11, "toll", "(II)I"⟩
abbrev cX11_cart : ByteArray := prog_13_method_19_code
def yX11_cart : MethodName := ⟨RX11, "cart", "(II)I"⟩
abbrev cX11_good : ByteArray := prog_13_method_20_code
def yX11_good : MethodName := ⟨RX11, "good", "(III)I"⟩
abbrev cX11_hang : ByteArray := prog_13_method_21_code
def yX11_hang : MethodName := ⟨RX11, "hang", "(II)I"⟩
abbrev cX11_person : ByteArray := prog_13_method_22_code
def yX11_person : MethodName := ⟨RX11, "person", "(II)I"⟩
abbrev cX11_of : ByteArray := prog_13_method_23_code
def yX11_of : MethodName := ⟨RX11, "of", "(II)I"⟩
abbrev cX11_told : ByteArray := prog_13_method_24_code
def yX11_told : MethodName := ⟨RX11, "told", "(II)I"⟩
abbrev cX11_weighs : ByteArray := prog_13_method_25_code
def yX11_weighs : MethodName := ⟨RX11, "weighs", "(II)I"⟩
abbrev cX11_type : ByteArray := prog_13_method_26_code
def yX11_type : MethodName := ⟨RX11, "type", "(I)I"⟩
abbrev cX11_next : ByteArray := prog_13_method_27_code
def yX11_next : MethodName := ⟨RX11, "next", "()I"⟩
abbrev cX11_isDigit : ByteArray := prog_13_method_28_code
def yX11_isDigit : MethodName := ⟨RX11, "isDigit", "(II)Z"⟩
abbrev cX11_digit : ByteArray := prog_13_method_29_code
def yX11_digit : MethodName := ⟨RX11, "digit", "()I"⟩
abbrev cX11_kindOf : ByteArray := prog_13_method_30_code
def yX11_kindOf : MethodName := ⟨RX11, "kindOf", "(I)I"⟩
abbrev cX11_readsParish : ByteArray := prog_13_method_31_code
def yX11_readsParish : MethodName := ⟨RX11, "readsParish", "()Z"⟩
abbrev cX11_readsRoad : ByteArray := prog_13_method_32_code
def yX11_readsRoad : MethodName := ⟨RX11, "readsRoad", "()Z"⟩
abbrev cX11_reads : ByteArray := prog_13_method_33_code
def yX11_reads : MethodName := ⟨RX11, "reads", "()Z"⟩
abbrev cX11_land : ByteArray := prog_13_method_34_code
def yX11_land : MethodName := ⟨RX11, "land", "()I"⟩
abbrev cX11_count : ByteArray := prog_13_method_35_code
def yX11_count : MethodName := ⟨RX11, "count", "(I)I"⟩
abbrev cX11_goes : ByteArray := prog_13_method_36_code
def yX11_goes : MethodName := ⟨RX11, "goes", "(I)I"⟩
abbrev cX11_weeks : ByteArray := prog_13_method_37_code
def yX11_weeks : MethodName := ⟨RX11, "weeks", "(I)I"⟩
abbrev cX11_costOf : ByteArray := prog_13_method_38_code
def yX11_costOf : MethodName := ⟨RX11, "costOf", "(IIIII)I"⟩
abbrev cX11_bears : ByteArray := prog_13_method_39_code
def yX11_bears : MethodName := ⟨RX11, "bears", "(III)Z"⟩
abbrev cX11_layWays : ByteArray := prog_13_method_40_code
def yX11_layWays : MethodName := ⟨RX11, "layWays", "(III)V"⟩
abbrev cX11_layPath : ByteArray := prog_13_method_41_code
def yX11_layPath : MethodName := ⟨RX11, "layPath", "(IIII)I"⟩
abbrev cX11_way : ByteArray := prog_13_method_42_code
def yX11_way : MethodName := ⟨RX11, "way", "(IIIII)I"⟩
abbrev cX11_netOf : ByteArray := prog_13_method_43_code
def yX11_netOf : MethodName := ⟨RX11, "netOf", "(II)I"⟩
abbrev cX11_net : ByteArray := prog_13_method_44_code
def yX11_net : MethodName := ⟨RX11, "net", "(III)I"⟩
abbrev cX11_marketOf : ByteArray := prog_13_method_45_code
def yX11_marketOf : MethodName := ⟨RX11, "marketOf", "(III)I"⟩
abbrev cX11_market : ByteArray := prog_13_method_46_code
def yX11_market : MethodName := ⟨RX11, "market", "(II)I"⟩
abbrev cX11_trade : ByteArray := prog_13_method_47_code
def yX11_trade : MethodName := ⟨RX11, "trade", "(III)I"⟩
abbrev cX11_bits : ByteArray := prog_13_method_48_code
def yX11_bits : MethodName := ⟨RX11, "bits", "(I)I"⟩
abbrev cX11_paid : ByteArray := prog_13_method_49_code
def yX11_paid : MethodName := ⟨RX11, "paid", "(III)I"⟩
abbrev cX11_isEnded : ByteArray := prog_13_method_50_code
def yX11_isEnded : MethodName := ⟨RX11, "isEnded", "(II)Z"⟩
abbrev cX11_scales : ByteArray := prog_13_method_51_code
def yX11_scales : MethodName := ⟨RX11, "scales", "(II)I"⟩
abbrev cX11_takeOf : ByteArray := prog_13_method_52_code
def yX11_takeOf : MethodName := ⟨RX11, "takeOf", "(II)I"⟩
abbrev cX11_take : ByteArray := prog_13_method_53_code
def yX11_take : MethodName := ⟨RX11, "take", "(II)I"⟩
abbrev cX11_councils : ByteArray := prog_13_method_54_code
def yX11_councils : MethodName := ⟨RX11, "councils", "(IIII)I"⟩
abbrev cX11_worthOf : ByteArray := prog_13_method_55_code
def yX11_worthOf : MethodName := ⟨RX11, "worthOf", "(II)I"⟩
abbrev cX11_isSet : ByteArray := prog_13_method_56_code
def yX11_isSet : MethodName := ⟨RX11, "isSet", "(I)Z"⟩
abbrev cX11_league : ByteArray := prog_13_method_57_code
def yX11_league : MethodName := ⟨RX11, "league", "(II)I"⟩
abbrev cX11_orders : ByteArray := prog_13_method_58_code
def yX11_orders : MethodName := ⟨RX11, "orders", "(I)J"⟩
abbrev cX11_layPart : ByteArray := prog_13_method_59_code
def yX11_layPart : MethodName := ⟨RX11, "layPart", "(III)Z"⟩
abbrev cX11_upper : ByteArray := prog_13_method_60_code
def yX11_upper : MethodName := ⟨RX11, "upper", "(III)J"⟩
abbrev cX11_lower : ByteArray := prog_13_method_61_code
def yX11_lower : MethodName := ⟨RX11, "lower", "(III)J"⟩
abbrev cX11_change : ByteArray := prog_13_method_62_code
def yX11_change : MethodName := ⟨RX11, "change", "(III)I"⟩
abbrev cX11_well : ByteArray := prog_13_method_63_code
def yX11_well : MethodName := ⟨RX11, "well", "(II)I"⟩
abbrev cX11_image : ByteArray := prog_13_method_64_code
def yX11_image : MethodName := ⟨RX11, "image", "()I"⟩
abbrev cX11_restore : ByteArray := prog_13_method_65_code
def yX11_restore : MethodName := ⟨RX11, "restore", "()I"⟩
abbrev cX11_isSheet : ByteArray := prog_13_method_66_code
def yX11_isSheet : MethodName := ⟨RX11, "isSheet", "(I)Z"⟩
abbrev cX11_isLane : ByteArray := prog_13_method_67_code
def yX11_isLane : MethodName := ⟨RX11, "isLane", "(I)Z"⟩
abbrev cX11_finds : ByteArray := prog_13_method_68_code
def yX11_finds : MethodName := ⟨RX11, "finds", "(IIII)I"⟩
abbrev cX11_evens : ByteArray := prog_13_method_69_code
def yX11_evens : MethodName := ⟨RX11, "evens", "(III)I"⟩
abbrev cX11_beam : ByteArray := prog_13_method_70_code
def yX11_beam : MethodName := ⟨RX11, "beam", "(IIIIIII)I"⟩
abbrev cX11_layBook : ByteArray := prog_13_method_71_code
def yX11_layBook : MethodName := ⟨RX11, "layBook", "(IIIII)I"⟩
abbrev cX11_book : ByteArray := prog_13_method_72_code
def yX11_book : MethodName := ⟨RX11, "book", "(IIIIIIII)I"⟩
abbrev cX11_mills : ByteArray := prog_13_method_73_code
def yX11_mills : MethodName := ⟨RX11, "mills", "(IIII)I"⟩
abbrev cX11_cut : ByteArray := prog_13_method_74_code
def yX11_cut : MethodName := ⟨RX11, "cut", "(IJ)J"⟩
abbrev cX11_film : ByteArray := prog_13_method_75_code
def yX11_film : MethodName := ⟨RX11, "film", "(III)I"⟩
abbrev cX11_sheet : ByteArray := prog_13_method_76_code
def yX11_sheet : MethodName := ⟨RX11, "sheet", "(III)I"⟩
abbrev cX11_drop : ByteArray := prog_13_method_77_code
def yX11_drop : MethodName := ⟨RX11, "drop", "(I)I"⟩
abbrev cX11_item : ByteArray := prog_13_method_78_code
def yX11_item : MethodName := ⟨RX11, "item", "(IIIJ)I"⟩
abbrev cX11_copy : ByteArray := prog_13_method_79_code
def yX11_copy : MethodName := ⟨RX11, "copy", "(IIIII)I"⟩
def RJ11 : String := "java/lang/Character"
abbrev cJ11_isValidCodePoint_9a6ad : ByteArray := prog_14_method_11_code
def yJ11_isValidCodePoint_9a6ad : MethodName := ⟨RJ11, "isValidCodePoint", "(I)Z"⟩
abbrev cJ11_highSurrogate_5068e : ByteArray := prog_14_method_28_code
def yJ11_highSurrogate_5068e : MethodName := ⟨RJ11, "highSurrogate", "(I)C"⟩
abbrev cJ11_lowSurrogate_5068e : ByteArray := prog_14_method_29_code
def yJ11_lowSurrogate_5068e : MethodName := ⟨RJ11, "lowSurrogate", "(I)C"⟩
def RJ6 : String := "java/lang/Integer"
abbrev cJ6_bitCount_0f7a4 : ByteArray := prog_15_method_49_code
def yJ6_bitCount_0f7a4 : MethodName := ⟨RJ6, "bitCount", "(I)I"⟩
def RJ9 : String := "java/lang/Math"
abbrev cJ9_max_7cf53 : ByteArray := prog_16_method_65_code
def yJ9_max_7cf53 : MethodName := ⟨RJ9, "max", "(II)I"⟩
abbrev cJ9_min_7cf53 : ByteArray := prog_16_method_69_code
def yJ9_min_7cf53 : MethodName := ⟨RJ9, "min", "(II)I"⟩
def RJ0 : String := "java/lang/String"
abbrev cJ0_length_8abf5 : ByteArray := prog_17_method_54_code
def yJ0_length_8abf5 : MethodName := ⟨RJ0, "length", "()I"⟩
abbrev cJ0_indexOf_0f7a4 : ByteArray := prog_17_method_79_code
def yJ0_indexOf_0f7a4 : MethodName := ⟨RJ0, "indexOf", "(I)I"⟩
abbrev cJ0_indexOf_7cf53 : ByteArray := prog_17_method_80_code
def yJ0_indexOf_7cf53 : MethodName := ⟨RJ0, "indexOf", "(II)I"⟩
abbrev cJ0_coder_7d493 : ByteArray := prog_17_method_152_code
def yJ0_coder_7d493 : MethodName := ⟨RJ0, "coder", "()B"⟩
abbrev cJ0_isLatin1_aae02 : ByteArray := prog_17_method_154_code
def yJ0_isLatin1_aae02 : MethodName := ⟨RJ0, "isLatin1", "()Z"⟩
abbrev cJ0_checkBoundsBeginEnd_23922 : ByteArray := prog_17_method_158_code
def yJ0_checkBoundsBeginEnd_23922 : MethodName := ⟨RJ0, "checkBoundsBeginEnd", "(III)V"⟩
def RJ1 : String := "java/lang/StringLatin1"
abbrev cJ1_canEncode_9a6ad : ByteArray := prog_18_method_4_code
def yJ1_canEncode_9a6ad : MethodName := ⟨RJ1, "canEncode", "(I)Z"⟩
abbrev cJ1_indexOf_4cfef : ByteArray := prog_18_method_22_code
def yJ1_indexOf_4cfef : MethodName := ⟨RJ1, "indexOf", "([BIII)I"⟩
abbrev cJ1_indexOfChar_4cfef : ByteArray := prog_18_method_23_code
def yJ1_indexOfChar_4cfef : MethodName := ⟨RJ1, "indexOfChar", "([BIII)I"⟩
def RJ2 : String := "java/lang/StringUTF16"
abbrev cJ2_getChar_3b067 : ByteArray := prog_19_method_5_code
def yJ2_getChar_3b067 : MethodName := ⟨RJ2, "getChar", "([BI)C"⟩
abbrev cJ2_length_9d52b : ByteArray := prog_19_method_6_code
def yJ2_length_9d52b : MethodName := ⟨RJ2, "length", "([B)I"⟩
abbrev cJ2_indexOf_4cfef : ByteArray := prog_19_method_40_code
def yJ2_indexOf_4cfef : MethodName := ⟨RJ2, "indexOf", "([BIII)I"⟩
abbrev cJ2_indexOfChar_4cfef : ByteArray := prog_19_method_47_code
def yJ2_indexOfChar_4cfef : MethodName := ⟨RJ2, "indexOfChar", "([BIII)I"⟩
abbrev cJ2_indexOfCharUnsafe_4cfef : ByteArray := prog_19_method_48_code
def yJ2_indexOfCharUnsafe_4cfef : MethodName := ⟨RJ2, "indexOfCharUnsafe", "([BIII)I"⟩
abbrev cJ2_indexOfSupplementary_4cfef : ByteArray := prog_19_method_49_code
def yJ2_indexOfSupplementary_4cfef : MethodName := ⟨RJ2, "indexOfSupplementary", "([BIII)I"⟩
abbrev cJ2_checkBoundsBeginEnd_d044e : ByteArray := prog_19_method_93_code
def yJ2_checkBoundsBeginEnd_d044e : MethodName := ⟨RJ2, "checkBoundsBeginEnd", "(II[B)V"⟩
def RJ10 : String := "java/lang/System"
def RJ7 : String := "java/util/Arrays"
abbrev cJ7_fill_d0a16 : ByteArray := prog_21_method_101_code
def yJ7_fill_d0a16 : MethodName := ⟨RJ7, "fill", "([JJ)V"⟩
abbrev cJ7_fill_53178 : ByteArray := prog_21_method_103_code
def yJ7_fill_53178 : MethodName := ⟨RJ7, "fill", "([II)V"⟩
def RJ3 : String := "jdk/internal/util/Preconditions"
abbrev cJ3_checkFromToIndex_8c36e : ByteArray := prog_22_method_12_code
def yJ3_checkFromToIndex_8c36e : MethodName := ⟨RJ3, "checkFromToIndex", "(IIILjava/util/function/BiFunction;)I"⟩
def RL : String := "ParishPullLaw"
abbrev cL_law : ByteArray := code
def yL_law : MethodName := ⟨RL, "law", "([I)Z"⟩
end
section
/-- the words that pass from a method to its callees -/
def TB : List Cond := lw_tbl.filter goodWord
theorem tb {w : Cond} {i : Nat} (h : lw_tbl[i]? = some w) (g : goodWord w = true) : w ∈ TB := List.mem_filter.mpr ⟨List.mem_of_getElem? h, g⟩
theorem tb_good {w : Cond} (h : w ∈ TB) : goodWord w = true := (List.mem_filter.mp h).2
/-! THE WORLD OF BOTH OBJECTS: 81 cells at addresses ad 0 .. ad 80, their shapes fixed, their ints in I, their longs in L. -/
abbrev mI : Type := Nat → Nat → Int32
abbrev mL : Type := Nat → Nat → Int64
/-- a shape: an array (its items' type, 0 ints | 1 longs | b + 2 references to the cells b .., its length), or an object (its number in the list below, its fields: (0, cell) a reference that stays, (1, _) an int, (2, _) a long) -/
abbrev mShape : Type := (FieldType × Nat × Nat) ⊕ (Nat × List (Nat × Nat))
abbrev classesX : List vw_C := [(RX1, TX1, 4), (RX2, TX2, 6), (RX3, TX3, 7), (RX4, TX4, 5), (RX5, TX5, 14), (RX6, TX6, 4), (RX7, TX7, 13), (RX8, TX8, 4), (RX9, TX9, 7), (RX10, TX10, 10), (RX11, TX11, 18)]
def SH0 : List mShape := [.inr (9, [(0, 1), (0, 16), (0, 31), (0, 39), (0, 48), (0, 55), (0, 60), (0, 63), (0, 65), (1, 0)]),
  .inr (6, [(0, 2), (0, 8), (0, 9), (0, 10), (0, 11), (0, 12), (0, 13), (0, 14), (0, 15), (1, 0), (1, 0), (1, 0), (1, 0)]),
  .inr (2, [(0, 3), (0, 4), (0, 5), (0, 6), (0, 7), (1, 0), (1, 0)]),
  .inl (.int, 0, 8),
  .inl (.int, 0, 32),
  .inl (.int, 0, 15),
  .inl (.int, 0, 15),
  .inl (.int, 0, 15),
  .inl (.int, 0, 4),
  .inl (.int, 0, 4),
  .inl (.int, 0, 6),
  .inl (.int, 0, 6),
  .inl (.int, 0, 6),
  .inl (.int, 0, 6),
  .inl (.int, 0, 6),
  .inl (.int, 0, 6),
  .inr (6, [(0, 17), (0, 23), (0, 24), (0, 25), (0, 26), (0, 27), (0, 28), (0, 29), (0, 30), (1, 0), (1, 0), (1, 0), (1, 0)]),
  .inr (2, [(0, 18), (0, 19), (0, 20), (0, 21), (0, 22), (1, 0), (1, 0)]),
  .inl (.int, 0, 8),
  .inl (.int, 0, 32),
  .inl (.int, 0, 15),
  .inl (.int, 0, 15),
  .inl (.int, 0, 15),
  .inl (.int, 0, 4),
  .inl (.int, 0, 4),
  .inl (.int, 0, 6),
  .inl (.int, 0, 6),
  .inl (.int, 0, 6),
  .inl (.int, 0, 6),
  .inl (.int, 0, 6),
  .inl (.int, 0, 6),
  .inr (7, [(0, 32), (0, 33), (1, 0), (1, 0)]),
  .inl (.char, 0, 120),
  .inr (2, [(0, 34), (0, 35), (0, 36), (0, 37), (0, 38), (1, 0), (1, 0)]),
  .inl (.int, 0, 8),
  .inl (.int, 0, 32),
  .inl (.int, 0, 15),
  .inl (.int, 0, 15),
  .inl (.int, 0, 15),
  .inr (5, [(0, 40), (0, 45), (0, 46), (0, 47)]),
  .inl (.array .long, 43, 4),
  .inl (.long, 1, 24),
  .inl (.long, 1, 24),
  .inl (.long, 1, 24),
  .inl (.long, 1, 24),
  .inl (.int, 0, 4),
  .inl (.int, 0, 4),
  .inl (.boolean, 0, 4),
  .inr (4, [(0, 1), (0, 49), (0, 50), (0, 51), (0, 52), (0, 53), (0, 54), (1, 0), (1, 0), (1, 0), (1, 0), (1, 0), (1, 0), (1, 0)]),
  .inl (.int, 0, 64),
  .inl (.int, 0, 64),
  .inl (.int, 0, 8),
  .inl (.int, 0, 8),
  .inl (.int, 0, 8),
  .inl (.int, 0, 8),
  .inr (8, [(0, 1), (0, 48), (0, 56), (0, 57), (0, 58), (0, 59), (1, 0)]),
  .inl (.int, 0, 8),
  .inl (.int, 0, 8),
  .inl (.int, 0, 8),
  .inl (.int, 0, 8),
  .inr (1, [(0, 1), (0, 48), (0, 61), (0, 62), (1, 0), (1, 0)]),
  .inl (.int, 0, 81),
  .inl (.int, 0, 81),
  .inr (3, [(0, 1), (0, 48), (0, 64), (2, 0), (2, 0)]),
  .inl (.int, 0, 256),
  .inr (0, [(0, 66), (1, 0), (1, 0), (1, 0)]),
  .inl (.int, 0, 4),
  .inr (10, [(0, 68), (0, 69), (1, 0), (0, 70), (1, 0), (0, 71), (0, 72), (0, 73), (1, 0), (0, 74), (0, 75), (0, 76), (0, 77), (0, 78), (0, 79), (2, 0), (2, 0), (0, 80)]),
  .inl (.int, 0, 135),
  .inl (.int, 0, 135),
  .inl (.int, 0, 120),
  .inl (.int, 0, 4),
  .inl (.int, 0, 4),
  .inl (.long, 1, 96),
  .inl (.int, 0, 135),
  .inl (.int, 0, 64),
  .inl (.int, 0, 9),
  .inl (.int, 0, 9),
  .inl (.int, 0, 100),
  .inl (.int, 0, 100),
  .inl (.int, 0, 4)]
theorem SH0_len : SH0.length = 81 := by decide +kernel
/-- the shape of a cell by its number -/
def sh (k : Nat) : Option mShape := SH0[k]?
/-- an address by its number -/
def rn (ad : Nat → Nat) (v : Value) : Value := match v with
  | .ref k => .ref (ad k)
  | w => w
theorem rn_cat (ad : Nat → Nat) (v : Value) : (rn ad v).category = v.category := by cases v <;> rfl
def fldOf (ad : Nat → Nat) (Ik : Nat → Int32) (Lk : Nat → Int64) (j : Nat) (f : Nat × Nat) : Value := match f with
  | (0, r) => .ref (ad r)
  | (1, _) => .int (Ik j)
  | (_, _) => .long (Lk j)
def cellOf (ad : Nat → Nat) (ca : FieldType → ClassId) (Ik : Nat → Int32) (Lk : Nat → Int64) (s : mShape) : va_E := match s with
  | .inl (ty, 0, n) => .inl (ca ty, n, .inl Ik)
  | .inl (ty, 1, n) => .inl (ca ty, n, .inr (.inl Lk))
  | .inl (ty, b + 2, n) => .inl (ca ty, n, .inr (.inr (.inr (.inr (fun i => if i < n then some (ad (b + i)) else none)))))
  | .inr (ci, fs) => .inr (ci, fs.mapIdx (fldOf ad Ik Lk))
def wld (ad : Nat → Nat) (ca : FieldType → ClassId) (I : mI) (L : mL) : va_W := SH0.mapIdx (fun k s => (ad k, cellOf ad ca (I k) (L k) s))
theorem wld_get {ad : Nat → Nat} {ca : FieldType → ClassId} {I : mI} {L : mL} {k : Nat} {s : mShape} (h : sh k = some s) : (wld ad ca I L)[k]? = some (ad k, cellOf ad ca (I k) (L k) s) := by
  unfold sh at h
  simp [wld, List.getElem?_mapIdx, h]
theorem sh_lt {k : Nat} {s : mShape} (h : sh k = some s) : k < 81 := by
  unfold sh at h
  have := (List.getElem?_eq_some_iff.mp h).1
  rw [SH0_len] at this
  exact this
theorem wld_at {ad : Nat → Nat} {ca : FieldType → ClassId} {I : mI} {L : mL} {k : Nat} {q : Nat × va_E} (h : (wld ad ca I L)[k]? = some q) : ∃ s, sh k = some s ∧ q = (ad k, cellOf ad ca (I k) (L k) s) := by
  unfold wld at h
  rw [List.getElem?_mapIdx] at h
  unfold sh
  cases e : SH0[k]? with
  | none => rw [e] at h; cases h
  | some s => rw [e] at h; exact ⟨s, rfl, (Option.some.inj h).symm⟩
/-- a row of ints, of longs put -/
def pI (I : mI) (k : Nat) (f : Nat → Int32) : mI := fun a => if a = k then f else I a
def pL (L : mL) (k : Nat) (f : Nat → Int64) : mL := fun a => if a = k then f else L a
def uI (I : mI) (k j : Nat) (x : Int32) : mI := pI I k (upd (I k) j x)
def uL (L : mL) (k j : Nat) (x : Int64) : mL := pL L k (vp_updL (L k) j x)
theorem wld_setI {ad : Nat → Nat} {ca : FieldType → ClassId} {I : mI} {L : mL} {k : Nat} {s : mShape} {e : va_E} {f : Nat → Int32} (h : sh k = some s) (he : e = cellOf ad ca f (L k) s) : (wld ad ca I L).set k (ad k, e) = wld ad ca (pI I k f) L := by
  apply List.ext_getElem?
  intro i
  unfold sh at h
  rw [List.getElem?_set]
  unfold wld
  by_cases hi : k = i
  · subst hi
    obtain ⟨hl, hs⟩ := List.getElem?_eq_some_iff.mp h
    simp [List.getElem?_mapIdx, hl, he, pI, hs]
  · rw [if_neg hi]
    simp only [List.getElem?_mapIdx, pI]
    rw [if_neg (fun q => hi q.symm)]
theorem wld_setL {ad : Nat → Nat} {ca : FieldType → ClassId} {I : mI} {L : mL} {k : Nat} {s : mShape} {e : va_E} {f : Nat → Int64} (h : sh k = some s) (he : e = cellOf ad ca (I k) f s) : (wld ad ca I L).set k (ad k, e) = wld ad ca I (pL L k f) := by
  apply List.ext_getElem?
  intro i
  unfold sh at h
  rw [List.getElem?_set]
  unfold wld
  by_cases hi : k = i
  · subst hi
    obtain ⟨hl, hs⟩ := List.getElem?_eq_some_iff.mp h
    simp [List.getElem?_mapIdx, hl, he, pL, hs]
  · rw [if_neg hi]
    simp only [List.getElem?_mapIdx, pL]
    rw [if_neg (fun q => hi q.symm)]
/-- the cells that a method may change -/
def AA (ad : Nat → Nat) : Nat → Prop := fun q => ∃ k, k < 81 ∧ q = ad k
theorem wld_D {ad : Nat → Nat} {ca : FieldType → ClassId} {I : mI} {L : mL} (hi : ∀ i j, i < 81 → j < 81 → ad i = ad j → i = j) : va_D (AA ad) (wld ad ca I L) := by
  refine ⟨fun i j p q hp hq hpq => ?_, fun k q hq => ?_⟩
  · obtain ⟨s, hs, rfl⟩ := wld_at hp
    obtain ⟨s', hs', rfl⟩ := wld_at hq
    exact hi i j (sh_lt hs) (sh_lt hs') hpq
  · obtain ⟨s, hs, rfl⟩ := wld_at hq
    exact ⟨k, sh_lt hs, rfl⟩
abbrev tyl (ca : FieldType → ClassId) : List (ClassId × FieldType) := [(ca .int, .int), (ca .long, .long), (ca .char, .char), (ca .boolean, .boolean), (ca (.array .long), .array .long)]
def rmm (d : Nat) : Room := { frames := d, cells := 0, slots := 0, locals := 36 * d }
/-- a method: its own class's name, its code, how many locals, what it answers -/
abbrev mM : Type := String × ByteArray × Nat × Option FieldType
/-- the constants outside the world: ORDERS at ad 81; the text "lhsa" at ad 82, its bytes at ad 83 -/
def ordT : Nat → Value := fun j => .long (([1, 1, 2, 6, 24, 120, 720, 5040, 40320] : List Int64).getD j 0)
def Kons (ad : Nat → Nat) (s : State) (H : Heap) : Prop := va_Z RX4 "ORDERS" "[J" (.ref (ad 81)) (AA ad) s H ∧ va_T .long (ad 81) 9 ordT (AA ad) s H
theorem Kons.moved {ad : Nat → Nat} {u U : State} {H : Heap} (hvm : u.vm.Alike U.vm) (h : Kons ad u H) : Kons ad U H := ⟨h.1.moved hvm, h.2.moved hvm⟩
theorem Kons.kept {ad : Nat → Nat} {s : State} {H H1 : Heap} (h : Kons ad s H) (hq : ∀ a : Nat, a < H.size → ¬ AA ad a → H1[a]? = H[a]?) : Kons ad s H1 := ⟨h.1.kept hq, h.2.kept hq⟩
/-- what a method's walk stands on -/
def Cx (M : mM) (p : Program) (s : State) (m : MethodId) (args : Array Value) (meth : Method) (c : Code) (D : va_G) (ad : Nat → Nat) (ca : FieldType → ClassId) : Prop :=
  p.tables.exec = Jvm.exec ∧ c.code = M.2.1 ∧ meth.sig.returnType = M.2.2.2 ∧ c.maxLocals = M.2.2.1 ∧ s.vm.findClass M.1 = some m.cls ∧ meth.locks = false ∧ (∀ w ∈ TB, w.before args s = true) ∧ va_K D classesX (tyl ca) s ∧ (∀ i j, i < 81 → j < 81 → ad i = ad j → i = j) ∧ Kons ad s s.heap
/-- the locals: what is known of each slot -/
def LH (ad : Nat → Nat) (ls : Array Slot) (nL : Nat) (lc : List (Option Value)) : Prop := ls.size = nL ∧ lv_wf ls ∧ ∀ (i : Nat) (v : Value), lc[i]? = some (some v) → ls[i]? = some (.val (rn ad v))
/-- a method's end -/
def QQ (D : va_G) (ad : Nat → Nat) (ca : FieldType → ClassId) (Q : Option Value → mI → mL → Prop) : Array Value → State → Outcome → State → Prop := fun _ st oc t =>
  (∃ (v : Option Value) (I : mI) (L : mL), oc = .returned (v.map (rn ad)) ∧ Q v I L ∧ va_P D classesX (wld ad ca I L) t.heap) ∧ va_F (AA ad) st t
/-- THE JUDGEMENT: method M, with room for d calls one in another, at pc with the locals lc, the stack st, the ints I and longs L of the world, ends in an answer and a world with Q -/
def RR (M : mM) (d : Nat) (pc : Nat) (lc : List (Option Value)) (st : List Value) (I : mI) (L : mL) (Q : Option Value → mI → mL → Prop) : Prop :=
  ∀ (p : Program) (l : Launch) (e : Env) (s : State) (m : MethodId) (args : Array Value) (below : List Frame) (meth : Method) (c : Code) (D : va_G) (ad : Nat → Nat) (ca : FieldType → ClassId) (H : Heap) (locs : List Loc) (ls : Array Slot),
    Cx M p s m args meth c D ad ca → va_P D classesX (wld ad ca I L) H → va_S (AA ad) s.heap H locs → LH ad ls M.2.2.1 lc →
    W p l e (rmm d) s m args below meth c H locs 0 0 (MQ below (QQ D ad ca Q) args s 0 0 (AA ad)) (F0 m pc ls (st.map (rn ad)))
/-- the locals as the kit's rows take them -/
def asl (ad : Nat → Nat) (lc : List (Option Value)) : List (Nat × Value) := (List.range lc.length).filterMap (fun i => match lc[i]? with
  | some (some v) => some (i, rn ad v)
  | _ => none)
theorem asl_mem {ad : Nat → Nat} {lc : List (Option Value)} {i : Nat} {w : Value} : (i, w) ∈ asl ad lc ↔ ∃ v, lc[i]? = some (some v) ∧ w = rn ad v := by
  unfold asl
  rw [List.mem_filterMap]
  constructor
  · rintro ⟨a, -, h⟩
    split at h
    · rename_i v hv
      cases h
      exact ⟨v, hv, rfl⟩
    · cases h
  · rintro ⟨v, hv, rfl⟩
    refine ⟨i, List.mem_range.mpr (List.getElem?_eq_some_iff.mp hv).1, ?_⟩
    rw [hv]
theorem LH.has {ad : Nat → Nat} {ls : Array Slot} {nL : Nat} {lc : List (Option Value)} (h : LH ad ls nL lc) : lv_has ls nL (asl ad lc) := by
  refine ⟨h.1, h.2.1, fun q hq => ?_⟩
  obtain ⟨v, hv, e⟩ := asl_mem.mp (show (q.1, q.2) ∈ asl ad lc from hq)
  rw [e]
  exact h.2.2 _ _ hv
/-- slot i may be stored: no long begins just ahead of it -/
def okS (lc : List (Option Value)) (i : Nat) : Bool := match i with
  | 0 => true
  | k + 1 => match lc[k]? with
    | some (some v) => v.category == 1
    | _ => true
theorem okS_spec {lc : List (Option Value)} {i j : Nat} {v : Value} (h : okS lc i = true) (hj : lc[j]? = some (some v)) (e : j + 1 = i) : v.category = 1 := by
  subst e
  simp only [okS, hj] at h
  exact beq_iff_eq.mp h
theorem LH.store1 {ad : Nat → Nat} {ls : Array Slot} {nL i : Nat} {lc : List (Option Value)} {v : Value} (hs : okS lc i = true) (h : lv_has ls nL ((i, rn ad v) :: (asl ad lc).filter (fun q => !(q.1 == i) && !(q.1 + 1 == i && q.2.category == 2)))) : LH ad ls nL (lc.set i (some v)) := by
  refine ⟨h.1, h.2.1, fun j w hj => ?_⟩
  by_cases e : i = j
  · subst e
    rw [List.getElem?_set] at hj
    rw [if_pos rfl] at hj
    split at hj
    · cases hj
      exact h.2.2 (i, rn ad v) List.mem_cons_self
    · cases hj
  · rw [List.getElem?_set, if_neg e] at hj
    refine h.2.2 (j, rn ad w) (List.mem_cons_of_mem _ (List.mem_filter.mpr ⟨asl_mem.mpr ⟨w, hj, rfl⟩, ?_⟩))
    have e2 : ¬ j = i := fun q => e q.symm
    by_cases e3 : j + 1 = i
    · simp [e2, e3, rn_cat, okS_spec hs hj e3]
    · simp [e2, e3]
theorem LH.store2 {ad : Nat → Nat} {ls : Array Slot} {nL i : Nat} {lc : List (Option Value)} {v : Value} (hs : okS lc i = true) (h : lv_has ls nL ((i, rn ad v) :: (asl ad lc).filter (fun q => !(q.1 == i) && (!(q.1 == i + 1) && !(q.1 + 1 == i && q.2.category == 2))))) : LH ad ls nL ((lc.set i (some v)).set (i + 1) none) := by
  refine ⟨h.1, h.2.1, fun j w hj => ?_⟩
  by_cases e0 : i + 1 = j
  · subst e0
    rw [List.getElem?_set] at hj
    rw [if_pos rfl] at hj
    split at hj
    · cases hj
    · cases hj
  rw [List.getElem?_set, if_neg e0] at hj
  by_cases e : i = j
  · subst e
    rw [List.getElem?_set] at hj
    rw [if_pos rfl] at hj
    split at hj
    · cases hj
      exact h.2.2 (i, rn ad v) List.mem_cons_self
    · cases hj
  · rw [List.getElem?_set, if_neg e] at hj
    refine h.2.2 (j, rn ad w) (List.mem_cons_of_mem _ (List.mem_filter.mpr ⟨asl_mem.mpr ⟨w, hj, rfl⟩, ?_⟩))
    have e2 : ¬ j = i := fun q => e q.symm
    have e4 : ¬ j = i + 1 := fun q => e0 q.symm
    by_cases e3 : j + 1 = i
    · simp [e2, e3, e4, rn_cat, okS_spec hs hj e3]
    · simp [e2, e3, e4]
end
section
/-! ROWS OF THE JUDGEMENT: an instruction each -/
theorem sum_rn (ad : Nat → Nat) : ∀ st : List Value, ((st.map (rn ad)).map fun v => v.category).sum = (st.map fun v => v.category).sum
  | [] => rfl
  | v :: r => by simp only [List.map_cons, List.sum_cons, rn_cat, sum_rn ad r]
theorem wld_setA {ad : Nat → Nat} {ca : FieldType → ClassId} {I : mI} {L : mL} {k n : Nat} {ty : FieldType} {f : Nat → Int32} (h : sh k = some (.inl (ty, 0, n))) : (wld ad ca I L).set k (ad k, .inl (ca ty, n, .inl f)) = wld ad ca (pI I k f) L := wld_setI h rfl
theorem wld_setB {ad : Nat → Nat} {ca : FieldType → ClassId} {I : mI} {L : mL} {k n : Nat} {ty : FieldType} {f : Nat → Int64} (h : sh k = some (.inl (ty, 1, n))) : (wld ad ca I L).set k (ad k, .inl (ca ty, n, .inr (.inl f))) = wld ad ca I (pL L k f) := wld_setL h rfl
theorem wld_setF {ad : Nat → Nat} {ca : FieldType → ClassId} {I : mI} {L : mL} {k ci : Nat} {fs : List (Nat × Nat)} {f : Nat → Int32} (h : sh k = some (.inr (ci, fs))) : (wld ad ca I L).set k (ad k, .inr (ci, fs.mapIdx (fldOf ad f (L k)))) = wld ad ca (pI I k f) L := wld_setI h rfl
theorem wld_setG {ad : Nat → Nat} {ca : FieldType → ClassId} {I : mI} {L : mL} {k ci : Nat} {fs : List (Nat × Nat)} {f : Nat → Int64} (h : sh k = some (.inr (ci, fs))) : (wld ad ca I L).set k (ad k, .inr (ci, fs.mapIdx (fldOf ad (I k) f))) = wld ad ca I (pL L k f) := wld_setL h rfl
section RRows
variable {own : String} {cc : ByteArray} {nL d pc : Nat} {rt : Option FieldType} {lc : List (Option Value)} {st : List Value} {I : mI} {L : mL} {Q : Option Value → mI → mL → Prop}
theorem r_iconst {n : Int} {v : Int32} (hd : decode cc pc = .ok (.iconst n, 1)) (hv : Int32.ofInt n = v) (k : RR (own, cc, nL, rt) d (pc + 1) lc (.int v :: st) I L Q) : RR (own, cc, nL, rt) d pc lc st I L Q := by
  intro p l e s m args below meth c D ad ca H locs ls hC hP hS hl
  exact lv_iconst hC.1 hC.2.1 hd hv (k p l e s m args below meth c D ad ca H locs ls hC hP hS hl)
theorem r_bipush {n : Int} {v : Int32} (hd : decode cc pc = .ok (.bipush n, 2)) (hv : (Int8.ofInt n).toInt32 = v) (k : RR (own, cc, nL, rt) d (pc + 2) lc (.int v :: st) I L Q) : RR (own, cc, nL, rt) d pc lc st I L Q := by
  intro p l e s m args below meth c D ad ca H locs ls hC hP hS hl
  exact lv_bipush hC.1 hC.2.1 hd hv (k p l e s m args below meth c D ad ca H locs ls hC hP hS hl)
theorem r_sipush {n : Int} {v : Int32} (hd : decode cc pc = .ok (.sipush n, 3)) (hv : (Int16.ofInt n).toInt32 = v) (k : RR (own, cc, nL, rt) d (pc + 3) lc (.int v :: st) I L Q) : RR (own, cc, nL, rt) d pc lc st I L Q := by
  intro p l e s m args below meth c D ad ca H locs ls hC hP hS hl
  exact lv_sipush hC.1 hC.2.1 hd hv (k p l e s m args below meth c D ad ca H locs ls hC hP hS hl)
theorem r_lconst {n : Fin 2} {v : Int64} (hd : decode cc pc = .ok (.lconst n, 1)) (hv : Int64.ofNat (n : Nat) = v) (k : RR (own, cc, nL, rt) d (pc + 1) lc (.long v :: st) I L Q) : RR (own, cc, nL, rt) d pc lc st I L Q := by
  intro p l e s m args below meth c D ad ca H locs ls hC hP hS hl
  exact lv_lconst hC.1 hC.2.1 hd hv (k p l e s m args below meth c D ad ca H locs ls hC hP hS hl)
theorem r_ldc {index : Nat} {v : Int32} (hw : Cond.constant own index v ∈ TB) (hd : decode cc pc = .ok (.ldc index, 2)) (k : RR (own, cc, nL, rt) d (pc + 2) lc (.int v :: st) I L Q) : RR (own, cc, nL, rt) d pc lc st I L Q := by
  intro p l e s m args below meth c D ad ca H locs ls hC hP hS hl
  exact lv_ldc hC.1 hC.2.1 hC.2.2.2.2.1 (hC.2.2.2.2.2.2.1 _ hw) hd (k p l e s m args below meth c D ad ca H locs ls hC hP hS hl)
theorem r_ldcw {index : Nat} {v : Int32} (hw : Cond.constant own index v ∈ TB) (hd : decode cc pc = .ok (.ldc_w index, 3)) (k : RR (own, cc, nL, rt) d (pc + 3) lc (.int v :: st) I L Q) : RR (own, cc, nL, rt) d pc lc st I L Q := by
  intro p l e s m args below meth c D ad ca H locs ls hC hP hS hl
  exact lv_ldcw hC.1 hC.2.1 hC.2.2.2.2.1 (hC.2.2.2.2.2.2.1 _ hw) hd (k p l e s m args below meth c D ad ca H locs ls hC hP hS hl)
theorem r_ldc2 {index : Nat} {v : Int64} (hw : Cond.constantLong own index v ∈ TB) (hd : decode cc pc = .ok (.ldc2_w index, 3)) (k : RR (own, cc, nL, rt) d (pc + 3) lc (.long v :: st) I L Q) : RR (own, cc, nL, rt) d pc lc st I L Q := by
  intro p l e s m args below meth c D ad ca H locs ls hC hP hS hl
  exact lv_ldc2 hC.1 hC.2.1 hC.2.2.2.2.1 (hC.2.2.2.2.2.2.1 _ hw) hd (k p l e s m args below meth c D ad ca H locs ls hC hP hS hl)
theorem r_iload_n {q : Fin 4} {i : Nat} {x : Int32} (hd : decode cc pc = .ok (.iload_n q, 1)) (hi : (q : Nat) = i) (hx : lc[i]? = some (some (.int x))) (k : RR (own, cc, nL, rt) d (pc + 1) lc (.int x :: st) I L Q) : RR (own, cc, nL, rt) d pc lc st I L Q := by
  intro p l e s m args below meth c D ad ca H locs ls hC hP hS hl
  exact lv_iload_n hC.1 hC.2.1 hd hi (hl.2.2 _ _ hx) (k p l e s m args below meth c D ad ca H locs ls hC hP hS hl)
theorem r_iload {q : Nat} {x : Int32} (hd : decode cc pc = .ok (.iload q, 2)) (hx : lc[q]? = some (some (.int x))) (k : RR (own, cc, nL, rt) d (pc + 2) lc (.int x :: st) I L Q) : RR (own, cc, nL, rt) d pc lc st I L Q := by
  intro p l e s m args below meth c D ad ca H locs ls hC hP hS hl
  exact lv_iload hC.1 hC.2.1 hd (hl.2.2 _ _ hx) (k p l e s m args below meth c D ad ca H locs ls hC hP hS hl)
theorem r_lload_n {q : Fin 4} {i : Nat} {x : Int64} (hd : decode cc pc = .ok (.lload_n q, 1)) (hi : (q : Nat) = i) (hx : lc[i]? = some (some (.long x))) (k : RR (own, cc, nL, rt) d (pc + 1) lc (.long x :: st) I L Q) : RR (own, cc, nL, rt) d pc lc st I L Q := by
  intro p l e s m args below meth c D ad ca H locs ls hC hP hS hl
  exact lv_lload_n hC.1 hC.2.1 hd hi (hl.2.2 _ _ hx) (k p l e s m args below meth c D ad ca H locs ls hC hP hS hl)
theorem r_lload {q : Nat} {x : Int64} (hd : decode cc pc = .ok (.lload q, 2)) (hx : lc[q]? = some (some (.long x))) (k : RR (own, cc, nL, rt) d (pc + 2) lc (.long x :: st) I L Q) : RR (own, cc, nL, rt) d pc lc st I L Q := by
  intro p l e s m args below meth c D ad ca H locs ls hC hP hS hl
  exact lv_lload hC.1 hC.2.1 hd (hl.2.2 _ _ hx) (k p l e s m args below meth c D ad ca H locs ls hC hP hS hl)
theorem r_aload_n {q : Fin 4} {i : Nat} {x : Nat} (hd : decode cc pc = .ok (.aload_n q, 1)) (hi : (q : Nat) = i) (hx : lc[i]? = some (some (.ref x))) (k : RR (own, cc, nL, rt) d (pc + 1) lc (.ref x :: st) I L Q) : RR (own, cc, nL, rt) d pc lc st I L Q := by
  intro p l e s m args below meth c D ad ca H locs ls hC hP hS hl
  exact lv_aload_n hC.1 hC.2.1 hd hi (hl.2.2 _ _ hx) (k p l e s m args below meth c D ad ca H locs ls hC hP hS hl)
theorem r_aload {q : Nat} {x : Nat} (hd : decode cc pc = .ok (.aload q, 2)) (hx : lc[q]? = some (some (.ref x))) (k : RR (own, cc, nL, rt) d (pc + 2) lc (.ref x :: st) I L Q) : RR (own, cc, nL, rt) d pc lc st I L Q := by
  intro p l e s m args below meth c D ad ca H locs ls hC hP hS hl
  exact lv_aload hC.1 hC.2.1 hd (hl.2.2 _ _ hx) (k p l e s m args below meth c D ad ca H locs ls hC hP hS hl)
theorem r_istore_n {q : Fin 4} {i : Nat} {x : Int32} (hd : decode cc pc = .ok (.istore_n q, 1)) (hi : (q : Nat) = i) (hn : i < nL) (ho : okS lc i = true) (k : RR (own, cc, nL, rt) d (pc + 1) (lc.set i (some (.int x))) st I L Q) : RR (own, cc, nL, rt) d pc lc (.int x :: st) I L Q := by
  intro p l e s m args below meth c D ad ca H locs ls hC hP hS hl
  exact lv_istore_n hC.1 hC.2.1 hd hi hl.has hn rfl (fun ls hl => k p l e s m args below meth c D ad ca H locs ls hC hP hS (LH.store1 (v := .int x) ho hl))
theorem r_istore {q : Nat} {x : Int32} (hd : decode cc pc = .ok (.istore q, 2)) (hn : q < nL) (ho : okS lc q = true) (k : RR (own, cc, nL, rt) d (pc + 2) (lc.set q (some (.int x))) st I L Q) : RR (own, cc, nL, rt) d pc lc (.int x :: st) I L Q := by
  intro p l e s m args below meth c D ad ca H locs ls hC hP hS hl
  exact lv_istore hC.1 hC.2.1 hd hl.has hn rfl (fun ls hl => k p l e s m args below meth c D ad ca H locs ls hC hP hS (LH.store1 (v := .int x) ho hl))
theorem r_astore_n {q : Fin 4} {i : Nat} {x : Nat} (hd : decode cc pc = .ok (.astore_n q, 1)) (hi : (q : Nat) = i) (hn : i < nL) (ho : okS lc i = true) (k : RR (own, cc, nL, rt) d (pc + 1) (lc.set i (some (.ref x))) st I L Q) : RR (own, cc, nL, rt) d pc lc (.ref x :: st) I L Q := by
  intro p l e s m args below meth c D ad ca H locs ls hC hP hS hl
  exact lv_astore_n hC.1 hC.2.1 hd hi hl.has hn rfl (fun ls hl => k p l e s m args below meth c D ad ca H locs ls hC hP hS (LH.store1 (v := .ref x) ho hl))
theorem r_astore {q : Nat} {x : Nat} (hd : decode cc pc = .ok (.astore q, 2)) (hn : q < nL) (ho : okS lc q = true) (k : RR (own, cc, nL, rt) d (pc + 2) (lc.set q (some (.ref x))) st I L Q) : RR (own, cc, nL, rt) d pc lc (.ref x :: st) I L Q := by
  intro p l e s m args below meth c D ad ca H locs ls hC hP hS hl
  exact lv_astore hC.1 hC.2.1 hd hl.has hn rfl (fun ls hl => k p l e s m args below meth c D ad ca H locs ls hC hP hS (LH.store1 (v := .ref x) ho hl))
theorem r_lstore_n {q : Fin 4} {i : Nat} {x : Int64} (hd : decode cc pc = .ok (.lstore_n q, 1)) (hi : (q : Nat) = i) (hn : i + 1 < nL) (ho : okS lc i = true) (k : RR (own, cc, nL, rt) d (pc + 1) ((lc.set i (some (.long x))).set (i + 1) none) st I L Q) : RR (own, cc, nL, rt) d pc lc (.long x :: st) I L Q := by
  intro p l e s m args below meth c D ad ca H locs ls hC hP hS hl
  exact lv_lstore_n hC.1 hC.2.1 hd hi hl.has hn rfl (fun ls hl => k p l e s m args below meth c D ad ca H locs ls hC hP hS (LH.store2 (v := .long x) ho hl))
theorem r_lstore {q : Nat} {x : Int64} (hd : decode cc pc = .ok (.lstore q, 2)) (hn : q + 1 < nL) (ho : okS lc q = true) (k : RR (own, cc, nL, rt) d (pc + 2) ((lc.set q (some (.long x))).set (q + 1) none) st I L Q) : RR (own, cc, nL, rt) d pc lc (.long x :: st) I L Q := by
  intro p l e s m args below meth c D ad ca H locs ls hC hP hS hl
  exact lv_lstore hC.1 hC.2.1 hd hl.has hn rfl (fun ls hl => k p l e s m args below meth c D ad ca H locs ls hC hP hS (LH.store2 (v := .long x) ho hl))
theorem r_iinc {q : Nat} {n : Int} {x v : Int32} (hd : decode cc pc = .ok (.iinc q n, 3)) (hx : lc[q]? = some (some (.int x))) (hv : x + Int32.ofInt n = v) (hn : q < nL) (ho : okS lc q = true) (k : RR (own, cc, nL, rt) d (pc + 3) (lc.set q (some (.int v))) st I L Q) : RR (own, cc, nL, rt) d pc lc st I L Q := by
  intro p l e s m args below meth c D ad ca H locs ls hC hP hS hl
  obtain ⟨i, hi⟩ := List.getElem?_of_mem (asl_mem.mpr ⟨_, hx, rfl⟩ : (q, rn ad (.int x)) ∈ asl ad lc)
  exact lv_iinc hC.1 hC.2.1 hd hl.has hi hv hn rfl (fun ls hl => k p l e s m args below meth c D ad ca H locs ls hC hP hS (LH.store1 (v := .int v) ho hl))
theorem r_iadd {x y : Int32} (hd : decode cc pc = .ok (.iadd, 1)) (k : RR (own, cc, nL, rt) d (pc + 1) lc (.int (x + y) :: st) I L Q) : RR (own, cc, nL, rt) d pc lc (.int y :: .int x :: st) I L Q := by
  intro p l e s m args below meth c D ad ca H locs ls hC hP hS hl
  exact lv_iadd hC.1 hC.2.1 hd (k p l e s m args below meth c D ad ca H locs ls hC hP hS hl)
theorem r_isub {x y : Int32} (hd : decode cc pc = .ok (.isub, 1)) (k : RR (own, cc, nL, rt) d (pc + 1) lc (.int (x - y) :: st) I L Q) : RR (own, cc, nL, rt) d pc lc (.int y :: .int x :: st) I L Q := by
  intro p l e s m args below meth c D ad ca H locs ls hC hP hS hl
  exact lv_isub hC.1 hC.2.1 hd (k p l e s m args below meth c D ad ca H locs ls hC hP hS hl)
theorem r_imul {x y : Int32} (hd : decode cc pc = .ok (.imul, 1)) (k : RR (own, cc, nL, rt) d (pc + 1) lc (.int (x * y) :: st) I L Q) : RR (own, cc, nL, rt) d pc lc (.int y :: .int x :: st) I L Q := by
  intro p l e s m args below meth c D ad ca H locs ls hC hP hS hl
  exact lv_imul hC.1 hC.2.1 hd (k p l e s m args below meth c D ad ca H locs ls hC hP hS hl)
theorem r_iand {x y : Int32} (hd : decode cc pc = .ok (.iand, 1)) (k : RR (own, cc, nL, rt) d (pc + 1) lc (.int (x &&& y) :: st) I L Q) : RR (own, cc, nL, rt) d pc lc (.int y :: .int x :: st) I L Q := by
  intro p l e s m args below meth c D ad ca H locs ls hC hP hS hl
  exact lv_iand hC.1 hC.2.1 hd (k p l e s m args below meth c D ad ca H locs ls hC hP hS hl)
theorem r_ior {x y : Int32} (hd : decode cc pc = .ok (.ior, 1)) (k : RR (own, cc, nL, rt) d (pc + 1) lc (.int (x ||| y) :: st) I L Q) : RR (own, cc, nL, rt) d pc lc (.int y :: .int x :: st) I L Q := by
  intro p l e s m args below meth c D ad ca H locs ls hC hP hS hl
  exact lv_ior hC.1 hC.2.1 hd (k p l e s m args below meth c D ad ca H locs ls hC hP hS hl)
theorem r_ixor {x y : Int32} (hd : decode cc pc = .ok (.ixor, 1)) (k : RR (own, cc, nL, rt) d (pc + 1) lc (.int (x ^^^ y) :: st) I L Q) : RR (own, cc, nL, rt) d pc lc (.int y :: .int x :: st) I L Q := by
  intro p l e s m args below meth c D ad ca H locs ls hC hP hS hl
  exact lv_ixor hC.1 hC.2.1 hd (k p l e s m args below meth c D ad ca H locs ls hC hP hS hl)
theorem r_ishl {x y : Int32} (hd : decode cc pc = .ok (.ishl, 1)) (k : RR (own, cc, nL, rt) d (pc + 1) lc (.int (x <<< (y &&& 31)) :: st) I L Q) : RR (own, cc, nL, rt) d pc lc (.int y :: .int x :: st) I L Q := by
  intro p l e s m args below meth c D ad ca H locs ls hC hP hS hl
  exact lv_ishl hC.1 hC.2.1 hd (k p l e s m args below meth c D ad ca H locs ls hC hP hS hl)
theorem r_ishr {x y : Int32} (hd : decode cc pc = .ok (.ishr, 1)) (k : RR (own, cc, nL, rt) d (pc + 1) lc (.int (x >>> (y &&& 31)) :: st) I L Q) : RR (own, cc, nL, rt) d pc lc (.int y :: .int x :: st) I L Q := by
  intro p l e s m args below meth c D ad ca H locs ls hC hP hS hl
  exact lv_ishr hC.1 hC.2.1 hd (k p l e s m args below meth c D ad ca H locs ls hC hP hS hl)
theorem r_idiv {x y : Int32} (hd : decode cc pc = .ok (.idiv, 1)) (hne : ¬ y = 0) (k : RR (own, cc, nL, rt) d (pc + 1) lc (.int (x / y) :: st) I L Q) : RR (own, cc, nL, rt) d pc lc (.int y :: .int x :: st) I L Q := by
  intro p l e s m args below meth c D ad ca H locs ls hC hP hS hl
  exact lv_idiv hC.1 hC.2.1 hd hne (k p l e s m args below meth c D ad ca H locs ls hC hP hS hl)
theorem r_irem {x y : Int32} (hd : decode cc pc = .ok (.irem, 1)) (hne : ¬ y = 0) (k : RR (own, cc, nL, rt) d (pc + 1) lc (.int (x - x / y * y) :: st) I L Q) : RR (own, cc, nL, rt) d pc lc (.int y :: .int x :: st) I L Q := by
  intro p l e s m args below meth c D ad ca H locs ls hC hP hS hl
  exact lv_irem hC.1 hC.2.1 hd hne (k p l e s m args below meth c D ad ca H locs ls hC hP hS hl)
theorem r_iushr {x y : Int32} (hd : decode cc pc = .ok (.iushr, 1)) (k : RR (own, cc, nL, rt) d (pc + 1) lc (.int ((x.toUInt32 >>> (y.toUInt32 &&& Int32.toUInt32 31)).toInt32) :: st) I L Q) : RR (own, cc, nL, rt) d pc lc (.int y :: .int x :: st) I L Q := by
  intro p l e s m args below meth c D ad ca H locs ls hC hP hS hl
  exact lv_iushr hC.1 hC.2.1 hd rfl (k p l e s m args below meth c D ad ca H locs ls hC hP hS hl)
theorem r_ladd {x y : Int64} (hd : decode cc pc = .ok (.ladd, 1)) (k : RR (own, cc, nL, rt) d (pc + 1) lc (.long (x + y) :: st) I L Q) : RR (own, cc, nL, rt) d pc lc (.long y :: .long x :: st) I L Q := by
  intro p l e s m args below meth c D ad ca H locs ls hC hP hS hl
  exact lv_ladd hC.1 hC.2.1 hd (k p l e s m args below meth c D ad ca H locs ls hC hP hS hl)
theorem r_lsub {x y : Int64} (hd : decode cc pc = .ok (.lsub, 1)) (k : RR (own, cc, nL, rt) d (pc + 1) lc (.long (x - y) :: st) I L Q) : RR (own, cc, nL, rt) d pc lc (.long y :: .long x :: st) I L Q := by
  intro p l e s m args below meth c D ad ca H locs ls hC hP hS hl
  exact lv_lsub hC.1 hC.2.1 hd (k p l e s m args below meth c D ad ca H locs ls hC hP hS hl)
theorem r_lmul {x y : Int64} (hd : decode cc pc = .ok (.lmul, 1)) (k : RR (own, cc, nL, rt) d (pc + 1) lc (.long (x * y) :: st) I L Q) : RR (own, cc, nL, rt) d pc lc (.long y :: .long x :: st) I L Q := by
  intro p l e s m args below meth c D ad ca H locs ls hC hP hS hl
  exact lv_lmul hC.1 hC.2.1 hd (k p l e s m args below meth c D ad ca H locs ls hC hP hS hl)
theorem r_land {x y : Int64} (hd : decode cc pc = .ok (.land, 1)) (k : RR (own, cc, nL, rt) d (pc + 1) lc (.long (x &&& y) :: st) I L Q) : RR (own, cc, nL, rt) d pc lc (.long y :: .long x :: st) I L Q := by
  intro p l e s m args below meth c D ad ca H locs ls hC hP hS hl
  exact lv_land hC.1 hC.2.1 hd (k p l e s m args below meth c D ad ca H locs ls hC hP hS hl)
theorem r_lor {x y : Int64} (hd : decode cc pc = .ok (.lor, 1)) (k : RR (own, cc, nL, rt) d (pc + 1) lc (.long (x ||| y) :: st) I L Q) : RR (own, cc, nL, rt) d pc lc (.long y :: .long x :: st) I L Q := by
  intro p l e s m args below meth c D ad ca H locs ls hC hP hS hl
  exact lv_lor hC.1 hC.2.1 hd (k p l e s m args below meth c D ad ca H locs ls hC hP hS hl)
theorem r_ldiv {x y : Int64} (hd : decode cc pc = .ok (.ldiv, 1)) (hne : ¬ y = 0) (k : RR (own, cc, nL, rt) d (pc + 1) lc (.long (x / y) :: st) I L Q) : RR (own, cc, nL, rt) d pc lc (.long y :: .long x :: st) I L Q := by
  intro p l e s m args below meth c D ad ca H locs ls hC hP hS hl
  exact lv_ldiv hC.1 hC.2.1 hd hne (k p l e s m args below meth c D ad ca H locs ls hC hP hS hl)
theorem r_lrem {x y : Int64} (hd : decode cc pc = .ok (.lrem, 1)) (hne : ¬ y = 0) (k : RR (own, cc, nL, rt) d (pc + 1) lc (.long (x - x / y * y) :: st) I L Q) : RR (own, cc, nL, rt) d pc lc (.long y :: .long x :: st) I L Q := by
  intro p l e s m args below meth c D ad ca H locs ls hC hP hS hl
  exact lv_lrem hC.1 hC.2.1 hd hne (k p l e s m args below meth c D ad ca H locs ls hC hP hS hl)
theorem r_lneg {x : Int64} (hd : decode cc pc = .ok (.lneg, 1)) (k : RR (own, cc, nL, rt) d (pc + 1) lc (.long (-x) :: st) I L Q) : RR (own, cc, nL, rt) d pc lc (.long x :: st) I L Q := by
  intro p l e s m args below meth c D ad ca H locs ls hC hP hS hl
  exact lv_lneg hC.1 hC.2.1 hd (k p l e s m args below meth c D ad ca H locs ls hC hP hS hl)
theorem r_ineg {x : Int32} (hd : decode cc pc = .ok (.ineg, 1)) (k : RR (own, cc, nL, rt) d (pc + 1) lc (.int (-x) :: st) I L Q) : RR (own, cc, nL, rt) d pc lc (.int x :: st) I L Q := by
  intro p l e s m args below meth c D ad ca H locs ls hC hP hS hl
  exact lv_ineg hC.1 hC.2.1 hd (k p l e s m args below meth c D ad ca H locs ls hC hP hS hl)
theorem r_lcmp {x y : Int64} (hd : decode cc pc = .ok (.lcmp, 1)) (k : RR (own, cc, nL, rt) d (pc + 1) lc (.int (lg_cmp x y) :: st) I L Q) : RR (own, cc, nL, rt) d pc lc (.long y :: .long x :: st) I L Q := by
  intro p l e s m args below meth c D ad ca H locs ls hC hP hS hl
  exact W.lcmp hC.1 hC.2.1 hd (k p l e s m args below meth c D ad ca H locs ls hC hP hS hl)
theorem r_i2l {x : Int32} (hd : decode cc pc = .ok (.i2l, 1)) (k : RR (own, cc, nL, rt) d (pc + 1) lc (.long (x.toInt64) :: st) I L Q) : RR (own, cc, nL, rt) d pc lc (.int x :: st) I L Q := by
  intro p l e s m args below meth c D ad ca H locs ls hC hP hS hl
  exact lv_i2l hC.1 hC.2.1 hd rfl (k p l e s m args below meth c D ad ca H locs ls hC hP hS hl)
theorem r_l2i {x : Int64} (hd : decode cc pc = .ok (.l2i, 1)) (k : RR (own, cc, nL, rt) d (pc + 1) lc (.int (x.toInt32) :: st) I L Q) : RR (own, cc, nL, rt) d pc lc (.long x :: st) I L Q := by
  intro p l e s m args below meth c D ad ca H locs ls hC hP hS hl
  exact lv_l2i hC.1 hC.2.1 hd rfl (k p l e s m args below meth c D ad ca H locs ls hC hP hS hl)
theorem r_i2s {x : Int32} (hd : decode cc pc = .ok (.i2s, 1)) (k : RR (own, cc, nL, rt) d (pc + 1) lc (.int (x.toInt16.toInt32) :: st) I L Q) : RR (own, cc, nL, rt) d pc lc (.int x :: st) I L Q := by
  intro p l e s m args below meth c D ad ca H locs ls hC hP hS hl
  exact lv_i2s hC.1 hC.2.1 hd rfl (k p l e s m args below meth c D ad ca H locs ls hC hP hS hl)
theorem r_i2b {x : Int32} (hd : decode cc pc = .ok (.i2b, 1)) (k : RR (own, cc, nL, rt) d (pc + 1) lc (.int (x.toInt8.toInt32) :: st) I L Q) : RR (own, cc, nL, rt) d pc lc (.int x :: st) I L Q := by
  intro p l e s m args below meth c D ad ca H locs ls hC hP hS hl
  exact lv_i2b hC.1 hC.2.1 hd rfl (k p l e s m args below meth c D ad ca H locs ls hC hP hS hl)
theorem r_i2c {x : Int32} (hd : decode cc pc = .ok (.i2c, 1)) (k : RR (own, cc, nL, rt) d (pc + 1) lc (.int ((x.toUInt32 % 65536).toInt32) :: st) I L Q) : RR (own, cc, nL, rt) d pc lc (.int x :: st) I L Q := by
  intro p l e s m args below meth c D ad ca H locs ls hC hP hS hl
  exact lv_i2c hC.1 hC.2.1 hd rfl (k p l e s m args below meth c D ad ca H locs ls hC hP hS hl)
theorem r_dup {x : Value} (hd : decode cc pc = .ok (.dup, 1)) (hx : x.category = 1) (k : RR (own, cc, nL, rt) d (pc + 1) lc (x :: x :: st) I L Q) : RR (own, cc, nL, rt) d pc lc (x :: st) I L Q := by
  intro p l e s m args below meth c D ad ca H locs ls hC hP hS hl
  exact lv_dup hC.1 hC.2.1 hd (by rw [rn_cat]; exact hx) (k p l e s m args below meth c D ad ca H locs ls hC hP hS hl)
theorem r_pop {x : Value} (hd : decode cc pc = .ok (.pop, 1)) (hx : x.category = 1) (k : RR (own, cc, nL, rt) d (pc + 1) lc st I L Q) : RR (own, cc, nL, rt) d pc lc (x :: st) I L Q := by
  intro p l e s m args below meth c D ad ca H locs ls hC hP hS hl
  exact lv_pop hC.1 hC.2.1 hd (by rw [rn_cat]; exact hx) (k p l e s m args below meth c D ad ca H locs ls hC hP hS hl)
theorem r_dup2 {x y : Value} (hd : decode cc pc = .ok (.dup2, 1)) (hx : x.category = 1) (hy : y.category = 1) (k : RR (own, cc, nL, rt) d (pc + 1) lc (x :: y :: x :: y :: st) I L Q) : RR (own, cc, nL, rt) d pc lc (x :: y :: st) I L Q := by
  intro p l e s m args below meth c D ad ca H locs ls hC hP hS hl
  exact lv_dup2_11 hC.1 hC.2.1 hd (by rw [rn_cat]; exact hx) (by rw [rn_cat]; exact hy) (k p l e s m args below meth c D ad ca H locs ls hC hP hS hl)
theorem r_if_eq {x : Int32} {off : Int} {tgt : Nat} (hd : decode cc pc = .ok (.ifCond .eq off, 3)) (ht : (pc : Int) + off = (tgt : Int)) (kt : x = 0 → RR (own, cc, nL, rt) d tgt lc st I L Q) (kf : ¬ x = 0 → RR (own, cc, nL, rt) d (pc + 3) lc st I L Q) : RR (own, cc, nL, rt) d pc lc (.int x :: st) I L Q := by
  intro p l e s m args below meth c D ad ca H locs ls hC hP hS hl
  exact lv_if_eq hC.1 hC.2.1 hd ht (fun h => kt h p l e s m args below meth c D ad ca H locs ls hC hP hS hl) (fun h => kf h p l e s m args below meth c D ad ca H locs ls hC hP hS hl)
theorem r_icmp_eq {x y : Int32} {off : Int} {tgt : Nat} (hd : decode cc pc = .ok (.if_icmp .eq off, 3)) (ht : (pc : Int) + off = (tgt : Int)) (kt : x = y → RR (own, cc, nL, rt) d tgt lc st I L Q) (kf : ¬ x = y → RR (own, cc, nL, rt) d (pc + 3) lc st I L Q) : RR (own, cc, nL, rt) d pc lc (.int y :: .int x :: st) I L Q := by
  intro p l e s m args below meth c D ad ca H locs ls hC hP hS hl
  exact lv_icmp_eq hC.1 hC.2.1 hd ht (fun h => kt h p l e s m args below meth c D ad ca H locs ls hC hP hS hl) (fun h => kf h p l e s m args below meth c D ad ca H locs ls hC hP hS hl)
theorem r_if_ne {x : Int32} {off : Int} {tgt : Nat} (hd : decode cc pc = .ok (.ifCond .ne off, 3)) (ht : (pc : Int) + off = (tgt : Int)) (kt : ¬ x = 0 → RR (own, cc, nL, rt) d tgt lc st I L Q) (kf : x = 0 → RR (own, cc, nL, rt) d (pc + 3) lc st I L Q) : RR (own, cc, nL, rt) d pc lc (.int x :: st) I L Q := by
  intro p l e s m args below meth c D ad ca H locs ls hC hP hS hl
  exact lv_if_ne hC.1 hC.2.1 hd ht (fun h => kt h p l e s m args below meth c D ad ca H locs ls hC hP hS hl) (fun h => kf h p l e s m args below meth c D ad ca H locs ls hC hP hS hl)
theorem r_icmp_ne {x y : Int32} {off : Int} {tgt : Nat} (hd : decode cc pc = .ok (.if_icmp .ne off, 3)) (ht : (pc : Int) + off = (tgt : Int)) (kt : ¬ x = y → RR (own, cc, nL, rt) d tgt lc st I L Q) (kf : x = y → RR (own, cc, nL, rt) d (pc + 3) lc st I L Q) : RR (own, cc, nL, rt) d pc lc (.int y :: .int x :: st) I L Q := by
  intro p l e s m args below meth c D ad ca H locs ls hC hP hS hl
  exact lv_icmp_ne hC.1 hC.2.1 hd ht (fun h => kt h p l e s m args below meth c D ad ca H locs ls hC hP hS hl) (fun h => kf h p l e s m args below meth c D ad ca H locs ls hC hP hS hl)
theorem r_if_lt {x : Int32} {off : Int} {tgt : Nat} (hd : decode cc pc = .ok (.ifCond .lt off, 3)) (ht : (pc : Int) + off = (tgt : Int)) (kt : x < 0 → RR (own, cc, nL, rt) d tgt lc st I L Q) (kf : ¬ x < 0 → RR (own, cc, nL, rt) d (pc + 3) lc st I L Q) : RR (own, cc, nL, rt) d pc lc (.int x :: st) I L Q := by
  intro p l e s m args below meth c D ad ca H locs ls hC hP hS hl
  exact lv_if_lt hC.1 hC.2.1 hd ht (fun h => kt h p l e s m args below meth c D ad ca H locs ls hC hP hS hl) (fun h => kf h p l e s m args below meth c D ad ca H locs ls hC hP hS hl)
theorem r_icmp_lt {x y : Int32} {off : Int} {tgt : Nat} (hd : decode cc pc = .ok (.if_icmp .lt off, 3)) (ht : (pc : Int) + off = (tgt : Int)) (kt : x < y → RR (own, cc, nL, rt) d tgt lc st I L Q) (kf : ¬ x < y → RR (own, cc, nL, rt) d (pc + 3) lc st I L Q) : RR (own, cc, nL, rt) d pc lc (.int y :: .int x :: st) I L Q := by
  intro p l e s m args below meth c D ad ca H locs ls hC hP hS hl
  exact lv_icmp_lt hC.1 hC.2.1 hd ht (fun h => kt h p l e s m args below meth c D ad ca H locs ls hC hP hS hl) (fun h => kf h p l e s m args below meth c D ad ca H locs ls hC hP hS hl)
theorem r_if_ge {x : Int32} {off : Int} {tgt : Nat} (hd : decode cc pc = .ok (.ifCond .ge off, 3)) (ht : (pc : Int) + off = (tgt : Int)) (kt : 0 ≤ x → RR (own, cc, nL, rt) d tgt lc st I L Q) (kf : ¬ 0 ≤ x → RR (own, cc, nL, rt) d (pc + 3) lc st I L Q) : RR (own, cc, nL, rt) d pc lc (.int x :: st) I L Q := by
  intro p l e s m args below meth c D ad ca H locs ls hC hP hS hl
  exact lv_if_ge hC.1 hC.2.1 hd ht (fun h => kt h p l e s m args below meth c D ad ca H locs ls hC hP hS hl) (fun h => kf h p l e s m args below meth c D ad ca H locs ls hC hP hS hl)
theorem r_icmp_ge {x y : Int32} {off : Int} {tgt : Nat} (hd : decode cc pc = .ok (.if_icmp .ge off, 3)) (ht : (pc : Int) + off = (tgt : Int)) (kt : y ≤ x → RR (own, cc, nL, rt) d tgt lc st I L Q) (kf : ¬ y ≤ x → RR (own, cc, nL, rt) d (pc + 3) lc st I L Q) : RR (own, cc, nL, rt) d pc lc (.int y :: .int x :: st) I L Q := by
  intro p l e s m args below meth c D ad ca H locs ls hC hP hS hl
  exact lv_icmp_ge hC.1 hC.2.1 hd ht (fun h => kt h p l e s m args below meth c D ad ca H locs ls hC hP hS hl) (fun h => kf h p l e s m args below meth c D ad ca H locs ls hC hP hS hl)
theorem r_if_gt {x : Int32} {off : Int} {tgt : Nat} (hd : decode cc pc = .ok (.ifCond .gt off, 3)) (ht : (pc : Int) + off = (tgt : Int)) (kt : 0 < x → RR (own, cc, nL, rt) d tgt lc st I L Q) (kf : ¬ 0 < x → RR (own, cc, nL, rt) d (pc + 3) lc st I L Q) : RR (own, cc, nL, rt) d pc lc (.int x :: st) I L Q := by
  intro p l e s m args below meth c D ad ca H locs ls hC hP hS hl
  exact lv_if_gt hC.1 hC.2.1 hd ht (fun h => kt h p l e s m args below meth c D ad ca H locs ls hC hP hS hl) (fun h => kf h p l e s m args below meth c D ad ca H locs ls hC hP hS hl)
theorem r_icmp_gt {x y : Int32} {off : Int} {tgt : Nat} (hd : decode cc pc = .ok (.if_icmp .gt off, 3)) (ht : (pc : Int) + off = (tgt : Int)) (kt : y < x → RR (own, cc, nL, rt) d tgt lc st I L Q) (kf : ¬ y < x → RR (own, cc, nL, rt) d (pc + 3) lc st I L Q) : RR (own, cc, nL, rt) d pc lc (.int y :: .int x :: st) I L Q := by
  intro p l e s m args below meth c D ad ca H locs ls hC hP hS hl
  exact lv_icmp_gt hC.1 hC.2.1 hd ht (fun h => kt h p l e s m args below meth c D ad ca H locs ls hC hP hS hl) (fun h => kf h p l e s m args below meth c D ad ca H locs ls hC hP hS hl)
theorem r_if_le {x : Int32} {off : Int} {tgt : Nat} (hd : decode cc pc = .ok (.ifCond .le off, 3)) (ht : (pc : Int) + off = (tgt : Int)) (kt : x ≤ 0 → RR (own, cc, nL, rt) d tgt lc st I L Q) (kf : ¬ x ≤ 0 → RR (own, cc, nL, rt) d (pc + 3) lc st I L Q) : RR (own, cc, nL, rt) d pc lc (.int x :: st) I L Q := by
  intro p l e s m args below meth c D ad ca H locs ls hC hP hS hl
  exact lv_if_le hC.1 hC.2.1 hd ht (fun h => kt h p l e s m args below meth c D ad ca H locs ls hC hP hS hl) (fun h => kf h p l e s m args below meth c D ad ca H locs ls hC hP hS hl)
theorem r_icmp_le {x y : Int32} {off : Int} {tgt : Nat} (hd : decode cc pc = .ok (.if_icmp .le off, 3)) (ht : (pc : Int) + off = (tgt : Int)) (kt : x ≤ y → RR (own, cc, nL, rt) d tgt lc st I L Q) (kf : ¬ x ≤ y → RR (own, cc, nL, rt) d (pc + 3) lc st I L Q) : RR (own, cc, nL, rt) d pc lc (.int y :: .int x :: st) I L Q := by
  intro p l e s m args below meth c D ad ca H locs ls hC hP hS hl
  exact lv_icmp_le hC.1 hC.2.1 hd ht (fun h => kt h p l e s m args below meth c D ad ca H locs ls hC hP hS hl) (fun h => kf h p l e s m args below meth c D ad ca H locs ls hC hP hS hl)
theorem r_goto {off : Int} {tgt : Nat} (hd : decode cc pc = .ok (.goto off, 3)) (ht : (pc : Int) + off = (tgt : Int)) (k : RR (own, cc, nL, rt) d tgt lc st I L Q) : RR (own, cc, nL, rt) d pc lc st I L Q := by
  intro p l e s m args below meth c D ad ca H locs ls hC hP hS hl
  exact lv_goto hC.1 hC.2.1 hd ht (k p l e s m args below meth c D ad ca H locs ls hC hP hS hl)
theorem r_tabIn {dflt lo hi : Int} {offs : Array Int} {len : Nat} {x : Int32} {off : Int} {tgt : Nat} (hd : decode cc pc = .ok (.tableswitch dflt lo hi offs, len)) (h1 : ¬ x.toInt < lo) (h2 : ¬ hi < x.toInt) (ho : offs[(x.toInt - lo).toNat]? = some off) (ht : (pc : Int) + off = (tgt : Int)) (k : RR (own, cc, nL, rt) d tgt lc st I L Q) : RR (own, cc, nL, rt) d pc lc (.int x :: st) I L Q := by
  intro p l e s m args below meth c D ad ca H locs ls hC hP hS hl
  exact lv_tableIn hC.1 hC.2.1 hd h1 h2 ho ht (k p l e s m args below meth c D ad ca H locs ls hC hP hS hl)
theorem r_tabOut {dflt lo hi : Int} {offs : Array Int} {len : Nat} {x : Int32} {tgt : Nat} (hd : decode cc pc = .ok (.tableswitch dflt lo hi offs, len)) (h : x.toInt < lo ∨ hi < x.toInt) (ht : (pc : Int) + dflt = (tgt : Int)) (k : RR (own, cc, nL, rt) d tgt lc st I L Q) : RR (own, cc, nL, rt) d pc lc (.int x :: st) I L Q := by
  intro p l e s m args below meth c D ad ca H locs ls hC hP hS hl
  exact lv_tableOut hC.1 hC.2.1 hd h ht (k p l e s m args below meth c D ad ca H locs ls hC hP hS hl)
theorem r_iald {a n : Nat} {i : Int32} (hs : sh a = some (.inl (.int, 0, n))) (hin : vp_in i n) (hd : decode cc pc = .ok (.iaload, 1)) (k : RR (own, cc, nL, rt) d (pc + 1) lc (.int (I a i.toNatClampNeg) :: st) I L Q) : RR (own, cc, nL, rt) d pc lc (.int i :: .ref a :: st) I L Q := by
  intro p l e s m args below meth c D ad ca H locs ls hC hP hS hl
  exact va_iald hC.1 hC.2.1 hC.2.2.2.2.2.2.2.1 hP a 0 (wld_get hs) rfl hin hd (k p l e s m args below meth c D ad ca H locs ls hC hP hS hl)
theorem r_cald {a n : Nat} {i : Int32} (hs : sh a = some (.inl (.char, 0, n))) (hin : vp_in i n) (hd : decode cc pc = .ok (.caload, 1)) (k : RR (own, cc, nL, rt) d (pc + 1) lc (.int (I a i.toNatClampNeg) :: st) I L Q) : RR (own, cc, nL, rt) d pc lc (.int i :: .ref a :: st) I L Q := by
  intro p l e s m args below meth c D ad ca H locs ls hC hP hS hl
  exact va_cald hC.1 hC.2.1 hC.2.2.2.2.2.2.2.1 hP a 2 (wld_get hs) rfl hin hd (k p l e s m args below meth c D ad ca H locs ls hC hP hS hl)
theorem r_zald {a n : Nat} {i : Int32} (hs : sh a = some (.inl (.boolean, 0, n))) (hin : vp_in i n) (hd : decode cc pc = .ok (.baload, 1)) (k : RR (own, cc, nL, rt) d (pc + 1) lc (.int (I a i.toNatClampNeg) :: st) I L Q) : RR (own, cc, nL, rt) d pc lc (.int i :: .ref a :: st) I L Q := by
  intro p l e s m args below meth c D ad ca H locs ls hC hP hS hl
  exact va_zald hC.1 hC.2.1 hC.2.2.2.2.2.2.2.1 hP a 3 (wld_get hs) rfl hin hd (k p l e s m args below meth c D ad ca H locs ls hC hP hS hl)
theorem r_lald {a n : Nat} {i : Int32} (hs : sh a = some (.inl (.long, 1, n))) (hin : vp_in i n) (hd : decode cc pc = .ok (.laload, 1)) (k : RR (own, cc, nL, rt) d (pc + 1) lc (.long (L a i.toNatClampNeg) :: st) I L Q) : RR (own, cc, nL, rt) d pc lc (.int i :: .ref a :: st) I L Q := by
  intro p l e s m args below meth c D ad ca H locs ls hC hP hS hl
  exact va_lald hC.1 hC.2.1 hC.2.2.2.2.2.2.2.1 hP a 1 (wld_get hs) rfl hin hd (k p l e s m args below meth c D ad ca H locs ls hC hP hS hl)
theorem r_iast {a n : Nat} {i x : Int32} (hs : sh a = some (.inl (.int, 0, n))) (hin : vp_in i n) (hd : decode cc pc = .ok (.iastore, 1)) (k : RR (own, cc, nL, rt) d (pc + 1) lc st (uI I a i.toNatClampNeg x) L Q) : RR (own, cc, nL, rt) d pc lc (.int x :: .int i :: .ref a :: st) I L Q := by
  intro p l e s m args below meth c D ad ca H locs ls hC hP hS hl
  exact va_iast hC.1 hC.2.1 hC.2.2.2.2.2.2.2.1 hP (wld_D hC.2.2.2.2.2.2.2.2.1) hS a 0 (wld_get hs) rfl hin hd (fun H locs hP hD hS => k p l e s m args below meth c D ad ca H locs ls hC (by rw [wld_setA hs] at hP; exact hP) hS hl)
theorem r_cast {a n : Nat} {i x : Int32} (hs : sh a = some (.inl (.char, 0, n))) (hin : vp_in i n) (hd : decode cc pc = .ok (.castore, 1)) (k : RR (own, cc, nL, rt) d (pc + 1) lc st (uI I a i.toNatClampNeg (vp_nar .char x)) L Q) : RR (own, cc, nL, rt) d pc lc (.int x :: .int i :: .ref a :: st) I L Q := by
  intro p l e s m args below meth c D ad ca H locs ls hC hP hS hl
  exact va_cast hC.1 hC.2.1 hC.2.2.2.2.2.2.2.1 hP (wld_D hC.2.2.2.2.2.2.2.2.1) hS a 2 (wld_get hs) rfl hin hd (fun H locs hP hD hS => k p l e s m args below meth c D ad ca H locs ls hC (by rw [wld_setA hs] at hP; exact hP) hS hl)
theorem r_zast {a n : Nat} {i x : Int32} (hs : sh a = some (.inl (.boolean, 0, n))) (hin : vp_in i n) (hd : decode cc pc = .ok (.bastore, 1)) (k : RR (own, cc, nL, rt) d (pc + 1) lc st (uI I a i.toNatClampNeg (vp_nar .boolean x)) L Q) : RR (own, cc, nL, rt) d pc lc (.int x :: .int i :: .ref a :: st) I L Q := by
  intro p l e s m args below meth c D ad ca H locs ls hC hP hS hl
  exact va_zast hC.1 hC.2.1 hC.2.2.2.2.2.2.2.1 hP (wld_D hC.2.2.2.2.2.2.2.2.1) hS a 3 (wld_get hs) rfl hin hd (fun H locs hP hD hS => k p l e s m args below meth c D ad ca H locs ls hC (by rw [wld_setA hs] at hP; exact hP) hS hl)
theorem r_last {a n : Nat} {i : Int32} {x : Int64} (hs : sh a = some (.inl (.long, 1, n))) (hin : vp_in i n) (hd : decode cc pc = .ok (.lastore, 1)) (k : RR (own, cc, nL, rt) d (pc + 1) lc st I (uL L a i.toNatClampNeg x) Q) : RR (own, cc, nL, rt) d pc lc (.long x :: .int i :: .ref a :: st) I L Q := by
  intro p l e s m args below meth c D ad ca H locs ls hC hP hS hl
  exact va_last hC.1 hC.2.1 hC.2.2.2.2.2.2.2.1 hP (wld_D hC.2.2.2.2.2.2.2.2.1) hS a 1 (wld_get hs) rfl hin hd (fun H locs hP hD hS => k p l e s m args below meth c D ad ca H locs ls hC (by rw [wld_setB hs] at hP; exact hP) hS hl)
theorem r_aald {a b n : Nat} {i : Int32} (hs : sh a = some (.inl (.array .long, b + 2, n))) (hin : vp_in i n) (hd : decode cc pc = .ok (.aaload, 1)) (k : RR (own, cc, nL, rt) d (pc + 1) lc (.ref (b + i.toNatClampNeg) :: st) I L Q) : RR (own, cc, nL, rt) d pc lc (.int i :: .ref a :: st) I L Q := by
  intro p l e s m args below meth c D ad ca H locs ls hC hP hS hl
  have hlt : i.toNatClampNeg < n := Nat.not_le.mp fun q => hin (Or.inr q)
  have hv : ∀ f : Nat → Option Nat, f i.toNatClampNeg = some (ad (b + i.toNatClampNeg)) → va_rf (f i.toNatClampNeg) = rn ad (.ref (b + i.toNatClampNeg)) := fun f h => by rw [h]; rfl
  refine W.aald (v := rn ad (.ref (b + i.toNatClampNeg))) (ty := .array .long) hC.1 hC.2.1 (hP a _ (wld_get hs)) ((hC.2.2.2.2.2.2.2.1.2 4 _ rfl).1 n _) rfl (fun q => by cases q) (by show ¬ (i < 0 ∨ (arrV _ _ _).slots.size ≤ _); rw [arrV_size]; exact hin) (by show (arrV _ _ _).slots[_]? = _; rw [arrV_read _ _ hlt]; simp only [if_pos hlt]; rfl) rfl rfl hd (k p l e s m args below meth c D ad ca H locs ls hC hP hS hl)
theorem r_alenI {a n : Nat} {v : Int32} (hs : sh a = some (.inl (.int, 0, n))) (hv : Int32.ofNat n = v) (hd : decode cc pc = .ok (.arraylength, 1)) (k : RR (own, cc, nL, rt) d (pc + 1) lc (.int v :: st) I L Q) : RR (own, cc, nL, rt) d pc lc (.ref a :: st) I L Q := by
  intro p l e s m args below meth c D ad ca H locs ls hC hP hS hl
  exact va_alen hC.1 hC.2.1 hC.2.2.2.2.2.2.2.1 hP a 0 (wld_get hs) rfl hv hd (k p l e s m args below meth c D ad ca H locs ls hC hP hS hl)
theorem r_alenL {a n : Nat} {v : Int32} (hs : sh a = some (.inl (.long, 1, n))) (hv : Int32.ofNat n = v) (hd : decode cc pc = .ok (.arraylength, 1)) (k : RR (own, cc, nL, rt) d (pc + 1) lc (.int v :: st) I L Q) : RR (own, cc, nL, rt) d pc lc (.ref a :: st) I L Q := by
  intro p l e s m args below meth c D ad ca H locs ls hC hP hS hl
  exact va_alen hC.1 hC.2.1 hC.2.2.2.2.2.2.2.1 hP a 1 (wld_get hs) rfl hv hd (k p l e s m args below meth c D ad ca H locs ls hC hP hS hl)
theorem r_ords {index : Nat} (hw : Cond.fieldLink own index RX4 "ORDERS" "[J" ∈ TB) (hd : decode cc pc = .ok (.getstatic index, 3)) (k : RR (own, cc, nL, rt) d (pc + 3) lc (.ref 81 :: st) I L Q) : RR (own, cc, nL, rt) d pc lc st I L Q := by
  intro p l e s m args below meth c D ad ca H locs ls hC hP hS hl
  exact va_gets hC.1 hC.2.1 hC.2.2.2.2.2.2.2.2.2.1 hS hC.2.2.2.2.1 (hC.2.2.2.2.2.2.1 _ hw) (fun _ h => h) hd (k p l e s m args below meth c D ad ca H locs ls hC hP hS hl)
theorem r_ordsA {i : Int32} (hin : vp_in i 9) (hd : decode cc pc = .ok (.laload, 1)) (k : RR (own, cc, nL, rt) d (pc + 1) lc (ordT i.toNatClampNeg :: st) I L Q) : RR (own, cc, nL, rt) d pc lc (.int i :: .ref 81 :: st) I L Q := by
  intro p l e s m args below meth c D ad ca H locs ls hC hP hS hl
  exact va_tl hC.1 hC.2.1 hC.2.2.2.2.2.2.2.2.2.2 hS hin rfl hd (k p l e s m args below meth c D ad ca H locs ls hC hP hS hl)
/-- a field's link: of the method's own class by its entry, to field j of the world's class ci -/
def FL (own : String) (index ci j : Nat) (ty : FieldType) (fin : Bool) : Prop := ∃ (C : String) (T : u_T) (N : Nat) (ty0 : Nat → FieldType), classesX[ci]? = some (C, T, N) ∧ (∀ w ∈ u_ws C T N, w ∈ TB) ∧ j < N ∧ Cond.fieldLink own index (T j).1 (T j).2.1 (T j).2.2.1 ∈ TB ∧ (∀ k, k < N → parseFieldDescriptor (T k).2.2.1 = some (ty0 k)) ∧ (∀ a, a < N → ∀ b, b < N → a ≠ b → (T a).2.1 ≠ (T b).2.1) ∧ ty0 j = ty ∧ (T j).2.2.2 = fin
theorem fs_get {ad : Nat → Nat} {Ik : Nat → Int32} {Lk : Nat → Int64} {fs : List (Nat × Nat)} {j : Nat} {f : Nat × Nat} (h : fs[j]? = some f) : (fs.mapIdx (fldOf ad Ik Lk))[j]? = some (fldOf ad Ik Lk j f) := by
  simp [List.getElem?_mapIdx, h]
theorem fs_setI {ad : Nat → Nat} {Ik : Nat → Int32} {Lk : Nat → Int64} {fs : List (Nat × Nat)} {j b : Nat} {x : Int32} (h : fs[j]? = some (1, b)) : (fs.mapIdx (fldOf ad Ik Lk)).set j (.int x) = fs.mapIdx (fldOf ad (upd Ik j x) Lk) := by
  apply List.ext_getElem?
  intro i
  rw [List.getElem?_set]
  by_cases hi : j = i
  · subst hi
    obtain ⟨hl, hs⟩ := List.getElem?_eq_some_iff.mp h
    simp [List.getElem?_mapIdx, hl, hs, fldOf, upd]
  · rw [if_neg hi]
    simp only [List.getElem?_mapIdx]
    congr 1
    funext f
    obtain ⟨a, b⟩ := f
    match a with
    | 0 => rfl
    | 1 => show Value.int _ = Value.int _; rw [upd, if_neg (fun q => hi q.symm)]
    | n + 2 => rfl
theorem fs_setL {ad : Nat → Nat} {Ik : Nat → Int32} {Lk : Nat → Int64} {fs : List (Nat × Nat)} {j b : Nat} {x : Int64} (h : fs[j]? = some (2, b)) : (fs.mapIdx (fldOf ad Ik Lk)).set j (.long x) = fs.mapIdx (fldOf ad Ik (vp_updL Lk j x)) := by
  apply List.ext_getElem?
  intro i
  rw [List.getElem?_set]
  by_cases hi : j = i
  · subst hi
    obtain ⟨hl, hs⟩ := List.getElem?_eq_some_iff.mp h
    simp [List.getElem?_mapIdx, hl, hs, fldOf, vp_updL]
  · rw [if_neg hi]
    simp only [List.getElem?_mapIdx]
    congr 1
    funext f
    obtain ⟨a, b⟩ := f
    match a with
    | 0 => rfl
    | 1 => rfl
    | n + 2 => show Value.long _ = Value.long _; rw [vp_updL, if_neg (fun q => hi q.symm)]
theorem r_getR {index ci j a b : Nat} {ty : FieldType} {fin : Bool} {fs : List (Nat × Nat)} (hF : FL own index ci j ty fin) (hd : decode cc pc = .ok (.getfield index, 3)) (hs : sh a = some (.inr (ci, fs))) (hf : fs[j]? = some (0, b)) (k : RR (own, cc, nL, rt) d (pc + 3) lc ((.ref b) :: st) I L Q) : RR (own, cc, nL, rt) d pc lc (.ref a :: st) I L Q := by
  intro p l e s m args below meth c D ad ca H locs ls hC hP hS hl
  obtain ⟨C, T, N, ty0, h1, h2, h3, h4, h5, h6, h7, h8⟩ := hF
  exact va_get hC.1 hC.2.1 hC.2.2.2.2.2.2.1 h2 hC.2.2.2.2.1 hC.2.2.2.2.2.2.2.1 hP a (wld_get hs) h1 j h3 (hC.2.2.2.2.2.2.1 _ h4) (fun _ h => h) (fs_get hf) hd (k p l e s m args below meth c D ad ca H locs ls hC hP hS hl)
theorem r_getI {index ci j a b : Nat} {ty : FieldType} {fin : Bool} {fs : List (Nat × Nat)} (hF : FL own index ci j ty fin) (hd : decode cc pc = .ok (.getfield index, 3)) (hs : sh a = some (.inr (ci, fs))) (hf : fs[j]? = some (1, b)) (k : RR (own, cc, nL, rt) d (pc + 3) lc ((.int (I a j)) :: st) I L Q) : RR (own, cc, nL, rt) d pc lc (.ref a :: st) I L Q := by
  intro p l e s m args below meth c D ad ca H locs ls hC hP hS hl
  obtain ⟨C, T, N, ty0, h1, h2, h3, h4, h5, h6, h7, h8⟩ := hF
  exact va_get hC.1 hC.2.1 hC.2.2.2.2.2.2.1 h2 hC.2.2.2.2.1 hC.2.2.2.2.2.2.2.1 hP a (wld_get hs) h1 j h3 (hC.2.2.2.2.2.2.1 _ h4) (fun _ h => h) (fs_get hf) hd (k p l e s m args below meth c D ad ca H locs ls hC hP hS hl)
theorem r_getL {index ci j a b : Nat} {ty : FieldType} {fin : Bool} {fs : List (Nat × Nat)} (hF : FL own index ci j ty fin) (hd : decode cc pc = .ok (.getfield index, 3)) (hs : sh a = some (.inr (ci, fs))) (hf : fs[j]? = some (2, b)) (k : RR (own, cc, nL, rt) d (pc + 3) lc ((.long (L a j)) :: st) I L Q) : RR (own, cc, nL, rt) d pc lc (.ref a :: st) I L Q := by
  intro p l e s m args below meth c D ad ca H locs ls hC hP hS hl
  obtain ⟨C, T, N, ty0, h1, h2, h3, h4, h5, h6, h7, h8⟩ := hF
  exact va_get hC.1 hC.2.1 hC.2.2.2.2.2.2.1 h2 hC.2.2.2.2.1 hC.2.2.2.2.2.2.2.1 hP a (wld_get hs) h1 j h3 (hC.2.2.2.2.2.2.1 _ h4) (fun _ h => h) (fs_get hf) hd (k p l e s m args below meth c D ad ca H locs ls hC hP hS hl)
theorem r_putI {index ci j a b : Nat} {ty : FieldType} {fs : List (Nat × Nat)} {x : Int32} (hF : FL own index ci j ty false) (hn : narrow ty (.int x) = .int x) (hfit : fits ty (.int x) = true) (hd : decode cc pc = .ok (.putfield index, 3)) (hs : sh a = some (.inr (ci, fs))) (hf : fs[j]? = some (1, b)) (k : RR (own, cc, nL, rt) d (pc + 3) lc st (uI I a j x) L Q) : RR (own, cc, nL, rt) d pc lc (.int x :: .ref a :: st) I L Q := by
  intro p l e s m args below meth c D ad ca H locs ls hC hP hS hl
  obtain ⟨C, T, N, ty0, h1, h2, h3, h4, h5, h6, h7, h8⟩ := hF
  refine va_put (v := .int x) hC.1 hC.2.1 hC.2.2.2.2.2.2.1 h2 ty0 h5 h6 hC.2.2.2.2.1 hC.2.2.2.2.2.2.2.1 hP (wld_D hC.2.2.2.2.2.2.2.2.1) hS a (wld_get hs) h1 j h3 (hC.2.2.2.2.2.2.1 _ h4) (fun _ h => h) h8 (by rw [h5 j h3, h7]) hn hfit (by rw [List.length_mapIdx]; exact (List.getElem?_eq_some_iff.mp hf).1) hd (fun H locs hP hD hS => k p l e s m args below meth c D ad ca H locs ls hC ?_ hS hl)
  rw [fs_setI hf, wld_setF hs] at hP
  exact hP
theorem r_putL {index ci j a b : Nat} {ty : FieldType} {fs : List (Nat × Nat)} {x : Int64} (hF : FL own index ci j ty false) (hn : narrow ty (.long x) = .long x) (hfit : fits ty (.long x) = true) (hd : decode cc pc = .ok (.putfield index, 3)) (hs : sh a = some (.inr (ci, fs))) (hf : fs[j]? = some (2, b)) (k : RR (own, cc, nL, rt) d (pc + 3) lc st I (uL L a j x) Q) : RR (own, cc, nL, rt) d pc lc (.long x :: .ref a :: st) I L Q := by
  intro p l e s m args below meth c D ad ca H locs ls hC hP hS hl
  obtain ⟨C, T, N, ty0, h1, h2, h3, h4, h5, h6, h7, h8⟩ := hF
  refine va_put (v := .long x) hC.1 hC.2.1 hC.2.2.2.2.2.2.1 h2 ty0 h5 h6 hC.2.2.2.2.1 hC.2.2.2.2.2.2.2.1 hP (wld_D hC.2.2.2.2.2.2.2.2.1) hS a (wld_get hs) h1 j h3 (hC.2.2.2.2.2.2.1 _ h4) (fun _ h => h) h8 (by rw [h5 j h3, h7]) hn hfit (by rw [List.length_mapIdx]; exact (List.getElem?_eq_some_iff.mp hf).1) hd (fun H locs hP hD hS => k p l e s m args below meth c D ad ca H locs ls hC ?_ hS hl)
  rw [fs_setL hf, wld_setG hs] at hP
  exact hP
/-- a call's site of Math.max -/
def Cmax (own : String) (index : Nat) : Prop := Cond.methodLink own index Lib.Math.max.name ∈ TB ∧ Cond.static Lib.Math.max.name ∈ TB ∧ Cond.initialized "java/lang/Math" ∈ TB ∧ Cond.code Lib.Math.max.name Lib.Math.max.code 2 (some .int) ∈ TB
theorem r_mmax {index : Nat} {x y : Int32} (hw : Cmax own index) (hd : decode cc pc = .ok (.invokestatic index, 3)) (h1 : 1 ≤ d) (hr : (st.map fun v => v.category).sum ≤ 8) (k : RR (own, cc, nL, rt) d (pc + 3) lc (.int (if x < y then y else x) :: st) I L Q) : RR (own, cc, nL, rt) d pc lc (.int y :: .int x :: st) I L Q := by
  intro p l e s m args below meth c D ad ca H locs ls hC hP hS hl
  have hts := hC.2.2.2.2.2.2.1
  exact va_mmax hC.1 hC.2.1 (by rw [hC.2.2.2.1, hl.1]) hC.2.2.2.2.1 (hts _ hw.1) (hts _ hw.2.1) (hts _ hw.2.2.1) (hts _ hw.2.2.2) h1 (by have := sum_rn ad st; show _ ≤ 36 * d; omega) (Nat.zero_le _) (Nat.zero_le _) hd (k p l e s m args below meth c D ad ca H locs ls hC hP hS hl)
/-- a call's site of Math.min -/
def Cmin (own : String) (index : Nat) : Prop := Cond.methodLink own index Lib.Math.min.name ∈ TB ∧ Cond.static Lib.Math.min.name ∈ TB ∧ Cond.initialized "java/lang/Math" ∈ TB ∧ Cond.code Lib.Math.min.name Lib.Math.min.code 2 (some .int) ∈ TB
theorem r_mmin {index : Nat} {x y : Int32} (hw : Cmin own index) (hd : decode cc pc = .ok (.invokestatic index, 3)) (h1 : 1 ≤ d) (hr : (st.map fun v => v.category).sum ≤ 8) (k : RR (own, cc, nL, rt) d (pc + 3) lc (.int (if y < x then y else x) :: st) I L Q) : RR (own, cc, nL, rt) d pc lc (.int y :: .int x :: st) I L Q := by
  intro p l e s m args below meth c D ad ca H locs ls hC hP hS hl
  have hts := hC.2.2.2.2.2.2.1
  exact va_mmin hC.1 hC.2.1 (by rw [hC.2.2.2.1, hl.1]) hC.2.2.2.2.1 (hts _ hw.1) (hts _ hw.2.1) (hts _ hw.2.2.1) (hts _ hw.2.2.2) h1 (by have := sum_rn ad st; show _ ≤ 36 * d; omega) (Nat.zero_le _) (Nat.zero_le _) hd (k p l e s m args below meth c D ad ca H locs ls hC hP hS hl)
/-- a call's site of System.arraycopy -/
def Cac (own : String) (index : Nat) : Prop := Cond.methodLink own index arraycopyName ∈ TB ∧ Cond.native arraycopyName ∈ TB ∧ Cond.static arraycopyName ∈ TB ∧ Cond.initialized "java/lang/System" ∈ TB
theorem nfw_le {d x : Nat} (h1 : 1 ≤ d) (h : x ≤ 8) : x + (nativeFrameWords "java/lang/System" "arraycopy" 5 + 11) ≤ (rmm d).locals := by
  have : nativeFrameWords "java/lang/System" "arraycopy" 5 = 7 := by decide +kernel
  rw [this]
  show _ ≤ 36 * d
  omega
theorem r_copyI {index a b n0 n1 : Nat} {sp dp n : Int32} (hw : Cac own index) (hs0 : sh a = some (.inl (.int, 0, n0))) (hs1 : sh b = some (.inl (.int, 0, n1))) (h1 : ¬ sp < 0) (h2 : ¬ dp < 0) (h3 : ¬ n < 0) (h4 : sp.toNatClampNeg + n.toNatClampNeg ≤ n0) (h5 : dp.toNatClampNeg + n.toNatClampNeg ≤ n1) (hd : decode cc pc = .ok (.invokestatic index, 3)) (hdd : 1 ≤ d) (hr : (st.map fun v => v.category).sum ≤ 8) (k : RR (own, cc, nL, rt) d (pc + 3) lc st (pI I b (va_cpy (I a) (I b) sp.toNatClampNeg dp.toNatClampNeg n.toNatClampNeg)) L Q) : RR (own, cc, nL, rt) d pc lc (.int n :: .int dp :: .ref b :: .int sp :: .ref a :: st) I L Q := by
  intro p l e s m args below meth c D ad ca H locs ls hC hP hS hl
  have hts := hC.2.2.2.2.2.2.1
  exact va_copyi hC.1 hC.2.1 (by rw [hC.2.2.2.1, hl.1]) hC.2.2.2.2.1 (hts _ hw.1) (hts _ hw.2.1) (hts _ hw.2.2.1) (hts _ hw.2.2.2) hC.2.2.2.2.2.2.2.1 hP (wld_D hC.2.2.2.2.2.2.2.2.1) hS a b 0 0 (wld_get hs0) (wld_get hs1) rfl rfl rfl h1 h2 h3 h4 h5 (fun _ _ => rfl) hdd (nfw_le hdd (by rw [sum_rn]; exact hr)) hd (fun H locs hP hD hS => k p l e s m args below meth c D ad ca H locs ls hC (by rw [wld_setA hs1] at hP; exact hP) hS hl)
theorem r_copyL {index a b n0 n1 : Nat} {sp dp n : Int32} (hw : Cac own index) (hs0 : sh a = some (.inl (.long, 1, n0))) (hs1 : sh b = some (.inl (.long, 1, n1))) (h1 : ¬ sp < 0) (h2 : ¬ dp < 0) (h3 : ¬ n < 0) (h4 : sp.toNatClampNeg + n.toNatClampNeg ≤ n0) (h5 : dp.toNatClampNeg + n.toNatClampNeg ≤ n1) (hd : decode cc pc = .ok (.invokestatic index, 3)) (hdd : 1 ≤ d) (hr : (st.map fun v => v.category).sum ≤ 8) (k : RR (own, cc, nL, rt) d (pc + 3) lc st I (pL L b (va_cpy (L a) (L b) sp.toNatClampNeg dp.toNatClampNeg n.toNatClampNeg)) Q) : RR (own, cc, nL, rt) d pc lc (.int n :: .int dp :: .ref b :: .int sp :: .ref a :: st) I L Q := by
  intro p l e s m args below meth c D ad ca H locs ls hC hP hS hl
  have hts := hC.2.2.2.2.2.2.1
  exact va_copyl hC.1 hC.2.1 (by rw [hC.2.2.2.1, hl.1]) hC.2.2.2.2.1 (hts _ hw.1) (hts _ hw.2.1) (hts _ hw.2.2.1) (hts _ hw.2.2.2) hC.2.2.2.2.2.2.2.1 hP (wld_D hC.2.2.2.2.2.2.2.2.1) hS a b 1 1 (wld_get hs0) (wld_get hs1) rfl rfl rfl h1 h2 h3 h4 h5 (fun _ _ => rfl) hdd (nfw_le hdd (by rw [sum_rn]; exact hr)) hd (fun H locs hP hD hS => k p l e s m args below meth c D ad ca H locs ls hC (by rw [wld_setB hs1] at hP; exact hP) hS hl)
theorem r_iret {ty : FieldType} {v : Int32} (hn : narrow ty (.int v) = .int v) (hd : decode cc pc = .ok (.ireturn, 1)) (hQ : Q (some (.int v)) I L) : RR (own, cc, nL, some ty) d pc lc [.int v] I L Q := by
  intro p l e s m args below meth c D ad ca H locs ls hC hP hS hl
  exact W.zret (v := v) hC.1 hC.2.1 hC.2.2.1 hn (fun t ht hW => ⟨⟨some (.int v), I, L, rfl, hQ, by rw [ht]; exact hP⟩, hS.F ht⟩) hS.2.2 hd hC.2.2.2.2.2.1
theorem r_lret {v : Int64} (hd : decode cc pc = .ok (.lreturn, 1)) (hQ : Q (some (.long v)) I L) : RR (own, cc, nL, some .long) d pc lc [.long v] I L Q := by
  intro p l e s m args below meth c D ad ca H locs ls hC hP hS hl
  exact W.lret (v := v) hC.1 hC.2.1 hC.2.2.1 (fun t ht hW => ⟨⟨some (.long v), I, L, rfl, hQ, by rw [ht]; exact hP⟩, hS.F ht⟩) hS.2.2 hd hC.2.2.2.2.2.1
theorem r_vret (hd : decode cc pc = .ok (.return_, 1)) (hQ : Q none I L) : RR (own, cc, nL, none) d pc lc [] I L Q := by
  intro p l e s m args below meth c D ad ca H locs ls hC hP hS hl
  exact W.vret hC.1 hC.2.1 hC.2.2.1 (fun t ht hW => ⟨⟨none, I, L, rfl, hQ, by rw [ht]; exact hP⟩, hS.F ht⟩) hS.2.2 hd hC.2.2.2.2.2.1
/-- weaker ends -/
theorem RR.mono {M : mM} {Q' : Option Value → mI → mL → Prop} (h : ∀ v I L, Q v I L → Q' v I L) (k : RR M d pc lc st I L Q) : RR M d pc lc st I L Q' := by
  intro p l e s m args below meth c D ad ca H locs ls hC hP hS hl T hT X
  obtain ⟨t, a, o, b1, b2, ⟨⟨v, I', L', c1, c2, c3⟩, c4⟩, b4⟩ := k p l e s m args below meth c D ad ca H locs ls hC hP hS hl T hT X
  exact ⟨t, a, o, b1, b2, ⟨⟨v, I', L', c1, h _ _ _ c2, c3⟩, c4⟩, b4⟩
end RRows
end
section
/-! CALLS -/
abbrev wsM (y : MethodName) (M : mM) : List Cond := Cond.code y M.2.1 M.2.2.1 M.2.2.2 :: TB
theorem wsM_good {y : MethodName} {M : mM} (h : Cond.code y M.2.1 M.2.2.1 M.2.2.2 ∈ TB) : GoodIn TB (wsM y M) := by
  intro w hw
  rcases List.mem_cons.mp hw with rfl | hw
  · exact ⟨h, good_of_word (tb_good h)⟩
  · exact ⟨hw, good_of_word (tb_good hw)⟩
/-- the locals at a method's entry -/
def entA : List Value → List (Option Value)
  | [] => []
  | v :: r => if v.category = 2 then some v :: none :: entA r else some v :: entA r
def entL (nL : Nat) (As : List Value) : List (Option Value) := entA As ++ List.replicate (nL - (entA As).length) none
theorem entA_at (ad : Nat → Nat) : ∀ (As : List Value) (b i : Nat) (v : Value), (entA As)[i]? = some (some v) → (b + i, rn ad v) ∈ lv_args b (As.map (rn ad))
  | [], b, i, v, h => by simp [entA] at h
  | a :: r, b, i, v, h => by
    unfold entA at h
    show (b + i, rn ad v) ∈ lv_args b (rn ad a :: r.map (rn ad))
    unfold lv_args
    rw [rn_cat]
    split at h
    · rename_i hc
      rw [if_pos hc]
      match i, h with
      | 0, h => cases h; exact List.mem_cons_self
      | 1, h => cases h
      | i + 2, h =>
        have h2 := entA_at ad r (b + 2) i v h
        refine List.mem_cons_of_mem _ ?_
        rw [show b + (i + 2) = b + 2 + i by omega]
        exact h2
    · rename_i hc
      rw [if_neg hc]
      match i, h with
      | 0, h => cases h; exact List.mem_cons_self
      | i + 1, h =>
        have h2 := entA_at ad r (b + 1) i v h
        refine List.mem_cons_of_mem _ ?_
        rw [show b + (i + 1) = b + 1 + i by omega]
        exact h2
theorem LH.entry {ad : Nat → Nat} {ls : Array Slot} {nL : Nat} {As : List Value} (h : lv_has ls nL (lv_args 0 (As.map (rn ad)))) : LH ad ls nL (entL nL As) := by
  refine ⟨h.1, h.2.1, fun i v hi => ?_⟩
  unfold entL at hi
  by_cases hl : i < (entA As).length
  · rw [List.getElem?_append_left hl] at hi
    have := h.2.2 _ (entA_at ad As 0 i v hi)
    rw [Nat.zero_add] at this
    exact this
  · rw [List.getElem?_append_right (Nat.not_lt.mp hl)] at hi
    rw [List.getElem?_replicate] at hi
    split at hi <;> cases hi
/-- what a call stands on, of the callee: its code among the words, its class taken as initialised -/
def MI (y : MethodName) (M : mM) (n : Nat) : Prop := M.1 = y.cls ∧ plainName y.cls = true ∧ Cond.code y M.2.1 M.2.2.1 M.2.2.2 ∈ TB ∧ Cond.initialized y.cls ∈ TB ∧ (y.cls ≠ "java/lang/invoke/MethodHandle" ∧ y.cls ≠ "java/lang/invoke/VarHandle" ∧ (parseMethodDescriptor y.desc).map (fun d => d.parameters.length) = some n) ∧ M.2.2.1 ≤ 17
/-- a method's start, as its callers give it -/
def PP (D : va_G) (ad : Nat → Nat) (ca : FieldType → ClassId) (As : List Value) (I : mI) (L : mL) : Array Value → State → Prop := va_Pc (As.map (rn ad)) (fun U => va_P D classesX (wld ad ca I L) U.heap ∧ va_K D classesX (tyl ca) U ∧ Kons ad U U.heap)
theorem PP_blind {D : va_G} {ad : Nat → Nat} {ca : FieldType → ClassId} {As : List Value} {I : mI} {L : mL} : FrameBlind (PP D ad ca As I L) := by
  intro a U g mk h
  obtain ⟨h1, h2, h3, h4⟩ := h
  exact ⟨h1, h2, va_K.moved (u := U) (U := U.calling g mk a) (Vm.Alike.refl U.vm) h3, Kons.moved (u := U) (U := U.calling g mk a) (Vm.Alike.refl U.vm) h4⟩
/-- THE CONTRACT out of the judgement at a method's entry -/
theorem RR.met {l : Launch} {y : MethodName} {M : mM} {n d : Nat} {As : List Value} {I : mI} {L : mL} {Q : Option Value → mI → mL → Prop} {D : va_G} {ad : Nat → Nat} {ca : FieldType → ClassId} (hM : MI y M n) (hi : ∀ i j, i < 81 → j < 81 → ad i = ad j → i = j) (hA : (entA As).length ≤ M.2.2.1) (h : RR M d 0 (entL M.2.2.1 As) [] I L Q) :
    Met l y (wsM y M) (rmm d) (PP D ad ca As I L) (QQ D ad ca Q) 0 0 (AA ad) := by
  obtain ⟨hM1, hM2, hM3, hM4, hM5, hM6⟩ := hM
  refine Met.ofW (cc := M.2.1) (maxL := M.2.2.1) (ret := M.2.2.2) hM2 rfl ?_
  intro p e s m args below meth c s₁ B hml hv
  obtain ⟨rfl, hP, hK, hO⟩ := hv
  have hts := atoms_spec (ws := wsM y M) B.pre
  have hown : s.vm.findClass y.cls = some m.cls := findClass_of_methodNamed B.named
  have hlen : (lg_sl (As.map (rn ad))).length ≤ M.2.2.1 := by
    refine Nat.le_trans (Nat.le_of_eq ?_) hA
    clear hA h hP hts B
    induction As with
    | nil => rfl
    | cons a r ih =>
      unfold entA lg_sl
      unfold lg_sl at ih
      rw [List.map_cons, List.flatMap_cons, List.length_append, ih, rn_cat]
      split <;> simp <;> omega
  have hl := lv_entry (As.map (rn ad)) (n := M.2.2.1) hlen
  rw [lg_entry_eq]
  generalize (lg_sl (As.map (rn ad)) ++ List.replicate (M.2.2.1 - (lg_sl (As.map (rn ad))).length) Slot.unset).toArray = ls at hl ⊢
  exact h p l e s m _ below meth c D ad ca s.heap [] ls ⟨B.exec, B.bytes, B.returns, hml, by rw [hM1]; exact hown, B.notSynchronized, fun w hw => hts w (List.mem_cons_of_mem _ hw), hK, hi, hO⟩ hP va_S.rf (LH.entry hl)
section CallQ
variable {p : Program} {l : Launch} {e : Env} {R : Room} {s : State} {m : MethodId} {args : Array Value} {below : List Frame} {meth : Method} {c : Code} {H : Heap} {locs : List Loc} {Q : State → Prop} {pc : Nat} {ls : Array Slot} {rest st0 : List Value} {a : Array Value}
/-- behind a call -/
theorem cq {Q' : Option Value → mI → mL → Prop} {D : va_G} {ad : Nat → Nat} {ca : FieldType → ClassId} (hr : va_Run p l e R s m args below meth c H locs 0 0 0 0 (F0 m pc ls st0) rest (QQ D ad ca Q' a) (AA ad)) (hS : va_S (AA ad) s.heap H locs)
    (kk : ∀ (v : Option Value) (I : mI) (L : mL) (H1 : Heap) (locs1 : List Loc), Q' v I L → va_P D classesX (wld ad ca I L) H1 → va_S (AA ad) s.heap H1 locs1 → W p l e R s m args below meth c H1 locs1 0 0 Q (F0 m (pc + 3) ls ((v.map (rn ad)).toList ++ rest))) : W p l e R s m args below meth c H locs 0 0 Q (F0 m pc ls st0) := by
  intro T hT X
  obtain ⟨v, st₀, t, T', L0, h0, X', hL, e1, e2, ⟨⟨w, I', L', hv, hq, hb⟩, hz, hk⟩, st⟩ := hr T hT X
  cases hv
  rw [h0] at hz hk
  obtain ⟨t2, a1, b1⟩ := kk w I' L' T'.heap (locs ++ L0) hq (by rw [e1]; exact hb)
    ⟨Nat.le_trans hS.1 (by rw [e1]; exact hz), fun q h1 h2 => by rw [e1, hk q (Nat.lt_of_lt_of_le h1 hS.1) h2]; exact hS.2.1 q h1 h2, fun q hq => by
      rcases List.mem_append.mp hq with h | h
      · exact hS.2.2 q h
      · exact hL q h⟩ T' rfl X'
  exact ⟨t2, st t2 a1, b1⟩
end CallQ
section RCalls
variable {own : String} {cc : ByteArray} {nL d pc : Nat} {rt : Option FieldType} {lc : List (Option Value)} {st : List Value} {I : mI} {L : mL} {Q : Option Value → mI → mL → Prop}
/-- a call of a static method -/
theorem r_callS {index n d' : Nat} {y : MethodName} {M : mM} (As : List Value) {Q' : Option Value → mI → mL → Prop} (hM : MI y M n) (hw1 : Cond.methodLink own index y ∈ TB) (hw2 : Cond.static y ∈ TB) (hd : decode cc pc = .ok (.invokestatic index, 3)) (hdd : d' + 1 ≤ d) {st0 : List Value} (hst : st0 = As.reverse ++ st) (hn : As.length = n) (hr : (st.map fun v => v.category).sum ≤ 8) (hA : (entA As).length ≤ M.2.2.1)
    (hc : RR M d' 0 (entL M.2.2.1 As) [] I L Q') (k : ∀ v I L, Q' v I L → RR (own, cc, nL, rt) d (pc + 3) lc (v.toList ++ st) I L Q) : RR (own, cc, nL, rt) d pc lc st0 I L Q := by
  intro p l e s m args below meth c D ad ca H locs ls hC hP hS hl
  subst hst
  obtain ⟨hx, hb, -, hml, hown, -, hts, hK, hi, hO⟩ := id hC
  have hM' := hM
  obtain ⟨hM1, hM2, hM3, hM4, hM5, hM6⟩ := hM
  have hO' : Kons ad s H := hO.kept (fun a h1 h2 => hS.2.1 a h1 h2)
  have hcs := va_cwS (R := rmm d) (own := own) (index := index) (y := y) (bytes := M.2.1) (maxL := M.2.2.1) (ret := M.2.2.2) (ws := wsM y M) (rm := rmm d') (mc := 0) (ms := 0) n hts (fun w hw => by
    rcases List.mem_append.mp hw with h | h
    · rcases List.mem_cons.mp h with rfl | h
      · exact ⟨hw1, good_of_word (tb_good hw1)⟩
      · rcases List.mem_cons.mp h with rfl | h
        · exact ⟨hw2, good_of_word (tb_good hw2)⟩
        · rcases List.mem_cons.mp h with rfl | h
          · exact ⟨hM4, good_of_word (tb_good hM4)⟩
          · cases h
    · exact wsM_good hM3 w h) rfl rfl rfl hM5 ⟨hdd, by show 8 + (M.2.2.1 + 11) + 36 * d' ≤ 36 * d; omega⟩
  refine cq (va_runS (As := As.map (rn ad)) (rest := st.map (rn ad)) ⟨hx, hb, hml, hown, hts⟩ (RR.met (l := l) (D := D) (ad := ad) (ca := ca) hM' hi hA hc) hcs ⟨PP_blind, fun U hU hW => ⟨rfl, by rw [hU]; exact hP, va_K.moved hW.alike hK, by rw [hU]; exact hO'.moved hW.alike⟩⟩ rfl (by rw [List.length_map]; exact hn) hl.1 (by show List.map (rn ad) (As.reverse ++ st) = _; rw [List.map_append, List.map_reverse]) (lv_room (by rw [sum_rn]; exact hr)) hd ⟨Nat.zero_le _, Nat.zero_le _⟩) hS (fun v I' L' H1 locs1 hq hP1 hS1 => ?_)
  have h2 := k v I' L' hq p l e s m args below meth c D ad ca H1 locs1 ls hC hP1 hS1 hl
  rw [List.map_append] at h2
  cases v with
  | none => exact h2
  | some w => exact h2
/-- a call of an instance method on the object a -/
theorem r_callV {index n d' a ci : Nat} {fs : List (Nat × Nat)} {T : u_T} {N : Nat} {y : MethodName} {M : mM} (As : List Value) {Q' : Option Value → mI → mL → Prop} (hM : MI y M n) (hw1 : Cond.methodLink own index y ∈ TB) (hw2 : Cond.instanceMethod y ∈ TB) (hw3 : Cond.selects y.cls y y ∈ TB) (hs : sh a = some (.inr (ci, fs))) (hcl : classesX[ci]? = some (y.cls, T, N)) (hd : decode cc pc = .ok (.invokevirtual index, 3)) (hdd : d' + 1 ≤ d) {st0 : List Value} (hst : st0 = As.reverse ++ .ref a :: st) (hn : As.length = n) (hr : (st.map fun v => v.category).sum ≤ 8) (hA : (entA (.ref a :: As)).length ≤ M.2.2.1)
    (hc : RR M d' 0 (entL M.2.2.1 (.ref a :: As)) [] I L Q') (k : ∀ v I L, Q' v I L → RR (own, cc, nL, rt) d (pc + 3) lc (v.toList ++ st) I L Q) : RR (own, cc, nL, rt) d pc lc st0 I L Q := by
  intro p l e s m args below meth c D ad ca H locs ls hC hP hS hl
  subst hst
  obtain ⟨hx, hb, -, hml, hown, -, hts, hK, hi, hO⟩ := id hC
  have hM' := hM
  obtain ⟨hM1, hM2, hM3, hM4, hM5, hM6⟩ := hM
  have hO' : Kons ad s H := hO.kept (fun a h1 h2 => hS.2.1 a h1 h2)
  have hcs := cwV (R := rmm d) (own := own) (C := y.cls) (index := index) (y := y) (bytes := M.2.1) (maxL := M.2.2.1) (ret := M.2.2.2) (ws := wsM y M) (rm := rmm d') (mc := 0) (ms := 0) n hts (fun w hw => by
    unfold wsV at hw
    rcases List.mem_append.mp hw with h | h
    · rcases List.mem_cons.mp h with rfl | h
      · exact ⟨hw1, good_of_word (tb_good hw1)⟩
      · rcases List.mem_cons.mp h with rfl | h
        · exact ⟨hw2, good_of_word (tb_good hw2)⟩
        · rcases List.mem_cons.mp h with rfl | h
          · exact ⟨hw3, good_of_word (tb_good hw3)⟩
          · rcases List.mem_cons.mp h with rfl | h
            · exact ⟨hM4, good_of_word (tb_good hM4)⟩
            · cases h
    · exact wsM_good hM3 w h) rfl rfl rfl ⟨rfl, hM5⟩ ⟨hdd, by show 8 + (M.2.2.1 + 11) + 36 * d' ≤ 36 * d; omega⟩
  refine cq (va_runV (b := ad a) (As := As.map (rn ad)) (rest := st.map (rn ad)) ⟨hx, hb, hml, hown, hts⟩ (RR.met (l := l) (D := D) (ad := ad) (ca := ca) hM' hi hA hc) hcs ⟨PP_blind, va_recv hK hP hcl (wld_get hs), fun U hU hW => ⟨rfl, by rw [hU]; exact hP, va_K.moved hW.alike hK, by rw [hU]; exact hO'.moved hW.alike⟩⟩ rfl (by rw [List.length_map]; exact hn) hl.1 (by show List.map (rn ad) (As.reverse ++ .ref a :: st) = _; rw [List.map_append, List.map_reverse]; rfl) (lv_room (by rw [sum_rn]; exact hr)) hd ⟨Nat.zero_le _, Nat.zero_le _⟩) hS (fun v I' L' H1 locs1 hq hP1 hS1 => ?_)
  have h2 := k v I' L' hq p l e s m args below meth c D ad ca H1 locs1 ls hC hP1 hS1 hl
  rw [List.map_append] at h2
  cases v with
  | none => exact h2
  | some w => exact h2
end RCalls
end
section
/-! LINKS: by their places in the tables -/
theorem tc1 {w : Cond} {i : Nat} (h : tables_1_1[i]? = some w) (g : goodWord w = true) : w ∈ TB := List.mem_filter.mpr ⟨List.mem_append_right _ (show w ∈ tables_1 from List.mem_append_left _ (List.mem_of_getElem? h)), g⟩
theorem tc2 {w : Cond} {i : Nat} (h : tables_1_2[i]? = some w) (g : goodWord w = true) : w ∈ TB := List.mem_filter.mpr ⟨List.mem_append_right _ (show w ∈ tables_1 from List.mem_append_right _ (List.mem_append_left _ (List.mem_of_getElem? h))), g⟩
theorem tc3 {w : Cond} {i : Nat} (h : tables_1_3[i]? = some w) (g : goodWord w = true) : w ∈ TB := List.mem_filter.mpr ⟨List.mem_append_right _ (show w ∈ tables_1 from List.mem_append_right _ (List.mem_append_right _ (List.mem_append_left _ (List.mem_of_getElem? h)))), g⟩
theorem tc4 {w : Cond} {i : Nat} (h : tables_1_4[i]? = some w) (g : goodWord w = true) : w ∈ TB := List.mem_filter.mpr ⟨List.mem_append_right _ (show w ∈ tables_1 from List.mem_append_right _ (List.mem_append_right _ (List.mem_append_right _ (List.mem_append_left _ (List.mem_of_getElem? h))))), g⟩
theorem tc5 {w : Cond} {i : Nat} (h : tables_1_5[i]? = some w) (g : goodWord w = true) : w ∈ TB := List.mem_filter.mpr ⟨List.mem_append_right _ (show w ∈ tables_1 from List.mem_append_right _ (List.mem_append_right _ (List.mem_append_right _ (List.mem_append_right _ (List.mem_append_left _ (List.mem_of_getElem? h)))))), g⟩
theorem tc6 {w : Cond} {i : Nat} (h : tables_1_6[i]? = some w) (g : goodWord w = true) : w ∈ TB := List.mem_filter.mpr ⟨List.mem_append_right _ (show w ∈ tables_1 from List.mem_append_right _ (List.mem_append_right _ (List.mem_append_right _ (List.mem_append_right _ (List.mem_append_right _ (List.mem_append_left _ (List.mem_of_getElem? h))))))), g⟩
theorem tc7 {w : Cond} {i : Nat} (h : tables_1_7[i]? = some w) (g : goodWord w = true) : w ∈ TB := List.mem_filter.mpr ⟨List.mem_append_right _ (show w ∈ tables_1 from List.mem_append_right _ (List.mem_append_right _ (List.mem_append_right _ (List.mem_append_right _ (List.mem_append_right _ (List.mem_append_right _ (List.mem_of_getElem? h))))))), g⟩
def codes_1 : List Cond := [(Cond.code ({ cls := "ParishPull", name := "<init>", desc := "()V" } : MethodName) prog_1_method_1_code (1 : Nat) (Option.none : Option FieldType)), (Cond.code ({ cls := "java/lang/Object", name := "<init>", desc := "()V" } : MethodName) object_method_1_code (1 : Nat) (Option.none : Option FieldType)), (Cond.code ({ cls := "ParishPull$State", name := "<init>", desc := "()V" } : MethodName) prog_9_method_1_code (1 : Nat) (Option.none : Option FieldType)), (Cond.code ({ cls := "ParishPull$Ground", name := "<init>", desc := "()V" } : MethodName) prog_5_method_1_code (1 : Nat) (Option.none : Option FieldType)), (Cond.code ({ cls := "ParishPull$Tape", name := "<init>", desc := "()V" } : MethodName) prog_10_method_1_code (1 : Nat) (Option.none : Option FieldType)), (Cond.code ({ cls := "ParishPull$Sheets", name := "<init>", desc := "()V" } : MethodName) prog_8_method_1_code (1 : Nat) (Option.none : Option FieldType)), (Cond.code ({ cls := "ParishPull$Routes", name := "<init>", desc := "(LParishPull$State;)V" } : MethodName) prog_7_method_1_code (2 : Nat) (Option.none : Option FieldType))]
set_option maxRecDepth 100000 in
theorem codes_1_ok : tables_1_1.filter k2_isCode = codes_1 := rfl
theorem tcc1 {w : Cond} {i : Nat} (h : codes_1[i]? = some w) (g : goodWord w = true) : w ∈ TB := by
  have h1 := List.mem_of_getElem? h
  rw [← codes_1_ok] at h1
  obtain ⟨j, hj⟩ := List.getElem?_of_mem (List.mem_filter.mp h1).1
  exact tc1 hj g
def codes_2 : List Cond := [(Cond.code ({ cls := "ParishPull$Trades", name := "<init>", desc := "(LParishPull$State;LParishPull$Routes;)V" } : MethodName) prog_11_method_1_code (3 : Nat) (Option.none : Option FieldType)), (Cond.code ({ cls := "ParishPull$Councils", name := "<init>", desc := "(LParishPull$State;LParishPull$Routes;)V" } : MethodName) prog_4_method_1_code (3 : Nat) (Option.none : Option FieldType)), (Cond.code ({ cls := "ParishPull$Leagues", name := "<init>", desc := "(LParishPull$State;LParishPull$Routes;)V" } : MethodName) prog_6_method_1_code (3 : Nat) (Option.none : Option FieldType)), (Cond.code ({ cls := "ParishPull$Book", name := "<init>", desc := "()V" } : MethodName) prog_3_method_1_code (1 : Nat) (Option.none : Option FieldType)), (Cond.code ({ cls := "ParishPull", name := "parish", desc := "(I)I" } : MethodName) prog_1_method_2_code (2 : Nat) (Option.some FieldType.int)), (Cond.code ({ cls := "ParishPull", name := "within", desc := "(III)Z" } : MethodName) prog_1_method_39_code (3 : Nat) (Option.some FieldType.boolean)), (Cond.code ({ cls := "ParishPull$Ground", name := "addParish", desc := "(I)I" } : MethodName) prog_5_method_7_code (4 : Nat) (Option.some FieldType.int)), (Cond.code ({ cls := "ParishPull", name := "pull", desc := "(III)I" } : MethodName) prog_1_method_3_code (5 : Nat) (Option.some FieldType.int)), (Cond.code ({ cls := "ParishPull$Ground", name := "hasParish", desc := "(I)Z" } : MethodName) prog_5_method_4_code (2 : Nat) (Option.some FieldType.boolean)), (Cond.code ({ cls := "ParishPull", name := "road", desc := "(III)I" } : MethodName) prog_1_method_4_code (4 : Nat) (Option.some FieldType.int)), (Cond.code ({ cls := "ParishPull$Ground", name := "joins", desc := "(II)Z" } : MethodName) prog_5_method_9_code (4 : Nat) (Option.some FieldType.boolean)), (Cond.code ({ cls := "java/lang/Math", name := "min", desc := "(II)I" } : MethodName) prog_16_method_69_code (2 : Nat) (Option.some FieldType.int)), (Cond.code ({ cls := "java/lang/Math", name := "max", desc := "(II)I" } : MethodName) prog_16_method_65_code (2 : Nat) (Option.some FieldType.int)), (Cond.code ({ cls := "ParishPull$Ground", name := "addRoad", desc := "(III)I" } : MethodName) prog_5_method_8_code (5 : Nat) (Option.some FieldType.int)), (Cond.code ({ cls := "ParishPull", name := "toll", desc := "(II)I" } : MethodName) prog_1_method_5_code (4 : Nat) (Option.some FieldType.int)), (Cond.code ({ cls := "ParishPull$Ground", name := "hasRoad", desc := "(I)Z" } : MethodName) prog_5_method_5_code (2 : Nat) (Option.some FieldType.boolean)), (Cond.code ({ cls := "ParishPull", name := "cart", desc := "(II)I" } : MethodName) prog_1_method_6_code (3 : Nat) (Option.some FieldType.int)), (Cond.code ({ cls := "ParishPull$State", name := "addCart", desc := "(II)I" } : MethodName) prog_9_method_8_code (3 : Nat) (Option.some FieldType.int)), (Cond.code ({ cls := "ParishPull", name := "good", desc := "(III)I" } : MethodName) prog_1_method_7_code (4 : Nat) (Option.some FieldType.int)), (Cond.code ({ cls := "ParishPull$State", name := "addGood", desc := "(III)I" } : MethodName) prog_9_method_9_code (4 : Nat) (Option.some FieldType.int)), (Cond.code ({ cls := "ParishPull", name := "hang", desc := "(II)I" } : MethodName) prog_1_method_8_code (4 : Nat) (Option.some FieldType.int)), (Cond.code ({ cls := "ParishPull$State", name := "hasGood", desc := "(I)Z" } : MethodName) prog_9_method_7_code (2 : Nat) (Option.some FieldType.boolean)), (Cond.code ({ cls := "ParishPull$State", name := "weightOfGood", desc := "(I)I" } : MethodName) prog_9_method_5_code (2 : Nat) (Option.some FieldType.int)), (Cond.code ({ cls := "ParishPull$State", name := "weightAt", desc := "(II)I" } : MethodName) prog_9_method_4_code (3 : Nat) (Option.some FieldType.int)), (Cond.code ({ cls := "ParishPull$State", name := "season", desc := "()I" } : MethodName) prog_9_method_3_code (1 : Nat) (Option.some FieldType.int)), (Cond.code ({ cls := "ParishPull$State", name := "seasonOf", desc := "(I)I" } : MethodName) prog_9_method_2_code (1 : Nat) (Option.some FieldType.int)), (Cond.code ({ cls := "ParishPull$Ground", name := "weight", desc := "(III)I" } : MethodName) prog_5_method_2_code (3 : Nat) (Option.some FieldType.int))]
set_option maxRecDepth 100000 in
theorem codes_2_ok : tables_1_2.filter k2_isCode = codes_2 := rfl
theorem tcc2 {w : Cond} {i : Nat} (h : codes_2[i]? = some w) (g : goodWord w = true) : w ∈ TB := by
  have h1 := List.mem_of_getElem? h
  rw [← codes_2_ok] at h1
  obtain ⟨j, hj⟩ := List.getElem?_of_mem (List.mem_filter.mp h1).1
  exact tc2 hj g
def codes_3 : List Cond := [(Cond.code ({ cls := "ParishPull", name := "person", desc := "(II)I" } : MethodName) prog_1_method_9_code (3 : Nat) (Option.some FieldType.int)), (Cond.code ({ cls := "ParishPull$State", name := "addPerson", desc := "(II)I" } : MethodName) prog_9_method_10_code (3 : Nat) (Option.some FieldType.int)), (Cond.code ({ cls := "ParishPull", name := "of", desc := "(II)I" } : MethodName) prog_1_method_10_code (3 : Nat) (Option.some FieldType.int)), (Cond.code ({ cls := "ParishPull$Ground", name := "roadsAt", desc := "(I)I" } : MethodName) prog_5_method_10_code (4 : Nat) (Option.some FieldType.int)), (Cond.code ({ cls := "ParishPull$Ground", name := "otherEnd", desc := "(II)I" } : MethodName) prog_5_method_11_code (3 : Nat) (Option.some FieldType.int)), (Cond.code ({ cls := "ParishPull", name := "setThere", desc := "([III)I" } : MethodName) prog_1_method_41_code (5 : Nat) (Option.some FieldType.int)), (Cond.code ({ cls := "ParishPull", name := "told", desc := "(II)I" } : MethodName) prog_1_method_11_code (3 : Nat) (Option.some FieldType.int)), (Cond.code ({ cls := "ParishPull", name := "toldOfRoad", desc := "(II)I" } : MethodName) prog_1_method_42_code (3 : Nat) (Option.some FieldType.int)), (Cond.code ({ cls := "ParishPull", name := "toldOfCart", desc := "(II)I" } : MethodName) prog_1_method_43_code (3 : Nat) (Option.some FieldType.int)), (Cond.code ({ cls := "ParishPull$State", name := "hasCart", desc := "(I)Z" } : MethodName) prog_9_method_6_code (2 : Nat) (Option.some FieldType.boolean)), (Cond.code ({ cls := "ParishPull", name := "toldOfGood", desc := "(II)I" } : MethodName) prog_1_method_44_code (3 : Nat) (Option.some FieldType.int)), (Cond.code ({ cls := "ParishPull", name := "toldOfPerson", desc := "(II)I" } : MethodName) prog_1_method_45_code (3 : Nat) (Option.some FieldType.int)), (Cond.code ({ cls := "ParishPull", name := "weighs", desc := "(II)I" } : MethodName) prog_1_method_12_code (3 : Nat) (Option.some FieldType.int)), (Cond.code ({ cls := "ParishPull", name := "type", desc := "(I)I" } : MethodName) prog_1_method_13_code (2 : Nat) (Option.some FieldType.int)), (Cond.code ({ cls := "ParishPull$Tape", name := "isFull", desc := "()Z" } : MethodName) prog_10_method_2_code (1 : Nat) (Option.some FieldType.boolean)), (Cond.code ({ cls := "ParishPull$Tape", name := "add", desc := "(I)I" } : MethodName) prog_10_method_3_code (2 : Nat) (Option.some FieldType.int)), (Cond.code ({ cls := "ParishPull", name := "land", desc := "()I" } : MethodName) prog_1_method_14_code (3 : Nat) (Option.some FieldType.int)), (Cond.code ({ cls := "ParishPull$Tape", name := "read", desc := "()Z" } : MethodName) prog_10_method_5_code (1 : Nat) (Option.some FieldType.boolean)), (Cond.code ({ cls := "ParishPull$Ground", name := "clear", desc := "()V" } : MethodName) prog_5_method_3_code (1 : Nat) (Option.none : Option FieldType)), (Cond.code ({ cls := "ParishPull$Tape", name := "readParishes", desc := "()Z" } : MethodName) prog_10_method_6_code (2 : Nat) (Option.some FieldType.boolean)), (Cond.code ({ cls := "ParishPull$Tape", name := "readParish", desc := "()Z" } : MethodName) prog_10_method_7_code (5 : Nat) (Option.some FieldType.boolean)), (Cond.code ({ cls := "ParishPull$Tape", name := "skipBlanks", desc := "()V" } : MethodName) prog_10_method_10_code (1 : Nat) (Option.none : Option FieldType)), (Cond.code ({ cls := "java/lang/String", name := "indexOf", desc := "(I)I" } : MethodName) prog_17_method_79_code (2 : Nat) (Option.some FieldType.int)), (Cond.code ({ cls := "java/lang/String", name := "indexOf", desc := "(II)I" } : MethodName) prog_17_method_80_code (3 : Nat) (Option.some FieldType.int)), (Cond.code ({ cls := "java/lang/String", name := "isLatin1", desc := "()Z" } : MethodName) prog_17_method_154_code (1 : Nat) (Option.some FieldType.boolean)), (Cond.code ({ cls := "java/lang/String", name := "length", desc := "()I" } : MethodName) prog_17_method_54_code (1 : Nat) (Option.some FieldType.int)), (Cond.code ({ cls := "java/lang/String", name := "coder", desc := "()B" } : MethodName) prog_17_method_152_code (1 : Nat) (Option.some FieldType.byte)), (Cond.code ({ cls := "java/lang/StringLatin1", name := "indexOf", desc := "([BIII)I" } : MethodName) prog_18_method_22_code (4 : Nat) (Option.some FieldType.int)), (Cond.code ({ cls := "java/lang/StringLatin1", name := "canEncode", desc := "(I)Z" } : MethodName) prog_18_method_4_code (1 : Nat) (Option.some FieldType.boolean)), (Cond.code ({ cls := "java/lang/StringLatin1", name := "indexOfChar", desc := "([BIII)I" } : MethodName) prog_18_method_23_code (6 : Nat) (Option.some FieldType.int)), (Cond.code ({ cls := "java/lang/StringUTF16", name := "indexOf", desc := "([BIII)I" } : MethodName) prog_19_method_40_code (4 : Nat) (Option.some FieldType.int)), (Cond.code ({ cls := "java/lang/StringUTF16", name := "indexOfChar", desc := "([BIII)I" } : MethodName) prog_19_method_47_code (4 : Nat) (Option.some FieldType.int)), (Cond.code ({ cls := "java/lang/StringUTF16", name := "checkBoundsBeginEnd", desc := "(II[B)V" } : MethodName) prog_19_method_93_code (3 : Nat) (Option.none : Option FieldType)), (Cond.code ({ cls := "java/lang/StringUTF16", name := "length", desc := "([B)I" } : MethodName) prog_19_method_6_code (1 : Nat) (Option.some FieldType.int)), (Cond.code ({ cls := "java/lang/String", name := "checkBoundsBeginEnd", desc := "(III)V" } : MethodName) prog_17_method_158_code (3 : Nat) (Option.none : Option FieldType)), (Cond.code ({ cls := "jdk/internal/util/Preconditions", name := "checkFromToIndex", desc := "(IIILjava/util/function/BiFunction;)I" } : MethodName) prog_22_method_12_code (4 : Nat) (Option.some FieldType.int)), (Cond.code ({ cls := "java/lang/StringUTF16", name := "indexOfCharUnsafe", desc := "([BIII)I" } : MethodName) prog_19_method_48_code (5 : Nat) (Option.some FieldType.int)), (Cond.code ({ cls := "java/lang/StringUTF16", name := "getChar", desc := "([BI)C" } : MethodName) prog_19_method_5_code (2 : Nat) (Option.some FieldType.char)), (Cond.code ({ cls := "java/lang/StringUTF16", name := "indexOfSupplementary", desc := "([BIII)I" } : MethodName) prog_19_method_49_code (7 : Nat) (Option.some FieldType.int)), (Cond.code ({ cls := "java/lang/Character", name := "isValidCodePoint", desc := "(I)Z" } : MethodName) prog_14_method_11_code (2 : Nat) (Option.some FieldType.boolean)), (Cond.code ({ cls := "java/lang/Character", name := "highSurrogate", desc := "(I)C" } : MethodName) prog_14_method_28_code (1 : Nat) (Option.some FieldType.char)), (Cond.code ({ cls := "java/lang/Character", name := "lowSurrogate", desc := "(I)C" } : MethodName) prog_14_method_29_code (1 : Nat) (Option.some FieldType.char)), (Cond.code ({ cls := "ParishPull$Tape", name := "digit", desc := "(II)I" } : MethodName) prog_10_method_12_code (4 : Nat) (Option.some FieldType.int)), (Cond.code ({ cls := "ParishPull$Tape", name := "takes", desc := "(C)Z" } : MethodName) prog_10_method_11_code (2 : Nat) (Option.some FieldType.boolean)), (Cond.code ({ cls := "ParishPull$Tape", name := "readRoads", desc := "()Z" } : MethodName) prog_10_method_8_code (2 : Nat) (Option.some FieldType.boolean)), (Cond.code ({ cls := "ParishPull$Tape", name := "readRoad", desc := "()Z" } : MethodName) prog_10_method_9_code (4 : Nat) (Option.some FieldType.boolean)), (Cond.code ({ cls := "ParishPull$Tape", name := "clear", desc := "()V" } : MethodName) prog_10_method_4_code (1 : Nat) (Option.none : Option FieldType)), (Cond.code ({ cls := "ParishPull$State", name := "settle", desc := "(LParishPull$Ground;)V" } : MethodName) prog_9_method_16_code (2 : Nat) (Option.none : Option FieldType)), (Cond.code ({ cls := "ParishPull$Ground", name := "copyFrom", desc := "(LParishPull$Ground;)V" } : MethodName) prog_5_method_12_code (2 : Nat) (Option.none : Option FieldType)), (Cond.code ({ cls := "ParishPull", name := "count", desc := "(I)I" } : MethodName) prog_1_method_15_code (2 : Nat) (Option.some FieldType.int)), (Cond.code ({ cls := "ParishPull$State", name := "hanging", desc := "()I" } : MethodName) prog_9_method_11_code (3 : Nat) (Option.some FieldType.int)), (Cond.code ({ cls := "ParishPull", name := "weeks", desc := "(I)I" } : MethodName) prog_1_method_16_code (4 : Nat) (Option.some FieldType.int)), (Cond.code ({ cls := "ParishPull$State", name := "passWeek", desc := "()I" } : MethodName) prog_9_method_12_code (4 : Nat) (Option.some FieldType.int)), (Cond.code ({ cls := "ParishPull$State", name := "lighterParish", desc := "(I)I" } : MethodName) prog_9_method_13_code (8 : Nat) (Option.some FieldType.int)), (Cond.code ({ cls := "ParishPull", name := "way", desc := "(IIIII)I" } : MethodName) prog_1_method_17_code (6 : Nat) (Option.some FieldType.int)), (Cond.code ({ cls := "ParishPull$Routes", name := "harness", desc := "(I)V" } : MethodName) prog_7_method_2_code (6 : Nat) (Option.none : Option FieldType)), (Cond.code ({ cls := "java/util/Arrays", name := "fill", desc := "([II)V" } : MethodName) prog_21_method_103_code (4 : Nat) (Option.none : Option FieldType))]
set_option maxRecDepth 100000 in
theorem codes_3_ok : tables_1_3.filter k2_isCode = codes_3 := rfl
theorem tcc3 {w : Cond} {i : Nat} (h : codes_3[i]? = some w) (g : goodWord w = true) : w ∈ TB := by
  have h1 := List.mem_of_getElem? h
  rw [← codes_3_ok] at h1
  obtain ⟨j, hj⟩ := List.getElem?_of_mem (List.mem_filter.mp h1).1
  exact tc3 hj g
def codes_4 : List Cond := [(Cond.code ({ cls := "ParishPull$Routes", name := "weigh", desc := "(I)V" } : MethodName) prog_7_method_3_code (3 : Nat) (Option.none : Option FieldType)), (Cond.code ({ cls := "ParishPull$Routes", name := "trace", desc := "(II)Z" } : MethodName) prog_7_method_14_code (6 : Nat) (Option.some FieldType.boolean)), (Cond.code ({ cls := "ParishPull$Routes", name := "spreadAll", desc := "()V" } : MethodName) prog_7_method_13_code (2 : Nat) (Option.none : Option FieldType)), (Cond.code ({ cls := "ParishPull$Routes", name := "spread", desc := "(I)V" } : MethodName) prog_7_method_4_code (4 : Nat) (Option.none : Option FieldType)), (Cond.code ({ cls := "ParishPull$Routes", name := "start", desc := "(I)V" } : MethodName) prog_7_method_7_code (3 : Nat) (Option.none : Option FieldType)), (Cond.code ({ cls := "ParishPull$Routes", name := "nearest", desc := "()I" } : MethodName) prog_7_method_9_code (4 : Nat) (Option.some FieldType.int)), (Cond.code ({ cls := "ParishPull$Routes", name := "leave", desc := "(I)V" } : MethodName) prog_7_method_10_code (4 : Nat) (Option.none : Option FieldType)), (Cond.code ({ cls := "ParishPull$Routes", name := "roadCost", desc := "(II)I" } : MethodName) prog_7_method_11_code (4 : Nat) (Option.some FieldType.int)), (Cond.code ({ cls := "ParishPull$Routes", name := "findNext", desc := "(I)V" } : MethodName) prog_7_method_15_code (5 : Nat) (Option.none : Option FieldType)), (Cond.code ({ cls := "ParishPull$Routes", name := "firstStep", desc := "(III)I" } : MethodName) prog_7_method_16_code (6 : Nat) (Option.some FieldType.int)), (Cond.code ({ cls := "ParishPull$Routes", name := "reaches", desc := "(III)Z" } : MethodName) prog_7_method_17_code (7 : Nat) (Option.some FieldType.boolean)), (Cond.code ({ cls := "ParishPull", name := "net", desc := "(III)I" } : MethodName) prog_1_method_18_code (4 : Nat) (Option.some FieldType.int)), (Cond.code ({ cls := "ParishPull", name := "market", desc := "(II)I" } : MethodName) prog_1_method_19_code (4 : Nat) (Option.some FieldType.int)), (Cond.code ({ cls := "ParishPull$Routes", name := "marketOf", desc := "(I)I" } : MethodName) prog_7_method_6_code (2 : Nat) (Option.some FieldType.int)), (Cond.code ({ cls := "ParishPull$Routes", name := "bestPlace", desc := "(II)I" } : MethodName) prog_7_method_5_code (8 : Nat) (Option.some FieldType.int)), (Cond.code ({ cls := "ParishPull$Routes", name := "heaviestOpen", desc := "()I" } : MethodName) prog_7_method_8_code (3 : Nat) (Option.some FieldType.int)), (Cond.code ({ cls := "ParishPull", name := "trade", desc := "(III)I" } : MethodName) prog_1_method_20_code (5 : Nat) (Option.some FieldType.int)), (Cond.code ({ cls := "ParishPull$Trades", name := "best", desc := "(II)I" } : MethodName) prog_11_method_2_code (7 : Nat) (Option.some FieldType.int)), (Cond.code ({ cls := "ParishPull$Trades", name := "findValues", desc := "(II)V" } : MethodName) prog_11_method_4_code (4 : Nat) (Option.none : Option FieldType)), (Cond.code ({ cls := "ParishPull$Routes", name := "leads", desc := "(II)Z" } : MethodName) prog_7_method_12_code (3 : Nat) (Option.some FieldType.boolean)), (Cond.code ({ cls := "ParishPull", name := "scales", desc := "(II)I" } : MethodName) prog_1_method_21_code (3 : Nat) (Option.some FieldType.int)), (Cond.code ({ cls := "ParishPull$Trades", name := "law", desc := "(II)I" } : MethodName) prog_11_method_3_code (6 : Nat) (Option.some FieldType.int)), (Cond.code ({ cls := "ParishPull$Trades", name := "findGains", desc := "(I)V" } : MethodName) prog_11_method_5_code (5 : Nat) (Option.none : Option FieldType)), (Cond.code ({ cls := "java/lang/Integer", name := "bitCount", desc := "(I)I" } : MethodName) prog_15_method_49_code (1 : Nat) (Option.some FieldType.int)), (Cond.code ({ cls := "ParishPull$Trades", name := "endsGains", desc := "(I)Z" } : MethodName) prog_11_method_6_code (4 : Nat) (Option.some FieldType.boolean)), (Cond.code ({ cls := "ParishPull", name := "take", desc := "(II)I" } : MethodName) prog_1_method_22_code (3 : Nat) (Option.some FieldType.int)), (Cond.code ({ cls := "ParishPull$Councils", name := "takeOf", desc := "(II)I" } : MethodName) prog_4_method_2_code (5 : Nat) (Option.some FieldType.int)), (Cond.code ({ cls := "ParishPull", name := "councils", desc := "(IIII)I" } : MethodName) prog_1_method_23_code (5 : Nat) (Option.some FieldType.int)), (Cond.code ({ cls := "ParishPull$Councils", name := "findRests", desc := "(III)V" } : MethodName) prog_4_method_3_code (5 : Nat) (Option.none : Option FieldType)), (Cond.code ({ cls := "ParishPull$Councils", name := "addTakes", desc := "(III)V" } : MethodName) prog_4_method_4_code (7 : Nat) (Option.none : Option FieldType)), (Cond.code ({ cls := "ParishPull$Councils", name := "most", desc := "([III)I" } : MethodName) prog_4_method_5_code (5 : Nat) (Option.some FieldType.int)), (Cond.code ({ cls := "ParishPull", name := "league", desc := "(II)I" } : MethodName) prog_1_method_24_code (3 : Nat) (Option.some FieldType.int)), (Cond.code ({ cls := "ParishPull$Ground", name := "hasSet", desc := "(I)Z" } : MethodName) prog_5_method_6_code (2 : Nat) (Option.some FieldType.boolean)), (Cond.code ({ cls := "ParishPull$Leagues", name := "worth", desc := "(II)I" } : MethodName) prog_6_method_2_code (4 : Nat) (Option.some FieldType.int)), (Cond.code ({ cls := "ParishPull$Leagues", name := "addTotal", desc := "(II)V" } : MethodName) prog_6_method_5_code (3 : Nat) (Option.none : Option FieldType)), (Cond.code ({ cls := "ParishPull", name := "upper", desc := "(III)J" } : MethodName) prog_1_method_25_code (4 : Nat) (Option.some FieldType.long)), (Cond.code ({ cls := "ParishPull", name := "isMember", desc := "(II)Z" } : MethodName) prog_1_method_40_code (3 : Nat) (Option.some FieldType.boolean)), (Cond.code ({ cls := "ParishPull$Leagues", name := "findPart", desc := "(III)V" } : MethodName) prog_6_method_3_code (10 : Nat) (Option.none : Option FieldType)), (Cond.code ({ cls := "ParishPull$Leagues", name := "findTotals", desc := "(II)V" } : MethodName) prog_6_method_4_code (5 : Nat) (Option.none : Option FieldType)), (Cond.code ({ cls := "ParishPull$Leagues", name := "commonDivisor", desc := "(JJ)J" } : MethodName) prog_6_method_6_code (11 : Nat) (Option.some FieldType.long)), (Cond.code ({ cls := "ParishPull", name := "lower", desc := "(III)J" } : MethodName) prog_1_method_26_code (4 : Nat) (Option.some FieldType.long)), (Cond.code ({ cls := "ParishPull", name := "change", desc := "(III)I" } : MethodName) prog_1_method_27_code (4 : Nat) (Option.some FieldType.int)), (Cond.code ({ cls := "ParishPull$State", name := "wouldFall", desc := "(II)I" } : MethodName) prog_9_method_14_code (5 : Nat) (Option.some FieldType.int)), (Cond.code ({ cls := "ParishPull$State", name := "wouldBeLighter", desc := "(II)I" } : MethodName) prog_9_method_15_code (6 : Nat) (Option.some FieldType.int)), (Cond.code ({ cls := "ParishPull", name := "well", desc := "(II)I" } : MethodName) prog_1_method_28_code (3 : Nat) (Option.some FieldType.int)), (Cond.code ({ cls := "ParishPull", name := "image", desc := "()I" } : MethodName) prog_1_method_29_code (1 : Nat) (Option.some FieldType.int)), (Cond.code ({ cls := "ParishPull$State", name := "copyFrom", desc := "(LParishPull$State;)V" } : MethodName) prog_9_method_17_code (2 : Nat) (Option.none : Option FieldType)), (Cond.code ({ cls := "ParishPull", name := "restore", desc := "()I" } : MethodName) prog_1_method_30_code (1 : Nat) (Option.some FieldType.int)), (Cond.code ({ cls := "ParishPull", name := "beam", desc := "(IIIIIII)I" } : MethodName) prog_1_method_31_code (12 : Nat) (Option.some FieldType.int)), (Cond.code ({ cls := "ParishPull$Sheets", name := "isLane", desc := "(II)Z" } : MethodName) prog_8_method_3_code (2 : Nat) (Option.some FieldType.boolean)), (Cond.code ({ cls := "ParishPull$Sheets", name := "isSheet", desc := "(I)Z" } : MethodName) prog_8_method_2_code (1 : Nat) (Option.some FieldType.boolean)), (Cond.code ({ cls := "ParishPull$Sheets", name := "fault", desc := "(IIII)I" } : MethodName) prog_8_method_5_code (5 : Nat) (Option.some FieldType.int)), (Cond.code ({ cls := "ParishPull$Sheets", name := "isMissing", desc := "(I)Z" } : MethodName) prog_8_method_4_code (2 : Nat) (Option.some FieldType.boolean))]
set_option maxRecDepth 100000 in
theorem codes_4_ok : tables_1_4.filter k2_isCode = codes_4 := rfl
theorem tcc4 {w : Cond} {i : Nat} (h : codes_4[i]? = some w) (g : goodWord w = true) : w ∈ TB := by
  have h1 := List.mem_of_getElem? h
  rw [← codes_4_ok] at h1
  obtain ⟨j, hj⟩ := List.getElem?_of_mem (List.mem_filter.mp h1).1
  exact tc4 hj g
def codes_5 : List Cond := [(Cond.code ({ cls := "ParishPull$Sheets", name := "holds", desc := "(III)Z" } : MethodName) prog_8_method_6_code (4 : Nat) (Option.some FieldType.boolean)), (Cond.code ({ cls := "ParishPull$Beam", name := "areStones", desc := "([JII)Z" } : MethodName) prog_2_method_2_code (6 : Nat) (Option.some FieldType.boolean)), (Cond.code ({ cls := "ParishPull$Beam", name := "turning", desc := "(LParishPull$State;II[JII)I" } : MethodName) prog_2_method_3_code (9 : Nat) (Option.some FieldType.int)), (Cond.code ({ cls := "ParishPull$Beam", name := "fewest", desc := "(III)I" } : MethodName) prog_2_method_4_code (7 : Nat) (Option.some FieldType.int)), (Cond.code ({ cls := "ParishPull$Beam", name := "stonesFor", desc := "(I)I" } : MethodName) prog_2_method_5_code (1 : Nat) (Option.some FieldType.int)), (Cond.code ({ cls := "ParishPull", name := "book", desc := "(IIIIIIII)I" } : MethodName) prog_1_method_32_code (11 : Nat) (Option.some FieldType.int)), (Cond.code ({ cls := "ParishPull$Book", name := "open", desc := "(III)V" } : MethodName) prog_3_method_2_code (4 : Nat) (Option.none : Option FieldType)), (Cond.code ({ cls := "ParishPull$Book", name := "readItems", desc := "([JII)I" } : MethodName) prog_3_method_3_code (6 : Nat) (Option.some FieldType.int)), (Cond.code ({ cls := "ParishPull$Book", name := "pullsFor", desc := "(J)I" } : MethodName) prog_3_method_6_code (5 : Nat) (Option.some FieldType.int)), (Cond.code ({ cls := "ParishPull$Book", name := "fittingRows", desc := "()I" } : MethodName) prog_3_method_4_code (3 : Nat) (Option.some FieldType.int)), (Cond.code ({ cls := "ParishPull$Book", name := "sureSeasons", desc := "()I" } : MethodName) prog_3_method_5_code (3 : Nat) (Option.some FieldType.int)), (Cond.code ({ cls := "ParishPull", name := "mills", desc := "(IIII)I" } : MethodName) prog_1_method_33_code (11 : Nat) (Option.some FieldType.int)), (Cond.code ({ cls := "ParishPull", name := "film", desc := "(III)I" } : MethodName) prog_1_method_34_code (6 : Nat) (Option.some FieldType.int)), (Cond.code ({ cls := "ParishPull$Sheets", name := "put", desc := "(IIJ)V" } : MethodName) prog_8_method_9_code (5 : Nat) (Option.none : Option FieldType)), (Cond.code ({ cls := "ParishPull", name := "sheet", desc := "(III)I" } : MethodName) prog_1_method_35_code (4 : Nat) (Option.some FieldType.int)), (Cond.code ({ cls := "ParishPull$Sheets", name := "renew", desc := "(III)V" } : MethodName) prog_8_method_7_code (4 : Nat) (Option.none : Option FieldType)), (Cond.code ({ cls := "java/util/Arrays", name := "fill", desc := "([JJ)V" } : MethodName) prog_21_method_101_code (5 : Nat) (Option.none : Option FieldType)), (Cond.code ({ cls := "ParishPull", name := "drop", desc := "(I)I" } : MethodName) prog_1_method_36_code (2 : Nat) (Option.some FieldType.int)), (Cond.code ({ cls := "ParishPull$Sheets", name := "empty", desc := "(I)I" } : MethodName) prog_8_method_8_code (2 : Nat) (Option.some FieldType.int)), (Cond.code ({ cls := "ParishPull", name := "item", desc := "(IIIJ)I" } : MethodName) prog_1_method_37_code (7 : Nat) (Option.some FieldType.int)), (Cond.code ({ cls := "ParishPull", name := "copy", desc := "(IIIII)I" } : MethodName) prog_1_method_38_code (6 : Nat) (Option.some FieldType.int)), (Cond.code ({ cls := "ParishPullModel", name := "<init>", desc := "()V" } : MethodName) prog_13_method_1_code (2 : Nat) (Option.none : Option FieldType)), (Cond.code ({ cls := "ParishPullModel", name := "parish", desc := "(I)I" } : MethodName) prog_13_method_14_code (2 : Nat) (Option.some FieldType.int)), (Cond.code ({ cls := "ParishPullModel", name := "in", desc := "(JJJ)Z" } : MethodName) prog_13_method_3_code (6 : Nat) (Option.some FieldType.boolean)), (Cond.code ({ cls := "ParishPullModel", name := "joins", desc := "(I)I" } : MethodName) prog_13_method_13_code (4 : Nat) (Option.some FieldType.int)), (Cond.code ({ cls := "ParishPullModel", name := "pull", desc := "(III)I" } : MethodName) prog_13_method_15_code (5 : Nat) (Option.some FieldType.int)), (Cond.code ({ cls := "ParishPullModel", name := "isParish", desc := "(I)Z" } : MethodName) prog_13_method_4_code (2 : Nat) (Option.some FieldType.boolean)), (Cond.code ({ cls := "ParishPullModel", name := "road", desc := "(III)I" } : MethodName) prog_13_method_17_code (5 : Nat) (Option.some FieldType.int)), (Cond.code ({ cls := "ParishPullModel", name := "roadOf", desc := "(II)I" } : MethodName) prog_13_method_16_code (6 : Nat) (Option.some FieldType.int)), (Cond.code ({ cls := "ParishPullModel", name := "toll", desc := "(II)I" } : MethodName) prog_13_method_18_code (4 : Nat) (Option.some FieldType.int)), (Cond.code ({ cls := "ParishPullModel", name := "isRoad", desc := "(I)Z" } : MethodName) prog_13_method_5_code (2 : Nat) (Option.some FieldType.boolean)), (Cond.code ({ cls := "ParishPullModel", name := "cart", desc := "(II)I" } : MethodName) prog_13_method_19_code (4 : Nat) (Option.some FieldType.int)), (Cond.code ({ cls := "ParishPullModel", name := "good", desc := "(III)I" } : MethodName) prog_13_method_20_code (5 : Nat) (Option.some FieldType.int)), (Cond.code ({ cls := "ParishPullModel", name := "hang", desc := "(II)I" } : MethodName) prog_13_method_21_code (4 : Nat) (Option.some FieldType.int)), (Cond.code ({ cls := "ParishPullModel", name := "isGood", desc := "(I)Z" } : MethodName) prog_13_method_7_code (2 : Nat) (Option.some FieldType.boolean)), (Cond.code ({ cls := "ParishPullModel", name := "weight", desc := "(II)I" } : MethodName) prog_13_method_12_code (3 : Nat) (Option.some FieldType.int)), (Cond.code ({ cls := "ParishPullModel", name := "season", desc := "()I" } : MethodName) prog_13_method_10_code (1 : Nat) (Option.some FieldType.int)), (Cond.code ({ cls := "ParishPullModel", name := "weightBy", desc := "(III)I" } : MethodName) prog_13_method_11_code (4 : Nat) (Option.some FieldType.int)), (Cond.code ({ cls := "ParishPullModel", name := "person", desc := "(II)I" } : MethodName) prog_13_method_22_code (4 : Nat) (Option.some FieldType.int)), (Cond.code ({ cls := "ParishPullModel", name := "of", desc := "(II)I" } : MethodName) prog_13_method_23_code (5 : Nat) (Option.some FieldType.int)), (Cond.code ({ cls := "ParishPullModel", name := "told", desc := "(II)I" } : MethodName) prog_13_method_24_code (5 : Nat) (Option.some FieldType.int)), (Cond.code ({ cls := "ParishPullModel", name := "isCart", desc := "(I)Z" } : MethodName) prog_13_method_6_code (2 : Nat) (Option.some FieldType.boolean))]
set_option maxRecDepth 100000 in
theorem codes_5_ok : tables_1_5.filter k2_isCode = codes_5 := rfl
theorem tcc5 {w : Cond} {i : Nat} (h : codes_5[i]? = some w) (g : goodWord w = true) : w ∈ TB := by
  have h1 := List.mem_of_getElem? h
  rw [← codes_5_ok] at h1
  obtain ⟨j, hj⟩ := List.getElem?_of_mem (List.mem_filter.mp h1).1
  exact tc5 hj g
def codes_6 : List Cond := [(Cond.code ({ cls := "ParishPullModel", name := "isPerson", desc := "(I)Z" } : MethodName) prog_13_method_8_code (2 : Nat) (Option.some FieldType.boolean)), (Cond.code ({ cls := "ParishPullModel", name := "weighs", desc := "(II)I" } : MethodName) prog_13_method_25_code (3 : Nat) (Option.some FieldType.int)), (Cond.code ({ cls := "ParishPullModel", name := "type", desc := "(I)I" } : MethodName) prog_13_method_26_code (2 : Nat) (Option.some FieldType.int)), (Cond.code ({ cls := "ParishPullModel", name := "land", desc := "()I" } : MethodName) prog_13_method_34_code (3 : Nat) (Option.some FieldType.int)), (Cond.code ({ cls := "ParishPullModel", name := "reads", desc := "()Z" } : MethodName) prog_13_method_33_code (2 : Nat) (Option.some FieldType.boolean)), (Cond.code ({ cls := "ParishPullModel", name := "readsParish", desc := "()Z" } : MethodName) prog_13_method_31_code (4 : Nat) (Option.some FieldType.boolean)), (Cond.code ({ cls := "ParishPullModel", name := "next", desc := "()I" } : MethodName) prog_13_method_27_code (1 : Nat) (Option.some FieldType.int)), (Cond.code ({ cls := "ParishPullModel", name := "kindOf", desc := "(I)I" } : MethodName) prog_13_method_30_code (1 : Nat) (Option.some FieldType.int)), (Cond.code ({ cls := "ParishPullModel", name := "isDigit", desc := "(II)Z" } : MethodName) prog_13_method_28_code (3 : Nat) (Option.some FieldType.boolean)), (Cond.code ({ cls := "ParishPullModel", name := "digit", desc := "()I" } : MethodName) prog_13_method_29_code (2 : Nat) (Option.some FieldType.int)), (Cond.code ({ cls := "ParishPullModel", name := "readsRoad", desc := "()Z" } : MethodName) prog_13_method_32_code (5 : Nat) (Option.some FieldType.boolean)), (Cond.code ({ cls := "ParishPullModel", name := "count", desc := "(I)I" } : MethodName) prog_13_method_35_code (4 : Nat) (Option.some FieldType.int)), (Cond.code ({ cls := "ParishPullModel", name := "weeks", desc := "(I)I" } : MethodName) prog_13_method_37_code (7 : Nat) (Option.some FieldType.int)), (Cond.code ({ cls := "ParishPullModel", name := "goes", desc := "(I)I" } : MethodName) prog_13_method_36_code (7 : Nat) (Option.some FieldType.int)), (Cond.code ({ cls := "ParishPullModel", name := "way", desc := "(IIIII)I" } : MethodName) prog_13_method_42_code (6 : Nat) (Option.some FieldType.int)), (Cond.code ({ cls := "ParishPullModel", name := "layWays", desc := "(III)V" } : MethodName) prog_13_method_40_code (9 : Nat) (Option.none : Option FieldType)), (Cond.code ({ cls := "ParishPullModel", name := "bears", desc := "(III)Z" } : MethodName) prog_13_method_39_code (4 : Nat) (Option.some FieldType.boolean)), (Cond.code ({ cls := "ParishPullModel", name := "costOf", desc := "(IIIII)I" } : MethodName) prog_13_method_38_code (8 : Nat) (Option.some FieldType.int)), (Cond.code ({ cls := "ParishPullModel", name := "layPath", desc := "(IIII)I" } : MethodName) prog_13_method_41_code (13 : Nat) (Option.some FieldType.int)), (Cond.code ({ cls := "ParishPullModel", name := "net", desc := "(III)I" } : MethodName) prog_13_method_44_code (5 : Nat) (Option.some FieldType.int)), (Cond.code ({ cls := "ParishPullModel", name := "netOf", desc := "(II)I" } : MethodName) prog_13_method_43_code (4 : Nat) (Option.some FieldType.int)), (Cond.code ({ cls := "ParishPullModel", name := "market", desc := "(II)I" } : MethodName) prog_13_method_46_code (3 : Nat) (Option.some FieldType.int)), (Cond.code ({ cls := "ParishPullModel", name := "marketOf", desc := "(III)I" } : MethodName) prog_13_method_45_code (7 : Nat) (Option.some FieldType.int)), (Cond.code ({ cls := "ParishPullModel", name := "trade", desc := "(III)I" } : MethodName) prog_13_method_47_code (10 : Nat) (Option.some FieldType.int)), (Cond.code ({ cls := "ParishPullModel", name := "isTwo", desc := "(I)Z" } : MethodName) prog_13_method_9_code (1 : Nat) (Option.some FieldType.boolean)), (Cond.code ({ cls := "ParishPullModel", name := "scales", desc := "(II)I" } : MethodName) prog_13_method_51_code (6 : Nat) (Option.some FieldType.int)), (Cond.code ({ cls := "ParishPullModel", name := "bits", desc := "(I)I" } : MethodName) prog_13_method_48_code (3 : Nat) (Option.some FieldType.int)), (Cond.code ({ cls := "ParishPullModel", name := "isEnded", desc := "(II)Z" } : MethodName) prog_13_method_50_code (6 : Nat) (Option.some FieldType.boolean)), (Cond.code ({ cls := "ParishPullModel", name := "paid", desc := "(III)I" } : MethodName) prog_13_method_49_code (4 : Nat) (Option.some FieldType.int)), (Cond.code ({ cls := "ParishPullModel", name := "take", desc := "(II)I" } : MethodName) prog_13_method_53_code (3 : Nat) (Option.some FieldType.int)), (Cond.code ({ cls := "ParishPullModel", name := "takeOf", desc := "(II)I" } : MethodName) prog_13_method_52_code (5 : Nat) (Option.some FieldType.int)), (Cond.code ({ cls := "ParishPullModel", name := "councils", desc := "(IIII)I" } : MethodName) prog_13_method_54_code (14 : Nat) (Option.some FieldType.int)), (Cond.code ({ cls := "ParishPullModel", name := "league", desc := "(II)I" } : MethodName) prog_13_method_57_code (3 : Nat) (Option.some FieldType.int)), (Cond.code ({ cls := "ParishPullModel", name := "isSet", desc := "(I)Z" } : MethodName) prog_13_method_56_code (2 : Nat) (Option.some FieldType.boolean)), (Cond.code ({ cls := "ParishPullModel", name := "worthOf", desc := "(II)I" } : MethodName) prog_13_method_55_code (6 : Nat) (Option.some FieldType.int)), (Cond.code ({ cls := "ParishPullModel", name := "upper", desc := "(III)J" } : MethodName) prog_13_method_60_code (4 : Nat) (Option.some FieldType.long)), (Cond.code ({ cls := "ParishPullModel", name := "layPart", desc := "(III)Z" } : MethodName) prog_13_method_59_code (11 : Nat) (Option.some FieldType.boolean)), (Cond.code ({ cls := "ParishPullModel", name := "orders", desc := "(I)J" } : MethodName) prog_13_method_58_code (4 : Nat) (Option.some FieldType.long)), (Cond.code ({ cls := "ParishPullModel", name := "lower", desc := "(III)J" } : MethodName) prog_13_method_61_code (4 : Nat) (Option.some FieldType.long)), (Cond.code ({ cls := "ParishPullModel", name := "change", desc := "(III)I" } : MethodName) prog_13_method_62_code (8 : Nat) (Option.some FieldType.int)), (Cond.code ({ cls := "ParishPullModel", name := "well", desc := "(II)I" } : MethodName) prog_13_method_63_code (4 : Nat) (Option.some FieldType.int)), (Cond.code ({ cls := "ParishPullModel", name := "image", desc := "()I" } : MethodName) prog_13_method_64_code (2 : Nat) (Option.some FieldType.int)), (Cond.code ({ cls := "ParishPullModel", name := "restore", desc := "()I" } : MethodName) prog_13_method_65_code (2 : Nat) (Option.some FieldType.int)), (Cond.code ({ cls := "ParishPullModel", name := "beam", desc := "(IIIIIII)I" } : MethodName) prog_13_method_70_code (15 : Nat) (Option.some FieldType.int)), (Cond.code ({ cls := "ParishPullModel", name := "isSheet", desc := "(I)Z" } : MethodName) prog_13_method_66_code (1 : Nat) (Option.some FieldType.boolean)), (Cond.code ({ cls := "ParishPullModel", name := "isLane", desc := "(I)Z" } : MethodName) prog_13_method_67_code (1 : Nat) (Option.some FieldType.boolean)), (Cond.code ({ cls := "ParishPullModel", name := "finds", desc := "(IIII)I" } : MethodName) prog_13_method_68_code (5 : Nat) (Option.some FieldType.int)), (Cond.code ({ cls := "ParishPullModel", name := "evens", desc := "(III)I" } : MethodName) prog_13_method_69_code (10 : Nat) (Option.some FieldType.int)), (Cond.code ({ cls := "ParishPullModel", name := "book", desc := "(IIIIIIII)I" } : MethodName) prog_13_method_72_code (14 : Nat) (Option.some FieldType.int)), (Cond.code ({ cls := "ParishPullModel", name := "layBook", desc := "(IIIII)I" } : MethodName) prog_13_method_71_code (12 : Nat) (Option.some FieldType.int)), (Cond.code ({ cls := "ParishPullModel", name := "mills", desc := "(IIII)I" } : MethodName) prog_13_method_73_code (12 : Nat) (Option.some FieldType.int)), (Cond.code ({ cls := "ParishPullModel", name := "film", desc := "(III)I" } : MethodName) prog_13_method_75_code (6 : Nat) (Option.some FieldType.int)), (Cond.code ({ cls := "ParishPullModel", name := "cut", desc := "(IJ)J" } : MethodName) prog_13_method_74_code (3 : Nat) (Option.some FieldType.long)), (Cond.code ({ cls := "ParishPullModel", name := "sheet", desc := "(III)I" } : MethodName) prog_13_method_76_code (5 : Nat) (Option.some FieldType.int)), (Cond.code ({ cls := "ParishPullModel", name := "drop", desc := "(I)I" } : MethodName) prog_13_method_77_code (3 : Nat) (Option.some FieldType.int)), (Cond.code ({ cls := "ParishPullModel", name := "item", desc := "(IIIJ)I" } : MethodName) prog_13_method_78_code (7 : Nat) (Option.some FieldType.int)), (Cond.code ({ cls := "ParishPullModel", name := "copy", desc := "(IIIII)I" } : MethodName) prog_13_method_79_code (10 : Nat) (Option.some FieldType.int))]
set_option maxRecDepth 100000 in
theorem codes_6_ok : tables_1_6.filter k2_isCode = codes_6 := rfl
theorem tcc6 {w : Cond} {i : Nat} (h : codes_6[i]? = some w) (g : goodWord w = true) : w ∈ TB := by
  have h1 := List.mem_of_getElem? h
  rw [← codes_6_ok] at h1
  obtain ⟨j, hj⟩ := List.getElem?_of_mem (List.mem_filter.mp h1).1
  exact tc6 hj g
def codes_7 : List Cond := []
set_option maxRecDepth 100000 in
theorem codes_7_ok : tables_1_7.filter k2_isCode = codes_7 := rfl
theorem tcc7 {w : Cond} {i : Nat} (h : codes_7[i]? = some w) (g : goodWord w = true) : w ∈ TB := by
  have h1 := List.mem_of_getElem? h
  rw [← codes_7_ok] at h1
  obtain ⟨j, hj⟩ := List.getElem?_of_mem (List.mem_filter.mp h1).1
  exact tc7 hj g
theorem all_in {ws : List Cond} (ps : List Nat) (h1 : ws = ps.filterMap (fun i => lw_tbl[i]?)) (h2 : ws.all goodWord = true) : ∀ w ∈ ws, w ∈ TB := by
  intro w hw
  refine List.mem_filter.mpr ⟨?_, List.all_eq_true.mp h2 w hw⟩
  rw [h1] at hw
  obtain ⟨i, -, hi⟩ := List.mem_filterMap.mp hw
  exact List.mem_of_getElem? hi
/-- a call's site: of a static method, of an instance method -/
def CS (own : String) (index : Nat) (M : mM) (n : Nat) : Prop := ∃ y : MethodName, MI y M n ∧ Cond.methodLink own index y ∈ TB ∧ Cond.static y ∈ TB
def CV (own : String) (index : Nat) (M : mM) (n ci : Nat) : Prop := ∃ (y : MethodName) (T : u_T) (N : Nat), MI y M n ∧ Cond.methodLink own index y ∈ TB ∧ Cond.instanceMethod y ∈ TB ∧ Cond.selects y.cls y y ∈ TB ∧ classesX[ci]? = some (y.cls, T, N)
theorem inBX1 : ∀ w ∈ u_ws RX1 TX1 4, w ∈ TB := all_in [411, 413, 415, 417] (by decide +kernel) (by decide +kernel)
theorem inBX2 : ∀ w ∈ u_ws RX2 TX2 6, w ∈ TB := all_in [364, 366, 368, 370, 372, 374] (by decide +kernel) (by decide +kernel)
theorem inBX3 : ∀ w ∈ u_ws RX3 TX3 7, w ∈ TB := all_in [126, 128, 130, 132, 134, 136, 138] (by decide +kernel) (by decide +kernel)
theorem inBX4 : ∀ w ∈ u_ws RX4 TX4 5, w ∈ TB := all_in [390, 392, 394, 396, 398] (by decide +kernel) (by decide +kernel)
theorem inBX5 : ∀ w ∈ u_ws RX5 TX5 14, w ∈ TB := all_in [292, 294, 296, 298, 300, 302, 304, 306, 308, 310, 312, 314, 316, 318] (by decide +kernel) (by decide +kernel)
theorem inBX6 : ∀ w ∈ u_ws RX6 TX6 4, w ∈ TB := all_in [250, 252, 254, 256] (by decide +kernel) (by decide +kernel)
theorem inBX7 : ∀ w ∈ u_ws RX7 TX7 13, w ∈ TB := all_in [185, 187, 189, 191, 193, 195, 197, 199, 201, 203, 205, 207, 209] (by decide +kernel) (by decide +kernel)
theorem inBX8 : ∀ w ∈ u_ws RX8 TX8 4, w ∈ TB := all_in [226, 228, 230, 232] (by decide +kernel) (by decide +kernel)
theorem inBX9 : ∀ w ∈ u_ws RX9 TX9 7, w ∈ TB := all_in [335, 337, 339, 341, 343, 345, 347] (by decide +kernel) (by decide +kernel)
theorem inBX10 : ∀ w ∈ u_ws RX10 TX10 10, w ∈ TB := all_in [430, 432, 434, 436, 438, 440, 442, 444, 446, 448] (by decide +kernel) (by decide +kernel)
theorem inBX11 : ∀ w ∈ u_ws RX11 TX11 18, w ∈ TB := all_in [1135, 1137, 1139, 1141, 1143, 1145, 1147, 1149, 1151, 1153, 1155, 1157, 1159, 1161, 1163, 1165, 1167, 1169] (by decide +kernel) (by decide +kernel)
theorem f_X3_9 : FL RX3 9 2 0 (.array .int) true := ⟨RX3, TX3, 7, tyX3, rfl, inBX3, by decide, tb (i := 101) (by decide +kernel) rfl, tyX3_ok, nmX3, rfl, rfl⟩
theorem f_X7_51 : FL RX7 51 2 0 (.array .int) true := ⟨RX3, TX3, 7, tyX3, rfl, inBX3, by decide, tb (i := 102) (by decide +kernel) rfl, tyX3_ok, nmX3, rfl, rfl⟩
theorem f_X2_75 : FL RX2 75 2 0 (.array .int) true := ⟨RX3, TX3, 7, tyX3, rfl, inBX3, by decide, tb (i := 103) (by decide +kernel) rfl, tyX3_ok, nmX3, rfl, rfl⟩
theorem f_X10_143 : FL RX10 143 2 0 (.array .int) true := ⟨RX3, TX3, 7, tyX3, rfl, inBX3, by decide, tb (i := 104) (by decide +kernel) rfl, tyX3_ok, nmX3, rfl, rfl⟩
theorem f_X3_15 : FL RX3 15 2 1 (.array .int) true := ⟨RX3, TX3, 7, tyX3, rfl, inBX3, by decide, tb (i := 105) (by decide +kernel) rfl, tyX3_ok, nmX3, rfl, rfl⟩
theorem f_X10_94 : FL RX10 94 2 1 (.array .int) true := ⟨RX3, TX3, 7, tyX3, rfl, inBX3, by decide, tb (i := 106) (by decide +kernel) rfl, tyX3_ok, nmX3, rfl, rfl⟩
theorem f_X7_54 : FL RX7 54 2 1 (.array .int) true := ⟨RX3, TX3, 7, tyX3, rfl, inBX3, by decide, tb (i := 107) (by decide +kernel) rfl, tyX3_ok, nmX3, rfl, rfl⟩
theorem f_X8_64 : FL RX8 64 2 1 (.array .int) true := ⟨RX3, TX3, 7, tyX3, rfl, inBX3, by decide, tb (i := 108) (by decide +kernel) rfl, tyX3_ok, nmX3, rfl, rfl⟩
theorem f_X3_18 : FL RX3 18 2 2 (.array .int) true := ⟨RX3, TX3, 7, tyX3, rfl, inBX3, by decide, tb (i := 109) (by decide +kernel) rfl, tyX3_ok, nmX3, rfl, rfl⟩
theorem f_X5_69 : FL RX5 69 2 2 (.array .int) true := ⟨RX3, TX3, 7, tyX3, rfl, inBX3, by decide, tb (i := 110) (by decide +kernel) rfl, tyX3_ok, nmX3, rfl, rfl⟩
theorem f_X10_380 : FL RX10 380 2 2 (.array .int) true := ⟨RX3, TX3, 7, tyX3, rfl, inBX3, by decide, tb (i := 111) (by decide +kernel) rfl, tyX3_ok, nmX3, rfl, rfl⟩
theorem f_X3_21 : FL RX3 21 2 3 (.array .int) true := ⟨RX3, TX3, 7, tyX3, rfl, inBX3, by decide, tb (i := 112) (by decide +kernel) rfl, tyX3_ok, nmX3, rfl, rfl⟩
theorem f_X5_72 : FL RX5 72 2 3 (.array .int) true := ⟨RX3, TX3, 7, tyX3, rfl, inBX3, by decide, tb (i := 113) (by decide +kernel) rfl, tyX3_ok, nmX3, rfl, rfl⟩
theorem f_X10_383 : FL RX10 383 2 3 (.array .int) true := ⟨RX3, TX3, 7, tyX3, rfl, inBX3, by decide, tb (i := 114) (by decide +kernel) rfl, tyX3_ok, nmX3, rfl, rfl⟩
theorem f_X3_24 : FL RX3 24 2 4 (.array .int) true := ⟨RX3, TX3, 7, tyX3, rfl, inBX3, by decide, tb (i := 115) (by decide +kernel) rfl, tyX3_ok, nmX3, rfl, rfl⟩
theorem f_X5_75 : FL RX5 75 2 4 (.array .int) true := ⟨RX3, TX3, 7, tyX3, rfl, inBX3, by decide, tb (i := 116) (by decide +kernel) rfl, tyX3_ok, nmX3, rfl, rfl⟩
theorem f_X10_112 : FL RX10 112 2 4 (.array .int) true := ⟨RX3, TX3, 7, tyX3, rfl, inBX3, by decide, tb (i := 117) (by decide +kernel) rfl, tyX3_ok, nmX3, rfl, rfl⟩
theorem f_X5_40 : FL RX5 40 2 5 .int false := ⟨RX3, TX3, 7, tyX3, rfl, inBX3, by decide, tb (i := 118) (by decide +kernel) rfl, tyX3_ok, nmX3, rfl, rfl⟩
theorem f_X10_80 : FL RX10 80 2 5 .int false := ⟨RX3, TX3, 7, tyX3, rfl, inBX3, by decide, tb (i := 119) (by decide +kernel) rfl, tyX3_ok, nmX3, rfl, rfl⟩
theorem f_X3_27 : FL RX3 27 2 5 .int false := ⟨RX3, TX3, 7, tyX3, rfl, inBX3, by decide, tb (i := 120) (by decide +kernel) rfl, tyX3_ok, nmX3, rfl, rfl⟩
theorem f_X8_71 : FL RX8 71 2 5 .int false := ⟨RX3, TX3, 7, tyX3, rfl, inBX3, by decide, tb (i := 121) (by decide +kernel) rfl, tyX3_ok, nmX3, rfl, rfl⟩
theorem f_X5_66 : FL RX5 66 2 6 .int false := ⟨RX3, TX3, 7, tyX3, rfl, inBX3, by decide, tb (i := 122) (by decide +kernel) rfl, tyX3_ok, nmX3, rfl, rfl⟩
theorem f_X3_31 : FL RX3 31 2 6 .int false := ⟨RX3, TX3, 7, tyX3, rfl, inBX3, by decide, tb (i := 123) (by decide +kernel) rfl, tyX3_ok, nmX3, rfl, rfl⟩
theorem f_X10_102 : FL RX10 102 2 6 .int false := ⟨RX3, TX3, 7, tyX3, rfl, inBX3, by decide, tb (i := 124) (by decide +kernel) rfl, tyX3_ok, nmX3, rfl, rfl⟩
theorem f_X7_84 : FL RX7 84 2 6 .int false := ⟨RX3, TX3, 7, tyX3, rfl, inBX3, by decide, tb (i := 125) (by decide +kernel) rfl, tyX3_ok, nmX3, rfl, rfl⟩
theorem f_X7_12 : FL RX7 12 6 0 (.object "ParishPull$Ground") true := ⟨RX7, TX7, 13, tyX7, rfl, inBX7, by decide, tb (i := 142) (by decide +kernel) rfl, tyX7_ok, nmX7, rfl, rfl⟩
theorem f_X5_34 : FL RX5 34 6 0 (.object "ParishPull$Ground") true := ⟨RX7, TX7, 13, tyX7, rfl, inBX7, by decide, tb (i := 143) (by decide +kernel) rfl, tyX7_ok, nmX7, rfl, rfl⟩
theorem f_X10_76 : FL RX10 76 6 0 (.object "ParishPull$Ground") true := ⟨RX7, TX7, 13, tyX7, rfl, inBX7, by decide, tb (i := 144) (by decide +kernel) rfl, tyX7_ok, nmX7, rfl, rfl⟩
theorem f_X2_71 : FL RX2 71 6 0 (.object "ParishPull$Ground") true := ⟨RX7, TX7, 13, tyX7, rfl, inBX7, by decide, tb (i := 145) (by decide +kernel) rfl, tyX7_ok, nmX7, rfl, rfl⟩
theorem f_X7_18 : FL RX7 18 6 1 (.array .int) true := ⟨RX7, TX7, 13, tyX7, rfl, inBX7, by decide, tb (i := 146) (by decide +kernel) rfl, tyX7_ok, nmX7, rfl, rfl⟩
theorem f_X5_47 : FL RX5 47 6 1 (.array .int) true := ⟨RX7, TX7, 13, tyX7, rfl, inBX7, by decide, tb (i := 147) (by decide +kernel) rfl, tyX7_ok, nmX7, rfl, rfl⟩
theorem f_X10_386 : FL RX10 386 6 1 (.array .int) true := ⟨RX7, TX7, 13, tyX7, rfl, inBX7, by decide, tb (i := 148) (by decide +kernel) rfl, tyX7_ok, nmX7, rfl, rfl⟩
theorem f_X7_22 : FL RX7 22 6 2 (.array .int) true := ⟨RX7, TX7, 13, tyX7, rfl, inBX7, by decide, tb (i := 149) (by decide +kernel) rfl, tyX7_ok, nmX7, rfl, rfl⟩
theorem f_X5_53 : FL RX5 53 6 2 (.array .int) true := ⟨RX7, TX7, 13, tyX7, rfl, inBX7, by decide, tb (i := 150) (by decide +kernel) rfl, tyX7_ok, nmX7, rfl, rfl⟩
theorem f_X10_389 : FL RX10 389 6 2 (.array .int) true := ⟨RX7, TX7, 13, tyX7, rfl, inBX7, by decide, tb (i := 151) (by decide +kernel) rfl, tyX7_ok, nmX7, rfl, rfl⟩
theorem f_X7_25 : FL RX7 25 6 3 (.array .int) true := ⟨RX7, TX7, 13, tyX7, rfl, inBX7, by decide, tb (i := 152) (by decide +kernel) rfl, tyX7_ok, nmX7, rfl, rfl⟩
theorem f_X4_35 : FL RX4 35 6 3 (.array .int) true := ⟨RX7, TX7, 13, tyX7, rfl, inBX7, by decide, tb (i := 153) (by decide +kernel) rfl, tyX7_ok, nmX7, rfl, rfl⟩
theorem f_X9_57 : FL RX9 57 6 3 (.array .int) true := ⟨RX7, TX7, 13, tyX7, rfl, inBX7, by decide, tb (i := 154) (by decide +kernel) rfl, tyX7_ok, nmX7, rfl, rfl⟩
theorem f_X2_62 : FL RX2 62 6 3 (.array .int) true := ⟨RX7, TX7, 13, tyX7, rfl, inBX7, by decide, tb (i := 155) (by decide +kernel) rfl, tyX7_ok, nmX7, rfl, rfl⟩
theorem f_X5_97 : FL RX5 97 6 3 (.array .int) true := ⟨RX7, TX7, 13, tyX7, rfl, inBX7, by decide, tb (i := 156) (by decide +kernel) rfl, tyX7_ok, nmX7, rfl, rfl⟩
theorem f_X10_233 : FL RX10 233 6 3 (.array .int) true := ⟨RX7, TX7, 13, tyX7, rfl, inBX7, by decide, tb (i := 157) (by decide +kernel) rfl, tyX7_ok, nmX7, rfl, rfl⟩
theorem f_X7_28 : FL RX7 28 6 4 (.array .int) true := ⟨RX7, TX7, 13, tyX7, rfl, inBX7, by decide, tb (i := 158) (by decide +kernel) rfl, tyX7_ok, nmX7, rfl, rfl⟩
theorem f_X9_52 : FL RX9 52 6 4 (.array .int) true := ⟨RX7, TX7, 13, tyX7, rfl, inBX7, by decide, tb (i := 159) (by decide +kernel) rfl, tyX7_ok, nmX7, rfl, rfl⟩
theorem f_X2_87 : FL RX2 87 6 4 (.array .int) true := ⟨RX7, TX7, 13, tyX7, rfl, inBX7, by decide, tb (i := 160) (by decide +kernel) rfl, tyX7_ok, nmX7, rfl, rfl⟩
theorem f_X4_81 : FL RX4 81 6 4 (.array .int) true := ⟨RX7, TX7, 13, tyX7, rfl, inBX7, by decide, tb (i := 161) (by decide +kernel) rfl, tyX7_ok, nmX7, rfl, rfl⟩
theorem f_X5_106 : FL RX5 106 6 4 (.array .int) true := ⟨RX7, TX7, 13, tyX7, rfl, inBX7, by decide, tb (i := 162) (by decide +kernel) rfl, tyX7_ok, nmX7, rfl, rfl⟩
theorem f_X10_244 : FL RX10 244 6 4 (.array .int) true := ⟨RX7, TX7, 13, tyX7, rfl, inBX7, by decide, tb (i := 163) (by decide +kernel) rfl, tyX7_ok, nmX7, rfl, rfl⟩
theorem f_X7_31 : FL RX7 31 6 5 (.array .int) true := ⟨RX7, TX7, 13, tyX7, rfl, inBX7, by decide, tb (i := 164) (by decide +kernel) rfl, tyX7_ok, nmX7, rfl, rfl⟩
theorem f_X2_84 : FL RX2 84 6 5 (.array .int) true := ⟨RX7, TX7, 13, tyX7, rfl, inBX7, by decide, tb (i := 165) (by decide +kernel) rfl, tyX7_ok, nmX7, rfl, rfl⟩
theorem f_X4_78 : FL RX4 78 6 5 (.array .int) true := ⟨RX7, TX7, 13, tyX7, rfl, inBX7, by decide, tb (i := 166) (by decide +kernel) rfl, tyX7_ok, nmX7, rfl, rfl⟩
theorem f_X5_103 : FL RX5 103 6 5 (.array .int) true := ⟨RX7, TX7, 13, tyX7, rfl, inBX7, by decide, tb (i := 167) (by decide +kernel) rfl, tyX7_ok, nmX7, rfl, rfl⟩
theorem f_X10_149 : FL RX10 149 6 5 (.array .int) true := ⟨RX7, TX7, 13, tyX7, rfl, inBX7, by decide, tb (i := 168) (by decide +kernel) rfl, tyX7_ok, nmX7, rfl, rfl⟩
theorem f_X7_34 : FL RX7 34 6 6 (.array .int) true := ⟨RX7, TX7, 13, tyX7, rfl, inBX7, by decide, tb (i := 169) (by decide +kernel) rfl, tyX7_ok, nmX7, rfl, rfl⟩
theorem f_X10_134 : FL RX10 134 6 6 (.array .int) true := ⟨RX7, TX7, 13, tyX7, rfl, inBX7, by decide, tb (i := 170) (by decide +kernel) rfl, tyX7_ok, nmX7, rfl, rfl⟩
theorem f_X7_37 : FL RX7 37 6 7 (.array .int) true := ⟨RX7, TX7, 13, tyX7, rfl, inBX7, by decide, tb (i := 171) (by decide +kernel) rfl, tyX7_ok, nmX7, rfl, rfl⟩
theorem f_X10_390 : FL RX10 390 6 7 (.array .int) true := ⟨RX7, TX7, 13, tyX7, rfl, inBX7, by decide, tb (i := 172) (by decide +kernel) rfl, tyX7_ok, nmX7, rfl, rfl⟩
theorem f_X7_40 : FL RX7 40 6 8 (.array .int) true := ⟨RX7, TX7, 13, tyX7, rfl, inBX7, by decide, tb (i := 173) (by decide +kernel) rfl, tyX7_ok, nmX7, rfl, rfl⟩
theorem f_X10_156 : FL RX10 156 6 8 (.array .int) true := ⟨RX7, TX7, 13, tyX7, rfl, inBX7, by decide, tb (i := 174) (by decide +kernel) rfl, tyX7_ok, nmX7, rfl, rfl⟩
theorem f_X7_69 : FL RX7 69 6 9 .int false := ⟨RX7, TX7, 13, tyX7, rfl, inBX7, by decide, tb (i := 175) (by decide +kernel) rfl, tyX7_ok, nmX7, rfl, rfl⟩
theorem f_X10_115 : FL RX10 115 6 9 .int false := ⟨RX7, TX7, 13, tyX7, rfl, inBX7, by decide, tb (i := 176) (by decide +kernel) rfl, tyX7_ok, nmX7, rfl, rfl⟩
theorem f_X2_32 : FL RX2 32 6 10 .int false := ⟨RX7, TX7, 13, tyX7, rfl, inBX7, by decide, tb (i := 177) (by decide +kernel) rfl, tyX7_ok, nmX7, rfl, rfl⟩
theorem f_X4_29 : FL RX4 29 6 10 .int false := ⟨RX7, TX7, 13, tyX7, rfl, inBX7, by decide, tb (i := 178) (by decide +kernel) rfl, tyX7_ok, nmX7, rfl, rfl⟩
theorem f_X7_72 : FL RX7 72 6 10 .int false := ⟨RX7, TX7, 13, tyX7, rfl, inBX7, by decide, tb (i := 179) (by decide +kernel) rfl, tyX7_ok, nmX7, rfl, rfl⟩
theorem f_X10_122 : FL RX10 122 6 10 .int false := ⟨RX7, TX7, 13, tyX7, rfl, inBX7, by decide, tb (i := 180) (by decide +kernel) rfl, tyX7_ok, nmX7, rfl, rfl⟩
theorem f_X10_137 : FL RX10 137 6 11 .int false := ⟨RX7, TX7, 13, tyX7, rfl, inBX7, by decide, tb (i := 181) (by decide +kernel) rfl, tyX7_ok, nmX7, rfl, rfl⟩
theorem f_X7_75 : FL RX7 75 6 11 .int false := ⟨RX7, TX7, 13, tyX7, rfl, inBX7, by decide, tb (i := 182) (by decide +kernel) rfl, tyX7_ok, nmX7, rfl, rfl⟩
theorem f_X7_43 : FL RX7 43 6 12 .int false := ⟨RX7, TX7, 13, tyX7, rfl, inBX7, by decide, tb (i := 183) (by decide +kernel) rfl, tyX7_ok, nmX7, rfl, rfl⟩
theorem f_X10_197 : FL RX10 197 6 12 .int false := ⟨RX7, TX7, 13, tyX7, rfl, inBX7, by decide, tb (i := 184) (by decide +kernel) rfl, tyX7_ok, nmX7, rfl, rfl⟩
theorem f_X8_11 : FL RX8 11 7 0 (.array .char) true := ⟨RX8, TX8, 4, tyX8, rfl, inBX8, by decide, tb (i := 220) (by decide +kernel) rfl, tyX8_ok, nmX8, rfl, rfl⟩
theorem f_X8_18 : FL RX8 18 7 1 (.object "ParishPull$Ground") true := ⟨RX8, TX8, 4, tyX8, rfl, inBX8, by decide, tb (i := 221) (by decide +kernel) rfl, tyX8_ok, nmX8, rfl, rfl⟩
theorem f_X10_190 : FL RX10 190 7 1 (.object "ParishPull$Ground") true := ⟨RX8, TX8, 4, tyX8, rfl, inBX8, by decide, tb (i := 222) (by decide +kernel) rfl, tyX8_ok, nmX8, rfl, rfl⟩
theorem f_X8_22 : FL RX8 22 7 2 .int false := ⟨RX8, TX8, 4, tyX8, rfl, inBX8, by decide, tb (i := 223) (by decide +kernel) rfl, tyX8_ok, nmX8, rfl, rfl⟩
theorem f_X8_26 : FL RX8 26 7 3 .int false := ⟨RX8, TX8, 4, tyX8, rfl, inBX8, by decide, tb (i := 224) (by decide +kernel) rfl, tyX8_ok, nmX8, rfl, rfl⟩
theorem f_X10_184 : FL RX10 184 7 3 .int false := ⟨RX8, TX8, 4, tyX8, rfl, inBX8, by decide, tb (i := 225) (by decide +kernel) rfl, tyX8_ok, nmX8, rfl, rfl⟩
theorem f_X6_13 : FL RX6 13 5 0 (.array (.array .long)) true := ⟨RX6, TX6, 4, tyX6, rfl, inBX6, by decide, tb (i := 244) (by decide +kernel) rfl, tyX6_ok, nmX6, rfl, rfl⟩
theorem f_X10_321 : FL RX10 321 5 0 (.array (.array .long)) true := ⟨RX6, TX6, 4, tyX6, rfl, inBX6, by decide, tb (i := 245) (by decide +kernel) rfl, tyX6_ok, nmX6, rfl, rfl⟩
theorem f_X6_16 : FL RX6 16 5 1 (.array .int) true := ⟨RX6, TX6, 4, tyX6, rfl, inBX6, by decide, tb (i := 246) (by decide +kernel) rfl, tyX6_ok, nmX6, rfl, rfl⟩
theorem f_X10_368 : FL RX10 368 5 1 (.array .int) true := ⟨RX6, TX6, 4, tyX6, rfl, inBX6, by decide, tb (i := 247) (by decide +kernel) rfl, tyX6_ok, nmX6, rfl, rfl⟩
theorem f_X6_20 : FL RX6 20 5 2 (.array .int) true := ⟨RX6, TX6, 4, tyX6, rfl, inBX6, by decide, tb (i := 248) (by decide +kernel) rfl, tyX6_ok, nmX6, rfl, rfl⟩
theorem f_X6_23 : FL RX6 23 5 3 (.array .boolean) true := ⟨RX6, TX6, 4, tyX6, rfl, inBX6, by decide, tb (i := 249) (by decide +kernel) rfl, tyX6_ok, nmX6, rfl, rfl⟩
theorem f_X5_30 : FL RX5 30 4 0 (.object "ParishPull$State") true := ⟨RX5, TX5, 14, tyX5, rfl, inBX5, by decide, tb (i := 267) (by decide +kernel) rfl, tyX5_ok, nmX5, rfl, rfl⟩
theorem f_X5_11 : FL RX5 11 4 1 (.array .int) true := ⟨RX5, TX5, 14, tyX5, rfl, inBX5, by decide, tb (i := 268) (by decide +kernel) rfl, tyX5_ok, nmX5, rfl, rfl⟩
theorem f_X5_15 : FL RX5 15 4 2 (.array .int) true := ⟨RX5, TX5, 14, tyX5, rfl, inBX5, by decide, tb (i := 269) (by decide +kernel) rfl, tyX5_ok, nmX5, rfl, rfl⟩
theorem f_X9_46 : FL RX9 46 4 2 (.array .int) true := ⟨RX5, TX5, 14, tyX5, rfl, inBX5, by decide, tb (i := 270) (by decide +kernel) rfl, tyX5_ok, nmX5, rfl, rfl⟩
theorem f_X10_223 : FL RX10 223 4 2 (.array .int) true := ⟨RX5, TX5, 14, tyX5, rfl, inBX5, by decide, tb (i := 271) (by decide +kernel) rfl, tyX5_ok, nmX5, rfl, rfl⟩
theorem f_X5_18 : FL RX5 18 4 3 (.array .int) true := ⟨RX5, TX5, 14, tyX5, rfl, inBX5, by decide, tb (i := 272) (by decide +kernel) rfl, tyX5_ok, nmX5, rfl, rfl⟩
theorem f_X2_68 : FL RX2 68 4 3 (.array .int) true := ⟨RX5, TX5, 14, tyX5, rfl, inBX5, by decide, tb (i := 273) (by decide +kernel) rfl, tyX5_ok, nmX5, rfl, rfl⟩
theorem f_X9_83 : FL RX9 83 4 3 (.array .int) true := ⟨RX5, TX5, 14, tyX5, rfl, inBX5, by decide, tb (i := 274) (by decide +kernel) rfl, tyX5_ok, nmX5, rfl, rfl⟩
theorem f_X10_247 : FL RX10 247 4 3 (.array .int) true := ⟨RX5, TX5, 14, tyX5, rfl, inBX5, by decide, tb (i := 275) (by decide +kernel) rfl, tyX5_ok, nmX5, rfl, rfl⟩
theorem f_X5_21 : FL RX5 21 4 4 (.array .int) true := ⟨RX5, TX5, 14, tyX5, rfl, inBX5, by decide, tb (i := 276) (by decide +kernel) rfl, tyX5_ok, nmX5, rfl, rfl⟩
theorem f_X10_239 : FL RX10 239 4 4 (.array .int) true := ⟨RX5, TX5, 14, tyX5, rfl, inBX5, by decide, tb (i := 277) (by decide +kernel) rfl, tyX5_ok, nmX5, rfl, rfl⟩
theorem f_X5_24 : FL RX5 24 4 5 (.array .int) true := ⟨RX5, TX5, 14, tyX5, rfl, inBX5, by decide, tb (i := 278) (by decide +kernel) rfl, tyX5_ok, nmX5, rfl, rfl⟩
theorem f_X5_27 : FL RX5 27 4 6 (.array .int) true := ⟨RX5, TX5, 14, tyX5, rfl, inBX5, by decide, tb (i := 279) (by decide +kernel) rfl, tyX5_ok, nmX5, rfl, rfl⟩
theorem f_X10_229 : FL RX10 229 4 6 (.array .int) true := ⟨RX5, TX5, 14, tyX5, rfl, inBX5, by decide, tb (i := 280) (by decide +kernel) rfl, tyX5_ok, nmX5, rfl, rfl⟩
theorem f_X5_134 : FL RX5 134 4 7 .int false := ⟨RX5, TX5, 14, tyX5, rfl, inBX5, by decide, tb (i := 281) (by decide +kernel) rfl, tyX5_ok, nmX5, rfl, rfl⟩
theorem f_X10_226 : FL RX10 226 4 7 .int false := ⟨RX5, TX5, 14, tyX5, rfl, inBX5, by decide, tb (i := 282) (by decide +kernel) rfl, tyX5_ok, nmX5, rfl, rfl⟩
theorem f_X5_46 : FL RX5 46 4 8 .int false := ⟨RX5, TX5, 14, tyX5, rfl, inBX5, by decide, tb (i := 283) (by decide +kernel) rfl, tyX5_ok, nmX5, rfl, rfl⟩
theorem f_X9_38 : FL RX9 38 4 8 .int false := ⟨RX5, TX5, 14, tyX5, rfl, inBX5, by decide, tb (i := 284) (by decide +kernel) rfl, tyX5_ok, nmX5, rfl, rfl⟩
theorem f_X5_50 : FL RX5 50 4 9 .int false := ⟨RX5, TX5, 14, tyX5, rfl, inBX5, by decide, tb (i := 285) (by decide +kernel) rfl, tyX5_ok, nmX5, rfl, rfl⟩
theorem f_X5_54 : FL RX5 54 4 10 .int false := ⟨RX5, TX5, 14, tyX5, rfl, inBX5, by decide, tb (i := 286) (by decide +kernel) rfl, tyX5_ok, nmX5, rfl, rfl⟩
theorem f_X5_57 : FL RX5 57 4 11 .int false := ⟨RX5, TX5, 14, tyX5, rfl, inBX5, by decide, tb (i := 287) (by decide +kernel) rfl, tyX5_ok, nmX5, rfl, rfl⟩
theorem f_X4_75 : FL RX4 75 4 11 .int false := ⟨RX5, TX5, 14, tyX5, rfl, inBX5, by decide, tb (i := 288) (by decide +kernel) rfl, tyX5_ok, nmX5, rfl, rfl⟩
theorem f_X5_113 : FL RX5 113 4 12 .int false := ⟨RX5, TX5, 14, tyX5, rfl, inBX5, by decide, tb (i := 289) (by decide +kernel) rfl, tyX5_ok, nmX5, rfl, rfl⟩
theorem f_X4_88 : FL RX4 88 4 13 .int false := ⟨RX5, TX5, 14, tyX5, rfl, inBX5, by decide, tb (i := 290) (by decide +kernel) rfl, tyX5_ok, nmX5, rfl, rfl⟩
theorem f_X5_94 : FL RX5 94 4 13 .int false := ⟨RX5, TX5, 14, tyX5, rfl, inBX5, by decide, tb (i := 291) (by decide +kernel) rfl, tyX5_ok, nmX5, rfl, rfl⟩
theorem f_X9_26 : FL RX9 26 8 0 (.object "ParishPull$State") true := ⟨RX9, TX9, 7, tyX9, rfl, inBX9, by decide, tb (i := 327) (by decide +kernel) rfl, tyX9_ok, nmX9, rfl, rfl⟩
theorem f_X9_30 : FL RX9 30 8 1 (.object "ParishPull$Routes") true := ⟨RX9, TX9, 7, tyX9, rfl, inBX9, by decide, tb (i := 328) (by decide +kernel) rfl, tyX9_ok, nmX9, rfl, rfl⟩
theorem f_X9_11 : FL RX9 11 8 2 (.array .int) true := ⟨RX9, TX9, 7, tyX9, rfl, inBX9, by decide, tb (i := 329) (by decide +kernel) rfl, tyX9_ok, nmX9, rfl, rfl⟩
theorem f_X9_17 : FL RX9 17 8 3 (.array .int) true := ⟨RX9, TX9, 7, tyX9, rfl, inBX9, by decide, tb (i := 330) (by decide +kernel) rfl, tyX9_ok, nmX9, rfl, rfl⟩
theorem f_X9_20 : FL RX9 20 8 4 (.array .int) true := ⟨RX9, TX9, 7, tyX9, rfl, inBX9, by decide, tb (i := 331) (by decide +kernel) rfl, tyX9_ok, nmX9, rfl, rfl⟩
theorem f_X9_23 : FL RX9 23 8 5 (.array .int) true := ⟨RX9, TX9, 7, tyX9, rfl, inBX9, by decide, tb (i := 332) (by decide +kernel) rfl, tyX9_ok, nmX9, rfl, rfl⟩
theorem f_X9_49 : FL RX9 49 8 6 .int false := ⟨RX9, TX9, 7, tyX9, rfl, inBX9, by decide, tb (i := 333) (by decide +kernel) rfl, tyX9_ok, nmX9, rfl, rfl⟩
theorem f_X10_256 : FL RX10 256 8 6 .int false := ⟨RX9, TX9, 7, tyX9, rfl, inBX9, by decide, tb (i := 334) (by decide +kernel) rfl, tyX9_ok, nmX9, rfl, rfl⟩
theorem f_X2_18 : FL RX2 18 1 0 (.object "ParishPull$State") true := ⟨RX2, TX2, 6, tyX2, rfl, inBX2, by decide, tb (i := 356) (by decide +kernel) rfl, tyX2_ok, nmX2, rfl, rfl⟩
theorem f_X2_22 : FL RX2 22 1 1 (.object "ParishPull$Routes") true := ⟨RX2, TX2, 6, tyX2, rfl, inBX2, by decide, tb (i := 357) (by decide +kernel) rfl, tyX2_ok, nmX2, rfl, rfl⟩
theorem f_X2_11 : FL RX2 11 1 2 (.array .int) true := ⟨RX2, TX2, 6, tyX2, rfl, inBX2, by decide, tb (i := 358) (by decide +kernel) rfl, tyX2_ok, nmX2, rfl, rfl⟩
theorem f_X2_15 : FL RX2 15 1 3 (.array .int) true := ⟨RX2, TX2, 6, tyX2, rfl, inBX2, by decide, tb (i := 359) (by decide +kernel) rfl, tyX2_ok, nmX2, rfl, rfl⟩
theorem f_X2_52 : FL RX2 52 1 4 .int false := ⟨RX2, TX2, 6, tyX2, rfl, inBX2, by decide, tb (i := 360) (by decide +kernel) rfl, tyX2_ok, nmX2, rfl, rfl⟩
theorem f_X10_269 : FL RX10 269 1 4 .int false := ⟨RX2, TX2, 6, tyX2, rfl, inBX2, by decide, tb (i := 361) (by decide +kernel) rfl, tyX2_ok, nmX2, rfl, rfl⟩
theorem f_X2_55 : FL RX2 55 1 5 .int false := ⟨RX2, TX2, 6, tyX2, rfl, inBX2, by decide, tb (i := 362) (by decide +kernel) rfl, tyX2_ok, nmX2, rfl, rfl⟩
theorem f_X10_272 : FL RX10 272 1 5 .int false := ⟨RX2, TX2, 6, tyX2, rfl, inBX2, by decide, tb (i := 363) (by decide +kernel) rfl, tyX2_ok, nmX2, rfl, rfl⟩
theorem f_X4_15 : FL RX4 15 3 0 (.object "ParishPull$State") true := ⟨RX4, TX4, 5, tyX4, rfl, inBX4, by decide, tb (i := 383) (by decide +kernel) rfl, tyX4_ok, nmX4, rfl, rfl⟩
theorem f_X4_19 : FL RX4 19 3 1 (.object "ParishPull$Routes") true := ⟨RX4, TX4, 5, tyX4, rfl, inBX4, by decide, tb (i := 384) (by decide +kernel) rfl, tyX4_ok, nmX4, rfl, rfl⟩
theorem f_X4_9 : FL RX4 9 3 2 (.array .int) true := ⟨RX4, TX4, 5, tyX4, rfl, inBX4, by decide, tb (i := 385) (by decide +kernel) rfl, tyX4_ok, nmX4, rfl, rfl⟩
theorem f_X4_62 : FL RX4 62 3 3 .long false := ⟨RX4, TX4, 5, tyX4, rfl, inBX4, by decide, tb (i := 386) (by decide +kernel) rfl, tyX4_ok, nmX4, rfl, rfl⟩
theorem f_X10_289 : FL RX10 289 3 3 .long false := ⟨RX4, TX4, 5, tyX4, rfl, inBX4, by decide, tb (i := 387) (by decide +kernel) rfl, tyX4_ok, nmX4, rfl, rfl⟩
theorem f_X4_66 : FL RX4 66 3 4 .long false := ⟨RX4, TX4, 5, tyX4, rfl, inBX4, by decide, tb (i := 388) (by decide +kernel) rfl, tyX4_ok, nmX4, rfl, rfl⟩
theorem f_X10_295 : FL RX10 295 3 4 .long false := ⟨RX4, TX4, 5, tyX4, rfl, inBX4, by decide, tb (i := 389) (by decide +kernel) rfl, tyX4_ok, nmX4, rfl, rfl⟩
theorem f_X1_9 : FL RX1 9 0 0 (.array .int) true := ⟨RX1, TX1, 4, tyX1, rfl, inBX1, by decide, tb (i := 407) (by decide +kernel) rfl, tyX1_ok, nmX1, rfl, rfl⟩
theorem f_X1_15 : FL RX1 15 0 1 .int false := ⟨RX1, TX1, 4, tyX1, rfl, inBX1, by decide, tb (i := 408) (by decide +kernel) rfl, tyX1_ok, nmX1, rfl, rfl⟩
theorem f_X1_19 : FL RX1 19 0 2 .int false := ⟨RX1, TX1, 4, tyX1, rfl, inBX1, by decide, tb (i := 409) (by decide +kernel) rfl, tyX1_ok, nmX1, rfl, rfl⟩
theorem f_X1_22 : FL RX1 22 0 3 .int false := ⟨RX1, TX1, 4, tyX1, rfl, inBX1, by decide, tb (i := 410) (by decide +kernel) rfl, tyX1_ok, nmX1, rfl, rfl⟩
theorem f_X10_10 : FL RX10 10 9 0 (.object "ParishPull$State") true := ⟨RX10, TX10, 10, tyX10, rfl, inBX10, by decide, tb (i := 420) (by decide +kernel) rfl, tyX10_ok, nmX10, rfl, rfl⟩
theorem f_X10_16 : FL RX10 16 9 1 (.object "ParishPull$State") true := ⟨RX10, TX10, 10, tyX10, rfl, inBX10, by decide, tb (i := 421) (by decide +kernel) rfl, tyX10_ok, nmX10, rfl, rfl⟩
theorem f_X10_22 : FL RX10 22 9 2 (.object "ParishPull$Tape") true := ⟨RX10, TX10, 10, tyX10, rfl, inBX10, by decide, tb (i := 422) (by decide +kernel) rfl, tyX10_ok, nmX10, rfl, rfl⟩
theorem f_X10_29 : FL RX10 29 9 3 (.object "ParishPull$Sheets") true := ⟨RX10, TX10, 10, tyX10, rfl, inBX10, by decide, tb (i := 423) (by decide +kernel) rfl, tyX10_ok, nmX10, rfl, rfl⟩
theorem f_X10_38 : FL RX10 38 9 4 (.object "ParishPull$Routes") true := ⟨RX10, TX10, 10, tyX10, rfl, inBX10, by decide, tb (i := 424) (by decide +kernel) rfl, tyX10_ok, nmX10, rfl, rfl⟩
theorem f_X10_47 : FL RX10 47 9 5 (.object "ParishPull$Trades") true := ⟨RX10, TX10, 10, tyX10, rfl, inBX10, by decide, tb (i := 425) (by decide +kernel) rfl, tyX10_ok, nmX10, rfl, rfl⟩
theorem f_X10_54 : FL RX10 54 9 6 (.object "ParishPull$Councils") true := ⟨RX10, TX10, 10, tyX10, rfl, inBX10, by decide, tb (i := 426) (by decide +kernel) rfl, tyX10_ok, nmX10, rfl, rfl⟩
theorem f_X10_61 : FL RX10 61 9 7 (.object "ParishPull$Leagues") true := ⟨RX10, TX10, 10, tyX10, rfl, inBX10, by decide, tb (i := 427) (by decide +kernel) rfl, tyX10_ok, nmX10, rfl, rfl⟩
theorem f_X10_68 : FL RX10 68 9 8 (.object "ParishPull$Book") true := ⟨RX10, TX10, 10, tyX10, rfl, inBX10, by decide, tb (i := 428) (by decide +kernel) rfl, tyX10_ok, nmX10, rfl, rfl⟩
theorem f_X10_307 : FL RX10 307 9 9 .boolean false := ⟨RX10, TX10, 10, tyX10, rfl, inBX10, by decide, tb (i := 429) (by decide +kernel) rfl, tyX10_ok, nmX10, rfl, rfl⟩
theorem f_X4_54 : Cond.fieldLink RX4 54 RX4 "ORDERS" "[J" ∈ TB := tb (i := 959) (by decide +kernel) rfl
theorem f_X11_7 : FL RX11 7 10 0 (.array .int) true := ⟨RX11, TX11, 18, tyX11, rfl, inBX11, by decide, tb (i := 1117) (by decide +kernel) rfl, tyX11_ok, nmX11, rfl, rfl⟩
theorem f_X11_13 : FL RX11 13 10 1 (.array .int) true := ⟨RX11, TX11, 18, tyX11, rfl, inBX11, by decide, tb (i := 1118) (by decide +kernel) rfl, tyX11_ok, nmX11, rfl, rfl⟩
theorem f_X11_216 : FL RX11 216 10 2 .boolean false := ⟨RX11, TX11, 18, tyX11, rfl, inBX11, by decide, tb (i := 1119) (by decide +kernel) rfl, tyX11_ok, nmX11, rfl, rfl⟩
theorem f_X11_16 : FL RX11 16 10 3 (.array .int) true := ⟨RX11, TX11, 18, tyX11, rfl, inBX11, by decide, tb (i := 1120) (by decide +kernel) rfl, tyX11_ok, nmX11, rfl, rfl⟩
theorem f_X11_113 : FL RX11 113 10 4 .int false := ⟨RX11, TX11, 18, tyX11, rfl, inBX11, by decide, tb (i := 1121) (by decide +kernel) rfl, tyX11_ok, nmX11, rfl, rfl⟩
theorem f_X11_19 : FL RX11 19 10 5 (.array .int) true := ⟨RX11, TX11, 18, tyX11, rfl, inBX11, by decide, tb (i := 1122) (by decide +kernel) rfl, tyX11_ok, nmX11, rfl, rfl⟩
theorem f_X11_22 : FL RX11 22 10 6 (.array .int) true := ⟨RX11, TX11, 18, tyX11, rfl, inBX11, by decide, tb (i := 1123) (by decide +kernel) rfl, tyX11_ok, nmX11, rfl, rfl⟩
theorem f_X11_25 : FL RX11 25 10 7 (.array .long) true := ⟨RX11, TX11, 18, tyX11, rfl, inBX11, by decide, tb (i := 1124) (by decide +kernel) rfl, tyX11_ok, nmX11, rfl, rfl⟩
theorem f_X11_117 : FL RX11 117 10 8 .int false := ⟨RX11, TX11, 18, tyX11, rfl, inBX11, by decide, tb (i := 1125) (by decide +kernel) rfl, tyX11_ok, nmX11, rfl, rfl⟩
theorem f_X11_29 : FL RX11 29 10 9 (.array .int) true := ⟨RX11, TX11, 18, tyX11, rfl, inBX11, by decide, tb (i := 1126) (by decide +kernel) rfl, tyX11_ok, nmX11, rfl, rfl⟩
theorem f_X11_32 : FL RX11 32 10 10 (.array .int) true := ⟨RX11, TX11, 18, tyX11, rfl, inBX11, by decide, tb (i := 1127) (by decide +kernel) rfl, tyX11_ok, nmX11, rfl, rfl⟩
theorem f_X11_35 : FL RX11 35 10 11 (.array .int) true := ⟨RX11, TX11, 18, tyX11, rfl, inBX11, by decide, tb (i := 1128) (by decide +kernel) rfl, tyX11_ok, nmX11, rfl, rfl⟩
theorem f_X11_38 : FL RX11 38 10 12 (.array .int) true := ⟨RX11, TX11, 18, tyX11, rfl, inBX11, by decide, tb (i := 1129) (by decide +kernel) rfl, tyX11_ok, nmX11, rfl, rfl⟩
theorem f_X11_41 : FL RX11 41 10 13 (.array .int) true := ⟨RX11, TX11, 18, tyX11, rfl, inBX11, by decide, tb (i := 1130) (by decide +kernel) rfl, tyX11_ok, nmX11, rfl, rfl⟩
theorem f_X11_44 : FL RX11 44 10 14 (.array .int) true := ⟨RX11, TX11, 18, tyX11, rfl, inBX11, by decide, tb (i := 1131) (by decide +kernel) rfl, tyX11_ok, nmX11, rfl, rfl⟩
theorem f_X11_200 : FL RX11 200 10 15 .long false := ⟨RX11, TX11, 18, tyX11, rfl, inBX11, by decide, tb (i := 1132) (by decide +kernel) rfl, tyX11_ok, nmX11, rfl, rfl⟩
theorem f_X11_208 : FL RX11 208 10 16 .long false := ⟨RX11, TX11, 18, tyX11, rfl, inBX11, by decide, tb (i := 1133) (by decide +kernel) rfl, tyX11_ok, nmX11, rfl, rfl⟩
theorem f_X11_47 : FL RX11 47 10 17 (.array .int) true := ⟨RX11, TX11, 18, tyX11, rfl, inBX11, by decide, tb (i := 1134) (by decide +kernel) rfl, tyX11_ok, nmX11, rfl, rfl⟩
theorem pd_0 : (parseMethodDescriptor "([JII)Z").map (fun d => d.parameters.length) = some 3 := by decide +kernel
theorem pd_1 : (parseMethodDescriptor "(LParishPull$State;II[JII)I").map (fun d => d.parameters.length) = some 6 := by decide +kernel
theorem pd_2 : (parseMethodDescriptor "(III)I").map (fun d => d.parameters.length) = some 3 := by decide +kernel
theorem pd_3 : (parseMethodDescriptor "(I)I").map (fun d => d.parameters.length) = some 1 := by decide +kernel
theorem pd_4 : (parseMethodDescriptor "()V").map (fun d => d.parameters.length) = some 0 := by decide +kernel
theorem pd_5 : (parseMethodDescriptor "(III)V").map (fun d => d.parameters.length) = some 3 := by decide +kernel
theorem pd_6 : (parseMethodDescriptor "([JII)I").map (fun d => d.parameters.length) = some 3 := by decide +kernel
theorem pd_7 : (parseMethodDescriptor "()I").map (fun d => d.parameters.length) = some 0 := by decide +kernel
theorem pd_8 : (parseMethodDescriptor "(J)I").map (fun d => d.parameters.length) = some 1 := by decide +kernel
theorem pd_9 : (parseMethodDescriptor "(LParishPull$State;LParishPull$Routes;)V").map (fun d => d.parameters.length) = some 2 := by decide +kernel
theorem pd_10 : (parseMethodDescriptor "(II)I").map (fun d => d.parameters.length) = some 2 := by decide +kernel
theorem pd_11 : (parseMethodDescriptor "([III)I").map (fun d => d.parameters.length) = some 3 := by decide +kernel
theorem pd_12 : (parseMethodDescriptor "(I)Z").map (fun d => d.parameters.length) = some 1 := by decide +kernel
theorem pd_13 : (parseMethodDescriptor "(II)Z").map (fun d => d.parameters.length) = some 2 := by decide +kernel
theorem pd_14 : (parseMethodDescriptor "(LParishPull$Ground;)V").map (fun d => d.parameters.length) = some 1 := by decide +kernel
theorem pd_15 : (parseMethodDescriptor "(II)V").map (fun d => d.parameters.length) = some 2 := by decide +kernel
theorem pd_16 : (parseMethodDescriptor "(JJ)J").map (fun d => d.parameters.length) = some 2 := by decide +kernel
theorem pd_17 : (parseMethodDescriptor "(LParishPull$State;)V").map (fun d => d.parameters.length) = some 1 := by decide +kernel
theorem pd_18 : (parseMethodDescriptor "(I)V").map (fun d => d.parameters.length) = some 1 := by decide +kernel
theorem pd_19 : (parseMethodDescriptor "(III)Z").map (fun d => d.parameters.length) = some 3 := by decide +kernel
theorem pd_20 : (parseMethodDescriptor "(IIII)I").map (fun d => d.parameters.length) = some 4 := by decide +kernel
theorem pd_21 : (parseMethodDescriptor "(IIJ)V").map (fun d => d.parameters.length) = some 3 := by decide +kernel
theorem pd_22 : (parseMethodDescriptor "()Z").map (fun d => d.parameters.length) = some 0 := by decide +kernel
theorem pd_23 : (parseMethodDescriptor "(C)Z").map (fun d => d.parameters.length) = some 1 := by decide +kernel
theorem pd_24 : (parseMethodDescriptor "(IIIII)I").map (fun d => d.parameters.length) = some 5 := by decide +kernel
theorem pd_25 : (parseMethodDescriptor "(III)J").map (fun d => d.parameters.length) = some 3 := by decide +kernel
theorem pd_26 : (parseMethodDescriptor "(IIIIIII)I").map (fun d => d.parameters.length) = some 7 := by decide +kernel
theorem pd_27 : (parseMethodDescriptor "(IIIIIIII)I").map (fun d => d.parameters.length) = some 8 := by decide +kernel
theorem pd_28 : (parseMethodDescriptor "(IIIJ)I").map (fun d => d.parameters.length) = some 4 := by decide +kernel
theorem pd_29 : (parseMethodDescriptor "(JJJ)Z").map (fun d => d.parameters.length) = some 3 := by decide +kernel
theorem pd_30 : (parseMethodDescriptor "(I)J").map (fun d => d.parameters.length) = some 1 := by decide +kernel
theorem pd_31 : (parseMethodDescriptor "(IJ)J").map (fun d => d.parameters.length) = some 2 := by decide +kernel
theorem pd_32 : (parseMethodDescriptor "(I)C").map (fun d => d.parameters.length) = some 1 := by decide +kernel
theorem pd_33 : (parseMethodDescriptor "()B").map (fun d => d.parameters.length) = some 0 := by decide +kernel
theorem pd_34 : (parseMethodDescriptor "([BIII)I").map (fun d => d.parameters.length) = some 4 := by decide +kernel
theorem pd_35 : (parseMethodDescriptor "([BI)C").map (fun d => d.parameters.length) = some 2 := by decide +kernel
theorem pd_36 : (parseMethodDescriptor "([B)I").map (fun d => d.parameters.length) = some 1 := by decide +kernel
theorem pd_37 : (parseMethodDescriptor "(II[B)V").map (fun d => d.parameters.length) = some 3 := by decide +kernel
theorem pd_38 : (parseMethodDescriptor "([JJ)V").map (fun d => d.parameters.length) = some 2 := by decide +kernel
theorem pd_39 : (parseMethodDescriptor "([II)V").map (fun d => d.parameters.length) = some 2 := by decide +kernel
theorem pd_40 : (parseMethodDescriptor "(IIILjava/util/function/BiFunction;)I").map (fun d => d.parameters.length) = some 4 := by decide +kernel
theorem pd_41 : (parseMethodDescriptor "([I)Z").map (fun d => d.parameters.length) = some 1 := by decide +kernel
theorem pn_X0 : plainName RX0 = true ∧ Cond.initialized RX0 ∈ TB ∧ RX0 ≠ "java/lang/invoke/MethodHandle" ∧ RX0 ≠ "java/lang/invoke/VarHandle" := ⟨by decide +kernel, tb (i := 80) (by decide +kernel) rfl, by decide +kernel, by decide +kernel⟩
theorem pn_X1 : plainName RX1 = true ∧ Cond.initialized RX1 ∈ TB ∧ RX1 ≠ "java/lang/invoke/MethodHandle" ∧ RX1 ≠ "java/lang/invoke/VarHandle" := ⟨by decide +kernel, tb (i := 69) (by decide +kernel) rfl, by decide +kernel, by decide +kernel⟩
theorem pn_X2 : plainName RX2 = true ∧ Cond.initialized RX2 ∈ TB ∧ RX2 ≠ "java/lang/invoke/MethodHandle" ∧ RX2 ≠ "java/lang/invoke/VarHandle" := ⟨by decide +kernel, tb (i := 67) (by decide +kernel) rfl, by decide +kernel, by decide +kernel⟩
theorem pn_X3 : plainName RX3 = true ∧ Cond.initialized RX3 ∈ TB ∧ RX3 ≠ "java/lang/invoke/MethodHandle" ∧ RX3 ≠ "java/lang/invoke/VarHandle" := ⟨by decide +kernel, tb (i := 62) (by decide +kernel) rfl, by decide +kernel, by decide +kernel⟩
theorem pn_X4 : plainName RX4 = true ∧ Cond.initialized RX4 ∈ TB ∧ RX4 ≠ "java/lang/invoke/MethodHandle" ∧ RX4 ≠ "java/lang/invoke/VarHandle" := ⟨by decide +kernel, tb (i := 68) (by decide +kernel) rfl, by decide +kernel, by decide +kernel⟩
theorem pn_X5 : plainName RX5 = true ∧ Cond.initialized RX5 ∈ TB ∧ RX5 ≠ "java/lang/invoke/MethodHandle" ∧ RX5 ≠ "java/lang/invoke/VarHandle" := ⟨by decide +kernel, tb (i := 65) (by decide +kernel) rfl, by decide +kernel, by decide +kernel⟩
theorem pn_X6 : plainName RX6 = true ∧ Cond.initialized RX6 ∈ TB ∧ RX6 ≠ "java/lang/invoke/MethodHandle" ∧ RX6 ≠ "java/lang/invoke/VarHandle" := ⟨by decide +kernel, tb (i := 64) (by decide +kernel) rfl, by decide +kernel, by decide +kernel⟩
theorem pn_X7 : plainName RX7 = true ∧ Cond.initialized RX7 ∈ TB ∧ RX7 ≠ "java/lang/invoke/MethodHandle" ∧ RX7 ≠ "java/lang/invoke/VarHandle" := ⟨by decide +kernel, tb (i := 61) (by decide +kernel) rfl, by decide +kernel, by decide +kernel⟩
theorem pn_X8 : plainName RX8 = true ∧ Cond.initialized RX8 ∈ TB ∧ RX8 ≠ "java/lang/invoke/MethodHandle" ∧ RX8 ≠ "java/lang/invoke/VarHandle" := ⟨by decide +kernel, tb (i := 63) (by decide +kernel) rfl, by decide +kernel, by decide +kernel⟩
theorem pn_X9 : plainName RX9 = true ∧ Cond.initialized RX9 ∈ TB ∧ RX9 ≠ "java/lang/invoke/MethodHandle" ∧ RX9 ≠ "java/lang/invoke/VarHandle" := ⟨by decide +kernel, tb (i := 66) (by decide +kernel) rfl, by decide +kernel, by decide +kernel⟩
theorem pn_X10 : plainName RX10 = true ∧ Cond.initialized RX10 ∈ TB ∧ RX10 ≠ "java/lang/invoke/MethodHandle" ∧ RX10 ≠ "java/lang/invoke/VarHandle" := ⟨by decide +kernel, tb (i := 60) (by decide +kernel) rfl, by decide +kernel, by decide +kernel⟩
theorem pn_X11 : plainName RX11 = true ∧ Cond.initialized RX11 ∈ TB ∧ RX11 ≠ "java/lang/invoke/MethodHandle" ∧ RX11 ≠ "java/lang/invoke/VarHandle" := ⟨by decide +kernel, tb (i := 70) (by decide +kernel) rfl, by decide +kernel, by decide +kernel⟩
theorem pn_J11 : plainName RJ11 = true ∧ Cond.initialized RJ11 ∈ TB ∧ RJ11 ≠ "java/lang/invoke/MethodHandle" ∧ RJ11 ≠ "java/lang/invoke/VarHandle" := ⟨by decide +kernel, tb (i := 76) (by decide +kernel) rfl, by decide +kernel, by decide +kernel⟩
theorem pn_J6 : plainName RJ6 = true ∧ Cond.initialized RJ6 ∈ TB ∧ RJ6 ≠ "java/lang/invoke/MethodHandle" ∧ RJ6 ≠ "java/lang/invoke/VarHandle" := ⟨by decide +kernel, tb (i := 79) (by decide +kernel) rfl, by decide +kernel, by decide +kernel⟩
theorem pn_J0 : plainName RJ0 = true ∧ Cond.initialized RJ0 ∈ TB ∧ RJ0 ≠ "java/lang/invoke/MethodHandle" ∧ RJ0 ≠ "java/lang/invoke/VarHandle" := ⟨by decide +kernel, tb (i := 72) (by decide +kernel) rfl, by decide +kernel, by decide +kernel⟩
theorem pn_J1 : plainName RJ1 = true ∧ Cond.initialized RJ1 ∈ TB ∧ RJ1 ≠ "java/lang/invoke/MethodHandle" ∧ RJ1 ≠ "java/lang/invoke/VarHandle" := ⟨by decide +kernel, tb (i := 73) (by decide +kernel) rfl, by decide +kernel, by decide +kernel⟩
theorem pn_J2 : plainName RJ2 = true ∧ Cond.initialized RJ2 ∈ TB ∧ RJ2 ≠ "java/lang/invoke/MethodHandle" ∧ RJ2 ≠ "java/lang/invoke/VarHandle" := ⟨by decide +kernel, tb (i := 74) (by decide +kernel) rfl, by decide +kernel, by decide +kernel⟩
theorem pn_J10 : plainName RJ10 = true ∧ Cond.initialized RJ10 ∈ TB ∧ RJ10 ≠ "java/lang/invoke/MethodHandle" ∧ RJ10 ≠ "java/lang/invoke/VarHandle" := ⟨by decide +kernel, tb (i := 77) (by decide +kernel) rfl, by decide +kernel, by decide +kernel⟩
theorem pn_J7 : plainName RJ7 = true ∧ Cond.initialized RJ7 ∈ TB ∧ RJ7 ≠ "java/lang/invoke/MethodHandle" ∧ RJ7 ≠ "java/lang/invoke/VarHandle" := ⟨by decide +kernel, tb (i := 78) (by decide +kernel) rfl, by decide +kernel, by decide +kernel⟩
theorem pn_J3 : plainName RJ3 = true ∧ Cond.initialized RJ3 ∈ TB ∧ RJ3 ≠ "java/lang/invoke/MethodHandle" ∧ RJ3 ≠ "java/lang/invoke/VarHandle" := ⟨by decide +kernel, tb (i := 75) (by decide +kernel) rfl, by decide +kernel, by decide +kernel⟩
abbrev mX0_areStones : mM := (RX0, cX0_areStones, 6, (some .boolean))
set_option maxRecDepth 100000 in
theorem i_X0_areStones : MI yX0_areStones mX0_areStones 3 := ⟨rfl, pn_X0.1, tcc5 (i := 1) rfl rfl, pn_X0.2.1, ⟨pn_X0.2.2.1, pn_X0.2.2.2, pd_0⟩, by decide⟩
theorem s_X0_areStones : Cond.static yX0_areStones ∈ TB := tb (i := 1022) (by decide +kernel) rfl
abbrev mX0_turning : mM := (RX0, cX0_turning, 9, (some .int))
set_option maxRecDepth 100000 in
theorem i_X0_turning : MI yX0_turning mX0_turning 6 := ⟨rfl, pn_X0.1, tcc5 (i := 2) rfl rfl, pn_X0.2.1, ⟨pn_X0.2.2.1, pn_X0.2.2.2, pd_1⟩, by decide⟩
theorem s_X0_turning : Cond.static yX0_turning ∈ TB := tb (i := 1029) (by decide +kernel) rfl
abbrev mX0_fewest : mM := (RX0, cX0_fewest, 7, (some .int))
set_option maxRecDepth 100000 in
theorem i_X0_fewest : MI yX0_fewest mX0_fewest 3 := ⟨rfl, pn_X0.1, tcc5 (i := 3) rfl rfl, pn_X0.2.1, ⟨pn_X0.2.2.1, pn_X0.2.2.2, pd_2⟩, by decide⟩
theorem s_X0_fewest : Cond.static yX0_fewest ∈ TB := tb (i := 1033) (by decide +kernel) rfl
abbrev mX0_stonesFor : mM := (RX0, cX0_stonesFor, 1, (some .int))
set_option maxRecDepth 100000 in
theorem i_X0_stonesFor : MI yX0_stonesFor mX0_stonesFor 1 := ⟨rfl, pn_X0.1, tcc5 (i := 4) rfl rfl, pn_X0.2.1, ⟨pn_X0.2.2.1, pn_X0.2.2.2, pd_3⟩, by decide⟩
theorem s_X0_stonesFor : Cond.static yX0_stonesFor ∈ TB := tb (i := 1036) (by decide +kernel) rfl
abbrev mX1_init : mM := (RX1, cX1_init, 1, none)
abbrev mX1_open : mM := (RX1, cX1_open, 4, none)
set_option maxRecDepth 100000 in
theorem i_X1_open : MI yX1_open mX1_open 3 := ⟨rfl, pn_X1.1, tcc5 (i := 6) rfl rfl, pn_X1.2.1, ⟨pn_X1.2.2.1, pn_X1.2.2.2, pd_5⟩, by decide⟩
theorem v_X1_open : Cond.instanceMethod yX1_open ∈ TB ∧ Cond.selects RX1 yX1_open yX1_open ∈ TB := ⟨tb (i := 1044) (by decide +kernel) rfl, tb (i := 1045) (by decide +kernel) rfl⟩
abbrev mX1_readItems : mM := (RX1, cX1_readItems, 6, (some .int))
set_option maxRecDepth 100000 in
theorem i_X1_readItems : MI yX1_readItems mX1_readItems 3 := ⟨rfl, pn_X1.1, tcc5 (i := 7) rfl rfl, pn_X1.2.1, ⟨pn_X1.2.2.1, pn_X1.2.2.2, pd_6⟩, by decide⟩
theorem v_X1_readItems : Cond.instanceMethod yX1_readItems ∈ TB ∧ Cond.selects RX1 yX1_readItems yX1_readItems ∈ TB := ⟨tb (i := 1049) (by decide +kernel) rfl, tb (i := 1050) (by decide +kernel) rfl⟩
abbrev mX1_fittingRows : mM := (RX1, cX1_fittingRows, 3, (some .int))
set_option maxRecDepth 100000 in
theorem i_X1_fittingRows : MI yX1_fittingRows mX1_fittingRows 0 := ⟨rfl, pn_X1.1, tcc5 (i := 9) rfl rfl, pn_X1.2.1, ⟨pn_X1.2.2.1, pn_X1.2.2.2, pd_7⟩, by decide⟩
theorem v_X1_fittingRows : Cond.instanceMethod yX1_fittingRows ∈ TB ∧ Cond.selects RX1 yX1_fittingRows yX1_fittingRows ∈ TB := ⟨tb (i := 1059) (by decide +kernel) rfl, tb (i := 1060) (by decide +kernel) rfl⟩
abbrev mX1_sureSeasons : mM := (RX1, cX1_sureSeasons, 3, (some .int))
set_option maxRecDepth 100000 in
theorem i_X1_sureSeasons : MI yX1_sureSeasons mX1_sureSeasons 0 := ⟨rfl, pn_X1.1, tcc5 (i := 10) rfl rfl, pn_X1.2.1, ⟨pn_X1.2.2.1, pn_X1.2.2.2, pd_7⟩, by decide⟩
theorem v_X1_sureSeasons : Cond.instanceMethod yX1_sureSeasons ∈ TB ∧ Cond.selects RX1 yX1_sureSeasons yX1_sureSeasons ∈ TB := ⟨tb (i := 1064) (by decide +kernel) rfl, tb (i := 1065) (by decide +kernel) rfl⟩
abbrev mX1_pullsFor : mM := (RX1, cX1_pullsFor, 5, (some .int))
set_option maxRecDepth 100000 in
theorem i_X1_pullsFor : MI yX1_pullsFor mX1_pullsFor 1 := ⟨rfl, pn_X1.1, tcc5 (i := 8) rfl rfl, pn_X1.2.1, ⟨pn_X1.2.2.1, pn_X1.2.2.2, pd_8⟩, by decide⟩
theorem v_X1_pullsFor : Cond.instanceMethod yX1_pullsFor ∈ TB ∧ Cond.selects RX1 yX1_pullsFor yX1_pullsFor ∈ TB := ⟨tb (i := 1055) (by decide +kernel) rfl, tb (i := 27) (by decide +kernel) rfl⟩
abbrev mX2_init : mM := (RX2, cX2_init, 3, none)
abbrev mX2_takeOf : mM := (RX2, cX2_takeOf, 5, (some .int))
set_option maxRecDepth 100000 in
theorem i_X2_takeOf : MI yX2_takeOf mX2_takeOf 2 := ⟨rfl, pn_X2.1, tcc4 (i := 26) rfl rfl, pn_X2.2.1, ⟨pn_X2.2.2.1, pn_X2.2.2.2, pd_10⟩, by decide⟩
theorem v_X2_takeOf : Cond.instanceMethod yX2_takeOf ∈ TB ∧ Cond.selects RX2 yX2_takeOf yX2_takeOf ∈ TB := ⟨tb (i := 896) (by decide +kernel) rfl, tb (i := 897) (by decide +kernel) rfl⟩
abbrev mX2_findRests : mM := (RX2, cX2_findRests, 5, none)
set_option maxRecDepth 100000 in
theorem i_X2_findRests : MI yX2_findRests mX2_findRests 3 := ⟨rfl, pn_X2.1, tcc4 (i := 28) rfl rfl, pn_X2.2.1, ⟨pn_X2.2.2.1, pn_X2.2.2.2, pd_5⟩, by decide⟩
theorem v_X2_findRests : Cond.instanceMethod yX2_findRests ∈ TB ∧ Cond.selects RX2 yX2_findRests yX2_findRests ∈ TB := ⟨tb (i := 906) (by decide +kernel) rfl, tb (i := 907) (by decide +kernel) rfl⟩
abbrev mX2_addTakes : mM := (RX2, cX2_addTakes, 7, none)
set_option maxRecDepth 100000 in
theorem i_X2_addTakes : MI yX2_addTakes mX2_addTakes 3 := ⟨rfl, pn_X2.1, tcc4 (i := 29) rfl rfl, pn_X2.2.1, ⟨pn_X2.2.2.1, pn_X2.2.2.2, pd_5⟩, by decide⟩
theorem v_X2_addTakes : Cond.instanceMethod yX2_addTakes ∈ TB ∧ Cond.selects RX2 yX2_addTakes yX2_addTakes ∈ TB := ⟨tb (i := 912) (by decide +kernel) rfl, tb (i := 23) (by decide +kernel) rfl⟩
abbrev mX2_most : mM := (RX2, cX2_most, 5, (some .int))
set_option maxRecDepth 100000 in
theorem i_X2_most : MI yX2_most mX2_most 3 := ⟨rfl, pn_X2.1, tcc4 (i := 30) rfl rfl, pn_X2.2.1, ⟨pn_X2.2.2.1, pn_X2.2.2.2, pd_11⟩, by decide⟩
theorem s_X2_most : Cond.static yX2_most ∈ TB := tb (i := 918) (by decide +kernel) rfl
abbrev mX3_init : mM := (RX3, cX3_init, 1, none)
abbrev mX3_weight : mM := (RX3, cX3_weight, 3, (some .int))
set_option maxRecDepth 100000 in
theorem i_X3_weight : MI yX3_weight mX3_weight 3 := ⟨rfl, pn_X3.1, tcc2 (i := 26) rfl rfl, pn_X3.2.1, ⟨pn_X3.2.2.1, pn_X3.2.2.2, pd_2⟩, by decide⟩
theorem s_X3_weight : Cond.static yX3_weight ∈ TB := tb (i := 536) (by decide +kernel) rfl
abbrev mX3_clear : mM := (RX3, cX3_clear, 1, none)
set_option maxRecDepth 100000 in
theorem i_X3_clear : MI yX3_clear mX3_clear 0 := ⟨rfl, pn_X3.1, tcc3 (i := 18) rfl rfl, pn_X3.2.1, ⟨pn_X3.2.2.1, pn_X3.2.2.2, pd_4⟩, by decide⟩
theorem v_X3_clear : Cond.instanceMethod yX3_clear ∈ TB ∧ Cond.selects RX3 yX3_clear yX3_clear ∈ TB := ⟨tb (i := 611) (by decide +kernel) rfl, tb (i := 612) (by decide +kernel) rfl⟩
abbrev mX3_hasParish : mM := (RX3, cX3_hasParish, 2, (some .boolean))
set_option maxRecDepth 100000 in
theorem i_X3_hasParish : MI yX3_hasParish mX3_hasParish 1 := ⟨rfl, pn_X3.1, tcc2 (i := 8) rfl rfl, pn_X3.2.1, ⟨pn_X3.2.2.1, pn_X3.2.2.2, pd_12⟩, by decide⟩
theorem v_X3_hasParish : Cond.instanceMethod yX3_hasParish ∈ TB ∧ Cond.selects RX3 yX3_hasParish yX3_hasParish ∈ TB := ⟨tb (i := 467) (by decide +kernel) rfl, tb (i := 468) (by decide +kernel) rfl⟩
abbrev mX3_hasRoad : mM := (RX3, cX3_hasRoad, 2, (some .boolean))
set_option maxRecDepth 100000 in
theorem i_X3_hasRoad : MI yX3_hasRoad mX3_hasRoad 1 := ⟨rfl, pn_X3.1, tcc2 (i := 15) rfl rfl, pn_X3.2.1, ⟨pn_X3.2.2.1, pn_X3.2.2.2, pd_12⟩, by decide⟩
theorem v_X3_hasRoad : Cond.instanceMethod yX3_hasRoad ∈ TB ∧ Cond.selects RX3 yX3_hasRoad yX3_hasRoad ∈ TB := ⟨tb (i := 493) (by decide +kernel) rfl, tb (i := 494) (by decide +kernel) rfl⟩
abbrev mX3_hasSet : mM := (RX3, cX3_hasSet, 2, (some .boolean))
set_option maxRecDepth 100000 in
theorem i_X3_hasSet : MI yX3_hasSet mX3_hasSet 1 := ⟨rfl, pn_X3.1, tcc4 (i := 32) rfl rfl, pn_X3.2.1, ⟨pn_X3.2.2.1, pn_X3.2.2.2, pd_12⟩, by decide⟩
theorem v_X3_hasSet : Cond.instanceMethod yX3_hasSet ∈ TB ∧ Cond.selects RX3 yX3_hasSet yX3_hasSet ∈ TB := ⟨tb (i := 926) (by decide +kernel) rfl, tb (i := 927) (by decide +kernel) rfl⟩
abbrev mX3_addParish : mM := (RX3, cX3_addParish, 4, (some .int))
set_option maxRecDepth 100000 in
theorem i_X3_addParish : MI yX3_addParish mX3_addParish 1 := ⟨rfl, pn_X3.1, tcc2 (i := 6) rfl rfl, pn_X3.2.1, ⟨pn_X3.2.2.1, pn_X3.2.2.2, pd_3⟩, by decide⟩
theorem v_X3_addParish : Cond.instanceMethod yX3_addParish ∈ TB ∧ Cond.selects RX3 yX3_addParish yX3_addParish ∈ TB := ⟨tb (i := 459) (by decide +kernel) rfl, tb (i := 460) (by decide +kernel) rfl⟩
abbrev mX3_addRoad : mM := (RX3, cX3_addRoad, 5, (some .int))
set_option maxRecDepth 100000 in
theorem i_X3_addRoad : MI yX3_addRoad mX3_addRoad 3 := ⟨rfl, pn_X3.1, tcc2 (i := 13) rfl rfl, pn_X3.2.1, ⟨pn_X3.2.2.1, pn_X3.2.2.2, pd_2⟩, by decide⟩
theorem v_X3_addRoad : Cond.instanceMethod yX3_addRoad ∈ TB ∧ Cond.selects RX3 yX3_addRoad yX3_addRoad ∈ TB := ⟨tb (i := 485) (by decide +kernel) rfl, tb (i := 486) (by decide +kernel) rfl⟩
abbrev mX3_joins : mM := (RX3, cX3_joins, 4, (some .boolean))
set_option maxRecDepth 100000 in
theorem i_X3_joins : MI yX3_joins mX3_joins 2 := ⟨rfl, pn_X3.1, tcc2 (i := 10) rfl rfl, pn_X3.2.1, ⟨pn_X3.2.2.1, pn_X3.2.2.2, pd_13⟩, by decide⟩
theorem v_X3_joins : Cond.instanceMethod yX3_joins ∈ TB ∧ Cond.selects RX3 yX3_joins yX3_joins ∈ TB := ⟨tb (i := 475) (by decide +kernel) rfl, tb (i := 476) (by decide +kernel) rfl⟩
abbrev mX3_roadsAt : mM := (RX3, cX3_roadsAt, 4, (some .int))
set_option maxRecDepth 100000 in
theorem i_X3_roadsAt : MI yX3_roadsAt mX3_roadsAt 1 := ⟨rfl, pn_X3.1, tcc3 (i := 3) rfl rfl, pn_X3.2.1, ⟨pn_X3.2.2.1, pn_X3.2.2.2, pd_3⟩, by decide⟩
theorem v_X3_roadsAt : Cond.instanceMethod yX3_roadsAt ∈ TB ∧ Cond.selects RX3 yX3_roadsAt yX3_roadsAt ∈ TB := ⟨tb (i := 551) (by decide +kernel) rfl, tb (i := 552) (by decide +kernel) rfl⟩
abbrev mX3_otherEnd : mM := (RX3, cX3_otherEnd, 3, (some .int))
set_option maxRecDepth 100000 in
theorem i_X3_otherEnd : MI yX3_otherEnd mX3_otherEnd 2 := ⟨rfl, pn_X3.1, tcc3 (i := 4) rfl rfl, pn_X3.2.1, ⟨pn_X3.2.2.1, pn_X3.2.2.2, pd_10⟩, by decide⟩
theorem v_X3_otherEnd : Cond.instanceMethod yX3_otherEnd ∈ TB ∧ Cond.selects RX3 yX3_otherEnd yX3_otherEnd ∈ TB := ⟨tb (i := 555) (by decide +kernel) rfl, tb (i := 556) (by decide +kernel) rfl⟩
abbrev mX3_copyFrom : mM := (RX3, cX3_copyFrom, 2, none)
set_option maxRecDepth 100000 in
theorem i_X3_copyFrom : MI yX3_copyFrom mX3_copyFrom 1 := ⟨rfl, pn_X3.1, tcc3 (i := 48) rfl rfl, pn_X3.2.1, ⟨pn_X3.2.2.1, pn_X3.2.2.2, pd_14⟩, by decide⟩
theorem v_X3_copyFrom : Cond.instanceMethod yX3_copyFrom ∈ TB ∧ Cond.selects RX3 yX3_copyFrom yX3_copyFrom ∈ TB := ⟨tb (i := 737) (by decide +kernel) rfl, tb (i := 738) (by decide +kernel) rfl⟩
abbrev mX4_init : mM := (RX4, cX4_init, 3, none)
abbrev mX4_worth : mM := (RX4, cX4_worth, 4, (some .int))
set_option maxRecDepth 100000 in
theorem i_X4_worth : MI yX4_worth mX4_worth 2 := ⟨rfl, pn_X4.1, tcc4 (i := 33) rfl rfl, pn_X4.2.1, ⟨pn_X4.2.2.1, pn_X4.2.2.2, pd_10⟩, by decide⟩
theorem v_X4_worth : Cond.instanceMethod yX4_worth ∈ TB ∧ Cond.selects RX4 yX4_worth yX4_worth ∈ TB := ⟨tb (i := 930) (by decide +kernel) rfl, tb (i := 931) (by decide +kernel) rfl⟩
abbrev mX4_findPart : mM := (RX4, cX4_findPart, 10, none)
set_option maxRecDepth 100000 in
theorem i_X4_findPart : MI yX4_findPart mX4_findPart 3 := ⟨rfl, pn_X4.1, tcc4 (i := 37) rfl rfl, pn_X4.2.1, ⟨pn_X4.2.2.1, pn_X4.2.2.2, pd_5⟩, by decide⟩
theorem v_X4_findPart : Cond.instanceMethod yX4_findPart ∈ TB ∧ Cond.selects RX4 yX4_findPart yX4_findPart ∈ TB := ⟨tb (i := 950) (by decide +kernel) rfl, tb (i := 951) (by decide +kernel) rfl⟩
abbrev mX4_findTotals : mM := (RX4, cX4_findTotals, 5, none)
set_option maxRecDepth 100000 in
theorem i_X4_findTotals : MI yX4_findTotals mX4_findTotals 2 := ⟨rfl, pn_X4.1, tcc4 (i := 38) rfl rfl, pn_X4.2.1, ⟨pn_X4.2.2.1, pn_X4.2.2.2, pd_15⟩, by decide⟩
theorem v_X4_findTotals : Cond.instanceMethod yX4_findTotals ∈ TB ∧ Cond.selects RX4 yX4_findTotals yX4_findTotals ∈ TB := ⟨tb (i := 955) (by decide +kernel) rfl, tb (i := 26) (by decide +kernel) rfl⟩
abbrev mX4_addTotal : mM := (RX4, cX4_addTotal, 3, none)
set_option maxRecDepth 100000 in
theorem i_X4_addTotal : MI yX4_addTotal mX4_addTotal 2 := ⟨rfl, pn_X4.1, tcc4 (i := 34) rfl rfl, pn_X4.2.1, ⟨pn_X4.2.2.1, pn_X4.2.2.2, pd_15⟩, by decide⟩
theorem v_X4_addTotal : Cond.instanceMethod yX4_addTotal ∈ TB ∧ Cond.selects RX4 yX4_addTotal yX4_addTotal ∈ TB := ⟨tb (i := 937) (by decide +kernel) rfl, tb (i := 24) (by decide +kernel) rfl⟩
abbrev mX4_commonDivisor : mM := (RX4, cX4_commonDivisor, 11, (some .long))
set_option maxRecDepth 100000 in
theorem i_X4_commonDivisor : MI yX4_commonDivisor mX4_commonDivisor 2 := ⟨rfl, pn_X4.1, tcc4 (i := 39) rfl rfl, pn_X4.2.1, ⟨pn_X4.2.2.1, pn_X4.2.2.2, pd_16⟩, by decide⟩
theorem s_X4_commonDivisor : Cond.static yX4_commonDivisor ∈ TB := tb (i := 962) (by decide +kernel) rfl
abbrev mX5_init : mM := (RX5, cX5_init, 2, none)
abbrev mX5_harness : mM := (RX5, cX5_harness, 6, none)
set_option maxRecDepth 100000 in
theorem i_X5_harness : MI yX5_harness mX5_harness 1 := ⟨rfl, pn_X5.1, tcc3 (i := 55) rfl rfl, pn_X5.2.1, ⟨pn_X5.2.2.1, pn_X5.2.2.2, pd_18⟩, by decide⟩
theorem v_X5_harness : Cond.instanceMethod yX5_harness ∈ TB ∧ Cond.selects RX5 yX5_harness yX5_harness ∈ TB := ⟨tb (i := 772) (by decide +kernel) rfl, tb (i := 773) (by decide +kernel) rfl⟩
abbrev mX5_weigh : mM := (RX5, cX5_weigh, 3, none)
set_option maxRecDepth 100000 in
theorem i_X5_weigh : MI yX5_weigh mX5_weigh 1 := ⟨rfl, pn_X5.1, tcc4 (i := 0) rfl rfl, pn_X5.2.1, ⟨pn_X5.2.2.1, pn_X5.2.2.2, pd_18⟩, by decide⟩
theorem v_X5_weigh : Cond.instanceMethod yX5_weigh ∈ TB ∧ Cond.selects RX5 yX5_weigh yX5_weigh ∈ TB := ⟨tb (i := 779) (by decide +kernel) rfl, tb (i := 780) (by decide +kernel) rfl⟩
abbrev mX5_spread : mM := (RX5, cX5_spread, 4, none)
set_option maxRecDepth 100000 in
theorem i_X5_spread : MI yX5_spread mX5_spread 1 := ⟨rfl, pn_X5.1, tcc4 (i := 3) rfl rfl, pn_X5.2.1, ⟨pn_X5.2.2.1, pn_X5.2.2.2, pd_18⟩, by decide⟩
theorem v_X5_spread : Cond.instanceMethod yX5_spread ∈ TB ∧ Cond.selects RX5 yX5_spread yX5_spread ∈ TB := ⟨tb (i := 792) (by decide +kernel) rfl, tb (i := 793) (by decide +kernel) rfl⟩
abbrev mX5_bestPlace : mM := (RX5, cX5_bestPlace, 8, (some .int))
set_option maxRecDepth 100000 in
theorem i_X5_bestPlace : MI yX5_bestPlace mX5_bestPlace 2 := ⟨rfl, pn_X5.1, tcc4 (i := 14) rfl rfl, pn_X5.2.1, ⟨pn_X5.2.2.1, pn_X5.2.2.2, pd_10⟩, by decide⟩
theorem v_X5_bestPlace : Cond.instanceMethod yX5_bestPlace ∈ TB ∧ Cond.selects RX5 yX5_bestPlace yX5_bestPlace ∈ TB := ⟨tb (i := 843) (by decide +kernel) rfl, tb (i := 844) (by decide +kernel) rfl⟩
abbrev mX5_marketOf : mM := (RX5, cX5_marketOf, 2, (some .int))
set_option maxRecDepth 100000 in
theorem i_X5_marketOf : MI yX5_marketOf mX5_marketOf 1 := ⟨rfl, pn_X5.1, tcc4 (i := 13) rfl rfl, pn_X5.2.1, ⟨pn_X5.2.2.1, pn_X5.2.2.2, pd_3⟩, by decide⟩
theorem v_X5_marketOf : Cond.instanceMethod yX5_marketOf ∈ TB ∧ Cond.selects RX5 yX5_marketOf yX5_marketOf ∈ TB := ⟨tb (i := 838) (by decide +kernel) rfl, tb (i := 839) (by decide +kernel) rfl⟩
abbrev mX5_start : mM := (RX5, cX5_start, 3, none)
set_option maxRecDepth 100000 in
theorem i_X5_start : MI yX5_start mX5_start 1 := ⟨rfl, pn_X5.1, tcc4 (i := 4) rfl rfl, pn_X5.2.1, ⟨pn_X5.2.2.1, pn_X5.2.2.2, pd_18⟩, by decide⟩
theorem v_X5_start : Cond.instanceMethod yX5_start ∈ TB ∧ Cond.selects RX5 yX5_start yX5_start ∈ TB := ⟨tb (i := 797) (by decide +kernel) rfl, tb (i := 12) (by decide +kernel) rfl⟩
abbrev mX5_heaviestOpen : mM := (RX5, cX5_heaviestOpen, 3, (some .int))
set_option maxRecDepth 100000 in
theorem i_X5_heaviestOpen : MI yX5_heaviestOpen mX5_heaviestOpen 0 := ⟨rfl, pn_X5.1, tcc4 (i := 15) rfl rfl, pn_X5.2.1, ⟨pn_X5.2.2.1, pn_X5.2.2.2, pd_7⟩, by decide⟩
theorem v_X5_heaviestOpen : Cond.instanceMethod yX5_heaviestOpen ∈ TB ∧ Cond.selects RX5 yX5_heaviestOpen yX5_heaviestOpen ∈ TB := ⟨tb (i := 848) (by decide +kernel) rfl, tb (i := 19) (by decide +kernel) rfl⟩
abbrev mX5_nearest : mM := (RX5, cX5_nearest, 4, (some .int))
set_option maxRecDepth 100000 in
theorem i_X5_nearest : MI yX5_nearest mX5_nearest 0 := ⟨rfl, pn_X5.1, tcc4 (i := 5) rfl rfl, pn_X5.2.1, ⟨pn_X5.2.2.1, pn_X5.2.2.2, pd_7⟩, by decide⟩
theorem v_X5_nearest : Cond.instanceMethod yX5_nearest ∈ TB ∧ Cond.selects RX5 yX5_nearest yX5_nearest ∈ TB := ⟨tb (i := 802) (by decide +kernel) rfl, tb (i := 13) (by decide +kernel) rfl⟩
abbrev mX5_leave : mM := (RX5, cX5_leave, 4, none)
set_option maxRecDepth 100000 in
theorem i_X5_leave : MI yX5_leave mX5_leave 1 := ⟨rfl, pn_X5.1, tcc4 (i := 6) rfl rfl, pn_X5.2.1, ⟨pn_X5.2.2.1, pn_X5.2.2.2, pd_18⟩, by decide⟩
theorem v_X5_leave : Cond.instanceMethod yX5_leave ∈ TB ∧ Cond.selects RX5 yX5_leave yX5_leave ∈ TB := ⟨tb (i := 806) (by decide +kernel) rfl, tb (i := 14) (by decide +kernel) rfl⟩
abbrev mX5_roadCost : mM := (RX5, cX5_roadCost, 4, (some .int))
set_option maxRecDepth 100000 in
theorem i_X5_roadCost : MI yX5_roadCost mX5_roadCost 2 := ⟨rfl, pn_X5.1, tcc4 (i := 7) rfl rfl, pn_X5.2.1, ⟨pn_X5.2.2.1, pn_X5.2.2.2, pd_10⟩, by decide⟩
theorem v_X5_roadCost : Cond.instanceMethod yX5_roadCost ∈ TB ∧ Cond.selects RX5 yX5_roadCost yX5_roadCost ∈ TB := ⟨tb (i := 810) (by decide +kernel) rfl, tb (i := 15) (by decide +kernel) rfl⟩
abbrev mX5_leads : mM := (RX5, cX5_leads, 3, (some .boolean))
set_option maxRecDepth 100000 in
theorem i_X5_leads : MI yX5_leads mX5_leads 2 := ⟨rfl, pn_X5.1, tcc4 (i := 19) rfl rfl, pn_X5.2.1, ⟨pn_X5.2.2.1, pn_X5.2.2.2, pd_13⟩, by decide⟩
theorem v_X5_leads : Cond.instanceMethod yX5_leads ∈ TB ∧ Cond.selects RX5 yX5_leads yX5_leads ∈ TB := ⟨tb (i := 866) (by decide +kernel) rfl, tb (i := 867) (by decide +kernel) rfl⟩
abbrev mX5_spreadAll : mM := (RX5, cX5_spreadAll, 2, none)
set_option maxRecDepth 100000 in
theorem i_X5_spreadAll : MI yX5_spreadAll mX5_spreadAll 0 := ⟨rfl, pn_X5.1, tcc4 (i := 2) rfl rfl, pn_X5.2.1, ⟨pn_X5.2.2.1, pn_X5.2.2.2, pd_4⟩, by decide⟩
theorem v_X5_spreadAll : Cond.instanceMethod yX5_spreadAll ∈ TB ∧ Cond.selects RX5 yX5_spreadAll yX5_spreadAll ∈ TB := ⟨tb (i := 788) (by decide +kernel) rfl, tb (i := 789) (by decide +kernel) rfl⟩
abbrev mX5_trace : mM := (RX5, cX5_trace, 6, (some .boolean))
set_option maxRecDepth 100000 in
theorem i_X5_trace : MI yX5_trace mX5_trace 2 := ⟨rfl, pn_X5.1, tcc4 (i := 1) rfl rfl, pn_X5.2.1, ⟨pn_X5.2.2.1, pn_X5.2.2.2, pd_13⟩, by decide⟩
theorem v_X5_trace : Cond.instanceMethod yX5_trace ∈ TB ∧ Cond.selects RX5 yX5_trace yX5_trace ∈ TB := ⟨tb (i := 784) (by decide +kernel) rfl, tb (i := 785) (by decide +kernel) rfl⟩
abbrev mX5_findNext : mM := (RX5, cX5_findNext, 5, none)
set_option maxRecDepth 100000 in
theorem i_X5_findNext : MI yX5_findNext mX5_findNext 1 := ⟨rfl, pn_X5.1, tcc4 (i := 8) rfl rfl, pn_X5.2.1, ⟨pn_X5.2.2.1, pn_X5.2.2.2, pd_18⟩, by decide⟩
theorem v_X5_findNext : Cond.instanceMethod yX5_findNext ∈ TB ∧ Cond.selects RX5 yX5_findNext yX5_findNext ∈ TB := ⟨tb (i := 815) (by decide +kernel) rfl, tb (i := 16) (by decide +kernel) rfl⟩
abbrev mX5_firstStep : mM := (RX5, cX5_firstStep, 6, (some .int))
set_option maxRecDepth 100000 in
theorem i_X5_firstStep : MI yX5_firstStep mX5_firstStep 3 := ⟨rfl, pn_X5.1, tcc4 (i := 9) rfl rfl, pn_X5.2.1, ⟨pn_X5.2.2.1, pn_X5.2.2.2, pd_2⟩, by decide⟩
theorem v_X5_firstStep : Cond.instanceMethod yX5_firstStep ∈ TB ∧ Cond.selects RX5 yX5_firstStep yX5_firstStep ∈ TB := ⟨tb (i := 819) (by decide +kernel) rfl, tb (i := 17) (by decide +kernel) rfl⟩
abbrev mX5_reaches : mM := (RX5, cX5_reaches, 7, (some .boolean))
set_option maxRecDepth 100000 in
theorem i_X5_reaches : MI yX5_reaches mX5_reaches 3 := ⟨rfl, pn_X5.1, tcc4 (i := 10) rfl rfl, pn_X5.2.1, ⟨pn_X5.2.2.1, pn_X5.2.2.2, pd_19⟩, by decide⟩
theorem v_X5_reaches : Cond.instanceMethod yX5_reaches ∈ TB ∧ Cond.selects RX5 yX5_reaches yX5_reaches ∈ TB := ⟨tb (i := 823) (by decide +kernel) rfl, tb (i := 18) (by decide +kernel) rfl⟩
abbrev mX6_init : mM := (RX6, cX6_init, 1, none)
abbrev mX6_isSheet : mM := (RX6, cX6_isSheet, 1, (some .boolean))
set_option maxRecDepth 100000 in
theorem i_X6_isSheet : MI yX6_isSheet mX6_isSheet 1 := ⟨rfl, pn_X6.1, tcc4 (i := 50) rfl rfl, pn_X6.2.1, ⟨pn_X6.2.2.1, pn_X6.2.2.2, pd_12⟩, by decide⟩
theorem s_X6_isSheet : Cond.static yX6_isSheet ∈ TB := tb (i := 1006) (by decide +kernel) rfl
abbrev mX6_isLane : mM := (RX6, cX6_isLane, 2, (some .boolean))
set_option maxRecDepth 100000 in
theorem i_X6_isLane : MI yX6_isLane mX6_isLane 2 := ⟨rfl, pn_X6.1, tcc4 (i := 49) rfl rfl, pn_X6.2.1, ⟨pn_X6.2.2.1, pn_X6.2.2.2, pd_13⟩, by decide⟩
theorem s_X6_isLane : Cond.static yX6_isLane ∈ TB := tb (i := 1003) (by decide +kernel) rfl
abbrev mX6_isMissing : mM := (RX6, cX6_isMissing, 2, (some .boolean))
set_option maxRecDepth 100000 in
theorem i_X6_isMissing : MI yX6_isMissing mX6_isMissing 1 := ⟨rfl, pn_X6.1, tcc4 (i := 52) rfl rfl, pn_X6.2.1, ⟨pn_X6.2.2.1, pn_X6.2.2.2, pd_12⟩, by decide⟩
theorem v_X6_isMissing : Cond.instanceMethod yX6_isMissing ∈ TB ∧ Cond.selects RX6 yX6_isMissing yX6_isMissing ∈ TB := ⟨tb (i := 1013) (by decide +kernel) rfl, tb (i := 1014) (by decide +kernel) rfl⟩
abbrev mX6_fault : mM := (RX6, cX6_fault, 5, (some .int))
set_option maxRecDepth 100000 in
theorem i_X6_fault : MI yX6_fault mX6_fault 4 := ⟨rfl, pn_X6.1, tcc4 (i := 51) rfl rfl, pn_X6.2.1, ⟨pn_X6.2.2.1, pn_X6.2.2.2, pd_20⟩, by decide⟩
theorem v_X6_fault : Cond.instanceMethod yX6_fault ∈ TB ∧ Cond.selects RX6 yX6_fault yX6_fault ∈ TB := ⟨tb (i := 1009) (by decide +kernel) rfl, tb (i := 1010) (by decide +kernel) rfl⟩
abbrev mX6_holds : mM := (RX6, cX6_holds, 4, (some .boolean))
set_option maxRecDepth 100000 in
theorem i_X6_holds : MI yX6_holds mX6_holds 3 := ⟨rfl, pn_X6.1, tcc5 (i := 0) rfl rfl, pn_X6.2.1, ⟨pn_X6.2.2.1, pn_X6.2.2.2, pd_19⟩, by decide⟩
theorem v_X6_holds : Cond.instanceMethod yX6_holds ∈ TB ∧ Cond.selects RX6 yX6_holds yX6_holds ∈ TB := ⟨tb (i := 1017) (by decide +kernel) rfl, tb (i := 1018) (by decide +kernel) rfl⟩
abbrev mX6_renew : mM := (RX6, cX6_renew, 4, none)
set_option maxRecDepth 100000 in
theorem i_X6_renew : MI yX6_renew mX6_renew 3 := ⟨rfl, pn_X6.1, tcc5 (i := 15) rfl rfl, pn_X6.2.1, ⟨pn_X6.2.2.1, pn_X6.2.2.2, pd_5⟩, by decide⟩
theorem v_X6_renew : Cond.instanceMethod yX6_renew ∈ TB ∧ Cond.selects RX6 yX6_renew yX6_renew ∈ TB := ⟨tb (i := 1085) (by decide +kernel) rfl, tb (i := 1086) (by decide +kernel) rfl⟩
abbrev mX6_empty : mM := (RX6, cX6_empty, 2, (some .int))
set_option maxRecDepth 100000 in
theorem i_X6_empty : MI yX6_empty mX6_empty 1 := ⟨rfl, pn_X6.1, tcc5 (i := 18) rfl rfl, pn_X6.2.1, ⟨pn_X6.2.2.1, pn_X6.2.2.2, pd_3⟩, by decide⟩
theorem v_X6_empty : Cond.instanceMethod yX6_empty ∈ TB ∧ Cond.selects RX6 yX6_empty yX6_empty ∈ TB := ⟨tb (i := 1098) (by decide +kernel) rfl, tb (i := 1099) (by decide +kernel) rfl⟩
abbrev mX6_put : mM := (RX6, cX6_put, 5, none)
set_option maxRecDepth 100000 in
theorem i_X6_put : MI yX6_put mX6_put 3 := ⟨rfl, pn_X6.1, tcc5 (i := 13) rfl rfl, pn_X6.2.1, ⟨pn_X6.2.2.1, pn_X6.2.2.2, pd_21⟩, by decide⟩
theorem v_X6_put : Cond.instanceMethod yX6_put ∈ TB ∧ Cond.selects RX6 yX6_put yX6_put ∈ TB := ⟨tb (i := 1077) (by decide +kernel) rfl, tb (i := 1078) (by decide +kernel) rfl⟩
abbrev mX7_init : mM := (RX7, cX7_init, 1, none)
abbrev mX7_seasonOf : mM := (RX7, cX7_seasonOf, 1, (some .int))
set_option maxRecDepth 100000 in
theorem i_X7_seasonOf : MI yX7_seasonOf mX7_seasonOf 1 := ⟨rfl, pn_X7.1, tcc2 (i := 25) rfl rfl, pn_X7.2.1, ⟨pn_X7.2.2.1, pn_X7.2.2.2, pd_3⟩, by decide⟩
theorem s_X7_seasonOf : Cond.static yX7_seasonOf ∈ TB := tb (i := 533) (by decide +kernel) rfl
abbrev mX7_season : mM := (RX7, cX7_season, 1, (some .int))
set_option maxRecDepth 100000 in
theorem i_X7_season : MI yX7_season mX7_season 0 := ⟨rfl, pn_X7.1, tcc2 (i := 24) rfl rfl, pn_X7.2.1, ⟨pn_X7.2.2.1, pn_X7.2.2.2, pd_7⟩, by decide⟩
theorem v_X7_season : Cond.instanceMethod yX7_season ∈ TB ∧ Cond.selects RX7 yX7_season yX7_season ∈ TB := ⟨tb (i := 529) (by decide +kernel) rfl, tb (i := 530) (by decide +kernel) rfl⟩
abbrev mX7_weightAt : mM := (RX7, cX7_weightAt, 3, (some .int))
set_option maxRecDepth 100000 in
theorem i_X7_weightAt : MI yX7_weightAt mX7_weightAt 2 := ⟨rfl, pn_X7.1, tcc2 (i := 23) rfl rfl, pn_X7.2.1, ⟨pn_X7.2.2.1, pn_X7.2.2.2, pd_10⟩, by decide⟩
theorem v_X7_weightAt : Cond.instanceMethod yX7_weightAt ∈ TB ∧ Cond.selects RX7 yX7_weightAt yX7_weightAt ∈ TB := ⟨tb (i := 525) (by decide +kernel) rfl, tb (i := 526) (by decide +kernel) rfl⟩
abbrev mX7_weightOfGood : mM := (RX7, cX7_weightOfGood, 2, (some .int))
set_option maxRecDepth 100000 in
theorem i_X7_weightOfGood : MI yX7_weightOfGood mX7_weightOfGood 1 := ⟨rfl, pn_X7.1, tcc2 (i := 22) rfl rfl, pn_X7.2.1, ⟨pn_X7.2.2.1, pn_X7.2.2.2, pd_3⟩, by decide⟩
theorem v_X7_weightOfGood : Cond.instanceMethod yX7_weightOfGood ∈ TB ∧ Cond.selects RX7 yX7_weightOfGood yX7_weightOfGood ∈ TB := ⟨tb (i := 521) (by decide +kernel) rfl, tb (i := 522) (by decide +kernel) rfl⟩
abbrev mX7_hasCart : mM := (RX7, cX7_hasCart, 2, (some .boolean))
set_option maxRecDepth 100000 in
theorem i_X7_hasCart : MI yX7_hasCart mX7_hasCart 1 := ⟨rfl, pn_X7.1, tcc3 (i := 9) rfl rfl, pn_X7.2.1, ⟨pn_X7.2.2.1, pn_X7.2.2.2, pd_12⟩, by decide⟩
theorem v_X7_hasCart : Cond.instanceMethod yX7_hasCart ∈ TB ∧ Cond.selects RX7 yX7_hasCart yX7_hasCart ∈ TB := ⟨tb (i := 574) (by decide +kernel) rfl, tb (i := 575) (by decide +kernel) rfl⟩
abbrev mX7_hasGood : mM := (RX7, cX7_hasGood, 2, (some .boolean))
set_option maxRecDepth 100000 in
theorem i_X7_hasGood : MI yX7_hasGood mX7_hasGood 1 := ⟨rfl, pn_X7.1, tcc2 (i := 21) rfl rfl, pn_X7.2.1, ⟨pn_X7.2.2.1, pn_X7.2.2.2, pd_12⟩, by decide⟩
theorem v_X7_hasGood : Cond.instanceMethod yX7_hasGood ∈ TB ∧ Cond.selects RX7 yX7_hasGood yX7_hasGood ∈ TB := ⟨tb (i := 517) (by decide +kernel) rfl, tb (i := 518) (by decide +kernel) rfl⟩
abbrev mX7_addCart : mM := (RX7, cX7_addCart, 3, (some .int))
set_option maxRecDepth 100000 in
theorem i_X7_addCart : MI yX7_addCart mX7_addCart 2 := ⟨rfl, pn_X7.1, tcc2 (i := 17) rfl rfl, pn_X7.2.1, ⟨pn_X7.2.2.1, pn_X7.2.2.2, pd_10⟩, by decide⟩
theorem v_X7_addCart : Cond.instanceMethod yX7_addCart ∈ TB ∧ Cond.selects RX7 yX7_addCart yX7_addCart ∈ TB := ⟨tb (i := 501) (by decide +kernel) rfl, tb (i := 502) (by decide +kernel) rfl⟩
abbrev mX7_addGood : mM := (RX7, cX7_addGood, 4, (some .int))
set_option maxRecDepth 100000 in
theorem i_X7_addGood : MI yX7_addGood mX7_addGood 3 := ⟨rfl, pn_X7.1, tcc2 (i := 19) rfl rfl, pn_X7.2.1, ⟨pn_X7.2.2.1, pn_X7.2.2.2, pd_2⟩, by decide⟩
theorem v_X7_addGood : Cond.instanceMethod yX7_addGood ∈ TB ∧ Cond.selects RX7 yX7_addGood yX7_addGood ∈ TB := ⟨tb (i := 509) (by decide +kernel) rfl, tb (i := 510) (by decide +kernel) rfl⟩
abbrev mX7_addPerson : mM := (RX7, cX7_addPerson, 3, (some .int))
set_option maxRecDepth 100000 in
theorem i_X7_addPerson : MI yX7_addPerson mX7_addPerson 2 := ⟨rfl, pn_X7.1, tcc3 (i := 1) rfl rfl, pn_X7.2.1, ⟨pn_X7.2.2.1, pn_X7.2.2.2, pd_10⟩, by decide⟩
theorem v_X7_addPerson : Cond.instanceMethod yX7_addPerson ∈ TB ∧ Cond.selects RX7 yX7_addPerson yX7_addPerson ∈ TB := ⟨tb (i := 543) (by decide +kernel) rfl, tb (i := 544) (by decide +kernel) rfl⟩
abbrev mX7_hanging : mM := (RX7, cX7_hanging, 3, (some .int))
set_option maxRecDepth 100000 in
theorem i_X7_hanging : MI yX7_hanging mX7_hanging 0 := ⟨rfl, pn_X7.1, tcc3 (i := 50) rfl rfl, pn_X7.2.1, ⟨pn_X7.2.2.1, pn_X7.2.2.2, pd_7⟩, by decide⟩
theorem v_X7_hanging : Cond.instanceMethod yX7_hanging ∈ TB ∧ Cond.selects RX7 yX7_hanging yX7_hanging ∈ TB := ⟨tb (i := 750) (by decide +kernel) rfl, tb (i := 751) (by decide +kernel) rfl⟩
abbrev mX7_passWeek : mM := (RX7, cX7_passWeek, 4, (some .int))
set_option maxRecDepth 100000 in
theorem i_X7_passWeek : MI yX7_passWeek mX7_passWeek 0 := ⟨rfl, pn_X7.1, tcc3 (i := 52) rfl rfl, pn_X7.2.1, ⟨pn_X7.2.2.1, pn_X7.2.2.2, pd_7⟩, by decide⟩
theorem v_X7_passWeek : Cond.instanceMethod yX7_passWeek ∈ TB ∧ Cond.selects RX7 yX7_passWeek yX7_passWeek ∈ TB := ⟨tb (i := 758) (by decide +kernel) rfl, tb (i := 759) (by decide +kernel) rfl⟩
abbrev mX7_lighterParish : mM := (RX7, cX7_lighterParish, 8, (some .int))
set_option maxRecDepth 100000 in
theorem i_X7_lighterParish : MI yX7_lighterParish mX7_lighterParish 1 := ⟨rfl, pn_X7.1, tcc3 (i := 53) rfl rfl, pn_X7.2.1, ⟨pn_X7.2.2.1, pn_X7.2.2.2, pd_3⟩, by decide⟩
theorem v_X7_lighterParish : Cond.instanceMethod yX7_lighterParish ∈ TB ∧ Cond.selects RX7 yX7_lighterParish yX7_lighterParish ∈ TB := ⟨tb (i := 763) (by decide +kernel) rfl, tb (i := 11) (by decide +kernel) rfl⟩
abbrev mX7_wouldFall : mM := (RX7, cX7_wouldFall, 5, (some .int))
set_option maxRecDepth 100000 in
theorem i_X7_wouldFall : MI yX7_wouldFall mX7_wouldFall 2 := ⟨rfl, pn_X7.1, tcc4 (i := 42) rfl rfl, pn_X7.2.1, ⟨pn_X7.2.2.1, pn_X7.2.2.2, pd_10⟩, by decide⟩
theorem v_X7_wouldFall : Cond.instanceMethod yX7_wouldFall ∈ TB ∧ Cond.selects RX7 yX7_wouldFall yX7_wouldFall ∈ TB := ⟨tb (i := 974) (by decide +kernel) rfl, tb (i := 975) (by decide +kernel) rfl⟩
abbrev mX7_wouldBeLighter : mM := (RX7, cX7_wouldBeLighter, 6, (some .int))
set_option maxRecDepth 100000 in
theorem i_X7_wouldBeLighter : MI yX7_wouldBeLighter mX7_wouldBeLighter 2 := ⟨rfl, pn_X7.1, tcc4 (i := 43) rfl rfl, pn_X7.2.1, ⟨pn_X7.2.2.1, pn_X7.2.2.2, pd_10⟩, by decide⟩
theorem v_X7_wouldBeLighter : Cond.instanceMethod yX7_wouldBeLighter ∈ TB ∧ Cond.selects RX7 yX7_wouldBeLighter yX7_wouldBeLighter ∈ TB := ⟨tb (i := 978) (by decide +kernel) rfl, tb (i := 979) (by decide +kernel) rfl⟩
abbrev mX7_settle : mM := (RX7, cX7_settle, 2, none)
set_option maxRecDepth 100000 in
theorem i_X7_settle : MI yX7_settle mX7_settle 1 := ⟨rfl, pn_X7.1, tcc3 (i := 47) rfl rfl, pn_X7.2.1, ⟨pn_X7.2.2.1, pn_X7.2.2.2, pd_14⟩, by decide⟩
theorem v_X7_settle : Cond.instanceMethod yX7_settle ∈ TB ∧ Cond.selects RX7 yX7_settle yX7_settle ∈ TB := ⟨tb (i := 733) (by decide +kernel) rfl, tb (i := 734) (by decide +kernel) rfl⟩
abbrev mX7_copyFrom : mM := (RX7, cX7_copyFrom, 2, none)
set_option maxRecDepth 100000 in
theorem i_X7_copyFrom : MI yX7_copyFrom mX7_copyFrom 1 := ⟨rfl, pn_X7.1, tcc4 (i := 46) rfl rfl, pn_X7.2.1, ⟨pn_X7.2.2.1, pn_X7.2.2.2, pd_17⟩, by decide⟩
theorem v_X7_copyFrom : Cond.instanceMethod yX7_copyFrom ∈ TB ∧ Cond.selects RX7 yX7_copyFrom yX7_copyFrom ∈ TB := ⟨tb (i := 990) (by decide +kernel) rfl, tb (i := 991) (by decide +kernel) rfl⟩
abbrev mX8_init : mM := (RX8, cX8_init, 1, none)
abbrev mX8_isFull : mM := (RX8, cX8_isFull, 1, (some .boolean))
set_option maxRecDepth 100000 in
theorem i_X8_isFull : MI yX8_isFull mX8_isFull 0 := ⟨rfl, pn_X8.1, tcc3 (i := 14) rfl rfl, pn_X8.2.1, ⟨pn_X8.2.2.1, pn_X8.2.2.2, pd_22⟩, by decide⟩
theorem v_X8_isFull : Cond.instanceMethod yX8_isFull ∈ TB ∧ Cond.selects RX8 yX8_isFull yX8_isFull ∈ TB := ⟨tb (i := 595) (by decide +kernel) rfl, tb (i := 596) (by decide +kernel) rfl⟩
abbrev mX8_add : mM := (RX8, cX8_add, 2, (some .int))
set_option maxRecDepth 100000 in
theorem i_X8_add : MI yX8_add mX8_add 1 := ⟨rfl, pn_X8.1, tcc3 (i := 15) rfl rfl, pn_X8.2.1, ⟨pn_X8.2.2.1, pn_X8.2.2.2, pd_3⟩, by decide⟩
theorem v_X8_add : Cond.instanceMethod yX8_add ∈ TB ∧ Cond.selects RX8 yX8_add yX8_add ∈ TB := ⟨tb (i := 599) (by decide +kernel) rfl, tb (i := 600) (by decide +kernel) rfl⟩
abbrev mX8_clear : mM := (RX8, cX8_clear, 1, none)
set_option maxRecDepth 100000 in
theorem i_X8_clear : MI yX8_clear mX8_clear 0 := ⟨rfl, pn_X8.1, tcc3 (i := 46) rfl rfl, pn_X8.2.1, ⟨pn_X8.2.2.1, pn_X8.2.2.2, pd_4⟩, by decide⟩
theorem v_X8_clear : Cond.instanceMethod yX8_clear ∈ TB ∧ Cond.selects RX8 yX8_clear yX8_clear ∈ TB := ⟨tb (i := 729) (by decide +kernel) rfl, tb (i := 730) (by decide +kernel) rfl⟩
abbrev mX8_read : mM := (RX8, cX8_read, 1, (some .boolean))
set_option maxRecDepth 100000 in
theorem i_X8_read : MI yX8_read mX8_read 0 := ⟨rfl, pn_X8.1, tcc3 (i := 17) rfl rfl, pn_X8.2.1, ⟨pn_X8.2.2.1, pn_X8.2.2.2, pd_22⟩, by decide⟩
theorem v_X8_read : Cond.instanceMethod yX8_read ∈ TB ∧ Cond.selects RX8 yX8_read yX8_read ∈ TB := ⟨tb (i := 607) (by decide +kernel) rfl, tb (i := 608) (by decide +kernel) rfl⟩
abbrev mX8_readParishes : mM := (RX8, cX8_readParishes, 2, (some .boolean))
set_option maxRecDepth 100000 in
theorem i_X8_readParishes : MI yX8_readParishes mX8_readParishes 0 := ⟨rfl, pn_X8.1, tcc3 (i := 19) rfl rfl, pn_X8.2.1, ⟨pn_X8.2.2.1, pn_X8.2.2.2, pd_22⟩, by decide⟩
theorem v_X8_readParishes : Cond.instanceMethod yX8_readParishes ∈ TB ∧ Cond.selects RX8 yX8_readParishes yX8_readParishes ∈ TB := ⟨tb (i := 616) (by decide +kernel) rfl, tb (i := 4) (by decide +kernel) rfl⟩
abbrev mX8_readParish : mM := (RX8, cX8_readParish, 5, (some .boolean))
set_option maxRecDepth 100000 in
theorem i_X8_readParish : MI yX8_readParish mX8_readParish 0 := ⟨rfl, pn_X8.1, tcc3 (i := 20) rfl rfl, pn_X8.2.1, ⟨pn_X8.2.2.1, pn_X8.2.2.2, pd_22⟩, by decide⟩
theorem v_X8_readParish : Cond.instanceMethod yX8_readParish ∈ TB ∧ Cond.selects RX8 yX8_readParish yX8_readParish ∈ TB := ⟨tb (i := 620) (by decide +kernel) rfl, tb (i := 5) (by decide +kernel) rfl⟩
abbrev mX8_readRoads : mM := (RX8, cX8_readRoads, 2, (some .boolean))
set_option maxRecDepth 100000 in
theorem i_X8_readRoads : MI yX8_readRoads mX8_readRoads 0 := ⟨rfl, pn_X8.1, tcc3 (i := 44) rfl rfl, pn_X8.2.1, ⟨pn_X8.2.2.1, pn_X8.2.2.2, pd_22⟩, by decide⟩
theorem v_X8_readRoads : Cond.instanceMethod yX8_readRoads ∈ TB ∧ Cond.selects RX8 yX8_readRoads yX8_readRoads ∈ TB := ⟨tb (i := 720) (by decide +kernel) rfl, tb (i := 9) (by decide +kernel) rfl⟩
abbrev mX8_readRoad : mM := (RX8, cX8_readRoad, 4, (some .boolean))
set_option maxRecDepth 100000 in
theorem i_X8_readRoad : MI yX8_readRoad mX8_readRoad 0 := ⟨rfl, pn_X8.1, tcc3 (i := 45) rfl rfl, pn_X8.2.1, ⟨pn_X8.2.2.1, pn_X8.2.2.2, pd_22⟩, by decide⟩
theorem v_X8_readRoad : Cond.instanceMethod yX8_readRoad ∈ TB ∧ Cond.selects RX8 yX8_readRoad yX8_readRoad ∈ TB := ⟨tb (i := 724) (by decide +kernel) rfl, tb (i := 10) (by decide +kernel) rfl⟩
abbrev mX8_skipBlanks : mM := (RX8, cX8_skipBlanks, 1, none)
set_option maxRecDepth 100000 in
theorem i_X8_skipBlanks : MI yX8_skipBlanks mX8_skipBlanks 0 := ⟨rfl, pn_X8.1, tcc3 (i := 21) rfl rfl, pn_X8.2.1, ⟨pn_X8.2.2.1, pn_X8.2.2.2, pd_4⟩, by decide⟩
theorem v_X8_skipBlanks : Cond.instanceMethod yX8_skipBlanks ∈ TB ∧ Cond.selects RX8 yX8_skipBlanks yX8_skipBlanks ∈ TB := ⟨tb (i := 624) (by decide +kernel) rfl, tb (i := 6) (by decide +kernel) rfl⟩
abbrev mX8_takes : mM := (RX8, cX8_takes, 2, (some .boolean))
set_option maxRecDepth 100000 in
theorem i_X8_takes : MI yX8_takes mX8_takes 1 := ⟨rfl, pn_X8.1, tcc3 (i := 43) rfl rfl, pn_X8.2.1, ⟨pn_X8.2.2.1, pn_X8.2.2.2, pd_23⟩, by decide⟩
theorem v_X8_takes : Cond.instanceMethod yX8_takes ∈ TB ∧ Cond.selects RX8 yX8_takes yX8_takes ∈ TB := ⟨tb (i := 716) (by decide +kernel) rfl, tb (i := 8) (by decide +kernel) rfl⟩
abbrev mX8_digit : mM := (RX8, cX8_digit, 4, (some .int))
set_option maxRecDepth 100000 in
theorem i_X8_digit : MI yX8_digit mX8_digit 2 := ⟨rfl, pn_X8.1, tcc3 (i := 42) rfl rfl, pn_X8.2.1, ⟨pn_X8.2.2.1, pn_X8.2.2.2, pd_10⟩, by decide⟩
theorem v_X8_digit : Cond.instanceMethod yX8_digit ∈ TB ∧ Cond.selects RX8 yX8_digit yX8_digit ∈ TB := ⟨tb (i := 712) (by decide +kernel) rfl, tb (i := 7) (by decide +kernel) rfl⟩
abbrev mX9_init : mM := (RX9, cX9_init, 3, none)
abbrev mX9_best : mM := (RX9, cX9_best, 7, (some .int))
set_option maxRecDepth 100000 in
theorem i_X9_best : MI yX9_best mX9_best 2 := ⟨rfl, pn_X9.1, tcc4 (i := 17) rfl rfl, pn_X9.2.1, ⟨pn_X9.2.2.1, pn_X9.2.2.2, pd_10⟩, by decide⟩
theorem v_X9_best : Cond.instanceMethod yX9_best ∈ TB ∧ Cond.selects RX9 yX9_best yX9_best ∈ TB := ⟨tb (i := 855) (by decide +kernel) rfl, tb (i := 856) (by decide +kernel) rfl⟩
abbrev mX9_law : mM := (RX9, cX9_law, 6, (some .int))
set_option maxRecDepth 100000 in
theorem i_X9_law : MI yX9_law mX9_law 2 := ⟨rfl, pn_X9.1, tcc4 (i := 21) rfl rfl, pn_X9.2.1, ⟨pn_X9.2.2.1, pn_X9.2.2.2, pd_10⟩, by decide⟩
theorem v_X9_law : Cond.instanceMethod yX9_law ∈ TB ∧ Cond.selects RX9 yX9_law yX9_law ∈ TB := ⟨tb (i := 874) (by decide +kernel) rfl, tb (i := 875) (by decide +kernel) rfl⟩
abbrev mX9_findValues : mM := (RX9, cX9_findValues, 4, none)
set_option maxRecDepth 100000 in
theorem i_X9_findValues : MI yX9_findValues mX9_findValues 2 := ⟨rfl, pn_X9.1, tcc4 (i := 18) rfl rfl, pn_X9.2.1, ⟨pn_X9.2.2.1, pn_X9.2.2.2, pd_15⟩, by decide⟩
theorem v_X9_findValues : Cond.instanceMethod yX9_findValues ∈ TB ∧ Cond.selects RX9 yX9_findValues yX9_findValues ∈ TB := ⟨tb (i := 860) (by decide +kernel) rfl, tb (i := 20) (by decide +kernel) rfl⟩
abbrev mX9_findGains : mM := (RX9, cX9_findGains, 5, none)
set_option maxRecDepth 100000 in
theorem i_X9_findGains : MI yX9_findGains mX9_findGains 1 := ⟨rfl, pn_X9.1, tcc4 (i := 22) rfl rfl, pn_X9.2.1, ⟨pn_X9.2.2.1, pn_X9.2.2.2, pd_18⟩, by decide⟩
theorem v_X9_findGains : Cond.instanceMethod yX9_findGains ∈ TB ∧ Cond.selects RX9 yX9_findGains yX9_findGains ∈ TB := ⟨tb (i := 879) (by decide +kernel) rfl, tb (i := 21) (by decide +kernel) rfl⟩
abbrev mX9_endsGains : mM := (RX9, cX9_endsGains, 4, (some .boolean))
set_option maxRecDepth 100000 in
theorem i_X9_endsGains : MI yX9_endsGains mX9_endsGains 1 := ⟨rfl, pn_X9.1, tcc4 (i := 24) rfl rfl, pn_X9.2.1, ⟨pn_X9.2.2.1, pn_X9.2.2.2, pd_12⟩, by decide⟩
theorem v_X9_endsGains : Cond.instanceMethod yX9_endsGains ∈ TB ∧ Cond.selects RX9 yX9_endsGains yX9_endsGains ∈ TB := ⟨tb (i := 889) (by decide +kernel) rfl, tb (i := 22) (by decide +kernel) rfl⟩
abbrev mX10_init : mM := (RX10, cX10_init, 1, none)
abbrev mX10_parish : mM := (RX10, cX10_parish, 2, (some .int))
set_option maxRecDepth 100000 in
theorem i_X10_parish : MI yX10_parish mX10_parish 1 := ⟨rfl, pn_X10.1, tcc2 (i := 4) rfl rfl, pn_X10.2.1, ⟨pn_X10.2.2.1, pn_X10.2.2.2, pd_3⟩, by decide⟩
theorem v_X10_parish : Cond.instanceMethod yX10_parish ∈ TB ∧ Cond.selects RX10 yX10_parish yX10_parish ∈ TB := ⟨tb (i := 452) (by decide +kernel) rfl, tb (i := 453) (by decide +kernel) rfl⟩
abbrev mX10_pull : mM := (RX10, cX10_pull, 5, (some .int))
set_option maxRecDepth 100000 in
theorem i_X10_pull : MI yX10_pull mX10_pull 3 := ⟨rfl, pn_X10.1, tcc2 (i := 7) rfl rfl, pn_X10.2.1, ⟨pn_X10.2.2.1, pn_X10.2.2.2, pd_2⟩, by decide⟩
theorem v_X10_pull : Cond.instanceMethod yX10_pull ∈ TB ∧ Cond.selects RX10 yX10_pull yX10_pull ∈ TB := ⟨tb (i := 463) (by decide +kernel) rfl, tb (i := 464) (by decide +kernel) rfl⟩
abbrev mX10_road : mM := (RX10, cX10_road, 4, (some .int))
set_option maxRecDepth 100000 in
theorem i_X10_road : MI yX10_road mX10_road 3 := ⟨rfl, pn_X10.1, tcc2 (i := 9) rfl rfl, pn_X10.2.1, ⟨pn_X10.2.2.1, pn_X10.2.2.2, pd_2⟩, by decide⟩
theorem v_X10_road : Cond.instanceMethod yX10_road ∈ TB ∧ Cond.selects RX10 yX10_road yX10_road ∈ TB := ⟨tb (i := 471) (by decide +kernel) rfl, tb (i := 472) (by decide +kernel) rfl⟩
abbrev mX10_toll : mM := (RX10, cX10_toll, 4, (some .int))
set_option maxRecDepth 100000 in
theorem i_X10_toll : MI yX10_toll mX10_toll 2 := ⟨rfl, pn_X10.1, tcc2 (i := 14) rfl rfl, pn_X10.2.1, ⟨pn_X10.2.2.1, pn_X10.2.2.2, pd_10⟩, by decide⟩
theorem v_X10_toll : Cond.instanceMethod yX10_toll ∈ TB ∧ Cond.selects RX10 yX10_toll yX10_toll ∈ TB := ⟨tb (i := 489) (by decide +kernel) rfl, tb (i := 490) (by decide +kernel) rfl⟩
abbrev mX10_cart : mM := (RX10, cX10_cart, 3, (some .int))
set_option maxRecDepth 100000 in
theorem i_X10_cart : MI yX10_cart mX10_cart 2 := ⟨rfl, pn_X10.1, tcc2 (i := 16) rfl rfl, pn_X10.2.1, ⟨pn_X10.2.2.1, pn_X10.2.2.2, pd_10⟩, by decide⟩
theorem v_X10_cart : Cond.instanceMethod yX10_cart ∈ TB ∧ Cond.selects RX10 yX10_cart yX10_cart ∈ TB := ⟨tb (i := 497) (by decide +kernel) rfl, tb (i := 498) (by decide +kernel) rfl⟩
abbrev mX10_good : mM := (RX10, cX10_good, 4, (some .int))
set_option maxRecDepth 100000 in
theorem i_X10_good : MI yX10_good mX10_good 3 := ⟨rfl, pn_X10.1, tcc2 (i := 18) rfl rfl, pn_X10.2.1, ⟨pn_X10.2.2.1, pn_X10.2.2.2, pd_2⟩, by decide⟩
theorem v_X10_good : Cond.instanceMethod yX10_good ∈ TB ∧ Cond.selects RX10 yX10_good yX10_good ∈ TB := ⟨tb (i := 505) (by decide +kernel) rfl, tb (i := 506) (by decide +kernel) rfl⟩
abbrev mX10_hang : mM := (RX10, cX10_hang, 4, (some .int))
set_option maxRecDepth 100000 in
theorem i_X10_hang : MI yX10_hang mX10_hang 2 := ⟨rfl, pn_X10.1, tcc2 (i := 20) rfl rfl, pn_X10.2.1, ⟨pn_X10.2.2.1, pn_X10.2.2.2, pd_10⟩, by decide⟩
theorem v_X10_hang : Cond.instanceMethod yX10_hang ∈ TB ∧ Cond.selects RX10 yX10_hang yX10_hang ∈ TB := ⟨tb (i := 513) (by decide +kernel) rfl, tb (i := 514) (by decide +kernel) rfl⟩
abbrev mX10_person : mM := (RX10, cX10_person, 3, (some .int))
set_option maxRecDepth 100000 in
theorem i_X10_person : MI yX10_person mX10_person 2 := ⟨rfl, pn_X10.1, tcc3 (i := 0) rfl rfl, pn_X10.2.1, ⟨pn_X10.2.2.1, pn_X10.2.2.2, pd_10⟩, by decide⟩
theorem v_X10_person : Cond.instanceMethod yX10_person ∈ TB ∧ Cond.selects RX10 yX10_person yX10_person ∈ TB := ⟨tb (i := 539) (by decide +kernel) rfl, tb (i := 540) (by decide +kernel) rfl⟩
abbrev mX10_of : mM := (RX10, cX10_of, 3, (some .int))
set_option maxRecDepth 100000 in
theorem i_X10_of : MI yX10_of mX10_of 2 := ⟨rfl, pn_X10.1, tcc3 (i := 2) rfl rfl, pn_X10.2.1, ⟨pn_X10.2.2.1, pn_X10.2.2.2, pd_10⟩, by decide⟩
theorem v_X10_of : Cond.instanceMethod yX10_of ∈ TB ∧ Cond.selects RX10 yX10_of yX10_of ∈ TB := ⟨tb (i := 547) (by decide +kernel) rfl, tb (i := 548) (by decide +kernel) rfl⟩
abbrev mX10_told : mM := (RX10, cX10_told, 3, (some .int))
set_option maxRecDepth 100000 in
theorem i_X10_told : MI yX10_told mX10_told 2 := ⟨rfl, pn_X10.1, tcc3 (i := 6) rfl rfl, pn_X10.2.1, ⟨pn_X10.2.2.1, pn_X10.2.2.2, pd_10⟩, by decide⟩
theorem v_X10_told : Cond.instanceMethod yX10_told ∈ TB ∧ Cond.selects RX10 yX10_told yX10_told ∈ TB := ⟨tb (i := 562) (by decide +kernel) rfl, tb (i := 563) (by decide +kernel) rfl⟩
abbrev mX10_weighs : mM := (RX10, cX10_weighs, 3, (some .int))
set_option maxRecDepth 100000 in
theorem i_X10_weighs : MI yX10_weighs mX10_weighs 2 := ⟨rfl, pn_X10.1, tcc3 (i := 12) rfl rfl, pn_X10.2.1, ⟨pn_X10.2.2.1, pn_X10.2.2.2, pd_10⟩, by decide⟩
theorem v_X10_weighs : Cond.instanceMethod yX10_weighs ∈ TB ∧ Cond.selects RX10 yX10_weighs yX10_weighs ∈ TB := ⟨tb (i := 586) (by decide +kernel) rfl, tb (i := 587) (by decide +kernel) rfl⟩
abbrev mX10_type : mM := (RX10, cX10_type, 2, (some .int))
set_option maxRecDepth 100000 in
theorem i_X10_type : MI yX10_type mX10_type 1 := ⟨rfl, pn_X10.1, tcc3 (i := 13) rfl rfl, pn_X10.2.1, ⟨pn_X10.2.2.1, pn_X10.2.2.2, pd_3⟩, by decide⟩
theorem v_X10_type : Cond.instanceMethod yX10_type ∈ TB ∧ Cond.selects RX10 yX10_type yX10_type ∈ TB := ⟨tb (i := 591) (by decide +kernel) rfl, tb (i := 592) (by decide +kernel) rfl⟩
abbrev mX10_land : mM := (RX10, cX10_land, 3, (some .int))
set_option maxRecDepth 100000 in
theorem i_X10_land : MI yX10_land mX10_land 0 := ⟨rfl, pn_X10.1, tcc3 (i := 16) rfl rfl, pn_X10.2.1, ⟨pn_X10.2.2.1, pn_X10.2.2.2, pd_7⟩, by decide⟩
theorem v_X10_land : Cond.instanceMethod yX10_land ∈ TB ∧ Cond.selects RX10 yX10_land yX10_land ∈ TB := ⟨tb (i := 603) (by decide +kernel) rfl, tb (i := 604) (by decide +kernel) rfl⟩
abbrev mX10_count : mM := (RX10, cX10_count, 2, (some .int))
set_option maxRecDepth 100000 in
theorem i_X10_count : MI yX10_count mX10_count 1 := ⟨rfl, pn_X10.1, tcc3 (i := 49) rfl rfl, pn_X10.2.1, ⟨pn_X10.2.2.1, pn_X10.2.2.2, pd_3⟩, by decide⟩
theorem v_X10_count : Cond.instanceMethod yX10_count ∈ TB ∧ Cond.selects RX10 yX10_count yX10_count ∈ TB := ⟨tb (i := 745) (by decide +kernel) rfl, tb (i := 746) (by decide +kernel) rfl⟩
abbrev mX10_weeks : mM := (RX10, cX10_weeks, 4, (some .int))
set_option maxRecDepth 100000 in
theorem i_X10_weeks : MI yX10_weeks mX10_weeks 1 := ⟨rfl, pn_X10.1, tcc3 (i := 51) rfl rfl, pn_X10.2.1, ⟨pn_X10.2.2.1, pn_X10.2.2.2, pd_3⟩, by decide⟩
theorem v_X10_weeks : Cond.instanceMethod yX10_weeks ∈ TB ∧ Cond.selects RX10 yX10_weeks yX10_weeks ∈ TB := ⟨tb (i := 754) (by decide +kernel) rfl, tb (i := 755) (by decide +kernel) rfl⟩
abbrev mX10_way : mM := (RX10, cX10_way, 6, (some .int))
set_option maxRecDepth 100000 in
theorem i_X10_way : MI yX10_way mX10_way 5 := ⟨rfl, pn_X10.1, tcc3 (i := 54) rfl rfl, pn_X10.2.1, ⟨pn_X10.2.2.1, pn_X10.2.2.2, pd_24⟩, by decide⟩
theorem v_X10_way : Cond.instanceMethod yX10_way ∈ TB ∧ Cond.selects RX10 yX10_way yX10_way ∈ TB := ⟨tb (i := 768) (by decide +kernel) rfl, tb (i := 769) (by decide +kernel) rfl⟩
abbrev mX10_net : mM := (RX10, cX10_net, 4, (some .int))
set_option maxRecDepth 100000 in
theorem i_X10_net : MI yX10_net mX10_net 3 := ⟨rfl, pn_X10.1, tcc4 (i := 11) rfl rfl, pn_X10.2.1, ⟨pn_X10.2.2.1, pn_X10.2.2.2, pd_2⟩, by decide⟩
theorem v_X10_net : Cond.instanceMethod yX10_net ∈ TB ∧ Cond.selects RX10 yX10_net yX10_net ∈ TB := ⟨tb (i := 826) (by decide +kernel) rfl, tb (i := 827) (by decide +kernel) rfl⟩
abbrev mX10_market : mM := (RX10, cX10_market, 4, (some .int))
set_option maxRecDepth 100000 in
theorem i_X10_market : MI yX10_market mX10_market 2 := ⟨rfl, pn_X10.1, tcc4 (i := 12) rfl rfl, pn_X10.2.1, ⟨pn_X10.2.2.1, pn_X10.2.2.2, pd_10⟩, by decide⟩
theorem v_X10_market : Cond.instanceMethod yX10_market ∈ TB ∧ Cond.selects RX10 yX10_market yX10_market ∈ TB := ⟨tb (i := 834) (by decide +kernel) rfl, tb (i := 835) (by decide +kernel) rfl⟩
abbrev mX10_trade : mM := (RX10, cX10_trade, 5, (some .int))
set_option maxRecDepth 100000 in
theorem i_X10_trade : MI yX10_trade mX10_trade 3 := ⟨rfl, pn_X10.1, tcc4 (i := 16) rfl rfl, pn_X10.2.1, ⟨pn_X10.2.2.1, pn_X10.2.2.2, pd_2⟩, by decide⟩
theorem v_X10_trade : Cond.instanceMethod yX10_trade ∈ TB ∧ Cond.selects RX10 yX10_trade yX10_trade ∈ TB := ⟨tb (i := 851) (by decide +kernel) rfl, tb (i := 852) (by decide +kernel) rfl⟩
abbrev mX10_scales : mM := (RX10, cX10_scales, 3, (some .int))
set_option maxRecDepth 100000 in
theorem i_X10_scales : MI yX10_scales mX10_scales 2 := ⟨rfl, pn_X10.1, tcc4 (i := 20) rfl rfl, pn_X10.2.1, ⟨pn_X10.2.2.1, pn_X10.2.2.2, pd_10⟩, by decide⟩
theorem v_X10_scales : Cond.instanceMethod yX10_scales ∈ TB ∧ Cond.selects RX10 yX10_scales yX10_scales ∈ TB := ⟨tb (i := 870) (by decide +kernel) rfl, tb (i := 871) (by decide +kernel) rfl⟩
abbrev mX10_take : mM := (RX10, cX10_take, 3, (some .int))
set_option maxRecDepth 100000 in
theorem i_X10_take : MI yX10_take mX10_take 2 := ⟨rfl, pn_X10.1, tcc4 (i := 25) rfl rfl, pn_X10.2.1, ⟨pn_X10.2.2.1, pn_X10.2.2.2, pd_10⟩, by decide⟩
theorem v_X10_take : Cond.instanceMethod yX10_take ∈ TB ∧ Cond.selects RX10 yX10_take yX10_take ∈ TB := ⟨tb (i := 892) (by decide +kernel) rfl, tb (i := 893) (by decide +kernel) rfl⟩
abbrev mX10_councils : mM := (RX10, cX10_councils, 5, (some .int))
set_option maxRecDepth 100000 in
theorem i_X10_councils : MI yX10_councils mX10_councils 4 := ⟨rfl, pn_X10.1, tcc4 (i := 27) rfl rfl, pn_X10.2.1, ⟨pn_X10.2.2.1, pn_X10.2.2.2, pd_20⟩, by decide⟩
theorem v_X10_councils : Cond.instanceMethod yX10_councils ∈ TB ∧ Cond.selects RX10 yX10_councils yX10_councils ∈ TB := ⟨tb (i := 902) (by decide +kernel) rfl, tb (i := 903) (by decide +kernel) rfl⟩
abbrev mX10_league : mM := (RX10, cX10_league, 3, (some .int))
set_option maxRecDepth 100000 in
theorem i_X10_league : MI yX10_league mX10_league 2 := ⟨rfl, pn_X10.1, tcc4 (i := 31) rfl rfl, pn_X10.2.1, ⟨pn_X10.2.2.1, pn_X10.2.2.2, pd_10⟩, by decide⟩
theorem v_X10_league : Cond.instanceMethod yX10_league ∈ TB ∧ Cond.selects RX10 yX10_league yX10_league ∈ TB := ⟨tb (i := 922) (by decide +kernel) rfl, tb (i := 923) (by decide +kernel) rfl⟩
abbrev mX10_upper : mM := (RX10, cX10_upper, 4, (some .long))
set_option maxRecDepth 100000 in
theorem i_X10_upper : MI yX10_upper mX10_upper 3 := ⟨rfl, pn_X10.1, tcc4 (i := 35) rfl rfl, pn_X10.2.1, ⟨pn_X10.2.2.1, pn_X10.2.2.2, pd_25⟩, by decide⟩
theorem v_X10_upper : Cond.instanceMethod yX10_upper ∈ TB ∧ Cond.selects RX10 yX10_upper yX10_upper ∈ TB := ⟨tb (i := 941) (by decide +kernel) rfl, tb (i := 942) (by decide +kernel) rfl⟩
abbrev mX10_lower : mM := (RX10, cX10_lower, 4, (some .long))
set_option maxRecDepth 100000 in
theorem i_X10_lower : MI yX10_lower mX10_lower 3 := ⟨rfl, pn_X10.1, tcc4 (i := 40) rfl rfl, pn_X10.2.1, ⟨pn_X10.2.2.1, pn_X10.2.2.2, pd_25⟩, by decide⟩
theorem v_X10_lower : Cond.instanceMethod yX10_lower ∈ TB ∧ Cond.selects RX10 yX10_lower yX10_lower ∈ TB := ⟨tb (i := 965) (by decide +kernel) rfl, tb (i := 966) (by decide +kernel) rfl⟩
abbrev mX10_change : mM := (RX10, cX10_change, 4, (some .int))
set_option maxRecDepth 100000 in
theorem i_X10_change : MI yX10_change mX10_change 3 := ⟨rfl, pn_X10.1, tcc4 (i := 41) rfl rfl, pn_X10.2.1, ⟨pn_X10.2.2.1, pn_X10.2.2.2, pd_2⟩, by decide⟩
theorem v_X10_change : Cond.instanceMethod yX10_change ∈ TB ∧ Cond.selects RX10 yX10_change yX10_change ∈ TB := ⟨tb (i := 970) (by decide +kernel) rfl, tb (i := 971) (by decide +kernel) rfl⟩
abbrev mX10_well : mM := (RX10, cX10_well, 3, (some .int))
set_option maxRecDepth 100000 in
theorem i_X10_well : MI yX10_well mX10_well 2 := ⟨rfl, pn_X10.1, tcc4 (i := 44) rfl rfl, pn_X10.2.1, ⟨pn_X10.2.2.1, pn_X10.2.2.2, pd_10⟩, by decide⟩
theorem v_X10_well : Cond.instanceMethod yX10_well ∈ TB ∧ Cond.selects RX10 yX10_well yX10_well ∈ TB := ⟨tb (i := 982) (by decide +kernel) rfl, tb (i := 983) (by decide +kernel) rfl⟩
abbrev mX10_image : mM := (RX10, cX10_image, 1, (some .int))
set_option maxRecDepth 100000 in
theorem i_X10_image : MI yX10_image mX10_image 0 := ⟨rfl, pn_X10.1, tcc4 (i := 45) rfl rfl, pn_X10.2.1, ⟨pn_X10.2.2.1, pn_X10.2.2.2, pd_7⟩, by decide⟩
theorem v_X10_image : Cond.instanceMethod yX10_image ∈ TB ∧ Cond.selects RX10 yX10_image yX10_image ∈ TB := ⟨tb (i := 986) (by decide +kernel) rfl, tb (i := 987) (by decide +kernel) rfl⟩
abbrev mX10_restore : mM := (RX10, cX10_restore, 1, (some .int))
set_option maxRecDepth 100000 in
theorem i_X10_restore : MI yX10_restore mX10_restore 0 := ⟨rfl, pn_X10.1, tcc4 (i := 47) rfl rfl, pn_X10.2.1, ⟨pn_X10.2.2.1, pn_X10.2.2.2, pd_7⟩, by decide⟩
theorem v_X10_restore : Cond.instanceMethod yX10_restore ∈ TB ∧ Cond.selects RX10 yX10_restore yX10_restore ∈ TB := ⟨tb (i := 995) (by decide +kernel) rfl, tb (i := 996) (by decide +kernel) rfl⟩
abbrev mX10_beam : mM := (RX10, cX10_beam, 12, (some .int))
set_option maxRecDepth 100000 in
theorem i_X10_beam : MI yX10_beam mX10_beam 7 := ⟨rfl, pn_X10.1, tcc4 (i := 48) rfl rfl, pn_X10.2.1, ⟨pn_X10.2.2.1, pn_X10.2.2.2, pd_26⟩, by decide⟩
theorem v_X10_beam : Cond.instanceMethod yX10_beam ∈ TB ∧ Cond.selects RX10 yX10_beam yX10_beam ∈ TB := ⟨tb (i := 999) (by decide +kernel) rfl, tb (i := 1000) (by decide +kernel) rfl⟩
abbrev mX10_book : mM := (RX10, cX10_book, 11, (some .int))
set_option maxRecDepth 100000 in
theorem i_X10_book : MI yX10_book mX10_book 8 := ⟨rfl, pn_X10.1, tcc5 (i := 5) rfl rfl, pn_X10.2.1, ⟨pn_X10.2.2.1, pn_X10.2.2.2, pd_27⟩, by decide⟩
theorem v_X10_book : Cond.instanceMethod yX10_book ∈ TB ∧ Cond.selects RX10 yX10_book yX10_book ∈ TB := ⟨tb (i := 1040) (by decide +kernel) rfl, tb (i := 1041) (by decide +kernel) rfl⟩
abbrev mX10_mills : mM := (RX10, cX10_mills, 11, (some .int))
set_option maxRecDepth 100000 in
theorem i_X10_mills : MI yX10_mills mX10_mills 4 := ⟨rfl, pn_X10.1, tcc5 (i := 11) rfl rfl, pn_X10.2.1, ⟨pn_X10.2.2.1, pn_X10.2.2.2, pd_20⟩, by decide⟩
theorem v_X10_mills : Cond.instanceMethod yX10_mills ∈ TB ∧ Cond.selects RX10 yX10_mills yX10_mills ∈ TB := ⟨tb (i := 1068) (by decide +kernel) rfl, tb (i := 1069) (by decide +kernel) rfl⟩
abbrev mX10_film : mM := (RX10, cX10_film, 6, (some .int))
set_option maxRecDepth 100000 in
theorem i_X10_film : MI yX10_film mX10_film 3 := ⟨rfl, pn_X10.1, tcc5 (i := 12) rfl rfl, pn_X10.2.1, ⟨pn_X10.2.2.1, pn_X10.2.2.2, pd_2⟩, by decide⟩
theorem v_X10_film : Cond.instanceMethod yX10_film ∈ TB ∧ Cond.selects RX10 yX10_film yX10_film ∈ TB := ⟨tb (i := 1073) (by decide +kernel) rfl, tb (i := 1074) (by decide +kernel) rfl⟩
abbrev mX10_sheet : mM := (RX10, cX10_sheet, 4, (some .int))
set_option maxRecDepth 100000 in
theorem i_X10_sheet : MI yX10_sheet mX10_sheet 3 := ⟨rfl, pn_X10.1, tcc5 (i := 14) rfl rfl, pn_X10.2.1, ⟨pn_X10.2.2.1, pn_X10.2.2.2, pd_2⟩, by decide⟩
theorem v_X10_sheet : Cond.instanceMethod yX10_sheet ∈ TB ∧ Cond.selects RX10 yX10_sheet yX10_sheet ∈ TB := ⟨tb (i := 1081) (by decide +kernel) rfl, tb (i := 1082) (by decide +kernel) rfl⟩
abbrev mX10_drop : mM := (RX10, cX10_drop, 2, (some .int))
set_option maxRecDepth 100000 in
theorem i_X10_drop : MI yX10_drop mX10_drop 1 := ⟨rfl, pn_X10.1, tcc5 (i := 17) rfl rfl, pn_X10.2.1, ⟨pn_X10.2.2.1, pn_X10.2.2.2, pd_3⟩, by decide⟩
theorem v_X10_drop : Cond.instanceMethod yX10_drop ∈ TB ∧ Cond.selects RX10 yX10_drop yX10_drop ∈ TB := ⟨tb (i := 1092) (by decide +kernel) rfl, tb (i := 1093) (by decide +kernel) rfl⟩
abbrev mX10_item : mM := (RX10, cX10_item, 7, (some .int))
set_option maxRecDepth 100000 in
theorem i_X10_item : MI yX10_item mX10_item 4 := ⟨rfl, pn_X10.1, tcc5 (i := 19) rfl rfl, pn_X10.2.1, ⟨pn_X10.2.2.1, pn_X10.2.2.2, pd_28⟩, by decide⟩
theorem v_X10_item : Cond.instanceMethod yX10_item ∈ TB ∧ Cond.selects RX10 yX10_item yX10_item ∈ TB := ⟨tb (i := 1102) (by decide +kernel) rfl, tb (i := 1103) (by decide +kernel) rfl⟩
abbrev mX10_copy : mM := (RX10, cX10_copy, 6, (some .int))
set_option maxRecDepth 100000 in
theorem i_X10_copy : MI yX10_copy mX10_copy 5 := ⟨rfl, pn_X10.1, tcc5 (i := 20) rfl rfl, pn_X10.2.1, ⟨pn_X10.2.2.1, pn_X10.2.2.2, pd_24⟩, by decide⟩
theorem v_X10_copy : Cond.instanceMethod yX10_copy ∈ TB ∧ Cond.selects RX10 yX10_copy yX10_copy ∈ TB := ⟨tb (i := 1106) (by decide +kernel) rfl, tb (i := 1107) (by decide +kernel) rfl⟩
abbrev mX10_within : mM := (RX10, cX10_within, 3, (some .boolean))
set_option maxRecDepth 100000 in
theorem i_X10_within : MI yX10_within mX10_within 3 := ⟨rfl, pn_X10.1, tcc2 (i := 5) rfl rfl, pn_X10.2.1, ⟨pn_X10.2.2.1, pn_X10.2.2.2, pd_19⟩, by decide⟩
theorem s_X10_within : Cond.static yX10_within ∈ TB := tb (i := 456) (by decide +kernel) rfl
abbrev mX10_isMember : mM := (RX10, cX10_isMember, 3, (some .boolean))
set_option maxRecDepth 100000 in
theorem i_X10_isMember : MI yX10_isMember mX10_isMember 2 := ⟨rfl, pn_X10.1, tcc4 (i := 36) rfl rfl, pn_X10.2.1, ⟨pn_X10.2.2.1, pn_X10.2.2.2, pd_13⟩, by decide⟩
theorem v_X10_isMember : Cond.instanceMethod yX10_isMember ∈ TB ∧ Cond.selects RX10 yX10_isMember yX10_isMember ∈ TB := ⟨tb (i := 946) (by decide +kernel) rfl, tb (i := 25) (by decide +kernel) rfl⟩
abbrev mX10_setThere : mM := (RX10, cX10_setThere, 5, (some .int))
set_option maxRecDepth 100000 in
theorem i_X10_setThere : MI yX10_setThere mX10_setThere 3 := ⟨rfl, pn_X10.1, tcc3 (i := 5) rfl rfl, pn_X10.2.1, ⟨pn_X10.2.2.1, pn_X10.2.2.2, pd_11⟩, by decide⟩
theorem s_X10_setThere : Cond.static yX10_setThere ∈ TB := tb (i := 559) (by decide +kernel) rfl
abbrev mX10_toldOfRoad : mM := (RX10, cX10_toldOfRoad, 3, (some .int))
set_option maxRecDepth 100000 in
theorem i_X10_toldOfRoad : MI yX10_toldOfRoad mX10_toldOfRoad 2 := ⟨rfl, pn_X10.1, tcc3 (i := 7) rfl rfl, pn_X10.2.1, ⟨pn_X10.2.2.1, pn_X10.2.2.2, pd_10⟩, by decide⟩
theorem v_X10_toldOfRoad : Cond.instanceMethod yX10_toldOfRoad ∈ TB ∧ Cond.selects RX10 yX10_toldOfRoad yX10_toldOfRoad ∈ TB := ⟨tb (i := 567) (by decide +kernel) rfl, tb (i := 0) (by decide +kernel) rfl⟩
abbrev mX10_toldOfCart : mM := (RX10, cX10_toldOfCart, 3, (some .int))
set_option maxRecDepth 100000 in
theorem i_X10_toldOfCart : MI yX10_toldOfCart mX10_toldOfCart 2 := ⟨rfl, pn_X10.1, tcc3 (i := 8) rfl rfl, pn_X10.2.1, ⟨pn_X10.2.2.1, pn_X10.2.2.2, pd_10⟩, by decide⟩
theorem v_X10_toldOfCart : Cond.instanceMethod yX10_toldOfCart ∈ TB ∧ Cond.selects RX10 yX10_toldOfCart yX10_toldOfCart ∈ TB := ⟨tb (i := 571) (by decide +kernel) rfl, tb (i := 1) (by decide +kernel) rfl⟩
abbrev mX10_toldOfGood : mM := (RX10, cX10_toldOfGood, 3, (some .int))
set_option maxRecDepth 100000 in
theorem i_X10_toldOfGood : MI yX10_toldOfGood mX10_toldOfGood 2 := ⟨rfl, pn_X10.1, tcc3 (i := 10) rfl rfl, pn_X10.2.1, ⟨pn_X10.2.2.1, pn_X10.2.2.2, pd_10⟩, by decide⟩
theorem v_X10_toldOfGood : Cond.instanceMethod yX10_toldOfGood ∈ TB ∧ Cond.selects RX10 yX10_toldOfGood yX10_toldOfGood ∈ TB := ⟨tb (i := 579) (by decide +kernel) rfl, tb (i := 2) (by decide +kernel) rfl⟩
abbrev mX10_toldOfPerson : mM := (RX10, cX10_toldOfPerson, 3, (some .int))
set_option maxRecDepth 100000 in
theorem i_X10_toldOfPerson : MI yX10_toldOfPerson mX10_toldOfPerson 2 := ⟨rfl, pn_X10.1, tcc3 (i := 11) rfl rfl, pn_X10.2.1, ⟨pn_X10.2.2.1, pn_X10.2.2.2, pd_10⟩, by decide⟩
theorem v_X10_toldOfPerson : Cond.instanceMethod yX10_toldOfPerson ∈ TB ∧ Cond.selects RX10 yX10_toldOfPerson yX10_toldOfPerson ∈ TB := ⟨tb (i := 583) (by decide +kernel) rfl, tb (i := 3) (by decide +kernel) rfl⟩
abbrev mX11_init : mM := (RX11, cX11_init, 2, none)
abbrev mX11_in : mM := (RX11, cX11_in, 6, (some .boolean))
set_option maxRecDepth 100000 in
theorem i_X11_in : MI yX11_in mX11_in 3 := ⟨rfl, pn_X11.1, tcc5 (i := 23) rfl rfl, pn_X11.2.1, ⟨pn_X11.2.2.1, pn_X11.2.2.2, pd_29⟩, by decide⟩
theorem s_X11_in : Cond.static yX11_in ∈ TB := tb (i := 1178) (by decide +kernel) rfl
abbrev mX11_isParish : mM := (RX11, cX11_isParish, 2, (some .boolean))
set_option maxRecDepth 100000 in
theorem i_X11_isParish : MI yX11_isParish mX11_isParish 1 := ⟨rfl, pn_X11.1, tcc5 (i := 26) rfl rfl, pn_X11.2.1, ⟨pn_X11.2.2.1, pn_X11.2.2.2, pd_12⟩, by decide⟩
theorem v_X11_isParish : Cond.instanceMethod yX11_isParish ∈ TB ∧ Cond.selects RX11 yX11_isParish yX11_isParish ∈ TB := ⟨tb (i := 1190) (by decide +kernel) rfl, tb (i := 29) (by decide +kernel) rfl⟩
abbrev mX11_isRoad : mM := (RX11, cX11_isRoad, 2, (some .boolean))
set_option maxRecDepth 100000 in
theorem i_X11_isRoad : MI yX11_isRoad mX11_isRoad 1 := ⟨rfl, pn_X11.1, tcc5 (i := 30) rfl rfl, pn_X11.2.1, ⟨pn_X11.2.2.1, pn_X11.2.2.2, pd_12⟩, by decide⟩
theorem v_X11_isRoad : Cond.instanceMethod yX11_isRoad ∈ TB ∧ Cond.selects RX11 yX11_isRoad yX11_isRoad ∈ TB := ⟨tb (i := 1207) (by decide +kernel) rfl, tb (i := 31) (by decide +kernel) rfl⟩
abbrev mX11_isCart : mM := (RX11, cX11_isCart, 2, (some .boolean))
set_option maxRecDepth 100000 in
theorem i_X11_isCart : MI yX11_isCart mX11_isCart 1 := ⟨rfl, pn_X11.1, tcc5 (i := 41) rfl rfl, pn_X11.2.1, ⟨pn_X11.2.2.1, pn_X11.2.2.2, pd_12⟩, by decide⟩
theorem v_X11_isCart : Cond.instanceMethod yX11_isCart ∈ TB ∧ Cond.selects RX11 yX11_isCart yX11_isCart ∈ TB := ⟨tb (i := 1255) (by decide +kernel) rfl, tb (i := 35) (by decide +kernel) rfl⟩
abbrev mX11_isGood : mM := (RX11, cX11_isGood, 2, (some .boolean))
set_option maxRecDepth 100000 in
theorem i_X11_isGood : MI yX11_isGood mX11_isGood 1 := ⟨rfl, pn_X11.1, tcc5 (i := 34) rfl rfl, pn_X11.2.1, ⟨pn_X11.2.2.1, pn_X11.2.2.2, pd_12⟩, by decide⟩
theorem v_X11_isGood : Cond.instanceMethod yX11_isGood ∈ TB ∧ Cond.selects RX11 yX11_isGood yX11_isGood ∈ TB := ⟨tb (i := 1225) (by decide +kernel) rfl, tb (i := 32) (by decide +kernel) rfl⟩
abbrev mX11_isPerson : mM := (RX11, cX11_isPerson, 2, (some .boolean))
set_option maxRecDepth 100000 in
theorem i_X11_isPerson : MI yX11_isPerson mX11_isPerson 1 := ⟨rfl, pn_X11.1, tcc6 (i := 0) rfl rfl, pn_X11.2.1, ⟨pn_X11.2.2.1, pn_X11.2.2.2, pd_12⟩, by decide⟩
theorem v_X11_isPerson : Cond.instanceMethod yX11_isPerson ∈ TB ∧ Cond.selects RX11 yX11_isPerson yX11_isPerson ∈ TB := ⟨tb (i := 1262) (by decide +kernel) rfl, tb (i := 36) (by decide +kernel) rfl⟩
abbrev mX11_isTwo : mM := (RX11, cX11_isTwo, 1, (some .boolean))
set_option maxRecDepth 100000 in
theorem i_X11_isTwo : MI yX11_isTwo mX11_isTwo 1 := ⟨rfl, pn_X11.1, tcc6 (i := 24) rfl rfl, pn_X11.2.1, ⟨pn_X11.2.2.1, pn_X11.2.2.2, pd_12⟩, by decide⟩
theorem s_X11_isTwo : Cond.static yX11_isTwo ∈ TB := tb (i := 1365) (by decide +kernel) rfl
abbrev mX11_season : mM := (RX11, cX11_season, 1, (some .int))
set_option maxRecDepth 100000 in
theorem i_X11_season : MI yX11_season mX11_season 0 := ⟨rfl, pn_X11.1, tcc5 (i := 36) rfl rfl, pn_X11.2.1, ⟨pn_X11.2.2.1, pn_X11.2.2.2, pd_7⟩, by decide⟩
theorem v_X11_season : Cond.instanceMethod yX11_season ∈ TB ∧ Cond.selects RX11 yX11_season yX11_season ∈ TB := ⟨tb (i := 1233) (by decide +kernel) rfl, tb (i := 34) (by decide +kernel) rfl⟩
abbrev mX11_weightBy : mM := (RX11, cX11_weightBy, 4, (some .int))
set_option maxRecDepth 100000 in
theorem i_X11_weightBy : MI yX11_weightBy mX11_weightBy 3 := ⟨rfl, pn_X11.1, tcc5 (i := 37) rfl rfl, pn_X11.2.1, ⟨pn_X11.2.2.1, pn_X11.2.2.2, pd_2⟩, by decide⟩
theorem s_X11_weightBy : Cond.static yX11_weightBy ∈ TB := tb (i := 1236) (by decide +kernel) rfl
abbrev mX11_weight : mM := (RX11, cX11_weight, 3, (some .int))
set_option maxRecDepth 100000 in
theorem i_X11_weight : MI yX11_weight mX11_weight 2 := ⟨rfl, pn_X11.1, tcc5 (i := 35) rfl rfl, pn_X11.2.1, ⟨pn_X11.2.2.1, pn_X11.2.2.2, pd_10⟩, by decide⟩
theorem v_X11_weight : Cond.instanceMethod yX11_weight ∈ TB ∧ Cond.selects RX11 yX11_weight yX11_weight ∈ TB := ⟨tb (i := 1229) (by decide +kernel) rfl, tb (i := 33) (by decide +kernel) rfl⟩
abbrev mX11_joins : mM := (RX11, cX11_joins, 4, (some .int))
set_option maxRecDepth 100000 in
theorem i_X11_joins : MI yX11_joins mX11_joins 1 := ⟨rfl, pn_X11.1, tcc5 (i := 24) rfl rfl, pn_X11.2.1, ⟨pn_X11.2.2.1, pn_X11.2.2.2, pd_3⟩, by decide⟩
theorem v_X11_joins : Cond.instanceMethod yX11_joins ∈ TB ∧ Cond.selects RX11 yX11_joins yX11_joins ∈ TB := ⟨tb (i := 1182) (by decide +kernel) rfl, tb (i := 28) (by decide +kernel) rfl⟩
abbrev mX11_parish : mM := (RX11, cX11_parish, 2, (some .int))
set_option maxRecDepth 100000 in
theorem i_X11_parish : MI yX11_parish mX11_parish 1 := ⟨rfl, pn_X11.1, tcc5 (i := 22) rfl rfl, pn_X11.2.1, ⟨pn_X11.2.2.1, pn_X11.2.2.2, pd_3⟩, by decide⟩
theorem v_X11_parish : Cond.instanceMethod yX11_parish ∈ TB ∧ Cond.selects RX11 yX11_parish yX11_parish ∈ TB := ⟨tb (i := 1173) (by decide +kernel) rfl, tb (i := 1174) (by decide +kernel) rfl⟩
abbrev mX11_pull : mM := (RX11, cX11_pull, 5, (some .int))
set_option maxRecDepth 100000 in
theorem i_X11_pull : MI yX11_pull mX11_pull 3 := ⟨rfl, pn_X11.1, tcc5 (i := 25) rfl rfl, pn_X11.2.1, ⟨pn_X11.2.2.1, pn_X11.2.2.2, pd_2⟩, by decide⟩
theorem v_X11_pull : Cond.instanceMethod yX11_pull ∈ TB ∧ Cond.selects RX11 yX11_pull yX11_pull ∈ TB := ⟨tb (i := 1185) (by decide +kernel) rfl, tb (i := 1186) (by decide +kernel) rfl⟩
abbrev mX11_roadOf : mM := (RX11, cX11_roadOf, 6, (some .int))
set_option maxRecDepth 100000 in
theorem i_X11_roadOf : MI yX11_roadOf mX11_roadOf 2 := ⟨rfl, pn_X11.1, tcc5 (i := 28) rfl rfl, pn_X11.2.1, ⟨pn_X11.2.2.1, pn_X11.2.2.2, pd_10⟩, by decide⟩
theorem v_X11_roadOf : Cond.instanceMethod yX11_roadOf ∈ TB ∧ Cond.selects RX11 yX11_roadOf yX11_roadOf ∈ TB := ⟨tb (i := 1199) (by decide +kernel) rfl, tb (i := 30) (by decide +kernel) rfl⟩
abbrev mX11_road : mM := (RX11, cX11_road, 5, (some .int))
set_option maxRecDepth 100000 in
theorem i_X11_road : MI yX11_road mX11_road 3 := ⟨rfl, pn_X11.1, tcc5 (i := 27) rfl rfl, pn_X11.2.1, ⟨pn_X11.2.2.1, pn_X11.2.2.2, pd_2⟩, by decide⟩
theorem v_X11_road : Cond.instanceMethod yX11_road ∈ TB ∧ Cond.selects RX11 yX11_road yX11_road ∈ TB := ⟨tb (i := 1194) (by decide +kernel) rfl, tb (i := 1195) (by decide +kernel) rfl⟩
abbrev mX11_toll : mM := (RX11, cX11_toll, 4, (some .int))
set_option maxRecDepth 100000 in
theorem i_X11_toll : MI yX11_toll mX11_toll 2 := ⟨rfl, pn_X11.1, tcc5 (i := 29) rfl rfl, pn_X11.2.1, ⟨pn_X11.2.2.1, pn_X11.2.2.2, pd_10⟩, by decide⟩
theorem v_X11_toll : Cond.instanceMethod yX11_toll ∈ TB ∧ Cond.selects RX11 yX11_toll yX11_toll ∈ TB := ⟨tb (i := 1202) (by decide +kernel) rfl, tb (i := 1203) (by decide +kernel) rfl⟩
abbrev mX11_cart : mM := (RX11, cX11_cart, 4, (some .int))
set_option maxRecDepth 100000 in
theorem i_X11_cart : MI yX11_cart mX11_cart 2 := ⟨rfl, pn_X11.1, tcc5 (i := 31) rfl rfl, pn_X11.2.1, ⟨pn_X11.2.2.1, pn_X11.2.2.2, pd_10⟩, by decide⟩
theorem v_X11_cart : Cond.instanceMethod yX11_cart ∈ TB ∧ Cond.selects RX11 yX11_cart yX11_cart ∈ TB := ⟨tb (i := 1210) (by decide +kernel) rfl, tb (i := 1211) (by decide +kernel) rfl⟩
abbrev mX11_good : mM := (RX11, cX11_good, 5, (some .int))
set_option maxRecDepth 100000 in
theorem i_X11_good : MI yX11_good mX11_good 3 := ⟨rfl, pn_X11.1, tcc5 (i := 32) rfl rfl, pn_X11.2.1, ⟨pn_X11.2.2.1, pn_X11.2.2.2, pd_2⟩, by decide⟩
theorem v_X11_good : Cond.instanceMethod yX11_good ∈ TB ∧ Cond.selects RX11 yX11_good yX11_good ∈ TB := ⟨tb (i := 1216) (by decide +kernel) rfl, tb (i := 1217) (by decide +kernel) rfl⟩
abbrev mX11_hang : mM := (RX11, cX11_hang, 4, (some .int))
set_option maxRecDepth 100000 in
theorem i_X11_hang : MI yX11_hang mX11_hang 2 := ⟨rfl, pn_X11.1, tcc5 (i := 33) rfl rfl, pn_X11.2.1, ⟨pn_X11.2.2.1, pn_X11.2.2.2, pd_10⟩, by decide⟩
theorem v_X11_hang : Cond.instanceMethod yX11_hang ∈ TB ∧ Cond.selects RX11 yX11_hang yX11_hang ∈ TB := ⟨tb (i := 1220) (by decide +kernel) rfl, tb (i := 1221) (by decide +kernel) rfl⟩
abbrev mX11_person : mM := (RX11, cX11_person, 4, (some .int))
set_option maxRecDepth 100000 in
theorem i_X11_person : MI yX11_person mX11_person 2 := ⟨rfl, pn_X11.1, tcc5 (i := 38) rfl rfl, pn_X11.2.1, ⟨pn_X11.2.2.1, pn_X11.2.2.2, pd_10⟩, by decide⟩
theorem v_X11_person : Cond.instanceMethod yX11_person ∈ TB ∧ Cond.selects RX11 yX11_person yX11_person ∈ TB := ⟨tb (i := 1239) (by decide +kernel) rfl, tb (i := 1240) (by decide +kernel) rfl⟩
abbrev mX11_of : mM := (RX11, cX11_of, 5, (some .int))
set_option maxRecDepth 100000 in
theorem i_X11_of : MI yX11_of mX11_of 2 := ⟨rfl, pn_X11.1, tcc5 (i := 39) rfl rfl, pn_X11.2.1, ⟨pn_X11.2.2.1, pn_X11.2.2.2, pd_10⟩, by decide⟩
theorem v_X11_of : Cond.instanceMethod yX11_of ∈ TB ∧ Cond.selects RX11 yX11_of yX11_of ∈ TB := ⟨tb (i := 1243) (by decide +kernel) rfl, tb (i := 1244) (by decide +kernel) rfl⟩
abbrev mX11_told : mM := (RX11, cX11_told, 5, (some .int))
set_option maxRecDepth 100000 in
theorem i_X11_told : MI yX11_told mX11_told 2 := ⟨rfl, pn_X11.1, tcc5 (i := 40) rfl rfl, pn_X11.2.1, ⟨pn_X11.2.2.1, pn_X11.2.2.2, pd_10⟩, by decide⟩
theorem v_X11_told : Cond.instanceMethod yX11_told ∈ TB ∧ Cond.selects RX11 yX11_told yX11_told ∈ TB := ⟨tb (i := 1248) (by decide +kernel) rfl, tb (i := 1249) (by decide +kernel) rfl⟩
abbrev mX11_weighs : mM := (RX11, cX11_weighs, 3, (some .int))
set_option maxRecDepth 100000 in
theorem i_X11_weighs : MI yX11_weighs mX11_weighs 2 := ⟨rfl, pn_X11.1, tcc6 (i := 1) rfl rfl, pn_X11.2.1, ⟨pn_X11.2.2.1, pn_X11.2.2.2, pd_10⟩, by decide⟩
theorem v_X11_weighs : Cond.instanceMethod yX11_weighs ∈ TB ∧ Cond.selects RX11 yX11_weighs yX11_weighs ∈ TB := ⟨tb (i := 1265) (by decide +kernel) rfl, tb (i := 1266) (by decide +kernel) rfl⟩
abbrev mX11_type : mM := (RX11, cX11_type, 2, (some .int))
set_option maxRecDepth 100000 in
theorem i_X11_type : MI yX11_type mX11_type 1 := ⟨rfl, pn_X11.1, tcc6 (i := 2) rfl rfl, pn_X11.2.1, ⟨pn_X11.2.2.1, pn_X11.2.2.2, pd_3⟩, by decide⟩
theorem v_X11_type : Cond.instanceMethod yX11_type ∈ TB ∧ Cond.selects RX11 yX11_type yX11_type ∈ TB := ⟨tb (i := 1269) (by decide +kernel) rfl, tb (i := 1270) (by decide +kernel) rfl⟩
abbrev mX11_next : mM := (RX11, cX11_next, 1, (some .int))
set_option maxRecDepth 100000 in
theorem i_X11_next : MI yX11_next mX11_next 0 := ⟨rfl, pn_X11.1, tcc6 (i := 6) rfl rfl, pn_X11.2.1, ⟨pn_X11.2.2.1, pn_X11.2.2.2, pd_7⟩, by decide⟩
theorem v_X11_next : Cond.instanceMethod yX11_next ∈ TB ∧ Cond.selects RX11 yX11_next yX11_next ∈ TB := ⟨tb (i := 1288) (by decide +kernel) rfl, tb (i := 39) (by decide +kernel) rfl⟩
abbrev mX11_isDigit : mM := (RX11, cX11_isDigit, 3, (some .boolean))
set_option maxRecDepth 100000 in
theorem i_X11_isDigit : MI yX11_isDigit mX11_isDigit 2 := ⟨rfl, pn_X11.1, tcc6 (i := 8) rfl rfl, pn_X11.2.1, ⟨pn_X11.2.2.1, pn_X11.2.2.2, pd_13⟩, by decide⟩
theorem v_X11_isDigit : Cond.instanceMethod yX11_isDigit ∈ TB ∧ Cond.selects RX11 yX11_isDigit yX11_isDigit ∈ TB := ⟨tb (i := 1295) (by decide +kernel) rfl, tb (i := 40) (by decide +kernel) rfl⟩
abbrev mX11_digit : mM := (RX11, cX11_digit, 2, (some .int))
set_option maxRecDepth 100000 in
theorem i_X11_digit : MI yX11_digit mX11_digit 0 := ⟨rfl, pn_X11.1, tcc6 (i := 9) rfl rfl, pn_X11.2.1, ⟨pn_X11.2.2.1, pn_X11.2.2.2, pd_7⟩, by decide⟩
theorem v_X11_digit : Cond.instanceMethod yX11_digit ∈ TB ∧ Cond.selects RX11 yX11_digit yX11_digit ∈ TB := ⟨tb (i := 1299) (by decide +kernel) rfl, tb (i := 41) (by decide +kernel) rfl⟩
abbrev mX11_kindOf : mM := (RX11, cX11_kindOf, 1, (some .int))
set_option maxRecDepth 100000 in
theorem i_X11_kindOf : MI yX11_kindOf mX11_kindOf 1 := ⟨rfl, pn_X11.1, tcc6 (i := 7) rfl rfl, pn_X11.2.1, ⟨pn_X11.2.2.1, pn_X11.2.2.2, pd_3⟩, by decide⟩
theorem s_X11_kindOf : Cond.static yX11_kindOf ∈ TB := tb (i := 1291) (by decide +kernel) rfl
abbrev mX11_readsParish : mM := (RX11, cX11_readsParish, 4, (some .boolean))
set_option maxRecDepth 100000 in
theorem i_X11_readsParish : MI yX11_readsParish mX11_readsParish 0 := ⟨rfl, pn_X11.1, tcc6 (i := 5) rfl rfl, pn_X11.2.1, ⟨pn_X11.2.2.1, pn_X11.2.2.2, pd_22⟩, by decide⟩
theorem v_X11_readsParish : Cond.instanceMethod yX11_readsParish ∈ TB ∧ Cond.selects RX11 yX11_readsParish yX11_readsParish ∈ TB := ⟨tb (i := 1284) (by decide +kernel) rfl, tb (i := 38) (by decide +kernel) rfl⟩
abbrev mX11_readsRoad : mM := (RX11, cX11_readsRoad, 5, (some .boolean))
set_option maxRecDepth 100000 in
theorem i_X11_readsRoad : MI yX11_readsRoad mX11_readsRoad 0 := ⟨rfl, pn_X11.1, tcc6 (i := 10) rfl rfl, pn_X11.2.1, ⟨pn_X11.2.2.1, pn_X11.2.2.2, pd_22⟩, by decide⟩
theorem v_X11_readsRoad : Cond.instanceMethod yX11_readsRoad ∈ TB ∧ Cond.selects RX11 yX11_readsRoad yX11_readsRoad ∈ TB := ⟨tb (i := 1303) (by decide +kernel) rfl, tb (i := 42) (by decide +kernel) rfl⟩
abbrev mX11_reads : mM := (RX11, cX11_reads, 2, (some .boolean))
set_option maxRecDepth 100000 in
theorem i_X11_reads : MI yX11_reads mX11_reads 0 := ⟨rfl, pn_X11.1, tcc6 (i := 4) rfl rfl, pn_X11.2.1, ⟨pn_X11.2.2.1, pn_X11.2.2.2, pd_22⟩, by decide⟩
theorem v_X11_reads : Cond.instanceMethod yX11_reads ∈ TB ∧ Cond.selects RX11 yX11_reads yX11_reads ∈ TB := ⟨tb (i := 1280) (by decide +kernel) rfl, tb (i := 37) (by decide +kernel) rfl⟩
abbrev mX11_land : mM := (RX11, cX11_land, 3, (some .int))
set_option maxRecDepth 100000 in
theorem i_X11_land : MI yX11_land mX11_land 0 := ⟨rfl, pn_X11.1, tcc6 (i := 3) rfl rfl, pn_X11.2.1, ⟨pn_X11.2.2.1, pn_X11.2.2.2, pd_7⟩, by decide⟩
theorem v_X11_land : Cond.instanceMethod yX11_land ∈ TB ∧ Cond.selects RX11 yX11_land yX11_land ∈ TB := ⟨tb (i := 1275) (by decide +kernel) rfl, tb (i := 1276) (by decide +kernel) rfl⟩
abbrev mX11_count : mM := (RX11, cX11_count, 4, (some .int))
set_option maxRecDepth 100000 in
theorem i_X11_count : MI yX11_count mX11_count 1 := ⟨rfl, pn_X11.1, tcc6 (i := 11) rfl rfl, pn_X11.2.1, ⟨pn_X11.2.2.1, pn_X11.2.2.2, pd_3⟩, by decide⟩
theorem v_X11_count : Cond.instanceMethod yX11_count ∈ TB ∧ Cond.selects RX11 yX11_count yX11_count ∈ TB := ⟨tb (i := 1307) (by decide +kernel) rfl, tb (i := 1308) (by decide +kernel) rfl⟩
abbrev mX11_goes : mM := (RX11, cX11_goes, 7, (some .int))
set_option maxRecDepth 100000 in
theorem i_X11_goes : MI yX11_goes mX11_goes 1 := ⟨rfl, pn_X11.1, tcc6 (i := 13) rfl rfl, pn_X11.2.1, ⟨pn_X11.2.2.1, pn_X11.2.2.2, pd_3⟩, by decide⟩
theorem v_X11_goes : Cond.instanceMethod yX11_goes ∈ TB ∧ Cond.selects RX11 yX11_goes yX11_goes ∈ TB := ⟨tb (i := 1317) (by decide +kernel) rfl, tb (i := 43) (by decide +kernel) rfl⟩
abbrev mX11_weeks : mM := (RX11, cX11_weeks, 7, (some .int))
set_option maxRecDepth 100000 in
theorem i_X11_weeks : MI yX11_weeks mX11_weeks 1 := ⟨rfl, pn_X11.1, tcc6 (i := 12) rfl rfl, pn_X11.2.1, ⟨pn_X11.2.2.1, pn_X11.2.2.2, pd_3⟩, by decide⟩
theorem v_X11_weeks : Cond.instanceMethod yX11_weeks ∈ TB ∧ Cond.selects RX11 yX11_weeks yX11_weeks ∈ TB := ⟨tb (i := 1311) (by decide +kernel) rfl, tb (i := 1312) (by decide +kernel) rfl⟩
abbrev mX11_costOf : mM := (RX11, cX11_costOf, 8, (some .int))
set_option maxRecDepth 100000 in
theorem i_X11_costOf : MI yX11_costOf mX11_costOf 5 := ⟨rfl, pn_X11.1, tcc6 (i := 17) rfl rfl, pn_X11.2.1, ⟨pn_X11.2.2.1, pn_X11.2.2.2, pd_24⟩, by decide⟩
theorem v_X11_costOf : Cond.instanceMethod yX11_costOf ∈ TB ∧ Cond.selects RX11 yX11_costOf yX11_costOf ∈ TB := ⟨tb (i := 1335) (by decide +kernel) rfl, tb (i := 46) (by decide +kernel) rfl⟩
abbrev mX11_bears : mM := (RX11, cX11_bears, 4, (some .boolean))
set_option maxRecDepth 100000 in
theorem i_X11_bears : MI yX11_bears mX11_bears 3 := ⟨rfl, pn_X11.1, tcc6 (i := 16) rfl rfl, pn_X11.2.1, ⟨pn_X11.2.2.1, pn_X11.2.2.2, pd_19⟩, by decide⟩
theorem v_X11_bears : Cond.instanceMethod yX11_bears ∈ TB ∧ Cond.selects RX11 yX11_bears yX11_bears ∈ TB := ⟨tb (i := 1330) (by decide +kernel) rfl, tb (i := 45) (by decide +kernel) rfl⟩
abbrev mX11_layWays : mM := (RX11, cX11_layWays, 9, none)
set_option maxRecDepth 100000 in
theorem i_X11_layWays : MI yX11_layWays mX11_layWays 3 := ⟨rfl, pn_X11.1, tcc6 (i := 15) rfl rfl, pn_X11.2.1, ⟨pn_X11.2.2.1, pn_X11.2.2.2, pd_5⟩, by decide⟩
theorem v_X11_layWays : Cond.instanceMethod yX11_layWays ∈ TB ∧ Cond.selects RX11 yX11_layWays yX11_layWays ∈ TB := ⟨tb (i := 1326) (by decide +kernel) rfl, tb (i := 44) (by decide +kernel) rfl⟩
abbrev mX11_layPath : mM := (RX11, cX11_layPath, 13, (some .int))
set_option maxRecDepth 100000 in
theorem i_X11_layPath : MI yX11_layPath mX11_layPath 4 := ⟨rfl, pn_X11.1, tcc6 (i := 18) rfl rfl, pn_X11.2.1, ⟨pn_X11.2.2.1, pn_X11.2.2.2, pd_20⟩, by decide⟩
theorem v_X11_layPath : Cond.instanceMethod yX11_layPath ∈ TB ∧ Cond.selects RX11 yX11_layPath yX11_layPath ∈ TB := ⟨tb (i := 1339) (by decide +kernel) rfl, tb (i := 47) (by decide +kernel) rfl⟩
abbrev mX11_way : mM := (RX11, cX11_way, 6, (some .int))
set_option maxRecDepth 100000 in
theorem i_X11_way : MI yX11_way mX11_way 5 := ⟨rfl, pn_X11.1, tcc6 (i := 14) rfl rfl, pn_X11.2.1, ⟨pn_X11.2.2.1, pn_X11.2.2.2, pd_24⟩, by decide⟩
theorem v_X11_way : Cond.instanceMethod yX11_way ∈ TB ∧ Cond.selects RX11 yX11_way yX11_way ∈ TB := ⟨tb (i := 1320) (by decide +kernel) rfl, tb (i := 1321) (by decide +kernel) rfl⟩
abbrev mX11_netOf : mM := (RX11, cX11_netOf, 4, (some .int))
set_option maxRecDepth 100000 in
theorem i_X11_netOf : MI yX11_netOf mX11_netOf 2 := ⟨rfl, pn_X11.1, tcc6 (i := 20) rfl rfl, pn_X11.2.1, ⟨pn_X11.2.2.1, pn_X11.2.2.2, pd_10⟩, by decide⟩
theorem v_X11_netOf : Cond.instanceMethod yX11_netOf ∈ TB ∧ Cond.selects RX11 yX11_netOf yX11_netOf ∈ TB := ⟨tb (i := 1348) (by decide +kernel) rfl, tb (i := 48) (by decide +kernel) rfl⟩
abbrev mX11_net : mM := (RX11, cX11_net, 5, (some .int))
set_option maxRecDepth 100000 in
theorem i_X11_net : MI yX11_net mX11_net 3 := ⟨rfl, pn_X11.1, tcc6 (i := 19) rfl rfl, pn_X11.2.1, ⟨pn_X11.2.2.1, pn_X11.2.2.2, pd_2⟩, by decide⟩
theorem v_X11_net : Cond.instanceMethod yX11_net ∈ TB ∧ Cond.selects RX11 yX11_net yX11_net ∈ TB := ⟨tb (i := 1342) (by decide +kernel) rfl, tb (i := 1343) (by decide +kernel) rfl⟩
abbrev mX11_marketOf : mM := (RX11, cX11_marketOf, 7, (some .int))
set_option maxRecDepth 100000 in
theorem i_X11_marketOf : MI yX11_marketOf mX11_marketOf 3 := ⟨rfl, pn_X11.1, tcc6 (i := 22) rfl rfl, pn_X11.2.1, ⟨pn_X11.2.2.1, pn_X11.2.2.2, pd_2⟩, by decide⟩
theorem v_X11_marketOf : Cond.instanceMethod yX11_marketOf ∈ TB ∧ Cond.selects RX11 yX11_marketOf yX11_marketOf ∈ TB := ⟨tb (i := 1358) (by decide +kernel) rfl, tb (i := 49) (by decide +kernel) rfl⟩
abbrev mX11_market : mM := (RX11, cX11_market, 3, (some .int))
set_option maxRecDepth 100000 in
theorem i_X11_market : MI yX11_market mX11_market 2 := ⟨rfl, pn_X11.1, tcc6 (i := 21) rfl rfl, pn_X11.2.1, ⟨pn_X11.2.2.1, pn_X11.2.2.2, pd_10⟩, by decide⟩
theorem v_X11_market : Cond.instanceMethod yX11_market ∈ TB ∧ Cond.selects RX11 yX11_market yX11_market ∈ TB := ⟨tb (i := 1353) (by decide +kernel) rfl, tb (i := 1354) (by decide +kernel) rfl⟩
abbrev mX11_trade : mM := (RX11, cX11_trade, 10, (some .int))
set_option maxRecDepth 100000 in
theorem i_X11_trade : MI yX11_trade mX11_trade 3 := ⟨rfl, pn_X11.1, tcc6 (i := 23) rfl rfl, pn_X11.2.1, ⟨pn_X11.2.2.1, pn_X11.2.2.2, pd_2⟩, by decide⟩
theorem v_X11_trade : Cond.instanceMethod yX11_trade ∈ TB ∧ Cond.selects RX11 yX11_trade yX11_trade ∈ TB := ⟨tb (i := 1361) (by decide +kernel) rfl, tb (i := 1362) (by decide +kernel) rfl⟩
abbrev mX11_bits : mM := (RX11, cX11_bits, 3, (some .int))
set_option maxRecDepth 100000 in
theorem i_X11_bits : MI yX11_bits mX11_bits 1 := ⟨rfl, pn_X11.1, tcc6 (i := 26) rfl rfl, pn_X11.2.1, ⟨pn_X11.2.2.1, pn_X11.2.2.2, pd_3⟩, by decide⟩
theorem s_X11_bits : Cond.static yX11_bits ∈ TB := tb (i := 1372) (by decide +kernel) rfl
abbrev mX11_paid : mM := (RX11, cX11_paid, 4, (some .int))
set_option maxRecDepth 100000 in
theorem i_X11_paid : MI yX11_paid mX11_paid 3 := ⟨rfl, pn_X11.1, tcc6 (i := 28) rfl rfl, pn_X11.2.1, ⟨pn_X11.2.2.1, pn_X11.2.2.2, pd_2⟩, by decide⟩
theorem v_X11_paid : Cond.instanceMethod yX11_paid ∈ TB ∧ Cond.selects RX11 yX11_paid yX11_paid ∈ TB := ⟨tb (i := 1380) (by decide +kernel) rfl, tb (i := 51) (by decide +kernel) rfl⟩
abbrev mX11_isEnded : mM := (RX11, cX11_isEnded, 6, (some .boolean))
set_option maxRecDepth 100000 in
theorem i_X11_isEnded : MI yX11_isEnded mX11_isEnded 2 := ⟨rfl, pn_X11.1, tcc6 (i := 27) rfl rfl, pn_X11.2.1, ⟨pn_X11.2.2.1, pn_X11.2.2.2, pd_13⟩, by decide⟩
theorem v_X11_isEnded : Cond.instanceMethod yX11_isEnded ∈ TB ∧ Cond.selects RX11 yX11_isEnded yX11_isEnded ∈ TB := ⟨tb (i := 1376) (by decide +kernel) rfl, tb (i := 50) (by decide +kernel) rfl⟩
abbrev mX11_scales : mM := (RX11, cX11_scales, 6, (some .int))
set_option maxRecDepth 100000 in
theorem i_X11_scales : MI yX11_scales mX11_scales 2 := ⟨rfl, pn_X11.1, tcc6 (i := 25) rfl rfl, pn_X11.2.1, ⟨pn_X11.2.2.1, pn_X11.2.2.2, pd_10⟩, by decide⟩
theorem v_X11_scales : Cond.instanceMethod yX11_scales ∈ TB ∧ Cond.selects RX11 yX11_scales yX11_scales ∈ TB := ⟨tb (i := 1368) (by decide +kernel) rfl, tb (i := 1369) (by decide +kernel) rfl⟩
abbrev mX11_takeOf : mM := (RX11, cX11_takeOf, 5, (some .int))
set_option maxRecDepth 100000 in
theorem i_X11_takeOf : MI yX11_takeOf mX11_takeOf 2 := ⟨rfl, pn_X11.1, tcc6 (i := 30) rfl rfl, pn_X11.2.1, ⟨pn_X11.2.2.1, pn_X11.2.2.2, pd_10⟩, by decide⟩
theorem v_X11_takeOf : Cond.instanceMethod yX11_takeOf ∈ TB ∧ Cond.selects RX11 yX11_takeOf yX11_takeOf ∈ TB := ⟨tb (i := 1388) (by decide +kernel) rfl, tb (i := 52) (by decide +kernel) rfl⟩
abbrev mX11_take : mM := (RX11, cX11_take, 3, (some .int))
set_option maxRecDepth 100000 in
theorem i_X11_take : MI yX11_take mX11_take 2 := ⟨rfl, pn_X11.1, tcc6 (i := 29) rfl rfl, pn_X11.2.1, ⟨pn_X11.2.2.1, pn_X11.2.2.2, pd_10⟩, by decide⟩
theorem v_X11_take : Cond.instanceMethod yX11_take ∈ TB ∧ Cond.selects RX11 yX11_take yX11_take ∈ TB := ⟨tb (i := 1383) (by decide +kernel) rfl, tb (i := 1384) (by decide +kernel) rfl⟩
abbrev mX11_councils : mM := (RX11, cX11_councils, 14, (some .int))
set_option maxRecDepth 100000 in
theorem i_X11_councils : MI yX11_councils mX11_councils 4 := ⟨rfl, pn_X11.1, tcc6 (i := 31) rfl rfl, pn_X11.2.1, ⟨pn_X11.2.2.1, pn_X11.2.2.2, pd_20⟩, by decide⟩
theorem v_X11_councils : Cond.instanceMethod yX11_councils ∈ TB ∧ Cond.selects RX11 yX11_councils yX11_councils ∈ TB := ⟨tb (i := 1391) (by decide +kernel) rfl, tb (i := 1392) (by decide +kernel) rfl⟩
abbrev mX11_worthOf : mM := (RX11, cX11_worthOf, 6, (some .int))
set_option maxRecDepth 100000 in
theorem i_X11_worthOf : MI yX11_worthOf mX11_worthOf 2 := ⟨rfl, pn_X11.1, tcc6 (i := 34) rfl rfl, pn_X11.2.1, ⟨pn_X11.2.2.1, pn_X11.2.2.2, pd_10⟩, by decide⟩
theorem v_X11_worthOf : Cond.instanceMethod yX11_worthOf ∈ TB ∧ Cond.selects RX11 yX11_worthOf yX11_worthOf ∈ TB := ⟨tb (i := 1404) (by decide +kernel) rfl, tb (i := 54) (by decide +kernel) rfl⟩
abbrev mX11_isSet : mM := (RX11, cX11_isSet, 2, (some .boolean))
set_option maxRecDepth 100000 in
theorem i_X11_isSet : MI yX11_isSet mX11_isSet 1 := ⟨rfl, pn_X11.1, tcc6 (i := 33) rfl rfl, pn_X11.2.1, ⟨pn_X11.2.2.1, pn_X11.2.2.2, pd_12⟩, by decide⟩
theorem v_X11_isSet : Cond.instanceMethod yX11_isSet ∈ TB ∧ Cond.selects RX11 yX11_isSet yX11_isSet ∈ TB := ⟨tb (i := 1400) (by decide +kernel) rfl, tb (i := 53) (by decide +kernel) rfl⟩
abbrev mX11_league : mM := (RX11, cX11_league, 3, (some .int))
set_option maxRecDepth 100000 in
theorem i_X11_league : MI yX11_league mX11_league 2 := ⟨rfl, pn_X11.1, tcc6 (i := 32) rfl rfl, pn_X11.2.1, ⟨pn_X11.2.2.1, pn_X11.2.2.2, pd_10⟩, by decide⟩
theorem v_X11_league : Cond.instanceMethod yX11_league ∈ TB ∧ Cond.selects RX11 yX11_league yX11_league ∈ TB := ⟨tb (i := 1395) (by decide +kernel) rfl, tb (i := 1396) (by decide +kernel) rfl⟩
abbrev mX11_orders : mM := (RX11, cX11_orders, 4, (some .long))
set_option maxRecDepth 100000 in
theorem i_X11_orders : MI yX11_orders mX11_orders 1 := ⟨rfl, pn_X11.1, tcc6 (i := 37) rfl rfl, pn_X11.2.1, ⟨pn_X11.2.2.1, pn_X11.2.2.2, pd_30⟩, by decide⟩
theorem s_X11_orders : Cond.static yX11_orders ∈ TB := tb (i := 1415) (by decide +kernel) rfl
abbrev mX11_layPart : mM := (RX11, cX11_layPart, 11, (some .boolean))
set_option maxRecDepth 100000 in
theorem i_X11_layPart : MI yX11_layPart mX11_layPart 3 := ⟨rfl, pn_X11.1, tcc6 (i := 36) rfl rfl, pn_X11.2.1, ⟨pn_X11.2.2.1, pn_X11.2.2.2, pd_19⟩, by decide⟩
theorem v_X11_layPart : Cond.instanceMethod yX11_layPart ∈ TB ∧ Cond.selects RX11 yX11_layPart yX11_layPart ∈ TB := ⟨tb (i := 1412) (by decide +kernel) rfl, tb (i := 55) (by decide +kernel) rfl⟩
abbrev mX11_upper : mM := (RX11, cX11_upper, 4, (some .long))
set_option maxRecDepth 100000 in
theorem i_X11_upper : MI yX11_upper mX11_upper 3 := ⟨rfl, pn_X11.1, tcc6 (i := 35) rfl rfl, pn_X11.2.1, ⟨pn_X11.2.2.1, pn_X11.2.2.2, pd_25⟩, by decide⟩
theorem v_X11_upper : Cond.instanceMethod yX11_upper ∈ TB ∧ Cond.selects RX11 yX11_upper yX11_upper ∈ TB := ⟨tb (i := 1407) (by decide +kernel) rfl, tb (i := 1408) (by decide +kernel) rfl⟩
abbrev mX11_lower : mM := (RX11, cX11_lower, 4, (some .long))
set_option maxRecDepth 100000 in
theorem i_X11_lower : MI yX11_lower mX11_lower 3 := ⟨rfl, pn_X11.1, tcc6 (i := 38) rfl rfl, pn_X11.2.1, ⟨pn_X11.2.2.1, pn_X11.2.2.2, pd_25⟩, by decide⟩
theorem v_X11_lower : Cond.instanceMethod yX11_lower ∈ TB ∧ Cond.selects RX11 yX11_lower yX11_lower ∈ TB := ⟨tb (i := 1419) (by decide +kernel) rfl, tb (i := 1420) (by decide +kernel) rfl⟩
abbrev mX11_change : mM := (RX11, cX11_change, 8, (some .int))
set_option maxRecDepth 100000 in
theorem i_X11_change : MI yX11_change mX11_change 3 := ⟨rfl, pn_X11.1, tcc6 (i := 39) rfl rfl, pn_X11.2.1, ⟨pn_X11.2.2.1, pn_X11.2.2.2, pd_2⟩, by decide⟩
theorem v_X11_change : Cond.instanceMethod yX11_change ∈ TB ∧ Cond.selects RX11 yX11_change yX11_change ∈ TB := ⟨tb (i := 1423) (by decide +kernel) rfl, tb (i := 1424) (by decide +kernel) rfl⟩
abbrev mX11_well : mM := (RX11, cX11_well, 4, (some .int))
set_option maxRecDepth 100000 in
theorem i_X11_well : MI yX11_well mX11_well 2 := ⟨rfl, pn_X11.1, tcc6 (i := 40) rfl rfl, pn_X11.2.1, ⟨pn_X11.2.2.1, pn_X11.2.2.2, pd_10⟩, by decide⟩
theorem v_X11_well : Cond.instanceMethod yX11_well ∈ TB ∧ Cond.selects RX11 yX11_well yX11_well ∈ TB := ⟨tb (i := 1427) (by decide +kernel) rfl, tb (i := 1428) (by decide +kernel) rfl⟩
abbrev mX11_image : mM := (RX11, cX11_image, 2, (some .int))
set_option maxRecDepth 100000 in
theorem i_X11_image : MI yX11_image mX11_image 0 := ⟨rfl, pn_X11.1, tcc6 (i := 41) rfl rfl, pn_X11.2.1, ⟨pn_X11.2.2.1, pn_X11.2.2.2, pd_7⟩, by decide⟩
theorem v_X11_image : Cond.instanceMethod yX11_image ∈ TB ∧ Cond.selects RX11 yX11_image yX11_image ∈ TB := ⟨tb (i := 1431) (by decide +kernel) rfl, tb (i := 1432) (by decide +kernel) rfl⟩
abbrev mX11_restore : mM := (RX11, cX11_restore, 2, (some .int))
set_option maxRecDepth 100000 in
theorem i_X11_restore : MI yX11_restore mX11_restore 0 := ⟨rfl, pn_X11.1, tcc6 (i := 42) rfl rfl, pn_X11.2.1, ⟨pn_X11.2.2.1, pn_X11.2.2.2, pd_7⟩, by decide⟩
theorem v_X11_restore : Cond.instanceMethod yX11_restore ∈ TB ∧ Cond.selects RX11 yX11_restore yX11_restore ∈ TB := ⟨tb (i := 1435) (by decide +kernel) rfl, tb (i := 1436) (by decide +kernel) rfl⟩
abbrev mX11_isSheet : mM := (RX11, cX11_isSheet, 1, (some .boolean))
set_option maxRecDepth 100000 in
theorem i_X11_isSheet : MI yX11_isSheet mX11_isSheet 1 := ⟨rfl, pn_X11.1, tcc6 (i := 44) rfl rfl, pn_X11.2.1, ⟨pn_X11.2.2.1, pn_X11.2.2.2, pd_12⟩, by decide⟩
theorem s_X11_isSheet : Cond.static yX11_isSheet ∈ TB := tb (i := 1443) (by decide +kernel) rfl
abbrev mX11_isLane : mM := (RX11, cX11_isLane, 1, (some .boolean))
set_option maxRecDepth 100000 in
theorem i_X11_isLane : MI yX11_isLane mX11_isLane 1 := ⟨rfl, pn_X11.1, tcc6 (i := 45) rfl rfl, pn_X11.2.1, ⟨pn_X11.2.2.1, pn_X11.2.2.2, pd_12⟩, by decide⟩
theorem s_X11_isLane : Cond.static yX11_isLane ∈ TB := tb (i := 1446) (by decide +kernel) rfl
abbrev mX11_finds : mM := (RX11, cX11_finds, 5, (some .int))
set_option maxRecDepth 100000 in
theorem i_X11_finds : MI yX11_finds mX11_finds 4 := ⟨rfl, pn_X11.1, tcc6 (i := 46) rfl rfl, pn_X11.2.1, ⟨pn_X11.2.2.1, pn_X11.2.2.2, pd_20⟩, by decide⟩
theorem v_X11_finds : Cond.instanceMethod yX11_finds ∈ TB ∧ Cond.selects RX11 yX11_finds yX11_finds ∈ TB := ⟨tb (i := 1450) (by decide +kernel) rfl, tb (i := 56) (by decide +kernel) rfl⟩
abbrev mX11_evens : mM := (RX11, cX11_evens, 10, (some .int))
set_option maxRecDepth 100000 in
theorem i_X11_evens : MI yX11_evens mX11_evens 3 := ⟨rfl, pn_X11.1, tcc6 (i := 47) rfl rfl, pn_X11.2.1, ⟨pn_X11.2.2.1, pn_X11.2.2.2, pd_2⟩, by decide⟩
theorem v_X11_evens : Cond.instanceMethod yX11_evens ∈ TB ∧ Cond.selects RX11 yX11_evens yX11_evens ∈ TB := ⟨tb (i := 1458) (by decide +kernel) rfl, tb (i := 57) (by decide +kernel) rfl⟩
abbrev mX11_beam : mM := (RX11, cX11_beam, 15, (some .int))
set_option maxRecDepth 100000 in
theorem i_X11_beam : MI yX11_beam mX11_beam 7 := ⟨rfl, pn_X11.1, tcc6 (i := 43) rfl rfl, pn_X11.2.1, ⟨pn_X11.2.2.1, pn_X11.2.2.2, pd_26⟩, by decide⟩
theorem v_X11_beam : Cond.instanceMethod yX11_beam ∈ TB ∧ Cond.selects RX11 yX11_beam yX11_beam ∈ TB := ⟨tb (i := 1439) (by decide +kernel) rfl, tb (i := 1440) (by decide +kernel) rfl⟩
abbrev mX11_layBook : mM := (RX11, cX11_layBook, 12, (some .int))
set_option maxRecDepth 100000 in
theorem i_X11_layBook : MI yX11_layBook mX11_layBook 5 := ⟨rfl, pn_X11.1, tcc6 (i := 49) rfl rfl, pn_X11.2.1, ⟨pn_X11.2.2.1, pn_X11.2.2.2, pd_24⟩, by decide⟩
theorem v_X11_layBook : Cond.instanceMethod yX11_layBook ∈ TB ∧ Cond.selects RX11 yX11_layBook yX11_layBook ∈ TB := ⟨tb (i := 1468) (by decide +kernel) rfl, tb (i := 58) (by decide +kernel) rfl⟩
abbrev mX11_book : mM := (RX11, cX11_book, 14, (some .int))
set_option maxRecDepth 100000 in
theorem i_X11_book : MI yX11_book mX11_book 8 := ⟨rfl, pn_X11.1, tcc6 (i := 48) rfl rfl, pn_X11.2.1, ⟨pn_X11.2.2.1, pn_X11.2.2.2, pd_27⟩, by decide⟩
theorem v_X11_book : Cond.instanceMethod yX11_book ∈ TB ∧ Cond.selects RX11 yX11_book yX11_book ∈ TB := ⟨tb (i := 1461) (by decide +kernel) rfl, tb (i := 1462) (by decide +kernel) rfl⟩
abbrev mX11_mills : mM := (RX11, cX11_mills, 12, (some .int))
set_option maxRecDepth 100000 in
theorem i_X11_mills : MI yX11_mills mX11_mills 4 := ⟨rfl, pn_X11.1, tcc6 (i := 50) rfl rfl, pn_X11.2.1, ⟨pn_X11.2.2.1, pn_X11.2.2.2, pd_20⟩, by decide⟩
theorem v_X11_mills : Cond.instanceMethod yX11_mills ∈ TB ∧ Cond.selects RX11 yX11_mills yX11_mills ∈ TB := ⟨tb (i := 1471) (by decide +kernel) rfl, tb (i := 1472) (by decide +kernel) rfl⟩
abbrev mX11_cut : mM := (RX11, cX11_cut, 3, (some .long))
set_option maxRecDepth 100000 in
theorem i_X11_cut : MI yX11_cut mX11_cut 2 := ⟨rfl, pn_X11.1, tcc6 (i := 52) rfl rfl, pn_X11.2.1, ⟨pn_X11.2.2.1, pn_X11.2.2.2, pd_31⟩, by decide⟩
theorem s_X11_cut : Cond.static yX11_cut ∈ TB := tb (i := 1479) (by decide +kernel) rfl
abbrev mX11_film : mM := (RX11, cX11_film, 6, (some .int))
set_option maxRecDepth 100000 in
theorem i_X11_film : MI yX11_film mX11_film 3 := ⟨rfl, pn_X11.1, tcc6 (i := 51) rfl rfl, pn_X11.2.1, ⟨pn_X11.2.2.1, pn_X11.2.2.2, pd_2⟩, by decide⟩
theorem v_X11_film : Cond.instanceMethod yX11_film ∈ TB ∧ Cond.selects RX11 yX11_film yX11_film ∈ TB := ⟨tb (i := 1475) (by decide +kernel) rfl, tb (i := 1476) (by decide +kernel) rfl⟩
abbrev mX11_sheet : mM := (RX11, cX11_sheet, 5, (some .int))
set_option maxRecDepth 100000 in
theorem i_X11_sheet : MI yX11_sheet mX11_sheet 3 := ⟨rfl, pn_X11.1, tcc6 (i := 53) rfl rfl, pn_X11.2.1, ⟨pn_X11.2.2.1, pn_X11.2.2.2, pd_2⟩, by decide⟩
theorem v_X11_sheet : Cond.instanceMethod yX11_sheet ∈ TB ∧ Cond.selects RX11 yX11_sheet yX11_sheet ∈ TB := ⟨tb (i := 1482) (by decide +kernel) rfl, tb (i := 1483) (by decide +kernel) rfl⟩
abbrev mX11_drop : mM := (RX11, cX11_drop, 3, (some .int))
set_option maxRecDepth 100000 in
theorem i_X11_drop : MI yX11_drop mX11_drop 1 := ⟨rfl, pn_X11.1, tcc6 (i := 54) rfl rfl, pn_X11.2.1, ⟨pn_X11.2.2.1, pn_X11.2.2.2, pd_3⟩, by decide⟩
theorem v_X11_drop : Cond.instanceMethod yX11_drop ∈ TB ∧ Cond.selects RX11 yX11_drop yX11_drop ∈ TB := ⟨tb (i := 1486) (by decide +kernel) rfl, tb (i := 1487) (by decide +kernel) rfl⟩
abbrev mX11_item : mM := (RX11, cX11_item, 7, (some .int))
set_option maxRecDepth 100000 in
theorem i_X11_item : MI yX11_item mX11_item 4 := ⟨rfl, pn_X11.1, tcc6 (i := 55) rfl rfl, pn_X11.2.1, ⟨pn_X11.2.2.1, pn_X11.2.2.2, pd_28⟩, by decide⟩
theorem v_X11_item : Cond.instanceMethod yX11_item ∈ TB ∧ Cond.selects RX11 yX11_item yX11_item ∈ TB := ⟨tb (i := 1490) (by decide +kernel) rfl, tb (i := 1491) (by decide +kernel) rfl⟩
abbrev mX11_copy : mM := (RX11, cX11_copy, 10, (some .int))
set_option maxRecDepth 100000 in
theorem i_X11_copy : MI yX11_copy mX11_copy 5 := ⟨rfl, pn_X11.1, tcc6 (i := 56) rfl rfl, pn_X11.2.1, ⟨pn_X11.2.2.1, pn_X11.2.2.2, pd_24⟩, by decide⟩
theorem v_X11_copy : Cond.instanceMethod yX11_copy ∈ TB ∧ Cond.selects RX11 yX11_copy yX11_copy ∈ TB := ⟨tb (i := 1494) (by decide +kernel) rfl, tb (i := 1495) (by decide +kernel) rfl⟩
abbrev mJ11_isValidCodePoint_9a6ad : mM := (RJ11, cJ11_isValidCodePoint_9a6ad, 2, (some .boolean))
set_option maxRecDepth 100000 in
theorem i_J11_isValidCodePoint_9a6ad : MI yJ11_isValidCodePoint_9a6ad mJ11_isValidCodePoint_9a6ad 1 := ⟨rfl, pn_J11.1, tcc3 (i := 39) rfl rfl, pn_J11.2.1, ⟨pn_J11.2.2.1, pn_J11.2.2.2, pd_12⟩, by decide⟩
theorem s_J11_isValidCodePoint_9a6ad : Cond.static yJ11_isValidCodePoint_9a6ad ∈ TB := tb (i := 699) (by decide +kernel) rfl
abbrev mJ11_highSurrogate_5068e : mM := (RJ11, cJ11_highSurrogate_5068e, 1, (some .char))
set_option maxRecDepth 100000 in
theorem i_J11_highSurrogate_5068e : MI yJ11_highSurrogate_5068e mJ11_highSurrogate_5068e 1 := ⟨rfl, pn_J11.1, tcc3 (i := 40) rfl rfl, pn_J11.2.1, ⟨pn_J11.2.2.1, pn_J11.2.2.2, pd_32⟩, by decide⟩
theorem s_J11_highSurrogate_5068e : Cond.static yJ11_highSurrogate_5068e ∈ TB := tb (i := 702) (by decide +kernel) rfl
abbrev mJ11_lowSurrogate_5068e : mM := (RJ11, cJ11_lowSurrogate_5068e, 1, (some .char))
set_option maxRecDepth 100000 in
theorem i_J11_lowSurrogate_5068e : MI yJ11_lowSurrogate_5068e mJ11_lowSurrogate_5068e 1 := ⟨rfl, pn_J11.1, tcc3 (i := 41) rfl rfl, pn_J11.2.1, ⟨pn_J11.2.2.1, pn_J11.2.2.2, pd_32⟩, by decide⟩
theorem s_J11_lowSurrogate_5068e : Cond.static yJ11_lowSurrogate_5068e ∈ TB := tb (i := 706) (by decide +kernel) rfl
abbrev mJ6_bitCount_0f7a4 : mM := (RJ6, cJ6_bitCount_0f7a4, 1, (some .int))
set_option maxRecDepth 100000 in
theorem i_J6_bitCount_0f7a4 : MI yJ6_bitCount_0f7a4 mJ6_bitCount_0f7a4 1 := ⟨rfl, pn_J6.1, tcc4 (i := 23) rfl rfl, pn_J6.2.1, ⟨pn_J6.2.2.1, pn_J6.2.2.2, pd_3⟩, by decide⟩
theorem s_J6_bitCount_0f7a4 : Cond.static yJ6_bitCount_0f7a4 ∈ TB := tb (i := 882) (by decide +kernel) rfl
abbrev mJ0_length_8abf5 : mM := (RJ0, cJ0_length_8abf5, 1, (some .int))
set_option maxRecDepth 100000 in
theorem i_J0_length_8abf5 : MI yJ0_length_8abf5 mJ0_length_8abf5 0 := ⟨rfl, pn_J0.1, tcc3 (i := 25) rfl rfl, pn_J0.2.1, ⟨pn_J0.2.2.1, pn_J0.2.2.2, pd_7⟩, by decide⟩
theorem v_J0_length_8abf5 : Cond.instanceMethod yJ0_length_8abf5 ∈ TB ∧ Cond.selects RJ0 yJ0_length_8abf5 yJ0_length_8abf5 ∈ TB := ⟨tb (i := 642) (by decide +kernel) rfl, tb (i := 643) (by decide +kernel) rfl⟩
abbrev mJ0_indexOf_0f7a4 : mM := (RJ0, cJ0_indexOf_0f7a4, 2, (some .int))
set_option maxRecDepth 100000 in
theorem i_J0_indexOf_0f7a4 : MI yJ0_indexOf_0f7a4 mJ0_indexOf_0f7a4 1 := ⟨rfl, pn_J0.1, tcc3 (i := 22) rfl rfl, pn_J0.2.1, ⟨pn_J0.2.2.1, pn_J0.2.2.2, pd_3⟩, by decide⟩
theorem v_J0_indexOf_0f7a4 : Cond.instanceMethod yJ0_indexOf_0f7a4 ∈ TB ∧ Cond.selects RJ0 yJ0_indexOf_0f7a4 yJ0_indexOf_0f7a4 ∈ TB := ⟨tb (i := 628) (by decide +kernel) rfl, tb (i := 629) (by decide +kernel) rfl⟩
abbrev mJ0_indexOf_7cf53 : mM := (RJ0, cJ0_indexOf_7cf53, 3, (some .int))
set_option maxRecDepth 100000 in
theorem i_J0_indexOf_7cf53 : MI yJ0_indexOf_7cf53 mJ0_indexOf_7cf53 2 := ⟨rfl, pn_J0.1, tcc3 (i := 23) rfl rfl, pn_J0.2.1, ⟨pn_J0.2.2.1, pn_J0.2.2.2, pd_10⟩, by decide⟩
theorem v_J0_indexOf_7cf53 : Cond.instanceMethod yJ0_indexOf_7cf53 ∈ TB ∧ Cond.selects RJ0 yJ0_indexOf_7cf53 yJ0_indexOf_7cf53 ∈ TB := ⟨tb (i := 632) (by decide +kernel) rfl, tb (i := 633) (by decide +kernel) rfl⟩
abbrev mJ0_coder_7d493 : mM := (RJ0, cJ0_coder_7d493, 1, (some .byte))
set_option maxRecDepth 100000 in
theorem i_J0_coder_7d493 : MI yJ0_coder_7d493 mJ0_coder_7d493 0 := ⟨rfl, pn_J0.1, tcc3 (i := 26) rfl rfl, pn_J0.2.1, ⟨pn_J0.2.2.1, pn_J0.2.2.2, pd_33⟩, by decide⟩
theorem v_J0_coder_7d493 : Cond.instanceMethod yJ0_coder_7d493 ∈ TB ∧ Cond.selects RJ0 yJ0_coder_7d493 yJ0_coder_7d493 ∈ TB := ⟨tb (i := 646) (by decide +kernel) rfl, tb (i := 647) (by decide +kernel) rfl⟩
abbrev mJ0_isLatin1_aae02 : mM := (RJ0, cJ0_isLatin1_aae02, 1, (some .boolean))
set_option maxRecDepth 100000 in
theorem i_J0_isLatin1_aae02 : MI yJ0_isLatin1_aae02 mJ0_isLatin1_aae02 0 := ⟨rfl, pn_J0.1, tcc3 (i := 24) rfl rfl, pn_J0.2.1, ⟨pn_J0.2.2.1, pn_J0.2.2.2, pd_22⟩, by decide⟩
theorem v_J0_isLatin1_aae02 : Cond.instanceMethod yJ0_isLatin1_aae02 ∈ TB ∧ Cond.selects RJ0 yJ0_isLatin1_aae02 yJ0_isLatin1_aae02 ∈ TB := ⟨tb (i := 636) (by decide +kernel) rfl, tb (i := 637) (by decide +kernel) rfl⟩
abbrev mJ0_checkBoundsBeginEnd_23922 : mM := (RJ0, cJ0_checkBoundsBeginEnd_23922, 3, none)
set_option maxRecDepth 100000 in
theorem i_J0_checkBoundsBeginEnd_23922 : MI yJ0_checkBoundsBeginEnd_23922 mJ0_checkBoundsBeginEnd_23922 3 := ⟨rfl, pn_J0.1, tcc3 (i := 34) rfl rfl, pn_J0.2.1, ⟨pn_J0.2.2.1, pn_J0.2.2.2, pd_5⟩, by decide⟩
theorem s_J0_checkBoundsBeginEnd_23922 : Cond.static yJ0_checkBoundsBeginEnd_23922 ∈ TB := tb (i := 676) (by decide +kernel) rfl
abbrev mJ1_canEncode_9a6ad : mM := (RJ1, cJ1_canEncode_9a6ad, 1, (some .boolean))
set_option maxRecDepth 100000 in
theorem i_J1_canEncode_9a6ad : MI yJ1_canEncode_9a6ad mJ1_canEncode_9a6ad 1 := ⟨rfl, pn_J1.1, tcc3 (i := 28) rfl rfl, pn_J1.2.1, ⟨pn_J1.2.2.1, pn_J1.2.2.2, pd_12⟩, by decide⟩
theorem s_J1_canEncode_9a6ad : Cond.static yJ1_canEncode_9a6ad ∈ TB := tb (i := 653) (by decide +kernel) rfl
abbrev mJ1_indexOf_4cfef : mM := (RJ1, cJ1_indexOf_4cfef, 4, (some .int))
set_option maxRecDepth 100000 in
theorem i_J1_indexOf_4cfef : MI yJ1_indexOf_4cfef mJ1_indexOf_4cfef 4 := ⟨rfl, pn_J1.1, tcc3 (i := 27) rfl rfl, pn_J1.2.1, ⟨pn_J1.2.2.1, pn_J1.2.2.2, pd_34⟩, by decide⟩
theorem s_J1_indexOf_4cfef : Cond.static yJ1_indexOf_4cfef ∈ TB := tb (i := 650) (by decide +kernel) rfl
abbrev mJ1_indexOfChar_4cfef : mM := (RJ1, cJ1_indexOfChar_4cfef, 6, (some .int))
set_option maxRecDepth 100000 in
theorem i_J1_indexOfChar_4cfef : MI yJ1_indexOfChar_4cfef mJ1_indexOfChar_4cfef 4 := ⟨rfl, pn_J1.1, tcc3 (i := 29) rfl rfl, pn_J1.2.1, ⟨pn_J1.2.2.1, pn_J1.2.2.2, pd_34⟩, by decide⟩
theorem s_J1_indexOfChar_4cfef : Cond.static yJ1_indexOfChar_4cfef ∈ TB := tb (i := 658) (by decide +kernel) rfl
abbrev mJ2_getChar_3b067 : mM := (RJ2, cJ2_getChar_3b067, 2, (some .char))
set_option maxRecDepth 100000 in
theorem i_J2_getChar_3b067 : MI yJ2_getChar_3b067 mJ2_getChar_3b067 2 := ⟨rfl, pn_J2.1, tcc3 (i := 37) rfl rfl, pn_J2.2.1, ⟨pn_J2.2.2.1, pn_J2.2.2.2, pd_35⟩, by decide⟩
theorem s_J2_getChar_3b067 : Cond.static yJ2_getChar_3b067 ∈ TB := tb (i := 687) (by decide +kernel) rfl
abbrev mJ2_length_9d52b : mM := (RJ2, cJ2_length_9d52b, 1, (some .int))
set_option maxRecDepth 100000 in
theorem i_J2_length_9d52b : MI yJ2_length_9d52b mJ2_length_9d52b 1 := ⟨rfl, pn_J2.1, tcc3 (i := 33) rfl rfl, pn_J2.2.1, ⟨pn_J2.2.2.1, pn_J2.2.2.2, pd_36⟩, by decide⟩
theorem s_J2_length_9d52b : Cond.static yJ2_length_9d52b ∈ TB := tb (i := 673) (by decide +kernel) rfl
abbrev mJ2_indexOf_4cfef : mM := (RJ2, cJ2_indexOf_4cfef, 4, (some .int))
set_option maxRecDepth 100000 in
theorem i_J2_indexOf_4cfef : MI yJ2_indexOf_4cfef mJ2_indexOf_4cfef 4 := ⟨rfl, pn_J2.1, tcc3 (i := 30) rfl rfl, pn_J2.2.1, ⟨pn_J2.2.2.1, pn_J2.2.2.2, pd_34⟩, by decide⟩
theorem s_J2_indexOf_4cfef : Cond.static yJ2_indexOf_4cfef ∈ TB := tb (i := 661) (by decide +kernel) rfl
abbrev mJ2_indexOfChar_4cfef : mM := (RJ2, cJ2_indexOfChar_4cfef, 4, (some .int))
set_option maxRecDepth 100000 in
theorem i_J2_indexOfChar_4cfef : MI yJ2_indexOfChar_4cfef mJ2_indexOfChar_4cfef 4 := ⟨rfl, pn_J2.1, tcc3 (i := 31) rfl rfl, pn_J2.2.1, ⟨pn_J2.2.2.1, pn_J2.2.2.2, pd_34⟩, by decide⟩
theorem s_J2_indexOfChar_4cfef : Cond.static yJ2_indexOfChar_4cfef ∈ TB := tb (i := 667) (by decide +kernel) rfl
abbrev mJ2_indexOfCharUnsafe_4cfef : mM := (RJ2, cJ2_indexOfCharUnsafe_4cfef, 5, (some .int))
set_option maxRecDepth 100000 in
theorem i_J2_indexOfCharUnsafe_4cfef : MI yJ2_indexOfCharUnsafe_4cfef mJ2_indexOfCharUnsafe_4cfef 4 := ⟨rfl, pn_J2.1, tcc3 (i := 36) rfl rfl, pn_J2.2.1, ⟨pn_J2.2.2.1, pn_J2.2.2.2, pd_34⟩, by decide⟩
theorem s_J2_indexOfCharUnsafe_4cfef : Cond.static yJ2_indexOfCharUnsafe_4cfef ∈ TB := tb (i := 684) (by decide +kernel) rfl
abbrev mJ2_indexOfSupplementary_4cfef : mM := (RJ2, cJ2_indexOfSupplementary_4cfef, 7, (some .int))
set_option maxRecDepth 100000 in
theorem i_J2_indexOfSupplementary_4cfef : MI yJ2_indexOfSupplementary_4cfef mJ2_indexOfSupplementary_4cfef 4 := ⟨rfl, pn_J2.1, tcc3 (i := 38) rfl rfl, pn_J2.2.1, ⟨pn_J2.2.2.1, pn_J2.2.2.2, pd_34⟩, by decide⟩
theorem s_J2_indexOfSupplementary_4cfef : Cond.static yJ2_indexOfSupplementary_4cfef ∈ TB := tb (i := 696) (by decide +kernel) rfl
abbrev mJ2_checkBoundsBeginEnd_d044e : mM := (RJ2, cJ2_checkBoundsBeginEnd_d044e, 3, none)
set_option maxRecDepth 100000 in
theorem i_J2_checkBoundsBeginEnd_d044e : MI yJ2_checkBoundsBeginEnd_d044e mJ2_checkBoundsBeginEnd_d044e 3 := ⟨rfl, pn_J2.1, tcc3 (i := 32) rfl rfl, pn_J2.2.1, ⟨pn_J2.2.2.1, pn_J2.2.2.2, pd_37⟩, by decide⟩
theorem s_J2_checkBoundsBeginEnd_d044e : Cond.static yJ2_checkBoundsBeginEnd_d044e ∈ TB := tb (i := 670) (by decide +kernel) rfl
abbrev mJ7_fill_d0a16 : mM := (RJ7, cJ7_fill_d0a16, 5, none)
set_option maxRecDepth 100000 in
theorem i_J7_fill_d0a16 : MI yJ7_fill_d0a16 mJ7_fill_d0a16 2 := ⟨rfl, pn_J7.1, tcc5 (i := 16) rfl rfl, pn_J7.2.1, ⟨pn_J7.2.2.1, pn_J7.2.2.2, pd_38⟩, by decide⟩
theorem s_J7_fill_d0a16 : Cond.static yJ7_fill_d0a16 ∈ TB := tb (i := 1089) (by decide +kernel) rfl
abbrev mJ7_fill_53178 : mM := (RJ7, cJ7_fill_53178, 4, none)
set_option maxRecDepth 100000 in
theorem i_J7_fill_53178 : MI yJ7_fill_53178 mJ7_fill_53178 2 := ⟨rfl, pn_J7.1, tcc3 (i := 56) rfl rfl, pn_J7.2.1, ⟨pn_J7.2.2.1, pn_J7.2.2.2, pd_39⟩, by decide⟩
theorem s_J7_fill_53178 : Cond.static yJ7_fill_53178 ∈ TB := tb (i := 776) (by decide +kernel) rfl
abbrev mJ3_checkFromToIndex_8c36e : mM := (RJ3, cJ3_checkFromToIndex_8c36e, 4, (some .int))
set_option maxRecDepth 100000 in
theorem i_J3_checkFromToIndex_8c36e : MI yJ3_checkFromToIndex_8c36e mJ3_checkFromToIndex_8c36e 4 := ⟨rfl, pn_J3.1, tcc3 (i := 35) rfl rfl, pn_J3.2.1, ⟨pn_J3.2.2.1, pn_J3.2.2.2, pd_40⟩, by decide⟩
theorem s_J3_checkFromToIndex_8c36e : Cond.static yJ3_checkFromToIndex_8c36e ∈ TB := tb (i := 681) (by decide +kernel) rfl
theorem k_X10_72 : CS RX10 72 mX10_within 3 := ⟨_, i_X10_within, tb (i := 455) (by decide +kernel) rfl, s_X10_within⟩
theorem k_X10_86 : CV RX10 86 mX3_addParish 1 2 := ⟨_, TX3, 7, i_X3_addParish, tb (i := 458) (by decide +kernel) rfl, v_X3_addParish.1, v_X3_addParish.2, rfl⟩
theorem k_X10_90 : CV RX10 90 mX3_hasParish 1 2 := ⟨_, TX3, 7, i_X3_hasParish, tb (i := 466) (by decide +kernel) rfl, v_X3_hasParish.1, v_X3_hasParish.2, rfl⟩
theorem k_X10_98 : CV RX10 98 mX3_joins 2 2 := ⟨_, TX3, 7, i_X3_joins, tb (i := 474) (by decide +kernel) rfl, v_X3_joins.1, v_X3_joins.2, rfl⟩
theorem k_X10_105 : CV RX10 105 mX3_addRoad 3 2 := ⟨_, TX3, 7, i_X3_addRoad, tb (i := 484) (by decide +kernel) rfl, v_X3_addRoad.1, v_X3_addRoad.2, rfl⟩
theorem k_X10_109 : CV RX10 109 mX3_hasRoad 1 2 := ⟨_, TX3, 7, i_X3_hasRoad, tb (i := 492) (by decide +kernel) rfl, v_X3_hasRoad.1, v_X3_hasRoad.2, rfl⟩
theorem k_X10_118 : CV RX10 118 mX7_addCart 2 6 := ⟨_, TX7, 13, i_X7_addCart, tb (i := 500) (by decide +kernel) rfl, v_X7_addCart.1, v_X7_addCart.2, rfl⟩
theorem k_X10_125 : CV RX10 125 mX7_addGood 3 6 := ⟨_, TX7, 13, i_X7_addGood, tb (i := 508) (by decide +kernel) rfl, v_X7_addGood.1, v_X7_addGood.2, rfl⟩
theorem k_X10_128 : CV RX10 128 mX7_hasGood 1 6 := ⟨_, TX7, 13, i_X7_hasGood, tb (i := 516) (by decide +kernel) rfl, v_X7_hasGood.1, v_X7_hasGood.2, rfl⟩
theorem k_X10_131 : CV RX10 131 mX7_weightOfGood 1 6 := ⟨_, TX7, 13, i_X7_weightOfGood, tb (i := 520) (by decide +kernel) rfl, v_X7_weightOfGood.1, v_X7_weightOfGood.2, rfl⟩
theorem k_X7_65 : CV RX7 65 mX7_weightAt 2 6 := ⟨_, TX7, 13, i_X7_weightAt, tb (i := 524) (by decide +kernel) rfl, v_X7_weightAt.1, v_X7_weightAt.2, rfl⟩
theorem k_X7_57 : CV RX7 57 mX7_season 0 6 := ⟨_, TX7, 13, i_X7_season, tb (i := 528) (by decide +kernel) rfl, v_X7_season.1, v_X7_season.2, rfl⟩
theorem k_X7_47 : CS RX7 47 mX7_seasonOf 1 := ⟨_, i_X7_seasonOf, tb (i := 532) (by decide +kernel) rfl, s_X7_seasonOf⟩
theorem k_X7_61 : CS RX7 61 mX3_weight 3 := ⟨_, i_X3_weight, tb (i := 535) (by decide +kernel) rfl, s_X3_weight⟩
theorem k_X10_140 : CV RX10 140 mX7_addPerson 2 6 := ⟨_, TX7, 13, i_X7_addPerson, tb (i := 542) (by decide +kernel) rfl, v_X7_addPerson.1, v_X7_addPerson.2, rfl⟩
theorem k_X10_146 : CV RX10 146 mX3_roadsAt 1 2 := ⟨_, TX3, 7, i_X3_roadsAt, tb (i := 550) (by decide +kernel) rfl, v_X3_roadsAt.1, v_X3_roadsAt.2, rfl⟩
theorem k_X3_43 : CV RX3 43 mX3_otherEnd 2 2 := ⟨_, TX3, 7, i_X3_otherEnd, tb (i := 554) (by decide +kernel) rfl, v_X3_otherEnd.1, v_X3_otherEnd.2, rfl⟩
theorem k_X10_152 : CS RX10 152 mX10_setThere 3 := ⟨_, i_X10_setThere, tb (i := 558) (by decide +kernel) rfl, s_X10_setThere⟩
theorem k_X10_159 : CV RX10 159 mX10_toldOfRoad 2 9 := ⟨_, TX10, 10, i_X10_toldOfRoad, tb (i := 565) (by decide +kernel) rfl, v_X10_toldOfRoad.1, v_X10_toldOfRoad.2, rfl⟩
theorem k_X10_162 : CV RX10 162 mX10_toldOfCart 2 9 := ⟨_, TX10, 10, i_X10_toldOfCart, tb (i := 569) (by decide +kernel) rfl, v_X10_toldOfCart.1, v_X10_toldOfCart.2, rfl⟩
theorem k_X10_210 : CV RX10 210 mX7_hasCart 1 6 := ⟨_, TX7, 13, i_X7_hasCart, tb (i := 573) (by decide +kernel) rfl, v_X7_hasCart.1, v_X7_hasCart.2, rfl⟩
theorem k_X10_165 : CV RX10 165 mX10_toldOfGood 2 9 := ⟨_, TX10, 10, i_X10_toldOfGood, tb (i := 577) (by decide +kernel) rfl, v_X10_toldOfGood.1, v_X10_toldOfGood.2, rfl⟩
theorem k_X10_168 : CV RX10 168 mX10_toldOfPerson 2 9 := ⟨_, TX10, 10, i_X10_toldOfPerson, tb (i := 581) (by decide +kernel) rfl, v_X10_toldOfPerson.1, v_X10_toldOfPerson.2, rfl⟩
theorem k_X10_171 : CV RX10 171 mX7_weightAt 2 6 := ⟨_, TX7, 13, i_X7_weightAt, tb (i := 589) (by decide +kernel) rfl, v_X7_weightAt.1, v_X7_weightAt.2, rfl⟩
theorem k_X10_174 : CV RX10 174 mX8_isFull 0 7 := ⟨_, TX8, 4, i_X8_isFull, tb (i := 594) (by decide +kernel) rfl, v_X8_isFull.1, v_X8_isFull.2, rfl⟩
theorem k_X10_178 : CV RX10 178 mX8_add 1 7 := ⟨_, TX8, 4, i_X8_add, tb (i := 598) (by decide +kernel) rfl, v_X8_add.1, v_X8_add.2, rfl⟩
theorem k_X10_181 : CV RX10 181 mX8_read 0 7 := ⟨_, TX8, 4, i_X8_read, tb (i := 606) (by decide +kernel) rfl, v_X8_read.1, v_X8_read.2, rfl⟩
theorem k_X8_29 : CV RX8 29 mX3_clear 0 2 := ⟨_, TX3, 7, i_X3_clear, tb (i := 610) (by decide +kernel) rfl, v_X3_clear.1, v_X3_clear.2, rfl⟩
theorem k_X8_32 : CV RX8 32 mX8_readParishes 0 7 := ⟨_, TX8, 4, i_X8_readParishes, tb (i := 614) (by decide +kernel) rfl, v_X8_readParishes.1, v_X8_readParishes.2, rfl⟩
theorem k_X8_46 : CV RX8 46 mX8_readParish 0 7 := ⟨_, TX8, 4, i_X8_readParish, tb (i := 618) (by decide +kernel) rfl, v_X8_readParish.1, v_X8_readParish.2, rfl⟩
theorem k_X8_43 : CV RX8 43 mX8_skipBlanks 0 7 := ⟨_, TX8, 4, i_X8_skipBlanks, tb (i := 622) (by decide +kernel) rfl, v_X8_skipBlanks.1, v_X8_skipBlanks.2, rfl⟩
theorem k_J0_637 : CS RJ0 637 mJ1_indexOf_4cfef 4 := ⟨_, i_J1_indexOf_4cfef, tb (i := 649) (by decide +kernel) rfl, s_J1_indexOf_4cfef⟩
theorem k_J1_88 : CS RJ1 88 mJ1_canEncode_9a6ad 1 := ⟨_, i_J1_canEncode_9a6ad, tb (i := 652) (by decide +kernel) rfl, s_J1_canEncode_9a6ad⟩
theorem k_J1_95 : CS RJ1 95 mJ1_indexOfChar_4cfef 4 := ⟨_, i_J1_indexOfChar_4cfef, tb (i := 657) (by decide +kernel) rfl, s_J1_indexOfChar_4cfef⟩
theorem k_J0_640 : CS RJ0 640 mJ2_indexOf_4cfef 4 := ⟨_, i_J2_indexOf_4cfef, tb (i := 660) (by decide +kernel) rfl, s_J2_indexOf_4cfef⟩
theorem k_J2_228 : CS RJ2 228 mJ2_indexOfChar_4cfef 4 := ⟨_, i_J2_indexOfChar_4cfef, tb (i := 666) (by decide +kernel) rfl, s_J2_indexOfChar_4cfef⟩
theorem k_J2_96 : CS RJ2 96 mJ2_checkBoundsBeginEnd_d044e 3 := ⟨_, i_J2_checkBoundsBeginEnd_d044e, tb (i := 669) (by decide +kernel) rfl, s_J2_checkBoundsBeginEnd_d044e⟩
theorem k_J2_48 : CS RJ2 48 mJ2_length_9d52b 1 := ⟨_, i_J2_length_9d52b, tb (i := 672) (by decide +kernel) rfl, s_J2_length_9d52b⟩
theorem k_J2_241 : CS RJ2 241 mJ0_checkBoundsBeginEnd_23922 3 := ⟨_, i_J0_checkBoundsBeginEnd_23922, tb (i := 675) (by decide +kernel) rfl, s_J0_checkBoundsBeginEnd_23922⟩
theorem k_J0_1062 : CS RJ0 1062 mJ3_checkFromToIndex_8c36e 4 := ⟨_, i_J3_checkFromToIndex_8c36e, tb (i := 680) (by decide +kernel) rfl, s_J3_checkFromToIndex_8c36e⟩
theorem k_J2_244 : CS RJ2 244 mJ2_indexOfCharUnsafe_4cfef 4 := ⟨_, i_J2_indexOfCharUnsafe_4cfef, tb (i := 683) (by decide +kernel) rfl, s_J2_indexOfCharUnsafe_4cfef⟩
theorem k_J2_71 : CS RJ2 71 mJ2_getChar_3b067 2 := ⟨_, i_J2_getChar_3b067, tb (i := 686) (by decide +kernel) rfl, s_J2_getChar_3b067⟩
theorem k_J2_232 : CS RJ2 232 mJ2_indexOfSupplementary_4cfef 4 := ⟨_, i_J2_indexOfSupplementary_4cfef, tb (i := 695) (by decide +kernel) rfl, s_J2_indexOfSupplementary_4cfef⟩
theorem k_J2_164 : CS RJ2 164 mJ11_isValidCodePoint_9a6ad 1 := ⟨_, i_J11_isValidCodePoint_9a6ad, tb (i := 698) (by decide +kernel) rfl, s_J11_isValidCodePoint_9a6ad⟩
theorem k_J2_157 : CS RJ2 157 mJ11_highSurrogate_5068e 1 := ⟨_, i_J11_highSurrogate_5068e, tb (i := 701) (by decide +kernel) rfl, s_J11_highSurrogate_5068e⟩
theorem k_J2_161 : CS RJ2 161 mJ11_lowSurrogate_5068e 1 := ⟨_, i_J11_lowSurrogate_5068e, tb (i := 705) (by decide +kernel) rfl, s_J11_lowSurrogate_5068e⟩
theorem k_X8_57 : CV RX8 57 mX3_addParish 1 2 := ⟨_, TX3, 7, i_X3_addParish, tb (i := 709) (by decide +kernel) rfl, v_X3_addParish.1, v_X3_addParish.2, rfl⟩
theorem k_X8_60 : CV RX8 60 mX8_digit 2 7 := ⟨_, TX8, 4, i_X8_digit, tb (i := 710) (by decide +kernel) rfl, v_X8_digit.1, v_X8_digit.2, rfl⟩
theorem k_X8_36 : CV RX8 36 mX8_takes 1 7 := ⟨_, TX8, 4, i_X8_takes, tb (i := 714) (by decide +kernel) rfl, v_X8_takes.1, v_X8_takes.2, rfl⟩
theorem k_X8_40 : CV RX8 40 mX8_readRoads 0 7 := ⟨_, TX8, 4, i_X8_readRoads, tb (i := 718) (by decide +kernel) rfl, v_X8_readRoads.1, v_X8_readRoads.2, rfl⟩
theorem k_X8_68 : CV RX8 68 mX8_readRoad 0 7 := ⟨_, TX8, 4, i_X8_readRoad, tb (i := 722) (by decide +kernel) rfl, v_X8_readRoad.1, v_X8_readRoad.2, rfl⟩
theorem k_X8_74 : CV RX8 74 mX3_joins 2 2 := ⟨_, TX3, 7, i_X3_joins, tb (i := 726) (by decide +kernel) rfl, v_X3_joins.1, v_X3_joins.2, rfl⟩
theorem k_X8_78 : CV RX8 78 mX3_addRoad 3 2 := ⟨_, TX3, 7, i_X3_addRoad, tb (i := 727) (by decide +kernel) rfl, v_X3_addRoad.1, v_X3_addRoad.2, rfl⟩
theorem k_X10_187 : CV RX10 187 mX8_clear 0 7 := ⟨_, TX8, 4, i_X8_clear, tb (i := 728) (by decide +kernel) rfl, v_X8_clear.1, v_X8_clear.2, rfl⟩
theorem k_X10_193 : CV RX10 193 mX7_settle 1 6 := ⟨_, TX7, 13, i_X7_settle, tb (i := 732) (by decide +kernel) rfl, v_X7_settle.1, v_X7_settle.2, rfl⟩
theorem k_X7_90 : CV RX7 90 mX3_copyFrom 1 2 := ⟨_, TX3, 7, i_X3_copyFrom, tb (i := 736) (by decide +kernel) rfl, v_X3_copyFrom.1, v_X3_copyFrom.2, rfl⟩
theorem k_X10_200 : CV RX10 200 mX7_season 0 6 := ⟨_, TX7, 13, i_X7_season, tb (i := 748) (by decide +kernel) rfl, v_X7_season.1, v_X7_season.2, rfl⟩
theorem k_X10_204 : CV RX10 204 mX7_hanging 0 6 := ⟨_, TX7, 13, i_X7_hanging, tb (i := 749) (by decide +kernel) rfl, v_X7_hanging.1, v_X7_hanging.2, rfl⟩
theorem k_X10_207 : CV RX10 207 mX7_passWeek 0 6 := ⟨_, TX7, 13, i_X7_passWeek, tb (i := 757) (by decide +kernel) rfl, v_X7_passWeek.1, v_X7_passWeek.2, rfl⟩
theorem k_X7_78 : CV RX7 78 mX7_lighterParish 1 6 := ⟨_, TX7, 13, i_X7_lighterParish, tb (i := 761) (by decide +kernel) rfl, v_X7_lighterParish.1, v_X7_lighterParish.2, rfl⟩
theorem k_X7_87 : CV RX7 87 mX3_otherEnd 2 2 := ⟨_, TX3, 7, i_X3_otherEnd, tb (i := 765) (by decide +kernel) rfl, v_X3_otherEnd.1, v_X3_otherEnd.2, rfl⟩
theorem k_X7_81 : CV RX7 81 mX7_weightOfGood 1 6 := ⟨_, TX7, 13, i_X7_weightOfGood, tb (i := 766) (by decide +kernel) rfl, v_X7_weightOfGood.1, v_X7_weightOfGood.2, rfl⟩
theorem k_X10_213 : CV RX10 213 mX5_harness 1 4 := ⟨_, TX5, 14, i_X5_harness, tb (i := 771) (by decide +kernel) rfl, v_X5_harness.1, v_X5_harness.2, rfl⟩
theorem k_X5_60 : CS RX5 60 mJ7_fill_53178 2 := ⟨_, i_J7_fill_53178, tb (i := 775) (by decide +kernel) rfl, s_J7_fill_53178⟩
theorem k_X10_217 : CV RX10 217 mX5_weigh 1 4 := ⟨_, TX5, 14, i_X5_weigh, tb (i := 778) (by decide +kernel) rfl, v_X5_weigh.1, v_X5_weigh.2, rfl⟩
theorem k_X5_76 : CV RX5 76 mX7_weightAt 2 6 := ⟨_, TX7, 13, i_X7_weightAt, tb (i := 782) (by decide +kernel) rfl, v_X7_weightAt.1, v_X7_weightAt.2, rfl⟩
theorem k_X10_220 : CV RX10 220 mX5_trace 2 4 := ⟨_, TX5, 14, i_X5_trace, tb (i := 783) (by decide +kernel) rfl, v_X5_trace.1, v_X5_trace.2, rfl⟩
theorem k_X5_128 : CV RX5 128 mX5_spreadAll 0 4 := ⟨_, TX5, 14, i_X5_spreadAll, tb (i := 787) (by decide +kernel) rfl, v_X5_spreadAll.1, v_X5_spreadAll.2, rfl⟩
theorem k_X5_119 : CV RX5 119 mX5_spread 1 4 := ⟨_, TX5, 14, i_X5_spread, tb (i := 791) (by decide +kernel) rfl, v_X5_spread.1, v_X5_spread.2, rfl⟩
theorem k_X5_80 : CV RX5 80 mX5_start 1 4 := ⟨_, TX5, 14, i_X5_start, tb (i := 795) (by decide +kernel) rfl, v_X5_start.1, v_X5_start.2, rfl⟩
theorem k_X5_84 : CV RX5 84 mX5_nearest 0 4 := ⟨_, TX5, 14, i_X5_nearest, tb (i := 800) (by decide +kernel) rfl, v_X5_nearest.1, v_X5_nearest.2, rfl⟩
theorem k_X5_88 : CV RX5 88 mX5_leave 1 4 := ⟨_, TX5, 14, i_X5_leave, tb (i := 804) (by decide +kernel) rfl, v_X5_leave.1, v_X5_leave.2, rfl⟩
theorem k_X5_116 : CV RX5 116 mX5_roadCost 2 4 := ⟨_, TX5, 14, i_X5_roadCost, tb (i := 808) (by decide +kernel) rfl, v_X5_roadCost.1, v_X5_roadCost.2, rfl⟩
theorem k_X5_131 : CV RX5 131 mX5_findNext 1 4 := ⟨_, TX5, 14, i_X5_findNext, tb (i := 813) (by decide +kernel) rfl, v_X5_findNext.1, v_X5_findNext.2, rfl⟩
theorem k_X5_137 : CV RX5 137 mX5_firstStep 3 4 := ⟨_, TX5, 14, i_X5_firstStep, tb (i := 817) (by decide +kernel) rfl, v_X5_firstStep.1, v_X5_firstStep.2, rfl⟩
theorem k_X5_141 : CV RX5 141 mX5_reaches 3 4 := ⟨_, TX5, 14, i_X5_reaches, tb (i := 821) (by decide +kernel) rfl, v_X5_reaches.1, v_X5_reaches.2, rfl⟩
theorem k_X10_236 : CV RX10 236 mX5_spread 1 4 := ⟨_, TX5, 14, i_X5_spread, tb (i := 830) (by decide +kernel) rfl, v_X5_spread.1, v_X5_spread.2, rfl⟩
theorem k_X10_250 : CV RX10 250 mX5_marketOf 1 4 := ⟨_, TX5, 14, i_X5_marketOf, tb (i := 837) (by decide +kernel) rfl, v_X5_marketOf.1, v_X5_marketOf.2, rfl⟩
theorem k_X5_100 : CV RX5 100 mX5_weigh 1 4 := ⟨_, TX5, 14, i_X5_weigh, tb (i := 841) (by decide +kernel) rfl, v_X5_weigh.1, v_X5_weigh.2, rfl⟩
theorem k_X5_109 : CV RX5 109 mX5_bestPlace 2 4 := ⟨_, TX5, 14, i_X5_bestPlace, tb (i := 842) (by decide +kernel) rfl, v_X5_bestPlace.1, v_X5_bestPlace.2, rfl⟩
theorem k_X5_91 : CV RX5 91 mX5_heaviestOpen 0 4 := ⟨_, TX5, 14, i_X5_heaviestOpen, tb (i := 846) (by decide +kernel) rfl, v_X5_heaviestOpen.1, v_X5_heaviestOpen.2, rfl⟩
theorem k_X10_253 : CV RX10 253 mX9_best 2 8 := ⟨_, TX9, 7, i_X9_best, tb (i := 854) (by decide +kernel) rfl, v_X9_best.1, v_X9_best.2, rfl⟩
theorem k_X9_34 : CV RX9 34 mX9_findValues 2 8 := ⟨_, TX9, 7, i_X9_findValues, tb (i := 858) (by decide +kernel) rfl, v_X9_findValues.1, v_X9_findValues.2, rfl⟩
theorem k_X9_74 : CV RX9 74 mX5_harness 1 4 := ⟨_, TX5, 14, i_X5_harness, tb (i := 862) (by decide +kernel) rfl, v_X5_harness.1, v_X5_harness.2, rfl⟩
theorem k_X9_77 : CV RX9 77 mX5_weigh 1 4 := ⟨_, TX5, 14, i_X5_weigh, tb (i := 863) (by decide +kernel) rfl, v_X5_weigh.1, v_X5_weigh.2, rfl⟩
theorem k_X9_80 : CV RX9 80 mX5_spreadAll 0 4 := ⟨_, TX5, 14, i_X5_spreadAll, tb (i := 864) (by decide +kernel) rfl, v_X5_spreadAll.1, v_X5_spreadAll.2, rfl⟩
theorem k_X9_42 : CV RX9 42 mX5_leads 2 4 := ⟨_, TX5, 14, i_X5_leads, tb (i := 865) (by decide +kernel) rfl, v_X5_leads.1, v_X5_leads.2, rfl⟩
theorem k_X10_259 : CV RX10 259 mX9_law 2 8 := ⟨_, TX9, 7, i_X9_law, tb (i := 873) (by decide +kernel) rfl, v_X9_law.1, v_X9_law.2, rfl⟩
theorem k_X9_60 : CV RX9 60 mX9_findGains 1 8 := ⟨_, TX9, 7, i_X9_findGains, tb (i := 877) (by decide +kernel) rfl, v_X9_findGains.1, v_X9_findGains.2, rfl⟩
theorem k_X9_64 : CS RX9 64 mJ6_bitCount_0f7a4 1 := ⟨_, i_J6_bitCount_0f7a4, tb (i := 881) (by decide +kernel) rfl, s_J6_bitCount_0f7a4⟩
theorem k_X9_70 : CV RX9 70 mX9_endsGains 1 8 := ⟨_, TX9, 7, i_X9_endsGains, tb (i := 887) (by decide +kernel) rfl, v_X9_endsGains.1, v_X9_endsGains.2, rfl⟩
theorem k_X10_262 : CV RX10 262 mX2_takeOf 2 1 := ⟨_, TX2, 6, i_X2_takeOf, tb (i := 895) (by decide +kernel) rfl, v_X2_takeOf.1, v_X2_takeOf.2, rfl⟩
theorem k_X2_26 : CV RX2 26 mX5_harness 1 4 := ⟨_, TX5, 14, i_X5_harness, tb (i := 899) (by decide +kernel) rfl, v_X5_harness.1, v_X5_harness.2, rfl⟩
theorem k_X2_38 : CV RX2 38 mX5_marketOf 1 4 := ⟨_, TX5, 14, i_X5_marketOf, tb (i := 900) (by decide +kernel) rfl, v_X5_marketOf.1, v_X5_marketOf.2, rfl⟩
theorem k_X10_265 : CV RX10 265 mX2_findRests 3 1 := ⟨_, TX2, 6, i_X2_findRests, tb (i := 905) (by decide +kernel) rfl, v_X2_findRests.1, v_X2_findRests.2, rfl⟩
theorem k_X2_42 : CS RX2 42 mJ7_fill_53178 2 := ⟨_, i_J7_fill_53178, tb (i := 909) (by decide +kernel) rfl, s_J7_fill_53178⟩
theorem k_X2_48 : CV RX2 48 mX2_addTakes 3 1 := ⟨_, TX2, 6, i_X2_addTakes, tb (i := 910) (by decide +kernel) rfl, v_X2_addTakes.1, v_X2_addTakes.2, rfl⟩
theorem k_X2_65 : CV RX2 65 mX5_weigh 1 4 := ⟨_, TX5, 14, i_X5_weigh, tb (i := 914) (by decide +kernel) rfl, v_X5_weigh.1, v_X5_weigh.2, rfl⟩
theorem k_X2_80 : CS RX2 80 mX3_weight 3 := ⟨_, i_X3_weight, tb (i := 915) (by decide +kernel) rfl, s_X3_weight⟩
theorem k_X2_90 : CV RX2 90 mX5_bestPlace 2 4 := ⟨_, TX5, 14, i_X5_bestPlace, tb (i := 916) (by decide +kernel) rfl, v_X5_bestPlace.1, v_X5_bestPlace.2, rfl⟩
theorem k_X2_58 : CS RX2 58 mX2_most 3 := ⟨_, i_X2_most, tb (i := 917) (by decide +kernel) rfl, s_X2_most⟩
theorem k_X10_275 : CV RX10 275 mX3_hasSet 1 2 := ⟨_, TX3, 7, i_X3_hasSet, tb (i := 925) (by decide +kernel) rfl, v_X3_hasSet.1, v_X3_hasSet.2, rfl⟩
theorem k_X10_278 : CV RX10 278 mX4_worth 2 3 := ⟨_, TX4, 5, i_X4_worth, tb (i := 929) (by decide +kernel) rfl, v_X4_worth.1, v_X4_worth.2, rfl⟩
theorem k_X4_23 : CV RX4 23 mX5_harness 1 4 := ⟨_, TX5, 14, i_X5_harness, tb (i := 933) (by decide +kernel) rfl, v_X5_harness.1, v_X5_harness.2, rfl⟩
theorem k_X4_38 : CV RX4 38 mX5_weigh 1 4 := ⟨_, TX5, 14, i_X5_weigh, tb (i := 934) (by decide +kernel) rfl, v_X5_weigh.1, v_X5_weigh.2, rfl⟩
theorem k_X4_41 : CV RX4 41 mX4_addTotal 2 3 := ⟨_, TX4, 5, i_X4_addTotal, tb (i := 935) (by decide +kernel) rfl, v_X4_addTotal.1, v_X4_addTotal.2, rfl⟩
theorem k_X4_84 : CV RX4 84 mX5_bestPlace 2 4 := ⟨_, TX5, 14, i_X5_bestPlace, tb (i := 939) (by decide +kernel) rfl, v_X5_bestPlace.1, v_X5_bestPlace.2, rfl⟩
theorem k_X10_281 : CV RX10 281 mX10_isMember 2 9 := ⟨_, TX10, 10, i_X10_isMember, tb (i := 944) (by decide +kernel) rfl, v_X10_isMember.1, v_X10_isMember.2, rfl⟩
theorem k_X10_286 : CV RX10 286 mX4_findPart 3 3 := ⟨_, TX4, 5, i_X4_findPart, tb (i := 949) (by decide +kernel) rfl, v_X4_findPart.1, v_X4_findPart.2, rfl⟩
theorem k_X4_45 : CV RX4 45 mX4_findTotals 2 3 := ⟨_, TX4, 5, i_X4_findTotals, tb (i := 953) (by decide +kernel) rfl, v_X4_findTotals.1, v_X4_findTotals.2, rfl⟩
theorem k_X4_69 : CS RX4 69 mJ7_fill_53178 2 := ⟨_, i_J7_fill_53178, tb (i := 957) (by decide +kernel) rfl, s_J7_fill_53178⟩
theorem k_X4_48 : CS RX4 48 mJ6_bitCount_0f7a4 1 := ⟨_, i_J6_bitCount_0f7a4, tb (i := 958) (by decide +kernel) rfl, s_J6_bitCount_0f7a4⟩
theorem k_X4_58 : CS RX4 58 mX4_commonDivisor 2 := ⟨_, i_X4_commonDivisor, tb (i := 961) (by decide +kernel) rfl, s_X4_commonDivisor⟩
theorem k_X10_298 : CV RX10 298 mX7_wouldFall 2 6 := ⟨_, TX7, 13, i_X7_wouldFall, tb (i := 973) (by decide +kernel) rfl, v_X7_wouldFall.1, v_X7_wouldFall.2, rfl⟩
theorem k_X10_301 : CV RX10 301 mX7_wouldBeLighter 2 6 := ⟨_, TX7, 13, i_X7_wouldBeLighter, tb (i := 977) (by decide +kernel) rfl, v_X7_wouldBeLighter.1, v_X7_wouldBeLighter.2, rfl⟩
theorem k_X10_304 : CV RX10 304 mX7_copyFrom 1 6 := ⟨_, TX7, 13, i_X7_copyFrom, tb (i := 989) (by decide +kernel) rfl, v_X7_copyFrom.1, v_X7_copyFrom.2, rfl⟩
theorem k_X10_311 : CS RX10 311 mX6_isLane 2 := ⟨_, i_X6_isLane, tb (i := 1002) (by decide +kernel) rfl, s_X6_isLane⟩
theorem k_X6_27 : CS RX6 27 mX6_isSheet 1 := ⟨_, i_X6_isSheet, tb (i := 1005) (by decide +kernel) rfl, s_X6_isSheet⟩
theorem k_X10_316 : CV RX10 316 mX6_fault 4 5 := ⟨_, TX6, 4, i_X6_fault, tb (i := 1008) (by decide +kernel) rfl, v_X6_fault.1, v_X6_fault.2, rfl⟩
theorem k_X6_31 : CV RX6 31 mX6_isMissing 1 5 := ⟨_, TX6, 4, i_X6_isMissing, tb (i := 1012) (by decide +kernel) rfl, v_X6_isMissing.1, v_X6_isMissing.2, rfl⟩
theorem k_X6_34 : CV RX6 34 mX6_holds 3 5 := ⟨_, TX6, 4, i_X6_holds, tb (i := 1016) (by decide +kernel) rfl, v_X6_holds.1, v_X6_holds.2, rfl⟩
theorem k_X10_325 : CS RX10 325 mX0_areStones 3 := ⟨_, i_X0_areStones, tb (i := 1021) (by decide +kernel) rfl, s_X0_areStones⟩
theorem k_X10_330 : CS RX10 330 mX0_turning 6 := ⟨_, i_X0_turning, tb (i := 1028) (by decide +kernel) rfl, s_X0_turning⟩
theorem k_X0_17 : CV RX0 17 mX7_weightAt 2 6 := ⟨_, TX7, 13, i_X7_weightAt, tb (i := 1031) (by decide +kernel) rfl, v_X7_weightAt.1, v_X7_weightAt.2, rfl⟩
theorem k_X10_334 : CS RX10 334 mX0_fewest 3 := ⟨_, i_X0_fewest, tb (i := 1032) (by decide +kernel) rfl, s_X0_fewest⟩
theorem k_X0_23 : CS RX0 23 mX0_stonesFor 1 := ⟨_, i_X0_stonesFor, tb (i := 1035) (by decide +kernel) rfl, s_X0_stonesFor⟩
theorem k_X10_337 : CV RX10 337 mX1_open 3 0 := ⟨_, TX1, 4, i_X1_open, tb (i := 1043) (by decide +kernel) rfl, v_X1_open.1, v_X1_open.2, rfl⟩
theorem k_X1_25 : CS RX1 25 mJ7_fill_53178 2 := ⟨_, i_J7_fill_53178, tb (i := 1047) (by decide +kernel) rfl, s_J7_fill_53178⟩
theorem k_X10_340 : CV RX10 340 mX1_readItems 3 0 := ⟨_, TX1, 4, i_X1_readItems, tb (i := 1048) (by decide +kernel) rfl, v_X1_readItems.1, v_X1_readItems.2, rfl⟩
theorem k_X1_31 : CS RX1 31 mX7_seasonOf 1 := ⟨_, i_X7_seasonOf, tb (i := 1052) (by decide +kernel) rfl, s_X7_seasonOf⟩
theorem k_X1_37 : CV RX1 37 mX1_pullsFor 1 0 := ⟨_, TX1, 4, i_X1_pullsFor, tb (i := 1053) (by decide +kernel) rfl, v_X1_pullsFor.1, v_X1_pullsFor.2, rfl⟩
theorem k_X1_46 : CS RX1 46 mX3_weight 3 := ⟨_, i_X3_weight, tb (i := 1057) (by decide +kernel) rfl, s_X3_weight⟩
theorem k_X10_344 : CV RX10 344 mX1_fittingRows 0 0 := ⟨_, TX1, 4, i_X1_fittingRows, tb (i := 1058) (by decide +kernel) rfl, v_X1_fittingRows.1, v_X1_fittingRows.2, rfl⟩
theorem k_X1_41 : CS RX1 41 mJ6_bitCount_0f7a4 1 := ⟨_, i_J6_bitCount_0f7a4, tb (i := 1062) (by decide +kernel) rfl, s_J6_bitCount_0f7a4⟩
theorem k_X10_347 : CV RX10 347 mX1_sureSeasons 0 0 := ⟨_, TX1, 4, i_X1_sureSeasons, tb (i := 1063) (by decide +kernel) rfl, v_X1_sureSeasons.1, v_X1_sureSeasons.2, rfl⟩
theorem k_X10_352 : CV RX10 352 mX6_put 3 5 := ⟨_, TX6, 4, i_X6_put, tb (i := 1076) (by decide +kernel) rfl, v_X6_put.1, v_X6_put.2, rfl⟩
theorem k_X10_356 : CV RX10 356 mX6_renew 3 5 := ⟨_, TX6, 4, i_X6_renew, tb (i := 1084) (by decide +kernel) rfl, v_X6_renew.1, v_X6_renew.2, rfl⟩
theorem k_X6_38 : CS RX6 38 mJ7_fill_d0a16 2 := ⟨_, i_J7_fill_d0a16, tb (i := 1088) (by decide +kernel) rfl, s_J7_fill_d0a16⟩
theorem k_X10_359 : CS RX10 359 mX6_isSheet 1 := ⟨_, i_X6_isSheet, tb (i := 1095) (by decide +kernel) rfl, s_X6_isSheet⟩
theorem k_X10_362 : CV RX10 362 mX6_isMissing 1 5 := ⟨_, TX6, 4, i_X6_isMissing, tb (i := 1096) (by decide +kernel) rfl, v_X6_isMissing.1, v_X6_isMissing.2, rfl⟩
theorem k_X10_365 : CV RX10 365 mX6_empty 1 5 := ⟨_, TX6, 4, i_X6_empty, tb (i := 1097) (by decide +kernel) rfl, v_X6_empty.1, v_X6_empty.2, rfl⟩
theorem k_X10_371 : CV RX10 371 mX6_holds 3 5 := ⟨_, TX6, 4, i_X6_holds, tb (i := 1109) (by decide +kernel) rfl, v_X6_holds.1, v_X6_holds.2, rfl⟩
theorem k_X11_50 : CS RX11 50 mX11_in 3 := ⟨_, i_X11_in, tb (i := 1177) (by decide +kernel) rfl, s_X11_in⟩
theorem k_X11_64 : CV RX11 64 mX11_joins 1 10 := ⟨_, TX11, 18, i_X11_joins, tb (i := 1180) (by decide +kernel) rfl, v_X11_joins.1, v_X11_joins.2, rfl⟩
theorem k_X11_68 : CV RX11 68 mX11_isParish 1 10 := ⟨_, TX11, 18, i_X11_isParish, tb (i := 1188) (by decide +kernel) rfl, v_X11_isParish.1, v_X11_isParish.2, rfl⟩
theorem k_X11_74 : CV RX11 74 mX11_roadOf 2 10 := ⟨_, TX11, 18, i_X11_roadOf, tb (i := 1197) (by decide +kernel) rfl, v_X11_roadOf.1, v_X11_roadOf.2, rfl⟩
theorem k_X11_78 : CV RX11 78 mX11_isRoad 1 10 := ⟨_, TX11, 18, i_X11_isRoad, tb (i := 1205) (by decide +kernel) rfl, v_X11_isRoad.1, v_X11_isRoad.2, rfl⟩
theorem k_X11_85 : CV RX11 85 mX11_isGood 1 10 := ⟨_, TX11, 18, i_X11_isGood, tb (i := 1223) (by decide +kernel) rfl, v_X11_isGood.1, v_X11_isGood.2, rfl⟩
theorem k_X11_88 : CV RX11 88 mX11_weight 2 10 := ⟨_, TX11, 18, i_X11_weight, tb (i := 1227) (by decide +kernel) rfl, v_X11_weight.1, v_X11_weight.2, rfl⟩
theorem k_X11_54 : CV RX11 54 mX11_season 0 10 := ⟨_, TX11, 18, i_X11_season, tb (i := 1231) (by decide +kernel) rfl, v_X11_season.1, v_X11_season.2, rfl⟩
theorem k_X11_58 : CS RX11 58 mX11_weightBy 3 := ⟨_, i_X11_weightBy, tb (i := 1235) (by decide +kernel) rfl, s_X11_weightBy⟩
theorem k_X11_97 : CV RX11 97 mX11_isCart 1 10 := ⟨_, TX11, 18, i_X11_isCart, tb (i := 1253) (by decide +kernel) rfl, v_X11_isCart.1, v_X11_isCart.2, rfl⟩
theorem k_X11_106 : CV RX11 106 mX11_isPerson 1 10 := ⟨_, TX11, 18, i_X11_isPerson, tb (i := 1260) (by decide +kernel) rfl, v_X11_isPerson.1, v_X11_isPerson.2, rfl⟩
theorem k_X11_143 : CV RX11 143 mX11_reads 0 10 := ⟨_, TX11, 18, i_X11_reads, tb (i := 1278) (by decide +kernel) rfl, v_X11_reads.1, v_X11_reads.2, rfl⟩
theorem k_X11_136 : CV RX11 136 mX11_readsParish 0 10 := ⟨_, TX11, 18, i_X11_readsParish, tb (i := 1282) (by decide +kernel) rfl, v_X11_readsParish.1, v_X11_readsParish.2, rfl⟩
theorem k_X11_120 : CV RX11 120 mX11_next 0 10 := ⟨_, TX11, 18, i_X11_next, tb (i := 1286) (by decide +kernel) rfl, v_X11_next.1, v_X11_next.2, rfl⟩
theorem k_X11_123 : CS RX11 123 mX11_kindOf 1 := ⟨_, i_X11_kindOf, tb (i := 1290) (by decide +kernel) rfl, s_X11_kindOf⟩
theorem k_X11_126 : CV RX11 126 mX11_isDigit 2 10 := ⟨_, TX11, 18, i_X11_isDigit, tb (i := 1293) (by decide +kernel) rfl, v_X11_isDigit.1, v_X11_isDigit.2, rfl⟩
theorem k_X11_130 : CV RX11 130 mX11_digit 0 10 := ⟨_, TX11, 18, i_X11_digit, tb (i := 1297) (by decide +kernel) rfl, v_X11_digit.1, v_X11_digit.2, rfl⟩
theorem k_X11_140 : CV RX11 140 mX11_readsRoad 0 10 := ⟨_, TX11, 18, i_X11_readsRoad, tb (i := 1301) (by decide +kernel) rfl, v_X11_readsRoad.1, v_X11_readsRoad.2, rfl⟩
theorem k_X11_133 : CV RX11 133 mX11_road 3 10 := ⟨_, TX11, 18, i_X11_road, tb (i := 1305) (by decide +kernel) rfl, v_X11_road.1, v_X11_road.2, rfl⟩
theorem k_X11_148 : CV RX11 148 mX11_goes 1 10 := ⟨_, TX11, 18, i_X11_goes, tb (i := 1315) (by decide +kernel) rfl, v_X11_goes.1, v_X11_goes.2, rfl⟩
theorem k_X11_162 : CV RX11 162 mX11_layWays 3 10 := ⟨_, TX11, 18, i_X11_layWays, tb (i := 1324) (by decide +kernel) rfl, v_X11_layWays.1, v_X11_layWays.2, rfl⟩
theorem k_X11_152 : CV RX11 152 mX11_bears 3 10 := ⟨_, TX11, 18, i_X11_bears, tb (i := 1328) (by decide +kernel) rfl, v_X11_bears.1, v_X11_bears.2, rfl⟩
theorem k_X11_156 : CV RX11 156 mX11_costOf 5 10 := ⟨_, TX11, 18, i_X11_costOf, tb (i := 1333) (by decide +kernel) rfl, v_X11_costOf.1, v_X11_costOf.2, rfl⟩
theorem k_X11_166 : CV RX11 166 mX11_layPath 4 10 := ⟨_, TX11, 18, i_X11_layPath, tb (i := 1337) (by decide +kernel) rfl, v_X11_layPath.1, v_X11_layPath.2, rfl⟩
theorem k_X11_172 : CV RX11 172 mX11_netOf 2 10 := ⟨_, TX11, 18, i_X11_netOf, tb (i := 1346) (by decide +kernel) rfl, v_X11_netOf.1, v_X11_netOf.2, rfl⟩
theorem k_X11_176 : CV RX11 176 mX11_marketOf 3 10 := ⟨_, TX11, 18, i_X11_marketOf, tb (i := 1356) (by decide +kernel) rfl, v_X11_marketOf.1, v_X11_marketOf.2, rfl⟩
theorem k_X11_179 : CS RX11 179 mX11_isTwo 1 := ⟨_, i_X11_isTwo, tb (i := 1364) (by decide +kernel) rfl, s_X11_isTwo⟩
theorem k_X11_185 : CS RX11 185 mX11_bits 1 := ⟨_, i_X11_bits, tb (i := 1371) (by decide +kernel) rfl, s_X11_bits⟩
theorem k_X11_188 : CV RX11 188 mX11_isEnded 2 10 := ⟨_, TX11, 18, i_X11_isEnded, tb (i := 1374) (by decide +kernel) rfl, v_X11_isEnded.1, v_X11_isEnded.2, rfl⟩
theorem k_X11_182 : CV RX11 182 mX11_paid 3 10 := ⟨_, TX11, 18, i_X11_paid, tb (i := 1378) (by decide +kernel) rfl, v_X11_paid.1, v_X11_paid.2, rfl⟩
theorem k_X11_191 : CV RX11 191 mX11_takeOf 2 10 := ⟨_, TX11, 18, i_X11_takeOf, tb (i := 1386) (by decide +kernel) rfl, v_X11_takeOf.1, v_X11_takeOf.2, rfl⟩
theorem k_X11_194 : CV RX11 194 mX11_isSet 1 10 := ⟨_, TX11, 18, i_X11_isSet, tb (i := 1398) (by decide +kernel) rfl, v_X11_isSet.1, v_X11_isSet.2, rfl⟩
theorem k_X11_197 : CV RX11 197 mX11_worthOf 2 10 := ⟨_, TX11, 18, i_X11_worthOf, tb (i := 1402) (by decide +kernel) rfl, v_X11_worthOf.1, v_X11_worthOf.2, rfl⟩
theorem k_X11_211 : CV RX11 211 mX11_layPart 3 10 := ⟨_, TX11, 18, i_X11_layPart, tb (i := 1410) (by decide +kernel) rfl, v_X11_layPart.1, v_X11_layPart.2, rfl⟩
theorem k_X11_204 : CS RX11 204 mX11_orders 1 := ⟨_, i_X11_orders, tb (i := 1414) (by decide +kernel) rfl, s_X11_orders⟩
theorem k_X11_220 : CS RX11 220 mX11_isSheet 1 := ⟨_, i_X11_isSheet, tb (i := 1442) (by decide +kernel) rfl, s_X11_isSheet⟩
theorem k_X11_223 : CS RX11 223 mX11_isLane 1 := ⟨_, i_X11_isLane, tb (i := 1445) (by decide +kernel) rfl, s_X11_isLane⟩
theorem k_X11_226 : CV RX11 226 mX11_finds 4 10 := ⟨_, TX11, 18, i_X11_finds, tb (i := 1448) (by decide +kernel) rfl, v_X11_finds.1, v_X11_finds.2, rfl⟩
theorem k_X11_235 : CV RX11 235 mX11_evens 3 10 := ⟨_, TX11, 18, i_X11_evens, tb (i := 1456) (by decide +kernel) rfl, v_X11_evens.1, v_X11_evens.2, rfl⟩
theorem k_X11_242 : CV RX11 242 mX11_layBook 5 10 := ⟨_, TX11, 18, i_X11_layBook, tb (i := 1466) (by decide +kernel) rfl, v_X11_layBook.1, v_X11_layBook.2, rfl⟩
theorem k_X11_245 : CS RX11 245 mX11_cut 2 := ⟨_, i_X11_cut, tb (i := 1478) (by decide +kernel) rfl, s_X11_cut⟩
theorem acw : Cond.native arraycopyName ∈ TB ∧ Cond.static arraycopyName ∈ TB ∧ Cond.initialized "java/lang/System" ∈ TB := ⟨tb (i := 742) (by decide +kernel) rfl, tb (i := 741) (by decide +kernel) rfl, tb (i := 77) (by decide +kernel) rfl⟩
theorem mw_max : Cond.static Lib.Math.max.name ∈ TB ∧ Cond.initialized "java/lang/Math" ∈ TB ∧ Cond.code Lib.Math.max.name Lib.Math.max.code 2 (some .int) ∈ TB := ⟨tb (i := 482) (by decide +kernel) rfl, tb (i := 71) (by decide +kernel) rfl, tb (i := 483) (by decide +kernel) rfl⟩
theorem mw_min : Cond.static Lib.Math.min.name ∈ TB ∧ Cond.initialized "java/lang/Math" ∈ TB ∧ Cond.code Lib.Math.min.name Lib.Math.min.code 2 (some .int) ∈ TB := ⟨tb (i := 479) (by decide +kernel) rfl, tb (i := 71) (by decide +kernel) rfl, tb (i := 480) (by decide +kernel) rfl⟩
theorem k_X3_34 : Cmin RX3 34 := ⟨tb (i := 478) (by decide +kernel) rfl, mw_min⟩
theorem k_X3_40 : Cmax RX3 40 := ⟨tb (i := 481) (by decide +kernel) rfl, mw_max⟩
theorem k_J1_92 : Cmax RJ1 92 := ⟨tb (i := 655) (by decide +kernel) rfl, mw_max⟩
theorem k_J1_38 : Cmin RJ1 38 := ⟨tb (i := 656) (by decide +kernel) rfl, mw_min⟩
theorem k_J2_224 : Cmax RJ2 224 := ⟨tb (i := 663) (by decide +kernel) rfl, mw_max⟩
theorem k_J2_183 : Cmin RJ2 183 := ⟨tb (i := 664) (by decide +kernel) rfl, mw_min⟩
theorem k_X3_46 : Cac RX3 46 := ⟨tb (i := 740) (by decide +kernel) rfl, acw⟩
theorem k_X5_122 : Cac RX5 122 := ⟨tb (i := 812) (by decide +kernel) rfl, acw⟩
theorem k_X2_94 : Cmax RX2 94 := ⟨tb (i := 920) (by decide +kernel) rfl, mw_max⟩
theorem k_X7_94 : Cac RX7 94 := ⟨tb (i := 993) (by decide +kernel) rfl, acw⟩
theorem k_X0_27 : Cmin RX0 27 := ⟨tb (i := 1038) (by decide +kernel) rfl, mw_min⟩
theorem k_X10_374 : Cac RX10 374 := ⟨tb (i := 1110) (by decide +kernel) rfl, acw⟩
theorem n_J2_227 : Cond.constant RJ2 227 (65536) ∈ TB := tb (i := 665) (by decide +kernel) rfl
theorem n_J11_110 : Cond.constant RJ11 110 (55232) ∈ TB := tb (i := 704) (by decide +kernel) rfl
theorem n_J11_76 : Cond.constant RJ11 76 (56320) ∈ TB := tb (i := 708) (by decide +kernel) rfl
theorem n_X5_112 : Cond.constant RX5 112 (536870912) ∈ TB := tb (i := 799) (by decide +kernel) rfl
theorem n_X10_232 : Cond.constant RX10 232 (-1000001) ∈ TB := tb (i := 829) (by decide +kernel) rfl
theorem n_X10_242 : Cond.constant RX10 242 (536870912) ∈ TB := tb (i := 831) (by decide +kernel) rfl
theorem n_X10_243 : Cond.constant RX10 243 (-1000004) ∈ TB := tb (i := 832) (by decide +kernel) rfl
theorem n_J6_265 : Cond.constant RJ6 265 (1431655765) ∈ TB := tb (i := 884) (by decide +kernel) rfl
theorem n_J6_266 : Cond.constant RJ6 266 (858993459) ∈ TB := tb (i := 885) (by decide +kernel) rfl
theorem n_J6_267 : Cond.constant RJ6 267 (252645135) ∈ TB := tb (i := 886) (by decide +kernel) rfl
theorem n_X10_320 : Cond.constant RX10 320 (-1000000) ∈ TB := tb (i := 1020) (by decide +kernel) rfl
theorem n_X10_329 : Cond.constant RX10 329 (-1000002) ∈ TB := tb (i := 1027) (by decide +kernel) rfl
theorem n_X11_151 : Cond.constant RX11 151 (100000000) ∈ TB := tb (i := 1332) (by decide +kernel) rfl
theorem n_X11_171 : Cond.constant RX11 171 (-1000001) ∈ TB := tb (i := 1345) (by decide +kernel) rfl
theorem n_X11_170 : Cond.constant RX11 170 (-100000000) ∈ TB := tb (i := 1350) (by decide +kernel) rfl
theorem n_X11_175 : Cond.constant RX11 175 (-1000004) ∈ TB := tb (i := 1351) (by decide +kernel) rfl
theorem n_X11_229 : Cond.constant RX11 229 (1000000) ∈ TB := tb (i := 1452) (by decide +kernel) rfl
theorem n_X11_234 : Cond.constant RX11 234 (-1000002) ∈ TB := tb (i := 1455) (by decide +kernel) rfl
theorem n_X10_284 : Cond.constantLong RX10 284 (-1000001) ∈ TB := tb (i := 948) (by decide +kernel) rfl
theorem n_X10_293 : Cond.constantLong RX10 293 (-1) ∈ TB := tb (i := 968) (by decide +kernel) rfl
theorem n_X0_9 : Cond.constantLong RX0 9 (99) ∈ TB := tb (i := 1024) (by decide +kernel) rfl
theorem n_X0_13 : Cond.constantLong RX0 13 (-6) ∈ TB := tb (i := 1025) (by decide +kernel) rfl
theorem n_X0_15 : Cond.constantLong RX0 15 (6) ∈ TB := tb (i := 1026) (by decide +kernel) rfl
theorem n_X10_350 : Cond.constantLong RX10 350 (99) ∈ TB := tb (i := 1071) (by decide +kernel) rfl
theorem n_X11_62 : Cond.constantLong RX11 62 (3) ∈ TB := tb (i := 1176) (by decide +kernel) rfl
theorem n_X11_72 : Cond.constantLong RX11 72 (9) ∈ TB := tb (i := 1192) (by decide +kernel) rfl
theorem n_X11_81 : Cond.constantLong RX11 81 (999) ∈ TB := tb (i := 1213) (by decide +kernel) rfl
theorem n_X11_83 : Cond.constantLong RX11 83 (99) ∈ TB := tb (i := 1214) (by decide +kernel) rfl
theorem n_X11_91 : Cond.constantLong RX11 91 (7) ∈ TB := tb (i := 1246) (by decide +kernel) rfl
theorem n_X11_93 : Cond.constantLong RX11 93 (2) ∈ TB := tb (i := 1251) (by decide +kernel) rfl
theorem n_X11_95 : Cond.constantLong RX11 95 (4) ∈ TB := tb (i := 1252) (by decide +kernel) rfl
theorem n_X11_100 : Cond.constantLong RX11 100 (5) ∈ TB := tb (i := 1257) (by decide +kernel) rfl
theorem n_X11_102 : Cond.constantLong RX11 102 (8) ∈ TB := tb (i := 1258) (by decide +kernel) rfl
theorem n_X11_104 : Cond.constantLong RX11 104 (10) ∈ TB := tb (i := 1259) (by decide +kernel) rfl
theorem n_X11_109 : Cond.constantLong RX11 109 (32) ∈ TB := tb (i := 1272) (by decide +kernel) rfl
theorem n_X11_111 : Cond.constantLong RX11 111 (126) ∈ TB := tb (i := 1273) (by decide +kernel) rfl
theorem n_X11_146 : Cond.constantLong RX11 146 (52) ∈ TB := tb (i := 1314) (by decide +kernel) rfl
theorem n_X11_160 : Cond.constantLong RX11 160 (-1) ∈ TB := tb (i := 1323) (by decide +kernel) rfl
theorem n_X11_214 : Cond.constantLong RX11 214 (-1000001) ∈ TB := tb (i := 1417) (by decide +kernel) rfl
theorem n_X11_230 : Cond.constantLong RX11 230 (-6) ∈ TB := tb (i := 1453) (by decide +kernel) rfl
theorem n_X11_232 : Cond.constantLong RX11 232 (6) ∈ TB := tb (i := 1454) (by decide +kernel) rfl
theorem n_X11_238 : Cond.constantLong RX11 238 (9975) ∈ TB := tb (i := 1464) (by decide +kernel) rfl
theorem n_X11_240 : Cond.constantLong RX11 240 (24) ∈ TB := tb (i := 1465) (by decide +kernel) rfl
theorem n_L_162 : Cond.constantLong RL 162 (4294967295) ∈ TB := tb (i := 1497) (by decide +kernel) rfl
section PackedCalls
variable {own : String} {cc : ByteArray} {nL d pc : Nat} {rt : Option FieldType} {lc : List (Option Value)} {st : List Value} {I : mI} {L : mL} {Q : Option Value → mI → mL → Prop}
theorem r_S {index n d' : Nat} {M : mM} {Q' : Option Value → mI → mL → Prop} (h : CS own index M n) (hd : decode cc pc = .ok (.invokestatic index, 3)) (hdd : d' + 1 ≤ d) (hn : ((st.take n).reverse).length = n) (hr : ((st.drop n).map fun v => v.category).sum ≤ 8) (hA : (entA (st.take n).reverse).length ≤ M.2.2.1)
    (hc : RR M d' 0 (entL M.2.2.1 (st.take n).reverse) [] I L Q') (k : ∀ v I L, Q' v I L → RR (own, cc, nL, rt) d (pc + 3) lc (v.toList ++ st.drop n) I L Q) : RR (own, cc, nL, rt) d pc lc st I L Q := by
  obtain ⟨y, h1, h2, h3⟩ := h
  exact r_callS (st.take n).reverse h1 h2 h3 hd hdd (by rw [List.reverse_reverse, List.take_append_drop]) hn hr hA hc k
theorem r_V {index n d' a ci : Nat} {fs : List (Nat × Nat)} {M : mM} {Q' : Option Value → mI → mL → Prop} (h : CV own index M n ci) (hd : decode cc pc = .ok (.invokevirtual index, 3)) (hdd : d' + 1 ≤ d) (ha : (st.drop n).head? = some (.ref a)) (hs : sh a = some (.inr (ci, fs))) (hn : ((st.take n).reverse).length = n) (hr : ((st.drop (n + 1)).map fun v => v.category).sum ≤ 8) (hA : (entA (.ref a :: (st.take n).reverse)).length ≤ M.2.2.1)
    (hc : RR M d' 0 (entL M.2.2.1 (.ref a :: (st.take n).reverse)) [] I L Q') (k : ∀ v I L, Q' v I L → RR (own, cc, nL, rt) d (pc + 3) lc (v.toList ++ st.drop (n + 1)) I L Q) : RR (own, cc, nL, rt) d pc lc st I L Q := by
  obtain ⟨y, T, N, h1, h2, h3, h4, h5⟩ := h
  refine r_callV (st.take n).reverse h1 h2 h3 h4 hs h5 hd hdd ?_ hn hr hA hc k
  rw [List.reverse_reverse]
  have e : st.drop n = .ref a :: st.drop (n + 1) := by
    rw [← List.drop_drop]
    cases hx : st.drop n with
    | nil => rw [hx] at ha; cases ha
    | cons b r => rw [hx] at ha; cases ha; rfl
  rw [← e, List.take_append_drop]
end PackedCalls
end
section
theorem dX3_init_0 : decode cX3_init 0 = .ok (.aload_n 0, 1) := by decide +kernel
theorem dX3_init_1 : decode cX3_init 1 = .ok (.invokespecial 3, 3) := by decide +kernel
theorem dX3_init_4 : decode cX3_init 4 = .ok (.aload_n 0, 1) := by decide +kernel
theorem dX3_init_5 : decode cX3_init 5 = .ok (.bipush 8, 2) := by decide +kernel
theorem dX3_init_7 : decode cX3_init 7 = .ok (.newarray .int, 2) := by decide +kernel
theorem dX3_init_9 : decode cX3_init 9 = .ok (.putfield 9, 3) := by decide +kernel
theorem dX3_init_12 : decode cX3_init 12 = .ok (.aload_n 0, 1) := by decide +kernel
theorem dX3_init_13 : decode cX3_init 13 = .ok (.bipush 32, 2) := by decide +kernel
theorem dX3_init_15 : decode cX3_init 15 = .ok (.newarray .int, 2) := by decide +kernel
theorem dX3_init_17 : decode cX3_init 17 = .ok (.putfield 15, 3) := by decide +kernel
theorem dX3_init_20 : decode cX3_init 20 = .ok (.aload_n 0, 1) := by decide +kernel
theorem dX3_init_21 : decode cX3_init 21 = .ok (.bipush 15, 2) := by decide +kernel
theorem dX3_init_23 : decode cX3_init 23 = .ok (.newarray .int, 2) := by decide +kernel
theorem dX3_init_25 : decode cX3_init 25 = .ok (.putfield 18, 3) := by decide +kernel
theorem dX3_init_28 : decode cX3_init 28 = .ok (.aload_n 0, 1) := by decide +kernel
theorem dX3_init_29 : decode cX3_init 29 = .ok (.bipush 15, 2) := by decide +kernel
theorem dX3_init_31 : decode cX3_init 31 = .ok (.newarray .int, 2) := by decide +kernel
theorem dX3_init_33 : decode cX3_init 33 = .ok (.putfield 21, 3) := by decide +kernel
theorem dX3_init_36 : decode cX3_init 36 = .ok (.aload_n 0, 1) := by decide +kernel
theorem dX3_init_37 : decode cX3_init 37 = .ok (.bipush 15, 2) := by decide +kernel
theorem dX3_init_39 : decode cX3_init 39 = .ok (.newarray .int, 2) := by decide +kernel
theorem dX3_init_41 : decode cX3_init 41 = .ok (.putfield 24, 3) := by decide +kernel
theorem dX3_init_44 : decode cX3_init 44 = .ok (.return_, 1) := by decide +kernel
theorem dX3_weight_0 : decode cX3_weight 0 = .ok (.iload_n 0, 1) := by decide +kernel
theorem dX3_weight_1 : decode cX3_weight 1 = .ok (.tableswitch 39 0 2 #[27, 31, 37], 27) := by decide +kernel
theorem dX3_weight_28 : decode cX3_weight 28 = .ok (.iload_n 2, 1) := by decide +kernel
theorem dX3_weight_29 : decode cX3_weight 29 = .ok (.iload_n 1, 1) := by decide +kernel
theorem dX3_weight_30 : decode cX3_weight 30 = .ok (.imul, 1) := by decide +kernel
theorem dX3_weight_31 : decode cX3_weight 31 = .ok (.ireturn, 1) := by decide +kernel
theorem dX3_weight_32 : decode cX3_weight 32 = .ok (.iload_n 2, 1) := by decide +kernel
theorem dX3_weight_33 : decode cX3_weight 33 = .ok (.iload_n 1, 1) := by decide +kernel
theorem dX3_weight_34 : decode cX3_weight 34 = .ok (.imul, 1) := by decide +kernel
theorem dX3_weight_35 : decode cX3_weight 35 = .ok (.iload_n 2, 1) := by decide +kernel
theorem dX3_weight_36 : decode cX3_weight 36 = .ok (.iadd, 1) := by decide +kernel
theorem dX3_weight_37 : decode cX3_weight 37 = .ok (.ireturn, 1) := by decide +kernel
theorem dX3_weight_38 : decode cX3_weight 38 = .ok (.iconst 0, 1) := by decide +kernel
theorem dX3_weight_39 : decode cX3_weight 39 = .ok (.ireturn, 1) := by decide +kernel
theorem dX3_weight_40 : decode cX3_weight 40 = .ok (.iload_n 2, 1) := by decide +kernel
theorem dX3_weight_41 : decode cX3_weight 41 = .ok (.iload_n 1, 1) := by decide +kernel
theorem dX3_weight_42 : decode cX3_weight 42 = .ok (.imul, 1) := by decide +kernel
theorem dX3_weight_43 : decode cX3_weight 43 = .ok (.iload_n 2, 1) := by decide +kernel
theorem dX3_weight_44 : decode cX3_weight 44 = .ok (.iadd, 1) := by decide +kernel
theorem dX3_weight_45 : decode cX3_weight 45 = .ok (.iconst 2, 1) := by decide +kernel
theorem dX3_weight_46 : decode cX3_weight 46 = .ok (.idiv, 1) := by decide +kernel
theorem dX3_weight_47 : decode cX3_weight 47 = .ok (.ireturn, 1) := by decide +kernel
theorem dX3_clear_0 : decode cX3_clear 0 = .ok (.aload_n 0, 1) := by decide +kernel
theorem dX3_clear_1 : decode cX3_clear 1 = .ok (.iconst 0, 1) := by decide +kernel
theorem dX3_clear_2 : decode cX3_clear 2 = .ok (.putfield 27, 3) := by decide +kernel
theorem dX3_clear_5 : decode cX3_clear 5 = .ok (.aload_n 0, 1) := by decide +kernel
theorem dX3_clear_6 : decode cX3_clear 6 = .ok (.iconst 0, 1) := by decide +kernel
theorem dX3_clear_7 : decode cX3_clear 7 = .ok (.putfield 31, 3) := by decide +kernel
theorem dX3_clear_10 : decode cX3_clear 10 = .ok (.return_, 1) := by decide +kernel
theorem dX3_hasParish_0 : decode cX3_hasParish 0 = .ok (.iload_n 1, 1) := by decide +kernel
theorem dX3_hasParish_1 : decode cX3_hasParish 1 = .ok (.ifCond .lt 15, 3) := by decide +kernel
theorem dX3_hasParish_4 : decode cX3_hasParish 4 = .ok (.iload_n 1, 1) := by decide +kernel
theorem dX3_hasParish_5 : decode cX3_hasParish 5 = .ok (.aload_n 0, 1) := by decide +kernel
theorem dX3_hasParish_6 : decode cX3_hasParish 6 = .ok (.getfield 27, 3) := by decide +kernel
theorem dX3_hasParish_9 : decode cX3_hasParish 9 = .ok (.if_icmp .ge 7, 3) := by decide +kernel
theorem dX3_hasParish_12 : decode cX3_hasParish 12 = .ok (.iconst 1, 1) := by decide +kernel
theorem dX3_hasParish_13 : decode cX3_hasParish 13 = .ok (.goto 4, 3) := by decide +kernel
theorem dX3_hasParish_16 : decode cX3_hasParish 16 = .ok (.iconst 0, 1) := by decide +kernel
theorem dX3_hasParish_17 : decode cX3_hasParish 17 = .ok (.ireturn, 1) := by decide +kernel
theorem dX3_hasRoad_0 : decode cX3_hasRoad 0 = .ok (.iload_n 1, 1) := by decide +kernel
theorem dX3_hasRoad_1 : decode cX3_hasRoad 1 = .ok (.ifCond .lt 15, 3) := by decide +kernel
theorem dX3_hasRoad_4 : decode cX3_hasRoad 4 = .ok (.iload_n 1, 1) := by decide +kernel
theorem dX3_hasRoad_5 : decode cX3_hasRoad 5 = .ok (.aload_n 0, 1) := by decide +kernel
theorem dX3_hasRoad_6 : decode cX3_hasRoad 6 = .ok (.getfield 31, 3) := by decide +kernel
theorem dX3_hasRoad_9 : decode cX3_hasRoad 9 = .ok (.if_icmp .ge 7, 3) := by decide +kernel
theorem dX3_hasRoad_12 : decode cX3_hasRoad 12 = .ok (.iconst 1, 1) := by decide +kernel
theorem dX3_hasRoad_13 : decode cX3_hasRoad 13 = .ok (.goto 4, 3) := by decide +kernel
theorem dX3_hasRoad_16 : decode cX3_hasRoad 16 = .ok (.iconst 0, 1) := by decide +kernel
theorem dX3_hasRoad_17 : decode cX3_hasRoad 17 = .ok (.ireturn, 1) := by decide +kernel
theorem dX3_hasSet_0 : decode cX3_hasSet 0 = .ok (.iload_n 1, 1) := by decide +kernel
theorem dX3_hasSet_1 : decode cX3_hasSet 1 = .ok (.ifCond .lt 17, 3) := by decide +kernel
theorem dX3_hasSet_4 : decode cX3_hasSet 4 = .ok (.iload_n 1, 1) := by decide +kernel
theorem dX3_hasSet_5 : decode cX3_hasSet 5 = .ok (.iconst 1, 1) := by decide +kernel
theorem dX3_hasSet_6 : decode cX3_hasSet 6 = .ok (.aload_n 0, 1) := by decide +kernel
theorem dX3_hasSet_7 : decode cX3_hasSet 7 = .ok (.getfield 27, 3) := by decide +kernel
theorem dX3_hasSet_10 : decode cX3_hasSet 10 = .ok (.ishl, 1) := by decide +kernel
theorem dX3_hasSet_11 : decode cX3_hasSet 11 = .ok (.if_icmp .ge 7, 3) := by decide +kernel
theorem dX3_hasSet_14 : decode cX3_hasSet 14 = .ok (.iconst 1, 1) := by decide +kernel
theorem dX3_hasSet_15 : decode cX3_hasSet 15 = .ok (.goto 4, 3) := by decide +kernel
theorem dX3_hasSet_18 : decode cX3_hasSet 18 = .ok (.iconst 0, 1) := by decide +kernel
theorem dX3_hasSet_19 : decode cX3_hasSet 19 = .ok (.ireturn, 1) := by decide +kernel
theorem dX3_addParish_0 : decode cX3_addParish 0 = .ok (.aload_n 0, 1) := by decide +kernel
theorem dX3_addParish_1 : decode cX3_addParish 1 = .ok (.getfield 27, 3) := by decide +kernel
theorem dX3_addParish_4 : decode cX3_addParish 4 = .ok (.istore_n 2, 1) := by decide +kernel
theorem dX3_addParish_5 : decode cX3_addParish 5 = .ok (.aload_n 0, 1) := by decide +kernel
theorem dX3_addParish_6 : decode cX3_addParish 6 = .ok (.getfield 9, 3) := by decide +kernel
theorem dX3_addParish_9 : decode cX3_addParish 9 = .ok (.iload_n 2, 1) := by decide +kernel
theorem dX3_addParish_10 : decode cX3_addParish 10 = .ok (.iload_n 1, 1) := by decide +kernel
theorem dX3_addParish_11 : decode cX3_addParish 11 = .ok (.iastore, 1) := by decide +kernel
theorem dX3_addParish_12 : decode cX3_addParish 12 = .ok (.iconst 0, 1) := by decide +kernel
theorem dX3_addParish_13 : decode cX3_addParish 13 = .ok (.istore_n 3, 1) := by decide +kernel
theorem dX3_addParish_14 : decode cX3_addParish 14 = .ok (.iload_n 3, 1) := by decide +kernel
theorem dX3_addParish_15 : decode cX3_addParish 15 = .ok (.iconst 4, 1) := by decide +kernel
theorem dX3_addParish_16 : decode cX3_addParish 16 = .ok (.if_icmp .ge 20, 3) := by decide +kernel
theorem dX3_addParish_19 : decode cX3_addParish 19 = .ok (.aload_n 0, 1) := by decide +kernel
theorem dX3_addParish_20 : decode cX3_addParish 20 = .ok (.getfield 15, 3) := by decide +kernel
theorem dX3_addParish_23 : decode cX3_addParish 23 = .ok (.iload_n 2, 1) := by decide +kernel
theorem dX3_addParish_24 : decode cX3_addParish 24 = .ok (.iconst 4, 1) := by decide +kernel
theorem dX3_addParish_25 : decode cX3_addParish 25 = .ok (.imul, 1) := by decide +kernel
theorem dX3_addParish_26 : decode cX3_addParish 26 = .ok (.iload_n 3, 1) := by decide +kernel
theorem dX3_addParish_27 : decode cX3_addParish 27 = .ok (.iadd, 1) := by decide +kernel
theorem dX3_addParish_28 : decode cX3_addParish 28 = .ok (.iconst 5, 1) := by decide +kernel
theorem dX3_addParish_29 : decode cX3_addParish 29 = .ok (.iastore, 1) := by decide +kernel
theorem dX3_addParish_30 : decode cX3_addParish 30 = .ok (.iinc 3 1, 3) := by decide +kernel
theorem dX3_addParish_33 : decode cX3_addParish 33 = .ok (.goto (-19), 3) := by decide +kernel
theorem dX3_addParish_36 : decode cX3_addParish 36 = .ok (.aload_n 0, 1) := by decide +kernel
theorem dX3_addParish_37 : decode cX3_addParish 37 = .ok (.dup, 1) := by decide +kernel
theorem dX3_addParish_38 : decode cX3_addParish 38 = .ok (.getfield 27, 3) := by decide +kernel
theorem dX3_addParish_41 : decode cX3_addParish 41 = .ok (.iconst 1, 1) := by decide +kernel
theorem dX3_addParish_42 : decode cX3_addParish 42 = .ok (.iadd, 1) := by decide +kernel
theorem dX3_addParish_43 : decode cX3_addParish 43 = .ok (.putfield 27, 3) := by decide +kernel
theorem dX3_addParish_46 : decode cX3_addParish 46 = .ok (.iload_n 2, 1) := by decide +kernel
theorem dX3_addParish_47 : decode cX3_addParish 47 = .ok (.ireturn, 1) := by decide +kernel
theorem dX3_addRoad_0 : decode cX3_addRoad 0 = .ok (.aload_n 0, 1) := by decide +kernel
theorem dX3_addRoad_1 : decode cX3_addRoad 1 = .ok (.getfield 31, 3) := by decide +kernel
theorem dX3_addRoad_4 : decode cX3_addRoad 4 = .ok (.istore 4, 2) := by decide +kernel
theorem dX3_addRoad_6 : decode cX3_addRoad 6 = .ok (.aload_n 0, 1) := by decide +kernel
theorem dX3_addRoad_7 : decode cX3_addRoad 7 = .ok (.getfield 18, 3) := by decide +kernel
theorem dX3_addRoad_10 : decode cX3_addRoad 10 = .ok (.iload 4, 2) := by decide +kernel
theorem dX3_addRoad_12 : decode cX3_addRoad 12 = .ok (.iload_n 1, 1) := by decide +kernel
theorem dX3_addRoad_13 : decode cX3_addRoad 13 = .ok (.iload_n 2, 1) := by decide +kernel
theorem dX3_addRoad_14 : decode cX3_addRoad 14 = .ok (.invokestatic 34, 3) := by decide +kernel
theorem dX3_addRoad_17 : decode cX3_addRoad 17 = .ok (.iastore, 1) := by decide +kernel
theorem dX3_addRoad_18 : decode cX3_addRoad 18 = .ok (.aload_n 0, 1) := by decide +kernel
theorem dX3_addRoad_19 : decode cX3_addRoad 19 = .ok (.getfield 21, 3) := by decide +kernel
theorem dX3_addRoad_22 : decode cX3_addRoad 22 = .ok (.iload 4, 2) := by decide +kernel
theorem dX3_addRoad_24 : decode cX3_addRoad 24 = .ok (.iload_n 1, 1) := by decide +kernel
theorem dX3_addRoad_25 : decode cX3_addRoad 25 = .ok (.iload_n 2, 1) := by decide +kernel
theorem dX3_addRoad_26 : decode cX3_addRoad 26 = .ok (.invokestatic 40, 3) := by decide +kernel
theorem dX3_addRoad_29 : decode cX3_addRoad 29 = .ok (.iastore, 1) := by decide +kernel
theorem dX3_addRoad_30 : decode cX3_addRoad 30 = .ok (.aload_n 0, 1) := by decide +kernel
theorem dX3_addRoad_31 : decode cX3_addRoad 31 = .ok (.getfield 24, 3) := by decide +kernel
theorem dX3_addRoad_34 : decode cX3_addRoad 34 = .ok (.iload 4, 2) := by decide +kernel
theorem dX3_addRoad_36 : decode cX3_addRoad 36 = .ok (.iload_n 3, 1) := by decide +kernel
theorem dX3_addRoad_37 : decode cX3_addRoad 37 = .ok (.iastore, 1) := by decide +kernel
theorem dX3_addRoad_38 : decode cX3_addRoad 38 = .ok (.aload_n 0, 1) := by decide +kernel
theorem dX3_addRoad_39 : decode cX3_addRoad 39 = .ok (.dup, 1) := by decide +kernel
theorem dX3_addRoad_40 : decode cX3_addRoad 40 = .ok (.getfield 31, 3) := by decide +kernel
theorem dX3_addRoad_43 : decode cX3_addRoad 43 = .ok (.iconst 1, 1) := by decide +kernel
theorem dX3_addRoad_44 : decode cX3_addRoad 44 = .ok (.iadd, 1) := by decide +kernel
theorem dX3_addRoad_45 : decode cX3_addRoad 45 = .ok (.putfield 31, 3) := by decide +kernel
theorem dX3_addRoad_48 : decode cX3_addRoad 48 = .ok (.iload 4, 2) := by decide +kernel
theorem dX3_addRoad_50 : decode cX3_addRoad 50 = .ok (.ireturn, 1) := by decide +kernel
theorem dX3_joins_0 : decode cX3_joins 0 = .ok (.iconst 0, 1) := by decide +kernel
theorem dX3_joins_1 : decode cX3_joins 1 = .ok (.istore_n 3, 1) := by decide +kernel
theorem dX3_joins_2 : decode cX3_joins 2 = .ok (.iload_n 3, 1) := by decide +kernel
theorem dX3_joins_3 : decode cX3_joins 3 = .ok (.aload_n 0, 1) := by decide +kernel
theorem dX3_joins_4 : decode cX3_joins 4 = .ok (.getfield 31, 3) := by decide +kernel
theorem dX3_joins_7 : decode cX3_joins 7 = .ok (.if_icmp .ge 39, 3) := by decide +kernel
theorem dX3_joins_10 : decode cX3_joins 10 = .ok (.aload_n 0, 1) := by decide +kernel
theorem dX3_joins_11 : decode cX3_joins 11 = .ok (.getfield 18, 3) := by decide +kernel
theorem dX3_joins_14 : decode cX3_joins 14 = .ok (.iload_n 3, 1) := by decide +kernel
theorem dX3_joins_15 : decode cX3_joins 15 = .ok (.iaload, 1) := by decide +kernel
theorem dX3_joins_16 : decode cX3_joins 16 = .ok (.iload_n 1, 1) := by decide +kernel
theorem dX3_joins_17 : decode cX3_joins 17 = .ok (.iload_n 2, 1) := by decide +kernel
theorem dX3_joins_18 : decode cX3_joins 18 = .ok (.invokestatic 34, 3) := by decide +kernel
theorem dX3_joins_21 : decode cX3_joins 21 = .ok (.if_icmp .ne 19, 3) := by decide +kernel
theorem dX3_joins_24 : decode cX3_joins 24 = .ok (.aload_n 0, 1) := by decide +kernel
theorem dX3_joins_25 : decode cX3_joins 25 = .ok (.getfield 21, 3) := by decide +kernel
theorem dX3_joins_28 : decode cX3_joins 28 = .ok (.iload_n 3, 1) := by decide +kernel
theorem dX3_joins_29 : decode cX3_joins 29 = .ok (.iaload, 1) := by decide +kernel
theorem dX3_joins_30 : decode cX3_joins 30 = .ok (.iload_n 1, 1) := by decide +kernel
theorem dX3_joins_31 : decode cX3_joins 31 = .ok (.iload_n 2, 1) := by decide +kernel
theorem dX3_joins_32 : decode cX3_joins 32 = .ok (.invokestatic 40, 3) := by decide +kernel
theorem dX3_joins_35 : decode cX3_joins 35 = .ok (.if_icmp .ne 5, 3) := by decide +kernel
theorem dX3_joins_38 : decode cX3_joins 38 = .ok (.iconst 1, 1) := by decide +kernel
theorem dX3_joins_39 : decode cX3_joins 39 = .ok (.ireturn, 1) := by decide +kernel
theorem dX3_joins_40 : decode cX3_joins 40 = .ok (.iinc 3 1, 3) := by decide +kernel
theorem dX3_joins_43 : decode cX3_joins 43 = .ok (.goto (-41), 3) := by decide +kernel
theorem dX3_joins_46 : decode cX3_joins 46 = .ok (.iconst 0, 1) := by decide +kernel
theorem dX3_joins_47 : decode cX3_joins 47 = .ok (.ireturn, 1) := by decide +kernel
theorem dX3_roadsAt_0 : decode cX3_roadsAt 0 = .ok (.iconst 0, 1) := by decide +kernel
theorem dX3_roadsAt_1 : decode cX3_roadsAt 1 = .ok (.istore_n 2, 1) := by decide +kernel
theorem dX3_roadsAt_2 : decode cX3_roadsAt 2 = .ok (.iconst 0, 1) := by decide +kernel
theorem dX3_roadsAt_3 : decode cX3_roadsAt 3 = .ok (.istore_n 3, 1) := by decide +kernel
theorem dX3_roadsAt_4 : decode cX3_roadsAt 4 = .ok (.iload_n 3, 1) := by decide +kernel
theorem dX3_roadsAt_5 : decode cX3_roadsAt 5 = .ok (.aload_n 0, 1) := by decide +kernel
theorem dX3_roadsAt_6 : decode cX3_roadsAt 6 = .ok (.getfield 31, 3) := by decide +kernel
theorem dX3_roadsAt_9 : decode cX3_roadsAt 9 = .ok (.if_icmp .ge 21, 3) := by decide +kernel
theorem dX3_roadsAt_12 : decode cX3_roadsAt 12 = .ok (.aload_n 0, 1) := by decide +kernel
theorem dX3_roadsAt_13 : decode cX3_roadsAt 13 = .ok (.iload_n 3, 1) := by decide +kernel
theorem dX3_roadsAt_14 : decode cX3_roadsAt 14 = .ok (.iload_n 1, 1) := by decide +kernel
theorem dX3_roadsAt_15 : decode cX3_roadsAt 15 = .ok (.invokevirtual 43, 3) := by decide +kernel
theorem dX3_roadsAt_18 : decode cX3_roadsAt 18 = .ok (.ifCond .lt 6, 3) := by decide +kernel
theorem dX3_roadsAt_21 : decode cX3_roadsAt 21 = .ok (.iinc 2 1, 3) := by decide +kernel
theorem dX3_roadsAt_24 : decode cX3_roadsAt 24 = .ok (.iinc 3 1, 3) := by decide +kernel
theorem dX3_roadsAt_27 : decode cX3_roadsAt 27 = .ok (.goto (-23), 3) := by decide +kernel
theorem dX3_roadsAt_30 : decode cX3_roadsAt 30 = .ok (.iload_n 2, 1) := by decide +kernel
theorem dX3_roadsAt_31 : decode cX3_roadsAt 31 = .ok (.ireturn, 1) := by decide +kernel
theorem dX3_otherEnd_0 : decode cX3_otherEnd 0 = .ok (.aload_n 0, 1) := by decide +kernel
theorem dX3_otherEnd_1 : decode cX3_otherEnd 1 = .ok (.getfield 18, 3) := by decide +kernel
theorem dX3_otherEnd_4 : decode cX3_otherEnd 4 = .ok (.iload_n 1, 1) := by decide +kernel
theorem dX3_otherEnd_5 : decode cX3_otherEnd 5 = .ok (.iaload, 1) := by decide +kernel
theorem dX3_otherEnd_6 : decode cX3_otherEnd 6 = .ok (.iload_n 2, 1) := by decide +kernel
theorem dX3_otherEnd_7 : decode cX3_otherEnd 7 = .ok (.if_icmp .ne 10, 3) := by decide +kernel
theorem dX3_otherEnd_10 : decode cX3_otherEnd 10 = .ok (.aload_n 0, 1) := by decide +kernel
theorem dX3_otherEnd_11 : decode cX3_otherEnd 11 = .ok (.getfield 21, 3) := by decide +kernel
theorem dX3_otherEnd_14 : decode cX3_otherEnd 14 = .ok (.iload_n 1, 1) := by decide +kernel
theorem dX3_otherEnd_15 : decode cX3_otherEnd 15 = .ok (.iaload, 1) := by decide +kernel
theorem dX3_otherEnd_16 : decode cX3_otherEnd 16 = .ok (.ireturn, 1) := by decide +kernel
theorem dX3_otherEnd_17 : decode cX3_otherEnd 17 = .ok (.aload_n 0, 1) := by decide +kernel
theorem dX3_otherEnd_18 : decode cX3_otherEnd 18 = .ok (.getfield 21, 3) := by decide +kernel
theorem dX3_otherEnd_21 : decode cX3_otherEnd 21 = .ok (.iload_n 1, 1) := by decide +kernel
theorem dX3_otherEnd_22 : decode cX3_otherEnd 22 = .ok (.iaload, 1) := by decide +kernel
theorem dX3_otherEnd_23 : decode cX3_otherEnd 23 = .ok (.iload_n 2, 1) := by decide +kernel
theorem dX3_otherEnd_24 : decode cX3_otherEnd 24 = .ok (.if_icmp .ne 12, 3) := by decide +kernel
theorem dX3_otherEnd_27 : decode cX3_otherEnd 27 = .ok (.aload_n 0, 1) := by decide +kernel
theorem dX3_otherEnd_28 : decode cX3_otherEnd 28 = .ok (.getfield 18, 3) := by decide +kernel
theorem dX3_otherEnd_31 : decode cX3_otherEnd 31 = .ok (.iload_n 1, 1) := by decide +kernel
theorem dX3_otherEnd_32 : decode cX3_otherEnd 32 = .ok (.iaload, 1) := by decide +kernel
theorem dX3_otherEnd_33 : decode cX3_otherEnd 33 = .ok (.goto 4, 3) := by decide +kernel
theorem dX3_otherEnd_36 : decode cX3_otherEnd 36 = .ok (.iconst (-1), 1) := by decide +kernel
theorem dX3_otherEnd_37 : decode cX3_otherEnd 37 = .ok (.ireturn, 1) := by decide +kernel
theorem dX3_copyFrom_0 : decode cX3_copyFrom 0 = .ok (.aload_n 1, 1) := by decide +kernel
theorem dX3_copyFrom_1 : decode cX3_copyFrom 1 = .ok (.getfield 9, 3) := by decide +kernel
theorem dX3_copyFrom_4 : decode cX3_copyFrom 4 = .ok (.iconst 0, 1) := by decide +kernel
theorem dX3_copyFrom_5 : decode cX3_copyFrom 5 = .ok (.aload_n 0, 1) := by decide +kernel
theorem dX3_copyFrom_6 : decode cX3_copyFrom 6 = .ok (.getfield 9, 3) := by decide +kernel
theorem dX3_copyFrom_9 : decode cX3_copyFrom 9 = .ok (.iconst 0, 1) := by decide +kernel
theorem dX3_copyFrom_10 : decode cX3_copyFrom 10 = .ok (.bipush 8, 2) := by decide +kernel
theorem dX3_copyFrom_12 : decode cX3_copyFrom 12 = .ok (.invokestatic 46, 3) := by decide +kernel
theorem dX3_copyFrom_15 : decode cX3_copyFrom 15 = .ok (.aload_n 1, 1) := by decide +kernel
theorem dX3_copyFrom_16 : decode cX3_copyFrom 16 = .ok (.getfield 15, 3) := by decide +kernel
theorem dX3_copyFrom_19 : decode cX3_copyFrom 19 = .ok (.iconst 0, 1) := by decide +kernel
theorem dX3_copyFrom_20 : decode cX3_copyFrom 20 = .ok (.aload_n 0, 1) := by decide +kernel
theorem dX3_copyFrom_21 : decode cX3_copyFrom 21 = .ok (.getfield 15, 3) := by decide +kernel
theorem dX3_copyFrom_24 : decode cX3_copyFrom 24 = .ok (.iconst 0, 1) := by decide +kernel
theorem dX3_copyFrom_25 : decode cX3_copyFrom 25 = .ok (.bipush 32, 2) := by decide +kernel
theorem dX3_copyFrom_27 : decode cX3_copyFrom 27 = .ok (.invokestatic 46, 3) := by decide +kernel
theorem dX3_copyFrom_30 : decode cX3_copyFrom 30 = .ok (.aload_n 1, 1) := by decide +kernel
theorem dX3_copyFrom_31 : decode cX3_copyFrom 31 = .ok (.getfield 18, 3) := by decide +kernel
theorem dX3_copyFrom_34 : decode cX3_copyFrom 34 = .ok (.iconst 0, 1) := by decide +kernel
theorem dX3_copyFrom_35 : decode cX3_copyFrom 35 = .ok (.aload_n 0, 1) := by decide +kernel
theorem dX3_copyFrom_36 : decode cX3_copyFrom 36 = .ok (.getfield 18, 3) := by decide +kernel
theorem dX3_copyFrom_39 : decode cX3_copyFrom 39 = .ok (.iconst 0, 1) := by decide +kernel
theorem dX3_copyFrom_40 : decode cX3_copyFrom 40 = .ok (.bipush 15, 2) := by decide +kernel
theorem dX3_copyFrom_42 : decode cX3_copyFrom 42 = .ok (.invokestatic 46, 3) := by decide +kernel
theorem dX3_copyFrom_45 : decode cX3_copyFrom 45 = .ok (.aload_n 1, 1) := by decide +kernel
theorem dX3_copyFrom_46 : decode cX3_copyFrom 46 = .ok (.getfield 21, 3) := by decide +kernel
theorem dX3_copyFrom_49 : decode cX3_copyFrom 49 = .ok (.iconst 0, 1) := by decide +kernel
theorem dX3_copyFrom_50 : decode cX3_copyFrom 50 = .ok (.aload_n 0, 1) := by decide +kernel
theorem dX3_copyFrom_51 : decode cX3_copyFrom 51 = .ok (.getfield 21, 3) := by decide +kernel
theorem dX3_copyFrom_54 : decode cX3_copyFrom 54 = .ok (.iconst 0, 1) := by decide +kernel
theorem dX3_copyFrom_55 : decode cX3_copyFrom 55 = .ok (.bipush 15, 2) := by decide +kernel
theorem dX3_copyFrom_57 : decode cX3_copyFrom 57 = .ok (.invokestatic 46, 3) := by decide +kernel
theorem dX3_copyFrom_60 : decode cX3_copyFrom 60 = .ok (.aload_n 1, 1) := by decide +kernel
theorem dX3_copyFrom_61 : decode cX3_copyFrom 61 = .ok (.getfield 24, 3) := by decide +kernel
theorem dX3_copyFrom_64 : decode cX3_copyFrom 64 = .ok (.iconst 0, 1) := by decide +kernel
theorem dX3_copyFrom_65 : decode cX3_copyFrom 65 = .ok (.aload_n 0, 1) := by decide +kernel
theorem dX3_copyFrom_66 : decode cX3_copyFrom 66 = .ok (.getfield 24, 3) := by decide +kernel
theorem dX3_copyFrom_69 : decode cX3_copyFrom 69 = .ok (.iconst 0, 1) := by decide +kernel
theorem dX3_copyFrom_70 : decode cX3_copyFrom 70 = .ok (.bipush 15, 2) := by decide +kernel
theorem dX3_copyFrom_72 : decode cX3_copyFrom 72 = .ok (.invokestatic 46, 3) := by decide +kernel
theorem dX3_copyFrom_75 : decode cX3_copyFrom 75 = .ok (.aload_n 0, 1) := by decide +kernel
theorem dX3_copyFrom_76 : decode cX3_copyFrom 76 = .ok (.aload_n 1, 1) := by decide +kernel
theorem dX3_copyFrom_77 : decode cX3_copyFrom 77 = .ok (.getfield 27, 3) := by decide +kernel
theorem dX3_copyFrom_80 : decode cX3_copyFrom 80 = .ok (.putfield 27, 3) := by decide +kernel
theorem dX3_copyFrom_83 : decode cX3_copyFrom 83 = .ok (.aload_n 0, 1) := by decide +kernel
theorem dX3_copyFrom_84 : decode cX3_copyFrom 84 = .ok (.aload_n 1, 1) := by decide +kernel
theorem dX3_copyFrom_85 : decode cX3_copyFrom 85 = .ok (.getfield 31, 3) := by decide +kernel
theorem dX3_copyFrom_88 : decode cX3_copyFrom 88 = .ok (.putfield 31, 3) := by decide +kernel
theorem dX3_copyFrom_91 : decode cX3_copyFrom 91 = .ok (.return_, 1) := by decide +kernel
theorem dX7_init_0 : decode cX7_init 0 = .ok (.aload_n 0, 1) := by decide +kernel
theorem dX7_init_1 : decode cX7_init 1 = .ok (.invokespecial 3, 3) := by decide +kernel
theorem dX7_init_4 : decode cX7_init 4 = .ok (.aload_n 0, 1) := by decide +kernel
theorem dX7_init_5 : decode cX7_init 5 = .ok (.new 9, 3) := by decide +kernel
theorem dX7_init_8 : decode cX7_init 8 = .ok (.dup, 1) := by decide +kernel
theorem dX7_init_9 : decode cX7_init 9 = .ok (.invokespecial 11, 3) := by decide +kernel
theorem dX7_init_12 : decode cX7_init 12 = .ok (.putfield 12, 3) := by decide +kernel
theorem dX7_init_15 : decode cX7_init 15 = .ok (.aload_n 0, 1) := by decide +kernel
theorem dX7_init_16 : decode cX7_init 16 = .ok (.iconst 4, 1) := by decide +kernel
theorem dX7_init_17 : decode cX7_init 17 = .ok (.newarray .int, 2) := by decide +kernel
theorem dX7_init_19 : decode cX7_init 19 = .ok (.putfield 18, 3) := by decide +kernel
theorem dX7_init_22 : decode cX7_init 22 = .ok (.aload_n 0, 1) := by decide +kernel
theorem dX7_init_23 : decode cX7_init 23 = .ok (.iconst 4, 1) := by decide +kernel
theorem dX7_init_24 : decode cX7_init 24 = .ok (.newarray .int, 2) := by decide +kernel
theorem dX7_init_26 : decode cX7_init 26 = .ok (.putfield 22, 3) := by decide +kernel
theorem dX7_init_29 : decode cX7_init 29 = .ok (.aload_n 0, 1) := by decide +kernel
theorem dX7_init_30 : decode cX7_init 30 = .ok (.bipush 6, 2) := by decide +kernel
theorem dX7_init_32 : decode cX7_init 32 = .ok (.newarray .int, 2) := by decide +kernel
theorem dX7_init_34 : decode cX7_init 34 = .ok (.putfield 25, 3) := by decide +kernel
theorem dX7_init_37 : decode cX7_init 37 = .ok (.aload_n 0, 1) := by decide +kernel
theorem dX7_init_38 : decode cX7_init 38 = .ok (.bipush 6, 2) := by decide +kernel
theorem dX7_init_40 : decode cX7_init 40 = .ok (.newarray .int, 2) := by decide +kernel
theorem dX7_init_42 : decode cX7_init 42 = .ok (.putfield 28, 3) := by decide +kernel
theorem dX7_init_45 : decode cX7_init 45 = .ok (.aload_n 0, 1) := by decide +kernel
theorem dX7_init_46 : decode cX7_init 46 = .ok (.bipush 6, 2) := by decide +kernel
theorem dX7_init_48 : decode cX7_init 48 = .ok (.newarray .int, 2) := by decide +kernel
theorem dX7_init_50 : decode cX7_init 50 = .ok (.putfield 31, 3) := by decide +kernel
theorem dX7_init_53 : decode cX7_init 53 = .ok (.aload_n 0, 1) := by decide +kernel
theorem dX7_init_54 : decode cX7_init 54 = .ok (.bipush 6, 2) := by decide +kernel
theorem dX7_init_56 : decode cX7_init 56 = .ok (.newarray .int, 2) := by decide +kernel
theorem dX7_init_58 : decode cX7_init 58 = .ok (.putfield 34, 3) := by decide +kernel
theorem dX7_init_61 : decode cX7_init 61 = .ok (.aload_n 0, 1) := by decide +kernel
theorem dX7_init_62 : decode cX7_init 62 = .ok (.bipush 6, 2) := by decide +kernel
theorem dX7_init_64 : decode cX7_init 64 = .ok (.newarray .int, 2) := by decide +kernel
theorem dX7_init_66 : decode cX7_init 66 = .ok (.putfield 37, 3) := by decide +kernel
theorem dX7_init_69 : decode cX7_init 69 = .ok (.aload_n 0, 1) := by decide +kernel
theorem dX7_init_70 : decode cX7_init 70 = .ok (.bipush 6, 2) := by decide +kernel
theorem dX7_init_72 : decode cX7_init 72 = .ok (.newarray .int, 2) := by decide +kernel
theorem dX7_init_74 : decode cX7_init 74 = .ok (.putfield 40, 3) := by decide +kernel
theorem dX7_init_77 : decode cX7_init 77 = .ok (.return_, 1) := by decide +kernel
theorem dX7_seasonOf_0 : decode cX7_seasonOf 0 = .ok (.iload_n 0, 1) := by decide +kernel
theorem dX7_seasonOf_1 : decode cX7_seasonOf 1 = .ok (.bipush 13, 2) := by decide +kernel
theorem dX7_seasonOf_3 : decode cX7_seasonOf 3 = .ok (.idiv, 1) := by decide +kernel
theorem dX7_seasonOf_4 : decode cX7_seasonOf 4 = .ok (.iconst 4, 1) := by decide +kernel
theorem dX7_seasonOf_5 : decode cX7_seasonOf 5 = .ok (.irem, 1) := by decide +kernel
theorem dX7_seasonOf_6 : decode cX7_seasonOf 6 = .ok (.ireturn, 1) := by decide +kernel
theorem dX7_season_0 : decode cX7_season 0 = .ok (.aload_n 0, 1) := by decide +kernel
theorem dX7_season_1 : decode cX7_season 1 = .ok (.getfield 43, 3) := by decide +kernel
theorem dX7_season_4 : decode cX7_season 4 = .ok (.invokestatic 47, 3) := by decide +kernel
theorem dX7_season_7 : decode cX7_season 7 = .ok (.ireturn, 1) := by decide +kernel
theorem dX7_weightAt_0 : decode cX7_weightAt 0 = .ok (.aload_n 0, 1) := by decide +kernel
theorem dX7_weightAt_1 : decode cX7_weightAt 1 = .ok (.getfield 12, 3) := by decide +kernel
theorem dX7_weightAt_4 : decode cX7_weightAt 4 = .ok (.getfield 51, 3) := by decide +kernel
theorem dX7_weightAt_7 : decode cX7_weightAt 7 = .ok (.iload_n 1, 1) := by decide +kernel
theorem dX7_weightAt_8 : decode cX7_weightAt 8 = .ok (.iaload, 1) := by decide +kernel
theorem dX7_weightAt_9 : decode cX7_weightAt 9 = .ok (.aload_n 0, 1) := by decide +kernel
theorem dX7_weightAt_10 : decode cX7_weightAt 10 = .ok (.getfield 12, 3) := by decide +kernel
theorem dX7_weightAt_13 : decode cX7_weightAt 13 = .ok (.getfield 54, 3) := by decide +kernel
theorem dX7_weightAt_16 : decode cX7_weightAt 16 = .ok (.iload_n 1, 1) := by decide +kernel
theorem dX7_weightAt_17 : decode cX7_weightAt 17 = .ok (.iconst 4, 1) := by decide +kernel
theorem dX7_weightAt_18 : decode cX7_weightAt 18 = .ok (.imul, 1) := by decide +kernel
theorem dX7_weightAt_19 : decode cX7_weightAt 19 = .ok (.aload_n 0, 1) := by decide +kernel
theorem dX7_weightAt_20 : decode cX7_weightAt 20 = .ok (.invokevirtual 57, 3) := by decide +kernel
theorem dX7_weightAt_23 : decode cX7_weightAt 23 = .ok (.iadd, 1) := by decide +kernel
theorem dX7_weightAt_24 : decode cX7_weightAt 24 = .ok (.iaload, 1) := by decide +kernel
theorem dX7_weightAt_25 : decode cX7_weightAt 25 = .ok (.iload_n 2, 1) := by decide +kernel
theorem dX7_weightAt_26 : decode cX7_weightAt 26 = .ok (.invokestatic 61, 3) := by decide +kernel
theorem dX7_weightAt_29 : decode cX7_weightAt 29 = .ok (.ireturn, 1) := by decide +kernel
theorem dX7_weightOfGood_0 : decode cX7_weightOfGood 0 = .ok (.aload_n 0, 1) := by decide +kernel
theorem dX7_weightOfGood_1 : decode cX7_weightOfGood 1 = .ok (.aload_n 0, 1) := by decide +kernel
theorem dX7_weightOfGood_2 : decode cX7_weightOfGood 2 = .ok (.getfield 31, 3) := by decide +kernel
theorem dX7_weightOfGood_5 : decode cX7_weightOfGood 5 = .ok (.iload_n 1, 1) := by decide +kernel
theorem dX7_weightOfGood_6 : decode cX7_weightOfGood 6 = .ok (.iaload, 1) := by decide +kernel
theorem dX7_weightOfGood_7 : decode cX7_weightOfGood 7 = .ok (.aload_n 0, 1) := by decide +kernel
theorem dX7_weightOfGood_8 : decode cX7_weightOfGood 8 = .ok (.getfield 25, 3) := by decide +kernel
theorem dX7_weightOfGood_11 : decode cX7_weightOfGood 11 = .ok (.iload_n 1, 1) := by decide +kernel
theorem dX7_weightOfGood_12 : decode cX7_weightOfGood 12 = .ok (.iaload, 1) := by decide +kernel
theorem dX7_weightOfGood_13 : decode cX7_weightOfGood 13 = .ok (.invokevirtual 65, 3) := by decide +kernel
theorem dX7_weightOfGood_16 : decode cX7_weightOfGood 16 = .ok (.ireturn, 1) := by decide +kernel
theorem dX7_hasCart_0 : decode cX7_hasCart 0 = .ok (.iload_n 1, 1) := by decide +kernel
theorem dX7_hasCart_1 : decode cX7_hasCart 1 = .ok (.ifCond .lt 15, 3) := by decide +kernel
theorem dX7_hasCart_4 : decode cX7_hasCart 4 = .ok (.iload_n 1, 1) := by decide +kernel
theorem dX7_hasCart_5 : decode cX7_hasCart 5 = .ok (.aload_n 0, 1) := by decide +kernel
theorem dX7_hasCart_6 : decode cX7_hasCart 6 = .ok (.getfield 69, 3) := by decide +kernel
theorem dX7_hasCart_9 : decode cX7_hasCart 9 = .ok (.if_icmp .ge 7, 3) := by decide +kernel
theorem dX7_hasCart_12 : decode cX7_hasCart 12 = .ok (.iconst 1, 1) := by decide +kernel
theorem dX7_hasCart_13 : decode cX7_hasCart 13 = .ok (.goto 4, 3) := by decide +kernel
theorem dX7_hasCart_16 : decode cX7_hasCart 16 = .ok (.iconst 0, 1) := by decide +kernel
theorem dX7_hasCart_17 : decode cX7_hasCart 17 = .ok (.ireturn, 1) := by decide +kernel
theorem dX7_hasGood_0 : decode cX7_hasGood 0 = .ok (.iload_n 1, 1) := by decide +kernel
theorem dX7_hasGood_1 : decode cX7_hasGood 1 = .ok (.ifCond .lt 15, 3) := by decide +kernel
theorem dX7_hasGood_4 : decode cX7_hasGood 4 = .ok (.iload_n 1, 1) := by decide +kernel
theorem dX7_hasGood_5 : decode cX7_hasGood 5 = .ok (.aload_n 0, 1) := by decide +kernel
theorem dX7_hasGood_6 : decode cX7_hasGood 6 = .ok (.getfield 72, 3) := by decide +kernel
theorem dX7_hasGood_9 : decode cX7_hasGood 9 = .ok (.if_icmp .ge 7, 3) := by decide +kernel
theorem dX7_hasGood_12 : decode cX7_hasGood 12 = .ok (.iconst 1, 1) := by decide +kernel
theorem dX7_hasGood_13 : decode cX7_hasGood 13 = .ok (.goto 4, 3) := by decide +kernel
theorem dX7_hasGood_16 : decode cX7_hasGood 16 = .ok (.iconst 0, 1) := by decide +kernel
theorem dX7_hasGood_17 : decode cX7_hasGood 17 = .ok (.ireturn, 1) := by decide +kernel
theorem dX7_addCart_0 : decode cX7_addCart 0 = .ok (.aload_n 0, 1) := by decide +kernel
theorem dX7_addCart_1 : decode cX7_addCart 1 = .ok (.getfield 18, 3) := by decide +kernel
theorem dX7_addCart_4 : decode cX7_addCart 4 = .ok (.aload_n 0, 1) := by decide +kernel
theorem dX7_addCart_5 : decode cX7_addCart 5 = .ok (.getfield 69, 3) := by decide +kernel
theorem dX7_addCart_8 : decode cX7_addCart 8 = .ok (.iload_n 1, 1) := by decide +kernel
theorem dX7_addCart_9 : decode cX7_addCart 9 = .ok (.iastore, 1) := by decide +kernel
theorem dX7_addCart_10 : decode cX7_addCart 10 = .ok (.aload_n 0, 1) := by decide +kernel
theorem dX7_addCart_11 : decode cX7_addCart 11 = .ok (.getfield 22, 3) := by decide +kernel
theorem dX7_addCart_14 : decode cX7_addCart 14 = .ok (.aload_n 0, 1) := by decide +kernel
theorem dX7_addCart_15 : decode cX7_addCart 15 = .ok (.getfield 69, 3) := by decide +kernel
theorem dX7_addCart_18 : decode cX7_addCart 18 = .ok (.iload_n 2, 1) := by decide +kernel
theorem dX7_addCart_19 : decode cX7_addCart 19 = .ok (.iastore, 1) := by decide +kernel
theorem dX7_addCart_20 : decode cX7_addCart 20 = .ok (.aload_n 0, 1) := by decide +kernel
theorem dX7_addCart_21 : decode cX7_addCart 21 = .ok (.dup, 1) := by decide +kernel
theorem dX7_addCart_22 : decode cX7_addCart 22 = .ok (.getfield 69, 3) := by decide +kernel
theorem dX7_addCart_25 : decode cX7_addCart 25 = .ok (.iconst 1, 1) := by decide +kernel
theorem dX7_addCart_26 : decode cX7_addCart 26 = .ok (.iadd, 1) := by decide +kernel
theorem dX7_addCart_27 : decode cX7_addCart 27 = .ok (.putfield 69, 3) := by decide +kernel
theorem dX7_addCart_30 : decode cX7_addCart 30 = .ok (.aload_n 0, 1) := by decide +kernel
theorem dX7_addCart_31 : decode cX7_addCart 31 = .ok (.getfield 69, 3) := by decide +kernel
theorem dX7_addCart_34 : decode cX7_addCart 34 = .ok (.iconst 1, 1) := by decide +kernel
theorem dX7_addCart_35 : decode cX7_addCart 35 = .ok (.isub, 1) := by decide +kernel
theorem dX7_addCart_36 : decode cX7_addCart 36 = .ok (.ireturn, 1) := by decide +kernel
theorem dX7_addGood_0 : decode cX7_addGood 0 = .ok (.aload_n 0, 1) := by decide +kernel
theorem dX7_addGood_1 : decode cX7_addGood 1 = .ok (.getfield 25, 3) := by decide +kernel
theorem dX7_addGood_4 : decode cX7_addGood 4 = .ok (.aload_n 0, 1) := by decide +kernel
theorem dX7_addGood_5 : decode cX7_addGood 5 = .ok (.getfield 72, 3) := by decide +kernel
theorem dX7_addGood_8 : decode cX7_addGood 8 = .ok (.iload_n 1, 1) := by decide +kernel
theorem dX7_addGood_9 : decode cX7_addGood 9 = .ok (.iastore, 1) := by decide +kernel
theorem dX7_addGood_10 : decode cX7_addGood 10 = .ok (.aload_n 0, 1) := by decide +kernel
theorem dX7_addGood_11 : decode cX7_addGood 11 = .ok (.getfield 28, 3) := by decide +kernel
theorem dX7_addGood_14 : decode cX7_addGood 14 = .ok (.aload_n 0, 1) := by decide +kernel
theorem dX7_addGood_15 : decode cX7_addGood 15 = .ok (.getfield 72, 3) := by decide +kernel
theorem dX7_addGood_18 : decode cX7_addGood 18 = .ok (.iload_n 2, 1) := by decide +kernel
theorem dX7_addGood_19 : decode cX7_addGood 19 = .ok (.iastore, 1) := by decide +kernel
theorem dX7_addGood_20 : decode cX7_addGood 20 = .ok (.aload_n 0, 1) := by decide +kernel
theorem dX7_addGood_21 : decode cX7_addGood 21 = .ok (.getfield 31, 3) := by decide +kernel
theorem dX7_addGood_24 : decode cX7_addGood 24 = .ok (.aload_n 0, 1) := by decide +kernel
theorem dX7_addGood_25 : decode cX7_addGood 25 = .ok (.getfield 72, 3) := by decide +kernel
theorem dX7_addGood_28 : decode cX7_addGood 28 = .ok (.iload_n 3, 1) := by decide +kernel
theorem dX7_addGood_29 : decode cX7_addGood 29 = .ok (.iastore, 1) := by decide +kernel
theorem dX7_addGood_30 : decode cX7_addGood 30 = .ok (.aload_n 0, 1) := by decide +kernel
theorem dX7_addGood_31 : decode cX7_addGood 31 = .ok (.getfield 34, 3) := by decide +kernel
theorem dX7_addGood_34 : decode cX7_addGood 34 = .ok (.aload_n 0, 1) := by decide +kernel
theorem dX7_addGood_35 : decode cX7_addGood 35 = .ok (.getfield 72, 3) := by decide +kernel
theorem dX7_addGood_38 : decode cX7_addGood 38 = .ok (.iconst 0, 1) := by decide +kernel
theorem dX7_addGood_39 : decode cX7_addGood 39 = .ok (.iastore, 1) := by decide +kernel
theorem dX7_addGood_40 : decode cX7_addGood 40 = .ok (.aload_n 0, 1) := by decide +kernel
theorem dX7_addGood_41 : decode cX7_addGood 41 = .ok (.dup, 1) := by decide +kernel
theorem dX7_addGood_42 : decode cX7_addGood 42 = .ok (.getfield 72, 3) := by decide +kernel
theorem dX7_addGood_45 : decode cX7_addGood 45 = .ok (.iconst 1, 1) := by decide +kernel
theorem dX7_addGood_46 : decode cX7_addGood 46 = .ok (.iadd, 1) := by decide +kernel
theorem dX7_addGood_47 : decode cX7_addGood 47 = .ok (.putfield 72, 3) := by decide +kernel
theorem dX7_addGood_50 : decode cX7_addGood 50 = .ok (.aload_n 0, 1) := by decide +kernel
theorem dX7_addGood_51 : decode cX7_addGood 51 = .ok (.getfield 72, 3) := by decide +kernel
theorem dX7_addGood_54 : decode cX7_addGood 54 = .ok (.iconst 1, 1) := by decide +kernel
theorem dX7_addGood_55 : decode cX7_addGood 55 = .ok (.isub, 1) := by decide +kernel
theorem dX7_addGood_56 : decode cX7_addGood 56 = .ok (.ireturn, 1) := by decide +kernel
theorem dX7_addPerson_0 : decode cX7_addPerson 0 = .ok (.aload_n 0, 1) := by decide +kernel
theorem dX7_addPerson_1 : decode cX7_addPerson 1 = .ok (.getfield 37, 3) := by decide +kernel
theorem dX7_addPerson_4 : decode cX7_addPerson 4 = .ok (.aload_n 0, 1) := by decide +kernel
theorem dX7_addPerson_5 : decode cX7_addPerson 5 = .ok (.getfield 75, 3) := by decide +kernel
theorem dX7_addPerson_8 : decode cX7_addPerson 8 = .ok (.iload_n 1, 1) := by decide +kernel
theorem dX7_addPerson_9 : decode cX7_addPerson 9 = .ok (.iastore, 1) := by decide +kernel
theorem dX7_addPerson_10 : decode cX7_addPerson 10 = .ok (.aload_n 0, 1) := by decide +kernel
theorem dX7_addPerson_11 : decode cX7_addPerson 11 = .ok (.getfield 40, 3) := by decide +kernel
theorem dX7_addPerson_14 : decode cX7_addPerson 14 = .ok (.aload_n 0, 1) := by decide +kernel
theorem dX7_addPerson_15 : decode cX7_addPerson 15 = .ok (.getfield 75, 3) := by decide +kernel
theorem dX7_addPerson_18 : decode cX7_addPerson 18 = .ok (.iload_n 2, 1) := by decide +kernel
theorem dX7_addPerson_19 : decode cX7_addPerson 19 = .ok (.iastore, 1) := by decide +kernel
theorem dX7_addPerson_20 : decode cX7_addPerson 20 = .ok (.aload_n 0, 1) := by decide +kernel
theorem dX7_addPerson_21 : decode cX7_addPerson 21 = .ok (.dup, 1) := by decide +kernel
theorem dX7_addPerson_22 : decode cX7_addPerson 22 = .ok (.getfield 75, 3) := by decide +kernel
theorem dX7_addPerson_25 : decode cX7_addPerson 25 = .ok (.iconst 1, 1) := by decide +kernel
theorem dX7_addPerson_26 : decode cX7_addPerson 26 = .ok (.iadd, 1) := by decide +kernel
theorem dX7_addPerson_27 : decode cX7_addPerson 27 = .ok (.putfield 75, 3) := by decide +kernel
theorem dX7_addPerson_30 : decode cX7_addPerson 30 = .ok (.aload_n 0, 1) := by decide +kernel
theorem dX7_addPerson_31 : decode cX7_addPerson 31 = .ok (.getfield 75, 3) := by decide +kernel
theorem dX7_addPerson_34 : decode cX7_addPerson 34 = .ok (.iconst 1, 1) := by decide +kernel
theorem dX7_addPerson_35 : decode cX7_addPerson 35 = .ok (.isub, 1) := by decide +kernel
theorem dX7_addPerson_36 : decode cX7_addPerson 36 = .ok (.ireturn, 1) := by decide +kernel
theorem dX7_hanging_0 : decode cX7_hanging 0 = .ok (.iconst 0, 1) := by decide +kernel
theorem dX7_hanging_1 : decode cX7_hanging 1 = .ok (.istore_n 1, 1) := by decide +kernel
theorem dX7_hanging_2 : decode cX7_hanging 2 = .ok (.iconst 0, 1) := by decide +kernel
theorem dX7_hanging_3 : decode cX7_hanging 3 = .ok (.istore_n 2, 1) := by decide +kernel
theorem dX7_hanging_4 : decode cX7_hanging 4 = .ok (.iload_n 2, 1) := by decide +kernel
theorem dX7_hanging_5 : decode cX7_hanging 5 = .ok (.aload_n 0, 1) := by decide +kernel
theorem dX7_hanging_6 : decode cX7_hanging 6 = .ok (.getfield 72, 3) := by decide +kernel
theorem dX7_hanging_9 : decode cX7_hanging 9 = .ok (.if_icmp .ge 21, 3) := by decide +kernel
theorem dX7_hanging_12 : decode cX7_hanging 12 = .ok (.aload_n 0, 1) := by decide +kernel
theorem dX7_hanging_13 : decode cX7_hanging 13 = .ok (.getfield 34, 3) := by decide +kernel
theorem dX7_hanging_16 : decode cX7_hanging 16 = .ok (.iload_n 2, 1) := by decide +kernel
theorem dX7_hanging_17 : decode cX7_hanging 17 = .ok (.iaload, 1) := by decide +kernel
theorem dX7_hanging_18 : decode cX7_hanging 18 = .ok (.ifCond .le 6, 3) := by decide +kernel
theorem dX7_hanging_21 : decode cX7_hanging 21 = .ok (.iinc 1 1, 3) := by decide +kernel
theorem dX7_hanging_24 : decode cX7_hanging 24 = .ok (.iinc 2 1, 3) := by decide +kernel
theorem dX7_hanging_27 : decode cX7_hanging 27 = .ok (.goto (-23), 3) := by decide +kernel
theorem dX7_hanging_30 : decode cX7_hanging 30 = .ok (.iload_n 1, 1) := by decide +kernel
theorem dX7_hanging_31 : decode cX7_hanging 31 = .ok (.ireturn, 1) := by decide +kernel
theorem dX7_passWeek_0 : decode cX7_passWeek 0 = .ok (.aload_n 0, 1) := by decide +kernel
theorem dX7_passWeek_1 : decode cX7_passWeek 1 = .ok (.dup, 1) := by decide +kernel
theorem dX7_passWeek_2 : decode cX7_passWeek 2 = .ok (.getfield 43, 3) := by decide +kernel
theorem dX7_passWeek_5 : decode cX7_passWeek 5 = .ok (.iconst 1, 1) := by decide +kernel
theorem dX7_passWeek_6 : decode cX7_passWeek 6 = .ok (.iadd, 1) := by decide +kernel
theorem dX7_passWeek_7 : decode cX7_passWeek 7 = .ok (.putfield 43, 3) := by decide +kernel
theorem dX7_passWeek_10 : decode cX7_passWeek 10 = .ok (.iconst 0, 1) := by decide +kernel
theorem dX7_passWeek_11 : decode cX7_passWeek 11 = .ok (.istore_n 1, 1) := by decide +kernel
theorem dX7_passWeek_12 : decode cX7_passWeek 12 = .ok (.iconst 0, 1) := by decide +kernel
theorem dX7_passWeek_13 : decode cX7_passWeek 13 = .ok (.istore_n 2, 1) := by decide +kernel
theorem dX7_passWeek_14 : decode cX7_passWeek 14 = .ok (.iload_n 2, 1) := by decide +kernel
theorem dX7_passWeek_15 : decode cX7_passWeek 15 = .ok (.aload_n 0, 1) := by decide +kernel
theorem dX7_passWeek_16 : decode cX7_passWeek 16 = .ok (.getfield 75, 3) := by decide +kernel
theorem dX7_passWeek_19 : decode cX7_passWeek 19 = .ok (.if_icmp .ge 35, 3) := by decide +kernel
theorem dX7_passWeek_22 : decode cX7_passWeek 22 = .ok (.aload_n 0, 1) := by decide +kernel
theorem dX7_passWeek_23 : decode cX7_passWeek 23 = .ok (.iload_n 2, 1) := by decide +kernel
theorem dX7_passWeek_24 : decode cX7_passWeek 24 = .ok (.invokevirtual 78, 3) := by decide +kernel
theorem dX7_passWeek_27 : decode cX7_passWeek 27 = .ok (.istore_n 3, 1) := by decide +kernel
theorem dX7_passWeek_28 : decode cX7_passWeek 28 = .ok (.iload_n 3, 1) := by decide +kernel
theorem dX7_passWeek_29 : decode cX7_passWeek 29 = .ok (.aload_n 0, 1) := by decide +kernel
theorem dX7_passWeek_30 : decode cX7_passWeek 30 = .ok (.getfield 40, 3) := by decide +kernel
theorem dX7_passWeek_33 : decode cX7_passWeek 33 = .ok (.iload_n 2, 1) := by decide +kernel
theorem dX7_passWeek_34 : decode cX7_passWeek 34 = .ok (.iaload, 1) := by decide +kernel
theorem dX7_passWeek_35 : decode cX7_passWeek 35 = .ok (.if_icmp .eq 13, 3) := by decide +kernel
theorem dX7_passWeek_38 : decode cX7_passWeek 38 = .ok (.aload_n 0, 1) := by decide +kernel
theorem dX7_passWeek_39 : decode cX7_passWeek 39 = .ok (.getfield 40, 3) := by decide +kernel
theorem dX7_passWeek_42 : decode cX7_passWeek 42 = .ok (.iload_n 2, 1) := by decide +kernel
theorem dX7_passWeek_43 : decode cX7_passWeek 43 = .ok (.iload_n 3, 1) := by decide +kernel
theorem dX7_passWeek_44 : decode cX7_passWeek 44 = .ok (.iastore, 1) := by decide +kernel
theorem dX7_passWeek_45 : decode cX7_passWeek 45 = .ok (.iinc 1 100, 3) := by decide +kernel
theorem dX7_passWeek_48 : decode cX7_passWeek 48 = .ok (.iinc 2 1, 3) := by decide +kernel
theorem dX7_passWeek_51 : decode cX7_passWeek 51 = .ok (.goto (-37), 3) := by decide +kernel
theorem dX7_passWeek_54 : decode cX7_passWeek 54 = .ok (.iconst 0, 1) := by decide +kernel
theorem dX7_passWeek_55 : decode cX7_passWeek 55 = .ok (.istore_n 2, 1) := by decide +kernel
theorem dX7_passWeek_56 : decode cX7_passWeek 56 = .ok (.iload_n 2, 1) := by decide +kernel
theorem dX7_passWeek_57 : decode cX7_passWeek 57 = .ok (.aload_n 0, 1) := by decide +kernel
theorem dX7_passWeek_58 : decode cX7_passWeek 58 = .ok (.getfield 72, 3) := by decide +kernel
theorem dX7_passWeek_61 : decode cX7_passWeek 61 = .ok (.if_icmp .ge 42, 3) := by decide +kernel
theorem dX7_passWeek_64 : decode cX7_passWeek 64 = .ok (.aload_n 0, 1) := by decide +kernel
theorem dX7_passWeek_65 : decode cX7_passWeek 65 = .ok (.getfield 34, 3) := by decide +kernel
theorem dX7_passWeek_68 : decode cX7_passWeek 68 = .ok (.iload_n 2, 1) := by decide +kernel
theorem dX7_passWeek_69 : decode cX7_passWeek 69 = .ok (.iaload, 1) := by decide +kernel
theorem dX7_passWeek_70 : decode cX7_passWeek 70 = .ok (.ifCond .le 27, 3) := by decide +kernel
theorem dX7_passWeek_73 : decode cX7_passWeek 73 = .ok (.aload_n 0, 1) := by decide +kernel
theorem dX7_passWeek_74 : decode cX7_passWeek 74 = .ok (.iload_n 2, 1) := by decide +kernel
theorem dX7_passWeek_75 : decode cX7_passWeek 75 = .ok (.invokevirtual 81, 3) := by decide +kernel
theorem dX7_passWeek_78 : decode cX7_passWeek 78 = .ok (.aload_n 0, 1) := by decide +kernel
theorem dX7_passWeek_79 : decode cX7_passWeek 79 = .ok (.getfield 34, 3) := by decide +kernel
theorem dX7_passWeek_82 : decode cX7_passWeek 82 = .ok (.iload_n 2, 1) := by decide +kernel
theorem dX7_passWeek_83 : decode cX7_passWeek 83 = .ok (.iaload, 1) := by decide +kernel
theorem dX7_passWeek_84 : decode cX7_passWeek 84 = .ok (.if_icmp .le 13, 3) := by decide +kernel
theorem dX7_passWeek_87 : decode cX7_passWeek 87 = .ok (.aload_n 0, 1) := by decide +kernel
theorem dX7_passWeek_88 : decode cX7_passWeek 88 = .ok (.getfield 34, 3) := by decide +kernel
theorem dX7_passWeek_91 : decode cX7_passWeek 91 = .ok (.iload_n 2, 1) := by decide +kernel
theorem dX7_passWeek_92 : decode cX7_passWeek 92 = .ok (.iconst 0, 1) := by decide +kernel
theorem dX7_passWeek_93 : decode cX7_passWeek 93 = .ok (.iastore, 1) := by decide +kernel
theorem dX7_passWeek_94 : decode cX7_passWeek 94 = .ok (.iinc 1 1, 3) := by decide +kernel
theorem dX7_passWeek_97 : decode cX7_passWeek 97 = .ok (.iinc 2 1, 3) := by decide +kernel
theorem dX7_passWeek_100 : decode cX7_passWeek 100 = .ok (.goto (-44), 3) := by decide +kernel
theorem dX7_passWeek_103 : decode cX7_passWeek 103 = .ok (.iload_n 1, 1) := by decide +kernel
theorem dX7_passWeek_104 : decode cX7_passWeek 104 = .ok (.ireturn, 1) := by decide +kernel
theorem dX7_lighterParish_0 : decode cX7_lighterParish 0 = .ok (.aload_n 0, 1) := by decide +kernel
theorem dX7_lighterParish_1 : decode cX7_lighterParish 1 = .ok (.getfield 40, 3) := by decide +kernel
theorem dX7_lighterParish_4 : decode cX7_lighterParish 4 = .ok (.iload_n 1, 1) := by decide +kernel
theorem dX7_lighterParish_5 : decode cX7_lighterParish 5 = .ok (.iaload, 1) := by decide +kernel
theorem dX7_lighterParish_6 : decode cX7_lighterParish 6 = .ok (.istore_n 2, 1) := by decide +kernel
theorem dX7_lighterParish_7 : decode cX7_lighterParish 7 = .ok (.iload_n 2, 1) := by decide +kernel
theorem dX7_lighterParish_8 : decode cX7_lighterParish 8 = .ok (.istore_n 3, 1) := by decide +kernel
theorem dX7_lighterParish_9 : decode cX7_lighterParish 9 = .ok (.aload_n 0, 1) := by decide +kernel
theorem dX7_lighterParish_10 : decode cX7_lighterParish 10 = .ok (.iload_n 2, 1) := by decide +kernel
theorem dX7_lighterParish_11 : decode cX7_lighterParish 11 = .ok (.aload_n 0, 1) := by decide +kernel
theorem dX7_lighterParish_12 : decode cX7_lighterParish 12 = .ok (.getfield 37, 3) := by decide +kernel
theorem dX7_lighterParish_15 : decode cX7_lighterParish 15 = .ok (.iload_n 1, 1) := by decide +kernel
theorem dX7_lighterParish_16 : decode cX7_lighterParish 16 = .ok (.iaload, 1) := by decide +kernel
theorem dX7_lighterParish_17 : decode cX7_lighterParish 17 = .ok (.invokevirtual 65, 3) := by decide +kernel
theorem dX7_lighterParish_20 : decode cX7_lighterParish 20 = .ok (.istore 4, 2) := by decide +kernel
theorem dX7_lighterParish_22 : decode cX7_lighterParish 22 = .ok (.iconst 0, 1) := by decide +kernel
theorem dX7_lighterParish_23 : decode cX7_lighterParish 23 = .ok (.istore 5, 2) := by decide +kernel
theorem dX7_lighterParish_25 : decode cX7_lighterParish 25 = .ok (.iload 5, 2) := by decide +kernel
theorem dX7_lighterParish_27 : decode cX7_lighterParish 27 = .ok (.aload_n 0, 1) := by decide +kernel
theorem dX7_lighterParish_28 : decode cX7_lighterParish 28 = .ok (.getfield 12, 3) := by decide +kernel
theorem dX7_lighterParish_31 : decode cX7_lighterParish 31 = .ok (.getfield 84, 3) := by decide +kernel
theorem dX7_lighterParish_34 : decode cX7_lighterParish 34 = .ok (.if_icmp .ge 72, 3) := by decide +kernel
theorem dX7_lighterParish_37 : decode cX7_lighterParish 37 = .ok (.aload_n 0, 1) := by decide +kernel
theorem dX7_lighterParish_38 : decode cX7_lighterParish 38 = .ok (.getfield 12, 3) := by decide +kernel
theorem dX7_lighterParish_41 : decode cX7_lighterParish 41 = .ok (.iload 5, 2) := by decide +kernel
theorem dX7_lighterParish_43 : decode cX7_lighterParish 43 = .ok (.iload_n 2, 1) := by decide +kernel
theorem dX7_lighterParish_44 : decode cX7_lighterParish 44 = .ok (.invokevirtual 87, 3) := by decide +kernel
theorem dX7_lighterParish_47 : decode cX7_lighterParish 47 = .ok (.istore 6, 2) := by decide +kernel
theorem dX7_lighterParish_49 : decode cX7_lighterParish 49 = .ok (.iload 6, 2) := by decide +kernel
theorem dX7_lighterParish_51 : decode cX7_lighterParish 51 = .ok (.ifCond .lt 49, 3) := by decide +kernel
theorem dX7_lighterParish_54 : decode cX7_lighterParish 54 = .ok (.aload_n 0, 1) := by decide +kernel
theorem dX7_lighterParish_55 : decode cX7_lighterParish 55 = .ok (.iload 6, 2) := by decide +kernel
theorem dX7_lighterParish_57 : decode cX7_lighterParish 57 = .ok (.aload_n 0, 1) := by decide +kernel
theorem dX7_lighterParish_58 : decode cX7_lighterParish 58 = .ok (.getfield 37, 3) := by decide +kernel
theorem dX7_lighterParish_61 : decode cX7_lighterParish 61 = .ok (.iload_n 1, 1) := by decide +kernel
theorem dX7_lighterParish_62 : decode cX7_lighterParish 62 = .ok (.iaload, 1) := by decide +kernel
theorem dX7_lighterParish_63 : decode cX7_lighterParish 63 = .ok (.invokevirtual 65, 3) := by decide +kernel
theorem dX7_lighterParish_66 : decode cX7_lighterParish 66 = .ok (.istore 7, 2) := by decide +kernel
theorem dX7_lighterParish_68 : decode cX7_lighterParish 68 = .ok (.iload 7, 2) := by decide +kernel
theorem dX7_lighterParish_70 : decode cX7_lighterParish 70 = .ok (.iload 4, 2) := by decide +kernel
theorem dX7_lighterParish_72 : decode cX7_lighterParish 72 = .ok (.if_icmp .lt 21, 3) := by decide +kernel
theorem dX7_lighterParish_75 : decode cX7_lighterParish 75 = .ok (.iload 7, 2) := by decide +kernel
theorem dX7_lighterParish_77 : decode cX7_lighterParish 77 = .ok (.iload 4, 2) := by decide +kernel
theorem dX7_lighterParish_79 : decode cX7_lighterParish 79 = .ok (.if_icmp .ne 21, 3) := by decide +kernel
theorem dX7_lighterParish_82 : decode cX7_lighterParish 82 = .ok (.iload_n 3, 1) := by decide +kernel
theorem dX7_lighterParish_83 : decode cX7_lighterParish 83 = .ok (.iload_n 2, 1) := by decide +kernel
theorem dX7_lighterParish_84 : decode cX7_lighterParish 84 = .ok (.if_icmp .eq 16, 3) := by decide +kernel
theorem dX7_lighterParish_87 : decode cX7_lighterParish 87 = .ok (.iload 6, 2) := by decide +kernel
theorem dX7_lighterParish_89 : decode cX7_lighterParish 89 = .ok (.iload_n 3, 1) := by decide +kernel
theorem dX7_lighterParish_90 : decode cX7_lighterParish 90 = .ok (.if_icmp .ge 10, 3) := by decide +kernel
theorem dX7_lighterParish_93 : decode cX7_lighterParish 93 = .ok (.iload 6, 2) := by decide +kernel
theorem dX7_lighterParish_95 : decode cX7_lighterParish 95 = .ok (.istore_n 3, 1) := by decide +kernel
theorem dX7_lighterParish_96 : decode cX7_lighterParish 96 = .ok (.iload 7, 2) := by decide +kernel
theorem dX7_lighterParish_98 : decode cX7_lighterParish 98 = .ok (.istore 4, 2) := by decide +kernel
theorem dX7_lighterParish_100 : decode cX7_lighterParish 100 = .ok (.iinc 5 1, 3) := by decide +kernel
theorem dX7_lighterParish_103 : decode cX7_lighterParish 103 = .ok (.goto (-78), 3) := by decide +kernel
theorem dX7_lighterParish_106 : decode cX7_lighterParish 106 = .ok (.iload_n 3, 1) := by decide +kernel
theorem dX7_lighterParish_107 : decode cX7_lighterParish 107 = .ok (.ireturn, 1) := by decide +kernel
theorem dX7_wouldFall_0 : decode cX7_wouldFall 0 = .ok (.iconst 0, 1) := by decide +kernel
theorem dX7_wouldFall_1 : decode cX7_wouldFall 1 = .ok (.istore_n 3, 1) := by decide +kernel
theorem dX7_wouldFall_2 : decode cX7_wouldFall 2 = .ok (.iconst 0, 1) := by decide +kernel
theorem dX7_wouldFall_3 : decode cX7_wouldFall 3 = .ok (.istore 4, 2) := by decide +kernel
theorem dX7_wouldFall_5 : decode cX7_wouldFall 5 = .ok (.iload 4, 2) := by decide +kernel
theorem dX7_wouldFall_7 : decode cX7_wouldFall 7 = .ok (.aload_n 0, 1) := by decide +kernel
theorem dX7_wouldFall_8 : decode cX7_wouldFall 8 = .ok (.getfield 72, 3) := by decide +kernel
theorem dX7_wouldFall_11 : decode cX7_wouldFall 11 = .ok (.if_icmp .ge 67, 3) := by decide +kernel
theorem dX7_wouldFall_14 : decode cX7_wouldFall 14 = .ok (.aload_n 0, 1) := by decide +kernel
theorem dX7_wouldFall_15 : decode cX7_wouldFall 15 = .ok (.getfield 31, 3) := by decide +kernel
theorem dX7_wouldFall_18 : decode cX7_wouldFall 18 = .ok (.iload 4, 2) := by decide +kernel
theorem dX7_wouldFall_20 : decode cX7_wouldFall 20 = .ok (.iaload, 1) := by decide +kernel
theorem dX7_wouldFall_21 : decode cX7_wouldFall 21 = .ok (.iload_n 1, 1) := by decide +kernel
theorem dX7_wouldFall_22 : decode cX7_wouldFall 22 = .ok (.if_icmp .ne 50, 3) := by decide +kernel
theorem dX7_wouldFall_25 : decode cX7_wouldFall 25 = .ok (.aload_n 0, 1) := by decide +kernel
theorem dX7_wouldFall_26 : decode cX7_wouldFall 26 = .ok (.getfield 34, 3) := by decide +kernel
theorem dX7_wouldFall_29 : decode cX7_wouldFall 29 = .ok (.iload 4, 2) := by decide +kernel
theorem dX7_wouldFall_31 : decode cX7_wouldFall 31 = .ok (.iaload, 1) := by decide +kernel
theorem dX7_wouldFall_32 : decode cX7_wouldFall 32 = .ok (.ifCond .le 40, 3) := by decide +kernel
theorem dX7_wouldFall_35 : decode cX7_wouldFall 35 = .ok (.aload_n 0, 1) := by decide +kernel
theorem dX7_wouldFall_36 : decode cX7_wouldFall 36 = .ok (.getfield 12, 3) := by decide +kernel
theorem dX7_wouldFall_39 : decode cX7_wouldFall 39 = .ok (.getfield 51, 3) := by decide +kernel
theorem dX7_wouldFall_42 : decode cX7_wouldFall 42 = .ok (.iload_n 1, 1) := by decide +kernel
theorem dX7_wouldFall_43 : decode cX7_wouldFall 43 = .ok (.iaload, 1) := by decide +kernel
theorem dX7_wouldFall_44 : decode cX7_wouldFall 44 = .ok (.iload_n 2, 1) := by decide +kernel
theorem dX7_wouldFall_45 : decode cX7_wouldFall 45 = .ok (.aload_n 0, 1) := by decide +kernel
theorem dX7_wouldFall_46 : decode cX7_wouldFall 46 = .ok (.getfield 25, 3) := by decide +kernel
theorem dX7_wouldFall_49 : decode cX7_wouldFall 49 = .ok (.iload 4, 2) := by decide +kernel
theorem dX7_wouldFall_51 : decode cX7_wouldFall 51 = .ok (.iaload, 1) := by decide +kernel
theorem dX7_wouldFall_52 : decode cX7_wouldFall 52 = .ok (.invokestatic 61, 3) := by decide +kernel
theorem dX7_wouldFall_55 : decode cX7_wouldFall 55 = .ok (.aload_n 0, 1) := by decide +kernel
theorem dX7_wouldFall_56 : decode cX7_wouldFall 56 = .ok (.getfield 34, 3) := by decide +kernel
theorem dX7_wouldFall_59 : decode cX7_wouldFall 59 = .ok (.iload 4, 2) := by decide +kernel
theorem dX7_wouldFall_61 : decode cX7_wouldFall 61 = .ok (.iaload, 1) := by decide +kernel
theorem dX7_wouldFall_62 : decode cX7_wouldFall 62 = .ok (.if_icmp .le 10, 3) := by decide +kernel
theorem dX7_wouldFall_65 : decode cX7_wouldFall 65 = .ok (.iload_n 3, 1) := by decide +kernel
theorem dX7_wouldFall_66 : decode cX7_wouldFall 66 = .ok (.iconst 1, 1) := by decide +kernel
theorem dX7_wouldFall_67 : decode cX7_wouldFall 67 = .ok (.iload 4, 2) := by decide +kernel
theorem dX7_wouldFall_69 : decode cX7_wouldFall 69 = .ok (.ishl, 1) := by decide +kernel
theorem dX7_wouldFall_70 : decode cX7_wouldFall 70 = .ok (.ior, 1) := by decide +kernel
theorem dX7_wouldFall_71 : decode cX7_wouldFall 71 = .ok (.istore_n 3, 1) := by decide +kernel
theorem dX7_wouldFall_72 : decode cX7_wouldFall 72 = .ok (.iinc 4 1, 3) := by decide +kernel
theorem dX7_wouldFall_75 : decode cX7_wouldFall 75 = .ok (.goto (-70), 3) := by decide +kernel
theorem dX7_wouldFall_78 : decode cX7_wouldFall 78 = .ok (.iload_n 3, 1) := by decide +kernel
theorem dX7_wouldFall_79 : decode cX7_wouldFall 79 = .ok (.ireturn, 1) := by decide +kernel
theorem dX7_wouldBeLighter_0 : decode cX7_wouldBeLighter 0 = .ok (.iconst 0, 1) := by decide +kernel
theorem dX7_wouldBeLighter_1 : decode cX7_wouldBeLighter 1 = .ok (.istore_n 3, 1) := by decide +kernel
theorem dX7_wouldBeLighter_2 : decode cX7_wouldBeLighter 2 = .ok (.iconst 0, 1) := by decide +kernel
theorem dX7_wouldBeLighter_3 : decode cX7_wouldBeLighter 3 = .ok (.istore 4, 2) := by decide +kernel
theorem dX7_wouldBeLighter_5 : decode cX7_wouldBeLighter 5 = .ok (.iload 4, 2) := by decide +kernel
theorem dX7_wouldBeLighter_7 : decode cX7_wouldBeLighter 7 = .ok (.aload_n 0, 1) := by decide +kernel
theorem dX7_wouldBeLighter_8 : decode cX7_wouldBeLighter 8 = .ok (.getfield 75, 3) := by decide +kernel
theorem dX7_wouldBeLighter_11 : decode cX7_wouldBeLighter 11 = .ok (.if_icmp .ge 61, 3) := by decide +kernel
theorem dX7_wouldBeLighter_14 : decode cX7_wouldBeLighter 14 = .ok (.aload_n 0, 1) := by decide +kernel
theorem dX7_wouldBeLighter_15 : decode cX7_wouldBeLighter 15 = .ok (.getfield 37, 3) := by decide +kernel
theorem dX7_wouldBeLighter_18 : decode cX7_wouldBeLighter 18 = .ok (.iload 4, 2) := by decide +kernel
theorem dX7_wouldBeLighter_20 : decode cX7_wouldBeLighter 20 = .ok (.iaload, 1) := by decide +kernel
theorem dX7_wouldBeLighter_21 : decode cX7_wouldBeLighter 21 = .ok (.istore 5, 2) := by decide +kernel
theorem dX7_wouldBeLighter_23 : decode cX7_wouldBeLighter 23 = .ok (.aload_n 0, 1) := by decide +kernel
theorem dX7_wouldBeLighter_24 : decode cX7_wouldBeLighter 24 = .ok (.getfield 40, 3) := by decide +kernel
theorem dX7_wouldBeLighter_27 : decode cX7_wouldBeLighter 27 = .ok (.iload 4, 2) := by decide +kernel
theorem dX7_wouldBeLighter_29 : decode cX7_wouldBeLighter 29 = .ok (.iaload, 1) := by decide +kernel
theorem dX7_wouldBeLighter_30 : decode cX7_wouldBeLighter 30 = .ok (.iload_n 1, 1) := by decide +kernel
theorem dX7_wouldBeLighter_31 : decode cX7_wouldBeLighter 31 = .ok (.if_icmp .ne 35, 3) := by decide +kernel
theorem dX7_wouldBeLighter_34 : decode cX7_wouldBeLighter 34 = .ok (.aload_n 0, 1) := by decide +kernel
theorem dX7_wouldBeLighter_35 : decode cX7_wouldBeLighter 35 = .ok (.getfield 12, 3) := by decide +kernel
theorem dX7_wouldBeLighter_38 : decode cX7_wouldBeLighter 38 = .ok (.getfield 51, 3) := by decide +kernel
theorem dX7_wouldBeLighter_41 : decode cX7_wouldBeLighter 41 = .ok (.iload_n 1, 1) := by decide +kernel
theorem dX7_wouldBeLighter_42 : decode cX7_wouldBeLighter 42 = .ok (.iaload, 1) := by decide +kernel
theorem dX7_wouldBeLighter_43 : decode cX7_wouldBeLighter 43 = .ok (.iload_n 2, 1) := by decide +kernel
theorem dX7_wouldBeLighter_44 : decode cX7_wouldBeLighter 44 = .ok (.iload 5, 2) := by decide +kernel
theorem dX7_wouldBeLighter_46 : decode cX7_wouldBeLighter 46 = .ok (.invokestatic 61, 3) := by decide +kernel
theorem dX7_wouldBeLighter_49 : decode cX7_wouldBeLighter 49 = .ok (.aload_n 0, 1) := by decide +kernel
theorem dX7_wouldBeLighter_50 : decode cX7_wouldBeLighter 50 = .ok (.iload_n 1, 1) := by decide +kernel
theorem dX7_wouldBeLighter_51 : decode cX7_wouldBeLighter 51 = .ok (.iload 5, 2) := by decide +kernel
theorem dX7_wouldBeLighter_53 : decode cX7_wouldBeLighter 53 = .ok (.invokevirtual 65, 3) := by decide +kernel
theorem dX7_wouldBeLighter_56 : decode cX7_wouldBeLighter 56 = .ok (.if_icmp .ge 10, 3) := by decide +kernel
theorem dX7_wouldBeLighter_59 : decode cX7_wouldBeLighter 59 = .ok (.iload_n 3, 1) := by decide +kernel
theorem dX7_wouldBeLighter_60 : decode cX7_wouldBeLighter 60 = .ok (.iconst 1, 1) := by decide +kernel
theorem dX7_wouldBeLighter_61 : decode cX7_wouldBeLighter 61 = .ok (.iload 4, 2) := by decide +kernel
theorem dX7_wouldBeLighter_63 : decode cX7_wouldBeLighter 63 = .ok (.ishl, 1) := by decide +kernel
theorem dX7_wouldBeLighter_64 : decode cX7_wouldBeLighter 64 = .ok (.ior, 1) := by decide +kernel
theorem dX7_wouldBeLighter_65 : decode cX7_wouldBeLighter 65 = .ok (.istore_n 3, 1) := by decide +kernel
theorem dX7_wouldBeLighter_66 : decode cX7_wouldBeLighter 66 = .ok (.iinc 4 1, 3) := by decide +kernel
theorem dX7_wouldBeLighter_69 : decode cX7_wouldBeLighter 69 = .ok (.goto (-64), 3) := by decide +kernel
theorem dX7_wouldBeLighter_72 : decode cX7_wouldBeLighter 72 = .ok (.iload_n 3, 1) := by decide +kernel
theorem dX7_wouldBeLighter_73 : decode cX7_wouldBeLighter 73 = .ok (.ireturn, 1) := by decide +kernel
theorem dX7_settle_0 : decode cX7_settle 0 = .ok (.aload_n 0, 1) := by decide +kernel
theorem dX7_settle_1 : decode cX7_settle 1 = .ok (.getfield 12, 3) := by decide +kernel
theorem dX7_settle_4 : decode cX7_settle 4 = .ok (.aload_n 1, 1) := by decide +kernel
theorem dX7_settle_5 : decode cX7_settle 5 = .ok (.invokevirtual 90, 3) := by decide +kernel
theorem dX7_settle_8 : decode cX7_settle 8 = .ok (.aload_n 0, 1) := by decide +kernel
theorem dX7_settle_9 : decode cX7_settle 9 = .ok (.iconst 0, 1) := by decide +kernel
theorem dX7_settle_10 : decode cX7_settle 10 = .ok (.putfield 72, 3) := by decide +kernel
theorem dX7_settle_13 : decode cX7_settle 13 = .ok (.aload_n 0, 1) := by decide +kernel
theorem dX7_settle_14 : decode cX7_settle 14 = .ok (.iconst 0, 1) := by decide +kernel
theorem dX7_settle_15 : decode cX7_settle 15 = .ok (.putfield 75, 3) := by decide +kernel
theorem dX7_settle_18 : decode cX7_settle 18 = .ok (.return_, 1) := by decide +kernel
theorem dX7_copyFrom_0 : decode cX7_copyFrom 0 = .ok (.aload_n 0, 1) := by decide +kernel
theorem dX7_copyFrom_1 : decode cX7_copyFrom 1 = .ok (.getfield 12, 3) := by decide +kernel
theorem dX7_copyFrom_4 : decode cX7_copyFrom 4 = .ok (.aload_n 1, 1) := by decide +kernel
theorem dX7_copyFrom_5 : decode cX7_copyFrom 5 = .ok (.getfield 12, 3) := by decide +kernel
theorem dX7_copyFrom_8 : decode cX7_copyFrom 8 = .ok (.invokevirtual 90, 3) := by decide +kernel
theorem dX7_copyFrom_11 : decode cX7_copyFrom 11 = .ok (.aload_n 1, 1) := by decide +kernel
theorem dX7_copyFrom_12 : decode cX7_copyFrom 12 = .ok (.getfield 18, 3) := by decide +kernel
theorem dX7_copyFrom_15 : decode cX7_copyFrom 15 = .ok (.iconst 0, 1) := by decide +kernel
theorem dX7_copyFrom_16 : decode cX7_copyFrom 16 = .ok (.aload_n 0, 1) := by decide +kernel
theorem dX7_copyFrom_17 : decode cX7_copyFrom 17 = .ok (.getfield 18, 3) := by decide +kernel
theorem dX7_copyFrom_20 : decode cX7_copyFrom 20 = .ok (.iconst 0, 1) := by decide +kernel
theorem dX7_copyFrom_21 : decode cX7_copyFrom 21 = .ok (.iconst 4, 1) := by decide +kernel
theorem dX7_copyFrom_22 : decode cX7_copyFrom 22 = .ok (.invokestatic 94, 3) := by decide +kernel
theorem dX7_copyFrom_25 : decode cX7_copyFrom 25 = .ok (.aload_n 1, 1) := by decide +kernel
theorem dX7_copyFrom_26 : decode cX7_copyFrom 26 = .ok (.getfield 22, 3) := by decide +kernel
theorem dX7_copyFrom_29 : decode cX7_copyFrom 29 = .ok (.iconst 0, 1) := by decide +kernel
theorem dX7_copyFrom_30 : decode cX7_copyFrom 30 = .ok (.aload_n 0, 1) := by decide +kernel
theorem dX7_copyFrom_31 : decode cX7_copyFrom 31 = .ok (.getfield 22, 3) := by decide +kernel
theorem dX7_copyFrom_34 : decode cX7_copyFrom 34 = .ok (.iconst 0, 1) := by decide +kernel
theorem dX7_copyFrom_35 : decode cX7_copyFrom 35 = .ok (.iconst 4, 1) := by decide +kernel
theorem dX7_copyFrom_36 : decode cX7_copyFrom 36 = .ok (.invokestatic 94, 3) := by decide +kernel
theorem dX7_copyFrom_39 : decode cX7_copyFrom 39 = .ok (.aload_n 1, 1) := by decide +kernel
theorem dX7_copyFrom_40 : decode cX7_copyFrom 40 = .ok (.getfield 25, 3) := by decide +kernel
theorem dX7_copyFrom_43 : decode cX7_copyFrom 43 = .ok (.iconst 0, 1) := by decide +kernel
theorem dX7_copyFrom_44 : decode cX7_copyFrom 44 = .ok (.aload_n 0, 1) := by decide +kernel
theorem dX7_copyFrom_45 : decode cX7_copyFrom 45 = .ok (.getfield 25, 3) := by decide +kernel
theorem dX7_copyFrom_48 : decode cX7_copyFrom 48 = .ok (.iconst 0, 1) := by decide +kernel
theorem dX7_copyFrom_49 : decode cX7_copyFrom 49 = .ok (.bipush 6, 2) := by decide +kernel
theorem dX7_copyFrom_51 : decode cX7_copyFrom 51 = .ok (.invokestatic 94, 3) := by decide +kernel
theorem dX7_copyFrom_54 : decode cX7_copyFrom 54 = .ok (.aload_n 1, 1) := by decide +kernel
theorem dX7_copyFrom_55 : decode cX7_copyFrom 55 = .ok (.getfield 28, 3) := by decide +kernel
theorem dX7_copyFrom_58 : decode cX7_copyFrom 58 = .ok (.iconst 0, 1) := by decide +kernel
theorem dX7_copyFrom_59 : decode cX7_copyFrom 59 = .ok (.aload_n 0, 1) := by decide +kernel
theorem dX7_copyFrom_60 : decode cX7_copyFrom 60 = .ok (.getfield 28, 3) := by decide +kernel
theorem dX7_copyFrom_63 : decode cX7_copyFrom 63 = .ok (.iconst 0, 1) := by decide +kernel
theorem dX7_copyFrom_64 : decode cX7_copyFrom 64 = .ok (.bipush 6, 2) := by decide +kernel
theorem dX7_copyFrom_66 : decode cX7_copyFrom 66 = .ok (.invokestatic 94, 3) := by decide +kernel
theorem dX7_copyFrom_69 : decode cX7_copyFrom 69 = .ok (.aload_n 1, 1) := by decide +kernel
theorem dX7_copyFrom_70 : decode cX7_copyFrom 70 = .ok (.getfield 31, 3) := by decide +kernel
theorem dX7_copyFrom_73 : decode cX7_copyFrom 73 = .ok (.iconst 0, 1) := by decide +kernel
theorem dX7_copyFrom_74 : decode cX7_copyFrom 74 = .ok (.aload_n 0, 1) := by decide +kernel
theorem dX7_copyFrom_75 : decode cX7_copyFrom 75 = .ok (.getfield 31, 3) := by decide +kernel
theorem dX7_copyFrom_78 : decode cX7_copyFrom 78 = .ok (.iconst 0, 1) := by decide +kernel
theorem dX7_copyFrom_79 : decode cX7_copyFrom 79 = .ok (.bipush 6, 2) := by decide +kernel
theorem dX7_copyFrom_81 : decode cX7_copyFrom 81 = .ok (.invokestatic 94, 3) := by decide +kernel
theorem dX7_copyFrom_84 : decode cX7_copyFrom 84 = .ok (.aload_n 1, 1) := by decide +kernel
theorem dX7_copyFrom_85 : decode cX7_copyFrom 85 = .ok (.getfield 34, 3) := by decide +kernel
theorem dX7_copyFrom_88 : decode cX7_copyFrom 88 = .ok (.iconst 0, 1) := by decide +kernel
theorem dX7_copyFrom_89 : decode cX7_copyFrom 89 = .ok (.aload_n 0, 1) := by decide +kernel
theorem dX7_copyFrom_90 : decode cX7_copyFrom 90 = .ok (.getfield 34, 3) := by decide +kernel
theorem dX7_copyFrom_93 : decode cX7_copyFrom 93 = .ok (.iconst 0, 1) := by decide +kernel
theorem dX7_copyFrom_94 : decode cX7_copyFrom 94 = .ok (.bipush 6, 2) := by decide +kernel
theorem dX7_copyFrom_96 : decode cX7_copyFrom 96 = .ok (.invokestatic 94, 3) := by decide +kernel
theorem dX7_copyFrom_99 : decode cX7_copyFrom 99 = .ok (.aload_n 1, 1) := by decide +kernel
theorem dX7_copyFrom_100 : decode cX7_copyFrom 100 = .ok (.getfield 37, 3) := by decide +kernel
theorem dX7_copyFrom_103 : decode cX7_copyFrom 103 = .ok (.iconst 0, 1) := by decide +kernel
theorem dX7_copyFrom_104 : decode cX7_copyFrom 104 = .ok (.aload_n 0, 1) := by decide +kernel
theorem dX7_copyFrom_105 : decode cX7_copyFrom 105 = .ok (.getfield 37, 3) := by decide +kernel
theorem dX7_copyFrom_108 : decode cX7_copyFrom 108 = .ok (.iconst 0, 1) := by decide +kernel
theorem dX7_copyFrom_109 : decode cX7_copyFrom 109 = .ok (.bipush 6, 2) := by decide +kernel
theorem dX7_copyFrom_111 : decode cX7_copyFrom 111 = .ok (.invokestatic 94, 3) := by decide +kernel
theorem dX7_copyFrom_114 : decode cX7_copyFrom 114 = .ok (.aload_n 1, 1) := by decide +kernel
theorem dX7_copyFrom_115 : decode cX7_copyFrom 115 = .ok (.getfield 40, 3) := by decide +kernel
theorem dX7_copyFrom_118 : decode cX7_copyFrom 118 = .ok (.iconst 0, 1) := by decide +kernel
theorem dX7_copyFrom_119 : decode cX7_copyFrom 119 = .ok (.aload_n 0, 1) := by decide +kernel
theorem dX7_copyFrom_120 : decode cX7_copyFrom 120 = .ok (.getfield 40, 3) := by decide +kernel
theorem dX7_copyFrom_123 : decode cX7_copyFrom 123 = .ok (.iconst 0, 1) := by decide +kernel
theorem dX7_copyFrom_124 : decode cX7_copyFrom 124 = .ok (.bipush 6, 2) := by decide +kernel
theorem dX7_copyFrom_126 : decode cX7_copyFrom 126 = .ok (.invokestatic 94, 3) := by decide +kernel
theorem dX7_copyFrom_129 : decode cX7_copyFrom 129 = .ok (.aload_n 0, 1) := by decide +kernel
theorem dX7_copyFrom_130 : decode cX7_copyFrom 130 = .ok (.aload_n 1, 1) := by decide +kernel
theorem dX7_copyFrom_131 : decode cX7_copyFrom 131 = .ok (.getfield 69, 3) := by decide +kernel
theorem dX7_copyFrom_134 : decode cX7_copyFrom 134 = .ok (.putfield 69, 3) := by decide +kernel
theorem dX7_copyFrom_137 : decode cX7_copyFrom 137 = .ok (.aload_n 0, 1) := by decide +kernel
theorem dX7_copyFrom_138 : decode cX7_copyFrom 138 = .ok (.aload_n 1, 1) := by decide +kernel
theorem dX7_copyFrom_139 : decode cX7_copyFrom 139 = .ok (.getfield 72, 3) := by decide +kernel
theorem dX7_copyFrom_142 : decode cX7_copyFrom 142 = .ok (.putfield 72, 3) := by decide +kernel
theorem dX7_copyFrom_145 : decode cX7_copyFrom 145 = .ok (.aload_n 0, 1) := by decide +kernel
theorem dX7_copyFrom_146 : decode cX7_copyFrom 146 = .ok (.aload_n 1, 1) := by decide +kernel
theorem dX7_copyFrom_147 : decode cX7_copyFrom 147 = .ok (.getfield 75, 3) := by decide +kernel
theorem dX7_copyFrom_150 : decode cX7_copyFrom 150 = .ok (.putfield 75, 3) := by decide +kernel
theorem dX7_copyFrom_153 : decode cX7_copyFrom 153 = .ok (.aload_n 0, 1) := by decide +kernel
theorem dX7_copyFrom_154 : decode cX7_copyFrom 154 = .ok (.aload_n 1, 1) := by decide +kernel
theorem dX7_copyFrom_155 : decode cX7_copyFrom 155 = .ok (.getfield 43, 3) := by decide +kernel
theorem dX7_copyFrom_158 : decode cX7_copyFrom 158 = .ok (.putfield 43, 3) := by decide +kernel
theorem dX7_copyFrom_161 : decode cX7_copyFrom 161 = .ok (.return_, 1) := by decide +kernel
theorem dJ6_bitCount_0f7a4_0 : decode cJ6_bitCount_0f7a4 0 = .ok (.iload_n 0, 1) := by decide +kernel
theorem dJ6_bitCount_0f7a4_1 : decode cJ6_bitCount_0f7a4 1 = .ok (.iload_n 0, 1) := by decide +kernel
theorem dJ6_bitCount_0f7a4_2 : decode cJ6_bitCount_0f7a4 2 = .ok (.iconst 1, 1) := by decide +kernel
theorem dJ6_bitCount_0f7a4_3 : decode cJ6_bitCount_0f7a4 3 = .ok (.iushr, 1) := by decide +kernel
theorem dJ6_bitCount_0f7a4_4 : decode cJ6_bitCount_0f7a4 4 = .ok (.ldc_w 265, 3) := by decide +kernel
theorem dJ6_bitCount_0f7a4_7 : decode cJ6_bitCount_0f7a4 7 = .ok (.iand, 1) := by decide +kernel
theorem dJ6_bitCount_0f7a4_8 : decode cJ6_bitCount_0f7a4 8 = .ok (.isub, 1) := by decide +kernel
theorem dJ6_bitCount_0f7a4_9 : decode cJ6_bitCount_0f7a4 9 = .ok (.istore_n 0, 1) := by decide +kernel
theorem dJ6_bitCount_0f7a4_10 : decode cJ6_bitCount_0f7a4 10 = .ok (.iload_n 0, 1) := by decide +kernel
theorem dJ6_bitCount_0f7a4_11 : decode cJ6_bitCount_0f7a4 11 = .ok (.ldc_w 266, 3) := by decide +kernel
theorem dJ6_bitCount_0f7a4_14 : decode cJ6_bitCount_0f7a4 14 = .ok (.iand, 1) := by decide +kernel
theorem dJ6_bitCount_0f7a4_15 : decode cJ6_bitCount_0f7a4 15 = .ok (.iload_n 0, 1) := by decide +kernel
theorem dJ6_bitCount_0f7a4_16 : decode cJ6_bitCount_0f7a4 16 = .ok (.iconst 2, 1) := by decide +kernel
theorem dJ6_bitCount_0f7a4_17 : decode cJ6_bitCount_0f7a4 17 = .ok (.iushr, 1) := by decide +kernel
theorem dJ6_bitCount_0f7a4_18 : decode cJ6_bitCount_0f7a4 18 = .ok (.ldc_w 266, 3) := by decide +kernel
theorem dJ6_bitCount_0f7a4_21 : decode cJ6_bitCount_0f7a4 21 = .ok (.iand, 1) := by decide +kernel
theorem dJ6_bitCount_0f7a4_22 : decode cJ6_bitCount_0f7a4 22 = .ok (.iadd, 1) := by decide +kernel
theorem dJ6_bitCount_0f7a4_23 : decode cJ6_bitCount_0f7a4 23 = .ok (.istore_n 0, 1) := by decide +kernel
theorem dJ6_bitCount_0f7a4_24 : decode cJ6_bitCount_0f7a4 24 = .ok (.iload_n 0, 1) := by decide +kernel
theorem dJ6_bitCount_0f7a4_25 : decode cJ6_bitCount_0f7a4 25 = .ok (.iload_n 0, 1) := by decide +kernel
theorem dJ6_bitCount_0f7a4_26 : decode cJ6_bitCount_0f7a4 26 = .ok (.iconst 4, 1) := by decide +kernel
theorem dJ6_bitCount_0f7a4_27 : decode cJ6_bitCount_0f7a4 27 = .ok (.iushr, 1) := by decide +kernel
theorem dJ6_bitCount_0f7a4_28 : decode cJ6_bitCount_0f7a4 28 = .ok (.iadd, 1) := by decide +kernel
theorem dJ6_bitCount_0f7a4_29 : decode cJ6_bitCount_0f7a4 29 = .ok (.ldc_w 267, 3) := by decide +kernel
theorem dJ6_bitCount_0f7a4_32 : decode cJ6_bitCount_0f7a4 32 = .ok (.iand, 1) := by decide +kernel
theorem dJ6_bitCount_0f7a4_33 : decode cJ6_bitCount_0f7a4 33 = .ok (.istore_n 0, 1) := by decide +kernel
theorem dJ6_bitCount_0f7a4_34 : decode cJ6_bitCount_0f7a4 34 = .ok (.iload_n 0, 1) := by decide +kernel
theorem dJ6_bitCount_0f7a4_35 : decode cJ6_bitCount_0f7a4 35 = .ok (.iload_n 0, 1) := by decide +kernel
theorem dJ6_bitCount_0f7a4_36 : decode cJ6_bitCount_0f7a4 36 = .ok (.bipush 8, 2) := by decide +kernel
theorem dJ6_bitCount_0f7a4_38 : decode cJ6_bitCount_0f7a4 38 = .ok (.iushr, 1) := by decide +kernel
theorem dJ6_bitCount_0f7a4_39 : decode cJ6_bitCount_0f7a4 39 = .ok (.iadd, 1) := by decide +kernel
theorem dJ6_bitCount_0f7a4_40 : decode cJ6_bitCount_0f7a4 40 = .ok (.istore_n 0, 1) := by decide +kernel
theorem dJ6_bitCount_0f7a4_41 : decode cJ6_bitCount_0f7a4 41 = .ok (.iload_n 0, 1) := by decide +kernel
theorem dJ6_bitCount_0f7a4_42 : decode cJ6_bitCount_0f7a4 42 = .ok (.iload_n 0, 1) := by decide +kernel
theorem dJ6_bitCount_0f7a4_43 : decode cJ6_bitCount_0f7a4 43 = .ok (.bipush 16, 2) := by decide +kernel
theorem dJ6_bitCount_0f7a4_45 : decode cJ6_bitCount_0f7a4 45 = .ok (.iushr, 1) := by decide +kernel
theorem dJ6_bitCount_0f7a4_46 : decode cJ6_bitCount_0f7a4 46 = .ok (.iadd, 1) := by decide +kernel
theorem dJ6_bitCount_0f7a4_47 : decode cJ6_bitCount_0f7a4 47 = .ok (.istore_n 0, 1) := by decide +kernel
theorem dJ6_bitCount_0f7a4_48 : decode cJ6_bitCount_0f7a4 48 = .ok (.iload_n 0, 1) := by decide +kernel
theorem dJ6_bitCount_0f7a4_49 : decode cJ6_bitCount_0f7a4 49 = .ok (.bipush 63, 2) := by decide +kernel
theorem dJ6_bitCount_0f7a4_51 : decode cJ6_bitCount_0f7a4 51 = .ok (.iand, 1) := by decide +kernel
theorem dJ6_bitCount_0f7a4_52 : decode cJ6_bitCount_0f7a4 52 = .ok (.ireturn, 1) := by decide +kernel
theorem dJ7_fill_d0a16_0 : decode cJ7_fill_d0a16 0 = .ok (.iconst 0, 1) := by decide +kernel
theorem dJ7_fill_d0a16_1 : decode cJ7_fill_d0a16 1 = .ok (.istore_n 3, 1) := by decide +kernel
theorem dJ7_fill_d0a16_2 : decode cJ7_fill_d0a16 2 = .ok (.aload_n 0, 1) := by decide +kernel
theorem dJ7_fill_d0a16_3 : decode cJ7_fill_d0a16 3 = .ok (.arraylength, 1) := by decide +kernel
theorem dJ7_fill_d0a16_4 : decode cJ7_fill_d0a16 4 = .ok (.istore 4, 2) := by decide +kernel
theorem dJ7_fill_d0a16_6 : decode cJ7_fill_d0a16 6 = .ok (.iload_n 3, 1) := by decide +kernel
theorem dJ7_fill_d0a16_7 : decode cJ7_fill_d0a16 7 = .ok (.iload 4, 2) := by decide +kernel
theorem dJ7_fill_d0a16_9 : decode cJ7_fill_d0a16 9 = .ok (.if_icmp .ge 13, 3) := by decide +kernel
theorem dJ7_fill_d0a16_12 : decode cJ7_fill_d0a16 12 = .ok (.aload_n 0, 1) := by decide +kernel
theorem dJ7_fill_d0a16_13 : decode cJ7_fill_d0a16 13 = .ok (.iload_n 3, 1) := by decide +kernel
theorem dJ7_fill_d0a16_14 : decode cJ7_fill_d0a16 14 = .ok (.lload_n 1, 1) := by decide +kernel
theorem dJ7_fill_d0a16_15 : decode cJ7_fill_d0a16 15 = .ok (.lastore, 1) := by decide +kernel
theorem dJ7_fill_d0a16_16 : decode cJ7_fill_d0a16 16 = .ok (.iinc 3 1, 3) := by decide +kernel
theorem dJ7_fill_d0a16_19 : decode cJ7_fill_d0a16 19 = .ok (.goto (-13), 3) := by decide +kernel
theorem dJ7_fill_d0a16_22 : decode cJ7_fill_d0a16 22 = .ok (.return_, 1) := by decide +kernel
theorem dJ7_fill_53178_0 : decode cJ7_fill_53178 0 = .ok (.iconst 0, 1) := by decide +kernel
theorem dJ7_fill_53178_1 : decode cJ7_fill_53178 1 = .ok (.istore_n 2, 1) := by decide +kernel
theorem dJ7_fill_53178_2 : decode cJ7_fill_53178 2 = .ok (.aload_n 0, 1) := by decide +kernel
theorem dJ7_fill_53178_3 : decode cJ7_fill_53178 3 = .ok (.arraylength, 1) := by decide +kernel
theorem dJ7_fill_53178_4 : decode cJ7_fill_53178 4 = .ok (.istore_n 3, 1) := by decide +kernel
theorem dJ7_fill_53178_5 : decode cJ7_fill_53178 5 = .ok (.iload_n 2, 1) := by decide +kernel
theorem dJ7_fill_53178_6 : decode cJ7_fill_53178 6 = .ok (.iload_n 3, 1) := by decide +kernel
theorem dJ7_fill_53178_7 : decode cJ7_fill_53178 7 = .ok (.if_icmp .ge 13, 3) := by decide +kernel
theorem dJ7_fill_53178_10 : decode cJ7_fill_53178 10 = .ok (.aload_n 0, 1) := by decide +kernel
theorem dJ7_fill_53178_11 : decode cJ7_fill_53178 11 = .ok (.iload_n 2, 1) := by decide +kernel
theorem dJ7_fill_53178_12 : decode cJ7_fill_53178 12 = .ok (.iload_n 1, 1) := by decide +kernel
theorem dJ7_fill_53178_13 : decode cJ7_fill_53178 13 = .ok (.iastore, 1) := by decide +kernel
theorem dJ7_fill_53178_14 : decode cJ7_fill_53178 14 = .ok (.iinc 2 1, 3) := by decide +kernel
theorem dJ7_fill_53178_17 : decode cJ7_fill_53178 17 = .ok (.goto (-12), 3) := by decide +kernel
theorem dJ7_fill_53178_20 : decode cJ7_fill_53178 20 = .ok (.return_, 1) := by decide +kernel
end
section
/-! THE METHODS AS FUNCTIONS: what each answers and leaves, none where it would leave its arrays or its fuel -/
abbrev rI : Type := Option (Int32 × mI × mL)
abbrev rL : Type := Option (Int64 × mI × mL)
abbrev rV : Type := Option (mI × mL)
def fuel : Nat := 1000000
abbrev retQ (r : Option Value) (I : mI) (L : mL) : Option Value → mI → mL → Prop := fun v I' L' => v = r ∧ I' = I ∧ L' = L
def lt {α β : Type} (a : α) (f : α → β) : β := f a
theorem lt_some {α β : Type} {a : α} {f : α → Option β} {o : β} (h : lt a f = some o) : f a = some o := h
def ck {α : Type} (b : Bool) (x : Option α) : Option α := if b = true then x else none
theorem ck_some {α : Type} {b : Bool} {x : Option α} {o : α} (h : ck b x = some o) : b = true ∧ x = some o := by
  unfold ck at h
  split at h
  · exact ⟨by assumption, h⟩
  · cases h
def inb (i : Int32) (n : Nat) : Bool := decide (0 ≤ i.toInt) && decide (i.toInt < n)
theorem inb_vp {i : Int32} {n : Nat} (h : inb i n = true) : vp_in i n := by
  simp only [inb, Bool.and_eq_true, decide_eq_true_eq] at h
  exact vp_in_iff.mpr h
theorem vp_lit {i : Int32} {n : Nat} (h : inb i n = true) : vp_in i n := inb_vp h
theorem inb_lt {i : Int32} {n : Nat} (h : inb i n = true) : i.toNatClampNeg < n := Nat.not_le.mp fun q => inb_vp h (Or.inr q)
def nz (x : Int32) : Bool := !(x == 0)
def nzL (x : Int64) : Bool := !(x == 0)
theorem nz_ne {x : Int32} (h : nz x = true) : ¬ x = 0 := by simpa [nz] using h
theorem nzL_ne {x : Int64} (h : nzL x = true) : ¬ x = 0 := by simpa [nzL] using h
theorem bind_some {α β : Type} {x : Option α} {f : α → Option β} {o : β} (h : x.bind f = some o) : ∃ a, x = some a ∧ f a = some o := Option.bind_eq_some_iff.mp h
def bndI {α : Type} (x : rI) (f : Int32 → mI → mL → Option α) : Option α := x.bind (fun q => f q.1 q.2.1 q.2.2)
def bndL {α : Type} (x : rL) (f : Int64 → mI → mL → Option α) : Option α := x.bind (fun q => f q.1 q.2.1 q.2.2)
def bndV {α : Type} (x : rV) (f : mI → mL → Option α) : Option α := x.bind (fun q => f q.1 q.2)
def ordL (i : Int32) : Int64 := ([1, 1, 2, 6, 24, 120, 720, 5040, 40320] : List Int64).getD i.toNatClampNeg 0
theorem sh_row {q : Nat} (h : q < 4) : sh (41 + q) = some (.inl (.long, 1, 24)) := by
  rcases (show q = 0 ∨ q = 1 ∨ q = 2 ∨ q = 3 by omega) with rfl | rfl | rfl | rfl <;> rfl
def cpk (sp dp n : Int32) (n0 n1 : Nat) : Bool := decide (0 ≤ sp.toInt) && (decide (0 ≤ dp.toInt) && (decide (0 ≤ n.toInt) && (decide (sp.toInt + n.toInt ≤ n0) && decide (dp.toInt + n.toInt ≤ n1))))
theorem cpk_spec {sp dp n : Int32} {n0 n1 : Nat} (h : cpk sp dp n n0 n1 = true) : ¬ sp < 0 ∧ ¬ dp < 0 ∧ ¬ n < 0 ∧ sp.toNatClampNeg + n.toNatClampNeg ≤ n0 ∧ dp.toNatClampNeg + n.toNatClampNeg ≤ n1 := by
  simp only [cpk, Bool.and_eq_true, decide_eq_true_eq] at h
  obtain ⟨h1, h2, h3, h4, h5⟩ := h
  have ne : ∀ z : Int32, 0 ≤ z.toInt → ¬ z < 0 := fun z hz q => by
    have := Int32.lt_iff_toInt_lt.mp q
    have h0 : (0 : Int32).toInt = 0 := by decide
    omega
  have tn : ∀ z : Int32, z.toNatClampNeg = z.toInt.toNat := fun z => rfl
  refine ⟨ne _ h1, ne _ h2, ne _ h3, ?_, ?_⟩ <;> rw [tn, tn] <;> omega
end
section
def f_X3_weight (I : mI) (L : mL) (a0 : Int32) (a1 : Int32) (a2 : Int32) : Option Int32 := if a0 = 0 then (some (a2 * a1)) else (if a0 = 1 then (some ((a2 * a1) + a2)) else (if a0 = 2 then (some 0) else (some (((a2 * a1) + a2) / 2))))
theorem ok_X3_weight {d : Nat} (hd : 0 ≤ d) {I : mI} {L : mL} {a0 : Int32} {a1 : Int32} {a2 : Int32} {o : Int32} (h : f_X3_weight I L a0 a1 a2 = some o) : RR mX3_weight d 0 [some (.int a0), some (.int a1), some (.int a2)] [] I L (retQ (some (.int o)) I L) := by
  unfold f_X3_weight at h
  refine r_iload_n (i := 0) dX3_weight_0 rfl rfl ?_
  by_cases c0 : a0 = 0
  · rw [if_pos c0] at h
    refine r_tabIn (tgt := 28) (off := 27) dX3_weight_1 (by rw [c0]; decide) (by rw [c0]; decide) (by rw [c0]; rfl) (by decide) ?_
    refine r_iload_n (i := 2) dX3_weight_28 rfl rfl ?_
    refine r_iload_n (i := 1) dX3_weight_29 rfl rfl ?_
    refine r_imul dX3_weight_30 ?_
    refine r_iret (by first | rfl | decide) dX3_weight_31 ?_
    cases h
    exact ⟨rfl, rfl, rfl⟩
  rw [if_neg c0] at h
  by_cases c1 : a0 = 1
  · rw [if_pos c1] at h
    refine r_tabIn (tgt := 32) (off := 31) dX3_weight_1 (by rw [c1]; decide) (by rw [c1]; decide) (by rw [c1]; rfl) (by decide) ?_
    refine r_iload_n (i := 2) dX3_weight_32 rfl rfl ?_
    refine r_iload_n (i := 1) dX3_weight_33 rfl rfl ?_
    refine r_imul dX3_weight_34 ?_
    refine r_iload_n (i := 2) dX3_weight_35 rfl rfl ?_
    refine r_iadd dX3_weight_36 ?_
    refine r_iret (by first | rfl | decide) dX3_weight_37 ?_
    cases h
    exact ⟨rfl, rfl, rfl⟩
  rw [if_neg c1] at h
  by_cases c2 : a0 = 2
  · rw [if_pos c2] at h
    refine r_tabIn (tgt := 38) (off := 37) dX3_weight_1 (by rw [c2]; decide) (by rw [c2]; decide) (by rw [c2]; rfl) (by decide) ?_
    refine r_iconst (v := 0) dX3_weight_38 (by decide) ?_
    refine r_iret (by first | rfl | decide) dX3_weight_39 ?_
    cases h
    exact ⟨rfl, rfl, rfl⟩
  rw [if_neg c2] at h
  refine r_tabOut (tgt := 40) dX3_weight_1 (by have := lv_neT c0 (a := 0) (by decide); have := lv_neT c1 (a := 1) (by decide); have := lv_neT c2 (a := 2) (by decide); omega) (by decide) ?_
  refine r_iload_n (i := 2) dX3_weight_40 rfl rfl ?_
  refine r_iload_n (i := 1) dX3_weight_41 rfl rfl ?_
  refine r_imul dX3_weight_42 ?_
  refine r_iload_n (i := 2) dX3_weight_43 rfl rfl ?_
  refine r_iadd dX3_weight_44 ?_
  refine r_iconst (v := 2) dX3_weight_45 (by decide) ?_
  refine r_idiv dX3_weight_46 (by decide) ?_
  refine r_iret (by first | rfl | decide) dX3_weight_47 ?_
  cases h
  exact ⟨rfl, rfl, rfl⟩
def f_X3_hasParish_2 (I : mI) (L : mL) (a1 : Int32) : Option Int32 := if a1 < 0 then (some 0) else (if (I 2 5) ≤ a1 then (some 0) else (some 1))
theorem ok_X3_hasParish_2 {d : Nat} (hd : 0 ≤ d) {I : mI} {L : mL} {a1 : Int32} {o : Int32} (h : f_X3_hasParish_2 I L a1 = some o) : RR mX3_hasParish d 0 [some (.ref 2), some (.int a1)] [] I L (retQ (some (.int o)) I L) := by
  unfold f_X3_hasParish_2 at h
  refine r_iload_n (i := 1) dX3_hasParish_0 rfl rfl ?_
  refine r_if_lt (tgt := 16) dX3_hasParish_1 (by decide) (fun c => ?_) (fun c => ?_)
  · rw [if_pos c] at h
    refine r_iconst (v := 0) dX3_hasParish_16 (by decide) ?_
    refine r_iret (by first | rfl | decide) dX3_hasParish_17 ?_
    cases h
    exact ⟨rfl, rfl, rfl⟩
  · rw [if_neg c] at h
    refine r_iload_n (i := 1) dX3_hasParish_4 rfl rfl ?_
    refine r_aload_n (i := 0) dX3_hasParish_5 rfl rfl ?_
    refine r_getI f_X3_27 dX3_hasParish_6 rfl rfl ?_
    refine r_icmp_ge (tgt := 16) dX3_hasParish_9 (by decide) (fun c => ?_) (fun c => ?_)
    · rw [if_pos c] at h
      refine r_iconst (v := 0) dX3_hasParish_16 (by decide) ?_
      refine r_iret (by first | rfl | decide) dX3_hasParish_17 ?_
      cases h
      exact ⟨rfl, rfl, rfl⟩
    · rw [if_neg c] at h
      refine r_iconst (v := 1) dX3_hasParish_12 (by decide) ?_
      refine r_goto (tgt := 17) dX3_hasParish_13 (by decide) ?_
      refine r_iret (by first | rfl | decide) dX3_hasParish_17 ?_
      cases h
      exact ⟨rfl, rfl, rfl⟩
def f_X3_joins_2_l2 (I : mI) (L : mL) : Nat → Int32 → Int32 → Int32 → Option Int32
  | 0, _, _, _ => none
  | n + 1, x1, x2, x3 => if (I 2 6) ≤ x3 then (some 0) else (ck (inb x3 15) (if (I 5 x3.toNatClampNeg) = (if x2 < x1 then x2 else x1) then (ck (inb x3 15) (if (I 6 x3.toNatClampNeg) = (if x1 < x2 then x2 else x1) then (some 1) else (lt (x3 + Int32.ofInt 1) (fun v2 => f_X3_joins_2_l2 I L n x1 x2 v2)))) else (lt (x3 + Int32.ofInt 1) (fun v1 => f_X3_joins_2_l2 I L n x1 x2 v1))))
theorem ok_X3_joins_2_l2 {d : Nat} (hd : 1 ≤ d){I : mI} {L : mL} : ∀ (n : Nat) (x1 : Int32) (x2 : Int32) (x3 : Int32) (o : Int32), f_X3_joins_2_l2 I L n x1 x2 x3 = some o → RR mX3_joins d 2 [some (.ref 2), some (.int x1), some (.int x2), some (.int x3)] [] I L (retQ (some (.int o)) I L) := by
  intro n
  induction n with
  | zero => intro x1 x2 x3 o h; rw [f_X3_joins_2_l2] at h; cases h
  | succ n ih =>
    intro x1 x2 x3 o h
    rw [f_X3_joins_2_l2] at h
    refine r_iload_n (i := 3) dX3_joins_2 rfl rfl ?_
    refine r_aload_n (i := 0) dX3_joins_3 rfl rfl ?_
    refine r_getI f_X3_31 dX3_joins_4 rfl rfl ?_
    refine r_icmp_ge (tgt := 46) dX3_joins_7 (by decide) (fun c => ?_) (fun c => ?_)
    · rw [if_pos c] at h
      refine r_iconst (v := 0) dX3_joins_46 (by decide) ?_
      refine r_iret (by first | rfl | decide) dX3_joins_47 ?_
      cases h
      exact ⟨rfl, rfl, rfl⟩
    · rw [if_neg c] at h
      refine r_aload_n (i := 0) dX3_joins_10 rfl rfl ?_
      refine r_getR f_X3_18 dX3_joins_11 rfl rfl ?_
      refine r_iload_n (i := 3) dX3_joins_14 rfl rfl ?_
      obtain ⟨hb, h⟩ := ck_some h
      refine r_iald rfl (inb_vp hb) dX3_joins_15 ?_
      refine r_iload_n (i := 1) dX3_joins_16 rfl rfl ?_
      refine r_iload_n (i := 2) dX3_joins_17 rfl rfl ?_
      refine r_mmin k_X3_34 dX3_joins_18 (by omega) (Nat.le_of_ble_eq_true rfl) ?_
      refine r_icmp_ne (tgt := 40) dX3_joins_21 (by decide) (fun c => ?_) (fun c => ?_)
      · rw [if_neg c] at h
        refine r_iinc (v := _) dX3_joins_40 rfl rfl (by decide) rfl ?_
        simp only [List.set_cons_zero, List.set_cons_succ]
        replace h := lt_some h
        refine r_goto (tgt := 2) dX3_joins_43 (by decide) ?_
        exact ih _ _ _ _ h
      · rw [if_pos c] at h
        refine r_aload_n (i := 0) dX3_joins_24 rfl rfl ?_
        refine r_getR f_X3_21 dX3_joins_25 rfl rfl ?_
        refine r_iload_n (i := 3) dX3_joins_28 rfl rfl ?_
        obtain ⟨hb, h⟩ := ck_some h
        refine r_iald rfl (inb_vp hb) dX3_joins_29 ?_
        refine r_iload_n (i := 1) dX3_joins_30 rfl rfl ?_
        refine r_iload_n (i := 2) dX3_joins_31 rfl rfl ?_
        refine r_mmax k_X3_40 dX3_joins_32 (by omega) (Nat.le_of_ble_eq_true rfl) ?_
        refine r_icmp_ne (tgt := 40) dX3_joins_35 (by decide) (fun c => ?_) (fun c => ?_)
        · rw [if_neg c] at h
          refine r_iinc (v := _) dX3_joins_40 rfl rfl (by decide) rfl ?_
          simp only [List.set_cons_zero, List.set_cons_succ]
          replace h := lt_some h
          refine r_goto (tgt := 2) dX3_joins_43 (by decide) ?_
          exact ih _ _ _ _ h
        · rw [if_pos c] at h
          refine r_iconst (v := 1) dX3_joins_38 (by decide) ?_
          refine r_iret (by first | rfl | decide) dX3_joins_39 ?_
          cases h
          exact ⟨rfl, rfl, rfl⟩
def f_X3_joins_2 (I : mI) (L : mL) (a1 : Int32) (a2 : Int32) : Option Int32 := f_X3_joins_2_l2 I L fuel a1 a2 0
theorem ok_X3_joins_2 {d : Nat} (hd : 1 ≤ d) {I : mI} {L : mL} {a1 : Int32} {a2 : Int32} {o : Int32} (h : f_X3_joins_2 I L a1 a2 = some o) : RR mX3_joins d 0 [some (.ref 2), some (.int a1), some (.int a2), none] [] I L (retQ (some (.int o)) I L) := by
  unfold f_X3_joins_2 at h
  refine r_iconst (v := 0) dX3_joins_0 (by decide) ?_
  refine r_istore_n (i := 3) dX3_joins_1 rfl (by decide) rfl ?_
  simp only [List.set_cons_zero, List.set_cons_succ]
  exact ok_X3_joins_2_l2 hd _ _ _ _ _ h
def f_X3_addParish_2_l14 : Nat → Int32 → Int32 → mI → mL → rI
  | 0, _, _, _, _ => none
  | n + 1, x2, x3, I, L => if 4 ≤ x3 then (lt (uI I 2 5 ((I 2 5) + 1)) (fun M3 => some (x2, M3, L))) else (ck (inb ((x2 * 4) + x3) 32) (lt (uI I 4 ((x2 * 4) + x3).toNatClampNeg 5) (fun M4 => lt (x3 + Int32.ofInt 1) (fun v5 => f_X3_addParish_2_l14 n x2 v5 M4 L))))
theorem ok_X3_addParish_2_l14 {d : Nat} (hd : 0 ≤ d) : ∀ (n : Nat) (x2 : Int32) (x3 : Int32) (e1 : Option Value) (I : mI) (L : mL) (o : Int32 × mI × mL), f_X3_addParish_2_l14 n x2 x3 I L = some o → RR mX3_addParish d 14 [some (.ref 2), e1, some (.int x2), some (.int x3)] [] I L (retQ (some (.int o.1)) o.2.1 o.2.2) := by
  intro n
  induction n with
  | zero => intro x2 x3 e1 I L o h; rw [f_X3_addParish_2_l14] at h; cases h
  | succ n ih =>
    intro x2 x3 e1 I L o h
    rw [f_X3_addParish_2_l14] at h
    refine r_iload_n (i := 3) dX3_addParish_14 rfl rfl ?_
    refine r_iconst (v := 4) dX3_addParish_15 (by decide) ?_
    refine r_icmp_ge (tgt := 36) dX3_addParish_16 (by decide) (fun c => ?_) (fun c => ?_)
    · rw [if_pos c] at h
      refine r_aload_n (i := 0) dX3_addParish_36 rfl rfl ?_
      refine r_dup dX3_addParish_37 rfl ?_
      refine r_getI f_X3_27 dX3_addParish_38 rfl rfl ?_
      refine r_iconst (v := 1) dX3_addParish_41 (by decide) ?_
      refine r_iadd dX3_addParish_42 ?_
      refine r_putI f_X3_27 rfl rfl dX3_addParish_43 rfl rfl ?_
      replace h := lt_some h
      refine r_iload_n (i := 2) dX3_addParish_46 rfl rfl ?_
      refine r_iret (by first | rfl | decide) dX3_addParish_47 ?_
      cases h
      exact ⟨rfl, rfl, rfl⟩
    · rw [if_neg c] at h
      refine r_aload_n (i := 0) dX3_addParish_19 rfl rfl ?_
      refine r_getR f_X3_15 dX3_addParish_20 rfl rfl ?_
      refine r_iload_n (i := 2) dX3_addParish_23 rfl rfl ?_
      refine r_iconst (v := 4) dX3_addParish_24 (by decide) ?_
      refine r_imul dX3_addParish_25 ?_
      refine r_iload_n (i := 3) dX3_addParish_26 rfl rfl ?_
      refine r_iadd dX3_addParish_27 ?_
      refine r_iconst (v := 5) dX3_addParish_28 (by decide) ?_
      obtain ⟨hb, h⟩ := ck_some h
      refine r_iast rfl (inb_vp hb) dX3_addParish_29 ?_
      replace h := lt_some h
      refine r_iinc (v := _) dX3_addParish_30 rfl rfl (by decide) rfl ?_
      simp only [List.set_cons_zero, List.set_cons_succ]
      replace h := lt_some h
      refine r_goto (tgt := 14) dX3_addParish_33 (by decide) ?_
      exact ih _ _ _ _ _ _ h
def f_X3_addParish_2 (I : mI) (L : mL) (a1 : Int32) : rI := lt (I 2 5) (fun v1 => ck (inb v1 8) (lt (uI I 3 v1.toNatClampNeg a1) (fun M2 => f_X3_addParish_2_l14 fuel v1 0 M2 L)))
theorem ok_X3_addParish_2 {d : Nat} (hd : 0 ≤ d) {I : mI} {L : mL} {a1 : Int32} {o : Int32 × mI × mL} (h : f_X3_addParish_2 I L a1 = some o) : RR mX3_addParish d 0 [some (.ref 2), some (.int a1), none, none] [] I L (retQ (some (.int o.1)) o.2.1 o.2.2) := by
  unfold f_X3_addParish_2 at h
  refine r_aload_n (i := 0) dX3_addParish_0 rfl rfl ?_
  refine r_getI f_X3_27 dX3_addParish_1 rfl rfl ?_
  refine r_istore_n (i := 2) dX3_addParish_4 rfl (by decide) rfl ?_
  simp only [List.set_cons_zero, List.set_cons_succ]
  replace h := lt_some h
  refine r_aload_n (i := 0) dX3_addParish_5 rfl rfl ?_
  refine r_getR f_X3_9 dX3_addParish_6 rfl rfl ?_
  refine r_iload_n (i := 2) dX3_addParish_9 rfl rfl ?_
  refine r_iload_n (i := 1) dX3_addParish_10 rfl rfl ?_
  obtain ⟨hb, h⟩ := ck_some h
  refine r_iast rfl (inb_vp hb) dX3_addParish_11 ?_
  replace h := lt_some h
  refine r_iconst (v := 0) dX3_addParish_12 (by decide) ?_
  refine r_istore_n (i := 3) dX3_addParish_13 rfl (by decide) rfl ?_
  simp only [List.set_cons_zero, List.set_cons_succ]
  exact ok_X3_addParish_2_l14 hd _ _ _ _ _ _ _ h
def f_X3_addRoad_2 (I : mI) (L : mL) (a1 : Int32) (a2 : Int32) (a3 : Int32) : rI := lt (I 2 6) (fun v1 => ck (inb v1 15) (lt (uI I 5 v1.toNatClampNeg (if a2 < a1 then a2 else a1)) (fun M2 => ck (inb v1 15) (lt (uI M2 6 v1.toNatClampNeg (if a1 < a2 then a2 else a1)) (fun M3 => ck (inb v1 15) (lt (uI M3 7 v1.toNatClampNeg a3) (fun M4 => lt (uI M4 2 6 ((M4 2 6) + 1)) (fun M5 => some (v1, M5, L)))))))))
theorem ok_X3_addRoad_2 {d : Nat} (hd : 1 ≤ d) {I : mI} {L : mL} {a1 : Int32} {a2 : Int32} {a3 : Int32} {o : Int32 × mI × mL} (h : f_X3_addRoad_2 I L a1 a2 a3 = some o) : RR mX3_addRoad d 0 [some (.ref 2), some (.int a1), some (.int a2), some (.int a3), none] [] I L (retQ (some (.int o.1)) o.2.1 o.2.2) := by
  unfold f_X3_addRoad_2 at h
  refine r_aload_n (i := 0) dX3_addRoad_0 rfl rfl ?_
  refine r_getI f_X3_31 dX3_addRoad_1 rfl rfl ?_
  refine r_istore dX3_addRoad_4 (by decide) rfl ?_
  simp only [List.set_cons_zero, List.set_cons_succ]
  replace h := lt_some h
  refine r_aload_n (i := 0) dX3_addRoad_6 rfl rfl ?_
  refine r_getR f_X3_18 dX3_addRoad_7 rfl rfl ?_
  refine r_iload dX3_addRoad_10 rfl ?_
  refine r_iload_n (i := 1) dX3_addRoad_12 rfl rfl ?_
  refine r_iload_n (i := 2) dX3_addRoad_13 rfl rfl ?_
  refine r_mmin k_X3_34 dX3_addRoad_14 (by omega) (Nat.le_of_ble_eq_true rfl) ?_
  obtain ⟨hb, h⟩ := ck_some h
  refine r_iast rfl (inb_vp hb) dX3_addRoad_17 ?_
  replace h := lt_some h
  refine r_aload_n (i := 0) dX3_addRoad_18 rfl rfl ?_
  refine r_getR f_X3_21 dX3_addRoad_19 rfl rfl ?_
  refine r_iload dX3_addRoad_22 rfl ?_
  refine r_iload_n (i := 1) dX3_addRoad_24 rfl rfl ?_
  refine r_iload_n (i := 2) dX3_addRoad_25 rfl rfl ?_
  refine r_mmax k_X3_40 dX3_addRoad_26 (by omega) (Nat.le_of_ble_eq_true rfl) ?_
  obtain ⟨hb, h⟩ := ck_some h
  refine r_iast rfl (inb_vp hb) dX3_addRoad_29 ?_
  replace h := lt_some h
  refine r_aload_n (i := 0) dX3_addRoad_30 rfl rfl ?_
  refine r_getR f_X3_24 dX3_addRoad_31 rfl rfl ?_
  refine r_iload dX3_addRoad_34 rfl ?_
  refine r_iload_n (i := 3) dX3_addRoad_36 rfl rfl ?_
  obtain ⟨hb, h⟩ := ck_some h
  refine r_iast rfl (inb_vp hb) dX3_addRoad_37 ?_
  replace h := lt_some h
  refine r_aload_n (i := 0) dX3_addRoad_38 rfl rfl ?_
  refine r_dup dX3_addRoad_39 rfl ?_
  refine r_getI f_X3_31 dX3_addRoad_40 rfl rfl ?_
  refine r_iconst (v := 1) dX3_addRoad_43 (by decide) ?_
  refine r_iadd dX3_addRoad_44 ?_
  refine r_putI f_X3_31 rfl rfl dX3_addRoad_45 rfl rfl ?_
  replace h := lt_some h
  refine r_iload dX3_addRoad_48 rfl ?_
  refine r_iret (by first | rfl | decide) dX3_addRoad_50 ?_
  cases h
  exact ⟨rfl, rfl, rfl⟩
def f_X3_otherEnd_2 (I : mI) (L : mL) (a1 : Int32) (a2 : Int32) : Option Int32 := ck (inb a1 15) (if (I 5 a1.toNatClampNeg) = a2 then (ck (inb a1 15) (some (I 6 a1.toNatClampNeg))) else (ck (inb a1 15) (if (I 6 a1.toNatClampNeg) = a2 then (ck (inb a1 15) (some (I 5 a1.toNatClampNeg))) else (some (-1)))))
theorem ok_X3_otherEnd_2 {d : Nat} (hd : 0 ≤ d) {I : mI} {L : mL} {a1 : Int32} {a2 : Int32} {o : Int32} (h : f_X3_otherEnd_2 I L a1 a2 = some o) : RR mX3_otherEnd d 0 [some (.ref 2), some (.int a1), some (.int a2)] [] I L (retQ (some (.int o)) I L) := by
  unfold f_X3_otherEnd_2 at h
  refine r_aload_n (i := 0) dX3_otherEnd_0 rfl rfl ?_
  refine r_getR f_X3_18 dX3_otherEnd_1 rfl rfl ?_
  refine r_iload_n (i := 1) dX3_otherEnd_4 rfl rfl ?_
  obtain ⟨hb, h⟩ := ck_some h
  refine r_iald rfl (inb_vp hb) dX3_otherEnd_5 ?_
  refine r_iload_n (i := 2) dX3_otherEnd_6 rfl rfl ?_
  refine r_icmp_ne (tgt := 17) dX3_otherEnd_7 (by decide) (fun c => ?_) (fun c => ?_)
  · rw [if_neg c] at h
    refine r_aload_n (i := 0) dX3_otherEnd_17 rfl rfl ?_
    refine r_getR f_X3_21 dX3_otherEnd_18 rfl rfl ?_
    refine r_iload_n (i := 1) dX3_otherEnd_21 rfl rfl ?_
    obtain ⟨hb, h⟩ := ck_some h
    refine r_iald rfl (inb_vp hb) dX3_otherEnd_22 ?_
    refine r_iload_n (i := 2) dX3_otherEnd_23 rfl rfl ?_
    refine r_icmp_ne (tgt := 36) dX3_otherEnd_24 (by decide) (fun c => ?_) (fun c => ?_)
    · rw [if_neg c] at h
      refine r_iconst (v := (-1)) dX3_otherEnd_36 (by decide) ?_
      refine r_iret (by first | rfl | decide) dX3_otherEnd_37 ?_
      cases h
      exact ⟨rfl, rfl, rfl⟩
    · rw [if_pos c] at h
      refine r_aload_n (i := 0) dX3_otherEnd_27 rfl rfl ?_
      refine r_getR f_X3_18 dX3_otherEnd_28 rfl rfl ?_
      refine r_iload_n (i := 1) dX3_otherEnd_31 rfl rfl ?_
      obtain ⟨hb, h⟩ := ck_some h
      refine r_iald rfl (inb_vp hb) dX3_otherEnd_32 ?_
      refine r_goto (tgt := 37) dX3_otherEnd_33 (by decide) ?_
      refine r_iret (by first | rfl | decide) dX3_otherEnd_37 ?_
      cases h
      exact ⟨rfl, rfl, rfl⟩
  · rw [if_pos c] at h
    refine r_aload_n (i := 0) dX3_otherEnd_10 rfl rfl ?_
    refine r_getR f_X3_21 dX3_otherEnd_11 rfl rfl ?_
    refine r_iload_n (i := 1) dX3_otherEnd_14 rfl rfl ?_
    obtain ⟨hb, h⟩ := ck_some h
    refine r_iald rfl (inb_vp hb) dX3_otherEnd_15 ?_
    refine r_iret (by first | rfl | decide) dX3_otherEnd_16 ?_
    cases h
    exact ⟨rfl, rfl, rfl⟩
def f_X3_roadsAt_2_l4 (I : mI) (L : mL) : Nat → Int32 → Int32 → Int32 → Option Int32
  | 0, _, _, _ => none
  | n + 1, x1, x2, x3 => if (I 2 6) ≤ x3 then (some x2) else ((f_X3_otherEnd_2 I L x3 x1).bind (fun r1 => if r1 < 0 then (lt (x3 + Int32.ofInt 1) (fun v2 => f_X3_roadsAt_2_l4 I L n x1 x2 v2)) else (lt (x2 + Int32.ofInt 1) (fun v3 => lt (x3 + Int32.ofInt 1) (fun v4 => f_X3_roadsAt_2_l4 I L n x1 v3 v4)))))
theorem ok_X3_roadsAt_2_l4 {d : Nat} (hd : 1 ≤ d){I : mI} {L : mL} : ∀ (n : Nat) (x1 : Int32) (x2 : Int32) (x3 : Int32) (o : Int32), f_X3_roadsAt_2_l4 I L n x1 x2 x3 = some o → RR mX3_roadsAt d 4 [some (.ref 2), some (.int x1), some (.int x2), some (.int x3)] [] I L (retQ (some (.int o)) I L) := by
  intro n
  induction n with
  | zero => intro x1 x2 x3 o h; rw [f_X3_roadsAt_2_l4] at h; cases h
  | succ n ih =>
    intro x1 x2 x3 o h
    rw [f_X3_roadsAt_2_l4] at h
    refine r_iload_n (i := 3) dX3_roadsAt_4 rfl rfl ?_
    refine r_aload_n (i := 0) dX3_roadsAt_5 rfl rfl ?_
    refine r_getI f_X3_31 dX3_roadsAt_6 rfl rfl ?_
    refine r_icmp_ge (tgt := 30) dX3_roadsAt_9 (by decide) (fun c => ?_) (fun c => ?_)
    · rw [if_pos c] at h
      refine r_iload_n (i := 2) dX3_roadsAt_30 rfl rfl ?_
      refine r_iret (by first | rfl | decide) dX3_roadsAt_31 ?_
      cases h
      exact ⟨rfl, rfl, rfl⟩
    · rw [if_neg c] at h
      refine r_aload_n (i := 0) dX3_roadsAt_12 rfl rfl ?_
      refine r_iload_n (i := 3) dX3_roadsAt_13 rfl rfl ?_
      refine r_iload_n (i := 1) dX3_roadsAt_14 rfl rfl ?_
      obtain ⟨r1, hr, h⟩ := bind_some h
      refine r_V (d' := 0) k_X3_43 dX3_roadsAt_15 (by omega) rfl rfl rfl (Nat.le_of_ble_eq_true rfl) (Nat.le_of_ble_eq_true rfl) (ok_X3_otherEnd_2 (Nat.le_refl _) hr) (fun v I' L' hq => ?_)
      obtain ⟨rfl, rfl, rfl⟩ := hq
      simp only [Option.toList_some, Option.toList_none, List.drop_succ_cons, List.drop_zero, List.drop_nil, List.cons_append, List.nil_append]
      refine r_if_lt (tgt := 24) dX3_roadsAt_18 (by decide) (fun c => ?_) (fun c => ?_)
      · rw [if_pos c] at h
        refine r_iinc (v := _) dX3_roadsAt_24 rfl rfl (by decide) rfl ?_
        simp only [List.set_cons_zero, List.set_cons_succ]
        replace h := lt_some h
        refine r_goto (tgt := 4) dX3_roadsAt_27 (by decide) ?_
        exact ih _ _ _ _ h
      · rw [if_neg c] at h
        refine r_iinc (v := _) dX3_roadsAt_21 rfl rfl (by decide) rfl ?_
        simp only [List.set_cons_zero, List.set_cons_succ]
        replace h := lt_some h
        refine r_iinc (v := _) dX3_roadsAt_24 rfl rfl (by decide) rfl ?_
        simp only [List.set_cons_zero, List.set_cons_succ]
        replace h := lt_some h
        refine r_goto (tgt := 4) dX3_roadsAt_27 (by decide) ?_
        exact ih _ _ _ _ h
def f_X3_roadsAt_2 (I : mI) (L : mL) (a1 : Int32) : Option Int32 := f_X3_roadsAt_2_l4 I L fuel a1 0 0
theorem ok_X3_roadsAt_2 {d : Nat} (hd : 1 ≤ d) {I : mI} {L : mL} {a1 : Int32} {o : Int32} (h : f_X3_roadsAt_2 I L a1 = some o) : RR mX3_roadsAt d 0 [some (.ref 2), some (.int a1), none, none] [] I L (retQ (some (.int o)) I L) := by
  unfold f_X3_roadsAt_2 at h
  refine r_iconst (v := 0) dX3_roadsAt_0 (by decide) ?_
  refine r_istore_n (i := 2) dX3_roadsAt_1 rfl (by decide) rfl ?_
  simp only [List.set_cons_zero, List.set_cons_succ]
  refine r_iconst (v := 0) dX3_roadsAt_2 (by decide) ?_
  refine r_istore_n (i := 3) dX3_roadsAt_3 rfl (by decide) rfl ?_
  simp only [List.set_cons_zero, List.set_cons_succ]
  exact ok_X3_roadsAt_2_l4 hd _ _ _ _ _ h
def f_X7_seasonOf (I : mI) (L : mL) (a0 : Int32) : Option Int32 := some ((a0 / 13) - (a0 / 13) / 4 * 4)
theorem ok_X7_seasonOf {d : Nat} (hd : 0 ≤ d) {I : mI} {L : mL} {a0 : Int32} {o : Int32} (h : f_X7_seasonOf I L a0 = some o) : RR mX7_seasonOf d 0 [some (.int a0)] [] I L (retQ (some (.int o)) I L) := by
  unfold f_X7_seasonOf at h
  refine r_iload_n (i := 0) dX7_seasonOf_0 rfl rfl ?_
  refine r_bipush (v := 13) dX7_seasonOf_1 (by decide) ?_
  refine r_idiv dX7_seasonOf_3 (by decide) ?_
  refine r_iconst (v := 4) dX7_seasonOf_4 (by decide) ?_
  refine r_irem dX7_seasonOf_5 (by decide) ?_
  refine r_iret (by first | rfl | decide) dX7_seasonOf_6 ?_
  cases h
  exact ⟨rfl, rfl, rfl⟩
def f_X7_season_1 (I : mI) (L : mL) : Option Int32 := (f_X7_seasonOf I L (I 1 12)).bind (fun r1 => some r1)
theorem ok_X7_season_1 {d : Nat} (hd : 1 ≤ d) {I : mI} {L : mL} {o : Int32} (h : f_X7_season_1 I L = some o) : RR mX7_season d 0 [some (.ref 1)] [] I L (retQ (some (.int o)) I L) := by
  unfold f_X7_season_1 at h
  refine r_aload_n (i := 0) dX7_season_0 rfl rfl ?_
  refine r_getI f_X7_43 dX7_season_1 rfl rfl ?_
  obtain ⟨r1, hr, h⟩ := bind_some h
  refine r_S (d' := 0) k_X7_47 dX7_season_4 (by omega) rfl (Nat.le_of_ble_eq_true rfl) (Nat.le_of_ble_eq_true rfl) (ok_X7_seasonOf (Nat.le_refl _) hr) (fun v I' L' hq => ?_)
  obtain ⟨rfl, rfl, rfl⟩ := hq
  simp only [Option.toList_some, Option.toList_none, List.drop_succ_cons, List.drop_zero, List.drop_nil, List.cons_append, List.nil_append]
  refine r_iret (by first | rfl | decide) dX7_season_7 ?_
  cases h
  exact ⟨rfl, rfl, rfl⟩
def f_X7_weightAt_1 (I : mI) (L : mL) (a1 : Int32) (a2 : Int32) : Option Int32 := ck (inb a1 8) ((f_X7_season_1 I L).bind (fun r1 => ck (inb ((a1 * 4) + r1) 32) ((f_X3_weight I L (I 3 a1.toNatClampNeg) (I 4 ((a1 * 4) + r1).toNatClampNeg) a2).bind (fun r2 => some r2))))
theorem ok_X7_weightAt_1 {d : Nat} (hd : 2 ≤ d) {I : mI} {L : mL} {a1 : Int32} {a2 : Int32} {o : Int32} (h : f_X7_weightAt_1 I L a1 a2 = some o) : RR mX7_weightAt d 0 [some (.ref 1), some (.int a1), some (.int a2)] [] I L (retQ (some (.int o)) I L) := by
  unfold f_X7_weightAt_1 at h
  refine r_aload_n (i := 0) dX7_weightAt_0 rfl rfl ?_
  refine r_getR f_X7_12 dX7_weightAt_1 rfl rfl ?_
  refine r_getR f_X7_51 dX7_weightAt_4 rfl rfl ?_
  refine r_iload_n (i := 1) dX7_weightAt_7 rfl rfl ?_
  obtain ⟨hb, h⟩ := ck_some h
  refine r_iald rfl (inb_vp hb) dX7_weightAt_8 ?_
  refine r_aload_n (i := 0) dX7_weightAt_9 rfl rfl ?_
  refine r_getR f_X7_12 dX7_weightAt_10 rfl rfl ?_
  refine r_getR f_X7_54 dX7_weightAt_13 rfl rfl ?_
  refine r_iload_n (i := 1) dX7_weightAt_16 rfl rfl ?_
  refine r_iconst (v := 4) dX7_weightAt_17 (by decide) ?_
  refine r_imul dX7_weightAt_18 ?_
  refine r_aload_n (i := 0) dX7_weightAt_19 rfl rfl ?_
  obtain ⟨r1, hr, h⟩ := bind_some h
  refine r_V (d' := 1) k_X7_57 dX7_weightAt_20 (by omega) rfl rfl rfl (Nat.le_of_ble_eq_true rfl) (Nat.le_of_ble_eq_true rfl) (ok_X7_season_1 (Nat.le_refl _) hr) (fun v I' L' hq => ?_)
  obtain ⟨rfl, rfl, rfl⟩ := hq
  simp only [Option.toList_some, Option.toList_none, List.drop_succ_cons, List.drop_zero, List.drop_nil, List.cons_append, List.nil_append]
  refine r_iadd dX7_weightAt_23 ?_
  obtain ⟨hb, h⟩ := ck_some h
  refine r_iald rfl (inb_vp hb) dX7_weightAt_24 ?_
  refine r_iload_n (i := 2) dX7_weightAt_25 rfl rfl ?_
  obtain ⟨r2, hr, h⟩ := bind_some h
  refine r_S (d' := 0) k_X7_61 dX7_weightAt_26 (by omega) rfl (Nat.le_of_ble_eq_true rfl) (Nat.le_of_ble_eq_true rfl) (ok_X3_weight (Nat.le_refl _) hr) (fun v I' L' hq => ?_)
  obtain ⟨rfl, rfl, rfl⟩ := hq
  simp only [Option.toList_some, Option.toList_none, List.drop_succ_cons, List.drop_zero, List.drop_nil, List.cons_append, List.nil_append]
  refine r_iret (by first | rfl | decide) dX7_weightAt_29 ?_
  cases h
  exact ⟨rfl, rfl, rfl⟩
def f_X3_copyFrom_2_33 (I : mI) (L : mL) : rV := ck (cpk 0 0 8 8 8) (lt (pI I 3 (va_cpy (I 34) (I 3) (0 : Int32).toNatClampNeg (0 : Int32).toNatClampNeg (8 : Int32).toNatClampNeg)) (fun M1 => ck (cpk 0 0 32 32 32) (lt (pI M1 4 (va_cpy (M1 35) (M1 4) (0 : Int32).toNatClampNeg (0 : Int32).toNatClampNeg (32 : Int32).toNatClampNeg)) (fun M2 => ck (cpk 0 0 15 15 15) (lt (pI M2 5 (va_cpy (M2 36) (M2 5) (0 : Int32).toNatClampNeg (0 : Int32).toNatClampNeg (15 : Int32).toNatClampNeg)) (fun M3 => ck (cpk 0 0 15 15 15) (lt (pI M3 6 (va_cpy (M3 37) (M3 6) (0 : Int32).toNatClampNeg (0 : Int32).toNatClampNeg (15 : Int32).toNatClampNeg)) (fun M4 => ck (cpk 0 0 15 15 15) (lt (pI M4 7 (va_cpy (M4 38) (M4 7) (0 : Int32).toNatClampNeg (0 : Int32).toNatClampNeg (15 : Int32).toNatClampNeg)) (fun M5 => lt (uI M5 2 5 (M5 33 5)) (fun M6 => lt (uI M6 2 6 (M6 33 6)) (fun M7 => some (M7, L)))))))))))))
theorem ok_X3_copyFrom_2_33 {d : Nat} (hd : 1 ≤ d) {I : mI} {L : mL} {o : mI × mL} (h : f_X3_copyFrom_2_33 I L = some o) : RR mX3_copyFrom d 0 [some (.ref 2), some (.ref 33)] [] I L (retQ none o.1 o.2) := by
  unfold f_X3_copyFrom_2_33 at h
  refine r_aload_n (i := 1) dX3_copyFrom_0 rfl rfl ?_
  refine r_getR f_X3_9 dX3_copyFrom_1 rfl rfl ?_
  refine r_iconst (v := 0) dX3_copyFrom_4 (by decide) ?_
  refine r_aload_n (i := 0) dX3_copyFrom_5 rfl rfl ?_
  refine r_getR f_X3_9 dX3_copyFrom_6 rfl rfl ?_
  refine r_iconst (v := 0) dX3_copyFrom_9 (by decide) ?_
  refine r_bipush (v := 8) dX3_copyFrom_10 (by decide) ?_
  obtain ⟨hb, h⟩ := ck_some h
  obtain ⟨hc1, hc2, hc3, hc4, hc5⟩ := cpk_spec hb
  refine r_copyI k_X3_46 rfl rfl hc1 hc2 hc3 hc4 hc5 dX3_copyFrom_12 (by omega) (Nat.le_of_ble_eq_true rfl) ?_
  replace h := lt_some h
  refine r_aload_n (i := 1) dX3_copyFrom_15 rfl rfl ?_
  refine r_getR f_X3_15 dX3_copyFrom_16 rfl rfl ?_
  refine r_iconst (v := 0) dX3_copyFrom_19 (by decide) ?_
  refine r_aload_n (i := 0) dX3_copyFrom_20 rfl rfl ?_
  refine r_getR f_X3_15 dX3_copyFrom_21 rfl rfl ?_
  refine r_iconst (v := 0) dX3_copyFrom_24 (by decide) ?_
  refine r_bipush (v := 32) dX3_copyFrom_25 (by decide) ?_
  obtain ⟨hb, h⟩ := ck_some h
  obtain ⟨hc1, hc2, hc3, hc4, hc5⟩ := cpk_spec hb
  refine r_copyI k_X3_46 rfl rfl hc1 hc2 hc3 hc4 hc5 dX3_copyFrom_27 (by omega) (Nat.le_of_ble_eq_true rfl) ?_
  replace h := lt_some h
  refine r_aload_n (i := 1) dX3_copyFrom_30 rfl rfl ?_
  refine r_getR f_X3_18 dX3_copyFrom_31 rfl rfl ?_
  refine r_iconst (v := 0) dX3_copyFrom_34 (by decide) ?_
  refine r_aload_n (i := 0) dX3_copyFrom_35 rfl rfl ?_
  refine r_getR f_X3_18 dX3_copyFrom_36 rfl rfl ?_
  refine r_iconst (v := 0) dX3_copyFrom_39 (by decide) ?_
  refine r_bipush (v := 15) dX3_copyFrom_40 (by decide) ?_
  obtain ⟨hb, h⟩ := ck_some h
  obtain ⟨hc1, hc2, hc3, hc4, hc5⟩ := cpk_spec hb
  refine r_copyI k_X3_46 rfl rfl hc1 hc2 hc3 hc4 hc5 dX3_copyFrom_42 (by omega) (Nat.le_of_ble_eq_true rfl) ?_
  replace h := lt_some h
  refine r_aload_n (i := 1) dX3_copyFrom_45 rfl rfl ?_
  refine r_getR f_X3_21 dX3_copyFrom_46 rfl rfl ?_
  refine r_iconst (v := 0) dX3_copyFrom_49 (by decide) ?_
  refine r_aload_n (i := 0) dX3_copyFrom_50 rfl rfl ?_
  refine r_getR f_X3_21 dX3_copyFrom_51 rfl rfl ?_
  refine r_iconst (v := 0) dX3_copyFrom_54 (by decide) ?_
  refine r_bipush (v := 15) dX3_copyFrom_55 (by decide) ?_
  obtain ⟨hb, h⟩ := ck_some h
  obtain ⟨hc1, hc2, hc3, hc4, hc5⟩ := cpk_spec hb
  refine r_copyI k_X3_46 rfl rfl hc1 hc2 hc3 hc4 hc5 dX3_copyFrom_57 (by omega) (Nat.le_of_ble_eq_true rfl) ?_
  replace h := lt_some h
  refine r_aload_n (i := 1) dX3_copyFrom_60 rfl rfl ?_
  refine r_getR f_X3_24 dX3_copyFrom_61 rfl rfl ?_
  refine r_iconst (v := 0) dX3_copyFrom_64 (by decide) ?_
  refine r_aload_n (i := 0) dX3_copyFrom_65 rfl rfl ?_
  refine r_getR f_X3_24 dX3_copyFrom_66 rfl rfl ?_
  refine r_iconst (v := 0) dX3_copyFrom_69 (by decide) ?_
  refine r_bipush (v := 15) dX3_copyFrom_70 (by decide) ?_
  obtain ⟨hb, h⟩ := ck_some h
  obtain ⟨hc1, hc2, hc3, hc4, hc5⟩ := cpk_spec hb
  refine r_copyI k_X3_46 rfl rfl hc1 hc2 hc3 hc4 hc5 dX3_copyFrom_72 (by omega) (Nat.le_of_ble_eq_true rfl) ?_
  replace h := lt_some h
  refine r_aload_n (i := 0) dX3_copyFrom_75 rfl rfl ?_
  refine r_aload_n (i := 1) dX3_copyFrom_76 rfl rfl ?_
  refine r_getI f_X3_27 dX3_copyFrom_77 rfl rfl ?_
  refine r_putI f_X3_27 rfl rfl dX3_copyFrom_80 rfl rfl ?_
  replace h := lt_some h
  refine r_aload_n (i := 0) dX3_copyFrom_83 rfl rfl ?_
  refine r_aload_n (i := 1) dX3_copyFrom_84 rfl rfl ?_
  refine r_getI f_X3_31 dX3_copyFrom_85 rfl rfl ?_
  refine r_putI f_X3_31 rfl rfl dX3_copyFrom_88 rfl rfl ?_
  replace h := lt_some h
  refine r_vret dX3_copyFrom_91 ?_
  cases h
  exact ⟨rfl, rfl, rfl⟩
def f_J7_fill_53178_61_l5 : Nat → Int32 → Int32 → Int32 → mI → mL → rV
  | 0, _, _, _, _, _ => none
  | n + 1, x1, x2, x3, I, L => if x3 ≤ x2 then (some (I, L)) else (ck (inb x2 81) (lt (uI I 61 x2.toNatClampNeg x1) (fun M1 => lt (x2 + Int32.ofInt 1) (fun v2 => f_J7_fill_53178_61_l5 n x1 v2 x3 M1 L))))
theorem ok_J7_fill_53178_61_l5 {d : Nat} (hd : 0 ≤ d) : ∀ (n : Nat) (x1 : Int32) (x2 : Int32) (x3 : Int32) (I : mI) (L : mL) (o : mI × mL), f_J7_fill_53178_61_l5 n x1 x2 x3 I L = some o → RR mJ7_fill_53178 d 5 [some (.ref 61), some (.int x1), some (.int x2), some (.int x3)] [] I L (retQ none o.1 o.2) := by
  intro n
  induction n with
  | zero => intro x1 x2 x3 I L o h; rw [f_J7_fill_53178_61_l5] at h; cases h
  | succ n ih =>
    intro x1 x2 x3 I L o h
    rw [f_J7_fill_53178_61_l5] at h
    refine r_iload_n (i := 2) dJ7_fill_53178_5 rfl rfl ?_
    refine r_iload_n (i := 3) dJ7_fill_53178_6 rfl rfl ?_
    refine r_icmp_ge (tgt := 20) dJ7_fill_53178_7 (by decide) (fun c => ?_) (fun c => ?_)
    · rw [if_pos c] at h
      refine r_vret dJ7_fill_53178_20 ?_
      cases h
      exact ⟨rfl, rfl, rfl⟩
    · rw [if_neg c] at h
      refine r_aload_n (i := 0) dJ7_fill_53178_10 rfl rfl ?_
      refine r_iload_n (i := 2) dJ7_fill_53178_11 rfl rfl ?_
      refine r_iload_n (i := 1) dJ7_fill_53178_12 rfl rfl ?_
      obtain ⟨hb, h⟩ := ck_some h
      refine r_iast rfl (inb_vp hb) dJ7_fill_53178_13 ?_
      replace h := lt_some h
      refine r_iinc (v := _) dJ7_fill_53178_14 rfl rfl (by decide) rfl ?_
      simp only [List.set_cons_zero, List.set_cons_succ]
      replace h := lt_some h
      refine r_goto (tgt := 5) dJ7_fill_53178_17 (by decide) ?_
      exact ih _ _ _ _ _ _ h
def f_J7_fill_53178_61 (I : mI) (L : mL) (a1 : Int32) : rV := f_J7_fill_53178_61_l5 fuel a1 0 81 I L
theorem ok_J7_fill_53178_61 {d : Nat} (hd : 0 ≤ d) {I : mI} {L : mL} {a1 : Int32} {o : mI × mL} (h : f_J7_fill_53178_61 I L a1 = some o) : RR mJ7_fill_53178 d 0 [some (.ref 61), some (.int a1), none, none] [] I L (retQ none o.1 o.2) := by
  unfold f_J7_fill_53178_61 at h
  refine r_iconst (v := 0) dJ7_fill_53178_0 (by decide) ?_
  refine r_istore_n (i := 2) dJ7_fill_53178_1 rfl (by decide) rfl ?_
  simp only [List.set_cons_zero, List.set_cons_succ]
  refine r_aload_n (i := 0) dJ7_fill_53178_2 rfl rfl ?_
  refine r_alenI (v := 81) rfl (by decide) dJ7_fill_53178_3 ?_
  refine r_istore_n (i := 3) dJ7_fill_53178_4 rfl (by decide) rfl ?_
  simp only [List.set_cons_zero, List.set_cons_succ]
  exact ok_J7_fill_53178_61_l5 hd _ _ _ _ _ _ _ h
def f_J6_bitCount_0f7a4 (I : mI) (L : mL) (a0 : Int32) : Option Int32 := lt (a0 - (((a0.toUInt32 >>> (1.toUInt32 &&& Int32.toUInt32 31)).toInt32) &&& 1431655765)) (fun v1 => lt ((v1 &&& 858993459) + (((v1.toUInt32 >>> (2.toUInt32 &&& Int32.toUInt32 31)).toInt32) &&& 858993459)) (fun v2 => lt ((v2 + ((v2.toUInt32 >>> (4.toUInt32 &&& Int32.toUInt32 31)).toInt32)) &&& 252645135) (fun v3 => lt (v3 + ((v3.toUInt32 >>> (8.toUInt32 &&& Int32.toUInt32 31)).toInt32)) (fun v4 => lt (v4 + ((v4.toUInt32 >>> (16.toUInt32 &&& Int32.toUInt32 31)).toInt32)) (fun v5 => some (v5 &&& 63))))))
theorem ok_J6_bitCount_0f7a4 {d : Nat} (hd : 0 ≤ d) {I : mI} {L : mL} {a0 : Int32} {o : Int32} (h : f_J6_bitCount_0f7a4 I L a0 = some o) : RR mJ6_bitCount_0f7a4 d 0 [some (.int a0)] [] I L (retQ (some (.int o)) I L) := by
  unfold f_J6_bitCount_0f7a4 at h
  refine r_iload_n (i := 0) dJ6_bitCount_0f7a4_0 rfl rfl ?_
  refine r_iload_n (i := 0) dJ6_bitCount_0f7a4_1 rfl rfl ?_
  refine r_iconst (v := 1) dJ6_bitCount_0f7a4_2 (by decide) ?_
  refine r_iushr dJ6_bitCount_0f7a4_3 ?_
  refine r_ldcw n_J6_265 dJ6_bitCount_0f7a4_4 ?_
  refine r_iand dJ6_bitCount_0f7a4_7 ?_
  refine r_isub dJ6_bitCount_0f7a4_8 ?_
  refine r_istore_n (i := 0) dJ6_bitCount_0f7a4_9 rfl (by decide) rfl ?_
  simp only [List.set_cons_zero, List.set_cons_succ]
  replace h := lt_some h
  refine r_iload_n (i := 0) dJ6_bitCount_0f7a4_10 rfl rfl ?_
  refine r_ldcw n_J6_266 dJ6_bitCount_0f7a4_11 ?_
  refine r_iand dJ6_bitCount_0f7a4_14 ?_
  refine r_iload_n (i := 0) dJ6_bitCount_0f7a4_15 rfl rfl ?_
  refine r_iconst (v := 2) dJ6_bitCount_0f7a4_16 (by decide) ?_
  refine r_iushr dJ6_bitCount_0f7a4_17 ?_
  refine r_ldcw n_J6_266 dJ6_bitCount_0f7a4_18 ?_
  refine r_iand dJ6_bitCount_0f7a4_21 ?_
  refine r_iadd dJ6_bitCount_0f7a4_22 ?_
  refine r_istore_n (i := 0) dJ6_bitCount_0f7a4_23 rfl (by decide) rfl ?_
  simp only [List.set_cons_zero, List.set_cons_succ]
  replace h := lt_some h
  refine r_iload_n (i := 0) dJ6_bitCount_0f7a4_24 rfl rfl ?_
  refine r_iload_n (i := 0) dJ6_bitCount_0f7a4_25 rfl rfl ?_
  refine r_iconst (v := 4) dJ6_bitCount_0f7a4_26 (by decide) ?_
  refine r_iushr dJ6_bitCount_0f7a4_27 ?_
  refine r_iadd dJ6_bitCount_0f7a4_28 ?_
  refine r_ldcw n_J6_267 dJ6_bitCount_0f7a4_29 ?_
  refine r_iand dJ6_bitCount_0f7a4_32 ?_
  refine r_istore_n (i := 0) dJ6_bitCount_0f7a4_33 rfl (by decide) rfl ?_
  simp only [List.set_cons_zero, List.set_cons_succ]
  replace h := lt_some h
  refine r_iload_n (i := 0) dJ6_bitCount_0f7a4_34 rfl rfl ?_
  refine r_iload_n (i := 0) dJ6_bitCount_0f7a4_35 rfl rfl ?_
  refine r_bipush (v := 8) dJ6_bitCount_0f7a4_36 (by decide) ?_
  refine r_iushr dJ6_bitCount_0f7a4_38 ?_
  refine r_iadd dJ6_bitCount_0f7a4_39 ?_
  refine r_istore_n (i := 0) dJ6_bitCount_0f7a4_40 rfl (by decide) rfl ?_
  simp only [List.set_cons_zero, List.set_cons_succ]
  replace h := lt_some h
  refine r_iload_n (i := 0) dJ6_bitCount_0f7a4_41 rfl rfl ?_
  refine r_iload_n (i := 0) dJ6_bitCount_0f7a4_42 rfl rfl ?_
  refine r_bipush (v := 16) dJ6_bitCount_0f7a4_43 (by decide) ?_
  refine r_iushr dJ6_bitCount_0f7a4_45 ?_
  refine r_iadd dJ6_bitCount_0f7a4_46 ?_
  refine r_istore_n (i := 0) dJ6_bitCount_0f7a4_47 rfl (by decide) rfl ?_
  simp only [List.set_cons_zero, List.set_cons_succ]
  replace h := lt_some h
  refine r_iload_n (i := 0) dJ6_bitCount_0f7a4_48 rfl rfl ?_
  refine r_bipush (v := 63) dJ6_bitCount_0f7a4_49 (by decide) ?_
  refine r_iand dJ6_bitCount_0f7a4_51 ?_
  refine r_iret (by first | rfl | decide) dJ6_bitCount_0f7a4_52 ?_
  cases h
  exact ⟨rfl, rfl, rfl⟩
end
