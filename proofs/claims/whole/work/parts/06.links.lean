/-! LINKS: by their places in the tables -/
theorem tc1 {w : Cond} {i : Nat} (h : tables_1_1[i]? = some w) (g : goodWord w = true) : w ∈ TB := List.mem_filter.mpr ⟨List.mem_append_right _ (show w ∈ tables_1 from List.mem_append_left _ (List.mem_of_getElem? h)), g⟩
theorem tc2 {w : Cond} {i : Nat} (h : tables_1_2[i]? = some w) (g : goodWord w = true) : w ∈ TB := List.mem_filter.mpr ⟨List.mem_append_right _ (show w ∈ tables_1 from List.mem_append_right _ (List.mem_append_left _ (List.mem_of_getElem? h))), g⟩
theorem tc3 {w : Cond} {i : Nat} (h : tables_1_3[i]? = some w) (g : goodWord w = true) : w ∈ TB := List.mem_filter.mpr ⟨List.mem_append_right _ (show w ∈ tables_1 from List.mem_append_right _ (List.mem_append_right _ (List.mem_append_left _ (List.mem_of_getElem? h)))), g⟩
theorem tc4 {w : Cond} {i : Nat} (h : tables_1_4[i]? = some w) (g : goodWord w = true) : w ∈ TB := List.mem_filter.mpr ⟨List.mem_append_right _ (show w ∈ tables_1 from List.mem_append_right _ (List.mem_append_right _ (List.mem_append_right _ (List.mem_append_left _ (List.mem_of_getElem? h))))), g⟩
theorem tc5 {w : Cond} {i : Nat} (h : tables_1_5[i]? = some w) (g : goodWord w = true) : w ∈ TB := List.mem_filter.mpr ⟨List.mem_append_right _ (show w ∈ tables_1 from List.mem_append_right _ (List.mem_append_right _ (List.mem_append_right _ (List.mem_append_right _ (List.mem_append_left _ (List.mem_of_getElem? h)))))), g⟩
theorem tc6 {w : Cond} {i : Nat} (h : tables_1_6[i]? = some w) (g : goodWord w = true) : w ∈ TB := List.mem_filter.mpr ⟨List.mem_append_right _ (show w ∈ tables_1 from List.mem_append_right _ (List.mem_append_right _ (List.mem_append_right _ (List.mem_append_right _ (List.mem_append_right _ (List.mem_append_left _ (List.mem_of_getElem? h))))))), g⟩
theorem tc7 {w : Cond} {i : Nat} (h : tables_1_7[i]? = some w) (g : goodWord w = true) : w ∈ TB := List.mem_filter.mpr ⟨List.mem_append_right _ (show w ∈ tables_1 from List.mem_append_right _ (List.mem_append_right _ (List.mem_append_right _ (List.mem_append_right _ (List.mem_append_right _ (List.mem_append_right _ (List.mem_of_getElem? h))))))), g⟩
def codes_1 : List Cond := [(Cond.code ({ cls := "ParishPull", name := "<init>", desc := "()V" } : MethodName) prog_1_method_1_code (1 : Nat) (Option.none : Option FieldType)), (Cond.code ({ cls := "java/lang/Object", name := "<init>", desc := "()V" } : MethodName) object_method_1_code (1 : Nat) (Option.none : Option FieldType)), (Cond.code ({ cls := "ParishPull$State", name := "<init>", desc := "()V" } : MethodName) prog_9_method_1_code (1 : Nat) (Option.none : Option FieldType)), (Cond.code ({ cls := "ParishPull$Ground", name := "<init>", desc := "()V" } : MethodName) prog_5_method_1_code (1 : Nat) (Option.none : Option FieldType)), (Cond.code ({ cls := "ParishPull$Tape", name := "<init>", desc := "()V" } : MethodName) prog_10_method_1_code (1 : Nat) (Option.none : Option FieldType)), (Cond.code ({ cls := "ParishPull$Sheets", name := "<init>", desc := "()V" } : MethodName) prog_8_method_1_code (1 : Nat) (Option.none : Option FieldType)), (Cond.code ({ cls := "ParishPull$Routes", name := "<init>", desc := "(LParishPull$State;)V" } : MethodName) prog_7_method_1_code (2 : Nat) (Option.none : Option FieldType))]
set_option maxRecDepth 100000 in
theorem codes_1_ok : tables_1_1.filter k2_isCode = codes_1 := rfl
theorem tcc1 {w : Cond} {i : Nat} (h : codes_1[i]? = some w) (g : goodWord w = true) : w ∈ TB := by
  have h1 := List.mem_of_getElem? h
  rw [← codes_1_ok] at h1
  obtain ⟨j, hj⟩ := List.getElem?_of_mem (List.mem_filter.mp h1).1
  exact tc1 hj g
def codes_2 : List Cond := [(Cond.code ({ cls := "ParishPull$Trades", name := "<init>", desc := "(LParishPull$State;LParishPull$Routes;)V" } : MethodName) prog_11_method_1_code (3 : Nat) (Option.none : Option FieldType)), (Cond.code ({ cls := "ParishPull$Councils", name := "<init>", desc := "(LParishPull$State;LParishPull$Routes;)V" } : MethodName) prog_4_method_1_code (3 : Nat) (Option.none : Option FieldType)), (Cond.code ({ cls := "ParishPull$Leagues", name := "<init>", desc := "(LParishPull$State;LParishPull$Routes;)V" } : MethodName) prog_6_method_1_code (3 : Nat) (Option.none : Option FieldType)), (Cond.code ({ cls := "ParishPull$Book", name := "<init>", desc := "()V" } : MethodName) prog_3_method_1_code (1 : Nat) (Option.none : Option FieldType)), (Cond.code ({ cls := "ParishPull", name := "parish", desc := "(I)I" } : MethodName) prog_1_method_2_code (2 : Nat) (Option.some FieldType.int)), (Cond.code ({ cls := "ParishPull", name := "within", desc := "(III)Z" } : MethodName) prog_1_method_39_code (3 : Nat) (Option.some FieldType.boolean)), (Cond.code ({ cls := "ParishPull$Ground", name := "addParish", desc := "(I)I" } : MethodName) prog_5_method_7_code (4 : Nat) (Option.some FieldType.int)), (Cond.code ({ cls := "ParishPull", name := "pull", desc := "(III)I" } : MethodName) prog_1_method_3_code (5 : Nat) (Option.some FieldType.int)), (Cond.code ({ cls := "ParishPull$Ground", name := "hasParish", desc := "(I)Z" } : MethodName) prog_5_method_4_code (2 : Nat) (Option.some FieldType.boolean)), (Cond.code ({ cls := "ParishPull", name := "road", desc := "(III)I" } : MethodName) prog_1_method_4_code (4 : Nat) (Option.some FieldType.int)), (Cond.code ({ cls := "ParishPull$Ground", name := "joins", desc := "(II)Z" } : MethodName) prog_5_method_9_code (4 : Nat) (Option.some FieldType.boolean)), (Cond.code ({ cls := "java/lang/Math", name := "min", desc := "(II)I" } : MethodName) prog_16_method_69_code (2 : Nat) (Option.some FieldType.int)), (Cond.code ({ cls := "java/lang/Math", name := "max", desc := "(II)I" } : MethodName) prog_16_method_65_code (2 : Nat) (Option.some FieldType.int)), (Cond.code ({ cls := "ParishPull$Ground", name := "addRoad", desc := "(III)I" } : MethodName) prog_5_method_8_code (5 : Nat) (Option.some FieldType.int)), (Cond.code ({ cls := "ParishPull", name := "toll", desc := "(II)I" } : MethodName) prog_1_method_5_code (4 : Nat) (Option.some FieldType.int)), (Cond.code ({ cls := "ParishPull$Ground", name := "hasRoad", desc := "(I)Z" } : MethodName) prog_5_method_5_code (2 : Nat) (Option.some FieldType.boolean)), (Cond.code ({ cls := "ParishPull", name := "cart", desc := "(II)I" } : MethodName) prog_1_method_6_code (3 : Nat) (Option.some FieldType.int)), (Cond.code ({ cls := "ParishPull$State", name := "addCart", desc := "(II)I" } : MethodName) prog_9_method_8_code (3 : Nat) (Option.some FieldType.int)), (Cond.code ({ cls := "ParishPull", name := "good", desc := "(III)I" } : MethodName) prog_1_method_7_code (4 : Nat) (Option.some FieldType.int)), (Cond.code ({ cls := "ParishPull$State", name := "addGood", desc := "(III)I" } : MethodName) prog_9_method_9_code (4 : Nat) (Option.some FieldType.int)), (Cond.code ({ cls := "ParishPull", name := "hang", desc := "(II)I" } : MethodName) prog_1_method_8_code (4 : Nat) (Option.some FieldType.int)), (Cond.code ({ cls := "ParishPull$State", name := "hasGood", desc := "(I)Z" } : MethodName) prog_9_method_7_code (2 : Nat) (Option.some FieldType.boolean)), (Cond.code ({ cls := "ParishPull$State", name := "weightOfGood", desc := "(I)I" } : MethodName) prog_9_method_5_code (2 : Nat) (Option.some FieldType.int)), (Cond.code ({ cls := "ParishPull$State", name := "weightAt", desc := "(II)I" } : MethodName) prog_9_method_4_code (3 : Nat) (Option.some FieldType.int)), (Cond.code ({ cls := "ParishPull$State", name := "season", desc := "()I" } : MethodName) prog_9_method_3_code (1 : Nat) (Option.some FieldType.int)), (Cond.code ({ cls := "ParishPull$State", name := "seasonOf", desc := "(I)I" } : MethodName) prog_9_method_2_code (1 : Nat) (Option.some FieldType.int)), (Cond.code ({ cls := "ParishPull$Ground", name := "weight", desc := "(III)I" } : MethodName) prog_5_method_2_code (3 : Nat) (Option.some FieldType.int))]
set_option maxRecDepth 100000 in
theorem codes_2_ok : tables_1_2.filter k2_isCode = codes_2 := rfl
theorem tcc2 {w : Cond} {i : Nat} (h : codes_2[i]? = some w) (g : goodWord w = true) : w ∈ TB := by
  have h1 := List.mem_of_getElem? h
  rw [← codes_2_ok] at h1
  obtain ⟨j, hj⟩ := List.getElem?_of_mem (List.mem_filter.mp h1).1
  exact tc2 hj g
def codes_3 : List Cond := [(Cond.code ({ cls := "ParishPull", name := "person", desc := "(II)I" } : MethodName) prog_1_method_9_code (3 : Nat) (Option.some FieldType.int)), (Cond.code ({ cls := "ParishPull$State", name := "addPerson", desc := "(II)I" } : MethodName) prog_9_method_10_code (3 : Nat) (Option.some FieldType.int)), (Cond.code ({ cls := "ParishPull", name := "of", desc := "(II)I" } : MethodName) prog_1_method_10_code (3 : Nat) (Option.some FieldType.int)), (Cond.code ({ cls := "ParishPull$Ground", name := "roadsAt", desc := "(I)I" } : MethodName) prog_5_method_10_code (4 : Nat) (Option.some FieldType.int)), (Cond.code ({ cls := "ParishPull$Ground", name := "otherEnd", desc := "(II)I" } : MethodName) prog_5_method_11_code (3 : Nat) (Option.some FieldType.int)), (Cond.code ({ cls := "ParishPull", name := "setThere", desc := "([III)I" } : MethodName) prog_1_method_41_code (5 : Nat) (Option.some FieldType.int)), (Cond.code ({ cls := "ParishPull", name := "told", desc := "(II)I" } : MethodName) prog_1_method_11_code (3 : Nat) (Option.some FieldType.int)), (Cond.code ({ cls := "ParishPull", name := "toldOfRoad", desc := "(II)I" } : MethodName) prog_1_method_42_code (3 : Nat) (Option.some FieldType.int)), (Cond.code ({ cls := "ParishPull", name := "toldOfCart", desc := "(II)I" } : MethodName) prog_1_method_43_code (3 : Nat) (Option.some FieldType.int)), (Cond.code ({ cls := "ParishPull$State", name := "hasCart", desc := "(I)Z" } : MethodName) prog_9_method_6_code (2 : Nat) (Option.some FieldType.boolean)), (Cond.code ({ cls := "ParishPull", name := "toldOfGood", desc := "(II)I" } : MethodName) prog_1_method_44_code (3 : Nat) (Option.some FieldType.int)), (Cond.code ({ cls := "ParishPull", name := "toldOfPerson", desc := "(II)I" } : MethodName) prog_1_method_45_code (3 : Nat) (Option.some FieldType.int)), (Cond.code ({ cls := "ParishPull", name := "weighs", desc := "(II)I" } : MethodName) prog_1_method_12_code (3 : Nat) (Option.some FieldType.int)), (Cond.code ({ cls := "ParishPull", name := "type", desc := "(I)I" } : MethodName) prog_1_method_13_code (2 : Nat) (Option.some FieldType.int)), (Cond.code ({ cls := "ParishPull$Tape", name := "isFull", desc := "()Z" } : MethodName) prog_10_method_2_code (1 : Nat) (Option.some FieldType.boolean)), (Cond.code ({ cls := "ParishPull$Tape", name := "add", desc := "(I)I" } : MethodName) prog_10_method_3_code (2 : Nat) (Option.some FieldType.int)), (Cond.code ({ cls := "ParishPull", name := "land", desc := "()I" } : MethodName) prog_1_method_14_code (3 : Nat) (Option.some FieldType.int)), (Cond.code ({ cls := "ParishPull$Tape", name := "read", desc := "()Z" } : MethodName) prog_10_method_5_code (1 : Nat) (Option.some FieldType.boolean)), (Cond.code ({ cls := "ParishPull$Ground", name := "clear", desc := "()V" } : MethodName) prog_5_method_3_code (1 : Nat) (Option.none : Option FieldType)), (Cond.code ({ cls := "ParishPull$Tape", name := "readParishes", desc := "()Z" } : MethodName) prog_10_method_6_code (2 : Nat) (Option.some FieldType.boolean)), (Cond.code ({ cls := "ParishPull$Tape", name := "readParish", desc := "()Z" } : MethodName) prog_10_method_7_code (5 : Nat) (Option.some FieldType.boolean)), (Cond.code ({ cls := "ParishPull$Tape", name := "skipBlanks", desc := "()V" } : MethodName) prog_10_method_10_code (1 : Nat) (Option.none : Option FieldType)), (Cond.code ({ cls := "java/lang/String", name := "indexOf", desc := "(I)I" } : MethodName) prog_17_method_79_code (2 : Nat) (Option.some FieldType.int)), (Cond.code ({ cls := "java/lang/String", name := "indexOf", desc := "(II)I" } : MethodName) prog_17_method_80_code (3 : Nat) (Option.some FieldType.int)), (Cond.code ({ cls := "java/lang/String", name := "isLatin1", desc := "()Z" } : MethodName) prog_17_method_154_code (1 : Nat) (Option.some FieldType.boolean)), (Cond.code ({ cls := "java/lang/String", name := "length", desc := "()I" } : MethodName) prog_17_method_54_code (1 : Nat) (Option.some FieldType.int)), (Cond.code ({ cls := "java/lang/String", name := "coder", desc := "()B" } : MethodName) prog_17_method_152_code (1 : Nat) (Option.some FieldType.byte)), (Cond.code ({ cls := "java/lang/StringLatin1", name := "indexOf", desc := "([BIII)I" } : MethodName) prog_18_method_22_code (4 : Nat) (Option.some FieldType.int)), (Cond.code ({ cls := "java/lang/StringLatin1", name := "canEncode", desc := "(I)Z" } : MethodName) prog_18_method_4_code (1 : Nat) (Option.some FieldType.boolean)), (Cond.code ({ cls := "java/lang/StringLatin1", name := "indexOfChar", desc := "([BIII)I" } : MethodName) prog_18_method_23_code (6 : Nat) (Option.some FieldType.int)), (Cond.code ({ cls := "java/lang/StringUTF16", name := "indexOf", desc := "([BIII)I" } : MethodName) prog_19_method_40_code (4 : Nat) (Option.some FieldType.int)), (Cond.code ({ cls := "java/lang/StringUTF16", name := "indexOfChar", desc := "([BIII)I" } : MethodName) prog_19_method_47_code (4 : Nat) (Option.some FieldType.int)), (Cond.code ({ cls := "java/lang/StringUTF16", name := "checkBoundsBeginEnd", desc := "(II[B)V" } : MethodName) prog_19_method_93_code (3 : Nat) (Option.none : Option FieldType)), (Cond.code ({ cls := "java/lang/StringUTF16", name := "length", desc := "([B)I" } : MethodName) prog_19_method_6_code (1 : Nat) (Option.some FieldType.int)), (Cond.code ({ cls := "java/lang/String", name := "checkBoundsBeginEnd", desc := "(III)V" } : MethodName) prog_17_method_158_code (3 : Nat) (Option.none : Option FieldType)), (Cond.code ({ cls := "jdk/internal/util/Preconditions", name := "checkFromToIndex", desc := "(IIILjava/util/function/BiFunction;)I" } : MethodName) prog_22_method_12_code (4 : Nat) (Option.some FieldType.int)), (Cond.code ({ cls := "java/lang/StringUTF16", name := "indexOfCharUnsafe", desc := "([BIII)I" } : MethodName) prog_19_method_48_code (5 : Nat) (Option.some FieldType.int)), (Cond.code ({ cls := "java/lang/StringUTF16", name := "getChar", desc := "([BI)C" } : MethodName) prog_19_method_5_code (2 : Nat) (Option.some FieldType.char)), (Cond.code ({ cls := "java/lang/StringUTF16", name := "indexOfSupplementary", desc := "([BIII)I" } : MethodName) prog_19_method_49_code (7 : Nat) (Option.some FieldType.int)), (Cond.code ({ cls := "java/lang/Character", name := "isValidCodePoint", desc := "(I)Z" } : MethodName) prog_14_method_11_code (2 : Nat) (Option.some FieldType.boolean)), (Cond.code ({ cls := "java/lang/Character", name := "highSurrogate", desc := "(I)C" } : MethodName) prog_14_method_28_code (1 : Nat) (Option.some FieldType.char)), (Cond.code ({ cls := "java/lang/Character", name := "lowSurrogate", desc := "(I)C" } : MethodName) prog_14_method_29_code (1 : Nat) (Option.some FieldType.char)), (Cond.code ({ cls := "ParishPull$Tape", name := "digit", desc := "(II)I" } : MethodName) prog_10_method_12_code (4 : Nat) (Option.some FieldType.int)), (Cond.code ({ cls := "ParishPull$Tape", name := "takes", desc := "(C)Z" } : MethodName) prog_10_method_11_code (2 : Nat) (Option.some FieldType.boolean)), (Cond.code ({ cls := "ParishPull$Tape", name := "readRoads", desc := "()Z" } : MethodName) prog_10_method_8_code (2 : Nat) (Option.some FieldType.boolean)), (Cond.code ({ cls := "ParishPull$Tape", name := "readRoad", desc := "()Z" } : MethodName) prog_10_method_9_code (4 : Nat) (Option.some FieldType.boolean)), (Cond.code ({ cls := "ParishPull$Tape", name := "clear", desc := "()V" } : MethodName) prog_10_method_4_code (1 : Nat) (Option.none : Option FieldType)), (Cond.code ({ cls := "ParishPull$State", name := "settle", desc := "(LParishPull$Ground;)V" } : MethodName) prog_9_method_16_code (2 : Nat) (Option.none : Option FieldType)), (Cond.code ({ cls := "ParishPull$Ground", name := "copyFrom", desc := "(LParishPull$Ground;)V" } : MethodName) prog_5_method_12_code (2 : Nat) (Option.none : Option FieldType)), (Cond.code ({ cls := "ParishPull", name := "count", desc := "(I)I" } : MethodName) prog_1_method_15_code (2 : Nat) (Option.some FieldType.int)), (Cond.code ({ cls := "ParishPull$State", name := "hanging", desc := "()I" } : MethodName) prog_9_method_11_code (3 : Nat) (Option.some FieldType.int)), (Cond.code ({ cls := "ParishPull", name := "weeks", desc := "(I)I" } : MethodName) prog_1_method_16_code (4 : Nat) (Option.some FieldType.int)), (Cond.code ({ cls := "ParishPull$State", name := "passWeek", desc := "()I" } : MethodName) prog_9_method_12_code (4 : Nat) (Option.some FieldType.int)), (Cond.code ({ cls := "ParishPull$State", name := "lighterParish", desc := "(I)I" } : MethodName) prog_9_method_13_code (8 : Nat) (Option.some FieldType.int)), (Cond.code ({ cls := "ParishPull", name := "way", desc := "(IIIII)I" } : MethodName) prog_1_method_17_code (6 : Nat) (Option.some FieldType.int)), (Cond.code ({ cls := "ParishPull$Routes", name := "harness", desc := "(I)V" } : MethodName) prog_7_method_2_code (6 : Nat) (Option.none : Option FieldType)), (Cond.code ({ cls := "java/util/Arrays", name := "fill", desc := "([II)V" } : MethodName) prog_21_method_103_code (4 : Nat) (Option.none : Option FieldType))]
set_option maxRecDepth 100000 in
theorem codes_3_ok : tables_1_3.filter k2_isCode = codes_3 := rfl
theorem tcc3 {w : Cond} {i : Nat} (h : codes_3[i]? = some w) (g : goodWord w = true) : w ∈ TB := by
  have h1 := List.mem_of_getElem? h
  rw [← codes_3_ok] at h1
  obtain ⟨j, hj⟩ := List.getElem?_of_mem (List.mem_filter.mp h1).1
  exact tc3 hj g
def codes_4 : List Cond := [(Cond.code ({ cls := "ParishPull$Routes", name := "weigh", desc := "(I)V" } : MethodName) prog_7_method_3_code (3 : Nat) (Option.none : Option FieldType)), (Cond.code ({ cls := "ParishPull$Routes", name := "trace", desc := "(II)Z" } : MethodName) prog_7_method_14_code (6 : Nat) (Option.some FieldType.boolean)), (Cond.code ({ cls := "ParishPull$Routes", name := "spreadAll", desc := "()V" } : MethodName) prog_7_method_13_code (2 : Nat) (Option.none : Option FieldType)), (Cond.code ({ cls := "ParishPull$Routes", name := "spread", desc := "(I)V" } : MethodName) prog_7_method_4_code (4 : Nat) (Option.none : Option FieldType)), (Cond.code ({ cls := "ParishPull$Routes", name := "start", desc := "(I)V" } : MethodName) prog_7_method_7_code (3 : Nat) (Option.none : Option FieldType)), (Cond.code ({ cls := "ParishPull$Routes", name := "nearest", desc := "()I" } : MethodName) prog_7_method_9_code (4 : Nat) (Option.some FieldType.int)), (Cond.code ({ cls := "ParishPull$Routes", name := "leave", desc := "(I)V" } : MethodName) prog_7_method_10_code (4 : Nat) (Option.none : Option FieldType)), (Cond.code ({ cls := "ParishPull$Routes", name := "roadCost", desc := "(II)I" } : MethodName) prog_7_method_11_code (4 : Nat) (Option.some FieldType.int)), (Cond.code ({ cls := "ParishPull$Routes", name := "findNext", desc := "(I)V" } : MethodName) prog_7_method_15_code (5 : Nat) (Option.none : Option FieldType)), (Cond.code ({ cls := "ParishPull$Routes", name := "firstStep", desc := "(III)I" } : MethodName) prog_7_method_16_code (6 : Nat) (Option.some FieldType.int)), (Cond.code ({ cls := "ParishPull$Routes", name := "reaches", desc := "(III)Z" } : MethodName) prog_7_method_17_code (7 : Nat) (Option.some FieldType.boolean)), (Cond.code ({ cls := "ParishPull", name := "net", desc := "(III)I" } : MethodName) prog_1_method_18_code (4 : Nat) (Option.some FieldType.int)), (Cond.code ({ cls := "ParishPull", name := "market", desc := "(II)I" } : MethodName) prog_1_method_19_code (4 : Nat) (Option.some FieldType.int)), (Cond.code ({ cls := "ParishPull$Routes", name := "marketOf", desc := "(I)I" } : MethodName) prog_7_method_6_code (2 : Nat) (Option.some FieldType.int)), (Cond.code ({ cls := "ParishPull$Routes", name := "bestPlace", desc := "(II)I" } : MethodName) prog_7_method_5_code (8 : Nat) (Option.some FieldType.int)), (Cond.code ({ cls := "ParishPull$Routes", name := "heaviestOpen", desc := "()I" } : MethodName) prog_7_method_8_code (3 : Nat) (Option.some FieldType.int)), (Cond.code ({ cls := "ParishPull", name := "trade", desc := "(III)I" } : MethodName) prog_1_method_20_code (5 : Nat) (Option.some FieldType.int)), (Cond.code ({ cls := "ParishPull$Trades", name := "best", desc := "(II)I" } : MethodName) prog_11_method_2_code (7 : Nat) (Option.some FieldType.int)), (Cond.code ({ cls := "ParishPull$Trades", name := "findValues", desc := "(II)V" } : MethodName) prog_11_method_4_code (4 : Nat) (Option.none : Option FieldType)), (Cond.code ({ cls := "ParishPull$Routes", name := "leads", desc := "(II)Z" } : MethodName) prog_7_method_12_code (3 : Nat) (Option.some FieldType.boolean)), (Cond.code ({ cls := "ParishPull", name := "scales", desc := "(II)I" } : MethodName) prog_1_method_21_code (3 : Nat) (Option.some FieldType.int)), (Cond.code ({ cls := "ParishPull$Trades", name := "law", desc := "(II)I" } : MethodName) prog_11_method_3_code (6 : Nat) (Option.some FieldType.int)), (Cond.code ({ cls := "ParishPull$Trades", name := "findGains", desc := "(I)V" } : MethodName) prog_11_method_5_code (5 : Nat) (Option.none : Option FieldType)), (Cond.code ({ cls := "java/lang/Integer", name := "bitCount", desc := "(I)I" } : MethodName) prog_15_method_49_code (1 : Nat) (Option.some FieldType.int)), (Cond.code ({ cls := "ParishPull$Trades", name := "endsGains", desc := "(I)Z" } : MethodName) prog_11_method_6_code (4 : Nat) (Option.some FieldType.boolean)), (Cond.code ({ cls := "ParishPull", name := "take", desc := "(II)I" } : MethodName) prog_1_method_22_code (3 : Nat) (Option.some FieldType.int)), (Cond.code ({ cls := "ParishPull$Councils", name := "takeOf", desc := "(II)I" } : MethodName) prog_4_method_2_code (5 : Nat) (Option.some FieldType.int)), (Cond.code ({ cls := "ParishPull", name := "councils", desc := "(IIII)I" } : MethodName) prog_1_method_23_code (5 : Nat) (Option.some FieldType.int)), (Cond.code ({ cls := "ParishPull$Councils", name := "findRests", desc := "(III)V" } : MethodName) prog_4_method_3_code (5 : Nat) (Option.none : Option FieldType)), (Cond.code ({ cls := "ParishPull$Councils", name := "addTakes", desc := "(III)V" } : MethodName) prog_4_method_4_code (7 : Nat) (Option.none : Option FieldType)), (Cond.code ({ cls := "ParishPull$Councils", name := "most", desc := "([III)I" } : MethodName) prog_4_method_5_code (5 : Nat) (Option.some FieldType.int)), (Cond.code ({ cls := "ParishPull", name := "league", desc := "(II)I" } : MethodName) prog_1_method_24_code (3 : Nat) (Option.some FieldType.int)), (Cond.code ({ cls := "ParishPull$Ground", name := "hasSet", desc := "(I)Z" } : MethodName) prog_5_method_6_code (2 : Nat) (Option.some FieldType.boolean)), (Cond.code ({ cls := "ParishPull$Leagues", name := "worth", desc := "(II)I" } : MethodName) prog_6_method_2_code (4 : Nat) (Option.some FieldType.int)), (Cond.code ({ cls := "ParishPull$Leagues", name := "addTotal", desc := "(II)V" } : MethodName) prog_6_method_5_code (3 : Nat) (Option.none : Option FieldType)), (Cond.code ({ cls := "ParishPull", name := "upper", desc := "(III)J" } : MethodName) prog_1_method_25_code (4 : Nat) (Option.some FieldType.long)), (Cond.code ({ cls := "ParishPull", name := "isMember", desc := "(II)Z" } : MethodName) prog_1_method_40_code (3 : Nat) (Option.some FieldType.boolean)), (Cond.code ({ cls := "ParishPull$Leagues", name := "findPart", desc := "(III)V" } : MethodName) prog_6_method_3_code (10 : Nat) (Option.none : Option FieldType)), (Cond.code ({ cls := "ParishPull$Leagues", name := "findTotals", desc := "(II)V" } : MethodName) prog_6_method_4_code (5 : Nat) (Option.none : Option FieldType)), (Cond.code ({ cls := "ParishPull$Leagues", name := "commonDivisor", desc := "(JJ)J" } : MethodName) prog_6_method_6_code (11 : Nat) (Option.some FieldType.long)), (Cond.code ({ cls := "ParishPull", name := "lower", desc := "(III)J" } : MethodName) prog_1_method_26_code (4 : Nat) (Option.some FieldType.long)), (Cond.code ({ cls := "ParishPull", name := "change", desc := "(III)I" } : MethodName) prog_1_method_27_code (4 : Nat) (Option.some FieldType.int)), (Cond.code ({ cls := "ParishPull$State", name := "wouldFall", desc := "(II)I" } : MethodName) prog_9_method_14_code (5 : Nat) (Option.some FieldType.int)), (Cond.code ({ cls := "ParishPull$State", name := "wouldBeLighter", desc := "(II)I" } : MethodName) prog_9_method_15_code (6 : Nat) (Option.some FieldType.int)), (Cond.code ({ cls := "ParishPull", name := "well", desc := "(II)I" } : MethodName) prog_1_method_28_code (3 : Nat) (Option.some FieldType.int)), (Cond.code ({ cls := "ParishPull", name := "image", desc := "()I" } : MethodName) prog_1_method_29_code (1 : Nat) (Option.some FieldType.int)), (Cond.code ({ cls := "ParishPull$State", name := "copyFrom", desc := "(LParishPull$State;)V" } : MethodName) prog_9_method_17_code (2 : Nat) (Option.none : Option FieldType)), (Cond.code ({ cls := "ParishPull", name := "restore", desc := "()I" } : MethodName) prog_1_method_30_code (1 : Nat) (Option.some FieldType.int)), (Cond.code ({ cls := "ParishPull", name := "beam", desc := "(IIIIIII)I" } : MethodName) prog_1_method_31_code (12 : Nat) (Option.some FieldType.int)), (Cond.code ({ cls := "ParishPull$Sheets", name := "isLane", desc := "(II)Z" } : MethodName) prog_8_method_3_code (2 : Nat) (Option.some FieldType.boolean)), (Cond.code ({ cls := "ParishPull$Sheets", name := "isSheet", desc := "(I)Z" } : MethodName) prog_8_method_2_code (1 : Nat) (Option.some FieldType.boolean)), (Cond.code ({ cls := "ParishPull$Sheets", name := "fault", desc := "(IIII)I" } : MethodName) prog_8_method_5_code (5 : Nat) (Option.some FieldType.int)), (Cond.code ({ cls := "ParishPull$Sheets", name := "isMissing", desc := "(I)Z" } : MethodName) prog_8_method_4_code (2 : Nat) (Option.some FieldType.boolean))]
set_option maxRecDepth 100000 in
theorem codes_4_ok : tables_1_4.filter k2_isCode = codes_4 := rfl
theorem tcc4 {w : Cond} {i : Nat} (h : codes_4[i]? = some w) (g : goodWord w = true) : w ∈ TB := by
  have h1 := List.mem_of_getElem? h
  rw [← codes_4_ok] at h1
  obtain ⟨j, hj⟩ := List.getElem?_of_mem (List.mem_filter.mp h1).1
  exact tc4 hj g
def codes_5 : List Cond := [(Cond.code ({ cls := "ParishPull$Sheets", name := "holds", desc := "(III)Z" } : MethodName) prog_8_method_6_code (4 : Nat) (Option.some FieldType.boolean)), (Cond.code ({ cls := "ParishPull$Beam", name := "areStones", desc := "([JII)Z" } : MethodName) prog_2_method_2_code (6 : Nat) (Option.some FieldType.boolean)), (Cond.code ({ cls := "ParishPull$Beam", name := "turning", desc := "(LParishPull$State;II[JII)I" } : MethodName) prog_2_method_3_code (9 : Nat) (Option.some FieldType.int)), (Cond.code ({ cls := "ParishPull$Beam", name := "fewest", desc := "(III)I" } : MethodName) prog_2_method_4_code (7 : Nat) (Option.some FieldType.int)), (Cond.code ({ cls := "ParishPull$Beam", name := "stonesFor", desc := "(I)I" } : MethodName) prog_2_method_5_code (1 : Nat) (Option.some FieldType.int)), (Cond.code ({ cls := "ParishPull", name := "book", desc := "(IIIIIIII)I" } : MethodName) prog_1_method_32_code (11 : Nat) (Option.some FieldType.int)), (Cond.code ({ cls := "ParishPull$Book", name := "open", desc := "(III)V" } : MethodName) prog_3_method_2_code (4 : Nat) (Option.none : Option FieldType)), (Cond.code ({ cls := "ParishPull$Book", name := "readItems", desc := "([JII)I" } : MethodName) prog_3_method_3_code (6 : Nat) (Option.some FieldType.int)), (Cond.code ({ cls := "ParishPull$Book", name := "pullsFor", desc := "(J)I" } : MethodName) prog_3_method_6_code (5 : Nat) (Option.some FieldType.int)), (Cond.code ({ cls := "ParishPull$Book", name := "fittingRows", desc := "()I" } : MethodName) prog_3_method_4_code (3 : Nat) (Option.some FieldType.int)), (Cond.code ({ cls := "ParishPull$Book", name := "sureSeasons", desc := "()I" } : MethodName) prog_3_method_5_code (3 : Nat) (Option.some FieldType.int)), (Cond.code ({ cls := "ParishPull", name := "mills", desc := "(IIII)I" } : MethodName) prog_1_method_33_code (11 : Nat) (Option.some FieldType.int)), (Cond.code ({ cls := "ParishPull", name := "film", desc := "(III)I" } : MethodName) prog_1_method_34_code (6 : Nat) (Option.some FieldType.int)), (Cond.code ({ cls := "ParishPull$Sheets", name := "put", desc := "(IIJ)V" } : MethodName) prog_8_method_9_code (5 : Nat) (Option.none : Option FieldType)), (Cond.code ({ cls := "ParishPull", name := "sheet", desc := "(III)I" } : MethodName) prog_1_method_35_code (4 : Nat) (Option.some FieldType.int)), (Cond.code ({ cls := "ParishPull$Sheets", name := "renew", desc := "(III)V" } : MethodName) prog_8_method_7_code (4 : Nat) (Option.none : Option FieldType)), (Cond.code ({ cls := "java/util/Arrays", name := "fill", desc := "([JJ)V" } : MethodName) prog_21_method_101_code (5 : Nat) (Option.none : Option FieldType)), (Cond.code ({ cls := "ParishPull", name := "drop", desc := "(I)I" } : MethodName) prog_1_method_36_code (2 : Nat) (Option.some FieldType.int)), (Cond.code ({ cls := "ParishPull$Sheets", name := "empty", desc := "(I)I" } : MethodName) prog_8_method_8_code (2 : Nat) (Option.some FieldType.int)), (Cond.code ({ cls := "ParishPull", name := "item", desc := "(IIIJ)I" } : MethodName) prog_1_method_37_code (7 : Nat) (Option.some FieldType.int)), (Cond.code ({ cls := "ParishPull", name := "copy", desc := "(IIIII)I" } : MethodName) prog_1_method_38_code (6 : Nat) (Option.some FieldType.int)), (Cond.code ({ cls := "ParishPullModel", name := "<init>", desc := "()V" } : MethodName) prog_13_method_1_code (2 : Nat) (Option.none : Option FieldType)), (Cond.code ({ cls := "ParishPullModel", name := "parish", desc := "(I)I" } : MethodName) prog_13_method_14_code (2 : Nat) (Option.some FieldType.int)), (Cond.code ({ cls := "ParishPullModel", name := "in", desc := "(JJJ)Z" } : MethodName) prog_13_method_3_code (6 : Nat) (Option.some FieldType.boolean)), (Cond.code ({ cls := "ParishPullModel", name := "joins", desc := "(I)I" } : MethodName) prog_13_method_13_code (4 : Nat) (Option.some FieldType.int)), (Cond.code ({ cls := "ParishPullModel", name := "pull", desc := "(III)I" } : MethodName) prog_13_method_15_code (5 : Nat) (Option.some FieldType.int)), (Cond.code ({ cls := "ParishPullModel", name := "isParish", desc := "(I)Z" } : MethodName) prog_13_method_4_code (2 : Nat) (Option.some FieldType.boolean)), (Cond.code ({ cls := "ParishPullModel", name := "road", desc := "(III)I" } : MethodName) prog_13_method_17_code (5 : Nat) (Option.some FieldType.int)), (Cond.code ({ cls := "ParishPullModel", name := "roadOf", desc := "(II)I" } : MethodName) prog_13_method_16_code (6 : Nat) (Option.some FieldType.int)), (Cond.code ({ cls := "ParishPullModel", name := "toll", desc := "(II)I" } : MethodName) prog_13_method_18_code (4 : Nat) (Option.some FieldType.int)), (Cond.code ({ cls := "ParishPullModel", name := "isRoad", desc := "(I)Z" } : MethodName) prog_13_method_5_code (2 : Nat) (Option.some FieldType.boolean)), (Cond.code ({ cls := "ParishPullModel", name := "cart", desc := "(II)I" } : MethodName) prog_13_method_19_code (4 : Nat) (Option.some FieldType.int)), (Cond.code ({ cls := "ParishPullModel", name := "good", desc := "(III)I" } : MethodName) prog_13_method_20_code (5 : Nat) (Option.some FieldType.int)), (Cond.code ({ cls := "ParishPullModel", name := "hang", desc := "(II)I" } : MethodName) prog_13_method_21_code (4 : Nat) (Option.some FieldType.int)), (Cond.code ({ cls := "ParishPullModel", name := "isGood", desc := "(I)Z" } : MethodName) prog_13_method_7_code (2 : Nat) (Option.some FieldType.boolean)), (Cond.code ({ cls := "ParishPullModel", name := "weight", desc := "(II)I" } : MethodName) prog_13_method_12_code (3 : Nat) (Option.some FieldType.int)), (Cond.code ({ cls := "ParishPullModel", name := "season", desc := "()I" } : MethodName) prog_13_method_10_code (1 : Nat) (Option.some FieldType.int)), (Cond.code ({ cls := "ParishPullModel", name := "weightBy", desc := "(III)I" } : MethodName) prog_13_method_11_code (4 : Nat) (Option.some FieldType.int)), (Cond.code ({ cls := "ParishPullModel", name := "person", desc := "(II)I" } : MethodName) prog_13_method_22_code (4 : Nat) (Option.some FieldType.int)), (Cond.code ({ cls := "ParishPullModel", name := "of", desc := "(II)I" } : MethodName) prog_13_method_23_code (5 : Nat) (Option.some FieldType.int)), (Cond.code ({ cls := "ParishPullModel", name := "told", desc := "(II)I" } : MethodName) prog_13_method_24_code (5 : Nat) (Option.some FieldType.int)), (Cond.code ({ cls := "ParishPullModel", name := "isCart", desc := "(I)Z" } : MethodName) prog_13_method_6_code (2 : Nat) (Option.some FieldType.boolean))]
set_option maxRecDepth 100000 in
theorem codes_5_ok : tables_1_5.filter k2_isCode = codes_5 := rfl
theorem tcc5 {w : Cond} {i : Nat} (h : codes_5[i]? = some w) (g : goodWord w = true) : w ∈ TB := by
  have h1 := List.mem_of_getElem? h
  rw [← codes_5_ok] at h1
  obtain ⟨j, hj⟩ := List.getElem?_of_mem (List.mem_filter.mp h1).1
  exact tc5 hj g
def codes_6 : List Cond := [(Cond.code ({ cls := "ParishPullModel", name := "isPerson", desc := "(I)Z" } : MethodName) prog_13_method_8_code (2 : Nat) (Option.some FieldType.boolean)), (Cond.code ({ cls := "ParishPullModel", name := "weighs", desc := "(II)I" } : MethodName) prog_13_method_25_code (3 : Nat) (Option.some FieldType.int)), (Cond.code ({ cls := "ParishPullModel", name := "type", desc := "(I)I" } : MethodName) prog_13_method_26_code (2 : Nat) (Option.some FieldType.int)), (Cond.code ({ cls := "ParishPullModel", name := "land", desc := "()I" } : MethodName) prog_13_method_34_code (3 : Nat) (Option.some FieldType.int)), (Cond.code ({ cls := "ParishPullModel", name := "reads", desc := "()Z" } : MethodName) prog_13_method_33_code (2 : Nat) (Option.some FieldType.boolean)), (Cond.code ({ cls := "ParishPullModel", name := "readsParish", desc := "()Z" } : MethodName) prog_13_method_31_code (4 : Nat) (Option.some FieldType.boolean)), (Cond.code ({ cls := "ParishPullModel", name := "next", desc := "()I" } : MethodName) prog_13_method_27_code (1 : Nat) (Option.some FieldType.int)), (Cond.code ({ cls := "ParishPullModel", name := "kindOf", desc := "(I)I" } : MethodName) prog_13_method_30_code (1 : Nat) (Option.some FieldType.int)), (Cond.code ({ cls := "ParishPullModel", name := "isDigit", desc := "(II)Z" } : MethodName) prog_13_method_28_code (3 : Nat) (Option.some FieldType.boolean)), (Cond.code ({ cls := "ParishPullModel", name := "digit", desc := "()I" } : MethodName) prog_13_method_29_code (2 : Nat) (Option.some FieldType.int)), (Cond.code ({ cls := "ParishPullModel", name := "readsRoad", desc := "()Z" } : MethodName) prog_13_method_32_code (5 : Nat) (Option.some FieldType.boolean)), (Cond.code ({ cls := "ParishPullModel", name := "count", desc := "(I)I" } : MethodName) prog_13_method_35_code (4 : Nat) (Option.some FieldType.int)), (Cond.code ({ cls := "ParishPullModel", name := "weeks", desc := "(I)I" } : MethodName) prog_13_method_37_code (7 : Nat) (Option.some FieldType.int)), (Cond.code ({ cls := "ParishPullModel", name := "goes", desc := "(I)I" } : MethodName) prog_13_method_36_code (7 : Nat) (Option.some FieldType.int)), (Cond.code ({ cls := "ParishPullModel", name := "way", desc := "(IIIII)I" } : MethodName) prog_13_method_42_code (6 : Nat) (Option.some FieldType.int)), (Cond.code ({ cls := "ParishPullModel", name := "layWays", desc := "(III)V" } : MethodName) prog_13_method_40_code (9 : Nat) (Option.none : Option FieldType)), (Cond.code ({ cls := "ParishPullModel", name := "bears", desc := "(III)Z" } : MethodName) prog_13_method_39_code (4 : Nat) (Option.some FieldType.boolean)), (Cond.code ({ cls := "ParishPullModel", name := "costOf", desc := "(IIIII)I" } : MethodName) prog_13_method_38_code (8 : Nat) (Option.some FieldType.int)), (Cond.code ({ cls := "ParishPullModel", name := "layPath", desc := "(IIII)I" } : MethodName) prog_13_method_41_code (13 : Nat) (Option.some FieldType.int)), (Cond.code ({ cls := "ParishPullModel", name := "net", desc := "(III)I" } : MethodName) prog_13_method_44_code (5 : Nat) (Option.some FieldType.int)), (Cond.code ({ cls := "ParishPullModel", name := "netOf", desc := "(II)I" } : MethodName) prog_13_method_43_code (4 : Nat) (Option.some FieldType.int)), (Cond.code ({ cls := "ParishPullModel", name := "market", desc := "(II)I" } : MethodName) prog_13_method_46_code (3 : Nat) (Option.some FieldType.int)), (Cond.code ({ cls := "ParishPullModel", name := "marketOf", desc := "(III)I" } : MethodName) prog_13_method_45_code (7 : Nat) (Option.some FieldType.int)), (Cond.code ({ cls := "ParishPullModel", name := "trade", desc := "(III)I" } : MethodName) prog_13_method_47_code (10 : Nat) (Option.some FieldType.int)), (Cond.code ({ cls := "ParishPullModel", name := "isTwo", desc := "(I)Z" } : MethodName) prog_13_method_9_code (1 : Nat) (Option.some FieldType.boolean)), (Cond.code ({ cls := "ParishPullModel", name := "scales", desc := "(II)I" } : MethodName) prog_13_method_51_code (6 : Nat) (Option.some FieldType.int)), (Cond.code ({ cls := "ParishPullModel", name := "bits", desc := "(I)I" } : MethodName) prog_13_method_48_code (3 : Nat) (Option.some FieldType.int)), (Cond.code ({ cls := "ParishPullModel", name := "isEnded", desc := "(II)Z" } : MethodName) prog_13_method_50_code (6 : Nat) (Option.some FieldType.boolean)), (Cond.code ({ cls := "ParishPullModel", name := "paid", desc := "(III)I" } : MethodName) prog_13_method_49_code (4 : Nat) (Option.some FieldType.int)), (Cond.code ({ cls := "ParishPullModel", name := "take", desc := "(II)I" } : MethodName) prog_13_method_53_code (3 : Nat) (Option.some FieldType.int)), (Cond.code ({ cls := "ParishPullModel", name := "takeOf", desc := "(II)I" } : MethodName) prog_13_method_52_code (5 : Nat) (Option.some FieldType.int)), (Cond.code ({ cls := "ParishPullModel", name := "councils", desc := "(IIII)I" } : MethodName) prog_13_method_54_code (14 : Nat) (Option.some FieldType.int)), (Cond.code ({ cls := "ParishPullModel", name := "league", desc := "(II)I" } : MethodName) prog_13_method_57_code (3 : Nat) (Option.some FieldType.int)), (Cond.code ({ cls := "ParishPullModel", name := "isSet", desc := "(I)Z" } : MethodName) prog_13_method_56_code (2 : Nat) (Option.some FieldType.boolean)), (Cond.code ({ cls := "ParishPullModel", name := "worthOf", desc := "(II)I" } : MethodName) prog_13_method_55_code (6 : Nat) (Option.some FieldType.int)), (Cond.code ({ cls := "ParishPullModel", name := "upper", desc := "(III)J" } : MethodName) prog_13_method_60_code (4 : Nat) (Option.some FieldType.long)), (Cond.code ({ cls := "ParishPullModel", name := "layPart", desc := "(III)Z" } : MethodName) prog_13_method_59_code (11 : Nat) (Option.some FieldType.boolean)), (Cond.code ({ cls := "ParishPullModel", name := "orders", desc := "(I)J" } : MethodName) prog_13_method_58_code (4 : Nat) (Option.some FieldType.long)), (Cond.code ({ cls := "ParishPullModel", name := "lower", desc := "(III)J" } : MethodName) prog_13_method_61_code (4 : Nat) (Option.some FieldType.long)), (Cond.code ({ cls := "ParishPullModel", name := "change", desc := "(III)I" } : MethodName) prog_13_method_62_code (8 : Nat) (Option.some FieldType.int)), (Cond.code ({ cls := "ParishPullModel", name := "well", desc := "(II)I" } : MethodName) prog_13_method_63_code (4 : Nat) (Option.some FieldType.int)), (Cond.code ({ cls := "ParishPullModel", name := "image", desc := "()I" } : MethodName) prog_13_method_64_code (2 : Nat) (Option.some FieldType.int)), (Cond.code ({ cls := "ParishPullModel", name := "restore", desc := "()I" } : MethodName) prog_13_method_65_code (2 : Nat) (Option.some FieldType.int)), (Cond.code ({ cls := "ParishPullModel", name := "beam", desc := "(IIIIIII)I" } : MethodName) prog_13_method_70_code (15 : Nat) (Option.some FieldType.int)), (Cond.code ({ cls := "ParishPullModel", name := "isSheet", desc := "(I)Z" } : MethodName) prog_13_method_66_code (1 : Nat) (Option.some FieldType.boolean)), (Cond.code ({ cls := "ParishPullModel", name := "isLane", desc := "(I)Z" } : MethodName) prog_13_method_67_code (1 : Nat) (Option.some FieldType.boolean)), (Cond.code ({ cls := "ParishPullModel", name := "finds", desc := "(IIII)I" } : MethodName) prog_13_method_68_code (5 : Nat) (Option.some FieldType.int)), (Cond.code ({ cls := "ParishPullModel", name := "evens", desc := "(III)I" } : MethodName) prog_13_method_69_code (10 : Nat) (Option.some FieldType.int)), (Cond.code ({ cls := "ParishPullModel", name := "book", desc := "(IIIIIIII)I" } : MethodName) prog_13_method_72_code (14 : Nat) (Option.some FieldType.int)), (Cond.code ({ cls := "ParishPullModel", name := "layBook", desc := "(IIIII)I" } : MethodName) prog_13_method_71_code (12 : Nat) (Option.some FieldType.int)), (Cond.code ({ cls := "ParishPullModel", name := "mills", desc := "(IIII)I" } : MethodName) prog_13_method_73_code (12 : Nat) (Option.some FieldType.int)), (Cond.code ({ cls := "ParishPullModel", name := "film", desc := "(III)I" } : MethodName) prog_13_method_75_code (6 : Nat) (Option.some FieldType.int)), (Cond.code ({ cls := "ParishPullModel", name := "cut", desc := "(IJ)J" } : MethodName) prog_13_method_74_code (3 : Nat) (Option.some FieldType.long)), (Cond.code ({ cls := "ParishPullModel", name := "sheet", desc := "(III)I" } : MethodName) prog_13_method_76_code (5 : Nat) (Option.some FieldType.int)), (Cond.code ({ cls := "ParishPullModel", name := "drop", desc := "(I)I" } : MethodName) prog_13_method_77_code (3 : Nat) (Option.some FieldType.int)), (Cond.code ({ cls := "ParishPullModel", name := "item", desc := "(IIIJ)I" } : MethodName) prog_13_method_78_code (7 : Nat) (Option.some FieldType.int)), (Cond.code ({ cls := "ParishPullModel", name := "copy", desc := "(IIIII)I" } : MethodName) prog_13_method_79_code (10 : Nat) (Option.some FieldType.int))]
set_option maxRecDepth 100000 in
theorem codes_6_ok : tables_1_6.filter k2_isCode = codes_6 := rfl
theorem tcc6 {w : Cond} {i : Nat} (h : codes_6[i]? = some w) (g : goodWord w = true) : w ∈ TB := by
  have h1 := List.mem_of_getElem? h
  rw [← codes_6_ok] at h1
  obtain ⟨j, hj⟩ := List.getElem?_of_mem (List.mem_filter.mp h1).1
  exact tc6 hj g
def codes_7 : List Cond := []
set_option maxRecDepth 100000 in
theorem codes_7_ok : tables_1_7.filter k2_isCode = codes_7 := rfl
theorem tcc7 {w : Cond} {i : Nat} (h : codes_7[i]? = some w) (g : goodWord w = true) : w ∈ TB := by
  have h1 := List.mem_of_getElem? h
  rw [← codes_7_ok] at h1
  obtain ⟨j, hj⟩ := List.getElem?_of_mem (List.mem_filter.mp h1).1
  exact tc7 hj g
theorem all_in {ws : List Cond} (ps : List Nat) (h1 : ws = ps.filterMap (fun i => lw_tbl[i]?)) (h2 : ws.all goodWord = true) : ∀ w ∈ ws, w ∈ TB := by
  intro w hw
  refine List.mem_filter.mpr ⟨?_, List.all_eq_true.mp h2 w hw⟩
  rw [h1] at hw
  obtain ⟨i, -, hi⟩ := List.mem_filterMap.mp hw
  exact List.mem_of_getElem? hi
/-- a call's site: of a static method, of an instance method -/
def CS (own : String) (index : Nat) (M : mM) (n : Nat) : Prop := ∃ y : MethodName, MI y M n ∧ Cond.methodLink own index y ∈ TB ∧ Cond.static y ∈ TB
def CT (own : String) (index : Nat) (M : mM) (n : Nat) : Prop := ∃ y : MethodName, MI y M n ∧ Cond.methodLink own index y ∈ TB ∧ Cond.instanceMethod y ∈ TB ∧ Cond.selects y.cls y y ∈ TB ∧ y.cls = RJ0
def CV (own : String) (index : Nat) (M : mM) (n ci : Nat) : Prop := ∃ (y : MethodName) (T : u_T) (N : Nat), MI y M n ∧ Cond.methodLink own index y ∈ TB ∧ Cond.instanceMethod y ∈ TB ∧ Cond.selects y.cls y y ∈ TB ∧ classesX[ci]? = some (y.cls, T, N)
theorem inBX1 : ∀ w ∈ u_ws RX1 TX1 4, w ∈ TB := all_in [411, 413, 415, 417] (by decide +kernel) (by decide +kernel)
theorem inBX2 : ∀ w ∈ u_ws RX2 TX2 6, w ∈ TB := all_in [364, 366, 368, 370, 372, 374] (by decide +kernel) (by decide +kernel)
theorem inBX3 : ∀ w ∈ u_ws RX3 TX3 7, w ∈ TB := all_in [126, 128, 130, 132, 134, 136, 138] (by decide +kernel) (by decide +kernel)
theorem inBX4 : ∀ w ∈ u_ws RX4 TX4 5, w ∈ TB := all_in [390, 392, 394, 396, 398] (by decide +kernel) (by decide +kernel)
theorem inBX5 : ∀ w ∈ u_ws RX5 TX5 14, w ∈ TB := all_in [292, 294, 296, 298, 300, 302, 304, 306, 308, 310, 312, 314, 316, 318] (by decide +kernel) (by decide +kernel)
theorem inBX6 : ∀ w ∈ u_ws RX6 TX6 4, w ∈ TB := all_in [250, 252, 254, 256] (by decide +kernel) (by decide +kernel)
theorem inBX7 : ∀ w ∈ u_ws RX7 TX7 13, w ∈ TB := all_in [185, 187, 189, 191, 193, 195, 197, 199, 201, 203, 205, 207, 209] (by decide +kernel) (by decide +kernel)
theorem inBX8 : ∀ w ∈ u_ws RX8 TX8 4, w ∈ TB := all_in [226, 228, 230, 232] (by decide +kernel) (by decide +kernel)
theorem inBX9 : ∀ w ∈ u_ws RX9 TX9 7, w ∈ TB := all_in [335, 337, 339, 341, 343, 345, 347] (by decide +kernel) (by decide +kernel)
theorem inBX10 : ∀ w ∈ u_ws RX10 TX10 10, w ∈ TB := all_in [430, 432, 434, 436, 438, 440, 442, 444, 446, 448] (by decide +kernel) (by decide +kernel)
theorem inBX11 : ∀ w ∈ u_ws RX11 TX11 18, w ∈ TB := all_in [1135, 1137, 1139, 1141, 1143, 1145, 1147, 1149, 1151, 1153, 1155, 1157, 1159, 1161, 1163, 1165, 1167, 1169] (by decide +kernel) (by decide +kernel)
theorem f_X3_9 : FL RX3 9 2 0 (.array .int) true := ⟨RX3, TX3, 7, tyX3, rfl, inBX3, by decide, tb (i := 101) (by decide +kernel) rfl, tyX3_ok, nmX3, rfl, rfl⟩
theorem f_X7_51 : FL RX7 51 2 0 (.array .int) true := ⟨RX3, TX3, 7, tyX3, rfl, inBX3, by decide, tb (i := 102) (by decide +kernel) rfl, tyX3_ok, nmX3, rfl, rfl⟩
theorem f_X2_75 : FL RX2 75 2 0 (.array .int) true := ⟨RX3, TX3, 7, tyX3, rfl, inBX3, by decide, tb (i := 103) (by decide +kernel) rfl, tyX3_ok, nmX3, rfl, rfl⟩
theorem f_X10_143 : FL RX10 143 2 0 (.array .int) true := ⟨RX3, TX3, 7, tyX3, rfl, inBX3, by decide, tb (i := 104) (by decide +kernel) rfl, tyX3_ok, nmX3, rfl, rfl⟩
theorem f_X3_15 : FL RX3 15 2 1 (.array .int) true := ⟨RX3, TX3, 7, tyX3, rfl, inBX3, by decide, tb (i := 105) (by decide +kernel) rfl, tyX3_ok, nmX3, rfl, rfl⟩
theorem f_X10_94 : FL RX10 94 2 1 (.array .int) true := ⟨RX3, TX3, 7, tyX3, rfl, inBX3, by decide, tb (i := 106) (by decide +kernel) rfl, tyX3_ok, nmX3, rfl, rfl⟩
theorem f_X7_54 : FL RX7 54 2 1 (.array .int) true := ⟨RX3, TX3, 7, tyX3, rfl, inBX3, by decide, tb (i := 107) (by decide +kernel) rfl, tyX3_ok, nmX3, rfl, rfl⟩
theorem f_X8_64 : FL RX8 64 2 1 (.array .int) true := ⟨RX3, TX3, 7, tyX3, rfl, inBX3, by decide, tb (i := 108) (by decide +kernel) rfl, tyX3_ok, nmX3, rfl, rfl⟩
theorem f_X3_18 : FL RX3 18 2 2 (.array .int) true := ⟨RX3, TX3, 7, tyX3, rfl, inBX3, by decide, tb (i := 109) (by decide +kernel) rfl, tyX3_ok, nmX3, rfl, rfl⟩
theorem f_X5_69 : FL RX5 69 2 2 (.array .int) true := ⟨RX3, TX3, 7, tyX3, rfl, inBX3, by decide, tb (i := 110) (by decide +kernel) rfl, tyX3_ok, nmX3, rfl, rfl⟩
theorem f_X10_380 : FL RX10 380 2 2 (.array .int) true := ⟨RX3, TX3, 7, tyX3, rfl, inBX3, by decide, tb (i := 111) (by decide +kernel) rfl, tyX3_ok, nmX3, rfl, rfl⟩
theorem f_X3_21 : FL RX3 21 2 3 (.array .int) true := ⟨RX3, TX3, 7, tyX3, rfl, inBX3, by decide, tb (i := 112) (by decide +kernel) rfl, tyX3_ok, nmX3, rfl, rfl⟩
theorem f_X5_72 : FL RX5 72 2 3 (.array .int) true := ⟨RX3, TX3, 7, tyX3, rfl, inBX3, by decide, tb (i := 113) (by decide +kernel) rfl, tyX3_ok, nmX3, rfl, rfl⟩
theorem f_X10_383 : FL RX10 383 2 3 (.array .int) true := ⟨RX3, TX3, 7, tyX3, rfl, inBX3, by decide, tb (i := 114) (by decide +kernel) rfl, tyX3_ok, nmX3, rfl, rfl⟩
theorem f_X3_24 : FL RX3 24 2 4 (.array .int) true := ⟨RX3, TX3, 7, tyX3, rfl, inBX3, by decide, tb (i := 115) (by decide +kernel) rfl, tyX3_ok, nmX3, rfl, rfl⟩
theorem f_X5_75 : FL RX5 75 2 4 (.array .int) true := ⟨RX3, TX3, 7, tyX3, rfl, inBX3, by decide, tb (i := 116) (by decide +kernel) rfl, tyX3_ok, nmX3, rfl, rfl⟩
theorem f_X10_112 : FL RX10 112 2 4 (.array .int) true := ⟨RX3, TX3, 7, tyX3, rfl, inBX3, by decide, tb (i := 117) (by decide +kernel) rfl, tyX3_ok, nmX3, rfl, rfl⟩
theorem f_X5_40 : FL RX5 40 2 5 .int false := ⟨RX3, TX3, 7, tyX3, rfl, inBX3, by decide, tb (i := 118) (by decide +kernel) rfl, tyX3_ok, nmX3, rfl, rfl⟩
theorem f_X10_80 : FL RX10 80 2 5 .int false := ⟨RX3, TX3, 7, tyX3, rfl, inBX3, by decide, tb (i := 119) (by decide +kernel) rfl, tyX3_ok, nmX3, rfl, rfl⟩
theorem f_X3_27 : FL RX3 27 2 5 .int false := ⟨RX3, TX3, 7, tyX3, rfl, inBX3, by decide, tb (i := 120) (by decide +kernel) rfl, tyX3_ok, nmX3, rfl, rfl⟩
theorem f_X8_71 : FL RX8 71 2 5 .int false := ⟨RX3, TX3, 7, tyX3, rfl, inBX3, by decide, tb (i := 121) (by decide +kernel) rfl, tyX3_ok, nmX3, rfl, rfl⟩
theorem f_X5_66 : FL RX5 66 2 6 .int false := ⟨RX3, TX3, 7, tyX3, rfl, inBX3, by decide, tb (i := 122) (by decide +kernel) rfl, tyX3_ok, nmX3, rfl, rfl⟩
theorem f_X3_31 : FL RX3 31 2 6 .int false := ⟨RX3, TX3, 7, tyX3, rfl, inBX3, by decide, tb (i := 123) (by decide +kernel) rfl, tyX3_ok, nmX3, rfl, rfl⟩
theorem f_X10_102 : FL RX10 102 2 6 .int false := ⟨RX3, TX3, 7, tyX3, rfl, inBX3, by decide, tb (i := 124) (by decide +kernel) rfl, tyX3_ok, nmX3, rfl, rfl⟩
theorem f_X7_84 : FL RX7 84 2 6 .int false := ⟨RX3, TX3, 7, tyX3, rfl, inBX3, by decide, tb (i := 125) (by decide +kernel) rfl, tyX3_ok, nmX3, rfl, rfl⟩
theorem f_X7_12 : FL RX7 12 6 0 (.object "ParishPull$Ground") true := ⟨RX7, TX7, 13, tyX7, rfl, inBX7, by decide, tb (i := 142) (by decide +kernel) rfl, tyX7_ok, nmX7, rfl, rfl⟩
theorem f_X5_34 : FL RX5 34 6 0 (.object "ParishPull$Ground") true := ⟨RX7, TX7, 13, tyX7, rfl, inBX7, by decide, tb (i := 143) (by decide +kernel) rfl, tyX7_ok, nmX7, rfl, rfl⟩
theorem f_X10_76 : FL RX10 76 6 0 (.object "ParishPull$Ground") true := ⟨RX7, TX7, 13, tyX7, rfl, inBX7, by decide, tb (i := 144) (by decide +kernel) rfl, tyX7_ok, nmX7, rfl, rfl⟩
theorem f_X2_71 : FL RX2 71 6 0 (.object "ParishPull$Ground") true := ⟨RX7, TX7, 13, tyX7, rfl, inBX7, by decide, tb (i := 145) (by decide +kernel) rfl, tyX7_ok, nmX7, rfl, rfl⟩
theorem f_X7_18 : FL RX7 18 6 1 (.array .int) true := ⟨RX7, TX7, 13, tyX7, rfl, inBX7, by decide, tb (i := 146) (by decide +kernel) rfl, tyX7_ok, nmX7, rfl, rfl⟩
theorem f_X5_47 : FL RX5 47 6 1 (.array .int) true := ⟨RX7, TX7, 13, tyX7, rfl, inBX7, by decide, tb (i := 147) (by decide +kernel) rfl, tyX7_ok, nmX7, rfl, rfl⟩
theorem f_X10_386 : FL RX10 386 6 1 (.array .int) true := ⟨RX7, TX7, 13, tyX7, rfl, inBX7, by decide, tb (i := 148) (by decide +kernel) rfl, tyX7_ok, nmX7, rfl, rfl⟩
theorem f_X7_22 : FL RX7 22 6 2 (.array .int) true := ⟨RX7, TX7, 13, tyX7, rfl, inBX7, by decide, tb (i := 149) (by decide +kernel) rfl, tyX7_ok, nmX7, rfl, rfl⟩
theorem f_X5_53 : FL RX5 53 6 2 (.array .int) true := ⟨RX7, TX7, 13, tyX7, rfl, inBX7, by decide, tb (i := 150) (by decide +kernel) rfl, tyX7_ok, nmX7, rfl, rfl⟩
theorem f_X10_389 : FL RX10 389 6 2 (.array .int) true := ⟨RX7, TX7, 13, tyX7, rfl, inBX7, by decide, tb (i := 151) (by decide +kernel) rfl, tyX7_ok, nmX7, rfl, rfl⟩
theorem f_X7_25 : FL RX7 25 6 3 (.array .int) true := ⟨RX7, TX7, 13, tyX7, rfl, inBX7, by decide, tb (i := 152) (by decide +kernel) rfl, tyX7_ok, nmX7, rfl, rfl⟩
theorem f_X4_35 : FL RX4 35 6 3 (.array .int) true := ⟨RX7, TX7, 13, tyX7, rfl, inBX7, by decide, tb (i := 153) (by decide +kernel) rfl, tyX7_ok, nmX7, rfl, rfl⟩
theorem f_X9_57 : FL RX9 57 6 3 (.array .int) true := ⟨RX7, TX7, 13, tyX7, rfl, inBX7, by decide, tb (i := 154) (by decide +kernel) rfl, tyX7_ok, nmX7, rfl, rfl⟩
theorem f_X2_62 : FL RX2 62 6 3 (.array .int) true := ⟨RX7, TX7, 13, tyX7, rfl, inBX7, by decide, tb (i := 155) (by decide +kernel) rfl, tyX7_ok, nmX7, rfl, rfl⟩
theorem f_X5_97 : FL RX5 97 6 3 (.array .int) true := ⟨RX7, TX7, 13, tyX7, rfl, inBX7, by decide, tb (i := 156) (by decide +kernel) rfl, tyX7_ok, nmX7, rfl, rfl⟩
theorem f_X10_233 : FL RX10 233 6 3 (.array .int) true := ⟨RX7, TX7, 13, tyX7, rfl, inBX7, by decide, tb (i := 157) (by decide +kernel) rfl, tyX7_ok, nmX7, rfl, rfl⟩
theorem f_X7_28 : FL RX7 28 6 4 (.array .int) true := ⟨RX7, TX7, 13, tyX7, rfl, inBX7, by decide, tb (i := 158) (by decide +kernel) rfl, tyX7_ok, nmX7, rfl, rfl⟩
theorem f_X9_52 : FL RX9 52 6 4 (.array .int) true := ⟨RX7, TX7, 13, tyX7, rfl, inBX7, by decide, tb (i := 159) (by decide +kernel) rfl, tyX7_ok, nmX7, rfl, rfl⟩
theorem f_X2_87 : FL RX2 87 6 4 (.array .int) true := ⟨RX7, TX7, 13, tyX7, rfl, inBX7, by decide, tb (i := 160) (by decide +kernel) rfl, tyX7_ok, nmX7, rfl, rfl⟩
theorem f_X4_81 : FL RX4 81 6 4 (.array .int) true := ⟨RX7, TX7, 13, tyX7, rfl, inBX7, by decide, tb (i := 161) (by decide +kernel) rfl, tyX7_ok, nmX7, rfl, rfl⟩
theorem f_X5_106 : FL RX5 106 6 4 (.array .int) true := ⟨RX7, TX7, 13, tyX7, rfl, inBX7, by decide, tb (i := 162) (by decide +kernel) rfl, tyX7_ok, nmX7, rfl, rfl⟩
theorem f_X10_244 : FL RX10 244 6 4 (.array .int) true := ⟨RX7, TX7, 13, tyX7, rfl, inBX7, by decide, tb (i := 163) (by decide +kernel) rfl, tyX7_ok, nmX7, rfl, rfl⟩
theorem f_X7_31 : FL RX7 31 6 5 (.array .int) true := ⟨RX7, TX7, 13, tyX7, rfl, inBX7, by decide, tb (i := 164) (by decide +kernel) rfl, tyX7_ok, nmX7, rfl, rfl⟩
theorem f_X2_84 : FL RX2 84 6 5 (.array .int) true := ⟨RX7, TX7, 13, tyX7, rfl, inBX7, by decide, tb (i := 165) (by decide +kernel) rfl, tyX7_ok, nmX7, rfl, rfl⟩
theorem f_X4_78 : FL RX4 78 6 5 (.array .int) true := ⟨RX7, TX7, 13, tyX7, rfl, inBX7, by decide, tb (i := 166) (by decide +kernel) rfl, tyX7_ok, nmX7, rfl, rfl⟩
theorem f_X5_103 : FL RX5 103 6 5 (.array .int) true := ⟨RX7, TX7, 13, tyX7, rfl, inBX7, by decide, tb (i := 167) (by decide +kernel) rfl, tyX7_ok, nmX7, rfl, rfl⟩
theorem f_X10_149 : FL RX10 149 6 5 (.array .int) true := ⟨RX7, TX7, 13, tyX7, rfl, inBX7, by decide, tb (i := 168) (by decide +kernel) rfl, tyX7_ok, nmX7, rfl, rfl⟩
theorem f_X7_34 : FL RX7 34 6 6 (.array .int) true := ⟨RX7, TX7, 13, tyX7, rfl, inBX7, by decide, tb (i := 169) (by decide +kernel) rfl, tyX7_ok, nmX7, rfl, rfl⟩
theorem f_X10_134 : FL RX10 134 6 6 (.array .int) true := ⟨RX7, TX7, 13, tyX7, rfl, inBX7, by decide, tb (i := 170) (by decide +kernel) rfl, tyX7_ok, nmX7, rfl, rfl⟩
theorem f_X7_37 : FL RX7 37 6 7 (.array .int) true := ⟨RX7, TX7, 13, tyX7, rfl, inBX7, by decide, tb (i := 171) (by decide +kernel) rfl, tyX7_ok, nmX7, rfl, rfl⟩
theorem f_X10_390 : FL RX10 390 6 7 (.array .int) true := ⟨RX7, TX7, 13, tyX7, rfl, inBX7, by decide, tb (i := 172) (by decide +kernel) rfl, tyX7_ok, nmX7, rfl, rfl⟩
theorem f_X7_40 : FL RX7 40 6 8 (.array .int) true := ⟨RX7, TX7, 13, tyX7, rfl, inBX7, by decide, tb (i := 173) (by decide +kernel) rfl, tyX7_ok, nmX7, rfl, rfl⟩
theorem f_X10_156 : FL RX10 156 6 8 (.array .int) true := ⟨RX7, TX7, 13, tyX7, rfl, inBX7, by decide, tb (i := 174) (by decide +kernel) rfl, tyX7_ok, nmX7, rfl, rfl⟩
theorem f_X7_69 : FL RX7 69 6 9 .int false := ⟨RX7, TX7, 13, tyX7, rfl, inBX7, by decide, tb (i := 175) (by decide +kernel) rfl, tyX7_ok, nmX7, rfl, rfl⟩
theorem f_X10_115 : FL RX10 115 6 9 .int false := ⟨RX7, TX7, 13, tyX7, rfl, inBX7, by decide, tb (i := 176) (by decide +kernel) rfl, tyX7_ok, nmX7, rfl, rfl⟩
theorem f_X2_32 : FL RX2 32 6 10 .int false := ⟨RX7, TX7, 13, tyX7, rfl, inBX7, by decide, tb (i := 177) (by decide +kernel) rfl, tyX7_ok, nmX7, rfl, rfl⟩
theorem f_X4_29 : FL RX4 29 6 10 .int false := ⟨RX7, TX7, 13, tyX7, rfl, inBX7, by decide, tb (i := 178) (by decide +kernel) rfl, tyX7_ok, nmX7, rfl, rfl⟩
theorem f_X7_72 : FL RX7 72 6 10 .int false := ⟨RX7, TX7, 13, tyX7, rfl, inBX7, by decide, tb (i := 179) (by decide +kernel) rfl, tyX7_ok, nmX7, rfl, rfl⟩
theorem f_X10_122 : FL RX10 122 6 10 .int false := ⟨RX7, TX7, 13, tyX7, rfl, inBX7, by decide, tb (i := 180) (by decide +kernel) rfl, tyX7_ok, nmX7, rfl, rfl⟩
theorem f_X10_137 : FL RX10 137 6 11 .int false := ⟨RX7, TX7, 13, tyX7, rfl, inBX7, by decide, tb (i := 181) (by decide +kernel) rfl, tyX7_ok, nmX7, rfl, rfl⟩
theorem f_X7_75 : FL RX7 75 6 11 .int false := ⟨RX7, TX7, 13, tyX7, rfl, inBX7, by decide, tb (i := 182) (by decide +kernel) rfl, tyX7_ok, nmX7, rfl, rfl⟩
theorem f_X7_43 : FL RX7 43 6 12 .int false := ⟨RX7, TX7, 13, tyX7, rfl, inBX7, by decide, tb (i := 183) (by decide +kernel) rfl, tyX7_ok, nmX7, rfl, rfl⟩
theorem f_X10_197 : FL RX10 197 6 12 .int false := ⟨RX7, TX7, 13, tyX7, rfl, inBX7, by decide, tb (i := 184) (by decide +kernel) rfl, tyX7_ok, nmX7, rfl, rfl⟩
theorem f_X8_11 : FL RX8 11 7 0 (.array .char) true := ⟨RX8, TX8, 4, tyX8, rfl, inBX8, by decide, tb (i := 220) (by decide +kernel) rfl, tyX8_ok, nmX8, rfl, rfl⟩
theorem f_X8_18 : FL RX8 18 7 1 (.object "ParishPull$Ground") true := ⟨RX8, TX8, 4, tyX8, rfl, inBX8, by decide, tb (i := 221) (by decide +kernel) rfl, tyX8_ok, nmX8, rfl, rfl⟩
theorem f_X10_190 : FL RX10 190 7 1 (.object "ParishPull$Ground") true := ⟨RX8, TX8, 4, tyX8, rfl, inBX8, by decide, tb (i := 222) (by decide +kernel) rfl, tyX8_ok, nmX8, rfl, rfl⟩
theorem f_X8_22 : FL RX8 22 7 2 .int false := ⟨RX8, TX8, 4, tyX8, rfl, inBX8, by decide, tb (i := 223) (by decide +kernel) rfl, tyX8_ok, nmX8, rfl, rfl⟩
theorem f_X8_26 : FL RX8 26 7 3 .int false := ⟨RX8, TX8, 4, tyX8, rfl, inBX8, by decide, tb (i := 224) (by decide +kernel) rfl, tyX8_ok, nmX8, rfl, rfl⟩
theorem f_X10_184 : FL RX10 184 7 3 .int false := ⟨RX8, TX8, 4, tyX8, rfl, inBX8, by decide, tb (i := 225) (by decide +kernel) rfl, tyX8_ok, nmX8, rfl, rfl⟩
theorem f_X6_13 : FL RX6 13 5 0 (.array (.array .long)) true := ⟨RX6, TX6, 4, tyX6, rfl, inBX6, by decide, tb (i := 244) (by decide +kernel) rfl, tyX6_ok, nmX6, rfl, rfl⟩
theorem f_X10_321 : FL RX10 321 5 0 (.array (.array .long)) true := ⟨RX6, TX6, 4, tyX6, rfl, inBX6, by decide, tb (i := 245) (by decide +kernel) rfl, tyX6_ok, nmX6, rfl, rfl⟩
theorem f_X6_16 : FL RX6 16 5 1 (.array .int) true := ⟨RX6, TX6, 4, tyX6, rfl, inBX6, by decide, tb (i := 246) (by decide +kernel) rfl, tyX6_ok, nmX6, rfl, rfl⟩
theorem f_X10_368 : FL RX10 368 5 1 (.array .int) true := ⟨RX6, TX6, 4, tyX6, rfl, inBX6, by decide, tb (i := 247) (by decide +kernel) rfl, tyX6_ok, nmX6, rfl, rfl⟩
theorem f_X6_20 : FL RX6 20 5 2 (.array .int) true := ⟨RX6, TX6, 4, tyX6, rfl, inBX6, by decide, tb (i := 248) (by decide +kernel) rfl, tyX6_ok, nmX6, rfl, rfl⟩
theorem f_X6_23 : FL RX6 23 5 3 (.array .boolean) true := ⟨RX6, TX6, 4, tyX6, rfl, inBX6, by decide, tb (i := 249) (by decide +kernel) rfl, tyX6_ok, nmX6, rfl, rfl⟩
theorem f_X5_30 : FL RX5 30 4 0 (.object "ParishPull$State") true := ⟨RX5, TX5, 14, tyX5, rfl, inBX5, by decide, tb (i := 267) (by decide +kernel) rfl, tyX5_ok, nmX5, rfl, rfl⟩
theorem f_X5_11 : FL RX5 11 4 1 (.array .int) true := ⟨RX5, TX5, 14, tyX5, rfl, inBX5, by decide, tb (i := 268) (by decide +kernel) rfl, tyX5_ok, nmX5, rfl, rfl⟩
theorem f_X5_15 : FL RX5 15 4 2 (.array .int) true := ⟨RX5, TX5, 14, tyX5, rfl, inBX5, by decide, tb (i := 269) (by decide +kernel) rfl, tyX5_ok, nmX5, rfl, rfl⟩
theorem f_X9_46 : FL RX9 46 4 2 (.array .int) true := ⟨RX5, TX5, 14, tyX5, rfl, inBX5, by decide, tb (i := 270) (by decide +kernel) rfl, tyX5_ok, nmX5, rfl, rfl⟩
theorem f_X10_223 : FL RX10 223 4 2 (.array .int) true := ⟨RX5, TX5, 14, tyX5, rfl, inBX5, by decide, tb (i := 271) (by decide +kernel) rfl, tyX5_ok, nmX5, rfl, rfl⟩
theorem f_X5_18 : FL RX5 18 4 3 (.array .int) true := ⟨RX5, TX5, 14, tyX5, rfl, inBX5, by decide, tb (i := 272) (by decide +kernel) rfl, tyX5_ok, nmX5, rfl, rfl⟩
theorem f_X2_68 : FL RX2 68 4 3 (.array .int) true := ⟨RX5, TX5, 14, tyX5, rfl, inBX5, by decide, tb (i := 273) (by decide +kernel) rfl, tyX5_ok, nmX5, rfl, rfl⟩
theorem f_X9_83 : FL RX9 83 4 3 (.array .int) true := ⟨RX5, TX5, 14, tyX5, rfl, inBX5, by decide, tb (i := 274) (by decide +kernel) rfl, tyX5_ok, nmX5, rfl, rfl⟩
theorem f_X10_247 : FL RX10 247 4 3 (.array .int) true := ⟨RX5, TX5, 14, tyX5, rfl, inBX5, by decide, tb (i := 275) (by decide +kernel) rfl, tyX5_ok, nmX5, rfl, rfl⟩
theorem f_X5_21 : FL RX5 21 4 4 (.array .int) true := ⟨RX5, TX5, 14, tyX5, rfl, inBX5, by decide, tb (i := 276) (by decide +kernel) rfl, tyX5_ok, nmX5, rfl, rfl⟩
theorem f_X10_239 : FL RX10 239 4 4 (.array .int) true := ⟨RX5, TX5, 14, tyX5, rfl, inBX5, by decide, tb (i := 277) (by decide +kernel) rfl, tyX5_ok, nmX5, rfl, rfl⟩
theorem f_X5_24 : FL RX5 24 4 5 (.array .int) true := ⟨RX5, TX5, 14, tyX5, rfl, inBX5, by decide, tb (i := 278) (by decide +kernel) rfl, tyX5_ok, nmX5, rfl, rfl⟩
theorem f_X5_27 : FL RX5 27 4 6 (.array .int) true := ⟨RX5, TX5, 14, tyX5, rfl, inBX5, by decide, tb (i := 279) (by decide +kernel) rfl, tyX5_ok, nmX5, rfl, rfl⟩
theorem f_X10_229 : FL RX10 229 4 6 (.array .int) true := ⟨RX5, TX5, 14, tyX5, rfl, inBX5, by decide, tb (i := 280) (by decide +kernel) rfl, tyX5_ok, nmX5, rfl, rfl⟩
theorem f_X5_134 : FL RX5 134 4 7 .int false := ⟨RX5, TX5, 14, tyX5, rfl, inBX5, by decide, tb (i := 281) (by decide +kernel) rfl, tyX5_ok, nmX5, rfl, rfl⟩
theorem f_X10_226 : FL RX10 226 4 7 .int false := ⟨RX5, TX5, 14, tyX5, rfl, inBX5, by decide, tb (i := 282) (by decide +kernel) rfl, tyX5_ok, nmX5, rfl, rfl⟩
theorem f_X5_46 : FL RX5 46 4 8 .int false := ⟨RX5, TX5, 14, tyX5, rfl, inBX5, by decide, tb (i := 283) (by decide +kernel) rfl, tyX5_ok, nmX5, rfl, rfl⟩
theorem f_X9_38 : FL RX9 38 4 8 .int false := ⟨RX5, TX5, 14, tyX5, rfl, inBX5, by decide, tb (i := 284) (by decide +kernel) rfl, tyX5_ok, nmX5, rfl, rfl⟩
theorem f_X5_50 : FL RX5 50 4 9 .int false := ⟨RX5, TX5, 14, tyX5, rfl, inBX5, by decide, tb (i := 285) (by decide +kernel) rfl, tyX5_ok, nmX5, rfl, rfl⟩
theorem f_X5_54 : FL RX5 54 4 10 .int false := ⟨RX5, TX5, 14, tyX5, rfl, inBX5, by decide, tb (i := 286) (by decide +kernel) rfl, tyX5_ok, nmX5, rfl, rfl⟩
theorem f_X5_57 : FL RX5 57 4 11 .int false := ⟨RX5, TX5, 14, tyX5, rfl, inBX5, by decide, tb (i := 287) (by decide +kernel) rfl, tyX5_ok, nmX5, rfl, rfl⟩
theorem f_X4_75 : FL RX4 75 4 11 .int false := ⟨RX5, TX5, 14, tyX5, rfl, inBX5, by decide, tb (i := 288) (by decide +kernel) rfl, tyX5_ok, nmX5, rfl, rfl⟩
theorem f_X5_113 : FL RX5 113 4 12 .int false := ⟨RX5, TX5, 14, tyX5, rfl, inBX5, by decide, tb (i := 289) (by decide +kernel) rfl, tyX5_ok, nmX5, rfl, rfl⟩
theorem f_X4_88 : FL RX4 88 4 13 .int false := ⟨RX5, TX5, 14, tyX5, rfl, inBX5, by decide, tb (i := 290) (by decide +kernel) rfl, tyX5_ok, nmX5, rfl, rfl⟩
theorem f_X5_94 : FL RX5 94 4 13 .int false := ⟨RX5, TX5, 14, tyX5, rfl, inBX5, by decide, tb (i := 291) (by decide +kernel) rfl, tyX5_ok, nmX5, rfl, rfl⟩
theorem f_X9_26 : FL RX9 26 8 0 (.object "ParishPull$State") true := ⟨RX9, TX9, 7, tyX9, rfl, inBX9, by decide, tb (i := 327) (by decide +kernel) rfl, tyX9_ok, nmX9, rfl, rfl⟩
theorem f_X9_30 : FL RX9 30 8 1 (.object "ParishPull$Routes") true := ⟨RX9, TX9, 7, tyX9, rfl, inBX9, by decide, tb (i := 328) (by decide +kernel) rfl, tyX9_ok, nmX9, rfl, rfl⟩
theorem f_X9_11 : FL RX9 11 8 2 (.array .int) true := ⟨RX9, TX9, 7, tyX9, rfl, inBX9, by decide, tb (i := 329) (by decide +kernel) rfl, tyX9_ok, nmX9, rfl, rfl⟩
theorem f_X9_17 : FL RX9 17 8 3 (.array .int) true := ⟨RX9, TX9, 7, tyX9, rfl, inBX9, by decide, tb (i := 330) (by decide +kernel) rfl, tyX9_ok, nmX9, rfl, rfl⟩
theorem f_X9_20 : FL RX9 20 8 4 (.array .int) true := ⟨RX9, TX9, 7, tyX9, rfl, inBX9, by decide, tb (i := 331) (by decide +kernel) rfl, tyX9_ok, nmX9, rfl, rfl⟩
theorem f_X9_23 : FL RX9 23 8 5 (.array .int) true := ⟨RX9, TX9, 7, tyX9, rfl, inBX9, by decide, tb (i := 332) (by decide +kernel) rfl, tyX9_ok, nmX9, rfl, rfl⟩
theorem f_X9_49 : FL RX9 49 8 6 .int false := ⟨RX9, TX9, 7, tyX9, rfl, inBX9, by decide, tb (i := 333) (by decide +kernel) rfl, tyX9_ok, nmX9, rfl, rfl⟩
theorem f_X10_256 : FL RX10 256 8 6 .int false := ⟨RX9, TX9, 7, tyX9, rfl, inBX9, by decide, tb (i := 334) (by decide +kernel) rfl, tyX9_ok, nmX9, rfl, rfl⟩
theorem f_X2_18 : FL RX2 18 1 0 (.object "ParishPull$State") true := ⟨RX2, TX2, 6, tyX2, rfl, inBX2, by decide, tb (i := 356) (by decide +kernel) rfl, tyX2_ok, nmX2, rfl, rfl⟩
theorem f_X2_22 : FL RX2 22 1 1 (.object "ParishPull$Routes") true := ⟨RX2, TX2, 6, tyX2, rfl, inBX2, by decide, tb (i := 357) (by decide +kernel) rfl, tyX2_ok, nmX2, rfl, rfl⟩
theorem f_X2_11 : FL RX2 11 1 2 (.array .int) true := ⟨RX2, TX2, 6, tyX2, rfl, inBX2, by decide, tb (i := 358) (by decide +kernel) rfl, tyX2_ok, nmX2, rfl, rfl⟩
theorem f_X2_15 : FL RX2 15 1 3 (.array .int) true := ⟨RX2, TX2, 6, tyX2, rfl, inBX2, by decide, tb (i := 359) (by decide +kernel) rfl, tyX2_ok, nmX2, rfl, rfl⟩
theorem f_X2_52 : FL RX2 52 1 4 .int false := ⟨RX2, TX2, 6, tyX2, rfl, inBX2, by decide, tb (i := 360) (by decide +kernel) rfl, tyX2_ok, nmX2, rfl, rfl⟩
theorem f_X10_269 : FL RX10 269 1 4 .int false := ⟨RX2, TX2, 6, tyX2, rfl, inBX2, by decide, tb (i := 361) (by decide +kernel) rfl, tyX2_ok, nmX2, rfl, rfl⟩
theorem f_X2_55 : FL RX2 55 1 5 .int false := ⟨RX2, TX2, 6, tyX2, rfl, inBX2, by decide, tb (i := 362) (by decide +kernel) rfl, tyX2_ok, nmX2, rfl, rfl⟩
theorem f_X10_272 : FL RX10 272 1 5 .int false := ⟨RX2, TX2, 6, tyX2, rfl, inBX2, by decide, tb (i := 363) (by decide +kernel) rfl, tyX2_ok, nmX2, rfl, rfl⟩
theorem f_X4_15 : FL RX4 15 3 0 (.object "ParishPull$State") true := ⟨RX4, TX4, 5, tyX4, rfl, inBX4, by decide, tb (i := 383) (by decide +kernel) rfl, tyX4_ok, nmX4, rfl, rfl⟩
theorem f_X4_19 : FL RX4 19 3 1 (.object "ParishPull$Routes") true := ⟨RX4, TX4, 5, tyX4, rfl, inBX4, by decide, tb (i := 384) (by decide +kernel) rfl, tyX4_ok, nmX4, rfl, rfl⟩
theorem f_X4_9 : FL RX4 9 3 2 (.array .int) true := ⟨RX4, TX4, 5, tyX4, rfl, inBX4, by decide, tb (i := 385) (by decide +kernel) rfl, tyX4_ok, nmX4, rfl, rfl⟩
theorem f_X4_62 : FL RX4 62 3 3 .long false := ⟨RX4, TX4, 5, tyX4, rfl, inBX4, by decide, tb (i := 386) (by decide +kernel) rfl, tyX4_ok, nmX4, rfl, rfl⟩
theorem f_X10_289 : FL RX10 289 3 3 .long false := ⟨RX4, TX4, 5, tyX4, rfl, inBX4, by decide, tb (i := 387) (by decide +kernel) rfl, tyX4_ok, nmX4, rfl, rfl⟩
theorem f_X4_66 : FL RX4 66 3 4 .long false := ⟨RX4, TX4, 5, tyX4, rfl, inBX4, by decide, tb (i := 388) (by decide +kernel) rfl, tyX4_ok, nmX4, rfl, rfl⟩
theorem f_X10_295 : FL RX10 295 3 4 .long false := ⟨RX4, TX4, 5, tyX4, rfl, inBX4, by decide, tb (i := 389) (by decide +kernel) rfl, tyX4_ok, nmX4, rfl, rfl⟩
theorem f_X1_9 : FL RX1 9 0 0 (.array .int) true := ⟨RX1, TX1, 4, tyX1, rfl, inBX1, by decide, tb (i := 407) (by decide +kernel) rfl, tyX1_ok, nmX1, rfl, rfl⟩
theorem f_X1_15 : FL RX1 15 0 1 .int false := ⟨RX1, TX1, 4, tyX1, rfl, inBX1, by decide, tb (i := 408) (by decide +kernel) rfl, tyX1_ok, nmX1, rfl, rfl⟩
theorem f_X1_19 : FL RX1 19 0 2 .int false := ⟨RX1, TX1, 4, tyX1, rfl, inBX1, by decide, tb (i := 409) (by decide +kernel) rfl, tyX1_ok, nmX1, rfl, rfl⟩
theorem f_X1_22 : FL RX1 22 0 3 .int false := ⟨RX1, TX1, 4, tyX1, rfl, inBX1, by decide, tb (i := 410) (by decide +kernel) rfl, tyX1_ok, nmX1, rfl, rfl⟩
theorem f_X10_10 : FL RX10 10 9 0 (.object "ParishPull$State") true := ⟨RX10, TX10, 10, tyX10, rfl, inBX10, by decide, tb (i := 420) (by decide +kernel) rfl, tyX10_ok, nmX10, rfl, rfl⟩
theorem f_X10_16 : FL RX10 16 9 1 (.object "ParishPull$State") true := ⟨RX10, TX10, 10, tyX10, rfl, inBX10, by decide, tb (i := 421) (by decide +kernel) rfl, tyX10_ok, nmX10, rfl, rfl⟩
theorem f_X10_22 : FL RX10 22 9 2 (.object "ParishPull$Tape") true := ⟨RX10, TX10, 10, tyX10, rfl, inBX10, by decide, tb (i := 422) (by decide +kernel) rfl, tyX10_ok, nmX10, rfl, rfl⟩
theorem f_X10_29 : FL RX10 29 9 3 (.object "ParishPull$Sheets") true := ⟨RX10, TX10, 10, tyX10, rfl, inBX10, by decide, tb (i := 423) (by decide +kernel) rfl, tyX10_ok, nmX10, rfl, rfl⟩
theorem f_X10_38 : FL RX10 38 9 4 (.object "ParishPull$Routes") true := ⟨RX10, TX10, 10, tyX10, rfl, inBX10, by decide, tb (i := 424) (by decide +kernel) rfl, tyX10_ok, nmX10, rfl, rfl⟩
theorem f_X10_47 : FL RX10 47 9 5 (.object "ParishPull$Trades") true := ⟨RX10, TX10, 10, tyX10, rfl, inBX10, by decide, tb (i := 425) (by decide +kernel) rfl, tyX10_ok, nmX10, rfl, rfl⟩
theorem f_X10_54 : FL RX10 54 9 6 (.object "ParishPull$Councils") true := ⟨RX10, TX10, 10, tyX10, rfl, inBX10, by decide, tb (i := 426) (by decide +kernel) rfl, tyX10_ok, nmX10, rfl, rfl⟩
theorem f_X10_61 : FL RX10 61 9 7 (.object "ParishPull$Leagues") true := ⟨RX10, TX10, 10, tyX10, rfl, inBX10, by decide, tb (i := 427) (by decide +kernel) rfl, tyX10_ok, nmX10, rfl, rfl⟩
theorem f_X10_68 : FL RX10 68 9 8 (.object "ParishPull$Book") true := ⟨RX10, TX10, 10, tyX10, rfl, inBX10, by decide, tb (i := 428) (by decide +kernel) rfl, tyX10_ok, nmX10, rfl, rfl⟩
theorem f_X10_307 : FL RX10 307 9 9 .boolean false := ⟨RX10, TX10, 10, tyX10, rfl, inBX10, by decide, tb (i := 429) (by decide +kernel) rfl, tyX10_ok, nmX10, rfl, rfl⟩
theorem f_J0_38 : Cond.fieldLink RJ0 38 RJ0 "COMPACT_STRINGS" "Z" ∈ TB := tb (i := 639) (by decide +kernel) rfl
theorem f_X4_54 : Cond.fieldLink RX4 54 RX4 "ORDERS" "[J" ∈ TB := tb (i := 959) (by decide +kernel) rfl
theorem f_X11_7 : FL RX11 7 10 0 (.array .int) true := ⟨RX11, TX11, 18, tyX11, rfl, inBX11, by decide, tb (i := 1117) (by decide +kernel) rfl, tyX11_ok, nmX11, rfl, rfl⟩
theorem f_X11_13 : FL RX11 13 10 1 (.array .int) true := ⟨RX11, TX11, 18, tyX11, rfl, inBX11, by decide, tb (i := 1118) (by decide +kernel) rfl, tyX11_ok, nmX11, rfl, rfl⟩
theorem f_X11_216 : FL RX11 216 10 2 .boolean false := ⟨RX11, TX11, 18, tyX11, rfl, inBX11, by decide, tb (i := 1119) (by decide +kernel) rfl, tyX11_ok, nmX11, rfl, rfl⟩
theorem f_X11_16 : FL RX11 16 10 3 (.array .int) true := ⟨RX11, TX11, 18, tyX11, rfl, inBX11, by decide, tb (i := 1120) (by decide +kernel) rfl, tyX11_ok, nmX11, rfl, rfl⟩
theorem f_X11_113 : FL RX11 113 10 4 .int false := ⟨RX11, TX11, 18, tyX11, rfl, inBX11, by decide, tb (i := 1121) (by decide +kernel) rfl, tyX11_ok, nmX11, rfl, rfl⟩
theorem f_X11_19 : FL RX11 19 10 5 (.array .int) true := ⟨RX11, TX11, 18, tyX11, rfl, inBX11, by decide, tb (i := 1122) (by decide +kernel) rfl, tyX11_ok, nmX11, rfl, rfl⟩
theorem f_X11_22 : FL RX11 22 10 6 (.array .int) true := ⟨RX11, TX11, 18, tyX11, rfl, inBX11, by decide, tb (i := 1123) (by decide +kernel) rfl, tyX11_ok, nmX11, rfl, rfl⟩
theorem f_X11_25 : FL RX11 25 10 7 (.array .long) true := ⟨RX11, TX11, 18, tyX11, rfl, inBX11, by decide, tb (i := 1124) (by decide +kernel) rfl, tyX11_ok, nmX11, rfl, rfl⟩
theorem f_X11_117 : FL RX11 117 10 8 .int false := ⟨RX11, TX11, 18, tyX11, rfl, inBX11, by decide, tb (i := 1125) (by decide +kernel) rfl, tyX11_ok, nmX11, rfl, rfl⟩
theorem f_X11_29 : FL RX11 29 10 9 (.array .int) true := ⟨RX11, TX11, 18, tyX11, rfl, inBX11, by decide, tb (i := 1126) (by decide +kernel) rfl, tyX11_ok, nmX11, rfl, rfl⟩
theorem f_X11_32 : FL RX11 32 10 10 (.array .int) true := ⟨RX11, TX11, 18, tyX11, rfl, inBX11, by decide, tb (i := 1127) (by decide +kernel) rfl, tyX11_ok, nmX11, rfl, rfl⟩
theorem f_X11_35 : FL RX11 35 10 11 (.array .int) true := ⟨RX11, TX11, 18, tyX11, rfl, inBX11, by decide, tb (i := 1128) (by decide +kernel) rfl, tyX11_ok, nmX11, rfl, rfl⟩
theorem f_X11_38 : FL RX11 38 10 12 (.array .int) true := ⟨RX11, TX11, 18, tyX11, rfl, inBX11, by decide, tb (i := 1129) (by decide +kernel) rfl, tyX11_ok, nmX11, rfl, rfl⟩
theorem f_X11_41 : FL RX11 41 10 13 (.array .int) true := ⟨RX11, TX11, 18, tyX11, rfl, inBX11, by decide, tb (i := 1130) (by decide +kernel) rfl, tyX11_ok, nmX11, rfl, rfl⟩
theorem f_X11_44 : FL RX11 44 10 14 (.array .int) true := ⟨RX11, TX11, 18, tyX11, rfl, inBX11, by decide, tb (i := 1131) (by decide +kernel) rfl, tyX11_ok, nmX11, rfl, rfl⟩
theorem f_X11_200 : FL RX11 200 10 15 .long false := ⟨RX11, TX11, 18, tyX11, rfl, inBX11, by decide, tb (i := 1132) (by decide +kernel) rfl, tyX11_ok, nmX11, rfl, rfl⟩
theorem f_X11_208 : FL RX11 208 10 16 .long false := ⟨RX11, TX11, 18, tyX11, rfl, inBX11, by decide, tb (i := 1133) (by decide +kernel) rfl, tyX11_ok, nmX11, rfl, rfl⟩
theorem f_X11_47 : FL RX11 47 10 17 (.array .int) true := ⟨RX11, TX11, 18, tyX11, rfl, inBX11, by decide, tb (i := 1134) (by decide +kernel) rfl, tyX11_ok, nmX11, rfl, rfl⟩
theorem f_J0_15 : Cond.fieldLink RJ0 15 RJ0 "coder" "B" ∈ TB := tb (i := 1498) (by decide +kernel) rfl
theorem f_J0_9 : Cond.fieldLink RJ0 9 RJ0 "value" "[B" ∈ TB := tb (i := 1499) (by decide +kernel) rfl
theorem pd_0 : (parseMethodDescriptor "([JII)Z").map (fun d => d.parameters.length) = some 3 := by decide +kernel
theorem pd_1 : (parseMethodDescriptor "(LParishPull$State;II[JII)I").map (fun d => d.parameters.length) = some 6 := by decide +kernel
theorem pd_2 : (parseMethodDescriptor "(III)I").map (fun d => d.parameters.length) = some 3 := by decide +kernel
theorem pd_3 : (parseMethodDescriptor "(I)I").map (fun d => d.parameters.length) = some 1 := by decide +kernel
theorem pd_4 : (parseMethodDescriptor "()V").map (fun d => d.parameters.length) = some 0 := by decide +kernel
theorem pd_5 : (parseMethodDescriptor "(III)V").map (fun d => d.parameters.length) = some 3 := by decide +kernel
theorem pd_6 : (parseMethodDescriptor "([JII)I").map (fun d => d.parameters.length) = some 3 := by decide +kernel
theorem pd_7 : (parseMethodDescriptor "()I").map (fun d => d.parameters.length) = some 0 := by decide +kernel
theorem pd_8 : (parseMethodDescriptor "(J)I").map (fun d => d.parameters.length) = some 1 := by decide +kernel
theorem pd_9 : (parseMethodDescriptor "(LParishPull$State;LParishPull$Routes;)V").map (fun d => d.parameters.length) = some 2 := by decide +kernel
theorem pd_10 : (parseMethodDescriptor "(II)I").map (fun d => d.parameters.length) = some 2 := by decide +kernel
theorem pd_11 : (parseMethodDescriptor "([III)I").map (fun d => d.parameters.length) = some 3 := by decide +kernel
theorem pd_12 : (parseMethodDescriptor "(I)Z").map (fun d => d.parameters.length) = some 1 := by decide +kernel
theorem pd_13 : (parseMethodDescriptor "(II)Z").map (fun d => d.parameters.length) = some 2 := by decide +kernel
theorem pd_14 : (parseMethodDescriptor "(LParishPull$Ground;)V").map (fun d => d.parameters.length) = some 1 := by decide +kernel
theorem pd_15 : (parseMethodDescriptor "(II)V").map (fun d => d.parameters.length) = some 2 := by decide +kernel
theorem pd_16 : (parseMethodDescriptor "(JJ)J").map (fun d => d.parameters.length) = some 2 := by decide +kernel
theorem pd_17 : (parseMethodDescriptor "(LParishPull$State;)V").map (fun d => d.parameters.length) = some 1 := by decide +kernel
theorem pd_18 : (parseMethodDescriptor "(I)V").map (fun d => d.parameters.length) = some 1 := by decide +kernel
theorem pd_19 : (parseMethodDescriptor "(III)Z").map (fun d => d.parameters.length) = some 3 := by decide +kernel
theorem pd_20 : (parseMethodDescriptor "(IIII)I").map (fun d => d.parameters.length) = some 4 := by decide +kernel
theorem pd_21 : (parseMethodDescriptor "(IIJ)V").map (fun d => d.parameters.length) = some 3 := by decide +kernel
theorem pd_22 : (parseMethodDescriptor "()Z").map (fun d => d.parameters.length) = some 0 := by decide +kernel
theorem pd_23 : (parseMethodDescriptor "(C)Z").map (fun d => d.parameters.length) = some 1 := by decide +kernel
theorem pd_24 : (parseMethodDescriptor "(IIIII)I").map (fun d => d.parameters.length) = some 5 := by decide +kernel
theorem pd_25 : (parseMethodDescriptor "(III)J").map (fun d => d.parameters.length) = some 3 := by decide +kernel
theorem pd_26 : (parseMethodDescriptor "(IIIIIII)I").map (fun d => d.parameters.length) = some 7 := by decide +kernel
theorem pd_27 : (parseMethodDescriptor "(IIIIIIII)I").map (fun d => d.parameters.length) = some 8 := by decide +kernel
theorem pd_28 : (parseMethodDescriptor "(IIIJ)I").map (fun d => d.parameters.length) = some 4 := by decide +kernel
theorem pd_29 : (parseMethodDescriptor "(JJJ)Z").map (fun d => d.parameters.length) = some 3 := by decide +kernel
theorem pd_30 : (parseMethodDescriptor "(I)J").map (fun d => d.parameters.length) = some 1 := by decide +kernel
theorem pd_31 : (parseMethodDescriptor "(IJ)J").map (fun d => d.parameters.length) = some 2 := by decide +kernel
theorem pd_32 : (parseMethodDescriptor "(I)C").map (fun d => d.parameters.length) = some 1 := by decide +kernel
theorem pd_33 : (parseMethodDescriptor "()B").map (fun d => d.parameters.length) = some 0 := by decide +kernel
theorem pd_34 : (parseMethodDescriptor "([BIII)I").map (fun d => d.parameters.length) = some 4 := by decide +kernel
theorem pd_35 : (parseMethodDescriptor "([BI)C").map (fun d => d.parameters.length) = some 2 := by decide +kernel
theorem pd_36 : (parseMethodDescriptor "([B)I").map (fun d => d.parameters.length) = some 1 := by decide +kernel
theorem pd_37 : (parseMethodDescriptor "(II[B)V").map (fun d => d.parameters.length) = some 3 := by decide +kernel
theorem pd_38 : (parseMethodDescriptor "([JJ)V").map (fun d => d.parameters.length) = some 2 := by decide +kernel
theorem pd_39 : (parseMethodDescriptor "([II)V").map (fun d => d.parameters.length) = some 2 := by decide +kernel
theorem pd_40 : (parseMethodDescriptor "(IIILjava/util/function/BiFunction;)I").map (fun d => d.parameters.length) = some 4 := by decide +kernel
theorem pd_41 : (parseMethodDescriptor "([I)Z").map (fun d => d.parameters.length) = some 1 := by decide +kernel
theorem pn_X0 : plainName RX0 = true ∧ Cond.initialized RX0 ∈ TB ∧ RX0 ≠ "java/lang/invoke/MethodHandle" ∧ RX0 ≠ "java/lang/invoke/VarHandle" := ⟨by decide +kernel, tb (i := 80) (by decide +kernel) rfl, by decide +kernel, by decide +kernel⟩
theorem pn_X1 : plainName RX1 = true ∧ Cond.initialized RX1 ∈ TB ∧ RX1 ≠ "java/lang/invoke/MethodHandle" ∧ RX1 ≠ "java/lang/invoke/VarHandle" := ⟨by decide +kernel, tb (i := 69) (by decide +kernel) rfl, by decide +kernel, by decide +kernel⟩
theorem pn_X2 : plainName RX2 = true ∧ Cond.initialized RX2 ∈ TB ∧ RX2 ≠ "java/lang/invoke/MethodHandle" ∧ RX2 ≠ "java/lang/invoke/VarHandle" := ⟨by decide +kernel, tb (i := 67) (by decide +kernel) rfl, by decide +kernel, by decide +kernel⟩
theorem pn_X3 : plainName RX3 = true ∧ Cond.initialized RX3 ∈ TB ∧ RX3 ≠ "java/lang/invoke/MethodHandle" ∧ RX3 ≠ "java/lang/invoke/VarHandle" := ⟨by decide +kernel, tb (i := 62) (by decide +kernel) rfl, by decide +kernel, by decide +kernel⟩
theorem pn_X4 : plainName RX4 = true ∧ Cond.initialized RX4 ∈ TB ∧ RX4 ≠ "java/lang/invoke/MethodHandle" ∧ RX4 ≠ "java/lang/invoke/VarHandle" := ⟨by decide +kernel, tb (i := 68) (by decide +kernel) rfl, by decide +kernel, by decide +kernel⟩
theorem pn_X5 : plainName RX5 = true ∧ Cond.initialized RX5 ∈ TB ∧ RX5 ≠ "java/lang/invoke/MethodHandle" ∧ RX5 ≠ "java/lang/invoke/VarHandle" := ⟨by decide +kernel, tb (i := 65) (by decide +kernel) rfl, by decide +kernel, by decide +kernel⟩
theorem pn_X6 : plainName RX6 = true ∧ Cond.initialized RX6 ∈ TB ∧ RX6 ≠ "java/lang/invoke/MethodHandle" ∧ RX6 ≠ "java/lang/invoke/VarHandle" := ⟨by decide +kernel, tb (i := 64) (by decide +kernel) rfl, by decide +kernel, by decide +kernel⟩
theorem pn_X7 : plainName RX7 = true ∧ Cond.initialized RX7 ∈ TB ∧ RX7 ≠ "java/lang/invoke/MethodHandle" ∧ RX7 ≠ "java/lang/invoke/VarHandle" := ⟨by decide +kernel, tb (i := 61) (by decide +kernel) rfl, by decide +kernel, by decide +kernel⟩
theorem pn_X8 : plainName RX8 = true ∧ Cond.initialized RX8 ∈ TB ∧ RX8 ≠ "java/lang/invoke/MethodHandle" ∧ RX8 ≠ "java/lang/invoke/VarHandle" := ⟨by decide +kernel, tb (i := 63) (by decide +kernel) rfl, by decide +kernel, by decide +kernel⟩
theorem pn_X9 : plainName RX9 = true ∧ Cond.initialized RX9 ∈ TB ∧ RX9 ≠ "java/lang/invoke/MethodHandle" ∧ RX9 ≠ "java/lang/invoke/VarHandle" := ⟨by decide +kernel, tb (i := 66) (by decide +kernel) rfl, by decide +kernel, by decide +kernel⟩
theorem pn_X10 : plainName RX10 = true ∧ Cond.initialized RX10 ∈ TB ∧ RX10 ≠ "java/lang/invoke/MethodHandle" ∧ RX10 ≠ "java/lang/invoke/VarHandle" := ⟨by decide +kernel, tb (i := 60) (by decide +kernel) rfl, by decide +kernel, by decide +kernel⟩
theorem pn_X11 : plainName RX11 = true ∧ Cond.initialized RX11 ∈ TB ∧ RX11 ≠ "java/lang/invoke/MethodHandle" ∧ RX11 ≠ "java/lang/invoke/VarHandle" := ⟨by decide +kernel, tb (i := 70) (by decide +kernel) rfl, by decide +kernel, by decide +kernel⟩
theorem pn_J11 : plainName RJ11 = true ∧ Cond.initialized RJ11 ∈ TB ∧ RJ11 ≠ "java/lang/invoke/MethodHandle" ∧ RJ11 ≠ "java/lang/invoke/VarHandle" := ⟨by decide +kernel, tb (i := 76) (by decide +kernel) rfl, by decide +kernel, by decide +kernel⟩
theorem pn_J6 : plainName RJ6 = true ∧ Cond.initialized RJ6 ∈ TB ∧ RJ6 ≠ "java/lang/invoke/MethodHandle" ∧ RJ6 ≠ "java/lang/invoke/VarHandle" := ⟨by decide +kernel, tb (i := 79) (by decide +kernel) rfl, by decide +kernel, by decide +kernel⟩
theorem pn_J0 : plainName RJ0 = true ∧ Cond.initialized RJ0 ∈ TB ∧ RJ0 ≠ "java/lang/invoke/MethodHandle" ∧ RJ0 ≠ "java/lang/invoke/VarHandle" := ⟨by decide +kernel, tb (i := 72) (by decide +kernel) rfl, by decide +kernel, by decide +kernel⟩
theorem pn_J1 : plainName RJ1 = true ∧ Cond.initialized RJ1 ∈ TB ∧ RJ1 ≠ "java/lang/invoke/MethodHandle" ∧ RJ1 ≠ "java/lang/invoke/VarHandle" := ⟨by decide +kernel, tb (i := 73) (by decide +kernel) rfl, by decide +kernel, by decide +kernel⟩
theorem pn_J2 : plainName RJ2 = true ∧ Cond.initialized RJ2 ∈ TB ∧ RJ2 ≠ "java/lang/invoke/MethodHandle" ∧ RJ2 ≠ "java/lang/invoke/VarHandle" := ⟨by decide +kernel, tb (i := 74) (by decide +kernel) rfl, by decide +kernel, by decide +kernel⟩
theorem pn_J10 : plainName RJ10 = true ∧ Cond.initialized RJ10 ∈ TB ∧ RJ10 ≠ "java/lang/invoke/MethodHandle" ∧ RJ10 ≠ "java/lang/invoke/VarHandle" := ⟨by decide +kernel, tb (i := 77) (by decide +kernel) rfl, by decide +kernel, by decide +kernel⟩
theorem pn_J7 : plainName RJ7 = true ∧ Cond.initialized RJ7 ∈ TB ∧ RJ7 ≠ "java/lang/invoke/MethodHandle" ∧ RJ7 ≠ "java/lang/invoke/VarHandle" := ⟨by decide +kernel, tb (i := 78) (by decide +kernel) rfl, by decide +kernel, by decide +kernel⟩
theorem pn_J3 : plainName RJ3 = true ∧ Cond.initialized RJ3 ∈ TB ∧ RJ3 ≠ "java/lang/invoke/MethodHandle" ∧ RJ3 ≠ "java/lang/invoke/VarHandle" := ⟨by decide +kernel, tb (i := 75) (by decide +kernel) rfl, by decide +kernel, by decide +kernel⟩
abbrev mX0_areStones : mM := (RX0, cX0_areStones, 6, (some .boolean))
set_option maxRecDepth 100000 in
theorem i_X0_areStones : MI yX0_areStones mX0_areStones 3 := ⟨rfl, pn_X0.1, tcc5 (i := 1) rfl rfl, pn_X0.2.1, ⟨pn_X0.2.2.1, pn_X0.2.2.2, pd_0⟩, by decide⟩
theorem s_X0_areStones : Cond.static yX0_areStones ∈ TB := tb (i := 1022) (by decide +kernel) rfl
abbrev mX0_turning : mM := (RX0, cX0_turning, 9, (some .int))
set_option maxRecDepth 100000 in
theorem i_X0_turning : MI yX0_turning mX0_turning 6 := ⟨rfl, pn_X0.1, tcc5 (i := 2) rfl rfl, pn_X0.2.1, ⟨pn_X0.2.2.1, pn_X0.2.2.2, pd_1⟩, by decide⟩
theorem s_X0_turning : Cond.static yX0_turning ∈ TB := tb (i := 1029) (by decide +kernel) rfl
abbrev mX0_fewest : mM := (RX0, cX0_fewest, 7, (some .int))
set_option maxRecDepth 100000 in
theorem i_X0_fewest : MI yX0_fewest mX0_fewest 3 := ⟨rfl, pn_X0.1, tcc5 (i := 3) rfl rfl, pn_X0.2.1, ⟨pn_X0.2.2.1, pn_X0.2.2.2, pd_2⟩, by decide⟩
theorem s_X0_fewest : Cond.static yX0_fewest ∈ TB := tb (i := 1033) (by decide +kernel) rfl
abbrev mX0_stonesFor : mM := (RX0, cX0_stonesFor, 1, (some .int))
set_option maxRecDepth 100000 in
theorem i_X0_stonesFor : MI yX0_stonesFor mX0_stonesFor 1 := ⟨rfl, pn_X0.1, tcc5 (i := 4) rfl rfl, pn_X0.2.1, ⟨pn_X0.2.2.1, pn_X0.2.2.2, pd_3⟩, by decide⟩
theorem s_X0_stonesFor : Cond.static yX0_stonesFor ∈ TB := tb (i := 1036) (by decide +kernel) rfl
abbrev mX1_init : mM := (RX1, cX1_init, 1, none)
abbrev mX1_open : mM := (RX1, cX1_open, 4, none)
set_option maxRecDepth 100000 in
theorem i_X1_open : MI yX1_open mX1_open 3 := ⟨rfl, pn_X1.1, tcc5 (i := 6) rfl rfl, pn_X1.2.1, ⟨pn_X1.2.2.1, pn_X1.2.2.2, pd_5⟩, by decide⟩
theorem v_X1_open : Cond.instanceMethod yX1_open ∈ TB ∧ Cond.selects RX1 yX1_open yX1_open ∈ TB := ⟨tb (i := 1044) (by decide +kernel) rfl, tb (i := 1045) (by decide +kernel) rfl⟩
abbrev mX1_readItems : mM := (RX1, cX1_readItems, 6, (some .int))
set_option maxRecDepth 100000 in
theorem i_X1_readItems : MI yX1_readItems mX1_readItems 3 := ⟨rfl, pn_X1.1, tcc5 (i := 7) rfl rfl, pn_X1.2.1, ⟨pn_X1.2.2.1, pn_X1.2.2.2, pd_6⟩, by decide⟩
theorem v_X1_readItems : Cond.instanceMethod yX1_readItems ∈ TB ∧ Cond.selects RX1 yX1_readItems yX1_readItems ∈ TB := ⟨tb (i := 1049) (by decide +kernel) rfl, tb (i := 1050) (by decide +kernel) rfl⟩
abbrev mX1_fittingRows : mM := (RX1, cX1_fittingRows, 3, (some .int))
set_option maxRecDepth 100000 in
theorem i_X1_fittingRows : MI yX1_fittingRows mX1_fittingRows 0 := ⟨rfl, pn_X1.1, tcc5 (i := 9) rfl rfl, pn_X1.2.1, ⟨pn_X1.2.2.1, pn_X1.2.2.2, pd_7⟩, by decide⟩
theorem v_X1_fittingRows : Cond.instanceMethod yX1_fittingRows ∈ TB ∧ Cond.selects RX1 yX1_fittingRows yX1_fittingRows ∈ TB := ⟨tb (i := 1059) (by decide +kernel) rfl, tb (i := 1060) (by decide +kernel) rfl⟩
abbrev mX1_sureSeasons : mM := (RX1, cX1_sureSeasons, 3, (some .int))
set_option maxRecDepth 100000 in
theorem i_X1_sureSeasons : MI yX1_sureSeasons mX1_sureSeasons 0 := ⟨rfl, pn_X1.1, tcc5 (i := 10) rfl rfl, pn_X1.2.1, ⟨pn_X1.2.2.1, pn_X1.2.2.2, pd_7⟩, by decide⟩
theorem v_X1_sureSeasons : Cond.instanceMethod yX1_sureSeasons ∈ TB ∧ Cond.selects RX1 yX1_sureSeasons yX1_sureSeasons ∈ TB := ⟨tb (i := 1064) (by decide +kernel) rfl, tb (i := 1065) (by decide +kernel) rfl⟩
abbrev mX1_pullsFor : mM := (RX1, cX1_pullsFor, 5, (some .int))
set_option maxRecDepth 100000 in
theorem i_X1_pullsFor : MI yX1_pullsFor mX1_pullsFor 1 := ⟨rfl, pn_X1.1, tcc5 (i := 8) rfl rfl, pn_X1.2.1, ⟨pn_X1.2.2.1, pn_X1.2.2.2, pd_8⟩, by decide⟩
theorem v_X1_pullsFor : Cond.instanceMethod yX1_pullsFor ∈ TB ∧ Cond.selects RX1 yX1_pullsFor yX1_pullsFor ∈ TB := ⟨tb (i := 1055) (by decide +kernel) rfl, tb (i := 27) (by decide +kernel) rfl⟩
abbrev mX2_init : mM := (RX2, cX2_init, 3, none)
abbrev mX2_takeOf : mM := (RX2, cX2_takeOf, 5, (some .int))
set_option maxRecDepth 100000 in
theorem i_X2_takeOf : MI yX2_takeOf mX2_takeOf 2 := ⟨rfl, pn_X2.1, tcc4 (i := 26) rfl rfl, pn_X2.2.1, ⟨pn_X2.2.2.1, pn_X2.2.2.2, pd_10⟩, by decide⟩
theorem v_X2_takeOf : Cond.instanceMethod yX2_takeOf ∈ TB ∧ Cond.selects RX2 yX2_takeOf yX2_takeOf ∈ TB := ⟨tb (i := 896) (by decide +kernel) rfl, tb (i := 897) (by decide +kernel) rfl⟩
abbrev mX2_findRests : mM := (RX2, cX2_findRests, 5, none)
set_option maxRecDepth 100000 in
theorem i_X2_findRests : MI yX2_findRests mX2_findRests 3 := ⟨rfl, pn_X2.1, tcc4 (i := 28) rfl rfl, pn_X2.2.1, ⟨pn_X2.2.2.1, pn_X2.2.2.2, pd_5⟩, by decide⟩
theorem v_X2_findRests : Cond.instanceMethod yX2_findRests ∈ TB ∧ Cond.selects RX2 yX2_findRests yX2_findRests ∈ TB := ⟨tb (i := 906) (by decide +kernel) rfl, tb (i := 907) (by decide +kernel) rfl⟩
abbrev mX2_addTakes : mM := (RX2, cX2_addTakes, 7, none)
set_option maxRecDepth 100000 in
theorem i_X2_addTakes : MI yX2_addTakes mX2_addTakes 3 := ⟨rfl, pn_X2.1, tcc4 (i := 29) rfl rfl, pn_X2.2.1, ⟨pn_X2.2.2.1, pn_X2.2.2.2, pd_5⟩, by decide⟩
theorem v_X2_addTakes : Cond.instanceMethod yX2_addTakes ∈ TB ∧ Cond.selects RX2 yX2_addTakes yX2_addTakes ∈ TB := ⟨tb (i := 912) (by decide +kernel) rfl, tb (i := 23) (by decide +kernel) rfl⟩
abbrev mX2_most : mM := (RX2, cX2_most, 5, (some .int))
set_option maxRecDepth 100000 in
theorem i_X2_most : MI yX2_most mX2_most 3 := ⟨rfl, pn_X2.1, tcc4 (i := 30) rfl rfl, pn_X2.2.1, ⟨pn_X2.2.2.1, pn_X2.2.2.2, pd_11⟩, by decide⟩
theorem s_X2_most : Cond.static yX2_most ∈ TB := tb (i := 918) (by decide +kernel) rfl
abbrev mX3_init : mM := (RX3, cX3_init, 1, none)
abbrev mX3_weight : mM := (RX3, cX3_weight, 3, (some .int))
set_option maxRecDepth 100000 in
theorem i_X3_weight : MI yX3_weight mX3_weight 3 := ⟨rfl, pn_X3.1, tcc2 (i := 26) rfl rfl, pn_X3.2.1, ⟨pn_X3.2.2.1, pn_X3.2.2.2, pd_2⟩, by decide⟩
theorem s_X3_weight : Cond.static yX3_weight ∈ TB := tb (i := 536) (by decide +kernel) rfl
abbrev mX3_clear : mM := (RX3, cX3_clear, 1, none)
set_option maxRecDepth 100000 in
theorem i_X3_clear : MI yX3_clear mX3_clear 0 := ⟨rfl, pn_X3.1, tcc3 (i := 18) rfl rfl, pn_X3.2.1, ⟨pn_X3.2.2.1, pn_X3.2.2.2, pd_4⟩, by decide⟩
theorem v_X3_clear : Cond.instanceMethod yX3_clear ∈ TB ∧ Cond.selects RX3 yX3_clear yX3_clear ∈ TB := ⟨tb (i := 611) (by decide +kernel) rfl, tb (i := 612) (by decide +kernel) rfl⟩
abbrev mX3_hasParish : mM := (RX3, cX3_hasParish, 2, (some .boolean))
set_option maxRecDepth 100000 in
theorem i_X3_hasParish : MI yX3_hasParish mX3_hasParish 1 := ⟨rfl, pn_X3.1, tcc2 (i := 8) rfl rfl, pn_X3.2.1, ⟨pn_X3.2.2.1, pn_X3.2.2.2, pd_12⟩, by decide⟩
theorem v_X3_hasParish : Cond.instanceMethod yX3_hasParish ∈ TB ∧ Cond.selects RX3 yX3_hasParish yX3_hasParish ∈ TB := ⟨tb (i := 467) (by decide +kernel) rfl, tb (i := 468) (by decide +kernel) rfl⟩
abbrev mX3_hasRoad : mM := (RX3, cX3_hasRoad, 2, (some .boolean))
set_option maxRecDepth 100000 in
theorem i_X3_hasRoad : MI yX3_hasRoad mX3_hasRoad 1 := ⟨rfl, pn_X3.1, tcc2 (i := 15) rfl rfl, pn_X3.2.1, ⟨pn_X3.2.2.1, pn_X3.2.2.2, pd_12⟩, by decide⟩
theorem v_X3_hasRoad : Cond.instanceMethod yX3_hasRoad ∈ TB ∧ Cond.selects RX3 yX3_hasRoad yX3_hasRoad ∈ TB := ⟨tb (i := 493) (by decide +kernel) rfl, tb (i := 494) (by decide +kernel) rfl⟩
abbrev mX3_hasSet : mM := (RX3, cX3_hasSet, 2, (some .boolean))
set_option maxRecDepth 100000 in
theorem i_X3_hasSet : MI yX3_hasSet mX3_hasSet 1 := ⟨rfl, pn_X3.1, tcc4 (i := 32) rfl rfl, pn_X3.2.1, ⟨pn_X3.2.2.1, pn_X3.2.2.2, pd_12⟩, by decide⟩
theorem v_X3_hasSet : Cond.instanceMethod yX3_hasSet ∈ TB ∧ Cond.selects RX3 yX3_hasSet yX3_hasSet ∈ TB := ⟨tb (i := 926) (by decide +kernel) rfl, tb (i := 927) (by decide +kernel) rfl⟩
abbrev mX3_addParish : mM := (RX3, cX3_addParish, 4, (some .int))
set_option maxRecDepth 100000 in
theorem i_X3_addParish : MI yX3_addParish mX3_addParish 1 := ⟨rfl, pn_X3.1, tcc2 (i := 6) rfl rfl, pn_X3.2.1, ⟨pn_X3.2.2.1, pn_X3.2.2.2, pd_3⟩, by decide⟩
theorem v_X3_addParish : Cond.instanceMethod yX3_addParish ∈ TB ∧ Cond.selects RX3 yX3_addParish yX3_addParish ∈ TB := ⟨tb (i := 459) (by decide +kernel) rfl, tb (i := 460) (by decide +kernel) rfl⟩
abbrev mX3_addRoad : mM := (RX3, cX3_addRoad, 5, (some .int))
set_option maxRecDepth 100000 in
theorem i_X3_addRoad : MI yX3_addRoad mX3_addRoad 3 := ⟨rfl, pn_X3.1, tcc2 (i := 13) rfl rfl, pn_X3.2.1, ⟨pn_X3.2.2.1, pn_X3.2.2.2, pd_2⟩, by decide⟩
theorem v_X3_addRoad : Cond.instanceMethod yX3_addRoad ∈ TB ∧ Cond.selects RX3 yX3_addRoad yX3_addRoad ∈ TB := ⟨tb (i := 485) (by decide +kernel) rfl, tb (i := 486) (by decide +kernel) rfl⟩
abbrev mX3_joins : mM := (RX3, cX3_joins, 4, (some .boolean))
set_option maxRecDepth 100000 in
theorem i_X3_joins : MI yX3_joins mX3_joins 2 := ⟨rfl, pn_X3.1, tcc2 (i := 10) rfl rfl, pn_X3.2.1, ⟨pn_X3.2.2.1, pn_X3.2.2.2, pd_13⟩, by decide⟩
theorem v_X3_joins : Cond.instanceMethod yX3_joins ∈ TB ∧ Cond.selects RX3 yX3_joins yX3_joins ∈ TB := ⟨tb (i := 475) (by decide +kernel) rfl, tb (i := 476) (by decide +kernel) rfl⟩
abbrev mX3_roadsAt : mM := (RX3, cX3_roadsAt, 4, (some .int))
set_option maxRecDepth 100000 in
theorem i_X3_roadsAt : MI yX3_roadsAt mX3_roadsAt 1 := ⟨rfl, pn_X3.1, tcc3 (i := 3) rfl rfl, pn_X3.2.1, ⟨pn_X3.2.2.1, pn_X3.2.2.2, pd_3⟩, by decide⟩
theorem v_X3_roadsAt : Cond.instanceMethod yX3_roadsAt ∈ TB ∧ Cond.selects RX3 yX3_roadsAt yX3_roadsAt ∈ TB := ⟨tb (i := 551) (by decide +kernel) rfl, tb (i := 552) (by decide +kernel) rfl⟩
abbrev mX3_otherEnd : mM := (RX3, cX3_otherEnd, 3, (some .int))
set_option maxRecDepth 100000 in
theorem i_X3_otherEnd : MI yX3_otherEnd mX3_otherEnd 2 := ⟨rfl, pn_X3.1, tcc3 (i := 4) rfl rfl, pn_X3.2.1, ⟨pn_X3.2.2.1, pn_X3.2.2.2, pd_10⟩, by decide⟩
theorem v_X3_otherEnd : Cond.instanceMethod yX3_otherEnd ∈ TB ∧ Cond.selects RX3 yX3_otherEnd yX3_otherEnd ∈ TB := ⟨tb (i := 555) (by decide +kernel) rfl, tb (i := 556) (by decide +kernel) rfl⟩
abbrev mX3_copyFrom : mM := (RX3, cX3_copyFrom, 2, none)
set_option maxRecDepth 100000 in
theorem i_X3_copyFrom : MI yX3_copyFrom mX3_copyFrom 1 := ⟨rfl, pn_X3.1, tcc3 (i := 48) rfl rfl, pn_X3.2.1, ⟨pn_X3.2.2.1, pn_X3.2.2.2, pd_14⟩, by decide⟩
theorem v_X3_copyFrom : Cond.instanceMethod yX3_copyFrom ∈ TB ∧ Cond.selects RX3 yX3_copyFrom yX3_copyFrom ∈ TB := ⟨tb (i := 737) (by decide +kernel) rfl, tb (i := 738) (by decide +kernel) rfl⟩
abbrev mX4_init : mM := (RX4, cX4_init, 3, none)
abbrev mX4_worth : mM := (RX4, cX4_worth, 4, (some .int))
set_option maxRecDepth 100000 in
theorem i_X4_worth : MI yX4_worth mX4_worth 2 := ⟨rfl, pn_X4.1, tcc4 (i := 33) rfl rfl, pn_X4.2.1, ⟨pn_X4.2.2.1, pn_X4.2.2.2, pd_10⟩, by decide⟩
theorem v_X4_worth : Cond.instanceMethod yX4_worth ∈ TB ∧ Cond.selects RX4 yX4_worth yX4_worth ∈ TB := ⟨tb (i := 930) (by decide +kernel) rfl, tb (i := 931) (by decide +kernel) rfl⟩
abbrev mX4_findPart : mM := (RX4, cX4_findPart, 10, none)
set_option maxRecDepth 100000 in
theorem i_X4_findPart : MI yX4_findPart mX4_findPart 3 := ⟨rfl, pn_X4.1, tcc4 (i := 37) rfl rfl, pn_X4.2.1, ⟨pn_X4.2.2.1, pn_X4.2.2.2, pd_5⟩, by decide⟩
theorem v_X4_findPart : Cond.instanceMethod yX4_findPart ∈ TB ∧ Cond.selects RX4 yX4_findPart yX4_findPart ∈ TB := ⟨tb (i := 950) (by decide +kernel) rfl, tb (i := 951) (by decide +kernel) rfl⟩
abbrev mX4_findTotals : mM := (RX4, cX4_findTotals, 5, none)
set_option maxRecDepth 100000 in
theorem i_X4_findTotals : MI yX4_findTotals mX4_findTotals 2 := ⟨rfl, pn_X4.1, tcc4 (i := 38) rfl rfl, pn_X4.2.1, ⟨pn_X4.2.2.1, pn_X4.2.2.2, pd_15⟩, by decide⟩
theorem v_X4_findTotals : Cond.instanceMethod yX4_findTotals ∈ TB ∧ Cond.selects RX4 yX4_findTotals yX4_findTotals ∈ TB := ⟨tb (i := 955) (by decide +kernel) rfl, tb (i := 26) (by decide +kernel) rfl⟩
abbrev mX4_addTotal : mM := (RX4, cX4_addTotal, 3, none)
set_option maxRecDepth 100000 in
theorem i_X4_addTotal : MI yX4_addTotal mX4_addTotal 2 := ⟨rfl, pn_X4.1, tcc4 (i := 34) rfl rfl, pn_X4.2.1, ⟨pn_X4.2.2.1, pn_X4.2.2.2, pd_15⟩, by decide⟩
theorem v_X4_addTotal : Cond.instanceMethod yX4_addTotal ∈ TB ∧ Cond.selects RX4 yX4_addTotal yX4_addTotal ∈ TB := ⟨tb (i := 937) (by decide +kernel) rfl, tb (i := 24) (by decide +kernel) rfl⟩
abbrev mX4_commonDivisor : mM := (RX4, cX4_commonDivisor, 11, (some .long))
set_option maxRecDepth 100000 in
theorem i_X4_commonDivisor : MI yX4_commonDivisor mX4_commonDivisor 2 := ⟨rfl, pn_X4.1, tcc4 (i := 39) rfl rfl, pn_X4.2.1, ⟨pn_X4.2.2.1, pn_X4.2.2.2, pd_16⟩, by decide⟩
theorem s_X4_commonDivisor : Cond.static yX4_commonDivisor ∈ TB := tb (i := 962) (by decide +kernel) rfl
abbrev mX5_init : mM := (RX5, cX5_init, 2, none)
abbrev mX5_harness : mM := (RX5, cX5_harness, 6, none)
set_option maxRecDepth 100000 in
theorem i_X5_harness : MI yX5_harness mX5_harness 1 := ⟨rfl, pn_X5.1, tcc3 (i := 55) rfl rfl, pn_X5.2.1, ⟨pn_X5.2.2.1, pn_X5.2.2.2, pd_18⟩, by decide⟩
theorem v_X5_harness : Cond.instanceMethod yX5_harness ∈ TB ∧ Cond.selects RX5 yX5_harness yX5_harness ∈ TB := ⟨tb (i := 772) (by decide +kernel) rfl, tb (i := 773) (by decide +kernel) rfl⟩
abbrev mX5_weigh : mM := (RX5, cX5_weigh, 3, none)
set_option maxRecDepth 100000 in
theorem i_X5_weigh : MI yX5_weigh mX5_weigh 1 := ⟨rfl, pn_X5.1, tcc4 (i := 0) rfl rfl, pn_X5.2.1, ⟨pn_X5.2.2.1, pn_X5.2.2.2, pd_18⟩, by decide⟩
theorem v_X5_weigh : Cond.instanceMethod yX5_weigh ∈ TB ∧ Cond.selects RX5 yX5_weigh yX5_weigh ∈ TB := ⟨tb (i := 779) (by decide +kernel) rfl, tb (i := 780) (by decide +kernel) rfl⟩
abbrev mX5_spread : mM := (RX5, cX5_spread, 4, none)
set_option maxRecDepth 100000 in
theorem i_X5_spread : MI yX5_spread mX5_spread 1 := ⟨rfl, pn_X5.1, tcc4 (i := 3) rfl rfl, pn_X5.2.1, ⟨pn_X5.2.2.1, pn_X5.2.2.2, pd_18⟩, by decide⟩
theorem v_X5_spread : Cond.instanceMethod yX5_spread ∈ TB ∧ Cond.selects RX5 yX5_spread yX5_spread ∈ TB := ⟨tb (i := 792) (by decide +kernel) rfl, tb (i := 793) (by decide +kernel) rfl⟩
abbrev mX5_bestPlace : mM := (RX5, cX5_bestPlace, 8, (some .int))
set_option maxRecDepth 100000 in
theorem i_X5_bestPlace : MI yX5_bestPlace mX5_bestPlace 2 := ⟨rfl, pn_X5.1, tcc4 (i := 14) rfl rfl, pn_X5.2.1, ⟨pn_X5.2.2.1, pn_X5.2.2.2, pd_10⟩, by decide⟩
theorem v_X5_bestPlace : Cond.instanceMethod yX5_bestPlace ∈ TB ∧ Cond.selects RX5 yX5_bestPlace yX5_bestPlace ∈ TB := ⟨tb (i := 843) (by decide +kernel) rfl, tb (i := 844) (by decide +kernel) rfl⟩
abbrev mX5_marketOf : mM := (RX5, cX5_marketOf, 2, (some .int))
set_option maxRecDepth 100000 in
theorem i_X5_marketOf : MI yX5_marketOf mX5_marketOf 1 := ⟨rfl, pn_X5.1, tcc4 (i := 13) rfl rfl, pn_X5.2.1, ⟨pn_X5.2.2.1, pn_X5.2.2.2, pd_3⟩, by decide⟩
theorem v_X5_marketOf : Cond.instanceMethod yX5_marketOf ∈ TB ∧ Cond.selects RX5 yX5_marketOf yX5_marketOf ∈ TB := ⟨tb (i := 838) (by decide +kernel) rfl, tb (i := 839) (by decide +kernel) rfl⟩
abbrev mX5_start : mM := (RX5, cX5_start, 3, none)
set_option maxRecDepth 100000 in
theorem i_X5_start : MI yX5_start mX5_start 1 := ⟨rfl, pn_X5.1, tcc4 (i := 4) rfl rfl, pn_X5.2.1, ⟨pn_X5.2.2.1, pn_X5.2.2.2, pd_18⟩, by decide⟩
theorem v_X5_start : Cond.instanceMethod yX5_start ∈ TB ∧ Cond.selects RX5 yX5_start yX5_start ∈ TB := ⟨tb (i := 797) (by decide +kernel) rfl, tb (i := 12) (by decide +kernel) rfl⟩
abbrev mX5_heaviestOpen : mM := (RX5, cX5_heaviestOpen, 3, (some .int))
set_option maxRecDepth 100000 in
theorem i_X5_heaviestOpen : MI yX5_heaviestOpen mX5_heaviestOpen 0 := ⟨rfl, pn_X5.1, tcc4 (i := 15) rfl rfl, pn_X5.2.1, ⟨pn_X5.2.2.1, pn_X5.2.2.2, pd_7⟩, by decide⟩
theorem v_X5_heaviestOpen : Cond.instanceMethod yX5_heaviestOpen ∈ TB ∧ Cond.selects RX5 yX5_heaviestOpen yX5_heaviestOpen ∈ TB := ⟨tb (i := 848) (by decide +kernel) rfl, tb (i := 19) (by decide +kernel) rfl⟩
abbrev mX5_nearest : mM := (RX5, cX5_nearest, 4, (some .int))
set_option maxRecDepth 100000 in
theorem i_X5_nearest : MI yX5_nearest mX5_nearest 0 := ⟨rfl, pn_X5.1, tcc4 (i := 5) rfl rfl, pn_X5.2.1, ⟨pn_X5.2.2.1, pn_X5.2.2.2, pd_7⟩, by decide⟩
theorem v_X5_nearest : Cond.instanceMethod yX5_nearest ∈ TB ∧ Cond.selects RX5 yX5_nearest yX5_nearest ∈ TB := ⟨tb (i := 802) (by decide +kernel) rfl, tb (i := 13) (by decide +kernel) rfl⟩
abbrev mX5_leave : mM := (RX5, cX5_leave, 4, none)
set_option maxRecDepth 100000 in
theorem i_X5_leave : MI yX5_leave mX5_leave 1 := ⟨rfl, pn_X5.1, tcc4 (i := 6) rfl rfl, pn_X5.2.1, ⟨pn_X5.2.2.1, pn_X5.2.2.2, pd_18⟩, by decide⟩
theorem v_X5_leave : Cond.instanceMethod yX5_leave ∈ TB ∧ Cond.selects RX5 yX5_leave yX5_leave ∈ TB := ⟨tb (i := 806) (by decide +kernel) rfl, tb (i := 14) (by decide +kernel) rfl⟩
abbrev mX5_roadCost : mM := (RX5, cX5_roadCost, 4, (some .int))
set_option maxRecDepth 100000 in
theorem i_X5_roadCost : MI yX5_roadCost mX5_roadCost 2 := ⟨rfl, pn_X5.1, tcc4 (i := 7) rfl rfl, pn_X5.2.1, ⟨pn_X5.2.2.1, pn_X5.2.2.2, pd_10⟩, by decide⟩
theorem v_X5_roadCost : Cond.instanceMethod yX5_roadCost ∈ TB ∧ Cond.selects RX5 yX5_roadCost yX5_roadCost ∈ TB := ⟨tb (i := 810) (by decide +kernel) rfl, tb (i := 15) (by decide +kernel) rfl⟩
abbrev mX5_leads : mM := (RX5, cX5_leads, 3, (some .boolean))
set_option maxRecDepth 100000 in
theorem i_X5_leads : MI yX5_leads mX5_leads 2 := ⟨rfl, pn_X5.1, tcc4 (i := 19) rfl rfl, pn_X5.2.1, ⟨pn_X5.2.2.1, pn_X5.2.2.2, pd_13⟩, by decide⟩
theorem v_X5_leads : Cond.instanceMethod yX5_leads ∈ TB ∧ Cond.selects RX5 yX5_leads yX5_leads ∈ TB := ⟨tb (i := 866) (by decide +kernel) rfl, tb (i := 867) (by decide +kernel) rfl⟩
abbrev mX5_spreadAll : mM := (RX5, cX5_spreadAll, 2, none)
set_option maxRecDepth 100000 in
theorem i_X5_spreadAll : MI yX5_spreadAll mX5_spreadAll 0 := ⟨rfl, pn_X5.1, tcc4 (i := 2) rfl rfl, pn_X5.2.1, ⟨pn_X5.2.2.1, pn_X5.2.2.2, pd_4⟩, by decide⟩
theorem v_X5_spreadAll : Cond.instanceMethod yX5_spreadAll ∈ TB ∧ Cond.selects RX5 yX5_spreadAll yX5_spreadAll ∈ TB := ⟨tb (i := 788) (by decide +kernel) rfl, tb (i := 789) (by decide +kernel) rfl⟩
abbrev mX5_trace : mM := (RX5, cX5_trace, 6, (some .boolean))
set_option maxRecDepth 100000 in
theorem i_X5_trace : MI yX5_trace mX5_trace 2 := ⟨rfl, pn_X5.1, tcc4 (i := 1) rfl rfl, pn_X5.2.1, ⟨pn_X5.2.2.1, pn_X5.2.2.2, pd_13⟩, by decide⟩
theorem v_X5_trace : Cond.instanceMethod yX5_trace ∈ TB ∧ Cond.selects RX5 yX5_trace yX5_trace ∈ TB := ⟨tb (i := 784) (by decide +kernel) rfl, tb (i := 785) (by decide +kernel) rfl⟩
abbrev mX5_findNext : mM := (RX5, cX5_findNext, 5, none)
set_option maxRecDepth 100000 in
theorem i_X5_findNext : MI yX5_findNext mX5_findNext 1 := ⟨rfl, pn_X5.1, tcc4 (i := 8) rfl rfl, pn_X5.2.1, ⟨pn_X5.2.2.1, pn_X5.2.2.2, pd_18⟩, by decide⟩
theorem v_X5_findNext : Cond.instanceMethod yX5_findNext ∈ TB ∧ Cond.selects RX5 yX5_findNext yX5_findNext ∈ TB := ⟨tb (i := 815) (by decide +kernel) rfl, tb (i := 16) (by decide +kernel) rfl⟩
abbrev mX5_firstStep : mM := (RX5, cX5_firstStep, 6, (some .int))
set_option maxRecDepth 100000 in
theorem i_X5_firstStep : MI yX5_firstStep mX5_firstStep 3 := ⟨rfl, pn_X5.1, tcc4 (i := 9) rfl rfl, pn_X5.2.1, ⟨pn_X5.2.2.1, pn_X5.2.2.2, pd_2⟩, by decide⟩
theorem v_X5_firstStep : Cond.instanceMethod yX5_firstStep ∈ TB ∧ Cond.selects RX5 yX5_firstStep yX5_firstStep ∈ TB := ⟨tb (i := 819) (by decide +kernel) rfl, tb (i := 17) (by decide +kernel) rfl⟩
abbrev mX5_reaches : mM := (RX5, cX5_reaches, 7, (some .boolean))
set_option maxRecDepth 100000 in
theorem i_X5_reaches : MI yX5_reaches mX5_reaches 3 := ⟨rfl, pn_X5.1, tcc4 (i := 10) rfl rfl, pn_X5.2.1, ⟨pn_X5.2.2.1, pn_X5.2.2.2, pd_19⟩, by decide⟩
theorem v_X5_reaches : Cond.instanceMethod yX5_reaches ∈ TB ∧ Cond.selects RX5 yX5_reaches yX5_reaches ∈ TB := ⟨tb (i := 823) (by decide +kernel) rfl, tb (i := 18) (by decide +kernel) rfl⟩
abbrev mX6_init : mM := (RX6, cX6_init, 1, none)
abbrev mX6_isSheet : mM := (RX6, cX6_isSheet, 1, (some .boolean))
set_option maxRecDepth 100000 in
theorem i_X6_isSheet : MI yX6_isSheet mX6_isSheet 1 := ⟨rfl, pn_X6.1, tcc4 (i := 50) rfl rfl, pn_X6.2.1, ⟨pn_X6.2.2.1, pn_X6.2.2.2, pd_12⟩, by decide⟩
theorem s_X6_isSheet : Cond.static yX6_isSheet ∈ TB := tb (i := 1006) (by decide +kernel) rfl
abbrev mX6_isLane : mM := (RX6, cX6_isLane, 2, (some .boolean))
set_option maxRecDepth 100000 in
theorem i_X6_isLane : MI yX6_isLane mX6_isLane 2 := ⟨rfl, pn_X6.1, tcc4 (i := 49) rfl rfl, pn_X6.2.1, ⟨pn_X6.2.2.1, pn_X6.2.2.2, pd_13⟩, by decide⟩
theorem s_X6_isLane : Cond.static yX6_isLane ∈ TB := tb (i := 1003) (by decide +kernel) rfl
abbrev mX6_isMissing : mM := (RX6, cX6_isMissing, 2, (some .boolean))
set_option maxRecDepth 100000 in
theorem i_X6_isMissing : MI yX6_isMissing mX6_isMissing 1 := ⟨rfl, pn_X6.1, tcc4 (i := 52) rfl rfl, pn_X6.2.1, ⟨pn_X6.2.2.1, pn_X6.2.2.2, pd_12⟩, by decide⟩
theorem v_X6_isMissing : Cond.instanceMethod yX6_isMissing ∈ TB ∧ Cond.selects RX6 yX6_isMissing yX6_isMissing ∈ TB := ⟨tb (i := 1013) (by decide +kernel) rfl, tb (i := 1014) (by decide +kernel) rfl⟩
abbrev mX6_fault : mM := (RX6, cX6_fault, 5, (some .int))
set_option maxRecDepth 100000 in
theorem i_X6_fault : MI yX6_fault mX6_fault 4 := ⟨rfl, pn_X6.1, tcc4 (i := 51) rfl rfl, pn_X6.2.1, ⟨pn_X6.2.2.1, pn_X6.2.2.2, pd_20⟩, by decide⟩
theorem v_X6_fault : Cond.instanceMethod yX6_fault ∈ TB ∧ Cond.selects RX6 yX6_fault yX6_fault ∈ TB := ⟨tb (i := 1009) (by decide +kernel) rfl, tb (i := 1010) (by decide +kernel) rfl⟩
abbrev mX6_holds : mM := (RX6, cX6_holds, 4, (some .boolean))
set_option maxRecDepth 100000 in
theorem i_X6_holds : MI yX6_holds mX6_holds 3 := ⟨rfl, pn_X6.1, tcc5 (i := 0) rfl rfl, pn_X6.2.1, ⟨pn_X6.2.2.1, pn_X6.2.2.2, pd_19⟩, by decide⟩
theorem v_X6_holds : Cond.instanceMethod yX6_holds ∈ TB ∧ Cond.selects RX6 yX6_holds yX6_holds ∈ TB := ⟨tb (i := 1017) (by decide +kernel) rfl, tb (i := 1018) (by decide +kernel) rfl⟩
abbrev mX6_renew : mM := (RX6, cX6_renew, 4, none)
set_option maxRecDepth 100000 in
theorem i_X6_renew : MI yX6_renew mX6_renew 3 := ⟨rfl, pn_X6.1, tcc5 (i := 15) rfl rfl, pn_X6.2.1, ⟨pn_X6.2.2.1, pn_X6.2.2.2, pd_5⟩, by decide⟩
theorem v_X6_renew : Cond.instanceMethod yX6_renew ∈ TB ∧ Cond.selects RX6 yX6_renew yX6_renew ∈ TB := ⟨tb (i := 1085) (by decide +kernel) rfl, tb (i := 1086) (by decide +kernel) rfl⟩
abbrev mX6_empty : mM := (RX6, cX6_empty, 2, (some .int))
set_option maxRecDepth 100000 in
theorem i_X6_empty : MI yX6_empty mX6_empty 1 := ⟨rfl, pn_X6.1, tcc5 (i := 18) rfl rfl, pn_X6.2.1, ⟨pn_X6.2.2.1, pn_X6.2.2.2, pd_3⟩, by decide⟩
theorem v_X6_empty : Cond.instanceMethod yX6_empty ∈ TB ∧ Cond.selects RX6 yX6_empty yX6_empty ∈ TB := ⟨tb (i := 1098) (by decide +kernel) rfl, tb (i := 1099) (by decide +kernel) rfl⟩
abbrev mX6_put : mM := (RX6, cX6_put, 5, none)
set_option maxRecDepth 100000 in
theorem i_X6_put : MI yX6_put mX6_put 3 := ⟨rfl, pn_X6.1, tcc5 (i := 13) rfl rfl, pn_X6.2.1, ⟨pn_X6.2.2.1, pn_X6.2.2.2, pd_21⟩, by decide⟩
theorem v_X6_put : Cond.instanceMethod yX6_put ∈ TB ∧ Cond.selects RX6 yX6_put yX6_put ∈ TB := ⟨tb (i := 1077) (by decide +kernel) rfl, tb (i := 1078) (by decide +kernel) rfl⟩
abbrev mX7_init : mM := (RX7, cX7_init, 1, none)
abbrev mX7_seasonOf : mM := (RX7, cX7_seasonOf, 1, (some .int))
set_option maxRecDepth 100000 in
theorem i_X7_seasonOf : MI yX7_seasonOf mX7_seasonOf 1 := ⟨rfl, pn_X7.1, tcc2 (i := 25) rfl rfl, pn_X7.2.1, ⟨pn_X7.2.2.1, pn_X7.2.2.2, pd_3⟩, by decide⟩
theorem s_X7_seasonOf : Cond.static yX7_seasonOf ∈ TB := tb (i := 533) (by decide +kernel) rfl
abbrev mX7_season : mM := (RX7, cX7_season, 1, (some .int))
set_option maxRecDepth 100000 in
theorem i_X7_season : MI yX7_season mX7_season 0 := ⟨rfl, pn_X7.1, tcc2 (i := 24) rfl rfl, pn_X7.2.1, ⟨pn_X7.2.2.1, pn_X7.2.2.2, pd_7⟩, by decide⟩
theorem v_X7_season : Cond.instanceMethod yX7_season ∈ TB ∧ Cond.selects RX7 yX7_season yX7_season ∈ TB := ⟨tb (i := 529) (by decide +kernel) rfl, tb (i := 530) (by decide +kernel) rfl⟩
abbrev mX7_weightAt : mM := (RX7, cX7_weightAt, 3, (some .int))
set_option maxRecDepth 100000 in
theorem i_X7_weightAt : MI yX7_weightAt mX7_weightAt 2 := ⟨rfl, pn_X7.1, tcc2 (i := 23) rfl rfl, pn_X7.2.1, ⟨pn_X7.2.2.1, pn_X7.2.2.2, pd_10⟩, by decide⟩
theorem v_X7_weightAt : Cond.instanceMethod yX7_weightAt ∈ TB ∧ Cond.selects RX7 yX7_weightAt yX7_weightAt ∈ TB := ⟨tb (i := 525) (by decide +kernel) rfl, tb (i := 526) (by decide +kernel) rfl⟩
abbrev mX7_weightOfGood : mM := (RX7, cX7_weightOfGood, 2, (some .int))
set_option maxRecDepth 100000 in
theorem i_X7_weightOfGood : MI yX7_weightOfGood mX7_weightOfGood 1 := ⟨rfl, pn_X7.1, tcc2 (i := 22) rfl rfl, pn_X7.2.1, ⟨pn_X7.2.2.1, pn_X7.2.2.2, pd_3⟩, by decide⟩
theorem v_X7_weightOfGood : Cond.instanceMethod yX7_weightOfGood ∈ TB ∧ Cond.selects RX7 yX7_weightOfGood yX7_weightOfGood ∈ TB := ⟨tb (i := 521) (by decide +kernel) rfl, tb (i := 522) (by decide +kernel) rfl⟩
abbrev mX7_hasCart : mM := (RX7, cX7_hasCart, 2, (some .boolean))
set_option maxRecDepth 100000 in
theorem i_X7_hasCart : MI yX7_hasCart mX7_hasCart 1 := ⟨rfl, pn_X7.1, tcc3 (i := 9) rfl rfl, pn_X7.2.1, ⟨pn_X7.2.2.1, pn_X7.2.2.2, pd_12⟩, by decide⟩
theorem v_X7_hasCart : Cond.instanceMethod yX7_hasCart ∈ TB ∧ Cond.selects RX7 yX7_hasCart yX7_hasCart ∈ TB := ⟨tb (i := 574) (by decide +kernel) rfl, tb (i := 575) (by decide +kernel) rfl⟩
abbrev mX7_hasGood : mM := (RX7, cX7_hasGood, 2, (some .boolean))
set_option maxRecDepth 100000 in
theorem i_X7_hasGood : MI yX7_hasGood mX7_hasGood 1 := ⟨rfl, pn_X7.1, tcc2 (i := 21) rfl rfl, pn_X7.2.1, ⟨pn_X7.2.2.1, pn_X7.2.2.2, pd_12⟩, by decide⟩
theorem v_X7_hasGood : Cond.instanceMethod yX7_hasGood ∈ TB ∧ Cond.selects RX7 yX7_hasGood yX7_hasGood ∈ TB := ⟨tb (i := 517) (by decide +kernel) rfl, tb (i := 518) (by decide +kernel) rfl⟩
abbrev mX7_addCart : mM := (RX7, cX7_addCart, 3, (some .int))
set_option maxRecDepth 100000 in
theorem i_X7_addCart : MI yX7_addCart mX7_addCart 2 := ⟨rfl, pn_X7.1, tcc2 (i := 17) rfl rfl, pn_X7.2.1, ⟨pn_X7.2.2.1, pn_X7.2.2.2, pd_10⟩, by decide⟩
theorem v_X7_addCart : Cond.instanceMethod yX7_addCart ∈ TB ∧ Cond.selects RX7 yX7_addCart yX7_addCart ∈ TB := ⟨tb (i := 501) (by decide +kernel) rfl, tb (i := 502) (by decide +kernel) rfl⟩
abbrev mX7_addGood : mM := (RX7, cX7_addGood, 4, (some .int))
set_option maxRecDepth 100000 in
theorem i_X7_addGood : MI yX7_addGood mX7_addGood 3 := ⟨rfl, pn_X7.1, tcc2 (i := 19) rfl rfl, pn_X7.2.1, ⟨pn_X7.2.2.1, pn_X7.2.2.2, pd_2⟩, by decide⟩
theorem v_X7_addGood : Cond.instanceMethod yX7_addGood ∈ TB ∧ Cond.selects RX7 yX7_addGood yX7_addGood ∈ TB := ⟨tb (i := 509) (by decide +kernel) rfl, tb (i := 510) (by decide +kernel) rfl⟩
abbrev mX7_addPerson : mM := (RX7, cX7_addPerson, 3, (some .int))
set_option maxRecDepth 100000 in
theorem i_X7_addPerson : MI yX7_addPerson mX7_addPerson 2 := ⟨rfl, pn_X7.1, tcc3 (i := 1) rfl rfl, pn_X7.2.1, ⟨pn_X7.2.2.1, pn_X7.2.2.2, pd_10⟩, by decide⟩
theorem v_X7_addPerson : Cond.instanceMethod yX7_addPerson ∈ TB ∧ Cond.selects RX7 yX7_addPerson yX7_addPerson ∈ TB := ⟨tb (i := 543) (by decide +kernel) rfl, tb (i := 544) (by decide +kernel) rfl⟩
abbrev mX7_hanging : mM := (RX7, cX7_hanging, 3, (some .int))
set_option maxRecDepth 100000 in
theorem i_X7_hanging : MI yX7_hanging mX7_hanging 0 := ⟨rfl, pn_X7.1, tcc3 (i := 50) rfl rfl, pn_X7.2.1, ⟨pn_X7.2.2.1, pn_X7.2.2.2, pd_7⟩, by decide⟩
theorem v_X7_hanging : Cond.instanceMethod yX7_hanging ∈ TB ∧ Cond.selects RX7 yX7_hanging yX7_hanging ∈ TB := ⟨tb (i := 750) (by decide +kernel) rfl, tb (i := 751) (by decide +kernel) rfl⟩
abbrev mX7_passWeek : mM := (RX7, cX7_passWeek, 4, (some .int))
set_option maxRecDepth 100000 in
theorem i_X7_passWeek : MI yX7_passWeek mX7_passWeek 0 := ⟨rfl, pn_X7.1, tcc3 (i := 52) rfl rfl, pn_X7.2.1, ⟨pn_X7.2.2.1, pn_X7.2.2.2, pd_7⟩, by decide⟩
theorem v_X7_passWeek : Cond.instanceMethod yX7_passWeek ∈ TB ∧ Cond.selects RX7 yX7_passWeek yX7_passWeek ∈ TB := ⟨tb (i := 758) (by decide +kernel) rfl, tb (i := 759) (by decide +kernel) rfl⟩
abbrev mX7_lighterParish : mM := (RX7, cX7_lighterParish, 8, (some .int))
set_option maxRecDepth 100000 in
theorem i_X7_lighterParish : MI yX7_lighterParish mX7_lighterParish 1 := ⟨rfl, pn_X7.1, tcc3 (i := 53) rfl rfl, pn_X7.2.1, ⟨pn_X7.2.2.1, pn_X7.2.2.2, pd_3⟩, by decide⟩
theorem v_X7_lighterParish : Cond.instanceMethod yX7_lighterParish ∈ TB ∧ Cond.selects RX7 yX7_lighterParish yX7_lighterParish ∈ TB := ⟨tb (i := 763) (by decide +kernel) rfl, tb (i := 11) (by decide +kernel) rfl⟩
abbrev mX7_wouldFall : mM := (RX7, cX7_wouldFall, 5, (some .int))
set_option maxRecDepth 100000 in
theorem i_X7_wouldFall : MI yX7_wouldFall mX7_wouldFall 2 := ⟨rfl, pn_X7.1, tcc4 (i := 42) rfl rfl, pn_X7.2.1, ⟨pn_X7.2.2.1, pn_X7.2.2.2, pd_10⟩, by decide⟩
theorem v_X7_wouldFall : Cond.instanceMethod yX7_wouldFall ∈ TB ∧ Cond.selects RX7 yX7_wouldFall yX7_wouldFall ∈ TB := ⟨tb (i := 974) (by decide +kernel) rfl, tb (i := 975) (by decide +kernel) rfl⟩
abbrev mX7_wouldBeLighter : mM := (RX7, cX7_wouldBeLighter, 6, (some .int))
set_option maxRecDepth 100000 in
theorem i_X7_wouldBeLighter : MI yX7_wouldBeLighter mX7_wouldBeLighter 2 := ⟨rfl, pn_X7.1, tcc4 (i := 43) rfl rfl, pn_X7.2.1, ⟨pn_X7.2.2.1, pn_X7.2.2.2, pd_10⟩, by decide⟩
theorem v_X7_wouldBeLighter : Cond.instanceMethod yX7_wouldBeLighter ∈ TB ∧ Cond.selects RX7 yX7_wouldBeLighter yX7_wouldBeLighter ∈ TB := ⟨tb (i := 978) (by decide +kernel) rfl, tb (i := 979) (by decide +kernel) rfl⟩
abbrev mX7_settle : mM := (RX7, cX7_settle, 2, none)
set_option maxRecDepth 100000 in
theorem i_X7_settle : MI yX7_settle mX7_settle 1 := ⟨rfl, pn_X7.1, tcc3 (i := 47) rfl rfl, pn_X7.2.1, ⟨pn_X7.2.2.1, pn_X7.2.2.2, pd_14⟩, by decide⟩
theorem v_X7_settle : Cond.instanceMethod yX7_settle ∈ TB ∧ Cond.selects RX7 yX7_settle yX7_settle ∈ TB := ⟨tb (i := 733) (by decide +kernel) rfl, tb (i := 734) (by decide +kernel) rfl⟩
abbrev mX7_copyFrom : mM := (RX7, cX7_copyFrom, 2, none)
set_option maxRecDepth 100000 in
theorem i_X7_copyFrom : MI yX7_copyFrom mX7_copyFrom 1 := ⟨rfl, pn_X7.1, tcc4 (i := 46) rfl rfl, pn_X7.2.1, ⟨pn_X7.2.2.1, pn_X7.2.2.2, pd_17⟩, by decide⟩
theorem v_X7_copyFrom : Cond.instanceMethod yX7_copyFrom ∈ TB ∧ Cond.selects RX7 yX7_copyFrom yX7_copyFrom ∈ TB := ⟨tb (i := 990) (by decide +kernel) rfl, tb (i := 991) (by decide +kernel) rfl⟩
abbrev mX8_init : mM := (RX8, cX8_init, 1, none)
abbrev mX8_isFull : mM := (RX8, cX8_isFull, 1, (some .boolean))
set_option maxRecDepth 100000 in
theorem i_X8_isFull : MI yX8_isFull mX8_isFull 0 := ⟨rfl, pn_X8.1, tcc3 (i := 14) rfl rfl, pn_X8.2.1, ⟨pn_X8.2.2.1, pn_X8.2.2.2, pd_22⟩, by decide⟩
theorem v_X8_isFull : Cond.instanceMethod yX8_isFull ∈ TB ∧ Cond.selects RX8 yX8_isFull yX8_isFull ∈ TB := ⟨tb (i := 595) (by decide +kernel) rfl, tb (i := 596) (by decide +kernel) rfl⟩
abbrev mX8_add : mM := (RX8, cX8_add, 2, (some .int))
set_option maxRecDepth 100000 in
theorem i_X8_add : MI yX8_add mX8_add 1 := ⟨rfl, pn_X8.1, tcc3 (i := 15) rfl rfl, pn_X8.2.1, ⟨pn_X8.2.2.1, pn_X8.2.2.2, pd_3⟩, by decide⟩
theorem v_X8_add : Cond.instanceMethod yX8_add ∈ TB ∧ Cond.selects RX8 yX8_add yX8_add ∈ TB := ⟨tb (i := 599) (by decide +kernel) rfl, tb (i := 600) (by decide +kernel) rfl⟩
abbrev mX8_clear : mM := (RX8, cX8_clear, 1, none)
set_option maxRecDepth 100000 in
theorem i_X8_clear : MI yX8_clear mX8_clear 0 := ⟨rfl, pn_X8.1, tcc3 (i := 46) rfl rfl, pn_X8.2.1, ⟨pn_X8.2.2.1, pn_X8.2.2.2, pd_4⟩, by decide⟩
theorem v_X8_clear : Cond.instanceMethod yX8_clear ∈ TB ∧ Cond.selects RX8 yX8_clear yX8_clear ∈ TB := ⟨tb (i := 729) (by decide +kernel) rfl, tb (i := 730) (by decide +kernel) rfl⟩
abbrev mX8_read : mM := (RX8, cX8_read, 1, (some .boolean))
set_option maxRecDepth 100000 in
theorem i_X8_read : MI yX8_read mX8_read 0 := ⟨rfl, pn_X8.1, tcc3 (i := 17) rfl rfl, pn_X8.2.1, ⟨pn_X8.2.2.1, pn_X8.2.2.2, pd_22⟩, by decide⟩
theorem v_X8_read : Cond.instanceMethod yX8_read ∈ TB ∧ Cond.selects RX8 yX8_read yX8_read ∈ TB := ⟨tb (i := 607) (by decide +kernel) rfl, tb (i := 608) (by decide +kernel) rfl⟩
abbrev mX8_readParishes : mM := (RX8, cX8_readParishes, 2, (some .boolean))
set_option maxRecDepth 100000 in
theorem i_X8_readParishes : MI yX8_readParishes mX8_readParishes 0 := ⟨rfl, pn_X8.1, tcc3 (i := 19) rfl rfl, pn_X8.2.1, ⟨pn_X8.2.2.1, pn_X8.2.2.2, pd_22⟩, by decide⟩
theorem v_X8_readParishes : Cond.instanceMethod yX8_readParishes ∈ TB ∧ Cond.selects RX8 yX8_readParishes yX8_readParishes ∈ TB := ⟨tb (i := 616) (by decide +kernel) rfl, tb (i := 4) (by decide +kernel) rfl⟩
abbrev mX8_readParish : mM := (RX8, cX8_readParish, 5, (some .boolean))
set_option maxRecDepth 100000 in
theorem i_X8_readParish : MI yX8_readParish mX8_readParish 0 := ⟨rfl, pn_X8.1, tcc3 (i := 20) rfl rfl, pn_X8.2.1, ⟨pn_X8.2.2.1, pn_X8.2.2.2, pd_22⟩, by decide⟩
theorem v_X8_readParish : Cond.instanceMethod yX8_readParish ∈ TB ∧ Cond.selects RX8 yX8_readParish yX8_readParish ∈ TB := ⟨tb (i := 620) (by decide +kernel) rfl, tb (i := 5) (by decide +kernel) rfl⟩
abbrev mX8_readRoads : mM := (RX8, cX8_readRoads, 2, (some .boolean))
set_option maxRecDepth 100000 in
theorem i_X8_readRoads : MI yX8_readRoads mX8_readRoads 0 := ⟨rfl, pn_X8.1, tcc3 (i := 44) rfl rfl, pn_X8.2.1, ⟨pn_X8.2.2.1, pn_X8.2.2.2, pd_22⟩, by decide⟩
theorem v_X8_readRoads : Cond.instanceMethod yX8_readRoads ∈ TB ∧ Cond.selects RX8 yX8_readRoads yX8_readRoads ∈ TB := ⟨tb (i := 720) (by decide +kernel) rfl, tb (i := 9) (by decide +kernel) rfl⟩
abbrev mX8_readRoad : mM := (RX8, cX8_readRoad, 4, (some .boolean))
set_option maxRecDepth 100000 in
theorem i_X8_readRoad : MI yX8_readRoad mX8_readRoad 0 := ⟨rfl, pn_X8.1, tcc3 (i := 45) rfl rfl, pn_X8.2.1, ⟨pn_X8.2.2.1, pn_X8.2.2.2, pd_22⟩, by decide⟩
theorem v_X8_readRoad : Cond.instanceMethod yX8_readRoad ∈ TB ∧ Cond.selects RX8 yX8_readRoad yX8_readRoad ∈ TB := ⟨tb (i := 724) (by decide +kernel) rfl, tb (i := 10) (by decide +kernel) rfl⟩
abbrev mX8_skipBlanks : mM := (RX8, cX8_skipBlanks, 1, none)
set_option maxRecDepth 100000 in
theorem i_X8_skipBlanks : MI yX8_skipBlanks mX8_skipBlanks 0 := ⟨rfl, pn_X8.1, tcc3 (i := 21) rfl rfl, pn_X8.2.1, ⟨pn_X8.2.2.1, pn_X8.2.2.2, pd_4⟩, by decide⟩
theorem v_X8_skipBlanks : Cond.instanceMethod yX8_skipBlanks ∈ TB ∧ Cond.selects RX8 yX8_skipBlanks yX8_skipBlanks ∈ TB := ⟨tb (i := 624) (by decide +kernel) rfl, tb (i := 6) (by decide +kernel) rfl⟩
abbrev mX8_takes : mM := (RX8, cX8_takes, 2, (some .boolean))
set_option maxRecDepth 100000 in
theorem i_X8_takes : MI yX8_takes mX8_takes 1 := ⟨rfl, pn_X8.1, tcc3 (i := 43) rfl rfl, pn_X8.2.1, ⟨pn_X8.2.2.1, pn_X8.2.2.2, pd_23⟩, by decide⟩
theorem v_X8_takes : Cond.instanceMethod yX8_takes ∈ TB ∧ Cond.selects RX8 yX8_takes yX8_takes ∈ TB := ⟨tb (i := 716) (by decide +kernel) rfl, tb (i := 8) (by decide +kernel) rfl⟩
abbrev mX8_digit : mM := (RX8, cX8_digit, 4, (some .int))
set_option maxRecDepth 100000 in
theorem i_X8_digit : MI yX8_digit mX8_digit 2 := ⟨rfl, pn_X8.1, tcc3 (i := 42) rfl rfl, pn_X8.2.1, ⟨pn_X8.2.2.1, pn_X8.2.2.2, pd_10⟩, by decide⟩
theorem v_X8_digit : Cond.instanceMethod yX8_digit ∈ TB ∧ Cond.selects RX8 yX8_digit yX8_digit ∈ TB := ⟨tb (i := 712) (by decide +kernel) rfl, tb (i := 7) (by decide +kernel) rfl⟩
abbrev mX9_init : mM := (RX9, cX9_init, 3, none)
abbrev mX9_best : mM := (RX9, cX9_best, 7, (some .int))
set_option maxRecDepth 100000 in
theorem i_X9_best : MI yX9_best mX9_best 2 := ⟨rfl, pn_X9.1, tcc4 (i := 17) rfl rfl, pn_X9.2.1, ⟨pn_X9.2.2.1, pn_X9.2.2.2, pd_10⟩, by decide⟩
theorem v_X9_best : Cond.instanceMethod yX9_best ∈ TB ∧ Cond.selects RX9 yX9_best yX9_best ∈ TB := ⟨tb (i := 855) (by decide +kernel) rfl, tb (i := 856) (by decide +kernel) rfl⟩
abbrev mX9_law : mM := (RX9, cX9_law, 6, (some .int))
set_option maxRecDepth 100000 in
theorem i_X9_law : MI yX9_law mX9_law 2 := ⟨rfl, pn_X9.1, tcc4 (i := 21) rfl rfl, pn_X9.2.1, ⟨pn_X9.2.2.1, pn_X9.2.2.2, pd_10⟩, by decide⟩
theorem v_X9_law : Cond.instanceMethod yX9_law ∈ TB ∧ Cond.selects RX9 yX9_law yX9_law ∈ TB := ⟨tb (i := 874) (by decide +kernel) rfl, tb (i := 875) (by decide +kernel) rfl⟩
abbrev mX9_findValues : mM := (RX9, cX9_findValues, 4, none)
set_option maxRecDepth 100000 in
theorem i_X9_findValues : MI yX9_findValues mX9_findValues 2 := ⟨rfl, pn_X9.1, tcc4 (i := 18) rfl rfl, pn_X9.2.1, ⟨pn_X9.2.2.1, pn_X9.2.2.2, pd_15⟩, by decide⟩
theorem v_X9_findValues : Cond.instanceMethod yX9_findValues ∈ TB ∧ Cond.selects RX9 yX9_findValues yX9_findValues ∈ TB := ⟨tb (i := 860) (by decide +kernel) rfl, tb (i := 20) (by decide +kernel) rfl⟩
abbrev mX9_findGains : mM := (RX9, cX9_findGains, 5, none)
set_option maxRecDepth 100000 in
theorem i_X9_findGains : MI yX9_findGains mX9_findGains 1 := ⟨rfl, pn_X9.1, tcc4 (i := 22) rfl rfl, pn_X9.2.1, ⟨pn_X9.2.2.1, pn_X9.2.2.2, pd_18⟩, by decide⟩
theorem v_X9_findGains : Cond.instanceMethod yX9_findGains ∈ TB ∧ Cond.selects RX9 yX9_findGains yX9_findGains ∈ TB := ⟨tb (i := 879) (by decide +kernel) rfl, tb (i := 21) (by decide +kernel) rfl⟩
abbrev mX9_endsGains : mM := (RX9, cX9_endsGains, 4, (some .boolean))
set_option maxRecDepth 100000 in
theorem i_X9_endsGains : MI yX9_endsGains mX9_endsGains 1 := ⟨rfl, pn_X9.1, tcc4 (i := 24) rfl rfl, pn_X9.2.1, ⟨pn_X9.2.2.1, pn_X9.2.2.2, pd_12⟩, by decide⟩
theorem v_X9_endsGains : Cond.instanceMethod yX9_endsGains ∈ TB ∧ Cond.selects RX9 yX9_endsGains yX9_endsGains ∈ TB := ⟨tb (i := 889) (by decide +kernel) rfl, tb (i := 22) (by decide +kernel) rfl⟩
abbrev mX10_init : mM := (RX10, cX10_init, 1, none)
abbrev mX10_parish : mM := (RX10, cX10_parish, 2, (some .int))
set_option maxRecDepth 100000 in
theorem i_X10_parish : MI yX10_parish mX10_parish 1 := ⟨rfl, pn_X10.1, tcc2 (i := 4) rfl rfl, pn_X10.2.1, ⟨pn_X10.2.2.1, pn_X10.2.2.2, pd_3⟩, by decide⟩
theorem v_X10_parish : Cond.instanceMethod yX10_parish ∈ TB ∧ Cond.selects RX10 yX10_parish yX10_parish ∈ TB := ⟨tb (i := 452) (by decide +kernel) rfl, tb (i := 453) (by decide +kernel) rfl⟩
abbrev mX10_pull : mM := (RX10, cX10_pull, 5, (some .int))
set_option maxRecDepth 100000 in
theorem i_X10_pull : MI yX10_pull mX10_pull 3 := ⟨rfl, pn_X10.1, tcc2 (i := 7) rfl rfl, pn_X10.2.1, ⟨pn_X10.2.2.1, pn_X10.2.2.2, pd_2⟩, by decide⟩
theorem v_X10_pull : Cond.instanceMethod yX10_pull ∈ TB ∧ Cond.selects RX10 yX10_pull yX10_pull ∈ TB := ⟨tb (i := 463) (by decide +kernel) rfl, tb (i := 464) (by decide +kernel) rfl⟩
abbrev mX10_road : mM := (RX10, cX10_road, 4, (some .int))
set_option maxRecDepth 100000 in
theorem i_X10_road : MI yX10_road mX10_road 3 := ⟨rfl, pn_X10.1, tcc2 (i := 9) rfl rfl, pn_X10.2.1, ⟨pn_X10.2.2.1, pn_X10.2.2.2, pd_2⟩, by decide⟩
theorem v_X10_road : Cond.instanceMethod yX10_road ∈ TB ∧ Cond.selects RX10 yX10_road yX10_road ∈ TB := ⟨tb (i := 471) (by decide +kernel) rfl, tb (i := 472) (by decide +kernel) rfl⟩
abbrev mX10_toll : mM := (RX10, cX10_toll, 4, (some .int))
set_option maxRecDepth 100000 in
theorem i_X10_toll : MI yX10_toll mX10_toll 2 := ⟨rfl, pn_X10.1, tcc2 (i := 14) rfl rfl, pn_X10.2.1, ⟨pn_X10.2.2.1, pn_X10.2.2.2, pd_10⟩, by decide⟩
theorem v_X10_toll : Cond.instanceMethod yX10_toll ∈ TB ∧ Cond.selects RX10 yX10_toll yX10_toll ∈ TB := ⟨tb (i := 489) (by decide +kernel) rfl, tb (i := 490) (by decide +kernel) rfl⟩
abbrev mX10_cart : mM := (RX10, cX10_cart, 3, (some .int))
set_option maxRecDepth 100000 in
theorem i_X10_cart : MI yX10_cart mX10_cart 2 := ⟨rfl, pn_X10.1, tcc2 (i := 16) rfl rfl, pn_X10.2.1, ⟨pn_X10.2.2.1, pn_X10.2.2.2, pd_10⟩, by decide⟩
theorem v_X10_cart : Cond.instanceMethod yX10_cart ∈ TB ∧ Cond.selects RX10 yX10_cart yX10_cart ∈ TB := ⟨tb (i := 497) (by decide +kernel) rfl, tb (i := 498) (by decide +kernel) rfl⟩
abbrev mX10_good : mM := (RX10, cX10_good, 4, (some .int))
set_option maxRecDepth 100000 in
theorem i_X10_good : MI yX10_good mX10_good 3 := ⟨rfl, pn_X10.1, tcc2 (i := 18) rfl rfl, pn_X10.2.1, ⟨pn_X10.2.2.1, pn_X10.2.2.2, pd_2⟩, by decide⟩
theorem v_X10_good : Cond.instanceMethod yX10_good ∈ TB ∧ Cond.selects RX10 yX10_good yX10_good ∈ TB := ⟨tb (i := 505) (by decide +kernel) rfl, tb (i := 506) (by decide +kernel) rfl⟩
abbrev mX10_hang : mM := (RX10, cX10_hang, 4, (some .int))
set_option maxRecDepth 100000 in
theorem i_X10_hang : MI yX10_hang mX10_hang 2 := ⟨rfl, pn_X10.1, tcc2 (i := 20) rfl rfl, pn_X10.2.1, ⟨pn_X10.2.2.1, pn_X10.2.2.2, pd_10⟩, by decide⟩
theorem v_X10_hang : Cond.instanceMethod yX10_hang ∈ TB ∧ Cond.selects RX10 yX10_hang yX10_hang ∈ TB := ⟨tb (i := 513) (by decide +kernel) rfl, tb (i := 514) (by decide +kernel) rfl⟩
abbrev mX10_person : mM := (RX10, cX10_person, 3, (some .int))
set_option maxRecDepth 100000 in
theorem i_X10_person : MI yX10_person mX10_person 2 := ⟨rfl, pn_X10.1, tcc3 (i := 0) rfl rfl, pn_X10.2.1, ⟨pn_X10.2.2.1, pn_X10.2.2.2, pd_10⟩, by decide⟩
theorem v_X10_person : Cond.instanceMethod yX10_person ∈ TB ∧ Cond.selects RX10 yX10_person yX10_person ∈ TB := ⟨tb (i := 539) (by decide +kernel) rfl, tb (i := 540) (by decide +kernel) rfl⟩
abbrev mX10_of : mM := (RX10, cX10_of, 3, (some .int))
set_option maxRecDepth 100000 in
theorem i_X10_of : MI yX10_of mX10_of 2 := ⟨rfl, pn_X10.1, tcc3 (i := 2) rfl rfl, pn_X10.2.1, ⟨pn_X10.2.2.1, pn_X10.2.2.2, pd_10⟩, by decide⟩
theorem v_X10_of : Cond.instanceMethod yX10_of ∈ TB ∧ Cond.selects RX10 yX10_of yX10_of ∈ TB := ⟨tb (i := 547) (by decide +kernel) rfl, tb (i := 548) (by decide +kernel) rfl⟩
abbrev mX10_told : mM := (RX10, cX10_told, 3, (some .int))
set_option maxRecDepth 100000 in
theorem i_X10_told : MI yX10_told mX10_told 2 := ⟨rfl, pn_X10.1, tcc3 (i := 6) rfl rfl, pn_X10.2.1, ⟨pn_X10.2.2.1, pn_X10.2.2.2, pd_10⟩, by decide⟩
theorem v_X10_told : Cond.instanceMethod yX10_told ∈ TB ∧ Cond.selects RX10 yX10_told yX10_told ∈ TB := ⟨tb (i := 562) (by decide +kernel) rfl, tb (i := 563) (by decide +kernel) rfl⟩
abbrev mX10_weighs : mM := (RX10, cX10_weighs, 3, (some .int))
set_option maxRecDepth 100000 in
theorem i_X10_weighs : MI yX10_weighs mX10_weighs 2 := ⟨rfl, pn_X10.1, tcc3 (i := 12) rfl rfl, pn_X10.2.1, ⟨pn_X10.2.2.1, pn_X10.2.2.2, pd_10⟩, by decide⟩
theorem v_X10_weighs : Cond.instanceMethod yX10_weighs ∈ TB ∧ Cond.selects RX10 yX10_weighs yX10_weighs ∈ TB := ⟨tb (i := 586) (by decide +kernel) rfl, tb (i := 587) (by decide +kernel) rfl⟩
abbrev mX10_type : mM := (RX10, cX10_type, 2, (some .int))
set_option maxRecDepth 100000 in
theorem i_X10_type : MI yX10_type mX10_type 1 := ⟨rfl, pn_X10.1, tcc3 (i := 13) rfl rfl, pn_X10.2.1, ⟨pn_X10.2.2.1, pn_X10.2.2.2, pd_3⟩, by decide⟩
theorem v_X10_type : Cond.instanceMethod yX10_type ∈ TB ∧ Cond.selects RX10 yX10_type yX10_type ∈ TB := ⟨tb (i := 591) (by decide +kernel) rfl, tb (i := 592) (by decide +kernel) rfl⟩
abbrev mX10_land : mM := (RX10, cX10_land, 3, (some .int))
set_option maxRecDepth 100000 in
theorem i_X10_land : MI yX10_land mX10_land 0 := ⟨rfl, pn_X10.1, tcc3 (i := 16) rfl rfl, pn_X10.2.1, ⟨pn_X10.2.2.1, pn_X10.2.2.2, pd_7⟩, by decide⟩
theorem v_X10_land : Cond.instanceMethod yX10_land ∈ TB ∧ Cond.selects RX10 yX10_land yX10_land ∈ TB := ⟨tb (i := 603) (by decide +kernel) rfl, tb (i := 604) (by decide +kernel) rfl⟩
abbrev mX10_count : mM := (RX10, cX10_count, 2, (some .int))
set_option maxRecDepth 100000 in
theorem i_X10_count : MI yX10_count mX10_count 1 := ⟨rfl, pn_X10.1, tcc3 (i := 49) rfl rfl, pn_X10.2.1, ⟨pn_X10.2.2.1, pn_X10.2.2.2, pd_3⟩, by decide⟩
theorem v_X10_count : Cond.instanceMethod yX10_count ∈ TB ∧ Cond.selects RX10 yX10_count yX10_count ∈ TB := ⟨tb (i := 745) (by decide +kernel) rfl, tb (i := 746) (by decide +kernel) rfl⟩
abbrev mX10_weeks : mM := (RX10, cX10_weeks, 4, (some .int))
set_option maxRecDepth 100000 in
theorem i_X10_weeks : MI yX10_weeks mX10_weeks 1 := ⟨rfl, pn_X10.1, tcc3 (i := 51) rfl rfl, pn_X10.2.1, ⟨pn_X10.2.2.1, pn_X10.2.2.2, pd_3⟩, by decide⟩
theorem v_X10_weeks : Cond.instanceMethod yX10_weeks ∈ TB ∧ Cond.selects RX10 yX10_weeks yX10_weeks ∈ TB := ⟨tb (i := 754) (by decide +kernel) rfl, tb (i := 755) (by decide +kernel) rfl⟩
abbrev mX10_way : mM := (RX10, cX10_way, 6, (some .int))
set_option maxRecDepth 100000 in
theorem i_X10_way : MI yX10_way mX10_way 5 := ⟨rfl, pn_X10.1, tcc3 (i := 54) rfl rfl, pn_X10.2.1, ⟨pn_X10.2.2.1, pn_X10.2.2.2, pd_24⟩, by decide⟩
theorem v_X10_way : Cond.instanceMethod yX10_way ∈ TB ∧ Cond.selects RX10 yX10_way yX10_way ∈ TB := ⟨tb (i := 768) (by decide +kernel) rfl, tb (i := 769) (by decide +kernel) rfl⟩
abbrev mX10_net : mM := (RX10, cX10_net, 4, (some .int))
set_option maxRecDepth 100000 in
theorem i_X10_net : MI yX10_net mX10_net 3 := ⟨rfl, pn_X10.1, tcc4 (i := 11) rfl rfl, pn_X10.2.1, ⟨pn_X10.2.2.1, pn_X10.2.2.2, pd_2⟩, by decide⟩
theorem v_X10_net : Cond.instanceMethod yX10_net ∈ TB ∧ Cond.selects RX10 yX10_net yX10_net ∈ TB := ⟨tb (i := 826) (by decide +kernel) rfl, tb (i := 827) (by decide +kernel) rfl⟩
abbrev mX10_market : mM := (RX10, cX10_market, 4, (some .int))
set_option maxRecDepth 100000 in
theorem i_X10_market : MI yX10_market mX10_market 2 := ⟨rfl, pn_X10.1, tcc4 (i := 12) rfl rfl, pn_X10.2.1, ⟨pn_X10.2.2.1, pn_X10.2.2.2, pd_10⟩, by decide⟩
theorem v_X10_market : Cond.instanceMethod yX10_market ∈ TB ∧ Cond.selects RX10 yX10_market yX10_market ∈ TB := ⟨tb (i := 834) (by decide +kernel) rfl, tb (i := 835) (by decide +kernel) rfl⟩
abbrev mX10_trade : mM := (RX10, cX10_trade, 5, (some .int))
set_option maxRecDepth 100000 in
theorem i_X10_trade : MI yX10_trade mX10_trade 3 := ⟨rfl, pn_X10.1, tcc4 (i := 16) rfl rfl, pn_X10.2.1, ⟨pn_X10.2.2.1, pn_X10.2.2.2, pd_2⟩, by decide⟩
theorem v_X10_trade : Cond.instanceMethod yX10_trade ∈ TB ∧ Cond.selects RX10 yX10_trade yX10_trade ∈ TB := ⟨tb (i := 851) (by decide +kernel) rfl, tb (i := 852) (by decide +kernel) rfl⟩
abbrev mX10_scales : mM := (RX10, cX10_scales, 3, (some .int))
set_option maxRecDepth 100000 in
theorem i_X10_scales : MI yX10_scales mX10_scales 2 := ⟨rfl, pn_X10.1, tcc4 (i := 20) rfl rfl, pn_X10.2.1, ⟨pn_X10.2.2.1, pn_X10.2.2.2, pd_10⟩, by decide⟩
theorem v_X10_scales : Cond.instanceMethod yX10_scales ∈ TB ∧ Cond.selects RX10 yX10_scales yX10_scales ∈ TB := ⟨tb (i := 870) (by decide +kernel) rfl, tb (i := 871) (by decide +kernel) rfl⟩
abbrev mX10_take : mM := (RX10, cX10_take, 3, (some .int))
set_option maxRecDepth 100000 in
theorem i_X10_take : MI yX10_take mX10_take 2 := ⟨rfl, pn_X10.1, tcc4 (i := 25) rfl rfl, pn_X10.2.1, ⟨pn_X10.2.2.1, pn_X10.2.2.2, pd_10⟩, by decide⟩
theorem v_X10_take : Cond.instanceMethod yX10_take ∈ TB ∧ Cond.selects RX10 yX10_take yX10_take ∈ TB := ⟨tb (i := 892) (by decide +kernel) rfl, tb (i := 893) (by decide +kernel) rfl⟩
abbrev mX10_councils : mM := (RX10, cX10_councils, 5, (some .int))
set_option maxRecDepth 100000 in
theorem i_X10_councils : MI yX10_councils mX10_councils 4 := ⟨rfl, pn_X10.1, tcc4 (i := 27) rfl rfl, pn_X10.2.1, ⟨pn_X10.2.2.1, pn_X10.2.2.2, pd_20⟩, by decide⟩
theorem v_X10_councils : Cond.instanceMethod yX10_councils ∈ TB ∧ Cond.selects RX10 yX10_councils yX10_councils ∈ TB := ⟨tb (i := 902) (by decide +kernel) rfl, tb (i := 903) (by decide +kernel) rfl⟩
abbrev mX10_league : mM := (RX10, cX10_league, 3, (some .int))
set_option maxRecDepth 100000 in
theorem i_X10_league : MI yX10_league mX10_league 2 := ⟨rfl, pn_X10.1, tcc4 (i := 31) rfl rfl, pn_X10.2.1, ⟨pn_X10.2.2.1, pn_X10.2.2.2, pd_10⟩, by decide⟩
theorem v_X10_league : Cond.instanceMethod yX10_league ∈ TB ∧ Cond.selects RX10 yX10_league yX10_league ∈ TB := ⟨tb (i := 922) (by decide +kernel) rfl, tb (i := 923) (by decide +kernel) rfl⟩
abbrev mX10_upper : mM := (RX10, cX10_upper, 4, (some .long))
set_option maxRecDepth 100000 in
theorem i_X10_upper : MI yX10_upper mX10_upper 3 := ⟨rfl, pn_X10.1, tcc4 (i := 35) rfl rfl, pn_X10.2.1, ⟨pn_X10.2.2.1, pn_X10.2.2.2, pd_25⟩, by decide⟩
theorem v_X10_upper : Cond.instanceMethod yX10_upper ∈ TB ∧ Cond.selects RX10 yX10_upper yX10_upper ∈ TB := ⟨tb (i := 941) (by decide +kernel) rfl, tb (i := 942) (by decide +kernel) rfl⟩
abbrev mX10_lower : mM := (RX10, cX10_lower, 4, (some .long))
set_option maxRecDepth 100000 in
theorem i_X10_lower : MI yX10_lower mX10_lower 3 := ⟨rfl, pn_X10.1, tcc4 (i := 40) rfl rfl, pn_X10.2.1, ⟨pn_X10.2.2.1, pn_X10.2.2.2, pd_25⟩, by decide⟩
theorem v_X10_lower : Cond.instanceMethod yX10_lower ∈ TB ∧ Cond.selects RX10 yX10_lower yX10_lower ∈ TB := ⟨tb (i := 965) (by decide +kernel) rfl, tb (i := 966) (by decide +kernel) rfl⟩
abbrev mX10_change : mM := (RX10, cX10_change, 4, (some .int))
set_option maxRecDepth 100000 in
theorem i_X10_change : MI yX10_change mX10_change 3 := ⟨rfl, pn_X10.1, tcc4 (i := 41) rfl rfl, pn_X10.2.1, ⟨pn_X10.2.2.1, pn_X10.2.2.2, pd_2⟩, by decide⟩
theorem v_X10_change : Cond.instanceMethod yX10_change ∈ TB ∧ Cond.selects RX10 yX10_change yX10_change ∈ TB := ⟨tb (i := 970) (by decide +kernel) rfl, tb (i := 971) (by decide +kernel) rfl⟩
abbrev mX10_well : mM := (RX10, cX10_well, 3, (some .int))
set_option maxRecDepth 100000 in
theorem i_X10_well : MI yX10_well mX10_well 2 := ⟨rfl, pn_X10.1, tcc4 (i := 44) rfl rfl, pn_X10.2.1, ⟨pn_X10.2.2.1, pn_X10.2.2.2, pd_10⟩, by decide⟩
theorem v_X10_well : Cond.instanceMethod yX10_well ∈ TB ∧ Cond.selects RX10 yX10_well yX10_well ∈ TB := ⟨tb (i := 982) (by decide +kernel) rfl, tb (i := 983) (by decide +kernel) rfl⟩
abbrev mX10_image : mM := (RX10, cX10_image, 1, (some .int))
set_option maxRecDepth 100000 in
theorem i_X10_image : MI yX10_image mX10_image 0 := ⟨rfl, pn_X10.1, tcc4 (i := 45) rfl rfl, pn_X10.2.1, ⟨pn_X10.2.2.1, pn_X10.2.2.2, pd_7⟩, by decide⟩
theorem v_X10_image : Cond.instanceMethod yX10_image ∈ TB ∧ Cond.selects RX10 yX10_image yX10_image ∈ TB := ⟨tb (i := 986) (by decide +kernel) rfl, tb (i := 987) (by decide +kernel) rfl⟩
abbrev mX10_restore : mM := (RX10, cX10_restore, 1, (some .int))
set_option maxRecDepth 100000 in
theorem i_X10_restore : MI yX10_restore mX10_restore 0 := ⟨rfl, pn_X10.1, tcc4 (i := 47) rfl rfl, pn_X10.2.1, ⟨pn_X10.2.2.1, pn_X10.2.2.2, pd_7⟩, by decide⟩
theorem v_X10_restore : Cond.instanceMethod yX10_restore ∈ TB ∧ Cond.selects RX10 yX10_restore yX10_restore ∈ TB := ⟨tb (i := 995) (by decide +kernel) rfl, tb (i := 996) (by decide +kernel) rfl⟩
abbrev mX10_beam : mM := (RX10, cX10_beam, 12, (some .int))
set_option maxRecDepth 100000 in
theorem i_X10_beam : MI yX10_beam mX10_beam 7 := ⟨rfl, pn_X10.1, tcc4 (i := 48) rfl rfl, pn_X10.2.1, ⟨pn_X10.2.2.1, pn_X10.2.2.2, pd_26⟩, by decide⟩
theorem v_X10_beam : Cond.instanceMethod yX10_beam ∈ TB ∧ Cond.selects RX10 yX10_beam yX10_beam ∈ TB := ⟨tb (i := 999) (by decide +kernel) rfl, tb (i := 1000) (by decide +kernel) rfl⟩
abbrev mX10_book : mM := (RX10, cX10_book, 11, (some .int))
set_option maxRecDepth 100000 in
theorem i_X10_book : MI yX10_book mX10_book 8 := ⟨rfl, pn_X10.1, tcc5 (i := 5) rfl rfl, pn_X10.2.1, ⟨pn_X10.2.2.1, pn_X10.2.2.2, pd_27⟩, by decide⟩
theorem v_X10_book : Cond.instanceMethod yX10_book ∈ TB ∧ Cond.selects RX10 yX10_book yX10_book ∈ TB := ⟨tb (i := 1040) (by decide +kernel) rfl, tb (i := 1041) (by decide +kernel) rfl⟩
abbrev mX10_mills : mM := (RX10, cX10_mills, 11, (some .int))
set_option maxRecDepth 100000 in
theorem i_X10_mills : MI yX10_mills mX10_mills 4 := ⟨rfl, pn_X10.1, tcc5 (i := 11) rfl rfl, pn_X10.2.1, ⟨pn_X10.2.2.1, pn_X10.2.2.2, pd_20⟩, by decide⟩
theorem v_X10_mills : Cond.instanceMethod yX10_mills ∈ TB ∧ Cond.selects RX10 yX10_mills yX10_mills ∈ TB := ⟨tb (i := 1068) (by decide +kernel) rfl, tb (i := 1069) (by decide +kernel) rfl⟩
abbrev mX10_film : mM := (RX10, cX10_film, 6, (some .int))
set_option maxRecDepth 100000 in
theorem i_X10_film : MI yX10_film mX10_film 3 := ⟨rfl, pn_X10.1, tcc5 (i := 12) rfl rfl, pn_X10.2.1, ⟨pn_X10.2.2.1, pn_X10.2.2.2, pd_2⟩, by decide⟩
theorem v_X10_film : Cond.instanceMethod yX10_film ∈ TB ∧ Cond.selects RX10 yX10_film yX10_film ∈ TB := ⟨tb (i := 1073) (by decide +kernel) rfl, tb (i := 1074) (by decide +kernel) rfl⟩
abbrev mX10_sheet : mM := (RX10, cX10_sheet, 4, (some .int))
set_option maxRecDepth 100000 in
theorem i_X10_sheet : MI yX10_sheet mX10_sheet 3 := ⟨rfl, pn_X10.1, tcc5 (i := 14) rfl rfl, pn_X10.2.1, ⟨pn_X10.2.2.1, pn_X10.2.2.2, pd_2⟩, by decide⟩
theorem v_X10_sheet : Cond.instanceMethod yX10_sheet ∈ TB ∧ Cond.selects RX10 yX10_sheet yX10_sheet ∈ TB := ⟨tb (i := 1081) (by decide +kernel) rfl, tb (i := 1082) (by decide +kernel) rfl⟩
abbrev mX10_drop : mM := (RX10, cX10_drop, 2, (some .int))
set_option maxRecDepth 100000 in
theorem i_X10_drop : MI yX10_drop mX10_drop 1 := ⟨rfl, pn_X10.1, tcc5 (i := 17) rfl rfl, pn_X10.2.1, ⟨pn_X10.2.2.1, pn_X10.2.2.2, pd_3⟩, by decide⟩
theorem v_X10_drop : Cond.instanceMethod yX10_drop ∈ TB ∧ Cond.selects RX10 yX10_drop yX10_drop ∈ TB := ⟨tb (i := 1092) (by decide +kernel) rfl, tb (i := 1093) (by decide +kernel) rfl⟩
abbrev mX10_item : mM := (RX10, cX10_item, 7, (some .int))
set_option maxRecDepth 100000 in
theorem i_X10_item : MI yX10_item mX10_item 4 := ⟨rfl, pn_X10.1, tcc5 (i := 19) rfl rfl, pn_X10.2.1, ⟨pn_X10.2.2.1, pn_X10.2.2.2, pd_28⟩, by decide⟩
theorem v_X10_item : Cond.instanceMethod yX10_item ∈ TB ∧ Cond.selects RX10 yX10_item yX10_item ∈ TB := ⟨tb (i := 1102) (by decide +kernel) rfl, tb (i := 1103) (by decide +kernel) rfl⟩
abbrev mX10_copy : mM := (RX10, cX10_copy, 6, (some .int))
set_option maxRecDepth 100000 in
theorem i_X10_copy : MI yX10_copy mX10_copy 5 := ⟨rfl, pn_X10.1, tcc5 (i := 20) rfl rfl, pn_X10.2.1, ⟨pn_X10.2.2.1, pn_X10.2.2.2, pd_24⟩, by decide⟩
theorem v_X10_copy : Cond.instanceMethod yX10_copy ∈ TB ∧ Cond.selects RX10 yX10_copy yX10_copy ∈ TB := ⟨tb (i := 1106) (by decide +kernel) rfl, tb (i := 1107) (by decide +kernel) rfl⟩
abbrev mX10_within : mM := (RX10, cX10_within, 3, (some .boolean))
set_option maxRecDepth 100000 in
theorem i_X10_within : MI yX10_within mX10_within 3 := ⟨rfl, pn_X10.1, tcc2 (i := 5) rfl rfl, pn_X10.2.1, ⟨pn_X10.2.2.1, pn_X10.2.2.2, pd_19⟩, by decide⟩
theorem s_X10_within : Cond.static yX10_within ∈ TB := tb (i := 456) (by decide +kernel) rfl
abbrev mX10_isMember : mM := (RX10, cX10_isMember, 3, (some .boolean))
set_option maxRecDepth 100000 in
theorem i_X10_isMember : MI yX10_isMember mX10_isMember 2 := ⟨rfl, pn_X10.1, tcc4 (i := 36) rfl rfl, pn_X10.2.1, ⟨pn_X10.2.2.1, pn_X10.2.2.2, pd_13⟩, by decide⟩
theorem v_X10_isMember : Cond.instanceMethod yX10_isMember ∈ TB ∧ Cond.selects RX10 yX10_isMember yX10_isMember ∈ TB := ⟨tb (i := 946) (by decide +kernel) rfl, tb (i := 25) (by decide +kernel) rfl⟩
abbrev mX10_setThere : mM := (RX10, cX10_setThere, 5, (some .int))
set_option maxRecDepth 100000 in
theorem i_X10_setThere : MI yX10_setThere mX10_setThere 3 := ⟨rfl, pn_X10.1, tcc3 (i := 5) rfl rfl, pn_X10.2.1, ⟨pn_X10.2.2.1, pn_X10.2.2.2, pd_11⟩, by decide⟩
theorem s_X10_setThere : Cond.static yX10_setThere ∈ TB := tb (i := 559) (by decide +kernel) rfl
abbrev mX10_toldOfRoad : mM := (RX10, cX10_toldOfRoad, 3, (some .int))
set_option maxRecDepth 100000 in
theorem i_X10_toldOfRoad : MI yX10_toldOfRoad mX10_toldOfRoad 2 := ⟨rfl, pn_X10.1, tcc3 (i := 7) rfl rfl, pn_X10.2.1, ⟨pn_X10.2.2.1, pn_X10.2.2.2, pd_10⟩, by decide⟩
theorem v_X10_toldOfRoad : Cond.instanceMethod yX10_toldOfRoad ∈ TB ∧ Cond.selects RX10 yX10_toldOfRoad yX10_toldOfRoad ∈ TB := ⟨tb (i := 567) (by decide +kernel) rfl, tb (i := 0) (by decide +kernel) rfl⟩
abbrev mX10_toldOfCart : mM := (RX10, cX10_toldOfCart, 3, (some .int))
set_option maxRecDepth 100000 in
theorem i_X10_toldOfCart : MI yX10_toldOfCart mX10_toldOfCart 2 := ⟨rfl, pn_X10.1, tcc3 (i := 8) rfl rfl, pn_X10.2.1, ⟨pn_X10.2.2.1, pn_X10.2.2.2, pd_10⟩, by decide⟩
theorem v_X10_toldOfCart : Cond.instanceMethod yX10_toldOfCart ∈ TB ∧ Cond.selects RX10 yX10_toldOfCart yX10_toldOfCart ∈ TB := ⟨tb (i := 571) (by decide +kernel) rfl, tb (i := 1) (by decide +kernel) rfl⟩
abbrev mX10_toldOfGood : mM := (RX10, cX10_toldOfGood, 3, (some .int))
set_option maxRecDepth 100000 in
theorem i_X10_toldOfGood : MI yX10_toldOfGood mX10_toldOfGood 2 := ⟨rfl, pn_X10.1, tcc3 (i := 10) rfl rfl, pn_X10.2.1, ⟨pn_X10.2.2.1, pn_X10.2.2.2, pd_10⟩, by decide⟩
theorem v_X10_toldOfGood : Cond.instanceMethod yX10_toldOfGood ∈ TB ∧ Cond.selects RX10 yX10_toldOfGood yX10_toldOfGood ∈ TB := ⟨tb (i := 579) (by decide +kernel) rfl, tb (i := 2) (by decide +kernel) rfl⟩
abbrev mX10_toldOfPerson : mM := (RX10, cX10_toldOfPerson, 3, (some .int))
set_option maxRecDepth 100000 in
theorem i_X10_toldOfPerson : MI yX10_toldOfPerson mX10_toldOfPerson 2 := ⟨rfl, pn_X10.1, tcc3 (i := 11) rfl rfl, pn_X10.2.1, ⟨pn_X10.2.2.1, pn_X10.2.2.2, pd_10⟩, by decide⟩
theorem v_X10_toldOfPerson : Cond.instanceMethod yX10_toldOfPerson ∈ TB ∧ Cond.selects RX10 yX10_toldOfPerson yX10_toldOfPerson ∈ TB := ⟨tb (i := 583) (by decide +kernel) rfl, tb (i := 3) (by decide +kernel) rfl⟩
abbrev mX11_init : mM := (RX11, cX11_init, 2, none)
abbrev mX11_in : mM := (RX11, cX11_in, 6, (some .boolean))
set_option maxRecDepth 100000 in
theorem i_X11_in : MI yX11_in mX11_in 3 := ⟨rfl, pn_X11.1, tcc5 (i := 23) rfl rfl, pn_X11.2.1, ⟨pn_X11.2.2.1, pn_X11.2.2.2, pd_29⟩, by decide⟩
theorem s_X11_in : Cond.static yX11_in ∈ TB := tb (i := 1178) (by decide +kernel) rfl
abbrev mX11_isParish : mM := (RX11, cX11_isParish, 2, (some .boolean))
set_option maxRecDepth 100000 in
theorem i_X11_isParish : MI yX11_isParish mX11_isParish 1 := ⟨rfl, pn_X11.1, tcc5 (i := 26) rfl rfl, pn_X11.2.1, ⟨pn_X11.2.2.1, pn_X11.2.2.2, pd_12⟩, by decide⟩
theorem v_X11_isParish : Cond.instanceMethod yX11_isParish ∈ TB ∧ Cond.selects RX11 yX11_isParish yX11_isParish ∈ TB := ⟨tb (i := 1190) (by decide +kernel) rfl, tb (i := 29) (by decide +kernel) rfl⟩
abbrev mX11_isRoad : mM := (RX11, cX11_isRoad, 2, (some .boolean))
set_option maxRecDepth 100000 in
theorem i_X11_isRoad : MI yX11_isRoad mX11_isRoad 1 := ⟨rfl, pn_X11.1, tcc5 (i := 30) rfl rfl, pn_X11.2.1, ⟨pn_X11.2.2.1, pn_X11.2.2.2, pd_12⟩, by decide⟩
theorem v_X11_isRoad : Cond.instanceMethod yX11_isRoad ∈ TB ∧ Cond.selects RX11 yX11_isRoad yX11_isRoad ∈ TB := ⟨tb (i := 1207) (by decide +kernel) rfl, tb (i := 31) (by decide +kernel) rfl⟩
abbrev mX11_isCart : mM := (RX11, cX11_isCart, 2, (some .boolean))
set_option maxRecDepth 100000 in
theorem i_X11_isCart : MI yX11_isCart mX11_isCart 1 := ⟨rfl, pn_X11.1, tcc5 (i := 41) rfl rfl, pn_X11.2.1, ⟨pn_X11.2.2.1, pn_X11.2.2.2, pd_12⟩, by decide⟩
theorem v_X11_isCart : Cond.instanceMethod yX11_isCart ∈ TB ∧ Cond.selects RX11 yX11_isCart yX11_isCart ∈ TB := ⟨tb (i := 1255) (by decide +kernel) rfl, tb (i := 35) (by decide +kernel) rfl⟩
abbrev mX11_isGood : mM := (RX11, cX11_isGood, 2, (some .boolean))
set_option maxRecDepth 100000 in
theorem i_X11_isGood : MI yX11_isGood mX11_isGood 1 := ⟨rfl, pn_X11.1, tcc5 (i := 34) rfl rfl, pn_X11.2.1, ⟨pn_X11.2.2.1, pn_X11.2.2.2, pd_12⟩, by decide⟩
theorem v_X11_isGood : Cond.instanceMethod yX11_isGood ∈ TB ∧ Cond.selects RX11 yX11_isGood yX11_isGood ∈ TB := ⟨tb (i := 1225) (by decide +kernel) rfl, tb (i := 32) (by decide +kernel) rfl⟩
abbrev mX11_isPerson : mM := (RX11, cX11_isPerson, 2, (some .boolean))
set_option maxRecDepth 100000 in
theorem i_X11_isPerson : MI yX11_isPerson mX11_isPerson 1 := ⟨rfl, pn_X11.1, tcc6 (i := 0) rfl rfl, pn_X11.2.1, ⟨pn_X11.2.2.1, pn_X11.2.2.2, pd_12⟩, by decide⟩
theorem v_X11_isPerson : Cond.instanceMethod yX11_isPerson ∈ TB ∧ Cond.selects RX11 yX11_isPerson yX11_isPerson ∈ TB := ⟨tb (i := 1262) (by decide +kernel) rfl, tb (i := 36) (by decide +kernel) rfl⟩
abbrev mX11_isTwo : mM := (RX11, cX11_isTwo, 1, (some .boolean))
set_option maxRecDepth 100000 in
theorem i_X11_isTwo : MI yX11_isTwo mX11_isTwo 1 := ⟨rfl, pn_X11.1, tcc6 (i := 24) rfl rfl, pn_X11.2.1, ⟨pn_X11.2.2.1, pn_X11.2.2.2, pd_12⟩, by decide⟩
theorem s_X11_isTwo : Cond.static yX11_isTwo ∈ TB := tb (i := 1365) (by decide +kernel) rfl
abbrev mX11_season : mM := (RX11, cX11_season, 1, (some .int))
set_option maxRecDepth 100000 in
theorem i_X11_season : MI yX11_season mX11_season 0 := ⟨rfl, pn_X11.1, tcc5 (i := 36) rfl rfl, pn_X11.2.1, ⟨pn_X11.2.2.1, pn_X11.2.2.2, pd_7⟩, by decide⟩
theorem v_X11_season : Cond.instanceMethod yX11_season ∈ TB ∧ Cond.selects RX11 yX11_season yX11_season ∈ TB := ⟨tb (i := 1233) (by decide +kernel) rfl, tb (i := 34) (by decide +kernel) rfl⟩
abbrev mX11_weightBy : mM := (RX11, cX11_weightBy, 4, (some .int))
set_option maxRecDepth 100000 in
theorem i_X11_weightBy : MI yX11_weightBy mX11_weightBy 3 := ⟨rfl, pn_X11.1, tcc5 (i := 37) rfl rfl, pn_X11.2.1, ⟨pn_X11.2.2.1, pn_X11.2.2.2, pd_2⟩, by decide⟩
theorem s_X11_weightBy : Cond.static yX11_weightBy ∈ TB := tb (i := 1236) (by decide +kernel) rfl
abbrev mX11_weight : mM := (RX11, cX11_weight, 3, (some .int))
set_option maxRecDepth 100000 in
theorem i_X11_weight : MI yX11_weight mX11_weight 2 := ⟨rfl, pn_X11.1, tcc5 (i := 35) rfl rfl, pn_X11.2.1, ⟨pn_X11.2.2.1, pn_X11.2.2.2, pd_10⟩, by decide⟩
theorem v_X11_weight : Cond.instanceMethod yX11_weight ∈ TB ∧ Cond.selects RX11 yX11_weight yX11_weight ∈ TB := ⟨tb (i := 1229) (by decide +kernel) rfl, tb (i := 33) (by decide +kernel) rfl⟩
abbrev mX11_joins : mM := (RX11, cX11_joins, 4, (some .int))
set_option maxRecDepth 100000 in
theorem i_X11_joins : MI yX11_joins mX11_joins 1 := ⟨rfl, pn_X11.1, tcc5 (i := 24) rfl rfl, pn_X11.2.1, ⟨pn_X11.2.2.1, pn_X11.2.2.2, pd_3⟩, by decide⟩
theorem v_X11_joins : Cond.instanceMethod yX11_joins ∈ TB ∧ Cond.selects RX11 yX11_joins yX11_joins ∈ TB := ⟨tb (i := 1182) (by decide +kernel) rfl, tb (i := 28) (by decide +kernel) rfl⟩
abbrev mX11_parish : mM := (RX11, cX11_parish, 2, (some .int))
set_option maxRecDepth 100000 in
theorem i_X11_parish : MI yX11_parish mX11_parish 1 := ⟨rfl, pn_X11.1, tcc5 (i := 22) rfl rfl, pn_X11.2.1, ⟨pn_X11.2.2.1, pn_X11.2.2.2, pd_3⟩, by decide⟩
theorem v_X11_parish : Cond.instanceMethod yX11_parish ∈ TB ∧ Cond.selects RX11 yX11_parish yX11_parish ∈ TB := ⟨tb (i := 1173) (by decide +kernel) rfl, tb (i := 1174) (by decide +kernel) rfl⟩
abbrev mX11_pull : mM := (RX11, cX11_pull, 5, (some .int))
set_option maxRecDepth 100000 in
theorem i_X11_pull : MI yX11_pull mX11_pull 3 := ⟨rfl, pn_X11.1, tcc5 (i := 25) rfl rfl, pn_X11.2.1, ⟨pn_X11.2.2.1, pn_X11.2.2.2, pd_2⟩, by decide⟩
theorem v_X11_pull : Cond.instanceMethod yX11_pull ∈ TB ∧ Cond.selects RX11 yX11_pull yX11_pull ∈ TB := ⟨tb (i := 1185) (by decide +kernel) rfl, tb (i := 1186) (by decide +kernel) rfl⟩
abbrev mX11_roadOf : mM := (RX11, cX11_roadOf, 6, (some .int))
set_option maxRecDepth 100000 in
theorem i_X11_roadOf : MI yX11_roadOf mX11_roadOf 2 := ⟨rfl, pn_X11.1, tcc5 (i := 28) rfl rfl, pn_X11.2.1, ⟨pn_X11.2.2.1, pn_X11.2.2.2, pd_10⟩, by decide⟩
theorem v_X11_roadOf : Cond.instanceMethod yX11_roadOf ∈ TB ∧ Cond.selects RX11 yX11_roadOf yX11_roadOf ∈ TB := ⟨tb (i := 1199) (by decide +kernel) rfl, tb (i := 30) (by decide +kernel) rfl⟩
abbrev mX11_road : mM := (RX11, cX11_road, 5, (some .int))
set_option maxRecDepth 100000 in
theorem i_X11_road : MI yX11_road mX11_road 3 := ⟨rfl, pn_X11.1, tcc5 (i := 27) rfl rfl, pn_X11.2.1, ⟨pn_X11.2.2.1, pn_X11.2.2.2, pd_2⟩, by decide⟩
theorem v_X11_road : Cond.instanceMethod yX11_road ∈ TB ∧ Cond.selects RX11 yX11_road yX11_road ∈ TB := ⟨tb (i := 1194) (by decide +kernel) rfl, tb (i := 1195) (by decide +kernel) rfl⟩
abbrev mX11_toll : mM := (RX11, cX11_toll, 4, (some .int))
set_option maxRecDepth 100000 in
theorem i_X11_toll : MI yX11_toll mX11_toll 2 := ⟨rfl, pn_X11.1, tcc5 (i := 29) rfl rfl, pn_X11.2.1, ⟨pn_X11.2.2.1, pn_X11.2.2.2, pd_10⟩, by decide⟩
theorem v_X11_toll : Cond.instanceMethod yX11_toll ∈ TB ∧ Cond.selects RX11 yX11_toll yX11_toll ∈ TB := ⟨tb (i := 1202) (by decide +kernel) rfl, tb (i := 1203) (by decide +kernel) rfl⟩
abbrev mX11_cart : mM := (RX11, cX11_cart, 4, (some .int))
set_option maxRecDepth 100000 in
theorem i_X11_cart : MI yX11_cart mX11_cart 2 := ⟨rfl, pn_X11.1, tcc5 (i := 31) rfl rfl, pn_X11.2.1, ⟨pn_X11.2.2.1, pn_X11.2.2.2, pd_10⟩, by decide⟩
theorem v_X11_cart : Cond.instanceMethod yX11_cart ∈ TB ∧ Cond.selects RX11 yX11_cart yX11_cart ∈ TB := ⟨tb (i := 1210) (by decide +kernel) rfl, tb (i := 1211) (by decide +kernel) rfl⟩
abbrev mX11_good : mM := (RX11, cX11_good, 5, (some .int))
set_option maxRecDepth 100000 in
theorem i_X11_good : MI yX11_good mX11_good 3 := ⟨rfl, pn_X11.1, tcc5 (i := 32) rfl rfl, pn_X11.2.1, ⟨pn_X11.2.2.1, pn_X11.2.2.2, pd_2⟩, by decide⟩
theorem v_X11_good : Cond.instanceMethod yX11_good ∈ TB ∧ Cond.selects RX11 yX11_good yX11_good ∈ TB := ⟨tb (i := 1216) (by decide +kernel) rfl, tb (i := 1217) (by decide +kernel) rfl⟩
abbrev mX11_hang : mM := (RX11, cX11_hang, 4, (some .int))
set_option maxRecDepth 100000 in
theorem i_X11_hang : MI yX11_hang mX11_hang 2 := ⟨rfl, pn_X11.1, tcc5 (i := 33) rfl rfl, pn_X11.2.1, ⟨pn_X11.2.2.1, pn_X11.2.2.2, pd_10⟩, by decide⟩
theorem v_X11_hang : Cond.instanceMethod yX11_hang ∈ TB ∧ Cond.selects RX11 yX11_hang yX11_hang ∈ TB := ⟨tb (i := 1220) (by decide +kernel) rfl, tb (i := 1221) (by decide +kernel) rfl⟩
abbrev mX11_person : mM := (RX11, cX11_person, 4, (some .int))
set_option maxRecDepth 100000 in
theorem i_X11_person : MI yX11_person mX11_person 2 := ⟨rfl, pn_X11.1, tcc5 (i := 38) rfl rfl, pn_X11.2.1, ⟨pn_X11.2.2.1, pn_X11.2.2.2, pd_10⟩, by decide⟩
theorem v_X11_person : Cond.instanceMethod yX11_person ∈ TB ∧ Cond.selects RX11 yX11_person yX11_person ∈ TB := ⟨tb (i := 1239) (by decide +kernel) rfl, tb (i := 1240) (by decide +kernel) rfl⟩
abbrev mX11_of : mM := (RX11, cX11_of, 5, (some .int))
set_option maxRecDepth 100000 in
theorem i_X11_of : MI yX11_of mX11_of 2 := ⟨rfl, pn_X11.1, tcc5 (i := 39) rfl rfl, pn_X11.2.1, ⟨pn_X11.2.2.1, pn_X11.2.2.2, pd_10⟩, by decide⟩
theorem v_X11_of : Cond.instanceMethod yX11_of ∈ TB ∧ Cond.selects RX11 yX11_of yX11_of ∈ TB := ⟨tb (i := 1243) (by decide +kernel) rfl, tb (i := 1244) (by decide +kernel) rfl⟩
abbrev mX11_told : mM := (RX11, cX11_told, 5, (some .int))
set_option maxRecDepth 100000 in
theorem i_X11_told : MI yX11_told mX11_told 2 := ⟨rfl, pn_X11.1, tcc5 (i := 40) rfl rfl, pn_X11.2.1, ⟨pn_X11.2.2.1, pn_X11.2.2.2, pd_10⟩, by decide⟩
theorem v_X11_told : Cond.instanceMethod yX11_told ∈ TB ∧ Cond.selects RX11 yX11_told yX11_told ∈ TB := ⟨tb (i := 1248) (by decide +kernel) rfl, tb (i := 1249) (by decide +kernel) rfl⟩
abbrev mX11_weighs : mM := (RX11, cX11_weighs, 3, (some .int))
set_option maxRecDepth 100000 in
theorem i_X11_weighs : MI yX11_weighs mX11_weighs 2 := ⟨rfl, pn_X11.1, tcc6 (i := 1) rfl rfl, pn_X11.2.1, ⟨pn_X11.2.2.1, pn_X11.2.2.2, pd_10⟩, by decide⟩
theorem v_X11_weighs : Cond.instanceMethod yX11_weighs ∈ TB ∧ Cond.selects RX11 yX11_weighs yX11_weighs ∈ TB := ⟨tb (i := 1265) (by decide +kernel) rfl, tb (i := 1266) (by decide +kernel) rfl⟩
abbrev mX11_type : mM := (RX11, cX11_type, 2, (some .int))
set_option maxRecDepth 100000 in
theorem i_X11_type : MI yX11_type mX11_type 1 := ⟨rfl, pn_X11.1, tcc6 (i := 2) rfl rfl, pn_X11.2.1, ⟨pn_X11.2.2.1, pn_X11.2.2.2, pd_3⟩, by decide⟩
theorem v_X11_type : Cond.instanceMethod yX11_type ∈ TB ∧ Cond.selects RX11 yX11_type yX11_type ∈ TB := ⟨tb (i := 1269) (by decide +kernel) rfl, tb (i := 1270) (by decide +kernel) rfl⟩
abbrev mX11_next : mM := (RX11, cX11_next, 1, (some .int))
set_option maxRecDepth 100000 in
theorem i_X11_next : MI yX11_next mX11_next 0 := ⟨rfl, pn_X11.1, tcc6 (i := 6) rfl rfl, pn_X11.2.1, ⟨pn_X11.2.2.1, pn_X11.2.2.2, pd_7⟩, by decide⟩
theorem v_X11_next : Cond.instanceMethod yX11_next ∈ TB ∧ Cond.selects RX11 yX11_next yX11_next ∈ TB := ⟨tb (i := 1288) (by decide +kernel) rfl, tb (i := 39) (by decide +kernel) rfl⟩
abbrev mX11_isDigit : mM := (RX11, cX11_isDigit, 3, (some .boolean))
set_option maxRecDepth 100000 in
theorem i_X11_isDigit : MI yX11_isDigit mX11_isDigit 2 := ⟨rfl, pn_X11.1, tcc6 (i := 8) rfl rfl, pn_X11.2.1, ⟨pn_X11.2.2.1, pn_X11.2.2.2, pd_13⟩, by decide⟩
theorem v_X11_isDigit : Cond.instanceMethod yX11_isDigit ∈ TB ∧ Cond.selects RX11 yX11_isDigit yX11_isDigit ∈ TB := ⟨tb (i := 1295) (by decide +kernel) rfl, tb (i := 40) (by decide +kernel) rfl⟩
abbrev mX11_digit : mM := (RX11, cX11_digit, 2, (some .int))
set_option maxRecDepth 100000 in
theorem i_X11_digit : MI yX11_digit mX11_digit 0 := ⟨rfl, pn_X11.1, tcc6 (i := 9) rfl rfl, pn_X11.2.1, ⟨pn_X11.2.2.1, pn_X11.2.2.2, pd_7⟩, by decide⟩
theorem v_X11_digit : Cond.instanceMethod yX11_digit ∈ TB ∧ Cond.selects RX11 yX11_digit yX11_digit ∈ TB := ⟨tb (i := 1299) (by decide +kernel) rfl, tb (i := 41) (by decide +kernel) rfl⟩
abbrev mX11_kindOf : mM := (RX11, cX11_kindOf, 1, (some .int))
set_option maxRecDepth 100000 in
theorem i_X11_kindOf : MI yX11_kindOf mX11_kindOf 1 := ⟨rfl, pn_X11.1, tcc6 (i := 7) rfl rfl, pn_X11.2.1, ⟨pn_X11.2.2.1, pn_X11.2.2.2, pd_3⟩, by decide⟩
theorem s_X11_kindOf : Cond.static yX11_kindOf ∈ TB := tb (i := 1291) (by decide +kernel) rfl
abbrev mX11_readsParish : mM := (RX11, cX11_readsParish, 4, (some .boolean))
set_option maxRecDepth 100000 in
theorem i_X11_readsParish : MI yX11_readsParish mX11_readsParish 0 := ⟨rfl, pn_X11.1, tcc6 (i := 5) rfl rfl, pn_X11.2.1, ⟨pn_X11.2.2.1, pn_X11.2.2.2, pd_22⟩, by decide⟩
theorem v_X11_readsParish : Cond.instanceMethod yX11_readsParish ∈ TB ∧ Cond.selects RX11 yX11_readsParish yX11_readsParish ∈ TB := ⟨tb (i := 1284) (by decide +kernel) rfl, tb (i := 38) (by decide +kernel) rfl⟩
abbrev mX11_readsRoad : mM := (RX11, cX11_readsRoad, 5, (some .boolean))
set_option maxRecDepth 100000 in
theorem i_X11_readsRoad : MI yX11_readsRoad mX11_readsRoad 0 := ⟨rfl, pn_X11.1, tcc6 (i := 10) rfl rfl, pn_X11.2.1, ⟨pn_X11.2.2.1, pn_X11.2.2.2, pd_22⟩, by decide⟩
theorem v_X11_readsRoad : Cond.instanceMethod yX11_readsRoad ∈ TB ∧ Cond.selects RX11 yX11_readsRoad yX11_readsRoad ∈ TB := ⟨tb (i := 1303) (by decide +kernel) rfl, tb (i := 42) (by decide +kernel) rfl⟩
abbrev mX11_reads : mM := (RX11, cX11_reads, 2, (some .boolean))
set_option maxRecDepth 100000 in
theorem i_X11_reads : MI yX11_reads mX11_reads 0 := ⟨rfl, pn_X11.1, tcc6 (i := 4) rfl rfl, pn_X11.2.1, ⟨pn_X11.2.2.1, pn_X11.2.2.2, pd_22⟩, by decide⟩
theorem v_X11_reads : Cond.instanceMethod yX11_reads ∈ TB ∧ Cond.selects RX11 yX11_reads yX11_reads ∈ TB := ⟨tb (i := 1280) (by decide +kernel) rfl, tb (i := 37) (by decide +kernel) rfl⟩
abbrev mX11_land : mM := (RX11, cX11_land, 3, (some .int))
set_option maxRecDepth 100000 in
theorem i_X11_land : MI yX11_land mX11_land 0 := ⟨rfl, pn_X11.1, tcc6 (i := 3) rfl rfl, pn_X11.2.1, ⟨pn_X11.2.2.1, pn_X11.2.2.2, pd_7⟩, by decide⟩
theorem v_X11_land : Cond.instanceMethod yX11_land ∈ TB ∧ Cond.selects RX11 yX11_land yX11_land ∈ TB := ⟨tb (i := 1275) (by decide +kernel) rfl, tb (i := 1276) (by decide +kernel) rfl⟩
abbrev mX11_count : mM := (RX11, cX11_count, 4, (some .int))
set_option maxRecDepth 100000 in
theorem i_X11_count : MI yX11_count mX11_count 1 := ⟨rfl, pn_X11.1, tcc6 (i := 11) rfl rfl, pn_X11.2.1, ⟨pn_X11.2.2.1, pn_X11.2.2.2, pd_3⟩, by decide⟩
theorem v_X11_count : Cond.instanceMethod yX11_count ∈ TB ∧ Cond.selects RX11 yX11_count yX11_count ∈ TB := ⟨tb (i := 1307) (by decide +kernel) rfl, tb (i := 1308) (by decide +kernel) rfl⟩
abbrev mX11_goes : mM := (RX11, cX11_goes, 7, (some .int))
set_option maxRecDepth 100000 in
theorem i_X11_goes : MI yX11_goes mX11_goes 1 := ⟨rfl, pn_X11.1, tcc6 (i := 13) rfl rfl, pn_X11.2.1, ⟨pn_X11.2.2.1, pn_X11.2.2.2, pd_3⟩, by decide⟩
theorem v_X11_goes : Cond.instanceMethod yX11_goes ∈ TB ∧ Cond.selects RX11 yX11_goes yX11_goes ∈ TB := ⟨tb (i := 1317) (by decide +kernel) rfl, tb (i := 43) (by decide +kernel) rfl⟩
abbrev mX11_weeks : mM := (RX11, cX11_weeks, 7, (some .int))
set_option maxRecDepth 100000 in
theorem i_X11_weeks : MI yX11_weeks mX11_weeks 1 := ⟨rfl, pn_X11.1, tcc6 (i := 12) rfl rfl, pn_X11.2.1, ⟨pn_X11.2.2.1, pn_X11.2.2.2, pd_3⟩, by decide⟩
theorem v_X11_weeks : Cond.instanceMethod yX11_weeks ∈ TB ∧ Cond.selects RX11 yX11_weeks yX11_weeks ∈ TB := ⟨tb (i := 1311) (by decide +kernel) rfl, tb (i := 1312) (by decide +kernel) rfl⟩
abbrev mX11_costOf : mM := (RX11, cX11_costOf, 8, (some .int))
set_option maxRecDepth 100000 in
theorem i_X11_costOf : MI yX11_costOf mX11_costOf 5 := ⟨rfl, pn_X11.1, tcc6 (i := 17) rfl rfl, pn_X11.2.1, ⟨pn_X11.2.2.1, pn_X11.2.2.2, pd_24⟩, by decide⟩
theorem v_X11_costOf : Cond.instanceMethod yX11_costOf ∈ TB ∧ Cond.selects RX11 yX11_costOf yX11_costOf ∈ TB := ⟨tb (i := 1335) (by decide +kernel) rfl, tb (i := 46) (by decide +kernel) rfl⟩
abbrev mX11_bears : mM := (RX11, cX11_bears, 4, (some .boolean))
set_option maxRecDepth 100000 in
theorem i_X11_bears : MI yX11_bears mX11_bears 3 := ⟨rfl, pn_X11.1, tcc6 (i := 16) rfl rfl, pn_X11.2.1, ⟨pn_X11.2.2.1, pn_X11.2.2.2, pd_19⟩, by decide⟩
theorem v_X11_bears : Cond.instanceMethod yX11_bears ∈ TB ∧ Cond.selects RX11 yX11_bears yX11_bears ∈ TB := ⟨tb (i := 1330) (by decide +kernel) rfl, tb (i := 45) (by decide +kernel) rfl⟩
abbrev mX11_layWays : mM := (RX11, cX11_layWays, 9, none)
set_option maxRecDepth 100000 in
theorem i_X11_layWays : MI yX11_layWays mX11_layWays 3 := ⟨rfl, pn_X11.1, tcc6 (i := 15) rfl rfl, pn_X11.2.1, ⟨pn_X11.2.2.1, pn_X11.2.2.2, pd_5⟩, by decide⟩
theorem v_X11_layWays : Cond.instanceMethod yX11_layWays ∈ TB ∧ Cond.selects RX11 yX11_layWays yX11_layWays ∈ TB := ⟨tb (i := 1326) (by decide +kernel) rfl, tb (i := 44) (by decide +kernel) rfl⟩
abbrev mX11_layPath : mM := (RX11, cX11_layPath, 13, (some .int))
set_option maxRecDepth 100000 in
theorem i_X11_layPath : MI yX11_layPath mX11_layPath 4 := ⟨rfl, pn_X11.1, tcc6 (i := 18) rfl rfl, pn_X11.2.1, ⟨pn_X11.2.2.1, pn_X11.2.2.2, pd_20⟩, by decide⟩
theorem v_X11_layPath : Cond.instanceMethod yX11_layPath ∈ TB ∧ Cond.selects RX11 yX11_layPath yX11_layPath ∈ TB := ⟨tb (i := 1339) (by decide +kernel) rfl, tb (i := 47) (by decide +kernel) rfl⟩
abbrev mX11_way : mM := (RX11, cX11_way, 6, (some .int))
set_option maxRecDepth 100000 in
theorem i_X11_way : MI yX11_way mX11_way 5 := ⟨rfl, pn_X11.1, tcc6 (i := 14) rfl rfl, pn_X11.2.1, ⟨pn_X11.2.2.1, pn_X11.2.2.2, pd_24⟩, by decide⟩
theorem v_X11_way : Cond.instanceMethod yX11_way ∈ TB ∧ Cond.selects RX11 yX11_way yX11_way ∈ TB := ⟨tb (i := 1320) (by decide +kernel) rfl, tb (i := 1321) (by decide +kernel) rfl⟩
abbrev mX11_netOf : mM := (RX11, cX11_netOf, 4, (some .int))
set_option maxRecDepth 100000 in
theorem i_X11_netOf : MI yX11_netOf mX11_netOf 2 := ⟨rfl, pn_X11.1, tcc6 (i := 20) rfl rfl, pn_X11.2.1, ⟨pn_X11.2.2.1, pn_X11.2.2.2, pd_10⟩, by decide⟩
theorem v_X11_netOf : Cond.instanceMethod yX11_netOf ∈ TB ∧ Cond.selects RX11 yX11_netOf yX11_netOf ∈ TB := ⟨tb (i := 1348) (by decide +kernel) rfl, tb (i := 48) (by decide +kernel) rfl⟩
abbrev mX11_net : mM := (RX11, cX11_net, 5, (some .int))
set_option maxRecDepth 100000 in
theorem i_X11_net : MI yX11_net mX11_net 3 := ⟨rfl, pn_X11.1, tcc6 (i := 19) rfl rfl, pn_X11.2.1, ⟨pn_X11.2.2.1, pn_X11.2.2.2, pd_2⟩, by decide⟩
theorem v_X11_net : Cond.instanceMethod yX11_net ∈ TB ∧ Cond.selects RX11 yX11_net yX11_net ∈ TB := ⟨tb (i := 1342) (by decide +kernel) rfl, tb (i := 1343) (by decide +kernel) rfl⟩
abbrev mX11_marketOf : mM := (RX11, cX11_marketOf, 7, (some .int))
set_option maxRecDepth 100000 in
theorem i_X11_marketOf : MI yX11_marketOf mX11_marketOf 3 := ⟨rfl, pn_X11.1, tcc6 (i := 22) rfl rfl, pn_X11.2.1, ⟨pn_X11.2.2.1, pn_X11.2.2.2, pd_2⟩, by decide⟩
theorem v_X11_marketOf : Cond.instanceMethod yX11_marketOf ∈ TB ∧ Cond.selects RX11 yX11_marketOf yX11_marketOf ∈ TB := ⟨tb (i := 1358) (by decide +kernel) rfl, tb (i := 49) (by decide +kernel) rfl⟩
abbrev mX11_market : mM := (RX11, cX11_market, 3, (some .int))
set_option maxRecDepth 100000 in
theorem i_X11_market : MI yX11_market mX11_market 2 := ⟨rfl, pn_X11.1, tcc6 (i := 21) rfl rfl, pn_X11.2.1, ⟨pn_X11.2.2.1, pn_X11.2.2.2, pd_10⟩, by decide⟩
theorem v_X11_market : Cond.instanceMethod yX11_market ∈ TB ∧ Cond.selects RX11 yX11_market yX11_market ∈ TB := ⟨tb (i := 1353) (by decide +kernel) rfl, tb (i := 1354) (by decide +kernel) rfl⟩
abbrev mX11_trade : mM := (RX11, cX11_trade, 10, (some .int))
set_option maxRecDepth 100000 in
theorem i_X11_trade : MI yX11_trade mX11_trade 3 := ⟨rfl, pn_X11.1, tcc6 (i := 23) rfl rfl, pn_X11.2.1, ⟨pn_X11.2.2.1, pn_X11.2.2.2, pd_2⟩, by decide⟩
theorem v_X11_trade : Cond.instanceMethod yX11_trade ∈ TB ∧ Cond.selects RX11 yX11_trade yX11_trade ∈ TB := ⟨tb (i := 1361) (by decide +kernel) rfl, tb (i := 1362) (by decide +kernel) rfl⟩
abbrev mX11_bits : mM := (RX11, cX11_bits, 3, (some .int))
set_option maxRecDepth 100000 in
theorem i_X11_bits : MI yX11_bits mX11_bits 1 := ⟨rfl, pn_X11.1, tcc6 (i := 26) rfl rfl, pn_X11.2.1, ⟨pn_X11.2.2.1, pn_X11.2.2.2, pd_3⟩, by decide⟩
theorem s_X11_bits : Cond.static yX11_bits ∈ TB := tb (i := 1372) (by decide +kernel) rfl
abbrev mX11_paid : mM := (RX11, cX11_paid, 4, (some .int))
set_option maxRecDepth 100000 in
theorem i_X11_paid : MI yX11_paid mX11_paid 3 := ⟨rfl, pn_X11.1, tcc6 (i := 28) rfl rfl, pn_X11.2.1, ⟨pn_X11.2.2.1, pn_X11.2.2.2, pd_2⟩, by decide⟩
theorem v_X11_paid : Cond.instanceMethod yX11_paid ∈ TB ∧ Cond.selects RX11 yX11_paid yX11_paid ∈ TB := ⟨tb (i := 1380) (by decide +kernel) rfl, tb (i := 51) (by decide +kernel) rfl⟩
abbrev mX11_isEnded : mM := (RX11, cX11_isEnded, 6, (some .boolean))
set_option maxRecDepth 100000 in
theorem i_X11_isEnded : MI yX11_isEnded mX11_isEnded 2 := ⟨rfl, pn_X11.1, tcc6 (i := 27) rfl rfl, pn_X11.2.1, ⟨pn_X11.2.2.1, pn_X11.2.2.2, pd_13⟩, by decide⟩
theorem v_X11_isEnded : Cond.instanceMethod yX11_isEnded ∈ TB ∧ Cond.selects RX11 yX11_isEnded yX11_isEnded ∈ TB := ⟨tb (i := 1376) (by decide +kernel) rfl, tb (i := 50) (by decide +kernel) rfl⟩
abbrev mX11_scales : mM := (RX11, cX11_scales, 6, (some .int))
set_option maxRecDepth 100000 in
theorem i_X11_scales : MI yX11_scales mX11_scales 2 := ⟨rfl, pn_X11.1, tcc6 (i := 25) rfl rfl, pn_X11.2.1, ⟨pn_X11.2.2.1, pn_X11.2.2.2, pd_10⟩, by decide⟩
theorem v_X11_scales : Cond.instanceMethod yX11_scales ∈ TB ∧ Cond.selects RX11 yX11_scales yX11_scales ∈ TB := ⟨tb (i := 1368) (by decide +kernel) rfl, tb (i := 1369) (by decide +kernel) rfl⟩
abbrev mX11_takeOf : mM := (RX11, cX11_takeOf, 5, (some .int))
set_option maxRecDepth 100000 in
theorem i_X11_takeOf : MI yX11_takeOf mX11_takeOf 2 := ⟨rfl, pn_X11.1, tcc6 (i := 30) rfl rfl, pn_X11.2.1, ⟨pn_X11.2.2.1, pn_X11.2.2.2, pd_10⟩, by decide⟩
theorem v_X11_takeOf : Cond.instanceMethod yX11_takeOf ∈ TB ∧ Cond.selects RX11 yX11_takeOf yX11_takeOf ∈ TB := ⟨tb (i := 1388) (by decide +kernel) rfl, tb (i := 52) (by decide +kernel) rfl⟩
abbrev mX11_take : mM := (RX11, cX11_take, 3, (some .int))
set_option maxRecDepth 100000 in
theorem i_X11_take : MI yX11_take mX11_take 2 := ⟨rfl, pn_X11.1, tcc6 (i := 29) rfl rfl, pn_X11.2.1, ⟨pn_X11.2.2.1, pn_X11.2.2.2, pd_10⟩, by decide⟩
theorem v_X11_take : Cond.instanceMethod yX11_take ∈ TB ∧ Cond.selects RX11 yX11_take yX11_take ∈ TB := ⟨tb (i := 1383) (by decide +kernel) rfl, tb (i := 1384) (by decide +kernel) rfl⟩
abbrev mX11_councils : mM := (RX11, cX11_councils, 14, (some .int))
set_option maxRecDepth 100000 in
theorem i_X11_councils : MI yX11_councils mX11_councils 4 := ⟨rfl, pn_X11.1, tcc6 (i := 31) rfl rfl, pn_X11.2.1, ⟨pn_X11.2.2.1, pn_X11.2.2.2, pd_20⟩, by decide⟩
theorem v_X11_councils : Cond.instanceMethod yX11_councils ∈ TB ∧ Cond.selects RX11 yX11_councils yX11_councils ∈ TB := ⟨tb (i := 1391) (by decide +kernel) rfl, tb (i := 1392) (by decide +kernel) rfl⟩
abbrev mX11_worthOf : mM := (RX11, cX11_worthOf, 6, (some .int))
set_option maxRecDepth 100000 in
theorem i_X11_worthOf : MI yX11_worthOf mX11_worthOf 2 := ⟨rfl, pn_X11.1, tcc6 (i := 34) rfl rfl, pn_X11.2.1, ⟨pn_X11.2.2.1, pn_X11.2.2.2, pd_10⟩, by decide⟩
theorem v_X11_worthOf : Cond.instanceMethod yX11_worthOf ∈ TB ∧ Cond.selects RX11 yX11_worthOf yX11_worthOf ∈ TB := ⟨tb (i := 1404) (by decide +kernel) rfl, tb (i := 54) (by decide +kernel) rfl⟩
abbrev mX11_isSet : mM := (RX11, cX11_isSet, 2, (some .boolean))
set_option maxRecDepth 100000 in
theorem i_X11_isSet : MI yX11_isSet mX11_isSet 1 := ⟨rfl, pn_X11.1, tcc6 (i := 33) rfl rfl, pn_X11.2.1, ⟨pn_X11.2.2.1, pn_X11.2.2.2, pd_12⟩, by decide⟩
theorem v_X11_isSet : Cond.instanceMethod yX11_isSet ∈ TB ∧ Cond.selects RX11 yX11_isSet yX11_isSet ∈ TB := ⟨tb (i := 1400) (by decide +kernel) rfl, tb (i := 53) (by decide +kernel) rfl⟩
abbrev mX11_league : mM := (RX11, cX11_league, 3, (some .int))
set_option maxRecDepth 100000 in
theorem i_X11_league : MI yX11_league mX11_league 2 := ⟨rfl, pn_X11.1, tcc6 (i := 32) rfl rfl, pn_X11.2.1, ⟨pn_X11.2.2.1, pn_X11.2.2.2, pd_10⟩, by decide⟩
theorem v_X11_league : Cond.instanceMethod yX11_league ∈ TB ∧ Cond.selects RX11 yX11_league yX11_league ∈ TB := ⟨tb (i := 1395) (by decide +kernel) rfl, tb (i := 1396) (by decide +kernel) rfl⟩
abbrev mX11_orders : mM := (RX11, cX11_orders, 4, (some .long))
set_option maxRecDepth 100000 in
theorem i_X11_orders : MI yX11_orders mX11_orders 1 := ⟨rfl, pn_X11.1, tcc6 (i := 37) rfl rfl, pn_X11.2.1, ⟨pn_X11.2.2.1, pn_X11.2.2.2, pd_30⟩, by decide⟩
theorem s_X11_orders : Cond.static yX11_orders ∈ TB := tb (i := 1415) (by decide +kernel) rfl
abbrev mX11_layPart : mM := (RX11, cX11_layPart, 11, (some .boolean))
set_option maxRecDepth 100000 in
theorem i_X11_layPart : MI yX11_layPart mX11_layPart 3 := ⟨rfl, pn_X11.1, tcc6 (i := 36) rfl rfl, pn_X11.2.1, ⟨pn_X11.2.2.1, pn_X11.2.2.2, pd_19⟩, by decide⟩
theorem v_X11_layPart : Cond.instanceMethod yX11_layPart ∈ TB ∧ Cond.selects RX11 yX11_layPart yX11_layPart ∈ TB := ⟨tb (i := 1412) (by decide +kernel) rfl, tb (i := 55) (by decide +kernel) rfl⟩
abbrev mX11_upper : mM := (RX11, cX11_upper, 4, (some .long))
set_option maxRecDepth 100000 in
theorem i_X11_upper : MI yX11_upper mX11_upper 3 := ⟨rfl, pn_X11.1, tcc6 (i := 35) rfl rfl, pn_X11.2.1, ⟨pn_X11.2.2.1, pn_X11.2.2.2, pd_25⟩, by decide⟩
theorem v_X11_upper : Cond.instanceMethod yX11_upper ∈ TB ∧ Cond.selects RX11 yX11_upper yX11_upper ∈ TB := ⟨tb (i := 1407) (by decide +kernel) rfl, tb (i := 1408) (by decide +kernel) rfl⟩
abbrev mX11_lower : mM := (RX11, cX11_lower, 4, (some .long))
set_option maxRecDepth 100000 in
theorem i_X11_lower : MI yX11_lower mX11_lower 3 := ⟨rfl, pn_X11.1, tcc6 (i := 38) rfl rfl, pn_X11.2.1, ⟨pn_X11.2.2.1, pn_X11.2.2.2, pd_25⟩, by decide⟩
theorem v_X11_lower : Cond.instanceMethod yX11_lower ∈ TB ∧ Cond.selects RX11 yX11_lower yX11_lower ∈ TB := ⟨tb (i := 1419) (by decide +kernel) rfl, tb (i := 1420) (by decide +kernel) rfl⟩
abbrev mX11_change : mM := (RX11, cX11_change, 8, (some .int))
set_option maxRecDepth 100000 in
theorem i_X11_change : MI yX11_change mX11_change 3 := ⟨rfl, pn_X11.1, tcc6 (i := 39) rfl rfl, pn_X11.2.1, ⟨pn_X11.2.2.1, pn_X11.2.2.2, pd_2⟩, by decide⟩
theorem v_X11_change : Cond.instanceMethod yX11_change ∈ TB ∧ Cond.selects RX11 yX11_change yX11_change ∈ TB := ⟨tb (i := 1423) (by decide +kernel) rfl, tb (i := 1424) (by decide +kernel) rfl⟩
abbrev mX11_well : mM := (RX11, cX11_well, 4, (some .int))
set_option maxRecDepth 100000 in
theorem i_X11_well : MI yX11_well mX11_well 2 := ⟨rfl, pn_X11.1, tcc6 (i := 40) rfl rfl, pn_X11.2.1, ⟨pn_X11.2.2.1, pn_X11.2.2.2, pd_10⟩, by decide⟩
theorem v_X11_well : Cond.instanceMethod yX11_well ∈ TB ∧ Cond.selects RX11 yX11_well yX11_well ∈ TB := ⟨tb (i := 1427) (by decide +kernel) rfl, tb (i := 1428) (by decide +kernel) rfl⟩
abbrev mX11_image : mM := (RX11, cX11_image, 2, (some .int))
set_option maxRecDepth 100000 in
theorem i_X11_image : MI yX11_image mX11_image 0 := ⟨rfl, pn_X11.1, tcc6 (i := 41) rfl rfl, pn_X11.2.1, ⟨pn_X11.2.2.1, pn_X11.2.2.2, pd_7⟩, by decide⟩
theorem v_X11_image : Cond.instanceMethod yX11_image ∈ TB ∧ Cond.selects RX11 yX11_image yX11_image ∈ TB := ⟨tb (i := 1431) (by decide +kernel) rfl, tb (i := 1432) (by decide +kernel) rfl⟩
abbrev mX11_restore : mM := (RX11, cX11_restore, 2, (some .int))
set_option maxRecDepth 100000 in
theorem i_X11_restore : MI yX11_restore mX11_restore 0 := ⟨rfl, pn_X11.1, tcc6 (i := 42) rfl rfl, pn_X11.2.1, ⟨pn_X11.2.2.1, pn_X11.2.2.2, pd_7⟩, by decide⟩
theorem v_X11_restore : Cond.instanceMethod yX11_restore ∈ TB ∧ Cond.selects RX11 yX11_restore yX11_restore ∈ TB := ⟨tb (i := 1435) (by decide +kernel) rfl, tb (i := 1436) (by decide +kernel) rfl⟩
abbrev mX11_isSheet : mM := (RX11, cX11_isSheet, 1, (some .boolean))
set_option maxRecDepth 100000 in
theorem i_X11_isSheet : MI yX11_isSheet mX11_isSheet 1 := ⟨rfl, pn_X11.1, tcc6 (i := 44) rfl rfl, pn_X11.2.1, ⟨pn_X11.2.2.1, pn_X11.2.2.2, pd_12⟩, by decide⟩
theorem s_X11_isSheet : Cond.static yX11_isSheet ∈ TB := tb (i := 1443) (by decide +kernel) rfl
abbrev mX11_isLane : mM := (RX11, cX11_isLane, 1, (some .boolean))
set_option maxRecDepth 100000 in
theorem i_X11_isLane : MI yX11_isLane mX11_isLane 1 := ⟨rfl, pn_X11.1, tcc6 (i := 45) rfl rfl, pn_X11.2.1, ⟨pn_X11.2.2.1, pn_X11.2.2.2, pd_12⟩, by decide⟩
theorem s_X11_isLane : Cond.static yX11_isLane ∈ TB := tb (i := 1446) (by decide +kernel) rfl
abbrev mX11_finds : mM := (RX11, cX11_finds, 5, (some .int))
set_option maxRecDepth 100000 in
theorem i_X11_finds : MI yX11_finds mX11_finds 4 := ⟨rfl, pn_X11.1, tcc6 (i := 46) rfl rfl, pn_X11.2.1, ⟨pn_X11.2.2.1, pn_X11.2.2.2, pd_20⟩, by decide⟩
theorem v_X11_finds : Cond.instanceMethod yX11_finds ∈ TB ∧ Cond.selects RX11 yX11_finds yX11_finds ∈ TB := ⟨tb (i := 1450) (by decide +kernel) rfl, tb (i := 56) (by decide +kernel) rfl⟩
abbrev mX11_evens : mM := (RX11, cX11_evens, 10, (some .int))
set_option maxRecDepth 100000 in
theorem i_X11_evens : MI yX11_evens mX11_evens 3 := ⟨rfl, pn_X11.1, tcc6 (i := 47) rfl rfl, pn_X11.2.1, ⟨pn_X11.2.2.1, pn_X11.2.2.2, pd_2⟩, by decide⟩
theorem v_X11_evens : Cond.instanceMethod yX11_evens ∈ TB ∧ Cond.selects RX11 yX11_evens yX11_evens ∈ TB := ⟨tb (i := 1458) (by decide +kernel) rfl, tb (i := 57) (by decide +kernel) rfl⟩
abbrev mX11_beam : mM := (RX11, cX11_beam, 15, (some .int))
set_option maxRecDepth 100000 in
theorem i_X11_beam : MI yX11_beam mX11_beam 7 := ⟨rfl, pn_X11.1, tcc6 (i := 43) rfl rfl, pn_X11.2.1, ⟨pn_X11.2.2.1, pn_X11.2.2.2, pd_26⟩, by decide⟩
theorem v_X11_beam : Cond.instanceMethod yX11_beam ∈ TB ∧ Cond.selects RX11 yX11_beam yX11_beam ∈ TB := ⟨tb (i := 1439) (by decide +kernel) rfl, tb (i := 1440) (by decide +kernel) rfl⟩
abbrev mX11_layBook : mM := (RX11, cX11_layBook, 12, (some .int))
set_option maxRecDepth 100000 in
theorem i_X11_layBook : MI yX11_layBook mX11_layBook 5 := ⟨rfl, pn_X11.1, tcc6 (i := 49) rfl rfl, pn_X11.2.1, ⟨pn_X11.2.2.1, pn_X11.2.2.2, pd_24⟩, by decide⟩
theorem v_X11_layBook : Cond.instanceMethod yX11_layBook ∈ TB ∧ Cond.selects RX11 yX11_layBook yX11_layBook ∈ TB := ⟨tb (i := 1468) (by decide +kernel) rfl, tb (i := 58) (by decide +kernel) rfl⟩
abbrev mX11_book : mM := (RX11, cX11_book, 14, (some .int))
set_option maxRecDepth 100000 in
theorem i_X11_book : MI yX11_book mX11_book 8 := ⟨rfl, pn_X11.1, tcc6 (i := 48) rfl rfl, pn_X11.2.1, ⟨pn_X11.2.2.1, pn_X11.2.2.2, pd_27⟩, by decide⟩
theorem v_X11_book : Cond.instanceMethod yX11_book ∈ TB ∧ Cond.selects RX11 yX11_book yX11_book ∈ TB := ⟨tb (i := 1461) (by decide +kernel) rfl, tb (i := 1462) (by decide +kernel) rfl⟩
abbrev mX11_mills : mM := (RX11, cX11_mills, 12, (some .int))
set_option maxRecDepth 100000 in
theorem i_X11_mills : MI yX11_mills mX11_mills 4 := ⟨rfl, pn_X11.1, tcc6 (i := 50) rfl rfl, pn_X11.2.1, ⟨pn_X11.2.2.1, pn_X11.2.2.2, pd_20⟩, by decide⟩
theorem v_X11_mills : Cond.instanceMethod yX11_mills ∈ TB ∧ Cond.selects RX11 yX11_mills yX11_mills ∈ TB := ⟨tb (i := 1471) (by decide +kernel) rfl, tb (i := 1472) (by decide +kernel) rfl⟩
abbrev mX11_cut : mM := (RX11, cX11_cut, 3, (some .long))
set_option maxRecDepth 100000 in
theorem i_X11_cut : MI yX11_cut mX11_cut 2 := ⟨rfl, pn_X11.1, tcc6 (i := 52) rfl rfl, pn_X11.2.1, ⟨pn_X11.2.2.1, pn_X11.2.2.2, pd_31⟩, by decide⟩
theorem s_X11_cut : Cond.static yX11_cut ∈ TB := tb (i := 1479) (by decide +kernel) rfl
abbrev mX11_film : mM := (RX11, cX11_film, 6, (some .int))
set_option maxRecDepth 100000 in
theorem i_X11_film : MI yX11_film mX11_film 3 := ⟨rfl, pn_X11.1, tcc6 (i := 51) rfl rfl, pn_X11.2.1, ⟨pn_X11.2.2.1, pn_X11.2.2.2, pd_2⟩, by decide⟩
theorem v_X11_film : Cond.instanceMethod yX11_film ∈ TB ∧ Cond.selects RX11 yX11_film yX11_film ∈ TB := ⟨tb (i := 1475) (by decide +kernel) rfl, tb (i := 1476) (by decide +kernel) rfl⟩
abbrev mX11_sheet : mM := (RX11, cX11_sheet, 5, (some .int))
set_option maxRecDepth 100000 in
theorem i_X11_sheet : MI yX11_sheet mX11_sheet 3 := ⟨rfl, pn_X11.1, tcc6 (i := 53) rfl rfl, pn_X11.2.1, ⟨pn_X11.2.2.1, pn_X11.2.2.2, pd_2⟩, by decide⟩
theorem v_X11_sheet : Cond.instanceMethod yX11_sheet ∈ TB ∧ Cond.selects RX11 yX11_sheet yX11_sheet ∈ TB := ⟨tb (i := 1482) (by decide +kernel) rfl, tb (i := 1483) (by decide +kernel) rfl⟩
abbrev mX11_drop : mM := (RX11, cX11_drop, 3, (some .int))
set_option maxRecDepth 100000 in
theorem i_X11_drop : MI yX11_drop mX11_drop 1 := ⟨rfl, pn_X11.1, tcc6 (i := 54) rfl rfl, pn_X11.2.1, ⟨pn_X11.2.2.1, pn_X11.2.2.2, pd_3⟩, by decide⟩
theorem v_X11_drop : Cond.instanceMethod yX11_drop ∈ TB ∧ Cond.selects RX11 yX11_drop yX11_drop ∈ TB := ⟨tb (i := 1486) (by decide +kernel) rfl, tb (i := 1487) (by decide +kernel) rfl⟩
abbrev mX11_item : mM := (RX11, cX11_item, 7, (some .int))
set_option maxRecDepth 100000 in
theorem i_X11_item : MI yX11_item mX11_item 4 := ⟨rfl, pn_X11.1, tcc6 (i := 55) rfl rfl, pn_X11.2.1, ⟨pn_X11.2.2.1, pn_X11.2.2.2, pd_28⟩, by decide⟩
theorem v_X11_item : Cond.instanceMethod yX11_item ∈ TB ∧ Cond.selects RX11 yX11_item yX11_item ∈ TB := ⟨tb (i := 1490) (by decide +kernel) rfl, tb (i := 1491) (by decide +kernel) rfl⟩
abbrev mX11_copy : mM := (RX11, cX11_copy, 10, (some .int))
set_option maxRecDepth 100000 in
theorem i_X11_copy : MI yX11_copy mX11_copy 5 := ⟨rfl, pn_X11.1, tcc6 (i := 56) rfl rfl, pn_X11.2.1, ⟨pn_X11.2.2.1, pn_X11.2.2.2, pd_24⟩, by decide⟩
theorem v_X11_copy : Cond.instanceMethod yX11_copy ∈ TB ∧ Cond.selects RX11 yX11_copy yX11_copy ∈ TB := ⟨tb (i := 1494) (by decide +kernel) rfl, tb (i := 1495) (by decide +kernel) rfl⟩
abbrev mJ11_isValidCodePoint_9a6ad : mM := (RJ11, cJ11_isValidCodePoint_9a6ad, 2, (some .boolean))
set_option maxRecDepth 100000 in
theorem i_J11_isValidCodePoint_9a6ad : MI yJ11_isValidCodePoint_9a6ad mJ11_isValidCodePoint_9a6ad 1 := ⟨rfl, pn_J11.1, tcc3 (i := 39) rfl rfl, pn_J11.2.1, ⟨pn_J11.2.2.1, pn_J11.2.2.2, pd_12⟩, by decide⟩
theorem s_J11_isValidCodePoint_9a6ad : Cond.static yJ11_isValidCodePoint_9a6ad ∈ TB := tb (i := 699) (by decide +kernel) rfl
abbrev mJ11_highSurrogate_5068e : mM := (RJ11, cJ11_highSurrogate_5068e, 1, (some .char))
set_option maxRecDepth 100000 in
theorem i_J11_highSurrogate_5068e : MI yJ11_highSurrogate_5068e mJ11_highSurrogate_5068e 1 := ⟨rfl, pn_J11.1, tcc3 (i := 40) rfl rfl, pn_J11.2.1, ⟨pn_J11.2.2.1, pn_J11.2.2.2, pd_32⟩, by decide⟩
theorem s_J11_highSurrogate_5068e : Cond.static yJ11_highSurrogate_5068e ∈ TB := tb (i := 702) (by decide +kernel) rfl
abbrev mJ11_lowSurrogate_5068e : mM := (RJ11, cJ11_lowSurrogate_5068e, 1, (some .char))
set_option maxRecDepth 100000 in
theorem i_J11_lowSurrogate_5068e : MI yJ11_lowSurrogate_5068e mJ11_lowSurrogate_5068e 1 := ⟨rfl, pn_J11.1, tcc3 (i := 41) rfl rfl, pn_J11.2.1, ⟨pn_J11.2.2.1, pn_J11.2.2.2, pd_32⟩, by decide⟩
theorem s_J11_lowSurrogate_5068e : Cond.static yJ11_lowSurrogate_5068e ∈ TB := tb (i := 706) (by decide +kernel) rfl
abbrev mJ6_bitCount_0f7a4 : mM := (RJ6, cJ6_bitCount_0f7a4, 1, (some .int))
set_option maxRecDepth 100000 in
theorem i_J6_bitCount_0f7a4 : MI yJ6_bitCount_0f7a4 mJ6_bitCount_0f7a4 1 := ⟨rfl, pn_J6.1, tcc4 (i := 23) rfl rfl, pn_J6.2.1, ⟨pn_J6.2.2.1, pn_J6.2.2.2, pd_3⟩, by decide⟩
theorem s_J6_bitCount_0f7a4 : Cond.static yJ6_bitCount_0f7a4 ∈ TB := tb (i := 882) (by decide +kernel) rfl
abbrev mJ0_length_8abf5 : mM := (RJ0, cJ0_length_8abf5, 1, (some .int))
set_option maxRecDepth 100000 in
theorem i_J0_length_8abf5 : MI yJ0_length_8abf5 mJ0_length_8abf5 0 := ⟨rfl, pn_J0.1, tcc3 (i := 25) rfl rfl, pn_J0.2.1, ⟨pn_J0.2.2.1, pn_J0.2.2.2, pd_7⟩, by decide⟩
theorem v_J0_length_8abf5 : Cond.instanceMethod yJ0_length_8abf5 ∈ TB ∧ Cond.selects RJ0 yJ0_length_8abf5 yJ0_length_8abf5 ∈ TB := ⟨tb (i := 642) (by decide +kernel) rfl, tb (i := 643) (by decide +kernel) rfl⟩
abbrev mJ0_indexOf_0f7a4 : mM := (RJ0, cJ0_indexOf_0f7a4, 2, (some .int))
set_option maxRecDepth 100000 in
theorem i_J0_indexOf_0f7a4 : MI yJ0_indexOf_0f7a4 mJ0_indexOf_0f7a4 1 := ⟨rfl, pn_J0.1, tcc3 (i := 22) rfl rfl, pn_J0.2.1, ⟨pn_J0.2.2.1, pn_J0.2.2.2, pd_3⟩, by decide⟩
theorem v_J0_indexOf_0f7a4 : Cond.instanceMethod yJ0_indexOf_0f7a4 ∈ TB ∧ Cond.selects RJ0 yJ0_indexOf_0f7a4 yJ0_indexOf_0f7a4 ∈ TB := ⟨tb (i := 628) (by decide +kernel) rfl, tb (i := 629) (by decide +kernel) rfl⟩
abbrev mJ0_indexOf_7cf53 : mM := (RJ0, cJ0_indexOf_7cf53, 3, (some .int))
set_option maxRecDepth 100000 in
theorem i_J0_indexOf_7cf53 : MI yJ0_indexOf_7cf53 mJ0_indexOf_7cf53 2 := ⟨rfl, pn_J0.1, tcc3 (i := 23) rfl rfl, pn_J0.2.1, ⟨pn_J0.2.2.1, pn_J0.2.2.2, pd_10⟩, by decide⟩
theorem v_J0_indexOf_7cf53 : Cond.instanceMethod yJ0_indexOf_7cf53 ∈ TB ∧ Cond.selects RJ0 yJ0_indexOf_7cf53 yJ0_indexOf_7cf53 ∈ TB := ⟨tb (i := 632) (by decide +kernel) rfl, tb (i := 633) (by decide +kernel) rfl⟩
abbrev mJ0_coder_7d493 : mM := (RJ0, cJ0_coder_7d493, 1, (some .byte))
set_option maxRecDepth 100000 in
theorem i_J0_coder_7d493 : MI yJ0_coder_7d493 mJ0_coder_7d493 0 := ⟨rfl, pn_J0.1, tcc3 (i := 26) rfl rfl, pn_J0.2.1, ⟨pn_J0.2.2.1, pn_J0.2.2.2, pd_33⟩, by decide⟩
theorem v_J0_coder_7d493 : Cond.instanceMethod yJ0_coder_7d493 ∈ TB ∧ Cond.selects RJ0 yJ0_coder_7d493 yJ0_coder_7d493 ∈ TB := ⟨tb (i := 646) (by decide +kernel) rfl, tb (i := 647) (by decide +kernel) rfl⟩
abbrev mJ0_isLatin1_aae02 : mM := (RJ0, cJ0_isLatin1_aae02, 1, (some .boolean))
set_option maxRecDepth 100000 in
theorem i_J0_isLatin1_aae02 : MI yJ0_isLatin1_aae02 mJ0_isLatin1_aae02 0 := ⟨rfl, pn_J0.1, tcc3 (i := 24) rfl rfl, pn_J0.2.1, ⟨pn_J0.2.2.1, pn_J0.2.2.2, pd_22⟩, by decide⟩
theorem v_J0_isLatin1_aae02 : Cond.instanceMethod yJ0_isLatin1_aae02 ∈ TB ∧ Cond.selects RJ0 yJ0_isLatin1_aae02 yJ0_isLatin1_aae02 ∈ TB := ⟨tb (i := 636) (by decide +kernel) rfl, tb (i := 637) (by decide +kernel) rfl⟩
abbrev mJ0_checkBoundsBeginEnd_23922 : mM := (RJ0, cJ0_checkBoundsBeginEnd_23922, 3, none)
set_option maxRecDepth 100000 in
theorem i_J0_checkBoundsBeginEnd_23922 : MI yJ0_checkBoundsBeginEnd_23922 mJ0_checkBoundsBeginEnd_23922 3 := ⟨rfl, pn_J0.1, tcc3 (i := 34) rfl rfl, pn_J0.2.1, ⟨pn_J0.2.2.1, pn_J0.2.2.2, pd_5⟩, by decide⟩
theorem s_J0_checkBoundsBeginEnd_23922 : Cond.static yJ0_checkBoundsBeginEnd_23922 ∈ TB := tb (i := 676) (by decide +kernel) rfl
abbrev mJ1_canEncode_9a6ad : mM := (RJ1, cJ1_canEncode_9a6ad, 1, (some .boolean))
set_option maxRecDepth 100000 in
theorem i_J1_canEncode_9a6ad : MI yJ1_canEncode_9a6ad mJ1_canEncode_9a6ad 1 := ⟨rfl, pn_J1.1, tcc3 (i := 28) rfl rfl, pn_J1.2.1, ⟨pn_J1.2.2.1, pn_J1.2.2.2, pd_12⟩, by decide⟩
theorem s_J1_canEncode_9a6ad : Cond.static yJ1_canEncode_9a6ad ∈ TB := tb (i := 653) (by decide +kernel) rfl
abbrev mJ1_indexOf_4cfef : mM := (RJ1, cJ1_indexOf_4cfef, 4, (some .int))
set_option maxRecDepth 100000 in
theorem i_J1_indexOf_4cfef : MI yJ1_indexOf_4cfef mJ1_indexOf_4cfef 4 := ⟨rfl, pn_J1.1, tcc3 (i := 27) rfl rfl, pn_J1.2.1, ⟨pn_J1.2.2.1, pn_J1.2.2.2, pd_34⟩, by decide⟩
theorem s_J1_indexOf_4cfef : Cond.static yJ1_indexOf_4cfef ∈ TB := tb (i := 650) (by decide +kernel) rfl
abbrev mJ1_indexOfChar_4cfef : mM := (RJ1, cJ1_indexOfChar_4cfef, 6, (some .int))
set_option maxRecDepth 100000 in
theorem i_J1_indexOfChar_4cfef : MI yJ1_indexOfChar_4cfef mJ1_indexOfChar_4cfef 4 := ⟨rfl, pn_J1.1, tcc3 (i := 29) rfl rfl, pn_J1.2.1, ⟨pn_J1.2.2.1, pn_J1.2.2.2, pd_34⟩, by decide⟩
theorem s_J1_indexOfChar_4cfef : Cond.static yJ1_indexOfChar_4cfef ∈ TB := tb (i := 658) (by decide +kernel) rfl
abbrev mJ2_getChar_3b067 : mM := (RJ2, cJ2_getChar_3b067, 2, (some .char))
set_option maxRecDepth 100000 in
theorem i_J2_getChar_3b067 : MI yJ2_getChar_3b067 mJ2_getChar_3b067 2 := ⟨rfl, pn_J2.1, tcc3 (i := 37) rfl rfl, pn_J2.2.1, ⟨pn_J2.2.2.1, pn_J2.2.2.2, pd_35⟩, by decide⟩
theorem s_J2_getChar_3b067 : Cond.static yJ2_getChar_3b067 ∈ TB := tb (i := 687) (by decide +kernel) rfl
abbrev mJ2_length_9d52b : mM := (RJ2, cJ2_length_9d52b, 1, (some .int))
set_option maxRecDepth 100000 in
theorem i_J2_length_9d52b : MI yJ2_length_9d52b mJ2_length_9d52b 1 := ⟨rfl, pn_J2.1, tcc3 (i := 33) rfl rfl, pn_J2.2.1, ⟨pn_J2.2.2.1, pn_J2.2.2.2, pd_36⟩, by decide⟩
theorem s_J2_length_9d52b : Cond.static yJ2_length_9d52b ∈ TB := tb (i := 673) (by decide +kernel) rfl
abbrev mJ2_indexOf_4cfef : mM := (RJ2, cJ2_indexOf_4cfef, 4, (some .int))
set_option maxRecDepth 100000 in
theorem i_J2_indexOf_4cfef : MI yJ2_indexOf_4cfef mJ2_indexOf_4cfef 4 := ⟨rfl, pn_J2.1, tcc3 (i := 30) rfl rfl, pn_J2.2.1, ⟨pn_J2.2.2.1, pn_J2.2.2.2, pd_34⟩, by decide⟩
theorem s_J2_indexOf_4cfef : Cond.static yJ2_indexOf_4cfef ∈ TB := tb (i := 661) (by decide +kernel) rfl
abbrev mJ2_indexOfChar_4cfef : mM := (RJ2, cJ2_indexOfChar_4cfef, 4, (some .int))
set_option maxRecDepth 100000 in
theorem i_J2_indexOfChar_4cfef : MI yJ2_indexOfChar_4cfef mJ2_indexOfChar_4cfef 4 := ⟨rfl, pn_J2.1, tcc3 (i := 31) rfl rfl, pn_J2.2.1, ⟨pn_J2.2.2.1, pn_J2.2.2.2, pd_34⟩, by decide⟩
theorem s_J2_indexOfChar_4cfef : Cond.static yJ2_indexOfChar_4cfef ∈ TB := tb (i := 667) (by decide +kernel) rfl
abbrev mJ2_indexOfCharUnsafe_4cfef : mM := (RJ2, cJ2_indexOfCharUnsafe_4cfef, 5, (some .int))
set_option maxRecDepth 100000 in
theorem i_J2_indexOfCharUnsafe_4cfef : MI yJ2_indexOfCharUnsafe_4cfef mJ2_indexOfCharUnsafe_4cfef 4 := ⟨rfl, pn_J2.1, tcc3 (i := 36) rfl rfl, pn_J2.2.1, ⟨pn_J2.2.2.1, pn_J2.2.2.2, pd_34⟩, by decide⟩
theorem s_J2_indexOfCharUnsafe_4cfef : Cond.static yJ2_indexOfCharUnsafe_4cfef ∈ TB := tb (i := 684) (by decide +kernel) rfl
abbrev mJ2_indexOfSupplementary_4cfef : mM := (RJ2, cJ2_indexOfSupplementary_4cfef, 7, (some .int))
set_option maxRecDepth 100000 in
theorem i_J2_indexOfSupplementary_4cfef : MI yJ2_indexOfSupplementary_4cfef mJ2_indexOfSupplementary_4cfef 4 := ⟨rfl, pn_J2.1, tcc3 (i := 38) rfl rfl, pn_J2.2.1, ⟨pn_J2.2.2.1, pn_J2.2.2.2, pd_34⟩, by decide⟩
theorem s_J2_indexOfSupplementary_4cfef : Cond.static yJ2_indexOfSupplementary_4cfef ∈ TB := tb (i := 696) (by decide +kernel) rfl
abbrev mJ2_checkBoundsBeginEnd_d044e : mM := (RJ2, cJ2_checkBoundsBeginEnd_d044e, 3, none)
set_option maxRecDepth 100000 in
theorem i_J2_checkBoundsBeginEnd_d044e : MI yJ2_checkBoundsBeginEnd_d044e mJ2_checkBoundsBeginEnd_d044e 3 := ⟨rfl, pn_J2.1, tcc3 (i := 32) rfl rfl, pn_J2.2.1, ⟨pn_J2.2.2.1, pn_J2.2.2.2, pd_37⟩, by decide⟩
theorem s_J2_checkBoundsBeginEnd_d044e : Cond.static yJ2_checkBoundsBeginEnd_d044e ∈ TB := tb (i := 670) (by decide +kernel) rfl
abbrev mJ7_fill_d0a16 : mM := (RJ7, cJ7_fill_d0a16, 5, none)
set_option maxRecDepth 100000 in
theorem i_J7_fill_d0a16 : MI yJ7_fill_d0a16 mJ7_fill_d0a16 2 := ⟨rfl, pn_J7.1, tcc5 (i := 16) rfl rfl, pn_J7.2.1, ⟨pn_J7.2.2.1, pn_J7.2.2.2, pd_38⟩, by decide⟩
theorem s_J7_fill_d0a16 : Cond.static yJ7_fill_d0a16 ∈ TB := tb (i := 1089) (by decide +kernel) rfl
abbrev mJ7_fill_53178 : mM := (RJ7, cJ7_fill_53178, 4, none)
set_option maxRecDepth 100000 in
theorem i_J7_fill_53178 : MI yJ7_fill_53178 mJ7_fill_53178 2 := ⟨rfl, pn_J7.1, tcc3 (i := 56) rfl rfl, pn_J7.2.1, ⟨pn_J7.2.2.1, pn_J7.2.2.2, pd_39⟩, by decide⟩
theorem s_J7_fill_53178 : Cond.static yJ7_fill_53178 ∈ TB := tb (i := 776) (by decide +kernel) rfl
abbrev mJ3_checkFromToIndex_8c36e : mM := (RJ3, cJ3_checkFromToIndex_8c36e, 4, (some .int))
set_option maxRecDepth 100000 in
theorem i_J3_checkFromToIndex_8c36e : MI yJ3_checkFromToIndex_8c36e mJ3_checkFromToIndex_8c36e 4 := ⟨rfl, pn_J3.1, tcc3 (i := 35) rfl rfl, pn_J3.2.1, ⟨pn_J3.2.2.1, pn_J3.2.2.2, pd_40⟩, by decide⟩
theorem s_J3_checkFromToIndex_8c36e : Cond.static yJ3_checkFromToIndex_8c36e ∈ TB := tb (i := 681) (by decide +kernel) rfl
theorem k_X10_72 : CS RX10 72 mX10_within 3 := ⟨_, i_X10_within, tb (i := 455) (by decide +kernel) rfl, s_X10_within⟩
theorem k_X10_86 : CV RX10 86 mX3_addParish 1 2 := ⟨_, TX3, 7, i_X3_addParish, tb (i := 458) (by decide +kernel) rfl, v_X3_addParish.1, v_X3_addParish.2, rfl⟩
theorem k_X10_90 : CV RX10 90 mX3_hasParish 1 2 := ⟨_, TX3, 7, i_X3_hasParish, tb (i := 466) (by decide +kernel) rfl, v_X3_hasParish.1, v_X3_hasParish.2, rfl⟩
theorem k_X10_98 : CV RX10 98 mX3_joins 2 2 := ⟨_, TX3, 7, i_X3_joins, tb (i := 474) (by decide +kernel) rfl, v_X3_joins.1, v_X3_joins.2, rfl⟩
theorem k_X10_105 : CV RX10 105 mX3_addRoad 3 2 := ⟨_, TX3, 7, i_X3_addRoad, tb (i := 484) (by decide +kernel) rfl, v_X3_addRoad.1, v_X3_addRoad.2, rfl⟩
theorem k_X10_109 : CV RX10 109 mX3_hasRoad 1 2 := ⟨_, TX3, 7, i_X3_hasRoad, tb (i := 492) (by decide +kernel) rfl, v_X3_hasRoad.1, v_X3_hasRoad.2, rfl⟩
theorem k_X10_118 : CV RX10 118 mX7_addCart 2 6 := ⟨_, TX7, 13, i_X7_addCart, tb (i := 500) (by decide +kernel) rfl, v_X7_addCart.1, v_X7_addCart.2, rfl⟩
theorem k_X10_125 : CV RX10 125 mX7_addGood 3 6 := ⟨_, TX7, 13, i_X7_addGood, tb (i := 508) (by decide +kernel) rfl, v_X7_addGood.1, v_X7_addGood.2, rfl⟩
theorem k_X10_128 : CV RX10 128 mX7_hasGood 1 6 := ⟨_, TX7, 13, i_X7_hasGood, tb (i := 516) (by decide +kernel) rfl, v_X7_hasGood.1, v_X7_hasGood.2, rfl⟩
theorem k_X10_131 : CV RX10 131 mX7_weightOfGood 1 6 := ⟨_, TX7, 13, i_X7_weightOfGood, tb (i := 520) (by decide +kernel) rfl, v_X7_weightOfGood.1, v_X7_weightOfGood.2, rfl⟩
theorem k_X7_65 : CV RX7 65 mX7_weightAt 2 6 := ⟨_, TX7, 13, i_X7_weightAt, tb (i := 524) (by decide +kernel) rfl, v_X7_weightAt.1, v_X7_weightAt.2, rfl⟩
theorem k_X7_57 : CV RX7 57 mX7_season 0 6 := ⟨_, TX7, 13, i_X7_season, tb (i := 528) (by decide +kernel) rfl, v_X7_season.1, v_X7_season.2, rfl⟩
theorem k_X7_47 : CS RX7 47 mX7_seasonOf 1 := ⟨_, i_X7_seasonOf, tb (i := 532) (by decide +kernel) rfl, s_X7_seasonOf⟩
theorem k_X7_61 : CS RX7 61 mX3_weight 3 := ⟨_, i_X3_weight, tb (i := 535) (by decide +kernel) rfl, s_X3_weight⟩
theorem k_X10_140 : CV RX10 140 mX7_addPerson 2 6 := ⟨_, TX7, 13, i_X7_addPerson, tb (i := 542) (by decide +kernel) rfl, v_X7_addPerson.1, v_X7_addPerson.2, rfl⟩
theorem k_X10_146 : CV RX10 146 mX3_roadsAt 1 2 := ⟨_, TX3, 7, i_X3_roadsAt, tb (i := 550) (by decide +kernel) rfl, v_X3_roadsAt.1, v_X3_roadsAt.2, rfl⟩
theorem k_X3_43 : CV RX3 43 mX3_otherEnd 2 2 := ⟨_, TX3, 7, i_X3_otherEnd, tb (i := 554) (by decide +kernel) rfl, v_X3_otherEnd.1, v_X3_otherEnd.2, rfl⟩
theorem k_X10_152 : CS RX10 152 mX10_setThere 3 := ⟨_, i_X10_setThere, tb (i := 558) (by decide +kernel) rfl, s_X10_setThere⟩
theorem k_X10_159 : CV RX10 159 mX10_toldOfRoad 2 9 := ⟨_, TX10, 10, i_X10_toldOfRoad, tb (i := 565) (by decide +kernel) rfl, v_X10_toldOfRoad.1, v_X10_toldOfRoad.2, rfl⟩
theorem k_X10_162 : CV RX10 162 mX10_toldOfCart 2 9 := ⟨_, TX10, 10, i_X10_toldOfCart, tb (i := 569) (by decide +kernel) rfl, v_X10_toldOfCart.1, v_X10_toldOfCart.2, rfl⟩
theorem k_X10_210 : CV RX10 210 mX7_hasCart 1 6 := ⟨_, TX7, 13, i_X7_hasCart, tb (i := 573) (by decide +kernel) rfl, v_X7_hasCart.1, v_X7_hasCart.2, rfl⟩
theorem k_X10_165 : CV RX10 165 mX10_toldOfGood 2 9 := ⟨_, TX10, 10, i_X10_toldOfGood, tb (i := 577) (by decide +kernel) rfl, v_X10_toldOfGood.1, v_X10_toldOfGood.2, rfl⟩
theorem k_X10_168 : CV RX10 168 mX10_toldOfPerson 2 9 := ⟨_, TX10, 10, i_X10_toldOfPerson, tb (i := 581) (by decide +kernel) rfl, v_X10_toldOfPerson.1, v_X10_toldOfPerson.2, rfl⟩
theorem k_X10_171 : CV RX10 171 mX7_weightAt 2 6 := ⟨_, TX7, 13, i_X7_weightAt, tb (i := 589) (by decide +kernel) rfl, v_X7_weightAt.1, v_X7_weightAt.2, rfl⟩
theorem k_X10_174 : CV RX10 174 mX8_isFull 0 7 := ⟨_, TX8, 4, i_X8_isFull, tb (i := 594) (by decide +kernel) rfl, v_X8_isFull.1, v_X8_isFull.2, rfl⟩
theorem k_X10_178 : CV RX10 178 mX8_add 1 7 := ⟨_, TX8, 4, i_X8_add, tb (i := 598) (by decide +kernel) rfl, v_X8_add.1, v_X8_add.2, rfl⟩
theorem k_X10_181 : CV RX10 181 mX8_read 0 7 := ⟨_, TX8, 4, i_X8_read, tb (i := 606) (by decide +kernel) rfl, v_X8_read.1, v_X8_read.2, rfl⟩
theorem k_X8_29 : CV RX8 29 mX3_clear 0 2 := ⟨_, TX3, 7, i_X3_clear, tb (i := 610) (by decide +kernel) rfl, v_X3_clear.1, v_X3_clear.2, rfl⟩
theorem k_X8_32 : CV RX8 32 mX8_readParishes 0 7 := ⟨_, TX8, 4, i_X8_readParishes, tb (i := 614) (by decide +kernel) rfl, v_X8_readParishes.1, v_X8_readParishes.2, rfl⟩
theorem k_X8_46 : CV RX8 46 mX8_readParish 0 7 := ⟨_, TX8, 4, i_X8_readParish, tb (i := 618) (by decide +kernel) rfl, v_X8_readParish.1, v_X8_readParish.2, rfl⟩
theorem k_X8_43 : CV RX8 43 mX8_skipBlanks 0 7 := ⟨_, TX8, 4, i_X8_skipBlanks, tb (i := 622) (by decide +kernel) rfl, v_X8_skipBlanks.1, v_X8_skipBlanks.2, rfl⟩
theorem k_X8_51 : CT RX8 51 mJ0_indexOf_0f7a4 1 := ⟨_, i_J0_indexOf_0f7a4, tb (i := 627) (by decide +kernel) rfl, v_J0_indexOf_0f7a4.1, v_J0_indexOf_0f7a4.2, rfl⟩
theorem k_J0_633 : CT RJ0 633 mJ0_indexOf_7cf53 2 := ⟨_, i_J0_indexOf_7cf53, tb (i := 631) (by decide +kernel) rfl, v_J0_indexOf_7cf53.1, v_J0_indexOf_7cf53.2, rfl⟩
theorem k_J0_492 : CT RJ0 492 mJ0_isLatin1_aae02 0 := ⟨_, i_J0_isLatin1_aae02, tb (i := 635) (by decide +kernel) rfl, v_J0_isLatin1_aae02.1, v_J0_isLatin1_aae02.2, rfl⟩
theorem k_J0_505 : CT RJ0 505 mJ0_length_8abf5 0 := ⟨_, i_J0_length_8abf5, tb (i := 641) (by decide +kernel) rfl, v_J0_length_8abf5.1, v_J0_length_8abf5.2, rfl⟩
theorem k_J0_335 : CT RJ0 335 mJ0_coder_7d493 0 := ⟨_, i_J0_coder_7d493, tb (i := 645) (by decide +kernel) rfl, v_J0_coder_7d493.1, v_J0_coder_7d493.2, rfl⟩
theorem k_J0_637 : CS RJ0 637 mJ1_indexOf_4cfef 4 := ⟨_, i_J1_indexOf_4cfef, tb (i := 649) (by decide +kernel) rfl, s_J1_indexOf_4cfef⟩
theorem k_J1_88 : CS RJ1 88 mJ1_canEncode_9a6ad 1 := ⟨_, i_J1_canEncode_9a6ad, tb (i := 652) (by decide +kernel) rfl, s_J1_canEncode_9a6ad⟩
theorem k_J1_95 : CS RJ1 95 mJ1_indexOfChar_4cfef 4 := ⟨_, i_J1_indexOfChar_4cfef, tb (i := 657) (by decide +kernel) rfl, s_J1_indexOfChar_4cfef⟩
theorem k_J0_640 : CS RJ0 640 mJ2_indexOf_4cfef 4 := ⟨_, i_J2_indexOf_4cfef, tb (i := 660) (by decide +kernel) rfl, s_J2_indexOf_4cfef⟩
theorem k_J2_228 : CS RJ2 228 mJ2_indexOfChar_4cfef 4 := ⟨_, i_J2_indexOfChar_4cfef, tb (i := 666) (by decide +kernel) rfl, s_J2_indexOfChar_4cfef⟩
theorem k_J2_96 : CS RJ2 96 mJ2_checkBoundsBeginEnd_d044e 3 := ⟨_, i_J2_checkBoundsBeginEnd_d044e, tb (i := 669) (by decide +kernel) rfl, s_J2_checkBoundsBeginEnd_d044e⟩
theorem k_J2_48 : CS RJ2 48 mJ2_length_9d52b 1 := ⟨_, i_J2_length_9d52b, tb (i := 672) (by decide +kernel) rfl, s_J2_length_9d52b⟩
theorem k_J2_241 : CS RJ2 241 mJ0_checkBoundsBeginEnd_23922 3 := ⟨_, i_J0_checkBoundsBeginEnd_23922, tb (i := 675) (by decide +kernel) rfl, s_J0_checkBoundsBeginEnd_23922⟩
theorem k_J0_1062 : CS RJ0 1062 mJ3_checkFromToIndex_8c36e 4 := ⟨_, i_J3_checkFromToIndex_8c36e, tb (i := 680) (by decide +kernel) rfl, s_J3_checkFromToIndex_8c36e⟩
theorem k_J2_244 : CS RJ2 244 mJ2_indexOfCharUnsafe_4cfef 4 := ⟨_, i_J2_indexOfCharUnsafe_4cfef, tb (i := 683) (by decide +kernel) rfl, s_J2_indexOfCharUnsafe_4cfef⟩
theorem k_J2_71 : CS RJ2 71 mJ2_getChar_3b067 2 := ⟨_, i_J2_getChar_3b067, tb (i := 686) (by decide +kernel) rfl, s_J2_getChar_3b067⟩
theorem k_J2_232 : CS RJ2 232 mJ2_indexOfSupplementary_4cfef 4 := ⟨_, i_J2_indexOfSupplementary_4cfef, tb (i := 695) (by decide +kernel) rfl, s_J2_indexOfSupplementary_4cfef⟩
theorem k_J2_164 : CS RJ2 164 mJ11_isValidCodePoint_9a6ad 1 := ⟨_, i_J11_isValidCodePoint_9a6ad, tb (i := 698) (by decide +kernel) rfl, s_J11_isValidCodePoint_9a6ad⟩
theorem k_J2_157 : CS RJ2 157 mJ11_highSurrogate_5068e 1 := ⟨_, i_J11_highSurrogate_5068e, tb (i := 701) (by decide +kernel) rfl, s_J11_highSurrogate_5068e⟩
theorem k_J2_161 : CS RJ2 161 mJ11_lowSurrogate_5068e 1 := ⟨_, i_J11_lowSurrogate_5068e, tb (i := 705) (by decide +kernel) rfl, s_J11_lowSurrogate_5068e⟩
theorem k_X8_57 : CV RX8 57 mX3_addParish 1 2 := ⟨_, TX3, 7, i_X3_addParish, tb (i := 709) (by decide +kernel) rfl, v_X3_addParish.1, v_X3_addParish.2, rfl⟩
theorem k_X8_60 : CV RX8 60 mX8_digit 2 7 := ⟨_, TX8, 4, i_X8_digit, tb (i := 710) (by decide +kernel) rfl, v_X8_digit.1, v_X8_digit.2, rfl⟩
theorem k_X8_36 : CV RX8 36 mX8_takes 1 7 := ⟨_, TX8, 4, i_X8_takes, tb (i := 714) (by decide +kernel) rfl, v_X8_takes.1, v_X8_takes.2, rfl⟩
theorem k_X8_40 : CV RX8 40 mX8_readRoads 0 7 := ⟨_, TX8, 4, i_X8_readRoads, tb (i := 718) (by decide +kernel) rfl, v_X8_readRoads.1, v_X8_readRoads.2, rfl⟩
theorem k_X8_68 : CV RX8 68 mX8_readRoad 0 7 := ⟨_, TX8, 4, i_X8_readRoad, tb (i := 722) (by decide +kernel) rfl, v_X8_readRoad.1, v_X8_readRoad.2, rfl⟩
theorem k_X8_74 : CV RX8 74 mX3_joins 2 2 := ⟨_, TX3, 7, i_X3_joins, tb (i := 726) (by decide +kernel) rfl, v_X3_joins.1, v_X3_joins.2, rfl⟩
theorem k_X8_78 : CV RX8 78 mX3_addRoad 3 2 := ⟨_, TX3, 7, i_X3_addRoad, tb (i := 727) (by decide +kernel) rfl, v_X3_addRoad.1, v_X3_addRoad.2, rfl⟩
theorem k_X10_187 : CV RX10 187 mX8_clear 0 7 := ⟨_, TX8, 4, i_X8_clear, tb (i := 728) (by decide +kernel) rfl, v_X8_clear.1, v_X8_clear.2, rfl⟩
theorem k_X10_193 : CV RX10 193 mX7_settle 1 6 := ⟨_, TX7, 13, i_X7_settle, tb (i := 732) (by decide +kernel) rfl, v_X7_settle.1, v_X7_settle.2, rfl⟩
theorem k_X7_90 : CV RX7 90 mX3_copyFrom 1 2 := ⟨_, TX3, 7, i_X3_copyFrom, tb (i := 736) (by decide +kernel) rfl, v_X3_copyFrom.1, v_X3_copyFrom.2, rfl⟩
theorem k_X10_200 : CV RX10 200 mX7_season 0 6 := ⟨_, TX7, 13, i_X7_season, tb (i := 748) (by decide +kernel) rfl, v_X7_season.1, v_X7_season.2, rfl⟩
theorem k_X10_204 : CV RX10 204 mX7_hanging 0 6 := ⟨_, TX7, 13, i_X7_hanging, tb (i := 749) (by decide +kernel) rfl, v_X7_hanging.1, v_X7_hanging.2, rfl⟩
theorem k_X10_207 : CV RX10 207 mX7_passWeek 0 6 := ⟨_, TX7, 13, i_X7_passWeek, tb (i := 757) (by decide +kernel) rfl, v_X7_passWeek.1, v_X7_passWeek.2, rfl⟩
theorem k_X7_78 : CV RX7 78 mX7_lighterParish 1 6 := ⟨_, TX7, 13, i_X7_lighterParish, tb (i := 761) (by decide +kernel) rfl, v_X7_lighterParish.1, v_X7_lighterParish.2, rfl⟩
theorem k_X7_87 : CV RX7 87 mX3_otherEnd 2 2 := ⟨_, TX3, 7, i_X3_otherEnd, tb (i := 765) (by decide +kernel) rfl, v_X3_otherEnd.1, v_X3_otherEnd.2, rfl⟩
theorem k_X7_81 : CV RX7 81 mX7_weightOfGood 1 6 := ⟨_, TX7, 13, i_X7_weightOfGood, tb (i := 766) (by decide +kernel) rfl, v_X7_weightOfGood.1, v_X7_weightOfGood.2, rfl⟩
theorem k_X10_213 : CV RX10 213 mX5_harness 1 4 := ⟨_, TX5, 14, i_X5_harness, tb (i := 771) (by decide +kernel) rfl, v_X5_harness.1, v_X5_harness.2, rfl⟩
theorem k_X5_60 : CS RX5 60 mJ7_fill_53178 2 := ⟨_, i_J7_fill_53178, tb (i := 775) (by decide +kernel) rfl, s_J7_fill_53178⟩
theorem k_X10_217 : CV RX10 217 mX5_weigh 1 4 := ⟨_, TX5, 14, i_X5_weigh, tb (i := 778) (by decide +kernel) rfl, v_X5_weigh.1, v_X5_weigh.2, rfl⟩
theorem k_X5_76 : CV RX5 76 mX7_weightAt 2 6 := ⟨_, TX7, 13, i_X7_weightAt, tb (i := 782) (by decide +kernel) rfl, v_X7_weightAt.1, v_X7_weightAt.2, rfl⟩
theorem k_X10_220 : CV RX10 220 mX5_trace 2 4 := ⟨_, TX5, 14, i_X5_trace, tb (i := 783) (by decide +kernel) rfl, v_X5_trace.1, v_X5_trace.2, rfl⟩
theorem k_X5_128 : CV RX5 128 mX5_spreadAll 0 4 := ⟨_, TX5, 14, i_X5_spreadAll, tb (i := 787) (by decide +kernel) rfl, v_X5_spreadAll.1, v_X5_spreadAll.2, rfl⟩
theorem k_X5_119 : CV RX5 119 mX5_spread 1 4 := ⟨_, TX5, 14, i_X5_spread, tb (i := 791) (by decide +kernel) rfl, v_X5_spread.1, v_X5_spread.2, rfl⟩
theorem k_X5_80 : CV RX5 80 mX5_start 1 4 := ⟨_, TX5, 14, i_X5_start, tb (i := 795) (by decide +kernel) rfl, v_X5_start.1, v_X5_start.2, rfl⟩
theorem k_X5_84 : CV RX5 84 mX5_nearest 0 4 := ⟨_, TX5, 14, i_X5_nearest, tb (i := 800) (by decide +kernel) rfl, v_X5_nearest.1, v_X5_nearest.2, rfl⟩
theorem k_X5_88 : CV RX5 88 mX5_leave 1 4 := ⟨_, TX5, 14, i_X5_leave, tb (i := 804) (by decide +kernel) rfl, v_X5_leave.1, v_X5_leave.2, rfl⟩
theorem k_X5_116 : CV RX5 116 mX5_roadCost 2 4 := ⟨_, TX5, 14, i_X5_roadCost, tb (i := 808) (by decide +kernel) rfl, v_X5_roadCost.1, v_X5_roadCost.2, rfl⟩
theorem k_X5_131 : CV RX5 131 mX5_findNext 1 4 := ⟨_, TX5, 14, i_X5_findNext, tb (i := 813) (by decide +kernel) rfl, v_X5_findNext.1, v_X5_findNext.2, rfl⟩
theorem k_X5_137 : CV RX5 137 mX5_firstStep 3 4 := ⟨_, TX5, 14, i_X5_firstStep, tb (i := 817) (by decide +kernel) rfl, v_X5_firstStep.1, v_X5_firstStep.2, rfl⟩
theorem k_X5_141 : CV RX5 141 mX5_reaches 3 4 := ⟨_, TX5, 14, i_X5_reaches, tb (i := 821) (by decide +kernel) rfl, v_X5_reaches.1, v_X5_reaches.2, rfl⟩
theorem k_X10_236 : CV RX10 236 mX5_spread 1 4 := ⟨_, TX5, 14, i_X5_spread, tb (i := 830) (by decide +kernel) rfl, v_X5_spread.1, v_X5_spread.2, rfl⟩
theorem k_X10_250 : CV RX10 250 mX5_marketOf 1 4 := ⟨_, TX5, 14, i_X5_marketOf, tb (i := 837) (by decide +kernel) rfl, v_X5_marketOf.1, v_X5_marketOf.2, rfl⟩
theorem k_X5_100 : CV RX5 100 mX5_weigh 1 4 := ⟨_, TX5, 14, i_X5_weigh, tb (i := 841) (by decide +kernel) rfl, v_X5_weigh.1, v_X5_weigh.2, rfl⟩
theorem k_X5_109 : CV RX5 109 mX5_bestPlace 2 4 := ⟨_, TX5, 14, i_X5_bestPlace, tb (i := 842) (by decide +kernel) rfl, v_X5_bestPlace.1, v_X5_bestPlace.2, rfl⟩
theorem k_X5_91 : CV RX5 91 mX5_heaviestOpen 0 4 := ⟨_, TX5, 14, i_X5_heaviestOpen, tb (i := 846) (by decide +kernel) rfl, v_X5_heaviestOpen.1, v_X5_heaviestOpen.2, rfl⟩
theorem k_X10_253 : CV RX10 253 mX9_best 2 8 := ⟨_, TX9, 7, i_X9_best, tb (i := 854) (by decide +kernel) rfl, v_X9_best.1, v_X9_best.2, rfl⟩
theorem k_X9_34 : CV RX9 34 mX9_findValues 2 8 := ⟨_, TX9, 7, i_X9_findValues, tb (i := 858) (by decide +kernel) rfl, v_X9_findValues.1, v_X9_findValues.2, rfl⟩
theorem k_X9_74 : CV RX9 74 mX5_harness 1 4 := ⟨_, TX5, 14, i_X5_harness, tb (i := 862) (by decide +kernel) rfl, v_X5_harness.1, v_X5_harness.2, rfl⟩
theorem k_X9_77 : CV RX9 77 mX5_weigh 1 4 := ⟨_, TX5, 14, i_X5_weigh, tb (i := 863) (by decide +kernel) rfl, v_X5_weigh.1, v_X5_weigh.2, rfl⟩
theorem k_X9_80 : CV RX9 80 mX5_spreadAll 0 4 := ⟨_, TX5, 14, i_X5_spreadAll, tb (i := 864) (by decide +kernel) rfl, v_X5_spreadAll.1, v_X5_spreadAll.2, rfl⟩
theorem k_X9_42 : CV RX9 42 mX5_leads 2 4 := ⟨_, TX5, 14, i_X5_leads, tb (i := 865) (by decide +kernel) rfl, v_X5_leads.1, v_X5_leads.2, rfl⟩
theorem k_X10_259 : CV RX10 259 mX9_law 2 8 := ⟨_, TX9, 7, i_X9_law, tb (i := 873) (by decide +kernel) rfl, v_X9_law.1, v_X9_law.2, rfl⟩
theorem k_X9_60 : CV RX9 60 mX9_findGains 1 8 := ⟨_, TX9, 7, i_X9_findGains, tb (i := 877) (by decide +kernel) rfl, v_X9_findGains.1, v_X9_findGains.2, rfl⟩
theorem k_X9_64 : CS RX9 64 mJ6_bitCount_0f7a4 1 := ⟨_, i_J6_bitCount_0f7a4, tb (i := 881) (by decide +kernel) rfl, s_J6_bitCount_0f7a4⟩
theorem k_X9_70 : CV RX9 70 mX9_endsGains 1 8 := ⟨_, TX9, 7, i_X9_endsGains, tb (i := 887) (by decide +kernel) rfl, v_X9_endsGains.1, v_X9_endsGains.2, rfl⟩
theorem k_X10_262 : CV RX10 262 mX2_takeOf 2 1 := ⟨_, TX2, 6, i_X2_takeOf, tb (i := 895) (by decide +kernel) rfl, v_X2_takeOf.1, v_X2_takeOf.2, rfl⟩
theorem k_X2_26 : CV RX2 26 mX5_harness 1 4 := ⟨_, TX5, 14, i_X5_harness, tb (i := 899) (by decide +kernel) rfl, v_X5_harness.1, v_X5_harness.2, rfl⟩
theorem k_X2_38 : CV RX2 38 mX5_marketOf 1 4 := ⟨_, TX5, 14, i_X5_marketOf, tb (i := 900) (by decide +kernel) rfl, v_X5_marketOf.1, v_X5_marketOf.2, rfl⟩
theorem k_X10_265 : CV RX10 265 mX2_findRests 3 1 := ⟨_, TX2, 6, i_X2_findRests, tb (i := 905) (by decide +kernel) rfl, v_X2_findRests.1, v_X2_findRests.2, rfl⟩
theorem k_X2_42 : CS RX2 42 mJ7_fill_53178 2 := ⟨_, i_J7_fill_53178, tb (i := 909) (by decide +kernel) rfl, s_J7_fill_53178⟩
theorem k_X2_48 : CV RX2 48 mX2_addTakes 3 1 := ⟨_, TX2, 6, i_X2_addTakes, tb (i := 910) (by decide +kernel) rfl, v_X2_addTakes.1, v_X2_addTakes.2, rfl⟩
theorem k_X2_65 : CV RX2 65 mX5_weigh 1 4 := ⟨_, TX5, 14, i_X5_weigh, tb (i := 914) (by decide +kernel) rfl, v_X5_weigh.1, v_X5_weigh.2, rfl⟩
theorem k_X2_80 : CS RX2 80 mX3_weight 3 := ⟨_, i_X3_weight, tb (i := 915) (by decide +kernel) rfl, s_X3_weight⟩
theorem k_X2_90 : CV RX2 90 mX5_bestPlace 2 4 := ⟨_, TX5, 14, i_X5_bestPlace, tb (i := 916) (by decide +kernel) rfl, v_X5_bestPlace.1, v_X5_bestPlace.2, rfl⟩
theorem k_X2_58 : CS RX2 58 mX2_most 3 := ⟨_, i_X2_most, tb (i := 917) (by decide +kernel) rfl, s_X2_most⟩
theorem k_X10_275 : CV RX10 275 mX3_hasSet 1 2 := ⟨_, TX3, 7, i_X3_hasSet, tb (i := 925) (by decide +kernel) rfl, v_X3_hasSet.1, v_X3_hasSet.2, rfl⟩
theorem k_X10_278 : CV RX10 278 mX4_worth 2 3 := ⟨_, TX4, 5, i_X4_worth, tb (i := 929) (by decide +kernel) rfl, v_X4_worth.1, v_X4_worth.2, rfl⟩
theorem k_X4_23 : CV RX4 23 mX5_harness 1 4 := ⟨_, TX5, 14, i_X5_harness, tb (i := 933) (by decide +kernel) rfl, v_X5_harness.1, v_X5_harness.2, rfl⟩
theorem k_X4_38 : CV RX4 38 mX5_weigh 1 4 := ⟨_, TX5, 14, i_X5_weigh, tb (i := 934) (by decide +kernel) rfl, v_X5_weigh.1, v_X5_weigh.2, rfl⟩
theorem k_X4_41 : CV RX4 41 mX4_addTotal 2 3 := ⟨_, TX4, 5, i_X4_addTotal, tb (i := 935) (by decide +kernel) rfl, v_X4_addTotal.1, v_X4_addTotal.2, rfl⟩
theorem k_X4_84 : CV RX4 84 mX5_bestPlace 2 4 := ⟨_, TX5, 14, i_X5_bestPlace, tb (i := 939) (by decide +kernel) rfl, v_X5_bestPlace.1, v_X5_bestPlace.2, rfl⟩
theorem k_X10_281 : CV RX10 281 mX10_isMember 2 9 := ⟨_, TX10, 10, i_X10_isMember, tb (i := 944) (by decide +kernel) rfl, v_X10_isMember.1, v_X10_isMember.2, rfl⟩
theorem k_X10_286 : CV RX10 286 mX4_findPart 3 3 := ⟨_, TX4, 5, i_X4_findPart, tb (i := 949) (by decide +kernel) rfl, v_X4_findPart.1, v_X4_findPart.2, rfl⟩
theorem k_X4_45 : CV RX4 45 mX4_findTotals 2 3 := ⟨_, TX4, 5, i_X4_findTotals, tb (i := 953) (by decide +kernel) rfl, v_X4_findTotals.1, v_X4_findTotals.2, rfl⟩
theorem k_X4_69 : CS RX4 69 mJ7_fill_53178 2 := ⟨_, i_J7_fill_53178, tb (i := 957) (by decide +kernel) rfl, s_J7_fill_53178⟩
theorem k_X4_48 : CS RX4 48 mJ6_bitCount_0f7a4 1 := ⟨_, i_J6_bitCount_0f7a4, tb (i := 958) (by decide +kernel) rfl, s_J6_bitCount_0f7a4⟩
theorem k_X4_58 : CS RX4 58 mX4_commonDivisor 2 := ⟨_, i_X4_commonDivisor, tb (i := 961) (by decide +kernel) rfl, s_X4_commonDivisor⟩
theorem k_X10_298 : CV RX10 298 mX7_wouldFall 2 6 := ⟨_, TX7, 13, i_X7_wouldFall, tb (i := 973) (by decide +kernel) rfl, v_X7_wouldFall.1, v_X7_wouldFall.2, rfl⟩
theorem k_X10_301 : CV RX10 301 mX7_wouldBeLighter 2 6 := ⟨_, TX7, 13, i_X7_wouldBeLighter, tb (i := 977) (by decide +kernel) rfl, v_X7_wouldBeLighter.1, v_X7_wouldBeLighter.2, rfl⟩
theorem k_X10_304 : CV RX10 304 mX7_copyFrom 1 6 := ⟨_, TX7, 13, i_X7_copyFrom, tb (i := 989) (by decide +kernel) rfl, v_X7_copyFrom.1, v_X7_copyFrom.2, rfl⟩
theorem k_X10_311 : CS RX10 311 mX6_isLane 2 := ⟨_, i_X6_isLane, tb (i := 1002) (by decide +kernel) rfl, s_X6_isLane⟩
theorem k_X6_27 : CS RX6 27 mX6_isSheet 1 := ⟨_, i_X6_isSheet, tb (i := 1005) (by decide +kernel) rfl, s_X6_isSheet⟩
theorem k_X10_316 : CV RX10 316 mX6_fault 4 5 := ⟨_, TX6, 4, i_X6_fault, tb (i := 1008) (by decide +kernel) rfl, v_X6_fault.1, v_X6_fault.2, rfl⟩
theorem k_X6_31 : CV RX6 31 mX6_isMissing 1 5 := ⟨_, TX6, 4, i_X6_isMissing, tb (i := 1012) (by decide +kernel) rfl, v_X6_isMissing.1, v_X6_isMissing.2, rfl⟩
theorem k_X6_34 : CV RX6 34 mX6_holds 3 5 := ⟨_, TX6, 4, i_X6_holds, tb (i := 1016) (by decide +kernel) rfl, v_X6_holds.1, v_X6_holds.2, rfl⟩
theorem k_X10_325 : CS RX10 325 mX0_areStones 3 := ⟨_, i_X0_areStones, tb (i := 1021) (by decide +kernel) rfl, s_X0_areStones⟩
theorem k_X10_330 : CS RX10 330 mX0_turning 6 := ⟨_, i_X0_turning, tb (i := 1028) (by decide +kernel) rfl, s_X0_turning⟩
theorem k_X0_17 : CV RX0 17 mX7_weightAt 2 6 := ⟨_, TX7, 13, i_X7_weightAt, tb (i := 1031) (by decide +kernel) rfl, v_X7_weightAt.1, v_X7_weightAt.2, rfl⟩
theorem k_X10_334 : CS RX10 334 mX0_fewest 3 := ⟨_, i_X0_fewest, tb (i := 1032) (by decide +kernel) rfl, s_X0_fewest⟩
theorem k_X0_23 : CS RX0 23 mX0_stonesFor 1 := ⟨_, i_X0_stonesFor, tb (i := 1035) (by decide +kernel) rfl, s_X0_stonesFor⟩
theorem k_X10_337 : CV RX10 337 mX1_open 3 0 := ⟨_, TX1, 4, i_X1_open, tb (i := 1043) (by decide +kernel) rfl, v_X1_open.1, v_X1_open.2, rfl⟩
theorem k_X1_25 : CS RX1 25 mJ7_fill_53178 2 := ⟨_, i_J7_fill_53178, tb (i := 1047) (by decide +kernel) rfl, s_J7_fill_53178⟩
theorem k_X10_340 : CV RX10 340 mX1_readItems 3 0 := ⟨_, TX1, 4, i_X1_readItems, tb (i := 1048) (by decide +kernel) rfl, v_X1_readItems.1, v_X1_readItems.2, rfl⟩
theorem k_X1_31 : CS RX1 31 mX7_seasonOf 1 := ⟨_, i_X7_seasonOf, tb (i := 1052) (by decide +kernel) rfl, s_X7_seasonOf⟩
theorem k_X1_37 : CV RX1 37 mX1_pullsFor 1 0 := ⟨_, TX1, 4, i_X1_pullsFor, tb (i := 1053) (by decide +kernel) rfl, v_X1_pullsFor.1, v_X1_pullsFor.2, rfl⟩
theorem k_X1_46 : CS RX1 46 mX3_weight 3 := ⟨_, i_X3_weight, tb (i := 1057) (by decide +kernel) rfl, s_X3_weight⟩
theorem k_X10_344 : CV RX10 344 mX1_fittingRows 0 0 := ⟨_, TX1, 4, i_X1_fittingRows, tb (i := 1058) (by decide +kernel) rfl, v_X1_fittingRows.1, v_X1_fittingRows.2, rfl⟩
theorem k_X1_41 : CS RX1 41 mJ6_bitCount_0f7a4 1 := ⟨_, i_J6_bitCount_0f7a4, tb (i := 1062) (by decide +kernel) rfl, s_J6_bitCount_0f7a4⟩
theorem k_X10_347 : CV RX10 347 mX1_sureSeasons 0 0 := ⟨_, TX1, 4, i_X1_sureSeasons, tb (i := 1063) (by decide +kernel) rfl, v_X1_sureSeasons.1, v_X1_sureSeasons.2, rfl⟩
theorem k_X10_352 : CV RX10 352 mX6_put 3 5 := ⟨_, TX6, 4, i_X6_put, tb (i := 1076) (by decide +kernel) rfl, v_X6_put.1, v_X6_put.2, rfl⟩
theorem k_X10_356 : CV RX10 356 mX6_renew 3 5 := ⟨_, TX6, 4, i_X6_renew, tb (i := 1084) (by decide +kernel) rfl, v_X6_renew.1, v_X6_renew.2, rfl⟩
theorem k_X6_38 : CS RX6 38 mJ7_fill_d0a16 2 := ⟨_, i_J7_fill_d0a16, tb (i := 1088) (by decide +kernel) rfl, s_J7_fill_d0a16⟩
theorem k_X10_359 : CS RX10 359 mX6_isSheet 1 := ⟨_, i_X6_isSheet, tb (i := 1095) (by decide +kernel) rfl, s_X6_isSheet⟩
theorem k_X10_362 : CV RX10 362 mX6_isMissing 1 5 := ⟨_, TX6, 4, i_X6_isMissing, tb (i := 1096) (by decide +kernel) rfl, v_X6_isMissing.1, v_X6_isMissing.2, rfl⟩
theorem k_X10_365 : CV RX10 365 mX6_empty 1 5 := ⟨_, TX6, 4, i_X6_empty, tb (i := 1097) (by decide +kernel) rfl, v_X6_empty.1, v_X6_empty.2, rfl⟩
theorem k_X10_371 : CV RX10 371 mX6_holds 3 5 := ⟨_, TX6, 4, i_X6_holds, tb (i := 1109) (by decide +kernel) rfl, v_X6_holds.1, v_X6_holds.2, rfl⟩
theorem k_X11_50 : CS RX11 50 mX11_in 3 := ⟨_, i_X11_in, tb (i := 1177) (by decide +kernel) rfl, s_X11_in⟩
theorem k_X11_64 : CV RX11 64 mX11_joins 1 10 := ⟨_, TX11, 18, i_X11_joins, tb (i := 1180) (by decide +kernel) rfl, v_X11_joins.1, v_X11_joins.2, rfl⟩
theorem k_X11_68 : CV RX11 68 mX11_isParish 1 10 := ⟨_, TX11, 18, i_X11_isParish, tb (i := 1188) (by decide +kernel) rfl, v_X11_isParish.1, v_X11_isParish.2, rfl⟩
theorem k_X11_74 : CV RX11 74 mX11_roadOf 2 10 := ⟨_, TX11, 18, i_X11_roadOf, tb (i := 1197) (by decide +kernel) rfl, v_X11_roadOf.1, v_X11_roadOf.2, rfl⟩
theorem k_X11_78 : CV RX11 78 mX11_isRoad 1 10 := ⟨_, TX11, 18, i_X11_isRoad, tb (i := 1205) (by decide +kernel) rfl, v_X11_isRoad.1, v_X11_isRoad.2, rfl⟩
theorem k_X11_85 : CV RX11 85 mX11_isGood 1 10 := ⟨_, TX11, 18, i_X11_isGood, tb (i := 1223) (by decide +kernel) rfl, v_X11_isGood.1, v_X11_isGood.2, rfl⟩
theorem k_X11_88 : CV RX11 88 mX11_weight 2 10 := ⟨_, TX11, 18, i_X11_weight, tb (i := 1227) (by decide +kernel) rfl, v_X11_weight.1, v_X11_weight.2, rfl⟩
theorem k_X11_54 : CV RX11 54 mX11_season 0 10 := ⟨_, TX11, 18, i_X11_season, tb (i := 1231) (by decide +kernel) rfl, v_X11_season.1, v_X11_season.2, rfl⟩
theorem k_X11_58 : CS RX11 58 mX11_weightBy 3 := ⟨_, i_X11_weightBy, tb (i := 1235) (by decide +kernel) rfl, s_X11_weightBy⟩
theorem k_X11_97 : CV RX11 97 mX11_isCart 1 10 := ⟨_, TX11, 18, i_X11_isCart, tb (i := 1253) (by decide +kernel) rfl, v_X11_isCart.1, v_X11_isCart.2, rfl⟩
theorem k_X11_106 : CV RX11 106 mX11_isPerson 1 10 := ⟨_, TX11, 18, i_X11_isPerson, tb (i := 1260) (by decide +kernel) rfl, v_X11_isPerson.1, v_X11_isPerson.2, rfl⟩
theorem k_X11_143 : CV RX11 143 mX11_reads 0 10 := ⟨_, TX11, 18, i_X11_reads, tb (i := 1278) (by decide +kernel) rfl, v_X11_reads.1, v_X11_reads.2, rfl⟩
theorem k_X11_136 : CV RX11 136 mX11_readsParish 0 10 := ⟨_, TX11, 18, i_X11_readsParish, tb (i := 1282) (by decide +kernel) rfl, v_X11_readsParish.1, v_X11_readsParish.2, rfl⟩
theorem k_X11_120 : CV RX11 120 mX11_next 0 10 := ⟨_, TX11, 18, i_X11_next, tb (i := 1286) (by decide +kernel) rfl, v_X11_next.1, v_X11_next.2, rfl⟩
theorem k_X11_123 : CS RX11 123 mX11_kindOf 1 := ⟨_, i_X11_kindOf, tb (i := 1290) (by decide +kernel) rfl, s_X11_kindOf⟩
theorem k_X11_126 : CV RX11 126 mX11_isDigit 2 10 := ⟨_, TX11, 18, i_X11_isDigit, tb (i := 1293) (by decide +kernel) rfl, v_X11_isDigit.1, v_X11_isDigit.2, rfl⟩
theorem k_X11_130 : CV RX11 130 mX11_digit 0 10 := ⟨_, TX11, 18, i_X11_digit, tb (i := 1297) (by decide +kernel) rfl, v_X11_digit.1, v_X11_digit.2, rfl⟩
theorem k_X11_140 : CV RX11 140 mX11_readsRoad 0 10 := ⟨_, TX11, 18, i_X11_readsRoad, tb (i := 1301) (by decide +kernel) rfl, v_X11_readsRoad.1, v_X11_readsRoad.2, rfl⟩
theorem k_X11_133 : CV RX11 133 mX11_road 3 10 := ⟨_, TX11, 18, i_X11_road, tb (i := 1305) (by decide +kernel) rfl, v_X11_road.1, v_X11_road.2, rfl⟩
theorem k_X11_148 : CV RX11 148 mX11_goes 1 10 := ⟨_, TX11, 18, i_X11_goes, tb (i := 1315) (by decide +kernel) rfl, v_X11_goes.1, v_X11_goes.2, rfl⟩
theorem k_X11_162 : CV RX11 162 mX11_layWays 3 10 := ⟨_, TX11, 18, i_X11_layWays, tb (i := 1324) (by decide +kernel) rfl, v_X11_layWays.1, v_X11_layWays.2, rfl⟩
theorem k_X11_152 : CV RX11 152 mX11_bears 3 10 := ⟨_, TX11, 18, i_X11_bears, tb (i := 1328) (by decide +kernel) rfl, v_X11_bears.1, v_X11_bears.2, rfl⟩
theorem k_X11_156 : CV RX11 156 mX11_costOf 5 10 := ⟨_, TX11, 18, i_X11_costOf, tb (i := 1333) (by decide +kernel) rfl, v_X11_costOf.1, v_X11_costOf.2, rfl⟩
theorem k_X11_166 : CV RX11 166 mX11_layPath 4 10 := ⟨_, TX11, 18, i_X11_layPath, tb (i := 1337) (by decide +kernel) rfl, v_X11_layPath.1, v_X11_layPath.2, rfl⟩
theorem k_X11_172 : CV RX11 172 mX11_netOf 2 10 := ⟨_, TX11, 18, i_X11_netOf, tb (i := 1346) (by decide +kernel) rfl, v_X11_netOf.1, v_X11_netOf.2, rfl⟩
theorem k_X11_176 : CV RX11 176 mX11_marketOf 3 10 := ⟨_, TX11, 18, i_X11_marketOf, tb (i := 1356) (by decide +kernel) rfl, v_X11_marketOf.1, v_X11_marketOf.2, rfl⟩
theorem k_X11_179 : CS RX11 179 mX11_isTwo 1 := ⟨_, i_X11_isTwo, tb (i := 1364) (by decide +kernel) rfl, s_X11_isTwo⟩
theorem k_X11_185 : CS RX11 185 mX11_bits 1 := ⟨_, i_X11_bits, tb (i := 1371) (by decide +kernel) rfl, s_X11_bits⟩
theorem k_X11_188 : CV RX11 188 mX11_isEnded 2 10 := ⟨_, TX11, 18, i_X11_isEnded, tb (i := 1374) (by decide +kernel) rfl, v_X11_isEnded.1, v_X11_isEnded.2, rfl⟩
theorem k_X11_182 : CV RX11 182 mX11_paid 3 10 := ⟨_, TX11, 18, i_X11_paid, tb (i := 1378) (by decide +kernel) rfl, v_X11_paid.1, v_X11_paid.2, rfl⟩
theorem k_X11_191 : CV RX11 191 mX11_takeOf 2 10 := ⟨_, TX11, 18, i_X11_takeOf, tb (i := 1386) (by decide +kernel) rfl, v_X11_takeOf.1, v_X11_takeOf.2, rfl⟩
theorem k_X11_194 : CV RX11 194 mX11_isSet 1 10 := ⟨_, TX11, 18, i_X11_isSet, tb (i := 1398) (by decide +kernel) rfl, v_X11_isSet.1, v_X11_isSet.2, rfl⟩
theorem k_X11_197 : CV RX11 197 mX11_worthOf 2 10 := ⟨_, TX11, 18, i_X11_worthOf, tb (i := 1402) (by decide +kernel) rfl, v_X11_worthOf.1, v_X11_worthOf.2, rfl⟩
theorem k_X11_211 : CV RX11 211 mX11_layPart 3 10 := ⟨_, TX11, 18, i_X11_layPart, tb (i := 1410) (by decide +kernel) rfl, v_X11_layPart.1, v_X11_layPart.2, rfl⟩
theorem k_X11_204 : CS RX11 204 mX11_orders 1 := ⟨_, i_X11_orders, tb (i := 1414) (by decide +kernel) rfl, s_X11_orders⟩
theorem k_X11_220 : CS RX11 220 mX11_isSheet 1 := ⟨_, i_X11_isSheet, tb (i := 1442) (by decide +kernel) rfl, s_X11_isSheet⟩
theorem k_X11_223 : CS RX11 223 mX11_isLane 1 := ⟨_, i_X11_isLane, tb (i := 1445) (by decide +kernel) rfl, s_X11_isLane⟩
theorem k_X11_226 : CV RX11 226 mX11_finds 4 10 := ⟨_, TX11, 18, i_X11_finds, tb (i := 1448) (by decide +kernel) rfl, v_X11_finds.1, v_X11_finds.2, rfl⟩
theorem k_X11_235 : CV RX11 235 mX11_evens 3 10 := ⟨_, TX11, 18, i_X11_evens, tb (i := 1456) (by decide +kernel) rfl, v_X11_evens.1, v_X11_evens.2, rfl⟩
theorem k_X11_242 : CV RX11 242 mX11_layBook 5 10 := ⟨_, TX11, 18, i_X11_layBook, tb (i := 1466) (by decide +kernel) rfl, v_X11_layBook.1, v_X11_layBook.2, rfl⟩
theorem k_X11_245 : CS RX11 245 mX11_cut 2 := ⟨_, i_X11_cut, tb (i := 1478) (by decide +kernel) rfl, s_X11_cut⟩
theorem acw : Cond.native arraycopyName ∈ TB ∧ Cond.static arraycopyName ∈ TB ∧ Cond.initialized "java/lang/System" ∈ TB := ⟨tb (i := 742) (by decide +kernel) rfl, tb (i := 741) (by decide +kernel) rfl, tb (i := 77) (by decide +kernel) rfl⟩
theorem mw_max : Cond.static Lib.Math.max.name ∈ TB ∧ Cond.initialized "java/lang/Math" ∈ TB ∧ Cond.code Lib.Math.max.name Lib.Math.max.code 2 (some .int) ∈ TB := ⟨tb (i := 482) (by decide +kernel) rfl, tb (i := 71) (by decide +kernel) rfl, tb (i := 483) (by decide +kernel) rfl⟩
theorem mw_min : Cond.static Lib.Math.min.name ∈ TB ∧ Cond.initialized "java/lang/Math" ∈ TB ∧ Cond.code Lib.Math.min.name Lib.Math.min.code 2 (some .int) ∈ TB := ⟨tb (i := 479) (by decide +kernel) rfl, tb (i := 71) (by decide +kernel) rfl, tb (i := 480) (by decide +kernel) rfl⟩
theorem k_X3_34 : Cmin RX3 34 := ⟨tb (i := 478) (by decide +kernel) rfl, mw_min⟩
theorem k_X3_40 : Cmax RX3 40 := ⟨tb (i := 481) (by decide +kernel) rfl, mw_max⟩
theorem k_J1_92 : Cmax RJ1 92 := ⟨tb (i := 655) (by decide +kernel) rfl, mw_max⟩
theorem k_J1_38 : Cmin RJ1 38 := ⟨tb (i := 656) (by decide +kernel) rfl, mw_min⟩
theorem k_J2_224 : Cmax RJ2 224 := ⟨tb (i := 663) (by decide +kernel) rfl, mw_max⟩
theorem k_J2_183 : Cmin RJ2 183 := ⟨tb (i := 664) (by decide +kernel) rfl, mw_min⟩
theorem k_X3_46 : Cac RX3 46 := ⟨tb (i := 740) (by decide +kernel) rfl, acw⟩
theorem k_X5_122 : Cac RX5 122 := ⟨tb (i := 812) (by decide +kernel) rfl, acw⟩
theorem k_X2_94 : Cmax RX2 94 := ⟨tb (i := 920) (by decide +kernel) rfl, mw_max⟩
theorem k_X7_94 : Cac RX7 94 := ⟨tb (i := 993) (by decide +kernel) rfl, acw⟩
theorem k_X0_27 : Cmin RX0 27 := ⟨tb (i := 1038) (by decide +kernel) rfl, mw_min⟩
theorem k_X10_374 : Cac RX10 374 := ⟨tb (i := 1110) (by decide +kernel) rfl, acw⟩
theorem n_J2_227 : Cond.constant RJ2 227 (65536) ∈ TB := tb (i := 665) (by decide +kernel) rfl
theorem n_J11_110 : Cond.constant RJ11 110 (55232) ∈ TB := tb (i := 704) (by decide +kernel) rfl
theorem n_J11_76 : Cond.constant RJ11 76 (56320) ∈ TB := tb (i := 708) (by decide +kernel) rfl
theorem n_X5_112 : Cond.constant RX5 112 (536870912) ∈ TB := tb (i := 799) (by decide +kernel) rfl
theorem n_X10_232 : Cond.constant RX10 232 (-1000001) ∈ TB := tb (i := 829) (by decide +kernel) rfl
theorem n_X10_242 : Cond.constant RX10 242 (536870912) ∈ TB := tb (i := 831) (by decide +kernel) rfl
theorem n_X10_243 : Cond.constant RX10 243 (-1000004) ∈ TB := tb (i := 832) (by decide +kernel) rfl
theorem n_J6_265 : Cond.constant RJ6 265 (1431655765) ∈ TB := tb (i := 884) (by decide +kernel) rfl
theorem n_J6_266 : Cond.constant RJ6 266 (858993459) ∈ TB := tb (i := 885) (by decide +kernel) rfl
theorem n_J6_267 : Cond.constant RJ6 267 (252645135) ∈ TB := tb (i := 886) (by decide +kernel) rfl
theorem n_X10_320 : Cond.constant RX10 320 (-1000000) ∈ TB := tb (i := 1020) (by decide +kernel) rfl
theorem n_X10_329 : Cond.constant RX10 329 (-1000002) ∈ TB := tb (i := 1027) (by decide +kernel) rfl
theorem n_X11_151 : Cond.constant RX11 151 (100000000) ∈ TB := tb (i := 1332) (by decide +kernel) rfl
theorem n_X11_171 : Cond.constant RX11 171 (-1000001) ∈ TB := tb (i := 1345) (by decide +kernel) rfl
theorem n_X11_170 : Cond.constant RX11 170 (-100000000) ∈ TB := tb (i := 1350) (by decide +kernel) rfl
theorem n_X11_175 : Cond.constant RX11 175 (-1000004) ∈ TB := tb (i := 1351) (by decide +kernel) rfl
theorem n_X11_229 : Cond.constant RX11 229 (1000000) ∈ TB := tb (i := 1452) (by decide +kernel) rfl
theorem n_X11_234 : Cond.constant RX11 234 (-1000002) ∈ TB := tb (i := 1455) (by decide +kernel) rfl
theorem n_X10_284 : Cond.constantLong RX10 284 (-1000001) ∈ TB := tb (i := 948) (by decide +kernel) rfl
theorem n_X10_293 : Cond.constantLong RX10 293 (-1) ∈ TB := tb (i := 968) (by decide +kernel) rfl
theorem n_X0_9 : Cond.constantLong RX0 9 (99) ∈ TB := tb (i := 1024) (by decide +kernel) rfl
theorem n_X0_13 : Cond.constantLong RX0 13 (-6) ∈ TB := tb (i := 1025) (by decide +kernel) rfl
theorem n_X0_15 : Cond.constantLong RX0 15 (6) ∈ TB := tb (i := 1026) (by decide +kernel) rfl
theorem n_X10_350 : Cond.constantLong RX10 350 (99) ∈ TB := tb (i := 1071) (by decide +kernel) rfl
theorem n_X11_62 : Cond.constantLong RX11 62 (3) ∈ TB := tb (i := 1176) (by decide +kernel) rfl
theorem n_X11_72 : Cond.constantLong RX11 72 (9) ∈ TB := tb (i := 1192) (by decide +kernel) rfl
theorem n_X11_81 : Cond.constantLong RX11 81 (999) ∈ TB := tb (i := 1213) (by decide +kernel) rfl
theorem n_X11_83 : Cond.constantLong RX11 83 (99) ∈ TB := tb (i := 1214) (by decide +kernel) rfl
theorem n_X11_91 : Cond.constantLong RX11 91 (7) ∈ TB := tb (i := 1246) (by decide +kernel) rfl
theorem n_X11_93 : Cond.constantLong RX11 93 (2) ∈ TB := tb (i := 1251) (by decide +kernel) rfl
theorem n_X11_95 : Cond.constantLong RX11 95 (4) ∈ TB := tb (i := 1252) (by decide +kernel) rfl
theorem n_X11_100 : Cond.constantLong RX11 100 (5) ∈ TB := tb (i := 1257) (by decide +kernel) rfl
theorem n_X11_102 : Cond.constantLong RX11 102 (8) ∈ TB := tb (i := 1258) (by decide +kernel) rfl
theorem n_X11_104 : Cond.constantLong RX11 104 (10) ∈ TB := tb (i := 1259) (by decide +kernel) rfl
theorem n_X11_109 : Cond.constantLong RX11 109 (32) ∈ TB := tb (i := 1272) (by decide +kernel) rfl
theorem n_X11_111 : Cond.constantLong RX11 111 (126) ∈ TB := tb (i := 1273) (by decide +kernel) rfl
theorem n_X11_146 : Cond.constantLong RX11 146 (52) ∈ TB := tb (i := 1314) (by decide +kernel) rfl
theorem n_X11_160 : Cond.constantLong RX11 160 (-1) ∈ TB := tb (i := 1323) (by decide +kernel) rfl
theorem n_X11_214 : Cond.constantLong RX11 214 (-1000001) ∈ TB := tb (i := 1417) (by decide +kernel) rfl
theorem n_X11_230 : Cond.constantLong RX11 230 (-6) ∈ TB := tb (i := 1453) (by decide +kernel) rfl
theorem n_X11_232 : Cond.constantLong RX11 232 (6) ∈ TB := tb (i := 1454) (by decide +kernel) rfl
theorem n_X11_238 : Cond.constantLong RX11 238 (9975) ∈ TB := tb (i := 1464) (by decide +kernel) rfl
theorem n_X11_240 : Cond.constantLong RX11 240 (24) ∈ TB := tb (i := 1465) (by decide +kernel) rfl
theorem n_L_162 : Cond.constantLong RL 162 (4294967295) ∈ TB := tb (i := 1497) (by decide +kernel) rfl
section PackedCalls
variable {own : String} {cc : ByteArray} {nL d pc : Nat} {rt : Option FieldType} {lc : List (Option Value)} {st : List Value} {I : mI} {L : mL} {Q : Option Value → mI → mL → Prop}
theorem r_S {index n d' : Nat} {M : mM} {Q' : Option Value → mI → mL → Prop} (h : CS own index M n) (hd : decode cc pc = .ok (.invokestatic index, 3)) (hdd : d' + 1 ≤ d) (hn : ((st.take n).reverse).length = n) (hr : ((st.drop n).map fun v => v.category).sum ≤ 8) (hA : (entA (st.take n).reverse).length ≤ M.2.2.1)
    (hc : RR M d' 0 (entL M.2.2.1 (st.take n).reverse) [] I L Q') (k : ∀ v I L, Q' v I L → RR (own, cc, nL, rt) d (pc + 3) lc (v.toList ++ st.drop n) I L Q) : RR (own, cc, nL, rt) d pc lc st I L Q := by
  obtain ⟨y, h1, h2, h3⟩ := h
  exact r_callS (st.take n).reverse h1 h2 h3 hd hdd (by rw [List.reverse_reverse, List.take_append_drop]) hn hr hA hc k
theorem r_V {index n d' a ci : Nat} {fs : List (Nat × Nat)} {M : mM} {Q' : Option Value → mI → mL → Prop} (h : CV own index M n ci) (hd : decode cc pc = .ok (.invokevirtual index, 3)) (hdd : d' + 1 ≤ d) (ha : (st.drop n).head? = some (.ref a)) (hs : sh a = some (.inr (ci, fs))) (hn : ((st.take n).reverse).length = n) (hr : ((st.drop (n + 1)).map fun v => v.category).sum ≤ 8) (hA : (entA (.ref a :: (st.take n).reverse)).length ≤ M.2.2.1)
    (hc : RR M d' 0 (entL M.2.2.1 (.ref a :: (st.take n).reverse)) [] I L Q') (k : ∀ v I L, Q' v I L → RR (own, cc, nL, rt) d (pc + 3) lc (v.toList ++ st.drop (n + 1)) I L Q) : RR (own, cc, nL, rt) d pc lc st I L Q := by
  obtain ⟨y, T, N, h1, h2, h3, h4, h5⟩ := h
  refine r_callV (st.take n).reverse h1 h2 h3 h4 hs h5 hd hdd ?_ hn hr hA hc k
  rw [List.reverse_reverse]
  have e : st.drop n = .ref a :: st.drop (n + 1) := by
    rw [← List.drop_drop]
    cases hx : st.drop n with
    | nil => rw [hx] at ha; cases ha
    | cons b r => rw [hx] at ha; cases ha; rfl
  rw [← e, List.take_append_drop]
theorem r_T {index n d' : Nat} {M : mM} {Q' : Option Value → mI → mL → Prop} (h : CT own index M n) (hd : decode cc pc = .ok (.invokevirtual index, 3)) (hdd : d' + 1 ≤ d) (ha : (st.drop n).head? = some (.ref 82)) (hn : ((st.take n).reverse).length = n) (hr : ((st.drop (n + 1)).map fun v => v.category).sum ≤ 8) (hA : (entA (.ref 82 :: (st.take n).reverse)).length ≤ M.2.2.1)
    (hc : RR M d' 0 (entL M.2.2.1 (.ref 82 :: (st.take n).reverse)) [] I L Q') (k : ∀ v I L, Q' v I L → RR (own, cc, nL, rt) d (pc + 3) lc (v.toList ++ st.drop (n + 1)) I L Q) : RR (own, cc, nL, rt) d pc lc st I L Q := by
  obtain ⟨y, h1, h2, h3, h4, h5⟩ := h
  refine r_callT (st.take n).reverse h1 h2 h3 h4 h5 hd hdd ?_ hn hr hA hc k
  rw [List.reverse_reverse]
  have e : st.drop n = .ref 82 :: st.drop (n + 1) := by
    rw [← List.drop_drop]
    cases hx : st.drop n with
    | nil => rw [hx] at ha; cases ha
    | cons b r => rw [hx] at ha; cases ha; rfl
  rw [← e, List.take_append_drop]
end PackedCalls
