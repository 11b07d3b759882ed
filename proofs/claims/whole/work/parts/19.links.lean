/-! ===== the methods and the links that their instructions use, held against the tables' words ===== -/
theorem z_in1 {w : Jvm.Cond} (h : w ∈ tables_1_1) : w ∈ tables_1 := List.mem_append_left _ h
theorem z_t1 {w : Jvm.Cond} (j : Nat) (h : tables_1_1[j]? = some w) (hg : goodWord w = true) : w ∈ z_W0 := List.mem_filter.mpr ⟨List.mem_append_right _ (z_in1 (List.mem_of_getElem? h)), hg⟩
theorem z_in2 {w : Jvm.Cond} (h : w ∈ tables_1_2) : w ∈ tables_1 := List.mem_append_right _ (List.mem_append_left _ h)
theorem z_t2 {w : Jvm.Cond} (j : Nat) (h : tables_1_2[j]? = some w) (hg : goodWord w = true) : w ∈ z_W0 := List.mem_filter.mpr ⟨List.mem_append_right _ (z_in2 (List.mem_of_getElem? h)), hg⟩
theorem z_in3 {w : Jvm.Cond} (h : w ∈ tables_1_3) : w ∈ tables_1 := List.mem_append_right _ (List.mem_append_right _ (List.mem_append_left _ h))
theorem z_t3 {w : Jvm.Cond} (j : Nat) (h : tables_1_3[j]? = some w) (hg : goodWord w = true) : w ∈ z_W0 := List.mem_filter.mpr ⟨List.mem_append_right _ (z_in3 (List.mem_of_getElem? h)), hg⟩
theorem z_in4 {w : Jvm.Cond} (h : w ∈ tables_1_4) : w ∈ tables_1 := List.mem_append_right _ (List.mem_append_right _ (List.mem_append_right _ (List.mem_append_left _ h)))
theorem z_t4 {w : Jvm.Cond} (j : Nat) (h : tables_1_4[j]? = some w) (hg : goodWord w = true) : w ∈ z_W0 := List.mem_filter.mpr ⟨List.mem_append_right _ (z_in4 (List.mem_of_getElem? h)), hg⟩
theorem z_in5 {w : Jvm.Cond} (h : w ∈ tables_1_5) : w ∈ tables_1 := List.mem_append_right _ (List.mem_append_right _ (List.mem_append_right _ (List.mem_append_right _ (List.mem_append_left _ h))))
theorem z_t5 {w : Jvm.Cond} (j : Nat) (h : tables_1_5[j]? = some w) (hg : goodWord w = true) : w ∈ z_W0 := List.mem_filter.mpr ⟨List.mem_append_right _ (z_in5 (List.mem_of_getElem? h)), hg⟩
theorem z_in6 {w : Jvm.Cond} (h : w ∈ tables_1_6) : w ∈ tables_1 := List.mem_append_right _ (List.mem_append_right _ (List.mem_append_right _ (List.mem_append_right _ (List.mem_append_right _ (List.mem_append_left _ h)))))
theorem z_t6 {w : Jvm.Cond} (j : Nat) (h : tables_1_6[j]? = some w) (hg : goodWord w = true) : w ∈ z_W0 := List.mem_filter.mpr ⟨List.mem_append_right _ (z_in6 (List.mem_of_getElem? h)), hg⟩
theorem z_in7 {w : Jvm.Cond} (h : w ∈ tables_1_7) : w ∈ tables_1 := List.mem_append_right _ (List.mem_append_right _ (List.mem_append_right _ (List.mem_append_right _ (List.mem_append_right _ (List.mem_append_right _ (List.mem_append_left _ h))))))
theorem z_t7 {w : Jvm.Cond} (j : Nat) (h : tables_1_7[j]? = some w) (hg : goodWord w = true) : w ∈ z_W0 := List.mem_filter.mpr ⟨List.mem_append_right _ (z_in7 (List.mem_of_getElem? h)), hg⟩
theorem z_in8 {w : Jvm.Cond} (h : w ∈ tables_1_8) : w ∈ tables_1 := List.mem_append_right _ (List.mem_append_right _ (List.mem_append_right _ (List.mem_append_right _ (List.mem_append_right _ (List.mem_append_right _ (List.mem_append_right _ (h)))))))
theorem z_t8 {w : Jvm.Cond} (j : Nat) (h : tables_1_8[j]? = some w) (hg : goodWord w = true) : w ∈ z_W0 := List.mem_filter.mpr ⟨List.mem_append_right _ (z_in8 (List.mem_of_getElem? h)), hg⟩
theorem z_sp {q : MethodName × Nat} (j : Nat) (h : lw_privs[j]? = some q) : Jvm.Cond.selects q.1.cls q.1 q.1 ∈ z_W0 := List.mem_filter.mpr ⟨List.mem_append_left _ (List.mem_map.mpr ⟨q, List.mem_of_getElem? h, rfl⟩), rfl⟩
def z_mi0 : z_Mi := (⟨"LacedHoles", "", ""⟩, ⟨#[]⟩, 0, none, 0, [])
def z_MiL0 : List z_Mi := [(⟨"java/lang/Integer", "numberOfTrailingZeros", "(I)I"⟩, prog_21_method_48_code, 2, some Jvm.ClassFile.FieldType.int, 1, []),
  (⟨"java/lang/Integer", "bitCount", "(I)I"⟩, prog_21_method_49_code, 1, some Jvm.ClassFile.FieldType.int, 1, []),
  (⟨"java/lang/Math", "floorMod", "(II)I"⟩, prog_22_method_50_code, 3, some Jvm.ClassFile.FieldType.int, 2, []),
  (⟨"java/lang/Math", "abs", "(I)I"⟩, prog_22_method_59_code, 1, some Jvm.ClassFile.FieldType.int, 1, []),
  (⟨"java/lang/Math", "max", "(II)I"⟩, prog_22_method_65_code, 2, some Jvm.ClassFile.FieldType.int, 2, []),
  (⟨"java/lang/Math", "min", "(II)I"⟩, prog_22_method_69_code, 2, some Jvm.ClassFile.FieldType.int, 2, []),
  (⟨"java/lang/Math", "min", "(JJ)J"⟩, prog_22_method_70_code, 4, some Jvm.ClassFile.FieldType.long, 2, []),
  (⟨"LacedHoles$Rows", "get", "([II)I"⟩, prog_7_method_2_code, 2, some Jvm.ClassFile.FieldType.int, 2, []),
  (⟨"LacedHoles$Rows", "set", "([III)V"⟩, prog_7_method_3_code, 3, none, 3, []),
  (⟨"LacedHoles$Rows", "get", "([JI)J"⟩, prog_7_method_4_code, 2, some Jvm.ClassFile.FieldType.long, 2, []),
  (⟨"LacedHoles$Rows", "set", "([JIJ)V"⟩, prog_7_method_5_code, 4, none, 3, []),
  (⟨"LacedHoles$Tape", "<init>", "()V"⟩, prog_9_method_1_code, 1, none, 0, []),
  (⟨"LacedHoles$Tape", "hasRoom", "()Z"⟩, prog_9_method_2_code, 1, some Jvm.ClassFile.FieldType.boolean, 0, []),
  (⟨"LacedHoles$Tape", "put", "(I)V"⟩, prog_9_method_3_code, 3, none, 1, []),
  (⟨"LacedHoles$Tape", "size", "()I"⟩, prog_9_method_4_code, 1, some Jvm.ClassFile.FieldType.int, 0, []),
  (⟨"LacedHoles$Tape", "empty", "()V"⟩, prog_9_method_5_code, 1, none, 0, []),
  (⟨"LacedHoles$Tape", "open", "(I)V"⟩, prog_9_method_6_code, 2, none, 1, []),
  (⟨"LacedHoles$Tape", "failed", "()Z"⟩, prog_9_method_7_code, 1, some Jvm.ClassFile.FieldType.boolean, 0, []),
  (⟨"LacedHoles$Tape", "faultKind", "()I"⟩, prog_9_method_8_code, 1, some Jvm.ClassFile.FieldType.int, 0, []),
  (⟨"LacedHoles$Tape", "faultPlace", "()I"⟩, prog_9_method_9_code, 1, some Jvm.ClassFile.FieldType.int, 0, []),
  (⟨"LacedHoles$Tape", "fail", "(II)V"⟩, prog_9_method_10_code, 3, none, 2, []),
  (⟨"LacedHoles$Tape", "failAtToken", "(I)V"⟩, prog_9_method_11_code, 2, none, 1, []),
  (⟨"LacedHoles$Tape", "failAtEnd", "(I)V"⟩, prog_9_method_12_code, 2, none, 1, []),
  (⟨"LacedHoles$Tape", "ended", "()Z"⟩, prog_9_method_13_code, 1, some Jvm.ClassFile.FieldType.boolean, 0, []),
  (⟨"LacedHoles$Tape", "here", "()I"⟩, prog_9_method_14_code, 1, some Jvm.ClassFile.FieldType.int, 0, []),
  (⟨"LacedHoles$Tape", "skipBlanks", "()V"⟩, prog_9_method_15_code, 1, none, 0, []),
  (⟨"LacedHoles$Tape", "isDigit", "(I)Z"⟩, prog_9_method_16_code, 1, some Jvm.ClassFile.FieldType.boolean, 1, []),
  (⟨"LacedHoles$Tape", "isLetter", "(I)Z"⟩, prog_9_method_17_code, 1, some Jvm.ClassFile.FieldType.boolean, 1, []),
  (⟨"LacedHoles$Tape", "readNumber", "(II)I"⟩, prog_9_method_18_code, 4, some Jvm.ClassFile.FieldType.int, 2, []),
  (⟨"LacedHoles$Tape", "readWord", "()V"⟩, prog_9_method_19_code, 1, none, 0, []),
  (⟨"LacedHoles$Tape", "wordIs", "(Ljava/lang/String;)Z"⟩, prog_9_method_20_code, 3, some Jvm.ClassFile.FieldType.boolean, 1, []),
  (⟨"LacedHoles$Tape", "readSemicolon", "()V"⟩, prog_9_method_21_code, 1, none, 0, []),
  (⟨"LacedHoles$Boot", "<init>", "()V"⟩, prog_2_method_1_code, 1, none, 0, []),
  (⟨"LacedHoles$Boot", "clear", "()V"⟩, prog_2_method_2_code, 1, none, 0, []),
  (⟨"LacedHoles$Boot", "readFrom", "(LLacedHoles$Tape;)V"⟩, prog_2_method_3_code, 3, none, 1, []),
  (⟨"LacedHoles$Boot", "readClause", "(LLacedHoles$Tape;I)V"⟩, prog_2_method_4_code, 4, none, 2, []),
  (⟨"LacedHoles$Boot", "kindOfWord", "(LLacedHoles$Tape;)I"⟩, prog_2_method_5_code, 1, some Jvm.ClassFile.FieldType.int, 1, []),
  (⟨"LacedHoles$Boot", "readValues", "(LLacedHoles$Tape;I)V"⟩, prog_2_method_6_code, 3, none, 2, []),
  (⟨"LacedHoles$Boot", "holes", "()I"⟩, prog_2_method_7_code, 1, some Jvm.ClassFile.FieldType.int, 0, []),
  (⟨"LacedHoles$Boot", "hasHole", "(I)Z"⟩, prog_2_method_8_code, 2, some Jvm.ClassFile.FieldType.boolean, 1, [])]
def z_MiL1 : List z_Mi := [(⟨"LacedHoles$Boot", "isTorn", "(I)Z"⟩, prog_2_method_9_code, 2, some Jvm.ClassFile.FieldType.boolean, 1, []),
  (⟨"LacedHoles$Boot", "whole", "()I"⟩, prog_2_method_10_code, 1, some Jvm.ClassFile.FieldType.int, 0, []),
  (⟨"LacedHoles$Boot", "isEven", "()Z"⟩, prog_2_method_11_code, 1, some Jvm.ClassFile.FieldType.boolean, 0, []),
  (⟨"LacedHoles$Boot", "row", "(I)I"⟩, prog_2_method_12_code, 2, some Jvm.ClassFile.FieldType.int, 1, []),
  (⟨"LacedHoles$Boot", "inRow", "(I)I"⟩, prog_2_method_13_code, 2, some Jvm.ClassFile.FieldType.int, 1, []),
  (⟨"LacedHoles$Boot", "across", "(II)I"⟩, prog_2_method_14_code, 3, some Jvm.ClassFile.FieldType.int, 2, []),
  (⟨"LacedHoles$Boot", "allows", "(II)Z"⟩, prog_2_method_15_code, 3, some Jvm.ClassFile.FieldType.boolean, 2, []),
  (⟨"LacedHoles$Boot", "imageOf", "(IZZ)I"⟩, prog_2_method_16_code, 7, some Jvm.ClassFile.FieldType.int, 3, []),
  (⟨"LacedHoles$Roots", "<init>", "()V"⟩, prog_6_method_1_code, 1, none, 0, []),
  (⟨"LacedHoles$Roots", "measureFor", "(II)V"⟩, prog_6_method_2_code, 6, none, 2, []),
  (⟨"LacedHoles$Roots", "measureAcross", "(IJJ)V"⟩, prog_6_method_3_code, 13, none, 3, []),
  (⟨"LacedHoles$Roots", "pullByRoot", "(JJJJ)J"⟩, prog_6_method_4_code, 15, some Jvm.ClassFile.FieldType.long, 4, []),
  (⟨"LacedHoles$Roots", "lengthOf", "(LLacedHoles$Boot;II)J"⟩, prog_6_method_5_code, 5, some Jvm.ClassFile.FieldType.long, 3, []),
  (⟨"LacedHoles$Roots", "pullOf", "(LLacedHoles$Boot;II)J"⟩, prog_6_method_6_code, 5, some Jvm.ClassFile.FieldType.long, 3, []),
  (⟨"LacedHoles$Roots", "lengthAlong", "(LLacedHoles$Boot;LLacedHoles$Way;)J"⟩, prog_6_method_7_code, 6, some Jvm.ClassFile.FieldType.long, 2, []),
  (⟨"LacedHoles$Roots", "pullAlong", "(LLacedHoles$Boot;LLacedHoles$Way;)J"⟩, prog_6_method_8_code, 6, some Jvm.ClassFile.FieldType.long, 2, []),
  (⟨"LacedHoles$Roots", "isLess", "(JJ)Z"⟩, prog_6_method_9_code, 4, some Jvm.ClassFile.FieldType.boolean, 2, []),
  (⟨"LacedHoles$Roots", "isWithin", "(JI)Z"⟩, prog_6_method_10_code, 3, some Jvm.ClassFile.FieldType.boolean, 2, []),
  (⟨"LacedHoles$Roots", "thousandths", "(J)I"⟩, prog_6_method_11_code, 6, some Jvm.ClassFile.FieldType.int, 1, []),
  (⟨"LacedHoles$Roots", "millionths", "(J)I"⟩, prog_6_method_12_code, 9, some Jvm.ClassFile.FieldType.int, 1, []),
  (⟨"LacedHoles$Roots", "knotSpan", "(LLacedHoles$Boot;LLacedHoles$Way;IZ)I"⟩, prog_6_method_13_code, 17, some Jvm.ClassFile.FieldType.int, 4, []),
  (⟨"LacedHoles$Way", "<init>", "()V"⟩, prog_11_method_1_code, 1, none, 0, []),
  (⟨"LacedHoles$Way", "clear", "()V"⟩, prog_11_method_2_code, 1, none, 0, []),
  (⟨"LacedHoles$Way", "add", "(I)V"⟩, prog_11_method_3_code, 2, none, 1, []),
  (⟨"LacedHoles$Way", "become", "(LLacedHoles$Way;)V"⟩, prog_11_method_4_code, 3, none, 1, []),
  (⟨"LacedHoles$Way", "hole", "(I)I"⟩, prog_11_method_5_code, 2, some Jvm.ClassFile.FieldType.int, 1, []),
  (⟨"LacedHoles$Way", "setHole", "(II)V"⟩, prog_11_method_6_code, 3, none, 2, []),
  (⟨"LacedHoles$Way", "bits", "()I"⟩, prog_11_method_7_code, 3, some Jvm.ClassFile.FieldType.int, 0, []),
  (⟨"LacedHoles$Way", "find", "(I)I"⟩, prog_11_method_8_code, 3, some Jvm.ClassFile.FieldType.int, 1, []),
  (⟨"LacedHoles$Way", "readFrom", "(LLacedHoles$Tape;LLacedHoles$Boot;)V"⟩, prog_11_method_9_code, 6, none, 2, []),
  (⟨"LacedHoles$Way", "tellAsRound", "(LLacedHoles$Way;)V"⟩, prog_11_method_10_code, 5, none, 1, []),
  (⟨"LacedHoles$Way", "acrossAfter", "(LLacedHoles$Boot;I)I"⟩, prog_11_method_11_code, 3, some Jvm.ClassFile.FieldType.int, 2, []),
  (⟨"LacedHoles$Way", "firstAgainst", "(LLacedHoles$Boot;)I"⟩, prog_11_method_12_code, 3, some Jvm.ClassFile.FieldType.int, 1, []),
  (⟨"LacedHoles$Way", "spansAcross", "(LLacedHoles$Boot;)I"⟩, prog_11_method_13_code, 4, some Jvm.ClassFile.FieldType.int, 1, []),
  (⟨"LacedHoles$Way", "turns", "(LLacedHoles$Boot;)I"⟩, prog_11_method_14_code, 4, some Jvm.ClassFile.FieldType.int, 1, []),
  (⟨"LacedHoles$Way", "wearOf", "(LLacedHoles$Boot;I)I"⟩, prog_11_method_15_code, 4, some Jvm.ClassFile.FieldType.int, 2, []),
  (⟨"LacedHoles$Way", "selfImages", "(LLacedHoles$Boot;)I"⟩, prog_11_method_16_code, 3, some Jvm.ClassFile.FieldType.int, 1, []),
  (⟨"LacedHoles$Way", "isOwnImage", "(LLacedHoles$Boot;ZZ)Z"⟩, prog_11_method_17_code, 8, some Jvm.ClassFile.FieldType.boolean, 3, []),
  (⟨"LacedHoles$Picture", "<init>", "()V"⟩, prog_5_method_1_code, 1, none, 0, []),
  (⟨"LacedHoles$Picture", "clear", "()V"⟩, prog_5_method_2_code, 1, none, 0, [])]
def z_MiL2 : List z_Mi := [(⟨"LacedHoles$Picture", "become", "(LLacedHoles$Picture;)V"⟩, prog_5_method_3_code, 3, none, 1, []),
  (⟨"LacedHoles$Picture", "partner", "(I)I"⟩, prog_5_method_4_code, 2, some Jvm.ClassFile.FieldType.int, 1, []),
  (⟨"LacedHoles$Picture", "join", "(II)Z"⟩, prog_5_method_5_code, 4, some Jvm.ClassFile.FieldType.boolean, 2, []),
  (⟨"LacedHoles$Picture", "seenOf", "(LLacedHoles$Way;)I"⟩, prog_5_method_6_code, 2, some Jvm.ClassFile.FieldType.int, 1, []),
  (⟨"LacedHoles$Picture", "isEachSecond", "(LLacedHoles$Way;I)Z"⟩, prog_5_method_7_code, 4, some Jvm.ClassFile.FieldType.boolean, 2, []),
  (⟨"LacedHoles$Scene", "<init>", "()V"⟩, prog_8_method_1_code, 1, none, 0, []),
  (⟨"LacedHoles$Scene", "clear", "()V"⟩, prog_8_method_2_code, 1, none, 0, []),
  (⟨"LacedHoles$Scene", "become", "(LLacedHoles$Scene;)V"⟩, prog_8_method_3_code, 3, none, 1, []),
  (⟨"LacedHoles$Scene", "keptWear", "(II)I"⟩, prog_8_method_4_code, 3, some Jvm.ClassFile.FieldType.int, 2, []),
  (⟨"LacedHoles$Scene", "keepWear", "(LLacedHoles$Boot;)Z"⟩, prog_8_method_5_code, 3, some Jvm.ClassFile.FieldType.boolean, 1, []),
  (⟨"LacedHoles$Counter", "<init>", "()V"⟩, prog_3_method_1_code, 1, none, 0, []),
  (⟨"LacedHoles$Counter", "lawfulRounds", "(LLacedHoles$Boot;I)J"⟩, prog_3_method_2_code, 7, some Jvm.ClassFile.FieldType.long, 2, []),
  (⟨"LacedHoles$Counter", "rank", "(LLacedHoles$Boot;LLacedHoles$Way;)J"⟩, prog_3_method_3_code, 10, some Jvm.ClassFile.FieldType.long, 2, []),
  (⟨"LacedHoles$Counter", "unrank", "(LLacedHoles$Boot;IJLLacedHoles$Way;)Z"⟩, prog_3_method_4_code, 15, some Jvm.ClassFile.FieldType.boolean, 4, []),
  (⟨"LacedHoles$Counter", "begin", "(LLacedHoles$Boot;I)I"⟩, prog_3_method_5_code, 3, some Jvm.ClassFile.FieldType.int, 2, []),
  (⟨"LacedHoles$Counter", "settle", "(LLacedHoles$Boot;II)V"⟩, prog_3_method_6_code, 4, none, 3, []),
  (⟨"LacedHoles$Counter", "follow", "(LLacedHoles$Boot;IIII)J"⟩, prog_3_method_7_code, 7, some Jvm.ClassFile.FieldType.long, 5, []),
  (⟨"LacedHoles$Counter", "completions", "(LLacedHoles$Boot;III)J"⟩, prog_3_method_8_code, 13, some Jvm.ClassFile.FieldType.long, 4, []),
  (⟨"LacedHoles$Counter", "wordsFrom", "(LLacedHoles$Boot;IIIII)J"⟩, prog_3_method_9_code, 8, some Jvm.ClassFile.FieldType.long, 6, []),
  (⟨"LacedHoles$Counter", "factorial", "(I)J"⟩, prog_3_method_10_code, 4, some Jvm.ClassFile.FieldType.long, 1, []),
  (⟨"LacedHoles$Counter", "sortOf", "(III)I"⟩, prog_3_method_11_code, 3, some Jvm.ClassFile.FieldType.int, 3, []),
  (⟨"LacedHoles$Counter", "wordCell", "(IIIII)I"⟩, prog_3_method_12_code, 5, some Jvm.ClassFile.FieldType.int, 5, []),
  (⟨"LacedHoles$Counter", "countWords", "(LLacedHoles$Boot;)V"⟩, prog_3_method_13_code, 5, none, 1, []),
  (⟨"LacedHoles$Counter", "countWordsOf", "(LLacedHoles$Boot;III)V"⟩, prog_3_method_14_code, 9, none, 4, []),
  (⟨"LacedHoles$Counter", "homeWord", "(LLacedHoles$Boot;III)J"⟩, prog_3_method_15_code, 6, some Jvm.ClassFile.FieldType.long, 4, []),
  (⟨"LacedHoles$Counter", "longerWords", "(LLacedHoles$Boot;IIII)J"⟩, prog_3_method_16_code, 10, some Jvm.ClassFile.FieldType.long, 5, []),
  (⟨"LacedHoles$Finder", "<init>", "()V"⟩, prog_4_method_1_code, 1, none, 0, []),
  (⟨"LacedHoles$Finder", "forget", "()V"⟩, prog_4_method_2_code, 1, none, 0, []),
  (⟨"LacedHoles$Finder", "solve", "(LLacedHoles$Boot;LLacedHoles$Roots;II)V"⟩, prog_4_method_3_code, 6, none, 4, []),
  (⟨"LacedHoles$Finder", "knowTours", "(LLacedHoles$Boot;LLacedHoles$Roots;)V"⟩, prog_4_method_4_code, 5, none, 2, []),
  (⟨"LacedHoles$Finder", "tour", "(I)J"⟩, prog_4_method_5_code, 2, some Jvm.ClassFile.FieldType.long, 1, []),
  (⟨"LacedHoles$Finder", "setCosts", "(LLacedHoles$Boot;LLacedHoles$Roots;I)V"⟩, prog_4_method_6_code, 8, none, 3, []),
  (⟨"LacedHoles$Finder", "cost", "(II)J"⟩, prog_4_method_7_code, 3, some Jvm.ClassFile.FieldType.long, 2, []),
  (⟨"LacedHoles$Finder", "kind", "(II)I"⟩, prog_4_method_8_code, 3, some Jvm.ClassFile.FieldType.int, 2, []),
  (⟨"LacedHoles$Finder", "cellOf", "(II)I"⟩, prog_4_method_9_code, 2, some Jvm.ClassFile.FieldType.int, 2, []),
  (⟨"LacedHoles$Finder", "solveSet", "(LLacedHoles$Boot;I)V"⟩, prog_4_method_10_code, 6, none, 2, []),
  (⟨"LacedHoles$Finder", "solveCell", "(LLacedHoles$Boot;III)V"⟩, prog_4_method_11_code, 9, none, 4, []),
  (⟨"LacedHoles$Finder", "extend", "(LLacedHoles$Boot;IIIJ)V"⟩, prog_4_method_12_code, 12, none, 5, []),
  (⟨"LacedHoles$Finder", "homeward", "(LLacedHoles$Boot;IIII)J"⟩, prog_4_method_13_code, 12, some Jvm.ClassFile.FieldType.long, 5, []),
  (⟨"LacedHoles$Finder", "closed", "(LLacedHoles$Boot;I)J"⟩, prog_4_method_14_code, 10, some Jvm.ClassFile.FieldType.long, 2, [])]
def z_MiL3 : List z_Mi := [(⟨"LacedHoles$Finder", "trace", "(LLacedHoles$Boot;ILLacedHoles$Way;)Z"⟩, prog_4_method_15_code, 14, some Jvm.ClassFile.FieldType.boolean, 3, []),
  (⟨"LacedHoles$Finder", "nextHole", "(LLacedHoles$Boot;ILLacedHoles$Way;IIJ)I"⟩, prog_4_method_16_code, 15, some Jvm.ClassFile.FieldType.int, 6, []),
  (⟨"LacedHoles$Walk", "<init>", "()V"⟩, prog_10_method_1_code, 1, none, 0, []),
  (⟨"LacedHoles$Walk", "unlikeRounds", "(LLacedHoles$Boot;)I"⟩, prog_10_method_2_code, 2, some Jvm.ClassFile.FieldType.int, 1, []),
  (⟨"LacedHoles$Walk", "roundsWithin", "(LLacedHoles$Boot;LLacedHoles$Picture;)I"⟩, prog_10_method_3_code, 3, some Jvm.ClassFile.FieldType.int, 2, []),
  (⟨"LacedHoles$Walk", "firstWithin", "(LLacedHoles$Boot;LLacedHoles$Picture;LLacedHoles$Way;)Z"⟩, prog_10_method_4_code, 4, some Jvm.ClassFile.FieldType.boolean, 3, []),
  (⟨"LacedHoles$Walk", "begin", "(I)I"⟩, prog_10_method_5_code, 2, some Jvm.ClassFile.FieldType.int, 1, []),
  (⟨"LacedHoles$Walk", "isOver", "()Z"⟩, prog_10_method_6_code, 1, some Jvm.ClassFile.FieldType.boolean, 0, []),
  (⟨"LacedHoles$Walk", "goOn", "(LLacedHoles$Boot;IIIZ)V"⟩, prog_10_method_7_code, 12, none, 5, []),
  (⟨"LacedHoles$Walk", "comeHome", "(LLacedHoles$Boot;II)V"⟩, prog_10_method_8_code, 8, none, 3, []),
  (⟨"LacedHoles$Weeks", "<init>", "()V"⟩, prog_12_method_1_code, 1, none, 0, []),
  (⟨"LacedHoles$Weeks", "share", "(LLacedHoles$Scene;I)V"⟩, prog_12_method_2_code, 4, none, 2, []),
  (⟨"LacedHoles$Weeks", "shareFrom", "(LLacedHoles$Scene;III)V"⟩, prog_12_method_3_code, 6, none, 4, []),
  (⟨"LacedHoles$Weeks", "add", "(LLacedHoles$Scene;II)V"⟩, prog_12_method_4_code, 5, none, 3, []),
  (⟨"LacedHoles$Weeks", "judgeRow", "(I)V"⟩, prog_12_method_5_code, 4, none, 1, []),
  (⟨"LacedHoles", "<init>", "()V"⟩, prog_1_method_1_code, 2, none, 0, []),
  (⟨"LacedHoles", "feed", "(IIIII)I"⟩, prog_1_method_2_code, 6, some Jvm.ClassFile.FieldType.int, 5, []),
  (⟨"LacedHoles", "boot", "(I)I"⟩, prog_1_method_3_code, 3, some Jvm.ClassFile.FieldType.int, 1, []),
  (⟨"LacedHoles", "way", "(I)I"⟩, prog_1_method_4_code, 2, some Jvm.ClassFile.FieldType.int, 1, []),
  (⟨"LacedHoles", "fault", "()I"⟩, prog_1_method_5_code, 1, some Jvm.ClassFile.FieldType.int, 0, []),
  (⟨"LacedHoles", "told", "(I)I"⟩, prog_1_method_6_code, 2, some Jvm.ClassFile.FieldType.int, 1, []),
  (⟨"LacedHoles", "span", "(II)I"⟩, prog_1_method_7_code, 3, some Jvm.ClassFile.FieldType.int, 2, []),
  (⟨"LacedHoles", "at", "(I)I"⟩, prog_1_method_8_code, 2, some Jvm.ClassFile.FieldType.int, 1, []),
  (⟨"LacedHoles", "judge", "()I"⟩, prog_1_method_9_code, 1, some Jvm.ClassFile.FieldType.int, 0, []),
  (⟨"LacedHoles", "measure", "(I)I"⟩, prog_1_method_10_code, 2, some Jvm.ClassFile.FieldType.int, 1, []),
  (⟨"LacedHoles", "number", "()J"⟩, prog_1_method_11_code, 1, some Jvm.ClassFile.FieldType.long, 0, []),
  (⟨"LacedHoles", "count", "(I)J"⟩, prog_1_method_12_code, 2, some Jvm.ClassFile.FieldType.long, 1, []),
  (⟨"LacedHoles", "take", "(IJ)I"⟩, prog_1_method_13_code, 4, some Jvm.ClassFile.FieldType.int, 2, []),
  (⟨"LacedHoles", "best", "(II)I"⟩, prog_1_method_14_code, 3, some Jvm.ClassFile.FieldType.int, 2, []),
  (⟨"LacedHoles", "against", "()I"⟩, prog_1_method_15_code, 5, some Jvm.ClassFile.FieldType.int, 0, []),
  (⟨"LacedHoles", "leave", "()I"⟩, prog_1_method_16_code, 5, some Jvm.ClassFile.FieldType.int, 0, []),
  (⟨"LacedHoles", "tooShort", "()I"⟩, prog_1_method_17_code, 3, some Jvm.ClassFile.FieldType.int, 0, []),
  (⟨"LacedHoles", "alike", "()I"⟩, prog_1_method_18_code, 1, some Jvm.ClassFile.FieldType.int, 0, []),
  (⟨"LacedHoles", "itself", "()I"⟩, prog_1_method_19_code, 1, some Jvm.ClassFile.FieldType.int, 0, []),
  (⟨"LacedHoles", "two", "(I)I"⟩, prog_1_method_20_code, 4, some Jvm.ClassFile.FieldType.int, 1, []),
  (⟨"LacedHoles", "colours", "()I"⟩, prog_1_method_21_code, 9, some Jvm.ClassFile.FieldType.int, 0, []),
  (⟨"LacedHoles", "see", "(II)I"⟩, prog_1_method_22_code, 3, some Jvm.ClassFile.FieldType.int, 2, []),
  (⟨"LacedHoles", "blind", "()I"⟩, prog_1_method_23_code, 2, some Jvm.ClassFile.FieldType.int, 0, []),
  (⟨"LacedHoles", "within", "()I"⟩, prog_1_method_24_code, 1, some Jvm.ClassFile.FieldType.int, 0, []),
  (⟨"LacedHoles", "guess", "()I"⟩, prog_1_method_25_code, 1, some Jvm.ClassFile.FieldType.int, 0, [])]
def z_MiL4 : List z_Mi := [(⟨"LacedHoles", "seen", "()I"⟩, prog_1_method_26_code, 1, some Jvm.ClassFile.FieldType.int, 0, []),
  (⟨"LacedHoles", "knot", "(II)I"⟩, prog_1_method_27_code, 3, some Jvm.ClassFile.FieldType.int, 2, []),
  (⟨"LacedHoles", "wear", "(I)I"⟩, prog_1_method_28_code, 2, some Jvm.ClassFile.FieldType.int, 1, []),
  (⟨"LacedHoles", "keep", "()I"⟩, prog_1_method_29_code, 1, some Jvm.ClassFile.FieldType.int, 0, []),
  (⟨"LacedHoles", "drop", "()I"⟩, prog_1_method_30_code, 2, some Jvm.ClassFile.FieldType.int, 0, []),
  (⟨"LacedHoles", "weeks", "(II)I"⟩, prog_1_method_31_code, 3, some Jvm.ClassFile.FieldType.int, 2, []),
  (⟨"LacedHoles", "draw", "(I)I"⟩, prog_1_method_32_code, 7, some Jvm.ClassFile.FieldType.int, 1, []),
  (⟨"LacedHoles", "image", "()I"⟩, prog_1_method_33_code, 1, some Jvm.ClassFile.FieldType.int, 0, []),
  (⟨"LacedHoles", "restore", "()I"⟩, prog_1_method_34_code, 2, some Jvm.ClassFile.FieldType.int, 0, []),
  (⟨"LacedHoles", "sums", "(I)I"⟩, prog_1_method_35_code, 2, some Jvm.ClassFile.FieldType.int, 1, []),
  (⟨"LacedHoles", "needHole", "(I)V"⟩, prog_1_method_36_code, 2, none, 1, []),
  (⟨"LacedHoles", "needWay", "()V"⟩, prog_1_method_37_code, 1, none, 0, []),
  (⟨"LacedHoles", "needRoundOf", "(I)V"⟩, prog_1_method_38_code, 2, none, 1, []),
  (⟨"LacedHoles", "adoptDraft", "()I"⟩, prog_1_method_39_code, 1, some Jvm.ClassFile.FieldType.int, 0, []),
  (⟨"LacedHoles", "fitsLace", "(I)Z"⟩, prog_1_method_40_code, 4, some Jvm.ClassFile.FieldType.boolean, 1, []),
  (⟨"LacedHoles", "lengthOfTwo", "(I)J"⟩, prog_1_method_41_code, 6, some Jvm.ClassFile.FieldType.long, 1, []),
  (⟨"LacedHolesModel", "<init>", "()V"⟩, prog_14_method_1_code, 1, none, 0, []),
  (⟨"LacedHolesModel", "tellsNothing", "()V"⟩, prog_14_method_2_code, 3, none, 0, []),
  (⟨"LacedHolesModel", "thrown", "()I"⟩, prog_14_method_3_code, 1, some Jvm.ClassFile.FieldType.int, 0, []),
  (⟨"LacedHolesModel", "bad", "(ZI)Z"⟩, prog_14_method_4_code, 3, some Jvm.ClassFile.FieldType.boolean, 2, []),
  (⟨"LacedHolesModel", "in", "(III)Z"⟩, prog_14_method_5_code, 3, some Jvm.ClassFile.FieldType.boolean, 3, []),
  (⟨"LacedHolesModel", "feed", "(IIIII)I"⟩, prog_14_method_6_code, 8, some Jvm.ClassFile.FieldType.int, 5, []),
  (⟨"LacedHolesModel", "byteAt", "(I)I"⟩, prog_14_method_7_code, 2, some Jvm.ClassFile.FieldType.int, 1, []),
  (⟨"LacedHolesModel", "blanks", "()V"⟩, prog_14_method_8_code, 1, none, 0, []),
  (⟨"LacedHolesModel", "wrong", "(II)V"⟩, prog_14_method_9_code, 3, none, 2, []),
  (⟨"LacedHolesModel", "isDigit", "(I)Z"⟩, prog_14_method_10_code, 1, some Jvm.ClassFile.FieldType.boolean, 1, []),
  (⟨"LacedHolesModel", "digitsHere", "()I"⟩, prog_14_method_11_code, 2, some Jvm.ClassFile.FieldType.int, 0, []),
  (⟨"LacedHolesModel", "reads", "(II)I"⟩, prog_14_method_12_code, 5, some Jvm.ClassFile.FieldType.int, 2, []),
  (⟨"LacedHolesModel", "wordHere", "()I"⟩, prog_14_method_13_code, 3, some Jvm.ClassFile.FieldType.int, 0, []),
  (⟨"LacedHolesModel", "five", "(IIIII)I"⟩, prog_14_method_14_code, 6, some Jvm.ClassFile.FieldType.int, 5, []),
  (⟨"LacedHolesModel", "isWord", "(IIIII)Z"⟩, prog_14_method_15_code, 6, some Jvm.ClassFile.FieldType.boolean, 5, []),
  (⟨"LacedHolesModel", "starts", "(I)V"⟩, prog_14_method_16_code, 2, none, 1, []),
  (⟨"LacedHolesModel", "clause", "()V"⟩, prog_14_method_17_code, 2, none, 0, []),
  (⟨"LacedHolesModel", "boot", "(I)I"⟩, prog_14_method_18_code, 2, some Jvm.ClassFile.FieldType.int, 1, []),
  (⟨"LacedHolesModel", "stands", "()V"⟩, prog_14_method_19_code, 2, none, 0, []),
  (⟨"LacedHolesModel", "way", "(I)I"⟩, prog_14_method_20_code, 6, some Jvm.ClassFile.FieldType.int, 1, []),
  (⟨"LacedHolesModel", "takesWay", "([II)V"⟩, prog_14_method_21_code, 4, none, 2, []),
  (⟨"LacedHolesModel", "fault", "()I"⟩, prog_14_method_22_code, 1, some Jvm.ClassFile.FieldType.int, 0, []),
  (⟨"LacedHolesModel", "told", "(I)I"⟩, prog_14_method_23_code, 2, some Jvm.ClassFile.FieldType.int, 1, []),
  (⟨"LacedHolesModel", "holes", "()I"⟩, prog_14_method_24_code, 1, some Jvm.ClassFile.FieldType.int, 0, [])]
def z_MiL5 : List z_Mi := [(⟨"LacedHolesModel", "sound", "()I"⟩, prog_14_method_25_code, 1, some Jvm.ClassFile.FieldType.int, 0, []),
  (⟨"LacedHolesModel", "ones", "(I)I"⟩, prog_14_method_26_code, 3, some Jvm.ClassFile.FieldType.int, 1, []),
  (⟨"LacedHolesModel", "laysRoot", "(I)V"⟩, prog_14_method_27_code, 6, none, 1, []),
  (⟨"LacedHolesModel", "moreDigits", "(II[I)V"⟩, prog_14_method_28_code, 10, none, 3, []),
  (⟨"LacedHolesModel", "shifts", "([III)V"⟩, prog_14_method_29_code, 4, none, 3, []),
  (⟨"LacedHolesModel", "isLess", "([I[II)Z"⟩, prog_14_method_30_code, 4, some Jvm.ClassFile.FieldType.boolean, 3, []),
  (⟨"LacedHolesModel", "takesOff", "([I[II)V"⟩, prog_14_method_31_code, 6, none, 3, []),
  (⟨"LacedHolesModel", "adds", "([III)V"⟩, prog_14_method_32_code, 6, none, 3, []),
  (⟨"LacedHolesModel", "dividesInto", "([III[I)V"⟩, prog_14_method_33_code, 9, none, 4, []),
  (⟨"LacedHolesModel", "isLeft", "(I)Z"⟩, prog_14_method_34_code, 2, some Jvm.ClassFile.FieldType.boolean, 1, []),
  (⟨"LacedHolesModel", "row", "(I)I"⟩, prog_14_method_35_code, 2, some Jvm.ClassFile.FieldType.int, 1, []),
  (⟨"LacedHolesModel", "isAcross", "(II)Z"⟩, prog_14_method_36_code, 3, some Jvm.ClassFile.FieldType.boolean, 2, []),
  (⟨"LacedHolesModel", "spanOf", "(II)J"⟩, prog_14_method_37_code, 4, some Jvm.ClassFile.FieldType.long, 2, []),
  (⟨"LacedHolesModel", "wholeOf", "(J)I"⟩, prog_14_method_38_code, 2, some Jvm.ClassFile.FieldType.int, 1, []),
  (⟨"LacedHolesModel", "timesOf", "(JI)I"⟩, prog_14_method_39_code, 3, some Jvm.ClassFile.FieldType.int, 2, []),
  (⟨"LacedHolesModel", "isNothing", "(Z)Z"⟩, prog_14_method_40_code, 9, some Jvm.ClassFile.FieldType.boolean, 1, []),
  (⟨"LacedHolesModel", "laysPlaces", "(Z)V"⟩, prog_14_method_41_code, 5, none, 1, []),
  (⟨"LacedHolesModel", "signOfSum", "(Z)I"⟩, prog_14_method_42_code, 5, some Jvm.ClassFile.FieldType.int, 1, []),
  (⟨"LacedHolesModel", "setAgainst", "(JJZ)I"⟩, prog_14_method_43_code, 7, some Jvm.ClassFile.FieldType.int, 3, []),
  (⟨"LacedHolesModel", "isBetter", "(JJI)Z"⟩, prog_14_method_44_code, 6, some Jvm.ClassFile.FieldType.boolean, 3, []),
  (⟨"LacedHolesModel", "laysSum", "(JZ)V"⟩, prog_14_method_45_code, 5, none, 2, []),
  (⟨"LacedHolesModel", "cut", "(JZ)I"⟩, prog_14_method_46_code, 4, some Jvm.ClassFile.FieldType.int, 2, []),
  (⟨"LacedHolesModel", "cutSum", "(Z)I"⟩, prog_14_method_47_code, 9, some Jvm.ClassFile.FieldType.int, 1, []),
  (⟨"LacedHolesModel", "span", "(II)I"⟩, prog_14_method_48_code, 3, some Jvm.ClassFile.FieldType.int, 2, []),
  (⟨"LacedHolesModel", "at", "(I)I"⟩, prog_14_method_49_code, 2, some Jvm.ClassFile.FieldType.int, 1, []),
  (⟨"LacedHolesModel", "nextOf", "(I)I"⟩, prog_14_method_50_code, 2, some Jvm.ClassFile.FieldType.int, 1, []),
  (⟨"LacedHolesModel", "aheadOf", "(I)I"⟩, prog_14_method_51_code, 2, some Jvm.ClassFile.FieldType.int, 1, []),
  (⟨"LacedHolesModel", "mayBe", "(ZZ)Z"⟩, prog_14_method_52_code, 3, some Jvm.ClassFile.FieldType.boolean, 2, []),
  (⟨"LacedHolesModel", "isAgainst", "(I)Z"⟩, prog_14_method_53_code, 2, some Jvm.ClassFile.FieldType.boolean, 1, []),
  (⟨"LacedHolesModel", "judged", "()I"⟩, prog_14_method_54_code, 2, some Jvm.ClassFile.FieldType.int, 0, []),
  (⟨"LacedHolesModel", "badWay", "()Z"⟩, prog_14_method_55_code, 1, some Jvm.ClassFile.FieldType.boolean, 0, []),
  (⟨"LacedHolesModel", "judge", "()I"⟩, prog_14_method_56_code, 1, some Jvm.ClassFile.FieldType.int, 0, []),
  (⟨"LacedHolesModel", "wayLength", "()J"⟩, prog_14_method_57_code, 4, some Jvm.ClassFile.FieldType.long, 0, []),
  (⟨"LacedHolesModel", "isShortEnough", "(J)Z"⟩, prog_14_method_58_code, 3, some Jvm.ClassFile.FieldType.boolean, 1, []),
  (⟨"LacedHolesModel", "measure", "(I)I"⟩, prog_14_method_59_code, 7, some Jvm.ClassFile.FieldType.int, 1, []),
  (⟨"LacedHolesModel", "takesHoles", "(I)V"⟩, prog_14_method_60_code, 3, none, 1, []),
  (⟨"LacedHolesModel", "state", "(IIZZ)I"⟩, prog_14_method_61_code, 5, some Jvm.ClassFile.FieldType.int, 4, []),
  (⟨"LacedHolesModel", "all", "()I"⟩, prog_14_method_62_code, 1, some Jvm.ClassFile.FieldType.int, 0, []),
  (⟨"LacedHolesModel", "laysWays", "(I)V"⟩, prog_14_method_63_code, 5, none, 1, []),
  (⟨"LacedHolesModel", "waysFrom", "(IIZZI)J"⟩, prog_14_method_64_code, 10, some Jvm.ClassFile.FieldType.long, 5, [])]
def z_MiL6 : List z_Mi := [(⟨"LacedHolesModel", "waysBy", "(I)J"⟩, prog_14_method_65_code, 3, some Jvm.ClassFile.FieldType.long, 1, []),
  (⟨"LacedHolesModel", "areHoles", "(I)Z"⟩, prog_14_method_66_code, 2, some Jvm.ClassFile.FieldType.boolean, 1, []),
  (⟨"LacedHolesModel", "countOf", "(I)J"⟩, prog_14_method_67_code, 5, some Jvm.ClassFile.FieldType.long, 1, []),
  (⟨"LacedHolesModel", "count", "(I)J"⟩, prog_14_method_68_code, 2, some Jvm.ClassFile.FieldType.long, 1, []),
  (⟨"LacedHolesModel", "finds", "(IJ)Z"⟩, prog_14_method_69_code, 16, some Jvm.ClassFile.FieldType.boolean, 2, []),
  (⟨"LacedHolesModel", "take", "(IJ)I"⟩, prog_14_method_70_code, 4, some Jvm.ClassFile.FieldType.int, 2, []),
  (⟨"LacedHolesModel", "wayBits", "()I"⟩, prog_14_method_71_code, 3, some Jvm.ClassFile.FieldType.int, 0, []),
  (⟨"LacedHolesModel", "laysOwn", "([II)V"⟩, prog_14_method_72_code, 6, none, 2, []),
  (⟨"LacedHolesModel", "indexOf", "(I)I"⟩, prog_14_method_73_code, 3, some Jvm.ClassFile.FieldType.int, 1, []),
  (⟨"LacedHolesModel", "number", "()J"⟩, prog_14_method_74_code, 12, some Jvm.ClassFile.FieldType.long, 0, []),
  (⟨"LacedHolesModel", "laysBest", "(I)V"⟩, prog_14_method_75_code, 5, none, 1, []),
  (⟨"LacedHolesModel", "bestFrom", "(IIZZI)J"⟩, prog_14_method_76_code, 11, some Jvm.ClassFile.FieldType.long, 5, []),
  (⟨"LacedHolesModel", "bestBy", "(IIZZI)J"⟩, prog_14_method_77_code, 9, some Jvm.ClassFile.FieldType.long, 5, []),
  (⟨"LacedHolesModel", "bestStart", "(I)J"⟩, prog_14_method_78_code, 5, some Jvm.ClassFile.FieldType.long, 1, []),
  (⟨"LacedHolesModel", "findsBest", "(II)J"⟩, prog_14_method_79_code, 17, some Jvm.ClassFile.FieldType.long, 2, []),
  (⟨"LacedHolesModel", "best", "(II)I"⟩, prog_14_method_80_code, 5, some Jvm.ClassFile.FieldType.int, 2, []),
  (⟨"LacedHolesModel", "against", "()I"⟩, prog_14_method_81_code, 4, some Jvm.ClassFile.FieldType.int, 0, []),
  (⟨"LacedHolesModel", "least", "(I)I"⟩, prog_14_method_82_code, 2, some Jvm.ClassFile.FieldType.int, 1, []),
  (⟨"LacedHolesModel", "step", "(IIZZ)I"⟩, prog_14_method_83_code, 4, some Jvm.ClassFile.FieldType.int, 4, []),
  (⟨"LacedHolesModel", "shortens", "(IJ)V"⟩, prog_14_method_84_code, 4, none, 2, []),
  (⟨"LacedHolesModel", "laysHome", "()V"⟩, prog_14_method_85_code, 7, none, 0, []),
  (⟨"LacedHolesModel", "goesOn", "(IIIZZI)V"⟩, prog_14_method_86_code, 12, none, 6, []),
  (⟨"LacedHolesModel", "leave", "()I"⟩, prog_14_method_87_code, 6, some Jvm.ClassFile.FieldType.int, 0, []),
  (⟨"LacedHolesModel", "tooShort", "()I"⟩, prog_14_method_88_code, 4, some Jvm.ClassFile.FieldType.int, 0, []),
  (⟨"LacedHolesModel", "areApart", "(I)Z"⟩, prog_14_method_89_code, 2, some Jvm.ClassFile.FieldType.boolean, 1, []),
  (⟨"LacedHolesModel", "two", "(I)I"⟩, prog_14_method_90_code, 2, some Jvm.ClassFile.FieldType.int, 1, []),
  (⟨"LacedHolesModel", "colours", "()I"⟩, prog_14_method_91_code, 5, some Jvm.ClassFile.FieldType.int, 0, []),
  (⟨"LacedHolesModel", "becomes", "(II)I"⟩, prog_14_method_92_code, 4, some Jvm.ClassFile.FieldType.int, 2, []),
  (⟨"LacedHolesModel", "standsTo", "([III)I"⟩, prog_14_method_93_code, 5, some Jvm.ClassFile.FieldType.int, 3, []),
  (⟨"LacedHolesModel", "tries", "(II)V"⟩, prog_14_method_94_code, 4, none, 2, []),
  (⟨"LacedHolesModel", "canTurn", "()Z"⟩, prog_14_method_95_code, 1, some Jvm.ClassFile.FieldType.boolean, 0, []),
  (⟨"LacedHolesModel", "alike", "()I"⟩, prog_14_method_96_code, 1, some Jvm.ClassFile.FieldType.int, 0, []),
  (⟨"LacedHolesModel", "itself", "()I"⟩, prog_14_method_97_code, 3, some Jvm.ClassFile.FieldType.int, 0, []),
  (⟨"LacedHolesModel", "isIn", "(I)Z"⟩, prog_14_method_98_code, 3, some Jvm.ClassFile.FieldType.boolean, 1, []),
  (⟨"LacedHolesModel", "see", "(II)I"⟩, prog_14_method_99_code, 3, some Jvm.ClassFile.FieldType.int, 2, []),
  (⟨"LacedHolesModel", "blind", "()I"⟩, prog_14_method_100_code, 2, some Jvm.ClassFile.FieldType.int, 0, []),
  (⟨"LacedHolesModel", "threads", "(II)V"⟩, prog_14_method_101_code, 5, none, 2, []),
  (⟨"LacedHolesModel", "isAhead", "(I)Z"⟩, prog_14_method_102_code, 3, some Jvm.ClassFile.FieldType.boolean, 1, []),
  (⟨"LacedHolesModel", "findsWithin", "()V"⟩, prog_14_method_103_code, 3, none, 0, []),
  (⟨"LacedHolesModel", "lesser", "(I)I"⟩, prog_14_method_104_code, 2, some Jvm.ClassFile.FieldType.int, 1, [])]
def z_MiL7 : List z_Mi := [(⟨"LacedHolesModel", "within", "()I"⟩, prog_14_method_105_code, 1, some Jvm.ClassFile.FieldType.int, 0, []),
  (⟨"LacedHolesModel", "guess", "()I"⟩, prog_14_method_106_code, 1, some Jvm.ClassFile.FieldType.int, 0, []),
  (⟨"LacedHolesModel", "isPair", "(II)Z"⟩, prog_14_method_107_code, 4, some Jvm.ClassFile.FieldType.boolean, 2, []),
  (⟨"LacedHolesModel", "seen", "()I"⟩, prog_14_method_108_code, 4, some Jvm.ClassFile.FieldType.int, 0, []),
  (⟨"LacedHolesModel", "twice", "(JIJ)I"⟩, prog_14_method_109_code, 7, some Jvm.ClassFile.FieldType.int, 3, []),
  (⟨"LacedHolesModel", "knot", "(II)I"⟩, prog_14_method_110_code, 9, some Jvm.ClassFile.FieldType.int, 2, []),
  (⟨"LacedHolesModel", "wearOf", "([III)I"⟩, prog_14_method_111_code, 5, some Jvm.ClassFile.FieldType.int, 3, []),
  (⟨"LacedHolesModel", "wear", "(I)I"⟩, prog_14_method_112_code, 2, some Jvm.ClassFile.FieldType.int, 1, []),
  (⟨"LacedHolesModel", "keep", "()I"⟩, prog_14_method_113_code, 2, some Jvm.ClassFile.FieldType.int, 0, []),
  (⟨"LacedHolesModel", "drop", "()I"⟩, prog_14_method_114_code, 2, some Jvm.ClassFile.FieldType.int, 0, []),
  (⟨"LacedHolesModel", "shares", "(II)V"⟩, prog_14_method_115_code, 8, none, 2, []),
  (⟨"LacedHolesModel", "weeks", "(II)I"⟩, prog_14_method_116_code, 3, some Jvm.ClassFile.FieldType.int, 2, []),
  (⟨"LacedHolesModel", "draw", "(I)I"⟩, prog_14_method_117_code, 4, some Jvm.ClassFile.FieldType.int, 1, []),
  (⟨"LacedHolesModel", "moves", "([IIZ)I"⟩, prog_14_method_118_code, 4, some Jvm.ClassFile.FieldType.int, 3, []),
  (⟨"LacedHolesModel", "movesAll", "([IZ)V"⟩, prog_14_method_119_code, 5, none, 2, []),
  (⟨"LacedHolesModel", "image", "()I"⟩, prog_14_method_120_code, 1, some Jvm.ClassFile.FieldType.int, 0, []),
  (⟨"LacedHolesModel", "restore", "()I"⟩, prog_14_method_121_code, 1, some Jvm.ClassFile.FieldType.int, 0, []),
  (⟨"LacedHolesModel", "sums", "(I)I"⟩, prog_14_method_122_code, 2, some Jvm.ClassFile.FieldType.int, 1, []),
  (⟨"LacedHolesLaw", "boot", "(LLacedHoles;I[J)I"⟩, method_3_code, 4, some Jvm.ClassFile.FieldType.int, 3, [(0, 9, 12, 13)]),
  (⟨"LacedHolesLaw", "way", "(LLacedHoles;I[J)I"⟩, method_4_code, 4, some Jvm.ClassFile.FieldType.int, 3, [(0, 9, 12, 13)]),
  (⟨"LacedHolesLaw", "told", "(LLacedHoles;I[J)I"⟩, method_5_code, 4, some Jvm.ClassFile.FieldType.int, 3, [(0, 9, 12, 13)]),
  (⟨"LacedHolesLaw", "span", "(LLacedHoles;II[J)I"⟩, method_6_code, 5, some Jvm.ClassFile.FieldType.int, 4, [(0, 10, 13, 25), (0, 10, 17, 13)]),
  (⟨"LacedHolesLaw", "judge", "(LLacedHoles;[J)I"⟩, method_7_code, 3, some Jvm.ClassFile.FieldType.int, 2, [(0, 8, 11, 31)]),
  (⟨"LacedHolesLaw", "measure", "(LLacedHoles;I[J)I"⟩, method_8_code, 4, some Jvm.ClassFile.FieldType.int, 3, [(0, 9, 12, 31), (0, 9, 15, 13)]),
  (⟨"LacedHolesLaw", "number", "(LLacedHoles;[J)I"⟩, method_9_code, 3, some Jvm.ClassFile.FieldType.int, 2, [(0, 7, 10, 31)]),
  (⟨"LacedHolesLaw", "count", "(LLacedHoles;I[J)I"⟩, method_10_code, 4, some Jvm.ClassFile.FieldType.int, 3, [(0, 8, 11, 13)]),
  (⟨"LacedHolesLaw", "take", "(LLacedHoles;IJ[J)I"⟩, method_11_code, 6, some Jvm.ClassFile.FieldType.int, 4, [(0, 11, 14, 13)]),
  (⟨"LacedHolesLaw", "best", "(LLacedHoles;II[J)I"⟩, method_12_code, 5, some Jvm.ClassFile.FieldType.int, 4, [(0, 10, 13, 13)]),
  (⟨"LacedHolesLaw", "against", "(LLacedHoles;[J)I"⟩, method_13_code, 3, some Jvm.ClassFile.FieldType.int, 2, [(0, 8, 11, 31)]),
  (⟨"LacedHolesLaw", "itself", "(LLacedHoles;[J)I"⟩, method_14_code, 3, some Jvm.ClassFile.FieldType.int, 2, [(0, 8, 11, 31)]),
  (⟨"LacedHolesLaw", "two", "(LLacedHoles;I[J)I"⟩, method_15_code, 4, some Jvm.ClassFile.FieldType.int, 3, [(0, 9, 12, 13)]),
  (⟨"LacedHolesLaw", "see", "(LLacedHoles;II[J)I"⟩, method_16_code, 5, some Jvm.ClassFile.FieldType.int, 4, [(0, 10, 13, 25), (0, 10, 17, 13)]),
  (⟨"LacedHolesLaw", "seen", "(LLacedHoles;[J)I"⟩, method_17_code, 3, some Jvm.ClassFile.FieldType.int, 2, [(0, 8, 11, 31)]),
  (⟨"LacedHolesLaw", "knot", "(LLacedHoles;II[J)I"⟩, method_18_code, 5, some Jvm.ClassFile.FieldType.int, 4, [(0, 10, 13, 31), (0, 10, 17, 13)]),
  (⟨"LacedHolesLaw", "wear", "(LLacedHoles;I[J)I"⟩, method_19_code, 4, some Jvm.ClassFile.FieldType.int, 3, [(0, 9, 12, 25), (0, 9, 15, 31)]),
  (⟨"LacedHolesLaw", "keep", "(LLacedHoles;[J)I"⟩, method_20_code, 3, some Jvm.ClassFile.FieldType.int, 2, [(0, 8, 11, 31)]),
  (⟨"LacedHolesLaw", "weeks", "(LLacedHoles;II[J)I"⟩, method_21_code, 5, some Jvm.ClassFile.FieldType.int, 4, [(0, 10, 13, 13)]),
  (⟨"LacedHolesLaw", "law", "([I)Z"⟩, code, 8, some .boolean, 1, [])]
def z_mi (j : Nat) : z_Mi := match j with
  | 900 => (⟨"java/lang/String", "length", "()I"⟩, prog_24_method_54_code, 1, some Jvm.ClassFile.FieldType.int, 0, [])
  | 901 => (⟨"java/lang/String", "charAt", "(I)C"⟩, prog_24_method_56_code, 2, some Jvm.ClassFile.FieldType.char, 1, [])
  | j => match j / 40 with
    | 0 => z_MiL0.getD (j % 40) z_mi0
    | 1 => z_MiL1.getD (j % 40) z_mi0
    | 2 => z_MiL2.getD (j % 40) z_mi0
    | 3 => z_MiL3.getD (j % 40) z_mi0
    | 4 => z_MiL4.getD (j % 40) z_mi0
    | 5 => z_MiL5.getD (j % 40) z_mi0
    | 6 => z_MiL6.getD (j % 40) z_mi0
    | 7 => z_MiL7.getD (j % 40) z_mi0
    | _ => z_mi0
def z_ow (o : Nat) : String := ["java/lang/Integer", "java/lang/Math", "LacedHoles$Rows", "LacedHoles$Tape", "LacedHoles$Boot", "LacedHoles$Roots", "LacedHoles$Way", "LacedHoles$Picture", "LacedHoles$Scene", "LacedHoles$Counter", "LacedHoles$Finder", "LacedHoles$Walk", "LacedHoles$Weeks", "LacedHoles", "LacedHolesModel", "LacedHolesLaw", "java/lang/String"].getD o ""
def z_knL : List Nat := [0, 0, 0, 0, 0, 0, 0, 0, 0, 0, 0, 2, 1, 1, 1, 1, 1, 1, 1, 1, 1, 1, 1, 1, 1, 1, 0, 0, 1, 1, 1, 1, 2, 1, 1, 1, 0, 1, 1, 1, 1, 1, 1, 1, 1, 1, 1, 1, 2, 1, 1, 0, 1, 1, 1, 1, 0, 0, 0, 0, 1, 2, 1, 1, 1, 1, 1, 1, 1, 1, 1, 1, 1, 1, 1, 1, 1, 1, 2, 1, 1, 1, 1, 1, 1, 2, 1, 1, 1, 1, 2, 1, 1, 1, 1, 1, 1, 1, 1, 0, 0, 0, 1, 1, 0, 1, 2, 1, 1, 1, 1, 1, 1, 1, 0, 1, 1, 1, 1, 1, 1, 1, 2, 1, 1, 1, 1, 1, 1, 1, 2, 1, 1, 1, 1, 2, 1, 1, 1, 1, 1, 1, 1, 1, 1, 1, 1, 1, 1, 1, 1, 1, 1, 1, 1, 1, 1, 1, 1, 1, 1, 1, 1, 1, 1, 1, 1, 1, 1, 1, 1, 1, 1, 1, 1, 1, 2, 1, 1, 1, 0, 1, 1, 1, 1, 0, 1, 1, 1, 0, 1, 1, 1, 1, 1, 1, 1, 1, 1, 1, 1, 0, 1, 1, 0, 0, 0, 0, 0, 1, 1, 1, 1, 0, 0, 1, 1, 1, 1, 1, 1, 1, 1, 1, 1, 1, 1, 1, 1, 1, 1, 1, 1, 1, 1, 1, 1, 1, 1, 1, 1, 1, 1, 1, 1, 1, 1, 1, 1, 1, 1, 1, 1, 1, 1, 1, 1, 0, 0, 1, 1, 1, 1, 1, 1, 1, 1, 1, 1, 1, 1, 1, 1, 1, 1, 1, 1, 1, 1, 1, 1, 1, 1, 1, 1, 1, 1, 1, 1, 1, 1, 1, 1, 1, 1, 1, 1, 1, 0, 0, 0, 0, 0, 0, 0, 0, 0, 0, 0, 0, 0, 0, 0, 0, 0, 0, 0, 1]
/-- 0 static, 1 virtual, 2 a constructor -/
def z_kn (j : Nat) : Nat := if 900 ≤ j then 1 else z_knL.getD j 3
def z_cal (j : Nat) : Prop := z_Cm (z_mi j) (z_mi j).2.2.2.2.1 ∧ (z_kn j = 0 → Jvm.Cond.static (z_mi j).1 ∈ z_W0) ∧ (¬ z_kn j = 0 → Jvm.Cond.instanceMethod (z_mi j).1 ∈ z_W0) ∧ (z_kn j = 1 → Jvm.Cond.selects (z_mi j).1.cls (z_mi j).1 (z_mi j).1 ∈ z_W0) ∧ (z_kn j = 2 → (z_mi j).1.name = "<init>")
set_option maxRecDepth 100000 in
theorem z_cal_0 : z_cal 0 := ⟨⟨z_t2 192 rfl rfl, z_t1 23 rfl rfl, ⟨by decide, by decide, by decide +kernel⟩, by decide⟩, ⟨fun _ => z_t2 191 rfl rfl, fun h => absurd (by decide) h, fun h => absurd h (by decide), fun h => absurd h (by decide)⟩⟩
set_option maxRecDepth 100000 in
theorem z_cal_1 : z_cal 1 := ⟨⟨z_t2 226 rfl rfl, z_t1 23 rfl rfl, ⟨by decide, by decide, by decide +kernel⟩, by decide⟩, ⟨fun _ => z_t2 225 rfl rfl, fun h => absurd (by decide) h, fun h => absurd h (by decide), fun h => absurd h (by decide)⟩⟩
set_option maxRecDepth 100000 in
theorem z_cal_2 : z_cal 2 := ⟨⟨z_t2 128 rfl rfl, z_t1 22 rfl rfl, ⟨by decide, by decide, by decide +kernel⟩, by decide⟩, ⟨fun _ => z_t2 127 rfl rfl, fun h => absurd (by decide) h, fun h => absurd h (by decide), fun h => absurd h (by decide)⟩⟩
set_option maxRecDepth 100000 in
theorem z_cal_3 : z_cal 3 := ⟨⟨z_t2 167 rfl rfl, z_t1 22 rfl rfl, ⟨by decide, by decide, by decide +kernel⟩, by decide⟩, ⟨fun _ => z_t2 166 rfl rfl, fun h => absurd (by decide) h, fun h => absurd h (by decide), fun h => absurd h (by decide)⟩⟩
set_option maxRecDepth 100000 in
theorem z_cal_4 : z_cal 4 := ⟨⟨z_t3 26 rfl rfl, z_t1 22 rfl rfl, ⟨by decide, by decide, by decide +kernel⟩, by decide⟩, ⟨fun _ => z_t3 25 rfl rfl, fun h => absurd (by decide) h, fun h => absurd h (by decide), fun h => absurd h (by decide)⟩⟩
set_option maxRecDepth 100000 in
theorem z_cal_5 : z_cal 5 := ⟨⟨z_t4 193 rfl rfl, z_t1 22 rfl rfl, ⟨by decide, by decide, by decide +kernel⟩, by decide⟩, ⟨fun _ => z_t4 192 rfl rfl, fun h => absurd (by decide) h, fun h => absurd h (by decide), fun h => absurd h (by decide)⟩⟩
set_option maxRecDepth 100000 in
theorem z_cal_6 : z_cal 6 := ⟨⟨z_t2 236 rfl rfl, z_t1 22 rfl rfl, ⟨by decide, by decide, by decide +kernel⟩, by decide⟩, ⟨fun _ => z_t2 235 rfl rfl, fun h => absurd (by decide) h, fun h => absurd h (by decide), fun h => absurd h (by decide)⟩⟩
set_option maxRecDepth 100000 in
theorem z_cal_7 : z_cal 7 := ⟨⟨z_t2 131 rfl rfl, z_t1 12 rfl rfl, ⟨by decide, by decide, by decide +kernel⟩, by decide⟩, ⟨fun _ => z_t2 130 rfl rfl, fun h => absurd (by decide) h, fun h => absurd h (by decide), fun h => absurd h (by decide)⟩⟩
set_option maxRecDepth 100000 in
theorem z_cal_8 : z_cal 8 := ⟨⟨z_t2 109 rfl rfl, z_t1 12 rfl rfl, ⟨by decide, by decide, by decide +kernel⟩, by decide⟩, ⟨fun _ => z_t2 108 rfl rfl, fun h => absurd (by decide) h, fun h => absurd h (by decide), fun h => absurd h (by decide)⟩⟩
set_option maxRecDepth 100000 in
theorem z_cal_9 : z_cal 9 := ⟨⟨z_t2 178 rfl rfl, z_t1 12 rfl rfl, ⟨by decide, by decide, by decide +kernel⟩, by decide⟩, ⟨fun _ => z_t2 177 rfl rfl, fun h => absurd (by decide) h, fun h => absurd h (by decide), fun h => absurd h (by decide)⟩⟩
set_option maxRecDepth 100000 in
theorem z_cal_10 : z_cal 10 := ⟨⟨z_t2 51 rfl rfl, z_t1 12 rfl rfl, ⟨by decide, by decide, by decide +kernel⟩, by decide⟩, ⟨fun _ => z_t2 50 rfl rfl, fun h => absurd (by decide) h, fun h => absurd h (by decide), fun h => absurd h (by decide)⟩⟩
set_option maxRecDepth 100000 in
theorem z_cal_11 : z_cal 11 := ⟨⟨z_t1 38 rfl rfl, z_t1 2 rfl rfl, ⟨by decide, by decide, by decide +kernel⟩, by decide⟩, ⟨fun h => absurd h (by decide), fun _ => z_t1 37 rfl rfl, fun h => absurd h (by decide), fun _ => rfl⟩⟩
set_option maxRecDepth 100000 in
theorem z_cal_12 : z_cal 12 := ⟨⟨z_t2 102 rfl rfl, z_t1 2 rfl rfl, ⟨by decide, by decide, by decide +kernel⟩, by decide⟩, ⟨fun h => absurd h (by decide), fun _ => z_t2 100 rfl rfl, fun _ => z_t2 101 rfl rfl, fun h => absurd h (by decide)⟩⟩
set_option maxRecDepth 100000 in
theorem z_cal_13 : z_cal 13 := ⟨⟨z_t2 106 rfl rfl, z_t1 2 rfl rfl, ⟨by decide, by decide, by decide +kernel⟩, by decide⟩, ⟨fun h => absurd h (by decide), fun _ => z_t2 104 rfl rfl, fun _ => z_t2 105 rfl rfl, fun h => absurd h (by decide)⟩⟩
set_option maxRecDepth 100000 in
theorem z_cal_14 : z_cal 14 := ⟨⟨z_t2 113 rfl rfl, z_t1 2 rfl rfl, ⟨by decide, by decide, by decide +kernel⟩, by decide⟩, ⟨fun h => absurd h (by decide), fun _ => z_t2 111 rfl rfl, fun _ => z_t2 112 rfl rfl, fun h => absurd h (by decide)⟩⟩
set_option maxRecDepth 100000 in
theorem z_cal_15 : z_cal 15 := ⟨⟨z_t4 201 rfl rfl, z_t1 2 rfl rfl, ⟨by decide, by decide, by decide +kernel⟩, by decide⟩, ⟨fun h => absurd h (by decide), fun _ => z_t4 199 rfl rfl, fun _ => z_t4 200 rfl rfl, fun h => absurd h (by decide)⟩⟩
set_option maxRecDepth 100000 in
theorem z_cal_16 : z_cal 16 := ⟨⟨z_t4 73 rfl rfl, z_t1 2 rfl rfl, ⟨by decide, by decide, by decide +kernel⟩, by decide⟩, ⟨fun h => absurd h (by decide), fun _ => z_t4 71 rfl rfl, fun _ => z_t4 72 rfl rfl, fun h => absurd h (by decide)⟩⟩
set_option maxRecDepth 100000 in
theorem z_cal_17 : z_cal 17 := ⟨⟨z_t4 85 rfl rfl, z_t1 2 rfl rfl, ⟨by decide, by decide, by decide +kernel⟩, by decide⟩, ⟨fun h => absurd h (by decide), fun _ => z_t4 83 rfl rfl, fun _ => z_t4 84 rfl rfl, fun h => absurd h (by decide)⟩⟩
set_option maxRecDepth 100000 in
theorem z_cal_18 : z_cal 18 := ⟨⟨z_t4 210 rfl rfl, z_t1 2 rfl rfl, ⟨by decide, by decide, by decide +kernel⟩, by decide⟩, ⟨fun h => absurd h (by decide), fun _ => z_t4 208 rfl rfl, fun _ => z_t4 209 rfl rfl, fun h => absurd h (by decide)⟩⟩
set_option maxRecDepth 100000 in
theorem z_cal_19 : z_cal 19 := ⟨⟨z_t4 205 rfl rfl, z_t1 2 rfl rfl, ⟨by decide, by decide, by decide +kernel⟩, by decide⟩, ⟨fun h => absurd h (by decide), fun _ => z_t4 203 rfl rfl, fun _ => z_t4 204 rfl rfl, fun h => absurd h (by decide)⟩⟩
set_option maxRecDepth 100000 in
theorem z_cal_20 : z_cal 20 := ⟨⟨z_t4 117 rfl rfl, z_t1 2 rfl rfl, ⟨by decide, by decide, by decide +kernel⟩, by decide⟩, ⟨fun h => absurd h (by decide), fun _ => z_t4 115 rfl rfl, fun _ => z_t4 116 rfl rfl, fun h => absurd h (by decide)⟩⟩
set_option maxRecDepth 100000 in
theorem z_cal_21 : z_cal 21 := ⟨⟨z_t4 113 rfl rfl, z_t1 2 rfl rfl, ⟨by decide, by decide, by decide +kernel⟩, by decide⟩, ⟨fun h => absurd h (by decide), fun _ => z_t4 111 rfl rfl, fun _ => z_t4 112 rfl rfl, fun h => absurd h (by decide)⟩⟩
set_option maxRecDepth 100000 in
theorem z_cal_22 : z_cal 22 := ⟨⟨z_t5 2 rfl rfl, z_t1 2 rfl rfl, ⟨by decide, by decide, by decide +kernel⟩, by decide⟩, ⟨fun h => absurd h (by decide), fun _ => z_t5 0 rfl rfl, fun _ => z_t5 1 rfl rfl, fun h => absurd h (by decide)⟩⟩
set_option maxRecDepth 100000 in
theorem z_cal_23 : z_cal 23 := ⟨⟨z_t4 89 rfl rfl, z_t1 2 rfl rfl, ⟨by decide, by decide, by decide +kernel⟩, by decide⟩, ⟨fun h => absurd h (by decide), fun _ => z_t4 87 rfl rfl, fun _ => z_t4 88 rfl rfl, fun h => absurd h (by decide)⟩⟩
set_option maxRecDepth 100000 in
theorem z_cal_24 : z_cal 24 := ⟨⟨z_t4 106 rfl rfl, z_t1 2 rfl rfl, ⟨by decide, by decide, by decide +kernel⟩, by decide⟩, ⟨fun h => absurd h (by decide), fun _ => z_t4 105 rfl rfl, fun _ => z_sp 29 rfl, fun h => absurd h (by decide)⟩⟩
set_option maxRecDepth 100000 in
theorem z_cal_25 : z_cal 25 := ⟨⟨z_t4 93 rfl rfl, z_t1 2 rfl rfl, ⟨by decide, by decide, by decide +kernel⟩, by decide⟩, ⟨fun h => absurd h (by decide), fun _ => z_t4 92 rfl rfl, fun _ => z_sp 27 rfl, fun h => absurd h (by decide)⟩⟩
set_option maxRecDepth 100000 in
theorem z_cal_26 : z_cal 26 := ⟨⟨z_t4 189 rfl rfl, z_t1 2 rfl rfl, ⟨by decide, by decide, by decide +kernel⟩, by decide⟩, ⟨fun _ => z_t4 188 rfl rfl, fun h => absurd (by decide) h, fun h => absurd h (by decide), fun h => absurd h (by decide)⟩⟩
set_option maxRecDepth 100000 in
theorem z_cal_27 : z_cal 27 := ⟨⟨z_t4 109 rfl rfl, z_t1 2 rfl rfl, ⟨by decide, by decide, by decide +kernel⟩, by decide⟩, ⟨fun _ => z_t4 108 rfl rfl, fun h => absurd (by decide) h, fun h => absurd h (by decide), fun h => absurd h (by decide)⟩⟩
set_option maxRecDepth 100000 in
theorem z_cal_28 : z_cal 28 := ⟨⟨z_t4 186 rfl rfl, z_t1 2 rfl rfl, ⟨by decide, by decide, by decide +kernel⟩, by decide⟩, ⟨fun h => absurd h (by decide), fun _ => z_t4 184 rfl rfl, fun _ => z_t4 185 rfl rfl, fun h => absurd h (by decide)⟩⟩
set_option maxRecDepth 100000 in
theorem z_cal_29 : z_cal 29 := ⟨⟨z_t4 102 rfl rfl, z_t1 2 rfl rfl, ⟨by decide, by decide, by decide +kernel⟩, by decide⟩, ⟨fun h => absurd h (by decide), fun _ => z_t4 100 rfl rfl, fun _ => z_t4 101 rfl rfl, fun h => absurd h (by decide)⟩⟩
set_option maxRecDepth 100000 in
theorem z_cal_30 : z_cal 30 := ⟨⟨z_t4 125 rfl rfl, z_t1 2 rfl rfl, ⟨by decide, by decide, by decide +kernel⟩, by decide⟩, ⟨fun h => absurd h (by decide), fun _ => z_t4 123 rfl rfl, fun _ => z_t4 124 rfl rfl, fun h => absurd h (by decide)⟩⟩
set_option maxRecDepth 100000 in
theorem z_cal_31 : z_cal 31 := ⟨⟨z_t4 197 rfl rfl, z_t1 2 rfl rfl, ⟨by decide, by decide, by decide +kernel⟩, by decide⟩, ⟨fun h => absurd h (by decide), fun _ => z_t4 195 rfl rfl, fun _ => z_t4 196 rfl rfl, fun h => absurd h (by decide)⟩⟩
set_option maxRecDepth 100000 in
theorem z_cal_32 : z_cal 32 := ⟨⟨z_t2 3 rfl rfl, z_t1 11 rfl rfl, ⟨by decide, by decide, by decide +kernel⟩, by decide⟩, ⟨fun h => absurd h (by decide), fun _ => z_t2 2 rfl rfl, fun h => absurd h (by decide), fun _ => rfl⟩⟩
set_option maxRecDepth 100000 in
theorem z_cal_33 : z_cal 33 := ⟨⟨z_t4 81 rfl rfl, z_t1 11 rfl rfl, ⟨by decide, by decide, by decide +kernel⟩, by decide⟩, ⟨fun h => absurd h (by decide), fun _ => z_t4 80 rfl rfl, fun _ => z_sp 26 rfl, fun h => absurd h (by decide)⟩⟩
set_option maxRecDepth 100000 in
theorem z_cal_34 : z_cal 34 := ⟨⟨z_t4 77 rfl rfl, z_t1 11 rfl rfl, ⟨by decide, by decide, by decide +kernel⟩, by decide⟩, ⟨fun h => absurd h (by decide), fun _ => z_t4 75 rfl rfl, fun _ => z_t4 76 rfl rfl, fun h => absurd h (by decide)⟩⟩
set_option maxRecDepth 100000 in
theorem z_cal_35 : z_cal 35 := ⟨⟨z_t4 98 rfl rfl, z_t1 11 rfl rfl, ⟨by decide, by decide, by decide +kernel⟩, by decide⟩, ⟨fun h => absurd h (by decide), fun _ => z_t4 97 rfl rfl, fun _ => z_sp 28 rfl, fun h => absurd h (by decide)⟩⟩
set_option maxRecDepth 100000 in
theorem z_cal_36 : z_cal 36 := ⟨⟨z_t4 120 rfl rfl, z_t1 11 rfl rfl, ⟨by decide, by decide, by decide +kernel⟩, by decide⟩, ⟨fun _ => z_t4 119 rfl rfl, fun h => absurd (by decide) h, fun h => absurd h (by decide), fun h => absurd h (by decide)⟩⟩
set_option maxRecDepth 100000 in
theorem z_cal_37 : z_cal 37 := ⟨⟨z_t4 182 rfl rfl, z_t1 11 rfl rfl, ⟨by decide, by decide, by decide +kernel⟩, by decide⟩, ⟨fun h => absurd h (by decide), fun _ => z_t4 181 rfl rfl, fun _ => z_sp 30 rfl, fun h => absurd h (by decide)⟩⟩
set_option maxRecDepth 100000 in
theorem z_cal_38 : z_cal 38 := ⟨⟨z_t2 147 rfl rfl, z_t1 11 rfl rfl, ⟨by decide, by decide, by decide +kernel⟩, by decide⟩, ⟨fun h => absurd h (by decide), fun _ => z_t2 145 rfl rfl, fun _ => z_t2 146 rfl rfl, fun h => absurd h (by decide)⟩⟩
set_option maxRecDepth 100000 in
theorem z_cal_39 : z_cal 39 := ⟨⟨z_t5 26 rfl rfl, z_t1 11 rfl rfl, ⟨by decide, by decide, by decide +kernel⟩, by decide⟩, ⟨fun h => absurd h (by decide), fun _ => z_t5 24 rfl rfl, fun _ => z_t5 25 rfl rfl, fun h => absurd h (by decide)⟩⟩
set_option maxRecDepth 100000 in
theorem z_cal_40 : z_cal 40 := ⟨⟨z_t5 209 rfl rfl, z_t1 11 rfl rfl, ⟨by decide, by decide, by decide +kernel⟩, by decide⟩, ⟨fun h => absurd h (by decide), fun _ => z_t5 207 rfl rfl, fun _ => z_t5 208 rfl rfl, fun h => absurd h (by decide)⟩⟩
set_option maxRecDepth 100000 in
theorem z_cal_41 : z_cal 41 := ⟨⟨z_t2 143 rfl rfl, z_t1 11 rfl rfl, ⟨by decide, by decide, by decide +kernel⟩, by decide⟩, ⟨fun h => absurd h (by decide), fun _ => z_t2 141 rfl rfl, fun _ => z_t2 142 rfl rfl, fun h => absurd h (by decide)⟩⟩
set_option maxRecDepth 100000 in
theorem z_cal_42 : z_cal 42 := ⟨⟨z_t3 34 rfl rfl, z_t1 11 rfl rfl, ⟨by decide, by decide, by decide +kernel⟩, by decide⟩, ⟨fun h => absurd h (by decide), fun _ => z_t3 32 rfl rfl, fun _ => z_t3 33 rfl rfl, fun h => absurd h (by decide)⟩⟩
set_option maxRecDepth 100000 in
theorem z_cal_43 : z_cal 43 := ⟨⟨z_t2 175 rfl rfl, z_t1 11 rfl rfl, ⟨by decide, by decide, by decide +kernel⟩, by decide⟩, ⟨fun h => absurd h (by decide), fun _ => z_t2 173 rfl rfl, fun _ => z_t2 174 rfl rfl, fun h => absurd h (by decide)⟩⟩
set_option maxRecDepth 100000 in
theorem z_cal_44 : z_cal 44 := ⟨⟨z_t2 164 rfl rfl, z_t1 11 rfl rfl, ⟨by decide, by decide, by decide +kernel⟩, by decide⟩, ⟨fun h => absurd h (by decide), fun _ => z_t2 162 rfl rfl, fun _ => z_t2 163 rfl rfl, fun h => absurd h (by decide)⟩⟩
set_option maxRecDepth 100000 in
theorem z_cal_45 : z_cal 45 := ⟨⟨z_t2 171 rfl rfl, z_t1 11 rfl rfl, ⟨by decide, by decide, by decide +kernel⟩, by decide⟩, ⟨fun h => absurd h (by decide), fun _ => z_t2 169 rfl rfl, fun _ => z_t2 170 rfl rfl, fun h => absurd h (by decide)⟩⟩
set_option maxRecDepth 100000 in
theorem z_cal_46 : z_cal 46 := ⟨⟨z_t2 219 rfl rfl, z_t1 11 rfl rfl, ⟨by decide, by decide, by decide +kernel⟩, by decide⟩, ⟨fun h => absurd h (by decide), fun _ => z_t2 217 rfl rfl, fun _ => z_t2 218 rfl rfl, fun h => absurd h (by decide)⟩⟩
set_option maxRecDepth 100000 in
theorem z_cal_47 : z_cal 47 := ⟨⟨z_t3 79 rfl rfl, z_t1 11 rfl rfl, ⟨by decide, by decide, by decide +kernel⟩, by decide⟩, ⟨fun h => absurd h (by decide), fun _ => z_t3 77 rfl rfl, fun _ => z_t3 78 rfl rfl, fun h => absurd h (by decide)⟩⟩
set_option maxRecDepth 100000 in
theorem z_cal_48 : z_cal 48 := ⟨⟨z_t1 67 rfl rfl, z_t1 3 rfl rfl, ⟨by decide, by decide, by decide +kernel⟩, by decide⟩, ⟨fun h => absurd h (by decide), fun _ => z_t1 66 rfl rfl, fun h => absurd h (by decide), fun _ => rfl⟩⟩
set_option maxRecDepth 100000 in
theorem z_cal_49 : z_cal 49 := ⟨⟨z_t2 41 rfl rfl, z_t1 3 rfl rfl, ⟨by decide, by decide, by decide +kernel⟩, by decide⟩, ⟨fun h => absurd h (by decide), fun _ => z_t2 39 rfl rfl, fun _ => z_t2 40 rfl rfl, fun h => absurd h (by decide)⟩⟩
set_option maxRecDepth 100000 in
theorem z_cal_50 : z_cal 50 := ⟨⟨z_t2 45 rfl rfl, z_t1 3 rfl rfl, ⟨by decide, by decide, by decide +kernel⟩, by decide⟩, ⟨fun h => absurd h (by decide), fun _ => z_t2 44 rfl rfl, fun _ => z_sp 0 rfl, fun h => absurd h (by decide)⟩⟩
set_option maxRecDepth 100000 in
theorem z_cal_51 : z_cal 51 := ⟨⟨z_t2 54 rfl rfl, z_t1 3 rfl rfl, ⟨by decide, by decide, by decide +kernel⟩, by decide⟩, ⟨fun _ => z_t2 53 rfl rfl, fun h => absurd (by decide) h, fun h => absurd h (by decide), fun h => absurd h (by decide)⟩⟩
set_option maxRecDepth 100000 in
theorem z_cal_52 : z_cal 52 := ⟨⟨z_t2 182 rfl rfl, z_t1 3 rfl rfl, ⟨by decide, by decide, by decide +kernel⟩, by decide⟩, ⟨fun h => absurd h (by decide), fun _ => z_t2 180 rfl rfl, fun _ => z_t2 181 rfl rfl, fun h => absurd h (by decide)⟩⟩
set_option maxRecDepth 100000 in
theorem z_cal_53 : z_cal 53 := ⟨⟨z_t2 160 rfl rfl, z_t1 3 rfl rfl, ⟨by decide, by decide, by decide +kernel⟩, by decide⟩, ⟨fun h => absurd h (by decide), fun _ => z_t2 158 rfl rfl, fun _ => z_t2 159 rfl rfl, fun h => absurd h (by decide)⟩⟩
set_option maxRecDepth 100000 in
theorem z_cal_54 : z_cal 54 := ⟨⟨z_t5 93 rfl rfl, z_t1 3 rfl rfl, ⟨by decide, by decide, by decide +kernel⟩, by decide⟩, ⟨fun h => absurd h (by decide), fun _ => z_t5 91 rfl rfl, fun _ => z_t5 92 rfl rfl, fun h => absurd h (by decide)⟩⟩
set_option maxRecDepth 100000 in
theorem z_cal_55 : z_cal 55 := ⟨⟨z_t5 99 rfl rfl, z_t1 3 rfl rfl, ⟨by decide, by decide, by decide +kernel⟩, by decide⟩, ⟨fun h => absurd h (by decide), fun _ => z_t5 97 rfl rfl, fun _ => z_t5 98 rfl rfl, fun h => absurd h (by decide)⟩⟩
set_option maxRecDepth 100000 in
theorem z_cal_56 : z_cal 56 := ⟨⟨z_t3 13 rfl rfl, z_t1 3 rfl rfl, ⟨by decide, by decide, by decide +kernel⟩, by decide⟩, ⟨fun _ => z_t3 12 rfl rfl, fun h => absurd (by decide) h, fun h => absurd h (by decide), fun h => absurd h (by decide)⟩⟩
set_option maxRecDepth 100000 in
theorem z_cal_57 : z_cal 57 := ⟨⟨z_t3 10 rfl rfl, z_t1 3 rfl rfl, ⟨by decide, by decide, by decide +kernel⟩, by decide⟩, ⟨fun _ => z_t3 9 rfl rfl, fun h => absurd (by decide) h, fun h => absurd h (by decide), fun h => absurd h (by decide)⟩⟩
set_option maxRecDepth 100000 in
theorem z_cal_58 : z_cal 58 := ⟨⟨z_t3 21 rfl rfl, z_t1 3 rfl rfl, ⟨by decide, by decide, by decide +kernel⟩, by decide⟩, ⟨fun _ => z_t3 20 rfl rfl, fun h => absurd (by decide) h, fun h => absurd h (by decide), fun h => absurd h (by decide)⟩⟩
set_option maxRecDepth 100000 in
theorem z_cal_59 : z_cal 59 := ⟨⟨z_t5 103 rfl rfl, z_t1 3 rfl rfl, ⟨by decide, by decide, by decide +kernel⟩, by decide⟩, ⟨fun _ => z_t5 102 rfl rfl, fun h => absurd (by decide) h, fun h => absurd h (by decide), fun h => absurd h (by decide)⟩⟩
set_option maxRecDepth 100000 in
theorem z_cal_60 : z_cal 60 := ⟨⟨z_t6 2 rfl rfl, z_t1 3 rfl rfl, ⟨by decide, by decide, by decide +kernel⟩, by decide⟩, ⟨fun h => absurd h (by decide), fun _ => z_t6 0 rfl rfl, fun _ => z_t6 1 rfl rfl, fun h => absurd h (by decide)⟩⟩
set_option maxRecDepth 100000 in
theorem z_cal_61 : z_cal 61 := ⟨⟨z_t1 141 rfl rfl, z_t1 7 rfl rfl, ⟨by decide, by decide, by decide +kernel⟩, by decide⟩, ⟨fun h => absurd h (by decide), fun _ => z_t1 140 rfl rfl, fun h => absurd h (by decide), fun _ => rfl⟩⟩
set_option maxRecDepth 100000 in
theorem z_cal_62 : z_cal 62 := ⟨⟨z_t3 208 rfl rfl, z_t1 7 rfl rfl, ⟨by decide, by decide, by decide +kernel⟩, by decide⟩, ⟨fun h => absurd h (by decide), fun _ => z_t3 206 rfl rfl, fun _ => z_t3 207 rfl rfl, fun h => absurd h (by decide)⟩⟩
set_option maxRecDepth 100000 in
theorem z_cal_63 : z_cal 63 := ⟨⟨z_t3 212 rfl rfl, z_t1 7 rfl rfl, ⟨by decide, by decide, by decide +kernel⟩, by decide⟩, ⟨fun h => absurd h (by decide), fun _ => z_t3 210 rfl rfl, fun _ => z_t3 211 rfl rfl, fun h => absurd h (by decide)⟩⟩
set_option maxRecDepth 100000 in
theorem z_cal_64 : z_cal 64 := ⟨⟨z_t3 131 rfl rfl, z_t1 7 rfl rfl, ⟨by decide, by decide, by decide +kernel⟩, by decide⟩, ⟨fun h => absurd h (by decide), fun _ => z_t3 129 rfl rfl, fun _ => z_t3 130 rfl rfl, fun h => absurd h (by decide)⟩⟩
set_option maxRecDepth 100000 in
theorem z_cal_65 : z_cal 65 := ⟨⟨z_t2 125 rfl rfl, z_t1 7 rfl rfl, ⟨by decide, by decide, by decide +kernel⟩, by decide⟩, ⟨fun h => absurd h (by decide), fun _ => z_t2 123 rfl rfl, fun _ => z_t2 124 rfl rfl, fun h => absurd h (by decide)⟩⟩
set_option maxRecDepth 100000 in
theorem z_cal_66 : z_cal 66 := ⟨⟨z_t3 54 rfl rfl, z_t1 7 rfl rfl, ⟨by decide, by decide, by decide +kernel⟩, by decide⟩, ⟨fun h => absurd h (by decide), fun _ => z_t3 52 rfl rfl, fun _ => z_t3 53 rfl rfl, fun h => absurd h (by decide)⟩⟩
set_option maxRecDepth 100000 in
theorem z_cal_67 : z_cal 67 := ⟨⟨z_t5 134 rfl rfl, z_t1 7 rfl rfl, ⟨by decide, by decide, by decide +kernel⟩, by decide⟩, ⟨fun h => absurd h (by decide), fun _ => z_t5 132 rfl rfl, fun _ => z_t5 133 rfl rfl, fun h => absurd h (by decide)⟩⟩
set_option maxRecDepth 100000 in
theorem z_cal_68 : z_cal 68 := ⟨⟨z_t3 83 rfl rfl, z_t1 7 rfl rfl, ⟨by decide, by decide, by decide +kernel⟩, by decide⟩, ⟨fun h => absurd h (by decide), fun _ => z_t3 81 rfl rfl, fun _ => z_t3 82 rfl rfl, fun h => absurd h (by decide)⟩⟩
set_option maxRecDepth 100000 in
theorem z_cal_69 : z_cal 69 := ⟨⟨z_t4 231 rfl rfl, z_t1 7 rfl rfl, ⟨by decide, by decide, by decide +kernel⟩, by decide⟩, ⟨fun h => absurd h (by decide), fun _ => z_t4 229 rfl rfl, fun _ => z_t4 230 rfl rfl, fun h => absurd h (by decide)⟩⟩
set_option maxRecDepth 100000 in
theorem z_cal_70 : z_cal 70 := ⟨⟨z_t5 126 rfl rfl, z_t1 7 rfl rfl, ⟨by decide, by decide, by decide +kernel⟩, by decide⟩, ⟨fun h => absurd h (by decide), fun _ => z_t5 124 rfl rfl, fun _ => z_t5 125 rfl rfl, fun h => absurd h (by decide)⟩⟩
set_option maxRecDepth 100000 in
theorem z_cal_71 : z_cal 71 := ⟨⟨z_t5 80 rfl rfl, z_t1 7 rfl rfl, ⟨by decide, by decide, by decide +kernel⟩, by decide⟩, ⟨fun h => absurd h (by decide), fun _ => z_t5 79 rfl rfl, fun _ => z_sp 33 rfl, fun h => absurd h (by decide)⟩⟩
set_option maxRecDepth 100000 in
theorem z_cal_72 : z_cal 72 := ⟨⟨z_t5 76 rfl rfl, z_t1 7 rfl rfl, ⟨by decide, by decide, by decide +kernel⟩, by decide⟩, ⟨fun h => absurd h (by decide), fun _ => z_t5 74 rfl rfl, fun _ => z_t5 75 rfl rfl, fun h => absurd h (by decide)⟩⟩
set_option maxRecDepth 100000 in
theorem z_cal_73 : z_cal 73 := ⟨⟨z_t5 109 rfl rfl, z_t1 7 rfl rfl, ⟨by decide, by decide, by decide +kernel⟩, by decide⟩, ⟨fun h => absurd h (by decide), fun _ => z_t5 107 rfl rfl, fun _ => z_t5 108 rfl rfl, fun h => absurd h (by decide)⟩⟩
set_option maxRecDepth 100000 in
theorem z_cal_74 : z_cal 74 := ⟨⟨z_t5 113 rfl rfl, z_t1 7 rfl rfl, ⟨by decide, by decide, by decide +kernel⟩, by decide⟩, ⟨fun h => absurd h (by decide), fun _ => z_t5 111 rfl rfl, fun _ => z_t5 112 rfl rfl, fun h => absurd h (by decide)⟩⟩
set_option maxRecDepth 100000 in
theorem z_cal_75 : z_cal 75 := ⟨⟨z_t6 14 rfl rfl, z_t1 7 rfl rfl, ⟨by decide, by decide, by decide +kernel⟩, by decide⟩, ⟨fun h => absurd h (by decide), fun _ => z_t6 12 rfl rfl, fun _ => z_t6 13 rfl rfl, fun h => absurd h (by decide)⟩⟩
set_option maxRecDepth 100000 in
theorem z_cal_76 : z_cal 76 := ⟨⟨z_t3 70 rfl rfl, z_t1 7 rfl rfl, ⟨by decide, by decide, by decide +kernel⟩, by decide⟩, ⟨fun h => absurd h (by decide), fun _ => z_t3 68 rfl rfl, fun _ => z_t3 69 rfl rfl, fun h => absurd h (by decide)⟩⟩
set_option maxRecDepth 100000 in
theorem z_cal_77 : z_cal 77 := ⟨⟨z_t3 74 rfl rfl, z_t1 7 rfl rfl, ⟨by decide, by decide, by decide +kernel⟩, by decide⟩, ⟨fun h => absurd h (by decide), fun _ => z_t3 73 rfl rfl, fun _ => z_sp 13 rfl, fun h => absurd h (by decide)⟩⟩
set_option maxRecDepth 100000 in
theorem z_cal_78 : z_cal 78 := ⟨⟨z_t1 160 rfl rfl, z_t1 8 rfl rfl, ⟨by decide, by decide, by decide +kernel⟩, by decide⟩, ⟨fun h => absurd h (by decide), fun _ => z_t1 159 rfl rfl, fun h => absurd h (by decide), fun _ => rfl⟩⟩
set_option maxRecDepth 100000 in
theorem z_cal_79 : z_cal 79 := ⟨⟨z_t3 43 rfl rfl, z_t1 8 rfl rfl, ⟨by decide, by decide, by decide +kernel⟩, by decide⟩, ⟨fun h => absurd h (by decide), fun _ => z_t3 41 rfl rfl, fun _ => z_t3 42 rfl rfl, fun h => absurd h (by decide)⟩⟩
set_option maxRecDepth 100000 in
theorem z_cal_80 : z_cal 80 := ⟨⟨z_t3 118 rfl rfl, z_t1 8 rfl rfl, ⟨by decide, by decide, by decide +kernel⟩, by decide⟩, ⟨fun h => absurd h (by decide), fun _ => z_t3 116 rfl rfl, fun _ => z_t3 117 rfl rfl, fun h => absurd h (by decide)⟩⟩
set_option maxRecDepth 100000 in
theorem z_cal_81 : z_cal 81 := ⟨⟨z_t3 87 rfl rfl, z_t1 8 rfl rfl, ⟨by decide, by decide, by decide +kernel⟩, by decide⟩, ⟨fun h => absurd h (by decide), fun _ => z_t3 85 rfl rfl, fun _ => z_t3 86 rfl rfl, fun h => absurd h (by decide)⟩⟩
set_option maxRecDepth 100000 in
theorem z_cal_82 : z_cal 82 := ⟨⟨z_t5 213 rfl rfl, z_t1 8 rfl rfl, ⟨by decide, by decide, by decide +kernel⟩, by decide⟩, ⟨fun h => absurd h (by decide), fun _ => z_t5 211 rfl rfl, fun _ => z_t5 212 rfl rfl, fun h => absurd h (by decide)⟩⟩
set_option maxRecDepth 100000 in
theorem z_cal_83 : z_cal 83 := ⟨⟨z_t5 224 rfl rfl, z_t1 8 rfl rfl, ⟨by decide, by decide, by decide +kernel⟩, by decide⟩, ⟨fun h => absurd h (by decide), fun _ => z_t5 222 rfl rfl, fun _ => z_t5 223 rfl rfl, fun h => absurd h (by decide)⟩⟩
set_option maxRecDepth 100000 in
theorem z_cal_84 : z_cal 84 := ⟨⟨z_t5 228 rfl rfl, z_t1 8 rfl rfl, ⟨by decide, by decide, by decide +kernel⟩, by decide⟩, ⟨fun h => absurd h (by decide), fun _ => z_t5 227 rfl rfl, fun _ => z_sp 36 rfl, fun h => absurd h (by decide)⟩⟩
set_option maxRecDepth 100000 in
theorem z_cal_85 : z_cal 85 := ⟨⟨z_t1 215 rfl rfl, z_t1 10 rfl rfl, ⟨by decide, by decide, by decide +kernel⟩, by decide⟩, ⟨fun h => absurd h (by decide), fun _ => z_t1 214 rfl rfl, fun h => absurd h (by decide), fun _ => rfl⟩⟩
set_option maxRecDepth 100000 in
theorem z_cal_86 : z_cal 86 := ⟨⟨z_t4 218 rfl rfl, z_t1 10 rfl rfl, ⟨by decide, by decide, by decide +kernel⟩, by decide⟩, ⟨fun h => absurd h (by decide), fun _ => z_t4 216 rfl rfl, fun _ => z_t4 217 rfl rfl, fun h => absurd h (by decide)⟩⟩
set_option maxRecDepth 100000 in
theorem z_cal_87 : z_cal 87 := ⟨⟨z_t3 221 rfl rfl, z_t1 10 rfl rfl, ⟨by decide, by decide, by decide +kernel⟩, by decide⟩, ⟨fun h => absurd h (by decide), fun _ => z_t3 219 rfl rfl, fun _ => z_t3 220 rfl rfl, fun h => absurd h (by decide)⟩⟩
set_option maxRecDepth 100000 in
theorem z_cal_88 : z_cal 88 := ⟨⟨z_t6 53 rfl rfl, z_t1 10 rfl rfl, ⟨by decide, by decide, by decide +kernel⟩, by decide⟩, ⟨fun h => absurd h (by decide), fun _ => z_t6 51 rfl rfl, fun _ => z_t6 52 rfl rfl, fun h => absurd h (by decide)⟩⟩
set_option maxRecDepth 100000 in
theorem z_cal_89 : z_cal 89 := ⟨⟨z_t6 25 rfl rfl, z_t1 10 rfl rfl, ⟨by decide, by decide, by decide +kernel⟩, by decide⟩, ⟨fun h => absurd h (by decide), fun _ => z_t6 23 rfl rfl, fun _ => z_t6 24 rfl rfl, fun h => absurd h (by decide)⟩⟩
set_option maxRecDepth 100000 in
theorem z_cal_90 : z_cal 90 := ⟨⟨z_t1 84 rfl rfl, z_t1 4 rfl rfl, ⟨by decide, by decide, by decide +kernel⟩, by decide⟩, ⟨fun h => absurd h (by decide), fun _ => z_t1 83 rfl rfl, fun h => absurd h (by decide), fun _ => rfl⟩⟩
set_option maxRecDepth 100000 in
theorem z_cal_91 : z_cal 91 := ⟨⟨z_t3 148 rfl rfl, z_t1 4 rfl rfl, ⟨by decide, by decide, by decide +kernel⟩, by decide⟩, ⟨fun h => absurd h (by decide), fun _ => z_t3 146 rfl rfl, fun _ => z_t3 147 rfl rfl, fun h => absurd h (by decide)⟩⟩
set_option maxRecDepth 100000 in
theorem z_cal_92 : z_cal 92 := ⟨⟨z_t5 130 rfl rfl, z_t1 4 rfl rfl, ⟨by decide, by decide, by decide +kernel⟩, by decide⟩, ⟨fun h => absurd h (by decide), fun _ => z_t5 128 rfl rfl, fun _ => z_t5 129 rfl rfl, fun h => absurd h (by decide)⟩⟩
set_option maxRecDepth 100000 in
theorem z_cal_93 : z_cal 93 := ⟨⟨z_t3 204 rfl rfl, z_t1 4 rfl rfl, ⟨by decide, by decide, by decide +kernel⟩, by decide⟩, ⟨fun h => absurd h (by decide), fun _ => z_t3 202 rfl rfl, fun _ => z_t3 203 rfl rfl, fun h => absurd h (by decide)⟩⟩
set_option maxRecDepth 100000 in
theorem z_cal_94 : z_cal 94 := ⟨⟨z_t3 152 rfl rfl, z_t1 4 rfl rfl, ⟨by decide, by decide, by decide +kernel⟩, by decide⟩, ⟨fun h => absurd h (by decide), fun _ => z_t3 151 rfl rfl, fun _ => z_sp 17 rfl, fun h => absurd h (by decide)⟩⟩
set_option maxRecDepth 100000 in
theorem z_cal_95 : z_cal 95 := ⟨⟨z_t3 182 rfl rfl, z_t1 4 rfl rfl, ⟨by decide, by decide, by decide +kernel⟩, by decide⟩, ⟨fun h => absurd h (by decide), fun _ => z_t3 181 rfl rfl, fun _ => z_sp 22 rfl, fun h => absurd h (by decide)⟩⟩
set_option maxRecDepth 100000 in
theorem z_cal_96 : z_cal 96 := ⟨⟨z_t3 178 rfl rfl, z_t1 4 rfl rfl, ⟨by decide, by decide, by decide +kernel⟩, by decide⟩, ⟨fun h => absurd h (by decide), fun _ => z_t3 177 rfl rfl, fun _ => z_sp 21 rfl, fun h => absurd h (by decide)⟩⟩
set_option maxRecDepth 100000 in
theorem z_cal_97 : z_cal 97 := ⟨⟨z_t3 187 rfl rfl, z_t1 4 rfl rfl, ⟨by decide, by decide, by decide +kernel⟩, by decide⟩, ⟨fun h => absurd h (by decide), fun _ => z_t3 186 rfl rfl, fun _ => z_sp 23 rfl, fun h => absurd h (by decide)⟩⟩
set_option maxRecDepth 100000 in
theorem z_cal_98 : z_cal 98 := ⟨⟨z_t3 195 rfl rfl, z_t1 4 rfl rfl, ⟨by decide, by decide, by decide +kernel⟩, by decide⟩, ⟨fun h => absurd h (by decide), fun _ => z_t3 194 rfl rfl, fun _ => z_sp 24 rfl, fun h => absurd h (by decide)⟩⟩
set_option maxRecDepth 100000 in
theorem z_cal_99 : z_cal 99 := ⟨⟨z_t3 191 rfl rfl, z_t1 4 rfl rfl, ⟨by decide, by decide, by decide +kernel⟩, by decide⟩, ⟨fun _ => z_t3 190 rfl rfl, fun h => absurd (by decide) h, fun h => absurd h (by decide), fun h => absurd h (by decide)⟩⟩
set_option maxRecDepth 100000 in
theorem z_cal_100 : z_cal 100 := ⟨⟨z_t3 199 rfl rfl, z_t1 4 rfl rfl, ⟨by decide, by decide, by decide +kernel⟩, by decide⟩, ⟨fun _ => z_t3 198 rfl rfl, fun h => absurd (by decide) h, fun h => absurd h (by decide), fun h => absurd h (by decide)⟩⟩
set_option maxRecDepth 100000 in
theorem z_cal_101 : z_cal 101 := ⟨⟨z_t3 171 rfl rfl, z_t1 4 rfl rfl, ⟨by decide, by decide, by decide +kernel⟩, by decide⟩, ⟨fun _ => z_t3 170 rfl rfl, fun h => absurd (by decide) h, fun h => absurd h (by decide), fun h => absurd h (by decide)⟩⟩
set_option maxRecDepth 100000 in
theorem z_cal_102 : z_cal 102 := ⟨⟨z_t3 156 rfl rfl, z_t1 4 rfl rfl, ⟨by decide, by decide, by decide +kernel⟩, by decide⟩, ⟨fun h => absurd h (by decide), fun _ => z_t3 155 rfl rfl, fun _ => z_sp 18 rfl, fun h => absurd h (by decide)⟩⟩
set_option maxRecDepth 100000 in
theorem z_cal_103 : z_cal 103 := ⟨⟨z_t3 160 rfl rfl, z_t1 4 rfl rfl, ⟨by decide, by decide, by decide +kernel⟩, by decide⟩, ⟨fun h => absurd h (by decide), fun _ => z_t3 159 rfl rfl, fun _ => z_sp 19 rfl, fun h => absurd h (by decide)⟩⟩
set_option maxRecDepth 100000 in
theorem z_cal_104 : z_cal 104 := ⟨⟨z_t3 163 rfl rfl, z_t1 4 rfl rfl, ⟨by decide, by decide, by decide +kernel⟩, by decide⟩, ⟨fun _ => z_t3 162 rfl rfl, fun h => absurd (by decide) h, fun h => absurd h (by decide), fun h => absurd h (by decide)⟩⟩
set_option maxRecDepth 100000 in
theorem z_cal_105 : z_cal 105 := ⟨⟨z_t3 168 rfl rfl, z_t1 4 rfl rfl, ⟨by decide, by decide, by decide +kernel⟩, by decide⟩, ⟨fun h => absurd h (by decide), fun _ => z_t3 167 rfl rfl, fun _ => z_sp 20 rfl, fun h => absurd h (by decide)⟩⟩
set_option maxRecDepth 100000 in
theorem z_cal_106 : z_cal 106 := ⟨⟨z_t1 106 rfl rfl, z_t1 5 rfl rfl, ⟨by decide, by decide, by decide +kernel⟩, by decide⟩, ⟨fun h => absurd h (by decide), fun _ => z_t1 105 rfl rfl, fun h => absurd h (by decide), fun _ => rfl⟩⟩
set_option maxRecDepth 100000 in
theorem z_cal_107 : z_cal 107 := ⟨⟨z_t4 214 rfl rfl, z_t1 5 rfl rfl, ⟨by decide, by decide, by decide +kernel⟩, by decide⟩, ⟨fun h => absurd h (by decide), fun _ => z_t4 212 rfl rfl, fun _ => z_t4 213 rfl rfl, fun h => absurd h (by decide)⟩⟩
set_option maxRecDepth 100000 in
theorem z_cal_108 : z_cal 108 := ⟨⟨z_t2 151 rfl rfl, z_t1 5 rfl rfl, ⟨by decide, by decide, by decide +kernel⟩, by decide⟩, ⟨fun h => absurd h (by decide), fun _ => z_t2 149 rfl rfl, fun _ => z_t2 150 rfl rfl, fun h => absurd h (by decide)⟩⟩
set_option maxRecDepth 100000 in
theorem z_cal_109 : z_cal 109 := ⟨⟨z_t2 139 rfl rfl, z_t1 5 rfl rfl, ⟨by decide, by decide, by decide +kernel⟩, by decide⟩, ⟨fun h => absurd h (by decide), fun _ => z_t2 137 rfl rfl, fun _ => z_t2 138 rfl rfl, fun h => absurd h (by decide)⟩⟩
set_option maxRecDepth 100000 in
theorem z_cal_110 : z_cal 110 := ⟨⟨z_t3 6 rfl rfl, z_t1 5 rfl rfl, ⟨by decide, by decide, by decide +kernel⟩, by decide⟩, ⟨fun h => absurd h (by decide), fun _ => z_t3 4 rfl rfl, fun _ => z_t3 5 rfl rfl, fun h => absurd h (by decide)⟩⟩
set_option maxRecDepth 100000 in
theorem z_cal_111 : z_cal 111 := ⟨⟨z_t2 155 rfl rfl, z_t1 5 rfl rfl, ⟨by decide, by decide, by decide +kernel⟩, by decide⟩, ⟨fun h => absurd h (by decide), fun _ => z_t2 154 rfl rfl, fun _ => z_sp 1 rfl, fun h => absurd h (by decide)⟩⟩
set_option maxRecDepth 100000 in
theorem z_cal_112 : z_cal 112 := ⟨⟨z_t2 210 rfl rfl, z_t1 5 rfl rfl, ⟨by decide, by decide, by decide +kernel⟩, by decide⟩, ⟨fun h => absurd h (by decide), fun _ => z_t2 209 rfl rfl, fun _ => z_sp 5 rfl, fun h => absurd h (by decide)⟩⟩
set_option maxRecDepth 100000 in
theorem z_cal_113 : z_cal 113 := ⟨⟨z_t2 205 rfl rfl, z_t1 5 rfl rfl, ⟨by decide, by decide, by decide +kernel⟩, by decide⟩, ⟨fun h => absurd h (by decide), fun _ => z_t2 204 rfl rfl, fun _ => z_sp 4 rfl, fun h => absurd h (by decide)⟩⟩
set_option maxRecDepth 100000 in
theorem z_cal_114 : z_cal 114 := ⟨⟨z_t2 200 rfl rfl, z_t1 5 rfl rfl, ⟨by decide, by decide, by decide +kernel⟩, by decide⟩, ⟨fun _ => z_t2 199 rfl rfl, fun h => absurd (by decide) h, fun h => absurd h (by decide), fun h => absurd h (by decide)⟩⟩
set_option maxRecDepth 100000 in
theorem z_cal_115 : z_cal 115 := ⟨⟨z_t2 189 rfl rfl, z_t1 5 rfl rfl, ⟨by decide, by decide, by decide +kernel⟩, by decide⟩, ⟨fun h => absurd h (by decide), fun _ => z_t2 188 rfl rfl, fun _ => z_sp 2 rfl, fun h => absurd h (by decide)⟩⟩
set_option maxRecDepth 100000 in
theorem z_cal_116 : z_cal 116 := ⟨⟨z_t2 197 rfl rfl, z_t1 5 rfl rfl, ⟨by decide, by decide, by decide +kernel⟩, by decide⟩, ⟨fun h => absurd h (by decide), fun _ => z_t2 196 rfl rfl, fun _ => z_sp 3 rfl, fun h => absurd h (by decide)⟩⟩
set_option maxRecDepth 100000 in
theorem z_cal_117 : z_cal 117 := ⟨⟨z_t2 215 rfl rfl, z_t1 5 rfl rfl, ⟨by decide, by decide, by decide +kernel⟩, by decide⟩, ⟨fun h => absurd h (by decide), fun _ => z_t2 214 rfl rfl, fun _ => z_sp 6 rfl, fun h => absurd h (by decide)⟩⟩
set_option maxRecDepth 100000 in
theorem z_cal_118 : z_cal 118 := ⟨⟨z_t2 233 rfl rfl, z_t1 5 rfl rfl, ⟨by decide, by decide, by decide +kernel⟩, by decide⟩, ⟨fun h => absurd h (by decide), fun _ => z_t2 232 rfl rfl, fun _ => z_sp 8 rfl, fun h => absurd h (by decide)⟩⟩
set_option maxRecDepth 100000 in
theorem z_cal_119 : z_cal 119 := ⟨⟨z_t2 223 rfl rfl, z_t1 5 rfl rfl, ⟨by decide, by decide, by decide +kernel⟩, by decide⟩, ⟨fun h => absurd h (by decide), fun _ => z_t2 222 rfl rfl, fun _ => z_sp 7 rfl, fun h => absurd h (by decide)⟩⟩
set_option maxRecDepth 100000 in
theorem z_cal_120 : z_cal 120 := ⟨⟨z_t5 166 rfl rfl, z_t1 5 rfl rfl, ⟨by decide, by decide, by decide +kernel⟩, by decide⟩, ⟨fun h => absurd h (by decide), fun _ => z_t5 164 rfl rfl, fun _ => z_t5 165 rfl rfl, fun h => absurd h (by decide)⟩⟩
set_option maxRecDepth 100000 in
theorem z_cal_121 : z_cal 121 := ⟨⟨z_t5 173 rfl rfl, z_t1 5 rfl rfl, ⟨by decide, by decide, by decide +kernel⟩, by decide⟩, ⟨fun h => absurd h (by decide), fun _ => z_t5 172 rfl rfl, fun _ => z_sp 35 rfl, fun h => absurd h (by decide)⟩⟩
set_option maxRecDepth 100000 in
theorem z_cal_122 : z_cal 122 := ⟨⟨z_t1 135 rfl rfl, z_t1 6 rfl rfl, ⟨by decide, by decide, by decide +kernel⟩, by decide⟩, ⟨fun h => absurd h (by decide), fun _ => z_t1 134 rfl rfl, fun h => absurd h (by decide), fun _ => rfl⟩⟩
set_option maxRecDepth 100000 in
theorem z_cal_123 : z_cal 123 := ⟨⟨z_t3 39 rfl rfl, z_t1 6 rfl rfl, ⟨by decide, by decide, by decide +kernel⟩, by decide⟩, ⟨fun h => absurd h (by decide), fun _ => z_t3 37 rfl rfl, fun _ => z_t3 38 rfl rfl, fun h => absurd h (by decide)⟩⟩
set_option maxRecDepth 100000 in
theorem z_cal_124 : z_cal 124 := ⟨⟨z_t3 114 rfl rfl, z_t1 6 rfl rfl, ⟨by decide, by decide, by decide +kernel⟩, by decide⟩, ⟨fun h => absurd h (by decide), fun _ => z_t3 112 rfl rfl, fun _ => z_t3 113 rfl rfl, fun h => absurd h (by decide)⟩⟩
set_option maxRecDepth 100000 in
theorem z_cal_125 : z_cal 125 := ⟨⟨z_t3 127 rfl rfl, z_t1 6 rfl rfl, ⟨by decide, by decide, by decide +kernel⟩, by decide⟩, ⟨fun h => absurd h (by decide), fun _ => z_t3 125 rfl rfl, fun _ => z_t3 126 rfl rfl, fun h => absurd h (by decide)⟩⟩
set_option maxRecDepth 100000 in
theorem z_cal_126 : z_cal 126 := ⟨⟨z_t3 48 rfl rfl, z_t1 6 rfl rfl, ⟨by decide, by decide, by decide +kernel⟩, by decide⟩, ⟨fun h => absurd h (by decide), fun _ => z_t3 47 rfl rfl, fun _ => z_sp 10 rfl, fun h => absurd h (by decide)⟩⟩
set_option maxRecDepth 100000 in
theorem z_cal_127 : z_cal 127 := ⟨⟨z_t3 92 rfl rfl, z_t1 6 rfl rfl, ⟨by decide, by decide, by decide +kernel⟩, by decide⟩, ⟨fun h => absurd h (by decide), fun _ => z_t3 91 rfl rfl, fun _ => z_sp 14 rfl, fun h => absurd h (by decide)⟩⟩
set_option maxRecDepth 100000 in
theorem z_cal_128 : z_cal 128 := ⟨⟨z_t3 59 rfl rfl, z_t1 6 rfl rfl, ⟨by decide, by decide, by decide +kernel⟩, by decide⟩, ⟨fun h => absurd h (by decide), fun _ => z_t3 58 rfl rfl, fun _ => z_sp 11 rfl, fun h => absurd h (by decide)⟩⟩
set_option maxRecDepth 100000 in
theorem z_cal_129 : z_cal 129 := ⟨⟨z_t3 64 rfl rfl, z_t1 6 rfl rfl, ⟨by decide, by decide, by decide +kernel⟩, by decide⟩, ⟨fun h => absurd h (by decide), fun _ => z_t3 63 rfl rfl, fun _ => z_sp 12 rfl, fun h => absurd h (by decide)⟩⟩
set_option maxRecDepth 100000 in
theorem z_cal_130 : z_cal 130 := ⟨⟨z_t1 195 rfl rfl, z_t1 9 rfl rfl, ⟨by decide, by decide, by decide +kernel⟩, by decide⟩, ⟨fun h => absurd h (by decide), fun _ => z_t1 194 rfl rfl, fun h => absurd h (by decide), fun _ => rfl⟩⟩
set_option maxRecDepth 100000 in
theorem z_cal_131 : z_cal 131 := ⟨⟨z_t6 38 rfl rfl, z_t1 9 rfl rfl, ⟨by decide, by decide, by decide +kernel⟩, by decide⟩, ⟨fun h => absurd h (by decide), fun _ => z_t6 36 rfl rfl, fun _ => z_t6 37 rfl rfl, fun h => absurd h (by decide)⟩⟩
set_option maxRecDepth 100000 in
theorem z_cal_132 : z_cal 132 := ⟨⟨z_t6 44 rfl rfl, z_t1 9 rfl rfl, ⟨by decide, by decide, by decide +kernel⟩, by decide⟩, ⟨fun h => absurd h (by decide), fun _ => z_t6 43 rfl rfl, fun _ => z_sp 37 rfl, fun h => absurd h (by decide)⟩⟩
set_option maxRecDepth 100000 in
theorem z_cal_133 : z_cal 133 := ⟨⟨z_t6 48 rfl rfl, z_t1 9 rfl rfl, ⟨by decide, by decide, by decide +kernel⟩, by decide⟩, ⟨fun h => absurd h (by decide), fun _ => z_t6 47 rfl rfl, fun _ => z_sp 38 rfl, fun h => absurd h (by decide)⟩⟩
set_option maxRecDepth 100000 in
theorem z_cal_134 : z_cal 134 := ⟨⟨z_t6 57 rfl rfl, z_t1 9 rfl rfl, ⟨by decide, by decide, by decide +kernel⟩, by decide⟩, ⟨fun h => absurd h (by decide), fun _ => z_t6 56 rfl rfl, fun _ => z_sp 39 rfl, fun h => absurd h (by decide)⟩⟩
set_option maxRecDepth 100000 in
theorem z_cal_135 : z_cal 135 := ⟨⟨z_t1 30 rfl rfl, z_t1 1 rfl rfl, ⟨by decide, by decide, by decide +kernel⟩, by decide⟩, ⟨fun h => absurd h (by decide), fun _ => z_t1 29 rfl rfl, fun h => absurd h (by decide), fun _ => rfl⟩⟩
set_option maxRecDepth 100000 in
theorem z_cal_136 : z_cal 136 := ⟨⟨z_t2 98 rfl rfl, z_t1 1 rfl rfl, ⟨by decide, by decide, by decide +kernel⟩, by decide⟩, ⟨fun h => absurd h (by decide), fun _ => z_t2 96 rfl rfl, fun _ => z_t2 97 rfl rfl, fun h => absurd h (by decide)⟩⟩
set_option maxRecDepth 100000 in
theorem z_cal_137 : z_cal 137 := ⟨⟨z_t4 1 rfl rfl, z_t1 1 rfl rfl, ⟨by decide, by decide, by decide +kernel⟩, by decide⟩, ⟨fun h => absurd h (by decide), fun _ => z_t3 239 rfl rfl, fun _ => z_t4 0 rfl rfl, fun h => absurd h (by decide)⟩⟩
set_option maxRecDepth 100000 in
theorem z_cal_138 : z_cal 138 := ⟨⟨z_t4 227 rfl rfl, z_t1 1 rfl rfl, ⟨by decide, by decide, by decide +kernel⟩, by decide⟩, ⟨fun h => absurd h (by decide), fun _ => z_t4 225 rfl rfl, fun _ => z_t4 226 rfl rfl, fun h => absurd h (by decide)⟩⟩
set_option maxRecDepth 100000 in
theorem z_cal_139 : z_cal 139 := ⟨⟨z_t2 117 rfl rfl, z_t1 1 rfl rfl, ⟨by decide, by decide, by decide +kernel⟩, by decide⟩, ⟨fun h => absurd h (by decide), fun _ => z_t2 115 rfl rfl, fun _ => z_t2 116 rfl rfl, fun h => absurd h (by decide)⟩⟩
set_option maxRecDepth 100000 in
theorem z_cal_140 : z_cal 140 := ⟨⟨z_t5 9 rfl rfl, z_t1 1 rfl rfl, ⟨by decide, by decide, by decide +kernel⟩, by decide⟩, ⟨fun h => absurd h (by decide), fun _ => z_t5 7 rfl rfl, fun _ => z_t5 8 rfl rfl, fun h => absurd h (by decide)⟩⟩
set_option maxRecDepth 100000 in
theorem z_cal_141 : z_cal 141 := ⟨⟨z_t5 18 rfl rfl, z_t1 1 rfl rfl, ⟨by decide, by decide, by decide +kernel⟩, by decide⟩, ⟨fun h => absurd h (by decide), fun _ => z_t5 16 rfl rfl, fun _ => z_t5 17 rfl rfl, fun h => absurd h (by decide)⟩⟩
set_option maxRecDepth 100000 in
theorem z_cal_142 : z_cal 142 := ⟨⟨z_t2 121 rfl rfl, z_t1 1 rfl rfl, ⟨by decide, by decide, by decide +kernel⟩, by decide⟩, ⟨fun h => absurd h (by decide), fun _ => z_t2 119 rfl rfl, fun _ => z_t2 120 rfl rfl, fun h => absurd h (by decide)⟩⟩
set_option maxRecDepth 100000 in
theorem z_cal_143 : z_cal 143 := ⟨⟨z_t5 52 rfl rfl, z_t1 1 rfl rfl, ⟨by decide, by decide, by decide +kernel⟩, by decide⟩, ⟨fun h => absurd h (by decide), fun _ => z_t5 50 rfl rfl, fun _ => z_t5 51 rfl rfl, fun h => absurd h (by decide)⟩⟩
set_option maxRecDepth 100000 in
theorem z_cal_144 : z_cal 144 := ⟨⟨z_t5 89 rfl rfl, z_t1 1 rfl rfl, ⟨by decide, by decide, by decide +kernel⟩, by decide⟩, ⟨fun h => absurd h (by decide), fun _ => z_t5 87 rfl rfl, fun _ => z_t5 88 rfl rfl, fun h => absurd h (by decide)⟩⟩
set_option maxRecDepth 100000 in
theorem z_cal_145 : z_cal 145 := ⟨⟨z_t5 121 rfl rfl, z_t1 1 rfl rfl, ⟨by decide, by decide, by decide +kernel⟩, by decide⟩, ⟨fun h => absurd h (by decide), fun _ => z_t5 119 rfl rfl, fun _ => z_t5 120 rfl rfl, fun h => absurd h (by decide)⟩⟩
set_option maxRecDepth 100000 in
theorem z_cal_146 : z_cal 146 := ⟨⟨z_t5 141 rfl rfl, z_t1 1 rfl rfl, ⟨by decide, by decide, by decide +kernel⟩, by decide⟩, ⟨fun h => absurd h (by decide), fun _ => z_t5 139 rfl rfl, fun _ => z_t5 140 rfl rfl, fun h => absurd h (by decide)⟩⟩
set_option maxRecDepth 100000 in
theorem z_cal_147 : z_cal 147 := ⟨⟨z_t5 153 rfl rfl, z_t1 1 rfl rfl, ⟨by decide, by decide, by decide +kernel⟩, by decide⟩, ⟨fun h => absurd h (by decide), fun _ => z_t5 151 rfl rfl, fun _ => z_t5 152 rfl rfl, fun h => absurd h (by decide)⟩⟩
set_option maxRecDepth 100000 in
theorem z_cal_148 : z_cal 148 := ⟨⟨z_t5 160 rfl rfl, z_t1 1 rfl rfl, ⟨by decide, by decide, by decide +kernel⟩, by decide⟩, ⟨fun h => absurd h (by decide), fun _ => z_t5 158 rfl rfl, fun _ => z_t5 159 rfl rfl, fun h => absurd h (by decide)⟩⟩
set_option maxRecDepth 100000 in
theorem z_cal_149 : z_cal 149 := ⟨⟨z_t5 181 rfl rfl, z_t1 1 rfl rfl, ⟨by decide, by decide, by decide +kernel⟩, by decide⟩, ⟨fun h => absurd h (by decide), fun _ => z_t5 179 rfl rfl, fun _ => z_t5 180 rfl rfl, fun h => absurd h (by decide)⟩⟩
set_option maxRecDepth 100000 in
theorem z_cal_150 : z_cal 150 := ⟨⟨z_t2 135 rfl rfl, z_t1 1 rfl rfl, ⟨by decide, by decide, by decide +kernel⟩, by decide⟩, ⟨fun h => absurd h (by decide), fun _ => z_t2 133 rfl rfl, fun _ => z_t2 134 rfl rfl, fun h => absurd h (by decide)⟩⟩
set_option maxRecDepth 100000 in
theorem z_cal_151 : z_cal 151 := ⟨⟨z_t3 18 rfl rfl, z_t1 1 rfl rfl, ⟨by decide, by decide, by decide +kernel⟩, by decide⟩, ⟨fun h => absurd h (by decide), fun _ => z_t3 16 rfl rfl, fun _ => z_t3 17 rfl rfl, fun h => absurd h (by decide)⟩⟩
set_option maxRecDepth 100000 in
theorem z_cal_152 : z_cal 152 := ⟨⟨z_t3 30 rfl rfl, z_t1 1 rfl rfl, ⟨by decide, by decide, by decide +kernel⟩, by decide⟩, ⟨fun h => absurd h (by decide), fun _ => z_t3 28 rfl rfl, fun _ => z_t3 29 rfl rfl, fun h => absurd h (by decide)⟩⟩
set_option maxRecDepth 100000 in
theorem z_cal_153 : z_cal 153 := ⟨⟨z_t5 189 rfl rfl, z_t1 1 rfl rfl, ⟨by decide, by decide, by decide +kernel⟩, by decide⟩, ⟨fun h => absurd h (by decide), fun _ => z_t5 187 rfl rfl, fun _ => z_t5 188 rfl rfl, fun h => absurd h (by decide)⟩⟩
set_option maxRecDepth 100000 in
theorem z_cal_154 : z_cal 154 := ⟨⟨z_t5 197 rfl rfl, z_t1 1 rfl rfl, ⟨by decide, by decide, by decide +kernel⟩, by decide⟩, ⟨fun h => absurd h (by decide), fun _ => z_t5 195 rfl rfl, fun _ => z_t5 196 rfl rfl, fun h => absurd h (by decide)⟩⟩
set_option maxRecDepth 100000 in
theorem z_cal_155 : z_cal 155 := ⟨⟨z_t3 96 rfl rfl, z_t1 1 rfl rfl, ⟨by decide, by decide, by decide +kernel⟩, by decide⟩, ⟨fun h => absurd h (by decide), fun _ => z_t3 94 rfl rfl, fun _ => z_t3 95 rfl rfl, fun h => absurd h (by decide)⟩⟩
set_option maxRecDepth 100000 in
theorem z_cal_156 : z_cal 156 := ⟨⟨z_t5 205 rfl rfl, z_t1 1 rfl rfl, ⟨by decide, by decide, by decide +kernel⟩, by decide⟩, ⟨fun h => absurd h (by decide), fun _ => z_t5 203 rfl rfl, fun _ => z_t5 204 rfl rfl, fun h => absurd h (by decide)⟩⟩
set_option maxRecDepth 100000 in
theorem z_cal_157 : z_cal 157 := ⟨⟨z_t3 105 rfl rfl, z_t1 1 rfl rfl, ⟨by decide, by decide, by decide +kernel⟩, by decide⟩, ⟨fun h => absurd h (by decide), fun _ => z_t3 103 rfl rfl, fun _ => z_t3 104 rfl rfl, fun h => absurd h (by decide)⟩⟩
set_option maxRecDepth 100000 in
theorem z_cal_158 : z_cal 158 := ⟨⟨z_t3 110 rfl rfl, z_t1 1 rfl rfl, ⟨by decide, by decide, by decide +kernel⟩, by decide⟩, ⟨fun h => absurd h (by decide), fun _ => z_t3 108 rfl rfl, fun _ => z_t3 109 rfl rfl, fun h => absurd h (by decide)⟩⟩
set_option maxRecDepth 100000 in
theorem z_cal_159 : z_cal 159 := ⟨⟨z_t3 123 rfl rfl, z_t1 1 rfl rfl, ⟨by decide, by decide, by decide +kernel⟩, by decide⟩, ⟨fun h => absurd h (by decide), fun _ => z_t3 121 rfl rfl, fun _ => z_t3 122 rfl rfl, fun h => absurd h (by decide)⟩⟩
set_option maxRecDepth 100000 in
theorem z_cal_160 : z_cal 160 := ⟨⟨z_t5 220 rfl rfl, z_t1 1 rfl rfl, ⟨by decide, by decide, by decide +kernel⟩, by decide⟩, ⟨fun h => absurd h (by decide), fun _ => z_t5 218 rfl rfl, fun _ => z_t5 219 rfl rfl, fun h => absurd h (by decide)⟩⟩
set_option maxRecDepth 100000 in
theorem z_cal_161 : z_cal 161 := ⟨⟨z_t5 237 rfl rfl, z_t1 1 rfl rfl, ⟨by decide, by decide, by decide +kernel⟩, by decide⟩, ⟨fun h => absurd h (by decide), fun _ => z_t5 235 rfl rfl, fun _ => z_t5 236 rfl rfl, fun h => absurd h (by decide)⟩⟩
set_option maxRecDepth 100000 in
theorem z_cal_162 : z_cal 162 := ⟨⟨z_t6 10 rfl rfl, z_t1 1 rfl rfl, ⟨by decide, by decide, by decide +kernel⟩, by decide⟩, ⟨fun h => absurd h (by decide), fun _ => z_t6 8 rfl rfl, fun _ => z_t6 9 rfl rfl, fun h => absurd h (by decide)⟩⟩
set_option maxRecDepth 100000 in
theorem z_cal_163 : z_cal 163 := ⟨⟨z_t6 21 rfl rfl, z_t1 1 rfl rfl, ⟨by decide, by decide, by decide +kernel⟩, by decide⟩, ⟨fun h => absurd h (by decide), fun _ => z_t6 19 rfl rfl, fun _ => z_t6 20 rfl rfl, fun h => absurd h (by decide)⟩⟩
set_option maxRecDepth 100000 in
theorem z_cal_164 : z_cal 164 := ⟨⟨z_t3 140 rfl rfl, z_t1 1 rfl rfl, ⟨by decide, by decide, by decide +kernel⟩, by decide⟩, ⟨fun h => absurd h (by decide), fun _ => z_t3 138 rfl rfl, fun _ => z_t3 139 rfl rfl, fun h => absurd h (by decide)⟩⟩
set_option maxRecDepth 100000 in
theorem z_cal_165 : z_cal 165 := ⟨⟨z_t6 33 rfl rfl, z_t1 1 rfl rfl, ⟨by decide, by decide, by decide +kernel⟩, by decide⟩, ⟨fun h => absurd h (by decide), fun _ => z_t6 31 rfl rfl, fun _ => z_t6 32 rfl rfl, fun h => absurd h (by decide)⟩⟩
set_option maxRecDepth 100000 in
theorem z_cal_166 : z_cal 166 := ⟨⟨z_t3 144 rfl rfl, z_t1 1 rfl rfl, ⟨by decide, by decide, by decide +kernel⟩, by decide⟩, ⟨fun h => absurd h (by decide), fun _ => z_t3 142 rfl rfl, fun _ => z_t3 143 rfl rfl, fun h => absurd h (by decide)⟩⟩
set_option maxRecDepth 100000 in
theorem z_cal_167 : z_cal 167 := ⟨⟨z_t3 217 rfl rfl, z_t1 1 rfl rfl, ⟨by decide, by decide, by decide +kernel⟩, by decide⟩, ⟨fun h => absurd h (by decide), fun _ => z_t3 215 rfl rfl, fun _ => z_t3 216 rfl rfl, fun h => absurd h (by decide)⟩⟩
set_option maxRecDepth 100000 in
theorem z_cal_168 : z_cal 168 := ⟨⟨z_t3 229 rfl rfl, z_t1 1 rfl rfl, ⟨by decide, by decide, by decide +kernel⟩, by decide⟩, ⟨fun h => absurd h (by decide), fun _ => z_t3 227 rfl rfl, fun _ => z_t3 228 rfl rfl, fun h => absurd h (by decide)⟩⟩
set_option maxRecDepth 100000 in
theorem z_cal_169 : z_cal 169 := ⟨⟨z_t3 233 rfl rfl, z_t1 1 rfl rfl, ⟨by decide, by decide, by decide +kernel⟩, by decide⟩, ⟨fun h => absurd h (by decide), fun _ => z_t3 231 rfl rfl, fun _ => z_t3 232 rfl rfl, fun h => absurd h (by decide)⟩⟩
set_option maxRecDepth 100000 in
theorem z_cal_170 : z_cal 170 := ⟨⟨z_t5 22 rfl rfl, z_t1 1 rfl rfl, ⟨by decide, by decide, by decide +kernel⟩, by decide⟩, ⟨fun h => absurd h (by decide), fun _ => z_t5 21 rfl rfl, fun _ => z_sp 31 rfl, fun h => absurd h (by decide)⟩⟩
set_option maxRecDepth 100000 in
theorem z_cal_171 : z_cal 171 := ⟨⟨z_t5 56 rfl rfl, z_t1 1 rfl rfl, ⟨by decide, by decide, by decide +kernel⟩, by decide⟩, ⟨fun h => absurd h (by decide), fun _ => z_t5 55 rfl rfl, fun _ => z_sp 32 rfl, fun h => absurd h (by decide)⟩⟩
set_option maxRecDepth 100000 in
theorem z_cal_172 : z_cal 172 := ⟨⟨z_t5 145 rfl rfl, z_t1 1 rfl rfl, ⟨by decide, by decide, by decide +kernel⟩, by decide⟩, ⟨fun h => absurd h (by decide), fun _ => z_t5 144 rfl rfl, fun _ => z_sp 34 rfl, fun h => absurd h (by decide)⟩⟩
set_option maxRecDepth 100000 in
theorem z_cal_173 : z_cal 173 := ⟨⟨z_t3 135 rfl rfl, z_t1 1 rfl rfl, ⟨by decide, by decide, by decide +kernel⟩, by decide⟩, ⟨fun h => absurd h (by decide), fun _ => z_t3 134 rfl rfl, fun _ => z_sp 16 rfl, fun h => absurd h (by decide)⟩⟩
set_option maxRecDepth 100000 in
theorem z_cal_174 : z_cal 174 := ⟨⟨z_t3 2 rfl rfl, z_t1 1 rfl rfl, ⟨by decide, by decide, by decide +kernel⟩, by decide⟩, ⟨fun h => absurd h (by decide), fun _ => z_t3 1 rfl rfl, fun _ => z_sp 9 rfl, fun h => absurd h (by decide)⟩⟩
set_option maxRecDepth 100000 in
theorem z_cal_175 : z_cal 175 := ⟨⟨z_t3 100 rfl rfl, z_t1 1 rfl rfl, ⟨by decide, by decide, by decide +kernel⟩, by decide⟩, ⟨fun h => absurd h (by decide), fun _ => z_t3 99 rfl rfl, fun _ => z_sp 15 rfl, fun h => absurd h (by decide)⟩⟩
set_option maxRecDepth 100000 in
theorem z_cal_176 : z_cal 176 := ⟨⟨z_t6 63 rfl rfl, z_t1 13 rfl rfl, ⟨by decide, by decide, by decide +kernel⟩, by decide⟩, ⟨fun h => absurd h (by decide), fun _ => z_t6 62 rfl rfl, fun h => absurd h (by decide), fun _ => rfl⟩⟩
set_option maxRecDepth 100000 in
theorem z_cal_177 : z_cal 177 := ⟨⟨z_t6 72 rfl rfl, z_t1 13 rfl rfl, ⟨by decide, by decide, by decide +kernel⟩, by decide⟩, ⟨fun h => absurd h (by decide), fun _ => z_t6 71 rfl rfl, fun _ => z_sp 40 rfl, fun h => absurd h (by decide)⟩⟩
set_option maxRecDepth 100000 in
theorem z_cal_178 : z_cal 178 := ⟨⟨z_t7 6 rfl rfl, z_t1 13 rfl rfl, ⟨by decide, by decide, by decide +kernel⟩, by decide⟩, ⟨fun h => absurd h (by decide), fun _ => z_t7 4 rfl rfl, fun _ => z_t7 5 rfl rfl, fun h => absurd h (by decide)⟩⟩
set_option maxRecDepth 100000 in
theorem z_cal_179 : z_cal 179 := ⟨⟨z_t7 21 rfl rfl, z_t1 13 rfl rfl, ⟨by decide, by decide, by decide +kernel⟩, by decide⟩, ⟨fun h => absurd h (by decide), fun _ => z_t7 20 rfl rfl, fun _ => z_sp 44 rfl, fun h => absurd h (by decide)⟩⟩
set_option maxRecDepth 100000 in
theorem z_cal_180 : z_cal 180 := ⟨⟨z_t7 17 rfl rfl, z_t1 13 rfl rfl, ⟨by decide, by decide, by decide +kernel⟩, by decide⟩, ⟨fun _ => z_t7 16 rfl rfl, fun h => absurd (by decide) h, fun h => absurd h (by decide), fun h => absurd h (by decide)⟩⟩
set_option maxRecDepth 100000 in
theorem z_cal_181 : z_cal 181 := ⟨⟨z_t7 10 rfl rfl, z_t1 13 rfl rfl, ⟨by decide, by decide, by decide +kernel⟩, by decide⟩, ⟨fun h => absurd h (by decide), fun _ => z_t7 8 rfl rfl, fun _ => z_t7 9 rfl rfl, fun h => absurd h (by decide)⟩⟩
set_option maxRecDepth 100000 in
theorem z_cal_182 : z_cal 182 := ⟨⟨z_t7 33 rfl rfl, z_t1 13 rfl rfl, ⟨by decide, by decide, by decide +kernel⟩, by decide⟩, ⟨fun h => absurd h (by decide), fun _ => z_t7 32 rfl rfl, fun _ => z_sp 47 rfl, fun h => absurd h (by decide)⟩⟩
set_option maxRecDepth 100000 in
theorem z_cal_183 : z_cal 183 := ⟨⟨z_t7 29 rfl rfl, z_t1 13 rfl rfl, ⟨by decide, by decide, by decide +kernel⟩, by decide⟩, ⟨fun h => absurd h (by decide), fun _ => z_t7 28 rfl rfl, fun _ => z_sp 46 rfl, fun h => absurd h (by decide)⟩⟩
set_option maxRecDepth 100000 in
theorem z_cal_184 : z_cal 184 := ⟨⟨z_t7 52 rfl rfl, z_t1 13 rfl rfl, ⟨by decide, by decide, by decide +kernel⟩, by decide⟩, ⟨fun h => absurd h (by decide), fun _ => z_t7 51 rfl rfl, fun _ => z_sp 51 rfl, fun h => absurd h (by decide)⟩⟩
set_option maxRecDepth 100000 in
theorem z_cal_185 : z_cal 185 := ⟨⟨z_t7 59 rfl rfl, z_t1 13 rfl rfl, ⟨by decide, by decide, by decide +kernel⟩, by decide⟩, ⟨fun _ => z_t7 58 rfl rfl, fun h => absurd (by decide) h, fun h => absurd h (by decide), fun h => absurd h (by decide)⟩⟩
set_option maxRecDepth 100000 in
theorem z_cal_186 : z_cal 186 := ⟨⟨z_t7 63 rfl rfl, z_t1 13 rfl rfl, ⟨by decide, by decide, by decide +kernel⟩, by decide⟩, ⟨fun h => absurd h (by decide), fun _ => z_t7 62 rfl rfl, fun _ => z_sp 53 rfl, fun h => absurd h (by decide)⟩⟩
set_option maxRecDepth 100000 in
theorem z_cal_187 : z_cal 187 := ⟨⟨z_t7 56 rfl rfl, z_t1 13 rfl rfl, ⟨by decide, by decide, by decide +kernel⟩, by decide⟩, ⟨fun h => absurd h (by decide), fun _ => z_t7 55 rfl rfl, fun _ => z_sp 52 rfl, fun h => absurd h (by decide)⟩⟩
set_option maxRecDepth 100000 in
theorem z_cal_188 : z_cal 188 := ⟨⟨z_t7 45 rfl rfl, z_t1 13 rfl rfl, ⟨by decide, by decide, by decide +kernel⟩, by decide⟩, ⟨fun h => absurd h (by decide), fun _ => z_t7 44 rfl rfl, fun _ => z_sp 50 rfl, fun h => absurd h (by decide)⟩⟩
set_option maxRecDepth 100000 in
theorem z_cal_189 : z_cal 189 := ⟨⟨z_t7 48 rfl rfl, z_t1 13 rfl rfl, ⟨by decide, by decide, by decide +kernel⟩, by decide⟩, ⟨fun _ => z_t7 47 rfl rfl, fun h => absurd (by decide) h, fun h => absurd h (by decide), fun h => absurd h (by decide)⟩⟩
set_option maxRecDepth 100000 in
theorem z_cal_190 : z_cal 190 := ⟨⟨z_t7 41 rfl rfl, z_t1 13 rfl rfl, ⟨by decide, by decide, by decide +kernel⟩, by decide⟩, ⟨fun h => absurd h (by decide), fun _ => z_t7 40 rfl rfl, fun _ => z_sp 49 rfl, fun h => absurd h (by decide)⟩⟩
set_option maxRecDepth 100000 in
theorem z_cal_191 : z_cal 191 := ⟨⟨z_t7 25 rfl rfl, z_t1 13 rfl rfl, ⟨by decide, by decide, by decide +kernel⟩, by decide⟩, ⟨fun h => absurd h (by decide), fun _ => z_t7 24 rfl rfl, fun _ => z_sp 45 rfl, fun h => absurd h (by decide)⟩⟩
set_option maxRecDepth 100000 in
theorem z_cal_192 : z_cal 192 := ⟨⟨z_t7 37 rfl rfl, z_t1 13 rfl rfl, ⟨by decide, by decide, by decide +kernel⟩, by decide⟩, ⟨fun h => absurd h (by decide), fun _ => z_t7 36 rfl rfl, fun _ => z_sp 48 rfl, fun h => absurd h (by decide)⟩⟩
set_option maxRecDepth 100000 in
theorem z_cal_193 : z_cal 193 := ⟨⟨z_t7 14 rfl rfl, z_t1 13 rfl rfl, ⟨by decide, by decide, by decide +kernel⟩, by decide⟩, ⟨fun h => absurd h (by decide), fun _ => z_t7 12 rfl rfl, fun _ => z_t7 13 rfl rfl, fun h => absurd h (by decide)⟩⟩
set_option maxRecDepth 100000 in
theorem z_cal_194 : z_cal 194 := ⟨⟨z_t6 76 rfl rfl, z_t1 13 rfl rfl, ⟨by decide, by decide, by decide +kernel⟩, by decide⟩, ⟨fun h => absurd h (by decide), fun _ => z_t6 75 rfl rfl, fun _ => z_sp 41 rfl, fun h => absurd h (by decide)⟩⟩
set_option maxRecDepth 100000 in
theorem z_cal_195 : z_cal 195 := ⟨⟨z_t7 79 rfl rfl, z_t1 13 rfl rfl, ⟨by decide, by decide, by decide +kernel⟩, by decide⟩, ⟨fun h => absurd h (by decide), fun _ => z_t7 77 rfl rfl, fun _ => z_t7 78 rfl rfl, fun h => absurd h (by decide)⟩⟩
set_option maxRecDepth 100000 in
theorem z_cal_196 : z_cal 196 := ⟨⟨z_t7 83 rfl rfl, z_t1 13 rfl rfl, ⟨by decide, by decide, by decide +kernel⟩, by decide⟩, ⟨fun h => absurd h (by decide), fun _ => z_t7 82 rfl rfl, fun _ => z_sp 56 rfl, fun h => absurd h (by decide)⟩⟩
set_option maxRecDepth 100000 in
theorem z_cal_197 : z_cal 197 := ⟨⟨z_t7 87 rfl rfl, z_t1 13 rfl rfl, ⟨by decide, by decide, by decide +kernel⟩, by decide⟩, ⟨fun h => absurd h (by decide), fun _ => z_t7 85 rfl rfl, fun _ => z_t7 86 rfl rfl, fun h => absurd h (by decide)⟩⟩
set_option maxRecDepth 100000 in
theorem z_cal_198 : z_cal 198 := ⟨⟨z_t7 91 rfl rfl, z_t1 13 rfl rfl, ⟨by decide, by decide, by decide +kernel⟩, by decide⟩, ⟨fun h => absurd h (by decide), fun _ => z_t7 89 rfl rfl, fun _ => z_t7 90 rfl rfl, fun h => absurd h (by decide)⟩⟩
set_option maxRecDepth 100000 in
theorem z_cal_199 : z_cal 199 := ⟨⟨z_t7 72 rfl rfl, z_t1 13 rfl rfl, ⟨by decide, by decide, by decide +kernel⟩, by decide⟩, ⟨fun h => absurd h (by decide), fun _ => z_t7 71 rfl rfl, fun _ => z_sp 55 rfl, fun h => absurd h (by decide)⟩⟩
set_option maxRecDepth 100000 in
theorem z_cal_200 : z_cal 200 := ⟨⟨z_t7 68 rfl rfl, z_t1 13 rfl rfl, ⟨by decide, by decide, by decide +kernel⟩, by decide⟩, ⟨fun h => absurd h (by decide), fun _ => z_t7 67 rfl rfl, fun _ => z_sp 54 rfl, fun h => absurd h (by decide)⟩⟩
set_option maxRecDepth 100000 in
theorem z_cal_201 : z_cal 201 := ⟨⟨z_t7 75 rfl rfl, z_t1 13 rfl rfl, ⟨by decide, by decide, by decide +kernel⟩, by decide⟩, ⟨fun _ => z_t7 74 rfl rfl, fun h => absurd (by decide) h, fun h => absurd h (by decide), fun h => absurd h (by decide)⟩⟩
set_option maxRecDepth 100000 in
theorem z_cal_202 : z_cal 202 := ⟨⟨z_t6 80 rfl rfl, z_t1 13 rfl rfl, ⟨by decide, by decide, by decide +kernel⟩, by decide⟩, ⟨fun h => absurd h (by decide), fun _ => z_t6 79 rfl rfl, fun _ => z_sp 42 rfl, fun h => absurd h (by decide)⟩⟩
set_option maxRecDepth 100000 in
theorem z_cal_203 : z_cal 203 := ⟨⟨z_t6 84 rfl rfl, z_t1 13 rfl rfl, ⟨by decide, by decide, by decide +kernel⟩, by decide⟩, ⟨fun h => absurd h (by decide), fun _ => z_t6 83 rfl rfl, fun _ => z_sp 43 rfl, fun h => absurd h (by decide)⟩⟩
set_option maxRecDepth 100000 in
theorem z_cal_204 : z_cal 204 := ⟨⟨z_t6 87 rfl rfl, z_t1 13 rfl rfl, ⟨by decide, by decide, by decide +kernel⟩, by decide⟩, ⟨fun _ => z_t6 86 rfl rfl, fun h => absurd (by decide) h, fun h => absurd h (by decide), fun h => absurd h (by decide)⟩⟩
set_option maxRecDepth 100000 in
theorem z_cal_205 : z_cal 205 := ⟨⟨z_t6 90 rfl rfl, z_t1 13 rfl rfl, ⟨by decide, by decide, by decide +kernel⟩, by decide⟩, ⟨fun _ => z_t6 89 rfl rfl, fun h => absurd (by decide) h, fun h => absurd h (by decide), fun h => absurd h (by decide)⟩⟩
set_option maxRecDepth 100000 in
theorem z_cal_206 : z_cal 206 := ⟨⟨z_t6 93 rfl rfl, z_t1 13 rfl rfl, ⟨by decide, by decide, by decide +kernel⟩, by decide⟩, ⟨fun _ => z_t6 92 rfl rfl, fun h => absurd (by decide) h, fun h => absurd h (by decide), fun h => absurd h (by decide)⟩⟩
set_option maxRecDepth 100000 in
theorem z_cal_207 : z_cal 207 := ⟨⟨z_t6 96 rfl rfl, z_t1 13 rfl rfl, ⟨by decide, by decide, by decide +kernel⟩, by decide⟩, ⟨fun _ => z_t6 95 rfl rfl, fun h => absurd (by decide) h, fun h => absurd h (by decide), fun h => absurd h (by decide)⟩⟩
set_option maxRecDepth 100000 in
theorem z_cal_208 : z_cal 208 := ⟨⟨z_t6 100 rfl rfl, z_t1 13 rfl rfl, ⟨by decide, by decide, by decide +kernel⟩, by decide⟩, ⟨fun _ => z_t6 99 rfl rfl, fun h => absurd (by decide) h, fun h => absurd h (by decide), fun h => absurd h (by decide)⟩⟩
set_option maxRecDepth 100000 in
theorem z_cal_209 : z_cal 209 := ⟨⟨z_t7 107 rfl rfl, z_t1 13 rfl rfl, ⟨by decide, by decide, by decide +kernel⟩, by decide⟩, ⟨fun h => absurd h (by decide), fun _ => z_t7 106 rfl rfl, fun _ => z_sp 59 rfl, fun h => absurd h (by decide)⟩⟩
set_option maxRecDepth 100000 in
theorem z_cal_210 : z_cal 210 := ⟨⟨z_t7 103 rfl rfl, z_t1 13 rfl rfl, ⟨by decide, by decide, by decide +kernel⟩, by decide⟩, ⟨fun h => absurd h (by decide), fun _ => z_t7 102 rfl rfl, fun _ => z_sp 58 rfl, fun h => absurd h (by decide)⟩⟩
set_option maxRecDepth 100000 in
theorem z_cal_211 : z_cal 211 := ⟨⟨z_t7 111 rfl rfl, z_t1 13 rfl rfl, ⟨by decide, by decide, by decide +kernel⟩, by decide⟩, ⟨fun h => absurd h (by decide), fun _ => z_t7 110 rfl rfl, fun _ => z_sp 60 rfl, fun h => absurd h (by decide)⟩⟩
set_option maxRecDepth 100000 in
theorem z_cal_212 : z_cal 212 := ⟨⟨z_t7 99 rfl rfl, z_t1 13 rfl rfl, ⟨by decide, by decide, by decide +kernel⟩, by decide⟩, ⟨fun h => absurd h (by decide), fun _ => z_t7 98 rfl rfl, fun _ => z_sp 57 rfl, fun h => absurd h (by decide)⟩⟩
set_option maxRecDepth 100000 in
theorem z_cal_213 : z_cal 213 := ⟨⟨z_t7 126 rfl rfl, z_t1 13 rfl rfl, ⟨by decide, by decide, by decide +kernel⟩, by decide⟩, ⟨fun _ => z_t7 125 rfl rfl, fun h => absurd (by decide) h, fun h => absurd h (by decide), fun h => absurd h (by decide)⟩⟩
set_option maxRecDepth 100000 in
theorem z_cal_214 : z_cal 214 := ⟨⟨z_t7 122 rfl rfl, z_t1 13 rfl rfl, ⟨by decide, by decide, by decide +kernel⟩, by decide⟩, ⟨fun _ => z_t7 121 rfl rfl, fun h => absurd (by decide) h, fun h => absurd h (by decide), fun h => absurd h (by decide)⟩⟩
set_option maxRecDepth 100000 in
theorem z_cal_215 : z_cal 215 := ⟨⟨z_t7 191 rfl rfl, z_t1 13 rfl rfl, ⟨by decide, by decide, by decide +kernel⟩, by decide⟩, ⟨fun h => absurd h (by decide), fun _ => z_t7 190 rfl rfl, fun _ => z_sp 74 rfl, fun h => absurd h (by decide)⟩⟩
set_option maxRecDepth 100000 in
theorem z_cal_216 : z_cal 216 := ⟨⟨z_t7 136 rfl rfl, z_t1 13 rfl rfl, ⟨by decide, by decide, by decide +kernel⟩, by decide⟩, ⟨fun h => absurd h (by decide), fun _ => z_t7 135 rfl rfl, fun _ => z_sp 64 rfl, fun h => absurd h (by decide)⟩⟩
set_option maxRecDepth 100000 in
theorem z_cal_217 : z_cal 217 := ⟨⟨z_t7 184 rfl rfl, z_t1 13 rfl rfl, ⟨by decide, by decide, by decide +kernel⟩, by decide⟩, ⟨fun h => absurd h (by decide), fun _ => z_t7 183 rfl rfl, fun _ => z_sp 73 rfl, fun h => absurd h (by decide)⟩⟩
set_option maxRecDepth 100000 in
theorem z_cal_218 : z_cal 218 := ⟨⟨z_t8 40 rfl rfl, z_t1 13 rfl rfl, ⟨by decide, by decide, by decide +kernel⟩, by decide⟩, ⟨fun h => absurd h (by decide), fun _ => z_t8 39 rfl rfl, fun _ => z_sp 92 rfl, fun h => absurd h (by decide)⟩⟩
set_option maxRecDepth 100000 in
theorem z_cal_219 : z_cal 219 := ⟨⟨z_t8 36 rfl rfl, z_t1 13 rfl rfl, ⟨by decide, by decide, by decide +kernel⟩, by decide⟩, ⟨fun h => absurd h (by decide), fun _ => z_t8 35 rfl rfl, fun _ => z_sp 91 rfl, fun h => absurd h (by decide)⟩⟩
set_option maxRecDepth 100000 in
theorem z_cal_220 : z_cal 220 := ⟨⟨z_t7 119 rfl rfl, z_t1 13 rfl rfl, ⟨by decide, by decide, by decide +kernel⟩, by decide⟩, ⟨fun h => absurd h (by decide), fun _ => z_t7 118 rfl rfl, fun _ => z_sp 62 rfl, fun h => absurd h (by decide)⟩⟩
set_option maxRecDepth 100000 in
theorem z_cal_221 : z_cal 221 := ⟨⟨z_t7 115 rfl rfl, z_t1 13 rfl rfl, ⟨by decide, by decide, by decide +kernel⟩, by decide⟩, ⟨fun h => absurd h (by decide), fun _ => z_t7 114 rfl rfl, fun _ => z_sp 61 rfl, fun h => absurd h (by decide)⟩⟩
set_option maxRecDepth 100000 in
theorem z_cal_222 : z_cal 222 := ⟨⟨z_t7 130 rfl rfl, z_t1 13 rfl rfl, ⟨by decide, by decide, by decide +kernel⟩, by decide⟩, ⟨fun h => absurd h (by decide), fun _ => z_t7 129 rfl rfl, fun _ => z_sp 63 rfl, fun h => absurd h (by decide)⟩⟩
set_option maxRecDepth 100000 in
theorem z_cal_223 : z_cal 223 := ⟨⟨z_t7 95 rfl rfl, z_t1 13 rfl rfl, ⟨by decide, by decide, by decide +kernel⟩, by decide⟩, ⟨fun h => absurd h (by decide), fun _ => z_t7 93 rfl rfl, fun _ => z_t7 94 rfl rfl, fun h => absurd h (by decide)⟩⟩
set_option maxRecDepth 100000 in
theorem z_cal_224 : z_cal 224 := ⟨⟨z_t7 140 rfl rfl, z_t1 13 rfl rfl, ⟨by decide, by decide, by decide +kernel⟩, by decide⟩, ⟨fun h => absurd h (by decide), fun _ => z_t7 138 rfl rfl, fun _ => z_t7 139 rfl rfl, fun h => absurd h (by decide)⟩⟩
set_option maxRecDepth 100000 in
theorem z_cal_225 : z_cal 225 := ⟨⟨z_t7 164 rfl rfl, z_t1 13 rfl rfl, ⟨by decide, by decide, by decide +kernel⟩, by decide⟩, ⟨fun h => absurd h (by decide), fun _ => z_t7 163 rfl rfl, fun _ => z_sp 69 rfl, fun h => absurd h (by decide)⟩⟩
set_option maxRecDepth 100000 in
theorem z_cal_226 : z_cal 226 := ⟨⟨z_t7 160 rfl rfl, z_t1 13 rfl rfl, ⟨by decide, by decide, by decide +kernel⟩, by decide⟩, ⟨fun h => absurd h (by decide), fun _ => z_t7 159 rfl rfl, fun _ => z_sp 68 rfl, fun h => absurd h (by decide)⟩⟩
set_option maxRecDepth 100000 in
theorem z_cal_227 : z_cal 227 := ⟨⟨z_t7 168 rfl rfl, z_t1 13 rfl rfl, ⟨by decide, by decide, by decide +kernel⟩, by decide⟩, ⟨fun h => absurd h (by decide), fun _ => z_t7 167 rfl rfl, fun _ => z_sp 70 rfl, fun h => absurd h (by decide)⟩⟩
set_option maxRecDepth 100000 in
theorem z_cal_228 : z_cal 228 := ⟨⟨z_t7 156 rfl rfl, z_t1 13 rfl rfl, ⟨by decide, by decide, by decide +kernel⟩, by decide⟩, ⟨fun h => absurd h (by decide), fun _ => z_t7 155 rfl rfl, fun _ => z_sp 67 rfl, fun h => absurd h (by decide)⟩⟩
set_option maxRecDepth 100000 in
theorem z_cal_229 : z_cal 229 := ⟨⟨z_t7 152 rfl rfl, z_t1 13 rfl rfl, ⟨by decide, by decide, by decide +kernel⟩, by decide⟩, ⟨fun h => absurd h (by decide), fun _ => z_t7 151 rfl rfl, fun _ => z_sp 66 rfl, fun h => absurd h (by decide)⟩⟩
set_option maxRecDepth 100000 in
theorem z_cal_230 : z_cal 230 := ⟨⟨z_t7 148 rfl rfl, z_t1 13 rfl rfl, ⟨by decide, by decide, by decide +kernel⟩, by decide⟩, ⟨fun h => absurd h (by decide), fun _ => z_t7 147 rfl rfl, fun _ => z_sp 65 rfl, fun h => absurd h (by decide)⟩⟩
set_option maxRecDepth 100000 in
theorem z_cal_231 : z_cal 231 := ⟨⟨z_t7 144 rfl rfl, z_t1 13 rfl rfl, ⟨by decide, by decide, by decide +kernel⟩, by decide⟩, ⟨fun h => absurd h (by decide), fun _ => z_t7 142 rfl rfl, fun _ => z_t7 143 rfl rfl, fun h => absurd h (by decide)⟩⟩
set_option maxRecDepth 100000 in
theorem z_cal_232 : z_cal 232 := ⟨⟨z_t7 176 rfl rfl, z_t1 13 rfl rfl, ⟨by decide, by decide, by decide +kernel⟩, by decide⟩, ⟨fun h => absurd h (by decide), fun _ => z_t7 175 rfl rfl, fun _ => z_sp 71 rfl, fun h => absurd h (by decide)⟩⟩
set_option maxRecDepth 100000 in
theorem z_cal_233 : z_cal 233 := ⟨⟨z_t7 180 rfl rfl, z_t1 13 rfl rfl, ⟨by decide, by decide, by decide +kernel⟩, by decide⟩, ⟨fun h => absurd h (by decide), fun _ => z_t7 179 rfl rfl, fun _ => z_sp 72 rfl, fun h => absurd h (by decide)⟩⟩
set_option maxRecDepth 100000 in
theorem z_cal_234 : z_cal 234 := ⟨⟨z_t7 172 rfl rfl, z_t1 13 rfl rfl, ⟨by decide, by decide, by decide +kernel⟩, by decide⟩, ⟨fun h => absurd h (by decide), fun _ => z_t7 170 rfl rfl, fun _ => z_t7 171 rfl rfl, fun h => absurd h (by decide)⟩⟩
set_option maxRecDepth 100000 in
theorem z_cal_235 : z_cal 235 := ⟨⟨z_t7 207 rfl rfl, z_t1 13 rfl rfl, ⟨by decide, by decide, by decide +kernel⟩, by decide⟩, ⟨fun h => absurd h (by decide), fun _ => z_t7 206 rfl rfl, fun _ => z_sp 77 rfl, fun h => absurd h (by decide)⟩⟩
set_option maxRecDepth 100000 in
theorem z_cal_236 : z_cal 236 := ⟨⟨z_t7 219 rfl rfl, z_t1 13 rfl rfl, ⟨by decide, by decide, by decide +kernel⟩, by decide⟩, ⟨fun h => absurd h (by decide), fun _ => z_t7 218 rfl rfl, fun _ => z_sp 80 rfl, fun h => absurd h (by decide)⟩⟩
set_option maxRecDepth 100000 in
theorem z_cal_237 : z_cal 237 := ⟨⟨z_t7 215 rfl rfl, z_t1 13 rfl rfl, ⟨by decide, by decide, by decide +kernel⟩, by decide⟩, ⟨fun h => absurd h (by decide), fun _ => z_t7 214 rfl rfl, fun _ => z_sp 79 rfl, fun h => absurd h (by decide)⟩⟩
set_option maxRecDepth 100000 in
theorem z_cal_238 : z_cal 238 := ⟨⟨z_t7 211 rfl rfl, z_t1 13 rfl rfl, ⟨by decide, by decide, by decide +kernel⟩, by decide⟩, ⟨fun h => absurd h (by decide), fun _ => z_t7 210 rfl rfl, fun _ => z_sp 78 rfl, fun h => absurd h (by decide)⟩⟩
set_option maxRecDepth 100000 in
theorem z_cal_239 : z_cal 239 := ⟨⟨z_t7 223 rfl rfl, z_t1 13 rfl rfl, ⟨by decide, by decide, by decide +kernel⟩, by decide⟩, ⟨fun h => absurd h (by decide), fun _ => z_t7 222 rfl rfl, fun _ => z_sp 81 rfl, fun h => absurd h (by decide)⟩⟩
set_option maxRecDepth 100000 in
theorem z_cal_240 : z_cal 240 := ⟨⟨z_t7 227 rfl rfl, z_t1 13 rfl rfl, ⟨by decide, by decide, by decide +kernel⟩, by decide⟩, ⟨fun h => absurd h (by decide), fun _ => z_t7 226 rfl rfl, fun _ => z_sp 82 rfl, fun h => absurd h (by decide)⟩⟩
set_option maxRecDepth 100000 in
theorem z_cal_241 : z_cal 241 := ⟨⟨z_t7 199 rfl rfl, z_t1 13 rfl rfl, ⟨by decide, by decide, by decide +kernel⟩, by decide⟩, ⟨fun h => absurd h (by decide), fun _ => z_t7 198 rfl rfl, fun _ => z_sp 75 rfl, fun h => absurd h (by decide)⟩⟩
set_option maxRecDepth 100000 in
theorem z_cal_242 : z_cal 242 := ⟨⟨z_t7 203 rfl rfl, z_t1 13 rfl rfl, ⟨by decide, by decide, by decide +kernel⟩, by decide⟩, ⟨fun h => absurd h (by decide), fun _ => z_t7 202 rfl rfl, fun _ => z_sp 76 rfl, fun h => absurd h (by decide)⟩⟩
set_option maxRecDepth 100000 in
theorem z_cal_243 : z_cal 243 := ⟨⟨z_t7 195 rfl rfl, z_t1 13 rfl rfl, ⟨by decide, by decide, by decide +kernel⟩, by decide⟩, ⟨fun h => absurd h (by decide), fun _ => z_t7 193 rfl rfl, fun _ => z_t7 194 rfl rfl, fun h => absurd h (by decide)⟩⟩
set_option maxRecDepth 100000 in
theorem z_cal_244 : z_cal 244 := ⟨⟨z_t7 235 rfl rfl, z_t1 13 rfl rfl, ⟨by decide, by decide, by decide +kernel⟩, by decide⟩, ⟨fun h => absurd h (by decide), fun _ => z_t7 234 rfl rfl, fun _ => z_sp 83 rfl, fun h => absurd h (by decide)⟩⟩
set_option maxRecDepth 100000 in
theorem z_cal_245 : z_cal 245 := ⟨⟨z_t7 231 rfl rfl, z_t1 13 rfl rfl, ⟨by decide, by decide, by decide +kernel⟩, by decide⟩, ⟨fun h => absurd h (by decide), fun _ => z_t7 229 rfl rfl, fun _ => z_t7 230 rfl rfl, fun h => absurd h (by decide)⟩⟩
set_option maxRecDepth 100000 in
theorem z_cal_246 : z_cal 246 := ⟨⟨z_t8 4 rfl rfl, z_t1 13 rfl rfl, ⟨by decide, by decide, by decide +kernel⟩, by decide⟩, ⟨fun h => absurd h (by decide), fun _ => z_t8 3 rfl rfl, fun _ => z_sp 84 rfl, fun h => absurd h (by decide)⟩⟩
set_option maxRecDepth 100000 in
theorem z_cal_247 : z_cal 247 := ⟨⟨z_t8 8 rfl rfl, z_t1 13 rfl rfl, ⟨by decide, by decide, by decide +kernel⟩, by decide⟩, ⟨fun h => absurd h (by decide), fun _ => z_t8 7 rfl rfl, fun _ => z_sp 85 rfl, fun h => absurd h (by decide)⟩⟩
set_option maxRecDepth 100000 in
theorem z_cal_248 : z_cal 248 := ⟨⟨z_t8 12 rfl rfl, z_t1 13 rfl rfl, ⟨by decide, by decide, by decide +kernel⟩, by decide⟩, ⟨fun h => absurd h (by decide), fun _ => z_t8 11 rfl rfl, fun _ => z_sp 86 rfl, fun h => absurd h (by decide)⟩⟩
set_option maxRecDepth 100000 in
theorem z_cal_249 : z_cal 249 := ⟨⟨z_t7 239 rfl rfl, z_t1 13 rfl rfl, ⟨by decide, by decide, by decide +kernel⟩, by decide⟩, ⟨fun h => absurd h (by decide), fun _ => z_t7 237 rfl rfl, fun _ => z_t7 238 rfl rfl, fun h => absurd h (by decide)⟩⟩
set_option maxRecDepth 100000 in
theorem z_cal_250 : z_cal 250 := ⟨⟨z_t8 24 rfl rfl, z_t1 13 rfl rfl, ⟨by decide, by decide, by decide +kernel⟩, by decide⟩, ⟨fun h => absurd h (by decide), fun _ => z_t8 23 rfl rfl, fun _ => z_sp 88 rfl, fun h => absurd h (by decide)⟩⟩
set_option maxRecDepth 100000 in
theorem z_cal_251 : z_cal 251 := ⟨⟨z_t8 28 rfl rfl, z_t1 13 rfl rfl, ⟨by decide, by decide, by decide +kernel⟩, by decide⟩, ⟨fun h => absurd h (by decide), fun _ => z_t8 27 rfl rfl, fun _ => z_sp 89 rfl, fun h => absurd h (by decide)⟩⟩
set_option maxRecDepth 100000 in
theorem z_cal_252 : z_cal 252 := ⟨⟨z_t8 32 rfl rfl, z_t1 13 rfl rfl, ⟨by decide, by decide, by decide +kernel⟩, by decide⟩, ⟨fun h => absurd h (by decide), fun _ => z_t8 31 rfl rfl, fun _ => z_sp 90 rfl, fun h => absurd h (by decide)⟩⟩
set_option maxRecDepth 100000 in
theorem z_cal_253 : z_cal 253 := ⟨⟨z_t8 44 rfl rfl, z_t1 13 rfl rfl, ⟨by decide, by decide, by decide +kernel⟩, by decide⟩, ⟨fun h => absurd h (by decide), fun _ => z_t8 43 rfl rfl, fun _ => z_sp 93 rfl, fun h => absurd h (by decide)⟩⟩
set_option maxRecDepth 100000 in
theorem z_cal_254 : z_cal 254 := ⟨⟨z_t8 20 rfl rfl, z_t1 13 rfl rfl, ⟨by decide, by decide, by decide +kernel⟩, by decide⟩, ⟨fun h => absurd h (by decide), fun _ => z_t8 19 rfl rfl, fun _ => z_sp 87 rfl, fun h => absurd h (by decide)⟩⟩
set_option maxRecDepth 100000 in
theorem z_cal_255 : z_cal 255 := ⟨⟨z_t8 16 rfl rfl, z_t1 13 rfl rfl, ⟨by decide, by decide, by decide +kernel⟩, by decide⟩, ⟨fun h => absurd h (by decide), fun _ => z_t8 14 rfl rfl, fun _ => z_t8 15 rfl rfl, fun h => absurd h (by decide)⟩⟩
set_option maxRecDepth 100000 in
theorem z_cal_256 : z_cal 256 := ⟨⟨z_t8 48 rfl rfl, z_t1 13 rfl rfl, ⟨by decide, by decide, by decide +kernel⟩, by decide⟩, ⟨fun h => absurd h (by decide), fun _ => z_t8 46 rfl rfl, fun _ => z_t8 47 rfl rfl, fun h => absurd h (by decide)⟩⟩
set_option maxRecDepth 100000 in
theorem z_cal_257 : z_cal 257 := ⟨⟨z_t8 59 rfl rfl, z_t1 13 rfl rfl, ⟨by decide, by decide, by decide +kernel⟩, by decide⟩, ⟨fun _ => z_t8 58 rfl rfl, fun h => absurd (by decide) h, fun h => absurd h (by decide), fun h => absurd h (by decide)⟩⟩
set_option maxRecDepth 100000 in
theorem z_cal_258 : z_cal 258 := ⟨⟨z_t8 62 rfl rfl, z_t1 13 rfl rfl, ⟨by decide, by decide, by decide +kernel⟩, by decide⟩, ⟨fun _ => z_t8 61 rfl rfl, fun h => absurd (by decide) h, fun h => absurd h (by decide), fun h => absurd h (by decide)⟩⟩
set_option maxRecDepth 100000 in
theorem z_cal_259 : z_cal 259 := ⟨⟨z_t8 70 rfl rfl, z_t1 13 rfl rfl, ⟨by decide, by decide, by decide +kernel⟩, by decide⟩, ⟨fun h => absurd h (by decide), fun _ => z_t8 69 rfl rfl, fun _ => z_sp 96 rfl, fun h => absurd h (by decide)⟩⟩
set_option maxRecDepth 100000 in
theorem z_cal_260 : z_cal 260 := ⟨⟨z_t8 56 rfl rfl, z_t1 13 rfl rfl, ⟨by decide, by decide, by decide +kernel⟩, by decide⟩, ⟨fun h => absurd h (by decide), fun _ => z_t8 55 rfl rfl, fun _ => z_sp 94 rfl, fun h => absurd h (by decide)⟩⟩
set_option maxRecDepth 100000 in
theorem z_cal_261 : z_cal 261 := ⟨⟨z_t8 66 rfl rfl, z_t1 13 rfl rfl, ⟨by decide, by decide, by decide +kernel⟩, by decide⟩, ⟨fun h => absurd h (by decide), fun _ => z_t8 65 rfl rfl, fun _ => z_sp 95 rfl, fun h => absurd h (by decide)⟩⟩
set_option maxRecDepth 100000 in
theorem z_cal_262 : z_cal 262 := ⟨⟨z_t8 52 rfl rfl, z_t1 13 rfl rfl, ⟨by decide, by decide, by decide +kernel⟩, by decide⟩, ⟨fun h => absurd h (by decide), fun _ => z_t8 50 rfl rfl, fun _ => z_t8 51 rfl rfl, fun h => absurd h (by decide)⟩⟩
set_option maxRecDepth 100000 in
theorem z_cal_263 : z_cal 263 := ⟨⟨z_t8 74 rfl rfl, z_t1 13 rfl rfl, ⟨by decide, by decide, by decide +kernel⟩, by decide⟩, ⟨fun h => absurd h (by decide), fun _ => z_t8 72 rfl rfl, fun _ => z_t8 73 rfl rfl, fun h => absurd h (by decide)⟩⟩
set_option maxRecDepth 100000 in
theorem z_cal_264 : z_cal 264 := ⟨⟨z_t8 82 rfl rfl, z_t1 13 rfl rfl, ⟨by decide, by decide, by decide +kernel⟩, by decide⟩, ⟨fun h => absurd h (by decide), fun _ => z_t8 81 rfl rfl, fun _ => z_sp 97 rfl, fun h => absurd h (by decide)⟩⟩
set_option maxRecDepth 100000 in
theorem z_cal_265 : z_cal 265 := ⟨⟨z_t8 78 rfl rfl, z_t1 13 rfl rfl, ⟨by decide, by decide, by decide +kernel⟩, by decide⟩, ⟨fun h => absurd h (by decide), fun _ => z_t8 76 rfl rfl, fun _ => z_t8 77 rfl rfl, fun h => absurd h (by decide)⟩⟩
set_option maxRecDepth 100000 in
theorem z_cal_266 : z_cal 266 := ⟨⟨z_t8 86 rfl rfl, z_t1 13 rfl rfl, ⟨by decide, by decide, by decide +kernel⟩, by decide⟩, ⟨fun h => absurd h (by decide), fun _ => z_t8 84 rfl rfl, fun _ => z_t8 85 rfl rfl, fun h => absurd h (by decide)⟩⟩
set_option maxRecDepth 100000 in
theorem z_cal_267 : z_cal 267 := ⟨⟨z_t8 106 rfl rfl, z_t1 13 rfl rfl, ⟨by decide, by decide, by decide +kernel⟩, by decide⟩, ⟨fun h => absurd h (by decide), fun _ => z_t8 105 rfl rfl, fun _ => z_sp 101 rfl, fun h => absurd h (by decide)⟩⟩
set_option maxRecDepth 100000 in
theorem z_cal_268 : z_cal 268 := ⟨⟨z_t8 102 rfl rfl, z_t1 13 rfl rfl, ⟨by decide, by decide, by decide +kernel⟩, by decide⟩, ⟨fun h => absurd h (by decide), fun _ => z_t8 101 rfl rfl, fun _ => z_sp 100 rfl, fun h => absurd h (by decide)⟩⟩
set_option maxRecDepth 100000 in
theorem z_cal_269 : z_cal 269 := ⟨⟨z_t8 98 rfl rfl, z_t1 13 rfl rfl, ⟨by decide, by decide, by decide +kernel⟩, by decide⟩, ⟨fun h => absurd h (by decide), fun _ => z_t8 97 rfl rfl, fun _ => z_sp 99 rfl, fun h => absurd h (by decide)⟩⟩
set_option maxRecDepth 100000 in
theorem z_cal_270 : z_cal 270 := ⟨⟨z_t8 94 rfl rfl, z_t1 13 rfl rfl, ⟨by decide, by decide, by decide +kernel⟩, by decide⟩, ⟨fun h => absurd h (by decide), fun _ => z_t8 93 rfl rfl, fun _ => z_sp 98 rfl, fun h => absurd h (by decide)⟩⟩
set_option maxRecDepth 100000 in
theorem z_cal_271 : z_cal 271 := ⟨⟨z_t8 90 rfl rfl, z_t1 13 rfl rfl, ⟨by decide, by decide, by decide +kernel⟩, by decide⟩, ⟨fun h => absurd h (by decide), fun _ => z_t8 88 rfl rfl, fun _ => z_t8 89 rfl rfl, fun h => absurd h (by decide)⟩⟩
set_option maxRecDepth 100000 in
theorem z_cal_272 : z_cal 272 := ⟨⟨z_t8 110 rfl rfl, z_t1 13 rfl rfl, ⟨by decide, by decide, by decide +kernel⟩, by decide⟩, ⟨fun h => absurd h (by decide), fun _ => z_t8 108 rfl rfl, fun _ => z_t8 109 rfl rfl, fun h => absurd h (by decide)⟩⟩
set_option maxRecDepth 100000 in
theorem z_cal_273 : z_cal 273 := ⟨⟨z_t8 118 rfl rfl, z_t1 13 rfl rfl, ⟨by decide, by decide, by decide +kernel⟩, by decide⟩, ⟨fun h => absurd h (by decide), fun _ => z_t8 117 rfl rfl, fun _ => z_sp 102 rfl, fun h => absurd h (by decide)⟩⟩
set_option maxRecDepth 100000 in
theorem z_cal_274 : z_cal 274 := ⟨⟨z_t8 114 rfl rfl, z_t1 13 rfl rfl, ⟨by decide, by decide, by decide +kernel⟩, by decide⟩, ⟨fun h => absurd h (by decide), fun _ => z_t8 112 rfl rfl, fun _ => z_t8 113 rfl rfl, fun h => absurd h (by decide)⟩⟩
set_option maxRecDepth 100000 in
theorem z_cal_275 : z_cal 275 := ⟨⟨z_t8 122 rfl rfl, z_t1 13 rfl rfl, ⟨by decide, by decide, by decide +kernel⟩, by decide⟩, ⟨fun h => absurd h (by decide), fun _ => z_t8 120 rfl rfl, fun _ => z_t8 121 rfl rfl, fun h => absurd h (by decide)⟩⟩
set_option maxRecDepth 100000 in
theorem z_cal_276 : z_cal 276 := ⟨⟨z_t8 138 rfl rfl, z_t1 13 rfl rfl, ⟨by decide, by decide, by decide +kernel⟩, by decide⟩, ⟨fun h => absurd h (by decide), fun _ => z_t8 137 rfl rfl, fun _ => z_sp 105 rfl, fun h => absurd h (by decide)⟩⟩
set_option maxRecDepth 100000 in
theorem z_cal_277 : z_cal 277 := ⟨⟨z_t8 142 rfl rfl, z_t1 13 rfl rfl, ⟨by decide, by decide, by decide +kernel⟩, by decide⟩, ⟨fun h => absurd h (by decide), fun _ => z_t8 141 rfl rfl, fun _ => z_sp 106 rfl, fun h => absurd h (by decide)⟩⟩
set_option maxRecDepth 100000 in
theorem z_cal_278 : z_cal 278 := ⟨⟨z_t8 130 rfl rfl, z_t1 13 rfl rfl, ⟨by decide, by decide, by decide +kernel⟩, by decide⟩, ⟨fun h => absurd h (by decide), fun _ => z_t8 129 rfl rfl, fun _ => z_sp 103 rfl, fun h => absurd h (by decide)⟩⟩
set_option maxRecDepth 100000 in
theorem z_cal_279 : z_cal 279 := ⟨⟨z_t8 134 rfl rfl, z_t1 13 rfl rfl, ⟨by decide, by decide, by decide +kernel⟩, by decide⟩, ⟨fun h => absurd h (by decide), fun _ => z_t8 133 rfl rfl, fun _ => z_sp 104 rfl, fun h => absurd h (by decide)⟩⟩
set_option maxRecDepth 100000 in
theorem z_cal_280 : z_cal 280 := ⟨⟨z_t8 126 rfl rfl, z_t1 13 rfl rfl, ⟨by decide, by decide, by decide +kernel⟩, by decide⟩, ⟨fun h => absurd h (by decide), fun _ => z_t8 124 rfl rfl, fun _ => z_t8 125 rfl rfl, fun h => absurd h (by decide)⟩⟩
set_option maxRecDepth 100000 in
theorem z_cal_281 : z_cal 281 := ⟨⟨z_t8 146 rfl rfl, z_t1 13 rfl rfl, ⟨by decide, by decide, by decide +kernel⟩, by decide⟩, ⟨fun h => absurd h (by decide), fun _ => z_t8 144 rfl rfl, fun _ => z_t8 145 rfl rfl, fun h => absurd h (by decide)⟩⟩
set_option maxRecDepth 100000 in
theorem z_cal_282 : z_cal 282 := ⟨⟨z_t8 154 rfl rfl, z_t1 13 rfl rfl, ⟨by decide, by decide, by decide +kernel⟩, by decide⟩, ⟨fun h => absurd h (by decide), fun _ => z_t8 153 rfl rfl, fun _ => z_sp 107 rfl, fun h => absurd h (by decide)⟩⟩
set_option maxRecDepth 100000 in
theorem z_cal_283 : z_cal 283 := ⟨⟨z_t8 150 rfl rfl, z_t1 13 rfl rfl, ⟨by decide, by decide, by decide +kernel⟩, by decide⟩, ⟨fun h => absurd h (by decide), fun _ => z_t8 148 rfl rfl, fun _ => z_t8 149 rfl rfl, fun h => absurd h (by decide)⟩⟩
set_option maxRecDepth 100000 in
theorem z_cal_284 : z_cal 284 := ⟨⟨z_t8 162 rfl rfl, z_t1 13 rfl rfl, ⟨by decide, by decide, by decide +kernel⟩, by decide⟩, ⟨fun h => absurd h (by decide), fun _ => z_t8 161 rfl rfl, fun _ => z_sp 108 rfl, fun h => absurd h (by decide)⟩⟩
set_option maxRecDepth 100000 in
theorem z_cal_285 : z_cal 285 := ⟨⟨z_t8 158 rfl rfl, z_t1 13 rfl rfl, ⟨by decide, by decide, by decide +kernel⟩, by decide⟩, ⟨fun h => absurd h (by decide), fun _ => z_t8 156 rfl rfl, fun _ => z_t8 157 rfl rfl, fun h => absurd h (by decide)⟩⟩
set_option maxRecDepth 100000 in
theorem z_cal_286 : z_cal 286 := ⟨⟨z_t8 170 rfl rfl, z_t1 13 rfl rfl, ⟨by decide, by decide, by decide +kernel⟩, by decide⟩, ⟨fun h => absurd h (by decide), fun _ => z_t8 169 rfl rfl, fun _ => z_sp 109 rfl, fun h => absurd h (by decide)⟩⟩
set_option maxRecDepth 100000 in
theorem z_cal_287 : z_cal 287 := ⟨⟨z_t8 166 rfl rfl, z_t1 13 rfl rfl, ⟨by decide, by decide, by decide +kernel⟩, by decide⟩, ⟨fun h => absurd h (by decide), fun _ => z_t8 164 rfl rfl, fun _ => z_t8 165 rfl rfl, fun h => absurd h (by decide)⟩⟩
set_option maxRecDepth 100000 in
theorem z_cal_288 : z_cal 288 := ⟨⟨z_t8 174 rfl rfl, z_t1 13 rfl rfl, ⟨by decide, by decide, by decide +kernel⟩, by decide⟩, ⟨fun h => absurd h (by decide), fun _ => z_t8 172 rfl rfl, fun _ => z_t8 173 rfl rfl, fun h => absurd h (by decide)⟩⟩
set_option maxRecDepth 100000 in
theorem z_cal_289 : z_cal 289 := ⟨⟨z_t8 178 rfl rfl, z_t1 13 rfl rfl, ⟨by decide, by decide, by decide +kernel⟩, by decide⟩, ⟨fun h => absurd h (by decide), fun _ => z_t8 176 rfl rfl, fun _ => z_t8 177 rfl rfl, fun h => absurd h (by decide)⟩⟩
set_option maxRecDepth 100000 in
theorem z_cal_290 : z_cal 290 := ⟨⟨z_t8 186 rfl rfl, z_t1 13 rfl rfl, ⟨by decide, by decide, by decide +kernel⟩, by decide⟩, ⟨fun h => absurd h (by decide), fun _ => z_t8 185 rfl rfl, fun _ => z_sp 110 rfl, fun h => absurd h (by decide)⟩⟩
set_option maxRecDepth 100000 in
theorem z_cal_291 : z_cal 291 := ⟨⟨z_t8 182 rfl rfl, z_t1 13 rfl rfl, ⟨by decide, by decide, by decide +kernel⟩, by decide⟩, ⟨fun h => absurd h (by decide), fun _ => z_t8 180 rfl rfl, fun _ => z_t8 181 rfl rfl, fun h => absurd h (by decide)⟩⟩
set_option maxRecDepth 100000 in
theorem z_cal_292 : z_cal 292 := ⟨⟨z_t8 190 rfl rfl, z_t1 13 rfl rfl, ⟨by decide, by decide, by decide +kernel⟩, by decide⟩, ⟨fun h => absurd h (by decide), fun _ => z_t8 188 rfl rfl, fun _ => z_t8 189 rfl rfl, fun h => absurd h (by decide)⟩⟩
set_option maxRecDepth 100000 in
theorem z_cal_293 : z_cal 293 := ⟨⟨z_t8 203 rfl rfl, z_t1 13 rfl rfl, ⟨by decide, by decide, by decide +kernel⟩, by decide⟩, ⟨fun h => absurd h (by decide), fun _ => z_t8 202 rfl rfl, fun _ => z_sp 112 rfl, fun h => absurd h (by decide)⟩⟩
set_option maxRecDepth 100000 in
theorem z_cal_294 : z_cal 294 := ⟨⟨z_t8 199 rfl rfl, z_t1 13 rfl rfl, ⟨by decide, by decide, by decide +kernel⟩, by decide⟩, ⟨fun h => absurd h (by decide), fun _ => z_t8 198 rfl rfl, fun _ => z_sp 111 rfl, fun h => absurd h (by decide)⟩⟩
set_option maxRecDepth 100000 in
theorem z_cal_295 : z_cal 295 := ⟨⟨z_t8 195 rfl rfl, z_t1 13 rfl rfl, ⟨by decide, by decide, by decide +kernel⟩, by decide⟩, ⟨fun h => absurd h (by decide), fun _ => z_t8 193 rfl rfl, fun _ => z_t8 194 rfl rfl, fun h => absurd h (by decide)⟩⟩
set_option maxRecDepth 100000 in
theorem z_cal_296 : z_cal 296 := ⟨⟨z_t8 207 rfl rfl, z_t1 13 rfl rfl, ⟨by decide, by decide, by decide +kernel⟩, by decide⟩, ⟨fun h => absurd h (by decide), fun _ => z_t8 205 rfl rfl, fun _ => z_t8 206 rfl rfl, fun h => absurd h (by decide)⟩⟩
set_option maxRecDepth 100000 in
theorem z_cal_297 : z_cal 297 := ⟨⟨z_t8 211 rfl rfl, z_t1 13 rfl rfl, ⟨by decide, by decide, by decide +kernel⟩, by decide⟩, ⟨fun h => absurd h (by decide), fun _ => z_t8 209 rfl rfl, fun _ => z_t8 210 rfl rfl, fun h => absurd h (by decide)⟩⟩
set_option maxRecDepth 100000 in
theorem z_cal_298 : z_cal 298 := ⟨⟨z_t3 236 rfl rfl, z_t1 0 rfl rfl, ⟨by decide, by decide, by decide +kernel⟩, by decide⟩, ⟨fun _ => z_t3 235 rfl rfl, fun h => absurd (by decide) h, fun h => absurd h (by decide), fun h => absurd h (by decide)⟩⟩
set_option maxRecDepth 100000 in
theorem z_cal_299 : z_cal 299 := ⟨⟨z_t4 223 rfl rfl, z_t1 0 rfl rfl, ⟨by decide, by decide, by decide +kernel⟩, by decide⟩, ⟨fun _ => z_t4 222 rfl rfl, fun h => absurd (by decide) h, fun h => absurd h (by decide), fun h => absurd h (by decide)⟩⟩
set_option maxRecDepth 100000 in
theorem z_cal_300 : z_cal 300 := ⟨⟨z_t5 5 rfl rfl, z_t1 0 rfl rfl, ⟨by decide, by decide, by decide +kernel⟩, by decide⟩, ⟨fun _ => z_t5 4 rfl rfl, fun h => absurd (by decide) h, fun h => absurd h (by decide), fun h => absurd h (by decide)⟩⟩
set_option maxRecDepth 100000 in
theorem z_cal_301 : z_cal 301 := ⟨⟨z_t5 13 rfl rfl, z_t1 0 rfl rfl, ⟨by decide, by decide, by decide +kernel⟩, by decide⟩, ⟨fun _ => z_t5 12 rfl rfl, fun h => absurd (by decide) h, fun h => absurd h (by decide), fun h => absurd h (by decide)⟩⟩
set_option maxRecDepth 100000 in
theorem z_cal_302 : z_cal 302 := ⟨⟨z_t5 47 rfl rfl, z_t1 0 rfl rfl, ⟨by decide, by decide, by decide +kernel⟩, by decide⟩, ⟨fun _ => z_t5 46 rfl rfl, fun h => absurd (by decide) h, fun h => absurd h (by decide), fun h => absurd h (by decide)⟩⟩
set_option maxRecDepth 100000 in
theorem z_cal_303 : z_cal 303 := ⟨⟨z_t5 85 rfl rfl, z_t1 0 rfl rfl, ⟨by decide, by decide, by decide +kernel⟩, by decide⟩, ⟨fun _ => z_t5 84 rfl rfl, fun h => absurd (by decide) h, fun h => absurd h (by decide), fun h => absurd h (by decide)⟩⟩
set_option maxRecDepth 100000 in
theorem z_cal_304 : z_cal 304 := ⟨⟨z_t5 117 rfl rfl, z_t1 0 rfl rfl, ⟨by decide, by decide, by decide +kernel⟩, by decide⟩, ⟨fun _ => z_t5 116 rfl rfl, fun h => absurd (by decide) h, fun h => absurd h (by decide), fun h => absurd h (by decide)⟩⟩
set_option maxRecDepth 100000 in
theorem z_cal_305 : z_cal 305 := ⟨⟨z_t5 137 rfl rfl, z_t1 0 rfl rfl, ⟨by decide, by decide, by decide +kernel⟩, by decide⟩, ⟨fun _ => z_t5 136 rfl rfl, fun h => absurd (by decide) h, fun h => absurd h (by decide), fun h => absurd h (by decide)⟩⟩
set_option maxRecDepth 100000 in
theorem z_cal_306 : z_cal 306 := ⟨⟨z_t5 149 rfl rfl, z_t1 0 rfl rfl, ⟨by decide, by decide, by decide +kernel⟩, by decide⟩, ⟨fun _ => z_t5 148 rfl rfl, fun h => absurd (by decide) h, fun h => absurd h (by decide), fun h => absurd h (by decide)⟩⟩
set_option maxRecDepth 100000 in
theorem z_cal_307 : z_cal 307 := ⟨⟨z_t5 156 rfl rfl, z_t1 0 rfl rfl, ⟨by decide, by decide, by decide +kernel⟩, by decide⟩, ⟨fun _ => z_t5 155 rfl rfl, fun h => absurd (by decide) h, fun h => absurd h (by decide), fun h => absurd h (by decide)⟩⟩
set_option maxRecDepth 100000 in
theorem z_cal_308 : z_cal 308 := ⟨⟨z_t5 177 rfl rfl, z_t1 0 rfl rfl, ⟨by decide, by decide, by decide +kernel⟩, by decide⟩, ⟨fun _ => z_t5 176 rfl rfl, fun h => absurd (by decide) h, fun h => absurd h (by decide), fun h => absurd h (by decide)⟩⟩
set_option maxRecDepth 100000 in
theorem z_cal_309 : z_cal 309 := ⟨⟨z_t5 185 rfl rfl, z_t1 0 rfl rfl, ⟨by decide, by decide, by decide +kernel⟩, by decide⟩, ⟨fun _ => z_t5 184 rfl rfl, fun h => absurd (by decide) h, fun h => absurd h (by decide), fun h => absurd h (by decide)⟩⟩
set_option maxRecDepth 100000 in
theorem z_cal_310 : z_cal 310 := ⟨⟨z_t5 193 rfl rfl, z_t1 0 rfl rfl, ⟨by decide, by decide, by decide +kernel⟩, by decide⟩, ⟨fun _ => z_t5 192 rfl rfl, fun h => absurd (by decide) h, fun h => absurd h (by decide), fun h => absurd h (by decide)⟩⟩
set_option maxRecDepth 100000 in
theorem z_cal_311 : z_cal 311 := ⟨⟨z_t5 201 rfl rfl, z_t1 0 rfl rfl, ⟨by decide, by decide, by decide +kernel⟩, by decide⟩, ⟨fun _ => z_t5 200 rfl rfl, fun h => absurd (by decide) h, fun h => absurd h (by decide), fun h => absurd h (by decide)⟩⟩
set_option maxRecDepth 100000 in
theorem z_cal_312 : z_cal 312 := ⟨⟨z_t5 216 rfl rfl, z_t1 0 rfl rfl, ⟨by decide, by decide, by decide +kernel⟩, by decide⟩, ⟨fun _ => z_t5 215 rfl rfl, fun h => absurd (by decide) h, fun h => absurd h (by decide), fun h => absurd h (by decide)⟩⟩
set_option maxRecDepth 100000 in
theorem z_cal_313 : z_cal 313 := ⟨⟨z_t5 233 rfl rfl, z_t1 0 rfl rfl, ⟨by decide, by decide, by decide +kernel⟩, by decide⟩, ⟨fun _ => z_t5 232 rfl rfl, fun h => absurd (by decide) h, fun h => absurd h (by decide), fun h => absurd h (by decide)⟩⟩
set_option maxRecDepth 100000 in
theorem z_cal_314 : z_cal 314 := ⟨⟨z_t6 6 rfl rfl, z_t1 0 rfl rfl, ⟨by decide, by decide, by decide +kernel⟩, by decide⟩, ⟨fun _ => z_t6 5 rfl rfl, fun h => absurd (by decide) h, fun h => absurd h (by decide), fun h => absurd h (by decide)⟩⟩
set_option maxRecDepth 100000 in
theorem z_cal_315 : z_cal 315 := ⟨⟨z_t6 17 rfl rfl, z_t1 0 rfl rfl, ⟨by decide, by decide, by decide +kernel⟩, by decide⟩, ⟨fun _ => z_t6 16 rfl rfl, fun h => absurd (by decide) h, fun h => absurd h (by decide), fun h => absurd h (by decide)⟩⟩
set_option maxRecDepth 100000 in
theorem z_cal_316 : z_cal 316 := ⟨⟨z_t6 29 rfl rfl, z_t1 0 rfl rfl, ⟨by decide, by decide, by decide +kernel⟩, by decide⟩, ⟨fun _ => z_t6 28 rfl rfl, fun h => absurd (by decide) h, fun h => absurd h (by decide), fun h => absurd h (by decide)⟩⟩
set_option maxRecDepth 100000 in
theorem z_cal_900 : z_cal 900 := ⟨⟨z_t4 129 rfl rfl, z_t1 18 rfl rfl, ⟨by decide, by decide, by decide +kernel⟩, by decide⟩, ⟨fun h => absurd h (by decide), fun _ => z_t4 127 rfl rfl, fun _ => z_t4 128 rfl rfl, fun h => absurd h (by decide)⟩⟩
set_option maxRecDepth 100000 in
theorem z_cal_901 : z_cal 901 := ⟨⟨z_t4 139 rfl rfl, z_t1 18 rfl rfl, ⟨by decide, by decide, by decide +kernel⟩, by decide⟩, ⟨fun h => absurd h (by decide), fun _ => z_t4 137 rfl rfl, fun _ => z_t4 138 rfl rfl, fun h => absurd h (by decide)⟩⟩
def z_calL : List Nat := [0, 1, 2, 3, 4, 5, 6, 7, 8, 9, 10, 11, 12, 13, 14, 15, 16, 17, 18, 19, 20, 21, 22, 23, 24, 25, 26, 27, 28, 29, 30, 31, 32, 33, 34, 35, 36, 37, 38, 39, 40, 41, 42, 43, 44, 45, 46, 47, 48, 49, 50, 51, 52, 53, 54, 55, 56, 57, 58, 59, 60, 61, 62, 63, 64, 65, 66, 67, 68, 69, 70, 71, 72, 73, 74, 75, 76, 77, 78, 79, 80, 81, 82, 83, 84, 85, 86, 87, 88, 89, 90, 91, 92, 93, 94, 95, 96, 97, 98, 99, 100, 101, 102, 103, 104, 105, 106, 107, 108, 109, 110, 111, 112, 113, 114, 115, 116, 117, 118, 119, 120, 121, 122, 123, 124, 125, 126, 127, 128, 129, 130, 131, 132, 133, 134, 135, 136, 137, 138, 139, 140, 141, 142, 143, 144, 145, 146, 147, 148, 149, 150, 151, 152, 153, 154, 155, 156, 157, 158, 159, 160, 161, 162, 163, 164, 165, 166, 167, 168, 169, 170, 171, 172, 173, 174, 175, 176, 177, 178, 179, 180, 181, 182, 183, 184, 185, 186, 187, 188, 189, 190, 191, 192, 193, 194, 195, 196, 197, 198, 199, 200, 201, 202, 203, 204, 205, 206, 207, 208, 209, 210, 211, 212, 213, 214, 215, 216, 217, 218, 219, 220, 221, 222, 223, 224, 225, 226, 227, 228, 229, 230, 231, 232, 233, 234, 235, 236, 237, 238, 239, 240, 241, 242, 243, 244, 245, 246, 247, 248, 249, 250, 251, 252, 253, 254, 255, 256, 257, 258, 259, 260, 261, 262, 263, 264, 265, 266, 267, 268, 269, 270, 271, 272, 273, 274, 275, 276, 277, 278, 279, 280, 281, 282, 283, 284, 285, 286, 287, 288, 289, 290, 291, 292, 293, 294, 295, 296, 297, 298, 299, 300, 301, 302, 303, 304, 305, 306, 307, 308, 309, 310, 311, 312, 313, 314, 315, 316, 900, 901]
set_option maxRecDepth 100000 in
theorem z_calA : ∀ j ∈ z_calL, z_cal j := List.forall_mem_cons.mpr ⟨z_cal_0, List.forall_mem_cons.mpr ⟨z_cal_1, List.forall_mem_cons.mpr ⟨z_cal_2, List.forall_mem_cons.mpr ⟨z_cal_3, List.forall_mem_cons.mpr ⟨z_cal_4, List.forall_mem_cons.mpr ⟨z_cal_5, List.forall_mem_cons.mpr ⟨z_cal_6, List.forall_mem_cons.mpr ⟨z_cal_7, List.forall_mem_cons.mpr ⟨z_cal_8, List.forall_mem_cons.mpr ⟨z_cal_9, List.forall_mem_cons.mpr ⟨z_cal_10, List.forall_mem_cons.mpr ⟨z_cal_11, List.forall_mem_cons.mpr ⟨z_cal_12, List.forall_mem_cons.mpr ⟨z_cal_13, List.forall_mem_cons.mpr ⟨z_cal_14, List.forall_mem_cons.mpr ⟨z_cal_15, List.forall_mem_cons.mpr ⟨z_cal_16, List.forall_mem_cons.mpr ⟨z_cal_17, List.forall_mem_cons.mpr ⟨z_cal_18, List.forall_mem_cons.mpr ⟨z_cal_19, List.forall_mem_cons.mpr ⟨z_cal_20, List.forall_mem_cons.mpr ⟨z_cal_21, List.forall_mem_cons.mpr ⟨z_cal_22, List.forall_mem_cons.mpr ⟨z_cal_23, List.forall_mem_cons.mpr ⟨z_cal_24, List.forall_mem_cons.mpr ⟨z_cal_25, List.forall_mem_cons.mpr ⟨z_cal_26, List.forall_mem_cons.mpr ⟨z_cal_27, List.forall_mem_cons.mpr ⟨z_cal_28, List.forall_mem_cons.mpr ⟨z_cal_29, List.forall_mem_cons.mpr ⟨z_cal_30, List.forall_mem_cons.mpr ⟨z_cal_31, List.forall_mem_cons.mpr ⟨z_cal_32, List.forall_mem_cons.mpr ⟨z_cal_33, List.forall_mem_cons.mpr ⟨z_cal_34, List.forall_mem_cons.mpr ⟨z_cal_35, List.forall_mem_cons.mpr ⟨z_cal_36, List.forall_mem_cons.mpr ⟨z_cal_37, List.forall_mem_cons.mpr ⟨z_cal_38, List.forall_mem_cons.mpr ⟨z_cal_39, List.forall_mem_cons.mpr ⟨z_cal_40, List.forall_mem_cons.mpr ⟨z_cal_41, List.forall_mem_cons.mpr ⟨z_cal_42, List.forall_mem_cons.mpr ⟨z_cal_43, List.forall_mem_cons.mpr ⟨z_cal_44, List.forall_mem_cons.mpr ⟨z_cal_45, List.forall_mem_cons.mpr ⟨z_cal_46, List.forall_mem_cons.mpr ⟨z_cal_47, List.forall_mem_cons.mpr ⟨z_cal_48, List.forall_mem_cons.mpr ⟨z_cal_49, List.forall_mem_cons.mpr ⟨z_cal_50, List.forall_mem_cons.mpr ⟨z_cal_51, List.forall_mem_cons.mpr ⟨z_cal_52, List.forall_mem_cons.mpr ⟨z_cal_53, List.forall_mem_cons.mpr ⟨z_cal_54, List.forall_mem_cons.mpr ⟨z_cal_55, List.forall_mem_cons.mpr ⟨z_cal_56, List.forall_mem_cons.mpr ⟨z_cal_57, List.forall_mem_cons.mpr ⟨z_cal_58, List.forall_mem_cons.mpr ⟨z_cal_59, List.forall_mem_cons.mpr ⟨z_cal_60, List.forall_mem_cons.mpr ⟨z_cal_61, List.forall_mem_cons.mpr ⟨z_cal_62, List.forall_mem_cons.mpr ⟨z_cal_63, List.forall_mem_cons.mpr ⟨z_cal_64, List.forall_mem_cons.mpr ⟨z_cal_65, List.forall_mem_cons.mpr ⟨z_cal_66, List.forall_mem_cons.mpr ⟨z_cal_67, List.forall_mem_cons.mpr ⟨z_cal_68, List.forall_mem_cons.mpr ⟨z_cal_69, List.forall_mem_cons.mpr ⟨z_cal_70, List.forall_mem_cons.mpr ⟨z_cal_71, List.forall_mem_cons.mpr ⟨z_cal_72, List.forall_mem_cons.mpr ⟨z_cal_73, List.forall_mem_cons.mpr ⟨z_cal_74, List.forall_mem_cons.mpr ⟨z_cal_75, List.forall_mem_cons.mpr ⟨z_cal_76, List.forall_mem_cons.mpr ⟨z_cal_77, List.forall_mem_cons.mpr ⟨z_cal_78, List.forall_mem_cons.mpr ⟨z_cal_79, List.forall_mem_cons.mpr ⟨z_cal_80, List.forall_mem_cons.mpr ⟨z_cal_81, List.forall_mem_cons.mpr ⟨z_cal_82, List.forall_mem_cons.mpr ⟨z_cal_83, List.forall_mem_cons.mpr ⟨z_cal_84, List.forall_mem_cons.mpr ⟨z_cal_85, List.forall_mem_cons.mpr ⟨z_cal_86, List.forall_mem_cons.mpr ⟨z_cal_87, List.forall_mem_cons.mpr ⟨z_cal_88, List.forall_mem_cons.mpr ⟨z_cal_89, List.forall_mem_cons.mpr ⟨z_cal_90, List.forall_mem_cons.mpr ⟨z_cal_91, List.forall_mem_cons.mpr ⟨z_cal_92, List.forall_mem_cons.mpr ⟨z_cal_93, List.forall_mem_cons.mpr ⟨z_cal_94, List.forall_mem_cons.mpr ⟨z_cal_95, List.forall_mem_cons.mpr ⟨z_cal_96, List.forall_mem_cons.mpr ⟨z_cal_97, List.forall_mem_cons.mpr ⟨z_cal_98, List.forall_mem_cons.mpr ⟨z_cal_99, List.forall_mem_cons.mpr ⟨z_cal_100, List.forall_mem_cons.mpr ⟨z_cal_101, List.forall_mem_cons.mpr ⟨z_cal_102, List.forall_mem_cons.mpr ⟨z_cal_103, List.forall_mem_cons.mpr ⟨z_cal_104, List.forall_mem_cons.mpr ⟨z_cal_105, List.forall_mem_cons.mpr ⟨z_cal_106, List.forall_mem_cons.mpr ⟨z_cal_107, List.forall_mem_cons.mpr ⟨z_cal_108, List.forall_mem_cons.mpr ⟨z_cal_109, List.forall_mem_cons.mpr ⟨z_cal_110, List.forall_mem_cons.mpr ⟨z_cal_111, List.forall_mem_cons.mpr ⟨z_cal_112, List.forall_mem_cons.mpr ⟨z_cal_113, List.forall_mem_cons.mpr ⟨z_cal_114, List.forall_mem_cons.mpr ⟨z_cal_115, List.forall_mem_cons.mpr ⟨z_cal_116, List.forall_mem_cons.mpr ⟨z_cal_117, List.forall_mem_cons.mpr ⟨z_cal_118, List.forall_mem_cons.mpr ⟨z_cal_119, List.forall_mem_cons.mpr ⟨z_cal_120, List.forall_mem_cons.mpr ⟨z_cal_121, List.forall_mem_cons.mpr ⟨z_cal_122, List.forall_mem_cons.mpr ⟨z_cal_123, List.forall_mem_cons.mpr ⟨z_cal_124, List.forall_mem_cons.mpr ⟨z_cal_125, List.forall_mem_cons.mpr ⟨z_cal_126, List.forall_mem_cons.mpr ⟨z_cal_127, List.forall_mem_cons.mpr ⟨z_cal_128, List.forall_mem_cons.mpr ⟨z_cal_129, List.forall_mem_cons.mpr ⟨z_cal_130, List.forall_mem_cons.mpr ⟨z_cal_131, List.forall_mem_cons.mpr ⟨z_cal_132, List.forall_mem_cons.mpr ⟨z_cal_133, List.forall_mem_cons.mpr ⟨z_cal_134, List.forall_mem_cons.mpr ⟨z_cal_135, List.forall_mem_cons.mpr ⟨z_cal_136, List.forall_mem_cons.mpr ⟨z_cal_137, List.forall_mem_cons.mpr ⟨z_cal_138, List.forall_mem_cons.mpr ⟨z_cal_139, List.forall_mem_cons.mpr ⟨z_cal_140, List.forall_mem_cons.mpr ⟨z_cal_141, List.forall_mem_cons.mpr ⟨z_cal_142, List.forall_mem_cons.mpr ⟨z_cal_143, List.forall_mem_cons.mpr ⟨z_cal_144, List.forall_mem_cons.mpr ⟨z_cal_145, List.forall_mem_cons.mpr ⟨z_cal_146, List.forall_mem_cons.mpr ⟨z_cal_147, List.forall_mem_cons.mpr ⟨z_cal_148, List.forall_mem_cons.mpr ⟨z_cal_149, List.forall_mem_cons.mpr ⟨z_cal_150, List.forall_mem_cons.mpr ⟨z_cal_151, List.forall_mem_cons.mpr ⟨z_cal_152, List.forall_mem_cons.mpr ⟨z_cal_153, List.forall_mem_cons.mpr ⟨z_cal_154, List.forall_mem_cons.mpr ⟨z_cal_155, List.forall_mem_cons.mpr ⟨z_cal_156, List.forall_mem_cons.mpr ⟨z_cal_157, List.forall_mem_cons.mpr ⟨z_cal_158, List.forall_mem_cons.mpr ⟨z_cal_159, List.forall_mem_cons.mpr ⟨z_cal_160, List.forall_mem_cons.mpr ⟨z_cal_161, List.forall_mem_cons.mpr ⟨z_cal_162, List.forall_mem_cons.mpr ⟨z_cal_163, List.forall_mem_cons.mpr ⟨z_cal_164, List.forall_mem_cons.mpr ⟨z_cal_165, List.forall_mem_cons.mpr ⟨z_cal_166, List.forall_mem_cons.mpr ⟨z_cal_167, List.forall_mem_cons.mpr ⟨z_cal_168, List.forall_mem_cons.mpr ⟨z_cal_169, List.forall_mem_cons.mpr ⟨z_cal_170, List.forall_mem_cons.mpr ⟨z_cal_171, List.forall_mem_cons.mpr ⟨z_cal_172, List.forall_mem_cons.mpr ⟨z_cal_173, List.forall_mem_cons.mpr ⟨z_cal_174, List.forall_mem_cons.mpr ⟨z_cal_175, List.forall_mem_cons.mpr ⟨z_cal_176, List.forall_mem_cons.mpr ⟨z_cal_177, List.forall_mem_cons.mpr ⟨z_cal_178, List.forall_mem_cons.mpr ⟨z_cal_179, List.forall_mem_cons.mpr ⟨z_cal_180, List.forall_mem_cons.mpr ⟨z_cal_181, List.forall_mem_cons.mpr ⟨z_cal_182, List.forall_mem_cons.mpr ⟨z_cal_183, List.forall_mem_cons.mpr ⟨z_cal_184, List.forall_mem_cons.mpr ⟨z_cal_185, List.forall_mem_cons.mpr ⟨z_cal_186, List.forall_mem_cons.mpr ⟨z_cal_187, List.forall_mem_cons.mpr ⟨z_cal_188, List.forall_mem_cons.mpr ⟨z_cal_189, List.forall_mem_cons.mpr ⟨z_cal_190, List.forall_mem_cons.mpr ⟨z_cal_191, List.forall_mem_cons.mpr ⟨z_cal_192, List.forall_mem_cons.mpr ⟨z_cal_193, List.forall_mem_cons.mpr ⟨z_cal_194, List.forall_mem_cons.mpr ⟨z_cal_195, List.forall_mem_cons.mpr ⟨z_cal_196, List.forall_mem_cons.mpr ⟨z_cal_197, List.forall_mem_cons.mpr ⟨z_cal_198, List.forall_mem_cons.mpr ⟨z_cal_199, List.forall_mem_cons.mpr ⟨z_cal_200, List.forall_mem_cons.mpr ⟨z_cal_201, List.forall_mem_cons.mpr ⟨z_cal_202, List.forall_mem_cons.mpr ⟨z_cal_203, List.forall_mem_cons.mpr ⟨z_cal_204, List.forall_mem_cons.mpr ⟨z_cal_205, List.forall_mem_cons.mpr ⟨z_cal_206, List.forall_mem_cons.mpr ⟨z_cal_207, List.forall_mem_cons.mpr ⟨z_cal_208, List.forall_mem_cons.mpr ⟨z_cal_209, List.forall_mem_cons.mpr ⟨z_cal_210, List.forall_mem_cons.mpr ⟨z_cal_211, List.forall_mem_cons.mpr ⟨z_cal_212, List.forall_mem_cons.mpr ⟨z_cal_213, List.forall_mem_cons.mpr ⟨z_cal_214, List.forall_mem_cons.mpr ⟨z_cal_215, List.forall_mem_cons.mpr ⟨z_cal_216, List.forall_mem_cons.mpr ⟨z_cal_217, List.forall_mem_cons.mpr ⟨z_cal_218, List.forall_mem_cons.mpr ⟨z_cal_219, List.forall_mem_cons.mpr ⟨z_cal_220, List.forall_mem_cons.mpr ⟨z_cal_221, List.forall_mem_cons.mpr ⟨z_cal_222, List.forall_mem_cons.mpr ⟨z_cal_223, List.forall_mem_cons.mpr ⟨z_cal_224, List.forall_mem_cons.mpr ⟨z_cal_225, List.forall_mem_cons.mpr ⟨z_cal_226, List.forall_mem_cons.mpr ⟨z_cal_227, List.forall_mem_cons.mpr ⟨z_cal_228, List.forall_mem_cons.mpr ⟨z_cal_229, List.forall_mem_cons.mpr ⟨z_cal_230, List.forall_mem_cons.mpr ⟨z_cal_231, List.forall_mem_cons.mpr ⟨z_cal_232, List.forall_mem_cons.mpr ⟨z_cal_233, List.forall_mem_cons.mpr ⟨z_cal_234, List.forall_mem_cons.mpr ⟨z_cal_235, List.forall_mem_cons.mpr ⟨z_cal_236, List.forall_mem_cons.mpr ⟨z_cal_237, List.forall_mem_cons.mpr ⟨z_cal_238, List.forall_mem_cons.mpr ⟨z_cal_239, List.forall_mem_cons.mpr ⟨z_cal_240, List.forall_mem_cons.mpr ⟨z_cal_241, List.forall_mem_cons.mpr ⟨z_cal_242, List.forall_mem_cons.mpr ⟨z_cal_243, List.forall_mem_cons.mpr ⟨z_cal_244, List.forall_mem_cons.mpr ⟨z_cal_245, List.forall_mem_cons.mpr ⟨z_cal_246, List.forall_mem_cons.mpr ⟨z_cal_247, List.forall_mem_cons.mpr ⟨z_cal_248, List.forall_mem_cons.mpr ⟨z_cal_249, List.forall_mem_cons.mpr ⟨z_cal_250, List.forall_mem_cons.mpr ⟨z_cal_251, List.forall_mem_cons.mpr ⟨z_cal_252, List.forall_mem_cons.mpr ⟨z_cal_253, List.forall_mem_cons.mpr ⟨z_cal_254, List.forall_mem_cons.mpr ⟨z_cal_255, List.forall_mem_cons.mpr ⟨z_cal_256, List.forall_mem_cons.mpr ⟨z_cal_257, List.forall_mem_cons.mpr ⟨z_cal_258, List.forall_mem_cons.mpr ⟨z_cal_259, List.forall_mem_cons.mpr ⟨z_cal_260, List.forall_mem_cons.mpr ⟨z_cal_261, List.forall_mem_cons.mpr ⟨z_cal_262, List.forall_mem_cons.mpr ⟨z_cal_263, List.forall_mem_cons.mpr ⟨z_cal_264, List.forall_mem_cons.mpr ⟨z_cal_265, List.forall_mem_cons.mpr ⟨z_cal_266, List.forall_mem_cons.mpr ⟨z_cal_267, List.forall_mem_cons.mpr ⟨z_cal_268, List.forall_mem_cons.mpr ⟨z_cal_269, List.forall_mem_cons.mpr ⟨z_cal_270, List.forall_mem_cons.mpr ⟨z_cal_271, List.forall_mem_cons.mpr ⟨z_cal_272, List.forall_mem_cons.mpr ⟨z_cal_273, List.forall_mem_cons.mpr ⟨z_cal_274, List.forall_mem_cons.mpr ⟨z_cal_275, List.forall_mem_cons.mpr ⟨z_cal_276, List.forall_mem_cons.mpr ⟨z_cal_277, List.forall_mem_cons.mpr ⟨z_cal_278, List.forall_mem_cons.mpr ⟨z_cal_279, List.forall_mem_cons.mpr ⟨z_cal_280, List.forall_mem_cons.mpr ⟨z_cal_281, List.forall_mem_cons.mpr ⟨z_cal_282, List.forall_mem_cons.mpr ⟨z_cal_283, List.forall_mem_cons.mpr ⟨z_cal_284, List.forall_mem_cons.mpr ⟨z_cal_285, List.forall_mem_cons.mpr ⟨z_cal_286, List.forall_mem_cons.mpr ⟨z_cal_287, List.forall_mem_cons.mpr ⟨z_cal_288, List.forall_mem_cons.mpr ⟨z_cal_289, List.forall_mem_cons.mpr ⟨z_cal_290, List.forall_mem_cons.mpr ⟨z_cal_291, List.forall_mem_cons.mpr ⟨z_cal_292, List.forall_mem_cons.mpr ⟨z_cal_293, List.forall_mem_cons.mpr ⟨z_cal_294, List.forall_mem_cons.mpr ⟨z_cal_295, List.forall_mem_cons.mpr ⟨z_cal_296, List.forall_mem_cons.mpr ⟨z_cal_297, List.forall_mem_cons.mpr ⟨z_cal_298, List.forall_mem_cons.mpr ⟨z_cal_299, List.forall_mem_cons.mpr ⟨z_cal_300, List.forall_mem_cons.mpr ⟨z_cal_301, List.forall_mem_cons.mpr ⟨z_cal_302, List.forall_mem_cons.mpr ⟨z_cal_303, List.forall_mem_cons.mpr ⟨z_cal_304, List.forall_mem_cons.mpr ⟨z_cal_305, List.forall_mem_cons.mpr ⟨z_cal_306, List.forall_mem_cons.mpr ⟨z_cal_307, List.forall_mem_cons.mpr ⟨z_cal_308, List.forall_mem_cons.mpr ⟨z_cal_309, List.forall_mem_cons.mpr ⟨z_cal_310, List.forall_mem_cons.mpr ⟨z_cal_311, List.forall_mem_cons.mpr ⟨z_cal_312, List.forall_mem_cons.mpr ⟨z_cal_313, List.forall_mem_cons.mpr ⟨z_cal_314, List.forall_mem_cons.mpr ⟨z_cal_315, List.forall_mem_cons.mpr ⟨z_cal_316, List.forall_mem_cons.mpr ⟨z_cal_900, List.forall_mem_cons.mpr ⟨z_cal_901, fun _ h => absurd h List.not_mem_nil⟩⟩⟩⟩⟩⟩⟩⟩⟩⟩⟩⟩⟩⟩⟩⟩⟩⟩⟩⟩⟩⟩⟩⟩⟩⟩⟩⟩⟩⟩⟩⟩⟩⟩⟩⟩⟩⟩⟩⟩⟩⟩⟩⟩⟩⟩⟩⟩⟩⟩⟩⟩⟩⟩⟩⟩⟩⟩⟩⟩⟩⟩⟩⟩⟩⟩⟩⟩⟩⟩⟩⟩⟩⟩⟩⟩⟩⟩⟩⟩⟩⟩⟩⟩⟩⟩⟩⟩⟩⟩⟩⟩⟩⟩⟩⟩⟩⟩⟩⟩⟩⟩⟩⟩⟩⟩⟩⟩⟩⟩⟩⟩⟩⟩⟩⟩⟩⟩⟩⟩⟩⟩⟩⟩⟩⟩⟩⟩⟩⟩⟩⟩⟩⟩⟩⟩⟩⟩⟩⟩⟩⟩⟩⟩⟩⟩⟩⟩⟩⟩⟩⟩⟩⟩⟩⟩⟩⟩⟩⟩⟩⟩⟩⟩⟩⟩⟩⟩⟩⟩⟩⟩⟩⟩⟩⟩⟩⟩⟩⟩⟩⟩⟩⟩⟩⟩⟩⟩⟩⟩⟩⟩⟩⟩⟩⟩⟩⟩⟩⟩⟩⟩⟩⟩⟩⟩⟩⟩⟩⟩⟩⟩⟩⟩⟩⟩⟩⟩⟩⟩⟩⟩⟩⟩⟩⟩⟩⟩⟩⟩⟩⟩⟩⟩⟩⟩⟩⟩⟩⟩⟩⟩⟩⟩⟩⟩⟩⟩⟩⟩⟩⟩⟩⟩⟩⟩⟩⟩⟩⟩⟩⟩⟩⟩⟩⟩⟩⟩⟩⟩⟩⟩⟩⟩⟩⟩⟩⟩⟩⟩⟩⟩⟩⟩⟩⟩⟩⟩⟩⟩⟩⟩⟩⟩⟩⟩⟩⟩⟩⟩⟩⟩⟩⟩⟩⟩⟩⟩⟩⟩⟩⟩⟩⟩⟩⟩⟩⟩⟩
set_option maxRecDepth 100000 in
theorem z_nw_0 : Jvm.Cond.instantiable "LacedHoles$Boot" 7 ∈ z_W0 ∧ Jvm.Cond.initialized "LacedHoles$Boot" ∈ z_W0 := ⟨z_t2 0 rfl rfl, z_t1 11 rfl rfl⟩
set_option maxRecDepth 100000 in
theorem z_nw_1 : Jvm.Cond.instantiable "LacedHoles$Counter" 5 ∈ z_W0 ∧ Jvm.Cond.initialized "LacedHoles$Counter" ∈ z_W0 := ⟨z_t1 81 rfl rfl, z_t1 4 rfl rfl⟩
set_option maxRecDepth 100000 in
theorem z_nw_2 : Jvm.Cond.instantiable "LacedHoles$Finder" 7 ∈ z_W0 ∧ Jvm.Cond.initialized "LacedHoles$Finder" ∈ z_W0 := ⟨z_t1 103 rfl rfl, z_t1 5 rfl rfl⟩
set_option maxRecDepth 100000 in
theorem z_nw_3 : Jvm.Cond.instantiable "LacedHoles$Picture" 3 ∈ z_W0 ∧ Jvm.Cond.initialized "LacedHoles$Picture" ∈ z_W0 := ⟨z_t1 157 rfl rfl, z_t1 8 rfl rfl⟩
set_option maxRecDepth 100000 in
theorem z_nw_4 : Jvm.Cond.instantiable "LacedHoles$Roots" 3 ∈ z_W0 ∧ Jvm.Cond.initialized "LacedHoles$Roots" ∈ z_W0 := ⟨z_t1 64 rfl rfl, z_t1 3 rfl rfl⟩
set_option maxRecDepth 100000 in
theorem z_nw_5 : Jvm.Cond.instantiable "LacedHoles$Scene" 4 ∈ z_W0 ∧ Jvm.Cond.initialized "LacedHoles$Scene" ∈ z_W0 := ⟨z_t1 212 rfl rfl, z_t1 10 rfl rfl⟩
set_option maxRecDepth 100000 in
theorem z_nw_6 : Jvm.Cond.instantiable "LacedHoles$Tape" 7 ∈ z_W0 ∧ Jvm.Cond.initialized "LacedHoles$Tape" ∈ z_W0 := ⟨z_t1 35 rfl rfl, z_t1 2 rfl rfl⟩
set_option maxRecDepth 100000 in
theorem z_nw_7 : Jvm.Cond.instantiable "LacedHoles$Walk" 5 ∈ z_W0 ∧ Jvm.Cond.initialized "LacedHoles$Walk" ∈ z_W0 := ⟨z_t1 132 rfl rfl, z_t1 6 rfl rfl⟩
set_option maxRecDepth 100000 in
theorem z_nw_8 : Jvm.Cond.instantiable "LacedHoles$Way" 2 ∈ z_W0 ∧ Jvm.Cond.initialized "LacedHoles$Way" ∈ z_W0 := ⟨z_t1 138 rfl rfl, z_t1 7 rfl rfl⟩
set_option maxRecDepth 100000 in
theorem z_nw_9 : Jvm.Cond.instantiable "LacedHoles$Weeks" 3 ∈ z_W0 ∧ Jvm.Cond.initialized "LacedHoles$Weeks" ∈ z_W0 := ⟨z_t1 192 rfl rfl, z_t1 9 rfl rfl⟩
set_option maxRecDepth 100000 in
theorem z_nw_10 : Jvm.Cond.instantiable "LacedHoles" 13 ∈ z_W0 ∧ Jvm.Cond.initialized "LacedHoles" ∈ z_W0 := ⟨z_t1 27 rfl rfl, z_t1 1 rfl rfl⟩
set_option maxRecDepth 100000 in
theorem z_nw_11 : Jvm.Cond.instantiable "LacedHolesModel" 47 ∈ z_W0 ∧ Jvm.Cond.initialized "LacedHolesModel" ∈ z_W0 := ⟨z_t6 60 rfl rfl, z_t1 13 rfl rfl⟩
theorem z_nws : ∀ (c : Nat) (C : String) (T : u_T) (N : Nat), vwCl[c]? = some (C, T, N) → Jvm.Cond.instantiable C N ∈ z_W0 ∧ Jvm.Cond.initialized C ∈ z_W0 := by
  intro c C T N h
  match c, h with
  | 0, h => cases h; exact z_nw_0
  | 1, h => cases h; exact z_nw_1
  | 2, h => cases h; exact z_nw_2
  | 3, h => cases h; exact z_nw_3
  | 4, h => cases h; exact z_nw_4
  | 5, h => cases h; exact z_nw_5
  | 6, h => cases h; exact z_nw_6
  | 7, h => cases h; exact z_nw_7
  | 8, h => cases h; exact z_nw_8
  | 9, h => cases h; exact z_nw_9
  | 10, h => cases h; exact z_nw_10
  | 11, h => cases h; exact z_nw_11
  | n + 12, h => simp [vwCl] at h
theorem z_w_ai : (Jvm.Cond.arrayClass Jvm.ClassFile.FieldType.int) ∈ z_W0 := z_t1 62 rfl rfl
theorem z_w_aj : (Jvm.Cond.arrayClass Jvm.ClassFile.FieldType.long) ∈ z_W0 := z_t1 79 rfl rfl
theorem z_w_ao : (Jvm.Cond.arrayOver (Jvm.ClassFile.FieldType.object "LacedHoles$Scene")) ∈ lw_tbl := List.mem_append_right _ (z_in1 (List.mem_of_getElem? (i := 238) rfl))
theorem z_w_aa : (Jvm.Cond.arrayOver (Jvm.ClassFile.FieldType.array Jvm.ClassFile.FieldType.int)) ∈ lw_tbl := List.mem_append_right _ (z_in6 (List.mem_of_getElem? (i := 66) rfl))
theorem z_w_oi : (Jvm.Cond.instanceMethod ({ cls := "java/lang/Object", name := "<init>", desc := "()V" } : Jvm.MethodName)) ∈ z_W0 := z_t1 32 rfl rfl
theorem z_w_oc : Jvm.Cond.code Lib.objectInit ⟨#[0xb1]⟩ 1 none ∈ z_W0 := z_t1 33 rfl rfl
theorem z_ini0 : Jvm.Cond.initialized (z_En 0) ∈ z_W0 := z_t1 17 rfl rfl
theorem z_cas0 : Jvm.Cond.castable (z_En 0) (z_En 0) ∈ lw_tbl := List.mem_append_right _ (z_in4 (List.mem_of_getElem? (i := 4) rfl))
theorem z_ini1 : Jvm.Cond.initialized (z_En 1) ∈ z_W0 := z_t1 24 rfl rfl
theorem z_cas1 : Jvm.Cond.castable (z_En 1) (z_En 1) ∈ lw_tbl := List.mem_append_right _ (z_in5 (List.mem_of_getElem? (i := 29) rfl))
theorem z_ini2 : Jvm.Cond.initialized (z_En 2) ∈ z_W0 := z_t1 25 rfl rfl
theorem z_cas2 : Jvm.Cond.castable (z_En 2) (z_En 2) ∈ lw_tbl := List.mem_append_right _ (z_in5 (List.mem_of_getElem? (i := 59) rfl))
abbrev z_fP (q : Nat × Nat × Nat × Nat) : Prop := ∃ C T N, vwCl[q.2.2.1]? = some (C, T, N) ∧ q.2.2.2 < N ∧ Jvm.Cond.fieldLink (z_ow q.1) q.2.1 (T q.2.2.2).1 (T q.2.2.2).2.1 (T q.2.2.2).2.2.1 ∈ z_W0
abbrev z_mP (q : Nat × Nat × Nat × Nat) : Prop := if q.2.2.2 = 0 then Jvm.Cond.methodLink (z_ow q.1) q.2.1 (z_mi q.2.2.1).1 ∈ z_W0 else ∃ host, Jvm.Cond.methodLinkNest (z_ow q.1) q.2.1 (z_mi q.2.2.1).1 host ∈ lw_tbl
abbrev z_oP (q : Nat × Nat) : Prop := Jvm.Cond.methodLink (z_ow q.1) q.2 Lib.objectInit ∈ z_W0
abbrev z_cP (q : Nat × Nat × String) : Prop := Jvm.Cond.classLink (z_ow q.1) q.2.1 q.2.2 ∈ z_W0
abbrev z_kP (q : Nat × Nat × Int) : Prop := Jvm.Cond.constant (z_ow q.1) q.2.1 (Int32.ofInt q.2.2) ∈ z_W0
abbrev z_lP (q : Nat × Nat × Int) : Prop := Jvm.Cond.constantLong (z_ow q.1) q.2.1 (Int64.ofInt q.2.2) ∈ z_W0
set_option maxRecDepth 100000 in
theorem z_f_0 : z_fP ((3, 11, 6, 0)) := ⟨_, _, _, rfl, by decide, z_t1 40 rfl rfl⟩
set_option maxRecDepth 100000 in
theorem z_f_1 : z_fP ((3, 15, 6, 1)) := ⟨_, _, _, rfl, by decide, z_t1 41 rfl rfl⟩
set_option maxRecDepth 100000 in
theorem z_f_2 : z_fP ((3, 19, 6, 2)) := ⟨_, _, _, rfl, by decide, z_t1 42 rfl rfl⟩
set_option maxRecDepth 100000 in
theorem z_f_3 : z_fP ((3, 22, 6, 3)) := ⟨_, _, _, rfl, by decide, z_t1 43 rfl rfl⟩
set_option maxRecDepth 100000 in
theorem z_f_4 : z_fP ((3, 25, 6, 4)) := ⟨_, _, _, rfl, by decide, z_t1 44 rfl rfl⟩
set_option maxRecDepth 100000 in
theorem z_f_5 : z_fP ((3, 28, 6, 5)) := ⟨_, _, _, rfl, by decide, z_t1 45 rfl rfl⟩
set_option maxRecDepth 100000 in
theorem z_f_6 : z_fP ((3, 31, 6, 6)) := ⟨_, _, _, rfl, by decide, z_t1 46 rfl rfl⟩
set_option maxRecDepth 100000 in
theorem z_f_7 : z_fP ((5, 9, 4, 0)) := ⟨_, _, _, rfl, by decide, z_t1 69 rfl rfl⟩
set_option maxRecDepth 100000 in
theorem z_f_8 : z_fP ((5, 15, 4, 1)) := ⟨_, _, _, rfl, by decide, z_t1 70 rfl rfl⟩
set_option maxRecDepth 100000 in
theorem z_f_9 : z_fP ((5, 18, 4, 2)) := ⟨_, _, _, rfl, by decide, z_t1 71 rfl rfl⟩
set_option maxRecDepth 100000 in
theorem z_f_10 : z_fP ((9, 11, 1, 0)) := ⟨_, _, _, rfl, by decide, z_t1 86 rfl rfl⟩
set_option maxRecDepth 100000 in
theorem z_f_11 : z_fP ((9, 15, 1, 1)) := ⟨_, _, _, rfl, by decide, z_t1 87 rfl rfl⟩
set_option maxRecDepth 100000 in
theorem z_f_12 : z_fP ((9, 19, 1, 2)) := ⟨_, _, _, rfl, by decide, z_t1 88 rfl rfl⟩
set_option maxRecDepth 100000 in
theorem z_f_13 : z_fP ((9, 22, 1, 3)) := ⟨_, _, _, rfl, by decide, z_t1 89 rfl rfl⟩
set_option maxRecDepth 100000 in
theorem z_f_14 : z_fP ((9, 25, 1, 4)) := ⟨_, _, _, rfl, by decide, z_t1 90 rfl rfl⟩
set_option maxRecDepth 100000 in
theorem z_f_15 : z_fP ((10, 12, 2, 0)) := ⟨_, _, _, rfl, by decide, z_t1 109 rfl rfl⟩
set_option maxRecDepth 100000 in
theorem z_f_16 : z_fP ((10, 16, 2, 1)) := ⟨_, _, _, rfl, by decide, z_t1 110 rfl rfl⟩
set_option maxRecDepth 100000 in
theorem z_f_17 : z_fP ((10, 19, 2, 2)) := ⟨_, _, _, rfl, by decide, z_t1 111 rfl rfl⟩
set_option maxRecDepth 100000 in
theorem z_f_18 : z_fP ((10, 22, 2, 3)) := ⟨_, _, _, rfl, by decide, z_t1 112 rfl rfl⟩
set_option maxRecDepth 100000 in
theorem z_f_19 : z_fP ((10, 26, 2, 4)) := ⟨_, _, _, rfl, by decide, z_t1 113 rfl rfl⟩
set_option maxRecDepth 100000 in
theorem z_f_20 : z_fP ((10, 30, 2, 5)) := ⟨_, _, _, rfl, by decide, z_t1 114 rfl rfl⟩
set_option maxRecDepth 100000 in
theorem z_f_21 : z_fP ((10, 34, 2, 6)) := ⟨_, _, _, rfl, by decide, z_t1 115 rfl rfl⟩
set_option maxRecDepth 100000 in
theorem z_f_22 : z_fP ((6, 9, 8, 0)) := ⟨_, _, _, rfl, by decide, z_t1 143 rfl rfl⟩
set_option maxRecDepth 100000 in
theorem z_f_23 : z_fP ((6, 15, 8, 1)) := ⟨_, _, _, rfl, by decide, z_t1 144 rfl rfl⟩
set_option maxRecDepth 100000 in
theorem z_f_24 : z_fP ((9, 42, 8, 1)) := ⟨_, _, _, rfl, by decide, z_t1 145 rfl rfl⟩
set_option maxRecDepth 100000 in
theorem z_f_25 : z_fP ((11, 70, 8, 1)) := ⟨_, _, _, rfl, by decide, z_t1 146 rfl rfl⟩
set_option maxRecDepth 100000 in
theorem z_f_26 : z_fP ((7, 32, 8, 1)) := ⟨_, _, _, rfl, by decide, z_t1 147 rfl rfl⟩
set_option maxRecDepth 100000 in
theorem z_f_27 : z_fP ((13, 172, 8, 1)) := ⟨_, _, _, rfl, by decide, z_t1 148 rfl rfl⟩
set_option maxRecDepth 100000 in
theorem z_f_28 : z_fP ((5, 61, 8, 1)) := ⟨_, _, _, rfl, by decide, z_t1 149 rfl rfl⟩
set_option maxRecDepth 100000 in
theorem z_f_29 : z_fP ((10, 153, 8, 1)) := ⟨_, _, _, rfl, by decide, z_t1 150 rfl rfl⟩
set_option maxRecDepth 100000 in
theorem z_f_30 : z_fP ((7, 9, 3, 0)) := ⟨_, _, _, rfl, by decide, z_t1 162 rfl rfl⟩
set_option maxRecDepth 100000 in
theorem z_f_31 : z_fP ((7, 15, 3, 1)) := ⟨_, _, _, rfl, by decide, z_t1 163 rfl rfl⟩
set_option maxRecDepth 100000 in
theorem z_f_32 : z_fP ((11, 52, 3, 1)) := ⟨_, _, _, rfl, by decide, z_t1 164 rfl rfl⟩
set_option maxRecDepth 100000 in
theorem z_f_33 : z_fP ((13, 308, 3, 1)) := ⟨_, _, _, rfl, by decide, z_t1 165 rfl rfl⟩
set_option maxRecDepth 100000 in
theorem z_f_34 : z_fP ((7, 19, 3, 2)) := ⟨_, _, _, rfl, by decide, z_t1 166 rfl rfl⟩
set_option maxRecDepth 100000 in
theorem z_f_35 : z_fP ((11, 59, 3, 2)) := ⟨_, _, _, rfl, by decide, z_t1 167 rfl rfl⟩
set_option maxRecDepth 100000 in
theorem z_f_36 : z_fP ((11, 12, 7, 0)) := ⟨_, _, _, rfl, by decide, z_t1 175 rfl rfl⟩
set_option maxRecDepth 100000 in
theorem z_f_37 : z_fP ((11, 21, 7, 1)) := ⟨_, _, _, rfl, by decide, z_t1 176 rfl rfl⟩
set_option maxRecDepth 100000 in
theorem z_f_38 : z_fP ((11, 25, 7, 2)) := ⟨_, _, _, rfl, by decide, z_t1 177 rfl rfl⟩
set_option maxRecDepth 100000 in
theorem z_f_39 : z_fP ((11, 29, 7, 3)) := ⟨_, _, _, rfl, by decide, z_t1 178 rfl rfl⟩
set_option maxRecDepth 100000 in
theorem z_f_40 : z_fP ((11, 32, 7, 4)) := ⟨_, _, _, rfl, by decide, z_t1 179 rfl rfl⟩
set_option maxRecDepth 100000 in
theorem z_f_41 : z_fP ((12, 9, 9, 0)) := ⟨_, _, _, rfl, by decide, z_t1 197 rfl rfl⟩
set_option maxRecDepth 100000 in
theorem z_f_42 : z_fP ((12, 15, 9, 1)) := ⟨_, _, _, rfl, by decide, z_t1 198 rfl rfl⟩
set_option maxRecDepth 100000 in
theorem z_f_43 : z_fP ((13, 347, 9, 1)) := ⟨_, _, _, rfl, by decide, z_t1 199 rfl rfl⟩
set_option maxRecDepth 100000 in
theorem z_f_44 : z_fP ((12, 19, 9, 2)) := ⟨_, _, _, rfl, by decide, z_t1 200 rfl rfl⟩
set_option maxRecDepth 100000 in
theorem z_f_45 : z_fP ((13, 350, 9, 2)) := ⟨_, _, _, rfl, by decide, z_t1 201 rfl rfl⟩
set_option maxRecDepth 100000 in
theorem z_f_46 : z_fP ((8, 12, 5, 0)) := ⟨_, _, _, rfl, by decide, z_t1 221 rfl rfl⟩
set_option maxRecDepth 100000 in
theorem z_f_47 : z_fP ((13, 169, 5, 0)) := ⟨_, _, _, rfl, by decide, z_t1 222 rfl rfl⟩
set_option maxRecDepth 100000 in
theorem z_f_48 : z_fP ((8, 21, 5, 1)) := ⟨_, _, _, rfl, by decide, z_t1 223 rfl rfl⟩
set_option maxRecDepth 100000 in
theorem z_f_49 : z_fP ((13, 298, 5, 1)) := ⟨_, _, _, rfl, by decide, z_t1 224 rfl rfl⟩
set_option maxRecDepth 100000 in
theorem z_f_50 : z_fP ((8, 25, 5, 2)) := ⟨_, _, _, rfl, by decide, z_t1 225 rfl rfl⟩
set_option maxRecDepth 100000 in
theorem z_f_51 : z_fP ((8, 29, 5, 3)) := ⟨_, _, _, rfl, by decide, z_t1 226 rfl rfl⟩
set_option maxRecDepth 100000 in
theorem z_f_52 : z_fP ((12, 33, 5, 3)) := ⟨_, _, _, rfl, by decide, z_t1 227 rfl rfl⟩
set_option maxRecDepth 100000 in
theorem z_f_53 : z_fP ((13, 338, 5, 3)) := ⟨_, _, _, rfl, by decide, z_t1 228 rfl rfl⟩
set_option maxRecDepth 100000 in
theorem z_f_54 : z_fP ((4, 9, 0, 0)) := ⟨_, _, _, rfl, by decide, z_t2 5 rfl rfl⟩
set_option maxRecDepth 100000 in
theorem z_f_55 : z_fP ((13, 154, 0, 0)) := ⟨_, _, _, rfl, by decide, z_t2 6 rfl rfl⟩
set_option maxRecDepth 100000 in
theorem z_f_56 : z_fP ((9, 86, 0, 0)) := ⟨_, _, _, rfl, by decide, z_t2 7 rfl rfl⟩
set_option maxRecDepth 100000 in
theorem z_f_57 : z_fP ((4, 15, 0, 1)) := ⟨_, _, _, rfl, by decide, z_t2 8 rfl rfl⟩
set_option maxRecDepth 100000 in
theorem z_f_58 : z_fP ((13, 157, 0, 1)) := ⟨_, _, _, rfl, by decide, z_t2 9 rfl rfl⟩
set_option maxRecDepth 100000 in
theorem z_f_59 : z_fP ((4, 18, 0, 2)) := ⟨_, _, _, rfl, by decide, z_t2 10 rfl rfl⟩
set_option maxRecDepth 100000 in
theorem z_f_60 : z_fP ((13, 86, 0, 2)) := ⟨_, _, _, rfl, by decide, z_t2 11 rfl rfl⟩
set_option maxRecDepth 100000 in
theorem z_f_61 : z_fP ((4, 21, 0, 3)) := ⟨_, _, _, rfl, by decide, z_t2 12 rfl rfl⟩
set_option maxRecDepth 100000 in
theorem z_f_62 : z_fP ((13, 89, 0, 3)) := ⟨_, _, _, rfl, by decide, z_t2 13 rfl rfl⟩
set_option maxRecDepth 100000 in
theorem z_f_63 : z_fP ((4, 24, 0, 4)) := ⟨_, _, _, rfl, by decide, z_t2 14 rfl rfl⟩
set_option maxRecDepth 100000 in
theorem z_f_64 : z_fP ((13, 166, 0, 4)) := ⟨_, _, _, rfl, by decide, z_t2 15 rfl rfl⟩
set_option maxRecDepth 100000 in
theorem z_f_65 : z_fP ((6, 42, 0, 4)) := ⟨_, _, _, rfl, by decide, z_t2 16 rfl rfl⟩
set_option maxRecDepth 100000 in
theorem z_f_66 : z_fP ((4, 27, 0, 5)) := ⟨_, _, _, rfl, by decide, z_t2 17 rfl rfl⟩
set_option maxRecDepth 100000 in
theorem z_f_67 : z_fP ((9, 66, 0, 5)) := ⟨_, _, _, rfl, by decide, z_t2 18 rfl rfl⟩
set_option maxRecDepth 100000 in
theorem z_f_68 : z_fP ((13, 160, 0, 5)) := ⟨_, _, _, rfl, by decide, z_t2 19 rfl rfl⟩
set_option maxRecDepth 100000 in
theorem z_f_69 : z_fP ((10, 83, 0, 5)) := ⟨_, _, _, rfl, by decide, z_t2 20 rfl rfl⟩
set_option maxRecDepth 100000 in
theorem z_f_70 : z_fP ((4, 30, 0, 6)) := ⟨_, _, _, rfl, by decide, z_t2 21 rfl rfl⟩
set_option maxRecDepth 100000 in
theorem z_f_71 : z_fP ((13, 163, 0, 6)) := ⟨_, _, _, rfl, by decide, z_t2 22 rfl rfl⟩
set_option maxRecDepth 100000 in
theorem z_f_72 : z_fP ((13, 10, 10, 0)) := ⟨_, _, _, rfl, by decide, z_t2 55 rfl rfl⟩
set_option maxRecDepth 100000 in
theorem z_f_73 : z_fP ((13, 19, 10, 1)) := ⟨_, _, _, rfl, by decide, z_t2 56 rfl rfl⟩
set_option maxRecDepth 100000 in
theorem z_f_74 : z_fP ((13, 26, 10, 2)) := ⟨_, _, _, rfl, by decide, z_t2 57 rfl rfl⟩
set_option maxRecDepth 100000 in
theorem z_f_75 : z_fP ((13, 33, 10, 3)) := ⟨_, _, _, rfl, by decide, z_t2 58 rfl rfl⟩
set_option maxRecDepth 100000 in
theorem z_f_76 : z_fP ((13, 40, 10, 4)) := ⟨_, _, _, rfl, by decide, z_t2 59 rfl rfl⟩
set_option maxRecDepth 100000 in
theorem z_f_77 : z_fP ((13, 47, 10, 5)) := ⟨_, _, _, rfl, by decide, z_t2 60 rfl rfl⟩
set_option maxRecDepth 100000 in
theorem z_f_78 : z_fP ((13, 54, 10, 6)) := ⟨_, _, _, rfl, by decide, z_t2 61 rfl rfl⟩
set_option maxRecDepth 100000 in
theorem z_f_79 : z_fP ((13, 61, 10, 7)) := ⟨_, _, _, rfl, by decide, z_t2 62 rfl rfl⟩
set_option maxRecDepth 100000 in
theorem z_f_80 : z_fP ((13, 65, 10, 8)) := ⟨_, _, _, rfl, by decide, z_t2 63 rfl rfl⟩
set_option maxRecDepth 100000 in
theorem z_f_81 : z_fP ((13, 72, 10, 9)) := ⟨_, _, _, rfl, by decide, z_t2 64 rfl rfl⟩
set_option maxRecDepth 100000 in
theorem z_f_82 : z_fP ((13, 76, 10, 10)) := ⟨_, _, _, rfl, by decide, z_t2 65 rfl rfl⟩
set_option maxRecDepth 100000 in
theorem z_f_83 : z_fP ((13, 79, 10, 11)) := ⟨_, _, _, rfl, by decide, z_t2 66 rfl rfl⟩
set_option maxRecDepth 100000 in
theorem z_f_84 : z_fP ((13, 83, 10, 12)) := ⟨_, _, _, rfl, by decide, z_t2 67 rfl rfl⟩
set_option maxRecDepth 100000 in
theorem z_f_85 : z_fP ((14, 112, 11, 0)) := ⟨_, _, _, rfl, by decide, z_t6 101 rfl rfl⟩
set_option maxRecDepth 100000 in
theorem z_f_86 : z_fP ((14, 115, 11, 1)) := ⟨_, _, _, rfl, by decide, z_t6 102 rfl rfl⟩
set_option maxRecDepth 100000 in
theorem z_f_87 : z_fP ((14, 118, 11, 2)) := ⟨_, _, _, rfl, by decide, z_t6 103 rfl rfl⟩
set_option maxRecDepth 100000 in
theorem z_f_88 : z_fP ((14, 9, 11, 3)) := ⟨_, _, _, rfl, by decide, z_t6 104 rfl rfl⟩
set_option maxRecDepth 100000 in
theorem z_f_89 : z_fP ((14, 121, 11, 4)) := ⟨_, _, _, rfl, by decide, z_t6 105 rfl rfl⟩
set_option maxRecDepth 100000 in
theorem z_f_90 : z_fP ((14, 128, 11, 5)) := ⟨_, _, _, rfl, by decide, z_t6 106 rfl rfl⟩
set_option maxRecDepth 100000 in
theorem z_f_91 : z_fP ((14, 131, 11, 6)) := ⟨_, _, _, rfl, by decide, z_t6 107 rfl rfl⟩
set_option maxRecDepth 100000 in
theorem z_f_92 : z_fP ((14, 161, 11, 7)) := ⟨_, _, _, rfl, by decide, z_t6 108 rfl rfl⟩
set_option maxRecDepth 100000 in
theorem z_f_93 : z_fP ((14, 13, 11, 8)) := ⟨_, _, _, rfl, by decide, z_t6 109 rfl rfl⟩
set_option maxRecDepth 100000 in
theorem z_f_94 : z_fP ((14, 17, 11, 9)) := ⟨_, _, _, rfl, by decide, z_t6 110 rfl rfl⟩
set_option maxRecDepth 100000 in
theorem z_f_95 : z_fP ((14, 20, 11, 10)) := ⟨_, _, _, rfl, by decide, z_t6 111 rfl rfl⟩
set_option maxRecDepth 100000 in
theorem z_f_96 : z_fP ((14, 23, 11, 11)) := ⟨_, _, _, rfl, by decide, z_t6 112 rfl rfl⟩
set_option maxRecDepth 100000 in
theorem z_f_97 : z_fP ((14, 26, 11, 12)) := ⟨_, _, _, rfl, by decide, z_t6 113 rfl rfl⟩
set_option maxRecDepth 100000 in
theorem z_f_98 : z_fP ((14, 189, 11, 13)) := ⟨_, _, _, rfl, by decide, z_t6 114 rfl rfl⟩
set_option maxRecDepth 100000 in
theorem z_f_99 : z_fP ((14, 192, 11, 14)) := ⟨_, _, _, rfl, by decide, z_t6 115 rfl rfl⟩
set_option maxRecDepth 100000 in
theorem z_f_100 : z_fP ((14, 195, 11, 15)) := ⟨_, _, _, rfl, by decide, z_t6 116 rfl rfl⟩
set_option maxRecDepth 100000 in
theorem z_f_101 : z_fP ((14, 198, 11, 16)) := ⟨_, _, _, rfl, by decide, z_t6 117 rfl rfl⟩
set_option maxRecDepth 100000 in
theorem z_f_102 : z_fP ((14, 462, 11, 17)) := ⟨_, _, _, rfl, by decide, z_t6 118 rfl rfl⟩
set_option maxRecDepth 100000 in
theorem z_f_103 : z_fP ((14, 31, 11, 18)) := ⟨_, _, _, rfl, by decide, z_t6 119 rfl rfl⟩
set_option maxRecDepth 100000 in
theorem z_f_104 : z_fP ((14, 34, 11, 19)) := ⟨_, _, _, rfl, by decide, z_t6 120 rfl rfl⟩
set_option maxRecDepth 100000 in
theorem z_f_105 : z_fP ((14, 37, 11, 20)) := ⟨_, _, _, rfl, by decide, z_t6 121 rfl rfl⟩
set_option maxRecDepth 100000 in
theorem z_f_106 : z_fP ((14, 40, 11, 21)) := ⟨_, _, _, rfl, by decide, z_t6 122 rfl rfl⟩
set_option maxRecDepth 100000 in
theorem z_f_107 : z_fP ((14, 44, 11, 22)) := ⟨_, _, _, rfl, by decide, z_t6 123 rfl rfl⟩
set_option maxRecDepth 100000 in
theorem z_f_108 : z_fP ((14, 47, 11, 23)) := ⟨_, _, _, rfl, by decide, z_t6 124 rfl rfl⟩
set_option maxRecDepth 100000 in
theorem z_f_109 : z_fP ((14, 50, 11, 24)) := ⟨_, _, _, rfl, by decide, z_t6 125 rfl rfl⟩
set_option maxRecDepth 100000 in
theorem z_f_110 : z_fP ((14, 53, 11, 25)) := ⟨_, _, _, rfl, by decide, z_t6 126 rfl rfl⟩
set_option maxRecDepth 100000 in
theorem z_f_111 : z_fP ((14, 56, 11, 26)) := ⟨_, _, _, rfl, by decide, z_t6 127 rfl rfl⟩
set_option maxRecDepth 100000 in
theorem z_f_112 : z_fP ((14, 59, 11, 27)) := ⟨_, _, _, rfl, by decide, z_t6 128 rfl rfl⟩
set_option maxRecDepth 100000 in
theorem z_f_113 : z_fP ((14, 62, 11, 28)) := ⟨_, _, _, rfl, by decide, z_t6 129 rfl rfl⟩
set_option maxRecDepth 100000 in
theorem z_f_114 : z_fP ((14, 65, 11, 29)) := ⟨_, _, _, rfl, by decide, z_t6 130 rfl rfl⟩
set_option maxRecDepth 100000 in
theorem z_f_115 : z_fP ((14, 68, 11, 30)) := ⟨_, _, _, rfl, by decide, z_t6 131 rfl rfl⟩
set_option maxRecDepth 100000 in
theorem z_f_116 : z_fP ((14, 71, 11, 31)) := ⟨_, _, _, rfl, by decide, z_t6 132 rfl rfl⟩
set_option maxRecDepth 100000 in
theorem z_f_117 : z_fP ((14, 74, 11, 32)) := ⟨_, _, _, rfl, by decide, z_t6 133 rfl rfl⟩
set_option maxRecDepth 100000 in
theorem z_f_118 : z_fP ((14, 324, 11, 33)) := ⟨_, _, _, rfl, by decide, z_t6 134 rfl rfl⟩
set_option maxRecDepth 100000 in
theorem z_f_119 : z_fP ((14, 78, 11, 34)) := ⟨_, _, _, rfl, by decide, z_t6 135 rfl rfl⟩
set_option maxRecDepth 100000 in
theorem z_f_120 : z_fP ((14, 81, 11, 35)) := ⟨_, _, _, rfl, by decide, z_t6 136 rfl rfl⟩
set_option maxRecDepth 100000 in
theorem z_f_121 : z_fP ((14, 84, 11, 36)) := ⟨_, _, _, rfl, by decide, z_t6 137 rfl rfl⟩
set_option maxRecDepth 100000 in
theorem z_f_122 : z_fP ((14, 87, 11, 37)) := ⟨_, _, _, rfl, by decide, z_t6 138 rfl rfl⟩
set_option maxRecDepth 100000 in
theorem z_f_123 : z_fP ((14, 91, 11, 38)) := ⟨_, _, _, rfl, by decide, z_t6 139 rfl rfl⟩
set_option maxRecDepth 100000 in
theorem z_f_124 : z_fP ((14, 94, 11, 39)) := ⟨_, _, _, rfl, by decide, z_t6 140 rfl rfl⟩
set_option maxRecDepth 100000 in
theorem z_f_125 : z_fP ((14, 97, 11, 40)) := ⟨_, _, _, rfl, by decide, z_t6 141 rfl rfl⟩
set_option maxRecDepth 100000 in
theorem z_f_126 : z_fP ((14, 100, 11, 41)) := ⟨_, _, _, rfl, by decide, z_t6 142 rfl rfl⟩
set_option maxRecDepth 100000 in
theorem z_f_127 : z_fP ((14, 415, 11, 42)) := ⟨_, _, _, rfl, by decide, z_t6 143 rfl rfl⟩
set_option maxRecDepth 100000 in
theorem z_f_128 : z_fP ((14, 427, 11, 43)) := ⟨_, _, _, rfl, by decide, z_t6 144 rfl rfl⟩
set_option maxRecDepth 100000 in
theorem z_f_129 : z_fP ((14, 103, 11, 44)) := ⟨_, _, _, rfl, by decide, z_t6 145 rfl rfl⟩
set_option maxRecDepth 100000 in
theorem z_f_130 : z_fP ((14, 452, 11, 45)) := ⟨_, _, _, rfl, by decide, z_t6 146 rfl rfl⟩
set_option maxRecDepth 100000 in
theorem z_f_131 : z_fP ((14, 455, 11, 46)) := ⟨_, _, _, rfl, by decide, z_t6 147 rfl rfl⟩
def z_fL : List (Nat × Nat × Nat × Nat) := [(3, 11, 6, 0), (3, 15, 6, 1), (3, 19, 6, 2), (3, 22, 6, 3), (3, 25, 6, 4), (3, 28, 6, 5), (3, 31, 6, 6), (5, 9, 4, 0), (5, 15, 4, 1), (5, 18, 4, 2), (9, 11, 1, 0), (9, 15, 1, 1), (9, 19, 1, 2), (9, 22, 1, 3), (9, 25, 1, 4), (10, 12, 2, 0), (10, 16, 2, 1), (10, 19, 2, 2), (10, 22, 2, 3), (10, 26, 2, 4), (10, 30, 2, 5), (10, 34, 2, 6), (6, 9, 8, 0), (6, 15, 8, 1), (9, 42, 8, 1), (11, 70, 8, 1), (7, 32, 8, 1), (13, 172, 8, 1), (5, 61, 8, 1), (10, 153, 8, 1), (7, 9, 3, 0), (7, 15, 3, 1), (11, 52, 3, 1), (13, 308, 3, 1), (7, 19, 3, 2), (11, 59, 3, 2), (11, 12, 7, 0), (11, 21, 7, 1), (11, 25, 7, 2), (11, 29, 7, 3), (11, 32, 7, 4), (12, 9, 9, 0), (12, 15, 9, 1), (13, 347, 9, 1), (12, 19, 9, 2), (13, 350, 9, 2), (8, 12, 5, 0), (13, 169, 5, 0), (8, 21, 5, 1), (13, 298, 5, 1), (8, 25, 5, 2), (8, 29, 5, 3), (12, 33, 5, 3), (13, 338, 5, 3), (4, 9, 0, 0), (13, 154, 0, 0), (9, 86, 0, 0), (4, 15, 0, 1), (13, 157, 0, 1), (4, 18, 0, 2), (13, 86, 0, 2), (4, 21, 0, 3), (13, 89, 0, 3), (4, 24, 0, 4), (13, 166, 0, 4), (6, 42, 0, 4), (4, 27, 0, 5), (9, 66, 0, 5), (13, 160, 0, 5), (10, 83, 0, 5), (4, 30, 0, 6), (13, 163, 0, 6), (13, 10, 10, 0), (13, 19, 10, 1), (13, 26, 10, 2), (13, 33, 10, 3), (13, 40, 10, 4), (13, 47, 10, 5), (13, 54, 10, 6), (13, 61, 10, 7), (13, 65, 10, 8), (13, 72, 10, 9), (13, 76, 10, 10), (13, 79, 10, 11), (13, 83, 10, 12), (14, 112, 11, 0), (14, 115, 11, 1), (14, 118, 11, 2), (14, 9, 11, 3), (14, 121, 11, 4), (14, 128, 11, 5), (14, 131, 11, 6), (14, 161, 11, 7), (14, 13, 11, 8), (14, 17, 11, 9), (14, 20, 11, 10), (14, 23, 11, 11), (14, 26, 11, 12), (14, 189, 11, 13), (14, 192, 11, 14), (14, 195, 11, 15), (14, 198, 11, 16), (14, 462, 11, 17), (14, 31, 11, 18), (14, 34, 11, 19), (14, 37, 11, 20), (14, 40, 11, 21), (14, 44, 11, 22), (14, 47, 11, 23), (14, 50, 11, 24), (14, 53, 11, 25), (14, 56, 11, 26), (14, 59, 11, 27), (14, 62, 11, 28), (14, 65, 11, 29), (14, 68, 11, 30), (14, 71, 11, 31), (14, 74, 11, 32), (14, 324, 11, 33), (14, 78, 11, 34), (14, 81, 11, 35), (14, 84, 11, 36), (14, 87, 11, 37), (14, 91, 11, 38), (14, 94, 11, 39), (14, 97, 11, 40), (14, 100, 11, 41), (14, 415, 11, 42), (14, 427, 11, 43), (14, 103, 11, 44), (14, 452, 11, 45), (14, 455, 11, 46)]
set_option maxRecDepth 100000 in
theorem z_f_ok : ∀ q ∈ z_fL, z_fP q := List.forall_mem_cons.mpr ⟨z_f_0, List.forall_mem_cons.mpr ⟨z_f_1, List.forall_mem_cons.mpr ⟨z_f_2, List.forall_mem_cons.mpr ⟨z_f_3, List.forall_mem_cons.mpr ⟨z_f_4, List.forall_mem_cons.mpr ⟨z_f_5, List.forall_mem_cons.mpr ⟨z_f_6, List.forall_mem_cons.mpr ⟨z_f_7, List.forall_mem_cons.mpr ⟨z_f_8, List.forall_mem_cons.mpr ⟨z_f_9, List.forall_mem_cons.mpr ⟨z_f_10, List.forall_mem_cons.mpr ⟨z_f_11, List.forall_mem_cons.mpr ⟨z_f_12, List.forall_mem_cons.mpr ⟨z_f_13, List.forall_mem_cons.mpr ⟨z_f_14, List.forall_mem_cons.mpr ⟨z_f_15, List.forall_mem_cons.mpr ⟨z_f_16, List.forall_mem_cons.mpr ⟨z_f_17, List.forall_mem_cons.mpr ⟨z_f_18, List.forall_mem_cons.mpr ⟨z_f_19, List.forall_mem_cons.mpr ⟨z_f_20, List.forall_mem_cons.mpr ⟨z_f_21, List.forall_mem_cons.mpr ⟨z_f_22, List.forall_mem_cons.mpr ⟨z_f_23, List.forall_mem_cons.mpr ⟨z_f_24, List.forall_mem_cons.mpr ⟨z_f_25, List.forall_mem_cons.mpr ⟨z_f_26, List.forall_mem_cons.mpr ⟨z_f_27, List.forall_mem_cons.mpr ⟨z_f_28, List.forall_mem_cons.mpr ⟨z_f_29, List.forall_mem_cons.mpr ⟨z_f_30, List.forall_mem_cons.mpr ⟨z_f_31, List.forall_mem_cons.mpr ⟨z_f_32, List.forall_mem_cons.mpr ⟨z_f_33, List.forall_mem_cons.mpr ⟨z_f_34, List.forall_mem_cons.mpr ⟨z_f_35, List.forall_mem_cons.mpr ⟨z_f_36, List.forall_mem_cons.mpr ⟨z_f_37, List.forall_mem_cons.mpr ⟨z_f_38, List.forall_mem_cons.mpr ⟨z_f_39, List.forall_mem_cons.mpr ⟨z_f_40, List.forall_mem_cons.mpr ⟨z_f_41, List.forall_mem_cons.mpr ⟨z_f_42, List.forall_mem_cons.mpr ⟨z_f_43, List.forall_mem_cons.mpr ⟨z_f_44, List.forall_mem_cons.mpr ⟨z_f_45, List.forall_mem_cons.mpr ⟨z_f_46, List.forall_mem_cons.mpr ⟨z_f_47, List.forall_mem_cons.mpr ⟨z_f_48, List.forall_mem_cons.mpr ⟨z_f_49, List.forall_mem_cons.mpr ⟨z_f_50, List.forall_mem_cons.mpr ⟨z_f_51, List.forall_mem_cons.mpr ⟨z_f_52, List.forall_mem_cons.mpr ⟨z_f_53, List.forall_mem_cons.mpr ⟨z_f_54, List.forall_mem_cons.mpr ⟨z_f_55, List.forall_mem_cons.mpr ⟨z_f_56, List.forall_mem_cons.mpr ⟨z_f_57, List.forall_mem_cons.mpr ⟨z_f_58, List.forall_mem_cons.mpr ⟨z_f_59, List.forall_mem_cons.mpr ⟨z_f_60, List.forall_mem_cons.mpr ⟨z_f_61, List.forall_mem_cons.mpr ⟨z_f_62, List.forall_mem_cons.mpr ⟨z_f_63, List.forall_mem_cons.mpr ⟨z_f_64, List.forall_mem_cons.mpr ⟨z_f_65, List.forall_mem_cons.mpr ⟨z_f_66, List.forall_mem_cons.mpr ⟨z_f_67, List.forall_mem_cons.mpr ⟨z_f_68, List.forall_mem_cons.mpr ⟨z_f_69, List.forall_mem_cons.mpr ⟨z_f_70, List.forall_mem_cons.mpr ⟨z_f_71, List.forall_mem_cons.mpr ⟨z_f_72, List.forall_mem_cons.mpr ⟨z_f_73, List.forall_mem_cons.mpr ⟨z_f_74, List.forall_mem_cons.mpr ⟨z_f_75, List.forall_mem_cons.mpr ⟨z_f_76, List.forall_mem_cons.mpr ⟨z_f_77, List.forall_mem_cons.mpr ⟨z_f_78, List.forall_mem_cons.mpr ⟨z_f_79, List.forall_mem_cons.mpr ⟨z_f_80, List.forall_mem_cons.mpr ⟨z_f_81, List.forall_mem_cons.mpr ⟨z_f_82, List.forall_mem_cons.mpr ⟨z_f_83, List.forall_mem_cons.mpr ⟨z_f_84, List.forall_mem_cons.mpr ⟨z_f_85, List.forall_mem_cons.mpr ⟨z_f_86, List.forall_mem_cons.mpr ⟨z_f_87, List.forall_mem_cons.mpr ⟨z_f_88, List.forall_mem_cons.mpr ⟨z_f_89, List.forall_mem_cons.mpr ⟨z_f_90, List.forall_mem_cons.mpr ⟨z_f_91, List.forall_mem_cons.mpr ⟨z_f_92, List.forall_mem_cons.mpr ⟨z_f_93, List.forall_mem_cons.mpr ⟨z_f_94, List.forall_mem_cons.mpr ⟨z_f_95, List.forall_mem_cons.mpr ⟨z_f_96, List.forall_mem_cons.mpr ⟨z_f_97, List.forall_mem_cons.mpr ⟨z_f_98, List.forall_mem_cons.mpr ⟨z_f_99, List.forall_mem_cons.mpr ⟨z_f_100, List.forall_mem_cons.mpr ⟨z_f_101, List.forall_mem_cons.mpr ⟨z_f_102, List.forall_mem_cons.mpr ⟨z_f_103, List.forall_mem_cons.mpr ⟨z_f_104, List.forall_mem_cons.mpr ⟨z_f_105, List.forall_mem_cons.mpr ⟨z_f_106, List.forall_mem_cons.mpr ⟨z_f_107, List.forall_mem_cons.mpr ⟨z_f_108, List.forall_mem_cons.mpr ⟨z_f_109, List.forall_mem_cons.mpr ⟨z_f_110, List.forall_mem_cons.mpr ⟨z_f_111, List.forall_mem_cons.mpr ⟨z_f_112, List.forall_mem_cons.mpr ⟨z_f_113, List.forall_mem_cons.mpr ⟨z_f_114, List.forall_mem_cons.mpr ⟨z_f_115, List.forall_mem_cons.mpr ⟨z_f_116, List.forall_mem_cons.mpr ⟨z_f_117, List.forall_mem_cons.mpr ⟨z_f_118, List.forall_mem_cons.mpr ⟨z_f_119, List.forall_mem_cons.mpr ⟨z_f_120, List.forall_mem_cons.mpr ⟨z_f_121, List.forall_mem_cons.mpr ⟨z_f_122, List.forall_mem_cons.mpr ⟨z_f_123, List.forall_mem_cons.mpr ⟨z_f_124, List.forall_mem_cons.mpr ⟨z_f_125, List.forall_mem_cons.mpr ⟨z_f_126, List.forall_mem_cons.mpr ⟨z_f_127, List.forall_mem_cons.mpr ⟨z_f_128, List.forall_mem_cons.mpr ⟨z_f_129, List.forall_mem_cons.mpr ⟨z_f_130, List.forall_mem_cons.mpr ⟨z_f_131, fun _ h => absurd h List.not_mem_nil⟩⟩⟩⟩⟩⟩⟩⟩⟩⟩⟩⟩⟩⟩⟩⟩⟩⟩⟩⟩⟩⟩⟩⟩⟩⟩⟩⟩⟩⟩⟩⟩⟩⟩⟩⟩⟩⟩⟩⟩⟩⟩⟩⟩⟩⟩⟩⟩⟩⟩⟩⟩⟩⟩⟩⟩⟩⟩⟩⟩⟩⟩⟩⟩⟩⟩⟩⟩⟩⟩⟩⟩⟩⟩⟩⟩⟩⟩⟩⟩⟩⟩⟩⟩⟩⟩⟩⟩⟩⟩⟩⟩⟩⟩⟩⟩⟩⟩⟩⟩⟩⟩⟩⟩⟩⟩⟩⟩⟩⟩⟩⟩⟩⟩⟩⟩⟩⟩⟩⟩⟩⟩⟩⟩⟩⟩⟩⟩⟩⟩⟩⟩
set_option maxRecDepth 100000 in
theorem z_m_0 : z_mP ((15, 78, 135, 0)) := z_t1 28 rfl rfl
set_option maxRecDepth 100000 in
theorem z_m_1 : z_mP ((13, 9, 11, 1)) := ⟨_, List.mem_append_right _ (z_in1 (List.mem_of_getElem? (i := 36) rfl))⟩
set_option maxRecDepth 100000 in
theorem z_m_2 : z_mP ((13, 18, 48, 1)) := ⟨_, List.mem_append_right _ (z_in1 (List.mem_of_getElem? (i := 65) rfl))⟩
set_option maxRecDepth 100000 in
theorem z_m_3 : z_mP ((13, 25, 90, 1)) := ⟨_, List.mem_append_right _ (z_in1 (List.mem_of_getElem? (i := 82) rfl))⟩
set_option maxRecDepth 100000 in
theorem z_m_4 : z_mP ((13, 32, 106, 1)) := ⟨_, List.mem_append_right _ (z_in1 (List.mem_of_getElem? (i := 104) rfl))⟩
set_option maxRecDepth 100000 in
theorem z_m_5 : z_mP ((13, 39, 122, 1)) := ⟨_, List.mem_append_right _ (z_in1 (List.mem_of_getElem? (i := 133) rfl))⟩
set_option maxRecDepth 100000 in
theorem z_m_6 : z_mP ((11, 11, 61, 1)) := ⟨_, List.mem_append_right _ (z_in1 (List.mem_of_getElem? (i := 139) rfl))⟩
set_option maxRecDepth 100000 in
theorem z_m_7 : z_mP ((11, 20, 78, 1)) := ⟨_, List.mem_append_right _ (z_in1 (List.mem_of_getElem? (i := 158) rfl))⟩
set_option maxRecDepth 100000 in
theorem z_m_8 : z_mP ((13, 46, 130, 1)) := ⟨_, List.mem_append_right _ (z_in1 (List.mem_of_getElem? (i := 193) rfl))⟩
set_option maxRecDepth 100000 in
theorem z_m_9 : z_mP ((13, 53, 61, 1)) := ⟨_, List.mem_append_right _ (z_in1 (List.mem_of_getElem? (i := 210) rfl))⟩
set_option maxRecDepth 100000 in
theorem z_m_10 : z_mP ((13, 60, 85, 1)) := ⟨_, List.mem_append_right _ (z_in1 (List.mem_of_getElem? (i := 213) rfl))⟩
set_option maxRecDepth 100000 in
theorem z_m_11 : z_mP ((8, 11, 61, 1)) := ⟨_, List.mem_append_right _ (z_in1 (List.mem_of_getElem? (i := 218) rfl))⟩
set_option maxRecDepth 100000 in
theorem z_m_12 : z_mP ((8, 20, 78, 1)) := ⟨_, List.mem_append_right _ (z_in1 (List.mem_of_getElem? (i := 220) rfl))⟩
set_option maxRecDepth 100000 in
theorem z_m_13 : z_mP ((13, 71, 32, 1)) := ⟨_, List.mem_append_right _ (z_in2 (List.mem_of_getElem? (i := 1) rfl))⟩
set_option maxRecDepth 100000 in
theorem z_m_14 : z_mP ((13, 92, 49, 0)) := z_t2 38 rfl rfl
set_option maxRecDepth 100000 in
theorem z_m_15 : z_mP ((5, 22, 50, 0)) := z_t2 42 rfl rfl
set_option maxRecDepth 100000 in
theorem z_m_16 : z_mP ((5, 32, 10, 0)) := z_t2 49 rfl rfl
set_option maxRecDepth 100000 in
theorem z_m_17 : z_mP ((5, 38, 51, 0)) := z_t2 52 rfl rfl
set_option maxRecDepth 100000 in
theorem z_m_18 : z_mP ((15, 82, 136, 0)) := z_t2 95 rfl rfl
set_option maxRecDepth 100000 in
theorem z_m_19 : z_mP ((13, 96, 12, 0)) := z_t2 99 rfl rfl
set_option maxRecDepth 100000 in
theorem z_m_20 : z_mP ((13, 100, 13, 0)) := z_t2 103 rfl rfl
set_option maxRecDepth 100000 in
theorem z_m_21 : z_mP ((3, 34, 8, 0)) := z_t2 107 rfl rfl
set_option maxRecDepth 100000 in
theorem z_m_22 : z_mP ((13, 104, 14, 0)) := z_t2 110 rfl rfl
set_option maxRecDepth 100000 in
theorem z_m_23 : z_mP ((15, 99, 139, 0)) := z_t2 114 rfl rfl
set_option maxRecDepth 100000 in
theorem z_m_24 : z_mP ((15, 110, 142, 0)) := z_t2 118 rfl rfl
set_option maxRecDepth 100000 in
theorem z_m_25 : z_mP ((13, 189, 65, 0)) := z_t2 122 rfl rfl
set_option maxRecDepth 100000 in
theorem z_m_26 : z_mP ((6, 29, 2, 0)) := z_t2 126 rfl rfl
set_option maxRecDepth 100000 in
theorem z_m_27 : z_mP ((6, 35, 7, 0)) := z_t2 129 rfl rfl
set_option maxRecDepth 100000 in
theorem z_m_28 : z_mP ((15, 139, 150, 0)) := z_t2 132 rfl rfl
set_option maxRecDepth 100000 in
theorem z_m_29 : z_mP ((13, 251, 109, 0)) := z_t2 136 rfl rfl
set_option maxRecDepth 100000 in
theorem z_m_30 : z_mP ((10, 45, 41, 0)) := z_t2 140 rfl rfl
set_option maxRecDepth 100000 in
theorem z_m_31 : z_mP ((4, 81, 38, 0)) := z_t2 144 rfl rfl
set_option maxRecDepth 100000 in
theorem z_m_32 : z_mP ((10, 51, 108, 0)) := z_t2 148 rfl rfl
set_option maxRecDepth 100000 in
theorem z_m_33 : z_mP ((10, 37, 111, 0)) := z_t2 152 rfl rfl
set_option maxRecDepth 100000 in
theorem z_m_34 : z_mP ((10, 71, 38, 0)) := z_t2 156 rfl rfl
set_option maxRecDepth 100000 in
theorem z_m_35 : z_mP ((10, 74, 53, 0)) := z_t2 157 rfl rfl
set_option maxRecDepth 100000 in
theorem z_m_36 : z_mP ((5, 42, 44, 0)) := z_t2 161 rfl rfl
set_option maxRecDepth 100000 in
theorem z_m_37 : z_mP ((5, 48, 3, 0)) := z_t2 165 rfl rfl
set_option maxRecDepth 100000 in
theorem z_m_38 : z_mP ((5, 53, 45, 0)) := z_t2 168 rfl rfl
set_option maxRecDepth 100000 in
theorem z_m_39 : z_mP ((4, 85, 43, 0)) := z_t2 172 rfl rfl
set_option maxRecDepth 100000 in
theorem z_m_40 : z_mP ((5, 57, 9, 0)) := z_t2 176 rfl rfl
set_option maxRecDepth 100000 in
theorem z_m_41 : z_mP ((10, 80, 52, 0)) := z_t2 179 rfl rfl
set_option maxRecDepth 100000 in
theorem z_m_42 : z_mP ((10, 61, 10, 0)) := z_t2 183 rfl rfl
set_option maxRecDepth 100000 in
theorem z_m_43 : z_mP ((10, 86, 45, 0)) := z_t2 184 rfl rfl
set_option maxRecDepth 100000 in
theorem z_m_44 : z_mP ((10, 90, 8, 0)) := z_t2 185 rfl rfl
set_option maxRecDepth 100000 in
theorem z_m_45 : z_mP ((10, 41, 115, 0)) := z_t2 186 rfl rfl
set_option maxRecDepth 100000 in
theorem z_m_46 : z_mP ((10, 96, 0, 0)) := z_t2 190 rfl rfl
set_option maxRecDepth 100000 in
theorem z_m_47 : z_mP ((10, 102, 116, 0)) := z_t2 194 rfl rfl
set_option maxRecDepth 100000 in
theorem z_m_48 : z_mP ((10, 106, 114, 0)) := z_t2 198 rfl rfl
set_option maxRecDepth 100000 in
theorem z_m_49 : z_mP ((10, 109, 113, 0)) := z_t2 202 rfl rfl
set_option maxRecDepth 100000 in
theorem z_m_50 : z_mP ((10, 93, 7, 0)) := z_t2 206 rfl rfl
set_option maxRecDepth 100000 in
theorem z_m_51 : z_mP ((10, 112, 112, 0)) := z_t2 207 rfl rfl
set_option maxRecDepth 100000 in
theorem z_m_52 : z_mP ((10, 67, 9, 0)) := z_t2 211 rfl rfl
set_option maxRecDepth 100000 in
theorem z_m_53 : z_mP ((10, 116, 117, 0)) := z_t2 212 rfl rfl
set_option maxRecDepth 100000 in
theorem z_m_54 : z_mP ((10, 120, 46, 0)) := z_t2 216 rfl rfl
set_option maxRecDepth 100000 in
theorem z_m_55 : z_mP ((10, 55, 119, 0)) := z_t2 220 rfl rfl
set_option maxRecDepth 100000 in
theorem z_m_56 : z_mP ((10, 130, 1, 0)) := z_t2 224 rfl rfl
set_option maxRecDepth 100000 in
theorem z_m_57 : z_mP ((10, 133, 118, 0)) := z_t2 230 rfl rfl
set_option maxRecDepth 100000 in
theorem z_m_58 : z_mP ((10, 124, 6, 0)) := z_t2 234 rfl rfl
set_option maxRecDepth 100000 in
theorem z_m_59 : z_mP ((13, 139, 41, 0)) := z_t2 237 rfl rfl
set_option maxRecDepth 100000 in
theorem z_m_60 : z_mP ((13, 142, 1, 0)) := z_t2 238 rfl rfl
set_option maxRecDepth 100000 in
theorem z_m_61 : z_mP ((13, 268, 174, 0)) := z_t2 239 rfl rfl
set_option maxRecDepth 100000 in
theorem z_m_62 : z_mP ((13, 258, 110, 0)) := z_t3 3 rfl rfl
set_option maxRecDepth 100000 in
theorem z_m_63 : z_mP ((13, 215, 57, 0)) := z_t3 8 rfl rfl
set_option maxRecDepth 100000 in
theorem z_m_64 : z_mP ((5, 78, 56, 0)) := z_t3 11 rfl rfl
set_option maxRecDepth 100000 in
theorem z_m_65 : z_mP ((15, 143, 151, 0)) := z_t3 15 rfl rfl
set_option maxRecDepth 100000 in
theorem z_m_66 : z_mP ((13, 185, 58, 0)) := z_t3 19 rfl rfl
set_option maxRecDepth 100000 in
theorem z_m_67 : z_mP ((13, 272, 4, 0)) := z_t3 24 rfl rfl
set_option maxRecDepth 100000 in
theorem z_m_68 : z_mP ((15, 147, 152, 0)) := z_t3 27 rfl rfl
set_option maxRecDepth 100000 in
theorem z_m_69 : z_mP ((13, 278, 42, 0)) := z_t3 31 rfl rfl
set_option maxRecDepth 100000 in
theorem z_m_70 : z_mP ((13, 281, 38, 0)) := z_t3 35 rfl rfl
set_option maxRecDepth 100000 in
theorem z_m_71 : z_mP ((13, 284, 123, 0)) := z_t3 36 rfl rfl
set_option maxRecDepth 100000 in
theorem z_m_72 : z_mP ((11, 35, 79, 0)) := z_t3 40 rfl rfl
set_option maxRecDepth 100000 in
theorem z_m_73 : z_mP ((11, 38, 41, 0)) := z_t3 44 rfl rfl
set_option maxRecDepth 100000 in
theorem z_m_74 : z_mP ((11, 44, 126, 0)) := z_t3 45 rfl rfl
set_option maxRecDepth 100000 in
theorem z_m_75 : z_mP ((11, 65, 1, 0)) := z_t3 49 rfl rfl
set_option maxRecDepth 100000 in
theorem z_m_76 : z_mP ((11, 73, 0, 0)) := z_t3 50 rfl rfl
set_option maxRecDepth 100000 in
theorem z_m_77 : z_mP ((11, 76, 66, 0)) := z_t3 51 rfl rfl
set_option maxRecDepth 100000 in
theorem z_m_78 : z_mP ((6, 19, 8, 0)) := z_t3 55 rfl rfl
set_option maxRecDepth 100000 in
theorem z_m_79 : z_mP ((11, 48, 128, 0)) := z_t3 56 rfl rfl
set_option maxRecDepth 100000 in
theorem z_m_80 : z_mP ((11, 80, 65, 0)) := z_t3 60 rfl rfl
set_option maxRecDepth 100000 in
theorem z_m_81 : z_mP ((11, 83, 129, 0)) := z_t3 61 rfl rfl
set_option maxRecDepth 100000 in
theorem z_m_82 : z_mP ((11, 94, 45, 0)) := z_t3 65 rfl rfl
set_option maxRecDepth 100000 in
theorem z_m_83 : z_mP ((11, 98, 46, 0)) := z_t3 66 rfl rfl
set_option maxRecDepth 100000 in
theorem z_m_84 : z_mP ((11, 102, 76, 0)) := z_t3 67 rfl rfl
set_option maxRecDepth 100000 in
theorem z_m_85 : z_mP ((6, 86, 77, 0)) := z_t3 71 rfl rfl
set_option maxRecDepth 100000 in
theorem z_m_86 : z_mP ((6, 25, 65, 0)) := z_t3 75 rfl rfl
set_option maxRecDepth 100000 in
theorem z_m_87 : z_mP ((6, 90, 47, 0)) := z_t3 76 rfl rfl
set_option maxRecDepth 100000 in
theorem z_m_88 : z_mP ((6, 83, 68, 0)) := z_t3 80 rfl rfl
set_option maxRecDepth 100000 in
theorem z_m_89 : z_mP ((11, 87, 81, 0)) := z_t3 84 rfl rfl
set_option maxRecDepth 100000 in
theorem z_m_90 : z_mP ((7, 22, 7, 0)) := z_t3 88 rfl rfl
set_option maxRecDepth 100000 in
theorem z_m_91 : z_mP ((11, 90, 127, 0)) := z_t3 89 rfl rfl
set_option maxRecDepth 100000 in
theorem z_m_92 : z_mP ((15, 157, 155, 0)) := z_t3 93 rfl rfl
set_option maxRecDepth 100000 in
theorem z_m_93 : z_mP ((13, 292, 175, 0)) := z_t3 97 rfl rfl
set_option maxRecDepth 100000 in
theorem z_m_94 : z_mP ((13, 264, 56, 0)) := z_t3 101 rfl rfl
set_option maxRecDepth 100000 in
theorem z_m_95 : z_mP ((15, 164, 157, 0)) := z_t3 102 rfl rfl
set_option maxRecDepth 100000 in
theorem z_m_96 : z_mP ((13, 311, 79, 0)) := z_t3 106 rfl rfl
set_option maxRecDepth 100000 in
theorem z_m_97 : z_mP ((15, 168, 158, 0)) := z_t3 107 rfl rfl
set_option maxRecDepth 100000 in
theorem z_m_98 : z_mP ((13, 312, 124, 0)) := z_t3 111 rfl rfl
set_option maxRecDepth 100000 in
theorem z_m_99 : z_mP ((11, 55, 80, 0)) := z_t3 115 rfl rfl
set_option maxRecDepth 100000 in
theorem z_m_100 : z_mP ((7, 28, 8, 0)) := z_t3 119 rfl rfl
set_option maxRecDepth 100000 in
theorem z_m_101 : z_mP ((15, 172, 159, 0)) := z_t3 120 rfl rfl
set_option maxRecDepth 100000 in
theorem z_m_102 : z_mP ((13, 316, 125, 0)) := z_t3 124 rfl rfl
set_option maxRecDepth 100000 in
theorem z_m_103 : z_mP ((11, 62, 64, 0)) := z_t3 128 rfl rfl
set_option maxRecDepth 100000 in
theorem z_m_104 : z_mP ((13, 151, 173, 0)) := z_t3 132 rfl rfl
set_option maxRecDepth 100000 in
theorem z_m_105 : z_mP ((13, 373, 64, 0)) := z_t3 136 rfl rfl
set_option maxRecDepth 100000 in
theorem z_m_106 : z_mP ((15, 188, 164, 0)) := z_t3 137 rfl rfl
set_option maxRecDepth 100000 in
theorem z_m_107 : z_mP ((15, 195, 166, 0)) := z_t3 141 rfl rfl
set_option maxRecDepth 100000 in
theorem z_m_108 : z_mP ((13, 233, 91, 0)) := z_t3 145 rfl rfl
set_option maxRecDepth 100000 in
theorem z_m_109 : z_mP ((9, 28, 94, 0)) := z_t3 149 rfl rfl
set_option maxRecDepth 100000 in
theorem z_m_110 : z_mP ((9, 69, 102, 0)) := z_t3 153 rfl rfl
set_option maxRecDepth 100000 in
theorem z_m_111 : z_mP ((9, 117, 103, 0)) := z_t3 157 rfl rfl
set_option maxRecDepth 100000 in
theorem z_m_112 : z_mP ((9, 121, 104, 0)) := z_t3 161 rfl rfl
set_option maxRecDepth 100000 in
theorem z_m_113 : z_mP ((9, 78, 46, 0)) := z_t3 164 rfl rfl
set_option maxRecDepth 100000 in
theorem z_m_114 : z_mP ((9, 124, 105, 0)) := z_t3 165 rfl rfl
set_option maxRecDepth 100000 in
theorem z_m_115 : z_mP ((9, 107, 101, 0)) := z_t3 169 rfl rfl
set_option maxRecDepth 100000 in
theorem z_m_116 : z_mP ((9, 111, 9, 0)) := z_t3 172 rfl rfl
set_option maxRecDepth 100000 in
theorem z_m_117 : z_mP ((9, 127, 10, 0)) := z_t3 173 rfl rfl
set_option maxRecDepth 100000 in
theorem z_m_118 : z_mP ((9, 73, 0, 0)) := z_t3 174 rfl rfl
set_option maxRecDepth 100000 in
theorem z_m_119 : z_mP ((9, 32, 96, 0)) := z_t3 175 rfl rfl
set_option maxRecDepth 100000 in
theorem z_m_120 : z_mP ((9, 49, 95, 0)) := z_t3 179 rfl rfl
set_option maxRecDepth 100000 in
theorem z_m_121 : z_mP ((9, 53, 45, 0)) := z_t3 183 rfl rfl
set_option maxRecDepth 100000 in
theorem z_m_122 : z_mP ((9, 82, 97, 0)) := z_t3 184 rfl rfl
set_option maxRecDepth 100000 in
theorem z_m_123 : z_mP ((9, 89, 1, 0)) := z_t3 188 rfl rfl
set_option maxRecDepth 100000 in
theorem z_m_124 : z_mP ((9, 92, 99, 0)) := z_t3 189 rfl rfl
set_option maxRecDepth 100000 in
theorem z_m_125 : z_mP ((9, 96, 98, 0)) := z_t3 192 rfl rfl
set_option maxRecDepth 100000 in
theorem z_m_126 : z_mP ((9, 100, 43, 0)) := z_t3 196 rfl rfl
set_option maxRecDepth 100000 in
theorem z_m_127 : z_mP ((9, 103, 100, 0)) := z_t3 197 rfl rfl
set_option maxRecDepth 100000 in
theorem z_m_128 : z_mP ((13, 237, 93, 0)) := z_t3 201 rfl rfl
set_option maxRecDepth 100000 in
theorem z_m_129 : z_mP ((9, 59, 62, 0)) := z_t3 205 rfl rfl
set_option maxRecDepth 100000 in
theorem z_m_130 : z_mP ((9, 62, 63, 0)) := z_t3 209 rfl rfl
set_option maxRecDepth 100000 in
theorem z_m_131 : z_mP ((9, 45, 65, 0)) := z_t3 213 rfl rfl
set_option maxRecDepth 100000 in
theorem z_m_132 : z_mP ((15, 199, 167, 0)) := z_t3 214 rfl rfl
set_option maxRecDepth 100000 in
theorem z_m_133 : z_mP ((13, 354, 87, 0)) := z_t3 218 rfl rfl
set_option maxRecDepth 100000 in
theorem z_m_134 : z_mP ((8, 37, 64, 0)) := z_t3 222 rfl rfl
set_option maxRecDepth 100000 in
theorem z_m_135 : z_mP ((8, 41, 80, 0)) := z_t3 223 rfl rfl
set_option maxRecDepth 100000 in
theorem z_m_136 : z_mP ((8, 44, 7, 0)) := z_t3 224 rfl rfl
set_option maxRecDepth 100000 in
theorem z_m_137 : z_mP ((8, 50, 8, 0)) := z_t3 225 rfl rfl
set_option maxRecDepth 100000 in
theorem z_m_138 : z_mP ((15, 203, 168, 0)) := z_t3 226 rfl rfl
set_option maxRecDepth 100000 in
theorem z_m_139 : z_mP ((15, 207, 169, 0)) := z_t3 230 rfl rfl
set_option maxRecDepth 100000 in
theorem z_m_140 : z_mP ((15, 87, 298, 0)) := z_t3 234 rfl rfl
set_option maxRecDepth 100000 in
theorem z_m_141 : z_mP ((15, 7, 137, 0)) := z_t3 238 rfl rfl
set_option maxRecDepth 100000 in
theorem z_m_142 : z_mP ((13, 115, 16, 0)) := z_t4 70 rfl rfl
set_option maxRecDepth 100000 in
theorem z_m_143 : z_mP ((13, 118, 34, 0)) := z_t4 74 rfl rfl
set_option maxRecDepth 100000 in
theorem z_m_144 : z_mP ((4, 33, 33, 0)) := z_t4 78 rfl rfl
set_option maxRecDepth 100000 in
theorem z_m_145 : z_mP ((4, 36, 17, 0)) := z_t4 82 rfl rfl
set_option maxRecDepth 100000 in
theorem z_m_146 : z_mP ((4, 42, 23, 0)) := z_t4 86 rfl rfl
set_option maxRecDepth 100000 in
theorem z_m_147 : z_mP ((3, 44, 25, 0)) := z_t4 90 rfl rfl
set_option maxRecDepth 100000 in
theorem z_m_148 : z_mP ((3, 47, 7, 0)) := z_t4 94 rfl rfl
set_option maxRecDepth 100000 in
theorem z_m_149 : z_mP ((4, 45, 35, 0)) := z_t4 95 rfl rfl
set_option maxRecDepth 100000 in
theorem z_m_150 : z_mP ((4, 49, 29, 0)) := z_t4 99 rfl rfl
set_option maxRecDepth 100000 in
theorem z_m_151 : z_mP ((3, 51, 24, 0)) := z_t4 103 rfl rfl
set_option maxRecDepth 100000 in
theorem z_m_152 : z_mP ((3, 70, 27, 0)) := z_t4 107 rfl rfl
set_option maxRecDepth 100000 in
theorem z_m_153 : z_mP ((3, 59, 21, 0)) := z_t4 110 rfl rfl
set_option maxRecDepth 100000 in
theorem z_m_154 : z_mP ((3, 40, 20, 0)) := z_t4 114 rfl rfl
set_option maxRecDepth 100000 in
theorem z_m_155 : z_mP ((4, 52, 36, 0)) := z_t4 118 rfl rfl
set_option maxRecDepth 100000 in
theorem z_m_156 : z_mP ((4, 68, 30, 0)) := z_t4 122 rfl rfl
set_option maxRecDepth 100000 in
theorem z_m_157 : z_mP ((3, 73, 900, 0)) := z_t4 126 rfl rfl
set_option maxRecDepth 100000 in
theorem z_m_158 : z_mP ((3, 78, 901, 0)) := z_t4 136 rfl rfl
set_option maxRecDepth 100000 in
theorem z_m_159 : z_mP ((4, 56, 21, 0)) := z_t4 178 rfl rfl
set_option maxRecDepth 100000 in
theorem z_m_160 : z_mP ((4, 60, 37, 0)) := z_t4 179 rfl rfl
set_option maxRecDepth 100000 in
theorem z_m_161 : z_mP ((4, 77, 28, 0)) := z_t4 183 rfl rfl
set_option maxRecDepth 100000 in
theorem z_m_162 : z_mP ((3, 55, 26, 0)) := z_t4 187 rfl rfl
set_option maxRecDepth 100000 in
theorem z_m_163 : z_mP ((3, 64, 5, 0)) := z_t4 191 rfl rfl
set_option maxRecDepth 100000 in
theorem z_m_164 : z_mP ((4, 63, 31, 0)) := z_t4 194 rfl rfl
set_option maxRecDepth 100000 in
theorem z_m_165 : z_mP ((13, 122, 15, 0)) := z_t4 198 rfl rfl
set_option maxRecDepth 100000 in
theorem z_m_166 : z_mP ((13, 125, 19, 0)) := z_t4 202 rfl rfl
set_option maxRecDepth 100000 in
theorem z_m_167 : z_mP ((13, 127, 17, 0)) := z_t4 206 rfl rfl
set_option maxRecDepth 100000 in
theorem z_m_168 : z_mP ((13, 130, 18, 0)) := z_t4 207 rfl rfl
set_option maxRecDepth 100000 in
theorem z_m_169 : z_mP ((13, 133, 107, 0)) := z_t4 211 rfl rfl
set_option maxRecDepth 100000 in
theorem z_m_170 : z_mP ((13, 136, 86, 0)) := z_t4 215 rfl rfl
set_option maxRecDepth 100000 in
theorem z_m_171 : z_mP ((8, 33, 62, 0)) := z_t4 219 rfl rfl
set_option maxRecDepth 100000 in
theorem z_m_172 : z_mP ((8, 36, 79, 0)) := z_t4 220 rfl rfl
set_option maxRecDepth 100000 in
theorem z_m_173 : z_mP ((15, 96, 299, 0)) := z_t4 221 rfl rfl
set_option maxRecDepth 100000 in
theorem z_m_174 : z_mP ((15, 15, 138, 0)) := z_t4 224 rfl rfl
set_option maxRecDepth 100000 in
theorem z_m_175 : z_mP ((13, 148, 69, 0)) := z_t4 228 rfl rfl
set_option maxRecDepth 100000 in
theorem z_m_176 : z_mP ((6, 39, 62, 0)) := z_t4 232 rfl rfl
set_option maxRecDepth 100000 in
theorem z_m_177 : z_mP ((6, 47, 17, 0)) := z_t4 233 rfl rfl
set_option maxRecDepth 100000 in
theorem z_m_178 : z_mP ((6, 53, 23, 0)) := z_t4 234 rfl rfl
set_option maxRecDepth 100000 in
theorem z_m_179 : z_mP ((6, 56, 38, 0)) := z_t4 235 rfl rfl
set_option maxRecDepth 100000 in
theorem z_m_180 : z_mP ((6, 59, 28, 0)) := z_t4 236 rfl rfl
set_option maxRecDepth 100000 in
theorem z_m_181 : z_mP ((6, 62, 21, 0)) := z_t4 237 rfl rfl
set_option maxRecDepth 100000 in
theorem z_m_182 : z_mP ((6, 66, 63, 0)) := z_t4 238 rfl rfl
set_option maxRecDepth 100000 in
theorem z_m_183 : z_mP ((6, 69, 22, 0)) := z_t4 239 rfl rfl
set_option maxRecDepth 100000 in
theorem z_m_184 : z_mP ((15, 103, 300, 0)) := z_t5 3 rfl rfl
set_option maxRecDepth 100000 in
theorem z_m_185 : z_mP ((15, 18, 140, 0)) := z_t5 6 rfl rfl
set_option maxRecDepth 100000 in
theorem z_m_186 : z_mP ((15, 106, 301, 0)) := z_t5 11 rfl rfl
set_option maxRecDepth 100000 in
theorem z_m_187 : z_mP ((15, 21, 141, 0)) := z_t5 15 rfl rfl
set_option maxRecDepth 100000 in
theorem z_m_188 : z_mP ((13, 176, 170, 0)) := z_t5 19 rfl rfl
set_option maxRecDepth 100000 in
theorem z_m_189 : z_mP ((13, 358, 39, 0)) := z_t5 23 rfl rfl
set_option maxRecDepth 100000 in
theorem z_m_190 : z_mP ((13, 181, 52, 0)) := z_t5 44 rfl rfl
set_option maxRecDepth 100000 in
theorem z_m_191 : z_mP ((15, 114, 302, 0)) := z_t5 45 rfl rfl
set_option maxRecDepth 100000 in
theorem z_m_192 : z_mP ((15, 27, 143, 0)) := z_t5 49 rfl rfl
set_option maxRecDepth 100000 in
theorem z_m_193 : z_mP ((13, 192, 171, 0)) := z_t5 53 rfl rfl
set_option maxRecDepth 100000 in
theorem z_m_194 : z_mP ((13, 195, 72, 0)) := z_t5 73 rfl rfl
set_option maxRecDepth 100000 in
theorem z_m_195 : z_mP ((6, 75, 71, 0)) := z_t5 77 rfl rfl
set_option maxRecDepth 100000 in
theorem z_m_196 : z_mP ((6, 72, 45, 0)) := z_t5 81 rfl rfl
set_option maxRecDepth 100000 in
theorem z_m_197 : z_mP ((6, 79, 46, 0)) := z_t5 82 rfl rfl
set_option maxRecDepth 100000 in
theorem z_m_198 : z_mP ((15, 118, 303, 0)) := z_t5 83 rfl rfl
set_option maxRecDepth 100000 in
theorem z_m_199 : z_mP ((15, 33, 144, 0)) := z_t5 86 rfl rfl
set_option maxRecDepth 100000 in
theorem z_m_200 : z_mP ((13, 199, 54, 0)) := z_t5 90 rfl rfl
set_option maxRecDepth 100000 in
theorem z_m_201 : z_mP ((5, 66, 65, 0)) := z_t5 94 rfl rfl
set_option maxRecDepth 100000 in
theorem z_m_202 : z_mP ((5, 69, 52, 0)) := z_t5 95 rfl rfl
set_option maxRecDepth 100000 in
theorem z_m_203 : z_mP ((13, 203, 55, 0)) := z_t5 96 rfl rfl
set_option maxRecDepth 100000 in
theorem z_m_204 : z_mP ((5, 73, 53, 0)) := z_t5 100 rfl rfl
set_option maxRecDepth 100000 in
theorem z_m_205 : z_mP ((13, 206, 59, 0)) := z_t5 101 rfl rfl
set_option maxRecDepth 100000 in
theorem z_m_206 : z_mP ((13, 209, 73, 0)) := z_t5 106 rfl rfl
set_option maxRecDepth 100000 in
theorem z_m_207 : z_mP ((13, 212, 74, 0)) := z_t5 110 rfl rfl
set_option maxRecDepth 100000 in
theorem z_m_208 : z_mP ((15, 121, 304, 0)) := z_t5 115 rfl rfl
set_option maxRecDepth 100000 in
theorem z_m_209 : z_mP ((15, 36, 145, 0)) := z_t5 118 rfl rfl
set_option maxRecDepth 100000 in
theorem z_m_210 : z_mP ((13, 223, 70, 0)) := z_t5 123 rfl rfl
set_option maxRecDepth 100000 in
theorem z_m_211 : z_mP ((13, 227, 92, 0)) := z_t5 127 rfl rfl
set_option maxRecDepth 100000 in
theorem z_m_212 : z_mP ((9, 36, 67, 0)) := z_t5 131 rfl rfl
set_option maxRecDepth 100000 in
theorem z_m_213 : z_mP ((15, 124, 305, 0)) := z_t5 135 rfl rfl
set_option maxRecDepth 100000 in
theorem z_m_214 : z_mP ((15, 40, 146, 0)) := z_t5 138 rfl rfl
set_option maxRecDepth 100000 in
theorem z_m_215 : z_mP ((13, 230, 172, 0)) := z_t5 142 rfl rfl
set_option maxRecDepth 100000 in
theorem z_m_216 : z_mP ((15, 129, 306, 0)) := z_t5 147 rfl rfl
set_option maxRecDepth 100000 in
theorem z_m_217 : z_mP ((15, 44, 147, 0)) := z_t5 150 rfl rfl
set_option maxRecDepth 100000 in
theorem z_m_218 : z_mP ((15, 133, 307, 0)) := z_t5 154 rfl rfl
set_option maxRecDepth 100000 in
theorem z_m_219 : z_mP ((15, 48, 148, 0)) := z_t5 157 rfl rfl
set_option maxRecDepth 100000 in
theorem z_m_220 : z_mP ((13, 243, 108, 0)) := z_t5 162 rfl rfl
set_option maxRecDepth 100000 in
theorem z_m_221 : z_mP ((13, 247, 120, 0)) := z_t5 163 rfl rfl
set_option maxRecDepth 100000 in
theorem z_m_222 : z_mP ((10, 137, 62, 0)) := z_t5 167 rfl rfl
set_option maxRecDepth 100000 in
theorem z_m_223 : z_mP ((10, 142, 63, 0)) := z_t5 168 rfl rfl
set_option maxRecDepth 100000 in
theorem z_m_224 : z_mP ((10, 146, 65, 0)) := z_t5 169 rfl rfl
set_option maxRecDepth 100000 in
theorem z_m_225 : z_mP ((10, 149, 121, 0)) := z_t5 170 rfl rfl
set_option maxRecDepth 100000 in
theorem z_m_226 : z_mP ((10, 156, 56, 0)) := z_t5 174 rfl rfl
set_option maxRecDepth 100000 in
theorem z_m_227 : z_mP ((15, 136, 308, 0)) := z_t5 175 rfl rfl
set_option maxRecDepth 100000 in
theorem z_m_228 : z_mP ((15, 51, 149, 0)) := z_t5 178 rfl rfl
set_option maxRecDepth 100000 in
theorem z_m_229 : z_mP ((13, 255, 67, 0)) := z_t5 182 rfl rfl
set_option maxRecDepth 100000 in
theorem z_m_230 : z_mP ((15, 151, 309, 0)) := z_t5 183 rfl rfl
set_option maxRecDepth 100000 in
theorem z_m_231 : z_mP ((15, 54, 153, 0)) := z_t5 186 rfl rfl
set_option maxRecDepth 100000 in
theorem z_m_232 : z_mP ((13, 287, 76, 0)) := z_t5 190 rfl rfl
set_option maxRecDepth 100000 in
theorem z_m_233 : z_mP ((15, 154, 310, 0)) := z_t5 191 rfl rfl
set_option maxRecDepth 100000 in
theorem z_m_234 : z_mP ((15, 57, 154, 0)) := z_t5 194 rfl rfl
set_option maxRecDepth 100000 in
theorem z_m_235 : z_mP ((15, 161, 311, 0)) := z_t5 199 rfl rfl
set_option maxRecDepth 100000 in
theorem z_m_236 : z_mP ((15, 60, 156, 0)) := z_t5 202 rfl rfl
set_option maxRecDepth 100000 in
theorem z_m_237 : z_mP ((13, 295, 40, 0)) := z_t5 206 rfl rfl
set_option maxRecDepth 100000 in
theorem z_m_238 : z_mP ((13, 302, 82, 0)) := z_t5 210 rfl rfl
set_option maxRecDepth 100000 in
theorem z_m_239 : z_mP ((15, 176, 312, 0)) := z_t5 214 rfl rfl
set_option maxRecDepth 100000 in
theorem z_m_240 : z_mP ((15, 63, 160, 0)) := z_t5 217 rfl rfl
set_option maxRecDepth 100000 in
theorem z_m_241 : z_mP ((13, 320, 83, 0)) := z_t5 221 rfl rfl
set_option maxRecDepth 100000 in
theorem z_m_242 : z_mP ((7, 37, 84, 0)) := z_t5 225 rfl rfl
set_option maxRecDepth 100000 in
theorem z_m_243 : z_mP ((7, 41, 65, 0)) := z_t5 229 rfl rfl
set_option maxRecDepth 100000 in
theorem z_m_244 : z_mP ((7, 45, 81, 0)) := z_t5 230 rfl rfl
set_option maxRecDepth 100000 in
theorem z_m_245 : z_mP ((15, 179, 313, 0)) := z_t5 231 rfl rfl
set_option maxRecDepth 100000 in
theorem z_m_246 : z_mP ((15, 66, 161, 0)) := z_t5 234 rfl rfl
set_option maxRecDepth 100000 in
theorem z_m_247 : z_mP ((13, 326, 60, 0)) := z_t5 239 rfl rfl
set_option maxRecDepth 100000 in
theorem z_m_248 : z_mP ((5, 90, 54, 0)) := z_t6 3 rfl rfl
set_option maxRecDepth 100000 in
theorem z_m_249 : z_mP ((15, 182, 314, 0)) := z_t6 4 rfl rfl
set_option maxRecDepth 100000 in
theorem z_m_250 : z_mP ((15, 69, 162, 0)) := z_t6 7 rfl rfl
set_option maxRecDepth 100000 in
theorem z_m_251 : z_mP ((13, 330, 75, 0)) := z_t6 11 rfl rfl
set_option maxRecDepth 100000 in
theorem z_m_252 : z_mP ((15, 185, 315, 0)) := z_t6 15 rfl rfl
set_option maxRecDepth 100000 in
theorem z_m_253 : z_mP ((15, 72, 163, 0)) := z_t6 18 rfl rfl
set_option maxRecDepth 100000 in
theorem z_m_254 : z_mP ((13, 334, 89, 0)) := z_t6 22 rfl rfl
set_option maxRecDepth 100000 in
theorem z_m_255 : z_mP ((8, 54, 75, 0)) := z_t6 26 rfl rfl
set_option maxRecDepth 100000 in
theorem z_m_256 : z_mP ((15, 192, 316, 0)) := z_t6 27 rfl rfl
set_option maxRecDepth 100000 in
theorem z_m_257 : z_mP ((15, 75, 165, 0)) := z_t6 30 rfl rfl
set_option maxRecDepth 100000 in
theorem z_m_258 : z_mP ((13, 343, 131, 0)) := z_t6 35 rfl rfl
set_option maxRecDepth 100000 in
theorem z_m_259 : z_mP ((12, 22, 8, 0)) := z_t6 39 rfl rfl
set_option maxRecDepth 100000 in
theorem z_m_260 : z_mP ((12, 29, 132, 0)) := z_t6 41 rfl rfl
set_option maxRecDepth 100000 in
theorem z_m_261 : z_mP ((12, 38, 133, 0)) := z_t6 45 rfl rfl
set_option maxRecDepth 100000 in
theorem z_m_262 : z_mP ((12, 46, 7, 0)) := z_t6 49 rfl rfl
set_option maxRecDepth 100000 in
theorem z_m_263 : z_mP ((12, 50, 88, 0)) := z_t6 50 rfl rfl
set_option maxRecDepth 100000 in
theorem z_m_264 : z_mP ((12, 42, 134, 0)) := z_t6 54 rfl rfl
set_option maxRecDepth 100000 in
theorem z_m_265 : z_mP ((12, 54, 4, 0)) := z_t6 58 rfl rfl
set_option maxRecDepth 100000 in
theorem z_m_266 : z_mP ((15, 81, 176, 0)) := z_t6 61 rfl rfl
set_option maxRecDepth 100000 in
theorem z_m_267 : z_mP ((14, 106, 177, 0)) := z_t6 69 rfl rfl
set_option maxRecDepth 100000 in
theorem z_m_268 : z_mP ((14, 109, 194, 0)) := z_t6 73 rfl rfl
set_option maxRecDepth 100000 in
theorem z_m_269 : z_mP ((14, 201, 202, 0)) := z_t6 77 rfl rfl
set_option maxRecDepth 100000 in
theorem z_m_270 : z_mP ((14, 211, 203, 0)) := z_t6 81 rfl rfl
set_option maxRecDepth 100000 in
theorem z_m_271 : z_mP ((14, 221, 204, 0)) := z_t6 85 rfl rfl
set_option maxRecDepth 100000 in
theorem z_m_272 : z_mP ((14, 225, 205, 0)) := z_t6 88 rfl rfl
set_option maxRecDepth 100000 in
theorem z_m_273 : z_mP ((14, 229, 206, 0)) := z_t6 91 rfl rfl
set_option maxRecDepth 100000 in
theorem z_m_274 : z_mP ((14, 233, 207, 0)) := z_t6 94 rfl rfl
set_option maxRecDepth 100000 in
theorem z_m_275 : z_mP ((14, 217, 208, 0)) := z_t6 98 rfl rfl
set_option maxRecDepth 100000 in
theorem z_m_276 : z_mP ((15, 93, 178, 0)) := z_t7 3 rfl rfl
set_option maxRecDepth 100000 in
theorem z_m_277 : z_mP ((15, 86, 181, 0)) := z_t7 7 rfl rfl
set_option maxRecDepth 100000 in
theorem z_m_278 : z_mP ((15, 92, 193, 0)) := z_t7 11 rfl rfl
set_option maxRecDepth 100000 in
theorem z_m_279 : z_mP ((14, 150, 180, 0)) := z_t7 15 rfl rfl
set_option maxRecDepth 100000 in
theorem z_m_280 : z_mP ((14, 172, 179, 0)) := z_t7 18 rfl rfl
set_option maxRecDepth 100000 in
theorem z_m_281 : z_mP ((14, 176, 191, 0)) := z_t7 22 rfl rfl
set_option maxRecDepth 100000 in
theorem z_m_282 : z_mP ((14, 139, 183, 0)) := z_t7 26 rfl rfl
set_option maxRecDepth 100000 in
theorem z_m_283 : z_mP ((14, 124, 182, 0)) := z_t7 30 rfl rfl
set_option maxRecDepth 100000 in
theorem z_m_284 : z_mP ((14, 180, 192, 0)) := z_t7 34 rfl rfl
set_option maxRecDepth 100000 in
theorem z_m_285 : z_mP ((14, 164, 190, 0)) := z_t7 38 rfl rfl
set_option maxRecDepth 100000 in
theorem z_m_286 : z_mP ((14, 154, 188, 0)) := z_t7 42 rfl rfl
set_option maxRecDepth 100000 in
theorem z_m_287 : z_mP ((14, 157, 189, 0)) := z_t7 46 rfl rfl
set_option maxRecDepth 100000 in
theorem z_m_288 : z_mP ((14, 142, 184, 0)) := z_t7 49 rfl rfl
set_option maxRecDepth 100000 in
theorem z_m_289 : z_mP ((14, 168, 187, 0)) := z_t7 53 rfl rfl
set_option maxRecDepth 100000 in
theorem z_m_290 : z_mP ((14, 134, 185, 0)) := z_t7 57 rfl rfl
set_option maxRecDepth 100000 in
theorem z_m_291 : z_mP ((14, 146, 186, 0)) := z_t7 60 rfl rfl
set_option maxRecDepth 100000 in
theorem z_m_292 : z_mP ((14, 183, 200, 0)) := z_t7 65 rfl rfl
set_option maxRecDepth 100000 in
theorem z_m_293 : z_mP ((14, 204, 199, 0)) := z_t7 69 rfl rfl
set_option maxRecDepth 100000 in
theorem z_m_294 : z_mP ((14, 186, 201, 0)) := z_t7 73 rfl rfl
set_option maxRecDepth 100000 in
theorem z_m_295 : z_mP ((15, 98, 195, 0)) := z_t7 76 rfl rfl
set_option maxRecDepth 100000 in
theorem z_m_296 : z_mP ((14, 207, 196, 0)) := z_t7 80 rfl rfl
set_option maxRecDepth 100000 in
theorem z_m_297 : z_mP ((15, 102, 197, 0)) := z_t7 84 rfl rfl
set_option maxRecDepth 100000 in
theorem z_m_298 : z_mP ((15, 105, 198, 0)) := z_t7 88 rfl rfl
set_option maxRecDepth 100000 in
theorem z_m_299 : z_mP ((15, 109, 223, 0)) := z_t7 92 rfl rfl
set_option maxRecDepth 100000 in
theorem z_m_300 : z_mP ((14, 288, 212, 0)) := z_t7 96 rfl rfl
set_option maxRecDepth 100000 in
theorem z_m_301 : z_mP ((14, 239, 210, 0)) := z_t7 100 rfl rfl
set_option maxRecDepth 100000 in
theorem z_m_302 : z_mP ((14, 236, 209, 0)) := z_t7 104 rfl rfl
set_option maxRecDepth 100000 in
theorem z_m_303 : z_mP ((14, 242, 211, 0)) := z_t7 108 rfl rfl
set_option maxRecDepth 100000 in
theorem z_m_304 : z_mP ((14, 292, 221, 0)) := z_t7 112 rfl rfl
set_option maxRecDepth 100000 in
theorem z_m_305 : z_mP ((14, 278, 220, 0)) := z_t7 116 rfl rfl
set_option maxRecDepth 100000 in
theorem z_m_306 : z_mP ((14, 262, 214, 0)) := z_t7 120 rfl rfl
set_option maxRecDepth 100000 in
theorem z_m_307 : z_mP ((14, 266, 213, 0)) := z_t7 124 rfl rfl
set_option maxRecDepth 100000 in
theorem z_m_308 : z_mP ((14, 282, 222, 0)) := z_t7 127 rfl rfl
set_option maxRecDepth 100000 in
theorem z_m_309 : z_mP ((14, 258, 216, 0)) := z_t7 133 rfl rfl
set_option maxRecDepth 100000 in
theorem z_m_310 : z_mP ((15, 113, 224, 0)) := z_t7 137 rfl rfl
set_option maxRecDepth 100000 in
theorem z_m_311 : z_mP ((15, 117, 231, 0)) := z_t7 141 rfl rfl
set_option maxRecDepth 100000 in
theorem z_m_312 : z_mP ((14, 309, 230, 0)) := z_t7 145 rfl rfl
set_option maxRecDepth 100000 in
theorem z_m_313 : z_mP ((14, 313, 229, 0)) := z_t7 149 rfl rfl
set_option maxRecDepth 100000 in
theorem z_m_314 : z_mP ((14, 306, 228, 0)) := z_t7 153 rfl rfl
set_option maxRecDepth 100000 in
theorem z_m_315 : z_mP ((14, 296, 226, 0)) := z_t7 157 rfl rfl
set_option maxRecDepth 100000 in
theorem z_m_316 : z_mP ((14, 299, 225, 0)) := z_t7 161 rfl rfl
set_option maxRecDepth 100000 in
theorem z_m_317 : z_mP ((14, 302, 227, 0)) := z_t7 165 rfl rfl
set_option maxRecDepth 100000 in
theorem z_m_318 : z_mP ((15, 120, 234, 0)) := z_t7 169 rfl rfl
set_option maxRecDepth 100000 in
theorem z_m_319 : z_mP ((14, 316, 232, 0)) := z_t7 173 rfl rfl
set_option maxRecDepth 100000 in
theorem z_m_320 : z_mP ((14, 320, 233, 0)) := z_t7 177 rfl rfl
set_option maxRecDepth 100000 in
theorem z_m_321 : z_mP ((14, 270, 217, 0)) := z_t7 181 rfl rfl
set_option maxRecDepth 100000 in
theorem z_m_322 : z_mP ((14, 254, 215, 0)) := z_t7 188 rfl rfl
set_option maxRecDepth 100000 in
theorem z_m_323 : z_mP ((15, 126, 243, 0)) := z_t7 192 rfl rfl
set_option maxRecDepth 100000 in
theorem z_m_324 : z_mP ((14, 348, 241, 0)) := z_t7 196 rfl rfl
set_option maxRecDepth 100000 in
theorem z_m_325 : z_mP ((14, 351, 242, 0)) := z_t7 200 rfl rfl
set_option maxRecDepth 100000 in
theorem z_m_326 : z_mP ((14, 338, 235, 0)) := z_t7 204 rfl rfl
set_option maxRecDepth 100000 in
theorem z_m_327 : z_mP ((14, 341, 238, 0)) := z_t7 208 rfl rfl
set_option maxRecDepth 100000 in
theorem z_m_328 : z_mP ((14, 327, 237, 0)) := z_t7 212 rfl rfl
set_option maxRecDepth 100000 in
theorem z_m_329 : z_mP ((14, 330, 236, 0)) := z_t7 216 rfl rfl
set_option maxRecDepth 100000 in
theorem z_m_330 : z_mP ((14, 334, 239, 0)) := z_t7 220 rfl rfl
set_option maxRecDepth 100000 in
theorem z_m_331 : z_mP ((14, 344, 240, 0)) := z_t7 224 rfl rfl
set_option maxRecDepth 100000 in
theorem z_m_332 : z_mP ((15, 132, 245, 0)) := z_t7 228 rfl rfl
set_option maxRecDepth 100000 in
theorem z_m_333 : z_mP ((14, 354, 244, 0)) := z_t7 232 rfl rfl
set_option maxRecDepth 100000 in
theorem z_m_334 : z_mP ((15, 123, 249, 0)) := z_t7 236 rfl rfl
set_option maxRecDepth 100000 in
theorem z_m_335 : z_mP ((14, 360, 246, 0)) := z_t8 1 rfl rfl
set_option maxRecDepth 100000 in
theorem z_m_336 : z_mP ((14, 363, 247, 0)) := z_t8 5 rfl rfl
set_option maxRecDepth 100000 in
theorem z_m_337 : z_mP ((14, 366, 248, 0)) := z_t8 9 rfl rfl
set_option maxRecDepth 100000 in
theorem z_m_338 : z_mP ((15, 135, 255, 0)) := z_t8 13 rfl rfl
set_option maxRecDepth 100000 in
theorem z_m_339 : z_mP ((14, 385, 254, 0)) := z_t8 17 rfl rfl
set_option maxRecDepth 100000 in
theorem z_m_340 : z_mP ((14, 379, 250, 0)) := z_t8 21 rfl rfl
set_option maxRecDepth 100000 in
theorem z_m_341 : z_mP ((14, 369, 251, 0)) := z_t8 25 rfl rfl
set_option maxRecDepth 100000 in
theorem z_m_342 : z_mP ((14, 372, 252, 0)) := z_t8 29 rfl rfl
set_option maxRecDepth 100000 in
theorem z_m_343 : z_mP ((14, 375, 219, 0)) := z_t8 33 rfl rfl
set_option maxRecDepth 100000 in
theorem z_m_344 : z_mP ((14, 274, 218, 0)) := z_t8 37 rfl rfl
set_option maxRecDepth 100000 in
theorem z_m_345 : z_mP ((14, 382, 253, 0)) := z_t8 41 rfl rfl
set_option maxRecDepth 100000 in
theorem z_m_346 : z_mP ((15, 138, 256, 0)) := z_t8 45 rfl rfl
set_option maxRecDepth 100000 in
theorem z_m_347 : z_mP ((15, 142, 262, 0)) := z_t8 49 rfl rfl
set_option maxRecDepth 100000 in
theorem z_m_348 : z_mP ((14, 402, 260, 0)) := z_t8 53 rfl rfl
set_option maxRecDepth 100000 in
theorem z_m_349 : z_mP ((14, 388, 257, 0)) := z_t8 57 rfl rfl
set_option maxRecDepth 100000 in
theorem z_m_350 : z_mP ((14, 391, 258, 0)) := z_t8 60 rfl rfl
set_option maxRecDepth 100000 in
theorem z_m_351 : z_mP ((14, 394, 261, 0)) := z_t8 63 rfl rfl
set_option maxRecDepth 100000 in
theorem z_m_352 : z_mP ((14, 398, 259, 0)) := z_t8 67 rfl rfl
set_option maxRecDepth 100000 in
theorem z_m_353 : z_mP ((15, 146, 263, 0)) := z_t8 71 rfl rfl
set_option maxRecDepth 100000 in
theorem z_m_354 : z_mP ((15, 156, 265, 0)) := z_t8 75 rfl rfl
set_option maxRecDepth 100000 in
theorem z_m_355 : z_mP ((14, 405, 264, 0)) := z_t8 79 rfl rfl
set_option maxRecDepth 100000 in
theorem z_m_356 : z_mP ((15, 160, 266, 0)) := z_t8 83 rfl rfl
set_option maxRecDepth 100000 in
theorem z_m_357 : z_mP ((15, 150, 271, 0)) := z_t8 87 rfl rfl
set_option maxRecDepth 100000 in
theorem z_m_358 : z_mP ((14, 421, 270, 0)) := z_t8 91 rfl rfl
set_option maxRecDepth 100000 in
theorem z_m_359 : z_mP ((14, 418, 269, 0)) := z_t8 95 rfl rfl
set_option maxRecDepth 100000 in
theorem z_m_360 : z_mP ((14, 411, 268, 0)) := z_t8 99 rfl rfl
set_option maxRecDepth 100000 in
theorem z_m_361 : z_mP ((14, 408, 267, 0)) := z_t8 103 rfl rfl
set_option maxRecDepth 100000 in
theorem z_m_362 : z_mP ((15, 153, 272, 0)) := z_t8 107 rfl rfl
set_option maxRecDepth 100000 in
theorem z_m_363 : z_mP ((15, 163, 274, 0)) := z_t8 111 rfl rfl
set_option maxRecDepth 100000 in
theorem z_m_364 : z_mP ((14, 424, 273, 0)) := z_t8 115 rfl rfl
set_option maxRecDepth 100000 in
theorem z_m_365 : z_mP ((15, 167, 275, 0)) := z_t8 119 rfl rfl
set_option maxRecDepth 100000 in
theorem z_m_366 : z_mP ((15, 171, 280, 0)) := z_t8 123 rfl rfl
set_option maxRecDepth 100000 in
theorem z_m_367 : z_mP ((14, 439, 278, 0)) := z_t8 127 rfl rfl
set_option maxRecDepth 100000 in
theorem z_m_368 : z_mP ((14, 436, 279, 0)) := z_t8 131 rfl rfl
set_option maxRecDepth 100000 in
theorem z_m_369 : z_mP ((14, 433, 276, 0)) := z_t8 135 rfl rfl
set_option maxRecDepth 100000 in
theorem z_m_370 : z_mP ((14, 430, 277, 0)) := z_t8 139 rfl rfl
set_option maxRecDepth 100000 in
theorem z_m_371 : z_mP ((15, 175, 281, 0)) := z_t8 143 rfl rfl
set_option maxRecDepth 100000 in
theorem z_m_372 : z_mP ((15, 178, 283, 0)) := z_t8 147 rfl rfl
set_option maxRecDepth 100000 in
theorem z_m_373 : z_mP ((14, 442, 282, 0)) := z_t8 151 rfl rfl
set_option maxRecDepth 100000 in
theorem z_m_374 : z_mP ((15, 181, 285, 0)) := z_t8 155 rfl rfl
set_option maxRecDepth 100000 in
theorem z_m_375 : z_mP ((14, 445, 284, 0)) := z_t8 159 rfl rfl
set_option maxRecDepth 100000 in
theorem z_m_376 : z_mP ((15, 184, 287, 0)) := z_t8 163 rfl rfl
set_option maxRecDepth 100000 in
theorem z_m_377 : z_mP ((14, 449, 286, 0)) := z_t8 167 rfl rfl
set_option maxRecDepth 100000 in
theorem z_m_378 : z_mP ((15, 187, 288, 0)) := z_t8 171 rfl rfl
set_option maxRecDepth 100000 in
theorem z_m_379 : z_mP ((15, 191, 289, 0)) := z_t8 175 rfl rfl
set_option maxRecDepth 100000 in
theorem z_m_380 : z_mP ((15, 194, 291, 0)) := z_t8 179 rfl rfl
set_option maxRecDepth 100000 in
theorem z_m_381 : z_mP ((14, 458, 290, 0)) := z_t8 183 rfl rfl
set_option maxRecDepth 100000 in
theorem z_m_382 : z_mP ((15, 198, 292, 0)) := z_t8 187 rfl rfl
set_option maxRecDepth 100000 in
theorem z_m_383 : z_mP ((15, 202, 295, 0)) := z_t8 192 rfl rfl
set_option maxRecDepth 100000 in
theorem z_m_384 : z_mP ((14, 469, 294, 0)) := z_t8 196 rfl rfl
set_option maxRecDepth 100000 in
theorem z_m_385 : z_mP ((14, 465, 293, 0)) := z_t8 200 rfl rfl
set_option maxRecDepth 100000 in
theorem z_m_386 : z_mP ((15, 206, 296, 0)) := z_t8 204 rfl rfl
set_option maxRecDepth 100000 in
theorem z_m_387 : z_mP ((15, 210, 297, 0)) := z_t8 208 rfl rfl
def z_mL : List (Nat × Nat × Nat × Nat) := [(15, 78, 135, 0), (13, 9, 11, 1), (13, 18, 48, 1), (13, 25, 90, 1), (13, 32, 106, 1), (13, 39, 122, 1), (11, 11, 61, 1), (11, 20, 78, 1), (13, 46, 130, 1), (13, 53, 61, 1), (13, 60, 85, 1), (8, 11, 61, 1), (8, 20, 78, 1), (13, 71, 32, 1), (13, 92, 49, 0), (5, 22, 50, 0), (5, 32, 10, 0), (5, 38, 51, 0), (15, 82, 136, 0), (13, 96, 12, 0), (13, 100, 13, 0), (3, 34, 8, 0), (13, 104, 14, 0), (15, 99, 139, 0), (15, 110, 142, 0), (13, 189, 65, 0), (6, 29, 2, 0), (6, 35, 7, 0), (15, 139, 150, 0), (13, 251, 109, 0), (10, 45, 41, 0), (4, 81, 38, 0), (10, 51, 108, 0), (10, 37, 111, 0), (10, 71, 38, 0), (10, 74, 53, 0), (5, 42, 44, 0), (5, 48, 3, 0), (5, 53, 45, 0), (4, 85, 43, 0), (5, 57, 9, 0), (10, 80, 52, 0), (10, 61, 10, 0), (10, 86, 45, 0), (10, 90, 8, 0), (10, 41, 115, 0), (10, 96, 0, 0), (10, 102, 116, 0), (10, 106, 114, 0), (10, 109, 113, 0), (10, 93, 7, 0), (10, 112, 112, 0), (10, 67, 9, 0), (10, 116, 117, 0), (10, 120, 46, 0), (10, 55, 119, 0), (10, 130, 1, 0), (10, 133, 118, 0), (10, 124, 6, 0), (13, 139, 41, 0), (13, 142, 1, 0), (13, 268, 174, 0), (13, 258, 110, 0), (13, 215, 57, 0), (5, 78, 56, 0), (15, 143, 151, 0), (13, 185, 58, 0), (13, 272, 4, 0), (15, 147, 152, 0), (13, 278, 42, 0), (13, 281, 38, 0), (13, 284, 123, 0), (11, 35, 79, 0), (11, 38, 41, 0), (11, 44, 126, 0), (11, 65, 1, 0), (11, 73, 0, 0), (11, 76, 66, 0), (6, 19, 8, 0), (11, 48, 128, 0), (11, 80, 65, 0), (11, 83, 129, 0), (11, 94, 45, 0), (11, 98, 46, 0), (11, 102, 76, 0), (6, 86, 77, 0), (6, 25, 65, 0), (6, 90, 47, 0), (6, 83, 68, 0), (11, 87, 81, 0), (7, 22, 7, 0), (11, 90, 127, 0), (15, 157, 155, 0), (13, 292, 175, 0), (13, 264, 56, 0), (15, 164, 157, 0), (13, 311, 79, 0), (15, 168, 158, 0), (13, 312, 124, 0), (11, 55, 80, 0), (7, 28, 8, 0), (15, 172, 159, 0), (13, 316, 125, 0), (11, 62, 64, 0), (13, 151, 173, 0), (13, 373, 64, 0), (15, 188, 164, 0), (15, 195, 166, 0), (13, 233, 91, 0), (9, 28, 94, 0), (9, 69, 102, 0), (9, 117, 103, 0), (9, 121, 104, 0), (9, 78, 46, 0), (9, 124, 105, 0), (9, 107, 101, 0), (9, 111, 9, 0), (9, 127, 10, 0), (9, 73, 0, 0), (9, 32, 96, 0), (9, 49, 95, 0), (9, 53, 45, 0), (9, 82, 97, 0), (9, 89, 1, 0), (9, 92, 99, 0), (9, 96, 98, 0), (9, 100, 43, 0), (9, 103, 100, 0), (13, 237, 93, 0), (9, 59, 62, 0), (9, 62, 63, 0), (9, 45, 65, 0), (15, 199, 167, 0), (13, 354, 87, 0), (8, 37, 64, 0), (8, 41, 80, 0), (8, 44, 7, 0), (8, 50, 8, 0), (15, 203, 168, 0), (15, 207, 169, 0), (15, 87, 298, 0), (15, 7, 137, 0), (13, 115, 16, 0), (13, 118, 34, 0), (4, 33, 33, 0), (4, 36, 17, 0), (4, 42, 23, 0), (3, 44, 25, 0), (3, 47, 7, 0), (4, 45, 35, 0), (4, 49, 29, 0), (3, 51, 24, 0), (3, 70, 27, 0), (3, 59, 21, 0), (3, 40, 20, 0), (4, 52, 36, 0), (4, 68, 30, 0), (3, 73, 900, 0), (3, 78, 901, 0), (4, 56, 21, 0), (4, 60, 37, 0), (4, 77, 28, 0), (3, 55, 26, 0), (3, 64, 5, 0), (4, 63, 31, 0), (13, 122, 15, 0), (13, 125, 19, 0), (13, 127, 17, 0), (13, 130, 18, 0), (13, 133, 107, 0), (13, 136, 86, 0), (8, 33, 62, 0), (8, 36, 79, 0), (15, 96, 299, 0), (15, 15, 138, 0), (13, 148, 69, 0), (6, 39, 62, 0), (6, 47, 17, 0), (6, 53, 23, 0), (6, 56, 38, 0), (6, 59, 28, 0), (6, 62, 21, 0), (6, 66, 63, 0), (6, 69, 22, 0), (15, 103, 300, 0), (15, 18, 140, 0), (15, 106, 301, 0), (15, 21, 141, 0), (13, 176, 170, 0), (13, 358, 39, 0), (13, 181, 52, 0), (15, 114, 302, 0), (15, 27, 143, 0), (13, 192, 171, 0), (13, 195, 72, 0), (6, 75, 71, 0), (6, 72, 45, 0), (6, 79, 46, 0), (15, 118, 303, 0), (15, 33, 144, 0), (13, 199, 54, 0), (5, 66, 65, 0), (5, 69, 52, 0), (13, 203, 55, 0), (5, 73, 53, 0), (13, 206, 59, 0), (13, 209, 73, 0), (13, 212, 74, 0), (15, 121, 304, 0), (15, 36, 145, 0), (13, 223, 70, 0), (13, 227, 92, 0), (9, 36, 67, 0), (15, 124, 305, 0), (15, 40, 146, 0), (13, 230, 172, 0), (15, 129, 306, 0), (15, 44, 147, 0), (15, 133, 307, 0), (15, 48, 148, 0), (13, 243, 108, 0), (13, 247, 120, 0), (10, 137, 62, 0), (10, 142, 63, 0), (10, 146, 65, 0), (10, 149, 121, 0), (10, 156, 56, 0), (15, 136, 308, 0), (15, 51, 149, 0), (13, 255, 67, 0), (15, 151, 309, 0), (15, 54, 153, 0), (13, 287, 76, 0), (15, 154, 310, 0), (15, 57, 154, 0), (15, 161, 311, 0), (15, 60, 156, 0), (13, 295, 40, 0), (13, 302, 82, 0), (15, 176, 312, 0), (15, 63, 160, 0), (13, 320, 83, 0), (7, 37, 84, 0), (7, 41, 65, 0), (7, 45, 81, 0), (15, 179, 313, 0), (15, 66, 161, 0), (13, 326, 60, 0), (5, 90, 54, 0), (15, 182, 314, 0), (15, 69, 162, 0), (13, 330, 75, 0), (15, 185, 315, 0), (15, 72, 163, 0), (13, 334, 89, 0), (8, 54, 75, 0), (15, 192, 316, 0), (15, 75, 165, 0), (13, 343, 131, 0), (12, 22, 8, 0), (12, 29, 132, 0), (12, 38, 133, 0), (12, 46, 7, 0), (12, 50, 88, 0), (12, 42, 134, 0), (12, 54, 4, 0), (15, 81, 176, 0), (14, 106, 177, 0), (14, 109, 194, 0), (14, 201, 202, 0), (14, 211, 203, 0), (14, 221, 204, 0), (14, 225, 205, 0), (14, 229, 206, 0), (14, 233, 207, 0), (14, 217, 208, 0), (15, 93, 178, 0), (15, 86, 181, 0), (15, 92, 193, 0), (14, 150, 180, 0), (14, 172, 179, 0), (14, 176, 191, 0), (14, 139, 183, 0), (14, 124, 182, 0), (14, 180, 192, 0), (14, 164, 190, 0), (14, 154, 188, 0), (14, 157, 189, 0), (14, 142, 184, 0), (14, 168, 187, 0), (14, 134, 185, 0), (14, 146, 186, 0), (14, 183, 200, 0), (14, 204, 199, 0), (14, 186, 201, 0), (15, 98, 195, 0), (14, 207, 196, 0), (15, 102, 197, 0), (15, 105, 198, 0), (15, 109, 223, 0), (14, 288, 212, 0), (14, 239, 210, 0), (14, 236, 209, 0), (14, 242, 211, 0), (14, 292, 221, 0), (14, 278, 220, 0), (14, 262, 214, 0), (14, 266, 213, 0), (14, 282, 222, 0), (14, 258, 216, 0), (15, 113, 224, 0), (15, 117, 231, 0), (14, 309, 230, 0), (14, 313, 229, 0), (14, 306, 228, 0), (14, 296, 226, 0), (14, 299, 225, 0), (14, 302, 227, 0), (15, 120, 234, 0), (14, 316, 232, 0), (14, 320, 233, 0), (14, 270, 217, 0), (14, 254, 215, 0), (15, 126, 243, 0), (14, 348, 241, 0), (14, 351, 242, 0), (14, 338, 235, 0), (14, 341, 238, 0), (14, 327, 237, 0), (14, 330, 236, 0), (14, 334, 239, 0), (14, 344, 240, 0), (15, 132, 245, 0), (14, 354, 244, 0), (15, 123, 249, 0), (14, 360, 246, 0), (14, 363, 247, 0), (14, 366, 248, 0), (15, 135, 255, 0), (14, 385, 254, 0), (14, 379, 250, 0), (14, 369, 251, 0), (14, 372, 252, 0), (14, 375, 219, 0), (14, 274, 218, 0), (14, 382, 253, 0), (15, 138, 256, 0), (15, 142, 262, 0), (14, 402, 260, 0), (14, 388, 257, 0), (14, 391, 258, 0), (14, 394, 261, 0), (14, 398, 259, 0), (15, 146, 263, 0), (15, 156, 265, 0), (14, 405, 264, 0), (15, 160, 266, 0), (15, 150, 271, 0), (14, 421, 270, 0), (14, 418, 269, 0), (14, 411, 268, 0), (14, 408, 267, 0), (15, 153, 272, 0), (15, 163, 274, 0), (14, 424, 273, 0), (15, 167, 275, 0), (15, 171, 280, 0), (14, 439, 278, 0), (14, 436, 279, 0), (14, 433, 276, 0), (14, 430, 277, 0), (15, 175, 281, 0), (15, 178, 283, 0), (14, 442, 282, 0), (15, 181, 285, 0), (14, 445, 284, 0), (15, 184, 287, 0), (14, 449, 286, 0), (15, 187, 288, 0), (15, 191, 289, 0), (15, 194, 291, 0), (14, 458, 290, 0), (15, 198, 292, 0), (15, 202, 295, 0), (14, 469, 294, 0), (14, 465, 293, 0), (15, 206, 296, 0), (15, 210, 297, 0)]
set_option maxRecDepth 100000 in
theorem z_m_ok : ∀ q ∈ z_mL, z_mP q := List.forall_mem_cons.mpr ⟨z_m_0, List.forall_mem_cons.mpr ⟨z_m_1, List.forall_mem_cons.mpr ⟨z_m_2, List.forall_mem_cons.mpr ⟨z_m_3, List.forall_mem_cons.mpr ⟨z_m_4, List.forall_mem_cons.mpr ⟨z_m_5, List.forall_mem_cons.mpr ⟨z_m_6, List.forall_mem_cons.mpr ⟨z_m_7, List.forall_mem_cons.mpr ⟨z_m_8, List.forall_mem_cons.mpr ⟨z_m_9, List.forall_mem_cons.mpr ⟨z_m_10, List.forall_mem_cons.mpr ⟨z_m_11, List.forall_mem_cons.mpr ⟨z_m_12, List.forall_mem_cons.mpr ⟨z_m_13, List.forall_mem_cons.mpr ⟨z_m_14, List.forall_mem_cons.mpr ⟨z_m_15, List.forall_mem_cons.mpr ⟨z_m_16, List.forall_mem_cons.mpr ⟨z_m_17, List.forall_mem_cons.mpr ⟨z_m_18, List.forall_mem_cons.mpr ⟨z_m_19, List.forall_mem_cons.mpr ⟨z_m_20, List.forall_mem_cons.mpr ⟨z_m_21, List.forall_mem_cons.mpr ⟨z_m_22, List.forall_mem_cons.mpr ⟨z_m_23, List.forall_mem_cons.mpr ⟨z_m_24, List.forall_mem_cons.mpr ⟨z_m_25, List.forall_mem_cons.mpr ⟨z_m_26, List.forall_mem_cons.mpr ⟨z_m_27, List.forall_mem_cons.mpr ⟨z_m_28, List.forall_mem_cons.mpr ⟨z_m_29, List.forall_mem_cons.mpr ⟨z_m_30, List.forall_mem_cons.mpr ⟨z_m_31, List.forall_mem_cons.mpr ⟨z_m_32, List.forall_mem_cons.mpr ⟨z_m_33, List.forall_mem_cons.mpr ⟨z_m_34, List.forall_mem_cons.mpr ⟨z_m_35, List.forall_mem_cons.mpr ⟨z_m_36, List.forall_mem_cons.mpr ⟨z_m_37, List.forall_mem_cons.mpr ⟨z_m_38, List.forall_mem_cons.mpr ⟨z_m_39, List.forall_mem_cons.mpr ⟨z_m_40, List.forall_mem_cons.mpr ⟨z_m_41, List.forall_mem_cons.mpr ⟨z_m_42, List.forall_mem_cons.mpr ⟨z_m_43, List.forall_mem_cons.mpr ⟨z_m_44, List.forall_mem_cons.mpr ⟨z_m_45, List.forall_mem_cons.mpr ⟨z_m_46, List.forall_mem_cons.mpr ⟨z_m_47, List.forall_mem_cons.mpr ⟨z_m_48, List.forall_mem_cons.mpr ⟨z_m_49, List.forall_mem_cons.mpr ⟨z_m_50, List.forall_mem_cons.mpr ⟨z_m_51, List.forall_mem_cons.mpr ⟨z_m_52, List.forall_mem_cons.mpr ⟨z_m_53, List.forall_mem_cons.mpr ⟨z_m_54, List.forall_mem_cons.mpr ⟨z_m_55, List.forall_mem_cons.mpr ⟨z_m_56, List.forall_mem_cons.mpr ⟨z_m_57, List.forall_mem_cons.mpr ⟨z_m_58, List.forall_mem_cons.mpr ⟨z_m_59, List.forall_mem_cons.mpr ⟨z_m_60, List.forall_mem_cons.mpr ⟨z_m_61, List.forall_mem_cons.mpr ⟨z_m_62, List.forall_mem_cons.mpr ⟨z_m_63, List.forall_mem_cons.mpr ⟨z_m_64, List.forall_mem_cons.mpr ⟨z_m_65, List.forall_mem_cons.mpr ⟨z_m_66, List.forall_mem_cons.mpr ⟨z_m_67, List.forall_mem_cons.mpr ⟨z_m_68, List.forall_mem_cons.mpr ⟨z_m_69, List.forall_mem_cons.mpr ⟨z_m_70, List.forall_mem_cons.mpr ⟨z_m_71, List.forall_mem_cons.mpr ⟨z_m_72, List.forall_mem_cons.mpr ⟨z_m_73, List.forall_mem_cons.mpr ⟨z_m_74, List.forall_mem_cons.mpr ⟨z_m_75, List.forall_mem_cons.mpr ⟨z_m_76, List.forall_mem_cons.mpr ⟨z_m_77, List.forall_mem_cons.mpr ⟨z_m_78, List.forall_mem_cons.mpr ⟨z_m_79, List.forall_mem_cons.mpr ⟨z_m_80, List.forall_mem_cons.mpr ⟨z_m_81, List.forall_mem_cons.mpr ⟨z_m_82, List.forall_mem_cons.mpr ⟨z_m_83, List.forall_mem_cons.mpr ⟨z_m_84, List.forall_mem_cons.mpr ⟨z_m_85, List.forall_mem_cons.mpr ⟨z_m_86, List.forall_mem_cons.mpr ⟨z_m_87, List.forall_mem_cons.mpr ⟨z_m_88, List.forall_mem_cons.mpr ⟨z_m_89, List.forall_mem_cons.mpr ⟨z_m_90, List.forall_mem_cons.mpr ⟨z_m_91, List.forall_mem_cons.mpr ⟨z_m_92, List.forall_mem_cons.mpr ⟨z_m_93, List.forall_mem_cons.mpr ⟨z_m_94, List.forall_mem_cons.mpr ⟨z_m_95, List.forall_mem_cons.mpr ⟨z_m_96, List.forall_mem_cons.mpr ⟨z_m_97, List.forall_mem_cons.mpr ⟨z_m_98, List.forall_mem_cons.mpr ⟨z_m_99, List.forall_mem_cons.mpr ⟨z_m_100, List.forall_mem_cons.mpr ⟨z_m_101, List.forall_mem_cons.mpr ⟨z_m_102, List.forall_mem_cons.mpr ⟨z_m_103, List.forall_mem_cons.mpr ⟨z_m_104, List.forall_mem_cons.mpr ⟨z_m_105, List.forall_mem_cons.mpr ⟨z_m_106, List.forall_mem_cons.mpr ⟨z_m_107, List.forall_mem_cons.mpr ⟨z_m_108, List.forall_mem_cons.mpr ⟨z_m_109, List.forall_mem_cons.mpr ⟨z_m_110, List.forall_mem_cons.mpr ⟨z_m_111, List.forall_mem_cons.mpr ⟨z_m_112, List.forall_mem_cons.mpr ⟨z_m_113, List.forall_mem_cons.mpr ⟨z_m_114, List.forall_mem_cons.mpr ⟨z_m_115, List.forall_mem_cons.mpr ⟨z_m_116, List.forall_mem_cons.mpr ⟨z_m_117, List.forall_mem_cons.mpr ⟨z_m_118, List.forall_mem_cons.mpr ⟨z_m_119, List.forall_mem_cons.mpr ⟨z_m_120, List.forall_mem_cons.mpr ⟨z_m_121, List.forall_mem_cons.mpr ⟨z_m_122, List.forall_mem_cons.mpr ⟨z_m_123, List.forall_mem_cons.mpr ⟨z_m_124, List.forall_mem_cons.mpr ⟨z_m_125, List.forall_mem_cons.mpr ⟨z_m_126, List.forall_mem_cons.mpr ⟨z_m_127, List.forall_mem_cons.mpr ⟨z_m_128, List.forall_mem_cons.mpr ⟨z_m_129, List.forall_mem_cons.mpr ⟨z_m_130, List.forall_mem_cons.mpr ⟨z_m_131, List.forall_mem_cons.mpr ⟨z_m_132, List.forall_mem_cons.mpr ⟨z_m_133, List.forall_mem_cons.mpr ⟨z_m_134, List.forall_mem_cons.mpr ⟨z_m_135, List.forall_mem_cons.mpr ⟨z_m_136, List.forall_mem_cons.mpr ⟨z_m_137, List.forall_mem_cons.mpr ⟨z_m_138, List.forall_mem_cons.mpr ⟨z_m_139, List.forall_mem_cons.mpr ⟨z_m_140, List.forall_mem_cons.mpr ⟨z_m_141, List.forall_mem_cons.mpr ⟨z_m_142, List.forall_mem_cons.mpr ⟨z_m_143, List.forall_mem_cons.mpr ⟨z_m_144, List.forall_mem_cons.mpr ⟨z_m_145, List.forall_mem_cons.mpr ⟨z_m_146, List.forall_mem_cons.mpr ⟨z_m_147, List.forall_mem_cons.mpr ⟨z_m_148, List.forall_mem_cons.mpr ⟨z_m_149, List.forall_mem_cons.mpr ⟨z_m_150, List.forall_mem_cons.mpr ⟨z_m_151, List.forall_mem_cons.mpr ⟨z_m_152, List.forall_mem_cons.mpr ⟨z_m_153, List.forall_mem_cons.mpr ⟨z_m_154, List.forall_mem_cons.mpr ⟨z_m_155, List.forall_mem_cons.mpr ⟨z_m_156, List.forall_mem_cons.mpr ⟨z_m_157, List.forall_mem_cons.mpr ⟨z_m_158, List.forall_mem_cons.mpr ⟨z_m_159, List.forall_mem_cons.mpr ⟨z_m_160, List.forall_mem_cons.mpr ⟨z_m_161, List.forall_mem_cons.mpr ⟨z_m_162, List.forall_mem_cons.mpr ⟨z_m_163, List.forall_mem_cons.mpr ⟨z_m_164, List.forall_mem_cons.mpr ⟨z_m_165, List.forall_mem_cons.mpr ⟨z_m_166, List.forall_mem_cons.mpr ⟨z_m_167, List.forall_mem_cons.mpr ⟨z_m_168, List.forall_mem_cons.mpr ⟨z_m_169, List.forall_mem_cons.mpr ⟨z_m_170, List.forall_mem_cons.mpr ⟨z_m_171, List.forall_mem_cons.mpr ⟨z_m_172, List.forall_mem_cons.mpr ⟨z_m_173, List.forall_mem_cons.mpr ⟨z_m_174, List.forall_mem_cons.mpr ⟨z_m_175, List.forall_mem_cons.mpr ⟨z_m_176, List.forall_mem_cons.mpr ⟨z_m_177, List.forall_mem_cons.mpr ⟨z_m_178, List.forall_mem_cons.mpr ⟨z_m_179, List.forall_mem_cons.mpr ⟨z_m_180, List.forall_mem_cons.mpr ⟨z_m_181, List.forall_mem_cons.mpr ⟨z_m_182, List.forall_mem_cons.mpr ⟨z_m_183, List.forall_mem_cons.mpr ⟨z_m_184, List.forall_mem_cons.mpr ⟨z_m_185, List.forall_mem_cons.mpr ⟨z_m_186, List.forall_mem_cons.mpr ⟨z_m_187, List.forall_mem_cons.mpr ⟨z_m_188, List.forall_mem_cons.mpr ⟨z_m_189, List.forall_mem_cons.mpr ⟨z_m_190, List.forall_mem_cons.mpr ⟨z_m_191, List.forall_mem_cons.mpr ⟨z_m_192, List.forall_mem_cons.mpr ⟨z_m_193, List.forall_mem_cons.mpr ⟨z_m_194, List.forall_mem_cons.mpr ⟨z_m_195, List.forall_mem_cons.mpr ⟨z_m_196, List.forall_mem_cons.mpr ⟨z_m_197, List.forall_mem_cons.mpr ⟨z_m_198, List.forall_mem_cons.mpr ⟨z_m_199, List.forall_mem_cons.mpr ⟨z_m_200, List.forall_mem_cons.mpr ⟨z_m_201, List.forall_mem_cons.mpr ⟨z_m_202, List.forall_mem_cons.mpr ⟨z_m_203, List.forall_mem_cons.mpr ⟨z_m_204, List.forall_mem_cons.mpr ⟨z_m_205, List.forall_mem_cons.mpr ⟨z_m_206, List.forall_mem_cons.mpr ⟨z_m_207, List.forall_mem_cons.mpr ⟨z_m_208, List.forall_mem_cons.mpr ⟨z_m_209, List.forall_mem_cons.mpr ⟨z_m_210, List.forall_mem_cons.mpr ⟨z_m_211, List.forall_mem_cons.mpr ⟨z_m_212, List.forall_mem_cons.mpr ⟨z_m_213, List.forall_mem_cons.mpr ⟨z_m_214, List.forall_mem_cons.mpr ⟨z_m_215, List.forall_mem_cons.mpr ⟨z_m_216, List.forall_mem_cons.mpr ⟨z_m_217, List.forall_mem_cons.mpr ⟨z_m_218, List.forall_mem_cons.mpr ⟨z_m_219, List.forall_mem_cons.mpr ⟨z_m_220, List.forall_mem_cons.mpr ⟨z_m_221, List.forall_mem_cons.mpr ⟨z_m_222, List.forall_mem_cons.mpr ⟨z_m_223, List.forall_mem_cons.mpr ⟨z_m_224, List.forall_mem_cons.mpr ⟨z_m_225, List.forall_mem_cons.mpr ⟨z_m_226, List.forall_mem_cons.mpr ⟨z_m_227, List.forall_mem_cons.mpr ⟨z_m_228, List.forall_mem_cons.mpr ⟨z_m_229, List.forall_mem_cons.mpr ⟨z_m_230, List.forall_mem_cons.mpr ⟨z_m_231, List.forall_mem_cons.mpr ⟨z_m_232, List.forall_mem_cons.mpr ⟨z_m_233, List.forall_mem_cons.mpr ⟨z_m_234, List.forall_mem_cons.mpr ⟨z_m_235, List.forall_mem_cons.mpr ⟨z_m_236, List.forall_mem_cons.mpr ⟨z_m_237, List.forall_mem_cons.mpr ⟨z_m_238, List.forall_mem_cons.mpr ⟨z_m_239, List.forall_mem_cons.mpr ⟨z_m_240, List.forall_mem_cons.mpr ⟨z_m_241, List.forall_mem_cons.mpr ⟨z_m_242, List.forall_mem_cons.mpr ⟨z_m_243, List.forall_mem_cons.mpr ⟨z_m_244, List.forall_mem_cons.mpr ⟨z_m_245, List.forall_mem_cons.mpr ⟨z_m_246, List.forall_mem_cons.mpr ⟨z_m_247, List.forall_mem_cons.mpr ⟨z_m_248, List.forall_mem_cons.mpr ⟨z_m_249, List.forall_mem_cons.mpr ⟨z_m_250, List.forall_mem_cons.mpr ⟨z_m_251, List.forall_mem_cons.mpr ⟨z_m_252, List.forall_mem_cons.mpr ⟨z_m_253, List.forall_mem_cons.mpr ⟨z_m_254, List.forall_mem_cons.mpr ⟨z_m_255, List.forall_mem_cons.mpr ⟨z_m_256, List.forall_mem_cons.mpr ⟨z_m_257, List.forall_mem_cons.mpr ⟨z_m_258, List.forall_mem_cons.mpr ⟨z_m_259, List.forall_mem_cons.mpr ⟨z_m_260, List.forall_mem_cons.mpr ⟨z_m_261, List.forall_mem_cons.mpr ⟨z_m_262, List.forall_mem_cons.mpr ⟨z_m_263, List.forall_mem_cons.mpr ⟨z_m_264, List.forall_mem_cons.mpr ⟨z_m_265, List.forall_mem_cons.mpr ⟨z_m_266, List.forall_mem_cons.mpr ⟨z_m_267, List.forall_mem_cons.mpr ⟨z_m_268, List.forall_mem_cons.mpr ⟨z_m_269, List.forall_mem_cons.mpr ⟨z_m_270, List.forall_mem_cons.mpr ⟨z_m_271, List.forall_mem_cons.mpr ⟨z_m_272, List.forall_mem_cons.mpr ⟨z_m_273, List.forall_mem_cons.mpr ⟨z_m_274, List.forall_mem_cons.mpr ⟨z_m_275, List.forall_mem_cons.mpr ⟨z_m_276, List.forall_mem_cons.mpr ⟨z_m_277, List.forall_mem_cons.mpr ⟨z_m_278, List.forall_mem_cons.mpr ⟨z_m_279, List.forall_mem_cons.mpr ⟨z_m_280, List.forall_mem_cons.mpr ⟨z_m_281, List.forall_mem_cons.mpr ⟨z_m_282, List.forall_mem_cons.mpr ⟨z_m_283, List.forall_mem_cons.mpr ⟨z_m_284, List.forall_mem_cons.mpr ⟨z_m_285, List.forall_mem_cons.mpr ⟨z_m_286, List.forall_mem_cons.mpr ⟨z_m_287, List.forall_mem_cons.mpr ⟨z_m_288, List.forall_mem_cons.mpr ⟨z_m_289, List.forall_mem_cons.mpr ⟨z_m_290, List.forall_mem_cons.mpr ⟨z_m_291, List.forall_mem_cons.mpr ⟨z_m_292, List.forall_mem_cons.mpr ⟨z_m_293, List.forall_mem_cons.mpr ⟨z_m_294, List.forall_mem_cons.mpr ⟨z_m_295, List.forall_mem_cons.mpr ⟨z_m_296, List.forall_mem_cons.mpr ⟨z_m_297, List.forall_mem_cons.mpr ⟨z_m_298, List.forall_mem_cons.mpr ⟨z_m_299, List.forall_mem_cons.mpr ⟨z_m_300, List.forall_mem_cons.mpr ⟨z_m_301, List.forall_mem_cons.mpr ⟨z_m_302, List.forall_mem_cons.mpr ⟨z_m_303, List.forall_mem_cons.mpr ⟨z_m_304, List.forall_mem_cons.mpr ⟨z_m_305, List.forall_mem_cons.mpr ⟨z_m_306, List.forall_mem_cons.mpr ⟨z_m_307, List.forall_mem_cons.mpr ⟨z_m_308, List.forall_mem_cons.mpr ⟨z_m_309, List.forall_mem_cons.mpr ⟨z_m_310, List.forall_mem_cons.mpr ⟨z_m_311, List.forall_mem_cons.mpr ⟨z_m_312, List.forall_mem_cons.mpr ⟨z_m_313, List.forall_mem_cons.mpr ⟨z_m_314, List.forall_mem_cons.mpr ⟨z_m_315, List.forall_mem_cons.mpr ⟨z_m_316, List.forall_mem_cons.mpr ⟨z_m_317, List.forall_mem_cons.mpr ⟨z_m_318, List.forall_mem_cons.mpr ⟨z_m_319, List.forall_mem_cons.mpr ⟨z_m_320, List.forall_mem_cons.mpr ⟨z_m_321, List.forall_mem_cons.mpr ⟨z_m_322, List.forall_mem_cons.mpr ⟨z_m_323, List.forall_mem_cons.mpr ⟨z_m_324, List.forall_mem_cons.mpr ⟨z_m_325, List.forall_mem_cons.mpr ⟨z_m_326, List.forall_mem_cons.mpr ⟨z_m_327, List.forall_mem_cons.mpr ⟨z_m_328, List.forall_mem_cons.mpr ⟨z_m_329, List.forall_mem_cons.mpr ⟨z_m_330, List.forall_mem_cons.mpr ⟨z_m_331, List.forall_mem_cons.mpr ⟨z_m_332, List.forall_mem_cons.mpr ⟨z_m_333, List.forall_mem_cons.mpr ⟨z_m_334, List.forall_mem_cons.mpr ⟨z_m_335, List.forall_mem_cons.mpr ⟨z_m_336, List.forall_mem_cons.mpr ⟨z_m_337, List.forall_mem_cons.mpr ⟨z_m_338, List.forall_mem_cons.mpr ⟨z_m_339, List.forall_mem_cons.mpr ⟨z_m_340, List.forall_mem_cons.mpr ⟨z_m_341, List.forall_mem_cons.mpr ⟨z_m_342, List.forall_mem_cons.mpr ⟨z_m_343, List.forall_mem_cons.mpr ⟨z_m_344, List.forall_mem_cons.mpr ⟨z_m_345, List.forall_mem_cons.mpr ⟨z_m_346, List.forall_mem_cons.mpr ⟨z_m_347, List.forall_mem_cons.mpr ⟨z_m_348, List.forall_mem_cons.mpr ⟨z_m_349, List.forall_mem_cons.mpr ⟨z_m_350, List.forall_mem_cons.mpr ⟨z_m_351, List.forall_mem_cons.mpr ⟨z_m_352, List.forall_mem_cons.mpr ⟨z_m_353, List.forall_mem_cons.mpr ⟨z_m_354, List.forall_mem_cons.mpr ⟨z_m_355, List.forall_mem_cons.mpr ⟨z_m_356, List.forall_mem_cons.mpr ⟨z_m_357, List.forall_mem_cons.mpr ⟨z_m_358, List.forall_mem_cons.mpr ⟨z_m_359, List.forall_mem_cons.mpr ⟨z_m_360, List.forall_mem_cons.mpr ⟨z_m_361, List.forall_mem_cons.mpr ⟨z_m_362, List.forall_mem_cons.mpr ⟨z_m_363, List.forall_mem_cons.mpr ⟨z_m_364, List.forall_mem_cons.mpr ⟨z_m_365, List.forall_mem_cons.mpr ⟨z_m_366, List.forall_mem_cons.mpr ⟨z_m_367, List.forall_mem_cons.mpr ⟨z_m_368, List.forall_mem_cons.mpr ⟨z_m_369, List.forall_mem_cons.mpr ⟨z_m_370, List.forall_mem_cons.mpr ⟨z_m_371, List.forall_mem_cons.mpr ⟨z_m_372, List.forall_mem_cons.mpr ⟨z_m_373, List.forall_mem_cons.mpr ⟨z_m_374, List.forall_mem_cons.mpr ⟨z_m_375, List.forall_mem_cons.mpr ⟨z_m_376, List.forall_mem_cons.mpr ⟨z_m_377, List.forall_mem_cons.mpr ⟨z_m_378, List.forall_mem_cons.mpr ⟨z_m_379, List.forall_mem_cons.mpr ⟨z_m_380, List.forall_mem_cons.mpr ⟨z_m_381, List.forall_mem_cons.mpr ⟨z_m_382, List.forall_mem_cons.mpr ⟨z_m_383, List.forall_mem_cons.mpr ⟨z_m_384, List.forall_mem_cons.mpr ⟨z_m_385, List.forall_mem_cons.mpr ⟨z_m_386, List.forall_mem_cons.mpr ⟨z_m_387, fun _ h => absurd h List.not_mem_nil⟩⟩⟩⟩⟩⟩⟩⟩⟩⟩⟩⟩⟩⟩⟩⟩⟩⟩⟩⟩⟩⟩⟩⟩⟩⟩⟩⟩⟩⟩⟩⟩⟩⟩⟩⟩⟩⟩⟩⟩⟩⟩⟩⟩⟩⟩⟩⟩⟩⟩⟩⟩⟩⟩⟩⟩⟩⟩⟩⟩⟩⟩⟩⟩⟩⟩⟩⟩⟩⟩⟩⟩⟩⟩⟩⟩⟩⟩⟩⟩⟩⟩⟩⟩⟩⟩⟩⟩⟩⟩⟩⟩⟩⟩⟩⟩⟩⟩⟩⟩⟩⟩⟩⟩⟩⟩⟩⟩⟩⟩⟩⟩⟩⟩⟩⟩⟩⟩⟩⟩⟩⟩⟩⟩⟩⟩⟩⟩⟩⟩⟩⟩⟩⟩⟩⟩⟩⟩⟩⟩⟩⟩⟩⟩⟩⟩⟩⟩⟩⟩⟩⟩⟩⟩⟩⟩⟩⟩⟩⟩⟩⟩⟩⟩⟩⟩⟩⟩⟩⟩⟩⟩⟩⟩⟩⟩⟩⟩⟩⟩⟩⟩⟩⟩⟩⟩⟩⟩⟩⟩⟩⟩⟩⟩⟩⟩⟩⟩⟩⟩⟩⟩⟩⟩⟩⟩⟩⟩⟩⟩⟩⟩⟩⟩⟩⟩⟩⟩⟩⟩⟩⟩⟩⟩⟩⟩⟩⟩⟩⟩⟩⟩⟩⟩⟩⟩⟩⟩⟩⟩⟩⟩⟩⟩⟩⟩⟩⟩⟩⟩⟩⟩⟩⟩⟩⟩⟩⟩⟩⟩⟩⟩⟩⟩⟩⟩⟩⟩⟩⟩⟩⟩⟩⟩⟩⟩⟩⟩⟩⟩⟩⟩⟩⟩⟩⟩⟩⟩⟩⟩⟩⟩⟩⟩⟩⟩⟩⟩⟩⟩⟩⟩⟩⟩⟩⟩⟩⟩⟩⟩⟩⟩⟩⟩⟩⟩⟩⟩⟩⟩⟩⟩⟩⟩⟩⟩⟩⟩⟩⟩⟩⟩⟩⟩⟩⟩⟩⟩⟩⟩⟩⟩⟩⟩⟩⟩⟩⟩⟩⟩⟩⟩⟩⟩⟩⟩⟩⟩⟩⟩⟩⟩⟩⟩⟩⟩⟩⟩⟩⟩⟩⟩⟩⟩⟩⟩⟩⟩⟩⟩⟩⟩⟩⟩⟩⟩⟩⟩
set_option maxRecDepth 100000 in
theorem z_o_0 : z_oP ((13, 1)) := z_t1 31 rfl rfl
set_option maxRecDepth 100000 in
theorem z_o_1 : z_oP ((3, 3)) := z_t1 39 rfl rfl
set_option maxRecDepth 100000 in
theorem z_o_2 : z_oP ((5, 3)) := z_t1 68 rfl rfl
set_option maxRecDepth 100000 in
theorem z_o_3 : z_oP ((9, 5)) := z_t1 85 rfl rfl
set_option maxRecDepth 100000 in
theorem z_o_4 : z_oP ((10, 3)) := z_t1 107 rfl rfl
set_option maxRecDepth 100000 in
theorem z_o_5 : z_oP ((11, 3)) := z_t1 136 rfl rfl
set_option maxRecDepth 100000 in
theorem z_o_6 : z_oP ((6, 3)) := z_t1 142 rfl rfl
set_option maxRecDepth 100000 in
theorem z_o_7 : z_oP ((7, 3)) := z_t1 161 rfl rfl
set_option maxRecDepth 100000 in
theorem z_o_8 : z_oP ((12, 3)) := z_t1 196 rfl rfl
set_option maxRecDepth 100000 in
theorem z_o_9 : z_oP ((8, 3)) := z_t1 216 rfl rfl
set_option maxRecDepth 100000 in
theorem z_o_10 : z_oP ((4, 3)) := z_t2 4 rfl rfl
set_option maxRecDepth 100000 in
theorem z_o_11 : z_oP ((14, 3)) := z_t6 64 rfl rfl
def z_oL : List (Nat × Nat) := [(13, 1), (3, 3), (5, 3), (9, 5), (10, 3), (11, 3), (6, 3), (7, 3), (12, 3), (8, 3), (4, 3), (14, 3)]
set_option maxRecDepth 100000 in
theorem z_o_ok : ∀ q ∈ z_oL, z_oP q := List.forall_mem_cons.mpr ⟨z_o_0, List.forall_mem_cons.mpr ⟨z_o_1, List.forall_mem_cons.mpr ⟨z_o_2, List.forall_mem_cons.mpr ⟨z_o_3, List.forall_mem_cons.mpr ⟨z_o_4, List.forall_mem_cons.mpr ⟨z_o_5, List.forall_mem_cons.mpr ⟨z_o_6, List.forall_mem_cons.mpr ⟨z_o_7, List.forall_mem_cons.mpr ⟨z_o_8, List.forall_mem_cons.mpr ⟨z_o_9, List.forall_mem_cons.mpr ⟨z_o_10, List.forall_mem_cons.mpr ⟨z_o_11, fun _ h => absurd h List.not_mem_nil⟩⟩⟩⟩⟩⟩⟩⟩⟩⟩⟩⟩
set_option maxRecDepth 100000 in
theorem z_c_0 : z_cP ((15, 8, "LacedHoles")) := z_t1 26 rfl rfl
set_option maxRecDepth 100000 in
theorem z_c_1 : z_cP ((13, 7, "LacedHoles$Tape")) := z_t1 34 rfl rfl
set_option maxRecDepth 100000 in
theorem z_c_2 : z_cP ((13, 16, "LacedHoles$Roots")) := z_t1 63 rfl rfl
set_option maxRecDepth 100000 in
theorem z_c_3 : z_cP ((13, 23, "LacedHoles$Counter")) := z_t1 80 rfl rfl
set_option maxRecDepth 100000 in
theorem z_c_4 : z_cP ((13, 30, "LacedHoles$Finder")) := z_t1 102 rfl rfl
set_option maxRecDepth 100000 in
theorem z_c_5 : z_cP ((13, 37, "LacedHoles$Walk")) := z_t1 131 rfl rfl
set_option maxRecDepth 100000 in
theorem z_c_6 : z_cP ((11, 9, "LacedHoles$Way")) := z_t1 137 rfl rfl
set_option maxRecDepth 100000 in
theorem z_c_7 : z_cP ((11, 18, "LacedHoles$Picture")) := z_t1 156 rfl rfl
set_option maxRecDepth 100000 in
theorem z_c_8 : z_cP ((13, 44, "LacedHoles$Weeks")) := z_t1 191 rfl rfl
set_option maxRecDepth 100000 in
theorem z_c_9 : z_cP ((13, 51, "LacedHoles$Way")) := z_t1 209 rfl rfl
set_option maxRecDepth 100000 in
theorem z_c_10 : z_cP ((13, 58, "LacedHoles$Scene")) := z_t1 211 rfl rfl
set_option maxRecDepth 100000 in
theorem z_c_11 : z_cP ((8, 9, "LacedHoles$Way")) := z_t1 217 rfl rfl
set_option maxRecDepth 100000 in
theorem z_c_12 : z_cP ((8, 18, "LacedHoles$Picture")) := z_t1 219 rfl rfl
set_option maxRecDepth 100000 in
theorem z_c_13 : z_cP ((13, 69, "LacedHoles$Boot")) := z_t1 239 rfl rfl
set_option maxRecDepth 100000 in
theorem z_c_14 : z_cP ((15, 13, "java/lang/IllegalArgumentException")) := z_t3 237 rfl rfl
set_option maxRecDepth 100000 in
theorem z_c_15 : z_cP ((13, 108, "java/lang/IllegalArgumentException")) := z_t4 2 rfl rfl
set_option maxRecDepth 100000 in
theorem z_c_16 : z_cP ((15, 25, "java/lang/IndexOutOfBoundsException")) := z_t5 14 rfl rfl
set_option maxRecDepth 100000 in
theorem z_c_17 : z_cP ((13, 361, "java/lang/IndexOutOfBoundsException")) := z_t5 27 rfl rfl
set_option maxRecDepth 100000 in
theorem z_c_18 : z_cP ((15, 31, "java/util/NoSuchElementException")) := z_t5 48 rfl rfl
set_option maxRecDepth 100000 in
theorem z_c_19 : z_cP ((13, 366, "java/util/NoSuchElementException")) := z_t5 57 rfl rfl
set_option maxRecDepth 100000 in
theorem z_c_20 : z_cP ((15, 79, "LacedHolesModel")) := z_t6 59 rfl rfl
set_option maxRecDepth 100000 in
theorem z_c_21 : z_cP ((14, 29, "[[I")) := z_t6 65 rfl rfl
def z_cL : List (Nat × Nat × String) := [(15, 8, "LacedHoles"), (13, 7, "LacedHoles$Tape"), (13, 16, "LacedHoles$Roots"), (13, 23, "LacedHoles$Counter"), (13, 30, "LacedHoles$Finder"), (13, 37, "LacedHoles$Walk"), (11, 9, "LacedHoles$Way"), (11, 18, "LacedHoles$Picture"), (13, 44, "LacedHoles$Weeks"), (13, 51, "LacedHoles$Way"), (13, 58, "LacedHoles$Scene"), (8, 9, "LacedHoles$Way"), (8, 18, "LacedHoles$Picture"), (13, 69, "LacedHoles$Boot"), (15, 13, "java/lang/IllegalArgumentException"), (13, 108, "java/lang/IllegalArgumentException"), (15, 25, "java/lang/IndexOutOfBoundsException"), (13, 361, "java/lang/IndexOutOfBoundsException"), (15, 31, "java/util/NoSuchElementException"), (13, 366, "java/util/NoSuchElementException"), (15, 79, "LacedHolesModel"), (14, 29, "[[I")]
set_option maxRecDepth 100000 in
theorem z_c_ok : ∀ q ∈ z_cL, z_cP q := List.forall_mem_cons.mpr ⟨z_c_0, List.forall_mem_cons.mpr ⟨z_c_1, List.forall_mem_cons.mpr ⟨z_c_2, List.forall_mem_cons.mpr ⟨z_c_3, List.forall_mem_cons.mpr ⟨z_c_4, List.forall_mem_cons.mpr ⟨z_c_5, List.forall_mem_cons.mpr ⟨z_c_6, List.forall_mem_cons.mpr ⟨z_c_7, List.forall_mem_cons.mpr ⟨z_c_8, List.forall_mem_cons.mpr ⟨z_c_9, List.forall_mem_cons.mpr ⟨z_c_10, List.forall_mem_cons.mpr ⟨z_c_11, List.forall_mem_cons.mpr ⟨z_c_12, List.forall_mem_cons.mpr ⟨z_c_13, List.forall_mem_cons.mpr ⟨z_c_14, List.forall_mem_cons.mpr ⟨z_c_15, List.forall_mem_cons.mpr ⟨z_c_16, List.forall_mem_cons.mpr ⟨z_c_17, List.forall_mem_cons.mpr ⟨z_c_18, List.forall_mem_cons.mpr ⟨z_c_19, List.forall_mem_cons.mpr ⟨z_c_20, List.forall_mem_cons.mpr ⟨z_c_21, fun _ h => absurd h List.not_mem_nil⟩⟩⟩⟩⟩⟩⟩⟩⟩⟩⟩⟩⟩⟩⟩⟩⟩⟩⟩⟩⟩⟩
set_option maxRecDepth 100000 in
theorem z_k_0 : z_kP ((10, 11, 196608)) := z_t1 108 rfl rfl
set_option maxRecDepth 100000 in
theorem z_k_1 : z_kP ((0, 264, 65536)) := z_t2 193 rfl rfl
set_option maxRecDepth 100000 in
theorem z_k_2 : z_kP ((0, 265, 1431655765)) := z_t2 227 rfl rfl
set_option maxRecDepth 100000 in
theorem z_k_3 : z_kP ((0, 266, 858993459)) := z_t2 228 rfl rfl
set_option maxRecDepth 100000 in
theorem z_k_4 : z_kP ((0, 267, 252645135)) := z_t2 229 rfl rfl
set_option maxRecDepth 100000 in
theorem z_k_5 : z_kP ((13, 353, 2147483647)) := z_t3 200 rfl rfl
set_option maxRecDepth 100000 in
theorem z_k_6 : z_kP ((3, 63, 100000)) := z_t4 190 rfl rfl
set_option maxRecDepth 100000 in
theorem z_k_7 : z_kP ((12, 28, 2147483647)) := z_t6 40 rfl rfl
set_option maxRecDepth 100000 in
theorem z_k_8 : z_kP ((14, 77, 98304)) := z_t6 67 rfl rfl
set_option maxRecDepth 100000 in
theorem z_k_9 : z_kP ((14, 90, 196608)) := z_t6 68 rfl rfl
set_option maxRecDepth 100000 in
theorem z_k_10 : z_kP ((14, 138, 100000)) := z_t7 64 rfl rfl
set_option maxRecDepth 100000 in
theorem z_k_11 : z_kP ((14, 285, 1000000)) := z_t7 131 rfl rfl
set_option maxRecDepth 100000 in
theorem z_k_12 : z_kP ((14, 461, 2147483647)) := z_t8 191 rfl rfl
def z_kL : List (Nat × Nat × Int) := [(10, 11, 196608), (0, 264, 65536), (0, 265, 1431655765), (0, 266, 858993459), (0, 267, 252645135), (13, 353, 2147483647), (3, 63, 100000), (12, 28, 2147483647), (14, 77, 98304), (14, 90, 196608), (14, 138, 100000), (14, 285, 1000000), (14, 461, 2147483647)]
set_option maxRecDepth 100000 in
theorem z_k_ok : ∀ q ∈ z_kL, z_kP q := List.forall_mem_cons.mpr ⟨z_k_0, List.forall_mem_cons.mpr ⟨z_k_1, List.forall_mem_cons.mpr ⟨z_k_2, List.forall_mem_cons.mpr ⟨z_k_3, List.forall_mem_cons.mpr ⟨z_k_4, List.forall_mem_cons.mpr ⟨z_k_5, List.forall_mem_cons.mpr ⟨z_k_6, List.forall_mem_cons.mpr ⟨z_k_7, List.forall_mem_cons.mpr ⟨z_k_8, List.forall_mem_cons.mpr ⟨z_k_9, List.forall_mem_cons.mpr ⟨z_k_10, List.forall_mem_cons.mpr ⟨z_k_11, List.forall_mem_cons.mpr ⟨z_k_12, fun _ h => absurd h List.not_mem_nil⟩⟩⟩⟩⟩⟩⟩⟩⟩⟩⟩⟩⟩
set_option maxRecDepth 100000 in
theorem z_l_0 : z_lP ((5, 26, 4)) := z_t2 46 rfl rfl
set_option maxRecDepth 100000 in
theorem z_l_1 : z_lP ((5, 28, 3)) := z_t2 47 rfl rfl
set_option maxRecDepth 100000 in
theorem z_l_2 : z_lP ((5, 30, 2)) := z_t2 48 rfl rfl
set_option maxRecDepth 100000 in
theorem z_l_3 : z_lP ((10, 59, 9223372036854775807)) := z_t2 201 rfl rfl
set_option maxRecDepth 100000 in
theorem z_l_4 : z_lP ((13, 262, 9223372036854775807)) := z_t3 7 rfl rfl
set_option maxRecDepth 100000 in
theorem z_l_5 : z_lP ((5, 76, 64)) := z_t3 14 rfl rfl
set_option maxRecDepth 100000 in
theorem z_l_6 : z_lP ((5, 82, 281474976710655)) := z_t3 22 rfl rfl
set_option maxRecDepth 100000 in
theorem z_l_7 : z_lP ((5, 84, 1000)) := z_t3 23 rfl rfl
set_option maxRecDepth 100000 in
theorem z_l_8 : z_lP ((5, 86, 288230376151711743)) := z_t5 104 rfl rfl
set_option maxRecDepth 100000 in
theorem z_l_9 : z_lP ((5, 88, 10)) := z_t5 105 rfl rfl
set_option maxRecDepth 100000 in
theorem z_l_10 : z_lP ((13, 221, (-1))) := z_t5 122 rfl rfl
set_option maxRecDepth 100000 in
theorem z_l_11 : z_lP ((14, 215, 10)) := z_t6 97 rfl rfl
set_option maxRecDepth 100000 in
theorem z_l_12 : z_lP ((14, 246, 15)) := z_t7 123 rfl rfl
set_option maxRecDepth 100000 in
theorem z_l_13 : z_lP ((14, 286, 1000000)) := z_t7 132 rfl rfl
set_option maxRecDepth 100000 in
theorem z_l_14 : z_lP ((14, 248, 1000000000000)) := z_t7 185 rfl rfl
set_option maxRecDepth 100000 in
theorem z_l_15 : z_lP ((14, 250, 1000)) := z_t7 186 rfl rfl
set_option maxRecDepth 100000 in
theorem z_l_16 : z_lP ((14, 252, (-1000))) := z_t7 187 rfl rfl
set_option maxRecDepth 100000 in
theorem z_l_17 : z_lP ((14, 358, (-1))) := z_t8 0 rfl rfl
set_option maxRecDepth 100000 in
theorem z_l_18 : z_lP ((15, 127, 4294967295)) := z_t8 212 rfl rfl
def z_lL : List (Nat × Nat × Int) := [(5, 26, 4), (5, 28, 3), (5, 30, 2), (10, 59, 9223372036854775807), (13, 262, 9223372036854775807), (5, 76, 64), (5, 82, 281474976710655), (5, 84, 1000), (5, 86, 288230376151711743), (5, 88, 10), (13, 221, (-1)), (14, 215, 10), (14, 246, 15), (14, 286, 1000000), (14, 248, 1000000000000), (14, 250, 1000), (14, 252, (-1000)), (14, 358, (-1)), (15, 127, 4294967295)]
set_option maxRecDepth 100000 in
theorem z_l_ok : ∀ q ∈ z_lL, z_lP q := List.forall_mem_cons.mpr ⟨z_l_0, List.forall_mem_cons.mpr ⟨z_l_1, List.forall_mem_cons.mpr ⟨z_l_2, List.forall_mem_cons.mpr ⟨z_l_3, List.forall_mem_cons.mpr ⟨z_l_4, List.forall_mem_cons.mpr ⟨z_l_5, List.forall_mem_cons.mpr ⟨z_l_6, List.forall_mem_cons.mpr ⟨z_l_7, List.forall_mem_cons.mpr ⟨z_l_8, List.forall_mem_cons.mpr ⟨z_l_9, List.forall_mem_cons.mpr ⟨z_l_10, List.forall_mem_cons.mpr ⟨z_l_11, List.forall_mem_cons.mpr ⟨z_l_12, List.forall_mem_cons.mpr ⟨z_l_13, List.forall_mem_cons.mpr ⟨z_l_14, List.forall_mem_cons.mpr ⟨z_l_15, List.forall_mem_cons.mpr ⟨z_l_16, List.forall_mem_cons.mpr ⟨z_l_17, List.forall_mem_cons.mpr ⟨z_l_18, fun _ h => absurd h List.not_mem_nil⟩⟩⟩⟩⟩⟩⟩⟩⟩⟩⟩⟩⟩⟩⟩⟩⟩⟩⟩
