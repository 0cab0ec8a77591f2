abbrev PMe : Type := MethodName × ByteArray × Nat × Option FieldType
/-- a method of the tables: its code, its class, how many parameters -/
def okM (M : PMe) (n : Nat) : Prop := plainName M.1.cls = true ∧ Cond.code M.1 M.2.1 M.2.2.1 M.2.2.2 ∈ lw_tbl ∧ Cond.initialized M.1.cls ∈ lw_tbl ∧ (M.1.cls ≠ "java/lang/invoke/MethodHandle" ∧ M.1.cls ≠ "java/lang/invoke/VarHandle" ∧ (parseMethodDescriptor M.1.desc).map (fun d => d.parameters.length) = some n) ∧ M.2.2.1 ≤ 20
def MV (own : String) (idx : Nat) (M : PMe) (n : Nat) : Prop := okM M n ∧ Cond.methodLink own idx M.1 ∈ lw_tbl ∧ Cond.instanceMethod M.1 ∈ lw_tbl ∧ Cond.selects M.1.cls M.1 M.1 ∈ lw_tbl
def MS (own : String) (idx : Nat) (M : PMe) (n : Nat) : Prop := okM M n ∧ Cond.methodLink own idx M.1 ∈ lw_tbl ∧ Cond.static M.1 ∈ lw_tbl
def MN (own : String) (idx : Nat) (M : PMe) (host : String) (n : Nat) : Prop := okM M n ∧ Cond.methodLinkNest own idx M.1 host ∈ lw_tbl ∧ Cond.static M.1 ∈ lw_tbl
abbrev m_PS_init : PMe := (⟨"PetalSets", "<init>", "()V"⟩, prog_1_method_1_code, 1, none)
theorem ok_PS_init : okM m_PS_init 0 := ⟨by decide, List.mem_of_getElem? (i := 94) (by decide +kernel), List.mem_of_getElem? (i := 72) (by decide +kernel), by decide +kernel, by decide⟩
abbrev m_Family_init : PMe := (⟨"PetalSets$Family", "<init>", "()V"⟩, prog_3_method_1_code, 1, none)
theorem ok_Family_init : okM m_Family_init 0 := ⟨by decide, List.mem_of_getElem? (i := 102) (by decide +kernel), List.mem_of_getElem? (i := 73) (by decide +kernel), by decide +kernel, by decide⟩
abbrev m_History_init : PMe := (⟨"PetalSets$History", "<init>", "()V"⟩, prog_4_method_1_code, 1, none)
theorem ok_History_init : okM m_History_init 0 := ⟨by decide, List.mem_of_getElem? (i := 129) (by decide +kernel), List.mem_of_getElem? (i := 74) (by decide +kernel), by decide +kernel, by decide⟩
abbrev m_Tape_init : PMe := (⟨"PetalSets$Tape", "<init>", "()V"⟩, prog_9_method_1_code, 1, none)
theorem ok_Tape_init : okM m_Tape_init 0 := ⟨by decide, List.mem_of_getElem? (i := 149) (by decide +kernel), List.mem_of_getElem? (i := 75) (by decide +kernel), by decide +kernel, by decide⟩
abbrev m_Reader_init : PMe := (⟨"PetalSets$Reader", "<init>", "()V"⟩, prog_8_method_1_code, 1, none)
theorem ok_Reader_init : okM m_Reader_init 0 := ⟨by decide, List.mem_of_getElem? (i := 165) (by decide +kernel), List.mem_of_getElem? (i := 76) (by decide +kernel), by decide +kernel, by decide⟩
abbrev m_Touch_init : PMe := (⟨"PetalSets$Touch", "<init>", "()V"⟩, prog_11_method_1_code, 1, none)
theorem ok_Touch_init : okM m_Touch_init 0 := ⟨by decide, List.mem_of_getElem? (i := 175) (by decide +kernel), List.mem_of_getElem? (i := 77) (by decide +kernel), by decide +kernel, by decide⟩
abbrev m_Cover_init : PMe := (⟨"PetalSets$Cover", "<init>", "()V"⟩, prog_2_method_1_code, 1, none)
theorem ok_Cover_init : okM m_Cover_init 0 := ⟨by decide, List.mem_of_getElem? (i := 210) (by decide +kernel), List.mem_of_getElem? (i := 78) (by decide +kernel), by decide +kernel, by decide⟩
abbrev m_Thinner_init : PMe := (⟨"PetalSets$Thinner", "<init>", "()V"⟩, prog_10_method_1_code, 1, none)
theorem ok_Thinner_init : okM m_Thinner_init 0 := ⟨by decide, List.mem_of_getElem? (i := 225) (by decide +kernel), List.mem_of_getElem? (i := 79) (by decide +kernel), by decide +kernel, by decide⟩
abbrev m_Kernel_init : PMe := (⟨"PetalSets$Kernel", "<init>", "()V"⟩, prog_5_method_1_code, 1, none)
theorem ok_Kernel_init : okM m_Kernel_init 0 := ⟨by decide, List.mem_of_getElem? (i := 241) (by decide +kernel), List.mem_of_getElem? (i := 80) (by decide +kernel), by decide +kernel, by decide⟩
abbrev m_Page_init : PMe := (⟨"PetalSets$Page", "<init>", "()V"⟩, prog_6_method_1_code, 1, none)
theorem ok_Page_init : okM m_Page_init 0 := ⟨by decide, List.mem_of_getElem? (i := 284) (by decide +kernel), List.mem_of_getElem? (i := 81) (by decide +kernel), by decide +kernel, by decide⟩
abbrev m_PS_feed : PMe := (⟨"PetalSets", "feed", "(IIIII)I"⟩, prog_1_method_2_code, 6, some .int)
theorem ok_PS_feed : okM m_PS_feed 5 := ⟨by decide, List.mem_of_getElem? (i := 328) (by decide +kernel), List.mem_of_getElem? (i := 72) (by decide +kernel), by decide +kernel, by decide⟩
abbrev m_Tape_putFour : PMe := (⟨"PetalSets$Tape", "putFour", "(I)V"⟩, prog_9_method_2_code, 3, none)
theorem ok_Tape_putFour : okM m_Tape_putFour 1 := ⟨by decide, List.mem_of_getElem? (i := 332) (by decide +kernel), List.mem_of_getElem? (i := 75) (by decide +kernel), by decide +kernel, by decide⟩
abbrev m_PS_back : PMe := (⟨"PetalSets", "back", "(I)I"⟩, prog_1_method_3_code, 2, some .int)
theorem ok_PS_back : okM m_PS_back 1 := ⟨by decide, List.mem_of_getElem? (i := 336) (by decide +kernel), List.mem_of_getElem? (i := 72) (by decide +kernel), by decide +kernel, by decide⟩
abbrev m_PS_text : PMe := (⟨"PetalSets", "text", "()I"⟩, prog_1_method_4_code, 2, some .int)
theorem ok_PS_text : okM m_PS_text 0 := ⟨by decide, List.mem_of_getElem? (i := 340) (by decide +kernel), List.mem_of_getElem? (i := 72) (by decide +kernel), by decide +kernel, by decide⟩
abbrev m_Reader_read : PMe := (⟨"PetalSets$Reader", "read", "(LPetalSets$Tape;LPetalSets$Family;)I"⟩, prog_8_method_2_code, 5, some .int)
theorem ok_Reader_read : okM m_Reader_read 2 := ⟨by decide, List.mem_of_getElem? (i := 344) (by decide +kernel), List.mem_of_getElem? (i := 76) (by decide +kernel), by decide +kernel, by decide⟩
abbrev m_Family_startAnew : PMe := (⟨"PetalSets$Family", "startAnew", "(I)V"⟩, prog_3_method_17_code, 2, none)
theorem ok_Family_startAnew : okM m_Family_startAnew 1 := ⟨by decide, List.mem_of_getElem? (i := 348) (by decide +kernel), List.mem_of_getElem? (i := 73) (by decide +kernel), by decide +kernel, by decide⟩
abbrev m_Reader_skipBlanks : PMe := (⟨"PetalSets$Reader", "skipBlanks", "(LPetalSets$Tape;)V"⟩, prog_8_method_7_code, 2, none)
theorem ok_Reader_skipBlanks : okM m_Reader_skipBlanks 1 := ⟨by decide, List.mem_of_getElem? (i := 352) (by decide +kernel), List.mem_of_getElem? (i := 76) (by decide +kernel), by decide +kernel, by decide⟩
abbrev m_Tape_isBlank : PMe := (⟨"PetalSets$Tape", "isBlank", "(I)Z"⟩, prog_9_method_6_code, 2, some .boolean)
theorem ok_Tape_isBlank : okM m_Tape_isBlank 1 := ⟨by decide, List.mem_of_getElem? (i := 356) (by decide +kernel), List.mem_of_getElem? (i := 75) (by decide +kernel), by decide +kernel, by decide⟩
abbrev m_Tape_at : PMe := (⟨"PetalSets$Tape", "at", "(I)I"⟩, prog_9_method_3_code, 2, some .int)
theorem ok_Tape_at : okM m_Tape_at 1 := ⟨by decide, List.mem_of_getElem? (i := 360) (by decide +kernel), List.mem_of_getElem? (i := 75) (by decide +kernel), by decide +kernel, by decide⟩
abbrev m_Reader_isWord : PMe := (⟨"PetalSets$Reader", "isWord", "(LPetalSets$Tape;Ljava/lang/String;)Z"⟩, prog_8_method_8_code, 4, some .boolean)
theorem ok_Reader_isWord : okM m_Reader_isWord 2 := ⟨by decide, List.mem_of_getElem? (i := 365) (by decide +kernel), List.mem_of_getElem? (i := 76) (by decide +kernel), by decide +kernel, by decide⟩
abbrev m_St_length : PMe := (⟨"java/lang/String", "length", "()I"⟩, prog_16_method_54_code, 1, some .int)
theorem ok_St_length : okM m_St_length 0 := ⟨by decide, List.mem_of_getElem? (i := 369) (by decide +kernel), List.mem_of_getElem? (i := 83) (by decide +kernel), by decide +kernel, by decide⟩
abbrev m_St_coder : PMe := (⟨"java/lang/String", "coder", "()B"⟩, prog_16_method_152_code, 1, some .byte)
theorem ok_St_coder : okM m_St_coder 0 := ⟨by decide, List.mem_of_getElem? (i := 373) (by decide +kernel), List.mem_of_getElem? (i := 83) (by decide +kernel), by decide +kernel, by decide⟩
abbrev m_St_charAt : PMe := (⟨"java/lang/String", "charAt", "(I)C"⟩, prog_16_method_56_code, 2, some .char)
theorem ok_St_charAt : okM m_St_charAt 1 := ⟨by decide, List.mem_of_getElem? (i := 380) (by decide +kernel), List.mem_of_getElem? (i := 83) (by decide +kernel), by decide +kernel, by decide⟩
abbrev m_St_isLatin1 : PMe := (⟨"java/lang/String", "isLatin1", "()Z"⟩, prog_16_method_154_code, 1, some .boolean)
theorem ok_St_isLatin1 : okM m_St_isLatin1 0 := ⟨by decide, List.mem_of_getElem? (i := 384) (by decide +kernel), List.mem_of_getElem? (i := 83) (by decide +kernel), by decide +kernel, by decide⟩
abbrev m_SL_charAt : PMe := (⟨"java/lang/StringLatin1", "charAt", "([BI)C"⟩, prog_17_method_2_code, 2, some .char)
theorem ok_SL_charAt : okM m_SL_charAt 2 := ⟨by decide, List.mem_of_getElem? (i := 387) (by decide +kernel), List.mem_of_getElem? (i := 84) (by decide +kernel), by decide +kernel, by decide⟩
abbrev m_St_checkIndex : PMe := (⟨"java/lang/String", "checkIndex", "(II)V"⟩, prog_16_method_155_code, 2, none)
theorem ok_St_checkIndex : okM m_St_checkIndex 2 := ⟨by decide, List.mem_of_getElem? (i := 390) (by decide +kernel), List.mem_of_getElem? (i := 83) (by decide +kernel), by decide +kernel, by decide⟩
abbrev m_Pr_checkIndex : PMe := (⟨"jdk/internal/util/Preconditions", "checkIndex", "(IILjava/util/function/BiFunction;)I"⟩, prog_19_method_11_code, 3, some .int)
theorem ok_Pr_checkIndex : okM m_Pr_checkIndex 3 := ⟨by decide, List.mem_of_getElem? (i := 395) (by decide +kernel), List.mem_of_getElem? (i := 85) (by decide +kernel), by decide +kernel, by decide⟩
abbrev m_SU_charAt : PMe := (⟨"java/lang/StringUTF16", "charAt", "([BI)C"⟩, prog_18_method_83_code, 2, some .char)
theorem ok_SU_charAt : okM m_SU_charAt 2 := ⟨by decide, List.mem_of_getElem? (i := 398) (by decide +kernel), List.mem_of_getElem? (i := 86) (by decide +kernel), by decide +kernel, by decide⟩
abbrev m_SU_checkIndex : PMe := (⟨"java/lang/StringUTF16", "checkIndex", "(I[B)V"⟩, prog_18_method_91_code, 2, none)
theorem ok_SU_checkIndex : okM m_SU_checkIndex 2 := ⟨by decide, List.mem_of_getElem? (i := 401) (by decide +kernel), List.mem_of_getElem? (i := 86) (by decide +kernel), by decide +kernel, by decide⟩
abbrev m_SU_length : PMe := (⟨"java/lang/StringUTF16", "length", "([B)I"⟩, prog_18_method_6_code, 1, some .int)
theorem ok_SU_length : okM m_SU_length 1 := ⟨by decide, List.mem_of_getElem? (i := 404) (by decide +kernel), List.mem_of_getElem? (i := 86) (by decide +kernel), by decide +kernel, by decide⟩
abbrev m_SU_getChar : PMe := (⟨"java/lang/StringUTF16", "getChar", "([BI)C"⟩, prog_18_method_5_code, 2, some .char)
theorem ok_SU_getChar : okM m_SU_getChar 2 := ⟨by decide, List.mem_of_getElem? (i := 408) (by decide +kernel), List.mem_of_getElem? (i := 86) (by decide +kernel), by decide +kernel, by decide⟩
abbrev m_Tape_isLetter : PMe := (⟨"PetalSets$Tape", "isLetter", "(I)Z"⟩, prog_9_method_4_code, 2, some .boolean)
theorem ok_Tape_isLetter : okM m_Tape_isLetter 1 := ⟨by decide, List.mem_of_getElem? (i := 418) (by decide +kernel), List.mem_of_getElem? (i := 75) (by decide +kernel), by decide +kernel, by decide⟩
abbrev m_Reader_readPoints : PMe := (⟨"PetalSets$Reader", "readPoints", "(LPetalSets$Tape;LPetalSets$Family;)I"⟩, prog_8_method_3_code, 5, some .int)
theorem ok_Reader_readPoints : okM m_Reader_readPoints 2 := ⟨by decide, List.mem_of_getElem? (i := 422) (by decide +kernel), List.mem_of_getElem? (i := 76) (by decide +kernel), by decide +kernel, by decide⟩
abbrev m_Tape_isDigit : PMe := (⟨"PetalSets$Tape", "isDigit", "(I)Z"⟩, prog_9_method_5_code, 2, some .boolean)
theorem ok_Tape_isDigit : okM m_Tape_isDigit 1 := ⟨by decide, List.mem_of_getElem? (i := 426) (by decide +kernel), List.mem_of_getElem? (i := 75) (by decide +kernel), by decide +kernel, by decide⟩
abbrev m_Reader_readEnd : PMe := (⟨"PetalSets$Reader", "readEnd", "(LPetalSets$Tape;)I"⟩, prog_8_method_6_code, 2, some .int)
theorem ok_Reader_readEnd : okM m_Reader_readEnd 1 := ⟨by decide, List.mem_of_getElem? (i := 430) (by decide +kernel), List.mem_of_getElem? (i := 76) (by decide +kernel), by decide +kernel, by decide⟩
abbrev m_Reader_readSet : PMe := (⟨"PetalSets$Reader", "readSet", "(LPetalSets$Tape;LPetalSets$Family;)I"⟩, prog_8_method_4_code, 5, some .int)
theorem ok_Reader_readSet : okM m_Reader_readSet 2 := ⟨by decide, List.mem_of_getElem? (i := 434) (by decide +kernel), List.mem_of_getElem? (i := 76) (by decide +kernel), by decide +kernel, by decide⟩
abbrev m_Reader_readLetters : PMe := (⟨"PetalSets$Reader", "readLetters", "(LPetalSets$Tape;LPetalSets$Family;)I"⟩, prog_8_method_5_code, 5, some .int)
theorem ok_Reader_readLetters : okM m_Reader_readLetters 2 := ⟨by decide, List.mem_of_getElem? (i := 439) (by decide +kernel), List.mem_of_getElem? (i := 76) (by decide +kernel), by decide +kernel, by decide⟩
abbrev m_Family_isPoint : PMe := (⟨"PetalSets$Family", "isPoint", "(I)Z"⟩, prog_3_method_5_code, 2, some .boolean)
theorem ok_Family_isPoint : okM m_Family_isPoint 1 := ⟨by decide, List.mem_of_getElem? (i := 443) (by decide +kernel), List.mem_of_getElem? (i := 73) (by decide +kernel), by decide +kernel, by decide⟩
abbrev m_Family_isSet : PMe := (⟨"PetalSets$Family", "isSet", "(I)Z"⟩, prog_3_method_7_code, 2, some .boolean)
theorem ok_Family_isSet : okM m_Family_isSet 1 := ⟨by decide, List.mem_of_getElem? (i := 447) (by decide +kernel), List.mem_of_getElem? (i := 73) (by decide +kernel), by decide +kernel, by decide⟩
abbrev m_Family_allPoints : PMe := (⟨"PetalSets$Family", "allPoints", "()I"⟩, prog_3_method_3_code, 1, some .int)
theorem ok_Family_allPoints : okM m_Family_allPoints 0 := ⟨by decide, List.mem_of_getElem? (i := 451) (by decide +kernel), List.mem_of_getElem? (i := 73) (by decide +kernel), by decide +kernel, by decide⟩
abbrev m_Family_find : PMe := (⟨"PetalSets$Family", "find", "(I)I"⟩, prog_3_method_10_code, 3, some .int)
theorem ok_Family_find : okM m_Family_find 1 := ⟨by decide, List.mem_of_getElem? (i := 455) (by decide +kernel), List.mem_of_getElem? (i := 73) (by decide +kernel), by decide +kernel, by decide⟩
abbrev m_Family_append : PMe := (⟨"PetalSets$Family", "append", "(I)V"⟩, prog_3_method_18_code, 2, none)
theorem ok_Family_append : okM m_Family_append 1 := ⟨by decide, List.mem_of_getElem? (i := 459) (by decide +kernel), List.mem_of_getElem? (i := 73) (by decide +kernel), by decide +kernel, by decide⟩
abbrev m_Family_copyFrom : PMe := (⟨"PetalSets$Family", "copyFrom", "(LPetalSets$Family;)V"⟩, prog_3_method_21_code, 2, none)
theorem ok_Family_copyFrom : okM m_Family_copyFrom 1 := ⟨by decide, List.mem_of_getElem? (i := 463) (by decide +kernel), List.mem_of_getElem? (i := 73) (by decide +kernel), by decide +kernel, by decide⟩
abbrev m_Family_copySetsFrom : PMe := (⟨"PetalSets$Family", "copySetsFrom", "(LPetalSets$Family;)V"⟩, prog_3_method_22_code, 3, none)
theorem ok_Family_copySetsFrom : okM m_Family_copySetsFrom 1 := ⟨by decide, List.mem_of_getElem? (i := 467) (by decide +kernel), List.mem_of_getElem? (i := 73) (by decide +kernel), by decide +kernel, by decide⟩
abbrev m_History_forget : PMe := (⟨"PetalSets$History", "forget", "()V"⟩, prog_4_method_2_code, 1, none)
theorem ok_History_forget : okM m_History_forget 0 := ⟨by decide, List.mem_of_getElem? (i := 472) (by decide +kernel), List.mem_of_getElem? (i := 74) (by decide +kernel), by decide +kernel, by decide⟩
abbrev m_PS_add : PMe := (⟨"PetalSets", "add", "(I)I"⟩, prog_1_method_5_code, 2, some .int)
theorem ok_PS_add : okM m_PS_add 1 := ⟨by decide, List.mem_of_getElem? (i := 476) (by decide +kernel), List.mem_of_getElem? (i := 72) (by decide +kernel), by decide +kernel, by decide⟩
abbrev m_History_keep : PMe := (⟨"PetalSets$History", "keep", "(LPetalSets$Family;)V"⟩, prog_4_method_3_code, 3, none)
theorem ok_History_keep : okM m_History_keep 1 := ⟨by decide, List.mem_of_getElem? (i := 482) (by decide +kernel), List.mem_of_getElem? (i := 74) (by decide +kernel), by decide +kernel, by decide⟩
abbrev m_Family_at : PMe := (⟨"PetalSets$Family", "at", "(I)I"⟩, prog_3_method_2_code, 2, some .int)
theorem ok_Family_at : okM m_Family_at 1 := ⟨by decide, List.mem_of_getElem? (i := 489) (by decide +kernel), List.mem_of_getElem? (i := 73) (by decide +kernel), by decide +kernel, by decide⟩
abbrev m_PS_drop : PMe := (⟨"PetalSets", "drop", "(I)Z"⟩, prog_1_method_6_code, 2, some .boolean)
theorem ok_PS_drop : okM m_PS_drop 1 := ⟨by decide, List.mem_of_getElem? (i := 494) (by decide +kernel), List.mem_of_getElem? (i := 72) (by decide +kernel), by decide +kernel, by decide⟩
abbrev m_Family_holds : PMe := (⟨"PetalSets$Family", "holds", "(I)Z"⟩, prog_3_method_8_code, 2, some .boolean)
theorem ok_Family_holds : okM m_Family_holds 1 := ⟨by decide, List.mem_of_getElem? (i := 498) (by decide +kernel), List.mem_of_getElem? (i := 73) (by decide +kernel), by decide +kernel, by decide⟩
abbrev m_Family_takeOut : PMe := (⟨"PetalSets$Family", "takeOut", "(I)V"⟩, prog_3_method_20_code, 4, none)
theorem ok_Family_takeOut : okM m_Family_takeOut 1 := ⟨by decide, List.mem_of_getElem? (i := 502) (by decide +kernel), List.mem_of_getElem? (i := 73) (by decide +kernel), by decide +kernel, by decide⟩
abbrev m_PS_change : PMe := (⟨"PetalSets", "change", "(II)I"⟩, prog_1_method_7_code, 4, some .int)
theorem ok_PS_change : okM m_PS_change 2 := ⟨by decide, List.mem_of_getElem? (i := 506) (by decide +kernel), List.mem_of_getElem? (i := 72) (by decide +kernel), by decide +kernel, by decide⟩
abbrev m_PS_swap : PMe := (⟨"PetalSets", "swap", "(II)I"⟩, prog_1_method_8_code, 7, some .int)
theorem ok_PS_swap : okM m_PS_swap 2 := ⟨by decide, List.mem_of_getElem? (i := 511) (by decide +kernel), List.mem_of_getElem? (i := 72) (by decide +kernel), by decide +kernel, by decide⟩
abbrev m_Ig_bitCount : PMe := (⟨"java/lang/Integer", "bitCount", "(I)I"⟩, prog_14_method_49_code, 1, some .int)
theorem ok_Ig_bitCount : okM m_Ig_bitCount 1 := ⟨by decide, List.mem_of_getElem? (i := 516) (by decide +kernel), List.mem_of_getElem? (i := 88) (by decide +kernel), by decide +kernel, by decide⟩
abbrev m_PS_becomeIfChanged : PMe := (⟨"PetalSets", "becomeIfChanged", "()I"⟩, prog_1_method_18_code, 3, some .int)
theorem ok_PS_becomeIfChanged : okM m_PS_becomeIfChanged 0 := ⟨by decide, List.mem_of_getElem? (i := 523) (by decide +kernel), List.mem_of_getElem? (i := 72) (by decide +kernel), by decide +kernel, by decide⟩
abbrev m_PS_become : PMe := (⟨"PetalSets", "become", "(LPetalSets$Family;)V"⟩, prog_1_method_17_code, 2, none)
theorem ok_PS_become : okM m_PS_become 1 := ⟨by decide, List.mem_of_getElem? (i := 527) (by decide +kernel), List.mem_of_getElem? (i := 72) (by decide +kernel), by decide +kernel, by decide⟩
abbrev m_PS_without : PMe := (⟨"PetalSets", "without", "(I)I"⟩, prog_1_method_9_code, 3, some .int)
theorem ok_PS_without : okM m_PS_without 1 := ⟨by decide, List.mem_of_getElem? (i := 532) (by decide +kernel), List.mem_of_getElem? (i := 72) (by decide +kernel), by decide +kernel, by decide⟩
abbrev m_Family_setsWith : PMe := (⟨"PetalSets$Family", "setsWith", "(I)I"⟩, prog_3_method_11_code, 4, some .int)
theorem ok_Family_setsWith : okM m_Family_setsWith 1 := ⟨by decide, List.mem_of_getElem? (i := 536) (by decide +kernel), List.mem_of_getElem? (i := 73) (by decide +kernel), by decide +kernel, by decide⟩
abbrev m_Family_appendNew : PMe := (⟨"PetalSets$Family", "appendNew", "(I)V"⟩, prog_3_method_19_code, 2, none)
theorem ok_Family_appendNew : okM m_Family_appendNew 1 := ⟨by decide, List.mem_of_getElem? (i := 540) (by decide +kernel), List.mem_of_getElem? (i := 73) (by decide +kernel), by decide +kernel, by decide⟩
abbrev m_PS_only : PMe := (⟨"PetalSets", "only", "(IZ)I"⟩, prog_1_method_10_code, 5, some .int)
theorem ok_PS_only : okM m_PS_only 2 := ⟨by decide, List.mem_of_getElem? (i := 545) (by decide +kernel), List.mem_of_getElem? (i := 72) (by decide +kernel), by decide +kernel, by decide⟩
abbrev m_Family_allSets : PMe := (⟨"PetalSets$Family", "allSets", "()I"⟩, prog_3_method_4_code, 1, some .int)
theorem ok_Family_allSets : okM m_Family_allSets 0 := ⟨by decide, List.mem_of_getElem? (i := 549) (by decide +kernel), List.mem_of_getElem? (i := 73) (by decide +kernel), by decide +kernel, by decide⟩
abbrev m_PS_letGo : PMe := (⟨"PetalSets", "letGo", "(I)I"⟩, prog_1_method_19_code, 2, some .int)
theorem ok_PS_letGo : okM m_PS_letGo 1 := ⟨by decide, List.mem_of_getElem? (i := 553) (by decide +kernel), List.mem_of_getElem? (i := 72) (by decide +kernel), by decide +kernel, by decide⟩
abbrev m_PS_join : PMe := (⟨"PetalSets", "join", "(II)I"⟩, prog_1_method_11_code, 6, some .int)
theorem ok_PS_join : okM m_PS_join 2 := ⟨by decide, List.mem_of_getElem? (i := 557) (by decide +kernel), List.mem_of_getElem? (i := 72) (by decide +kernel), by decide +kernel, by decide⟩
abbrev m_PS_turn : PMe := (⟨"PetalSets", "turn", "()I"⟩, prog_1_method_12_code, 4, some .int)
theorem ok_PS_turn : okM m_PS_turn 0 := ⟨by decide, List.mem_of_getElem? (i := 561) (by decide +kernel), List.mem_of_getElem? (i := 72) (by decide +kernel), by decide +kernel, by decide⟩
abbrev m_PS_flip : PMe := (⟨"PetalSets", "flip", "()I"⟩, prog_1_method_13_code, 2, some .int)
theorem ok_PS_flip : okM m_PS_flip 0 := ⟨by decide, List.mem_of_getElem? (i := 566) (by decide +kernel), List.mem_of_getElem? (i := 72) (by decide +kernel), by decide +kernel, by decide⟩
abbrev m_PS_reduce : PMe := (⟨"PetalSets", "reduce", "(I)I"⟩, prog_1_method_14_code, 2, some .int)
theorem ok_PS_reduce : okM m_PS_reduce 1 := ⟨by decide, List.mem_of_getElem? (i := 570) (by decide +kernel), List.mem_of_getElem? (i := 72) (by decide +kernel), by decide +kernel, by decide⟩
abbrev m_PS_isBudget : PMe := (⟨"PetalSets", "isBudget", "(I)Z"⟩, prog_1_method_20_code, 1, some .boolean)
theorem ok_PS_isBudget : okM m_PS_isBudget 1 := ⟨by decide, List.mem_of_getElem? (i := 573) (by decide +kernel), List.mem_of_getElem? (i := 72) (by decide +kernel), by decide +kernel, by decide⟩
abbrev m_Kernel_run : PMe := (⟨"PetalSets$Kernel", "run", "(LPetalSets$Family;I)V"⟩, prog_5_method_2_code, 5, none)
theorem ok_Kernel_run : okM m_Kernel_run 2 := ⟨by decide, List.mem_of_getElem? (i := 577) (by decide +kernel), List.mem_of_getElem? (i := 80) (by decide +kernel), by decide +kernel, by decide⟩
abbrev m_Family_hasSameSetsAs : PMe := (⟨"PetalSets$Family", "hasSameSetsAs", "(LPetalSets$Family;)Z"⟩, prog_3_method_23_code, 3, some .boolean)
theorem ok_Family_hasSameSetsAs : okM m_Family_hasSameSetsAs 1 := ⟨by decide, List.mem_of_getElem? (i := 581) (by decide +kernel), List.mem_of_getElem? (i := 73) (by decide +kernel), by decide +kernel, by decide⟩
abbrev m_Kernel_takeStep : PMe := (⟨"PetalSets$Kernel", "takeStep", "(I)Z"⟩, prog_5_method_3_code, 5, some .boolean)
theorem ok_Kernel_takeStep : okM m_Kernel_takeStep 1 := ⟨by decide, List.mem_of_getElem? (i := 586) (by decide +kernel), List.mem_of_getElem? (i := 80) (by decide +kernel), by decide +kernel, by decide⟩
abbrev m_Kernel_firstWithInner : PMe := (⟨"PetalSets$Kernel", "firstWithInner", "()I"⟩, prog_5_method_4_code, 3, some .int)
theorem ok_Kernel_firstWithInner : okM m_Kernel_firstWithInner 0 := ⟨by decide, List.mem_of_getElem? (i := 590) (by decide +kernel), List.mem_of_getElem? (i := 80) (by decide +kernel), by decide +kernel, by decide⟩
abbrev m_Kernel_noteStep : PMe := (⟨"PetalSets$Kernel", "noteStep", "(III)V"⟩, prog_5_method_5_code, 4, none)
theorem ok_Kernel_noteStep : okM m_Kernel_noteStep 3 := ⟨by decide, List.mem_of_getElem? (i := 596) (by decide +kernel), List.mem_of_getElem? (i := 80) (by decide +kernel), by decide +kernel, by decide⟩
abbrev m_Petals_leastFlower : PMe := (⟨"PetalSets$Petals", "leastFlower", "(LPetalSets$Family;I)I"⟩, prog_7_method_5_code, 7, some .int)
theorem ok_Petals_leastFlower : okM m_Petals_leastFlower 2 := ⟨by decide, List.mem_of_getElem? (i := 599) (by decide +kernel), List.mem_of_getElem? (i := 89) (by decide +kernel), by decide +kernel, by decide⟩
abbrev m_Petals_fitting : PMe := (⟨"PetalSets$Petals", "fitting", "(LPetalSets$Family;III)I"⟩, prog_7_method_11_code, 5, some .int)
theorem ok_Petals_fitting : okM m_Petals_fitting 4 := ⟨by decide, List.mem_of_getElem? (i := 603) (by decide +kernel), List.mem_of_getElem? (i := 89) (by decide +kernel), by decide +kernel, by decide⟩
abbrev m_Petals_meetingIn : PMe := (⟨"PetalSets$Petals", "meetingIn", "(LPetalSets$Family;III)I"⟩, prog_7_method_12_code, 6, some .int)
theorem ok_Petals_meetingIn : okM m_Petals_meetingIn 4 := ⟨by decide, List.mem_of_getElem? (i := 606) (by decide +kernel), List.mem_of_getElem? (i := 89) (by decide +kernel), by decide +kernel, by decide⟩
abbrev m_Petals_leastClique : PMe := (⟨"PetalSets$Petals", "leastClique", "(LPetalSets$Family;III)I"⟩, prog_7_method_9_code, 7, some .int)
theorem ok_Petals_leastClique : okM m_Petals_leastClique 4 := ⟨by decide, List.mem_of_getElem? (i := 609) (by decide +kernel), List.mem_of_getElem? (i := 89) (by decide +kernel), by decide +kernel, by decide⟩
abbrev m_Ig_lowestOneBit : PMe := (⟨"java/lang/Integer", "lowestOneBit", "(I)I"⟩, prog_14_method_46_code, 1, some .int)
theorem ok_Ig_lowestOneBit : okM m_Ig_lowestOneBit 1 := ⟨by decide, List.mem_of_getElem? (i := 613) (by decide +kernel), List.mem_of_getElem? (i := 88) (by decide +kernel), by decide +kernel, by decide⟩
abbrev m_Petals_coreOf : PMe := (⟨"PetalSets$Petals", "coreOf", "(LPetalSets$Family;I)I"⟩, prog_7_method_2_code, 6, some .int)
theorem ok_Petals_coreOf : okM m_Petals_coreOf 2 := ⟨by decide, List.mem_of_getElem? (i := 616) (by decide +kernel), List.mem_of_getElem? (i := 89) (by decide +kernel), by decide +kernel, by decide⟩
abbrev m_PS_thin : PMe := (⟨"PetalSets", "thin", "(I)I"⟩, prog_1_method_15_code, 3, some .int)
theorem ok_PS_thin : okM m_PS_thin 1 := ⟨by decide, List.mem_of_getElem? (i := 621) (by decide +kernel), List.mem_of_getElem? (i := 72) (by decide +kernel), by decide +kernel, by decide⟩
abbrev m_PS_isFlowerSize : PMe := (⟨"PetalSets", "isFlowerSize", "(I)Z"⟩, prog_1_method_21_code, 1, some .boolean)
theorem ok_PS_isFlowerSize : okM m_PS_isFlowerSize 1 := ⟨by decide, List.mem_of_getElem? (i := 624) (by decide +kernel), List.mem_of_getElem? (i := 72) (by decide +kernel), by decide +kernel, by decide⟩
abbrev m_Thinner_leastFree : PMe := (⟨"PetalSets$Thinner", "leastFree", "(LPetalSets$Family;I)I"⟩, prog_10_method_2_code, 5, some .int)
theorem ok_Thinner_leastFree : okM m_Thinner_leastFree 2 := ⟨by decide, List.mem_of_getElem? (i := 628) (by decide +kernel), List.mem_of_getElem? (i := 79) (by decide +kernel), by decide +kernel, by decide⟩
abbrev m_Thinner_fillFits : PMe := (⟨"PetalSets$Thinner", "fillFits", "(LPetalSets$Family;)V"⟩, prog_10_method_3_code, 4, none)
theorem ok_Thinner_fillFits : okM m_Thinner_fillFits 1 := ⟨by decide, List.mem_of_getElem? (i := 633) (by decide +kernel), List.mem_of_getElem? (i := 79) (by decide +kernel), by decide +kernel, by decide⟩
abbrev m_Thinner_choose : PMe := (⟨"PetalSets$Thinner", "choose", "(IIII)I"⟩, prog_10_method_4_code, 7, some .int)
theorem ok_Thinner_choose : okM m_Thinner_choose 4 := ⟨by decide, List.mem_of_getElem? (i := 640) (by decide +kernel), List.mem_of_getElem? (i := 79) (by decide +kernel), by decide +kernel, by decide⟩
abbrev m_Thinner_closes : PMe := (⟨"PetalSets$Thinner", "closes", "(III)Z"⟩, prog_10_method_5_code, 6, some .boolean)
theorem ok_Thinner_closes : okM m_Thinner_closes 3 := ⟨by decide, List.mem_of_getElem? (i := 644) (by decide +kernel), List.mem_of_getElem? (i := 79) (by decide +kernel), by decide +kernel, by decide⟩
abbrev m_PS_undo : PMe := (⟨"PetalSets", "undo", "()I"⟩, prog_1_method_16_code, 1, some .int)
theorem ok_PS_undo : okM m_PS_undo 0 := ⟨by decide, List.mem_of_getElem? (i := 649) (by decide +kernel), List.mem_of_getElem? (i := 72) (by decide +kernel), by decide +kernel, by decide⟩
abbrev m_History_restore : PMe := (⟨"PetalSets$History", "restore", "(LPetalSets$Family;)V"⟩, prog_4_method_4_code, 3, none)
theorem ok_History_restore : okM m_History_restore 1 := ⟨by decide, List.mem_of_getElem? (i := 653) (by decide +kernel), List.mem_of_getElem? (i := 74) (by decide +kernel), by decide +kernel, by decide⟩
abbrev m_PS_set : PMe := (⟨"PetalSets", "set", "(II)I"⟩, prog_1_method_22_code, 4, some .int)
theorem ok_PS_set : okM m_PS_set 2 := ⟨by decide, List.mem_of_getElem? (i := 661) (by decide +kernel), List.mem_of_getElem? (i := 72) (by decide +kernel), by decide +kernel, by decide⟩
abbrev m_Family_setsMeeting : PMe := (⟨"PetalSets$Family", "setsMeeting", "(I)I"⟩, prog_3_method_12_code, 4, some .int)
theorem ok_Family_setsMeeting : okM m_Family_setsMeeting 1 := ⟨by decide, List.mem_of_getElem? (i := 665) (by decide +kernel), List.mem_of_getElem? (i := 73) (by decide +kernel), by decide +kernel, by decide⟩
abbrev m_PS_degree : PMe := (⟨"PetalSets", "degree", "(I)I"⟩, prog_1_method_23_code, 2, some .int)
theorem ok_PS_degree : okM m_PS_degree 1 := ⟨by decide, List.mem_of_getElem? (i := 669) (by decide +kernel), List.mem_of_getElem? (i := 72) (by decide +kernel), by decide +kernel, by decide⟩
abbrev m_PS_having : PMe := (⟨"PetalSets", "having", "(I)I"⟩, prog_1_method_24_code, 2, some .int)
theorem ok_PS_having : okM m_PS_having 1 := ⟨by decide, List.mem_of_getElem? (i := 673) (by decide +kernel), List.mem_of_getElem? (i := 72) (by decide +kernel), by decide +kernel, by decide⟩
abbrev m_Family_arePoints : PMe := (⟨"PetalSets$Family", "arePoints", "(I)Z"⟩, prog_3_method_6_code, 2, some .boolean)
theorem ok_Family_arePoints : okM m_Family_arePoints 1 := ⟨by decide, List.mem_of_getElem? (i := 677) (by decide +kernel), List.mem_of_getElem? (i := 73) (by decide +kernel), by decide +kernel, by decide⟩
abbrev m_PS_isFlower : PMe := (⟨"PetalSets", "isFlower", "(I)I"⟩, prog_1_method_25_code, 2, some .int)
theorem ok_PS_isFlower : okM m_PS_isFlower 1 := ⟨by decide, List.mem_of_getElem? (i := 681) (by decide +kernel), List.mem_of_getElem? (i := 72) (by decide +kernel), by decide +kernel, by decide⟩
abbrev m_Family_areSets : PMe := (⟨"PetalSets$Family", "areSets", "(I)Z"⟩, prog_3_method_9_code, 2, some .boolean)
theorem ok_Family_areSets : okM m_Family_areSets 1 := ⟨by decide, List.mem_of_getElem? (i := 685) (by decide +kernel), List.mem_of_getElem? (i := 73) (by decide +kernel), by decide +kernel, by decide⟩
abbrev m_PS_core : PMe := (⟨"PetalSets", "core", "(I)I"⟩, prog_1_method_26_code, 2, some .int)
theorem ok_PS_core : okM m_PS_core 1 := ⟨by decide, List.mem_of_getElem? (i := 691) (by decide +kernel), List.mem_of_getElem? (i := 72) (by decide +kernel), by decide +kernel, by decide⟩
abbrev m_PS_greatest : PMe := (⟨"PetalSets", "greatest", "(I)I"⟩, prog_1_method_27_code, 3, some .int)
theorem ok_PS_greatest : okM m_PS_greatest 1 := ⟨by decide, List.mem_of_getElem? (i := 695) (by decide +kernel), List.mem_of_getElem? (i := 72) (by decide +kernel), by decide +kernel, by decide⟩
abbrev m_Petals_largest : PMe := (⟨"PetalSets$Petals", "largest", "(LPetalSets$Family;)I"⟩, prog_7_method_3_code, 4, some .int)
theorem ok_Petals_largest : okM m_Petals_largest 1 := ⟨by decide, List.mem_of_getElem? (i := 698) (by decide +kernel), List.mem_of_getElem? (i := 89) (by decide +kernel), by decide +kernel, by decide⟩
abbrev m_PS_flower : PMe := (⟨"PetalSets", "flower", "(I)I"⟩, prog_1_method_28_code, 3, some .int)
theorem ok_PS_flower : okM m_PS_flower 1 := ⟨by decide, List.mem_of_getElem? (i := 703) (by decide +kernel), List.mem_of_getElem? (i := 72) (by decide +kernel), by decide +kernel, by decide⟩
abbrev m_PS_flowers : PMe := (⟨"PetalSets", "flowers", "(I)I"⟩, prog_1_method_29_code, 2, some .int)
theorem ok_PS_flowers : okM m_PS_flowers 1 := ⟨by decide, List.mem_of_getElem? (i := 708) (by decide +kernel), List.mem_of_getElem? (i := 72) (by decide +kernel), by decide +kernel, by decide⟩
abbrev m_Petals_countFlowers : PMe := (⟨"PetalSets$Petals", "countFlowers", "(LPetalSets$Family;I)I"⟩, prog_7_method_6_code, 7, some .int)
theorem ok_Petals_countFlowers : okM m_Petals_countFlowers 2 := ⟨by decide, List.mem_of_getElem? (i := 711) (by decide +kernel), List.mem_of_getElem? (i := 89) (by decide +kernel), by decide +kernel, by decide⟩
abbrev m_Petals_countCliques : PMe := (⟨"PetalSets$Petals", "countCliques", "(LPetalSets$Family;III)I"⟩, prog_7_method_10_code, 7, some .int)
theorem ok_Petals_countCliques : okM m_Petals_countCliques 4 := ⟨by decide, List.mem_of_getElem? (i := 714) (by decide +kernel), List.mem_of_getElem? (i := 89) (by decide +kernel), by decide +kernel, by decide⟩
abbrev m_PS_byCore : PMe := (⟨"PetalSets", "byCore", "(II)I"⟩, prog_1_method_30_code, 4, some .int)
theorem ok_PS_byCore : okM m_PS_byCore 2 := ⟨by decide, List.mem_of_getElem? (i := 718) (by decide +kernel), List.mem_of_getElem? (i := 72) (by decide +kernel), by decide +kernel, by decide⟩
abbrev m_Petals_largestOf : PMe := (⟨"PetalSets$Petals", "largestOf", "(LPetalSets$Family;I)I"⟩, prog_7_method_4_code, 5, some .int)
theorem ok_Petals_largestOf : okM m_Petals_largestOf 2 := ⟨by decide, List.mem_of_getElem? (i := 721) (by decide +kernel), List.mem_of_getElem? (i := 89) (by decide +kernel), by decide +kernel, by decide⟩
abbrev m_PS_cores : PMe := (⟨"PetalSets", "cores", "(I)I"⟩, prog_1_method_31_code, 6, some .int)
theorem ok_PS_cores : okM m_PS_cores 1 := ⟨by decide, List.mem_of_getElem? (i := 726) (by decide +kernel), List.mem_of_getElem? (i := 72) (by decide +kernel), by decide +kernel, by decide⟩
abbrev m_Petals_isNewMeet : PMe := (⟨"PetalSets$Petals", "isNewMeet", "(LPetalSets$Family;II)Z"⟩, prog_7_method_8_code, 6, some .boolean)
theorem ok_Petals_isNewMeet : okM m_Petals_isNewMeet 3 := ⟨by decide, List.mem_of_getElem? (i := 729) (by decide +kernel), List.mem_of_getElem? (i := 89) (by decide +kernel), by decide +kernel, by decide⟩
abbrev m_PS_most : PMe := (⟨"PetalSets", "most", "(I)I"⟩, prog_1_method_32_code, 2, some .int)
theorem ok_PS_most : okM m_PS_most 1 := ⟨by decide, List.mem_of_getElem? (i := 734) (by decide +kernel), List.mem_of_getElem? (i := 72) (by decide +kernel), by decide +kernel, by decide⟩
abbrev m_PS_surplus : PMe := (⟨"PetalSets", "surplus", "(I)I"⟩, prog_1_method_33_code, 2, some .int)
theorem ok_PS_surplus : okM m_PS_surplus 1 := ⟨by decide, List.mem_of_getElem? (i := 738) (by decide +kernel), List.mem_of_getElem? (i := 72) (by decide +kernel), by decide +kernel, by decide⟩
abbrev m_PS_uneven : PMe := (⟨"PetalSets", "uneven", "(I)I"⟩, prog_1_method_34_code, 5, some .int)
theorem ok_PS_uneven : okM m_PS_uneven 1 := ⟨by decide, List.mem_of_getElem? (i := 742) (by decide +kernel), List.mem_of_getElem? (i := 72) (by decide +kernel), by decide +kernel, by decide⟩
abbrev m_Ig_numberOfTrailingZeros : PMe := (⟨"java/lang/Integer", "numberOfTrailingZeros", "(I)I"⟩, prog_14_method_48_code, 2, some .int)
theorem ok_Ig_numberOfTrailingZeros : okM m_Ig_numberOfTrailingZeros 1 := ⟨by decide, List.mem_of_getElem? (i := 745) (by decide +kernel), List.mem_of_getElem? (i := 88) (by decide +kernel), by decide +kernel, by decide⟩
abbrev m_PS_pairs : PMe := (⟨"PetalSets", "pairs", "(I)I"⟩, prog_1_method_35_code, 5, some .int)
theorem ok_PS_pairs : okM m_PS_pairs 1 := ⟨by decide, List.mem_of_getElem? (i := 750) (by decide +kernel), List.mem_of_getElem? (i := 72) (by decide +kernel), by decide +kernel, by decide⟩
abbrev m_PS_parts : PMe := (⟨"PetalSets", "parts", "()I"⟩, prog_1_method_36_code, 4, some .int)
theorem ok_PS_parts : okM m_PS_parts 0 := ⟨by decide, List.mem_of_getElem? (i := 754) (by decide +kernel), List.mem_of_getElem? (i := 72) (by decide +kernel), by decide +kernel, by decide⟩
abbrev m_PS_partOf : PMe := (⟨"PetalSets", "partOf", "(I)I"⟩, prog_1_method_37_code, 5, some .int)
theorem ok_PS_partOf : okM m_PS_partOf 1 := ⟨by decide, List.mem_of_getElem? (i := 758) (by decide +kernel), List.mem_of_getElem? (i := 72) (by decide +kernel), by decide +kernel, by decide⟩
abbrev m_Family_unionOf : PMe := (⟨"PetalSets$Family", "unionOf", "(I)I"⟩, prog_3_method_14_code, 4, some .int)
theorem ok_Family_unionOf : okM m_Family_unionOf 1 := ⟨by decide, List.mem_of_getElem? (i := 762) (by decide +kernel), List.mem_of_getElem? (i := 73) (by decide +kernel), by decide +kernel, by decide⟩
abbrev m_PS_ranked : PMe := (⟨"PetalSets", "ranked", "(I)I"⟩, prog_1_method_38_code, 3, some .int)
theorem ok_PS_ranked : okM m_PS_ranked 1 := ⟨by decide, List.mem_of_getElem? (i := 766) (by decide +kernel), List.mem_of_getElem? (i := 72) (by decide +kernel), by decide +kernel, by decide⟩
abbrev m_PS_pointsAhead : PMe := (⟨"PetalSets", "pointsAhead", "(I)I"⟩, prog_1_method_39_code, 6, some .int)
theorem ok_PS_pointsAhead : okM m_PS_pointsAhead 1 := ⟨by decide, List.mem_of_getElem? (i := 770) (by decide +kernel), List.mem_of_getElem? (i := 72) (by decide +kernel), by decide +kernel, by decide⟩
abbrev m_PS_spread : PMe := (⟨"PetalSets", "spread", "(II)I"⟩, prog_1_method_40_code, 8, some .int)
theorem ok_PS_spread : okM m_PS_spread 2 := ⟨by decide, List.mem_of_getElem? (i := 774) (by decide +kernel), List.mem_of_getElem? (i := 72) (by decide +kernel), by decide +kernel, by decide⟩
abbrev m_Touch_fillLacking : PMe := (⟨"PetalSets$Touch", "fillLacking", "(LPetalSets$Family;)V"⟩, prog_11_method_3_code, 3, none)
theorem ok_Touch_fillLacking : okM m_Touch_fillLacking 1 := ⟨by decide, List.mem_of_getElem? (i := 778) (by decide +kernel), List.mem_of_getElem? (i := 77) (by decide +kernel), by decide +kernel, by decide⟩
abbrev m_Touch_fillMarks : PMe := (⟨"PetalSets$Touch", "fillMarks", "(LPetalSets$Family;)V"⟩, prog_11_method_4_code, 4, none)
theorem ok_Touch_fillMarks : okM m_Touch_fillMarks 1 := ⟨by decide, List.mem_of_getElem? (i := 784) (by decide +kernel), List.mem_of_getElem? (i := 77) (by decide +kernel), by decide +kernel, by decide⟩
abbrev m_Touch_untouched : PMe := (⟨"PetalSets$Touch", "untouched", "(I)I"⟩, prog_11_method_6_code, 2, some .int)
theorem ok_Touch_untouched : okM m_Touch_untouched 1 := ⟨by decide, List.mem_of_getElem? (i := 790) (by decide +kernel), List.mem_of_getElem? (i := 77) (by decide +kernel), by decide +kernel, by decide⟩
abbrev m_Touch_touched : PMe := (⟨"PetalSets$Touch", "touched", "(I)I"⟩, prog_11_method_5_code, 2, some .int)
theorem ok_Touch_touched : okM m_Touch_touched 1 := ⟨by decide, List.mem_of_getElem? (i := 794) (by decide +kernel), List.mem_of_getElem? (i := 77) (by decide +kernel), by decide +kernel, by decide⟩
abbrev m_PS_power : PMe := (⟨"PetalSets", "power", "(II)J"⟩, prog_1_method_42_code, 5, some .long)
theorem ok_PS_power : okM m_PS_power 2 := ⟨by decide, List.mem_of_getElem? (i := 798) (by decide +kernel), List.mem_of_getElem? (i := 72) (by decide +kernel), by decide +kernel, by decide⟩
abbrev m_PS_spreadest : PMe := (⟨"PetalSets", "spreadest", "()I"⟩, prog_1_method_41_code, 3, some .int)
theorem ok_PS_spreadest : okM m_PS_spreadest 0 := ⟨by decide, List.mem_of_getElem? (i := 802) (by decide +kernel), List.mem_of_getElem? (i := 72) (by decide +kernel), by decide +kernel, by decide⟩
abbrev m_PS_bound : PMe := (⟨"PetalSets", "bound", "(II)I"⟩, prog_1_method_43_code, 6, some .int)
theorem ok_PS_bound : okM m_PS_bound 2 := ⟨by decide, List.mem_of_getElem? (i := 806) (by decide +kernel), List.mem_of_getElem? (i := 72) (by decide +kernel), by decide +kernel, by decide⟩
abbrev m_PS_sized : PMe := (⟨"PetalSets", "sized", "(I)I"⟩, prog_1_method_44_code, 4, some .int)
theorem ok_PS_sized : okM m_PS_sized 1 := ⟨by decide, List.mem_of_getElem? (i := 814) (by decide +kernel), List.mem_of_getElem? (i := 72) (by decide +kernel), by decide +kernel, by decide⟩
abbrev m_PS_hits : PMe := (⟨"PetalSets", "hits", "(I)I"⟩, prog_1_method_45_code, 2, some .int)
theorem ok_PS_hits : okM m_PS_hits 1 := ⟨by decide, List.mem_of_getElem? (i := 818) (by decide +kernel), List.mem_of_getElem? (i := 72) (by decide +kernel), by decide +kernel, by decide⟩
abbrev m_PS_missed : PMe := (⟨"PetalSets", "missed", "(I)I"⟩, prog_1_method_46_code, 2, some .int)
theorem ok_PS_missed : okM m_PS_missed 1 := ⟨by decide, List.mem_of_getElem? (i := 822) (by decide +kernel), List.mem_of_getElem? (i := 72) (by decide +kernel), by decide +kernel, by decide⟩
abbrev m_PS_hitter : PMe := (⟨"PetalSets", "hitter", "(I)I"⟩, prog_1_method_47_code, 2, some .int)
theorem ok_PS_hitter : okM m_PS_hitter 1 := ⟨by decide, List.mem_of_getElem? (i := 826) (by decide +kernel), List.mem_of_getElem? (i := 72) (by decide +kernel), by decide +kernel, by decide⟩
abbrev m_Touch_fillHaving : PMe := (⟨"PetalSets$Touch", "fillHaving", "(LPetalSets$Family;)V"⟩, prog_11_method_2_code, 3, none)
theorem ok_Touch_fillHaving : okM m_Touch_fillHaving 1 := ⟨by decide, List.mem_of_getElem? (i := 830) (by decide +kernel), List.mem_of_getElem? (i := 77) (by decide +kernel), by decide +kernel, by decide⟩
abbrev m_Touch_findLeast : PMe := (⟨"PetalSets$Touch", "findLeast", "()V"⟩, prog_11_method_9_code, 3, none)
theorem ok_Touch_findLeast : okM m_Touch_findLeast 0 := ⟨by decide, List.mem_of_getElem? (i := 834) (by decide +kernel), List.mem_of_getElem? (i := 77) (by decide +kernel), by decide +kernel, by decide⟩
abbrev m_Touch_touchesAll : PMe := (⟨"PetalSets$Touch", "touchesAll", "(I)Z"⟩, prog_11_method_7_code, 2, some .boolean)
theorem ok_Touch_touchesAll : okM m_Touch_touchesAll 1 := ⟨by decide, List.mem_of_getElem? (i := 838) (by decide +kernel), List.mem_of_getElem? (i := 77) (by decide +kernel), by decide +kernel, by decide⟩
abbrev m_PS_tight : PMe := (⟨"PetalSets", "tight", "(I)I"⟩, prog_1_method_48_code, 4, some .int)
theorem ok_PS_tight : okM m_PS_tight 1 := ⟨by decide, List.mem_of_getElem? (i := 842) (by decide +kernel), List.mem_of_getElem? (i := 72) (by decide +kernel), by decide +kernel, by decide⟩
abbrev m_Touch_isTight : PMe := (⟨"PetalSets$Touch", "isTight", "(I)Z"⟩, prog_11_method_8_code, 3, some .boolean)
theorem ok_Touch_isTight : okM m_Touch_isTight 1 := ⟨by decide, List.mem_of_getElem? (i := 846) (by decide +kernel), List.mem_of_getElem? (i := 77) (by decide +kernel), by decide +kernel, by decide⟩
abbrev m_PS_greedy : PMe := (⟨"PetalSets", "greedy", "(I)I"⟩, prog_1_method_49_code, 7, some .int)
theorem ok_PS_greedy : okM m_PS_greedy 1 := ⟨by decide, List.mem_of_getElem? (i := 850) (by decide +kernel), List.mem_of_getElem? (i := 72) (by decide +kernel), by decide +kernel, by decide⟩
abbrev m_PS_bestPoint : PMe := (⟨"PetalSets", "bestPoint", "(I)I"⟩, prog_1_method_50_code, 6, some .int)
theorem ok_PS_bestPoint : okM m_PS_bestPoint 1 := ⟨by decide, List.mem_of_getElem? (i := 854) (by decide +kernel), List.mem_of_getElem? (i := 72) (by decide +kernel), by decide +kernel, by decide⟩
abbrev m_PS_apart : PMe := (⟨"PetalSets", "apart", "(I)I"⟩, prog_1_method_51_code, 3, some .int)
theorem ok_PS_apart : okM m_PS_apart 1 := ⟨by decide, List.mem_of_getElem? (i := 858) (by decide +kernel), List.mem_of_getElem? (i := 72) (by decide +kernel), by decide +kernel, by decide⟩
abbrev m_PS_exact : PMe := (⟨"PetalSets", "exact", "(I)I"⟩, prog_1_method_52_code, 2, some .int)
theorem ok_PS_exact : okM m_PS_exact 1 := ⟨by decide, List.mem_of_getElem? (i := 862) (by decide +kernel), List.mem_of_getElem? (i := 72) (by decide +kernel), by decide +kernel, by decide⟩
abbrev m_Cover_run : PMe := (⟨"PetalSets$Cover", "run", "(LPetalSets$Family;)V"⟩, prog_2_method_2_code, 2, none)
theorem ok_Cover_run : okM m_Cover_run 1 := ⟨by decide, List.mem_of_getElem? (i := 866) (by decide +kernel), List.mem_of_getElem? (i := 78) (by decide +kernel), by decide +kernel, by decide⟩
abbrev m_Cover_coverRest : PMe := (⟨"PetalSets$Cover", "coverRest", "(LPetalSets$Family;III)V"⟩, prog_2_method_3_code, 8, none)
theorem ok_Cover_coverRest : okM m_Cover_coverRest 4 := ⟨by decide, List.mem_of_getElem? (i := 872) (by decide +kernel), List.mem_of_getElem? (i := 78) (by decide +kernel), by decide +kernel, by decide⟩
abbrev m_PS_halves : PMe := (⟨"PetalSets", "halves", "(I)I"⟩, prog_1_method_53_code, 7, some .int)
theorem ok_PS_halves : okM m_PS_halves 1 := ⟨by decide, List.mem_of_getElem? (i := 879) (by decide +kernel), List.mem_of_getElem? (i := 72) (by decide +kernel), by decide +kernel, by decide⟩
abbrev m_Family_setsOfTwoOrMore : PMe := (⟨"PetalSets$Family", "setsOfTwoOrMore", "()I"⟩, prog_3_method_13_code, 3, some .int)
theorem ok_Family_setsOfTwoOrMore : okM m_Family_setsOfTwoOrMore 0 := ⟨by decide, List.mem_of_getElem? (i := 883) (by decide +kernel), List.mem_of_getElem? (i := 73) (by decide +kernel), by decide +kernel, by decide⟩
abbrev m_PS_kernel : PMe := (⟨"PetalSets", "kernel", "(II)I"⟩, prog_1_method_54_code, 3, some .int)
theorem ok_PS_kernel : okM m_PS_kernel 2 := ⟨by decide, List.mem_of_getElem? (i := 889) (by decide +kernel), List.mem_of_getElem? (i := 72) (by decide +kernel), by decide +kernel, by decide⟩
abbrev m_Kernel_stepsOf : PMe := (⟨"PetalSets$Kernel", "stepsOf", "(I)I"⟩, prog_5_method_6_code, 4, some .int)
theorem ok_Kernel_stepsOf : okM m_Kernel_stepsOf 1 := ⟨by decide, List.mem_of_getElem? (i := 893) (by decide +kernel), List.mem_of_getElem? (i := 80) (by decide +kernel), by decide +kernel, by decide⟩
abbrev m_PS_kernelSet : PMe := (⟨"PetalSets", "kernelSet", "(II)I"⟩, prog_1_method_55_code, 3, some .int)
theorem ok_PS_kernelSet : okM m_PS_kernelSet 2 := ⟨by decide, List.mem_of_getElem? (i := 897) (by decide +kernel), List.mem_of_getElem? (i := 72) (by decide +kernel), by decide +kernel, by decide⟩
abbrev m_PS_step : PMe := (⟨"PetalSets", "step", "(III)I"⟩, prog_1_method_56_code, 4, some .int)
theorem ok_PS_step : okM m_PS_step 3 := ⟨by decide, List.mem_of_getElem? (i := 901) (by decide +kernel), List.mem_of_getElem? (i := 72) (by decide +kernel), by decide +kernel, by decide⟩
abbrev m_PS_can : PMe := (⟨"PetalSets", "can", "(I)I"⟩, prog_1_method_57_code, 2, some .int)
theorem ok_PS_can : okM m_PS_can 1 := ⟨by decide, List.mem_of_getElem? (i := 905) (by decide +kernel), List.mem_of_getElem? (i := 72) (by decide +kernel), by decide +kernel, by decide⟩
abbrev m_PS_link : PMe := (⟨"PetalSets", "link", "(II)I"⟩, prog_1_method_58_code, 4, some .int)
theorem ok_PS_link : okM m_PS_link 2 := ⟨by decide, List.mem_of_getElem? (i := 909) (by decide +kernel), List.mem_of_getElem? (i := 72) (by decide +kernel), by decide +kernel, by decide⟩
abbrev m_PS_largestSize : PMe := (⟨"PetalSets", "largestSize", "(LPetalSets$Family;)I"⟩, prog_1_method_62_code, 2, some .int)
theorem ok_PS_largestSize : okM m_PS_largestSize 1 := ⟨by decide, List.mem_of_getElem? (i := 912) (by decide +kernel), List.mem_of_getElem? (i := 72) (by decide +kernel), by decide +kernel, by decide⟩
abbrev m_PS_withSet : PMe := (⟨"PetalSets", "withSet", "(I)I"⟩, prog_1_method_59_code, 2, some .int)
theorem ok_PS_withSet : okM m_PS_withSet 1 := ⟨by decide, List.mem_of_getElem? (i := 916) (by decide +kernel), List.mem_of_getElem? (i := 72) (by decide +kernel), by decide +kernel, by decide⟩
abbrev m_PS_withoutSet : PMe := (⟨"PetalSets", "withoutSet", "(I)I"⟩, prog_1_method_60_code, 2, some .int)
theorem ok_PS_withoutSet : okM m_PS_withoutSet 1 := ⟨by decide, List.mem_of_getElem? (i := 920) (by decide +kernel), List.mem_of_getElem? (i := 72) (by decide +kernel), by decide +kernel, by decide⟩
abbrev m_PS_freeNext : PMe := (⟨"PetalSets", "freeNext", "(I)I"⟩, prog_1_method_61_code, 6, some .int)
theorem ok_PS_freeNext : okM m_PS_freeNext 1 := ⟨by decide, List.mem_of_getElem? (i := 924) (by decide +kernel), List.mem_of_getElem? (i := 72) (by decide +kernel), by decide +kernel, by decide⟩
abbrev m_Petals_closesFlower : PMe := (⟨"PetalSets$Petals", "closesFlower", "(LPetalSets$Family;II)Z"⟩, prog_7_method_7_code, 5, some .boolean)
theorem ok_Petals_closesFlower : okM m_Petals_closesFlower 3 := ⟨by decide, List.mem_of_getElem? (i := 927) (by decide +kernel), List.mem_of_getElem? (i := 89) (by decide +kernel), by decide +kernel, by decide⟩
abbrev m_PS_spell : PMe := (⟨"PetalSets", "spell", "(I)I"⟩, prog_1_method_63_code, 3, some .int)
theorem ok_PS_spell : okM m_PS_spell 1 := ⟨by decide, List.mem_of_getElem? (i := 931) (by decide +kernel), List.mem_of_getElem? (i := 72) (by decide +kernel), by decide +kernel, by decide⟩
abbrev m_Page_putWord : PMe := (⟨"PetalSets$Page", "putWord", "(Ljava/lang/String;)V"⟩, prog_6_method_3_code, 3, none)
theorem ok_Page_putWord : okM m_Page_putWord 1 := ⟨by decide, List.mem_of_getElem? (i := 936) (by decide +kernel), List.mem_of_getElem? (i := 81) (by decide +kernel), by decide +kernel, by decide⟩
abbrev m_Page_putByte : PMe := (⟨"PetalSets$Page", "putByte", "(I)V"⟩, prog_6_method_2_code, 2, none)
theorem ok_Page_putByte : okM m_Page_putByte 1 := ⟨by decide, List.mem_of_getElem? (i := 942) (by decide +kernel), List.mem_of_getElem? (i := 81) (by decide +kernel), by decide +kernel, by decide⟩
abbrev m_Page_putNumber : PMe := (⟨"PetalSets$Page", "putNumber", "(I)V"⟩, prog_6_method_4_code, 2, none)
theorem ok_Page_putNumber : okM m_Page_putNumber 1 := ⟨by decide, List.mem_of_getElem? (i := 946) (by decide +kernel), List.mem_of_getElem? (i := 81) (by decide +kernel), by decide +kernel, by decide⟩
abbrev m_Page_putLetters : PMe := (⟨"PetalSets$Page", "putLetters", "(I)V"⟩, prog_6_method_5_code, 3, none)
theorem ok_Page_putLetters : okM m_Page_putLetters 1 := ⟨by decide, List.mem_of_getElem? (i := 952) (by decide +kernel), List.mem_of_getElem? (i := 81) (by decide +kernel), by decide +kernel, by decide⟩
abbrev m_Page_answer : PMe := (⟨"PetalSets$Page", "answer", "(I)I"⟩, prog_6_method_6_code, 2, some .int)
theorem ok_Page_answer : okM m_Page_answer 1 := ⟨by decide, List.mem_of_getElem? (i := 956) (by decide +kernel), List.mem_of_getElem? (i := 81) (by decide +kernel), by decide +kernel, by decide⟩
abbrev m_PS_report : PMe := (⟨"PetalSets", "report", "(II)I"⟩, prog_1_method_64_code, 4, some .int)
theorem ok_PS_report : okM m_PS_report 2 := ⟨by decide, List.mem_of_getElem? (i := 960) (by decide +kernel), List.mem_of_getElem? (i := 72) (by decide +kernel), by decide +kernel, by decide⟩
abbrev m_Kernel_tellStep : PMe := (⟨"PetalSets$Kernel", "tellStep", "(ILPetalSets$Page;)V"⟩, prog_5_method_7_code, 4, none)
theorem ok_Kernel_tellStep : okM m_Kernel_tellStep 2 := ⟨by decide, List.mem_of_getElem? (i := 964) (by decide +kernel), List.mem_of_getElem? (i := 80) (by decide +kernel), by decide +kernel, by decide⟩
abbrev m_PS_count : PMe := (⟨"PetalSets", "count", "(I)I"⟩, prog_1_method_65_code, 2, some .int)
theorem ok_PS_count : okM m_PS_count 1 := ⟨by decide, List.mem_of_getElem? (i := 978) (by decide +kernel), List.mem_of_getElem? (i := 72) (by decide +kernel), by decide +kernel, by decide⟩
abbrev m_Family_greatestSize : PMe := (⟨"PetalSets$Family", "greatestSize", "()I"⟩, prog_3_method_15_code, 3, some .int)
theorem ok_Family_greatestSize : okM m_Family_greatestSize 0 := ⟨by decide, List.mem_of_getElem? (i := 982) (by decide +kernel), List.mem_of_getElem? (i := 73) (by decide +kernel), by decide +kernel, by decide⟩
abbrev m_Family_leastSize : PMe := (⟨"PetalSets$Family", "leastSize", "()I"⟩, prog_3_method_16_code, 3, some .int)
theorem ok_Family_leastSize : okM m_Family_leastSize 0 := ⟨by decide, List.mem_of_getElem? (i := 987) (by decide +kernel), List.mem_of_getElem? (i := 73) (by decide +kernel), by decide +kernel, by decide⟩
abbrev m_Mo_init : PMe := (⟨"PetalSetsModel", "<init>", "()V"⟩, prog_13_method_2_code, 1, none)
theorem ok_Mo_init : okM m_Mo_init 0 := ⟨by decide, List.mem_of_getElem? (i := 993) (by decide +kernel), List.mem_of_getElem? (i := 82) (by decide +kernel), by decide +kernel, by decide⟩
abbrev m_Mo_starts : PMe := (⟨"PetalSetsModel", "starts", "([I)V"⟩, prog_13_method_7_code, 2, none)
theorem ok_Mo_starts : okM m_Mo_starts 1 := ⟨by decide, List.mem_of_getElem? (i := 998) (by decide +kernel), List.mem_of_getElem? (i := 82) (by decide +kernel), by decide +kernel, by decide⟩
abbrev m_Mo_add : PMe := (⟨"PetalSetsModel", "add", "(I)I"⟩, prog_13_method_18_code, 2, some .int)
theorem ok_Mo_add : okM m_Mo_add 1 := ⟨by decide, List.mem_of_getElem? (i := 1102) (by decide +kernel), List.mem_of_getElem? (i := 82) (by decide +kernel), by decide +kernel, by decide⟩
abbrev m_Mo_arePoints : PMe := (⟨"PetalSetsModel", "arePoints", "(I)Z"⟩, prog_13_method_14_code, 2, some .boolean)
theorem ok_Mo_arePoints : okM m_Mo_arePoints 1 := ⟨by decide, List.mem_of_getElem? (i := 1106) (by decide +kernel), List.mem_of_getElem? (i := 82) (by decide +kernel), by decide +kernel, by decide⟩
abbrev m_Mo_allPoints : PMe := (⟨"PetalSetsModel", "allPoints", "()I"⟩, prog_13_method_13_code, 1, some .int)
theorem ok_Mo_allPoints : okM m_Mo_allPoints 0 := ⟨by decide, List.mem_of_getElem? (i := 1110) (by decide +kernel), List.mem_of_getElem? (i := 82) (by decide +kernel), by decide +kernel, by decide⟩
abbrev m_Mo_in : PMe := (⟨"PetalSetsModel", "in", "(III)Z"⟩, prog_13_method_3_code, 3, some .boolean)
theorem ok_Mo_in : okM m_Mo_in 3 := ⟨by decide, List.mem_of_getElem? (i := 1113) (by decide +kernel), List.mem_of_getElem? (i := 82) (by decide +kernel), by decide +kernel, by decide⟩
abbrev m_Mo_isTold : PMe := (⟨"PetalSetsModel", "isTold", "(I)Z"⟩, prog_13_method_17_code, 2, some .boolean)
theorem ok_Mo_isTold : okM m_Mo_isTold 1 := ⟨by decide, List.mem_of_getElem? (i := 1117) (by decide +kernel), List.mem_of_getElem? (i := 82) (by decide +kernel), by decide +kernel, by decide⟩
abbrev m_Mo_many : PMe := (⟨"PetalSetsModel", "many", "()I"⟩, prog_13_method_9_code, 1, some .int)
theorem ok_Mo_many : okM m_Mo_many 0 := ⟨by decide, List.mem_of_getElem? (i := 1121) (by decide +kernel), List.mem_of_getElem? (i := 82) (by decide +kernel), by decide +kernel, by decide⟩
abbrev m_Mo_isAmong : PMe := (⟨"PetalSetsModel", "isAmong", "([IIII)Z"⟩, prog_13_method_16_code, 5, some .boolean)
theorem ok_Mo_isAmong : okM m_Mo_isAmong 4 := ⟨by decide, List.mem_of_getElem? (i := 1124) (by decide +kernel), List.mem_of_getElem? (i := 82) (by decide +kernel), by decide +kernel, by decide⟩
abbrev m_Mo_keeps : PMe := (⟨"PetalSetsModel", "keeps", "()V"⟩, prog_13_method_8_code, 2, none)
theorem ok_Mo_keeps : okM m_Mo_keeps 0 := ⟨by decide, List.mem_of_getElem? (i := 1128) (by decide +kernel), List.mem_of_getElem? (i := 82) (by decide +kernel), by decide +kernel, by decide⟩
abbrev m_Mo_drop : PMe := (⟨"PetalSetsModel", "drop", "(I)Z"⟩, prog_13_method_19_code, 3, some .boolean)
theorem ok_Mo_drop : okM m_Mo_drop 1 := ⟨by decide, List.mem_of_getElem? (i := 1132) (by decide +kernel), List.mem_of_getElem? (i := 82) (by decide +kernel), by decide +kernel, by decide⟩
abbrev m_Mo_isThere : PMe := (⟨"PetalSetsModel", "isThere", "(I)Z"⟩, prog_13_method_11_code, 2, some .boolean)
theorem ok_Mo_isThere : okM m_Mo_isThere 1 := ⟨by decide, List.mem_of_getElem? (i := 1136) (by decide +kernel), List.mem_of_getElem? (i := 82) (by decide +kernel), by decide +kernel, by decide⟩
abbrev m_Mo_change : PMe := (⟨"PetalSetsModel", "change", "(II)I"⟩, prog_13_method_20_code, 4, some .int)
theorem ok_Mo_change : okM m_Mo_change 2 := ⟨by decide, List.mem_of_getElem? (i := 1140) (by decide +kernel), List.mem_of_getElem? (i := 82) (by decide +kernel), by decide +kernel, by decide⟩
abbrev m_Mo_its : PMe := (⟨"PetalSetsModel", "its", "(I)I"⟩, prog_13_method_10_code, 2, some .int)
theorem ok_Mo_its : okM m_Mo_its 1 := ⟨by decide, List.mem_of_getElem? (i := 1144) (by decide +kernel), List.mem_of_getElem? (i := 82) (by decide +kernel), by decide +kernel, by decide⟩
abbrev m_Mo_swap : PMe := (⟨"PetalSetsModel", "swap", "(II)I"⟩, prog_13_method_25_code, 4, some .int)
theorem ok_Mo_swap : okM m_Mo_swap 2 := ⟨by decide, List.mem_of_getElem? (i := 1148) (by decide +kernel), List.mem_of_getElem? (i := 82) (by decide +kernel), by decide +kernel, by decide⟩
abbrev m_Mo_isPoint : PMe := (⟨"PetalSetsModel", "isPoint", "(I)Z"⟩, prog_13_method_12_code, 2, some .boolean)
theorem ok_Mo_isPoint : okM m_Mo_isPoint 1 := ⟨by decide, List.mem_of_getElem? (i := 1152) (by decide +kernel), List.mem_of_getElem? (i := 82) (by decide +kernel), by decide +kernel, by decide⟩
abbrev m_Mo_wouldBegin : PMe := (⟨"PetalSetsModel", "wouldBegin", "()V"⟩, prog_13_method_21_code, 1, none)
theorem ok_Mo_wouldBegin : okM m_Mo_wouldBegin 0 := ⟨by decide, List.mem_of_getElem? (i := 1156) (by decide +kernel), List.mem_of_getElem? (i := 82) (by decide +kernel), by decide +kernel, by decide⟩
abbrev m_Mo_has : PMe := (⟨"PetalSetsModel", "has", "(II)Z"⟩, prog_13_method_4_code, 2, some .boolean)
theorem ok_Mo_has : okM m_Mo_has 2 := ⟨by decide, List.mem_of_getElem? (i := 1159) (by decide +kernel), List.mem_of_getElem? (i := 82) (by decide +kernel), by decide +kernel, by decide⟩
abbrev m_Mo_wouldHave : PMe := (⟨"PetalSetsModel", "wouldHave", "(I)V"⟩, prog_13_method_22_code, 2, none)
theorem ok_Mo_wouldHave : okM m_Mo_wouldHave 1 := ⟨by decide, List.mem_of_getElem? (i := 1163) (by decide +kernel), List.mem_of_getElem? (i := 82) (by decide +kernel), by decide +kernel, by decide⟩
abbrev m_Mo_changes : PMe := (⟨"PetalSetsModel", "changes", "()I"⟩, prog_13_method_24_code, 3, some .int)
theorem ok_Mo_changes : okM m_Mo_changes 0 := ⟨by decide, List.mem_of_getElem? (i := 1167) (by decide +kernel), List.mem_of_getElem? (i := 82) (by decide +kernel), by decide +kernel, by decide⟩
abbrev m_Mo_becomes : PMe := (⟨"PetalSetsModel", "becomes", "()V"⟩, prog_13_method_23_code, 2, none)
theorem ok_Mo_becomes : okM m_Mo_becomes 0 := ⟨by decide, List.mem_of_getElem? (i := 1171) (by decide +kernel), List.mem_of_getElem? (i := 82) (by decide +kernel), by decide +kernel, by decide⟩
abbrev m_Mo_without : PMe := (⟨"PetalSetsModel", "without", "(I)I"⟩, prog_13_method_26_code, 3, some .int)
theorem ok_Mo_without : okM m_Mo_without 1 := ⟨by decide, List.mem_of_getElem? (i := 1175) (by decide +kernel), List.mem_of_getElem? (i := 82) (by decide +kernel), by decide +kernel, by decide⟩
abbrev m_Mo_degreeOf : PMe := (⟨"PetalSetsModel", "degreeOf", "(I)I"⟩, prog_13_method_36_code, 4, some .int)
theorem ok_Mo_degreeOf : okM m_Mo_degreeOf 1 := ⟨by decide, List.mem_of_getElem? (i := 1179) (by decide +kernel), List.mem_of_getElem? (i := 82) (by decide +kernel), by decide +kernel, by decide⟩
abbrev m_Mo_only : PMe := (⟨"PetalSetsModel", "only", "(IZ)I"⟩, prog_13_method_27_code, 4, some .int)
theorem ok_Mo_only : okM m_Mo_only 2 := ⟨by decide, List.mem_of_getElem? (i := 1183) (by decide +kernel), List.mem_of_getElem? (i := 82) (by decide +kernel), by decide +kernel, by decide⟩
abbrev m_Mo_join : PMe := (⟨"PetalSetsModel", "join", "(II)I"⟩, prog_13_method_28_code, 4, some .int)
theorem ok_Mo_join : okM m_Mo_join 2 := ⟨by decide, List.mem_of_getElem? (i := 1187) (by decide +kernel), List.mem_of_getElem? (i := 82) (by decide +kernel), by decide +kernel, by decide⟩
abbrev m_Mo_turn : PMe := (⟨"PetalSetsModel", "turn", "()I"⟩, prog_13_method_29_code, 2, some .int)
theorem ok_Mo_turn : okM m_Mo_turn 0 := ⟨by decide, List.mem_of_getElem? (i := 1191) (by decide +kernel), List.mem_of_getElem? (i := 82) (by decide +kernel), by decide +kernel, by decide⟩
abbrev m_Mo_flip : PMe := (⟨"PetalSetsModel", "flip", "()I"⟩, prog_13_method_30_code, 2, some .int)
theorem ok_Mo_flip : okM m_Mo_flip 0 := ⟨by decide, List.mem_of_getElem? (i := 1195) (by decide +kernel), List.mem_of_getElem? (i := 82) (by decide +kernel), by decide +kernel, by decide⟩
abbrev m_Mo_reduce : PMe := (⟨"PetalSetsModel", "reduce", "(I)I"⟩, prog_13_method_33_code, 3, some .int)
theorem ok_Mo_reduce : okM m_Mo_reduce 1 := ⟨by decide, List.mem_of_getElem? (i := 1199) (by decide +kernel), List.mem_of_getElem? (i := 82) (by decide +kernel), by decide +kernel, by decide⟩
abbrev m_Mo_isOfKernel : PMe := (⟨"PetalSetsModel", "isOfKernel", "(I)Z"⟩, prog_13_method_31_code, 1, some .boolean)
theorem ok_Mo_isOfKernel : okM m_Mo_isOfKernel 1 := ⟨by decide, List.mem_of_getElem? (i := 1202) (by decide +kernel), List.mem_of_getElem? (i := 82) (by decide +kernel), by decide +kernel, by decide⟩
abbrev m_Mo_kernels : PMe := (⟨"PetalSetsModel", "kernels", "(I)V"⟩, prog_13_method_83_code, 6, none)
theorem ok_Mo_kernels : okM m_Mo_kernels 1 := ⟨by decide, List.mem_of_getElem? (i := 1206) (by decide +kernel), List.mem_of_getElem? (i := 82) (by decide +kernel), by decide +kernel, by decide⟩
abbrev m_Mo_withinFirst : PMe := (⟨"PetalSetsModel", "withinFirst", "()I"⟩, prog_13_method_81_code, 3, some .int)
theorem ok_Mo_withinFirst : okM m_Mo_withinFirst 0 := ⟨by decide, List.mem_of_getElem? (i := 1210) (by decide +kernel), List.mem_of_getElem? (i := 82) (by decide +kernel), by decide +kernel, by decide⟩
abbrev m_Mo_isWithin : PMe := (⟨"PetalSetsModel", "isWithin", "(II)Z"⟩, prog_13_method_5_code, 2, some .boolean)
theorem ok_Mo_isWithin : okM m_Mo_isWithin 2 := ⟨by decide, List.mem_of_getElem? (i := 1213) (by decide +kernel), List.mem_of_getElem? (i := 82) (by decide +kernel), by decide +kernel, by decide⟩
abbrev m_Mo_goes : PMe := (⟨"PetalSetsModel", "goes", "(III)V"⟩, prog_13_method_82_code, 6, none)
theorem ok_Mo_goes : okM m_Mo_goes 3 := ⟨by decide, List.mem_of_getElem? (i := 1217) (by decide +kernel), List.mem_of_getElem? (i := 82) (by decide +kernel), by decide +kernel, by decide⟩
abbrev m_Mo_firstOf : PMe := (⟨"PetalSetsModel", "firstOf", "(I)I"⟩, prog_13_method_45_code, 3, some .int)
theorem ok_Mo_firstOf : okM m_Mo_firstOf 1 := ⟨by decide, List.mem_of_getElem? (i := 1221) (by decide +kernel), List.mem_of_getElem? (i := 82) (by decide +kernel), by decide +kernel, by decide⟩
abbrev m_Mo_ones : PMe := (⟨"PetalSetsModel", "ones", "(I)I"⟩, prog_13_method_6_code, 3, some .int)
theorem ok_Mo_ones : okM m_Mo_ones 1 := ⟨by decide, List.mem_of_getElem? (i := 1224) (by decide +kernel), List.mem_of_getElem? (i := 82) (by decide +kernel), by decide +kernel, by decide⟩
abbrev m_Mo_coreOf : PMe := (⟨"PetalSetsModel", "coreOf", "(I)I"⟩, prog_13_method_43_code, 6, some .int)
theorem ok_Mo_coreOf : okM m_Mo_coreOf 1 := ⟨by decide, List.mem_of_getElem? (i := 1228) (by decide +kernel), List.mem_of_getElem? (i := 82) (by decide +kernel), by decide +kernel, by decide⟩
abbrev m_Mo_thin : PMe := (⟨"PetalSetsModel", "thin", "(I)I"⟩, prog_13_method_34_code, 4, some .int)
theorem ok_Mo_thin : okM m_Mo_thin 1 := ⟨by decide, List.mem_of_getElem? (i := 1232) (by decide +kernel), List.mem_of_getElem? (i := 82) (by decide +kernel), by decide +kernel, by decide⟩
abbrev m_Mo_isOfFlower : PMe := (⟨"PetalSetsModel", "isOfFlower", "(I)Z"⟩, prog_13_method_32_code, 1, some .boolean)
theorem ok_Mo_isOfFlower : okM m_Mo_isOfFlower 1 := ⟨by decide, List.mem_of_getElem? (i := 1235) (by decide +kernel), List.mem_of_getElem? (i := 82) (by decide +kernel), by decide +kernel, by decide⟩
abbrev m_Mo_mostFree : PMe := (⟨"PetalSetsModel", "mostFree", "(I)I"⟩, prog_13_method_53_code, 8, some .int)
theorem ok_Mo_mostFree : okM m_Mo_mostFree 1 := ⟨by decide, List.mem_of_getElem? (i := 1239) (by decide +kernel), List.mem_of_getElem? (i := 82) (by decide +kernel), by decide +kernel, by decide⟩
abbrev m_Mo_laysAll : PMe := (⟨"PetalSetsModel", "laysAll", "()V"⟩, prog_13_method_41_code, 2, none)
theorem ok_Mo_laysAll : okM m_Mo_laysAll 0 := ⟨by decide, List.mem_of_getElem? (i := 1243) (by decide +kernel), List.mem_of_getElem? (i := 82) (by decide +kernel), by decide +kernel, by decide⟩
abbrev m_Mo_undo : PMe := (⟨"PetalSetsModel", "undo", "()I"⟩, prog_13_method_35_code, 2, some .int)
theorem ok_Mo_undo : okM m_Mo_undo 0 := ⟨by decide, List.mem_of_getElem? (i := 1247) (by decide +kernel), List.mem_of_getElem? (i := 82) (by decide +kernel), by decide +kernel, by decide⟩
abbrev m_Mo_set : PMe := (⟨"PetalSetsModel", "set", "(II)I"⟩, prog_13_method_37_code, 5, some .int)
theorem ok_Mo_set : okM m_Mo_set 2 := ⟨by decide, List.mem_of_getElem? (i := 1251) (by decide +kernel), List.mem_of_getElem? (i := 82) (by decide +kernel), by decide +kernel, by decide⟩
abbrev m_Mo_degree : PMe := (⟨"PetalSetsModel", "degree", "(I)I"⟩, prog_13_method_38_code, 2, some .int)
theorem ok_Mo_degree : okM m_Mo_degree 1 := ⟨by decide, List.mem_of_getElem? (i := 1255) (by decide +kernel), List.mem_of_getElem? (i := 82) (by decide +kernel), by decide +kernel, by decide⟩
abbrev m_Mo_having : PMe := (⟨"PetalSetsModel", "having", "(I)I"⟩, prog_13_method_40_code, 2, some .int)
theorem ok_Mo_having : okM m_Mo_having 1 := ⟨by decide, List.mem_of_getElem? (i := 1259) (by decide +kernel), List.mem_of_getElem? (i := 82) (by decide +kernel), by decide +kernel, by decide⟩
abbrev m_Mo_havingAll : PMe := (⟨"PetalSetsModel", "havingAll", "(I)I"⟩, prog_13_method_39_code, 4, some .int)
theorem ok_Mo_havingAll : okM m_Mo_havingAll 1 := ⟨by decide, List.mem_of_getElem? (i := 1263) (by decide +kernel), List.mem_of_getElem? (i := 82) (by decide +kernel), by decide +kernel, by decide⟩
abbrev m_Mo_isFlower : PMe := (⟨"PetalSetsModel", "isFlower", "(I)I"⟩, prog_13_method_46_code, 2, some .int)
theorem ok_Mo_isFlower : okM m_Mo_isFlower 1 := ⟨by decide, List.mem_of_getElem? (i := 1267) (by decide +kernel), List.mem_of_getElem? (i := 82) (by decide +kernel), by decide +kernel, by decide⟩
abbrev m_Mo_areNumbers : PMe := (⟨"PetalSetsModel", "areNumbers", "(I)Z"⟩, prog_13_method_15_code, 2, some .boolean)
theorem ok_Mo_areNumbers : okM m_Mo_areNumbers 1 := ⟨by decide, List.mem_of_getElem? (i := 1271) (by decide +kernel), List.mem_of_getElem? (i := 82) (by decide +kernel), by decide +kernel, by decide⟩
abbrev m_Mo_core : PMe := (⟨"PetalSetsModel", "core", "(I)I"⟩, prog_13_method_47_code, 3, some .int)
theorem ok_Mo_core : okM m_Mo_core 1 := ⟨by decide, List.mem_of_getElem? (i := 1275) (by decide +kernel), List.mem_of_getElem? (i := 82) (by decide +kernel), by decide +kernel, by decide⟩
abbrev m_Mo_greatest : PMe := (⟨"PetalSetsModel", "greatest", "(I)I"⟩, prog_13_method_48_code, 3, some .int)
theorem ok_Mo_greatest : okM m_Mo_greatest 1 := ⟨by decide, List.mem_of_getElem? (i := 1279) (by decide +kernel), List.mem_of_getElem? (i := 82) (by decide +kernel), by decide +kernel, by decide⟩
abbrev m_Mo_greatestMany : PMe := (⟨"PetalSetsModel", "greatestMany", "()I"⟩, prog_13_method_44_code, 4, some .int)
theorem ok_Mo_greatestMany : okM m_Mo_greatestMany 0 := ⟨by decide, List.mem_of_getElem? (i := 1283) (by decide +kernel), List.mem_of_getElem? (i := 82) (by decide +kernel), by decide +kernel, by decide⟩
abbrev m_Mo_flower : PMe := (⟨"PetalSetsModel", "flower", "(I)I"⟩, prog_13_method_49_code, 3, some .int)
theorem ok_Mo_flower : okM m_Mo_flower 1 := ⟨by decide, List.mem_of_getElem? (i := 1287) (by decide +kernel), List.mem_of_getElem? (i := 82) (by decide +kernel), by decide +kernel, by decide⟩
abbrev m_Mo_flowers : PMe := (⟨"PetalSetsModel", "flowers", "(I)I"⟩, prog_13_method_50_code, 4, some .int)
theorem ok_Mo_flowers : okM m_Mo_flowers 1 := ⟨by decide, List.mem_of_getElem? (i := 1291) (by decide +kernel), List.mem_of_getElem? (i := 82) (by decide +kernel), by decide +kernel, by decide⟩
abbrev m_Mo_byCore : PMe := (⟨"PetalSetsModel", "byCore", "(II)I"⟩, prog_13_method_51_code, 7, some .int)
theorem ok_Mo_byCore : okM m_Mo_byCore 2 := ⟨by decide, List.mem_of_getElem? (i := 1295) (by decide +kernel), List.mem_of_getElem? (i := 82) (by decide +kernel), by decide +kernel, by decide⟩
abbrev m_Mo_cores : PMe := (⟨"PetalSetsModel", "cores", "(I)I"⟩, prog_13_method_52_code, 5, some .int)
theorem ok_Mo_cores : okM m_Mo_cores 1 := ⟨by decide, List.mem_of_getElem? (i := 1299) (by decide +kernel), List.mem_of_getElem? (i := 82) (by decide +kernel), by decide +kernel, by decide⟩
abbrev m_Mo_most : PMe := (⟨"PetalSetsModel", "most", "(I)I"⟩, prog_13_method_54_code, 2, some .int)
theorem ok_Mo_most : okM m_Mo_most 1 := ⟨by decide, List.mem_of_getElem? (i := 1303) (by decide +kernel), List.mem_of_getElem? (i := 82) (by decide +kernel), by decide +kernel, by decide⟩
abbrev m_Mo_surplus : PMe := (⟨"PetalSetsModel", "surplus", "(I)I"⟩, prog_13_method_55_code, 2, some .int)
theorem ok_Mo_surplus : okM m_Mo_surplus 1 := ⟨by decide, List.mem_of_getElem? (i := 1307) (by decide +kernel), List.mem_of_getElem? (i := 82) (by decide +kernel), by decide +kernel, by decide⟩
abbrev m_Mo_uneven : PMe := (⟨"PetalSetsModel", "uneven", "(I)I"⟩, prog_13_method_56_code, 4, some .int)
theorem ok_Mo_uneven : okM m_Mo_uneven 1 := ⟨by decide, List.mem_of_getElem? (i := 1311) (by decide +kernel), List.mem_of_getElem? (i := 82) (by decide +kernel), by decide +kernel, by decide⟩
abbrev m_Mo_pairs : PMe := (⟨"PetalSetsModel", "pairs", "(I)I"⟩, prog_13_method_57_code, 5, some .int)
theorem ok_Mo_pairs : okM m_Mo_pairs 1 := ⟨by decide, List.mem_of_getElem? (i := 1315) (by decide +kernel), List.mem_of_getElem? (i := 82) (by decide +kernel), by decide +kernel, by decide⟩
abbrev m_Mo_parts : PMe := (⟨"PetalSetsModel", "parts", "()I"⟩, prog_13_method_59_code, 6, some .int)
theorem ok_Mo_parts : okM m_Mo_parts 0 := ⟨by decide, List.mem_of_getElem? (i := 1319) (by decide +kernel), List.mem_of_getElem? (i := 82) (by decide +kernel), by decide +kernel, by decide⟩
abbrev m_Mo_allHad : PMe := (⟨"PetalSetsModel", "allHad", "()I"⟩, prog_13_method_58_code, 3, some .int)
theorem ok_Mo_allHad : okM m_Mo_allHad 0 := ⟨by decide, List.mem_of_getElem? (i := 1323) (by decide +kernel), List.mem_of_getElem? (i := 82) (by decide +kernel), by decide +kernel, by decide⟩
abbrev m_Mo_ranked : PMe := (⟨"PetalSetsModel", "ranked", "(I)I"⟩, prog_13_method_60_code, 5, some .int)
theorem ok_Mo_ranked : okM m_Mo_ranked 1 := ⟨by decide, List.mem_of_getElem? (i := 1327) (by decide +kernel), List.mem_of_getElem? (i := 82) (by decide +kernel), by decide +kernel, by decide⟩
abbrev m_Mo_spread : PMe := (⟨"PetalSetsModel", "spread", "(II)I"⟩, prog_13_method_63_code, 4, some .int)
theorem ok_Mo_spread : okM m_Mo_spread 2 := ⟨by decide, List.mem_of_getElem? (i := 1331) (by decide +kernel), List.mem_of_getElem? (i := 82) (by decide +kernel), by decide +kernel, by decide⟩
abbrev m_Mo_firstDense : PMe := (⟨"PetalSetsModel", "firstDense", "(II)I"⟩, prog_13_method_62_code, 5, some .int)
theorem ok_Mo_firstDense : okM m_Mo_firstDense 2 := ⟨by decide, List.mem_of_getElem? (i := 1335) (by decide +kernel), List.mem_of_getElem? (i := 82) (by decide +kernel), by decide +kernel, by decide⟩
abbrev m_Mo_power : PMe := (⟨"PetalSetsModel", "power", "(II)J"⟩, prog_13_method_61_code, 5, some .long)
theorem ok_Mo_power : okM m_Mo_power 2 := ⟨by decide, List.mem_of_getElem? (i := 1338) (by decide +kernel), List.mem_of_getElem? (i := 82) (by decide +kernel), by decide +kernel, by decide⟩
abbrev m_Mo_spreadest : PMe := (⟨"PetalSetsModel", "spreadest", "()I"⟩, prog_13_method_64_code, 2, some .int)
theorem ok_Mo_spreadest : okM m_Mo_spreadest 0 := ⟨by decide, List.mem_of_getElem? (i := 1342) (by decide +kernel), List.mem_of_getElem? (i := 82) (by decide +kernel), by decide +kernel, by decide⟩
abbrev m_Mo_bound : PMe := (⟨"PetalSetsModel", "bound", "(II)I"⟩, prog_13_method_65_code, 6, some .int)
theorem ok_Mo_bound : okM m_Mo_bound 2 := ⟨by decide, List.mem_of_getElem? (i := 1346) (by decide +kernel), List.mem_of_getElem? (i := 82) (by decide +kernel), by decide +kernel, by decide⟩
abbrev m_Mo_sized : PMe := (⟨"PetalSetsModel", "sized", "(I)I"⟩, prog_13_method_67_code, 2, some .int)
theorem ok_Mo_sized : okM m_Mo_sized 1 := ⟨by decide, List.mem_of_getElem? (i := 1351) (by decide +kernel), List.mem_of_getElem? (i := 82) (by decide +kernel), by decide +kernel, by decide⟩
abbrev m_Mo_sizedMany : PMe := (⟨"PetalSetsModel", "sizedMany", "(I)I"⟩, prog_13_method_66_code, 4, some .int)
theorem ok_Mo_sizedMany : okM m_Mo_sizedMany 1 := ⟨by decide, List.mem_of_getElem? (i := 1355) (by decide +kernel), List.mem_of_getElem? (i := 82) (by decide +kernel), by decide +kernel, by decide⟩
abbrev m_Mo_hits : PMe := (⟨"PetalSetsModel", "hits", "(I)I"⟩, prog_13_method_69_code, 2, some .int)
theorem ok_Mo_hits : okM m_Mo_hits 1 := ⟨by decide, List.mem_of_getElem? (i := 1359) (by decide +kernel), List.mem_of_getElem? (i := 82) (by decide +kernel), by decide +kernel, by decide⟩
abbrev m_Mo_missedBy : PMe := (⟨"PetalSetsModel", "missedBy", "(I)I"⟩, prog_13_method_68_code, 4, some .int)
theorem ok_Mo_missedBy : okM m_Mo_missedBy 1 := ⟨by decide, List.mem_of_getElem? (i := 1363) (by decide +kernel), List.mem_of_getElem? (i := 82) (by decide +kernel), by decide +kernel, by decide⟩
abbrev m_Mo_missed : PMe := (⟨"PetalSetsModel", "missed", "(I)I"⟩, prog_13_method_70_code, 2, some .int)
theorem ok_Mo_missed : okM m_Mo_missed 1 := ⟨by decide, List.mem_of_getElem? (i := 1367) (by decide +kernel), List.mem_of_getElem? (i := 82) (by decide +kernel), by decide +kernel, by decide⟩
abbrev m_Mo_hitter : PMe := (⟨"PetalSetsModel", "hitter", "(I)I"⟩, prog_13_method_72_code, 7, some .int)
theorem ok_Mo_hitter : okM m_Mo_hitter 1 := ⟨by decide, List.mem_of_getElem? (i := 1371) (by decide +kernel), List.mem_of_getElem? (i := 82) (by decide +kernel), by decide +kernel, by decide⟩
abbrev m_Mo_fewestToHit : PMe := (⟨"PetalSetsModel", "fewestToHit", "()I"⟩, prog_13_method_71_code, 3, some .int)
theorem ok_Mo_fewestToHit : okM m_Mo_fewestToHit 0 := ⟨by decide, List.mem_of_getElem? (i := 1375) (by decide +kernel), List.mem_of_getElem? (i := 82) (by decide +kernel), by decide +kernel, by decide⟩
abbrev m_Mo_tight : PMe := (⟨"PetalSetsModel", "tight", "(I)I"⟩, prog_13_method_74_code, 4, some .int)
theorem ok_Mo_tight : okM m_Mo_tight 1 := ⟨by decide, List.mem_of_getElem? (i := 1379) (by decide +kernel), List.mem_of_getElem? (i := 82) (by decide +kernel), by decide +kernel, by decide⟩
abbrev m_Mo_isTight : PMe := (⟨"PetalSetsModel", "isTight", "(I)Z"⟩, prog_13_method_73_code, 3, some .boolean)
theorem ok_Mo_isTight : okM m_Mo_isTight 1 := ⟨by decide, List.mem_of_getElem? (i := 1383) (by decide +kernel), List.mem_of_getElem? (i := 82) (by decide +kernel), by decide +kernel, by decide⟩
abbrev m_Mo_greedy : PMe := (⟨"PetalSetsModel", "greedy", "(I)I"⟩, prog_13_method_75_code, 8, some .int)
theorem ok_Mo_greedy : okM m_Mo_greedy 1 := ⟨by decide, List.mem_of_getElem? (i := 1387) (by decide +kernel), List.mem_of_getElem? (i := 82) (by decide +kernel), by decide +kernel, by decide⟩
abbrev m_Mo_apart : PMe := (⟨"PetalSetsModel", "apart", "(I)I"⟩, prog_13_method_77_code, 4, some .int)
theorem ok_Mo_apart : okM m_Mo_apart 1 := ⟨by decide, List.mem_of_getElem? (i := 1391) (by decide +kernel), List.mem_of_getElem? (i := 82) (by decide +kernel), by decide +kernel, by decide⟩
abbrev m_Mo_unionApart : PMe := (⟨"PetalSetsModel", "unionApart", "(I)I"⟩, prog_13_method_76_code, 4, some .int)
theorem ok_Mo_unionApart : okM m_Mo_unionApart 1 := ⟨by decide, List.mem_of_getElem? (i := 1395) (by decide +kernel), List.mem_of_getElem? (i := 82) (by decide +kernel), by decide +kernel, by decide⟩
abbrev m_Mo_exact : PMe := (⟨"PetalSetsModel", "exact", "(I)I"⟩, prog_13_method_78_code, 6, some .int)
theorem ok_Mo_exact : okM m_Mo_exact 1 := ⟨by decide, List.mem_of_getElem? (i := 1399) (by decide +kernel), List.mem_of_getElem? (i := 82) (by decide +kernel), by decide +kernel, by decide⟩
abbrev m_Mo_halves : PMe := (⟨"PetalSetsModel", "halves", "(I)I"⟩, prog_13_method_80_code, 5, some .int)
theorem ok_Mo_halves : okM m_Mo_halves 1 := ⟨by decide, List.mem_of_getElem? (i := 1403) (by decide +kernel), List.mem_of_getElem? (i := 82) (by decide +kernel), by decide +kernel, by decide⟩
abbrev m_Mo_halvesAll : PMe := (⟨"PetalSetsModel", "halvesAll", "(I)Z"⟩, prog_13_method_79_code, 4, some .boolean)
theorem ok_Mo_halvesAll : okM m_Mo_halvesAll 1 := ⟨by decide, List.mem_of_getElem? (i := 1407) (by decide +kernel), List.mem_of_getElem? (i := 82) (by decide +kernel), by decide +kernel, by decide⟩
abbrev m_Mo_kernel : PMe := (⟨"PetalSetsModel", "kernel", "(II)I"⟩, prog_13_method_85_code, 5, some .int)
theorem ok_Mo_kernel : okM m_Mo_kernel 2 := ⟨by decide, List.mem_of_getElem? (i := 1411) (by decide +kernel), List.mem_of_getElem? (i := 82) (by decide +kernel), by decide +kernel, by decide⟩
abbrev m_Mo_stepsOf : PMe := (⟨"PetalSetsModel", "stepsOf", "(I)I"⟩, prog_13_method_84_code, 4, some .int)
theorem ok_Mo_stepsOf : okM m_Mo_stepsOf 1 := ⟨by decide, List.mem_of_getElem? (i := 1415) (by decide +kernel), List.mem_of_getElem? (i := 82) (by decide +kernel), by decide +kernel, by decide⟩
abbrev m_Mo_kernelSet : PMe := (⟨"PetalSetsModel", "kernelSet", "(II)I"⟩, prog_13_method_86_code, 3, some .int)
theorem ok_Mo_kernelSet : okM m_Mo_kernelSet 2 := ⟨by decide, List.mem_of_getElem? (i := 1419) (by decide +kernel), List.mem_of_getElem? (i := 82) (by decide +kernel), by decide +kernel, by decide⟩
abbrev m_Mo_step : PMe := (⟨"PetalSetsModel", "step", "(III)I"⟩, prog_13_method_87_code, 4, some .int)
theorem ok_Mo_step : okM m_Mo_step 3 := ⟨by decide, List.mem_of_getElem? (i := 1423) (by decide +kernel), List.mem_of_getElem? (i := 82) (by decide +kernel), by decide +kernel, by decide⟩
abbrev m_Mo_can : PMe := (⟨"PetalSetsModel", "can", "(I)I"⟩, prog_13_method_88_code, 2, some .int)
theorem ok_Mo_can : okM m_Mo_can 1 := ⟨by decide, List.mem_of_getElem? (i := 1427) (by decide +kernel), List.mem_of_getElem? (i := 82) (by decide +kernel), by decide +kernel, by decide⟩
abbrev m_Mo_link : PMe := (⟨"PetalSetsModel", "link", "(II)I"⟩, prog_13_method_90_code, 4, some .int)
theorem ok_Mo_link : okM m_Mo_link 2 := ⟨by decide, List.mem_of_getElem? (i := 1431) (by decide +kernel), List.mem_of_getElem? (i := 82) (by decide +kernel), by decide +kernel, by decide⟩
abbrev m_Mo_laysOne : PMe := (⟨"PetalSetsModel", "laysOne", "(I)V"⟩, prog_13_method_42_code, 2, none)
theorem ok_Mo_laysOne : okM m_Mo_laysOne 1 := ⟨by decide, List.mem_of_getElem? (i := 1435) (by decide +kernel), List.mem_of_getElem? (i := 82) (by decide +kernel), by decide +kernel, by decide⟩
abbrev m_Mo_greatestOfRow : PMe := (⟨"PetalSetsModel", "greatestOfRow", "()I"⟩, prog_13_method_89_code, 1, some .int)
theorem ok_Mo_greatestOfRow : okM m_Mo_greatestOfRow 0 := ⟨by decide, List.mem_of_getElem? (i := 1439) (by decide +kernel), List.mem_of_getElem? (i := 82) (by decide +kernel), by decide +kernel, by decide⟩
abbrev m_Mo_withSet : PMe := (⟨"PetalSetsModel", "withSet", "(I)I"⟩, prog_13_method_91_code, 2, some .int)
theorem ok_Mo_withSet : okM m_Mo_withSet 1 := ⟨by decide, List.mem_of_getElem? (i := 1443) (by decide +kernel), List.mem_of_getElem? (i := 82) (by decide +kernel), by decide +kernel, by decide⟩
abbrev m_Mo_withoutSet : PMe := (⟨"PetalSetsModel", "withoutSet", "(I)I"⟩, prog_13_method_92_code, 3, some .int)
theorem ok_Mo_withoutSet : okM m_Mo_withoutSet 1 := ⟨by decide, List.mem_of_getElem? (i := 1447) (by decide +kernel), List.mem_of_getElem? (i := 82) (by decide +kernel), by decide +kernel, by decide⟩
abbrev m_Mo_freeNext : PMe := (⟨"PetalSetsModel", "freeNext", "(I)I"⟩, prog_13_method_95_code, 4, some .int)
theorem ok_Mo_freeNext : okM m_Mo_freeNext 1 := ⟨by decide, List.mem_of_getElem? (i := 1451) (by decide +kernel), List.mem_of_getElem? (i := 82) (by decide +kernel), by decide +kernel, by decide⟩
abbrev m_Mo_laysSmall : PMe := (⟨"PetalSetsModel", "laysSmall", "(I)V"⟩, prog_13_method_93_code, 6, none)
theorem ok_Mo_laysSmall : okM m_Mo_laysSmall 1 := ⟨by decide, List.mem_of_getElem? (i := 1455) (by decide +kernel), List.mem_of_getElem? (i := 82) (by decide +kernel), by decide +kernel, by decide⟩
abbrev m_Mo_isCatching : PMe := (⟨"PetalSetsModel", "isCatching", "(II)Z"⟩, prog_13_method_94_code, 4, some .boolean)
theorem ok_Mo_isCatching : okM m_Mo_isCatching 2 := ⟨by decide, List.mem_of_getElem? (i := 1459) (by decide +kernel), List.mem_of_getElem? (i := 82) (by decide +kernel), by decide +kernel, by decide⟩
abbrev m_Mo_spell : PMe := (⟨"PetalSetsModel", "spell", "(I)I"⟩, prog_13_method_101_code, 3, some .int)
theorem ok_Mo_spell : okM m_Mo_spell 1 := ⟨by decide, List.mem_of_getElem? (i := 1463) (by decide +kernel), List.mem_of_getElem? (i := 82) (by decide +kernel), by decide +kernel, by decide⟩
abbrev m_Mo_writesWord : PMe := (⟨"PetalSetsModel", "writesWord", "(I)V"⟩, prog_13_method_97_code, 3, none)
theorem ok_Mo_writesWord : okM m_Mo_writesWord 1 := ⟨by decide, List.mem_of_getElem? (i := 1467) (by decide +kernel), List.mem_of_getElem? (i := 82) (by decide +kernel), by decide +kernel, by decide⟩
abbrev m_Mo_wordFrom : PMe := (⟨"PetalSetsModel", "wordFrom", "(I)I"⟩, prog_13_method_108_code, 4, some .int)
theorem ok_Mo_wordFrom : okM m_Mo_wordFrom 1 := ⟨by decide, List.mem_of_getElem? (i := 1471) (by decide +kernel), List.mem_of_getElem? (i := 82) (by decide +kernel), by decide +kernel, by decide⟩
abbrev m_Mo_writes : PMe := (⟨"PetalSetsModel", "writes", "(I)V"⟩, prog_13_method_96_code, 2, none)
theorem ok_Mo_writes : okM m_Mo_writes 1 := ⟨by decide, List.mem_of_getElem? (i := 1475) (by decide +kernel), List.mem_of_getElem? (i := 82) (by decide +kernel), by decide +kernel, by decide⟩
abbrev m_Mo_writesNumber : PMe := (⟨"PetalSetsModel", "writesNumber", "(I)V"⟩, prog_13_method_98_code, 2, none)
theorem ok_Mo_writesNumber : okM m_Mo_writesNumber 1 := ⟨by decide, List.mem_of_getElem? (i := 1479) (by decide +kernel), List.mem_of_getElem? (i := 82) (by decide +kernel), by decide +kernel, by decide⟩
abbrev m_Mo_writesLetters : PMe := (⟨"PetalSetsModel", "writesLetters", "(I)V"⟩, prog_13_method_99_code, 3, none)
theorem ok_Mo_writesLetters : okM m_Mo_writesLetters 1 := ⟨by decide, List.mem_of_getElem? (i := 1483) (by decide +kernel), List.mem_of_getElem? (i := 82) (by decide +kernel), by decide +kernel, by decide⟩
abbrev m_Mo_toldText : PMe := (⟨"PetalSetsModel", "toldText", "(I)I"⟩, prog_13_method_100_code, 2, some .int)
theorem ok_Mo_toldText : okM m_Mo_toldText 1 := ⟨by decide, List.mem_of_getElem? (i := 1487) (by decide +kernel), List.mem_of_getElem? (i := 82) (by decide +kernel), by decide +kernel, by decide⟩
abbrev m_Mo_report : PMe := (⟨"PetalSetsModel", "report", "(II)I"⟩, prog_13_method_102_code, 5, some .int)
theorem ok_Mo_report : okM m_Mo_report 2 := ⟨by decide, List.mem_of_getElem? (i := 1491) (by decide +kernel), List.mem_of_getElem? (i := 82) (by decide +kernel), by decide +kernel, by decide⟩
abbrev m_Mo_count : PMe := (⟨"PetalSetsModel", "count", "(I)I"⟩, prog_13_method_105_code, 2, some .int)
theorem ok_Mo_count : okM m_Mo_count 1 := ⟨by decide, List.mem_of_getElem? (i := 1495) (by decide +kernel), List.mem_of_getElem? (i := 82) (by decide +kernel), by decide +kernel, by decide⟩
abbrev m_Mo_greatestSize : PMe := (⟨"PetalSetsModel", "greatestSize", "()I"⟩, prog_13_method_103_code, 2, some .int)
theorem ok_Mo_greatestSize : okM m_Mo_greatestSize 0 := ⟨by decide, List.mem_of_getElem? (i := 1499) (by decide +kernel), List.mem_of_getElem? (i := 82) (by decide +kernel), by decide +kernel, by decide⟩
abbrev m_Mo_leastSize : PMe := (⟨"PetalSetsModel", "leastSize", "()I"⟩, prog_13_method_104_code, 2, some .int)
theorem ok_Mo_leastSize : okM m_Mo_leastSize 0 := ⟨by decide, List.mem_of_getElem? (i := 1503) (by decide +kernel), List.mem_of_getElem? (i := 82) (by decide +kernel), by decide +kernel, by decide⟩
abbrev m_Mo_feed : PMe := (⟨"PetalSetsModel", "feed", "(IIIII)I"⟩, prog_13_method_106_code, 8, some .int)
theorem ok_Mo_feed : okM m_Mo_feed 5 := ⟨by decide, List.mem_of_getElem? (i := 1507) (by decide +kernel), List.mem_of_getElem? (i := 82) (by decide +kernel), by decide +kernel, by decide⟩
abbrev m_Mo_back : PMe := (⟨"PetalSetsModel", "back", "(I)I"⟩, prog_13_method_107_code, 2, some .int)
theorem ok_Mo_back : okM m_Mo_back 1 := ⟨by decide, List.mem_of_getElem? (i := 1511) (by decide +kernel), List.mem_of_getElem? (i := 82) (by decide +kernel), by decide +kernel, by decide⟩
abbrev m_Mo_text : PMe := (⟨"PetalSetsModel", "text", "()I"⟩, prog_13_method_115_code, 3, some .int)
theorem ok_Mo_text : okM m_Mo_text 0 := ⟨by decide, List.mem_of_getElem? (i := 1515) (by decide +kernel), List.mem_of_getElem? (i := 82) (by decide +kernel), by decide +kernel, by decide⟩
abbrev m_Mo_goesOn : PMe := (⟨"PetalSetsModel", "goesOn", "()V"⟩, prog_13_method_110_code, 5, none)
theorem ok_Mo_goesOn : okM m_Mo_goesOn 0 := ⟨by decide, List.mem_of_getElem? (i := 1519) (by decide +kernel), List.mem_of_getElem? (i := 82) (by decide +kernel), by decide +kernel, by decide⟩
abbrev m_Mo_here : PMe := (⟨"PetalSetsModel", "here", "()I"⟩, prog_13_method_109_code, 1, some .int)
theorem ok_Mo_here : okM m_Mo_here 0 := ⟨by decide, List.mem_of_getElem? (i := 1523) (by decide +kernel), List.mem_of_getElem? (i := 82) (by decide +kernel), by decide +kernel, by decide⟩
abbrev m_Mo_readsOne : PMe := (⟨"PetalSetsModel", "readsOne", "(Z)V"⟩, prog_13_method_114_code, 3, none)
theorem ok_Mo_readsOne : okM m_Mo_readsOne 1 := ⟨by decide, List.mem_of_getElem? (i := 1527) (by decide +kernel), List.mem_of_getElem? (i := 82) (by decide +kernel), by decide +kernel, by decide⟩
abbrev m_Mo_takesWord : PMe := (⟨"PetalSetsModel", "takesWord", "(I)Z"⟩, prog_13_method_111_code, 4, some .boolean)
theorem ok_Mo_takesWord : okM m_Mo_takesWord 1 := ⟨by decide, List.mem_of_getElem? (i := 1531) (by decide +kernel), List.mem_of_getElem? (i := 82) (by decide +kernel), by decide +kernel, by decide⟩
abbrev m_Mo_readsPoints : PMe := (⟨"PetalSetsModel", "readsPoints", "()V"⟩, prog_13_method_112_code, 1, none)
theorem ok_Mo_readsPoints : okM m_Mo_readsPoints 0 := ⟨by decide, List.mem_of_getElem? (i := 1535) (by decide +kernel), List.mem_of_getElem? (i := 82) (by decide +kernel), by decide +kernel, by decide⟩
abbrev m_Mo_readsSet : PMe := (⟨"PetalSetsModel", "readsSet", "(I)V"⟩, prog_13_method_113_code, 5, none)
theorem ok_Mo_readsSet : okM m_Mo_readsSet 1 := ⟨by decide, List.mem_of_getElem? (i := 1539) (by decide +kernel), List.mem_of_getElem? (i := 82) (by decide +kernel), by decide +kernel, by decide⟩
theorem mv_Law_13 : MV "PetalSetsLaw" 13 m_PS_feed 5 := ⟨ok_PS_feed, List.mem_of_getElem? (i := 325) (by decide +kernel), List.mem_of_getElem? (i := 326) (by decide +kernel), List.mem_of_getElem? (i := 327) (by decide +kernel)⟩
theorem mv_PS_79 : MV "PetalSets" 79 m_Tape_putFour 1 := ⟨ok_Tape_putFour, List.mem_of_getElem? (i := 329) (by decide +kernel), List.mem_of_getElem? (i := 330) (by decide +kernel), List.mem_of_getElem? (i := 331) (by decide +kernel)⟩
theorem mv_Law_18 : MV "PetalSetsLaw" 18 m_PS_back 1 := ⟨ok_PS_back, List.mem_of_getElem? (i := 333) (by decide +kernel), List.mem_of_getElem? (i := 334) (by decide +kernel), List.mem_of_getElem? (i := 335) (by decide +kernel)⟩
theorem mv_Law_23 : MV "PetalSetsLaw" 23 m_PS_text 0 := ⟨ok_PS_text, List.mem_of_getElem? (i := 337) (by decide +kernel), List.mem_of_getElem? (i := 338) (by decide +kernel), List.mem_of_getElem? (i := 339) (by decide +kernel)⟩
theorem mv_PS_83 : MV "PetalSets" 83 m_Reader_read 2 := ⟨ok_Reader_read, List.mem_of_getElem? (i := 341) (by decide +kernel), List.mem_of_getElem? (i := 342) (by decide +kernel), List.mem_of_getElem? (i := 343) (by decide +kernel)⟩
theorem mv_Reader_15 : MV "PetalSets$Reader" 15 m_Family_startAnew 1 := ⟨ok_Family_startAnew, List.mem_of_getElem? (i := 345) (by decide +kernel), List.mem_of_getElem? (i := 346) (by decide +kernel), List.mem_of_getElem? (i := 347) (by decide +kernel)⟩
theorem mv_Reader_21 : MV "PetalSets$Reader" 21 m_Reader_skipBlanks 1 := ⟨ok_Reader_skipBlanks, List.mem_of_getElem? (i := 349) (by decide +kernel), List.mem_of_getElem? (i := 351) (by decide +kernel), List.mem_of_getElem? (i := 0) (by decide +kernel)⟩
theorem mv_Reader_43 : MV "PetalSets$Reader" 43 m_Tape_isBlank 1 := ⟨ok_Tape_isBlank, List.mem_of_getElem? (i := 353) (by decide +kernel), List.mem_of_getElem? (i := 354) (by decide +kernel), List.mem_of_getElem? (i := 355) (by decide +kernel)⟩
theorem mv_Tape_19 : MV "PetalSets$Tape" 19 m_Tape_at 1 := ⟨ok_Tape_at, List.mem_of_getElem? (i := 357) (by decide +kernel), List.mem_of_getElem? (i := 358) (by decide +kernel), List.mem_of_getElem? (i := 359) (by decide +kernel)⟩
theorem mv_Reader_27 : MV "PetalSets$Reader" 27 m_Reader_isWord 2 := ⟨ok_Reader_isWord, List.mem_of_getElem? (i := 362) (by decide +kernel), List.mem_of_getElem? (i := 364) (by decide +kernel), List.mem_of_getElem? (i := 1) (by decide +kernel)⟩
theorem mv_Reader_81 : MV "PetalSets$Reader" 81 m_St_length 0 := ⟨ok_St_length, List.mem_of_getElem? (i := 366) (by decide +kernel), List.mem_of_getElem? (i := 367) (by decide +kernel), List.mem_of_getElem? (i := 368) (by decide +kernel)⟩
theorem mv_St_335 : MV "java/lang/String" 335 m_St_coder 0 := ⟨ok_St_coder, List.mem_of_getElem? (i := 370) (by decide +kernel), List.mem_of_getElem? (i := 371) (by decide +kernel), List.mem_of_getElem? (i := 372) (by decide +kernel)⟩
theorem mv_Reader_50 : MV "PetalSets$Reader" 50 m_Tape_at 1 := ⟨ok_Tape_at, List.mem_of_getElem? (i := 376) (by decide +kernel), List.mem_of_getElem? (i := 358) (by decide +kernel), List.mem_of_getElem? (i := 359) (by decide +kernel)⟩
theorem mv_Reader_86 : MV "PetalSets$Reader" 86 m_St_charAt 1 := ⟨ok_St_charAt, List.mem_of_getElem? (i := 377) (by decide +kernel), List.mem_of_getElem? (i := 378) (by decide +kernel), List.mem_of_getElem? (i := 379) (by decide +kernel)⟩
theorem mv_St_492 : MV "java/lang/String" 492 m_St_isLatin1 0 := ⟨ok_St_isLatin1, List.mem_of_getElem? (i := 381) (by decide +kernel), List.mem_of_getElem? (i := 382) (by decide +kernel), List.mem_of_getElem? (i := 383) (by decide +kernel)⟩
theorem ms_St_495 : MS "java/lang/String" 495 m_SL_charAt 2 := ⟨ok_SL_charAt, List.mem_of_getElem? (i := 385) (by decide +kernel), List.mem_of_getElem? (i := 386) (by decide +kernel)⟩
theorem ms_SL_9 : MS "java/lang/StringLatin1" 9 m_St_checkIndex 2 := ⟨ok_St_checkIndex, List.mem_of_getElem? (i := 388) (by decide +kernel), List.mem_of_getElem? (i := 389) (by decide +kernel)⟩
theorem ms_St_1059 : MS "java/lang/String" 1059 m_Pr_checkIndex 3 := ⟨ok_Pr_checkIndex, List.mem_of_getElem? (i := 393) (by decide +kernel), List.mem_of_getElem? (i := 394) (by decide +kernel)⟩
theorem ms_St_498 : MS "java/lang/String" 498 m_SU_charAt 2 := ⟨ok_SU_charAt, List.mem_of_getElem? (i := 396) (by decide +kernel), List.mem_of_getElem? (i := 397) (by decide +kernel)⟩
theorem ms_SU_67 : MS "java/lang/StringUTF16" 67 m_SU_checkIndex 2 := ⟨ok_SU_checkIndex, List.mem_of_getElem? (i := 399) (by decide +kernel), List.mem_of_getElem? (i := 400) (by decide +kernel)⟩
theorem ms_SU_48 : MS "java/lang/StringUTF16" 48 m_SU_length 1 := ⟨ok_SU_length, List.mem_of_getElem? (i := 402) (by decide +kernel), List.mem_of_getElem? (i := 403) (by decide +kernel)⟩
theorem ms_SU_414 : MS "java/lang/StringUTF16" 414 m_St_checkIndex 2 := ⟨ok_St_checkIndex, List.mem_of_getElem? (i := 405) (by decide +kernel), List.mem_of_getElem? (i := 389) (by decide +kernel)⟩
theorem ms_SU_71 : MS "java/lang/StringUTF16" 71 m_SU_getChar 2 := ⟨ok_SU_getChar, List.mem_of_getElem? (i := 406) (by decide +kernel), List.mem_of_getElem? (i := 407) (by decide +kernel)⟩
theorem mv_Reader_75 : MV "PetalSets$Reader" 75 m_Tape_isLetter 1 := ⟨ok_Tape_isLetter, List.mem_of_getElem? (i := 415) (by decide +kernel), List.mem_of_getElem? (i := 416) (by decide +kernel), List.mem_of_getElem? (i := 417) (by decide +kernel)⟩
theorem mv_Reader_31 : MV "PetalSets$Reader" 31 m_Reader_readPoints 2 := ⟨ok_Reader_readPoints, List.mem_of_getElem? (i := 419) (by decide +kernel), List.mem_of_getElem? (i := 421) (by decide +kernel), List.mem_of_getElem? (i := 2) (by decide +kernel)⟩
theorem mv_Reader_47 : MV "PetalSets$Reader" 47 m_Tape_isDigit 1 := ⟨ok_Tape_isDigit, List.mem_of_getElem? (i := 423) (by decide +kernel), List.mem_of_getElem? (i := 424) (by decide +kernel), List.mem_of_getElem? (i := 425) (by decide +kernel)⟩
theorem mv_Reader_54 : MV "PetalSets$Reader" 54 m_Reader_readEnd 1 := ⟨ok_Reader_readEnd, List.mem_of_getElem? (i := 427) (by decide +kernel), List.mem_of_getElem? (i := 429) (by decide +kernel), List.mem_of_getElem? (i := 3) (by decide +kernel)⟩
theorem mv_Reader_40 : MV "PetalSets$Reader" 40 m_Reader_readSet 2 := ⟨ok_Reader_readSet, List.mem_of_getElem? (i := 431) (by decide +kernel), List.mem_of_getElem? (i := 433) (by decide +kernel), List.mem_of_getElem? (i := 4) (by decide +kernel)⟩
theorem mv_Reader_63 : MV "PetalSets$Reader" 63 m_Reader_readLetters 2 := ⟨ok_Reader_readLetters, List.mem_of_getElem? (i := 436) (by decide +kernel), List.mem_of_getElem? (i := 438) (by decide +kernel), List.mem_of_getElem? (i := 5) (by decide +kernel)⟩
theorem mv_Reader_78 : MV "PetalSets$Reader" 78 m_Family_isPoint 1 := ⟨ok_Family_isPoint, List.mem_of_getElem? (i := 440) (by decide +kernel), List.mem_of_getElem? (i := 441) (by decide +kernel), List.mem_of_getElem? (i := 442) (by decide +kernel)⟩
theorem mv_Reader_66 : MV "PetalSets$Reader" 66 m_Family_isSet 1 := ⟨ok_Family_isSet, List.mem_of_getElem? (i := 444) (by decide +kernel), List.mem_of_getElem? (i := 445) (by decide +kernel), List.mem_of_getElem? (i := 446) (by decide +kernel)⟩
theorem mv_Family_22 : MV "PetalSets$Family" 22 m_Family_allPoints 0 := ⟨ok_Family_allPoints, List.mem_of_getElem? (i := 448) (by decide +kernel), List.mem_of_getElem? (i := 449) (by decide +kernel), List.mem_of_getElem? (i := 450) (by decide +kernel)⟩
theorem mv_Reader_69 : MV "PetalSets$Reader" 69 m_Family_find 1 := ⟨ok_Family_find, List.mem_of_getElem? (i := 452) (by decide +kernel), List.mem_of_getElem? (i := 453) (by decide +kernel), List.mem_of_getElem? (i := 454) (by decide +kernel)⟩
theorem mv_Reader_72 : MV "PetalSets$Reader" 72 m_Family_append 1 := ⟨ok_Family_append, List.mem_of_getElem? (i := 456) (by decide +kernel), List.mem_of_getElem? (i := 457) (by decide +kernel), List.mem_of_getElem? (i := 458) (by decide +kernel)⟩
theorem mv_PS_87 : MV "PetalSets" 87 m_Family_copyFrom 1 := ⟨ok_Family_copyFrom, List.mem_of_getElem? (i := 460) (by decide +kernel), List.mem_of_getElem? (i := 461) (by decide +kernel), List.mem_of_getElem? (i := 462) (by decide +kernel)⟩
theorem mv_Family_51 : MV "PetalSets$Family" 51 m_Family_copySetsFrom 1 := ⟨ok_Family_copySetsFrom, List.mem_of_getElem? (i := 464) (by decide +kernel), List.mem_of_getElem? (i := 465) (by decide +kernel), List.mem_of_getElem? (i := 466) (by decide +kernel)⟩
theorem mv_Family_47 : MV "PetalSets$Family" 47 m_Family_append 1 := ⟨ok_Family_append, List.mem_of_getElem? (i := 468) (by decide +kernel), List.mem_of_getElem? (i := 457) (by decide +kernel), List.mem_of_getElem? (i := 458) (by decide +kernel)⟩
theorem mv_PS_91 : MV "PetalSets" 91 m_History_forget 0 := ⟨ok_History_forget, List.mem_of_getElem? (i := 469) (by decide +kernel), List.mem_of_getElem? (i := 470) (by decide +kernel), List.mem_of_getElem? (i := 471) (by decide +kernel)⟩
theorem mv_Law_28 : MV "PetalSetsLaw" 28 m_PS_add 1 := ⟨ok_PS_add, List.mem_of_getElem? (i := 473) (by decide +kernel), List.mem_of_getElem? (i := 474) (by decide +kernel), List.mem_of_getElem? (i := 475) (by decide +kernel)⟩
theorem mv_PS_97 : MV "PetalSets" 97 m_Family_isSet 1 := ⟨ok_Family_isSet, List.mem_of_getElem? (i := 477) (by decide +kernel), List.mem_of_getElem? (i := 445) (by decide +kernel), List.mem_of_getElem? (i := 446) (by decide +kernel)⟩
theorem mv_PS_101 : MV "PetalSets" 101 m_Family_find 1 := ⟨ok_Family_find, List.mem_of_getElem? (i := 478) (by decide +kernel), List.mem_of_getElem? (i := 453) (by decide +kernel), List.mem_of_getElem? (i := 454) (by decide +kernel)⟩
theorem mv_PS_105 : MV "PetalSets" 105 m_History_keep 1 := ⟨ok_History_keep, List.mem_of_getElem? (i := 479) (by decide +kernel), List.mem_of_getElem? (i := 480) (by decide +kernel), List.mem_of_getElem? (i := 481) (by decide +kernel)⟩
theorem mv_History_36 : MV "PetalSets$History" 36 m_Family_at 1 := ⟨ok_Family_at, List.mem_of_getElem? (i := 486) (by decide +kernel), List.mem_of_getElem? (i := 487) (by decide +kernel), List.mem_of_getElem? (i := 488) (by decide +kernel)⟩
theorem mv_PS_108 : MV "PetalSets" 108 m_Family_append 1 := ⟨ok_Family_append, List.mem_of_getElem? (i := 490) (by decide +kernel), List.mem_of_getElem? (i := 457) (by decide +kernel), List.mem_of_getElem? (i := 458) (by decide +kernel)⟩
theorem mv_Law_32 : MV "PetalSetsLaw" 32 m_PS_drop 1 := ⟨ok_PS_drop, List.mem_of_getElem? (i := 491) (by decide +kernel), List.mem_of_getElem? (i := 492) (by decide +kernel), List.mem_of_getElem? (i := 493) (by decide +kernel)⟩
theorem mv_PS_111 : MV "PetalSets" 111 m_Family_holds 1 := ⟨ok_Family_holds, List.mem_of_getElem? (i := 495) (by decide +kernel), List.mem_of_getElem? (i := 496) (by decide +kernel), List.mem_of_getElem? (i := 497) (by decide +kernel)⟩
theorem mv_PS_114 : MV "PetalSets" 114 m_Family_takeOut 1 := ⟨ok_Family_takeOut, List.mem_of_getElem? (i := 499) (by decide +kernel), List.mem_of_getElem? (i := 500) (by decide +kernel), List.mem_of_getElem? (i := 501) (by decide +kernel)⟩
theorem mv_Law_37 : MV "PetalSetsLaw" 37 m_PS_change 2 := ⟨ok_PS_change, List.mem_of_getElem? (i := 503) (by decide +kernel), List.mem_of_getElem? (i := 504) (by decide +kernel), List.mem_of_getElem? (i := 505) (by decide +kernel)⟩
theorem mv_PS_117 : MV "PetalSets" 117 m_Family_at 1 := ⟨ok_Family_at, List.mem_of_getElem? (i := 507) (by decide +kernel), List.mem_of_getElem? (i := 487) (by decide +kernel), List.mem_of_getElem? (i := 488) (by decide +kernel)⟩
theorem mv_Law_42 : MV "PetalSetsLaw" 42 m_PS_swap 2 := ⟨ok_PS_swap, List.mem_of_getElem? (i := 508) (by decide +kernel), List.mem_of_getElem? (i := 509) (by decide +kernel), List.mem_of_getElem? (i := 510) (by decide +kernel)⟩
theorem mv_PS_124 : MV "PetalSets" 124 m_Family_isPoint 1 := ⟨ok_Family_isPoint, List.mem_of_getElem? (i := 512) (by decide +kernel), List.mem_of_getElem? (i := 441) (by decide +kernel), List.mem_of_getElem? (i := 442) (by decide +kernel)⟩
theorem mv_PS_130 : MV "PetalSets" 130 m_Family_startAnew 1 := ⟨ok_Family_startAnew, List.mem_of_getElem? (i := 513) (by decide +kernel), List.mem_of_getElem? (i := 346) (by decide +kernel), List.mem_of_getElem? (i := 347) (by decide +kernel)⟩
theorem ms_PS_133 : MS "PetalSets" 133 m_Ig_bitCount 1 := ⟨ok_Ig_bitCount, List.mem_of_getElem? (i := 514) (by decide +kernel), List.mem_of_getElem? (i := 515) (by decide +kernel)⟩
theorem mv_PS_138 : MV "PetalSets" 138 m_PS_becomeIfChanged 0 := ⟨ok_PS_becomeIfChanged, List.mem_of_getElem? (i := 520) (by decide +kernel), List.mem_of_getElem? (i := 522) (by decide +kernel), List.mem_of_getElem? (i := 6) (by decide +kernel)⟩
theorem mv_PS_148 : MV "PetalSets" 148 m_PS_become 1 := ⟨ok_PS_become, List.mem_of_getElem? (i := 524) (by decide +kernel), List.mem_of_getElem? (i := 526) (by decide +kernel), List.mem_of_getElem? (i := 7) (by decide +kernel)⟩
theorem mv_PS_190 : MV "PetalSets" 190 m_Family_copySetsFrom 1 := ⟨ok_Family_copySetsFrom, List.mem_of_getElem? (i := 528) (by decide +kernel), List.mem_of_getElem? (i := 465) (by decide +kernel), List.mem_of_getElem? (i := 466) (by decide +kernel)⟩
theorem mv_Law_46 : MV "PetalSetsLaw" 46 m_PS_without 1 := ⟨ok_PS_without, List.mem_of_getElem? (i := 529) (by decide +kernel), List.mem_of_getElem? (i := 530) (by decide +kernel), List.mem_of_getElem? (i := 531) (by decide +kernel)⟩
theorem mv_PS_142 : MV "PetalSets" 142 m_Family_setsWith 1 := ⟨ok_Family_setsWith, List.mem_of_getElem? (i := 533) (by decide +kernel), List.mem_of_getElem? (i := 534) (by decide +kernel), List.mem_of_getElem? (i := 535) (by decide +kernel)⟩
theorem mv_PS_145 : MV "PetalSets" 145 m_Family_appendNew 1 := ⟨ok_Family_appendNew, List.mem_of_getElem? (i := 537) (by decide +kernel), List.mem_of_getElem? (i := 538) (by decide +kernel), List.mem_of_getElem? (i := 539) (by decide +kernel)⟩
theorem mv_Family_44 : MV "PetalSets$Family" 44 m_Family_find 1 := ⟨ok_Family_find, List.mem_of_getElem? (i := 541) (by decide +kernel), List.mem_of_getElem? (i := 453) (by decide +kernel), List.mem_of_getElem? (i := 454) (by decide +kernel)⟩
theorem mv_Law_50 : MV "PetalSetsLaw" 50 m_PS_only 2 := ⟨ok_PS_only, List.mem_of_getElem? (i := 542) (by decide +kernel), List.mem_of_getElem? (i := 543) (by decide +kernel), List.mem_of_getElem? (i := 544) (by decide +kernel)⟩
theorem mv_PS_151 : MV "PetalSets" 151 m_Family_allSets 0 := ⟨ok_Family_allSets, List.mem_of_getElem? (i := 546) (by decide +kernel), List.mem_of_getElem? (i := 547) (by decide +kernel), List.mem_of_getElem? (i := 548) (by decide +kernel)⟩
theorem mv_PS_154 : MV "PetalSets" 154 m_PS_letGo 1 := ⟨ok_PS_letGo, List.mem_of_getElem? (i := 550) (by decide +kernel), List.mem_of_getElem? (i := 552) (by decide +kernel), List.mem_of_getElem? (i := 8) (by decide +kernel)⟩
theorem mv_Law_55 : MV "PetalSetsLaw" 55 m_PS_join 2 := ⟨ok_PS_join, List.mem_of_getElem? (i := 554) (by decide +kernel), List.mem_of_getElem? (i := 555) (by decide +kernel), List.mem_of_getElem? (i := 556) (by decide +kernel)⟩
theorem mv_Law_59 : MV "PetalSetsLaw" 59 m_PS_turn 0 := ⟨ok_PS_turn, List.mem_of_getElem? (i := 558) (by decide +kernel), List.mem_of_getElem? (i := 559) (by decide +kernel), List.mem_of_getElem? (i := 560) (by decide +kernel)⟩
theorem mv_PS_157 : MV "PetalSets" 157 m_Family_allPoints 0 := ⟨ok_Family_allPoints, List.mem_of_getElem? (i := 562) (by decide +kernel), List.mem_of_getElem? (i := 449) (by decide +kernel), List.mem_of_getElem? (i := 450) (by decide +kernel)⟩
theorem mv_Law_63 : MV "PetalSetsLaw" 63 m_PS_flip 0 := ⟨ok_PS_flip, List.mem_of_getElem? (i := 563) (by decide +kernel), List.mem_of_getElem? (i := 564) (by decide +kernel), List.mem_of_getElem? (i := 565) (by decide +kernel)⟩
theorem mv_Law_67 : MV "PetalSetsLaw" 67 m_PS_reduce 1 := ⟨ok_PS_reduce, List.mem_of_getElem? (i := 567) (by decide +kernel), List.mem_of_getElem? (i := 568) (by decide +kernel), List.mem_of_getElem? (i := 569) (by decide +kernel)⟩
theorem ms_PS_160 : MS "PetalSets" 160 m_PS_isBudget 1 := ⟨ok_PS_isBudget, List.mem_of_getElem? (i := 571) (by decide +kernel), List.mem_of_getElem? (i := 572) (by decide +kernel)⟩
theorem mv_PS_163 : MV "PetalSets" 163 m_Kernel_run 2 := ⟨ok_Kernel_run, List.mem_of_getElem? (i := 574) (by decide +kernel), List.mem_of_getElem? (i := 575) (by decide +kernel), List.mem_of_getElem? (i := 576) (by decide +kernel)⟩
theorem mv_Kernel_45 : MV "PetalSets$Kernel" 45 m_Family_hasSameSetsAs 1 := ⟨ok_Family_hasSameSetsAs, List.mem_of_getElem? (i := 578) (by decide +kernel), List.mem_of_getElem? (i := 579) (by decide +kernel), List.mem_of_getElem? (i := 580) (by decide +kernel)⟩
theorem mv_Kernel_49 : MV "PetalSets$Kernel" 49 m_Family_copySetsFrom 1 := ⟨ok_Family_copySetsFrom, List.mem_of_getElem? (i := 582) (by decide +kernel), List.mem_of_getElem? (i := 465) (by decide +kernel), List.mem_of_getElem? (i := 466) (by decide +kernel)⟩
theorem mv_Kernel_53 : MV "PetalSets$Kernel" 53 m_Kernel_takeStep 1 := ⟨ok_Kernel_takeStep, List.mem_of_getElem? (i := 583) (by decide +kernel), List.mem_of_getElem? (i := 585) (by decide +kernel), List.mem_of_getElem? (i := 9) (by decide +kernel)⟩
theorem mv_Kernel_57 : MV "PetalSets$Kernel" 57 m_Kernel_firstWithInner 0 := ⟨ok_Kernel_firstWithInner, List.mem_of_getElem? (i := 587) (by decide +kernel), List.mem_of_getElem? (i := 589) (by decide +kernel), List.mem_of_getElem? (i := 10) (by decide +kernel)⟩
theorem mv_Kernel_84 : MV "PetalSets$Kernel" 84 m_Family_at 1 := ⟨ok_Family_at, List.mem_of_getElem? (i := 591) (by decide +kernel), List.mem_of_getElem? (i := 487) (by decide +kernel), List.mem_of_getElem? (i := 488) (by decide +kernel)⟩
theorem mv_Kernel_61 : MV "PetalSets$Kernel" 61 m_Family_takeOut 1 := ⟨ok_Family_takeOut, List.mem_of_getElem? (i := 592) (by decide +kernel), List.mem_of_getElem? (i := 500) (by decide +kernel), List.mem_of_getElem? (i := 501) (by decide +kernel)⟩
theorem mv_Kernel_65 : MV "PetalSets$Kernel" 65 m_Kernel_noteStep 3 := ⟨ok_Kernel_noteStep, List.mem_of_getElem? (i := 593) (by decide +kernel), List.mem_of_getElem? (i := 595) (by decide +kernel), List.mem_of_getElem? (i := 11) (by decide +kernel)⟩
theorem ms_Kernel_69 : MS "PetalSets$Kernel" 69 m_Petals_leastFlower 2 := ⟨ok_Petals_leastFlower, List.mem_of_getElem? (i := 597) (by decide +kernel), List.mem_of_getElem? (i := 598) (by decide +kernel)⟩
theorem mv_Petals_15 : MV "PetalSets$Petals" 15 m_Family_at 1 := ⟨ok_Family_at, List.mem_of_getElem? (i := 600) (by decide +kernel), List.mem_of_getElem? (i := 487) (by decide +kernel), List.mem_of_getElem? (i := 488) (by decide +kernel)⟩
theorem ms_Petals_33 : MS "PetalSets$Petals" 33 m_Petals_fitting 4 := ⟨ok_Petals_fitting, List.mem_of_getElem? (i := 601) (by decide +kernel), List.mem_of_getElem? (i := 602) (by decide +kernel)⟩
theorem ms_Petals_47 : MS "PetalSets$Petals" 47 m_Petals_meetingIn 4 := ⟨ok_Petals_meetingIn, List.mem_of_getElem? (i := 604) (by decide +kernel), List.mem_of_getElem? (i := 605) (by decide +kernel)⟩
theorem ms_Petals_29 : MS "PetalSets$Petals" 29 m_Petals_leastClique 4 := ⟨ok_Petals_leastClique, List.mem_of_getElem? (i := 607) (by decide +kernel), List.mem_of_getElem? (i := 608) (by decide +kernel)⟩
theorem ms_Petals_39 : MS "PetalSets$Petals" 39 m_Ig_bitCount 1 := ⟨ok_Ig_bitCount, List.mem_of_getElem? (i := 610) (by decide +kernel), List.mem_of_getElem? (i := 515) (by decide +kernel)⟩
theorem ms_Petals_44 : MS "PetalSets$Petals" 44 m_Ig_lowestOneBit 1 := ⟨ok_Ig_lowestOneBit, List.mem_of_getElem? (i := 611) (by decide +kernel), List.mem_of_getElem? (i := 612) (by decide +kernel)⟩
theorem ms_Kernel_75 : MS "PetalSets$Kernel" 75 m_Petals_coreOf 2 := ⟨ok_Petals_coreOf, List.mem_of_getElem? (i := 614) (by decide +kernel), List.mem_of_getElem? (i := 615) (by decide +kernel)⟩
theorem mv_Kernel_78 : MV "PetalSets$Kernel" 78 m_Family_appendNew 1 := ⟨ok_Family_appendNew, List.mem_of_getElem? (i := 617) (by decide +kernel), List.mem_of_getElem? (i := 538) (by decide +kernel), List.mem_of_getElem? (i := 539) (by decide +kernel)⟩
theorem mv_Law_71 : MV "PetalSetsLaw" 71 m_PS_thin 1 := ⟨ok_PS_thin, List.mem_of_getElem? (i := 618) (by decide +kernel), List.mem_of_getElem? (i := 619) (by decide +kernel), List.mem_of_getElem? (i := 620) (by decide +kernel)⟩
theorem ms_PS_177 : MS "PetalSets" 177 m_PS_isFlowerSize 1 := ⟨ok_PS_isFlowerSize, List.mem_of_getElem? (i := 622) (by decide +kernel), List.mem_of_getElem? (i := 623) (by decide +kernel)⟩
theorem mv_PS_180 : MV "PetalSets" 180 m_Thinner_leastFree 2 := ⟨ok_Thinner_leastFree, List.mem_of_getElem? (i := 625) (by decide +kernel), List.mem_of_getElem? (i := 626) (by decide +kernel), List.mem_of_getElem? (i := 627) (by decide +kernel)⟩
theorem mv_Thinner_31 : MV "PetalSets$Thinner" 31 m_Thinner_fillFits 1 := ⟨ok_Thinner_fillFits, List.mem_of_getElem? (i := 630) (by decide +kernel), List.mem_of_getElem? (i := 632) (by decide +kernel), List.mem_of_getElem? (i := 12) (by decide +kernel)⟩
theorem mv_Thinner_39 : MV "PetalSets$Thinner" 39 m_Family_at 1 := ⟨ok_Family_at, List.mem_of_getElem? (i := 634) (by decide +kernel), List.mem_of_getElem? (i := 487) (by decide +kernel), List.mem_of_getElem? (i := 488) (by decide +kernel)⟩
theorem mv_Thinner_43 : MV "PetalSets$Thinner" 43 m_Family_allSets 0 := ⟨ok_Family_allSets, List.mem_of_getElem? (i := 635) (by decide +kernel), List.mem_of_getElem? (i := 547) (by decide +kernel), List.mem_of_getElem? (i := 548) (by decide +kernel)⟩
theorem mn_Thinner_47 : MN "PetalSets$Thinner" 47 m_Petals_fitting "PetalSets" 4 := ⟨ok_Petals_fitting, List.mem_of_getElem? (i := 636) (by decide +kernel), List.mem_of_getElem? (i := 602) (by decide +kernel)⟩
theorem mv_Thinner_35 : MV "PetalSets$Thinner" 35 m_Thinner_choose 4 := ⟨ok_Thinner_choose, List.mem_of_getElem? (i := 637) (by decide +kernel), List.mem_of_getElem? (i := 639) (by decide +kernel), List.mem_of_getElem? (i := 13) (by decide +kernel)⟩
theorem mv_Thinner_53 : MV "PetalSets$Thinner" 53 m_Thinner_closes 3 := ⟨ok_Thinner_closes, List.mem_of_getElem? (i := 641) (by decide +kernel), List.mem_of_getElem? (i := 643) (by decide +kernel), List.mem_of_getElem? (i := 14) (by decide +kernel)⟩
theorem ms_Thinner_57 : MS "PetalSets$Thinner" 57 m_Ig_bitCount 1 := ⟨ok_Ig_bitCount, List.mem_of_getElem? (i := 645) (by decide +kernel), List.mem_of_getElem? (i := 515) (by decide +kernel)⟩
theorem mv_Law_75 : MV "PetalSetsLaw" 75 m_PS_undo 0 := ⟨ok_PS_undo, List.mem_of_getElem? (i := 646) (by decide +kernel), List.mem_of_getElem? (i := 647) (by decide +kernel), List.mem_of_getElem? (i := 648) (by decide +kernel)⟩
theorem mv_PS_187 : MV "PetalSets" 187 m_History_restore 1 := ⟨ok_History_restore, List.mem_of_getElem? (i := 650) (by decide +kernel), List.mem_of_getElem? (i := 651) (by decide +kernel), List.mem_of_getElem? (i := 652) (by decide +kernel)⟩
theorem mv_History_43 : MV "PetalSets$History" 43 m_Family_append 1 := ⟨ok_Family_append, List.mem_of_getElem? (i := 657) (by decide +kernel), List.mem_of_getElem? (i := 457) (by decide +kernel), List.mem_of_getElem? (i := 458) (by decide +kernel)⟩
theorem mv_Law_79 : MV "PetalSetsLaw" 79 m_PS_set 2 := ⟨ok_PS_set, List.mem_of_getElem? (i := 658) (by decide +kernel), List.mem_of_getElem? (i := 659) (by decide +kernel), List.mem_of_getElem? (i := 660) (by decide +kernel)⟩
theorem mv_PS_193 : MV "PetalSets" 193 m_Family_setsMeeting 1 := ⟨ok_Family_setsMeeting, List.mem_of_getElem? (i := 662) (by decide +kernel), List.mem_of_getElem? (i := 663) (by decide +kernel), List.mem_of_getElem? (i := 664) (by decide +kernel)⟩
theorem mv_Law_83 : MV "PetalSetsLaw" 83 m_PS_degree 1 := ⟨ok_PS_degree, List.mem_of_getElem? (i := 666) (by decide +kernel), List.mem_of_getElem? (i := 667) (by decide +kernel), List.mem_of_getElem? (i := 668) (by decide +kernel)⟩
theorem mv_Law_87 : MV "PetalSetsLaw" 87 m_PS_having 1 := ⟨ok_PS_having, List.mem_of_getElem? (i := 670) (by decide +kernel), List.mem_of_getElem? (i := 671) (by decide +kernel), List.mem_of_getElem? (i := 672) (by decide +kernel)⟩
theorem mv_PS_196 : MV "PetalSets" 196 m_Family_arePoints 1 := ⟨ok_Family_arePoints, List.mem_of_getElem? (i := 674) (by decide +kernel), List.mem_of_getElem? (i := 675) (by decide +kernel), List.mem_of_getElem? (i := 676) (by decide +kernel)⟩
theorem mv_Law_91 : MV "PetalSetsLaw" 91 m_PS_isFlower 1 := ⟨ok_PS_isFlower, List.mem_of_getElem? (i := 678) (by decide +kernel), List.mem_of_getElem? (i := 679) (by decide +kernel), List.mem_of_getElem? (i := 680) (by decide +kernel)⟩
theorem mv_PS_199 : MV "PetalSets" 199 m_Family_areSets 1 := ⟨ok_Family_areSets, List.mem_of_getElem? (i := 682) (by decide +kernel), List.mem_of_getElem? (i := 683) (by decide +kernel), List.mem_of_getElem? (i := 684) (by decide +kernel)⟩
theorem mv_Family_26 : MV "PetalSets$Family" 26 m_Family_allSets 0 := ⟨ok_Family_allSets, List.mem_of_getElem? (i := 686) (by decide +kernel), List.mem_of_getElem? (i := 547) (by decide +kernel), List.mem_of_getElem? (i := 548) (by decide +kernel)⟩
theorem ms_PS_202 : MS "PetalSets" 202 m_Petals_coreOf 2 := ⟨ok_Petals_coreOf, List.mem_of_getElem? (i := 687) (by decide +kernel), List.mem_of_getElem? (i := 615) (by decide +kernel)⟩
theorem mv_Law_95 : MV "PetalSetsLaw" 95 m_PS_core 1 := ⟨ok_PS_core, List.mem_of_getElem? (i := 688) (by decide +kernel), List.mem_of_getElem? (i := 689) (by decide +kernel), List.mem_of_getElem? (i := 690) (by decide +kernel)⟩
theorem mv_Law_99 : MV "PetalSetsLaw" 99 m_PS_greatest 1 := ⟨ok_PS_greatest, List.mem_of_getElem? (i := 692) (by decide +kernel), List.mem_of_getElem? (i := 693) (by decide +kernel), List.mem_of_getElem? (i := 694) (by decide +kernel)⟩
theorem ms_PS_207 : MS "PetalSets" 207 m_Petals_largest 1 := ⟨ok_Petals_largest, List.mem_of_getElem? (i := 696) (by decide +kernel), List.mem_of_getElem? (i := 697) (by decide +kernel)⟩
theorem ms_Petals_19 : MS "PetalSets$Petals" 19 m_Petals_leastFlower 2 := ⟨ok_Petals_leastFlower, List.mem_of_getElem? (i := 699) (by decide +kernel), List.mem_of_getElem? (i := 598) (by decide +kernel)⟩
theorem mv_Law_103 : MV "PetalSetsLaw" 103 m_PS_flower 1 := ⟨ok_PS_flower, List.mem_of_getElem? (i := 700) (by decide +kernel), List.mem_of_getElem? (i := 701) (by decide +kernel), List.mem_of_getElem? (i := 702) (by decide +kernel)⟩
theorem ms_PS_211 : MS "PetalSets" 211 m_Petals_leastFlower 2 := ⟨ok_Petals_leastFlower, List.mem_of_getElem? (i := 704) (by decide +kernel), List.mem_of_getElem? (i := 598) (by decide +kernel)⟩
theorem mv_Law_107 : MV "PetalSetsLaw" 107 m_PS_flowers 1 := ⟨ok_PS_flowers, List.mem_of_getElem? (i := 705) (by decide +kernel), List.mem_of_getElem? (i := 706) (by decide +kernel), List.mem_of_getElem? (i := 707) (by decide +kernel)⟩
theorem ms_PS_214 : MS "PetalSets" 214 m_Petals_countFlowers 2 := ⟨ok_Petals_countFlowers, List.mem_of_getElem? (i := 709) (by decide +kernel), List.mem_of_getElem? (i := 710) (by decide +kernel)⟩
theorem ms_Petals_36 : MS "PetalSets$Petals" 36 m_Petals_countCliques 4 := ⟨ok_Petals_countCliques, List.mem_of_getElem? (i := 712) (by decide +kernel), List.mem_of_getElem? (i := 713) (by decide +kernel)⟩
theorem mv_Law_111 : MV "PetalSetsLaw" 111 m_PS_byCore 2 := ⟨ok_PS_byCore, List.mem_of_getElem? (i := 715) (by decide +kernel), List.mem_of_getElem? (i := 716) (by decide +kernel), List.mem_of_getElem? (i := 717) (by decide +kernel)⟩
theorem ms_PS_217 : MS "PetalSets" 217 m_Petals_largestOf 2 := ⟨ok_Petals_largestOf, List.mem_of_getElem? (i := 719) (by decide +kernel), List.mem_of_getElem? (i := 720) (by decide +kernel)⟩
theorem mv_Petals_25 : MV "PetalSets$Petals" 25 m_Family_allSets 0 := ⟨ok_Family_allSets, List.mem_of_getElem? (i := 722) (by decide +kernel), List.mem_of_getElem? (i := 547) (by decide +kernel), List.mem_of_getElem? (i := 548) (by decide +kernel)⟩
theorem mv_Law_115 : MV "PetalSetsLaw" 115 m_PS_cores 1 := ⟨ok_PS_cores, List.mem_of_getElem? (i := 723) (by decide +kernel), List.mem_of_getElem? (i := 724) (by decide +kernel), List.mem_of_getElem? (i := 725) (by decide +kernel)⟩
theorem ms_PS_220 : MS "PetalSets" 220 m_Petals_isNewMeet 3 := ⟨ok_Petals_isNewMeet, List.mem_of_getElem? (i := 727) (by decide +kernel), List.mem_of_getElem? (i := 728) (by decide +kernel)⟩
theorem mn_PS_224 : MN "PetalSets" 224 m_Petals_leastClique "PetalSets" 4 := ⟨ok_Petals_leastClique, List.mem_of_getElem? (i := 730) (by decide +kernel), List.mem_of_getElem? (i := 608) (by decide +kernel)⟩
theorem mv_Law_119 : MV "PetalSetsLaw" 119 m_PS_most 1 := ⟨ok_PS_most, List.mem_of_getElem? (i := 731) (by decide +kernel), List.mem_of_getElem? (i := 732) (by decide +kernel), List.mem_of_getElem? (i := 733) (by decide +kernel)⟩
theorem mv_Law_123 : MV "PetalSetsLaw" 123 m_PS_surplus 1 := ⟨ok_PS_surplus, List.mem_of_getElem? (i := 735) (by decide +kernel), List.mem_of_getElem? (i := 736) (by decide +kernel), List.mem_of_getElem? (i := 737) (by decide +kernel)⟩
theorem mv_Law_127 : MV "PetalSetsLaw" 127 m_PS_uneven 1 := ⟨ok_PS_uneven, List.mem_of_getElem? (i := 739) (by decide +kernel), List.mem_of_getElem? (i := 740) (by decide +kernel), List.mem_of_getElem? (i := 741) (by decide +kernel)⟩
theorem ms_PS_228 : MS "PetalSets" 228 m_Ig_numberOfTrailingZeros 1 := ⟨ok_Ig_numberOfTrailingZeros, List.mem_of_getElem? (i := 743) (by decide +kernel), List.mem_of_getElem? (i := 744) (by decide +kernel)⟩
theorem mv_Law_131 : MV "PetalSetsLaw" 131 m_PS_pairs 1 := ⟨ok_PS_pairs, List.mem_of_getElem? (i := 747) (by decide +kernel), List.mem_of_getElem? (i := 748) (by decide +kernel), List.mem_of_getElem? (i := 749) (by decide +kernel)⟩
theorem mv_Law_135 : MV "PetalSetsLaw" 135 m_PS_parts 0 := ⟨ok_PS_parts, List.mem_of_getElem? (i := 751) (by decide +kernel), List.mem_of_getElem? (i := 752) (by decide +kernel), List.mem_of_getElem? (i := 753) (by decide +kernel)⟩
theorem mv_PS_231 : MV "PetalSets" 231 m_PS_partOf 1 := ⟨ok_PS_partOf, List.mem_of_getElem? (i := 755) (by decide +kernel), List.mem_of_getElem? (i := 757) (by decide +kernel), List.mem_of_getElem? (i := 15) (by decide +kernel)⟩
theorem mv_PS_234 : MV "PetalSets" 234 m_Family_unionOf 1 := ⟨ok_Family_unionOf, List.mem_of_getElem? (i := 759) (by decide +kernel), List.mem_of_getElem? (i := 760) (by decide +kernel), List.mem_of_getElem? (i := 761) (by decide +kernel)⟩
theorem mv_Law_139 : MV "PetalSetsLaw" 139 m_PS_ranked 1 := ⟨ok_PS_ranked, List.mem_of_getElem? (i := 763) (by decide +kernel), List.mem_of_getElem? (i := 764) (by decide +kernel), List.mem_of_getElem? (i := 765) (by decide +kernel)⟩
theorem mv_PS_237 : MV "PetalSets" 237 m_PS_pointsAhead 1 := ⟨ok_PS_pointsAhead, List.mem_of_getElem? (i := 767) (by decide +kernel), List.mem_of_getElem? (i := 769) (by decide +kernel), List.mem_of_getElem? (i := 16) (by decide +kernel)⟩
theorem mv_Law_143 : MV "PetalSetsLaw" 143 m_PS_spread 2 := ⟨ok_PS_spread, List.mem_of_getElem? (i := 771) (by decide +kernel), List.mem_of_getElem? (i := 772) (by decide +kernel), List.mem_of_getElem? (i := 773) (by decide +kernel)⟩
theorem mv_PS_240 : MV "PetalSets" 240 m_Touch_fillLacking 1 := ⟨ok_Touch_fillLacking, List.mem_of_getElem? (i := 775) (by decide +kernel), List.mem_of_getElem? (i := 776) (by decide +kernel), List.mem_of_getElem? (i := 777) (by decide +kernel)⟩
theorem mv_Touch_47 : MV "PetalSets$Touch" 47 m_Family_allSets 0 := ⟨ok_Family_allSets, List.mem_of_getElem? (i := 779) (by decide +kernel), List.mem_of_getElem? (i := 547) (by decide +kernel), List.mem_of_getElem? (i := 548) (by decide +kernel)⟩
theorem mv_Touch_37 : MV "PetalSets$Touch" 37 m_Family_setsWith 1 := ⟨ok_Family_setsWith, List.mem_of_getElem? (i := 780) (by decide +kernel), List.mem_of_getElem? (i := 534) (by decide +kernel), List.mem_of_getElem? (i := 535) (by decide +kernel)⟩
theorem mv_Touch_43 : MV "PetalSets$Touch" 43 m_Touch_fillMarks 1 := ⟨ok_Touch_fillMarks, List.mem_of_getElem? (i := 781) (by decide +kernel), List.mem_of_getElem? (i := 783) (by decide +kernel), List.mem_of_getElem? (i := 17) (by decide +kernel)⟩
theorem mv_Touch_50 : MV "PetalSets$Touch" 50 m_Family_allPoints 0 := ⟨ok_Family_allPoints, List.mem_of_getElem? (i := 785) (by decide +kernel), List.mem_of_getElem? (i := 449) (by decide +kernel), List.mem_of_getElem? (i := 450) (by decide +kernel)⟩
theorem ms_Touch_52 : MS "PetalSets$Touch" 52 m_Ig_numberOfTrailingZeros 1 := ⟨ok_Ig_numberOfTrailingZeros, List.mem_of_getElem? (i := 786) (by decide +kernel), List.mem_of_getElem? (i := 744) (by decide +kernel)⟩
theorem mv_PS_243 : MV "PetalSets" 243 m_Touch_untouched 1 := ⟨ok_Touch_untouched, List.mem_of_getElem? (i := 787) (by decide +kernel), List.mem_of_getElem? (i := 788) (by decide +kernel), List.mem_of_getElem? (i := 789) (by decide +kernel)⟩
theorem mv_Touch_57 : MV "PetalSets$Touch" 57 m_Touch_touched 1 := ⟨ok_Touch_touched, List.mem_of_getElem? (i := 791) (by decide +kernel), List.mem_of_getElem? (i := 792) (by decide +kernel), List.mem_of_getElem? (i := 793) (by decide +kernel)⟩
theorem ms_Touch_60 : MS "PetalSets$Touch" 60 m_Ig_bitCount 1 := ⟨ok_Ig_bitCount, List.mem_of_getElem? (i := 795) (by decide +kernel), List.mem_of_getElem? (i := 515) (by decide +kernel)⟩
theorem ms_PS_246 : MS "PetalSets" 246 m_PS_power 2 := ⟨ok_PS_power, List.mem_of_getElem? (i := 796) (by decide +kernel), List.mem_of_getElem? (i := 797) (by decide +kernel)⟩
theorem mv_Law_147 : MV "PetalSetsLaw" 147 m_PS_spreadest 0 := ⟨ok_PS_spreadest, List.mem_of_getElem? (i := 799) (by decide +kernel), List.mem_of_getElem? (i := 800) (by decide +kernel), List.mem_of_getElem? (i := 801) (by decide +kernel)⟩
theorem mv_Law_151 : MV "PetalSetsLaw" 151 m_PS_bound 2 := ⟨ok_PS_bound, List.mem_of_getElem? (i := 803) (by decide +kernel), List.mem_of_getElem? (i := 804) (by decide +kernel), List.mem_of_getElem? (i := 805) (by decide +kernel)⟩
theorem mv_Law_155 : MV "PetalSetsLaw" 155 m_PS_sized 1 := ⟨ok_PS_sized, List.mem_of_getElem? (i := 811) (by decide +kernel), List.mem_of_getElem? (i := 812) (by decide +kernel), List.mem_of_getElem? (i := 813) (by decide +kernel)⟩
theorem mv_Law_159 : MV "PetalSetsLaw" 159 m_PS_hits 1 := ⟨ok_PS_hits, List.mem_of_getElem? (i := 815) (by decide +kernel), List.mem_of_getElem? (i := 816) (by decide +kernel), List.mem_of_getElem? (i := 817) (by decide +kernel)⟩
theorem mv_Law_163 : MV "PetalSetsLaw" 163 m_PS_missed 1 := ⟨ok_PS_missed, List.mem_of_getElem? (i := 819) (by decide +kernel), List.mem_of_getElem? (i := 820) (by decide +kernel), List.mem_of_getElem? (i := 821) (by decide +kernel)⟩
theorem mv_Law_167 : MV "PetalSetsLaw" 167 m_PS_hitter 1 := ⟨ok_PS_hitter, List.mem_of_getElem? (i := 823) (by decide +kernel), List.mem_of_getElem? (i := 824) (by decide +kernel), List.mem_of_getElem? (i := 825) (by decide +kernel)⟩
theorem mv_PS_258 : MV "PetalSets" 258 m_Touch_fillHaving 1 := ⟨ok_Touch_fillHaving, List.mem_of_getElem? (i := 827) (by decide +kernel), List.mem_of_getElem? (i := 828) (by decide +kernel), List.mem_of_getElem? (i := 829) (by decide +kernel)⟩
theorem mv_PS_261 : MV "PetalSets" 261 m_Touch_findLeast 0 := ⟨ok_Touch_findLeast, List.mem_of_getElem? (i := 831) (by decide +kernel), List.mem_of_getElem? (i := 832) (by decide +kernel), List.mem_of_getElem? (i := 833) (by decide +kernel)⟩
theorem mv_Touch_63 : MV "PetalSets$Touch" 63 m_Touch_touchesAll 1 := ⟨ok_Touch_touchesAll, List.mem_of_getElem? (i := 835) (by decide +kernel), List.mem_of_getElem? (i := 836) (by decide +kernel), List.mem_of_getElem? (i := 837) (by decide +kernel)⟩
theorem mv_Law_171 : MV "PetalSetsLaw" 171 m_PS_tight 1 := ⟨ok_PS_tight, List.mem_of_getElem? (i := 839) (by decide +kernel), List.mem_of_getElem? (i := 840) (by decide +kernel), List.mem_of_getElem? (i := 841) (by decide +kernel)⟩
theorem mv_PS_276 : MV "PetalSets" 276 m_Touch_isTight 1 := ⟨ok_Touch_isTight, List.mem_of_getElem? (i := 843) (by decide +kernel), List.mem_of_getElem? (i := 844) (by decide +kernel), List.mem_of_getElem? (i := 845) (by decide +kernel)⟩
theorem mv_Law_175 : MV "PetalSetsLaw" 175 m_PS_greedy 1 := ⟨ok_PS_greedy, List.mem_of_getElem? (i := 847) (by decide +kernel), List.mem_of_getElem? (i := 848) (by decide +kernel), List.mem_of_getElem? (i := 849) (by decide +kernel)⟩
theorem mv_PS_279 : MV "PetalSets" 279 m_PS_bestPoint 1 := ⟨ok_PS_bestPoint, List.mem_of_getElem? (i := 851) (by decide +kernel), List.mem_of_getElem? (i := 853) (by decide +kernel), List.mem_of_getElem? (i := 18) (by decide +kernel)⟩
theorem mv_Law_179 : MV "PetalSetsLaw" 179 m_PS_apart 1 := ⟨ok_PS_apart, List.mem_of_getElem? (i := 855) (by decide +kernel), List.mem_of_getElem? (i := 856) (by decide +kernel), List.mem_of_getElem? (i := 857) (by decide +kernel)⟩
theorem mv_Law_183 : MV "PetalSetsLaw" 183 m_PS_exact 1 := ⟨ok_PS_exact, List.mem_of_getElem? (i := 859) (by decide +kernel), List.mem_of_getElem? (i := 860) (by decide +kernel), List.mem_of_getElem? (i := 861) (by decide +kernel)⟩
theorem mv_PS_282 : MV "PetalSets" 282 m_Cover_run 1 := ⟨ok_Cover_run, List.mem_of_getElem? (i := 863) (by decide +kernel), List.mem_of_getElem? (i := 864) (by decide +kernel), List.mem_of_getElem? (i := 865) (by decide +kernel)⟩
theorem mv_Cover_18 : MV "PetalSets$Cover" 18 m_Family_allSets 0 := ⟨ok_Family_allSets, List.mem_of_getElem? (i := 867) (by decide +kernel), List.mem_of_getElem? (i := 547) (by decide +kernel), List.mem_of_getElem? (i := 548) (by decide +kernel)⟩
theorem mv_Cover_24 : MV "PetalSets$Cover" 24 m_Family_unionOf 1 := ⟨ok_Family_unionOf, List.mem_of_getElem? (i := 868) (by decide +kernel), List.mem_of_getElem? (i := 760) (by decide +kernel), List.mem_of_getElem? (i := 761) (by decide +kernel)⟩
theorem mv_Cover_28 : MV "PetalSets$Cover" 28 m_Cover_coverRest 4 := ⟨ok_Cover_coverRest, List.mem_of_getElem? (i := 869) (by decide +kernel), List.mem_of_getElem? (i := 871) (by decide +kernel), List.mem_of_getElem? (i := 19) (by decide +kernel)⟩
theorem ms_Cover_38 : MS "PetalSets$Cover" 38 m_Ig_lowestOneBit 1 := ⟨ok_Ig_lowestOneBit, List.mem_of_getElem? (i := 874) (by decide +kernel), List.mem_of_getElem? (i := 612) (by decide +kernel)⟩
theorem mv_Cover_46 : MV "PetalSets$Cover" 46 m_Family_at 1 := ⟨ok_Family_at, List.mem_of_getElem? (i := 875) (by decide +kernel), List.mem_of_getElem? (i := 487) (by decide +kernel), List.mem_of_getElem? (i := 488) (by decide +kernel)⟩
theorem mv_Law_187 : MV "PetalSetsLaw" 187 m_PS_halves 1 := ⟨ok_PS_halves, List.mem_of_getElem? (i := 876) (by decide +kernel), List.mem_of_getElem? (i := 877) (by decide +kernel), List.mem_of_getElem? (i := 878) (by decide +kernel)⟩
theorem mv_PS_288 : MV "PetalSets" 288 m_Family_setsOfTwoOrMore 0 := ⟨ok_Family_setsOfTwoOrMore, List.mem_of_getElem? (i := 880) (by decide +kernel), List.mem_of_getElem? (i := 881) (by decide +kernel), List.mem_of_getElem? (i := 882) (by decide +kernel)⟩
theorem ms_Family_29 : MS "PetalSets$Family" 29 m_Ig_bitCount 1 := ⟨ok_Ig_bitCount, List.mem_of_getElem? (i := 884) (by decide +kernel), List.mem_of_getElem? (i := 515) (by decide +kernel)⟩
theorem mv_PS_291 : MV "PetalSets" 291 m_Touch_touched 1 := ⟨ok_Touch_touched, List.mem_of_getElem? (i := 885) (by decide +kernel), List.mem_of_getElem? (i := 792) (by decide +kernel), List.mem_of_getElem? (i := 793) (by decide +kernel)⟩
theorem mv_Law_191 : MV "PetalSetsLaw" 191 m_PS_kernel 2 := ⟨ok_PS_kernel, List.mem_of_getElem? (i := 886) (by decide +kernel), List.mem_of_getElem? (i := 887) (by decide +kernel), List.mem_of_getElem? (i := 888) (by decide +kernel)⟩
theorem mv_PS_294 : MV "PetalSets" 294 m_Kernel_stepsOf 1 := ⟨ok_Kernel_stepsOf, List.mem_of_getElem? (i := 890) (by decide +kernel), List.mem_of_getElem? (i := 891) (by decide +kernel), List.mem_of_getElem? (i := 892) (by decide +kernel)⟩
theorem mv_Law_195 : MV "PetalSetsLaw" 195 m_PS_kernelSet 2 := ⟨ok_PS_kernelSet, List.mem_of_getElem? (i := 894) (by decide +kernel), List.mem_of_getElem? (i := 895) (by decide +kernel), List.mem_of_getElem? (i := 896) (by decide +kernel)⟩
theorem mv_Law_199 : MV "PetalSetsLaw" 199 m_PS_step 3 := ⟨ok_PS_step, List.mem_of_getElem? (i := 898) (by decide +kernel), List.mem_of_getElem? (i := 899) (by decide +kernel), List.mem_of_getElem? (i := 900) (by decide +kernel)⟩
theorem mv_Law_204 : MV "PetalSetsLaw" 204 m_PS_can 1 := ⟨ok_PS_can, List.mem_of_getElem? (i := 902) (by decide +kernel), List.mem_of_getElem? (i := 903) (by decide +kernel), List.mem_of_getElem? (i := 904) (by decide +kernel)⟩
theorem mv_Law_208 : MV "PetalSetsLaw" 208 m_PS_link 2 := ⟨ok_PS_link, List.mem_of_getElem? (i := 906) (by decide +kernel), List.mem_of_getElem? (i := 907) (by decide +kernel), List.mem_of_getElem? (i := 908) (by decide +kernel)⟩
theorem ms_PS_309 : MS "PetalSets" 309 m_PS_largestSize 1 := ⟨ok_PS_largestSize, List.mem_of_getElem? (i := 910) (by decide +kernel), List.mem_of_getElem? (i := 911) (by decide +kernel)⟩
theorem mv_Law_212 : MV "PetalSetsLaw" 212 m_PS_withSet 1 := ⟨ok_PS_withSet, List.mem_of_getElem? (i := 913) (by decide +kernel), List.mem_of_getElem? (i := 914) (by decide +kernel), List.mem_of_getElem? (i := 915) (by decide +kernel)⟩
theorem mv_Law_216 : MV "PetalSetsLaw" 216 m_PS_withoutSet 1 := ⟨ok_PS_withoutSet, List.mem_of_getElem? (i := 917) (by decide +kernel), List.mem_of_getElem? (i := 918) (by decide +kernel), List.mem_of_getElem? (i := 919) (by decide +kernel)⟩
theorem mv_Law_220 : MV "PetalSetsLaw" 220 m_PS_freeNext 1 := ⟨ok_PS_freeNext, List.mem_of_getElem? (i := 921) (by decide +kernel), List.mem_of_getElem? (i := 922) (by decide +kernel), List.mem_of_getElem? (i := 923) (by decide +kernel)⟩
theorem ms_PS_312 : MS "PetalSets" 312 m_Petals_closesFlower 3 := ⟨ok_Petals_closesFlower, List.mem_of_getElem? (i := 925) (by decide +kernel), List.mem_of_getElem? (i := 926) (by decide +kernel)⟩
theorem mv_Law_224 : MV "PetalSetsLaw" 224 m_PS_spell 1 := ⟨ok_PS_spell, List.mem_of_getElem? (i := 928) (by decide +kernel), List.mem_of_getElem? (i := 929) (by decide +kernel), List.mem_of_getElem? (i := 930) (by decide +kernel)⟩
theorem mv_PS_318 : MV "PetalSets" 318 m_Page_putWord 1 := ⟨ok_Page_putWord, List.mem_of_getElem? (i := 933) (by decide +kernel), List.mem_of_getElem? (i := 934) (by decide +kernel), List.mem_of_getElem? (i := 935) (by decide +kernel)⟩
theorem mv_Page_19 : MV "PetalSets$Page" 19 m_St_length 0 := ⟨ok_St_length, List.mem_of_getElem? (i := 937) (by decide +kernel), List.mem_of_getElem? (i := 367) (by decide +kernel), List.mem_of_getElem? (i := 368) (by decide +kernel)⟩
theorem mv_Page_24 : MV "PetalSets$Page" 24 m_St_charAt 1 := ⟨ok_St_charAt, List.mem_of_getElem? (i := 938) (by decide +kernel), List.mem_of_getElem? (i := 378) (by decide +kernel), List.mem_of_getElem? (i := 379) (by decide +kernel)⟩
theorem mv_Page_28 : MV "PetalSets$Page" 28 m_Page_putByte 1 := ⟨ok_Page_putByte, List.mem_of_getElem? (i := 939) (by decide +kernel), List.mem_of_getElem? (i := 941) (by decide +kernel), List.mem_of_getElem? (i := 20) (by decide +kernel)⟩
theorem mv_PS_322 : MV "PetalSets" 322 m_Page_putNumber 1 := ⟨ok_Page_putNumber, List.mem_of_getElem? (i := 943) (by decide +kernel), List.mem_of_getElem? (i := 944) (by decide +kernel), List.mem_of_getElem? (i := 945) (by decide +kernel)⟩
theorem mv_PS_329 : MV "PetalSets" 329 m_Page_putLetters 1 := ⟨ok_Page_putLetters, List.mem_of_getElem? (i := 949) (by decide +kernel), List.mem_of_getElem? (i := 950) (by decide +kernel), List.mem_of_getElem? (i := 951) (by decide +kernel)⟩
theorem mv_PS_332 : MV "PetalSets" 332 m_Page_answer 1 := ⟨ok_Page_answer, List.mem_of_getElem? (i := 953) (by decide +kernel), List.mem_of_getElem? (i := 954) (by decide +kernel), List.mem_of_getElem? (i := 955) (by decide +kernel)⟩
theorem mv_Law_228 : MV "PetalSetsLaw" 228 m_PS_report 2 := ⟨ok_PS_report, List.mem_of_getElem? (i := 957) (by decide +kernel), List.mem_of_getElem? (i := 958) (by decide +kernel), List.mem_of_getElem? (i := 959) (by decide +kernel)⟩
theorem mv_PS_335 : MV "PetalSets" 335 m_Kernel_tellStep 2 := ⟨ok_Kernel_tellStep, List.mem_of_getElem? (i := 961) (by decide +kernel), List.mem_of_getElem? (i := 962) (by decide +kernel), List.mem_of_getElem? (i := 963) (by decide +kernel)⟩
theorem mv_Kernel_92 : MV "PetalSets$Kernel" 92 m_Page_putWord 1 := ⟨ok_Page_putWord, List.mem_of_getElem? (i := 967) (by decide +kernel), List.mem_of_getElem? (i := 934) (by decide +kernel), List.mem_of_getElem? (i := 935) (by decide +kernel)⟩
theorem mv_Kernel_100 : MV "PetalSets$Kernel" 100 m_Page_putNumber 1 := ⟨ok_Page_putNumber, List.mem_of_getElem? (i := 969) (by decide +kernel), List.mem_of_getElem? (i := 944) (by decide +kernel), List.mem_of_getElem? (i := 945) (by decide +kernel)⟩
theorem mv_Kernel_105 : MV "PetalSets$Kernel" 105 m_Page_putLetters 1 := ⟨ok_Page_putLetters, List.mem_of_getElem? (i := 971) (by decide +kernel), List.mem_of_getElem? (i := 950) (by decide +kernel), List.mem_of_getElem? (i := 951) (by decide +kernel)⟩
theorem mv_Law_232 : MV "PetalSetsLaw" 232 m_PS_count 1 := ⟨ok_PS_count, List.mem_of_getElem? (i := 975) (by decide +kernel), List.mem_of_getElem? (i := 976) (by decide +kernel), List.mem_of_getElem? (i := 977) (by decide +kernel)⟩
theorem mv_PS_343 : MV "PetalSets" 343 m_Family_greatestSize 0 := ⟨ok_Family_greatestSize, List.mem_of_getElem? (i := 979) (by decide +kernel), List.mem_of_getElem? (i := 980) (by decide +kernel), List.mem_of_getElem? (i := 981) (by decide +kernel)⟩
theorem mv_PS_346 : MV "PetalSets" 346 m_Family_leastSize 0 := ⟨ok_Family_leastSize, List.mem_of_getElem? (i := 984) (by decide +kernel), List.mem_of_getElem? (i := 985) (by decide +kernel), List.mem_of_getElem? (i := 986) (by decide +kernel)⟩
theorem ms_Mo_68 : MS "PetalSetsModel" 68 m_Mo_starts 1 := ⟨ok_Mo_starts, List.mem_of_getElem? (i := 996) (by decide +kernel), List.mem_of_getElem? (i := 997) (by decide +kernel)⟩
theorem mv_Law_31 : MV "PetalSetsLaw" 31 m_Mo_add 1 := ⟨ok_Mo_add, List.mem_of_getElem? (i := 1099) (by decide +kernel), List.mem_of_getElem? (i := 1100) (by decide +kernel), List.mem_of_getElem? (i := 1101) (by decide +kernel)⟩
theorem mv_Mo_90 : MV "PetalSetsModel" 90 m_Mo_arePoints 1 := ⟨ok_Mo_arePoints, List.mem_of_getElem? (i := 1103) (by decide +kernel), List.mem_of_getElem? (i := 1105) (by decide +kernel), List.mem_of_getElem? (i := 21) (by decide +kernel)⟩
theorem mv_Mo_83 : MV "PetalSetsModel" 83 m_Mo_allPoints 0 := ⟨ok_Mo_allPoints, List.mem_of_getElem? (i := 1107) (by decide +kernel), List.mem_of_getElem? (i := 1109) (by decide +kernel), List.mem_of_getElem? (i := 22) (by decide +kernel)⟩
theorem ms_Mo_79 : MS "PetalSetsModel" 79 m_Mo_in 3 := ⟨ok_Mo_in, List.mem_of_getElem? (i := 1111) (by decide +kernel), List.mem_of_getElem? (i := 1112) (by decide +kernel)⟩
theorem mv_Mo_94 : MV "PetalSetsModel" 94 m_Mo_isTold 1 := ⟨ok_Mo_isTold, List.mem_of_getElem? (i := 1114) (by decide +kernel), List.mem_of_getElem? (i := 1116) (by decide +kernel), List.mem_of_getElem? (i := 23) (by decide +kernel)⟩
theorem mv_Mo_75 : MV "PetalSetsModel" 75 m_Mo_many 0 := ⟨ok_Mo_many, List.mem_of_getElem? (i := 1118) (by decide +kernel), List.mem_of_getElem? (i := 1120) (by decide +kernel), List.mem_of_getElem? (i := 24) (by decide +kernel)⟩
theorem ms_Mo_86 : MS "PetalSetsModel" 86 m_Mo_isAmong 4 := ⟨ok_Mo_isAmong, List.mem_of_getElem? (i := 1122) (by decide +kernel), List.mem_of_getElem? (i := 1123) (by decide +kernel)⟩
theorem mv_Mo_97 : MV "PetalSetsModel" 97 m_Mo_keeps 0 := ⟨ok_Mo_keeps, List.mem_of_getElem? (i := 1125) (by decide +kernel), List.mem_of_getElem? (i := 1127) (by decide +kernel), List.mem_of_getElem? (i := 25) (by decide +kernel)⟩
theorem mv_Law_36 : MV "PetalSetsLaw" 36 m_Mo_drop 1 := ⟨ok_Mo_drop, List.mem_of_getElem? (i := 1129) (by decide +kernel), List.mem_of_getElem? (i := 1130) (by decide +kernel), List.mem_of_getElem? (i := 1131) (by decide +kernel)⟩
theorem mv_Mo_100 : MV "PetalSetsModel" 100 m_Mo_isThere 1 := ⟨ok_Mo_isThere, List.mem_of_getElem? (i := 1133) (by decide +kernel), List.mem_of_getElem? (i := 1135) (by decide +kernel), List.mem_of_getElem? (i := 26) (by decide +kernel)⟩
theorem mv_Law_41 : MV "PetalSetsLaw" 41 m_Mo_change 2 := ⟨ok_Mo_change, List.mem_of_getElem? (i := 1137) (by decide +kernel), List.mem_of_getElem? (i := 1138) (by decide +kernel), List.mem_of_getElem? (i := 1139) (by decide +kernel)⟩
theorem mv_Mo_103 : MV "PetalSetsModel" 103 m_Mo_its 1 := ⟨ok_Mo_its, List.mem_of_getElem? (i := 1141) (by decide +kernel), List.mem_of_getElem? (i := 1143) (by decide +kernel), List.mem_of_getElem? (i := 27) (by decide +kernel)⟩
theorem mv_Law_45 : MV "PetalSetsLaw" 45 m_Mo_swap 2 := ⟨ok_Mo_swap, List.mem_of_getElem? (i := 1145) (by decide +kernel), List.mem_of_getElem? (i := 1146) (by decide +kernel), List.mem_of_getElem? (i := 1147) (by decide +kernel)⟩
theorem mv_Mo_113 : MV "PetalSetsModel" 113 m_Mo_isPoint 1 := ⟨ok_Mo_isPoint, List.mem_of_getElem? (i := 1149) (by decide +kernel), List.mem_of_getElem? (i := 1151) (by decide +kernel), List.mem_of_getElem? (i := 28) (by decide +kernel)⟩
theorem mv_Mo_116 : MV "PetalSetsModel" 116 m_Mo_wouldBegin 0 := ⟨ok_Mo_wouldBegin, List.mem_of_getElem? (i := 1153) (by decide +kernel), List.mem_of_getElem? (i := 1155) (by decide +kernel), List.mem_of_getElem? (i := 29) (by decide +kernel)⟩
theorem ms_Mo_119 : MS "PetalSetsModel" 119 m_Mo_has 2 := ⟨ok_Mo_has, List.mem_of_getElem? (i := 1157) (by decide +kernel), List.mem_of_getElem? (i := 1158) (by decide +kernel)⟩
theorem mv_Mo_123 : MV "PetalSetsModel" 123 m_Mo_wouldHave 1 := ⟨ok_Mo_wouldHave, List.mem_of_getElem? (i := 1160) (by decide +kernel), List.mem_of_getElem? (i := 1162) (by decide +kernel), List.mem_of_getElem? (i := 30) (by decide +kernel)⟩
theorem mv_Mo_127 : MV "PetalSetsModel" 127 m_Mo_changes 0 := ⟨ok_Mo_changes, List.mem_of_getElem? (i := 1164) (by decide +kernel), List.mem_of_getElem? (i := 1166) (by decide +kernel), List.mem_of_getElem? (i := 31) (by decide +kernel)⟩
theorem mv_Mo_110 : MV "PetalSetsModel" 110 m_Mo_becomes 0 := ⟨ok_Mo_becomes, List.mem_of_getElem? (i := 1168) (by decide +kernel), List.mem_of_getElem? (i := 1170) (by decide +kernel), List.mem_of_getElem? (i := 32) (by decide +kernel)⟩
theorem mv_Law_49 : MV "PetalSetsLaw" 49 m_Mo_without 1 := ⟨ok_Mo_without, List.mem_of_getElem? (i := 1172) (by decide +kernel), List.mem_of_getElem? (i := 1173) (by decide +kernel), List.mem_of_getElem? (i := 1174) (by decide +kernel)⟩
theorem mv_Mo_130 : MV "PetalSetsModel" 130 m_Mo_degreeOf 1 := ⟨ok_Mo_degreeOf, List.mem_of_getElem? (i := 1176) (by decide +kernel), List.mem_of_getElem? (i := 1178) (by decide +kernel), List.mem_of_getElem? (i := 33) (by decide +kernel)⟩
theorem mv_Law_54 : MV "PetalSetsLaw" 54 m_Mo_only 2 := ⟨ok_Mo_only, List.mem_of_getElem? (i := 1180) (by decide +kernel), List.mem_of_getElem? (i := 1181) (by decide +kernel), List.mem_of_getElem? (i := 1182) (by decide +kernel)⟩
theorem mv_Law_58 : MV "PetalSetsLaw" 58 m_Mo_join 2 := ⟨ok_Mo_join, List.mem_of_getElem? (i := 1184) (by decide +kernel), List.mem_of_getElem? (i := 1185) (by decide +kernel), List.mem_of_getElem? (i := 1186) (by decide +kernel)⟩
theorem mv_Law_62 : MV "PetalSetsLaw" 62 m_Mo_turn 0 := ⟨ok_Mo_turn, List.mem_of_getElem? (i := 1188) (by decide +kernel), List.mem_of_getElem? (i := 1189) (by decide +kernel), List.mem_of_getElem? (i := 1190) (by decide +kernel)⟩
theorem mv_Law_66 : MV "PetalSetsLaw" 66 m_Mo_flip 0 := ⟨ok_Mo_flip, List.mem_of_getElem? (i := 1192) (by decide +kernel), List.mem_of_getElem? (i := 1193) (by decide +kernel), List.mem_of_getElem? (i := 1194) (by decide +kernel)⟩
theorem mv_Law_70 : MV "PetalSetsLaw" 70 m_Mo_reduce 1 := ⟨ok_Mo_reduce, List.mem_of_getElem? (i := 1196) (by decide +kernel), List.mem_of_getElem? (i := 1197) (by decide +kernel), List.mem_of_getElem? (i := 1198) (by decide +kernel)⟩
theorem ms_Mo_133 : MS "PetalSetsModel" 133 m_Mo_isOfKernel 1 := ⟨ok_Mo_isOfKernel, List.mem_of_getElem? (i := 1200) (by decide +kernel), List.mem_of_getElem? (i := 1201) (by decide +kernel)⟩
theorem mv_Mo_136 : MV "PetalSetsModel" 136 m_Mo_kernels 1 := ⟨ok_Mo_kernels, List.mem_of_getElem? (i := 1203) (by decide +kernel), List.mem_of_getElem? (i := 1205) (by decide +kernel), List.mem_of_getElem? (i := 34) (by decide +kernel)⟩
theorem mv_Mo_216 : MV "PetalSetsModel" 216 m_Mo_withinFirst 0 := ⟨ok_Mo_withinFirst, List.mem_of_getElem? (i := 1207) (by decide +kernel), List.mem_of_getElem? (i := 1209) (by decide +kernel), List.mem_of_getElem? (i := 35) (by decide +kernel)⟩
theorem ms_Mo_158 : MS "PetalSetsModel" 158 m_Mo_isWithin 2 := ⟨ok_Mo_isWithin, List.mem_of_getElem? (i := 1211) (by decide +kernel), List.mem_of_getElem? (i := 1212) (by decide +kernel)⟩
theorem mv_Mo_219 : MV "PetalSetsModel" 219 m_Mo_goes 3 := ⟨ok_Mo_goes, List.mem_of_getElem? (i := 1214) (by decide +kernel), List.mem_of_getElem? (i := 1216) (by decide +kernel), List.mem_of_getElem? (i := 36) (by decide +kernel)⟩
theorem mv_Mo_182 : MV "PetalSetsModel" 182 m_Mo_firstOf 1 := ⟨ok_Mo_firstOf, List.mem_of_getElem? (i := 1218) (by decide +kernel), List.mem_of_getElem? (i := 1220) (by decide +kernel), List.mem_of_getElem? (i := 37) (by decide +kernel)⟩
theorem ms_Mo_155 : MS "PetalSetsModel" 155 m_Mo_ones 1 := ⟨ok_Mo_ones, List.mem_of_getElem? (i := 1222) (by decide +kernel), List.mem_of_getElem? (i := 1223) (by decide +kernel)⟩
theorem mv_Mo_170 : MV "PetalSetsModel" 170 m_Mo_coreOf 1 := ⟨ok_Mo_coreOf, List.mem_of_getElem? (i := 1225) (by decide +kernel), List.mem_of_getElem? (i := 1227) (by decide +kernel), List.mem_of_getElem? (i := 38) (by decide +kernel)⟩
theorem mv_Law_74 : MV "PetalSetsLaw" 74 m_Mo_thin 1 := ⟨ok_Mo_thin, List.mem_of_getElem? (i := 1229) (by decide +kernel), List.mem_of_getElem? (i := 1230) (by decide +kernel), List.mem_of_getElem? (i := 1231) (by decide +kernel)⟩
theorem ms_Mo_149 : MS "PetalSetsModel" 149 m_Mo_isOfFlower 1 := ⟨ok_Mo_isOfFlower, List.mem_of_getElem? (i := 1233) (by decide +kernel), List.mem_of_getElem? (i := 1234) (by decide +kernel)⟩
theorem mv_Mo_152 : MV "PetalSetsModel" 152 m_Mo_mostFree 1 := ⟨ok_Mo_mostFree, List.mem_of_getElem? (i := 1236) (by decide +kernel), List.mem_of_getElem? (i := 1238) (by decide +kernel), List.mem_of_getElem? (i := 39) (by decide +kernel)⟩
theorem mv_Mo_176 : MV "PetalSetsModel" 176 m_Mo_laysAll 0 := ⟨ok_Mo_laysAll, List.mem_of_getElem? (i := 1240) (by decide +kernel), List.mem_of_getElem? (i := 1242) (by decide +kernel), List.mem_of_getElem? (i := 40) (by decide +kernel)⟩
theorem mv_Law_78 : MV "PetalSetsLaw" 78 m_Mo_undo 0 := ⟨ok_Mo_undo, List.mem_of_getElem? (i := 1244) (by decide +kernel), List.mem_of_getElem? (i := 1245) (by decide +kernel), List.mem_of_getElem? (i := 1246) (by decide +kernel)⟩
theorem mv_Law_82 : MV "PetalSetsLaw" 82 m_Mo_set 2 := ⟨ok_Mo_set, List.mem_of_getElem? (i := 1248) (by decide +kernel), List.mem_of_getElem? (i := 1249) (by decide +kernel), List.mem_of_getElem? (i := 1250) (by decide +kernel)⟩
theorem mv_Law_86 : MV "PetalSetsLaw" 86 m_Mo_degree 1 := ⟨ok_Mo_degree, List.mem_of_getElem? (i := 1252) (by decide +kernel), List.mem_of_getElem? (i := 1253) (by decide +kernel), List.mem_of_getElem? (i := 1254) (by decide +kernel)⟩
theorem mv_Law_90 : MV "PetalSetsLaw" 90 m_Mo_having 1 := ⟨ok_Mo_having, List.mem_of_getElem? (i := 1256) (by decide +kernel), List.mem_of_getElem? (i := 1257) (by decide +kernel), List.mem_of_getElem? (i := 1258) (by decide +kernel)⟩
theorem mv_Mo_161 : MV "PetalSetsModel" 161 m_Mo_havingAll 1 := ⟨ok_Mo_havingAll, List.mem_of_getElem? (i := 1260) (by decide +kernel), List.mem_of_getElem? (i := 1262) (by decide +kernel), List.mem_of_getElem? (i := 41) (by decide +kernel)⟩
theorem mv_Law_94 : MV "PetalSetsLaw" 94 m_Mo_isFlower 1 := ⟨ok_Mo_isFlower, List.mem_of_getElem? (i := 1264) (by decide +kernel), List.mem_of_getElem? (i := 1265) (by decide +kernel), List.mem_of_getElem? (i := 1266) (by decide +kernel)⟩
theorem mv_Mo_173 : MV "PetalSetsModel" 173 m_Mo_areNumbers 1 := ⟨ok_Mo_areNumbers, List.mem_of_getElem? (i := 1268) (by decide +kernel), List.mem_of_getElem? (i := 1270) (by decide +kernel), List.mem_of_getElem? (i := 42) (by decide +kernel)⟩
theorem mv_Law_98 : MV "PetalSetsLaw" 98 m_Mo_core 1 := ⟨ok_Mo_core, List.mem_of_getElem? (i := 1272) (by decide +kernel), List.mem_of_getElem? (i := 1273) (by decide +kernel), List.mem_of_getElem? (i := 1274) (by decide +kernel)⟩
theorem mv_Law_102 : MV "PetalSetsLaw" 102 m_Mo_greatest 1 := ⟨ok_Mo_greatest, List.mem_of_getElem? (i := 1276) (by decide +kernel), List.mem_of_getElem? (i := 1277) (by decide +kernel), List.mem_of_getElem? (i := 1278) (by decide +kernel)⟩
theorem mv_Mo_179 : MV "PetalSetsModel" 179 m_Mo_greatestMany 0 := ⟨ok_Mo_greatestMany, List.mem_of_getElem? (i := 1280) (by decide +kernel), List.mem_of_getElem? (i := 1282) (by decide +kernel), List.mem_of_getElem? (i := 43) (by decide +kernel)⟩
theorem mv_Law_106 : MV "PetalSetsLaw" 106 m_Mo_flower 1 := ⟨ok_Mo_flower, List.mem_of_getElem? (i := 1284) (by decide +kernel), List.mem_of_getElem? (i := 1285) (by decide +kernel), List.mem_of_getElem? (i := 1286) (by decide +kernel)⟩
theorem mv_Law_110 : MV "PetalSetsLaw" 110 m_Mo_flowers 1 := ⟨ok_Mo_flowers, List.mem_of_getElem? (i := 1288) (by decide +kernel), List.mem_of_getElem? (i := 1289) (by decide +kernel), List.mem_of_getElem? (i := 1290) (by decide +kernel)⟩
theorem mv_Law_114 : MV "PetalSetsLaw" 114 m_Mo_byCore 2 := ⟨ok_Mo_byCore, List.mem_of_getElem? (i := 1292) (by decide +kernel), List.mem_of_getElem? (i := 1293) (by decide +kernel), List.mem_of_getElem? (i := 1294) (by decide +kernel)⟩
theorem mv_Law_118 : MV "PetalSetsLaw" 118 m_Mo_cores 1 := ⟨ok_Mo_cores, List.mem_of_getElem? (i := 1296) (by decide +kernel), List.mem_of_getElem? (i := 1297) (by decide +kernel), List.mem_of_getElem? (i := 1298) (by decide +kernel)⟩
theorem mv_Law_122 : MV "PetalSetsLaw" 122 m_Mo_most 1 := ⟨ok_Mo_most, List.mem_of_getElem? (i := 1300) (by decide +kernel), List.mem_of_getElem? (i := 1301) (by decide +kernel), List.mem_of_getElem? (i := 1302) (by decide +kernel)⟩
theorem mv_Law_126 : MV "PetalSetsLaw" 126 m_Mo_surplus 1 := ⟨ok_Mo_surplus, List.mem_of_getElem? (i := 1304) (by decide +kernel), List.mem_of_getElem? (i := 1305) (by decide +kernel), List.mem_of_getElem? (i := 1306) (by decide +kernel)⟩
theorem mv_Law_130 : MV "PetalSetsLaw" 130 m_Mo_uneven 1 := ⟨ok_Mo_uneven, List.mem_of_getElem? (i := 1308) (by decide +kernel), List.mem_of_getElem? (i := 1309) (by decide +kernel), List.mem_of_getElem? (i := 1310) (by decide +kernel)⟩
theorem mv_Law_134 : MV "PetalSetsLaw" 134 m_Mo_pairs 1 := ⟨ok_Mo_pairs, List.mem_of_getElem? (i := 1312) (by decide +kernel), List.mem_of_getElem? (i := 1313) (by decide +kernel), List.mem_of_getElem? (i := 1314) (by decide +kernel)⟩
theorem mv_Law_138 : MV "PetalSetsLaw" 138 m_Mo_parts 0 := ⟨ok_Mo_parts, List.mem_of_getElem? (i := 1316) (by decide +kernel), List.mem_of_getElem? (i := 1317) (by decide +kernel), List.mem_of_getElem? (i := 1318) (by decide +kernel)⟩
theorem mv_Mo_185 : MV "PetalSetsModel" 185 m_Mo_allHad 0 := ⟨ok_Mo_allHad, List.mem_of_getElem? (i := 1320) (by decide +kernel), List.mem_of_getElem? (i := 1322) (by decide +kernel), List.mem_of_getElem? (i := 44) (by decide +kernel)⟩
theorem mv_Law_142 : MV "PetalSetsLaw" 142 m_Mo_ranked 1 := ⟨ok_Mo_ranked, List.mem_of_getElem? (i := 1324) (by decide +kernel), List.mem_of_getElem? (i := 1325) (by decide +kernel), List.mem_of_getElem? (i := 1326) (by decide +kernel)⟩
theorem mv_Law_146 : MV "PetalSetsLaw" 146 m_Mo_spread 2 := ⟨ok_Mo_spread, List.mem_of_getElem? (i := 1328) (by decide +kernel), List.mem_of_getElem? (i := 1329) (by decide +kernel), List.mem_of_getElem? (i := 1330) (by decide +kernel)⟩
theorem mv_Mo_192 : MV "PetalSetsModel" 192 m_Mo_firstDense 2 := ⟨ok_Mo_firstDense, List.mem_of_getElem? (i := 1332) (by decide +kernel), List.mem_of_getElem? (i := 1334) (by decide +kernel), List.mem_of_getElem? (i := 45) (by decide +kernel)⟩
theorem ms_Mo_188 : MS "PetalSetsModel" 188 m_Mo_power 2 := ⟨ok_Mo_power, List.mem_of_getElem? (i := 1336) (by decide +kernel), List.mem_of_getElem? (i := 1337) (by decide +kernel)⟩
theorem mv_Law_150 : MV "PetalSetsLaw" 150 m_Mo_spreadest 0 := ⟨ok_Mo_spreadest, List.mem_of_getElem? (i := 1339) (by decide +kernel), List.mem_of_getElem? (i := 1340) (by decide +kernel), List.mem_of_getElem? (i := 1341) (by decide +kernel)⟩
theorem mv_Law_154 : MV "PetalSetsLaw" 154 m_Mo_bound 2 := ⟨ok_Mo_bound, List.mem_of_getElem? (i := 1343) (by decide +kernel), List.mem_of_getElem? (i := 1344) (by decide +kernel), List.mem_of_getElem? (i := 1345) (by decide +kernel)⟩
theorem mv_Law_158 : MV "PetalSetsLaw" 158 m_Mo_sized 1 := ⟨ok_Mo_sized, List.mem_of_getElem? (i := 1348) (by decide +kernel), List.mem_of_getElem? (i := 1349) (by decide +kernel), List.mem_of_getElem? (i := 1350) (by decide +kernel)⟩
theorem mv_Mo_198 : MV "PetalSetsModel" 198 m_Mo_sizedMany 1 := ⟨ok_Mo_sizedMany, List.mem_of_getElem? (i := 1352) (by decide +kernel), List.mem_of_getElem? (i := 1354) (by decide +kernel), List.mem_of_getElem? (i := 46) (by decide +kernel)⟩
theorem mv_Law_162 : MV "PetalSetsLaw" 162 m_Mo_hits 1 := ⟨ok_Mo_hits, List.mem_of_getElem? (i := 1356) (by decide +kernel), List.mem_of_getElem? (i := 1357) (by decide +kernel), List.mem_of_getElem? (i := 1358) (by decide +kernel)⟩
theorem mv_Mo_201 : MV "PetalSetsModel" 201 m_Mo_missedBy 1 := ⟨ok_Mo_missedBy, List.mem_of_getElem? (i := 1360) (by decide +kernel), List.mem_of_getElem? (i := 1362) (by decide +kernel), List.mem_of_getElem? (i := 47) (by decide +kernel)⟩
theorem mv_Law_166 : MV "PetalSetsLaw" 166 m_Mo_missed 1 := ⟨ok_Mo_missed, List.mem_of_getElem? (i := 1364) (by decide +kernel), List.mem_of_getElem? (i := 1365) (by decide +kernel), List.mem_of_getElem? (i := 1366) (by decide +kernel)⟩
theorem mv_Law_170 : MV "PetalSetsLaw" 170 m_Mo_hitter 1 := ⟨ok_Mo_hitter, List.mem_of_getElem? (i := 1368) (by decide +kernel), List.mem_of_getElem? (i := 1369) (by decide +kernel), List.mem_of_getElem? (i := 1370) (by decide +kernel)⟩
theorem mv_Mo_204 : MV "PetalSetsModel" 204 m_Mo_fewestToHit 0 := ⟨ok_Mo_fewestToHit, List.mem_of_getElem? (i := 1372) (by decide +kernel), List.mem_of_getElem? (i := 1374) (by decide +kernel), List.mem_of_getElem? (i := 48) (by decide +kernel)⟩
theorem mv_Law_174 : MV "PetalSetsLaw" 174 m_Mo_tight 1 := ⟨ok_Mo_tight, List.mem_of_getElem? (i := 1376) (by decide +kernel), List.mem_of_getElem? (i := 1377) (by decide +kernel), List.mem_of_getElem? (i := 1378) (by decide +kernel)⟩
theorem mv_Mo_207 : MV "PetalSetsModel" 207 m_Mo_isTight 1 := ⟨ok_Mo_isTight, List.mem_of_getElem? (i := 1380) (by decide +kernel), List.mem_of_getElem? (i := 1382) (by decide +kernel), List.mem_of_getElem? (i := 49) (by decide +kernel)⟩
theorem mv_Law_178 : MV "PetalSetsLaw" 178 m_Mo_greedy 1 := ⟨ok_Mo_greedy, List.mem_of_getElem? (i := 1384) (by decide +kernel), List.mem_of_getElem? (i := 1385) (by decide +kernel), List.mem_of_getElem? (i := 1386) (by decide +kernel)⟩
theorem mv_Law_182 : MV "PetalSetsLaw" 182 m_Mo_apart 1 := ⟨ok_Mo_apart, List.mem_of_getElem? (i := 1388) (by decide +kernel), List.mem_of_getElem? (i := 1389) (by decide +kernel), List.mem_of_getElem? (i := 1390) (by decide +kernel)⟩
theorem mv_Mo_210 : MV "PetalSetsModel" 210 m_Mo_unionApart 1 := ⟨ok_Mo_unionApart, List.mem_of_getElem? (i := 1392) (by decide +kernel), List.mem_of_getElem? (i := 1394) (by decide +kernel), List.mem_of_getElem? (i := 50) (by decide +kernel)⟩
theorem mv_Law_186 : MV "PetalSetsLaw" 186 m_Mo_exact 1 := ⟨ok_Mo_exact, List.mem_of_getElem? (i := 1396) (by decide +kernel), List.mem_of_getElem? (i := 1397) (by decide +kernel), List.mem_of_getElem? (i := 1398) (by decide +kernel)⟩
theorem mv_Law_190 : MV "PetalSetsLaw" 190 m_Mo_halves 1 := ⟨ok_Mo_halves, List.mem_of_getElem? (i := 1400) (by decide +kernel), List.mem_of_getElem? (i := 1401) (by decide +kernel), List.mem_of_getElem? (i := 1402) (by decide +kernel)⟩
theorem mv_Mo_213 : MV "PetalSetsModel" 213 m_Mo_halvesAll 1 := ⟨ok_Mo_halvesAll, List.mem_of_getElem? (i := 1404) (by decide +kernel), List.mem_of_getElem? (i := 1406) (by decide +kernel), List.mem_of_getElem? (i := 51) (by decide +kernel)⟩
theorem mv_Law_194 : MV "PetalSetsLaw" 194 m_Mo_kernel 2 := ⟨ok_Mo_kernel, List.mem_of_getElem? (i := 1408) (by decide +kernel), List.mem_of_getElem? (i := 1409) (by decide +kernel), List.mem_of_getElem? (i := 1410) (by decide +kernel)⟩
theorem mv_Mo_223 : MV "PetalSetsModel" 223 m_Mo_stepsOf 1 := ⟨ok_Mo_stepsOf, List.mem_of_getElem? (i := 1412) (by decide +kernel), List.mem_of_getElem? (i := 1414) (by decide +kernel), List.mem_of_getElem? (i := 52) (by decide +kernel)⟩
theorem mv_Law_198 : MV "PetalSetsLaw" 198 m_Mo_kernelSet 2 := ⟨ok_Mo_kernelSet, List.mem_of_getElem? (i := 1416) (by decide +kernel), List.mem_of_getElem? (i := 1417) (by decide +kernel), List.mem_of_getElem? (i := 1418) (by decide +kernel)⟩
theorem mv_Law_203 : MV "PetalSetsLaw" 203 m_Mo_step 3 := ⟨ok_Mo_step, List.mem_of_getElem? (i := 1420) (by decide +kernel), List.mem_of_getElem? (i := 1421) (by decide +kernel), List.mem_of_getElem? (i := 1422) (by decide +kernel)⟩
theorem mv_Law_207 : MV "PetalSetsLaw" 207 m_Mo_can 1 := ⟨ok_Mo_can, List.mem_of_getElem? (i := 1424) (by decide +kernel), List.mem_of_getElem? (i := 1425) (by decide +kernel), List.mem_of_getElem? (i := 1426) (by decide +kernel)⟩
theorem mv_Law_211 : MV "PetalSetsLaw" 211 m_Mo_link 2 := ⟨ok_Mo_link, List.mem_of_getElem? (i := 1428) (by decide +kernel), List.mem_of_getElem? (i := 1429) (by decide +kernel), List.mem_of_getElem? (i := 1430) (by decide +kernel)⟩
theorem mv_Mo_226 : MV "PetalSetsModel" 226 m_Mo_laysOne 1 := ⟨ok_Mo_laysOne, List.mem_of_getElem? (i := 1432) (by decide +kernel), List.mem_of_getElem? (i := 1434) (by decide +kernel), List.mem_of_getElem? (i := 53) (by decide +kernel)⟩
theorem mv_Mo_229 : MV "PetalSetsModel" 229 m_Mo_greatestOfRow 0 := ⟨ok_Mo_greatestOfRow, List.mem_of_getElem? (i := 1436) (by decide +kernel), List.mem_of_getElem? (i := 1438) (by decide +kernel), List.mem_of_getElem? (i := 54) (by decide +kernel)⟩
theorem mv_Law_215 : MV "PetalSetsLaw" 215 m_Mo_withSet 1 := ⟨ok_Mo_withSet, List.mem_of_getElem? (i := 1440) (by decide +kernel), List.mem_of_getElem? (i := 1441) (by decide +kernel), List.mem_of_getElem? (i := 1442) (by decide +kernel)⟩
theorem mv_Law_219 : MV "PetalSetsLaw" 219 m_Mo_withoutSet 1 := ⟨ok_Mo_withoutSet, List.mem_of_getElem? (i := 1444) (by decide +kernel), List.mem_of_getElem? (i := 1445) (by decide +kernel), List.mem_of_getElem? (i := 1446) (by decide +kernel)⟩
theorem mv_Law_223 : MV "PetalSetsLaw" 223 m_Mo_freeNext 1 := ⟨ok_Mo_freeNext, List.mem_of_getElem? (i := 1448) (by decide +kernel), List.mem_of_getElem? (i := 1449) (by decide +kernel), List.mem_of_getElem? (i := 1450) (by decide +kernel)⟩
theorem mv_Mo_235 : MV "PetalSetsModel" 235 m_Mo_laysSmall 1 := ⟨ok_Mo_laysSmall, List.mem_of_getElem? (i := 1452) (by decide +kernel), List.mem_of_getElem? (i := 1454) (by decide +kernel), List.mem_of_getElem? (i := 55) (by decide +kernel)⟩
theorem mv_Mo_238 : MV "PetalSetsModel" 238 m_Mo_isCatching 2 := ⟨ok_Mo_isCatching, List.mem_of_getElem? (i := 1456) (by decide +kernel), List.mem_of_getElem? (i := 1458) (by decide +kernel), List.mem_of_getElem? (i := 56) (by decide +kernel)⟩
theorem mv_Law_227 : MV "PetalSetsLaw" 227 m_Mo_spell 1 := ⟨ok_Mo_spell, List.mem_of_getElem? (i := 1460) (by decide +kernel), List.mem_of_getElem? (i := 1461) (by decide +kernel), List.mem_of_getElem? (i := 1462) (by decide +kernel)⟩
theorem mv_Mo_250 : MV "PetalSetsModel" 250 m_Mo_writesWord 1 := ⟨ok_Mo_writesWord, List.mem_of_getElem? (i := 1464) (by decide +kernel), List.mem_of_getElem? (i := 1466) (by decide +kernel), List.mem_of_getElem? (i := 57) (by decide +kernel)⟩
theorem mv_Mo_244 : MV "PetalSetsModel" 244 m_Mo_wordFrom 1 := ⟨ok_Mo_wordFrom, List.mem_of_getElem? (i := 1468) (by decide +kernel), List.mem_of_getElem? (i := 1470) (by decide +kernel), List.mem_of_getElem? (i := 58) (by decide +kernel)⟩
theorem mv_Mo_247 : MV "PetalSetsModel" 247 m_Mo_writes 1 := ⟨ok_Mo_writes, List.mem_of_getElem? (i := 1472) (by decide +kernel), List.mem_of_getElem? (i := 1474) (by decide +kernel), List.mem_of_getElem? (i := 59) (by decide +kernel)⟩
theorem mv_Mo_253 : MV "PetalSetsModel" 253 m_Mo_writesNumber 1 := ⟨ok_Mo_writesNumber, List.mem_of_getElem? (i := 1476) (by decide +kernel), List.mem_of_getElem? (i := 1478) (by decide +kernel), List.mem_of_getElem? (i := 60) (by decide +kernel)⟩
theorem mv_Mo_256 : MV "PetalSetsModel" 256 m_Mo_writesLetters 1 := ⟨ok_Mo_writesLetters, List.mem_of_getElem? (i := 1480) (by decide +kernel), List.mem_of_getElem? (i := 1482) (by decide +kernel), List.mem_of_getElem? (i := 61) (by decide +kernel)⟩
theorem mv_Mo_259 : MV "PetalSetsModel" 259 m_Mo_toldText 1 := ⟨ok_Mo_toldText, List.mem_of_getElem? (i := 1484) (by decide +kernel), List.mem_of_getElem? (i := 1486) (by decide +kernel), List.mem_of_getElem? (i := 62) (by decide +kernel)⟩
theorem mv_Law_231 : MV "PetalSetsLaw" 231 m_Mo_report 2 := ⟨ok_Mo_report, List.mem_of_getElem? (i := 1488) (by decide +kernel), List.mem_of_getElem? (i := 1489) (by decide +kernel), List.mem_of_getElem? (i := 1490) (by decide +kernel)⟩
theorem mv_Law_235 : MV "PetalSetsLaw" 235 m_Mo_count 1 := ⟨ok_Mo_count, List.mem_of_getElem? (i := 1492) (by decide +kernel), List.mem_of_getElem? (i := 1493) (by decide +kernel), List.mem_of_getElem? (i := 1494) (by decide +kernel)⟩
theorem mv_Mo_265 : MV "PetalSetsModel" 265 m_Mo_greatestSize 0 := ⟨ok_Mo_greatestSize, List.mem_of_getElem? (i := 1496) (by decide +kernel), List.mem_of_getElem? (i := 1498) (by decide +kernel), List.mem_of_getElem? (i := 63) (by decide +kernel)⟩
theorem mv_Mo_268 : MV "PetalSetsModel" 268 m_Mo_leastSize 0 := ⟨ok_Mo_leastSize, List.mem_of_getElem? (i := 1500) (by decide +kernel), List.mem_of_getElem? (i := 1502) (by decide +kernel), List.mem_of_getElem? (i := 64) (by decide +kernel)⟩
theorem mv_Law_17 : MV "PetalSetsLaw" 17 m_Mo_feed 5 := ⟨ok_Mo_feed, List.mem_of_getElem? (i := 1504) (by decide +kernel), List.mem_of_getElem? (i := 1505) (by decide +kernel), List.mem_of_getElem? (i := 1506) (by decide +kernel)⟩
theorem mv_Law_22 : MV "PetalSetsLaw" 22 m_Mo_back 1 := ⟨ok_Mo_back, List.mem_of_getElem? (i := 1508) (by decide +kernel), List.mem_of_getElem? (i := 1509) (by decide +kernel), List.mem_of_getElem? (i := 1510) (by decide +kernel)⟩
theorem mv_Law_27 : MV "PetalSetsLaw" 27 m_Mo_text 0 := ⟨ok_Mo_text, List.mem_of_getElem? (i := 1512) (by decide +kernel), List.mem_of_getElem? (i := 1513) (by decide +kernel), List.mem_of_getElem? (i := 1514) (by decide +kernel)⟩
theorem mv_Mo_289 : MV "PetalSetsModel" 289 m_Mo_goesOn 0 := ⟨ok_Mo_goesOn, List.mem_of_getElem? (i := 1516) (by decide +kernel), List.mem_of_getElem? (i := 1518) (by decide +kernel), List.mem_of_getElem? (i := 65) (by decide +kernel)⟩
theorem mv_Mo_277 : MV "PetalSetsModel" 277 m_Mo_here 0 := ⟨ok_Mo_here, List.mem_of_getElem? (i := 1520) (by decide +kernel), List.mem_of_getElem? (i := 1522) (by decide +kernel), List.mem_of_getElem? (i := 66) (by decide +kernel)⟩
theorem mv_Mo_301 : MV "PetalSetsModel" 301 m_Mo_readsOne 1 := ⟨ok_Mo_readsOne, List.mem_of_getElem? (i := 1524) (by decide +kernel), List.mem_of_getElem? (i := 1526) (by decide +kernel), List.mem_of_getElem? (i := 67) (by decide +kernel)⟩
theorem mv_Mo_292 : MV "PetalSetsModel" 292 m_Mo_takesWord 1 := ⟨ok_Mo_takesWord, List.mem_of_getElem? (i := 1528) (by decide +kernel), List.mem_of_getElem? (i := 1530) (by decide +kernel), List.mem_of_getElem? (i := 68) (by decide +kernel)⟩
theorem mv_Mo_295 : MV "PetalSetsModel" 295 m_Mo_readsPoints 0 := ⟨ok_Mo_readsPoints, List.mem_of_getElem? (i := 1532) (by decide +kernel), List.mem_of_getElem? (i := 1534) (by decide +kernel), List.mem_of_getElem? (i := 69) (by decide +kernel)⟩
theorem mv_Mo_298 : MV "PetalSetsModel" 298 m_Mo_readsSet 1 := ⟨ok_Mo_readsSet, List.mem_of_getElem? (i := 1536) (by decide +kernel), List.mem_of_getElem? (i := 1538) (by decide +kernel), List.mem_of_getElem? (i := 70) (by decide +kernel)⟩
