section
-- ===== PART A: goes FIRST, ahead of the names: the tables' words, and 'selects' of the private methods out of them =====
/-- a private method of a class that the tables say can be made, by its rows of tables_1 -/
def lw_okq (q : MethodName × Nat) : Prop := (q.1.cls ≠ "java/lang/invoke/MethodHandle" ∧ q.1.cls ≠ "java/lang/invoke/VarHandle") ∧ Cond.instantiable q.1.cls q.2 ∈ tables_1 ∧ Cond.privateMethod q.1 ∈ tables_1 ∧ Cond.instanceMethod q.1 ∈ tables_1
theorem lw_p0 : lw_okq (⟨"PetalSets$Reader", "skipBlanks", "(LPetalSets$Tape;)V"⟩, 1) := ⟨⟨by decide +kernel, by decide +kernel⟩, List.mem_of_getElem? (i := 92) (by decide +kernel), List.mem_of_getElem? (i := 280) (by decide +kernel), List.mem_of_getElem? (i := 281) (by decide +kernel)⟩
theorem lw_p1 : lw_okq (⟨"PetalSets$Reader", "isWord", "(LPetalSets$Tape;Ljava/lang/String;)Z"⟩, 1) := ⟨⟨by decide +kernel, by decide +kernel⟩, List.mem_of_getElem? (i := 92) (by decide +kernel), List.mem_of_getElem? (i := 293) (by decide +kernel), List.mem_of_getElem? (i := 294) (by decide +kernel)⟩
theorem lw_p2 : lw_okq (⟨"PetalSets$Reader", "readPoints", "(LPetalSets$Tape;LPetalSets$Family;)I"⟩, 1) := ⟨⟨by decide +kernel, by decide +kernel⟩, List.mem_of_getElem? (i := 92) (by decide +kernel), List.mem_of_getElem? (i := 350) (by decide +kernel), List.mem_of_getElem? (i := 351) (by decide +kernel)⟩
theorem lw_p3 : lw_okq (⟨"PetalSets$Reader", "readEnd", "(LPetalSets$Tape;)I"⟩, 1) := ⟨⟨by decide +kernel, by decide +kernel⟩, List.mem_of_getElem? (i := 92) (by decide +kernel), List.mem_of_getElem? (i := 358) (by decide +kernel), List.mem_of_getElem? (i := 359) (by decide +kernel)⟩
theorem lw_p4 : lw_okq (⟨"PetalSets$Reader", "readSet", "(LPetalSets$Tape;LPetalSets$Family;)I"⟩, 1) := ⟨⟨by decide +kernel, by decide +kernel⟩, List.mem_of_getElem? (i := 92) (by decide +kernel), List.mem_of_getElem? (i := 362) (by decide +kernel), List.mem_of_getElem? (i := 363) (by decide +kernel)⟩
theorem lw_p5 : lw_okq (⟨"PetalSets$Reader", "readLetters", "(LPetalSets$Tape;LPetalSets$Family;)I"⟩, 1) := ⟨⟨by decide +kernel, by decide +kernel⟩, List.mem_of_getElem? (i := 92) (by decide +kernel), List.mem_of_getElem? (i := 367) (by decide +kernel), List.mem_of_getElem? (i := 368) (by decide +kernel)⟩
theorem lw_p6 : lw_okq (⟨"PetalSets", "becomeIfChanged", "()I"⟩, 10) := ⟨⟨by decide +kernel, by decide +kernel⟩, List.mem_of_getElem? (i := 20) (by decide +kernel), List.mem_of_getElem? (i := 448) (by decide +kernel), List.mem_of_getElem? (i := 449) (by decide +kernel)⟩
theorem lw_p7 : lw_okq (⟨"PetalSets", "become", "()V"⟩, 10) := ⟨⟨by decide +kernel, by decide +kernel⟩, List.mem_of_getElem? (i := 20) (by decide +kernel), List.mem_of_getElem? (i := 452) (by decide +kernel), List.mem_of_getElem? (i := 453) (by decide +kernel)⟩
theorem lw_p8 : lw_okq (⟨"PetalSets", "letGo", "(I)I"⟩, 10) := ⟨⟨by decide +kernel, by decide +kernel⟩, List.mem_of_getElem? (i := 20) (by decide +kernel), List.mem_of_getElem? (i := 477) (by decide +kernel), List.mem_of_getElem? (i := 478) (by decide +kernel)⟩
theorem lw_p9 : lw_okq (⟨"PetalSets$Kernel", "takeStep", "(I)Z"⟩, 9) := ⟨⟨by decide +kernel, by decide +kernel⟩, List.mem_of_getElem? (i := 168) (by decide +kernel), List.mem_of_getElem? (i := 510) (by decide +kernel), List.mem_of_getElem? (i := 511) (by decide +kernel)⟩
theorem lw_p10 : lw_okq (⟨"PetalSets$Kernel", "firstWithInner", "()I"⟩, 9) := ⟨⟨by decide +kernel, by decide +kernel⟩, List.mem_of_getElem? (i := 168) (by decide +kernel), List.mem_of_getElem? (i := 514) (by decide +kernel), List.mem_of_getElem? (i := 515) (by decide +kernel)⟩
theorem lw_p11 : lw_okq (⟨"PetalSets$Kernel", "noteStep", "(III)V"⟩, 9) := ⟨⟨by decide +kernel, by decide +kernel⟩, List.mem_of_getElem? (i := 168) (by decide +kernel), List.mem_of_getElem? (i := 520) (by decide +kernel), List.mem_of_getElem? (i := 521) (by decide +kernel)⟩
theorem lw_p12 : lw_okq (⟨"PetalSets$Thinner", "fillFits", "(LPetalSets$Family;)V"⟩, 3) := ⟨⟨by decide +kernel, by decide +kernel⟩, List.mem_of_getElem? (i := 152) (by decide +kernel), List.mem_of_getElem? (i := 557) (by decide +kernel), List.mem_of_getElem? (i := 558) (by decide +kernel)⟩
theorem lw_p13 : lw_okq (⟨"PetalSets$Thinner", "choose", "(IIII)I"⟩, 3) := ⟨⟨by decide +kernel, by decide +kernel⟩, List.mem_of_getElem? (i := 152) (by decide +kernel), List.mem_of_getElem? (i := 564) (by decide +kernel), List.mem_of_getElem? (i := 565) (by decide +kernel)⟩
theorem lw_p14 : lw_okq (⟨"PetalSets$Thinner", "closes", "(III)Z"⟩, 3) := ⟨⟨by decide +kernel, by decide +kernel⟩, List.mem_of_getElem? (i := 152) (by decide +kernel), List.mem_of_getElem? (i := 568) (by decide +kernel), List.mem_of_getElem? (i := 569) (by decide +kernel)⟩
theorem lw_p15 : lw_okq (⟨"PetalSets", "partOf", "(I)I"⟩, 10) := ⟨⟨by decide +kernel, by decide +kernel⟩, List.mem_of_getElem? (i := 20) (by decide +kernel), List.mem_of_getElem? (i := 683) (by decide +kernel), List.mem_of_getElem? (i := 684) (by decide +kernel)⟩
def lw_privs_1 : List (MethodName × Nat) := [(⟨"PetalSets$Reader", "skipBlanks", "(LPetalSets$Tape;)V"⟩, 1), (⟨"PetalSets$Reader", "isWord", "(LPetalSets$Tape;Ljava/lang/String;)Z"⟩, 1), (⟨"PetalSets$Reader", "readPoints", "(LPetalSets$Tape;LPetalSets$Family;)I"⟩, 1), (⟨"PetalSets$Reader", "readEnd", "(LPetalSets$Tape;)I"⟩, 1), (⟨"PetalSets$Reader", "readSet", "(LPetalSets$Tape;LPetalSets$Family;)I"⟩, 1), (⟨"PetalSets$Reader", "readLetters", "(LPetalSets$Tape;LPetalSets$Family;)I"⟩, 1), (⟨"PetalSets", "becomeIfChanged", "()I"⟩, 10), (⟨"PetalSets", "become", "()V"⟩, 10), (⟨"PetalSets", "letGo", "(I)I"⟩, 10), (⟨"PetalSets$Kernel", "takeStep", "(I)Z"⟩, 9), (⟨"PetalSets$Kernel", "firstWithInner", "()I"⟩, 9), (⟨"PetalSets$Kernel", "noteStep", "(III)V"⟩, 9), (⟨"PetalSets$Thinner", "fillFits", "(LPetalSets$Family;)V"⟩, 3), (⟨"PetalSets$Thinner", "choose", "(IIII)I"⟩, 3), (⟨"PetalSets$Thinner", "closes", "(III)Z"⟩, 3), (⟨"PetalSets", "partOf", "(I)I"⟩, 10)]
theorem lw_r1 : ∀ q ∈ lw_privs_1, lw_okq q := List.forall_mem_cons.mpr ⟨lw_p0, List.forall_mem_cons.mpr ⟨lw_p1, List.forall_mem_cons.mpr ⟨lw_p2, List.forall_mem_cons.mpr ⟨lw_p3, List.forall_mem_cons.mpr ⟨lw_p4, List.forall_mem_cons.mpr ⟨lw_p5, List.forall_mem_cons.mpr ⟨lw_p6, List.forall_mem_cons.mpr ⟨lw_p7, List.forall_mem_cons.mpr ⟨lw_p8, List.forall_mem_cons.mpr ⟨lw_p9, List.forall_mem_cons.mpr ⟨lw_p10, List.forall_mem_cons.mpr ⟨lw_p11, List.forall_mem_cons.mpr ⟨lw_p12, List.forall_mem_cons.mpr ⟨lw_p13, List.forall_mem_cons.mpr ⟨lw_p14, List.forall_mem_cons.mpr ⟨lw_p15, fun _ h => absurd h List.not_mem_nil⟩⟩⟩⟩⟩⟩⟩⟩⟩⟩⟩⟩⟩⟩⟩⟩
theorem lw_p16 : lw_okq (⟨"PetalSets", "pointsAhead", "(I)I"⟩, 10) := ⟨⟨by decide +kernel, by decide +kernel⟩, List.mem_of_getElem? (i := 20) (by decide +kernel), List.mem_of_getElem? (i := 695) (by decide +kernel), List.mem_of_getElem? (i := 696) (by decide +kernel)⟩
theorem lw_p17 : lw_okq (⟨"PetalSets$Touch", "fillMarks", "(LPetalSets$Family;)V"⟩, 8) := ⟨⟨by decide +kernel, by decide +kernel⟩, List.mem_of_getElem? (i := 102) (by decide +kernel), List.mem_of_getElem? (i := 709) (by decide +kernel), List.mem_of_getElem? (i := 710) (by decide +kernel)⟩
theorem lw_p18 : lw_okq (⟨"PetalSets", "bestPoint", "(I)I"⟩, 10) := ⟨⟨by decide +kernel, by decide +kernel⟩, List.mem_of_getElem? (i := 20) (by decide +kernel), List.mem_of_getElem? (i := 779) (by decide +kernel), List.mem_of_getElem? (i := 780) (by decide +kernel)⟩
theorem lw_p19 : lw_okq (⟨"PetalSets$Cover", "coverRest", "(LPetalSets$Family;III)V"⟩, 2) := ⟨⟨by decide +kernel, by decide +kernel⟩, List.mem_of_getElem? (i := 137) (by decide +kernel), List.mem_of_getElem? (i := 797) (by decide +kernel), List.mem_of_getElem? (i := 798) (by decide +kernel)⟩
theorem lw_p20 : lw_okq (⟨"PetalSets$Page", "putByte", "(I)V"⟩, 2) := ⟨⟨by decide +kernel, by decide +kernel⟩, List.mem_of_getElem? (i := 211) (by decide +kernel), List.mem_of_getElem? (i := 867) (by decide +kernel), List.mem_of_getElem? (i := 868) (by decide +kernel)⟩
theorem lw_p21 : lw_okq (⟨"PetalSetsModel", "arePoints", "(I)Z"⟩, 33) := ⟨⟨by decide +kernel, by decide +kernel⟩, List.mem_of_getElem? (i := 917) (by decide +kernel), List.mem_of_getElem? (i := 1031) (by decide +kernel), List.mem_of_getElem? (i := 1032) (by decide +kernel)⟩
theorem lw_p22 : lw_okq (⟨"PetalSetsModel", "allPoints", "()I"⟩, 33) := ⟨⟨by decide +kernel, by decide +kernel⟩, List.mem_of_getElem? (i := 917) (by decide +kernel), List.mem_of_getElem? (i := 1035) (by decide +kernel), List.mem_of_getElem? (i := 1036) (by decide +kernel)⟩
theorem lw_p23 : lw_okq (⟨"PetalSetsModel", "isTold", "(I)Z"⟩, 33) := ⟨⟨by decide +kernel, by decide +kernel⟩, List.mem_of_getElem? (i := 917) (by decide +kernel), List.mem_of_getElem? (i := 1042) (by decide +kernel), List.mem_of_getElem? (i := 1043) (by decide +kernel)⟩
theorem lw_p24 : lw_okq (⟨"PetalSetsModel", "many", "()I"⟩, 33) := ⟨⟨by decide +kernel, by decide +kernel⟩, List.mem_of_getElem? (i := 917) (by decide +kernel), List.mem_of_getElem? (i := 1046) (by decide +kernel), List.mem_of_getElem? (i := 1047) (by decide +kernel)⟩
theorem lw_p25 : lw_okq (⟨"PetalSetsModel", "keeps", "()V"⟩, 33) := ⟨⟨by decide +kernel, by decide +kernel⟩, List.mem_of_getElem? (i := 917) (by decide +kernel), List.mem_of_getElem? (i := 1053) (by decide +kernel), List.mem_of_getElem? (i := 1054) (by decide +kernel)⟩
theorem lw_p26 : lw_okq (⟨"PetalSetsModel", "isThere", "(I)Z"⟩, 33) := ⟨⟨by decide +kernel, by decide +kernel⟩, List.mem_of_getElem? (i := 917) (by decide +kernel), List.mem_of_getElem? (i := 1061) (by decide +kernel), List.mem_of_getElem? (i := 1062) (by decide +kernel)⟩
theorem lw_p27 : lw_okq (⟨"PetalSetsModel", "its", "(I)I"⟩, 33) := ⟨⟨by decide +kernel, by decide +kernel⟩, List.mem_of_getElem? (i := 917) (by decide +kernel), List.mem_of_getElem? (i := 1069) (by decide +kernel), List.mem_of_getElem? (i := 1070) (by decide +kernel)⟩
theorem lw_p28 : lw_okq (⟨"PetalSetsModel", "isPoint", "(I)Z"⟩, 33) := ⟨⟨by decide +kernel, by decide +kernel⟩, List.mem_of_getElem? (i := 917) (by decide +kernel), List.mem_of_getElem? (i := 1077) (by decide +kernel), List.mem_of_getElem? (i := 1078) (by decide +kernel)⟩
theorem lw_p29 : lw_okq (⟨"PetalSetsModel", "wouldBegin", "()V"⟩, 33) := ⟨⟨by decide +kernel, by decide +kernel⟩, List.mem_of_getElem? (i := 917) (by decide +kernel), List.mem_of_getElem? (i := 1081) (by decide +kernel), List.mem_of_getElem? (i := 1082) (by decide +kernel)⟩
theorem lw_p30 : lw_okq (⟨"PetalSetsModel", "wouldHave", "(I)V"⟩, 33) := ⟨⟨by decide +kernel, by decide +kernel⟩, List.mem_of_getElem? (i := 917) (by decide +kernel), List.mem_of_getElem? (i := 1088) (by decide +kernel), List.mem_of_getElem? (i := 1089) (by decide +kernel)⟩
theorem lw_p31 : lw_okq (⟨"PetalSetsModel", "changes", "()I"⟩, 33) := ⟨⟨by decide +kernel, by decide +kernel⟩, List.mem_of_getElem? (i := 917) (by decide +kernel), List.mem_of_getElem? (i := 1092) (by decide +kernel), List.mem_of_getElem? (i := 1093) (by decide +kernel)⟩
def lw_privs_2 : List (MethodName × Nat) := [(⟨"PetalSets", "pointsAhead", "(I)I"⟩, 10), (⟨"PetalSets$Touch", "fillMarks", "(LPetalSets$Family;)V"⟩, 8), (⟨"PetalSets", "bestPoint", "(I)I"⟩, 10), (⟨"PetalSets$Cover", "coverRest", "(LPetalSets$Family;III)V"⟩, 2), (⟨"PetalSets$Page", "putByte", "(I)V"⟩, 2), (⟨"PetalSetsModel", "arePoints", "(I)Z"⟩, 33), (⟨"PetalSetsModel", "allPoints", "()I"⟩, 33), (⟨"PetalSetsModel", "isTold", "(I)Z"⟩, 33), (⟨"PetalSetsModel", "many", "()I"⟩, 33), (⟨"PetalSetsModel", "keeps", "()V"⟩, 33), (⟨"PetalSetsModel", "isThere", "(I)Z"⟩, 33), (⟨"PetalSetsModel", "its", "(I)I"⟩, 33), (⟨"PetalSetsModel", "isPoint", "(I)Z"⟩, 33), (⟨"PetalSetsModel", "wouldBegin", "()V"⟩, 33), (⟨"PetalSetsModel", "wouldHave", "(I)V"⟩, 33), (⟨"PetalSetsModel", "changes", "()I"⟩, 33)]
theorem lw_r2 : ∀ q ∈ lw_privs_2, lw_okq q := List.forall_mem_cons.mpr ⟨lw_p16, List.forall_mem_cons.mpr ⟨lw_p17, List.forall_mem_cons.mpr ⟨lw_p18, List.forall_mem_cons.mpr ⟨lw_p19, List.forall_mem_cons.mpr ⟨lw_p20, List.forall_mem_cons.mpr ⟨lw_p21, List.forall_mem_cons.mpr ⟨lw_p22, List.forall_mem_cons.mpr ⟨lw_p23, List.forall_mem_cons.mpr ⟨lw_p24, List.forall_mem_cons.mpr ⟨lw_p25, List.forall_mem_cons.mpr ⟨lw_p26, List.forall_mem_cons.mpr ⟨lw_p27, List.forall_mem_cons.mpr ⟨lw_p28, List.forall_mem_cons.mpr ⟨lw_p29, List.forall_mem_cons.mpr ⟨lw_p30, List.forall_mem_cons.mpr ⟨lw_p31, fun _ h => absurd h List.not_mem_nil⟩⟩⟩⟩⟩⟩⟩⟩⟩⟩⟩⟩⟩⟩⟩⟩
theorem lw_p32 : lw_okq (⟨"PetalSetsModel", "becomes", "()V"⟩, 33) := ⟨⟨by decide +kernel, by decide +kernel⟩, List.mem_of_getElem? (i := 917) (by decide +kernel), List.mem_of_getElem? (i := 1096) (by decide +kernel), List.mem_of_getElem? (i := 1097) (by decide +kernel)⟩
theorem lw_p33 : lw_okq (⟨"PetalSetsModel", "degreeOf", "(I)I"⟩, 33) := ⟨⟨by decide +kernel, by decide +kernel⟩, List.mem_of_getElem? (i := 917) (by decide +kernel), List.mem_of_getElem? (i := 1104) (by decide +kernel), List.mem_of_getElem? (i := 1105) (by decide +kernel)⟩
theorem lw_p34 : lw_okq (⟨"PetalSetsModel", "kernels", "(I)V"⟩, 33) := ⟨⟨by decide +kernel, by decide +kernel⟩, List.mem_of_getElem? (i := 917) (by decide +kernel), List.mem_of_getElem? (i := 1131) (by decide +kernel), List.mem_of_getElem? (i := 1132) (by decide +kernel)⟩
theorem lw_p35 : lw_okq (⟨"PetalSetsModel", "withinFirst", "()I"⟩, 33) := ⟨⟨by decide +kernel, by decide +kernel⟩, List.mem_of_getElem? (i := 917) (by decide +kernel), List.mem_of_getElem? (i := 1135) (by decide +kernel), List.mem_of_getElem? (i := 1136) (by decide +kernel)⟩
theorem lw_p36 : lw_okq (⟨"PetalSetsModel", "goes", "(III)V"⟩, 33) := ⟨⟨by decide +kernel, by decide +kernel⟩, List.mem_of_getElem? (i := 917) (by decide +kernel), List.mem_of_getElem? (i := 1142) (by decide +kernel), List.mem_of_getElem? (i := 1143) (by decide +kernel)⟩
theorem lw_p37 : lw_okq (⟨"PetalSetsModel", "firstOf", "(I)I"⟩, 33) := ⟨⟨by decide +kernel, by decide +kernel⟩, List.mem_of_getElem? (i := 917) (by decide +kernel), List.mem_of_getElem? (i := 1146) (by decide +kernel), List.mem_of_getElem? (i := 1147) (by decide +kernel)⟩
theorem lw_p38 : lw_okq (⟨"PetalSetsModel", "coreOf", "(I)I"⟩, 33) := ⟨⟨by decide +kernel, by decide +kernel⟩, List.mem_of_getElem? (i := 917) (by decide +kernel), List.mem_of_getElem? (i := 1153) (by decide +kernel), List.mem_of_getElem? (i := 1154) (by decide +kernel)⟩
theorem lw_p39 : lw_okq (⟨"PetalSetsModel", "mostFree", "(I)I"⟩, 33) := ⟨⟨by decide +kernel, by decide +kernel⟩, List.mem_of_getElem? (i := 917) (by decide +kernel), List.mem_of_getElem? (i := 1164) (by decide +kernel), List.mem_of_getElem? (i := 1165) (by decide +kernel)⟩
theorem lw_p40 : lw_okq (⟨"PetalSetsModel", "laysAll", "()V"⟩, 33) := ⟨⟨by decide +kernel, by decide +kernel⟩, List.mem_of_getElem? (i := 917) (by decide +kernel), List.mem_of_getElem? (i := 1168) (by decide +kernel), List.mem_of_getElem? (i := 1169) (by decide +kernel)⟩
theorem lw_p41 : lw_okq (⟨"PetalSetsModel", "havingAll", "(I)I"⟩, 33) := ⟨⟨by decide +kernel, by decide +kernel⟩, List.mem_of_getElem? (i := 917) (by decide +kernel), List.mem_of_getElem? (i := 1188) (by decide +kernel), List.mem_of_getElem? (i := 1189) (by decide +kernel)⟩
theorem lw_p42 : lw_okq (⟨"PetalSetsModel", "areNumbers", "(I)Z"⟩, 33) := ⟨⟨by decide +kernel, by decide +kernel⟩, List.mem_of_getElem? (i := 917) (by decide +kernel), List.mem_of_getElem? (i := 1196) (by decide +kernel), List.mem_of_getElem? (i := 1197) (by decide +kernel)⟩
theorem lw_p43 : lw_okq (⟨"PetalSetsModel", "greatestMany", "()I"⟩, 33) := ⟨⟨by decide +kernel, by decide +kernel⟩, List.mem_of_getElem? (i := 917) (by decide +kernel), List.mem_of_getElem? (i := 1208) (by decide +kernel), List.mem_of_getElem? (i := 1209) (by decide +kernel)⟩
theorem lw_p44 : lw_okq (⟨"PetalSetsModel", "allHad", "()I"⟩, 33) := ⟨⟨by decide +kernel, by decide +kernel⟩, List.mem_of_getElem? (i := 917) (by decide +kernel), List.mem_of_getElem? (i := 1248) (by decide +kernel), List.mem_of_getElem? (i := 1249) (by decide +kernel)⟩
theorem lw_p45 : lw_okq (⟨"PetalSetsModel", "firstDense", "(II)I"⟩, 33) := ⟨⟨by decide +kernel, by decide +kernel⟩, List.mem_of_getElem? (i := 917) (by decide +kernel), List.mem_of_getElem? (i := 1260) (by decide +kernel), List.mem_of_getElem? (i := 1261) (by decide +kernel)⟩
theorem lw_p46 : lw_okq (⟨"PetalSetsModel", "sizedMany", "(I)I"⟩, 33) := ⟨⟨by decide +kernel, by decide +kernel⟩, List.mem_of_getElem? (i := 917) (by decide +kernel), List.mem_of_getElem? (i := 1280) (by decide +kernel), List.mem_of_getElem? (i := 1281) (by decide +kernel)⟩
theorem lw_p47 : lw_okq (⟨"PetalSetsModel", "missedBy", "(I)I"⟩, 33) := ⟨⟨by decide +kernel, by decide +kernel⟩, List.mem_of_getElem? (i := 917) (by decide +kernel), List.mem_of_getElem? (i := 1288) (by decide +kernel), List.mem_of_getElem? (i := 1289) (by decide +kernel)⟩
def lw_privs_3 : List (MethodName × Nat) := [(⟨"PetalSetsModel", "becomes", "()V"⟩, 33), (⟨"PetalSetsModel", "degreeOf", "(I)I"⟩, 33), (⟨"PetalSetsModel", "kernels", "(I)V"⟩, 33), (⟨"PetalSetsModel", "withinFirst", "()I"⟩, 33), (⟨"PetalSetsModel", "goes", "(III)V"⟩, 33), (⟨"PetalSetsModel", "firstOf", "(I)I"⟩, 33), (⟨"PetalSetsModel", "coreOf", "(I)I"⟩, 33), (⟨"PetalSetsModel", "mostFree", "(I)I"⟩, 33), (⟨"PetalSetsModel", "laysAll", "()V"⟩, 33), (⟨"PetalSetsModel", "havingAll", "(I)I"⟩, 33), (⟨"PetalSetsModel", "areNumbers", "(I)Z"⟩, 33), (⟨"PetalSetsModel", "greatestMany", "()I"⟩, 33), (⟨"PetalSetsModel", "allHad", "()I"⟩, 33), (⟨"PetalSetsModel", "firstDense", "(II)I"⟩, 33), (⟨"PetalSetsModel", "sizedMany", "(I)I"⟩, 33), (⟨"PetalSetsModel", "missedBy", "(I)I"⟩, 33)]
theorem lw_r3 : ∀ q ∈ lw_privs_3, lw_okq q := List.forall_mem_cons.mpr ⟨lw_p32, List.forall_mem_cons.mpr ⟨lw_p33, List.forall_mem_cons.mpr ⟨lw_p34, List.forall_mem_cons.mpr ⟨lw_p35, List.forall_mem_cons.mpr ⟨lw_p36, List.forall_mem_cons.mpr ⟨lw_p37, List.forall_mem_cons.mpr ⟨lw_p38, List.forall_mem_cons.mpr ⟨lw_p39, List.forall_mem_cons.mpr ⟨lw_p40, List.forall_mem_cons.mpr ⟨lw_p41, List.forall_mem_cons.mpr ⟨lw_p42, List.forall_mem_cons.mpr ⟨lw_p43, List.forall_mem_cons.mpr ⟨lw_p44, List.forall_mem_cons.mpr ⟨lw_p45, List.forall_mem_cons.mpr ⟨lw_p46, List.forall_mem_cons.mpr ⟨lw_p47, fun _ h => absurd h List.not_mem_nil⟩⟩⟩⟩⟩⟩⟩⟩⟩⟩⟩⟩⟩⟩⟩⟩
theorem lw_p48 : lw_okq (⟨"PetalSetsModel", "fewestToHit", "()I"⟩, 33) := ⟨⟨by decide +kernel, by decide +kernel⟩, List.mem_of_getElem? (i := 917) (by decide +kernel), List.mem_of_getElem? (i := 1300) (by decide +kernel), List.mem_of_getElem? (i := 1301) (by decide +kernel)⟩
theorem lw_p49 : lw_okq (⟨"PetalSetsModel", "isTight", "(I)Z"⟩, 33) := ⟨⟨by decide +kernel, by decide +kernel⟩, List.mem_of_getElem? (i := 917) (by decide +kernel), List.mem_of_getElem? (i := 1308) (by decide +kernel), List.mem_of_getElem? (i := 1309) (by decide +kernel)⟩
theorem lw_p50 : lw_okq (⟨"PetalSetsModel", "unionApart", "(I)I"⟩, 33) := ⟨⟨by decide +kernel, by decide +kernel⟩, List.mem_of_getElem? (i := 917) (by decide +kernel), List.mem_of_getElem? (i := 1320) (by decide +kernel), List.mem_of_getElem? (i := 1321) (by decide +kernel)⟩
theorem lw_p51 : lw_okq (⟨"PetalSetsModel", "halvesAll", "(I)Z"⟩, 33) := ⟨⟨by decide +kernel, by decide +kernel⟩, List.mem_of_getElem? (i := 917) (by decide +kernel), List.mem_of_getElem? (i := 1332) (by decide +kernel), List.mem_of_getElem? (i := 1333) (by decide +kernel)⟩
theorem lw_p52 : lw_okq (⟨"PetalSetsModel", "stepsOf", "(I)I"⟩, 33) := ⟨⟨by decide +kernel, by decide +kernel⟩, List.mem_of_getElem? (i := 917) (by decide +kernel), List.mem_of_getElem? (i := 1340) (by decide +kernel), List.mem_of_getElem? (i := 1341) (by decide +kernel)⟩
theorem lw_p53 : lw_okq (⟨"PetalSetsModel", "laysOne", "(I)V"⟩, 33) := ⟨⟨by decide +kernel, by decide +kernel⟩, List.mem_of_getElem? (i := 917) (by decide +kernel), List.mem_of_getElem? (i := 1360) (by decide +kernel), List.mem_of_getElem? (i := 1361) (by decide +kernel)⟩
theorem lw_p54 : lw_okq (⟨"PetalSetsModel", "greatestOfRow", "()I"⟩, 33) := ⟨⟨by decide +kernel, by decide +kernel⟩, List.mem_of_getElem? (i := 917) (by decide +kernel), List.mem_of_getElem? (i := 1364) (by decide +kernel), List.mem_of_getElem? (i := 1365) (by decide +kernel)⟩
theorem lw_p55 : lw_okq (⟨"PetalSetsModel", "laysSmall", "(I)V"⟩, 33) := ⟨⟨by decide +kernel, by decide +kernel⟩, List.mem_of_getElem? (i := 917) (by decide +kernel), List.mem_of_getElem? (i := 1380) (by decide +kernel), List.mem_of_getElem? (i := 1381) (by decide +kernel)⟩
theorem lw_p56 : lw_okq (⟨"PetalSetsModel", "isCatching", "(II)Z"⟩, 33) := ⟨⟨by decide +kernel, by decide +kernel⟩, List.mem_of_getElem? (i := 917) (by decide +kernel), List.mem_of_getElem? (i := 1384) (by decide +kernel), List.mem_of_getElem? (i := 1385) (by decide +kernel)⟩
theorem lw_p57 : lw_okq (⟨"PetalSetsModel", "writesWord", "(I)V"⟩, 33) := ⟨⟨by decide +kernel, by decide +kernel⟩, List.mem_of_getElem? (i := 917) (by decide +kernel), List.mem_of_getElem? (i := 1392) (by decide +kernel), List.mem_of_getElem? (i := 1393) (by decide +kernel)⟩
theorem lw_p58 : lw_okq (⟨"PetalSetsModel", "wordFrom", "(I)I"⟩, 33) := ⟨⟨by decide +kernel, by decide +kernel⟩, List.mem_of_getElem? (i := 917) (by decide +kernel), List.mem_of_getElem? (i := 1396) (by decide +kernel), List.mem_of_getElem? (i := 1397) (by decide +kernel)⟩
theorem lw_p59 : lw_okq (⟨"PetalSetsModel", "writes", "(I)V"⟩, 33) := ⟨⟨by decide +kernel, by decide +kernel⟩, List.mem_of_getElem? (i := 917) (by decide +kernel), List.mem_of_getElem? (i := 1400) (by decide +kernel), List.mem_of_getElem? (i := 1401) (by decide +kernel)⟩
theorem lw_p60 : lw_okq (⟨"PetalSetsModel", "writesNumber", "(I)V"⟩, 33) := ⟨⟨by decide +kernel, by decide +kernel⟩, List.mem_of_getElem? (i := 917) (by decide +kernel), List.mem_of_getElem? (i := 1404) (by decide +kernel), List.mem_of_getElem? (i := 1405) (by decide +kernel)⟩
theorem lw_p61 : lw_okq (⟨"PetalSetsModel", "writesLetters", "(I)V"⟩, 33) := ⟨⟨by decide +kernel, by decide +kernel⟩, List.mem_of_getElem? (i := 917) (by decide +kernel), List.mem_of_getElem? (i := 1408) (by decide +kernel), List.mem_of_getElem? (i := 1409) (by decide +kernel)⟩
theorem lw_p62 : lw_okq (⟨"PetalSetsModel", "toldText", "(I)I"⟩, 33) := ⟨⟨by decide +kernel, by decide +kernel⟩, List.mem_of_getElem? (i := 917) (by decide +kernel), List.mem_of_getElem? (i := 1412) (by decide +kernel), List.mem_of_getElem? (i := 1413) (by decide +kernel)⟩
theorem lw_p63 : lw_okq (⟨"PetalSetsModel", "greatestSize", "()I"⟩, 33) := ⟨⟨by decide +kernel, by decide +kernel⟩, List.mem_of_getElem? (i := 917) (by decide +kernel), List.mem_of_getElem? (i := 1424) (by decide +kernel), List.mem_of_getElem? (i := 1425) (by decide +kernel)⟩
def lw_privs_4 : List (MethodName × Nat) := [(⟨"PetalSetsModel", "fewestToHit", "()I"⟩, 33), (⟨"PetalSetsModel", "isTight", "(I)Z"⟩, 33), (⟨"PetalSetsModel", "unionApart", "(I)I"⟩, 33), (⟨"PetalSetsModel", "halvesAll", "(I)Z"⟩, 33), (⟨"PetalSetsModel", "stepsOf", "(I)I"⟩, 33), (⟨"PetalSetsModel", "laysOne", "(I)V"⟩, 33), (⟨"PetalSetsModel", "greatestOfRow", "()I"⟩, 33), (⟨"PetalSetsModel", "laysSmall", "(I)V"⟩, 33), (⟨"PetalSetsModel", "isCatching", "(II)Z"⟩, 33), (⟨"PetalSetsModel", "writesWord", "(I)V"⟩, 33), (⟨"PetalSetsModel", "wordFrom", "(I)I"⟩, 33), (⟨"PetalSetsModel", "writes", "(I)V"⟩, 33), (⟨"PetalSetsModel", "writesNumber", "(I)V"⟩, 33), (⟨"PetalSetsModel", "writesLetters", "(I)V"⟩, 33), (⟨"PetalSetsModel", "toldText", "(I)I"⟩, 33), (⟨"PetalSetsModel", "greatestSize", "()I"⟩, 33)]
theorem lw_r4 : ∀ q ∈ lw_privs_4, lw_okq q := List.forall_mem_cons.mpr ⟨lw_p48, List.forall_mem_cons.mpr ⟨lw_p49, List.forall_mem_cons.mpr ⟨lw_p50, List.forall_mem_cons.mpr ⟨lw_p51, List.forall_mem_cons.mpr ⟨lw_p52, List.forall_mem_cons.mpr ⟨lw_p53, List.forall_mem_cons.mpr ⟨lw_p54, List.forall_mem_cons.mpr ⟨lw_p55, List.forall_mem_cons.mpr ⟨lw_p56, List.forall_mem_cons.mpr ⟨lw_p57, List.forall_mem_cons.mpr ⟨lw_p58, List.forall_mem_cons.mpr ⟨lw_p59, List.forall_mem_cons.mpr ⟨lw_p60, List.forall_mem_cons.mpr ⟨lw_p61, List.forall_mem_cons.mpr ⟨lw_p62, List.forall_mem_cons.mpr ⟨lw_p63, fun _ h => absurd h List.not_mem_nil⟩⟩⟩⟩⟩⟩⟩⟩⟩⟩⟩⟩⟩⟩⟩⟩
theorem lw_p64 : lw_okq (⟨"PetalSetsModel", "leastSize", "()I"⟩, 33) := ⟨⟨by decide +kernel, by decide +kernel⟩, List.mem_of_getElem? (i := 917) (by decide +kernel), List.mem_of_getElem? (i := 1428) (by decide +kernel), List.mem_of_getElem? (i := 1429) (by decide +kernel)⟩
theorem lw_p65 : lw_okq (⟨"PetalSetsModel", "goesOn", "()V"⟩, 33) := ⟨⟨by decide +kernel, by decide +kernel⟩, List.mem_of_getElem? (i := 917) (by decide +kernel), List.mem_of_getElem? (i := 1444) (by decide +kernel), List.mem_of_getElem? (i := 1445) (by decide +kernel)⟩
theorem lw_p66 : lw_okq (⟨"PetalSetsModel", "here", "()I"⟩, 33) := ⟨⟨by decide +kernel, by decide +kernel⟩, List.mem_of_getElem? (i := 917) (by decide +kernel), List.mem_of_getElem? (i := 1448) (by decide +kernel), List.mem_of_getElem? (i := 1449) (by decide +kernel)⟩
theorem lw_p67 : lw_okq (⟨"PetalSetsModel", "readsOne", "(Z)V"⟩, 33) := ⟨⟨by decide +kernel, by decide +kernel⟩, List.mem_of_getElem? (i := 917) (by decide +kernel), List.mem_of_getElem? (i := 1452) (by decide +kernel), List.mem_of_getElem? (i := 1453) (by decide +kernel)⟩
theorem lw_p68 : lw_okq (⟨"PetalSetsModel", "takesWord", "(I)Z"⟩, 33) := ⟨⟨by decide +kernel, by decide +kernel⟩, List.mem_of_getElem? (i := 917) (by decide +kernel), List.mem_of_getElem? (i := 1456) (by decide +kernel), List.mem_of_getElem? (i := 1457) (by decide +kernel)⟩
theorem lw_p69 : lw_okq (⟨"PetalSetsModel", "readsPoints", "()V"⟩, 33) := ⟨⟨by decide +kernel, by decide +kernel⟩, List.mem_of_getElem? (i := 917) (by decide +kernel), List.mem_of_getElem? (i := 1460) (by decide +kernel), List.mem_of_getElem? (i := 1461) (by decide +kernel)⟩
theorem lw_p70 : lw_okq (⟨"PetalSetsModel", "readsSet", "(I)V"⟩, 33) := ⟨⟨by decide +kernel, by decide +kernel⟩, List.mem_of_getElem? (i := 917) (by decide +kernel), List.mem_of_getElem? (i := 1464) (by decide +kernel), List.mem_of_getElem? (i := 1465) (by decide +kernel)⟩
def lw_privs_5 : List (MethodName × Nat) := [(⟨"PetalSetsModel", "leastSize", "()I"⟩, 33), (⟨"PetalSetsModel", "goesOn", "()V"⟩, 33), (⟨"PetalSetsModel", "here", "()I"⟩, 33), (⟨"PetalSetsModel", "readsOne", "(Z)V"⟩, 33), (⟨"PetalSetsModel", "takesWord", "(I)Z"⟩, 33), (⟨"PetalSetsModel", "readsPoints", "()V"⟩, 33), (⟨"PetalSetsModel", "readsSet", "(I)V"⟩, 33)]
theorem lw_r5 : ∀ q ∈ lw_privs_5, lw_okq q := List.forall_mem_cons.mpr ⟨lw_p64, List.forall_mem_cons.mpr ⟨lw_p65, List.forall_mem_cons.mpr ⟨lw_p66, List.forall_mem_cons.mpr ⟨lw_p67, List.forall_mem_cons.mpr ⟨lw_p68, List.forall_mem_cons.mpr ⟨lw_p69, List.forall_mem_cons.mpr ⟨lw_p70, fun _ h => absurd h List.not_mem_nil⟩⟩⟩⟩⟩⟩⟩
def lw_privs : List (MethodName × Nat) := lw_privs_1 ++ (lw_privs_2 ++ (lw_privs_3 ++ (lw_privs_4 ++ (lw_privs_5))))
def lw_tbl : List Cond := k2_sels lw_privs ++ tables_1
theorem lw_privs_ok : ∀ q ∈ lw_privs, lw_okq q := by
  show ∀ q ∈ lw_privs_1 ++ (lw_privs_2 ++ (lw_privs_3 ++ (lw_privs_4 ++ (lw_privs_5)))), lw_okq q
  exact List.forall_mem_append.mpr ⟨lw_r1, List.forall_mem_append.mpr ⟨lw_r2, List.forall_mem_append.mpr ⟨lw_r3, List.forall_mem_append.mpr ⟨lw_r4, lw_r5⟩⟩⟩⟩
end
section
def R_Cover : String := "PetalSets$Cover"
def T_Cover : u_T := fun k => match k with
  | 0 => ("PetalSets$Cover", "ways", "I", false)
  | _ => ("PetalSets$Cover", "least", "I", false)
def ty_Cover : Nat → FieldType := fun k => match k with
  | 0 => .int
  | _ => .int
def R_Family : String := "PetalSets$Family"
def T_Family : u_T := fun k => match k with
  | 0 => ("PetalSets$Family", "row", "[I", true)
  | 1 => ("PetalSets$Family", "size", "I", false)
  | _ => ("PetalSets$Family", "points", "I", false)
def ty_Family : Nat → FieldType := fun k => match k with
  | 0 => .array .int
  | 1 => .int
  | _ => .int
def R_History : String := "PetalSets$History"
def T_History : u_T := fun k => match k with
  | 0 => ("PetalSets$History", "sizes", "[I", true)
  | 1 => ("PetalSets$History", "rows", "[I", true)
  | 2 => ("PetalSets$History", "next", "I", false)
  | _ => ("PetalSets$History", "depth", "I", false)
def ty_History : Nat → FieldType := fun k => match k with
  | 0 => .array .int
  | 1 => .array .int
  | 2 => .int
  | _ => .int
def R_Kernel : String := "PetalSets$Kernel"
def T_Kernel : u_T := fun k => match k with
  | 0 => ("PetalSets$Kernel", "start", "LPetalSets$Family;", true)
  | 1 => ("PetalSets$Kernel", "sets", "LPetalSets$Family;", true)
  | 2 => ("PetalSets$Kernel", "kind", "[I", true)
  | 3 => ("PetalSets$Kernel", "went", "[I", true)
  | 4 => ("PetalSets$Kernel", "came", "[I", true)
  | 5 => ("PetalSets$Kernel", "left", "[I", true)
  | 6 => ("PetalSets$Kernel", "budget", "I", false)
  | 7 => ("PetalSets$Kernel", "steps", "I", false)
  | _ => ("PetalSets$Kernel", "lost", "Z", false)
def ty_Kernel : Nat → FieldType := fun k => match k with
  | 0 => .object "PetalSets$Family"
  | 1 => .object "PetalSets$Family"
  | 2 => .array .int
  | 3 => .array .int
  | 4 => .array .int
  | 5 => .array .int
  | 6 => .int
  | 7 => .int
  | _ => .boolean
def R_Page : String := "PetalSets$Page"
def T_Page : u_T := fun k => match k with
  | 0 => ("PetalSets$Page", "bytes", "[B", true)
  | _ => ("PetalSets$Page", "length", "I", false)
def ty_Page : Nat → FieldType := fun k => match k with
  | 0 => .array .byte
  | _ => .int
def R_Reader : String := "PetalSets$Reader"
def T_Reader : u_T := fun k => match k with
  | _ => ("PetalSets$Reader", "place", "I", false)
def ty_Reader : Nat → FieldType := fun k => match k with
  | _ => .int
def R_Tape : String := "PetalSets$Tape"
def T_Tape : u_T := fun k => match k with
  | 0 => ("PetalSets$Tape", "bytes", "[B", true)
  | _ => ("PetalSets$Tape", "length", "I", false)
def ty_Tape : Nat → FieldType := fun k => match k with
  | 0 => .array .byte
  | _ => .int
def R_Thinner : String := "PetalSets$Thinner"
def T_Thinner : u_T := fun k => match k with
  | 0 => ("PetalSets$Thinner", "best", "[I", true)
  | 1 => ("PetalSets$Thinner", "fits", "[I", true)
  | _ => ("PetalSets$Thinner", "size", "I", false)
def ty_Thinner : Nat → FieldType := fun k => match k with
  | 0 => .array .int
  | 1 => .array .int
  | _ => .int
def R_Touch : String := "PetalSets$Touch"
def T_Touch : u_T := fun k => match k with
  | 0 => ("PetalSets$Touch", "column", "[I", true)
  | 1 => ("PetalSets$Touch", "marks", "[I", true)
  | 2 => ("PetalSets$Touch", "allSets", "I", false)
  | 3 => ("PetalSets$Touch", "allPoints", "I", false)
  | 4 => ("PetalSets$Touch", "fewest", "I", false)
  | 5 => ("PetalSets$Touch", "first", "I", false)
  | 6 => ("PetalSets$Touch", "ways", "I", false)
  | _ => ("PetalSets$Touch", "shared", "I", false)
def ty_Touch : Nat → FieldType := fun k => match k with
  | 0 => .array .int
  | 1 => .array .int
  | 2 => .int
  | 3 => .int
  | 4 => .int
  | 5 => .int
  | 6 => .int
  | _ => .int
def R_PS : String := "PetalSets"
def T_PS : u_T := fun k => match k with
  | 0 => ("PetalSets", "now", "LPetalSets$Family;", true)
  | 1 => ("PetalSets", "spare", "LPetalSets$Family;", true)
  | 2 => ("PetalSets", "past", "LPetalSets$History;", true)
  | 3 => ("PetalSets", "tape", "LPetalSets$Tape;", true)
  | 4 => ("PetalSets", "reader", "LPetalSets$Reader;", true)
  | 5 => ("PetalSets", "touch", "LPetalSets$Touch;", true)
  | 6 => ("PetalSets", "cover", "LPetalSets$Cover;", true)
  | 7 => ("PetalSets", "thinner", "LPetalSets$Thinner;", true)
  | 8 => ("PetalSets", "kernels", "LPetalSets$Kernel;", true)
  | _ => ("PetalSets", "page", "LPetalSets$Page;", true)
def ty_PS : Nat → FieldType := fun k => match k with
  | 0 => .object "PetalSets$Family"
  | 1 => .object "PetalSets$Family"
  | 2 => .object "PetalSets$History"
  | 3 => .object "PetalSets$Tape"
  | 4 => .object "PetalSets$Reader"
  | 5 => .object "PetalSets$Touch"
  | 6 => .object "PetalSets$Cover"
  | 7 => .object "PetalSets$Thinner"
  | 8 => .object "PetalSets$Kernel"
  | _ => .object "PetalSets$Page"
def R_Mo : String := "PetalSetsModel"
def T_Mo : u_T := fun k => match k with
  | 0 => ("PetalSetsModel", "thrown", "I", false)
  | 1 => ("PetalSetsModel", "now", "[I", true)
  | 2 => ("PetalSetsModel", "read", "[I", true)
  | 3 => ("PetalSetsModel", "before", "[I", true)
  | 4 => ("PetalSetsModel", "acts", "I", false)
  | 5 => ("PetalSetsModel", "would", "[I", true)
  | 6 => ("PetalSetsModel", "wouldMany", "I", false)
  | 7 => ("PetalSetsModel", "row", "[I", true)
  | 8 => ("PetalSetsModel", "rowMany", "I", false)
  | 9 => ("PetalSetsModel", "greatestBits", "I", false)
  | 10 => ("PetalSetsModel", "seen", "[Z", true)
  | 11 => ("PetalSetsModel", "isCaught", "[Z", true)
  | 12 => ("PetalSetsModel", "kernel", "[I", true)
  | 13 => ("PetalSetsModel", "left", "I", false)
  | 14 => ("PetalSetsModel", "stepKind", "[I", true)
  | 15 => ("PetalSetsModel", "stepWent", "[I", true)
  | 16 => ("PetalSetsModel", "stepCame", "[I", true)
  | 17 => ("PetalSetsModel", "stepLeft", "[I", true)
  | 18 => ("PetalSetsModel", "steps", "I", false)
  | 19 => ("PetalSetsModel", "isLost", "Z", false)
  | 20 => ("PetalSetsModel", "smallCore", "[I", true)
  | 21 => ("PetalSetsModel", "smallUnion", "[I", true)
  | 22 => ("PetalSetsModel", "small", "I", false)
  | 23 => ("PetalSetsModel", "text", "[I", true)
  | 24 => ("PetalSetsModel", "textMany", "I", false)
  | 25 => ("PetalSetsModel", "tape", "[I", true)
  | 26 => ("PetalSetsModel", "taped", "I", false)
  | 27 => ("PetalSetsModel", "words", "[B", true)
  | 28 => ("PetalSetsModel", "spot", "I", false)
  | 29 => ("PetalSetsModel", "token", "I", false)
  | 30 => ("PetalSetsModel", "begun", "I", false)
  | 31 => ("PetalSetsModel", "number", "I", false)
  | _ => ("PetalSetsModel", "wrong", "Z", false)
def ty_Mo : Nat → FieldType := fun k => match k with
  | 0 => .int
  | 1 => .array .int
  | 2 => .array .int
  | 3 => .array .int
  | 4 => .int
  | 5 => .array .int
  | 6 => .int
  | 7 => .array .int
  | 8 => .int
  | 9 => .int
  | 10 => .array .boolean
  | 11 => .array .boolean
  | 12 => .array .int
  | 13 => .int
  | 14 => .array .int
  | 15 => .array .int
  | 16 => .array .int
  | 17 => .array .int
  | 18 => .int
  | 19 => .boolean
  | 20 => .array .int
  | 21 => .array .int
  | 22 => .int
  | 23 => .array .int
  | 24 => .int
  | 25 => .array .int
  | 26 => .int
  | 27 => .array .byte
  | 28 => .int
  | 29 => .int
  | 30 => .int
  | 31 => .int
  | _ => .boolean
abbrev vwCl : List vw_C := [(R_Cover, T_Cover, 2), (R_Family, T_Family, 3), (R_History, T_History, 4), (R_Kernel, T_Kernel, 9), (R_Page, T_Page, 2), (R_Reader, T_Reader, 1), (R_Tape, T_Tape, 2), (R_Thinner, T_Thinner, 3), (R_Touch, T_Touch, 8), (R_PS, T_PS, 10), (R_Mo, T_Mo, 33)]
/-- a class of the worlds: its fields lie as the tables say, their types, their names apart -/
def CK (q : vw_C) : Prop := (∀ w ∈ u_ws q.1 q.2.1 q.2.2, w ∈ lw_tbl) ∧ (∃ ty : Nat → FieldType, ∀ k, k < q.2.2 → parseFieldDescriptor (q.2.1 k).2.2.1 = some (ty k)) ∧ ∀ a, a < q.2.2 → ∀ b, b < q.2.2 → a ≠ b → (q.2.1 a).2.1 ≠ (q.2.1 b).2.1
theorem tbl_all {l : List Cond} (ps : List Nat) (h : l = ps.filterMap (fun i => lw_tbl[i]?)) : ∀ w ∈ l, w ∈ lw_tbl := by
  intro w hw
  rw [h] at hw
  obtain ⟨i, -, hi⟩ := List.mem_filterMap.mp hw
  exact List.mem_of_getElem? hi
set_option maxRecDepth 100000 in
theorem in_Cover : ∀ w ∈ u_ws R_Cover T_Cover 2, w ∈ lw_tbl := tbl_all [217, 219] (by decide +kernel)
theorem ck_Cover : CK (R_Cover, T_Cover, 2) := ⟨in_Cover, ⟨ty_Cover, by decide +kernel⟩, by decide +kernel⟩
set_option maxRecDepth 100000 in
theorem in_Family : ∀ w ∈ u_ws R_Family T_Family 3, w ∈ lw_tbl := tbl_all [118, 120, 122] (by decide +kernel)
theorem ck_Family : CK (R_Family, T_Family, 3) := ⟨in_Family, ⟨ty_Family, by decide +kernel⟩, by decide +kernel⟩
set_option maxRecDepth 100000 in
theorem in_History : ∀ w ∈ u_ws R_History T_History 4, w ∈ lw_tbl := tbl_all [137, 139, 141, 143] (by decide +kernel)
theorem ck_History : CK (R_History, T_History, 4) := ⟨in_History, ⟨ty_History, by decide +kernel⟩, by decide +kernel⟩
set_option maxRecDepth 100000 in
theorem in_Kernel : ∀ w ∈ u_ws R_Kernel T_Kernel 9, w ∈ lw_tbl := tbl_all [262, 264, 266, 268, 270, 272, 274, 276, 278] (by decide +kernel)
theorem ck_Kernel : CK (R_Kernel, T_Kernel, 9) := ⟨in_Kernel, ⟨ty_Kernel, by decide +kernel⟩, by decide +kernel⟩
set_option maxRecDepth 100000 in
theorem in_Page : ∀ w ∈ u_ws R_Page T_Page 2, w ∈ lw_tbl := tbl_all [290, 292] (by decide +kernel)
theorem ck_Page : CK (R_Page, T_Page, 2) := ⟨in_Page, ⟨ty_Page, by decide +kernel⟩, by decide +kernel⟩
set_option maxRecDepth 100000 in
theorem in_Reader : ∀ w ∈ u_ws R_Reader T_Reader 1, w ∈ lw_tbl := tbl_all [169] (by decide +kernel)
theorem ck_Reader : CK (R_Reader, T_Reader, 1) := ⟨in_Reader, ⟨ty_Reader, by decide +kernel⟩, by decide +kernel⟩
set_option maxRecDepth 100000 in
theorem in_Tape : ∀ w ∈ u_ws R_Tape T_Tape 2, w ∈ lw_tbl := tbl_all [156, 158] (by decide +kernel)
theorem ck_Tape : CK (R_Tape, T_Tape, 2) := ⟨in_Tape, ⟨ty_Tape, by decide +kernel⟩, by decide +kernel⟩
set_option maxRecDepth 100000 in
theorem in_Thinner : ∀ w ∈ u_ws R_Thinner T_Thinner 3, w ∈ lw_tbl := tbl_all [231, 233, 235] (by decide +kernel)
theorem ck_Thinner : CK (R_Thinner, T_Thinner, 3) := ⟨in_Thinner, ⟨ty_Thinner, by decide +kernel⟩, by decide +kernel⟩
set_option maxRecDepth 100000 in
theorem in_Touch : ∀ w ∈ u_ws R_Touch T_Touch 8, w ∈ lw_tbl := tbl_all [190, 192, 194, 196, 198, 200, 202, 204] (by decide +kernel)
theorem ck_Touch : CK (R_Touch, T_Touch, 8) := ⟨in_Touch, ⟨ty_Touch, by decide +kernel⟩, by decide +kernel⟩
set_option maxRecDepth 100000 in
theorem in_PS : ∀ w ∈ u_ws R_PS T_PS 10, w ∈ lw_tbl := tbl_all [305, 307, 309, 311, 313, 315, 317, 319, 321, 323] (by decide +kernel)
theorem ck_PS : CK (R_PS, T_PS, 10) := ⟨in_PS, ⟨ty_PS, by decide +kernel⟩, by decide +kernel⟩
set_option maxRecDepth 100000 in
theorem in_Mo : ∀ w ∈ u_ws R_Mo T_Mo 33, w ∈ lw_tbl := tbl_all [1029, 1031, 1033, 1035, 1037, 1039, 1041, 1043, 1045, 1047, 1049, 1051, 1053, 1055, 1057, 1059, 1061, 1063, 1065, 1067, 1069, 1071, 1073, 1075, 1077, 1079, 1081, 1083, 1085, 1087, 1089, 1091, 1093] (by decide +kernel)
theorem ck_Mo : CK (R_Mo, T_Mo, 33) := ⟨in_Mo, ⟨ty_Mo, by decide +kernel⟩, by decide +kernel⟩
theorem vwCl_ok : ∀ q ∈ vwCl, CK q := by
  intro q hq
  simp only [vwCl, List.mem_cons, List.not_mem_nil, or_false] at hq
  rcases hq with rfl | rfl | rfl | rfl | rfl | rfl | rfl | rfl | rfl | rfl | rfl
  · exact ck_Cover
  · exact ck_Family
  · exact ck_History
  · exact ck_Kernel
  · exact ck_Page
  · exact ck_Reader
  · exact ck_Tape
  · exact ck_Thinner
  · exact ck_Touch
  · exact ck_PS
  · exact ck_Mo
/-- pool entry idx of class own is field k of the world class ci -/
def FL (own : String) (idx ci k : Nat) : Prop := ∃ q : vw_C, vwCl[ci]? = some q ∧ k < q.2.2 ∧ Cond.fieldLink own idx (q.2.1 k).1 (q.2.1 k).2.1 (q.2.1 k).2.2.1 ∈ lw_tbl
def FP (own : String) (idx ci k : Nat) (ty : FieldType) : Prop := ∃ q : vw_C, vwCl[ci]? = some q ∧ k < q.2.2 ∧ Cond.fieldLink own idx (q.2.1 k).1 (q.2.1 k).2.1 (q.2.1 k).2.2.1 ∈ lw_tbl ∧ (q.2.1 k).2.2.2 = false ∧ parseFieldDescriptor (q.2.1 k).2.2.1 = some ty
theorem fl_Family_9 : FL "PetalSets$Family" 9 1 0 := ⟨_, rfl, by decide, List.mem_of_getElem? (i := 104) (by decide +kernel)⟩
theorem fl_PS_120 : FL "PetalSets" 120 1 0 := ⟨_, rfl, by decide, List.mem_of_getElem? (i := 105) (by decide +kernel)⟩
theorem fl_Petals_50 : FL "PetalSets$Petals" 50 1 0 := ⟨_, rfl, by decide, List.mem_of_getElem? (i := 106) (by decide +kernel)⟩
theorem fl_Family_15 : FL "PetalSets$Family" 15 1 1 := ⟨_, rfl, by decide, List.mem_of_getElem? (i := 107) (by decide +kernel)⟩
theorem fp_Family_15 : FP "PetalSets$Family" 15 1 1 .int := ⟨_, rfl, by decide, List.mem_of_getElem? (i := 107) (by decide +kernel), rfl, by decide +kernel⟩
theorem fl_Thinner_22 : FL "PetalSets$Thinner" 22 1 1 := ⟨_, rfl, by decide, List.mem_of_getElem? (i := 108) (by decide +kernel)⟩
theorem fp_Thinner_22 : FP "PetalSets$Thinner" 22 1 1 .int := ⟨_, rfl, by decide, List.mem_of_getElem? (i := 108) (by decide +kernel), rfl, by decide +kernel⟩
theorem fl_Petals_9 : FL "PetalSets$Petals" 9 1 1 := ⟨_, rfl, by decide, List.mem_of_getElem? (i := 109) (by decide +kernel)⟩
theorem fp_Petals_9 : FP "PetalSets$Petals" 9 1 1 .int := ⟨_, rfl, by decide, List.mem_of_getElem? (i := 109) (by decide +kernel), rfl, by decide +kernel⟩
theorem fl_History_25 : FL "PetalSets$History" 25 1 1 := ⟨_, rfl, by decide, List.mem_of_getElem? (i := 110) (by decide +kernel)⟩
theorem fp_History_25 : FP "PetalSets$History" 25 1 1 .int := ⟨_, rfl, by decide, List.mem_of_getElem? (i := 110) (by decide +kernel), rfl, by decide +kernel⟩
theorem fl_Cover_43 : FL "PetalSets$Cover" 43 1 1 := ⟨_, rfl, by decide, List.mem_of_getElem? (i := 111) (by decide +kernel)⟩
theorem fp_Cover_43 : FP "PetalSets$Cover" 43 1 1 .int := ⟨_, rfl, by decide, List.mem_of_getElem? (i := 111) (by decide +kernel), rfl, by decide +kernel⟩
theorem fl_Kernel_81 : FL "PetalSets$Kernel" 81 1 1 := ⟨_, rfl, by decide, List.mem_of_getElem? (i := 112) (by decide +kernel)⟩
theorem fp_Kernel_81 : FP "PetalSets$Kernel" 81 1 1 .int := ⟨_, rfl, by decide, List.mem_of_getElem? (i := 112) (by decide +kernel), rfl, by decide +kernel⟩
theorem fl_Reader_60 : FL "PetalSets$Reader" 60 1 1 := ⟨_, rfl, by decide, List.mem_of_getElem? (i := 113) (by decide +kernel)⟩
theorem fp_Reader_60 : FP "PetalSets$Reader" 60 1 1 .int := ⟨_, rfl, by decide, List.mem_of_getElem? (i := 113) (by decide +kernel), rfl, by decide +kernel⟩
theorem fl_PS_94 : FL "PetalSets" 94 1 1 := ⟨_, rfl, by decide, List.mem_of_getElem? (i := 114) (by decide +kernel)⟩
theorem fp_PS_94 : FP "PetalSets" 94 1 1 .int := ⟨_, rfl, by decide, List.mem_of_getElem? (i := 114) (by decide +kernel), rfl, by decide +kernel⟩
theorem fl_Family_19 : FL "PetalSets$Family" 19 1 2 := ⟨_, rfl, by decide, List.mem_of_getElem? (i := 115) (by decide +kernel)⟩
theorem fp_Family_19 : FP "PetalSets$Family" 19 1 2 .int := ⟨_, rfl, by decide, List.mem_of_getElem? (i := 115) (by decide +kernel), rfl, by decide +kernel⟩
theorem fl_History_43 : FL "PetalSets$History" 43 1 2 := ⟨_, rfl, by decide, List.mem_of_getElem? (i := 116) (by decide +kernel)⟩
theorem fp_History_43 : FP "PetalSets$History" 43 1 2 .int := ⟨_, rfl, by decide, List.mem_of_getElem? (i := 116) (by decide +kernel), rfl, by decide +kernel⟩
theorem fl_PS_127 : FL "PetalSets" 127 1 2 := ⟨_, rfl, by decide, List.mem_of_getElem? (i := 117) (by decide +kernel)⟩
theorem fp_PS_127 : FP "PetalSets" 127 1 2 .int := ⟨_, rfl, by decide, List.mem_of_getElem? (i := 117) (by decide +kernel), rfl, by decide +kernel⟩
theorem fl_History_9 : FL "PetalSets$History" 9 2 0 := ⟨_, rfl, by decide, List.mem_of_getElem? (i := 132) (by decide +kernel)⟩
theorem fl_History_15 : FL "PetalSets$History" 15 2 1 := ⟨_, rfl, by decide, List.mem_of_getElem? (i := 133) (by decide +kernel)⟩
theorem fl_History_18 : FL "PetalSets$History" 18 2 2 := ⟨_, rfl, by decide, List.mem_of_getElem? (i := 134) (by decide +kernel)⟩
theorem fp_History_18 : FP "PetalSets$History" 18 2 2 .int := ⟨_, rfl, by decide, List.mem_of_getElem? (i := 134) (by decide +kernel), rfl, by decide +kernel⟩
theorem fl_History_22 : FL "PetalSets$History" 22 2 3 := ⟨_, rfl, by decide, List.mem_of_getElem? (i := 135) (by decide +kernel)⟩
theorem fp_History_22 : FP "PetalSets$History" 22 2 3 .int := ⟨_, rfl, by decide, List.mem_of_getElem? (i := 135) (by decide +kernel), rfl, by decide +kernel⟩
theorem fl_PS_184 : FL "PetalSets" 184 2 3 := ⟨_, rfl, by decide, List.mem_of_getElem? (i := 136) (by decide +kernel)⟩
theorem fp_PS_184 : FP "PetalSets" 184 2 3 .int := ⟨_, rfl, by decide, List.mem_of_getElem? (i := 136) (by decide +kernel), rfl, by decide +kernel⟩
theorem fl_Tape_9 : FL "PetalSets$Tape" 9 6 0 := ⟨_, rfl, by decide, List.mem_of_getElem? (i := 152) (by decide +kernel)⟩
theorem fl_Tape_15 : FL "PetalSets$Tape" 15 6 1 := ⟨_, rfl, by decide, List.mem_of_getElem? (i := 153) (by decide +kernel)⟩
theorem fp_Tape_15 : FP "PetalSets$Tape" 15 6 1 .int := ⟨_, rfl, by decide, List.mem_of_getElem? (i := 153) (by decide +kernel), rfl, by decide +kernel⟩
theorem fl_PS_75 : FL "PetalSets" 75 6 1 := ⟨_, rfl, by decide, List.mem_of_getElem? (i := 154) (by decide +kernel)⟩
theorem fp_PS_75 : FP "PetalSets" 75 6 1 .int := ⟨_, rfl, by decide, List.mem_of_getElem? (i := 154) (by decide +kernel), rfl, by decide +kernel⟩
theorem fl_Reader_35 : FL "PetalSets$Reader" 35 6 1 := ⟨_, rfl, by decide, List.mem_of_getElem? (i := 155) (by decide +kernel)⟩
theorem fp_Reader_35 : FP "PetalSets$Reader" 35 6 1 .int := ⟨_, rfl, by decide, List.mem_of_getElem? (i := 155) (by decide +kernel), rfl, by decide +kernel⟩
theorem fl_Reader_9 : FL "PetalSets$Reader" 9 5 0 := ⟨_, rfl, by decide, List.mem_of_getElem? (i := 168) (by decide +kernel)⟩
theorem fp_Reader_9 : FP "PetalSets$Reader" 9 5 0 .int := ⟨_, rfl, by decide, List.mem_of_getElem? (i := 168) (by decide +kernel), rfl, by decide +kernel⟩
theorem fl_Touch_9 : FL "PetalSets$Touch" 9 8 0 := ⟨_, rfl, by decide, List.mem_of_getElem? (i := 178) (by decide +kernel)⟩
theorem fl_Touch_15 : FL "PetalSets$Touch" 15 8 1 := ⟨_, rfl, by decide, List.mem_of_getElem? (i := 179) (by decide +kernel)⟩
theorem fl_Touch_18 : FL "PetalSets$Touch" 18 8 2 := ⟨_, rfl, by decide, List.mem_of_getElem? (i := 180) (by decide +kernel)⟩
theorem fp_Touch_18 : FP "PetalSets$Touch" 18 8 2 .int := ⟨_, rfl, by decide, List.mem_of_getElem? (i := 180) (by decide +kernel), rfl, by decide +kernel⟩
theorem fl_Touch_22 : FL "PetalSets$Touch" 22 8 3 := ⟨_, rfl, by decide, List.mem_of_getElem? (i := 181) (by decide +kernel)⟩
theorem fp_Touch_22 : FP "PetalSets$Touch" 22 8 3 .int := ⟨_, rfl, by decide, List.mem_of_getElem? (i := 181) (by decide +kernel), rfl, by decide +kernel⟩
theorem fl_Touch_25 : FL "PetalSets$Touch" 25 8 4 := ⟨_, rfl, by decide, List.mem_of_getElem? (i := 182) (by decide +kernel)⟩
theorem fp_Touch_25 : FP "PetalSets$Touch" 25 8 4 .int := ⟨_, rfl, by decide, List.mem_of_getElem? (i := 182) (by decide +kernel), rfl, by decide +kernel⟩
theorem fl_PS_261 : FL "PetalSets" 261 8 4 := ⟨_, rfl, by decide, List.mem_of_getElem? (i := 183) (by decide +kernel)⟩
theorem fp_PS_261 : FP "PetalSets" 261 8 4 .int := ⟨_, rfl, by decide, List.mem_of_getElem? (i := 183) (by decide +kernel), rfl, by decide +kernel⟩
theorem fl_Touch_28 : FL "PetalSets$Touch" 28 8 5 := ⟨_, rfl, by decide, List.mem_of_getElem? (i := 184) (by decide +kernel)⟩
theorem fp_Touch_28 : FP "PetalSets$Touch" 28 8 5 .int := ⟨_, rfl, by decide, List.mem_of_getElem? (i := 184) (by decide +kernel), rfl, by decide +kernel⟩
theorem fl_PS_264 : FL "PetalSets" 264 8 5 := ⟨_, rfl, by decide, List.mem_of_getElem? (i := 185) (by decide +kernel)⟩
theorem fp_PS_264 : FP "PetalSets" 264 8 5 .int := ⟨_, rfl, by decide, List.mem_of_getElem? (i := 185) (by decide +kernel), rfl, by decide +kernel⟩
theorem fl_Touch_31 : FL "PetalSets$Touch" 31 8 6 := ⟨_, rfl, by decide, List.mem_of_getElem? (i := 186) (by decide +kernel)⟩
theorem fp_Touch_31 : FP "PetalSets$Touch" 31 8 6 .int := ⟨_, rfl, by decide, List.mem_of_getElem? (i := 186) (by decide +kernel), rfl, by decide +kernel⟩
theorem fl_PS_267 : FL "PetalSets" 267 8 6 := ⟨_, rfl, by decide, List.mem_of_getElem? (i := 187) (by decide +kernel)⟩
theorem fp_PS_267 : FP "PetalSets" 267 8 6 .int := ⟨_, rfl, by decide, List.mem_of_getElem? (i := 187) (by decide +kernel), rfl, by decide +kernel⟩
theorem fl_Touch_34 : FL "PetalSets$Touch" 34 8 7 := ⟨_, rfl, by decide, List.mem_of_getElem? (i := 188) (by decide +kernel)⟩
theorem fp_Touch_34 : FP "PetalSets$Touch" 34 8 7 .int := ⟨_, rfl, by decide, List.mem_of_getElem? (i := 188) (by decide +kernel), rfl, by decide +kernel⟩
theorem fl_PS_270 : FL "PetalSets" 270 8 7 := ⟨_, rfl, by decide, List.mem_of_getElem? (i := 189) (by decide +kernel)⟩
theorem fp_PS_270 : FP "PetalSets" 270 8 7 .int := ⟨_, rfl, by decide, List.mem_of_getElem? (i := 189) (by decide +kernel), rfl, by decide +kernel⟩
theorem fl_Cover_9 : FL "PetalSets$Cover" 9 0 0 := ⟨_, rfl, by decide, List.mem_of_getElem? (i := 213) (by decide +kernel)⟩
theorem fp_Cover_9 : FP "PetalSets$Cover" 9 0 0 .int := ⟨_, rfl, by decide, List.mem_of_getElem? (i := 213) (by decide +kernel), rfl, by decide +kernel⟩
theorem fl_PS_281 : FL "PetalSets" 281 0 0 := ⟨_, rfl, by decide, List.mem_of_getElem? (i := 214) (by decide +kernel)⟩
theorem fp_PS_281 : FP "PetalSets" 281 0 0 .int := ⟨_, rfl, by decide, List.mem_of_getElem? (i := 214) (by decide +kernel), rfl, by decide +kernel⟩
theorem fl_Cover_15 : FL "PetalSets$Cover" 15 0 1 := ⟨_, rfl, by decide, List.mem_of_getElem? (i := 215) (by decide +kernel)⟩
theorem fp_Cover_15 : FP "PetalSets$Cover" 15 0 1 .int := ⟨_, rfl, by decide, List.mem_of_getElem? (i := 215) (by decide +kernel), rfl, by decide +kernel⟩
theorem fl_PS_282 : FL "PetalSets" 282 0 1 := ⟨_, rfl, by decide, List.mem_of_getElem? (i := 216) (by decide +kernel)⟩
theorem fp_PS_282 : FP "PetalSets" 282 0 1 .int := ⟨_, rfl, by decide, List.mem_of_getElem? (i := 216) (by decide +kernel), rfl, by decide +kernel⟩
theorem fl_Thinner_9 : FL "PetalSets$Thinner" 9 7 0 := ⟨_, rfl, by decide, List.mem_of_getElem? (i := 228) (by decide +kernel)⟩
theorem fl_Thinner_15 : FL "PetalSets$Thinner" 15 7 1 := ⟨_, rfl, by decide, List.mem_of_getElem? (i := 229) (by decide +kernel)⟩
theorem fl_Thinner_18 : FL "PetalSets$Thinner" 18 7 2 := ⟨_, rfl, by decide, List.mem_of_getElem? (i := 230) (by decide +kernel)⟩
theorem fp_Thinner_18 : FP "PetalSets$Thinner" 18 7 2 .int := ⟨_, rfl, by decide, List.mem_of_getElem? (i := 230) (by decide +kernel), rfl, by decide +kernel⟩
theorem fl_Kernel_12 : FL "PetalSets$Kernel" 12 3 0 := ⟨_, rfl, by decide, List.mem_of_getElem? (i := 246) (by decide +kernel)⟩
theorem fl_Kernel_18 : FL "PetalSets$Kernel" 18 3 1 := ⟨_, rfl, by decide, List.mem_of_getElem? (i := 247) (by decide +kernel)⟩
theorem fl_PS_174 : FL "PetalSets" 174 3 1 := ⟨_, rfl, by decide, List.mem_of_getElem? (i := 248) (by decide +kernel)⟩
theorem fl_Kernel_21 : FL "PetalSets$Kernel" 21 3 2 := ⟨_, rfl, by decide, List.mem_of_getElem? (i := 249) (by decide +kernel)⟩
theorem fl_PS_294 : FL "PetalSets" 294 3 2 := ⟨_, rfl, by decide, List.mem_of_getElem? (i := 250) (by decide +kernel)⟩
theorem fl_Kernel_25 : FL "PetalSets$Kernel" 25 3 3 := ⟨_, rfl, by decide, List.mem_of_getElem? (i := 251) (by decide +kernel)⟩
theorem fl_PS_297 : FL "PetalSets" 297 3 3 := ⟨_, rfl, by decide, List.mem_of_getElem? (i := 252) (by decide +kernel)⟩
theorem fl_Kernel_28 : FL "PetalSets$Kernel" 28 3 4 := ⟨_, rfl, by decide, List.mem_of_getElem? (i := 253) (by decide +kernel)⟩
theorem fl_PS_300 : FL "PetalSets" 300 3 4 := ⟨_, rfl, by decide, List.mem_of_getElem? (i := 254) (by decide +kernel)⟩
theorem fl_Kernel_31 : FL "PetalSets$Kernel" 31 3 5 := ⟨_, rfl, by decide, List.mem_of_getElem? (i := 255) (by decide +kernel)⟩
theorem fl_PS_303 : FL "PetalSets" 303 3 5 := ⟨_, rfl, by decide, List.mem_of_getElem? (i := 256) (by decide +kernel)⟩
theorem fl_Kernel_34 : FL "PetalSets$Kernel" 34 3 6 := ⟨_, rfl, by decide, List.mem_of_getElem? (i := 257) (by decide +kernel)⟩
theorem fp_Kernel_34 : FP "PetalSets$Kernel" 34 3 6 .int := ⟨_, rfl, by decide, List.mem_of_getElem? (i := 257) (by decide +kernel), rfl, by decide +kernel⟩
theorem fl_Kernel_38 : FL "PetalSets$Kernel" 38 3 7 := ⟨_, rfl, by decide, List.mem_of_getElem? (i := 258) (by decide +kernel)⟩
theorem fp_Kernel_38 : FP "PetalSets$Kernel" 38 3 7 .int := ⟨_, rfl, by decide, List.mem_of_getElem? (i := 258) (by decide +kernel), rfl, by decide +kernel⟩
theorem fl_PS_171 : FL "PetalSets" 171 3 7 := ⟨_, rfl, by decide, List.mem_of_getElem? (i := 259) (by decide +kernel)⟩
theorem fp_PS_171 : FP "PetalSets" 171 3 7 .int := ⟨_, rfl, by decide, List.mem_of_getElem? (i := 259) (by decide +kernel), rfl, by decide +kernel⟩
theorem fl_Kernel_41 : FL "PetalSets$Kernel" 41 3 8 := ⟨_, rfl, by decide, List.mem_of_getElem? (i := 260) (by decide +kernel)⟩
theorem fp_Kernel_41 : FP "PetalSets$Kernel" 41 3 8 .boolean := ⟨_, rfl, by decide, List.mem_of_getElem? (i := 260) (by decide +kernel), rfl, by decide +kernel⟩
theorem fl_PS_167 : FL "PetalSets" 167 3 8 := ⟨_, rfl, by decide, List.mem_of_getElem? (i := 261) (by decide +kernel)⟩
theorem fp_PS_167 : FP "PetalSets" 167 3 8 .boolean := ⟨_, rfl, by decide, List.mem_of_getElem? (i := 261) (by decide +kernel), rfl, by decide +kernel⟩
theorem fl_Page_9 : FL "PetalSets$Page" 9 4 0 := ⟨_, rfl, by decide, List.mem_of_getElem? (i := 287) (by decide +kernel)⟩
theorem fl_Page_15 : FL "PetalSets$Page" 15 4 1 := ⟨_, rfl, by decide, List.mem_of_getElem? (i := 288) (by decide +kernel)⟩
theorem fp_Page_15 : FP "PetalSets$Page" 15 4 1 .int := ⟨_, rfl, by decide, List.mem_of_getElem? (i := 288) (by decide +kernel), rfl, by decide +kernel⟩
theorem fl_PS_312 : FL "PetalSets" 312 4 1 := ⟨_, rfl, by decide, List.mem_of_getElem? (i := 289) (by decide +kernel)⟩
theorem fp_PS_312 : FP "PetalSets" 312 4 1 .int := ⟨_, rfl, by decide, List.mem_of_getElem? (i := 289) (by decide +kernel), rfl, by decide +kernel⟩
theorem fl_PS_10 : FL "PetalSets" 10 9 0 := ⟨_, rfl, by decide, List.mem_of_getElem? (i := 295) (by decide +kernel)⟩
theorem fl_PS_16 : FL "PetalSets" 16 9 1 := ⟨_, rfl, by decide, List.mem_of_getElem? (i := 296) (by decide +kernel)⟩
theorem fl_PS_22 : FL "PetalSets" 22 9 2 := ⟨_, rfl, by decide, List.mem_of_getElem? (i := 297) (by decide +kernel)⟩
theorem fl_PS_29 : FL "PetalSets" 29 9 3 := ⟨_, rfl, by decide, List.mem_of_getElem? (i := 298) (by decide +kernel)⟩
theorem fl_PS_36 : FL "PetalSets" 36 9 4 := ⟨_, rfl, by decide, List.mem_of_getElem? (i := 299) (by decide +kernel)⟩
theorem fl_PS_43 : FL "PetalSets" 43 9 5 := ⟨_, rfl, by decide, List.mem_of_getElem? (i := 300) (by decide +kernel)⟩
theorem fl_PS_50 : FL "PetalSets" 50 9 6 := ⟨_, rfl, by decide, List.mem_of_getElem? (i := 301) (by decide +kernel)⟩
theorem fl_PS_57 : FL "PetalSets" 57 9 7 := ⟨_, rfl, by decide, List.mem_of_getElem? (i := 302) (by decide +kernel)⟩
theorem fl_PS_64 : FL "PetalSets" 64 9 8 := ⟨_, rfl, by decide, List.mem_of_getElem? (i := 303) (by decide +kernel)⟩
theorem fl_PS_71 : FL "PetalSets" 71 9 9 := ⟨_, rfl, by decide, List.mem_of_getElem? (i := 304) (by decide +kernel)⟩
theorem fl_Mo_13 : FL "PetalSetsModel" 13 10 1 := ⟨_, rfl, by decide, List.mem_of_getElem? (i := 997) (by decide +kernel)⟩
theorem fl_Mo_17 : FL "PetalSetsModel" 17 10 2 := ⟨_, rfl, by decide, List.mem_of_getElem? (i := 998) (by decide +kernel)⟩
theorem fl_Mo_20 : FL "PetalSetsModel" 20 10 3 := ⟨_, rfl, by decide, List.mem_of_getElem? (i := 999) (by decide +kernel)⟩
theorem fl_Mo_72 : FL "PetalSetsModel" 72 10 4 := ⟨_, rfl, by decide, List.mem_of_getElem? (i := 1000) (by decide +kernel)⟩
theorem fp_Mo_72 : FP "PetalSetsModel" 72 10 4 .int := ⟨_, rfl, by decide, List.mem_of_getElem? (i := 1000) (by decide +kernel), rfl, by decide +kernel⟩
theorem fl_Mo_23 : FL "PetalSetsModel" 23 10 5 := ⟨_, rfl, by decide, List.mem_of_getElem? (i := 1001) (by decide +kernel)⟩
theorem fl_Mo_107 : FL "PetalSetsModel" 107 10 6 := ⟨_, rfl, by decide, List.mem_of_getElem? (i := 1002) (by decide +kernel)⟩
theorem fp_Mo_107 : FP "PetalSetsModel" 107 10 6 .int := ⟨_, rfl, by decide, List.mem_of_getElem? (i := 1002) (by decide +kernel), rfl, by decide +kernel⟩
theorem fl_Mo_26 : FL "PetalSetsModel" 26 10 7 := ⟨_, rfl, by decide, List.mem_of_getElem? (i := 1003) (by decide +kernel)⟩
theorem fl_Mo_164 : FL "PetalSetsModel" 164 10 8 := ⟨_, rfl, by decide, List.mem_of_getElem? (i := 1004) (by decide +kernel)⟩
theorem fp_Mo_164 : FP "PetalSetsModel" 164 10 8 .int := ⟨_, rfl, by decide, List.mem_of_getElem? (i := 1004) (by decide +kernel), rfl, by decide +kernel⟩
theorem fl_Mo_167 : FL "PetalSetsModel" 167 10 9 := ⟨_, rfl, by decide, List.mem_of_getElem? (i := 1005) (by decide +kernel)⟩
theorem fp_Mo_167 : FP "PetalSetsModel" 167 10 9 .int := ⟨_, rfl, by decide, List.mem_of_getElem? (i := 1005) (by decide +kernel), rfl, by decide +kernel⟩
theorem fl_Mo_29 : FL "PetalSetsModel" 29 10 10 := ⟨_, rfl, by decide, List.mem_of_getElem? (i := 1006) (by decide +kernel)⟩
theorem fl_Mo_34 : FL "PetalSetsModel" 34 10 11 := ⟨_, rfl, by decide, List.mem_of_getElem? (i := 1007) (by decide +kernel)⟩
theorem fl_Mo_37 : FL "PetalSetsModel" 37 10 12 := ⟨_, rfl, by decide, List.mem_of_getElem? (i := 1008) (by decide +kernel)⟩
theorem fl_Mo_146 : FL "PetalSetsModel" 146 10 13 := ⟨_, rfl, by decide, List.mem_of_getElem? (i := 1009) (by decide +kernel)⟩
theorem fp_Mo_146 : FP "PetalSetsModel" 146 10 13 .int := ⟨_, rfl, by decide, List.mem_of_getElem? (i := 1009) (by decide +kernel), rfl, by decide +kernel⟩
theorem fl_Mo_40 : FL "PetalSetsModel" 40 10 14 := ⟨_, rfl, by decide, List.mem_of_getElem? (i := 1010) (by decide +kernel)⟩
theorem fl_Mo_43 : FL "PetalSetsModel" 43 10 15 := ⟨_, rfl, by decide, List.mem_of_getElem? (i := 1011) (by decide +kernel)⟩
theorem fl_Mo_46 : FL "PetalSetsModel" 46 10 16 := ⟨_, rfl, by decide, List.mem_of_getElem? (i := 1012) (by decide +kernel)⟩
theorem fl_Mo_49 : FL "PetalSetsModel" 49 10 17 := ⟨_, rfl, by decide, List.mem_of_getElem? (i := 1013) (by decide +kernel)⟩
theorem fl_Mo_143 : FL "PetalSetsModel" 143 10 18 := ⟨_, rfl, by decide, List.mem_of_getElem? (i := 1014) (by decide +kernel)⟩
theorem fp_Mo_143 : FP "PetalSetsModel" 143 10 18 .int := ⟨_, rfl, by decide, List.mem_of_getElem? (i := 1014) (by decide +kernel), rfl, by decide +kernel⟩
theorem fl_Mo_139 : FL "PetalSetsModel" 139 10 19 := ⟨_, rfl, by decide, List.mem_of_getElem? (i := 1015) (by decide +kernel)⟩
theorem fp_Mo_139 : FP "PetalSetsModel" 139 10 19 .boolean := ⟨_, rfl, by decide, List.mem_of_getElem? (i := 1015) (by decide +kernel), rfl, by decide +kernel⟩
theorem fl_Mo_52 : FL "PetalSetsModel" 52 10 20 := ⟨_, rfl, by decide, List.mem_of_getElem? (i := 1016) (by decide +kernel)⟩
theorem fl_Mo_55 : FL "PetalSetsModel" 55 10 21 := ⟨_, rfl, by decide, List.mem_of_getElem? (i := 1017) (by decide +kernel)⟩
theorem fl_Mo_232 : FL "PetalSetsModel" 232 10 22 := ⟨_, rfl, by decide, List.mem_of_getElem? (i := 1018) (by decide +kernel)⟩
theorem fp_Mo_232 : FP "PetalSetsModel" 232 10 22 .int := ⟨_, rfl, by decide, List.mem_of_getElem? (i := 1018) (by decide +kernel), rfl, by decide +kernel⟩
theorem fl_Mo_58 : FL "PetalSetsModel" 58 10 23 := ⟨_, rfl, by decide, List.mem_of_getElem? (i := 1019) (by decide +kernel)⟩
theorem fl_Mo_241 : FL "PetalSetsModel" 241 10 24 := ⟨_, rfl, by decide, List.mem_of_getElem? (i := 1020) (by decide +kernel)⟩
theorem fp_Mo_241 : FP "PetalSetsModel" 241 10 24 .int := ⟨_, rfl, by decide, List.mem_of_getElem? (i := 1020) (by decide +kernel), rfl, by decide +kernel⟩
theorem fl_Mo_61 : FL "PetalSetsModel" 61 10 25 := ⟨_, rfl, by decide, List.mem_of_getElem? (i := 1021) (by decide +kernel)⟩
theorem fl_Mo_262 : FL "PetalSetsModel" 262 10 26 := ⟨_, rfl, by decide, List.mem_of_getElem? (i := 1022) (by decide +kernel)⟩
theorem fp_Mo_262 : FP "PetalSetsModel" 262 10 26 .int := ⟨_, rfl, by decide, List.mem_of_getElem? (i := 1022) (by decide +kernel), rfl, by decide +kernel⟩
theorem fl_Mo_64 : FL "PetalSetsModel" 64 10 27 := ⟨_, rfl, by decide, List.mem_of_getElem? (i := 1023) (by decide +kernel)⟩
theorem fl_Mo_271 : FL "PetalSetsModel" 271 10 28 := ⟨_, rfl, by decide, List.mem_of_getElem? (i := 1024) (by decide +kernel)⟩
theorem fp_Mo_271 : FP "PetalSetsModel" 271 10 28 .int := ⟨_, rfl, by decide, List.mem_of_getElem? (i := 1024) (by decide +kernel), rfl, by decide +kernel⟩
theorem fl_Mo_274 : FL "PetalSetsModel" 274 10 29 := ⟨_, rfl, by decide, List.mem_of_getElem? (i := 1025) (by decide +kernel)⟩
theorem fp_Mo_274 : FP "PetalSetsModel" 274 10 29 .int := ⟨_, rfl, by decide, List.mem_of_getElem? (i := 1025) (by decide +kernel), rfl, by decide +kernel⟩
theorem fl_Mo_280 : FL "PetalSetsModel" 280 10 30 := ⟨_, rfl, by decide, List.mem_of_getElem? (i := 1026) (by decide +kernel)⟩
theorem fp_Mo_280 : FP "PetalSetsModel" 280 10 30 .int := ⟨_, rfl, by decide, List.mem_of_getElem? (i := 1026) (by decide +kernel), rfl, by decide +kernel⟩
theorem fl_Mo_283 : FL "PetalSetsModel" 283 10 31 := ⟨_, rfl, by decide, List.mem_of_getElem? (i := 1027) (by decide +kernel)⟩
theorem fp_Mo_283 : FP "PetalSetsModel" 283 10 31 .int := ⟨_, rfl, by decide, List.mem_of_getElem? (i := 1027) (by decide +kernel), rfl, by decide +kernel⟩
theorem fl_Mo_286 : FL "PetalSetsModel" 286 10 32 := ⟨_, rfl, by decide, List.mem_of_getElem? (i := 1028) (by decide +kernel)⟩
theorem fp_Mo_286 : FP "PetalSetsModel" 286 10 32 .boolean := ⟨_, rfl, by decide, List.mem_of_getElem? (i := 1028) (by decide +kernel), rfl, by decide +kernel⟩
end
section
abbrev PMe : Type := MethodName × ByteArray × Nat × Option FieldType
/-- a method of the tables: its code, its class, how many parameters -/
def okM (M : PMe) (n : Nat) : Prop := plainName M.1.cls = true ∧ Cond.code M.1 M.2.1 M.2.2.1 M.2.2.2 ∈ lw_tbl ∧ Cond.initialized M.1.cls ∈ lw_tbl ∧ (M.1.cls ≠ "java/lang/invoke/MethodHandle" ∧ M.1.cls ≠ "java/lang/invoke/VarHandle" ∧ (parseMethodDescriptor M.1.desc).map (fun d => d.parameters.length) = some n) ∧ M.2.2.1 ≤ 20
def MV (own : String) (idx : Nat) (M : PMe) (n : Nat) : Prop := okM M n ∧ Cond.methodLink own idx M.1 ∈ lw_tbl ∧ Cond.instanceMethod M.1 ∈ lw_tbl ∧ Cond.selects M.1.cls M.1 M.1 ∈ lw_tbl
def MS (own : String) (idx : Nat) (M : PMe) (n : Nat) : Prop := okM M n ∧ Cond.methodLink own idx M.1 ∈ lw_tbl ∧ Cond.static M.1 ∈ lw_tbl
def MN (own : String) (idx : Nat) (M : PMe) (host : String) (n : Nat) : Prop := okM M n ∧ Cond.methodLinkNest own idx M.1 host ∈ lw_tbl ∧ Cond.static M.1 ∈ lw_tbl
abbrev m_PS_init : PMe := (⟨"PetalSets", "<init>", "()V"⟩, prog_1_method_1_code, 1, none)
theorem ok_PS_init : okM m_PS_init 0 := ⟨by decide, List.mem_of_getElem? (i := 94) (by decide +kernel), List.mem_of_getElem? (i := 72) (by decide +kernel), by decide +kernel, by decide⟩
abbrev m_Family_init : PMe := (⟨"PetalSets$Family", "<init>", "()V"⟩, prog_3_method_1_code, 1, none)
theorem ok_Family_init : okM m_Family_init 0 := ⟨by decide, List.mem_of_getElem? (i := 102) (by decide +kernel), List.mem_of_getElem? (i := 73) (by decide +kernel), by decide +kernel, by decide⟩
abbrev m_History_init : PMe := (⟨"PetalSets$History", "<init>", "()V"⟩, prog_4_method_1_code, 1, none)
theorem ok_History_init : okM m_History_init 0 := ⟨by decide, List.mem_of_getElem? (i := 130) (by decide +kernel), List.mem_of_getElem? (i := 74) (by decide +kernel), by decide +kernel, by decide⟩
abbrev m_Tape_init : PMe := (⟨"PetalSets$Tape", "<init>", "()V"⟩, prog_9_method_1_code, 1, none)
theorem ok_Tape_init : okM m_Tape_init 0 := ⟨by decide, List.mem_of_getElem? (i := 150) (by decide +kernel), List.mem_of_getElem? (i := 75) (by decide +kernel), by decide +kernel, by decide⟩
abbrev m_Reader_init : PMe := (⟨"PetalSets$Reader", "<init>", "()V"⟩, prog_8_method_1_code, 1, none)
theorem ok_Reader_init : okM m_Reader_init 0 := ⟨by decide, List.mem_of_getElem? (i := 166) (by decide +kernel), List.mem_of_getElem? (i := 76) (by decide +kernel), by decide +kernel, by decide⟩
abbrev m_Touch_init : PMe := (⟨"PetalSets$Touch", "<init>", "()V"⟩, prog_11_method_1_code, 1, none)
theorem ok_Touch_init : okM m_Touch_init 0 := ⟨by decide, List.mem_of_getElem? (i := 176) (by decide +kernel), List.mem_of_getElem? (i := 77) (by decide +kernel), by decide +kernel, by decide⟩
abbrev m_Cover_init : PMe := (⟨"PetalSets$Cover", "<init>", "()V"⟩, prog_2_method_1_code, 1, none)
theorem ok_Cover_init : okM m_Cover_init 0 := ⟨by decide, List.mem_of_getElem? (i := 211) (by decide +kernel), List.mem_of_getElem? (i := 78) (by decide +kernel), by decide +kernel, by decide⟩
abbrev m_Thinner_init : PMe := (⟨"PetalSets$Thinner", "<init>", "()V"⟩, prog_10_method_1_code, 1, none)
theorem ok_Thinner_init : okM m_Thinner_init 0 := ⟨by decide, List.mem_of_getElem? (i := 226) (by decide +kernel), List.mem_of_getElem? (i := 79) (by decide +kernel), by decide +kernel, by decide⟩
abbrev m_Kernel_init : PMe := (⟨"PetalSets$Kernel", "<init>", "()V"⟩, prog_5_method_1_code, 1, none)
theorem ok_Kernel_init : okM m_Kernel_init 0 := ⟨by decide, List.mem_of_getElem? (i := 242) (by decide +kernel), List.mem_of_getElem? (i := 80) (by decide +kernel), by decide +kernel, by decide⟩
abbrev m_Page_init : PMe := (⟨"PetalSets$Page", "<init>", "()V"⟩, prog_6_method_1_code, 1, none)
theorem ok_Page_init : okM m_Page_init 0 := ⟨by decide, List.mem_of_getElem? (i := 285) (by decide +kernel), List.mem_of_getElem? (i := 81) (by decide +kernel), by decide +kernel, by decide⟩
abbrev m_PS_feed : PMe := (⟨"PetalSets", "feed", "(IIIII)I"⟩, prog_1_method_2_code, 6, some .int)
theorem ok_PS_feed : okM m_PS_feed 5 := ⟨by decide, List.mem_of_getElem? (i := 329) (by decide +kernel), List.mem_of_getElem? (i := 72) (by decide +kernel), by decide +kernel, by decide⟩
abbrev m_Tape_putFour : PMe := (⟨"PetalSets$Tape", "putFour", "(I)V"⟩, prog_9_method_2_code, 3, none)
theorem ok_Tape_putFour : okM m_Tape_putFour 1 := ⟨by decide, List.mem_of_getElem? (i := 333) (by decide +kernel), List.mem_of_getElem? (i := 75) (by decide +kernel), by decide +kernel, by decide⟩
abbrev m_PS_back : PMe := (⟨"PetalSets", "back", "(I)I"⟩, prog_1_method_3_code, 2, some .int)
theorem ok_PS_back : okM m_PS_back 1 := ⟨by decide, List.mem_of_getElem? (i := 337) (by decide +kernel), List.mem_of_getElem? (i := 72) (by decide +kernel), by decide +kernel, by decide⟩
abbrev m_PS_text : PMe := (⟨"PetalSets", "text", "()I"⟩, prog_1_method_4_code, 2, some .int)
theorem ok_PS_text : okM m_PS_text 0 := ⟨by decide, List.mem_of_getElem? (i := 341) (by decide +kernel), List.mem_of_getElem? (i := 72) (by decide +kernel), by decide +kernel, by decide⟩
abbrev m_Reader_read : PMe := (⟨"PetalSets$Reader", "read", "(LPetalSets$Tape;LPetalSets$Family;)I"⟩, prog_8_method_2_code, 5, some .int)
theorem ok_Reader_read : okM m_Reader_read 2 := ⟨by decide, List.mem_of_getElem? (i := 345) (by decide +kernel), List.mem_of_getElem? (i := 76) (by decide +kernel), by decide +kernel, by decide⟩
abbrev m_Family_startAnew : PMe := (⟨"PetalSets$Family", "startAnew", "(I)V"⟩, prog_3_method_17_code, 2, none)
theorem ok_Family_startAnew : okM m_Family_startAnew 1 := ⟨by decide, List.mem_of_getElem? (i := 349) (by decide +kernel), List.mem_of_getElem? (i := 73) (by decide +kernel), by decide +kernel, by decide⟩
abbrev m_Reader_skipBlanks : PMe := (⟨"PetalSets$Reader", "skipBlanks", "(LPetalSets$Tape;)V"⟩, prog_8_method_7_code, 2, none)
theorem ok_Reader_skipBlanks : okM m_Reader_skipBlanks 1 := ⟨by decide, List.mem_of_getElem? (i := 353) (by decide +kernel), List.mem_of_getElem? (i := 76) (by decide +kernel), by decide +kernel, by decide⟩
abbrev m_Tape_isBlank : PMe := (⟨"PetalSets$Tape", "isBlank", "(I)Z"⟩, prog_9_method_6_code, 2, some .boolean)
theorem ok_Tape_isBlank : okM m_Tape_isBlank 1 := ⟨by decide, List.mem_of_getElem? (i := 357) (by decide +kernel), List.mem_of_getElem? (i := 75) (by decide +kernel), by decide +kernel, by decide⟩
abbrev m_Tape_at : PMe := (⟨"PetalSets$Tape", "at", "(I)I"⟩, prog_9_method_3_code, 2, some .int)
theorem ok_Tape_at : okM m_Tape_at 1 := ⟨by decide, List.mem_of_getElem? (i := 361) (by decide +kernel), List.mem_of_getElem? (i := 75) (by decide +kernel), by decide +kernel, by decide⟩
abbrev m_Reader_isWord : PMe := (⟨"PetalSets$Reader", "isWord", "(LPetalSets$Tape;Ljava/lang/String;)Z"⟩, prog_8_method_8_code, 4, some .boolean)
theorem ok_Reader_isWord : okM m_Reader_isWord 2 := ⟨by decide, List.mem_of_getElem? (i := 366) (by decide +kernel), List.mem_of_getElem? (i := 76) (by decide +kernel), by decide +kernel, by decide⟩
abbrev m_St_length : PMe := (⟨"java/lang/String", "length", "()I"⟩, prog_16_method_54_code, 1, some .int)
theorem ok_St_length : okM m_St_length 0 := ⟨by decide, List.mem_of_getElem? (i := 370) (by decide +kernel), List.mem_of_getElem? (i := 83) (by decide +kernel), by decide +kernel, by decide⟩
abbrev m_St_coder : PMe := (⟨"java/lang/String", "coder", "()B"⟩, prog_16_method_152_code, 1, some .byte)
theorem ok_St_coder : okM m_St_coder 0 := ⟨by decide, List.mem_of_getElem? (i := 374) (by decide +kernel), List.mem_of_getElem? (i := 83) (by decide +kernel), by decide +kernel, by decide⟩
abbrev m_St_charAt : PMe := (⟨"java/lang/String", "charAt", "(I)C"⟩, prog_16_method_56_code, 2, some .char)
theorem ok_St_charAt : okM m_St_charAt 1 := ⟨by decide, List.mem_of_getElem? (i := 381) (by decide +kernel), List.mem_of_getElem? (i := 83) (by decide +kernel), by decide +kernel, by decide⟩
abbrev m_St_isLatin1 : PMe := (⟨"java/lang/String", "isLatin1", "()Z"⟩, prog_16_method_154_code, 1, some .boolean)
theorem ok_St_isLatin1 : okM m_St_isLatin1 0 := ⟨by decide, List.mem_of_getElem? (i := 385) (by decide +kernel), List.mem_of_getElem? (i := 83) (by decide +kernel), by decide +kernel, by decide⟩
abbrev m_SL_charAt : PMe := (⟨"java/lang/StringLatin1", "charAt", "([BI)C"⟩, prog_17_method_2_code, 2, some .char)
theorem ok_SL_charAt : okM m_SL_charAt 2 := ⟨by decide, List.mem_of_getElem? (i := 388) (by decide +kernel), List.mem_of_getElem? (i := 84) (by decide +kernel), by decide +kernel, by decide⟩
abbrev m_St_checkIndex : PMe := (⟨"java/lang/String", "checkIndex", "(II)V"⟩, prog_16_method_155_code, 2, none)
theorem ok_St_checkIndex : okM m_St_checkIndex 2 := ⟨by decide, List.mem_of_getElem? (i := 391) (by decide +kernel), List.mem_of_getElem? (i := 83) (by decide +kernel), by decide +kernel, by decide⟩
abbrev m_Pr_checkIndex : PMe := (⟨"jdk/internal/util/Preconditions", "checkIndex", "(IILjava/util/function/BiFunction;)I"⟩, prog_19_method_11_code, 3, some .int)
theorem ok_Pr_checkIndex : okM m_Pr_checkIndex 3 := ⟨by decide, List.mem_of_getElem? (i := 396) (by decide +kernel), List.mem_of_getElem? (i := 85) (by decide +kernel), by decide +kernel, by decide⟩
abbrev m_SU_charAt : PMe := (⟨"java/lang/StringUTF16", "charAt", "([BI)C"⟩, prog_18_method_83_code, 2, some .char)
theorem ok_SU_charAt : okM m_SU_charAt 2 := ⟨by decide, List.mem_of_getElem? (i := 399) (by decide +kernel), List.mem_of_getElem? (i := 86) (by decide +kernel), by decide +kernel, by decide⟩
abbrev m_SU_checkIndex : PMe := (⟨"java/lang/StringUTF16", "checkIndex", "(I[B)V"⟩, prog_18_method_91_code, 2, none)
theorem ok_SU_checkIndex : okM m_SU_checkIndex 2 := ⟨by decide, List.mem_of_getElem? (i := 402) (by decide +kernel), List.mem_of_getElem? (i := 86) (by decide +kernel), by decide +kernel, by decide⟩
abbrev m_SU_length : PMe := (⟨"java/lang/StringUTF16", "length", "([B)I"⟩, prog_18_method_6_code, 1, some .int)
theorem ok_SU_length : okM m_SU_length 1 := ⟨by decide, List.mem_of_getElem? (i := 405) (by decide +kernel), List.mem_of_getElem? (i := 86) (by decide +kernel), by decide +kernel, by decide⟩
abbrev m_SU_getChar : PMe := (⟨"java/lang/StringUTF16", "getChar", "([BI)C"⟩, prog_18_method_5_code, 2, some .char)
theorem ok_SU_getChar : okM m_SU_getChar 2 := ⟨by decide, List.mem_of_getElem? (i := 409) (by decide +kernel), List.mem_of_getElem? (i := 86) (by decide +kernel), by decide +kernel, by decide⟩
abbrev m_Tape_isLetter : PMe := (⟨"PetalSets$Tape", "isLetter", "(I)Z"⟩, prog_9_method_4_code, 2, some .boolean)
theorem ok_Tape_isLetter : okM m_Tape_isLetter 1 := ⟨by decide, List.mem_of_getElem? (i := 419) (by decide +kernel), List.mem_of_getElem? (i := 75) (by decide +kernel), by decide +kernel, by decide⟩
abbrev m_Reader_readPoints : PMe := (⟨"PetalSets$Reader", "readPoints", "(LPetalSets$Tape;LPetalSets$Family;)I"⟩, prog_8_method_3_code, 5, some .int)
theorem ok_Reader_readPoints : okM m_Reader_readPoints 2 := ⟨by decide, List.mem_of_getElem? (i := 423) (by decide +kernel), List.mem_of_getElem? (i := 76) (by decide +kernel), by decide +kernel, by decide⟩
abbrev m_Tape_isDigit : PMe := (⟨"PetalSets$Tape", "isDigit", "(I)Z"⟩, prog_9_method_5_code, 2, some .boolean)
theorem ok_Tape_isDigit : okM m_Tape_isDigit 1 := ⟨by decide, List.mem_of_getElem? (i := 427) (by decide +kernel), List.mem_of_getElem? (i := 75) (by decide +kernel), by decide +kernel, by decide⟩
abbrev m_Reader_readEnd : PMe := (⟨"PetalSets$Reader", "readEnd", "(LPetalSets$Tape;)I"⟩, prog_8_method_6_code, 2, some .int)
theorem ok_Reader_readEnd : okM m_Reader_readEnd 1 := ⟨by decide, List.mem_of_getElem? (i := 431) (by decide +kernel), List.mem_of_getElem? (i := 76) (by decide +kernel), by decide +kernel, by decide⟩
abbrev m_Reader_readSet : PMe := (⟨"PetalSets$Reader", "readSet", "(LPetalSets$Tape;LPetalSets$Family;)I"⟩, prog_8_method_4_code, 5, some .int)
theorem ok_Reader_readSet : okM m_Reader_readSet 2 := ⟨by decide, List.mem_of_getElem? (i := 435) (by decide +kernel), List.mem_of_getElem? (i := 76) (by decide +kernel), by decide +kernel, by decide⟩
abbrev m_Reader_readLetters : PMe := (⟨"PetalSets$Reader", "readLetters", "(LPetalSets$Tape;LPetalSets$Family;)I"⟩, prog_8_method_5_code, 5, some .int)
theorem ok_Reader_readLetters : okM m_Reader_readLetters 2 := ⟨by decide, List.mem_of_getElem? (i := 440) (by decide +kernel), List.mem_of_getElem? (i := 76) (by decide +kernel), by decide +kernel, by decide⟩
abbrev m_Family_isPoint : PMe := (⟨"PetalSets$Family", "isPoint", "(I)Z"⟩, prog_3_method_5_code, 2, some .boolean)
theorem ok_Family_isPoint : okM m_Family_isPoint 1 := ⟨by decide, List.mem_of_getElem? (i := 444) (by decide +kernel), List.mem_of_getElem? (i := 73) (by decide +kernel), by decide +kernel, by decide⟩
abbrev m_Family_isSet : PMe := (⟨"PetalSets$Family", "isSet", "(I)Z"⟩, prog_3_method_7_code, 2, some .boolean)
theorem ok_Family_isSet : okM m_Family_isSet 1 := ⟨by decide, List.mem_of_getElem? (i := 448) (by decide +kernel), List.mem_of_getElem? (i := 73) (by decide +kernel), by decide +kernel, by decide⟩
abbrev m_Family_allPoints : PMe := (⟨"PetalSets$Family", "allPoints", "()I"⟩, prog_3_method_3_code, 1, some .int)
theorem ok_Family_allPoints : okM m_Family_allPoints 0 := ⟨by decide, List.mem_of_getElem? (i := 452) (by decide +kernel), List.mem_of_getElem? (i := 73) (by decide +kernel), by decide +kernel, by decide⟩
abbrev m_Family_find : PMe := (⟨"PetalSets$Family", "find", "(I)I"⟩, prog_3_method_10_code, 3, some .int)
theorem ok_Family_find : okM m_Family_find 1 := ⟨by decide, List.mem_of_getElem? (i := 456) (by decide +kernel), List.mem_of_getElem? (i := 73) (by decide +kernel), by decide +kernel, by decide⟩
abbrev m_Family_append : PMe := (⟨"PetalSets$Family", "append", "(I)V"⟩, prog_3_method_18_code, 2, none)
theorem ok_Family_append : okM m_Family_append 1 := ⟨by decide, List.mem_of_getElem? (i := 460) (by decide +kernel), List.mem_of_getElem? (i := 73) (by decide +kernel), by decide +kernel, by decide⟩
abbrev m_Family_copyFrom : PMe := (⟨"PetalSets$Family", "copyFrom", "(LPetalSets$Family;)V"⟩, prog_3_method_21_code, 3, none)
theorem ok_Family_copyFrom : okM m_Family_copyFrom 1 := ⟨by decide, List.mem_of_getElem? (i := 464) (by decide +kernel), List.mem_of_getElem? (i := 73) (by decide +kernel), by decide +kernel, by decide⟩
abbrev m_History_forget : PMe := (⟨"PetalSets$History", "forget", "()V"⟩, prog_4_method_2_code, 1, none)
theorem ok_History_forget : okM m_History_forget 0 := ⟨by decide, List.mem_of_getElem? (i := 470) (by decide +kernel), List.mem_of_getElem? (i := 74) (by decide +kernel), by decide +kernel, by decide⟩
abbrev m_PS_add : PMe := (⟨"PetalSets", "add", "(I)I"⟩, prog_1_method_5_code, 2, some .int)
theorem ok_PS_add : okM m_PS_add 1 := ⟨by decide, List.mem_of_getElem? (i := 474) (by decide +kernel), List.mem_of_getElem? (i := 72) (by decide +kernel), by decide +kernel, by decide⟩
abbrev m_History_keep : PMe := (⟨"PetalSets$History", "keep", "(LPetalSets$Family;)V"⟩, prog_4_method_3_code, 3, none)
theorem ok_History_keep : okM m_History_keep 1 := ⟨by decide, List.mem_of_getElem? (i := 480) (by decide +kernel), List.mem_of_getElem? (i := 74) (by decide +kernel), by decide +kernel, by decide⟩
abbrev m_Family_at : PMe := (⟨"PetalSets$Family", "at", "(I)I"⟩, prog_3_method_2_code, 2, some .int)
theorem ok_Family_at : okM m_Family_at 1 := ⟨by decide, List.mem_of_getElem? (i := 487) (by decide +kernel), List.mem_of_getElem? (i := 73) (by decide +kernel), by decide +kernel, by decide⟩
abbrev m_PS_drop : PMe := (⟨"PetalSets", "drop", "(I)Z"⟩, prog_1_method_6_code, 2, some .boolean)
theorem ok_PS_drop : okM m_PS_drop 1 := ⟨by decide, List.mem_of_getElem? (i := 492) (by decide +kernel), List.mem_of_getElem? (i := 72) (by decide +kernel), by decide +kernel, by decide⟩
abbrev m_Family_holds : PMe := (⟨"PetalSets$Family", "holds", "(I)Z"⟩, prog_3_method_8_code, 2, some .boolean)
theorem ok_Family_holds : okM m_Family_holds 1 := ⟨by decide, List.mem_of_getElem? (i := 496) (by decide +kernel), List.mem_of_getElem? (i := 73) (by decide +kernel), by decide +kernel, by decide⟩
abbrev m_Family_takeOut : PMe := (⟨"PetalSets$Family", "takeOut", "(I)V"⟩, prog_3_method_20_code, 4, none)
theorem ok_Family_takeOut : okM m_Family_takeOut 1 := ⟨by decide, List.mem_of_getElem? (i := 500) (by decide +kernel), List.mem_of_getElem? (i := 73) (by decide +kernel), by decide +kernel, by decide⟩
abbrev m_PS_change : PMe := (⟨"PetalSets", "change", "(II)I"⟩, prog_1_method_7_code, 4, some .int)
theorem ok_PS_change : okM m_PS_change 2 := ⟨by decide, List.mem_of_getElem? (i := 504) (by decide +kernel), List.mem_of_getElem? (i := 72) (by decide +kernel), by decide +kernel, by decide⟩
abbrev m_PS_swap : PMe := (⟨"PetalSets", "swap", "(II)I"⟩, prog_1_method_8_code, 7, some .int)
theorem ok_PS_swap : okM m_PS_swap 2 := ⟨by decide, List.mem_of_getElem? (i := 509) (by decide +kernel), List.mem_of_getElem? (i := 72) (by decide +kernel), by decide +kernel, by decide⟩
abbrev m_Ig_bitCount : PMe := (⟨"java/lang/Integer", "bitCount", "(I)I"⟩, prog_14_method_49_code, 1, some .int)
theorem ok_Ig_bitCount : okM m_Ig_bitCount 1 := ⟨by decide, List.mem_of_getElem? (i := 514) (by decide +kernel), List.mem_of_getElem? (i := 88) (by decide +kernel), by decide +kernel, by decide⟩
abbrev m_PS_becomeIfChanged : PMe := (⟨"PetalSets", "becomeIfChanged", "()I"⟩, prog_1_method_18_code, 3, some .int)
theorem ok_PS_becomeIfChanged : okM m_PS_becomeIfChanged 0 := ⟨by decide, List.mem_of_getElem? (i := 521) (by decide +kernel), List.mem_of_getElem? (i := 72) (by decide +kernel), by decide +kernel, by decide⟩
abbrev m_PS_become : PMe := (⟨"PetalSets", "become", "()V"⟩, prog_1_method_17_code, 1, none)
theorem ok_PS_become : okM m_PS_become 0 := ⟨by decide, List.mem_of_getElem? (i := 525) (by decide +kernel), List.mem_of_getElem? (i := 72) (by decide +kernel), by decide +kernel, by decide⟩
abbrev m_PS_without : PMe := (⟨"PetalSets", "without", "(I)I"⟩, prog_1_method_9_code, 3, some .int)
theorem ok_PS_without : okM m_PS_without 1 := ⟨by decide, List.mem_of_getElem? (i := 529) (by decide +kernel), List.mem_of_getElem? (i := 72) (by decide +kernel), by decide +kernel, by decide⟩
abbrev m_Family_setsWith : PMe := (⟨"PetalSets$Family", "setsWith", "(I)I"⟩, prog_3_method_11_code, 4, some .int)
theorem ok_Family_setsWith : okM m_Family_setsWith 1 := ⟨by decide, List.mem_of_getElem? (i := 533) (by decide +kernel), List.mem_of_getElem? (i := 73) (by decide +kernel), by decide +kernel, by decide⟩
abbrev m_Family_appendNew : PMe := (⟨"PetalSets$Family", "appendNew", "(I)V"⟩, prog_3_method_19_code, 2, none)
theorem ok_Family_appendNew : okM m_Family_appendNew 1 := ⟨by decide, List.mem_of_getElem? (i := 537) (by decide +kernel), List.mem_of_getElem? (i := 73) (by decide +kernel), by decide +kernel, by decide⟩
abbrev m_PS_only : PMe := (⟨"PetalSets", "only", "(IZ)I"⟩, prog_1_method_10_code, 5, some .int)
theorem ok_PS_only : okM m_PS_only 2 := ⟨by decide, List.mem_of_getElem? (i := 542) (by decide +kernel), List.mem_of_getElem? (i := 72) (by decide +kernel), by decide +kernel, by decide⟩
abbrev m_Family_allSets : PMe := (⟨"PetalSets$Family", "allSets", "()I"⟩, prog_3_method_4_code, 1, some .int)
theorem ok_Family_allSets : okM m_Family_allSets 0 := ⟨by decide, List.mem_of_getElem? (i := 546) (by decide +kernel), List.mem_of_getElem? (i := 73) (by decide +kernel), by decide +kernel, by decide⟩
abbrev m_PS_letGo : PMe := (⟨"PetalSets", "letGo", "(I)I"⟩, prog_1_method_19_code, 2, some .int)
theorem ok_PS_letGo : okM m_PS_letGo 1 := ⟨by decide, List.mem_of_getElem? (i := 550) (by decide +kernel), List.mem_of_getElem? (i := 72) (by decide +kernel), by decide +kernel, by decide⟩
abbrev m_PS_join : PMe := (⟨"PetalSets", "join", "(II)I"⟩, prog_1_method_11_code, 6, some .int)
theorem ok_PS_join : okM m_PS_join 2 := ⟨by decide, List.mem_of_getElem? (i := 554) (by decide +kernel), List.mem_of_getElem? (i := 72) (by decide +kernel), by decide +kernel, by decide⟩
abbrev m_PS_turn : PMe := (⟨"PetalSets", "turn", "()I"⟩, prog_1_method_12_code, 4, some .int)
theorem ok_PS_turn : okM m_PS_turn 0 := ⟨by decide, List.mem_of_getElem? (i := 558) (by decide +kernel), List.mem_of_getElem? (i := 72) (by decide +kernel), by decide +kernel, by decide⟩
abbrev m_PS_flip : PMe := (⟨"PetalSets", "flip", "()I"⟩, prog_1_method_13_code, 2, some .int)
theorem ok_PS_flip : okM m_PS_flip 0 := ⟨by decide, List.mem_of_getElem? (i := 563) (by decide +kernel), List.mem_of_getElem? (i := 72) (by decide +kernel), by decide +kernel, by decide⟩
abbrev m_PS_reduce : PMe := (⟨"PetalSets", "reduce", "(I)I"⟩, prog_1_method_14_code, 2, some .int)
theorem ok_PS_reduce : okM m_PS_reduce 1 := ⟨by decide, List.mem_of_getElem? (i := 567) (by decide +kernel), List.mem_of_getElem? (i := 72) (by decide +kernel), by decide +kernel, by decide⟩
abbrev m_PS_isBudget : PMe := (⟨"PetalSets", "isBudget", "(I)Z"⟩, prog_1_method_20_code, 1, some .boolean)
theorem ok_PS_isBudget : okM m_PS_isBudget 1 := ⟨by decide, List.mem_of_getElem? (i := 570) (by decide +kernel), List.mem_of_getElem? (i := 72) (by decide +kernel), by decide +kernel, by decide⟩
abbrev m_Kernel_run : PMe := (⟨"PetalSets$Kernel", "run", "(LPetalSets$Family;I)V"⟩, prog_5_method_2_code, 5, none)
theorem ok_Kernel_run : okM m_Kernel_run 2 := ⟨by decide, List.mem_of_getElem? (i := 574) (by decide +kernel), List.mem_of_getElem? (i := 80) (by decide +kernel), by decide +kernel, by decide⟩
abbrev m_Family_sameAs : PMe := (⟨"PetalSets$Family", "sameAs", "(LPetalSets$Family;)Z"⟩, prog_3_method_22_code, 3, some .boolean)
theorem ok_Family_sameAs : okM m_Family_sameAs 1 := ⟨by decide, List.mem_of_getElem? (i := 578) (by decide +kernel), List.mem_of_getElem? (i := 73) (by decide +kernel), by decide +kernel, by decide⟩
abbrev m_Kernel_takeStep : PMe := (⟨"PetalSets$Kernel", "takeStep", "(I)Z"⟩, prog_5_method_3_code, 5, some .boolean)
theorem ok_Kernel_takeStep : okM m_Kernel_takeStep 1 := ⟨by decide, List.mem_of_getElem? (i := 583) (by decide +kernel), List.mem_of_getElem? (i := 80) (by decide +kernel), by decide +kernel, by decide⟩
abbrev m_Kernel_firstWithInner : PMe := (⟨"PetalSets$Kernel", "firstWithInner", "()I"⟩, prog_5_method_4_code, 3, some .int)
theorem ok_Kernel_firstWithInner : okM m_Kernel_firstWithInner 0 := ⟨by decide, List.mem_of_getElem? (i := 587) (by decide +kernel), List.mem_of_getElem? (i := 80) (by decide +kernel), by decide +kernel, by decide⟩
abbrev m_Kernel_noteStep : PMe := (⟨"PetalSets$Kernel", "noteStep", "(III)V"⟩, prog_5_method_5_code, 4, none)
theorem ok_Kernel_noteStep : okM m_Kernel_noteStep 3 := ⟨by decide, List.mem_of_getElem? (i := 593) (by decide +kernel), List.mem_of_getElem? (i := 80) (by decide +kernel), by decide +kernel, by decide⟩
abbrev m_Petals_leastFlower : PMe := (⟨"PetalSets$Petals", "leastFlower", "(LPetalSets$Family;I)I"⟩, prog_7_method_5_code, 7, some .int)
theorem ok_Petals_leastFlower : okM m_Petals_leastFlower 2 := ⟨by decide, List.mem_of_getElem? (i := 596) (by decide +kernel), List.mem_of_getElem? (i := 89) (by decide +kernel), by decide +kernel, by decide⟩
abbrev m_Petals_fitting : PMe := (⟨"PetalSets$Petals", "fitting", "(LPetalSets$Family;III)I"⟩, prog_7_method_11_code, 5, some .int)
theorem ok_Petals_fitting : okM m_Petals_fitting 4 := ⟨by decide, List.mem_of_getElem? (i := 600) (by decide +kernel), List.mem_of_getElem? (i := 89) (by decide +kernel), by decide +kernel, by decide⟩
abbrev m_Petals_meetingIn : PMe := (⟨"PetalSets$Petals", "meetingIn", "(LPetalSets$Family;III)I"⟩, prog_7_method_12_code, 6, some .int)
theorem ok_Petals_meetingIn : okM m_Petals_meetingIn 4 := ⟨by decide, List.mem_of_getElem? (i := 603) (by decide +kernel), List.mem_of_getElem? (i := 89) (by decide +kernel), by decide +kernel, by decide⟩
abbrev m_Petals_leastClique : PMe := (⟨"PetalSets$Petals", "leastClique", "(LPetalSets$Family;III)I"⟩, prog_7_method_9_code, 7, some .int)
theorem ok_Petals_leastClique : okM m_Petals_leastClique 4 := ⟨by decide, List.mem_of_getElem? (i := 606) (by decide +kernel), List.mem_of_getElem? (i := 89) (by decide +kernel), by decide +kernel, by decide⟩
abbrev m_Ig_lowestOneBit : PMe := (⟨"java/lang/Integer", "lowestOneBit", "(I)I"⟩, prog_14_method_46_code, 1, some .int)
theorem ok_Ig_lowestOneBit : okM m_Ig_lowestOneBit 1 := ⟨by decide, List.mem_of_getElem? (i := 610) (by decide +kernel), List.mem_of_getElem? (i := 88) (by decide +kernel), by decide +kernel, by decide⟩
abbrev m_Petals_coreOf : PMe := (⟨"PetalSets$Petals", "coreOf", "(LPetalSets$Family;I)I"⟩, prog_7_method_2_code, 6, some .int)
theorem ok_Petals_coreOf : okM m_Petals_coreOf 2 := ⟨by decide, List.mem_of_getElem? (i := 613) (by decide +kernel), List.mem_of_getElem? (i := 89) (by decide +kernel), by decide +kernel, by decide⟩
abbrev m_PS_thin : PMe := (⟨"PetalSets", "thin", "(I)I"⟩, prog_1_method_15_code, 3, some .int)
theorem ok_PS_thin : okM m_PS_thin 1 := ⟨by decide, List.mem_of_getElem? (i := 618) (by decide +kernel), List.mem_of_getElem? (i := 72) (by decide +kernel), by decide +kernel, by decide⟩
abbrev m_PS_isFlowerSize : PMe := (⟨"PetalSets", "isFlowerSize", "(I)Z"⟩, prog_1_method_21_code, 1, some .boolean)
theorem ok_PS_isFlowerSize : okM m_PS_isFlowerSize 1 := ⟨by decide, List.mem_of_getElem? (i := 621) (by decide +kernel), List.mem_of_getElem? (i := 72) (by decide +kernel), by decide +kernel, by decide⟩
abbrev m_Thinner_leastFree : PMe := (⟨"PetalSets$Thinner", "leastFree", "(LPetalSets$Family;I)I"⟩, prog_10_method_2_code, 5, some .int)
theorem ok_Thinner_leastFree : okM m_Thinner_leastFree 2 := ⟨by decide, List.mem_of_getElem? (i := 625) (by decide +kernel), List.mem_of_getElem? (i := 79) (by decide +kernel), by decide +kernel, by decide⟩
abbrev m_Thinner_fillFits : PMe := (⟨"PetalSets$Thinner", "fillFits", "(LPetalSets$Family;)V"⟩, prog_10_method_3_code, 5, none)
theorem ok_Thinner_fillFits : okM m_Thinner_fillFits 1 := ⟨by decide, List.mem_of_getElem? (i := 630) (by decide +kernel), List.mem_of_getElem? (i := 79) (by decide +kernel), by decide +kernel, by decide⟩
abbrev m_Thinner_choose : PMe := (⟨"PetalSets$Thinner", "choose", "(IIII)I"⟩, prog_10_method_4_code, 7, some .int)
theorem ok_Thinner_choose : okM m_Thinner_choose 4 := ⟨by decide, List.mem_of_getElem? (i := 637) (by decide +kernel), List.mem_of_getElem? (i := 79) (by decide +kernel), by decide +kernel, by decide⟩
abbrev m_Thinner_closes : PMe := (⟨"PetalSets$Thinner", "closes", "(III)Z"⟩, prog_10_method_5_code, 6, some .boolean)
theorem ok_Thinner_closes : okM m_Thinner_closes 3 := ⟨by decide, List.mem_of_getElem? (i := 641) (by decide +kernel), List.mem_of_getElem? (i := 79) (by decide +kernel), by decide +kernel, by decide⟩
abbrev m_PS_undo : PMe := (⟨"PetalSets", "undo", "()I"⟩, prog_1_method_16_code, 1, some .int)
theorem ok_PS_undo : okM m_PS_undo 0 := ⟨by decide, List.mem_of_getElem? (i := 646) (by decide +kernel), List.mem_of_getElem? (i := 72) (by decide +kernel), by decide +kernel, by decide⟩
abbrev m_History_restore : PMe := (⟨"PetalSets$History", "restore", "(LPetalSets$Family;)V"⟩, prog_4_method_4_code, 3, none)
theorem ok_History_restore : okM m_History_restore 1 := ⟨by decide, List.mem_of_getElem? (i := 650) (by decide +kernel), List.mem_of_getElem? (i := 74) (by decide +kernel), by decide +kernel, by decide⟩
abbrev m_PS_set : PMe := (⟨"PetalSets", "set", "(II)I"⟩, prog_1_method_22_code, 4, some .int)
theorem ok_PS_set : okM m_PS_set 2 := ⟨by decide, List.mem_of_getElem? (i := 659) (by decide +kernel), List.mem_of_getElem? (i := 72) (by decide +kernel), by decide +kernel, by decide⟩
abbrev m_Family_setsMeeting : PMe := (⟨"PetalSets$Family", "setsMeeting", "(I)I"⟩, prog_3_method_12_code, 4, some .int)
theorem ok_Family_setsMeeting : okM m_Family_setsMeeting 1 := ⟨by decide, List.mem_of_getElem? (i := 663) (by decide +kernel), List.mem_of_getElem? (i := 73) (by decide +kernel), by decide +kernel, by decide⟩
abbrev m_PS_degree : PMe := (⟨"PetalSets", "degree", "(I)I"⟩, prog_1_method_23_code, 2, some .int)
theorem ok_PS_degree : okM m_PS_degree 1 := ⟨by decide, List.mem_of_getElem? (i := 667) (by decide +kernel), List.mem_of_getElem? (i := 72) (by decide +kernel), by decide +kernel, by decide⟩
abbrev m_PS_having : PMe := (⟨"PetalSets", "having", "(I)I"⟩, prog_1_method_24_code, 2, some .int)
theorem ok_PS_having : okM m_PS_having 1 := ⟨by decide, List.mem_of_getElem? (i := 671) (by decide +kernel), List.mem_of_getElem? (i := 72) (by decide +kernel), by decide +kernel, by decide⟩
abbrev m_Family_arePoints : PMe := (⟨"PetalSets$Family", "arePoints", "(I)Z"⟩, prog_3_method_6_code, 2, some .boolean)
theorem ok_Family_arePoints : okM m_Family_arePoints 1 := ⟨by decide, List.mem_of_getElem? (i := 675) (by decide +kernel), List.mem_of_getElem? (i := 73) (by decide +kernel), by decide +kernel, by decide⟩
abbrev m_PS_isFlower : PMe := (⟨"PetalSets", "isFlower", "(I)I"⟩, prog_1_method_25_code, 2, some .int)
theorem ok_PS_isFlower : okM m_PS_isFlower 1 := ⟨by decide, List.mem_of_getElem? (i := 679) (by decide +kernel), List.mem_of_getElem? (i := 72) (by decide +kernel), by decide +kernel, by decide⟩
abbrev m_Family_areSets : PMe := (⟨"PetalSets$Family", "areSets", "(I)Z"⟩, prog_3_method_9_code, 2, some .boolean)
theorem ok_Family_areSets : okM m_Family_areSets 1 := ⟨by decide, List.mem_of_getElem? (i := 683) (by decide +kernel), List.mem_of_getElem? (i := 73) (by decide +kernel), by decide +kernel, by decide⟩
abbrev m_PS_core : PMe := (⟨"PetalSets", "core", "(I)I"⟩, prog_1_method_26_code, 2, some .int)
theorem ok_PS_core : okM m_PS_core 1 := ⟨by decide, List.mem_of_getElem? (i := 689) (by decide +kernel), List.mem_of_getElem? (i := 72) (by decide +kernel), by decide +kernel, by decide⟩
abbrev m_PS_greatest : PMe := (⟨"PetalSets", "greatest", "(I)I"⟩, prog_1_method_27_code, 3, some .int)
theorem ok_PS_greatest : okM m_PS_greatest 1 := ⟨by decide, List.mem_of_getElem? (i := 693) (by decide +kernel), List.mem_of_getElem? (i := 72) (by decide +kernel), by decide +kernel, by decide⟩
abbrev m_Petals_largest : PMe := (⟨"PetalSets$Petals", "largest", "(LPetalSets$Family;)I"⟩, prog_7_method_3_code, 4, some .int)
theorem ok_Petals_largest : okM m_Petals_largest 1 := ⟨by decide, List.mem_of_getElem? (i := 696) (by decide +kernel), List.mem_of_getElem? (i := 89) (by decide +kernel), by decide +kernel, by decide⟩
abbrev m_PS_flower : PMe := (⟨"PetalSets", "flower", "(I)I"⟩, prog_1_method_28_code, 3, some .int)
theorem ok_PS_flower : okM m_PS_flower 1 := ⟨by decide, List.mem_of_getElem? (i := 701) (by decide +kernel), List.mem_of_getElem? (i := 72) (by decide +kernel), by decide +kernel, by decide⟩
abbrev m_PS_flowers : PMe := (⟨"PetalSets", "flowers", "(I)I"⟩, prog_1_method_29_code, 2, some .int)
theorem ok_PS_flowers : okM m_PS_flowers 1 := ⟨by decide, List.mem_of_getElem? (i := 706) (by decide +kernel), List.mem_of_getElem? (i := 72) (by decide +kernel), by decide +kernel, by decide⟩
abbrev m_Petals_countFlowers : PMe := (⟨"PetalSets$Petals", "countFlowers", "(LPetalSets$Family;I)I"⟩, prog_7_method_6_code, 7, some .int)
theorem ok_Petals_countFlowers : okM m_Petals_countFlowers 2 := ⟨by decide, List.mem_of_getElem? (i := 709) (by decide +kernel), List.mem_of_getElem? (i := 89) (by decide +kernel), by decide +kernel, by decide⟩
abbrev m_Petals_countCliques : PMe := (⟨"PetalSets$Petals", "countCliques", "(LPetalSets$Family;III)I"⟩, prog_7_method_10_code, 7, some .int)
theorem ok_Petals_countCliques : okM m_Petals_countCliques 4 := ⟨by decide, List.mem_of_getElem? (i := 712) (by decide +kernel), List.mem_of_getElem? (i := 89) (by decide +kernel), by decide +kernel, by decide⟩
abbrev m_PS_byCore : PMe := (⟨"PetalSets", "byCore", "(II)I"⟩, prog_1_method_30_code, 4, some .int)
theorem ok_PS_byCore : okM m_PS_byCore 2 := ⟨by decide, List.mem_of_getElem? (i := 716) (by decide +kernel), List.mem_of_getElem? (i := 72) (by decide +kernel), by decide +kernel, by decide⟩
abbrev m_Petals_largestOf : PMe := (⟨"PetalSets$Petals", "largestOf", "(LPetalSets$Family;I)I"⟩, prog_7_method_4_code, 5, some .int)
theorem ok_Petals_largestOf : okM m_Petals_largestOf 2 := ⟨by decide, List.mem_of_getElem? (i := 719) (by decide +kernel), List.mem_of_getElem? (i := 89) (by decide +kernel), by decide +kernel, by decide⟩
abbrev m_PS_cores : PMe := (⟨"PetalSets", "cores", "(I)I"⟩, prog_1_method_31_code, 6, some .int)
theorem ok_PS_cores : okM m_PS_cores 1 := ⟨by decide, List.mem_of_getElem? (i := 724) (by decide +kernel), List.mem_of_getElem? (i := 72) (by decide +kernel), by decide +kernel, by decide⟩
abbrev m_Petals_isNewMeet : PMe := (⟨"PetalSets$Petals", "isNewMeet", "(LPetalSets$Family;II)Z"⟩, prog_7_method_8_code, 6, some .boolean)
theorem ok_Petals_isNewMeet : okM m_Petals_isNewMeet 3 := ⟨by decide, List.mem_of_getElem? (i := 727) (by decide +kernel), List.mem_of_getElem? (i := 89) (by decide +kernel), by decide +kernel, by decide⟩
abbrev m_PS_most : PMe := (⟨"PetalSets", "most", "(I)I"⟩, prog_1_method_32_code, 2, some .int)
theorem ok_PS_most : okM m_PS_most 1 := ⟨by decide, List.mem_of_getElem? (i := 732) (by decide +kernel), List.mem_of_getElem? (i := 72) (by decide +kernel), by decide +kernel, by decide⟩
abbrev m_PS_surplus : PMe := (⟨"PetalSets", "surplus", "(I)I"⟩, prog_1_method_33_code, 2, some .int)
theorem ok_PS_surplus : okM m_PS_surplus 1 := ⟨by decide, List.mem_of_getElem? (i := 736) (by decide +kernel), List.mem_of_getElem? (i := 72) (by decide +kernel), by decide +kernel, by decide⟩
abbrev m_PS_uneven : PMe := (⟨"PetalSets", "uneven", "(I)I"⟩, prog_1_method_34_code, 5, some .int)
theorem ok_PS_uneven : okM m_PS_uneven 1 := ⟨by decide, List.mem_of_getElem? (i := 740) (by decide +kernel), List.mem_of_getElem? (i := 72) (by decide +kernel), by decide +kernel, by decide⟩
abbrev m_Ig_numberOfTrailingZeros : PMe := (⟨"java/lang/Integer", "numberOfTrailingZeros", "(I)I"⟩, prog_14_method_48_code, 2, some .int)
theorem ok_Ig_numberOfTrailingZeros : okM m_Ig_numberOfTrailingZeros 1 := ⟨by decide, List.mem_of_getElem? (i := 743) (by decide +kernel), List.mem_of_getElem? (i := 88) (by decide +kernel), by decide +kernel, by decide⟩
abbrev m_PS_pairs : PMe := (⟨"PetalSets", "pairs", "(I)I"⟩, prog_1_method_35_code, 5, some .int)
theorem ok_PS_pairs : okM m_PS_pairs 1 := ⟨by decide, List.mem_of_getElem? (i := 748) (by decide +kernel), List.mem_of_getElem? (i := 72) (by decide +kernel), by decide +kernel, by decide⟩
abbrev m_PS_parts : PMe := (⟨"PetalSets", "parts", "()I"⟩, prog_1_method_36_code, 4, some .int)
theorem ok_PS_parts : okM m_PS_parts 0 := ⟨by decide, List.mem_of_getElem? (i := 752) (by decide +kernel), List.mem_of_getElem? (i := 72) (by decide +kernel), by decide +kernel, by decide⟩
abbrev m_PS_partOf : PMe := (⟨"PetalSets", "partOf", "(I)I"⟩, prog_1_method_37_code, 5, some .int)
theorem ok_PS_partOf : okM m_PS_partOf 1 := ⟨by decide, List.mem_of_getElem? (i := 756) (by decide +kernel), List.mem_of_getElem? (i := 72) (by decide +kernel), by decide +kernel, by decide⟩
abbrev m_Family_unionOf : PMe := (⟨"PetalSets$Family", "unionOf", "(I)I"⟩, prog_3_method_14_code, 4, some .int)
theorem ok_Family_unionOf : okM m_Family_unionOf 1 := ⟨by decide, List.mem_of_getElem? (i := 760) (by decide +kernel), List.mem_of_getElem? (i := 73) (by decide +kernel), by decide +kernel, by decide⟩
abbrev m_PS_ranked : PMe := (⟨"PetalSets", "ranked", "(I)I"⟩, prog_1_method_38_code, 3, some .int)
theorem ok_PS_ranked : okM m_PS_ranked 1 := ⟨by decide, List.mem_of_getElem? (i := 764) (by decide +kernel), List.mem_of_getElem? (i := 72) (by decide +kernel), by decide +kernel, by decide⟩
abbrev m_PS_pointsAhead : PMe := (⟨"PetalSets", "pointsAhead", "(I)I"⟩, prog_1_method_39_code, 6, some .int)
theorem ok_PS_pointsAhead : okM m_PS_pointsAhead 1 := ⟨by decide, List.mem_of_getElem? (i := 768) (by decide +kernel), List.mem_of_getElem? (i := 72) (by decide +kernel), by decide +kernel, by decide⟩
abbrev m_PS_spread : PMe := (⟨"PetalSets", "spread", "(II)I"⟩, prog_1_method_40_code, 8, some .int)
theorem ok_PS_spread : okM m_PS_spread 2 := ⟨by decide, List.mem_of_getElem? (i := 772) (by decide +kernel), List.mem_of_getElem? (i := 72) (by decide +kernel), by decide +kernel, by decide⟩
abbrev m_Touch_fillLacking : PMe := (⟨"PetalSets$Touch", "fillLacking", "(LPetalSets$Family;)V"⟩, prog_11_method_3_code, 3, none)
theorem ok_Touch_fillLacking : okM m_Touch_fillLacking 1 := ⟨by decide, List.mem_of_getElem? (i := 776) (by decide +kernel), List.mem_of_getElem? (i := 77) (by decide +kernel), by decide +kernel, by decide⟩
abbrev m_Touch_fillMarks : PMe := (⟨"PetalSets$Touch", "fillMarks", "(LPetalSets$Family;)V"⟩, prog_11_method_4_code, 4, none)
theorem ok_Touch_fillMarks : okM m_Touch_fillMarks 1 := ⟨by decide, List.mem_of_getElem? (i := 782) (by decide +kernel), List.mem_of_getElem? (i := 77) (by decide +kernel), by decide +kernel, by decide⟩
abbrev m_Touch_untouched : PMe := (⟨"PetalSets$Touch", "untouched", "(I)I"⟩, prog_11_method_6_code, 2, some .int)
theorem ok_Touch_untouched : okM m_Touch_untouched 1 := ⟨by decide, List.mem_of_getElem? (i := 788) (by decide +kernel), List.mem_of_getElem? (i := 77) (by decide +kernel), by decide +kernel, by decide⟩
abbrev m_Touch_touched : PMe := (⟨"PetalSets$Touch", "touched", "(I)I"⟩, prog_11_method_5_code, 2, some .int)
theorem ok_Touch_touched : okM m_Touch_touched 1 := ⟨by decide, List.mem_of_getElem? (i := 792) (by decide +kernel), List.mem_of_getElem? (i := 77) (by decide +kernel), by decide +kernel, by decide⟩
abbrev m_PS_power : PMe := (⟨"PetalSets", "power", "(II)J"⟩, prog_1_method_42_code, 5, some .long)
theorem ok_PS_power : okM m_PS_power 2 := ⟨by decide, List.mem_of_getElem? (i := 796) (by decide +kernel), List.mem_of_getElem? (i := 72) (by decide +kernel), by decide +kernel, by decide⟩
abbrev m_PS_spreadest : PMe := (⟨"PetalSets", "spreadest", "()I"⟩, prog_1_method_41_code, 3, some .int)
theorem ok_PS_spreadest : okM m_PS_spreadest 0 := ⟨by decide, List.mem_of_getElem? (i := 800) (by decide +kernel), List.mem_of_getElem? (i := 72) (by decide +kernel), by decide +kernel, by decide⟩
abbrev m_PS_bound : PMe := (⟨"PetalSets", "bound", "(II)I"⟩, prog_1_method_43_code, 6, some .int)
theorem ok_PS_bound : okM m_PS_bound 2 := ⟨by decide, List.mem_of_getElem? (i := 804) (by decide +kernel), List.mem_of_getElem? (i := 72) (by decide +kernel), by decide +kernel, by decide⟩
abbrev m_PS_sized : PMe := (⟨"PetalSets", "sized", "(I)I"⟩, prog_1_method_44_code, 4, some .int)
theorem ok_PS_sized : okM m_PS_sized 1 := ⟨by decide, List.mem_of_getElem? (i := 812) (by decide +kernel), List.mem_of_getElem? (i := 72) (by decide +kernel), by decide +kernel, by decide⟩
abbrev m_PS_hits : PMe := (⟨"PetalSets", "hits", "(I)I"⟩, prog_1_method_45_code, 2, some .int)
theorem ok_PS_hits : okM m_PS_hits 1 := ⟨by decide, List.mem_of_getElem? (i := 816) (by decide +kernel), List.mem_of_getElem? (i := 72) (by decide +kernel), by decide +kernel, by decide⟩
abbrev m_PS_missed : PMe := (⟨"PetalSets", "missed", "(I)I"⟩, prog_1_method_46_code, 2, some .int)
theorem ok_PS_missed : okM m_PS_missed 1 := ⟨by decide, List.mem_of_getElem? (i := 820) (by decide +kernel), List.mem_of_getElem? (i := 72) (by decide +kernel), by decide +kernel, by decide⟩
abbrev m_PS_hitter : PMe := (⟨"PetalSets", "hitter", "(I)I"⟩, prog_1_method_47_code, 2, some .int)
theorem ok_PS_hitter : okM m_PS_hitter 1 := ⟨by decide, List.mem_of_getElem? (i := 824) (by decide +kernel), List.mem_of_getElem? (i := 72) (by decide +kernel), by decide +kernel, by decide⟩
abbrev m_Touch_fillHaving : PMe := (⟨"PetalSets$Touch", "fillHaving", "(LPetalSets$Family;)V"⟩, prog_11_method_2_code, 3, none)
theorem ok_Touch_fillHaving : okM m_Touch_fillHaving 1 := ⟨by decide, List.mem_of_getElem? (i := 828) (by decide +kernel), List.mem_of_getElem? (i := 77) (by decide +kernel), by decide +kernel, by decide⟩
abbrev m_Touch_findLeast : PMe := (⟨"PetalSets$Touch", "findLeast", "()V"⟩, prog_11_method_9_code, 3, none)
theorem ok_Touch_findLeast : okM m_Touch_findLeast 0 := ⟨by decide, List.mem_of_getElem? (i := 832) (by decide +kernel), List.mem_of_getElem? (i := 77) (by decide +kernel), by decide +kernel, by decide⟩
abbrev m_Touch_touchesAll : PMe := (⟨"PetalSets$Touch", "touchesAll", "(I)Z"⟩, prog_11_method_7_code, 2, some .boolean)
theorem ok_Touch_touchesAll : okM m_Touch_touchesAll 1 := ⟨by decide, List.mem_of_getElem? (i := 836) (by decide +kernel), List.mem_of_getElem? (i := 77) (by decide +kernel), by decide +kernel, by decide⟩
abbrev m_PS_tight : PMe := (⟨"PetalSets", "tight", "(I)I"⟩, prog_1_method_48_code, 4, some .int)
theorem ok_PS_tight : okM m_PS_tight 1 := ⟨by decide, List.mem_of_getElem? (i := 840) (by decide +kernel), List.mem_of_getElem? (i := 72) (by decide +kernel), by decide +kernel, by decide⟩
abbrev m_Touch_isTight : PMe := (⟨"PetalSets$Touch", "isTight", "(I)Z"⟩, prog_11_method_8_code, 3, some .boolean)
theorem ok_Touch_isTight : okM m_Touch_isTight 1 := ⟨by decide, List.mem_of_getElem? (i := 844) (by decide +kernel), List.mem_of_getElem? (i := 77) (by decide +kernel), by decide +kernel, by decide⟩
abbrev m_PS_greedy : PMe := (⟨"PetalSets", "greedy", "(I)I"⟩, prog_1_method_49_code, 7, some .int)
theorem ok_PS_greedy : okM m_PS_greedy 1 := ⟨by decide, List.mem_of_getElem? (i := 848) (by decide +kernel), List.mem_of_getElem? (i := 72) (by decide +kernel), by decide +kernel, by decide⟩
abbrev m_PS_bestPoint : PMe := (⟨"PetalSets", "bestPoint", "(I)I"⟩, prog_1_method_50_code, 6, some .int)
theorem ok_PS_bestPoint : okM m_PS_bestPoint 1 := ⟨by decide, List.mem_of_getElem? (i := 852) (by decide +kernel), List.mem_of_getElem? (i := 72) (by decide +kernel), by decide +kernel, by decide⟩
abbrev m_PS_apart : PMe := (⟨"PetalSets", "apart", "(I)I"⟩, prog_1_method_51_code, 3, some .int)
theorem ok_PS_apart : okM m_PS_apart 1 := ⟨by decide, List.mem_of_getElem? (i := 856) (by decide +kernel), List.mem_of_getElem? (i := 72) (by decide +kernel), by decide +kernel, by decide⟩
abbrev m_PS_exact : PMe := (⟨"PetalSets", "exact", "(I)I"⟩, prog_1_method_52_code, 2, some .int)
theorem ok_PS_exact : okM m_PS_exact 1 := ⟨by decide, List.mem_of_getElem? (i := 860) (by decide +kernel), List.mem_of_getElem? (i := 72) (by decide +kernel), by decide +kernel, by decide⟩
abbrev m_Cover_run : PMe := (⟨"PetalSets$Cover", "run", "(LPetalSets$Family;)V"⟩, prog_2_method_2_code, 2, none)
theorem ok_Cover_run : okM m_Cover_run 1 := ⟨by decide, List.mem_of_getElem? (i := 864) (by decide +kernel), List.mem_of_getElem? (i := 78) (by decide +kernel), by decide +kernel, by decide⟩
abbrev m_Cover_coverRest : PMe := (⟨"PetalSets$Cover", "coverRest", "(LPetalSets$Family;III)V"⟩, prog_2_method_3_code, 8, none)
theorem ok_Cover_coverRest : okM m_Cover_coverRest 4 := ⟨by decide, List.mem_of_getElem? (i := 870) (by decide +kernel), List.mem_of_getElem? (i := 78) (by decide +kernel), by decide +kernel, by decide⟩
abbrev m_PS_halves : PMe := (⟨"PetalSets", "halves", "(I)I"⟩, prog_1_method_53_code, 7, some .int)
theorem ok_PS_halves : okM m_PS_halves 1 := ⟨by decide, List.mem_of_getElem? (i := 877) (by decide +kernel), List.mem_of_getElem? (i := 72) (by decide +kernel), by decide +kernel, by decide⟩
abbrev m_Family_setsOfTwoOrMore : PMe := (⟨"PetalSets$Family", "setsOfTwoOrMore", "()I"⟩, prog_3_method_13_code, 3, some .int)
theorem ok_Family_setsOfTwoOrMore : okM m_Family_setsOfTwoOrMore 0 := ⟨by decide, List.mem_of_getElem? (i := 881) (by decide +kernel), List.mem_of_getElem? (i := 73) (by decide +kernel), by decide +kernel, by decide⟩
abbrev m_PS_kernel : PMe := (⟨"PetalSets", "kernel", "(II)I"⟩, prog_1_method_54_code, 3, some .int)
theorem ok_PS_kernel : okM m_PS_kernel 2 := ⟨by decide, List.mem_of_getElem? (i := 887) (by decide +kernel), List.mem_of_getElem? (i := 72) (by decide +kernel), by decide +kernel, by decide⟩
abbrev m_Kernel_stepsOf : PMe := (⟨"PetalSets$Kernel", "stepsOf", "(I)I"⟩, prog_5_method_6_code, 4, some .int)
theorem ok_Kernel_stepsOf : okM m_Kernel_stepsOf 1 := ⟨by decide, List.mem_of_getElem? (i := 891) (by decide +kernel), List.mem_of_getElem? (i := 80) (by decide +kernel), by decide +kernel, by decide⟩
abbrev m_PS_kernelSet : PMe := (⟨"PetalSets", "kernelSet", "(II)I"⟩, prog_1_method_55_code, 3, some .int)
theorem ok_PS_kernelSet : okM m_PS_kernelSet 2 := ⟨by decide, List.mem_of_getElem? (i := 895) (by decide +kernel), List.mem_of_getElem? (i := 72) (by decide +kernel), by decide +kernel, by decide⟩
abbrev m_PS_step : PMe := (⟨"PetalSets", "step", "(III)I"⟩, prog_1_method_56_code, 4, some .int)
theorem ok_PS_step : okM m_PS_step 3 := ⟨by decide, List.mem_of_getElem? (i := 899) (by decide +kernel), List.mem_of_getElem? (i := 72) (by decide +kernel), by decide +kernel, by decide⟩
abbrev m_PS_can : PMe := (⟨"PetalSets", "can", "(I)I"⟩, prog_1_method_57_code, 2, some .int)
theorem ok_PS_can : okM m_PS_can 1 := ⟨by decide, List.mem_of_getElem? (i := 903) (by decide +kernel), List.mem_of_getElem? (i := 72) (by decide +kernel), by decide +kernel, by decide⟩
abbrev m_PS_link : PMe := (⟨"PetalSets", "link", "(II)I"⟩, prog_1_method_58_code, 4, some .int)
theorem ok_PS_link : okM m_PS_link 2 := ⟨by decide, List.mem_of_getElem? (i := 907) (by decide +kernel), List.mem_of_getElem? (i := 72) (by decide +kernel), by decide +kernel, by decide⟩
abbrev m_PS_largestSize : PMe := (⟨"PetalSets", "largestSize", "(LPetalSets$Family;)I"⟩, prog_1_method_62_code, 2, some .int)
theorem ok_PS_largestSize : okM m_PS_largestSize 1 := ⟨by decide, List.mem_of_getElem? (i := 910) (by decide +kernel), List.mem_of_getElem? (i := 72) (by decide +kernel), by decide +kernel, by decide⟩
abbrev m_PS_withSet : PMe := (⟨"PetalSets", "withSet", "(I)I"⟩, prog_1_method_59_code, 2, some .int)
theorem ok_PS_withSet : okM m_PS_withSet 1 := ⟨by decide, List.mem_of_getElem? (i := 914) (by decide +kernel), List.mem_of_getElem? (i := 72) (by decide +kernel), by decide +kernel, by decide⟩
abbrev m_PS_withoutSet : PMe := (⟨"PetalSets", "withoutSet", "(I)I"⟩, prog_1_method_60_code, 2, some .int)
theorem ok_PS_withoutSet : okM m_PS_withoutSet 1 := ⟨by decide, List.mem_of_getElem? (i := 918) (by decide +kernel), List.mem_of_getElem? (i := 72) (by decide +kernel), by decide +kernel, by decide⟩
abbrev m_PS_freeNext : PMe := (⟨"PetalSets", "freeNext", "(I)I"⟩, prog_1_method_61_code, 6, some .int)
theorem ok_PS_freeNext : okM m_PS_freeNext 1 := ⟨by decide, List.mem_of_getElem? (i := 922) (by decide +kernel), List.mem_of_getElem? (i := 72) (by decide +kernel), by decide +kernel, by decide⟩
abbrev m_Petals_closesFlower : PMe := (⟨"PetalSets$Petals", "closesFlower", "(LPetalSets$Family;II)Z"⟩, prog_7_method_7_code, 5, some .boolean)
theorem ok_Petals_closesFlower : okM m_Petals_closesFlower 3 := ⟨by decide, List.mem_of_getElem? (i := 925) (by decide +kernel), List.mem_of_getElem? (i := 89) (by decide +kernel), by decide +kernel, by decide⟩
abbrev m_PS_spell : PMe := (⟨"PetalSets", "spell", "(I)I"⟩, prog_1_method_63_code, 3, some .int)
theorem ok_PS_spell : okM m_PS_spell 1 := ⟨by decide, List.mem_of_getElem? (i := 929) (by decide +kernel), List.mem_of_getElem? (i := 72) (by decide +kernel), by decide +kernel, by decide⟩
abbrev m_Page_putWord : PMe := (⟨"PetalSets$Page", "putWord", "(Ljava/lang/String;)V"⟩, prog_6_method_3_code, 3, none)
theorem ok_Page_putWord : okM m_Page_putWord 1 := ⟨by decide, List.mem_of_getElem? (i := 934) (by decide +kernel), List.mem_of_getElem? (i := 81) (by decide +kernel), by decide +kernel, by decide⟩
abbrev m_Page_putByte : PMe := (⟨"PetalSets$Page", "putByte", "(I)V"⟩, prog_6_method_2_code, 2, none)
theorem ok_Page_putByte : okM m_Page_putByte 1 := ⟨by decide, List.mem_of_getElem? (i := 940) (by decide +kernel), List.mem_of_getElem? (i := 81) (by decide +kernel), by decide +kernel, by decide⟩
abbrev m_Page_putNumber : PMe := (⟨"PetalSets$Page", "putNumber", "(I)V"⟩, prog_6_method_4_code, 2, none)
theorem ok_Page_putNumber : okM m_Page_putNumber 1 := ⟨by decide, List.mem_of_getElem? (i := 944) (by decide +kernel), List.mem_of_getElem? (i := 81) (by decide +kernel), by decide +kernel, by decide⟩
abbrev m_Page_putLetters : PMe := (⟨"PetalSets$Page", "putLetters", "(I)V"⟩, prog_6_method_5_code, 3, none)
theorem ok_Page_putLetters : okM m_Page_putLetters 1 := ⟨by decide, List.mem_of_getElem? (i := 950) (by decide +kernel), List.mem_of_getElem? (i := 81) (by decide +kernel), by decide +kernel, by decide⟩
abbrev m_Page_answer : PMe := (⟨"PetalSets$Page", "answer", "(I)I"⟩, prog_6_method_6_code, 2, some .int)
theorem ok_Page_answer : okM m_Page_answer 1 := ⟨by decide, List.mem_of_getElem? (i := 954) (by decide +kernel), List.mem_of_getElem? (i := 81) (by decide +kernel), by decide +kernel, by decide⟩
abbrev m_PS_report : PMe := (⟨"PetalSets", "report", "(II)I"⟩, prog_1_method_64_code, 4, some .int)
theorem ok_PS_report : okM m_PS_report 2 := ⟨by decide, List.mem_of_getElem? (i := 958) (by decide +kernel), List.mem_of_getElem? (i := 72) (by decide +kernel), by decide +kernel, by decide⟩
abbrev m_Kernel_tellStep : PMe := (⟨"PetalSets$Kernel", "tellStep", "(ILPetalSets$Page;)V"⟩, prog_5_method_7_code, 4, none)
theorem ok_Kernel_tellStep : okM m_Kernel_tellStep 2 := ⟨by decide, List.mem_of_getElem? (i := 962) (by decide +kernel), List.mem_of_getElem? (i := 80) (by decide +kernel), by decide +kernel, by decide⟩
abbrev m_PS_count : PMe := (⟨"PetalSets", "count", "(I)I"⟩, prog_1_method_65_code, 2, some .int)
theorem ok_PS_count : okM m_PS_count 1 := ⟨by decide, List.mem_of_getElem? (i := 976) (by decide +kernel), List.mem_of_getElem? (i := 72) (by decide +kernel), by decide +kernel, by decide⟩
abbrev m_Family_greatestSize : PMe := (⟨"PetalSets$Family", "greatestSize", "()I"⟩, prog_3_method_15_code, 3, some .int)
theorem ok_Family_greatestSize : okM m_Family_greatestSize 0 := ⟨by decide, List.mem_of_getElem? (i := 980) (by decide +kernel), List.mem_of_getElem? (i := 73) (by decide +kernel), by decide +kernel, by decide⟩
abbrev m_Family_leastSize : PMe := (⟨"PetalSets$Family", "leastSize", "()I"⟩, prog_3_method_16_code, 3, some .int)
theorem ok_Family_leastSize : okM m_Family_leastSize 0 := ⟨by decide, List.mem_of_getElem? (i := 985) (by decide +kernel), List.mem_of_getElem? (i := 73) (by decide +kernel), by decide +kernel, by decide⟩
abbrev m_Mo_init : PMe := (⟨"PetalSetsModel", "<init>", "()V"⟩, prog_13_method_2_code, 1, none)
theorem ok_Mo_init : okM m_Mo_init 0 := ⟨by decide, List.mem_of_getElem? (i := 991) (by decide +kernel), List.mem_of_getElem? (i := 82) (by decide +kernel), by decide +kernel, by decide⟩
abbrev m_Mo_starts : PMe := (⟨"PetalSetsModel", "starts", "([I)V"⟩, prog_13_method_7_code, 2, none)
theorem ok_Mo_starts : okM m_Mo_starts 1 := ⟨by decide, List.mem_of_getElem? (i := 996) (by decide +kernel), List.mem_of_getElem? (i := 82) (by decide +kernel), by decide +kernel, by decide⟩
abbrev m_Mo_add : PMe := (⟨"PetalSetsModel", "add", "(I)I"⟩, prog_13_method_18_code, 2, some .int)
theorem ok_Mo_add : okM m_Mo_add 1 := ⟨by decide, List.mem_of_getElem? (i := 1100) (by decide +kernel), List.mem_of_getElem? (i := 82) (by decide +kernel), by decide +kernel, by decide⟩
abbrev m_Mo_arePoints : PMe := (⟨"PetalSetsModel", "arePoints", "(I)Z"⟩, prog_13_method_14_code, 2, some .boolean)
theorem ok_Mo_arePoints : okM m_Mo_arePoints 1 := ⟨by decide, List.mem_of_getElem? (i := 1104) (by decide +kernel), List.mem_of_getElem? (i := 82) (by decide +kernel), by decide +kernel, by decide⟩
abbrev m_Mo_allPoints : PMe := (⟨"PetalSetsModel", "allPoints", "()I"⟩, prog_13_method_13_code, 1, some .int)
theorem ok_Mo_allPoints : okM m_Mo_allPoints 0 := ⟨by decide, List.mem_of_getElem? (i := 1108) (by decide +kernel), List.mem_of_getElem? (i := 82) (by decide +kernel), by decide +kernel, by decide⟩
abbrev m_Mo_in : PMe := (⟨"PetalSetsModel", "in", "(III)Z"⟩, prog_13_method_3_code, 3, some .boolean)
theorem ok_Mo_in : okM m_Mo_in 3 := ⟨by decide, List.mem_of_getElem? (i := 1111) (by decide +kernel), List.mem_of_getElem? (i := 82) (by decide +kernel), by decide +kernel, by decide⟩
abbrev m_Mo_isTold : PMe := (⟨"PetalSetsModel", "isTold", "(I)Z"⟩, prog_13_method_17_code, 2, some .boolean)
theorem ok_Mo_isTold : okM m_Mo_isTold 1 := ⟨by decide, List.mem_of_getElem? (i := 1115) (by decide +kernel), List.mem_of_getElem? (i := 82) (by decide +kernel), by decide +kernel, by decide⟩
abbrev m_Mo_many : PMe := (⟨"PetalSetsModel", "many", "()I"⟩, prog_13_method_9_code, 1, some .int)
theorem ok_Mo_many : okM m_Mo_many 0 := ⟨by decide, List.mem_of_getElem? (i := 1119) (by decide +kernel), List.mem_of_getElem? (i := 82) (by decide +kernel), by decide +kernel, by decide⟩
abbrev m_Mo_isAmong : PMe := (⟨"PetalSetsModel", "isAmong", "([IIII)Z"⟩, prog_13_method_16_code, 5, some .boolean)
theorem ok_Mo_isAmong : okM m_Mo_isAmong 4 := ⟨by decide, List.mem_of_getElem? (i := 1122) (by decide +kernel), List.mem_of_getElem? (i := 82) (by decide +kernel), by decide +kernel, by decide⟩
abbrev m_Mo_keeps : PMe := (⟨"PetalSetsModel", "keeps", "()V"⟩, prog_13_method_8_code, 2, none)
theorem ok_Mo_keeps : okM m_Mo_keeps 0 := ⟨by decide, List.mem_of_getElem? (i := 1126) (by decide +kernel), List.mem_of_getElem? (i := 82) (by decide +kernel), by decide +kernel, by decide⟩
abbrev m_Mo_drop : PMe := (⟨"PetalSetsModel", "drop", "(I)Z"⟩, prog_13_method_19_code, 3, some .boolean)
theorem ok_Mo_drop : okM m_Mo_drop 1 := ⟨by decide, List.mem_of_getElem? (i := 1130) (by decide +kernel), List.mem_of_getElem? (i := 82) (by decide +kernel), by decide +kernel, by decide⟩
abbrev m_Mo_isThere : PMe := (⟨"PetalSetsModel", "isThere", "(I)Z"⟩, prog_13_method_11_code, 2, some .boolean)
theorem ok_Mo_isThere : okM m_Mo_isThere 1 := ⟨by decide, List.mem_of_getElem? (i := 1134) (by decide +kernel), List.mem_of_getElem? (i := 82) (by decide +kernel), by decide +kernel, by decide⟩
abbrev m_Mo_change : PMe := (⟨"PetalSetsModel", "change", "(II)I"⟩, prog_13_method_20_code, 4, some .int)
theorem ok_Mo_change : okM m_Mo_change 2 := ⟨by decide, List.mem_of_getElem? (i := 1138) (by decide +kernel), List.mem_of_getElem? (i := 82) (by decide +kernel), by decide +kernel, by decide⟩
abbrev m_Mo_its : PMe := (⟨"PetalSetsModel", "its", "(I)I"⟩, prog_13_method_10_code, 2, some .int)
theorem ok_Mo_its : okM m_Mo_its 1 := ⟨by decide, List.mem_of_getElem? (i := 1142) (by decide +kernel), List.mem_of_getElem? (i := 82) (by decide +kernel), by decide +kernel, by decide⟩
abbrev m_Mo_swap : PMe := (⟨"PetalSetsModel", "swap", "(II)I"⟩, prog_13_method_25_code, 4, some .int)
theorem ok_Mo_swap : okM m_Mo_swap 2 := ⟨by decide, List.mem_of_getElem? (i := 1146) (by decide +kernel), List.mem_of_getElem? (i := 82) (by decide +kernel), by decide +kernel, by decide⟩
abbrev m_Mo_isPoint : PMe := (⟨"PetalSetsModel", "isPoint", "(I)Z"⟩, prog_13_method_12_code, 2, some .boolean)
theorem ok_Mo_isPoint : okM m_Mo_isPoint 1 := ⟨by decide, List.mem_of_getElem? (i := 1150) (by decide +kernel), List.mem_of_getElem? (i := 82) (by decide +kernel), by decide +kernel, by decide⟩
abbrev m_Mo_wouldBegin : PMe := (⟨"PetalSetsModel", "wouldBegin", "()V"⟩, prog_13_method_21_code, 1, none)
theorem ok_Mo_wouldBegin : okM m_Mo_wouldBegin 0 := ⟨by decide, List.mem_of_getElem? (i := 1154) (by decide +kernel), List.mem_of_getElem? (i := 82) (by decide +kernel), by decide +kernel, by decide⟩
abbrev m_Mo_has : PMe := (⟨"PetalSetsModel", "has", "(II)Z"⟩, prog_13_method_4_code, 2, some .boolean)
theorem ok_Mo_has : okM m_Mo_has 2 := ⟨by decide, List.mem_of_getElem? (i := 1157) (by decide +kernel), List.mem_of_getElem? (i := 82) (by decide +kernel), by decide +kernel, by decide⟩
abbrev m_Mo_wouldHave : PMe := (⟨"PetalSetsModel", "wouldHave", "(I)V"⟩, prog_13_method_22_code, 2, none)
theorem ok_Mo_wouldHave : okM m_Mo_wouldHave 1 := ⟨by decide, List.mem_of_getElem? (i := 1161) (by decide +kernel), List.mem_of_getElem? (i := 82) (by decide +kernel), by decide +kernel, by decide⟩
abbrev m_Mo_changes : PMe := (⟨"PetalSetsModel", "changes", "()I"⟩, prog_13_method_24_code, 3, some .int)
theorem ok_Mo_changes : okM m_Mo_changes 0 := ⟨by decide, List.mem_of_getElem? (i := 1165) (by decide +kernel), List.mem_of_getElem? (i := 82) (by decide +kernel), by decide +kernel, by decide⟩
abbrev m_Mo_becomes : PMe := (⟨"PetalSetsModel", "becomes", "()V"⟩, prog_13_method_23_code, 2, none)
theorem ok_Mo_becomes : okM m_Mo_becomes 0 := ⟨by decide, List.mem_of_getElem? (i := 1169) (by decide +kernel), List.mem_of_getElem? (i := 82) (by decide +kernel), by decide +kernel, by decide⟩
abbrev m_Mo_without : PMe := (⟨"PetalSetsModel", "without", "(I)I"⟩, prog_13_method_26_code, 3, some .int)
theorem ok_Mo_without : okM m_Mo_without 1 := ⟨by decide, List.mem_of_getElem? (i := 1173) (by decide +kernel), List.mem_of_getElem? (i := 82) (by decide +kernel), by decide +kernel, by decide⟩
abbrev m_Mo_degreeOf : PMe := (⟨"PetalSetsModel", "degreeOf", "(I)I"⟩, prog_13_method_36_code, 4, some .int)
theorem ok_Mo_degreeOf : okM m_Mo_degreeOf 1 := ⟨by decide, List.mem_of_getElem? (i := 1177) (by decide +kernel), List.mem_of_getElem? (i := 82) (by decide +kernel), by decide +kernel, by decide⟩
abbrev m_Mo_only : PMe := (⟨"PetalSetsModel", "only", "(IZ)I"⟩, prog_13_method_27_code, 4, some .int)
theorem ok_Mo_only : okM m_Mo_only 2 := ⟨by decide, List.mem_of_getElem? (i := 1181) (by decide +kernel), List.mem_of_getElem? (i := 82) (by decide +kernel), by decide +kernel, by decide⟩
abbrev m_Mo_join : PMe := (⟨"PetalSetsModel", "join", "(II)I"⟩, prog_13_method_28_code, 4, some .int)
theorem ok_Mo_join : okM m_Mo_join 2 := ⟨by decide, List.mem_of_getElem? (i := 1185) (by decide +kernel), List.mem_of_getElem? (i := 82) (by decide +kernel), by decide +kernel, by decide⟩
abbrev m_Mo_turn : PMe := (⟨"PetalSetsModel", "turn", "()I"⟩, prog_13_method_29_code, 2, some .int)
theorem ok_Mo_turn : okM m_Mo_turn 0 := ⟨by decide, List.mem_of_getElem? (i := 1189) (by decide +kernel), List.mem_of_getElem? (i := 82) (by decide +kernel), by decide +kernel, by decide⟩
abbrev m_Mo_flip : PMe := (⟨"PetalSetsModel", "flip", "()I"⟩, prog_13_method_30_code, 2, some .int)
theorem ok_Mo_flip : okM m_Mo_flip 0 := ⟨by decide, List.mem_of_getElem? (i := 1193) (by decide +kernel), List.mem_of_getElem? (i := 82) (by decide +kernel), by decide +kernel, by decide⟩
abbrev m_Mo_reduce : PMe := (⟨"PetalSetsModel", "reduce", "(I)I"⟩, prog_13_method_33_code, 3, some .int)
theorem ok_Mo_reduce : okM m_Mo_reduce 1 := ⟨by decide, List.mem_of_getElem? (i := 1197) (by decide +kernel), List.mem_of_getElem? (i := 82) (by decide +kernel), by decide +kernel, by decide⟩
abbrev m_Mo_isOfKernel : PMe := (⟨"PetalSetsModel", "isOfKernel", "(I)Z"⟩, prog_13_method_31_code, 1, some .boolean)
theorem ok_Mo_isOfKernel : okM m_Mo_isOfKernel 1 := ⟨by decide, List.mem_of_getElem? (i := 1200) (by decide +kernel), List.mem_of_getElem? (i := 82) (by decide +kernel), by decide +kernel, by decide⟩
abbrev m_Mo_kernels : PMe := (⟨"PetalSetsModel", "kernels", "(I)V"⟩, prog_13_method_83_code, 6, none)
theorem ok_Mo_kernels : okM m_Mo_kernels 1 := ⟨by decide, List.mem_of_getElem? (i := 1204) (by decide +kernel), List.mem_of_getElem? (i := 82) (by decide +kernel), by decide +kernel, by decide⟩
abbrev m_Mo_withinFirst : PMe := (⟨"PetalSetsModel", "withinFirst", "()I"⟩, prog_13_method_81_code, 3, some .int)
theorem ok_Mo_withinFirst : okM m_Mo_withinFirst 0 := ⟨by decide, List.mem_of_getElem? (i := 1208) (by decide +kernel), List.mem_of_getElem? (i := 82) (by decide +kernel), by decide +kernel, by decide⟩
abbrev m_Mo_isWithin : PMe := (⟨"PetalSetsModel", "isWithin", "(II)Z"⟩, prog_13_method_5_code, 2, some .boolean)
theorem ok_Mo_isWithin : okM m_Mo_isWithin 2 := ⟨by decide, List.mem_of_getElem? (i := 1211) (by decide +kernel), List.mem_of_getElem? (i := 82) (by decide +kernel), by decide +kernel, by decide⟩
abbrev m_Mo_goes : PMe := (⟨"PetalSetsModel", "goes", "(III)V"⟩, prog_13_method_82_code, 6, none)
theorem ok_Mo_goes : okM m_Mo_goes 3 := ⟨by decide, List.mem_of_getElem? (i := 1215) (by decide +kernel), List.mem_of_getElem? (i := 82) (by decide +kernel), by decide +kernel, by decide⟩
abbrev m_Mo_firstOf : PMe := (⟨"PetalSetsModel", "firstOf", "(I)I"⟩, prog_13_method_45_code, 3, some .int)
theorem ok_Mo_firstOf : okM m_Mo_firstOf 1 := ⟨by decide, List.mem_of_getElem? (i := 1219) (by decide +kernel), List.mem_of_getElem? (i := 82) (by decide +kernel), by decide +kernel, by decide⟩
abbrev m_Mo_ones : PMe := (⟨"PetalSetsModel", "ones", "(I)I"⟩, prog_13_method_6_code, 3, some .int)
theorem ok_Mo_ones : okM m_Mo_ones 1 := ⟨by decide, List.mem_of_getElem? (i := 1222) (by decide +kernel), List.mem_of_getElem? (i := 82) (by decide +kernel), by decide +kernel, by decide⟩
abbrev m_Mo_coreOf : PMe := (⟨"PetalSetsModel", "coreOf", "(I)I"⟩, prog_13_method_43_code, 6, some .int)
theorem ok_Mo_coreOf : okM m_Mo_coreOf 1 := ⟨by decide, List.mem_of_getElem? (i := 1226) (by decide +kernel), List.mem_of_getElem? (i := 82) (by decide +kernel), by decide +kernel, by decide⟩
abbrev m_Mo_thin : PMe := (⟨"PetalSetsModel", "thin", "(I)I"⟩, prog_13_method_34_code, 4, some .int)
theorem ok_Mo_thin : okM m_Mo_thin 1 := ⟨by decide, List.mem_of_getElem? (i := 1230) (by decide +kernel), List.mem_of_getElem? (i := 82) (by decide +kernel), by decide +kernel, by decide⟩
abbrev m_Mo_isOfFlower : PMe := (⟨"PetalSetsModel", "isOfFlower", "(I)Z"⟩, prog_13_method_32_code, 1, some .boolean)
theorem ok_Mo_isOfFlower : okM m_Mo_isOfFlower 1 := ⟨by decide, List.mem_of_getElem? (i := 1233) (by decide +kernel), List.mem_of_getElem? (i := 82) (by decide +kernel), by decide +kernel, by decide⟩
abbrev m_Mo_mostFree : PMe := (⟨"PetalSetsModel", "mostFree", "(I)I"⟩, prog_13_method_53_code, 8, some .int)
theorem ok_Mo_mostFree : okM m_Mo_mostFree 1 := ⟨by decide, List.mem_of_getElem? (i := 1237) (by decide +kernel), List.mem_of_getElem? (i := 82) (by decide +kernel), by decide +kernel, by decide⟩
abbrev m_Mo_laysAll : PMe := (⟨"PetalSetsModel", "laysAll", "()V"⟩, prog_13_method_41_code, 2, none)
theorem ok_Mo_laysAll : okM m_Mo_laysAll 0 := ⟨by decide, List.mem_of_getElem? (i := 1241) (by decide +kernel), List.mem_of_getElem? (i := 82) (by decide +kernel), by decide +kernel, by decide⟩
abbrev m_Mo_undo : PMe := (⟨"PetalSetsModel", "undo", "()I"⟩, prog_13_method_35_code, 2, some .int)
theorem ok_Mo_undo : okM m_Mo_undo 0 := ⟨by decide, List.mem_of_getElem? (i := 1245) (by decide +kernel), List.mem_of_getElem? (i := 82) (by decide +kernel), by decide +kernel, by decide⟩
abbrev m_Mo_set : PMe := (⟨"PetalSetsModel", "set", "(II)I"⟩, prog_13_method_37_code, 5, some .int)
theorem ok_Mo_set : okM m_Mo_set 2 := ⟨by decide, List.mem_of_getElem? (i := 1249) (by decide +kernel), List.mem_of_getElem? (i := 82) (by decide +kernel), by decide +kernel, by decide⟩
abbrev m_Mo_degree : PMe := (⟨"PetalSetsModel", "degree", "(I)I"⟩, prog_13_method_38_code, 2, some .int)
theorem ok_Mo_degree : okM m_Mo_degree 1 := ⟨by decide, List.mem_of_getElem? (i := 1253) (by decide +kernel), List.mem_of_getElem? (i := 82) (by decide +kernel), by decide +kernel, by decide⟩
abbrev m_Mo_having : PMe := (⟨"PetalSetsModel", "having", "(I)I"⟩, prog_13_method_40_code, 2, some .int)
theorem ok_Mo_having : okM m_Mo_having 1 := ⟨by decide, List.mem_of_getElem? (i := 1257) (by decide +kernel), List.mem_of_getElem? (i := 82) (by decide +kernel), by decide +kernel, by decide⟩
abbrev m_Mo_havingAll : PMe := (⟨"PetalSetsModel", "havingAll", "(I)I"⟩, prog_13_method_39_code, 4, some .int)
theorem ok_Mo_havingAll : okM m_Mo_havingAll 1 := ⟨by decide, List.mem_of_getElem? (i := 1261) (by decide +kernel), List.mem_of_getElem? (i := 82) (by decide +kernel), by decide +kernel, by decide⟩
abbrev m_Mo_isFlower : PMe := (⟨"PetalSetsModel", "isFlower", "(I)I"⟩, prog_13_method_46_code, 2, some .int)
theorem ok_Mo_isFlower : okM m_Mo_isFlower 1 := ⟨by decide, List.mem_of_getElem? (i := 1265) (by decide +kernel), List.mem_of_getElem? (i := 82) (by decide +kernel), by decide +kernel, by decide⟩
abbrev m_Mo_areNumbers : PMe := (⟨"PetalSetsModel", "areNumbers", "(I)Z"⟩, prog_13_method_15_code, 2, some .boolean)
theorem ok_Mo_areNumbers : okM m_Mo_areNumbers 1 := ⟨by decide, List.mem_of_getElem? (i := 1269) (by decide +kernel), List.mem_of_getElem? (i := 82) (by decide +kernel), by decide +kernel, by decide⟩
abbrev m_Mo_core : PMe := (⟨"PetalSetsModel", "core", "(I)I"⟩, prog_13_method_47_code, 3, some .int)
theorem ok_Mo_core : okM m_Mo_core 1 := ⟨by decide, List.mem_of_getElem? (i := 1273) (by decide +kernel), List.mem_of_getElem? (i := 82) (by decide +kernel), by decide +kernel, by decide⟩
abbrev m_Mo_greatest : PMe := (⟨"PetalSetsModel", "greatest", "(I)I"⟩, prog_13_method_48_code, 3, some .int)
theorem ok_Mo_greatest : okM m_Mo_greatest 1 := ⟨by decide, List.mem_of_getElem? (i := 1277) (by decide +kernel), List.mem_of_getElem? (i := 82) (by decide +kernel), by decide +kernel, by decide⟩
abbrev m_Mo_greatestMany : PMe := (⟨"PetalSetsModel", "greatestMany", "()I"⟩, prog_13_method_44_code, 4, some .int)
theorem ok_Mo_greatestMany : okM m_Mo_greatestMany 0 := ⟨by decide, List.mem_of_getElem? (i := 1281) (by decide +kernel), List.mem_of_getElem? (i := 82) (by decide +kernel), by decide +kernel, by decide⟩
abbrev m_Mo_flower : PMe := (⟨"PetalSetsModel", "flower", "(I)I"⟩, prog_13_method_49_code, 3, some .int)
theorem ok_Mo_flower : okM m_Mo_flower 1 := ⟨by decide, List.mem_of_getElem? (i := 1285) (by decide +kernel), List.mem_of_getElem? (i := 82) (by decide +kernel), by decide +kernel, by decide⟩
abbrev m_Mo_flowers : PMe := (⟨"PetalSetsModel", "flowers", "(I)I"⟩, prog_13_method_50_code, 4, some .int)
theorem ok_Mo_flowers : okM m_Mo_flowers 1 := ⟨by decide, List.mem_of_getElem? (i := 1289) (by decide +kernel), List.mem_of_getElem? (i := 82) (by decide +kernel), by decide +kernel, by decide⟩
abbrev m_Mo_byCore : PMe := (⟨"PetalSetsModel", "byCore", "(II)I"⟩, prog_13_method_51_code, 7, some .int)
theorem ok_Mo_byCore : okM m_Mo_byCore 2 := ⟨by decide, List.mem_of_getElem? (i := 1293) (by decide +kernel), List.mem_of_getElem? (i := 82) (by decide +kernel), by decide +kernel, by decide⟩
abbrev m_Mo_cores : PMe := (⟨"PetalSetsModel", "cores", "(I)I"⟩, prog_13_method_52_code, 5, some .int)
theorem ok_Mo_cores : okM m_Mo_cores 1 := ⟨by decide, List.mem_of_getElem? (i := 1297) (by decide +kernel), List.mem_of_getElem? (i := 82) (by decide +kernel), by decide +kernel, by decide⟩
abbrev m_Mo_most : PMe := (⟨"PetalSetsModel", "most", "(I)I"⟩, prog_13_method_54_code, 2, some .int)
theorem ok_Mo_most : okM m_Mo_most 1 := ⟨by decide, List.mem_of_getElem? (i := 1301) (by decide +kernel), List.mem_of_getElem? (i := 82) (by decide +kernel), by decide +kernel, by decide⟩
abbrev m_Mo_surplus : PMe := (⟨"PetalSetsModel", "surplus", "(I)I"⟩, prog_13_method_55_code, 2, some .int)
theorem ok_Mo_surplus : okM m_Mo_surplus 1 := ⟨by decide, List.mem_of_getElem? (i := 1305) (by decide +kernel), List.mem_of_getElem? (i := 82) (by decide +kernel), by decide +kernel, by decide⟩
abbrev m_Mo_uneven : PMe := (⟨"PetalSetsModel", "uneven", "(I)I"⟩, prog_13_method_56_code, 4, some .int)
theorem ok_Mo_uneven : okM m_Mo_uneven 1 := ⟨by decide, List.mem_of_getElem? (i := 1309) (by decide +kernel), List.mem_of_getElem? (i := 82) (by decide +kernel), by decide +kernel, by decide⟩
abbrev m_Mo_pairs : PMe := (⟨"PetalSetsModel", "pairs", "(I)I"⟩, prog_13_method_57_code, 5, some .int)
theorem ok_Mo_pairs : okM m_Mo_pairs 1 := ⟨by decide, List.mem_of_getElem? (i := 1313) (by decide +kernel), List.mem_of_getElem? (i := 82) (by decide +kernel), by decide +kernel, by decide⟩
abbrev m_Mo_parts : PMe := (⟨"PetalSetsModel", "parts", "()I"⟩, prog_13_method_59_code, 6, some .int)
theorem ok_Mo_parts : okM m_Mo_parts 0 := ⟨by decide, List.mem_of_getElem? (i := 1317) (by decide +kernel), List.mem_of_getElem? (i := 82) (by decide +kernel), by decide +kernel, by decide⟩
abbrev m_Mo_allHad : PMe := (⟨"PetalSetsModel", "allHad", "()I"⟩, prog_13_method_58_code, 3, some .int)
theorem ok_Mo_allHad : okM m_Mo_allHad 0 := ⟨by decide, List.mem_of_getElem? (i := 1321) (by decide +kernel), List.mem_of_getElem? (i := 82) (by decide +kernel), by decide +kernel, by decide⟩
abbrev m_Mo_ranked : PMe := (⟨"PetalSetsModel", "ranked", "(I)I"⟩, prog_13_method_60_code, 5, some .int)
theorem ok_Mo_ranked : okM m_Mo_ranked 1 := ⟨by decide, List.mem_of_getElem? (i := 1325) (by decide +kernel), List.mem_of_getElem? (i := 82) (by decide +kernel), by decide +kernel, by decide⟩
abbrev m_Mo_spread : PMe := (⟨"PetalSetsModel", "spread", "(II)I"⟩, prog_13_method_63_code, 4, some .int)
theorem ok_Mo_spread : okM m_Mo_spread 2 := ⟨by decide, List.mem_of_getElem? (i := 1329) (by decide +kernel), List.mem_of_getElem? (i := 82) (by decide +kernel), by decide +kernel, by decide⟩
abbrev m_Mo_firstDense : PMe := (⟨"PetalSetsModel", "firstDense", "(II)I"⟩, prog_13_method_62_code, 5, some .int)
theorem ok_Mo_firstDense : okM m_Mo_firstDense 2 := ⟨by decide, List.mem_of_getElem? (i := 1333) (by decide +kernel), List.mem_of_getElem? (i := 82) (by decide +kernel), by decide +kernel, by decide⟩
abbrev m_Mo_power : PMe := (⟨"PetalSetsModel", "power", "(II)J"⟩, prog_13_method_61_code, 5, some .long)
theorem ok_Mo_power : okM m_Mo_power 2 := ⟨by decide, List.mem_of_getElem? (i := 1336) (by decide +kernel), List.mem_of_getElem? (i := 82) (by decide +kernel), by decide +kernel, by decide⟩
abbrev m_Mo_spreadest : PMe := (⟨"PetalSetsModel", "spreadest", "()I"⟩, prog_13_method_64_code, 2, some .int)
theorem ok_Mo_spreadest : okM m_Mo_spreadest 0 := ⟨by decide, List.mem_of_getElem? (i := 1340) (by decide +kernel), List.mem_of_getElem? (i := 82) (by decide +kernel), by decide +kernel, by decide⟩
abbrev m_Mo_bound : PMe := (⟨"PetalSetsModel", "bound", "(II)I"⟩, prog_13_method_65_code, 6, some .int)
theorem ok_Mo_bound : okM m_Mo_bound 2 := ⟨by decide, List.mem_of_getElem? (i := 1344) (by decide +kernel), List.mem_of_getElem? (i := 82) (by decide +kernel), by decide +kernel, by decide⟩
abbrev m_Mo_sized : PMe := (⟨"PetalSetsModel", "sized", "(I)I"⟩, prog_13_method_67_code, 2, some .int)
theorem ok_Mo_sized : okM m_Mo_sized 1 := ⟨by decide, List.mem_of_getElem? (i := 1349) (by decide +kernel), List.mem_of_getElem? (i := 82) (by decide +kernel), by decide +kernel, by decide⟩
abbrev m_Mo_sizedMany : PMe := (⟨"PetalSetsModel", "sizedMany", "(I)I"⟩, prog_13_method_66_code, 4, some .int)
theorem ok_Mo_sizedMany : okM m_Mo_sizedMany 1 := ⟨by decide, List.mem_of_getElem? (i := 1353) (by decide +kernel), List.mem_of_getElem? (i := 82) (by decide +kernel), by decide +kernel, by decide⟩
abbrev m_Mo_hits : PMe := (⟨"PetalSetsModel", "hits", "(I)I"⟩, prog_13_method_69_code, 2, some .int)
theorem ok_Mo_hits : okM m_Mo_hits 1 := ⟨by decide, List.mem_of_getElem? (i := 1357) (by decide +kernel), List.mem_of_getElem? (i := 82) (by decide +kernel), by decide +kernel, by decide⟩
abbrev m_Mo_missedBy : PMe := (⟨"PetalSetsModel", "missedBy", "(I)I"⟩, prog_13_method_68_code, 4, some .int)
theorem ok_Mo_missedBy : okM m_Mo_missedBy 1 := ⟨by decide, List.mem_of_getElem? (i := 1361) (by decide +kernel), List.mem_of_getElem? (i := 82) (by decide +kernel), by decide +kernel, by decide⟩
abbrev m_Mo_missed : PMe := (⟨"PetalSetsModel", "missed", "(I)I"⟩, prog_13_method_70_code, 2, some .int)
theorem ok_Mo_missed : okM m_Mo_missed 1 := ⟨by decide, List.mem_of_getElem? (i := 1365) (by decide +kernel), List.mem_of_getElem? (i := 82) (by decide +kernel), by decide +kernel, by decide⟩
abbrev m_Mo_hitter : PMe := (⟨"PetalSetsModel", "hitter", "(I)I"⟩, prog_13_method_72_code, 7, some .int)
theorem ok_Mo_hitter : okM m_Mo_hitter 1 := ⟨by decide, List.mem_of_getElem? (i := 1369) (by decide +kernel), List.mem_of_getElem? (i := 82) (by decide +kernel), by decide +kernel, by decide⟩
abbrev m_Mo_fewestToHit : PMe := (⟨"PetalSetsModel", "fewestToHit", "()I"⟩, prog_13_method_71_code, 3, some .int)
theorem ok_Mo_fewestToHit : okM m_Mo_fewestToHit 0 := ⟨by decide, List.mem_of_getElem? (i := 1373) (by decide +kernel), List.mem_of_getElem? (i := 82) (by decide +kernel), by decide +kernel, by decide⟩
abbrev m_Mo_tight : PMe := (⟨"PetalSetsModel", "tight", "(I)I"⟩, prog_13_method_74_code, 4, some .int)
theorem ok_Mo_tight : okM m_Mo_tight 1 := ⟨by decide, List.mem_of_getElem? (i := 1377) (by decide +kernel), List.mem_of_getElem? (i := 82) (by decide +kernel), by decide +kernel, by decide⟩
abbrev m_Mo_isTight : PMe := (⟨"PetalSetsModel", "isTight", "(I)Z"⟩, prog_13_method_73_code, 3, some .boolean)
theorem ok_Mo_isTight : okM m_Mo_isTight 1 := ⟨by decide, List.mem_of_getElem? (i := 1381) (by decide +kernel), List.mem_of_getElem? (i := 82) (by decide +kernel), by decide +kernel, by decide⟩
abbrev m_Mo_greedy : PMe := (⟨"PetalSetsModel", "greedy", "(I)I"⟩, prog_13_method_75_code, 8, some .int)
theorem ok_Mo_greedy : okM m_Mo_greedy 1 := ⟨by decide, List.mem_of_getElem? (i := 1385) (by decide +kernel), List.mem_of_getElem? (i := 82) (by decide +kernel), by decide +kernel, by decide⟩
abbrev m_Mo_apart : PMe := (⟨"PetalSetsModel", "apart", "(I)I"⟩, prog_13_method_77_code, 4, some .int)
theorem ok_Mo_apart : okM m_Mo_apart 1 := ⟨by decide, List.mem_of_getElem? (i := 1389) (by decide +kernel), List.mem_of_getElem? (i := 82) (by decide +kernel), by decide +kernel, by decide⟩
abbrev m_Mo_unionApart : PMe := (⟨"PetalSetsModel", "unionApart", "(I)I"⟩, prog_13_method_76_code, 4, some .int)
theorem ok_Mo_unionApart : okM m_Mo_unionApart 1 := ⟨by decide, List.mem_of_getElem? (i := 1393) (by decide +kernel), List.mem_of_getElem? (i := 82) (by decide +kernel), by decide +kernel, by decide⟩
abbrev m_Mo_exact : PMe := (⟨"PetalSetsModel", "exact", "(I)I"⟩, prog_13_method_78_code, 6, some .int)
theorem ok_Mo_exact : okM m_Mo_exact 1 := ⟨by decide, List.mem_of_getElem? (i := 1397) (by decide +kernel), List.mem_of_getElem? (i := 82) (by decide +kernel), by decide +kernel, by decide⟩
abbrev m_Mo_halves : PMe := (⟨"PetalSetsModel", "halves", "(I)I"⟩, prog_13_method_80_code, 5, some .int)
theorem ok_Mo_halves : okM m_Mo_halves 1 := ⟨by decide, List.mem_of_getElem? (i := 1401) (by decide +kernel), List.mem_of_getElem? (i := 82) (by decide +kernel), by decide +kernel, by decide⟩
abbrev m_Mo_halvesAll : PMe := (⟨"PetalSetsModel", "halvesAll", "(I)Z"⟩, prog_13_method_79_code, 4, some .boolean)
theorem ok_Mo_halvesAll : okM m_Mo_halvesAll 1 := ⟨by decide, List.mem_of_getElem? (i := 1405) (by decide +kernel), List.mem_of_getElem? (i := 82) (by decide +kernel), by decide +kernel, by decide⟩
abbrev m_Mo_kernel : PMe := (⟨"PetalSetsModel", "kernel", "(II)I"⟩, prog_13_method_85_code, 5, some .int)
theorem ok_Mo_kernel : okM m_Mo_kernel 2 := ⟨by decide, List.mem_of_getElem? (i := 1409) (by decide +kernel), List.mem_of_getElem? (i := 82) (by decide +kernel), by decide +kernel, by decide⟩
abbrev m_Mo_stepsOf : PMe := (⟨"PetalSetsModel", "stepsOf", "(I)I"⟩, prog_13_method_84_code, 4, some .int)
theorem ok_Mo_stepsOf : okM m_Mo_stepsOf 1 := ⟨by decide, List.mem_of_getElem? (i := 1413) (by decide +kernel), List.mem_of_getElem? (i := 82) (by decide +kernel), by decide +kernel, by decide⟩
abbrev m_Mo_kernelSet : PMe := (⟨"PetalSetsModel", "kernelSet", "(II)I"⟩, prog_13_method_86_code, 3, some .int)
theorem ok_Mo_kernelSet : okM m_Mo_kernelSet 2 := ⟨by decide, List.mem_of_getElem? (i := 1417) (by decide +kernel), List.mem_of_getElem? (i := 82) (by decide +kernel), by decide +kernel, by decide⟩
abbrev m_Mo_step : PMe := (⟨"PetalSetsModel", "step", "(III)I"⟩, prog_13_method_87_code, 4, some .int)
theorem ok_Mo_step : okM m_Mo_step 3 := ⟨by decide, List.mem_of_getElem? (i := 1421) (by decide +kernel), List.mem_of_getElem? (i := 82) (by decide +kernel), by decide +kernel, by decide⟩
abbrev m_Mo_can : PMe := (⟨"PetalSetsModel", "can", "(I)I"⟩, prog_13_method_88_code, 2, some .int)
theorem ok_Mo_can : okM m_Mo_can 1 := ⟨by decide, List.mem_of_getElem? (i := 1425) (by decide +kernel), List.mem_of_getElem? (i := 82) (by decide +kernel), by decide +kernel, by decide⟩
abbrev m_Mo_link : PMe := (⟨"PetalSetsModel", "link", "(II)I"⟩, prog_13_method_90_code, 4, some .int)
theorem ok_Mo_link : okM m_Mo_link 2 := ⟨by decide, List.mem_of_getElem? (i := 1429) (by decide +kernel), List.mem_of_getElem? (i := 82) (by decide +kernel), by decide +kernel, by decide⟩
abbrev m_Mo_laysOne : PMe := (⟨"PetalSetsModel", "laysOne", "(I)V"⟩, prog_13_method_42_code, 2, none)
theorem ok_Mo_laysOne : okM m_Mo_laysOne 1 := ⟨by decide, List.mem_of_getElem? (i := 1433) (by decide +kernel), List.mem_of_getElem? (i := 82) (by decide +kernel), by decide +kernel, by decide⟩
abbrev m_Mo_greatestOfRow : PMe := (⟨"PetalSetsModel", "greatestOfRow", "()I"⟩, prog_13_method_89_code, 1, some .int)
theorem ok_Mo_greatestOfRow : okM m_Mo_greatestOfRow 0 := ⟨by decide, List.mem_of_getElem? (i := 1437) (by decide +kernel), List.mem_of_getElem? (i := 82) (by decide +kernel), by decide +kernel, by decide⟩
abbrev m_Mo_withSet : PMe := (⟨"PetalSetsModel", "withSet", "(I)I"⟩, prog_13_method_91_code, 2, some .int)
theorem ok_Mo_withSet : okM m_Mo_withSet 1 := ⟨by decide, List.mem_of_getElem? (i := 1441) (by decide +kernel), List.mem_of_getElem? (i := 82) (by decide +kernel), by decide +kernel, by decide⟩
abbrev m_Mo_withoutSet : PMe := (⟨"PetalSetsModel", "withoutSet", "(I)I"⟩, prog_13_method_92_code, 3, some .int)
theorem ok_Mo_withoutSet : okM m_Mo_withoutSet 1 := ⟨by decide, List.mem_of_getElem? (i := 1445) (by decide +kernel), List.mem_of_getElem? (i := 82) (by decide +kernel), by decide +kernel, by decide⟩
abbrev m_Mo_freeNext : PMe := (⟨"PetalSetsModel", "freeNext", "(I)I"⟩, prog_13_method_95_code, 4, some .int)
theorem ok_Mo_freeNext : okM m_Mo_freeNext 1 := ⟨by decide, List.mem_of_getElem? (i := 1449) (by decide +kernel), List.mem_of_getElem? (i := 82) (by decide +kernel), by decide +kernel, by decide⟩
abbrev m_Mo_laysSmall : PMe := (⟨"PetalSetsModel", "laysSmall", "(I)V"⟩, prog_13_method_93_code, 6, none)
theorem ok_Mo_laysSmall : okM m_Mo_laysSmall 1 := ⟨by decide, List.mem_of_getElem? (i := 1453) (by decide +kernel), List.mem_of_getElem? (i := 82) (by decide +kernel), by decide +kernel, by decide⟩
abbrev m_Mo_isCatching : PMe := (⟨"PetalSetsModel", "isCatching", "(II)Z"⟩, prog_13_method_94_code, 4, some .boolean)
theorem ok_Mo_isCatching : okM m_Mo_isCatching 2 := ⟨by decide, List.mem_of_getElem? (i := 1457) (by decide +kernel), List.mem_of_getElem? (i := 82) (by decide +kernel), by decide +kernel, by decide⟩
abbrev m_Mo_spell : PMe := (⟨"PetalSetsModel", "spell", "(I)I"⟩, prog_13_method_101_code, 3, some .int)
theorem ok_Mo_spell : okM m_Mo_spell 1 := ⟨by decide, List.mem_of_getElem? (i := 1461) (by decide +kernel), List.mem_of_getElem? (i := 82) (by decide +kernel), by decide +kernel, by decide⟩
abbrev m_Mo_writesWord : PMe := (⟨"PetalSetsModel", "writesWord", "(I)V"⟩, prog_13_method_97_code, 3, none)
theorem ok_Mo_writesWord : okM m_Mo_writesWord 1 := ⟨by decide, List.mem_of_getElem? (i := 1465) (by decide +kernel), List.mem_of_getElem? (i := 82) (by decide +kernel), by decide +kernel, by decide⟩
abbrev m_Mo_wordFrom : PMe := (⟨"PetalSetsModel", "wordFrom", "(I)I"⟩, prog_13_method_108_code, 4, some .int)
theorem ok_Mo_wordFrom : okM m_Mo_wordFrom 1 := ⟨by decide, List.mem_of_getElem? (i := 1469) (by decide +kernel), List.mem_of_getElem? (i := 82) (by decide +kernel), by decide +kernel, by decide⟩
abbrev m_Mo_writes : PMe := (⟨"PetalSetsModel", "writes", "(I)V"⟩, prog_13_method_96_code, 2, none)
theorem ok_Mo_writes : okM m_Mo_writes 1 := ⟨by decide, List.mem_of_getElem? (i := 1473) (by decide +kernel), List.mem_of_getElem? (i := 82) (by decide +kernel), by decide +kernel, by decide⟩
abbrev m_Mo_writesNumber : PMe := (⟨"PetalSetsModel", "writesNumber", "(I)V"⟩, prog_13_method_98_code, 2, none)
theorem ok_Mo_writesNumber : okM m_Mo_writesNumber 1 := ⟨by decide, List.mem_of_getElem? (i := 1477) (by decide +kernel), List.mem_of_getElem? (i := 82) (by decide +kernel), by decide +kernel, by decide⟩
abbrev m_Mo_writesLetters : PMe := (⟨"PetalSetsModel", "writesLetters", "(I)V"⟩, prog_13_method_99_code, 3, none)
theorem ok_Mo_writesLetters : okM m_Mo_writesLetters 1 := ⟨by decide, List.mem_of_getElem? (i := 1481) (by decide +kernel), List.mem_of_getElem? (i := 82) (by decide +kernel), by decide +kernel, by decide⟩
abbrev m_Mo_toldText : PMe := (⟨"PetalSetsModel", "toldText", "(I)I"⟩, prog_13_method_100_code, 2, some .int)
theorem ok_Mo_toldText : okM m_Mo_toldText 1 := ⟨by decide, List.mem_of_getElem? (i := 1485) (by decide +kernel), List.mem_of_getElem? (i := 82) (by decide +kernel), by decide +kernel, by decide⟩
abbrev m_Mo_report : PMe := (⟨"PetalSetsModel", "report", "(II)I"⟩, prog_13_method_102_code, 5, some .int)
theorem ok_Mo_report : okM m_Mo_report 2 := ⟨by decide, List.mem_of_getElem? (i := 1489) (by decide +kernel), List.mem_of_getElem? (i := 82) (by decide +kernel), by decide +kernel, by decide⟩
abbrev m_Mo_count : PMe := (⟨"PetalSetsModel", "count", "(I)I"⟩, prog_13_method_105_code, 2, some .int)
theorem ok_Mo_count : okM m_Mo_count 1 := ⟨by decide, List.mem_of_getElem? (i := 1493) (by decide +kernel), List.mem_of_getElem? (i := 82) (by decide +kernel), by decide +kernel, by decide⟩
abbrev m_Mo_greatestSize : PMe := (⟨"PetalSetsModel", "greatestSize", "()I"⟩, prog_13_method_103_code, 2, some .int)
theorem ok_Mo_greatestSize : okM m_Mo_greatestSize 0 := ⟨by decide, List.mem_of_getElem? (i := 1497) (by decide +kernel), List.mem_of_getElem? (i := 82) (by decide +kernel), by decide +kernel, by decide⟩
abbrev m_Mo_leastSize : PMe := (⟨"PetalSetsModel", "leastSize", "()I"⟩, prog_13_method_104_code, 2, some .int)
theorem ok_Mo_leastSize : okM m_Mo_leastSize 0 := ⟨by decide, List.mem_of_getElem? (i := 1501) (by decide +kernel), List.mem_of_getElem? (i := 82) (by decide +kernel), by decide +kernel, by decide⟩
abbrev m_Mo_feed : PMe := (⟨"PetalSetsModel", "feed", "(IIIII)I"⟩, prog_13_method_106_code, 8, some .int)
theorem ok_Mo_feed : okM m_Mo_feed 5 := ⟨by decide, List.mem_of_getElem? (i := 1505) (by decide +kernel), List.mem_of_getElem? (i := 82) (by decide +kernel), by decide +kernel, by decide⟩
abbrev m_Mo_back : PMe := (⟨"PetalSetsModel", "back", "(I)I"⟩, prog_13_method_107_code, 2, some .int)
theorem ok_Mo_back : okM m_Mo_back 1 := ⟨by decide, List.mem_of_getElem? (i := 1509) (by decide +kernel), List.mem_of_getElem? (i := 82) (by decide +kernel), by decide +kernel, by decide⟩
abbrev m_Mo_text : PMe := (⟨"PetalSetsModel", "text", "()I"⟩, prog_13_method_115_code, 3, some .int)
theorem ok_Mo_text : okM m_Mo_text 0 := ⟨by decide, List.mem_of_getElem? (i := 1513) (by decide +kernel), List.mem_of_getElem? (i := 82) (by decide +kernel), by decide +kernel, by decide⟩
abbrev m_Mo_goesOn : PMe := (⟨"PetalSetsModel", "goesOn", "()V"⟩, prog_13_method_110_code, 5, none)
theorem ok_Mo_goesOn : okM m_Mo_goesOn 0 := ⟨by decide, List.mem_of_getElem? (i := 1517) (by decide +kernel), List.mem_of_getElem? (i := 82) (by decide +kernel), by decide +kernel, by decide⟩
abbrev m_Mo_here : PMe := (⟨"PetalSetsModel", "here", "()I"⟩, prog_13_method_109_code, 1, some .int)
theorem ok_Mo_here : okM m_Mo_here 0 := ⟨by decide, List.mem_of_getElem? (i := 1521) (by decide +kernel), List.mem_of_getElem? (i := 82) (by decide +kernel), by decide +kernel, by decide⟩
abbrev m_Mo_readsOne : PMe := (⟨"PetalSetsModel", "readsOne", "(Z)V"⟩, prog_13_method_114_code, 3, none)
theorem ok_Mo_readsOne : okM m_Mo_readsOne 1 := ⟨by decide, List.mem_of_getElem? (i := 1525) (by decide +kernel), List.mem_of_getElem? (i := 82) (by decide +kernel), by decide +kernel, by decide⟩
abbrev m_Mo_takesWord : PMe := (⟨"PetalSetsModel", "takesWord", "(I)Z"⟩, prog_13_method_111_code, 4, some .boolean)
theorem ok_Mo_takesWord : okM m_Mo_takesWord 1 := ⟨by decide, List.mem_of_getElem? (i := 1529) (by decide +kernel), List.mem_of_getElem? (i := 82) (by decide +kernel), by decide +kernel, by decide⟩
abbrev m_Mo_readsPoints : PMe := (⟨"PetalSetsModel", "readsPoints", "()V"⟩, prog_13_method_112_code, 1, none)
theorem ok_Mo_readsPoints : okM m_Mo_readsPoints 0 := ⟨by decide, List.mem_of_getElem? (i := 1533) (by decide +kernel), List.mem_of_getElem? (i := 82) (by decide +kernel), by decide +kernel, by decide⟩
abbrev m_Mo_readsSet : PMe := (⟨"PetalSetsModel", "readsSet", "(I)V"⟩, prog_13_method_113_code, 5, none)
theorem ok_Mo_readsSet : okM m_Mo_readsSet 1 := ⟨by decide, List.mem_of_getElem? (i := 1537) (by decide +kernel), List.mem_of_getElem? (i := 82) (by decide +kernel), by decide +kernel, by decide⟩
theorem mv_Law_13 : MV "PetalSetsLaw" 13 m_PS_feed 5 := ⟨ok_PS_feed, List.mem_of_getElem? (i := 326) (by decide +kernel), List.mem_of_getElem? (i := 327) (by decide +kernel), List.mem_of_getElem? (i := 328) (by decide +kernel)⟩
theorem mv_PS_79 : MV "PetalSets" 79 m_Tape_putFour 1 := ⟨ok_Tape_putFour, List.mem_of_getElem? (i := 330) (by decide +kernel), List.mem_of_getElem? (i := 331) (by decide +kernel), List.mem_of_getElem? (i := 332) (by decide +kernel)⟩
theorem mv_Law_18 : MV "PetalSetsLaw" 18 m_PS_back 1 := ⟨ok_PS_back, List.mem_of_getElem? (i := 334) (by decide +kernel), List.mem_of_getElem? (i := 335) (by decide +kernel), List.mem_of_getElem? (i := 336) (by decide +kernel)⟩
theorem mv_Law_23 : MV "PetalSetsLaw" 23 m_PS_text 0 := ⟨ok_PS_text, List.mem_of_getElem? (i := 338) (by decide +kernel), List.mem_of_getElem? (i := 339) (by decide +kernel), List.mem_of_getElem? (i := 340) (by decide +kernel)⟩
theorem mv_PS_83 : MV "PetalSets" 83 m_Reader_read 2 := ⟨ok_Reader_read, List.mem_of_getElem? (i := 342) (by decide +kernel), List.mem_of_getElem? (i := 343) (by decide +kernel), List.mem_of_getElem? (i := 344) (by decide +kernel)⟩
theorem mv_Reader_15 : MV "PetalSets$Reader" 15 m_Family_startAnew 1 := ⟨ok_Family_startAnew, List.mem_of_getElem? (i := 346) (by decide +kernel), List.mem_of_getElem? (i := 347) (by decide +kernel), List.mem_of_getElem? (i := 348) (by decide +kernel)⟩
theorem mv_Reader_21 : MV "PetalSets$Reader" 21 m_Reader_skipBlanks 1 := ⟨ok_Reader_skipBlanks, List.mem_of_getElem? (i := 350) (by decide +kernel), List.mem_of_getElem? (i := 352) (by decide +kernel), List.mem_of_getElem? (i := 0) (by decide +kernel)⟩
theorem mv_Reader_43 : MV "PetalSets$Reader" 43 m_Tape_isBlank 1 := ⟨ok_Tape_isBlank, List.mem_of_getElem? (i := 354) (by decide +kernel), List.mem_of_getElem? (i := 355) (by decide +kernel), List.mem_of_getElem? (i := 356) (by decide +kernel)⟩
theorem mv_Tape_19 : MV "PetalSets$Tape" 19 m_Tape_at 1 := ⟨ok_Tape_at, List.mem_of_getElem? (i := 358) (by decide +kernel), List.mem_of_getElem? (i := 359) (by decide +kernel), List.mem_of_getElem? (i := 360) (by decide +kernel)⟩
theorem mv_Reader_27 : MV "PetalSets$Reader" 27 m_Reader_isWord 2 := ⟨ok_Reader_isWord, List.mem_of_getElem? (i := 363) (by decide +kernel), List.mem_of_getElem? (i := 365) (by decide +kernel), List.mem_of_getElem? (i := 1) (by decide +kernel)⟩
theorem mv_Reader_81 : MV "PetalSets$Reader" 81 m_St_length 0 := ⟨ok_St_length, List.mem_of_getElem? (i := 367) (by decide +kernel), List.mem_of_getElem? (i := 368) (by decide +kernel), List.mem_of_getElem? (i := 369) (by decide +kernel)⟩
theorem mv_St_335 : MV "java/lang/String" 335 m_St_coder 0 := ⟨ok_St_coder, List.mem_of_getElem? (i := 371) (by decide +kernel), List.mem_of_getElem? (i := 372) (by decide +kernel), List.mem_of_getElem? (i := 373) (by decide +kernel)⟩
theorem mv_Reader_50 : MV "PetalSets$Reader" 50 m_Tape_at 1 := ⟨ok_Tape_at, List.mem_of_getElem? (i := 377) (by decide +kernel), List.mem_of_getElem? (i := 359) (by decide +kernel), List.mem_of_getElem? (i := 360) (by decide +kernel)⟩
theorem mv_Reader_86 : MV "PetalSets$Reader" 86 m_St_charAt 1 := ⟨ok_St_charAt, List.mem_of_getElem? (i := 378) (by decide +kernel), List.mem_of_getElem? (i := 379) (by decide +kernel), List.mem_of_getElem? (i := 380) (by decide +kernel)⟩
theorem mv_St_492 : MV "java/lang/String" 492 m_St_isLatin1 0 := ⟨ok_St_isLatin1, List.mem_of_getElem? (i := 382) (by decide +kernel), List.mem_of_getElem? (i := 383) (by decide +kernel), List.mem_of_getElem? (i := 384) (by decide +kernel)⟩
theorem ms_St_495 : MS "java/lang/String" 495 m_SL_charAt 2 := ⟨ok_SL_charAt, List.mem_of_getElem? (i := 386) (by decide +kernel), List.mem_of_getElem? (i := 387) (by decide +kernel)⟩
theorem ms_SL_9 : MS "java/lang/StringLatin1" 9 m_St_checkIndex 2 := ⟨ok_St_checkIndex, List.mem_of_getElem? (i := 389) (by decide +kernel), List.mem_of_getElem? (i := 390) (by decide +kernel)⟩
theorem ms_St_1059 : MS "java/lang/String" 1059 m_Pr_checkIndex 3 := ⟨ok_Pr_checkIndex, List.mem_of_getElem? (i := 394) (by decide +kernel), List.mem_of_getElem? (i := 395) (by decide +kernel)⟩
theorem ms_St_498 : MS "java/lang/String" 498 m_SU_charAt 2 := ⟨ok_SU_charAt, List.mem_of_getElem? (i := 397) (by decide +kernel), List.mem_of_getElem? (i := 398) (by decide +kernel)⟩
theorem ms_SU_67 : MS "java/lang/StringUTF16" 67 m_SU_checkIndex 2 := ⟨ok_SU_checkIndex, List.mem_of_getElem? (i := 400) (by decide +kernel), List.mem_of_getElem? (i := 401) (by decide +kernel)⟩
theorem ms_SU_48 : MS "java/lang/StringUTF16" 48 m_SU_length 1 := ⟨ok_SU_length, List.mem_of_getElem? (i := 403) (by decide +kernel), List.mem_of_getElem? (i := 404) (by decide +kernel)⟩
theorem ms_SU_414 : MS "java/lang/StringUTF16" 414 m_St_checkIndex 2 := ⟨ok_St_checkIndex, List.mem_of_getElem? (i := 406) (by decide +kernel), List.mem_of_getElem? (i := 390) (by decide +kernel)⟩
theorem ms_SU_71 : MS "java/lang/StringUTF16" 71 m_SU_getChar 2 := ⟨ok_SU_getChar, List.mem_of_getElem? (i := 407) (by decide +kernel), List.mem_of_getElem? (i := 408) (by decide +kernel)⟩
theorem mv_Reader_75 : MV "PetalSets$Reader" 75 m_Tape_isLetter 1 := ⟨ok_Tape_isLetter, List.mem_of_getElem? (i := 416) (by decide +kernel), List.mem_of_getElem? (i := 417) (by decide +kernel), List.mem_of_getElem? (i := 418) (by decide +kernel)⟩
theorem mv_Reader_31 : MV "PetalSets$Reader" 31 m_Reader_readPoints 2 := ⟨ok_Reader_readPoints, List.mem_of_getElem? (i := 420) (by decide +kernel), List.mem_of_getElem? (i := 422) (by decide +kernel), List.mem_of_getElem? (i := 2) (by decide +kernel)⟩
theorem mv_Reader_47 : MV "PetalSets$Reader" 47 m_Tape_isDigit 1 := ⟨ok_Tape_isDigit, List.mem_of_getElem? (i := 424) (by decide +kernel), List.mem_of_getElem? (i := 425) (by decide +kernel), List.mem_of_getElem? (i := 426) (by decide +kernel)⟩
theorem mv_Reader_54 : MV "PetalSets$Reader" 54 m_Reader_readEnd 1 := ⟨ok_Reader_readEnd, List.mem_of_getElem? (i := 428) (by decide +kernel), List.mem_of_getElem? (i := 430) (by decide +kernel), List.mem_of_getElem? (i := 3) (by decide +kernel)⟩
theorem mv_Reader_40 : MV "PetalSets$Reader" 40 m_Reader_readSet 2 := ⟨ok_Reader_readSet, List.mem_of_getElem? (i := 432) (by decide +kernel), List.mem_of_getElem? (i := 434) (by decide +kernel), List.mem_of_getElem? (i := 4) (by decide +kernel)⟩
theorem mv_Reader_63 : MV "PetalSets$Reader" 63 m_Reader_readLetters 2 := ⟨ok_Reader_readLetters, List.mem_of_getElem? (i := 437) (by decide +kernel), List.mem_of_getElem? (i := 439) (by decide +kernel), List.mem_of_getElem? (i := 5) (by decide +kernel)⟩
theorem mv_Reader_78 : MV "PetalSets$Reader" 78 m_Family_isPoint 1 := ⟨ok_Family_isPoint, List.mem_of_getElem? (i := 441) (by decide +kernel), List.mem_of_getElem? (i := 442) (by decide +kernel), List.mem_of_getElem? (i := 443) (by decide +kernel)⟩
theorem mv_Reader_66 : MV "PetalSets$Reader" 66 m_Family_isSet 1 := ⟨ok_Family_isSet, List.mem_of_getElem? (i := 445) (by decide +kernel), List.mem_of_getElem? (i := 446) (by decide +kernel), List.mem_of_getElem? (i := 447) (by decide +kernel)⟩
theorem mv_Family_22 : MV "PetalSets$Family" 22 m_Family_allPoints 0 := ⟨ok_Family_allPoints, List.mem_of_getElem? (i := 449) (by decide +kernel), List.mem_of_getElem? (i := 450) (by decide +kernel), List.mem_of_getElem? (i := 451) (by decide +kernel)⟩
theorem mv_Reader_69 : MV "PetalSets$Reader" 69 m_Family_find 1 := ⟨ok_Family_find, List.mem_of_getElem? (i := 453) (by decide +kernel), List.mem_of_getElem? (i := 454) (by decide +kernel), List.mem_of_getElem? (i := 455) (by decide +kernel)⟩
theorem mv_Reader_72 : MV "PetalSets$Reader" 72 m_Family_append 1 := ⟨ok_Family_append, List.mem_of_getElem? (i := 457) (by decide +kernel), List.mem_of_getElem? (i := 458) (by decide +kernel), List.mem_of_getElem? (i := 459) (by decide +kernel)⟩
theorem mv_PS_87 : MV "PetalSets" 87 m_Family_copyFrom 1 := ⟨ok_Family_copyFrom, List.mem_of_getElem? (i := 461) (by decide +kernel), List.mem_of_getElem? (i := 462) (by decide +kernel), List.mem_of_getElem? (i := 463) (by decide +kernel)⟩
theorem mv_Family_51 : MV "PetalSets$Family" 51 m_Family_startAnew 1 := ⟨ok_Family_startAnew, List.mem_of_getElem? (i := 465) (by decide +kernel), List.mem_of_getElem? (i := 347) (by decide +kernel), List.mem_of_getElem? (i := 348) (by decide +kernel)⟩
theorem mv_Family_47 : MV "PetalSets$Family" 47 m_Family_append 1 := ⟨ok_Family_append, List.mem_of_getElem? (i := 466) (by decide +kernel), List.mem_of_getElem? (i := 458) (by decide +kernel), List.mem_of_getElem? (i := 459) (by decide +kernel)⟩
theorem mv_PS_91 : MV "PetalSets" 91 m_History_forget 0 := ⟨ok_History_forget, List.mem_of_getElem? (i := 467) (by decide +kernel), List.mem_of_getElem? (i := 468) (by decide +kernel), List.mem_of_getElem? (i := 469) (by decide +kernel)⟩
theorem mv_Law_28 : MV "PetalSetsLaw" 28 m_PS_add 1 := ⟨ok_PS_add, List.mem_of_getElem? (i := 471) (by decide +kernel), List.mem_of_getElem? (i := 472) (by decide +kernel), List.mem_of_getElem? (i := 473) (by decide +kernel)⟩
theorem mv_PS_97 : MV "PetalSets" 97 m_Family_isSet 1 := ⟨ok_Family_isSet, List.mem_of_getElem? (i := 475) (by decide +kernel), List.mem_of_getElem? (i := 446) (by decide +kernel), List.mem_of_getElem? (i := 447) (by decide +kernel)⟩
theorem mv_PS_101 : MV "PetalSets" 101 m_Family_find 1 := ⟨ok_Family_find, List.mem_of_getElem? (i := 476) (by decide +kernel), List.mem_of_getElem? (i := 454) (by decide +kernel), List.mem_of_getElem? (i := 455) (by decide +kernel)⟩
theorem mv_PS_105 : MV "PetalSets" 105 m_History_keep 1 := ⟨ok_History_keep, List.mem_of_getElem? (i := 477) (by decide +kernel), List.mem_of_getElem? (i := 478) (by decide +kernel), List.mem_of_getElem? (i := 479) (by decide +kernel)⟩
theorem mv_History_36 : MV "PetalSets$History" 36 m_Family_at 1 := ⟨ok_Family_at, List.mem_of_getElem? (i := 484) (by decide +kernel), List.mem_of_getElem? (i := 485) (by decide +kernel), List.mem_of_getElem? (i := 486) (by decide +kernel)⟩
theorem mv_PS_108 : MV "PetalSets" 108 m_Family_append 1 := ⟨ok_Family_append, List.mem_of_getElem? (i := 488) (by decide +kernel), List.mem_of_getElem? (i := 458) (by decide +kernel), List.mem_of_getElem? (i := 459) (by decide +kernel)⟩
theorem mv_Law_32 : MV "PetalSetsLaw" 32 m_PS_drop 1 := ⟨ok_PS_drop, List.mem_of_getElem? (i := 489) (by decide +kernel), List.mem_of_getElem? (i := 490) (by decide +kernel), List.mem_of_getElem? (i := 491) (by decide +kernel)⟩
theorem mv_PS_111 : MV "PetalSets" 111 m_Family_holds 1 := ⟨ok_Family_holds, List.mem_of_getElem? (i := 493) (by decide +kernel), List.mem_of_getElem? (i := 494) (by decide +kernel), List.mem_of_getElem? (i := 495) (by decide +kernel)⟩
theorem mv_PS_114 : MV "PetalSets" 114 m_Family_takeOut 1 := ⟨ok_Family_takeOut, List.mem_of_getElem? (i := 497) (by decide +kernel), List.mem_of_getElem? (i := 498) (by decide +kernel), List.mem_of_getElem? (i := 499) (by decide +kernel)⟩
theorem mv_Law_37 : MV "PetalSetsLaw" 37 m_PS_change 2 := ⟨ok_PS_change, List.mem_of_getElem? (i := 501) (by decide +kernel), List.mem_of_getElem? (i := 502) (by decide +kernel), List.mem_of_getElem? (i := 503) (by decide +kernel)⟩
theorem mv_PS_117 : MV "PetalSets" 117 m_Family_at 1 := ⟨ok_Family_at, List.mem_of_getElem? (i := 505) (by decide +kernel), List.mem_of_getElem? (i := 485) (by decide +kernel), List.mem_of_getElem? (i := 486) (by decide +kernel)⟩
theorem mv_Law_42 : MV "PetalSetsLaw" 42 m_PS_swap 2 := ⟨ok_PS_swap, List.mem_of_getElem? (i := 506) (by decide +kernel), List.mem_of_getElem? (i := 507) (by decide +kernel), List.mem_of_getElem? (i := 508) (by decide +kernel)⟩
theorem mv_PS_124 : MV "PetalSets" 124 m_Family_isPoint 1 := ⟨ok_Family_isPoint, List.mem_of_getElem? (i := 510) (by decide +kernel), List.mem_of_getElem? (i := 442) (by decide +kernel), List.mem_of_getElem? (i := 443) (by decide +kernel)⟩
theorem mv_PS_130 : MV "PetalSets" 130 m_Family_startAnew 1 := ⟨ok_Family_startAnew, List.mem_of_getElem? (i := 511) (by decide +kernel), List.mem_of_getElem? (i := 347) (by decide +kernel), List.mem_of_getElem? (i := 348) (by decide +kernel)⟩
theorem ms_PS_133 : MS "PetalSets" 133 m_Ig_bitCount 1 := ⟨ok_Ig_bitCount, List.mem_of_getElem? (i := 512) (by decide +kernel), List.mem_of_getElem? (i := 513) (by decide +kernel)⟩
theorem mv_PS_138 : MV "PetalSets" 138 m_PS_becomeIfChanged 0 := ⟨ok_PS_becomeIfChanged, List.mem_of_getElem? (i := 518) (by decide +kernel), List.mem_of_getElem? (i := 520) (by decide +kernel), List.mem_of_getElem? (i := 6) (by decide +kernel)⟩
theorem mv_PS_148 : MV "PetalSets" 148 m_PS_become 0 := ⟨ok_PS_become, List.mem_of_getElem? (i := 522) (by decide +kernel), List.mem_of_getElem? (i := 524) (by decide +kernel), List.mem_of_getElem? (i := 7) (by decide +kernel)⟩
theorem mv_Law_46 : MV "PetalSetsLaw" 46 m_PS_without 1 := ⟨ok_PS_without, List.mem_of_getElem? (i := 526) (by decide +kernel), List.mem_of_getElem? (i := 527) (by decide +kernel), List.mem_of_getElem? (i := 528) (by decide +kernel)⟩
theorem mv_PS_142 : MV "PetalSets" 142 m_Family_setsWith 1 := ⟨ok_Family_setsWith, List.mem_of_getElem? (i := 530) (by decide +kernel), List.mem_of_getElem? (i := 531) (by decide +kernel), List.mem_of_getElem? (i := 532) (by decide +kernel)⟩
theorem mv_PS_145 : MV "PetalSets" 145 m_Family_appendNew 1 := ⟨ok_Family_appendNew, List.mem_of_getElem? (i := 534) (by decide +kernel), List.mem_of_getElem? (i := 535) (by decide +kernel), List.mem_of_getElem? (i := 536) (by decide +kernel)⟩
theorem mv_Family_44 : MV "PetalSets$Family" 44 m_Family_find 1 := ⟨ok_Family_find, List.mem_of_getElem? (i := 538) (by decide +kernel), List.mem_of_getElem? (i := 454) (by decide +kernel), List.mem_of_getElem? (i := 455) (by decide +kernel)⟩
theorem mv_Law_50 : MV "PetalSetsLaw" 50 m_PS_only 2 := ⟨ok_PS_only, List.mem_of_getElem? (i := 539) (by decide +kernel), List.mem_of_getElem? (i := 540) (by decide +kernel), List.mem_of_getElem? (i := 541) (by decide +kernel)⟩
theorem mv_PS_151 : MV "PetalSets" 151 m_Family_allSets 0 := ⟨ok_Family_allSets, List.mem_of_getElem? (i := 543) (by decide +kernel), List.mem_of_getElem? (i := 544) (by decide +kernel), List.mem_of_getElem? (i := 545) (by decide +kernel)⟩
theorem mv_PS_154 : MV "PetalSets" 154 m_PS_letGo 1 := ⟨ok_PS_letGo, List.mem_of_getElem? (i := 547) (by decide +kernel), List.mem_of_getElem? (i := 549) (by decide +kernel), List.mem_of_getElem? (i := 8) (by decide +kernel)⟩
theorem mv_Law_55 : MV "PetalSetsLaw" 55 m_PS_join 2 := ⟨ok_PS_join, List.mem_of_getElem? (i := 551) (by decide +kernel), List.mem_of_getElem? (i := 552) (by decide +kernel), List.mem_of_getElem? (i := 553) (by decide +kernel)⟩
theorem mv_Law_59 : MV "PetalSetsLaw" 59 m_PS_turn 0 := ⟨ok_PS_turn, List.mem_of_getElem? (i := 555) (by decide +kernel), List.mem_of_getElem? (i := 556) (by decide +kernel), List.mem_of_getElem? (i := 557) (by decide +kernel)⟩
theorem mv_PS_157 : MV "PetalSets" 157 m_Family_allPoints 0 := ⟨ok_Family_allPoints, List.mem_of_getElem? (i := 559) (by decide +kernel), List.mem_of_getElem? (i := 450) (by decide +kernel), List.mem_of_getElem? (i := 451) (by decide +kernel)⟩
theorem mv_Law_63 : MV "PetalSetsLaw" 63 m_PS_flip 0 := ⟨ok_PS_flip, List.mem_of_getElem? (i := 560) (by decide +kernel), List.mem_of_getElem? (i := 561) (by decide +kernel), List.mem_of_getElem? (i := 562) (by decide +kernel)⟩
theorem mv_Law_67 : MV "PetalSetsLaw" 67 m_PS_reduce 1 := ⟨ok_PS_reduce, List.mem_of_getElem? (i := 564) (by decide +kernel), List.mem_of_getElem? (i := 565) (by decide +kernel), List.mem_of_getElem? (i := 566) (by decide +kernel)⟩
theorem ms_PS_160 : MS "PetalSets" 160 m_PS_isBudget 1 := ⟨ok_PS_isBudget, List.mem_of_getElem? (i := 568) (by decide +kernel), List.mem_of_getElem? (i := 569) (by decide +kernel)⟩
theorem mv_PS_163 : MV "PetalSets" 163 m_Kernel_run 2 := ⟨ok_Kernel_run, List.mem_of_getElem? (i := 571) (by decide +kernel), List.mem_of_getElem? (i := 572) (by decide +kernel), List.mem_of_getElem? (i := 573) (by decide +kernel)⟩
theorem mv_Kernel_45 : MV "PetalSets$Kernel" 45 m_Family_sameAs 1 := ⟨ok_Family_sameAs, List.mem_of_getElem? (i := 575) (by decide +kernel), List.mem_of_getElem? (i := 576) (by decide +kernel), List.mem_of_getElem? (i := 577) (by decide +kernel)⟩
theorem mv_Kernel_49 : MV "PetalSets$Kernel" 49 m_Family_copyFrom 1 := ⟨ok_Family_copyFrom, List.mem_of_getElem? (i := 579) (by decide +kernel), List.mem_of_getElem? (i := 462) (by decide +kernel), List.mem_of_getElem? (i := 463) (by decide +kernel)⟩
theorem mv_Kernel_53 : MV "PetalSets$Kernel" 53 m_Kernel_takeStep 1 := ⟨ok_Kernel_takeStep, List.mem_of_getElem? (i := 580) (by decide +kernel), List.mem_of_getElem? (i := 582) (by decide +kernel), List.mem_of_getElem? (i := 9) (by decide +kernel)⟩
theorem mv_Kernel_57 : MV "PetalSets$Kernel" 57 m_Kernel_firstWithInner 0 := ⟨ok_Kernel_firstWithInner, List.mem_of_getElem? (i := 584) (by decide +kernel), List.mem_of_getElem? (i := 586) (by decide +kernel), List.mem_of_getElem? (i := 10) (by decide +kernel)⟩
theorem mv_Kernel_84 : MV "PetalSets$Kernel" 84 m_Family_at 1 := ⟨ok_Family_at, List.mem_of_getElem? (i := 588) (by decide +kernel), List.mem_of_getElem? (i := 485) (by decide +kernel), List.mem_of_getElem? (i := 486) (by decide +kernel)⟩
theorem mv_Kernel_61 : MV "PetalSets$Kernel" 61 m_Family_takeOut 1 := ⟨ok_Family_takeOut, List.mem_of_getElem? (i := 589) (by decide +kernel), List.mem_of_getElem? (i := 498) (by decide +kernel), List.mem_of_getElem? (i := 499) (by decide +kernel)⟩
theorem mv_Kernel_65 : MV "PetalSets$Kernel" 65 m_Kernel_noteStep 3 := ⟨ok_Kernel_noteStep, List.mem_of_getElem? (i := 590) (by decide +kernel), List.mem_of_getElem? (i := 592) (by decide +kernel), List.mem_of_getElem? (i := 11) (by decide +kernel)⟩
theorem ms_Kernel_69 : MS "PetalSets$Kernel" 69 m_Petals_leastFlower 2 := ⟨ok_Petals_leastFlower, List.mem_of_getElem? (i := 594) (by decide +kernel), List.mem_of_getElem? (i := 595) (by decide +kernel)⟩
theorem mv_Petals_15 : MV "PetalSets$Petals" 15 m_Family_at 1 := ⟨ok_Family_at, List.mem_of_getElem? (i := 597) (by decide +kernel), List.mem_of_getElem? (i := 485) (by decide +kernel), List.mem_of_getElem? (i := 486) (by decide +kernel)⟩
theorem ms_Petals_33 : MS "PetalSets$Petals" 33 m_Petals_fitting 4 := ⟨ok_Petals_fitting, List.mem_of_getElem? (i := 598) (by decide +kernel), List.mem_of_getElem? (i := 599) (by decide +kernel)⟩
theorem ms_Petals_47 : MS "PetalSets$Petals" 47 m_Petals_meetingIn 4 := ⟨ok_Petals_meetingIn, List.mem_of_getElem? (i := 601) (by decide +kernel), List.mem_of_getElem? (i := 602) (by decide +kernel)⟩
theorem ms_Petals_29 : MS "PetalSets$Petals" 29 m_Petals_leastClique 4 := ⟨ok_Petals_leastClique, List.mem_of_getElem? (i := 604) (by decide +kernel), List.mem_of_getElem? (i := 605) (by decide +kernel)⟩
theorem ms_Petals_39 : MS "PetalSets$Petals" 39 m_Ig_bitCount 1 := ⟨ok_Ig_bitCount, List.mem_of_getElem? (i := 607) (by decide +kernel), List.mem_of_getElem? (i := 513) (by decide +kernel)⟩
theorem ms_Petals_44 : MS "PetalSets$Petals" 44 m_Ig_lowestOneBit 1 := ⟨ok_Ig_lowestOneBit, List.mem_of_getElem? (i := 608) (by decide +kernel), List.mem_of_getElem? (i := 609) (by decide +kernel)⟩
theorem ms_Kernel_75 : MS "PetalSets$Kernel" 75 m_Petals_coreOf 2 := ⟨ok_Petals_coreOf, List.mem_of_getElem? (i := 611) (by decide +kernel), List.mem_of_getElem? (i := 612) (by decide +kernel)⟩
theorem mv_Kernel_78 : MV "PetalSets$Kernel" 78 m_Family_appendNew 1 := ⟨ok_Family_appendNew, List.mem_of_getElem? (i := 614) (by decide +kernel), List.mem_of_getElem? (i := 535) (by decide +kernel), List.mem_of_getElem? (i := 536) (by decide +kernel)⟩
theorem mv_Law_71 : MV "PetalSetsLaw" 71 m_PS_thin 1 := ⟨ok_PS_thin, List.mem_of_getElem? (i := 615) (by decide +kernel), List.mem_of_getElem? (i := 616) (by decide +kernel), List.mem_of_getElem? (i := 617) (by decide +kernel)⟩
theorem ms_PS_177 : MS "PetalSets" 177 m_PS_isFlowerSize 1 := ⟨ok_PS_isFlowerSize, List.mem_of_getElem? (i := 619) (by decide +kernel), List.mem_of_getElem? (i := 620) (by decide +kernel)⟩
theorem mv_PS_180 : MV "PetalSets" 180 m_Thinner_leastFree 2 := ⟨ok_Thinner_leastFree, List.mem_of_getElem? (i := 622) (by decide +kernel), List.mem_of_getElem? (i := 623) (by decide +kernel), List.mem_of_getElem? (i := 624) (by decide +kernel)⟩
theorem mv_Thinner_31 : MV "PetalSets$Thinner" 31 m_Thinner_fillFits 1 := ⟨ok_Thinner_fillFits, List.mem_of_getElem? (i := 627) (by decide +kernel), List.mem_of_getElem? (i := 629) (by decide +kernel), List.mem_of_getElem? (i := 12) (by decide +kernel)⟩
theorem mv_Thinner_39 : MV "PetalSets$Thinner" 39 m_Family_at 1 := ⟨ok_Family_at, List.mem_of_getElem? (i := 631) (by decide +kernel), List.mem_of_getElem? (i := 485) (by decide +kernel), List.mem_of_getElem? (i := 486) (by decide +kernel)⟩
theorem mv_Thinner_43 : MV "PetalSets$Thinner" 43 m_Family_allSets 0 := ⟨ok_Family_allSets, List.mem_of_getElem? (i := 632) (by decide +kernel), List.mem_of_getElem? (i := 544) (by decide +kernel), List.mem_of_getElem? (i := 545) (by decide +kernel)⟩
theorem mn_Thinner_47 : MN "PetalSets$Thinner" 47 m_Petals_fitting "PetalSets" 4 := ⟨ok_Petals_fitting, List.mem_of_getElem? (i := 633) (by decide +kernel), List.mem_of_getElem? (i := 599) (by decide +kernel)⟩
theorem mv_Thinner_35 : MV "PetalSets$Thinner" 35 m_Thinner_choose 4 := ⟨ok_Thinner_choose, List.mem_of_getElem? (i := 634) (by decide +kernel), List.mem_of_getElem? (i := 636) (by decide +kernel), List.mem_of_getElem? (i := 13) (by decide +kernel)⟩
theorem mv_Thinner_53 : MV "PetalSets$Thinner" 53 m_Thinner_closes 3 := ⟨ok_Thinner_closes, List.mem_of_getElem? (i := 638) (by decide +kernel), List.mem_of_getElem? (i := 640) (by decide +kernel), List.mem_of_getElem? (i := 14) (by decide +kernel)⟩
theorem ms_Thinner_57 : MS "PetalSets$Thinner" 57 m_Ig_bitCount 1 := ⟨ok_Ig_bitCount, List.mem_of_getElem? (i := 642) (by decide +kernel), List.mem_of_getElem? (i := 513) (by decide +kernel)⟩
theorem mv_Law_75 : MV "PetalSetsLaw" 75 m_PS_undo 0 := ⟨ok_PS_undo, List.mem_of_getElem? (i := 643) (by decide +kernel), List.mem_of_getElem? (i := 644) (by decide +kernel), List.mem_of_getElem? (i := 645) (by decide +kernel)⟩
theorem mv_PS_187 : MV "PetalSets" 187 m_History_restore 1 := ⟨ok_History_restore, List.mem_of_getElem? (i := 647) (by decide +kernel), List.mem_of_getElem? (i := 648) (by decide +kernel), List.mem_of_getElem? (i := 649) (by decide +kernel)⟩
theorem mv_History_46 : MV "PetalSets$History" 46 m_Family_startAnew 1 := ⟨ok_Family_startAnew, List.mem_of_getElem? (i := 654) (by decide +kernel), List.mem_of_getElem? (i := 347) (by decide +kernel), List.mem_of_getElem? (i := 348) (by decide +kernel)⟩
theorem mv_History_50 : MV "PetalSets$History" 50 m_Family_append 1 := ⟨ok_Family_append, List.mem_of_getElem? (i := 655) (by decide +kernel), List.mem_of_getElem? (i := 458) (by decide +kernel), List.mem_of_getElem? (i := 459) (by decide +kernel)⟩
theorem mv_Law_79 : MV "PetalSetsLaw" 79 m_PS_set 2 := ⟨ok_PS_set, List.mem_of_getElem? (i := 656) (by decide +kernel), List.mem_of_getElem? (i := 657) (by decide +kernel), List.mem_of_getElem? (i := 658) (by decide +kernel)⟩
theorem mv_PS_190 : MV "PetalSets" 190 m_Family_setsMeeting 1 := ⟨ok_Family_setsMeeting, List.mem_of_getElem? (i := 660) (by decide +kernel), List.mem_of_getElem? (i := 661) (by decide +kernel), List.mem_of_getElem? (i := 662) (by decide +kernel)⟩
theorem mv_Law_83 : MV "PetalSetsLaw" 83 m_PS_degree 1 := ⟨ok_PS_degree, List.mem_of_getElem? (i := 664) (by decide +kernel), List.mem_of_getElem? (i := 665) (by decide +kernel), List.mem_of_getElem? (i := 666) (by decide +kernel)⟩
theorem mv_Law_87 : MV "PetalSetsLaw" 87 m_PS_having 1 := ⟨ok_PS_having, List.mem_of_getElem? (i := 668) (by decide +kernel), List.mem_of_getElem? (i := 669) (by decide +kernel), List.mem_of_getElem? (i := 670) (by decide +kernel)⟩
theorem mv_PS_193 : MV "PetalSets" 193 m_Family_arePoints 1 := ⟨ok_Family_arePoints, List.mem_of_getElem? (i := 672) (by decide +kernel), List.mem_of_getElem? (i := 673) (by decide +kernel), List.mem_of_getElem? (i := 674) (by decide +kernel)⟩
theorem mv_Law_91 : MV "PetalSetsLaw" 91 m_PS_isFlower 1 := ⟨ok_PS_isFlower, List.mem_of_getElem? (i := 676) (by decide +kernel), List.mem_of_getElem? (i := 677) (by decide +kernel), List.mem_of_getElem? (i := 678) (by decide +kernel)⟩
theorem mv_PS_196 : MV "PetalSets" 196 m_Family_areSets 1 := ⟨ok_Family_areSets, List.mem_of_getElem? (i := 680) (by decide +kernel), List.mem_of_getElem? (i := 681) (by decide +kernel), List.mem_of_getElem? (i := 682) (by decide +kernel)⟩
theorem mv_Family_26 : MV "PetalSets$Family" 26 m_Family_allSets 0 := ⟨ok_Family_allSets, List.mem_of_getElem? (i := 684) (by decide +kernel), List.mem_of_getElem? (i := 544) (by decide +kernel), List.mem_of_getElem? (i := 545) (by decide +kernel)⟩
theorem ms_PS_199 : MS "PetalSets" 199 m_Petals_coreOf 2 := ⟨ok_Petals_coreOf, List.mem_of_getElem? (i := 685) (by decide +kernel), List.mem_of_getElem? (i := 612) (by decide +kernel)⟩
theorem mv_Law_95 : MV "PetalSetsLaw" 95 m_PS_core 1 := ⟨ok_PS_core, List.mem_of_getElem? (i := 686) (by decide +kernel), List.mem_of_getElem? (i := 687) (by decide +kernel), List.mem_of_getElem? (i := 688) (by decide +kernel)⟩
theorem mv_Law_99 : MV "PetalSetsLaw" 99 m_PS_greatest 1 := ⟨ok_PS_greatest, List.mem_of_getElem? (i := 690) (by decide +kernel), List.mem_of_getElem? (i := 691) (by decide +kernel), List.mem_of_getElem? (i := 692) (by decide +kernel)⟩
theorem ms_PS_204 : MS "PetalSets" 204 m_Petals_largest 1 := ⟨ok_Petals_largest, List.mem_of_getElem? (i := 694) (by decide +kernel), List.mem_of_getElem? (i := 695) (by decide +kernel)⟩
theorem ms_Petals_19 : MS "PetalSets$Petals" 19 m_Petals_leastFlower 2 := ⟨ok_Petals_leastFlower, List.mem_of_getElem? (i := 697) (by decide +kernel), List.mem_of_getElem? (i := 595) (by decide +kernel)⟩
theorem mv_Law_103 : MV "PetalSetsLaw" 103 m_PS_flower 1 := ⟨ok_PS_flower, List.mem_of_getElem? (i := 698) (by decide +kernel), List.mem_of_getElem? (i := 699) (by decide +kernel), List.mem_of_getElem? (i := 700) (by decide +kernel)⟩
theorem ms_PS_208 : MS "PetalSets" 208 m_Petals_leastFlower 2 := ⟨ok_Petals_leastFlower, List.mem_of_getElem? (i := 702) (by decide +kernel), List.mem_of_getElem? (i := 595) (by decide +kernel)⟩
theorem mv_Law_107 : MV "PetalSetsLaw" 107 m_PS_flowers 1 := ⟨ok_PS_flowers, List.mem_of_getElem? (i := 703) (by decide +kernel), List.mem_of_getElem? (i := 704) (by decide +kernel), List.mem_of_getElem? (i := 705) (by decide +kernel)⟩
theorem ms_PS_211 : MS "PetalSets" 211 m_Petals_countFlowers 2 := ⟨ok_Petals_countFlowers, List.mem_of_getElem? (i := 707) (by decide +kernel), List.mem_of_getElem? (i := 708) (by decide +kernel)⟩
theorem ms_Petals_36 : MS "PetalSets$Petals" 36 m_Petals_countCliques 4 := ⟨ok_Petals_countCliques, List.mem_of_getElem? (i := 710) (by decide +kernel), List.mem_of_getElem? (i := 711) (by decide +kernel)⟩
theorem mv_Law_111 : MV "PetalSetsLaw" 111 m_PS_byCore 2 := ⟨ok_PS_byCore, List.mem_of_getElem? (i := 713) (by decide +kernel), List.mem_of_getElem? (i := 714) (by decide +kernel), List.mem_of_getElem? (i := 715) (by decide +kernel)⟩
theorem ms_PS_214 : MS "PetalSets" 214 m_Petals_largestOf 2 := ⟨ok_Petals_largestOf, List.mem_of_getElem? (i := 717) (by decide +kernel), List.mem_of_getElem? (i := 718) (by decide +kernel)⟩
theorem mv_Petals_25 : MV "PetalSets$Petals" 25 m_Family_allSets 0 := ⟨ok_Family_allSets, List.mem_of_getElem? (i := 720) (by decide +kernel), List.mem_of_getElem? (i := 544) (by decide +kernel), List.mem_of_getElem? (i := 545) (by decide +kernel)⟩
theorem mv_Law_115 : MV "PetalSetsLaw" 115 m_PS_cores 1 := ⟨ok_PS_cores, List.mem_of_getElem? (i := 721) (by decide +kernel), List.mem_of_getElem? (i := 722) (by decide +kernel), List.mem_of_getElem? (i := 723) (by decide +kernel)⟩
theorem ms_PS_217 : MS "PetalSets" 217 m_Petals_isNewMeet 3 := ⟨ok_Petals_isNewMeet, List.mem_of_getElem? (i := 725) (by decide +kernel), List.mem_of_getElem? (i := 726) (by decide +kernel)⟩
theorem mn_PS_221 : MN "PetalSets" 221 m_Petals_leastClique "PetalSets" 4 := ⟨ok_Petals_leastClique, List.mem_of_getElem? (i := 728) (by decide +kernel), List.mem_of_getElem? (i := 605) (by decide +kernel)⟩
theorem mv_Law_119 : MV "PetalSetsLaw" 119 m_PS_most 1 := ⟨ok_PS_most, List.mem_of_getElem? (i := 729) (by decide +kernel), List.mem_of_getElem? (i := 730) (by decide +kernel), List.mem_of_getElem? (i := 731) (by decide +kernel)⟩
theorem mv_Law_123 : MV "PetalSetsLaw" 123 m_PS_surplus 1 := ⟨ok_PS_surplus, List.mem_of_getElem? (i := 733) (by decide +kernel), List.mem_of_getElem? (i := 734) (by decide +kernel), List.mem_of_getElem? (i := 735) (by decide +kernel)⟩
theorem mv_Law_127 : MV "PetalSetsLaw" 127 m_PS_uneven 1 := ⟨ok_PS_uneven, List.mem_of_getElem? (i := 737) (by decide +kernel), List.mem_of_getElem? (i := 738) (by decide +kernel), List.mem_of_getElem? (i := 739) (by decide +kernel)⟩
theorem ms_PS_225 : MS "PetalSets" 225 m_Ig_numberOfTrailingZeros 1 := ⟨ok_Ig_numberOfTrailingZeros, List.mem_of_getElem? (i := 741) (by decide +kernel), List.mem_of_getElem? (i := 742) (by decide +kernel)⟩
theorem mv_Law_131 : MV "PetalSetsLaw" 131 m_PS_pairs 1 := ⟨ok_PS_pairs, List.mem_of_getElem? (i := 745) (by decide +kernel), List.mem_of_getElem? (i := 746) (by decide +kernel), List.mem_of_getElem? (i := 747) (by decide +kernel)⟩
theorem mv_Law_135 : MV "PetalSetsLaw" 135 m_PS_parts 0 := ⟨ok_PS_parts, List.mem_of_getElem? (i := 749) (by decide +kernel), List.mem_of_getElem? (i := 750) (by decide +kernel), List.mem_of_getElem? (i := 751) (by decide +kernel)⟩
theorem mv_PS_228 : MV "PetalSets" 228 m_PS_partOf 1 := ⟨ok_PS_partOf, List.mem_of_getElem? (i := 753) (by decide +kernel), List.mem_of_getElem? (i := 755) (by decide +kernel), List.mem_of_getElem? (i := 15) (by decide +kernel)⟩
theorem mv_PS_231 : MV "PetalSets" 231 m_Family_unionOf 1 := ⟨ok_Family_unionOf, List.mem_of_getElem? (i := 757) (by decide +kernel), List.mem_of_getElem? (i := 758) (by decide +kernel), List.mem_of_getElem? (i := 759) (by decide +kernel)⟩
theorem mv_Law_139 : MV "PetalSetsLaw" 139 m_PS_ranked 1 := ⟨ok_PS_ranked, List.mem_of_getElem? (i := 761) (by decide +kernel), List.mem_of_getElem? (i := 762) (by decide +kernel), List.mem_of_getElem? (i := 763) (by decide +kernel)⟩
theorem mv_PS_234 : MV "PetalSets" 234 m_PS_pointsAhead 1 := ⟨ok_PS_pointsAhead, List.mem_of_getElem? (i := 765) (by decide +kernel), List.mem_of_getElem? (i := 767) (by decide +kernel), List.mem_of_getElem? (i := 16) (by decide +kernel)⟩
theorem mv_Law_143 : MV "PetalSetsLaw" 143 m_PS_spread 2 := ⟨ok_PS_spread, List.mem_of_getElem? (i := 769) (by decide +kernel), List.mem_of_getElem? (i := 770) (by decide +kernel), List.mem_of_getElem? (i := 771) (by decide +kernel)⟩
theorem mv_PS_237 : MV "PetalSets" 237 m_Touch_fillLacking 1 := ⟨ok_Touch_fillLacking, List.mem_of_getElem? (i := 773) (by decide +kernel), List.mem_of_getElem? (i := 774) (by decide +kernel), List.mem_of_getElem? (i := 775) (by decide +kernel)⟩
theorem mv_Touch_47 : MV "PetalSets$Touch" 47 m_Family_allSets 0 := ⟨ok_Family_allSets, List.mem_of_getElem? (i := 777) (by decide +kernel), List.mem_of_getElem? (i := 544) (by decide +kernel), List.mem_of_getElem? (i := 545) (by decide +kernel)⟩
theorem mv_Touch_37 : MV "PetalSets$Touch" 37 m_Family_setsWith 1 := ⟨ok_Family_setsWith, List.mem_of_getElem? (i := 778) (by decide +kernel), List.mem_of_getElem? (i := 531) (by decide +kernel), List.mem_of_getElem? (i := 532) (by decide +kernel)⟩
theorem mv_Touch_43 : MV "PetalSets$Touch" 43 m_Touch_fillMarks 1 := ⟨ok_Touch_fillMarks, List.mem_of_getElem? (i := 779) (by decide +kernel), List.mem_of_getElem? (i := 781) (by decide +kernel), List.mem_of_getElem? (i := 17) (by decide +kernel)⟩
theorem mv_Touch_50 : MV "PetalSets$Touch" 50 m_Family_allPoints 0 := ⟨ok_Family_allPoints, List.mem_of_getElem? (i := 783) (by decide +kernel), List.mem_of_getElem? (i := 450) (by decide +kernel), List.mem_of_getElem? (i := 451) (by decide +kernel)⟩
theorem ms_Touch_52 : MS "PetalSets$Touch" 52 m_Ig_numberOfTrailingZeros 1 := ⟨ok_Ig_numberOfTrailingZeros, List.mem_of_getElem? (i := 784) (by decide +kernel), List.mem_of_getElem? (i := 742) (by decide +kernel)⟩
theorem mv_PS_240 : MV "PetalSets" 240 m_Touch_untouched 1 := ⟨ok_Touch_untouched, List.mem_of_getElem? (i := 785) (by decide +kernel), List.mem_of_getElem? (i := 786) (by decide +kernel), List.mem_of_getElem? (i := 787) (by decide +kernel)⟩
theorem mv_Touch_57 : MV "PetalSets$Touch" 57 m_Touch_touched 1 := ⟨ok_Touch_touched, List.mem_of_getElem? (i := 789) (by decide +kernel), List.mem_of_getElem? (i := 790) (by decide +kernel), List.mem_of_getElem? (i := 791) (by decide +kernel)⟩
theorem ms_Touch_60 : MS "PetalSets$Touch" 60 m_Ig_bitCount 1 := ⟨ok_Ig_bitCount, List.mem_of_getElem? (i := 793) (by decide +kernel), List.mem_of_getElem? (i := 513) (by decide +kernel)⟩
theorem ms_PS_243 : MS "PetalSets" 243 m_PS_power 2 := ⟨ok_PS_power, List.mem_of_getElem? (i := 794) (by decide +kernel), List.mem_of_getElem? (i := 795) (by decide +kernel)⟩
theorem mv_Law_147 : MV "PetalSetsLaw" 147 m_PS_spreadest 0 := ⟨ok_PS_spreadest, List.mem_of_getElem? (i := 797) (by decide +kernel), List.mem_of_getElem? (i := 798) (by decide +kernel), List.mem_of_getElem? (i := 799) (by decide +kernel)⟩
theorem mv_Law_151 : MV "PetalSetsLaw" 151 m_PS_bound 2 := ⟨ok_PS_bound, List.mem_of_getElem? (i := 801) (by decide +kernel), List.mem_of_getElem? (i := 802) (by decide +kernel), List.mem_of_getElem? (i := 803) (by decide +kernel)⟩
theorem mv_Law_155 : MV "PetalSetsLaw" 155 m_PS_sized 1 := ⟨ok_PS_sized, List.mem_of_getElem? (i := 809) (by decide +kernel), List.mem_of_getElem? (i := 810) (by decide +kernel), List.mem_of_getElem? (i := 811) (by decide +kernel)⟩
theorem mv_Law_159 : MV "PetalSetsLaw" 159 m_PS_hits 1 := ⟨ok_PS_hits, List.mem_of_getElem? (i := 813) (by decide +kernel), List.mem_of_getElem? (i := 814) (by decide +kernel), List.mem_of_getElem? (i := 815) (by decide +kernel)⟩
theorem mv_Law_163 : MV "PetalSetsLaw" 163 m_PS_missed 1 := ⟨ok_PS_missed, List.mem_of_getElem? (i := 817) (by decide +kernel), List.mem_of_getElem? (i := 818) (by decide +kernel), List.mem_of_getElem? (i := 819) (by decide +kernel)⟩
theorem mv_Law_167 : MV "PetalSetsLaw" 167 m_PS_hitter 1 := ⟨ok_PS_hitter, List.mem_of_getElem? (i := 821) (by decide +kernel), List.mem_of_getElem? (i := 822) (by decide +kernel), List.mem_of_getElem? (i := 823) (by decide +kernel)⟩
theorem mv_PS_255 : MV "PetalSets" 255 m_Touch_fillHaving 1 := ⟨ok_Touch_fillHaving, List.mem_of_getElem? (i := 825) (by decide +kernel), List.mem_of_getElem? (i := 826) (by decide +kernel), List.mem_of_getElem? (i := 827) (by decide +kernel)⟩
theorem mv_PS_258 : MV "PetalSets" 258 m_Touch_findLeast 0 := ⟨ok_Touch_findLeast, List.mem_of_getElem? (i := 829) (by decide +kernel), List.mem_of_getElem? (i := 830) (by decide +kernel), List.mem_of_getElem? (i := 831) (by decide +kernel)⟩
theorem mv_Touch_63 : MV "PetalSets$Touch" 63 m_Touch_touchesAll 1 := ⟨ok_Touch_touchesAll, List.mem_of_getElem? (i := 833) (by decide +kernel), List.mem_of_getElem? (i := 834) (by decide +kernel), List.mem_of_getElem? (i := 835) (by decide +kernel)⟩
theorem mv_Law_171 : MV "PetalSetsLaw" 171 m_PS_tight 1 := ⟨ok_PS_tight, List.mem_of_getElem? (i := 837) (by decide +kernel), List.mem_of_getElem? (i := 838) (by decide +kernel), List.mem_of_getElem? (i := 839) (by decide +kernel)⟩
theorem mv_PS_273 : MV "PetalSets" 273 m_Touch_isTight 1 := ⟨ok_Touch_isTight, List.mem_of_getElem? (i := 841) (by decide +kernel), List.mem_of_getElem? (i := 842) (by decide +kernel), List.mem_of_getElem? (i := 843) (by decide +kernel)⟩
theorem mv_Law_175 : MV "PetalSetsLaw" 175 m_PS_greedy 1 := ⟨ok_PS_greedy, List.mem_of_getElem? (i := 845) (by decide +kernel), List.mem_of_getElem? (i := 846) (by decide +kernel), List.mem_of_getElem? (i := 847) (by decide +kernel)⟩
theorem mv_PS_276 : MV "PetalSets" 276 m_PS_bestPoint 1 := ⟨ok_PS_bestPoint, List.mem_of_getElem? (i := 849) (by decide +kernel), List.mem_of_getElem? (i := 851) (by decide +kernel), List.mem_of_getElem? (i := 18) (by decide +kernel)⟩
theorem mv_Law_179 : MV "PetalSetsLaw" 179 m_PS_apart 1 := ⟨ok_PS_apart, List.mem_of_getElem? (i := 853) (by decide +kernel), List.mem_of_getElem? (i := 854) (by decide +kernel), List.mem_of_getElem? (i := 855) (by decide +kernel)⟩
theorem mv_Law_183 : MV "PetalSetsLaw" 183 m_PS_exact 1 := ⟨ok_PS_exact, List.mem_of_getElem? (i := 857) (by decide +kernel), List.mem_of_getElem? (i := 858) (by decide +kernel), List.mem_of_getElem? (i := 859) (by decide +kernel)⟩
theorem mv_PS_279 : MV "PetalSets" 279 m_Cover_run 1 := ⟨ok_Cover_run, List.mem_of_getElem? (i := 861) (by decide +kernel), List.mem_of_getElem? (i := 862) (by decide +kernel), List.mem_of_getElem? (i := 863) (by decide +kernel)⟩
theorem mv_Cover_18 : MV "PetalSets$Cover" 18 m_Family_allSets 0 := ⟨ok_Family_allSets, List.mem_of_getElem? (i := 865) (by decide +kernel), List.mem_of_getElem? (i := 544) (by decide +kernel), List.mem_of_getElem? (i := 545) (by decide +kernel)⟩
theorem mv_Cover_24 : MV "PetalSets$Cover" 24 m_Family_unionOf 1 := ⟨ok_Family_unionOf, List.mem_of_getElem? (i := 866) (by decide +kernel), List.mem_of_getElem? (i := 758) (by decide +kernel), List.mem_of_getElem? (i := 759) (by decide +kernel)⟩
theorem mv_Cover_28 : MV "PetalSets$Cover" 28 m_Cover_coverRest 4 := ⟨ok_Cover_coverRest, List.mem_of_getElem? (i := 867) (by decide +kernel), List.mem_of_getElem? (i := 869) (by decide +kernel), List.mem_of_getElem? (i := 19) (by decide +kernel)⟩
theorem ms_Cover_38 : MS "PetalSets$Cover" 38 m_Ig_lowestOneBit 1 := ⟨ok_Ig_lowestOneBit, List.mem_of_getElem? (i := 872) (by decide +kernel), List.mem_of_getElem? (i := 609) (by decide +kernel)⟩
theorem mv_Cover_46 : MV "PetalSets$Cover" 46 m_Family_at 1 := ⟨ok_Family_at, List.mem_of_getElem? (i := 873) (by decide +kernel), List.mem_of_getElem? (i := 485) (by decide +kernel), List.mem_of_getElem? (i := 486) (by decide +kernel)⟩
theorem mv_Law_187 : MV "PetalSetsLaw" 187 m_PS_halves 1 := ⟨ok_PS_halves, List.mem_of_getElem? (i := 874) (by decide +kernel), List.mem_of_getElem? (i := 875) (by decide +kernel), List.mem_of_getElem? (i := 876) (by decide +kernel)⟩
theorem mv_PS_285 : MV "PetalSets" 285 m_Family_setsOfTwoOrMore 0 := ⟨ok_Family_setsOfTwoOrMore, List.mem_of_getElem? (i := 878) (by decide +kernel), List.mem_of_getElem? (i := 879) (by decide +kernel), List.mem_of_getElem? (i := 880) (by decide +kernel)⟩
theorem ms_Family_29 : MS "PetalSets$Family" 29 m_Ig_bitCount 1 := ⟨ok_Ig_bitCount, List.mem_of_getElem? (i := 882) (by decide +kernel), List.mem_of_getElem? (i := 513) (by decide +kernel)⟩
theorem mv_PS_288 : MV "PetalSets" 288 m_Touch_touched 1 := ⟨ok_Touch_touched, List.mem_of_getElem? (i := 883) (by decide +kernel), List.mem_of_getElem? (i := 790) (by decide +kernel), List.mem_of_getElem? (i := 791) (by decide +kernel)⟩
theorem mv_Law_191 : MV "PetalSetsLaw" 191 m_PS_kernel 2 := ⟨ok_PS_kernel, List.mem_of_getElem? (i := 884) (by decide +kernel), List.mem_of_getElem? (i := 885) (by decide +kernel), List.mem_of_getElem? (i := 886) (by decide +kernel)⟩
theorem mv_PS_291 : MV "PetalSets" 291 m_Kernel_stepsOf 1 := ⟨ok_Kernel_stepsOf, List.mem_of_getElem? (i := 888) (by decide +kernel), List.mem_of_getElem? (i := 889) (by decide +kernel), List.mem_of_getElem? (i := 890) (by decide +kernel)⟩
theorem mv_Law_195 : MV "PetalSetsLaw" 195 m_PS_kernelSet 2 := ⟨ok_PS_kernelSet, List.mem_of_getElem? (i := 892) (by decide +kernel), List.mem_of_getElem? (i := 893) (by decide +kernel), List.mem_of_getElem? (i := 894) (by decide +kernel)⟩
theorem mv_Law_199 : MV "PetalSetsLaw" 199 m_PS_step 3 := ⟨ok_PS_step, List.mem_of_getElem? (i := 896) (by decide +kernel), List.mem_of_getElem? (i := 897) (by decide +kernel), List.mem_of_getElem? (i := 898) (by decide +kernel)⟩
theorem mv_Law_204 : MV "PetalSetsLaw" 204 m_PS_can 1 := ⟨ok_PS_can, List.mem_of_getElem? (i := 900) (by decide +kernel), List.mem_of_getElem? (i := 901) (by decide +kernel), List.mem_of_getElem? (i := 902) (by decide +kernel)⟩
theorem mv_Law_208 : MV "PetalSetsLaw" 208 m_PS_link 2 := ⟨ok_PS_link, List.mem_of_getElem? (i := 904) (by decide +kernel), List.mem_of_getElem? (i := 905) (by decide +kernel), List.mem_of_getElem? (i := 906) (by decide +kernel)⟩
theorem ms_PS_306 : MS "PetalSets" 306 m_PS_largestSize 1 := ⟨ok_PS_largestSize, List.mem_of_getElem? (i := 908) (by decide +kernel), List.mem_of_getElem? (i := 909) (by decide +kernel)⟩
theorem mv_Law_212 : MV "PetalSetsLaw" 212 m_PS_withSet 1 := ⟨ok_PS_withSet, List.mem_of_getElem? (i := 911) (by decide +kernel), List.mem_of_getElem? (i := 912) (by decide +kernel), List.mem_of_getElem? (i := 913) (by decide +kernel)⟩
theorem mv_Law_216 : MV "PetalSetsLaw" 216 m_PS_withoutSet 1 := ⟨ok_PS_withoutSet, List.mem_of_getElem? (i := 915) (by decide +kernel), List.mem_of_getElem? (i := 916) (by decide +kernel), List.mem_of_getElem? (i := 917) (by decide +kernel)⟩
theorem mv_Law_220 : MV "PetalSetsLaw" 220 m_PS_freeNext 1 := ⟨ok_PS_freeNext, List.mem_of_getElem? (i := 919) (by decide +kernel), List.mem_of_getElem? (i := 920) (by decide +kernel), List.mem_of_getElem? (i := 921) (by decide +kernel)⟩
theorem ms_PS_309 : MS "PetalSets" 309 m_Petals_closesFlower 3 := ⟨ok_Petals_closesFlower, List.mem_of_getElem? (i := 923) (by decide +kernel), List.mem_of_getElem? (i := 924) (by decide +kernel)⟩
theorem mv_Law_224 : MV "PetalSetsLaw" 224 m_PS_spell 1 := ⟨ok_PS_spell, List.mem_of_getElem? (i := 926) (by decide +kernel), List.mem_of_getElem? (i := 927) (by decide +kernel), List.mem_of_getElem? (i := 928) (by decide +kernel)⟩
theorem mv_PS_315 : MV "PetalSets" 315 m_Page_putWord 1 := ⟨ok_Page_putWord, List.mem_of_getElem? (i := 931) (by decide +kernel), List.mem_of_getElem? (i := 932) (by decide +kernel), List.mem_of_getElem? (i := 933) (by decide +kernel)⟩
theorem mv_Page_19 : MV "PetalSets$Page" 19 m_St_length 0 := ⟨ok_St_length, List.mem_of_getElem? (i := 935) (by decide +kernel), List.mem_of_getElem? (i := 368) (by decide +kernel), List.mem_of_getElem? (i := 369) (by decide +kernel)⟩
theorem mv_Page_24 : MV "PetalSets$Page" 24 m_St_charAt 1 := ⟨ok_St_charAt, List.mem_of_getElem? (i := 936) (by decide +kernel), List.mem_of_getElem? (i := 379) (by decide +kernel), List.mem_of_getElem? (i := 380) (by decide +kernel)⟩
theorem mv_Page_28 : MV "PetalSets$Page" 28 m_Page_putByte 1 := ⟨ok_Page_putByte, List.mem_of_getElem? (i := 937) (by decide +kernel), List.mem_of_getElem? (i := 939) (by decide +kernel), List.mem_of_getElem? (i := 20) (by decide +kernel)⟩
theorem mv_PS_319 : MV "PetalSets" 319 m_Page_putNumber 1 := ⟨ok_Page_putNumber, List.mem_of_getElem? (i := 941) (by decide +kernel), List.mem_of_getElem? (i := 942) (by decide +kernel), List.mem_of_getElem? (i := 943) (by decide +kernel)⟩
theorem mv_PS_326 : MV "PetalSets" 326 m_Page_putLetters 1 := ⟨ok_Page_putLetters, List.mem_of_getElem? (i := 947) (by decide +kernel), List.mem_of_getElem? (i := 948) (by decide +kernel), List.mem_of_getElem? (i := 949) (by decide +kernel)⟩
theorem mv_PS_329 : MV "PetalSets" 329 m_Page_answer 1 := ⟨ok_Page_answer, List.mem_of_getElem? (i := 951) (by decide +kernel), List.mem_of_getElem? (i := 952) (by decide +kernel), List.mem_of_getElem? (i := 953) (by decide +kernel)⟩
theorem mv_Law_228 : MV "PetalSetsLaw" 228 m_PS_report 2 := ⟨ok_PS_report, List.mem_of_getElem? (i := 955) (by decide +kernel), List.mem_of_getElem? (i := 956) (by decide +kernel), List.mem_of_getElem? (i := 957) (by decide +kernel)⟩
theorem mv_PS_332 : MV "PetalSets" 332 m_Kernel_tellStep 2 := ⟨ok_Kernel_tellStep, List.mem_of_getElem? (i := 959) (by decide +kernel), List.mem_of_getElem? (i := 960) (by decide +kernel), List.mem_of_getElem? (i := 961) (by decide +kernel)⟩
theorem mv_Kernel_92 : MV "PetalSets$Kernel" 92 m_Page_putWord 1 := ⟨ok_Page_putWord, List.mem_of_getElem? (i := 965) (by decide +kernel), List.mem_of_getElem? (i := 932) (by decide +kernel), List.mem_of_getElem? (i := 933) (by decide +kernel)⟩
theorem mv_Kernel_100 : MV "PetalSets$Kernel" 100 m_Page_putNumber 1 := ⟨ok_Page_putNumber, List.mem_of_getElem? (i := 967) (by decide +kernel), List.mem_of_getElem? (i := 942) (by decide +kernel), List.mem_of_getElem? (i := 943) (by decide +kernel)⟩
theorem mv_Kernel_105 : MV "PetalSets$Kernel" 105 m_Page_putLetters 1 := ⟨ok_Page_putLetters, List.mem_of_getElem? (i := 969) (by decide +kernel), List.mem_of_getElem? (i := 948) (by decide +kernel), List.mem_of_getElem? (i := 949) (by decide +kernel)⟩
theorem mv_Law_232 : MV "PetalSetsLaw" 232 m_PS_count 1 := ⟨ok_PS_count, List.mem_of_getElem? (i := 973) (by decide +kernel), List.mem_of_getElem? (i := 974) (by decide +kernel), List.mem_of_getElem? (i := 975) (by decide +kernel)⟩
theorem mv_PS_340 : MV "PetalSets" 340 m_Family_greatestSize 0 := ⟨ok_Family_greatestSize, List.mem_of_getElem? (i := 977) (by decide +kernel), List.mem_of_getElem? (i := 978) (by decide +kernel), List.mem_of_getElem? (i := 979) (by decide +kernel)⟩
theorem mv_PS_343 : MV "PetalSets" 343 m_Family_leastSize 0 := ⟨ok_Family_leastSize, List.mem_of_getElem? (i := 982) (by decide +kernel), List.mem_of_getElem? (i := 983) (by decide +kernel), List.mem_of_getElem? (i := 984) (by decide +kernel)⟩
theorem ms_Mo_68 : MS "PetalSetsModel" 68 m_Mo_starts 1 := ⟨ok_Mo_starts, List.mem_of_getElem? (i := 994) (by decide +kernel), List.mem_of_getElem? (i := 995) (by decide +kernel)⟩
theorem mv_Law_31 : MV "PetalSetsLaw" 31 m_Mo_add 1 := ⟨ok_Mo_add, List.mem_of_getElem? (i := 1097) (by decide +kernel), List.mem_of_getElem? (i := 1098) (by decide +kernel), List.mem_of_getElem? (i := 1099) (by decide +kernel)⟩
theorem mv_Mo_90 : MV "PetalSetsModel" 90 m_Mo_arePoints 1 := ⟨ok_Mo_arePoints, List.mem_of_getElem? (i := 1101) (by decide +kernel), List.mem_of_getElem? (i := 1103) (by decide +kernel), List.mem_of_getElem? (i := 21) (by decide +kernel)⟩
theorem mv_Mo_83 : MV "PetalSetsModel" 83 m_Mo_allPoints 0 := ⟨ok_Mo_allPoints, List.mem_of_getElem? (i := 1105) (by decide +kernel), List.mem_of_getElem? (i := 1107) (by decide +kernel), List.mem_of_getElem? (i := 22) (by decide +kernel)⟩
theorem ms_Mo_79 : MS "PetalSetsModel" 79 m_Mo_in 3 := ⟨ok_Mo_in, List.mem_of_getElem? (i := 1109) (by decide +kernel), List.mem_of_getElem? (i := 1110) (by decide +kernel)⟩
theorem mv_Mo_94 : MV "PetalSetsModel" 94 m_Mo_isTold 1 := ⟨ok_Mo_isTold, List.mem_of_getElem? (i := 1112) (by decide +kernel), List.mem_of_getElem? (i := 1114) (by decide +kernel), List.mem_of_getElem? (i := 23) (by decide +kernel)⟩
theorem mv_Mo_75 : MV "PetalSetsModel" 75 m_Mo_many 0 := ⟨ok_Mo_many, List.mem_of_getElem? (i := 1116) (by decide +kernel), List.mem_of_getElem? (i := 1118) (by decide +kernel), List.mem_of_getElem? (i := 24) (by decide +kernel)⟩
theorem ms_Mo_86 : MS "PetalSetsModel" 86 m_Mo_isAmong 4 := ⟨ok_Mo_isAmong, List.mem_of_getElem? (i := 1120) (by decide +kernel), List.mem_of_getElem? (i := 1121) (by decide +kernel)⟩
theorem mv_Mo_97 : MV "PetalSetsModel" 97 m_Mo_keeps 0 := ⟨ok_Mo_keeps, List.mem_of_getElem? (i := 1123) (by decide +kernel), List.mem_of_getElem? (i := 1125) (by decide +kernel), List.mem_of_getElem? (i := 25) (by decide +kernel)⟩
theorem mv_Law_36 : MV "PetalSetsLaw" 36 m_Mo_drop 1 := ⟨ok_Mo_drop, List.mem_of_getElem? (i := 1127) (by decide +kernel), List.mem_of_getElem? (i := 1128) (by decide +kernel), List.mem_of_getElem? (i := 1129) (by decide +kernel)⟩
theorem mv_Mo_100 : MV "PetalSetsModel" 100 m_Mo_isThere 1 := ⟨ok_Mo_isThere, List.mem_of_getElem? (i := 1131) (by decide +kernel), List.mem_of_getElem? (i := 1133) (by decide +kernel), List.mem_of_getElem? (i := 26) (by decide +kernel)⟩
theorem mv_Law_41 : MV "PetalSetsLaw" 41 m_Mo_change 2 := ⟨ok_Mo_change, List.mem_of_getElem? (i := 1135) (by decide +kernel), List.mem_of_getElem? (i := 1136) (by decide +kernel), List.mem_of_getElem? (i := 1137) (by decide +kernel)⟩
theorem mv_Mo_103 : MV "PetalSetsModel" 103 m_Mo_its 1 := ⟨ok_Mo_its, List.mem_of_getElem? (i := 1139) (by decide +kernel), List.mem_of_getElem? (i := 1141) (by decide +kernel), List.mem_of_getElem? (i := 27) (by decide +kernel)⟩
theorem mv_Law_45 : MV "PetalSetsLaw" 45 m_Mo_swap 2 := ⟨ok_Mo_swap, List.mem_of_getElem? (i := 1143) (by decide +kernel), List.mem_of_getElem? (i := 1144) (by decide +kernel), List.mem_of_getElem? (i := 1145) (by decide +kernel)⟩
theorem mv_Mo_113 : MV "PetalSetsModel" 113 m_Mo_isPoint 1 := ⟨ok_Mo_isPoint, List.mem_of_getElem? (i := 1147) (by decide +kernel), List.mem_of_getElem? (i := 1149) (by decide +kernel), List.mem_of_getElem? (i := 28) (by decide +kernel)⟩
theorem mv_Mo_116 : MV "PetalSetsModel" 116 m_Mo_wouldBegin 0 := ⟨ok_Mo_wouldBegin, List.mem_of_getElem? (i := 1151) (by decide +kernel), List.mem_of_getElem? (i := 1153) (by decide +kernel), List.mem_of_getElem? (i := 29) (by decide +kernel)⟩
theorem ms_Mo_119 : MS "PetalSetsModel" 119 m_Mo_has 2 := ⟨ok_Mo_has, List.mem_of_getElem? (i := 1155) (by decide +kernel), List.mem_of_getElem? (i := 1156) (by decide +kernel)⟩
theorem mv_Mo_123 : MV "PetalSetsModel" 123 m_Mo_wouldHave 1 := ⟨ok_Mo_wouldHave, List.mem_of_getElem? (i := 1158) (by decide +kernel), List.mem_of_getElem? (i := 1160) (by decide +kernel), List.mem_of_getElem? (i := 30) (by decide +kernel)⟩
theorem mv_Mo_127 : MV "PetalSetsModel" 127 m_Mo_changes 0 := ⟨ok_Mo_changes, List.mem_of_getElem? (i := 1162) (by decide +kernel), List.mem_of_getElem? (i := 1164) (by decide +kernel), List.mem_of_getElem? (i := 31) (by decide +kernel)⟩
theorem mv_Mo_110 : MV "PetalSetsModel" 110 m_Mo_becomes 0 := ⟨ok_Mo_becomes, List.mem_of_getElem? (i := 1166) (by decide +kernel), List.mem_of_getElem? (i := 1168) (by decide +kernel), List.mem_of_getElem? (i := 32) (by decide +kernel)⟩
theorem mv_Law_49 : MV "PetalSetsLaw" 49 m_Mo_without 1 := ⟨ok_Mo_without, List.mem_of_getElem? (i := 1170) (by decide +kernel), List.mem_of_getElem? (i := 1171) (by decide +kernel), List.mem_of_getElem? (i := 1172) (by decide +kernel)⟩
theorem mv_Mo_130 : MV "PetalSetsModel" 130 m_Mo_degreeOf 1 := ⟨ok_Mo_degreeOf, List.mem_of_getElem? (i := 1174) (by decide +kernel), List.mem_of_getElem? (i := 1176) (by decide +kernel), List.mem_of_getElem? (i := 33) (by decide +kernel)⟩
theorem mv_Law_54 : MV "PetalSetsLaw" 54 m_Mo_only 2 := ⟨ok_Mo_only, List.mem_of_getElem? (i := 1178) (by decide +kernel), List.mem_of_getElem? (i := 1179) (by decide +kernel), List.mem_of_getElem? (i := 1180) (by decide +kernel)⟩
theorem mv_Law_58 : MV "PetalSetsLaw" 58 m_Mo_join 2 := ⟨ok_Mo_join, List.mem_of_getElem? (i := 1182) (by decide +kernel), List.mem_of_getElem? (i := 1183) (by decide +kernel), List.mem_of_getElem? (i := 1184) (by decide +kernel)⟩
theorem mv_Law_62 : MV "PetalSetsLaw" 62 m_Mo_turn 0 := ⟨ok_Mo_turn, List.mem_of_getElem? (i := 1186) (by decide +kernel), List.mem_of_getElem? (i := 1187) (by decide +kernel), List.mem_of_getElem? (i := 1188) (by decide +kernel)⟩
theorem mv_Law_66 : MV "PetalSetsLaw" 66 m_Mo_flip 0 := ⟨ok_Mo_flip, List.mem_of_getElem? (i := 1190) (by decide +kernel), List.mem_of_getElem? (i := 1191) (by decide +kernel), List.mem_of_getElem? (i := 1192) (by decide +kernel)⟩
theorem mv_Law_70 : MV "PetalSetsLaw" 70 m_Mo_reduce 1 := ⟨ok_Mo_reduce, List.mem_of_getElem? (i := 1194) (by decide +kernel), List.mem_of_getElem? (i := 1195) (by decide +kernel), List.mem_of_getElem? (i := 1196) (by decide +kernel)⟩
theorem ms_Mo_133 : MS "PetalSetsModel" 133 m_Mo_isOfKernel 1 := ⟨ok_Mo_isOfKernel, List.mem_of_getElem? (i := 1198) (by decide +kernel), List.mem_of_getElem? (i := 1199) (by decide +kernel)⟩
theorem mv_Mo_136 : MV "PetalSetsModel" 136 m_Mo_kernels 1 := ⟨ok_Mo_kernels, List.mem_of_getElem? (i := 1201) (by decide +kernel), List.mem_of_getElem? (i := 1203) (by decide +kernel), List.mem_of_getElem? (i := 34) (by decide +kernel)⟩
theorem mv_Mo_216 : MV "PetalSetsModel" 216 m_Mo_withinFirst 0 := ⟨ok_Mo_withinFirst, List.mem_of_getElem? (i := 1205) (by decide +kernel), List.mem_of_getElem? (i := 1207) (by decide +kernel), List.mem_of_getElem? (i := 35) (by decide +kernel)⟩
theorem ms_Mo_158 : MS "PetalSetsModel" 158 m_Mo_isWithin 2 := ⟨ok_Mo_isWithin, List.mem_of_getElem? (i := 1209) (by decide +kernel), List.mem_of_getElem? (i := 1210) (by decide +kernel)⟩
theorem mv_Mo_219 : MV "PetalSetsModel" 219 m_Mo_goes 3 := ⟨ok_Mo_goes, List.mem_of_getElem? (i := 1212) (by decide +kernel), List.mem_of_getElem? (i := 1214) (by decide +kernel), List.mem_of_getElem? (i := 36) (by decide +kernel)⟩
theorem mv_Mo_182 : MV "PetalSetsModel" 182 m_Mo_firstOf 1 := ⟨ok_Mo_firstOf, List.mem_of_getElem? (i := 1216) (by decide +kernel), List.mem_of_getElem? (i := 1218) (by decide +kernel), List.mem_of_getElem? (i := 37) (by decide +kernel)⟩
theorem ms_Mo_155 : MS "PetalSetsModel" 155 m_Mo_ones 1 := ⟨ok_Mo_ones, List.mem_of_getElem? (i := 1220) (by decide +kernel), List.mem_of_getElem? (i := 1221) (by decide +kernel)⟩
theorem mv_Mo_170 : MV "PetalSetsModel" 170 m_Mo_coreOf 1 := ⟨ok_Mo_coreOf, List.mem_of_getElem? (i := 1223) (by decide +kernel), List.mem_of_getElem? (i := 1225) (by decide +kernel), List.mem_of_getElem? (i := 38) (by decide +kernel)⟩
theorem mv_Law_74 : MV "PetalSetsLaw" 74 m_Mo_thin 1 := ⟨ok_Mo_thin, List.mem_of_getElem? (i := 1227) (by decide +kernel), List.mem_of_getElem? (i := 1228) (by decide +kernel), List.mem_of_getElem? (i := 1229) (by decide +kernel)⟩
theorem ms_Mo_149 : MS "PetalSetsModel" 149 m_Mo_isOfFlower 1 := ⟨ok_Mo_isOfFlower, List.mem_of_getElem? (i := 1231) (by decide +kernel), List.mem_of_getElem? (i := 1232) (by decide +kernel)⟩
theorem mv_Mo_152 : MV "PetalSetsModel" 152 m_Mo_mostFree 1 := ⟨ok_Mo_mostFree, List.mem_of_getElem? (i := 1234) (by decide +kernel), List.mem_of_getElem? (i := 1236) (by decide +kernel), List.mem_of_getElem? (i := 39) (by decide +kernel)⟩
theorem mv_Mo_176 : MV "PetalSetsModel" 176 m_Mo_laysAll 0 := ⟨ok_Mo_laysAll, List.mem_of_getElem? (i := 1238) (by decide +kernel), List.mem_of_getElem? (i := 1240) (by decide +kernel), List.mem_of_getElem? (i := 40) (by decide +kernel)⟩
theorem mv_Law_78 : MV "PetalSetsLaw" 78 m_Mo_undo 0 := ⟨ok_Mo_undo, List.mem_of_getElem? (i := 1242) (by decide +kernel), List.mem_of_getElem? (i := 1243) (by decide +kernel), List.mem_of_getElem? (i := 1244) (by decide +kernel)⟩
theorem mv_Law_82 : MV "PetalSetsLaw" 82 m_Mo_set 2 := ⟨ok_Mo_set, List.mem_of_getElem? (i := 1246) (by decide +kernel), List.mem_of_getElem? (i := 1247) (by decide +kernel), List.mem_of_getElem? (i := 1248) (by decide +kernel)⟩
theorem mv_Law_86 : MV "PetalSetsLaw" 86 m_Mo_degree 1 := ⟨ok_Mo_degree, List.mem_of_getElem? (i := 1250) (by decide +kernel), List.mem_of_getElem? (i := 1251) (by decide +kernel), List.mem_of_getElem? (i := 1252) (by decide +kernel)⟩
theorem mv_Law_90 : MV "PetalSetsLaw" 90 m_Mo_having 1 := ⟨ok_Mo_having, List.mem_of_getElem? (i := 1254) (by decide +kernel), List.mem_of_getElem? (i := 1255) (by decide +kernel), List.mem_of_getElem? (i := 1256) (by decide +kernel)⟩
theorem mv_Mo_161 : MV "PetalSetsModel" 161 m_Mo_havingAll 1 := ⟨ok_Mo_havingAll, List.mem_of_getElem? (i := 1258) (by decide +kernel), List.mem_of_getElem? (i := 1260) (by decide +kernel), List.mem_of_getElem? (i := 41) (by decide +kernel)⟩
theorem mv_Law_94 : MV "PetalSetsLaw" 94 m_Mo_isFlower 1 := ⟨ok_Mo_isFlower, List.mem_of_getElem? (i := 1262) (by decide +kernel), List.mem_of_getElem? (i := 1263) (by decide +kernel), List.mem_of_getElem? (i := 1264) (by decide +kernel)⟩
theorem mv_Mo_173 : MV "PetalSetsModel" 173 m_Mo_areNumbers 1 := ⟨ok_Mo_areNumbers, List.mem_of_getElem? (i := 1266) (by decide +kernel), List.mem_of_getElem? (i := 1268) (by decide +kernel), List.mem_of_getElem? (i := 42) (by decide +kernel)⟩
theorem mv_Law_98 : MV "PetalSetsLaw" 98 m_Mo_core 1 := ⟨ok_Mo_core, List.mem_of_getElem? (i := 1270) (by decide +kernel), List.mem_of_getElem? (i := 1271) (by decide +kernel), List.mem_of_getElem? (i := 1272) (by decide +kernel)⟩
theorem mv_Law_102 : MV "PetalSetsLaw" 102 m_Mo_greatest 1 := ⟨ok_Mo_greatest, List.mem_of_getElem? (i := 1274) (by decide +kernel), List.mem_of_getElem? (i := 1275) (by decide +kernel), List.mem_of_getElem? (i := 1276) (by decide +kernel)⟩
theorem mv_Mo_179 : MV "PetalSetsModel" 179 m_Mo_greatestMany 0 := ⟨ok_Mo_greatestMany, List.mem_of_getElem? (i := 1278) (by decide +kernel), List.mem_of_getElem? (i := 1280) (by decide +kernel), List.mem_of_getElem? (i := 43) (by decide +kernel)⟩
theorem mv_Law_106 : MV "PetalSetsLaw" 106 m_Mo_flower 1 := ⟨ok_Mo_flower, List.mem_of_getElem? (i := 1282) (by decide +kernel), List.mem_of_getElem? (i := 1283) (by decide +kernel), List.mem_of_getElem? (i := 1284) (by decide +kernel)⟩
theorem mv_Law_110 : MV "PetalSetsLaw" 110 m_Mo_flowers 1 := ⟨ok_Mo_flowers, List.mem_of_getElem? (i := 1286) (by decide +kernel), List.mem_of_getElem? (i := 1287) (by decide +kernel), List.mem_of_getElem? (i := 1288) (by decide +kernel)⟩
theorem mv_Law_114 : MV "PetalSetsLaw" 114 m_Mo_byCore 2 := ⟨ok_Mo_byCore, List.mem_of_getElem? (i := 1290) (by decide +kernel), List.mem_of_getElem? (i := 1291) (by decide +kernel), List.mem_of_getElem? (i := 1292) (by decide +kernel)⟩
theorem mv_Law_118 : MV "PetalSetsLaw" 118 m_Mo_cores 1 := ⟨ok_Mo_cores, List.mem_of_getElem? (i := 1294) (by decide +kernel), List.mem_of_getElem? (i := 1295) (by decide +kernel), List.mem_of_getElem? (i := 1296) (by decide +kernel)⟩
theorem mv_Law_122 : MV "PetalSetsLaw" 122 m_Mo_most 1 := ⟨ok_Mo_most, List.mem_of_getElem? (i := 1298) (by decide +kernel), List.mem_of_getElem? (i := 1299) (by decide +kernel), List.mem_of_getElem? (i := 1300) (by decide +kernel)⟩
theorem mv_Law_126 : MV "PetalSetsLaw" 126 m_Mo_surplus 1 := ⟨ok_Mo_surplus, List.mem_of_getElem? (i := 1302) (by decide +kernel), List.mem_of_getElem? (i := 1303) (by decide +kernel), List.mem_of_getElem? (i := 1304) (by decide +kernel)⟩
theorem mv_Law_130 : MV "PetalSetsLaw" 130 m_Mo_uneven 1 := ⟨ok_Mo_uneven, List.mem_of_getElem? (i := 1306) (by decide +kernel), List.mem_of_getElem? (i := 1307) (by decide +kernel), List.mem_of_getElem? (i := 1308) (by decide +kernel)⟩
theorem mv_Law_134 : MV "PetalSetsLaw" 134 m_Mo_pairs 1 := ⟨ok_Mo_pairs, List.mem_of_getElem? (i := 1310) (by decide +kernel), List.mem_of_getElem? (i := 1311) (by decide +kernel), List.mem_of_getElem? (i := 1312) (by decide +kernel)⟩
theorem mv_Law_138 : MV "PetalSetsLaw" 138 m_Mo_parts 0 := ⟨ok_Mo_parts, List.mem_of_getElem? (i := 1314) (by decide +kernel), List.mem_of_getElem? (i := 1315) (by decide +kernel), List.mem_of_getElem? (i := 1316) (by decide +kernel)⟩
theorem mv_Mo_185 : MV "PetalSetsModel" 185 m_Mo_allHad 0 := ⟨ok_Mo_allHad, List.mem_of_getElem? (i := 1318) (by decide +kernel), List.mem_of_getElem? (i := 1320) (by decide +kernel), List.mem_of_getElem? (i := 44) (by decide +kernel)⟩
theorem mv_Law_142 : MV "PetalSetsLaw" 142 m_Mo_ranked 1 := ⟨ok_Mo_ranked, List.mem_of_getElem? (i := 1322) (by decide +kernel), List.mem_of_getElem? (i := 1323) (by decide +kernel), List.mem_of_getElem? (i := 1324) (by decide +kernel)⟩
theorem mv_Law_146 : MV "PetalSetsLaw" 146 m_Mo_spread 2 := ⟨ok_Mo_spread, List.mem_of_getElem? (i := 1326) (by decide +kernel), List.mem_of_getElem? (i := 1327) (by decide +kernel), List.mem_of_getElem? (i := 1328) (by decide +kernel)⟩
theorem mv_Mo_192 : MV "PetalSetsModel" 192 m_Mo_firstDense 2 := ⟨ok_Mo_firstDense, List.mem_of_getElem? (i := 1330) (by decide +kernel), List.mem_of_getElem? (i := 1332) (by decide +kernel), List.mem_of_getElem? (i := 45) (by decide +kernel)⟩
theorem ms_Mo_188 : MS "PetalSetsModel" 188 m_Mo_power 2 := ⟨ok_Mo_power, List.mem_of_getElem? (i := 1334) (by decide +kernel), List.mem_of_getElem? (i := 1335) (by decide +kernel)⟩
theorem mv_Law_150 : MV "PetalSetsLaw" 150 m_Mo_spreadest 0 := ⟨ok_Mo_spreadest, List.mem_of_getElem? (i := 1337) (by decide +kernel), List.mem_of_getElem? (i := 1338) (by decide +kernel), List.mem_of_getElem? (i := 1339) (by decide +kernel)⟩
theorem mv_Law_154 : MV "PetalSetsLaw" 154 m_Mo_bound 2 := ⟨ok_Mo_bound, List.mem_of_getElem? (i := 1341) (by decide +kernel), List.mem_of_getElem? (i := 1342) (by decide +kernel), List.mem_of_getElem? (i := 1343) (by decide +kernel)⟩
theorem mv_Law_158 : MV "PetalSetsLaw" 158 m_Mo_sized 1 := ⟨ok_Mo_sized, List.mem_of_getElem? (i := 1346) (by decide +kernel), List.mem_of_getElem? (i := 1347) (by decide +kernel), List.mem_of_getElem? (i := 1348) (by decide +kernel)⟩
theorem mv_Mo_198 : MV "PetalSetsModel" 198 m_Mo_sizedMany 1 := ⟨ok_Mo_sizedMany, List.mem_of_getElem? (i := 1350) (by decide +kernel), List.mem_of_getElem? (i := 1352) (by decide +kernel), List.mem_of_getElem? (i := 46) (by decide +kernel)⟩
theorem mv_Law_162 : MV "PetalSetsLaw" 162 m_Mo_hits 1 := ⟨ok_Mo_hits, List.mem_of_getElem? (i := 1354) (by decide +kernel), List.mem_of_getElem? (i := 1355) (by decide +kernel), List.mem_of_getElem? (i := 1356) (by decide +kernel)⟩
theorem mv_Mo_201 : MV "PetalSetsModel" 201 m_Mo_missedBy 1 := ⟨ok_Mo_missedBy, List.mem_of_getElem? (i := 1358) (by decide +kernel), List.mem_of_getElem? (i := 1360) (by decide +kernel), List.mem_of_getElem? (i := 47) (by decide +kernel)⟩
theorem mv_Law_166 : MV "PetalSetsLaw" 166 m_Mo_missed 1 := ⟨ok_Mo_missed, List.mem_of_getElem? (i := 1362) (by decide +kernel), List.mem_of_getElem? (i := 1363) (by decide +kernel), List.mem_of_getElem? (i := 1364) (by decide +kernel)⟩
theorem mv_Law_170 : MV "PetalSetsLaw" 170 m_Mo_hitter 1 := ⟨ok_Mo_hitter, List.mem_of_getElem? (i := 1366) (by decide +kernel), List.mem_of_getElem? (i := 1367) (by decide +kernel), List.mem_of_getElem? (i := 1368) (by decide +kernel)⟩
theorem mv_Mo_204 : MV "PetalSetsModel" 204 m_Mo_fewestToHit 0 := ⟨ok_Mo_fewestToHit, List.mem_of_getElem? (i := 1370) (by decide +kernel), List.mem_of_getElem? (i := 1372) (by decide +kernel), List.mem_of_getElem? (i := 48) (by decide +kernel)⟩
theorem mv_Law_174 : MV "PetalSetsLaw" 174 m_Mo_tight 1 := ⟨ok_Mo_tight, List.mem_of_getElem? (i := 1374) (by decide +kernel), List.mem_of_getElem? (i := 1375) (by decide +kernel), List.mem_of_getElem? (i := 1376) (by decide +kernel)⟩
theorem mv_Mo_207 : MV "PetalSetsModel" 207 m_Mo_isTight 1 := ⟨ok_Mo_isTight, List.mem_of_getElem? (i := 1378) (by decide +kernel), List.mem_of_getElem? (i := 1380) (by decide +kernel), List.mem_of_getElem? (i := 49) (by decide +kernel)⟩
theorem mv_Law_178 : MV "PetalSetsLaw" 178 m_Mo_greedy 1 := ⟨ok_Mo_greedy, List.mem_of_getElem? (i := 1382) (by decide +kernel), List.mem_of_getElem? (i := 1383) (by decide +kernel), List.mem_of_getElem? (i := 1384) (by decide +kernel)⟩
theorem mv_Law_182 : MV "PetalSetsLaw" 182 m_Mo_apart 1 := ⟨ok_Mo_apart, List.mem_of_getElem? (i := 1386) (by decide +kernel), List.mem_of_getElem? (i := 1387) (by decide +kernel), List.mem_of_getElem? (i := 1388) (by decide +kernel)⟩
theorem mv_Mo_210 : MV "PetalSetsModel" 210 m_Mo_unionApart 1 := ⟨ok_Mo_unionApart, List.mem_of_getElem? (i := 1390) (by decide +kernel), List.mem_of_getElem? (i := 1392) (by decide +kernel), List.mem_of_getElem? (i := 50) (by decide +kernel)⟩
theorem mv_Law_186 : MV "PetalSetsLaw" 186 m_Mo_exact 1 := ⟨ok_Mo_exact, List.mem_of_getElem? (i := 1394) (by decide +kernel), List.mem_of_getElem? (i := 1395) (by decide +kernel), List.mem_of_getElem? (i := 1396) (by decide +kernel)⟩
theorem mv_Law_190 : MV "PetalSetsLaw" 190 m_Mo_halves 1 := ⟨ok_Mo_halves, List.mem_of_getElem? (i := 1398) (by decide +kernel), List.mem_of_getElem? (i := 1399) (by decide +kernel), List.mem_of_getElem? (i := 1400) (by decide +kernel)⟩
theorem mv_Mo_213 : MV "PetalSetsModel" 213 m_Mo_halvesAll 1 := ⟨ok_Mo_halvesAll, List.mem_of_getElem? (i := 1402) (by decide +kernel), List.mem_of_getElem? (i := 1404) (by decide +kernel), List.mem_of_getElem? (i := 51) (by decide +kernel)⟩
theorem mv_Law_194 : MV "PetalSetsLaw" 194 m_Mo_kernel 2 := ⟨ok_Mo_kernel, List.mem_of_getElem? (i := 1406) (by decide +kernel), List.mem_of_getElem? (i := 1407) (by decide +kernel), List.mem_of_getElem? (i := 1408) (by decide +kernel)⟩
theorem mv_Mo_223 : MV "PetalSetsModel" 223 m_Mo_stepsOf 1 := ⟨ok_Mo_stepsOf, List.mem_of_getElem? (i := 1410) (by decide +kernel), List.mem_of_getElem? (i := 1412) (by decide +kernel), List.mem_of_getElem? (i := 52) (by decide +kernel)⟩
theorem mv_Law_198 : MV "PetalSetsLaw" 198 m_Mo_kernelSet 2 := ⟨ok_Mo_kernelSet, List.mem_of_getElem? (i := 1414) (by decide +kernel), List.mem_of_getElem? (i := 1415) (by decide +kernel), List.mem_of_getElem? (i := 1416) (by decide +kernel)⟩
theorem mv_Law_203 : MV "PetalSetsLaw" 203 m_Mo_step 3 := ⟨ok_Mo_step, List.mem_of_getElem? (i := 1418) (by decide +kernel), List.mem_of_getElem? (i := 1419) (by decide +kernel), List.mem_of_getElem? (i := 1420) (by decide +kernel)⟩
theorem mv_Law_207 : MV "PetalSetsLaw" 207 m_Mo_can 1 := ⟨ok_Mo_can, List.mem_of_getElem? (i := 1422) (by decide +kernel), List.mem_of_getElem? (i := 1423) (by decide +kernel), List.mem_of_getElem? (i := 1424) (by decide +kernel)⟩
theorem mv_Law_211 : MV "PetalSetsLaw" 211 m_Mo_link 2 := ⟨ok_Mo_link, List.mem_of_getElem? (i := 1426) (by decide +kernel), List.mem_of_getElem? (i := 1427) (by decide +kernel), List.mem_of_getElem? (i := 1428) (by decide +kernel)⟩
theorem mv_Mo_226 : MV "PetalSetsModel" 226 m_Mo_laysOne 1 := ⟨ok_Mo_laysOne, List.mem_of_getElem? (i := 1430) (by decide +kernel), List.mem_of_getElem? (i := 1432) (by decide +kernel), List.mem_of_getElem? (i := 53) (by decide +kernel)⟩
theorem mv_Mo_229 : MV "PetalSetsModel" 229 m_Mo_greatestOfRow 0 := ⟨ok_Mo_greatestOfRow, List.mem_of_getElem? (i := 1434) (by decide +kernel), List.mem_of_getElem? (i := 1436) (by decide +kernel), List.mem_of_getElem? (i := 54) (by decide +kernel)⟩
theorem mv_Law_215 : MV "PetalSetsLaw" 215 m_Mo_withSet 1 := ⟨ok_Mo_withSet, List.mem_of_getElem? (i := 1438) (by decide +kernel), List.mem_of_getElem? (i := 1439) (by decide +kernel), List.mem_of_getElem? (i := 1440) (by decide +kernel)⟩
theorem mv_Law_219 : MV "PetalSetsLaw" 219 m_Mo_withoutSet 1 := ⟨ok_Mo_withoutSet, List.mem_of_getElem? (i := 1442) (by decide +kernel), List.mem_of_getElem? (i := 1443) (by decide +kernel), List.mem_of_getElem? (i := 1444) (by decide +kernel)⟩
theorem mv_Law_223 : MV "PetalSetsLaw" 223 m_Mo_freeNext 1 := ⟨ok_Mo_freeNext, List.mem_of_getElem? (i := 1446) (by decide +kernel), List.mem_of_getElem? (i := 1447) (by decide +kernel), List.mem_of_getElem? (i := 1448) (by decide +kernel)⟩
theorem mv_Mo_235 : MV "PetalSetsModel" 235 m_Mo_laysSmall 1 := ⟨ok_Mo_laysSmall, List.mem_of_getElem? (i := 1450) (by decide +kernel), List.mem_of_getElem? (i := 1452) (by decide +kernel), List.mem_of_getElem? (i := 55) (by decide +kernel)⟩
theorem mv_Mo_238 : MV "PetalSetsModel" 238 m_Mo_isCatching 2 := ⟨ok_Mo_isCatching, List.mem_of_getElem? (i := 1454) (by decide +kernel), List.mem_of_getElem? (i := 1456) (by decide +kernel), List.mem_of_getElem? (i := 56) (by decide +kernel)⟩
theorem mv_Law_227 : MV "PetalSetsLaw" 227 m_Mo_spell 1 := ⟨ok_Mo_spell, List.mem_of_getElem? (i := 1458) (by decide +kernel), List.mem_of_getElem? (i := 1459) (by decide +kernel), List.mem_of_getElem? (i := 1460) (by decide +kernel)⟩
theorem mv_Mo_250 : MV "PetalSetsModel" 250 m_Mo_writesWord 1 := ⟨ok_Mo_writesWord, List.mem_of_getElem? (i := 1462) (by decide +kernel), List.mem_of_getElem? (i := 1464) (by decide +kernel), List.mem_of_getElem? (i := 57) (by decide +kernel)⟩
theorem mv_Mo_244 : MV "PetalSetsModel" 244 m_Mo_wordFrom 1 := ⟨ok_Mo_wordFrom, List.mem_of_getElem? (i := 1466) (by decide +kernel), List.mem_of_getElem? (i := 1468) (by decide +kernel), List.mem_of_getElem? (i := 58) (by decide +kernel)⟩
theorem mv_Mo_247 : MV "PetalSetsModel" 247 m_Mo_writes 1 := ⟨ok_Mo_writes, List.mem_of_getElem? (i := 1470) (by decide +kernel), List.mem_of_getElem? (i := 1472) (by decide +kernel), List.mem_of_getElem? (i := 59) (by decide +kernel)⟩
theorem mv_Mo_253 : MV "PetalSetsModel" 253 m_Mo_writesNumber 1 := ⟨ok_Mo_writesNumber, List.mem_of_getElem? (i := 1474) (by decide +kernel), List.mem_of_getElem? (i := 1476) (by decide +kernel), List.mem_of_getElem? (i := 60) (by decide +kernel)⟩
theorem mv_Mo_256 : MV "PetalSetsModel" 256 m_Mo_writesLetters 1 := ⟨ok_Mo_writesLetters, List.mem_of_getElem? (i := 1478) (by decide +kernel), List.mem_of_getElem? (i := 1480) (by decide +kernel), List.mem_of_getElem? (i := 61) (by decide +kernel)⟩
theorem mv_Mo_259 : MV "PetalSetsModel" 259 m_Mo_toldText 1 := ⟨ok_Mo_toldText, List.mem_of_getElem? (i := 1482) (by decide +kernel), List.mem_of_getElem? (i := 1484) (by decide +kernel), List.mem_of_getElem? (i := 62) (by decide +kernel)⟩
theorem mv_Law_231 : MV "PetalSetsLaw" 231 m_Mo_report 2 := ⟨ok_Mo_report, List.mem_of_getElem? (i := 1486) (by decide +kernel), List.mem_of_getElem? (i := 1487) (by decide +kernel), List.mem_of_getElem? (i := 1488) (by decide +kernel)⟩
theorem mv_Law_235 : MV "PetalSetsLaw" 235 m_Mo_count 1 := ⟨ok_Mo_count, List.mem_of_getElem? (i := 1490) (by decide +kernel), List.mem_of_getElem? (i := 1491) (by decide +kernel), List.mem_of_getElem? (i := 1492) (by decide +kernel)⟩
theorem mv_Mo_265 : MV "PetalSetsModel" 265 m_Mo_greatestSize 0 := ⟨ok_Mo_greatestSize, List.mem_of_getElem? (i := 1494) (by decide +kernel), List.mem_of_getElem? (i := 1496) (by decide +kernel), List.mem_of_getElem? (i := 63) (by decide +kernel)⟩
theorem mv_Mo_268 : MV "PetalSetsModel" 268 m_Mo_leastSize 0 := ⟨ok_Mo_leastSize, List.mem_of_getElem? (i := 1498) (by decide +kernel), List.mem_of_getElem? (i := 1500) (by decide +kernel), List.mem_of_getElem? (i := 64) (by decide +kernel)⟩
theorem mv_Law_17 : MV "PetalSetsLaw" 17 m_Mo_feed 5 := ⟨ok_Mo_feed, List.mem_of_getElem? (i := 1502) (by decide +kernel), List.mem_of_getElem? (i := 1503) (by decide +kernel), List.mem_of_getElem? (i := 1504) (by decide +kernel)⟩
theorem mv_Law_22 : MV "PetalSetsLaw" 22 m_Mo_back 1 := ⟨ok_Mo_back, List.mem_of_getElem? (i := 1506) (by decide +kernel), List.mem_of_getElem? (i := 1507) (by decide +kernel), List.mem_of_getElem? (i := 1508) (by decide +kernel)⟩
theorem mv_Law_27 : MV "PetalSetsLaw" 27 m_Mo_text 0 := ⟨ok_Mo_text, List.mem_of_getElem? (i := 1510) (by decide +kernel), List.mem_of_getElem? (i := 1511) (by decide +kernel), List.mem_of_getElem? (i := 1512) (by decide +kernel)⟩
theorem mv_Mo_289 : MV "PetalSetsModel" 289 m_Mo_goesOn 0 := ⟨ok_Mo_goesOn, List.mem_of_getElem? (i := 1514) (by decide +kernel), List.mem_of_getElem? (i := 1516) (by decide +kernel), List.mem_of_getElem? (i := 65) (by decide +kernel)⟩
theorem mv_Mo_277 : MV "PetalSetsModel" 277 m_Mo_here 0 := ⟨ok_Mo_here, List.mem_of_getElem? (i := 1518) (by decide +kernel), List.mem_of_getElem? (i := 1520) (by decide +kernel), List.mem_of_getElem? (i := 66) (by decide +kernel)⟩
theorem mv_Mo_301 : MV "PetalSetsModel" 301 m_Mo_readsOne 1 := ⟨ok_Mo_readsOne, List.mem_of_getElem? (i := 1522) (by decide +kernel), List.mem_of_getElem? (i := 1524) (by decide +kernel), List.mem_of_getElem? (i := 67) (by decide +kernel)⟩
theorem mv_Mo_292 : MV "PetalSetsModel" 292 m_Mo_takesWord 1 := ⟨ok_Mo_takesWord, List.mem_of_getElem? (i := 1526) (by decide +kernel), List.mem_of_getElem? (i := 1528) (by decide +kernel), List.mem_of_getElem? (i := 68) (by decide +kernel)⟩
theorem mv_Mo_295 : MV "PetalSetsModel" 295 m_Mo_readsPoints 0 := ⟨ok_Mo_readsPoints, List.mem_of_getElem? (i := 1530) (by decide +kernel), List.mem_of_getElem? (i := 1532) (by decide +kernel), List.mem_of_getElem? (i := 69) (by decide +kernel)⟩
theorem mv_Mo_298 : MV "PetalSetsModel" 298 m_Mo_readsSet 1 := ⟨ok_Mo_readsSet, List.mem_of_getElem? (i := 1534) (by decide +kernel), List.mem_of_getElem? (i := 1536) (by decide +kernel), List.mem_of_getElem? (i := 70) (by decide +kernel)⟩
end
section
/-! A pure machine over the kit's rows: a world of cells at fixed places, refs are places, ints by (place, slot) -/
abbrev Mem : Type := Nat → Nat → Int32
abbrev Sh : Type := (Nat × Nat) ⊕ (Nat × List (Option Nat))
abbrev Lv : Type := List (Option Value)
abbrev Pq : Type := Option Value → Mem → Prop
def rl (ad : Nat → Nat) (v : Value) : Value := match v with
  | .ref k => .ref (ad k)
  | .int x => .int x
  | .long x => .long x
  | .float x => .float x
  | .double x => .double x
  | .null => .null
  | .retAddr x => .retAddr x
theorem rl_cat (ad : Nat → Nat) (v : Value) : (rl ad v).category = v.category := by cases v <;> rfl
theorem rl_sum (ad : Nat → Nat) (st : List Value) : ((st.map (rl ad)).map fun v => v.category).sum = (st.map fun v => v.category).sum := by
  rw [List.map_map]
  congr 1
  exact List.map_congr_left (fun v _ => rl_cat ad v)
def up2 (mem : Mem) (c j : Nat) (x : Int32) : Mem := fun c' => if c' = c then upd (mem c) j x else mem c'
def fldV (ad : Nat → Nat) (m : Nat → Int32) : Nat → List (Option Nat) → List Value
  | _, [] => []
  | j, some r :: fs => .ref (ad r) :: fldV ad m (j + 1) fs
  | j, none :: fs => .int (m j) :: fldV ad m (j + 1) fs
def cellE (cy : Nat → ClassId) (ad : Nat → Nat) (m : Nat → Int32) (s : Sh) : va_E := match s with
  | .inl q => .inl (cy q.1, q.2, .inl m)
  | .inr q => .inr (q.1, fldV ad m 0 q.2)
def lay (cy : Nat → ClassId) (ad : Nat → Nat) (mem : Mem) (sh : List Sh) : va_W := sh.mapIdx (fun k s => (ad k, cellE cy ad (mem k) s))
theorem lay_get {cy : Nat → ClassId} {ad : Nat → Nat} {mem : Mem} {sh : List Sh} {k : Nat} {s : Sh} (h : sh[k]? = some s) : (lay cy ad mem sh)[k]? = some (ad k, cellE cy ad (mem k) s) := by
  simp [lay, List.getElem?_mapIdx, h]
theorem lay_set {cy : Nat → ClassId} {ad : Nat → Nat} {mem : Mem} {sh : List Sh} {k : Nat} {s : Sh} (h : sh[k]? = some s) (f : Nat → Int32) : (lay cy ad mem sh).set k (ad k, cellE cy ad f s) = lay cy ad (fun c => if c = k then f else mem c) sh := by
  apply List.ext_getElem?
  intro i
  rw [List.getElem?_set]
  have hk : k < sh.length := (List.getElem?_eq_some_iff.mp h).1
  by_cases e : k = i
  · subst e
    have e2 : sh[k] = s := (List.getElem?_eq_some_iff.mp h).2
    simp [lay, List.getElem?_mapIdx, hk, e2]
  · simp [lay, List.getElem?_mapIdx, e, Ne.symm e]
theorem fldV_get (ad : Nat → Nat) (m : Nat → Int32) : ∀ (fs : List (Option Nat)) (j i : Nat), (fldV ad m j fs)[i]? = fs[i]?.map (fun q => match q with | some r => .ref (ad r) | none => .int (m (j + i)))
  | [], j, i => by simp [fldV]
  | some r :: fs, j, 0 => by simp [fldV]
  | none :: fs, j, 0 => by simp [fldV]
  | some r :: fs, j, i + 1 => by simp only [fldV, List.getElem?_cons_succ]; rw [fldV_get ad m fs (j + 1) i, show j + 1 + i = j + (i + 1) by omega]
  | none :: fs, j, i + 1 => by simp only [fldV, List.getElem?_cons_succ]; rw [fldV_get ad m fs (j + 1) i, show j + 1 + i = j + (i + 1) by omega]
theorem fldV_cong (ad : Nat → Nat) {m m' : Nat → Int32} : ∀ (fs : List (Option Nat)) (j : Nat), (∀ i, j ≤ i → m i = m' i) → fldV ad m j fs = fldV ad m' j fs
  | [], j, h => rfl
  | some r :: fs, j, h => by simp only [fldV]; rw [fldV_cong ad fs (j + 1) (fun i hi => h i (by omega))]
  | none :: fs, j, h => by simp only [fldV]; rw [fldV_cong ad fs (j + 1) (fun i hi => h i (by omega)), h j (Nat.le_refl j)]
theorem fldV_set (ad : Nat → Nat) (x : Int32) : ∀ (fs : List (Option Nat)) (m : Nat → Int32) (j i : Nat), fs[i]? = some none → (fldV ad m j fs).set i (.int x) = fldV ad (upd m (j + i) x) j fs
  | [], m, j, i, h => by simp at h
  | some r :: fs, m, j, 0, h => by simp at h
  | none :: fs, m, j, 0, h => by
    simp only [fldV, List.set_cons_zero]
    rw [fldV_cong ad (m := m) (m' := upd m (j + 0) x) fs (j + 1) (fun i hi => by simp only [upd]; rw [if_neg (by omega)])]
    simp [upd]
  | some r :: fs, m, j, i + 1, h => by
    simp only [fldV, List.set_cons_succ]
    rw [fldV_set ad x fs m (j + 1) i (by simpa using h), show j + 1 + i = j + (i + 1) by omega]
  | none :: fs, m, j, i + 1, h => by
    simp only [fldV, List.set_cons_succ]
    rw [fldV_set ad x fs m (j + 1) i (by simpa using h), show j + 1 + i = j + (i + 1) by omega]
    congr 2
    simp only [upd]
    rw [if_neg (by omega)]
def rmD (d : Nat) : Room := { frames := d, cells := 0, slots := 0, locals := 40 * d }
def tysD (cy : Nat → ClassId) : List (ClassId × FieldType) := [(cy 0, .int), (cy 1, .byte), (cy 2, .boolean)]
def tyN (t : Nat) : FieldType := match t with
  | 0 => .int
  | 1 => .byte
  | _ => .boolean
/-- the words that hold in every later state of a run -/
def lw_gd : List Cond := lw_tbl.filter goodWord
theorem gd {w : Cond} (h : w ∈ lw_tbl) (g : goodWord w = true) : w ∈ lw_gd := List.mem_filter.mpr ⟨h, g⟩
theorem CK.good {q : vw_C} (h : CK q) : ∀ w ∈ u_ws q.1 q.2.1 q.2.2, w ∈ lw_gd := by
  intro w hw
  refine gd (h.1 w hw) ?_
  obtain ⟨k, -, rfl⟩ := List.mem_map.mp hw
  simp only [u_lay]
  split <;> rfl
/-! the text constants: their places in the pools, their bytes -/
def strTab : List (String × Nat × String × Nat) := [("PetalSets$Reader", 25, "points", 0), ("PetalSets$Reader", 58, "set", 1), ("PetalSets", 313, "points ", 2), ("PetalSets", 322, ";", 3), ("PetalSets", 324, "set ", 4), ("PetalSets$Kernel", 88, "within", 5), ("PetalSets$Kernel", 90, "flower", 6), ("PetalSets$Kernel", 98, " ", 7), ("PetalSets$Kernel", 103, " core ", 8), ("PetalSets$Kernel", 108, ";", 3), ("PetalSets", 336, "lost;", 9), ("PetalSets", 338, "left ", 10)]
def strByt : List (List Int32) := [[112, 111, 105, 110, 116, 115], [115, 101, 116], [112, 111, 105, 110, 116, 115, 32], [59], [115, 101, 116, 32], [119, 105, 116, 104, 105, 110], [102, 108, 111, 119, 101, 114], [32], [32, 99, 111, 114, 101, 32], [108, 111, 115, 116, 59], [108, 101, 102, 116, 32]]
def strLen : List Nat := [6, 3, 7, 1, 4, 6, 6, 1, 6, 5, 5]
def SX (ad : Nat → Nat) (A : Nat → Prop) (U : State) : Prop := vk_S 11 strLen strByt (fun i => ad (1000 + i)) (fun i => ad (2000 + i)) A U U.heap ∧ (∀ q ∈ strTab, vk_R q.1 q.2.1 q.2.2.1 (ad (1000 + q.2.2.2)) U) ∧ va_Z "java/lang/String" "COMPACT_STRINGS" "Z" (.int 1) A U U.heap ∧ (va_Z "jdk/internal/util/Preconditions" "SIOOBE_FORMATTER" "Ljava/util/function/BiFunction;" .null A U U.heap ∨ va_Z "jdk/internal/util/Preconditions" "SIOOBE_FORMATTER" "Ljava/util/function/BiFunction;" (.ref (ad 3000)) A U U.heap)
theorem SX.to {ad : Nat → Nat} {A : Nat → Prop} {s U : State} (h : SX ad A s) (hR : ∀ own k tx a, vk_R own k tx a s → vk_R own k tx a U) (hvm : s.vm.Alike U.vm) (hk : ∀ a : Nat, a < s.heap.size → ¬ A a → U.heap[a]? = s.heap[a]?) : SX ad A U := by
  obtain ⟨h1, h2, h3, h4⟩ := h
  exact ⟨(h1.moved hvm).kept hk, fun q hq => hR _ _ _ _ (h2 q hq), (h3.moved hvm).kept hk, h4.elim (fun z => Or.inl ((z.moved hvm).kept hk)) (fun z => Or.inr ((z.moved hvm).kept hk))⟩
/-- what a world stands on: the tables of its classes, the texts -/
def NX (U : State) : Prop := ∀ (own : String) (idx : Nat) (y : MethodName) (host : String), Cond.methodLinkNest own idx y host ∈ lw_tbl → va_Nw (.methodLinkNest own idx y host) U
def Cx (ad : Nat → Nat) (cy : Nat → ClassId) (D : va_G) (A : Nat → Prop) (U : State) : Prop := va_K D vwCl (tysD cy) U ∧ SX ad A U ∧ NX U
def prP : Nat → Lv → List (Nat × Value)
  | _, [] => []
  | j, some v :: r => (j, v) :: prP (j + 1) r
  | j, none :: r => prP (j + 1) r
theorem prP_mem {q : Nat × Value} : ∀ (lv : Lv) (j : Nat), q ∈ prP j lv → ∃ i, q.1 = j + i ∧ lv[i]? = some (some q.2)
  | [], j, h => by simp [prP] at h
  | some v :: r, j, h => by
    rcases List.mem_cons.mp h with rfl | h
    · exact ⟨0, rfl, rfl⟩
    · obtain ⟨i, h1, h2⟩ := prP_mem r (j + 1) h
      exact ⟨i + 1, by omega, by simpa using h2⟩
  | none :: r, j, h => by
    obtain ⟨i, h1, h2⟩ := prP_mem r (j + 1) h
    exact ⟨i + 1, by omega, by simpa using h2⟩
theorem prP_of {v : Value} : ∀ (lv : Lv) (j i : Nat), lv[i]? = some (some v) → (j + i, v) ∈ prP j lv
  | [], j, i, h => by simp at h
  | some w :: r, j, 0, h => by simp at h; simp [prP, h]
  | none :: r, j, 0, h => by simp at h
  | some w :: r, j, i + 1, h => by
    have := prP_of r (j + 1) i (by simpa using h)
    rw [show j + 1 + i = j + (i + 1) by omega] at this
    exact List.mem_cons_of_mem _ this
  | none :: r, j, i + 1, h => by
    have := prP_of r (j + 1) i (by simpa using h)
    rw [show j + 1 + i = j + (i + 1) by omega] at this
    exact this
def prR (ad : Nat → Nat) (lv : Lv) : List (Nat × Value) := (prP 0 lv).map (fun q => (q.1, rl ad q.2))
def LH (ad : Nat → Nat) (ls : Array Slot) (n : Nat) (lv : Lv) : Prop := lv_has ls n (prR ad lv)
theorem LH.get {ad : Nat → Nat} {ls : Array Slot} {n : Nat} {lv : Lv} (h : LH ad ls n lv) {i : Nat} {v : Value} (hv : lv[i]? = some (some v)) : ls[i]? = some (.val (rl ad v)) := by
  have h1 := prP_of lv 0 i hv
  rw [Nat.zero_add] at h1
  exact h.2.2 (i, rl ad v) (List.mem_map.mpr ⟨(i, v), h1, rfl⟩)
theorem LH.of {ad : Nat → Nat} {ls : Array Slot} {n : Nat} {lv : Lv} {l : List (Nat × Value)} (h : lv_has ls n l) (hm : ∀ i v, lv[i]? = some (some v) → (i, rl ad v) ∈ l) : LH ad ls n lv := by
  refine ⟨h.1, h.2.1, fun q hq => ?_⟩
  obtain ⟨q', h1, rfl⟩ := List.mem_map.mp hq
  obtain ⟨i, h2, h3⟩ := prP_mem lv 0 h1
  rw [Nat.zero_add] at h2
  exact h.2.2 _ (by rw [h2]; exact hm i _ h3)
theorem prR_in {ad : Nat → Nat} {lv : Lv} {i : Nat} {v : Value} (h : lv[i]? = some (some v)) : (i, rl ad v) ∈ prR ad lv := by
  have h1 := prP_of lv 0 i h
  rw [Nat.zero_add] at h1
  exact List.mem_map.mpr ⟨(i, v), h1, rfl⟩
/-- a store into local i; a long that lay just ahead is gone -/
def lvClr (lv : Lv) (i : Nat) : Lv := match i with
  | 0 => lv
  | j + 1 => match lv[j]? with
    | some (some (.long _)) => lv.set j none
    | some (some (.double _)) => lv.set j none
    | _ => lv
theorem lvClr_get {lv : Lv} {i j : Nat} {w : Value} (h : (lvClr lv i)[j]? = some (some w)) : lv[j]? = some (some w) ∧ ¬ (j + 1 = i ∧ w.category = 2) := by
  match i with
  | 0 => exact ⟨h, fun e => by omega⟩
  | i + 1 =>
    simp only [lvClr] at h
    split at h
    · by_cases e : j = i
      · subst e
        rw [List.getElem?_set] at h
        simp at h
      · rw [List.getElem?_set_ne (Ne.symm e)] at h
        exact ⟨h, fun q => e (by omega)⟩
    · by_cases e : j = i
      · subst e
        rw [List.getElem?_set] at h
        simp at h
      · rw [List.getElem?_set_ne (Ne.symm e)] at h
        exact ⟨h, fun q => e (by omega)⟩
    · rename_i h1 h2
      refine ⟨h, fun q => ?_⟩
      have e : j = i := by omega
      subst e
      cases w with
      | long x => exact h1 x h
      | double x => exact h2 x h
      | _ => have := q.2; simp [Value.category] at this
def lvSet (lv : Lv) (i : Nat) (v : Value) : Lv := (lvClr lv i).set i (some v)
def lvSet2 (lv : Lv) (i : Nat) (v : Value) : Lv := ((lvClr lv i).set i (some v)).set (i + 1) none
theorem LH.set1 {ad : Nat → Nat} {ls' : Array Slot} {n i : Nat} {v : Value} {lv : Lv} (h : lv_has ls' n ((i, rl ad v) :: (prR ad lv).filter (fun q => !(q.1 == i) && !(q.1 + 1 == i && q.2.category == 2)))) : LH ad ls' n (lvSet lv i v) := by
  refine LH.of h (fun j w hj => ?_)
  by_cases e : i = j
  · subst e
    have : w = v := by
      simp only [lvSet, List.getElem?_set] at hj
      split at hj <;> simp_all
    subst this
    exact List.mem_cons_self
  · simp only [lvSet] at hj
    rw [List.getElem?_set_ne e] at hj
    obtain ⟨h1, h2⟩ := lvClr_get hj
    refine List.mem_cons_of_mem _ (List.mem_filter.mpr ⟨prR_in h1, ?_⟩)
    rw [← rl_cat ad w] at h2
    simp only [Bool.and_eq_true, Bool.not_eq_true', beq_eq_false_iff_ne, Bool.and_eq_false_imp, beq_iff_eq]
    exact ⟨Ne.symm e, fun q => fun z => h2 ⟨q, z⟩⟩
theorem LH.set2 {ad : Nat → Nat} {ls' : Array Slot} {n i : Nat} {v : Value} {lv : Lv} (h : lv_has ls' n ((i, rl ad v) :: (prR ad lv).filter (fun q => !(q.1 == i) && (!(q.1 == i + 1) && !(q.1 + 1 == i && q.2.category == 2))))) : LH ad ls' n (lvSet2 lv i v) := by
  refine LH.of h (fun j w hj => ?_)
  by_cases e2 : i + 1 = j
  · subst e2
    simp only [lvSet2, List.getElem?_set] at hj
    simp at hj
  · simp only [lvSet2] at hj
    rw [List.getElem?_set_ne e2] at hj
    by_cases e : i = j
    · subst e
      have : w = v := by
        simp only [List.getElem?_set] at hj
        split at hj <;> simp_all
      subst this
      exact List.mem_cons_self
    · rw [List.getElem?_set_ne e] at hj
      obtain ⟨h1, h2⟩ := lvClr_get hj
      refine List.mem_cons_of_mem _ (List.mem_filter.mpr ⟨prR_in h1, ?_⟩)
      rw [← rl_cat ad w] at h2
      simp only [Bool.and_eq_true, Bool.not_eq_true', beq_eq_false_iff_ne, Bool.and_eq_false_imp, beq_iff_eq]
      exact ⟨Ne.symm e, Ne.symm e2, fun q => fun z => h2 ⟨q, z⟩⟩
/-- the frame that stands over a method's whole body -/
def Fx (M : PMe) (p : Program) (s : State) (m : MethodId) (args : Array Value) (meth : Method) (c : Code) : Prop := p.tables.exec = Jvm.exec ∧ c.code = M.2.1 ∧ meth.sig.returnType = M.2.2.2 ∧ meth.locks = false ∧ c.maxLocals = M.2.2.1 ∧ s.vm.findClass M.1.cls = some m.cls ∧ ∀ w ∈ lw_gd, w.before args s = true
def QcP (sh : List Sh) (ad : Nat → Nat) (cy : Nat → ClassId) (D : va_G) (A : Nat → Prop) (Q : Pq) : Array Value → State → Outcome → State → Prop := fun _ st o t => ∃ (r : Option Value) (mem : Mem), o = .returned (r.map (rl ad)) ∧ Q r mem ∧ va_P D vwCl (lay cy ad mem sh) t.heap ∧ va_D A (lay cy ad mem sh) ∧ va_F A st t
/-- method M, at pc, with these locals and stack, in a world of shape sh with contents mem, comes to its end with Q; d calls deep at most -/
def Wp (sh : List Sh) (M : PMe) (d pc : Nat) (lv : Lv) (st : List Value) (mem : Mem) (Q : Pq) : Prop :=
  ∀ (p : Program) (l : Launch) (e : Env) (s : State) (m : MethodId) (args : Array Value) (below : List Frame) (meth : Method) (c : Code) (H : Heap) (locs : List Loc) (ls : Array Slot) (ad : Nat → Nat) (cy : Nat → ClassId) (D : va_G) (A : Nat → Prop),
    Fx M p s m args meth c → Cx ad cy D A s → va_P D vwCl (lay cy ad mem sh) H → va_D A (lay cy ad mem sh) → va_S A s.heap H locs → LH ad ls M.2.2.1 lv →
    W p l e (rmD d) s m args below meth c H locs 0 0 (MQ below (QcP sh ad cy D A Q) args s 0 0 A) (F0 m pc ls (st.map (rl ad)))
/-- a call of M with these arguments comes to its end with Q -/
def Cll (sh : List Sh) (M : PMe) (d : Nat) (as : List Value) (mem : Mem) (Q : Pq) : Prop :=
  ∀ (l : Launch) (ad : Nat → Nat) (cy : Nat → ClassId) (D : va_G) (A : Nat → Prop), Met l M.1 (.code M.1 M.2.1 M.2.2.1 M.2.2.2 :: lw_gd) (rmD d) (va_Pc (as.map (rl ad)) (fun U => va_P D vwCl (lay cy ad mem sh) U.heap ∧ Cx ad cy D A U ∧ va_D A (lay cy ad mem sh))) (QcP sh ad cy D A Q) 0 0 A
section WPR
variable {sh : List Sh} {M M' : PMe} {d pc : Nat} {lv : Lv} {st : List Value} {mem : Mem} {Q : Pq}
theorem Wp.mono {Q' : Pq} (h : Wp sh M d pc lv st mem Q) (hq : ∀ r m', Q r m' → Q' r m') : Wp sh M d pc lv st mem Q' := by
  intro p l e s m args below meth c H locs ls ad cy D A F C hP hD hS hl T hT X
  obtain ⟨t, a, o, b1, b2, ⟨r, m', c1, c2, c3⟩, b4⟩ := h p l e s m args below meth c H locs ls ad cy D A F C hP hD hS hl T hT X
  exact ⟨t, a, o, b1, b2, ⟨r, m', c1, hq _ _ c2, c3⟩, b4⟩

theorem wp_iadd {x y : Int32} (hc : decode M.2.1 pc = .ok (.iadd, 1)) (h : Wp sh M d (pc + 1) lv (.int (x + y) :: st) mem Q) : Wp sh M d pc lv (.int y :: .int x :: st) mem Q := by
  intro p l e s m args below meth c H locs ls ad cy D A F C hP hD hS hl
  exact lv_iadd F.1 F.2.1 hc (h p l e s m args below meth c H locs ls ad cy D A F C hP hD hS hl)
theorem wp_isub {x y : Int32} (hc : decode M.2.1 pc = .ok (.isub, 1)) (h : Wp sh M d (pc + 1) lv (.int (x - y) :: st) mem Q) : Wp sh M d pc lv (.int y :: .int x :: st) mem Q := by
  intro p l e s m args below meth c H locs ls ad cy D A F C hP hD hS hl
  exact lv_isub F.1 F.2.1 hc (h p l e s m args below meth c H locs ls ad cy D A F C hP hD hS hl)
theorem wp_imul {x y : Int32} (hc : decode M.2.1 pc = .ok (.imul, 1)) (h : Wp sh M d (pc + 1) lv (.int (x * y) :: st) mem Q) : Wp sh M d pc lv (.int y :: .int x :: st) mem Q := by
  intro p l e s m args below meth c H locs ls ad cy D A F C hP hD hS hl
  exact lv_imul F.1 F.2.1 hc (h p l e s m args below meth c H locs ls ad cy D A F C hP hD hS hl)
theorem wp_iand {x y : Int32} (hc : decode M.2.1 pc = .ok (.iand, 1)) (h : Wp sh M d (pc + 1) lv (.int (x &&& y) :: st) mem Q) : Wp sh M d pc lv (.int y :: .int x :: st) mem Q := by
  intro p l e s m args below meth c H locs ls ad cy D A F C hP hD hS hl
  exact lv_iand F.1 F.2.1 hc (h p l e s m args below meth c H locs ls ad cy D A F C hP hD hS hl)
theorem wp_ior {x y : Int32} (hc : decode M.2.1 pc = .ok (.ior, 1)) (h : Wp sh M d (pc + 1) lv (.int (x ||| y) :: st) mem Q) : Wp sh M d pc lv (.int y :: .int x :: st) mem Q := by
  intro p l e s m args below meth c H locs ls ad cy D A F C hP hD hS hl
  exact lv_ior F.1 F.2.1 hc (h p l e s m args below meth c H locs ls ad cy D A F C hP hD hS hl)
theorem wp_ixor {x y : Int32} (hc : decode M.2.1 pc = .ok (.ixor, 1)) (h : Wp sh M d (pc + 1) lv (.int (x ^^^ y) :: st) mem Q) : Wp sh M d pc lv (.int y :: .int x :: st) mem Q := by
  intro p l e s m args below meth c H locs ls ad cy D A F C hP hD hS hl
  exact lv_ixor F.1 F.2.1 hc (h p l e s m args below meth c H locs ls ad cy D A F C hP hD hS hl)
theorem wp_ishl {x y : Int32} (hc : decode M.2.1 pc = .ok (.ishl, 1)) (h : Wp sh M d (pc + 1) lv (.int (x <<< (y &&& 31)) :: st) mem Q) : Wp sh M d pc lv (.int y :: .int x :: st) mem Q := by
  intro p l e s m args below meth c H locs ls ad cy D A F C hP hD hS hl
  exact lv_ishl F.1 F.2.1 hc (h p l e s m args below meth c H locs ls ad cy D A F C hP hD hS hl)
theorem wp_ishr {x y : Int32} (hc : decode M.2.1 pc = .ok (.ishr, 1)) (h : Wp sh M d (pc + 1) lv (.int (x >>> (y &&& 31)) :: st) mem Q) : Wp sh M d pc lv (.int y :: .int x :: st) mem Q := by
  intro p l e s m args below meth c H locs ls ad cy D A F C hP hD hS hl
  exact lv_ishr F.1 F.2.1 hc (h p l e s m args below meth c H locs ls ad cy D A F C hP hD hS hl)
theorem wp_iushr {x y : Int32} (hc : decode M.2.1 pc = .ok (.iushr, 1)) (h : Wp sh M d (pc + 1) lv (.int ((x.toUInt32 >>> (y.toUInt32 &&& Int32.toUInt32 31)).toInt32) :: st) mem Q) : Wp sh M d pc lv (.int y :: .int x :: st) mem Q := by
  intro p l e s m args below meth c H locs ls ad cy D A F C hP hD hS hl
  exact lv_iushr F.1 F.2.1 hc rfl (h p l e s m args below meth c H locs ls ad cy D A F C hP hD hS hl)
theorem wp_idiv {x y : Int32} (hc : decode M.2.1 pc = .ok (.idiv, 1)) (hne : ¬ y = 0) (h : Wp sh M d (pc + 1) lv (.int (x / y) :: st) mem Q) : Wp sh M d pc lv (.int y :: .int x :: st) mem Q := by
  intro p l e s m args below meth c H locs ls ad cy D A F C hP hD hS hl
  exact lv_idiv F.1 F.2.1 hc hne (h p l e s m args below meth c H locs ls ad cy D A F C hP hD hS hl)
theorem wp_irem {x y : Int32} (hc : decode M.2.1 pc = .ok (.irem, 1)) (hne : ¬ y = 0) (h : Wp sh M d (pc + 1) lv (.int (x - x / y * y) :: st) mem Q) : Wp sh M d pc lv (.int y :: .int x :: st) mem Q := by
  intro p l e s m args below meth c H locs ls ad cy D A F C hP hD hS hl
  exact lv_irem F.1 F.2.1 hc hne (h p l e s m args below meth c H locs ls ad cy D A F C hP hD hS hl)
theorem wp_ineg {x : Int32} (hc : decode M.2.1 pc = .ok (.ineg, 1)) (h : Wp sh M d (pc + 1) lv (.int (-x) :: st) mem Q) : Wp sh M d pc lv (.int x :: st) mem Q := by
  intro p l e s m args below meth c H locs ls ad cy D A F C hP hD hS hl
  exact lv_ineg F.1 F.2.1 hc (h p l e s m args below meth c H locs ls ad cy D A F C hP hD hS hl)
theorem wp_i2l {x : Int32} (hc : decode M.2.1 pc = .ok (.i2l, 1)) (h : Wp sh M d (pc + 1) lv (.long x.toInt64 :: st) mem Q) : Wp sh M d pc lv (.int x :: st) mem Q := by
  intro p l e s m args below meth c H locs ls ad cy D A F C hP hD hS hl
  exact lv_i2l F.1 F.2.1 hc rfl (h p l e s m args below meth c H locs ls ad cy D A F C hP hD hS hl)
theorem wp_l2i {x : Int64} (hc : decode M.2.1 pc = .ok (.l2i, 1)) (h : Wp sh M d (pc + 1) lv (.int x.toInt32 :: st) mem Q) : Wp sh M d pc lv (.long x :: st) mem Q := by
  intro p l e s m args below meth c H locs ls ad cy D A F C hP hD hS hl
  exact lv_l2i F.1 F.2.1 hc rfl (h p l e s m args below meth c H locs ls ad cy D A F C hP hD hS hl)
theorem wp_i2b {x : Int32} (hc : decode M.2.1 pc = .ok (.i2b, 1)) (h : Wp sh M d (pc + 1) lv (.int x.toInt8.toInt32 :: st) mem Q) : Wp sh M d pc lv (.int x :: st) mem Q := by
  intro p l e s m args below meth c H locs ls ad cy D A F C hP hD hS hl
  exact lv_i2b F.1 F.2.1 hc rfl (h p l e s m args below meth c H locs ls ad cy D A F C hP hD hS hl)
theorem wp_lmul {x y : Int64} (hc : decode M.2.1 pc = .ok (.lmul, 1)) (h : Wp sh M d (pc + 1) lv (.long (x * y) :: st) mem Q) : Wp sh M d pc lv (.long y :: .long x :: st) mem Q := by
  intro p l e s m args below meth c H locs ls ad cy D A F C hP hD hS hl
  exact lv_lmul F.1 F.2.1 hc (h p l e s m args below meth c H locs ls ad cy D A F C hP hD hS hl)
theorem wp_lcmp {x y : Int64} (hc : decode M.2.1 pc = .ok (.lcmp, 1)) (h : Wp sh M d (pc + 1) lv (.int (lg_cmp x y) :: st) mem Q) : Wp sh M d pc lv (.long y :: .long x :: st) mem Q := by
  intro p l e s m args below meth c H locs ls ad cy D A F C hP hD hS hl
  exact W.lcmp F.1 F.2.1 hc (h p l e s m args below meth c H locs ls ad cy D A F C hP hD hS hl)
theorem wp_lconst {n : Fin 2} (hc : decode M.2.1 pc = .ok (.lconst n, 1)) (h : Wp sh M d (pc + 1) lv (.long (Int64.ofNat (n : Nat)) :: st) mem Q) : Wp sh M d pc lv (st) mem Q := by
  intro p l e s m args below meth c H locs ls ad cy D A F C hP hD hS hl
  exact lv_lconst F.1 F.2.1 hc rfl (h p l e s m args below meth c H locs ls ad cy D A F C hP hD hS hl)
theorem wp_iconst {n : Int} (hc : decode M.2.1 pc = .ok (.iconst n, 1)) (v : Int32) (hv : Int32.ofInt n = v) (h : Wp sh M d (pc + 1) lv (.int v :: st) mem Q) : Wp sh M d pc lv (st) mem Q := by
  intro p l e s m args below meth c H locs ls ad cy D A F C hP hD hS hl
  exact lv_iconst F.1 F.2.1 hc hv (h p l e s m args below meth c H locs ls ad cy D A F C hP hD hS hl)
theorem wp_bipush {n : Int} (hc : decode M.2.1 pc = .ok (.bipush n, 2)) (v : Int32) (hv : (Int8.ofInt n).toInt32 = v) (h : Wp sh M d (pc + 2) lv (.int v :: st) mem Q) : Wp sh M d pc lv (st) mem Q := by
  intro p l e s m args below meth c H locs ls ad cy D A F C hP hD hS hl
  exact lv_bipush F.1 F.2.1 hc hv (h p l e s m args below meth c H locs ls ad cy D A F C hP hD hS hl)
theorem wp_sipush {n : Int} (hc : decode M.2.1 pc = .ok (.sipush n, 3)) (v : Int32) (hv : (Int16.ofInt n).toInt32 = v) (h : Wp sh M d (pc + 3) lv (.int v :: st) mem Q) : Wp sh M d pc lv (st) mem Q := by
  intro p l e s m args below meth c H locs ls ad cy D A F C hP hD hS hl
  exact lv_sipush F.1 F.2.1 hc hv (h p l e s m args below meth c H locs ls ad cy D A F C hP hD hS hl)
theorem wp_dup {v : Value} (hc : decode M.2.1 pc = .ok (.dup, 1)) (hv : v.category = 1) (h : Wp sh M d (pc + 1) lv (v :: v :: st) mem Q) : Wp sh M d pc lv (v :: st) mem Q := by
  intro p l e s m args below meth c H locs ls ad cy D A F C hP hD hS hl
  exact lv_dup F.1 F.2.1 hc ((rl_cat ad v).trans hv) (h p l e s m args below meth c H locs ls ad cy D A F C hP hD hS hl)
theorem wp_pop {v : Value} (hc : decode M.2.1 pc = .ok (.pop, 1)) (hv : v.category = 1) (h : Wp sh M d (pc + 1) lv (st) mem Q) : Wp sh M d pc lv (v :: st) mem Q := by
  intro p l e s m args below meth c H locs ls ad cy D A F C hP hD hS hl
  exact lv_pop F.1 F.2.1 hc ((rl_cat ad v).trans hv) (h p l e s m args below meth c H locs ls ad cy D A F C hP hD hS hl)
theorem wp_dup2 {v w : Value} (hc : decode M.2.1 pc = .ok (.dup2, 1)) (hv : v.category = 1) (hw : w.category = 1) (h : Wp sh M d (pc + 1) lv (v :: w :: v :: w :: st) mem Q) : Wp sh M d pc lv (v :: w :: st) mem Q := by
  intro p l e s m args below meth c H locs ls ad cy D A F C hP hD hS hl
  exact lv_dup2_11 F.1 F.2.1 hc ((rl_cat ad v).trans hv) ((rl_cat ad w).trans hw) (h p l e s m args below meth c H locs ls ad cy D A F C hP hD hS hl)
theorem wp_iload {i : Nat} {x : Int32} (hc : decode M.2.1 pc = .ok (.iload i, 2)) (hv : lv[i]? = some (some (.int x))) (h : Wp sh M d (pc + 2) lv (.int x :: st) mem Q) : Wp sh M d pc lv (st) mem Q := by
  intro p l e s m args below meth c H locs ls ad cy D A F C hP hD hS hl
  exact lv_iload F.1 F.2.1 hc (hl.get hv) (h p l e s m args below meth c H locs ls ad cy D A F C hP hD hS hl)
theorem wp_iload_n {i : Fin 4} {x : Int32} (hc : decode M.2.1 pc = .ok (.iload_n i, 1)) (hv : lv[(i : Nat)]? = some (some (.int x))) (h : Wp sh M d (pc + 1) lv (.int x :: st) mem Q) : Wp sh M d pc lv (st) mem Q := by
  intro p l e s m args below meth c H locs ls ad cy D A F C hP hD hS hl
  exact lv_iload_n F.1 F.2.1 hc rfl (hl.get hv) (h p l e s m args below meth c H locs ls ad cy D A F C hP hD hS hl)
theorem wp_lload_n {i : Fin 4} {x : Int64} (hc : decode M.2.1 pc = .ok (.lload_n i, 1)) (hv : lv[(i : Nat)]? = some (some (.long x))) (h : Wp sh M d (pc + 1) lv (.long x :: st) mem Q) : Wp sh M d pc lv (st) mem Q := by
  intro p l e s m args below meth c H locs ls ad cy D A F C hP hD hS hl
  exact lv_lload_n F.1 F.2.1 hc rfl (hl.get hv) (h p l e s m args below meth c H locs ls ad cy D A F C hP hD hS hl)
theorem wp_aload {i : Nat} {x : Nat} (hc : decode M.2.1 pc = .ok (.aload i, 2)) (hv : lv[i]? = some (some (.ref x))) (h : Wp sh M d (pc + 2) lv (.ref x :: st) mem Q) : Wp sh M d pc lv (st) mem Q := by
  intro p l e s m args below meth c H locs ls ad cy D A F C hP hD hS hl
  exact lv_aload F.1 F.2.1 hc (hl.get hv) (h p l e s m args below meth c H locs ls ad cy D A F C hP hD hS hl)
theorem wp_aload_n {i : Fin 4} {x : Nat} (hc : decode M.2.1 pc = .ok (.aload_n i, 1)) (hv : lv[(i : Nat)]? = some (some (.ref x))) (h : Wp sh M d (pc + 1) lv (.ref x :: st) mem Q) : Wp sh M d pc lv (st) mem Q := by
  intro p l e s m args below meth c H locs ls ad cy D A F C hP hD hS hl
  exact lv_aload_n F.1 F.2.1 hc rfl (hl.get hv) (h p l e s m args below meth c H locs ls ad cy D A F C hP hD hS hl)
theorem wp_istore {i : Nat} {x : Int32} (hc : decode M.2.1 pc = .ok (.istore i, 2)) (hn : (i : Nat) < M.2.2.1) (h : Wp sh M d (pc + 2) (lvSet lv (i : Nat) (.int x)) st mem Q) : Wp sh M d pc lv (.int x :: st) mem Q := by
  intro p l e s m args below meth c H locs ls ad cy D A F C hP hD hS hl
  exact lv_istore F.1 F.2.1 hc  hl hn rfl (fun ls2 h2 => h p l e s m args below meth c H locs ls2 ad cy D A F C hP hD hS (LH.set1 h2))
theorem wp_istore_n {i : Fin 4} {x : Int32} (hc : decode M.2.1 pc = .ok (.istore_n i, 1)) (hn : (i : Nat) < M.2.2.1) (h : Wp sh M d (pc + 1) (lvSet lv (i : Nat) (.int x)) st mem Q) : Wp sh M d pc lv (.int x :: st) mem Q := by
  intro p l e s m args below meth c H locs ls ad cy D A F C hP hD hS hl
  exact lv_istore_n F.1 F.2.1 hc rfl hl hn rfl (fun ls2 h2 => h p l e s m args below meth c H locs ls2 ad cy D A F C hP hD hS (LH.set1 h2))
theorem wp_astore_n {i : Fin 4} {x : Nat} (hc : decode M.2.1 pc = .ok (.astore_n i, 1)) (hn : (i : Nat) < M.2.2.1) (h : Wp sh M d (pc + 1) (lvSet lv (i : Nat) (.ref x)) st mem Q) : Wp sh M d pc lv (.ref x :: st) mem Q := by
  intro p l e s m args below meth c H locs ls ad cy D A F C hP hD hS hl
  exact lv_astore_n F.1 F.2.1 hc rfl hl hn rfl (fun ls2 h2 => h p l e s m args below meth c H locs ls2 ad cy D A F C hP hD hS (LH.set1 h2))
theorem wp_lstore_n {i : Fin 4} {x : Int64} (hc : decode M.2.1 pc = .ok (.lstore_n i, 1)) (hn : (i : Nat) + 1 < M.2.2.1) (h : Wp sh M d (pc + 1) (lvSet2 lv (i : Nat) (.long x)) st mem Q) : Wp sh M d pc lv (.long x :: st) mem Q := by
  intro p l e s m args below meth c H locs ls ad cy D A F C hP hD hS hl
  exact lv_lstore_n F.1 F.2.1 hc rfl hl hn rfl (fun ls2 h2 => h p l e s m args below meth c H locs ls2 ad cy D A F C hP hD hS (LH.set2 h2))
theorem wp_iinc {i : Nat} {n : Int} {x : Int32} (hc : decode M.2.1 pc = .ok (.iinc i n, 3)) (hv : lv[i]? = some (some (.int x))) (hn : i < M.2.2.1) (v : Int32) (hx : x + Int32.ofInt n = v) (h : Wp sh M d (pc + 3) (lvSet lv i (.int v)) st mem Q) : Wp sh M d pc lv st mem Q := by
  intro p l e s m args below meth c H locs ls ad cy D A F C hP hD hS hl
  obtain ⟨k, hk⟩ := List.getElem?_of_mem (prR_in (ad := ad) hv)
  exact lv_iinc F.1 F.2.1 hc hl hk hx hn rfl (fun ls2 h2 => h p l e s m args below meth c H locs ls2 ad cy D A F C hP hD hS (LH.set1 h2))
theorem wp_goto {off : Int} {tgt : Nat} (hc : decode M.2.1 pc = .ok (.goto off, 3)) (ht : (pc : Int) + off = (tgt : Int)) (h : Wp sh M d tgt lv st mem Q) : Wp sh M d pc lv st mem Q := by
  intro p l e s m args below meth c H locs ls ad cy D A F C hP hD hS hl
  exact lv_goto F.1 F.2.1 hc ht (h p l e s m args below meth c H locs ls ad cy D A F C hP hD hS hl)
theorem wp_if_eq {x : Int32} {off : Int} {tgt : Nat} (hc : decode M.2.1 pc = .ok (.ifCond .eq off, 3)) (ht : (pc : Int) + off = (tgt : Int)) (h1 : x = 0 → Wp sh M d tgt lv st mem Q) (h2 : ¬ x = 0 → Wp sh M d (pc + 3) lv st mem Q) : Wp sh M d pc lv (.int x :: st) mem Q := by
  intro p l e s m args below meth c H locs ls ad cy D A F C hP hD hS hl
  exact lv_if_eq F.1 F.2.1 hc ht (fun z => h1 z p l e s m args below meth c H locs ls ad cy D A F C hP hD hS hl) (fun z => h2 z p l e s m args below meth c H locs ls ad cy D A F C hP hD hS hl)
theorem wp_if_ne {x : Int32} {off : Int} {tgt : Nat} (hc : decode M.2.1 pc = .ok (.ifCond .ne off, 3)) (ht : (pc : Int) + off = (tgt : Int)) (h1 : ¬ x = 0 → Wp sh M d tgt lv st mem Q) (h2 : x = 0 → Wp sh M d (pc + 3) lv st mem Q) : Wp sh M d pc lv (.int x :: st) mem Q := by
  intro p l e s m args below meth c H locs ls ad cy D A F C hP hD hS hl
  exact lv_if_ne F.1 F.2.1 hc ht (fun z => h1 z p l e s m args below meth c H locs ls ad cy D A F C hP hD hS hl) (fun z => h2 z p l e s m args below meth c H locs ls ad cy D A F C hP hD hS hl)
theorem wp_if_lt {x : Int32} {off : Int} {tgt : Nat} (hc : decode M.2.1 pc = .ok (.ifCond .lt off, 3)) (ht : (pc : Int) + off = (tgt : Int)) (h1 : x < 0 → Wp sh M d tgt lv st mem Q) (h2 : ¬ x < 0 → Wp sh M d (pc + 3) lv st mem Q) : Wp sh M d pc lv (.int x :: st) mem Q := by
  intro p l e s m args below meth c H locs ls ad cy D A F C hP hD hS hl
  exact lv_if_lt F.1 F.2.1 hc ht (fun z => h1 z p l e s m args below meth c H locs ls ad cy D A F C hP hD hS hl) (fun z => h2 z p l e s m args below meth c H locs ls ad cy D A F C hP hD hS hl)
theorem wp_if_ge {x : Int32} {off : Int} {tgt : Nat} (hc : decode M.2.1 pc = .ok (.ifCond .ge off, 3)) (ht : (pc : Int) + off = (tgt : Int)) (h1 : 0 ≤ x → Wp sh M d tgt lv st mem Q) (h2 : ¬ 0 ≤ x → Wp sh M d (pc + 3) lv st mem Q) : Wp sh M d pc lv (.int x :: st) mem Q := by
  intro p l e s m args below meth c H locs ls ad cy D A F C hP hD hS hl
  exact lv_if_ge F.1 F.2.1 hc ht (fun z => h1 z p l e s m args below meth c H locs ls ad cy D A F C hP hD hS hl) (fun z => h2 z p l e s m args below meth c H locs ls ad cy D A F C hP hD hS hl)
theorem wp_if_gt {x : Int32} {off : Int} {tgt : Nat} (hc : decode M.2.1 pc = .ok (.ifCond .gt off, 3)) (ht : (pc : Int) + off = (tgt : Int)) (h1 : 0 < x → Wp sh M d tgt lv st mem Q) (h2 : ¬ 0 < x → Wp sh M d (pc + 3) lv st mem Q) : Wp sh M d pc lv (.int x :: st) mem Q := by
  intro p l e s m args below meth c H locs ls ad cy D A F C hP hD hS hl
  exact lv_if_gt F.1 F.2.1 hc ht (fun z => h1 z p l e s m args below meth c H locs ls ad cy D A F C hP hD hS hl) (fun z => h2 z p l e s m args below meth c H locs ls ad cy D A F C hP hD hS hl)
theorem wp_if_le {x : Int32} {off : Int} {tgt : Nat} (hc : decode M.2.1 pc = .ok (.ifCond .le off, 3)) (ht : (pc : Int) + off = (tgt : Int)) (h1 : x ≤ 0 → Wp sh M d tgt lv st mem Q) (h2 : ¬ x ≤ 0 → Wp sh M d (pc + 3) lv st mem Q) : Wp sh M d pc lv (.int x :: st) mem Q := by
  intro p l e s m args below meth c H locs ls ad cy D A F C hP hD hS hl
  exact lv_if_le F.1 F.2.1 hc ht (fun z => h1 z p l e s m args below meth c H locs ls ad cy D A F C hP hD hS hl) (fun z => h2 z p l e s m args below meth c H locs ls ad cy D A F C hP hD hS hl)
theorem wp_icmp_eq {x y : Int32} {off : Int} {tgt : Nat} (hc : decode M.2.1 pc = .ok (.if_icmp .eq off, 3)) (ht : (pc : Int) + off = (tgt : Int)) (h1 : x = y → Wp sh M d tgt lv st mem Q) (h2 : ¬ x = y → Wp sh M d (pc + 3) lv st mem Q) : Wp sh M d pc lv (.int y :: .int x :: st) mem Q := by
  intro p l e s m args below meth c H locs ls ad cy D A F C hP hD hS hl
  exact lv_icmp_eq F.1 F.2.1 hc ht (fun z => h1 z p l e s m args below meth c H locs ls ad cy D A F C hP hD hS hl) (fun z => h2 z p l e s m args below meth c H locs ls ad cy D A F C hP hD hS hl)
theorem wp_icmp_ne {x y : Int32} {off : Int} {tgt : Nat} (hc : decode M.2.1 pc = .ok (.if_icmp .ne off, 3)) (ht : (pc : Int) + off = (tgt : Int)) (h1 : ¬ x = y → Wp sh M d tgt lv st mem Q) (h2 : x = y → Wp sh M d (pc + 3) lv st mem Q) : Wp sh M d pc lv (.int y :: .int x :: st) mem Q := by
  intro p l e s m args below meth c H locs ls ad cy D A F C hP hD hS hl
  exact lv_icmp_ne F.1 F.2.1 hc ht (fun z => h1 z p l e s m args below meth c H locs ls ad cy D A F C hP hD hS hl) (fun z => h2 z p l e s m args below meth c H locs ls ad cy D A F C hP hD hS hl)
theorem wp_icmp_lt {x y : Int32} {off : Int} {tgt : Nat} (hc : decode M.2.1 pc = .ok (.if_icmp .lt off, 3)) (ht : (pc : Int) + off = (tgt : Int)) (h1 : x < y → Wp sh M d tgt lv st mem Q) (h2 : ¬ x < y → Wp sh M d (pc + 3) lv st mem Q) : Wp sh M d pc lv (.int y :: .int x :: st) mem Q := by
  intro p l e s m args below meth c H locs ls ad cy D A F C hP hD hS hl
  exact lv_icmp_lt F.1 F.2.1 hc ht (fun z => h1 z p l e s m args below meth c H locs ls ad cy D A F C hP hD hS hl) (fun z => h2 z p l e s m args below meth c H locs ls ad cy D A F C hP hD hS hl)
theorem wp_icmp_ge {x y : Int32} {off : Int} {tgt : Nat} (hc : decode M.2.1 pc = .ok (.if_icmp .ge off, 3)) (ht : (pc : Int) + off = (tgt : Int)) (h1 : y ≤ x → Wp sh M d tgt lv st mem Q) (h2 : ¬ y ≤ x → Wp sh M d (pc + 3) lv st mem Q) : Wp sh M d pc lv (.int y :: .int x :: st) mem Q := by
  intro p l e s m args below meth c H locs ls ad cy D A F C hP hD hS hl
  exact lv_icmp_ge F.1 F.2.1 hc ht (fun z => h1 z p l e s m args below meth c H locs ls ad cy D A F C hP hD hS hl) (fun z => h2 z p l e s m args below meth c H locs ls ad cy D A F C hP hD hS hl)
theorem wp_icmp_gt {x y : Int32} {off : Int} {tgt : Nat} (hc : decode M.2.1 pc = .ok (.if_icmp .gt off, 3)) (ht : (pc : Int) + off = (tgt : Int)) (h1 : y < x → Wp sh M d tgt lv st mem Q) (h2 : ¬ y < x → Wp sh M d (pc + 3) lv st mem Q) : Wp sh M d pc lv (.int y :: .int x :: st) mem Q := by
  intro p l e s m args below meth c H locs ls ad cy D A F C hP hD hS hl
  exact lv_icmp_gt F.1 F.2.1 hc ht (fun z => h1 z p l e s m args below meth c H locs ls ad cy D A F C hP hD hS hl) (fun z => h2 z p l e s m args below meth c H locs ls ad cy D A F C hP hD hS hl)
theorem wp_icmp_le {x y : Int32} {off : Int} {tgt : Nat} (hc : decode M.2.1 pc = .ok (.if_icmp .le off, 3)) (ht : (pc : Int) + off = (tgt : Int)) (h1 : x ≤ y → Wp sh M d tgt lv st mem Q) (h2 : ¬ x ≤ y → Wp sh M d (pc + 3) lv st mem Q) : Wp sh M d pc lv (.int y :: .int x :: st) mem Q := by
  intro p l e s m args below meth c H locs ls ad cy D A F C hP hD hS hl
  exact lv_icmp_le F.1 F.2.1 hc ht (fun z => h1 z p l e s m args below meth c H locs ls ad cy D A F C hP hD hS hl) (fun z => h2 z p l e s m args below meth c H locs ls ad cy D A F C hP hD hS hl)
theorem wp_tableOut {dflt lo hi : Int} {offs : Array Int} {len : Nat} {x : Int32} {tgt : Nat} (hc : decode M.2.1 pc = .ok (.tableswitch dflt lo hi offs, len)) (hx : x.toInt < lo ∨ hi < x.toInt) (ht : (pc : Int) + dflt = (tgt : Int)) (h : Wp sh M d tgt lv st mem Q) : Wp sh M d pc lv (.int x :: st) mem Q := by
  intro p l e s m args below meth c H locs ls ad cy D A F C hP hD hS hl
  exact lv_tableOut F.1 F.2.1 hc hx ht (h p l e s m args below meth c H locs ls ad cy D A F C hP hD hS hl)
theorem wp_tableIn {dflt lo hi : Int} {offs : Array Int} {len : Nat} {x : Int32} {off : Int} {tgt : Nat} (hc : decode M.2.1 pc = .ok (.tableswitch dflt lo hi offs, len)) (h1 : ¬ x.toInt < lo) (h2 : ¬ hi < x.toInt) (ho : offs[(x.toInt - lo).toNat]? = some off) (ht : (pc : Int) + off = (tgt : Int)) (h : Wp sh M d tgt lv st mem Q) : Wp sh M d pc lv (.int x :: st) mem Q := by
  intro p l e s m args below meth c H locs ls ad cy D A F C hP hD hS hl
  exact lv_tableIn F.1 F.2.1 hc h1 h2 ho ht (h p l e s m args below meth c H locs ls ad cy D A F C hP hD hS hl)
theorem wp_ldcw {idx : Nat} (v : Int32) (hc : decode M.2.1 pc = .ok (.ldc_w idx, 3)) (hk : Cond.constant M.1.cls idx v ∈ lw_tbl) (h : Wp sh M d (pc + 3) lv (.int v :: st) mem Q) : Wp sh M d pc lv st mem Q := by
  intro p l e s m args below meth c H locs ls ad cy D A F C hP hD hS hl
  exact lv_ldcw F.1 F.2.1 F.2.2.2.2.2.1 (F.2.2.2.2.2.2 _ (gd hk rfl)) hc (h p l e s m args below meth c H locs ls ad cy D A F C hP hD hS hl)
theorem wp_ldc2 {idx : Nat} (v : Int64) (hc : decode M.2.1 pc = .ok (.ldc2_w idx, 3)) (hk : Cond.constantLong M.1.cls idx v ∈ lw_tbl) (h : Wp sh M d (pc + 3) lv (.long v :: st) mem Q) : Wp sh M d pc lv st mem Q := by
  intro p l e s m args below meth c H locs ls ad cy D A F C hP hD hS hl
  exact lv_ldc2 F.1 F.2.1 F.2.2.2.2.2.1 (F.2.2.2.2.2.2 _ (gd hk rfl)) hc (h p l e s m args below meth c H locs ls ad cy D A F C hP hD hS hl)
theorem wp_ldcS {idx : Nat} (tx : String) (q : Nat) (hc : decode M.2.1 pc = .ok (.ldc idx, 2)) (hk : (M.1.cls, idx, tx, q) ∈ strTab) (h : Wp sh M d (pc + 2) lv (.ref (1000 + q) :: st) mem Q) : Wp sh M d pc lv st mem Q := by
  intro p l e s m args below meth c H locs ls ad cy D A F C hP hD hS hl
  exact va_ldcS F.1 F.2.1 F.2.2.2.2.2.1 (C.2.1.2.1 _ hk) hc (h p l e s m args below meth c H locs ls ad cy D A F C hP hD hS hl)
theorem wp_getI {idx ci k b : Nat} {fs : List (Option Nat)} (hc : decode M.2.1 pc = .ok (.getfield idx, 3)) (hf : FL M.1.cls idx ci k) (hs : sh[b]? = some (.inr (ci, fs))) (hk : fs[k]? = some none) (h : Wp sh M d (pc + 3) lv (.int (mem b k) :: st) mem Q) : Wp sh M d pc lv (.ref b :: st) mem Q := by
  intro p l e s m args below meth c H locs ls ad cy D A F C hP hD hS hl
  obtain ⟨⟨Cn, T, N⟩, h1, h2, h3⟩ := hf
  have ck := vwCl_ok _ (List.mem_of_getElem? h1)
  refine va_get (D := D) (ci := ci) (v := .int (mem b k)) (C := Cn) (T := T) (N := N) F.1 F.2.1 F.2.2.2.2.2.2 ck.good F.2.2.2.2.2.1 C.1 hP b (lay_get hs) h1 k h2 (F.2.2.2.2.2.2 _ (gd h3 rfl)) (fun _ z => z) ?_ hc (h p l e s m args below meth c H locs ls ad cy D A F C hP hD hS hl)
  rw [fldV_get, hk]
  simp
theorem wp_getR {idx ci k b r : Nat} {fs : List (Option Nat)} (hc : decode M.2.1 pc = .ok (.getfield idx, 3)) (hf : FL M.1.cls idx ci k) (hs : sh[b]? = some (.inr (ci, fs))) (hk : fs[k]? = some (some r)) (h : Wp sh M d (pc + 3) lv (.ref r :: st) mem Q) : Wp sh M d pc lv (.ref b :: st) mem Q := by
  intro p l e s m args below meth c H locs ls ad cy D A F C hP hD hS hl
  obtain ⟨⟨Cn, T, N⟩, h1, h2, h3⟩ := hf
  have ck := vwCl_ok _ (List.mem_of_getElem? h1)
  refine va_get (D := D) (ci := ci) (v := .ref (ad r)) (C := Cn) (T := T) (N := N) F.1 F.2.1 F.2.2.2.2.2.2 ck.good F.2.2.2.2.2.1 C.1 hP b (lay_get hs) h1 k h2 (F.2.2.2.2.2.2 _ (gd h3 rfl)) (fun _ z => z) ?_ hc (h p l e s m args below meth c H locs ls ad cy D A F C hP hD hS hl)
  rw [fldV_get, hk]
  rfl
theorem wp_put {idx ci k b : Nat} {x : Int32} {ty : FieldType} {fs : List (Option Nat)} (hc : decode M.2.1 pc = .ok (.putfield idx, 3)) (hf : FP M.1.cls idx ci k ty) (hs : sh[b]? = some (.inr (ci, fs))) (hk : fs[k]? = some none) (hn : narrow ty (.int x) = .int x) (hfit : fits ty (.int x) = true) (h : Wp sh M d (pc + 3) lv st (up2 mem b k x) Q) : Wp sh M d pc lv (.int x :: .ref b :: st) mem Q := by
  intro p l e s m args below meth c H locs ls ad cy D A F C hP hD hS hl
  obtain ⟨⟨Cn, T, N⟩, h1, h2, h3, h4, h5⟩ := hf
  have ck := vwCl_ok _ (List.mem_of_getElem? h1)
  obtain ⟨-, ⟨ty0, c2⟩, c3⟩ := id ck
  have ee : (lay cy ad mem sh).set b (ad b, .inr (ci, (fldV ad (mem b) 0 fs).set k (.int x))) = lay cy ad (up2 mem b k x) sh := by
    rw [fldV_set ad x fs (mem b) 0 k hk, Nat.zero_add]
    exact lay_set hs (upd (mem b) k x)
  have hlen : k < (fldV ad (mem b) 0 fs).length := by
    have : (fldV ad (mem b) 0 fs)[k]? = some (.int (mem b (0 + k))) := by rw [fldV_get, hk]; rfl
    exact (List.getElem?_eq_some_iff.mp this).1
  refine va_put (D := D) (ci := ci) (v := .int x) (ty := ty) (C := Cn) (T := T) (N := N) F.1 F.2.1 F.2.2.2.2.2.2 ck.good ty0 c2 c3 F.2.2.2.2.2.1 C.1 hP hD hS b (lay_get hs) h1 k h2 (F.2.2.2.2.2.2 _ (gd h3 rfl)) (fun _ z => z) h4 h5 hn hfit hlen hc (fun H1 locs1 hP1 hD1 hS1 => ?_)
  rw [show (lay cy ad mem sh).set b (ad b, Sum.inr (ci, (fldV ad (mem b) 0 fs).set k (.int x))) = lay cy ad (up2 mem b k x) sh from ee] at hP1 hD1
  exact h p l e s m args below meth c H1 locs1 ls ad cy D A F C hP1 hD1 hS1 hl
theorem wp_putI {idx ci k b : Nat} {x : Int32} {fs : List (Option Nat)} (hc : decode M.2.1 pc = .ok (.putfield idx, 3)) (hf : FP M.1.cls idx ci k .int) (hs : sh[b]? = some (.inr (ci, fs))) (hk : fs[k]? = some none) (h : Wp sh M d (pc + 3) lv st (up2 mem b k x) Q) : Wp sh M d pc lv (.int x :: .ref b :: st) mem Q := wp_put hc hf hs hk rfl rfl h
theorem wp_putZ {idx ci k b : Nat} {x : Int32} {fs : List (Option Nat)} (hc : decode M.2.1 pc = .ok (.putfield idx, 3)) (hf : FP M.1.cls idx ci k .boolean) (hs : sh[b]? = some (.inr (ci, fs))) (hk : fs[k]? = some none) (hx : x = 0 ∨ x = 1) (h : Wp sh M d (pc + 3) lv st (up2 mem b k x) Q) : Wp sh M d pc lv (.int x :: .ref b :: st) mem Q := by
  refine wp_put hc hf hs hk ?_ ?_ h
  · rcases hx with rfl | rfl <;> rfl
  · rcases hx with rfl | rfl <;> rfl
theorem wp_alen {b t n : Nat} (v : Int32) (hc : decode M.2.1 pc = .ok (.arraylength, 1)) (hs : sh[b]? = some (.inl (t, n))) (ht : t < 3) (hv : Int32.ofNat n = v) (h : Wp sh M d (pc + 1) lv (.int v :: st) mem Q) : Wp sh M d pc lv (.ref b :: st) mem Q := by
  intro p l e s m args below meth c H locs ls ad cy D A F C hP hD hS hl
  refine va_alen (ty := tyN t) (x := (n, .inl (mem b))) F.1 F.2.1 C.1 hP b t (lay_get hs) ?_ hv hc (h p l e s m args below meth c H locs ls ad cy D A F C hP hD hS hl)
  rcases (show t = 0 ∨ t = 1 ∨ t = 2 by omega) with rfl | rfl | rfl <;> rfl
theorem wp_iald {b n : Nat} {i : Int32} (hc : decode M.2.1 pc = .ok (.iaload, 1)) (hs : sh[b]? = some (.inl (0, n))) (hi : vp_in i n) (h : Wp sh M d (pc + 1) lv (.int (mem b i.toNatClampNeg) :: st) mem Q) : Wp sh M d pc lv (.int i :: .ref b :: st) mem Q := by
  intro p l e s m args below meth c H locs ls ad cy D A F C hP hD hS hl
  exact va_iald (cA := cy 0) (n := n) (f := mem b) F.1 F.2.1 C.1 hP b 0 (lay_get hs) rfl hi hc (h p l e s m args below meth c H locs ls ad cy D A F C hP hD hS hl)
theorem wp_bald {b n : Nat} {i : Int32} (hc : decode M.2.1 pc = .ok (.baload, 1)) (hs : sh[b]? = some (.inl (1, n))) (hi : vp_in i n) (h : Wp sh M d (pc + 1) lv (.int (mem b i.toNatClampNeg) :: st) mem Q) : Wp sh M d pc lv (.int i :: .ref b :: st) mem Q := by
  intro p l e s m args below meth c H locs ls ad cy D A F C hP hD hS hl
  exact va_bald (cA := cy 1) (n := n) (f := mem b) F.1 F.2.1 C.1 hP b 1 (lay_get hs) rfl hi hc (h p l e s m args below meth c H locs ls ad cy D A F C hP hD hS hl)
theorem wp_zald {b n : Nat} {i : Int32} (hc : decode M.2.1 pc = .ok (.baload, 1)) (hs : sh[b]? = some (.inl (2, n))) (hi : vp_in i n) (h : Wp sh M d (pc + 1) lv (.int (mem b i.toNatClampNeg) :: st) mem Q) : Wp sh M d pc lv (.int i :: .ref b :: st) mem Q := by
  intro p l e s m args below meth c H locs ls ad cy D A F C hP hD hS hl
  exact va_zald (cA := cy 2) (n := n) (f := mem b) F.1 F.2.1 C.1 hP b 2 (lay_get hs) rfl hi hc (h p l e s m args below meth c H locs ls ad cy D A F C hP hD hS hl)
theorem wp_iast {b n : Nat} {i x : Int32} (hc : decode M.2.1 pc = .ok (.iastore, 1)) (hs : sh[b]? = some (.inl (0, n))) (hi : vp_in i n) (h : Wp sh M d (pc + 1) lv st (up2 mem b i.toNatClampNeg x) Q) : Wp sh M d pc lv (.int x :: .int i :: .ref b :: st) mem Q := by
  intro p l e s m args below meth c H locs ls ad cy D A F C hP hD hS hl
  refine va_iast (cA := cy 0) (n := n) (f := mem b) F.1 F.2.1 C.1 hP hD hS b 0 (lay_get hs) rfl hi hc (fun H1 locs1 hP1 hD1 hS1 => ?_)
  rw [show (lay cy ad mem sh).set b (ad b, Sum.inl (cy 0, n, Sum.inl (upd (mem b) i.toNatClampNeg x))) = lay cy ad (up2 mem b i.toNatClampNeg x) sh from lay_set hs _] at hP1 hD1
  exact h p l e s m args below meth c H1 locs1 ls ad cy D A F C hP1 hD1 hS1 hl
theorem wp_bast {b n : Nat} {i x : Int32} (hc : decode M.2.1 pc = .ok (.bastore, 1)) (hs : sh[b]? = some (.inl (1, n))) (hi : vp_in i n) (h : Wp sh M d (pc + 1) lv st (up2 mem b i.toNatClampNeg (vp_nar .byte x)) Q) : Wp sh M d pc lv (.int x :: .int i :: .ref b :: st) mem Q := by
  intro p l e s m args below meth c H locs ls ad cy D A F C hP hD hS hl
  refine va_bast (cA := cy 1) (n := n) (f := mem b) F.1 F.2.1 C.1 hP hD hS b 1 (lay_get hs) rfl hi hc (fun H1 locs1 hP1 hD1 hS1 => ?_)
  rw [show (lay cy ad mem sh).set b (ad b, Sum.inl (cy 1, n, Sum.inl (upd (mem b) i.toNatClampNeg (vp_nar .byte x)))) = lay cy ad (up2 mem b i.toNatClampNeg (vp_nar .byte x)) sh from lay_set hs _] at hP1 hD1
  exact h p l e s m args below meth c H1 locs1 ls ad cy D A F C hP1 hD1 hS1 hl
theorem wp_zast {b n : Nat} {i x : Int32} (hc : decode M.2.1 pc = .ok (.bastore, 1)) (hs : sh[b]? = some (.inl (2, n))) (hi : vp_in i n) (h : Wp sh M d (pc + 1) lv st (up2 mem b i.toNatClampNeg (vp_nar .boolean x)) Q) : Wp sh M d pc lv (.int x :: .int i :: .ref b :: st) mem Q := by
  intro p l e s m args below meth c H locs ls ad cy D A F C hP hD hS hl
  refine va_zast (cA := cy 2) (n := n) (f := mem b) F.1 F.2.1 C.1 hP hD hS b 2 (lay_get hs) rfl hi hc (fun H1 locs1 hP1 hD1 hS1 => ?_)
  rw [show (lay cy ad mem sh).set b (ad b, Sum.inl (cy 2, n, Sum.inl (upd (mem b) i.toNatClampNeg (vp_nar .boolean x)))) = lay cy ad (up2 mem b i.toNatClampNeg (vp_nar .boolean x)) sh from lay_set hs _] at hP1 hD1
  exact h p l e s m args below meth c H1 locs1 ls ad cy D A F C hP1 hD1 hS1 hl
theorem wp_iret {v : Int32} (hc : decode M.2.1 pc = .ok (.ireturn, 1)) (hr : M.2.2.2 = some .int) (h : Q (some (.int v)) mem) : Wp sh M d pc lv [.int v] mem Q := by
  intro p l e s m args below meth c H locs ls ad cy D A F C hP hD hS hl
  have hlocks := F.2.2.2.1
  exact W.iret (v := v) F.1 F.2.1 (F.2.2.1.trans hr) (fun t ht hW => ⟨some (.int v), mem, rfl, h, by rw [ht]; exact hP, hD, hS.F ht⟩) hS.2.2 hc
theorem wp_zret {v : Int32} (hc : decode M.2.1 pc = .ok (.ireturn, 1)) (hr : M.2.2.2 = some .boolean) (hv : v = 0 ∨ v = 1) (h : Q (some (.int v)) mem) : Wp sh M d pc lv [.int v] mem Q := by
  intro p l e s m args below meth c H locs ls ad cy D A F C hP hD hS hl
  have hlocks := F.2.2.2.1
  exact W.zret (v := v) F.1 F.2.1 (F.2.2.1.trans hr) (by rcases hv with rfl | rfl <;> rfl) (fun t ht hW => ⟨some (.int v), mem, rfl, h, by rw [ht]; exact hP, hD, hS.F ht⟩) hS.2.2 hc
theorem wp_lret {v : Int64} (hc : decode M.2.1 pc = .ok (.lreturn, 1)) (hr : M.2.2.2 = some .long) (h : Q (some (.long v)) mem) : Wp sh M d pc lv [.long v] mem Q := by
  intro p l e s m args below meth c H locs ls ad cy D A F C hP hD hS hl
  have hlocks := F.2.2.2.1
  exact W.lret (v := v) F.1 F.2.1 (F.2.2.1.trans hr) (fun t ht hW => ⟨some (.long v), mem, rfl, h, by rw [ht]; exact hP, hD, hS.F ht⟩) hS.2.2 hc
theorem wp_vret (hc : decode M.2.1 pc = .ok (.return_, 1)) (hr : M.2.2.2 = none) (h : Q none mem) : Wp sh M d pc lv [] mem Q := by
  intro p l e s m args below meth c H locs ls ad cy D A F C hP hD hS hl
  have hlocks := F.2.2.2.1
  exact W.vret F.1 F.2.1 (F.2.2.1.trans hr) (fun t ht hW => ⟨none, mem, rfl, h, by rw [ht]; exact hP, hD, hS.F ht⟩) hS.2.2 hc
theorem wp_tret {v : Int32} {ty : FieldType} (hc : decode M.2.1 pc = .ok (.ireturn, 1)) (hr : M.2.2.2 = some ty) (hv : narrow ty (.int v) = .int v) (h : Q (some (.int v)) mem) : Wp sh M d pc lv [.int v] mem Q := by
  intro p l e s m args below meth c H locs ls ad cy D A F C hP hD hS hl
  have hlocks := F.2.2.2.1
  exact W.zret (v := v) F.1 F.2.1 (F.2.2.1.trans hr) hv (fun t ht hW => ⟨some (.int v), mem, rfl, h, by rw [ht]; exact hP, hD, hS.F ht⟩) hS.2.2 hc
theorem wp_i2c {x : Int32} (hc : decode M.2.1 pc = .ok (.i2c, 1)) (h : Wp sh M d (pc + 1) lv (.int (x.toUInt32 % 65536).toInt32 :: st) mem Q) : Wp sh M d pc lv (.int x :: st) mem Q := by
  intro p l e s m args below meth c H locs ls ad cy D A F C hP hD hS hl
  exact lv_i2c F.1 F.2.1 hc rfl (h p l e s m args below meth c H locs ls ad cy D A F C hP hD hS hl)
theorem wp_gsC {idx : Nat} (hc : decode M.2.1 pc = .ok (.getstatic idx, 3)) (hk : Cond.fieldLink M.1.cls idx "java/lang/String" "COMPACT_STRINGS" "Z" ∈ lw_tbl) (h : Wp sh M d (pc + 3) lv (.int 1 :: st) mem Q) : Wp sh M d pc lv st mem Q := by
  intro p l e s m args below meth c H locs ls ad cy D A F C hP hD hS hl
  exact va_gets F.1 F.2.1 C.2.1.2.2.1 hS F.2.2.2.2.2.1 (F.2.2.2.2.2.2 _ (gd hk rfl)) (fun _ z => z) hc (h p l e s m args below meth c H locs ls ad cy D A F C hP hD hS hl)
theorem wp_gsF {idx : Nat} (hc : decode M.2.1 pc = .ok (.getstatic idx, 3)) (hk : Cond.fieldLink M.1.cls idx "jdk/internal/util/Preconditions" "SIOOBE_FORMATTER" "Ljava/util/function/BiFunction;" ∈ lw_tbl) (h1 : Wp sh M d (pc + 3) lv (.null :: st) mem Q) (h2 : Wp sh M d (pc + 3) lv (.ref 3000 :: st) mem Q) : Wp sh M d pc lv st mem Q := by
  intro p l e s m args below meth c H locs ls ad cy D A F C hP hD hS hl
  rcases C.2.1.2.2.2 with z | z
  · exact va_gets F.1 F.2.1 z hS F.2.2.2.2.2.1 (F.2.2.2.2.2.2 _ (gd hk rfl)) (fun _ z => z) hc (h1 p l e s m args below meth c H locs ls ad cy D A F C hP hD hS hl)
  · exact va_gets F.1 F.2.1 z hS F.2.2.2.2.2.1 (F.2.2.2.2.2.2 _ (gd hk rfl)) (fun _ z => z) hc (h2 p l e s m args below meth c H locs ls ad cy D A F C hP hD hS hl)
theorem wp_sgetV {idx i : Nat} (hi : i < 11) (hc : decode M.2.1 pc = .ok (.getfield idx, 3)) (hk : Cond.fieldLink M.1.cls idx "java/lang/String" "value" "[B" ∈ lw_tbl) (h : Wp sh M d (pc + 3) lv (.ref (2000 + i) :: st) mem Q) : Wp sh M d pc lv (.ref (1000 + i) :: st) mem Q := by
  intro p l e s m args below meth c H locs ls ad cy D A F C hP hD hS hl
  exact vk_getf F.1 F.2.1 (C.2.1.1.1 i hi).2.2.1 hS F.2.2.2.2.2.1 (F.2.2.2.2.2.2 _ (gd hk rfl)) (fun _ z => z) hc (h p l e s m args below meth c H locs ls ad cy D A F C hP hD hS hl)
theorem wp_sgetC {idx i : Nat} (hi : i < 11) (hc : decode M.2.1 pc = .ok (.getfield idx, 3)) (hk : Cond.fieldLink M.1.cls idx "java/lang/String" "coder" "B" ∈ lw_tbl) (h : Wp sh M d (pc + 3) lv (.int 0 :: st) mem Q) : Wp sh M d pc lv (.ref (1000 + i) :: st) mem Q := by
  intro p l e s m args below meth c H locs ls ad cy D A F C hP hD hS hl
  exact vk_getf F.1 F.2.1 (C.2.1.1.1 i hi).2.1 hS F.2.2.2.2.2.1 (F.2.2.2.2.2.2 _ (gd hk rfl)) (fun _ z => z) hc (h p l e s m args below meth c H locs ls ad cy D A F C hP hD hS hl)
theorem wp_slen {i : Nat} (hi : i < 11) (hc : decode M.2.1 pc = .ok (.arraylength, 1)) (h : Wp sh M d (pc + 1) lv (.int (nI (strLen.getD i 0)) :: st) mem Q) : Wp sh M d pc lv (.ref (2000 + i) :: st) mem Q := by
  intro p l e s m args below meth c H locs ls ad cy D A F C hP hD hS hl
  exact va_tlen F.1 F.2.1 (C.2.1.1.1 i hi).2.2.2 hS rfl hc (h p l e s m args below meth c H locs ls ad cy D A F C hP hD hS hl)
theorem wp_sbald {i : Nat} {k : Int32} (hi : i < 11) (hc : decode M.2.1 pc = .ok (.baload, 1)) (hk : vp_in k (strLen.getD i 0)) (h : Wp sh M d (pc + 1) lv (.int ((strByt.getD i []).getD k.toNatClampNeg 0) :: st) mem Q) : Wp sh M d pc lv (.int k :: .ref (2000 + i) :: st) mem Q := by
  intro p l e s m args below meth c H locs ls ad cy D A F C hP hD hS hl
  exact va_tb F.1 F.2.1 (C.2.1.1.1 i hi).2.2.2 hS hk rfl hc (h p l e s m args below meth c H locs ls ad cy D A F C hP hD hS hl)
theorem wp_ldcSw {idx : Nat} (tx : String) (q : Nat) (hc : decode M.2.1 pc = .ok (.ldc_w idx, 3)) (hk : (M.1.cls, idx, tx, q) ∈ strTab) (h : Wp sh M d (pc + 3) lv (.ref (1000 + q) :: st) mem Q) : Wp sh M d pc lv st mem Q := by
  intro p l e s m args below meth c H locs ls ad cy D A F C hP hD hS hl T hT X
  obtain ⟨t, a1, b1⟩ := h p l e s m args below meth c H locs ls ad cy D A F C hP hD hS hl T hT X
  refine ⟨t, ?_, b1⟩
  have hZ := C.2.1.2.1 _ hk
  obtain ⟨k, cf, i, a', hk0, hcf, hcp, -, hr, hev'⟩ := Cond.stringRef_spec F.2.2.2.2.2.1 hZ.1
  cases hZ.2.symm.trans hev'
  obtain ⟨k', hk', he⟩ := X.warmed.alike.2.2 _ _ hk0
  have hr' : k'.resolved[idx]? = some (some (.string (ad (1000 + q)))) := by
    rcases X.warmed.entry hk0 hk' idx with h | ⟨h, -⟩
    · rw [h]; exact hr
    · rw [hr] at h; cases h
  have hdg : decode c.code pc = .ok (.ldc_w idx, 3) := by rw [F.2.1]; exact hc
  jvm_step X.here [F.1, hdg, ldc_w.wp_string (e := e) (s := T) (f := F0 m pc ls (st.map (rl ad))) X.here.top hk' (by rw [he]; exact hcf) hcp hr']
  exact a1
theorem wp_weak {lv' : Lv} (hw : ∀ (i : Nat) (v : Value), lv'[i]? = some (some v) → lv[i]? = some (some v)) (h : Wp sh M d pc lv' st mem Q) : Wp sh M d pc lv st mem Q := by
  intro p l e s m args below meth c H locs ls ad cy D A F C hP hD hS hl
  exact h p l e s m args below meth c H locs ls ad cy D A F C hP hD hS (LH.of hl (fun i v hv => prR_in (hw i v hv)))
def lvMask : List Bool → Lv → Lv
  | true :: b, v :: r => v :: lvMask b r
  | false :: b, _ :: r => none :: lvMask b r
  | _, r => r
theorem lvMask_get {v : Value} : ∀ (b : List Bool) (lv : Lv) (i : Nat), (lvMask b lv)[i]? = some (some v) → lv[i]? = some (some v)
  | true :: b, w :: r, 0, h => h
  | false :: b, w :: r, 0, h => by simp [lvMask] at h
  | true :: b, w :: r, i + 1, h => by simpa using lvMask_get b r i (by simpa [lvMask] using h)
  | false :: b, w :: r, i + 1, h => by simpa using lvMask_get b r i (by simpa [lvMask] using h)
  | [], r, i, h => by simpa [lvMask] using h
  | true :: b, [], i, h => by simp [lvMask] at h
  | false :: b, [], i, h => by simp [lvMask] at h
/-- locals that are dead are forgotten -/
theorem wp_mask (b : List Bool) (h : Wp sh M d pc (lvMask b lv) st mem Q) : Wp sh M d pc lv st mem Q := wp_weak (fun i v => lvMask_get b lv i) h
end WPR
end
section
/-! calls: a callee's contract is used at a call, a body's walk gives the contract -/
theorem tbl_in (M : PMe) (n : Nat) (h : okM M n) : GoodIn lw_gd (.code M.1 M.2.1 M.2.2.1 M.2.2.2 :: lw_gd) := by
  intro w hw
  have hm : w ∈ lw_gd := by
    rcases List.mem_cons.mp hw with rfl | hw
    · exact gd h.2.1 rfl
    · exact hw
  exact ⟨hm, good_of_word (List.mem_filter.mp hm).2⟩
theorem Cx.warm {ad : Nat → Nat} {cy : Nat → ClassId} {D : va_G} {A : Nat → Prop} {s U : State} (h : Cx ad cy D A s) (hW : s.WarmedH U.vm) (hk : ∀ a : Nat, a < s.heap.size → ¬ A a → U.heap[a]? = s.heap[a]?) : Cx ad cy D A U :=
  ⟨va_K.moved hW.alike h.1, h.2.1.to (fun own k tx a hz => hz.warm hW) hW.alike hk, fun own idx y host hm => va_Nw.warmM hW (h.2.2 own idx y host hm)⟩
theorem Cx.blind {ad : Nat → Nat} {cy : Nat → ClassId} {D : va_G} {A : Nat → Prop} {U : State} (h : Cx ad cy D A U) (g : JFrame) (mk : MethodId) (a : Array Value) : Cx ad cy D A (U.calling g mk a) :=
  ⟨va_K.moved (u := U) (U := U.calling g mk a) (Vm.Alike.refl U.vm) h.1, h.2.1.to (fun own k tx a hz => hz.same rfl) (Vm.Alike.refl U.vm) (fun _ _ _ => rfl), fun own idx y host hm => va_Nw.same rfl rfl (h.2.2 own idx y host hm)⟩
theorem lv_args_rl (ad : Nat → Nat) : ∀ (vs : List Value) (i : Nat), lv_args i (vs.map (rl ad)) = (lv_args i vs).map (fun q => (q.1, rl ad q.2))
  | [], i => rfl
  | v :: vs, i => by simp only [List.map_cons, lv_args, rl_cat]; rw [lv_args_rl ad vs]
theorem lg_sl_rl (ad : Nat → Nat) : ∀ (vs : List Value), (lg_sl (vs.map (rl ad))).length = (lg_sl vs).length
  | [] => rfl
  | v :: vs => by
    have ih := lg_sl_rl ad vs
    simp only [lg_sl, List.map_cons, List.flatMap_cons, List.length_append, rl_cat] at ih ⊢
    rw [ih]
    split <;> rfl
section WPC
variable {sh : List Sh} {M M' : PMe} {d pc n : Nat} {lv : Lv} {st : List Value} {mem : Mem} {Q K : Pq}
theorem cll_of {as : List Value} (lv : Lv) (hM : okM M n) (hl : (lg_sl as).length ≤ M.2.2.1) (hp : prP 0 lv = lv_args 0 as) (h : Wp sh M d 0 lv [] mem Q) : Cll sh M d as mem Q := by
  intro l ad cy D A
  refine Met.ofW (cc := M.2.1) (maxL := M.2.2.1) (ret := M.2.2.2) hM.1 rfl ?_
  intro p e s m args0 below meth c s₁ B hml hv
  obtain ⟨rfl, hP, hC, hD⟩ := hv
  have hts := atoms_spec (ws := .code M.1 M.2.1 M.2.2.1 M.2.2.2 :: lw_gd) B.pre
  have hl2 := lv_entry (as.map (rl ad)) (n := M.2.2.1) (by rw [lg_sl_rl]; exact hl)
  rw [lg_entry_eq]
  refine h p l e s m _ below meth c s.heap [] _ ad cy D A ⟨B.exec, B.bytes, B.returns, B.notSynchronized, hml, findClass_of_methodNamed B.named, fun w hw => hts w (List.mem_cons_of_mem _ hw)⟩ hC hP hD va_S.rf ?_
  show lv_has _ _ (prR ad lv)
  rw [prR, hp, ← lv_args_rl]
  exact hl2
theorem Cll.mono {as : List Value} (h : Cll sh M d as mem K) (hq : ∀ r m', K r m' → Q r m') : Cll sh M d as mem Q := by
  intro l ad cy D A p e h1 h2 h3 s m args below h4 h5 h6 h7
  obtain ⟨t, o, a1, a2, a3, ⟨r, m', c1, c2, c3⟩, a5⟩ := h l ad cy D A p e h1 h2 h3 s m args below h4 h5 h6 h7
  exact ⟨t, o, a1, a2, a3, ⟨r, m', c1, hq _ _ c2, c3⟩, a5⟩
theorem wp_back {p : Program} {l : Launch} {e : Env} {s : State} {m : MethodId} {args : Array Value} {below : List Frame} {meth : Method} {c : Code} {H : Heap} {locs : List Loc} {ls : Array Slot} {ad : Nat → Nat} {cy : Nat → ClassId} {D : va_G} {A : Nat → Prop} {a0 : Array Value} {st0 : List Value}
    (F : Fx M p s m args meth c) (C : Cx ad cy D A s) (hS : va_S A s.heap H locs) (hl : LH ad ls M.2.2.1 lv)
    (run : va_Run p l e (rmD (d + 1)) s m args below meth c H locs 0 0 0 0 (F0 m pc ls st0) (st.map (rl ad)) (QcP sh ad cy D A K a0) A)
    (k : ∀ r m', K r m' → Wp sh M (d + 1) (pc + 3) lv (r.toList ++ st) m' Q) :
    W p l e (rmD (d + 1)) s m args below meth c H locs 0 0 (MQ below (QcP sh ad cy D A Q) args s 0 0 A) (F0 m pc ls st0) := by
  intro T hT X
  obtain ⟨v, st₀, t, T', L, h0, X', hL, e1, e2, ⟨r, m', hv, hK, hP', hD', hF⟩, stp⟩ := run T hT X
  have hv' : v = r.map (rl ad) := by injection hv
  subst hv'
  have hS' : va_S A s.heap T'.heap (locs ++ L) := by
    rw [e1]
    obtain ⟨f1, f2⟩ := hF
    rw [h0] at f1 f2
    refine ⟨Nat.le_trans hS.1 f1, fun q h1 h2 => ?_, fun q hq => ?_⟩
    · rw [f2 q (Nat.lt_of_lt_of_le h1 hS.1) h2]
      exact hS.2.1 q h1 h2
    · rcases List.mem_append.mp hq with h | h
      · exact hS.2.2 q h
      · exact hL q h
  have hk := k r m' hK p l e s m args below meth c T'.heap (locs ++ L) ls ad cy D A F C (by rw [e1]; exact hP') hD' hS' hl T' rfl X'
  obtain ⟨t2, a1, b1⟩ := hk
  refine ⟨t2, stp t2 ?_, b1⟩
  have e3 : (r.toList ++ st).map (rl ad) = (r.map (rl ad)).toList ++ st.map (rl ad) := by cases r <;> rfl
  rw [e3] at a1
  exact a1
theorem rm_ok (hM : okM M' n) : (rmD d).frames + 1 ≤ (rmD (d + 1)).frames ∧ 8 + (M'.2.2.1 + 11) + (rmD d).locals ≤ (rmD (d + 1)).locals := by
  have := hM.2.2.2.2
  simp only [rmD]
  omega
/-- a virtual call on an object of the world -/
theorem wp_callV {idx ci b : Nat} {fs : List (Option Nat)} {st0 : List Value} (As : List Value) (st : List Value) (hc : decode M.2.1 pc = .ok (.invokevirtual idx, 3)) (hk : MV M.1.cls idx M' n) (hs : sh[b]? = some (.inr (ci, fs))) (hci : (vwCl[ci]?).map (fun q => q.1) = some M'.1.cls) (hn : As.length = n) (hst : st0 = As.reverse ++ .ref b :: st) (hw : (st.map fun v => v.category).sum ≤ 8)
    (h : Cll sh M' d (.ref b :: As) mem K) (k : ∀ r m', K r m' → Wp sh M (d + 1) (pc + 3) lv (r.toList ++ st) m' Q) : Wp sh M (d + 1) pc lv st0 mem Q := by
  intro p l e s m args below meth c H locs ls ad cy D A F C hP hD hS hl
  subst hst
  obtain ⟨hM, hk1, hk2, hk3⟩ := hk
  have ht := F.2.2.2.2.2.2
  obtain ⟨q, hq1, hq2⟩ := Option.map_eq_some_iff.mp hci
  refine wp_back F C hS hl (va_runV (C := M'.1.cls) (b := ad b) (As := As.map (rl ad)) (n := n) (bytes := M'.2.1) (maxL := M'.2.2.1) (ret := M'.2.2.2) ⟨F.1, F.2.1, F.2.2.2.2.1, F.2.2.2.2.2.1, ht⟩ (h l ad cy D A) ⟨callB_of n ht (tbl_in M' n hM) rfl rfl rfl (ht _ (gd hM.2.2.1 rfl)) (ht _ (gd hk1 rfl)) hM.2.2.2.1 (rm_ok hM), ht _ (gd hk2 rfl), ht _ (gd hk3 rfl)⟩ ⟨?_, ?_, ?_⟩ rfl (by rw [List.length_map]; exact hn) hl.1 ?_ (lv_room (by rw [rl_sum]; exact hw)) hc ⟨Nat.le_refl _, Nat.le_refl _⟩) k
  · rintro a U g mk ⟨z0, z1, z2, z3⟩
    exact ⟨z0, z1, z2.blind g mk a, z3⟩
  · have := va_recv C.1 hP (ci := ci) (q := q) (q0 := b) hq1 (lay_get hs)
    rw [hq2] at this
    exact this
  · intro U hU hW
    refine ⟨rfl, by rw [hU]; exact hP, C.warm hW (fun a h1 h2 => by rw [hU]; exact hS.2.1 a h1 h2), hD⟩
  · show (As.reverse ++ .ref b :: st).map (rl ad) = _
    rw [List.map_append, List.map_reverse]
    rfl
/-- a virtual call on a text constant -/
theorem wp_callT {idx i : Nat} {st0 : List Value} (As : List Value) (st : List Value) (hi : i < 11) (hc : decode M.2.1 pc = .ok (.invokevirtual idx, 3)) (hk : MV M.1.cls idx M' n) (hci : M'.1.cls = "java/lang/String") (hn : As.length = n) (hst : st0 = As.reverse ++ .ref (1000 + i) :: st) (hw : (st.map fun v => v.category).sum ≤ 8)
    (h : Cll sh M' d (.ref (1000 + i) :: As) mem K) (k : ∀ r m', K r m' → Wp sh M (d + 1) (pc + 3) lv (r.toList ++ st) m' Q) : Wp sh M (d + 1) pc lv st0 mem Q := by
  intro p l e s m args below meth c H locs ls ad cy D A F C hP hD hS hl
  subst hst
  obtain ⟨hM, hk1, hk2, hk3⟩ := hk
  have ht := F.2.2.2.2.2.2
  refine wp_back F C hS hl (va_runV (C := M'.1.cls) (b := ad (1000 + i)) (As := As.map (rl ad)) (n := n) (bytes := M'.2.1) (maxL := M'.2.2.1) (ret := M'.2.2.2) ⟨F.1, F.2.1, F.2.2.2.2.1, F.2.2.2.2.2.1, ht⟩ (h l ad cy D A) ⟨callB_of n ht (tbl_in M' n hM) rfl rfl rfl (ht _ (gd hM.2.2.1 rfl)) (ht _ (gd hk1 rfl)) hM.2.2.2.1 (rm_ok hM), ht _ (gd hk2 rfl), ht _ (gd hk3 rfl)⟩ ⟨?_, ?_, ?_⟩ rfl (by rw [List.length_map]; exact hn) hl.1 ?_ (lv_room (by rw [rl_sum]; exact hw)) hc ⟨Nat.le_refl _, Nat.le_refl _⟩) k
  · rintro a U g mk ⟨z0, z1, z2, z3⟩
    exact ⟨z0, z1, z2.blind g mk a, z3⟩
  · have := vk_recv C.2.1.1 hi hS
    rw [hci]
    exact this
  · intro U hU hW
    refine ⟨rfl, by rw [hU]; exact hP, C.warm hW (fun a h1 h2 => by rw [hU]; exact hS.2.1 a h1 h2), hD⟩
  · show (As.reverse ++ .ref (1000 + i) :: st).map (rl ad) = _
    rw [List.map_append, List.map_reverse]
    rfl
/-- a static call -/
theorem wp_callS {idx : Nat} {st0 : List Value} (As : List Value) (st : List Value) (hc : decode M.2.1 pc = .ok (.invokestatic idx, 3)) (hk : MS M.1.cls idx M' n) (hn : As.length = n) (hst : st0 = As.reverse ++ st) (hw : (st.map fun v => v.category).sum ≤ 8)
    (h : Cll sh M' d As mem K) (k : ∀ r m', K r m' → Wp sh M (d + 1) (pc + 3) lv (r.toList ++ st) m' Q) : Wp sh M (d + 1) pc lv st0 mem Q := by
  intro p l e s m args below meth c H locs ls ad cy D A F C hP hD hS hl
  subst hst
  obtain ⟨hM, hk1, hk2⟩ := hk
  have ht := F.2.2.2.2.2.2
  refine wp_back F C hS hl (va_runS (As := As.map (rl ad)) (n := n) (bytes := M'.2.1) (maxL := M'.2.2.1) (ret := M'.2.2.2) ⟨F.1, F.2.1, F.2.2.2.2.1, F.2.2.2.2.2.1, ht⟩ (h l ad cy D A) ⟨callB_of n ht (tbl_in M' n hM) rfl rfl rfl (ht _ (gd hM.2.2.1 rfl)) (ht _ (gd hk1 rfl)) hM.2.2.2.1 (rm_ok hM), ht _ (gd hk2 rfl)⟩ ⟨?_, ?_⟩ rfl (by rw [List.length_map]; exact hn) hl.1 ?_ (lv_room (by rw [rl_sum]; exact hw)) hc ⟨Nat.le_refl _, Nat.le_refl _⟩) k
  · rintro a U g mk ⟨z0, z1, z2, z3⟩
    exact ⟨z0, z1, z2.blind g mk a, z3⟩
  · intro U hU hW
    refine ⟨rfl, by rw [hU]; exact hP, C.warm hW (fun a h1 h2 => by rw [hU]; exact hS.2.1 a h1 h2), hD⟩
  · show (As.reverse ++ st).map (rl ad) = _
    rw [List.map_append, List.map_reverse]
/-- a static call of a nest mate's private method -/
theorem wp_callN {idx : Nat} {host : String} {st0 : List Value} (As : List Value) (st : List Value) (hc : decode M.2.1 pc = .ok (.invokestatic idx, 3)) (hk : MN M.1.cls idx M' host n) (hn : As.length = n) (hst : st0 = As.reverse ++ st) (hw : (st.map fun v => v.category).sum ≤ 8)
    (h : Cll sh M' d As mem K) (k : ∀ r m', K r m' → Wp sh M (d + 1) (pc + 3) lv (r.toList ++ st) m' Q) : Wp sh M (d + 1) pc lv st0 mem Q := by
  intro p l e s m args below meth c H locs ls ad cy D A F C hP hD hS hl
  subst hst
  obtain ⟨hM, hk1, hk2⟩ := hk
  have ht := F.2.2.2.2.2.2
  refine wp_back F C hS hl (va_runSN (host := host) (As := As.map (rl ad)) (n := n) (bytes := M'.2.1) (maxL := M'.2.2.1) (ret := M'.2.2.2) ⟨F.1, F.2.1, F.2.2.2.2.1, F.2.2.2.2.2.1, ht⟩ (h l ad cy D A) ⟨va_cnB n ht (tbl_in M' n hM) rfl rfl rfl (C.2.2 _ _ _ _ hk1) (ht _ (gd hM.2.2.1 rfl)) hM.2.2.2.1 (rm_ok hM), ht _ (gd hk2 rfl), trivial⟩ ⟨?_, ?_⟩ rfl (by rw [List.length_map]; exact hn) hl.1 ?_ (lv_room (by rw [rl_sum]; exact hw)) hc ⟨Nat.le_refl _, Nat.le_refl _⟩) k
  · rintro a U g mk ⟨z0, z1, z2, z3⟩
    exact ⟨z0, z1, z2.blind g mk a, z3⟩
  · intro U hU hW
    refine ⟨rfl, by rw [hU]; exact hP, C.warm hW (fun a h1 h2 => by rw [hU]; exact hS.2.1 a h1 h2), hD⟩
  · show (As.reverse ++ st).map (rl ad) = _
    rw [List.map_append, List.map_reverse]
theorem cll_n {as : List Value} {n' : Nat} (h : Cll sh M d as mem K) : Cll sh M d as mem K := h
end WPC
/-! answers by their kind -/
def CI (sh : List Sh) (M : PMe) (d : Nat) (as : List Value) (mem : Mem) (K : Int32 → Mem → Prop) : Prop := Cll sh M d as mem (fun r m' => ∃ x : Int32, r = some (.int x) ∧ K x m')
def CL (sh : List Sh) (M : PMe) (d : Nat) (as : List Value) (mem : Mem) (K : Int64 → Mem → Prop) : Prop := Cll sh M d as mem (fun r m' => ∃ x : Int64, r = some (.long x) ∧ K x m')
def CV (sh : List Sh) (M : PMe) (d : Nat) (as : List Value) (mem : Mem) (K : Mem → Prop) : Prop := Cll sh M d as mem (fun r m' => r = none ∧ K m')
abbrev QI (K : Int32 → Mem → Prop) : Pq := fun r m' => ∃ x : Int32, r = some (.int x) ∧ K x m'
abbrev QL (K : Int64 → Mem → Prop) : Pq := fun r m' => ∃ x : Int64, r = some (.long x) ∧ K x m'
abbrev QV (K : Mem → Prop) : Pq := fun r m' => r = none ∧ K m'
section WPK
variable {sh : List Sh} {M M' : PMe} {d pc n : Nat} {lv : Lv} {mem : Mem} {Q : Pq}
theorem CI.mono {as : List Value} {K K' : Int32 → Mem → Prop} (h : CI sh M d as mem K) (hq : ∀ x m', K x m' → K' x m') : CI sh M d as mem K' := Cll.mono h (fun r m' ⟨x, e, z⟩ => ⟨x, e, hq x m' z⟩)
theorem CL.mono {as : List Value} {K K' : Int64 → Mem → Prop} (h : CL sh M d as mem K) (hq : ∀ x m', K x m' → K' x m') : CL sh M d as mem K' := Cll.mono h (fun r m' ⟨x, e, z⟩ => ⟨x, e, hq x m' z⟩)
theorem CV.mono {as : List Value} {K K' : Mem → Prop} (h : CV sh M d as mem K) (hq : ∀ m', K m' → K' m') : CV sh M d as mem K' := Cll.mono h (fun r m' ⟨e, z⟩ => ⟨e, hq m' z⟩)
theorem wp_vI {idx ci b : Nat} {fs : List (Option Nat)} {st0 : List Value} {K : Int32 → Mem → Prop} (As st : List Value) (hc : decode M.2.1 pc = .ok (.invokevirtual idx, 3)) (hk : MV M.1.cls idx M' n) (hs : sh[b]? = some (.inr (ci, fs))) (hci : (vwCl[ci]?).map (fun q => q.1) = some M'.1.cls) (hn : As.length = n) (hst : st0 = As.reverse ++ .ref b :: st) (hw : (st.map fun v => v.category).sum ≤ 8)
    (h : CI sh M' d (.ref b :: As) mem K) (k : ∀ x m', K x m' → Wp sh M (d + 1) (pc + 3) lv (.int x :: st) m' Q) : Wp sh M (d + 1) pc lv st0 mem Q := wp_callV As st hc hk hs hci hn hst hw h (fun r m' ⟨x, e, z⟩ => by subst e; exact k x m' z)
theorem wp_tI {idx i : Nat} {st0 : List Value} {K : Int32 → Mem → Prop} (As st : List Value) (hi : i < 11) (hc : decode M.2.1 pc = .ok (.invokevirtual idx, 3)) (hk : MV M.1.cls idx M' n) (hci : M'.1.cls = "java/lang/String") (hn : As.length = n) (hst : st0 = As.reverse ++ .ref (1000 + i) :: st) (hw : (st.map fun v => v.category).sum ≤ 8)
    (h : CI sh M' d (.ref (1000 + i) :: As) mem K) (k : ∀ x m', K x m' → Wp sh M (d + 1) (pc + 3) lv (.int x :: st) m' Q) : Wp sh M (d + 1) pc lv st0 mem Q := wp_callT As st hi hc hk hci hn hst hw h (fun r m' ⟨x, e, z⟩ => by subst e; exact k x m' z)
theorem wp_vV {idx ci b : Nat} {fs : List (Option Nat)} {st0 : List Value} {K : Mem → Prop} (As st : List Value) (hc : decode M.2.1 pc = .ok (.invokevirtual idx, 3)) (hk : MV M.1.cls idx M' n) (hs : sh[b]? = some (.inr (ci, fs))) (hci : (vwCl[ci]?).map (fun q => q.1) = some M'.1.cls) (hn : As.length = n) (hst : st0 = As.reverse ++ .ref b :: st) (hw : (st.map fun v => v.category).sum ≤ 8)
    (h : CV sh M' d (.ref b :: As) mem K) (k : ∀ m', K m' → Wp sh M (d + 1) (pc + 3) lv st m' Q) : Wp sh M (d + 1) pc lv st0 mem Q := wp_callV As st hc hk hs hci hn hst hw h (fun r m' ⟨e, z⟩ => by subst e; exact k m' z)
theorem wp_sI {idx : Nat} {st0 : List Value} {K : Int32 → Mem → Prop} (As st : List Value) (hc : decode M.2.1 pc = .ok (.invokestatic idx, 3)) (hk : MS M.1.cls idx M' n) (hn : As.length = n) (hst : st0 = As.reverse ++ st) (hw : (st.map fun v => v.category).sum ≤ 8)
    (h : CI sh M' d As mem K) (k : ∀ x m', K x m' → Wp sh M (d + 1) (pc + 3) lv (.int x :: st) m' Q) : Wp sh M (d + 1) pc lv st0 mem Q := wp_callS As st hc hk hn hst hw h (fun r m' ⟨x, e, z⟩ => by subst e; exact k x m' z)
theorem wp_sL {idx : Nat} {st0 : List Value} {K : Int64 → Mem → Prop} (As st : List Value) (hc : decode M.2.1 pc = .ok (.invokestatic idx, 3)) (hk : MS M.1.cls idx M' n) (hn : As.length = n) (hst : st0 = As.reverse ++ st) (hw : (st.map fun v => v.category).sum ≤ 8)
    (h : CL sh M' d As mem K) (k : ∀ x m', K x m' → Wp sh M (d + 1) (pc + 3) lv (.long x :: st) m' Q) : Wp sh M (d + 1) pc lv st0 mem Q := wp_callS As st hc hk hn hst hw h (fun r m' ⟨x, e, z⟩ => by subst e; exact k x m' z)
theorem wp_sV {idx : Nat} {st0 : List Value} {K : Mem → Prop} (As st : List Value) (hc : decode M.2.1 pc = .ok (.invokestatic idx, 3)) (hk : MS M.1.cls idx M' n) (hn : As.length = n) (hst : st0 = As.reverse ++ st) (hw : (st.map fun v => v.category).sum ≤ 8)
    (h : CV sh M' d As mem K) (k : ∀ m', K m' → Wp sh M (d + 1) (pc + 3) lv st m' Q) : Wp sh M (d + 1) pc lv st0 mem Q := wp_callS As st hc hk hn hst hw h (fun r m' ⟨e, z⟩ => by subst e; exact k m' z)
theorem wp_nI {idx : Nat} {host : String} {st0 : List Value} {K : Int32 → Mem → Prop} (As st : List Value) (hc : decode M.2.1 pc = .ok (.invokestatic idx, 3)) (hk : MN M.1.cls idx M' host n) (hn : As.length = n) (hst : st0 = As.reverse ++ st) (hw : (st.map fun v => v.category).sum ≤ 8)
    (h : CI sh M' d As mem K) (k : ∀ x m', K x m' → Wp sh M (d + 1) (pc + 3) lv (.int x :: st) m' Q) : Wp sh M (d + 1) pc lv st0 mem Q := wp_callN As st hc hk hn hst hw h (fun r m' ⟨x, e, z⟩ => by subst e; exact k x m' z)
/-! Math.max, min -/
def MMx (own : String) (idx : Nat) : Prop := Cond.methodLink own idx Lib.Math.max.name ∈ lw_tbl ∧ Cond.static Lib.Math.max.name ∈ lw_tbl ∧ Cond.initialized "java/lang/Math" ∈ lw_tbl ∧ Cond.code Lib.Math.max.name Lib.Math.max.code 2 (some .int) ∈ lw_tbl
def MMn (own : String) (idx : Nat) : Prop := Cond.methodLink own idx Lib.Math.min.name ∈ lw_tbl ∧ Cond.static Lib.Math.min.name ∈ lw_tbl ∧ Cond.initialized "java/lang/Math" ∈ lw_tbl ∧ Cond.code Lib.Math.min.name Lib.Math.min.code 2 (some .int) ∈ lw_tbl
def MMl (own : String) (idx : Nat) : Prop := Cond.methodLink own idx Lib.MathLoose.min_long.x ∈ lw_tbl ∧ Cond.static Lib.MathLoose.min_long.x ∈ lw_tbl ∧ Cond.initialized "java/lang/Math" ∈ lw_tbl ∧ Cond.code Lib.MathLoose.min_long.x Lib.MathLoose.min_long.code 4 (some .long) ∈ lw_tbl
theorem wp_max {idx : Nat} {x y : Int32} {st : List Value} (hc : decode M.2.1 pc = .ok (.invokestatic idx, 3)) (hk : MMx M.1.cls idx) (hw : (st.map fun v => v.category).sum ≤ 8) (h : Wp sh M (d + 1) (pc + 3) lv (.int (if x < y then y else x) :: st) mem Q) : Wp sh M (d + 1) pc lv (.int y :: .int x :: st) mem Q := by
  intro p l e s m args below meth c H locs ls ad cy D A F C hP hD hS hl
  have ht := F.2.2.2.2.2.2
  exact va_mmax F.1 F.2.1 (F.2.2.2.2.1.trans hl.1.symm) F.2.2.2.2.2.1 (ht _ (gd hk.1 rfl)) (ht _ (gd hk.2.1 rfl)) (ht _ (gd hk.2.2.1 rfl)) (ht _ (gd hk.2.2.2 rfl)) (by simp only [rmD]; omega) (by rw [rl_sum]; simp only [rmD]; omega) (Nat.le_refl _) (Nat.le_refl _) hc (h p l e s m args below meth c H locs ls ad cy D A F C hP hD hS hl)
theorem wp_min {idx : Nat} {x y : Int32} {st : List Value} (hc : decode M.2.1 pc = .ok (.invokestatic idx, 3)) (hk : MMn M.1.cls idx) (hw : (st.map fun v => v.category).sum ≤ 8) (h : Wp sh M (d + 1) (pc + 3) lv (.int (if y < x then y else x) :: st) mem Q) : Wp sh M (d + 1) pc lv (.int y :: .int x :: st) mem Q := by
  intro p l e s m args below meth c H locs ls ad cy D A F C hP hD hS hl
  have ht := F.2.2.2.2.2.2
  exact va_mmin F.1 F.2.1 (F.2.2.2.2.1.trans hl.1.symm) F.2.2.2.2.2.1 (ht _ (gd hk.1 rfl)) (ht _ (gd hk.2.1 rfl)) (ht _ (gd hk.2.2.1 rfl)) (ht _ (gd hk.2.2.2 rfl)) (by simp only [rmD]; omega) (by rw [rl_sum]; simp only [rmD]; omega) (Nat.le_refl _) (Nat.le_refl _) hc (h p l e s m args below meth c H locs ls ad cy D A F C hP hD hS hl)
theorem wp_minL {idx : Nat} {x y : Int64} {st : List Value} (hc : decode M.2.1 pc = .ok (.invokestatic idx, 3)) (hk : MMl M.1.cls idx) (hw : (st.map fun v => v.category).sum ≤ 8) (h : Wp sh M (d + 1) (pc + 3) lv (.long (if y < x then y else x) :: st) mem Q) : Wp sh M (d + 1) pc lv (.long y :: .long x :: st) mem Q := by
  intro p l e s m args below meth c H locs ls ad cy D A F C hP hD hS hl
  have ht := F.2.2.2.2.2.2
  exact va_mmin_long F.1 F.2.1 (F.2.2.2.2.1.trans hl.1.symm) F.2.2.2.2.2.1 (ht _ (gd hk.1 rfl)) (ht _ (gd hk.2.1 rfl)) (ht _ (gd hk.2.2.1 rfl)) (ht _ (gd hk.2.2.2 rfl)) (by simp only [rmD]; omega) (by rw [rl_sum]; simp only [rmD]; omega) (Nat.le_refl _) (Nat.le_refl _) hc (h p l e s m args below meth c H locs ls ad cy D A F C hP hD hS hl)
end WPK
end
section
/-! the two worlds: the class and what it holds; the reference and what it holds -/
def shX : List Sh := [.inr (9, [some 1, some 3, some 5, some 8, some 10, some 11, some 14, some 15, some 18, some 27]), .inr (1, [some 2, none, none]), .inl (0, 17), .inr (1, [some 4, none, none]), .inl (0, 17), .inr (2, [some 6, some 7, none, none]), .inl (0, 12), .inl (0, 192), .inr (6, [some 9, none]), .inl (1, 400), .inr (5, [none]), .inr (8, [some 12, some 13, none, none, none, none, none, none]), .inl (0, 10), .inl (0, 1024), .inr (0, [none, none]), .inr (7, [some 16, some 17, none]), .inl (0, 17), .inl (0, 256), .inr (3, [some 19, some 21, some 23, some 24, some 25, some 26, none, none, none]), .inr (1, [some 20, none, none]), .inl (0, 17), .inr (1, [some 22, none, none]), .inl (0, 17), .inl (0, 16), .inl (0, 16), .inl (0, 16), .inl (0, 16), .inr (4, [some 28, none]), .inl (1, 512)]
def shM : List Sh := [.inr (10, [none, some 1, some 2, some 3, none, some 4, none, some 5, none, none, some 6, some 7, some 8, none, some 9, some 10, some 11, some 12, none, none, some 13, some 14, none, some 15, none, some 16, none, some 17, none, none, none, none, none]), .inl (0, 18), .inl (0, 18), .inl (0, 216), .inl (0, 16), .inl (0, 17), .inl (2, 1024), .inl (2, 65536), .inl (0, 16), .inl (0, 32), .inl (0, 32), .inl (0, 32), .inl (0, 32), .inl (0, 12870), .inl (0, 12870), .inl (0, 1600), .inl (0, 400), .inl (1, 40)]
def IsF (f : Nat) : Prop := shX[f]? = some (.inr (1, [some (f + 1), none, none])) ∧ shX[f + 1]? = some (.inl (0, 17))
theorem isF_1 : IsF 1 := ⟨rfl, rfl⟩
theorem isF_3 : IsF 3 := ⟨rfl, rfl⟩
theorem isF_19 : IsF 19 := ⟨rfl, rfl⟩
theorem isF_21 : IsF 21 := ⟨rfl, rfl⟩
theorem dc {l : List (Nat × Instr × Nat)} {b : ByteArray} (h : ∀ q ∈ l, decode b q.1 = .ok q.2) (k : Nat) {pc : Nat} {i : Instr} {n : Nat} (hk : l[k]? = some (pc, i, n)) : decode b pc = .ok (i, n) := h (pc, i, n) (List.mem_of_getElem? hk)
theorem bp_10 : (Int8.ofInt 10).toInt32 = 10 := by decide
theorem bp_100 : (Int8.ofInt 100).toInt32 = 100 := by decide
theorem bp_11 : (Int8.ofInt 11).toInt32 = 11 := by decide
theorem bp_12 : (Int8.ofInt 12).toInt32 = 12 := by decide
theorem bp_122 : (Int8.ofInt 122).toInt32 = 122 := by decide
theorem bp_16 : (Int8.ofInt 16).toInt32 = 16 := by decide
theorem bp_18 : (Int8.ofInt 18).toInt32 = 18 := by decide
theorem bp_20 : (Int8.ofInt 20).toInt32 = 20 := by decide
theorem bp_24 : (Int8.ofInt 24).toInt32 = 24 := by decide
theorem bp_32 : (Int8.ofInt 32).toInt32 = 32 := by decide
theorem bp_48 : (Int8.ofInt 48).toInt32 = 48 := by decide
theorem bp_57 : (Int8.ofInt 57).toInt32 = 57 := by decide
theorem bp_59 : (Int8.ofInt 59).toInt32 = 59 := by decide
theorem bp_6 : (Int8.ofInt 6).toInt32 = 6 := by decide
theorem bp_63 : (Int8.ofInt 63).toInt32 = 63 := by decide
theorem bp_8 : (Int8.ofInt 8).toInt32 = 8 := by decide
theorem bp_9 : (Int8.ofInt 9).toInt32 = 9 := by decide
theorem bp_97 : (Int8.ofInt 97).toInt32 = 97 := by decide
theorem bp_m100 : (Int8.ofInt (-100)).toInt32 = (-100) := by decide
theorem bp_m2 : (Int8.ofInt (-2)).toInt32 = (-2) := by decide
theorem bp_m4 : (Int8.ofInt (-4)).toInt32 = (-4) := by decide
theorem ic_0 : Int32.ofInt 0 = 0 := by decide
theorem ic_1 : Int32.ofInt 1 = 1 := by decide
theorem ic_2 : Int32.ofInt 2 = 2 := by decide
theorem ic_3 : Int32.ofInt 3 = 3 := by decide
theorem ic_4 : Int32.ofInt 4 = 4 := by decide
theorem ic_5 : Int32.ofInt 5 = 5 := by decide
theorem ic_m1 : Int32.ofInt (-1) = (-1) := by decide
theorem ii_1 (x : Int32) : x + Int32.ofInt 1 = x + 1 := by rw [show Int32.ofInt 1 = 1 by decide]
theorem ii_16 (x : Int32) : x + Int32.ofInt 16 = x + 16 := by rw [show Int32.ofInt 16 = 16 by decide]
theorem ii_2 (x : Int32) : x + Int32.ofInt 2 = x + 2 := by rw [show Int32.ofInt 2 = 2 by decide]
theorem ii_4 (x : Int32) : x + Int32.ofInt 4 = x + 4 := by rw [show Int32.ofInt 4 = 4 by decide]
theorem ii_8 (x : Int32) : x + Int32.ofInt 8 = x + 8 := by rw [show Int32.ofInt 8 = 8 by decide]
theorem ii_m1 (x : Int32) : x + Int32.ofInt (-1) = x + (-1) := by rw [show Int32.ofInt (-1) = (-1) by decide]
theorem ii_m8 (x : Int32) : x + Int32.ofInt (-8) = x + (-8) := by rw [show Int32.ofInt (-8) = (-8) by decide]
theorem sp_1024 : (Int16.ofInt 1024).toInt32 = 1024 := by decide
theorem sp_216 : (Int16.ofInt 216).toInt32 = 216 := by decide
theorem sp_255 : (Int16.ofInt 255).toInt32 = 255 := by decide
theorem sp_256 : (Int16.ofInt 256).toInt32 = 256 := by decide
theorem sp_400 : (Int16.ofInt 400).toInt32 = 400 := by decide
theorem al_10 : Int32.ofNat 10 = 10 := by decide
theorem al_17 : Int32.ofNat 17 = 17 := by decide
theorem al_400 : Int32.ofNat 400 = 400 := by decide
theorem al_512 : Int32.ofNat 512 = 512 := by decide
theorem al_1024 : Int32.ofNat 1024 = 1024 := by decide
theorem mm_Family_35 : MMx "PetalSets$Family" 35 := ⟨List.mem_of_getElem? (i := 981) (by decide +kernel), List.mem_of_getElem? (i := 652) (by decide +kernel), List.mem_of_getElem? (i := 87) (by decide +kernel), List.mem_of_getElem? (i := 653) (by decide +kernel)⟩
theorem mm_History_40 : MMx "PetalSets$History" 40 := ⟨List.mem_of_getElem? (i := 651) (by decide +kernel), List.mem_of_getElem? (i := 652) (by decide +kernel), List.mem_of_getElem? (i := 87) (by decide +kernel), List.mem_of_getElem? (i := 653) (by decide +kernel)⟩
theorem mm_Cover_32 : MMn "PetalSets$Cover" 32 := ⟨List.mem_of_getElem? (i := 871) (by decide +kernel), List.mem_of_getElem? (i := 482) (by decide +kernel), List.mem_of_getElem? (i := 87) (by decide +kernel), List.mem_of_getElem? (i := 483) (by decide +kernel)⟩
theorem mm_Family_41 : MMn "PetalSets$Family" 41 := ⟨List.mem_of_getElem? (i := 986) (by decide +kernel), List.mem_of_getElem? (i := 482) (by decide +kernel), List.mem_of_getElem? (i := 87) (by decide +kernel), List.mem_of_getElem? (i := 483) (by decide +kernel)⟩
theorem mm_History_30 : MMn "PetalSets$History" 30 := ⟨List.mem_of_getElem? (i := 481) (by decide +kernel), List.mem_of_getElem? (i := 482) (by decide +kernel), List.mem_of_getElem? (i := 87) (by decide +kernel), List.mem_of_getElem? (i := 483) (by decide +kernel)⟩
theorem mm_Thinner_25 : MMn "PetalSets$Thinner" 25 := ⟨List.mem_of_getElem? (i := 626) (by decide +kernel), List.mem_of_getElem? (i := 482) (by decide +kernel), List.mem_of_getElem? (i := 87) (by decide +kernel), List.mem_of_getElem? (i := 483) (by decide +kernel)⟩
theorem mm_PS_249 : MMl "PetalSets" 249 := ⟨List.mem_of_getElem? (i := 806) (by decide +kernel), List.mem_of_getElem? (i := 807) (by decide +kernel), List.mem_of_getElem? (i := 87) (by decide +kernel), List.mem_of_getElem? (i := 808) (by decide +kernel)⟩
theorem wp_nm {sh : List Sh} {M : PMe} {d pc : Nat} {lv : Lv} {st : List Value} {mem : Mem} {Q : Pq} {x : Int32} (h : ∀ y : Int32, y = x → Wp sh M d pc lv (.int y :: st) mem Q) : Wp sh M d pc lv (.int x :: st) mem Q := h x rfl
theorem vin {i : Int32} {n : Nat} (h : (!(decide (i < 0)) && decide (i.toNatClampNeg < n)) = true) : vp_in i n := by
  simp only [Bool.and_eq_true, Bool.not_eq_true', decide_eq_false_iff_not, decide_eq_true_eq] at h
  rintro (z | z)
  · exact h.1 z
  · omega
def b2i (c : Prop) [Decidable c] : Int32 := if c then 1 else 0
theorem b2i_0 {c : Prop} [Decidable c] : b2i c = 0 ↔ ¬ c := by unfold b2i; split <;> simp_all
theorem b2i_1 {c : Prop} [Decidable c] : ¬ b2i c = 0 ↔ c := by unfold b2i; split <;> simp_all
theorem b2i_01 {c : Prop} [Decidable c] : b2i c = 0 ∨ b2i c = 1 := by unfold b2i; split <;> simp
theorem b2i_t {c : Prop} [Decidable c] (h : c) : b2i c = 1 := if_pos h
theorem b2i_f {c : Prop} [Decidable c] (h : ¬ c) : b2i c = 0 := if_neg h
theorem CI.to {sh : List Sh} {M : PMe} {d : Nat} {as : List Value} {mem m2 : Mem} {F : Int32} {K : Int32 → Mem → Prop} (h : CI sh M d as mem (fun r m' => r = F ∧ m' = m2)) (k : K F m2) : CI sh M d as mem K := h.mono (fun x m' e => by obtain ⟨e1, e2⟩ := e; subst e1; subst e2; exact k)
theorem CL.to {sh : List Sh} {M : PMe} {d : Nat} {as : List Value} {mem m2 : Mem} {F : Int64} {K : Int64 → Mem → Prop} (h : CL sh M d as mem (fun r m' => r = F ∧ m' = m2)) (k : K F m2) : CL sh M d as mem K := h.mono (fun x m' e => by obtain ⟨e1, e2⟩ := e; subst e1; subst e2; exact k)
theorem CV.to {sh : List Sh} {M : PMe} {d : Nat} {as : List Value} {mem m2 : Mem} {K : Mem → Prop} (h : CV sh M d as mem (fun m' => m' = m2)) (k : K m2) : CV sh M d as mem K := h.mono (fun m' e => by subst e; exact k)
section FUNC
variable {sh : List Sh} {M M' : PMe} {d pc n : Nat} {lv : Lv} {mem m2 : Mem} {Q : Pq}
theorem wp_vIF {idx ci b : Nat} {fs : List (Option Nat)} {st0 : List Value} {F : Int32} (As st : List Value) (hc : decode M.2.1 pc = .ok (.invokevirtual idx, 3)) (hk : MV M.1.cls idx M' n) (hs : sh[b]? = some (.inr (ci, fs))) (hci : (vwCl[ci]?).map (fun q => q.1) = some M'.1.cls) (hn : As.length = n) (hst : st0 = As.reverse ++ .ref b :: st) (hw : (st.map fun v => v.category).sum ≤ 8)
    (h : CI sh M' d (.ref b :: As) mem (fun r m' => r = F ∧ m' = m2)) (k : Wp sh M (d + 1) (pc + 3) lv (.int F :: st) m2 Q) : Wp sh M (d + 1) pc lv st0 mem Q := wp_vI As st hc hk hs hci hn hst hw h (fun x m' e => by obtain ⟨e1, e2⟩ := e; subst e1; subst e2; exact k)
theorem wp_sIF {idx : Nat} {st0 : List Value} {F : Int32} (As st : List Value) (hc : decode M.2.1 pc = .ok (.invokestatic idx, 3)) (hk : MS M.1.cls idx M' n) (hn : As.length = n) (hst : st0 = As.reverse ++ st) (hw : (st.map fun v => v.category).sum ≤ 8)
    (h : CI sh M' d As mem (fun r m' => r = F ∧ m' = m2)) (k : Wp sh M (d + 1) (pc + 3) lv (.int F :: st) m2 Q) : Wp sh M (d + 1) pc lv st0 mem Q := wp_sI As st hc hk hn hst hw h (fun x m' e => by obtain ⟨e1, e2⟩ := e; subst e1; subst e2; exact k)
end FUNC
section SWT
variable {M : PMe} {sh : List Sh} {d pc : Nat} {lv : Lv} {st : List Value} {mem : Mem} {Q : Pq}
theorem wp_sw3 {dflt o0 o1 o2 : Int} {len : Nat} {x : Int32} {td t0 t1 t2 : Nat} (hc : decode M.2.1 pc = .ok (.tableswitch dflt 0 2 #[o0, o1, o2], len)) (hd : (pc : Int) + dflt = (td : Int)) (e0 : (pc : Int) + o0 = (t0 : Int)) (e1 : (pc : Int) + o1 = (t1 : Int)) (e2 : (pc : Int) + o2 = (t2 : Int)) (gd : (x.toInt < 0 ∨ 2 < x.toInt) → Wp sh M d td lv st mem Q) (g0 : x = 0 → Wp sh M d t0 lv st mem Q) (g1 : x = 1 → Wp sh M d t1 lv st mem Q) (g2 : x = 2 → Wp sh M d t2 lv st mem Q) : Wp sh M d pc lv (.int x :: st) mem Q := by
  by_cases h : x.toInt < 0 ∨ 2 < x.toInt
  · exact wp_tableOut hc h hd (gd h)
  · have h1 : ¬ x.toInt < 0 := fun z => h (Or.inl z)
    have h2 : ¬ (2 : Int) < x.toInt := fun z => h (Or.inr z)
    rcases (show x.toInt = 0 ∨ x.toInt = 1 ∨ x.toInt = 2 by omega) with e | e | e
    · exact wp_tableIn hc h1 h2 (by rw [e]; rfl) e0 (g0 (Int32.toInt_inj.mp (by rw [e]; rfl)))
    · exact wp_tableIn hc h1 h2 (by rw [e]; rfl) e1 (g1 (Int32.toInt_inj.mp (by rw [e]; rfl)))
    · exact wp_tableIn hc h1 h2 (by rw [e]; rfl) e2 (g2 (Int32.toInt_inj.mp (by rw [e]; rfl)))
theorem wp_sw4 {dflt o0 o1 o2 o3 : Int} {len : Nat} {x : Int32} {td t0 t1 t2 t3 : Nat} (hc : decode M.2.1 pc = .ok (.tableswitch dflt 0 3 #[o0, o1, o2, o3], len)) (hd : (pc : Int) + dflt = (td : Int)) (e0 : (pc : Int) + o0 = (t0 : Int)) (e1 : (pc : Int) + o1 = (t1 : Int)) (e2 : (pc : Int) + o2 = (t2 : Int)) (e3 : (pc : Int) + o3 = (t3 : Int)) (gd : (x.toInt < 0 ∨ 3 < x.toInt) → Wp sh M d td lv st mem Q) (g0 : x = 0 → Wp sh M d t0 lv st mem Q) (g1 : x = 1 → Wp sh M d t1 lv st mem Q) (g2 : x = 2 → Wp sh M d t2 lv st mem Q) (g3 : x = 3 → Wp sh M d t3 lv st mem Q) : Wp sh M d pc lv (.int x :: st) mem Q := by
  by_cases h : x.toInt < 0 ∨ 3 < x.toInt
  · exact wp_tableOut hc h hd (gd h)
  · have h1 : ¬ x.toInt < 0 := fun z => h (Or.inl z)
    have h2 : ¬ (3 : Int) < x.toInt := fun z => h (Or.inr z)
    rcases (show x.toInt = 0 ∨ x.toInt = 1 ∨ x.toInt = 2 ∨ x.toInt = 3 by omega) with e | e | e | e
    · exact wp_tableIn hc h1 h2 (by rw [e]; rfl) e0 (g0 (Int32.toInt_inj.mp (by rw [e]; rfl)))
    · exact wp_tableIn hc h1 h2 (by rw [e]; rfl) e1 (g1 (Int32.toInt_inj.mp (by rw [e]; rfl)))
    · exact wp_tableIn hc h1 h2 (by rw [e]; rfl) e2 (g2 (Int32.toInt_inj.mp (by rw [e]; rfl)))
    · exact wp_tableIn hc h1 h2 (by rw [e]; rfl) e3 (g3 (Int32.toInt_inj.mp (by rw [e]; rfl)))
theorem wp_sw7 {dflt o0 o1 o2 o3 o4 o5 o6 : Int} {len : Nat} {x : Int32} {td t0 t1 t2 t3 t4 t5 t6 : Nat} (hc : decode M.2.1 pc = .ok (.tableswitch dflt 0 6 #[o0, o1, o2, o3, o4, o5, o6], len)) (hd : (pc : Int) + dflt = (td : Int)) (e0 : (pc : Int) + o0 = (t0 : Int)) (e1 : (pc : Int) + o1 = (t1 : Int)) (e2 : (pc : Int) + o2 = (t2 : Int)) (e3 : (pc : Int) + o3 = (t3 : Int)) (e4 : (pc : Int) + o4 = (t4 : Int)) (e5 : (pc : Int) + o5 = (t5 : Int)) (e6 : (pc : Int) + o6 = (t6 : Int)) (gd : (x.toInt < 0 ∨ 6 < x.toInt) → Wp sh M d td lv st mem Q) (g0 : x = 0 → Wp sh M d t0 lv st mem Q) (g1 : x = 1 → Wp sh M d t1 lv st mem Q) (g2 : x = 2 → Wp sh M d t2 lv st mem Q) (g3 : x = 3 → Wp sh M d t3 lv st mem Q) (g4 : x = 4 → Wp sh M d t4 lv st mem Q) (g5 : x = 5 → Wp sh M d t5 lv st mem Q) (g6 : x = 6 → Wp sh M d t6 lv st mem Q) : Wp sh M d pc lv (.int x :: st) mem Q := by
  by_cases h : x.toInt < 0 ∨ 6 < x.toInt
  · exact wp_tableOut hc h hd (gd h)
  · have h1 : ¬ x.toInt < 0 := fun z => h (Or.inl z)
    have h2 : ¬ (6 : Int) < x.toInt := fun z => h (Or.inr z)
    rcases (show x.toInt = 0 ∨ x.toInt = 1 ∨ x.toInt = 2 ∨ x.toInt = 3 ∨ x.toInt = 4 ∨ x.toInt = 5 ∨ x.toInt = 6 by omega) with e | e | e | e | e | e | e
    · exact wp_tableIn hc h1 h2 (by rw [e]; rfl) e0 (g0 (Int32.toInt_inj.mp (by rw [e]; rfl)))
    · exact wp_tableIn hc h1 h2 (by rw [e]; rfl) e1 (g1 (Int32.toInt_inj.mp (by rw [e]; rfl)))
    · exact wp_tableIn hc h1 h2 (by rw [e]; rfl) e2 (g2 (Int32.toInt_inj.mp (by rw [e]; rfl)))
    · exact wp_tableIn hc h1 h2 (by rw [e]; rfl) e3 (g3 (Int32.toInt_inj.mp (by rw [e]; rfl)))
    · exact wp_tableIn hc h1 h2 (by rw [e]; rfl) e4 (g4 (Int32.toInt_inj.mp (by rw [e]; rfl)))
    · exact wp_tableIn hc h1 h2 (by rw [e]; rfl) e5 (g5 (Int32.toInt_inj.mp (by rw [e]; rfl)))
    · exact wp_tableIn hc h1 h2 (by rw [e]; rfl) e6 (g6 (Int32.toInt_inj.mp (by rw [e]; rfl)))
end SWT
end
section
def k_Ig_bitCount : List (Nat × Instr × Nat) := [(0, .iload_n 0, 1), (1, .iload_n 0, 1), (2, .iconst 1, 1), (3, .iushr, 1), (4, .ldc_w 265, 3), (7, .iand, 1), (8, .isub, 1), (9, .istore_n 0, 1), (10, .iload_n 0, 1), (11, .ldc_w 266, 3), (14, .iand, 1), (15, .iload_n 0, 1), (16, .iconst 2, 1), (17, .iushr, 1), (18, .ldc_w 266, 3), (21, .iand, 1), (22, .iadd, 1), (23, .istore_n 0, 1), (24, .iload_n 0, 1), (25, .iload_n 0, 1), (26, .iconst 4, 1), (27, .iushr, 1), (28, .iadd, 1), (29, .ldc_w 267, 3), (32, .iand, 1), (33, .istore_n 0, 1), (34, .iload_n 0, 1), (35, .iload_n 0, 1), (36, .bipush 8, 2), (38, .iushr, 1), (39, .iadd, 1), (40, .istore_n 0, 1), (41, .iload_n 0, 1), (42, .iload_n 0, 1), (43, .bipush 16, 2), (45, .iushr, 1), (46, .iadd, 1), (47, .istore_n 0, 1), (48, .iload_n 0, 1), (49, .bipush 63, 2), (51, .iand, 1), (52, .ireturn, 1)]
set_option maxRecDepth 100000 in
theorem kd_Ig_bitCount : ∀ q ∈ k_Ig_bitCount, decode prog_14_method_49_code q.1 = .ok q.2 := by decide +kernel
def k_Ig_lowestOneBit : List (Nat × Instr × Nat) := [(0, .iload_n 0, 1), (1, .iload_n 0, 1), (2, .ineg, 1), (3, .iand, 1), (4, .ireturn, 1)]
set_option maxRecDepth 100000 in
theorem kd_Ig_lowestOneBit : ∀ q ∈ k_Ig_lowestOneBit, decode prog_14_method_46_code q.1 = .ok q.2 := by decide +kernel
def k_Ig_numberOfTrailingZeros : List (Nat × Instr × Nat) := [(0, .iload_n 0, 1), (1, .iconst (-1), 1), (2, .ixor, 1), (3, .iload_n 0, 1), (4, .iconst 1, 1), (5, .isub, 1), (6, .iand, 1), (7, .istore_n 0, 1), (8, .iload_n 0, 1), (9, .ifCond .gt 8, 3), (12, .iload_n 0, 1), (13, .bipush 32, 2), (15, .iand, 1), (16, .ireturn, 1), (17, .iconst 1, 1), (18, .istore_n 1, 1), (19, .iload_n 0, 1), (20, .ldc_w 264, 3), (23, .if_icmp .le 11, 3), (26, .iinc 1 16, 3), (29, .iload_n 0, 1), (30, .bipush 16, 2), (32, .iushr, 1), (33, .istore_n 0, 1), (34, .iload_n 0, 1), (35, .sipush 256, 3), (38, .if_icmp .le 11, 3), (41, .iinc 1 8, 3), (44, .iload_n 0, 1), (45, .bipush 8, 2), (47, .iushr, 1), (48, .istore_n 0, 1), (49, .iload_n 0, 1), (50, .bipush 16, 2), (52, .if_icmp .le 10, 3), (55, .iinc 1 4, 3), (58, .iload_n 0, 1), (59, .iconst 4, 1), (60, .iushr, 1), (61, .istore_n 0, 1), (62, .iload_n 0, 1), (63, .iconst 4, 1), (64, .if_icmp .le 10, 3), (67, .iinc 1 2, 3), (70, .iload_n 0, 1), (71, .iconst 2, 1), (72, .iushr, 1), (73, .istore_n 0, 1), (74, .iload_n 1, 1), (75, .iload_n 0, 1), (76, .iconst 1, 1), (77, .iushr, 1), (78, .iadd, 1), (79, .ireturn, 1)]
set_option maxRecDepth 100000 in
theorem kd_Ig_numberOfTrailingZeros : ∀ q ∈ k_Ig_numberOfTrailingZeros, decode prog_14_method_48_code q.1 = .ok q.2 := by decide +kernel
def k_Family_at : List (Nat × Instr × Nat) := [(0, .iload_n 1, 1), (1, .ifCond .lt 21, 3), (4, .iload_n 1, 1), (5, .aload_n 0, 1), (6, .getfield 9, 3), (9, .arraylength, 1), (10, .if_icmp .ge 12, 3), (13, .aload_n 0, 1), (14, .getfield 9, 3), (17, .iload_n 1, 1), (18, .iaload, 1), (19, .goto 4, 3), (22, .iconst 0, 1), (23, .ireturn, 1)]
set_option maxRecDepth 100000 in
theorem kd_Family_at : ∀ q ∈ k_Family_at, decode prog_3_method_2_code q.1 = .ok q.2 := by decide +kernel
def k_Family_allPoints : List (Nat × Instr × Nat) := [(0, .iconst 1, 1), (1, .aload_n 0, 1), (2, .getfield 19, 3), (5, .ishl, 1), (6, .iconst 1, 1), (7, .isub, 1), (8, .ireturn, 1)]
set_option maxRecDepth 100000 in
theorem kd_Family_allPoints : ∀ q ∈ k_Family_allPoints, decode prog_3_method_3_code q.1 = .ok q.2 := by decide +kernel
def k_Family_allSets : List (Nat × Instr × Nat) := [(0, .iconst 1, 1), (1, .aload_n 0, 1), (2, .getfield 15, 3), (5, .ishl, 1), (6, .iconst 1, 1), (7, .isub, 1), (8, .ireturn, 1)]
set_option maxRecDepth 100000 in
theorem kd_Family_allSets : ∀ q ∈ k_Family_allSets, decode prog_3_method_4_code q.1 = .ok q.2 := by decide +kernel
def k_Family_isPoint : List (Nat × Instr × Nat) := [(0, .iload_n 1, 1), (1, .ifCond .lt 15, 3), (4, .iload_n 1, 1), (5, .aload_n 0, 1), (6, .getfield 19, 3), (9, .if_icmp .ge 7, 3), (12, .iconst 1, 1), (13, .goto 4, 3), (16, .iconst 0, 1), (17, .ireturn, 1)]
set_option maxRecDepth 100000 in
theorem kd_Family_isPoint : ∀ q ∈ k_Family_isPoint, decode prog_3_method_5_code q.1 = .ok q.2 := by decide +kernel
def k_Family_holds : List (Nat × Instr × Nat) := [(0, .iload_n 1, 1), (1, .ifCond .lt 15, 3), (4, .iload_n 1, 1), (5, .aload_n 0, 1), (6, .getfield 15, 3), (9, .if_icmp .ge 7, 3), (12, .iconst 1, 1), (13, .goto 4, 3), (16, .iconst 0, 1), (17, .ireturn, 1)]
set_option maxRecDepth 100000 in
theorem kd_Family_holds : ∀ q ∈ k_Family_holds, decode prog_3_method_8_code q.1 = .ok q.2 := by decide +kernel
def k_PS_isBudget : List (Nat × Instr × Nat) := [(0, .iload_n 0, 1), (1, .iconst 1, 1), (2, .if_icmp .lt 12, 3), (5, .iload_n 0, 1), (6, .iconst 5, 1), (7, .if_icmp .gt 7, 3), (10, .iconst 1, 1), (11, .goto 4, 3), (14, .iconst 0, 1), (15, .ireturn, 1)]
set_option maxRecDepth 100000 in
theorem kd_PS_isBudget : ∀ q ∈ k_PS_isBudget, decode prog_1_method_20_code q.1 = .ok q.2 := by decide +kernel
def k_PS_isFlowerSize : List (Nat × Instr × Nat) := [(0, .iload_n 0, 1), (1, .iconst 2, 1), (2, .if_icmp .lt 13, 3), (5, .iload_n 0, 1), (6, .bipush 16, 2), (8, .if_icmp .gt 7, 3), (11, .iconst 1, 1), (12, .goto 4, 3), (15, .iconst 0, 1), (16, .ireturn, 1)]
set_option maxRecDepth 100000 in
theorem kd_PS_isFlowerSize : ∀ q ∈ k_PS_isFlowerSize, decode prog_1_method_21_code q.1 = .ok q.2 := by decide +kernel
def k_Tape_at : List (Nat × Instr × Nat) := [(0, .iload_n 1, 1), (1, .ifCond .lt 33, 3), (4, .iload_n 1, 1), (5, .aload_n 0, 1), (6, .getfield 15, 3), (9, .if_icmp .ge 25, 3), (12, .iload_n 1, 1), (13, .aload_n 0, 1), (14, .getfield 9, 3), (17, .arraylength, 1), (18, .if_icmp .ge 16, 3), (21, .aload_n 0, 1), (22, .getfield 9, 3), (25, .iload_n 1, 1), (26, .baload, 1), (27, .sipush 255, 3), (30, .iand, 1), (31, .goto 4, 3), (34, .iconst (-1), 1), (35, .ireturn, 1)]
set_option maxRecDepth 100000 in
theorem kd_Tape_at : ∀ q ∈ k_Tape_at, decode prog_9_method_3_code q.1 = .ok q.2 := by decide +kernel
def k_Touch_touched : List (Nat × Instr × Nat) := [(0, .iload_n 1, 1), (1, .ifCond .lt 21, 3), (4, .iload_n 1, 1), (5, .aload_n 0, 1), (6, .getfield 15, 3), (9, .arraylength, 1), (10, .if_icmp .ge 12, 3), (13, .aload_n 0, 1), (14, .getfield 15, 3), (17, .iload_n 1, 1), (18, .iaload, 1), (19, .goto 4, 3), (22, .iconst 0, 1), (23, .ireturn, 1)]
set_option maxRecDepth 100000 in
theorem kd_Touch_touched : ∀ q ∈ k_Touch_touched, decode prog_11_method_5_code q.1 = .ok q.2 := by decide +kernel
def k_Mo_in : List (Nat × Instr × Nat) := [(0, .iload_n 0, 1), (1, .iload_n 1, 1), (2, .if_icmp .lt 12, 3), (5, .iload_n 0, 1), (6, .iload_n 2, 1), (7, .if_icmp .gt 7, 3), (10, .iconst 1, 1), (11, .goto 4, 3), (14, .iconst 0, 1), (15, .ireturn, 1)]
set_option maxRecDepth 100000 in
theorem kd_Mo_in : ∀ q ∈ k_Mo_in, decode prog_13_method_3_code q.1 = .ok q.2 := by decide +kernel
def k_Mo_has : List (Nat × Instr × Nat) := [(0, .iload_n 0, 1), (1, .iload_n 1, 1), (2, .ishr, 1), (3, .iconst 1, 1), (4, .iand, 1), (5, .iconst 1, 1), (6, .if_icmp .ne 7, 3), (9, .iconst 1, 1), (10, .goto 4, 3), (13, .iconst 0, 1), (14, .ireturn, 1)]
set_option maxRecDepth 100000 in
theorem kd_Mo_has : ∀ q ∈ k_Mo_has, decode prog_13_method_4_code q.1 = .ok q.2 := by decide +kernel
def k_Mo_isWithin : List (Nat × Instr × Nat) := [(0, .iload_n 0, 1), (1, .iload_n 1, 1), (2, .iconst (-1), 1), (3, .ixor, 1), (4, .iand, 1), (5, .ifCond .ne 7, 3), (8, .iconst 1, 1), (9, .goto 4, 3), (12, .iconst 0, 1), (13, .ireturn, 1)]
set_option maxRecDepth 100000 in
theorem kd_Mo_isWithin : ∀ q ∈ k_Mo_isWithin, decode prog_13_method_5_code q.1 = .ok q.2 := by decide +kernel
def k_Mo_many : List (Nat × Instr × Nat) := [(0, .aload_n 0, 1), (1, .getfield 13, 3), (4, .iconst 1, 1), (5, .iaload, 1), (6, .ireturn, 1)]
set_option maxRecDepth 100000 in
theorem kd_Mo_many : ∀ q ∈ k_Mo_many, decode prog_13_method_9_code q.1 = .ok q.2 := by decide +kernel
def k_Mo_its : List (Nat × Instr × Nat) := [(0, .aload_n 0, 1), (1, .getfield 13, 3), (4, .iconst 2, 1), (5, .iload_n 1, 1), (6, .iadd, 1), (7, .iaload, 1), (8, .ireturn, 1)]
set_option maxRecDepth 100000 in
theorem kd_Mo_its : ∀ q ∈ k_Mo_its, decode prog_13_method_10_code q.1 = .ok q.2 := by decide +kernel
def k_Mo_allPoints : List (Nat × Instr × Nat) := [(0, .iconst 1, 1), (1, .aload_n 0, 1), (2, .getfield 13, 3), (5, .iconst 0, 1), (6, .iaload, 1), (7, .ishl, 1), (8, .iconst 1, 1), (9, .isub, 1), (10, .ireturn, 1)]
set_option maxRecDepth 100000 in
theorem kd_Mo_allPoints : ∀ q ∈ k_Mo_allPoints, decode prog_13_method_13_code q.1 = .ok q.2 := by decide +kernel
def k_Family_arePoints : List (Nat × Instr × Nat) := [(0, .iload_n 1, 1), (1, .ifCond .lt 15, 3), (4, .iload_n 1, 1), (5, .aload_n 0, 1), (6, .invokevirtual 22, 3), (9, .if_icmp .gt 7, 3), (12, .iconst 1, 1), (13, .goto 4, 3), (16, .iconst 0, 1), (17, .ireturn, 1)]
set_option maxRecDepth 100000 in
theorem kd_Family_arePoints : ∀ q ∈ k_Family_arePoints, decode prog_3_method_6_code q.1 = .ok q.2 := by decide +kernel
def k_Family_isSet : List (Nat × Instr × Nat) := [(0, .iload_n 1, 1), (1, .ifCond .le 15, 3), (4, .iload_n 1, 1), (5, .aload_n 0, 1), (6, .invokevirtual 22, 3), (9, .if_icmp .gt 7, 3), (12, .iconst 1, 1), (13, .goto 4, 3), (16, .iconst 0, 1), (17, .ireturn, 1)]
set_option maxRecDepth 100000 in
theorem kd_Family_isSet : ∀ q ∈ k_Family_isSet, decode prog_3_method_7_code q.1 = .ok q.2 := by decide +kernel
def k_Family_areSets : List (Nat × Instr × Nat) := [(0, .iload_n 1, 1), (1, .ifCond .lt 15, 3), (4, .iload_n 1, 1), (5, .aload_n 0, 1), (6, .invokevirtual 26, 3), (9, .if_icmp .gt 7, 3), (12, .iconst 1, 1), (13, .goto 4, 3), (16, .iconst 0, 1), (17, .ireturn, 1)]
set_option maxRecDepth 100000 in
theorem kd_Family_areSets : ∀ q ∈ k_Family_areSets, decode prog_3_method_9_code q.1 = .ok q.2 := by decide +kernel
def k_Tape_isLetter : List (Nat × Instr × Nat) := [(0, .aload_n 0, 1), (1, .iload_n 1, 1), (2, .invokevirtual 19, 3), (5, .bipush 97, 2), (7, .if_icmp .lt 17, 3), (10, .aload_n 0, 1), (11, .iload_n 1, 1), (12, .invokevirtual 19, 3), (15, .bipush 122, 2), (17, .if_icmp .gt 7, 3), (20, .iconst 1, 1), (21, .goto 4, 3), (24, .iconst 0, 1), (25, .ireturn, 1)]
set_option maxRecDepth 100000 in
theorem kd_Tape_isLetter : ∀ q ∈ k_Tape_isLetter, decode prog_9_method_4_code q.1 = .ok q.2 := by decide +kernel
def k_Tape_isDigit : List (Nat × Instr × Nat) := [(0, .aload_n 0, 1), (1, .iload_n 1, 1), (2, .invokevirtual 19, 3), (5, .bipush 48, 2), (7, .if_icmp .lt 17, 3), (10, .aload_n 0, 1), (11, .iload_n 1, 1), (12, .invokevirtual 19, 3), (15, .bipush 57, 2), (17, .if_icmp .gt 7, 3), (20, .iconst 1, 1), (21, .goto 4, 3), (24, .iconst 0, 1), (25, .ireturn, 1)]
set_option maxRecDepth 100000 in
theorem kd_Tape_isDigit : ∀ q ∈ k_Tape_isDigit, decode prog_9_method_5_code q.1 = .ok q.2 := by decide +kernel
def k_Tape_isBlank : List (Nat × Instr × Nat) := [(0, .aload_n 0, 1), (1, .iload_n 1, 1), (2, .invokevirtual 19, 3), (5, .bipush 32, 2), (7, .if_icmp .eq 13, 3), (10, .aload_n 0, 1), (11, .iload_n 1, 1), (12, .invokevirtual 19, 3), (15, .bipush 10, 2), (17, .if_icmp .ne 7, 3), (20, .iconst 1, 1), (21, .goto 4, 3), (24, .iconst 0, 1), (25, .ireturn, 1)]
set_option maxRecDepth 100000 in
theorem kd_Tape_isBlank : ∀ q ∈ k_Tape_isBlank, decode prog_9_method_6_code q.1 = .ok q.2 := by decide +kernel
def k_Touch_untouched : List (Nat × Instr × Nat) := [(0, .aload_n 0, 1), (1, .getfield 18, 3), (4, .aload_n 0, 1), (5, .iload_n 1, 1), (6, .invokevirtual 57, 3), (9, .iconst (-1), 1), (10, .ixor, 1), (11, .iand, 1), (12, .invokestatic 60, 3), (15, .ireturn, 1)]
set_option maxRecDepth 100000 in
theorem kd_Touch_untouched : ∀ q ∈ k_Touch_untouched, decode prog_11_method_6_code q.1 = .ok q.2 := by decide +kernel
def k_Touch_touchesAll : List (Nat × Instr × Nat) := [(0, .aload_n 0, 1), (1, .iload_n 1, 1), (2, .invokevirtual 57, 3), (5, .aload_n 0, 1), (6, .getfield 18, 3), (9, .if_icmp .ne 7, 3), (12, .iconst 1, 1), (13, .goto 4, 3), (16, .iconst 0, 1), (17, .ireturn, 1)]
set_option maxRecDepth 100000 in
theorem kd_Touch_touchesAll : ∀ q ∈ k_Touch_touchesAll, decode prog_11_method_7_code q.1 = .ok q.2 := by decide +kernel
def k_Mo_isThere : List (Nat × Instr × Nat) := [(0, .iload_n 1, 1), (1, .iconst 0, 1), (2, .aload_n 0, 1), (3, .invokevirtual 75, 3), (6, .iconst 1, 1), (7, .isub, 1), (8, .invokestatic 79, 3), (11, .ireturn, 1)]
set_option maxRecDepth 100000 in
theorem kd_Mo_isThere : ∀ q ∈ k_Mo_isThere, decode prog_13_method_11_code q.1 = .ok q.2 := by decide +kernel
def k_Mo_isPoint : List (Nat × Instr × Nat) := [(0, .iload_n 1, 1), (1, .iconst 0, 1), (2, .aload_n 0, 1), (3, .getfield 13, 3), (6, .iconst 0, 1), (7, .iaload, 1), (8, .iconst 1, 1), (9, .isub, 1), (10, .invokestatic 79, 3), (13, .ireturn, 1)]
set_option maxRecDepth 100000 in
theorem kd_Mo_isPoint : ∀ q ∈ k_Mo_isPoint, decode prog_13_method_12_code q.1 = .ok q.2 := by decide +kernel
def k_Mo_arePoints : List (Nat × Instr × Nat) := [(0, .iload_n 1, 1), (1, .iconst 0, 1), (2, .aload_n 0, 1), (3, .invokevirtual 83, 3), (6, .invokestatic 79, 3), (9, .ireturn, 1)]
set_option maxRecDepth 100000 in
theorem kd_Mo_arePoints : ∀ q ∈ k_Mo_arePoints, decode prog_13_method_14_code q.1 = .ok q.2 := by decide +kernel
def k_Mo_areNumbers : List (Nat × Instr × Nat) := [(0, .iload_n 1, 1), (1, .iconst 0, 1), (2, .iconst 1, 1), (3, .aload_n 0, 1), (4, .invokevirtual 75, 3), (7, .ishl, 1), (8, .iconst 1, 1), (9, .isub, 1), (10, .invokestatic 79, 3), (13, .ireturn, 1)]
set_option maxRecDepth 100000 in
theorem kd_Mo_areNumbers : ∀ q ∈ k_Mo_areNumbers, decode prog_13_method_15_code q.1 = .ok q.2 := by decide +kernel
def k_Mo_isOfKernel : List (Nat × Instr × Nat) := [(0, .iload_n 0, 1), (1, .iconst 1, 1), (2, .iconst 5, 1), (3, .invokestatic 79, 3), (6, .ireturn, 1)]
set_option maxRecDepth 100000 in
theorem kd_Mo_isOfKernel : ∀ q ∈ k_Mo_isOfKernel, decode prog_13_method_31_code q.1 = .ok q.2 := by decide +kernel
def k_Mo_isOfFlower : List (Nat × Instr × Nat) := [(0, .iload_n 0, 1), (1, .iconst 2, 1), (2, .bipush 16, 2), (4, .invokestatic 79, 3), (7, .ireturn, 1)]
set_option maxRecDepth 100000 in
theorem kd_Mo_isOfFlower : ∀ q ∈ k_Mo_isOfFlower, decode prog_13_method_32_code q.1 = .ok q.2 := by decide +kernel
def k_PS_feed : List (Nat × Instr × Nat) := [(0, .aload_n 0, 1), (1, .getfield 29, 3), (4, .getfield 75, 3), (7, .bipush 20, 2), (9, .iadd, 1), (10, .sipush 400, 3), (13, .if_icmp .le 5, 3), (16, .iconst (-1), 1), (17, .ireturn, 1), (18, .aload_n 0, 1), (19, .getfield 29, 3), (22, .iload_n 1, 1), (23, .invokevirtual 79, 3), (26, .aload_n 0, 1), (27, .getfield 29, 3), (30, .iload_n 2, 1), (31, .invokevirtual 79, 3), (34, .aload_n 0, 1), (35, .getfield 29, 3), (38, .iload_n 3, 1), (39, .invokevirtual 79, 3), (42, .aload_n 0, 1), (43, .getfield 29, 3), (46, .iload 4, 2), (48, .invokevirtual 79, 3), (51, .aload_n 0, 1), (52, .getfield 29, 3), (55, .iload 5, 2), (57, .invokevirtual 79, 3), (60, .aload_n 0, 1), (61, .getfield 29, 3), (64, .getfield 75, 3), (67, .ireturn, 1)]
set_option maxRecDepth 100000 in
theorem kd_PS_feed : ∀ q ∈ k_PS_feed, decode prog_1_method_2_code q.1 = .ok q.2 := by decide +kernel
def k_Tape_putFour : List (Nat × Instr × Nat) := [(0, .bipush 24, 2), (2, .istore_n 2, 1), (3, .iload_n 2, 1), (4, .ifCond .lt 44, 3), (7, .aload_n 0, 1), (8, .getfield 15, 3), (11, .aload_n 0, 1), (12, .getfield 9, 3), (15, .arraylength, 1), (16, .if_icmp .ge 26, 3), (19, .aload_n 0, 1), (20, .getfield 9, 3), (23, .aload_n 0, 1), (24, .getfield 15, 3), (27, .iload_n 1, 1), (28, .iload_n 2, 1), (29, .ishr, 1), (30, .i2b, 1), (31, .bastore, 1), (32, .aload_n 0, 1), (33, .dup, 1), (34, .getfield 15, 3), (37, .iconst 1, 1), (38, .iadd, 1), (39, .putfield 15, 3), (42, .iinc 2 (-8), 3), (45, .goto (-42), 3), (48, .return_, 1)]
set_option maxRecDepth 100000 in
theorem kd_Tape_putFour : ∀ q ∈ k_Tape_putFour, decode prog_9_method_2_code q.1 = .ok q.2 := by decide +kernel
def k_PS_back : List (Nat × Instr × Nat) := [(0, .iload_n 1, 1), (1, .ifCond .lt 14, 3), (4, .iload_n 1, 1), (5, .aload_n 0, 1), (6, .getfield 29, 3), (9, .getfield 75, 3), (12, .if_icmp .le 5, 3), (15, .iconst (-1), 1), (16, .ireturn, 1), (17, .aload_n 0, 1), (18, .getfield 29, 3), (21, .dup, 1), (22, .getfield 75, 3), (25, .iload_n 1, 1), (26, .isub, 1), (27, .putfield 75, 3), (30, .aload_n 0, 1), (31, .getfield 29, 3), (34, .getfield 75, 3), (37, .ireturn, 1)]
set_option maxRecDepth 100000 in
theorem kd_PS_back : ∀ q ∈ k_PS_back, decode prog_1_method_3_code q.1 = .ok q.2 := by decide +kernel
def k_PS_text : List (Nat × Instr × Nat) := [(0, .aload_n 0, 1), (1, .getfield 36, 3), (4, .aload_n 0, 1), (5, .getfield 29, 3), (8, .aload_n 0, 1), (9, .getfield 16, 3), (12, .invokevirtual 83, 3), (15, .istore_n 1, 1), (16, .aload_n 0, 1), (17, .getfield 29, 3), (20, .iconst 0, 1), (21, .putfield 75, 3), (24, .iload_n 1, 1), (25, .iconst (-1), 1), (26, .if_icmp .eq 8, 3), (29, .bipush (-4), 2), (31, .iload_n 1, 1), (32, .isub, 1), (33, .ireturn, 1), (34, .aload_n 0, 1), (35, .getfield 10, 3), (38, .aload_n 0, 1), (39, .getfield 16, 3), (42, .invokevirtual 87, 3), (45, .aload_n 0, 1), (46, .getfield 22, 3), (49, .invokevirtual 91, 3), (52, .aload_n 0, 1), (53, .getfield 10, 3), (56, .getfield 94, 3), (59, .ireturn, 1)]
set_option maxRecDepth 100000 in
theorem kd_PS_text : ∀ q ∈ k_PS_text, decode prog_1_method_4_code q.1 = .ok q.2 := by decide +kernel
def k_Reader_read : List (Nat × Instr × Nat) := [(0, .aload_n 0, 1), (1, .iconst 0, 1), (2, .putfield 9, 3), (5, .aload_n 2, 1), (6, .bipush 6, 2), (8, .invokevirtual 15, 3), (11, .aload_n 0, 1), (12, .aload_n 1, 1), (13, .invokevirtual 21, 3), (16, .aload_n 0, 1), (17, .aload_n 1, 1), (18, .ldc 25, 2), (20, .invokevirtual 27, 3), (23, .ifCond .eq 12, 3), (26, .aload_n 0, 1), (27, .aload_n 1, 1), (28, .aload_n 2, 1), (29, .invokevirtual 31, 3), (32, .goto 4, 3), (35, .iconst (-1), 1), (36, .istore_n 3, 1), (37, .aload_n 0, 1), (38, .aload_n 1, 1), (39, .invokevirtual 21, 3), (42, .iconst 0, 1), (43, .istore 4, 2), (45, .iload 4, 2), (47, .bipush 16, 2), (49, .if_icmp .gt 37, 3), (52, .iload_n 3, 1), (53, .iconst (-1), 1), (54, .if_icmp .ne 32, 3), (57, .aload_n 0, 1), (58, .getfield 9, 3), (61, .aload_n 1, 1), (62, .getfield 35, 3), (65, .if_icmp .ge 21, 3), (68, .aload_n 0, 1), (69, .aload_n 1, 1), (70, .aload_n 2, 1), (71, .invokevirtual 40, 3), (74, .istore_n 3, 1), (75, .aload_n 0, 1), (76, .aload_n 1, 1), (77, .invokevirtual 21, 3), (80, .iinc 4 1, 3), (83, .goto (-38), 3), (86, .iload_n 3, 1), (87, .ireturn, 1)]
set_option maxRecDepth 100000 in
theorem kd_Reader_read : ∀ q ∈ k_Reader_read, decode prog_8_method_2_code q.1 = .ok q.2 := by decide +kernel
def k_Family_startAnew : List (Nat × Instr × Nat) := [(0, .aload_n 0, 1), (1, .iconst 0, 1), (2, .putfield 15, 3), (5, .aload_n 0, 1), (6, .iload_n 1, 1), (7, .putfield 19, 3), (10, .return_, 1)]
set_option maxRecDepth 100000 in
theorem kd_Family_startAnew : ∀ q ∈ k_Family_startAnew, decode prog_3_method_17_code q.1 = .ok q.2 := by decide +kernel
def k_Reader_skipBlanks : List (Nat × Instr × Nat) := [(0, .aload_n 0, 1), (1, .getfield 9, 3), (4, .aload_n 1, 1), (5, .getfield 35, 3), (8, .if_icmp .ge 27, 3), (11, .aload_n 1, 1), (12, .aload_n 0, 1), (13, .getfield 9, 3), (16, .invokevirtual 43, 3), (19, .ifCond .eq 16, 3), (22, .aload_n 0, 1), (23, .dup, 1), (24, .getfield 9, 3), (27, .iconst 1, 1), (28, .iadd, 1), (29, .putfield 9, 3), (32, .goto (-32), 3), (35, .return_, 1)]
set_option maxRecDepth 100000 in
theorem kd_Reader_skipBlanks : ∀ q ∈ k_Reader_skipBlanks, decode prog_8_method_7_code q.1 = .ok q.2 := by decide +kernel
def k_Reader_isWord : List (Nat × Instr × Nat) := [(0, .iconst 0, 1), (1, .istore_n 3, 1), (2, .iload_n 3, 1), (3, .aload_n 2, 1), (4, .invokevirtual 81, 3), (7, .if_icmp .ge 29, 3), (10, .aload_n 1, 1), (11, .aload_n 0, 1), (12, .getfield 9, 3), (15, .iload_n 3, 1), (16, .iadd, 1), (17, .invokevirtual 50, 3), (20, .aload_n 2, 1), (21, .iload_n 3, 1), (22, .invokevirtual 86, 3), (25, .if_icmp .eq 5, 3), (28, .iconst 0, 1), (29, .ireturn, 1), (30, .iinc 3 1, 3), (33, .goto (-31), 3), (36, .aload_n 1, 1), (37, .aload_n 0, 1), (38, .getfield 9, 3), (41, .aload_n 2, 1), (42, .invokevirtual 81, 3), (45, .iadd, 1), (46, .invokevirtual 75, 3), (49, .ifCond .ne 7, 3), (52, .iconst 1, 1), (53, .goto 4, 3), (56, .iconst 0, 1), (57, .ireturn, 1)]
set_option maxRecDepth 100000 in
theorem kd_Reader_isWord : ∀ q ∈ k_Reader_isWord, decode prog_8_method_8_code q.1 = .ok q.2 := by decide +kernel
def k_Reader_readPoints : List (Nat × Instr × Nat) := [(0, .aload_n 0, 1), (1, .dup, 1), (2, .getfield 9, 3), (5, .bipush 6, 2), (7, .iadd, 1), (8, .putfield 9, 3), (11, .aload_n 1, 1), (12, .aload_n 0, 1), (13, .getfield 9, 3), (16, .invokevirtual 43, 3), (19, .ifCond .ne 8, 3), (22, .aload_n 0, 1), (23, .getfield 9, 3), (26, .ireturn, 1), (27, .aload_n 0, 1), (28, .aload_n 1, 1), (29, .invokevirtual 21, 3), (32, .aload_n 0, 1), (33, .getfield 9, 3), (36, .istore_n 3, 1), (37, .aload_n 1, 1), (38, .iload_n 3, 1), (39, .invokevirtual 47, 3), (42, .ifCond .ne 5, 3), (45, .iload_n 3, 1), (46, .ireturn, 1), (47, .iconst 0, 1), (48, .istore 4, 2), (50, .aload_n 0, 1), (51, .getfield 9, 3), (54, .aload_n 1, 1), (55, .getfield 35, 3), (58, .if_icmp .ge 46, 3), (61, .aload_n 1, 1), (62, .aload_n 0, 1), (63, .getfield 9, 3), (66, .invokevirtual 47, 3), (69, .ifCond .eq 35, 3), (72, .iload 4, 2), (74, .bipush 10, 2), (76, .imul, 1), (77, .aload_n 1, 1), (78, .aload_n 0, 1), (79, .getfield 9, 3), (82, .invokevirtual 50, 3), (85, .iadd, 1), (86, .bipush 48, 2), (88, .isub, 1), (89, .istore 4, 2), (91, .aload_n 0, 1), (92, .dup, 1), (93, .getfield 9, 3), (96, .iconst 1, 1), (97, .iadd, 1), (98, .putfield 9, 3), (101, .goto (-51), 3), (104, .aload_n 0, 1), (105, .getfield 9, 3), (108, .iload_n 3, 1), (109, .isub, 1), (110, .iconst 2, 1), (111, .if_icmp .gt 16, 3), (114, .iload 4, 2), (116, .iconst 1, 1), (117, .if_icmp .lt 10, 3), (120, .iload 4, 2), (122, .bipush 10, 2), (124, .if_icmp .le 5, 3), (127, .iload_n 3, 1), (128, .ireturn, 1), (129, .aload_n 2, 1), (130, .iload 4, 2), (132, .invokevirtual 15, 3), (135, .aload_n 0, 1), (136, .aload_n 1, 1), (137, .invokevirtual 54, 3), (140, .ireturn, 1)]
set_option maxRecDepth 100000 in
theorem kd_Reader_readPoints : ∀ q ∈ k_Reader_readPoints, decode prog_8_method_3_code q.1 = .ok q.2 := by decide +kernel
def k_Reader_readEnd : List (Nat × Instr × Nat) := [(0, .aload_n 0, 1), (1, .aload_n 1, 1), (2, .invokevirtual 21, 3), (5, .aload_n 1, 1), (6, .aload_n 0, 1), (7, .getfield 9, 3), (10, .invokevirtual 50, 3), (13, .bipush 59, 2), (15, .if_icmp .eq 8, 3), (18, .aload_n 0, 1), (19, .getfield 9, 3), (22, .ireturn, 1), (23, .aload_n 0, 1), (24, .dup, 1), (25, .getfield 9, 3), (28, .iconst 1, 1), (29, .iadd, 1), (30, .putfield 9, 3), (33, .iconst (-1), 1), (34, .ireturn, 1)]
set_option maxRecDepth 100000 in
theorem kd_Reader_readEnd : ∀ q ∈ k_Reader_readEnd, decode prog_8_method_6_code q.1 = .ok q.2 := by decide +kernel
def k_Reader_readSet : List (Nat × Instr × Nat) := [(0, .aload_n 0, 1), (1, .aload_n 1, 1), (2, .ldc 58, 2), (4, .invokevirtual 27, 3), (7, .ifCond .eq 12, 3), (10, .aload_n 2, 1), (11, .getfield 60, 3), (14, .bipush 16, 2), (16, .if_icmp .lt 8, 3), (19, .aload_n 0, 1), (20, .getfield 9, 3), (23, .ireturn, 1), (24, .aload_n 0, 1), (25, .dup, 1), (26, .getfield 9, 3), (29, .iconst 3, 1), (30, .iadd, 1), (31, .putfield 9, 3), (34, .aload_n 1, 1), (35, .aload_n 0, 1), (36, .getfield 9, 3), (39, .invokevirtual 43, 3), (42, .ifCond .ne 8, 3), (45, .aload_n 0, 1), (46, .getfield 9, 3), (49, .ireturn, 1), (50, .aload_n 0, 1), (51, .aload_n 1, 1), (52, .invokevirtual 21, 3), (55, .aload_n 0, 1), (56, .getfield 9, 3), (59, .istore_n 3, 1), (60, .aload_n 0, 1), (61, .aload_n 1, 1), (62, .aload_n 2, 1), (63, .invokevirtual 63, 3), (66, .istore 4, 2), (68, .aload_n 2, 1), (69, .iload 4, 2), (71, .invokevirtual 66, 3), (74, .ifCond .eq 13, 3), (77, .aload_n 2, 1), (78, .iload 4, 2), (80, .invokevirtual 69, 3), (83, .iconst (-1), 1), (84, .if_icmp .eq 5, 3), (87, .iload_n 3, 1), (88, .ireturn, 1), (89, .aload_n 2, 1), (90, .iload 4, 2), (92, .invokevirtual 72, 3), (95, .aload_n 0, 1), (96, .aload_n 1, 1), (97, .invokevirtual 54, 3), (100, .ireturn, 1)]
set_option maxRecDepth 100000 in
theorem kd_Reader_readSet : ∀ q ∈ k_Reader_readSet, decode prog_8_method_4_code q.1 = .ok q.2 := by decide +kernel
def k_Reader_readLetters : List (Nat × Instr × Nat) := [(0, .iconst 0, 1), (1, .istore_n 3, 1), (2, .aload_n 0, 1), (3, .getfield 9, 3), (6, .aload_n 1, 1), (7, .getfield 35, 3), (10, .if_icmp .ge 67, 3), (13, .aload_n 1, 1), (14, .aload_n 0, 1), (15, .getfield 9, 3), (18, .invokevirtual 75, 3), (21, .ifCond .eq 56, 3), (24, .aload_n 1, 1), (25, .aload_n 0, 1), (26, .getfield 9, 3), (29, .invokevirtual 50, 3), (32, .bipush 97, 2), (34, .isub, 1), (35, .istore 4, 2), (37, .aload_n 2, 1), (38, .iload 4, 2), (40, .invokevirtual 78, 3), (43, .ifCond .eq 12, 3), (46, .iload_n 3, 1), (47, .iload 4, 2), (49, .ishr, 1), (50, .iconst 1, 1), (51, .iand, 1), (52, .ifCond .eq 5, 3), (55, .iconst (-1), 1), (56, .ireturn, 1), (57, .iload_n 3, 1), (58, .iconst 1, 1), (59, .iload 4, 2), (61, .ishl, 1), (62, .ior, 1), (63, .istore_n 3, 1), (64, .aload_n 0, 1), (65, .dup, 1), (66, .getfield 9, 3), (69, .iconst 1, 1), (70, .iadd, 1), (71, .putfield 9, 3), (74, .goto (-72), 3), (77, .iload_n 3, 1), (78, .ireturn, 1)]
set_option maxRecDepth 100000 in
theorem kd_Reader_readLetters : ∀ q ∈ k_Reader_readLetters, decode prog_8_method_5_code q.1 = .ok q.2 := by decide +kernel
def k_Family_find : List (Nat × Instr × Nat) := [(0, .iconst 0, 1), (1, .istore_n 2, 1), (2, .iload_n 2, 1), (3, .aload_n 0, 1), (4, .getfield 15, 3), (7, .if_icmp .ge 21, 3), (10, .aload_n 0, 1), (11, .getfield 9, 3), (14, .iload_n 2, 1), (15, .iaload, 1), (16, .iload_n 1, 1), (17, .if_icmp .ne 5, 3), (20, .iload_n 2, 1), (21, .ireturn, 1), (22, .iinc 2 1, 3), (25, .goto (-23), 3), (28, .iconst (-1), 1), (29, .ireturn, 1)]
set_option maxRecDepth 100000 in
theorem kd_Family_find : ∀ q ∈ k_Family_find, decode prog_3_method_10_code q.1 = .ok q.2 := by decide +kernel
def k_Family_append : List (Nat × Instr × Nat) := [(0, .aload_n 0, 1), (1, .getfield 15, 3), (4, .aload_n 0, 1), (5, .getfield 9, 3), (8, .arraylength, 1), (9, .if_icmp .ge 23, 3), (12, .aload_n 0, 1), (13, .getfield 9, 3), (16, .aload_n 0, 1), (17, .getfield 15, 3), (20, .iload_n 1, 1), (21, .iastore, 1), (22, .aload_n 0, 1), (23, .dup, 1), (24, .getfield 15, 3), (27, .iconst 1, 1), (28, .iadd, 1), (29, .putfield 15, 3), (32, .return_, 1)]
set_option maxRecDepth 100000 in
theorem kd_Family_append : ∀ q ∈ k_Family_append, decode prog_3_method_18_code q.1 = .ok q.2 := by decide +kernel
def k_Family_copyFrom : List (Nat × Instr × Nat) := [(0, .aload_n 0, 1), (1, .aload_n 1, 1), (2, .getfield 19, 3), (5, .invokevirtual 51, 3), (8, .iconst 0, 1), (9, .istore_n 2, 1), (10, .iload_n 2, 1), (11, .aload_n 1, 1), (12, .getfield 15, 3), (15, .if_icmp .ge 19, 3), (18, .aload_n 0, 1), (19, .aload_n 1, 1), (20, .getfield 9, 3), (23, .iload_n 2, 1), (24, .iaload, 1), (25, .invokevirtual 47, 3), (28, .iinc 2 1, 3), (31, .goto (-21), 3), (34, .return_, 1)]
set_option maxRecDepth 100000 in
theorem kd_Family_copyFrom : ∀ q ∈ k_Family_copyFrom, decode prog_3_method_21_code q.1 = .ok q.2 := by decide +kernel
def k_History_forget : List (Nat × Instr × Nat) := [(0, .aload_n 0, 1), (1, .iconst 0, 1), (2, .putfield 22, 3), (5, .return_, 1)]
set_option maxRecDepth 100000 in
theorem kd_History_forget : ∀ q ∈ k_History_forget, decode prog_4_method_2_code q.1 = .ok q.2 := by decide +kernel
def k_PS_add : List (Nat × Instr × Nat) := [(0, .aload_n 0, 1), (1, .getfield 10, 3), (4, .iload_n 1, 1), (5, .invokevirtual 97, 3), (8, .ifCond .eq 27, 3), (11, .aload_n 0, 1), (12, .getfield 10, 3), (15, .iload_n 1, 1), (16, .invokevirtual 101, 3), (19, .iconst (-1), 1), (20, .if_icmp .ne 15, 3), (23, .aload_n 0, 1), (24, .getfield 10, 3), (27, .getfield 94, 3), (30, .bipush 16, 2), (32, .if_icmp .lt 5, 3), (35, .iconst (-1), 1), (36, .ireturn, 1), (37, .aload_n 0, 1), (38, .getfield 22, 3), (41, .aload_n 0, 1), (42, .getfield 10, 3), (45, .invokevirtual 105, 3), (48, .aload_n 0, 1), (49, .getfield 10, 3), (52, .iload_n 1, 1), (53, .invokevirtual 108, 3), (56, .aload_n 0, 1), (57, .getfield 10, 3), (60, .getfield 94, 3), (63, .iconst 1, 1), (64, .isub, 1), (65, .ireturn, 1)]
set_option maxRecDepth 100000 in
theorem kd_PS_add : ∀ q ∈ k_PS_add, decode prog_1_method_5_code q.1 = .ok q.2 := by decide +kernel
def k_History_keep : List (Nat × Instr × Nat) := [(0, .aload_n 0, 1), (1, .getfield 9, 3), (4, .aload_n 0, 1), (5, .getfield 18, 3), (8, .aload_n 1, 1), (9, .getfield 25, 3), (12, .bipush 16, 2), (14, .invokestatic 30, 3), (17, .iastore, 1), (18, .iconst 0, 1), (19, .istore_n 2, 1), (20, .iload_n 2, 1), (21, .aload_n 0, 1), (22, .getfield 9, 3), (25, .aload_n 0, 1), (26, .getfield 18, 3), (29, .iaload, 1), (30, .if_icmp .ge 28, 3), (33, .aload_n 0, 1), (34, .getfield 15, 3), (37, .aload_n 0, 1), (38, .getfield 18, 3), (41, .bipush 16, 2), (43, .imul, 1), (44, .iload_n 2, 1), (45, .iadd, 1), (46, .aload_n 1, 1), (47, .iload_n 2, 1), (48, .invokevirtual 36, 3), (51, .iastore, 1), (52, .iinc 2 1, 3), (55, .goto (-35), 3), (58, .aload_n 0, 1), (59, .aload_n 0, 1), (60, .getfield 18, 3), (63, .iconst 1, 1), (64, .iadd, 1), (65, .bipush 12, 2), (67, .irem, 1), (68, .putfield 18, 3), (71, .aload_n 0, 1), (72, .aload_n 0, 1), (73, .getfield 22, 3), (76, .iconst 1, 1), (77, .iadd, 1), (78, .bipush 12, 2), (80, .invokestatic 30, 3), (83, .putfield 22, 3), (86, .return_, 1)]
set_option maxRecDepth 100000 in
theorem kd_History_keep : ∀ q ∈ k_History_keep, decode prog_4_method_3_code q.1 = .ok q.2 := by decide +kernel
def k_PS_drop : List (Nat × Instr × Nat) := [(0, .aload_n 0, 1), (1, .getfield 10, 3), (4, .iload_n 1, 1), (5, .invokevirtual 111, 3), (8, .ifCond .ne 5, 3), (11, .iconst 0, 1), (12, .ireturn, 1), (13, .aload_n 0, 1), (14, .getfield 22, 3), (17, .aload_n 0, 1), (18, .getfield 10, 3), (21, .invokevirtual 105, 3), (24, .aload_n 0, 1), (25, .getfield 10, 3), (28, .iconst 1, 1), (29, .iload_n 1, 1), (30, .ishl, 1), (31, .invokevirtual 114, 3), (34, .iconst 1, 1), (35, .ireturn, 1)]
set_option maxRecDepth 100000 in
theorem kd_PS_drop : ∀ q ∈ k_PS_drop, decode prog_1_method_6_code q.1 = .ok q.2 := by decide +kernel
def k_Family_takeOut : List (Nat × Instr × Nat) := [(0, .iconst 0, 1), (1, .istore_n 2, 1), (2, .iconst 0, 1), (3, .istore_n 3, 1), (4, .iload_n 3, 1), (5, .aload_n 0, 1), (6, .getfield 15, 3), (9, .if_icmp .ge 32, 3), (12, .iload_n 1, 1), (13, .iload_n 3, 1), (14, .ishr, 1), (15, .iconst 1, 1), (16, .iand, 1), (17, .ifCond .ne 18, 3), (20, .aload_n 0, 1), (21, .getfield 9, 3), (24, .iload_n 2, 1), (25, .aload_n 0, 1), (26, .getfield 9, 3), (29, .iload_n 3, 1), (30, .iaload, 1), (31, .iastore, 1), (32, .iinc 2 1, 3), (35, .iinc 3 1, 3), (38, .goto (-34), 3), (41, .aload_n 0, 1), (42, .iload_n 2, 1), (43, .putfield 15, 3), (46, .return_, 1)]
set_option maxRecDepth 100000 in
theorem kd_Family_takeOut : ∀ q ∈ k_Family_takeOut, decode prog_3_method_20_code q.1 = .ok q.2 := by decide +kernel
def k_PS_change : List (Nat × Instr × Nat) := [(0, .aload_n 0, 1), (1, .getfield 10, 3), (4, .iload_n 1, 1), (5, .invokevirtual 111, 3), (8, .ifCond .eq 26, 3), (11, .aload_n 0, 1), (12, .getfield 10, 3), (15, .iload_n 2, 1), (16, .invokevirtual 97, 3), (19, .ifCond .eq 15, 3), (22, .aload_n 0, 1), (23, .getfield 10, 3), (26, .iload_n 2, 1), (27, .invokevirtual 101, 3), (30, .iconst (-1), 1), (31, .if_icmp .eq 5, 3), (34, .iconst (-1), 1), (35, .ireturn, 1), (36, .aload_n 0, 1), (37, .getfield 10, 3), (40, .iload_n 1, 1), (41, .invokevirtual 117, 3), (44, .istore_n 3, 1), (45, .aload_n 0, 1), (46, .getfield 22, 3), (49, .aload_n 0, 1), (50, .getfield 10, 3), (53, .invokevirtual 105, 3), (56, .aload_n 0, 1), (57, .getfield 10, 3), (60, .getfield 120, 3), (63, .iload_n 1, 1), (64, .iload_n 2, 1), (65, .iastore, 1), (66, .iload_n 3, 1), (67, .ireturn, 1)]
set_option maxRecDepth 100000 in
theorem kd_PS_change : ∀ q ∈ k_PS_change, decode prog_1_method_7_code q.1 = .ok q.2 := by decide +kernel
def k_PS_swap : List (Nat × Instr × Nat) := [(0, .aload_n 0, 1), (1, .getfield 10, 3), (4, .iload_n 1, 1), (5, .invokevirtual 124, 3), (8, .ifCond .eq 19, 3), (11, .aload_n 0, 1), (12, .getfield 10, 3), (15, .iload_n 2, 1), (16, .invokevirtual 124, 3), (19, .ifCond .eq 8, 3), (22, .iload_n 1, 1), (23, .iload_n 2, 1), (24, .if_icmp .ne 5, 3), (27, .iconst (-1), 1), (28, .ireturn, 1), (29, .iconst 1, 1), (30, .iload_n 1, 1), (31, .ishl, 1), (32, .iconst 1, 1), (33, .iload_n 2, 1), (34, .ishl, 1), (35, .ior, 1), (36, .istore_n 3, 1), (37, .aload_n 0, 1), (38, .getfield 16, 3), (41, .aload_n 0, 1), (42, .getfield 10, 3), (45, .getfield 127, 3), (48, .invokevirtual 130, 3), (51, .iconst 0, 1), (52, .istore 4, 2), (54, .iload 4, 2), (56, .aload_n 0, 1), (57, .getfield 10, 3), (60, .getfield 94, 3), (63, .if_icmp .ge 59, 3), (66, .aload_n 0, 1), (67, .getfield 10, 3), (70, .iload 4, 2), (72, .invokevirtual 117, 3), (75, .istore 5, 2), (77, .iload 5, 2), (79, .iload_n 3, 1), (80, .iand, 1), (81, .invokestatic 133, 3), (84, .iconst 1, 1), (85, .if_icmp .ne 7, 3), (88, .iconst 1, 1), (89, .goto 4, 3), (92, .iconst 0, 1), (93, .istore 6, 2), (95, .aload_n 0, 1), (96, .getfield 16, 3), (99, .iload 6, 2), (101, .ifCond .eq 10, 3), (104, .iload 5, 2), (106, .iload_n 3, 1), (107, .ixor, 1), (108, .goto 5, 3), (111, .iload 5, 2), (113, .invokevirtual 108, 3), (116, .iinc 4 1, 3), (119, .goto (-65), 3), (122, .aload_n 0, 1), (123, .invokevirtual 138, 3), (126, .ireturn, 1)]
set_option maxRecDepth 100000 in
theorem kd_PS_swap : ∀ q ∈ k_PS_swap, decode prog_1_method_8_code q.1 = .ok q.2 := by decide +kernel
def k_PS_becomeIfChanged : List (Nat × Instr × Nat) := [(0, .iconst 0, 1), (1, .istore_n 1, 1), (2, .iconst 0, 1), (3, .istore_n 2, 1), (4, .iload_n 2, 1), (5, .aload_n 0, 1), (6, .getfield 10, 3), (9, .getfield 94, 3), (12, .if_icmp .ge 31, 3), (15, .aload_n 0, 1), (16, .getfield 10, 3), (19, .iload_n 2, 1), (20, .invokevirtual 117, 3), (23, .aload_n 0, 1), (24, .getfield 16, 3), (27, .iload_n 2, 1), (28, .invokevirtual 117, 3), (31, .if_icmp .eq 6, 3), (34, .iinc 1 1, 3), (37, .iinc 2 1, 3), (40, .goto (-36), 3), (43, .iload_n 1, 1), (44, .ifCond .ne 5, 3), (47, .iconst (-1), 1), (48, .ireturn, 1), (49, .aload_n 0, 1), (50, .invokevirtual 148, 3), (53, .iload_n 1, 1), (54, .ireturn, 1)]
set_option maxRecDepth 100000 in
theorem kd_PS_becomeIfChanged : ∀ q ∈ k_PS_becomeIfChanged, decode prog_1_method_18_code q.1 = .ok q.2 := by decide +kernel
def k_PS_become : List (Nat × Instr × Nat) := [(0, .aload_n 0, 1), (1, .getfield 22, 3), (4, .aload_n 0, 1), (5, .getfield 10, 3), (8, .invokevirtual 105, 3), (11, .aload_n 0, 1), (12, .getfield 10, 3), (15, .aload_n 0, 1), (16, .getfield 16, 3), (19, .invokevirtual 87, 3), (22, .return_, 1)]
set_option maxRecDepth 100000 in
theorem kd_PS_become : ∀ q ∈ k_PS_become, decode prog_1_method_17_code q.1 = .ok q.2 := by decide +kernel
def k_PS_without : List (Nat × Instr × Nat) := [(0, .aload_n 0, 1), (1, .getfield 10, 3), (4, .iload_n 1, 1), (5, .invokevirtual 124, 3), (8, .ifCond .eq 16, 3), (11, .aload_n 0, 1), (12, .getfield 10, 3), (15, .iconst 1, 1), (16, .iload_n 1, 1), (17, .ishl, 1), (18, .invokevirtual 142, 3), (21, .ifCond .ne 5, 3), (24, .iconst (-1), 1), (25, .ireturn, 1), (26, .aload_n 0, 1), (27, .getfield 16, 3), (30, .aload_n 0, 1), (31, .getfield 10, 3), (34, .getfield 127, 3), (37, .invokevirtual 130, 3), (40, .iconst 0, 1), (41, .istore_n 2, 1), (42, .iload_n 2, 1), (43, .aload_n 0, 1), (44, .getfield 10, 3), (47, .getfield 94, 3), (50, .if_icmp .ge 30, 3), (53, .aload_n 0, 1), (54, .getfield 16, 3), (57, .aload_n 0, 1), (58, .getfield 10, 3), (61, .iload_n 2, 1), (62, .invokevirtual 117, 3), (65, .iconst 1, 1), (66, .iload_n 1, 1), (67, .ishl, 1), (68, .iconst (-1), 1), (69, .ixor, 1), (70, .iand, 1), (71, .invokevirtual 145, 3), (74, .iinc 2 1, 3), (77, .goto (-35), 3), (80, .aload_n 0, 1), (81, .invokevirtual 148, 3), (84, .aload_n 0, 1), (85, .getfield 10, 3), (88, .getfield 94, 3), (91, .ireturn, 1)]
set_option maxRecDepth 100000 in
theorem kd_PS_without : ∀ q ∈ k_PS_without, decode prog_1_method_9_code q.1 = .ok q.2 := by decide +kernel
def k_Family_setsWith : List (Nat × Instr × Nat) := [(0, .iconst 0, 1), (1, .istore_n 2, 1), (2, .iconst 0, 1), (3, .istore_n 3, 1), (4, .iload_n 3, 1), (5, .aload_n 0, 1), (6, .getfield 15, 3), (9, .if_icmp .ge 27, 3), (12, .aload_n 0, 1), (13, .getfield 9, 3), (16, .iload_n 3, 1), (17, .iaload, 1), (18, .iload_n 1, 1), (19, .iand, 1), (20, .iload_n 1, 1), (21, .if_icmp .ne 9, 3), (24, .iload_n 2, 1), (25, .iconst 1, 1), (26, .iload_n 3, 1), (27, .ishl, 1), (28, .ior, 1), (29, .istore_n 2, 1), (30, .iinc 3 1, 3), (33, .goto (-29), 3), (36, .iload_n 2, 1), (37, .ireturn, 1)]
set_option maxRecDepth 100000 in
theorem kd_Family_setsWith : ∀ q ∈ k_Family_setsWith, decode prog_3_method_11_code q.1 = .ok q.2 := by decide +kernel
def k_Family_appendNew : List (Nat × Instr × Nat) := [(0, .iload_n 1, 1), (1, .ifCond .eq 17, 3), (4, .aload_n 0, 1), (5, .iload_n 1, 1), (6, .invokevirtual 44, 3), (9, .iconst (-1), 1), (10, .if_icmp .ne 8, 3), (13, .aload_n 0, 1), (14, .iload_n 1, 1), (15, .invokevirtual 47, 3), (18, .return_, 1)]
set_option maxRecDepth 100000 in
theorem kd_Family_appendNew : ∀ q ∈ k_Family_appendNew, decode prog_3_method_19_code q.1 = .ok q.2 := by decide +kernel
def k_PS_only : List (Nat × Instr × Nat) := [(0, .aload_n 0, 1), (1, .getfield 10, 3), (4, .iload_n 1, 1), (5, .invokevirtual 124, 3), (8, .ifCond .ne 5, 3), (11, .iconst (-1), 1), (12, .ireturn, 1), (13, .aload_n 0, 1), (14, .getfield 10, 3), (17, .iconst 1, 1), (18, .iload_n 1, 1), (19, .ishl, 1), (20, .invokevirtual 142, 3), (23, .istore_n 3, 1), (24, .iload_n 2, 1), (25, .ifCond .eq 17, 3), (28, .aload_n 0, 1), (29, .getfield 10, 3), (32, .invokevirtual 151, 3), (35, .iload_n 3, 1), (36, .iconst (-1), 1), (37, .ixor, 1), (38, .iand, 1), (39, .goto 4, 3), (42, .iload_n 3, 1), (43, .istore 4, 2), (45, .aload_n 0, 1), (46, .iload 4, 2), (48, .invokevirtual 154, 3), (51, .ireturn, 1)]
set_option maxRecDepth 100000 in
theorem kd_PS_only : ∀ q ∈ k_PS_only, decode prog_1_method_10_code q.1 = .ok q.2 := by decide +kernel
def k_PS_letGo : List (Nat × Instr × Nat) := [(0, .iload_n 1, 1), (1, .ifCond .ne 5, 3), (4, .iconst (-1), 1), (5, .ireturn, 1), (6, .aload_n 0, 1), (7, .getfield 22, 3), (10, .aload_n 0, 1), (11, .getfield 10, 3), (14, .invokevirtual 105, 3), (17, .aload_n 0, 1), (18, .getfield 10, 3), (21, .iload_n 1, 1), (22, .invokevirtual 114, 3), (25, .iload_n 1, 1), (26, .invokestatic 133, 3), (29, .ireturn, 1)]
set_option maxRecDepth 100000 in
theorem kd_PS_letGo : ∀ q ∈ k_PS_letGo, decode prog_1_method_19_code q.1 = .ok q.2 := by decide +kernel
def k_PS_join : List (Nat × Instr × Nat) := [(0, .aload_n 0, 1), (1, .getfield 10, 3), (4, .iload_n 1, 1), (5, .invokevirtual 124, 3), (8, .ifCond .eq 19, 3), (11, .aload_n 0, 1), (12, .getfield 10, 3), (15, .iload_n 2, 1), (16, .invokevirtual 124, 3), (19, .ifCond .eq 8, 3), (22, .iload_n 1, 1), (23, .iload_n 2, 1), (24, .if_icmp .ne 5, 3), (27, .iconst (-1), 1), (28, .ireturn, 1), (29, .aload_n 0, 1), (30, .getfield 10, 3), (33, .iconst 1, 1), (34, .iload_n 2, 1), (35, .ishl, 1), (36, .invokevirtual 142, 3), (39, .ifCond .ne 5, 3), (42, .iconst (-1), 1), (43, .ireturn, 1), (44, .aload_n 0, 1), (45, .getfield 16, 3), (48, .aload_n 0, 1), (49, .getfield 10, 3), (52, .getfield 127, 3), (55, .invokevirtual 130, 3), (58, .iconst 0, 1), (59, .istore_n 3, 1), (60, .iload_n 3, 1), (61, .aload_n 0, 1), (62, .getfield 10, 3), (65, .getfield 94, 3), (68, .if_icmp .ge 64, 3), (71, .aload_n 0, 1), (72, .getfield 10, 3), (75, .iload_n 3, 1), (76, .invokevirtual 117, 3), (79, .istore 4, 2), (81, .iload 4, 2), (83, .iload_n 2, 1), (84, .ishr, 1), (85, .iconst 1, 1), (86, .iand, 1), (87, .ifCond .eq 7, 3), (90, .iconst 1, 1), (91, .goto 4, 3), (94, .iconst 0, 1), (95, .istore 5, 2), (97, .aload_n 0, 1), (98, .getfield 16, 3), (101, .iload 5, 2), (103, .ifCond .eq 18, 3), (106, .iload 4, 2), (108, .iconst 1, 1), (109, .iload_n 2, 1), (110, .ishl, 1), (111, .iconst (-1), 1), (112, .ixor, 1), (113, .iand, 1), (114, .iconst 1, 1), (115, .iload_n 1, 1), (116, .ishl, 1), (117, .ior, 1), (118, .goto 5, 3), (121, .iload 4, 2), (123, .invokevirtual 145, 3), (126, .iinc 3 1, 3), (129, .goto (-69), 3), (132, .aload_n 0, 1), (133, .invokevirtual 148, 3), (136, .aload_n 0, 1), (137, .getfield 10, 3), (140, .getfield 94, 3), (143, .ireturn, 1)]
set_option maxRecDepth 100000 in
theorem kd_PS_join : ∀ q ∈ k_PS_join, decode prog_1_method_11_code q.1 = .ok q.2 := by decide +kernel
def k_PS_turn : List (Nat × Instr × Nat) := [(0, .aload_n 0, 1), (1, .getfield 16, 3), (4, .aload_n 0, 1), (5, .getfield 10, 3), (8, .getfield 127, 3), (11, .invokevirtual 130, 3), (14, .iconst 0, 1), (15, .istore_n 1, 1), (16, .iload_n 1, 1), (17, .aload_n 0, 1), (18, .getfield 10, 3), (21, .getfield 94, 3), (24, .if_icmp .ge 50, 3), (27, .aload_n 0, 1), (28, .getfield 10, 3), (31, .iload_n 1, 1), (32, .invokevirtual 117, 3), (35, .iconst 1, 1), (36, .ishl, 1), (37, .istore_n 2, 1), (38, .iload_n 2, 1), (39, .aload_n 0, 1), (40, .getfield 10, 3), (43, .getfield 127, 3), (46, .ishr, 1), (47, .iconst 1, 1), (48, .iand, 1), (49, .istore_n 3, 1), (50, .aload_n 0, 1), (51, .getfield 16, 3), (54, .iload_n 2, 1), (55, .aload_n 0, 1), (56, .getfield 10, 3), (59, .invokevirtual 157, 3), (62, .iand, 1), (63, .iload_n 3, 1), (64, .ior, 1), (65, .invokevirtual 108, 3), (68, .iinc 1 1, 3), (71, .goto (-55), 3), (74, .aload_n 0, 1), (75, .invokevirtual 138, 3), (78, .ireturn, 1)]
set_option maxRecDepth 100000 in
theorem kd_PS_turn : ∀ q ∈ k_PS_turn, decode prog_1_method_12_code q.1 = .ok q.2 := by decide +kernel
def k_PS_flip : List (Nat × Instr × Nat) := [(0, .aload_n 0, 1), (1, .getfield 10, 3), (4, .getfield 94, 3), (7, .ifCond .ne 5, 3), (10, .iconst (-1), 1), (11, .ireturn, 1), (12, .aload_n 0, 1), (13, .getfield 16, 3), (16, .aload_n 0, 1), (17, .getfield 10, 3), (20, .getfield 127, 3), (23, .invokevirtual 130, 3), (26, .iconst 0, 1), (27, .istore_n 1, 1), (28, .iload_n 1, 1), (29, .aload_n 0, 1), (30, .getfield 10, 3), (33, .getfield 94, 3), (36, .if_icmp .ge 34, 3), (39, .aload_n 0, 1), (40, .getfield 16, 3), (43, .aload_n 0, 1), (44, .getfield 10, 3), (47, .invokevirtual 157, 3), (50, .aload_n 0, 1), (51, .getfield 10, 3), (54, .iload_n 1, 1), (55, .invokevirtual 117, 3), (58, .iconst (-1), 1), (59, .ixor, 1), (60, .iand, 1), (61, .invokevirtual 145, 3), (64, .iinc 1 1, 3), (67, .goto (-39), 3), (70, .aload_n 0, 1), (71, .invokevirtual 148, 3), (74, .aload_n 0, 1), (75, .getfield 10, 3), (78, .getfield 94, 3), (81, .ireturn, 1)]
set_option maxRecDepth 100000 in
theorem kd_PS_flip : ∀ q ∈ k_PS_flip, decode prog_1_method_13_code q.1 = .ok q.2 := by decide +kernel
def k_PS_reduce : List (Nat × Instr × Nat) := [(0, .iload_n 1, 1), (1, .invokestatic 160, 3), (4, .ifCond .ne 5, 3), (7, .iconst (-1), 1), (8, .ireturn, 1), (9, .aload_n 0, 1), (10, .getfield 64, 3), (13, .aload_n 0, 1), (14, .getfield 10, 3), (17, .iload_n 1, 1), (18, .invokevirtual 163, 3), (21, .aload_n 0, 1), (22, .getfield 64, 3), (25, .getfield 167, 3), (28, .ifCond .eq 6, 3), (31, .bipush (-2), 2), (33, .ireturn, 1), (34, .aload_n 0, 1), (35, .getfield 64, 3), (38, .getfield 171, 3), (41, .ifCond .ne 5, 3), (44, .iconst (-1), 1), (45, .ireturn, 1), (46, .aload_n 0, 1), (47, .getfield 16, 3), (50, .aload_n 0, 1), (51, .getfield 64, 3), (54, .getfield 174, 3), (57, .invokevirtual 87, 3), (60, .aload_n 0, 1), (61, .invokevirtual 148, 3), (64, .aload_n 0, 1), (65, .getfield 10, 3), (68, .getfield 94, 3), (71, .ireturn, 1)]
set_option maxRecDepth 100000 in
theorem kd_PS_reduce : ∀ q ∈ k_PS_reduce, decode prog_1_method_14_code q.1 = .ok q.2 := by decide +kernel
def k_Kernel_run : List (Nat × Instr × Nat) := [(0, .aload_n 0, 1), (1, .getfield 34, 3), (4, .iload_n 2, 1), (5, .if_icmp .ne 15, 3), (8, .aload_n 0, 1), (9, .getfield 12, 3), (12, .aload_n 1, 1), (13, .invokevirtual 45, 3), (16, .ifCond .eq 4, 3), (19, .return_, 1), (20, .aload_n 0, 1), (21, .iload_n 2, 1), (22, .putfield 34, 3), (25, .aload_n 0, 1), (26, .iconst 0, 1), (27, .putfield 38, 3), (30, .aload_n 0, 1), (31, .iconst 0, 1), (32, .putfield 41, 3), (35, .aload_n 0, 1), (36, .getfield 12, 3), (39, .aload_n 1, 1), (40, .invokevirtual 49, 3), (43, .aload_n 0, 1), (44, .getfield 18, 3), (47, .aload_n 1, 1), (48, .invokevirtual 49, 3), (51, .iconst 1, 1), (52, .istore_n 3, 1), (53, .iconst 0, 1), (54, .istore 4, 2), (56, .iload 4, 2), (58, .bipush 16, 2), (60, .if_icmp .ge 19, 3), (63, .iload_n 3, 1), (64, .ifCond .eq 15, 3), (67, .aload_n 0, 1), (68, .iload_n 2, 1), (69, .invokevirtual 53, 3), (72, .istore_n 3, 1), (73, .iinc 4 1, 3), (76, .goto (-20), 3), (79, .return_, 1)]
set_option maxRecDepth 100000 in
theorem kd_Kernel_run : ∀ q ∈ k_Kernel_run, decode prog_5_method_2_code q.1 = .ok q.2 := by decide +kernel
def k_Family_sameAs : List (Nat × Instr × Nat) := [(0, .aload_n 0, 1), (1, .getfield 15, 3), (4, .aload_n 1, 1), (5, .getfield 15, 3), (8, .if_icmp .eq 5, 3), (11, .iconst 0, 1), (12, .ireturn, 1), (13, .iconst 0, 1), (14, .istore_n 2, 1), (15, .iload_n 2, 1), (16, .aload_n 0, 1), (17, .getfield 15, 3), (20, .if_icmp .ge 26, 3), (23, .aload_n 0, 1), (24, .getfield 9, 3), (27, .iload_n 2, 1), (28, .iaload, 1), (29, .aload_n 1, 1), (30, .getfield 9, 3), (33, .iload_n 2, 1), (34, .iaload, 1), (35, .if_icmp .eq 5, 3), (38, .iconst 0, 1), (39, .ireturn, 1), (40, .iinc 2 1, 3), (43, .goto (-28), 3), (46, .iconst 1, 1), (47, .ireturn, 1)]
set_option maxRecDepth 100000 in
theorem kd_Family_sameAs : ∀ q ∈ k_Family_sameAs, decode prog_3_method_22_code q.1 = .ok q.2 := by decide +kernel
def k_Kernel_takeStep : List (Nat × Instr × Nat) := [(0, .aload_n 0, 1), (1, .invokevirtual 57, 3), (4, .istore_n 2, 1), (5, .iload_n 2, 1), (6, .iconst (-1), 1), (7, .if_icmp .eq 25, 3), (10, .aload_n 0, 1), (11, .getfield 18, 3), (14, .iconst 1, 1), (15, .iload_n 2, 1), (16, .ishl, 1), (17, .invokevirtual 61, 3), (20, .aload_n 0, 1), (21, .iconst 0, 1), (22, .iconst 1, 1), (23, .iload_n 2, 1), (24, .ishl, 1), (25, .bipush (-2), 2), (27, .invokevirtual 65, 3), (30, .iconst 1, 1), (31, .ireturn, 1), (32, .aload_n 0, 1), (33, .getfield 18, 3), (36, .iload_n 1, 1), (37, .iconst 1, 1), (38, .iadd, 1), (39, .invokestatic 69, 3), (42, .istore_n 3, 1), (43, .iload_n 3, 1), (44, .iconst (-1), 1), (45, .if_icmp .ne 5, 3), (48, .iconst 0, 1), (49, .ireturn, 1), (50, .aload_n 0, 1), (51, .getfield 18, 3), (54, .iload_n 3, 1), (55, .invokestatic 75, 3), (58, .istore 4, 2), (60, .iload 4, 2), (62, .ifCond .ne 10, 3), (65, .aload_n 0, 1), (66, .iconst 1, 1), (67, .putfield 41, 3), (70, .iconst 0, 1), (71, .ireturn, 1), (72, .aload_n 0, 1), (73, .getfield 18, 3), (76, .iload_n 3, 1), (77, .invokevirtual 61, 3), (80, .aload_n 0, 1), (81, .getfield 18, 3), (84, .iload 4, 2), (86, .invokevirtual 78, 3), (89, .aload_n 0, 1), (90, .iconst 1, 1), (91, .iload_n 3, 1), (92, .iload 4, 2), (94, .invokevirtual 65, 3), (97, .iconst 1, 1), (98, .ireturn, 1)]
set_option maxRecDepth 100000 in
theorem kd_Kernel_takeStep : ∀ q ∈ k_Kernel_takeStep, decode prog_5_method_3_code q.1 = .ok q.2 := by decide +kernel
def k_Kernel_firstWithInner : List (Nat × Instr × Nat) := [(0, .iconst 0, 1), (1, .istore_n 1, 1), (2, .iload_n 1, 1), (3, .aload_n 0, 1), (4, .getfield 18, 3), (7, .getfield 81, 3), (10, .if_icmp .ge 57, 3), (13, .iconst 0, 1), (14, .istore_n 2, 1), (15, .iload_n 2, 1), (16, .aload_n 0, 1), (17, .getfield 18, 3), (20, .getfield 81, 3), (23, .if_icmp .ge 38, 3), (26, .iload_n 1, 1), (27, .iload_n 2, 1), (28, .if_icmp .eq 27, 3), (31, .aload_n 0, 1), (32, .getfield 18, 3), (35, .iload_n 2, 1), (36, .invokevirtual 84, 3), (39, .aload_n 0, 1), (40, .getfield 18, 3), (43, .iload_n 1, 1), (44, .invokevirtual 84, 3), (47, .iconst (-1), 1), (48, .ixor, 1), (49, .iand, 1), (50, .ifCond .ne 5, 3), (53, .iload_n 1, 1), (54, .ireturn, 1), (55, .iinc 2 1, 3), (58, .goto (-43), 3), (61, .iinc 1 1, 3), (64, .goto (-62), 3), (67, .iconst (-1), 1), (68, .ireturn, 1)]
set_option maxRecDepth 100000 in
theorem kd_Kernel_firstWithInner : ∀ q ∈ k_Kernel_firstWithInner, decode prog_5_method_4_code q.1 = .ok q.2 := by decide +kernel
def k_Kernel_noteStep : List (Nat × Instr × Nat) := [(0, .aload_n 0, 1), (1, .getfield 38, 3), (4, .bipush 16, 2), (6, .if_icmp .ge 59, 3), (9, .aload_n 0, 1), (10, .getfield 21, 3), (13, .aload_n 0, 1), (14, .getfield 38, 3), (17, .iload_n 1, 1), (18, .iastore, 1), (19, .aload_n 0, 1), (20, .getfield 25, 3), (23, .aload_n 0, 1), (24, .getfield 38, 3), (27, .iload_n 2, 1), (28, .iastore, 1), (29, .aload_n 0, 1), (30, .getfield 28, 3), (33, .aload_n 0, 1), (34, .getfield 38, 3), (37, .iload_n 3, 1), (38, .iastore, 1), (39, .aload_n 0, 1), (40, .getfield 31, 3), (43, .aload_n 0, 1), (44, .getfield 38, 3), (47, .aload_n 0, 1), (48, .getfield 18, 3), (51, .getfield 81, 3), (54, .iastore, 1), (55, .aload_n 0, 1), (56, .dup, 1), (57, .getfield 38, 3), (60, .iconst 1, 1), (61, .iadd, 1), (62, .putfield 38, 3), (65, .return_, 1)]
set_option maxRecDepth 100000 in
theorem kd_Kernel_noteStep : ∀ q ∈ k_Kernel_noteStep, decode prog_5_method_5_code q.1 = .ok q.2 := by decide +kernel
def k_Petals_leastFlower : List (Nat × Instr × Nat) := [(0, .iload_n 1, 1), (1, .iconst 1, 1), (2, .isub, 1), (3, .istore_n 2, 1), (4, .iload_n 2, 1), (5, .aload_n 0, 1), (6, .getfield 9, 3), (9, .if_icmp .ge 88, 3), (12, .iload_n 1, 1), (13, .iconst 2, 1), (14, .isub, 1), (15, .istore_n 3, 1), (16, .iload_n 3, 1), (17, .iload_n 2, 1), (18, .if_icmp .ge 73, 3), (21, .aload_n 0, 1), (22, .iload_n 2, 1), (23, .invokevirtual 15, 3), (26, .aload_n 0, 1), (27, .iload_n 3, 1), (28, .invokevirtual 15, 3), (31, .iand, 1), (32, .istore 4, 2), (34, .aload_n 0, 1), (35, .aload_n 0, 1), (36, .iload_n 2, 1), (37, .invokevirtual 15, 3), (40, .aload_n 0, 1), (41, .iload_n 3, 1), (42, .invokevirtual 15, 3), (45, .iconst 1, 1), (46, .iload_n 3, 1), (47, .ishl, 1), (48, .iconst 1, 1), (49, .isub, 1), (50, .invokestatic 33, 3), (53, .istore 5, 2), (55, .aload_n 0, 1), (56, .iload 5, 2), (58, .iload 4, 2), (60, .iload_n 1, 1), (61, .iconst 2, 1), (62, .isub, 1), (63, .invokestatic 29, 3), (66, .istore 6, 2), (68, .iload 6, 2), (70, .iconst (-1), 1), (71, .if_icmp .eq 14, 3), (74, .iload 6, 2), (76, .iconst 1, 1), (77, .iload_n 2, 1), (78, .ishl, 1), (79, .ior, 1), (80, .iconst 1, 1), (81, .iload_n 3, 1), (82, .ishl, 1), (83, .ior, 1), (84, .ireturn, 1), (85, .iinc 3 1, 3), (88, .goto (-72), 3), (91, .iinc 2 1, 3), (94, .goto (-90), 3), (97, .iconst (-1), 1), (98, .ireturn, 1)]
set_option maxRecDepth 100000 in
theorem kd_Petals_leastFlower : ∀ q ∈ k_Petals_leastFlower, decode prog_7_method_5_code q.1 = .ok q.2 := by decide +kernel
def k_Petals_fitting : List (Nat × Instr × Nat) := [(0, .iload_n 1, 1), (1, .iload_n 2, 1), (2, .iand, 1), (3, .istore 4, 2), (5, .aload_n 0, 1), (6, .iload_n 1, 1), (7, .iload 4, 2), (9, .aload_n 0, 1), (10, .iload_n 2, 1), (11, .iload 4, 2), (13, .iload_n 3, 1), (14, .invokestatic 47, 3), (17, .invokestatic 47, 3), (20, .ireturn, 1)]
set_option maxRecDepth 100000 in
theorem kd_Petals_fitting : ∀ q ∈ k_Petals_fitting, decode prog_7_method_11_code q.1 = .ok q.2 := by decide +kernel
def k_Petals_meetingIn : List (Nat × Instr × Nat) := [(0, .iconst 0, 1), (1, .istore 4, 2), (3, .iconst 0, 1), (4, .istore 5, 2), (6, .iload 5, 2), (8, .aload_n 0, 1), (9, .getfield 9, 3), (12, .if_icmp .ge 47, 3), (15, .iload_n 3, 1), (16, .iload 5, 2), (18, .ishr, 1), (19, .ifCond .eq 40, 3), (22, .iload_n 3, 1), (23, .iload 5, 2), (25, .ishr, 1), (26, .iconst 1, 1), (27, .iand, 1), (28, .ifCond .eq 25, 3), (31, .aload_n 0, 1), (32, .getfield 50, 3), (35, .iload 5, 2), (37, .iaload, 1), (38, .iload_n 1, 1), (39, .iand, 1), (40, .iload_n 2, 1), (41, .if_icmp .ne 12, 3), (44, .iload 4, 2), (46, .iconst 1, 1), (47, .iload 5, 2), (49, .ishl, 1), (50, .ior, 1), (51, .istore 4, 2), (53, .iinc 5 1, 3), (56, .goto (-50), 3), (59, .iload 4, 2), (61, .ireturn, 1)]
set_option maxRecDepth 100000 in
theorem kd_Petals_meetingIn : ∀ q ∈ k_Petals_meetingIn, decode prog_7_method_12_code q.1 = .ok q.2 := by decide +kernel
def k_Petals_leastClique : List (Nat × Instr × Nat) := [(0, .iload_n 3, 1), (1, .ifCond .gt 5, 3), (4, .iconst 0, 1), (5, .ireturn, 1), (6, .iload_n 1, 1), (7, .invokestatic 39, 3), (10, .iload_n 3, 1), (11, .if_icmp .ge 5, 3), (14, .iconst (-1), 1), (15, .ireturn, 1), (16, .iload_n 3, 1), (17, .iconst 1, 1), (18, .if_icmp .ne 8, 3), (21, .iload_n 1, 1), (22, .invokestatic 44, 3), (25, .ireturn, 1), (26, .iload_n 3, 1), (27, .iconst 1, 1), (28, .isub, 1), (29, .istore 4, 2), (31, .iload 4, 2), (33, .aload_n 0, 1), (34, .getfield 9, 3), (37, .if_icmp .ge 65, 3), (40, .iload_n 1, 1), (41, .iload 4, 2), (43, .ishr, 1), (44, .iconst 1, 1), (45, .iand, 1), (46, .ifCond .eq 50, 3), (49, .aload_n 0, 1), (50, .aload_n 0, 1), (51, .iload 4, 2), (53, .invokevirtual 15, 3), (56, .iload_n 2, 1), (57, .iload_n 1, 1), (58, .iconst 1, 1), (59, .iload 4, 2), (61, .ishl, 1), (62, .iconst 1, 1), (63, .isub, 1), (64, .iand, 1), (65, .invokestatic 47, 3), (68, .istore 5, 2), (70, .aload_n 0, 1), (71, .iload 5, 2), (73, .iload_n 2, 1), (74, .iload_n 3, 1), (75, .iconst 1, 1), (76, .isub, 1), (77, .invokestatic 29, 3), (80, .istore 6, 2), (82, .iload 6, 2), (84, .iconst (-1), 1), (85, .if_icmp .eq 11, 3), (88, .iload 6, 2), (90, .iconst 1, 1), (91, .iload 4, 2), (93, .ishl, 1), (94, .ior, 1), (95, .ireturn, 1), (96, .iinc 4 1, 3), (99, .goto (-68), 3), (102, .iconst (-1), 1), (103, .ireturn, 1)]
set_option maxRecDepth 100000 in
theorem kd_Petals_leastClique : ∀ q ∈ k_Petals_leastClique, decode prog_7_method_9_code q.1 = .ok q.2 := by decide +kernel
def k_Petals_coreOf : List (Nat × Instr × Nat) := [(0, .bipush (-2), 2), (2, .istore_n 2, 1), (3, .iconst 1, 1), (4, .istore_n 3, 1), (5, .iload_n 3, 1), (6, .aload_n 0, 1), (7, .getfield 9, 3), (10, .if_icmp .ge 73, 3), (13, .iconst 0, 1), (14, .istore 4, 2), (16, .iload 4, 2), (18, .iload_n 3, 1), (19, .if_icmp .ge 58, 3), (22, .iload_n 1, 1), (23, .iload_n 3, 1), (24, .ishr, 1), (25, .iconst 1, 1), (26, .iand, 1), (27, .ifCond .eq 44, 3), (30, .iload_n 1, 1), (31, .iload 4, 2), (33, .ishr, 1), (34, .iconst 1, 1), (35, .iand, 1), (36, .ifCond .eq 35, 3), (39, .aload_n 0, 1), (40, .iload_n 3, 1), (41, .invokevirtual 15, 3), (44, .aload_n 0, 1), (45, .iload 4, 2), (47, .invokevirtual 15, 3), (50, .iand, 1), (51, .istore 5, 2), (53, .iload_n 2, 1), (54, .bipush (-2), 2), (56, .if_icmp .eq 12, 3), (59, .iload_n 2, 1), (60, .iload 5, 2), (62, .if_icmp .eq 6, 3), (65, .bipush (-2), 2), (67, .ireturn, 1), (68, .iload 5, 2), (70, .istore_n 2, 1), (71, .iinc 4 1, 3), (74, .goto (-58), 3), (77, .iinc 3 1, 3), (80, .goto (-75), 3), (83, .iload_n 2, 1), (84, .ireturn, 1)]
set_option maxRecDepth 100000 in
theorem kd_Petals_coreOf : ∀ q ∈ k_Petals_coreOf, decode prog_7_method_2_code q.1 = .ok q.2 := by decide +kernel
def k_PS_thin : List (Nat × Instr × Nat) := [(0, .iload_n 1, 1), (1, .invokestatic 177, 3), (4, .ifCond .ne 5, 3), (7, .iconst (-1), 1), (8, .ireturn, 1), (9, .aload_n 0, 1), (10, .getfield 57, 3), (13, .aload_n 0, 1), (14, .getfield 10, 3), (17, .iload_n 1, 1), (18, .invokevirtual 180, 3), (21, .istore_n 2, 1), (22, .aload_n 0, 1), (23, .aload_n 0, 1), (24, .getfield 10, 3), (27, .invokevirtual 151, 3), (30, .iload_n 2, 1), (31, .iconst (-1), 1), (32, .ixor, 1), (33, .iand, 1), (34, .invokevirtual 154, 3), (37, .ireturn, 1)]
set_option maxRecDepth 100000 in
theorem kd_PS_thin : ∀ q ∈ k_PS_thin, decode prog_1_method_15_code q.1 = .ok q.2 := by decide +kernel
def k_Thinner_leastFree : List (Nat × Instr × Nat) := [(0, .aload_n 0, 1), (1, .aload_n 1, 1), (2, .getfield 22, 3), (5, .bipush 16, 2), (7, .invokestatic 25, 3), (10, .putfield 18, 3), (13, .aload_n 0, 1), (14, .aload_n 1, 1), (15, .invokevirtual 31, 3), (18, .aload_n 0, 1), (19, .getfield 9, 3), (22, .iconst 0, 1), (23, .iconst 0, 1), (24, .iastore, 1), (25, .iconst 0, 1), (26, .istore_n 3, 1), (27, .iload_n 3, 1), (28, .aload_n 0, 1), (29, .getfield 18, 3), (32, .if_icmp .ge 65, 3), (35, .aload_n 0, 1), (36, .iload_n 2, 1), (37, .iload_n 3, 1), (38, .iconst 1, 1), (39, .iload_n 3, 1), (40, .ishl, 1), (41, .aload_n 0, 1), (42, .getfield 9, 3), (45, .iload_n 3, 1), (46, .iaload, 1), (47, .invokevirtual 35, 3), (50, .iconst (-1), 1), (51, .if_icmp .eq 7, 3), (54, .iconst 1, 1), (55, .goto 4, 3), (58, .iconst 0, 1), (59, .istore 4, 2), (61, .aload_n 0, 1), (62, .getfield 9, 3), (65, .iload_n 3, 1), (66, .iconst 1, 1), (67, .iadd, 1), (68, .iload 4, 2), (70, .ifCond .eq 14, 3), (73, .aload_n 0, 1), (74, .getfield 9, 3), (77, .iload_n 3, 1), (78, .iaload, 1), (79, .iconst 1, 1), (80, .iadd, 1), (81, .goto 9, 3), (84, .aload_n 0, 1), (85, .getfield 9, 3), (88, .iload_n 3, 1), (89, .iaload, 1), (90, .iastore, 1), (91, .iinc 3 1, 3), (94, .goto (-67), 3), (97, .aload_n 0, 1), (98, .iload_n 2, 1), (99, .aload_n 0, 1), (100, .getfield 18, 3), (103, .iconst 0, 1), (104, .aload_n 0, 1), (105, .getfield 9, 3), (108, .aload_n 0, 1), (109, .getfield 18, 3), (112, .iaload, 1), (113, .invokevirtual 35, 3), (116, .ireturn, 1)]
set_option maxRecDepth 100000 in
theorem kd_Thinner_leastFree : ∀ q ∈ k_Thinner_leastFree, decode prog_10_method_2_code q.1 = .ok q.2 := by decide +kernel
def k_Thinner_fillFits : List (Nat × Instr × Nat) := [(0, .iconst 0, 1), (1, .istore_n 2, 1), (2, .iload_n 2, 1), (3, .aload_n 0, 1), (4, .getfield 18, 3), (7, .if_icmp .ge 68, 3), (10, .iconst 0, 1), (11, .istore_n 3, 1), (12, .iload_n 3, 1), (13, .iload_n 2, 1), (14, .if_icmp .ge 55, 3), (17, .aload_n 1, 1), (18, .aload_n 1, 1), (19, .iload_n 2, 1), (20, .invokevirtual 39, 3), (23, .aload_n 1, 1), (24, .iload_n 3, 1), (25, .invokevirtual 39, 3), (28, .aload_n 1, 1), (29, .invokevirtual 43, 3), (32, .invokestatic 47, 3), (35, .istore 4, 2), (37, .aload_n 0, 1), (38, .getfield 15, 3), (41, .iload_n 2, 1), (42, .bipush 16, 2), (44, .imul, 1), (45, .iload_n 3, 1), (46, .iadd, 1), (47, .iload 4, 2), (49, .iastore, 1), (50, .aload_n 0, 1), (51, .getfield 15, 3), (54, .iload_n 3, 1), (55, .bipush 16, 2), (57, .imul, 1), (58, .iload_n 2, 1), (59, .iadd, 1), (60, .iload 4, 2), (62, .iastore, 1), (63, .iinc 3 1, 3), (66, .goto (-54), 3), (69, .iinc 2 1, 3), (72, .goto (-70), 3), (75, .return_, 1)]
set_option maxRecDepth 100000 in
theorem kd_Thinner_fillFits : ∀ q ∈ k_Thinner_fillFits, decode prog_10_method_3_code q.1 = .ok q.2 := by decide +kernel
def k_Thinner_choose : List (Nat × Instr × Nat) := [(0, .iload 4, 2), (2, .ifCond .gt 5, 3), (5, .iload_n 3, 1), (6, .ireturn, 1), (7, .iload_n 2, 1), (8, .ifCond .le 22, 3), (11, .iload_n 2, 1), (12, .aload_n 0, 1), (13, .getfield 18, 3), (16, .if_icmp .gt 14, 3), (19, .aload_n 0, 1), (20, .getfield 9, 3), (23, .iload_n 2, 1), (24, .iaload, 1), (25, .iload 4, 2), (27, .if_icmp .ge 5, 3), (30, .iconst (-1), 1), (31, .ireturn, 1), (32, .iload_n 2, 1), (33, .iconst 1, 1), (34, .isub, 1), (35, .istore 5, 2), (37, .aload_n 0, 1), (38, .iload_n 1, 1), (39, .iload 5, 2), (41, .iload_n 3, 1), (42, .iload 4, 2), (44, .invokevirtual 35, 3), (47, .istore 6, 2), (49, .iload 6, 2), (51, .iconst (-1), 1), (52, .if_icmp .eq 6, 3), (55, .iload 6, 2), (57, .ireturn, 1), (58, .aload_n 0, 1), (59, .iload 5, 2), (61, .iload_n 3, 1), (62, .iload_n 1, 1), (63, .iconst 1, 1), (64, .isub, 1), (65, .invokevirtual 53, 3), (68, .ifCond .eq 5, 3), (71, .iconst (-1), 1), (72, .ireturn, 1), (73, .aload_n 0, 1), (74, .iload_n 1, 1), (75, .iload 5, 2), (77, .iload_n 3, 1), (78, .iconst 1, 1), (79, .iload 5, 2), (81, .ishl, 1), (82, .ior, 1), (83, .iload 4, 2), (85, .iconst 1, 1), (86, .isub, 1), (87, .invokevirtual 35, 3), (90, .ireturn, 1)]
set_option maxRecDepth 100000 in
theorem kd_Thinner_choose : ∀ q ∈ k_Thinner_choose, decode prog_10_method_4_code q.1 = .ok q.2 := by decide +kernel
def k_Thinner_closes : List (Nat × Instr × Nat) := [(0, .iload_n 2, 1), (1, .invokestatic 57, 3), (4, .iload_n 3, 1), (5, .if_icmp .ge 5, 3), (8, .iconst 0, 1), (9, .ireturn, 1), (10, .iload_n 3, 1), (11, .iconst 1, 1), (12, .if_icmp .gt 5, 3), (15, .iconst 1, 1), (16, .ireturn, 1), (17, .iload_n 3, 1), (18, .iconst 1, 1), (19, .isub, 1), (20, .istore 4, 2), (22, .iload 4, 2), (24, .aload_n 0, 1), (25, .getfield 18, 3), (28, .if_icmp .ge 56, 3), (31, .iload_n 2, 1), (32, .iload 4, 2), (34, .ishr, 1), (35, .iconst 1, 1), (36, .iand, 1), (37, .ifCond .eq 41, 3), (40, .iload_n 2, 1), (41, .aload_n 0, 1), (42, .getfield 15, 3), (45, .iload_n 1, 1), (46, .bipush 16, 2), (48, .imul, 1), (49, .iload 4, 2), (51, .iadd, 1), (52, .iaload, 1), (53, .iand, 1), (54, .iconst 1, 1), (55, .iload 4, 2), (57, .ishl, 1), (58, .iconst 1, 1), (59, .isub, 1), (60, .iand, 1), (61, .istore 5, 2), (63, .aload_n 0, 1), (64, .iload_n 1, 1), (65, .iload 5, 2), (67, .iload_n 3, 1), (68, .iconst 1, 1), (69, .isub, 1), (70, .invokevirtual 53, 3), (73, .ifCond .eq 5, 3), (76, .iconst 1, 1), (77, .ireturn, 1), (78, .iinc 4 1, 3), (81, .goto (-59), 3), (84, .iconst 0, 1), (85, .ireturn, 1)]
set_option maxRecDepth 100000 in
theorem kd_Thinner_closes : ∀ q ∈ k_Thinner_closes, decode prog_10_method_5_code q.1 = .ok q.2 := by decide +kernel
def k_PS_undo : List (Nat × Instr × Nat) := [(0, .aload_n 0, 1), (1, .getfield 22, 3), (4, .getfield 184, 3), (7, .ifCond .ne 5, 3), (10, .iconst (-1), 1), (11, .ireturn, 1), (12, .aload_n 0, 1), (13, .getfield 22, 3), (16, .aload_n 0, 1), (17, .getfield 10, 3), (20, .invokevirtual 187, 3), (23, .aload_n 0, 1), (24, .getfield 22, 3), (27, .getfield 184, 3), (30, .ireturn, 1)]
set_option maxRecDepth 100000 in
theorem kd_PS_undo : ∀ q ∈ k_PS_undo, decode prog_1_method_16_code q.1 = .ok q.2 := by decide +kernel
def k_History_restore : List (Nat × Instr × Nat) := [(0, .aload_n 0, 1), (1, .aload_n 0, 1), (2, .getfield 18, 3), (5, .bipush 12, 2), (7, .iadd, 1), (8, .iconst 1, 1), (9, .isub, 1), (10, .bipush 12, 2), (12, .irem, 1), (13, .putfield 18, 3), (16, .aload_n 0, 1), (17, .aload_n 0, 1), (18, .getfield 22, 3), (21, .iconst 1, 1), (22, .isub, 1), (23, .iconst 0, 1), (24, .invokestatic 40, 3), (27, .putfield 22, 3), (30, .aload_n 1, 1), (31, .aload_n 1, 1), (32, .getfield 43, 3), (35, .invokevirtual 46, 3), (38, .iconst 0, 1), (39, .istore_n 2, 1), (40, .iload_n 2, 1), (41, .aload_n 0, 1), (42, .getfield 9, 3), (45, .aload_n 0, 1), (46, .getfield 18, 3), (49, .iaload, 1), (50, .if_icmp .ge 27, 3), (53, .aload_n 1, 1), (54, .aload_n 0, 1), (55, .getfield 15, 3), (58, .aload_n 0, 1), (59, .getfield 18, 3), (62, .bipush 16, 2), (64, .imul, 1), (65, .iload_n 2, 1), (66, .iadd, 1), (67, .iaload, 1), (68, .invokevirtual 50, 3), (71, .iinc 2 1, 3), (74, .goto (-34), 3), (77, .return_, 1)]
set_option maxRecDepth 100000 in
theorem kd_History_restore : ∀ q ∈ k_History_restore, decode prog_4_method_4_code q.1 = .ok q.2 := by decide +kernel
def k_PS_set : List (Nat × Instr × Nat) := [(0, .aload_n 0, 1), (1, .getfield 10, 3), (4, .iload_n 1, 1), (5, .invokevirtual 111, 3), (8, .ifCond .ne 5, 3), (11, .iconst (-1), 1), (12, .ireturn, 1), (13, .aload_n 0, 1), (14, .getfield 10, 3), (17, .iload_n 1, 1), (18, .invokevirtual 117, 3), (21, .istore_n 3, 1), (22, .iload_n 2, 1), (23, .tableswitch 66 0 3 #[29, 31, 36, 51], 29), (52, .iload_n 3, 1), (53, .ireturn, 1), (54, .iload_n 3, 1), (55, .invokestatic 133, 3), (58, .ireturn, 1), (59, .aload_n 0, 1), (60, .getfield 10, 3), (63, .iload_n 3, 1), (64, .invokevirtual 142, 3), (67, .iconst 1, 1), (68, .iload_n 1, 1), (69, .ishl, 1), (70, .iconst (-1), 1), (71, .ixor, 1), (72, .iand, 1), (73, .ireturn, 1), (74, .aload_n 0, 1), (75, .getfield 10, 3), (78, .iload_n 3, 1), (79, .invokevirtual 190, 3), (82, .iconst 1, 1), (83, .iload_n 1, 1), (84, .ishl, 1), (85, .iconst (-1), 1), (86, .ixor, 1), (87, .iand, 1), (88, .ireturn, 1), (89, .iconst (-1), 1), (90, .ireturn, 1)]
set_option maxRecDepth 100000 in
theorem kd_PS_set : ∀ q ∈ k_PS_set, decode prog_1_method_22_code q.1 = .ok q.2 := by decide +kernel
def k_Family_setsMeeting : List (Nat × Instr × Nat) := [(0, .iconst 0, 1), (1, .istore_n 2, 1), (2, .iconst 0, 1), (3, .istore_n 3, 1), (4, .iload_n 3, 1), (5, .aload_n 0, 1), (6, .getfield 15, 3), (9, .if_icmp .ge 26, 3), (12, .aload_n 0, 1), (13, .getfield 9, 3), (16, .iload_n 3, 1), (17, .iaload, 1), (18, .iload_n 1, 1), (19, .iand, 1), (20, .ifCond .eq 9, 3), (23, .iload_n 2, 1), (24, .iconst 1, 1), (25, .iload_n 3, 1), (26, .ishl, 1), (27, .ior, 1), (28, .istore_n 2, 1), (29, .iinc 3 1, 3), (32, .goto (-28), 3), (35, .iload_n 2, 1), (36, .ireturn, 1)]
set_option maxRecDepth 100000 in
theorem kd_Family_setsMeeting : ∀ q ∈ k_Family_setsMeeting, decode prog_3_method_12_code q.1 = .ok q.2 := by decide +kernel
def k_PS_degree : List (Nat × Instr × Nat) := [(0, .aload_n 0, 1), (1, .getfield 10, 3), (4, .iload_n 1, 1), (5, .invokevirtual 124, 3), (8, .ifCond .ne 5, 3), (11, .iconst (-1), 1), (12, .ireturn, 1), (13, .aload_n 0, 1), (14, .getfield 10, 3), (17, .iconst 1, 1), (18, .iload_n 1, 1), (19, .ishl, 1), (20, .invokevirtual 142, 3), (23, .invokestatic 133, 3), (26, .ireturn, 1)]
set_option maxRecDepth 100000 in
theorem kd_PS_degree : ∀ q ∈ k_PS_degree, decode prog_1_method_23_code q.1 = .ok q.2 := by decide +kernel
def k_PS_having : List (Nat × Instr × Nat) := [(0, .aload_n 0, 1), (1, .getfield 10, 3), (4, .iload_n 1, 1), (5, .invokevirtual 193, 3), (8, .ifCond .ne 5, 3), (11, .iconst (-1), 1), (12, .ireturn, 1), (13, .aload_n 0, 1), (14, .getfield 10, 3), (17, .iload_n 1, 1), (18, .invokevirtual 142, 3), (21, .ireturn, 1)]
set_option maxRecDepth 100000 in
theorem kd_PS_having : ∀ q ∈ k_PS_having, decode prog_1_method_24_code q.1 = .ok q.2 := by decide +kernel
def k_PS_isFlower : List (Nat × Instr × Nat) := [(0, .aload_n 0, 1), (1, .getfield 10, 3), (4, .iload_n 1, 1), (5, .invokevirtual 196, 3), (8, .ifCond .ne 5, 3), (11, .iconst (-1), 1), (12, .ireturn, 1), (13, .aload_n 0, 1), (14, .getfield 10, 3), (17, .iload_n 1, 1), (18, .invokestatic 199, 3), (21, .bipush (-2), 2), (23, .if_icmp .ne 7, 3), (26, .iconst 0, 1), (27, .goto 4, 3), (30, .iconst 1, 1), (31, .ireturn, 1)]
set_option maxRecDepth 100000 in
theorem kd_PS_isFlower : ∀ q ∈ k_PS_isFlower, decode prog_1_method_25_code q.1 = .ok q.2 := by decide +kernel
def k_PS_core : List (Nat × Instr × Nat) := [(0, .aload_n 0, 1), (1, .getfield 10, 3), (4, .iload_n 1, 1), (5, .invokevirtual 196, 3), (8, .ifCond .ne 5, 3), (11, .iconst (-1), 1), (12, .ireturn, 1), (13, .aload_n 0, 1), (14, .getfield 10, 3), (17, .iload_n 1, 1), (18, .invokestatic 199, 3), (21, .ireturn, 1)]
set_option maxRecDepth 100000 in
theorem kd_PS_core : ∀ q ∈ k_PS_core, decode prog_1_method_26_code q.1 = .ok q.2 := by decide +kernel
def k_PS_greatest : List (Nat × Instr × Nat) := [(0, .iload_n 1, 1), (1, .ifCond .lt 8, 3), (4, .iload_n 1, 1), (5, .iconst 2, 1), (6, .if_icmp .le 5, 3), (9, .iconst (-1), 1), (10, .ireturn, 1), (11, .aload_n 0, 1), (12, .getfield 10, 3), (15, .invokestatic 204, 3), (18, .istore_n 2, 1), (19, .iload_n 2, 1), (20, .iconst (-1), 1), (21, .if_icmp .ne 6, 3), (24, .bipush (-2), 2), (26, .ireturn, 1), (27, .iload_n 1, 1), (28, .ifCond .ne 5, 3), (31, .iload_n 2, 1), (32, .ireturn, 1), (33, .iload_n 1, 1), (34, .iconst 1, 1), (35, .if_icmp .ne 10, 3), (38, .iload_n 2, 1), (39, .invokestatic 133, 3), (42, .goto 11, 3), (45, .aload_n 0, 1), (46, .getfield 10, 3), (49, .iload_n 2, 1), (50, .invokestatic 199, 3), (53, .ireturn, 1)]
set_option maxRecDepth 100000 in
theorem kd_PS_greatest : ∀ q ∈ k_PS_greatest, decode prog_1_method_27_code q.1 = .ok q.2 := by decide +kernel
def k_Petals_largest : List (Nat × Instr × Nat) := [(0, .iconst (-1), 1), (1, .istore_n 1, 1), (2, .iconst 2, 1), (3, .istore_n 2, 1), (4, .iload_n 2, 1), (5, .aload_n 0, 1), (6, .getfield 9, 3), (9, .if_icmp .gt 25, 3), (12, .aload_n 0, 1), (13, .iload_n 2, 1), (14, .invokestatic 19, 3), (17, .istore_n 3, 1), (18, .iload_n 3, 1), (19, .iconst (-1), 1), (20, .if_icmp .ne 6, 3), (23, .goto 11, 3), (26, .iload_n 3, 1), (27, .istore_n 1, 1), (28, .iinc 2 1, 3), (31, .goto (-27), 3), (34, .iload_n 1, 1), (35, .ireturn, 1)]
set_option maxRecDepth 100000 in
theorem kd_Petals_largest : ∀ q ∈ k_Petals_largest, decode prog_7_method_3_code q.1 = .ok q.2 := by decide +kernel
def k_PS_flower : List (Nat × Instr × Nat) := [(0, .iload_n 1, 1), (1, .invokestatic 177, 3), (4, .ifCond .ne 5, 3), (7, .iconst (-1), 1), (8, .ireturn, 1), (9, .aload_n 0, 1), (10, .getfield 10, 3), (13, .iload_n 1, 1), (14, .invokestatic 208, 3), (17, .istore_n 2, 1), (18, .iload_n 2, 1), (19, .iconst (-1), 1), (20, .if_icmp .ne 8, 3), (23, .bipush (-2), 2), (25, .goto 4, 3), (28, .iload_n 2, 1), (29, .ireturn, 1)]
set_option maxRecDepth 100000 in
theorem kd_PS_flower : ∀ q ∈ k_PS_flower, decode prog_1_method_28_code q.1 = .ok q.2 := by decide +kernel
def k_PS_flowers : List (Nat × Instr × Nat) := [(0, .iload_n 1, 1), (1, .invokestatic 177, 3), (4, .ifCond .ne 5, 3), (7, .iconst (-1), 1), (8, .ireturn, 1), (9, .aload_n 0, 1), (10, .getfield 10, 3), (13, .iload_n 1, 1), (14, .invokestatic 211, 3), (17, .ireturn, 1)]
set_option maxRecDepth 100000 in
theorem kd_PS_flowers : ∀ q ∈ k_PS_flowers, decode prog_1_method_29_code q.1 = .ok q.2 := by decide +kernel
def k_Petals_countFlowers : List (Nat × Instr × Nat) := [(0, .iconst 0, 1), (1, .istore_n 2, 1), (2, .iload_n 1, 1), (3, .iconst 1, 1), (4, .isub, 1), (5, .istore_n 3, 1), (6, .iload_n 3, 1), (7, .aload_n 0, 1), (8, .getfield 9, 3), (11, .if_icmp .ge 77, 3), (14, .iload_n 1, 1), (15, .iconst 2, 1), (16, .isub, 1), (17, .istore 4, 2), (19, .iload 4, 2), (21, .iload_n 3, 1), (22, .if_icmp .ge 60, 3), (25, .aload_n 0, 1), (26, .iload_n 3, 1), (27, .invokevirtual 15, 3), (30, .aload_n 0, 1), (31, .iload 4, 2), (33, .invokevirtual 15, 3), (36, .iand, 1), (37, .istore 5, 2), (39, .aload_n 0, 1), (40, .aload_n 0, 1), (41, .iload_n 3, 1), (42, .invokevirtual 15, 3), (45, .aload_n 0, 1), (46, .iload 4, 2), (48, .invokevirtual 15, 3), (51, .iconst 1, 1), (52, .iload 4, 2), (54, .ishl, 1), (55, .iconst 1, 1), (56, .isub, 1), (57, .invokestatic 33, 3), (60, .istore 6, 2), (62, .iload_n 2, 1), (63, .aload_n 0, 1), (64, .iload 6, 2), (66, .iload 5, 2), (68, .iload_n 1, 1), (69, .iconst 2, 1), (70, .isub, 1), (71, .invokestatic 36, 3), (74, .iadd, 1), (75, .istore_n 2, 1), (76, .iinc 4 1, 3), (79, .goto (-60), 3), (82, .iinc 3 1, 3), (85, .goto (-79), 3), (88, .iload_n 2, 1), (89, .ireturn, 1)]
set_option maxRecDepth 100000 in
theorem kd_Petals_countFlowers : ∀ q ∈ k_Petals_countFlowers, decode prog_7_method_6_code q.1 = .ok q.2 := by decide +kernel
def k_Petals_countCliques : List (Nat × Instr × Nat) := [(0, .iload_n 3, 1), (1, .ifCond .gt 5, 3), (4, .iconst 1, 1), (5, .ireturn, 1), (6, .iload_n 3, 1), (7, .iconst 1, 1), (8, .if_icmp .ne 8, 3), (11, .iload_n 1, 1), (12, .invokestatic 39, 3), (15, .ireturn, 1), (16, .iconst 0, 1), (17, .istore 4, 2), (19, .iload_n 3, 1), (20, .iconst 1, 1), (21, .isub, 1), (22, .istore 5, 2), (24, .iload 5, 2), (26, .aload_n 0, 1), (27, .getfield 9, 3), (30, .if_icmp .ge 54, 3), (33, .iload_n 1, 1), (34, .iload 5, 2), (36, .ishr, 1), (37, .iconst 1, 1), (38, .iand, 1), (39, .ifCond .eq 39, 3), (42, .aload_n 0, 1), (43, .aload_n 0, 1), (44, .iload 5, 2), (46, .invokevirtual 15, 3), (49, .iload_n 2, 1), (50, .iload_n 1, 1), (51, .iconst 1, 1), (52, .iload 5, 2), (54, .ishl, 1), (55, .iconst 1, 1), (56, .isub, 1), (57, .iand, 1), (58, .invokestatic 47, 3), (61, .istore 6, 2), (63, .iload 4, 2), (65, .aload_n 0, 1), (66, .iload 6, 2), (68, .iload_n 2, 1), (69, .iload_n 3, 1), (70, .iconst 1, 1), (71, .isub, 1), (72, .invokestatic 36, 3), (75, .iadd, 1), (76, .istore 4, 2), (78, .iinc 5 1, 3), (81, .goto (-57), 3), (84, .iload 4, 2), (86, .ireturn, 1)]
set_option maxRecDepth 100000 in
theorem kd_Petals_countCliques : ∀ q ∈ k_Petals_countCliques, decode prog_7_method_10_code q.1 = .ok q.2 := by decide +kernel
def k_PS_byCore : List (Nat × Instr × Nat) := [(0, .aload_n 0, 1), (1, .getfield 10, 3), (4, .iload_n 1, 1), (5, .invokevirtual 193, 3), (8, .ifCond .eq 12, 3), (11, .iload_n 2, 1), (12, .ifCond .lt 8, 3), (15, .iload_n 2, 1), (16, .iconst 1, 1), (17, .if_icmp .le 5, 3), (20, .iconst (-1), 1), (21, .ireturn, 1), (22, .aload_n 0, 1), (23, .getfield 10, 3), (26, .iload_n 1, 1), (27, .invokestatic 214, 3), (30, .istore_n 3, 1), (31, .iload_n 3, 1), (32, .iconst (-1), 1), (33, .if_icmp .ne 6, 3), (36, .bipush (-2), 2), (38, .ireturn, 1), (39, .iload_n 2, 1), (40, .ifCond .ne 10, 3), (43, .iload_n 3, 1), (44, .invokestatic 133, 3), (47, .goto 4, 3), (50, .iload_n 3, 1), (51, .ireturn, 1)]
set_option maxRecDepth 100000 in
theorem kd_PS_byCore : ∀ q ∈ k_PS_byCore, decode prog_1_method_30_code q.1 = .ok q.2 := by decide +kernel
def k_Petals_largestOf : List (Nat × Instr × Nat) := [(0, .iconst (-1), 1), (1, .istore_n 2, 1), (2, .iconst 2, 1), (3, .istore_n 3, 1), (4, .iload_n 3, 1), (5, .aload_n 0, 1), (6, .getfield 9, 3), (9, .if_icmp .gt 33, 3), (12, .aload_n 0, 1), (13, .aload_n 0, 1), (14, .invokevirtual 25, 3), (17, .iload_n 1, 1), (18, .iload_n 3, 1), (19, .invokestatic 29, 3), (22, .istore 4, 2), (24, .iload 4, 2), (26, .iconst (-1), 1), (27, .if_icmp .ne 6, 3), (30, .goto 12, 3), (33, .iload 4, 2), (35, .istore_n 2, 1), (36, .iinc 3 1, 3), (39, .goto (-35), 3), (42, .iload_n 2, 1), (43, .ireturn, 1)]
set_option maxRecDepth 100000 in
theorem kd_Petals_largestOf : ∀ q ∈ k_Petals_largestOf, decode prog_7_method_4_code q.1 = .ok q.2 := by decide +kernel
def k_PS_cores : List (Nat × Instr × Nat) := [(0, .iload_n 1, 1), (1, .invokestatic 177, 3), (4, .ifCond .ne 5, 3), (7, .iconst (-1), 1), (8, .ireturn, 1), (9, .iconst 0, 1), (10, .istore_n 2, 1), (11, .iconst 1, 1), (12, .istore_n 3, 1), (13, .iload_n 3, 1), (14, .aload_n 0, 1), (15, .getfield 10, 3), (18, .getfield 94, 3), (21, .if_icmp .ge 81, 3), (24, .iconst 0, 1), (25, .istore 4, 2), (27, .iload 4, 2), (29, .iload_n 3, 1), (30, .if_icmp .ge 66, 3), (33, .aload_n 0, 1), (34, .getfield 10, 3), (37, .iload_n 3, 1), (38, .invokevirtual 117, 3), (41, .aload_n 0, 1), (42, .getfield 10, 3), (45, .iload 4, 2), (47, .invokevirtual 117, 3), (50, .iand, 1), (51, .istore 5, 2), (53, .aload_n 0, 1), (54, .getfield 10, 3), (57, .iload_n 3, 1), (58, .iload 4, 2), (60, .invokestatic 217, 3), (63, .ifCond .eq 27, 3), (66, .aload_n 0, 1), (67, .getfield 10, 3), (70, .aload_n 0, 1), (71, .getfield 10, 3), (74, .invokevirtual 151, 3), (77, .iload 5, 2), (79, .iload_n 1, 1), (80, .invokestatic 221, 3), (83, .iconst (-1), 1), (84, .if_icmp .eq 6, 3), (87, .iinc 2 1, 3), (90, .iinc 4 1, 3), (93, .goto (-66), 3), (96, .iinc 3 1, 3), (99, .goto (-86), 3), (102, .iload_n 2, 1), (103, .ireturn, 1)]
set_option maxRecDepth 100000 in
theorem kd_PS_cores : ∀ q ∈ k_PS_cores, decode prog_1_method_31_code q.1 = .ok q.2 := by decide +kernel
def k_Petals_isNewMeet : List (Nat × Instr × Nat) := [(0, .aload_n 0, 1), (1, .iload_n 1, 1), (2, .invokevirtual 15, 3), (5, .aload_n 0, 1), (6, .iload_n 2, 1), (7, .invokevirtual 15, 3), (10, .iand, 1), (11, .istore_n 3, 1), (12, .iconst 1, 1), (13, .istore 4, 2), (15, .iload 4, 2), (17, .iload_n 1, 1), (18, .if_icmp .gt 58, 3), (21, .iconst 0, 1), (22, .istore 5, 2), (24, .iload 5, 2), (26, .iload 4, 2), (28, .if_icmp .ge 42, 3), (31, .iload 4, 2), (33, .iload_n 1, 1), (34, .if_icmp .ne 11, 3), (37, .iload 5, 2), (39, .iload_n 2, 1), (40, .if_icmp .lt 5, 3), (43, .iconst 1, 1), (44, .ireturn, 1), (45, .aload_n 0, 1), (46, .iload 4, 2), (48, .invokevirtual 15, 3), (51, .aload_n 0, 1), (52, .iload 5, 2), (54, .invokevirtual 15, 3), (57, .iand, 1), (58, .iload_n 3, 1), (59, .if_icmp .ne 5, 3), (62, .iconst 0, 1), (63, .ireturn, 1), (64, .iinc 5 1, 3), (67, .goto (-43), 3), (70, .iinc 4 1, 3), (73, .goto (-58), 3), (76, .iconst 1, 1), (77, .ireturn, 1)]
set_option maxRecDepth 100000 in
theorem kd_Petals_isNewMeet : ∀ q ∈ k_Petals_isNewMeet, decode prog_7_method_8_code q.1 = .ok q.2 := by decide +kernel
def k_PS_most : List (Nat × Instr × Nat) := [(0, .iload_n 1, 1), (1, .invokestatic 177, 3), (4, .ifCond .ne 5, 3), (7, .iconst (-1), 1), (8, .ireturn, 1), (9, .aload_n 0, 1), (10, .getfield 57, 3), (13, .aload_n 0, 1), (14, .getfield 10, 3), (17, .iload_n 1, 1), (18, .invokevirtual 180, 3), (21, .ireturn, 1)]
set_option maxRecDepth 100000 in
theorem kd_PS_most : ∀ q ∈ k_PS_most, decode prog_1_method_32_code q.1 = .ok q.2 := by decide +kernel
def k_PS_surplus : List (Nat × Instr × Nat) := [(0, .iload_n 1, 1), (1, .invokestatic 177, 3), (4, .ifCond .ne 5, 3), (7, .iconst (-1), 1), (8, .ireturn, 1), (9, .aload_n 0, 1), (10, .getfield 10, 3), (13, .getfield 94, 3), (16, .aload_n 0, 1), (17, .getfield 57, 3), (20, .aload_n 0, 1), (21, .getfield 10, 3), (24, .iload_n 1, 1), (25, .invokevirtual 180, 3), (28, .invokestatic 133, 3), (31, .isub, 1), (32, .ireturn, 1)]
set_option maxRecDepth 100000 in
theorem kd_PS_surplus : ∀ q ∈ k_PS_surplus, decode prog_1_method_33_code q.1 = .ok q.2 := by decide +kernel
def k_PS_uneven : List (Nat × Instr × Nat) := [(0, .aload_n 0, 1), (1, .getfield 10, 3), (4, .iload_n 1, 1), (5, .invokevirtual 196, 3), (8, .ifCond .ne 5, 3), (11, .iconst (-1), 1), (12, .ireturn, 1), (13, .aload_n 0, 1), (14, .getfield 10, 3), (17, .iload_n 1, 1), (18, .invokestatic 199, 3), (21, .bipush (-2), 2), (23, .if_icmp .ne 6, 3), (26, .bipush (-2), 2), (28, .ireturn, 1), (29, .iload_n 1, 1), (30, .invokestatic 225, 3), (33, .istore_n 2, 1), (34, .aload_n 0, 1), (35, .getfield 10, 3), (38, .iload_n 2, 1), (39, .invokevirtual 117, 3), (42, .invokestatic 133, 3), (45, .istore_n 3, 1), (46, .iconst 0, 1), (47, .istore 4, 2), (49, .iload 4, 2), (51, .aload_n 0, 1), (52, .getfield 10, 3), (55, .getfield 94, 3), (58, .if_icmp .ge 42, 3), (61, .iload_n 1, 1), (62, .iload 4, 2), (64, .ishr, 1), (65, .iconst 1, 1), (66, .iand, 1), (67, .ifCond .eq 27, 3), (70, .aload_n 0, 1), (71, .getfield 10, 3), (74, .iload 4, 2), (76, .invokevirtual 117, 3), (79, .invokestatic 133, 3), (82, .iload_n 3, 1), (83, .if_icmp .eq 11, 3), (86, .bipush 100, 2), (88, .iload_n 2, 1), (89, .imul, 1), (90, .iload 4, 2), (92, .iadd, 1), (93, .ireturn, 1), (94, .iinc 4 1, 3), (97, .goto (-48), 3), (100, .bipush (-2), 2), (102, .ireturn, 1)]
set_option maxRecDepth 100000 in
theorem kd_PS_uneven : ∀ q ∈ k_PS_uneven, decode prog_1_method_34_code q.1 = .ok q.2 := by decide +kernel
def k_PS_pairs : List (Nat × Instr × Nat) := [(0, .iload_n 1, 1), (1, .ifCond .lt 9, 3), (4, .iload_n 1, 1), (5, .bipush 10, 2), (7, .if_icmp .le 5, 3), (10, .iconst (-1), 1), (11, .ireturn, 1), (12, .iconst 0, 1), (13, .istore_n 2, 1), (14, .iconst 1, 1), (15, .istore_n 3, 1), (16, .iload_n 3, 1), (17, .aload_n 0, 1), (18, .getfield 10, 3), (21, .getfield 94, 3), (24, .if_icmp .ge 52, 3), (27, .iconst 0, 1), (28, .istore 4, 2), (30, .iload 4, 2), (32, .iload_n 3, 1), (33, .if_icmp .ge 37, 3), (36, .aload_n 0, 1), (37, .getfield 10, 3), (40, .iload_n 3, 1), (41, .invokevirtual 117, 3), (44, .aload_n 0, 1), (45, .getfield 10, 3), (48, .iload 4, 2), (50, .invokevirtual 117, 3), (53, .iand, 1), (54, .invokestatic 133, 3), (57, .iload_n 1, 1), (58, .if_icmp .ne 6, 3), (61, .iinc 2 1, 3), (64, .iinc 4 1, 3), (67, .goto (-37), 3), (70, .iinc 3 1, 3), (73, .goto (-57), 3), (76, .iload_n 2, 1), (77, .ireturn, 1)]
set_option maxRecDepth 100000 in
theorem kd_PS_pairs : ∀ q ∈ k_PS_pairs, decode prog_1_method_35_code q.1 = .ok q.2 := by decide +kernel
def k_PS_parts : List (Nat × Instr × Nat) := [(0, .iconst 0, 1), (1, .istore_n 1, 1), (2, .iconst 0, 1), (3, .istore_n 2, 1), (4, .iconst 0, 1), (5, .istore_n 3, 1), (6, .iload_n 3, 1), (7, .aload_n 0, 1), (8, .getfield 10, 3), (11, .getfield 94, 3), (14, .if_icmp .ge 28, 3), (17, .iload_n 2, 1), (18, .iload_n 3, 1), (19, .ishr, 1), (20, .iconst 1, 1), (21, .iand, 1), (22, .ifCond .ne 14, 3), (25, .iinc 1 1, 3), (28, .iload_n 2, 1), (29, .aload_n 0, 1), (30, .iload_n 3, 1), (31, .invokevirtual 228, 3), (34, .ior, 1), (35, .istore_n 2, 1), (36, .iinc 3 1, 3), (39, .goto (-33), 3), (42, .iload_n 1, 1), (43, .ireturn, 1)]
set_option maxRecDepth 100000 in
theorem kd_PS_parts : ∀ q ∈ k_PS_parts, decode prog_1_method_36_code q.1 = .ok q.2 := by decide +kernel
def k_PS_partOf : List (Nat × Instr × Nat) := [(0, .iconst 1, 1), (1, .iload_n 1, 1), (2, .ishl, 1), (3, .istore_n 2, 1), (4, .iconst 0, 1), (5, .istore_n 3, 1), (6, .iload_n 3, 1), (7, .aload_n 0, 1), (8, .getfield 10, 3), (11, .getfield 94, 3), (14, .if_icmp .ge 40, 3), (17, .iload_n 2, 1), (18, .aload_n 0, 1), (19, .getfield 10, 3), (22, .aload_n 0, 1), (23, .getfield 10, 3), (26, .iload_n 2, 1), (27, .invokevirtual 231, 3), (30, .invokevirtual 190, 3), (33, .ior, 1), (34, .istore 4, 2), (36, .iload 4, 2), (38, .iload_n 2, 1), (39, .if_icmp .ne 6, 3), (42, .goto 12, 3), (45, .iload 4, 2), (47, .istore_n 2, 1), (48, .iinc 3 1, 3), (51, .goto (-45), 3), (54, .iload_n 2, 1), (55, .ireturn, 1)]
set_option maxRecDepth 100000 in
theorem kd_PS_partOf : ∀ q ∈ k_PS_partOf, decode prog_1_method_37_code q.1 = .ok q.2 := by decide +kernel
def k_Family_unionOf : List (Nat × Instr × Nat) := [(0, .iconst 0, 1), (1, .istore_n 2, 1), (2, .iconst 0, 1), (3, .istore_n 3, 1), (4, .iload_n 3, 1), (5, .aload_n 0, 1), (6, .getfield 15, 3), (9, .if_icmp .ge 26, 3), (12, .iload_n 1, 1), (13, .iload_n 3, 1), (14, .ishr, 1), (15, .iconst 1, 1), (16, .iand, 1), (17, .ifCond .eq 12, 3), (20, .iload_n 2, 1), (21, .aload_n 0, 1), (22, .getfield 9, 3), (25, .iload_n 3, 1), (26, .iaload, 1), (27, .ior, 1), (28, .istore_n 2, 1), (29, .iinc 3 1, 3), (32, .goto (-28), 3), (35, .iload_n 2, 1), (36, .ireturn, 1)]
set_option maxRecDepth 100000 in
theorem kd_Family_unionOf : ∀ q ∈ k_Family_unionOf, decode prog_3_method_14_code q.1 = .ok q.2 := by decide +kernel
def k_PS_ranked : List (Nat × Instr × Nat) := [(0, .aload_n 0, 1), (1, .getfield 10, 3), (4, .iload_n 1, 1), (5, .invokevirtual 124, 3), (8, .ifCond .ne 5, 3), (11, .iconst (-1), 1), (12, .ireturn, 1), (13, .iconst 0, 1), (14, .istore_n 2, 1), (15, .iload_n 2, 1), (16, .aload_n 0, 1), (17, .getfield 10, 3), (20, .getfield 127, 3), (23, .if_icmp .ge 20, 3), (26, .aload_n 0, 1), (27, .iload_n 2, 1), (28, .invokevirtual 234, 3), (31, .iload_n 1, 1), (32, .if_icmp .ne 5, 3), (35, .iload_n 2, 1), (36, .ireturn, 1), (37, .iinc 2 1, 3), (40, .goto (-25), 3), (43, .iconst (-1), 1), (44, .ireturn, 1)]
set_option maxRecDepth 100000 in
theorem kd_PS_ranked : ∀ q ∈ k_PS_ranked, decode prog_1_method_38_code q.1 = .ok q.2 := by decide +kernel
def k_PS_pointsAhead : List (Nat × Instr × Nat) := [(0, .aload_n 0, 1), (1, .getfield 10, 3), (4, .iconst 1, 1), (5, .iload_n 1, 1), (6, .ishl, 1), (7, .invokevirtual 142, 3), (10, .invokestatic 133, 3), (13, .istore_n 2, 1), (14, .iconst 0, 1), (15, .istore_n 3, 1), (16, .iconst 0, 1), (17, .istore 4, 2), (19, .iload 4, 2), (21, .aload_n 0, 1), (22, .getfield 10, 3), (25, .getfield 127, 3), (28, .if_icmp .ge 46, 3), (31, .aload_n 0, 1), (32, .getfield 10, 3), (35, .iconst 1, 1), (36, .iload 4, 2), (38, .ishl, 1), (39, .invokevirtual 142, 3), (42, .invokestatic 133, 3), (45, .istore 5, 2), (47, .iload 5, 2), (49, .iload_n 2, 1), (50, .if_icmp .gt 15, 3), (53, .iload 5, 2), (55, .iload_n 2, 1), (56, .if_icmp .ne 12, 3), (59, .iload 4, 2), (61, .iload_n 1, 1), (62, .if_icmp .ge 6, 3), (65, .iinc 3 1, 3), (68, .iinc 4 1, 3), (71, .goto (-52), 3), (74, .iload_n 3, 1), (75, .ireturn, 1)]
set_option maxRecDepth 100000 in
theorem kd_PS_pointsAhead : ∀ q ∈ k_PS_pointsAhead, decode prog_1_method_39_code q.1 = .ok q.2 := by decide +kernel
def k_PS_spread : List (Nat × Instr × Nat) := [(0, .iload_n 1, 1), (1, .iconst 1, 1), (2, .if_icmp .lt 20, 3), (5, .iload_n 1, 1), (6, .bipush 9, 2), (8, .if_icmp .gt 14, 3), (11, .iload_n 2, 1), (12, .iconst 1, 1), (13, .if_icmp .lt 9, 3), (16, .iload_n 2, 1), (17, .bipush 9, 2), (19, .if_icmp .le 5, 3), (22, .iconst (-1), 1), (23, .ireturn, 1), (24, .aload_n 0, 1), (25, .getfield 43, 3), (28, .aload_n 0, 1), (29, .getfield 10, 3), (32, .invokevirtual 237, 3), (35, .iconst (-1), 1), (36, .istore_n 3, 1), (37, .bipush 11, 2), (39, .istore 4, 2), (41, .iconst 1, 1), (42, .istore 5, 2), (44, .iload 5, 2), (46, .aload_n 0, 1), (47, .getfield 10, 3), (50, .invokevirtual 157, 3), (53, .if_icmp .gt 75, 3), (56, .iload 5, 2), (58, .invokestatic 133, 3), (61, .istore 6, 2), (63, .aload_n 0, 1), (64, .getfield 43, 3), (67, .iload 5, 2), (69, .invokevirtual 240, 3), (72, .istore 7, 2), (74, .iload 6, 2), (76, .iload 4, 2), (78, .if_icmp .ge 44, 3), (81, .iload 7, 2), (83, .ifCond .le 39, 3), (86, .iload 7, 2), (88, .i2l, 1), (89, .iload_n 1, 1), (90, .iload 6, 2), (92, .invokestatic 243, 3), (95, .lmul, 1), (96, .aload_n 0, 1), (97, .getfield 10, 3), (100, .getfield 94, 3), (103, .i2l, 1), (104, .iload_n 2, 1), (105, .iload 6, 2), (107, .invokestatic 243, 3), (110, .lmul, 1), (111, .lcmp, 1), (112, .ifCond .le 10, 3), (115, .iload 5, 2), (117, .istore_n 3, 1), (118, .iload 6, 2), (120, .istore 4, 2), (122, .iinc 5 1, 3), (125, .goto (-81), 3), (128, .iload_n 3, 1), (129, .iconst (-1), 1), (130, .if_icmp .ne 7, 3), (133, .iconst 1, 1), (134, .goto 7, 3), (137, .bipush (-100), 2), (139, .iload_n 3, 1), (140, .isub, 1), (141, .ireturn, 1)]
set_option maxRecDepth 100000 in
theorem kd_PS_spread : ∀ q ∈ k_PS_spread, decode prog_1_method_40_code q.1 = .ok q.2 := by decide +kernel
def k_Touch_fillLacking : List (Nat × Instr × Nat) := [(0, .iconst 0, 1), (1, .istore_n 2, 1), (2, .iload_n 2, 1), (3, .aload_n 0, 1), (4, .getfield 9, 3), (7, .arraylength, 1), (8, .if_icmp .ge 29, 3), (11, .aload_n 0, 1), (12, .getfield 9, 3), (15, .iload_n 2, 1), (16, .aload_n 1, 1), (17, .invokevirtual 47, 3), (20, .aload_n 1, 1), (21, .iconst 1, 1), (22, .iload_n 2, 1), (23, .ishl, 1), (24, .invokevirtual 37, 3), (27, .iconst (-1), 1), (28, .ixor, 1), (29, .iand, 1), (30, .iastore, 1), (31, .iinc 2 1, 3), (34, .goto (-32), 3), (37, .aload_n 0, 1), (38, .aload_n 1, 1), (39, .invokevirtual 43, 3), (42, .return_, 1)]
set_option maxRecDepth 100000 in
theorem kd_Touch_fillLacking : ∀ q ∈ k_Touch_fillLacking, decode prog_11_method_3_code q.1 = .ok q.2 := by decide +kernel
def k_Touch_fillMarks : List (Nat × Instr × Nat) := [(0, .aload_n 0, 1), (1, .aload_n 1, 1), (2, .invokevirtual 47, 3), (5, .putfield 18, 3), (8, .aload_n 0, 1), (9, .aload_n 1, 1), (10, .invokevirtual 50, 3), (13, .putfield 22, 3), (16, .aload_n 0, 1), (17, .getfield 15, 3), (20, .iconst 0, 1), (21, .iconst 0, 1), (22, .iastore, 1), (23, .iconst 1, 1), (24, .istore_n 2, 1), (25, .iload_n 2, 1), (26, .aload_n 0, 1), (27, .getfield 22, 3), (30, .if_icmp .gt 55, 3), (33, .iload_n 2, 1), (34, .aload_n 0, 1), (35, .getfield 15, 3), (38, .arraylength, 1), (39, .if_icmp .ge 46, 3), (42, .iload_n 2, 1), (43, .invokestatic 52, 3), (46, .istore_n 3, 1), (47, .iload_n 3, 1), (48, .aload_n 0, 1), (49, .getfield 9, 3), (52, .arraylength, 1), (53, .if_icmp .ge 26, 3), (56, .aload_n 0, 1), (57, .getfield 15, 3), (60, .iload_n 2, 1), (61, .aload_n 0, 1), (62, .getfield 15, 3), (65, .iload_n 2, 1), (66, .iload_n 2, 1), (67, .iconst 1, 1), (68, .isub, 1), (69, .iand, 1), (70, .iaload, 1), (71, .aload_n 0, 1), (72, .getfield 9, 3), (75, .iload_n 3, 1), (76, .iaload, 1), (77, .ior, 1), (78, .iastore, 1), (79, .iinc 2 1, 3), (82, .goto (-57), 3), (85, .return_, 1)]
set_option maxRecDepth 100000 in
theorem kd_Touch_fillMarks : ∀ q ∈ k_Touch_fillMarks, decode prog_11_method_4_code q.1 = .ok q.2 := by decide +kernel
def k_PS_power : List (Nat × Instr × Nat) := [(0, .lconst 1, 1), (1, .lstore_n 2, 1), (2, .iconst 0, 1), (3, .istore 4, 2), (5, .iload 4, 2), (7, .iload_n 1, 1), (8, .if_icmp .ge 14, 3), (11, .lload_n 2, 1), (12, .iload_n 0, 1), (13, .i2l, 1), (14, .lmul, 1), (15, .lstore_n 2, 1), (16, .iinc 4 1, 3), (19, .goto (-14), 3), (22, .lload_n 2, 1), (23, .lreturn, 1)]
set_option maxRecDepth 100000 in
theorem kd_PS_power : ∀ q ∈ k_PS_power, decode prog_1_method_42_code q.1 = .ok q.2 := by decide +kernel
def k_PS_spreadest : List (Nat × Instr × Nat) := [(0, .aload_n 0, 1), (1, .getfield 10, 3), (4, .getfield 94, 3), (7, .ifCond .ne 6, 3), (10, .bipush (-2), 2), (12, .ireturn, 1), (13, .aload_n 0, 1), (14, .getfield 43, 3), (17, .aload_n 0, 1), (18, .getfield 10, 3), (21, .invokevirtual 237, 3), (24, .bipush 9, 2), (26, .istore_n 1, 1), (27, .iconst 1, 1), (28, .istore_n 2, 1), (29, .iload_n 2, 1), (30, .aload_n 0, 1), (31, .getfield 10, 3), (34, .invokevirtual 157, 3), (37, .if_icmp .gt 50, 3), (40, .iload_n 1, 1), (41, .iconst 1, 1), (42, .if_icmp .le 39, 3), (45, .aload_n 0, 1), (46, .getfield 43, 3), (49, .iload_n 2, 1), (50, .invokevirtual 240, 3), (53, .i2l, 1), (54, .iload_n 1, 1), (55, .iload_n 2, 1), (56, .invokestatic 133, 3), (59, .invokestatic 243, 3), (62, .lmul, 1), (63, .aload_n 0, 1), (64, .getfield 10, 3), (67, .getfield 94, 3), (70, .i2l, 1), (71, .lcmp, 1), (72, .ifCond .le 9, 3), (75, .iinc 1 (-1), 3), (78, .goto (-38), 3), (81, .iinc 2 1, 3), (84, .goto (-55), 3), (87, .iload_n 1, 1), (88, .ireturn, 1)]
set_option maxRecDepth 100000 in
theorem kd_PS_spreadest : ∀ q ∈ k_PS_spreadest, decode prog_1_method_41_code q.1 = .ok q.2 := by decide +kernel
def k_PS_bound : List (Nat × Instr × Nat) := [(0, .iload_n 1, 1), (1, .iconst 1, 1), (2, .if_icmp .lt 16, 3), (5, .iload_n 1, 1), (6, .bipush 10, 2), (8, .if_icmp .gt 10, 3), (11, .iload_n 2, 1), (12, .invokestatic 177, 3), (15, .ifCond .ne 5, 3), (18, .iconst (-1), 1), (19, .ireturn, 1), (20, .lconst 1, 1), (21, .lstore_n 3, 1), (22, .iconst 1, 1), (23, .istore 5, 2), (25, .iload 5, 2), (27, .iload_n 1, 1), (28, .if_icmp .gt 26, 3), (31, .lload_n 3, 1), (32, .iload 5, 2), (34, .i2l, 1), (35, .lmul, 1), (36, .iload_n 2, 1), (37, .iconst 1, 1), (38, .isub, 1), (39, .i2l, 1), (40, .lmul, 1), (41, .ldc2_w 247, 3), (44, .invokestatic 249, 3), (47, .lstore_n 3, 1), (48, .iinc 5 1, 3), (51, .goto (-26), 3), (54, .lload_n 3, 1), (55, .l2i, 1), (56, .ireturn, 1)]
set_option maxRecDepth 100000 in
theorem kd_PS_bound : ∀ q ∈ k_PS_bound, decode prog_1_method_43_code q.1 = .ok q.2 := by decide +kernel
def k_PS_sized : List (Nat × Instr × Nat) := [(0, .iload_n 1, 1), (1, .ifCond .lt 9, 3), (4, .iload_n 1, 1), (5, .bipush 10, 2), (7, .if_icmp .le 5, 3), (10, .iconst (-1), 1), (11, .ireturn, 1), (12, .iconst 0, 1), (13, .istore_n 2, 1), (14, .iconst 0, 1), (15, .istore_n 3, 1), (16, .iload_n 3, 1), (17, .aload_n 0, 1), (18, .getfield 10, 3), (21, .getfield 94, 3), (24, .if_icmp .ge 27, 3), (27, .aload_n 0, 1), (28, .getfield 10, 3), (31, .iload_n 3, 1), (32, .invokevirtual 117, 3), (35, .invokestatic 133, 3), (38, .iload_n 1, 1), (39, .if_icmp .ne 6, 3), (42, .iinc 2 1, 3), (45, .iinc 3 1, 3), (48, .goto (-32), 3), (51, .iload_n 2, 1), (52, .ireturn, 1)]
set_option maxRecDepth 100000 in
theorem kd_PS_sized : ∀ q ∈ k_PS_sized, decode prog_1_method_44_code q.1 = .ok q.2 := by decide +kernel
def k_PS_hits : List (Nat × Instr × Nat) := [(0, .aload_n 0, 1), (1, .getfield 10, 3), (4, .iload_n 1, 1), (5, .invokevirtual 193, 3), (8, .ifCond .ne 5, 3), (11, .iconst (-1), 1), (12, .ireturn, 1), (13, .aload_n 0, 1), (14, .getfield 10, 3), (17, .iload_n 1, 1), (18, .invokevirtual 190, 3), (21, .aload_n 0, 1), (22, .getfield 10, 3), (25, .invokevirtual 151, 3), (28, .if_icmp .ne 7, 3), (31, .iconst 1, 1), (32, .goto 4, 3), (35, .iconst 0, 1), (36, .ireturn, 1)]
set_option maxRecDepth 100000 in
theorem kd_PS_hits : ∀ q ∈ k_PS_hits, decode prog_1_method_45_code q.1 = .ok q.2 := by decide +kernel
def k_PS_missed : List (Nat × Instr × Nat) := [(0, .aload_n 0, 1), (1, .getfield 10, 3), (4, .iload_n 1, 1), (5, .invokevirtual 193, 3), (8, .ifCond .ne 5, 3), (11, .iconst (-1), 1), (12, .ireturn, 1), (13, .aload_n 0, 1), (14, .getfield 10, 3), (17, .invokevirtual 151, 3), (20, .aload_n 0, 1), (21, .getfield 10, 3), (24, .iload_n 1, 1), (25, .invokevirtual 190, 3), (28, .iconst (-1), 1), (29, .ixor, 1), (30, .iand, 1), (31, .ireturn, 1)]
set_option maxRecDepth 100000 in
theorem kd_PS_missed : ∀ q ∈ k_PS_missed, decode prog_1_method_46_code q.1 = .ok q.2 := by decide +kernel
def k_PS_hitter : List (Nat × Instr × Nat) := [(0, .iload_n 1, 1), (1, .ifCond .lt 8, 3), (4, .iload_n 1, 1), (5, .iconst 3, 1), (6, .if_icmp .le 5, 3), (9, .iconst (-1), 1), (10, .ireturn, 1), (11, .aload_n 0, 1), (12, .getfield 43, 3), (15, .aload_n 0, 1), (16, .getfield 10, 3), (19, .invokevirtual 255, 3), (22, .aload_n 0, 1), (23, .getfield 43, 3), (26, .invokevirtual 258, 3), (29, .iload_n 1, 1), (30, .tableswitch 50 0 2 #[26, 34, 42], 26), (56, .aload_n 0, 1), (57, .getfield 43, 3), (60, .getfield 261, 3), (63, .ireturn, 1), (64, .aload_n 0, 1), (65, .getfield 43, 3), (68, .getfield 264, 3), (71, .ireturn, 1), (72, .aload_n 0, 1), (73, .getfield 43, 3), (76, .getfield 267, 3), (79, .ireturn, 1), (80, .aload_n 0, 1), (81, .getfield 43, 3), (84, .getfield 270, 3), (87, .ireturn, 1)]
set_option maxRecDepth 100000 in
theorem kd_PS_hitter : ∀ q ∈ k_PS_hitter, decode prog_1_method_47_code q.1 = .ok q.2 := by decide +kernel
def k_Touch_fillHaving : List (Nat × Instr × Nat) := [(0, .iconst 0, 1), (1, .istore_n 2, 1), (2, .iload_n 2, 1), (3, .aload_n 0, 1), (4, .getfield 9, 3), (7, .arraylength, 1), (8, .if_icmp .ge 22, 3), (11, .aload_n 0, 1), (12, .getfield 9, 3), (15, .iload_n 2, 1), (16, .aload_n 1, 1), (17, .iconst 1, 1), (18, .iload_n 2, 1), (19, .ishl, 1), (20, .invokevirtual 37, 3), (23, .iastore, 1), (24, .iinc 2 1, 3), (27, .goto (-25), 3), (30, .aload_n 0, 1), (31, .aload_n 1, 1), (32, .invokevirtual 43, 3), (35, .return_, 1)]
set_option maxRecDepth 100000 in
theorem kd_Touch_fillHaving : ∀ q ∈ k_Touch_fillHaving, decode prog_11_method_2_code q.1 = .ok q.2 := by decide +kernel
def k_Touch_findLeast : List (Nat × Instr × Nat) := [(0, .aload_n 0, 1), (1, .bipush 11, 2), (3, .putfield 25, 3), (6, .iconst 0, 1), (7, .istore_n 1, 1), (8, .iload_n 1, 1), (9, .aload_n 0, 1), (10, .getfield 22, 3), (13, .if_icmp .gt 78, 3), (16, .iload_n 1, 1), (17, .invokestatic 60, 3), (20, .istore_n 2, 1), (21, .iload_n 2, 1), (22, .aload_n 0, 1), (23, .getfield 25, 3), (26, .if_icmp .gt 59, 3), (29, .aload_n 0, 1), (30, .iload_n 1, 1), (31, .invokevirtual 63, 3), (34, .ifCond .eq 51, 3), (37, .iload_n 2, 1), (38, .aload_n 0, 1), (39, .getfield 25, 3), (42, .if_icmp .ge 23, 3), (45, .aload_n 0, 1), (46, .iload_n 2, 1), (47, .putfield 25, 3), (50, .aload_n 0, 1), (51, .iload_n 1, 1), (52, .putfield 28, 3), (55, .aload_n 0, 1), (56, .iconst 0, 1), (57, .putfield 31, 3), (60, .aload_n 0, 1), (61, .iload_n 1, 1), (62, .putfield 34, 3), (65, .aload_n 0, 1), (66, .dup, 1), (67, .getfield 31, 3), (70, .iconst 1, 1), (71, .iadd, 1), (72, .putfield 31, 3), (75, .aload_n 0, 1), (76, .dup, 1), (77, .getfield 34, 3), (80, .iload_n 1, 1), (81, .iand, 1), (82, .putfield 34, 3), (85, .iinc 1 1, 3), (88, .goto (-80), 3), (91, .return_, 1)]
set_option maxRecDepth 100000 in
theorem kd_Touch_findLeast : ∀ q ∈ k_Touch_findLeast, decode prog_11_method_9_code q.1 = .ok q.2 := by decide +kernel
def k_PS_tight : List (Nat × Instr × Nat) := [(0, .iload_n 1, 1), (1, .iconst (-1), 1), (2, .if_icmp .ge 5, 3), (5, .iconst (-1), 1), (6, .ireturn, 1), (7, .aload_n 0, 1), (8, .getfield 43, 3), (11, .aload_n 0, 1), (12, .getfield 10, 3), (15, .invokevirtual 255, 3), (18, .iconst 0, 1), (19, .istore_n 2, 1), (20, .iconst 0, 1), (21, .istore_n 3, 1), (22, .iload_n 3, 1), (23, .aload_n 0, 1), (24, .getfield 10, 3), (27, .invokevirtual 157, 3), (30, .if_icmp .gt 30, 3), (33, .aload_n 0, 1), (34, .getfield 43, 3), (37, .iload_n 3, 1), (38, .invokevirtual 273, 3), (41, .ifCond .eq 13, 3), (44, .iload_n 2, 1), (45, .iload_n 1, 1), (46, .if_icmp .ne 5, 3), (49, .iload_n 3, 1), (50, .ireturn, 1), (51, .iinc 2 1, 3), (54, .iinc 3 1, 3), (57, .goto (-35), 3), (60, .iload_n 1, 1), (61, .iconst (-1), 1), (62, .if_icmp .ne 7, 3), (65, .iload_n 2, 1), (66, .goto 5, 3), (69, .bipush (-2), 2), (71, .ireturn, 1)]
set_option maxRecDepth 100000 in
theorem kd_PS_tight : ∀ q ∈ k_PS_tight, decode prog_1_method_48_code q.1 = .ok q.2 := by decide +kernel
def k_Touch_isTight : List (Nat × Instr × Nat) := [(0, .aload_n 0, 1), (1, .iload_n 1, 1), (2, .invokevirtual 63, 3), (5, .ifCond .ne 5, 3), (8, .iconst 0, 1), (9, .ireturn, 1), (10, .iconst 0, 1), (11, .istore_n 2, 1), (12, .iload_n 2, 1), (13, .bipush 10, 2), (15, .if_icmp .ge 33, 3), (18, .iload_n 1, 1), (19, .iload_n 2, 1), (20, .ishr, 1), (21, .iconst 1, 1), (22, .iand, 1), (23, .ifCond .eq 19, 3), (26, .aload_n 0, 1), (27, .iload_n 1, 1), (28, .iconst 1, 1), (29, .iload_n 2, 1), (30, .ishl, 1), (31, .iconst (-1), 1), (32, .ixor, 1), (33, .iand, 1), (34, .invokevirtual 63, 3), (37, .ifCond .eq 5, 3), (40, .iconst 0, 1), (41, .ireturn, 1), (42, .iinc 2 1, 3), (45, .goto (-33), 3), (48, .iconst 1, 1), (49, .ireturn, 1)]
set_option maxRecDepth 100000 in
theorem kd_Touch_isTight : ∀ q ∈ k_Touch_isTight, decode prog_11_method_8_code q.1 = .ok q.2 := by decide +kernel
def k_PS_greedy : List (Nat × Instr × Nat) := [(0, .iload_n 1, 1), (1, .ifCond .lt 8, 3), (4, .iload_n 1, 1), (5, .iconst 2, 1), (6, .if_icmp .le 5, 3), (9, .iconst (-1), 1), (10, .ireturn, 1), (11, .iconst 0, 1), (12, .istore_n 2, 1), (13, .bipush (-2), 2), (15, .istore_n 3, 1), (16, .aload_n 0, 1), (17, .getfield 10, 3), (20, .invokevirtual 151, 3), (23, .istore 4, 2), (25, .iconst 0, 1), (26, .istore 5, 2), (28, .iload 5, 2), (30, .aload_n 0, 1), (31, .getfield 10, 3), (34, .getfield 127, 3), (37, .if_icmp .ge 56, 3), (40, .iload 4, 2), (42, .ifCond .eq 51, 3), (45, .aload_n 0, 1), (46, .iload 4, 2), (48, .invokevirtual 276, 3), (51, .istore 6, 2), (53, .iload_n 3, 1), (54, .bipush (-2), 2), (56, .if_icmp .ne 6, 3), (59, .iload 6, 2), (61, .istore_n 3, 1), (62, .iload_n 2, 1), (63, .iconst 1, 1), (64, .iload 6, 2), (66, .ishl, 1), (67, .ior, 1), (68, .istore_n 2, 1), (69, .iload 4, 2), (71, .aload_n 0, 1), (72, .getfield 10, 3), (75, .iconst 1, 1), (76, .iload 6, 2), (78, .ishl, 1), (79, .invokevirtual 142, 3), (82, .iconst (-1), 1), (83, .ixor, 1), (84, .iand, 1), (85, .istore 4, 2), (87, .iinc 5 1, 3), (90, .goto (-62), 3), (93, .iload_n 1, 1), (94, .ifCond .ne 8, 3), (97, .iload_n 2, 1), (98, .invokestatic 133, 3), (101, .ireturn, 1), (102, .iload_n 1, 1), (103, .iconst 1, 1), (104, .if_icmp .ne 7, 3), (107, .iload_n 2, 1), (108, .goto 4, 3), (111, .iload_n 3, 1), (112, .ireturn, 1)]
set_option maxRecDepth 100000 in
theorem kd_PS_greedy : ∀ q ∈ k_PS_greedy, decode prog_1_method_49_code q.1 = .ok q.2 := by decide +kernel
def k_PS_bestPoint : List (Nat × Instr × Nat) := [(0, .iconst 0, 1), (1, .istore_n 2, 1), (2, .iconst 0, 1), (3, .istore_n 3, 1), (4, .iconst 0, 1), (5, .istore 4, 2), (7, .iload 4, 2), (9, .aload_n 0, 1), (10, .getfield 10, 3), (13, .getfield 127, 3), (16, .if_icmp .ge 39, 3), (19, .iload_n 1, 1), (20, .aload_n 0, 1), (21, .getfield 10, 3), (24, .iconst 1, 1), (25, .iload 4, 2), (27, .ishl, 1), (28, .invokevirtual 142, 3), (31, .iand, 1), (32, .invokestatic 133, 3), (35, .istore 5, 2), (37, .iload 5, 2), (39, .iload_n 3, 1), (40, .if_icmp .le 9, 3), (43, .iload 4, 2), (45, .istore_n 2, 1), (46, .iload 5, 2), (48, .istore_n 3, 1), (49, .iinc 4 1, 3), (52, .goto (-45), 3), (55, .iload_n 2, 1), (56, .ireturn, 1)]
set_option maxRecDepth 100000 in
theorem kd_PS_bestPoint : ∀ q ∈ k_PS_bestPoint, decode prog_1_method_50_code q.1 = .ok q.2 := by decide +kernel
def k_PS_apart : List (Nat × Instr × Nat) := [(0, .iload_n 1, 1), (1, .ifCond .lt 8, 3), (4, .iload_n 1, 1), (5, .iconst 1, 1), (6, .if_icmp .le 5, 3), (9, .iconst (-1), 1), (10, .ireturn, 1), (11, .aload_n 0, 1), (12, .getfield 10, 3), (15, .iconst 0, 1), (16, .invokestatic 214, 3), (19, .istore_n 2, 1), (20, .iload_n 2, 1), (21, .iconst (-1), 1), (22, .if_icmp .ne 13, 3), (25, .aload_n 0, 1), (26, .getfield 10, 3), (29, .invokevirtual 151, 3), (32, .iconst 1, 1), (33, .iand, 1), (34, .istore_n 2, 1), (35, .iload_n 1, 1), (36, .ifCond .ne 10, 3), (39, .iload_n 2, 1), (40, .invokestatic 133, 3), (43, .goto 4, 3), (46, .iload_n 2, 1), (47, .ireturn, 1)]
set_option maxRecDepth 100000 in
theorem kd_PS_apart : ∀ q ∈ k_PS_apart, decode prog_1_method_51_code q.1 = .ok q.2 := by decide +kernel
def k_PS_exact : List (Nat × Instr × Nat) := [(0, .iload_n 1, 1), (1, .ifCond .lt 8, 3), (4, .iload_n 1, 1), (5, .iconst 1, 1), (6, .if_icmp .le 5, 3), (9, .iconst (-1), 1), (10, .ireturn, 1), (11, .aload_n 0, 1), (12, .getfield 50, 3), (15, .aload_n 0, 1), (16, .getfield 10, 3), (19, .invokevirtual 279, 3), (22, .iload_n 1, 1), (23, .ifCond .ne 13, 3), (26, .aload_n 0, 1), (27, .getfield 50, 3), (30, .getfield 281, 3), (33, .goto 10, 3), (36, .aload_n 0, 1), (37, .getfield 50, 3), (40, .getfield 282, 3), (43, .ireturn, 1)]
set_option maxRecDepth 100000 in
theorem kd_PS_exact : ∀ q ∈ k_PS_exact, decode prog_1_method_52_code q.1 = .ok q.2 := by decide +kernel
def k_Cover_run : List (Nat × Instr × Nat) := [(0, .aload_n 0, 1), (1, .iconst 0, 1), (2, .putfield 9, 3), (5, .aload_n 0, 1), (6, .bipush (-2), 2), (8, .putfield 15, 3), (11, .aload_n 0, 1), (12, .aload_n 1, 1), (13, .aload_n 1, 1), (14, .aload_n 1, 1), (15, .invokevirtual 18, 3), (18, .invokevirtual 24, 3), (21, .iconst 0, 1), (22, .bipush 10, 2), (24, .invokevirtual 28, 3), (27, .return_, 1)]
set_option maxRecDepth 100000 in
theorem kd_Cover_run : ∀ q ∈ k_Cover_run, decode prog_2_method_2_code q.1 = .ok q.2 := by decide +kernel
def k_Cover_coverRest : List (Nat × Instr × Nat) := [(0, .iload_n 2, 1), (1, .ifCond .ne 39, 3), (4, .aload_n 0, 1), (5, .dup, 1), (6, .getfield 9, 3), (9, .iconst 1, 1), (10, .iadd, 1), (11, .putfield 9, 3), (14, .aload_n 0, 1), (15, .aload_n 0, 1), (16, .getfield 15, 3), (19, .bipush (-2), 2), (21, .if_icmp .ne 7, 3), (24, .iload_n 3, 1), (25, .goto 11, 3), (28, .aload_n 0, 1), (29, .getfield 15, 3), (32, .iload_n 3, 1), (33, .invokestatic 32, 3), (36, .putfield 15, 3), (39, .return_, 1), (40, .iload 4, 2), (42, .ifCond .gt 4, 3), (45, .return_, 1), (46, .iload_n 2, 1), (47, .invokestatic 38, 3), (50, .istore 5, 2), (52, .iconst 0, 1), (53, .istore 6, 2), (55, .iload 6, 2), (57, .aload_n 1, 1), (58, .getfield 43, 3), (61, .if_icmp .ge 55, 3), (64, .aload_n 1, 1), (65, .iload 6, 2), (67, .invokevirtual 46, 3), (70, .istore 7, 2), (72, .iload 7, 2), (74, .iload 5, 2), (76, .iand, 1), (77, .ifCond .eq 33, 3), (80, .iload 7, 2), (82, .iload_n 2, 1), (83, .iconst (-1), 1), (84, .ixor, 1), (85, .iand, 1), (86, .ifCond .ne 24, 3), (89, .aload_n 0, 1), (90, .aload_n 1, 1), (91, .iload_n 2, 1), (92, .iload 7, 2), (94, .iconst (-1), 1), (95, .ixor, 1), (96, .iand, 1), (97, .iload_n 3, 1), (98, .iconst 1, 1), (99, .iload 6, 2), (101, .ishl, 1), (102, .ior, 1), (103, .iload 4, 2), (105, .iconst 1, 1), (106, .isub, 1), (107, .invokevirtual 28, 3), (110, .iinc 6 1, 3), (113, .goto (-58), 3), (116, .return_, 1)]
set_option maxRecDepth 100000 in
theorem kd_Cover_coverRest : ∀ q ∈ k_Cover_coverRest, decode prog_2_method_3_code q.1 = .ok q.2 := by decide +kernel
def k_PS_halves : List (Nat × Instr × Nat) := [(0, .iload_n 1, 1), (1, .ifCond .lt 8, 3), (4, .iload_n 1, 1), (5, .iconst 1, 1), (6, .if_icmp .le 5, 3), (9, .iconst (-1), 1), (10, .ireturn, 1), (11, .aload_n 0, 1), (12, .getfield 43, 3), (15, .aload_n 0, 1), (16, .getfield 10, 3), (19, .invokevirtual 255, 3), (22, .iconst 0, 1), (23, .istore_n 2, 1), (24, .bipush (-2), 2), (26, .istore_n 3, 1), (27, .aload_n 0, 1), (28, .getfield 10, 3), (31, .invokevirtual 285, 3), (34, .istore 4, 2), (36, .iconst 0, 1), (37, .istore 5, 2), (39, .iload 5, 2), (41, .aload_n 0, 1), (42, .getfield 10, 3), (45, .invokevirtual 157, 3), (48, .if_icmp .gt 62, 3), (51, .aload_n 0, 1), (52, .getfield 43, 3), (55, .iload 5, 2), (57, .invokevirtual 288, 3), (60, .aload_n 0, 1), (61, .getfield 43, 3), (64, .aload_n 0, 1), (65, .getfield 10, 3), (68, .invokevirtual 157, 3), (71, .iload 5, 2), (73, .iconst (-1), 1), (74, .ixor, 1), (75, .iand, 1), (76, .invokevirtual 288, 3), (79, .iand, 1), (80, .istore 6, 2), (82, .iload 4, 2), (84, .iload 6, 2), (86, .iconst (-1), 1), (87, .ixor, 1), (88, .iand, 1), (89, .ifCond .ne 15, 3), (92, .iinc 2 1, 3), (95, .iload_n 3, 1), (96, .bipush (-2), 2), (98, .if_icmp .ne 6, 3), (101, .iload 5, 2), (103, .istore_n 3, 1), (104, .iinc 5 1, 3), (107, .goto (-68), 3), (110, .iload_n 1, 1), (111, .ifCond .ne 7, 3), (114, .iload_n 2, 1), (115, .goto 4, 3), (118, .iload_n 3, 1), (119, .ireturn, 1)]
set_option maxRecDepth 100000 in
theorem kd_PS_halves : ∀ q ∈ k_PS_halves, decode prog_1_method_53_code q.1 = .ok q.2 := by decide +kernel
def k_Family_setsOfTwoOrMore : List (Nat × Instr × Nat) := [(0, .iconst 0, 1), (1, .istore_n 1, 1), (2, .iconst 0, 1), (3, .istore_n 2, 1), (4, .iload_n 2, 1), (5, .aload_n 0, 1), (6, .getfield 15, 3), (9, .if_icmp .ge 28, 3), (12, .aload_n 0, 1), (13, .getfield 9, 3), (16, .iload_n 2, 1), (17, .iaload, 1), (18, .invokestatic 29, 3), (21, .iconst 2, 1), (22, .if_icmp .lt 9, 3), (25, .iload_n 1, 1), (26, .iconst 1, 1), (27, .iload_n 2, 1), (28, .ishl, 1), (29, .ior, 1), (30, .istore_n 1, 1), (31, .iinc 2 1, 3), (34, .goto (-30), 3), (37, .iload_n 1, 1), (38, .ireturn, 1)]
set_option maxRecDepth 100000 in
theorem kd_Family_setsOfTwoOrMore : ∀ q ∈ k_Family_setsOfTwoOrMore, decode prog_3_method_13_code q.1 = .ok q.2 := by decide +kernel
def k_PS_kernel : List (Nat × Instr × Nat) := [(0, .iload_n 1, 1), (1, .invokestatic 160, 3), (4, .ifCond .eq 12, 3), (7, .iload_n 2, 1), (8, .ifCond .lt 8, 3), (11, .iload_n 2, 1), (12, .iconst 4, 1), (13, .if_icmp .le 5, 3), (16, .iconst (-1), 1), (17, .ireturn, 1), (18, .aload_n 0, 1), (19, .getfield 64, 3), (22, .aload_n 0, 1), (23, .getfield 10, 3), (26, .iload_n 1, 1), (27, .invokevirtual 163, 3), (30, .iload_n 2, 1), (31, .tableswitch 81 0 3 #[29, 55, 63, 72], 29), (60, .aload_n 0, 1), (61, .getfield 64, 3), (64, .getfield 167, 3), (67, .ifCond .eq 8, 3), (70, .bipush (-2), 2), (72, .goto 13, 3), (75, .aload_n 0, 1), (76, .getfield 64, 3), (79, .getfield 174, 3), (82, .getfield 94, 3), (85, .ireturn, 1), (86, .aload_n 0, 1), (87, .getfield 64, 3), (90, .getfield 171, 3), (93, .ireturn, 1), (94, .aload_n 0, 1), (95, .getfield 64, 3), (98, .iconst 0, 1), (99, .invokevirtual 291, 3), (102, .ireturn, 1), (103, .aload_n 0, 1), (104, .getfield 64, 3), (107, .iconst 1, 1), (108, .invokevirtual 291, 3), (111, .ireturn, 1), (112, .aload_n 0, 1), (113, .getfield 64, 3), (116, .getfield 167, 3), (119, .ifCond .eq 8, 3), (122, .bipush (-2), 2), (124, .goto 23, 3), (127, .aload_n 0, 1), (128, .getfield 64, 3), (131, .getfield 174, 3), (134, .aload_n 0, 1), (135, .getfield 64, 3), (138, .getfield 174, 3), (141, .invokevirtual 151, 3), (144, .invokevirtual 231, 3), (147, .ireturn, 1)]
set_option maxRecDepth 100000 in
theorem kd_PS_kernel : ∀ q ∈ k_PS_kernel, decode prog_1_method_54_code q.1 = .ok q.2 := by decide +kernel
def k_Kernel_stepsOf : List (Nat × Instr × Nat) := [(0, .iconst 0, 1), (1, .istore_n 2, 1), (2, .iconst 0, 1), (3, .istore_n 3, 1), (4, .iload_n 3, 1), (5, .aload_n 0, 1), (6, .getfield 38, 3), (9, .if_icmp .ge 22, 3), (12, .aload_n 0, 1), (13, .getfield 21, 3), (16, .iload_n 3, 1), (17, .iaload, 1), (18, .iload_n 1, 1), (19, .if_icmp .ne 6, 3), (22, .iinc 2 1, 3), (25, .iinc 3 1, 3), (28, .goto (-24), 3), (31, .iload_n 2, 1), (32, .ireturn, 1)]
set_option maxRecDepth 100000 in
theorem kd_Kernel_stepsOf : ∀ q ∈ k_Kernel_stepsOf, decode prog_5_method_6_code q.1 = .ok q.2 := by decide +kernel
def k_PS_kernelSet : List (Nat × Instr × Nat) := [(0, .iload_n 1, 1), (1, .invokestatic 160, 3), (4, .ifCond .eq 7, 3), (7, .iload_n 2, 1), (8, .ifCond .ge 5, 3), (11, .iconst (-1), 1), (12, .ireturn, 1), (13, .aload_n 0, 1), (14, .getfield 64, 3), (17, .aload_n 0, 1), (18, .getfield 10, 3), (21, .iload_n 1, 1), (22, .invokevirtual 163, 3), (25, .aload_n 0, 1), (26, .getfield 64, 3), (29, .getfield 167, 3), (32, .ifCond .eq 6, 3), (35, .bipush (-2), 2), (37, .ireturn, 1), (38, .aload_n 0, 1), (39, .getfield 64, 3), (42, .getfield 174, 3), (45, .iload_n 2, 1), (46, .invokevirtual 111, 3), (49, .ifCond .eq 17, 3), (52, .aload_n 0, 1), (53, .getfield 64, 3), (56, .getfield 174, 3), (59, .iload_n 2, 1), (60, .invokevirtual 117, 3), (63, .goto 4, 3), (66, .iconst (-1), 1), (67, .ireturn, 1)]
set_option maxRecDepth 100000 in
theorem kd_PS_kernelSet : ∀ q ∈ k_PS_kernelSet, decode prog_1_method_55_code q.1 = .ok q.2 := by decide +kernel
def k_PS_step : List (Nat × Instr × Nat) := [(0, .iload_n 1, 1), (1, .invokestatic 160, 3), (4, .ifCond .eq 7, 3), (7, .iload_n 2, 1), (8, .ifCond .ge 5, 3), (11, .iconst (-1), 1), (12, .ireturn, 1), (13, .aload_n 0, 1), (14, .getfield 64, 3), (17, .aload_n 0, 1), (18, .getfield 10, 3), (21, .iload_n 1, 1), (22, .invokevirtual 163, 3), (25, .iload_n 2, 1), (26, .aload_n 0, 1), (27, .getfield 64, 3), (30, .getfield 171, 3), (33, .if_icmp .lt 5, 3), (36, .iconst (-1), 1), (37, .ireturn, 1), (38, .iload_n 3, 1), (39, .tableswitch 69 0 3 #[29, 39, 49, 59], 29), (68, .aload_n 0, 1), (69, .getfield 64, 3), (72, .getfield 294, 3), (75, .iload_n 2, 1), (76, .iaload, 1), (77, .ireturn, 1), (78, .aload_n 0, 1), (79, .getfield 64, 3), (82, .getfield 297, 3), (85, .iload_n 2, 1), (86, .iaload, 1), (87, .ireturn, 1), (88, .aload_n 0, 1), (89, .getfield 64, 3), (92, .getfield 300, 3), (95, .iload_n 2, 1), (96, .iaload, 1), (97, .ireturn, 1), (98, .aload_n 0, 1), (99, .getfield 64, 3), (102, .getfield 303, 3), (105, .iload_n 2, 1), (106, .iaload, 1), (107, .ireturn, 1), (108, .iconst (-1), 1), (109, .ireturn, 1)]
set_option maxRecDepth 100000 in
theorem kd_PS_step : ∀ q ∈ k_PS_step, decode prog_1_method_56_code q.1 = .ok q.2 := by decide +kernel
def k_PS_can : List (Nat × Instr × Nat) := [(0, .iload_n 1, 1), (1, .ifCond .lt 9, 3), (4, .iload_n 1, 1), (5, .bipush 10, 2), (7, .if_icmp .le 5, 3), (10, .iconst (-1), 1), (11, .ireturn, 1), (12, .aload_n 0, 1), (13, .getfield 43, 3), (16, .aload_n 0, 1), (17, .getfield 10, 3), (20, .invokevirtual 255, 3), (23, .aload_n 0, 1), (24, .getfield 43, 3), (27, .invokevirtual 258, 3), (30, .aload_n 0, 1), (31, .getfield 43, 3), (34, .getfield 261, 3), (37, .iload_n 1, 1), (38, .if_icmp .gt 7, 3), (41, .iconst 1, 1), (42, .goto 4, 3), (45, .iconst 0, 1), (46, .ireturn, 1)]
set_option maxRecDepth 100000 in
theorem kd_PS_can : ∀ q ∈ k_PS_can, decode prog_1_method_57_code q.1 = .ok q.2 := by decide +kernel
def k_PS_link : List (Nat × Instr × Nat) := [(0, .aload_n 0, 1), (1, .getfield 10, 3), (4, .iload_n 1, 1), (5, .invokevirtual 193, 3), (8, .ifCond .eq 12, 3), (11, .iload_n 2, 1), (12, .ifCond .lt 8, 3), (15, .iload_n 2, 1), (16, .iconst 1, 1), (17, .if_icmp .le 5, 3), (20, .iconst (-1), 1), (21, .ireturn, 1), (22, .aload_n 0, 1), (23, .getfield 16, 3), (26, .aload_n 0, 1), (27, .getfield 10, 3), (30, .getfield 127, 3), (33, .invokevirtual 130, 3), (36, .iconst 0, 1), (37, .istore_n 3, 1), (38, .iload_n 3, 1), (39, .aload_n 0, 1), (40, .getfield 10, 3), (43, .getfield 94, 3), (46, .if_icmp .ge 42, 3), (49, .aload_n 0, 1), (50, .getfield 10, 3), (53, .iload_n 3, 1), (54, .invokevirtual 117, 3), (57, .iload_n 1, 1), (58, .iand, 1), (59, .iload_n 1, 1), (60, .if_icmp .ne 22, 3), (63, .aload_n 0, 1), (64, .getfield 16, 3), (67, .aload_n 0, 1), (68, .getfield 10, 3), (71, .iload_n 3, 1), (72, .invokevirtual 117, 3), (75, .iload_n 1, 1), (76, .iconst (-1), 1), (77, .ixor, 1), (78, .iand, 1), (79, .invokevirtual 145, 3), (82, .iinc 3 1, 3), (85, .goto (-47), 3), (88, .iload_n 2, 1), (89, .ifCond .ne 13, 3), (92, .aload_n 0, 1), (93, .getfield 16, 3), (96, .getfield 94, 3), (99, .goto 10, 3), (102, .aload_n 0, 1), (103, .getfield 16, 3), (106, .invokestatic 306, 3), (109, .ireturn, 1)]
set_option maxRecDepth 100000 in
theorem kd_PS_link : ∀ q ∈ k_PS_link, decode prog_1_method_58_code q.1 = .ok q.2 := by decide +kernel
def k_PS_largestSize : List (Nat × Instr × Nat) := [(0, .aload_n 0, 1), (1, .invokestatic 204, 3), (4, .istore_n 1, 1), (5, .iload_n 1, 1), (6, .iconst (-1), 1), (7, .if_icmp .ne 8, 3), (10, .bipush (-2), 2), (12, .goto 7, 3), (15, .iload_n 1, 1), (16, .invokestatic 133, 3), (19, .ireturn, 1)]
set_option maxRecDepth 100000 in
theorem kd_PS_largestSize : ∀ q ∈ k_PS_largestSize, decode prog_1_method_62_code q.1 = .ok q.2 := by decide +kernel
def k_PS_withSet : List (Nat × Instr × Nat) := [(0, .aload_n 0, 1), (1, .getfield 10, 3), (4, .iload_n 1, 1), (5, .invokevirtual 97, 3), (8, .ifCond .ne 5, 3), (11, .iconst (-1), 1), (12, .ireturn, 1), (13, .aload_n 0, 1), (14, .getfield 16, 3), (17, .aload_n 0, 1), (18, .getfield 10, 3), (21, .invokevirtual 87, 3), (24, .aload_n 0, 1), (25, .getfield 16, 3), (28, .iload_n 1, 1), (29, .invokevirtual 145, 3), (32, .aload_n 0, 1), (33, .getfield 16, 3), (36, .invokestatic 306, 3), (39, .ireturn, 1)]
set_option maxRecDepth 100000 in
theorem kd_PS_withSet : ∀ q ∈ k_PS_withSet, decode prog_1_method_59_code q.1 = .ok q.2 := by decide +kernel
def k_PS_withoutSet : List (Nat × Instr × Nat) := [(0, .aload_n 0, 1), (1, .getfield 10, 3), (4, .iload_n 1, 1), (5, .invokevirtual 111, 3), (8, .ifCond .ne 5, 3), (11, .iconst (-1), 1), (12, .ireturn, 1), (13, .aload_n 0, 1), (14, .getfield 16, 3), (17, .aload_n 0, 1), (18, .getfield 10, 3), (21, .invokevirtual 87, 3), (24, .aload_n 0, 1), (25, .getfield 16, 3), (28, .iconst 1, 1), (29, .iload_n 1, 1), (30, .ishl, 1), (31, .invokevirtual 114, 3), (34, .aload_n 0, 1), (35, .getfield 16, 3), (38, .invokestatic 306, 3), (41, .ireturn, 1)]
set_option maxRecDepth 100000 in
theorem kd_PS_withoutSet : ∀ q ∈ k_PS_withoutSet, decode prog_1_method_60_code q.1 = .ok q.2 := by decide +kernel
def k_PS_freeNext : List (Nat × Instr × Nat) := [(0, .iload_n 1, 1), (1, .invokestatic 177, 3), (4, .ifCond .ne 5, 3), (7, .iconst (-1), 1), (8, .ireturn, 1), (9, .aload_n 0, 1), (10, .getfield 10, 3), (13, .iload_n 1, 1), (14, .invokestatic 208, 3), (17, .iconst (-1), 1), (18, .if_icmp .eq 6, 3), (21, .bipush (-2), 2), (23, .ireturn, 1), (24, .bipush (-2), 2), (26, .istore_n 2, 1), (27, .bipush 11, 2), (29, .istore_n 3, 1), (30, .iconst 1, 1), (31, .istore 4, 2), (33, .iload 4, 2), (35, .aload_n 0, 1), (36, .getfield 10, 3), (39, .invokevirtual 157, 3), (42, .if_icmp .gt 54, 3), (45, .iload 4, 2), (47, .invokestatic 133, 3), (50, .istore 5, 2), (52, .iload 5, 2), (54, .iload_n 3, 1), (55, .if_icmp .ge 35, 3), (58, .aload_n 0, 1), (59, .getfield 10, 3), (62, .iload 4, 2), (64, .invokevirtual 101, 3), (67, .iconst (-1), 1), (68, .if_icmp .ne 22, 3), (71, .aload_n 0, 1), (72, .getfield 10, 3), (75, .iload 4, 2), (77, .iload_n 1, 1), (78, .invokestatic 309, 3), (81, .ifCond .ne 9, 3), (84, .iload 4, 2), (86, .istore_n 2, 1), (87, .iload 5, 2), (89, .istore_n 3, 1), (90, .iinc 4 1, 3), (93, .goto (-60), 3), (96, .iload_n 2, 1), (97, .ireturn, 1)]
set_option maxRecDepth 100000 in
theorem kd_PS_freeNext : ∀ q ∈ k_PS_freeNext, decode prog_1_method_61_code q.1 = .ok q.2 := by decide +kernel
def k_Petals_closesFlower : List (Nat × Instr × Nat) := [(0, .iload_n 2, 1), (1, .iconst 2, 1), (2, .if_icmp .ne 16, 3), (5, .aload_n 0, 1), (6, .getfield 9, 3), (9, .ifCond .le 7, 3), (12, .iconst 1, 1), (13, .goto 4, 3), (16, .iconst 0, 1), (17, .ireturn, 1), (18, .iload_n 2, 1), (19, .iconst 2, 1), (20, .isub, 1), (21, .istore_n 3, 1), (22, .iload_n 3, 1), (23, .aload_n 0, 1), (24, .getfield 9, 3), (27, .if_icmp .ge 48, 3), (30, .aload_n 0, 1), (31, .iload_n 1, 1), (32, .aload_n 0, 1), (33, .iload_n 3, 1), (34, .invokevirtual 15, 3), (37, .iconst 1, 1), (38, .iload_n 3, 1), (39, .ishl, 1), (40, .iconst 1, 1), (41, .isub, 1), (42, .invokestatic 33, 3), (45, .istore 4, 2), (47, .aload_n 0, 1), (48, .iload 4, 2), (50, .iload_n 1, 1), (51, .aload_n 0, 1), (52, .iload_n 3, 1), (53, .invokevirtual 15, 3), (56, .iand, 1), (57, .iload_n 2, 1), (58, .iconst 2, 1), (59, .isub, 1), (60, .invokestatic 29, 3), (63, .iconst (-1), 1), (64, .if_icmp .eq 5, 3), (67, .iconst 1, 1), (68, .ireturn, 1), (69, .iinc 3 1, 3), (72, .goto (-50), 3), (75, .iconst 0, 1), (76, .ireturn, 1)]
set_option maxRecDepth 100000 in
theorem kd_Petals_closesFlower : ∀ q ∈ k_Petals_closesFlower, decode prog_7_method_7_code q.1 = .ok q.2 := by decide +kernel
def k_PS_spell : List (Nat × Instr × Nat) := [(0, .iload_n 1, 1), (1, .iconst (-1), 1), (2, .if_icmp .ge 5, 3), (5, .iconst (-1), 1), (6, .ireturn, 1), (7, .aload_n 0, 1), (8, .getfield 71, 3), (11, .iconst 0, 1), (12, .putfield 312, 3), (15, .aload_n 0, 1), (16, .getfield 71, 3), (19, .ldc_w 313, 3), (22, .invokevirtual 315, 3), (25, .aload_n 0, 1), (26, .getfield 71, 3), (29, .aload_n 0, 1), (30, .getfield 10, 3), (33, .getfield 127, 3), (36, .invokevirtual 319, 3), (39, .aload_n 0, 1), (40, .getfield 71, 3), (43, .ldc_w 322, 3), (46, .invokevirtual 315, 3), (49, .iconst 0, 1), (50, .istore_n 2, 1), (51, .iload_n 2, 1), (52, .aload_n 0, 1), (53, .getfield 10, 3), (56, .getfield 94, 3), (59, .if_icmp .ge 44, 3), (62, .aload_n 0, 1), (63, .getfield 71, 3), (66, .ldc_w 324, 3), (69, .invokevirtual 315, 3), (72, .aload_n 0, 1), (73, .getfield 71, 3), (76, .aload_n 0, 1), (77, .getfield 10, 3), (80, .iload_n 2, 1), (81, .invokevirtual 117, 3), (84, .invokevirtual 326, 3), (87, .aload_n 0, 1), (88, .getfield 71, 3), (91, .ldc_w 322, 3), (94, .invokevirtual 315, 3), (97, .iinc 2 1, 3), (100, .goto (-49), 3), (103, .aload_n 0, 1), (104, .getfield 71, 3), (107, .iload_n 1, 1), (108, .invokevirtual 329, 3), (111, .ireturn, 1)]
set_option maxRecDepth 100000 in
theorem kd_PS_spell : ∀ q ∈ k_PS_spell, decode prog_1_method_63_code q.1 = .ok q.2 := by decide +kernel
def k_Page_putWord : List (Nat × Instr × Nat) := [(0, .iconst 0, 1), (1, .istore_n 2, 1), (2, .iload_n 2, 1), (3, .aload_n 1, 1), (4, .invokevirtual 19, 3), (7, .if_icmp .ge 18, 3), (10, .aload_n 0, 1), (11, .aload_n 1, 1), (12, .iload_n 2, 1), (13, .invokevirtual 24, 3), (16, .invokevirtual 28, 3), (19, .iinc 2 1, 3), (22, .goto (-20), 3), (25, .return_, 1)]
set_option maxRecDepth 100000 in
theorem kd_Page_putWord : ∀ q ∈ k_Page_putWord, decode prog_6_method_3_code q.1 = .ok q.2 := by decide +kernel
def k_Page_putByte : List (Nat × Instr × Nat) := [(0, .aload_n 0, 1), (1, .getfield 15, 3), (4, .aload_n 0, 1), (5, .getfield 9, 3), (8, .arraylength, 1), (9, .if_icmp .ge 24, 3), (12, .aload_n 0, 1), (13, .getfield 9, 3), (16, .aload_n 0, 1), (17, .getfield 15, 3), (20, .iload_n 1, 1), (21, .i2b, 1), (22, .bastore, 1), (23, .aload_n 0, 1), (24, .dup, 1), (25, .getfield 15, 3), (28, .iconst 1, 1), (29, .iadd, 1), (30, .putfield 15, 3), (33, .return_, 1)]
set_option maxRecDepth 100000 in
theorem kd_Page_putByte : ∀ q ∈ k_Page_putByte, decode prog_6_method_2_code q.1 = .ok q.2 := by decide +kernel
def k_Page_putNumber : List (Nat × Instr × Nat) := [(0, .iload_n 1, 1), (1, .bipush 10, 2), (3, .if_icmp .lt 17, 3), (6, .aload_n 0, 1), (7, .bipush 48, 2), (9, .iload_n 1, 1), (10, .bipush 10, 2), (12, .idiv, 1), (13, .bipush 10, 2), (15, .irem, 1), (16, .iadd, 1), (17, .invokevirtual 28, 3), (20, .aload_n 0, 1), (21, .bipush 48, 2), (23, .iload_n 1, 1), (24, .bipush 10, 2), (26, .irem, 1), (27, .iadd, 1), (28, .invokevirtual 28, 3), (31, .return_, 1)]
set_option maxRecDepth 100000 in
theorem kd_Page_putNumber : ∀ q ∈ k_Page_putNumber, decode prog_6_method_4_code q.1 = .ok q.2 := by decide +kernel
def k_Page_putLetters : List (Nat × Instr × Nat) := [(0, .iconst 0, 1), (1, .istore_n 2, 1), (2, .iload_n 2, 1), (3, .bipush 10, 2), (5, .if_icmp .ge 25, 3), (8, .iload_n 1, 1), (9, .iload_n 2, 1), (10, .ishr, 1), (11, .iconst 1, 1), (12, .iand, 1), (13, .ifCond .eq 11, 3), (16, .aload_n 0, 1), (17, .bipush 97, 2), (19, .iload_n 2, 1), (20, .iadd, 1), (21, .invokevirtual 28, 3), (24, .iinc 2 1, 3), (27, .goto (-25), 3), (30, .return_, 1)]
set_option maxRecDepth 100000 in
theorem kd_Page_putLetters : ∀ q ∈ k_Page_putLetters, decode prog_6_method_5_code q.1 = .ok q.2 := by decide +kernel
def k_Page_answer : List (Nat × Instr × Nat) := [(0, .iload_n 1, 1), (1, .ifCond .ge 8, 3), (4, .aload_n 0, 1), (5, .getfield 15, 3), (8, .ireturn, 1), (9, .iload_n 1, 1), (10, .aload_n 0, 1), (11, .getfield 15, 3), (14, .if_icmp .ge 21, 3), (17, .iload_n 1, 1), (18, .aload_n 0, 1), (19, .getfield 9, 3), (22, .arraylength, 1), (23, .if_icmp .ge 12, 3), (26, .aload_n 0, 1), (27, .getfield 9, 3), (30, .iload_n 1, 1), (31, .baload, 1), (32, .goto 5, 3), (35, .bipush (-2), 2), (37, .ireturn, 1)]
set_option maxRecDepth 100000 in
theorem kd_Page_answer : ∀ q ∈ k_Page_answer, decode prog_6_method_6_code q.1 = .ok q.2 := by decide +kernel
def k_PS_report : List (Nat × Instr × Nat) := [(0, .iload_n 1, 1), (1, .invokestatic 160, 3), (4, .ifCond .eq 8, 3), (7, .iload_n 2, 1), (8, .iconst (-1), 1), (9, .if_icmp .ge 5, 3), (12, .iconst (-1), 1), (13, .ireturn, 1), (14, .aload_n 0, 1), (15, .getfield 64, 3), (18, .aload_n 0, 1), (19, .getfield 10, 3), (22, .iload_n 1, 1), (23, .invokevirtual 163, 3), (26, .aload_n 0, 1), (27, .getfield 71, 3), (30, .iconst 0, 1), (31, .putfield 312, 3), (34, .iconst 0, 1), (35, .istore_n 3, 1), (36, .iload_n 3, 1), (37, .aload_n 0, 1), (38, .getfield 64, 3), (41, .getfield 171, 3), (44, .if_icmp .ge 21, 3), (47, .aload_n 0, 1), (48, .getfield 64, 3), (51, .iload_n 3, 1), (52, .aload_n 0, 1), (53, .getfield 71, 3), (56, .invokevirtual 332, 3), (59, .iinc 3 1, 3), (62, .goto (-26), 3), (65, .aload_n 0, 1), (66, .getfield 64, 3), (69, .getfield 167, 3), (72, .ifCond .eq 16, 3), (75, .aload_n 0, 1), (76, .getfield 71, 3), (79, .ldc_w 336, 3), (82, .invokevirtual 315, 3), (85, .goto 40, 3), (88, .aload_n 0, 1), (89, .getfield 71, 3), (92, .ldc_w 338, 3), (95, .invokevirtual 315, 3), (98, .aload_n 0, 1), (99, .getfield 71, 3), (102, .aload_n 0, 1), (103, .getfield 64, 3), (106, .getfield 174, 3), (109, .getfield 94, 3), (112, .invokevirtual 319, 3), (115, .aload_n 0, 1), (116, .getfield 71, 3), (119, .ldc_w 322, 3), (122, .invokevirtual 315, 3), (125, .aload_n 0, 1), (126, .getfield 71, 3), (129, .iload_n 2, 1), (130, .invokevirtual 329, 3), (133, .ireturn, 1)]
set_option maxRecDepth 100000 in
theorem kd_PS_report : ∀ q ∈ k_PS_report, decode prog_1_method_64_code q.1 = .ok q.2 := by decide +kernel
def k_Kernel_tellStep : List (Nat × Instr × Nat) := [(0, .iload_n 1, 1), (1, .ifCond .lt 11, 3), (4, .iload_n 1, 1), (5, .aload_n 0, 1), (6, .getfield 38, 3), (9, .if_icmp .lt 4, 3), (12, .return_, 1), (13, .aload_n 2, 1), (14, .aload_n 0, 1), (15, .getfield 21, 3), (18, .iload_n 1, 1), (19, .iaload, 1), (20, .ifCond .ne 8, 3), (23, .ldc 88, 2), (25, .goto 5, 3), (28, .ldc 90, 2), (30, .invokevirtual 92, 3), (33, .iconst 0, 1), (34, .istore_n 3, 1), (35, .iload_n 3, 1), (36, .bipush 16, 2), (38, .if_icmp .ge 33, 3), (41, .aload_n 0, 1), (42, .getfield 25, 3), (45, .iload_n 1, 1), (46, .iaload, 1), (47, .iload_n 3, 1), (48, .ishr, 1), (49, .iconst 1, 1), (50, .iand, 1), (51, .ifCond .eq 14, 3), (54, .aload_n 2, 1), (55, .ldc 98, 2), (57, .invokevirtual 92, 3), (60, .aload_n 2, 1), (61, .iload_n 3, 1), (62, .invokevirtual 100, 3), (65, .iinc 3 1, 3), (68, .goto (-33), 3), (71, .aload_n 0, 1), (72, .getfield 21, 3), (75, .iload_n 1, 1), (76, .iaload, 1), (77, .iconst 1, 1), (78, .if_icmp .ne 19, 3), (81, .aload_n 2, 1), (82, .ldc 103, 2), (84, .invokevirtual 92, 3), (87, .aload_n 2, 1), (88, .aload_n 0, 1), (89, .getfield 28, 3), (92, .iload_n 1, 1), (93, .iaload, 1), (94, .invokevirtual 105, 3), (97, .aload_n 2, 1), (98, .ldc 108, 2), (100, .invokevirtual 92, 3), (103, .return_, 1)]
set_option maxRecDepth 100000 in
theorem kd_Kernel_tellStep : ∀ q ∈ k_Kernel_tellStep, decode prog_5_method_7_code q.1 = .ok q.2 := by decide +kernel
def k_PS_count : List (Nat × Instr × Nat) := [(0, .iload_n 1, 1), (1, .tableswitch 106 0 6 #[43, 51, 59, 74, 82, 90, 98], 43), (44, .aload_n 0, 1), (45, .getfield 10, 3), (48, .getfield 127, 3), (51, .ireturn, 1), (52, .aload_n 0, 1), (53, .getfield 10, 3), (56, .getfield 94, 3), (59, .ireturn, 1), (60, .aload_n 0, 1), (61, .getfield 10, 3), (64, .aload_n 0, 1), (65, .getfield 10, 3), (68, .invokevirtual 151, 3), (71, .invokevirtual 231, 3), (74, .ireturn, 1), (75, .aload_n 0, 1), (76, .getfield 22, 3), (79, .getfield 184, 3), (82, .ireturn, 1), (83, .aload_n 0, 1), (84, .getfield 29, 3), (87, .getfield 75, 3), (90, .ireturn, 1), (91, .aload_n 0, 1), (92, .getfield 10, 3), (95, .invokevirtual 340, 3), (98, .ireturn, 1), (99, .aload_n 0, 1), (100, .getfield 10, 3), (103, .invokevirtual 343, 3), (106, .ireturn, 1), (107, .iconst (-1), 1), (108, .ireturn, 1)]
set_option maxRecDepth 100000 in
theorem kd_PS_count : ∀ q ∈ k_PS_count, decode prog_1_method_65_code q.1 = .ok q.2 := by decide +kernel
def k_Family_greatestSize : List (Nat × Instr × Nat) := [(0, .bipush (-2), 2), (2, .istore_n 1, 1), (3, .iconst 0, 1), (4, .istore_n 2, 1), (5, .iload_n 2, 1), (6, .aload_n 0, 1), (7, .getfield 15, 3), (10, .if_icmp .ge 23, 3), (13, .iload_n 1, 1), (14, .aload_n 0, 1), (15, .getfield 9, 3), (18, .iload_n 2, 1), (19, .iaload, 1), (20, .invokestatic 29, 3), (23, .invokestatic 35, 3), (26, .istore_n 1, 1), (27, .iinc 2 1, 3), (30, .goto (-25), 3), (33, .iload_n 1, 1), (34, .ireturn, 1)]
set_option maxRecDepth 100000 in
theorem kd_Family_greatestSize : ∀ q ∈ k_Family_greatestSize, decode prog_3_method_15_code q.1 = .ok q.2 := by decide +kernel
def k_Family_leastSize : List (Nat × Instr × Nat) := [(0, .bipush 10, 2), (2, .istore_n 1, 1), (3, .iconst 0, 1), (4, .istore_n 2, 1), (5, .iload_n 2, 1), (6, .aload_n 0, 1), (7, .getfield 15, 3), (10, .if_icmp .ge 23, 3), (13, .iload_n 1, 1), (14, .aload_n 0, 1), (15, .getfield 9, 3), (18, .iload_n 2, 1), (19, .iaload, 1), (20, .invokestatic 29, 3), (23, .invokestatic 41, 3), (26, .istore_n 1, 1), (27, .iinc 2 1, 3), (30, .goto (-25), 3), (33, .aload_n 0, 1), (34, .getfield 15, 3), (37, .ifCond .ne 8, 3), (40, .bipush (-2), 2), (42, .goto 4, 3), (45, .iload_n 1, 1), (46, .ireturn, 1)]
set_option maxRecDepth 100000 in
theorem kd_Family_leastSize : ∀ q ∈ k_Family_leastSize, decode prog_3_method_16_code q.1 = .ok q.2 := by decide +kernel
def k_Mo_starts : List (Nat × Instr × Nat) := [(0, .iconst 0, 1), (1, .istore_n 1, 1), (2, .iload_n 1, 1), (3, .bipush 18, 2), (5, .if_icmp .ge 13, 3), (8, .aload_n 0, 1), (9, .iload_n 1, 1), (10, .iconst 0, 1), (11, .iastore, 1), (12, .iinc 1 1, 3), (15, .goto (-13), 3), (18, .aload_n 0, 1), (19, .iconst 0, 1), (20, .bipush 6, 2), (22, .iastore, 1), (23, .return_, 1)]
set_option maxRecDepth 100000 in
theorem kd_Mo_starts : ∀ q ∈ k_Mo_starts, decode prog_13_method_7_code q.1 = .ok q.2 := by decide +kernel
def k_Mo_add : List (Nat × Instr × Nat) := [(0, .aload_n 0, 1), (1, .iload_n 1, 1), (2, .invokevirtual 90, 3), (5, .ifCond .eq 24, 3), (8, .iload_n 1, 1), (9, .ifCond .eq 20, 3), (12, .aload_n 0, 1), (13, .iload_n 1, 1), (14, .invokevirtual 94, 3), (17, .ifCond .ne 12, 3), (20, .aload_n 0, 1), (21, .invokevirtual 75, 3), (24, .bipush 16, 2), (26, .if_icmp .ne 5, 3), (29, .iconst (-1), 1), (30, .ireturn, 1), (31, .aload_n 0, 1), (32, .invokevirtual 97, 3), (35, .aload_n 0, 1), (36, .getfield 13, 3), (39, .iconst 2, 1), (40, .aload_n 0, 1), (41, .invokevirtual 75, 3), (44, .iadd, 1), (45, .iload_n 1, 1), (46, .iastore, 1), (47, .aload_n 0, 1), (48, .getfield 13, 3), (51, .iconst 1, 1), (52, .dup2, 1), (53, .iaload, 1), (54, .iconst 1, 1), (55, .iadd, 1), (56, .iastore, 1), (57, .aload_n 0, 1), (58, .invokevirtual 75, 3), (61, .iconst 1, 1), (62, .isub, 1), (63, .ireturn, 1)]
set_option maxRecDepth 100000 in
theorem kd_Mo_add : ∀ q ∈ k_Mo_add, decode prog_13_method_18_code q.1 = .ok q.2 := by decide +kernel
def k_Mo_isTold : List (Nat × Instr × Nat) := [(0, .aload_n 0, 1), (1, .getfield 13, 3), (4, .iconst 2, 1), (5, .aload_n 0, 1), (6, .invokevirtual 75, 3), (9, .iload_n 1, 1), (10, .invokestatic 86, 3), (13, .ireturn, 1)]
set_option maxRecDepth 100000 in
theorem kd_Mo_isTold : ∀ q ∈ k_Mo_isTold, decode prog_13_method_17_code q.1 = .ok q.2 := by decide +kernel
def k_Mo_isAmong : List (Nat × Instr × Nat) := [(0, .iconst 0, 1), (1, .istore 4, 2), (3, .iload 4, 2), (5, .iload_n 2, 1), (6, .if_icmp .ge 21, 3), (9, .aload_n 0, 1), (10, .iload_n 1, 1), (11, .iload 4, 2), (13, .iadd, 1), (14, .iaload, 1), (15, .iload_n 3, 1), (16, .if_icmp .ne 5, 3), (19, .iconst 1, 1), (20, .ireturn, 1), (21, .iinc 4 1, 3), (24, .goto (-21), 3), (27, .iconst 0, 1), (28, .ireturn, 1)]
set_option maxRecDepth 100000 in
theorem kd_Mo_isAmong : ∀ q ∈ k_Mo_isAmong, decode prog_13_method_16_code q.1 = .ok q.2 := by decide +kernel
def k_Mo_keeps : List (Nat × Instr × Nat) := [(0, .aload_n 0, 1), (1, .getfield 72, 3), (4, .bipush 12, 2), (6, .if_icmp .ne 44, 3), (9, .bipush 18, 2), (11, .istore_n 1, 1), (12, .iload_n 1, 1), (13, .sipush 216, 3), (16, .if_icmp .ge 24, 3), (19, .aload_n 0, 1), (20, .getfield 20, 3), (23, .iload_n 1, 1), (24, .bipush 18, 2), (26, .isub, 1), (27, .aload_n 0, 1), (28, .getfield 20, 3), (31, .iload_n 1, 1), (32, .iaload, 1), (33, .iastore, 1), (34, .iinc 1 1, 3), (37, .goto (-25), 3), (40, .aload_n 0, 1), (41, .dup, 1), (42, .getfield 72, 3), (45, .iconst 1, 1), (46, .isub, 1), (47, .putfield 72, 3), (50, .iconst 0, 1), (51, .istore_n 1, 1), (52, .iload_n 1, 1), (53, .bipush 18, 2), (55, .if_icmp .ge 29, 3), (58, .aload_n 0, 1), (59, .getfield 20, 3), (62, .bipush 18, 2), (64, .aload_n 0, 1), (65, .getfield 72, 3), (68, .imul, 1), (69, .iload_n 1, 1), (70, .iadd, 1), (71, .aload_n 0, 1), (72, .getfield 13, 3), (75, .iload_n 1, 1), (76, .iaload, 1), (77, .iastore, 1), (78, .iinc 1 1, 3), (81, .goto (-29), 3), (84, .aload_n 0, 1), (85, .dup, 1), (86, .getfield 72, 3), (89, .iconst 1, 1), (90, .iadd, 1), (91, .putfield 72, 3), (94, .return_, 1)]
set_option maxRecDepth 100000 in
theorem kd_Mo_keeps : ∀ q ∈ k_Mo_keeps, decode prog_13_method_8_code q.1 = .ok q.2 := by decide +kernel
def k_Mo_drop : List (Nat × Instr × Nat) := [(0, .aload_n 0, 1), (1, .iload_n 1, 1), (2, .invokevirtual 100, 3), (5, .ifCond .ne 5, 3), (8, .iconst 0, 1), (9, .ireturn, 1), (10, .aload_n 0, 1), (11, .invokevirtual 97, 3), (14, .iload_n 1, 1), (15, .istore_n 2, 1), (16, .iload_n 2, 1), (17, .iconst 1, 1), (18, .iadd, 1), (19, .aload_n 0, 1), (20, .invokevirtual 75, 3), (23, .if_icmp .ge 27, 3), (26, .aload_n 0, 1), (27, .getfield 13, 3), (30, .iconst 2, 1), (31, .iload_n 2, 1), (32, .iadd, 1), (33, .aload_n 0, 1), (34, .getfield 13, 3), (37, .iconst 2, 1), (38, .iload_n 2, 1), (39, .iadd, 1), (40, .iconst 1, 1), (41, .iadd, 1), (42, .iaload, 1), (43, .iastore, 1), (44, .iinc 2 1, 3), (47, .goto (-31), 3), (50, .aload_n 0, 1), (51, .getfield 13, 3), (54, .iconst 1, 1), (55, .dup2, 1), (56, .iaload, 1), (57, .iconst 1, 1), (58, .isub, 1), (59, .iastore, 1), (60, .iconst 1, 1), (61, .ireturn, 1)]
set_option maxRecDepth 100000 in
theorem kd_Mo_drop : ∀ q ∈ k_Mo_drop, decode prog_13_method_19_code q.1 = .ok q.2 := by decide +kernel
def k_Mo_change : List (Nat × Instr × Nat) := [(0, .aload_n 0, 1), (1, .iload_n 1, 1), (2, .invokevirtual 100, 3), (5, .ifCond .eq 23, 3), (8, .aload_n 0, 1), (9, .iload_n 2, 1), (10, .invokevirtual 90, 3), (13, .ifCond .eq 15, 3), (16, .iload_n 2, 1), (17, .ifCond .eq 11, 3), (20, .aload_n 0, 1), (21, .iload_n 2, 1), (22, .invokevirtual 94, 3), (25, .ifCond .eq 5, 3), (28, .iconst (-1), 1), (29, .ireturn, 1), (30, .aload_n 0, 1), (31, .invokevirtual 97, 3), (34, .aload_n 0, 1), (35, .iload_n 1, 1), (36, .invokevirtual 103, 3), (39, .istore_n 3, 1), (40, .aload_n 0, 1), (41, .getfield 13, 3), (44, .iconst 2, 1), (45, .iload_n 1, 1), (46, .iadd, 1), (47, .iload_n 2, 1), (48, .iastore, 1), (49, .iload_n 3, 1), (50, .ireturn, 1)]
set_option maxRecDepth 100000 in
theorem kd_Mo_change : ∀ q ∈ k_Mo_change, decode prog_13_method_20_code q.1 = .ok q.2 := by decide +kernel
def k_Mo_swap : List (Nat × Instr × Nat) := [(0, .aload_n 0, 1), (1, .iload_n 1, 1), (2, .invokevirtual 113, 3), (5, .ifCond .eq 16, 3), (8, .aload_n 0, 1), (9, .iload_n 2, 1), (10, .invokevirtual 113, 3), (13, .ifCond .eq 8, 3), (16, .iload_n 1, 1), (17, .iload_n 2, 1), (18, .if_icmp .ne 5, 3), (21, .iconst (-1), 1), (22, .ireturn, 1), (23, .aload_n 0, 1), (24, .invokevirtual 116, 3), (27, .iconst 0, 1), (28, .istore_n 3, 1), (29, .iload_n 3, 1), (30, .aload_n 0, 1), (31, .invokevirtual 75, 3), (34, .if_icmp .ge 55, 3), (37, .aload_n 0, 1), (38, .aload_n 0, 1), (39, .iload_n 3, 1), (40, .invokevirtual 103, 3), (43, .iload_n 1, 1), (44, .invokestatic 119, 3), (47, .aload_n 0, 1), (48, .iload_n 3, 1), (49, .invokevirtual 103, 3), (52, .iload_n 2, 1), (53, .invokestatic 119, 3), (56, .if_icmp .eq 19, 3), (59, .aload_n 0, 1), (60, .iload_n 3, 1), (61, .invokevirtual 103, 3), (64, .iconst 1, 1), (65, .iload_n 1, 1), (66, .ishl, 1), (67, .ixor, 1), (68, .iconst 1, 1), (69, .iload_n 2, 1), (70, .ishl, 1), (71, .ixor, 1), (72, .goto 8, 3), (75, .aload_n 0, 1), (76, .iload_n 3, 1), (77, .invokevirtual 103, 3), (80, .invokevirtual 123, 3), (83, .iinc 3 1, 3), (86, .goto (-57), 3), (89, .aload_n 0, 1), (90, .invokevirtual 127, 3), (93, .ireturn, 1)]
set_option maxRecDepth 100000 in
theorem kd_Mo_swap : ∀ q ∈ k_Mo_swap, decode prog_13_method_25_code q.1 = .ok q.2 := by decide +kernel
def k_Mo_wouldBegin : List (Nat × Instr × Nat) := [(0, .aload_n 0, 1), (1, .iconst 0, 1), (2, .putfield 107, 3), (5, .return_, 1)]
set_option maxRecDepth 100000 in
theorem kd_Mo_wouldBegin : ∀ q ∈ k_Mo_wouldBegin, decode prog_13_method_21_code q.1 = .ok q.2 := by decide +kernel
def k_Mo_wouldHave : List (Nat × Instr × Nat) := [(0, .iload_n 1, 1), (1, .ifCond .eq 19, 3), (4, .aload_n 0, 1), (5, .getfield 23, 3), (8, .iconst 0, 1), (9, .aload_n 0, 1), (10, .getfield 107, 3), (13, .iload_n 1, 1), (14, .invokestatic 86, 3), (17, .ifCond .eq 4, 3), (20, .return_, 1), (21, .aload_n 0, 1), (22, .getfield 23, 3), (25, .aload_n 0, 1), (26, .getfield 107, 3), (29, .iload_n 1, 1), (30, .iastore, 1), (31, .aload_n 0, 1), (32, .dup, 1), (33, .getfield 107, 3), (36, .iconst 1, 1), (37, .iadd, 1), (38, .putfield 107, 3), (41, .return_, 1)]
set_option maxRecDepth 100000 in
theorem kd_Mo_wouldHave : ∀ q ∈ k_Mo_wouldHave, decode prog_13_method_22_code q.1 = .ok q.2 := by decide +kernel
def k_Mo_changes : List (Nat × Instr × Nat) := [(0, .iconst 0, 1), (1, .istore_n 1, 1), (2, .iconst 0, 1), (3, .istore_n 2, 1), (4, .iload_n 2, 1), (5, .aload_n 0, 1), (6, .invokevirtual 75, 3), (9, .if_icmp .ge 26, 3), (12, .aload_n 0, 1), (13, .getfield 23, 3), (16, .iload_n 2, 1), (17, .iaload, 1), (18, .aload_n 0, 1), (19, .iload_n 2, 1), (20, .invokevirtual 103, 3), (23, .if_icmp .eq 6, 3), (26, .iinc 1 1, 3), (29, .iinc 2 1, 3), (32, .goto (-28), 3), (35, .iload_n 1, 1), (36, .ifCond .ne 5, 3), (39, .iconst (-1), 1), (40, .ireturn, 1), (41, .aload_n 0, 1), (42, .invokevirtual 110, 3), (45, .iload_n 1, 1), (46, .ireturn, 1)]
set_option maxRecDepth 100000 in
theorem kd_Mo_changes : ∀ q ∈ k_Mo_changes, decode prog_13_method_24_code q.1 = .ok q.2 := by decide +kernel
def k_Mo_becomes : List (Nat × Instr × Nat) := [(0, .aload_n 0, 1), (1, .invokevirtual 97, 3), (4, .iconst 0, 1), (5, .istore_n 1, 1), (6, .iload_n 1, 1), (7, .aload_n 0, 1), (8, .getfield 107, 3), (11, .if_icmp .ge 23, 3), (14, .aload_n 0, 1), (15, .getfield 13, 3), (18, .iconst 2, 1), (19, .iload_n 1, 1), (20, .iadd, 1), (21, .aload_n 0, 1), (22, .getfield 23, 3), (25, .iload_n 1, 1), (26, .iaload, 1), (27, .iastore, 1), (28, .iinc 1 1, 3), (31, .goto (-25), 3), (34, .aload_n 0, 1), (35, .getfield 13, 3), (38, .iconst 1, 1), (39, .aload_n 0, 1), (40, .getfield 107, 3), (43, .iastore, 1), (44, .return_, 1)]
set_option maxRecDepth 100000 in
theorem kd_Mo_becomes : ∀ q ∈ k_Mo_becomes, decode prog_13_method_23_code q.1 = .ok q.2 := by decide +kernel
def k_Mo_without : List (Nat × Instr × Nat) := [(0, .aload_n 0, 1), (1, .iload_n 1, 1), (2, .invokevirtual 113, 3), (5, .ifCond .eq 11, 3), (8, .aload_n 0, 1), (9, .iload_n 1, 1), (10, .invokevirtual 130, 3), (13, .ifCond .ne 5, 3), (16, .iconst (-1), 1), (17, .ireturn, 1), (18, .aload_n 0, 1), (19, .invokevirtual 116, 3), (22, .iconst 0, 1), (23, .istore_n 2, 1), (24, .iload_n 2, 1), (25, .aload_n 0, 1), (26, .invokevirtual 75, 3), (29, .if_icmp .ge 24, 3), (32, .aload_n 0, 1), (33, .aload_n 0, 1), (34, .iload_n 2, 1), (35, .invokevirtual 103, 3), (38, .iconst 1, 1), (39, .iload_n 1, 1), (40, .ishl, 1), (41, .iconst (-1), 1), (42, .ixor, 1), (43, .iand, 1), (44, .invokevirtual 123, 3), (47, .iinc 2 1, 3), (50, .goto (-26), 3), (53, .aload_n 0, 1), (54, .invokevirtual 110, 3), (57, .aload_n 0, 1), (58, .invokevirtual 75, 3), (61, .ireturn, 1)]
set_option maxRecDepth 100000 in
theorem kd_Mo_without : ∀ q ∈ k_Mo_without, decode prog_13_method_26_code q.1 = .ok q.2 := by decide +kernel
def k_Mo_degreeOf : List (Nat × Instr × Nat) := [(0, .iconst 0, 1), (1, .istore_n 2, 1), (2, .iconst 0, 1), (3, .istore_n 3, 1), (4, .iload_n 3, 1), (5, .aload_n 0, 1), (6, .invokevirtual 75, 3), (9, .if_icmp .ge 24, 3), (12, .aload_n 0, 1), (13, .iload_n 3, 1), (14, .invokevirtual 103, 3), (17, .iload_n 1, 1), (18, .invokestatic 119, 3), (21, .ifCond .eq 6, 3), (24, .iinc 2 1, 3), (27, .iinc 3 1, 3), (30, .goto (-26), 3), (33, .iload_n 2, 1), (34, .ireturn, 1)]
set_option maxRecDepth 100000 in
theorem kd_Mo_degreeOf : ∀ q ∈ k_Mo_degreeOf, decode prog_13_method_36_code q.1 = .ok q.2 := by decide +kernel
def k_Mo_only : List (Nat × Instr × Nat) := [(0, .aload_n 0, 1), (1, .iload_n 1, 1), (2, .invokevirtual 113, 3), (5, .ifCond .ne 5, 3), (8, .iconst (-1), 1), (9, .ireturn, 1), (10, .aload_n 0, 1), (11, .invokevirtual 116, 3), (14, .iconst 0, 1), (15, .istore_n 3, 1), (16, .iload_n 3, 1), (17, .aload_n 0, 1), (18, .invokevirtual 75, 3), (21, .if_icmp .ge 31, 3), (24, .aload_n 0, 1), (25, .iload_n 3, 1), (26, .invokevirtual 103, 3), (29, .iload_n 1, 1), (30, .invokestatic 119, 3), (33, .iload_n 2, 1), (34, .if_icmp .ne 12, 3), (37, .aload_n 0, 1), (38, .aload_n 0, 1), (39, .iload_n 3, 1), (40, .invokevirtual 103, 3), (43, .invokevirtual 123, 3), (46, .iinc 3 1, 3), (49, .goto (-33), 3), (52, .aload_n 0, 1), (53, .invokevirtual 75, 3), (56, .aload_n 0, 1), (57, .getfield 107, 3), (60, .isub, 1), (61, .istore_n 3, 1), (62, .iload_n 3, 1), (63, .ifCond .ne 5, 3), (66, .iconst (-1), 1), (67, .ireturn, 1), (68, .aload_n 0, 1), (69, .invokevirtual 110, 3), (72, .iload_n 3, 1), (73, .ireturn, 1)]
set_option maxRecDepth 100000 in
theorem kd_Mo_only : ∀ q ∈ k_Mo_only, decode prog_13_method_27_code q.1 = .ok q.2 := by decide +kernel
def k_Mo_join : List (Nat × Instr × Nat) := [(0, .aload_n 0, 1), (1, .iload_n 1, 1), (2, .invokevirtual 113, 3), (5, .ifCond .eq 24, 3), (8, .aload_n 0, 1), (9, .iload_n 2, 1), (10, .invokevirtual 113, 3), (13, .ifCond .eq 16, 3), (16, .iload_n 1, 1), (17, .iload_n 2, 1), (18, .if_icmp .eq 11, 3), (21, .aload_n 0, 1), (22, .iload_n 2, 1), (23, .invokevirtual 130, 3), (26, .ifCond .ne 5, 3), (29, .iconst (-1), 1), (30, .ireturn, 1), (31, .aload_n 0, 1), (32, .invokevirtual 116, 3), (35, .iconst 0, 1), (36, .istore_n 3, 1), (37, .iload_n 3, 1), (38, .aload_n 0, 1), (39, .invokevirtual 75, 3), (42, .if_icmp .ge 48, 3), (45, .aload_n 0, 1), (46, .aload_n 0, 1), (47, .iload_n 3, 1), (48, .invokevirtual 103, 3), (51, .iload_n 2, 1), (52, .invokestatic 119, 3), (55, .ifCond .eq 21, 3), (58, .aload_n 0, 1), (59, .iload_n 3, 1), (60, .invokevirtual 103, 3), (63, .iconst 1, 1), (64, .iload_n 2, 1), (65, .ishl, 1), (66, .iconst (-1), 1), (67, .ixor, 1), (68, .iand, 1), (69, .iconst 1, 1), (70, .iload_n 1, 1), (71, .ishl, 1), (72, .ior, 1), (73, .goto 8, 3), (76, .aload_n 0, 1), (77, .iload_n 3, 1), (78, .invokevirtual 103, 3), (81, .invokevirtual 123, 3), (84, .iinc 3 1, 3), (87, .goto (-50), 3), (90, .aload_n 0, 1), (91, .invokevirtual 110, 3), (94, .aload_n 0, 1), (95, .invokevirtual 75, 3), (98, .ireturn, 1)]
set_option maxRecDepth 100000 in
theorem kd_Mo_join : ∀ q ∈ k_Mo_join, decode prog_13_method_28_code q.1 = .ok q.2 := by decide +kernel
def k_Mo_turn : List (Nat × Instr × Nat) := [(0, .aload_n 0, 1), (1, .invokevirtual 116, 3), (4, .iconst 0, 1), (5, .istore_n 1, 1), (6, .iload_n 1, 1), (7, .aload_n 0, 1), (8, .invokevirtual 75, 3), (11, .if_icmp .ge 40, 3), (14, .aload_n 0, 1), (15, .aload_n 0, 1), (16, .iload_n 1, 1), (17, .invokevirtual 103, 3), (20, .iconst 1, 1), (21, .ishl, 1), (22, .aload_n 0, 1), (23, .invokevirtual 83, 3), (26, .iand, 1), (27, .aload_n 0, 1), (28, .iload_n 1, 1), (29, .invokevirtual 103, 3), (32, .aload_n 0, 1), (33, .getfield 13, 3), (36, .iconst 0, 1), (37, .iaload, 1), (38, .iconst 1, 1), (39, .isub, 1), (40, .ishr, 1), (41, .ior, 1), (42, .invokevirtual 123, 3), (45, .iinc 1 1, 3), (48, .goto (-42), 3), (51, .aload_n 0, 1), (52, .invokevirtual 127, 3), (55, .ireturn, 1)]
set_option maxRecDepth 100000 in
theorem kd_Mo_turn : ∀ q ∈ k_Mo_turn, decode prog_13_method_29_code q.1 = .ok q.2 := by decide +kernel
def k_Mo_flip : List (Nat × Instr × Nat) := [(0, .aload_n 0, 1), (1, .invokevirtual 75, 3), (4, .ifCond .ne 5, 3), (7, .iconst (-1), 1), (8, .ireturn, 1), (9, .aload_n 0, 1), (10, .invokevirtual 116, 3), (13, .iconst 0, 1), (14, .istore_n 1, 1), (15, .iload_n 1, 1), (16, .aload_n 0, 1), (17, .invokevirtual 75, 3), (20, .if_icmp .ge 25, 3), (23, .aload_n 0, 1), (24, .aload_n 0, 1), (25, .invokevirtual 83, 3), (28, .aload_n 0, 1), (29, .iload_n 1, 1), (30, .invokevirtual 103, 3), (33, .iconst (-1), 1), (34, .ixor, 1), (35, .iand, 1), (36, .invokevirtual 123, 3), (39, .iinc 1 1, 3), (42, .goto (-27), 3), (45, .aload_n 0, 1), (46, .invokevirtual 110, 3), (49, .aload_n 0, 1), (50, .invokevirtual 75, 3), (53, .ireturn, 1)]
set_option maxRecDepth 100000 in
theorem kd_Mo_flip : ∀ q ∈ k_Mo_flip, decode prog_13_method_30_code q.1 = .ok q.2 := by decide +kernel
def k_Mo_reduce : List (Nat × Instr × Nat) := [(0, .iload_n 1, 1), (1, .invokestatic 133, 3), (4, .ifCond .ne 5, 3), (7, .iconst (-1), 1), (8, .ireturn, 1), (9, .aload_n 0, 1), (10, .iload_n 1, 1), (11, .invokevirtual 136, 3), (14, .aload_n 0, 1), (15, .getfield 139, 3), (18, .ifCond .eq 6, 3), (21, .bipush (-2), 2), (23, .ireturn, 1), (24, .aload_n 0, 1), (25, .getfield 143, 3), (28, .ifCond .ne 5, 3), (31, .iconst (-1), 1), (32, .ireturn, 1), (33, .aload_n 0, 1), (34, .invokevirtual 97, 3), (37, .iconst 0, 1), (38, .istore_n 2, 1), (39, .iload_n 2, 1), (40, .aload_n 0, 1), (41, .getfield 146, 3), (44, .if_icmp .ge 23, 3), (47, .aload_n 0, 1), (48, .getfield 13, 3), (51, .iconst 2, 1), (52, .iload_n 2, 1), (53, .iadd, 1), (54, .aload_n 0, 1), (55, .getfield 37, 3), (58, .iload_n 2, 1), (59, .iaload, 1), (60, .iastore, 1), (61, .iinc 2 1, 3), (64, .goto (-25), 3), (67, .aload_n 0, 1), (68, .getfield 13, 3), (71, .iconst 1, 1), (72, .aload_n 0, 1), (73, .getfield 146, 3), (76, .iastore, 1), (77, .aload_n 0, 1), (78, .getfield 146, 3), (81, .ireturn, 1)]
set_option maxRecDepth 100000 in
theorem kd_Mo_reduce : ∀ q ∈ k_Mo_reduce, decode prog_13_method_33_code q.1 = .ok q.2 := by decide +kernel
def k_Mo_kernels : List (Nat × Instr × Nat) := [(0, .aload_n 0, 1), (1, .aload_n 0, 1), (2, .invokevirtual 75, 3), (5, .putfield 146, 3), (8, .iconst 0, 1), (9, .istore_n 2, 1), (10, .iload_n 2, 1), (11, .aload_n 0, 1), (12, .getfield 146, 3), (15, .if_icmp .ge 20, 3), (18, .aload_n 0, 1), (19, .getfield 37, 3), (22, .iload_n 2, 1), (23, .aload_n 0, 1), (24, .iload_n 2, 1), (25, .invokevirtual 103, 3), (28, .iastore, 1), (29, .iinc 2 1, 3), (32, .goto (-22), 3), (35, .aload_n 0, 1), (36, .iconst 0, 1), (37, .putfield 143, 3), (40, .aload_n 0, 1), (41, .iconst 0, 1), (42, .putfield 139, 3), (45, .iconst 1, 1), (46, .istore_n 2, 1), (47, .iload_n 2, 1), (48, .ifCond .eq 133, 3), (51, .aload_n 0, 1), (52, .invokevirtual 216, 3), (55, .istore_n 3, 1), (56, .iload_n 3, 1), (57, .iconst (-1), 1), (58, .if_icmp .eq 16, 3), (61, .aload_n 0, 1), (62, .iconst 0, 1), (63, .iconst 1, 1), (64, .iload_n 3, 1), (65, .ishl, 1), (66, .bipush (-2), 2), (68, .invokevirtual 219, 3), (71, .goto (-24), 3), (74, .aload_n 0, 1), (75, .aload_n 0, 1), (76, .getfield 146, 3), (79, .putfield 164, 3), (82, .iconst 0, 1), (83, .istore 4, 2), (85, .iload 4, 2), (87, .aload_n 0, 1), (88, .getfield 146, 3), (91, .if_icmp .ge 23, 3), (94, .aload_n 0, 1), (95, .getfield 26, 3), (98, .iload 4, 2), (100, .aload_n 0, 1), (101, .getfield 37, 3), (104, .iload 4, 2), (106, .iaload, 1), (107, .iastore, 1), (108, .iinc 4 1, 3), (111, .goto (-26), 3), (114, .aload_n 0, 1), (115, .iload_n 1, 1), (116, .iconst 1, 1), (117, .iadd, 1), (118, .invokevirtual 182, 3), (121, .istore 4, 2), (123, .iload 4, 2), (125, .ifCond .ne 7, 3), (128, .iconst (-1), 1), (129, .goto 9, 3), (132, .aload_n 0, 1), (133, .iload 4, 2), (135, .invokevirtual 170, 3), (138, .istore 5, 2), (140, .aload_n 0, 1), (141, .iload 5, 2), (143, .ifCond .ne 7, 3), (146, .iconst 1, 1), (147, .goto 4, 3), (150, .iconst 0, 1), (151, .putfield 139, 3), (154, .iload 5, 2), (156, .ifCond .le 7, 3), (159, .iconst 1, 1), (160, .goto 4, 3), (163, .iconst 0, 1), (164, .istore_n 2, 1), (165, .iload_n 2, 1), (166, .ifCond .eq 12, 3), (169, .aload_n 0, 1), (170, .iconst 1, 1), (171, .iload 4, 2), (173, .iload 5, 2), (175, .invokevirtual 219, 3), (178, .goto (-131), 3), (181, .return_, 1)]
set_option maxRecDepth 100000 in
theorem kd_Mo_kernels : ∀ q ∈ k_Mo_kernels, decode prog_13_method_83_code q.1 = .ok q.2 := by decide +kernel
def k_Mo_withinFirst : List (Nat × Instr × Nat) := [(0, .iconst 0, 1), (1, .istore_n 1, 1), (2, .iload_n 1, 1), (3, .aload_n 0, 1), (4, .getfield 146, 3), (7, .if_icmp .ge 50, 3), (10, .iconst 0, 1), (11, .istore_n 2, 1), (12, .iload_n 2, 1), (13, .aload_n 0, 1), (14, .getfield 146, 3), (17, .if_icmp .ge 34, 3), (20, .iload_n 1, 1), (21, .iload_n 2, 1), (22, .if_icmp .eq 23, 3), (25, .aload_n 0, 1), (26, .getfield 37, 3), (29, .iload_n 2, 1), (30, .iaload, 1), (31, .aload_n 0, 1), (32, .getfield 37, 3), (35, .iload_n 1, 1), (36, .iaload, 1), (37, .invokestatic 158, 3), (40, .ifCond .eq 5, 3), (43, .iload_n 1, 1), (44, .ireturn, 1), (45, .iinc 2 1, 3), (48, .goto (-36), 3), (51, .iinc 1 1, 3), (54, .goto (-52), 3), (57, .iconst (-1), 1), (58, .ireturn, 1)]
set_option maxRecDepth 100000 in
theorem kd_Mo_withinFirst : ∀ q ∈ k_Mo_withinFirst, decode prog_13_method_81_code q.1 = .ok q.2 := by decide +kernel
def k_Mo_goes : List (Nat × Instr × Nat) := [(0, .iconst 0, 1), (1, .istore 4, 2), (3, .iconst 0, 1), (4, .istore 5, 2), (6, .iload 5, 2), (8, .aload_n 0, 1), (9, .getfield 146, 3), (12, .if_icmp .ge 38, 3), (15, .iload_n 2, 1), (16, .iload 5, 2), (18, .invokestatic 119, 3), (21, .ifCond .eq 6, 3), (24, .goto 20, 3), (27, .aload_n 0, 1), (28, .getfield 37, 3), (31, .iload 4, 2), (33, .aload_n 0, 1), (34, .getfield 37, 3), (37, .iload 5, 2), (39, .iaload, 1), (40, .iastore, 1), (41, .iinc 4 1, 3), (44, .iinc 5 1, 3), (47, .goto (-41), 3), (50, .aload_n 0, 1), (51, .iload 4, 2), (53, .putfield 146, 3), (56, .iload_n 1, 1), (57, .iconst 1, 1), (58, .if_icmp .ne 39, 3), (61, .aload_n 0, 1), (62, .getfield 37, 3), (65, .iconst 0, 1), (66, .aload_n 0, 1), (67, .getfield 146, 3), (70, .iload_n 3, 1), (71, .invokestatic 86, 3), (74, .ifCond .ne 23, 3), (77, .aload_n 0, 1), (78, .getfield 37, 3), (81, .aload_n 0, 1), (82, .getfield 146, 3), (85, .iload_n 3, 1), (86, .iastore, 1), (87, .aload_n 0, 1), (88, .dup, 1), (89, .getfield 146, 3), (92, .iconst 1, 1), (93, .iadd, 1), (94, .putfield 146, 3), (97, .aload_n 0, 1), (98, .getfield 40, 3), (101, .aload_n 0, 1), (102, .getfield 143, 3), (105, .iload_n 1, 1), (106, .iastore, 1), (107, .aload_n 0, 1), (108, .getfield 43, 3), (111, .aload_n 0, 1), (112, .getfield 143, 3), (115, .iload_n 2, 1), (116, .iastore, 1), (117, .aload_n 0, 1), (118, .getfield 46, 3), (121, .aload_n 0, 1), (122, .getfield 143, 3), (125, .iload_n 3, 1), (126, .iastore, 1), (127, .aload_n 0, 1), (128, .getfield 49, 3), (131, .aload_n 0, 1), (132, .getfield 143, 3), (135, .aload_n 0, 1), (136, .getfield 146, 3), (139, .iastore, 1), (140, .aload_n 0, 1), (141, .dup, 1), (142, .getfield 143, 3), (145, .iconst 1, 1), (146, .iadd, 1), (147, .putfield 143, 3), (150, .return_, 1)]
set_option maxRecDepth 100000 in
theorem kd_Mo_goes : ∀ q ∈ k_Mo_goes, decode prog_13_method_82_code q.1 = .ok q.2 := by decide +kernel
def k_Mo_firstOf : List (Nat × Instr × Nat) := [(0, .iconst 1, 1), (1, .istore_n 2, 1), (2, .iload_n 2, 1), (3, .iconst 1, 1), (4, .aload_n 0, 1), (5, .getfield 164, 3), (8, .ishl, 1), (9, .if_icmp .ge 27, 3), (12, .iload_n 2, 1), (13, .invokestatic 155, 3), (16, .iload_n 1, 1), (17, .if_icmp .ne 13, 3), (20, .aload_n 0, 1), (21, .iload_n 2, 1), (22, .invokevirtual 170, 3), (25, .ifCond .lt 5, 3), (28, .iload_n 2, 1), (29, .ireturn, 1), (30, .iinc 2 1, 3), (33, .goto (-31), 3), (36, .iconst 0, 1), (37, .ireturn, 1)]
set_option maxRecDepth 100000 in
theorem kd_Mo_firstOf : ∀ q ∈ k_Mo_firstOf, decode prog_13_method_45_code q.1 = .ok q.2 := by decide +kernel
def k_Mo_ones : List (Nat × Instr × Nat) := [(0, .iconst 0, 1), (1, .istore_n 1, 1), (2, .iload_n 0, 1), (3, .istore_n 2, 1), (4, .iload_n 2, 1), (5, .ifCond .eq 15, 3), (8, .iinc 1 1, 3), (11, .iload_n 2, 1), (12, .iload_n 2, 1), (13, .iconst 1, 1), (14, .isub, 1), (15, .iand, 1), (16, .istore_n 2, 1), (17, .goto (-13), 3), (20, .iload_n 1, 1), (21, .ireturn, 1)]
set_option maxRecDepth 100000 in
theorem kd_Mo_ones : ∀ q ∈ k_Mo_ones, decode prog_13_method_6_code q.1 = .ok q.2 := by decide +kernel
def k_Mo_coreOf : List (Nat × Instr × Nat) := [(0, .iconst (-1), 1), (1, .istore_n 2, 1), (2, .iconst 0, 1), (3, .istore_n 3, 1), (4, .iconst 0, 1), (5, .istore 4, 2), (7, .iconst 0, 1), (8, .istore 5, 2), (10, .iload_n 1, 1), (11, .iload 5, 2), (13, .ishr, 1), (14, .ifCond .eq 71, 3), (17, .iload_n 1, 1), (18, .iload 5, 2), (20, .invokestatic 119, 3), (23, .ifCond .ne 6, 3), (26, .goto 53, 3), (29, .iinc 4 1, 3), (32, .iload 4, 2), (34, .iconst 2, 1), (35, .if_icmp .ne 13, 3), (38, .iload_n 3, 1), (39, .aload_n 0, 1), (40, .getfield 26, 3), (43, .iload 5, 2), (45, .iaload, 1), (46, .iand, 1), (47, .istore_n 2, 1), (48, .iload 4, 2), (50, .iconst 2, 1), (51, .if_icmp .le 18, 3), (54, .aload_n 0, 1), (55, .getfield 26, 3), (58, .iload 5, 2), (60, .iaload, 1), (61, .iload_n 3, 1), (62, .iand, 1), (63, .iload_n 2, 1), (64, .if_icmp .eq 5, 3), (67, .iconst (-1), 1), (68, .ireturn, 1), (69, .iload_n 3, 1), (70, .aload_n 0, 1), (71, .getfield 26, 3), (74, .iload 5, 2), (76, .iaload, 1), (77, .ior, 1), (78, .istore_n 3, 1), (79, .iinc 5 1, 3), (82, .goto (-72), 3), (85, .iload 4, 2), (87, .iconst 2, 1), (88, .if_icmp .ge 7, 3), (91, .iconst (-1), 1), (92, .goto 4, 3), (95, .iload_n 2, 1), (96, .ireturn, 1)]
set_option maxRecDepth 100000 in
theorem kd_Mo_coreOf : ∀ q ∈ k_Mo_coreOf, decode prog_13_method_43_code q.1 = .ok q.2 := by decide +kernel
def k_Mo_thin : List (Nat × Instr × Nat) := [(0, .iload_n 1, 1), (1, .invokestatic 149, 3), (4, .ifCond .ne 5, 3), (7, .iconst (-1), 1), (8, .ireturn, 1), (9, .aload_n 0, 1), (10, .iload_n 1, 1), (11, .invokevirtual 152, 3), (14, .istore_n 2, 1), (15, .aload_n 0, 1), (16, .invokevirtual 116, 3), (19, .iconst 0, 1), (20, .istore_n 3, 1), (21, .iload_n 3, 1), (22, .aload_n 0, 1), (23, .invokevirtual 75, 3), (26, .if_icmp .ge 26, 3), (29, .iload_n 2, 1), (30, .iload_n 3, 1), (31, .invokestatic 119, 3), (34, .ifCond .eq 12, 3), (37, .aload_n 0, 1), (38, .aload_n 0, 1), (39, .iload_n 3, 1), (40, .invokevirtual 103, 3), (43, .invokevirtual 123, 3), (46, .iinc 3 1, 3), (49, .goto (-28), 3), (52, .aload_n 0, 1), (53, .invokevirtual 75, 3), (56, .aload_n 0, 1), (57, .getfield 107, 3), (60, .isub, 1), (61, .istore_n 3, 1), (62, .iload_n 3, 1), (63, .ifCond .ne 5, 3), (66, .iconst (-1), 1), (67, .ireturn, 1), (68, .aload_n 0, 1), (69, .invokevirtual 110, 3), (72, .iload_n 3, 1), (73, .ireturn, 1)]
set_option maxRecDepth 100000 in
theorem kd_Mo_thin : ∀ q ∈ k_Mo_thin, decode prog_13_method_34_code q.1 = .ok q.2 := by decide +kernel
def k_Mo_mostFree : List (Nat × Instr × Nat) := [(0, .aload_n 0, 1), (1, .invokevirtual 176, 3), (4, .iconst 0, 1), (5, .istore_n 2, 1), (6, .iconst 0, 1), (7, .istore_n 3, 1), (8, .iconst 0, 1), (9, .istore 4, 2), (11, .iload 4, 2), (13, .iconst 1, 1), (14, .aload_n 0, 1), (15, .getfield 164, 3), (18, .ishl, 1), (19, .if_icmp .ge 128, 3), (22, .iload 4, 2), (24, .invokestatic 155, 3), (27, .istore 5, 2), (29, .iload 5, 2), (31, .iload_n 1, 1), (32, .if_icmp .ne 16, 3), (35, .aload_n 0, 1), (36, .iload 4, 2), (38, .invokevirtual 170, 3), (41, .ifCond .lt 7, 3), (44, .iconst 1, 1), (45, .goto 4, 3), (48, .iconst 0, 1), (49, .istore 6, 2), (51, .iconst 0, 1), (52, .istore 7, 2), (54, .iload 7, 2), (56, .aload_n 0, 1), (57, .getfield 164, 3), (60, .if_icmp .ge 52, 3), (63, .iload 6, 2), (65, .ifCond .ne 47, 3), (68, .iload 5, 2), (70, .iload_n 1, 1), (71, .if_icmp .le 41, 3), (74, .iload 4, 2), (76, .iload 7, 2), (78, .invokestatic 119, 3), (81, .ifCond .eq 22, 3), (84, .aload_n 0, 1), (85, .getfield 34, 3), (88, .iload 4, 2), (90, .iconst 1, 1), (91, .iload 7, 2), (93, .ishl, 1), (94, .ixor, 1), (95, .baload, 1), (96, .ifCond .eq 7, 3), (99, .iconst 1, 1), (100, .goto 4, 3), (103, .iconst 0, 1), (104, .istore 6, 2), (106, .iinc 7 1, 3), (109, .goto (-55), 3), (112, .aload_n 0, 1), (113, .getfield 34, 3), (116, .iload 4, 2), (118, .iload 6, 2), (120, .bastore, 1), (121, .iload 6, 2), (123, .ifCond .ne 18, 3), (126, .iload 5, 2), (128, .iload_n 3, 1), (129, .if_icmp .gt 6, 3), (132, .goto 9, 3), (135, .iload 5, 2), (137, .istore_n 3, 1), (138, .iload 4, 2), (140, .istore_n 2, 1), (141, .iinc 4 1, 3), (144, .goto (-133), 3), (147, .iload_n 2, 1), (148, .ireturn, 1)]
set_option maxRecDepth 100000 in
theorem kd_Mo_mostFree : ∀ q ∈ k_Mo_mostFree, decode prog_13_method_53_code q.1 = .ok q.2 := by decide +kernel
def k_Mo_laysAll : List (Nat × Instr × Nat) := [(0, .aload_n 0, 1), (1, .aload_n 0, 1), (2, .invokevirtual 75, 3), (5, .putfield 164, 3), (8, .iconst 0, 1), (9, .istore_n 1, 1), (10, .iload_n 1, 1), (11, .aload_n 0, 1), (12, .getfield 164, 3), (15, .if_icmp .ge 20, 3), (18, .aload_n 0, 1), (19, .getfield 26, 3), (22, .iload_n 1, 1), (23, .aload_n 0, 1), (24, .iload_n 1, 1), (25, .invokevirtual 103, 3), (28, .iastore, 1), (29, .iinc 1 1, 3), (32, .goto (-22), 3), (35, .return_, 1)]
set_option maxRecDepth 100000 in
theorem kd_Mo_laysAll : ∀ q ∈ k_Mo_laysAll, decode prog_13_method_41_code q.1 = .ok q.2 := by decide +kernel
def k_Mo_undo : List (Nat × Instr × Nat) := [(0, .aload_n 0, 1), (1, .getfield 72, 3), (4, .ifCond .ne 5, 3), (7, .iconst (-1), 1), (8, .ireturn, 1), (9, .aload_n 0, 1), (10, .dup, 1), (11, .getfield 72, 3), (14, .iconst 1, 1), (15, .isub, 1), (16, .putfield 72, 3), (19, .iconst 0, 1), (20, .istore_n 1, 1), (21, .iload_n 1, 1), (22, .bipush 18, 2), (24, .if_icmp .ge 29, 3), (27, .aload_n 0, 1), (28, .getfield 13, 3), (31, .iload_n 1, 1), (32, .aload_n 0, 1), (33, .getfield 20, 3), (36, .bipush 18, 2), (38, .aload_n 0, 1), (39, .getfield 72, 3), (42, .imul, 1), (43, .iload_n 1, 1), (44, .iadd, 1), (45, .iaload, 1), (46, .iastore, 1), (47, .iinc 1 1, 3), (50, .goto (-29), 3), (53, .aload_n 0, 1), (54, .getfield 72, 3), (57, .ireturn, 1)]
set_option maxRecDepth 100000 in
theorem kd_Mo_undo : ∀ q ∈ k_Mo_undo, decode prog_13_method_35_code q.1 = .ok q.2 := by decide +kernel
def k_Mo_set : List (Nat × Instr × Nat) := [(0, .aload_n 0, 1), (1, .iload_n 1, 1), (2, .invokevirtual 100, 3), (5, .ifCond .eq 12, 3), (8, .iload_n 2, 1), (9, .iconst 0, 1), (10, .iconst 3, 1), (11, .invokestatic 79, 3), (14, .ifCond .ne 5, 3), (17, .iconst (-1), 1), (18, .ireturn, 1), (19, .iload_n 2, 1), (20, .ifCond .ne 9, 3), (23, .aload_n 0, 1), (24, .iload_n 1, 1), (25, .invokevirtual 103, 3), (28, .ireturn, 1), (29, .iload_n 2, 1), (30, .iconst 1, 1), (31, .if_icmp .ne 12, 3), (34, .aload_n 0, 1), (35, .iload_n 1, 1), (36, .invokevirtual 103, 3), (39, .invokestatic 155, 3), (42, .ireturn, 1), (43, .iconst 0, 1), (44, .istore_n 3, 1), (45, .iconst 0, 1), (46, .istore 4, 2), (48, .iload 4, 2), (50, .aload_n 0, 1), (51, .invokevirtual 75, 3), (54, .if_icmp .ge 62, 3), (57, .iload 4, 2), (59, .iload_n 1, 1), (60, .if_icmp .eq 50, 3), (63, .iload_n 2, 1), (64, .iconst 2, 1), (65, .if_icmp .ne 23, 3), (68, .aload_n 0, 1), (69, .iload_n 1, 1), (70, .invokevirtual 103, 3), (73, .aload_n 0, 1), (74, .iload 4, 2), (76, .invokevirtual 103, 3), (79, .invokestatic 158, 3), (82, .ifCond .eq 28, 3), (85, .goto 18, 3), (88, .aload_n 0, 1), (89, .iload_n 1, 1), (90, .invokevirtual 103, 3), (93, .aload_n 0, 1), (94, .iload 4, 2), (96, .invokevirtual 103, 3), (99, .iand, 1), (100, .ifCond .eq 10, 3), (103, .iload_n 3, 1), (104, .iconst 1, 1), (105, .iload 4, 2), (107, .ishl, 1), (108, .ior, 1), (109, .istore_n 3, 1), (110, .iinc 4 1, 3), (113, .goto (-65), 3), (116, .iload_n 3, 1), (117, .ireturn, 1)]
set_option maxRecDepth 100000 in
theorem kd_Mo_set : ∀ q ∈ k_Mo_set, decode prog_13_method_37_code q.1 = .ok q.2 := by decide +kernel
def k_Mo_degree : List (Nat × Instr × Nat) := [(0, .aload_n 0, 1), (1, .iload_n 1, 1), (2, .invokevirtual 113, 3), (5, .ifCond .eq 11, 3), (8, .aload_n 0, 1), (9, .iload_n 1, 1), (10, .invokevirtual 130, 3), (13, .goto 4, 3), (16, .iconst (-1), 1), (17, .ireturn, 1)]
set_option maxRecDepth 100000 in
theorem kd_Mo_degree : ∀ q ∈ k_Mo_degree, decode prog_13_method_38_code q.1 = .ok q.2 := by decide +kernel
def k_Mo_having : List (Nat × Instr × Nat) := [(0, .aload_n 0, 1), (1, .iload_n 1, 1), (2, .invokevirtual 90, 3), (5, .ifCond .eq 11, 3), (8, .aload_n 0, 1), (9, .iload_n 1, 1), (10, .invokevirtual 161, 3), (13, .goto 4, 3), (16, .iconst (-1), 1), (17, .ireturn, 1)]
set_option maxRecDepth 100000 in
theorem kd_Mo_having : ∀ q ∈ k_Mo_having, decode prog_13_method_40_code q.1 = .ok q.2 := by decide +kernel
def k_Mo_havingAll : List (Nat × Instr × Nat) := [(0, .iconst 0, 1), (1, .istore_n 2, 1), (2, .iconst 0, 1), (3, .istore_n 3, 1), (4, .iload_n 3, 1), (5, .aload_n 0, 1), (6, .invokevirtual 75, 3), (9, .if_icmp .ge 27, 3), (12, .iload_n 1, 1), (13, .aload_n 0, 1), (14, .iload_n 3, 1), (15, .invokevirtual 103, 3), (18, .invokestatic 158, 3), (21, .ifCond .eq 9, 3), (24, .iload_n 2, 1), (25, .iconst 1, 1), (26, .iload_n 3, 1), (27, .ishl, 1), (28, .ior, 1), (29, .istore_n 2, 1), (30, .iinc 3 1, 3), (33, .goto (-29), 3), (36, .iload_n 2, 1), (37, .ireturn, 1)]
set_option maxRecDepth 100000 in
theorem kd_Mo_havingAll : ∀ q ∈ k_Mo_havingAll, decode prog_13_method_39_code q.1 = .ok q.2 := by decide +kernel
def k_Mo_isFlower : List (Nat × Instr × Nat) := [(0, .aload_n 0, 1), (1, .iload_n 1, 1), (2, .invokevirtual 173, 3), (5, .ifCond .ne 5, 3), (8, .iconst (-1), 1), (9, .ireturn, 1), (10, .aload_n 0, 1), (11, .invokevirtual 176, 3), (14, .aload_n 0, 1), (15, .iload_n 1, 1), (16, .invokevirtual 170, 3), (19, .ifCond .ge 7, 3), (22, .iconst 0, 1), (23, .goto 4, 3), (26, .iconst 1, 1), (27, .ireturn, 1)]
set_option maxRecDepth 100000 in
theorem kd_Mo_isFlower : ∀ q ∈ k_Mo_isFlower, decode prog_13_method_46_code q.1 = .ok q.2 := by decide +kernel
def k_Mo_core : List (Nat × Instr × Nat) := [(0, .aload_n 0, 1), (1, .iload_n 1, 1), (2, .invokevirtual 173, 3), (5, .ifCond .ne 5, 3), (8, .iconst (-1), 1), (9, .ireturn, 1), (10, .aload_n 0, 1), (11, .invokevirtual 176, 3), (14, .aload_n 0, 1), (15, .iload_n 1, 1), (16, .invokevirtual 170, 3), (19, .istore_n 2, 1), (20, .iload_n 2, 1), (21, .ifCond .ge 8, 3), (24, .bipush (-2), 2), (26, .goto 4, 3), (29, .iload_n 2, 1), (30, .ireturn, 1)]
set_option maxRecDepth 100000 in
theorem kd_Mo_core : ∀ q ∈ k_Mo_core, decode prog_13_method_47_code q.1 = .ok q.2 := by decide +kernel
def k_Mo_greatest : List (Nat × Instr × Nat) := [(0, .iload_n 1, 1), (1, .iconst 0, 1), (2, .iconst 2, 1), (3, .invokestatic 79, 3), (6, .ifCond .ne 5, 3), (9, .iconst (-1), 1), (10, .ireturn, 1), (11, .aload_n 0, 1), (12, .invokevirtual 176, 3), (15, .aload_n 0, 1), (16, .invokevirtual 179, 3), (19, .istore_n 2, 1), (20, .iload_n 2, 1), (21, .ifCond .ne 6, 3), (24, .bipush (-2), 2), (26, .ireturn, 1), (27, .iload_n 1, 1), (28, .ifCond .ne 10, 3), (31, .aload_n 0, 1), (32, .getfield 167, 3), (35, .goto 20, 3), (38, .iload_n 1, 1), (39, .iconst 1, 1), (40, .if_icmp .ne 7, 3), (43, .iload_n 2, 1), (44, .goto 11, 3), (47, .aload_n 0, 1), (48, .aload_n 0, 1), (49, .getfield 167, 3), (52, .invokevirtual 170, 3), (55, .ireturn, 1)]
set_option maxRecDepth 100000 in
theorem kd_Mo_greatest : ∀ q ∈ k_Mo_greatest, decode prog_13_method_48_code q.1 = .ok q.2 := by decide +kernel
def k_Mo_greatestMany : List (Nat × Instr × Nat) := [(0, .iconst 0, 1), (1, .istore_n 1, 1), (2, .aload_n 0, 1), (3, .iconst 0, 1), (4, .putfield 167, 3), (7, .iconst 1, 1), (8, .istore_n 2, 1), (9, .iload_n 2, 1), (10, .iconst 1, 1), (11, .aload_n 0, 1), (12, .getfield 164, 3), (15, .ishl, 1), (16, .if_icmp .ge 37, 3), (19, .iload_n 2, 1), (20, .invokestatic 155, 3), (23, .istore_n 3, 1), (24, .iload_n 3, 1), (25, .iload_n 1, 1), (26, .if_icmp .le 21, 3), (29, .aload_n 0, 1), (30, .iload_n 2, 1), (31, .invokevirtual 170, 3), (34, .ifCond .ge 6, 3), (37, .goto 10, 3), (40, .iload_n 3, 1), (41, .istore_n 1, 1), (42, .aload_n 0, 1), (43, .iload_n 2, 1), (44, .putfield 167, 3), (47, .iinc 2 1, 3), (50, .goto (-41), 3), (53, .iload_n 1, 1), (54, .ireturn, 1)]
set_option maxRecDepth 100000 in
theorem kd_Mo_greatestMany : ∀ q ∈ k_Mo_greatestMany, decode prog_13_method_44_code q.1 = .ok q.2 := by decide +kernel
def k_Mo_flower : List (Nat × Instr × Nat) := [(0, .iload_n 1, 1), (1, .invokestatic 149, 3), (4, .ifCond .ne 5, 3), (7, .iconst (-1), 1), (8, .ireturn, 1), (9, .aload_n 0, 1), (10, .invokevirtual 176, 3), (13, .aload_n 0, 1), (14, .iload_n 1, 1), (15, .invokevirtual 182, 3), (18, .istore_n 2, 1), (19, .iload_n 2, 1), (20, .ifCond .ne 8, 3), (23, .bipush (-2), 2), (25, .goto 4, 3), (28, .iload_n 2, 1), (29, .ireturn, 1)]
set_option maxRecDepth 100000 in
theorem kd_Mo_flower : ∀ q ∈ k_Mo_flower, decode prog_13_method_49_code q.1 = .ok q.2 := by decide +kernel
def k_Mo_flowers : List (Nat × Instr × Nat) := [(0, .iload_n 1, 1), (1, .invokestatic 149, 3), (4, .ifCond .ne 5, 3), (7, .iconst (-1), 1), (8, .ireturn, 1), (9, .aload_n 0, 1), (10, .invokevirtual 176, 3), (13, .iconst 0, 1), (14, .istore_n 2, 1), (15, .iconst 1, 1), (16, .istore_n 3, 1), (17, .iload_n 3, 1), (18, .iconst 1, 1), (19, .aload_n 0, 1), (20, .getfield 164, 3), (23, .ishl, 1), (24, .if_icmp .ge 28, 3), (27, .iload_n 3, 1), (28, .invokestatic 155, 3), (31, .iload_n 1, 1), (32, .if_icmp .ne 14, 3), (35, .aload_n 0, 1), (36, .iload_n 3, 1), (37, .invokevirtual 170, 3), (40, .ifCond .lt 6, 3), (43, .iinc 2 1, 3), (46, .iinc 3 1, 3), (49, .goto (-32), 3), (52, .iload_n 2, 1), (53, .ireturn, 1)]
set_option maxRecDepth 100000 in
theorem kd_Mo_flowers : ∀ q ∈ k_Mo_flowers, decode prog_13_method_50_code q.1 = .ok q.2 := by decide +kernel
def k_Mo_byCore : List (Nat × Instr × Nat) := [(0, .aload_n 0, 1), (1, .iload_n 1, 1), (2, .invokevirtual 90, 3), (5, .ifCond .eq 12, 3), (8, .iload_n 2, 1), (9, .iconst 0, 1), (10, .iconst 1, 1), (11, .invokestatic 79, 3), (14, .ifCond .ne 5, 3), (17, .iconst (-1), 1), (18, .ireturn, 1), (19, .aload_n 0, 1), (20, .invokevirtual 176, 3), (23, .iconst 0, 1), (24, .istore_n 3, 1), (25, .iconst 0, 1), (26, .istore 4, 2), (28, .iconst 1, 1), (29, .istore 5, 2), (31, .iload 5, 2), (33, .iconst 1, 1), (34, .aload_n 0, 1), (35, .getfield 164, 3), (38, .ishl, 1), (39, .if_icmp .ge 42, 3), (42, .iload 5, 2), (44, .invokestatic 155, 3), (47, .istore 6, 2), (49, .iload 6, 2), (51, .iload_n 3, 1), (52, .if_icmp .le 23, 3), (55, .aload_n 0, 1), (56, .iload 5, 2), (58, .invokevirtual 170, 3), (61, .iload_n 1, 1), (62, .if_icmp .eq 6, 3), (65, .goto 10, 3), (68, .iload 6, 2), (70, .istore_n 3, 1), (71, .iload 5, 2), (73, .istore 4, 2), (75, .iinc 5 1, 3), (78, .goto (-47), 3), (81, .iload_n 3, 1), (82, .ifCond .ne 8, 3), (85, .bipush (-2), 2), (87, .goto 13, 3), (90, .iload_n 2, 1), (91, .ifCond .ne 7, 3), (94, .iload_n 3, 1), (95, .goto 5, 3), (98, .iload 4, 2), (100, .ireturn, 1)]
set_option maxRecDepth 100000 in
theorem kd_Mo_byCore : ∀ q ∈ k_Mo_byCore, decode prog_13_method_51_code q.1 = .ok q.2 := by decide +kernel
def k_Mo_cores : List (Nat × Instr × Nat) := [(0, .iload_n 1, 1), (1, .invokestatic 149, 3), (4, .ifCond .ne 5, 3), (7, .iconst (-1), 1), (8, .ireturn, 1), (9, .aload_n 0, 1), (10, .invokevirtual 176, 3), (13, .iconst 0, 1), (14, .istore_n 2, 1), (15, .iload_n 2, 1), (16, .sipush 1024, 3), (19, .if_icmp .ge 16, 3), (22, .aload_n 0, 1), (23, .getfield 29, 3), (26, .iload_n 2, 1), (27, .iconst 0, 1), (28, .bastore, 1), (29, .iinc 2 1, 3), (32, .goto (-17), 3), (35, .iconst 0, 1), (36, .istore_n 2, 1), (37, .iconst 1, 1), (38, .istore_n 3, 1), (39, .iload_n 3, 1), (40, .iconst 1, 1), (41, .aload_n 0, 1), (42, .getfield 164, 3), (45, .ishl, 1), (46, .if_icmp .ge 56, 3), (49, .iload_n 3, 1), (50, .invokestatic 155, 3), (53, .iload_n 1, 1), (54, .if_icmp .eq 6, 3), (57, .goto 39, 3), (60, .aload_n 0, 1), (61, .iload_n 3, 1), (62, .invokevirtual 170, 3), (65, .istore 4, 2), (67, .iload 4, 2), (69, .ifCond .lt 27, 3), (72, .aload_n 0, 1), (73, .getfield 29, 3), (76, .iload 4, 2), (78, .baload, 1), (79, .ifCond .eq 6, 3), (82, .goto 14, 3), (85, .aload_n 0, 1), (86, .getfield 29, 3), (89, .iload 4, 2), (91, .iconst 1, 1), (92, .bastore, 1), (93, .iinc 2 1, 3), (96, .iinc 3 1, 3), (99, .goto (-60), 3), (102, .iload_n 2, 1), (103, .ireturn, 1)]
set_option maxRecDepth 100000 in
theorem kd_Mo_cores : ∀ q ∈ k_Mo_cores, decode prog_13_method_52_code q.1 = .ok q.2 := by decide +kernel
def k_Mo_most : List (Nat × Instr × Nat) := [(0, .iload_n 1, 1), (1, .invokestatic 149, 3), (4, .ifCond .eq 11, 3), (7, .aload_n 0, 1), (8, .iload_n 1, 1), (9, .invokevirtual 152, 3), (12, .goto 4, 3), (15, .iconst (-1), 1), (16, .ireturn, 1)]
set_option maxRecDepth 100000 in
theorem kd_Mo_most : ∀ q ∈ k_Mo_most, decode prog_13_method_54_code q.1 = .ok q.2 := by decide +kernel
def k_Mo_surplus : List (Nat × Instr × Nat) := [(0, .iload_n 1, 1), (1, .invokestatic 149, 3), (4, .ifCond .eq 19, 3), (7, .aload_n 0, 1), (8, .invokevirtual 75, 3), (11, .aload_n 0, 1), (12, .iload_n 1, 1), (13, .invokevirtual 152, 3), (16, .invokestatic 155, 3), (19, .isub, 1), (20, .goto 4, 3), (23, .iconst (-1), 1), (24, .ireturn, 1)]
set_option maxRecDepth 100000 in
theorem kd_Mo_surplus : ∀ q ∈ k_Mo_surplus, decode prog_13_method_55_code q.1 = .ok q.2 := by decide +kernel
def k_Mo_uneven : List (Nat × Instr × Nat) := [(0, .aload_n 0, 1), (1, .iload_n 1, 1), (2, .invokevirtual 173, 3), (5, .ifCond .ne 5, 3), (8, .iconst (-1), 1), (9, .ireturn, 1), (10, .aload_n 0, 1), (11, .invokevirtual 176, 3), (14, .aload_n 0, 1), (15, .iload_n 1, 1), (16, .invokevirtual 170, 3), (19, .ifCond .ge 6, 3), (22, .bipush (-2), 2), (24, .ireturn, 1), (25, .iconst 0, 1), (26, .istore_n 2, 1), (27, .iload_n 2, 1), (28, .aload_n 0, 1), (29, .invokevirtual 75, 3), (32, .if_icmp .ge 69, 3), (35, .iload_n 2, 1), (36, .iconst 1, 1), (37, .iadd, 1), (38, .istore_n 3, 1), (39, .iload_n 3, 1), (40, .aload_n 0, 1), (41, .invokevirtual 75, 3), (44, .if_icmp .ge 51, 3), (47, .iload_n 1, 1), (48, .iload_n 2, 1), (49, .invokestatic 119, 3), (52, .ifCond .eq 37, 3), (55, .iload_n 1, 1), (56, .iload_n 3, 1), (57, .invokestatic 119, 3), (60, .ifCond .eq 29, 3), (63, .aload_n 0, 1), (64, .iload_n 2, 1), (65, .invokevirtual 103, 3), (68, .invokestatic 155, 3), (71, .aload_n 0, 1), (72, .iload_n 3, 1), (73, .invokevirtual 103, 3), (76, .invokestatic 155, 3), (79, .if_icmp .eq 10, 3), (82, .bipush 100, 2), (84, .iload_n 2, 1), (85, .imul, 1), (86, .iload_n 3, 1), (87, .iadd, 1), (88, .ireturn, 1), (89, .iinc 3 1, 3), (92, .goto (-53), 3), (95, .iinc 2 1, 3), (98, .goto (-71), 3), (101, .bipush (-2), 2), (103, .ireturn, 1)]
set_option maxRecDepth 100000 in
theorem kd_Mo_uneven : ∀ q ∈ k_Mo_uneven, decode prog_13_method_56_code q.1 = .ok q.2 := by decide +kernel
def k_Mo_pairs : List (Nat × Instr × Nat) := [(0, .iload_n 1, 1), (1, .iconst 0, 1), (2, .bipush 10, 2), (4, .invokestatic 79, 3), (7, .ifCond .ne 5, 3), (10, .iconst (-1), 1), (11, .ireturn, 1), (12, .iconst 0, 1), (13, .istore_n 2, 1), (14, .iconst 0, 1), (15, .istore_n 3, 1), (16, .iload_n 3, 1), (17, .aload_n 0, 1), (18, .invokevirtual 75, 3), (21, .if_icmp .ge 46, 3), (24, .iconst 0, 1), (25, .istore 4, 2), (27, .iload 4, 2), (29, .iload_n 3, 1), (30, .if_icmp .ge 31, 3), (33, .aload_n 0, 1), (34, .iload_n 3, 1), (35, .invokevirtual 103, 3), (38, .aload_n 0, 1), (39, .iload 4, 2), (41, .invokevirtual 103, 3), (44, .iand, 1), (45, .invokestatic 155, 3), (48, .iload_n 1, 1), (49, .if_icmp .ne 6, 3), (52, .iinc 2 1, 3), (55, .iinc 4 1, 3), (58, .goto (-31), 3), (61, .iinc 3 1, 3), (64, .goto (-48), 3), (67, .iload_n 2, 1), (68, .ireturn, 1)]
set_option maxRecDepth 100000 in
theorem kd_Mo_pairs : ∀ q ∈ k_Mo_pairs, decode prog_13_method_57_code q.1 = .ok q.2 := by decide +kernel
def k_Mo_parts : List (Nat × Instr × Nat) := [(0, .aload_n 0, 1), (1, .invokevirtual 185, 3), (4, .istore_n 1, 1), (5, .iconst 0, 1), (6, .istore_n 2, 1), (7, .iload_n 1, 1), (8, .ifCond .eq 74, 3), (11, .iload_n 1, 1), (12, .iload_n 1, 1), (13, .ineg, 1), (14, .iand, 1), (15, .istore_n 3, 1), (16, .iconst 0, 1), (17, .istore 4, 2), (19, .iload 4, 2), (21, .bipush 16, 2), (23, .if_icmp .ge 47, 3), (26, .iconst 0, 1), (27, .istore 5, 2), (29, .iload 5, 2), (31, .aload_n 0, 1), (32, .invokevirtual 75, 3), (35, .if_icmp .ge 29, 3), (38, .aload_n 0, 1), (39, .iload 5, 2), (41, .invokevirtual 103, 3), (44, .iload_n 3, 1), (45, .iand, 1), (46, .ifCond .eq 12, 3), (49, .iload_n 3, 1), (50, .aload_n 0, 1), (51, .iload 5, 2), (53, .invokevirtual 103, 3), (56, .ior, 1), (57, .istore_n 3, 1), (58, .iinc 5 1, 3), (61, .goto (-32), 3), (64, .iinc 4 1, 3), (67, .goto (-48), 3), (70, .iload_n 1, 1), (71, .iload_n 3, 1), (72, .iconst (-1), 1), (73, .ixor, 1), (74, .iand, 1), (75, .istore_n 1, 1), (76, .iinc 2 1, 3), (79, .goto (-72), 3), (82, .iload_n 2, 1), (83, .ireturn, 1)]
set_option maxRecDepth 100000 in
theorem kd_Mo_parts : ∀ q ∈ k_Mo_parts, decode prog_13_method_59_code q.1 = .ok q.2 := by decide +kernel
def k_Mo_allHad : List (Nat × Instr × Nat) := [(0, .iconst 0, 1), (1, .istore_n 1, 1), (2, .iconst 0, 1), (3, .istore_n 2, 1), (4, .iload_n 2, 1), (5, .aload_n 0, 1), (6, .invokevirtual 75, 3), (9, .if_icmp .ge 17, 3), (12, .iload_n 1, 1), (13, .aload_n 0, 1), (14, .iload_n 2, 1), (15, .invokevirtual 103, 3), (18, .ior, 1), (19, .istore_n 1, 1), (20, .iinc 2 1, 3), (23, .goto (-19), 3), (26, .iload_n 1, 1), (27, .ireturn, 1)]
set_option maxRecDepth 100000 in
theorem kd_Mo_allHad : ∀ q ∈ k_Mo_allHad, decode prog_13_method_58_code q.1 = .ok q.2 := by decide +kernel
def k_Mo_ranked : List (Nat × Instr × Nat) := [(0, .iconst 0, 1), (1, .istore_n 2, 1), (2, .iload_n 2, 1), (3, .aload_n 0, 1), (4, .getfield 13, 3), (7, .iconst 0, 1), (8, .iaload, 1), (9, .if_icmp .ge 75, 3), (12, .iconst 0, 1), (13, .istore_n 3, 1), (14, .iconst 0, 1), (15, .istore 4, 2), (17, .iload 4, 2), (19, .aload_n 0, 1), (20, .getfield 13, 3), (23, .iconst 0, 1), (24, .iaload, 1), (25, .if_icmp .ge 46, 3), (28, .aload_n 0, 1), (29, .iload 4, 2), (31, .invokevirtual 130, 3), (34, .aload_n 0, 1), (35, .iload_n 2, 1), (36, .invokevirtual 130, 3), (39, .if_icmp .gt 23, 3), (42, .aload_n 0, 1), (43, .iload 4, 2), (45, .invokevirtual 130, 3), (48, .aload_n 0, 1), (49, .iload_n 2, 1), (50, .invokevirtual 130, 3), (53, .if_icmp .ne 12, 3), (56, .iload 4, 2), (58, .iload_n 2, 1), (59, .if_icmp .ge 6, 3), (62, .iinc 3 1, 3), (65, .iinc 4 1, 3), (68, .goto (-51), 3), (71, .iload_n 3, 1), (72, .iload_n 1, 1), (73, .if_icmp .ne 5, 3), (76, .iload_n 2, 1), (77, .ireturn, 1), (78, .iinc 2 1, 3), (81, .goto (-79), 3), (84, .iconst (-1), 1), (85, .ireturn, 1)]
set_option maxRecDepth 100000 in
theorem kd_Mo_ranked : ∀ q ∈ k_Mo_ranked, decode prog_13_method_60_code q.1 = .ok q.2 := by decide +kernel
def k_Mo_spread : List (Nat × Instr × Nat) := [(0, .iload_n 1, 1), (1, .iconst 1, 1), (2, .bipush 9, 2), (4, .invokestatic 79, 3), (7, .ifCond .eq 13, 3), (10, .iload_n 2, 1), (11, .iconst 1, 1), (12, .bipush 9, 2), (14, .invokestatic 79, 3), (17, .ifCond .ne 5, 3), (20, .iconst (-1), 1), (21, .ireturn, 1), (22, .aload_n 0, 1), (23, .iload_n 1, 1), (24, .iload_n 2, 1), (25, .invokevirtual 192, 3), (28, .istore_n 3, 1), (29, .iload_n 3, 1), (30, .ifCond .ne 7, 3), (33, .iconst 1, 1), (34, .goto 7, 3), (37, .bipush (-100), 2), (39, .iload_n 3, 1), (40, .isub, 1), (41, .ireturn, 1)]
set_option maxRecDepth 100000 in
theorem kd_Mo_spread : ∀ q ∈ k_Mo_spread, decode prog_13_method_63_code q.1 = .ok q.2 := by decide +kernel
def k_Mo_firstDense : List (Nat × Instr × Nat) := [(0, .iconst 1, 1), (1, .istore_n 3, 1), (2, .iload_n 3, 1), (3, .aload_n 0, 1), (4, .getfield 13, 3), (7, .iconst 0, 1), (8, .iaload, 1), (9, .if_icmp .gt 70, 3), (12, .iconst 1, 1), (13, .istore 4, 2), (15, .iload 4, 2), (17, .aload_n 0, 1), (18, .invokevirtual 83, 3), (21, .if_icmp .gt 52, 3), (24, .iload 4, 2), (26, .invokestatic 155, 3), (29, .iload_n 3, 1), (30, .if_icmp .ne 37, 3), (33, .aload_n 0, 1), (34, .iload 4, 2), (36, .invokevirtual 161, 3), (39, .invokestatic 155, 3), (42, .i2l, 1), (43, .iload_n 1, 1), (44, .iload_n 3, 1), (45, .invokestatic 188, 3), (48, .lmul, 1), (49, .aload_n 0, 1), (50, .invokevirtual 75, 3), (53, .i2l, 1), (54, .iload_n 2, 1), (55, .iload_n 3, 1), (56, .invokestatic 188, 3), (59, .lmul, 1), (60, .lcmp, 1), (61, .ifCond .le 6, 3), (64, .iload 4, 2), (66, .ireturn, 1), (67, .iinc 4 1, 3), (70, .goto (-55), 3), (73, .iinc 3 1, 3), (76, .goto (-74), 3), (79, .iconst 0, 1), (80, .ireturn, 1)]
set_option maxRecDepth 100000 in
theorem kd_Mo_firstDense : ∀ q ∈ k_Mo_firstDense, decode prog_13_method_62_code q.1 = .ok q.2 := by decide +kernel
def k_Mo_power : List (Nat × Instr × Nat) := [(0, .lconst 1, 1), (1, .lstore_n 2, 1), (2, .iconst 0, 1), (3, .istore 4, 2), (5, .iload 4, 2), (7, .iload_n 1, 1), (8, .if_icmp .ge 14, 3), (11, .lload_n 2, 1), (12, .iload_n 0, 1), (13, .i2l, 1), (14, .lmul, 1), (15, .lstore_n 2, 1), (16, .iinc 4 1, 3), (19, .goto (-14), 3), (22, .lload_n 2, 1), (23, .lreturn, 1)]
set_option maxRecDepth 100000 in
theorem kd_Mo_power : ∀ q ∈ k_Mo_power, decode prog_13_method_61_code q.1 = .ok q.2 := by decide +kernel
def k_Mo_spreadest : List (Nat × Instr × Nat) := [(0, .aload_n 0, 1), (1, .invokevirtual 75, 3), (4, .ifCond .ne 6, 3), (7, .bipush (-2), 2), (9, .ireturn, 1), (10, .bipush 9, 2), (12, .istore_n 1, 1), (13, .iload_n 1, 1), (14, .ifCond .le 18, 3), (17, .aload_n 0, 1), (18, .iload_n 1, 1), (19, .iconst 1, 1), (20, .invokevirtual 192, 3), (23, .ifCond .eq 9, 3), (26, .iinc 1 (-1), 3), (29, .goto (-16), 3), (32, .iload_n 1, 1), (33, .ifCond .ne 8, 3), (36, .bipush (-2), 2), (38, .goto 4, 3), (41, .iload_n 1, 1), (42, .ireturn, 1)]
set_option maxRecDepth 100000 in
theorem kd_Mo_spreadest : ∀ q ∈ k_Mo_spreadest, decode prog_13_method_64_code q.1 = .ok q.2 := by decide +kernel
def k_Mo_bound : List (Nat × Instr × Nat) := [(0, .iload_n 1, 1), (1, .iconst 1, 1), (2, .bipush 10, 2), (4, .invokestatic 79, 3), (7, .ifCond .eq 10, 3), (10, .iload_n 2, 1), (11, .invokestatic 149, 3), (14, .ifCond .ne 5, 3), (17, .iconst (-1), 1), (18, .ireturn, 1), (19, .lconst 1, 1), (20, .lstore_n 3, 1), (21, .iconst 1, 1), (22, .istore 5, 2), (24, .iload 5, 2), (26, .iload_n 1, 1), (27, .if_icmp .gt 31, 3), (30, .lload_n 3, 1), (31, .iload 5, 2), (33, .iload_n 2, 1), (34, .iconst 1, 1), (35, .isub, 1), (36, .imul, 1), (37, .i2l, 1), (38, .lmul, 1), (39, .lstore_n 3, 1), (40, .lload_n 3, 1), (41, .ldc2_w 196, 3), (44, .lcmp, 1), (45, .ifCond .le 7, 3), (48, .ldc2_w 196, 3), (51, .lstore_n 3, 1), (52, .iinc 5 1, 3), (55, .goto (-31), 3), (58, .lload_n 3, 1), (59, .l2i, 1), (60, .ireturn, 1)]
set_option maxRecDepth 100000 in
theorem kd_Mo_bound : ∀ q ∈ k_Mo_bound, decode prog_13_method_65_code q.1 = .ok q.2 := by decide +kernel
def k_Mo_sized : List (Nat × Instr × Nat) := [(0, .iload_n 1, 1), (1, .iconst 0, 1), (2, .bipush 10, 2), (4, .invokestatic 79, 3), (7, .ifCond .eq 11, 3), (10, .aload_n 0, 1), (11, .iload_n 1, 1), (12, .invokevirtual 198, 3), (15, .goto 4, 3), (18, .iconst (-1), 1), (19, .ireturn, 1)]
set_option maxRecDepth 100000 in
theorem kd_Mo_sized : ∀ q ∈ k_Mo_sized, decode prog_13_method_67_code q.1 = .ok q.2 := by decide +kernel
def k_Mo_sizedMany : List (Nat × Instr × Nat) := [(0, .iconst 0, 1), (1, .istore_n 2, 1), (2, .iconst 0, 1), (3, .istore_n 3, 1), (4, .iload_n 3, 1), (5, .aload_n 0, 1), (6, .invokevirtual 75, 3), (9, .if_icmp .ge 24, 3), (12, .aload_n 0, 1), (13, .iload_n 3, 1), (14, .invokevirtual 103, 3), (17, .invokestatic 155, 3), (20, .iload_n 1, 1), (21, .if_icmp .ne 6, 3), (24, .iinc 2 1, 3), (27, .iinc 3 1, 3), (30, .goto (-26), 3), (33, .iload_n 2, 1), (34, .ireturn, 1)]
set_option maxRecDepth 100000 in
theorem kd_Mo_sizedMany : ∀ q ∈ k_Mo_sizedMany, decode prog_13_method_66_code q.1 = .ok q.2 := by decide +kernel
def k_Mo_hits : List (Nat × Instr × Nat) := [(0, .aload_n 0, 1), (1, .iload_n 1, 1), (2, .invokevirtual 90, 3), (5, .ifCond .eq 19, 3), (8, .aload_n 0, 1), (9, .iload_n 1, 1), (10, .invokevirtual 201, 3), (13, .ifCond .ne 7, 3), (16, .iconst 1, 1), (17, .goto 8, 3), (20, .iconst 0, 1), (21, .goto 4, 3), (24, .iconst (-1), 1), (25, .ireturn, 1)]
set_option maxRecDepth 100000 in
theorem kd_Mo_hits : ∀ q ∈ k_Mo_hits, decode prog_13_method_69_code q.1 = .ok q.2 := by decide +kernel
def k_Mo_missedBy : List (Nat × Instr × Nat) := [(0, .iconst 0, 1), (1, .istore_n 2, 1), (2, .iconst 0, 1), (3, .istore_n 3, 1), (4, .iload_n 3, 1), (5, .aload_n 0, 1), (6, .invokevirtual 75, 3), (9, .if_icmp .ge 25, 3), (12, .aload_n 0, 1), (13, .iload_n 3, 1), (14, .invokevirtual 103, 3), (17, .iload_n 1, 1), (18, .iand, 1), (19, .ifCond .ne 9, 3), (22, .iload_n 2, 1), (23, .iconst 1, 1), (24, .iload_n 3, 1), (25, .ishl, 1), (26, .ior, 1), (27, .istore_n 2, 1), (28, .iinc 3 1, 3), (31, .goto (-27), 3), (34, .iload_n 2, 1), (35, .ireturn, 1)]
set_option maxRecDepth 100000 in
theorem kd_Mo_missedBy : ∀ q ∈ k_Mo_missedBy, decode prog_13_method_68_code q.1 = .ok q.2 := by decide +kernel
def k_Mo_missed : List (Nat × Instr × Nat) := [(0, .aload_n 0, 1), (1, .iload_n 1, 1), (2, .invokevirtual 90, 3), (5, .ifCond .eq 11, 3), (8, .aload_n 0, 1), (9, .iload_n 1, 1), (10, .invokevirtual 201, 3), (13, .goto 4, 3), (16, .iconst (-1), 1), (17, .ireturn, 1)]
set_option maxRecDepth 100000 in
theorem kd_Mo_missed : ∀ q ∈ k_Mo_missed, decode prog_13_method_70_code q.1 = .ok q.2 := by decide +kernel
def k_Mo_hitter : List (Nat × Instr × Nat) := [(0, .iload_n 1, 1), (1, .iconst 0, 1), (2, .iconst 3, 1), (3, .invokestatic 79, 3), (6, .ifCond .ne 5, 3), (9, .iconst (-1), 1), (10, .ireturn, 1), (11, .aload_n 0, 1), (12, .invokevirtual 204, 3), (15, .istore_n 2, 1), (16, .iconst 0, 1), (17, .istore_n 3, 1), (18, .iconst 0, 1), (19, .istore 4, 2), (21, .aload_n 0, 1), (22, .invokevirtual 83, 3), (25, .istore 5, 2), (27, .aload_n 0, 1), (28, .invokevirtual 83, 3), (31, .istore 6, 2), (33, .iload 6, 2), (35, .ifCond .lt 44, 3), (38, .iload 6, 2), (40, .invokestatic 155, 3), (43, .iload_n 2, 1), (44, .if_icmp .ne 29, 3), (47, .aload_n 0, 1), (48, .iload 6, 2), (50, .invokevirtual 201, 3), (53, .ifCond .eq 6, 3), (56, .goto 17, 3), (59, .iinc 3 1, 3), (62, .iload 6, 2), (64, .istore 4, 2), (66, .iload 5, 2), (68, .iload 6, 2), (70, .iand, 1), (71, .istore 5, 2), (73, .iinc 6 (-1), 3), (76, .goto (-43), 3), (79, .iload_n 1, 1), (80, .ifCond .ne 7, 3), (83, .iload_n 2, 1), (84, .goto 24, 3), (87, .iload_n 1, 1), (88, .iconst 1, 1), (89, .if_icmp .ne 8, 3), (92, .iload 4, 2), (94, .goto 14, 3), (97, .iload_n 1, 1), (98, .iconst 2, 1), (99, .if_icmp .ne 7, 3), (102, .iload_n 3, 1), (103, .goto 5, 3), (106, .iload 5, 2), (108, .ireturn, 1)]
set_option maxRecDepth 100000 in
theorem kd_Mo_hitter : ∀ q ∈ k_Mo_hitter, decode prog_13_method_72_code q.1 = .ok q.2 := by decide +kernel
def k_Mo_fewestToHit : List (Nat × Instr × Nat) := [(0, .aload_n 0, 1), (1, .getfield 13, 3), (4, .iconst 0, 1), (5, .iaload, 1), (6, .istore_n 1, 1), (7, .iconst 0, 1), (8, .istore_n 2, 1), (9, .iload_n 2, 1), (10, .aload_n 0, 1), (11, .invokevirtual 83, 3), (14, .if_icmp .gt 30, 3), (17, .iload_n 2, 1), (18, .invokestatic 155, 3), (21, .iload_n 1, 1), (22, .if_icmp .ge 16, 3), (25, .aload_n 0, 1), (26, .iload_n 2, 1), (27, .invokevirtual 201, 3), (30, .ifCond .ne 8, 3), (33, .iload_n 2, 1), (34, .invokestatic 155, 3), (37, .istore_n 1, 1), (38, .iinc 2 1, 3), (41, .goto (-32), 3), (44, .iload_n 1, 1), (45, .ireturn, 1)]
set_option maxRecDepth 100000 in
theorem kd_Mo_fewestToHit : ∀ q ∈ k_Mo_fewestToHit, decode prog_13_method_71_code q.1 = .ok q.2 := by decide +kernel
def k_Mo_tight : List (Nat × Instr × Nat) := [(0, .iload_n 1, 1), (1, .iconst (-1), 1), (2, .if_icmp .ge 5, 3), (5, .iconst (-1), 1), (6, .ireturn, 1), (7, .iconst 0, 1), (8, .istore_n 2, 1), (9, .iconst 0, 1), (10, .istore_n 3, 1), (11, .iload_n 3, 1), (12, .aload_n 0, 1), (13, .invokevirtual 83, 3), (16, .if_icmp .gt 30, 3), (19, .aload_n 0, 1), (20, .iload_n 3, 1), (21, .invokevirtual 207, 3), (24, .ifCond .ne 6, 3), (27, .goto 13, 3), (30, .iload_n 2, 1), (31, .iload_n 1, 1), (32, .if_icmp .ne 5, 3), (35, .iload_n 3, 1), (36, .ireturn, 1), (37, .iinc 2 1, 3), (40, .iinc 3 1, 3), (43, .goto (-32), 3), (46, .iload_n 1, 1), (47, .iconst (-1), 1), (48, .if_icmp .ne 7, 3), (51, .iload_n 2, 1), (52, .goto 5, 3), (55, .bipush (-2), 2), (57, .ireturn, 1)]
set_option maxRecDepth 100000 in
theorem kd_Mo_tight : ∀ q ∈ k_Mo_tight, decode prog_13_method_74_code q.1 = .ok q.2 := by decide +kernel
def k_Mo_isTight : List (Nat × Instr × Nat) := [(0, .aload_n 0, 1), (1, .iload_n 1, 1), (2, .invokevirtual 201, 3), (5, .ifCond .eq 5, 3), (8, .iconst 0, 1), (9, .ireturn, 1), (10, .iconst 0, 1), (11, .istore_n 2, 1), (12, .iload_n 2, 1), (13, .aload_n 0, 1), (14, .getfield 13, 3), (17, .iconst 0, 1), (18, .iaload, 1), (19, .if_icmp .ge 31, 3), (22, .iload_n 1, 1), (23, .iload_n 2, 1), (24, .invokestatic 119, 3), (27, .ifCond .eq 17, 3), (30, .aload_n 0, 1), (31, .iload_n 1, 1), (32, .iconst 1, 1), (33, .iload_n 2, 1), (34, .ishl, 1), (35, .ixor, 1), (36, .invokevirtual 201, 3), (39, .ifCond .ne 5, 3), (42, .iconst 0, 1), (43, .ireturn, 1), (44, .iinc 2 1, 3), (47, .goto (-35), 3), (50, .iconst 1, 1), (51, .ireturn, 1)]
set_option maxRecDepth 100000 in
theorem kd_Mo_isTight : ∀ q ∈ k_Mo_isTight, decode prog_13_method_73_code q.1 = .ok q.2 := by decide +kernel
def k_Mo_greedy : List (Nat × Instr × Nat) := [(0, .iload_n 1, 1), (1, .iconst 0, 1), (2, .iconst 2, 1), (3, .invokestatic 79, 3), (6, .ifCond .ne 5, 3), (9, .iconst (-1), 1), (10, .ireturn, 1), (11, .iconst 0, 1), (12, .istore_n 2, 1), (13, .bipush (-2), 2), (15, .istore_n 3, 1), (16, .aload_n 0, 1), (17, .iload_n 2, 1), (18, .invokevirtual 201, 3), (21, .ifCond .eq 90, 3), (24, .iconst (-1), 1), (25, .istore 4, 2), (27, .iconst 0, 1), (28, .istore 5, 2), (30, .iconst 0, 1), (31, .istore 6, 2), (33, .iload 6, 2), (35, .aload_n 0, 1), (36, .getfield 13, 3), (39, .iconst 0, 1), (40, .iaload, 1), (41, .if_icmp .ge 51, 3), (44, .aload_n 0, 1), (45, .iload_n 2, 1), (46, .invokevirtual 201, 3), (49, .invokestatic 155, 3), (52, .aload_n 0, 1), (53, .iload_n 2, 1), (54, .iconst 1, 1), (55, .iload 6, 2), (57, .ishl, 1), (58, .ior, 1), (59, .invokevirtual 201, 3), (62, .invokestatic 155, 3), (65, .isub, 1), (66, .istore 7, 2), (68, .iload 7, 2), (70, .iload 5, 2), (72, .if_icmp .gt 6, 3), (75, .goto 11, 3), (78, .iload 7, 2), (80, .istore 5, 2), (82, .iload 6, 2), (84, .istore 4, 2), (86, .iinc 6 1, 3), (89, .goto (-56), 3), (92, .iload_n 2, 1), (93, .iconst 1, 1), (94, .iload 4, 2), (96, .ishl, 1), (97, .ior, 1), (98, .istore_n 2, 1), (99, .iload_n 3, 1), (100, .bipush (-2), 2), (102, .if_icmp .ne 6, 3), (105, .iload 4, 2), (107, .istore_n 3, 1), (108, .goto (-92), 3), (111, .iload_n 1, 1), (112, .ifCond .ne 10, 3), (115, .iload_n 2, 1), (116, .invokestatic 155, 3), (119, .goto 13, 3), (122, .iload_n 1, 1), (123, .iconst 1, 1), (124, .if_icmp .ne 7, 3), (127, .iload_n 2, 1), (128, .goto 4, 3), (131, .iload_n 3, 1), (132, .ireturn, 1)]
set_option maxRecDepth 100000 in
theorem kd_Mo_greedy : ∀ q ∈ k_Mo_greedy, decode prog_13_method_75_code q.1 = .ok q.2 := by decide +kernel
def k_Mo_apart : List (Nat × Instr × Nat) := [(0, .iload_n 1, 1), (1, .iconst 0, 1), (2, .iconst 1, 1), (3, .invokestatic 79, 3), (6, .ifCond .ne 5, 3), (9, .iconst (-1), 1), (10, .ireturn, 1), (11, .iconst 0, 1), (12, .istore_n 2, 1), (13, .iconst 1, 1), (14, .istore_n 3, 1), (15, .iload_n 3, 1), (16, .iconst 1, 1), (17, .aload_n 0, 1), (18, .invokevirtual 75, 3), (21, .ishl, 1), (22, .if_icmp .ge 30, 3), (25, .iload_n 3, 1), (26, .invokestatic 155, 3), (29, .iload_n 2, 1), (30, .invokestatic 155, 3), (33, .if_icmp .le 13, 3), (36, .aload_n 0, 1), (37, .iload_n 3, 1), (38, .invokevirtual 210, 3), (41, .ifCond .lt 5, 3), (44, .iload_n 3, 1), (45, .istore_n 2, 1), (46, .iinc 3 1, 3), (49, .goto (-34), 3), (52, .iload_n 1, 1), (53, .ifCond .ne 10, 3), (56, .iload_n 2, 1), (57, .invokestatic 155, 3), (60, .goto 4, 3), (63, .iload_n 2, 1), (64, .ireturn, 1)]
set_option maxRecDepth 100000 in
theorem kd_Mo_apart : ∀ q ∈ k_Mo_apart, decode prog_13_method_77_code q.1 = .ok q.2 := by decide +kernel
def k_Mo_unionApart : List (Nat × Instr × Nat) := [(0, .iconst 0, 1), (1, .istore_n 2, 1), (2, .iconst 0, 1), (3, .istore_n 3, 1), (4, .iload_n 3, 1), (5, .aload_n 0, 1), (6, .invokevirtual 75, 3), (9, .if_icmp .ge 40, 3), (12, .iload_n 1, 1), (13, .iload_n 3, 1), (14, .invokestatic 119, 3), (17, .ifCond .ne 6, 3), (20, .goto 23, 3), (23, .iload_n 2, 1), (24, .aload_n 0, 1), (25, .iload_n 3, 1), (26, .invokevirtual 103, 3), (29, .iand, 1), (30, .ifCond .eq 5, 3), (33, .iconst (-1), 1), (34, .ireturn, 1), (35, .iload_n 2, 1), (36, .aload_n 0, 1), (37, .iload_n 3, 1), (38, .invokevirtual 103, 3), (41, .ior, 1), (42, .istore_n 2, 1), (43, .iinc 3 1, 3), (46, .goto (-42), 3), (49, .iload_n 2, 1), (50, .ireturn, 1)]
set_option maxRecDepth 100000 in
theorem kd_Mo_unionApart : ∀ q ∈ k_Mo_unionApart, decode prog_13_method_76_code q.1 = .ok q.2 := by decide +kernel
def k_Mo_exact : List (Nat × Instr × Nat) := [(0, .iload_n 1, 1), (1, .iconst 0, 1), (2, .iconst 1, 1), (3, .invokestatic 79, 3), (6, .ifCond .ne 5, 3), (9, .iconst (-1), 1), (10, .ireturn, 1), (11, .aload_n 0, 1), (12, .invokevirtual 185, 3), (15, .istore_n 2, 1), (16, .iconst 0, 1), (17, .istore_n 3, 1), (18, .bipush (-2), 2), (20, .istore 4, 2), (22, .iconst 0, 1), (23, .istore 5, 2), (25, .iload 5, 2), (27, .iconst 1, 1), (28, .aload_n 0, 1), (29, .invokevirtual 75, 3), (32, .ishl, 1), (33, .if_icmp .ge 36, 3), (36, .aload_n 0, 1), (37, .iload 5, 2), (39, .invokevirtual 210, 3), (42, .iload_n 2, 1), (43, .if_icmp .eq 6, 3), (46, .goto 17, 3), (49, .iinc 3 1, 3), (52, .iload 4, 2), (54, .bipush (-2), 2), (56, .if_icmp .ne 7, 3), (59, .iload 5, 2), (61, .istore 4, 2), (63, .iinc 5 1, 3), (66, .goto (-41), 3), (69, .iload_n 1, 1), (70, .ifCond .ne 7, 3), (73, .iload_n 3, 1), (74, .goto 5, 3), (77, .iload 4, 2), (79, .ireturn, 1)]
set_option maxRecDepth 100000 in
theorem kd_Mo_exact : ∀ q ∈ k_Mo_exact, decode prog_13_method_78_code q.1 = .ok q.2 := by decide +kernel
def k_Mo_halves : List (Nat × Instr × Nat) := [(0, .iload_n 1, 1), (1, .iconst 0, 1), (2, .iconst 1, 1), (3, .invokestatic 79, 3), (6, .ifCond .ne 5, 3), (9, .iconst (-1), 1), (10, .ireturn, 1), (11, .iconst 0, 1), (12, .istore_n 2, 1), (13, .bipush (-2), 2), (15, .istore_n 3, 1), (16, .iconst 0, 1), (17, .istore 4, 2), (19, .iload 4, 2), (21, .aload_n 0, 1), (22, .invokevirtual 83, 3), (25, .if_icmp .gt 33, 3), (28, .aload_n 0, 1), (29, .iload 4, 2), (31, .invokevirtual 213, 3), (34, .ifCond .ne 6, 3), (37, .goto 15, 3), (40, .iinc 2 1, 3), (43, .iload_n 3, 1), (44, .bipush (-2), 2), (46, .if_icmp .ne 6, 3), (49, .iload 4, 2), (51, .istore_n 3, 1), (52, .iinc 4 1, 3), (55, .goto (-36), 3), (58, .iload_n 1, 1), (59, .ifCond .ne 7, 3), (62, .iload_n 2, 1), (63, .goto 4, 3), (66, .iload_n 3, 1), (67, .ireturn, 1)]
set_option maxRecDepth 100000 in
theorem kd_Mo_halves : ∀ q ∈ k_Mo_halves, decode prog_13_method_80_code q.1 = .ok q.2 := by decide +kernel
def k_Mo_halvesAll : List (Nat × Instr × Nat) := [(0, .iconst 0, 1), (1, .istore_n 2, 1), (2, .iload_n 2, 1), (3, .aload_n 0, 1), (4, .invokevirtual 75, 3), (7, .if_icmp .ge 44, 3), (10, .aload_n 0, 1), (11, .iload_n 2, 1), (12, .invokevirtual 103, 3), (15, .iload_n 1, 1), (16, .iand, 1), (17, .istore_n 3, 1), (18, .aload_n 0, 1), (19, .iload_n 2, 1), (20, .invokevirtual 103, 3), (23, .invokestatic 155, 3), (26, .iconst 1, 1), (27, .if_icmp .le 18, 3), (30, .iload_n 3, 1), (31, .ifCond .eq 12, 3), (34, .iload_n 3, 1), (35, .aload_n 0, 1), (36, .iload_n 2, 1), (37, .invokevirtual 103, 3), (40, .if_icmp .ne 5, 3), (43, .iconst 0, 1), (44, .ireturn, 1), (45, .iinc 2 1, 3), (48, .goto (-46), 3), (51, .iconst 1, 1), (52, .ireturn, 1)]
set_option maxRecDepth 100000 in
theorem kd_Mo_halvesAll : ∀ q ∈ k_Mo_halvesAll, decode prog_13_method_79_code q.1 = .ok q.2 := by decide +kernel
def k_Mo_kernel : List (Nat × Instr × Nat) := [(0, .iload_n 1, 1), (1, .invokestatic 133, 3), (4, .ifCond .eq 12, 3), (7, .iload_n 2, 1), (8, .iconst 0, 1), (9, .iconst 4, 1), (10, .invokestatic 79, 3), (13, .ifCond .ne 5, 3), (16, .iconst (-1), 1), (17, .ireturn, 1), (18, .aload_n 0, 1), (19, .iload_n 1, 1), (20, .invokevirtual 136, 3), (23, .iload_n 2, 1), (24, .iconst 1, 1), (25, .if_icmp .ne 8, 3), (28, .aload_n 0, 1), (29, .getfield 143, 3), (32, .ireturn, 1), (33, .iload_n 2, 1), (34, .iconst 2, 1), (35, .if_icmp .eq 8, 3), (38, .iload_n 2, 1), (39, .iconst 3, 1), (40, .if_icmp .ne 11, 3), (43, .aload_n 0, 1), (44, .iload_n 2, 1), (45, .iconst 2, 1), (46, .isub, 1), (47, .invokevirtual 223, 3), (50, .ireturn, 1), (51, .aload_n 0, 1), (52, .getfield 139, 3), (55, .ifCond .eq 6, 3), (58, .bipush (-2), 2), (60, .ireturn, 1), (61, .iload_n 2, 1), (62, .ifCond .ne 8, 3), (65, .aload_n 0, 1), (66, .getfield 146, 3), (69, .ireturn, 1), (70, .iconst 0, 1), (71, .istore_n 3, 1), (72, .iconst 0, 1), (73, .istore 4, 2), (75, .iload 4, 2), (77, .aload_n 0, 1), (78, .getfield 146, 3), (81, .if_icmp .ge 19, 3), (84, .iload_n 3, 1), (85, .aload_n 0, 1), (86, .getfield 37, 3), (89, .iload 4, 2), (91, .iaload, 1), (92, .ior, 1), (93, .istore_n 3, 1), (94, .iinc 4 1, 3), (97, .goto (-22), 3), (100, .iload_n 3, 1), (101, .ireturn, 1)]
set_option maxRecDepth 100000 in
theorem kd_Mo_kernel : ∀ q ∈ k_Mo_kernel, decode prog_13_method_85_code q.1 = .ok q.2 := by decide +kernel
def k_Mo_stepsOf : List (Nat × Instr × Nat) := [(0, .iconst 0, 1), (1, .istore_n 2, 1), (2, .iconst 0, 1), (3, .istore_n 3, 1), (4, .iload_n 3, 1), (5, .aload_n 0, 1), (6, .getfield 143, 3), (9, .if_icmp .ge 22, 3), (12, .aload_n 0, 1), (13, .getfield 40, 3), (16, .iload_n 3, 1), (17, .iaload, 1), (18, .iload_n 1, 1), (19, .if_icmp .ne 6, 3), (22, .iinc 2 1, 3), (25, .iinc 3 1, 3), (28, .goto (-24), 3), (31, .iload_n 2, 1), (32, .ireturn, 1)]
set_option maxRecDepth 100000 in
theorem kd_Mo_stepsOf : ∀ q ∈ k_Mo_stepsOf, decode prog_13_method_84_code q.1 = .ok q.2 := by decide +kernel
def k_Mo_kernelSet : List (Nat × Instr × Nat) := [(0, .iload_n 1, 1), (1, .invokestatic 133, 3), (4, .ifCond .eq 7, 3), (7, .iload_n 2, 1), (8, .ifCond .ge 5, 3), (11, .iconst (-1), 1), (12, .ireturn, 1), (13, .aload_n 0, 1), (14, .iload_n 1, 1), (15, .invokevirtual 136, 3), (18, .aload_n 0, 1), (19, .getfield 139, 3), (22, .ifCond .eq 6, 3), (25, .bipush (-2), 2), (27, .ireturn, 1), (28, .iload_n 2, 1), (29, .aload_n 0, 1), (30, .getfield 146, 3), (33, .if_icmp .ge 12, 3), (36, .aload_n 0, 1), (37, .getfield 37, 3), (40, .iload_n 2, 1), (41, .iaload, 1), (42, .goto 4, 3), (45, .iconst (-1), 1), (46, .ireturn, 1)]
set_option maxRecDepth 100000 in
theorem kd_Mo_kernelSet : ∀ q ∈ k_Mo_kernelSet, decode prog_13_method_86_code q.1 = .ok q.2 := by decide +kernel
def k_Mo_step : List (Nat × Instr × Nat) := [(0, .iload_n 1, 1), (1, .invokestatic 133, 3), (4, .ifCond .eq 16, 3), (7, .iload_n 2, 1), (8, .ifCond .lt 12, 3), (11, .iload_n 3, 1), (12, .iconst 0, 1), (13, .iconst 3, 1), (14, .invokestatic 79, 3), (17, .ifCond .ne 5, 3), (20, .iconst (-1), 1), (21, .ireturn, 1), (22, .aload_n 0, 1), (23, .iload_n 1, 1), (24, .invokevirtual 136, 3), (27, .iload_n 2, 1), (28, .aload_n 0, 1), (29, .getfield 143, 3), (32, .if_icmp .lt 5, 3), (35, .iconst (-1), 1), (36, .ireturn, 1), (37, .iload_n 3, 1), (38, .ifCond .ne 12, 3), (41, .aload_n 0, 1), (42, .getfield 40, 3), (45, .iload_n 2, 1), (46, .iaload, 1), (47, .goto 37, 3), (50, .iload_n 3, 1), (51, .iconst 1, 1), (52, .if_icmp .ne 12, 3), (55, .aload_n 0, 1), (56, .getfield 43, 3), (59, .iload_n 2, 1), (60, .iaload, 1), (61, .goto 23, 3), (64, .iload_n 3, 1), (65, .iconst 2, 1), (66, .if_icmp .ne 12, 3), (69, .aload_n 0, 1), (70, .getfield 46, 3), (73, .iload_n 2, 1), (74, .iaload, 1), (75, .goto 9, 3), (78, .aload_n 0, 1), (79, .getfield 49, 3), (82, .iload_n 2, 1), (83, .iaload, 1), (84, .ireturn, 1)]
set_option maxRecDepth 100000 in
theorem kd_Mo_step : ∀ q ∈ k_Mo_step, decode prog_13_method_87_code q.1 = .ok q.2 := by decide +kernel
def k_Mo_can : List (Nat × Instr × Nat) := [(0, .iload_n 1, 1), (1, .iconst 0, 1), (2, .bipush 10, 2), (4, .invokestatic 79, 3), (7, .ifCond .eq 19, 3), (10, .aload_n 0, 1), (11, .invokevirtual 204, 3), (14, .iload_n 1, 1), (15, .if_icmp .gt 7, 3), (18, .iconst 1, 1), (19, .goto 8, 3), (22, .iconst 0, 1), (23, .goto 4, 3), (26, .iconst (-1), 1), (27, .ireturn, 1)]
set_option maxRecDepth 100000 in
theorem kd_Mo_can : ∀ q ∈ k_Mo_can, decode prog_13_method_88_code q.1 = .ok q.2 := by decide +kernel
def k_Mo_link : List (Nat × Instr × Nat) := [(0, .aload_n 0, 1), (1, .iload_n 1, 1), (2, .invokevirtual 90, 3), (5, .ifCond .eq 12, 3), (8, .iload_n 2, 1), (9, .iconst 0, 1), (10, .iconst 1, 1), (11, .invokestatic 79, 3), (14, .ifCond .ne 5, 3), (17, .iconst (-1), 1), (18, .ireturn, 1), (19, .aload_n 0, 1), (20, .iconst 0, 1), (21, .putfield 164, 3), (24, .iconst 0, 1), (25, .istore_n 3, 1), (26, .iload_n 3, 1), (27, .aload_n 0, 1), (28, .invokevirtual 75, 3), (31, .if_icmp .ge 43, 3), (34, .iload_n 1, 1), (35, .aload_n 0, 1), (36, .iload_n 3, 1), (37, .invokevirtual 103, 3), (40, .invokestatic 158, 3), (43, .ifCond .eq 25, 3), (46, .aload_n 0, 1), (47, .iload_n 3, 1), (48, .invokevirtual 103, 3), (51, .iload_n 1, 1), (52, .if_icmp .eq 16, 3), (55, .aload_n 0, 1), (56, .aload_n 0, 1), (57, .iload_n 3, 1), (58, .invokevirtual 103, 3), (61, .iload_n 1, 1), (62, .iconst (-1), 1), (63, .ixor, 1), (64, .iand, 1), (65, .invokevirtual 226, 3), (68, .iinc 3 1, 3), (71, .goto (-45), 3), (74, .iload_n 2, 1), (75, .ifCond .ne 10, 3), (78, .aload_n 0, 1), (79, .getfield 164, 3), (82, .goto 7, 3), (85, .aload_n 0, 1), (86, .invokevirtual 229, 3), (89, .ireturn, 1)]
set_option maxRecDepth 100000 in
theorem kd_Mo_link : ∀ q ∈ k_Mo_link, decode prog_13_method_90_code q.1 = .ok q.2 := by decide +kernel
def k_Mo_laysOne : List (Nat × Instr × Nat) := [(0, .aload_n 0, 1), (1, .getfield 26, 3), (4, .aload_n 0, 1), (5, .getfield 164, 3), (8, .iload_n 1, 1), (9, .iastore, 1), (10, .aload_n 0, 1), (11, .dup, 1), (12, .getfield 164, 3), (15, .iconst 1, 1), (16, .iadd, 1), (17, .putfield 164, 3), (20, .return_, 1)]
set_option maxRecDepth 100000 in
theorem kd_Mo_laysOne : ∀ q ∈ k_Mo_laysOne, decode prog_13_method_42_code q.1 = .ok q.2 := by decide +kernel
def k_Mo_greatestOfRow : List (Nat × Instr × Nat) := [(0, .aload_n 0, 1), (1, .getfield 164, 3), (4, .iconst 2, 1), (5, .if_icmp .ge 8, 3), (8, .bipush (-2), 2), (10, .goto 7, 3), (13, .aload_n 0, 1), (14, .invokevirtual 179, 3), (17, .ireturn, 1)]
set_option maxRecDepth 100000 in
theorem kd_Mo_greatestOfRow : ∀ q ∈ k_Mo_greatestOfRow, decode prog_13_method_89_code q.1 = .ok q.2 := by decide +kernel
def k_Mo_withSet : List (Nat × Instr × Nat) := [(0, .aload_n 0, 1), (1, .iload_n 1, 1), (2, .invokevirtual 90, 3), (5, .ifCond .eq 7, 3), (8, .iload_n 1, 1), (9, .ifCond .ne 5, 3), (12, .iconst (-1), 1), (13, .ireturn, 1), (14, .aload_n 0, 1), (15, .invokevirtual 176, 3), (18, .aload_n 0, 1), (19, .iload_n 1, 1), (20, .invokevirtual 94, 3), (23, .ifCond .ne 8, 3), (26, .aload_n 0, 1), (27, .iload_n 1, 1), (28, .invokevirtual 226, 3), (31, .aload_n 0, 1), (32, .invokevirtual 229, 3), (35, .ireturn, 1)]
set_option maxRecDepth 100000 in
theorem kd_Mo_withSet : ∀ q ∈ k_Mo_withSet, decode prog_13_method_91_code q.1 = .ok q.2 := by decide +kernel
def k_Mo_withoutSet : List (Nat × Instr × Nat) := [(0, .aload_n 0, 1), (1, .iload_n 1, 1), (2, .invokevirtual 100, 3), (5, .ifCond .ne 5, 3), (8, .iconst (-1), 1), (9, .ireturn, 1), (10, .aload_n 0, 1), (11, .iconst 0, 1), (12, .putfield 164, 3), (15, .iconst 0, 1), (16, .istore_n 2, 1), (17, .iload_n 2, 1), (18, .aload_n 0, 1), (19, .invokevirtual 75, 3), (22, .if_icmp .ge 23, 3), (25, .iload_n 2, 1), (26, .iload_n 1, 1), (27, .if_icmp .eq 12, 3), (30, .aload_n 0, 1), (31, .aload_n 0, 1), (32, .iload_n 2, 1), (33, .invokevirtual 103, 3), (36, .invokevirtual 226, 3), (39, .iinc 2 1, 3), (42, .goto (-25), 3), (45, .aload_n 0, 1), (46, .invokevirtual 229, 3), (49, .ireturn, 1)]
set_option maxRecDepth 100000 in
theorem kd_Mo_withoutSet : ∀ q ∈ k_Mo_withoutSet, decode prog_13_method_92_code q.1 = .ok q.2 := by decide +kernel
def k_Mo_freeNext : List (Nat × Instr × Nat) := [(0, .iload_n 1, 1), (1, .invokestatic 149, 3), (4, .ifCond .ne 5, 3), (7, .iconst (-1), 1), (8, .ireturn, 1), (9, .aload_n 0, 1), (10, .invokevirtual 176, 3), (13, .aload_n 0, 1), (14, .iload_n 1, 1), (15, .invokevirtual 182, 3), (18, .ifCond .eq 6, 3), (21, .bipush (-2), 2), (23, .ireturn, 1), (24, .aload_n 0, 1), (25, .iload_n 1, 1), (26, .iconst 1, 1), (27, .isub, 1), (28, .invokevirtual 235, 3), (31, .iconst 1, 1), (32, .istore_n 2, 1), (33, .iload_n 2, 1), (34, .aload_n 0, 1), (35, .getfield 13, 3), (38, .iconst 0, 1), (39, .iaload, 1), (40, .if_icmp .gt 54, 3), (43, .iconst 1, 1), (44, .istore_n 3, 1), (45, .iload_n 3, 1), (46, .aload_n 0, 1), (47, .invokevirtual 83, 3), (50, .if_icmp .gt 38, 3), (53, .iload_n 3, 1), (54, .invokestatic 155, 3), (57, .iload_n 2, 1), (58, .if_icmp .ne 24, 3), (61, .aload_n 0, 1), (62, .iload_n 3, 1), (63, .invokevirtual 94, 3), (66, .ifCond .ne 16, 3), (69, .aload_n 0, 1), (70, .iload_n 3, 1), (71, .iload_n 1, 1), (72, .iconst 1, 1), (73, .isub, 1), (74, .invokevirtual 238, 3), (77, .ifCond .ne 5, 3), (80, .iload_n 3, 1), (81, .ireturn, 1), (82, .iinc 3 1, 3), (85, .goto (-40), 3), (88, .iinc 2 1, 3), (91, .goto (-58), 3), (94, .bipush (-2), 2), (96, .ireturn, 1)]
set_option maxRecDepth 100000 in
theorem kd_Mo_freeNext : ∀ q ∈ k_Mo_freeNext, decode prog_13_method_95_code q.1 = .ok q.2 := by decide +kernel
def k_Mo_laysSmall : List (Nat × Instr × Nat) := [(0, .aload_n 0, 1), (1, .iconst 0, 1), (2, .putfield 232, 3), (5, .iconst 1, 1), (6, .istore_n 2, 1), (7, .iload_n 2, 1), (8, .iconst 1, 1), (9, .aload_n 0, 1), (10, .getfield 164, 3), (13, .ishl, 1), (14, .if_icmp .ge 120, 3), (17, .iload_n 2, 1), (18, .invokestatic 155, 3), (21, .iload_n 1, 1), (22, .if_icmp .eq 6, 3), (25, .goto 103, 3), (28, .iload_n 1, 1), (29, .iconst 1, 1), (30, .if_icmp .ne 7, 3), (33, .iconst (-1), 1), (34, .goto 8, 3), (37, .aload_n 0, 1), (38, .iload_n 2, 1), (39, .invokevirtual 170, 3), (42, .istore_n 3, 1), (43, .iload_n 1, 1), (44, .iconst 1, 1), (45, .if_icmp .le 10, 3), (48, .iload_n 3, 1), (49, .ifCond .ge 6, 3), (52, .goto 76, 3), (55, .iconst 0, 1), (56, .istore 4, 2), (58, .iconst 0, 1), (59, .istore 5, 2), (61, .iload 5, 2), (63, .aload_n 0, 1), (64, .getfield 164, 3), (67, .if_icmp .ge 30, 3), (70, .iload_n 2, 1), (71, .iload 5, 2), (73, .invokestatic 119, 3), (76, .ifCond .eq 15, 3), (79, .iload 4, 2), (81, .aload_n 0, 1), (82, .getfield 26, 3), (85, .iload 5, 2), (87, .iaload, 1), (88, .ior, 1), (89, .istore 4, 2), (91, .iinc 5 1, 3), (94, .goto (-33), 3), (97, .aload_n 0, 1), (98, .getfield 52, 3), (101, .aload_n 0, 1), (102, .getfield 232, 3), (105, .iload_n 3, 1), (106, .iastore, 1), (107, .aload_n 0, 1), (108, .getfield 55, 3), (111, .aload_n 0, 1), (112, .getfield 232, 3), (115, .iload 4, 2), (117, .iastore, 1), (118, .aload_n 0, 1), (119, .dup, 1), (120, .getfield 232, 3), (123, .iconst 1, 1), (124, .iadd, 1), (125, .putfield 232, 3), (128, .iinc 2 1, 3), (131, .goto (-124), 3), (134, .return_, 1)]
set_option maxRecDepth 100000 in
theorem kd_Mo_laysSmall : ∀ q ∈ k_Mo_laysSmall, decode prog_13_method_93_code q.1 = .ok q.2 := by decide +kernel
def k_Mo_isCatching : List (Nat × Instr × Nat) := [(0, .iconst 0, 1), (1, .istore_n 3, 1), (2, .iload_n 3, 1), (3, .aload_n 0, 1), (4, .getfield 232, 3), (7, .if_icmp .ge 33, 3), (10, .iload_n 2, 1), (11, .iconst 1, 1), (12, .if_icmp .eq 20, 3), (15, .iload_n 1, 1), (16, .aload_n 0, 1), (17, .getfield 55, 3), (20, .iload_n 3, 1), (21, .iaload, 1), (22, .iand, 1), (23, .aload_n 0, 1), (24, .getfield 52, 3), (27, .iload_n 3, 1), (28, .iaload, 1), (29, .if_icmp .ne 5, 3), (32, .iconst 1, 1), (33, .ireturn, 1), (34, .iinc 3 1, 3), (37, .goto (-35), 3), (40, .iconst 0, 1), (41, .ireturn, 1)]
set_option maxRecDepth 100000 in
theorem kd_Mo_isCatching : ∀ q ∈ k_Mo_isCatching, decode prog_13_method_94_code q.1 = .ok q.2 := by decide +kernel
def k_Mo_spell : List (Nat × Instr × Nat) := [(0, .iload_n 1, 1), (1, .iconst (-1), 1), (2, .if_icmp .ge 5, 3), (5, .iconst (-1), 1), (6, .ireturn, 1), (7, .aload_n 0, 1), (8, .iconst 0, 1), (9, .putfield 241, 3), (12, .aload_n 0, 1), (13, .iconst 0, 1), (14, .invokevirtual 250, 3), (17, .aload_n 0, 1), (18, .aload_n 0, 1), (19, .getfield 13, 3), (22, .iconst 0, 1), (23, .iaload, 1), (24, .invokevirtual 253, 3), (27, .aload_n 0, 1), (28, .bipush 59, 2), (30, .invokevirtual 247, 3), (33, .iconst 0, 1), (34, .istore_n 2, 1), (35, .iload_n 2, 1), (36, .aload_n 0, 1), (37, .invokevirtual 75, 3), (40, .if_icmp .ge 29, 3), (43, .aload_n 0, 1), (44, .iconst 1, 1), (45, .invokevirtual 250, 3), (48, .aload_n 0, 1), (49, .aload_n 0, 1), (50, .iload_n 2, 1), (51, .invokevirtual 103, 3), (54, .invokevirtual 256, 3), (57, .aload_n 0, 1), (58, .bipush 59, 2), (60, .invokevirtual 247, 3), (63, .iinc 2 1, 3), (66, .goto (-31), 3), (69, .aload_n 0, 1), (70, .iload_n 1, 1), (71, .invokevirtual 259, 3), (74, .ireturn, 1)]
set_option maxRecDepth 100000 in
theorem kd_Mo_spell : ∀ q ∈ k_Mo_spell, decode prog_13_method_101_code q.1 = .ok q.2 := by decide +kernel
def k_Mo_writesWord : List (Nat × Instr × Nat) := [(0, .aload_n 0, 1), (1, .iload_n 1, 1), (2, .invokevirtual 244, 3), (5, .istore_n 2, 1), (6, .aload_n 0, 1), (7, .getfield 64, 3), (10, .iload_n 2, 1), (11, .baload, 1), (12, .ifCond .eq 19, 3), (15, .aload_n 0, 1), (16, .aload_n 0, 1), (17, .getfield 64, 3), (20, .iload_n 2, 1), (21, .baload, 1), (22, .invokevirtual 247, 3), (25, .iinc 2 1, 3), (28, .goto (-22), 3), (31, .return_, 1)]
set_option maxRecDepth 100000 in
theorem kd_Mo_writesWord : ∀ q ∈ k_Mo_writesWord, decode prog_13_method_97_code q.1 = .ok q.2 := by decide +kernel
def k_Mo_wordFrom : List (Nat × Instr × Nat) := [(0, .iconst 0, 1), (1, .istore_n 2, 1), (2, .iload_n 1, 1), (3, .istore_n 3, 1), (4, .iload_n 3, 1), (5, .ifCond .le 21, 3), (8, .aload_n 0, 1), (9, .getfield 64, 3), (12, .iload_n 2, 1), (13, .baload, 1), (14, .ifCond .ne 6, 3), (17, .iinc 3 (-1), 3), (20, .iinc 2 1, 3), (23, .goto (-19), 3), (26, .iload_n 2, 1), (27, .ireturn, 1)]
set_option maxRecDepth 100000 in
theorem kd_Mo_wordFrom : ∀ q ∈ k_Mo_wordFrom, decode prog_13_method_108_code q.1 = .ok q.2 := by decide +kernel
def k_Mo_writes : List (Nat × Instr × Nat) := [(0, .aload_n 0, 1), (1, .getfield 58, 3), (4, .aload_n 0, 1), (5, .getfield 241, 3), (8, .iload_n 1, 1), (9, .iastore, 1), (10, .aload_n 0, 1), (11, .dup, 1), (12, .getfield 241, 3), (15, .iconst 1, 1), (16, .iadd, 1), (17, .putfield 241, 3), (20, .return_, 1)]
set_option maxRecDepth 100000 in
theorem kd_Mo_writes : ∀ q ∈ k_Mo_writes, decode prog_13_method_96_code q.1 = .ok q.2 := by decide +kernel
def k_Mo_writesNumber : List (Nat × Instr × Nat) := [(0, .aload_n 0, 1), (1, .bipush 32, 2), (3, .invokevirtual 247, 3), (6, .iload_n 1, 1), (7, .bipush 9, 2), (9, .if_icmp .le 14, 3), (12, .aload_n 0, 1), (13, .bipush 48, 2), (15, .iload_n 1, 1), (16, .bipush 10, 2), (18, .idiv, 1), (19, .iadd, 1), (20, .invokevirtual 247, 3), (23, .aload_n 0, 1), (24, .bipush 48, 2), (26, .iload_n 1, 1), (27, .bipush 10, 2), (29, .irem, 1), (30, .iadd, 1), (31, .invokevirtual 247, 3), (34, .return_, 1)]
set_option maxRecDepth 100000 in
theorem kd_Mo_writesNumber : ∀ q ∈ k_Mo_writesNumber, decode prog_13_method_98_code q.1 = .ok q.2 := by decide +kernel
def k_Mo_writesLetters : List (Nat × Instr × Nat) := [(0, .aload_n 0, 1), (1, .bipush 32, 2), (3, .invokevirtual 247, 3), (6, .iconst 0, 1), (7, .istore_n 2, 1), (8, .iload_n 2, 1), (9, .bipush 10, 2), (11, .if_icmp .ge 25, 3), (14, .iload_n 1, 1), (15, .iload_n 2, 1), (16, .invokestatic 119, 3), (19, .ifCond .eq 11, 3), (22, .aload_n 0, 1), (23, .bipush 97, 2), (25, .iload_n 2, 1), (26, .iadd, 1), (27, .invokevirtual 247, 3), (30, .iinc 2 1, 3), (33, .goto (-25), 3), (36, .return_, 1)]
set_option maxRecDepth 100000 in
theorem kd_Mo_writesLetters : ∀ q ∈ k_Mo_writesLetters, decode prog_13_method_99_code q.1 = .ok q.2 := by decide +kernel
def k_Mo_toldText : List (Nat × Instr × Nat) := [(0, .iload_n 1, 1), (1, .iconst (-1), 1), (2, .if_icmp .ne 10, 3), (5, .aload_n 0, 1), (6, .getfield 241, 3), (9, .goto 22, 3), (12, .iload_n 1, 1), (13, .aload_n 0, 1), (14, .getfield 241, 3), (17, .if_icmp .ge 12, 3), (20, .aload_n 0, 1), (21, .getfield 58, 3), (24, .iload_n 1, 1), (25, .iaload, 1), (26, .goto 5, 3), (29, .bipush (-2), 2), (31, .ireturn, 1)]
set_option maxRecDepth 100000 in
theorem kd_Mo_toldText : ∀ q ∈ k_Mo_toldText, decode prog_13_method_100_code q.1 = .ok q.2 := by decide +kernel
def k_Mo_report : List (Nat × Instr × Nat) := [(0, .iload_n 1, 1), (1, .invokestatic 133, 3), (4, .ifCond .eq 8, 3), (7, .iload_n 2, 1), (8, .iconst (-1), 1), (9, .if_icmp .ge 5, 3), (12, .iconst (-1), 1), (13, .ireturn, 1), (14, .aload_n 0, 1), (15, .iload_n 1, 1), (16, .invokevirtual 136, 3), (19, .aload_n 0, 1), (20, .iconst 0, 1), (21, .putfield 241, 3), (24, .iconst 0, 1), (25, .istore_n 3, 1), (26, .iload_n 3, 1), (27, .aload_n 0, 1), (28, .getfield 143, 3), (31, .if_icmp .ge 100, 3), (34, .aload_n 0, 1), (35, .aload_n 0, 1), (36, .getfield 40, 3), (39, .iload_n 3, 1), (40, .iaload, 1), (41, .ifCond .ne 7, 3), (44, .iconst 2, 1), (45, .goto 4, 3), (48, .iconst 3, 1), (49, .invokevirtual 250, 3), (52, .iconst 0, 1), (53, .istore 4, 2), (55, .iload 4, 2), (57, .bipush 16, 2), (59, .if_icmp .ge 29, 3), (62, .aload_n 0, 1), (63, .getfield 43, 3), (66, .iload_n 3, 1), (67, .iaload, 1), (68, .iload 4, 2), (70, .invokestatic 119, 3), (73, .ifCond .eq 9, 3), (76, .aload_n 0, 1), (77, .iload 4, 2), (79, .invokevirtual 253, 3), (82, .iinc 4 1, 3), (85, .goto (-30), 3), (88, .aload_n 0, 1), (89, .getfield 40, 3), (92, .iload_n 3, 1), (93, .iaload, 1), (94, .iconst 1, 1), (95, .if_icmp .ne 24, 3), (98, .aload_n 0, 1), (99, .bipush 32, 2), (101, .invokevirtual 247, 3), (104, .aload_n 0, 1), (105, .iconst 4, 1), (106, .invokevirtual 250, 3), (109, .aload_n 0, 1), (110, .aload_n 0, 1), (111, .getfield 46, 3), (114, .iload_n 3, 1), (115, .iaload, 1), (116, .invokevirtual 256, 3), (119, .aload_n 0, 1), (120, .bipush 59, 2), (122, .invokevirtual 247, 3), (125, .iinc 3 1, 3), (128, .goto (-102), 3), (131, .aload_n 0, 1), (132, .aload_n 0, 1), (133, .getfield 139, 3), (136, .ifCond .eq 7, 3), (139, .iconst 5, 1), (140, .goto 5, 3), (143, .bipush 6, 2), (145, .invokevirtual 250, 3), (148, .aload_n 0, 1), (149, .getfield 139, 3), (152, .ifCond .ne 11, 3), (155, .aload_n 0, 1), (156, .aload_n 0, 1), (157, .getfield 146, 3), (160, .invokevirtual 253, 3), (163, .aload_n 0, 1), (164, .bipush 59, 2), (166, .invokevirtual 247, 3), (169, .aload_n 0, 1), (170, .iload_n 2, 1), (171, .invokevirtual 259, 3), (174, .ireturn, 1)]
set_option maxRecDepth 100000 in
theorem kd_Mo_report : ∀ q ∈ k_Mo_report, decode prog_13_method_102_code q.1 = .ok q.2 := by decide +kernel
def k_Mo_count : List (Nat × Instr × Nat) := [(0, .iload_n 1, 1), (1, .tableswitch 80 0 6 #[43, 50, 55, 60, 65, 70, 75], 43), (44, .aload_n 0, 1), (45, .getfield 13, 3), (48, .iconst 0, 1), (49, .iaload, 1), (50, .ireturn, 1), (51, .aload_n 0, 1), (52, .invokevirtual 75, 3), (55, .ireturn, 1), (56, .aload_n 0, 1), (57, .invokevirtual 185, 3), (60, .ireturn, 1), (61, .aload_n 0, 1), (62, .getfield 72, 3), (65, .ireturn, 1), (66, .aload_n 0, 1), (67, .getfield 262, 3), (70, .ireturn, 1), (71, .aload_n 0, 1), (72, .invokevirtual 265, 3), (75, .ireturn, 1), (76, .aload_n 0, 1), (77, .invokevirtual 268, 3), (80, .ireturn, 1), (81, .iconst (-1), 1), (82, .ireturn, 1)]
set_option maxRecDepth 100000 in
theorem kd_Mo_count : ∀ q ∈ k_Mo_count, decode prog_13_method_105_code q.1 = .ok q.2 := by decide +kernel
def k_Mo_greatestSize : List (Nat × Instr × Nat) := [(0, .bipush 10, 2), (2, .istore_n 1, 1), (3, .iload_n 1, 1), (4, .ifCond .le 17, 3), (7, .aload_n 0, 1), (8, .iload_n 1, 1), (9, .invokevirtual 198, 3), (12, .ifCond .ne 9, 3), (15, .iinc 1 (-1), 3), (18, .goto (-15), 3), (21, .iload_n 1, 1), (22, .ifCond .ne 8, 3), (25, .bipush (-2), 2), (27, .goto 4, 3), (30, .iload_n 1, 1), (31, .ireturn, 1)]
set_option maxRecDepth 100000 in
theorem kd_Mo_greatestSize : ∀ q ∈ k_Mo_greatestSize, decode prog_13_method_103_code q.1 = .ok q.2 := by decide +kernel
def k_Mo_leastSize : List (Nat × Instr × Nat) := [(0, .iconst 1, 1), (1, .istore_n 1, 1), (2, .iload_n 1, 1), (3, .bipush 10, 2), (5, .if_icmp .gt 17, 3), (8, .aload_n 0, 1), (9, .iload_n 1, 1), (10, .invokevirtual 198, 3), (13, .ifCond .ne 9, 3), (16, .iinc 1 1, 3), (19, .goto (-17), 3), (22, .iload_n 1, 1), (23, .bipush 10, 2), (25, .if_icmp .le 8, 3), (28, .bipush (-2), 2), (30, .goto 4, 3), (33, .iload_n 1, 1), (34, .ireturn, 1)]
set_option maxRecDepth 100000 in
theorem kd_Mo_leastSize : ∀ q ∈ k_Mo_leastSize, decode prog_13_method_104_code q.1 = .ok q.2 := by decide +kernel
def k_Mo_feed : List (Nat × Instr × Nat) := [(0, .aload_n 0, 1), (1, .getfield 262, 3), (4, .bipush 20, 2), (6, .iadd, 1), (7, .sipush 400, 3), (10, .if_icmp .le 5, 3), (13, .iconst (-1), 1), (14, .ireturn, 1), (15, .iconst 0, 1), (16, .istore 6, 2), (18, .iload 6, 2), (20, .bipush 20, 2), (22, .if_icmp .ge 93, 3), (25, .iload 6, 2), (27, .iconst 4, 1), (28, .if_icmp .ge 7, 3), (31, .iload_n 1, 1), (32, .goto 39, 3), (35, .iload 6, 2), (37, .bipush 8, 2), (39, .if_icmp .ge 7, 3), (42, .iload_n 2, 1), (43, .goto 28, 3), (46, .iload 6, 2), (48, .bipush 12, 2), (50, .if_icmp .ge 7, 3), (53, .iload_n 3, 1), (54, .goto 17, 3), (57, .iload 6, 2), (59, .bipush 16, 2), (61, .if_icmp .ge 8, 3), (64, .iload 4, 2), (66, .goto 5, 3), (69, .iload 5, 2), (71, .istore 7, 2), (73, .aload_n 0, 1), (74, .getfield 61, 3), (77, .aload_n 0, 1), (78, .getfield 262, 3), (81, .iload 7, 2), (83, .bipush 24, 2), (85, .bipush 8, 2), (87, .iload 6, 2), (89, .iconst 4, 1), (90, .irem, 1), (91, .imul, 1), (92, .isub, 1), (93, .ishr, 1), (94, .sipush 255, 3), (97, .iand, 1), (98, .iastore, 1), (99, .aload_n 0, 1), (100, .dup, 1), (101, .getfield 262, 3), (104, .iconst 1, 1), (105, .iadd, 1), (106, .putfield 262, 3), (109, .iinc 6 1, 3), (112, .goto (-94), 3), (115, .aload_n 0, 1), (116, .getfield 262, 3), (119, .ireturn, 1)]
set_option maxRecDepth 100000 in
theorem kd_Mo_feed : ∀ q ∈ k_Mo_feed, decode prog_13_method_106_code q.1 = .ok q.2 := by decide +kernel
def k_Mo_back : List (Nat × Instr × Nat) := [(0, .iload_n 1, 1), (1, .iconst 0, 1), (2, .aload_n 0, 1), (3, .getfield 262, 3), (6, .invokestatic 79, 3), (9, .ifCond .ne 5, 3), (12, .iconst (-1), 1), (13, .ireturn, 1), (14, .aload_n 0, 1), (15, .dup, 1), (16, .getfield 262, 3), (19, .iload_n 1, 1), (20, .isub, 1), (21, .putfield 262, 3), (24, .aload_n 0, 1), (25, .getfield 262, 3), (28, .ireturn, 1)]
set_option maxRecDepth 100000 in
theorem kd_Mo_back : ∀ q ∈ k_Mo_back, decode prog_13_method_107_code q.1 = .ok q.2 := by decide +kernel
def k_Mo_text : List (Nat × Instr × Nat) := [(0, .aload_n 0, 1), (1, .getfield 17, 3), (4, .invokestatic 68, 3), (7, .aload_n 0, 1), (8, .iconst 0, 1), (9, .putfield 271, 3), (12, .aload_n 0, 1), (13, .iconst 3, 1), (14, .putfield 274, 3), (17, .aload_n 0, 1), (18, .iconst 0, 1), (19, .putfield 286, 3), (22, .aload_n 0, 1), (23, .invokevirtual 289, 3), (26, .iconst 1, 1), (27, .istore_n 1, 1), (28, .aload_n 0, 1), (29, .getfield 286, 3), (32, .ifCond .ne 20, 3), (35, .aload_n 0, 1), (36, .getfield 274, 3), (39, .ifCond .eq 13, 3), (42, .aload_n 0, 1), (43, .iload_n 1, 1), (44, .invokevirtual 301, 3), (47, .iconst 0, 1), (48, .istore_n 1, 1), (49, .goto (-21), 3), (52, .aload_n 0, 1), (53, .iconst 0, 1), (54, .putfield 262, 3), (57, .aload_n 0, 1), (58, .getfield 286, 3), (61, .ifCond .eq 11, 3), (64, .bipush (-4), 2), (66, .aload_n 0, 1), (67, .getfield 280, 3), (70, .isub, 1), (71, .ireturn, 1), (72, .iconst 0, 1), (73, .istore_n 2, 1), (74, .iload_n 2, 1), (75, .bipush 18, 2), (77, .if_icmp .ge 21, 3), (80, .aload_n 0, 1), (81, .getfield 13, 3), (84, .iload_n 2, 1), (85, .aload_n 0, 1), (86, .getfield 17, 3), (89, .iload_n 2, 1), (90, .iaload, 1), (91, .iastore, 1), (92, .iinc 2 1, 3), (95, .goto (-21), 3), (98, .aload_n 0, 1), (99, .iconst 0, 1), (100, .putfield 72, 3), (103, .aload_n 0, 1), (104, .invokevirtual 75, 3), (107, .ireturn, 1)]
set_option maxRecDepth 100000 in
theorem kd_Mo_text : ∀ q ∈ k_Mo_text, decode prog_13_method_115_code q.1 = .ok q.2 := by decide +kernel
def k_Mo_goesOn : List (Nat × Instr × Nat) := [(0, .aload_n 0, 1), (1, .getfield 274, 3), (4, .istore_n 1, 1), (5, .aload_n 0, 1), (6, .getfield 271, 3), (9, .istore_n 2, 1), (10, .aload_n 0, 1), (11, .invokevirtual 277, 3), (14, .bipush 32, 2), (16, .if_icmp .eq 12, 3), (19, .aload_n 0, 1), (20, .invokevirtual 277, 3), (23, .bipush 10, 2), (25, .if_icmp .ne 16, 3), (28, .aload_n 0, 1), (29, .dup, 1), (30, .getfield 271, 3), (33, .iconst 1, 1), (34, .iadd, 1), (35, .putfield 271, 3), (38, .goto (-28), 3), (41, .aload_n 0, 1), (42, .aload_n 0, 1), (43, .getfield 271, 3), (46, .putfield 280, 3), (49, .aload_n 0, 1), (50, .getfield 280, 3), (53, .iload_n 2, 1), (54, .if_icmp .ne 17, 3), (57, .iload_n 1, 1), (58, .iconst 1, 1), (59, .if_icmp .eq 8, 3), (62, .iload_n 1, 1), (63, .iconst 2, 1), (64, .if_icmp .ne 7, 3), (67, .iconst 1, 1), (68, .goto 4, 3), (71, .iconst 0, 1), (72, .istore_n 3, 1), (73, .aload_n 0, 1), (74, .invokevirtual 277, 3), (77, .istore 4, 2), (79, .iload 4, 2), (81, .iconst (-1), 1), (82, .if_icmp .ne 11, 3), (85, .aload_n 0, 1), (86, .iconst 0, 1), (87, .putfield 274, 3), (90, .goto 189, 3), (93, .iload 4, 2), (95, .bipush 97, 2), (97, .bipush 122, 2), (99, .invokestatic 79, 3), (102, .ifCond .eq 46, 3), (105, .aload_n 0, 1), (106, .invokevirtual 277, 3), (109, .bipush 97, 2), (111, .bipush 122, 2), (113, .invokestatic 79, 3), (116, .ifCond .eq 16, 3), (119, .aload_n 0, 1), (120, .dup, 1), (121, .getfield 271, 3), (124, .iconst 1, 1), (125, .iadd, 1), (126, .putfield 271, 3), (129, .goto (-24), 3), (132, .aload_n 0, 1), (133, .iload_n 3, 1), (134, .ifCond .eq 7, 3), (137, .iconst 4, 1), (138, .goto 4, 3), (141, .iconst 1, 1), (142, .putfield 274, 3), (145, .goto 134, 3), (148, .iload 4, 2), (150, .bipush 48, 2), (152, .bipush 57, 2), (154, .invokestatic 79, 3), (157, .ifCond .eq 96, 3), (160, .aload_n 0, 1), (161, .iconst 0, 1), (162, .putfield 283, 3), (165, .aload_n 0, 1), (166, .invokevirtual 277, 3), (169, .bipush 48, 2), (171, .bipush 57, 2), (173, .invokestatic 79, 3), (176, .ifCond .eq 48, 3), (179, .aload_n 0, 1), (180, .getfield 271, 3), (183, .aload_n 0, 1), (184, .getfield 280, 3), (187, .isub, 1), (188, .iconst 2, 1), (189, .if_icmp .ge 22, 3), (192, .aload_n 0, 1), (193, .bipush 10, 2), (195, .aload_n 0, 1), (196, .getfield 283, 3), (199, .imul, 1), (200, .aload_n 0, 1), (201, .invokevirtual 277, 3), (204, .iadd, 1), (205, .bipush 48, 2), (207, .isub, 1), (208, .putfield 283, 3), (211, .aload_n 0, 1), (212, .dup, 1), (213, .getfield 271, 3), (216, .iconst 1, 1), (217, .iadd, 1), (218, .putfield 271, 3), (221, .goto (-56), 3), (224, .aload_n 0, 1), (225, .iload_n 3, 1), (226, .ifCond .ne 16, 3), (229, .aload_n 0, 1), (230, .getfield 271, 3), (233, .aload_n 0, 1), (234, .getfield 280, 3), (237, .isub, 1), (238, .iconst 2, 1), (239, .if_icmp .le 7, 3), (242, .iconst 4, 1), (243, .goto 4, 3), (246, .iconst 2, 1), (247, .putfield 274, 3), (250, .goto 29, 3), (253, .aload_n 0, 1), (254, .dup, 1), (255, .getfield 271, 3), (258, .iconst 1, 1), (259, .iadd, 1), (260, .putfield 271, 3), (263, .aload_n 0, 1), (264, .iload 4, 2), (266, .bipush 59, 2), (268, .if_icmp .ne 7, 3), (271, .iconst 3, 1), (272, .goto 4, 3), (275, .iconst 4, 1), (276, .putfield 274, 3), (279, .return_, 1)]
set_option maxRecDepth 100000 in
theorem kd_Mo_goesOn : ∀ q ∈ k_Mo_goesOn, decode prog_13_method_110_code q.1 = .ok q.2 := by decide +kernel
def k_Mo_here : List (Nat × Instr × Nat) := [(0, .aload_n 0, 1), (1, .getfield 271, 3), (4, .aload_n 0, 1), (5, .getfield 262, 3), (8, .if_icmp .ge 15, 3), (11, .aload_n 0, 1), (12, .getfield 61, 3), (15, .aload_n 0, 1), (16, .getfield 271, 3), (19, .iaload, 1), (20, .goto 4, 3), (23, .iconst (-1), 1), (24, .ireturn, 1)]
set_option maxRecDepth 100000 in
theorem kd_Mo_here : ∀ q ∈ k_Mo_here, decode prog_13_method_109_code q.1 = .ok q.2 := by decide +kernel
def k_Mo_readsOne : List (Nat × Instr × Nat) := [(0, .aload_n 0, 1), (1, .getfield 280, 3), (4, .istore_n 2, 1), (5, .iload_n 1, 1), (6, .ifCond .eq 18, 3), (9, .aload_n 0, 1), (10, .iconst 0, 1), (11, .invokevirtual 292, 3), (14, .ifCond .eq 10, 3), (17, .aload_n 0, 1), (18, .invokevirtual 295, 3), (21, .goto 24, 3), (24, .aload_n 0, 1), (25, .iconst 1, 1), (26, .invokevirtual 292, 3), (29, .ifCond .eq 11, 3), (32, .aload_n 0, 1), (33, .iload_n 2, 1), (34, .invokevirtual 298, 3), (37, .goto 8, 3), (40, .aload_n 0, 1), (41, .iconst 1, 1), (42, .putfield 286, 3), (45, .aload_n 0, 1), (46, .getfield 286, 3), (49, .ifCond .eq 4, 3), (52, .return_, 1), (53, .aload_n 0, 1), (54, .getfield 274, 3), (57, .iconst 3, 1), (58, .if_icmp .ne 10, 3), (61, .aload_n 0, 1), (62, .invokevirtual 289, 3), (65, .goto 8, 3), (68, .aload_n 0, 1), (69, .iconst 1, 1), (70, .putfield 286, 3), (73, .return_, 1)]
set_option maxRecDepth 100000 in
theorem kd_Mo_readsOne : ∀ q ∈ k_Mo_readsOne, decode prog_13_method_114_code q.1 = .ok q.2 := by decide +kernel
def k_Mo_takesWord : List (Nat × Instr × Nat) := [(0, .aload_n 0, 1), (1, .getfield 286, 3), (4, .ifCond .ne 11, 3), (7, .aload_n 0, 1), (8, .getfield 274, 3), (11, .iconst 1, 1), (12, .if_icmp .eq 5, 3), (15, .iconst 0, 1), (16, .ireturn, 1), (17, .aload_n 0, 1), (18, .iload_n 1, 1), (19, .invokevirtual 244, 3), (22, .istore_n 2, 1), (23, .iconst 0, 1), (24, .istore_n 3, 1), (25, .aload_n 0, 1), (26, .getfield 280, 3), (29, .iload_n 3, 1), (30, .iadd, 1), (31, .aload_n 0, 1), (32, .getfield 271, 3), (35, .if_icmp .ge 31, 3), (38, .aload_n 0, 1), (39, .getfield 64, 3), (42, .iload_n 2, 1), (43, .iload_n 3, 1), (44, .iadd, 1), (45, .baload, 1), (46, .aload_n 0, 1), (47, .getfield 61, 3), (50, .aload_n 0, 1), (51, .getfield 280, 3), (54, .iload_n 3, 1), (55, .iadd, 1), (56, .iaload, 1), (57, .if_icmp .ne 9, 3), (60, .iinc 3 1, 3), (63, .goto (-38), 3), (66, .aload_n 0, 1), (67, .getfield 280, 3), (70, .iload_n 3, 1), (71, .iadd, 1), (72, .aload_n 0, 1), (73, .getfield 271, 3), (76, .if_icmp .ne 14, 3), (79, .aload_n 0, 1), (80, .getfield 64, 3), (83, .iload_n 2, 1), (84, .iload_n 3, 1), (85, .iadd, 1), (86, .baload, 1), (87, .ifCond .eq 5, 3), (90, .iconst 0, 1), (91, .ireturn, 1), (92, .aload_n 0, 1), (93, .invokevirtual 289, 3), (96, .iconst 1, 1), (97, .ireturn, 1)]
set_option maxRecDepth 100000 in
theorem kd_Mo_takesWord : ∀ q ∈ k_Mo_takesWord, decode prog_13_method_111_code q.1 = .ok q.2 := by decide +kernel
def k_Mo_readsPoints : List (Nat × Instr × Nat) := [(0, .aload_n 0, 1), (1, .aload_n 0, 1), (2, .getfield 274, 3), (5, .iconst 2, 1), (6, .if_icmp .ne 16, 3), (9, .aload_n 0, 1), (10, .getfield 283, 3), (13, .iconst 1, 1), (14, .bipush 10, 2), (16, .invokestatic 79, 3), (19, .ifCond .ne 7, 3), (22, .iconst 1, 1), (23, .goto 4, 3), (26, .iconst 0, 1), (27, .putfield 286, 3), (30, .aload_n 0, 1), (31, .getfield 286, 3), (34, .ifCond .eq 4, 3), (37, .return_, 1), (38, .aload_n 0, 1), (39, .getfield 17, 3), (42, .iconst 0, 1), (43, .aload_n 0, 1), (44, .getfield 283, 3), (47, .iastore, 1), (48, .aload_n 0, 1), (49, .invokevirtual 289, 3), (52, .return_, 1)]
set_option maxRecDepth 100000 in
theorem kd_Mo_readsPoints : ∀ q ∈ k_Mo_readsPoints, decode prog_13_method_112_code q.1 = .ok q.2 := by decide +kernel
def k_Mo_readsSet : List (Nat × Instr × Nat) := [(0, .aload_n 0, 1), (1, .getfield 17, 3), (4, .iconst 1, 1), (5, .iaload, 1), (6, .bipush 16, 2), (8, .if_icmp .ne 14, 3), (11, .aload_n 0, 1), (12, .iload_n 1, 1), (13, .putfield 280, 3), (16, .aload_n 0, 1), (17, .iconst 1, 1), (18, .putfield 286, 3), (21, .return_, 1), (22, .iconst 0, 1), (23, .istore_n 2, 1), (24, .aload_n 0, 1), (25, .aload_n 0, 1), (26, .getfield 274, 3), (29, .iconst 1, 1), (30, .if_icmp .eq 7, 3), (33, .iconst 1, 1), (34, .goto 4, 3), (37, .iconst 0, 1), (38, .putfield 286, 3), (41, .aload_n 0, 1), (42, .getfield 280, 3), (45, .istore_n 3, 1), (46, .iload_n 3, 1), (47, .aload_n 0, 1), (48, .getfield 271, 3), (51, .if_icmp .ge 70, 3), (54, .aload_n 0, 1), (55, .getfield 286, 3), (58, .ifCond .ne 63, 3), (61, .aload_n 0, 1), (62, .getfield 61, 3), (65, .iload_n 3, 1), (66, .iaload, 1), (67, .bipush 97, 2), (69, .isub, 1), (70, .istore 4, 2), (72, .aload_n 0, 1), (73, .iload 4, 2), (75, .aload_n 0, 1), (76, .getfield 17, 3), (79, .iconst 0, 1), (80, .iaload, 1), (81, .if_icmp .ge 12, 3), (84, .iload_n 2, 1), (85, .iload 4, 2), (87, .invokestatic 119, 3), (90, .ifCond .eq 7, 3), (93, .iconst 1, 1), (94, .goto 4, 3), (97, .iconst 0, 1), (98, .putfield 286, 3), (101, .aload_n 0, 1), (102, .getfield 286, 3), (105, .ifCond .ne 10, 3), (108, .iload_n 2, 1), (109, .iconst 1, 1), (110, .iload 4, 2), (112, .ishl, 1), (113, .ior, 1), (114, .istore_n 2, 1), (115, .iinc 3 1, 3), (118, .goto (-72), 3), (121, .aload_n 0, 1), (122, .aload_n 0, 1), (123, .getfield 286, 3), (126, .ifCond .ne 21, 3), (129, .aload_n 0, 1), (130, .getfield 17, 3), (133, .iconst 2, 1), (134, .aload_n 0, 1), (135, .getfield 17, 3), (138, .iconst 1, 1), (139, .iaload, 1), (140, .iload_n 2, 1), (141, .invokestatic 86, 3), (144, .ifCond .eq 7, 3), (147, .iconst 1, 1), (148, .goto 4, 3), (151, .iconst 0, 1), (152, .putfield 286, 3), (155, .aload_n 0, 1), (156, .getfield 286, 3), (159, .ifCond .eq 4, 3), (162, .return_, 1), (163, .aload_n 0, 1), (164, .getfield 17, 3), (167, .iconst 2, 1), (168, .aload_n 0, 1), (169, .getfield 17, 3), (172, .iconst 1, 1), (173, .iaload, 1), (174, .iadd, 1), (175, .iload_n 2, 1), (176, .iastore, 1), (177, .aload_n 0, 1), (178, .getfield 17, 3), (181, .iconst 1, 1), (182, .dup2, 1), (183, .iaload, 1), (184, .iconst 1, 1), (185, .iadd, 1), (186, .iastore, 1), (187, .aload_n 0, 1), (188, .invokevirtual 289, 3), (191, .return_, 1)]
set_option maxRecDepth 100000 in
theorem kd_Mo_readsSet : ∀ q ∈ k_Mo_readsSet, decode prog_13_method_113_code q.1 = .ok q.2 := by decide +kernel
end
section
def k_St_length : List (Nat × Instr × Nat) := [(0, .aload_n 0, 1), (1, .getfield 9, 3), (4, .arraylength, 1), (5, .aload_n 0, 1), (6, .invokevirtual 335, 3), (9, .ishr, 1), (10, .ireturn, 1)]
set_option maxRecDepth 100000 in
theorem kd_St_length : ∀ q ∈ k_St_length, decode prog_16_method_54_code q.1 = .ok q.2 := by decide +kernel
def k_St_coder : List (Nat × Instr × Nat) := [(0, .getstatic 38, 3), (3, .ifCond .eq 10, 3), (6, .aload_n 0, 1), (7, .getfield 15, 3), (10, .goto 4, 3), (13, .iconst 1, 1), (14, .ireturn, 1)]
set_option maxRecDepth 100000 in
theorem kd_St_coder : ∀ q ∈ k_St_coder, decode prog_16_method_152_code q.1 = .ok q.2 := by decide +kernel
def k_St_charAt : List (Nat × Instr × Nat) := [(0, .aload_n 0, 1), (1, .invokevirtual 492, 3), (4, .ifCond .eq 12, 3), (7, .aload_n 0, 1), (8, .getfield 9, 3), (11, .iload_n 1, 1), (12, .invokestatic 495, 3), (15, .ireturn, 1), (16, .aload_n 0, 1), (17, .getfield 9, 3), (20, .iload_n 1, 1), (21, .invokestatic 498, 3), (24, .ireturn, 1)]
set_option maxRecDepth 100000 in
theorem kd_St_charAt : ∀ q ∈ k_St_charAt, decode prog_16_method_56_code q.1 = .ok q.2 := by decide +kernel
def k_St_isLatin1 : List (Nat × Instr × Nat) := [(0, .getstatic 38, 3), (3, .ifCond .eq 14, 3), (6, .aload_n 0, 1), (7, .getfield 15, 3), (10, .ifCond .ne 7, 3), (13, .iconst 1, 1), (14, .goto 4, 3), (17, .iconst 0, 1), (18, .ireturn, 1)]
set_option maxRecDepth 100000 in
theorem kd_St_isLatin1 : ∀ q ∈ k_St_isLatin1, decode prog_16_method_154_code q.1 = .ok q.2 := by decide +kernel
def k_SL_charAt : List (Nat × Instr × Nat) := [(0, .iload_n 1, 1), (1, .aload_n 0, 1), (2, .arraylength, 1), (3, .invokestatic 9, 3), (6, .aload_n 0, 1), (7, .iload_n 1, 1), (8, .baload, 1), (9, .sipush 255, 3), (12, .iand, 1), (13, .i2c, 1), (14, .ireturn, 1)]
set_option maxRecDepth 100000 in
theorem kd_SL_charAt : ∀ q ∈ k_SL_charAt, decode prog_17_method_2_code q.1 = .ok q.2 := by decide +kernel
def k_St_checkIndex : List (Nat × Instr × Nat) := [(0, .iload_n 0, 1), (1, .iload_n 1, 1), (2, .getstatic 1053, 3), (5, .invokestatic 1059, 3), (8, .pop, 1), (9, .return_, 1)]
set_option maxRecDepth 100000 in
theorem kd_St_checkIndex : ∀ q ∈ k_St_checkIndex, decode prog_16_method_155_code q.1 = .ok q.2 := by decide +kernel
def k_Pr_checkIndex : List (Nat × Instr × Nat) := [(0, .iload_n 0, 1), (1, .ifCond .lt 8, 3), (4, .iload_n 0, 1), (5, .iload_n 1, 1), (6, .if_icmp .lt 10, 3), (9, .aload_n 2, 1), (10, .iload_n 0, 1), (11, .iload_n 1, 1), (12, .invokestatic 95, 3), (15, .athrow, 1), (16, .iload_n 0, 1), (17, .ireturn, 1)]
set_option maxRecDepth 100000 in
theorem kd_Pr_checkIndex : ∀ q ∈ k_Pr_checkIndex, decode prog_19_method_11_code q.1 = .ok q.2 := by decide +kernel
theorem shr0 (x : Int32) : x >>> ((0 : Int32) &&& 31) = x := by
  rw [show ((0 : Int32) &&& 31) = 0 by decide]
  exact Int32.shiftRight_zero
def chI (i k : Nat) : Int32 := (strByt.getD i []).getD k 0
theorem chI_ok : ∀ i, i < 11 → ∀ k, k < strLen.getD i 0 → ((chI i k &&& 255).toUInt32 % 65536).toInt32 = chI i k ∧ narrow .char (.int (chI i k)) = .int (chI i k) := by decide +kernel
theorem strLen_lt : ∀ i, i < 11 → strLen.getD i 0 < 8 := by decide +kernel
section TXT
variable {sh : List Sh} {d i : Nat} {mem : Mem}
theorem f_coder (hi : i < 11) : CI sh m_St_coder d [.ref (1000 + i)] mem (fun r m' => r = 0 ∧ m' = mem) := cll_of [some (.ref (1000 + i))] ok_St_coder (Nat.le_of_ble_eq_true rfl) rfl
  (wp_gsC (dc kd_St_coder 0 rfl) (List.mem_of_getElem? (i := 375) (by decide +kernel)) (wp_if_eq (tgt := 13) (dc kd_St_coder 1 rfl) rfl (fun c => absurd c (by decide)) (fun _ => wp_aload_n (dc kd_St_coder 2 rfl) rfl (wp_sgetC hi (dc kd_St_coder 3 rfl) (List.mem_of_getElem? (i := 1539) (by decide +kernel)) (wp_goto (tgt := 14) (dc kd_St_coder 4 rfl) rfl (wp_tret (ty := .byte) (dc kd_St_coder 6 rfl) rfl rfl ⟨_, rfl, rfl, rfl⟩))))))
theorem f_length (hi : i < 11) : CI sh m_St_length (d + 1) [.ref (1000 + i)] mem (fun r m' => r = nI (strLen.getD i 0) ∧ m' = mem) := cll_of [some (.ref (1000 + i))] ok_St_length (Nat.le_of_ble_eq_true rfl) rfl
  (wp_aload_n (dc kd_St_length 0 rfl) rfl (wp_sgetV hi (dc kd_St_length 1 rfl) (List.mem_of_getElem? (i := 1538) (by decide +kernel)) (wp_slen hi (dc kd_St_length 2 rfl) (wp_aload_n (dc kd_St_length 3 rfl) rfl (wp_tI [] [.int (nI (strLen.getD i 0))] hi (dc kd_St_length 4 rfl) mv_St_335 rfl rfl rfl (Nat.le_of_ble_eq_true rfl) (f_coder hi) (fun x m' e => by obtain ⟨rfl, rfl⟩ := e; exact wp_ishr (dc kd_St_length 5 rfl) (wp_iret (dc kd_St_length 6 rfl) rfl ⟨_, rfl, shr0 _, rfl⟩)))))))
theorem f_isLatin1 (hi : i < 11) : CI sh m_St_isLatin1 d [.ref (1000 + i)] mem (fun r m' => r = 1 ∧ m' = mem) := cll_of [some (.ref (1000 + i))] ok_St_isLatin1 (Nat.le_of_ble_eq_true rfl) rfl
  (wp_gsC (dc kd_St_isLatin1 0 rfl) (List.mem_of_getElem? (i := 375) (by decide +kernel)) (wp_if_eq (tgt := 17) (dc kd_St_isLatin1 1 rfl) rfl (fun c => absurd c (by decide)) (fun _ => wp_aload_n (dc kd_St_isLatin1 2 rfl) rfl (wp_sgetC hi (dc kd_St_isLatin1 3 rfl) (List.mem_of_getElem? (i := 1539) (by decide +kernel)) (wp_if_ne (tgt := 17) (dc kd_St_isLatin1 4 rfl) rfl (fun c => absurd rfl c) (fun _ => wp_iconst (dc kd_St_isLatin1 5 rfl) 1 ic_1 (wp_goto (tgt := 18) (dc kd_St_isLatin1 6 rfl) rfl (wp_zret (dc kd_St_isLatin1 8 rfl) rfl (Or.inr rfl) ⟨_, rfl, rfl, rfl⟩))))))))
theorem f_PrcheckN {k n : Nat} (hk : k < n) (hn : n < 2 ^ 31) : CI sh m_Pr_checkIndex d [.int (nI k), .int (nI n), .null] mem (fun r m' => m' = mem) := cll_of [some (.int (nI k)), some (.int (nI n)), some .null] ok_Pr_checkIndex (Nat.le_of_ble_eq_true rfl) rfl
  (wp_iload_n (dc kd_Pr_checkIndex 0 rfl) rfl (wp_if_lt (tgt := 9) (dc kd_Pr_checkIndex 1 rfl) rfl (fun c => absurd c (nI_pos (by omega))) (fun _ => wp_iload_n (dc kd_Pr_checkIndex 2 rfl) rfl (wp_iload_n (dc kd_Pr_checkIndex 3 rfl) rfl (wp_icmp_lt (tgt := 16) (dc kd_Pr_checkIndex 4 rfl) rfl (fun _ => wp_iload_n (dc kd_Pr_checkIndex 10 rfl) rfl (wp_iret (dc kd_Pr_checkIndex 11 rfl) rfl ⟨_, rfl, rfl⟩)) (fun c => absurd (nI_lt hk hn) c))))))
theorem f_PrcheckR {k n : Nat} (hk : k < n) (hn : n < 2 ^ 31) : CI sh m_Pr_checkIndex d [.int (nI k), .int (nI n), .ref 3000] mem (fun r m' => m' = mem) := cll_of [some (.int (nI k)), some (.int (nI n)), some (.ref 3000)] ok_Pr_checkIndex (Nat.le_of_ble_eq_true rfl) rfl
  (wp_iload_n (dc kd_Pr_checkIndex 0 rfl) rfl (wp_if_lt (tgt := 9) (dc kd_Pr_checkIndex 1 rfl) rfl (fun c => absurd c (nI_pos (by omega))) (fun _ => wp_iload_n (dc kd_Pr_checkIndex 2 rfl) rfl (wp_iload_n (dc kd_Pr_checkIndex 3 rfl) rfl (wp_icmp_lt (tgt := 16) (dc kd_Pr_checkIndex 4 rfl) rfl (fun _ => wp_iload_n (dc kd_Pr_checkIndex 10 rfl) rfl (wp_iret (dc kd_Pr_checkIndex 11 rfl) rfl ⟨_, rfl, rfl⟩)) (fun c => absurd (nI_lt hk hn) c))))))
theorem f_StcheckIndex {k n : Nat} (hk : k < n) (hn : n < 2 ^ 31) : CV sh m_St_checkIndex (d + 1) [.int (nI k), .int (nI n)] mem (fun m' => m' = mem) := cll_of [some (.int (nI k)), some (.int (nI n))] ok_St_checkIndex (Nat.le_of_ble_eq_true rfl) rfl
  (wp_iload_n (dc kd_St_checkIndex 0 rfl) rfl (wp_iload_n (dc kd_St_checkIndex 1 rfl) rfl (wp_gsF (dc kd_St_checkIndex 2 rfl) (List.mem_of_getElem? (i := 392) (by decide +kernel))
    (wp_sI [.int (nI k), .int (nI n), .null] [] (dc kd_St_checkIndex 3 rfl) ms_St_1059 rfl rfl (Nat.le_of_ble_eq_true rfl) (f_PrcheckN hk hn) (fun x m' e => by obtain rfl := e; exact wp_pop (dc kd_St_checkIndex 4 rfl) rfl (wp_vret (dc kd_St_checkIndex 5 rfl) rfl ⟨rfl, rfl⟩)))
    (wp_sI [.int (nI k), .int (nI n), .ref 3000] [] (dc kd_St_checkIndex 3 rfl) ms_St_1059 rfl rfl (Nat.le_of_ble_eq_true rfl) (f_PrcheckR hk hn) (fun x m' e => by obtain rfl := e; exact wp_pop (dc kd_St_checkIndex 4 rfl) rfl (wp_vret (dc kd_St_checkIndex 5 rfl) rfl ⟨rfl, rfl⟩))))))
theorem f_SLcharAt {k : Nat} (hi : i < 11) (hk : k < strLen.getD i 0) : CI sh m_SL_charAt (d + 2) [.ref (2000 + i), .int (nI k)] mem (fun r m' => r = chI i k ∧ m' = mem) := cll_of [some (.ref (2000 + i)), some (.int (nI k))] ok_SL_charAt (Nat.le_of_ble_eq_true rfl) rfl
  (wp_iload_n (dc kd_SL_charAt 0 rfl) rfl (wp_aload_n (dc kd_SL_charAt 1 rfl) rfl (wp_slen hi (dc kd_SL_charAt 2 rfl) (wp_sV [.int (nI k), .int (nI (strLen.getD i 0))] [] (dc kd_SL_charAt 3 rfl) ms_SL_9 rfl rfl (Nat.le_of_ble_eq_true rfl) (f_StcheckIndex hk (Nat.lt_trans (strLen_lt i hi) (by decide))) (fun m' e => by
    obtain rfl := e
    have h1 := chI_ok i hi k hk
    have hlt := strLen_lt i hi
    refine wp_aload_n (dc kd_SL_charAt 4 rfl) rfl (wp_iload_n (dc kd_SL_charAt 5 rfl) rfl (wp_sbald hi (dc kd_SL_charAt 6 rfl) (vp_in_nI hk (by omega)) (wp_sipush (dc kd_SL_charAt 7 rfl) 255 (by decide) (wp_iand (dc kd_SL_charAt 8 rfl) (wp_i2c (dc kd_SL_charAt 9 rfl) ?_)))))
    rw [nI_clamp (by omega)]
    show Wp _ _ _ _ _ [.int ((chI i k &&& 255).toUInt32 % 65536).toInt32] _ _
    rw [h1.1]
    exact wp_tret (ty := .char) (dc kd_SL_charAt 10 rfl) rfl h1.2 ⟨_, rfl, rfl, rfl⟩)))))
theorem f_charAt {k : Nat} (hi : i < 11) (hk : k < strLen.getD i 0) : CI sh m_St_charAt (d + 3) [.ref (1000 + i), .int (nI k)] mem (fun r m' => r = chI i k ∧ m' = mem) := cll_of [some (.ref (1000 + i)), some (.int (nI k))] ok_St_charAt (Nat.le_of_ble_eq_true rfl) rfl
  (wp_aload_n (dc kd_St_charAt 0 rfl) rfl (wp_tI [] [] hi (dc kd_St_charAt 1 rfl) mv_St_492 rfl rfl rfl (Nat.le_of_ble_eq_true rfl) (f_isLatin1 hi) (fun x m' e => by
    obtain ⟨rfl, rfl⟩ := e
    exact wp_if_eq (tgt := 16) (dc kd_St_charAt 2 rfl) rfl (fun c => absurd c (by decide)) (fun _ => wp_aload_n (dc kd_St_charAt 3 rfl) rfl (wp_sgetV hi (dc kd_St_charAt 4 rfl) (List.mem_of_getElem? (i := 1538) (by decide +kernel)) (wp_iload_n (dc kd_St_charAt 5 rfl) rfl (wp_sI [.ref (2000 + i), .int (nI k)] [] (dc kd_St_charAt 6 rfl) ms_St_495 rfl rfl (Nat.le_of_ble_eq_true rfl) (f_SLcharAt hi hk) (fun y m2 e2 => by
      obtain ⟨rfl, rfl⟩ := e2
      exact wp_tret (ty := .char) (dc kd_St_charAt 7 rfl) rfl (chI_ok i hi k hk).2 ⟨_, rfl, rfl, rfl⟩))))))))
end TXT
end
section
set_option maxRecDepth 100000 in
theorem e_Ig_bitCount {sh : List Sh} {d : Nat} {a0 : Int32} {mem : Mem} {K : Int32 → Mem → Prop}  (H : ∀ y0 : Int32, y0 = a0 - (((a0.toUInt32 >>> ((1 : Int32).toUInt32 &&& Int32.toUInt32 31)).toInt32) &&& 1431655765) → ∀ y1 : Int32, y1 = (y0 &&& 858993459) + (((y0.toUInt32 >>> ((2 : Int32).toUInt32 &&& Int32.toUInt32 31)).toInt32) &&& 858993459) → ∀ y2 : Int32, y2 = (y1 + ((y1.toUInt32 >>> ((4 : Int32).toUInt32 &&& Int32.toUInt32 31)).toInt32)) &&& 252645135 → ∀ y3 : Int32, y3 = y2 + ((y2.toUInt32 >>> ((8 : Int32).toUInt32 &&& Int32.toUInt32 31)).toInt32) → ∀ y4 : Int32, y4 = y3 + ((y3.toUInt32 >>> ((16 : Int32).toUInt32 &&& Int32.toUInt32 31)).toInt32) → K (y4 &&& 63) mem) : CI sh m_Ig_bitCount d [.int a0] mem K := cll_of [some (.int a0)] ok_Ig_bitCount (Nat.le_of_ble_eq_true rfl) rfl (wp_iload_n (dc kd_Ig_bitCount 0 rfl) rfl (wp_iload_n (dc kd_Ig_bitCount 1 rfl) rfl (wp_iconst (dc kd_Ig_bitCount 2 rfl) 1 ic_1 (wp_iushr (dc kd_Ig_bitCount 3 rfl) (wp_ldcw 1431655765 (dc kd_Ig_bitCount 4 rfl) (List.mem_of_getElem? (i := 515) (by decide +kernel)) (wp_iand (dc kd_Ig_bitCount 5 rfl) (wp_isub (dc kd_Ig_bitCount 6 rfl) (wp_nm (fun y0 ey0 => (wp_istore_n (dc kd_Ig_bitCount 7 rfl) (Nat.le_of_ble_eq_true rfl) (wp_iload_n (dc kd_Ig_bitCount 8 rfl) rfl (wp_ldcw 858993459 (dc kd_Ig_bitCount 9 rfl) (List.mem_of_getElem? (i := 516) (by decide +kernel)) (wp_iand (dc kd_Ig_bitCount 10 rfl) (wp_iload_n (dc kd_Ig_bitCount 11 rfl) rfl (wp_iconst (dc kd_Ig_bitCount 12 rfl) 2 ic_2 (wp_iushr (dc kd_Ig_bitCount 13 rfl) (wp_ldcw 858993459 (dc kd_Ig_bitCount 14 rfl) (List.mem_of_getElem? (i := 516) (by decide +kernel)) (wp_iand (dc kd_Ig_bitCount 15 rfl) (wp_iadd (dc kd_Ig_bitCount 16 rfl) (wp_nm (fun y1 ey1 => (wp_istore_n (dc kd_Ig_bitCount 17 rfl) (Nat.le_of_ble_eq_true rfl) (wp_iload_n (dc kd_Ig_bitCount 18 rfl) rfl (wp_iload_n (dc kd_Ig_bitCount 19 rfl) rfl (wp_iconst (dc kd_Ig_bitCount 20 rfl) 4 ic_4 (wp_iushr (dc kd_Ig_bitCount 21 rfl) (wp_iadd (dc kd_Ig_bitCount 22 rfl) (wp_ldcw 252645135 (dc kd_Ig_bitCount 23 rfl) (List.mem_of_getElem? (i := 517) (by decide +kernel)) (wp_iand (dc kd_Ig_bitCount 24 rfl) (wp_nm (fun y2 ey2 => (wp_istore_n (dc kd_Ig_bitCount 25 rfl) (Nat.le_of_ble_eq_true rfl) (wp_iload_n (dc kd_Ig_bitCount 26 rfl) rfl (wp_iload_n (dc kd_Ig_bitCount 27 rfl) rfl (wp_bipush (dc kd_Ig_bitCount 28 rfl) 8 bp_8 (wp_iushr (dc kd_Ig_bitCount 29 rfl) (wp_iadd (dc kd_Ig_bitCount 30 rfl) (wp_nm (fun y3 ey3 => (wp_istore_n (dc kd_Ig_bitCount 31 rfl) (Nat.le_of_ble_eq_true rfl) (wp_iload_n (dc kd_Ig_bitCount 32 rfl) rfl (wp_iload_n (dc kd_Ig_bitCount 33 rfl) rfl (wp_bipush (dc kd_Ig_bitCount 34 rfl) 16 bp_16 (wp_iushr (dc kd_Ig_bitCount 35 rfl) (wp_iadd (dc kd_Ig_bitCount 36 rfl) (wp_nm (fun y4 ey4 => (wp_istore_n (dc kd_Ig_bitCount 37 rfl) (Nat.le_of_ble_eq_true rfl) (wp_iload_n (dc kd_Ig_bitCount 38 rfl) rfl (wp_bipush (dc kd_Ig_bitCount 39 rfl) 63 bp_63 (wp_iand (dc kd_Ig_bitCount 40 rfl) (wp_iret (dc kd_Ig_bitCount 41 rfl) rfl ⟨_, rfl, (((((H y0 ey0) y1 ey1) y2 ey2) y3 ey3) y4 ey4)⟩))))))))))))))))))))))))))))))))))))))))))))))))))))
set_option maxRecDepth 100000 in
theorem e_Ig_lowestOneBit {sh : List Sh} {d : Nat} {a0 : Int32} {mem : Mem} {K : Int32 → Mem → Prop}  (H : K (a0 &&& (-a0)) mem) : CI sh m_Ig_lowestOneBit d [.int a0] mem K := cll_of [some (.int a0)] ok_Ig_lowestOneBit (Nat.le_of_ble_eq_true rfl) rfl (wp_iload_n (dc kd_Ig_lowestOneBit 0 rfl) rfl (wp_iload_n (dc kd_Ig_lowestOneBit 1 rfl) rfl (wp_ineg (dc kd_Ig_lowestOneBit 2 rfl) (wp_iand (dc kd_Ig_lowestOneBit 3 rfl) (wp_iret (dc kd_Ig_lowestOneBit 4 rfl) rfl ⟨_, rfl, H⟩)))))
set_option maxRecDepth 100000 in
theorem e_Ig_numberOfTrailingZeros {sh : List Sh} {d : Nat} {a0 : Int32} {mem : Mem} {K : Int32 → Mem → Prop}  (H : (0 < ((a0 ^^^ (-1)) &&& (a0 - 1)) → (((a0 ^^^ (-1)) &&& (a0 - 1)) ≤ 65536 → Wp sh m_Ig_numberOfTrailingZeros d 34 [some (.int ((a0 ^^^ (-1)) &&& (a0 - 1))), some (.int 1)] [] mem (QI K)) ∧ (¬ ((a0 ^^^ (-1)) &&& (a0 - 1)) ≤ 65536 → ∀ y0 : Int32, y0 = (((a0 ^^^ (-1)) &&& (a0 - 1)).toUInt32 >>> ((16 : Int32).toUInt32 &&& Int32.toUInt32 31)).toInt32 → Wp sh m_Ig_numberOfTrailingZeros d 34 [some (.int y0), some (.int (1 + 16))] [] mem (QI K))) ∧ (¬ 0 < ((a0 ^^^ (-1)) &&& (a0 - 1)) → K (((a0 ^^^ (-1)) &&& (a0 - 1)) &&& 32) mem)) : CI sh m_Ig_numberOfTrailingZeros d [.int a0] mem K := cll_of [some (.int a0), none] ok_Ig_numberOfTrailingZeros (Nat.le_of_ble_eq_true rfl) rfl (wp_iload_n (dc kd_Ig_numberOfTrailingZeros 0 rfl) rfl (wp_iconst (dc kd_Ig_numberOfTrailingZeros 1 rfl) (-1) ic_m1 (wp_ixor (dc kd_Ig_numberOfTrailingZeros 2 rfl) (wp_iload_n (dc kd_Ig_numberOfTrailingZeros 3 rfl) rfl (wp_iconst (dc kd_Ig_numberOfTrailingZeros 4 rfl) 1 ic_1 (wp_isub (dc kd_Ig_numberOfTrailingZeros 5 rfl) (wp_iand (dc kd_Ig_numberOfTrailingZeros 6 rfl) (wp_istore_n (dc kd_Ig_numberOfTrailingZeros 7 rfl) (Nat.le_of_ble_eq_true rfl) (wp_iload_n (dc kd_Ig_numberOfTrailingZeros 8 rfl) rfl (wp_if_gt (tgt := 17) (dc kd_Ig_numberOfTrailingZeros 9 rfl) rfl (fun c0 => (wp_iconst (dc kd_Ig_numberOfTrailingZeros 14 rfl) 1 ic_1 (wp_istore_n (dc kd_Ig_numberOfTrailingZeros 15 rfl) (Nat.le_of_ble_eq_true rfl) (wp_iload_n (dc kd_Ig_numberOfTrailingZeros 16 rfl) rfl (wp_ldcw 65536 (dc kd_Ig_numberOfTrailingZeros 17 rfl) (List.mem_of_getElem? (i := 744) (by decide +kernel)) (wp_icmp_le (tgt := 34) (dc kd_Ig_numberOfTrailingZeros 18 rfl) rfl (fun c1 => ((H.1 c0).1 c1)) (fun c1 => (wp_iinc (dc kd_Ig_numberOfTrailingZeros 19 rfl) rfl (Nat.le_of_ble_eq_true rfl) (1 + 16) (ii_16 _) (wp_iload_n (dc kd_Ig_numberOfTrailingZeros 20 rfl) rfl (wp_bipush (dc kd_Ig_numberOfTrailingZeros 21 rfl) 16 bp_16 (wp_iushr (dc kd_Ig_numberOfTrailingZeros 22 rfl) (wp_nm (fun y0 ey0 => (wp_istore_n (dc kd_Ig_numberOfTrailingZeros 23 rfl) (Nat.le_of_ble_eq_true rfl) (((H.1 c0).2 c1) y0 ey0))))))))))))))) (fun c0 => (wp_iload_n (dc kd_Ig_numberOfTrailingZeros 10 rfl) rfl (wp_bipush (dc kd_Ig_numberOfTrailingZeros 11 rfl) 32 bp_32 (wp_iand (dc kd_Ig_numberOfTrailingZeros 12 rfl) (wp_iret (dc kd_Ig_numberOfTrailingZeros 13 rfl) rfl ⟨_, rfl, (H.2 c0)⟩)))))))))))))))
set_option maxRecDepth 100000 in
theorem b_Ig_numberOfTrailingZeros_34 {sh : List Sh} {d : Nat} {x0 : Int32} {x1 : Int32} {mem : Mem} {K : Int32 → Mem → Prop}  (H : (x0 ≤ 256 → Wp sh m_Ig_numberOfTrailingZeros d 49 [some (.int x0), some (.int x1)] [] mem (QI K)) ∧ (¬ x0 ≤ 256 → Wp sh m_Ig_numberOfTrailingZeros d 49 [some (.int ((x0.toUInt32 >>> ((8 : Int32).toUInt32 &&& Int32.toUInt32 31)).toInt32)), some (.int (x1 + 8))] [] mem (QI K))) : Wp sh m_Ig_numberOfTrailingZeros d 34 [some (.int x0), some (.int x1)] [] mem (QI K) := (wp_iload_n (dc kd_Ig_numberOfTrailingZeros 24 rfl) rfl (wp_sipush (dc kd_Ig_numberOfTrailingZeros 25 rfl) 256 sp_256 (wp_icmp_le (tgt := 49) (dc kd_Ig_numberOfTrailingZeros 26 rfl) rfl (fun c0 => (H.1 c0)) (fun c0 => (wp_iinc (dc kd_Ig_numberOfTrailingZeros 27 rfl) rfl (Nat.le_of_ble_eq_true rfl) (x1 + 8) (ii_8 _) (wp_iload_n (dc kd_Ig_numberOfTrailingZeros 28 rfl) rfl (wp_bipush (dc kd_Ig_numberOfTrailingZeros 29 rfl) 8 bp_8 (wp_iushr (dc kd_Ig_numberOfTrailingZeros 30 rfl) (wp_istore_n (dc kd_Ig_numberOfTrailingZeros 31 rfl) (Nat.le_of_ble_eq_true rfl) (H.2 c0))))))))))
set_option maxRecDepth 100000 in
theorem b_Ig_numberOfTrailingZeros_49 {sh : List Sh} {d : Nat} {x0 : Int32} {x1 : Int32} {mem : Mem} {K : Int32 → Mem → Prop}  (H : (x0 ≤ 16 → (x0 ≤ 4 → K (x1 + ((x0.toUInt32 >>> ((1 : Int32).toUInt32 &&& Int32.toUInt32 31)).toInt32)) mem) ∧ (¬ x0 ≤ 4 → K ((x1 + 2) + ((((x0.toUInt32 >>> ((2 : Int32).toUInt32 &&& Int32.toUInt32 31)).toInt32).toUInt32 >>> ((1 : Int32).toUInt32 &&& Int32.toUInt32 31)).toInt32)) mem)) ∧ (¬ x0 ≤ 16 → (((x0.toUInt32 >>> ((4 : Int32).toUInt32 &&& Int32.toUInt32 31)).toInt32) ≤ 4 → K ((x1 + 4) + ((((x0.toUInt32 >>> ((4 : Int32).toUInt32 &&& Int32.toUInt32 31)).toInt32).toUInt32 >>> ((1 : Int32).toUInt32 &&& Int32.toUInt32 31)).toInt32)) mem) ∧ (¬ ((x0.toUInt32 >>> ((4 : Int32).toUInt32 &&& Int32.toUInt32 31)).toInt32) ≤ 4 → ∀ y0 : Int32, y0 = (((x0.toUInt32 >>> ((4 : Int32).toUInt32 &&& Int32.toUInt32 31)).toInt32).toUInt32 >>> ((2 : Int32).toUInt32 &&& Int32.toUInt32 31)).toInt32 → K (((x1 + 4) + 2) + ((y0.toUInt32 >>> ((1 : Int32).toUInt32 &&& Int32.toUInt32 31)).toInt32)) mem))) : Wp sh m_Ig_numberOfTrailingZeros d 49 [some (.int x0), some (.int x1)] [] mem (QI K) := (wp_iload_n (dc kd_Ig_numberOfTrailingZeros 32 rfl) rfl (wp_bipush (dc kd_Ig_numberOfTrailingZeros 33 rfl) 16 bp_16 (wp_icmp_le (tgt := 62) (dc kd_Ig_numberOfTrailingZeros 34 rfl) rfl (fun c0 => (wp_iload_n (dc kd_Ig_numberOfTrailingZeros 40 rfl) rfl (wp_iconst (dc kd_Ig_numberOfTrailingZeros 41 rfl) 4 ic_4 (wp_icmp_le (tgt := 74) (dc kd_Ig_numberOfTrailingZeros 42 rfl) rfl (fun c1 => (wp_iload_n (dc kd_Ig_numberOfTrailingZeros 48 rfl) rfl (wp_iload_n (dc kd_Ig_numberOfTrailingZeros 49 rfl) rfl (wp_iconst (dc kd_Ig_numberOfTrailingZeros 50 rfl) 1 ic_1 (wp_iushr (dc kd_Ig_numberOfTrailingZeros 51 rfl) (wp_iadd (dc kd_Ig_numberOfTrailingZeros 52 rfl) (wp_iret (dc kd_Ig_numberOfTrailingZeros 53 rfl) rfl ⟨_, rfl, ((H.1 c0).1 c1)⟩))))))) (fun c1 => (wp_iinc (dc kd_Ig_numberOfTrailingZeros 43 rfl) rfl (Nat.le_of_ble_eq_true rfl) (x1 + 2) (ii_2 _) (wp_iload_n (dc kd_Ig_numberOfTrailingZeros 44 rfl) rfl (wp_iconst (dc kd_Ig_numberOfTrailingZeros 45 rfl) 2 ic_2 (wp_iushr (dc kd_Ig_numberOfTrailingZeros 46 rfl) (wp_istore_n (dc kd_Ig_numberOfTrailingZeros 47 rfl) (Nat.le_of_ble_eq_true rfl) (wp_iload_n (dc kd_Ig_numberOfTrailingZeros 48 rfl) rfl (wp_iload_n (dc kd_Ig_numberOfTrailingZeros 49 rfl) rfl (wp_iconst (dc kd_Ig_numberOfTrailingZeros 50 rfl) 1 ic_1 (wp_iushr (dc kd_Ig_numberOfTrailingZeros 51 rfl) (wp_iadd (dc kd_Ig_numberOfTrailingZeros 52 rfl) (wp_iret (dc kd_Ig_numberOfTrailingZeros 53 rfl) rfl ⟨_, rfl, ((H.1 c0).2 c1)⟩)))))))))))))))) (fun c0 => (wp_iinc (dc kd_Ig_numberOfTrailingZeros 35 rfl) rfl (Nat.le_of_ble_eq_true rfl) (x1 + 4) (ii_4 _) (wp_iload_n (dc kd_Ig_numberOfTrailingZeros 36 rfl) rfl (wp_iconst (dc kd_Ig_numberOfTrailingZeros 37 rfl) 4 ic_4 (wp_iushr (dc kd_Ig_numberOfTrailingZeros 38 rfl) (wp_istore_n (dc kd_Ig_numberOfTrailingZeros 39 rfl) (Nat.le_of_ble_eq_true rfl) (wp_iload_n (dc kd_Ig_numberOfTrailingZeros 40 rfl) rfl (wp_iconst (dc kd_Ig_numberOfTrailingZeros 41 rfl) 4 ic_4 (wp_icmp_le (tgt := 74) (dc kd_Ig_numberOfTrailingZeros 42 rfl) rfl (fun c1 => (wp_iload_n (dc kd_Ig_numberOfTrailingZeros 48 rfl) rfl (wp_iload_n (dc kd_Ig_numberOfTrailingZeros 49 rfl) rfl (wp_iconst (dc kd_Ig_numberOfTrailingZeros 50 rfl) 1 ic_1 (wp_iushr (dc kd_Ig_numberOfTrailingZeros 51 rfl) (wp_iadd (dc kd_Ig_numberOfTrailingZeros 52 rfl) (wp_iret (dc kd_Ig_numberOfTrailingZeros 53 rfl) rfl ⟨_, rfl, ((H.2 c0).1 c1)⟩))))))) (fun c1 => (wp_iinc (dc kd_Ig_numberOfTrailingZeros 43 rfl) rfl (Nat.le_of_ble_eq_true rfl) ((x1 + 4) + 2) (ii_2 _) (wp_iload_n (dc kd_Ig_numberOfTrailingZeros 44 rfl) rfl (wp_iconst (dc kd_Ig_numberOfTrailingZeros 45 rfl) 2 ic_2 (wp_iushr (dc kd_Ig_numberOfTrailingZeros 46 rfl) (wp_nm (fun y0 ey0 => (wp_istore_n (dc kd_Ig_numberOfTrailingZeros 47 rfl) (Nat.le_of_ble_eq_true rfl) (wp_iload_n (dc kd_Ig_numberOfTrailingZeros 48 rfl) rfl (wp_iload_n (dc kd_Ig_numberOfTrailingZeros 49 rfl) rfl (wp_iconst (dc kd_Ig_numberOfTrailingZeros 50 rfl) 1 ic_1 (wp_iushr (dc kd_Ig_numberOfTrailingZeros 51 rfl) (wp_iadd (dc kd_Ig_numberOfTrailingZeros 52 rfl) (wp_iret (dc kd_Ig_numberOfTrailingZeros 53 rfl) rfl ⟨_, rfl, (((H.2 c0).2 c1) y0 ey0)⟩))))))))))))))))))))))))))
set_option maxRecDepth 100000 in
theorem e_Family_at {d : Nat} {f : Nat} {a0 : Int32} {mem : Mem} {K : Int32 → Mem → Prop} (hf : IsF f) (H : (a0 < 0 → K 0 mem) ∧ (¬ a0 < 0 → (17 ≤ a0 → K 0 mem) ∧ (¬ 17 ≤ a0 → vp_in a0 17 ∧ (K (mem (f + 1) a0.toNatClampNeg) mem)))) : CI shX m_Family_at d [.ref f, .int a0] mem K := cll_of [some (.ref f), some (.int a0)] ok_Family_at (Nat.le_of_ble_eq_true rfl) rfl (wp_iload_n (dc kd_Family_at 0 rfl) rfl (wp_if_lt (tgt := 22) (dc kd_Family_at 1 rfl) rfl (fun c0 => (wp_iconst (dc kd_Family_at 12 rfl) 0 ic_0 (wp_iret (dc kd_Family_at 13 rfl) rfl ⟨_, rfl, (H.1 c0)⟩))) (fun c0 => (wp_iload_n (dc kd_Family_at 2 rfl) rfl (wp_aload_n (dc kd_Family_at 3 rfl) rfl (wp_getR (r := (f + 1)) (dc kd_Family_at 4 rfl) fl_Family_9 hf.1 rfl (wp_alen 17 (dc kd_Family_at 5 rfl) hf.2 (by decide) al_17 (wp_icmp_ge (tgt := 22) (dc kd_Family_at 6 rfl) rfl (fun c1 => (wp_iconst (dc kd_Family_at 12 rfl) 0 ic_0 (wp_iret (dc kd_Family_at 13 rfl) rfl ⟨_, rfl, ((H.2 c0).1 c1)⟩))) (fun c1 => (wp_aload_n (dc kd_Family_at 7 rfl) rfl (wp_getR (r := (f + 1)) (dc kd_Family_at 8 rfl) fl_Family_9 hf.1 rfl (wp_iload_n (dc kd_Family_at 9 rfl) rfl (wp_iald (dc kd_Family_at 10 rfl) hf.2 ((H.2 c0).2 c1).1 (wp_goto (tgt := 23) (dc kd_Family_at 11 rfl) rfl (wp_iret (dc kd_Family_at 13 rfl) rfl ⟨_, rfl, ((H.2 c0).2 c1).2⟩)))))))))))))))
set_option maxRecDepth 100000 in
theorem e_Family_allPoints {d : Nat} {f : Nat} {mem : Mem} {K : Int32 → Mem → Prop} (hf : IsF f) (H : K (((1 : Int32) <<< ((mem f 2) &&& 31)) - 1) mem) : CI shX m_Family_allPoints d [.ref f] mem K := cll_of [some (.ref f)] ok_Family_allPoints (Nat.le_of_ble_eq_true rfl) rfl (wp_iconst (dc kd_Family_allPoints 0 rfl) 1 ic_1 (wp_aload_n (dc kd_Family_allPoints 1 rfl) rfl (wp_getI (dc kd_Family_allPoints 2 rfl) fl_Family_19 hf.1 rfl (wp_ishl (dc kd_Family_allPoints 3 rfl) (wp_iconst (dc kd_Family_allPoints 4 rfl) 1 ic_1 (wp_isub (dc kd_Family_allPoints 5 rfl) (wp_iret (dc kd_Family_allPoints 6 rfl) rfl ⟨_, rfl, H⟩)))))))
set_option maxRecDepth 100000 in
theorem e_Family_allSets {d : Nat} {f : Nat} {mem : Mem} {K : Int32 → Mem → Prop} (hf : IsF f) (H : K (((1 : Int32) <<< ((mem f 1) &&& 31)) - 1) mem) : CI shX m_Family_allSets d [.ref f] mem K := cll_of [some (.ref f)] ok_Family_allSets (Nat.le_of_ble_eq_true rfl) rfl (wp_iconst (dc kd_Family_allSets 0 rfl) 1 ic_1 (wp_aload_n (dc kd_Family_allSets 1 rfl) rfl (wp_getI (dc kd_Family_allSets 2 rfl) fl_Family_15 hf.1 rfl (wp_ishl (dc kd_Family_allSets 3 rfl) (wp_iconst (dc kd_Family_allSets 4 rfl) 1 ic_1 (wp_isub (dc kd_Family_allSets 5 rfl) (wp_iret (dc kd_Family_allSets 6 rfl) rfl ⟨_, rfl, H⟩)))))))
set_option maxRecDepth 100000 in
theorem e_Family_isPoint {d : Nat} {f : Nat} {a0 : Int32} {mem : Mem} {K : Int32 → Mem → Prop} (hf : IsF f) (H : (a0 < 0 → K 0 mem) ∧ (¬ a0 < 0 → ((mem f 2) ≤ a0 → K 0 mem) ∧ (¬ (mem f 2) ≤ a0 → K 1 mem))) : CI shX m_Family_isPoint d [.ref f, .int a0] mem K := cll_of [some (.ref f), some (.int a0)] ok_Family_isPoint (Nat.le_of_ble_eq_true rfl) rfl (wp_iload_n (dc kd_Family_isPoint 0 rfl) rfl (wp_if_lt (tgt := 16) (dc kd_Family_isPoint 1 rfl) rfl (fun c0 => (wp_iconst (dc kd_Family_isPoint 8 rfl) 0 ic_0 (wp_zret (dc kd_Family_isPoint 9 rfl) rfl (Or.inl rfl) ⟨_, rfl, (H.1 c0)⟩))) (fun c0 => (wp_iload_n (dc kd_Family_isPoint 2 rfl) rfl (wp_aload_n (dc kd_Family_isPoint 3 rfl) rfl (wp_getI (dc kd_Family_isPoint 4 rfl) fl_Family_19 hf.1 rfl (wp_icmp_ge (tgt := 16) (dc kd_Family_isPoint 5 rfl) rfl (fun c1 => (wp_iconst (dc kd_Family_isPoint 8 rfl) 0 ic_0 (wp_zret (dc kd_Family_isPoint 9 rfl) rfl (Or.inl rfl) ⟨_, rfl, ((H.2 c0).1 c1)⟩))) (fun c1 => (wp_iconst (dc kd_Family_isPoint 6 rfl) 1 ic_1 (wp_goto (tgt := 17) (dc kd_Family_isPoint 7 rfl) rfl (wp_zret (dc kd_Family_isPoint 9 rfl) rfl (Or.inr rfl) ⟨_, rfl, ((H.2 c0).2 c1)⟩)))))))))))
set_option maxRecDepth 100000 in
theorem e_Family_holds {d : Nat} {f : Nat} {a0 : Int32} {mem : Mem} {K : Int32 → Mem → Prop} (hf : IsF f) (H : (a0 < 0 → K 0 mem) ∧ (¬ a0 < 0 → ((mem f 1) ≤ a0 → K 0 mem) ∧ (¬ (mem f 1) ≤ a0 → K 1 mem))) : CI shX m_Family_holds d [.ref f, .int a0] mem K := cll_of [some (.ref f), some (.int a0)] ok_Family_holds (Nat.le_of_ble_eq_true rfl) rfl (wp_iload_n (dc kd_Family_holds 0 rfl) rfl (wp_if_lt (tgt := 16) (dc kd_Family_holds 1 rfl) rfl (fun c0 => (wp_iconst (dc kd_Family_holds 8 rfl) 0 ic_0 (wp_zret (dc kd_Family_holds 9 rfl) rfl (Or.inl rfl) ⟨_, rfl, (H.1 c0)⟩))) (fun c0 => (wp_iload_n (dc kd_Family_holds 2 rfl) rfl (wp_aload_n (dc kd_Family_holds 3 rfl) rfl (wp_getI (dc kd_Family_holds 4 rfl) fl_Family_15 hf.1 rfl (wp_icmp_ge (tgt := 16) (dc kd_Family_holds 5 rfl) rfl (fun c1 => (wp_iconst (dc kd_Family_holds 8 rfl) 0 ic_0 (wp_zret (dc kd_Family_holds 9 rfl) rfl (Or.inl rfl) ⟨_, rfl, ((H.2 c0).1 c1)⟩))) (fun c1 => (wp_iconst (dc kd_Family_holds 6 rfl) 1 ic_1 (wp_goto (tgt := 17) (dc kd_Family_holds 7 rfl) rfl (wp_zret (dc kd_Family_holds 9 rfl) rfl (Or.inr rfl) ⟨_, rfl, ((H.2 c0).2 c1)⟩)))))))))))
set_option maxRecDepth 100000 in
theorem e_PS_isBudget {d : Nat} {a0 : Int32} {mem : Mem} {K : Int32 → Mem → Prop}  (H : (a0 < 1 → K 0 mem) ∧ (¬ a0 < 1 → (5 < a0 → K 0 mem) ∧ (¬ 5 < a0 → K 1 mem))) : CI shX m_PS_isBudget d [.int a0] mem K := cll_of [some (.int a0)] ok_PS_isBudget (Nat.le_of_ble_eq_true rfl) rfl (wp_iload_n (dc kd_PS_isBudget 0 rfl) rfl (wp_iconst (dc kd_PS_isBudget 1 rfl) 1 ic_1 (wp_icmp_lt (tgt := 14) (dc kd_PS_isBudget 2 rfl) rfl (fun c0 => (wp_iconst (dc kd_PS_isBudget 8 rfl) 0 ic_0 (wp_zret (dc kd_PS_isBudget 9 rfl) rfl (Or.inl rfl) ⟨_, rfl, (H.1 c0)⟩))) (fun c0 => (wp_iload_n (dc kd_PS_isBudget 3 rfl) rfl (wp_iconst (dc kd_PS_isBudget 4 rfl) 5 ic_5 (wp_icmp_gt (tgt := 14) (dc kd_PS_isBudget 5 rfl) rfl (fun c1 => (wp_iconst (dc kd_PS_isBudget 8 rfl) 0 ic_0 (wp_zret (dc kd_PS_isBudget 9 rfl) rfl (Or.inl rfl) ⟨_, rfl, ((H.2 c0).1 c1)⟩))) (fun c1 => (wp_iconst (dc kd_PS_isBudget 6 rfl) 1 ic_1 (wp_goto (tgt := 15) (dc kd_PS_isBudget 7 rfl) rfl (wp_zret (dc kd_PS_isBudget 9 rfl) rfl (Or.inr rfl) ⟨_, rfl, ((H.2 c0).2 c1)⟩)))))))))))
set_option maxRecDepth 100000 in
theorem e_PS_isFlowerSize {d : Nat} {a0 : Int32} {mem : Mem} {K : Int32 → Mem → Prop}  (H : (a0 < 2 → K 0 mem) ∧ (¬ a0 < 2 → (16 < a0 → K 0 mem) ∧ (¬ 16 < a0 → K 1 mem))) : CI shX m_PS_isFlowerSize d [.int a0] mem K := cll_of [some (.int a0)] ok_PS_isFlowerSize (Nat.le_of_ble_eq_true rfl) rfl (wp_iload_n (dc kd_PS_isFlowerSize 0 rfl) rfl (wp_iconst (dc kd_PS_isFlowerSize 1 rfl) 2 ic_2 (wp_icmp_lt (tgt := 15) (dc kd_PS_isFlowerSize 2 rfl) rfl (fun c0 => (wp_iconst (dc kd_PS_isFlowerSize 8 rfl) 0 ic_0 (wp_zret (dc kd_PS_isFlowerSize 9 rfl) rfl (Or.inl rfl) ⟨_, rfl, (H.1 c0)⟩))) (fun c0 => (wp_iload_n (dc kd_PS_isFlowerSize 3 rfl) rfl (wp_bipush (dc kd_PS_isFlowerSize 4 rfl) 16 bp_16 (wp_icmp_gt (tgt := 15) (dc kd_PS_isFlowerSize 5 rfl) rfl (fun c1 => (wp_iconst (dc kd_PS_isFlowerSize 8 rfl) 0 ic_0 (wp_zret (dc kd_PS_isFlowerSize 9 rfl) rfl (Or.inl rfl) ⟨_, rfl, ((H.2 c0).1 c1)⟩))) (fun c1 => (wp_iconst (dc kd_PS_isFlowerSize 6 rfl) 1 ic_1 (wp_goto (tgt := 16) (dc kd_PS_isFlowerSize 7 rfl) rfl (wp_zret (dc kd_PS_isFlowerSize 9 rfl) rfl (Or.inr rfl) ⟨_, rfl, ((H.2 c0).2 c1)⟩)))))))))))
set_option maxRecDepth 100000 in
theorem e_Tape_at {d : Nat} {a0 : Int32} {mem : Mem} {K : Int32 → Mem → Prop}  (H : (a0 < 0 → K (-1) mem) ∧ (¬ a0 < 0 → ((mem 8 1) ≤ a0 → K (-1) mem) ∧ (¬ (mem 8 1) ≤ a0 → (400 ≤ a0 → K (-1) mem) ∧ (¬ 400 ≤ a0 → vp_in a0 400 ∧ (K ((mem 9 a0.toNatClampNeg) &&& 255) mem))))) : CI shX m_Tape_at d [.ref 8, .int a0] mem K := cll_of [some (.ref 8), some (.int a0)] ok_Tape_at (Nat.le_of_ble_eq_true rfl) rfl (wp_iload_n (dc kd_Tape_at 0 rfl) rfl (wp_if_lt (tgt := 34) (dc kd_Tape_at 1 rfl) rfl (fun c0 => (wp_iconst (dc kd_Tape_at 18 rfl) (-1) ic_m1 (wp_iret (dc kd_Tape_at 19 rfl) rfl ⟨_, rfl, (H.1 c0)⟩))) (fun c0 => (wp_iload_n (dc kd_Tape_at 2 rfl) rfl (wp_aload_n (dc kd_Tape_at 3 rfl) rfl (wp_getI (dc kd_Tape_at 4 rfl) fl_Tape_15 rfl rfl (wp_icmp_ge (tgt := 34) (dc kd_Tape_at 5 rfl) rfl (fun c1 => (wp_iconst (dc kd_Tape_at 18 rfl) (-1) ic_m1 (wp_iret (dc kd_Tape_at 19 rfl) rfl ⟨_, rfl, ((H.2 c0).1 c1)⟩))) (fun c1 => (wp_iload_n (dc kd_Tape_at 6 rfl) rfl (wp_aload_n (dc kd_Tape_at 7 rfl) rfl (wp_getR (r := 9) (dc kd_Tape_at 8 rfl) fl_Tape_9 rfl rfl (wp_alen 400 (dc kd_Tape_at 9 rfl) rfl (by decide) al_400 (wp_icmp_ge (tgt := 34) (dc kd_Tape_at 10 rfl) rfl (fun c2 => (wp_iconst (dc kd_Tape_at 18 rfl) (-1) ic_m1 (wp_iret (dc kd_Tape_at 19 rfl) rfl ⟨_, rfl, (((H.2 c0).2 c1).1 c2)⟩))) (fun c2 => (wp_aload_n (dc kd_Tape_at 11 rfl) rfl (wp_getR (r := 9) (dc kd_Tape_at 12 rfl) fl_Tape_9 rfl rfl (wp_iload_n (dc kd_Tape_at 13 rfl) rfl (wp_bald (dc kd_Tape_at 14 rfl) rfl (((H.2 c0).2 c1).2 c2).1 (wp_sipush (dc kd_Tape_at 15 rfl) 255 sp_255 (wp_iand (dc kd_Tape_at 16 rfl) (wp_goto (tgt := 35) (dc kd_Tape_at 17 rfl) rfl (wp_iret (dc kd_Tape_at 19 rfl) rfl ⟨_, rfl, (((H.2 c0).2 c1).2 c2).2⟩))))))))))))))))))))))
set_option maxRecDepth 100000 in
theorem e_Touch_touched {d : Nat} {a0 : Int32} {mem : Mem} {K : Int32 → Mem → Prop}  (H : (a0 < 0 → K 0 mem) ∧ (¬ a0 < 0 → (1024 ≤ a0 → K 0 mem) ∧ (¬ 1024 ≤ a0 → vp_in a0 1024 ∧ (K (mem 13 a0.toNatClampNeg) mem)))) : CI shX m_Touch_touched d [.ref 11, .int a0] mem K := cll_of [some (.ref 11), some (.int a0)] ok_Touch_touched (Nat.le_of_ble_eq_true rfl) rfl (wp_iload_n (dc kd_Touch_touched 0 rfl) rfl (wp_if_lt (tgt := 22) (dc kd_Touch_touched 1 rfl) rfl (fun c0 => (wp_iconst (dc kd_Touch_touched 12 rfl) 0 ic_0 (wp_iret (dc kd_Touch_touched 13 rfl) rfl ⟨_, rfl, (H.1 c0)⟩))) (fun c0 => (wp_iload_n (dc kd_Touch_touched 2 rfl) rfl (wp_aload_n (dc kd_Touch_touched 3 rfl) rfl (wp_getR (r := 13) (dc kd_Touch_touched 4 rfl) fl_Touch_15 rfl rfl (wp_alen 1024 (dc kd_Touch_touched 5 rfl) rfl (by decide) al_1024 (wp_icmp_ge (tgt := 22) (dc kd_Touch_touched 6 rfl) rfl (fun c1 => (wp_iconst (dc kd_Touch_touched 12 rfl) 0 ic_0 (wp_iret (dc kd_Touch_touched 13 rfl) rfl ⟨_, rfl, ((H.2 c0).1 c1)⟩))) (fun c1 => (wp_aload_n (dc kd_Touch_touched 7 rfl) rfl (wp_getR (r := 13) (dc kd_Touch_touched 8 rfl) fl_Touch_15 rfl rfl (wp_iload_n (dc kd_Touch_touched 9 rfl) rfl (wp_iald (dc kd_Touch_touched 10 rfl) rfl ((H.2 c0).2 c1).1 (wp_goto (tgt := 23) (dc kd_Touch_touched 11 rfl) rfl (wp_iret (dc kd_Touch_touched 13 rfl) rfl ⟨_, rfl, ((H.2 c0).2 c1).2⟩)))))))))))))))
set_option maxRecDepth 100000 in
theorem e_Mo_in {d : Nat} {a0 : Int32} {a1 : Int32} {a2 : Int32} {mem : Mem} {K : Int32 → Mem → Prop}  (H : (a0 < a1 → K 0 mem) ∧ (¬ a0 < a1 → (a2 < a0 → K 0 mem) ∧ (¬ a2 < a0 → K 1 mem))) : CI shM m_Mo_in d [.int a0, .int a1, .int a2] mem K := cll_of [some (.int a0), some (.int a1), some (.int a2)] ok_Mo_in (Nat.le_of_ble_eq_true rfl) rfl (wp_iload_n (dc kd_Mo_in 0 rfl) rfl (wp_iload_n (dc kd_Mo_in 1 rfl) rfl (wp_icmp_lt (tgt := 14) (dc kd_Mo_in 2 rfl) rfl (fun c0 => (wp_iconst (dc kd_Mo_in 8 rfl) 0 ic_0 (wp_zret (dc kd_Mo_in 9 rfl) rfl (Or.inl rfl) ⟨_, rfl, (H.1 c0)⟩))) (fun c0 => (wp_iload_n (dc kd_Mo_in 3 rfl) rfl (wp_iload_n (dc kd_Mo_in 4 rfl) rfl (wp_icmp_gt (tgt := 14) (dc kd_Mo_in 5 rfl) rfl (fun c1 => (wp_iconst (dc kd_Mo_in 8 rfl) 0 ic_0 (wp_zret (dc kd_Mo_in 9 rfl) rfl (Or.inl rfl) ⟨_, rfl, ((H.2 c0).1 c1)⟩))) (fun c1 => (wp_iconst (dc kd_Mo_in 6 rfl) 1 ic_1 (wp_goto (tgt := 15) (dc kd_Mo_in 7 rfl) rfl (wp_zret (dc kd_Mo_in 9 rfl) rfl (Or.inr rfl) ⟨_, rfl, ((H.2 c0).2 c1)⟩)))))))))))
set_option maxRecDepth 100000 in
theorem e_Mo_has {d : Nat} {a0 : Int32} {a1 : Int32} {mem : Mem} {K : Int32 → Mem → Prop}  (H : (¬ ((a0 >>> (a1 &&& 31)) &&& 1) = 1 → K 0 mem) ∧ (((a0 >>> (a1 &&& 31)) &&& 1) = 1 → K 1 mem)) : CI shM m_Mo_has d [.int a0, .int a1] mem K := cll_of [some (.int a0), some (.int a1)] ok_Mo_has (Nat.le_of_ble_eq_true rfl) rfl (wp_iload_n (dc kd_Mo_has 0 rfl) rfl (wp_iload_n (dc kd_Mo_has 1 rfl) rfl (wp_ishr (dc kd_Mo_has 2 rfl) (wp_iconst (dc kd_Mo_has 3 rfl) 1 ic_1 (wp_iand (dc kd_Mo_has 4 rfl) (wp_iconst (dc kd_Mo_has 5 rfl) 1 ic_1 (wp_icmp_ne (tgt := 13) (dc kd_Mo_has 6 rfl) rfl (fun c0 => (wp_iconst (dc kd_Mo_has 9 rfl) 0 ic_0 (wp_zret (dc kd_Mo_has 10 rfl) rfl (Or.inl rfl) ⟨_, rfl, (H.1 c0)⟩))) (fun c0 => (wp_iconst (dc kd_Mo_has 7 rfl) 1 ic_1 (wp_goto (tgt := 14) (dc kd_Mo_has 8 rfl) rfl (wp_zret (dc kd_Mo_has 10 rfl) rfl (Or.inr rfl) ⟨_, rfl, (H.2 c0)⟩)))))))))))
set_option maxRecDepth 100000 in
theorem e_Mo_isWithin {d : Nat} {a0 : Int32} {a1 : Int32} {mem : Mem} {K : Int32 → Mem → Prop}  (H : (¬ (a0 &&& (a1 ^^^ (-1))) = 0 → K 0 mem) ∧ ((a0 &&& (a1 ^^^ (-1))) = 0 → K 1 mem)) : CI shM m_Mo_isWithin d [.int a0, .int a1] mem K := cll_of [some (.int a0), some (.int a1)] ok_Mo_isWithin (Nat.le_of_ble_eq_true rfl) rfl (wp_iload_n (dc kd_Mo_isWithin 0 rfl) rfl (wp_iload_n (dc kd_Mo_isWithin 1 rfl) rfl (wp_iconst (dc kd_Mo_isWithin 2 rfl) (-1) ic_m1 (wp_ixor (dc kd_Mo_isWithin 3 rfl) (wp_iand (dc kd_Mo_isWithin 4 rfl) (wp_if_ne (tgt := 12) (dc kd_Mo_isWithin 5 rfl) rfl (fun c0 => (wp_iconst (dc kd_Mo_isWithin 8 rfl) 0 ic_0 (wp_zret (dc kd_Mo_isWithin 9 rfl) rfl (Or.inl rfl) ⟨_, rfl, (H.1 c0)⟩))) (fun c0 => (wp_iconst (dc kd_Mo_isWithin 6 rfl) 1 ic_1 (wp_goto (tgt := 13) (dc kd_Mo_isWithin 7 rfl) rfl (wp_zret (dc kd_Mo_isWithin 9 rfl) rfl (Or.inr rfl) ⟨_, rfl, (H.2 c0)⟩))))))))))
set_option maxRecDepth 100000 in
theorem e_Mo_many {d : Nat}  {mem : Mem} {K : Int32 → Mem → Prop}  (H : K (mem 1 1) mem) : CI shM m_Mo_many d [.ref 0] mem K := cll_of [some (.ref 0)] ok_Mo_many (Nat.le_of_ble_eq_true rfl) rfl (wp_aload_n (dc kd_Mo_many 0 rfl) rfl (wp_getR (r := 1) (dc kd_Mo_many 1 rfl) fl_Mo_13 rfl rfl (wp_iconst (dc kd_Mo_many 2 rfl) 1 ic_1 (wp_iald (dc kd_Mo_many 3 rfl) rfl (vin rfl) (wp_iret (dc kd_Mo_many 4 rfl) rfl ⟨_, rfl, H⟩)))))
set_option maxRecDepth 100000 in
theorem e_Mo_its {d : Nat} {a0 : Int32} {mem : Mem} {K : Int32 → Mem → Prop}  (H : vp_in (2 + a0) 18 ∧ (K (mem 1 (2 + a0).toNatClampNeg) mem)) : CI shM m_Mo_its d [.ref 0, .int a0] mem K := cll_of [some (.ref 0), some (.int a0)] ok_Mo_its (Nat.le_of_ble_eq_true rfl) rfl (wp_aload_n (dc kd_Mo_its 0 rfl) rfl (wp_getR (r := 1) (dc kd_Mo_its 1 rfl) fl_Mo_13 rfl rfl (wp_iconst (dc kd_Mo_its 2 rfl) 2 ic_2 (wp_iload_n (dc kd_Mo_its 3 rfl) rfl (wp_iadd (dc kd_Mo_its 4 rfl) (wp_iald (dc kd_Mo_its 5 rfl) rfl H.1 (wp_iret (dc kd_Mo_its 6 rfl) rfl ⟨_, rfl, H.2⟩)))))))
set_option maxRecDepth 100000 in
theorem e_Mo_allPoints {d : Nat}  {mem : Mem} {K : Int32 → Mem → Prop}  (H : K (((1 : Int32) <<< ((mem 1 0) &&& 31)) - 1) mem) : CI shM m_Mo_allPoints d [.ref 0] mem K := cll_of [some (.ref 0)] ok_Mo_allPoints (Nat.le_of_ble_eq_true rfl) rfl (wp_iconst (dc kd_Mo_allPoints 0 rfl) 1 ic_1 (wp_aload_n (dc kd_Mo_allPoints 1 rfl) rfl (wp_getR (r := 1) (dc kd_Mo_allPoints 2 rfl) fl_Mo_13 rfl rfl (wp_iconst (dc kd_Mo_allPoints 3 rfl) 0 ic_0 (wp_iald (dc kd_Mo_allPoints 4 rfl) rfl (vin rfl) (wp_ishl (dc kd_Mo_allPoints 5 rfl) (wp_iconst (dc kd_Mo_allPoints 6 rfl) 1 ic_1 (wp_isub (dc kd_Mo_allPoints 7 rfl) (wp_iret (dc kd_Mo_allPoints 8 rfl) rfl ⟨_, rfl, H⟩)))))))))
end
section
/-! the small methods as functions -/
def bcA (x : Int32) : Int32 := x - (((x.toUInt32 >>> ((1 : Int32).toUInt32 &&& Int32.toUInt32 31)).toInt32) &&& 1431655765)
def bcB (y : Int32) : Int32 := (y &&& 858993459) + (((y.toUInt32 >>> ((2 : Int32).toUInt32 &&& Int32.toUInt32 31)).toInt32) &&& 858993459)
def bcC (y : Int32) : Int32 := (y + ((y.toUInt32 >>> ((4 : Int32).toUInt32 &&& Int32.toUInt32 31)).toInt32)) &&& 252645135
def bcD (y : Int32) : Int32 := y + ((y.toUInt32 >>> ((8 : Int32).toUInt32 &&& Int32.toUInt32 31)).toInt32)
def bcE (y : Int32) : Int32 := y + ((y.toUInt32 >>> ((16 : Int32).toUInt32 &&& Int32.toUInt32 31)).toInt32)
def bcF (x : Int32) : Int32 := bcE (bcD (bcC (bcB (bcA x)))) &&& 63
def lobF (x : Int32) : Int32 := x &&& (-x)
def us (x : Int32) (k : Int32) : Int32 := (x.toUInt32 >>> (k.toUInt32 &&& Int32.toUInt32 31)).toInt32
def ntz2 (x n : Int32) : Int32 := if x ≤ 16 then (if x ≤ 4 then n + us x 1 else (n + 2) + us (us x 2) 1) else (if us x 4 ≤ 4 then (n + 4) + us (us x 4) 1 else ((n + 4) + 2) + us (us (us x 4) 2) 1)
def ntz1 (x n : Int32) : Int32 := if x ≤ 256 then ntz2 x n else ntz2 (us x 8) (n + 8)
def ntzF (x : Int32) : Int32 := if 0 < ((x ^^^ (-1)) &&& (x - 1)) then (if ((x ^^^ (-1)) &&& (x - 1)) ≤ 65536 then ntz1 ((x ^^^ (-1)) &&& (x - 1)) 1 else ntz1 (us ((x ^^^ (-1)) &&& (x - 1)) 16) (1 + 16)) else ((x ^^^ (-1)) &&& (x - 1)) &&& 32
def alF (n : Int32) : Int32 := ((1 : Int32) <<< (n &&& 31)) - 1
def atF (mem : Mem) (f : Nat) (i : Int32) : Int32 := if 0 ≤ i ∧ i < 17 then mem (f + 1) i.toNatClampNeg else 0
def tpF (mem : Mem) (i : Int32) : Int32 := if 0 ≤ i ∧ i < mem 8 1 ∧ i < 400 then mem 9 i.toNatClampNeg &&& 255 else -1
def tcF (mem : Mem) (i : Int32) : Int32 := if 0 ≤ i ∧ i < 1024 then mem 13 i.toNatClampNeg else 0
theorem i_nl {x y : Int32} : ¬ x < y ↔ y ≤ x := Int32.not_lt
theorem i_nle {x y : Int32} : ¬ x ≤ y ↔ y < x := Int32.not_le
theorem vin_of {i : Int32} {n : Nat} {b : Int32} (h0 : 0 ≤ i) (h1 : i < b) (hb : b.toInt = n) : vp_in i n := by
  rw [vp_in_iff]
  have a := Int32.le_iff_toInt_le.mp h0
  have c := Int32.lt_iff_toInt_lt.mp h1
  rw [hb] at c
  exact ⟨by simpa using a, c⟩
section FNA
variable {sh : List Sh} {d f : Nat} {x y z : Int32} {mem : Mem}
theorem f_bitCount : CI sh m_Ig_bitCount d [.int x] mem (fun r m' => r = bcF x ∧ m' = mem) := by
  refine e_Ig_bitCount ?_
  repeat (intro y ey; subst ey)
  exact ⟨rfl, rfl⟩
theorem f_lowestOneBit : CI sh m_Ig_lowestOneBit d [.int x] mem (fun r m' => r = lobF x ∧ m' = mem) := e_Ig_lowestOneBit ⟨rfl, rfl⟩
theorem f_ntz2 : Wp sh m_Ig_numberOfTrailingZeros d 49 [some (.int x), some (.int y)] [] mem (QI (fun r m' => r = ntz2 x y ∧ m' = mem)) := by
  refine b_Ig_numberOfTrailingZeros_49 ⟨fun c1 => ⟨fun c2 => ?_, fun c2 => ?_⟩, fun c1 => ⟨fun c2 => ?_, fun c2 => ?_⟩⟩
  · exact ⟨by simp only [ntz2, if_pos c1, if_pos c2]; rfl, rfl⟩
  · exact ⟨by simp only [ntz2, if_pos c1, if_neg c2]; rfl, rfl⟩
  · exact ⟨by rw [ntz2, if_neg c1, if_pos (show us x 4 ≤ 4 from c2)]; rfl, rfl⟩
  · intro y0 e0
    subst e0
    exact ⟨by rw [ntz2, if_neg c1, if_neg (show ¬ us x 4 ≤ 4 from c2)]; rfl, rfl⟩
theorem f_ntz1 : Wp sh m_Ig_numberOfTrailingZeros d 34 [some (.int x), some (.int y)] [] mem (QI (fun r m' => r = ntz1 x y ∧ m' = mem)) := by
  refine b_Ig_numberOfTrailingZeros_34 ⟨fun c1 => ?_, fun c1 => ?_⟩
  · rw [ntz1, if_pos c1]; exact f_ntz2
  · rw [ntz1, if_neg c1]; exact f_ntz2
theorem f_ntz : CI sh m_Ig_numberOfTrailingZeros d [.int x] mem (fun r m' => r = ntzF x ∧ m' = mem) := by
  refine e_Ig_numberOfTrailingZeros ⟨fun c1 => ⟨fun c2 => ?_, fun c2 => ?_⟩, fun c1 => ?_⟩
  · rw [ntzF, if_pos c1, if_pos c2]; exact f_ntz1
  · intro y0 e0
    subst e0
    rw [ntzF, if_pos c1, if_neg c2]
    exact f_ntz1
  · exact ⟨by rw [ntzF, if_neg c1], rfl⟩
theorem f_at (hf : IsF f) : CI shX m_Family_at d [.ref f, .int x] mem (fun r m' => r = atF mem f x ∧ m' = mem) := by
  refine e_Family_at hf ⟨fun c1 => ⟨?_, rfl⟩, fun c1 => ⟨fun c2 => ⟨?_, rfl⟩, fun c2 => ⟨vin_of (i_nl.mp c1) (i_nle.mp c2) rfl, ?_, rfl⟩⟩⟩
  · rw [atF, if_neg (fun h => i_nl.mpr h.1 c1)]
  · rw [atF, if_neg (fun h => i_nle.mpr h.2 c2)]
  · rw [atF, if_pos ⟨i_nl.mp c1, i_nle.mp c2⟩]
theorem f_allPoints (hf : IsF f) : CI shX m_Family_allPoints d [.ref f] mem (fun r m' => r = alF (mem f 2) ∧ m' = mem) := e_Family_allPoints hf ⟨rfl, rfl⟩
theorem f_allSets (hf : IsF f) : CI shX m_Family_allSets d [.ref f] mem (fun r m' => r = alF (mem f 1) ∧ m' = mem) := e_Family_allSets hf ⟨rfl, rfl⟩
theorem f_isPoint (hf : IsF f) : CI shX m_Family_isPoint d [.ref f, .int x] mem (fun r m' => r = b2i (0 ≤ x ∧ x < mem f 2) ∧ m' = mem) := by
  refine e_Family_isPoint hf ⟨fun c1 => ⟨?_, rfl⟩, fun c1 => ⟨fun c2 => ⟨?_, rfl⟩, fun c2 => ⟨?_, rfl⟩⟩⟩
  · rw [b2i_f (fun h => i_nl.mpr h.1 c1)]
  · rw [b2i_f (fun h => i_nle.mpr h.2 c2)]
  · rw [b2i_t ⟨i_nl.mp c1, i_nle.mp c2⟩]
theorem f_holds (hf : IsF f) : CI shX m_Family_holds d [.ref f, .int x] mem (fun r m' => r = b2i (0 ≤ x ∧ x < mem f 1) ∧ m' = mem) := by
  refine e_Family_holds hf ⟨fun c1 => ⟨?_, rfl⟩, fun c1 => ⟨fun c2 => ⟨?_, rfl⟩, fun c2 => ⟨?_, rfl⟩⟩⟩
  · rw [b2i_f (fun h => i_nl.mpr h.1 c1)]
  · rw [b2i_f (fun h => i_nle.mpr h.2 c2)]
  · rw [b2i_t ⟨i_nl.mp c1, i_nle.mp c2⟩]
theorem f_isBudget : CI shX m_PS_isBudget d [.int x] mem (fun r m' => r = b2i (1 ≤ x ∧ x ≤ 5) ∧ m' = mem) := by
  refine e_PS_isBudget ⟨fun c1 => ⟨?_, rfl⟩, fun c1 => ⟨fun c2 => ⟨?_, rfl⟩, fun c2 => ⟨?_, rfl⟩⟩⟩
  · rw [b2i_f (fun h => i_nl.mpr h.1 c1)]
  · rw [b2i_f (fun h => i_nl.mpr h.2 c2)]
  · rw [b2i_t ⟨i_nl.mp c1, i_nl.mp c2⟩]
theorem f_isFlowerSize : CI shX m_PS_isFlowerSize d [.int x] mem (fun r m' => r = b2i (2 ≤ x ∧ x ≤ 16) ∧ m' = mem) := by
  refine e_PS_isFlowerSize ⟨fun c1 => ⟨?_, rfl⟩, fun c1 => ⟨fun c2 => ⟨?_, rfl⟩, fun c2 => ⟨?_, rfl⟩⟩⟩
  · rw [b2i_f (fun h => i_nl.mpr h.1 c1)]
  · rw [b2i_f (fun h => i_nl.mpr h.2 c2)]
  · rw [b2i_t ⟨i_nl.mp c1, i_nl.mp c2⟩]
theorem f_tapeAt : CI shX m_Tape_at d [.ref 8, .int x] mem (fun r m' => r = tpF mem x ∧ m' = mem) := by
  refine e_Tape_at ⟨fun c1 => ⟨?_, rfl⟩, fun c1 => ⟨fun c2 => ⟨?_, rfl⟩, fun c2 => ⟨fun c3 => ⟨?_, rfl⟩, fun c3 => ⟨vin_of (i_nl.mp c1) (i_nle.mp c3) rfl, ?_, rfl⟩⟩⟩⟩
  · rw [tpF, if_neg (fun h => i_nl.mpr h.1 c1)]
  · rw [tpF, if_neg (fun h => i_nle.mpr h.2.1 c2)]
  · rw [tpF, if_neg (fun h => i_nle.mpr h.2.2 c3)]
  · rw [tpF, if_pos ⟨i_nl.mp c1, i_nle.mp c2, i_nle.mp c3⟩]
theorem f_touched : CI shX m_Touch_touched d [.ref 11, .int x] mem (fun r m' => r = tcF mem x ∧ m' = mem) := by
  refine e_Touch_touched ⟨fun c1 => ⟨?_, rfl⟩, fun c1 => ⟨fun c2 => ⟨?_, rfl⟩, fun c2 => ⟨vin_of (i_nl.mp c1) (i_nle.mp c2) rfl, ?_, rfl⟩⟩⟩
  · rw [tcF, if_neg (fun h => i_nl.mpr h.1 c1)]
  · rw [tcF, if_neg (fun h => i_nle.mpr h.2 c2)]
  · rw [tcF, if_pos ⟨i_nl.mp c1, i_nle.mp c2⟩]
theorem f_in : CI shM m_Mo_in d [.int x, .int y, .int z] mem (fun r m' => r = b2i (y ≤ x ∧ x ≤ z) ∧ m' = mem) := by
  refine e_Mo_in ⟨fun c1 => ⟨?_, rfl⟩, fun c1 => ⟨fun c2 => ⟨?_, rfl⟩, fun c2 => ⟨?_, rfl⟩⟩⟩
  · rw [b2i_f (fun h => i_nl.mpr h.1 c1)]
  · rw [b2i_f (fun h => i_nl.mpr h.2 c2)]
  · rw [b2i_t ⟨i_nl.mp c1, i_nl.mp c2⟩]
theorem f_has : CI shM m_Mo_has d [.int x, .int y] mem (fun r m' => r = b2i ((x >>> (y &&& 31)) &&& 1 = 1) ∧ m' = mem) := by
  refine e_Mo_has ⟨fun c1 => ⟨?_, rfl⟩, fun c1 => ⟨?_, rfl⟩⟩
  · rw [b2i_f c1]
  · rw [b2i_t c1]
theorem f_isWithin : CI shM m_Mo_isWithin d [.int x, .int y] mem (fun r m' => r = b2i (x &&& (y ^^^ (-1)) = 0) ∧ m' = mem) := by
  refine e_Mo_isWithin ⟨fun c1 => ⟨?_, rfl⟩, fun c1 => ⟨?_, rfl⟩⟩
  · rw [b2i_f c1]
  · rw [b2i_t c1]
theorem f_many : CI shM m_Mo_many d [.ref 0] mem (fun r m' => r = mem 1 1 ∧ m' = mem) := e_Mo_many ⟨rfl, rfl⟩
theorem f_its (h : vp_in (2 + x) 18) : CI shM m_Mo_its d [.ref 0, .int x] mem (fun r m' => r = mem 1 (2 + x).toNatClampNeg ∧ m' = mem) := e_Mo_its ⟨h, rfl, rfl⟩
theorem f_MallPoints : CI shM m_Mo_allPoints d [.ref 0] mem (fun r m' => r = alF (mem 1 0) ∧ m' = mem) := e_Mo_allPoints ⟨rfl, rfl⟩
end FNA

set_option maxRecDepth 100000 in
theorem e_Family_arePoints {d : Nat} {f : Nat} {a0 : Int32} {mem : Mem} {K : Int32 → Mem → Prop} (hf : IsF f) (H : (a0 < 0 → K 0 mem) ∧ (¬ a0 < 0 → ((alF (mem f 2)) < a0 → K 0 mem) ∧ (¬ (alF (mem f 2)) < a0 → K 1 mem))) : CI shX m_Family_arePoints (d + 1) [.ref f, .int a0] mem K := cll_of [some (.ref f), some (.int a0)] ok_Family_arePoints (Nat.le_of_ble_eq_true rfl) rfl (wp_iload_n (dc kd_Family_arePoints 0 rfl) rfl (wp_if_lt (tgt := 16) (dc kd_Family_arePoints 1 rfl) rfl (fun c0 => (wp_iconst (dc kd_Family_arePoints 8 rfl) 0 ic_0 (wp_zret (dc kd_Family_arePoints 9 rfl) rfl (Or.inl rfl) ⟨_, rfl, (H.1 c0)⟩))) (fun c0 => (wp_iload_n (dc kd_Family_arePoints 2 rfl) rfl (wp_aload_n (dc kd_Family_arePoints 3 rfl) rfl (wp_vIF (b := f) [] [.int a0] (dc kd_Family_arePoints 4 rfl) mv_Family_22 hf.1 rfl rfl rfl (Nat.le_of_ble_eq_true rfl) (f_allPoints hf) (wp_icmp_gt (tgt := 16) (dc kd_Family_arePoints 5 rfl) rfl (fun c1 => (wp_iconst (dc kd_Family_arePoints 8 rfl) 0 ic_0 (wp_zret (dc kd_Family_arePoints 9 rfl) rfl (Or.inl rfl) ⟨_, rfl, ((H.2 c0).1 c1)⟩))) (fun c1 => (wp_iconst (dc kd_Family_arePoints 6 rfl) 1 ic_1 (wp_goto (tgt := 17) (dc kd_Family_arePoints 7 rfl) rfl (wp_zret (dc kd_Family_arePoints 9 rfl) rfl (Or.inr rfl) ⟨_, rfl, ((H.2 c0).2 c1)⟩)))))))))))
set_option maxRecDepth 100000 in
theorem e_Family_isSet {d : Nat} {f : Nat} {a0 : Int32} {mem : Mem} {K : Int32 → Mem → Prop} (hf : IsF f) (H : (a0 ≤ 0 → K 0 mem) ∧ (¬ a0 ≤ 0 → ((alF (mem f 2)) < a0 → K 0 mem) ∧ (¬ (alF (mem f 2)) < a0 → K 1 mem))) : CI shX m_Family_isSet (d + 1) [.ref f, .int a0] mem K := cll_of [some (.ref f), some (.int a0)] ok_Family_isSet (Nat.le_of_ble_eq_true rfl) rfl (wp_iload_n (dc kd_Family_isSet 0 rfl) rfl (wp_if_le (tgt := 16) (dc kd_Family_isSet 1 rfl) rfl (fun c0 => (wp_iconst (dc kd_Family_isSet 8 rfl) 0 ic_0 (wp_zret (dc kd_Family_isSet 9 rfl) rfl (Or.inl rfl) ⟨_, rfl, (H.1 c0)⟩))) (fun c0 => (wp_iload_n (dc kd_Family_isSet 2 rfl) rfl (wp_aload_n (dc kd_Family_isSet 3 rfl) rfl (wp_vIF (b := f) [] [.int a0] (dc kd_Family_isSet 4 rfl) mv_Family_22 hf.1 rfl rfl rfl (Nat.le_of_ble_eq_true rfl) (f_allPoints hf) (wp_icmp_gt (tgt := 16) (dc kd_Family_isSet 5 rfl) rfl (fun c1 => (wp_iconst (dc kd_Family_isSet 8 rfl) 0 ic_0 (wp_zret (dc kd_Family_isSet 9 rfl) rfl (Or.inl rfl) ⟨_, rfl, ((H.2 c0).1 c1)⟩))) (fun c1 => (wp_iconst (dc kd_Family_isSet 6 rfl) 1 ic_1 (wp_goto (tgt := 17) (dc kd_Family_isSet 7 rfl) rfl (wp_zret (dc kd_Family_isSet 9 rfl) rfl (Or.inr rfl) ⟨_, rfl, ((H.2 c0).2 c1)⟩)))))))))))
set_option maxRecDepth 100000 in
theorem e_Family_areSets {d : Nat} {f : Nat} {a0 : Int32} {mem : Mem} {K : Int32 → Mem → Prop} (hf : IsF f) (H : (a0 < 0 → K 0 mem) ∧ (¬ a0 < 0 → ((alF (mem f 1)) < a0 → K 0 mem) ∧ (¬ (alF (mem f 1)) < a0 → K 1 mem))) : CI shX m_Family_areSets (d + 1) [.ref f, .int a0] mem K := cll_of [some (.ref f), some (.int a0)] ok_Family_areSets (Nat.le_of_ble_eq_true rfl) rfl (wp_iload_n (dc kd_Family_areSets 0 rfl) rfl (wp_if_lt (tgt := 16) (dc kd_Family_areSets 1 rfl) rfl (fun c0 => (wp_iconst (dc kd_Family_areSets 8 rfl) 0 ic_0 (wp_zret (dc kd_Family_areSets 9 rfl) rfl (Or.inl rfl) ⟨_, rfl, (H.1 c0)⟩))) (fun c0 => (wp_iload_n (dc kd_Family_areSets 2 rfl) rfl (wp_aload_n (dc kd_Family_areSets 3 rfl) rfl (wp_vIF (b := f) [] [.int a0] (dc kd_Family_areSets 4 rfl) mv_Family_26 hf.1 rfl rfl rfl (Nat.le_of_ble_eq_true rfl) (f_allSets hf) (wp_icmp_gt (tgt := 16) (dc kd_Family_areSets 5 rfl) rfl (fun c1 => (wp_iconst (dc kd_Family_areSets 8 rfl) 0 ic_0 (wp_zret (dc kd_Family_areSets 9 rfl) rfl (Or.inl rfl) ⟨_, rfl, ((H.2 c0).1 c1)⟩))) (fun c1 => (wp_iconst (dc kd_Family_areSets 6 rfl) 1 ic_1 (wp_goto (tgt := 17) (dc kd_Family_areSets 7 rfl) rfl (wp_zret (dc kd_Family_areSets 9 rfl) rfl (Or.inr rfl) ⟨_, rfl, ((H.2 c0).2 c1)⟩)))))))))))
set_option maxRecDepth 100000 in
theorem e_Tape_isLetter {d : Nat} {a0 : Int32} {mem : Mem} {K : Int32 → Mem → Prop}  (H : ((tpF mem a0) < 97 → K 0 mem) ∧ (¬ (tpF mem a0) < 97 → (122 < (tpF mem a0) → K 0 mem) ∧ (¬ 122 < (tpF mem a0) → K 1 mem))) : CI shX m_Tape_isLetter (d + 1) [.ref 8, .int a0] mem K := cll_of [some (.ref 8), some (.int a0)] ok_Tape_isLetter (Nat.le_of_ble_eq_true rfl) rfl (wp_aload_n (dc kd_Tape_isLetter 0 rfl) rfl (wp_iload_n (dc kd_Tape_isLetter 1 rfl) rfl (wp_vIF (b := 8) [.int a0] [] (dc kd_Tape_isLetter 2 rfl) mv_Tape_19 rfl rfl rfl rfl (Nat.le_of_ble_eq_true rfl) f_tapeAt (wp_bipush (dc kd_Tape_isLetter 3 rfl) 97 bp_97 (wp_icmp_lt (tgt := 24) (dc kd_Tape_isLetter 4 rfl) rfl (fun c0 => (wp_iconst (dc kd_Tape_isLetter 12 rfl) 0 ic_0 (wp_zret (dc kd_Tape_isLetter 13 rfl) rfl (Or.inl rfl) ⟨_, rfl, (H.1 c0)⟩))) (fun c0 => (wp_aload_n (dc kd_Tape_isLetter 5 rfl) rfl (wp_iload_n (dc kd_Tape_isLetter 6 rfl) rfl (wp_vIF (b := 8) [.int a0] [] (dc kd_Tape_isLetter 7 rfl) mv_Tape_19 rfl rfl rfl rfl (Nat.le_of_ble_eq_true rfl) f_tapeAt (wp_bipush (dc kd_Tape_isLetter 8 rfl) 122 bp_122 (wp_icmp_gt (tgt := 24) (dc kd_Tape_isLetter 9 rfl) rfl (fun c1 => (wp_iconst (dc kd_Tape_isLetter 12 rfl) 0 ic_0 (wp_zret (dc kd_Tape_isLetter 13 rfl) rfl (Or.inl rfl) ⟨_, rfl, ((H.2 c0).1 c1)⟩))) (fun c1 => (wp_iconst (dc kd_Tape_isLetter 10 rfl) 1 ic_1 (wp_goto (tgt := 25) (dc kd_Tape_isLetter 11 rfl) rfl (wp_zret (dc kd_Tape_isLetter 13 rfl) rfl (Or.inr rfl) ⟨_, rfl, ((H.2 c0).2 c1)⟩)))))))))))))))
set_option maxRecDepth 100000 in
theorem e_Tape_isDigit {d : Nat} {a0 : Int32} {mem : Mem} {K : Int32 → Mem → Prop}  (H : ((tpF mem a0) < 48 → K 0 mem) ∧ (¬ (tpF mem a0) < 48 → (57 < (tpF mem a0) → K 0 mem) ∧ (¬ 57 < (tpF mem a0) → K 1 mem))) : CI shX m_Tape_isDigit (d + 1) [.ref 8, .int a0] mem K := cll_of [some (.ref 8), some (.int a0)] ok_Tape_isDigit (Nat.le_of_ble_eq_true rfl) rfl (wp_aload_n (dc kd_Tape_isDigit 0 rfl) rfl (wp_iload_n (dc kd_Tape_isDigit 1 rfl) rfl (wp_vIF (b := 8) [.int a0] [] (dc kd_Tape_isDigit 2 rfl) mv_Tape_19 rfl rfl rfl rfl (Nat.le_of_ble_eq_true rfl) f_tapeAt (wp_bipush (dc kd_Tape_isDigit 3 rfl) 48 bp_48 (wp_icmp_lt (tgt := 24) (dc kd_Tape_isDigit 4 rfl) rfl (fun c0 => (wp_iconst (dc kd_Tape_isDigit 12 rfl) 0 ic_0 (wp_zret (dc kd_Tape_isDigit 13 rfl) rfl (Or.inl rfl) ⟨_, rfl, (H.1 c0)⟩))) (fun c0 => (wp_aload_n (dc kd_Tape_isDigit 5 rfl) rfl (wp_iload_n (dc kd_Tape_isDigit 6 rfl) rfl (wp_vIF (b := 8) [.int a0] [] (dc kd_Tape_isDigit 7 rfl) mv_Tape_19 rfl rfl rfl rfl (Nat.le_of_ble_eq_true rfl) f_tapeAt (wp_bipush (dc kd_Tape_isDigit 8 rfl) 57 bp_57 (wp_icmp_gt (tgt := 24) (dc kd_Tape_isDigit 9 rfl) rfl (fun c1 => (wp_iconst (dc kd_Tape_isDigit 12 rfl) 0 ic_0 (wp_zret (dc kd_Tape_isDigit 13 rfl) rfl (Or.inl rfl) ⟨_, rfl, ((H.2 c0).1 c1)⟩))) (fun c1 => (wp_iconst (dc kd_Tape_isDigit 10 rfl) 1 ic_1 (wp_goto (tgt := 25) (dc kd_Tape_isDigit 11 rfl) rfl (wp_zret (dc kd_Tape_isDigit 13 rfl) rfl (Or.inr rfl) ⟨_, rfl, ((H.2 c0).2 c1)⟩)))))))))))))))
set_option maxRecDepth 100000 in
theorem e_Tape_isBlank {d : Nat} {a0 : Int32} {mem : Mem} {K : Int32 → Mem → Prop}  (H : ((tpF mem a0) = 32 → K 1 mem) ∧ (¬ (tpF mem a0) = 32 → (¬ (tpF mem a0) = 10 → K 0 mem) ∧ ((tpF mem a0) = 10 → K 1 mem))) : CI shX m_Tape_isBlank (d + 1) [.ref 8, .int a0] mem K := cll_of [some (.ref 8), some (.int a0)] ok_Tape_isBlank (Nat.le_of_ble_eq_true rfl) rfl (wp_aload_n (dc kd_Tape_isBlank 0 rfl) rfl (wp_iload_n (dc kd_Tape_isBlank 1 rfl) rfl (wp_vIF (b := 8) [.int a0] [] (dc kd_Tape_isBlank 2 rfl) mv_Tape_19 rfl rfl rfl rfl (Nat.le_of_ble_eq_true rfl) f_tapeAt (wp_bipush (dc kd_Tape_isBlank 3 rfl) 32 bp_32 (wp_icmp_eq (tgt := 20) (dc kd_Tape_isBlank 4 rfl) rfl (fun c0 => (wp_iconst (dc kd_Tape_isBlank 10 rfl) 1 ic_1 (wp_goto (tgt := 25) (dc kd_Tape_isBlank 11 rfl) rfl (wp_zret (dc kd_Tape_isBlank 13 rfl) rfl (Or.inr rfl) ⟨_, rfl, (H.1 c0)⟩)))) (fun c0 => (wp_aload_n (dc kd_Tape_isBlank 5 rfl) rfl (wp_iload_n (dc kd_Tape_isBlank 6 rfl) rfl (wp_vIF (b := 8) [.int a0] [] (dc kd_Tape_isBlank 7 rfl) mv_Tape_19 rfl rfl rfl rfl (Nat.le_of_ble_eq_true rfl) f_tapeAt (wp_bipush (dc kd_Tape_isBlank 8 rfl) 10 bp_10 (wp_icmp_ne (tgt := 24) (dc kd_Tape_isBlank 9 rfl) rfl (fun c1 => (wp_iconst (dc kd_Tape_isBlank 12 rfl) 0 ic_0 (wp_zret (dc kd_Tape_isBlank 13 rfl) rfl (Or.inl rfl) ⟨_, rfl, ((H.2 c0).1 c1)⟩))) (fun c1 => (wp_iconst (dc kd_Tape_isBlank 10 rfl) 1 ic_1 (wp_goto (tgt := 25) (dc kd_Tape_isBlank 11 rfl) rfl (wp_zret (dc kd_Tape_isBlank 13 rfl) rfl (Or.inr rfl) ⟨_, rfl, ((H.2 c0).2 c1)⟩)))))))))))))))
set_option maxRecDepth 100000 in
theorem e_Touch_untouched {d : Nat} {a0 : Int32} {mem : Mem} {K : Int32 → Mem → Prop}  (H : K (bcF ((mem 11 2) &&& ((tcF mem a0) ^^^ (-1)))) mem) : CI shX m_Touch_untouched (d + 1) [.ref 11, .int a0] mem K := cll_of [some (.ref 11), some (.int a0)] ok_Touch_untouched (Nat.le_of_ble_eq_true rfl) rfl (wp_aload_n (dc kd_Touch_untouched 0 rfl) rfl (wp_getI (dc kd_Touch_untouched 1 rfl) fl_Touch_18 rfl rfl (wp_aload_n (dc kd_Touch_untouched 2 rfl) rfl (wp_iload_n (dc kd_Touch_untouched 3 rfl) rfl (wp_vIF (b := 11) [.int a0] [.int (mem 11 2)] (dc kd_Touch_untouched 4 rfl) mv_Touch_57 rfl rfl rfl rfl (Nat.le_of_ble_eq_true rfl) f_touched (wp_iconst (dc kd_Touch_untouched 5 rfl) (-1) ic_m1 (wp_ixor (dc kd_Touch_untouched 6 rfl) (wp_iand (dc kd_Touch_untouched 7 rfl) (wp_sIF [.int ((mem 11 2) &&& ((tcF mem a0) ^^^ (-1)))] [] (dc kd_Touch_untouched 8 rfl) ms_Touch_60 rfl rfl (Nat.le_of_ble_eq_true rfl) f_bitCount (wp_iret (dc kd_Touch_untouched 9 rfl) rfl ⟨_, rfl, H⟩))))))))))
set_option maxRecDepth 100000 in
theorem e_Touch_touchesAll {d : Nat} {a0 : Int32} {mem : Mem} {K : Int32 → Mem → Prop}  (H : (¬ (tcF mem a0) = (mem 11 2) → K 0 mem) ∧ ((tcF mem a0) = (mem 11 2) → K 1 mem)) : CI shX m_Touch_touchesAll (d + 1) [.ref 11, .int a0] mem K := cll_of [some (.ref 11), some (.int a0)] ok_Touch_touchesAll (Nat.le_of_ble_eq_true rfl) rfl (wp_aload_n (dc kd_Touch_touchesAll 0 rfl) rfl (wp_iload_n (dc kd_Touch_touchesAll 1 rfl) rfl (wp_vIF (b := 11) [.int a0] [] (dc kd_Touch_touchesAll 2 rfl) mv_Touch_57 rfl rfl rfl rfl (Nat.le_of_ble_eq_true rfl) f_touched (wp_aload_n (dc kd_Touch_touchesAll 3 rfl) rfl (wp_getI (dc kd_Touch_touchesAll 4 rfl) fl_Touch_18 rfl rfl (wp_icmp_ne (tgt := 16) (dc kd_Touch_touchesAll 5 rfl) rfl (fun c0 => (wp_iconst (dc kd_Touch_touchesAll 8 rfl) 0 ic_0 (wp_zret (dc kd_Touch_touchesAll 9 rfl) rfl (Or.inl rfl) ⟨_, rfl, (H.1 c0)⟩))) (fun c0 => (wp_iconst (dc kd_Touch_touchesAll 6 rfl) 1 ic_1 (wp_goto (tgt := 17) (dc kd_Touch_touchesAll 7 rfl) rfl (wp_zret (dc kd_Touch_touchesAll 9 rfl) rfl (Or.inr rfl) ⟨_, rfl, (H.2 c0)⟩))))))))))
set_option maxRecDepth 100000 in
theorem e_Mo_isThere {d : Nat} {a0 : Int32} {mem : Mem} {K : Int32 → Mem → Prop}  (H : K (b2i (0 ≤ a0 ∧ a0 ≤ ((mem 1 1) - 1))) mem) : CI shM m_Mo_isThere (d + 1) [.ref 0, .int a0] mem K := cll_of [some (.ref 0), some (.int a0)] ok_Mo_isThere (Nat.le_of_ble_eq_true rfl) rfl (wp_iload_n (dc kd_Mo_isThere 0 rfl) rfl (wp_iconst (dc kd_Mo_isThere 1 rfl) 0 ic_0 (wp_aload_n (dc kd_Mo_isThere 2 rfl) rfl (wp_vIF (b := 0) [] [.int 0, .int a0] (dc kd_Mo_isThere 3 rfl) mv_Mo_75 rfl rfl rfl rfl (Nat.le_of_ble_eq_true rfl) f_many (wp_iconst (dc kd_Mo_isThere 4 rfl) 1 ic_1 (wp_isub (dc kd_Mo_isThere 5 rfl) (wp_sIF [.int a0, .int 0, .int ((mem 1 1) - 1)] [] (dc kd_Mo_isThere 6 rfl) ms_Mo_79 rfl rfl (Nat.le_of_ble_eq_true rfl) f_in (wp_zret (dc kd_Mo_isThere 7 rfl) rfl b2i_01 ⟨_, rfl, H⟩))))))))
set_option maxRecDepth 100000 in
theorem e_Mo_isPoint {d : Nat} {a0 : Int32} {mem : Mem} {K : Int32 → Mem → Prop}  (H : K (b2i (0 ≤ a0 ∧ a0 ≤ ((mem 1 0) - 1))) mem) : CI shM m_Mo_isPoint (d + 1) [.ref 0, .int a0] mem K := cll_of [some (.ref 0), some (.int a0)] ok_Mo_isPoint (Nat.le_of_ble_eq_true rfl) rfl (wp_iload_n (dc kd_Mo_isPoint 0 rfl) rfl (wp_iconst (dc kd_Mo_isPoint 1 rfl) 0 ic_0 (wp_aload_n (dc kd_Mo_isPoint 2 rfl) rfl (wp_getR (r := 1) (dc kd_Mo_isPoint 3 rfl) fl_Mo_13 rfl rfl (wp_iconst (dc kd_Mo_isPoint 4 rfl) 0 ic_0 (wp_iald (dc kd_Mo_isPoint 5 rfl) rfl (vin rfl) (wp_iconst (dc kd_Mo_isPoint 6 rfl) 1 ic_1 (wp_isub (dc kd_Mo_isPoint 7 rfl) (wp_sIF [.int a0, .int 0, .int ((mem 1 0) - 1)] [] (dc kd_Mo_isPoint 8 rfl) ms_Mo_79 rfl rfl (Nat.le_of_ble_eq_true rfl) f_in (wp_zret (dc kd_Mo_isPoint 9 rfl) rfl b2i_01 ⟨_, rfl, H⟩))))))))))
set_option maxRecDepth 100000 in
theorem e_Mo_arePoints {d : Nat} {a0 : Int32} {mem : Mem} {K : Int32 → Mem → Prop}  (H : K (b2i (0 ≤ a0 ∧ a0 ≤ (alF (mem 1 0)))) mem) : CI shM m_Mo_arePoints (d + 1) [.ref 0, .int a0] mem K := cll_of [some (.ref 0), some (.int a0)] ok_Mo_arePoints (Nat.le_of_ble_eq_true rfl) rfl (wp_iload_n (dc kd_Mo_arePoints 0 rfl) rfl (wp_iconst (dc kd_Mo_arePoints 1 rfl) 0 ic_0 (wp_aload_n (dc kd_Mo_arePoints 2 rfl) rfl (wp_vIF (b := 0) [] [.int 0, .int a0] (dc kd_Mo_arePoints 3 rfl) mv_Mo_83 rfl rfl rfl rfl (Nat.le_of_ble_eq_true rfl) f_MallPoints (wp_sIF [.int a0, .int 0, .int (alF (mem 1 0))] [] (dc kd_Mo_arePoints 4 rfl) ms_Mo_79 rfl rfl (Nat.le_of_ble_eq_true rfl) f_in (wp_zret (dc kd_Mo_arePoints 5 rfl) rfl b2i_01 ⟨_, rfl, H⟩))))))
set_option maxRecDepth 100000 in
theorem e_Mo_areNumbers {d : Nat} {a0 : Int32} {mem : Mem} {K : Int32 → Mem → Prop}  (H : K (b2i (0 ≤ a0 ∧ a0 ≤ (((1 : Int32) <<< ((mem 1 1) &&& 31)) - 1))) mem) : CI shM m_Mo_areNumbers (d + 1) [.ref 0, .int a0] mem K := cll_of [some (.ref 0), some (.int a0)] ok_Mo_areNumbers (Nat.le_of_ble_eq_true rfl) rfl (wp_iload_n (dc kd_Mo_areNumbers 0 rfl) rfl (wp_iconst (dc kd_Mo_areNumbers 1 rfl) 0 ic_0 (wp_iconst (dc kd_Mo_areNumbers 2 rfl) 1 ic_1 (wp_aload_n (dc kd_Mo_areNumbers 3 rfl) rfl (wp_vIF (b := 0) [] [.int 1, .int 0, .int a0] (dc kd_Mo_areNumbers 4 rfl) mv_Mo_75 rfl rfl rfl rfl (Nat.le_of_ble_eq_true rfl) f_many (wp_ishl (dc kd_Mo_areNumbers 5 rfl) (wp_iconst (dc kd_Mo_areNumbers 6 rfl) 1 ic_1 (wp_isub (dc kd_Mo_areNumbers 7 rfl) (wp_sIF [.int a0, .int 0, .int (((1 : Int32) <<< ((mem 1 1) &&& 31)) - 1)] [] (dc kd_Mo_areNumbers 8 rfl) ms_Mo_79 rfl rfl (Nat.le_of_ble_eq_true rfl) f_in (wp_zret (dc kd_Mo_areNumbers 9 rfl) rfl b2i_01 ⟨_, rfl, H⟩))))))))))
set_option maxRecDepth 100000 in
theorem e_Mo_isOfKernel {d : Nat} {a0 : Int32} {mem : Mem} {K : Int32 → Mem → Prop}  (H : K (b2i (1 ≤ a0 ∧ a0 ≤ 5)) mem) : CI shM m_Mo_isOfKernel (d + 1) [.int a0] mem K := cll_of [some (.int a0)] ok_Mo_isOfKernel (Nat.le_of_ble_eq_true rfl) rfl (wp_iload_n (dc kd_Mo_isOfKernel 0 rfl) rfl (wp_iconst (dc kd_Mo_isOfKernel 1 rfl) 1 ic_1 (wp_iconst (dc kd_Mo_isOfKernel 2 rfl) 5 ic_5 (wp_sIF [.int a0, .int 1, .int 5] [] (dc kd_Mo_isOfKernel 3 rfl) ms_Mo_79 rfl rfl (Nat.le_of_ble_eq_true rfl) f_in (wp_zret (dc kd_Mo_isOfKernel 4 rfl) rfl b2i_01 ⟨_, rfl, H⟩)))))
set_option maxRecDepth 100000 in
theorem e_Mo_isOfFlower {d : Nat} {a0 : Int32} {mem : Mem} {K : Int32 → Mem → Prop}  (H : K (b2i (2 ≤ a0 ∧ a0 ≤ 16)) mem) : CI shM m_Mo_isOfFlower (d + 1) [.int a0] mem K := cll_of [some (.int a0)] ok_Mo_isOfFlower (Nat.le_of_ble_eq_true rfl) rfl (wp_iload_n (dc kd_Mo_isOfFlower 0 rfl) rfl (wp_iconst (dc kd_Mo_isOfFlower 1 rfl) 2 ic_2 (wp_bipush (dc kd_Mo_isOfFlower 2 rfl) 16 bp_16 (wp_sIF [.int a0, .int 2, .int 16] [] (dc kd_Mo_isOfFlower 3 rfl) ms_Mo_79 rfl rfl (Nat.le_of_ble_eq_true rfl) f_in (wp_zret (dc kd_Mo_isOfFlower 4 rfl) rfl b2i_01 ⟨_, rfl, H⟩)))))

section FNB
variable {d f : Nat} {x y z : Int32} {mem : Mem}
theorem f_arePoints (hf : IsF f) : CI shX m_Family_arePoints (d + 1) [.ref f, .int x] mem (fun r m' => r = b2i (0 ≤ x ∧ x ≤ alF (mem f 2)) ∧ m' = mem) := by
  refine e_Family_arePoints hf ⟨fun c1 => ⟨?_, rfl⟩, fun c1 => ⟨fun c2 => ⟨?_, rfl⟩, fun c2 => ⟨?_, rfl⟩⟩⟩
  · rw [b2i_f (fun h => i_nl.mpr h.1 c1)]
  · rw [b2i_f (fun h => i_nl.mpr h.2 c2)]
  · rw [b2i_t ⟨i_nl.mp c1, i_nl.mp c2⟩]
theorem f_isSet (hf : IsF f) : CI shX m_Family_isSet (d + 1) [.ref f, .int x] mem (fun r m' => r = b2i (0 < x ∧ x ≤ alF (mem f 2)) ∧ m' = mem) := by
  refine e_Family_isSet hf ⟨fun c1 => ⟨?_, rfl⟩, fun c1 => ⟨fun c2 => ⟨?_, rfl⟩, fun c2 => ⟨?_, rfl⟩⟩⟩
  · rw [b2i_f (fun h => i_nle.mpr h.1 c1)]
  · rw [b2i_f (fun h => i_nl.mpr h.2 c2)]
  · rw [b2i_t ⟨i_nle.mp c1, i_nl.mp c2⟩]
theorem f_areSets (hf : IsF f) : CI shX m_Family_areSets (d + 1) [.ref f, .int x] mem (fun r m' => r = b2i (0 ≤ x ∧ x ≤ alF (mem f 1)) ∧ m' = mem) := by
  refine e_Family_areSets hf ⟨fun c1 => ⟨?_, rfl⟩, fun c1 => ⟨fun c2 => ⟨?_, rfl⟩, fun c2 => ⟨?_, rfl⟩⟩⟩
  · rw [b2i_f (fun h => i_nl.mpr h.1 c1)]
  · rw [b2i_f (fun h => i_nl.mpr h.2 c2)]
  · rw [b2i_t ⟨i_nl.mp c1, i_nl.mp c2⟩]
theorem f_isLetter : CI shX m_Tape_isLetter (d + 1) [.ref 8, .int x] mem (fun r m' => r = b2i (97 ≤ tpF mem x ∧ tpF mem x ≤ 122) ∧ m' = mem) := by
  refine e_Tape_isLetter ⟨fun c1 => ⟨?_, rfl⟩, fun c1 => ⟨fun c2 => ⟨?_, rfl⟩, fun c2 => ⟨?_, rfl⟩⟩⟩
  · rw [b2i_f (fun h => i_nl.mpr h.1 c1)]
  · rw [b2i_f (fun h => i_nl.mpr h.2 c2)]
  · rw [b2i_t ⟨i_nl.mp c1, i_nl.mp c2⟩]
theorem f_isDigit : CI shX m_Tape_isDigit (d + 1) [.ref 8, .int x] mem (fun r m' => r = b2i (48 ≤ tpF mem x ∧ tpF mem x ≤ 57) ∧ m' = mem) := by
  refine e_Tape_isDigit ⟨fun c1 => ⟨?_, rfl⟩, fun c1 => ⟨fun c2 => ⟨?_, rfl⟩, fun c2 => ⟨?_, rfl⟩⟩⟩
  · rw [b2i_f (fun h => i_nl.mpr h.1 c1)]
  · rw [b2i_f (fun h => i_nl.mpr h.2 c2)]
  · rw [b2i_t ⟨i_nl.mp c1, i_nl.mp c2⟩]
theorem f_isBlank : CI shX m_Tape_isBlank (d + 1) [.ref 8, .int x] mem (fun r m' => r = b2i (tpF mem x = 32 ∨ tpF mem x = 10) ∧ m' = mem) := by
  refine e_Tape_isBlank ⟨fun c1 => ⟨?_, rfl⟩, fun c1 => ⟨fun c2 => ⟨?_, rfl⟩, fun c2 => ⟨?_, rfl⟩⟩⟩
  · rw [b2i_t (Or.inl c1)]
  · rw [b2i_f (fun h => h.elim c1 c2)]
  · rw [b2i_t (Or.inr c2)]
theorem f_untouched : CI shX m_Touch_untouched (d + 1) [.ref 11, .int x] mem (fun r m' => r = bcF (mem 11 2 &&& (tcF mem x ^^^ (-1))) ∧ m' = mem) := e_Touch_untouched ⟨rfl, rfl⟩
theorem f_touchesAll : CI shX m_Touch_touchesAll (d + 1) [.ref 11, .int x] mem (fun r m' => r = b2i (tcF mem x = mem 11 2) ∧ m' = mem) := by
  refine e_Touch_touchesAll ⟨fun c1 => ⟨?_, rfl⟩, fun c1 => ⟨?_, rfl⟩⟩
  · rw [b2i_f c1]
  · rw [b2i_t c1]
theorem f_isThere : CI shM m_Mo_isThere (d + 1) [.ref 0, .int x] mem (fun r m' => r = b2i (0 ≤ x ∧ x ≤ mem 1 1 - 1) ∧ m' = mem) := e_Mo_isThere ⟨rfl, rfl⟩
theorem f_MisPoint : CI shM m_Mo_isPoint (d + 1) [.ref 0, .int x] mem (fun r m' => r = b2i (0 ≤ x ∧ x ≤ mem 1 0 - 1) ∧ m' = mem) := e_Mo_isPoint ⟨rfl, rfl⟩
theorem f_MarePoints : CI shM m_Mo_arePoints (d + 1) [.ref 0, .int x] mem (fun r m' => r = b2i (0 ≤ x ∧ x ≤ alF (mem 1 0)) ∧ m' = mem) := e_Mo_arePoints ⟨rfl, rfl⟩
theorem f_areNumbers : CI shM m_Mo_areNumbers (d + 1) [.ref 0, .int x] mem (fun r m' => r = b2i (0 ≤ x ∧ x ≤ alF (mem 1 1)) ∧ m' = mem) := e_Mo_areNumbers ⟨rfl, rfl⟩
theorem f_isOfKernel : CI shM m_Mo_isOfKernel (d + 1) [.int x] mem (fun r m' => r = b2i (1 ≤ x ∧ x ≤ 5) ∧ m' = mem) := e_Mo_isOfKernel ⟨rfl, rfl⟩
theorem f_isOfFlower : CI shM m_Mo_isOfFlower (d + 1) [.int x] mem (fun r m' => r = b2i (2 ≤ x ∧ x ≤ 16) ∧ m' = mem) := e_Mo_isOfFlower ⟨rfl, rfl⟩
end FNB
end
