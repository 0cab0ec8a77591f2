def R_Cover : String := "PetalSets$Cover"
def T_Cover : u_T := fun k => match k with
  | 0 => ("PetalSets$Cover", "ways", "I", false)
  | _ => ("PetalSets$Cover", "least", "I", false)
def ty_Cover : Nat → FieldType := fun k => match k with
  | 0 => .int
  | _ => .int
def R_Family : String := "PetalSets$Family"
def T_Family : u_T := fun k => match k with
  | 0 => ("PetalSets$Family", "row", "[I", true)
  | 1 => ("PetalSets$Family", "size", "I", false)
  | _ => ("PetalSets$Family", "points", "I", false)
def ty_Family : Nat → FieldType := fun k => match k with
  | 0 => .array .int
  | 1 => .int
  | _ => .int
def R_History : String := "PetalSets$History"
def T_History : u_T := fun k => match k with
  | 0 => ("PetalSets$History", "sizes", "[I", true)
  | 1 => ("PetalSets$History", "rows", "[I", true)
  | 2 => ("PetalSets$History", "next", "I", false)
  | _ => ("PetalSets$History", "depth", "I", false)
def ty_History : Nat → FieldType := fun k => match k with
  | 0 => .array .int
  | 1 => .array .int
  | 2 => .int
  | _ => .int
def R_Kernel : String := "PetalSets$Kernel"
def T_Kernel : u_T := fun k => match k with
  | 0 => ("PetalSets$Kernel", "start", "LPetalSets$Family;", true)
  | 1 => ("PetalSets$Kernel", "sets", "LPetalSets$Family;", true)
  | 2 => ("PetalSets$Kernel", "kind", "[I", true)
  | 3 => ("PetalSets$Kernel", "went", "[I", true)
  | 4 => ("PetalSets$Kernel", "came", "[I", true)
  | 5 => ("PetalSets$Kernel", "left", "[I", true)
  | 6 => ("PetalSets$Kernel", "budget", "I", false)
  | 7 => ("PetalSets$Kernel", "steps", "I", false)
  | _ => ("PetalSets$Kernel", "lost", "Z", false)
def ty_Kernel : Nat → FieldType := fun k => match k with
  | 0 => .object "PetalSets$Family"
  | 1 => .object "PetalSets$Family"
  | 2 => .array .int
  | 3 => .array .int
  | 4 => .array .int
  | 5 => .array .int
  | 6 => .int
  | 7 => .int
  | _ => .boolean
def R_Page : String := "PetalSets$Page"
def T_Page : u_T := fun k => match k with
  | 0 => ("PetalSets$Page", "bytes", "[B", true)
  | _ => ("PetalSets$Page", "length", "I", false)
def ty_Page : Nat → FieldType := fun k => match k with
  | 0 => .array .byte
  | _ => .int
def R_Reader : String := "PetalSets$Reader"
def T_Reader : u_T := fun k => match k with
  | _ => ("PetalSets$Reader", "place", "I", false)
def ty_Reader : Nat → FieldType := fun k => match k with
  | _ => .int
def R_Tape : String := "PetalSets$Tape"
def T_Tape : u_T := fun k => match k with
  | 0 => ("PetalSets$Tape", "bytes", "[B", true)
  | _ => ("PetalSets$Tape", "length", "I", false)
def ty_Tape : Nat → FieldType := fun k => match k with
  | 0 => .array .byte
  | _ => .int
def R_Thinner : String := "PetalSets$Thinner"
def T_Thinner : u_T := fun k => match k with
  | 0 => ("PetalSets$Thinner", "best", "[I", true)
  | 1 => ("PetalSets$Thinner", "fits", "[I", true)
  | _ => ("PetalSets$Thinner", "size", "I", false)
def ty_Thinner : Nat → FieldType := fun k => match k with
  | 0 => .array .int
  | 1 => .array .int
  | _ => .int
def R_Touch : String := "PetalSets$Touch"
def T_Touch : u_T := fun k => match k with
  | 0 => ("PetalSets$Touch", "column", "[I", true)
  | 1 => ("PetalSets$Touch", "marks", "[I", true)
  | 2 => ("PetalSets$Touch", "allSets", "I", false)
  | 3 => ("PetalSets$Touch", "allPoints", "I", false)
  | 4 => ("PetalSets$Touch", "fewest", "I", false)
  | 5 => ("PetalSets$Touch", "first", "I", false)
  | 6 => ("PetalSets$Touch", "ways", "I", false)
  | _ => ("PetalSets$Touch", "shared", "I", false)
def ty_Touch : Nat → FieldType := fun k => match k with
  | 0 => .array .int
  | 1 => .array .int
  | 2 => .int
  | 3 => .int
  | 4 => .int
  | 5 => .int
  | 6 => .int
  | _ => .int
def R_PS : String := "PetalSets"
def T_PS : u_T := fun k => match k with
  | 0 => ("PetalSets", "now", "LPetalSets$Family;", true)
  | 1 => ("PetalSets", "spare", "LPetalSets$Family;", true)
  | 2 => ("PetalSets", "past", "LPetalSets$History;", true)
  | 3 => ("PetalSets", "tape", "LPetalSets$Tape;", true)
  | 4 => ("PetalSets", "reader", "LPetalSets$Reader;", true)
  | 5 => ("PetalSets", "touch", "LPetalSets$Touch;", true)
  | 6 => ("PetalSets", "cover", "LPetalSets$Cover;", true)
  | 7 => ("PetalSets", "thinner", "LPetalSets$Thinner;", true)
  | 8 => ("PetalSets", "kernels", "LPetalSets$Kernel;", true)
  | _ => ("PetalSets", "page", "LPetalSets$Page;", true)
def ty_PS : Nat → FieldType := fun k => match k with
  | 0 => .object "PetalSets$Family"
  | 1 => .object "PetalSets$Family"
  | 2 => .object "PetalSets$History"
  | 3 => .object "PetalSets$Tape"
  | 4 => .object "PetalSets$Reader"
  | 5 => .object "PetalSets$Touch"
  | 6 => .object "PetalSets$Cover"
  | 7 => .object "PetalSets$Thinner"
  | 8 => .object "PetalSets$Kernel"
  | _ => .object "PetalSets$Page"
def R_Mo : String := "PetalSetsModel"
def T_Mo : u_T := fun k => match k with
  | 0 => ("PetalSetsModel", "thrown", "I", false)
  | 1 => ("PetalSetsModel", "now", "[I", true)
  | 2 => ("PetalSetsModel", "read", "[I", true)
  | 3 => ("PetalSetsModel", "before", "[I", true)
  | 4 => ("PetalSetsModel", "acts", "I", false)
  | 5 => ("PetalSetsModel", "would", "[I", true)
  | 6 => ("PetalSetsModel", "wouldMany", "I", false)
  | 7 => ("PetalSetsModel", "row", "[I", true)
  | 8 => ("PetalSetsModel", "rowMany", "I", false)
  | 9 => ("PetalSetsModel", "greatestBits", "I", false)
  | 10 => ("PetalSetsModel", "seen", "[Z", true)
  | 11 => ("PetalSetsModel", "isCaught", "[Z", true)
  | 12 => ("PetalSetsModel", "kernel", "[I", true)
  | 13 => ("PetalSetsModel", "left", "I", false)
  | 14 => ("PetalSetsModel", "stepKind", "[I", true)
  | 15 => ("PetalSetsModel", "stepWent", "[I", true)
  | 16 => ("PetalSetsModel", "stepCame", "[I", true)
  | 17 => ("PetalSetsModel", "stepLeft", "[I", true)
  | 18 => ("PetalSetsModel", "steps", "I", false)
  | 19 => ("PetalSetsModel", "isLost", "Z", false)
  | 20 => ("PetalSetsModel", "smallCore", "[I", true)
  | 21 => ("PetalSetsModel", "smallUnion", "[I", true)
  | 22 => ("PetalSetsModel", "small", "I", false)
  | 23 => ("PetalSetsModel", "text", "[I", true)
  | 24 => ("PetalSetsModel", "textMany", "I", false)
  | 25 => ("PetalSetsModel", "tape", "[I", true)
  | 26 => ("PetalSetsModel", "taped", "I", false)
  | 27 => ("PetalSetsModel", "words", "[B", true)
  | 28 => ("PetalSetsModel", "spot", "I", false)
  | 29 => ("PetalSetsModel", "token", "I", false)
  | 30 => ("PetalSetsModel", "begun", "I", false)
  | 31 => ("PetalSetsModel", "number", "I", false)
  | _ => ("PetalSetsModel", "wrong", "Z", false)
def ty_Mo : Nat → FieldType := fun k => match k with
  | 0 => .int
  | 1 => .array .int
  | 2 => .array .int
  | 3 => .array .int
  | 4 => .int
  | 5 => .array .int
  | 6 => .int
  | 7 => .array .int
  | 8 => .int
  | 9 => .int
  | 10 => .array .boolean
  | 11 => .array .boolean
  | 12 => .array .int
  | 13 => .int
  | 14 => .array .int
  | 15 => .array .int
  | 16 => .array .int
  | 17 => .array .int
  | 18 => .int
  | 19 => .boolean
  | 20 => .array .int
  | 21 => .array .int
  | 22 => .int
  | 23 => .array .int
  | 24 => .int
  | 25 => .array .int
  | 26 => .int
  | 27 => .array .byte
  | 28 => .int
  | 29 => .int
  | 30 => .int
  | 31 => .int
  | _ => .boolean
abbrev vwCl : List vw_C := [(R_Cover, T_Cover, 2), (R_Family, T_Family, 3), (R_History, T_History, 4), (R_Kernel, T_Kernel, 9), (R_Page, T_Page, 2), (R_Reader, T_Reader, 1), (R_Tape, T_Tape, 2), (R_Thinner, T_Thinner, 3), (R_Touch, T_Touch, 8), (R_PS, T_PS, 10), (R_Mo, T_Mo, 33)]
/-- a class of the worlds: its fields lie as the tables say, their types, their names apart -/
def CK (q : vw_C) : Prop := (∀ w ∈ u_ws q.1 q.2.1 q.2.2, w ∈ lw_tbl) ∧ (∃ ty : Nat → FieldType, ∀ k, k < q.2.2 → parseFieldDescriptor (q.2.1 k).2.2.1 = some (ty k)) ∧ ∀ a, a < q.2.2 → ∀ b, b < q.2.2 → a ≠ b → (q.2.1 a).2.1 ≠ (q.2.1 b).2.1
theorem tbl_all {l : List Cond} (ps : List Nat) (h : l = ps.filterMap (fun i => lw_tbl[i]?)) : ∀ w ∈ l, w ∈ lw_tbl := by
  intro w hw
  rw [h] at hw
  obtain ⟨i, -, hi⟩ := List.mem_filterMap.mp hw
  exact List.mem_of_getElem? hi
set_option maxRecDepth 100000 in
theorem in_Cover : ∀ w ∈ u_ws R_Cover T_Cover 2, w ∈ lw_tbl := tbl_all [216, 218] (by decide +kernel)
theorem ck_Cover : CK (R_Cover, T_Cover, 2) := ⟨in_Cover, ⟨ty_Cover, by decide +kernel⟩, by decide +kernel⟩
set_option maxRecDepth 100000 in
theorem in_Family : ∀ w ∈ u_ws R_Family T_Family 3, w ∈ lw_tbl := tbl_all [117, 119, 121] (by decide +kernel)
theorem ck_Family : CK (R_Family, T_Family, 3) := ⟨in_Family, ⟨ty_Family, by decide +kernel⟩, by decide +kernel⟩
set_option maxRecDepth 100000 in
theorem in_History : ∀ w ∈ u_ws R_History T_History 4, w ∈ lw_tbl := tbl_all [136, 138, 140, 142] (by decide +kernel)
theorem ck_History : CK (R_History, T_History, 4) := ⟨in_History, ⟨ty_History, by decide +kernel⟩, by decide +kernel⟩
set_option maxRecDepth 100000 in
theorem in_Kernel : ∀ w ∈ u_ws R_Kernel T_Kernel 9, w ∈ lw_tbl := tbl_all [261, 263, 265, 267, 269, 271, 273, 275, 277] (by decide +kernel)
theorem ck_Kernel : CK (R_Kernel, T_Kernel, 9) := ⟨in_Kernel, ⟨ty_Kernel, by decide +kernel⟩, by decide +kernel⟩
set_option maxRecDepth 100000 in
theorem in_Page : ∀ w ∈ u_ws R_Page T_Page 2, w ∈ lw_tbl := tbl_all [289, 291] (by decide +kernel)
theorem ck_Page : CK (R_Page, T_Page, 2) := ⟨in_Page, ⟨ty_Page, by decide +kernel⟩, by decide +kernel⟩
set_option maxRecDepth 100000 in
theorem in_Reader : ∀ w ∈ u_ws R_Reader T_Reader 1, w ∈ lw_tbl := tbl_all [168] (by decide +kernel)
theorem ck_Reader : CK (R_Reader, T_Reader, 1) := ⟨in_Reader, ⟨ty_Reader, by decide +kernel⟩, by decide +kernel⟩
set_option maxRecDepth 100000 in
theorem in_Tape : ∀ w ∈ u_ws R_Tape T_Tape 2, w ∈ lw_tbl := tbl_all [155, 157] (by decide +kernel)
theorem ck_Tape : CK (R_Tape, T_Tape, 2) := ⟨in_Tape, ⟨ty_Tape, by decide +kernel⟩, by decide +kernel⟩
set_option maxRecDepth 100000 in
theorem in_Thinner : ∀ w ∈ u_ws R_Thinner T_Thinner 3, w ∈ lw_tbl := tbl_all [230, 232, 234] (by decide +kernel)
theorem ck_Thinner : CK (R_Thinner, T_Thinner, 3) := ⟨in_Thinner, ⟨ty_Thinner, by decide +kernel⟩, by decide +kernel⟩
set_option maxRecDepth 100000 in
theorem in_Touch : ∀ w ∈ u_ws R_Touch T_Touch 8, w ∈ lw_tbl := tbl_all [189, 191, 193, 195, 197, 199, 201, 203] (by decide +kernel)
theorem ck_Touch : CK (R_Touch, T_Touch, 8) := ⟨in_Touch, ⟨ty_Touch, by decide +kernel⟩, by decide +kernel⟩
set_option maxRecDepth 100000 in
theorem in_PS : ∀ w ∈ u_ws R_PS T_PS 10, w ∈ lw_tbl := tbl_all [304, 306, 308, 310, 312, 314, 316, 318, 320, 322] (by decide +kernel)
theorem ck_PS : CK (R_PS, T_PS, 10) := ⟨in_PS, ⟨ty_PS, by decide +kernel⟩, by decide +kernel⟩
set_option maxRecDepth 100000 in
theorem in_Mo : ∀ w ∈ u_ws R_Mo T_Mo 33, w ∈ lw_tbl := tbl_all [1031, 1033, 1035, 1037, 1039, 1041, 1043, 1045, 1047, 1049, 1051, 1053, 1055, 1057, 1059, 1061, 1063, 1065, 1067, 1069, 1071, 1073, 1075, 1077, 1079, 1081, 1083, 1085, 1087, 1089, 1091, 1093, 1095] (by decide +kernel)
theorem ck_Mo : CK (R_Mo, T_Mo, 33) := ⟨in_Mo, ⟨ty_Mo, by decide +kernel⟩, by decide +kernel⟩
theorem vwCl_ok : ∀ q ∈ vwCl, CK q := by
  intro q hq
  simp only [vwCl, List.mem_cons, List.not_mem_nil, or_false] at hq
  rcases hq with rfl | rfl | rfl | rfl | rfl | rfl | rfl | rfl | rfl | rfl | rfl
  · exact ck_Cover
  · exact ck_Family
  · exact ck_History
  · exact ck_Kernel
  · exact ck_Page
  · exact ck_Reader
  · exact ck_Tape
  · exact ck_Thinner
  · exact ck_Touch
  · exact ck_PS
  · exact ck_Mo
/-- pool entry idx of class own is field k of the world class ci -/
def FL (own : String) (idx ci k : Nat) : Prop := ∃ q : vw_C, vwCl[ci]? = some q ∧ k < q.2.2 ∧ Cond.fieldLink own idx (q.2.1 k).1 (q.2.1 k).2.1 (q.2.1 k).2.2.1 ∈ lw_tbl
def FP (own : String) (idx ci k : Nat) (ty : FieldType) : Prop := ∃ q : vw_C, vwCl[ci]? = some q ∧ k < q.2.2 ∧ Cond.fieldLink own idx (q.2.1 k).1 (q.2.1 k).2.1 (q.2.1 k).2.2.1 ∈ lw_tbl ∧ (q.2.1 k).2.2.2 = false ∧ parseFieldDescriptor (q.2.1 k).2.2.1 = some ty
theorem fl_Family_9 : FL "PetalSets$Family" 9 1 0 := ⟨_, rfl, by decide, List.mem_of_getElem? (i := 104) (by decide +kernel)⟩
theorem fl_PS_120 : FL "PetalSets" 120 1 0 := ⟨_, rfl, by decide, List.mem_of_getElem? (i := 105) (by decide +kernel)⟩
theorem fl_Petals_50 : FL "PetalSets$Petals" 50 1 0 := ⟨_, rfl, by decide, List.mem_of_getElem? (i := 106) (by decide +kernel)⟩
theorem fl_Family_15 : FL "PetalSets$Family" 15 1 1 := ⟨_, rfl, by decide, List.mem_of_getElem? (i := 107) (by decide +kernel)⟩
theorem fp_Family_15 : FP "PetalSets$Family" 15 1 1 .int := ⟨_, rfl, by decide, List.mem_of_getElem? (i := 107) (by decide +kernel), rfl, by decide +kernel⟩
theorem fl_Thinner_22 : FL "PetalSets$Thinner" 22 1 1 := ⟨_, rfl, by decide, List.mem_of_getElem? (i := 108) (by decide +kernel)⟩
theorem fp_Thinner_22 : FP "PetalSets$Thinner" 22 1 1 .int := ⟨_, rfl, by decide, List.mem_of_getElem? (i := 108) (by decide +kernel), rfl, by decide +kernel⟩
theorem fl_Petals_9 : FL "PetalSets$Petals" 9 1 1 := ⟨_, rfl, by decide, List.mem_of_getElem? (i := 109) (by decide +kernel)⟩
theorem fp_Petals_9 : FP "PetalSets$Petals" 9 1 1 .int := ⟨_, rfl, by decide, List.mem_of_getElem? (i := 109) (by decide +kernel), rfl, by decide +kernel⟩
theorem fl_History_25 : FL "PetalSets$History" 25 1 1 := ⟨_, rfl, by decide, List.mem_of_getElem? (i := 110) (by decide +kernel)⟩
theorem fp_History_25 : FP "PetalSets$History" 25 1 1 .int := ⟨_, rfl, by decide, List.mem_of_getElem? (i := 110) (by decide +kernel), rfl, by decide +kernel⟩
theorem fl_Cover_43 : FL "PetalSets$Cover" 43 1 1 := ⟨_, rfl, by decide, List.mem_of_getElem? (i := 111) (by decide +kernel)⟩
theorem fp_Cover_43 : FP "PetalSets$Cover" 43 1 1 .int := ⟨_, rfl, by decide, List.mem_of_getElem? (i := 111) (by decide +kernel), rfl, by decide +kernel⟩
theorem fl_Kernel_81 : FL "PetalSets$Kernel" 81 1 1 := ⟨_, rfl, by decide, List.mem_of_getElem? (i := 112) (by decide +kernel)⟩
theorem fp_Kernel_81 : FP "PetalSets$Kernel" 81 1 1 .int := ⟨_, rfl, by decide, List.mem_of_getElem? (i := 112) (by decide +kernel), rfl, by decide +kernel⟩
theorem fl_Reader_60 : FL "PetalSets$Reader" 60 1 1 := ⟨_, rfl, by decide, List.mem_of_getElem? (i := 113) (by decide +kernel)⟩
theorem fp_Reader_60 : FP "PetalSets$Reader" 60 1 1 .int := ⟨_, rfl, by decide, List.mem_of_getElem? (i := 113) (by decide +kernel), rfl, by decide +kernel⟩
theorem fl_PS_94 : FL "PetalSets" 94 1 1 := ⟨_, rfl, by decide, List.mem_of_getElem? (i := 114) (by decide +kernel)⟩
theorem fp_PS_94 : FP "PetalSets" 94 1 1 .int := ⟨_, rfl, by decide, List.mem_of_getElem? (i := 114) (by decide +kernel), rfl, by decide +kernel⟩
theorem fl_Family_19 : FL "PetalSets$Family" 19 1 2 := ⟨_, rfl, by decide, List.mem_of_getElem? (i := 115) (by decide +kernel)⟩
theorem fp_Family_19 : FP "PetalSets$Family" 19 1 2 .int := ⟨_, rfl, by decide, List.mem_of_getElem? (i := 115) (by decide +kernel), rfl, by decide +kernel⟩
theorem fl_PS_127 : FL "PetalSets" 127 1 2 := ⟨_, rfl, by decide, List.mem_of_getElem? (i := 116) (by decide +kernel)⟩
theorem fp_PS_127 : FP "PetalSets" 127 1 2 .int := ⟨_, rfl, by decide, List.mem_of_getElem? (i := 116) (by decide +kernel), rfl, by decide +kernel⟩
theorem fl_History_9 : FL "PetalSets$History" 9 2 0 := ⟨_, rfl, by decide, List.mem_of_getElem? (i := 131) (by decide +kernel)⟩
theorem fl_History_15 : FL "PetalSets$History" 15 2 1 := ⟨_, rfl, by decide, List.mem_of_getElem? (i := 132) (by decide +kernel)⟩
theorem fl_History_18 : FL "PetalSets$History" 18 2 2 := ⟨_, rfl, by decide, List.mem_of_getElem? (i := 133) (by decide +kernel)⟩
theorem fp_History_18 : FP "PetalSets$History" 18 2 2 .int := ⟨_, rfl, by decide, List.mem_of_getElem? (i := 133) (by decide +kernel), rfl, by decide +kernel⟩
theorem fl_History_22 : FL "PetalSets$History" 22 2 3 := ⟨_, rfl, by decide, List.mem_of_getElem? (i := 134) (by decide +kernel)⟩
theorem fp_History_22 : FP "PetalSets$History" 22 2 3 .int := ⟨_, rfl, by decide, List.mem_of_getElem? (i := 134) (by decide +kernel), rfl, by decide +kernel⟩
theorem fl_PS_184 : FL "PetalSets" 184 2 3 := ⟨_, rfl, by decide, List.mem_of_getElem? (i := 135) (by decide +kernel)⟩
theorem fp_PS_184 : FP "PetalSets" 184 2 3 .int := ⟨_, rfl, by decide, List.mem_of_getElem? (i := 135) (by decide +kernel), rfl, by decide +kernel⟩
theorem fl_Tape_9 : FL "PetalSets$Tape" 9 6 0 := ⟨_, rfl, by decide, List.mem_of_getElem? (i := 151) (by decide +kernel)⟩
theorem fl_Tape_15 : FL "PetalSets$Tape" 15 6 1 := ⟨_, rfl, by decide, List.mem_of_getElem? (i := 152) (by decide +kernel)⟩
theorem fp_Tape_15 : FP "PetalSets$Tape" 15 6 1 .int := ⟨_, rfl, by decide, List.mem_of_getElem? (i := 152) (by decide +kernel), rfl, by decide +kernel⟩
theorem fl_PS_75 : FL "PetalSets" 75 6 1 := ⟨_, rfl, by decide, List.mem_of_getElem? (i := 153) (by decide +kernel)⟩
theorem fp_PS_75 : FP "PetalSets" 75 6 1 .int := ⟨_, rfl, by decide, List.mem_of_getElem? (i := 153) (by decide +kernel), rfl, by decide +kernel⟩
theorem fl_Reader_35 : FL "PetalSets$Reader" 35 6 1 := ⟨_, rfl, by decide, List.mem_of_getElem? (i := 154) (by decide +kernel)⟩
theorem fp_Reader_35 : FP "PetalSets$Reader" 35 6 1 .int := ⟨_, rfl, by decide, List.mem_of_getElem? (i := 154) (by decide +kernel), rfl, by decide +kernel⟩
theorem fl_Reader_9 : FL "PetalSets$Reader" 9 5 0 := ⟨_, rfl, by decide, List.mem_of_getElem? (i := 167) (by decide +kernel)⟩
theorem fp_Reader_9 : FP "PetalSets$Reader" 9 5 0 .int := ⟨_, rfl, by decide, List.mem_of_getElem? (i := 167) (by decide +kernel), rfl, by decide +kernel⟩
theorem fl_Touch_9 : FL "PetalSets$Touch" 9 8 0 := ⟨_, rfl, by decide, List.mem_of_getElem? (i := 177) (by decide +kernel)⟩
theorem fl_Touch_15 : FL "PetalSets$Touch" 15 8 1 := ⟨_, rfl, by decide, List.mem_of_getElem? (i := 178) (by decide +kernel)⟩
theorem fl_Touch_18 : FL "PetalSets$Touch" 18 8 2 := ⟨_, rfl, by decide, List.mem_of_getElem? (i := 179) (by decide +kernel)⟩
theorem fp_Touch_18 : FP "PetalSets$Touch" 18 8 2 .int := ⟨_, rfl, by decide, List.mem_of_getElem? (i := 179) (by decide +kernel), rfl, by decide +kernel⟩
theorem fl_Touch_22 : FL "PetalSets$Touch" 22 8 3 := ⟨_, rfl, by decide, List.mem_of_getElem? (i := 180) (by decide +kernel)⟩
theorem fp_Touch_22 : FP "PetalSets$Touch" 22 8 3 .int := ⟨_, rfl, by decide, List.mem_of_getElem? (i := 180) (by decide +kernel), rfl, by decide +kernel⟩
theorem fl_Touch_25 : FL "PetalSets$Touch" 25 8 4 := ⟨_, rfl, by decide, List.mem_of_getElem? (i := 181) (by decide +kernel)⟩
theorem fp_Touch_25 : FP "PetalSets$Touch" 25 8 4 .int := ⟨_, rfl, by decide, List.mem_of_getElem? (i := 181) (by decide +kernel), rfl, by decide +kernel⟩
theorem fl_PS_264 : FL "PetalSets" 264 8 4 := ⟨_, rfl, by decide, List.mem_of_getElem? (i := 182) (by decide +kernel)⟩
theorem fp_PS_264 : FP "PetalSets" 264 8 4 .int := ⟨_, rfl, by decide, List.mem_of_getElem? (i := 182) (by decide +kernel), rfl, by decide +kernel⟩
theorem fl_Touch_28 : FL "PetalSets$Touch" 28 8 5 := ⟨_, rfl, by decide, List.mem_of_getElem? (i := 183) (by decide +kernel)⟩
theorem fp_Touch_28 : FP "PetalSets$Touch" 28 8 5 .int := ⟨_, rfl, by decide, List.mem_of_getElem? (i := 183) (by decide +kernel), rfl, by decide +kernel⟩
theorem fl_PS_267 : FL "PetalSets" 267 8 5 := ⟨_, rfl, by decide, List.mem_of_getElem? (i := 184) (by decide +kernel)⟩
theorem fp_PS_267 : FP "PetalSets" 267 8 5 .int := ⟨_, rfl, by decide, List.mem_of_getElem? (i := 184) (by decide +kernel), rfl, by decide +kernel⟩
theorem fl_Touch_31 : FL "PetalSets$Touch" 31 8 6 := ⟨_, rfl, by decide, List.mem_of_getElem? (i := 185) (by decide +kernel)⟩
theorem fp_Touch_31 : FP "PetalSets$Touch" 31 8 6 .int := ⟨_, rfl, by decide, List.mem_of_getElem? (i := 185) (by decide +kernel), rfl, by decide +kernel⟩
theorem fl_PS_270 : FL "PetalSets" 270 8 6 := ⟨_, rfl, by decide, List.mem_of_getElem? (i := 186) (by decide +kernel)⟩
theorem fp_PS_270 : FP "PetalSets" 270 8 6 .int := ⟨_, rfl, by decide, List.mem_of_getElem? (i := 186) (by decide +kernel), rfl, by decide +kernel⟩
theorem fl_Touch_34 : FL "PetalSets$Touch" 34 8 7 := ⟨_, rfl, by decide, List.mem_of_getElem? (i := 187) (by decide +kernel)⟩
theorem fp_Touch_34 : FP "PetalSets$Touch" 34 8 7 .int := ⟨_, rfl, by decide, List.mem_of_getElem? (i := 187) (by decide +kernel), rfl, by decide +kernel⟩
theorem fl_PS_273 : FL "PetalSets" 273 8 7 := ⟨_, rfl, by decide, List.mem_of_getElem? (i := 188) (by decide +kernel)⟩
theorem fp_PS_273 : FP "PetalSets" 273 8 7 .int := ⟨_, rfl, by decide, List.mem_of_getElem? (i := 188) (by decide +kernel), rfl, by decide +kernel⟩
theorem fl_Cover_9 : FL "PetalSets$Cover" 9 0 0 := ⟨_, rfl, by decide, List.mem_of_getElem? (i := 212) (by decide +kernel)⟩
theorem fp_Cover_9 : FP "PetalSets$Cover" 9 0 0 .int := ⟨_, rfl, by decide, List.mem_of_getElem? (i := 212) (by decide +kernel), rfl, by decide +kernel⟩
theorem fl_PS_284 : FL "PetalSets" 284 0 0 := ⟨_, rfl, by decide, List.mem_of_getElem? (i := 213) (by decide +kernel)⟩
theorem fp_PS_284 : FP "PetalSets" 284 0 0 .int := ⟨_, rfl, by decide, List.mem_of_getElem? (i := 213) (by decide +kernel), rfl, by decide +kernel⟩
theorem fl_Cover_15 : FL "PetalSets$Cover" 15 0 1 := ⟨_, rfl, by decide, List.mem_of_getElem? (i := 214) (by decide +kernel)⟩
theorem fp_Cover_15 : FP "PetalSets$Cover" 15 0 1 .int := ⟨_, rfl, by decide, List.mem_of_getElem? (i := 214) (by decide +kernel), rfl, by decide +kernel⟩
theorem fl_PS_285 : FL "PetalSets" 285 0 1 := ⟨_, rfl, by decide, List.mem_of_getElem? (i := 215) (by decide +kernel)⟩
theorem fp_PS_285 : FP "PetalSets" 285 0 1 .int := ⟨_, rfl, by decide, List.mem_of_getElem? (i := 215) (by decide +kernel), rfl, by decide +kernel⟩
theorem fl_Thinner_9 : FL "PetalSets$Thinner" 9 7 0 := ⟨_, rfl, by decide, List.mem_of_getElem? (i := 227) (by decide +kernel)⟩
theorem fl_Thinner_15 : FL "PetalSets$Thinner" 15 7 1 := ⟨_, rfl, by decide, List.mem_of_getElem? (i := 228) (by decide +kernel)⟩
theorem fl_Thinner_18 : FL "PetalSets$Thinner" 18 7 2 := ⟨_, rfl, by decide, List.mem_of_getElem? (i := 229) (by decide +kernel)⟩
theorem fp_Thinner_18 : FP "PetalSets$Thinner" 18 7 2 .int := ⟨_, rfl, by decide, List.mem_of_getElem? (i := 229) (by decide +kernel), rfl, by decide +kernel⟩
theorem fl_Kernel_12 : FL "PetalSets$Kernel" 12 3 0 := ⟨_, rfl, by decide, List.mem_of_getElem? (i := 245) (by decide +kernel)⟩
theorem fl_Kernel_18 : FL "PetalSets$Kernel" 18 3 1 := ⟨_, rfl, by decide, List.mem_of_getElem? (i := 246) (by decide +kernel)⟩
theorem fl_PS_174 : FL "PetalSets" 174 3 1 := ⟨_, rfl, by decide, List.mem_of_getElem? (i := 247) (by decide +kernel)⟩
theorem fl_Kernel_21 : FL "PetalSets$Kernel" 21 3 2 := ⟨_, rfl, by decide, List.mem_of_getElem? (i := 248) (by decide +kernel)⟩
theorem fl_PS_297 : FL "PetalSets" 297 3 2 := ⟨_, rfl, by decide, List.mem_of_getElem? (i := 249) (by decide +kernel)⟩
theorem fl_Kernel_25 : FL "PetalSets$Kernel" 25 3 3 := ⟨_, rfl, by decide, List.mem_of_getElem? (i := 250) (by decide +kernel)⟩
theorem fl_PS_300 : FL "PetalSets" 300 3 3 := ⟨_, rfl, by decide, List.mem_of_getElem? (i := 251) (by decide +kernel)⟩
theorem fl_Kernel_28 : FL "PetalSets$Kernel" 28 3 4 := ⟨_, rfl, by decide, List.mem_of_getElem? (i := 252) (by decide +kernel)⟩
theorem fl_PS_303 : FL "PetalSets" 303 3 4 := ⟨_, rfl, by decide, List.mem_of_getElem? (i := 253) (by decide +kernel)⟩
theorem fl_Kernel_31 : FL "PetalSets$Kernel" 31 3 5 := ⟨_, rfl, by decide, List.mem_of_getElem? (i := 254) (by decide +kernel)⟩
theorem fl_PS_306 : FL "PetalSets" 306 3 5 := ⟨_, rfl, by decide, List.mem_of_getElem? (i := 255) (by decide +kernel)⟩
theorem fl_Kernel_34 : FL "PetalSets$Kernel" 34 3 6 := ⟨_, rfl, by decide, List.mem_of_getElem? (i := 256) (by decide +kernel)⟩
theorem fp_Kernel_34 : FP "PetalSets$Kernel" 34 3 6 .int := ⟨_, rfl, by decide, List.mem_of_getElem? (i := 256) (by decide +kernel), rfl, by decide +kernel⟩
theorem fl_Kernel_38 : FL "PetalSets$Kernel" 38 3 7 := ⟨_, rfl, by decide, List.mem_of_getElem? (i := 257) (by decide +kernel)⟩
theorem fp_Kernel_38 : FP "PetalSets$Kernel" 38 3 7 .int := ⟨_, rfl, by decide, List.mem_of_getElem? (i := 257) (by decide +kernel), rfl, by decide +kernel⟩
theorem fl_PS_171 : FL "PetalSets" 171 3 7 := ⟨_, rfl, by decide, List.mem_of_getElem? (i := 258) (by decide +kernel)⟩
theorem fp_PS_171 : FP "PetalSets" 171 3 7 .int := ⟨_, rfl, by decide, List.mem_of_getElem? (i := 258) (by decide +kernel), rfl, by decide +kernel⟩
theorem fl_Kernel_41 : FL "PetalSets$Kernel" 41 3 8 := ⟨_, rfl, by decide, List.mem_of_getElem? (i := 259) (by decide +kernel)⟩
theorem fp_Kernel_41 : FP "PetalSets$Kernel" 41 3 8 .boolean := ⟨_, rfl, by decide, List.mem_of_getElem? (i := 259) (by decide +kernel), rfl, by decide +kernel⟩
theorem fl_PS_167 : FL "PetalSets" 167 3 8 := ⟨_, rfl, by decide, List.mem_of_getElem? (i := 260) (by decide +kernel)⟩
theorem fp_PS_167 : FP "PetalSets" 167 3 8 .boolean := ⟨_, rfl, by decide, List.mem_of_getElem? (i := 260) (by decide +kernel), rfl, by decide +kernel⟩
theorem fl_Page_9 : FL "PetalSets$Page" 9 4 0 := ⟨_, rfl, by decide, List.mem_of_getElem? (i := 286) (by decide +kernel)⟩
theorem fl_Page_15 : FL "PetalSets$Page" 15 4 1 := ⟨_, rfl, by decide, List.mem_of_getElem? (i := 287) (by decide +kernel)⟩
theorem fp_Page_15 : FP "PetalSets$Page" 15 4 1 .int := ⟨_, rfl, by decide, List.mem_of_getElem? (i := 287) (by decide +kernel), rfl, by decide +kernel⟩
theorem fl_PS_315 : FL "PetalSets" 315 4 1 := ⟨_, rfl, by decide, List.mem_of_getElem? (i := 288) (by decide +kernel)⟩
theorem fp_PS_315 : FP "PetalSets" 315 4 1 .int := ⟨_, rfl, by decide, List.mem_of_getElem? (i := 288) (by decide +kernel), rfl, by decide +kernel⟩
theorem fl_PS_10 : FL "PetalSets" 10 9 0 := ⟨_, rfl, by decide, List.mem_of_getElem? (i := 294) (by decide +kernel)⟩
theorem fl_PS_16 : FL "PetalSets" 16 9 1 := ⟨_, rfl, by decide, List.mem_of_getElem? (i := 295) (by decide +kernel)⟩
theorem fl_PS_22 : FL "PetalSets" 22 9 2 := ⟨_, rfl, by decide, List.mem_of_getElem? (i := 296) (by decide +kernel)⟩
theorem fl_PS_29 : FL "PetalSets" 29 9 3 := ⟨_, rfl, by decide, List.mem_of_getElem? (i := 297) (by decide +kernel)⟩
theorem fl_PS_36 : FL "PetalSets" 36 9 4 := ⟨_, rfl, by decide, List.mem_of_getElem? (i := 298) (by decide +kernel)⟩
theorem fl_PS_43 : FL "PetalSets" 43 9 5 := ⟨_, rfl, by decide, List.mem_of_getElem? (i := 299) (by decide +kernel)⟩
theorem fl_PS_50 : FL "PetalSets" 50 9 6 := ⟨_, rfl, by decide, List.mem_of_getElem? (i := 300) (by decide +kernel)⟩
theorem fl_PS_57 : FL "PetalSets" 57 9 7 := ⟨_, rfl, by decide, List.mem_of_getElem? (i := 301) (by decide +kernel)⟩
theorem fl_PS_64 : FL "PetalSets" 64 9 8 := ⟨_, rfl, by decide, List.mem_of_getElem? (i := 302) (by decide +kernel)⟩
theorem fl_PS_71 : FL "PetalSets" 71 9 9 := ⟨_, rfl, by decide, List.mem_of_getElem? (i := 303) (by decide +kernel)⟩
theorem fl_Mo_13 : FL "PetalSetsModel" 13 10 1 := ⟨_, rfl, by decide, List.mem_of_getElem? (i := 999) (by decide +kernel)⟩
theorem fl_Mo_17 : FL "PetalSetsModel" 17 10 2 := ⟨_, rfl, by decide, List.mem_of_getElem? (i := 1000) (by decide +kernel)⟩
theorem fl_Mo_20 : FL "PetalSetsModel" 20 10 3 := ⟨_, rfl, by decide, List.mem_of_getElem? (i := 1001) (by decide +kernel)⟩
theorem fl_Mo_72 : FL "PetalSetsModel" 72 10 4 := ⟨_, rfl, by decide, List.mem_of_getElem? (i := 1002) (by decide +kernel)⟩
theorem fp_Mo_72 : FP "PetalSetsModel" 72 10 4 .int := ⟨_, rfl, by decide, List.mem_of_getElem? (i := 1002) (by decide +kernel), rfl, by decide +kernel⟩
theorem fl_Mo_23 : FL "PetalSetsModel" 23 10 5 := ⟨_, rfl, by decide, List.mem_of_getElem? (i := 1003) (by decide +kernel)⟩
theorem fl_Mo_107 : FL "PetalSetsModel" 107 10 6 := ⟨_, rfl, by decide, List.mem_of_getElem? (i := 1004) (by decide +kernel)⟩
theorem fp_Mo_107 : FP "PetalSetsModel" 107 10 6 .int := ⟨_, rfl, by decide, List.mem_of_getElem? (i := 1004) (by decide +kernel), rfl, by decide +kernel⟩
theorem fl_Mo_26 : FL "PetalSetsModel" 26 10 7 := ⟨_, rfl, by decide, List.mem_of_getElem? (i := 1005) (by decide +kernel)⟩
theorem fl_Mo_164 : FL "PetalSetsModel" 164 10 8 := ⟨_, rfl, by decide, List.mem_of_getElem? (i := 1006) (by decide +kernel)⟩
theorem fp_Mo_164 : FP "PetalSetsModel" 164 10 8 .int := ⟨_, rfl, by decide, List.mem_of_getElem? (i := 1006) (by decide +kernel), rfl, by decide +kernel⟩
theorem fl_Mo_167 : FL "PetalSetsModel" 167 10 9 := ⟨_, rfl, by decide, List.mem_of_getElem? (i := 1007) (by decide +kernel)⟩
theorem fp_Mo_167 : FP "PetalSetsModel" 167 10 9 .int := ⟨_, rfl, by decide, List.mem_of_getElem? (i := 1007) (by decide +kernel), rfl, by decide +kernel⟩
theorem fl_Mo_29 : FL "PetalSetsModel" 29 10 10 := ⟨_, rfl, by decide, List.mem_of_getElem? (i := 1008) (by decide +kernel)⟩
theorem fl_Mo_34 : FL "PetalSetsModel" 34 10 11 := ⟨_, rfl, by decide, List.mem_of_getElem? (i := 1009) (by decide +kernel)⟩
theorem fl_Mo_37 : FL "PetalSetsModel" 37 10 12 := ⟨_, rfl, by decide, List.mem_of_getElem? (i := 1010) (by decide +kernel)⟩
theorem fl_Mo_146 : FL "PetalSetsModel" 146 10 13 := ⟨_, rfl, by decide, List.mem_of_getElem? (i := 1011) (by decide +kernel)⟩
theorem fp_Mo_146 : FP "PetalSetsModel" 146 10 13 .int := ⟨_, rfl, by decide, List.mem_of_getElem? (i := 1011) (by decide +kernel), rfl, by decide +kernel⟩
theorem fl_Mo_40 : FL "PetalSetsModel" 40 10 14 := ⟨_, rfl, by decide, List.mem_of_getElem? (i := 1012) (by decide +kernel)⟩
theorem fl_Mo_43 : FL "PetalSetsModel" 43 10 15 := ⟨_, rfl, by decide, List.mem_of_getElem? (i := 1013) (by decide +kernel)⟩
theorem fl_Mo_46 : FL "PetalSetsModel" 46 10 16 := ⟨_, rfl, by decide, List.mem_of_getElem? (i := 1014) (by decide +kernel)⟩
theorem fl_Mo_49 : FL "PetalSetsModel" 49 10 17 := ⟨_, rfl, by decide, List.mem_of_getElem? (i := 1015) (by decide +kernel)⟩
theorem fl_Mo_143 : FL "PetalSetsModel" 143 10 18 := ⟨_, rfl, by decide, List.mem_of_getElem? (i := 1016) (by decide +kernel)⟩
theorem fp_Mo_143 : FP "PetalSetsModel" 143 10 18 .int := ⟨_, rfl, by decide, List.mem_of_getElem? (i := 1016) (by decide +kernel), rfl, by decide +kernel⟩
theorem fl_Mo_139 : FL "PetalSetsModel" 139 10 19 := ⟨_, rfl, by decide, List.mem_of_getElem? (i := 1017) (by decide +kernel)⟩
theorem fp_Mo_139 : FP "PetalSetsModel" 139 10 19 .boolean := ⟨_, rfl, by decide, List.mem_of_getElem? (i := 1017) (by decide +kernel), rfl, by decide +kernel⟩
theorem fl_Mo_52 : FL "PetalSetsModel" 52 10 20 := ⟨_, rfl, by decide, List.mem_of_getElem? (i := 1018) (by decide +kernel)⟩
theorem fl_Mo_55 : FL "PetalSetsModel" 55 10 21 := ⟨_, rfl, by decide, List.mem_of_getElem? (i := 1019) (by decide +kernel)⟩
theorem fl_Mo_232 : FL "PetalSetsModel" 232 10 22 := ⟨_, rfl, by decide, List.mem_of_getElem? (i := 1020) (by decide +kernel)⟩
theorem fp_Mo_232 : FP "PetalSetsModel" 232 10 22 .int := ⟨_, rfl, by decide, List.mem_of_getElem? (i := 1020) (by decide +kernel), rfl, by decide +kernel⟩
theorem fl_Mo_58 : FL "PetalSetsModel" 58 10 23 := ⟨_, rfl, by decide, List.mem_of_getElem? (i := 1021) (by decide +kernel)⟩
theorem fl_Mo_241 : FL "PetalSetsModel" 241 10 24 := ⟨_, rfl, by decide, List.mem_of_getElem? (i := 1022) (by decide +kernel)⟩
theorem fp_Mo_241 : FP "PetalSetsModel" 241 10 24 .int := ⟨_, rfl, by decide, List.mem_of_getElem? (i := 1022) (by decide +kernel), rfl, by decide +kernel⟩
theorem fl_Mo_61 : FL "PetalSetsModel" 61 10 25 := ⟨_, rfl, by decide, List.mem_of_getElem? (i := 1023) (by decide +kernel)⟩
theorem fl_Mo_262 : FL "PetalSetsModel" 262 10 26 := ⟨_, rfl, by decide, List.mem_of_getElem? (i := 1024) (by decide +kernel)⟩
theorem fp_Mo_262 : FP "PetalSetsModel" 262 10 26 .int := ⟨_, rfl, by decide, List.mem_of_getElem? (i := 1024) (by decide +kernel), rfl, by decide +kernel⟩
theorem fl_Mo_64 : FL "PetalSetsModel" 64 10 27 := ⟨_, rfl, by decide, List.mem_of_getElem? (i := 1025) (by decide +kernel)⟩
theorem fl_Mo_271 : FL "PetalSetsModel" 271 10 28 := ⟨_, rfl, by decide, List.mem_of_getElem? (i := 1026) (by decide +kernel)⟩
theorem fp_Mo_271 : FP "PetalSetsModel" 271 10 28 .int := ⟨_, rfl, by decide, List.mem_of_getElem? (i := 1026) (by decide +kernel), rfl, by decide +kernel⟩
theorem fl_Mo_274 : FL "PetalSetsModel" 274 10 29 := ⟨_, rfl, by decide, List.mem_of_getElem? (i := 1027) (by decide +kernel)⟩
theorem fp_Mo_274 : FP "PetalSetsModel" 274 10 29 .int := ⟨_, rfl, by decide, List.mem_of_getElem? (i := 1027) (by decide +kernel), rfl, by decide +kernel⟩
theorem fl_Mo_280 : FL "PetalSetsModel" 280 10 30 := ⟨_, rfl, by decide, List.mem_of_getElem? (i := 1028) (by decide +kernel)⟩
theorem fp_Mo_280 : FP "PetalSetsModel" 280 10 30 .int := ⟨_, rfl, by decide, List.mem_of_getElem? (i := 1028) (by decide +kernel), rfl, by decide +kernel⟩
theorem fl_Mo_283 : FL "PetalSetsModel" 283 10 31 := ⟨_, rfl, by decide, List.mem_of_getElem? (i := 1029) (by decide +kernel)⟩
theorem fp_Mo_283 : FP "PetalSetsModel" 283 10 31 .int := ⟨_, rfl, by decide, List.mem_of_getElem? (i := 1029) (by decide +kernel), rfl, by decide +kernel⟩
theorem fl_Mo_286 : FL "PetalSetsModel" 286 10 32 := ⟨_, rfl, by decide, List.mem_of_getElem? (i := 1030) (by decide +kernel)⟩
theorem fp_Mo_286 : FP "PetalSetsModel" 286 10 32 .boolean := ⟨_, rfl, by decide, List.mem_of_getElem? (i := 1030) (by decide +kernel), rfl, by decide +kernel⟩
