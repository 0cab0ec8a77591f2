/-! the law: its code, its cases -/
def k_law_h : List (Nat × Instr × Nat) := [(0, .new 7, 3), (3, .dup, 1), (4, .invokespecial 9, 3), (7, .astore_n 1, 1), (8, .new 10, 3), (11, .dup, 1), (12, .invokespecial 12, 3), (15, .astore_n 2, 1), (16, .iconst 0, 1), (17, .istore_n 3, 1), (18, .iload_n 3, 1), (19, .aload_n 0, 1), (20, .arraylength, 1), (21, .bipush 6, 2), (23, .isub, 1), (24, .if_icmp .gt 1624, 3), (27, .aload_n 0, 1), (28, .iload_n 3, 1), (29, .iaload, 1), (30, .bipush 63, 2), (32, .iand, 1), (33, .tableswitch 1609 0 53 #[231, 294, 317, 330, 353, 376, 409, 442, 465, 514, 547, 560, 573, 596, 619, 632, 665, 688, 711, 734, 757, 780, 803, 826, 859, 882, 905, 928, 951, 974, 987, 1010, 1043, 1056, 1089, 1112, 1135, 1158, 1181, 1204, 1227, 1250, 1273, 1296, 1329, 1362, 1405, 1428, 1461, 1484, 1507, 1530, 1553, 1586], 231)]
set_option maxRecDepth 100000 in
theorem kd_law_h : ∀ q ∈ k_law_h, decode code q.1 = .ok q.2 := by decide +kernel
def k_law_t : List (Nat × Instr × Nat) := [(1642, .iinc 3 6, 3), (1645, .goto (-1627), 3), (1648, .iconst 1, 1), (1649, .ireturn, 1)]
set_option maxRecDepth 100000 in
theorem kd_law_t : ∀ q ∈ k_law_t, decode code q.1 = .ok q.2 := by decide +kernel
section LCS
variable {p : Program} {l : Launch} {e : Env} {s : State} {m : MethodId} {below : List Frame} {meth : Method} {c : Code} {b L : Nat} {xs : Nat → Int32} {Q : State → Prop} {cells slots : Nat} {H : Heap} {locs : List Loc} {ls : Array Slot} {i : Nat} {adX adM : Nat → Nat}
theorem ld_arg {pc k : Nat} {K : Int} {st : List Value} (C0 : lw_At p s m meth c b L xs) (hL : L ≤ 3072) (hi : i + k < L) (hS : va_S (fun q : Nat => s.heap.size ≤ q) s.heap H locs) (hl : lv_has ls 4 [(0, .ref b), (1, .ref (adX 0)), (2, .ref (adM 0)), (3, .int (nI i))]) (d0 : decode code pc = .ok (.aload_n 0, 1)) (d1 : decode code (pc + 1) = .ok (.iload_n 3, 1)) (d2 : decode code (pc + 2) = .ok (.iconst K, 1)) (hK : Int32.ofInt K = nI k) (d3 : decode code (pc + 3) = .ok (.iadd, 1)) (d4 : decode code (pc + 4) = .ok (.iaload, 1)) (kk : W p l e room_1 s m #[Value.ref b] below meth c H locs cells slots Q (F0 m (pc + 5) ls (.int (xs (i + k)) :: st))) : W p l e room_1 s m #[Value.ref b] below meth c H locs cells slots Q (F0 m pc ls st) := by
  obtain ⟨hx, hb, hr, hml, hown, hts, hX, hbl, hlocks, hgv⟩ := C0
  refine lv_aload_n hx hb d0 rfl (lv_at hl 0 rfl) ?_
  refine lv_iload_n hx hb d1 rfl (lv_at hl 3 rfl) ?_
  refine lv_iconst (v := nI k) hx hb d2 hK ?_
  refine lv_iadd hx hb d3 ?_
  rw [nI_add]
  refine va_sld (A := fun q : Nat => s.heap.size ≤ q) hx hb hX hbl (Nat.not_le.mpr hbl) hS (vp_in_nI hi (by omega)) d4 ?_
  rw [nI_clamp (by omega)]
  exact kk
variable {cy : Nat → ClassId} {D : va_G} {AX AM : Nat → Prop} {mX mM : Mem} {n : Nat} {S t : List Nat} {Hs : List (List Nat)}
def k_law_0 : List (Nat × Instr × Nat) := [(264, .aload_n 1, 1), (265, .aload_n 0, 1), (266, .iload_n 3, 1), (267, .iconst 1, 1), (268, .iadd, 1), (269, .iaload, 1), (270, .aload_n 0, 1), (271, .iload_n 3, 1), (272, .iconst 2, 1), (273, .iadd, 1), (274, .iaload, 1), (275, .aload_n 0, 1), (276, .iload_n 3, 1), (277, .iconst 3, 1), (278, .iadd, 1), (279, .iaload, 1), (280, .aload_n 0, 1), (281, .iload_n 3, 1), (282, .iconst 4, 1), (283, .iadd, 1), (284, .iaload, 1), (285, .aload_n 0, 1), (286, .iload_n 3, 1), (287, .iconst 5, 1), (288, .iadd, 1), (289, .iaload, 1), (290, .invokevirtual 13, 3), (293, .aload_n 2, 1), (294, .aload_n 0, 1), (295, .iload_n 3, 1), (296, .iconst 1, 1), (297, .iadd, 1), (298, .iaload, 1), (299, .aload_n 0, 1), (300, .iload_n 3, 1), (301, .iconst 2, 1), (302, .iadd, 1), (303, .iaload, 1), (304, .aload_n 0, 1), (305, .iload_n 3, 1), (306, .iconst 3, 1), (307, .iadd, 1), (308, .iaload, 1), (309, .aload_n 0, 1), (310, .iload_n 3, 1), (311, .iconst 4, 1), (312, .iadd, 1), (313, .iaload, 1), (314, .aload_n 0, 1), (315, .iload_n 3, 1), (316, .iconst 5, 1), (317, .iadd, 1), (318, .iaload, 1), (319, .invokevirtual 17, 3), (322, .if_icmp .eq 1320, 3), (325, .iconst 0, 1), (326, .ireturn, 1)]
set_option maxRecDepth 100000 in
theorem kd_law_0 : ∀ q ∈ k_law_0, decode code q.1 = .ok q.2 := by decide +kernel
theorem cs_0 (C0 : lw_At p s m meth c b L xs) (hL : L ≤ 3072) (hi : i + 5 < L) (C : TwoC s adX adM cy D AX AM) (g : Good n S Hs) (hX : XI mX n S Hs t) (hM : MI mM n S Hs t) (hW : TwoW s adX adM cy D AX AM mX mM H locs) (hl : lv_has ls 4 [(0, .ref b), (1, .ref (adX 0)), (2, .ref (adM 0)), (3, .int (nI i))]) (hcl : cells ≤ room_1.cells) (hsl : slots ≤ room_1.slots) (nx : ∀ (n' : Nat) (S' t' : List Nat) (Hs' : List (List Nat)) (mX' mM' : Mem) (H1 : Heap) (locs1 : List Loc), Good n' S' Hs' → XI mX' n' S' Hs' t' → MI mM' n' S' Hs' t' → TwoW s adX adM cy D AX AM mX' mM' H1 locs1 → W p l e room_1 s m #[Value.ref b] below meth c H1 locs1 cells slots Q (F0 m 1642 ls [])) : W p l e room_1 s m #[Value.ref b] below meth c H locs cells slots Q (F0 m 264 ls []) := by
  obtain ⟨hx, hb, hr, hml, hown, hts, hXs, hbl, hlocks, hgv⟩ := id C0
  refine lv_aload_n hx hb (dc kd_law_0 0 rfl) rfl (lv_at hl 1 rfl) ?_
  refine ld_arg (pc := 265) (k := 1) C0 hL (by omega) hW.2.2.2.2 hl (dc kd_law_0 1 rfl) (dc kd_law_0 2 rfl) (dc kd_law_0 3 rfl) (by decide) (dc kd_law_0 4 rfl) (dc kd_law_0 5 rfl) ?_
  refine ld_arg (pc := 270) (k := 2) C0 hL (by omega) hW.2.2.2.2 hl (dc kd_law_0 6 rfl) (dc kd_law_0 7 rfl) (dc kd_law_0 8 rfl) (by decide) (dc kd_law_0 9 rfl) (dc kd_law_0 10 rfl) ?_
  refine ld_arg (pc := 275) (k := 3) C0 hL (by omega) hW.2.2.2.2 hl (dc kd_law_0 11 rfl) (dc kd_law_0 12 rfl) (dc kd_law_0 13 rfl) (by decide) (dc kd_law_0 14 rfl) (dc kd_law_0 15 rfl) ?_
  refine ld_arg (pc := 280) (k := 4) C0 hL (by omega) hW.2.2.2.2 hl (dc kd_law_0 16 rfl) (dc kd_law_0 17 rfl) (dc kd_law_0 18 rfl) (by decide) (dc kd_law_0 19 rfl) (dc kd_law_0 20 rfl) ?_
  refine ld_arg (pc := 285) (k := 5) C0 hL (by omega) hW.2.2.2.2 hl (dc kd_law_0 21 rfl) (dc kd_law_0 22 rfl) (dc kd_law_0 23 rfl) (by decide) (dc kd_law_0 24 rfl) (dc kd_law_0 25 rfl) ?_
  refine law_pair (pc := 290) (pc2 := 319) (As := [.int (xs (i + 1)), .int (xs (i + 2)), .int (xs (i + 3)), .int (xs (i + 4)), .int (xs (i + 5))]) C0 mv_Law_13 mv_Law_17 rfl rfl (pr_feed g) rfl (fun _ => rfl) C hX hM hW hl.1 (dc kd_law_0 26 rfl) (dc kd_law_0 53 rfl) hcl hsl (fun x H1 locs1 hS1 kk => ?_) (fun x n' S' t' Hs' mX' mM' H1 locs1 g' hX' hM' hW' => ?_)
  · refine lv_aload_n hx hb (dc kd_law_0 27 rfl) rfl (lv_at hl 2 rfl) ?_
    refine ld_arg (pc := 294) (k := 1) C0 hL (by omega) hS1 hl (dc kd_law_0 28 rfl) (dc kd_law_0 29 rfl) (dc kd_law_0 30 rfl) (by decide) (dc kd_law_0 31 rfl) (dc kd_law_0 32 rfl) ?_
    refine ld_arg (pc := 299) (k := 2) C0 hL (by omega) hS1 hl (dc kd_law_0 33 rfl) (dc kd_law_0 34 rfl) (dc kd_law_0 35 rfl) (by decide) (dc kd_law_0 36 rfl) (dc kd_law_0 37 rfl) ?_
    refine ld_arg (pc := 304) (k := 3) C0 hL (by omega) hS1 hl (dc kd_law_0 38 rfl) (dc kd_law_0 39 rfl) (dc kd_law_0 40 rfl) (by decide) (dc kd_law_0 41 rfl) (dc kd_law_0 42 rfl) ?_
    refine ld_arg (pc := 309) (k := 4) C0 hL (by omega) hS1 hl (dc kd_law_0 43 rfl) (dc kd_law_0 44 rfl) (dc kd_law_0 45 rfl) (by decide) (dc kd_law_0 46 rfl) (dc kd_law_0 47 rfl) ?_
    refine ld_arg (pc := 314) (k := 5) C0 hL (by omega) hS1 hl (dc kd_law_0 48 rfl) (dc kd_law_0 49 rfl) (dc kd_law_0 50 rfl) (by decide) (dc kd_law_0 51 rfl) (dc kd_law_0 52 rfl) ?_
    exact kk
  · refine lv_icmp_eq (tgt := 1642) hx hb (dc kd_law_0 54 rfl) (by decide) (fun _ => nx n' S' t' Hs' mX' mM' H1 locs1 g' hX' hM' hW') (fun z => absurd rfl z)
def k_law_1 : List (Nat × Instr × Nat) := [(327, .aload_n 1, 1), (328, .aload_n 0, 1), (329, .iload_n 3, 1), (330, .iconst 1, 1), (331, .iadd, 1), (332, .iaload, 1), (333, .invokevirtual 18, 3), (336, .aload_n 2, 1), (337, .aload_n 0, 1), (338, .iload_n 3, 1), (339, .iconst 1, 1), (340, .iadd, 1), (341, .iaload, 1), (342, .invokevirtual 22, 3), (345, .if_icmp .eq 1297, 3), (348, .iconst 0, 1), (349, .ireturn, 1)]
set_option maxRecDepth 100000 in
theorem kd_law_1 : ∀ q ∈ k_law_1, decode code q.1 = .ok q.2 := by decide +kernel
theorem cs_1 (C0 : lw_At p s m meth c b L xs) (hL : L ≤ 3072) (hi : i + 5 < L) (C : TwoC s adX adM cy D AX AM) (g : Good n S Hs) (hX : XI mX n S Hs t) (hM : MI mM n S Hs t) (hW : TwoW s adX adM cy D AX AM mX mM H locs) (hl : lv_has ls 4 [(0, .ref b), (1, .ref (adX 0)), (2, .ref (adM 0)), (3, .int (nI i))]) (hcl : cells ≤ room_1.cells) (hsl : slots ≤ room_1.slots) (nx : ∀ (n' : Nat) (S' t' : List Nat) (Hs' : List (List Nat)) (mX' mM' : Mem) (H1 : Heap) (locs1 : List Loc), Good n' S' Hs' → XI mX' n' S' Hs' t' → MI mM' n' S' Hs' t' → TwoW s adX adM cy D AX AM mX' mM' H1 locs1 → W p l e room_1 s m #[Value.ref b] below meth c H1 locs1 cells slots Q (F0 m 1642 ls [])) : W p l e room_1 s m #[Value.ref b] below meth c H locs cells slots Q (F0 m 327 ls []) := by
  obtain ⟨hx, hb, hr, hml, hown, hts, hXs, hbl, hlocks, hgv⟩ := id C0
  refine lv_aload_n hx hb (dc kd_law_1 0 rfl) rfl (lv_at hl 1 rfl) ?_
  refine ld_arg (pc := 328) (k := 1) C0 hL (by omega) hW.2.2.2.2 hl (dc kd_law_1 1 rfl) (dc kd_law_1 2 rfl) (dc kd_law_1 3 rfl) (by decide) (dc kd_law_1 4 rfl) (dc kd_law_1 5 rfl) ?_
  refine law_pair (pc := 333) (pc2 := 342) (As := [.int (xs (i + 1))]) C0 mv_Law_18 mv_Law_22 rfl rfl (pr_back g) rfl (fun _ => rfl) C hX hM hW hl.1 (dc kd_law_1 6 rfl) (dc kd_law_1 13 rfl) hcl hsl (fun x H1 locs1 hS1 kk => ?_) (fun x n' S' t' Hs' mX' mM' H1 locs1 g' hX' hM' hW' => ?_)
  · refine lv_aload_n hx hb (dc kd_law_1 7 rfl) rfl (lv_at hl 2 rfl) ?_
    refine ld_arg (pc := 337) (k := 1) C0 hL (by omega) hS1 hl (dc kd_law_1 8 rfl) (dc kd_law_1 9 rfl) (dc kd_law_1 10 rfl) (by decide) (dc kd_law_1 11 rfl) (dc kd_law_1 12 rfl) ?_
    exact kk
  · refine lv_icmp_eq (tgt := 1642) hx hb (dc kd_law_1 14 rfl) (by decide) (fun _ => nx n' S' t' Hs' mX' mM' H1 locs1 g' hX' hM' hW') (fun z => absurd rfl z)
def k_law_2 : List (Nat × Instr × Nat) := [(350, .aload_n 1, 1), (351, .invokevirtual 23, 3), (354, .aload_n 2, 1), (355, .invokevirtual 27, 3), (358, .if_icmp .eq 1284, 3), (361, .iconst 0, 1), (362, .ireturn, 1)]
set_option maxRecDepth 100000 in
theorem kd_law_2 : ∀ q ∈ k_law_2, decode code q.1 = .ok q.2 := by decide +kernel
theorem cs_2 (C0 : lw_At p s m meth c b L xs) (hL : L ≤ 3072) (hi : i + 5 < L) (C : TwoC s adX adM cy D AX AM) (g : Good n S Hs) (hX : XI mX n S Hs t) (hM : MI mM n S Hs t) (hW : TwoW s adX adM cy D AX AM mX mM H locs) (hl : lv_has ls 4 [(0, .ref b), (1, .ref (adX 0)), (2, .ref (adM 0)), (3, .int (nI i))]) (hcl : cells ≤ room_1.cells) (hsl : slots ≤ room_1.slots) (nx : ∀ (n' : Nat) (S' t' : List Nat) (Hs' : List (List Nat)) (mX' mM' : Mem) (H1 : Heap) (locs1 : List Loc), Good n' S' Hs' → XI mX' n' S' Hs' t' → MI mM' n' S' Hs' t' → TwoW s adX adM cy D AX AM mX' mM' H1 locs1 → W p l e room_1 s m #[Value.ref b] below meth c H1 locs1 cells slots Q (F0 m 1642 ls [])) : W p l e room_1 s m #[Value.ref b] below meth c H locs cells slots Q (F0 m 350 ls []) := by
  obtain ⟨hx, hb, hr, hml, hown, hts, hXs, hbl, hlocks, hgv⟩ := id C0
  refine lv_aload_n hx hb (dc kd_law_2 0 rfl) rfl (lv_at hl 1 rfl) ?_
  refine law_pair (pc := 351) (pc2 := 355) (As := []) C0 mv_Law_23 mv_Law_27 rfl rfl (pr_text g) rfl (fun _ => rfl) C hX hM hW hl.1 (dc kd_law_2 1 rfl) (dc kd_law_2 3 rfl) hcl hsl (fun x H1 locs1 hS1 kk => ?_) (fun x n' S' t' Hs' mX' mM' H1 locs1 g' hX' hM' hW' => ?_)
  · refine lv_aload_n hx hb (dc kd_law_2 2 rfl) rfl (lv_at hl 2 rfl) ?_
    exact kk
  · refine lv_icmp_eq (tgt := 1642) hx hb (dc kd_law_2 4 rfl) (by decide) (fun _ => nx n' S' t' Hs' mX' mM' H1 locs1 g' hX' hM' hW') (fun z => absurd rfl z)
def k_law_3 : List (Nat × Instr × Nat) := [(363, .aload_n 1, 1), (364, .aload_n 0, 1), (365, .iload_n 3, 1), (366, .iconst 1, 1), (367, .iadd, 1), (368, .iaload, 1), (369, .invokevirtual 28, 3), (372, .aload_n 2, 1), (373, .aload_n 0, 1), (374, .iload_n 3, 1), (375, .iconst 1, 1), (376, .iadd, 1), (377, .iaload, 1), (378, .invokevirtual 31, 3), (381, .if_icmp .eq 1261, 3), (384, .iconst 0, 1), (385, .ireturn, 1)]
set_option maxRecDepth 100000 in
theorem kd_law_3 : ∀ q ∈ k_law_3, decode code q.1 = .ok q.2 := by decide +kernel
theorem cs_3 (C0 : lw_At p s m meth c b L xs) (hL : L ≤ 3072) (hi : i + 5 < L) (C : TwoC s adX adM cy D AX AM) (g : Good n S Hs) (hX : XI mX n S Hs t) (hM : MI mM n S Hs t) (hW : TwoW s adX adM cy D AX AM mX mM H locs) (hl : lv_has ls 4 [(0, .ref b), (1, .ref (adX 0)), (2, .ref (adM 0)), (3, .int (nI i))]) (hcl : cells ≤ room_1.cells) (hsl : slots ≤ room_1.slots) (nx : ∀ (n' : Nat) (S' t' : List Nat) (Hs' : List (List Nat)) (mX' mM' : Mem) (H1 : Heap) (locs1 : List Loc), Good n' S' Hs' → XI mX' n' S' Hs' t' → MI mM' n' S' Hs' t' → TwoW s adX adM cy D AX AM mX' mM' H1 locs1 → W p l e room_1 s m #[Value.ref b] below meth c H1 locs1 cells slots Q (F0 m 1642 ls [])) : W p l e room_1 s m #[Value.ref b] below meth c H locs cells slots Q (F0 m 363 ls []) := by
  obtain ⟨hx, hb, hr, hml, hown, hts, hXs, hbl, hlocks, hgv⟩ := id C0
  refine lv_aload_n hx hb (dc kd_law_3 0 rfl) rfl (lv_at hl 1 rfl) ?_
  refine ld_arg (pc := 364) (k := 1) C0 hL (by omega) hW.2.2.2.2 hl (dc kd_law_3 1 rfl) (dc kd_law_3 2 rfl) (dc kd_law_3 3 rfl) (by decide) (dc kd_law_3 4 rfl) (dc kd_law_3 5 rfl) ?_
  refine law_pair (pc := 369) (pc2 := 378) (As := [.int (xs (i + 1))]) C0 mv_Law_28 mv_Law_31 rfl rfl (pr_add g) rfl (fun _ => rfl) C hX hM hW hl.1 (dc kd_law_3 6 rfl) (dc kd_law_3 13 rfl) hcl hsl (fun x H1 locs1 hS1 kk => ?_) (fun x n' S' t' Hs' mX' mM' H1 locs1 g' hX' hM' hW' => ?_)
  · refine lv_aload_n hx hb (dc kd_law_3 7 rfl) rfl (lv_at hl 2 rfl) ?_
    refine ld_arg (pc := 373) (k := 1) C0 hL (by omega) hS1 hl (dc kd_law_3 8 rfl) (dc kd_law_3 9 rfl) (dc kd_law_3 10 rfl) (by decide) (dc kd_law_3 11 rfl) (dc kd_law_3 12 rfl) ?_
    exact kk
  · refine lv_icmp_eq (tgt := 1642) hx hb (dc kd_law_3 14 rfl) (by decide) (fun _ => nx n' S' t' Hs' mX' mM' H1 locs1 g' hX' hM' hW') (fun z => absurd rfl z)
def k_law_4 : List (Nat × Instr × Nat) := [(386, .aload_n 1, 1), (387, .aload_n 0, 1), (388, .iload_n 3, 1), (389, .iconst 1, 1), (390, .iadd, 1), (391, .iaload, 1), (392, .invokevirtual 32, 3), (395, .aload_n 2, 1), (396, .aload_n 0, 1), (397, .iload_n 3, 1), (398, .iconst 1, 1), (399, .iadd, 1), (400, .iaload, 1), (401, .invokevirtual 36, 3), (404, .if_icmp .eq 1238, 3), (407, .iconst 0, 1), (408, .ireturn, 1)]
set_option maxRecDepth 100000 in
theorem kd_law_4 : ∀ q ∈ k_law_4, decode code q.1 = .ok q.2 := by decide +kernel
theorem cs_4 (C0 : lw_At p s m meth c b L xs) (hL : L ≤ 3072) (hi : i + 5 < L) (C : TwoC s adX adM cy D AX AM) (g : Good n S Hs) (hX : XI mX n S Hs t) (hM : MI mM n S Hs t) (hW : TwoW s adX adM cy D AX AM mX mM H locs) (hl : lv_has ls 4 [(0, .ref b), (1, .ref (adX 0)), (2, .ref (adM 0)), (3, .int (nI i))]) (hcl : cells ≤ room_1.cells) (hsl : slots ≤ room_1.slots) (nx : ∀ (n' : Nat) (S' t' : List Nat) (Hs' : List (List Nat)) (mX' mM' : Mem) (H1 : Heap) (locs1 : List Loc), Good n' S' Hs' → XI mX' n' S' Hs' t' → MI mM' n' S' Hs' t' → TwoW s adX adM cy D AX AM mX' mM' H1 locs1 → W p l e room_1 s m #[Value.ref b] below meth c H1 locs1 cells slots Q (F0 m 1642 ls [])) : W p l e room_1 s m #[Value.ref b] below meth c H locs cells slots Q (F0 m 386 ls []) := by
  obtain ⟨hx, hb, hr, hml, hown, hts, hXs, hbl, hlocks, hgv⟩ := id C0
  refine lv_aload_n hx hb (dc kd_law_4 0 rfl) rfl (lv_at hl 1 rfl) ?_
  refine ld_arg (pc := 387) (k := 1) C0 hL (by omega) hW.2.2.2.2 hl (dc kd_law_4 1 rfl) (dc kd_law_4 2 rfl) (dc kd_law_4 3 rfl) (by decide) (dc kd_law_4 4 rfl) (dc kd_law_4 5 rfl) ?_
  refine law_pair (pc := 392) (pc2 := 401) (As := [.int (xs (i + 1))]) C0 mv_Law_32 mv_Law_36 rfl rfl (pr_drop g) rfl (fun _ => rfl) C hX hM hW hl.1 (dc kd_law_4 6 rfl) (dc kd_law_4 13 rfl) hcl hsl (fun x H1 locs1 hS1 kk => ?_) (fun x n' S' t' Hs' mX' mM' H1 locs1 g' hX' hM' hW' => ?_)
  · refine lv_aload_n hx hb (dc kd_law_4 7 rfl) rfl (lv_at hl 2 rfl) ?_
    refine ld_arg (pc := 396) (k := 1) C0 hL (by omega) hS1 hl (dc kd_law_4 8 rfl) (dc kd_law_4 9 rfl) (dc kd_law_4 10 rfl) (by decide) (dc kd_law_4 11 rfl) (dc kd_law_4 12 rfl) ?_
    exact kk
  · refine lv_icmp_eq (tgt := 1642) hx hb (dc kd_law_4 14 rfl) (by decide) (fun _ => nx n' S' t' Hs' mX' mM' H1 locs1 g' hX' hM' hW') (fun z => absurd rfl z)
def k_law_5 : List (Nat × Instr × Nat) := [(409, .aload_n 1, 1), (410, .aload_n 0, 1), (411, .iload_n 3, 1), (412, .iconst 1, 1), (413, .iadd, 1), (414, .iaload, 1), (415, .aload_n 0, 1), (416, .iload_n 3, 1), (417, .iconst 2, 1), (418, .iadd, 1), (419, .iaload, 1), (420, .invokevirtual 37, 3), (423, .aload_n 2, 1), (424, .aload_n 0, 1), (425, .iload_n 3, 1), (426, .iconst 1, 1), (427, .iadd, 1), (428, .iaload, 1), (429, .aload_n 0, 1), (430, .iload_n 3, 1), (431, .iconst 2, 1), (432, .iadd, 1), (433, .iaload, 1), (434, .invokevirtual 41, 3), (437, .if_icmp .eq 1205, 3), (440, .iconst 0, 1), (441, .ireturn, 1)]
set_option maxRecDepth 100000 in
theorem kd_law_5 : ∀ q ∈ k_law_5, decode code q.1 = .ok q.2 := by decide +kernel
theorem cs_5 (C0 : lw_At p s m meth c b L xs) (hL : L ≤ 3072) (hi : i + 5 < L) (C : TwoC s adX adM cy D AX AM) (g : Good n S Hs) (hX : XI mX n S Hs t) (hM : MI mM n S Hs t) (hW : TwoW s adX adM cy D AX AM mX mM H locs) (hl : lv_has ls 4 [(0, .ref b), (1, .ref (adX 0)), (2, .ref (adM 0)), (3, .int (nI i))]) (hcl : cells ≤ room_1.cells) (hsl : slots ≤ room_1.slots) (nx : ∀ (n' : Nat) (S' t' : List Nat) (Hs' : List (List Nat)) (mX' mM' : Mem) (H1 : Heap) (locs1 : List Loc), Good n' S' Hs' → XI mX' n' S' Hs' t' → MI mM' n' S' Hs' t' → TwoW s adX adM cy D AX AM mX' mM' H1 locs1 → W p l e room_1 s m #[Value.ref b] below meth c H1 locs1 cells slots Q (F0 m 1642 ls [])) : W p l e room_1 s m #[Value.ref b] below meth c H locs cells slots Q (F0 m 409 ls []) := by
  obtain ⟨hx, hb, hr, hml, hown, hts, hXs, hbl, hlocks, hgv⟩ := id C0
  refine lv_aload_n hx hb (dc kd_law_5 0 rfl) rfl (lv_at hl 1 rfl) ?_
  refine ld_arg (pc := 410) (k := 1) C0 hL (by omega) hW.2.2.2.2 hl (dc kd_law_5 1 rfl) (dc kd_law_5 2 rfl) (dc kd_law_5 3 rfl) (by decide) (dc kd_law_5 4 rfl) (dc kd_law_5 5 rfl) ?_
  refine ld_arg (pc := 415) (k := 2) C0 hL (by omega) hW.2.2.2.2 hl (dc kd_law_5 6 rfl) (dc kd_law_5 7 rfl) (dc kd_law_5 8 rfl) (by decide) (dc kd_law_5 9 rfl) (dc kd_law_5 10 rfl) ?_
  refine law_pair (pc := 420) (pc2 := 434) (As := [.int (xs (i + 1)), .int (xs (i + 2))]) C0 mv_Law_37 mv_Law_41 rfl rfl (pr_change g) rfl (fun _ => rfl) C hX hM hW hl.1 (dc kd_law_5 11 rfl) (dc kd_law_5 23 rfl) hcl hsl (fun x H1 locs1 hS1 kk => ?_) (fun x n' S' t' Hs' mX' mM' H1 locs1 g' hX' hM' hW' => ?_)
  · refine lv_aload_n hx hb (dc kd_law_5 12 rfl) rfl (lv_at hl 2 rfl) ?_
    refine ld_arg (pc := 424) (k := 1) C0 hL (by omega) hS1 hl (dc kd_law_5 13 rfl) (dc kd_law_5 14 rfl) (dc kd_law_5 15 rfl) (by decide) (dc kd_law_5 16 rfl) (dc kd_law_5 17 rfl) ?_
    refine ld_arg (pc := 429) (k := 2) C0 hL (by omega) hS1 hl (dc kd_law_5 18 rfl) (dc kd_law_5 19 rfl) (dc kd_law_5 20 rfl) (by decide) (dc kd_law_5 21 rfl) (dc kd_law_5 22 rfl) ?_
    exact kk
  · refine lv_icmp_eq (tgt := 1642) hx hb (dc kd_law_5 24 rfl) (by decide) (fun _ => nx n' S' t' Hs' mX' mM' H1 locs1 g' hX' hM' hW') (fun z => absurd rfl z)
def k_law_6 : List (Nat × Instr × Nat) := [(442, .aload_n 1, 1), (443, .aload_n 0, 1), (444, .iload_n 3, 1), (445, .iconst 1, 1), (446, .iadd, 1), (447, .iaload, 1), (448, .aload_n 0, 1), (449, .iload_n 3, 1), (450, .iconst 2, 1), (451, .iadd, 1), (452, .iaload, 1), (453, .invokevirtual 42, 3), (456, .aload_n 2, 1), (457, .aload_n 0, 1), (458, .iload_n 3, 1), (459, .iconst 1, 1), (460, .iadd, 1), (461, .iaload, 1), (462, .aload_n 0, 1), (463, .iload_n 3, 1), (464, .iconst 2, 1), (465, .iadd, 1), (466, .iaload, 1), (467, .invokevirtual 45, 3), (470, .if_icmp .eq 1172, 3), (473, .iconst 0, 1), (474, .ireturn, 1)]
set_option maxRecDepth 100000 in
theorem kd_law_6 : ∀ q ∈ k_law_6, decode code q.1 = .ok q.2 := by decide +kernel
theorem cs_6 (C0 : lw_At p s m meth c b L xs) (hL : L ≤ 3072) (hi : i + 5 < L) (C : TwoC s adX adM cy D AX AM) (g : Good n S Hs) (hX : XI mX n S Hs t) (hM : MI mM n S Hs t) (hW : TwoW s adX adM cy D AX AM mX mM H locs) (hl : lv_has ls 4 [(0, .ref b), (1, .ref (adX 0)), (2, .ref (adM 0)), (3, .int (nI i))]) (hcl : cells ≤ room_1.cells) (hsl : slots ≤ room_1.slots) (nx : ∀ (n' : Nat) (S' t' : List Nat) (Hs' : List (List Nat)) (mX' mM' : Mem) (H1 : Heap) (locs1 : List Loc), Good n' S' Hs' → XI mX' n' S' Hs' t' → MI mM' n' S' Hs' t' → TwoW s adX adM cy D AX AM mX' mM' H1 locs1 → W p l e room_1 s m #[Value.ref b] below meth c H1 locs1 cells slots Q (F0 m 1642 ls [])) : W p l e room_1 s m #[Value.ref b] below meth c H locs cells slots Q (F0 m 442 ls []) := by
  obtain ⟨hx, hb, hr, hml, hown, hts, hXs, hbl, hlocks, hgv⟩ := id C0
  refine lv_aload_n hx hb (dc kd_law_6 0 rfl) rfl (lv_at hl 1 rfl) ?_
  refine ld_arg (pc := 443) (k := 1) C0 hL (by omega) hW.2.2.2.2 hl (dc kd_law_6 1 rfl) (dc kd_law_6 2 rfl) (dc kd_law_6 3 rfl) (by decide) (dc kd_law_6 4 rfl) (dc kd_law_6 5 rfl) ?_
  refine ld_arg (pc := 448) (k := 2) C0 hL (by omega) hW.2.2.2.2 hl (dc kd_law_6 6 rfl) (dc kd_law_6 7 rfl) (dc kd_law_6 8 rfl) (by decide) (dc kd_law_6 9 rfl) (dc kd_law_6 10 rfl) ?_
  refine law_pair (pc := 453) (pc2 := 467) (As := [.int (xs (i + 1)), .int (xs (i + 2))]) C0 mv_Law_42 mv_Law_45 rfl rfl (pr_swap g) rfl (fun _ => rfl) C hX hM hW hl.1 (dc kd_law_6 11 rfl) (dc kd_law_6 23 rfl) hcl hsl (fun x H1 locs1 hS1 kk => ?_) (fun x n' S' t' Hs' mX' mM' H1 locs1 g' hX' hM' hW' => ?_)
  · refine lv_aload_n hx hb (dc kd_law_6 12 rfl) rfl (lv_at hl 2 rfl) ?_
    refine ld_arg (pc := 457) (k := 1) C0 hL (by omega) hS1 hl (dc kd_law_6 13 rfl) (dc kd_law_6 14 rfl) (dc kd_law_6 15 rfl) (by decide) (dc kd_law_6 16 rfl) (dc kd_law_6 17 rfl) ?_
    refine ld_arg (pc := 462) (k := 2) C0 hL (by omega) hS1 hl (dc kd_law_6 18 rfl) (dc kd_law_6 19 rfl) (dc kd_law_6 20 rfl) (by decide) (dc kd_law_6 21 rfl) (dc kd_law_6 22 rfl) ?_
    exact kk
  · refine lv_icmp_eq (tgt := 1642) hx hb (dc kd_law_6 24 rfl) (by decide) (fun _ => nx n' S' t' Hs' mX' mM' H1 locs1 g' hX' hM' hW') (fun z => absurd rfl z)
def k_law_7 : List (Nat × Instr × Nat) := [(475, .aload_n 1, 1), (476, .aload_n 0, 1), (477, .iload_n 3, 1), (478, .iconst 1, 1), (479, .iadd, 1), (480, .iaload, 1), (481, .invokevirtual 46, 3), (484, .aload_n 2, 1), (485, .aload_n 0, 1), (486, .iload_n 3, 1), (487, .iconst 1, 1), (488, .iadd, 1), (489, .iaload, 1), (490, .invokevirtual 49, 3), (493, .if_icmp .eq 1149, 3), (496, .iconst 0, 1), (497, .ireturn, 1)]
set_option maxRecDepth 100000 in
theorem kd_law_7 : ∀ q ∈ k_law_7, decode code q.1 = .ok q.2 := by decide +kernel
theorem cs_7 (C0 : lw_At p s m meth c b L xs) (hL : L ≤ 3072) (hi : i + 5 < L) (C : TwoC s adX adM cy D AX AM) (g : Good n S Hs) (hX : XI mX n S Hs t) (hM : MI mM n S Hs t) (hW : TwoW s adX adM cy D AX AM mX mM H locs) (hl : lv_has ls 4 [(0, .ref b), (1, .ref (adX 0)), (2, .ref (adM 0)), (3, .int (nI i))]) (hcl : cells ≤ room_1.cells) (hsl : slots ≤ room_1.slots) (nx : ∀ (n' : Nat) (S' t' : List Nat) (Hs' : List (List Nat)) (mX' mM' : Mem) (H1 : Heap) (locs1 : List Loc), Good n' S' Hs' → XI mX' n' S' Hs' t' → MI mM' n' S' Hs' t' → TwoW s adX adM cy D AX AM mX' mM' H1 locs1 → W p l e room_1 s m #[Value.ref b] below meth c H1 locs1 cells slots Q (F0 m 1642 ls [])) : W p l e room_1 s m #[Value.ref b] below meth c H locs cells slots Q (F0 m 475 ls []) := by
  obtain ⟨hx, hb, hr, hml, hown, hts, hXs, hbl, hlocks, hgv⟩ := id C0
  refine lv_aload_n hx hb (dc kd_law_7 0 rfl) rfl (lv_at hl 1 rfl) ?_
  refine ld_arg (pc := 476) (k := 1) C0 hL (by omega) hW.2.2.2.2 hl (dc kd_law_7 1 rfl) (dc kd_law_7 2 rfl) (dc kd_law_7 3 rfl) (by decide) (dc kd_law_7 4 rfl) (dc kd_law_7 5 rfl) ?_
  refine law_pair (pc := 481) (pc2 := 490) (As := [.int (xs (i + 1))]) C0 mv_Law_46 mv_Law_49 rfl rfl (pr_without g) rfl (fun _ => rfl) C hX hM hW hl.1 (dc kd_law_7 6 rfl) (dc kd_law_7 13 rfl) hcl hsl (fun x H1 locs1 hS1 kk => ?_) (fun x n' S' t' Hs' mX' mM' H1 locs1 g' hX' hM' hW' => ?_)
  · refine lv_aload_n hx hb (dc kd_law_7 7 rfl) rfl (lv_at hl 2 rfl) ?_
    refine ld_arg (pc := 485) (k := 1) C0 hL (by omega) hS1 hl (dc kd_law_7 8 rfl) (dc kd_law_7 9 rfl) (dc kd_law_7 10 rfl) (by decide) (dc kd_law_7 11 rfl) (dc kd_law_7 12 rfl) ?_
    exact kk
  · refine lv_icmp_eq (tgt := 1642) hx hb (dc kd_law_7 14 rfl) (by decide) (fun _ => nx n' S' t' Hs' mX' mM' H1 locs1 g' hX' hM' hW') (fun z => absurd rfl z)
def k_law_8 : List (Nat × Instr × Nat) := [(498, .aload_n 1, 1), (499, .aload_n 0, 1), (500, .iload_n 3, 1), (501, .iconst 1, 1), (502, .iadd, 1), (503, .iaload, 1), (504, .aload_n 0, 1), (505, .iload_n 3, 1), (506, .iconst 2, 1), (507, .iadd, 1), (508, .iaload, 1), (509, .ifCond .eq 7, 3), (512, .iconst 1, 1), (513, .goto 4, 3), (516, .iconst 0, 1), (517, .invokevirtual 50, 3), (520, .aload_n 2, 1), (521, .aload_n 0, 1), (522, .iload_n 3, 1), (523, .iconst 1, 1), (524, .iadd, 1), (525, .iaload, 1), (526, .aload_n 0, 1), (527, .iload_n 3, 1), (528, .iconst 2, 1), (529, .iadd, 1), (530, .iaload, 1), (531, .ifCond .eq 7, 3), (534, .iconst 1, 1), (535, .goto 4, 3), (538, .iconst 0, 1), (539, .invokevirtual 54, 3), (542, .if_icmp .eq 1100, 3), (545, .iconst 0, 1), (546, .ireturn, 1)]
set_option maxRecDepth 100000 in
theorem kd_law_8 : ∀ q ∈ k_law_8, decode code q.1 = .ok q.2 := by decide +kernel
theorem cs_8 (C0 : lw_At p s m meth c b L xs) (hL : L ≤ 3072) (hi : i + 5 < L) (C : TwoC s adX adM cy D AX AM) (g : Good n S Hs) (hX : XI mX n S Hs t) (hM : MI mM n S Hs t) (hW : TwoW s adX adM cy D AX AM mX mM H locs) (hl : lv_has ls 4 [(0, .ref b), (1, .ref (adX 0)), (2, .ref (adM 0)), (3, .int (nI i))]) (hcl : cells ≤ room_1.cells) (hsl : slots ≤ room_1.slots) (nx : ∀ (n' : Nat) (S' t' : List Nat) (Hs' : List (List Nat)) (mX' mM' : Mem) (H1 : Heap) (locs1 : List Loc), Good n' S' Hs' → XI mX' n' S' Hs' t' → MI mM' n' S' Hs' t' → TwoW s adX adM cy D AX AM mX' mM' H1 locs1 → W p l e room_1 s m #[Value.ref b] below meth c H1 locs1 cells slots Q (F0 m 1642 ls [])) : W p l e room_1 s m #[Value.ref b] below meth c H locs cells slots Q (F0 m 498 ls []) := by
  obtain ⟨hx, hb, hr, hml, hown, hts, hXs, hbl, hlocks, hgv⟩ := id C0
  refine lv_aload_n hx hb (dc kd_law_8 0 rfl) rfl (lv_at hl 1 rfl) ?_
  refine ld_arg (pc := 499) (k := 1) C0 hL (by omega) hW.2.2.2.2 hl (dc kd_law_8 1 rfl) (dc kd_law_8 2 rfl) (dc kd_law_8 3 rfl) (by decide) (dc kd_law_8 4 rfl) (dc kd_law_8 5 rfl) ?_
  refine ld_arg (pc := 504) (k := 2) C0 hL (by omega) hW.2.2.2.2 hl (dc kd_law_8 6 rfl) (dc kd_law_8 7 rfl) (dc kd_law_8 8 rfl) (by decide) (dc kd_law_8 9 rfl) (dc kd_law_8 10 rfl) ?_
  refine lv_if_eq (tgt := 516) hx hb (dc kd_law_8 11 rfl) (by decide) (fun z => ?_) (fun z => ?_)
  · refine lv_iconst (v := 0) hx hb (dc kd_law_8 14 rfl) (by decide) ?_
    refine law_pair (pc := 517) (pc2 := 539) (As := [.int (xs (i + 1)), .int 0]) C0 mv_Law_50 mv_Law_54 rfl rfl (pr_only g (Or.inl rfl)) rfl (fun _ => rfl) C hX hM hW hl.1 (dc kd_law_8 15 rfl) (dc kd_law_8 31 rfl) hcl hsl (fun x H1 locs1 hS1 kk => ?_) (fun x n' S' t' Hs' mX' mM' H1 locs1 g' hX' hM' hW' => ?_)
    · refine lv_aload_n hx hb (dc kd_law_8 16 rfl) rfl (lv_at hl 2 rfl) ?_
      refine ld_arg (pc := 521) (k := 1) C0 hL (by omega) hS1 hl (dc kd_law_8 17 rfl) (dc kd_law_8 18 rfl) (dc kd_law_8 19 rfl) (by decide) (dc kd_law_8 20 rfl) (dc kd_law_8 21 rfl) ?_
      refine ld_arg (pc := 526) (k := 2) C0 hL (by omega) hS1 hl (dc kd_law_8 22 rfl) (dc kd_law_8 23 rfl) (dc kd_law_8 24 rfl) (by decide) (dc kd_law_8 25 rfl) (dc kd_law_8 26 rfl) ?_
      refine lv_if_eq (tgt := 538) hx hb (dc kd_law_8 27 rfl) (by decide) (fun z2 => ?_) (fun z2 => ?_)
      · refine lv_iconst (v := 0) hx hb (dc kd_law_8 30 rfl) (by decide) ?_
        exact kk
      · exact absurd z z2
    · refine lv_icmp_eq (tgt := 1642) hx hb (dc kd_law_8 32 rfl) (by decide) (fun _ => nx n' S' t' Hs' mX' mM' H1 locs1 g' hX' hM' hW') (fun z => absurd rfl z)
  · refine lv_iconst (v := 1) hx hb (dc kd_law_8 12 rfl) (by decide) ?_
    refine lv_goto (tgt := 517) hx hb (dc kd_law_8 13 rfl) (by decide) ?_
    refine law_pair (pc := 517) (pc2 := 539) (As := [.int (xs (i + 1)), .int 1]) C0 mv_Law_50 mv_Law_54 rfl rfl (pr_only g (Or.inr rfl)) rfl (fun _ => rfl) C hX hM hW hl.1 (dc kd_law_8 15 rfl) (dc kd_law_8 31 rfl) hcl hsl (fun x H1 locs1 hS1 kk => ?_) (fun x n' S' t' Hs' mX' mM' H1 locs1 g' hX' hM' hW' => ?_)
    · refine lv_aload_n hx hb (dc kd_law_8 16 rfl) rfl (lv_at hl 2 rfl) ?_
      refine ld_arg (pc := 521) (k := 1) C0 hL (by omega) hS1 hl (dc kd_law_8 17 rfl) (dc kd_law_8 18 rfl) (dc kd_law_8 19 rfl) (by decide) (dc kd_law_8 20 rfl) (dc kd_law_8 21 rfl) ?_
      refine ld_arg (pc := 526) (k := 2) C0 hL (by omega) hS1 hl (dc kd_law_8 22 rfl) (dc kd_law_8 23 rfl) (dc kd_law_8 24 rfl) (by decide) (dc kd_law_8 25 rfl) (dc kd_law_8 26 rfl) ?_
      refine lv_if_eq (tgt := 538) hx hb (dc kd_law_8 27 rfl) (by decide) (fun z2 => ?_) (fun z2 => ?_)
      · exact absurd z2 z
      · refine lv_iconst (v := 1) hx hb (dc kd_law_8 28 rfl) (by decide) ?_
        refine lv_goto (tgt := 539) hx hb (dc kd_law_8 29 rfl) (by decide) ?_
        exact kk
    · refine lv_icmp_eq (tgt := 1642) hx hb (dc kd_law_8 32 rfl) (by decide) (fun _ => nx n' S' t' Hs' mX' mM' H1 locs1 g' hX' hM' hW') (fun z => absurd rfl z)
def k_law_9 : List (Nat × Instr × Nat) := [(547, .aload_n 1, 1), (548, .aload_n 0, 1), (549, .iload_n 3, 1), (550, .iconst 1, 1), (551, .iadd, 1), (552, .iaload, 1), (553, .aload_n 0, 1), (554, .iload_n 3, 1), (555, .iconst 2, 1), (556, .iadd, 1), (557, .iaload, 1), (558, .invokevirtual 55, 3), (561, .aload_n 2, 1), (562, .aload_n 0, 1), (563, .iload_n 3, 1), (564, .iconst 1, 1), (565, .iadd, 1), (566, .iaload, 1), (567, .aload_n 0, 1), (568, .iload_n 3, 1), (569, .iconst 2, 1), (570, .iadd, 1), (571, .iaload, 1), (572, .invokevirtual 58, 3), (575, .if_icmp .eq 1067, 3), (578, .iconst 0, 1), (579, .ireturn, 1)]
set_option maxRecDepth 100000 in
theorem kd_law_9 : ∀ q ∈ k_law_9, decode code q.1 = .ok q.2 := by decide +kernel
theorem cs_9 (C0 : lw_At p s m meth c b L xs) (hL : L ≤ 3072) (hi : i + 5 < L) (C : TwoC s adX adM cy D AX AM) (g : Good n S Hs) (hX : XI mX n S Hs t) (hM : MI mM n S Hs t) (hW : TwoW s adX adM cy D AX AM mX mM H locs) (hl : lv_has ls 4 [(0, .ref b), (1, .ref (adX 0)), (2, .ref (adM 0)), (3, .int (nI i))]) (hcl : cells ≤ room_1.cells) (hsl : slots ≤ room_1.slots) (nx : ∀ (n' : Nat) (S' t' : List Nat) (Hs' : List (List Nat)) (mX' mM' : Mem) (H1 : Heap) (locs1 : List Loc), Good n' S' Hs' → XI mX' n' S' Hs' t' → MI mM' n' S' Hs' t' → TwoW s adX adM cy D AX AM mX' mM' H1 locs1 → W p l e room_1 s m #[Value.ref b] below meth c H1 locs1 cells slots Q (F0 m 1642 ls [])) : W p l e room_1 s m #[Value.ref b] below meth c H locs cells slots Q (F0 m 547 ls []) := by
  obtain ⟨hx, hb, hr, hml, hown, hts, hXs, hbl, hlocks, hgv⟩ := id C0
  refine lv_aload_n hx hb (dc kd_law_9 0 rfl) rfl (lv_at hl 1 rfl) ?_
  refine ld_arg (pc := 548) (k := 1) C0 hL (by omega) hW.2.2.2.2 hl (dc kd_law_9 1 rfl) (dc kd_law_9 2 rfl) (dc kd_law_9 3 rfl) (by decide) (dc kd_law_9 4 rfl) (dc kd_law_9 5 rfl) ?_
  refine ld_arg (pc := 553) (k := 2) C0 hL (by omega) hW.2.2.2.2 hl (dc kd_law_9 6 rfl) (dc kd_law_9 7 rfl) (dc kd_law_9 8 rfl) (by decide) (dc kd_law_9 9 rfl) (dc kd_law_9 10 rfl) ?_
  refine law_pair (pc := 558) (pc2 := 572) (As := [.int (xs (i + 1)), .int (xs (i + 2))]) C0 mv_Law_55 mv_Law_58 rfl rfl (pr_join g) rfl (fun _ => rfl) C hX hM hW hl.1 (dc kd_law_9 11 rfl) (dc kd_law_9 23 rfl) hcl hsl (fun x H1 locs1 hS1 kk => ?_) (fun x n' S' t' Hs' mX' mM' H1 locs1 g' hX' hM' hW' => ?_)
  · refine lv_aload_n hx hb (dc kd_law_9 12 rfl) rfl (lv_at hl 2 rfl) ?_
    refine ld_arg (pc := 562) (k := 1) C0 hL (by omega) hS1 hl (dc kd_law_9 13 rfl) (dc kd_law_9 14 rfl) (dc kd_law_9 15 rfl) (by decide) (dc kd_law_9 16 rfl) (dc kd_law_9 17 rfl) ?_
    refine ld_arg (pc := 567) (k := 2) C0 hL (by omega) hS1 hl (dc kd_law_9 18 rfl) (dc kd_law_9 19 rfl) (dc kd_law_9 20 rfl) (by decide) (dc kd_law_9 21 rfl) (dc kd_law_9 22 rfl) ?_
    exact kk
  · refine lv_icmp_eq (tgt := 1642) hx hb (dc kd_law_9 24 rfl) (by decide) (fun _ => nx n' S' t' Hs' mX' mM' H1 locs1 g' hX' hM' hW') (fun z => absurd rfl z)
def k_law_10 : List (Nat × Instr × Nat) := [(580, .aload_n 1, 1), (581, .invokevirtual 59, 3), (584, .aload_n 2, 1), (585, .invokevirtual 62, 3), (588, .if_icmp .eq 1054, 3), (591, .iconst 0, 1), (592, .ireturn, 1)]
set_option maxRecDepth 100000 in
theorem kd_law_10 : ∀ q ∈ k_law_10, decode code q.1 = .ok q.2 := by decide +kernel
theorem cs_10 (C0 : lw_At p s m meth c b L xs) (hL : L ≤ 3072) (hi : i + 5 < L) (C : TwoC s adX adM cy D AX AM) (g : Good n S Hs) (hX : XI mX n S Hs t) (hM : MI mM n S Hs t) (hW : TwoW s adX adM cy D AX AM mX mM H locs) (hl : lv_has ls 4 [(0, .ref b), (1, .ref (adX 0)), (2, .ref (adM 0)), (3, .int (nI i))]) (hcl : cells ≤ room_1.cells) (hsl : slots ≤ room_1.slots) (nx : ∀ (n' : Nat) (S' t' : List Nat) (Hs' : List (List Nat)) (mX' mM' : Mem) (H1 : Heap) (locs1 : List Loc), Good n' S' Hs' → XI mX' n' S' Hs' t' → MI mM' n' S' Hs' t' → TwoW s adX adM cy D AX AM mX' mM' H1 locs1 → W p l e room_1 s m #[Value.ref b] below meth c H1 locs1 cells slots Q (F0 m 1642 ls [])) : W p l e room_1 s m #[Value.ref b] below meth c H locs cells slots Q (F0 m 580 ls []) := by
  obtain ⟨hx, hb, hr, hml, hown, hts, hXs, hbl, hlocks, hgv⟩ := id C0
  refine lv_aload_n hx hb (dc kd_law_10 0 rfl) rfl (lv_at hl 1 rfl) ?_
  refine law_pair (pc := 581) (pc2 := 585) (As := []) C0 mv_Law_59 mv_Law_62 rfl rfl (pr_turn g) rfl (fun _ => rfl) C hX hM hW hl.1 (dc kd_law_10 1 rfl) (dc kd_law_10 3 rfl) hcl hsl (fun x H1 locs1 hS1 kk => ?_) (fun x n' S' t' Hs' mX' mM' H1 locs1 g' hX' hM' hW' => ?_)
  · refine lv_aload_n hx hb (dc kd_law_10 2 rfl) rfl (lv_at hl 2 rfl) ?_
    exact kk
  · refine lv_icmp_eq (tgt := 1642) hx hb (dc kd_law_10 4 rfl) (by decide) (fun _ => nx n' S' t' Hs' mX' mM' H1 locs1 g' hX' hM' hW') (fun z => absurd rfl z)
def k_law_11 : List (Nat × Instr × Nat) := [(593, .aload_n 1, 1), (594, .invokevirtual 63, 3), (597, .aload_n 2, 1), (598, .invokevirtual 66, 3), (601, .if_icmp .eq 1041, 3), (604, .iconst 0, 1), (605, .ireturn, 1)]
set_option maxRecDepth 100000 in
theorem kd_law_11 : ∀ q ∈ k_law_11, decode code q.1 = .ok q.2 := by decide +kernel
theorem cs_11 (C0 : lw_At p s m meth c b L xs) (hL : L ≤ 3072) (hi : i + 5 < L) (C : TwoC s adX adM cy D AX AM) (g : Good n S Hs) (hX : XI mX n S Hs t) (hM : MI mM n S Hs t) (hW : TwoW s adX adM cy D AX AM mX mM H locs) (hl : lv_has ls 4 [(0, .ref b), (1, .ref (adX 0)), (2, .ref (adM 0)), (3, .int (nI i))]) (hcl : cells ≤ room_1.cells) (hsl : slots ≤ room_1.slots) (nx : ∀ (n' : Nat) (S' t' : List Nat) (Hs' : List (List Nat)) (mX' mM' : Mem) (H1 : Heap) (locs1 : List Loc), Good n' S' Hs' → XI mX' n' S' Hs' t' → MI mM' n' S' Hs' t' → TwoW s adX adM cy D AX AM mX' mM' H1 locs1 → W p l e room_1 s m #[Value.ref b] below meth c H1 locs1 cells slots Q (F0 m 1642 ls [])) : W p l e room_1 s m #[Value.ref b] below meth c H locs cells slots Q (F0 m 593 ls []) := by
  obtain ⟨hx, hb, hr, hml, hown, hts, hXs, hbl, hlocks, hgv⟩ := id C0
  refine lv_aload_n hx hb (dc kd_law_11 0 rfl) rfl (lv_at hl 1 rfl) ?_
  refine law_pair (pc := 594) (pc2 := 598) (As := []) C0 mv_Law_63 mv_Law_66 rfl rfl (pr_flip g) rfl (fun _ => rfl) C hX hM hW hl.1 (dc kd_law_11 1 rfl) (dc kd_law_11 3 rfl) hcl hsl (fun x H1 locs1 hS1 kk => ?_) (fun x n' S' t' Hs' mX' mM' H1 locs1 g' hX' hM' hW' => ?_)
  · refine lv_aload_n hx hb (dc kd_law_11 2 rfl) rfl (lv_at hl 2 rfl) ?_
    exact kk
  · refine lv_icmp_eq (tgt := 1642) hx hb (dc kd_law_11 4 rfl) (by decide) (fun _ => nx n' S' t' Hs' mX' mM' H1 locs1 g' hX' hM' hW') (fun z => absurd rfl z)
def k_law_12 : List (Nat × Instr × Nat) := [(606, .aload_n 1, 1), (607, .aload_n 0, 1), (608, .iload_n 3, 1), (609, .iconst 1, 1), (610, .iadd, 1), (611, .iaload, 1), (612, .invokevirtual 67, 3), (615, .aload_n 2, 1), (616, .aload_n 0, 1), (617, .iload_n 3, 1), (618, .iconst 1, 1), (619, .iadd, 1), (620, .iaload, 1), (621, .invokevirtual 70, 3), (624, .if_icmp .eq 1018, 3), (627, .iconst 0, 1), (628, .ireturn, 1)]
set_option maxRecDepth 100000 in
theorem kd_law_12 : ∀ q ∈ k_law_12, decode code q.1 = .ok q.2 := by decide +kernel
theorem cs_12 (C0 : lw_At p s m meth c b L xs) (hL : L ≤ 3072) (hi : i + 5 < L) (C : TwoC s adX adM cy D AX AM) (g : Good n S Hs) (hX : XI mX n S Hs t) (hM : MI mM n S Hs t) (hW : TwoW s adX adM cy D AX AM mX mM H locs) (hl : lv_has ls 4 [(0, .ref b), (1, .ref (adX 0)), (2, .ref (adM 0)), (3, .int (nI i))]) (hcl : cells ≤ room_1.cells) (hsl : slots ≤ room_1.slots) (nx : ∀ (n' : Nat) (S' t' : List Nat) (Hs' : List (List Nat)) (mX' mM' : Mem) (H1 : Heap) (locs1 : List Loc), Good n' S' Hs' → XI mX' n' S' Hs' t' → MI mM' n' S' Hs' t' → TwoW s adX adM cy D AX AM mX' mM' H1 locs1 → W p l e room_1 s m #[Value.ref b] below meth c H1 locs1 cells slots Q (F0 m 1642 ls [])) : W p l e room_1 s m #[Value.ref b] below meth c H locs cells slots Q (F0 m 606 ls []) := by
  obtain ⟨hx, hb, hr, hml, hown, hts, hXs, hbl, hlocks, hgv⟩ := id C0
  refine lv_aload_n hx hb (dc kd_law_12 0 rfl) rfl (lv_at hl 1 rfl) ?_
  refine ld_arg (pc := 607) (k := 1) C0 hL (by omega) hW.2.2.2.2 hl (dc kd_law_12 1 rfl) (dc kd_law_12 2 rfl) (dc kd_law_12 3 rfl) (by decide) (dc kd_law_12 4 rfl) (dc kd_law_12 5 rfl) ?_
  refine law_pair (pc := 612) (pc2 := 621) (As := [.int (xs (i + 1))]) C0 mv_Law_67 mv_Law_70 rfl rfl (pr_reduce g) rfl (fun _ => rfl) C hX hM hW hl.1 (dc kd_law_12 6 rfl) (dc kd_law_12 13 rfl) hcl hsl (fun x H1 locs1 hS1 kk => ?_) (fun x n' S' t' Hs' mX' mM' H1 locs1 g' hX' hM' hW' => ?_)
  · refine lv_aload_n hx hb (dc kd_law_12 7 rfl) rfl (lv_at hl 2 rfl) ?_
    refine ld_arg (pc := 616) (k := 1) C0 hL (by omega) hS1 hl (dc kd_law_12 8 rfl) (dc kd_law_12 9 rfl) (dc kd_law_12 10 rfl) (by decide) (dc kd_law_12 11 rfl) (dc kd_law_12 12 rfl) ?_
    exact kk
  · refine lv_icmp_eq (tgt := 1642) hx hb (dc kd_law_12 14 rfl) (by decide) (fun _ => nx n' S' t' Hs' mX' mM' H1 locs1 g' hX' hM' hW') (fun z => absurd rfl z)
def k_law_13 : List (Nat × Instr × Nat) := [(629, .aload_n 1, 1), (630, .aload_n 0, 1), (631, .iload_n 3, 1), (632, .iconst 1, 1), (633, .iadd, 1), (634, .iaload, 1), (635, .invokevirtual 71, 3), (638, .aload_n 2, 1), (639, .aload_n 0, 1), (640, .iload_n 3, 1), (641, .iconst 1, 1), (642, .iadd, 1), (643, .iaload, 1), (644, .invokevirtual 74, 3), (647, .if_icmp .eq 995, 3), (650, .iconst 0, 1), (651, .ireturn, 1)]
set_option maxRecDepth 100000 in
theorem kd_law_13 : ∀ q ∈ k_law_13, decode code q.1 = .ok q.2 := by decide +kernel
theorem cs_13 (C0 : lw_At p s m meth c b L xs) (hL : L ≤ 3072) (hi : i + 5 < L) (C : TwoC s adX adM cy D AX AM) (g : Good n S Hs) (hX : XI mX n S Hs t) (hM : MI mM n S Hs t) (hW : TwoW s adX adM cy D AX AM mX mM H locs) (hl : lv_has ls 4 [(0, .ref b), (1, .ref (adX 0)), (2, .ref (adM 0)), (3, .int (nI i))]) (hcl : cells ≤ room_1.cells) (hsl : slots ≤ room_1.slots) (nx : ∀ (n' : Nat) (S' t' : List Nat) (Hs' : List (List Nat)) (mX' mM' : Mem) (H1 : Heap) (locs1 : List Loc), Good n' S' Hs' → XI mX' n' S' Hs' t' → MI mM' n' S' Hs' t' → TwoW s adX adM cy D AX AM mX' mM' H1 locs1 → W p l e room_1 s m #[Value.ref b] below meth c H1 locs1 cells slots Q (F0 m 1642 ls [])) : W p l e room_1 s m #[Value.ref b] below meth c H locs cells slots Q (F0 m 629 ls []) := by
  obtain ⟨hx, hb, hr, hml, hown, hts, hXs, hbl, hlocks, hgv⟩ := id C0
  refine lv_aload_n hx hb (dc kd_law_13 0 rfl) rfl (lv_at hl 1 rfl) ?_
  refine ld_arg (pc := 630) (k := 1) C0 hL (by omega) hW.2.2.2.2 hl (dc kd_law_13 1 rfl) (dc kd_law_13 2 rfl) (dc kd_law_13 3 rfl) (by decide) (dc kd_law_13 4 rfl) (dc kd_law_13 5 rfl) ?_
  refine law_pair (pc := 635) (pc2 := 644) (As := [.int (xs (i + 1))]) C0 mv_Law_71 mv_Law_74 rfl rfl (pr_thin g) rfl (fun _ => rfl) C hX hM hW hl.1 (dc kd_law_13 6 rfl) (dc kd_law_13 13 rfl) hcl hsl (fun x H1 locs1 hS1 kk => ?_) (fun x n' S' t' Hs' mX' mM' H1 locs1 g' hX' hM' hW' => ?_)
  · refine lv_aload_n hx hb (dc kd_law_13 7 rfl) rfl (lv_at hl 2 rfl) ?_
    refine ld_arg (pc := 639) (k := 1) C0 hL (by omega) hS1 hl (dc kd_law_13 8 rfl) (dc kd_law_13 9 rfl) (dc kd_law_13 10 rfl) (by decide) (dc kd_law_13 11 rfl) (dc kd_law_13 12 rfl) ?_
    exact kk
  · refine lv_icmp_eq (tgt := 1642) hx hb (dc kd_law_13 14 rfl) (by decide) (fun _ => nx n' S' t' Hs' mX' mM' H1 locs1 g' hX' hM' hW') (fun z => absurd rfl z)
def k_law_14 : List (Nat × Instr × Nat) := [(652, .aload_n 1, 1), (653, .invokevirtual 75, 3), (656, .aload_n 2, 1), (657, .invokevirtual 78, 3), (660, .if_icmp .eq 982, 3), (663, .iconst 0, 1), (664, .ireturn, 1)]
set_option maxRecDepth 100000 in
theorem kd_law_14 : ∀ q ∈ k_law_14, decode code q.1 = .ok q.2 := by decide +kernel
theorem cs_14 (C0 : lw_At p s m meth c b L xs) (hL : L ≤ 3072) (hi : i + 5 < L) (C : TwoC s adX adM cy D AX AM) (g : Good n S Hs) (hX : XI mX n S Hs t) (hM : MI mM n S Hs t) (hW : TwoW s adX adM cy D AX AM mX mM H locs) (hl : lv_has ls 4 [(0, .ref b), (1, .ref (adX 0)), (2, .ref (adM 0)), (3, .int (nI i))]) (hcl : cells ≤ room_1.cells) (hsl : slots ≤ room_1.slots) (nx : ∀ (n' : Nat) (S' t' : List Nat) (Hs' : List (List Nat)) (mX' mM' : Mem) (H1 : Heap) (locs1 : List Loc), Good n' S' Hs' → XI mX' n' S' Hs' t' → MI mM' n' S' Hs' t' → TwoW s adX adM cy D AX AM mX' mM' H1 locs1 → W p l e room_1 s m #[Value.ref b] below meth c H1 locs1 cells slots Q (F0 m 1642 ls [])) : W p l e room_1 s m #[Value.ref b] below meth c H locs cells slots Q (F0 m 652 ls []) := by
  obtain ⟨hx, hb, hr, hml, hown, hts, hXs, hbl, hlocks, hgv⟩ := id C0
  refine lv_aload_n hx hb (dc kd_law_14 0 rfl) rfl (lv_at hl 1 rfl) ?_
  refine law_pair (pc := 653) (pc2 := 657) (As := []) C0 mv_Law_75 mv_Law_78 rfl rfl (pr_undo g) rfl (fun _ => rfl) C hX hM hW hl.1 (dc kd_law_14 1 rfl) (dc kd_law_14 3 rfl) hcl hsl (fun x H1 locs1 hS1 kk => ?_) (fun x n' S' t' Hs' mX' mM' H1 locs1 g' hX' hM' hW' => ?_)
  · refine lv_aload_n hx hb (dc kd_law_14 2 rfl) rfl (lv_at hl 2 rfl) ?_
    exact kk
  · refine lv_icmp_eq (tgt := 1642) hx hb (dc kd_law_14 4 rfl) (by decide) (fun _ => nx n' S' t' Hs' mX' mM' H1 locs1 g' hX' hM' hW') (fun z => absurd rfl z)
def k_law_15 : List (Nat × Instr × Nat) := [(665, .aload_n 1, 1), (666, .aload_n 0, 1), (667, .iload_n 3, 1), (668, .iconst 1, 1), (669, .iadd, 1), (670, .iaload, 1), (671, .aload_n 0, 1), (672, .iload_n 3, 1), (673, .iconst 2, 1), (674, .iadd, 1), (675, .iaload, 1), (676, .invokevirtual 79, 3), (679, .aload_n 2, 1), (680, .aload_n 0, 1), (681, .iload_n 3, 1), (682, .iconst 1, 1), (683, .iadd, 1), (684, .iaload, 1), (685, .aload_n 0, 1), (686, .iload_n 3, 1), (687, .iconst 2, 1), (688, .iadd, 1), (689, .iaload, 1), (690, .invokevirtual 82, 3), (693, .if_icmp .eq 949, 3), (696, .iconst 0, 1), (697, .ireturn, 1)]
set_option maxRecDepth 100000 in
theorem kd_law_15 : ∀ q ∈ k_law_15, decode code q.1 = .ok q.2 := by decide +kernel
theorem cs_15 (C0 : lw_At p s m meth c b L xs) (hL : L ≤ 3072) (hi : i + 5 < L) (C : TwoC s adX adM cy D AX AM) (g : Good n S Hs) (hX : XI mX n S Hs t) (hM : MI mM n S Hs t) (hW : TwoW s adX adM cy D AX AM mX mM H locs) (hl : lv_has ls 4 [(0, .ref b), (1, .ref (adX 0)), (2, .ref (adM 0)), (3, .int (nI i))]) (hcl : cells ≤ room_1.cells) (hsl : slots ≤ room_1.slots) (nx : ∀ (n' : Nat) (S' t' : List Nat) (Hs' : List (List Nat)) (mX' mM' : Mem) (H1 : Heap) (locs1 : List Loc), Good n' S' Hs' → XI mX' n' S' Hs' t' → MI mM' n' S' Hs' t' → TwoW s adX adM cy D AX AM mX' mM' H1 locs1 → W p l e room_1 s m #[Value.ref b] below meth c H1 locs1 cells slots Q (F0 m 1642 ls [])) : W p l e room_1 s m #[Value.ref b] below meth c H locs cells slots Q (F0 m 665 ls []) := by
  obtain ⟨hx, hb, hr, hml, hown, hts, hXs, hbl, hlocks, hgv⟩ := id C0
  refine lv_aload_n hx hb (dc kd_law_15 0 rfl) rfl (lv_at hl 1 rfl) ?_
  refine ld_arg (pc := 666) (k := 1) C0 hL (by omega) hW.2.2.2.2 hl (dc kd_law_15 1 rfl) (dc kd_law_15 2 rfl) (dc kd_law_15 3 rfl) (by decide) (dc kd_law_15 4 rfl) (dc kd_law_15 5 rfl) ?_
  refine ld_arg (pc := 671) (k := 2) C0 hL (by omega) hW.2.2.2.2 hl (dc kd_law_15 6 rfl) (dc kd_law_15 7 rfl) (dc kd_law_15 8 rfl) (by decide) (dc kd_law_15 9 rfl) (dc kd_law_15 10 rfl) ?_
  refine law_pair (pc := 676) (pc2 := 690) (As := [.int (xs (i + 1)), .int (xs (i + 2))]) C0 mv_Law_79 mv_Law_82 rfl rfl (pr_set g) rfl (fun _ => rfl) C hX hM hW hl.1 (dc kd_law_15 11 rfl) (dc kd_law_15 23 rfl) hcl hsl (fun x H1 locs1 hS1 kk => ?_) (fun x n' S' t' Hs' mX' mM' H1 locs1 g' hX' hM' hW' => ?_)
  · refine lv_aload_n hx hb (dc kd_law_15 12 rfl) rfl (lv_at hl 2 rfl) ?_
    refine ld_arg (pc := 680) (k := 1) C0 hL (by omega) hS1 hl (dc kd_law_15 13 rfl) (dc kd_law_15 14 rfl) (dc kd_law_15 15 rfl) (by decide) (dc kd_law_15 16 rfl) (dc kd_law_15 17 rfl) ?_
    refine ld_arg (pc := 685) (k := 2) C0 hL (by omega) hS1 hl (dc kd_law_15 18 rfl) (dc kd_law_15 19 rfl) (dc kd_law_15 20 rfl) (by decide) (dc kd_law_15 21 rfl) (dc kd_law_15 22 rfl) ?_
    exact kk
  · refine lv_icmp_eq (tgt := 1642) hx hb (dc kd_law_15 24 rfl) (by decide) (fun _ => nx n' S' t' Hs' mX' mM' H1 locs1 g' hX' hM' hW') (fun z => absurd rfl z)
def k_law_16 : List (Nat × Instr × Nat) := [(698, .aload_n 1, 1), (699, .aload_n 0, 1), (700, .iload_n 3, 1), (701, .iconst 1, 1), (702, .iadd, 1), (703, .iaload, 1), (704, .invokevirtual 83, 3), (707, .aload_n 2, 1), (708, .aload_n 0, 1), (709, .iload_n 3, 1), (710, .iconst 1, 1), (711, .iadd, 1), (712, .iaload, 1), (713, .invokevirtual 86, 3), (716, .if_icmp .eq 926, 3), (719, .iconst 0, 1), (720, .ireturn, 1)]
set_option maxRecDepth 100000 in
theorem kd_law_16 : ∀ q ∈ k_law_16, decode code q.1 = .ok q.2 := by decide +kernel
theorem cs_16 (C0 : lw_At p s m meth c b L xs) (hL : L ≤ 3072) (hi : i + 5 < L) (C : TwoC s adX adM cy D AX AM) (g : Good n S Hs) (hX : XI mX n S Hs t) (hM : MI mM n S Hs t) (hW : TwoW s adX adM cy D AX AM mX mM H locs) (hl : lv_has ls 4 [(0, .ref b), (1, .ref (adX 0)), (2, .ref (adM 0)), (3, .int (nI i))]) (hcl : cells ≤ room_1.cells) (hsl : slots ≤ room_1.slots) (nx : ∀ (n' : Nat) (S' t' : List Nat) (Hs' : List (List Nat)) (mX' mM' : Mem) (H1 : Heap) (locs1 : List Loc), Good n' S' Hs' → XI mX' n' S' Hs' t' → MI mM' n' S' Hs' t' → TwoW s adX adM cy D AX AM mX' mM' H1 locs1 → W p l e room_1 s m #[Value.ref b] below meth c H1 locs1 cells slots Q (F0 m 1642 ls [])) : W p l e room_1 s m #[Value.ref b] below meth c H locs cells slots Q (F0 m 698 ls []) := by
  obtain ⟨hx, hb, hr, hml, hown, hts, hXs, hbl, hlocks, hgv⟩ := id C0
  refine lv_aload_n hx hb (dc kd_law_16 0 rfl) rfl (lv_at hl 1 rfl) ?_
  refine ld_arg (pc := 699) (k := 1) C0 hL (by omega) hW.2.2.2.2 hl (dc kd_law_16 1 rfl) (dc kd_law_16 2 rfl) (dc kd_law_16 3 rfl) (by decide) (dc kd_law_16 4 rfl) (dc kd_law_16 5 rfl) ?_
  refine law_pair (pc := 704) (pc2 := 713) (As := [.int (xs (i + 1))]) C0 mv_Law_83 mv_Law_86 rfl rfl (pr_degree g) rfl (fun _ => rfl) C hX hM hW hl.1 (dc kd_law_16 6 rfl) (dc kd_law_16 13 rfl) hcl hsl (fun x H1 locs1 hS1 kk => ?_) (fun x n' S' t' Hs' mX' mM' H1 locs1 g' hX' hM' hW' => ?_)
  · refine lv_aload_n hx hb (dc kd_law_16 7 rfl) rfl (lv_at hl 2 rfl) ?_
    refine ld_arg (pc := 708) (k := 1) C0 hL (by omega) hS1 hl (dc kd_law_16 8 rfl) (dc kd_law_16 9 rfl) (dc kd_law_16 10 rfl) (by decide) (dc kd_law_16 11 rfl) (dc kd_law_16 12 rfl) ?_
    exact kk
  · refine lv_icmp_eq (tgt := 1642) hx hb (dc kd_law_16 14 rfl) (by decide) (fun _ => nx n' S' t' Hs' mX' mM' H1 locs1 g' hX' hM' hW') (fun z => absurd rfl z)
def k_law_17 : List (Nat × Instr × Nat) := [(721, .aload_n 1, 1), (722, .aload_n 0, 1), (723, .iload_n 3, 1), (724, .iconst 1, 1), (725, .iadd, 1), (726, .iaload, 1), (727, .invokevirtual 87, 3), (730, .aload_n 2, 1), (731, .aload_n 0, 1), (732, .iload_n 3, 1), (733, .iconst 1, 1), (734, .iadd, 1), (735, .iaload, 1), (736, .invokevirtual 90, 3), (739, .if_icmp .eq 903, 3), (742, .iconst 0, 1), (743, .ireturn, 1)]
set_option maxRecDepth 100000 in
theorem kd_law_17 : ∀ q ∈ k_law_17, decode code q.1 = .ok q.2 := by decide +kernel
theorem cs_17 (C0 : lw_At p s m meth c b L xs) (hL : L ≤ 3072) (hi : i + 5 < L) (C : TwoC s adX adM cy D AX AM) (g : Good n S Hs) (hX : XI mX n S Hs t) (hM : MI mM n S Hs t) (hW : TwoW s adX adM cy D AX AM mX mM H locs) (hl : lv_has ls 4 [(0, .ref b), (1, .ref (adX 0)), (2, .ref (adM 0)), (3, .int (nI i))]) (hcl : cells ≤ room_1.cells) (hsl : slots ≤ room_1.slots) (nx : ∀ (n' : Nat) (S' t' : List Nat) (Hs' : List (List Nat)) (mX' mM' : Mem) (H1 : Heap) (locs1 : List Loc), Good n' S' Hs' → XI mX' n' S' Hs' t' → MI mM' n' S' Hs' t' → TwoW s adX adM cy D AX AM mX' mM' H1 locs1 → W p l e room_1 s m #[Value.ref b] below meth c H1 locs1 cells slots Q (F0 m 1642 ls [])) : W p l e room_1 s m #[Value.ref b] below meth c H locs cells slots Q (F0 m 721 ls []) := by
  obtain ⟨hx, hb, hr, hml, hown, hts, hXs, hbl, hlocks, hgv⟩ := id C0
  refine lv_aload_n hx hb (dc kd_law_17 0 rfl) rfl (lv_at hl 1 rfl) ?_
  refine ld_arg (pc := 722) (k := 1) C0 hL (by omega) hW.2.2.2.2 hl (dc kd_law_17 1 rfl) (dc kd_law_17 2 rfl) (dc kd_law_17 3 rfl) (by decide) (dc kd_law_17 4 rfl) (dc kd_law_17 5 rfl) ?_
  refine law_pair (pc := 727) (pc2 := 736) (As := [.int (xs (i + 1))]) C0 mv_Law_87 mv_Law_90 rfl rfl (pr_having g) rfl (fun _ => rfl) C hX hM hW hl.1 (dc kd_law_17 6 rfl) (dc kd_law_17 13 rfl) hcl hsl (fun x H1 locs1 hS1 kk => ?_) (fun x n' S' t' Hs' mX' mM' H1 locs1 g' hX' hM' hW' => ?_)
  · refine lv_aload_n hx hb (dc kd_law_17 7 rfl) rfl (lv_at hl 2 rfl) ?_
    refine ld_arg (pc := 731) (k := 1) C0 hL (by omega) hS1 hl (dc kd_law_17 8 rfl) (dc kd_law_17 9 rfl) (dc kd_law_17 10 rfl) (by decide) (dc kd_law_17 11 rfl) (dc kd_law_17 12 rfl) ?_
    exact kk
  · refine lv_icmp_eq (tgt := 1642) hx hb (dc kd_law_17 14 rfl) (by decide) (fun _ => nx n' S' t' Hs' mX' mM' H1 locs1 g' hX' hM' hW') (fun z => absurd rfl z)
def k_law_18 : List (Nat × Instr × Nat) := [(744, .aload_n 1, 1), (745, .aload_n 0, 1), (746, .iload_n 3, 1), (747, .iconst 1, 1), (748, .iadd, 1), (749, .iaload, 1), (750, .invokevirtual 91, 3), (753, .aload_n 2, 1), (754, .aload_n 0, 1), (755, .iload_n 3, 1), (756, .iconst 1, 1), (757, .iadd, 1), (758, .iaload, 1), (759, .invokevirtual 94, 3), (762, .if_icmp .eq 880, 3), (765, .iconst 0, 1), (766, .ireturn, 1)]
set_option maxRecDepth 100000 in
theorem kd_law_18 : ∀ q ∈ k_law_18, decode code q.1 = .ok q.2 := by decide +kernel
theorem cs_18 (C0 : lw_At p s m meth c b L xs) (hL : L ≤ 3072) (hi : i + 5 < L) (C : TwoC s adX adM cy D AX AM) (g : Good n S Hs) (hX : XI mX n S Hs t) (hM : MI mM n S Hs t) (hW : TwoW s adX adM cy D AX AM mX mM H locs) (hl : lv_has ls 4 [(0, .ref b), (1, .ref (adX 0)), (2, .ref (adM 0)), (3, .int (nI i))]) (hcl : cells ≤ room_1.cells) (hsl : slots ≤ room_1.slots) (nx : ∀ (n' : Nat) (S' t' : List Nat) (Hs' : List (List Nat)) (mX' mM' : Mem) (H1 : Heap) (locs1 : List Loc), Good n' S' Hs' → XI mX' n' S' Hs' t' → MI mM' n' S' Hs' t' → TwoW s adX adM cy D AX AM mX' mM' H1 locs1 → W p l e room_1 s m #[Value.ref b] below meth c H1 locs1 cells slots Q (F0 m 1642 ls [])) : W p l e room_1 s m #[Value.ref b] below meth c H locs cells slots Q (F0 m 744 ls []) := by
  obtain ⟨hx, hb, hr, hml, hown, hts, hXs, hbl, hlocks, hgv⟩ := id C0
  refine lv_aload_n hx hb (dc kd_law_18 0 rfl) rfl (lv_at hl 1 rfl) ?_
  refine ld_arg (pc := 745) (k := 1) C0 hL (by omega) hW.2.2.2.2 hl (dc kd_law_18 1 rfl) (dc kd_law_18 2 rfl) (dc kd_law_18 3 rfl) (by decide) (dc kd_law_18 4 rfl) (dc kd_law_18 5 rfl) ?_
  refine law_pair (pc := 750) (pc2 := 759) (As := [.int (xs (i + 1))]) C0 mv_Law_91 mv_Law_94 rfl rfl (pr_isFlower g) rfl (fun _ => rfl) C hX hM hW hl.1 (dc kd_law_18 6 rfl) (dc kd_law_18 13 rfl) hcl hsl (fun x H1 locs1 hS1 kk => ?_) (fun x n' S' t' Hs' mX' mM' H1 locs1 g' hX' hM' hW' => ?_)
  · refine lv_aload_n hx hb (dc kd_law_18 7 rfl) rfl (lv_at hl 2 rfl) ?_
    refine ld_arg (pc := 754) (k := 1) C0 hL (by omega) hS1 hl (dc kd_law_18 8 rfl) (dc kd_law_18 9 rfl) (dc kd_law_18 10 rfl) (by decide) (dc kd_law_18 11 rfl) (dc kd_law_18 12 rfl) ?_
    exact kk
  · refine lv_icmp_eq (tgt := 1642) hx hb (dc kd_law_18 14 rfl) (by decide) (fun _ => nx n' S' t' Hs' mX' mM' H1 locs1 g' hX' hM' hW') (fun z => absurd rfl z)
def k_law_19 : List (Nat × Instr × Nat) := [(767, .aload_n 1, 1), (768, .aload_n 0, 1), (769, .iload_n 3, 1), (770, .iconst 1, 1), (771, .iadd, 1), (772, .iaload, 1), (773, .invokevirtual 95, 3), (776, .aload_n 2, 1), (777, .aload_n 0, 1), (778, .iload_n 3, 1), (779, .iconst 1, 1), (780, .iadd, 1), (781, .iaload, 1), (782, .invokevirtual 98, 3), (785, .if_icmp .eq 857, 3), (788, .iconst 0, 1), (789, .ireturn, 1)]
set_option maxRecDepth 100000 in
theorem kd_law_19 : ∀ q ∈ k_law_19, decode code q.1 = .ok q.2 := by decide +kernel
theorem cs_19 (C0 : lw_At p s m meth c b L xs) (hL : L ≤ 3072) (hi : i + 5 < L) (C : TwoC s adX adM cy D AX AM) (g : Good n S Hs) (hX : XI mX n S Hs t) (hM : MI mM n S Hs t) (hW : TwoW s adX adM cy D AX AM mX mM H locs) (hl : lv_has ls 4 [(0, .ref b), (1, .ref (adX 0)), (2, .ref (adM 0)), (3, .int (nI i))]) (hcl : cells ≤ room_1.cells) (hsl : slots ≤ room_1.slots) (nx : ∀ (n' : Nat) (S' t' : List Nat) (Hs' : List (List Nat)) (mX' mM' : Mem) (H1 : Heap) (locs1 : List Loc), Good n' S' Hs' → XI mX' n' S' Hs' t' → MI mM' n' S' Hs' t' → TwoW s adX adM cy D AX AM mX' mM' H1 locs1 → W p l e room_1 s m #[Value.ref b] below meth c H1 locs1 cells slots Q (F0 m 1642 ls [])) : W p l e room_1 s m #[Value.ref b] below meth c H locs cells slots Q (F0 m 767 ls []) := by
  obtain ⟨hx, hb, hr, hml, hown, hts, hXs, hbl, hlocks, hgv⟩ := id C0
  refine lv_aload_n hx hb (dc kd_law_19 0 rfl) rfl (lv_at hl 1 rfl) ?_
  refine ld_arg (pc := 768) (k := 1) C0 hL (by omega) hW.2.2.2.2 hl (dc kd_law_19 1 rfl) (dc kd_law_19 2 rfl) (dc kd_law_19 3 rfl) (by decide) (dc kd_law_19 4 rfl) (dc kd_law_19 5 rfl) ?_
  refine law_pair (pc := 773) (pc2 := 782) (As := [.int (xs (i + 1))]) C0 mv_Law_95 mv_Law_98 rfl rfl (pr_core g) rfl (fun _ => rfl) C hX hM hW hl.1 (dc kd_law_19 6 rfl) (dc kd_law_19 13 rfl) hcl hsl (fun x H1 locs1 hS1 kk => ?_) (fun x n' S' t' Hs' mX' mM' H1 locs1 g' hX' hM' hW' => ?_)
  · refine lv_aload_n hx hb (dc kd_law_19 7 rfl) rfl (lv_at hl 2 rfl) ?_
    refine ld_arg (pc := 777) (k := 1) C0 hL (by omega) hS1 hl (dc kd_law_19 8 rfl) (dc kd_law_19 9 rfl) (dc kd_law_19 10 rfl) (by decide) (dc kd_law_19 11 rfl) (dc kd_law_19 12 rfl) ?_
    exact kk
  · refine lv_icmp_eq (tgt := 1642) hx hb (dc kd_law_19 14 rfl) (by decide) (fun _ => nx n' S' t' Hs' mX' mM' H1 locs1 g' hX' hM' hW') (fun z => absurd rfl z)
def k_law_20 : List (Nat × Instr × Nat) := [(790, .aload_n 1, 1), (791, .aload_n 0, 1), (792, .iload_n 3, 1), (793, .iconst 1, 1), (794, .iadd, 1), (795, .iaload, 1), (796, .invokevirtual 99, 3), (799, .aload_n 2, 1), (800, .aload_n 0, 1), (801, .iload_n 3, 1), (802, .iconst 1, 1), (803, .iadd, 1), (804, .iaload, 1), (805, .invokevirtual 102, 3), (808, .if_icmp .eq 834, 3), (811, .iconst 0, 1), (812, .ireturn, 1)]
set_option maxRecDepth 100000 in
theorem kd_law_20 : ∀ q ∈ k_law_20, decode code q.1 = .ok q.2 := by decide +kernel
theorem cs_20 (C0 : lw_At p s m meth c b L xs) (hL : L ≤ 3072) (hi : i + 5 < L) (C : TwoC s adX adM cy D AX AM) (g : Good n S Hs) (hX : XI mX n S Hs t) (hM : MI mM n S Hs t) (hW : TwoW s adX adM cy D AX AM mX mM H locs) (hl : lv_has ls 4 [(0, .ref b), (1, .ref (adX 0)), (2, .ref (adM 0)), (3, .int (nI i))]) (hcl : cells ≤ room_1.cells) (hsl : slots ≤ room_1.slots) (nx : ∀ (n' : Nat) (S' t' : List Nat) (Hs' : List (List Nat)) (mX' mM' : Mem) (H1 : Heap) (locs1 : List Loc), Good n' S' Hs' → XI mX' n' S' Hs' t' → MI mM' n' S' Hs' t' → TwoW s adX adM cy D AX AM mX' mM' H1 locs1 → W p l e room_1 s m #[Value.ref b] below meth c H1 locs1 cells slots Q (F0 m 1642 ls [])) : W p l e room_1 s m #[Value.ref b] below meth c H locs cells slots Q (F0 m 790 ls []) := by
  obtain ⟨hx, hb, hr, hml, hown, hts, hXs, hbl, hlocks, hgv⟩ := id C0
  refine lv_aload_n hx hb (dc kd_law_20 0 rfl) rfl (lv_at hl 1 rfl) ?_
  refine ld_arg (pc := 791) (k := 1) C0 hL (by omega) hW.2.2.2.2 hl (dc kd_law_20 1 rfl) (dc kd_law_20 2 rfl) (dc kd_law_20 3 rfl) (by decide) (dc kd_law_20 4 rfl) (dc kd_law_20 5 rfl) ?_
  refine law_pair (pc := 796) (pc2 := 805) (As := [.int (xs (i + 1))]) C0 mv_Law_99 mv_Law_102 rfl rfl (pr_greatest g) rfl (fun _ => rfl) C hX hM hW hl.1 (dc kd_law_20 6 rfl) (dc kd_law_20 13 rfl) hcl hsl (fun x H1 locs1 hS1 kk => ?_) (fun x n' S' t' Hs' mX' mM' H1 locs1 g' hX' hM' hW' => ?_)
  · refine lv_aload_n hx hb (dc kd_law_20 7 rfl) rfl (lv_at hl 2 rfl) ?_
    refine ld_arg (pc := 800) (k := 1) C0 hL (by omega) hS1 hl (dc kd_law_20 8 rfl) (dc kd_law_20 9 rfl) (dc kd_law_20 10 rfl) (by decide) (dc kd_law_20 11 rfl) (dc kd_law_20 12 rfl) ?_
    exact kk
  · refine lv_icmp_eq (tgt := 1642) hx hb (dc kd_law_20 14 rfl) (by decide) (fun _ => nx n' S' t' Hs' mX' mM' H1 locs1 g' hX' hM' hW') (fun z => absurd rfl z)
def k_law_21 : List (Nat × Instr × Nat) := [(813, .aload_n 1, 1), (814, .aload_n 0, 1), (815, .iload_n 3, 1), (816, .iconst 1, 1), (817, .iadd, 1), (818, .iaload, 1), (819, .invokevirtual 103, 3), (822, .aload_n 2, 1), (823, .aload_n 0, 1), (824, .iload_n 3, 1), (825, .iconst 1, 1), (826, .iadd, 1), (827, .iaload, 1), (828, .invokevirtual 106, 3), (831, .if_icmp .eq 811, 3), (834, .iconst 0, 1), (835, .ireturn, 1)]
set_option maxRecDepth 100000 in
theorem kd_law_21 : ∀ q ∈ k_law_21, decode code q.1 = .ok q.2 := by decide +kernel
theorem cs_21 (C0 : lw_At p s m meth c b L xs) (hL : L ≤ 3072) (hi : i + 5 < L) (C : TwoC s adX adM cy D AX AM) (g : Good n S Hs) (hX : XI mX n S Hs t) (hM : MI mM n S Hs t) (hW : TwoW s adX adM cy D AX AM mX mM H locs) (hl : lv_has ls 4 [(0, .ref b), (1, .ref (adX 0)), (2, .ref (adM 0)), (3, .int (nI i))]) (hcl : cells ≤ room_1.cells) (hsl : slots ≤ room_1.slots) (nx : ∀ (n' : Nat) (S' t' : List Nat) (Hs' : List (List Nat)) (mX' mM' : Mem) (H1 : Heap) (locs1 : List Loc), Good n' S' Hs' → XI mX' n' S' Hs' t' → MI mM' n' S' Hs' t' → TwoW s adX adM cy D AX AM mX' mM' H1 locs1 → W p l e room_1 s m #[Value.ref b] below meth c H1 locs1 cells slots Q (F0 m 1642 ls [])) : W p l e room_1 s m #[Value.ref b] below meth c H locs cells slots Q (F0 m 813 ls []) := by
  obtain ⟨hx, hb, hr, hml, hown, hts, hXs, hbl, hlocks, hgv⟩ := id C0
  refine lv_aload_n hx hb (dc kd_law_21 0 rfl) rfl (lv_at hl 1 rfl) ?_
  refine ld_arg (pc := 814) (k := 1) C0 hL (by omega) hW.2.2.2.2 hl (dc kd_law_21 1 rfl) (dc kd_law_21 2 rfl) (dc kd_law_21 3 rfl) (by decide) (dc kd_law_21 4 rfl) (dc kd_law_21 5 rfl) ?_
  refine law_pair (pc := 819) (pc2 := 828) (As := [.int (xs (i + 1))]) C0 mv_Law_103 mv_Law_106 rfl rfl (pr_flower g) rfl (fun _ => rfl) C hX hM hW hl.1 (dc kd_law_21 6 rfl) (dc kd_law_21 13 rfl) hcl hsl (fun x H1 locs1 hS1 kk => ?_) (fun x n' S' t' Hs' mX' mM' H1 locs1 g' hX' hM' hW' => ?_)
  · refine lv_aload_n hx hb (dc kd_law_21 7 rfl) rfl (lv_at hl 2 rfl) ?_
    refine ld_arg (pc := 823) (k := 1) C0 hL (by omega) hS1 hl (dc kd_law_21 8 rfl) (dc kd_law_21 9 rfl) (dc kd_law_21 10 rfl) (by decide) (dc kd_law_21 11 rfl) (dc kd_law_21 12 rfl) ?_
    exact kk
  · refine lv_icmp_eq (tgt := 1642) hx hb (dc kd_law_21 14 rfl) (by decide) (fun _ => nx n' S' t' Hs' mX' mM' H1 locs1 g' hX' hM' hW') (fun z => absurd rfl z)
def k_law_22 : List (Nat × Instr × Nat) := [(836, .aload_n 1, 1), (837, .aload_n 0, 1), (838, .iload_n 3, 1), (839, .iconst 1, 1), (840, .iadd, 1), (841, .iaload, 1), (842, .invokevirtual 107, 3), (845, .aload_n 2, 1), (846, .aload_n 0, 1), (847, .iload_n 3, 1), (848, .iconst 1, 1), (849, .iadd, 1), (850, .iaload, 1), (851, .invokevirtual 110, 3), (854, .if_icmp .eq 788, 3), (857, .iconst 0, 1), (858, .ireturn, 1)]
set_option maxRecDepth 100000 in
theorem kd_law_22 : ∀ q ∈ k_law_22, decode code q.1 = .ok q.2 := by decide +kernel
theorem cs_22 (C0 : lw_At p s m meth c b L xs) (hL : L ≤ 3072) (hi : i + 5 < L) (C : TwoC s adX adM cy D AX AM) (g : Good n S Hs) (hX : XI mX n S Hs t) (hM : MI mM n S Hs t) (hW : TwoW s adX adM cy D AX AM mX mM H locs) (hl : lv_has ls 4 [(0, .ref b), (1, .ref (adX 0)), (2, .ref (adM 0)), (3, .int (nI i))]) (hcl : cells ≤ room_1.cells) (hsl : slots ≤ room_1.slots) (nx : ∀ (n' : Nat) (S' t' : List Nat) (Hs' : List (List Nat)) (mX' mM' : Mem) (H1 : Heap) (locs1 : List Loc), Good n' S' Hs' → XI mX' n' S' Hs' t' → MI mM' n' S' Hs' t' → TwoW s adX adM cy D AX AM mX' mM' H1 locs1 → W p l e room_1 s m #[Value.ref b] below meth c H1 locs1 cells slots Q (F0 m 1642 ls [])) : W p l e room_1 s m #[Value.ref b] below meth c H locs cells slots Q (F0 m 836 ls []) := by
  obtain ⟨hx, hb, hr, hml, hown, hts, hXs, hbl, hlocks, hgv⟩ := id C0
  refine lv_aload_n hx hb (dc kd_law_22 0 rfl) rfl (lv_at hl 1 rfl) ?_
  refine ld_arg (pc := 837) (k := 1) C0 hL (by omega) hW.2.2.2.2 hl (dc kd_law_22 1 rfl) (dc kd_law_22 2 rfl) (dc kd_law_22 3 rfl) (by decide) (dc kd_law_22 4 rfl) (dc kd_law_22 5 rfl) ?_
  refine law_pair (pc := 842) (pc2 := 851) (As := [.int (xs (i + 1))]) C0 mv_Law_107 mv_Law_110 rfl rfl (pr_flowers g) rfl (fun _ => rfl) C hX hM hW hl.1 (dc kd_law_22 6 rfl) (dc kd_law_22 13 rfl) hcl hsl (fun x H1 locs1 hS1 kk => ?_) (fun x n' S' t' Hs' mX' mM' H1 locs1 g' hX' hM' hW' => ?_)
  · refine lv_aload_n hx hb (dc kd_law_22 7 rfl) rfl (lv_at hl 2 rfl) ?_
    refine ld_arg (pc := 846) (k := 1) C0 hL (by omega) hS1 hl (dc kd_law_22 8 rfl) (dc kd_law_22 9 rfl) (dc kd_law_22 10 rfl) (by decide) (dc kd_law_22 11 rfl) (dc kd_law_22 12 rfl) ?_
    exact kk
  · refine lv_icmp_eq (tgt := 1642) hx hb (dc kd_law_22 14 rfl) (by decide) (fun _ => nx n' S' t' Hs' mX' mM' H1 locs1 g' hX' hM' hW') (fun z => absurd rfl z)
def k_law_23 : List (Nat × Instr × Nat) := [(859, .aload_n 1, 1), (860, .aload_n 0, 1), (861, .iload_n 3, 1), (862, .iconst 1, 1), (863, .iadd, 1), (864, .iaload, 1), (865, .aload_n 0, 1), (866, .iload_n 3, 1), (867, .iconst 2, 1), (868, .iadd, 1), (869, .iaload, 1), (870, .invokevirtual 111, 3), (873, .aload_n 2, 1), (874, .aload_n 0, 1), (875, .iload_n 3, 1), (876, .iconst 1, 1), (877, .iadd, 1), (878, .iaload, 1), (879, .aload_n 0, 1), (880, .iload_n 3, 1), (881, .iconst 2, 1), (882, .iadd, 1), (883, .iaload, 1), (884, .invokevirtual 114, 3), (887, .if_icmp .eq 755, 3), (890, .iconst 0, 1), (891, .ireturn, 1)]
set_option maxRecDepth 100000 in
theorem kd_law_23 : ∀ q ∈ k_law_23, decode code q.1 = .ok q.2 := by decide +kernel
theorem cs_23 (C0 : lw_At p s m meth c b L xs) (hL : L ≤ 3072) (hi : i + 5 < L) (C : TwoC s adX adM cy D AX AM) (g : Good n S Hs) (hX : XI mX n S Hs t) (hM : MI mM n S Hs t) (hW : TwoW s adX adM cy D AX AM mX mM H locs) (hl : lv_has ls 4 [(0, .ref b), (1, .ref (adX 0)), (2, .ref (adM 0)), (3, .int (nI i))]) (hcl : cells ≤ room_1.cells) (hsl : slots ≤ room_1.slots) (nx : ∀ (n' : Nat) (S' t' : List Nat) (Hs' : List (List Nat)) (mX' mM' : Mem) (H1 : Heap) (locs1 : List Loc), Good n' S' Hs' → XI mX' n' S' Hs' t' → MI mM' n' S' Hs' t' → TwoW s adX adM cy D AX AM mX' mM' H1 locs1 → W p l e room_1 s m #[Value.ref b] below meth c H1 locs1 cells slots Q (F0 m 1642 ls [])) : W p l e room_1 s m #[Value.ref b] below meth c H locs cells slots Q (F0 m 859 ls []) := by
  obtain ⟨hx, hb, hr, hml, hown, hts, hXs, hbl, hlocks, hgv⟩ := id C0
  refine lv_aload_n hx hb (dc kd_law_23 0 rfl) rfl (lv_at hl 1 rfl) ?_
  refine ld_arg (pc := 860) (k := 1) C0 hL (by omega) hW.2.2.2.2 hl (dc kd_law_23 1 rfl) (dc kd_law_23 2 rfl) (dc kd_law_23 3 rfl) (by decide) (dc kd_law_23 4 rfl) (dc kd_law_23 5 rfl) ?_
  refine ld_arg (pc := 865) (k := 2) C0 hL (by omega) hW.2.2.2.2 hl (dc kd_law_23 6 rfl) (dc kd_law_23 7 rfl) (dc kd_law_23 8 rfl) (by decide) (dc kd_law_23 9 rfl) (dc kd_law_23 10 rfl) ?_
  refine law_pair (pc := 870) (pc2 := 884) (As := [.int (xs (i + 1)), .int (xs (i + 2))]) C0 mv_Law_111 mv_Law_114 rfl rfl (pr_byCore g) rfl (fun _ => rfl) C hX hM hW hl.1 (dc kd_law_23 11 rfl) (dc kd_law_23 23 rfl) hcl hsl (fun x H1 locs1 hS1 kk => ?_) (fun x n' S' t' Hs' mX' mM' H1 locs1 g' hX' hM' hW' => ?_)
  · refine lv_aload_n hx hb (dc kd_law_23 12 rfl) rfl (lv_at hl 2 rfl) ?_
    refine ld_arg (pc := 874) (k := 1) C0 hL (by omega) hS1 hl (dc kd_law_23 13 rfl) (dc kd_law_23 14 rfl) (dc kd_law_23 15 rfl) (by decide) (dc kd_law_23 16 rfl) (dc kd_law_23 17 rfl) ?_
    refine ld_arg (pc := 879) (k := 2) C0 hL (by omega) hS1 hl (dc kd_law_23 18 rfl) (dc kd_law_23 19 rfl) (dc kd_law_23 20 rfl) (by decide) (dc kd_law_23 21 rfl) (dc kd_law_23 22 rfl) ?_
    exact kk
  · refine lv_icmp_eq (tgt := 1642) hx hb (dc kd_law_23 24 rfl) (by decide) (fun _ => nx n' S' t' Hs' mX' mM' H1 locs1 g' hX' hM' hW') (fun z => absurd rfl z)
def k_law_24 : List (Nat × Instr × Nat) := [(892, .aload_n 1, 1), (893, .aload_n 0, 1), (894, .iload_n 3, 1), (895, .iconst 1, 1), (896, .iadd, 1), (897, .iaload, 1), (898, .invokevirtual 115, 3), (901, .aload_n 2, 1), (902, .aload_n 0, 1), (903, .iload_n 3, 1), (904, .iconst 1, 1), (905, .iadd, 1), (906, .iaload, 1), (907, .invokevirtual 118, 3), (910, .if_icmp .eq 732, 3), (913, .iconst 0, 1), (914, .ireturn, 1)]
set_option maxRecDepth 100000 in
theorem kd_law_24 : ∀ q ∈ k_law_24, decode code q.1 = .ok q.2 := by decide +kernel
theorem cs_24 (C0 : lw_At p s m meth c b L xs) (hL : L ≤ 3072) (hi : i + 5 < L) (C : TwoC s adX adM cy D AX AM) (g : Good n S Hs) (hX : XI mX n S Hs t) (hM : MI mM n S Hs t) (hW : TwoW s adX adM cy D AX AM mX mM H locs) (hl : lv_has ls 4 [(0, .ref b), (1, .ref (adX 0)), (2, .ref (adM 0)), (3, .int (nI i))]) (hcl : cells ≤ room_1.cells) (hsl : slots ≤ room_1.slots) (nx : ∀ (n' : Nat) (S' t' : List Nat) (Hs' : List (List Nat)) (mX' mM' : Mem) (H1 : Heap) (locs1 : List Loc), Good n' S' Hs' → XI mX' n' S' Hs' t' → MI mM' n' S' Hs' t' → TwoW s adX adM cy D AX AM mX' mM' H1 locs1 → W p l e room_1 s m #[Value.ref b] below meth c H1 locs1 cells slots Q (F0 m 1642 ls [])) : W p l e room_1 s m #[Value.ref b] below meth c H locs cells slots Q (F0 m 892 ls []) := by
  obtain ⟨hx, hb, hr, hml, hown, hts, hXs, hbl, hlocks, hgv⟩ := id C0
  refine lv_aload_n hx hb (dc kd_law_24 0 rfl) rfl (lv_at hl 1 rfl) ?_
  refine ld_arg (pc := 893) (k := 1) C0 hL (by omega) hW.2.2.2.2 hl (dc kd_law_24 1 rfl) (dc kd_law_24 2 rfl) (dc kd_law_24 3 rfl) (by decide) (dc kd_law_24 4 rfl) (dc kd_law_24 5 rfl) ?_
  refine law_pair (pc := 898) (pc2 := 907) (As := [.int (xs (i + 1))]) C0 mv_Law_115 mv_Law_118 rfl rfl (pr_cores g) rfl (fun _ => rfl) C hX hM hW hl.1 (dc kd_law_24 6 rfl) (dc kd_law_24 13 rfl) hcl hsl (fun x H1 locs1 hS1 kk => ?_) (fun x n' S' t' Hs' mX' mM' H1 locs1 g' hX' hM' hW' => ?_)
  · refine lv_aload_n hx hb (dc kd_law_24 7 rfl) rfl (lv_at hl 2 rfl) ?_
    refine ld_arg (pc := 902) (k := 1) C0 hL (by omega) hS1 hl (dc kd_law_24 8 rfl) (dc kd_law_24 9 rfl) (dc kd_law_24 10 rfl) (by decide) (dc kd_law_24 11 rfl) (dc kd_law_24 12 rfl) ?_
    exact kk
  · refine lv_icmp_eq (tgt := 1642) hx hb (dc kd_law_24 14 rfl) (by decide) (fun _ => nx n' S' t' Hs' mX' mM' H1 locs1 g' hX' hM' hW') (fun z => absurd rfl z)
def k_law_25 : List (Nat × Instr × Nat) := [(915, .aload_n 1, 1), (916, .aload_n 0, 1), (917, .iload_n 3, 1), (918, .iconst 1, 1), (919, .iadd, 1), (920, .iaload, 1), (921, .invokevirtual 119, 3), (924, .aload_n 2, 1), (925, .aload_n 0, 1), (926, .iload_n 3, 1), (927, .iconst 1, 1), (928, .iadd, 1), (929, .iaload, 1), (930, .invokevirtual 122, 3), (933, .if_icmp .eq 709, 3), (936, .iconst 0, 1), (937, .ireturn, 1)]
set_option maxRecDepth 100000 in
theorem kd_law_25 : ∀ q ∈ k_law_25, decode code q.1 = .ok q.2 := by decide +kernel
theorem cs_25 (C0 : lw_At p s m meth c b L xs) (hL : L ≤ 3072) (hi : i + 5 < L) (C : TwoC s adX adM cy D AX AM) (g : Good n S Hs) (hX : XI mX n S Hs t) (hM : MI mM n S Hs t) (hW : TwoW s adX adM cy D AX AM mX mM H locs) (hl : lv_has ls 4 [(0, .ref b), (1, .ref (adX 0)), (2, .ref (adM 0)), (3, .int (nI i))]) (hcl : cells ≤ room_1.cells) (hsl : slots ≤ room_1.slots) (nx : ∀ (n' : Nat) (S' t' : List Nat) (Hs' : List (List Nat)) (mX' mM' : Mem) (H1 : Heap) (locs1 : List Loc), Good n' S' Hs' → XI mX' n' S' Hs' t' → MI mM' n' S' Hs' t' → TwoW s adX adM cy D AX AM mX' mM' H1 locs1 → W p l e room_1 s m #[Value.ref b] below meth c H1 locs1 cells slots Q (F0 m 1642 ls [])) : W p l e room_1 s m #[Value.ref b] below meth c H locs cells slots Q (F0 m 915 ls []) := by
  obtain ⟨hx, hb, hr, hml, hown, hts, hXs, hbl, hlocks, hgv⟩ := id C0
  refine lv_aload_n hx hb (dc kd_law_25 0 rfl) rfl (lv_at hl 1 rfl) ?_
  refine ld_arg (pc := 916) (k := 1) C0 hL (by omega) hW.2.2.2.2 hl (dc kd_law_25 1 rfl) (dc kd_law_25 2 rfl) (dc kd_law_25 3 rfl) (by decide) (dc kd_law_25 4 rfl) (dc kd_law_25 5 rfl) ?_
  refine law_pair (pc := 921) (pc2 := 930) (As := [.int (xs (i + 1))]) C0 mv_Law_119 mv_Law_122 rfl rfl (pr_most g) rfl (fun _ => rfl) C hX hM hW hl.1 (dc kd_law_25 6 rfl) (dc kd_law_25 13 rfl) hcl hsl (fun x H1 locs1 hS1 kk => ?_) (fun x n' S' t' Hs' mX' mM' H1 locs1 g' hX' hM' hW' => ?_)
  · refine lv_aload_n hx hb (dc kd_law_25 7 rfl) rfl (lv_at hl 2 rfl) ?_
    refine ld_arg (pc := 925) (k := 1) C0 hL (by omega) hS1 hl (dc kd_law_25 8 rfl) (dc kd_law_25 9 rfl) (dc kd_law_25 10 rfl) (by decide) (dc kd_law_25 11 rfl) (dc kd_law_25 12 rfl) ?_
    exact kk
  · refine lv_icmp_eq (tgt := 1642) hx hb (dc kd_law_25 14 rfl) (by decide) (fun _ => nx n' S' t' Hs' mX' mM' H1 locs1 g' hX' hM' hW') (fun z => absurd rfl z)
def k_law_26 : List (Nat × Instr × Nat) := [(938, .aload_n 1, 1), (939, .aload_n 0, 1), (940, .iload_n 3, 1), (941, .iconst 1, 1), (942, .iadd, 1), (943, .iaload, 1), (944, .invokevirtual 123, 3), (947, .aload_n 2, 1), (948, .aload_n 0, 1), (949, .iload_n 3, 1), (950, .iconst 1, 1), (951, .iadd, 1), (952, .iaload, 1), (953, .invokevirtual 126, 3), (956, .if_icmp .eq 686, 3), (959, .iconst 0, 1), (960, .ireturn, 1)]
set_option maxRecDepth 100000 in
theorem kd_law_26 : ∀ q ∈ k_law_26, decode code q.1 = .ok q.2 := by decide +kernel
theorem cs_26 (C0 : lw_At p s m meth c b L xs) (hL : L ≤ 3072) (hi : i + 5 < L) (C : TwoC s adX adM cy D AX AM) (g : Good n S Hs) (hX : XI mX n S Hs t) (hM : MI mM n S Hs t) (hW : TwoW s adX adM cy D AX AM mX mM H locs) (hl : lv_has ls 4 [(0, .ref b), (1, .ref (adX 0)), (2, .ref (adM 0)), (3, .int (nI i))]) (hcl : cells ≤ room_1.cells) (hsl : slots ≤ room_1.slots) (nx : ∀ (n' : Nat) (S' t' : List Nat) (Hs' : List (List Nat)) (mX' mM' : Mem) (H1 : Heap) (locs1 : List Loc), Good n' S' Hs' → XI mX' n' S' Hs' t' → MI mM' n' S' Hs' t' → TwoW s adX adM cy D AX AM mX' mM' H1 locs1 → W p l e room_1 s m #[Value.ref b] below meth c H1 locs1 cells slots Q (F0 m 1642 ls [])) : W p l e room_1 s m #[Value.ref b] below meth c H locs cells slots Q (F0 m 938 ls []) := by
  obtain ⟨hx, hb, hr, hml, hown, hts, hXs, hbl, hlocks, hgv⟩ := id C0
  refine lv_aload_n hx hb (dc kd_law_26 0 rfl) rfl (lv_at hl 1 rfl) ?_
  refine ld_arg (pc := 939) (k := 1) C0 hL (by omega) hW.2.2.2.2 hl (dc kd_law_26 1 rfl) (dc kd_law_26 2 rfl) (dc kd_law_26 3 rfl) (by decide) (dc kd_law_26 4 rfl) (dc kd_law_26 5 rfl) ?_
  refine law_pair (pc := 944) (pc2 := 953) (As := [.int (xs (i + 1))]) C0 mv_Law_123 mv_Law_126 rfl rfl (pr_surplus g) rfl (fun _ => rfl) C hX hM hW hl.1 (dc kd_law_26 6 rfl) (dc kd_law_26 13 rfl) hcl hsl (fun x H1 locs1 hS1 kk => ?_) (fun x n' S' t' Hs' mX' mM' H1 locs1 g' hX' hM' hW' => ?_)
  · refine lv_aload_n hx hb (dc kd_law_26 7 rfl) rfl (lv_at hl 2 rfl) ?_
    refine ld_arg (pc := 948) (k := 1) C0 hL (by omega) hS1 hl (dc kd_law_26 8 rfl) (dc kd_law_26 9 rfl) (dc kd_law_26 10 rfl) (by decide) (dc kd_law_26 11 rfl) (dc kd_law_26 12 rfl) ?_
    exact kk
  · refine lv_icmp_eq (tgt := 1642) hx hb (dc kd_law_26 14 rfl) (by decide) (fun _ => nx n' S' t' Hs' mX' mM' H1 locs1 g' hX' hM' hW') (fun z => absurd rfl z)
def k_law_27 : List (Nat × Instr × Nat) := [(961, .aload_n 1, 1), (962, .aload_n 0, 1), (963, .iload_n 3, 1), (964, .iconst 1, 1), (965, .iadd, 1), (966, .iaload, 1), (967, .invokevirtual 127, 3), (970, .aload_n 2, 1), (971, .aload_n 0, 1), (972, .iload_n 3, 1), (973, .iconst 1, 1), (974, .iadd, 1), (975, .iaload, 1), (976, .invokevirtual 130, 3), (979, .if_icmp .eq 663, 3), (982, .iconst 0, 1), (983, .ireturn, 1)]
set_option maxRecDepth 100000 in
theorem kd_law_27 : ∀ q ∈ k_law_27, decode code q.1 = .ok q.2 := by decide +kernel
theorem cs_27 (C0 : lw_At p s m meth c b L xs) (hL : L ≤ 3072) (hi : i + 5 < L) (C : TwoC s adX adM cy D AX AM) (g : Good n S Hs) (hX : XI mX n S Hs t) (hM : MI mM n S Hs t) (hW : TwoW s adX adM cy D AX AM mX mM H locs) (hl : lv_has ls 4 [(0, .ref b), (1, .ref (adX 0)), (2, .ref (adM 0)), (3, .int (nI i))]) (hcl : cells ≤ room_1.cells) (hsl : slots ≤ room_1.slots) (nx : ∀ (n' : Nat) (S' t' : List Nat) (Hs' : List (List Nat)) (mX' mM' : Mem) (H1 : Heap) (locs1 : List Loc), Good n' S' Hs' → XI mX' n' S' Hs' t' → MI mM' n' S' Hs' t' → TwoW s adX adM cy D AX AM mX' mM' H1 locs1 → W p l e room_1 s m #[Value.ref b] below meth c H1 locs1 cells slots Q (F0 m 1642 ls [])) : W p l e room_1 s m #[Value.ref b] below meth c H locs cells slots Q (F0 m 961 ls []) := by
  obtain ⟨hx, hb, hr, hml, hown, hts, hXs, hbl, hlocks, hgv⟩ := id C0
  refine lv_aload_n hx hb (dc kd_law_27 0 rfl) rfl (lv_at hl 1 rfl) ?_
  refine ld_arg (pc := 962) (k := 1) C0 hL (by omega) hW.2.2.2.2 hl (dc kd_law_27 1 rfl) (dc kd_law_27 2 rfl) (dc kd_law_27 3 rfl) (by decide) (dc kd_law_27 4 rfl) (dc kd_law_27 5 rfl) ?_
  refine law_pair (pc := 967) (pc2 := 976) (As := [.int (xs (i + 1))]) C0 mv_Law_127 mv_Law_130 rfl rfl (pr_uneven g) rfl (fun _ => rfl) C hX hM hW hl.1 (dc kd_law_27 6 rfl) (dc kd_law_27 13 rfl) hcl hsl (fun x H1 locs1 hS1 kk => ?_) (fun x n' S' t' Hs' mX' mM' H1 locs1 g' hX' hM' hW' => ?_)
  · refine lv_aload_n hx hb (dc kd_law_27 7 rfl) rfl (lv_at hl 2 rfl) ?_
    refine ld_arg (pc := 971) (k := 1) C0 hL (by omega) hS1 hl (dc kd_law_27 8 rfl) (dc kd_law_27 9 rfl) (dc kd_law_27 10 rfl) (by decide) (dc kd_law_27 11 rfl) (dc kd_law_27 12 rfl) ?_
    exact kk
  · refine lv_icmp_eq (tgt := 1642) hx hb (dc kd_law_27 14 rfl) (by decide) (fun _ => nx n' S' t' Hs' mX' mM' H1 locs1 g' hX' hM' hW') (fun z => absurd rfl z)
def k_law_28 : List (Nat × Instr × Nat) := [(984, .aload_n 1, 1), (985, .aload_n 0, 1), (986, .iload_n 3, 1), (987, .iconst 1, 1), (988, .iadd, 1), (989, .iaload, 1), (990, .invokevirtual 131, 3), (993, .aload_n 2, 1), (994, .aload_n 0, 1), (995, .iload_n 3, 1), (996, .iconst 1, 1), (997, .iadd, 1), (998, .iaload, 1), (999, .invokevirtual 134, 3), (1002, .if_icmp .eq 640, 3), (1005, .iconst 0, 1), (1006, .ireturn, 1)]
set_option maxRecDepth 100000 in
theorem kd_law_28 : ∀ q ∈ k_law_28, decode code q.1 = .ok q.2 := by decide +kernel
theorem cs_28 (C0 : lw_At p s m meth c b L xs) (hL : L ≤ 3072) (hi : i + 5 < L) (C : TwoC s adX adM cy D AX AM) (g : Good n S Hs) (hX : XI mX n S Hs t) (hM : MI mM n S Hs t) (hW : TwoW s adX adM cy D AX AM mX mM H locs) (hl : lv_has ls 4 [(0, .ref b), (1, .ref (adX 0)), (2, .ref (adM 0)), (3, .int (nI i))]) (hcl : cells ≤ room_1.cells) (hsl : slots ≤ room_1.slots) (nx : ∀ (n' : Nat) (S' t' : List Nat) (Hs' : List (List Nat)) (mX' mM' : Mem) (H1 : Heap) (locs1 : List Loc), Good n' S' Hs' → XI mX' n' S' Hs' t' → MI mM' n' S' Hs' t' → TwoW s adX adM cy D AX AM mX' mM' H1 locs1 → W p l e room_1 s m #[Value.ref b] below meth c H1 locs1 cells slots Q (F0 m 1642 ls [])) : W p l e room_1 s m #[Value.ref b] below meth c H locs cells slots Q (F0 m 984 ls []) := by
  obtain ⟨hx, hb, hr, hml, hown, hts, hXs, hbl, hlocks, hgv⟩ := id C0
  refine lv_aload_n hx hb (dc kd_law_28 0 rfl) rfl (lv_at hl 1 rfl) ?_
  refine ld_arg (pc := 985) (k := 1) C0 hL (by omega) hW.2.2.2.2 hl (dc kd_law_28 1 rfl) (dc kd_law_28 2 rfl) (dc kd_law_28 3 rfl) (by decide) (dc kd_law_28 4 rfl) (dc kd_law_28 5 rfl) ?_
  refine law_pair (pc := 990) (pc2 := 999) (As := [.int (xs (i + 1))]) C0 mv_Law_131 mv_Law_134 rfl rfl (pr_pairs g) rfl (fun _ => rfl) C hX hM hW hl.1 (dc kd_law_28 6 rfl) (dc kd_law_28 13 rfl) hcl hsl (fun x H1 locs1 hS1 kk => ?_) (fun x n' S' t' Hs' mX' mM' H1 locs1 g' hX' hM' hW' => ?_)
  · refine lv_aload_n hx hb (dc kd_law_28 7 rfl) rfl (lv_at hl 2 rfl) ?_
    refine ld_arg (pc := 994) (k := 1) C0 hL (by omega) hS1 hl (dc kd_law_28 8 rfl) (dc kd_law_28 9 rfl) (dc kd_law_28 10 rfl) (by decide) (dc kd_law_28 11 rfl) (dc kd_law_28 12 rfl) ?_
    exact kk
  · refine lv_icmp_eq (tgt := 1642) hx hb (dc kd_law_28 14 rfl) (by decide) (fun _ => nx n' S' t' Hs' mX' mM' H1 locs1 g' hX' hM' hW') (fun z => absurd rfl z)
def k_law_29 : List (Nat × Instr × Nat) := [(1007, .aload_n 1, 1), (1008, .invokevirtual 135, 3), (1011, .aload_n 2, 1), (1012, .invokevirtual 138, 3), (1015, .if_icmp .eq 627, 3), (1018, .iconst 0, 1), (1019, .ireturn, 1)]
set_option maxRecDepth 100000 in
theorem kd_law_29 : ∀ q ∈ k_law_29, decode code q.1 = .ok q.2 := by decide +kernel
theorem cs_29 (C0 : lw_At p s m meth c b L xs) (hL : L ≤ 3072) (hi : i + 5 < L) (C : TwoC s adX adM cy D AX AM) (g : Good n S Hs) (hX : XI mX n S Hs t) (hM : MI mM n S Hs t) (hW : TwoW s adX adM cy D AX AM mX mM H locs) (hl : lv_has ls 4 [(0, .ref b), (1, .ref (adX 0)), (2, .ref (adM 0)), (3, .int (nI i))]) (hcl : cells ≤ room_1.cells) (hsl : slots ≤ room_1.slots) (nx : ∀ (n' : Nat) (S' t' : List Nat) (Hs' : List (List Nat)) (mX' mM' : Mem) (H1 : Heap) (locs1 : List Loc), Good n' S' Hs' → XI mX' n' S' Hs' t' → MI mM' n' S' Hs' t' → TwoW s adX adM cy D AX AM mX' mM' H1 locs1 → W p l e room_1 s m #[Value.ref b] below meth c H1 locs1 cells slots Q (F0 m 1642 ls [])) : W p l e room_1 s m #[Value.ref b] below meth c H locs cells slots Q (F0 m 1007 ls []) := by
  obtain ⟨hx, hb, hr, hml, hown, hts, hXs, hbl, hlocks, hgv⟩ := id C0
  refine lv_aload_n hx hb (dc kd_law_29 0 rfl) rfl (lv_at hl 1 rfl) ?_
  refine law_pair (pc := 1008) (pc2 := 1012) (As := []) C0 mv_Law_135 mv_Law_138 rfl rfl (pr_parts g) rfl (fun _ => rfl) C hX hM hW hl.1 (dc kd_law_29 1 rfl) (dc kd_law_29 3 rfl) hcl hsl (fun x H1 locs1 hS1 kk => ?_) (fun x n' S' t' Hs' mX' mM' H1 locs1 g' hX' hM' hW' => ?_)
  · refine lv_aload_n hx hb (dc kd_law_29 2 rfl) rfl (lv_at hl 2 rfl) ?_
    exact kk
  · refine lv_icmp_eq (tgt := 1642) hx hb (dc kd_law_29 4 rfl) (by decide) (fun _ => nx n' S' t' Hs' mX' mM' H1 locs1 g' hX' hM' hW') (fun z => absurd rfl z)
def k_law_30 : List (Nat × Instr × Nat) := [(1020, .aload_n 1, 1), (1021, .aload_n 0, 1), (1022, .iload_n 3, 1), (1023, .iconst 1, 1), (1024, .iadd, 1), (1025, .iaload, 1), (1026, .invokevirtual 139, 3), (1029, .aload_n 2, 1), (1030, .aload_n 0, 1), (1031, .iload_n 3, 1), (1032, .iconst 1, 1), (1033, .iadd, 1), (1034, .iaload, 1), (1035, .invokevirtual 142, 3), (1038, .if_icmp .eq 604, 3), (1041, .iconst 0, 1), (1042, .ireturn, 1)]
set_option maxRecDepth 100000 in
theorem kd_law_30 : ∀ q ∈ k_law_30, decode code q.1 = .ok q.2 := by decide +kernel
theorem cs_30 (C0 : lw_At p s m meth c b L xs) (hL : L ≤ 3072) (hi : i + 5 < L) (C : TwoC s adX adM cy D AX AM) (g : Good n S Hs) (hX : XI mX n S Hs t) (hM : MI mM n S Hs t) (hW : TwoW s adX adM cy D AX AM mX mM H locs) (hl : lv_has ls 4 [(0, .ref b), (1, .ref (adX 0)), (2, .ref (adM 0)), (3, .int (nI i))]) (hcl : cells ≤ room_1.cells) (hsl : slots ≤ room_1.slots) (nx : ∀ (n' : Nat) (S' t' : List Nat) (Hs' : List (List Nat)) (mX' mM' : Mem) (H1 : Heap) (locs1 : List Loc), Good n' S' Hs' → XI mX' n' S' Hs' t' → MI mM' n' S' Hs' t' → TwoW s adX adM cy D AX AM mX' mM' H1 locs1 → W p l e room_1 s m #[Value.ref b] below meth c H1 locs1 cells slots Q (F0 m 1642 ls [])) : W p l e room_1 s m #[Value.ref b] below meth c H locs cells slots Q (F0 m 1020 ls []) := by
  obtain ⟨hx, hb, hr, hml, hown, hts, hXs, hbl, hlocks, hgv⟩ := id C0
  refine lv_aload_n hx hb (dc kd_law_30 0 rfl) rfl (lv_at hl 1 rfl) ?_
  refine ld_arg (pc := 1021) (k := 1) C0 hL (by omega) hW.2.2.2.2 hl (dc kd_law_30 1 rfl) (dc kd_law_30 2 rfl) (dc kd_law_30 3 rfl) (by decide) (dc kd_law_30 4 rfl) (dc kd_law_30 5 rfl) ?_
  refine law_pair (pc := 1026) (pc2 := 1035) (As := [.int (xs (i + 1))]) C0 mv_Law_139 mv_Law_142 rfl rfl (pr_ranked g) rfl (fun _ => rfl) C hX hM hW hl.1 (dc kd_law_30 6 rfl) (dc kd_law_30 13 rfl) hcl hsl (fun x H1 locs1 hS1 kk => ?_) (fun x n' S' t' Hs' mX' mM' H1 locs1 g' hX' hM' hW' => ?_)
  · refine lv_aload_n hx hb (dc kd_law_30 7 rfl) rfl (lv_at hl 2 rfl) ?_
    refine ld_arg (pc := 1030) (k := 1) C0 hL (by omega) hS1 hl (dc kd_law_30 8 rfl) (dc kd_law_30 9 rfl) (dc kd_law_30 10 rfl) (by decide) (dc kd_law_30 11 rfl) (dc kd_law_30 12 rfl) ?_
    exact kk
  · refine lv_icmp_eq (tgt := 1642) hx hb (dc kd_law_30 14 rfl) (by decide) (fun _ => nx n' S' t' Hs' mX' mM' H1 locs1 g' hX' hM' hW') (fun z => absurd rfl z)
def k_law_31 : List (Nat × Instr × Nat) := [(1043, .aload_n 1, 1), (1044, .aload_n 0, 1), (1045, .iload_n 3, 1), (1046, .iconst 1, 1), (1047, .iadd, 1), (1048, .iaload, 1), (1049, .aload_n 0, 1), (1050, .iload_n 3, 1), (1051, .iconst 2, 1), (1052, .iadd, 1), (1053, .iaload, 1), (1054, .invokevirtual 143, 3), (1057, .aload_n 2, 1), (1058, .aload_n 0, 1), (1059, .iload_n 3, 1), (1060, .iconst 1, 1), (1061, .iadd, 1), (1062, .iaload, 1), (1063, .aload_n 0, 1), (1064, .iload_n 3, 1), (1065, .iconst 2, 1), (1066, .iadd, 1), (1067, .iaload, 1), (1068, .invokevirtual 146, 3), (1071, .if_icmp .eq 571, 3), (1074, .iconst 0, 1), (1075, .ireturn, 1)]
set_option maxRecDepth 100000 in
theorem kd_law_31 : ∀ q ∈ k_law_31, decode code q.1 = .ok q.2 := by decide +kernel
theorem cs_31 (C0 : lw_At p s m meth c b L xs) (hL : L ≤ 3072) (hi : i + 5 < L) (C : TwoC s adX adM cy D AX AM) (g : Good n S Hs) (hX : XI mX n S Hs t) (hM : MI mM n S Hs t) (hW : TwoW s adX adM cy D AX AM mX mM H locs) (hl : lv_has ls 4 [(0, .ref b), (1, .ref (adX 0)), (2, .ref (adM 0)), (3, .int (nI i))]) (hcl : cells ≤ room_1.cells) (hsl : slots ≤ room_1.slots) (nx : ∀ (n' : Nat) (S' t' : List Nat) (Hs' : List (List Nat)) (mX' mM' : Mem) (H1 : Heap) (locs1 : List Loc), Good n' S' Hs' → XI mX' n' S' Hs' t' → MI mM' n' S' Hs' t' → TwoW s adX adM cy D AX AM mX' mM' H1 locs1 → W p l e room_1 s m #[Value.ref b] below meth c H1 locs1 cells slots Q (F0 m 1642 ls [])) : W p l e room_1 s m #[Value.ref b] below meth c H locs cells slots Q (F0 m 1043 ls []) := by
  obtain ⟨hx, hb, hr, hml, hown, hts, hXs, hbl, hlocks, hgv⟩ := id C0
  refine lv_aload_n hx hb (dc kd_law_31 0 rfl) rfl (lv_at hl 1 rfl) ?_
  refine ld_arg (pc := 1044) (k := 1) C0 hL (by omega) hW.2.2.2.2 hl (dc kd_law_31 1 rfl) (dc kd_law_31 2 rfl) (dc kd_law_31 3 rfl) (by decide) (dc kd_law_31 4 rfl) (dc kd_law_31 5 rfl) ?_
  refine ld_arg (pc := 1049) (k := 2) C0 hL (by omega) hW.2.2.2.2 hl (dc kd_law_31 6 rfl) (dc kd_law_31 7 rfl) (dc kd_law_31 8 rfl) (by decide) (dc kd_law_31 9 rfl) (dc kd_law_31 10 rfl) ?_
  refine law_pair (pc := 1054) (pc2 := 1068) (As := [.int (xs (i + 1)), .int (xs (i + 2))]) C0 mv_Law_143 mv_Law_146 rfl rfl (pr_spread g) rfl (fun _ => rfl) C hX hM hW hl.1 (dc kd_law_31 11 rfl) (dc kd_law_31 23 rfl) hcl hsl (fun x H1 locs1 hS1 kk => ?_) (fun x n' S' t' Hs' mX' mM' H1 locs1 g' hX' hM' hW' => ?_)
  · refine lv_aload_n hx hb (dc kd_law_31 12 rfl) rfl (lv_at hl 2 rfl) ?_
    refine ld_arg (pc := 1058) (k := 1) C0 hL (by omega) hS1 hl (dc kd_law_31 13 rfl) (dc kd_law_31 14 rfl) (dc kd_law_31 15 rfl) (by decide) (dc kd_law_31 16 rfl) (dc kd_law_31 17 rfl) ?_
    refine ld_arg (pc := 1063) (k := 2) C0 hL (by omega) hS1 hl (dc kd_law_31 18 rfl) (dc kd_law_31 19 rfl) (dc kd_law_31 20 rfl) (by decide) (dc kd_law_31 21 rfl) (dc kd_law_31 22 rfl) ?_
    exact kk
  · refine lv_icmp_eq (tgt := 1642) hx hb (dc kd_law_31 24 rfl) (by decide) (fun _ => nx n' S' t' Hs' mX' mM' H1 locs1 g' hX' hM' hW') (fun z => absurd rfl z)
def k_law_32 : List (Nat × Instr × Nat) := [(1076, .aload_n 1, 1), (1077, .invokevirtual 147, 3), (1080, .aload_n 2, 1), (1081, .invokevirtual 150, 3), (1084, .if_icmp .eq 558, 3), (1087, .iconst 0, 1), (1088, .ireturn, 1)]
set_option maxRecDepth 100000 in
theorem kd_law_32 : ∀ q ∈ k_law_32, decode code q.1 = .ok q.2 := by decide +kernel
theorem cs_32 (C0 : lw_At p s m meth c b L xs) (hL : L ≤ 3072) (hi : i + 5 < L) (C : TwoC s adX adM cy D AX AM) (g : Good n S Hs) (hX : XI mX n S Hs t) (hM : MI mM n S Hs t) (hW : TwoW s adX adM cy D AX AM mX mM H locs) (hl : lv_has ls 4 [(0, .ref b), (1, .ref (adX 0)), (2, .ref (adM 0)), (3, .int (nI i))]) (hcl : cells ≤ room_1.cells) (hsl : slots ≤ room_1.slots) (nx : ∀ (n' : Nat) (S' t' : List Nat) (Hs' : List (List Nat)) (mX' mM' : Mem) (H1 : Heap) (locs1 : List Loc), Good n' S' Hs' → XI mX' n' S' Hs' t' → MI mM' n' S' Hs' t' → TwoW s adX adM cy D AX AM mX' mM' H1 locs1 → W p l e room_1 s m #[Value.ref b] below meth c H1 locs1 cells slots Q (F0 m 1642 ls [])) : W p l e room_1 s m #[Value.ref b] below meth c H locs cells slots Q (F0 m 1076 ls []) := by
  obtain ⟨hx, hb, hr, hml, hown, hts, hXs, hbl, hlocks, hgv⟩ := id C0
  refine lv_aload_n hx hb (dc kd_law_32 0 rfl) rfl (lv_at hl 1 rfl) ?_
  refine law_pair (pc := 1077) (pc2 := 1081) (As := []) C0 mv_Law_147 mv_Law_150 rfl rfl (pr_spreadest g) rfl (fun _ => rfl) C hX hM hW hl.1 (dc kd_law_32 1 rfl) (dc kd_law_32 3 rfl) hcl hsl (fun x H1 locs1 hS1 kk => ?_) (fun x n' S' t' Hs' mX' mM' H1 locs1 g' hX' hM' hW' => ?_)
  · refine lv_aload_n hx hb (dc kd_law_32 2 rfl) rfl (lv_at hl 2 rfl) ?_
    exact kk
  · refine lv_icmp_eq (tgt := 1642) hx hb (dc kd_law_32 4 rfl) (by decide) (fun _ => nx n' S' t' Hs' mX' mM' H1 locs1 g' hX' hM' hW') (fun z => absurd rfl z)
def k_law_33 : List (Nat × Instr × Nat) := [(1089, .aload_n 1, 1), (1090, .aload_n 0, 1), (1091, .iload_n 3, 1), (1092, .iconst 1, 1), (1093, .iadd, 1), (1094, .iaload, 1), (1095, .aload_n 0, 1), (1096, .iload_n 3, 1), (1097, .iconst 2, 1), (1098, .iadd, 1), (1099, .iaload, 1), (1100, .invokevirtual 151, 3), (1103, .aload_n 2, 1), (1104, .aload_n 0, 1), (1105, .iload_n 3, 1), (1106, .iconst 1, 1), (1107, .iadd, 1), (1108, .iaload, 1), (1109, .aload_n 0, 1), (1110, .iload_n 3, 1), (1111, .iconst 2, 1), (1112, .iadd, 1), (1113, .iaload, 1), (1114, .invokevirtual 154, 3), (1117, .if_icmp .eq 525, 3), (1120, .iconst 0, 1), (1121, .ireturn, 1)]
set_option maxRecDepth 100000 in
theorem kd_law_33 : ∀ q ∈ k_law_33, decode code q.1 = .ok q.2 := by decide +kernel
theorem cs_33 (C0 : lw_At p s m meth c b L xs) (hL : L ≤ 3072) (hi : i + 5 < L) (C : TwoC s adX adM cy D AX AM) (g : Good n S Hs) (hX : XI mX n S Hs t) (hM : MI mM n S Hs t) (hW : TwoW s adX adM cy D AX AM mX mM H locs) (hl : lv_has ls 4 [(0, .ref b), (1, .ref (adX 0)), (2, .ref (adM 0)), (3, .int (nI i))]) (hcl : cells ≤ room_1.cells) (hsl : slots ≤ room_1.slots) (nx : ∀ (n' : Nat) (S' t' : List Nat) (Hs' : List (List Nat)) (mX' mM' : Mem) (H1 : Heap) (locs1 : List Loc), Good n' S' Hs' → XI mX' n' S' Hs' t' → MI mM' n' S' Hs' t' → TwoW s adX adM cy D AX AM mX' mM' H1 locs1 → W p l e room_1 s m #[Value.ref b] below meth c H1 locs1 cells slots Q (F0 m 1642 ls [])) : W p l e room_1 s m #[Value.ref b] below meth c H locs cells slots Q (F0 m 1089 ls []) := by
  obtain ⟨hx, hb, hr, hml, hown, hts, hXs, hbl, hlocks, hgv⟩ := id C0
  refine lv_aload_n hx hb (dc kd_law_33 0 rfl) rfl (lv_at hl 1 rfl) ?_
  refine ld_arg (pc := 1090) (k := 1) C0 hL (by omega) hW.2.2.2.2 hl (dc kd_law_33 1 rfl) (dc kd_law_33 2 rfl) (dc kd_law_33 3 rfl) (by decide) (dc kd_law_33 4 rfl) (dc kd_law_33 5 rfl) ?_
  refine ld_arg (pc := 1095) (k := 2) C0 hL (by omega) hW.2.2.2.2 hl (dc kd_law_33 6 rfl) (dc kd_law_33 7 rfl) (dc kd_law_33 8 rfl) (by decide) (dc kd_law_33 9 rfl) (dc kd_law_33 10 rfl) ?_
  refine law_pair (pc := 1100) (pc2 := 1114) (As := [.int (xs (i + 1)), .int (xs (i + 2))]) C0 mv_Law_151 mv_Law_154 rfl rfl (pr_bound g) rfl (fun _ => rfl) C hX hM hW hl.1 (dc kd_law_33 11 rfl) (dc kd_law_33 23 rfl) hcl hsl (fun x H1 locs1 hS1 kk => ?_) (fun x n' S' t' Hs' mX' mM' H1 locs1 g' hX' hM' hW' => ?_)
  · refine lv_aload_n hx hb (dc kd_law_33 12 rfl) rfl (lv_at hl 2 rfl) ?_
    refine ld_arg (pc := 1104) (k := 1) C0 hL (by omega) hS1 hl (dc kd_law_33 13 rfl) (dc kd_law_33 14 rfl) (dc kd_law_33 15 rfl) (by decide) (dc kd_law_33 16 rfl) (dc kd_law_33 17 rfl) ?_
    refine ld_arg (pc := 1109) (k := 2) C0 hL (by omega) hS1 hl (dc kd_law_33 18 rfl) (dc kd_law_33 19 rfl) (dc kd_law_33 20 rfl) (by decide) (dc kd_law_33 21 rfl) (dc kd_law_33 22 rfl) ?_
    exact kk
  · refine lv_icmp_eq (tgt := 1642) hx hb (dc kd_law_33 24 rfl) (by decide) (fun _ => nx n' S' t' Hs' mX' mM' H1 locs1 g' hX' hM' hW') (fun z => absurd rfl z)
def k_law_34 : List (Nat × Instr × Nat) := [(1122, .aload_n 1, 1), (1123, .aload_n 0, 1), (1124, .iload_n 3, 1), (1125, .iconst 1, 1), (1126, .iadd, 1), (1127, .iaload, 1), (1128, .invokevirtual 155, 3), (1131, .aload_n 2, 1), (1132, .aload_n 0, 1), (1133, .iload_n 3, 1), (1134, .iconst 1, 1), (1135, .iadd, 1), (1136, .iaload, 1), (1137, .invokevirtual 158, 3), (1140, .if_icmp .eq 502, 3), (1143, .iconst 0, 1), (1144, .ireturn, 1)]
set_option maxRecDepth 100000 in
theorem kd_law_34 : ∀ q ∈ k_law_34, decode code q.1 = .ok q.2 := by decide +kernel
theorem cs_34 (C0 : lw_At p s m meth c b L xs) (hL : L ≤ 3072) (hi : i + 5 < L) (C : TwoC s adX adM cy D AX AM) (g : Good n S Hs) (hX : XI mX n S Hs t) (hM : MI mM n S Hs t) (hW : TwoW s adX adM cy D AX AM mX mM H locs) (hl : lv_has ls 4 [(0, .ref b), (1, .ref (adX 0)), (2, .ref (adM 0)), (3, .int (nI i))]) (hcl : cells ≤ room_1.cells) (hsl : slots ≤ room_1.slots) (nx : ∀ (n' : Nat) (S' t' : List Nat) (Hs' : List (List Nat)) (mX' mM' : Mem) (H1 : Heap) (locs1 : List Loc), Good n' S' Hs' → XI mX' n' S' Hs' t' → MI mM' n' S' Hs' t' → TwoW s adX adM cy D AX AM mX' mM' H1 locs1 → W p l e room_1 s m #[Value.ref b] below meth c H1 locs1 cells slots Q (F0 m 1642 ls [])) : W p l e room_1 s m #[Value.ref b] below meth c H locs cells slots Q (F0 m 1122 ls []) := by
  obtain ⟨hx, hb, hr, hml, hown, hts, hXs, hbl, hlocks, hgv⟩ := id C0
  refine lv_aload_n hx hb (dc kd_law_34 0 rfl) rfl (lv_at hl 1 rfl) ?_
  refine ld_arg (pc := 1123) (k := 1) C0 hL (by omega) hW.2.2.2.2 hl (dc kd_law_34 1 rfl) (dc kd_law_34 2 rfl) (dc kd_law_34 3 rfl) (by decide) (dc kd_law_34 4 rfl) (dc kd_law_34 5 rfl) ?_
  refine law_pair (pc := 1128) (pc2 := 1137) (As := [.int (xs (i + 1))]) C0 mv_Law_155 mv_Law_158 rfl rfl (pr_sized g) rfl (fun _ => rfl) C hX hM hW hl.1 (dc kd_law_34 6 rfl) (dc kd_law_34 13 rfl) hcl hsl (fun x H1 locs1 hS1 kk => ?_) (fun x n' S' t' Hs' mX' mM' H1 locs1 g' hX' hM' hW' => ?_)
  · refine lv_aload_n hx hb (dc kd_law_34 7 rfl) rfl (lv_at hl 2 rfl) ?_
    refine ld_arg (pc := 1132) (k := 1) C0 hL (by omega) hS1 hl (dc kd_law_34 8 rfl) (dc kd_law_34 9 rfl) (dc kd_law_34 10 rfl) (by decide) (dc kd_law_34 11 rfl) (dc kd_law_34 12 rfl) ?_
    exact kk
  · refine lv_icmp_eq (tgt := 1642) hx hb (dc kd_law_34 14 rfl) (by decide) (fun _ => nx n' S' t' Hs' mX' mM' H1 locs1 g' hX' hM' hW') (fun z => absurd rfl z)
def k_law_35 : List (Nat × Instr × Nat) := [(1145, .aload_n 1, 1), (1146, .aload_n 0, 1), (1147, .iload_n 3, 1), (1148, .iconst 1, 1), (1149, .iadd, 1), (1150, .iaload, 1), (1151, .invokevirtual 159, 3), (1154, .aload_n 2, 1), (1155, .aload_n 0, 1), (1156, .iload_n 3, 1), (1157, .iconst 1, 1), (1158, .iadd, 1), (1159, .iaload, 1), (1160, .invokevirtual 162, 3), (1163, .if_icmp .eq 479, 3), (1166, .iconst 0, 1), (1167, .ireturn, 1)]
set_option maxRecDepth 100000 in
theorem kd_law_35 : ∀ q ∈ k_law_35, decode code q.1 = .ok q.2 := by decide +kernel
theorem cs_35 (C0 : lw_At p s m meth c b L xs) (hL : L ≤ 3072) (hi : i + 5 < L) (C : TwoC s adX adM cy D AX AM) (g : Good n S Hs) (hX : XI mX n S Hs t) (hM : MI mM n S Hs t) (hW : TwoW s adX adM cy D AX AM mX mM H locs) (hl : lv_has ls 4 [(0, .ref b), (1, .ref (adX 0)), (2, .ref (adM 0)), (3, .int (nI i))]) (hcl : cells ≤ room_1.cells) (hsl : slots ≤ room_1.slots) (nx : ∀ (n' : Nat) (S' t' : List Nat) (Hs' : List (List Nat)) (mX' mM' : Mem) (H1 : Heap) (locs1 : List Loc), Good n' S' Hs' → XI mX' n' S' Hs' t' → MI mM' n' S' Hs' t' → TwoW s adX adM cy D AX AM mX' mM' H1 locs1 → W p l e room_1 s m #[Value.ref b] below meth c H1 locs1 cells slots Q (F0 m 1642 ls [])) : W p l e room_1 s m #[Value.ref b] below meth c H locs cells slots Q (F0 m 1145 ls []) := by
  obtain ⟨hx, hb, hr, hml, hown, hts, hXs, hbl, hlocks, hgv⟩ := id C0
  refine lv_aload_n hx hb (dc kd_law_35 0 rfl) rfl (lv_at hl 1 rfl) ?_
  refine ld_arg (pc := 1146) (k := 1) C0 hL (by omega) hW.2.2.2.2 hl (dc kd_law_35 1 rfl) (dc kd_law_35 2 rfl) (dc kd_law_35 3 rfl) (by decide) (dc kd_law_35 4 rfl) (dc kd_law_35 5 rfl) ?_
  refine law_pair (pc := 1151) (pc2 := 1160) (As := [.int (xs (i + 1))]) C0 mv_Law_159 mv_Law_162 rfl rfl (pr_hits g) rfl (fun _ => rfl) C hX hM hW hl.1 (dc kd_law_35 6 rfl) (dc kd_law_35 13 rfl) hcl hsl (fun x H1 locs1 hS1 kk => ?_) (fun x n' S' t' Hs' mX' mM' H1 locs1 g' hX' hM' hW' => ?_)
  · refine lv_aload_n hx hb (dc kd_law_35 7 rfl) rfl (lv_at hl 2 rfl) ?_
    refine ld_arg (pc := 1155) (k := 1) C0 hL (by omega) hS1 hl (dc kd_law_35 8 rfl) (dc kd_law_35 9 rfl) (dc kd_law_35 10 rfl) (by decide) (dc kd_law_35 11 rfl) (dc kd_law_35 12 rfl) ?_
    exact kk
  · refine lv_icmp_eq (tgt := 1642) hx hb (dc kd_law_35 14 rfl) (by decide) (fun _ => nx n' S' t' Hs' mX' mM' H1 locs1 g' hX' hM' hW') (fun z => absurd rfl z)
def k_law_36 : List (Nat × Instr × Nat) := [(1168, .aload_n 1, 1), (1169, .aload_n 0, 1), (1170, .iload_n 3, 1), (1171, .iconst 1, 1), (1172, .iadd, 1), (1173, .iaload, 1), (1174, .invokevirtual 163, 3), (1177, .aload_n 2, 1), (1178, .aload_n 0, 1), (1179, .iload_n 3, 1), (1180, .iconst 1, 1), (1181, .iadd, 1), (1182, .iaload, 1), (1183, .invokevirtual 166, 3), (1186, .if_icmp .eq 456, 3), (1189, .iconst 0, 1), (1190, .ireturn, 1)]
set_option maxRecDepth 100000 in
theorem kd_law_36 : ∀ q ∈ k_law_36, decode code q.1 = .ok q.2 := by decide +kernel
theorem cs_36 (C0 : lw_At p s m meth c b L xs) (hL : L ≤ 3072) (hi : i + 5 < L) (C : TwoC s adX adM cy D AX AM) (g : Good n S Hs) (hX : XI mX n S Hs t) (hM : MI mM n S Hs t) (hW : TwoW s adX adM cy D AX AM mX mM H locs) (hl : lv_has ls 4 [(0, .ref b), (1, .ref (adX 0)), (2, .ref (adM 0)), (3, .int (nI i))]) (hcl : cells ≤ room_1.cells) (hsl : slots ≤ room_1.slots) (nx : ∀ (n' : Nat) (S' t' : List Nat) (Hs' : List (List Nat)) (mX' mM' : Mem) (H1 : Heap) (locs1 : List Loc), Good n' S' Hs' → XI mX' n' S' Hs' t' → MI mM' n' S' Hs' t' → TwoW s adX adM cy D AX AM mX' mM' H1 locs1 → W p l e room_1 s m #[Value.ref b] below meth c H1 locs1 cells slots Q (F0 m 1642 ls [])) : W p l e room_1 s m #[Value.ref b] below meth c H locs cells slots Q (F0 m 1168 ls []) := by
  obtain ⟨hx, hb, hr, hml, hown, hts, hXs, hbl, hlocks, hgv⟩ := id C0
  refine lv_aload_n hx hb (dc kd_law_36 0 rfl) rfl (lv_at hl 1 rfl) ?_
  refine ld_arg (pc := 1169) (k := 1) C0 hL (by omega) hW.2.2.2.2 hl (dc kd_law_36 1 rfl) (dc kd_law_36 2 rfl) (dc kd_law_36 3 rfl) (by decide) (dc kd_law_36 4 rfl) (dc kd_law_36 5 rfl) ?_
  refine law_pair (pc := 1174) (pc2 := 1183) (As := [.int (xs (i + 1))]) C0 mv_Law_163 mv_Law_166 rfl rfl (pr_missed g) rfl (fun _ => rfl) C hX hM hW hl.1 (dc kd_law_36 6 rfl) (dc kd_law_36 13 rfl) hcl hsl (fun x H1 locs1 hS1 kk => ?_) (fun x n' S' t' Hs' mX' mM' H1 locs1 g' hX' hM' hW' => ?_)
  · refine lv_aload_n hx hb (dc kd_law_36 7 rfl) rfl (lv_at hl 2 rfl) ?_
    refine ld_arg (pc := 1178) (k := 1) C0 hL (by omega) hS1 hl (dc kd_law_36 8 rfl) (dc kd_law_36 9 rfl) (dc kd_law_36 10 rfl) (by decide) (dc kd_law_36 11 rfl) (dc kd_law_36 12 rfl) ?_
    exact kk
  · refine lv_icmp_eq (tgt := 1642) hx hb (dc kd_law_36 14 rfl) (by decide) (fun _ => nx n' S' t' Hs' mX' mM' H1 locs1 g' hX' hM' hW') (fun z => absurd rfl z)
def k_law_37 : List (Nat × Instr × Nat) := [(1191, .aload_n 1, 1), (1192, .aload_n 0, 1), (1193, .iload_n 3, 1), (1194, .iconst 1, 1), (1195, .iadd, 1), (1196, .iaload, 1), (1197, .invokevirtual 167, 3), (1200, .aload_n 2, 1), (1201, .aload_n 0, 1), (1202, .iload_n 3, 1), (1203, .iconst 1, 1), (1204, .iadd, 1), (1205, .iaload, 1), (1206, .invokevirtual 170, 3), (1209, .if_icmp .eq 433, 3), (1212, .iconst 0, 1), (1213, .ireturn, 1)]
set_option maxRecDepth 100000 in
theorem kd_law_37 : ∀ q ∈ k_law_37, decode code q.1 = .ok q.2 := by decide +kernel
theorem cs_37 (C0 : lw_At p s m meth c b L xs) (hL : L ≤ 3072) (hi : i + 5 < L) (C : TwoC s adX adM cy D AX AM) (g : Good n S Hs) (hX : XI mX n S Hs t) (hM : MI mM n S Hs t) (hW : TwoW s adX adM cy D AX AM mX mM H locs) (hl : lv_has ls 4 [(0, .ref b), (1, .ref (adX 0)), (2, .ref (adM 0)), (3, .int (nI i))]) (hcl : cells ≤ room_1.cells) (hsl : slots ≤ room_1.slots) (nx : ∀ (n' : Nat) (S' t' : List Nat) (Hs' : List (List Nat)) (mX' mM' : Mem) (H1 : Heap) (locs1 : List Loc), Good n' S' Hs' → XI mX' n' S' Hs' t' → MI mM' n' S' Hs' t' → TwoW s adX adM cy D AX AM mX' mM' H1 locs1 → W p l e room_1 s m #[Value.ref b] below meth c H1 locs1 cells slots Q (F0 m 1642 ls [])) : W p l e room_1 s m #[Value.ref b] below meth c H locs cells slots Q (F0 m 1191 ls []) := by
  obtain ⟨hx, hb, hr, hml, hown, hts, hXs, hbl, hlocks, hgv⟩ := id C0
  refine lv_aload_n hx hb (dc kd_law_37 0 rfl) rfl (lv_at hl 1 rfl) ?_
  refine ld_arg (pc := 1192) (k := 1) C0 hL (by omega) hW.2.2.2.2 hl (dc kd_law_37 1 rfl) (dc kd_law_37 2 rfl) (dc kd_law_37 3 rfl) (by decide) (dc kd_law_37 4 rfl) (dc kd_law_37 5 rfl) ?_
  refine law_pair (pc := 1197) (pc2 := 1206) (As := [.int (xs (i + 1))]) C0 mv_Law_167 mv_Law_170 rfl rfl (pr_hitter g) rfl (fun _ => rfl) C hX hM hW hl.1 (dc kd_law_37 6 rfl) (dc kd_law_37 13 rfl) hcl hsl (fun x H1 locs1 hS1 kk => ?_) (fun x n' S' t' Hs' mX' mM' H1 locs1 g' hX' hM' hW' => ?_)
  · refine lv_aload_n hx hb (dc kd_law_37 7 rfl) rfl (lv_at hl 2 rfl) ?_
    refine ld_arg (pc := 1201) (k := 1) C0 hL (by omega) hS1 hl (dc kd_law_37 8 rfl) (dc kd_law_37 9 rfl) (dc kd_law_37 10 rfl) (by decide) (dc kd_law_37 11 rfl) (dc kd_law_37 12 rfl) ?_
    exact kk
  · refine lv_icmp_eq (tgt := 1642) hx hb (dc kd_law_37 14 rfl) (by decide) (fun _ => nx n' S' t' Hs' mX' mM' H1 locs1 g' hX' hM' hW') (fun z => absurd rfl z)
def k_law_38 : List (Nat × Instr × Nat) := [(1214, .aload_n 1, 1), (1215, .aload_n 0, 1), (1216, .iload_n 3, 1), (1217, .iconst 1, 1), (1218, .iadd, 1), (1219, .iaload, 1), (1220, .invokevirtual 171, 3), (1223, .aload_n 2, 1), (1224, .aload_n 0, 1), (1225, .iload_n 3, 1), (1226, .iconst 1, 1), (1227, .iadd, 1), (1228, .iaload, 1), (1229, .invokevirtual 174, 3), (1232, .if_icmp .eq 410, 3), (1235, .iconst 0, 1), (1236, .ireturn, 1)]
set_option maxRecDepth 100000 in
theorem kd_law_38 : ∀ q ∈ k_law_38, decode code q.1 = .ok q.2 := by decide +kernel
theorem cs_38 (C0 : lw_At p s m meth c b L xs) (hL : L ≤ 3072) (hi : i + 5 < L) (C : TwoC s adX adM cy D AX AM) (g : Good n S Hs) (hX : XI mX n S Hs t) (hM : MI mM n S Hs t) (hW : TwoW s adX adM cy D AX AM mX mM H locs) (hl : lv_has ls 4 [(0, .ref b), (1, .ref (adX 0)), (2, .ref (adM 0)), (3, .int (nI i))]) (hcl : cells ≤ room_1.cells) (hsl : slots ≤ room_1.slots) (nx : ∀ (n' : Nat) (S' t' : List Nat) (Hs' : List (List Nat)) (mX' mM' : Mem) (H1 : Heap) (locs1 : List Loc), Good n' S' Hs' → XI mX' n' S' Hs' t' → MI mM' n' S' Hs' t' → TwoW s adX adM cy D AX AM mX' mM' H1 locs1 → W p l e room_1 s m #[Value.ref b] below meth c H1 locs1 cells slots Q (F0 m 1642 ls [])) : W p l e room_1 s m #[Value.ref b] below meth c H locs cells slots Q (F0 m 1214 ls []) := by
  obtain ⟨hx, hb, hr, hml, hown, hts, hXs, hbl, hlocks, hgv⟩ := id C0
  refine lv_aload_n hx hb (dc kd_law_38 0 rfl) rfl (lv_at hl 1 rfl) ?_
  refine ld_arg (pc := 1215) (k := 1) C0 hL (by omega) hW.2.2.2.2 hl (dc kd_law_38 1 rfl) (dc kd_law_38 2 rfl) (dc kd_law_38 3 rfl) (by decide) (dc kd_law_38 4 rfl) (dc kd_law_38 5 rfl) ?_
  refine law_pair (pc := 1220) (pc2 := 1229) (As := [.int (xs (i + 1))]) C0 mv_Law_171 mv_Law_174 rfl rfl (pr_tight g) rfl (fun _ => rfl) C hX hM hW hl.1 (dc kd_law_38 6 rfl) (dc kd_law_38 13 rfl) hcl hsl (fun x H1 locs1 hS1 kk => ?_) (fun x n' S' t' Hs' mX' mM' H1 locs1 g' hX' hM' hW' => ?_)
  · refine lv_aload_n hx hb (dc kd_law_38 7 rfl) rfl (lv_at hl 2 rfl) ?_
    refine ld_arg (pc := 1224) (k := 1) C0 hL (by omega) hS1 hl (dc kd_law_38 8 rfl) (dc kd_law_38 9 rfl) (dc kd_law_38 10 rfl) (by decide) (dc kd_law_38 11 rfl) (dc kd_law_38 12 rfl) ?_
    exact kk
  · refine lv_icmp_eq (tgt := 1642) hx hb (dc kd_law_38 14 rfl) (by decide) (fun _ => nx n' S' t' Hs' mX' mM' H1 locs1 g' hX' hM' hW') (fun z => absurd rfl z)
def k_law_39 : List (Nat × Instr × Nat) := [(1237, .aload_n 1, 1), (1238, .aload_n 0, 1), (1239, .iload_n 3, 1), (1240, .iconst 1, 1), (1241, .iadd, 1), (1242, .iaload, 1), (1243, .invokevirtual 175, 3), (1246, .aload_n 2, 1), (1247, .aload_n 0, 1), (1248, .iload_n 3, 1), (1249, .iconst 1, 1), (1250, .iadd, 1), (1251, .iaload, 1), (1252, .invokevirtual 178, 3), (1255, .if_icmp .eq 387, 3), (1258, .iconst 0, 1), (1259, .ireturn, 1)]
set_option maxRecDepth 100000 in
theorem kd_law_39 : ∀ q ∈ k_law_39, decode code q.1 = .ok q.2 := by decide +kernel
theorem cs_39 (C0 : lw_At p s m meth c b L xs) (hL : L ≤ 3072) (hi : i + 5 < L) (C : TwoC s adX adM cy D AX AM) (g : Good n S Hs) (hX : XI mX n S Hs t) (hM : MI mM n S Hs t) (hW : TwoW s adX adM cy D AX AM mX mM H locs) (hl : lv_has ls 4 [(0, .ref b), (1, .ref (adX 0)), (2, .ref (adM 0)), (3, .int (nI i))]) (hcl : cells ≤ room_1.cells) (hsl : slots ≤ room_1.slots) (nx : ∀ (n' : Nat) (S' t' : List Nat) (Hs' : List (List Nat)) (mX' mM' : Mem) (H1 : Heap) (locs1 : List Loc), Good n' S' Hs' → XI mX' n' S' Hs' t' → MI mM' n' S' Hs' t' → TwoW s adX adM cy D AX AM mX' mM' H1 locs1 → W p l e room_1 s m #[Value.ref b] below meth c H1 locs1 cells slots Q (F0 m 1642 ls [])) : W p l e room_1 s m #[Value.ref b] below meth c H locs cells slots Q (F0 m 1237 ls []) := by
  obtain ⟨hx, hb, hr, hml, hown, hts, hXs, hbl, hlocks, hgv⟩ := id C0
  refine lv_aload_n hx hb (dc kd_law_39 0 rfl) rfl (lv_at hl 1 rfl) ?_
  refine ld_arg (pc := 1238) (k := 1) C0 hL (by omega) hW.2.2.2.2 hl (dc kd_law_39 1 rfl) (dc kd_law_39 2 rfl) (dc kd_law_39 3 rfl) (by decide) (dc kd_law_39 4 rfl) (dc kd_law_39 5 rfl) ?_
  refine law_pair (pc := 1243) (pc2 := 1252) (As := [.int (xs (i + 1))]) C0 mv_Law_175 mv_Law_178 rfl rfl (pr_greedy g) rfl (fun _ => rfl) C hX hM hW hl.1 (dc kd_law_39 6 rfl) (dc kd_law_39 13 rfl) hcl hsl (fun x H1 locs1 hS1 kk => ?_) (fun x n' S' t' Hs' mX' mM' H1 locs1 g' hX' hM' hW' => ?_)
  · refine lv_aload_n hx hb (dc kd_law_39 7 rfl) rfl (lv_at hl 2 rfl) ?_
    refine ld_arg (pc := 1247) (k := 1) C0 hL (by omega) hS1 hl (dc kd_law_39 8 rfl) (dc kd_law_39 9 rfl) (dc kd_law_39 10 rfl) (by decide) (dc kd_law_39 11 rfl) (dc kd_law_39 12 rfl) ?_
    exact kk
  · refine lv_icmp_eq (tgt := 1642) hx hb (dc kd_law_39 14 rfl) (by decide) (fun _ => nx n' S' t' Hs' mX' mM' H1 locs1 g' hX' hM' hW') (fun z => absurd rfl z)
def k_law_40 : List (Nat × Instr × Nat) := [(1260, .aload_n 1, 1), (1261, .aload_n 0, 1), (1262, .iload_n 3, 1), (1263, .iconst 1, 1), (1264, .iadd, 1), (1265, .iaload, 1), (1266, .invokevirtual 179, 3), (1269, .aload_n 2, 1), (1270, .aload_n 0, 1), (1271, .iload_n 3, 1), (1272, .iconst 1, 1), (1273, .iadd, 1), (1274, .iaload, 1), (1275, .invokevirtual 182, 3), (1278, .if_icmp .eq 364, 3), (1281, .iconst 0, 1), (1282, .ireturn, 1)]
set_option maxRecDepth 100000 in
theorem kd_law_40 : ∀ q ∈ k_law_40, decode code q.1 = .ok q.2 := by decide +kernel
theorem cs_40 (C0 : lw_At p s m meth c b L xs) (hL : L ≤ 3072) (hi : i + 5 < L) (C : TwoC s adX adM cy D AX AM) (g : Good n S Hs) (hX : XI mX n S Hs t) (hM : MI mM n S Hs t) (hW : TwoW s adX adM cy D AX AM mX mM H locs) (hl : lv_has ls 4 [(0, .ref b), (1, .ref (adX 0)), (2, .ref (adM 0)), (3, .int (nI i))]) (hcl : cells ≤ room_1.cells) (hsl : slots ≤ room_1.slots) (nx : ∀ (n' : Nat) (S' t' : List Nat) (Hs' : List (List Nat)) (mX' mM' : Mem) (H1 : Heap) (locs1 : List Loc), Good n' S' Hs' → XI mX' n' S' Hs' t' → MI mM' n' S' Hs' t' → TwoW s adX adM cy D AX AM mX' mM' H1 locs1 → W p l e room_1 s m #[Value.ref b] below meth c H1 locs1 cells slots Q (F0 m 1642 ls [])) : W p l e room_1 s m #[Value.ref b] below meth c H locs cells slots Q (F0 m 1260 ls []) := by
  obtain ⟨hx, hb, hr, hml, hown, hts, hXs, hbl, hlocks, hgv⟩ := id C0
  refine lv_aload_n hx hb (dc kd_law_40 0 rfl) rfl (lv_at hl 1 rfl) ?_
  refine ld_arg (pc := 1261) (k := 1) C0 hL (by omega) hW.2.2.2.2 hl (dc kd_law_40 1 rfl) (dc kd_law_40 2 rfl) (dc kd_law_40 3 rfl) (by decide) (dc kd_law_40 4 rfl) (dc kd_law_40 5 rfl) ?_
  refine law_pair (pc := 1266) (pc2 := 1275) (As := [.int (xs (i + 1))]) C0 mv_Law_179 mv_Law_182 rfl rfl (pr_apart g) rfl (fun _ => rfl) C hX hM hW hl.1 (dc kd_law_40 6 rfl) (dc kd_law_40 13 rfl) hcl hsl (fun x H1 locs1 hS1 kk => ?_) (fun x n' S' t' Hs' mX' mM' H1 locs1 g' hX' hM' hW' => ?_)
  · refine lv_aload_n hx hb (dc kd_law_40 7 rfl) rfl (lv_at hl 2 rfl) ?_
    refine ld_arg (pc := 1270) (k := 1) C0 hL (by omega) hS1 hl (dc kd_law_40 8 rfl) (dc kd_law_40 9 rfl) (dc kd_law_40 10 rfl) (by decide) (dc kd_law_40 11 rfl) (dc kd_law_40 12 rfl) ?_
    exact kk
  · refine lv_icmp_eq (tgt := 1642) hx hb (dc kd_law_40 14 rfl) (by decide) (fun _ => nx n' S' t' Hs' mX' mM' H1 locs1 g' hX' hM' hW') (fun z => absurd rfl z)
def k_law_41 : List (Nat × Instr × Nat) := [(1283, .aload_n 1, 1), (1284, .aload_n 0, 1), (1285, .iload_n 3, 1), (1286, .iconst 1, 1), (1287, .iadd, 1), (1288, .iaload, 1), (1289, .invokevirtual 183, 3), (1292, .aload_n 2, 1), (1293, .aload_n 0, 1), (1294, .iload_n 3, 1), (1295, .iconst 1, 1), (1296, .iadd, 1), (1297, .iaload, 1), (1298, .invokevirtual 186, 3), (1301, .if_icmp .eq 341, 3), (1304, .iconst 0, 1), (1305, .ireturn, 1)]
set_option maxRecDepth 100000 in
theorem kd_law_41 : ∀ q ∈ k_law_41, decode code q.1 = .ok q.2 := by decide +kernel
theorem cs_41 (C0 : lw_At p s m meth c b L xs) (hL : L ≤ 3072) (hi : i + 5 < L) (C : TwoC s adX adM cy D AX AM) (g : Good n S Hs) (hX : XI mX n S Hs t) (hM : MI mM n S Hs t) (hW : TwoW s adX adM cy D AX AM mX mM H locs) (hl : lv_has ls 4 [(0, .ref b), (1, .ref (adX 0)), (2, .ref (adM 0)), (3, .int (nI i))]) (hcl : cells ≤ room_1.cells) (hsl : slots ≤ room_1.slots) (nx : ∀ (n' : Nat) (S' t' : List Nat) (Hs' : List (List Nat)) (mX' mM' : Mem) (H1 : Heap) (locs1 : List Loc), Good n' S' Hs' → XI mX' n' S' Hs' t' → MI mM' n' S' Hs' t' → TwoW s adX adM cy D AX AM mX' mM' H1 locs1 → W p l e room_1 s m #[Value.ref b] below meth c H1 locs1 cells slots Q (F0 m 1642 ls [])) : W p l e room_1 s m #[Value.ref b] below meth c H locs cells slots Q (F0 m 1283 ls []) := by
  obtain ⟨hx, hb, hr, hml, hown, hts, hXs, hbl, hlocks, hgv⟩ := id C0
  refine lv_aload_n hx hb (dc kd_law_41 0 rfl) rfl (lv_at hl 1 rfl) ?_
  refine ld_arg (pc := 1284) (k := 1) C0 hL (by omega) hW.2.2.2.2 hl (dc kd_law_41 1 rfl) (dc kd_law_41 2 rfl) (dc kd_law_41 3 rfl) (by decide) (dc kd_law_41 4 rfl) (dc kd_law_41 5 rfl) ?_
  refine law_pair (pc := 1289) (pc2 := 1298) (As := [.int (xs (i + 1))]) C0 mv_Law_183 mv_Law_186 rfl rfl (pr_exact g) rfl (fun _ => rfl) C hX hM hW hl.1 (dc kd_law_41 6 rfl) (dc kd_law_41 13 rfl) hcl hsl (fun x H1 locs1 hS1 kk => ?_) (fun x n' S' t' Hs' mX' mM' H1 locs1 g' hX' hM' hW' => ?_)
  · refine lv_aload_n hx hb (dc kd_law_41 7 rfl) rfl (lv_at hl 2 rfl) ?_
    refine ld_arg (pc := 1293) (k := 1) C0 hL (by omega) hS1 hl (dc kd_law_41 8 rfl) (dc kd_law_41 9 rfl) (dc kd_law_41 10 rfl) (by decide) (dc kd_law_41 11 rfl) (dc kd_law_41 12 rfl) ?_
    exact kk
  · refine lv_icmp_eq (tgt := 1642) hx hb (dc kd_law_41 14 rfl) (by decide) (fun _ => nx n' S' t' Hs' mX' mM' H1 locs1 g' hX' hM' hW') (fun z => absurd rfl z)
def k_law_42 : List (Nat × Instr × Nat) := [(1306, .aload_n 1, 1), (1307, .aload_n 0, 1), (1308, .iload_n 3, 1), (1309, .iconst 1, 1), (1310, .iadd, 1), (1311, .iaload, 1), (1312, .invokevirtual 187, 3), (1315, .aload_n 2, 1), (1316, .aload_n 0, 1), (1317, .iload_n 3, 1), (1318, .iconst 1, 1), (1319, .iadd, 1), (1320, .iaload, 1), (1321, .invokevirtual 190, 3), (1324, .if_icmp .eq 318, 3), (1327, .iconst 0, 1), (1328, .ireturn, 1)]
set_option maxRecDepth 100000 in
theorem kd_law_42 : ∀ q ∈ k_law_42, decode code q.1 = .ok q.2 := by decide +kernel
theorem cs_42 (C0 : lw_At p s m meth c b L xs) (hL : L ≤ 3072) (hi : i + 5 < L) (C : TwoC s adX adM cy D AX AM) (g : Good n S Hs) (hX : XI mX n S Hs t) (hM : MI mM n S Hs t) (hW : TwoW s adX adM cy D AX AM mX mM H locs) (hl : lv_has ls 4 [(0, .ref b), (1, .ref (adX 0)), (2, .ref (adM 0)), (3, .int (nI i))]) (hcl : cells ≤ room_1.cells) (hsl : slots ≤ room_1.slots) (nx : ∀ (n' : Nat) (S' t' : List Nat) (Hs' : List (List Nat)) (mX' mM' : Mem) (H1 : Heap) (locs1 : List Loc), Good n' S' Hs' → XI mX' n' S' Hs' t' → MI mM' n' S' Hs' t' → TwoW s adX adM cy D AX AM mX' mM' H1 locs1 → W p l e room_1 s m #[Value.ref b] below meth c H1 locs1 cells slots Q (F0 m 1642 ls [])) : W p l e room_1 s m #[Value.ref b] below meth c H locs cells slots Q (F0 m 1306 ls []) := by
  obtain ⟨hx, hb, hr, hml, hown, hts, hXs, hbl, hlocks, hgv⟩ := id C0
  refine lv_aload_n hx hb (dc kd_law_42 0 rfl) rfl (lv_at hl 1 rfl) ?_
  refine ld_arg (pc := 1307) (k := 1) C0 hL (by omega) hW.2.2.2.2 hl (dc kd_law_42 1 rfl) (dc kd_law_42 2 rfl) (dc kd_law_42 3 rfl) (by decide) (dc kd_law_42 4 rfl) (dc kd_law_42 5 rfl) ?_
  refine law_pair (pc := 1312) (pc2 := 1321) (As := [.int (xs (i + 1))]) C0 mv_Law_187 mv_Law_190 rfl rfl (pr_halves g) rfl (fun _ => rfl) C hX hM hW hl.1 (dc kd_law_42 6 rfl) (dc kd_law_42 13 rfl) hcl hsl (fun x H1 locs1 hS1 kk => ?_) (fun x n' S' t' Hs' mX' mM' H1 locs1 g' hX' hM' hW' => ?_)
  · refine lv_aload_n hx hb (dc kd_law_42 7 rfl) rfl (lv_at hl 2 rfl) ?_
    refine ld_arg (pc := 1316) (k := 1) C0 hL (by omega) hS1 hl (dc kd_law_42 8 rfl) (dc kd_law_42 9 rfl) (dc kd_law_42 10 rfl) (by decide) (dc kd_law_42 11 rfl) (dc kd_law_42 12 rfl) ?_
    exact kk
  · refine lv_icmp_eq (tgt := 1642) hx hb (dc kd_law_42 14 rfl) (by decide) (fun _ => nx n' S' t' Hs' mX' mM' H1 locs1 g' hX' hM' hW') (fun z => absurd rfl z)
def k_law_43 : List (Nat × Instr × Nat) := [(1329, .aload_n 1, 1), (1330, .aload_n 0, 1), (1331, .iload_n 3, 1), (1332, .iconst 1, 1), (1333, .iadd, 1), (1334, .iaload, 1), (1335, .aload_n 0, 1), (1336, .iload_n 3, 1), (1337, .iconst 2, 1), (1338, .iadd, 1), (1339, .iaload, 1), (1340, .invokevirtual 191, 3), (1343, .aload_n 2, 1), (1344, .aload_n 0, 1), (1345, .iload_n 3, 1), (1346, .iconst 1, 1), (1347, .iadd, 1), (1348, .iaload, 1), (1349, .aload_n 0, 1), (1350, .iload_n 3, 1), (1351, .iconst 2, 1), (1352, .iadd, 1), (1353, .iaload, 1), (1354, .invokevirtual 194, 3), (1357, .if_icmp .eq 285, 3), (1360, .iconst 0, 1), (1361, .ireturn, 1)]
set_option maxRecDepth 100000 in
theorem kd_law_43 : ∀ q ∈ k_law_43, decode code q.1 = .ok q.2 := by decide +kernel
theorem cs_43 (C0 : lw_At p s m meth c b L xs) (hL : L ≤ 3072) (hi : i + 5 < L) (C : TwoC s adX adM cy D AX AM) (g : Good n S Hs) (hX : XI mX n S Hs t) (hM : MI mM n S Hs t) (hW : TwoW s adX adM cy D AX AM mX mM H locs) (hl : lv_has ls 4 [(0, .ref b), (1, .ref (adX 0)), (2, .ref (adM 0)), (3, .int (nI i))]) (hcl : cells ≤ room_1.cells) (hsl : slots ≤ room_1.slots) (nx : ∀ (n' : Nat) (S' t' : List Nat) (Hs' : List (List Nat)) (mX' mM' : Mem) (H1 : Heap) (locs1 : List Loc), Good n' S' Hs' → XI mX' n' S' Hs' t' → MI mM' n' S' Hs' t' → TwoW s adX adM cy D AX AM mX' mM' H1 locs1 → W p l e room_1 s m #[Value.ref b] below meth c H1 locs1 cells slots Q (F0 m 1642 ls [])) : W p l e room_1 s m #[Value.ref b] below meth c H locs cells slots Q (F0 m 1329 ls []) := by
  obtain ⟨hx, hb, hr, hml, hown, hts, hXs, hbl, hlocks, hgv⟩ := id C0
  refine lv_aload_n hx hb (dc kd_law_43 0 rfl) rfl (lv_at hl 1 rfl) ?_
  refine ld_arg (pc := 1330) (k := 1) C0 hL (by omega) hW.2.2.2.2 hl (dc kd_law_43 1 rfl) (dc kd_law_43 2 rfl) (dc kd_law_43 3 rfl) (by decide) (dc kd_law_43 4 rfl) (dc kd_law_43 5 rfl) ?_
  refine ld_arg (pc := 1335) (k := 2) C0 hL (by omega) hW.2.2.2.2 hl (dc kd_law_43 6 rfl) (dc kd_law_43 7 rfl) (dc kd_law_43 8 rfl) (by decide) (dc kd_law_43 9 rfl) (dc kd_law_43 10 rfl) ?_
  refine law_pair (pc := 1340) (pc2 := 1354) (As := [.int (xs (i + 1)), .int (xs (i + 2))]) C0 mv_Law_191 mv_Law_194 rfl rfl (pr_kernel g) rfl (fun _ => rfl) C hX hM hW hl.1 (dc kd_law_43 11 rfl) (dc kd_law_43 23 rfl) hcl hsl (fun x H1 locs1 hS1 kk => ?_) (fun x n' S' t' Hs' mX' mM' H1 locs1 g' hX' hM' hW' => ?_)
  · refine lv_aload_n hx hb (dc kd_law_43 12 rfl) rfl (lv_at hl 2 rfl) ?_
    refine ld_arg (pc := 1344) (k := 1) C0 hL (by omega) hS1 hl (dc kd_law_43 13 rfl) (dc kd_law_43 14 rfl) (dc kd_law_43 15 rfl) (by decide) (dc kd_law_43 16 rfl) (dc kd_law_43 17 rfl) ?_
    refine ld_arg (pc := 1349) (k := 2) C0 hL (by omega) hS1 hl (dc kd_law_43 18 rfl) (dc kd_law_43 19 rfl) (dc kd_law_43 20 rfl) (by decide) (dc kd_law_43 21 rfl) (dc kd_law_43 22 rfl) ?_
    exact kk
  · refine lv_icmp_eq (tgt := 1642) hx hb (dc kd_law_43 24 rfl) (by decide) (fun _ => nx n' S' t' Hs' mX' mM' H1 locs1 g' hX' hM' hW') (fun z => absurd rfl z)
def k_law_44 : List (Nat × Instr × Nat) := [(1362, .aload_n 1, 1), (1363, .aload_n 0, 1), (1364, .iload_n 3, 1), (1365, .iconst 1, 1), (1366, .iadd, 1), (1367, .iaload, 1), (1368, .aload_n 0, 1), (1369, .iload_n 3, 1), (1370, .iconst 2, 1), (1371, .iadd, 1), (1372, .iaload, 1), (1373, .invokevirtual 195, 3), (1376, .aload_n 2, 1), (1377, .aload_n 0, 1), (1378, .iload_n 3, 1), (1379, .iconst 1, 1), (1380, .iadd, 1), (1381, .iaload, 1), (1382, .aload_n 0, 1), (1383, .iload_n 3, 1), (1384, .iconst 2, 1), (1385, .iadd, 1), (1386, .iaload, 1), (1387, .invokevirtual 198, 3), (1390, .if_icmp .eq 252, 3), (1393, .iconst 0, 1), (1394, .ireturn, 1)]
set_option maxRecDepth 100000 in
theorem kd_law_44 : ∀ q ∈ k_law_44, decode code q.1 = .ok q.2 := by decide +kernel
theorem cs_44 (C0 : lw_At p s m meth c b L xs) (hL : L ≤ 3072) (hi : i + 5 < L) (C : TwoC s adX adM cy D AX AM) (g : Good n S Hs) (hX : XI mX n S Hs t) (hM : MI mM n S Hs t) (hW : TwoW s adX adM cy D AX AM mX mM H locs) (hl : lv_has ls 4 [(0, .ref b), (1, .ref (adX 0)), (2, .ref (adM 0)), (3, .int (nI i))]) (hcl : cells ≤ room_1.cells) (hsl : slots ≤ room_1.slots) (nx : ∀ (n' : Nat) (S' t' : List Nat) (Hs' : List (List Nat)) (mX' mM' : Mem) (H1 : Heap) (locs1 : List Loc), Good n' S' Hs' → XI mX' n' S' Hs' t' → MI mM' n' S' Hs' t' → TwoW s adX adM cy D AX AM mX' mM' H1 locs1 → W p l e room_1 s m #[Value.ref b] below meth c H1 locs1 cells slots Q (F0 m 1642 ls [])) : W p l e room_1 s m #[Value.ref b] below meth c H locs cells slots Q (F0 m 1362 ls []) := by
  obtain ⟨hx, hb, hr, hml, hown, hts, hXs, hbl, hlocks, hgv⟩ := id C0
  refine lv_aload_n hx hb (dc kd_law_44 0 rfl) rfl (lv_at hl 1 rfl) ?_
  refine ld_arg (pc := 1363) (k := 1) C0 hL (by omega) hW.2.2.2.2 hl (dc kd_law_44 1 rfl) (dc kd_law_44 2 rfl) (dc kd_law_44 3 rfl) (by decide) (dc kd_law_44 4 rfl) (dc kd_law_44 5 rfl) ?_
  refine ld_arg (pc := 1368) (k := 2) C0 hL (by omega) hW.2.2.2.2 hl (dc kd_law_44 6 rfl) (dc kd_law_44 7 rfl) (dc kd_law_44 8 rfl) (by decide) (dc kd_law_44 9 rfl) (dc kd_law_44 10 rfl) ?_
  refine law_pair (pc := 1373) (pc2 := 1387) (As := [.int (xs (i + 1)), .int (xs (i + 2))]) C0 mv_Law_195 mv_Law_198 rfl rfl (pr_kernelSet g) rfl (fun _ => rfl) C hX hM hW hl.1 (dc kd_law_44 11 rfl) (dc kd_law_44 23 rfl) hcl hsl (fun x H1 locs1 hS1 kk => ?_) (fun x n' S' t' Hs' mX' mM' H1 locs1 g' hX' hM' hW' => ?_)
  · refine lv_aload_n hx hb (dc kd_law_44 12 rfl) rfl (lv_at hl 2 rfl) ?_
    refine ld_arg (pc := 1377) (k := 1) C0 hL (by omega) hS1 hl (dc kd_law_44 13 rfl) (dc kd_law_44 14 rfl) (dc kd_law_44 15 rfl) (by decide) (dc kd_law_44 16 rfl) (dc kd_law_44 17 rfl) ?_
    refine ld_arg (pc := 1382) (k := 2) C0 hL (by omega) hS1 hl (dc kd_law_44 18 rfl) (dc kd_law_44 19 rfl) (dc kd_law_44 20 rfl) (by decide) (dc kd_law_44 21 rfl) (dc kd_law_44 22 rfl) ?_
    exact kk
  · refine lv_icmp_eq (tgt := 1642) hx hb (dc kd_law_44 24 rfl) (by decide) (fun _ => nx n' S' t' Hs' mX' mM' H1 locs1 g' hX' hM' hW') (fun z => absurd rfl z)
def k_law_45 : List (Nat × Instr × Nat) := [(1395, .aload_n 1, 1), (1396, .aload_n 0, 1), (1397, .iload_n 3, 1), (1398, .iconst 1, 1), (1399, .iadd, 1), (1400, .iaload, 1), (1401, .aload_n 0, 1), (1402, .iload_n 3, 1), (1403, .iconst 2, 1), (1404, .iadd, 1), (1405, .iaload, 1), (1406, .aload_n 0, 1), (1407, .iload_n 3, 1), (1408, .iconst 3, 1), (1409, .iadd, 1), (1410, .iaload, 1), (1411, .invokevirtual 199, 3), (1414, .aload_n 2, 1), (1415, .aload_n 0, 1), (1416, .iload_n 3, 1), (1417, .iconst 1, 1), (1418, .iadd, 1), (1419, .iaload, 1), (1420, .aload_n 0, 1), (1421, .iload_n 3, 1), (1422, .iconst 2, 1), (1423, .iadd, 1), (1424, .iaload, 1), (1425, .aload_n 0, 1), (1426, .iload_n 3, 1), (1427, .iconst 3, 1), (1428, .iadd, 1), (1429, .iaload, 1), (1430, .invokevirtual 203, 3), (1433, .if_icmp .eq 209, 3), (1436, .iconst 0, 1), (1437, .ireturn, 1)]
set_option maxRecDepth 100000 in
theorem kd_law_45 : ∀ q ∈ k_law_45, decode code q.1 = .ok q.2 := by decide +kernel
theorem cs_45 (C0 : lw_At p s m meth c b L xs) (hL : L ≤ 3072) (hi : i + 5 < L) (C : TwoC s adX adM cy D AX AM) (g : Good n S Hs) (hX : XI mX n S Hs t) (hM : MI mM n S Hs t) (hW : TwoW s adX adM cy D AX AM mX mM H locs) (hl : lv_has ls 4 [(0, .ref b), (1, .ref (adX 0)), (2, .ref (adM 0)), (3, .int (nI i))]) (hcl : cells ≤ room_1.cells) (hsl : slots ≤ room_1.slots) (nx : ∀ (n' : Nat) (S' t' : List Nat) (Hs' : List (List Nat)) (mX' mM' : Mem) (H1 : Heap) (locs1 : List Loc), Good n' S' Hs' → XI mX' n' S' Hs' t' → MI mM' n' S' Hs' t' → TwoW s adX adM cy D AX AM mX' mM' H1 locs1 → W p l e room_1 s m #[Value.ref b] below meth c H1 locs1 cells slots Q (F0 m 1642 ls [])) : W p l e room_1 s m #[Value.ref b] below meth c H locs cells slots Q (F0 m 1395 ls []) := by
  obtain ⟨hx, hb, hr, hml, hown, hts, hXs, hbl, hlocks, hgv⟩ := id C0
  refine lv_aload_n hx hb (dc kd_law_45 0 rfl) rfl (lv_at hl 1 rfl) ?_
  refine ld_arg (pc := 1396) (k := 1) C0 hL (by omega) hW.2.2.2.2 hl (dc kd_law_45 1 rfl) (dc kd_law_45 2 rfl) (dc kd_law_45 3 rfl) (by decide) (dc kd_law_45 4 rfl) (dc kd_law_45 5 rfl) ?_
  refine ld_arg (pc := 1401) (k := 2) C0 hL (by omega) hW.2.2.2.2 hl (dc kd_law_45 6 rfl) (dc kd_law_45 7 rfl) (dc kd_law_45 8 rfl) (by decide) (dc kd_law_45 9 rfl) (dc kd_law_45 10 rfl) ?_
  refine ld_arg (pc := 1406) (k := 3) C0 hL (by omega) hW.2.2.2.2 hl (dc kd_law_45 11 rfl) (dc kd_law_45 12 rfl) (dc kd_law_45 13 rfl) (by decide) (dc kd_law_45 14 rfl) (dc kd_law_45 15 rfl) ?_
  refine law_pair (pc := 1411) (pc2 := 1430) (As := [.int (xs (i + 1)), .int (xs (i + 2)), .int (xs (i + 3))]) C0 mv_Law_199 mv_Law_203 rfl rfl (pr_step g) rfl (fun _ => rfl) C hX hM hW hl.1 (dc kd_law_45 16 rfl) (dc kd_law_45 33 rfl) hcl hsl (fun x H1 locs1 hS1 kk => ?_) (fun x n' S' t' Hs' mX' mM' H1 locs1 g' hX' hM' hW' => ?_)
  · refine lv_aload_n hx hb (dc kd_law_45 17 rfl) rfl (lv_at hl 2 rfl) ?_
    refine ld_arg (pc := 1415) (k := 1) C0 hL (by omega) hS1 hl (dc kd_law_45 18 rfl) (dc kd_law_45 19 rfl) (dc kd_law_45 20 rfl) (by decide) (dc kd_law_45 21 rfl) (dc kd_law_45 22 rfl) ?_
    refine ld_arg (pc := 1420) (k := 2) C0 hL (by omega) hS1 hl (dc kd_law_45 23 rfl) (dc kd_law_45 24 rfl) (dc kd_law_45 25 rfl) (by decide) (dc kd_law_45 26 rfl) (dc kd_law_45 27 rfl) ?_
    refine ld_arg (pc := 1425) (k := 3) C0 hL (by omega) hS1 hl (dc kd_law_45 28 rfl) (dc kd_law_45 29 rfl) (dc kd_law_45 30 rfl) (by decide) (dc kd_law_45 31 rfl) (dc kd_law_45 32 rfl) ?_
    exact kk
  · refine lv_icmp_eq (tgt := 1642) hx hb (dc kd_law_45 34 rfl) (by decide) (fun _ => nx n' S' t' Hs' mX' mM' H1 locs1 g' hX' hM' hW') (fun z => absurd rfl z)
def k_law_46 : List (Nat × Instr × Nat) := [(1438, .aload_n 1, 1), (1439, .aload_n 0, 1), (1440, .iload_n 3, 1), (1441, .iconst 1, 1), (1442, .iadd, 1), (1443, .iaload, 1), (1444, .invokevirtual 204, 3), (1447, .aload_n 2, 1), (1448, .aload_n 0, 1), (1449, .iload_n 3, 1), (1450, .iconst 1, 1), (1451, .iadd, 1), (1452, .iaload, 1), (1453, .invokevirtual 207, 3), (1456, .if_icmp .eq 186, 3), (1459, .iconst 0, 1), (1460, .ireturn, 1)]
set_option maxRecDepth 100000 in
theorem kd_law_46 : ∀ q ∈ k_law_46, decode code q.1 = .ok q.2 := by decide +kernel
theorem cs_46 (C0 : lw_At p s m meth c b L xs) (hL : L ≤ 3072) (hi : i + 5 < L) (C : TwoC s adX adM cy D AX AM) (g : Good n S Hs) (hX : XI mX n S Hs t) (hM : MI mM n S Hs t) (hW : TwoW s adX adM cy D AX AM mX mM H locs) (hl : lv_has ls 4 [(0, .ref b), (1, .ref (adX 0)), (2, .ref (adM 0)), (3, .int (nI i))]) (hcl : cells ≤ room_1.cells) (hsl : slots ≤ room_1.slots) (nx : ∀ (n' : Nat) (S' t' : List Nat) (Hs' : List (List Nat)) (mX' mM' : Mem) (H1 : Heap) (locs1 : List Loc), Good n' S' Hs' → XI mX' n' S' Hs' t' → MI mM' n' S' Hs' t' → TwoW s adX adM cy D AX AM mX' mM' H1 locs1 → W p l e room_1 s m #[Value.ref b] below meth c H1 locs1 cells slots Q (F0 m 1642 ls [])) : W p l e room_1 s m #[Value.ref b] below meth c H locs cells slots Q (F0 m 1438 ls []) := by
  obtain ⟨hx, hb, hr, hml, hown, hts, hXs, hbl, hlocks, hgv⟩ := id C0
  refine lv_aload_n hx hb (dc kd_law_46 0 rfl) rfl (lv_at hl 1 rfl) ?_
  refine ld_arg (pc := 1439) (k := 1) C0 hL (by omega) hW.2.2.2.2 hl (dc kd_law_46 1 rfl) (dc kd_law_46 2 rfl) (dc kd_law_46 3 rfl) (by decide) (dc kd_law_46 4 rfl) (dc kd_law_46 5 rfl) ?_
  refine law_pair (pc := 1444) (pc2 := 1453) (As := [.int (xs (i + 1))]) C0 mv_Law_204 mv_Law_207 rfl rfl (pr_can g) rfl (fun _ => rfl) C hX hM hW hl.1 (dc kd_law_46 6 rfl) (dc kd_law_46 13 rfl) hcl hsl (fun x H1 locs1 hS1 kk => ?_) (fun x n' S' t' Hs' mX' mM' H1 locs1 g' hX' hM' hW' => ?_)
  · refine lv_aload_n hx hb (dc kd_law_46 7 rfl) rfl (lv_at hl 2 rfl) ?_
    refine ld_arg (pc := 1448) (k := 1) C0 hL (by omega) hS1 hl (dc kd_law_46 8 rfl) (dc kd_law_46 9 rfl) (dc kd_law_46 10 rfl) (by decide) (dc kd_law_46 11 rfl) (dc kd_law_46 12 rfl) ?_
    exact kk
  · refine lv_icmp_eq (tgt := 1642) hx hb (dc kd_law_46 14 rfl) (by decide) (fun _ => nx n' S' t' Hs' mX' mM' H1 locs1 g' hX' hM' hW') (fun z => absurd rfl z)
def k_law_47 : List (Nat × Instr × Nat) := [(1461, .aload_n 1, 1), (1462, .aload_n 0, 1), (1463, .iload_n 3, 1), (1464, .iconst 1, 1), (1465, .iadd, 1), (1466, .iaload, 1), (1467, .aload_n 0, 1), (1468, .iload_n 3, 1), (1469, .iconst 2, 1), (1470, .iadd, 1), (1471, .iaload, 1), (1472, .invokevirtual 208, 3), (1475, .aload_n 2, 1), (1476, .aload_n 0, 1), (1477, .iload_n 3, 1), (1478, .iconst 1, 1), (1479, .iadd, 1), (1480, .iaload, 1), (1481, .aload_n 0, 1), (1482, .iload_n 3, 1), (1483, .iconst 2, 1), (1484, .iadd, 1), (1485, .iaload, 1), (1486, .invokevirtual 211, 3), (1489, .if_icmp .eq 153, 3), (1492, .iconst 0, 1), (1493, .ireturn, 1)]
set_option maxRecDepth 100000 in
theorem kd_law_47 : ∀ q ∈ k_law_47, decode code q.1 = .ok q.2 := by decide +kernel
theorem cs_47 (C0 : lw_At p s m meth c b L xs) (hL : L ≤ 3072) (hi : i + 5 < L) (C : TwoC s adX adM cy D AX AM) (g : Good n S Hs) (hX : XI mX n S Hs t) (hM : MI mM n S Hs t) (hW : TwoW s adX adM cy D AX AM mX mM H locs) (hl : lv_has ls 4 [(0, .ref b), (1, .ref (adX 0)), (2, .ref (adM 0)), (3, .int (nI i))]) (hcl : cells ≤ room_1.cells) (hsl : slots ≤ room_1.slots) (nx : ∀ (n' : Nat) (S' t' : List Nat) (Hs' : List (List Nat)) (mX' mM' : Mem) (H1 : Heap) (locs1 : List Loc), Good n' S' Hs' → XI mX' n' S' Hs' t' → MI mM' n' S' Hs' t' → TwoW s adX adM cy D AX AM mX' mM' H1 locs1 → W p l e room_1 s m #[Value.ref b] below meth c H1 locs1 cells slots Q (F0 m 1642 ls [])) : W p l e room_1 s m #[Value.ref b] below meth c H locs cells slots Q (F0 m 1461 ls []) := by
  obtain ⟨hx, hb, hr, hml, hown, hts, hXs, hbl, hlocks, hgv⟩ := id C0
  refine lv_aload_n hx hb (dc kd_law_47 0 rfl) rfl (lv_at hl 1 rfl) ?_
  refine ld_arg (pc := 1462) (k := 1) C0 hL (by omega) hW.2.2.2.2 hl (dc kd_law_47 1 rfl) (dc kd_law_47 2 rfl) (dc kd_law_47 3 rfl) (by decide) (dc kd_law_47 4 rfl) (dc kd_law_47 5 rfl) ?_
  refine ld_arg (pc := 1467) (k := 2) C0 hL (by omega) hW.2.2.2.2 hl (dc kd_law_47 6 rfl) (dc kd_law_47 7 rfl) (dc kd_law_47 8 rfl) (by decide) (dc kd_law_47 9 rfl) (dc kd_law_47 10 rfl) ?_
  refine law_pair (pc := 1472) (pc2 := 1486) (As := [.int (xs (i + 1)), .int (xs (i + 2))]) C0 mv_Law_208 mv_Law_211 rfl rfl (pr_link g) rfl (fun _ => rfl) C hX hM hW hl.1 (dc kd_law_47 11 rfl) (dc kd_law_47 23 rfl) hcl hsl (fun x H1 locs1 hS1 kk => ?_) (fun x n' S' t' Hs' mX' mM' H1 locs1 g' hX' hM' hW' => ?_)
  · refine lv_aload_n hx hb (dc kd_law_47 12 rfl) rfl (lv_at hl 2 rfl) ?_
    refine ld_arg (pc := 1476) (k := 1) C0 hL (by omega) hS1 hl (dc kd_law_47 13 rfl) (dc kd_law_47 14 rfl) (dc kd_law_47 15 rfl) (by decide) (dc kd_law_47 16 rfl) (dc kd_law_47 17 rfl) ?_
    refine ld_arg (pc := 1481) (k := 2) C0 hL (by omega) hS1 hl (dc kd_law_47 18 rfl) (dc kd_law_47 19 rfl) (dc kd_law_47 20 rfl) (by decide) (dc kd_law_47 21 rfl) (dc kd_law_47 22 rfl) ?_
    exact kk
  · refine lv_icmp_eq (tgt := 1642) hx hb (dc kd_law_47 24 rfl) (by decide) (fun _ => nx n' S' t' Hs' mX' mM' H1 locs1 g' hX' hM' hW') (fun z => absurd rfl z)
def k_law_48 : List (Nat × Instr × Nat) := [(1494, .aload_n 1, 1), (1495, .aload_n 0, 1), (1496, .iload_n 3, 1), (1497, .iconst 1, 1), (1498, .iadd, 1), (1499, .iaload, 1), (1500, .invokevirtual 212, 3), (1503, .aload_n 2, 1), (1504, .aload_n 0, 1), (1505, .iload_n 3, 1), (1506, .iconst 1, 1), (1507, .iadd, 1), (1508, .iaload, 1), (1509, .invokevirtual 215, 3), (1512, .if_icmp .eq 130, 3), (1515, .iconst 0, 1), (1516, .ireturn, 1)]
set_option maxRecDepth 100000 in
theorem kd_law_48 : ∀ q ∈ k_law_48, decode code q.1 = .ok q.2 := by decide +kernel
theorem cs_48 (C0 : lw_At p s m meth c b L xs) (hL : L ≤ 3072) (hi : i + 5 < L) (C : TwoC s adX adM cy D AX AM) (g : Good n S Hs) (hX : XI mX n S Hs t) (hM : MI mM n S Hs t) (hW : TwoW s adX adM cy D AX AM mX mM H locs) (hl : lv_has ls 4 [(0, .ref b), (1, .ref (adX 0)), (2, .ref (adM 0)), (3, .int (nI i))]) (hcl : cells ≤ room_1.cells) (hsl : slots ≤ room_1.slots) (nx : ∀ (n' : Nat) (S' t' : List Nat) (Hs' : List (List Nat)) (mX' mM' : Mem) (H1 : Heap) (locs1 : List Loc), Good n' S' Hs' → XI mX' n' S' Hs' t' → MI mM' n' S' Hs' t' → TwoW s adX adM cy D AX AM mX' mM' H1 locs1 → W p l e room_1 s m #[Value.ref b] below meth c H1 locs1 cells slots Q (F0 m 1642 ls [])) : W p l e room_1 s m #[Value.ref b] below meth c H locs cells slots Q (F0 m 1494 ls []) := by
  obtain ⟨hx, hb, hr, hml, hown, hts, hXs, hbl, hlocks, hgv⟩ := id C0
  refine lv_aload_n hx hb (dc kd_law_48 0 rfl) rfl (lv_at hl 1 rfl) ?_
  refine ld_arg (pc := 1495) (k := 1) C0 hL (by omega) hW.2.2.2.2 hl (dc kd_law_48 1 rfl) (dc kd_law_48 2 rfl) (dc kd_law_48 3 rfl) (by decide) (dc kd_law_48 4 rfl) (dc kd_law_48 5 rfl) ?_
  refine law_pair (pc := 1500) (pc2 := 1509) (As := [.int (xs (i + 1))]) C0 mv_Law_212 mv_Law_215 rfl rfl (pr_withSet g) rfl (fun _ => rfl) C hX hM hW hl.1 (dc kd_law_48 6 rfl) (dc kd_law_48 13 rfl) hcl hsl (fun x H1 locs1 hS1 kk => ?_) (fun x n' S' t' Hs' mX' mM' H1 locs1 g' hX' hM' hW' => ?_)
  · refine lv_aload_n hx hb (dc kd_law_48 7 rfl) rfl (lv_at hl 2 rfl) ?_
    refine ld_arg (pc := 1504) (k := 1) C0 hL (by omega) hS1 hl (dc kd_law_48 8 rfl) (dc kd_law_48 9 rfl) (dc kd_law_48 10 rfl) (by decide) (dc kd_law_48 11 rfl) (dc kd_law_48 12 rfl) ?_
    exact kk
  · refine lv_icmp_eq (tgt := 1642) hx hb (dc kd_law_48 14 rfl) (by decide) (fun _ => nx n' S' t' Hs' mX' mM' H1 locs1 g' hX' hM' hW') (fun z => absurd rfl z)
def k_law_49 : List (Nat × Instr × Nat) := [(1517, .aload_n 1, 1), (1518, .aload_n 0, 1), (1519, .iload_n 3, 1), (1520, .iconst 1, 1), (1521, .iadd, 1), (1522, .iaload, 1), (1523, .invokevirtual 216, 3), (1526, .aload_n 2, 1), (1527, .aload_n 0, 1), (1528, .iload_n 3, 1), (1529, .iconst 1, 1), (1530, .iadd, 1), (1531, .iaload, 1), (1532, .invokevirtual 219, 3), (1535, .if_icmp .eq 107, 3), (1538, .iconst 0, 1), (1539, .ireturn, 1)]
set_option maxRecDepth 100000 in
theorem kd_law_49 : ∀ q ∈ k_law_49, decode code q.1 = .ok q.2 := by decide +kernel
theorem cs_49 (C0 : lw_At p s m meth c b L xs) (hL : L ≤ 3072) (hi : i + 5 < L) (C : TwoC s adX adM cy D AX AM) (g : Good n S Hs) (hX : XI mX n S Hs t) (hM : MI mM n S Hs t) (hW : TwoW s adX adM cy D AX AM mX mM H locs) (hl : lv_has ls 4 [(0, .ref b), (1, .ref (adX 0)), (2, .ref (adM 0)), (3, .int (nI i))]) (hcl : cells ≤ room_1.cells) (hsl : slots ≤ room_1.slots) (nx : ∀ (n' : Nat) (S' t' : List Nat) (Hs' : List (List Nat)) (mX' mM' : Mem) (H1 : Heap) (locs1 : List Loc), Good n' S' Hs' → XI mX' n' S' Hs' t' → MI mM' n' S' Hs' t' → TwoW s adX adM cy D AX AM mX' mM' H1 locs1 → W p l e room_1 s m #[Value.ref b] below meth c H1 locs1 cells slots Q (F0 m 1642 ls [])) : W p l e room_1 s m #[Value.ref b] below meth c H locs cells slots Q (F0 m 1517 ls []) := by
  obtain ⟨hx, hb, hr, hml, hown, hts, hXs, hbl, hlocks, hgv⟩ := id C0
  refine lv_aload_n hx hb (dc kd_law_49 0 rfl) rfl (lv_at hl 1 rfl) ?_
  refine ld_arg (pc := 1518) (k := 1) C0 hL (by omega) hW.2.2.2.2 hl (dc kd_law_49 1 rfl) (dc kd_law_49 2 rfl) (dc kd_law_49 3 rfl) (by decide) (dc kd_law_49 4 rfl) (dc kd_law_49 5 rfl) ?_
  refine law_pair (pc := 1523) (pc2 := 1532) (As := [.int (xs (i + 1))]) C0 mv_Law_216 mv_Law_219 rfl rfl (pr_withoutSet g) rfl (fun _ => rfl) C hX hM hW hl.1 (dc kd_law_49 6 rfl) (dc kd_law_49 13 rfl) hcl hsl (fun x H1 locs1 hS1 kk => ?_) (fun x n' S' t' Hs' mX' mM' H1 locs1 g' hX' hM' hW' => ?_)
  · refine lv_aload_n hx hb (dc kd_law_49 7 rfl) rfl (lv_at hl 2 rfl) ?_
    refine ld_arg (pc := 1527) (k := 1) C0 hL (by omega) hS1 hl (dc kd_law_49 8 rfl) (dc kd_law_49 9 rfl) (dc kd_law_49 10 rfl) (by decide) (dc kd_law_49 11 rfl) (dc kd_law_49 12 rfl) ?_
    exact kk
  · refine lv_icmp_eq (tgt := 1642) hx hb (dc kd_law_49 14 rfl) (by decide) (fun _ => nx n' S' t' Hs' mX' mM' H1 locs1 g' hX' hM' hW') (fun z => absurd rfl z)
def k_law_50 : List (Nat × Instr × Nat) := [(1540, .aload_n 1, 1), (1541, .aload_n 0, 1), (1542, .iload_n 3, 1), (1543, .iconst 1, 1), (1544, .iadd, 1), (1545, .iaload, 1), (1546, .invokevirtual 220, 3), (1549, .aload_n 2, 1), (1550, .aload_n 0, 1), (1551, .iload_n 3, 1), (1552, .iconst 1, 1), (1553, .iadd, 1), (1554, .iaload, 1), (1555, .invokevirtual 223, 3), (1558, .if_icmp .eq 84, 3), (1561, .iconst 0, 1), (1562, .ireturn, 1)]
set_option maxRecDepth 100000 in
theorem kd_law_50 : ∀ q ∈ k_law_50, decode code q.1 = .ok q.2 := by decide +kernel
theorem cs_50 (C0 : lw_At p s m meth c b L xs) (hL : L ≤ 3072) (hi : i + 5 < L) (C : TwoC s adX adM cy D AX AM) (g : Good n S Hs) (hX : XI mX n S Hs t) (hM : MI mM n S Hs t) (hW : TwoW s adX adM cy D AX AM mX mM H locs) (hl : lv_has ls 4 [(0, .ref b), (1, .ref (adX 0)), (2, .ref (adM 0)), (3, .int (nI i))]) (hcl : cells ≤ room_1.cells) (hsl : slots ≤ room_1.slots) (nx : ∀ (n' : Nat) (S' t' : List Nat) (Hs' : List (List Nat)) (mX' mM' : Mem) (H1 : Heap) (locs1 : List Loc), Good n' S' Hs' → XI mX' n' S' Hs' t' → MI mM' n' S' Hs' t' → TwoW s adX adM cy D AX AM mX' mM' H1 locs1 → W p l e room_1 s m #[Value.ref b] below meth c H1 locs1 cells slots Q (F0 m 1642 ls [])) : W p l e room_1 s m #[Value.ref b] below meth c H locs cells slots Q (F0 m 1540 ls []) := by
  obtain ⟨hx, hb, hr, hml, hown, hts, hXs, hbl, hlocks, hgv⟩ := id C0
  refine lv_aload_n hx hb (dc kd_law_50 0 rfl) rfl (lv_at hl 1 rfl) ?_
  refine ld_arg (pc := 1541) (k := 1) C0 hL (by omega) hW.2.2.2.2 hl (dc kd_law_50 1 rfl) (dc kd_law_50 2 rfl) (dc kd_law_50 3 rfl) (by decide) (dc kd_law_50 4 rfl) (dc kd_law_50 5 rfl) ?_
  refine law_pair (pc := 1546) (pc2 := 1555) (As := [.int (xs (i + 1))]) C0 mv_Law_220 mv_Law_223 rfl rfl (pr_freeNext g) rfl (fun _ => rfl) C hX hM hW hl.1 (dc kd_law_50 6 rfl) (dc kd_law_50 13 rfl) hcl hsl (fun x H1 locs1 hS1 kk => ?_) (fun x n' S' t' Hs' mX' mM' H1 locs1 g' hX' hM' hW' => ?_)
  · refine lv_aload_n hx hb (dc kd_law_50 7 rfl) rfl (lv_at hl 2 rfl) ?_
    refine ld_arg (pc := 1550) (k := 1) C0 hL (by omega) hS1 hl (dc kd_law_50 8 rfl) (dc kd_law_50 9 rfl) (dc kd_law_50 10 rfl) (by decide) (dc kd_law_50 11 rfl) (dc kd_law_50 12 rfl) ?_
    exact kk
  · refine lv_icmp_eq (tgt := 1642) hx hb (dc kd_law_50 14 rfl) (by decide) (fun _ => nx n' S' t' Hs' mX' mM' H1 locs1 g' hX' hM' hW') (fun z => absurd rfl z)
def k_law_51 : List (Nat × Instr × Nat) := [(1563, .aload_n 1, 1), (1564, .aload_n 0, 1), (1565, .iload_n 3, 1), (1566, .iconst 1, 1), (1567, .iadd, 1), (1568, .iaload, 1), (1569, .invokevirtual 224, 3), (1572, .aload_n 2, 1), (1573, .aload_n 0, 1), (1574, .iload_n 3, 1), (1575, .iconst 1, 1), (1576, .iadd, 1), (1577, .iaload, 1), (1578, .invokevirtual 227, 3), (1581, .if_icmp .eq 61, 3), (1584, .iconst 0, 1), (1585, .ireturn, 1)]
set_option maxRecDepth 100000 in
theorem kd_law_51 : ∀ q ∈ k_law_51, decode code q.1 = .ok q.2 := by decide +kernel
theorem cs_51 (C0 : lw_At p s m meth c b L xs) (hL : L ≤ 3072) (hi : i + 5 < L) (C : TwoC s adX adM cy D AX AM) (g : Good n S Hs) (hX : XI mX n S Hs t) (hM : MI mM n S Hs t) (hW : TwoW s adX adM cy D AX AM mX mM H locs) (hl : lv_has ls 4 [(0, .ref b), (1, .ref (adX 0)), (2, .ref (adM 0)), (3, .int (nI i))]) (hcl : cells ≤ room_1.cells) (hsl : slots ≤ room_1.slots) (nx : ∀ (n' : Nat) (S' t' : List Nat) (Hs' : List (List Nat)) (mX' mM' : Mem) (H1 : Heap) (locs1 : List Loc), Good n' S' Hs' → XI mX' n' S' Hs' t' → MI mM' n' S' Hs' t' → TwoW s adX adM cy D AX AM mX' mM' H1 locs1 → W p l e room_1 s m #[Value.ref b] below meth c H1 locs1 cells slots Q (F0 m 1642 ls [])) : W p l e room_1 s m #[Value.ref b] below meth c H locs cells slots Q (F0 m 1563 ls []) := by
  obtain ⟨hx, hb, hr, hml, hown, hts, hXs, hbl, hlocks, hgv⟩ := id C0
  refine lv_aload_n hx hb (dc kd_law_51 0 rfl) rfl (lv_at hl 1 rfl) ?_
  refine ld_arg (pc := 1564) (k := 1) C0 hL (by omega) hW.2.2.2.2 hl (dc kd_law_51 1 rfl) (dc kd_law_51 2 rfl) (dc kd_law_51 3 rfl) (by decide) (dc kd_law_51 4 rfl) (dc kd_law_51 5 rfl) ?_
  refine law_pair (pc := 1569) (pc2 := 1578) (As := [.int (xs (i + 1))]) C0 mv_Law_224 mv_Law_227 rfl rfl (pr_spell g) rfl (fun _ => rfl) C hX hM hW hl.1 (dc kd_law_51 6 rfl) (dc kd_law_51 13 rfl) hcl hsl (fun x H1 locs1 hS1 kk => ?_) (fun x n' S' t' Hs' mX' mM' H1 locs1 g' hX' hM' hW' => ?_)
  · refine lv_aload_n hx hb (dc kd_law_51 7 rfl) rfl (lv_at hl 2 rfl) ?_
    refine ld_arg (pc := 1573) (k := 1) C0 hL (by omega) hS1 hl (dc kd_law_51 8 rfl) (dc kd_law_51 9 rfl) (dc kd_law_51 10 rfl) (by decide) (dc kd_law_51 11 rfl) (dc kd_law_51 12 rfl) ?_
    exact kk
  · refine lv_icmp_eq (tgt := 1642) hx hb (dc kd_law_51 14 rfl) (by decide) (fun _ => nx n' S' t' Hs' mX' mM' H1 locs1 g' hX' hM' hW') (fun z => absurd rfl z)
def k_law_52 : List (Nat × Instr × Nat) := [(1586, .aload_n 1, 1), (1587, .aload_n 0, 1), (1588, .iload_n 3, 1), (1589, .iconst 1, 1), (1590, .iadd, 1), (1591, .iaload, 1), (1592, .aload_n 0, 1), (1593, .iload_n 3, 1), (1594, .iconst 2, 1), (1595, .iadd, 1), (1596, .iaload, 1), (1597, .invokevirtual 228, 3), (1600, .aload_n 2, 1), (1601, .aload_n 0, 1), (1602, .iload_n 3, 1), (1603, .iconst 1, 1), (1604, .iadd, 1), (1605, .iaload, 1), (1606, .aload_n 0, 1), (1607, .iload_n 3, 1), (1608, .iconst 2, 1), (1609, .iadd, 1), (1610, .iaload, 1), (1611, .invokevirtual 231, 3), (1614, .if_icmp .eq 28, 3), (1617, .iconst 0, 1), (1618, .ireturn, 1)]
set_option maxRecDepth 100000 in
theorem kd_law_52 : ∀ q ∈ k_law_52, decode code q.1 = .ok q.2 := by decide +kernel
theorem cs_52 (C0 : lw_At p s m meth c b L xs) (hL : L ≤ 3072) (hi : i + 5 < L) (C : TwoC s adX adM cy D AX AM) (g : Good n S Hs) (hX : XI mX n S Hs t) (hM : MI mM n S Hs t) (hW : TwoW s adX adM cy D AX AM mX mM H locs) (hl : lv_has ls 4 [(0, .ref b), (1, .ref (adX 0)), (2, .ref (adM 0)), (3, .int (nI i))]) (hcl : cells ≤ room_1.cells) (hsl : slots ≤ room_1.slots) (nx : ∀ (n' : Nat) (S' t' : List Nat) (Hs' : List (List Nat)) (mX' mM' : Mem) (H1 : Heap) (locs1 : List Loc), Good n' S' Hs' → XI mX' n' S' Hs' t' → MI mM' n' S' Hs' t' → TwoW s adX adM cy D AX AM mX' mM' H1 locs1 → W p l e room_1 s m #[Value.ref b] below meth c H1 locs1 cells slots Q (F0 m 1642 ls [])) : W p l e room_1 s m #[Value.ref b] below meth c H locs cells slots Q (F0 m 1586 ls []) := by
  obtain ⟨hx, hb, hr, hml, hown, hts, hXs, hbl, hlocks, hgv⟩ := id C0
  refine lv_aload_n hx hb (dc kd_law_52 0 rfl) rfl (lv_at hl 1 rfl) ?_
  refine ld_arg (pc := 1587) (k := 1) C0 hL (by omega) hW.2.2.2.2 hl (dc kd_law_52 1 rfl) (dc kd_law_52 2 rfl) (dc kd_law_52 3 rfl) (by decide) (dc kd_law_52 4 rfl) (dc kd_law_52 5 rfl) ?_
  refine ld_arg (pc := 1592) (k := 2) C0 hL (by omega) hW.2.2.2.2 hl (dc kd_law_52 6 rfl) (dc kd_law_52 7 rfl) (dc kd_law_52 8 rfl) (by decide) (dc kd_law_52 9 rfl) (dc kd_law_52 10 rfl) ?_
  refine law_pair (pc := 1597) (pc2 := 1611) (As := [.int (xs (i + 1)), .int (xs (i + 2))]) C0 mv_Law_228 mv_Law_231 rfl rfl (pr_report g) rfl (fun _ => rfl) C hX hM hW hl.1 (dc kd_law_52 11 rfl) (dc kd_law_52 23 rfl) hcl hsl (fun x H1 locs1 hS1 kk => ?_) (fun x n' S' t' Hs' mX' mM' H1 locs1 g' hX' hM' hW' => ?_)
  · refine lv_aload_n hx hb (dc kd_law_52 12 rfl) rfl (lv_at hl 2 rfl) ?_
    refine ld_arg (pc := 1601) (k := 1) C0 hL (by omega) hS1 hl (dc kd_law_52 13 rfl) (dc kd_law_52 14 rfl) (dc kd_law_52 15 rfl) (by decide) (dc kd_law_52 16 rfl) (dc kd_law_52 17 rfl) ?_
    refine ld_arg (pc := 1606) (k := 2) C0 hL (by omega) hS1 hl (dc kd_law_52 18 rfl) (dc kd_law_52 19 rfl) (dc kd_law_52 20 rfl) (by decide) (dc kd_law_52 21 rfl) (dc kd_law_52 22 rfl) ?_
    exact kk
  · refine lv_icmp_eq (tgt := 1642) hx hb (dc kd_law_52 24 rfl) (by decide) (fun _ => nx n' S' t' Hs' mX' mM' H1 locs1 g' hX' hM' hW') (fun z => absurd rfl z)
def k_law_53 : List (Nat × Instr × Nat) := [(1619, .aload_n 1, 1), (1620, .aload_n 0, 1), (1621, .iload_n 3, 1), (1622, .iconst 1, 1), (1623, .iadd, 1), (1624, .iaload, 1), (1625, .invokevirtual 232, 3), (1628, .aload_n 2, 1), (1629, .aload_n 0, 1), (1630, .iload_n 3, 1), (1631, .iconst 1, 1), (1632, .iadd, 1), (1633, .iaload, 1), (1634, .invokevirtual 235, 3), (1637, .if_icmp .eq 5, 3), (1640, .iconst 0, 1), (1641, .ireturn, 1)]
set_option maxRecDepth 100000 in
theorem kd_law_53 : ∀ q ∈ k_law_53, decode code q.1 = .ok q.2 := by decide +kernel
theorem cs_53 (C0 : lw_At p s m meth c b L xs) (hL : L ≤ 3072) (hi : i + 5 < L) (C : TwoC s adX adM cy D AX AM) (g : Good n S Hs) (hX : XI mX n S Hs t) (hM : MI mM n S Hs t) (hW : TwoW s adX adM cy D AX AM mX mM H locs) (hl : lv_has ls 4 [(0, .ref b), (1, .ref (adX 0)), (2, .ref (adM 0)), (3, .int (nI i))]) (hcl : cells ≤ room_1.cells) (hsl : slots ≤ room_1.slots) (nx : ∀ (n' : Nat) (S' t' : List Nat) (Hs' : List (List Nat)) (mX' mM' : Mem) (H1 : Heap) (locs1 : List Loc), Good n' S' Hs' → XI mX' n' S' Hs' t' → MI mM' n' S' Hs' t' → TwoW s adX adM cy D AX AM mX' mM' H1 locs1 → W p l e room_1 s m #[Value.ref b] below meth c H1 locs1 cells slots Q (F0 m 1642 ls [])) : W p l e room_1 s m #[Value.ref b] below meth c H locs cells slots Q (F0 m 1619 ls []) := by
  obtain ⟨hx, hb, hr, hml, hown, hts, hXs, hbl, hlocks, hgv⟩ := id C0
  refine lv_aload_n hx hb (dc kd_law_53 0 rfl) rfl (lv_at hl 1 rfl) ?_
  refine ld_arg (pc := 1620) (k := 1) C0 hL (by omega) hW.2.2.2.2 hl (dc kd_law_53 1 rfl) (dc kd_law_53 2 rfl) (dc kd_law_53 3 rfl) (by decide) (dc kd_law_53 4 rfl) (dc kd_law_53 5 rfl) ?_
  refine law_pair (pc := 1625) (pc2 := 1634) (As := [.int (xs (i + 1))]) C0 mv_Law_232 mv_Law_235 rfl rfl (pr_count g) rfl (fun _ => rfl) C hX hM hW hl.1 (dc kd_law_53 6 rfl) (dc kd_law_53 13 rfl) hcl hsl (fun x H1 locs1 hS1 kk => ?_) (fun x n' S' t' Hs' mX' mM' H1 locs1 g' hX' hM' hW' => ?_)
  · refine lv_aload_n hx hb (dc kd_law_53 7 rfl) rfl (lv_at hl 2 rfl) ?_
    refine ld_arg (pc := 1629) (k := 1) C0 hL (by omega) hS1 hl (dc kd_law_53 8 rfl) (dc kd_law_53 9 rfl) (dc kd_law_53 10 rfl) (by decide) (dc kd_law_53 11 rfl) (dc kd_law_53 12 rfl) ?_
    exact kk
  · refine lv_icmp_eq (tgt := 1642) hx hb (dc kd_law_53 14 rfl) (by decide) (fun _ => nx n' S' t' Hs' mX' mM' H1 locs1 g' hX' hM' hW') (fun z => absurd rfl z)
end LCS
