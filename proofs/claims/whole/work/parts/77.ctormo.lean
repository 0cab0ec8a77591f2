/-! the reference is made -/
def k_Mo_init : List (Nat × Instr × Nat) := [(0, .aload_n 0, 1), (1, .invokespecial 7, 3), (4, .aload_n 0, 1), (5, .bipush 18, 2), (7, .newarray .int, 2), (9, .putfield 13, 3), (12, .aload_n 0, 1), (13, .bipush 18, 2), (15, .newarray .int, 2), (17, .putfield 17, 3), (20, .aload_n 0, 1), (21, .sipush 216, 3), (24, .newarray .int, 2), (26, .putfield 20, 3), (29, .aload_n 0, 1), (30, .bipush 16, 2), (32, .newarray .int, 2), (34, .putfield 23, 3), (37, .aload_n 0, 1), (38, .bipush 17, 2), (40, .newarray .int, 2), (42, .putfield 26, 3), (45, .aload_n 0, 1), (46, .sipush 1024, 3), (49, .newarray .boolean, 2), (51, .putfield 29, 3), (54, .aload_n 0, 1), (55, .ldc 33, 2), (57, .newarray .boolean, 2), (59, .putfield 34, 3), (62, .aload_n 0, 1), (63, .bipush 16, 2), (65, .newarray .int, 2), (67, .putfield 37, 3), (70, .aload_n 0, 1), (71, .bipush 32, 2), (73, .newarray .int, 2), (75, .putfield 40, 3), (78, .aload_n 0, 1), (79, .bipush 32, 2), (81, .newarray .int, 2), (83, .putfield 43, 3), (86, .aload_n 0, 1), (87, .bipush 32, 2), (89, .newarray .int, 2), (91, .putfield 46, 3), (94, .aload_n 0, 1), (95, .bipush 32, 2), (97, .newarray .int, 2), (99, .putfield 49, 3), (102, .aload_n 0, 1), (103, .sipush 12870, 3), (106, .newarray .int, 2), (108, .putfield 52, 3), (111, .aload_n 0, 1), (112, .sipush 12870, 3), (115, .newarray .int, 2), (117, .putfield 55, 3), (120, .aload_n 0, 1), (121, .sipush 1600, 3), (124, .newarray .int, 2), (126, .putfield 58, 3), (129, .aload_n 0, 1), (130, .sipush 400, 3), (133, .newarray .int, 2), (135, .putfield 61, 3), (138, .aload_n 0, 1), (139, .bipush 40, 2), (141, .newarray .byte, 2), (143, .dup, 1), (144, .iconst 0, 1), (145, .bipush 112, 2), (147, .bastore, 1), (148, .dup, 1), (149, .iconst 1, 1), (150, .bipush 111, 2), (152, .bastore, 1), (153, .dup, 1), (154, .iconst 2, 1), (155, .bipush 105, 2), (157, .bastore, 1), (158, .dup, 1), (159, .iconst 3, 1), (160, .bipush 110, 2), (162, .bastore, 1), (163, .dup, 1), (164, .iconst 4, 1), (165, .bipush 116, 2), (167, .bastore, 1), (168, .dup, 1), (169, .iconst 5, 1), (170, .bipush 115, 2), (172, .bastore, 1), (173, .dup, 1), (174, .bipush 6, 2), (176, .iconst 0, 1), (177, .bastore, 1), (178, .dup, 1), (179, .bipush 7, 2), (181, .bipush 115, 2), (183, .bastore, 1), (184, .dup, 1), (185, .bipush 8, 2), (187, .bipush 101, 2), (189, .bastore, 1), (190, .dup, 1), (191, .bipush 9, 2), (193, .bipush 116, 2), (195, .bastore, 1), (196, .dup, 1), (197, .bipush 10, 2), (199, .iconst 0, 1), (200, .bastore, 1), (201, .dup, 1), (202, .bipush 11, 2), (204, .bipush 119, 2), (206, .bastore, 1), (207, .dup, 1), (208, .bipush 12, 2), (210, .bipush 105, 2), (212, .bastore, 1), (213, .dup, 1), (214, .bipush 13, 2), (216, .bipush 116, 2), (218, .bastore, 1), (219, .dup, 1), (220, .bipush 14, 2), (222, .bipush 104, 2), (224, .bastore, 1), (225, .dup, 1), (226, .bipush 15, 2), (228, .bipush 105, 2), (230, .bastore, 1), (231, .dup, 1), (232, .bipush 16, 2), (234, .bipush 110, 2), (236, .bastore, 1), (237, .dup, 1), (238, .bipush 17, 2), (240, .iconst 0, 1), (241, .bastore, 1), (242, .dup, 1), (243, .bipush 18, 2), (245, .bipush 102, 2), (247, .bastore, 1), (248, .dup, 1), (249, .bipush 19, 2), (251, .bipush 108, 2), (253, .bastore, 1), (254, .dup, 1), (255, .bipush 20, 2), (257, .bipush 111, 2), (259, .bastore, 1), (260, .dup, 1), (261, .bipush 21, 2), (263, .bipush 119, 2), (265, .bastore, 1), (266, .dup, 1), (267, .bipush 22, 2), (269, .bipush 101, 2), (271, .bastore, 1), (272, .dup, 1), (273, .bipush 23, 2), (275, .bipush 114, 2), (277, .bastore, 1), (278, .dup, 1), (279, .bipush 24, 2), (281, .iconst 0, 1), (282, .bastore, 1), (283, .dup, 1), (284, .bipush 25, 2), (286, .bipush 99, 2), (288, .bastore, 1), (289, .dup, 1), (290, .bipush 26, 2), (292, .bipush 111, 2), (294, .bastore, 1), (295, .dup, 1), (296, .bipush 27, 2), (298, .bipush 114, 2), (300, .bastore, 1), (301, .dup, 1), (302, .bipush 28, 2), (304, .bipush 101, 2), (306, .bastore, 1), (307, .dup, 1), (308, .bipush 29, 2), (310, .iconst 0, 1), (311, .bastore, 1), (312, .dup, 1), (313, .bipush 30, 2), (315, .bipush 108, 2), (317, .bastore, 1), (318, .dup, 1), (319, .bipush 31, 2), (321, .bipush 111, 2), (323, .bastore, 1), (324, .dup, 1), (325, .bipush 32, 2), (327, .bipush 115, 2), (329, .bastore, 1), (330, .dup, 1), (331, .bipush 33, 2), (333, .bipush 116, 2), (335, .bastore, 1), (336, .dup, 1), (337, .bipush 34, 2), (339, .iconst 0, 1), (340, .bastore, 1), (341, .dup, 1), (342, .bipush 35, 2), (344, .bipush 108, 2), (346, .bastore, 1), (347, .dup, 1), (348, .bipush 36, 2), (350, .bipush 101, 2), (352, .bastore, 1), (353, .dup, 1), (354, .bipush 37, 2), (356, .bipush 102, 2), (358, .bastore, 1), (359, .dup, 1), (360, .bipush 38, 2), (362, .bipush 116, 2), (364, .bastore, 1), (365, .dup, 1), (366, .bipush 39, 2), (368, .iconst 0, 1), (369, .bastore, 1), (370, .putfield 64, 3), (373, .aload_n 0, 1), (374, .getfield 13, 3), (377, .invokestatic 68, 3), (380, .return_, 1)]
set_option maxRecDepth 100000 in
theorem kd_Mo_init : ∀ q ∈ k_Mo_init, decode prog_13_method_2_code q.1 = .ok q.2 := by decide +kernel
theorem tok_Mo : ∀ k, k < 33 → parseFieldDescriptor (T_Mo k).2.2.1 = some (ty_Mo k) := by decide +kernel
def MOC (p : Program) (s : State) (m : MethodId) (meth : Method) (c : Code) (A : Nat → Prop) (args : Array Value) (ls : Array Slot) (D : va_G) (cy : Nat → ClassId) (h0 : Nat) : Prop := p.tables.exec = Jvm.exec ∧ c.code = m_Mo_init.2.1 ∧ c.maxLocals = m_Mo_init.2.2.1 ∧ s.vm.findClass R_Mo = some m.cls ∧ (∀ w ∈ lw_gd, w.before args s = true) ∧ meth.name = "<init>" ∧ KN D cy s ∧ (∀ q : Nat, s.heap.size ≤ q → A q) ∧ lv_has ls 1 [(0, .ref h0)]
def wF : Nat → Nat → Int32
  | 0 => fun _ => 0
  | i + 1 => upd (wF i) i (nI (wtb.getD i 0))
theorem wF_ok : ∀ k, k < 40 → wF 40 k = nI (wtb.getD k 0) := by decide +kernel
section MOS
variable {p : Program} {l : Launch} {e : Env} {s : State} {m : MethodId} {args : Array Value} {below : List Frame} {meth : Method} {c : Code} {H : Heap} {locs : List Loc} {Q : State → Prop} {ls : Array Slot} {A : Nat → Prop} {D : va_G} {cy : Nat → ClassId} {h0 : Nat} {Rk X : va_W} {fs : List Value}
theorem nw_bast {R : Room} {H0 : Heap} {cells slots pc q j : Nat} {i x : Int32} {rest : List Value} (hexec : p.tables.exec = Jvm.exec) (hb : c.code = m_Mo_init.2.1) (hK : va_K D vwCl (tysD cy) s) (hP : va_P D vwCl (X ++ [(q, .inl (cy 1, 40, .inl (wF j)))]) H) (hD : va_D A (X ++ [(q, .inl (cy 1, 40, .inl (wF j)))])) (hS : va_S A H0 H locs) (hj : j < 40) (hi : i.toNatClampNeg = j) (hi0 : ¬ i < 0) (hx : vp_nar .byte x = nI (wtb.getD j 0)) (hdg : decode m_Mo_init.2.1 pc = .ok (.bastore, 1)) (kk : ∀ (H1 : Heap) (locs1 : List Loc), va_P D vwCl (X ++ [(q, .inl (cy 1, 40, .inl (wF (j + 1))))]) H1 → va_D A (X ++ [(q, .inl (cy 1, 40, .inl (wF (j + 1))))]) → va_S A H0 H1 locs1 → W p l e R s m args below meth c H1 locs1 cells slots Q (F0 m (pc + 1) ls rest)) : W p l e R s m args below meth c H locs cells slots Q (F0 m pc ls (.int x :: .int i :: .ref q :: rest)) := by
  refine va_bast (cA := cy 1) (n := 40) (f := wF j) hexec hb hK hP hD hS X.length 1 (by simp) rfl (fun z => z.elim hi0 (fun z => by omega)) hdg (fun H1 locs1 hP hD hS => ?_)
  have e : ∀ y z : Nat × va_E, (X ++ [z]).set X.length y = X ++ [y] := fun y z => by simp
  rw [e, hi, hx] at hP hD
  exact kk H1 locs1 hP hD hS
set_option maxRecDepth 100000 in
theorem mo_0 (C : MOC p s m meth c A args ls D cy h0) (hfs : fs.length = 33) (hP : va_P D vwCl ((h0, .inr (10, fs)) :: Rk) H) (hD : va_D A ((h0, .inr (10, fs)) :: Rk)) (hS : va_S A s.heap H locs) (kk : ∀ (q : Nat) (H : Heap) (locs : List Loc), va_P D vwCl ((h0, .inr (10, fs.set 1 (.ref q))) :: (Rk ++ [(q, .inl (cy 0, 18, .inl (fun _ => 0)))])) H → va_D A ((h0, .inr (10, fs.set 1 (.ref q))) :: (Rk ++ [(q, .inl (cy 0, 18, .inl (fun _ => 0)))])) → va_S A s.heap H locs → W p l e ({ frames := 2, cells := 17, slots := 94769, locals := 200 } : Room) s m args below meth c H locs 1 18 Q (F0 m 12 ls [])) : W p l e ({ frames := 2, cells := 17, slots := 94769, locals := 200 } : Room) s m args below meth c H locs 0 0 Q (F0 m 4 ls []) := by
  obtain ⟨hx, hb, hml, hown, hts, hin, hKN, hA, hl⟩ := C
  refine lv_aload_n hx hb (dc kd_Mo_init 2 rfl) rfl (lv_at hl 0 rfl) ?_
  refine lv_bipush (v := 18) hx hb (dc kd_Mo_init 3 rfl) (by decide) ?_
  refine nw_arr (atype := .int) (t := 0) (N := 18) hx hb (hts _ (gd (List.mem_of_getElem? (i := 124) (by decide +kernel)) rfl)) rfl rfl (fun _ => rfl) hKN.1 hP hD hS hA (by decide) (by decide +kernel) (Nat.le_of_ble_eq_true rfl) (Nat.le_of_ble_eq_true rfl) (Nat.le_of_ble_eq_true rfl) (dc kd_Mo_init 4 rfl) (fun q H hP hD hS => ?_)
  refine va_putF (D := D) (ci := 10) (v := .ref q) (ty := .array .int) (own := R_Mo) (C := R_Mo) (T := T_Mo) (N := 33) hx hb hts ck_Mo.good ty_Mo tok_Mo ck_Mo.2.2 hown hKN.1 hP hD hS 0 rfl rfl 1 (by decide) (hts _ (gd (List.mem_of_getElem? (i := 999) (by decide +kernel)) rfl)) (fun _ h9 => h9) rfl hin rfl (by decide +kernel) rfl rfl (by rw [hfs]; decide) (dc kd_Mo_init 5 rfl) (fun H locs hP hD hS => ?_)
  exact kk q H locs hP hD hS
set_option maxRecDepth 100000 in
theorem mo_1 (C : MOC p s m meth c A args ls D cy h0) (hfs : fs.length = 33) (hP : va_P D vwCl ((h0, .inr (10, fs)) :: Rk) H) (hD : va_D A ((h0, .inr (10, fs)) :: Rk)) (hS : va_S A s.heap H locs) (kk : ∀ (q : Nat) (H : Heap) (locs : List Loc), va_P D vwCl ((h0, .inr (10, fs.set 2 (.ref q))) :: (Rk ++ [(q, .inl (cy 0, 18, .inl (fun _ => 0)))])) H → va_D A ((h0, .inr (10, fs.set 2 (.ref q))) :: (Rk ++ [(q, .inl (cy 0, 18, .inl (fun _ => 0)))])) → va_S A s.heap H locs → W p l e ({ frames := 2, cells := 17, slots := 94769, locals := 200 } : Room) s m args below meth c H locs 2 36 Q (F0 m 20 ls [])) : W p l e ({ frames := 2, cells := 17, slots := 94769, locals := 200 } : Room) s m args below meth c H locs 1 18 Q (F0 m 12 ls []) := by
  obtain ⟨hx, hb, hml, hown, hts, hin, hKN, hA, hl⟩ := C
  refine lv_aload_n hx hb (dc kd_Mo_init 6 rfl) rfl (lv_at hl 0 rfl) ?_
  refine lv_bipush (v := 18) hx hb (dc kd_Mo_init 7 rfl) (by decide) ?_
  refine nw_arr (atype := .int) (t := 0) (N := 18) hx hb (hts _ (gd (List.mem_of_getElem? (i := 124) (by decide +kernel)) rfl)) rfl rfl (fun _ => rfl) hKN.1 hP hD hS hA (by decide) (by decide +kernel) (Nat.le_of_ble_eq_true rfl) (Nat.le_of_ble_eq_true rfl) (Nat.le_of_ble_eq_true rfl) (dc kd_Mo_init 8 rfl) (fun q H hP hD hS => ?_)
  refine va_putF (D := D) (ci := 10) (v := .ref q) (ty := .array .int) (own := R_Mo) (C := R_Mo) (T := T_Mo) (N := 33) hx hb hts ck_Mo.good ty_Mo tok_Mo ck_Mo.2.2 hown hKN.1 hP hD hS 0 rfl rfl 2 (by decide) (hts _ (gd (List.mem_of_getElem? (i := 1000) (by decide +kernel)) rfl)) (fun _ h9 => h9) rfl hin rfl (by decide +kernel) rfl rfl (by rw [hfs]; decide) (dc kd_Mo_init 9 rfl) (fun H locs hP hD hS => ?_)
  exact kk q H locs hP hD hS
set_option maxRecDepth 100000 in
theorem mo_2 (C : MOC p s m meth c A args ls D cy h0) (hfs : fs.length = 33) (hP : va_P D vwCl ((h0, .inr (10, fs)) :: Rk) H) (hD : va_D A ((h0, .inr (10, fs)) :: Rk)) (hS : va_S A s.heap H locs) (kk : ∀ (q : Nat) (H : Heap) (locs : List Loc), va_P D vwCl ((h0, .inr (10, fs.set 3 (.ref q))) :: (Rk ++ [(q, .inl (cy 0, 216, .inl (fun _ => 0)))])) H → va_D A ((h0, .inr (10, fs.set 3 (.ref q))) :: (Rk ++ [(q, .inl (cy 0, 216, .inl (fun _ => 0)))])) → va_S A s.heap H locs → W p l e ({ frames := 2, cells := 17, slots := 94769, locals := 200 } : Room) s m args below meth c H locs 3 252 Q (F0 m 29 ls [])) : W p l e ({ frames := 2, cells := 17, slots := 94769, locals := 200 } : Room) s m args below meth c H locs 2 36 Q (F0 m 20 ls []) := by
  obtain ⟨hx, hb, hml, hown, hts, hin, hKN, hA, hl⟩ := C
  refine lv_aload_n hx hb (dc kd_Mo_init 10 rfl) rfl (lv_at hl 0 rfl) ?_
  refine lv_sipush (v := 216) hx hb (dc kd_Mo_init 11 rfl) (by decide) ?_
  refine nw_arr (atype := .int) (t := 0) (N := 216) hx hb (hts _ (gd (List.mem_of_getElem? (i := 124) (by decide +kernel)) rfl)) rfl rfl (fun _ => rfl) hKN.1 hP hD hS hA (by decide) (by decide +kernel) (Nat.le_of_ble_eq_true rfl) (Nat.le_of_ble_eq_true rfl) (Nat.le_of_ble_eq_true rfl) (dc kd_Mo_init 12 rfl) (fun q H hP hD hS => ?_)
  refine va_putF (D := D) (ci := 10) (v := .ref q) (ty := .array .int) (own := R_Mo) (C := R_Mo) (T := T_Mo) (N := 33) hx hb hts ck_Mo.good ty_Mo tok_Mo ck_Mo.2.2 hown hKN.1 hP hD hS 0 rfl rfl 3 (by decide) (hts _ (gd (List.mem_of_getElem? (i := 1001) (by decide +kernel)) rfl)) (fun _ h9 => h9) rfl hin rfl (by decide +kernel) rfl rfl (by rw [hfs]; decide) (dc kd_Mo_init 13 rfl) (fun H locs hP hD hS => ?_)
  exact kk q H locs hP hD hS
set_option maxRecDepth 100000 in
theorem mo_3 (C : MOC p s m meth c A args ls D cy h0) (hfs : fs.length = 33) (hP : va_P D vwCl ((h0, .inr (10, fs)) :: Rk) H) (hD : va_D A ((h0, .inr (10, fs)) :: Rk)) (hS : va_S A s.heap H locs) (kk : ∀ (q : Nat) (H : Heap) (locs : List Loc), va_P D vwCl ((h0, .inr (10, fs.set 5 (.ref q))) :: (Rk ++ [(q, .inl (cy 0, 16, .inl (fun _ => 0)))])) H → va_D A ((h0, .inr (10, fs.set 5 (.ref q))) :: (Rk ++ [(q, .inl (cy 0, 16, .inl (fun _ => 0)))])) → va_S A s.heap H locs → W p l e ({ frames := 2, cells := 17, slots := 94769, locals := 200 } : Room) s m args below meth c H locs 4 268 Q (F0 m 37 ls [])) : W p l e ({ frames := 2, cells := 17, slots := 94769, locals := 200 } : Room) s m args below meth c H locs 3 252 Q (F0 m 29 ls []) := by
  obtain ⟨hx, hb, hml, hown, hts, hin, hKN, hA, hl⟩ := C
  refine lv_aload_n hx hb (dc kd_Mo_init 14 rfl) rfl (lv_at hl 0 rfl) ?_
  refine lv_bipush (v := 16) hx hb (dc kd_Mo_init 15 rfl) (by decide) ?_
  refine nw_arr (atype := .int) (t := 0) (N := 16) hx hb (hts _ (gd (List.mem_of_getElem? (i := 124) (by decide +kernel)) rfl)) rfl rfl (fun _ => rfl) hKN.1 hP hD hS hA (by decide) (by decide +kernel) (Nat.le_of_ble_eq_true rfl) (Nat.le_of_ble_eq_true rfl) (Nat.le_of_ble_eq_true rfl) (dc kd_Mo_init 16 rfl) (fun q H hP hD hS => ?_)
  refine va_putF (D := D) (ci := 10) (v := .ref q) (ty := .array .int) (own := R_Mo) (C := R_Mo) (T := T_Mo) (N := 33) hx hb hts ck_Mo.good ty_Mo tok_Mo ck_Mo.2.2 hown hKN.1 hP hD hS 0 rfl rfl 5 (by decide) (hts _ (gd (List.mem_of_getElem? (i := 1003) (by decide +kernel)) rfl)) (fun _ h9 => h9) rfl hin rfl (by decide +kernel) rfl rfl (by rw [hfs]; decide) (dc kd_Mo_init 17 rfl) (fun H locs hP hD hS => ?_)
  exact kk q H locs hP hD hS
set_option maxRecDepth 100000 in
theorem mo_4 (C : MOC p s m meth c A args ls D cy h0) (hfs : fs.length = 33) (hP : va_P D vwCl ((h0, .inr (10, fs)) :: Rk) H) (hD : va_D A ((h0, .inr (10, fs)) :: Rk)) (hS : va_S A s.heap H locs) (kk : ∀ (q : Nat) (H : Heap) (locs : List Loc), va_P D vwCl ((h0, .inr (10, fs.set 7 (.ref q))) :: (Rk ++ [(q, .inl (cy 0, 17, .inl (fun _ => 0)))])) H → va_D A ((h0, .inr (10, fs.set 7 (.ref q))) :: (Rk ++ [(q, .inl (cy 0, 17, .inl (fun _ => 0)))])) → va_S A s.heap H locs → W p l e ({ frames := 2, cells := 17, slots := 94769, locals := 200 } : Room) s m args below meth c H locs 5 285 Q (F0 m 45 ls [])) : W p l e ({ frames := 2, cells := 17, slots := 94769, locals := 200 } : Room) s m args below meth c H locs 4 268 Q (F0 m 37 ls []) := by
  obtain ⟨hx, hb, hml, hown, hts, hin, hKN, hA, hl⟩ := C
  refine lv_aload_n hx hb (dc kd_Mo_init 18 rfl) rfl (lv_at hl 0 rfl) ?_
  refine lv_bipush (v := 17) hx hb (dc kd_Mo_init 19 rfl) (by decide) ?_
  refine nw_arr (atype := .int) (t := 0) (N := 17) hx hb (hts _ (gd (List.mem_of_getElem? (i := 124) (by decide +kernel)) rfl)) rfl rfl (fun _ => rfl) hKN.1 hP hD hS hA (by decide) (by decide +kernel) (Nat.le_of_ble_eq_true rfl) (Nat.le_of_ble_eq_true rfl) (Nat.le_of_ble_eq_true rfl) (dc kd_Mo_init 20 rfl) (fun q H hP hD hS => ?_)
  refine va_putF (D := D) (ci := 10) (v := .ref q) (ty := .array .int) (own := R_Mo) (C := R_Mo) (T := T_Mo) (N := 33) hx hb hts ck_Mo.good ty_Mo tok_Mo ck_Mo.2.2 hown hKN.1 hP hD hS 0 rfl rfl 7 (by decide) (hts _ (gd (List.mem_of_getElem? (i := 1005) (by decide +kernel)) rfl)) (fun _ h9 => h9) rfl hin rfl (by decide +kernel) rfl rfl (by rw [hfs]; decide) (dc kd_Mo_init 21 rfl) (fun H locs hP hD hS => ?_)
  exact kk q H locs hP hD hS
set_option maxRecDepth 100000 in
theorem mo_5 (C : MOC p s m meth c A args ls D cy h0) (hfs : fs.length = 33) (hP : va_P D vwCl ((h0, .inr (10, fs)) :: Rk) H) (hD : va_D A ((h0, .inr (10, fs)) :: Rk)) (hS : va_S A s.heap H locs) (kk : ∀ (q : Nat) (H : Heap) (locs : List Loc), va_P D vwCl ((h0, .inr (10, fs.set 10 (.ref q))) :: (Rk ++ [(q, .inl (cy 2, 1024, .inl (fun _ => 0)))])) H → va_D A ((h0, .inr (10, fs.set 10 (.ref q))) :: (Rk ++ [(q, .inl (cy 2, 1024, .inl (fun _ => 0)))])) → va_S A s.heap H locs → W p l e ({ frames := 2, cells := 17, slots := 94769, locals := 200 } : Room) s m args below meth c H locs 6 1309 Q (F0 m 54 ls [])) : W p l e ({ frames := 2, cells := 17, slots := 94769, locals := 200 } : Room) s m args below meth c H locs 5 285 Q (F0 m 45 ls []) := by
  obtain ⟨hx, hb, hml, hown, hts, hin, hKN, hA, hl⟩ := C
  refine lv_aload_n hx hb (dc kd_Mo_init 22 rfl) rfl (lv_at hl 0 rfl) ?_
  refine lv_sipush (v := 1024) hx hb (dc kd_Mo_init 23 rfl) (by decide) ?_
  refine nw_arr (atype := .boolean) (t := 2) (N := 1024) hx hb (hts _ (gd (List.mem_of_getElem? (i := 1098) (by decide +kernel)) rfl)) rfl rfl (fun _ => rfl) hKN.1 hP hD hS hA (by decide) (by decide +kernel) (Nat.le_of_ble_eq_true rfl) (Nat.le_of_ble_eq_true rfl) (Nat.le_of_ble_eq_true rfl) (dc kd_Mo_init 24 rfl) (fun q H hP hD hS => ?_)
  refine va_putF (D := D) (ci := 10) (v := .ref q) (ty := .array .boolean) (own := R_Mo) (C := R_Mo) (T := T_Mo) (N := 33) hx hb hts ck_Mo.good ty_Mo tok_Mo ck_Mo.2.2 hown hKN.1 hP hD hS 0 rfl rfl 10 (by decide) (hts _ (gd (List.mem_of_getElem? (i := 1008) (by decide +kernel)) rfl)) (fun _ h9 => h9) rfl hin rfl (by decide +kernel) rfl rfl (by rw [hfs]; decide) (dc kd_Mo_init 25 rfl) (fun H locs hP hD hS => ?_)
  exact kk q H locs hP hD hS
set_option maxRecDepth 100000 in
theorem mo_6 (C : MOC p s m meth c A args ls D cy h0) (hfs : fs.length = 33) (hP : va_P D vwCl ((h0, .inr (10, fs)) :: Rk) H) (hD : va_D A ((h0, .inr (10, fs)) :: Rk)) (hS : va_S A s.heap H locs) (kk : ∀ (q : Nat) (H : Heap) (locs : List Loc), va_P D vwCl ((h0, .inr (10, fs.set 11 (.ref q))) :: (Rk ++ [(q, .inl (cy 2, 65536, .inl (fun _ => 0)))])) H → va_D A ((h0, .inr (10, fs.set 11 (.ref q))) :: (Rk ++ [(q, .inl (cy 2, 65536, .inl (fun _ => 0)))])) → va_S A s.heap H locs → W p l e ({ frames := 2, cells := 17, slots := 94769, locals := 200 } : Room) s m args below meth c H locs 7 66845 Q (F0 m 62 ls [])) : W p l e ({ frames := 2, cells := 17, slots := 94769, locals := 200 } : Room) s m args below meth c H locs 6 1309 Q (F0 m 54 ls []) := by
  obtain ⟨hx, hb, hml, hown, hts, hin, hKN, hA, hl⟩ := C
  refine lv_aload_n hx hb (dc kd_Mo_init 26 rfl) rfl (lv_at hl 0 rfl) ?_
  refine lv_ldc (own := R_Mo) (v := 65536) hx hb hown (hts _ (gd (List.mem_of_getElem? (i := 995) (by decide +kernel)) rfl)) (dc kd_Mo_init 27 rfl) ?_
  refine nw_arr (atype := .boolean) (t := 2) (N := 65536) hx hb (hts _ (gd (List.mem_of_getElem? (i := 1098) (by decide +kernel)) rfl)) rfl rfl (fun _ => rfl) hKN.1 hP hD hS hA (by decide) (by decide +kernel) (Nat.le_of_ble_eq_true rfl) (Nat.le_of_ble_eq_true rfl) (Nat.le_of_ble_eq_true rfl) (dc kd_Mo_init 28 rfl) (fun q H hP hD hS => ?_)
  refine va_putF (D := D) (ci := 10) (v := .ref q) (ty := .array .boolean) (own := R_Mo) (C := R_Mo) (T := T_Mo) (N := 33) hx hb hts ck_Mo.good ty_Mo tok_Mo ck_Mo.2.2 hown hKN.1 hP hD hS 0 rfl rfl 11 (by decide) (hts _ (gd (List.mem_of_getElem? (i := 1009) (by decide +kernel)) rfl)) (fun _ h9 => h9) rfl hin rfl (by decide +kernel) rfl rfl (by rw [hfs]; decide) (dc kd_Mo_init 29 rfl) (fun H locs hP hD hS => ?_)
  exact kk q H locs hP hD hS
set_option maxRecDepth 100000 in
theorem mo_7 (C : MOC p s m meth c A args ls D cy h0) (hfs : fs.length = 33) (hP : va_P D vwCl ((h0, .inr (10, fs)) :: Rk) H) (hD : va_D A ((h0, .inr (10, fs)) :: Rk)) (hS : va_S A s.heap H locs) (kk : ∀ (q : Nat) (H : Heap) (locs : List Loc), va_P D vwCl ((h0, .inr (10, fs.set 12 (.ref q))) :: (Rk ++ [(q, .inl (cy 0, 16, .inl (fun _ => 0)))])) H → va_D A ((h0, .inr (10, fs.set 12 (.ref q))) :: (Rk ++ [(q, .inl (cy 0, 16, .inl (fun _ => 0)))])) → va_S A s.heap H locs → W p l e ({ frames := 2, cells := 17, slots := 94769, locals := 200 } : Room) s m args below meth c H locs 8 66861 Q (F0 m 70 ls [])) : W p l e ({ frames := 2, cells := 17, slots := 94769, locals := 200 } : Room) s m args below meth c H locs 7 66845 Q (F0 m 62 ls []) := by
  obtain ⟨hx, hb, hml, hown, hts, hin, hKN, hA, hl⟩ := C
  refine lv_aload_n hx hb (dc kd_Mo_init 30 rfl) rfl (lv_at hl 0 rfl) ?_
  refine lv_bipush (v := 16) hx hb (dc kd_Mo_init 31 rfl) (by decide) ?_
  refine nw_arr (atype := .int) (t := 0) (N := 16) hx hb (hts _ (gd (List.mem_of_getElem? (i := 124) (by decide +kernel)) rfl)) rfl rfl (fun _ => rfl) hKN.1 hP hD hS hA (by decide) (by decide +kernel) (Nat.le_of_ble_eq_true rfl) (Nat.le_of_ble_eq_true rfl) (Nat.le_of_ble_eq_true rfl) (dc kd_Mo_init 32 rfl) (fun q H hP hD hS => ?_)
  refine va_putF (D := D) (ci := 10) (v := .ref q) (ty := .array .int) (own := R_Mo) (C := R_Mo) (T := T_Mo) (N := 33) hx hb hts ck_Mo.good ty_Mo tok_Mo ck_Mo.2.2 hown hKN.1 hP hD hS 0 rfl rfl 12 (by decide) (hts _ (gd (List.mem_of_getElem? (i := 1010) (by decide +kernel)) rfl)) (fun _ h9 => h9) rfl hin rfl (by decide +kernel) rfl rfl (by rw [hfs]; decide) (dc kd_Mo_init 33 rfl) (fun H locs hP hD hS => ?_)
  exact kk q H locs hP hD hS
set_option maxRecDepth 100000 in
theorem mo_8 (C : MOC p s m meth c A args ls D cy h0) (hfs : fs.length = 33) (hP : va_P D vwCl ((h0, .inr (10, fs)) :: Rk) H) (hD : va_D A ((h0, .inr (10, fs)) :: Rk)) (hS : va_S A s.heap H locs) (kk : ∀ (q : Nat) (H : Heap) (locs : List Loc), va_P D vwCl ((h0, .inr (10, fs.set 14 (.ref q))) :: (Rk ++ [(q, .inl (cy 0, 32, .inl (fun _ => 0)))])) H → va_D A ((h0, .inr (10, fs.set 14 (.ref q))) :: (Rk ++ [(q, .inl (cy 0, 32, .inl (fun _ => 0)))])) → va_S A s.heap H locs → W p l e ({ frames := 2, cells := 17, slots := 94769, locals := 200 } : Room) s m args below meth c H locs 9 66893 Q (F0 m 78 ls [])) : W p l e ({ frames := 2, cells := 17, slots := 94769, locals := 200 } : Room) s m args below meth c H locs 8 66861 Q (F0 m 70 ls []) := by
  obtain ⟨hx, hb, hml, hown, hts, hin, hKN, hA, hl⟩ := C
  refine lv_aload_n hx hb (dc kd_Mo_init 34 rfl) rfl (lv_at hl 0 rfl) ?_
  refine lv_bipush (v := 32) hx hb (dc kd_Mo_init 35 rfl) (by decide) ?_
  refine nw_arr (atype := .int) (t := 0) (N := 32) hx hb (hts _ (gd (List.mem_of_getElem? (i := 124) (by decide +kernel)) rfl)) rfl rfl (fun _ => rfl) hKN.1 hP hD hS hA (by decide) (by decide +kernel) (Nat.le_of_ble_eq_true rfl) (Nat.le_of_ble_eq_true rfl) (Nat.le_of_ble_eq_true rfl) (dc kd_Mo_init 36 rfl) (fun q H hP hD hS => ?_)
  refine va_putF (D := D) (ci := 10) (v := .ref q) (ty := .array .int) (own := R_Mo) (C := R_Mo) (T := T_Mo) (N := 33) hx hb hts ck_Mo.good ty_Mo tok_Mo ck_Mo.2.2 hown hKN.1 hP hD hS 0 rfl rfl 14 (by decide) (hts _ (gd (List.mem_of_getElem? (i := 1012) (by decide +kernel)) rfl)) (fun _ h9 => h9) rfl hin rfl (by decide +kernel) rfl rfl (by rw [hfs]; decide) (dc kd_Mo_init 37 rfl) (fun H locs hP hD hS => ?_)
  exact kk q H locs hP hD hS
set_option maxRecDepth 100000 in
theorem mo_9 (C : MOC p s m meth c A args ls D cy h0) (hfs : fs.length = 33) (hP : va_P D vwCl ((h0, .inr (10, fs)) :: Rk) H) (hD : va_D A ((h0, .inr (10, fs)) :: Rk)) (hS : va_S A s.heap H locs) (kk : ∀ (q : Nat) (H : Heap) (locs : List Loc), va_P D vwCl ((h0, .inr (10, fs.set 15 (.ref q))) :: (Rk ++ [(q, .inl (cy 0, 32, .inl (fun _ => 0)))])) H → va_D A ((h0, .inr (10, fs.set 15 (.ref q))) :: (Rk ++ [(q, .inl (cy 0, 32, .inl (fun _ => 0)))])) → va_S A s.heap H locs → W p l e ({ frames := 2, cells := 17, slots := 94769, locals := 200 } : Room) s m args below meth c H locs 10 66925 Q (F0 m 86 ls [])) : W p l e ({ frames := 2, cells := 17, slots := 94769, locals := 200 } : Room) s m args below meth c H locs 9 66893 Q (F0 m 78 ls []) := by
  obtain ⟨hx, hb, hml, hown, hts, hin, hKN, hA, hl⟩ := C
  refine lv_aload_n hx hb (dc kd_Mo_init 38 rfl) rfl (lv_at hl 0 rfl) ?_
  refine lv_bipush (v := 32) hx hb (dc kd_Mo_init 39 rfl) (by decide) ?_
  refine nw_arr (atype := .int) (t := 0) (N := 32) hx hb (hts _ (gd (List.mem_of_getElem? (i := 124) (by decide +kernel)) rfl)) rfl rfl (fun _ => rfl) hKN.1 hP hD hS hA (by decide) (by decide +kernel) (Nat.le_of_ble_eq_true rfl) (Nat.le_of_ble_eq_true rfl) (Nat.le_of_ble_eq_true rfl) (dc kd_Mo_init 40 rfl) (fun q H hP hD hS => ?_)
  refine va_putF (D := D) (ci := 10) (v := .ref q) (ty := .array .int) (own := R_Mo) (C := R_Mo) (T := T_Mo) (N := 33) hx hb hts ck_Mo.good ty_Mo tok_Mo ck_Mo.2.2 hown hKN.1 hP hD hS 0 rfl rfl 15 (by decide) (hts _ (gd (List.mem_of_getElem? (i := 1013) (by decide +kernel)) rfl)) (fun _ h9 => h9) rfl hin rfl (by decide +kernel) rfl rfl (by rw [hfs]; decide) (dc kd_Mo_init 41 rfl) (fun H locs hP hD hS => ?_)
  exact kk q H locs hP hD hS
set_option maxRecDepth 100000 in
theorem mo_10 (C : MOC p s m meth c A args ls D cy h0) (hfs : fs.length = 33) (hP : va_P D vwCl ((h0, .inr (10, fs)) :: Rk) H) (hD : va_D A ((h0, .inr (10, fs)) :: Rk)) (hS : va_S A s.heap H locs) (kk : ∀ (q : Nat) (H : Heap) (locs : List Loc), va_P D vwCl ((h0, .inr (10, fs.set 16 (.ref q))) :: (Rk ++ [(q, .inl (cy 0, 32, .inl (fun _ => 0)))])) H → va_D A ((h0, .inr (10, fs.set 16 (.ref q))) :: (Rk ++ [(q, .inl (cy 0, 32, .inl (fun _ => 0)))])) → va_S A s.heap H locs → W p l e ({ frames := 2, cells := 17, slots := 94769, locals := 200 } : Room) s m args below meth c H locs 11 66957 Q (F0 m 94 ls [])) : W p l e ({ frames := 2, cells := 17, slots := 94769, locals := 200 } : Room) s m args below meth c H locs 10 66925 Q (F0 m 86 ls []) := by
  obtain ⟨hx, hb, hml, hown, hts, hin, hKN, hA, hl⟩ := C
  refine lv_aload_n hx hb (dc kd_Mo_init 42 rfl) rfl (lv_at hl 0 rfl) ?_
  refine lv_bipush (v := 32) hx hb (dc kd_Mo_init 43 rfl) (by decide) ?_
  refine nw_arr (atype := .int) (t := 0) (N := 32) hx hb (hts _ (gd (List.mem_of_getElem? (i := 124) (by decide +kernel)) rfl)) rfl rfl (fun _ => rfl) hKN.1 hP hD hS hA (by decide) (by decide +kernel) (Nat.le_of_ble_eq_true rfl) (Nat.le_of_ble_eq_true rfl) (Nat.le_of_ble_eq_true rfl) (dc kd_Mo_init 44 rfl) (fun q H hP hD hS => ?_)
  refine va_putF (D := D) (ci := 10) (v := .ref q) (ty := .array .int) (own := R_Mo) (C := R_Mo) (T := T_Mo) (N := 33) hx hb hts ck_Mo.good ty_Mo tok_Mo ck_Mo.2.2 hown hKN.1 hP hD hS 0 rfl rfl 16 (by decide) (hts _ (gd (List.mem_of_getElem? (i := 1014) (by decide +kernel)) rfl)) (fun _ h9 => h9) rfl hin rfl (by decide +kernel) rfl rfl (by rw [hfs]; decide) (dc kd_Mo_init 45 rfl) (fun H locs hP hD hS => ?_)
  exact kk q H locs hP hD hS
set_option maxRecDepth 100000 in
theorem mo_11 (C : MOC p s m meth c A args ls D cy h0) (hfs : fs.length = 33) (hP : va_P D vwCl ((h0, .inr (10, fs)) :: Rk) H) (hD : va_D A ((h0, .inr (10, fs)) :: Rk)) (hS : va_S A s.heap H locs) (kk : ∀ (q : Nat) (H : Heap) (locs : List Loc), va_P D vwCl ((h0, .inr (10, fs.set 17 (.ref q))) :: (Rk ++ [(q, .inl (cy 0, 32, .inl (fun _ => 0)))])) H → va_D A ((h0, .inr (10, fs.set 17 (.ref q))) :: (Rk ++ [(q, .inl (cy 0, 32, .inl (fun _ => 0)))])) → va_S A s.heap H locs → W p l e ({ frames := 2, cells := 17, slots := 94769, locals := 200 } : Room) s m args below meth c H locs 12 66989 Q (F0 m 102 ls [])) : W p l e ({ frames := 2, cells := 17, slots := 94769, locals := 200 } : Room) s m args below meth c H locs 11 66957 Q (F0 m 94 ls []) := by
  obtain ⟨hx, hb, hml, hown, hts, hin, hKN, hA, hl⟩ := C
  refine lv_aload_n hx hb (dc kd_Mo_init 46 rfl) rfl (lv_at hl 0 rfl) ?_
  refine lv_bipush (v := 32) hx hb (dc kd_Mo_init 47 rfl) (by decide) ?_
  refine nw_arr (atype := .int) (t := 0) (N := 32) hx hb (hts _ (gd (List.mem_of_getElem? (i := 124) (by decide +kernel)) rfl)) rfl rfl (fun _ => rfl) hKN.1 hP hD hS hA (by decide) (by decide +kernel) (Nat.le_of_ble_eq_true rfl) (Nat.le_of_ble_eq_true rfl) (Nat.le_of_ble_eq_true rfl) (dc kd_Mo_init 48 rfl) (fun q H hP hD hS => ?_)
  refine va_putF (D := D) (ci := 10) (v := .ref q) (ty := .array .int) (own := R_Mo) (C := R_Mo) (T := T_Mo) (N := 33) hx hb hts ck_Mo.good ty_Mo tok_Mo ck_Mo.2.2 hown hKN.1 hP hD hS 0 rfl rfl 17 (by decide) (hts _ (gd (List.mem_of_getElem? (i := 1015) (by decide +kernel)) rfl)) (fun _ h9 => h9) rfl hin rfl (by decide +kernel) rfl rfl (by rw [hfs]; decide) (dc kd_Mo_init 49 rfl) (fun H locs hP hD hS => ?_)
  exact kk q H locs hP hD hS
set_option maxRecDepth 100000 in
theorem mo_12 (C : MOC p s m meth c A args ls D cy h0) (hfs : fs.length = 33) (hP : va_P D vwCl ((h0, .inr (10, fs)) :: Rk) H) (hD : va_D A ((h0, .inr (10, fs)) :: Rk)) (hS : va_S A s.heap H locs) (kk : ∀ (q : Nat) (H : Heap) (locs : List Loc), va_P D vwCl ((h0, .inr (10, fs.set 20 (.ref q))) :: (Rk ++ [(q, .inl (cy 0, 12870, .inl (fun _ => 0)))])) H → va_D A ((h0, .inr (10, fs.set 20 (.ref q))) :: (Rk ++ [(q, .inl (cy 0, 12870, .inl (fun _ => 0)))])) → va_S A s.heap H locs → W p l e ({ frames := 2, cells := 17, slots := 94769, locals := 200 } : Room) s m args below meth c H locs 13 79859 Q (F0 m 111 ls [])) : W p l e ({ frames := 2, cells := 17, slots := 94769, locals := 200 } : Room) s m args below meth c H locs 12 66989 Q (F0 m 102 ls []) := by
  obtain ⟨hx, hb, hml, hown, hts, hin, hKN, hA, hl⟩ := C
  refine lv_aload_n hx hb (dc kd_Mo_init 50 rfl) rfl (lv_at hl 0 rfl) ?_
  refine lv_sipush (v := 12870) hx hb (dc kd_Mo_init 51 rfl) (by decide) ?_
  refine nw_arr (atype := .int) (t := 0) (N := 12870) hx hb (hts _ (gd (List.mem_of_getElem? (i := 124) (by decide +kernel)) rfl)) rfl rfl (fun _ => rfl) hKN.1 hP hD hS hA (by decide) (by decide +kernel) (Nat.le_of_ble_eq_true rfl) (Nat.le_of_ble_eq_true rfl) (Nat.le_of_ble_eq_true rfl) (dc kd_Mo_init 52 rfl) (fun q H hP hD hS => ?_)
  refine va_putF (D := D) (ci := 10) (v := .ref q) (ty := .array .int) (own := R_Mo) (C := R_Mo) (T := T_Mo) (N := 33) hx hb hts ck_Mo.good ty_Mo tok_Mo ck_Mo.2.2 hown hKN.1 hP hD hS 0 rfl rfl 20 (by decide) (hts _ (gd (List.mem_of_getElem? (i := 1018) (by decide +kernel)) rfl)) (fun _ h9 => h9) rfl hin rfl (by decide +kernel) rfl rfl (by rw [hfs]; decide) (dc kd_Mo_init 53 rfl) (fun H locs hP hD hS => ?_)
  exact kk q H locs hP hD hS
set_option maxRecDepth 100000 in
theorem mo_13 (C : MOC p s m meth c A args ls D cy h0) (hfs : fs.length = 33) (hP : va_P D vwCl ((h0, .inr (10, fs)) :: Rk) H) (hD : va_D A ((h0, .inr (10, fs)) :: Rk)) (hS : va_S A s.heap H locs) (kk : ∀ (q : Nat) (H : Heap) (locs : List Loc), va_P D vwCl ((h0, .inr (10, fs.set 21 (.ref q))) :: (Rk ++ [(q, .inl (cy 0, 12870, .inl (fun _ => 0)))])) H → va_D A ((h0, .inr (10, fs.set 21 (.ref q))) :: (Rk ++ [(q, .inl (cy 0, 12870, .inl (fun _ => 0)))])) → va_S A s.heap H locs → W p l e ({ frames := 2, cells := 17, slots := 94769, locals := 200 } : Room) s m args below meth c H locs 14 92729 Q (F0 m 120 ls [])) : W p l e ({ frames := 2, cells := 17, slots := 94769, locals := 200 } : Room) s m args below meth c H locs 13 79859 Q (F0 m 111 ls []) := by
  obtain ⟨hx, hb, hml, hown, hts, hin, hKN, hA, hl⟩ := C
  refine lv_aload_n hx hb (dc kd_Mo_init 54 rfl) rfl (lv_at hl 0 rfl) ?_
  refine lv_sipush (v := 12870) hx hb (dc kd_Mo_init 55 rfl) (by decide) ?_
  refine nw_arr (atype := .int) (t := 0) (N := 12870) hx hb (hts _ (gd (List.mem_of_getElem? (i := 124) (by decide +kernel)) rfl)) rfl rfl (fun _ => rfl) hKN.1 hP hD hS hA (by decide) (by decide +kernel) (Nat.le_of_ble_eq_true rfl) (Nat.le_of_ble_eq_true rfl) (Nat.le_of_ble_eq_true rfl) (dc kd_Mo_init 56 rfl) (fun q H hP hD hS => ?_)
  refine va_putF (D := D) (ci := 10) (v := .ref q) (ty := .array .int) (own := R_Mo) (C := R_Mo) (T := T_Mo) (N := 33) hx hb hts ck_Mo.good ty_Mo tok_Mo ck_Mo.2.2 hown hKN.1 hP hD hS 0 rfl rfl 21 (by decide) (hts _ (gd (List.mem_of_getElem? (i := 1019) (by decide +kernel)) rfl)) (fun _ h9 => h9) rfl hin rfl (by decide +kernel) rfl rfl (by rw [hfs]; decide) (dc kd_Mo_init 57 rfl) (fun H locs hP hD hS => ?_)
  exact kk q H locs hP hD hS
set_option maxRecDepth 100000 in
theorem mo_14 (C : MOC p s m meth c A args ls D cy h0) (hfs : fs.length = 33) (hP : va_P D vwCl ((h0, .inr (10, fs)) :: Rk) H) (hD : va_D A ((h0, .inr (10, fs)) :: Rk)) (hS : va_S A s.heap H locs) (kk : ∀ (q : Nat) (H : Heap) (locs : List Loc), va_P D vwCl ((h0, .inr (10, fs.set 23 (.ref q))) :: (Rk ++ [(q, .inl (cy 0, 1600, .inl (fun _ => 0)))])) H → va_D A ((h0, .inr (10, fs.set 23 (.ref q))) :: (Rk ++ [(q, .inl (cy 0, 1600, .inl (fun _ => 0)))])) → va_S A s.heap H locs → W p l e ({ frames := 2, cells := 17, slots := 94769, locals := 200 } : Room) s m args below meth c H locs 15 94329 Q (F0 m 129 ls [])) : W p l e ({ frames := 2, cells := 17, slots := 94769, locals := 200 } : Room) s m args below meth c H locs 14 92729 Q (F0 m 120 ls []) := by
  obtain ⟨hx, hb, hml, hown, hts, hin, hKN, hA, hl⟩ := C
  refine lv_aload_n hx hb (dc kd_Mo_init 58 rfl) rfl (lv_at hl 0 rfl) ?_
  refine lv_sipush (v := 1600) hx hb (dc kd_Mo_init 59 rfl) (by decide) ?_
  refine nw_arr (atype := .int) (t := 0) (N := 1600) hx hb (hts _ (gd (List.mem_of_getElem? (i := 124) (by decide +kernel)) rfl)) rfl rfl (fun _ => rfl) hKN.1 hP hD hS hA (by decide) (by decide +kernel) (Nat.le_of_ble_eq_true rfl) (Nat.le_of_ble_eq_true rfl) (Nat.le_of_ble_eq_true rfl) (dc kd_Mo_init 60 rfl) (fun q H hP hD hS => ?_)
  refine va_putF (D := D) (ci := 10) (v := .ref q) (ty := .array .int) (own := R_Mo) (C := R_Mo) (T := T_Mo) (N := 33) hx hb hts ck_Mo.good ty_Mo tok_Mo ck_Mo.2.2 hown hKN.1 hP hD hS 0 rfl rfl 23 (by decide) (hts _ (gd (List.mem_of_getElem? (i := 1021) (by decide +kernel)) rfl)) (fun _ h9 => h9) rfl hin rfl (by decide +kernel) rfl rfl (by rw [hfs]; decide) (dc kd_Mo_init 61 rfl) (fun H locs hP hD hS => ?_)
  exact kk q H locs hP hD hS
set_option maxRecDepth 100000 in
theorem mo_15 (C : MOC p s m meth c A args ls D cy h0) (hfs : fs.length = 33) (hP : va_P D vwCl ((h0, .inr (10, fs)) :: Rk) H) (hD : va_D A ((h0, .inr (10, fs)) :: Rk)) (hS : va_S A s.heap H locs) (kk : ∀ (q : Nat) (H : Heap) (locs : List Loc), va_P D vwCl ((h0, .inr (10, fs.set 25 (.ref q))) :: (Rk ++ [(q, .inl (cy 0, 400, .inl (fun _ => 0)))])) H → va_D A ((h0, .inr (10, fs.set 25 (.ref q))) :: (Rk ++ [(q, .inl (cy 0, 400, .inl (fun _ => 0)))])) → va_S A s.heap H locs → W p l e ({ frames := 2, cells := 17, slots := 94769, locals := 200 } : Room) s m args below meth c H locs 16 94729 Q (F0 m 138 ls [])) : W p l e ({ frames := 2, cells := 17, slots := 94769, locals := 200 } : Room) s m args below meth c H locs 15 94329 Q (F0 m 129 ls []) := by
  obtain ⟨hx, hb, hml, hown, hts, hin, hKN, hA, hl⟩ := C
  refine lv_aload_n hx hb (dc kd_Mo_init 62 rfl) rfl (lv_at hl 0 rfl) ?_
  refine lv_sipush (v := 400) hx hb (dc kd_Mo_init 63 rfl) (by decide) ?_
  refine nw_arr (atype := .int) (t := 0) (N := 400) hx hb (hts _ (gd (List.mem_of_getElem? (i := 124) (by decide +kernel)) rfl)) rfl rfl (fun _ => rfl) hKN.1 hP hD hS hA (by decide) (by decide +kernel) (Nat.le_of_ble_eq_true rfl) (Nat.le_of_ble_eq_true rfl) (Nat.le_of_ble_eq_true rfl) (dc kd_Mo_init 64 rfl) (fun q H hP hD hS => ?_)
  refine va_putF (D := D) (ci := 10) (v := .ref q) (ty := .array .int) (own := R_Mo) (C := R_Mo) (T := T_Mo) (N := 33) hx hb hts ck_Mo.good ty_Mo tok_Mo ck_Mo.2.2 hown hKN.1 hP hD hS 0 rfl rfl 25 (by decide) (hts _ (gd (List.mem_of_getElem? (i := 1023) (by decide +kernel)) rfl)) (fun _ h9 => h9) rfl hin rfl (by decide +kernel) rfl rfl (by rw [hfs]; decide) (dc kd_Mo_init 65 rfl) (fun H locs hP hD hS => ?_)
  exact kk q H locs hP hD hS
set_option maxRecDepth 100000 in
theorem mo_16 (C : MOC p s m meth c A args ls D cy h0) (hfs : fs.length = 33) (hP : va_P D vwCl ((h0, .inr (10, fs)) :: Rk) H) (hD : va_D A ((h0, .inr (10, fs)) :: Rk)) (hS : va_S A s.heap H locs) (kk : ∀ (q : Nat) (H : Heap) (locs : List Loc), va_P D vwCl (((h0, .inr (10, fs)) :: Rk) ++ [(q, .inl (cy 1, 40, .inl (wF 0)))]) H → va_D A (((h0, .inr (10, fs)) :: Rk) ++ [(q, .inl (cy 1, 40, .inl (wF 0)))]) → va_S A s.heap H locs → W p l e ({ frames := 2, cells := 17, slots := 94769, locals := 200 } : Room) s m args below meth c H locs 17 94769 Q (F0 m 143 ls [.ref q, .ref h0])) : W p l e ({ frames := 2, cells := 17, slots := 94769, locals := 200 } : Room) s m args below meth c H locs 16 94729 Q (F0 m 138 ls []) := by
  obtain ⟨hx, hb, hml, hown, hts, hin, hKN, hA, hl⟩ := C
  refine lv_aload_n hx hb (dc kd_Mo_init 66 rfl) rfl (lv_at hl 0 rfl) ?_
  refine lv_bipush (v := 40) hx hb (dc kd_Mo_init 67 rfl) (by decide) ?_
  refine nw_arr (atype := .byte) (t := 1) (N := 40) hx hb (hts _ (gd (List.mem_of_getElem? (i := 160) (by decide +kernel)) rfl)) rfl rfl (fun _ => rfl) hKN.1 hP hD hS hA (by decide) (by decide +kernel) (Nat.le_of_ble_eq_true rfl) (Nat.le_of_ble_eq_true rfl) (Nat.le_of_ble_eq_true rfl) (dc kd_Mo_init 68 rfl) (fun q H hP hD hS => ?_)
  exact kk q H locs hP hD hS
set_option maxRecDepth 100000 in
set_option maxHeartbeats 4000000 in
theorem mo_w0 {q : Nat} (C : MOC p s m meth c A args ls D cy h0) (hP : va_P D vwCl (X ++ [(q, .inl (cy 1, 40, .inl (wF 0)))]) H) (hD : va_D A (X ++ [(q, .inl (cy 1, 40, .inl (wF 0)))])) (hS : va_S A s.heap H locs) (kk : ∀ (H : Heap) (locs : List Loc), va_P D vwCl (X ++ [(q, .inl (cy 1, 40, .inl (wF 10)))]) H → va_D A (X ++ [(q, .inl (cy 1, 40, .inl (wF 10)))]) → va_S A s.heap H locs → W p l e ({ frames := 2, cells := 17, slots := 94769, locals := 200 } : Room) s m args below meth c H locs 17 94769 Q (F0 m 196 ls [.ref q, .ref h0])) : W p l e ({ frames := 2, cells := 17, slots := 94769, locals := 200 } : Room) s m args below meth c H locs 17 94769 Q (F0 m 143 ls [.ref q, .ref h0]) := by
  obtain ⟨hx, hb, hml, hown, hts, hin, hKN, hA, hl⟩ := C
  refine lv_dup hx hb (dc kd_Mo_init 69 rfl) rfl ?_
  refine lv_iconst (v := 0) hx hb (dc kd_Mo_init 70 rfl) (by decide) ?_
  refine lv_bipush (v := 112) hx hb (dc kd_Mo_init 71 rfl) (by decide) ?_
  refine nw_bast (j := 0) hx hb hKN.1 hP hD hS (by decide) (by decide +kernel) (by decide) (by decide +kernel) (dc kd_Mo_init 72 rfl) (fun H locs hP hD hS => ?_)
  refine lv_dup hx hb (dc kd_Mo_init 73 rfl) rfl ?_
  refine lv_iconst (v := 1) hx hb (dc kd_Mo_init 74 rfl) (by decide) ?_
  refine lv_bipush (v := 111) hx hb (dc kd_Mo_init 75 rfl) (by decide) ?_
  refine nw_bast (j := 1) hx hb hKN.1 hP hD hS (by decide) (by decide +kernel) (by decide) (by decide +kernel) (dc kd_Mo_init 76 rfl) (fun H locs hP hD hS => ?_)
  refine lv_dup hx hb (dc kd_Mo_init 77 rfl) rfl ?_
  refine lv_iconst (v := 2) hx hb (dc kd_Mo_init 78 rfl) (by decide) ?_
  refine lv_bipush (v := 105) hx hb (dc kd_Mo_init 79 rfl) (by decide) ?_
  refine nw_bast (j := 2) hx hb hKN.1 hP hD hS (by decide) (by decide +kernel) (by decide) (by decide +kernel) (dc kd_Mo_init 80 rfl) (fun H locs hP hD hS => ?_)
  refine lv_dup hx hb (dc kd_Mo_init 81 rfl) rfl ?_
  refine lv_iconst (v := 3) hx hb (dc kd_Mo_init 82 rfl) (by decide) ?_
  refine lv_bipush (v := 110) hx hb (dc kd_Mo_init 83 rfl) (by decide) ?_
  refine nw_bast (j := 3) hx hb hKN.1 hP hD hS (by decide) (by decide +kernel) (by decide) (by decide +kernel) (dc kd_Mo_init 84 rfl) (fun H locs hP hD hS => ?_)
  refine lv_dup hx hb (dc kd_Mo_init 85 rfl) rfl ?_
  refine lv_iconst (v := 4) hx hb (dc kd_Mo_init 86 rfl) (by decide) ?_
  refine lv_bipush (v := 116) hx hb (dc kd_Mo_init 87 rfl) (by decide) ?_
  refine nw_bast (j := 4) hx hb hKN.1 hP hD hS (by decide) (by decide +kernel) (by decide) (by decide +kernel) (dc kd_Mo_init 88 rfl) (fun H locs hP hD hS => ?_)
  refine lv_dup hx hb (dc kd_Mo_init 89 rfl) rfl ?_
  refine lv_iconst (v := 5) hx hb (dc kd_Mo_init 90 rfl) (by decide) ?_
  refine lv_bipush (v := 115) hx hb (dc kd_Mo_init 91 rfl) (by decide) ?_
  refine nw_bast (j := 5) hx hb hKN.1 hP hD hS (by decide) (by decide +kernel) (by decide) (by decide +kernel) (dc kd_Mo_init 92 rfl) (fun H locs hP hD hS => ?_)
  refine lv_dup hx hb (dc kd_Mo_init 93 rfl) rfl ?_
  refine lv_bipush (v := 6) hx hb (dc kd_Mo_init 94 rfl) (by decide) ?_
  refine lv_iconst (v := 0) hx hb (dc kd_Mo_init 95 rfl) (by decide) ?_
  refine nw_bast (j := 6) hx hb hKN.1 hP hD hS (by decide) (by decide +kernel) (by decide) (by decide +kernel) (dc kd_Mo_init 96 rfl) (fun H locs hP hD hS => ?_)
  refine lv_dup hx hb (dc kd_Mo_init 97 rfl) rfl ?_
  refine lv_bipush (v := 7) hx hb (dc kd_Mo_init 98 rfl) (by decide) ?_
  refine lv_bipush (v := 115) hx hb (dc kd_Mo_init 99 rfl) (by decide) ?_
  refine nw_bast (j := 7) hx hb hKN.1 hP hD hS (by decide) (by decide +kernel) (by decide) (by decide +kernel) (dc kd_Mo_init 100 rfl) (fun H locs hP hD hS => ?_)
  refine lv_dup hx hb (dc kd_Mo_init 101 rfl) rfl ?_
  refine lv_bipush (v := 8) hx hb (dc kd_Mo_init 102 rfl) (by decide) ?_
  refine lv_bipush (v := 101) hx hb (dc kd_Mo_init 103 rfl) (by decide) ?_
  refine nw_bast (j := 8) hx hb hKN.1 hP hD hS (by decide) (by decide +kernel) (by decide) (by decide +kernel) (dc kd_Mo_init 104 rfl) (fun H locs hP hD hS => ?_)
  refine lv_dup hx hb (dc kd_Mo_init 105 rfl) rfl ?_
  refine lv_bipush (v := 9) hx hb (dc kd_Mo_init 106 rfl) (by decide) ?_
  refine lv_bipush (v := 116) hx hb (dc kd_Mo_init 107 rfl) (by decide) ?_
  refine nw_bast (j := 9) hx hb hKN.1 hP hD hS (by decide) (by decide +kernel) (by decide) (by decide +kernel) (dc kd_Mo_init 108 rfl) (fun H locs hP hD hS => ?_)
  exact kk H locs hP hD hS
set_option maxRecDepth 100000 in
set_option maxHeartbeats 4000000 in
theorem mo_w1 {q : Nat} (C : MOC p s m meth c A args ls D cy h0) (hP : va_P D vwCl (X ++ [(q, .inl (cy 1, 40, .inl (wF 10)))]) H) (hD : va_D A (X ++ [(q, .inl (cy 1, 40, .inl (wF 10)))])) (hS : va_S A s.heap H locs) (kk : ∀ (H : Heap) (locs : List Loc), va_P D vwCl (X ++ [(q, .inl (cy 1, 40, .inl (wF 20)))]) H → va_D A (X ++ [(q, .inl (cy 1, 40, .inl (wF 20)))]) → va_S A s.heap H locs → W p l e ({ frames := 2, cells := 17, slots := 94769, locals := 200 } : Room) s m args below meth c H locs 17 94769 Q (F0 m 254 ls [.ref q, .ref h0])) : W p l e ({ frames := 2, cells := 17, slots := 94769, locals := 200 } : Room) s m args below meth c H locs 17 94769 Q (F0 m 196 ls [.ref q, .ref h0]) := by
  obtain ⟨hx, hb, hml, hown, hts, hin, hKN, hA, hl⟩ := C
  refine lv_dup hx hb (dc kd_Mo_init 109 rfl) rfl ?_
  refine lv_bipush (v := 10) hx hb (dc kd_Mo_init 110 rfl) (by decide) ?_
  refine lv_iconst (v := 0) hx hb (dc kd_Mo_init 111 rfl) (by decide) ?_
  refine nw_bast (j := 10) hx hb hKN.1 hP hD hS (by decide) (by decide +kernel) (by decide) (by decide +kernel) (dc kd_Mo_init 112 rfl) (fun H locs hP hD hS => ?_)
  refine lv_dup hx hb (dc kd_Mo_init 113 rfl) rfl ?_
  refine lv_bipush (v := 11) hx hb (dc kd_Mo_init 114 rfl) (by decide) ?_
  refine lv_bipush (v := 119) hx hb (dc kd_Mo_init 115 rfl) (by decide) ?_
  refine nw_bast (j := 11) hx hb hKN.1 hP hD hS (by decide) (by decide +kernel) (by decide) (by decide +kernel) (dc kd_Mo_init 116 rfl) (fun H locs hP hD hS => ?_)
  refine lv_dup hx hb (dc kd_Mo_init 117 rfl) rfl ?_
  refine lv_bipush (v := 12) hx hb (dc kd_Mo_init 118 rfl) (by decide) ?_
  refine lv_bipush (v := 105) hx hb (dc kd_Mo_init 119 rfl) (by decide) ?_
  refine nw_bast (j := 12) hx hb hKN.1 hP hD hS (by decide) (by decide +kernel) (by decide) (by decide +kernel) (dc kd_Mo_init 120 rfl) (fun H locs hP hD hS => ?_)
  refine lv_dup hx hb (dc kd_Mo_init 121 rfl) rfl ?_
  refine lv_bipush (v := 13) hx hb (dc kd_Mo_init 122 rfl) (by decide) ?_
  refine lv_bipush (v := 116) hx hb (dc kd_Mo_init 123 rfl) (by decide) ?_
  refine nw_bast (j := 13) hx hb hKN.1 hP hD hS (by decide) (by decide +kernel) (by decide) (by decide +kernel) (dc kd_Mo_init 124 rfl) (fun H locs hP hD hS => ?_)
  refine lv_dup hx hb (dc kd_Mo_init 125 rfl) rfl ?_
  refine lv_bipush (v := 14) hx hb (dc kd_Mo_init 126 rfl) (by decide) ?_
  refine lv_bipush (v := 104) hx hb (dc kd_Mo_init 127 rfl) (by decide) ?_
  refine nw_bast (j := 14) hx hb hKN.1 hP hD hS (by decide) (by decide +kernel) (by decide) (by decide +kernel) (dc kd_Mo_init 128 rfl) (fun H locs hP hD hS => ?_)
  refine lv_dup hx hb (dc kd_Mo_init 129 rfl) rfl ?_
  refine lv_bipush (v := 15) hx hb (dc kd_Mo_init 130 rfl) (by decide) ?_
  refine lv_bipush (v := 105) hx hb (dc kd_Mo_init 131 rfl) (by decide) ?_
  refine nw_bast (j := 15) hx hb hKN.1 hP hD hS (by decide) (by decide +kernel) (by decide) (by decide +kernel) (dc kd_Mo_init 132 rfl) (fun H locs hP hD hS => ?_)
  refine lv_dup hx hb (dc kd_Mo_init 133 rfl) rfl ?_
  refine lv_bipush (v := 16) hx hb (dc kd_Mo_init 134 rfl) (by decide) ?_
  refine lv_bipush (v := 110) hx hb (dc kd_Mo_init 135 rfl) (by decide) ?_
  refine nw_bast (j := 16) hx hb hKN.1 hP hD hS (by decide) (by decide +kernel) (by decide) (by decide +kernel) (dc kd_Mo_init 136 rfl) (fun H locs hP hD hS => ?_)
  refine lv_dup hx hb (dc kd_Mo_init 137 rfl) rfl ?_
  refine lv_bipush (v := 17) hx hb (dc kd_Mo_init 138 rfl) (by decide) ?_
  refine lv_iconst (v := 0) hx hb (dc kd_Mo_init 139 rfl) (by decide) ?_
  refine nw_bast (j := 17) hx hb hKN.1 hP hD hS (by decide) (by decide +kernel) (by decide) (by decide +kernel) (dc kd_Mo_init 140 rfl) (fun H locs hP hD hS => ?_)
  refine lv_dup hx hb (dc kd_Mo_init 141 rfl) rfl ?_
  refine lv_bipush (v := 18) hx hb (dc kd_Mo_init 142 rfl) (by decide) ?_
  refine lv_bipush (v := 102) hx hb (dc kd_Mo_init 143 rfl) (by decide) ?_
  refine nw_bast (j := 18) hx hb hKN.1 hP hD hS (by decide) (by decide +kernel) (by decide) (by decide +kernel) (dc kd_Mo_init 144 rfl) (fun H locs hP hD hS => ?_)
  refine lv_dup hx hb (dc kd_Mo_init 145 rfl) rfl ?_
  refine lv_bipush (v := 19) hx hb (dc kd_Mo_init 146 rfl) (by decide) ?_
  refine lv_bipush (v := 108) hx hb (dc kd_Mo_init 147 rfl) (by decide) ?_
  refine nw_bast (j := 19) hx hb hKN.1 hP hD hS (by decide) (by decide +kernel) (by decide) (by decide +kernel) (dc kd_Mo_init 148 rfl) (fun H locs hP hD hS => ?_)
  exact kk H locs hP hD hS
set_option maxRecDepth 100000 in
set_option maxHeartbeats 4000000 in
theorem mo_w2 {q : Nat} (C : MOC p s m meth c A args ls D cy h0) (hP : va_P D vwCl (X ++ [(q, .inl (cy 1, 40, .inl (wF 20)))]) H) (hD : va_D A (X ++ [(q, .inl (cy 1, 40, .inl (wF 20)))])) (hS : va_S A s.heap H locs) (kk : ∀ (H : Heap) (locs : List Loc), va_P D vwCl (X ++ [(q, .inl (cy 1, 40, .inl (wF 30)))]) H → va_D A (X ++ [(q, .inl (cy 1, 40, .inl (wF 30)))]) → va_S A s.heap H locs → W p l e ({ frames := 2, cells := 17, slots := 94769, locals := 200 } : Room) s m args below meth c H locs 17 94769 Q (F0 m 312 ls [.ref q, .ref h0])) : W p l e ({ frames := 2, cells := 17, slots := 94769, locals := 200 } : Room) s m args below meth c H locs 17 94769 Q (F0 m 254 ls [.ref q, .ref h0]) := by
  obtain ⟨hx, hb, hml, hown, hts, hin, hKN, hA, hl⟩ := C
  refine lv_dup hx hb (dc kd_Mo_init 149 rfl) rfl ?_
  refine lv_bipush (v := 20) hx hb (dc kd_Mo_init 150 rfl) (by decide) ?_
  refine lv_bipush (v := 111) hx hb (dc kd_Mo_init 151 rfl) (by decide) ?_
  refine nw_bast (j := 20) hx hb hKN.1 hP hD hS (by decide) (by decide +kernel) (by decide) (by decide +kernel) (dc kd_Mo_init 152 rfl) (fun H locs hP hD hS => ?_)
  refine lv_dup hx hb (dc kd_Mo_init 153 rfl) rfl ?_
  refine lv_bipush (v := 21) hx hb (dc kd_Mo_init 154 rfl) (by decide) ?_
  refine lv_bipush (v := 119) hx hb (dc kd_Mo_init 155 rfl) (by decide) ?_
  refine nw_bast (j := 21) hx hb hKN.1 hP hD hS (by decide) (by decide +kernel) (by decide) (by decide +kernel) (dc kd_Mo_init 156 rfl) (fun H locs hP hD hS => ?_)
  refine lv_dup hx hb (dc kd_Mo_init 157 rfl) rfl ?_
  refine lv_bipush (v := 22) hx hb (dc kd_Mo_init 158 rfl) (by decide) ?_
  refine lv_bipush (v := 101) hx hb (dc kd_Mo_init 159 rfl) (by decide) ?_
  refine nw_bast (j := 22) hx hb hKN.1 hP hD hS (by decide) (by decide +kernel) (by decide) (by decide +kernel) (dc kd_Mo_init 160 rfl) (fun H locs hP hD hS => ?_)
  refine lv_dup hx hb (dc kd_Mo_init 161 rfl) rfl ?_
  refine lv_bipush (v := 23) hx hb (dc kd_Mo_init 162 rfl) (by decide) ?_
  refine lv_bipush (v := 114) hx hb (dc kd_Mo_init 163 rfl) (by decide) ?_
  refine nw_bast (j := 23) hx hb hKN.1 hP hD hS (by decide) (by decide +kernel) (by decide) (by decide +kernel) (dc kd_Mo_init 164 rfl) (fun H locs hP hD hS => ?_)
  refine lv_dup hx hb (dc kd_Mo_init 165 rfl) rfl ?_
  refine lv_bipush (v := 24) hx hb (dc kd_Mo_init 166 rfl) (by decide) ?_
  refine lv_iconst (v := 0) hx hb (dc kd_Mo_init 167 rfl) (by decide) ?_
  refine nw_bast (j := 24) hx hb hKN.1 hP hD hS (by decide) (by decide +kernel) (by decide) (by decide +kernel) (dc kd_Mo_init 168 rfl) (fun H locs hP hD hS => ?_)
  refine lv_dup hx hb (dc kd_Mo_init 169 rfl) rfl ?_
  refine lv_bipush (v := 25) hx hb (dc kd_Mo_init 170 rfl) (by decide) ?_
  refine lv_bipush (v := 99) hx hb (dc kd_Mo_init 171 rfl) (by decide) ?_
  refine nw_bast (j := 25) hx hb hKN.1 hP hD hS (by decide) (by decide +kernel) (by decide) (by decide +kernel) (dc kd_Mo_init 172 rfl) (fun H locs hP hD hS => ?_)
  refine lv_dup hx hb (dc kd_Mo_init 173 rfl) rfl ?_
  refine lv_bipush (v := 26) hx hb (dc kd_Mo_init 174 rfl) (by decide) ?_
  refine lv_bipush (v := 111) hx hb (dc kd_Mo_init 175 rfl) (by decide) ?_
  refine nw_bast (j := 26) hx hb hKN.1 hP hD hS (by decide) (by decide +kernel) (by decide) (by decide +kernel) (dc kd_Mo_init 176 rfl) (fun H locs hP hD hS => ?_)
  refine lv_dup hx hb (dc kd_Mo_init 177 rfl) rfl ?_
  refine lv_bipush (v := 27) hx hb (dc kd_Mo_init 178 rfl) (by decide) ?_
  refine lv_bipush (v := 114) hx hb (dc kd_Mo_init 179 rfl) (by decide) ?_
  refine nw_bast (j := 27) hx hb hKN.1 hP hD hS (by decide) (by decide +kernel) (by decide) (by decide +kernel) (dc kd_Mo_init 180 rfl) (fun H locs hP hD hS => ?_)
  refine lv_dup hx hb (dc kd_Mo_init 181 rfl) rfl ?_
  refine lv_bipush (v := 28) hx hb (dc kd_Mo_init 182 rfl) (by decide) ?_
  refine lv_bipush (v := 101) hx hb (dc kd_Mo_init 183 rfl) (by decide) ?_
  refine nw_bast (j := 28) hx hb hKN.1 hP hD hS (by decide) (by decide +kernel) (by decide) (by decide +kernel) (dc kd_Mo_init 184 rfl) (fun H locs hP hD hS => ?_)
  refine lv_dup hx hb (dc kd_Mo_init 185 rfl) rfl ?_
  refine lv_bipush (v := 29) hx hb (dc kd_Mo_init 186 rfl) (by decide) ?_
  refine lv_iconst (v := 0) hx hb (dc kd_Mo_init 187 rfl) (by decide) ?_
  refine nw_bast (j := 29) hx hb hKN.1 hP hD hS (by decide) (by decide +kernel) (by decide) (by decide +kernel) (dc kd_Mo_init 188 rfl) (fun H locs hP hD hS => ?_)
  exact kk H locs hP hD hS
set_option maxRecDepth 100000 in
set_option maxHeartbeats 4000000 in
theorem mo_w3 {q : Nat} (C : MOC p s m meth c A args ls D cy h0) (hP : va_P D vwCl (X ++ [(q, .inl (cy 1, 40, .inl (wF 30)))]) H) (hD : va_D A (X ++ [(q, .inl (cy 1, 40, .inl (wF 30)))])) (hS : va_S A s.heap H locs) (kk : ∀ (H : Heap) (locs : List Loc), va_P D vwCl (X ++ [(q, .inl (cy 1, 40, .inl (wF 40)))]) H → va_D A (X ++ [(q, .inl (cy 1, 40, .inl (wF 40)))]) → va_S A s.heap H locs → W p l e ({ frames := 2, cells := 17, slots := 94769, locals := 200 } : Room) s m args below meth c H locs 17 94769 Q (F0 m 370 ls [.ref q, .ref h0])) : W p l e ({ frames := 2, cells := 17, slots := 94769, locals := 200 } : Room) s m args below meth c H locs 17 94769 Q (F0 m 312 ls [.ref q, .ref h0]) := by
  obtain ⟨hx, hb, hml, hown, hts, hin, hKN, hA, hl⟩ := C
  refine lv_dup hx hb (dc kd_Mo_init 189 rfl) rfl ?_
  refine lv_bipush (v := 30) hx hb (dc kd_Mo_init 190 rfl) (by decide) ?_
  refine lv_bipush (v := 108) hx hb (dc kd_Mo_init 191 rfl) (by decide) ?_
  refine nw_bast (j := 30) hx hb hKN.1 hP hD hS (by decide) (by decide +kernel) (by decide) (by decide +kernel) (dc kd_Mo_init 192 rfl) (fun H locs hP hD hS => ?_)
  refine lv_dup hx hb (dc kd_Mo_init 193 rfl) rfl ?_
  refine lv_bipush (v := 31) hx hb (dc kd_Mo_init 194 rfl) (by decide) ?_
  refine lv_bipush (v := 111) hx hb (dc kd_Mo_init 195 rfl) (by decide) ?_
  refine nw_bast (j := 31) hx hb hKN.1 hP hD hS (by decide) (by decide +kernel) (by decide) (by decide +kernel) (dc kd_Mo_init 196 rfl) (fun H locs hP hD hS => ?_)
  refine lv_dup hx hb (dc kd_Mo_init 197 rfl) rfl ?_
  refine lv_bipush (v := 32) hx hb (dc kd_Mo_init 198 rfl) (by decide) ?_
  refine lv_bipush (v := 115) hx hb (dc kd_Mo_init 199 rfl) (by decide) ?_
  refine nw_bast (j := 32) hx hb hKN.1 hP hD hS (by decide) (by decide +kernel) (by decide) (by decide +kernel) (dc kd_Mo_init 200 rfl) (fun H locs hP hD hS => ?_)
  refine lv_dup hx hb (dc kd_Mo_init 201 rfl) rfl ?_
  refine lv_bipush (v := 33) hx hb (dc kd_Mo_init 202 rfl) (by decide) ?_
  refine lv_bipush (v := 116) hx hb (dc kd_Mo_init 203 rfl) (by decide) ?_
  refine nw_bast (j := 33) hx hb hKN.1 hP hD hS (by decide) (by decide +kernel) (by decide) (by decide +kernel) (dc kd_Mo_init 204 rfl) (fun H locs hP hD hS => ?_)
  refine lv_dup hx hb (dc kd_Mo_init 205 rfl) rfl ?_
  refine lv_bipush (v := 34) hx hb (dc kd_Mo_init 206 rfl) (by decide) ?_
  refine lv_iconst (v := 0) hx hb (dc kd_Mo_init 207 rfl) (by decide) ?_
  refine nw_bast (j := 34) hx hb hKN.1 hP hD hS (by decide) (by decide +kernel) (by decide) (by decide +kernel) (dc kd_Mo_init 208 rfl) (fun H locs hP hD hS => ?_)
  refine lv_dup hx hb (dc kd_Mo_init 209 rfl) rfl ?_
  refine lv_bipush (v := 35) hx hb (dc kd_Mo_init 210 rfl) (by decide) ?_
  refine lv_bipush (v := 108) hx hb (dc kd_Mo_init 211 rfl) (by decide) ?_
  refine nw_bast (j := 35) hx hb hKN.1 hP hD hS (by decide) (by decide +kernel) (by decide) (by decide +kernel) (dc kd_Mo_init 212 rfl) (fun H locs hP hD hS => ?_)
  refine lv_dup hx hb (dc kd_Mo_init 213 rfl) rfl ?_
  refine lv_bipush (v := 36) hx hb (dc kd_Mo_init 214 rfl) (by decide) ?_
  refine lv_bipush (v := 101) hx hb (dc kd_Mo_init 215 rfl) (by decide) ?_
  refine nw_bast (j := 36) hx hb hKN.1 hP hD hS (by decide) (by decide +kernel) (by decide) (by decide +kernel) (dc kd_Mo_init 216 rfl) (fun H locs hP hD hS => ?_)
  refine lv_dup hx hb (dc kd_Mo_init 217 rfl) rfl ?_
  refine lv_bipush (v := 37) hx hb (dc kd_Mo_init 218 rfl) (by decide) ?_
  refine lv_bipush (v := 102) hx hb (dc kd_Mo_init 219 rfl) (by decide) ?_
  refine nw_bast (j := 37) hx hb hKN.1 hP hD hS (by decide) (by decide +kernel) (by decide) (by decide +kernel) (dc kd_Mo_init 220 rfl) (fun H locs hP hD hS => ?_)
  refine lv_dup hx hb (dc kd_Mo_init 221 rfl) rfl ?_
  refine lv_bipush (v := 38) hx hb (dc kd_Mo_init 222 rfl) (by decide) ?_
  refine lv_bipush (v := 116) hx hb (dc kd_Mo_init 223 rfl) (by decide) ?_
  refine nw_bast (j := 38) hx hb hKN.1 hP hD hS (by decide) (by decide +kernel) (by decide) (by decide +kernel) (dc kd_Mo_init 224 rfl) (fun H locs hP hD hS => ?_)
  refine lv_dup hx hb (dc kd_Mo_init 225 rfl) rfl ?_
  refine lv_bipush (v := 39) hx hb (dc kd_Mo_init 226 rfl) (by decide) ?_
  refine lv_iconst (v := 0) hx hb (dc kd_Mo_init 227 rfl) (by decide) ?_
  refine nw_bast (j := 39) hx hb hKN.1 hP hD hS (by decide) (by decide +kernel) (by decide) (by decide +kernel) (dc kd_Mo_init 228 rfl) (fun H locs hP hD hS => ?_)
  exact kk H locs hP hD hS
set_option maxRecDepth 100000 in
theorem mo_17 {q : Nat} (C : MOC p s m meth c A args ls D cy h0) (hfs : fs.length = 33) (hP : va_P D vwCl (((h0, .inr (10, fs)) :: Rk) ++ [(q, .inl (cy 1, 40, .inl (wF 40)))]) H) (hD : va_D A (((h0, .inr (10, fs)) :: Rk) ++ [(q, .inl (cy 1, 40, .inl (wF 40)))])) (hS : va_S A s.heap H locs) (kk : ∀ (H : Heap) (locs : List Loc), va_P D vwCl ((h0, .inr (10, fs.set 27 (.ref q))) :: (Rk ++ [(q, .inl (cy 1, 40, .inl (wF 40)))])) H → va_D A ((h0, .inr (10, fs.set 27 (.ref q))) :: (Rk ++ [(q, .inl (cy 1, 40, .inl (wF 40)))])) → va_S A s.heap H locs → W p l e ({ frames := 2, cells := 17, slots := 94769, locals := 200 } : Room) s m args below meth c H locs 17 94769 Q (F0 m 373 ls [])) : W p l e ({ frames := 2, cells := 17, slots := 94769, locals := 200 } : Room) s m args below meth c H locs 17 94769 Q (F0 m 370 ls [.ref q, .ref h0]) := by
  obtain ⟨hx, hb, hml, hown, hts, hin, hKN, hA, hl⟩ := C
  refine va_putF (D := D) (ci := 10) (v := .ref q) (ty := .array .byte) (own := R_Mo) (C := R_Mo) (T := T_Mo) (N := 33) hx hb hts ck_Mo.good ty_Mo tok_Mo ck_Mo.2.2 hown hKN.1 hP hD hS 0 rfl rfl 27 (by decide) (hts _ (gd (List.mem_of_getElem? (i := 1025) (by decide +kernel)) rfl)) (fun _ h9 => h9) rfl hin rfl (by decide +kernel) rfl rfl (by rw [hfs]; decide) (dc kd_Mo_init 229 rfl) (fun H locs hP hD hS => ?_)
  exact kk H locs hP hD hS
end MOS
