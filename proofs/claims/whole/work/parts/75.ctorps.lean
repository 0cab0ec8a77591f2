def k_PS_init : List (Nat × Instr × Nat) := [(0, .aload_n 0, 1), (1, .invokespecial 1, 3), (4, .aload_n 0, 1), (5, .new 7, 3), (8, .dup, 1), (9, .invokespecial 9, 3), (12, .putfield 10, 3), (15, .aload_n 0, 1), (16, .new 7, 3), (19, .dup, 1), (20, .invokespecial 9, 3), (23, .putfield 16, 3), (26, .aload_n 0, 1), (27, .new 19, 3), (30, .dup, 1), (31, .invokespecial 21, 3), (34, .putfield 22, 3), (37, .aload_n 0, 1), (38, .new 26, 3), (41, .dup, 1), (42, .invokespecial 28, 3), (45, .putfield 29, 3), (48, .aload_n 0, 1), (49, .new 33, 3), (52, .dup, 1), (53, .invokespecial 35, 3), (56, .putfield 36, 3), (59, .aload_n 0, 1), (60, .new 40, 3), (63, .dup, 1), (64, .invokespecial 42, 3), (67, .putfield 43, 3), (70, .aload_n 0, 1), (71, .new 47, 3), (74, .dup, 1), (75, .invokespecial 49, 3), (78, .putfield 50, 3), (81, .aload_n 0, 1), (82, .new 54, 3), (85, .dup, 1), (86, .invokespecial 56, 3), (89, .putfield 57, 3), (92, .aload_n 0, 1), (93, .new 61, 3), (96, .dup, 1), (97, .invokespecial 63, 3), (100, .putfield 64, 3), (103, .aload_n 0, 1), (104, .new 68, 3), (107, .dup, 1), (108, .invokespecial 70, 3), (111, .putfield 71, 3), (114, .return_, 1)]
set_option maxRecDepth 100000 in
theorem kd_PS_init : ∀ q ∈ k_PS_init, decode prog_1_method_1_code q.1 = .ok q.2 := by decide +kernel
theorem tok_PS : ∀ k, k < 10 → parseFieldDescriptor (T_PS k).2.2.1 = some (ty_PS k) := by decide +kernel
def sh_PS : List Sh := [.inr (9, [some 1, some 3, some 5, some 8, some 10, some 11, some 14, some 15, some 18, some 27]), .inr (1, [some 2, none, none]), .inl (0, 17), .inr (1, [some 4, none, none]), .inl (0, 17), .inr (2, [some 6, some 7, none, none]), .inl (0, 12), .inl (0, 192), .inr (6, [some 9, none]), .inl (1, 400), .inr (5, [none]), .inr (8, [some 12, some 13, none, none, none, none, none, none]), .inl (0, 10), .inl (0, 1024), .inr (0, [none, none]), .inr (7, [some 16, some 17, none]), .inl (0, 17), .inl (0, 256), .inr (3, [some 19, some 21, some 23, some 24, some 25, some 26, none, none, none]), .inr (1, [some 20, none, none]), .inl (0, 17), .inr (1, [some 22, none, none]), .inl (0, 17), .inl (0, 16), .inl (0, 16), .inl (0, 16), .inl (0, 16), .inr (4, [some 28, none]), .inl (1, 512)]
def mem_PS : Mem := fun c j => if c = 1 ∧ j = 2 then 6 else if c = 3 ∧ j = 2 then 6 else if c = 14 ∧ j = 1 then (-2) else if c = 19 ∧ j = 2 then 6 else if c = 21 ∧ j = 2 then 6 else 0

theorem joinX {A0 : Nat → Prop} {D : va_G} {X w1 : va_W} {q : Nat} {e : va_E} {H H1 : Heap} (hP : va_P D vwCl (X ++ [(q, e)]) H) (hD : va_D A0 (X ++ [(q, e)])) (hk : ∀ x : Nat, x < H.size → ¬ va_A [(q, e)] H.size x → H1[x]? = H[x]?) (hF : ∀ x, va_A [(q, e)] H.size x → A0 x) (hP1 : va_P D vwCl w1 H1) (hD1 : va_D (va_A [(q, e)] H.size) w1) : va_P D vwCl (X ++ w1) H1 ∧ va_D A0 (X ++ w1) := by
  have hlast : (X ++ [(q, e)])[X.length]? = some (q, e) := by simp
  have inX : ∀ (k : Nat) (x : Nat × va_E), X[k]? = some x → k < X.length ∧ (X ++ [(q, e)])[k]? = some x := fun k x hx => by
    have hk := (List.getElem?_eq_some_iff.mp hx).1
    exact ⟨hk, by rw [List.getElem?_append_left hk]; exact hx⟩
  have apart : ∀ (k : Nat) (x : Nat × va_E), X[k]? = some x → x.1 < H.size ∧ ¬ va_A [(q, e)] H.size x.1 := by
    intro k x hx
    obtain ⟨h1, h2⟩ := inX k x hx
    have hl := (hP k x h2).lt
    refine ⟨hl, fun z => ?_⟩
    rcases z with ⟨k2, e2, z⟩ | z
    · have hz : k2 < 1 := (List.getElem?_eq_some_iff.mp z).1
      rw [show k2 = 0 by omega] at z
      have z1 : (q, e) = (x.1, e2) := Option.some.inj z
      have := hD.1 k X.length x (q, e) h2 hlast (by rw [z1])
      omega
    · omega
  refine ⟨va_P.app (fun k x hx => ?_) hP1, va_D.app ⟨fun i j x y hx hy hxy => hD.1 i j x y (inX i x hx).2 (inX j y hy).2 hxy, fun k x hx => hD.2 k x (inX k x hx).2⟩ (hD1.weaken (fun k x _ h => hF x.1 h)) (fun i j x y hx hy hxy => ?_)⟩
  · obtain ⟨g1, g2⟩ := apart k x hx
    exact (hP k x (inX k x hx).2).kept (hk x.1 g1 g2)
  · exact (apart i x hx).2 (by rw [hxy]; exact hD1.2 j y hy)
theorem lastP {D : va_G} {X : va_W} {x : Nat × va_E} {H : Heap} (hP : va_P D vwCl (X ++ [x]) H) : va_P D vwCl [x] H := fun k y hy => by
  have hz : k < 1 := (List.getElem?_eq_some_iff.mp hy).1
  rw [show k = 0 by omega] at hy
  cases hy
  exact hP X.length x (by simp)
theorem lastD {A : Nat → Prop} {X : va_W} {x : Nat × va_E} (hD : va_D A (X ++ [x])) : va_D (fun _ => True) [x] := ⟨fun i j y z hy hz _ => by
  have h1 : i < 1 := (List.getElem?_eq_some_iff.mp hy).1
  have h2 : j < 1 := (List.getElem?_eq_some_iff.mp hz).1
  omega, fun _ _ _ => trivial⟩
theorem lastF {A : Nat → Prop} {X : va_W} {q : Nat} {e : va_E} {H0 H : Heap} {locs : List Loc} (hD : va_D A (X ++ [(q, e)])) (hS : va_S A H0 H locs) (hA : ∀ q, H0.size ≤ q → A q) : ∀ x, va_A [(q, e)] H.size x → A x := by
  intro x h
  rcases h with ⟨k, e2, h⟩ | h
  · have hz : k < 1 := (List.getElem?_eq_some_iff.mp h).1
    rw [show k = 0 by omega] at h
    have z1 : (q, e) = (x, e2) := Option.some.inj h
    have := hD.2 X.length (q, e) (by simp)
    rw [z1] at this
    exact this
  · exact hA x (Nat.le_trans hS.1 h)
def PSC (p : Program) (s : State) (m : MethodId) (meth : Method) (c : Code) (A : Nat → Prop) (args : Array Value) (ls : Array Slot) (D : va_G) (cy : Nat → ClassId) (h0 : Nat) : Prop := p.tables.exec = Jvm.exec ∧ c.code = m_PS_init.2.1 ∧ c.maxLocals = m_PS_init.2.2.1 ∧ s.vm.findClass R_PS = some m.cls ∧ (∀ w ∈ lw_gd, w.before args s = true) ∧ meth.name = "<init>" ∧ KN D cy s ∧ (∀ q : Nat, s.heap.size ≤ q → A q) ∧ lv_has ls 1 [(0, .ref h0)]
section PSS
variable {p : Program} {l : Launch} {e : Env} {s : State} {m : MethodId} {args : Array Value} {below : List Frame} {meth : Method} {c : Code} {H : Heap} {locs : List Loc} {Q : State → Prop} {ls : Array Slot} {A : Nat → Prop} {D : va_G} {cy : Nat → ClassId} {h0 : Nat} {Rk : va_W}

set_option maxHeartbeats 4000000 in
set_option maxRecDepth 100000 in
theorem ps_0 (C : PSC p s m meth c A args ls D cy h0) (hP : va_P D vwCl ((h0, .inr (9, [.null, .null, .null, .null, .null, .null, .null, .null, .null, .null])) :: Rk) H) (hD : va_D A ((h0, .inr (9, [.null, .null, .null, .null, .null, .null, .null, .null, .null, .null])) :: Rk)) (hS : va_S A s.heap H locs) (kk : ∀ (u : Nat → Nat) (H : Heap) (locs : List Loc), va_P D vwCl ((h0, .inr (9, [.ref (u 0), .null, .null, .null, .null, .null, .null, .null, .null, .null])) :: (Rk ++ lay cy u mem_Family sh_Family)) H → va_D A ((h0, .inr (9, [.ref (u 0), .null, .null, .null, .null, .null, .null, .null, .null, .null])) :: (Rk ++ lay cy u mem_Family sh_Family)) → va_S A s.heap H locs → W p l e ({ frames := 3, cells := 28, slots := 2598, locals := 200 } : Room) s m args below meth c H locs 2 20 Q (F0 m 15 ls [])) : W p l e ({ frames := 3, cells := 28, slots := 2598, locals := 200 } : Room) s m args below meth c H locs 0 0 Q (F0 m 4 ls []) := by
  obtain ⟨hx, hb, hml, hown, hts, hin, hKN, hA, hl⟩ := C
  refine lv_aload_n hx hb (dc kd_PS_init 2 rfl) rfl (lv_at hl 0 rfl) ?_
  refine va_new (ci := 1) (fs := [.null, .int 0, .int 0]) (own := R_PS) (C := R_Family) (T := T_Family) (N := 3) hx hb hts ck_Family.good ty_Family tok_Family hown (hts _ (gd (List.mem_of_getElem? (i := 98) (by decide +kernel)) rfl)) (hts _ (gd (List.mem_of_getElem? (i := 99) (by decide +kernel)) rfl)) (hts _ (gd (List.mem_of_getElem? (i := 73) (by decide +kernel)) rfl)) hKN.1 hP hD hS hA rfl (fun j hj => by rcases (show j = 0 ∨ j = 1 ∨ j = 2 by omega) with rfl | rfl | rfl <;> rfl) (Nat.le_of_ble_eq_true rfl) (Nat.le_of_ble_eq_true rfl) (dc kd_PS_init 3 rfl) (fun q H hP hD hS => ?_)
  refine lv_dup hx hb (dc kd_PS_init 4 rfl) rfl ?_
  have hPc := lastP hP
  have hFc := lastF hD hS hA
  refine va_callv (va_runIN (host := "PetalSets") (As := []) (rest := [.ref q, .ref h0]) ⟨hx, hb, hml, hown, hts⟩ (c_Family l D cy q H.size) ⟨va_cnB 0 hts (tbl_in m_Family_init 0 ok_Family_init) rfl rfl rfl (hKN.2 _ _ _ _ (List.mem_of_getElem? (i := 100) (by decide +kernel))) (hts _ (gd (List.mem_of_getElem? (i := 73) (by decide +kernel)) rfl)) ok_Family_init.2.2.2.1 ⟨Nat.le_of_ble_eq_true rfl, Nat.le_of_ble_eq_true rfl⟩, rfl, (hts _ (gd (List.mem_of_getElem? (i := 101) (by decide +kernel)) rfl))⟩ ⟨fun a U g mk q => by obtain ⟨q0, q1, qP, qK, qD⟩ := q; exact ⟨q0, q1, qP, qK.blind g mk a, qD⟩, fun U hU hW => ⟨rfl, by rw [hU], by rw [hU]; exact hPc, hKN.warm hW, lastD hD⟩⟩ rfl rfl hl.1 rfl (lv_room (Nat.le_of_ble_eq_true rfl)) (dc kd_PS_init 5 rfl) ⟨Nat.le_of_ble_eq_true rfl, Nat.le_of_ble_eq_true rfl⟩) hS (fun q _ h => hFc q h) hFc (fun u t H1 locs ht hvm hw hB hz1 hk1 hS => ?_)
  obtain ⟨hP1, hD1⟩ := hB
  rw [ht] at hP1
  obtain ⟨hP, hD⟩ := joinX (X := (h0, .inr (9, [.null, .null, .null, .null, .null, .null, .null, .null, .null, .null])) :: Rk) hP hD hk1 hFc hP1 hD1
  refine va_putF (D := D) (ci := 9) (v := .ref q) (ty := .object "PetalSets$Family") (own := R_PS) (C := R_PS) (T := T_PS) (N := 10) hx hb hts ck_PS.good ty_PS tok_PS ck_PS.2.2 hown hKN.1 hP hD hS 0 rfl rfl 0 (by decide) (hts _ (gd (List.mem_of_getElem? (i := 294) (by decide +kernel)) rfl)) (fun _ h9 => h9) rfl hin rfl (by decide +kernel) rfl rfl (Nat.le_of_ble_eq_true rfl) (dc kd_PS_init 6 rfl) (fun H locs hP hD hS => ?_)
  have hw : u 0 = q := hw
  refine W.widen (k := 2) (n := 20) (Nat.le_of_ble_eq_true rfl) (Nat.le_of_ble_eq_true rfl) ?_
  refine kk u H locs ?_ ?_ hS
  · rw [hw]; exact hP
  · rw [hw]; exact hD
set_option maxHeartbeats 4000000 in
set_option maxRecDepth 100000 in
theorem ps_1 {v0 : Value} (C : PSC p s m meth c A args ls D cy h0) (hP : va_P D vwCl ((h0, .inr (9, [v0, .null, .null, .null, .null, .null, .null, .null, .null, .null])) :: Rk) H) (hD : va_D A ((h0, .inr (9, [v0, .null, .null, .null, .null, .null, .null, .null, .null, .null])) :: Rk)) (hS : va_S A s.heap H locs) (kk : ∀ (u : Nat → Nat) (H : Heap) (locs : List Loc), va_P D vwCl ((h0, .inr (9, [v0, .ref (u 0), .null, .null, .null, .null, .null, .null, .null, .null])) :: (Rk ++ lay cy u mem_Family sh_Family)) H → va_D A ((h0, .inr (9, [v0, .ref (u 0), .null, .null, .null, .null, .null, .null, .null, .null])) :: (Rk ++ lay cy u mem_Family sh_Family)) → va_S A s.heap H locs → W p l e ({ frames := 3, cells := 28, slots := 2598, locals := 200 } : Room) s m args below meth c H locs 4 40 Q (F0 m 26 ls [])) : W p l e ({ frames := 3, cells := 28, slots := 2598, locals := 200 } : Room) s m args below meth c H locs 2 20 Q (F0 m 15 ls []) := by
  obtain ⟨hx, hb, hml, hown, hts, hin, hKN, hA, hl⟩ := C
  refine lv_aload_n hx hb (dc kd_PS_init 7 rfl) rfl (lv_at hl 0 rfl) ?_
  refine va_new (ci := 1) (fs := [.null, .int 0, .int 0]) (own := R_PS) (C := R_Family) (T := T_Family) (N := 3) hx hb hts ck_Family.good ty_Family tok_Family hown (hts _ (gd (List.mem_of_getElem? (i := 98) (by decide +kernel)) rfl)) (hts _ (gd (List.mem_of_getElem? (i := 99) (by decide +kernel)) rfl)) (hts _ (gd (List.mem_of_getElem? (i := 73) (by decide +kernel)) rfl)) hKN.1 hP hD hS hA rfl (fun j hj => by rcases (show j = 0 ∨ j = 1 ∨ j = 2 by omega) with rfl | rfl | rfl <;> rfl) (Nat.le_of_ble_eq_true rfl) (Nat.le_of_ble_eq_true rfl) (dc kd_PS_init 8 rfl) (fun q H hP hD hS => ?_)
  refine lv_dup hx hb (dc kd_PS_init 9 rfl) rfl ?_
  have hPc := lastP hP
  have hFc := lastF hD hS hA
  refine va_callv (va_runIN (host := "PetalSets") (As := []) (rest := [.ref q, .ref h0]) ⟨hx, hb, hml, hown, hts⟩ (c_Family l D cy q H.size) ⟨va_cnB 0 hts (tbl_in m_Family_init 0 ok_Family_init) rfl rfl rfl (hKN.2 _ _ _ _ (List.mem_of_getElem? (i := 100) (by decide +kernel))) (hts _ (gd (List.mem_of_getElem? (i := 73) (by decide +kernel)) rfl)) ok_Family_init.2.2.2.1 ⟨Nat.le_of_ble_eq_true rfl, Nat.le_of_ble_eq_true rfl⟩, rfl, (hts _ (gd (List.mem_of_getElem? (i := 101) (by decide +kernel)) rfl))⟩ ⟨fun a U g mk q => by obtain ⟨q0, q1, qP, qK, qD⟩ := q; exact ⟨q0, q1, qP, qK.blind g mk a, qD⟩, fun U hU hW => ⟨rfl, by rw [hU], by rw [hU]; exact hPc, hKN.warm hW, lastD hD⟩⟩ rfl rfl hl.1 rfl (lv_room (Nat.le_of_ble_eq_true rfl)) (dc kd_PS_init 10 rfl) ⟨Nat.le_of_ble_eq_true rfl, Nat.le_of_ble_eq_true rfl⟩) hS (fun q _ h => hFc q h) hFc (fun u t H1 locs ht hvm hw hB hz1 hk1 hS => ?_)
  obtain ⟨hP1, hD1⟩ := hB
  rw [ht] at hP1
  obtain ⟨hP, hD⟩ := joinX (X := (h0, .inr (9, [v0, .null, .null, .null, .null, .null, .null, .null, .null, .null])) :: Rk) hP hD hk1 hFc hP1 hD1
  refine va_putF (D := D) (ci := 9) (v := .ref q) (ty := .object "PetalSets$Family") (own := R_PS) (C := R_PS) (T := T_PS) (N := 10) hx hb hts ck_PS.good ty_PS tok_PS ck_PS.2.2 hown hKN.1 hP hD hS 0 rfl rfl 1 (by decide) (hts _ (gd (List.mem_of_getElem? (i := 295) (by decide +kernel)) rfl)) (fun _ h9 => h9) rfl hin rfl (by decide +kernel) rfl rfl (Nat.le_of_ble_eq_true rfl) (dc kd_PS_init 11 rfl) (fun H locs hP hD hS => ?_)
  have hw : u 0 = q := hw
  refine W.widen (k := 4) (n := 40) (Nat.le_of_ble_eq_true rfl) (Nat.le_of_ble_eq_true rfl) ?_
  refine kk u H locs ?_ ?_ hS
  · rw [hw]; exact hP
  · rw [hw]; exact hD
set_option maxHeartbeats 4000000 in
set_option maxRecDepth 100000 in
theorem ps_2 {v0 v1 : Value} (C : PSC p s m meth c A args ls D cy h0) (hP : va_P D vwCl ((h0, .inr (9, [v0, v1, .null, .null, .null, .null, .null, .null, .null, .null])) :: Rk) H) (hD : va_D A ((h0, .inr (9, [v0, v1, .null, .null, .null, .null, .null, .null, .null, .null])) :: Rk)) (hS : va_S A s.heap H locs) (kk : ∀ (u : Nat → Nat) (H : Heap) (locs : List Loc), va_P D vwCl ((h0, .inr (9, [v0, v1, .ref (u 0), .null, .null, .null, .null, .null, .null, .null])) :: (Rk ++ lay cy u mem_History sh_History)) H → va_D A ((h0, .inr (9, [v0, v1, .ref (u 0), .null, .null, .null, .null, .null, .null, .null])) :: (Rk ++ lay cy u mem_History sh_History)) → va_S A s.heap H locs → W p l e ({ frames := 3, cells := 28, slots := 2598, locals := 200 } : Room) s m args below meth c H locs 7 248 Q (F0 m 37 ls [])) : W p l e ({ frames := 3, cells := 28, slots := 2598, locals := 200 } : Room) s m args below meth c H locs 4 40 Q (F0 m 26 ls []) := by
  obtain ⟨hx, hb, hml, hown, hts, hin, hKN, hA, hl⟩ := C
  refine lv_aload_n hx hb (dc kd_PS_init 12 rfl) rfl (lv_at hl 0 rfl) ?_
  refine va_new (ci := 2) (fs := [.null, .null, .int 0, .int 0]) (own := R_PS) (C := R_History) (T := T_History) (N := 4) hx hb hts ck_History.good ty_History tok_History hown (hts _ (gd (List.mem_of_getElem? (i := 125) (by decide +kernel)) rfl)) (hts _ (gd (List.mem_of_getElem? (i := 126) (by decide +kernel)) rfl)) (hts _ (gd (List.mem_of_getElem? (i := 74) (by decide +kernel)) rfl)) hKN.1 hP hD hS hA rfl (fun j hj => by rcases (show j = 0 ∨ j = 1 ∨ j = 2 ∨ j = 3 by omega) with rfl | rfl | rfl | rfl <;> rfl) (Nat.le_of_ble_eq_true rfl) (Nat.le_of_ble_eq_true rfl) (dc kd_PS_init 13 rfl) (fun q H hP hD hS => ?_)
  refine lv_dup hx hb (dc kd_PS_init 14 rfl) rfl ?_
  have hPc := lastP hP
  have hFc := lastF hD hS hA
  refine va_callv (va_runIN (host := "PetalSets") (As := []) (rest := [.ref q, .ref h0]) ⟨hx, hb, hml, hown, hts⟩ (c_History l D cy q H.size) ⟨va_cnB 0 hts (tbl_in m_History_init 0 ok_History_init) rfl rfl rfl (hKN.2 _ _ _ _ (List.mem_of_getElem? (i := 127) (by decide +kernel))) (hts _ (gd (List.mem_of_getElem? (i := 74) (by decide +kernel)) rfl)) ok_History_init.2.2.2.1 ⟨Nat.le_of_ble_eq_true rfl, Nat.le_of_ble_eq_true rfl⟩, rfl, (hts _ (gd (List.mem_of_getElem? (i := 128) (by decide +kernel)) rfl))⟩ ⟨fun a U g mk q => by obtain ⟨q0, q1, qP, qK, qD⟩ := q; exact ⟨q0, q1, qP, qK.blind g mk a, qD⟩, fun U hU hW => ⟨rfl, by rw [hU], by rw [hU]; exact hPc, hKN.warm hW, lastD hD⟩⟩ rfl rfl hl.1 rfl (lv_room (Nat.le_of_ble_eq_true rfl)) (dc kd_PS_init 15 rfl) ⟨Nat.le_of_ble_eq_true rfl, Nat.le_of_ble_eq_true rfl⟩) hS (fun q _ h => hFc q h) hFc (fun u t H1 locs ht hvm hw hB hz1 hk1 hS => ?_)
  obtain ⟨hP1, hD1⟩ := hB
  rw [ht] at hP1
  obtain ⟨hP, hD⟩ := joinX (X := (h0, .inr (9, [v0, v1, .null, .null, .null, .null, .null, .null, .null, .null])) :: Rk) hP hD hk1 hFc hP1 hD1
  refine va_putF (D := D) (ci := 9) (v := .ref q) (ty := .object "PetalSets$History") (own := R_PS) (C := R_PS) (T := T_PS) (N := 10) hx hb hts ck_PS.good ty_PS tok_PS ck_PS.2.2 hown hKN.1 hP hD hS 0 rfl rfl 2 (by decide) (hts _ (gd (List.mem_of_getElem? (i := 296) (by decide +kernel)) rfl)) (fun _ h9 => h9) rfl hin rfl (by decide +kernel) rfl rfl (Nat.le_of_ble_eq_true rfl) (dc kd_PS_init 16 rfl) (fun H locs hP hD hS => ?_)
  have hw : u 0 = q := hw
  refine W.widen (k := 7) (n := 248) (Nat.le_of_ble_eq_true rfl) (Nat.le_of_ble_eq_true rfl) ?_
  refine kk u H locs ?_ ?_ hS
  · rw [hw]; exact hP
  · rw [hw]; exact hD
set_option maxHeartbeats 4000000 in
set_option maxRecDepth 100000 in
theorem ps_3 {v0 v1 v2 : Value} (C : PSC p s m meth c A args ls D cy h0) (hP : va_P D vwCl ((h0, .inr (9, [v0, v1, v2, .null, .null, .null, .null, .null, .null, .null])) :: Rk) H) (hD : va_D A ((h0, .inr (9, [v0, v1, v2, .null, .null, .null, .null, .null, .null, .null])) :: Rk)) (hS : va_S A s.heap H locs) (kk : ∀ (u : Nat → Nat) (H : Heap) (locs : List Loc), va_P D vwCl ((h0, .inr (9, [v0, v1, v2, .ref (u 0), .null, .null, .null, .null, .null, .null])) :: (Rk ++ lay cy u mem_Tape sh_Tape)) H → va_D A ((h0, .inr (9, [v0, v1, v2, .ref (u 0), .null, .null, .null, .null, .null, .null])) :: (Rk ++ lay cy u mem_Tape sh_Tape)) → va_S A s.heap H locs → W p l e ({ frames := 3, cells := 28, slots := 2598, locals := 200 } : Room) s m args below meth c H locs 9 650 Q (F0 m 48 ls [])) : W p l e ({ frames := 3, cells := 28, slots := 2598, locals := 200 } : Room) s m args below meth c H locs 7 248 Q (F0 m 37 ls []) := by
  obtain ⟨hx, hb, hml, hown, hts, hin, hKN, hA, hl⟩ := C
  refine lv_aload_n hx hb (dc kd_PS_init 17 rfl) rfl (lv_at hl 0 rfl) ?_
  refine va_new (ci := 6) (fs := [.null, .int 0]) (own := R_PS) (C := R_Tape) (T := T_Tape) (N := 2) hx hb hts ck_Tape.good ty_Tape tok_Tape hown (hts _ (gd (List.mem_of_getElem? (i := 145) (by decide +kernel)) rfl)) (hts _ (gd (List.mem_of_getElem? (i := 146) (by decide +kernel)) rfl)) (hts _ (gd (List.mem_of_getElem? (i := 75) (by decide +kernel)) rfl)) hKN.1 hP hD hS hA rfl (fun j hj => by rcases (show j = 0 ∨ j = 1 by omega) with rfl | rfl <;> rfl) (Nat.le_of_ble_eq_true rfl) (Nat.le_of_ble_eq_true rfl) (dc kd_PS_init 18 rfl) (fun q H hP hD hS => ?_)
  refine lv_dup hx hb (dc kd_PS_init 19 rfl) rfl ?_
  have hPc := lastP hP
  have hFc := lastF hD hS hA
  refine va_callv (va_runIN (host := "PetalSets") (As := []) (rest := [.ref q, .ref h0]) ⟨hx, hb, hml, hown, hts⟩ (c_Tape l D cy q H.size) ⟨va_cnB 0 hts (tbl_in m_Tape_init 0 ok_Tape_init) rfl rfl rfl (hKN.2 _ _ _ _ (List.mem_of_getElem? (i := 147) (by decide +kernel))) (hts _ (gd (List.mem_of_getElem? (i := 75) (by decide +kernel)) rfl)) ok_Tape_init.2.2.2.1 ⟨Nat.le_of_ble_eq_true rfl, Nat.le_of_ble_eq_true rfl⟩, rfl, (hts _ (gd (List.mem_of_getElem? (i := 148) (by decide +kernel)) rfl))⟩ ⟨fun a U g mk q => by obtain ⟨q0, q1, qP, qK, qD⟩ := q; exact ⟨q0, q1, qP, qK.blind g mk a, qD⟩, fun U hU hW => ⟨rfl, by rw [hU], by rw [hU]; exact hPc, hKN.warm hW, lastD hD⟩⟩ rfl rfl hl.1 rfl (lv_room (Nat.le_of_ble_eq_true rfl)) (dc kd_PS_init 20 rfl) ⟨Nat.le_of_ble_eq_true rfl, Nat.le_of_ble_eq_true rfl⟩) hS (fun q _ h => hFc q h) hFc (fun u t H1 locs ht hvm hw hB hz1 hk1 hS => ?_)
  obtain ⟨hP1, hD1⟩ := hB
  rw [ht] at hP1
  obtain ⟨hP, hD⟩ := joinX (X := (h0, .inr (9, [v0, v1, v2, .null, .null, .null, .null, .null, .null, .null])) :: Rk) hP hD hk1 hFc hP1 hD1
  refine va_putF (D := D) (ci := 9) (v := .ref q) (ty := .object "PetalSets$Tape") (own := R_PS) (C := R_PS) (T := T_PS) (N := 10) hx hb hts ck_PS.good ty_PS tok_PS ck_PS.2.2 hown hKN.1 hP hD hS 0 rfl rfl 3 (by decide) (hts _ (gd (List.mem_of_getElem? (i := 297) (by decide +kernel)) rfl)) (fun _ h9 => h9) rfl hin rfl (by decide +kernel) rfl rfl (Nat.le_of_ble_eq_true rfl) (dc kd_PS_init 21 rfl) (fun H locs hP hD hS => ?_)
  have hw : u 0 = q := hw
  refine W.widen (k := 9) (n := 650) (Nat.le_of_ble_eq_true rfl) (Nat.le_of_ble_eq_true rfl) ?_
  refine kk u H locs ?_ ?_ hS
  · rw [hw]; exact hP
  · rw [hw]; exact hD
set_option maxHeartbeats 4000000 in
set_option maxRecDepth 100000 in
theorem ps_4 {v0 v1 v2 v3 : Value} (C : PSC p s m meth c A args ls D cy h0) (hP : va_P D vwCl ((h0, .inr (9, [v0, v1, v2, v3, .null, .null, .null, .null, .null, .null])) :: Rk) H) (hD : va_D A ((h0, .inr (9, [v0, v1, v2, v3, .null, .null, .null, .null, .null, .null])) :: Rk)) (hS : va_S A s.heap H locs) (kk : ∀ (u : Nat → Nat) (H : Heap) (locs : List Loc), va_P D vwCl ((h0, .inr (9, [v0, v1, v2, v3, .ref (u 0), .null, .null, .null, .null, .null])) :: (Rk ++ lay cy u mem_Reader sh_Reader)) H → va_D A ((h0, .inr (9, [v0, v1, v2, v3, .ref (u 0), .null, .null, .null, .null, .null])) :: (Rk ++ lay cy u mem_Reader sh_Reader)) → va_S A s.heap H locs → W p l e ({ frames := 3, cells := 28, slots := 2598, locals := 200 } : Room) s m args below meth c H locs 10 651 Q (F0 m 59 ls [])) : W p l e ({ frames := 3, cells := 28, slots := 2598, locals := 200 } : Room) s m args below meth c H locs 9 650 Q (F0 m 48 ls []) := by
  obtain ⟨hx, hb, hml, hown, hts, hin, hKN, hA, hl⟩ := C
  refine lv_aload_n hx hb (dc kd_PS_init 22 rfl) rfl (lv_at hl 0 rfl) ?_
  refine va_new (ci := 5) (fs := [.int 0]) (own := R_PS) (C := R_Reader) (T := T_Reader) (N := 1) hx hb hts ck_Reader.good ty_Reader tok_Reader hown (hts _ (gd (List.mem_of_getElem? (i := 161) (by decide +kernel)) rfl)) (hts _ (gd (List.mem_of_getElem? (i := 162) (by decide +kernel)) rfl)) (hts _ (gd (List.mem_of_getElem? (i := 76) (by decide +kernel)) rfl)) hKN.1 hP hD hS hA rfl (fun j hj => by rcases (show j = 0 by omega) with rfl <;> rfl) (Nat.le_of_ble_eq_true rfl) (Nat.le_of_ble_eq_true rfl) (dc kd_PS_init 23 rfl) (fun q H hP hD hS => ?_)
  refine lv_dup hx hb (dc kd_PS_init 24 rfl) rfl ?_
  have hPc := lastP hP
  have hFc := lastF hD hS hA
  refine va_callv (va_runIN (host := "PetalSets") (As := []) (rest := [.ref q, .ref h0]) ⟨hx, hb, hml, hown, hts⟩ (c_Reader l D cy q H.size) ⟨va_cnB 0 hts (tbl_in m_Reader_init 0 ok_Reader_init) rfl rfl rfl (hKN.2 _ _ _ _ (List.mem_of_getElem? (i := 163) (by decide +kernel))) (hts _ (gd (List.mem_of_getElem? (i := 76) (by decide +kernel)) rfl)) ok_Reader_init.2.2.2.1 ⟨Nat.le_of_ble_eq_true rfl, Nat.le_of_ble_eq_true rfl⟩, rfl, (hts _ (gd (List.mem_of_getElem? (i := 164) (by decide +kernel)) rfl))⟩ ⟨fun a U g mk q => by obtain ⟨q0, q1, qP, qK, qD⟩ := q; exact ⟨q0, q1, qP, qK.blind g mk a, qD⟩, fun U hU hW => ⟨rfl, by rw [hU], by rw [hU]; exact hPc, hKN.warm hW, lastD hD⟩⟩ rfl rfl hl.1 rfl (lv_room (Nat.le_of_ble_eq_true rfl)) (dc kd_PS_init 25 rfl) ⟨Nat.le_of_ble_eq_true rfl, Nat.le_of_ble_eq_true rfl⟩) hS (fun q _ h => hFc q h) hFc (fun u t H1 locs ht hvm hw hB hz1 hk1 hS => ?_)
  obtain ⟨hP1, hD1⟩ := hB
  rw [ht] at hP1
  obtain ⟨hP, hD⟩ := joinX (X := (h0, .inr (9, [v0, v1, v2, v3, .null, .null, .null, .null, .null, .null])) :: Rk) hP hD hk1 hFc hP1 hD1
  refine va_putF (D := D) (ci := 9) (v := .ref q) (ty := .object "PetalSets$Reader") (own := R_PS) (C := R_PS) (T := T_PS) (N := 10) hx hb hts ck_PS.good ty_PS tok_PS ck_PS.2.2 hown hKN.1 hP hD hS 0 rfl rfl 4 (by decide) (hts _ (gd (List.mem_of_getElem? (i := 298) (by decide +kernel)) rfl)) (fun _ h9 => h9) rfl hin rfl (by decide +kernel) rfl rfl (Nat.le_of_ble_eq_true rfl) (dc kd_PS_init 26 rfl) (fun H locs hP hD hS => ?_)
  have hw : u 0 = q := hw
  refine W.widen (k := 10) (n := 651) (Nat.le_of_ble_eq_true rfl) (Nat.le_of_ble_eq_true rfl) ?_
  refine kk u H locs ?_ ?_ hS
  · rw [hw]; exact hP
  · rw [hw]; exact hD
set_option maxHeartbeats 4000000 in
set_option maxRecDepth 100000 in
theorem ps_5 {v0 v1 v2 v3 v4 : Value} (C : PSC p s m meth c A args ls D cy h0) (hP : va_P D vwCl ((h0, .inr (9, [v0, v1, v2, v3, v4, .null, .null, .null, .null, .null])) :: Rk) H) (hD : va_D A ((h0, .inr (9, [v0, v1, v2, v3, v4, .null, .null, .null, .null, .null])) :: Rk)) (hS : va_S A s.heap H locs) (kk : ∀ (u : Nat → Nat) (H : Heap) (locs : List Loc), va_P D vwCl ((h0, .inr (9, [v0, v1, v2, v3, v4, .ref (u 0), .null, .null, .null, .null])) :: (Rk ++ lay cy u mem_Touch sh_Touch)) H → va_D A ((h0, .inr (9, [v0, v1, v2, v3, v4, .ref (u 0), .null, .null, .null, .null])) :: (Rk ++ lay cy u mem_Touch sh_Touch)) → va_S A s.heap H locs → W p l e ({ frames := 3, cells := 28, slots := 2598, locals := 200 } : Room) s m args below meth c H locs 13 1693 Q (F0 m 70 ls [])) : W p l e ({ frames := 3, cells := 28, slots := 2598, locals := 200 } : Room) s m args below meth c H locs 10 651 Q (F0 m 59 ls []) := by
  obtain ⟨hx, hb, hml, hown, hts, hin, hKN, hA, hl⟩ := C
  refine lv_aload_n hx hb (dc kd_PS_init 27 rfl) rfl (lv_at hl 0 rfl) ?_
  refine va_new (ci := 8) (fs := [.null, .null, .int 0, .int 0, .int 0, .int 0, .int 0, .int 0]) (own := R_PS) (C := R_Touch) (T := T_Touch) (N := 8) hx hb hts ck_Touch.good ty_Touch tok_Touch hown (hts _ (gd (List.mem_of_getElem? (i := 171) (by decide +kernel)) rfl)) (hts _ (gd (List.mem_of_getElem? (i := 172) (by decide +kernel)) rfl)) (hts _ (gd (List.mem_of_getElem? (i := 77) (by decide +kernel)) rfl)) hKN.1 hP hD hS hA rfl (fun j hj => by rcases (show j = 0 ∨ j = 1 ∨ j = 2 ∨ j = 3 ∨ j = 4 ∨ j = 5 ∨ j = 6 ∨ j = 7 by omega) with rfl | rfl | rfl | rfl | rfl | rfl | rfl | rfl <;> rfl) (Nat.le_of_ble_eq_true rfl) (Nat.le_of_ble_eq_true rfl) (dc kd_PS_init 28 rfl) (fun q H hP hD hS => ?_)
  refine lv_dup hx hb (dc kd_PS_init 29 rfl) rfl ?_
  have hPc := lastP hP
  have hFc := lastF hD hS hA
  refine va_callv (va_runIN (host := "PetalSets") (As := []) (rest := [.ref q, .ref h0]) ⟨hx, hb, hml, hown, hts⟩ (c_Touch l D cy q H.size) ⟨va_cnB 0 hts (tbl_in m_Touch_init 0 ok_Touch_init) rfl rfl rfl (hKN.2 _ _ _ _ (List.mem_of_getElem? (i := 173) (by decide +kernel))) (hts _ (gd (List.mem_of_getElem? (i := 77) (by decide +kernel)) rfl)) ok_Touch_init.2.2.2.1 ⟨Nat.le_of_ble_eq_true rfl, Nat.le_of_ble_eq_true rfl⟩, rfl, (hts _ (gd (List.mem_of_getElem? (i := 174) (by decide +kernel)) rfl))⟩ ⟨fun a U g mk q => by obtain ⟨q0, q1, qP, qK, qD⟩ := q; exact ⟨q0, q1, qP, qK.blind g mk a, qD⟩, fun U hU hW => ⟨rfl, by rw [hU], by rw [hU]; exact hPc, hKN.warm hW, lastD hD⟩⟩ rfl rfl hl.1 rfl (lv_room (Nat.le_of_ble_eq_true rfl)) (dc kd_PS_init 30 rfl) ⟨Nat.le_of_ble_eq_true rfl, Nat.le_of_ble_eq_true rfl⟩) hS (fun q _ h => hFc q h) hFc (fun u t H1 locs ht hvm hw hB hz1 hk1 hS => ?_)
  obtain ⟨hP1, hD1⟩ := hB
  rw [ht] at hP1
  obtain ⟨hP, hD⟩ := joinX (X := (h0, .inr (9, [v0, v1, v2, v3, v4, .null, .null, .null, .null, .null])) :: Rk) hP hD hk1 hFc hP1 hD1
  refine va_putF (D := D) (ci := 9) (v := .ref q) (ty := .object "PetalSets$Touch") (own := R_PS) (C := R_PS) (T := T_PS) (N := 10) hx hb hts ck_PS.good ty_PS tok_PS ck_PS.2.2 hown hKN.1 hP hD hS 0 rfl rfl 5 (by decide) (hts _ (gd (List.mem_of_getElem? (i := 299) (by decide +kernel)) rfl)) (fun _ h9 => h9) rfl hin rfl (by decide +kernel) rfl rfl (Nat.le_of_ble_eq_true rfl) (dc kd_PS_init 31 rfl) (fun H locs hP hD hS => ?_)
  have hw : u 0 = q := hw
  refine W.widen (k := 13) (n := 1693) (Nat.le_of_ble_eq_true rfl) (Nat.le_of_ble_eq_true rfl) ?_
  refine kk u H locs ?_ ?_ hS
  · rw [hw]; exact hP
  · rw [hw]; exact hD
set_option maxHeartbeats 4000000 in
set_option maxRecDepth 100000 in
theorem ps_6 {v0 v1 v2 v3 v4 v5 : Value} (C : PSC p s m meth c A args ls D cy h0) (hP : va_P D vwCl ((h0, .inr (9, [v0, v1, v2, v3, v4, v5, .null, .null, .null, .null])) :: Rk) H) (hD : va_D A ((h0, .inr (9, [v0, v1, v2, v3, v4, v5, .null, .null, .null, .null])) :: Rk)) (hS : va_S A s.heap H locs) (kk : ∀ (u : Nat → Nat) (H : Heap) (locs : List Loc), va_P D vwCl ((h0, .inr (9, [v0, v1, v2, v3, v4, v5, .ref (u 0), .null, .null, .null])) :: (Rk ++ lay cy u mem_Cover sh_Cover)) H → va_D A ((h0, .inr (9, [v0, v1, v2, v3, v4, v5, .ref (u 0), .null, .null, .null])) :: (Rk ++ lay cy u mem_Cover sh_Cover)) → va_S A s.heap H locs → W p l e ({ frames := 3, cells := 28, slots := 2598, locals := 200 } : Room) s m args below meth c H locs 14 1695 Q (F0 m 81 ls [])) : W p l e ({ frames := 3, cells := 28, slots := 2598, locals := 200 } : Room) s m args below meth c H locs 13 1693 Q (F0 m 70 ls []) := by
  obtain ⟨hx, hb, hml, hown, hts, hin, hKN, hA, hl⟩ := C
  refine lv_aload_n hx hb (dc kd_PS_init 32 rfl) rfl (lv_at hl 0 rfl) ?_
  refine va_new (ci := 0) (fs := [.int 0, .int 0]) (own := R_PS) (C := R_Cover) (T := T_Cover) (N := 2) hx hb hts ck_Cover.good ty_Cover tok_Cover hown (hts _ (gd (List.mem_of_getElem? (i := 206) (by decide +kernel)) rfl)) (hts _ (gd (List.mem_of_getElem? (i := 207) (by decide +kernel)) rfl)) (hts _ (gd (List.mem_of_getElem? (i := 78) (by decide +kernel)) rfl)) hKN.1 hP hD hS hA rfl (fun j hj => by rcases (show j = 0 ∨ j = 1 by omega) with rfl | rfl <;> rfl) (Nat.le_of_ble_eq_true rfl) (Nat.le_of_ble_eq_true rfl) (dc kd_PS_init 33 rfl) (fun q H hP hD hS => ?_)
  refine lv_dup hx hb (dc kd_PS_init 34 rfl) rfl ?_
  have hPc := lastP hP
  have hFc := lastF hD hS hA
  refine va_callv (va_runIN (host := "PetalSets") (As := []) (rest := [.ref q, .ref h0]) ⟨hx, hb, hml, hown, hts⟩ (c_Cover l D cy q H.size) ⟨va_cnB 0 hts (tbl_in m_Cover_init 0 ok_Cover_init) rfl rfl rfl (hKN.2 _ _ _ _ (List.mem_of_getElem? (i := 208) (by decide +kernel))) (hts _ (gd (List.mem_of_getElem? (i := 78) (by decide +kernel)) rfl)) ok_Cover_init.2.2.2.1 ⟨Nat.le_of_ble_eq_true rfl, Nat.le_of_ble_eq_true rfl⟩, rfl, (hts _ (gd (List.mem_of_getElem? (i := 209) (by decide +kernel)) rfl))⟩ ⟨fun a U g mk q => by obtain ⟨q0, q1, qP, qK, qD⟩ := q; exact ⟨q0, q1, qP, qK.blind g mk a, qD⟩, fun U hU hW => ⟨rfl, by rw [hU], by rw [hU]; exact hPc, hKN.warm hW, lastD hD⟩⟩ rfl rfl hl.1 rfl (lv_room (Nat.le_of_ble_eq_true rfl)) (dc kd_PS_init 35 rfl) ⟨Nat.le_of_ble_eq_true rfl, Nat.le_of_ble_eq_true rfl⟩) hS (fun q _ h => hFc q h) hFc (fun u t H1 locs ht hvm hw hB hz1 hk1 hS => ?_)
  obtain ⟨hP1, hD1⟩ := hB
  rw [ht] at hP1
  obtain ⟨hP, hD⟩ := joinX (X := (h0, .inr (9, [v0, v1, v2, v3, v4, v5, .null, .null, .null, .null])) :: Rk) hP hD hk1 hFc hP1 hD1
  refine va_putF (D := D) (ci := 9) (v := .ref q) (ty := .object "PetalSets$Cover") (own := R_PS) (C := R_PS) (T := T_PS) (N := 10) hx hb hts ck_PS.good ty_PS tok_PS ck_PS.2.2 hown hKN.1 hP hD hS 0 rfl rfl 6 (by decide) (hts _ (gd (List.mem_of_getElem? (i := 300) (by decide +kernel)) rfl)) (fun _ h9 => h9) rfl hin rfl (by decide +kernel) rfl rfl (Nat.le_of_ble_eq_true rfl) (dc kd_PS_init 36 rfl) (fun H locs hP hD hS => ?_)
  have hw : u 0 = q := hw
  refine W.widen (k := 14) (n := 1695) (Nat.le_of_ble_eq_true rfl) (Nat.le_of_ble_eq_true rfl) ?_
  refine kk u H locs ?_ ?_ hS
  · rw [hw]; exact hP
  · rw [hw]; exact hD
set_option maxHeartbeats 4000000 in
set_option maxRecDepth 100000 in
theorem ps_7 {v0 v1 v2 v3 v4 v5 v6 : Value} (C : PSC p s m meth c A args ls D cy h0) (hP : va_P D vwCl ((h0, .inr (9, [v0, v1, v2, v3, v4, v5, v6, .null, .null, .null])) :: Rk) H) (hD : va_D A ((h0, .inr (9, [v0, v1, v2, v3, v4, v5, v6, .null, .null, .null])) :: Rk)) (hS : va_S A s.heap H locs) (kk : ∀ (u : Nat → Nat) (H : Heap) (locs : List Loc), va_P D vwCl ((h0, .inr (9, [v0, v1, v2, v3, v4, v5, v6, .ref (u 0), .null, .null])) :: (Rk ++ lay cy u mem_Thinner sh_Thinner)) H → va_D A ((h0, .inr (9, [v0, v1, v2, v3, v4, v5, v6, .ref (u 0), .null, .null])) :: (Rk ++ lay cy u mem_Thinner sh_Thinner)) → va_S A s.heap H locs → W p l e ({ frames := 3, cells := 28, slots := 2598, locals := 200 } : Room) s m args below meth c H locs 17 1971 Q (F0 m 92 ls [])) : W p l e ({ frames := 3, cells := 28, slots := 2598, locals := 200 } : Room) s m args below meth c H locs 14 1695 Q (F0 m 81 ls []) := by
  obtain ⟨hx, hb, hml, hown, hts, hin, hKN, hA, hl⟩ := C
  refine lv_aload_n hx hb (dc kd_PS_init 37 rfl) rfl (lv_at hl 0 rfl) ?_
  refine va_new (ci := 7) (fs := [.null, .null, .int 0]) (own := R_PS) (C := R_Thinner) (T := T_Thinner) (N := 3) hx hb hts ck_Thinner.good ty_Thinner tok_Thinner hown (hts _ (gd (List.mem_of_getElem? (i := 221) (by decide +kernel)) rfl)) (hts _ (gd (List.mem_of_getElem? (i := 222) (by decide +kernel)) rfl)) (hts _ (gd (List.mem_of_getElem? (i := 79) (by decide +kernel)) rfl)) hKN.1 hP hD hS hA rfl (fun j hj => by rcases (show j = 0 ∨ j = 1 ∨ j = 2 by omega) with rfl | rfl | rfl <;> rfl) (Nat.le_of_ble_eq_true rfl) (Nat.le_of_ble_eq_true rfl) (dc kd_PS_init 38 rfl) (fun q H hP hD hS => ?_)
  refine lv_dup hx hb (dc kd_PS_init 39 rfl) rfl ?_
  have hPc := lastP hP
  have hFc := lastF hD hS hA
  refine va_callv (va_runIN (host := "PetalSets") (As := []) (rest := [.ref q, .ref h0]) ⟨hx, hb, hml, hown, hts⟩ (c_Thinner l D cy q H.size) ⟨va_cnB 0 hts (tbl_in m_Thinner_init 0 ok_Thinner_init) rfl rfl rfl (hKN.2 _ _ _ _ (List.mem_of_getElem? (i := 223) (by decide +kernel))) (hts _ (gd (List.mem_of_getElem? (i := 79) (by decide +kernel)) rfl)) ok_Thinner_init.2.2.2.1 ⟨Nat.le_of_ble_eq_true rfl, Nat.le_of_ble_eq_true rfl⟩, rfl, (hts _ (gd (List.mem_of_getElem? (i := 224) (by decide +kernel)) rfl))⟩ ⟨fun a U g mk q => by obtain ⟨q0, q1, qP, qK, qD⟩ := q; exact ⟨q0, q1, qP, qK.blind g mk a, qD⟩, fun U hU hW => ⟨rfl, by rw [hU], by rw [hU]; exact hPc, hKN.warm hW, lastD hD⟩⟩ rfl rfl hl.1 rfl (lv_room (Nat.le_of_ble_eq_true rfl)) (dc kd_PS_init 40 rfl) ⟨Nat.le_of_ble_eq_true rfl, Nat.le_of_ble_eq_true rfl⟩) hS (fun q _ h => hFc q h) hFc (fun u t H1 locs ht hvm hw hB hz1 hk1 hS => ?_)
  obtain ⟨hP1, hD1⟩ := hB
  rw [ht] at hP1
  obtain ⟨hP, hD⟩ := joinX (X := (h0, .inr (9, [v0, v1, v2, v3, v4, v5, v6, .null, .null, .null])) :: Rk) hP hD hk1 hFc hP1 hD1
  refine va_putF (D := D) (ci := 9) (v := .ref q) (ty := .object "PetalSets$Thinner") (own := R_PS) (C := R_PS) (T := T_PS) (N := 10) hx hb hts ck_PS.good ty_PS tok_PS ck_PS.2.2 hown hKN.1 hP hD hS 0 rfl rfl 7 (by decide) (hts _ (gd (List.mem_of_getElem? (i := 301) (by decide +kernel)) rfl)) (fun _ h9 => h9) rfl hin rfl (by decide +kernel) rfl rfl (Nat.le_of_ble_eq_true rfl) (dc kd_PS_init 41 rfl) (fun H locs hP hD hS => ?_)
  have hw : u 0 = q := hw
  refine W.widen (k := 17) (n := 1971) (Nat.le_of_ble_eq_true rfl) (Nat.le_of_ble_eq_true rfl) ?_
  refine kk u H locs ?_ ?_ hS
  · rw [hw]; exact hP
  · rw [hw]; exact hD
set_option maxHeartbeats 4000000 in
set_option maxRecDepth 100000 in
theorem ps_8 {v0 v1 v2 v3 v4 v5 v6 v7 : Value} (C : PSC p s m meth c A args ls D cy h0) (hP : va_P D vwCl ((h0, .inr (9, [v0, v1, v2, v3, v4, v5, v6, v7, .null, .null])) :: Rk) H) (hD : va_D A ((h0, .inr (9, [v0, v1, v2, v3, v4, v5, v6, v7, .null, .null])) :: Rk)) (hS : va_S A s.heap H locs) (kk : ∀ (u : Nat → Nat) (H : Heap) (locs : List Loc), va_P D vwCl ((h0, .inr (9, [v0, v1, v2, v3, v4, v5, v6, v7, .ref (u 0), .null])) :: (Rk ++ lay cy u mem_Kernel sh_Kernel)) H → va_D A ((h0, .inr (9, [v0, v1, v2, v3, v4, v5, v6, v7, .ref (u 0), .null])) :: (Rk ++ lay cy u mem_Kernel sh_Kernel)) → va_S A s.heap H locs → W p l e ({ frames := 3, cells := 28, slots := 2598, locals := 200 } : Room) s m args below meth c H locs 26 2084 Q (F0 m 103 ls [])) : W p l e ({ frames := 3, cells := 28, slots := 2598, locals := 200 } : Room) s m args below meth c H locs 17 1971 Q (F0 m 92 ls []) := by
  obtain ⟨hx, hb, hml, hown, hts, hin, hKN, hA, hl⟩ := C
  refine lv_aload_n hx hb (dc kd_PS_init 42 rfl) rfl (lv_at hl 0 rfl) ?_
  refine va_new (ci := 3) (fs := [.null, .null, .null, .null, .null, .null, .int 0, .int 0, .int 0]) (own := R_PS) (C := R_Kernel) (T := T_Kernel) (N := 9) hx hb hts ck_Kernel.good ty_Kernel tok_Kernel hown (hts _ (gd (List.mem_of_getElem? (i := 237) (by decide +kernel)) rfl)) (hts _ (gd (List.mem_of_getElem? (i := 238) (by decide +kernel)) rfl)) (hts _ (gd (List.mem_of_getElem? (i := 80) (by decide +kernel)) rfl)) hKN.1 hP hD hS hA rfl (fun j hj => by rcases (show j = 0 ∨ j = 1 ∨ j = 2 ∨ j = 3 ∨ j = 4 ∨ j = 5 ∨ j = 6 ∨ j = 7 ∨ j = 8 by omega) with rfl | rfl | rfl | rfl | rfl | rfl | rfl | rfl | rfl <;> rfl) (Nat.le_of_ble_eq_true rfl) (Nat.le_of_ble_eq_true rfl) (dc kd_PS_init 43 rfl) (fun q H hP hD hS => ?_)
  refine lv_dup hx hb (dc kd_PS_init 44 rfl) rfl ?_
  have hPc := lastP hP
  have hFc := lastF hD hS hA
  refine va_callv (va_runIN (host := "PetalSets") (As := []) (rest := [.ref q, .ref h0]) ⟨hx, hb, hml, hown, hts⟩ (c_Kernel l D cy q H.size) ⟨va_cnB 0 hts (tbl_in m_Kernel_init 0 ok_Kernel_init) rfl rfl rfl (hKN.2 _ _ _ _ (List.mem_of_getElem? (i := 239) (by decide +kernel))) (hts _ (gd (List.mem_of_getElem? (i := 80) (by decide +kernel)) rfl)) ok_Kernel_init.2.2.2.1 ⟨Nat.le_of_ble_eq_true rfl, Nat.le_of_ble_eq_true rfl⟩, rfl, (hts _ (gd (List.mem_of_getElem? (i := 240) (by decide +kernel)) rfl))⟩ ⟨fun a U g mk q => by obtain ⟨q0, q1, qP, qK, qD⟩ := q; exact ⟨q0, q1, qP, qK.blind g mk a, qD⟩, fun U hU hW => ⟨rfl, by rw [hU], by rw [hU]; exact hPc, hKN.warm hW, lastD hD⟩⟩ rfl rfl hl.1 rfl (lv_room (Nat.le_of_ble_eq_true rfl)) (dc kd_PS_init 45 rfl) ⟨Nat.le_of_ble_eq_true rfl, Nat.le_of_ble_eq_true rfl⟩) hS (fun q _ h => hFc q h) hFc (fun u t H1 locs ht hvm hw hB hz1 hk1 hS => ?_)
  obtain ⟨hP1, hD1⟩ := hB
  rw [ht] at hP1
  obtain ⟨hP, hD⟩ := joinX (X := (h0, .inr (9, [v0, v1, v2, v3, v4, v5, v6, v7, .null, .null])) :: Rk) hP hD hk1 hFc hP1 hD1
  refine va_putF (D := D) (ci := 9) (v := .ref q) (ty := .object "PetalSets$Kernel") (own := R_PS) (C := R_PS) (T := T_PS) (N := 10) hx hb hts ck_PS.good ty_PS tok_PS ck_PS.2.2 hown hKN.1 hP hD hS 0 rfl rfl 8 (by decide) (hts _ (gd (List.mem_of_getElem? (i := 302) (by decide +kernel)) rfl)) (fun _ h9 => h9) rfl hin rfl (by decide +kernel) rfl rfl (Nat.le_of_ble_eq_true rfl) (dc kd_PS_init 46 rfl) (fun H locs hP hD hS => ?_)
  have hw : u 0 = q := hw
  refine W.widen (k := 26) (n := 2084) (Nat.le_of_ble_eq_true rfl) (Nat.le_of_ble_eq_true rfl) ?_
  refine kk u H locs ?_ ?_ hS
  · rw [hw]; exact hP
  · rw [hw]; exact hD
set_option maxHeartbeats 4000000 in
set_option maxRecDepth 100000 in
theorem ps_9 {v0 v1 v2 v3 v4 v5 v6 v7 v8 : Value} (C : PSC p s m meth c A args ls D cy h0) (hP : va_P D vwCl ((h0, .inr (9, [v0, v1, v2, v3, v4, v5, v6, v7, v8, .null])) :: Rk) H) (hD : va_D A ((h0, .inr (9, [v0, v1, v2, v3, v4, v5, v6, v7, v8, .null])) :: Rk)) (hS : va_S A s.heap H locs) (kk : ∀ (u : Nat → Nat) (H : Heap) (locs : List Loc), va_P D vwCl ((h0, .inr (9, [v0, v1, v2, v3, v4, v5, v6, v7, v8, .ref (u 0)])) :: (Rk ++ lay cy u mem_Page sh_Page)) H → va_D A ((h0, .inr (9, [v0, v1, v2, v3, v4, v5, v6, v7, v8, .ref (u 0)])) :: (Rk ++ lay cy u mem_Page sh_Page)) → va_S A s.heap H locs → W p l e ({ frames := 3, cells := 28, slots := 2598, locals := 200 } : Room) s m args below meth c H locs 28 2598 Q (F0 m 114 ls [])) : W p l e ({ frames := 3, cells := 28, slots := 2598, locals := 200 } : Room) s m args below meth c H locs 26 2084 Q (F0 m 103 ls []) := by
  obtain ⟨hx, hb, hml, hown, hts, hin, hKN, hA, hl⟩ := C
  refine lv_aload_n hx hb (dc kd_PS_init 47 rfl) rfl (lv_at hl 0 rfl) ?_
  refine va_new (ci := 4) (fs := [.null, .int 0]) (own := R_PS) (C := R_Page) (T := T_Page) (N := 2) hx hb hts ck_Page.good ty_Page tok_Page hown (hts _ (gd (List.mem_of_getElem? (i := 280) (by decide +kernel)) rfl)) (hts _ (gd (List.mem_of_getElem? (i := 281) (by decide +kernel)) rfl)) (hts _ (gd (List.mem_of_getElem? (i := 81) (by decide +kernel)) rfl)) hKN.1 hP hD hS hA rfl (fun j hj => by rcases (show j = 0 ∨ j = 1 by omega) with rfl | rfl <;> rfl) (Nat.le_of_ble_eq_true rfl) (Nat.le_of_ble_eq_true rfl) (dc kd_PS_init 48 rfl) (fun q H hP hD hS => ?_)
  refine lv_dup hx hb (dc kd_PS_init 49 rfl) rfl ?_
  have hPc := lastP hP
  have hFc := lastF hD hS hA
  refine va_callv (va_runIN (host := "PetalSets") (As := []) (rest := [.ref q, .ref h0]) ⟨hx, hb, hml, hown, hts⟩ (c_Page l D cy q H.size) ⟨va_cnB 0 hts (tbl_in m_Page_init 0 ok_Page_init) rfl rfl rfl (hKN.2 _ _ _ _ (List.mem_of_getElem? (i := 282) (by decide +kernel))) (hts _ (gd (List.mem_of_getElem? (i := 81) (by decide +kernel)) rfl)) ok_Page_init.2.2.2.1 ⟨Nat.le_of_ble_eq_true rfl, Nat.le_of_ble_eq_true rfl⟩, rfl, (hts _ (gd (List.mem_of_getElem? (i := 283) (by decide +kernel)) rfl))⟩ ⟨fun a U g mk q => by obtain ⟨q0, q1, qP, qK, qD⟩ := q; exact ⟨q0, q1, qP, qK.blind g mk a, qD⟩, fun U hU hW => ⟨rfl, by rw [hU], by rw [hU]; exact hPc, hKN.warm hW, lastD hD⟩⟩ rfl rfl hl.1 rfl (lv_room (Nat.le_of_ble_eq_true rfl)) (dc kd_PS_init 50 rfl) ⟨Nat.le_of_ble_eq_true rfl, Nat.le_of_ble_eq_true rfl⟩) hS (fun q _ h => hFc q h) hFc (fun u t H1 locs ht hvm hw hB hz1 hk1 hS => ?_)
  obtain ⟨hP1, hD1⟩ := hB
  rw [ht] at hP1
  obtain ⟨hP, hD⟩ := joinX (X := (h0, .inr (9, [v0, v1, v2, v3, v4, v5, v6, v7, v8, .null])) :: Rk) hP hD hk1 hFc hP1 hD1
  refine va_putF (D := D) (ci := 9) (v := .ref q) (ty := .object "PetalSets$Page") (own := R_PS) (C := R_PS) (T := T_PS) (N := 10) hx hb hts ck_PS.good ty_PS tok_PS ck_PS.2.2 hown hKN.1 hP hD hS 0 rfl rfl 9 (by decide) (hts _ (gd (List.mem_of_getElem? (i := 303) (by decide +kernel)) rfl)) (fun _ h9 => h9) rfl hin rfl (by decide +kernel) rfl rfl (Nat.le_of_ble_eq_true rfl) (dc kd_PS_init 51 rfl) (fun H locs hP hD hS => ?_)
  have hw : u 0 = q := hw
  refine W.widen (k := 28) (n := 2598) (Nat.le_of_ble_eq_true rfl) (Nat.le_of_ble_eq_true rfl) ?_
  refine kk u H locs ?_ ?_ hS
  · rw [hw]; exact hP
  · rw [hw]; exact hD
end PSS
