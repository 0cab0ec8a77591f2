/-! the constructors of the class -/
def KN (D : va_G) (cy : Nat → ClassId) (U : State) : Prop := va_K D vwCl (tysD cy) U ∧ NX U
theorem KN.warm {D : va_G} {cy : Nat → ClassId} {s U : State} (h : KN D cy s) (hW : s.WarmedH U.vm) : KN D cy U := ⟨va_K.moved hW.alike h.1, fun own idx y host hm => va_Nw.warmM hW (h.2 own idx y host hm)⟩
theorem KN.blind {D : va_G} {cy : Nat → ClassId} {U : State} (h : KN D cy U) (g : JFrame) (mk : MethodId) (a : Array Value) : KN D cy (U.calling g mk a) := ⟨va_K.moved (u := U) (U := U.calling g mk a) (Vm.Alike.refl U.vm) h.1, fun own idx y host hm => va_Nw.same rfl rfl (h.2 own idx y host hm)⟩
theorem nw_arr {p : Program} {l : Launch} {e : Env} {R : Room} {s : State} {m : MethodId} {args : Array Value} {below : List Frame} {meth : Method} {c : Code} {H H0 : Heap} {locs : List Loc} {cells slots : Nat} {Q : State → Prop} {pc : Nat} {ls : Array Slot} {rest : List Value} {cc : ByteArray} {A : Nat → Prop} {ws : va_W} {D : va_G} {cy : Nat → ClassId} (hexec : p.tables.exec = Jvm.exec) (hb : c.code = cc) {atype : ArrayType} {t N : Nat} {n : Int32} (harr : (Cond.arrayClass (newarray.typeOf atype)).before args s = true) (hty : newarray.typeOf atype = tyN t) (ht : (tysD cy)[t]? = some (cy t, tyN t)) (hz : ∀ cA : ClassId, vp_cell cA (N, .inl (fun _ => (0 : Int32))) = arrV cA N (fun _ => defaultValue (tyN t))) (hK : va_K D vwCl (tysD cy) s) (hP : va_P D vwCl ws H) (hD : va_D A ws) (hS : va_S A H0 H locs) (hA : ∀ q, H0.size ≤ q → A q) (hn : ¬ n < 0) (hN : n.toNatClampNeg = N) (hbytes : N * componentBytes (tyN t) ≤ 536870912) (hcells : cells + 1 ≤ R.cells) (hslots : slots + N ≤ R.slots) (hdg : decode cc pc = .ok (.newarray atype, 2))
    (kk : ∀ (q : Nat) (H1 : Heap), va_P D vwCl (ws ++ [(q, .inl (cy t, N, .inl (fun _ => 0)))]) H1 → va_D A (ws ++ [(q, .inl (cy t, N, .inl (fun _ => 0)))]) → va_S A H0 H1 locs → W p l e R s m args below meth c H1 locs (cells + 1) (slots + N) Q (F0 m (pc + 2) ls (.ref q :: rest))) : W p l e R s m args below meth c H locs cells slots Q (F0 m pc ls (.int n :: rest)) := by
  refine va_newa (a0 := (N, .inl (fun _ => (0 : Int32)))) hexec hb harr hty hK hP hD hS hA hz hn hN hbytes hcells hslots hdg (fun q cA H1 hK1 hP1 hD1 hS1 => ?_)
  have e1 := (hK1.2 3 (cA, tyN t) rfl).2
  have e2 := (hK.2 t _ ht).2
  have e : cA = cy t := by
    match t, e1, e2 with
    | 0, e1, e2 => exact Option.some.inj (Eq.trans (Eq.symm e1) e2)
    | 1, e1, e2 => exact Option.some.inj (Eq.trans (Eq.symm e1) e2)
    | t + 2, e1, e2 => exact Option.some.inj (Eq.trans (Eq.symm e1) e2)
  subst e
  exact kk q H1 hP1 hD1 hS1
def k_Family_init : List (Nat × Instr × Nat) := [(0, .aload_n 0, 1), (1, .invokespecial 3, 3), (4, .aload_n 0, 1), (5, .bipush 17, 2), (7, .newarray .int, 2), (9, .putfield 9, 3), (12, .aload_n 0, 1), (13, .iconst 0, 1), (14, .putfield 15, 3), (17, .aload_n 0, 1), (18, .bipush 6, 2), (20, .putfield 19, 3), (23, .return_, 1)]
set_option maxRecDepth 100000 in
theorem kd_Family_init : ∀ q ∈ k_Family_init, decode prog_3_method_1_code q.1 = .ok q.2 := by decide +kernel
theorem tok_Family : ∀ k, k < 3 → parseFieldDescriptor (T_Family k).2.2.1 = some (ty_Family k) := by decide +kernel
def sh_Family : List Sh := [.inr (1, [some 1, none, none]), .inl (0, 17)]
def mem_Family : Mem := fun c j => if c = 0 ∧ j = 2 then 6 else 0
set_option maxHeartbeats 4000000 in
set_option maxRecDepth 100000 in
theorem c_Family (l : Launch) (D : va_G) (cy : Nat → ClassId) (h0 sz : Nat) : Met l m_Family_init.1 (.code m_Family_init.1 m_Family_init.2.1 m_Family_init.2.2.1 m_Family_init.2.2.2 :: lw_gd) ({ frames := 1, cells := 1, slots := 17, locals := 40 }) (va_Pc [.ref h0] (fun U => U.heap.size = sz ∧ va_P D vwCl [(h0, .inr (1, [.null, .int 0, .int 0]))] U.heap ∧ KN D cy U ∧ va_D (fun _ => True) [(h0, .inr (1, [.null, .int 0, .int 0]))])) (va_Qv (fun u : Nat → Nat => u 0 = h0) (fun u t => va_P D vwCl (lay cy u mem_Family sh_Family) t.heap ∧ va_D (va_A [(h0, .inr (1, [.null, .int 0, .int 0]))] sz) (lay cy u mem_Family sh_Family)) (va_A [(h0, .inr (1, [.null, .int 0, .int 0]))] sz)) 1 17 (va_A [(h0, .inr (1, [.null, .int 0, .int 0]))] sz) := by
  refine Met.ofW (cc := m_Family_init.2.1) (maxL := m_Family_init.2.2.1) (ret := m_Family_init.2.2.2) ok_Family_init.1 rfl ?_
  intro p e s m args below meth c s₁ B hml hv
  obtain ⟨rfl, hsz, hP, hKN, hD0⟩ := hv
  have hx := B.exec
  have hb := B.bytes
  have hr := B.returns
  have hts0 := atoms_spec (ws := .code m_Family_init.1 m_Family_init.2.1 m_Family_init.2.2.1 m_Family_init.2.2.2 :: lw_gd) B.pre
  have hts : ∀ w ∈ lw_gd, w.before _ s = true := fun w hw => hts0 w (List.mem_cons_of_mem _ hw)
  have hown : s.vm.findClass R_Family = some m.cls := findClass_of_methodNamed B.named
  have hlocks := B.notSynchronized
  have hin : meth.name = "<init>" := (name_of_methodNamed B.named B.method).1
  subst hsz
  have hD := hD0.self (sz := s.heap.size)
  generalize hAe : va_A [(h0, .inr (1, [.null, .int 0, .int 0]))] s.heap.size = A at hD ⊢
  have hA : ∀ q : Nat, s.heap.size ≤ q → A q := fun q h => by rw [← hAe]; exact Or.inr h
  have hS : va_S A s.heap s.heap [] := va_S.rf
  have hl := lv_entry ([.ref h0]) (n := 1) (Nat.le_of_ble_eq_true rfl)
  rw [lg_entry_eq]
  generalize (lg_sl ([.ref h0]) ++ List.replicate (1 - (lg_sl ([.ref h0])).length) Slot.unset).toArray = ls at hl ⊢
  have hl : lv_has ls 1 [(0, .ref h0)] := hl
  refine lv_aload_n hx hb (dc kd_Family_init 0 rfl) rfl (lv_at hl 0 rfl) ?_
  refine W.objInit (own := R_Family) hx hb hown (hts _ (gd (List.mem_of_getElem? (i := 103) (by decide +kernel)) rfl)) (hts _ (gd (List.mem_of_getElem? (i := 96) (by decide +kernel)) rfl)) (hts _ (gd (List.mem_of_getElem? (i := 97) (by decide +kernel)) rfl)) rfl (by rw [hml]; exact hl.1) rfl (dc kd_Family_init 1 rfl) (Nat.le_of_ble_eq_true rfl) (Nat.le_of_ble_eq_true rfl) ?_
  refine W.eq (g2 := F0 m 4 ls []) rfl ?_
  refine lv_aload_n hx hb (dc kd_Family_init 2 rfl) rfl (lv_at hl 0 rfl) ?_
  refine lv_bipush (v := 17) hx hb (dc kd_Family_init 3 rfl) (by decide) ?_
  refine nw_arr (atype := .int) (t := 0) (N := 17) hx hb (hts _ (gd (List.mem_of_getElem? (i := 124) (by decide +kernel)) rfl)) rfl rfl (fun _ => rfl) hKN.1 hP hD hS hA (by decide) (by decide +kernel) (Nat.le_of_ble_eq_true rfl) (Nat.le_of_ble_eq_true rfl) (Nat.le_of_ble_eq_true rfl) (dc kd_Family_init 4 rfl) (fun q0 H hP hD hS => ?_)
  have hP : va_P D vwCl [(h0, .inr (1, [.null, .int 0, .int 0])), (q0, .inl (cy 0, 17, .inl (fun _ => 0)))] H := hP
  have hD : va_D A [(h0, .inr (1, [.null, .int 0, .int 0])), (q0, .inl (cy 0, 17, .inl (fun _ => 0)))] := hD
  refine W.widen (k := 1) (n := 17) (Nat.le_of_ble_eq_true rfl) (Nat.le_of_ble_eq_true rfl) ?_
  refine va_putF (D := D) (ci := 1) (v := .ref q0) (ty := .array .int) (own := R_Family) (C := R_Family) (T := T_Family) (N := 3) hx hb hts ck_Family.good ty_Family tok_Family ck_Family.2.2 hown hKN.1 hP hD hS 0 rfl rfl 0 (by decide) (hts _ (gd (List.mem_of_getElem? (i := 104) (by decide +kernel)) rfl)) (fun _ h9 => h9) rfl hin rfl (by decide +kernel) rfl rfl (Nat.le_of_ble_eq_true rfl) (dc kd_Family_init 5 rfl) (fun H locs hP hD hS => ?_)
  have hP : va_P D vwCl [(h0, .inr (1, [.ref q0, .int 0, .int 0])), (q0, .inl (cy 0, 17, .inl (fun _ => 0)))] H := hP
  have hD : va_D A [(h0, .inr (1, [.ref q0, .int 0, .int 0])), (q0, .inl (cy 0, 17, .inl (fun _ => 0)))] := hD
  refine lv_aload_n hx hb (dc kd_Family_init 6 rfl) rfl (lv_at hl 0 rfl) ?_
  refine lv_iconst (v := 0) hx hb (dc kd_Family_init 7 rfl) (by decide) ?_
  refine va_put (D := D) (ci := 1) (v := .int 0) (ty := .int) (own := R_Family) (C := R_Family) (T := T_Family) (N := 3) hx hb hts ck_Family.good ty_Family tok_Family ck_Family.2.2 hown hKN.1 hP hD hS 0 rfl rfl 1 (by decide) (hts _ (gd (List.mem_of_getElem? (i := 107) (by decide +kernel)) rfl)) (fun _ h9 => h9) rfl (by decide +kernel) rfl rfl (Nat.le_of_ble_eq_true rfl) (dc kd_Family_init 8 rfl) (fun H locs hP hD hS => ?_)
  have hP : va_P D vwCl [(h0, .inr (1, [.ref q0, .int 0, .int 0])), (q0, .inl (cy 0, 17, .inl (fun _ => 0)))] H := hP
  have hD : va_D A [(h0, .inr (1, [.ref q0, .int 0, .int 0])), (q0, .inl (cy 0, 17, .inl (fun _ => 0)))] := hD
  refine lv_aload_n hx hb (dc kd_Family_init 9 rfl) rfl (lv_at hl 0 rfl) ?_
  refine lv_bipush (v := 6) hx hb (dc kd_Family_init 10 rfl) (by decide) ?_
  refine va_put (D := D) (ci := 1) (v := .int 6) (ty := .int) (own := R_Family) (C := R_Family) (T := T_Family) (N := 3) hx hb hts ck_Family.good ty_Family tok_Family ck_Family.2.2 hown hKN.1 hP hD hS 0 rfl rfl 2 (by decide) (hts _ (gd (List.mem_of_getElem? (i := 115) (by decide +kernel)) rfl)) (fun _ h9 => h9) rfl (by decide +kernel) rfl rfl (Nat.le_of_ble_eq_true rfl) (dc kd_Family_init 11 rfl) (fun H locs hP hD hS => ?_)
  have hP : va_P D vwCl [(h0, .inr (1, [.ref q0, .int 0, .int 6])), (q0, .inl (cy 0, 17, .inl (fun _ => 0)))] H := hP
  have hD : va_D A [(h0, .inr (1, [.ref q0, .int 0, .int 6])), (q0, .inl (cy 0, 17, .inl (fun _ => 0)))] := hD
  refine W.widen (k := 1) (n := 17) (Nat.le_of_ble_eq_true rfl) (Nat.le_of_ble_eq_true rfl) ?_
  exact W.vret hx hb hr (fun t ht hW => ⟨⟨fun k => ([h0, q0] : List Nat).getD k 0, rfl, rfl, by rw [ht]; exact hP, hD⟩, hS.F ht⟩) hS.2.2 (dc kd_Family_init 12 rfl)
def k_History_init : List (Nat × Instr × Nat) := [(0, .aload_n 0, 1), (1, .invokespecial 3, 3), (4, .aload_n 0, 1), (5, .bipush 12, 2), (7, .newarray .int, 2), (9, .putfield 9, 3), (12, .aload_n 0, 1), (13, .sipush 192, 3), (16, .newarray .int, 2), (18, .putfield 15, 3), (21, .aload_n 0, 1), (22, .iconst 0, 1), (23, .putfield 18, 3), (26, .aload_n 0, 1), (27, .iconst 0, 1), (28, .putfield 22, 3), (31, .return_, 1)]
set_option maxRecDepth 100000 in
theorem kd_History_init : ∀ q ∈ k_History_init, decode prog_4_method_1_code q.1 = .ok q.2 := by decide +kernel
theorem tok_History : ∀ k, k < 4 → parseFieldDescriptor (T_History k).2.2.1 = some (ty_History k) := by decide +kernel
def sh_History : List Sh := [.inr (2, [some 1, some 2, none, none]), .inl (0, 12), .inl (0, 192)]
def mem_History : Mem := fun c j => 0
set_option maxHeartbeats 4000000 in
set_option maxRecDepth 100000 in
theorem c_History (l : Launch) (D : va_G) (cy : Nat → ClassId) (h0 sz : Nat) : Met l m_History_init.1 (.code m_History_init.1 m_History_init.2.1 m_History_init.2.2.1 m_History_init.2.2.2 :: lw_gd) ({ frames := 1, cells := 2, slots := 204, locals := 40 }) (va_Pc [.ref h0] (fun U => U.heap.size = sz ∧ va_P D vwCl [(h0, .inr (2, [.null, .null, .int 0, .int 0]))] U.heap ∧ KN D cy U ∧ va_D (fun _ => True) [(h0, .inr (2, [.null, .null, .int 0, .int 0]))])) (va_Qv (fun u : Nat → Nat => u 0 = h0) (fun u t => va_P D vwCl (lay cy u mem_History sh_History) t.heap ∧ va_D (va_A [(h0, .inr (2, [.null, .null, .int 0, .int 0]))] sz) (lay cy u mem_History sh_History)) (va_A [(h0, .inr (2, [.null, .null, .int 0, .int 0]))] sz)) 2 204 (va_A [(h0, .inr (2, [.null, .null, .int 0, .int 0]))] sz) := by
  refine Met.ofW (cc := m_History_init.2.1) (maxL := m_History_init.2.2.1) (ret := m_History_init.2.2.2) ok_History_init.1 rfl ?_
  intro p e s m args below meth c s₁ B hml hv
  obtain ⟨rfl, hsz, hP, hKN, hD0⟩ := hv
  have hx := B.exec
  have hb := B.bytes
  have hr := B.returns
  have hts0 := atoms_spec (ws := .code m_History_init.1 m_History_init.2.1 m_History_init.2.2.1 m_History_init.2.2.2 :: lw_gd) B.pre
  have hts : ∀ w ∈ lw_gd, w.before _ s = true := fun w hw => hts0 w (List.mem_cons_of_mem _ hw)
  have hown : s.vm.findClass R_History = some m.cls := findClass_of_methodNamed B.named
  have hlocks := B.notSynchronized
  have hin : meth.name = "<init>" := (name_of_methodNamed B.named B.method).1
  subst hsz
  have hD := hD0.self (sz := s.heap.size)
  generalize hAe : va_A [(h0, .inr (2, [.null, .null, .int 0, .int 0]))] s.heap.size = A at hD ⊢
  have hA : ∀ q : Nat, s.heap.size ≤ q → A q := fun q h => by rw [← hAe]; exact Or.inr h
  have hS : va_S A s.heap s.heap [] := va_S.rf
  have hl := lv_entry ([.ref h0]) (n := 1) (Nat.le_of_ble_eq_true rfl)
  rw [lg_entry_eq]
  generalize (lg_sl ([.ref h0]) ++ List.replicate (1 - (lg_sl ([.ref h0])).length) Slot.unset).toArray = ls at hl ⊢
  have hl : lv_has ls 1 [(0, .ref h0)] := hl
  refine lv_aload_n hx hb (dc kd_History_init 0 rfl) rfl (lv_at hl 0 rfl) ?_
  refine W.objInit (own := R_History) hx hb hown (hts _ (gd (List.mem_of_getElem? (i := 130) (by decide +kernel)) rfl)) (hts _ (gd (List.mem_of_getElem? (i := 96) (by decide +kernel)) rfl)) (hts _ (gd (List.mem_of_getElem? (i := 97) (by decide +kernel)) rfl)) rfl (by rw [hml]; exact hl.1) rfl (dc kd_History_init 1 rfl) (Nat.le_of_ble_eq_true rfl) (Nat.le_of_ble_eq_true rfl) ?_
  refine W.eq (g2 := F0 m 4 ls []) rfl ?_
  refine lv_aload_n hx hb (dc kd_History_init 2 rfl) rfl (lv_at hl 0 rfl) ?_
  refine lv_bipush (v := 12) hx hb (dc kd_History_init 3 rfl) (by decide) ?_
  refine nw_arr (atype := .int) (t := 0) (N := 12) hx hb (hts _ (gd (List.mem_of_getElem? (i := 124) (by decide +kernel)) rfl)) rfl rfl (fun _ => rfl) hKN.1 hP hD hS hA (by decide) (by decide +kernel) (Nat.le_of_ble_eq_true rfl) (Nat.le_of_ble_eq_true rfl) (Nat.le_of_ble_eq_true rfl) (dc kd_History_init 4 rfl) (fun q0 H hP hD hS => ?_)
  have hP : va_P D vwCl [(h0, .inr (2, [.null, .null, .int 0, .int 0])), (q0, .inl (cy 0, 12, .inl (fun _ => 0)))] H := hP
  have hD : va_D A [(h0, .inr (2, [.null, .null, .int 0, .int 0])), (q0, .inl (cy 0, 12, .inl (fun _ => 0)))] := hD
  refine W.widen (k := 1) (n := 12) (Nat.le_of_ble_eq_true rfl) (Nat.le_of_ble_eq_true rfl) ?_
  refine va_putF (D := D) (ci := 2) (v := .ref q0) (ty := .array .int) (own := R_History) (C := R_History) (T := T_History) (N := 4) hx hb hts ck_History.good ty_History tok_History ck_History.2.2 hown hKN.1 hP hD hS 0 rfl rfl 0 (by decide) (hts _ (gd (List.mem_of_getElem? (i := 131) (by decide +kernel)) rfl)) (fun _ h9 => h9) rfl hin rfl (by decide +kernel) rfl rfl (Nat.le_of_ble_eq_true rfl) (dc kd_History_init 5 rfl) (fun H locs hP hD hS => ?_)
  have hP : va_P D vwCl [(h0, .inr (2, [.ref q0, .null, .int 0, .int 0])), (q0, .inl (cy 0, 12, .inl (fun _ => 0)))] H := hP
  have hD : va_D A [(h0, .inr (2, [.ref q0, .null, .int 0, .int 0])), (q0, .inl (cy 0, 12, .inl (fun _ => 0)))] := hD
  refine lv_aload_n hx hb (dc kd_History_init 6 rfl) rfl (lv_at hl 0 rfl) ?_
  refine lv_sipush (v := 192) hx hb (dc kd_History_init 7 rfl) (by decide) ?_
  refine nw_arr (atype := .int) (t := 0) (N := 192) hx hb (hts _ (gd (List.mem_of_getElem? (i := 124) (by decide +kernel)) rfl)) rfl rfl (fun _ => rfl) hKN.1 hP hD hS hA (by decide) (by decide +kernel) (Nat.le_of_ble_eq_true rfl) (Nat.le_of_ble_eq_true rfl) (Nat.le_of_ble_eq_true rfl) (dc kd_History_init 8 rfl) (fun q1 H hP hD hS => ?_)
  have hP : va_P D vwCl [(h0, .inr (2, [.ref q0, .null, .int 0, .int 0])), (q0, .inl (cy 0, 12, .inl (fun _ => 0))), (q1, .inl (cy 0, 192, .inl (fun _ => 0)))] H := hP
  have hD : va_D A [(h0, .inr (2, [.ref q0, .null, .int 0, .int 0])), (q0, .inl (cy 0, 12, .inl (fun _ => 0))), (q1, .inl (cy 0, 192, .inl (fun _ => 0)))] := hD
  refine W.widen (k := 2) (n := 204) (Nat.le_of_ble_eq_true rfl) (Nat.le_of_ble_eq_true rfl) ?_
  refine va_putF (D := D) (ci := 2) (v := .ref q1) (ty := .array .int) (own := R_History) (C := R_History) (T := T_History) (N := 4) hx hb hts ck_History.good ty_History tok_History ck_History.2.2 hown hKN.1 hP hD hS 0 rfl rfl 1 (by decide) (hts _ (gd (List.mem_of_getElem? (i := 132) (by decide +kernel)) rfl)) (fun _ h9 => h9) rfl hin rfl (by decide +kernel) rfl rfl (Nat.le_of_ble_eq_true rfl) (dc kd_History_init 9 rfl) (fun H locs hP hD hS => ?_)
  have hP : va_P D vwCl [(h0, .inr (2, [.ref q0, .ref q1, .int 0, .int 0])), (q0, .inl (cy 0, 12, .inl (fun _ => 0))), (q1, .inl (cy 0, 192, .inl (fun _ => 0)))] H := hP
  have hD : va_D A [(h0, .inr (2, [.ref q0, .ref q1, .int 0, .int 0])), (q0, .inl (cy 0, 12, .inl (fun _ => 0))), (q1, .inl (cy 0, 192, .inl (fun _ => 0)))] := hD
  refine lv_aload_n hx hb (dc kd_History_init 10 rfl) rfl (lv_at hl 0 rfl) ?_
  refine lv_iconst (v := 0) hx hb (dc kd_History_init 11 rfl) (by decide) ?_
  refine va_put (D := D) (ci := 2) (v := .int 0) (ty := .int) (own := R_History) (C := R_History) (T := T_History) (N := 4) hx hb hts ck_History.good ty_History tok_History ck_History.2.2 hown hKN.1 hP hD hS 0 rfl rfl 2 (by decide) (hts _ (gd (List.mem_of_getElem? (i := 133) (by decide +kernel)) rfl)) (fun _ h9 => h9) rfl (by decide +kernel) rfl rfl (Nat.le_of_ble_eq_true rfl) (dc kd_History_init 12 rfl) (fun H locs hP hD hS => ?_)
  have hP : va_P D vwCl [(h0, .inr (2, [.ref q0, .ref q1, .int 0, .int 0])), (q0, .inl (cy 0, 12, .inl (fun _ => 0))), (q1, .inl (cy 0, 192, .inl (fun _ => 0)))] H := hP
  have hD : va_D A [(h0, .inr (2, [.ref q0, .ref q1, .int 0, .int 0])), (q0, .inl (cy 0, 12, .inl (fun _ => 0))), (q1, .inl (cy 0, 192, .inl (fun _ => 0)))] := hD
  refine lv_aload_n hx hb (dc kd_History_init 13 rfl) rfl (lv_at hl 0 rfl) ?_
  refine lv_iconst (v := 0) hx hb (dc kd_History_init 14 rfl) (by decide) ?_
  refine va_put (D := D) (ci := 2) (v := .int 0) (ty := .int) (own := R_History) (C := R_History) (T := T_History) (N := 4) hx hb hts ck_History.good ty_History tok_History ck_History.2.2 hown hKN.1 hP hD hS 0 rfl rfl 3 (by decide) (hts _ (gd (List.mem_of_getElem? (i := 134) (by decide +kernel)) rfl)) (fun _ h9 => h9) rfl (by decide +kernel) rfl rfl (Nat.le_of_ble_eq_true rfl) (dc kd_History_init 15 rfl) (fun H locs hP hD hS => ?_)
  have hP : va_P D vwCl [(h0, .inr (2, [.ref q0, .ref q1, .int 0, .int 0])), (q0, .inl (cy 0, 12, .inl (fun _ => 0))), (q1, .inl (cy 0, 192, .inl (fun _ => 0)))] H := hP
  have hD : va_D A [(h0, .inr (2, [.ref q0, .ref q1, .int 0, .int 0])), (q0, .inl (cy 0, 12, .inl (fun _ => 0))), (q1, .inl (cy 0, 192, .inl (fun _ => 0)))] := hD
  refine W.widen (k := 2) (n := 204) (Nat.le_of_ble_eq_true rfl) (Nat.le_of_ble_eq_true rfl) ?_
  exact W.vret hx hb hr (fun t ht hW => ⟨⟨fun k => ([h0, q0, q1] : List Nat).getD k 0, rfl, rfl, by rw [ht]; exact hP, hD⟩, hS.F ht⟩) hS.2.2 (dc kd_History_init 16 rfl)
def k_Tape_init : List (Nat × Instr × Nat) := [(0, .aload_n 0, 1), (1, .invokespecial 3, 3), (4, .aload_n 0, 1), (5, .sipush 400, 3), (8, .newarray .byte, 2), (10, .putfield 9, 3), (13, .aload_n 0, 1), (14, .iconst 0, 1), (15, .putfield 15, 3), (18, .return_, 1)]
set_option maxRecDepth 100000 in
theorem kd_Tape_init : ∀ q ∈ k_Tape_init, decode prog_9_method_1_code q.1 = .ok q.2 := by decide +kernel
theorem tok_Tape : ∀ k, k < 2 → parseFieldDescriptor (T_Tape k).2.2.1 = some (ty_Tape k) := by decide +kernel
def sh_Tape : List Sh := [.inr (6, [some 1, none]), .inl (1, 400)]
def mem_Tape : Mem := fun c j => 0
set_option maxHeartbeats 4000000 in
set_option maxRecDepth 100000 in
theorem c_Tape (l : Launch) (D : va_G) (cy : Nat → ClassId) (h0 sz : Nat) : Met l m_Tape_init.1 (.code m_Tape_init.1 m_Tape_init.2.1 m_Tape_init.2.2.1 m_Tape_init.2.2.2 :: lw_gd) ({ frames := 1, cells := 1, slots := 400, locals := 40 }) (va_Pc [.ref h0] (fun U => U.heap.size = sz ∧ va_P D vwCl [(h0, .inr (6, [.null, .int 0]))] U.heap ∧ KN D cy U ∧ va_D (fun _ => True) [(h0, .inr (6, [.null, .int 0]))])) (va_Qv (fun u : Nat → Nat => u 0 = h0) (fun u t => va_P D vwCl (lay cy u mem_Tape sh_Tape) t.heap ∧ va_D (va_A [(h0, .inr (6, [.null, .int 0]))] sz) (lay cy u mem_Tape sh_Tape)) (va_A [(h0, .inr (6, [.null, .int 0]))] sz)) 1 400 (va_A [(h0, .inr (6, [.null, .int 0]))] sz) := by
  refine Met.ofW (cc := m_Tape_init.2.1) (maxL := m_Tape_init.2.2.1) (ret := m_Tape_init.2.2.2) ok_Tape_init.1 rfl ?_
  intro p e s m args below meth c s₁ B hml hv
  obtain ⟨rfl, hsz, hP, hKN, hD0⟩ := hv
  have hx := B.exec
  have hb := B.bytes
  have hr := B.returns
  have hts0 := atoms_spec (ws := .code m_Tape_init.1 m_Tape_init.2.1 m_Tape_init.2.2.1 m_Tape_init.2.2.2 :: lw_gd) B.pre
  have hts : ∀ w ∈ lw_gd, w.before _ s = true := fun w hw => hts0 w (List.mem_cons_of_mem _ hw)
  have hown : s.vm.findClass R_Tape = some m.cls := findClass_of_methodNamed B.named
  have hlocks := B.notSynchronized
  have hin : meth.name = "<init>" := (name_of_methodNamed B.named B.method).1
  subst hsz
  have hD := hD0.self (sz := s.heap.size)
  generalize hAe : va_A [(h0, .inr (6, [.null, .int 0]))] s.heap.size = A at hD ⊢
  have hA : ∀ q : Nat, s.heap.size ≤ q → A q := fun q h => by rw [← hAe]; exact Or.inr h
  have hS : va_S A s.heap s.heap [] := va_S.rf
  have hl := lv_entry ([.ref h0]) (n := 1) (Nat.le_of_ble_eq_true rfl)
  rw [lg_entry_eq]
  generalize (lg_sl ([.ref h0]) ++ List.replicate (1 - (lg_sl ([.ref h0])).length) Slot.unset).toArray = ls at hl ⊢
  have hl : lv_has ls 1 [(0, .ref h0)] := hl
  refine lv_aload_n hx hb (dc kd_Tape_init 0 rfl) rfl (lv_at hl 0 rfl) ?_
  refine W.objInit (own := R_Tape) hx hb hown (hts _ (gd (List.mem_of_getElem? (i := 150) (by decide +kernel)) rfl)) (hts _ (gd (List.mem_of_getElem? (i := 96) (by decide +kernel)) rfl)) (hts _ (gd (List.mem_of_getElem? (i := 97) (by decide +kernel)) rfl)) rfl (by rw [hml]; exact hl.1) rfl (dc kd_Tape_init 1 rfl) (Nat.le_of_ble_eq_true rfl) (Nat.le_of_ble_eq_true rfl) ?_
  refine W.eq (g2 := F0 m 4 ls []) rfl ?_
  refine lv_aload_n hx hb (dc kd_Tape_init 2 rfl) rfl (lv_at hl 0 rfl) ?_
  refine lv_sipush (v := 400) hx hb (dc kd_Tape_init 3 rfl) (by decide) ?_
  refine nw_arr (atype := .byte) (t := 1) (N := 400) hx hb (hts _ (gd (List.mem_of_getElem? (i := 160) (by decide +kernel)) rfl)) rfl rfl (fun _ => rfl) hKN.1 hP hD hS hA (by decide) (by decide +kernel) (Nat.le_of_ble_eq_true rfl) (Nat.le_of_ble_eq_true rfl) (Nat.le_of_ble_eq_true rfl) (dc kd_Tape_init 4 rfl) (fun q0 H hP hD hS => ?_)
  have hP : va_P D vwCl [(h0, .inr (6, [.null, .int 0])), (q0, .inl (cy 1, 400, .inl (fun _ => 0)))] H := hP
  have hD : va_D A [(h0, .inr (6, [.null, .int 0])), (q0, .inl (cy 1, 400, .inl (fun _ => 0)))] := hD
  refine W.widen (k := 1) (n := 400) (Nat.le_of_ble_eq_true rfl) (Nat.le_of_ble_eq_true rfl) ?_
  refine va_putF (D := D) (ci := 6) (v := .ref q0) (ty := .array .byte) (own := R_Tape) (C := R_Tape) (T := T_Tape) (N := 2) hx hb hts ck_Tape.good ty_Tape tok_Tape ck_Tape.2.2 hown hKN.1 hP hD hS 0 rfl rfl 0 (by decide) (hts _ (gd (List.mem_of_getElem? (i := 151) (by decide +kernel)) rfl)) (fun _ h9 => h9) rfl hin rfl (by decide +kernel) rfl rfl (Nat.le_of_ble_eq_true rfl) (dc kd_Tape_init 5 rfl) (fun H locs hP hD hS => ?_)
  have hP : va_P D vwCl [(h0, .inr (6, [.ref q0, .int 0])), (q0, .inl (cy 1, 400, .inl (fun _ => 0)))] H := hP
  have hD : va_D A [(h0, .inr (6, [.ref q0, .int 0])), (q0, .inl (cy 1, 400, .inl (fun _ => 0)))] := hD
  refine lv_aload_n hx hb (dc kd_Tape_init 6 rfl) rfl (lv_at hl 0 rfl) ?_
  refine lv_iconst (v := 0) hx hb (dc kd_Tape_init 7 rfl) (by decide) ?_
  refine va_put (D := D) (ci := 6) (v := .int 0) (ty := .int) (own := R_Tape) (C := R_Tape) (T := T_Tape) (N := 2) hx hb hts ck_Tape.good ty_Tape tok_Tape ck_Tape.2.2 hown hKN.1 hP hD hS 0 rfl rfl 1 (by decide) (hts _ (gd (List.mem_of_getElem? (i := 152) (by decide +kernel)) rfl)) (fun _ h9 => h9) rfl (by decide +kernel) rfl rfl (Nat.le_of_ble_eq_true rfl) (dc kd_Tape_init 8 rfl) (fun H locs hP hD hS => ?_)
  have hP : va_P D vwCl [(h0, .inr (6, [.ref q0, .int 0])), (q0, .inl (cy 1, 400, .inl (fun _ => 0)))] H := hP
  have hD : va_D A [(h0, .inr (6, [.ref q0, .int 0])), (q0, .inl (cy 1, 400, .inl (fun _ => 0)))] := hD
  refine W.widen (k := 1) (n := 400) (Nat.le_of_ble_eq_true rfl) (Nat.le_of_ble_eq_true rfl) ?_
  exact W.vret hx hb hr (fun t ht hW => ⟨⟨fun k => ([h0, q0] : List Nat).getD k 0, rfl, rfl, by rw [ht]; exact hP, hD⟩, hS.F ht⟩) hS.2.2 (dc kd_Tape_init 9 rfl)
def k_Reader_init : List (Nat × Instr × Nat) := [(0, .aload_n 0, 1), (1, .invokespecial 3, 3), (4, .aload_n 0, 1), (5, .iconst 0, 1), (6, .putfield 9, 3), (9, .return_, 1)]
set_option maxRecDepth 100000 in
theorem kd_Reader_init : ∀ q ∈ k_Reader_init, decode prog_8_method_1_code q.1 = .ok q.2 := by decide +kernel
theorem tok_Reader : ∀ k, k < 1 → parseFieldDescriptor (T_Reader k).2.2.1 = some (ty_Reader k) := by decide +kernel
def sh_Reader : List Sh := [.inr (5, [none])]
def mem_Reader : Mem := fun c j => 0
set_option maxHeartbeats 4000000 in
set_option maxRecDepth 100000 in
theorem c_Reader (l : Launch) (D : va_G) (cy : Nat → ClassId) (h0 sz : Nat) : Met l m_Reader_init.1 (.code m_Reader_init.1 m_Reader_init.2.1 m_Reader_init.2.2.1 m_Reader_init.2.2.2 :: lw_gd) ({ frames := 1, cells := 0, slots := 0, locals := 40 }) (va_Pc [.ref h0] (fun U => U.heap.size = sz ∧ va_P D vwCl [(h0, .inr (5, [.int 0]))] U.heap ∧ KN D cy U ∧ va_D (fun _ => True) [(h0, .inr (5, [.int 0]))])) (va_Qv (fun u : Nat → Nat => u 0 = h0) (fun u t => va_P D vwCl (lay cy u mem_Reader sh_Reader) t.heap ∧ va_D (va_A [(h0, .inr (5, [.int 0]))] sz) (lay cy u mem_Reader sh_Reader)) (va_A [(h0, .inr (5, [.int 0]))] sz)) 0 0 (va_A [(h0, .inr (5, [.int 0]))] sz) := by
  refine Met.ofW (cc := m_Reader_init.2.1) (maxL := m_Reader_init.2.2.1) (ret := m_Reader_init.2.2.2) ok_Reader_init.1 rfl ?_
  intro p e s m args below meth c s₁ B hml hv
  obtain ⟨rfl, hsz, hP, hKN, hD0⟩ := hv
  have hx := B.exec
  have hb := B.bytes
  have hr := B.returns
  have hts0 := atoms_spec (ws := .code m_Reader_init.1 m_Reader_init.2.1 m_Reader_init.2.2.1 m_Reader_init.2.2.2 :: lw_gd) B.pre
  have hts : ∀ w ∈ lw_gd, w.before _ s = true := fun w hw => hts0 w (List.mem_cons_of_mem _ hw)
  have hown : s.vm.findClass R_Reader = some m.cls := findClass_of_methodNamed B.named
  have hlocks := B.notSynchronized
  have hin : meth.name = "<init>" := (name_of_methodNamed B.named B.method).1
  subst hsz
  have hD := hD0.self (sz := s.heap.size)
  generalize hAe : va_A [(h0, .inr (5, [.int 0]))] s.heap.size = A at hD ⊢
  have hA : ∀ q : Nat, s.heap.size ≤ q → A q := fun q h => by rw [← hAe]; exact Or.inr h
  have hS : va_S A s.heap s.heap [] := va_S.rf
  have hl := lv_entry ([.ref h0]) (n := 1) (Nat.le_of_ble_eq_true rfl)
  rw [lg_entry_eq]
  generalize (lg_sl ([.ref h0]) ++ List.replicate (1 - (lg_sl ([.ref h0])).length) Slot.unset).toArray = ls at hl ⊢
  have hl : lv_has ls 1 [(0, .ref h0)] := hl
  refine lv_aload_n hx hb (dc kd_Reader_init 0 rfl) rfl (lv_at hl 0 rfl) ?_
  refine W.objInit (own := R_Reader) hx hb hown (hts _ (gd (List.mem_of_getElem? (i := 166) (by decide +kernel)) rfl)) (hts _ (gd (List.mem_of_getElem? (i := 96) (by decide +kernel)) rfl)) (hts _ (gd (List.mem_of_getElem? (i := 97) (by decide +kernel)) rfl)) rfl (by rw [hml]; exact hl.1) rfl (dc kd_Reader_init 1 rfl) (Nat.le_of_ble_eq_true rfl) (Nat.le_of_ble_eq_true rfl) ?_
  refine W.eq (g2 := F0 m 4 ls []) rfl ?_
  refine lv_aload_n hx hb (dc kd_Reader_init 2 rfl) rfl (lv_at hl 0 rfl) ?_
  refine lv_iconst (v := 0) hx hb (dc kd_Reader_init 3 rfl) (by decide) ?_
  refine va_put (D := D) (ci := 5) (v := .int 0) (ty := .int) (own := R_Reader) (C := R_Reader) (T := T_Reader) (N := 1) hx hb hts ck_Reader.good ty_Reader tok_Reader ck_Reader.2.2 hown hKN.1 hP hD hS 0 rfl rfl 0 (by decide) (hts _ (gd (List.mem_of_getElem? (i := 167) (by decide +kernel)) rfl)) (fun _ h9 => h9) rfl (by decide +kernel) rfl rfl (Nat.le_of_ble_eq_true rfl) (dc kd_Reader_init 4 rfl) (fun H locs hP hD hS => ?_)
  have hP : va_P D vwCl [(h0, .inr (5, [.int 0]))] H := hP
  have hD : va_D A [(h0, .inr (5, [.int 0]))] := hD
  refine W.widen (k := 0) (n := 0) (Nat.le_of_ble_eq_true rfl) (Nat.le_of_ble_eq_true rfl) ?_
  exact W.vret hx hb hr (fun t ht hW => ⟨⟨fun k => ([h0] : List Nat).getD k 0, rfl, rfl, by rw [ht]; exact hP, hD⟩, hS.F ht⟩) hS.2.2 (dc kd_Reader_init 5 rfl)
def k_Touch_init : List (Nat × Instr × Nat) := [(0, .aload_n 0, 1), (1, .invokespecial 3, 3), (4, .aload_n 0, 1), (5, .bipush 10, 2), (7, .newarray .int, 2), (9, .putfield 9, 3), (12, .aload_n 0, 1), (13, .sipush 1024, 3), (16, .newarray .int, 2), (18, .putfield 15, 3), (21, .aload_n 0, 1), (22, .iconst 0, 1), (23, .putfield 18, 3), (26, .aload_n 0, 1), (27, .iconst 0, 1), (28, .putfield 22, 3), (31, .aload_n 0, 1), (32, .iconst 0, 1), (33, .putfield 25, 3), (36, .aload_n 0, 1), (37, .iconst 0, 1), (38, .putfield 28, 3), (41, .aload_n 0, 1), (42, .iconst 0, 1), (43, .putfield 31, 3), (46, .aload_n 0, 1), (47, .iconst 0, 1), (48, .putfield 34, 3), (51, .return_, 1)]
set_option maxRecDepth 100000 in
theorem kd_Touch_init : ∀ q ∈ k_Touch_init, decode prog_11_method_1_code q.1 = .ok q.2 := by decide +kernel
theorem tok_Touch : ∀ k, k < 8 → parseFieldDescriptor (T_Touch k).2.2.1 = some (ty_Touch k) := by decide +kernel
def sh_Touch : List Sh := [.inr (8, [some 1, some 2, none, none, none, none, none, none]), .inl (0, 10), .inl (0, 1024)]
def mem_Touch : Mem := fun c j => 0
set_option maxHeartbeats 4000000 in
set_option maxRecDepth 100000 in
theorem c_Touch (l : Launch) (D : va_G) (cy : Nat → ClassId) (h0 sz : Nat) : Met l m_Touch_init.1 (.code m_Touch_init.1 m_Touch_init.2.1 m_Touch_init.2.2.1 m_Touch_init.2.2.2 :: lw_gd) ({ frames := 1, cells := 2, slots := 1034, locals := 40 }) (va_Pc [.ref h0] (fun U => U.heap.size = sz ∧ va_P D vwCl [(h0, .inr (8, [.null, .null, .int 0, .int 0, .int 0, .int 0, .int 0, .int 0]))] U.heap ∧ KN D cy U ∧ va_D (fun _ => True) [(h0, .inr (8, [.null, .null, .int 0, .int 0, .int 0, .int 0, .int 0, .int 0]))])) (va_Qv (fun u : Nat → Nat => u 0 = h0) (fun u t => va_P D vwCl (lay cy u mem_Touch sh_Touch) t.heap ∧ va_D (va_A [(h0, .inr (8, [.null, .null, .int 0, .int 0, .int 0, .int 0, .int 0, .int 0]))] sz) (lay cy u mem_Touch sh_Touch)) (va_A [(h0, .inr (8, [.null, .null, .int 0, .int 0, .int 0, .int 0, .int 0, .int 0]))] sz)) 2 1034 (va_A [(h0, .inr (8, [.null, .null, .int 0, .int 0, .int 0, .int 0, .int 0, .int 0]))] sz) := by
  refine Met.ofW (cc := m_Touch_init.2.1) (maxL := m_Touch_init.2.2.1) (ret := m_Touch_init.2.2.2) ok_Touch_init.1 rfl ?_
  intro p e s m args below meth c s₁ B hml hv
  obtain ⟨rfl, hsz, hP, hKN, hD0⟩ := hv
  have hx := B.exec
  have hb := B.bytes
  have hr := B.returns
  have hts0 := atoms_spec (ws := .code m_Touch_init.1 m_Touch_init.2.1 m_Touch_init.2.2.1 m_Touch_init.2.2.2 :: lw_gd) B.pre
  have hts : ∀ w ∈ lw_gd, w.before _ s = true := fun w hw => hts0 w (List.mem_cons_of_mem _ hw)
  have hown : s.vm.findClass R_Touch = some m.cls := findClass_of_methodNamed B.named
  have hlocks := B.notSynchronized
  have hin : meth.name = "<init>" := (name_of_methodNamed B.named B.method).1
  subst hsz
  have hD := hD0.self (sz := s.heap.size)
  generalize hAe : va_A [(h0, .inr (8, [.null, .null, .int 0, .int 0, .int 0, .int 0, .int 0, .int 0]))] s.heap.size = A at hD ⊢
  have hA : ∀ q : Nat, s.heap.size ≤ q → A q := fun q h => by rw [← hAe]; exact Or.inr h
  have hS : va_S A s.heap s.heap [] := va_S.rf
  have hl := lv_entry ([.ref h0]) (n := 1) (Nat.le_of_ble_eq_true rfl)
  rw [lg_entry_eq]
  generalize (lg_sl ([.ref h0]) ++ List.replicate (1 - (lg_sl ([.ref h0])).length) Slot.unset).toArray = ls at hl ⊢
  have hl : lv_has ls 1 [(0, .ref h0)] := hl
  refine lv_aload_n hx hb (dc kd_Touch_init 0 rfl) rfl (lv_at hl 0 rfl) ?_
  refine W.objInit (own := R_Touch) hx hb hown (hts _ (gd (List.mem_of_getElem? (i := 176) (by decide +kernel)) rfl)) (hts _ (gd (List.mem_of_getElem? (i := 96) (by decide +kernel)) rfl)) (hts _ (gd (List.mem_of_getElem? (i := 97) (by decide +kernel)) rfl)) rfl (by rw [hml]; exact hl.1) rfl (dc kd_Touch_init 1 rfl) (Nat.le_of_ble_eq_true rfl) (Nat.le_of_ble_eq_true rfl) ?_
  refine W.eq (g2 := F0 m 4 ls []) rfl ?_
  refine lv_aload_n hx hb (dc kd_Touch_init 2 rfl) rfl (lv_at hl 0 rfl) ?_
  refine lv_bipush (v := 10) hx hb (dc kd_Touch_init 3 rfl) (by decide) ?_
  refine nw_arr (atype := .int) (t := 0) (N := 10) hx hb (hts _ (gd (List.mem_of_getElem? (i := 124) (by decide +kernel)) rfl)) rfl rfl (fun _ => rfl) hKN.1 hP hD hS hA (by decide) (by decide +kernel) (Nat.le_of_ble_eq_true rfl) (Nat.le_of_ble_eq_true rfl) (Nat.le_of_ble_eq_true rfl) (dc kd_Touch_init 4 rfl) (fun q0 H hP hD hS => ?_)
  have hP : va_P D vwCl [(h0, .inr (8, [.null, .null, .int 0, .int 0, .int 0, .int 0, .int 0, .int 0])), (q0, .inl (cy 0, 10, .inl (fun _ => 0)))] H := hP
  have hD : va_D A [(h0, .inr (8, [.null, .null, .int 0, .int 0, .int 0, .int 0, .int 0, .int 0])), (q0, .inl (cy 0, 10, .inl (fun _ => 0)))] := hD
  refine W.widen (k := 1) (n := 10) (Nat.le_of_ble_eq_true rfl) (Nat.le_of_ble_eq_true rfl) ?_
  refine va_putF (D := D) (ci := 8) (v := .ref q0) (ty := .array .int) (own := R_Touch) (C := R_Touch) (T := T_Touch) (N := 8) hx hb hts ck_Touch.good ty_Touch tok_Touch ck_Touch.2.2 hown hKN.1 hP hD hS 0 rfl rfl 0 (by decide) (hts _ (gd (List.mem_of_getElem? (i := 177) (by decide +kernel)) rfl)) (fun _ h9 => h9) rfl hin rfl (by decide +kernel) rfl rfl (Nat.le_of_ble_eq_true rfl) (dc kd_Touch_init 5 rfl) (fun H locs hP hD hS => ?_)
  have hP : va_P D vwCl [(h0, .inr (8, [.ref q0, .null, .int 0, .int 0, .int 0, .int 0, .int 0, .int 0])), (q0, .inl (cy 0, 10, .inl (fun _ => 0)))] H := hP
  have hD : va_D A [(h0, .inr (8, [.ref q0, .null, .int 0, .int 0, .int 0, .int 0, .int 0, .int 0])), (q0, .inl (cy 0, 10, .inl (fun _ => 0)))] := hD
  refine lv_aload_n hx hb (dc kd_Touch_init 6 rfl) rfl (lv_at hl 0 rfl) ?_
  refine lv_sipush (v := 1024) hx hb (dc kd_Touch_init 7 rfl) (by decide) ?_
  refine nw_arr (atype := .int) (t := 0) (N := 1024) hx hb (hts _ (gd (List.mem_of_getElem? (i := 124) (by decide +kernel)) rfl)) rfl rfl (fun _ => rfl) hKN.1 hP hD hS hA (by decide) (by decide +kernel) (Nat.le_of_ble_eq_true rfl) (Nat.le_of_ble_eq_true rfl) (Nat.le_of_ble_eq_true rfl) (dc kd_Touch_init 8 rfl) (fun q1 H hP hD hS => ?_)
  have hP : va_P D vwCl [(h0, .inr (8, [.ref q0, .null, .int 0, .int 0, .int 0, .int 0, .int 0, .int 0])), (q0, .inl (cy 0, 10, .inl (fun _ => 0))), (q1, .inl (cy 0, 1024, .inl (fun _ => 0)))] H := hP
  have hD : va_D A [(h0, .inr (8, [.ref q0, .null, .int 0, .int 0, .int 0, .int 0, .int 0, .int 0])), (q0, .inl (cy 0, 10, .inl (fun _ => 0))), (q1, .inl (cy 0, 1024, .inl (fun _ => 0)))] := hD
  refine W.widen (k := 2) (n := 1034) (Nat.le_of_ble_eq_true rfl) (Nat.le_of_ble_eq_true rfl) ?_
  refine va_putF (D := D) (ci := 8) (v := .ref q1) (ty := .array .int) (own := R_Touch) (C := R_Touch) (T := T_Touch) (N := 8) hx hb hts ck_Touch.good ty_Touch tok_Touch ck_Touch.2.2 hown hKN.1 hP hD hS 0 rfl rfl 1 (by decide) (hts _ (gd (List.mem_of_getElem? (i := 178) (by decide +kernel)) rfl)) (fun _ h9 => h9) rfl hin rfl (by decide +kernel) rfl rfl (Nat.le_of_ble_eq_true rfl) (dc kd_Touch_init 9 rfl) (fun H locs hP hD hS => ?_)
  have hP : va_P D vwCl [(h0, .inr (8, [.ref q0, .ref q1, .int 0, .int 0, .int 0, .int 0, .int 0, .int 0])), (q0, .inl (cy 0, 10, .inl (fun _ => 0))), (q1, .inl (cy 0, 1024, .inl (fun _ => 0)))] H := hP
  have hD : va_D A [(h0, .inr (8, [.ref q0, .ref q1, .int 0, .int 0, .int 0, .int 0, .int 0, .int 0])), (q0, .inl (cy 0, 10, .inl (fun _ => 0))), (q1, .inl (cy 0, 1024, .inl (fun _ => 0)))] := hD
  refine lv_aload_n hx hb (dc kd_Touch_init 10 rfl) rfl (lv_at hl 0 rfl) ?_
  refine lv_iconst (v := 0) hx hb (dc kd_Touch_init 11 rfl) (by decide) ?_
  refine va_put (D := D) (ci := 8) (v := .int 0) (ty := .int) (own := R_Touch) (C := R_Touch) (T := T_Touch) (N := 8) hx hb hts ck_Touch.good ty_Touch tok_Touch ck_Touch.2.2 hown hKN.1 hP hD hS 0 rfl rfl 2 (by decide) (hts _ (gd (List.mem_of_getElem? (i := 179) (by decide +kernel)) rfl)) (fun _ h9 => h9) rfl (by decide +kernel) rfl rfl (Nat.le_of_ble_eq_true rfl) (dc kd_Touch_init 12 rfl) (fun H locs hP hD hS => ?_)
  have hP : va_P D vwCl [(h0, .inr (8, [.ref q0, .ref q1, .int 0, .int 0, .int 0, .int 0, .int 0, .int 0])), (q0, .inl (cy 0, 10, .inl (fun _ => 0))), (q1, .inl (cy 0, 1024, .inl (fun _ => 0)))] H := hP
  have hD : va_D A [(h0, .inr (8, [.ref q0, .ref q1, .int 0, .int 0, .int 0, .int 0, .int 0, .int 0])), (q0, .inl (cy 0, 10, .inl (fun _ => 0))), (q1, .inl (cy 0, 1024, .inl (fun _ => 0)))] := hD
  refine lv_aload_n hx hb (dc kd_Touch_init 13 rfl) rfl (lv_at hl 0 rfl) ?_
  refine lv_iconst (v := 0) hx hb (dc kd_Touch_init 14 rfl) (by decide) ?_
  refine va_put (D := D) (ci := 8) (v := .int 0) (ty := .int) (own := R_Touch) (C := R_Touch) (T := T_Touch) (N := 8) hx hb hts ck_Touch.good ty_Touch tok_Touch ck_Touch.2.2 hown hKN.1 hP hD hS 0 rfl rfl 3 (by decide) (hts _ (gd (List.mem_of_getElem? (i := 180) (by decide +kernel)) rfl)) (fun _ h9 => h9) rfl (by decide +kernel) rfl rfl (Nat.le_of_ble_eq_true rfl) (dc kd_Touch_init 15 rfl) (fun H locs hP hD hS => ?_)
  have hP : va_P D vwCl [(h0, .inr (8, [.ref q0, .ref q1, .int 0, .int 0, .int 0, .int 0, .int 0, .int 0])), (q0, .inl (cy 0, 10, .inl (fun _ => 0))), (q1, .inl (cy 0, 1024, .inl (fun _ => 0)))] H := hP
  have hD : va_D A [(h0, .inr (8, [.ref q0, .ref q1, .int 0, .int 0, .int 0, .int 0, .int 0, .int 0])), (q0, .inl (cy 0, 10, .inl (fun _ => 0))), (q1, .inl (cy 0, 1024, .inl (fun _ => 0)))] := hD
  refine lv_aload_n hx hb (dc kd_Touch_init 16 rfl) rfl (lv_at hl 0 rfl) ?_
  refine lv_iconst (v := 0) hx hb (dc kd_Touch_init 17 rfl) (by decide) ?_
  refine va_put (D := D) (ci := 8) (v := .int 0) (ty := .int) (own := R_Touch) (C := R_Touch) (T := T_Touch) (N := 8) hx hb hts ck_Touch.good ty_Touch tok_Touch ck_Touch.2.2 hown hKN.1 hP hD hS 0 rfl rfl 4 (by decide) (hts _ (gd (List.mem_of_getElem? (i := 181) (by decide +kernel)) rfl)) (fun _ h9 => h9) rfl (by decide +kernel) rfl rfl (Nat.le_of_ble_eq_true rfl) (dc kd_Touch_init 18 rfl) (fun H locs hP hD hS => ?_)
  have hP : va_P D vwCl [(h0, .inr (8, [.ref q0, .ref q1, .int 0, .int 0, .int 0, .int 0, .int 0, .int 0])), (q0, .inl (cy 0, 10, .inl (fun _ => 0))), (q1, .inl (cy 0, 1024, .inl (fun _ => 0)))] H := hP
  have hD : va_D A [(h0, .inr (8, [.ref q0, .ref q1, .int 0, .int 0, .int 0, .int 0, .int 0, .int 0])), (q0, .inl (cy 0, 10, .inl (fun _ => 0))), (q1, .inl (cy 0, 1024, .inl (fun _ => 0)))] := hD
  refine lv_aload_n hx hb (dc kd_Touch_init 19 rfl) rfl (lv_at hl 0 rfl) ?_
  refine lv_iconst (v := 0) hx hb (dc kd_Touch_init 20 rfl) (by decide) ?_
  refine va_put (D := D) (ci := 8) (v := .int 0) (ty := .int) (own := R_Touch) (C := R_Touch) (T := T_Touch) (N := 8) hx hb hts ck_Touch.good ty_Touch tok_Touch ck_Touch.2.2 hown hKN.1 hP hD hS 0 rfl rfl 5 (by decide) (hts _ (gd (List.mem_of_getElem? (i := 183) (by decide +kernel)) rfl)) (fun _ h9 => h9) rfl (by decide +kernel) rfl rfl (Nat.le_of_ble_eq_true rfl) (dc kd_Touch_init 21 rfl) (fun H locs hP hD hS => ?_)
  have hP : va_P D vwCl [(h0, .inr (8, [.ref q0, .ref q1, .int 0, .int 0, .int 0, .int 0, .int 0, .int 0])), (q0, .inl (cy 0, 10, .inl (fun _ => 0))), (q1, .inl (cy 0, 1024, .inl (fun _ => 0)))] H := hP
  have hD : va_D A [(h0, .inr (8, [.ref q0, .ref q1, .int 0, .int 0, .int 0, .int 0, .int 0, .int 0])), (q0, .inl (cy 0, 10, .inl (fun _ => 0))), (q1, .inl (cy 0, 1024, .inl (fun _ => 0)))] := hD
  refine lv_aload_n hx hb (dc kd_Touch_init 22 rfl) rfl (lv_at hl 0 rfl) ?_
  refine lv_iconst (v := 0) hx hb (dc kd_Touch_init 23 rfl) (by decide) ?_
  refine va_put (D := D) (ci := 8) (v := .int 0) (ty := .int) (own := R_Touch) (C := R_Touch) (T := T_Touch) (N := 8) hx hb hts ck_Touch.good ty_Touch tok_Touch ck_Touch.2.2 hown hKN.1 hP hD hS 0 rfl rfl 6 (by decide) (hts _ (gd (List.mem_of_getElem? (i := 185) (by decide +kernel)) rfl)) (fun _ h9 => h9) rfl (by decide +kernel) rfl rfl (Nat.le_of_ble_eq_true rfl) (dc kd_Touch_init 24 rfl) (fun H locs hP hD hS => ?_)
  have hP : va_P D vwCl [(h0, .inr (8, [.ref q0, .ref q1, .int 0, .int 0, .int 0, .int 0, .int 0, .int 0])), (q0, .inl (cy 0, 10, .inl (fun _ => 0))), (q1, .inl (cy 0, 1024, .inl (fun _ => 0)))] H := hP
  have hD : va_D A [(h0, .inr (8, [.ref q0, .ref q1, .int 0, .int 0, .int 0, .int 0, .int 0, .int 0])), (q0, .inl (cy 0, 10, .inl (fun _ => 0))), (q1, .inl (cy 0, 1024, .inl (fun _ => 0)))] := hD
  refine lv_aload_n hx hb (dc kd_Touch_init 25 rfl) rfl (lv_at hl 0 rfl) ?_
  refine lv_iconst (v := 0) hx hb (dc kd_Touch_init 26 rfl) (by decide) ?_
  refine va_put (D := D) (ci := 8) (v := .int 0) (ty := .int) (own := R_Touch) (C := R_Touch) (T := T_Touch) (N := 8) hx hb hts ck_Touch.good ty_Touch tok_Touch ck_Touch.2.2 hown hKN.1 hP hD hS 0 rfl rfl 7 (by decide) (hts _ (gd (List.mem_of_getElem? (i := 187) (by decide +kernel)) rfl)) (fun _ h9 => h9) rfl (by decide +kernel) rfl rfl (Nat.le_of_ble_eq_true rfl) (dc kd_Touch_init 27 rfl) (fun H locs hP hD hS => ?_)
  have hP : va_P D vwCl [(h0, .inr (8, [.ref q0, .ref q1, .int 0, .int 0, .int 0, .int 0, .int 0, .int 0])), (q0, .inl (cy 0, 10, .inl (fun _ => 0))), (q1, .inl (cy 0, 1024, .inl (fun _ => 0)))] H := hP
  have hD : va_D A [(h0, .inr (8, [.ref q0, .ref q1, .int 0, .int 0, .int 0, .int 0, .int 0, .int 0])), (q0, .inl (cy 0, 10, .inl (fun _ => 0))), (q1, .inl (cy 0, 1024, .inl (fun _ => 0)))] := hD
  refine W.widen (k := 2) (n := 1034) (Nat.le_of_ble_eq_true rfl) (Nat.le_of_ble_eq_true rfl) ?_
  exact W.vret hx hb hr (fun t ht hW => ⟨⟨fun k => ([h0, q0, q1] : List Nat).getD k 0, rfl, rfl, by rw [ht]; exact hP, hD⟩, hS.F ht⟩) hS.2.2 (dc kd_Touch_init 28 rfl)
def k_Cover_init : List (Nat × Instr × Nat) := [(0, .aload_n 0, 1), (1, .invokespecial 3, 3), (4, .aload_n 0, 1), (5, .iconst 0, 1), (6, .putfield 9, 3), (9, .aload_n 0, 1), (10, .bipush (-2), 2), (12, .putfield 15, 3), (15, .return_, 1)]
set_option maxRecDepth 100000 in
theorem kd_Cover_init : ∀ q ∈ k_Cover_init, decode prog_2_method_1_code q.1 = .ok q.2 := by decide +kernel
theorem tok_Cover : ∀ k, k < 2 → parseFieldDescriptor (T_Cover k).2.2.1 = some (ty_Cover k) := by decide +kernel
def sh_Cover : List Sh := [.inr (0, [none, none])]
def mem_Cover : Mem := fun c j => if c = 0 ∧ j = 1 then (-2) else 0
set_option maxHeartbeats 4000000 in
set_option maxRecDepth 100000 in
theorem c_Cover (l : Launch) (D : va_G) (cy : Nat → ClassId) (h0 sz : Nat) : Met l m_Cover_init.1 (.code m_Cover_init.1 m_Cover_init.2.1 m_Cover_init.2.2.1 m_Cover_init.2.2.2 :: lw_gd) ({ frames := 1, cells := 0, slots := 0, locals := 40 }) (va_Pc [.ref h0] (fun U => U.heap.size = sz ∧ va_P D vwCl [(h0, .inr (0, [.int 0, .int 0]))] U.heap ∧ KN D cy U ∧ va_D (fun _ => True) [(h0, .inr (0, [.int 0, .int 0]))])) (va_Qv (fun u : Nat → Nat => u 0 = h0) (fun u t => va_P D vwCl (lay cy u mem_Cover sh_Cover) t.heap ∧ va_D (va_A [(h0, .inr (0, [.int 0, .int 0]))] sz) (lay cy u mem_Cover sh_Cover)) (va_A [(h0, .inr (0, [.int 0, .int 0]))] sz)) 0 0 (va_A [(h0, .inr (0, [.int 0, .int 0]))] sz) := by
  refine Met.ofW (cc := m_Cover_init.2.1) (maxL := m_Cover_init.2.2.1) (ret := m_Cover_init.2.2.2) ok_Cover_init.1 rfl ?_
  intro p e s m args below meth c s₁ B hml hv
  obtain ⟨rfl, hsz, hP, hKN, hD0⟩ := hv
  have hx := B.exec
  have hb := B.bytes
  have hr := B.returns
  have hts0 := atoms_spec (ws := .code m_Cover_init.1 m_Cover_init.2.1 m_Cover_init.2.2.1 m_Cover_init.2.2.2 :: lw_gd) B.pre
  have hts : ∀ w ∈ lw_gd, w.before _ s = true := fun w hw => hts0 w (List.mem_cons_of_mem _ hw)
  have hown : s.vm.findClass R_Cover = some m.cls := findClass_of_methodNamed B.named
  have hlocks := B.notSynchronized
  have hin : meth.name = "<init>" := (name_of_methodNamed B.named B.method).1
  subst hsz
  have hD := hD0.self (sz := s.heap.size)
  generalize hAe : va_A [(h0, .inr (0, [.int 0, .int 0]))] s.heap.size = A at hD ⊢
  have hA : ∀ q : Nat, s.heap.size ≤ q → A q := fun q h => by rw [← hAe]; exact Or.inr h
  have hS : va_S A s.heap s.heap [] := va_S.rf
  have hl := lv_entry ([.ref h0]) (n := 1) (Nat.le_of_ble_eq_true rfl)
  rw [lg_entry_eq]
  generalize (lg_sl ([.ref h0]) ++ List.replicate (1 - (lg_sl ([.ref h0])).length) Slot.unset).toArray = ls at hl ⊢
  have hl : lv_has ls 1 [(0, .ref h0)] := hl
  refine lv_aload_n hx hb (dc kd_Cover_init 0 rfl) rfl (lv_at hl 0 rfl) ?_
  refine W.objInit (own := R_Cover) hx hb hown (hts _ (gd (List.mem_of_getElem? (i := 211) (by decide +kernel)) rfl)) (hts _ (gd (List.mem_of_getElem? (i := 96) (by decide +kernel)) rfl)) (hts _ (gd (List.mem_of_getElem? (i := 97) (by decide +kernel)) rfl)) rfl (by rw [hml]; exact hl.1) rfl (dc kd_Cover_init 1 rfl) (Nat.le_of_ble_eq_true rfl) (Nat.le_of_ble_eq_true rfl) ?_
  refine W.eq (g2 := F0 m 4 ls []) rfl ?_
  refine lv_aload_n hx hb (dc kd_Cover_init 2 rfl) rfl (lv_at hl 0 rfl) ?_
  refine lv_iconst (v := 0) hx hb (dc kd_Cover_init 3 rfl) (by decide) ?_
  refine va_put (D := D) (ci := 0) (v := .int 0) (ty := .int) (own := R_Cover) (C := R_Cover) (T := T_Cover) (N := 2) hx hb hts ck_Cover.good ty_Cover tok_Cover ck_Cover.2.2 hown hKN.1 hP hD hS 0 rfl rfl 0 (by decide) (hts _ (gd (List.mem_of_getElem? (i := 212) (by decide +kernel)) rfl)) (fun _ h9 => h9) rfl (by decide +kernel) rfl rfl (Nat.le_of_ble_eq_true rfl) (dc kd_Cover_init 4 rfl) (fun H locs hP hD hS => ?_)
  have hP : va_P D vwCl [(h0, .inr (0, [.int 0, .int 0]))] H := hP
  have hD : va_D A [(h0, .inr (0, [.int 0, .int 0]))] := hD
  refine lv_aload_n hx hb (dc kd_Cover_init 5 rfl) rfl (lv_at hl 0 rfl) ?_
  refine lv_bipush (v := (-2)) hx hb (dc kd_Cover_init 6 rfl) (by decide) ?_
  refine va_put (D := D) (ci := 0) (v := .int (-2)) (ty := .int) (own := R_Cover) (C := R_Cover) (T := T_Cover) (N := 2) hx hb hts ck_Cover.good ty_Cover tok_Cover ck_Cover.2.2 hown hKN.1 hP hD hS 0 rfl rfl 1 (by decide) (hts _ (gd (List.mem_of_getElem? (i := 214) (by decide +kernel)) rfl)) (fun _ h9 => h9) rfl (by decide +kernel) rfl rfl (Nat.le_of_ble_eq_true rfl) (dc kd_Cover_init 7 rfl) (fun H locs hP hD hS => ?_)
  have hP : va_P D vwCl [(h0, .inr (0, [.int 0, .int (-2)]))] H := hP
  have hD : va_D A [(h0, .inr (0, [.int 0, .int (-2)]))] := hD
  refine W.widen (k := 0) (n := 0) (Nat.le_of_ble_eq_true rfl) (Nat.le_of_ble_eq_true rfl) ?_
  exact W.vret hx hb hr (fun t ht hW => ⟨⟨fun k => ([h0] : List Nat).getD k 0, rfl, rfl, by rw [ht]; exact hP, hD⟩, hS.F ht⟩) hS.2.2 (dc kd_Cover_init 8 rfl)
def k_Thinner_init : List (Nat × Instr × Nat) := [(0, .aload_n 0, 1), (1, .invokespecial 3, 3), (4, .aload_n 0, 1), (5, .bipush 17, 2), (7, .newarray .int, 2), (9, .putfield 9, 3), (12, .aload_n 0, 1), (13, .sipush 256, 3), (16, .newarray .int, 2), (18, .putfield 15, 3), (21, .aload_n 0, 1), (22, .iconst 0, 1), (23, .putfield 18, 3), (26, .return_, 1)]
set_option maxRecDepth 100000 in
theorem kd_Thinner_init : ∀ q ∈ k_Thinner_init, decode prog_10_method_1_code q.1 = .ok q.2 := by decide +kernel
theorem tok_Thinner : ∀ k, k < 3 → parseFieldDescriptor (T_Thinner k).2.2.1 = some (ty_Thinner k) := by decide +kernel
def sh_Thinner : List Sh := [.inr (7, [some 1, some 2, none]), .inl (0, 17), .inl (0, 256)]
def mem_Thinner : Mem := fun c j => 0
set_option maxHeartbeats 4000000 in
set_option maxRecDepth 100000 in
theorem c_Thinner (l : Launch) (D : va_G) (cy : Nat → ClassId) (h0 sz : Nat) : Met l m_Thinner_init.1 (.code m_Thinner_init.1 m_Thinner_init.2.1 m_Thinner_init.2.2.1 m_Thinner_init.2.2.2 :: lw_gd) ({ frames := 1, cells := 2, slots := 273, locals := 40 }) (va_Pc [.ref h0] (fun U => U.heap.size = sz ∧ va_P D vwCl [(h0, .inr (7, [.null, .null, .int 0]))] U.heap ∧ KN D cy U ∧ va_D (fun _ => True) [(h0, .inr (7, [.null, .null, .int 0]))])) (va_Qv (fun u : Nat → Nat => u 0 = h0) (fun u t => va_P D vwCl (lay cy u mem_Thinner sh_Thinner) t.heap ∧ va_D (va_A [(h0, .inr (7, [.null, .null, .int 0]))] sz) (lay cy u mem_Thinner sh_Thinner)) (va_A [(h0, .inr (7, [.null, .null, .int 0]))] sz)) 2 273 (va_A [(h0, .inr (7, [.null, .null, .int 0]))] sz) := by
  refine Met.ofW (cc := m_Thinner_init.2.1) (maxL := m_Thinner_init.2.2.1) (ret := m_Thinner_init.2.2.2) ok_Thinner_init.1 rfl ?_
  intro p e s m args below meth c s₁ B hml hv
  obtain ⟨rfl, hsz, hP, hKN, hD0⟩ := hv
  have hx := B.exec
  have hb := B.bytes
  have hr := B.returns
  have hts0 := atoms_spec (ws := .code m_Thinner_init.1 m_Thinner_init.2.1 m_Thinner_init.2.2.1 m_Thinner_init.2.2.2 :: lw_gd) B.pre
  have hts : ∀ w ∈ lw_gd, w.before _ s = true := fun w hw => hts0 w (List.mem_cons_of_mem _ hw)
  have hown : s.vm.findClass R_Thinner = some m.cls := findClass_of_methodNamed B.named
  have hlocks := B.notSynchronized
  have hin : meth.name = "<init>" := (name_of_methodNamed B.named B.method).1
  subst hsz
  have hD := hD0.self (sz := s.heap.size)
  generalize hAe : va_A [(h0, .inr (7, [.null, .null, .int 0]))] s.heap.size = A at hD ⊢
  have hA : ∀ q : Nat, s.heap.size ≤ q → A q := fun q h => by rw [← hAe]; exact Or.inr h
  have hS : va_S A s.heap s.heap [] := va_S.rf
  have hl := lv_entry ([.ref h0]) (n := 1) (Nat.le_of_ble_eq_true rfl)
  rw [lg_entry_eq]
  generalize (lg_sl ([.ref h0]) ++ List.replicate (1 - (lg_sl ([.ref h0])).length) Slot.unset).toArray = ls at hl ⊢
  have hl : lv_has ls 1 [(0, .ref h0)] := hl
  refine lv_aload_n hx hb (dc kd_Thinner_init 0 rfl) rfl (lv_at hl 0 rfl) ?_
  refine W.objInit (own := R_Thinner) hx hb hown (hts _ (gd (List.mem_of_getElem? (i := 226) (by decide +kernel)) rfl)) (hts _ (gd (List.mem_of_getElem? (i := 96) (by decide +kernel)) rfl)) (hts _ (gd (List.mem_of_getElem? (i := 97) (by decide +kernel)) rfl)) rfl (by rw [hml]; exact hl.1) rfl (dc kd_Thinner_init 1 rfl) (Nat.le_of_ble_eq_true rfl) (Nat.le_of_ble_eq_true rfl) ?_
  refine W.eq (g2 := F0 m 4 ls []) rfl ?_
  refine lv_aload_n hx hb (dc kd_Thinner_init 2 rfl) rfl (lv_at hl 0 rfl) ?_
  refine lv_bipush (v := 17) hx hb (dc kd_Thinner_init 3 rfl) (by decide) ?_
  refine nw_arr (atype := .int) (t := 0) (N := 17) hx hb (hts _ (gd (List.mem_of_getElem? (i := 124) (by decide +kernel)) rfl)) rfl rfl (fun _ => rfl) hKN.1 hP hD hS hA (by decide) (by decide +kernel) (Nat.le_of_ble_eq_true rfl) (Nat.le_of_ble_eq_true rfl) (Nat.le_of_ble_eq_true rfl) (dc kd_Thinner_init 4 rfl) (fun q0 H hP hD hS => ?_)
  have hP : va_P D vwCl [(h0, .inr (7, [.null, .null, .int 0])), (q0, .inl (cy 0, 17, .inl (fun _ => 0)))] H := hP
  have hD : va_D A [(h0, .inr (7, [.null, .null, .int 0])), (q0, .inl (cy 0, 17, .inl (fun _ => 0)))] := hD
  refine W.widen (k := 1) (n := 17) (Nat.le_of_ble_eq_true rfl) (Nat.le_of_ble_eq_true rfl) ?_
  refine va_putF (D := D) (ci := 7) (v := .ref q0) (ty := .array .int) (own := R_Thinner) (C := R_Thinner) (T := T_Thinner) (N := 3) hx hb hts ck_Thinner.good ty_Thinner tok_Thinner ck_Thinner.2.2 hown hKN.1 hP hD hS 0 rfl rfl 0 (by decide) (hts _ (gd (List.mem_of_getElem? (i := 227) (by decide +kernel)) rfl)) (fun _ h9 => h9) rfl hin rfl (by decide +kernel) rfl rfl (Nat.le_of_ble_eq_true rfl) (dc kd_Thinner_init 5 rfl) (fun H locs hP hD hS => ?_)
  have hP : va_P D vwCl [(h0, .inr (7, [.ref q0, .null, .int 0])), (q0, .inl (cy 0, 17, .inl (fun _ => 0)))] H := hP
  have hD : va_D A [(h0, .inr (7, [.ref q0, .null, .int 0])), (q0, .inl (cy 0, 17, .inl (fun _ => 0)))] := hD
  refine lv_aload_n hx hb (dc kd_Thinner_init 6 rfl) rfl (lv_at hl 0 rfl) ?_
  refine lv_sipush (v := 256) hx hb (dc kd_Thinner_init 7 rfl) (by decide) ?_
  refine nw_arr (atype := .int) (t := 0) (N := 256) hx hb (hts _ (gd (List.mem_of_getElem? (i := 124) (by decide +kernel)) rfl)) rfl rfl (fun _ => rfl) hKN.1 hP hD hS hA (by decide) (by decide +kernel) (Nat.le_of_ble_eq_true rfl) (Nat.le_of_ble_eq_true rfl) (Nat.le_of_ble_eq_true rfl) (dc kd_Thinner_init 8 rfl) (fun q1 H hP hD hS => ?_)
  have hP : va_P D vwCl [(h0, .inr (7, [.ref q0, .null, .int 0])), (q0, .inl (cy 0, 17, .inl (fun _ => 0))), (q1, .inl (cy 0, 256, .inl (fun _ => 0)))] H := hP
  have hD : va_D A [(h0, .inr (7, [.ref q0, .null, .int 0])), (q0, .inl (cy 0, 17, .inl (fun _ => 0))), (q1, .inl (cy 0, 256, .inl (fun _ => 0)))] := hD
  refine W.widen (k := 2) (n := 273) (Nat.le_of_ble_eq_true rfl) (Nat.le_of_ble_eq_true rfl) ?_
  refine va_putF (D := D) (ci := 7) (v := .ref q1) (ty := .array .int) (own := R_Thinner) (C := R_Thinner) (T := T_Thinner) (N := 3) hx hb hts ck_Thinner.good ty_Thinner tok_Thinner ck_Thinner.2.2 hown hKN.1 hP hD hS 0 rfl rfl 1 (by decide) (hts _ (gd (List.mem_of_getElem? (i := 228) (by decide +kernel)) rfl)) (fun _ h9 => h9) rfl hin rfl (by decide +kernel) rfl rfl (Nat.le_of_ble_eq_true rfl) (dc kd_Thinner_init 9 rfl) (fun H locs hP hD hS => ?_)
  have hP : va_P D vwCl [(h0, .inr (7, [.ref q0, .ref q1, .int 0])), (q0, .inl (cy 0, 17, .inl (fun _ => 0))), (q1, .inl (cy 0, 256, .inl (fun _ => 0)))] H := hP
  have hD : va_D A [(h0, .inr (7, [.ref q0, .ref q1, .int 0])), (q0, .inl (cy 0, 17, .inl (fun _ => 0))), (q1, .inl (cy 0, 256, .inl (fun _ => 0)))] := hD
  refine lv_aload_n hx hb (dc kd_Thinner_init 10 rfl) rfl (lv_at hl 0 rfl) ?_
  refine lv_iconst (v := 0) hx hb (dc kd_Thinner_init 11 rfl) (by decide) ?_
  refine va_put (D := D) (ci := 7) (v := .int 0) (ty := .int) (own := R_Thinner) (C := R_Thinner) (T := T_Thinner) (N := 3) hx hb hts ck_Thinner.good ty_Thinner tok_Thinner ck_Thinner.2.2 hown hKN.1 hP hD hS 0 rfl rfl 2 (by decide) (hts _ (gd (List.mem_of_getElem? (i := 229) (by decide +kernel)) rfl)) (fun _ h9 => h9) rfl (by decide +kernel) rfl rfl (Nat.le_of_ble_eq_true rfl) (dc kd_Thinner_init 12 rfl) (fun H locs hP hD hS => ?_)
  have hP : va_P D vwCl [(h0, .inr (7, [.ref q0, .ref q1, .int 0])), (q0, .inl (cy 0, 17, .inl (fun _ => 0))), (q1, .inl (cy 0, 256, .inl (fun _ => 0)))] H := hP
  have hD : va_D A [(h0, .inr (7, [.ref q0, .ref q1, .int 0])), (q0, .inl (cy 0, 17, .inl (fun _ => 0))), (q1, .inl (cy 0, 256, .inl (fun _ => 0)))] := hD
  refine W.widen (k := 2) (n := 273) (Nat.le_of_ble_eq_true rfl) (Nat.le_of_ble_eq_true rfl) ?_
  exact W.vret hx hb hr (fun t ht hW => ⟨⟨fun k => ([h0, q0, q1] : List Nat).getD k 0, rfl, rfl, by rw [ht]; exact hP, hD⟩, hS.F ht⟩) hS.2.2 (dc kd_Thinner_init 13 rfl)
def k_Kernel_init : List (Nat × Instr × Nat) := [(0, .aload_n 0, 1), (1, .invokespecial 3, 3), (4, .aload_n 0, 1), (5, .new 9, 3), (8, .dup, 1), (9, .invokespecial 11, 3), (12, .putfield 12, 3), (15, .aload_n 0, 1), (16, .new 9, 3), (19, .dup, 1), (20, .invokespecial 11, 3), (23, .putfield 18, 3), (26, .aload_n 0, 1), (27, .bipush 16, 2), (29, .newarray .int, 2), (31, .putfield 21, 3), (34, .aload_n 0, 1), (35, .bipush 16, 2), (37, .newarray .int, 2), (39, .putfield 25, 3), (42, .aload_n 0, 1), (43, .bipush 16, 2), (45, .newarray .int, 2), (47, .putfield 28, 3), (50, .aload_n 0, 1), (51, .bipush 16, 2), (53, .newarray .int, 2), (55, .putfield 31, 3), (58, .aload_n 0, 1), (59, .iconst 0, 1), (60, .putfield 34, 3), (63, .aload_n 0, 1), (64, .iconst 0, 1), (65, .putfield 38, 3), (68, .aload_n 0, 1), (69, .iconst 0, 1), (70, .putfield 41, 3), (73, .return_, 1)]
set_option maxRecDepth 100000 in
theorem kd_Kernel_init : ∀ q ∈ k_Kernel_init, decode prog_5_method_1_code q.1 = .ok q.2 := by decide +kernel
theorem tok_Kernel : ∀ k, k < 9 → parseFieldDescriptor (T_Kernel k).2.2.1 = some (ty_Kernel k) := by decide +kernel
def sh_Kernel : List Sh := [.inr (3, [some 1, some 3, some 5, some 6, some 7, some 8, none, none, none]), .inr (1, [some 2, none, none]), .inl (0, 17), .inr (1, [some 4, none, none]), .inl (0, 17), .inl (0, 16), .inl (0, 16), .inl (0, 16), .inl (0, 16)]
def mem_Kernel : Mem := fun c j => if c = 1 ∧ j = 2 then 6 else if c = 3 ∧ j = 2 then 6 else 0
set_option maxHeartbeats 4000000 in
set_option maxRecDepth 100000 in
theorem c_Kernel (l : Launch) (D : va_G) (cy : Nat → ClassId) (h0 sz : Nat) : Met l m_Kernel_init.1 (.code m_Kernel_init.1 m_Kernel_init.2.1 m_Kernel_init.2.2.1 m_Kernel_init.2.2.2 :: lw_gd) ({ frames := 2, cells := 8, slots := 104, locals := 100 }) (va_Pc [.ref h0] (fun U => U.heap.size = sz ∧ va_P D vwCl [(h0, .inr (3, [.null, .null, .null, .null, .null, .null, .int 0, .int 0, .int 0]))] U.heap ∧ KN D cy U ∧ va_D (fun _ => True) [(h0, .inr (3, [.null, .null, .null, .null, .null, .null, .int 0, .int 0, .int 0]))])) (va_Qv (fun u : Nat → Nat => u 0 = h0) (fun u t => va_P D vwCl (lay cy u mem_Kernel sh_Kernel) t.heap ∧ va_D (va_A [(h0, .inr (3, [.null, .null, .null, .null, .null, .null, .int 0, .int 0, .int 0]))] sz) (lay cy u mem_Kernel sh_Kernel)) (va_A [(h0, .inr (3, [.null, .null, .null, .null, .null, .null, .int 0, .int 0, .int 0]))] sz)) 8 104 (va_A [(h0, .inr (3, [.null, .null, .null, .null, .null, .null, .int 0, .int 0, .int 0]))] sz) := by
  refine Met.ofW (cc := m_Kernel_init.2.1) (maxL := m_Kernel_init.2.2.1) (ret := m_Kernel_init.2.2.2) ok_Kernel_init.1 rfl ?_
  intro p e s m args below meth c s₁ B hml hv
  obtain ⟨rfl, hsz, hP, hKN, hD0⟩ := hv
  have hx := B.exec
  have hb := B.bytes
  have hr := B.returns
  have hts0 := atoms_spec (ws := .code m_Kernel_init.1 m_Kernel_init.2.1 m_Kernel_init.2.2.1 m_Kernel_init.2.2.2 :: lw_gd) B.pre
  have hts : ∀ w ∈ lw_gd, w.before _ s = true := fun w hw => hts0 w (List.mem_cons_of_mem _ hw)
  have hown : s.vm.findClass R_Kernel = some m.cls := findClass_of_methodNamed B.named
  have hlocks := B.notSynchronized
  have hin : meth.name = "<init>" := (name_of_methodNamed B.named B.method).1
  subst hsz
  have hD := hD0.self (sz := s.heap.size)
  generalize hAe : va_A [(h0, .inr (3, [.null, .null, .null, .null, .null, .null, .int 0, .int 0, .int 0]))] s.heap.size = A at hD ⊢
  have hA : ∀ q : Nat, s.heap.size ≤ q → A q := fun q h => by rw [← hAe]; exact Or.inr h
  have hS : va_S A s.heap s.heap [] := va_S.rf
  have hl := lv_entry ([.ref h0]) (n := 1) (Nat.le_of_ble_eq_true rfl)
  rw [lg_entry_eq]
  generalize (lg_sl ([.ref h0]) ++ List.replicate (1 - (lg_sl ([.ref h0])).length) Slot.unset).toArray = ls at hl ⊢
  have hl : lv_has ls 1 [(0, .ref h0)] := hl
  refine lv_aload_n hx hb (dc kd_Kernel_init 0 rfl) rfl (lv_at hl 0 rfl) ?_
  refine W.objInit (own := R_Kernel) hx hb hown (hts _ (gd (List.mem_of_getElem? (i := 242) (by decide +kernel)) rfl)) (hts _ (gd (List.mem_of_getElem? (i := 96) (by decide +kernel)) rfl)) (hts _ (gd (List.mem_of_getElem? (i := 97) (by decide +kernel)) rfl)) rfl (by rw [hml]; exact hl.1) rfl (dc kd_Kernel_init 1 rfl) (Nat.le_of_ble_eq_true rfl) (Nat.le_of_ble_eq_true rfl) ?_
  refine W.eq (g2 := F0 m 4 ls []) rfl ?_
  refine lv_aload_n hx hb (dc kd_Kernel_init 2 rfl) rfl (lv_at hl 0 rfl) ?_
  refine va_new (ci := 1) (fs := [.null, .int 0, .int 0]) (own := R_Kernel) (C := R_Family) (T := T_Family) (N := 3) hx hb hts ck_Family.good ty_Family tok_Family hown (hts _ (gd (List.mem_of_getElem? (i := 243) (by decide +kernel)) rfl)) (hts _ (gd (List.mem_of_getElem? (i := 99) (by decide +kernel)) rfl)) (hts _ (gd (List.mem_of_getElem? (i := 73) (by decide +kernel)) rfl)) hKN.1 hP hD hS hA rfl (fun j hj => by rcases (show j = 0 ∨ j = 1 ∨ j = 2 by omega) with rfl | rfl | rfl <;> rfl) (Nat.le_of_ble_eq_true rfl) (Nat.le_of_ble_eq_true rfl) (dc kd_Kernel_init 3 rfl) (fun q0 H hP hD hS => ?_)
  have hP : va_P D vwCl [(h0, .inr (3, [.null, .null, .null, .null, .null, .null, .int 0, .int 0, .int 0])), (q0, .inr (1, [.null, .int 0, .int 0]))] H := hP
  have hD : va_D A [(h0, .inr (3, [.null, .null, .null, .null, .null, .null, .int 0, .int 0, .int 0])), (q0, .inr (1, [.null, .int 0, .int 0]))] := hD
  refine W.widen (k := 1) (n := 3) (Nat.le_of_ble_eq_true rfl) (Nat.le_of_ble_eq_true rfl) ?_
  refine lv_dup hx hb (dc kd_Kernel_init 4 rfl) rfl ?_
  have hPc := hP.sub (ws' := [(q0, .inr (1, [.null, .int 0, .int 0]))]) [1] rfl
  have hDc := hD.sub (ws' := [(q0, .inr (1, [.null, .int 0, .int 0]))]) [1] (by decide) rfl
  have hFc := va_free (wc := [(q0, .inr (1, [.null, .int 0, .int 0]))]) hD hS hA [1] rfl
  refine va_callv (va_runIN (host := "PetalSets") (As := []) (rest := [.ref q0, .ref h0]) ⟨hx, hb, hml, hown, hts⟩ (c_Family l D cy q0 H.size) ⟨va_cnB 0 hts (tbl_in m_Family_init 0 ok_Family_init) rfl rfl rfl (hKN.2 _ _ _ _ (List.mem_of_getElem? (i := 244) (by decide +kernel))) (hts _ (gd (List.mem_of_getElem? (i := 73) (by decide +kernel)) rfl)) ok_Family_init.2.2.2.1 ⟨Nat.le_of_ble_eq_true rfl, Nat.le_of_ble_eq_true rfl⟩, rfl, (hts _ (gd (List.mem_of_getElem? (i := 101) (by decide +kernel)) rfl))⟩ ⟨fun a U g mk q => by obtain ⟨q0, q1, qP, qK, qD⟩ := q; exact ⟨q0, q1, qP, qK.blind g mk a, qD⟩, fun U hU hW => ⟨rfl, by rw [hU], by rw [hU]; exact hPc, hKN.warm hW, hDc.weaken (fun _ _ _ _ => trivial)⟩⟩ rfl rfl hl.1 rfl (lv_room (Nat.le_of_ble_eq_true rfl)) (dc kd_Kernel_init 5 rfl) ⟨Nat.le_of_ble_eq_true rfl, Nat.le_of_ble_eq_true rfl⟩) hS (fun q _ h => hFc q h) hFc (fun uq0 t H1 locs ht hvm hw hB hz1 hk1 hS => ?_)
  obtain ⟨hP1, hD1⟩ := hB
  rw [ht] at hP1
  obtain ⟨hP, hD⟩ := va_join (wr := [(h0, .inr (3, [.null, .null, .null, .null, .null, .null, .int 0, .int 0, .int 0]))]) (w1 := lay cy uq0 mem_Family sh_Family) hP hD [1] [0] rfl rfl (by decide) (by decide) hk1 hFc hP1 hD1
  generalize H1 = H at hP hS ⊢
  have hP : va_P D vwCl [(h0, .inr (3, [.null, .null, .null, .null, .null, .null, .int 0, .int 0, .int 0])), ((uq0 0), .inr (1, [.ref (uq0 1), .int 0, .int 6])), ((uq0 1), .inl (cy 0, 17, .inl (fun _ => 0)))] H := hP
  have hD : va_D A [(h0, .inr (3, [.null, .null, .null, .null, .null, .null, .int 0, .int 0, .int 0])), ((uq0 0), .inr (1, [.ref (uq0 1), .int 0, .int 6])), ((uq0 1), .inl (cy 0, 17, .inl (fun _ => 0)))] := hD
  have hw : uq0 0 = q0 := hw
  rw [hw] at hP hD
  refine W.widen (k := 2) (n := 20) (Nat.le_of_ble_eq_true rfl) (Nat.le_of_ble_eq_true rfl) ?_
  refine va_putF (D := D) (ci := 3) (v := .ref q0) (ty := .object "PetalSets$Family") (own := R_Kernel) (C := R_Kernel) (T := T_Kernel) (N := 9) hx hb hts ck_Kernel.good ty_Kernel tok_Kernel ck_Kernel.2.2 hown hKN.1 hP hD hS 0 rfl rfl 0 (by decide) (hts _ (gd (List.mem_of_getElem? (i := 245) (by decide +kernel)) rfl)) (fun _ h9 => h9) rfl hin rfl (by decide +kernel) rfl rfl (Nat.le_of_ble_eq_true rfl) (dc kd_Kernel_init 6 rfl) (fun H locs hP hD hS => ?_)
  have hP : va_P D vwCl [(h0, .inr (3, [.ref q0, .null, .null, .null, .null, .null, .int 0, .int 0, .int 0])), (q0, .inr (1, [.ref (uq0 1), .int 0, .int 6])), ((uq0 1), .inl (cy 0, 17, .inl (fun _ => 0)))] H := hP
  have hD : va_D A [(h0, .inr (3, [.ref q0, .null, .null, .null, .null, .null, .int 0, .int 0, .int 0])), (q0, .inr (1, [.ref (uq0 1), .int 0, .int 6])), ((uq0 1), .inl (cy 0, 17, .inl (fun _ => 0)))] := hD
  refine lv_aload_n hx hb (dc kd_Kernel_init 7 rfl) rfl (lv_at hl 0 rfl) ?_
  refine va_new (ci := 1) (fs := [.null, .int 0, .int 0]) (own := R_Kernel) (C := R_Family) (T := T_Family) (N := 3) hx hb hts ck_Family.good ty_Family tok_Family hown (hts _ (gd (List.mem_of_getElem? (i := 243) (by decide +kernel)) rfl)) (hts _ (gd (List.mem_of_getElem? (i := 99) (by decide +kernel)) rfl)) (hts _ (gd (List.mem_of_getElem? (i := 73) (by decide +kernel)) rfl)) hKN.1 hP hD hS hA rfl (fun j hj => by rcases (show j = 0 ∨ j = 1 ∨ j = 2 by omega) with rfl | rfl | rfl <;> rfl) (Nat.le_of_ble_eq_true rfl) (Nat.le_of_ble_eq_true rfl) (dc kd_Kernel_init 8 rfl) (fun q1 H hP hD hS => ?_)
  have hP : va_P D vwCl [(h0, .inr (3, [.ref q0, .null, .null, .null, .null, .null, .int 0, .int 0, .int 0])), (q0, .inr (1, [.ref (uq0 1), .int 0, .int 6])), ((uq0 1), .inl (cy 0, 17, .inl (fun _ => 0))), (q1, .inr (1, [.null, .int 0, .int 0]))] H := hP
  have hD : va_D A [(h0, .inr (3, [.ref q0, .null, .null, .null, .null, .null, .int 0, .int 0, .int 0])), (q0, .inr (1, [.ref (uq0 1), .int 0, .int 6])), ((uq0 1), .inl (cy 0, 17, .inl (fun _ => 0))), (q1, .inr (1, [.null, .int 0, .int 0]))] := hD
  refine W.widen (k := 3) (n := 23) (Nat.le_of_ble_eq_true rfl) (Nat.le_of_ble_eq_true rfl) ?_
  refine lv_dup hx hb (dc kd_Kernel_init 9 rfl) rfl ?_
  have hPc := hP.sub (ws' := [(q1, .inr (1, [.null, .int 0, .int 0]))]) [3] rfl
  have hDc := hD.sub (ws' := [(q1, .inr (1, [.null, .int 0, .int 0]))]) [3] (by decide) rfl
  have hFc := va_free (wc := [(q1, .inr (1, [.null, .int 0, .int 0]))]) hD hS hA [3] rfl
  refine va_callv (va_runIN (host := "PetalSets") (As := []) (rest := [.ref q1, .ref h0]) ⟨hx, hb, hml, hown, hts⟩ (c_Family l D cy q1 H.size) ⟨va_cnB 0 hts (tbl_in m_Family_init 0 ok_Family_init) rfl rfl rfl (hKN.2 _ _ _ _ (List.mem_of_getElem? (i := 244) (by decide +kernel))) (hts _ (gd (List.mem_of_getElem? (i := 73) (by decide +kernel)) rfl)) ok_Family_init.2.2.2.1 ⟨Nat.le_of_ble_eq_true rfl, Nat.le_of_ble_eq_true rfl⟩, rfl, (hts _ (gd (List.mem_of_getElem? (i := 101) (by decide +kernel)) rfl))⟩ ⟨fun a U g mk q => by obtain ⟨q0, q1, qP, qK, qD⟩ := q; exact ⟨q0, q1, qP, qK.blind g mk a, qD⟩, fun U hU hW => ⟨rfl, by rw [hU], by rw [hU]; exact hPc, hKN.warm hW, hDc.weaken (fun _ _ _ _ => trivial)⟩⟩ rfl rfl hl.1 rfl (lv_room (Nat.le_of_ble_eq_true rfl)) (dc kd_Kernel_init 10 rfl) ⟨Nat.le_of_ble_eq_true rfl, Nat.le_of_ble_eq_true rfl⟩) hS (fun q _ h => hFc q h) hFc (fun uq1 t H1 locs ht hvm hw hB hz1 hk1 hS => ?_)
  obtain ⟨hP1, hD1⟩ := hB
  rw [ht] at hP1
  obtain ⟨hP, hD⟩ := va_join (wr := [(h0, .inr (3, [.ref q0, .null, .null, .null, .null, .null, .int 0, .int 0, .int 0])), (q0, .inr (1, [.ref (uq0 1), .int 0, .int 6])), ((uq0 1), .inl (cy 0, 17, .inl (fun _ => 0)))]) (w1 := lay cy uq1 mem_Family sh_Family) hP hD [3] [0, 1, 2] rfl rfl (by decide) (by decide) hk1 hFc hP1 hD1
  generalize H1 = H at hP hS ⊢
  have hP : va_P D vwCl [(h0, .inr (3, [.ref q0, .null, .null, .null, .null, .null, .int 0, .int 0, .int 0])), (q0, .inr (1, [.ref (uq0 1), .int 0, .int 6])), ((uq0 1), .inl (cy 0, 17, .inl (fun _ => 0))), ((uq1 0), .inr (1, [.ref (uq1 1), .int 0, .int 6])), ((uq1 1), .inl (cy 0, 17, .inl (fun _ => 0)))] H := hP
  have hD : va_D A [(h0, .inr (3, [.ref q0, .null, .null, .null, .null, .null, .int 0, .int 0, .int 0])), (q0, .inr (1, [.ref (uq0 1), .int 0, .int 6])), ((uq0 1), .inl (cy 0, 17, .inl (fun _ => 0))), ((uq1 0), .inr (1, [.ref (uq1 1), .int 0, .int 6])), ((uq1 1), .inl (cy 0, 17, .inl (fun _ => 0)))] := hD
  have hw : uq1 0 = q1 := hw
  rw [hw] at hP hD
  refine W.widen (k := 4) (n := 40) (Nat.le_of_ble_eq_true rfl) (Nat.le_of_ble_eq_true rfl) ?_
  refine va_putF (D := D) (ci := 3) (v := .ref q1) (ty := .object "PetalSets$Family") (own := R_Kernel) (C := R_Kernel) (T := T_Kernel) (N := 9) hx hb hts ck_Kernel.good ty_Kernel tok_Kernel ck_Kernel.2.2 hown hKN.1 hP hD hS 0 rfl rfl 1 (by decide) (hts _ (gd (List.mem_of_getElem? (i := 246) (by decide +kernel)) rfl)) (fun _ h9 => h9) rfl hin rfl (by decide +kernel) rfl rfl (Nat.le_of_ble_eq_true rfl) (dc kd_Kernel_init 11 rfl) (fun H locs hP hD hS => ?_)
  have hP : va_P D vwCl [(h0, .inr (3, [.ref q0, .ref q1, .null, .null, .null, .null, .int 0, .int 0, .int 0])), (q0, .inr (1, [.ref (uq0 1), .int 0, .int 6])), ((uq0 1), .inl (cy 0, 17, .inl (fun _ => 0))), (q1, .inr (1, [.ref (uq1 1), .int 0, .int 6])), ((uq1 1), .inl (cy 0, 17, .inl (fun _ => 0)))] H := hP
  have hD : va_D A [(h0, .inr (3, [.ref q0, .ref q1, .null, .null, .null, .null, .int 0, .int 0, .int 0])), (q0, .inr (1, [.ref (uq0 1), .int 0, .int 6])), ((uq0 1), .inl (cy 0, 17, .inl (fun _ => 0))), (q1, .inr (1, [.ref (uq1 1), .int 0, .int 6])), ((uq1 1), .inl (cy 0, 17, .inl (fun _ => 0)))] := hD
  refine lv_aload_n hx hb (dc kd_Kernel_init 12 rfl) rfl (lv_at hl 0 rfl) ?_
  refine lv_bipush (v := 16) hx hb (dc kd_Kernel_init 13 rfl) (by decide) ?_
  refine nw_arr (atype := .int) (t := 0) (N := 16) hx hb (hts _ (gd (List.mem_of_getElem? (i := 124) (by decide +kernel)) rfl)) rfl rfl (fun _ => rfl) hKN.1 hP hD hS hA (by decide) (by decide +kernel) (Nat.le_of_ble_eq_true rfl) (Nat.le_of_ble_eq_true rfl) (Nat.le_of_ble_eq_true rfl) (dc kd_Kernel_init 14 rfl) (fun q2 H hP hD hS => ?_)
  have hP : va_P D vwCl [(h0, .inr (3, [.ref q0, .ref q1, .null, .null, .null, .null, .int 0, .int 0, .int 0])), (q0, .inr (1, [.ref (uq0 1), .int 0, .int 6])), ((uq0 1), .inl (cy 0, 17, .inl (fun _ => 0))), (q1, .inr (1, [.ref (uq1 1), .int 0, .int 6])), ((uq1 1), .inl (cy 0, 17, .inl (fun _ => 0))), (q2, .inl (cy 0, 16, .inl (fun _ => 0)))] H := hP
  have hD : va_D A [(h0, .inr (3, [.ref q0, .ref q1, .null, .null, .null, .null, .int 0, .int 0, .int 0])), (q0, .inr (1, [.ref (uq0 1), .int 0, .int 6])), ((uq0 1), .inl (cy 0, 17, .inl (fun _ => 0))), (q1, .inr (1, [.ref (uq1 1), .int 0, .int 6])), ((uq1 1), .inl (cy 0, 17, .inl (fun _ => 0))), (q2, .inl (cy 0, 16, .inl (fun _ => 0)))] := hD
  refine W.widen (k := 5) (n := 56) (Nat.le_of_ble_eq_true rfl) (Nat.le_of_ble_eq_true rfl) ?_
  refine va_putF (D := D) (ci := 3) (v := .ref q2) (ty := .array .int) (own := R_Kernel) (C := R_Kernel) (T := T_Kernel) (N := 9) hx hb hts ck_Kernel.good ty_Kernel tok_Kernel ck_Kernel.2.2 hown hKN.1 hP hD hS 0 rfl rfl 2 (by decide) (hts _ (gd (List.mem_of_getElem? (i := 248) (by decide +kernel)) rfl)) (fun _ h9 => h9) rfl hin rfl (by decide +kernel) rfl rfl (Nat.le_of_ble_eq_true rfl) (dc kd_Kernel_init 15 rfl) (fun H locs hP hD hS => ?_)
  have hP : va_P D vwCl [(h0, .inr (3, [.ref q0, .ref q1, .ref q2, .null, .null, .null, .int 0, .int 0, .int 0])), (q0, .inr (1, [.ref (uq0 1), .int 0, .int 6])), ((uq0 1), .inl (cy 0, 17, .inl (fun _ => 0))), (q1, .inr (1, [.ref (uq1 1), .int 0, .int 6])), ((uq1 1), .inl (cy 0, 17, .inl (fun _ => 0))), (q2, .inl (cy 0, 16, .inl (fun _ => 0)))] H := hP
  have hD : va_D A [(h0, .inr (3, [.ref q0, .ref q1, .ref q2, .null, .null, .null, .int 0, .int 0, .int 0])), (q0, .inr (1, [.ref (uq0 1), .int 0, .int 6])), ((uq0 1), .inl (cy 0, 17, .inl (fun _ => 0))), (q1, .inr (1, [.ref (uq1 1), .int 0, .int 6])), ((uq1 1), .inl (cy 0, 17, .inl (fun _ => 0))), (q2, .inl (cy 0, 16, .inl (fun _ => 0)))] := hD
  refine lv_aload_n hx hb (dc kd_Kernel_init 16 rfl) rfl (lv_at hl 0 rfl) ?_
  refine lv_bipush (v := 16) hx hb (dc kd_Kernel_init 17 rfl) (by decide) ?_
  refine nw_arr (atype := .int) (t := 0) (N := 16) hx hb (hts _ (gd (List.mem_of_getElem? (i := 124) (by decide +kernel)) rfl)) rfl rfl (fun _ => rfl) hKN.1 hP hD hS hA (by decide) (by decide +kernel) (Nat.le_of_ble_eq_true rfl) (Nat.le_of_ble_eq_true rfl) (Nat.le_of_ble_eq_true rfl) (dc kd_Kernel_init 18 rfl) (fun q3 H hP hD hS => ?_)
  have hP : va_P D vwCl [(h0, .inr (3, [.ref q0, .ref q1, .ref q2, .null, .null, .null, .int 0, .int 0, .int 0])), (q0, .inr (1, [.ref (uq0 1), .int 0, .int 6])), ((uq0 1), .inl (cy 0, 17, .inl (fun _ => 0))), (q1, .inr (1, [.ref (uq1 1), .int 0, .int 6])), ((uq1 1), .inl (cy 0, 17, .inl (fun _ => 0))), (q2, .inl (cy 0, 16, .inl (fun _ => 0))), (q3, .inl (cy 0, 16, .inl (fun _ => 0)))] H := hP
  have hD : va_D A [(h0, .inr (3, [.ref q0, .ref q1, .ref q2, .null, .null, .null, .int 0, .int 0, .int 0])), (q0, .inr (1, [.ref (uq0 1), .int 0, .int 6])), ((uq0 1), .inl (cy 0, 17, .inl (fun _ => 0))), (q1, .inr (1, [.ref (uq1 1), .int 0, .int 6])), ((uq1 1), .inl (cy 0, 17, .inl (fun _ => 0))), (q2, .inl (cy 0, 16, .inl (fun _ => 0))), (q3, .inl (cy 0, 16, .inl (fun _ => 0)))] := hD
  refine W.widen (k := 6) (n := 72) (Nat.le_of_ble_eq_true rfl) (Nat.le_of_ble_eq_true rfl) ?_
  refine va_putF (D := D) (ci := 3) (v := .ref q3) (ty := .array .int) (own := R_Kernel) (C := R_Kernel) (T := T_Kernel) (N := 9) hx hb hts ck_Kernel.good ty_Kernel tok_Kernel ck_Kernel.2.2 hown hKN.1 hP hD hS 0 rfl rfl 3 (by decide) (hts _ (gd (List.mem_of_getElem? (i := 250) (by decide +kernel)) rfl)) (fun _ h9 => h9) rfl hin rfl (by decide +kernel) rfl rfl (Nat.le_of_ble_eq_true rfl) (dc kd_Kernel_init 19 rfl) (fun H locs hP hD hS => ?_)
  have hP : va_P D vwCl [(h0, .inr (3, [.ref q0, .ref q1, .ref q2, .ref q3, .null, .null, .int 0, .int 0, .int 0])), (q0, .inr (1, [.ref (uq0 1), .int 0, .int 6])), ((uq0 1), .inl (cy 0, 17, .inl (fun _ => 0))), (q1, .inr (1, [.ref (uq1 1), .int 0, .int 6])), ((uq1 1), .inl (cy 0, 17, .inl (fun _ => 0))), (q2, .inl (cy 0, 16, .inl (fun _ => 0))), (q3, .inl (cy 0, 16, .inl (fun _ => 0)))] H := hP
  have hD : va_D A [(h0, .inr (3, [.ref q0, .ref q1, .ref q2, .ref q3, .null, .null, .int 0, .int 0, .int 0])), (q0, .inr (1, [.ref (uq0 1), .int 0, .int 6])), ((uq0 1), .inl (cy 0, 17, .inl (fun _ => 0))), (q1, .inr (1, [.ref (uq1 1), .int 0, .int 6])), ((uq1 1), .inl (cy 0, 17, .inl (fun _ => 0))), (q2, .inl (cy 0, 16, .inl (fun _ => 0))), (q3, .inl (cy 0, 16, .inl (fun _ => 0)))] := hD
  refine lv_aload_n hx hb (dc kd_Kernel_init 20 rfl) rfl (lv_at hl 0 rfl) ?_
  refine lv_bipush (v := 16) hx hb (dc kd_Kernel_init 21 rfl) (by decide) ?_
  refine nw_arr (atype := .int) (t := 0) (N := 16) hx hb (hts _ (gd (List.mem_of_getElem? (i := 124) (by decide +kernel)) rfl)) rfl rfl (fun _ => rfl) hKN.1 hP hD hS hA (by decide) (by decide +kernel) (Nat.le_of_ble_eq_true rfl) (Nat.le_of_ble_eq_true rfl) (Nat.le_of_ble_eq_true rfl) (dc kd_Kernel_init 22 rfl) (fun q4 H hP hD hS => ?_)
  have hP : va_P D vwCl [(h0, .inr (3, [.ref q0, .ref q1, .ref q2, .ref q3, .null, .null, .int 0, .int 0, .int 0])), (q0, .inr (1, [.ref (uq0 1), .int 0, .int 6])), ((uq0 1), .inl (cy 0, 17, .inl (fun _ => 0))), (q1, .inr (1, [.ref (uq1 1), .int 0, .int 6])), ((uq1 1), .inl (cy 0, 17, .inl (fun _ => 0))), (q2, .inl (cy 0, 16, .inl (fun _ => 0))), (q3, .inl (cy 0, 16, .inl (fun _ => 0))), (q4, .inl (cy 0, 16, .inl (fun _ => 0)))] H := hP
  have hD : va_D A [(h0, .inr (3, [.ref q0, .ref q1, .ref q2, .ref q3, .null, .null, .int 0, .int 0, .int 0])), (q0, .inr (1, [.ref (uq0 1), .int 0, .int 6])), ((uq0 1), .inl (cy 0, 17, .inl (fun _ => 0))), (q1, .inr (1, [.ref (uq1 1), .int 0, .int 6])), ((uq1 1), .inl (cy 0, 17, .inl (fun _ => 0))), (q2, .inl (cy 0, 16, .inl (fun _ => 0))), (q3, .inl (cy 0, 16, .inl (fun _ => 0))), (q4, .inl (cy 0, 16, .inl (fun _ => 0)))] := hD
  refine W.widen (k := 7) (n := 88) (Nat.le_of_ble_eq_true rfl) (Nat.le_of_ble_eq_true rfl) ?_
  refine va_putF (D := D) (ci := 3) (v := .ref q4) (ty := .array .int) (own := R_Kernel) (C := R_Kernel) (T := T_Kernel) (N := 9) hx hb hts ck_Kernel.good ty_Kernel tok_Kernel ck_Kernel.2.2 hown hKN.1 hP hD hS 0 rfl rfl 4 (by decide) (hts _ (gd (List.mem_of_getElem? (i := 252) (by decide +kernel)) rfl)) (fun _ h9 => h9) rfl hin rfl (by decide +kernel) rfl rfl (Nat.le_of_ble_eq_true rfl) (dc kd_Kernel_init 23 rfl) (fun H locs hP hD hS => ?_)
  have hP : va_P D vwCl [(h0, .inr (3, [.ref q0, .ref q1, .ref q2, .ref q3, .ref q4, .null, .int 0, .int 0, .int 0])), (q0, .inr (1, [.ref (uq0 1), .int 0, .int 6])), ((uq0 1), .inl (cy 0, 17, .inl (fun _ => 0))), (q1, .inr (1, [.ref (uq1 1), .int 0, .int 6])), ((uq1 1), .inl (cy 0, 17, .inl (fun _ => 0))), (q2, .inl (cy 0, 16, .inl (fun _ => 0))), (q3, .inl (cy 0, 16, .inl (fun _ => 0))), (q4, .inl (cy 0, 16, .inl (fun _ => 0)))] H := hP
  have hD : va_D A [(h0, .inr (3, [.ref q0, .ref q1, .ref q2, .ref q3, .ref q4, .null, .int 0, .int 0, .int 0])), (q0, .inr (1, [.ref (uq0 1), .int 0, .int 6])), ((uq0 1), .inl (cy 0, 17, .inl (fun _ => 0))), (q1, .inr (1, [.ref (uq1 1), .int 0, .int 6])), ((uq1 1), .inl (cy 0, 17, .inl (fun _ => 0))), (q2, .inl (cy 0, 16, .inl (fun _ => 0))), (q3, .inl (cy 0, 16, .inl (fun _ => 0))), (q4, .inl (cy 0, 16, .inl (fun _ => 0)))] := hD
  refine lv_aload_n hx hb (dc kd_Kernel_init 24 rfl) rfl (lv_at hl 0 rfl) ?_
  refine lv_bipush (v := 16) hx hb (dc kd_Kernel_init 25 rfl) (by decide) ?_
  refine nw_arr (atype := .int) (t := 0) (N := 16) hx hb (hts _ (gd (List.mem_of_getElem? (i := 124) (by decide +kernel)) rfl)) rfl rfl (fun _ => rfl) hKN.1 hP hD hS hA (by decide) (by decide +kernel) (Nat.le_of_ble_eq_true rfl) (Nat.le_of_ble_eq_true rfl) (Nat.le_of_ble_eq_true rfl) (dc kd_Kernel_init 26 rfl) (fun q5 H hP hD hS => ?_)
  have hP : va_P D vwCl [(h0, .inr (3, [.ref q0, .ref q1, .ref q2, .ref q3, .ref q4, .null, .int 0, .int 0, .int 0])), (q0, .inr (1, [.ref (uq0 1), .int 0, .int 6])), ((uq0 1), .inl (cy 0, 17, .inl (fun _ => 0))), (q1, .inr (1, [.ref (uq1 1), .int 0, .int 6])), ((uq1 1), .inl (cy 0, 17, .inl (fun _ => 0))), (q2, .inl (cy 0, 16, .inl (fun _ => 0))), (q3, .inl (cy 0, 16, .inl (fun _ => 0))), (q4, .inl (cy 0, 16, .inl (fun _ => 0))), (q5, .inl (cy 0, 16, .inl (fun _ => 0)))] H := hP
  have hD : va_D A [(h0, .inr (3, [.ref q0, .ref q1, .ref q2, .ref q3, .ref q4, .null, .int 0, .int 0, .int 0])), (q0, .inr (1, [.ref (uq0 1), .int 0, .int 6])), ((uq0 1), .inl (cy 0, 17, .inl (fun _ => 0))), (q1, .inr (1, [.ref (uq1 1), .int 0, .int 6])), ((uq1 1), .inl (cy 0, 17, .inl (fun _ => 0))), (q2, .inl (cy 0, 16, .inl (fun _ => 0))), (q3, .inl (cy 0, 16, .inl (fun _ => 0))), (q4, .inl (cy 0, 16, .inl (fun _ => 0))), (q5, .inl (cy 0, 16, .inl (fun _ => 0)))] := hD
  refine W.widen (k := 8) (n := 104) (Nat.le_of_ble_eq_true rfl) (Nat.le_of_ble_eq_true rfl) ?_
  refine va_putF (D := D) (ci := 3) (v := .ref q5) (ty := .array .int) (own := R_Kernel) (C := R_Kernel) (T := T_Kernel) (N := 9) hx hb hts ck_Kernel.good ty_Kernel tok_Kernel ck_Kernel.2.2 hown hKN.1 hP hD hS 0 rfl rfl 5 (by decide) (hts _ (gd (List.mem_of_getElem? (i := 254) (by decide +kernel)) rfl)) (fun _ h9 => h9) rfl hin rfl (by decide +kernel) rfl rfl (Nat.le_of_ble_eq_true rfl) (dc kd_Kernel_init 27 rfl) (fun H locs hP hD hS => ?_)
  have hP : va_P D vwCl [(h0, .inr (3, [.ref q0, .ref q1, .ref q2, .ref q3, .ref q4, .ref q5, .int 0, .int 0, .int 0])), (q0, .inr (1, [.ref (uq0 1), .int 0, .int 6])), ((uq0 1), .inl (cy 0, 17, .inl (fun _ => 0))), (q1, .inr (1, [.ref (uq1 1), .int 0, .int 6])), ((uq1 1), .inl (cy 0, 17, .inl (fun _ => 0))), (q2, .inl (cy 0, 16, .inl (fun _ => 0))), (q3, .inl (cy 0, 16, .inl (fun _ => 0))), (q4, .inl (cy 0, 16, .inl (fun _ => 0))), (q5, .inl (cy 0, 16, .inl (fun _ => 0)))] H := hP
  have hD : va_D A [(h0, .inr (3, [.ref q0, .ref q1, .ref q2, .ref q3, .ref q4, .ref q5, .int 0, .int 0, .int 0])), (q0, .inr (1, [.ref (uq0 1), .int 0, .int 6])), ((uq0 1), .inl (cy 0, 17, .inl (fun _ => 0))), (q1, .inr (1, [.ref (uq1 1), .int 0, .int 6])), ((uq1 1), .inl (cy 0, 17, .inl (fun _ => 0))), (q2, .inl (cy 0, 16, .inl (fun _ => 0))), (q3, .inl (cy 0, 16, .inl (fun _ => 0))), (q4, .inl (cy 0, 16, .inl (fun _ => 0))), (q5, .inl (cy 0, 16, .inl (fun _ => 0)))] := hD
  refine lv_aload_n hx hb (dc kd_Kernel_init 28 rfl) rfl (lv_at hl 0 rfl) ?_
  refine lv_iconst (v := 0) hx hb (dc kd_Kernel_init 29 rfl) (by decide) ?_
  refine va_put (D := D) (ci := 3) (v := .int 0) (ty := .int) (own := R_Kernel) (C := R_Kernel) (T := T_Kernel) (N := 9) hx hb hts ck_Kernel.good ty_Kernel tok_Kernel ck_Kernel.2.2 hown hKN.1 hP hD hS 0 rfl rfl 6 (by decide) (hts _ (gd (List.mem_of_getElem? (i := 256) (by decide +kernel)) rfl)) (fun _ h9 => h9) rfl (by decide +kernel) rfl rfl (Nat.le_of_ble_eq_true rfl) (dc kd_Kernel_init 30 rfl) (fun H locs hP hD hS => ?_)
  have hP : va_P D vwCl [(h0, .inr (3, [.ref q0, .ref q1, .ref q2, .ref q3, .ref q4, .ref q5, .int 0, .int 0, .int 0])), (q0, .inr (1, [.ref (uq0 1), .int 0, .int 6])), ((uq0 1), .inl (cy 0, 17, .inl (fun _ => 0))), (q1, .inr (1, [.ref (uq1 1), .int 0, .int 6])), ((uq1 1), .inl (cy 0, 17, .inl (fun _ => 0))), (q2, .inl (cy 0, 16, .inl (fun _ => 0))), (q3, .inl (cy 0, 16, .inl (fun _ => 0))), (q4, .inl (cy 0, 16, .inl (fun _ => 0))), (q5, .inl (cy 0, 16, .inl (fun _ => 0)))] H := hP
  have hD : va_D A [(h0, .inr (3, [.ref q0, .ref q1, .ref q2, .ref q3, .ref q4, .ref q5, .int 0, .int 0, .int 0])), (q0, .inr (1, [.ref (uq0 1), .int 0, .int 6])), ((uq0 1), .inl (cy 0, 17, .inl (fun _ => 0))), (q1, .inr (1, [.ref (uq1 1), .int 0, .int 6])), ((uq1 1), .inl (cy 0, 17, .inl (fun _ => 0))), (q2, .inl (cy 0, 16, .inl (fun _ => 0))), (q3, .inl (cy 0, 16, .inl (fun _ => 0))), (q4, .inl (cy 0, 16, .inl (fun _ => 0))), (q5, .inl (cy 0, 16, .inl (fun _ => 0)))] := hD
  refine lv_aload_n hx hb (dc kd_Kernel_init 31 rfl) rfl (lv_at hl 0 rfl) ?_
  refine lv_iconst (v := 0) hx hb (dc kd_Kernel_init 32 rfl) (by decide) ?_
  refine va_put (D := D) (ci := 3) (v := .int 0) (ty := .int) (own := R_Kernel) (C := R_Kernel) (T := T_Kernel) (N := 9) hx hb hts ck_Kernel.good ty_Kernel tok_Kernel ck_Kernel.2.2 hown hKN.1 hP hD hS 0 rfl rfl 7 (by decide) (hts _ (gd (List.mem_of_getElem? (i := 257) (by decide +kernel)) rfl)) (fun _ h9 => h9) rfl (by decide +kernel) rfl rfl (Nat.le_of_ble_eq_true rfl) (dc kd_Kernel_init 33 rfl) (fun H locs hP hD hS => ?_)
  have hP : va_P D vwCl [(h0, .inr (3, [.ref q0, .ref q1, .ref q2, .ref q3, .ref q4, .ref q5, .int 0, .int 0, .int 0])), (q0, .inr (1, [.ref (uq0 1), .int 0, .int 6])), ((uq0 1), .inl (cy 0, 17, .inl (fun _ => 0))), (q1, .inr (1, [.ref (uq1 1), .int 0, .int 6])), ((uq1 1), .inl (cy 0, 17, .inl (fun _ => 0))), (q2, .inl (cy 0, 16, .inl (fun _ => 0))), (q3, .inl (cy 0, 16, .inl (fun _ => 0))), (q4, .inl (cy 0, 16, .inl (fun _ => 0))), (q5, .inl (cy 0, 16, .inl (fun _ => 0)))] H := hP
  have hD : va_D A [(h0, .inr (3, [.ref q0, .ref q1, .ref q2, .ref q3, .ref q4, .ref q5, .int 0, .int 0, .int 0])), (q0, .inr (1, [.ref (uq0 1), .int 0, .int 6])), ((uq0 1), .inl (cy 0, 17, .inl (fun _ => 0))), (q1, .inr (1, [.ref (uq1 1), .int 0, .int 6])), ((uq1 1), .inl (cy 0, 17, .inl (fun _ => 0))), (q2, .inl (cy 0, 16, .inl (fun _ => 0))), (q3, .inl (cy 0, 16, .inl (fun _ => 0))), (q4, .inl (cy 0, 16, .inl (fun _ => 0))), (q5, .inl (cy 0, 16, .inl (fun _ => 0)))] := hD
  refine lv_aload_n hx hb (dc kd_Kernel_init 34 rfl) rfl (lv_at hl 0 rfl) ?_
  refine lv_iconst (v := 0) hx hb (dc kd_Kernel_init 35 rfl) (by decide) ?_
  refine va_put (D := D) (ci := 3) (v := .int 0) (ty := .boolean) (own := R_Kernel) (C := R_Kernel) (T := T_Kernel) (N := 9) hx hb hts ck_Kernel.good ty_Kernel tok_Kernel ck_Kernel.2.2 hown hKN.1 hP hD hS 0 rfl rfl 8 (by decide) (hts _ (gd (List.mem_of_getElem? (i := 259) (by decide +kernel)) rfl)) (fun _ h9 => h9) rfl (by decide +kernel) rfl rfl (Nat.le_of_ble_eq_true rfl) (dc kd_Kernel_init 36 rfl) (fun H locs hP hD hS => ?_)
  have hP : va_P D vwCl [(h0, .inr (3, [.ref q0, .ref q1, .ref q2, .ref q3, .ref q4, .ref q5, .int 0, .int 0, .int 0])), (q0, .inr (1, [.ref (uq0 1), .int 0, .int 6])), ((uq0 1), .inl (cy 0, 17, .inl (fun _ => 0))), (q1, .inr (1, [.ref (uq1 1), .int 0, .int 6])), ((uq1 1), .inl (cy 0, 17, .inl (fun _ => 0))), (q2, .inl (cy 0, 16, .inl (fun _ => 0))), (q3, .inl (cy 0, 16, .inl (fun _ => 0))), (q4, .inl (cy 0, 16, .inl (fun _ => 0))), (q5, .inl (cy 0, 16, .inl (fun _ => 0)))] H := hP
  have hD : va_D A [(h0, .inr (3, [.ref q0, .ref q1, .ref q2, .ref q3, .ref q4, .ref q5, .int 0, .int 0, .int 0])), (q0, .inr (1, [.ref (uq0 1), .int 0, .int 6])), ((uq0 1), .inl (cy 0, 17, .inl (fun _ => 0))), (q1, .inr (1, [.ref (uq1 1), .int 0, .int 6])), ((uq1 1), .inl (cy 0, 17, .inl (fun _ => 0))), (q2, .inl (cy 0, 16, .inl (fun _ => 0))), (q3, .inl (cy 0, 16, .inl (fun _ => 0))), (q4, .inl (cy 0, 16, .inl (fun _ => 0))), (q5, .inl (cy 0, 16, .inl (fun _ => 0)))] := hD
  refine W.widen (k := 8) (n := 104) (Nat.le_of_ble_eq_true rfl) (Nat.le_of_ble_eq_true rfl) ?_
  exact W.vret hx hb hr (fun t ht hW => ⟨⟨fun k => ([h0, q0, (uq0 1), q1, (uq1 1), q2, q3, q4, q5] : List Nat).getD k 0, rfl, rfl, by rw [ht]; exact hP, hD⟩, hS.F ht⟩) hS.2.2 (dc kd_Kernel_init 37 rfl)
def k_Page_init : List (Nat × Instr × Nat) := [(0, .aload_n 0, 1), (1, .invokespecial 3, 3), (4, .aload_n 0, 1), (5, .sipush 512, 3), (8, .newarray .byte, 2), (10, .putfield 9, 3), (13, .aload_n 0, 1), (14, .iconst 0, 1), (15, .putfield 15, 3), (18, .return_, 1)]
set_option maxRecDepth 100000 in
theorem kd_Page_init : ∀ q ∈ k_Page_init, decode prog_6_method_1_code q.1 = .ok q.2 := by decide +kernel
theorem tok_Page : ∀ k, k < 2 → parseFieldDescriptor (T_Page k).2.2.1 = some (ty_Page k) := by decide +kernel
def sh_Page : List Sh := [.inr (4, [some 1, none]), .inl (1, 512)]
def mem_Page : Mem := fun c j => 0
set_option maxHeartbeats 4000000 in
set_option maxRecDepth 100000 in
theorem c_Page (l : Launch) (D : va_G) (cy : Nat → ClassId) (h0 sz : Nat) : Met l m_Page_init.1 (.code m_Page_init.1 m_Page_init.2.1 m_Page_init.2.2.1 m_Page_init.2.2.2 :: lw_gd) ({ frames := 1, cells := 1, slots := 512, locals := 40 }) (va_Pc [.ref h0] (fun U => U.heap.size = sz ∧ va_P D vwCl [(h0, .inr (4, [.null, .int 0]))] U.heap ∧ KN D cy U ∧ va_D (fun _ => True) [(h0, .inr (4, [.null, .int 0]))])) (va_Qv (fun u : Nat → Nat => u 0 = h0) (fun u t => va_P D vwCl (lay cy u mem_Page sh_Page) t.heap ∧ va_D (va_A [(h0, .inr (4, [.null, .int 0]))] sz) (lay cy u mem_Page sh_Page)) (va_A [(h0, .inr (4, [.null, .int 0]))] sz)) 1 512 (va_A [(h0, .inr (4, [.null, .int 0]))] sz) := by
  refine Met.ofW (cc := m_Page_init.2.1) (maxL := m_Page_init.2.2.1) (ret := m_Page_init.2.2.2) ok_Page_init.1 rfl ?_
  intro p e s m args below meth c s₁ B hml hv
  obtain ⟨rfl, hsz, hP, hKN, hD0⟩ := hv
  have hx := B.exec
  have hb := B.bytes
  have hr := B.returns
  have hts0 := atoms_spec (ws := .code m_Page_init.1 m_Page_init.2.1 m_Page_init.2.2.1 m_Page_init.2.2.2 :: lw_gd) B.pre
  have hts : ∀ w ∈ lw_gd, w.before _ s = true := fun w hw => hts0 w (List.mem_cons_of_mem _ hw)
  have hown : s.vm.findClass R_Page = some m.cls := findClass_of_methodNamed B.named
  have hlocks := B.notSynchronized
  have hin : meth.name = "<init>" := (name_of_methodNamed B.named B.method).1
  subst hsz
  have hD := hD0.self (sz := s.heap.size)
  generalize hAe : va_A [(h0, .inr (4, [.null, .int 0]))] s.heap.size = A at hD ⊢
  have hA : ∀ q : Nat, s.heap.size ≤ q → A q := fun q h => by rw [← hAe]; exact Or.inr h
  have hS : va_S A s.heap s.heap [] := va_S.rf
  have hl := lv_entry ([.ref h0]) (n := 1) (Nat.le_of_ble_eq_true rfl)
  rw [lg_entry_eq]
  generalize (lg_sl ([.ref h0]) ++ List.replicate (1 - (lg_sl ([.ref h0])).length) Slot.unset).toArray = ls at hl ⊢
  have hl : lv_has ls 1 [(0, .ref h0)] := hl
  refine lv_aload_n hx hb (dc kd_Page_init 0 rfl) rfl (lv_at hl 0 rfl) ?_
  refine W.objInit (own := R_Page) hx hb hown (hts _ (gd (List.mem_of_getElem? (i := 285) (by decide +kernel)) rfl)) (hts _ (gd (List.mem_of_getElem? (i := 96) (by decide +kernel)) rfl)) (hts _ (gd (List.mem_of_getElem? (i := 97) (by decide +kernel)) rfl)) rfl (by rw [hml]; exact hl.1) rfl (dc kd_Page_init 1 rfl) (Nat.le_of_ble_eq_true rfl) (Nat.le_of_ble_eq_true rfl) ?_
  refine W.eq (g2 := F0 m 4 ls []) rfl ?_
  refine lv_aload_n hx hb (dc kd_Page_init 2 rfl) rfl (lv_at hl 0 rfl) ?_
  refine lv_sipush (v := 512) hx hb (dc kd_Page_init 3 rfl) (by decide) ?_
  refine nw_arr (atype := .byte) (t := 1) (N := 512) hx hb (hts _ (gd (List.mem_of_getElem? (i := 160) (by decide +kernel)) rfl)) rfl rfl (fun _ => rfl) hKN.1 hP hD hS hA (by decide) (by decide +kernel) (Nat.le_of_ble_eq_true rfl) (Nat.le_of_ble_eq_true rfl) (Nat.le_of_ble_eq_true rfl) (dc kd_Page_init 4 rfl) (fun q0 H hP hD hS => ?_)
  have hP : va_P D vwCl [(h0, .inr (4, [.null, .int 0])), (q0, .inl (cy 1, 512, .inl (fun _ => 0)))] H := hP
  have hD : va_D A [(h0, .inr (4, [.null, .int 0])), (q0, .inl (cy 1, 512, .inl (fun _ => 0)))] := hD
  refine W.widen (k := 1) (n := 512) (Nat.le_of_ble_eq_true rfl) (Nat.le_of_ble_eq_true rfl) ?_
  refine va_putF (D := D) (ci := 4) (v := .ref q0) (ty := .array .byte) (own := R_Page) (C := R_Page) (T := T_Page) (N := 2) hx hb hts ck_Page.good ty_Page tok_Page ck_Page.2.2 hown hKN.1 hP hD hS 0 rfl rfl 0 (by decide) (hts _ (gd (List.mem_of_getElem? (i := 286) (by decide +kernel)) rfl)) (fun _ h9 => h9) rfl hin rfl (by decide +kernel) rfl rfl (Nat.le_of_ble_eq_true rfl) (dc kd_Page_init 5 rfl) (fun H locs hP hD hS => ?_)
  have hP : va_P D vwCl [(h0, .inr (4, [.ref q0, .int 0])), (q0, .inl (cy 1, 512, .inl (fun _ => 0)))] H := hP
  have hD : va_D A [(h0, .inr (4, [.ref q0, .int 0])), (q0, .inl (cy 1, 512, .inl (fun _ => 0)))] := hD
  refine lv_aload_n hx hb (dc kd_Page_init 6 rfl) rfl (lv_at hl 0 rfl) ?_
  refine lv_iconst (v := 0) hx hb (dc kd_Page_init 7 rfl) (by decide) ?_
  refine va_put (D := D) (ci := 4) (v := .int 0) (ty := .int) (own := R_Page) (C := R_Page) (T := T_Page) (N := 2) hx hb hts ck_Page.good ty_Page tok_Page ck_Page.2.2 hown hKN.1 hP hD hS 0 rfl rfl 1 (by decide) (hts _ (gd (List.mem_of_getElem? (i := 287) (by decide +kernel)) rfl)) (fun _ h9 => h9) rfl (by decide +kernel) rfl rfl (Nat.le_of_ble_eq_true rfl) (dc kd_Page_init 8 rfl) (fun H locs hP hD hS => ?_)
  have hP : va_P D vwCl [(h0, .inr (4, [.ref q0, .int 0])), (q0, .inl (cy 1, 512, .inl (fun _ => 0)))] H := hP
  have hD : va_D A [(h0, .inr (4, [.ref q0, .int 0])), (q0, .inl (cy 1, 512, .inl (fun _ => 0)))] := hD
  refine W.widen (k := 1) (n := 512) (Nat.le_of_ble_eq_true rfl) (Nat.le_of_ble_eq_true rfl) ?_
  exact W.vret hx hb hr (fun t ht hW => ⟨⟨fun k => ([h0, q0] : List Nat).getD k 0, rfl, rfl, by rw [ht]; exact hP, hD⟩, hS.F ht⟩) hS.2.2 (dc kd_Page_init 9 rfl)
