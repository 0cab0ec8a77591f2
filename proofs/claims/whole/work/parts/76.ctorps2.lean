/-! the class is made -/
def layR (cy : Nat → ClassId) (ad : Nat → Nat) (mem : Mem) : Nat → List Sh → va_W
  | _, [] => []
  | k, s :: r => (ad k, cellE cy ad (mem k) s) :: layR cy ad mem (k + 1) r
theorem layR_get (cy : Nat → ClassId) (ad : Nat → Nat) (mem : Mem) : ∀ (sh : List Sh) (k i : Nat), (layR cy ad mem k sh)[i]? = sh[i]?.map (fun s => (ad (k + i), cellE cy ad (mem (k + i)) s))
  | [], k, i => by simp [layR]
  | s :: r, k, 0 => by simp [layR]
  | s :: r, k, i + 1 => by
    simp only [layR, List.getElem?_cons_succ]
    rw [layR_get cy ad mem r (k + 1) i, show k + 1 + i = k + (i + 1) by omega]
theorem lay_eq (cy : Nat → ClassId) (ad : Nat → Nat) (mem : Mem) (sh : List Sh) : lay cy ad mem sh = layR cy ad mem 0 sh := by
  apply List.ext_getElem?
  intro i
  rw [layR_get, lay, List.getElem?_mapIdx]
  simp only [Nat.zero_add]
theorem lay_Family (cy : Nat → ClassId) (u : Nat → Nat) : lay cy u mem_Family sh_Family = [(u 0, .inr (1, [.ref (u 1), .int 0, .int 6])), (u 1, .inl (cy 0, 17, .inl (fun _ => 0)))] := by rw [lay_eq]; rfl
theorem lay_History (cy : Nat → ClassId) (u : Nat → Nat) : lay cy u mem_History sh_History = [(u 0, .inr (2, [.ref (u 1), .ref (u 2), .int 0, .int 0])), (u 1, .inl (cy 0, 12, .inl (fun _ => 0))), (u 2, .inl (cy 0, 192, .inl (fun _ => 0)))] := by rw [lay_eq]; rfl
theorem lay_Tape (cy : Nat → ClassId) (u : Nat → Nat) : lay cy u mem_Tape sh_Tape = [(u 0, .inr (6, [.ref (u 1), .int 0])), (u 1, .inl (cy 1, 400, .inl (fun _ => 0)))] := by rw [lay_eq]; rfl
theorem lay_Reader (cy : Nat → ClassId) (u : Nat → Nat) : lay cy u mem_Reader sh_Reader = [(u 0, .inr (5, [.int 0]))] := by rw [lay_eq]; rfl
theorem lay_Touch (cy : Nat → ClassId) (u : Nat → Nat) : lay cy u mem_Touch sh_Touch = [(u 0, .inr (8, [.ref (u 1), .ref (u 2), .int 0, .int 0, .int 0, .int 0, .int 0, .int 0])), (u 1, .inl (cy 0, 10, .inl (fun _ => 0))), (u 2, .inl (cy 0, 1024, .inl (fun _ => 0)))] := by rw [lay_eq]; rfl
theorem lay_Cover (cy : Nat → ClassId) (u : Nat → Nat) : lay cy u mem_Cover sh_Cover = [(u 0, .inr (0, [.int 0, .int (-2)]))] := by rw [lay_eq]; rfl
theorem lay_Thinner (cy : Nat → ClassId) (u : Nat → Nat) : lay cy u mem_Thinner sh_Thinner = [(u 0, .inr (7, [.ref (u 1), .ref (u 2), .int 0])), (u 1, .inl (cy 0, 17, .inl (fun _ => 0))), (u 2, .inl (cy 0, 256, .inl (fun _ => 0)))] := by rw [lay_eq]; rfl
theorem lay_Kernel (cy : Nat → ClassId) (u : Nat → Nat) : lay cy u mem_Kernel sh_Kernel = [(u 0, .inr (3, [.ref (u 1), .ref (u 3), .ref (u 5), .ref (u 6), .ref (u 7), .ref (u 8), .int 0, .int 0, .int 0])), (u 1, .inr (1, [.ref (u 2), .int 0, .int 6])), (u 2, .inl (cy 0, 17, .inl (fun _ => 0))), (u 3, .inr (1, [.ref (u 4), .int 0, .int 6])), (u 4, .inl (cy 0, 17, .inl (fun _ => 0))), (u 5, .inl (cy 0, 16, .inl (fun _ => 0))), (u 6, .inl (cy 0, 16, .inl (fun _ => 0))), (u 7, .inl (cy 0, 16, .inl (fun _ => 0))), (u 8, .inl (cy 0, 16, .inl (fun _ => 0)))] := by rw [lay_eq]; rfl
theorem lay_Page (cy : Nat → ClassId) (u : Nat → Nat) : lay cy u mem_Page sh_Page = [(u 0, .inr (4, [.ref (u 1), .int 0])), (u 1, .inl (cy 1, 512, .inl (fun _ => 0)))] := by rw [lay_eq]; rfl
def uPS (h0 : Nat) (u0 u1 u2 u3 u4 u5 u6 u7 u8 u9 : Nat → Nat) : Nat → Nat := fun k => ([h0, u0 0, u0 1, u1 0, u1 1, u2 0, u2 1, u2 2, u3 0, u3 1, u4 0, u5 0, u5 1, u5 2, u6 0, u7 0, u7 1, u7 2, u8 0, u8 1, u8 2, u8 3, u8 4, u8 5, u8 6, u8 7, u8 8, u9 0, u9 1] : List Nat).getD k 0
set_option maxHeartbeats 4000000 in
set_option maxRecDepth 100000 in
theorem lay_PS (cy : Nat → ClassId) (h0 : Nat) (u0 u1 u2 u3 u4 u5 u6 u7 u8 u9 : Nat → Nat) : lay cy (uPS h0 u0 u1 u2 u3 u4 u5 u6 u7 u8 u9) mem_PS sh_PS = [(h0, .inr (9, [.ref (u0 0), .ref (u1 0), .ref (u2 0), .ref (u3 0), .ref (u4 0), .ref (u5 0), .ref (u6 0), .ref (u7 0), .ref (u8 0), .ref (u9 0)])), (u0 0, .inr (1, [.ref (u0 1), .int 0, .int 6])), (u0 1, .inl (cy 0, 17, .inl (fun _ => 0))), (u1 0, .inr (1, [.ref (u1 1), .int 0, .int 6])), (u1 1, .inl (cy 0, 17, .inl (fun _ => 0))), (u2 0, .inr (2, [.ref (u2 1), .ref (u2 2), .int 0, .int 0])), (u2 1, .inl (cy 0, 12, .inl (fun _ => 0))), (u2 2, .inl (cy 0, 192, .inl (fun _ => 0))), (u3 0, .inr (6, [.ref (u3 1), .int 0])), (u3 1, .inl (cy 1, 400, .inl (fun _ => 0))), (u4 0, .inr (5, [.int 0])), (u5 0, .inr (8, [.ref (u5 1), .ref (u5 2), .int 0, .int 0, .int 0, .int 0, .int 0, .int 0])), (u5 1, .inl (cy 0, 10, .inl (fun _ => 0))), (u5 2, .inl (cy 0, 1024, .inl (fun _ => 0))), (u6 0, .inr (0, [.int 0, .int (-2)])), (u7 0, .inr (7, [.ref (u7 1), .ref (u7 2), .int 0])), (u7 1, .inl (cy 0, 17, .inl (fun _ => 0))), (u7 2, .inl (cy 0, 256, .inl (fun _ => 0))), (u8 0, .inr (3, [.ref (u8 1), .ref (u8 3), .ref (u8 5), .ref (u8 6), .ref (u8 7), .ref (u8 8), .int 0, .int 0, .int 0])), (u8 1, .inr (1, [.ref (u8 2), .int 0, .int 6])), (u8 2, .inl (cy 0, 17, .inl (fun _ => 0))), (u8 3, .inr (1, [.ref (u8 4), .int 0, .int 6])), (u8 4, .inl (cy 0, 17, .inl (fun _ => 0))), (u8 5, .inl (cy 0, 16, .inl (fun _ => 0))), (u8 6, .inl (cy 0, 16, .inl (fun _ => 0))), (u8 7, .inl (cy 0, 16, .inl (fun _ => 0))), (u8 8, .inl (cy 0, 16, .inl (fun _ => 0))), (u9 0, .inr (4, [.ref (u9 1), .int 0])), (u9 1, .inl (cy 1, 512, .inl (fun _ => 0)))] := by rw [lay_eq]; rfl
set_option maxHeartbeats 4000000 in
set_option maxRecDepth 100000 in
theorem app_PS (cy : Nat → ClassId) (h0 : Nat) (u0 u1 u2 u3 u4 u5 u6 u7 u8 u9 : Nat → Nat) : ((h0, .inr (9, [.ref (u0 0), .ref (u1 0), .ref (u2 0), .ref (u3 0), .ref (u4 0), .ref (u5 0), .ref (u6 0), .ref (u7 0), .ref (u8 0), .ref (u9 0)])) :: (((((((((([] ++ lay cy u0 mem_Family sh_Family) ++ lay cy u1 mem_Family sh_Family) ++ lay cy u2 mem_History sh_History) ++ lay cy u3 mem_Tape sh_Tape) ++ lay cy u4 mem_Reader sh_Reader) ++ lay cy u5 mem_Touch sh_Touch) ++ lay cy u6 mem_Cover sh_Cover) ++ lay cy u7 mem_Thinner sh_Thinner) ++ lay cy u8 mem_Kernel sh_Kernel) ++ lay cy u9 mem_Page sh_Page) : va_W) = [(h0, .inr (9, [.ref (u0 0), .ref (u1 0), .ref (u2 0), .ref (u3 0), .ref (u4 0), .ref (u5 0), .ref (u6 0), .ref (u7 0), .ref (u8 0), .ref (u9 0)])), (u0 0, .inr (1, [.ref (u0 1), .int 0, .int 6])), (u0 1, .inl (cy 0, 17, .inl (fun _ => 0))), (u1 0, .inr (1, [.ref (u1 1), .int 0, .int 6])), (u1 1, .inl (cy 0, 17, .inl (fun _ => 0))), (u2 0, .inr (2, [.ref (u2 1), .ref (u2 2), .int 0, .int 0])), (u2 1, .inl (cy 0, 12, .inl (fun _ => 0))), (u2 2, .inl (cy 0, 192, .inl (fun _ => 0))), (u3 0, .inr (6, [.ref (u3 1), .int 0])), (u3 1, .inl (cy 1, 400, .inl (fun _ => 0))), (u4 0, .inr (5, [.int 0])), (u5 0, .inr (8, [.ref (u5 1), .ref (u5 2), .int 0, .int 0, .int 0, .int 0, .int 0, .int 0])), (u5 1, .inl (cy 0, 10, .inl (fun _ => 0))), (u5 2, .inl (cy 0, 1024, .inl (fun _ => 0))), (u6 0, .inr (0, [.int 0, .int (-2)])), (u7 0, .inr (7, [.ref (u7 1), .ref (u7 2), .int 0])), (u7 1, .inl (cy 0, 17, .inl (fun _ => 0))), (u7 2, .inl (cy 0, 256, .inl (fun _ => 0))), (u8 0, .inr (3, [.ref (u8 1), .ref (u8 3), .ref (u8 5), .ref (u8 6), .ref (u8 7), .ref (u8 8), .int 0, .int 0, .int 0])), (u8 1, .inr (1, [.ref (u8 2), .int 0, .int 6])), (u8 2, .inl (cy 0, 17, .inl (fun _ => 0))), (u8 3, .inr (1, [.ref (u8 4), .int 0, .int 6])), (u8 4, .inl (cy 0, 17, .inl (fun _ => 0))), (u8 5, .inl (cy 0, 16, .inl (fun _ => 0))), (u8 6, .inl (cy 0, 16, .inl (fun _ => 0))), (u8 7, .inl (cy 0, 16, .inl (fun _ => 0))), (u8 8, .inl (cy 0, 16, .inl (fun _ => 0))), (u9 0, .inr (4, [.ref (u9 1), .int 0])), (u9 1, .inl (cy 1, 512, .inl (fun _ => 0)))] := by
  simp only [lay_Cover, lay_Family, lay_History, lay_Kernel, lay_Page, lay_Reader, lay_Tape, lay_Thinner, lay_Touch, List.nil_append, List.cons_append, List.append_nil]
set_option maxHeartbeats 4000000 in
set_option maxRecDepth 100000 in
theorem c_PS (l : Launch) (D : va_G) (cy : Nat → ClassId) (h0 sz : Nat) : Met l m_PS_init.1 (.code m_PS_init.1 m_PS_init.2.1 m_PS_init.2.2.1 m_PS_init.2.2.2 :: lw_gd) ({ frames := 3, cells := 28, slots := 2598, locals := 200 }) (va_Pc [.ref h0] (fun U => U.heap.size = sz ∧ va_P D vwCl [(h0, .inr (9, [.null, .null, .null, .null, .null, .null, .null, .null, .null, .null]))] U.heap ∧ KN D cy U ∧ va_D (fun _ => True) [(h0, .inr (9, [.null, .null, .null, .null, .null, .null, .null, .null, .null, .null]))])) (va_Qv (fun u : Nat → Nat => u 0 = h0) (fun u t => va_P D vwCl (lay cy u mem_PS sh_PS) t.heap ∧ va_D (va_A [(h0, .inr (9, [.null, .null, .null, .null, .null, .null, .null, .null, .null, .null]))] sz) (lay cy u mem_PS sh_PS)) (va_A [(h0, .inr (9, [.null, .null, .null, .null, .null, .null, .null, .null, .null, .null]))] sz)) 28 2598 (va_A [(h0, .inr (9, [.null, .null, .null, .null, .null, .null, .null, .null, .null, .null]))] sz) := by
  refine Met.ofW (cc := m_PS_init.2.1) (maxL := m_PS_init.2.2.1) (ret := m_PS_init.2.2.2) ok_PS_init.1 rfl ?_
  intro p e s m args below meth c s₁ B hml hv
  obtain ⟨rfl, hsz, hP, hKN, hD0⟩ := hv
  have hx := B.exec
  have hb := B.bytes
  have hr := B.returns
  have hts0 := atoms_spec (ws := .code m_PS_init.1 m_PS_init.2.1 m_PS_init.2.2.1 m_PS_init.2.2.2 :: lw_gd) B.pre
  have hts : ∀ w ∈ lw_gd, w.before _ s = true := fun w hw => hts0 w (List.mem_cons_of_mem _ hw)
  have hown : s.vm.findClass R_PS = some m.cls := findClass_of_methodNamed B.named
  have hlocks := B.notSynchronized
  have hin : meth.name = "<init>" := (name_of_methodNamed B.named B.method).1
  subst hsz
  have hD := hD0.self (sz := s.heap.size)
  generalize hAe : va_A [(h0, .inr (9, [.null, .null, .null, .null, .null, .null, .null, .null, .null, .null]))] s.heap.size = A at hD ⊢
  have hA : ∀ q : Nat, s.heap.size ≤ q → A q := fun q h => by rw [← hAe]; exact Or.inr h
  have hS : va_S A s.heap s.heap [] := va_S.rf
  have hl := lv_entry ([.ref h0]) (n := 1) (Nat.le_of_ble_eq_true rfl)
  rw [lg_entry_eq]
  generalize (lg_sl ([.ref h0]) ++ List.replicate (1 - (lg_sl ([.ref h0])).length) Slot.unset).toArray = ls at hl ⊢
  have hl : lv_has ls 1 [(0, .ref h0)] := hl
  refine lv_aload_n hx hb (dc kd_PS_init 0 rfl) rfl (lv_at hl 0 rfl) ?_
  refine W.objInit (own := R_PS) hx hb hown (hts _ (gd (List.mem_of_getElem? (i := 95) (by decide +kernel)) rfl)) (hts _ (gd (List.mem_of_getElem? (i := 96) (by decide +kernel)) rfl)) (hts _ (gd (List.mem_of_getElem? (i := 97) (by decide +kernel)) rfl)) rfl (by rw [hml]; exact hl.1) rfl (dc kd_PS_init 1 rfl) (Nat.le_of_ble_eq_true rfl) (Nat.le_of_ble_eq_true rfl) ?_
  refine W.eq (g2 := F0 m 4 ls []) rfl ?_
  refine ps_0 ⟨hx, hb, hml, hown, hts, hin, hKN, hA, hl⟩ hP hD hS (fun u0 H locs hP hD hS => ?_)
  refine ps_1 ⟨hx, hb, hml, hown, hts, hin, hKN, hA, hl⟩ hP hD hS (fun u1 H locs hP hD hS => ?_)
  refine ps_2 ⟨hx, hb, hml, hown, hts, hin, hKN, hA, hl⟩ hP hD hS (fun u2 H locs hP hD hS => ?_)
  refine ps_3 ⟨hx, hb, hml, hown, hts, hin, hKN, hA, hl⟩ hP hD hS (fun u3 H locs hP hD hS => ?_)
  refine ps_4 ⟨hx, hb, hml, hown, hts, hin, hKN, hA, hl⟩ hP hD hS (fun u4 H locs hP hD hS => ?_)
  refine ps_5 ⟨hx, hb, hml, hown, hts, hin, hKN, hA, hl⟩ hP hD hS (fun u5 H locs hP hD hS => ?_)
  refine ps_6 ⟨hx, hb, hml, hown, hts, hin, hKN, hA, hl⟩ hP hD hS (fun u6 H locs hP hD hS => ?_)
  refine ps_7 ⟨hx, hb, hml, hown, hts, hin, hKN, hA, hl⟩ hP hD hS (fun u7 H locs hP hD hS => ?_)
  refine ps_8 ⟨hx, hb, hml, hown, hts, hin, hKN, hA, hl⟩ hP hD hS (fun u8 H locs hP hD hS => ?_)
  refine ps_9 ⟨hx, hb, hml, hown, hts, hin, hKN, hA, hl⟩ hP hD hS (fun u9 H locs hP hD hS => ?_)
  have hP : va_P D vwCl (lay cy (uPS h0 u0 u1 u2 u3 u4 u5 u6 u7 u8 u9) mem_PS sh_PS) H := by rw [lay_PS, ← app_PS]; exact hP
  have hD : va_D A (lay cy (uPS h0 u0 u1 u2 u3 u4 u5 u6 u7 u8 u9) mem_PS sh_PS) := by rw [lay_PS, ← app_PS]; exact hD
  exact W.vret hx hb hr (fun t ht hW => ⟨⟨uPS h0 u0 u1 u2 u3 u4 u5 u6 u7 u8 u9, rfl, rfl, by rw [ht]; exact hP, hD⟩, hS.F ht⟩) hS.2.2 (dc kd_PS_init 52 rfl)
theorem sh_PS_eq : sh_PS = shX := rfl
