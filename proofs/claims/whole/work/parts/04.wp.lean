/-! A pure machine over the kit's rows: a world of cells at fixed places, refs are places, ints by (place, slot) -/
abbrev Mem : Type := Nat → Nat → Int32
abbrev Sh : Type := (Nat × Nat) ⊕ (Nat × List (Option Nat))
abbrev Lv : Type := List (Option Value)
abbrev Pq : Type := Option Value → Mem → Prop
def rl (ad : Nat → Nat) (v : Value) : Value := match v with
  | .ref k => .ref (ad k)
  | .int x => .int x
  | .long x => .long x
  | .float x => .float x
  | .double x => .double x
  | .null => .null
  | .retAddr x => .retAddr x
theorem rl_cat (ad : Nat → Nat) (v : Value) : (rl ad v).category = v.category := by cases v <;> rfl
theorem rl_sum (ad : Nat → Nat) (st : List Value) : ((st.map (rl ad)).map fun v => v.category).sum = (st.map fun v => v.category).sum := by
  rw [List.map_map]
  congr 1
  exact List.map_congr_left (fun v _ => rl_cat ad v)
def up2 (mem : Mem) (c j : Nat) (x : Int32) : Mem := fun c' => if c' = c then upd (mem c) j x else mem c'
def fldV (ad : Nat → Nat) (m : Nat → Int32) : Nat → List (Option Nat) → List Value
  | _, [] => []
  | j, some r :: fs => .ref (ad r) :: fldV ad m (j + 1) fs
  | j, none :: fs => .int (m j) :: fldV ad m (j + 1) fs
def cellE (cy : Nat → ClassId) (ad : Nat → Nat) (m : Nat → Int32) (s : Sh) : va_E := match s with
  | .inl q => .inl (cy q.1, q.2, .inl m)
  | .inr q => .inr (q.1, fldV ad m 0 q.2)
def lay (cy : Nat → ClassId) (ad : Nat → Nat) (mem : Mem) (sh : List Sh) : va_W := sh.mapIdx (fun k s => (ad k, cellE cy ad (mem k) s))
theorem lay_get {cy : Nat → ClassId} {ad : Nat → Nat} {mem : Mem} {sh : List Sh} {k : Nat} {s : Sh} (h : sh[k]? = some s) : (lay cy ad mem sh)[k]? = some (ad k, cellE cy ad (mem k) s) := by
  simp [lay, List.getElem?_mapIdx, h]
theorem lay_set {cy : Nat → ClassId} {ad : Nat → Nat} {mem : Mem} {sh : List Sh} {k : Nat} {s : Sh} (h : sh[k]? = some s) (f : Nat → Int32) : (lay cy ad mem sh).set k (ad k, cellE cy ad f s) = lay cy ad (fun c => if c = k then f else mem c) sh := by
  apply List.ext_getElem?
  intro i
  rw [List.getElem?_set]
  have hk : k < sh.length := (List.getElem?_eq_some_iff.mp h).1
  by_cases e : k = i
  · subst e
    have e2 : sh[k] = s := (List.getElem?_eq_some_iff.mp h).2
    simp [lay, List.getElem?_mapIdx, hk, e2]
  · simp [lay, List.getElem?_mapIdx, e, Ne.symm e]
theorem fldV_get (ad : Nat → Nat) (m : Nat → Int32) : ∀ (fs : List (Option Nat)) (j i : Nat), (fldV ad m j fs)[i]? = fs[i]?.map (fun q => match q with | some r => .ref (ad r) | none => .int (m (j + i)))
  | [], j, i => by simp [fldV]
  | some r :: fs, j, 0 => by simp [fldV]
  | none :: fs, j, 0 => by simp [fldV]
  | some r :: fs, j, i + 1 => by simp only [fldV, List.getElem?_cons_succ]; rw [fldV_get ad m fs (j + 1) i, show j + 1 + i = j + (i + 1) by omega]
  | none :: fs, j, i + 1 => by simp only [fldV, List.getElem?_cons_succ]; rw [fldV_get ad m fs (j + 1) i, show j + 1 + i = j + (i + 1) by omega]
theorem fldV_cong (ad : Nat → Nat) {m m' : Nat → Int32} : ∀ (fs : List (Option Nat)) (j : Nat), (∀ i, j ≤ i → m i = m' i) → fldV ad m j fs = fldV ad m' j fs
  | [], j, h => rfl
  | some r :: fs, j, h => by simp only [fldV]; rw [fldV_cong ad fs (j + 1) (fun i hi => h i (by omega))]
  | none :: fs, j, h => by simp only [fldV]; rw [fldV_cong ad fs (j + 1) (fun i hi => h i (by omega)), h j (Nat.le_refl j)]
theorem fldV_set (ad : Nat → Nat) (x : Int32) : ∀ (fs : List (Option Nat)) (m : Nat → Int32) (j i : Nat), fs[i]? = some none → (fldV ad m j fs).set i (.int x) = fldV ad (upd m (j + i) x) j fs
  | [], m, j, i, h => by simp at h
  | some r :: fs, m, j, 0, h => by simp at h
  | none :: fs, m, j, 0, h => by
    simp only [fldV, List.set_cons_zero]
    rw [fldV_cong ad (m := m) (m' := upd m (j + 0) x) fs (j + 1) (fun i hi => by simp only [upd]; rw [if_neg (by omega)])]
    simp [upd]
  | some r :: fs, m, j, i + 1, h => by
    simp only [fldV, List.set_cons_succ]
    rw [fldV_set ad x fs m (j + 1) i (by simpa using h), show j + 1 + i = j + (i + 1) by omega]
  | none :: fs, m, j, i + 1, h => by
    simp only [fldV, List.set_cons_succ]
    rw [fldV_set ad x fs m (j + 1) i (by simpa using h), show j + 1 + i = j + (i + 1) by omega]
    congr 2
    simp only [upd]
    rw [if_neg (by omega)]
def rmD (d : Nat) : Room := { frames := d, cells := 0, slots := 0, locals := 40 * d }
def tysD (cy : Nat → ClassId) : List (ClassId × FieldType) := [(cy 0, .int), (cy 1, .byte), (cy 2, .boolean)]
def tyN (t : Nat) : FieldType := match t with
  | 0 => .int
  | 1 => .byte
  | _ => .boolean
/-- the words that hold in every later state of a run -/
def lw_gd : List Cond := lw_tbl.filter goodWord
theorem gd {w : Cond} (h : w ∈ lw_tbl) (g : goodWord w = true) : w ∈ lw_gd := List.mem_filter.mpr ⟨h, g⟩
theorem CK.good {q : vw_C} (h : CK q) : ∀ w ∈ u_ws q.1 q.2.1 q.2.2, w ∈ lw_gd := by
  intro w hw
  refine gd (h.1 w hw) ?_
  obtain ⟨k, -, rfl⟩ := List.mem_map.mp hw
  simp only [u_lay]
  split <;> rfl
/-! the text constants: their places in the pools, their bytes -/
def strTab : List (String × Nat × String × Nat) := [("PetalSets$Reader", 25, "points", 0), ("PetalSets$Reader", 58, "set", 1), ("PetalSets", 316, "points ", 2), ("PetalSets", 325, ";", 3), ("PetalSets", 327, "set ", 4), ("PetalSets$Kernel", 88, "within", 5), ("PetalSets$Kernel", 90, "flower", 6), ("PetalSets$Kernel", 98, " ", 7), ("PetalSets$Kernel", 103, " core ", 8), ("PetalSets$Kernel", 108, ";", 3), ("PetalSets", 339, "lost;", 9), ("PetalSets", 341, "left ", 10)]
def strByt : List (List Int32) := [[112, 111, 105, 110, 116, 115], [115, 101, 116], [112, 111, 105, 110, 116, 115, 32], [59], [115, 101, 116, 32], [119, 105, 116, 104, 105, 110], [102, 108, 111, 119, 101, 114], [32], [32, 99, 111, 114, 101, 32], [108, 111, 115, 116, 59], [108, 101, 102, 116, 32]]
def strLen : List Nat := [6, 3, 7, 1, 4, 6, 6, 1, 6, 5, 5]
def SX (ad : Nat → Nat) (A : Nat → Prop) (U : State) : Prop := vk_S 11 strLen strByt (fun i => ad (1000 + i)) (fun i => ad (2000 + i)) A U U.heap ∧ (∀ q ∈ strTab, vk_R q.1 q.2.1 q.2.2.1 (ad (1000 + q.2.2.2)) U) ∧ va_Z "java/lang/String" "COMPACT_STRINGS" "Z" (.int 1) A U U.heap ∧ (va_Z "jdk/internal/util/Preconditions" "SIOOBE_FORMATTER" "Ljava/util/function/BiFunction;" .null A U U.heap ∨ va_Z "jdk/internal/util/Preconditions" "SIOOBE_FORMATTER" "Ljava/util/function/BiFunction;" (.ref (ad 3000)) A U U.heap)
theorem SX.to {ad : Nat → Nat} {A : Nat → Prop} {s U : State} (h : SX ad A s) (hR : ∀ own k tx a, vk_R own k tx a s → vk_R own k tx a U) (hvm : s.vm.Alike U.vm) (hk : ∀ a : Nat, a < s.heap.size → ¬ A a → U.heap[a]? = s.heap[a]?) : SX ad A U := by
  obtain ⟨h1, h2, h3, h4⟩ := h
  exact ⟨(h1.moved hvm).kept hk, fun q hq => hR _ _ _ _ (h2 q hq), (h3.moved hvm).kept hk, h4.elim (fun z => Or.inl ((z.moved hvm).kept hk)) (fun z => Or.inr ((z.moved hvm).kept hk))⟩
/-- what a world stands on: the tables of its classes, the texts -/
def NX (U : State) : Prop := ∀ (own : String) (idx : Nat) (y : MethodName) (host : String), Cond.methodLinkNest own idx y host ∈ lw_tbl → va_Nw (.methodLinkNest own idx y host) U
def Cx (ad : Nat → Nat) (cy : Nat → ClassId) (D : va_G) (A : Nat → Prop) (U : State) : Prop := va_K D vwCl (tysD cy) U ∧ SX ad A U ∧ NX U
def prP : Nat → Lv → List (Nat × Value)
  | _, [] => []
  | j, some v :: r => (j, v) :: prP (j + 1) r
  | j, none :: r => prP (j + 1) r
theorem prP_mem {q : Nat × Value} : ∀ (lv : Lv) (j : Nat), q ∈ prP j lv → ∃ i, q.1 = j + i ∧ lv[i]? = some (some q.2)
  | [], j, h => by simp [prP] at h
  | some v :: r, j, h => by
    rcases List.mem_cons.mp h with rfl | h
    · exact ⟨0, rfl, rfl⟩
    · obtain ⟨i, h1, h2⟩ := prP_mem r (j + 1) h
      exact ⟨i + 1, by omega, by simpa using h2⟩
  | none :: r, j, h => by
    obtain ⟨i, h1, h2⟩ := prP_mem r (j + 1) h
    exact ⟨i + 1, by omega, by simpa using h2⟩
theorem prP_of {v : Value} : ∀ (lv : Lv) (j i : Nat), lv[i]? = some (some v) → (j + i, v) ∈ prP j lv
  | [], j, i, h => by simp at h
  | some w :: r, j, 0, h => by simp at h; simp [prP, h]
  | none :: r, j, 0, h => by simp at h
  | some w :: r, j, i + 1, h => by
    have := prP_of r (j + 1) i (by simpa using h)
    rw [show j + 1 + i = j + (i + 1) by omega] at this
    exact List.mem_cons_of_mem _ this
  | none :: r, j, i + 1, h => by
    have := prP_of r (j + 1) i (by simpa using h)
    rw [show j + 1 + i = j + (i + 1) by omega] at this
    exact this
def prR (ad : Nat → Nat) (lv : Lv) : List (Nat × Value) := (prP 0 lv).map (fun q => (q.1, rl ad q.2))
def LH (ad : Nat → Nat) (ls : Array Slot) (n : Nat) (lv : Lv) : Prop := lv_has ls n (prR ad lv)
theorem LH.get {ad : Nat → Nat} {ls : Array Slot} {n : Nat} {lv : Lv} (h : LH ad ls n lv) {i : Nat} {v : Value} (hv : lv[i]? = some (some v)) : ls[i]? = some (.val (rl ad v)) := by
  have h1 := prP_of lv 0 i hv
  rw [Nat.zero_add] at h1
  exact h.2.2 (i, rl ad v) (List.mem_map.mpr ⟨(i, v), h1, rfl⟩)
theorem LH.of {ad : Nat → Nat} {ls : Array Slot} {n : Nat} {lv : Lv} {l : List (Nat × Value)} (h : lv_has ls n l) (hm : ∀ i v, lv[i]? = some (some v) → (i, rl ad v) ∈ l) : LH ad ls n lv := by
  refine ⟨h.1, h.2.1, fun q hq => ?_⟩
  obtain ⟨q', h1, rfl⟩ := List.mem_map.mp hq
  obtain ⟨i, h2, h3⟩ := prP_mem lv 0 h1
  rw [Nat.zero_add] at h2
  exact h.2.2 _ (by rw [h2]; exact hm i _ h3)
theorem prR_in {ad : Nat → Nat} {lv : Lv} {i : Nat} {v : Value} (h : lv[i]? = some (some v)) : (i, rl ad v) ∈ prR ad lv := by
  have h1 := prP_of lv 0 i h
  rw [Nat.zero_add] at h1
  exact List.mem_map.mpr ⟨(i, v), h1, rfl⟩
/-- a store into local i; a long that lay just ahead is gone -/
def lvClr (lv : Lv) (i : Nat) : Lv := match i with
  | 0 => lv
  | j + 1 => match lv[j]? with
    | some (some (.long _)) => lv.set j none
    | some (some (.double _)) => lv.set j none
    | _ => lv
theorem lvClr_get {lv : Lv} {i j : Nat} {w : Value} (h : (lvClr lv i)[j]? = some (some w)) : lv[j]? = some (some w) ∧ ¬ (j + 1 = i ∧ w.category = 2) := by
  match i with
  | 0 => exact ⟨h, fun e => by omega⟩
  | i + 1 =>
    simp only [lvClr] at h
    split at h
    · by_cases e : j = i
      · subst e
        rw [List.getElem?_set] at h
        simp at h
      · rw [List.getElem?_set_ne (Ne.symm e)] at h
        exact ⟨h, fun q => e (by omega)⟩
    · by_cases e : j = i
      · subst e
        rw [List.getElem?_set] at h
        simp at h
      · rw [List.getElem?_set_ne (Ne.symm e)] at h
        exact ⟨h, fun q => e (by omega)⟩
    · rename_i h1 h2
      refine ⟨h, fun q => ?_⟩
      have e : j = i := by omega
      subst e
      cases w with
      | long x => exact h1 x h
      | double x => exact h2 x h
      | _ => have := q.2; simp [Value.category] at this
def lvSet (lv : Lv) (i : Nat) (v : Value) : Lv := (lvClr lv i).set i (some v)
def lvSet2 (lv : Lv) (i : Nat) (v : Value) : Lv := ((lvClr lv i).set i (some v)).set (i + 1) none
theorem LH.set1 {ad : Nat → Nat} {ls' : Array Slot} {n i : Nat} {v : Value} {lv : Lv} (h : lv_has ls' n ((i, rl ad v) :: (prR ad lv).filter (fun q => !(q.1 == i) && !(q.1 + 1 == i && q.2.category == 2)))) : LH ad ls' n (lvSet lv i v) := by
  refine LH.of h (fun j w hj => ?_)
  by_cases e : i = j
  · subst e
    have : w = v := by
      simp only [lvSet, List.getElem?_set] at hj
      split at hj <;> simp_all
    subst this
    exact List.mem_cons_self
  · simp only [lvSet] at hj
    rw [List.getElem?_set_ne e] at hj
    obtain ⟨h1, h2⟩ := lvClr_get hj
    refine List.mem_cons_of_mem _ (List.mem_filter.mpr ⟨prR_in h1, ?_⟩)
    rw [← rl_cat ad w] at h2
    simp only [Bool.and_eq_true, Bool.not_eq_true', beq_eq_false_iff_ne, Bool.and_eq_false_imp, beq_iff_eq]
    exact ⟨Ne.symm e, fun q => fun z => h2 ⟨q, z⟩⟩
theorem LH.set2 {ad : Nat → Nat} {ls' : Array Slot} {n i : Nat} {v : Value} {lv : Lv} (h : lv_has ls' n ((i, rl ad v) :: (prR ad lv).filter (fun q => !(q.1 == i) && (!(q.1 == i + 1) && !(q.1 + 1 == i && q.2.category == 2))))) : LH ad ls' n (lvSet2 lv i v) := by
  refine LH.of h (fun j w hj => ?_)
  by_cases e2 : i + 1 = j
  · subst e2
    simp only [lvSet2, List.getElem?_set] at hj
    simp at hj
  · simp only [lvSet2] at hj
    rw [List.getElem?_set_ne e2] at hj
    by_cases e : i = j
    · subst e
      have : w = v := by
        simp only [List.getElem?_set] at hj
        split at hj <;> simp_all
      subst this
      exact List.mem_cons_self
    · rw [List.getElem?_set_ne e] at hj
      obtain ⟨h1, h2⟩ := lvClr_get hj
      refine List.mem_cons_of_mem _ (List.mem_filter.mpr ⟨prR_in h1, ?_⟩)
      rw [← rl_cat ad w] at h2
      simp only [Bool.and_eq_true, Bool.not_eq_true', beq_eq_false_iff_ne, Bool.and_eq_false_imp, beq_iff_eq]
      exact ⟨Ne.symm e, Ne.symm e2, fun q => fun z => h2 ⟨q, z⟩⟩
/-- the frame that stands over a method's whole body -/
def Fx (M : PMe) (p : Program) (s : State) (m : MethodId) (args : Array Value) (meth : Method) (c : Code) : Prop := p.tables.exec = Jvm.exec ∧ c.code = M.2.1 ∧ meth.sig.returnType = M.2.2.2 ∧ meth.locks = false ∧ c.maxLocals = M.2.2.1 ∧ s.vm.findClass M.1.cls = some m.cls ∧ ∀ w ∈ lw_gd, w.before args s = true
def QcP (sh : List Sh) (ad : Nat → Nat) (cy : Nat → ClassId) (D : va_G) (A : Nat → Prop) (Q : Pq) : Array Value → State → Outcome → State → Prop := fun _ st o t => ∃ (r : Option Value) (mem : Mem), o = .returned (r.map (rl ad)) ∧ Q r mem ∧ va_P D vwCl (lay cy ad mem sh) t.heap ∧ va_D A (lay cy ad mem sh) ∧ va_F A st t
/-- method M, at pc, with these locals and stack, in a world of shape sh with contents mem, comes to its end with Q; d calls deep at most -/
def Wp (sh : List Sh) (M : PMe) (d pc : Nat) (lv : Lv) (st : List Value) (mem : Mem) (Q : Pq) : Prop :=
  ∀ (p : Program) (l : Launch) (e : Env) (s : State) (m : MethodId) (args : Array Value) (below : List Frame) (meth : Method) (c : Code) (H : Heap) (locs : List Loc) (ls : Array Slot) (ad : Nat → Nat) (cy : Nat → ClassId) (D : va_G) (A : Nat → Prop),
    Fx M p s m args meth c → Cx ad cy D A s → va_P D vwCl (lay cy ad mem sh) H → va_D A (lay cy ad mem sh) → va_S A s.heap H locs → LH ad ls M.2.2.1 lv →
    W p l e (rmD d) s m args below meth c H locs 0 0 (MQ below (QcP sh ad cy D A Q) args s 0 0 A) (F0 m pc ls (st.map (rl ad)))
/-- a call of M with these arguments comes to its end with Q -/
def Cll (sh : List Sh) (M : PMe) (d : Nat) (as : List Value) (mem : Mem) (Q : Pq) : Prop :=
  ∀ (l : Launch) (ad : Nat → Nat) (cy : Nat → ClassId) (D : va_G) (A : Nat → Prop), Met l M.1 (.code M.1 M.2.1 M.2.2.1 M.2.2.2 :: lw_gd) (rmD d) (va_Pc (as.map (rl ad)) (fun U => va_P D vwCl (lay cy ad mem sh) U.heap ∧ Cx ad cy D A U ∧ va_D A (lay cy ad mem sh))) (QcP sh ad cy D A Q) 0 0 A
section WPR
variable {sh : List Sh} {M M' : PMe} {d pc : Nat} {lv : Lv} {st : List Value} {mem : Mem} {Q : Pq}
theorem Wp.mono {Q' : Pq} (h : Wp sh M d pc lv st mem Q) (hq : ∀ r m', Q r m' → Q' r m') : Wp sh M d pc lv st mem Q' := by
  intro p l e s m args below meth c H locs ls ad cy D A F C hP hD hS hl T hT X
  obtain ⟨t, a, o, b1, b2, ⟨r, m', c1, c2, c3⟩, b4⟩ := h p l e s m args below meth c H locs ls ad cy D A F C hP hD hS hl T hT X
  exact ⟨t, a, o, b1, b2, ⟨r, m', c1, hq _ _ c2, c3⟩, b4⟩

theorem wp_iadd {x y : Int32} (hc : decode M.2.1 pc = .ok (.iadd, 1)) (h : Wp sh M d (pc + 1) lv (.int (x + y) :: st) mem Q) : Wp sh M d pc lv (.int y :: .int x :: st) mem Q := by
  intro p l e s m args below meth c H locs ls ad cy D A F C hP hD hS hl
  exact lv_iadd F.1 F.2.1 hc (h p l e s m args below meth c H locs ls ad cy D A F C hP hD hS hl)
theorem wp_isub {x y : Int32} (hc : decode M.2.1 pc = .ok (.isub, 1)) (h : Wp sh M d (pc + 1) lv (.int (x - y) :: st) mem Q) : Wp sh M d pc lv (.int y :: .int x :: st) mem Q := by
  intro p l e s m args below meth c H locs ls ad cy D A F C hP hD hS hl
  exact lv_isub F.1 F.2.1 hc (h p l e s m args below meth c H locs ls ad cy D A F C hP hD hS hl)
theorem wp_imul {x y : Int32} (hc : decode M.2.1 pc = .ok (.imul, 1)) (h : Wp sh M d (pc + 1) lv (.int (x * y) :: st) mem Q) : Wp sh M d pc lv (.int y :: .int x :: st) mem Q := by
  intro p l e s m args below meth c H locs ls ad cy D A F C hP hD hS hl
  exact lv_imul F.1 F.2.1 hc (h p l e s m args below meth c H locs ls ad cy D A F C hP hD hS hl)
theorem wp_iand {x y : Int32} (hc : decode M.2.1 pc = .ok (.iand, 1)) (h : Wp sh M d (pc + 1) lv (.int (x &&& y) :: st) mem Q) : Wp sh M d pc lv (.int y :: .int x :: st) mem Q := by
  intro p l e s m args below meth c H locs ls ad cy D A F C hP hD hS hl
  exact lv_iand F.1 F.2.1 hc (h p l e s m args below meth c H locs ls ad cy D A F C hP hD hS hl)
theorem wp_ior {x y : Int32} (hc : decode M.2.1 pc = .ok (.ior, 1)) (h : Wp sh M d (pc + 1) lv (.int (x ||| y) :: st) mem Q) : Wp sh M d pc lv (.int y :: .int x :: st) mem Q := by
  intro p l e s m args below meth c H locs ls ad cy D A F C hP hD hS hl
  exact lv_ior F.1 F.2.1 hc (h p l e s m args below meth c H locs ls ad cy D A F C hP hD hS hl)
theorem wp_ixor {x y : Int32} (hc : decode M.2.1 pc = .ok (.ixor, 1)) (h : Wp sh M d (pc + 1) lv (.int (x ^^^ y) :: st) mem Q) : Wp sh M d pc lv (.int y :: .int x :: st) mem Q := by
  intro p l e s m args below meth c H locs ls ad cy D A F C hP hD hS hl
  exact lv_ixor F.1 F.2.1 hc (h p l e s m args below meth c H locs ls ad cy D A F C hP hD hS hl)
theorem wp_ishl {x y : Int32} (hc : decode M.2.1 pc = .ok (.ishl, 1)) (h : Wp sh M d (pc + 1) lv (.int (x <<< (y &&& 31)) :: st) mem Q) : Wp sh M d pc lv (.int y :: .int x :: st) mem Q := by
  intro p l e s m args below meth c H locs ls ad cy D A F C hP hD hS hl
  exact lv_ishl F.1 F.2.1 hc (h p l e s m args below meth c H locs ls ad cy D A F C hP hD hS hl)
theorem wp_ishr {x y : Int32} (hc : decode M.2.1 pc = .ok (.ishr, 1)) (h : Wp sh M d (pc + 1) lv (.int (x >>> (y &&& 31)) :: st) mem Q) : Wp sh M d pc lv (.int y :: .int x :: st) mem Q := by
  intro p l e s m args below meth c H locs ls ad cy D A F C hP hD hS hl
  exact lv_ishr F.1 F.2.1 hc (h p l e s m args below meth c H locs ls ad cy D A F C hP hD hS hl)
theorem wp_iushr {x y : Int32} (hc : decode M.2.1 pc = .ok (.iushr, 1)) (h : Wp sh M d (pc + 1) lv (.int ((x.toUInt32 >>> (y.toUInt32 &&& Int32.toUInt32 31)).toInt32) :: st) mem Q) : Wp sh M d pc lv (.int y :: .int x :: st) mem Q := by
  intro p l e s m args below meth c H locs ls ad cy D A F C hP hD hS hl
  exact lv_iushr F.1 F.2.1 hc rfl (h p l e s m args below meth c H locs ls ad cy D A F C hP hD hS hl)
theorem wp_idiv {x y : Int32} (hc : decode M.2.1 pc = .ok (.idiv, 1)) (hne : ¬ y = 0) (h : Wp sh M d (pc + 1) lv (.int (x / y) :: st) mem Q) : Wp sh M d pc lv (.int y :: .int x :: st) mem Q := by
  intro p l e s m args below meth c H locs ls ad cy D A F C hP hD hS hl
  exact lv_idiv F.1 F.2.1 hc hne (h p l e s m args below meth c H locs ls ad cy D A F C hP hD hS hl)
theorem wp_irem {x y : Int32} (hc : decode M.2.1 pc = .ok (.irem, 1)) (hne : ¬ y = 0) (h : Wp sh M d (pc + 1) lv (.int (x - x / y * y) :: st) mem Q) : Wp sh M d pc lv (.int y :: .int x :: st) mem Q := by
  intro p l e s m args below meth c H locs ls ad cy D A F C hP hD hS hl
  exact lv_irem F.1 F.2.1 hc hne (h p l e s m args below meth c H locs ls ad cy D A F C hP hD hS hl)
theorem wp_ineg {x : Int32} (hc : decode M.2.1 pc = .ok (.ineg, 1)) (h : Wp sh M d (pc + 1) lv (.int (-x) :: st) mem Q) : Wp sh M d pc lv (.int x :: st) mem Q := by
  intro p l e s m args below meth c H locs ls ad cy D A F C hP hD hS hl
  exact lv_ineg F.1 F.2.1 hc (h p l e s m args below meth c H locs ls ad cy D A F C hP hD hS hl)
theorem wp_i2l {x : Int32} (hc : decode M.2.1 pc = .ok (.i2l, 1)) (h : Wp sh M d (pc + 1) lv (.long x.toInt64 :: st) mem Q) : Wp sh M d pc lv (.int x :: st) mem Q := by
  intro p l e s m args below meth c H locs ls ad cy D A F C hP hD hS hl
  exact lv_i2l F.1 F.2.1 hc rfl (h p l e s m args below meth c H locs ls ad cy D A F C hP hD hS hl)
theorem wp_l2i {x : Int64} (hc : decode M.2.1 pc = .ok (.l2i, 1)) (h : Wp sh M d (pc + 1) lv (.int x.toInt32 :: st) mem Q) : Wp sh M d pc lv (.long x :: st) mem Q := by
  intro p l e s m args below meth c H locs ls ad cy D A F C hP hD hS hl
  exact lv_l2i F.1 F.2.1 hc rfl (h p l e s m args below meth c H locs ls ad cy D A F C hP hD hS hl)
theorem wp_i2b {x : Int32} (hc : decode M.2.1 pc = .ok (.i2b, 1)) (h : Wp sh M d (pc + 1) lv (.int x.toInt8.toInt32 :: st) mem Q) : Wp sh M d pc lv (.int x :: st) mem Q := by
  intro p l e s m args below meth c H locs ls ad cy D A F C hP hD hS hl
  exact lv_i2b F.1 F.2.1 hc rfl (h p l e s m args below meth c H locs ls ad cy D A F C hP hD hS hl)
theorem wp_lmul {x y : Int64} (hc : decode M.2.1 pc = .ok (.lmul, 1)) (h : Wp sh M d (pc + 1) lv (.long (x * y) :: st) mem Q) : Wp sh M d pc lv (.long y :: .long x :: st) mem Q := by
  intro p l e s m args below meth c H locs ls ad cy D A F C hP hD hS hl
  exact lv_lmul F.1 F.2.1 hc (h p l e s m args below meth c H locs ls ad cy D A F C hP hD hS hl)
theorem wp_lcmp {x y : Int64} (hc : decode M.2.1 pc = .ok (.lcmp, 1)) (h : Wp sh M d (pc + 1) lv (.int (lg_cmp x y) :: st) mem Q) : Wp sh M d pc lv (.long y :: .long x :: st) mem Q := by
  intro p l e s m args below meth c H locs ls ad cy D A F C hP hD hS hl
  exact W.lcmp F.1 F.2.1 hc (h p l e s m args below meth c H locs ls ad cy D A F C hP hD hS hl)
theorem wp_lconst {n : Fin 2} (hc : decode M.2.1 pc = .ok (.lconst n, 1)) (h : Wp sh M d (pc + 1) lv (.long (Int64.ofNat (n : Nat)) :: st) mem Q) : Wp sh M d pc lv (st) mem Q := by
  intro p l e s m args below meth c H locs ls ad cy D A F C hP hD hS hl
  exact lv_lconst F.1 F.2.1 hc rfl (h p l e s m args below meth c H locs ls ad cy D A F C hP hD hS hl)
theorem wp_iconst {n : Int} (hc : decode M.2.1 pc = .ok (.iconst n, 1)) (v : Int32) (hv : Int32.ofInt n = v) (h : Wp sh M d (pc + 1) lv (.int v :: st) mem Q) : Wp sh M d pc lv (st) mem Q := by
  intro p l e s m args below meth c H locs ls ad cy D A F C hP hD hS hl
  exact lv_iconst F.1 F.2.1 hc hv (h p l e s m args below meth c H locs ls ad cy D A F C hP hD hS hl)
theorem wp_bipush {n : Int} (hc : decode M.2.1 pc = .ok (.bipush n, 2)) (v : Int32) (hv : (Int8.ofInt n).toInt32 = v) (h : Wp sh M d (pc + 2) lv (.int v :: st) mem Q) : Wp sh M d pc lv (st) mem Q := by
  intro p l e s m args below meth c H locs ls ad cy D A F C hP hD hS hl
  exact lv_bipush F.1 F.2.1 hc hv (h p l e s m args below meth c H locs ls ad cy D A F C hP hD hS hl)
theorem wp_sipush {n : Int} (hc : decode M.2.1 pc = .ok (.sipush n, 3)) (v : Int32) (hv : (Int16.ofInt n).toInt32 = v) (h : Wp sh M d (pc + 3) lv (.int v :: st) mem Q) : Wp sh M d pc lv (st) mem Q := by
  intro p l e s m args below meth c H locs ls ad cy D A F C hP hD hS hl
  exact lv_sipush F.1 F.2.1 hc hv (h p l e s m args below meth c H locs ls ad cy D A F C hP hD hS hl)
theorem wp_dup {v : Value} (hc : decode M.2.1 pc = .ok (.dup, 1)) (hv : v.category = 1) (h : Wp sh M d (pc + 1) lv (v :: v :: st) mem Q) : Wp sh M d pc lv (v :: st) mem Q := by
  intro p l e s m args below meth c H locs ls ad cy D A F C hP hD hS hl
  exact lv_dup F.1 F.2.1 hc ((rl_cat ad v).trans hv) (h p l e s m args below meth c H locs ls ad cy D A F C hP hD hS hl)
theorem wp_pop {v : Value} (hc : decode M.2.1 pc = .ok (.pop, 1)) (hv : v.category = 1) (h : Wp sh M d (pc + 1) lv (st) mem Q) : Wp sh M d pc lv (v :: st) mem Q := by
  intro p l e s m args below meth c H locs ls ad cy D A F C hP hD hS hl
  exact lv_pop F.1 F.2.1 hc ((rl_cat ad v).trans hv) (h p l e s m args below meth c H locs ls ad cy D A F C hP hD hS hl)
theorem wp_dup2 {v w : Value} (hc : decode M.2.1 pc = .ok (.dup2, 1)) (hv : v.category = 1) (hw : w.category = 1) (h : Wp sh M d (pc + 1) lv (v :: w :: v :: w :: st) mem Q) : Wp sh M d pc lv (v :: w :: st) mem Q := by
  intro p l e s m args below meth c H locs ls ad cy D A F C hP hD hS hl
  exact lv_dup2_11 F.1 F.2.1 hc ((rl_cat ad v).trans hv) ((rl_cat ad w).trans hw) (h p l e s m args below meth c H locs ls ad cy D A F C hP hD hS hl)
theorem wp_iload {i : Nat} {x : Int32} (hc : decode M.2.1 pc = .ok (.iload i, 2)) (hv : lv[i]? = some (some (.int x))) (h : Wp sh M d (pc + 2) lv (.int x :: st) mem Q) : Wp sh M d pc lv (st) mem Q := by
  intro p l e s m args below meth c H locs ls ad cy D A F C hP hD hS hl
  exact lv_iload F.1 F.2.1 hc (hl.get hv) (h p l e s m args below meth c H locs ls ad cy D A F C hP hD hS hl)
theorem wp_iload_n {i : Fin 4} {x : Int32} (hc : decode M.2.1 pc = .ok (.iload_n i, 1)) (hv : lv[(i : Nat)]? = some (some (.int x))) (h : Wp sh M d (pc + 1) lv (.int x :: st) mem Q) : Wp sh M d pc lv (st) mem Q := by
  intro p l e s m args below meth c H locs ls ad cy D A F C hP hD hS hl
  exact lv_iload_n F.1 F.2.1 hc rfl (hl.get hv) (h p l e s m args below meth c H locs ls ad cy D A F C hP hD hS hl)
theorem wp_lload_n {i : Fin 4} {x : Int64} (hc : decode M.2.1 pc = .ok (.lload_n i, 1)) (hv : lv[(i : Nat)]? = some (some (.long x))) (h : Wp sh M d (pc + 1) lv (.long x :: st) mem Q) : Wp sh M d pc lv (st) mem Q := by
  intro p l e s m args below meth c H locs ls ad cy D A F C hP hD hS hl
  exact lv_lload_n F.1 F.2.1 hc rfl (hl.get hv) (h p l e s m args below meth c H locs ls ad cy D A F C hP hD hS hl)
theorem wp_aload {i : Nat} {x : Nat} (hc : decode M.2.1 pc = .ok (.aload i, 2)) (hv : lv[i]? = some (some (.ref x))) (h : Wp sh M d (pc + 2) lv (.ref x :: st) mem Q) : Wp sh M d pc lv (st) mem Q := by
  intro p l e s m args below meth c H locs ls ad cy D A F C hP hD hS hl
  exact lv_aload F.1 F.2.1 hc (hl.get hv) (h p l e s m args below meth c H locs ls ad cy D A F C hP hD hS hl)
theorem wp_aload_n {i : Fin 4} {x : Nat} (hc : decode M.2.1 pc = .ok (.aload_n i, 1)) (hv : lv[(i : Nat)]? = some (some (.ref x))) (h : Wp sh M d (pc + 1) lv (.ref x :: st) mem Q) : Wp sh M d pc lv (st) mem Q := by
  intro p l e s m args below meth c H locs ls ad cy D A F C hP hD hS hl
  exact lv_aload_n F.1 F.2.1 hc rfl (hl.get hv) (h p l e s m args below meth c H locs ls ad cy D A F C hP hD hS hl)
theorem wp_istore {i : Nat} {x : Int32} (hc : decode M.2.1 pc = .ok (.istore i, 2)) (hn : (i : Nat) < M.2.2.1) (h : Wp sh M d (pc + 2) (lvSet lv (i : Nat) (.int x)) st mem Q) : Wp sh M d pc lv (.int x :: st) mem Q := by
  intro p l e s m args below meth c H locs ls ad cy D A F C hP hD hS hl
  exact lv_istore F.1 F.2.1 hc  hl hn rfl (fun ls2 h2 => h p l e s m args below meth c H locs ls2 ad cy D A F C hP hD hS (LH.set1 h2))
theorem wp_istore_n {i : Fin 4} {x : Int32} (hc : decode M.2.1 pc = .ok (.istore_n i, 1)) (hn : (i : Nat) < M.2.2.1) (h : Wp sh M d (pc + 1) (lvSet lv (i : Nat) (.int x)) st mem Q) : Wp sh M d pc lv (.int x :: st) mem Q := by
  intro p l e s m args below meth c H locs ls ad cy D A F C hP hD hS hl
  exact lv_istore_n F.1 F.2.1 hc rfl hl hn rfl (fun ls2 h2 => h p l e s m args below meth c H locs ls2 ad cy D A F C hP hD hS (LH.set1 h2))
theorem wp_astore_n {i : Fin 4} {x : Nat} (hc : decode M.2.1 pc = .ok (.astore_n i, 1)) (hn : (i : Nat) < M.2.2.1) (h : Wp sh M d (pc + 1) (lvSet lv (i : Nat) (.ref x)) st mem Q) : Wp sh M d pc lv (.ref x :: st) mem Q := by
  intro p l e s m args below meth c H locs ls ad cy D A F C hP hD hS hl
  exact lv_astore_n F.1 F.2.1 hc rfl hl hn rfl (fun ls2 h2 => h p l e s m args below meth c H locs ls2 ad cy D A F C hP hD hS (LH.set1 h2))
theorem wp_lstore_n {i : Fin 4} {x : Int64} (hc : decode M.2.1 pc = .ok (.lstore_n i, 1)) (hn : (i : Nat) + 1 < M.2.2.1) (h : Wp sh M d (pc + 1) (lvSet2 lv (i : Nat) (.long x)) st mem Q) : Wp sh M d pc lv (.long x :: st) mem Q := by
  intro p l e s m args below meth c H locs ls ad cy D A F C hP hD hS hl
  exact lv_lstore_n F.1 F.2.1 hc rfl hl hn rfl (fun ls2 h2 => h p l e s m args below meth c H locs ls2 ad cy D A F C hP hD hS (LH.set2 h2))
theorem wp_iinc {i : Nat} {n : Int} {x : Int32} (hc : decode M.2.1 pc = .ok (.iinc i n, 3)) (hv : lv[i]? = some (some (.int x))) (hn : i < M.2.2.1) (v : Int32) (hx : x + Int32.ofInt n = v) (h : Wp sh M d (pc + 3) (lvSet lv i (.int v)) st mem Q) : Wp sh M d pc lv st mem Q := by
  intro p l e s m args below meth c H locs ls ad cy D A F C hP hD hS hl
  obtain ⟨k, hk⟩ := List.getElem?_of_mem (prR_in (ad := ad) hv)
  exact lv_iinc F.1 F.2.1 hc hl hk hx hn rfl (fun ls2 h2 => h p l e s m args below meth c H locs ls2 ad cy D A F C hP hD hS (LH.set1 h2))
theorem wp_goto {off : Int} {tgt : Nat} (hc : decode M.2.1 pc = .ok (.goto off, 3)) (ht : (pc : Int) + off = (tgt : Int)) (h : Wp sh M d tgt lv st mem Q) : Wp sh M d pc lv st mem Q := by
  intro p l e s m args below meth c H locs ls ad cy D A F C hP hD hS hl
  exact lv_goto F.1 F.2.1 hc ht (h p l e s m args below meth c H locs ls ad cy D A F C hP hD hS hl)
theorem wp_if_eq {x : Int32} {off : Int} {tgt : Nat} (hc : decode M.2.1 pc = .ok (.ifCond .eq off, 3)) (ht : (pc : Int) + off = (tgt : Int)) (h1 : x = 0 → Wp sh M d tgt lv st mem Q) (h2 : ¬ x = 0 → Wp sh M d (pc + 3) lv st mem Q) : Wp sh M d pc lv (.int x :: st) mem Q := by
  intro p l e s m args below meth c H locs ls ad cy D A F C hP hD hS hl
  exact lv_if_eq F.1 F.2.1 hc ht (fun z => h1 z p l e s m args below meth c H locs ls ad cy D A F C hP hD hS hl) (fun z => h2 z p l e s m args below meth c H locs ls ad cy D A F C hP hD hS hl)
theorem wp_if_ne {x : Int32} {off : Int} {tgt : Nat} (hc : decode M.2.1 pc = .ok (.ifCond .ne off, 3)) (ht : (pc : Int) + off = (tgt : Int)) (h1 : ¬ x = 0 → Wp sh M d tgt lv st mem Q) (h2 : x = 0 → Wp sh M d (pc + 3) lv st mem Q) : Wp sh M d pc lv (.int x :: st) mem Q := by
  intro p l e s m args below meth c H locs ls ad cy D A F C hP hD hS hl
  exact lv_if_ne F.1 F.2.1 hc ht (fun z => h1 z p l e s m args below meth c H locs ls ad cy D A F C hP hD hS hl) (fun z => h2 z p l e s m args below meth c H locs ls ad cy D A F C hP hD hS hl)
theorem wp_if_lt {x : Int32} {off : Int} {tgt : Nat} (hc : decode M.2.1 pc = .ok (.ifCond .lt off, 3)) (ht : (pc : Int) + off = (tgt : Int)) (h1 : x < 0 → Wp sh M d tgt lv st mem Q) (h2 : ¬ x < 0 → Wp sh M d (pc + 3) lv st mem Q) : Wp sh M d pc lv (.int x :: st) mem Q := by
  intro p l e s m args below meth c H locs ls ad cy D A F C hP hD hS hl
  exact lv_if_lt F.1 F.2.1 hc ht (fun z => h1 z p l e s m args below meth c H locs ls ad cy D A F C hP hD hS hl) (fun z => h2 z p l e s m args below meth c H locs ls ad cy D A F C hP hD hS hl)
theorem wp_if_ge {x : Int32} {off : Int} {tgt : Nat} (hc : decode M.2.1 pc = .ok (.ifCond .ge off, 3)) (ht : (pc : Int) + off = (tgt : Int)) (h1 : 0 ≤ x → Wp sh M d tgt lv st mem Q) (h2 : ¬ 0 ≤ x → Wp sh M d (pc + 3) lv st mem Q) : Wp sh M d pc lv (.int x :: st) mem Q := by
  intro p l e s m args below meth c H locs ls ad cy D A F C hP hD hS hl
  exact lv_if_ge F.1 F.2.1 hc ht (fun z => h1 z p l e s m args below meth c H locs ls ad cy D A F C hP hD hS hl) (fun z => h2 z p l e s m args below meth c H locs ls ad cy D A F C hP hD hS hl)
theorem wp_if_gt {x : Int32} {off : Int} {tgt : Nat} (hc : decode M.2.1 pc = .ok (.ifCond .gt off, 3)) (ht : (pc : Int) + off = (tgt : Int)) (h1 : 0 < x → Wp sh M d tgt lv st mem Q) (h2 : ¬ 0 < x → Wp sh M d (pc + 3) lv st mem Q) : Wp sh M d pc lv (.int x :: st) mem Q := by
  intro p l e s m args below meth c H locs ls ad cy D A F C hP hD hS hl
  exact lv_if_gt F.1 F.2.1 hc ht (fun z => h1 z p l e s m args below meth c H locs ls ad cy D A F C hP hD hS hl) (fun z => h2 z p l e s m args below meth c H locs ls ad cy D A F C hP hD hS hl)
theorem wp_if_le {x : Int32} {off : Int} {tgt : Nat} (hc : decode M.2.1 pc = .ok (.ifCond .le off, 3)) (ht : (pc : Int) + off = (tgt : Int)) (h1 : x ≤ 0 → Wp sh M d tgt lv st mem Q) (h2 : ¬ x ≤ 0 → Wp sh M d (pc + 3) lv st mem Q) : Wp sh M d pc lv (.int x :: st) mem Q := by
  intro p l e s m args below meth c H locs ls ad cy D A F C hP hD hS hl
  exact lv_if_le F.1 F.2.1 hc ht (fun z => h1 z p l e s m args below meth c H locs ls ad cy D A F C hP hD hS hl) (fun z => h2 z p l e s m args below meth c H locs ls ad cy D A F C hP hD hS hl)
theorem wp_icmp_eq {x y : Int32} {off : Int} {tgt : Nat} (hc : decode M.2.1 pc = .ok (.if_icmp .eq off, 3)) (ht : (pc : Int) + off = (tgt : Int)) (h1 : x = y → Wp sh M d tgt lv st mem Q) (h2 : ¬ x = y → Wp sh M d (pc + 3) lv st mem Q) : Wp sh M d pc lv (.int y :: .int x :: st) mem Q := by
  intro p l e s m args below meth c H locs ls ad cy D A F C hP hD hS hl
  exact lv_icmp_eq F.1 F.2.1 hc ht (fun z => h1 z p l e s m args below meth c H locs ls ad cy D A F C hP hD hS hl) (fun z => h2 z p l e s m args below meth c H locs ls ad cy D A F C hP hD hS hl)
theorem wp_icmp_ne {x y : Int32} {off : Int} {tgt : Nat} (hc : decode M.2.1 pc = .ok (.if_icmp .ne off, 3)) (ht : (pc : Int) + off = (tgt : Int)) (h1 : ¬ x = y → Wp sh M d tgt lv st mem Q) (h2 : x = y → Wp sh M d (pc + 3) lv st mem Q) : Wp sh M d pc lv (.int y :: .int x :: st) mem Q := by
  intro p l e s m args below meth c H locs ls ad cy D A F C hP hD hS hl
  exact lv_icmp_ne F.1 F.2.1 hc ht (fun z => h1 z p l e s m args below meth c H locs ls ad cy D A F C hP hD hS hl) (fun z => h2 z p l e s m args below meth c H locs ls ad cy D A F C hP hD hS hl)
theorem wp_icmp_lt {x y : Int32} {off : Int} {tgt : Nat} (hc : decode M.2.1 pc = .ok (.if_icmp .lt off, 3)) (ht : (pc : Int) + off = (tgt : Int)) (h1 : x < y → Wp sh M d tgt lv st mem Q) (h2 : ¬ x < y → Wp sh M d (pc + 3) lv st mem Q) : Wp sh M d pc lv (.int y :: .int x :: st) mem Q := by
  intro p l e s m args below meth c H locs ls ad cy D A F C hP hD hS hl
  exact lv_icmp_lt F.1 F.2.1 hc ht (fun z => h1 z p l e s m args below meth c H locs ls ad cy D A F C hP hD hS hl) (fun z => h2 z p l e s m args below meth c H locs ls ad cy D A F C hP hD hS hl)
theorem wp_icmp_ge {x y : Int32} {off : Int} {tgt : Nat} (hc : decode M.2.1 pc = .ok (.if_icmp .ge off, 3)) (ht : (pc : Int) + off = (tgt : Int)) (h1 : y ≤ x → Wp sh M d tgt lv st mem Q) (h2 : ¬ y ≤ x → Wp sh M d (pc + 3) lv st mem Q) : Wp sh M d pc lv (.int y :: .int x :: st) mem Q := by
  intro p l e s m args below meth c H locs ls ad cy D A F C hP hD hS hl
  exact lv_icmp_ge F.1 F.2.1 hc ht (fun z => h1 z p l e s m args below meth c H locs ls ad cy D A F C hP hD hS hl) (fun z => h2 z p l e s m args below meth c H locs ls ad cy D A F C hP hD hS hl)
theorem wp_icmp_gt {x y : Int32} {off : Int} {tgt : Nat} (hc : decode M.2.1 pc = .ok (.if_icmp .gt off, 3)) (ht : (pc : Int) + off = (tgt : Int)) (h1 : y < x → Wp sh M d tgt lv st mem Q) (h2 : ¬ y < x → Wp sh M d (pc + 3) lv st mem Q) : Wp sh M d pc lv (.int y :: .int x :: st) mem Q := by
  intro p l e s m args below meth c H locs ls ad cy D A F C hP hD hS hl
  exact lv_icmp_gt F.1 F.2.1 hc ht (fun z => h1 z p l e s m args below meth c H locs ls ad cy D A F C hP hD hS hl) (fun z => h2 z p l e s m args below meth c H locs ls ad cy D A F C hP hD hS hl)
theorem wp_icmp_le {x y : Int32} {off : Int} {tgt : Nat} (hc : decode M.2.1 pc = .ok (.if_icmp .le off, 3)) (ht : (pc : Int) + off = (tgt : Int)) (h1 : x ≤ y → Wp sh M d tgt lv st mem Q) (h2 : ¬ x ≤ y → Wp sh M d (pc + 3) lv st mem Q) : Wp sh M d pc lv (.int y :: .int x :: st) mem Q := by
  intro p l e s m args below meth c H locs ls ad cy D A F C hP hD hS hl
  exact lv_icmp_le F.1 F.2.1 hc ht (fun z => h1 z p l e s m args below meth c H locs ls ad cy D A F C hP hD hS hl) (fun z => h2 z p l e s m args below meth c H locs ls ad cy D A F C hP hD hS hl)
theorem wp_tableOut {dflt lo hi : Int} {offs : Array Int} {len : Nat} {x : Int32} {tgt : Nat} (hc : decode M.2.1 pc = .ok (.tableswitch dflt lo hi offs, len)) (hx : x.toInt < lo ∨ hi < x.toInt) (ht : (pc : Int) + dflt = (tgt : Int)) (h : Wp sh M d tgt lv st mem Q) : Wp sh M d pc lv (.int x :: st) mem Q := by
  intro p l e s m args below meth c H locs ls ad cy D A F C hP hD hS hl
  exact lv_tableOut F.1 F.2.1 hc hx ht (h p l e s m args below meth c H locs ls ad cy D A F C hP hD hS hl)
theorem wp_tableIn {dflt lo hi : Int} {offs : Array Int} {len : Nat} {x : Int32} {off : Int} {tgt : Nat} (hc : decode M.2.1 pc = .ok (.tableswitch dflt lo hi offs, len)) (h1 : ¬ x.toInt < lo) (h2 : ¬ hi < x.toInt) (ho : offs[(x.toInt - lo).toNat]? = some off) (ht : (pc : Int) + off = (tgt : Int)) (h : Wp sh M d tgt lv st mem Q) : Wp sh M d pc lv (.int x :: st) mem Q := by
  intro p l e s m args below meth c H locs ls ad cy D A F C hP hD hS hl
  exact lv_tableIn F.1 F.2.1 hc h1 h2 ho ht (h p l e s m args below meth c H locs ls ad cy D A F C hP hD hS hl)
theorem wp_ldcw {idx : Nat} (v : Int32) (hc : decode M.2.1 pc = .ok (.ldc_w idx, 3)) (hk : Cond.constant M.1.cls idx v ∈ lw_tbl) (h : Wp sh M d (pc + 3) lv (.int v :: st) mem Q) : Wp sh M d pc lv st mem Q := by
  intro p l e s m args below meth c H locs ls ad cy D A F C hP hD hS hl
  exact lv_ldcw F.1 F.2.1 F.2.2.2.2.2.1 (F.2.2.2.2.2.2 _ (gd hk rfl)) hc (h p l e s m args below meth c H locs ls ad cy D A F C hP hD hS hl)
theorem wp_ldc2 {idx : Nat} (v : Int64) (hc : decode M.2.1 pc = .ok (.ldc2_w idx, 3)) (hk : Cond.constantLong M.1.cls idx v ∈ lw_tbl) (h : Wp sh M d (pc + 3) lv (.long v :: st) mem Q) : Wp sh M d pc lv st mem Q := by
  intro p l e s m args below meth c H locs ls ad cy D A F C hP hD hS hl
  exact lv_ldc2 F.1 F.2.1 F.2.2.2.2.2.1 (F.2.2.2.2.2.2 _ (gd hk rfl)) hc (h p l e s m args below meth c H locs ls ad cy D A F C hP hD hS hl)
theorem wp_ldcS {idx : Nat} (tx : String) (q : Nat) (hc : decode M.2.1 pc = .ok (.ldc idx, 2)) (hk : (M.1.cls, idx, tx, q) ∈ strTab) (h : Wp sh M d (pc + 2) lv (.ref (1000 + q) :: st) mem Q) : Wp sh M d pc lv st mem Q := by
  intro p l e s m args below meth c H locs ls ad cy D A F C hP hD hS hl
  exact va_ldcS F.1 F.2.1 F.2.2.2.2.2.1 (C.2.1.2.1 _ hk) hc (h p l e s m args below meth c H locs ls ad cy D A F C hP hD hS hl)
theorem wp_getI {idx ci k b : Nat} {fs : List (Option Nat)} (hc : decode M.2.1 pc = .ok (.getfield idx, 3)) (hf : FL M.1.cls idx ci k) (hs : sh[b]? = some (.inr (ci, fs))) (hk : fs[k]? = some none) (h : Wp sh M d (pc + 3) lv (.int (mem b k) :: st) mem Q) : Wp sh M d pc lv (.ref b :: st) mem Q := by
  intro p l e s m args below meth c H locs ls ad cy D A F C hP hD hS hl
  obtain ⟨⟨Cn, T, N⟩, h1, h2, h3⟩ := hf
  have ck := vwCl_ok _ (List.mem_of_getElem? h1)
  refine va_get (D := D) (ci := ci) (v := .int (mem b k)) (C := Cn) (T := T) (N := N) F.1 F.2.1 F.2.2.2.2.2.2 ck.good F.2.2.2.2.2.1 C.1 hP b (lay_get hs) h1 k h2 (F.2.2.2.2.2.2 _ (gd h3 rfl)) (fun _ z => z) ?_ hc (h p l e s m args below meth c H locs ls ad cy D A F C hP hD hS hl)
  rw [fldV_get, hk]
  simp
theorem wp_getR {idx ci k b r : Nat} {fs : List (Option Nat)} (hc : decode M.2.1 pc = .ok (.getfield idx, 3)) (hf : FL M.1.cls idx ci k) (hs : sh[b]? = some (.inr (ci, fs))) (hk : fs[k]? = some (some r)) (h : Wp sh M d (pc + 3) lv (.ref r :: st) mem Q) : Wp sh M d pc lv (.ref b :: st) mem Q := by
  intro p l e s m args below meth c H locs ls ad cy D A F C hP hD hS hl
  obtain ⟨⟨Cn, T, N⟩, h1, h2, h3⟩ := hf
  have ck := vwCl_ok _ (List.mem_of_getElem? h1)
  refine va_get (D := D) (ci := ci) (v := .ref (ad r)) (C := Cn) (T := T) (N := N) F.1 F.2.1 F.2.2.2.2.2.2 ck.good F.2.2.2.2.2.1 C.1 hP b (lay_get hs) h1 k h2 (F.2.2.2.2.2.2 _ (gd h3 rfl)) (fun _ z => z) ?_ hc (h p l e s m args below meth c H locs ls ad cy D A F C hP hD hS hl)
  rw [fldV_get, hk]
  rfl
theorem wp_put {idx ci k b : Nat} {x : Int32} {ty : FieldType} {fs : List (Option Nat)} (hc : decode M.2.1 pc = .ok (.putfield idx, 3)) (hf : FP M.1.cls idx ci k ty) (hs : sh[b]? = some (.inr (ci, fs))) (hk : fs[k]? = some none) (hn : narrow ty (.int x) = .int x) (hfit : fits ty (.int x) = true) (h : Wp sh M d (pc + 3) lv st (up2 mem b k x) Q) : Wp sh M d pc lv (.int x :: .ref b :: st) mem Q := by
  intro p l e s m args below meth c H locs ls ad cy D A F C hP hD hS hl
  obtain ⟨⟨Cn, T, N⟩, h1, h2, h3, h4, h5⟩ := hf
  have ck := vwCl_ok _ (List.mem_of_getElem? h1)
  obtain ⟨-, ⟨ty0, c2⟩, c3⟩ := id ck
  have ee : (lay cy ad mem sh).set b (ad b, .inr (ci, (fldV ad (mem b) 0 fs).set k (.int x))) = lay cy ad (up2 mem b k x) sh := by
    rw [fldV_set ad x fs (mem b) 0 k hk, Nat.zero_add]
    exact lay_set hs (upd (mem b) k x)
  have hlen : k < (fldV ad (mem b) 0 fs).length := by
    have : (fldV ad (mem b) 0 fs)[k]? = some (.int (mem b (0 + k))) := by rw [fldV_get, hk]; rfl
    exact (List.getElem?_eq_some_iff.mp this).1
  refine va_put (D := D) (ci := ci) (v := .int x) (ty := ty) (C := Cn) (T := T) (N := N) F.1 F.2.1 F.2.2.2.2.2.2 ck.good ty0 c2 c3 F.2.2.2.2.2.1 C.1 hP hD hS b (lay_get hs) h1 k h2 (F.2.2.2.2.2.2 _ (gd h3 rfl)) (fun _ z => z) h4 h5 hn hfit hlen hc (fun H1 locs1 hP1 hD1 hS1 => ?_)
  rw [show (lay cy ad mem sh).set b (ad b, Sum.inr (ci, (fldV ad (mem b) 0 fs).set k (.int x))) = lay cy ad (up2 mem b k x) sh from ee] at hP1 hD1
  exact h p l e s m args below meth c H1 locs1 ls ad cy D A F C hP1 hD1 hS1 hl
theorem wp_putI {idx ci k b : Nat} {x : Int32} {fs : List (Option Nat)} (hc : decode M.2.1 pc = .ok (.putfield idx, 3)) (hf : FP M.1.cls idx ci k .int) (hs : sh[b]? = some (.inr (ci, fs))) (hk : fs[k]? = some none) (h : Wp sh M d (pc + 3) lv st (up2 mem b k x) Q) : Wp sh M d pc lv (.int x :: .ref b :: st) mem Q := wp_put hc hf hs hk rfl rfl h
theorem wp_putZ {idx ci k b : Nat} {x : Int32} {fs : List (Option Nat)} (hc : decode M.2.1 pc = .ok (.putfield idx, 3)) (hf : FP M.1.cls idx ci k .boolean) (hs : sh[b]? = some (.inr (ci, fs))) (hk : fs[k]? = some none) (hx : x = 0 ∨ x = 1) (h : Wp sh M d (pc + 3) lv st (up2 mem b k x) Q) : Wp sh M d pc lv (.int x :: .ref b :: st) mem Q := by
  refine wp_put hc hf hs hk ?_ ?_ h
  · rcases hx with rfl | rfl <;> rfl
  · rcases hx with rfl | rfl <;> rfl
theorem wp_alen {b t n : Nat} (v : Int32) (hc : decode M.2.1 pc = .ok (.arraylength, 1)) (hs : sh[b]? = some (.inl (t, n))) (ht : t < 3) (hv : Int32.ofNat n = v) (h : Wp sh M d (pc + 1) lv (.int v :: st) mem Q) : Wp sh M d pc lv (.ref b :: st) mem Q := by
  intro p l e s m args below meth c H locs ls ad cy D A F C hP hD hS hl
  refine va_alen (ty := tyN t) (x := (n, .inl (mem b))) F.1 F.2.1 C.1 hP b t (lay_get hs) ?_ hv hc (h p l e s m args below meth c H locs ls ad cy D A F C hP hD hS hl)
  rcases (show t = 0 ∨ t = 1 ∨ t = 2 by omega) with rfl | rfl | rfl <;> rfl
theorem wp_iald {b n : Nat} {i : Int32} (hc : decode M.2.1 pc = .ok (.iaload, 1)) (hs : sh[b]? = some (.inl (0, n))) (hi : vp_in i n) (h : Wp sh M d (pc + 1) lv (.int (mem b i.toNatClampNeg) :: st) mem Q) : Wp sh M d pc lv (.int i :: .ref b :: st) mem Q := by
  intro p l e s m args below meth c H locs ls ad cy D A F C hP hD hS hl
  exact va_iald (cA := cy 0) (n := n) (f := mem b) F.1 F.2.1 C.1 hP b 0 (lay_get hs) rfl hi hc (h p l e s m args below meth c H locs ls ad cy D A F C hP hD hS hl)
theorem wp_bald {b n : Nat} {i : Int32} (hc : decode M.2.1 pc = .ok (.baload, 1)) (hs : sh[b]? = some (.inl (1, n))) (hi : vp_in i n) (h : Wp sh M d (pc + 1) lv (.int (mem b i.toNatClampNeg) :: st) mem Q) : Wp sh M d pc lv (.int i :: .ref b :: st) mem Q := by
  intro p l e s m args below meth c H locs ls ad cy D A F C hP hD hS hl
  exact va_bald (cA := cy 1) (n := n) (f := mem b) F.1 F.2.1 C.1 hP b 1 (lay_get hs) rfl hi hc (h p l e s m args below meth c H locs ls ad cy D A F C hP hD hS hl)
theorem wp_zald {b n : Nat} {i : Int32} (hc : decode M.2.1 pc = .ok (.baload, 1)) (hs : sh[b]? = some (.inl (2, n))) (hi : vp_in i n) (h : Wp sh M d (pc + 1) lv (.int (mem b i.toNatClampNeg) :: st) mem Q) : Wp sh M d pc lv (.int i :: .ref b :: st) mem Q := by
  intro p l e s m args below meth c H locs ls ad cy D A F C hP hD hS hl
  exact va_zald (cA := cy 2) (n := n) (f := mem b) F.1 F.2.1 C.1 hP b 2 (lay_get hs) rfl hi hc (h p l e s m args below meth c H locs ls ad cy D A F C hP hD hS hl)
theorem wp_iast {b n : Nat} {i x : Int32} (hc : decode M.2.1 pc = .ok (.iastore, 1)) (hs : sh[b]? = some (.inl (0, n))) (hi : vp_in i n) (h : Wp sh M d (pc + 1) lv st (up2 mem b i.toNatClampNeg x) Q) : Wp sh M d pc lv (.int x :: .int i :: .ref b :: st) mem Q := by
  intro p l e s m args below meth c H locs ls ad cy D A F C hP hD hS hl
  refine va_iast (cA := cy 0) (n := n) (f := mem b) F.1 F.2.1 C.1 hP hD hS b 0 (lay_get hs) rfl hi hc (fun H1 locs1 hP1 hD1 hS1 => ?_)
  rw [show (lay cy ad mem sh).set b (ad b, Sum.inl (cy 0, n, Sum.inl (upd (mem b) i.toNatClampNeg x))) = lay cy ad (up2 mem b i.toNatClampNeg x) sh from lay_set hs _] at hP1 hD1
  exact h p l e s m args below meth c H1 locs1 ls ad cy D A F C hP1 hD1 hS1 hl
theorem wp_bast {b n : Nat} {i x : Int32} (hc : decode M.2.1 pc = .ok (.bastore, 1)) (hs : sh[b]? = some (.inl (1, n))) (hi : vp_in i n) (h : Wp sh M d (pc + 1) lv st (up2 mem b i.toNatClampNeg (vp_nar .byte x)) Q) : Wp sh M d pc lv (.int x :: .int i :: .ref b :: st) mem Q := by
  intro p l e s m args below meth c H locs ls ad cy D A F C hP hD hS hl
  refine va_bast (cA := cy 1) (n := n) (f := mem b) F.1 F.2.1 C.1 hP hD hS b 1 (lay_get hs) rfl hi hc (fun H1 locs1 hP1 hD1 hS1 => ?_)
  rw [show (lay cy ad mem sh).set b (ad b, Sum.inl (cy 1, n, Sum.inl (upd (mem b) i.toNatClampNeg (vp_nar .byte x)))) = lay cy ad (up2 mem b i.toNatClampNeg (vp_nar .byte x)) sh from lay_set hs _] at hP1 hD1
  exact h p l e s m args below meth c H1 locs1 ls ad cy D A F C hP1 hD1 hS1 hl
theorem wp_zast {b n : Nat} {i x : Int32} (hc : decode M.2.1 pc = .ok (.bastore, 1)) (hs : sh[b]? = some (.inl (2, n))) (hi : vp_in i n) (h : Wp sh M d (pc + 1) lv st (up2 mem b i.toNatClampNeg (vp_nar .boolean x)) Q) : Wp sh M d pc lv (.int x :: .int i :: .ref b :: st) mem Q := by
  intro p l e s m args below meth c H locs ls ad cy D A F C hP hD hS hl
  refine va_zast (cA := cy 2) (n := n) (f := mem b) F.1 F.2.1 C.1 hP hD hS b 2 (lay_get hs) rfl hi hc (fun H1 locs1 hP1 hD1 hS1 => ?_)
  rw [show (lay cy ad mem sh).set b (ad b, Sum.inl (cy 2, n, Sum.inl (upd (mem b) i.toNatClampNeg (vp_nar .boolean x)))) = lay cy ad (up2 mem b i.toNatClampNeg (vp_nar .boolean x)) sh from lay_set hs _] at hP1 hD1
  exact h p l e s m args below meth c H1 locs1 ls ad cy D A F C hP1 hD1 hS1 hl
theorem wp_iret {v : Int32} (hc : decode M.2.1 pc = .ok (.ireturn, 1)) (hr : M.2.2.2 = some .int) (h : Q (some (.int v)) mem) : Wp sh M d pc lv [.int v] mem Q := by
  intro p l e s m args below meth c H locs ls ad cy D A F C hP hD hS hl
  have hlocks := F.2.2.2.1
  exact W.iret (v := v) F.1 F.2.1 (F.2.2.1.trans hr) (fun t ht hW => ⟨some (.int v), mem, rfl, h, by rw [ht]; exact hP, hD, hS.F ht⟩) hS.2.2 hc
theorem wp_zret {v : Int32} (hc : decode M.2.1 pc = .ok (.ireturn, 1)) (hr : M.2.2.2 = some .boolean) (hv : v = 0 ∨ v = 1) (h : Q (some (.int v)) mem) : Wp sh M d pc lv [.int v] mem Q := by
  intro p l e s m args below meth c H locs ls ad cy D A F C hP hD hS hl
  have hlocks := F.2.2.2.1
  exact W.zret (v := v) F.1 F.2.1 (F.2.2.1.trans hr) (by rcases hv with rfl | rfl <;> rfl) (fun t ht hW => ⟨some (.int v), mem, rfl, h, by rw [ht]; exact hP, hD, hS.F ht⟩) hS.2.2 hc
theorem wp_lret {v : Int64} (hc : decode M.2.1 pc = .ok (.lreturn, 1)) (hr : M.2.2.2 = some .long) (h : Q (some (.long v)) mem) : Wp sh M d pc lv [.long v] mem Q := by
  intro p l e s m args below meth c H locs ls ad cy D A F C hP hD hS hl
  have hlocks := F.2.2.2.1
  exact W.lret (v := v) F.1 F.2.1 (F.2.2.1.trans hr) (fun t ht hW => ⟨some (.long v), mem, rfl, h, by rw [ht]; exact hP, hD, hS.F ht⟩) hS.2.2 hc
theorem wp_vret (hc : decode M.2.1 pc = .ok (.return_, 1)) (hr : M.2.2.2 = none) (h : Q none mem) : Wp sh M d pc lv [] mem Q := by
  intro p l e s m args below meth c H locs ls ad cy D A F C hP hD hS hl
  have hlocks := F.2.2.2.1
  exact W.vret F.1 F.2.1 (F.2.2.1.trans hr) (fun t ht hW => ⟨none, mem, rfl, h, by rw [ht]; exact hP, hD, hS.F ht⟩) hS.2.2 hc
theorem wp_tret {v : Int32} {ty : FieldType} (hc : decode M.2.1 pc = .ok (.ireturn, 1)) (hr : M.2.2.2 = some ty) (hv : narrow ty (.int v) = .int v) (h : Q (some (.int v)) mem) : Wp sh M d pc lv [.int v] mem Q := by
  intro p l e s m args below meth c H locs ls ad cy D A F C hP hD hS hl
  have hlocks := F.2.2.2.1
  exact W.zret (v := v) F.1 F.2.1 (F.2.2.1.trans hr) hv (fun t ht hW => ⟨some (.int v), mem, rfl, h, by rw [ht]; exact hP, hD, hS.F ht⟩) hS.2.2 hc
theorem wp_i2c {x : Int32} (hc : decode M.2.1 pc = .ok (.i2c, 1)) (h : Wp sh M d (pc + 1) lv (.int (x.toUInt32 % 65536).toInt32 :: st) mem Q) : Wp sh M d pc lv (.int x :: st) mem Q := by
  intro p l e s m args below meth c H locs ls ad cy D A F C hP hD hS hl
  exact lv_i2c F.1 F.2.1 hc rfl (h p l e s m args below meth c H locs ls ad cy D A F C hP hD hS hl)
theorem wp_gsC {idx : Nat} (hc : decode M.2.1 pc = .ok (.getstatic idx, 3)) (hk : Cond.fieldLink M.1.cls idx "java/lang/String" "COMPACT_STRINGS" "Z" ∈ lw_tbl) (h : Wp sh M d (pc + 3) lv (.int 1 :: st) mem Q) : Wp sh M d pc lv st mem Q := by
  intro p l e s m args below meth c H locs ls ad cy D A F C hP hD hS hl
  exact va_gets F.1 F.2.1 C.2.1.2.2.1 hS F.2.2.2.2.2.1 (F.2.2.2.2.2.2 _ (gd hk rfl)) (fun _ z => z) hc (h p l e s m args below meth c H locs ls ad cy D A F C hP hD hS hl)
theorem wp_gsF {idx : Nat} (hc : decode M.2.1 pc = .ok (.getstatic idx, 3)) (hk : Cond.fieldLink M.1.cls idx "jdk/internal/util/Preconditions" "SIOOBE_FORMATTER" "Ljava/util/function/BiFunction;" ∈ lw_tbl) (h1 : Wp sh M d (pc + 3) lv (.null :: st) mem Q) (h2 : Wp sh M d (pc + 3) lv (.ref 3000 :: st) mem Q) : Wp sh M d pc lv st mem Q := by
  intro p l e s m args below meth c H locs ls ad cy D A F C hP hD hS hl
  rcases C.2.1.2.2.2 with z | z
  · exact va_gets F.1 F.2.1 z hS F.2.2.2.2.2.1 (F.2.2.2.2.2.2 _ (gd hk rfl)) (fun _ z => z) hc (h1 p l e s m args below meth c H locs ls ad cy D A F C hP hD hS hl)
  · exact va_gets F.1 F.2.1 z hS F.2.2.2.2.2.1 (F.2.2.2.2.2.2 _ (gd hk rfl)) (fun _ z => z) hc (h2 p l e s m args below meth c H locs ls ad cy D A F C hP hD hS hl)
theorem wp_sgetV {idx i : Nat} (hi : i < 11) (hc : decode M.2.1 pc = .ok (.getfield idx, 3)) (hk : Cond.fieldLink M.1.cls idx "java/lang/String" "value" "[B" ∈ lw_tbl) (h : Wp sh M d (pc + 3) lv (.ref (2000 + i) :: st) mem Q) : Wp sh M d pc lv (.ref (1000 + i) :: st) mem Q := by
  intro p l e s m args below meth c H locs ls ad cy D A F C hP hD hS hl
  exact vk_getf F.1 F.2.1 (C.2.1.1.1 i hi).2.2.1 hS F.2.2.2.2.2.1 (F.2.2.2.2.2.2 _ (gd hk rfl)) (fun _ z => z) hc (h p l e s m args below meth c H locs ls ad cy D A F C hP hD hS hl)
theorem wp_sgetC {idx i : Nat} (hi : i < 11) (hc : decode M.2.1 pc = .ok (.getfield idx, 3)) (hk : Cond.fieldLink M.1.cls idx "java/lang/String" "coder" "B" ∈ lw_tbl) (h : Wp sh M d (pc + 3) lv (.int 0 :: st) mem Q) : Wp sh M d pc lv (.ref (1000 + i) :: st) mem Q := by
  intro p l e s m args below meth c H locs ls ad cy D A F C hP hD hS hl
  exact vk_getf F.1 F.2.1 (C.2.1.1.1 i hi).2.1 hS F.2.2.2.2.2.1 (F.2.2.2.2.2.2 _ (gd hk rfl)) (fun _ z => z) hc (h p l e s m args below meth c H locs ls ad cy D A F C hP hD hS hl)
theorem wp_slen {i : Nat} (hi : i < 11) (hc : decode M.2.1 pc = .ok (.arraylength, 1)) (h : Wp sh M d (pc + 1) lv (.int (nI (strLen.getD i 0)) :: st) mem Q) : Wp sh M d pc lv (.ref (2000 + i) :: st) mem Q := by
  intro p l e s m args below meth c H locs ls ad cy D A F C hP hD hS hl
  exact va_tlen F.1 F.2.1 (C.2.1.1.1 i hi).2.2.2 hS rfl hc (h p l e s m args below meth c H locs ls ad cy D A F C hP hD hS hl)
theorem wp_sbald {i : Nat} {k : Int32} (hi : i < 11) (hc : decode M.2.1 pc = .ok (.baload, 1)) (hk : vp_in k (strLen.getD i 0)) (h : Wp sh M d (pc + 1) lv (.int ((strByt.getD i []).getD k.toNatClampNeg 0) :: st) mem Q) : Wp sh M d pc lv (.int k :: .ref (2000 + i) :: st) mem Q := by
  intro p l e s m args below meth c H locs ls ad cy D A F C hP hD hS hl
  exact va_tb F.1 F.2.1 (C.2.1.1.1 i hi).2.2.2 hS hk rfl hc (h p l e s m args below meth c H locs ls ad cy D A F C hP hD hS hl)
theorem wp_ldcSw {idx : Nat} (tx : String) (q : Nat) (hc : decode M.2.1 pc = .ok (.ldc_w idx, 3)) (hk : (M.1.cls, idx, tx, q) ∈ strTab) (h : Wp sh M d (pc + 3) lv (.ref (1000 + q) :: st) mem Q) : Wp sh M d pc lv st mem Q := by
  intro p l e s m args below meth c H locs ls ad cy D A F C hP hD hS hl T hT X
  obtain ⟨t, a1, b1⟩ := h p l e s m args below meth c H locs ls ad cy D A F C hP hD hS hl T hT X
  refine ⟨t, ?_, b1⟩
  have hZ := C.2.1.2.1 _ hk
  obtain ⟨k, cf, i, a', hk0, hcf, hcp, -, hr, hev'⟩ := Cond.stringRef_spec F.2.2.2.2.2.1 hZ.1
  cases hZ.2.symm.trans hev'
  obtain ⟨k', hk', he⟩ := X.warmed.alike.2.2 _ _ hk0
  have hr' : k'.resolved[idx]? = some (some (.string (ad (1000 + q)))) := by
    rcases X.warmed.entry hk0 hk' idx with h | ⟨h, -⟩
    · rw [h]; exact hr
    · rw [hr] at h; cases h
  have hdg : decode c.code pc = .ok (.ldc_w idx, 3) := by rw [F.2.1]; exact hc
  jvm_step X.here [F.1, hdg, ldc_w.wp_string (e := e) (s := T) (f := F0 m pc ls (st.map (rl ad))) X.here.top hk' (by rw [he]; exact hcf) hcp hr']
  exact a1
theorem wp_weak {lv' : Lv} (hw : ∀ (i : Nat) (v : Value), lv'[i]? = some (some v) → lv[i]? = some (some v)) (h : Wp sh M d pc lv' st mem Q) : Wp sh M d pc lv st mem Q := by
  intro p l e s m args below meth c H locs ls ad cy D A F C hP hD hS hl
  exact h p l e s m args below meth c H locs ls ad cy D A F C hP hD hS (LH.of hl (fun i v hv => prR_in (hw i v hv)))
def lvMask : List Bool → Lv → Lv
  | true :: b, v :: r => v :: lvMask b r
  | false :: b, _ :: r => none :: lvMask b r
  | _, r => r
theorem lvMask_get {v : Value} : ∀ (b : List Bool) (lv : Lv) (i : Nat), (lvMask b lv)[i]? = some (some v) → lv[i]? = some (some v)
  | true :: b, w :: r, 0, h => h
  | false :: b, w :: r, 0, h => by simp [lvMask] at h
  | true :: b, w :: r, i + 1, h => by simpa using lvMask_get b r i (by simpa [lvMask] using h)
  | false :: b, w :: r, i + 1, h => by simpa using lvMask_get b r i (by simpa [lvMask] using h)
  | [], r, i, h => by simpa [lvMask] using h
  | true :: b, [], i, h => by simp [lvMask] at h
  | false :: b, [], i, h => by simp [lvMask] at h
/-- locals that are dead are forgotten -/
theorem wp_mask (b : List Bool) (h : Wp sh M d pc (lvMask b lv) st mem Q) : Wp sh M d pc lv st mem Q := wp_weak (fun i v => lvMask_get b lv i) h
end WPR
