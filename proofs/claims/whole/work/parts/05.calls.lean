/-! calls: a callee's contract is used at a call, a body's walk gives the contract -/
theorem tbl_in (M : PMe) (n : Nat) (h : okM M n) : GoodIn lw_gd (.code M.1 M.2.1 M.2.2.1 M.2.2.2 :: lw_gd) := by
  intro w hw
  have hm : w ∈ lw_gd := by
    rcases List.mem_cons.mp hw with rfl | hw
    · exact gd h.2.1 rfl
    · exact hw
  exact ⟨hm, good_of_word (List.mem_filter.mp hm).2⟩
theorem Cx.warm {ad : Nat → Nat} {cy : Nat → ClassId} {D : va_G} {A : Nat → Prop} {s U : State} (h : Cx ad cy D A s) (hW : s.WarmedH U.vm) (hk : ∀ a : Nat, a < s.heap.size → ¬ A a → U.heap[a]? = s.heap[a]?) : Cx ad cy D A U :=
  ⟨va_K.moved hW.alike h.1, h.2.1.to (fun own k tx a hz => hz.warm hW) hW.alike hk, fun own idx y host hm => va_Nw.warmM hW (h.2.2 own idx y host hm)⟩
theorem Cx.blind {ad : Nat → Nat} {cy : Nat → ClassId} {D : va_G} {A : Nat → Prop} {U : State} (h : Cx ad cy D A U) (g : JFrame) (mk : MethodId) (a : Array Value) : Cx ad cy D A (U.calling g mk a) :=
  ⟨va_K.moved (u := U) (U := U.calling g mk a) (Vm.Alike.refl U.vm) h.1, h.2.1.to (fun own k tx a hz => hz.same rfl) (Vm.Alike.refl U.vm) (fun _ _ _ => rfl), fun own idx y host hm => va_Nw.same rfl rfl (h.2.2 own idx y host hm)⟩
theorem lv_args_rl (ad : Nat → Nat) : ∀ (vs : List Value) (i : Nat), lv_args i (vs.map (rl ad)) = (lv_args i vs).map (fun q => (q.1, rl ad q.2))
  | [], i => rfl
  | v :: vs, i => by simp only [List.map_cons, lv_args, rl_cat]; rw [lv_args_rl ad vs]
theorem lg_sl_rl (ad : Nat → Nat) : ∀ (vs : List Value), (lg_sl (vs.map (rl ad))).length = (lg_sl vs).length
  | [] => rfl
  | v :: vs => by
    have ih := lg_sl_rl ad vs
    simp only [lg_sl, List.map_cons, List.flatMap_cons, List.length_append, rl_cat] at ih ⊢
    rw [ih]
    split <;> rfl
section WPC
variable {sh : List Sh} {M M' : PMe} {d pc n : Nat} {lv : Lv} {st : List Value} {mem : Mem} {Q K : Pq}
theorem cll_of {as : List Value} (lv : Lv) (hM : okM M n) (hl : (lg_sl as).length ≤ M.2.2.1) (hp : prP 0 lv = lv_args 0 as) (h : Wp sh M d 0 lv [] mem Q) : Cll sh M d as mem Q := by
  intro l ad cy D A
  refine Met.ofW (cc := M.2.1) (maxL := M.2.2.1) (ret := M.2.2.2) hM.1 rfl ?_
  intro p e s m args0 below meth c s₁ B hml hv
  obtain ⟨rfl, hP, hC, hD⟩ := hv
  have hts := atoms_spec (ws := .code M.1 M.2.1 M.2.2.1 M.2.2.2 :: lw_gd) B.pre
  have hl2 := lv_entry (as.map (rl ad)) (n := M.2.2.1) (by rw [lg_sl_rl]; exact hl)
  rw [lg_entry_eq]
  refine h p l e s m _ below meth c s.heap [] _ ad cy D A ⟨B.exec, B.bytes, B.returns, B.notSynchronized, hml, findClass_of_methodNamed B.named, fun w hw => hts w (List.mem_cons_of_mem _ hw)⟩ hC hP hD va_S.rf ?_
  show lv_has _ _ (prR ad lv)
  rw [prR, hp, ← lv_args_rl]
  exact hl2
theorem Cll.mono {as : List Value} (h : Cll sh M d as mem K) (hq : ∀ r m', K r m' → Q r m') : Cll sh M d as mem Q := by
  intro l ad cy D A p e h1 h2 h3 s m args below h4 h5 h6 h7
  obtain ⟨t, o, a1, a2, a3, ⟨r, m', c1, c2, c3⟩, a5⟩ := h l ad cy D A p e h1 h2 h3 s m args below h4 h5 h6 h7
  exact ⟨t, o, a1, a2, a3, ⟨r, m', c1, hq _ _ c2, c3⟩, a5⟩
theorem wp_back {p : Program} {l : Launch} {e : Env} {s : State} {m : MethodId} {args : Array Value} {below : List Frame} {meth : Method} {c : Code} {H : Heap} {locs : List Loc} {ls : Array Slot} {ad : Nat → Nat} {cy : Nat → ClassId} {D : va_G} {A : Nat → Prop} {a0 : Array Value} {st0 : List Value}
    (F : Fx M p s m args meth c) (C : Cx ad cy D A s) (hS : va_S A s.heap H locs) (hl : LH ad ls M.2.2.1 lv)
    (run : va_Run p l e (rmD (d + 1)) s m args below meth c H locs 0 0 0 0 (F0 m pc ls st0) (st.map (rl ad)) (QcP sh ad cy D A K a0) A)
    (k : ∀ r m', K r m' → Wp sh M (d + 1) (pc + 3) lv (r.toList ++ st) m' Q) :
    W p l e (rmD (d + 1)) s m args below meth c H locs 0 0 (MQ below (QcP sh ad cy D A Q) args s 0 0 A) (F0 m pc ls st0) := by
  intro T hT X
  obtain ⟨v, st₀, t, T', L, h0, X', hL, e1, e2, ⟨r, m', hv, hK, hP', hD', hF⟩, stp⟩ := run T hT X
  have hv' : v = r.map (rl ad) := by injection hv
  subst hv'
  have hS' : va_S A s.heap T'.heap (locs ++ L) := by
    rw [e1]
    obtain ⟨f1, f2⟩ := hF
    rw [h0] at f1 f2
    refine ⟨Nat.le_trans hS.1 f1, fun q h1 h2 => ?_, fun q hq => ?_⟩
    · rw [f2 q (Nat.lt_of_lt_of_le h1 hS.1) h2]
      exact hS.2.1 q h1 h2
    · rcases List.mem_append.mp hq with h | h
      · exact hS.2.2 q h
      · exact hL q h
  have hk := k r m' hK p l e s m args below meth c T'.heap (locs ++ L) ls ad cy D A F C (by rw [e1]; exact hP') hD' hS' hl T' rfl X'
  obtain ⟨t2, a1, b1⟩ := hk
  refine ⟨t2, stp t2 ?_, b1⟩
  have e3 : (r.toList ++ st).map (rl ad) = (r.map (rl ad)).toList ++ st.map (rl ad) := by cases r <;> rfl
  rw [e3] at a1
  exact a1
theorem rm_ok (hM : okM M' n) : (rmD d).frames + 1 ≤ (rmD (d + 1)).frames ∧ 8 + (M'.2.2.1 + 11) + (rmD d).locals ≤ (rmD (d + 1)).locals := by
  have := hM.2.2.2.2
  simp only [rmD]
  omega
/-- a virtual call on an object of the world -/
theorem wp_callV {idx ci b : Nat} {fs : List (Option Nat)} {st0 : List Value} (As : List Value) (st : List Value) (hc : decode M.2.1 pc = .ok (.invokevirtual idx, 3)) (hk : MV M.1.cls idx M' n) (hs : sh[b]? = some (.inr (ci, fs))) (hci : (vwCl[ci]?).map (fun q => q.1) = some M'.1.cls) (hn : As.length = n) (hst : st0 = As.reverse ++ .ref b :: st) (hw : (st.map fun v => v.category).sum ≤ 8)
    (h : Cll sh M' d (.ref b :: As) mem K) (k : ∀ r m', K r m' → Wp sh M (d + 1) (pc + 3) lv (r.toList ++ st) m' Q) : Wp sh M (d + 1) pc lv st0 mem Q := by
  intro p l e s m args below meth c H locs ls ad cy D A F C hP hD hS hl
  subst hst
  obtain ⟨hM, hk1, hk2, hk3⟩ := hk
  have ht := F.2.2.2.2.2.2
  obtain ⟨q, hq1, hq2⟩ := Option.map_eq_some_iff.mp hci
  refine wp_back F C hS hl (va_runV (C := M'.1.cls) (b := ad b) (As := As.map (rl ad)) (n := n) (bytes := M'.2.1) (maxL := M'.2.2.1) (ret := M'.2.2.2) ⟨F.1, F.2.1, F.2.2.2.2.1, F.2.2.2.2.2.1, ht⟩ (h l ad cy D A) ⟨callB_of n ht (tbl_in M' n hM) rfl rfl rfl (ht _ (gd hM.2.2.1 rfl)) (ht _ (gd hk1 rfl)) hM.2.2.2.1 (rm_ok hM), ht _ (gd hk2 rfl), ht _ (gd hk3 rfl)⟩ ⟨?_, ?_, ?_⟩ rfl (by rw [List.length_map]; exact hn) hl.1 ?_ (lv_room (by rw [rl_sum]; exact hw)) hc ⟨Nat.le_refl _, Nat.le_refl _⟩) k
  · rintro a U g mk ⟨z0, z1, z2, z3⟩
    exact ⟨z0, z1, z2.blind g mk a, z3⟩
  · have := va_recv C.1 hP (ci := ci) (q := q) (q0 := b) hq1 (lay_get hs)
    rw [hq2] at this
    exact this
  · intro U hU hW
    refine ⟨rfl, by rw [hU]; exact hP, C.warm hW (fun a h1 h2 => by rw [hU]; exact hS.2.1 a h1 h2), hD⟩
  · show (As.reverse ++ .ref b :: st).map (rl ad) = _
    rw [List.map_append, List.map_reverse]
    rfl
/-- a virtual call on a text constant -/
theorem wp_callT {idx i : Nat} {st0 : List Value} (As : List Value) (st : List Value) (hi : i < 11) (hc : decode M.2.1 pc = .ok (.invokevirtual idx, 3)) (hk : MV M.1.cls idx M' n) (hci : M'.1.cls = "java/lang/String") (hn : As.length = n) (hst : st0 = As.reverse ++ .ref (1000 + i) :: st) (hw : (st.map fun v => v.category).sum ≤ 8)
    (h : Cll sh M' d (.ref (1000 + i) :: As) mem K) (k : ∀ r m', K r m' → Wp sh M (d + 1) (pc + 3) lv (r.toList ++ st) m' Q) : Wp sh M (d + 1) pc lv st0 mem Q := by
  intro p l e s m args below meth c H locs ls ad cy D A F C hP hD hS hl
  subst hst
  obtain ⟨hM, hk1, hk2, hk3⟩ := hk
  have ht := F.2.2.2.2.2.2
  refine wp_back F C hS hl (va_runV (C := M'.1.cls) (b := ad (1000 + i)) (As := As.map (rl ad)) (n := n) (bytes := M'.2.1) (maxL := M'.2.2.1) (ret := M'.2.2.2) ⟨F.1, F.2.1, F.2.2.2.2.1, F.2.2.2.2.2.1, ht⟩ (h l ad cy D A) ⟨callB_of n ht (tbl_in M' n hM) rfl rfl rfl (ht _ (gd hM.2.2.1 rfl)) (ht _ (gd hk1 rfl)) hM.2.2.2.1 (rm_ok hM), ht _ (gd hk2 rfl), ht _ (gd hk3 rfl)⟩ ⟨?_, ?_, ?_⟩ rfl (by rw [List.length_map]; exact hn) hl.1 ?_ (lv_room (by rw [rl_sum]; exact hw)) hc ⟨Nat.le_refl _, Nat.le_refl _⟩) k
  · rintro a U g mk ⟨z0, z1, z2, z3⟩
    exact ⟨z0, z1, z2.blind g mk a, z3⟩
  · have := vk_recv C.2.1.1 hi hS
    rw [hci]
    exact this
  · intro U hU hW
    refine ⟨rfl, by rw [hU]; exact hP, C.warm hW (fun a h1 h2 => by rw [hU]; exact hS.2.1 a h1 h2), hD⟩
  · show (As.reverse ++ .ref (1000 + i) :: st).map (rl ad) = _
    rw [List.map_append, List.map_reverse]
    rfl
/-- a static call -/
theorem wp_callS {idx : Nat} {st0 : List Value} (As : List Value) (st : List Value) (hc : decode M.2.1 pc = .ok (.invokestatic idx, 3)) (hk : MS M.1.cls idx M' n) (hn : As.length = n) (hst : st0 = As.reverse ++ st) (hw : (st.map fun v => v.category).sum ≤ 8)
    (h : Cll sh M' d As mem K) (k : ∀ r m', K r m' → Wp sh M (d + 1) (pc + 3) lv (r.toList ++ st) m' Q) : Wp sh M (d + 1) pc lv st0 mem Q := by
  intro p l e s m args below meth c H locs ls ad cy D A F C hP hD hS hl
  subst hst
  obtain ⟨hM, hk1, hk2⟩ := hk
  have ht := F.2.2.2.2.2.2
  refine wp_back F C hS hl (va_runS (As := As.map (rl ad)) (n := n) (bytes := M'.2.1) (maxL := M'.2.2.1) (ret := M'.2.2.2) ⟨F.1, F.2.1, F.2.2.2.2.1, F.2.2.2.2.2.1, ht⟩ (h l ad cy D A) ⟨callB_of n ht (tbl_in M' n hM) rfl rfl rfl (ht _ (gd hM.2.2.1 rfl)) (ht _ (gd hk1 rfl)) hM.2.2.2.1 (rm_ok hM), ht _ (gd hk2 rfl)⟩ ⟨?_, ?_⟩ rfl (by rw [List.length_map]; exact hn) hl.1 ?_ (lv_room (by rw [rl_sum]; exact hw)) hc ⟨Nat.le_refl _, Nat.le_refl _⟩) k
  · rintro a U g mk ⟨z0, z1, z2, z3⟩
    exact ⟨z0, z1, z2.blind g mk a, z3⟩
  · intro U hU hW
    refine ⟨rfl, by rw [hU]; exact hP, C.warm hW (fun a h1 h2 => by rw [hU]; exact hS.2.1 a h1 h2), hD⟩
  · show (As.reverse ++ st).map (rl ad) = _
    rw [List.map_append, List.map_reverse]
/-- a static call of a nest mate's private method -/
theorem wp_callN {idx : Nat} {host : String} {st0 : List Value} (As : List Value) (st : List Value) (hc : decode M.2.1 pc = .ok (.invokestatic idx, 3)) (hk : MN M.1.cls idx M' host n) (hn : As.length = n) (hst : st0 = As.reverse ++ st) (hw : (st.map fun v => v.category).sum ≤ 8)
    (h : Cll sh M' d As mem K) (k : ∀ r m', K r m' → Wp sh M (d + 1) (pc + 3) lv (r.toList ++ st) m' Q) : Wp sh M (d + 1) pc lv st0 mem Q := by
  intro p l e s m args below meth c H locs ls ad cy D A F C hP hD hS hl
  subst hst
  obtain ⟨hM, hk1, hk2⟩ := hk
  have ht := F.2.2.2.2.2.2
  refine wp_back F C hS hl (va_runSN (host := host) (As := As.map (rl ad)) (n := n) (bytes := M'.2.1) (maxL := M'.2.2.1) (ret := M'.2.2.2) ⟨F.1, F.2.1, F.2.2.2.2.1, F.2.2.2.2.2.1, ht⟩ (h l ad cy D A) ⟨va_cnB n ht (tbl_in M' n hM) rfl rfl rfl (C.2.2 _ _ _ _ hk1) (ht _ (gd hM.2.2.1 rfl)) hM.2.2.2.1 (rm_ok hM), ht _ (gd hk2 rfl), trivial⟩ ⟨?_, ?_⟩ rfl (by rw [List.length_map]; exact hn) hl.1 ?_ (lv_room (by rw [rl_sum]; exact hw)) hc ⟨Nat.le_refl _, Nat.le_refl _⟩) k
  · rintro a U g mk ⟨z0, z1, z2, z3⟩
    exact ⟨z0, z1, z2.blind g mk a, z3⟩
  · intro U hU hW
    refine ⟨rfl, by rw [hU]; exact hP, C.warm hW (fun a h1 h2 => by rw [hU]; exact hS.2.1 a h1 h2), hD⟩
  · show (As.reverse ++ st).map (rl ad) = _
    rw [List.map_append, List.map_reverse]
theorem cll_n {as : List Value} {n' : Nat} (h : Cll sh M d as mem K) : Cll sh M d as mem K := h
end WPC
/-! answers by their kind -/
def CI (sh : List Sh) (M : PMe) (d : Nat) (as : List Value) (mem : Mem) (K : Int32 → Mem → Prop) : Prop := Cll sh M d as mem (fun r m' => ∃ x : Int32, r = some (.int x) ∧ K x m')
def CL (sh : List Sh) (M : PMe) (d : Nat) (as : List Value) (mem : Mem) (K : Int64 → Mem → Prop) : Prop := Cll sh M d as mem (fun r m' => ∃ x : Int64, r = some (.long x) ∧ K x m')
def CV (sh : List Sh) (M : PMe) (d : Nat) (as : List Value) (mem : Mem) (K : Mem → Prop) : Prop := Cll sh M d as mem (fun r m' => r = none ∧ K m')
abbrev QI (K : Int32 → Mem → Prop) : Pq := fun r m' => ∃ x : Int32, r = some (.int x) ∧ K x m'
abbrev QL (K : Int64 → Mem → Prop) : Pq := fun r m' => ∃ x : Int64, r = some (.long x) ∧ K x m'
abbrev QV (K : Mem → Prop) : Pq := fun r m' => r = none ∧ K m'
section WPK
variable {sh : List Sh} {M M' : PMe} {d pc n : Nat} {lv : Lv} {mem : Mem} {Q : Pq}
theorem CI.mono {as : List Value} {K K' : Int32 → Mem → Prop} (h : CI sh M d as mem K) (hq : ∀ x m', K x m' → K' x m') : CI sh M d as mem K' := Cll.mono h (fun r m' ⟨x, e, z⟩ => ⟨x, e, hq x m' z⟩)
theorem CL.mono {as : List Value} {K K' : Int64 → Mem → Prop} (h : CL sh M d as mem K) (hq : ∀ x m', K x m' → K' x m') : CL sh M d as mem K' := Cll.mono h (fun r m' ⟨x, e, z⟩ => ⟨x, e, hq x m' z⟩)
theorem CV.mono {as : List Value} {K K' : Mem → Prop} (h : CV sh M d as mem K) (hq : ∀ m', K m' → K' m') : CV sh M d as mem K' := Cll.mono h (fun r m' ⟨e, z⟩ => ⟨e, hq m' z⟩)
theorem wp_vI {idx ci b : Nat} {fs : List (Option Nat)} {st0 : List Value} {K : Int32 → Mem → Prop} (As st : List Value) (hc : decode M.2.1 pc = .ok (.invokevirtual idx, 3)) (hk : MV M.1.cls idx M' n) (hs : sh[b]? = some (.inr (ci, fs))) (hci : (vwCl[ci]?).map (fun q => q.1) = some M'.1.cls) (hn : As.length = n) (hst : st0 = As.reverse ++ .ref b :: st) (hw : (st.map fun v => v.category).sum ≤ 8)
    (h : CI sh M' d (.ref b :: As) mem K) (k : ∀ x m', K x m' → Wp sh M (d + 1) (pc + 3) lv (.int x :: st) m' Q) : Wp sh M (d + 1) pc lv st0 mem Q := wp_callV As st hc hk hs hci hn hst hw h (fun r m' ⟨x, e, z⟩ => by subst e; exact k x m' z)
theorem wp_tI {idx i : Nat} {st0 : List Value} {K : Int32 → Mem → Prop} (As st : List Value) (hi : i < 11) (hc : decode M.2.1 pc = .ok (.invokevirtual idx, 3)) (hk : MV M.1.cls idx M' n) (hci : M'.1.cls = "java/lang/String") (hn : As.length = n) (hst : st0 = As.reverse ++ .ref (1000 + i) :: st) (hw : (st.map fun v => v.category).sum ≤ 8)
    (h : CI sh M' d (.ref (1000 + i) :: As) mem K) (k : ∀ x m', K x m' → Wp sh M (d + 1) (pc + 3) lv (.int x :: st) m' Q) : Wp sh M (d + 1) pc lv st0 mem Q := wp_callT As st hi hc hk hci hn hst hw h (fun r m' ⟨x, e, z⟩ => by subst e; exact k x m' z)
theorem wp_vV {idx ci b : Nat} {fs : List (Option Nat)} {st0 : List Value} {K : Mem → Prop} (As st : List Value) (hc : decode M.2.1 pc = .ok (.invokevirtual idx, 3)) (hk : MV M.1.cls idx M' n) (hs : sh[b]? = some (.inr (ci, fs))) (hci : (vwCl[ci]?).map (fun q => q.1) = some M'.1.cls) (hn : As.length = n) (hst : st0 = As.reverse ++ .ref b :: st) (hw : (st.map fun v => v.category).sum ≤ 8)
    (h : CV sh M' d (.ref b :: As) mem K) (k : ∀ m', K m' → Wp sh M (d + 1) (pc + 3) lv st m' Q) : Wp sh M (d + 1) pc lv st0 mem Q := wp_callV As st hc hk hs hci hn hst hw h (fun r m' ⟨e, z⟩ => by subst e; exact k m' z)
theorem wp_sI {idx : Nat} {st0 : List Value} {K : Int32 → Mem → Prop} (As st : List Value) (hc : decode M.2.1 pc = .ok (.invokestatic idx, 3)) (hk : MS M.1.cls idx M' n) (hn : As.length = n) (hst : st0 = As.reverse ++ st) (hw : (st.map fun v => v.category).sum ≤ 8)
    (h : CI sh M' d As mem K) (k : ∀ x m', K x m' → Wp sh M (d + 1) (pc + 3) lv (.int x :: st) m' Q) : Wp sh M (d + 1) pc lv st0 mem Q := wp_callS As st hc hk hn hst hw h (fun r m' ⟨x, e, z⟩ => by subst e; exact k x m' z)
theorem wp_sL {idx : Nat} {st0 : List Value} {K : Int64 → Mem → Prop} (As st : List Value) (hc : decode M.2.1 pc = .ok (.invokestatic idx, 3)) (hk : MS M.1.cls idx M' n) (hn : As.length = n) (hst : st0 = As.reverse ++ st) (hw : (st.map fun v => v.category).sum ≤ 8)
    (h : CL sh M' d As mem K) (k : ∀ x m', K x m' → Wp sh M (d + 1) (pc + 3) lv (.long x :: st) m' Q) : Wp sh M (d + 1) pc lv st0 mem Q := wp_callS As st hc hk hn hst hw h (fun r m' ⟨x, e, z⟩ => by subst e; exact k x m' z)
theorem wp_sV {idx : Nat} {st0 : List Value} {K : Mem → Prop} (As st : List Value) (hc : decode M.2.1 pc = .ok (.invokestatic idx, 3)) (hk : MS M.1.cls idx M' n) (hn : As.length = n) (hst : st0 = As.reverse ++ st) (hw : (st.map fun v => v.category).sum ≤ 8)
    (h : CV sh M' d As mem K) (k : ∀ m', K m' → Wp sh M (d + 1) (pc + 3) lv st m' Q) : Wp sh M (d + 1) pc lv st0 mem Q := wp_callS As st hc hk hn hst hw h (fun r m' ⟨e, z⟩ => by subst e; exact k m' z)
theorem wp_nI {idx : Nat} {host : String} {st0 : List Value} {K : Int32 → Mem → Prop} (As st : List Value) (hc : decode M.2.1 pc = .ok (.invokestatic idx, 3)) (hk : MN M.1.cls idx M' host n) (hn : As.length = n) (hst : st0 = As.reverse ++ st) (hw : (st.map fun v => v.category).sum ≤ 8)
    (h : CI sh M' d As mem K) (k : ∀ x m', K x m' → Wp sh M (d + 1) (pc + 3) lv (.int x :: st) m' Q) : Wp sh M (d + 1) pc lv st0 mem Q := wp_callN As st hc hk hn hst hw h (fun r m' ⟨x, e, z⟩ => by subst e; exact k x m' z)
/-! Math.max, min -/
def MMx (own : String) (idx : Nat) : Prop := Cond.methodLink own idx Lib.Math.max.name ∈ lw_tbl ∧ Cond.static Lib.Math.max.name ∈ lw_tbl ∧ Cond.initialized "java/lang/Math" ∈ lw_tbl ∧ Cond.code Lib.Math.max.name Lib.Math.max.code 2 (some .int) ∈ lw_tbl
def MMn (own : String) (idx : Nat) : Prop := Cond.methodLink own idx Lib.Math.min.name ∈ lw_tbl ∧ Cond.static Lib.Math.min.name ∈ lw_tbl ∧ Cond.initialized "java/lang/Math" ∈ lw_tbl ∧ Cond.code Lib.Math.min.name Lib.Math.min.code 2 (some .int) ∈ lw_tbl
def MMl (own : String) (idx : Nat) : Prop := Cond.methodLink own idx Lib.MathLoose.min_long.x ∈ lw_tbl ∧ Cond.static Lib.MathLoose.min_long.x ∈ lw_tbl ∧ Cond.initialized "java/lang/Math" ∈ lw_tbl ∧ Cond.code Lib.MathLoose.min_long.x Lib.MathLoose.min_long.code 4 (some .long) ∈ lw_tbl
theorem wp_max {idx : Nat} {x y : Int32} {st : List Value} (hc : decode M.2.1 pc = .ok (.invokestatic idx, 3)) (hk : MMx M.1.cls idx) (hw : (st.map fun v => v.category).sum ≤ 8) (h : Wp sh M (d + 1) (pc + 3) lv (.int (if x < y then y else x) :: st) mem Q) : Wp sh M (d + 1) pc lv (.int y :: .int x :: st) mem Q := by
  intro p l e s m args below meth c H locs ls ad cy D A F C hP hD hS hl
  have ht := F.2.2.2.2.2.2
  exact va_mmax F.1 F.2.1 (F.2.2.2.2.1.trans hl.1.symm) F.2.2.2.2.2.1 (ht _ (gd hk.1 rfl)) (ht _ (gd hk.2.1 rfl)) (ht _ (gd hk.2.2.1 rfl)) (ht _ (gd hk.2.2.2 rfl)) (by simp only [rmD]; omega) (by rw [rl_sum]; simp only [rmD]; omega) (Nat.le_refl _) (Nat.le_refl _) hc (h p l e s m args below meth c H locs ls ad cy D A F C hP hD hS hl)
theorem wp_min {idx : Nat} {x y : Int32} {st : List Value} (hc : decode M.2.1 pc = .ok (.invokestatic idx, 3)) (hk : MMn M.1.cls idx) (hw : (st.map fun v => v.category).sum ≤ 8) (h : Wp sh M (d + 1) (pc + 3) lv (.int (if y < x then y else x) :: st) mem Q) : Wp sh M (d + 1) pc lv (.int y :: .int x :: st) mem Q := by
  intro p l e s m args below meth c H locs ls ad cy D A F C hP hD hS hl
  have ht := F.2.2.2.2.2.2
  exact va_mmin F.1 F.2.1 (F.2.2.2.2.1.trans hl.1.symm) F.2.2.2.2.2.1 (ht _ (gd hk.1 rfl)) (ht _ (gd hk.2.1 rfl)) (ht _ (gd hk.2.2.1 rfl)) (ht _ (gd hk.2.2.2 rfl)) (by simp only [rmD]; omega) (by rw [rl_sum]; simp only [rmD]; omega) (Nat.le_refl _) (Nat.le_refl _) hc (h p l e s m args below meth c H locs ls ad cy D A F C hP hD hS hl)
theorem wp_minL {idx : Nat} {x y : Int64} {st : List Value} (hc : decode M.2.1 pc = .ok (.invokestatic idx, 3)) (hk : MMl M.1.cls idx) (hw : (st.map fun v => v.category).sum ≤ 8) (h : Wp sh M (d + 1) (pc + 3) lv (.long (if y < x then y else x) :: st) mem Q) : Wp sh M (d + 1) pc lv (.long y :: .long x :: st) mem Q := by
  intro p l e s m args below meth c H locs ls ad cy D A F C hP hD hS hl
  have ht := F.2.2.2.2.2.2
  exact va_mmin_long F.1 F.2.1 (F.2.2.2.2.1.trans hl.1.symm) F.2.2.2.2.2.1 (ht _ (gd hk.1 rfl)) (ht _ (gd hk.2.1 rfl)) (ht _ (gd hk.2.2.1 rfl)) (ht _ (gd hk.2.2.2 rfl)) (by simp only [rmD]; omega) (by rw [rl_sum]; simp only [rmD]; omega) (Nat.le_refl _) (Nat.le_refl _) hc (h p l e s m args below meth c H locs ls ad cy D A F C hP hD hS hl)
end WPK
