/-! THE CLAIM OUT OF ONE WALK OF THE LAW'S BODY. Your part is whole_start (and what it stands on); all else here is the same for every law, but numbers. -/
def R_law : String := "PetalSetsLaw"
def lw_P (b : Addr) (xs : List Int32) (args : Array Value) (s : State) : Prop := args = #[.ref b] ∧ s.IntsAt b xs ∧ xs.length ≤ 3072 ∧ (Jvm.Cond.and given_1 narrow_1).before args s = true
def lw_Q (_ : Array Value) (s : State) (o : Outcome) (t : State) : Prop := o = .returned (some (.int 1)) ∧ Framed s o t [] 600000 7302250
def lw_Z (below : List Frame) (a : Array Value) (s : State) : State → Prop := fun t => ∃ o, t.status = .running ∧ Ended t below o ∧ lw_Q a s o t
/-- the law's own end, with 1 on the stack, nothing written that was there before, its room as the claim has it -/
theorem lw_ret {p : Program} {l : Launch} {e : Env} {s : State} {m : MethodId} {below : List Frame} {meth : Method} {c : Code} {b : Nat} (hx : p.tables.exec = Jvm.exec) (hb : c.code = code) (hr : meth.sig.returnType = ret) (hlocks : meth.locks = false) {pc : Nat} {H : Heap} {ls : Array Slot} (hdg : decode code pc = .ok (.ireturn, 1)) : W p l e room_1 s m #[Value.ref b] below meth c H [] 600000 7302250 (lw_Z below #[Value.ref b] s) (F0 m pc ls [.int 1]) := by
  intro T hT X
  obtain ⟨fs, hret, hrun, hended, hW, hframe⟩ := X.leave (v := some (.int 1)) (hlocks := hlocks) (fun h => by rw [hr] at h; cases h)
  have hmeth' : T.vm.method? m = some meth := X.method'
  refine ⟨T.setFrames fs, ?_, .returned (some (.int 1)), hrun, hended, rfl, ⟨_, rfl⟩, hW, hframe⟩
  jvm_step X.here [X.here.top, hx, hb, hdg, hmeth', hr, ret, narrow_b1]
  (try refine ⟨rfl, ?_⟩); (try refine ⟨rfl, ?_⟩)
  first | (intro acts; rw [hret _ acts rfl rfl rfl]) | rw [hret _ _ rfl rfl rfl]
  exact Steps.refl _
/-- what holds at the law's entry: the machine, the code, the tables' words (any of lw_tbl by 'hts w (by decide +kernel)'), the script of L ints xs at the cell b, what the Statement gives of the start (any of its parts by flat_of_before) -/
def lw_At (p : Program) (s : State) (m : MethodId) (meth : Method) (c : Code) (b L : Nat) (xs : Nat → Int32) : Prop :=
  p.tables.exec = Jvm.exec ∧ c.code = code ∧ meth.sig.returnType = ret ∧ c.maxLocals = 4 ∧ s.vm.findClass R_law = some m.cls ∧ (∀ w ∈ lw_tbl, w.before #[Value.ref b] s = true) ∧ va_X b L xs s s.heap ∧ b < s.heap.size ∧ meth.locks = false ∧ (Jvm.Cond.and given_1 narrow_1).before #[Value.ref b] s = true
/-- the world of the class, the world of the reference, at the law -/
def TwoC (s : State) (adX adM : Nat → Nat) (cy : Nat → ClassId) (D : va_G) (AX AM : Nat → Prop) : Prop := Cx adX cy D AX s ∧ Cx adM cy D AM s ∧ (∀ q, AX q → s.heap.size ≤ q) ∧ (∀ q, AM q → s.heap.size ≤ q) ∧ ∀ q, AX q → ¬ AM q
def TwoW (s : State) (adX adM : Nat → Nat) (cy : Nat → ClassId) (D : va_G) (AX AM : Nat → Prop) (mX mM : Mem) (H : Heap) (locs : List Loc) : Prop := va_P D vwCl (lay cy adX mX shX) H ∧ va_D AX (lay cy adX mX shX) ∧ va_P D vwCl (lay cy adM mM shM) H ∧ va_D AM (lay cy adM mM shM) ∧ va_S (fun q : Nat => s.heap.size ≤ q) s.heap H locs
theorem keepW {D : va_G} {A1 A2 : Nat → Prop} {ws : va_W} {H H1 : Heap} (hP : va_P D vwCl ws H) (hD : va_D A2 ws) (hdis : ∀ q, A2 q → ¬ A1 q) (hk : ∀ q : Nat, q < H.size → ¬ A1 q → H1[q]? = H[q]?) : va_P D vwCl ws H1 := fun k q hq => (hP k q hq).kept (hk q.1 (hP k q hq).lt (hdis _ (hD.2 k q hq)))
section LWC
variable {p : Program} {l : Launch} {e : Env} {s : State} {m : MethodId} {below : List Frame} {meth : Method} {c : Code} {b L : Nat} {xs : Nat → Int32} {Q : State → Prop} {cells slots : Nat}
theorem law_run {M' : PMe} {n idx ci pc : Nat} {sh : List Sh} {fs : List (Option Nat)} {ad : Nat → Nat} {cy : Nat → ClassId} {D : va_G} {A1 : Nat → Prop} {mem : Mem} {K : Int32 → Mem → Prop} {As rest st0 : List Value} {H : Heap} {locs : List Loc} {ls : Array Slot}
    (C0 : lw_At p s m meth c b L xs) (hk : MV "PetalSetsLaw" idx M' n) (hs : sh[0]? = some (.inr (ci, fs))) (hci : (vwCl[ci]?).map (fun q => q.1) = some M'.1.cls) (hC : CI sh M' 50 (.ref 0 :: As) mem K) (hn : As.length = n)
    (C : Cx ad cy D A1 s) (hA1 : ∀ q, A1 q → s.heap.size ≤ q) (hP : va_P D vwCl (lay cy ad mem sh) H) (hD : va_D A1 (lay cy ad mem sh)) (hS : va_S (fun q : Nat => s.heap.size ≤ q) s.heap H locs) (hl : ls.size = 4) (hst : st0 = (As.map (rl ad)).reverse ++ .ref (ad 0) :: rest) (hw : (rest.map fun v => v.category).sum ≤ 8) (hc : decode code pc = .ok (.invokevirtual idx, 3)) (hcl : cells ≤ room_1.cells) (hsl : slots ≤ room_1.slots)
    (k : ∀ (x : Int32) (m' : Mem) (H1 : Heap) (locs1 : List Loc), K x m' → va_P D vwCl (lay cy ad m' sh) H1 → va_D A1 (lay cy ad m' sh) → (∀ q : Nat, q < H.size → ¬ A1 q → H1[q]? = H[q]?) → va_S (fun q : Nat => s.heap.size ≤ q) s.heap H1 locs1 → W p l e room_1 s m #[Value.ref b] below meth c H1 locs1 cells slots Q (F0 m (pc + 3) ls (.int x :: rest))) :
    W p l e room_1 s m #[Value.ref b] below meth c H locs cells slots Q (F0 m pc ls st0) := by
  obtain ⟨hx, hb, hr, hml, hown, hts, hX, hbl, hlocks, hgv⟩ := C0
  obtain ⟨hM, hk1, hk2, hk3⟩ := hk
  have ht : ∀ w ∈ lw_gd, w.before #[Value.ref b] s = true := fun w hw => hts w (List.mem_filter.mp hw).1
  obtain ⟨q, hq1, hq2⟩ := Option.map_eq_some_iff.mp hci
  have hM5 := hM.2.2.2.2
  have run : va_Run p l e room_1 s m #[Value.ref b] below meth c H locs cells slots 0 0 (F0 m pc ls st0) rest (QcP sh ad cy D A1 (fun r m' => ∃ x : Int32, r = some (.int x) ∧ K x m') (Value.ref (ad 0) :: As.map (rl ad)).toArray) A1 := by
    refine va_runV (C := M'.1.cls) (b := ad 0) (As := As.map (rl ad)) (n := n) (bytes := M'.2.1) (maxL := M'.2.2.1) (ret := M'.2.2.2) ⟨hx, hb, hml, hown, ht⟩ (hC l ad cy D A1) ⟨callB_of n ht (tbl_in M' n hM) rfl rfl rfl (ht _ (gd hM.2.2.1 rfl)) (ht _ (gd hk1 rfl)) hM.2.2.2.1 ⟨Nat.le_of_ble_eq_true rfl, ?_⟩, ht _ (gd hk2 rfl), ht _ (gd hk3 rfl)⟩ ⟨?_, ?_, ?_⟩ rfl (by rw [List.length_map]; exact hn) hl hst (lv_room hw) hc ⟨hcl, hsl⟩
    · show 8 + (M'.2.2.1 + 11) + 40 * 50 ≤ 84000
      omega
    · rintro a U g mk ⟨z0, z1, z2, z3⟩
      exact ⟨z0, z1, z2.blind g mk a, z3⟩
    · have := va_recv C.1 hP (ci := ci) (q := q) (q0 := 0) hq1 (lay_get hs)
      rw [hq2] at this
      exact this
    · intro U hU hW
      refine ⟨rfl, by rw [hU]; exact hP, C.warm hW (fun a h1 h2 => by rw [hU]; exact hS.2.1 a h1 (Nat.not_le.mpr h1)), hD⟩
  intro T hT X
  obtain ⟨v, st₀, t, T', Lc, h0, X', hL, e1, e2, ⟨r, m', hv, ⟨x, hx1, hK⟩, hP', hD', hF⟩, stp⟩ := run T hT X
  subst hx1
  have hv' : v = some (.int x) := by injection hv
  subst hv'
  obtain ⟨f1, f2⟩ := hF
  rw [h0] at f1 f2
  have hS' : va_S (fun q : Nat => s.heap.size ≤ q) s.heap T'.heap (locs ++ Lc) := by
    rw [e1]
    refine ⟨Nat.le_trans hS.1 f1, fun q h1 h2 => ?_, fun q hq => ?_⟩
    · rw [f2 q (Nat.lt_of_lt_of_le h1 hS.1) (fun z => h2 (hA1 q z))]
      exact hS.2.1 q h1 h2
    · rcases List.mem_append.mp hq with h | h
      · exact hS.2.2 q h
      · exact hA1 _ (hL q h)
  obtain ⟨t2, a1, b1⟩ := k x m' T'.heap (locs ++ Lc) hK (by rw [e1]; exact hP') hD' (fun q h1 h2 => by rw [e1]; exact f2 q h1 h2) hS' T' rfl X'
  exact ⟨t2, stp t2 a1, b1⟩
/-- both calls of a case -/
theorem law_pair {Mx My : PMe} {na ix iy pc pc2 : Nat} {n : Nat} {S t : List Nat} {Hs : List (List Nat)} {As : List Value} {adX adM : Nat → Nat} {cy : Nat → ClassId} {D : va_G} {AX AM : Nat → Prop} {mX mM : Mem} {H : Heap} {locs : List Loc} {ls : Array Slot}
    (C0 : lw_At p s m meth c b L xs) (hkx : MV "PetalSetsLaw" ix Mx na) (hky : MV "PetalSetsLaw" iy My na) (hcx : Mx.1.cls = "PetalSets") (hcy : My.1.cls = "PetalSetsModel") (hpr : PairC Mx My As n S Hs t) (hn : As.length = na) (hAs : ∀ ad : Nat → Nat, As.map (rl ad) = As)
    (C : TwoC s adX adM cy D AX AM) (hX : XI mX n S Hs t) (hM : MI mM n S Hs t) (hW : TwoW s adX adM cy D AX AM mX mM H locs) (hl : ls.size = 4) (hc : decode code pc = .ok (.invokevirtual ix, 3)) (hc2 : decode code pc2 = .ok (.invokevirtual iy, 3)) (hcl : cells ≤ room_1.cells) (hsl : slots ≤ room_1.slots)
    (mid : ∀ (x : Int32) (H1 : Heap) (locs1 : List Loc), va_S (fun q : Nat => s.heap.size ≤ q) s.heap H1 locs1 → W p l e room_1 s m #[Value.ref b] below meth c H1 locs1 cells slots Q (F0 m pc2 ls (As.reverse ++ [.ref (adM 0), .int x])) → W p l e room_1 s m #[Value.ref b] below meth c H1 locs1 cells slots Q (F0 m (pc + 3) ls [.int x]))
    (k : ∀ (x : Int32) (n' : Nat) (S' t' : List Nat) (Hs' : List (List Nat)) (mX' mM' : Mem) (H1 : Heap) (locs1 : List Loc), Good n' S' Hs' → XI mX' n' S' Hs' t' → MI mM' n' S' Hs' t' → TwoW s adX adM cy D AX AM mX' mM' H1 locs1 → W p l e room_1 s m #[Value.ref b] below meth c H1 locs1 cells slots Q (F0 m (pc2 + 3) ls [.int x, .int x])) :
    W p l e room_1 s m #[Value.ref b] below meth c H locs cells slots Q (F0 m pc ls (As.reverse ++ [.ref (adX 0)])) := by
  obtain ⟨a, n', S', Hs', t', hG, px, py⟩ := hpr
  obtain ⟨cx, cm, ax, am, dis⟩ := C
  obtain ⟨wx, dx, wm, dm, hS⟩ := hW
  refine law_run (ci := 9) (fs := [some 1, some 3, some 5, some 8, some 10, some 11, some 14, some 15, some 18, some 27]) (rest := []) C0 hkx rfl (by rw [hcx]; rfl) (px mX hX) hn cx ax wx dx hS hl (by rw [hAs]) (by decide) hc hcl hsl ?_
  rintro x m' H1 locs1 ⟨ex, hX'⟩ wx' dx' kp hS'
  have wm' := keepW wm dm (fun q h1 h2 => dis q h2 h1) kp
  refine mid x H1 locs1 hS' ?_
  refine law_run (sh := shM) (ci := 10) (fs := [none, some 1, some 2, some 3, none, some 4, none, some 5, none, none, some 6, some 7, some 8, none, some 9, some 10, some 11, some 12, none, none, some 13, some 14, none, some 15, none, some 16, none, some 17, none, none, none, none, none]) (rest := [.int x]) C0 hky rfl (by rw [hcy]; rfl) (py mM hM) hn cm am wm' dm hS' hl (by rw [hAs]) (Nat.le_of_ble_eq_true rfl) hc2 hcl hsl ?_
  rintro y m2 H2 locs2 ⟨ey, hM'⟩ wm2 dm2 kp2 hS2
  rw [ey, ex]
  exact k a n' S' t' Hs' m' m2 H2 locs2 hG hX' hM' ⟨keepW wx' dx' (fun q h1 h2 => dis q h1 h2) kp2, dx', wm2, dm2, hS2⟩
end LWC
