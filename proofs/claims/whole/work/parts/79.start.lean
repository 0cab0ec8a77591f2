/-! what holds at the law's start -/
def tmL : List (String × Nat) := [("PetalSets$Reader", 25), ("PetalSets$Reader", 58), ("PetalSets", 316), ("PetalSets", 325), ("PetalSets", 327), ("PetalSets$Kernel", 88), ("PetalSets$Kernel", 90), ("PetalSets$Kernel", 98), ("PetalSets$Kernel", 103), ("PetalSets", 339), ("PetalSets", 341)]
def tmF (i : Nat) : Term := .string (tmL.getD i ("", 0)).1 (tmL.getD i ("", 0)).2
def nrw : List Cond := flatC (Jvm.Cond.and given_1 narrow_1)
set_option maxRecDepth 100000 in
theorem n_ex : ∀ i, i < 11 → Cond.exactly (tmF i) "java/lang/String" ∈ nrw := by decide +kernel
set_option maxRecDepth 100000 in
theorem n_co : ∀ i, i < 11 → Cond.eq (.field (tmF i) "java/lang/String" "coder" "B") (.int 0) ∈ nrw := by decide +kernel
set_option maxRecDepth 100000 in
theorem n_ar : ∀ i, i < 11 → Cond.arrayOf (.field (tmF i) "java/lang/String" "value" "[B") .byte ∈ nrw := by decide +kernel
set_option maxRecDepth 100000 in
theorem n_le : ∀ i, i < 11 → Cond.eq (.length (.field (tmF i) "java/lang/String" "value" "[B")) (.int (Int32.ofNat (strLen.getD i 0))) ∈ nrw := by decide +kernel
set_option maxRecDepth 100000 in
theorem n_el : ∀ i, i < 11 → ∀ j, j < strLen.getD i 0 → Cond.eq (.elem (.field (tmF i) "java/lang/String" "value" "[B") (.int (Int32.ofNat j))) (.int ((strByt.getD i []).getD j 0)) ∈ nrw := by decide +kernel
set_option maxRecDepth 100000 in
theorem n_ne : ∀ i, i < 11 → ∀ j, j < 11 → i < j → Cond.not (Cond.eq (tmF i) (tmF j)) ∈ nrw := by decide +kernel
set_option maxRecDepth 100000 in
theorem n_cs : Cond.eq (.static "java/lang/String" "COMPACT_STRINGS" "Z") (.int 1) ∈ nrw ∧ Cond.isRef (.static "jdk/internal/util/Preconditions" "SIOOBE_FORMATTER" "Ljava/util/function/BiFunction;") ∈ nrw ∧ Cond.eq (.string "PetalSets" 325) (.string "PetalSets$Kernel" 108) ∈ nrw := by decide +kernel
theorem n_len : ∀ i, i < 11 → strLen.getD i 0 < 2 ^ 31 := by decide +kernel
theorem eq_ev {args : Array Value} {s : State} {t1 t2 : Term} {a : Nat} (h : (Cond.eq t1 t2).before args s = true) (h1 : t1.eval args s none [] s = some (.ref a)) : t2.eval args s none [] s = some (.ref a) := by
  cases hv : t2.eval args s none [] s with
  | none => simp [Cond.before, Cond.holds, Cond.value, h1, hv] at h
  | some w =>
    simp only [Cond.before, Cond.holds, Cond.value, h1, hv] at h
    cases w <;> simp_all
theorem vk_S.cg {N : Nat} {len : List Nat} {byt : List (List Int32)} {adK adV adK' adV' : Nat → Nat} {A : Nat → Prop} {U : State} {H : Heap} (h : vk_S N len byt adK adV A U H) (h1 : ∀ i, i < N → adK' i = adK i) (h2 : ∀ i, i < N → adV' i = adV i) : vk_S N len byt adK' adV' A U H := by
  refine ⟨fun i hi => ?_, fun i j hi hj e => h.2 i j hi hj (by rw [← h1 i hi, ← h1 j hj]; exact e)⟩
  rw [h1 i hi, h2 i hi]
  exact h.1 i hi
theorem sx_start {s : State} {b : Nat} (hts : ∀ w ∈ lw_tbl, w.before #[Value.ref b] s = true) (hgv : (Jvm.Cond.and given_1 narrow_1).before #[Value.ref b] s = true) : ∃ ad : Nat → Nat, ∀ A : Nat → Prop, (∀ a : Nat, a < s.heap.size → ¬ A a) → SX ad A s := by
  have hs : ∀ w ∈ nrw, w.before #[Value.ref b] s = true := flat_of_before _ hgv
  have hA0 : ∀ a : Nat, a < s.heap.size → ¬ (fun q : Nat => s.heap.size ≤ q) a := fun a h => Nat.not_le.mpr h
  obtain ⟨adK, adV, hS, hev⟩ := vk_Sof (tm := tmF) (N := 11) (len := strLen) (byt := strByt) (A := fun q : Nat => s.heap.size ≤ q) n_len (fun i hi => hs _ (n_ex i hi)) (fun i hi => hs _ (n_co i hi)) (fun i hi => hs _ (n_ar i hi)) (fun i hi => hs _ (n_le i hi)) (fun i hi j hj => hs _ (n_el i hi j hj)) (fun i j hi hj hne => by
    rcases Nat.lt_or_gt_of_ne hne with q | q
    · exact Or.inl (hs _ (n_ne i hi j hj q))
    · exact Or.inr (hs _ (n_ne j hj i hi q))) hA0
  have hZ := va_Zof (v := .int 1) (A := fun q : Nat => s.heap.size ≤ q) (hts (.laysStatic "java/lang/String" "COMPACT_STRINGS" "Z") (List.mem_of_getElem? (i := 375) (by decide +kernel))) (hts (.initialized "java/lang/String") (List.mem_of_getElem? (i := 83) (by decide +kernel))) (va_eqt (hs _ n_cs.1)) hA0
  have hQ := va_Zqof (A := fun q : Nat => s.heap.size ≤ q) (hts (.laysStatic "jdk/internal/util/Preconditions" "SIOOBE_FORMATTER" "Ljava/util/function/BiFunction;") (List.mem_of_getElem? (i := 392) (by decide +kernel))) (hts (.initialized "jdk/internal/util/Preconditions") (List.mem_of_getElem? (i := 85) (by decide +kernel))) (hs _ n_cs.2.1) hA0
  obtain ⟨tS, hQ'⟩ : ∃ tS : Nat, va_Z "jdk/internal/util/Preconditions" "SIOOBE_FORMATTER" "Ljava/util/function/BiFunction;" .null (fun q : Nat => s.heap.size ≤ q) s s.heap ∨ va_Z "jdk/internal/util/Preconditions" "SIOOBE_FORMATTER" "Ljava/util/function/BiFunction;" (.ref tS) (fun q : Nat => s.heap.size ≤ q) s s.heap := by
    rcases hQ with h | ⟨t, h⟩
    · exact ⟨0, Or.inl h⟩
    · exact ⟨t, Or.inr h⟩
  have key : ∃ ad : Nat → Nat, (∀ i, i < 11 → ad (1000 + i) = adK i) ∧ (∀ i, i < 11 → ad (2000 + i) = adV i) ∧ ad 3000 = tS := by
    refine ⟨fun k => if k < 2000 then adK (k - 1000) else if k < 3000 then adV (k - 2000) else tS, fun i hi => ?_, fun i hi => ?_, rfl⟩
    · simp only []
      rw [if_pos (by omega), show 1000 + i - 1000 = i by omega]
    · simp only []
      rw [if_neg (by omega), if_pos (by omega), show 2000 + i - 2000 = i by omega]
  obtain ⟨ad, k1, k2, k3⟩ := key
  refine ⟨ad, fun A hA => ?_⟩
  have hAB : ∀ q, A q → (fun q : Nat => s.heap.size ≤ q) q := fun q hq => Nat.le_of_not_lt (fun h => hA q h hq)
  refine ⟨(hS.narrow hAB).cg k1 k2, fun q hq => ?_, hZ.narrow hAB, ?_⟩
  · have e0 := fun i (hi : i < 11) => hev i hi
    simp only [strTab, List.mem_cons, List.not_mem_nil, or_false] at hq
    rcases hq with rfl | rfl | rfl | rfl | rfl | rfl | rfl | rfl | rfl | rfl | rfl | rfl
    · simp only []
      rw [k1 0 (by decide)]
      exact vk_R.of (hts _ (List.mem_of_getElem? (i := 361) (by decide +kernel))) (hev 0 (by decide))
    · simp only []
      rw [k1 1 (by decide)]
      exact vk_R.of (hts _ (List.mem_of_getElem? (i := 435) (by decide +kernel))) (hev 1 (by decide))
    · simp only []
      rw [k1 2 (by decide)]
      exact vk_R.of (hts _ (List.mem_of_getElem? (i := 932) (by decide +kernel))) (hev 2 (by decide))
    · simp only []
      rw [k1 3 (by decide)]
      exact vk_R.of (hts _ (List.mem_of_getElem? (i := 947) (by decide +kernel))) (hev 3 (by decide))
    · simp only []
      rw [k1 4 (by decide)]
      exact vk_R.of (hts _ (List.mem_of_getElem? (i := 948) (by decide +kernel))) (hev 4 (by decide))
    · simp only []
      rw [k1 5 (by decide)]
      exact vk_R.of (hts _ (List.mem_of_getElem? (i := 965) (by decide +kernel))) (hev 5 (by decide))
    · simp only []
      rw [k1 6 (by decide)]
      exact vk_R.of (hts _ (List.mem_of_getElem? (i := 966) (by decide +kernel))) (hev 6 (by decide))
    · simp only []
      rw [k1 7 (by decide)]
      exact vk_R.of (hts _ (List.mem_of_getElem? (i := 968) (by decide +kernel))) (hev 7 (by decide))
    · simp only []
      rw [k1 8 (by decide)]
      exact vk_R.of (hts _ (List.mem_of_getElem? (i := 970) (by decide +kernel))) (hev 8 (by decide))
    · simp only []
      rw [k1 3 (by decide)]
      exact vk_R.of (hts _ (List.mem_of_getElem? (i := 972) (by decide +kernel))) (eq_ev (hs _ n_cs.2.2) (hev 3 (by decide)))
    · simp only []
      rw [k1 9 (by decide)]
      exact vk_R.of (hts _ (List.mem_of_getElem? (i := 973) (by decide +kernel))) (hev 9 (by decide))
    · simp only []
      rw [k1 10 (by decide)]
      exact vk_R.of (hts _ (List.mem_of_getElem? (i := 974) (by decide +kernel))) (hev 10 (by decide))

  · rw [k3]
    exact hQ'.elim (fun z => Or.inl (z.narrow hAB)) (fun z => Or.inr (z.narrow hAB))
theorem inst_ok : ∀ q ∈ vwCl, Cond.instantiable q.1 q.2.2 ∈ lw_tbl := by
  intro q hq
  simp only [vwCl, List.mem_cons, List.not_mem_nil, or_false] at hq
  rcases hq with rfl | rfl | rfl | rfl | rfl | rfl | rfl | rfl | rfl | rfl | rfl
  · exact List.mem_of_getElem? (i := 207) (by decide +kernel)
  · exact List.mem_of_getElem? (i := 99) (by decide +kernel)
  · exact List.mem_of_getElem? (i := 126) (by decide +kernel)
  · exact List.mem_of_getElem? (i := 238) (by decide +kernel)
  · exact List.mem_of_getElem? (i := 281) (by decide +kernel)
  · exact List.mem_of_getElem? (i := 162) (by decide +kernel)
  · exact List.mem_of_getElem? (i := 146) (by decide +kernel)
  · exact List.mem_of_getElem? (i := 222) (by decide +kernel)
  · exact List.mem_of_getElem? (i := 172) (by decide +kernel)
  · exact List.mem_of_getElem? (i := 91) (by decide +kernel)
  · exact List.mem_of_getElem? (i := 990) (by decide +kernel)
theorem cls_start {s : State} {args : Array Value} (hts : ∀ w ∈ lw_tbl, w.before args s = true) : ∃ D : va_G, ∀ (c : Nat) (q : vw_C), vwCl[c]? = some q → u_Kn s q.1 q.2.1 q.2.2 (D.1 c) (D.2 c) := by
  have h : ∀ c : Nat, ∃ z : ClassId × (Nat → Nat), ∀ q : vw_C, vwCl[c]? = some q → u_Kn s q.1 q.2.1 q.2.2 z.1 z.2 := by
    intro c
    cases hc : vwCl[c]? with
    | none => exact ⟨(0, fun _ => 0), fun q hq => by cases hq⟩
    | some q0 =>
      have hm := List.mem_of_getElem? hc
      obtain ⟨cC, iS, hk⟩ := u_known (C := q0.1) (T := q0.2.1) (N := q0.2.2) (n := q0.2.2) hts (vwCl_ok q0 hm).1 (hts _ (inst_ok q0 hm))
      exact ⟨(cC, iS), fun q hq => by cases hq; exact hk⟩
  obtain ⟨f, hf⟩ := Classical.axiomOfChoice h
  exact ⟨(fun c => (f c).1, fun c => (f c).2), fun c q hq => hf c q hq⟩
theorem arr_start {s : State} {args : Array Value} {ty : FieldType} (h : (Cond.arrayClass ty).before args s = true) : ∃ cA : ClassId, ArrOfT s cA ty ∧ s.vm.findClass ("[" ++ ty.toString) = some cA := by
  obtain ⟨cA, kA, comp, h1, h2, h3⟩ := Cond.arrayClass_spec h
  exact ⟨cA, fun n z => ⟨fun k h => (by cases h), kA, h2, comp, h3⟩, h1⟩
theorem kk_start {s : State} {args : Array Value} (hts : ∀ w ∈ lw_tbl, w.before args s = true) : ∃ (D : va_G) (cy : Nat → ClassId), va_K D vwCl (tysD cy) s := by
  obtain ⟨D, hD⟩ := cls_start hts
  obtain ⟨c0, a0, r0⟩ := arr_start (ty := .int) (hts _ (List.mem_of_getElem? (i := 124) (by decide +kernel)))
  obtain ⟨c1, a1, r1⟩ := arr_start (ty := .byte) (hts _ (List.mem_of_getElem? (i := 160) (by decide +kernel)))
  obtain ⟨c2, a2, r2⟩ := arr_start (ty := .boolean) (hts _ (List.mem_of_getElem? (i := 1098) (by decide +kernel)))
  refine ⟨D, fun k => if k = 0 then c0 else if k = 1 then c1 else c2, hD, fun k q hq => ?_⟩
  match k, hq with
  | 0, hq => cases hq; exact ⟨a0, r0⟩
  | 1, hq => cases hq; exact ⟨a1, r1⟩
  | 2, hq => cases hq; exact ⟨a2, r2⟩
  | k + 3, hq => simp [tysD] at hq
theorem xi_0 : XI mem_PS 6 [] [] [] := by
  have hF : ∀ f, (f = 1 ∨ f = 19 ∨ f = 21) → Fam mem_PS f 6 [] := fun f hf => by
    refine ⟨?_, ?_, by decide, by decide, fun i hi => absurd hi (Nat.not_lt_zero _), fun i => by simp⟩
    · rcases hf with rfl | rfl | rfl <;> rfl
    · rcases hf with rfl | rfl | rfl <;> rfl
  refine ⟨hF 1 (by decide), ⟨0, by decide, rfl, rfl, by decide, fun j hj => absurd hj (Nat.not_lt_zero _)⟩, XT.nil rfl, ⟨6, 6, [], [], hF 19 (by decide), hF 21 (by decide), Or.inl rfl⟩⟩
theorem lay_ext (cy : Nat → ClassId) (u ad : Nat → Nat) : lay cy (fun k => if k < 29 then u k else ad k) mem_PS shX = lay cy u mem_PS shX := by rw [lay_eq, lay_eq]; rfl
