/-! Family: n points, a list of sets -/
theorem downInd {P : Nat → Prop} (m : Nat) (h0 : P m) (hs : ∀ i, i < m → P (i + 1) → P i) : ∀ i, i ≤ m → P i := by
  intro i hi
  obtain ⟨k, hk⟩ : ∃ k, m = i + k := ⟨m - i, by omega⟩
  induction k generalizing i with
  | zero => rw [show i = m by omega]; exact h0
  | succ k ih => exact hs i (by omega) (ih (i + 1) (by omega) (by omega))
def Fam (mem : Mem) (f n : Nat) (S : List Nat) : Prop := mem f 2 = nI n ∧ mem f 1 = nI S.length ∧ S.length ≤ 17 ∧ n ≤ 10 ∧ (∀ i, i < S.length → mem (f + 1) i = nI (S.getD i 0)) ∧ ∀ i, S.getD i 0 < 1024
/-- nothing but these cells has changed -/
def Same (mem m' : Mem) (cs : List Nat) : Prop := ∀ c, c ∉ cs → m' c = mem c
theorem Same.rf {mem : Mem} {cs : List Nat} : Same mem mem cs := fun _ _ => rfl
theorem Same.tr {m1 m2 m3 : Mem} {cs : List Nat} (h1 : Same m1 m2 cs) (h2 : Same m2 m3 cs) : Same m1 m3 cs := fun c hc => (h2 c hc).trans (h1 c hc)
theorem Same.wd {m1 m2 : Mem} {cs cs' : List Nat} (h : Same m1 m2 cs) (hc : ∀ c, c ∈ cs → c ∈ cs') : Same m1 m2 cs' := fun c hn => h c (fun z => hn (hc c z))
theorem up2_ne {mem : Mem} {c c' j : Nat} {x : Int32} (h : c' ≠ c) : up2 mem c j x c' = mem c' := if_neg h
theorem up2_at {mem : Mem} {c j : Nat} {x : Int32} : up2 mem c j x c j = x := by simp [up2, upd]
theorem up2_nj {mem : Mem} {c j k : Nat} {x : Int32} (h : k ≠ j) : up2 mem c j x c k = mem c k := by simp [up2, upd, h]
theorem Same.up {mem : Mem} {c j : Nat} {x : Int32} {cs : List Nat} (h : c ∈ cs) : Same mem (up2 mem c j x) cs := fun c' hc => up2_ne (fun e => hc (e ▸ h))
theorem Fam.of {mem m' : Mem} {f n : Nat} {S : List Nat} (h : Fam mem f n S) (h1 : m' f = mem f) (h2 : m' (f + 1) = mem (f + 1)) : Fam m' f n S := by
  obtain ⟨a, b, c, d, e, g⟩ := h
  exact ⟨by rw [h1]; exact a, by rw [h1]; exact b, c, d, fun i hi => by rw [h2]; exact e i hi, g⟩
theorem Fam.same {mem m' : Mem} {f n : Nat} {S : List Nat} {cs : List Nat} (h : Fam mem f n S) (hs : Same mem m' cs) (h1 : f ∉ cs) (h2 : f + 1 ∉ cs) : Fam m' f n S := h.of (hs f h1) (hs (f + 1) h2)
theorem isF_ne {f g : Nat} (hf : IsF f) (hg : IsF g) : f + 1 ≠ g := by
  intro e
  have h1 := hf.2
  rw [e, hg.1] at h1
  cases h1
section FAM
variable {d f n : Nat} {S : List Nat} {mem : Mem}
theorem Fam.vin {i : Nat} (h : Fam mem f n S) (hi : i < S.length) : vp_in (nI i) 17 := vp_in_nI (Nat.lt_of_lt_of_le hi h.2.2.1) (by decide)
theorem Fam.ge {i : Nat} (h : Fam mem f n S) (hi : i ≤ S.length) : (mem f 1 ≤ nI i) ↔ i = S.length := by
  have := h.2.2.1
  rw [h.2.1, nI_leI (by omega) (by omega)]
  omega
theorem Fam.row {i : Nat} (h : Fam mem f n S) (hi : i < S.length) : mem (f + 1) (nI i).toNatClampNeg = nI (S.getD i 0) := by
  have := h.2.2.1
  rw [nI_clamp (by omega)]
  exact h.2.2.2.2.1 i hi
theorem Fam.small (h : Fam mem f n S) (i : Nat) : S.getD i 0 < 1024 := h.2.2.2.2.2 i
theorem and_le_r {a b : Nat} : a &&& b ≤ b := Nat.and_le_right
theorem s_setsWith {b : Nat} (hf : IsF f) (h : Fam mem f n S) (hb : b < 2 ^ 31) : CI shX m_Family_setsWith d [.ref f, .int (nI b)] mem (fun r m' => r = nI (msk (fun i => decide (S.getD i 0 &&& b = b)) S.length) ∧ m' = mem) := by
  have hl := h.2.2.1
  refine e_Family_setsWith hf ?_
  refine downInd (P := fun i => Wp shX m_Family_setsWith d 4 [some (.ref f), some (.int (nI b)), some (.int (nI (msk (fun i => decide (S.getD i 0 &&& b = b)) i))), some (.int (nI i))] [] mem (QI _)) S.length ?_ ?_ 0 (Nat.zero_le _)
  · exact b_Family_setsWith_4 hf ⟨fun _ => ⟨rfl, rfl⟩, fun c => absurd ((h.ge (Nat.le_refl _)).mpr rfl) c⟩
  · intro i hi ih
    refine b_Family_setsWith_4 hf ⟨fun c => absurd ((h.ge (Nat.le_of_lt hi)).mp c) (by omega), fun _ => ⟨h.vin hi, fun c => ?_, fun c => ?_⟩⟩
    · rw [h.row hi, ia, nI_inj (Nat.lt_of_le_of_lt and_le_r hb) hb] at c
      rw [msk, if_neg (by simpa using c), Nat.add_zero] at ih
      rw [nI_1]
      exact ih
    · rw [h.row hi, ia, nI_inj (Nat.lt_of_le_of_lt and_le_r hb) hb] at c
      rw [msk, if_pos (by simpa using c)] at ih
      rw [nI_1, sh1 (by omega), io, or_add (msk_lt _ i)]
      exact ih
theorem s_setsMeeting {b : Nat} (hf : IsF f) (h : Fam mem f n S) : CI shX m_Family_setsMeeting d [.ref f, .int (nI b)] mem (fun r m' => r = nI (msk (fun i => decide (¬ S.getD i 0 &&& b = 0)) S.length) ∧ m' = mem) := by
  have hl := h.2.2.1
  refine e_Family_setsMeeting hf ?_
  refine downInd (P := fun i => Wp shX m_Family_setsMeeting d 4 [some (.ref f), some (.int (nI b)), some (.int (nI (msk (fun i => decide (¬ S.getD i 0 &&& b = 0)) i))), some (.int (nI i))] [] mem (QI _)) S.length ?_ ?_ 0 (Nat.zero_le _)
  · exact b_Family_setsMeeting_4 hf ⟨fun _ => ⟨rfl, rfl⟩, fun c => absurd ((h.ge (Nat.le_refl _)).mpr rfl) c⟩
  · intro i hi ih
    have hs := h.small i
    have hlt : S.getD i 0 &&& b < 2 ^ 31 := Nat.lt_of_le_of_lt Nat.and_le_left (by omega)
    refine b_Family_setsMeeting_4 hf ⟨fun c => absurd ((h.ge (Nat.le_of_lt hi)).mp c) (by omega), fun _ => ⟨h.vin hi, fun c => ?_, fun c => ?_⟩⟩
    · rw [h.row hi, ia, nI_z hlt] at c
      rw [msk, if_neg (by simpa using c), Nat.add_zero] at ih
      rw [nI_1]
      exact ih
    · rw [h.row hi, ia, nI_z hlt] at c
      rw [msk, if_pos (by simpa using c)] at ih
      rw [nI_1, sh1 (by omega), io, or_add (msk_lt _ i)]
      exact ih
theorem s_setsOfTwoOrMore (hf : IsF f) (h : Fam mem f n S) : CI shX m_Family_setsOfTwoOrMore (d + 1) [.ref f] mem (fun r m' => r = nI (msk (fun i => decide (2 ≤ pop (S.getD i 0))) S.length) ∧ m' = mem) := by
  have hl := h.2.2.1
  refine e_Family_setsOfTwoOrMore hf ?_
  refine downInd (P := fun i => Wp shX m_Family_setsOfTwoOrMore (d + 1) 4 [some (.ref f), some (.int (nI (msk (fun i => decide (2 ≤ pop (S.getD i 0))) i))), some (.int (nI i))] [] mem (QI _)) S.length ?_ ?_ 0 (Nat.zero_le _)
  · exact b_Family_setsOfTwoOrMore_4 hf ⟨fun _ => ⟨rfl, rfl⟩, fun c => absurd ((h.ge (Nat.le_refl _)).mpr rfl) c⟩
  · intro i hi ih
    have hs := h.small i
    have hp := pop_le (S.getD i 0)
    refine b_Family_setsOfTwoOrMore_4 hf ⟨fun c => absurd ((h.ge (Nat.le_of_lt hi)).mp c) (by omega), fun _ => ⟨h.vin hi, fun c => ?_, fun c => ?_⟩⟩
    · rw [h.row hi, bc (by omega), show (2 : Int32) = nI 2 from rfl, nI_ltI (by omega) (by omega)] at c
      rw [msk, if_neg (by rw [decide_eq_true_iff]; omega), Nat.add_zero] at ih
      rw [nI_1]
      exact ih
    · rw [h.row hi, bc (by omega), show (2 : Int32) = nI 2 from rfl, nI_ltI (by omega) (by omega)] at c
      rw [msk, if_pos (by rw [decide_eq_true_iff]; omega)] at ih
      rw [nI_1, sh1 (by omega), io, or_add (msk_lt _ i)]
      exact ih
/-- the union of those of the first sets that a mask names -/
def unT (g : Nat → Nat) (mk : Nat) : Nat → Nat
  | 0 => 0
  | i + 1 => if mk.testBit i then unT g mk i ||| g i else unT g mk i
theorem unT_bit (g : Nat → Nat) (mk j : Nat) : ∀ i, (unT g mk i).testBit j = true ↔ ∃ k, k < i ∧ mk.testBit k = true ∧ (g k).testBit j = true
  | 0 => by simp [unT]
  | i + 1 => by
    rw [unT]
    by_cases hm : mk.testBit i = true
    · rw [if_pos hm, Nat.testBit_or, Bool.or_eq_true, unT_bit g mk j i]
      constructor
      · rintro (⟨k, a, b, c⟩ | c)
        · exact ⟨k, by omega, b, c⟩
        · exact ⟨i, by omega, hm, c⟩
      · rintro ⟨k, a, b, c⟩
        by_cases e : k = i
        · subst e; exact Or.inr c
        · exact Or.inl ⟨k, by omega, b, c⟩
    · rw [if_neg hm, unT_bit g mk j i]
      constructor
      · rintro ⟨k, a, b, c⟩
        exact ⟨k, by omega, b, c⟩
      · rintro ⟨k, a, b, c⟩
        by_cases e : k = i
        · subst e; exact absurd b hm
        · exact ⟨k, by omega, b, c⟩
theorem s_unionOf {mk : Nat} (hf : IsF f) (h : Fam mem f n S) (hm : mk < 2 ^ 31) : CI shX m_Family_unionOf d [.ref f, .int (nI mk)] mem (fun r m' => r = nI (unT (fun i => S.getD i 0) mk S.length) ∧ m' = mem) := by
  have hl := h.2.2.1
  refine e_Family_unionOf hf ?_
  refine downInd (P := fun i => Wp shX m_Family_unionOf d 4 [some (.ref f), some (.int (nI mk)), some (.int (nI (unT (fun i => S.getD i 0) mk i))), some (.int (nI i))] [] mem (QI _)) S.length ?_ ?_ 0 (Nat.zero_le _)
  · exact b_Family_unionOf_4 hf ⟨fun _ => ⟨rfl, rfl⟩, fun c => absurd ((h.ge (Nat.le_refl _)).mpr rfl) c⟩
  · intro i hi ih
    refine b_Family_unionOf_4 hf ⟨fun c => absurd ((h.ge (Nat.le_of_lt hi)).mp c) (by omega), fun _ => ⟨fun c => ?_, fun c => ⟨h.vin hi, ?_⟩⟩⟩
    · rw [hasI0 hm (by omega)] at c
      rw [unT, if_neg (by simp [c])] at ih
      rw [nI_1]
      exact ih
    · rw [hasI0 hm (by omega), Bool.not_eq_false] at c
      rw [unT, if_pos c] at ih
      rw [nI_1, h.row hi, io]
      exact ih
theorem s_find {x : Nat} (hf : IsF f) (h : Fam mem f n S) (hx : x < 2 ^ 31) : CI shX m_Family_find d [.ref f, .int (nI x)] mem (fun r m' => (r = -1 ↔ x ∉ S) ∧ m' = mem) := by
  have hl := h.2.2.1
  refine e_Family_find hf ?_
  refine downInd (P := fun i => (∀ j, j < i → S.getD j 0 ≠ x) → Wp shX m_Family_find d 2 [some (.ref f), some (.int (nI x)), some (.int (nI i))] [] mem (QI _)) S.length ?_ ?_ 0 (Nat.zero_le _) (fun j hj => absurd hj (by omega))
  · intro hn
    refine b_Family_find_2 hf ⟨fun _ => ⟨⟨fun _ hx => ?_, fun _ => rfl⟩, rfl⟩, fun c => absurd ((h.ge (Nat.le_refl _)).mpr rfl) c⟩
    obtain ⟨j, hj, e⟩ := List.getElem_of_mem hx
    exact hn j hj (by rw [List.getD_eq_getElem?_getD, List.getElem?_eq_getElem hj]; exact e)
  · intro i hi ih hn
    have hs := h.small i
    refine b_Family_find_2 hf ⟨fun c => absurd ((h.ge (Nat.le_of_lt hi)).mp c) (by omega), fun _ => ⟨h.vin hi, fun c => ?_, fun c => ⟨⟨fun e => ?_, fun e => ?_⟩, rfl⟩⟩⟩
    · rw [h.row hi, nI_inj (by omega) hx] at c
      rw [nI_1]
      refine ih (fun j hj => ?_)
      by_cases e : j = i
      · subst e; exact c
      · exact hn j (by omega)
    · exact absurd (show nI i < 0 by rw [e]; decide) (nI_pos (by omega))
    · rw [h.row hi, nI_inj (by omega) hx] at c
      refine absurd ?_ e
      rw [← c, List.getD_eq_getElem?_getD, List.getElem?_eq_getElem hi]
      exact List.getElem_mem hi
theorem s_startAnew {n : Nat} (hf : IsF f) (hn : n ≤ 10) : CV shX m_Family_startAnew d [.ref f, .int (nI n)] mem (fun m' => Fam m' f n [] ∧ Same mem m' [f]) := by
  refine e_Family_startAnew hf ⟨⟨up2_at, ?_, by decide, hn, fun i hi => absurd hi (by simp), fun i => by simp⟩, ?_⟩
  · rw [up2_nj (by decide), up2_at]; rfl
  · exact Same.tr (m2 := up2 mem f 1 0) (Same.up (by simp)) (Same.up (by simp))
theorem getD_app {S : List Nat} {x i : Nat} : (S ++ [x]).getD i 0 = if i < S.length then S.getD i 0 else if i = S.length then x else 0 := by
  rw [List.getD_eq_getElem?_getD, List.getElem?_append]
  by_cases h : i < S.length
  · rw [if_pos h, if_pos h, List.getD_eq_getElem?_getD]
  · rw [if_neg h, if_neg h]
    by_cases e : i = S.length
    · subst e; simp
    · rw [if_neg e, List.getElem?_eq_none (by simp; omega)]; rfl
theorem s_append {x : Nat} (hf : IsF f) (h : Fam mem f n S) (hl : S.length < 17) (hx : x < 1024) : CV shX m_Family_append d [.ref f, .int (nI x)] mem (fun m' => Fam m' f n (S ++ [x]) ∧ Same mem m' [f, f + 1]) := by
  obtain ⟨h1, h2, h3, h4, h5, h6⟩ := h
  have hne : f + 1 ≠ f := by omega
  refine e_Family_append hf ⟨fun c => ?_, fun c => ⟨?_, ?_, ?_⟩⟩
  · rw [h2, show (17 : Int32) = nI 17 from rfl, nI_leI (by decide) (by omega)] at c
    omega
  · rw [h2]; exact vp_in_nI hl (by decide)
  · refine ⟨?_, ?_, ?_, h4, ?_, ?_⟩
    · rw [up2_nj (by decide), up2_ne hne.symm]; exact h1
    · rw [up2_at, up2_ne hne.symm, h2, nI_1, List.length_append]; rfl
    · rw [List.length_append]; exact hl
    · intro i hi
      rw [List.length_append] at hi
      rw [up2_ne hne, h2, nI_clamp (by omega), getD_app]
      by_cases e : i = S.length
      · subst e; rw [up2_at, if_neg (Nat.lt_irrefl _), if_pos rfl]
      · have hlt : i < S.length := by simp at hi; omega
        rw [up2_nj e, if_pos hlt]; exact h5 i hlt
    · intro i
      rw [getD_app]
      split
      · exact h6 i
      · split
        · exact hx
        · decide
  · exact Same.tr (m2 := up2 mem (f + 1) (mem f 1).toNatClampNeg (nI x)) (Same.up (by simp)) (Same.up (by simp))
def addNew (S : List Nat) (x : Nat) : List Nat := if x = 0 ∨ x ∈ S then S else S ++ [x]
theorem s_appendNew {x : Nat} (hf : IsF f) (h : Fam mem f n S) (hl : S.length < 17) (hx : x < 1024) : CV shX m_Family_appendNew (d + 1) [.ref f, .int (nI x)] mem (fun m' => Fam m' f n (addNew S x) ∧ Same mem m' [f, f + 1]) := by
  refine e_Family_appendNew hf ⟨fun c => ?_, fun c => ?_⟩
  · rw [nI_z (by omega)] at c
    rw [addNew, if_pos (Or.inl c)]
    exact ⟨h, Same.rf⟩
  · rw [nI_z (by omega)] at c
    refine (s_find hf h (by omega)).mono ?_
    rintro r m' ⟨hr, rfl⟩
    refine ⟨fun e => ?_, fun e => ?_⟩
    · have : x ∈ S := Classical.byContradiction (fun z => e (hr.mpr z))
      rw [addNew, if_pos (Or.inr this)]
      exact ⟨h, Same.rf⟩
    · have hn := hr.mp e
      rw [addNew, if_neg (fun z => z.elim c hn)]
      exact s_append hf h hl hx
theorem getD_take {S : List Nat} {i j : Nat} (h : j < i) : (S.take i).getD j 0 = S.getD j 0 := by
  rw [List.getD_eq_getElem?_getD, List.getElem?_take, if_pos h, List.getD_eq_getElem?_getD]
theorem take_succ_getD {S : List Nat} {i : Nat} (h : i < S.length) : S.take (i + 1) = S.take i ++ [S.getD i 0] := by
  rw [List.take_succ, List.getD_eq_getElem?_getD, List.getElem?_eq_getElem h]
  rfl
theorem s_copySetsFrom {g n' : Nat} (hf : IsF f) (hg : IsF g) (hfg : f ≠ g) (h : Fam mem g n S) (h2 : mem f 2 = nI n') (hn : n' ≤ 10) : CV shX m_Family_copySetsFrom (d + 1) [.ref f, .ref g] mem (fun m' => Fam m' f n' S ∧ Same mem m' [f, f + 1]) := by
  have hl := h.2.2.1
  have n1 := isF_ne hf hg
  have n2 := isF_ne hg hf
  have gs : ∀ m0, Same mem m0 [f, f + 1] → Fam m0 g n S := fun m0 hs => h.same hs (by simp; omega) (by simp; omega)
  refine e_Family_copySetsFrom hf hg ?_
  have hF1 : Fam (up2 mem f 1 0) f n' [] := ⟨by rw [up2_nj (by decide)]; exact h2, by rw [up2_at]; rfl, by decide, hn, fun i hi => absurd hi (by simp), fun i => by simp⟩
  have hS1 : Same mem (up2 mem f 1 0) [f, f + 1] := Same.up (by simp)
  refine downInd (P := fun i => ∀ m0, Fam m0 f n' (S.take i) → Same mem m0 [f, f + 1] → Wp shX m_Family_copySetsFrom (d + 1) 7 [some (.ref f), some (.ref g), some (.int (nI i))] [] m0 (QV _)) S.length ?_ ?_ 0 (Nat.zero_le _) _ (by rw [List.take_zero]; exact hF1) hS1
  · intro m0 hF hS
    rw [List.take_length] at hF
    exact b_Family_copySetsFrom_7 hf hg ⟨fun _ => ⟨hF, hS⟩, fun c => absurd (((gs m0 hS).ge (Nat.le_refl _)).mpr rfl) c⟩
  · intro i hi ih m0 hF hS
    have hG := gs m0 hS
    refine b_Family_copySetsFrom_7 hf hg ⟨fun c => absurd ((hG.ge (Nat.le_of_lt hi)).mp c) (by omega), fun _ => ⟨hG.vin hi, ?_⟩⟩
    rw [hG.row hi]
    refine (s_append hf hF (by rw [List.length_take]; omega) (hG.small i)).mono ?_
    rintro m2 ⟨hF2, hS2⟩
    rw [nI_1]
    exact ih m2 (by rw [take_succ_getD hi]; exact hF2) (hS.tr hS2)
theorem s_copyFrom {g : Nat} (hf : IsF f) (hg : IsF g) (hfg : f ≠ g) (h : Fam mem g n S) : CV shX m_Family_copyFrom (d + 2) [.ref f, .ref g] mem (fun m' => Fam m' f n S ∧ Same mem m' [f, f + 1]) := by
  have n1 := isF_ne hf hg
  refine e_Family_copyFrom hf hg ?_
  have hG : Fam (up2 mem f 2 (mem g 2)) g n S := h.of (up2_ne (fun e => hfg e.symm)) (up2_ne (fun e => isF_ne hg hf e))
  refine (s_copySetsFrom hf hg hfg hG (by rw [up2_at]; exact h.1) h.2.2.2.1).mono ?_
  rintro m1 ⟨hF1, hS1⟩
  exact ⟨hF1, (Same.up (by simp)).tr hS1⟩
/-- those of the first sets whose number p takes -/
def sel (g : Nat → Nat) (p : Nat → Bool) (i : Nat) : List Nat := ((List.range i).filter p).map g
theorem sel_succ (g : Nat → Nat) (p : Nat → Bool) (i : Nat) : sel g p (i + 1) = if p i then sel g p i ++ [g i] else sel g p i := by
  rw [sel, List.range_succ, List.filter_append, List.map_append]
  by_cases h : p i = true
  · rw [if_pos h]; simp [sel, h]
  · rw [if_neg h]; simp [sel, h]
theorem sel_len (g : Nat → Nat) (p : Nat → Bool) (i : Nat) : (sel g p i).length ≤ i := by
  rw [sel, List.length_map]
  exact Nat.le_trans (List.length_filter_le _ _) (by rw [List.length_range]; exact Nat.le_refl _)
theorem s_takeOut {mk : Nat} (hf : IsF f) (h : Fam mem f n S) (hm : mk < 2 ^ 31) : CV shX m_Family_takeOut d [.ref f, .int (nI mk)] mem (fun m' => Fam m' f n (sel (fun i => S.getD i 0) (fun i => !mk.testBit i) S.length) ∧ Same mem m' [f, f + 1]) := by
  have hl := h.2.2.1
  have hne : f + 1 ≠ f := by omega
  obtain ⟨h1, h2, h3, h4, h5, h6⟩ := id h
  refine e_Family_takeOut hf ?_
  refine downInd (P := fun i => ∀ m0 : Mem, m0 f = mem f → (∀ j, i ≤ j → m0 (f + 1) j = mem (f + 1) j) → (∀ j, j < (sel (fun i => S.getD i 0) (fun i => !mk.testBit i) i).length → m0 (f + 1) j = nI ((sel (fun i => S.getD i 0) (fun i => !mk.testBit i) i).getD j 0)) → Same mem m0 [f, f + 1] → Wp shX m_Family_takeOut d 4 [some (.ref f), some (.int (nI mk)), some (.int (nI (sel (fun i => S.getD i 0) (fun i => !mk.testBit i) i).length)), some (.int (nI i))] [] m0 (QV _)) S.length ?_ ?_ 0 (Nat.zero_le _) mem rfl (fun _ _ => rfl) (fun j hj => absurd hj (by simp [sel])) Same.rf
  · intro m0 e1 e2 e3 hS
    have hk := sel_len (fun i => S.getD i 0) (fun i => !mk.testBit i) S.length
    refine b_Family_takeOut_4 hf ⟨fun _ => ⟨⟨?_, up2_at, by omega, h4, fun j hj => ?_, fun j => ?_⟩, hS.tr (Same.up (by simp))⟩, fun c => absurd (by rw [e1]; exact (h.ge (Nat.le_refl _)).mpr rfl) c⟩
    · rw [up2_nj (by decide), e1]; exact h1
    · rw [up2_ne hne]; exact e3 j hj
    · rw [List.getD_eq_getElem?_getD]
      by_cases hj : j < (sel (fun i => S.getD i 0) (fun i => !mk.testBit i) S.length).length
      · rw [List.getElem?_eq_getElem hj]
        have hmem := List.getElem_mem hj
        obtain ⟨z, -, hz⟩ := List.mem_map.mp hmem
        rw [Option.getD_some, ← hz]
        exact h6 z
      · rw [List.getElem?_eq_none (by omega)]; decide
  · intro i hi ih m0 e1 e2 e3 hS
    have hk := sel_len (fun i => S.getD i 0) (fun i => !mk.testBit i) i
    refine b_Family_takeOut_4 hf ⟨fun c => absurd ((h.ge (Nat.le_of_lt hi)).mp (by rw [← e1]; exact c)) (by omega), fun _ => ⟨fun c => ?_, fun c => ⟨h.vin hi, vp_in_nI (by omega) (by decide), ?_⟩⟩⟩
    · rw [hasI0 hm (by omega), Bool.not_eq_false] at c
      rw [sel_succ, if_neg (by simp [c])] at ih
      rw [nI_1]
      exact ih m0 e1 (fun j hj => e2 j (by omega)) e3 hS
    · rw [hasI0 hm (by omega)] at c
      rw [sel_succ, if_pos (by simp [c])] at ih
      rw [nI_1, nI_1, nI_clamp (by omega), nI_clamp (by omega)]
      rw [List.length_append] at ih
      refine ih _ ?_ ?_ ?_ ?_
      · rw [up2_ne hne.symm]; exact e1
      · intro j hj
        rw [up2_nj (by omega)]; exact e2 j (by omega)
      · intro j hj
        rw [getD_app]
        by_cases e : j = (sel (fun i => S.getD i 0) (fun i => !mk.testBit i) i).length
        · subst e
          rw [up2_at, if_neg (Nat.lt_irrefl _), if_pos rfl, e2 i (Nat.le_refl i)]
          exact h5 i hi
        · have hlt : j < (sel (fun i => S.getD i 0) (fun i => !mk.testBit i) i).length := by rw [List.length_cons, List.length_nil] at hj; omega
          rw [up2_nj e, if_pos hlt]; exact e3 j hlt
      · exact hS.tr (Same.up (by simp))
theorem s_hasSameSetsAs {g n' : Nat} {T' : List Nat} (hf : IsF f) (hg : IsF g) (h : Fam mem f n S) (h' : Fam mem g n' T') : CI shX m_Family_hasSameSetsAs d [.ref f, .ref g] mem (fun r m' => r = b2i (S = T') ∧ m' = mem) := by
  have hl := h.2.2.1
  have hl' := h'.2.2.1
  refine e_Family_hasSameSetsAs hf hg ⟨fun c => ?_, fun c => ?_⟩
  · rw [h.2.1, h'.2.1, nI_inj (by omega) (by omega)] at c
    refine downInd (P := fun i => (∀ j, j < i → S.getD j 0 = T'.getD j 0) → Wp shX m_Family_hasSameSetsAs d 15 [some (.ref f), some (.ref g), some (.int (nI i))] [] mem (QI _)) S.length ?_ ?_ 0 (Nat.zero_le _) (fun j hj => absurd hj (by omega))
    · intro hn
      refine b_Family_hasSameSetsAs_15 hf hg ⟨fun _ => ⟨?_, rfl⟩, fun c => absurd ((h.ge (Nat.le_refl _)).mpr rfl) c⟩
      rw [b2i_t]
      apply List.ext_getElem c
      intro j h1 h2
      have := hn j h1
      rw [List.getD_eq_getElem?_getD, List.getD_eq_getElem?_getD, List.getElem?_eq_getElem h1, List.getElem?_eq_getElem h2] at this
      exact this
    · intro i hi ih hn
      have hs := h.small i
      have hs' := h'.small i
      refine b_Family_hasSameSetsAs_15 hf hg ⟨fun c => absurd ((h.ge (Nat.le_of_lt hi)).mp c) (by omega), fun _ => ⟨h.vin hi, h.vin hi, fun c2 => ?_, fun c2 => ⟨?_, rfl⟩⟩⟩
      · rw [h.row hi, h'.row (by omega), nI_inj (by omega) (by omega)] at c2
        rw [nI_1]
        refine ih (fun j hj => ?_)
        by_cases e : j = i
        · subst e; exact c2
        · exact hn j (by omega)
      · rw [h.row hi, h'.row (by omega), nI_inj (by omega) (by omega)] at c2
        rw [b2i_f]
        intro e
        exact c2 (by rw [e])
  · rw [h.2.1, h'.2.1, nI_inj (by omega) (by omega)] at c
    exact ⟨by rw [b2i_f (fun e => c (by rw [e]))], rfl⟩
end FAM
