/-! acts of the reference -/
/-- no two sets the same, none empty, all of the first n points, at most 16 -/
def GdS (n : Nat) (S : List Nat) : Prop := S.length ≤ 16 ∧ (∀ x y, x < y → y < S.length → S.getD x 0 ≠ S.getD y 0) ∧ (∀ i, i < S.length → S.getD i 0 ≠ 0) ∧ ∀ i, S.getD i 0 < 2 ^ n
theorem swF_bit {p q x j : Nat} : (swF p q x).testBit j = if j = p then x.testBit q else if j = q then x.testBit p else x.testBit j := by
  unfold swF
  by_cases h : x.testBit p = x.testBit q
  · rw [if_pos h]
    split
    · rename_i e; rw [e]; exact h
    · split
      · rename_i e; rw [e]; exact h.symm
      · rfl
  · rw [if_neg h, Nat.testBit_xor, Nat.testBit_xor, Nat.testBit_two_pow, Nat.testBit_two_pow]
    by_cases e1 : j = p
    · subst e1
      rw [if_pos rfl]
      by_cases e2 : q = j
      · subst e2; exact absurd rfl h
      · revert h
        simp only [e2, decide_true, decide_false]
        cases x.testBit j <;> cases x.testBit q <;> simp
    · rw [if_neg e1]
      by_cases e2 : j = q
      · subst e2
        rw [if_pos rfl]
        revert h
        simp only [Ne.symm e1, decide_true, decide_false]
        cases x.testBit j <;> cases x.testBit p <;> simp
      · rw [if_neg e2]
        simp [Ne.symm e1, Ne.symm e2]
theorem swF_inv {p q x : Nat} : swF p q (swF p q x) = x := by
  apply Nat.eq_of_testBit_eq
  intro j
  rw [swF_bit, swF_bit, swF_bit, swF_bit]
  by_cases e1 : j = p
  · subst e1
    rw [if_pos rfl]
    by_cases e2 : q = j
    · rw [if_pos e2, e2]
    · rw [if_neg e2, if_pos rfl]
  · rw [if_neg e1]
    by_cases e2 : j = q
    · subst e2
      rw [if_pos rfl, if_pos rfl]
    · rw [if_neg e2, if_neg e1, if_neg e2]
theorem swF_0 {p q : Nat} : swF p q 0 = 0 := by unfold swF; rw [if_pos (by simp)]
theorem tnF_bit {n x j : Nat} (hn : 1 ≤ n) (hx : x < 2 ^ n) : (tnF n x).testBit j = if j = 0 then x.testBit (n - 1) else if j < n then x.testBit (j - 1) else false := by
  have hb : (x / 2 ^ (n - 1)).testBit j = if j = 0 then x.testBit (n - 1) else false := by
    rw [Nat.testBit_div_two_pow]
    by_cases e : j = 0
    · subst e; rw [if_pos rfl, Nat.zero_add]
    · rw [if_neg e]
      exact Nat.testBit_lt_two_pow (Nat.lt_of_lt_of_le hx (Nat.pow_le_pow_right (by decide) (by omega)))
  unfold tnF
  rw [Nat.testBit_or, Nat.testBit_and, Nat.testBit_two_pow_sub_one, hb]
  by_cases e : j = 0
  · subst e
    rw [if_pos rfl, if_pos rfl]
    simp
  · obtain ⟨k, rfl⟩ : ∃ k, j = k + 1 := ⟨j - 1, by omega⟩
    rw [if_neg e, if_neg e, Bool.or_false, Nat.testBit_succ, show 2 * x / 2 = x by omega, show k + 1 - 1 = k by omega]
    by_cases h2 : k + 1 < n
    · simp [h2]
    · simp [h2]
theorem tnF_inj {n x y : Nat} (hn : 1 ≤ n) (hx : x < 2 ^ n) (hy : y < 2 ^ n) (h : tnF n x = tnF n y) : x = y := by
  apply Nat.eq_of_testBit_eq
  intro j
  by_cases e : j < n
  · by_cases e2 : j = n - 1
    · have := congrArg (fun v => v.testBit 0) h
      simp only [tnF_bit hn hx, tnF_bit hn hy, if_pos rfl] at this
      rw [e2]; exact this
    · have := congrArg (fun v => v.testBit (j + 1)) h
      simp only [tnF_bit hn hx, tnF_bit hn hy, if_neg (Nat.succ_ne_zero j), if_pos (show j + 1 < n by omega)] at this
      exact this
  · rw [Nat.testBit_lt_two_pow (Nat.lt_of_lt_of_le hx (Nat.pow_le_pow_right (by decide) (by omega))), Nat.testBit_lt_two_pow (Nat.lt_of_lt_of_le hy (Nat.pow_le_pow_right (by decide) (by omega)))]
theorem tnF_0 {n : Nat} : tnF n 0 = 0 := by simp [tnF]
def Wo (mem : Mem) (T : List Nat) : Prop := mem 0 6 = nI T.length ∧ T.length ≤ 16 ∧ (∀ i, i < T.length → mem 4 i = nI (T.getD i 0)) ∧ ∀ i, T.getD i 0 < 1024
def Kx (mem m' : Mem) : Prop := (∀ c, c ≠ 0 → c ≠ 4 → m' c = mem c) ∧ ∀ j, j ≠ 6 → m' 0 j = mem 0 j
theorem Kx.rf {mem : Mem} : Kx mem mem := ⟨fun _ _ _ => rfl, fun _ _ => rfl⟩
theorem Kx.tr {a b c : Mem} (h1 : Kx a b) (h2 : Kx b c) : Kx a c := ⟨fun x y z => (h2.1 x y z).trans (h1.1 x y z), fun j hj => (h2.2 j hj).trans (h1.2 j hj)⟩
theorem Kx.keep {mem m' : Mem} (h : Kx mem m') : Keep mem m' := ⟨h.1 1 (by decide) (by decide), h.1 3 (by decide) (by decide), h.1 16 (by decide) (by decide), h.1 17 (by decide) (by decide), h.2 4 (by decide), h.2 26 (by decide)⟩
section ACM
variable {d n : Nat} {S T : List Nat} {H : List (List Nat)} {mem : Mem}
theorem MH.of {m' : Mem} (h : MH mem n H) (h4 : m' 0 4 = mem 0 4) (h3 : m' 3 = mem 3) : MH m' n H := by
  obtain ⟨a, b, c⟩ := h
  exact ⟨by rw [h4]; exact a, b, fun j hj => ⟨(c j hj).1, (c j hj).2.of (c j hj).1 (fun q _ => by rw [h3])⟩⟩
theorem map_addNew {f : Nat → Nat} {i : Nat} (hi : i < S.length) (h1 : ∀ j, j < i → f (S.getD j 0) ≠ f (S.getD i 0)) (h0 : f (S.getD i 0) ≠ 0) : addNew ((S.take i).map f) (f (S.getD i 0)) = (S.take (i + 1)).map f := by
  rw [map_take hi, addNew, if_neg]
  rintro (q | q)
  · exact h0 q
  · obtain ⟨y, y1, y2⟩ := List.mem_map.mp q
    obtain ⟨j, hj, ej⟩ := List.getElem_of_mem y1
    rw [List.length_take] at hj
    refine h1 j (by omega) ?_
    rw [← y2, ← ej, List.getElem_take, List.getD_eq_getElem?_getD, List.getElem?_eq_getElem (by omega)]
    rfl
theorem sel_addNew {p : Nat → Bool} {i : Nat} (h1 : ∀ j, j < i → S.getD j 0 ≠ S.getD i 0) (h0 : S.getD i 0 ≠ 0) (hp : p i = true) : addNew (sel (fun i => S.getD i 0) p i) (S.getD i 0) = sel (fun i => S.getD i 0) p (i + 1) := by
  rw [sel_succ, if_pos hp, addNew, if_neg]
  rintro (q | q)
  · exact h0 q
  · obtain ⟨j, j1, j2⟩ := List.mem_map.mp q
    rw [List.mem_filter, List.mem_range] at j1
    exact h1 j j1.1 j2
theorem s_wouldBegin : CV shM m_Mo_wouldBegin d [.ref 0] mem (fun m' => Wo m' [] ∧ Kx mem m') := by
  refine e_Mo_wouldBegin ⟨⟨by rw [up2_at]; exact nI_0.symm, by decide, fun i hi => absurd hi (Nat.not_lt_zero _), fun i => by simp⟩, fun c c0 _ => up2_ne c0, fun j hj => up2_nj hj⟩
theorem s_wouldHave {x : Nat} (h : Wo mem T) (hl : T.length < 16) (hx : x < 1024) : CV shM m_Mo_wouldHave (d + 1) [.ref 0, .int (nI x)] mem (fun m' => Wo m' (addNew T x) ∧ Kx mem m') := by
  obtain ⟨h1, h2, h3, h4⟩ := id h
  refine e_Mo_wouldHave ⟨fun z => ?_, fun z => ?_⟩
  · rw [nI_z (by omega)] at z
    rw [addNew, if_pos (Or.inl z)]
    exact ⟨h, Kx.rf⟩
  · rw [nI_z (by omega)] at z
    rw [h1, show (0 : Int32) = nI 0 from nI_0.symm]
    refine (s_isAmong (r0 := 4) (n0 := 16) (fr := 0) (L := T) rfl (by omega) (by decide) (fun i hi => by rw [Nat.zero_add]; exact h3 i hi) (fun i => Nat.lt_trans (h4 i) (by decide)) (by omega)).to ⟨fun z2 => ⟨by rw [h1]; exact vp_in_nI hl (by decide), ?_⟩, fun z2 => ?_⟩
    · rw [nI_0] at z2
      have hin := b2i_0.mp z2
      have e : ∀ (j : Nat) (v : Int32), (up2 mem 4 j v) 0 6 = mem 0 6 := fun j v => by rw [up2_ne (by decide)]
      rw [e, h1, nI_clamp (by omega), nI_1, addNew, if_neg (fun q => q.elim z hin)]
      refine ⟨⟨by rw [up2_at, List.length_append]; rfl, by rw [List.length_append]; exact hl, fun i hi => ?_, fun i => ?_⟩, fun c c0 c4 => by rw [up2_ne c0, up2_ne c4], fun j hj => by rw [up2_nj hj, up2_ne (by decide)]⟩
      · rw [List.length_append] at hi
        rw [up2_ne (by decide), getD_app]
        by_cases q : i = T.length
        · subst q; rw [up2_at, if_neg (Nat.lt_irrefl _), if_pos rfl]
        · have hlt : i < T.length := by simp at hi; omega
          rw [up2_nj q, if_pos hlt]; exact h3 i hlt
      · rw [getD_app]
        split
        · exact h4 i
        · split
          · exact hx
          · decide
    · rw [nI_0] at z2
      have hin := b2i_1.mp z2
      rw [addNew, if_pos (Or.inr hin)]
      exact ⟨h, Kx.rf⟩
theorem s_becomes (h : Now mem n S) (hM : MH mem n H) (hW : Wo mem T) : CV shM m_Mo_becomes (d + 1) [.ref 0] mem (fun m' => Now m' n T ∧ MH m' n (hp H S) ∧ Kt mem m') := by
  obtain ⟨w1, w2, w3, w4⟩ := hW
  refine e_Mo_becomes ?_
  refine (s_keeps h hM).mono ?_
  rintro m1 ⟨k1, k2, k3, k4⟩
  refine downInd (P := fun i => ∀ m0 : Mem, (∀ c, c ≠ 1 → m0 c = m1 c) → m0 1 0 = nI n → (∀ j, j < i → m0 1 (2 + j) = nI (T.getD j 0)) → Wp shM m_Mo_becomes (d + 1) 6 [some (.ref 0), some (.int (nI i))] [] m0 (QV (fun m' => Now m' n T ∧ MH m' n (hp H S) ∧ Kt mem m'))) T.length ?_ ?_ 0 (Nat.zero_le _) m1 (fun _ _ => rfl) (by rw [k2]; exact h.1) (fun j hj => absurd hj (Nat.not_lt_zero _))
  · intro m0 e1 e2 e3
    have e06 : m0 0 6 = nI T.length := by rw [e1 0 (by decide), k4 6 (by decide)]; exact w1
    refine b_Mo_becomes_6 ⟨fun _ => ⟨⟨by rw [up2_nj (by decide)]; exact e2, by rw [up2_at]; exact e06, w2, h.2.2.2.1, fun i hi => by rw [up2_nj (by omega)]; exact e3 i hi, w4⟩, ?_, ?_⟩, fun c => absurd (by rw [e06]; exact nI_le (Nat.le_refl _) (by omega)) c⟩
    · exact k1.of (by rw [up2_ne (by decide), e1 0 (by decide)]) (by rw [up2_ne (by decide), e1 3 (by decide)])
    · exact ⟨by rw [up2_ne (by decide), e1 16 (by decide), k3 16 (by decide) (by decide)], by rw [up2_ne (by decide), e1 17 (by decide), k3 17 (by decide) (by decide)], by rw [up2_ne (by decide), e1 0 (by decide), k4 26 (by decide)]⟩
  · intro i hi ih m0 e1 e2 e3
    have e06 : m0 0 6 = nI T.length := by rw [e1 0 (by decide), k4 6 (by decide)]; exact w1
    refine b_Mo_becomes_6 ⟨fun c => absurd c (by rw [e06]; exact nI_ge hi (by omega)), fun _ => ⟨vp_in_nI (by omega) (by decide), ?_, ?_⟩⟩
    · rw [show (2 : Int32) = nI 2 from rfl, nI_add]; exact vp_in_nI (by omega) (by decide)
    · rw [show (2 : Int32) = nI 2 from rfl, nI_add, nI_clamp (by omega), nI_clamp (by omega), e1 4 (by decide), k3 4 (by decide) (by decide), w3 i hi, nI_1]
      refine ih _ (fun c hc => by rw [up2_ne hc]; exact e1 c hc) (by rw [up2_nj (by omega)]; exact e2) (fun j hj => ?_)
      by_cases e : j = i
      · subst e; rw [up2_at]
      · rw [up2_nj (by omega)]; exact e3 j (by omega)
theorem s_changes {f : Nat → Nat} (h : Now mem n S) (hM : MH mem n H) (hW : Wo mem (S.map f)) : CI shM m_Mo_changes (d + 2) [.ref 0] mem (fun r m' => r = aMove True f S ∧ Now m' n (nS S (oMove True f S)) ∧ MH m' n (nH H S (oMove True f S)) ∧ Kt mem m') := by
  have hl := h.2.2.1
  have hl3 : (S.map f).length = S.length := List.length_map f
  refine e_Mo_changes ?_
  refine downInd (P := fun i => Wp shM m_Mo_changes (d + 2) 4 [some (.ref 0), some (.int (nI (cntP (fun i => !decide (f (S.getD i 0) = S.getD i 0)) i))), some (.int (nI i))] [] mem (QI (fun r m' => r = aMove True f S ∧ Now m' n (nS S (oMove True f S)) ∧ MH m' n (nH H S (oMove True f S)) ∧ Kt mem m'))) S.length ?_ ?_ 0 (Nat.zero_le _)
  · have hc := cntP_le (fun i => !decide (f (S.getD i 0) = S.getD i 0)) S.length
    refine b_Mo_changes_4 ⟨fun _ => ?_, fun c => absurd ((h.ge (Nat.le_refl _)).mpr rfl) c⟩
    rw [nI_z (by omega)]
    refine ⟨fun z => ?_, fun z => ?_⟩
    · have hz : True ∧ chN f S ≠ 0 := ⟨trivial, z⟩
      rw [aMove, oMove, ifP_t hz, ifP_t hz]
      refine (s_becomes h hM hW).mono ?_
      rintro m1 ⟨q1, q2, q3⟩
      exact ⟨rfl, q1, q2, q3⟩
    · have hz : ¬ (True ∧ chN f S ≠ 0) := fun q => q.2 z
      rw [aMove, oMove, ifP_f hz, ifP_f hz]
      exact ⟨rfl, h, hM, Kt.rf⟩
  · intro i hi ih
    refine b_Mo_changes_4 ⟨fun c => absurd ((h.ge (Nat.le_of_lt hi)).mp c) (by omega), fun _ => ⟨vp_in_nI (by omega) (by decide), h.vin hi, ?_⟩⟩
    have hs1 := h.2.2.2.2.2 i
    have hs3 := hW.2.2.2 i
    rw [h.row hi, nI_clamp (by omega), hW.2.2.1 i (by rw [hl3]; exact hi), nI_inj (by omega) (by omega), map_getD hi, nI_1, nI_1]
    rw [cntP] at ih
    refine ⟨fun z => ?_, fun z => ?_⟩
    · rw [if_neg (by rw [Bool.not_eq_true', decide_eq_false_iff_not]; exact fun q => q z), Nat.add_zero] at ih; exact ih
    · rw [if_pos (by rw [Bool.not_eq_true', decide_eq_false_iff_not]; exact z)] at ih; exact ih
theorem isPt_iff {a : Int32} (hn : n ≤ 10) : (0 ≤ a ∧ a ≤ nI n - 1) ↔ Ptp n a := isThere_iff (m := n) (by omega)
theorem y_add {a : Int32} (h : Now mem n S) (hM : MH mem n H) : CI shM m_Mo_add (d + 2) [.ref 0, .int a] mem (fun r m' => r = aAdd n S a ∧ Now m' n (nS S (oAdd n S a)) ∧ MH m' n (nH H S (oAdd n S a)) ∧ Kt mem m') := by
  have hl := h.2.2.1
  have hn := h.2.2.2.1
  have no : ¬ ((0 < a ∧ a ≤ alF (nI n)) ∧ a.toNatClampNeg ∉ S ∧ S.length < 16) → (-1 : Int32) = aAdd n S a ∧ Now mem n (nS S (oAdd n S a)) ∧ MH mem n (nH H S (oAdd n S a)) ∧ Kt mem mem := fun z => by
    rw [aAdd, oAdd, ifP_f z, ifP_f z]; exact ⟨rfl, h, hM, Kt.rf⟩
  refine e_Mo_add ⟨fun c => no (fun z => c (by rw [h.1]; exact ⟨Int32.le_of_lt z.1.1, z.1.2⟩)), fun c => ⟨fun c2 => no (fun z => by have := z.1.1; rw [c2] at this; exact absurd this (by decide)), fun c2 => ?_⟩⟩
  rw [h.1] at c
  obtain ⟨x, x1, xn, rfl⟩ := pts hn c
  rw [nI_z (by omega)] at c2
  have ex : (nI x).toNatClampNeg = x := nI_clamp (by omega)
  refine (s_isTold h (by omega)).to ⟨fun z => no (fun q => q.2.1 (by rw [ex]; exact b2i_1.mp z)), fun z => ?_⟩
  rw [h.2.1, show ((nI S.length : Int32) = 16) = (nI S.length = nI 16) from rfl, nI_inj (by omega) (by decide)]
  refine ⟨fun z2 => ?_, fun z2 => no (fun q => by have := q.2.2; omega)⟩
  have hc : (0 < nI x ∧ nI x ≤ alF (nI n)) ∧ (nI x).toNatClampNeg ∉ S ∧ S.length < 16 := ⟨⟨nI_lt (a := 0) (by omega) (by omega), c.2⟩, by rw [ex]; exact b2i_0.mp z, by omega⟩
  rw [aAdd, oAdd, ifP_t hc, ifP_t hc, ex]
  refine (s_keeps h hM).mono ?_
  rintro m1 ⟨k1, k2, k3, k4⟩
  have e11 : m1 1 1 = nI S.length := by rw [k2]; exact h.2.1
  have e : ∀ (v : Int32), (up2 m1 1 (2 + S.length) v) 1 1 = nI S.length := fun v => by rw [up2_nj (by omega)]; exact e11
  rw [e11, show (2 : Int32) = nI 2 from rfl, nI_add, nI_clamp (by omega), e, up2_at, nI_1, show nI (S.length + 1) - 1 = nI S.length from nI_pred _]
  refine ⟨vp_in_nI (by omega) (by decide), rfl, ⟨?_, ?_, ?_, hn, fun i hi => ?_, fun i => ?_⟩, ?_, ?_⟩
  · rw [up2_nj (by decide), up2_nj (by omega), k2]; exact h.1
  · rw [up2_at]; simp only [nS, List.length_append]; rfl
  · simp only [nS, List.length_append]; simp; omega
  · simp only [nS, List.length_append] at hi ⊢
    rw [up2_nj (by omega), getD_app]
    by_cases q : i = S.length
    · subst q; rw [up2_at, if_neg (Nat.lt_irrefl _), if_pos rfl]
    · have hlt : i < S.length := by simp at hi; omega
      rw [up2_nj (by omega), if_pos hlt, k2]; exact h.2.2.2.2.1 i hlt
  · simp only [nS]
    rw [getD_app]
    split
    · exact h.2.2.2.2.2 i
    · split
      · exact x1
      · decide
  · exact k1.of (by rw [up2_ne (by decide), up2_ne (by decide)]) (by rw [up2_ne (by decide), up2_ne (by decide)])
  · exact ⟨by rw [up2_ne (by decide), up2_ne (by decide), k3 16 (by decide) (by decide)], by rw [up2_ne (by decide), up2_ne (by decide), k3 17 (by decide) (by decide)], by rw [up2_ne (by decide), up2_ne (by decide), k4 26 (by decide)]⟩
/-- the list without its i-th -/
theorem dr_get {i : Nat} : ∀ m, i < m → (sel (fun i => S.getD i 0) (fun j => !(2 ^ i).testBit j) m).length = m - 1 ∧ ∀ j, j < m - 1 → (sel (fun i => S.getD i 0) (fun j => !(2 ^ i).testBit j) m).getD j 0 = if j < i then S.getD j 0 else S.getD (j + 1) 0 := by
  have low : ∀ m, m ≤ i → (sel (fun i => S.getD i 0) (fun j => !(2 ^ i).testBit j) m).length = m ∧ ∀ j, j < m → (sel (fun i => S.getD i 0) (fun j => !(2 ^ i).testBit j) m).getD j 0 = S.getD j 0 := by
    intro m
    induction m with
    | zero => intro _; exact ⟨rfl, fun j hj => absurd hj (Nat.not_lt_zero _)⟩
    | succ m ih =>
      intro hm
      obtain ⟨l1, l2⟩ := ih (by omega)
      rw [sel_succ, if_pos (by rw [Nat.testBit_two_pow]; simp; omega)]
      refine ⟨by rw [List.length_append, l1]; rfl, fun j hj => ?_⟩
      rw [getD_app, l1]
      by_cases e : j = m
      · subst e; rw [if_neg (Nat.lt_irrefl _), if_pos rfl]
      · rw [if_pos (by omega)]; exact l2 j (by omega)
  intro m
  induction m with
  | zero => intro h; omega
  | succ m ih =>
    intro hm
    by_cases e : i = m
    · subst e
      obtain ⟨l1, l2⟩ := low i (Nat.le_refl _)
      rw [sel_succ, if_neg (by rw [Nat.testBit_two_pow]; simp)]
      refine ⟨by rw [l1]; omega, fun j hj => ?_⟩
      rw [if_pos (by omega)]; exact l2 j (by omega)
    · obtain ⟨l1, l2⟩ := ih (by omega)
      rw [sel_succ, if_pos (by rw [Nat.testBit_two_pow]; simp; omega)]
      refine ⟨by rw [List.length_append, l1]; simp; omega, fun j hj => ?_⟩
      rw [getD_app, l1]
      by_cases e2 : j = m - 1
      · subst e2
        rw [if_neg (Nat.lt_irrefl _), if_pos rfl, if_neg (by omega)]
        congr 1
        omega
      · rw [if_pos (by omega)]; exact l2 j (by omega)
theorem y_drop {a : Int32} (h : Now mem n S) (hM : MH mem n H) : CI shM m_Mo_drop (d + 2) [.ref 0, .int a] mem (fun r m' => r = aDrop S a ∧ Now m' n (nS S (oDrop S a)) ∧ MH m' n (nH H S (oDrop S a)) ∧ Kt mem m') := by
  have hl := h.2.2.1
  rw [aDrop, oDrop]
  refine e_Mo_drop ?_
  rw [h.2.1, isThere_iff hl]
  refine ⟨fun c => ?_, fun c => ?_⟩
  · rw [ifP_t c, ifP_t c]
    obtain ⟨i, hi, rfl⟩ := of_in (by omega) c.1 c.2
    rw [nI_clamp (by omega)]
    obtain ⟨t1, t2⟩ := dr_get (S := S) (i := i) S.length hi
    refine (s_keeps h hM).mono ?_
    rintro m1 ⟨k1, k2, k3, k4⟩
    refine downInd (P := fun k => i ≤ k → ∀ m0 : Mem, (∀ c, c ≠ 1 → m0 c = m1 c) → m0 1 0 = nI n → m0 1 1 = nI S.length → (∀ j, j < k → m0 1 (2 + j) = nI (if j < i then S.getD j 0 else S.getD (j + 1) 0)) → (∀ j, k ≤ j → j < S.length → m0 1 (2 + j) = nI (S.getD j 0)) → Wp shM m_Mo_drop (d + 2) 16 [some (.ref 0), none, some (.int (nI k))] [] m0 (QI (fun r m' => r = 1 ∧ Now m' n (nS S (some (sel (fun i => S.getD i 0) (fun j => !(2 ^ i).testBit j) S.length))) ∧ MH m' n (nH H S (some (sel (fun i => S.getD i 0) (fun j => !(2 ^ i).testBit j) S.length))) ∧ Kt mem m'))) (S.length - 1) ?_ ?_ i (by omega) (Nat.le_refl _) m1 (fun _ _ => rfl) (by rw [k2]; exact h.1) (by rw [k2]; exact h.2.1) (fun j hj => by rw [if_pos hj, k2]; exact h.2.2.2.2.1 j (by omega)) (fun j _ hj => by rw [k2]; exact h.2.2.2.2.1 j hj)
    · intro _ m0 e1 e2 e3 e4 e5
      refine b_Mo_drop_16 ⟨fun _ => ⟨rfl, ⟨by rw [up2_nj (by decide)]; exact e2, ?_, by simp only [nS]; omega, h.2.2.2.1, fun j hj => ?_, fun j => ?_⟩, ?_, ?_⟩, fun q => absurd (by rw [e3, nI_1]; exact nI_le (by omega) (by omega)) q⟩
      · rw [up2_at, e3]
        simp only [nS]
        rw [t1]
        exact pk_sub (a := S.length) (b := 1) (by omega)
      · simp only [nS] at hj ⊢
        rw [t1] at hj
        rw [up2_nj (by omega), t2 j hj]; exact e4 j hj
      · simp only [nS]; exact sel_small h.2.2.2.2.2 j
      · exact k1.of (by rw [up2_ne (by decide), e1 0 (by decide)]) (by rw [up2_ne (by decide), e1 3 (by decide)])
      · exact ⟨by rw [up2_ne (by decide), e1 16 (by decide), k3 16 (by decide) (by decide)], by rw [up2_ne (by decide), e1 17 (by decide), k3 17 (by decide) (by decide)], by rw [up2_ne (by decide), e1 0 (by decide), k4 26 (by decide)]⟩
    · intro k hk ih hik m0 e1 e2 e3 e4 e5
      refine b_Mo_drop_16 ⟨fun q => absurd q (by rw [e3, nI_1]; exact nI_ge (by omega) (by omega)), fun _ => ⟨?_, ?_, ?_⟩⟩
      · rw [show (2 : Int32) = nI 2 from rfl, nI_add, nI_1]; exact vp_in_nI (by omega) (by decide)
      · rw [show (2 : Int32) = nI 2 from rfl, nI_add]; exact vp_in_nI (by omega) (by decide)
      · rw [show (2 : Int32) = nI 2 from rfl, nI_add, nI_1, nI_1, nI_clamp (by omega), nI_clamp (by omega), show 2 + k + 1 = 2 + (k + 1) by omega, e5 (k + 1) (by omega) (by omega)]
        refine ih (by omega) _ (fun c hc => by rw [up2_ne hc]; exact e1 c hc) (by rw [up2_nj (by omega)]; exact e2) (by rw [up2_nj (by omega)]; exact e3) (fun j hj => ?_) (fun j hj hj2 => by rw [up2_nj (by omega)]; exact e5 j (by omega) hj2)
        by_cases e : j = k
        · subst e; rw [up2_at, if_neg (by omega)]
        · rw [up2_nj (by omega)]; exact e4 j (by omega)
  · rw [ifP_f c, ifP_f c]
    exact ⟨rfl, h, hM, Kt.rf⟩
theorem y_change {a b : Int32} (h : Now mem n S) (hM : MH mem n H) : CI shM m_Mo_change (d + 2) [.ref 0, .int a, .int b] mem (fun r m' => r = aChange n S a b ∧ Now m' n (nS S (oChange n S a b)) ∧ MH m' n (nH H S (oChange n S a b)) ∧ Kt mem m') := by
  have hl := h.2.2.1
  have hn := h.2.2.2.1
  have no : ¬ ((0 ≤ a ∧ a < nI S.length) ∧ (0 < b ∧ b ≤ alF (nI n)) ∧ b.toNatClampNeg ∉ S) → (-1 : Int32) = aChange n S a b ∧ Now mem n (nS S (oChange n S a b)) ∧ MH mem n (nH H S (oChange n S a b)) ∧ Kt mem mem := fun z => by
    rw [aChange, oChange, ifP_f z, ifP_f z]; exact ⟨rfl, h, hM, Kt.rf⟩
  refine e_Mo_change ?_
  rw [h.2.1, isThere_iff hl, h.1]
  refine ⟨fun c => no (fun z => c z.1), fun c => ⟨fun c2 => no (fun z => c2 ⟨Int32.le_of_lt z.2.1.1, z.2.1.2⟩), fun c2 => ⟨fun c3 => no (fun z => by have := z.2.1.1; rw [c3] at this; exact absurd this (by decide)), fun c3 => ?_⟩⟩⟩
  obtain ⟨x, x1, xn, rfl⟩ := pts hn c2
  obtain ⟨i, hi, rfl⟩ := of_in (by omega) c.1 c.2
  rw [nI_z (by omega)] at c3
  have ex : (nI x).toNatClampNeg = x := nI_clamp (by omega)
  have ei : (nI i).toNatClampNeg = i := nI_clamp (by omega)
  refine (s_isTold h (by omega)).to ⟨fun z => ?_, fun z => no (fun q => q.2.2 (by rw [ex]; exact b2i_1.mp z))⟩
  have hc : (0 ≤ nI i ∧ nI i < nI S.length) ∧ (0 < nI x ∧ nI x ≤ alF (nI n)) ∧ (nI x).toNatClampNeg ∉ S := ⟨c, ⟨nI_lt (a := 0) (by omega) (by omega), c2.2⟩, by rw [ex]; exact b2i_0.mp z⟩
  rw [aChange, oChange, ifP_t hc, ifP_t hc, ex, ei]
  refine (s_keeps h hM).mono ?_
  rintro m1 ⟨k1, k2, k3, k4⟩
  have hv : vp_in (2 + nI i) 18 := h.vin hi
  refine ⟨hv, hv, by rw [k2]; exact h.row hi, ?_⟩
  rw [show (2 : Int32) = nI 2 from rfl, nI_add, nI_clamp (by omega)]
  refine ⟨⟨?_, ?_, ?_, hn, fun j hj => ?_, fun j => ?_⟩, ?_, ?_⟩
  · rw [up2_nj (by omega), k2]; exact h.1
  · simp only [nS, List.length_set]; rw [up2_nj (by omega), k2]; exact h.2.1
  · simp only [nS, List.length_set]; exact hl
  · simp only [nS, List.length_set] at hj ⊢
    rw [getD_set hi]
    by_cases e : j = i
    · subst e; rw [if_pos rfl, up2_at]
    · rw [if_neg e, up2_nj (by omega), k2]; exact h.2.2.2.2.1 j hj
  · simp only [nS]
    rw [getD_set hi]
    split
    · exact x1
    · exact h.2.2.2.2.2 j
  · exact k1.of (by rw [up2_ne (by decide)]) (up2_ne (by decide))
  · exact ⟨by rw [up2_ne (by decide), k3 16 (by decide) (by decide)], by rw [up2_ne (by decide), k3 17 (by decide) (by decide)], by rw [up2_ne (by decide), k4 26 (by decide)]⟩
end ACM
