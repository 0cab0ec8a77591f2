/-! the reference's kernels -/
def Mkn (mem : Mem) (L : List Nat) : Prop := mem 0 13 = nI L.length ∧ L.length ≤ 16 ∧ (∀ i, i < L.length → mem 8 i = nI (L.getD i 0)) ∧ ∀ i, L.getD i 0 < 1024
def Mks (mem : Mem) (D : List KSt) : Prop := mem 0 18 = nI D.length ∧ D.length ≤ 16 ∧ ∀ i q, D[i]? = some q → mem 9 i = q.1 ∧ mem 10 i = q.2.1 ∧ mem 11 i = q.2.2.1 ∧ mem 12 i = q.2.2.2
theorem Mks.of {mem m' : Mem} {D : List KSt} (h : Mks mem D) (h0 : m' 0 18 = mem 0 18) (h9 : m' 9 = mem 9) (h10 : m' 10 = mem 10) (h11 : m' 11 = mem 11) (h12 : m' 12 = mem 12) : Mks m' D := ⟨by rw [h0]; exact h.1, h.2.1, fun i q hq => by rw [h9, h10, h11, h12]; exact h.2.2 i q hq⟩
theorem Mkn.of {mem m' : Mem} {L : List Nat} (h : Mkn mem L) (h0 : m' 0 13 = mem 0 13) (h8 : m' 8 = mem 8) : Mkn m' L := ⟨by rw [h0]; exact h.1, h.2.1, fun i hi => by rw [h8]; exact h.2.2.1 i hi, h.2.2.2⟩
section KRM
variable {d n : Nat} {L : List Nat} {mem : Mem}
theorem Mkn.row {i : Nat} (h : Mkn mem L) (hi : i < L.length) : mem 8 (nI i).toNatClampNeg = nI (L.getD i 0) := by
  have := h.2.1
  rw [nI_clamp (by omega)]
  exact h.2.2.1 i hi
theorem Mkn.ge {i : Nat} (h : Mkn mem L) (hi : i ≤ L.length) : (mem 0 13 ≤ nI i) ↔ i = L.length := by
  have := h.2.1
  rw [h.1, nI_leI (by omega) (by omega)]
  omega
theorem s_withinFirst (h : Mkn mem L) : CI shM m_Mo_withinFirst (d + 1) [.ref 0] mem (fun r m' => r = wiI L ∧ m' = mem) := by
  have hl := h.2.1
  refine e_Mo_withinFirst ?_
  refine downInd (P := fun i => (∀ i', i' < i → ¬ Wi L i') → Wp shM m_Mo_withinFirst (d + 1) 2 [some (.ref 0), some (.int (nI i)), none] [] mem (QI (fun r m' => r = wiI L ∧ m' = mem))) L.length ?_ ?_ 0 (Nat.zero_le _) (fun i' hi' => absurd hi' (Nat.not_lt_zero _))
  · intro hno
    exact b_Mo_withinFirst_2 ⟨fun _ => ⟨by rw [wiI, lstI_no (fun i hi => hno i hi.1 hi)], rfl⟩, fun c => absurd ((h.ge (Nat.le_refl _)).mpr rfl) c⟩
  · intro i hi ih hno
    refine b_Mo_withinFirst_2 ⟨fun c => absurd ((h.ge (Nat.le_of_lt hi)).mp c) (by omega), fun _ => ?_⟩
    refine downInd (P := fun j => (∀ j', j' < j → i ≠ j' → dif (L.getD j' 0) (L.getD i 0) ≠ 0) → Wp shM m_Mo_withinFirst (d + 1) 12 [some (.ref 0), some (.int (nI i)), some (.int (nI j))] [] mem (QI (fun r m' => r = wiI L ∧ m' = mem))) L.length ?_ ?_ 0 (Nat.zero_le _) (fun i' hi' => absurd hi' (Nat.not_lt_zero _))
    · intro hnj
      refine b_Mo_withinFirst_12 ⟨fun _ => ?_, fun c => absurd ((h.ge (Nat.le_refl _)).mpr rfl) c⟩
      rw [nI_1]
      refine ih (fun i' hi' hw => ?_)
      by_cases e : i' = i
      · subst e
        obtain ⟨-, j, j1, j2, j3⟩ := hw
        exact hnj j j1 j2 j3
      · exact hno i' (by omega) hw
    · intro j hj ihj hnj
      have go : (i ≠ j → dif (L.getD j 0) (L.getD i 0) ≠ 0) → Wp shM m_Mo_withinFirst (d + 1) 12 [some (.ref 0), some (.int (nI i)), some (.int (nI j + 1))] [] mem (QI (fun r m' => r = wiI L ∧ m' = mem)) := by
        intro hq
        rw [nI_1]
        refine ihj (fun j' hj' hne => ?_)
        by_cases e : j' = j
        · subst e; exact hq hne
        · exact hnj j' (by omega) hne
      refine b_Mo_withinFirst_12 ⟨fun c => absurd ((h.ge (Nat.le_of_lt hj)).mp c) (by omega), fun _ => ?_⟩
      rw [nI_inj (by omega) (by omega), h.row hj, h.row hi, idif, nI_z (Nat.lt_trans (dif_lt (m := 10) (h.2.2.2 j)) (by decide))]
      refine ⟨fun z => go (fun q => absurd z q), fun z => ⟨vp_in_nI (by omega) (by decide), vp_in_nI (by omega) (by decide), fun z2 => go (fun _ => z2), fun z2 => ⟨?_, rfl⟩⟩⟩
      symm
      refine lstI_eq ⟨hi, j, hj, z, z2⟩ (fun b hb => ?_)
      rcases Nat.lt_or_ge b i with q | q
      · exact absurd hb (hno b q)
      · exact q
/-- the end of a step: it is told -/
theorem m_note {D : List KSt} {L' : List Nat} {a0 a1 a2 : Int32} {K : Mem → Prop} (hL : Mkn mem L') (hD : Mks mem D) (h16 : D.length < 16) (hK : ∀ m', Mkn m' L' → Mks m' (D ++ [(a0, a1, a2, nI L'.length)]) → m' 0 19 = mem 0 19 → Keep mem m' → K m') : Wp shM m_Mo_goes (d + 1) 97 [some (.ref 0), some (.int a0), some (.int a1), some (.int a2), none, none] [] mem (QV K) := by
  have n9 : ∀ (m : Mem) (j : Nat) (x : Int32), up2 m 9 j x 0 = m 0 := fun m j x => up2_ne (by decide)
  have n10 : ∀ (m : Mem) (j : Nat) (x : Int32), up2 m 10 j x 0 = m 0 := fun m j x => up2_ne (by decide)
  have n11 : ∀ (m : Mem) (j : Nat) (x : Int32), up2 m 11 j x 0 = m 0 := fun m j x => up2_ne (by decide)
  have n12 : ∀ (m : Mem) (j : Nat) (x : Int32), up2 m 12 j x 0 = m 0 := fun m j x => up2_ne (by decide)
  have ift : ∀ (m : Mem) (c : Nat) (x : Int32) (i : Nat), up2 m c D.length x c i = if i = D.length then x else m c i := fun m c x i => by
    by_cases e : i = D.length
    · subst e; rw [up2_at, if_pos rfl]
    · rw [up2_nj e, if_neg e]
  have ht := hD.1
  refine b_Mo_goes_97 ?_
  simp only [n9, n10, n11, n12, ht, nI_clamp (show D.length < 2 ^ 31 by omega)]
  have hv : vp_in (nI D.length) 32 := vp_in_nI (by omega) (by decide)
  refine ⟨hv, hv, hv, hv, ?_⟩
  refine hK _ (hL.of ?_ ?_) ⟨?_, ?_, fun i q hq => ?_⟩ ?_ ?_
  · rw [up2_nj (by decide), n12, n11, n10, n9]
  · rw [up2_ne (by decide), up2_ne (by decide), up2_ne (by decide), up2_ne (by decide), up2_ne (by decide)]
  · rw [up2_at, nI_1, List.length_append]; rfl
  · rw [List.length_append]; exact h16
  · have a9 : ∀ i, (up2 (up2 (up2 (up2 (up2 mem 9 D.length a0) 10 D.length a1) 11 D.length a2) 12 D.length (mem 0 13)) 0 18 (nI D.length + 1)) 9 i = if i = D.length then a0 else mem 9 i := fun i => by
      rw [up2_ne (by decide), up2_ne (by decide), up2_ne (by decide), up2_ne (by decide), ift]
    have a10 : ∀ i, (up2 (up2 (up2 (up2 (up2 mem 9 D.length a0) 10 D.length a1) 11 D.length a2) 12 D.length (mem 0 13)) 0 18 (nI D.length + 1)) 10 i = if i = D.length then a1 else mem 10 i := fun i => by
      rw [up2_ne (by decide), up2_ne (by decide), up2_ne (by decide), ift, up2_ne (by decide)]
    have a11 : ∀ i, (up2 (up2 (up2 (up2 (up2 mem 9 D.length a0) 10 D.length a1) 11 D.length a2) 12 D.length (mem 0 13)) 0 18 (nI D.length + 1)) 11 i = if i = D.length then a2 else mem 11 i := fun i => by
      rw [up2_ne (by decide), up2_ne (by decide), ift, up2_ne (by decide), up2_ne (by decide)]
    have a12 : ∀ i, (up2 (up2 (up2 (up2 (up2 mem 9 D.length a0) 10 D.length a1) 11 D.length a2) 12 D.length (mem 0 13)) 0 18 (nI D.length + 1)) 12 i = if i = D.length then mem 0 13 else mem 12 i := fun i => by
      rw [up2_ne (by decide), ift, up2_ne (by decide), up2_ne (by decide), up2_ne (by decide)]
    rw [a9, a10, a11, a12]
    by_cases e : i = D.length
    · subst e
      rw [List.getElem?_append_right (Nat.le_refl _), Nat.sub_self] at hq
      cases hq
      rw [if_pos rfl, if_pos rfl, if_pos rfl, if_pos rfl]
      exact ⟨rfl, rfl, rfl, hL.1⟩
    · have hi : i < D.length := by
        have := (List.getElem?_eq_some_iff.mp hq).1
        rw [List.length_append] at this
        simp at this
        omega
      rw [List.getElem?_append_left hi] at hq
      rw [if_neg e, if_neg e, if_neg e, if_neg e]
      exact hD.2.2 i q hq
  · rw [up2_nj (by decide), n12, n11, n10, n9]
  · exact ((((Keep.upc (by decide) (by decide) (by decide) (by decide) (by decide)).tr (Keep.upc (by decide) (by decide) (by decide) (by decide) (by decide))).tr (Keep.upc (by decide) (by decide) (by decide) (by decide) (by decide))).tr (Keep.upc (by decide) (by decide) (by decide) (by decide) (by decide))).tr (Keep.up0 (by decide) (by decide))
/-- those that a mask names go; then what is left of goes -/
theorem m_out {w : Nat} {a0 a2 : Int32} {K : Mem → Prop} (h : Mkn mem L) (hw : w < 2 ^ L.length)
    (H : ∀ m1 : Mem, Same mem m1 [8] → (∀ j, j < (sel (fun i => L.getD i 0) (fun i => !w.testBit i) L.length).length → m1 8 j = nI ((sel (fun i => L.getD i 0) (fun i => !w.testBit i) L.length).getD j 0)) → (¬ a0 = 1 → Wp shM m_Mo_goes (d + 1) 97 [some (.ref 0), some (.int a0), some (.int (nI w)), some (.int a2), none, none] [] (up2 m1 0 13 (nI (sel (fun i => L.getD i 0) (fun i => !w.testBit i) L.length).length)) (QV K)) ∧ (a0 = 1 → CI shM m_Mo_isAmong d [.ref 8, .int 0, .int ((up2 m1 0 13 (nI (sel (fun i => L.getD i 0) (fun i => !w.testBit i) L.length).length)) 0 13), .int a2] (up2 m1 0 13 (nI (sel (fun i => L.getD i 0) (fun i => !w.testBit i) L.length).length)) (fun v0 m0 => (¬ v0 = 0 → Wp shM m_Mo_goes (d + 1) 97 [some (.ref 0), some (.int a0), some (.int (nI w)), some (.int a2), none, none] [] m0 (QV K)) ∧ (v0 = 0 → vp_in (m0 0 13) 16 ∧ (Wp shM m_Mo_goes (d + 1) 97 [some (.ref 0), some (.int a0), some (.int (nI w)), some (.int a2), none, none] [] (up2 (up2 m0 8 (m0 0 13).toNatClampNeg a2) 0 13 (((up2 m0 8 (m0 0 13).toNatClampNeg a2) 0 13) + 1)) (QV K)))))) :
    CV shM m_Mo_goes (d + 1) [.ref 0, .int a0, .int (nI w), .int a2] mem K := by
  have hl := h.2.1
  have hp := pow17 (m := L.length) (by omega)
  refine e_Mo_goes ?_
  refine downInd (P := fun i => ∀ m0 : Mem, Same mem m0 [8] → (∀ j, i ≤ j → m0 8 j = mem 8 j) → (∀ j, j < (sel (fun i => L.getD i 0) (fun i => !w.testBit i) i).length → m0 8 j = nI ((sel (fun i => L.getD i 0) (fun i => !w.testBit i) i).getD j 0)) → Wp shM m_Mo_goes (d + 1) 6 [some (.ref 0), some (.int a0), some (.int (nI w)), some (.int a2), some (.int (nI (sel (fun i => L.getD i 0) (fun i => !w.testBit i) i).length)), some (.int (nI i))] [] m0 (QV K)) L.length ?_ ?_ 0 (Nat.zero_le _) mem Same.rf (fun _ _ => rfl) (fun j hj => absurd hj (by simp [sel]))
  · intro m0 hS e1 e2
    exact b_Mo_goes_6 ⟨fun _ => H m0 hS e2, fun c => absurd (by rw [hS 0 (by decide)]; exact (h.ge (Nat.le_refl _)).mpr rfl) c⟩
  · intro i hi ih m0 hS e1 e2
    have hk := sel_len (fun i => L.getD i 0) (fun i => !w.testBit i) i
    refine b_Mo_goes_6 ⟨fun c => absurd ((h.ge (Nat.le_of_lt hi)).mp (by rw [← hS 0 (by decide)]; exact c)) (by omega), fun _ => ⟨fun z => ⟨vp_in_nI (by omega) (by decide), vp_in_nI (by omega) (by decide), ?_⟩, fun z => ?_⟩⟩
    · rw [hasI (by omega) (by omega), Bool.not_eq_true] at z
      rw [sel_succ, if_pos (by simp [z]), List.length_append] at ih
      rw [nI_1, nI_1, nI_clamp (by omega), nI_clamp (by omega)]
      refine ih _ (hS.tr (Same.up (by simp))) (fun j hj => ?_) (fun j hj => ?_)
      · rw [up2_nj (by omega)]; exact e1 j (by omega)
      · rw [getD_app]
        by_cases e : j = (sel (fun i => L.getD i 0) (fun i => !w.testBit i) i).length
        · subst e
          rw [up2_at, if_neg (Nat.lt_irrefl _), if_pos rfl, e1 i (Nat.le_refl i)]
          exact h.2.2.1 i hi
        · have hlt : j < (sel (fun i => L.getD i 0) (fun i => !w.testBit i) i).length := by rw [List.length_cons, List.length_nil] at hj; omega
          rw [up2_nj e, if_pos hlt]; exact e2 j hlt
    · rw [hasI (by omega) (by omega)] at z
      rw [sel_succ, if_neg (by simp [z])] at ih
      rw [nI_1]
      exact ih m0 hS (fun j hj => e1 j (by omega)) e2
theorem sel_small {p : Nat → Bool} {m : Nat} (h : ∀ i, L.getD i 0 < 1024) (j : Nat) : (sel (fun i => L.getD i 0) p m).getD j 0 < 1024 := by
  rw [List.getD_eq_getElem?_getD]
  by_cases hj : j < (sel (fun i => L.getD i 0) p m).length
  · rw [List.getElem?_eq_getElem hj]
    have hmem := List.getElem_mem hj
    obtain ⟨z, -, hz⟩ := List.mem_map.mp hmem
    rw [Option.getD_some, ← hz]
    exact h z
  · rw [List.getElem?_eq_none (by omega)]; decide
theorem s_goes0 {w : Nat} {a2 : Int32} {D : List KSt} (h : Mkn mem L) (hD : Mks mem D) (h16 : D.length < 16) (hw : w < 2 ^ L.length) : CV shM m_Mo_goes (d + 1) [.ref 0, .int 0, .int (nI w), .int a2] mem (fun m' => Mkn m' (sel (fun i => L.getD i 0) (fun i => !w.testBit i) L.length) ∧ Mks m' (D ++ [(0, nI w, a2, nI (sel (fun i => L.getD i 0) (fun i => !w.testBit i) L.length).length)]) ∧ m' 0 19 = mem 0 19 ∧ Keep mem m') := by
  have hl := h.2.1
  have hk := sel_len (fun i => L.getD i 0) (fun i => !w.testBit i) L.length
  refine m_out h hw (fun m1 hS e1 => ⟨fun _ => ?_, fun z => absurd z (by decide)⟩)
  have hK1 : Keep mem (up2 m1 0 13 (nI (sel (fun i => L.getD i 0) (fun i => !w.testBit i) L.length).length)) := (show Keep mem m1 from ⟨hS 1 (by decide), hS 3 (by decide), hS 16 (by decide), hS 17 (by decide), by rw [hS 0 (by decide)], by rw [hS 0 (by decide)]⟩).tr (Keep.up0 (by decide) (by decide))
  refine m_note (D := D) (L' := sel (fun i => L.getD i 0) (fun i => !w.testBit i) L.length) ⟨up2_at, by omega, fun i hi => by rw [up2_ne (by decide)]; exact e1 i hi, fun j => sel_small h.2.2.2 j⟩ (hD.of (by rw [up2_nj (by decide), hS 0 (by decide)]) (by rw [up2_ne (by decide), hS 9 (by decide)]) (by rw [up2_ne (by decide), hS 10 (by decide)]) (by rw [up2_ne (by decide), hS 11 (by decide)]) (by rw [up2_ne (by decide), hS 12 (by decide)])) h16 (fun m' q1 q2 q3 q4 => ⟨q1, q2, ?_, hK1.tr q4⟩)
  rw [q3, up2_nj (by decide), hS 0 (by decide)]
theorem s_goes1 {w c : Nat} {D : List KSt} (h : Mkn mem L) (hD : Mks mem D) (h16 : D.length < 16) (hw : w < 2 ^ L.length) (hw0 : 1 ≤ pop w) (hc : c < 1024) (hc0 : c ≠ 0) : CV shM m_Mo_goes (d + 1) [.ref 0, .int 1, .int (nI w), .int (nI c)] mem (fun m' => Mkn m' (addNew (sel (fun i => L.getD i 0) (fun i => !w.testBit i) L.length) c) ∧ Mks m' (D ++ [(1, nI w, nI c, nI (addNew (sel (fun i => L.getD i 0) (fun i => !w.testBit i) L.length) c).length)]) ∧ m' 0 19 = mem 0 19 ∧ Keep mem m') := by
  have hl := h.2.1
  have hol := out_len (g := fun i => L.getD i 0) (by omega) hw
  refine m_out h hw (fun m1 hS e1 => ⟨fun z => absurd rfl z, fun _ => ?_⟩)
  have hsm := fun j => sel_small (p := fun i => !w.testBit i) (m := L.length) h.2.2.2 j
  generalize sel (fun i => L.getD i 0) (fun i => !w.testBit i) L.length = T at e1 hol hsm
  have hKm : Keep mem (up2 m1 0 13 (nI T.length)) := (show Keep mem m1 from ⟨hS 1 (by decide), hS 3 (by decide), hS 16 (by decide), hS 17 (by decide), by rw [hS 0 (by decide)], by rw [hS 0 (by decide)]⟩).tr (Keep.up0 (by decide) (by decide))
  have hD1 : Mks (up2 m1 0 13 (nI T.length)) D := hD.of (by rw [up2_nj (by decide), hS 0 (by decide)]) (by rw [up2_ne (by decide), hS 9 (by decide)]) (by rw [up2_ne (by decide), hS 10 (by decide)]) (by rw [up2_ne (by decide), hS 11 (by decide)]) (by rw [up2_ne (by decide), hS 12 (by decide)])
  have e19 : (up2 m1 0 13 (nI T.length)) 0 19 = mem 0 19 := by rw [up2_nj (by decide), hS 0 (by decide)]
  have hM1 : Mkn (up2 m1 0 13 (nI T.length)) T := ⟨up2_at, by omega, fun i hi => by rw [up2_ne (by decide)]; exact e1 i hi, hsm⟩
  have e13 : (up2 m1 0 13 (nI T.length)) 0 13 = nI T.length := up2_at
  generalize up2 m1 0 13 (nI T.length) = mA at hKm hD1 e19 hM1 e13
  rw [e13, show (0 : Int32) = nI 0 from nI_0.symm]
  refine (s_isAmong (r0 := 8) (n0 := 16) (fr := 0) (L := T) rfl (by omega) (by decide) (fun i hi => by rw [Nat.zero_add]; exact hM1.2.2.1 i hi) (fun i => Nat.lt_trans (hsm i) (by decide)) (by omega)).to ⟨fun z => ?_, fun z => ⟨by rw [e13]; exact vp_in_nI (by omega) (by decide), ?_⟩⟩
  · rw [nI_0] at z
    have hin := b2i_1.mp z
    rw [addNew, if_pos (Or.inr hin)]
    exact m_note hM1 hD1 h16 (fun m' q1 q2 q3 q4 => ⟨q1, q2, q3.trans e19, hKm.tr q4⟩)
  · rw [nI_0] at z
    have hin := b2i_0.mp z
    rw [addNew, if_neg (fun q => q.elim hc0 hin), e13, nI_clamp (by omega)]
    have e13' : (up2 mA 8 T.length (nI c)) 0 13 = nI T.length := by rw [up2_ne (by decide)]; exact e13
    rw [e13', nI_1]
    have hK2 : Keep mem (up2 (up2 mA 8 T.length (nI c)) 0 13 (nI (T.length + 1))) := (hKm.tr (Keep.upc (by decide) (by decide) (by decide) (by decide) (by decide))).tr (Keep.up0 (by decide) (by decide))
    refine m_note (D := D) (L' := T ++ [c]) ⟨?_, ?_, fun i hi => ?_, fun i => ?_⟩ (hD1.of ?_ ?_ ?_ ?_ ?_) h16 (fun m' q1 q2 q3 q4 => ⟨q1, q2, ?_, hK2.tr q4⟩)
    · rw [up2_at, List.length_append]; rfl
    · rw [List.length_append]; simp; omega
    · rw [List.length_append] at hi
      rw [up2_ne (by decide), getD_app]
      by_cases e : i = T.length
      · subst e; rw [up2_at, if_neg (Nat.lt_irrefl _), if_pos rfl]
      · have hlt : i < T.length := by simp at hi; omega
        rw [up2_nj e, if_pos hlt]; exact hM1.2.2.1 i hlt
    · rw [getD_app]
      split
      · exact hsm i
      · split
        · exact hc
        · decide
    · rw [up2_nj (by decide), up2_ne (by decide)]
    · rw [up2_ne (by decide), up2_ne (by decide)]
    · rw [up2_ne (by decide), up2_ne (by decide)]
    · rw [up2_ne (by decide), up2_ne (by decide)]
    · rw [up2_ne (by decide), up2_ne (by decide)]
    · rw [q3, up2_nj (by decide), up2_ne (by decide)]; exact e19
end KRM
