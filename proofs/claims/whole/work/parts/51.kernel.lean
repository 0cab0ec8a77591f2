/-! kernels: one step, a run; the class's search -/
abbrev KSt : Type := Int32 × Int32 × Int32 × Int32
theorem sel_cnt (g : Nat → Nat) (p : Nat → Bool) : ∀ m, (sel g p m).length = cntP p m
  | 0 => rfl
  | m + 1 => by
    rw [sel_succ, cntP]
    by_cases h : p m = true
    · rw [if_pos h, if_pos h, List.length_append, sel_cnt g p m]; rfl
    · rw [if_neg h, if_neg h, sel_cnt g p m]; rfl
theorem cntP_all : ∀ m, cntP (fun _ => true) m = m
  | 0 => rfl
  | m + 1 => by rw [cntP, cntP_all m]; rfl
theorem cntP_not (p : Nat → Bool) (m : Nat) : cntP p m + cntP (fun i => !p i) m = m := by
  have := cntP_part (fun _ => true) p m
  rw [cntP_all] at this
  rw [cntP_cong m (p := p) (q := fun i => true && p i) (fun i _ => by simp), cntP_cong m (p := fun i => !p i) (q := fun i => true && !p i) (fun i _ => by simp)]
  omega
theorem pop_cnt {w m : Nat} (hm : m ≤ 20) (hw : w < 2 ^ m) : pop w = cntP (fun i => w.testBit i) m := by
  rw [← pop_msk _ _ hm]
  congr 1
  apply Nat.eq_of_testBit_eq
  intro i
  rw [msk_bit]
  by_cases h : i < m
  · simp [h]
  · rw [Nat.testBit_lt_two_pow (Nat.lt_of_lt_of_le hw (Nat.pow_le_pow_right (by decide) (by omega)))]; simp [h]
theorem out_len {g : Nat → Nat} {w m : Nat} (hm : m ≤ 20) (hw : w < 2 ^ m) : (sel g (fun i => !w.testBit i) m).length + pop w = m := by
  rw [sel_cnt, pop_cnt hm hw, Nat.add_comm]
  exact cntP_not _ m
theorem add_len {S : List Nat} {x : Nat} : (addNew S x).length ≤ S.length + 1 := by
  unfold addNew
  split
  · omega
  · rw [List.length_append]; exact Nat.le_refl _
def Wi (L : List Nat) (i : Nat) : Prop := i < L.length ∧ ∃ j, j < L.length ∧ i ≠ j ∧ dif (L.getD j 0) (L.getD i 0) = 0
noncomputable def wiI (L : List Nat) : Int32 := lstI (Wi L) (-1)
noncomputable def flI (b : Nat) (L : List Nat) : Int32 := lstI (Fl (fun i => L.getD i 0) L.length (b + 1)) (-1)
noncomputable def kco (b : Nat) (L : List Nat) : Int32 := coI (fun i => L.getD i 0) (flI b L).toNatClampNeg (-2)
noncomputable def kwi (L : List Nat) : List Nat := sel (fun i => L.getD i 0) (fun j => !(2 ^ (wiI L).toNatClampNeg).testBit j) L.length
noncomputable def kfl (b : Nat) (L : List Nat) : List Nat := addNew (sel (fun i => L.getD i 0) (fun j => !((flI b L).toNatClampNeg).testBit j) L.length) (kco b L).toNatClampNeg
noncomputable def ksp (b : Nat) (L : List Nat) : Option (KSt × List Nat) :=
  if wiI L = -1 then
    if flI b L = -1 then none
    else if kco b L = 0 then none
    else some ((1, flI b L, kco b L, nI (kfl b L).length), kfl b L)
  else some ((0, nI (2 ^ (wiI L).toNatClampNeg), -2, nI (kwi L).length), kwi L)
noncomputable def klo (b : Nat) (L : List Nat) : Int32 := if wiI L = -1 ∧ ¬ flI b L = -1 ∧ kco b L = 0 then 1 else 0
/-- the steps, what is left, whether it is lost -/
noncomputable def kerF (b : Nat) : Nat → List Nat → List KSt × List Nat × Int32
  | 0, L => ([], L, 0)
  | f + 1, L => match ksp b L with
    | none => ([], L, klo b L)
    | some q => (q.1 :: (kerF b f q.2).1, (kerF b f q.2).2)
theorem wiI_ex {L : List Nat} (h : ¬ wiI L = -1) : ∃ i, wiI L = nI i ∧ Wi L i := by
  unfold wiI at h ⊢
  by_cases hx : ∃ i, Wi L i
  · obtain ⟨i, h1, h2⟩ := pk_least (Wi L) hx
    refine ⟨i, lstI_eq h1 (fun b hb => ?_), h1⟩
    rcases Nat.lt_or_ge b i with q | q
    · exact absurd hb (h2 b q)
    · exact q
  · exact absurd (lstI_no (fun b hb => hx ⟨b, hb⟩)) h
theorem flI_ex {b : Nat} {L : List Nat} (h : ¬ flI b L = -1) : ∃ p, flI b L = nI p ∧ Fl (fun i => L.getD i 0) L.length (b + 1) p := by
  unfold flI at h ⊢
  by_cases hx : ∃ i, Fl (fun i => L.getD i 0) L.length (b + 1) i
  · obtain ⟨i, h1, h2⟩ := pk_least _ hx
    refine ⟨i, lstI_eq h1 (fun b hb => ?_), h1⟩
    rcases Nat.lt_or_ge b i with q | q
    · exact absurd hb (h2 b q)
    · exact q
  · exact absurd (lstI_no (fun b hb => hx ⟨b, hb⟩)) h
theorem lst_flI {b : Nat} {L : List Nat} {r : Int32} (h : Lst (Fl (fun i => L.getD i 0) L.length (b + 1)) r) : r = flI b L := by
  rcases h with ⟨p, h1, h2, h3⟩ | ⟨h1, h2⟩
  · rw [flI, lstI_eq h1 h2, h3]
  · rw [flI, lstI_no h1, h2]
/-- the core of that flower, as a number -/
theorem kco_ex {b : Nat} {L : List Nat} (hb : 1 ≤ b) (hl : L.length ≤ 17) (hs : ∀ i, L.getD i 0 < 1024) (h : ¬ flI b L = -1) : ∃ c, kco b L = nI c ∧ c < 1024 ∧ Sn (fun i => L.getD i 0) (flI b L).toNatClampNeg c := by
  obtain ⟨p, p1, p2⟩ := flI_ex h
  have hp := pow17 hl
  have h1 := p2.1
  obtain ⟨c, hc⟩ := p2.2.2
  have hsn : Sn (fun i => L.getD i 0) p c := ⟨(two_bits (by omega) h1).mpr (by rw [p2.2.1]; omega), hc⟩
  have e : (flI b L).toNatClampNeg = p := by rw [p1, nI_clamp (by omega)]
  rw [kco, e]
  exact ⟨c, coI_eq hsn, hsn.lt hs, hsn⟩
theorem ksp_len {b : Nat} {L : List Nat} {q : KSt × List Nat} (hb : 1 ≤ b) (hl : L.length ≤ 17) (h : ksp b L = some q) : q.2.length + 1 ≤ L.length := by
  have hp := pow17 hl
  unfold ksp at h
  split at h
  · split at h
    · cases h
    · split at h
      · cases h
      · rename_i h1 h2 h3
        obtain ⟨p, p1, p2⟩ := flI_ex h2
        have hp1 := p2.1
        cases h
        show (kfl b L).length + 1 ≤ L.length
        unfold kfl
        refine Nat.le_trans (Nat.add_le_add_right add_len 1) ?_
        rw [p1, nI_clamp (by omega)]
        have := out_len (g := fun i => L.getD i 0) (by omega) hp1
        have := p2.2.1
        omega
  · rename_i h1
    obtain ⟨i, i1, i2⟩ := wiI_ex h1
    cases h
    show (kwi L).length + 1 ≤ L.length
    unfold kwi
    have hi := i2.1
    rw [i1, nI_clamp (by omega)]
    have := out_len (g := fun i => L.getD i 0) (w := 2 ^ i) (by omega) (Nat.pow_lt_pow_right (by decide) hi)
    have e := pop_top (b := 0) (i := i) (Nat.two_pow_pos i) (by omega)
    rw [Nat.zero_add, pop_zero] at e
    omega
section KRN
variable {d n : Nat} {L : List Nat} {mem : Mem}
theorem s_firstWithInner (h : Fam mem 21 n L) : CI shX m_Kernel_firstWithInner (d + 1) [.ref 18] mem (fun r m' => r = wiI L ∧ m' = mem) := by
  have hl := h.2.2.1
  refine e_Kernel_firstWithInner ?_
  refine downInd (P := fun i => (∀ i', i' < i → ¬ Wi L i') → Wp shX m_Kernel_firstWithInner (d + 1) 2 [some (.ref 18), some (.int (nI i)), none] [] mem (QI (fun r m' => r = wiI L ∧ m' = mem))) L.length ?_ ?_ 0 (Nat.zero_le _) (fun i' hi' => absurd hi' (Nat.not_lt_zero _))
  · intro hno
    exact b_Kernel_firstWithInner_2 ⟨fun _ => ⟨by rw [wiI, lstI_no (fun i hi => hno i hi.1 hi)], rfl⟩, fun c => absurd ((h.ge (Nat.le_refl _)).mpr rfl) c⟩
  · intro i hi ih hno
    refine b_Kernel_firstWithInner_2 ⟨fun c => absurd ((h.ge (Nat.le_of_lt hi)).mp c) (by omega), fun _ => ?_⟩
    refine downInd (P := fun j => (∀ j', j' < j → i ≠ j' → dif (L.getD j' 0) (L.getD i 0) ≠ 0) → Wp shX m_Kernel_firstWithInner (d + 1) 15 [some (.ref 18), some (.int (nI i)), some (.int (nI j))] [] mem (QI (fun r m' => r = wiI L ∧ m' = mem))) L.length ?_ ?_ 0 (Nat.zero_le _) (fun i' hi' => absurd hi' (Nat.not_lt_zero _))
    · intro hnj
      refine b_Kernel_firstWithInner_15 ⟨fun _ => ?_, fun c => absurd ((h.ge (Nat.le_refl _)).mpr rfl) c⟩
      rw [nI_1]
      refine ih (fun i' hi' hw => ?_)
      by_cases e : i' = i
      · subst e
        obtain ⟨-, j, j1, j2, j3⟩ := hw
        exact hnj j j1 j2 j3
      · exact hno i' (by omega) hw
    · intro j hj ihj hnj
      have go : (i ≠ j → dif (L.getD j 0) (L.getD i 0) ≠ 0) → Wp shX m_Kernel_firstWithInner (d + 1) 15 [some (.ref 18), some (.int (nI i)), some (.int (nI j + 1))] [] mem (QI (fun r m' => r = wiI L ∧ m' = mem)) := by
        intro hq
        rw [nI_1]
        refine ihj (fun j' hj' hne => ?_)
        by_cases e : j' = j
        · subst e; exact hq hne
        · exact hnj j' (by omega) hne
      refine b_Kernel_firstWithInner_15 ⟨fun c => absurd ((h.ge (Nat.le_of_lt hj)).mp c) (by omega), fun _ => ?_⟩
      rw [nI_inj (by omega) (by omega), h.aF hj, h.aF hi, idif, nI_z (Nat.lt_trans (dif_lt (m := 10) (h.small j)) (by decide))]
      refine ⟨fun z => go (fun q => absurd z q), fun z => ⟨fun z2 => go (fun _ => z2), fun z2 => ⟨?_, rfl⟩⟩⟩
      symm
      refine lstI_eq ⟨hi, j, hj, z, z2⟩ (fun b hb => ?_)
      rcases Nat.lt_or_ge b i with q | q
      · exact absurd hb (hno b q)
      · exact q
theorem s_noteStep {a0 a1 a2 : Int32} {t : Nat} (ht : mem 18 7 = nI t) (h16 : t < 16) : CV shX m_Kernel_noteStep d [.ref 18, .int a0, .int a1, .int a2] mem (fun m' => m' 18 7 = nI (t + 1) ∧ m' 18 6 = mem 18 6 ∧ m' 18 8 = mem 18 8 ∧ (∀ i, m' 23 i = if i = t then a0 else mem 23 i) ∧ (∀ i, m' 24 i = if i = t then a1 else mem 24 i) ∧ (∀ i, m' 25 i = if i = t then a2 else mem 25 i) ∧ (∀ i, m' 26 i = if i = t then mem 21 1 else mem 26 i) ∧ Same mem m' [18, 23, 24, 25, 26]) := by
  have n23 : ∀ (m : Mem) (j : Nat) (x : Int32), up2 m 23 j x 18 = m 18 := fun m j x => up2_ne (by decide)
  have n24 : ∀ (m : Mem) (j : Nat) (x : Int32), up2 m 24 j x 18 = m 18 := fun m j x => up2_ne (by decide)
  have n25 : ∀ (m : Mem) (j : Nat) (x : Int32), up2 m 25 j x 18 = m 18 := fun m j x => up2_ne (by decide)
  have n26 : ∀ (m : Mem) (j : Nat) (x : Int32), up2 m 26 j x 18 = m 18 := fun m j x => up2_ne (by decide)
  have o23 : ∀ (m : Mem) (j : Nat) (x : Int32), up2 m 23 j x 21 = m 21 := fun m j x => up2_ne (by decide)
  have o24 : ∀ (m : Mem) (j : Nat) (x : Int32), up2 m 24 j x 21 = m 21 := fun m j x => up2_ne (by decide)
  have o25 : ∀ (m : Mem) (j : Nat) (x : Int32), up2 m 25 j x 21 = m 21 := fun m j x => up2_ne (by decide)
  have ift : ∀ (m : Mem) (c : Nat) (x : Int32) (i : Nat), up2 m c t x c i = if i = t then x else m c i := fun m c x i => by
    by_cases e : i = t
    · subst e; rw [up2_at, if_pos rfl]
    · rw [up2_nj e, if_neg e]
  refine e_Kernel_noteStep ⟨fun c => absurd c (by rw [ht, show (16 : Int32) = nI 16 from rfl, nI_leI (by decide) (by omega)]; omega), fun _ => ?_⟩
  simp only [n23, n24, n25, n26, o23, o24, o25, ht, nI_clamp (show t < 2 ^ 31 by omega)]
  have hv := vp_in_nI h16 (by decide)
  refine ⟨hv, hv, hv, hv, ?_, ?_, ?_, fun i => ?_, fun i => ?_, fun i => ?_, fun i => ?_, ?_⟩
  · rw [up2_at, nI_1]
  · rw [up2_nj (by decide), n26, n25, n24, n23]
  · rw [up2_nj (by decide), n26, n25, n24, n23]
  · rw [up2_ne (by decide), up2_ne (by decide), up2_ne (by decide), up2_ne (by decide), ift]
  · rw [up2_ne (by decide), up2_ne (by decide), up2_ne (by decide), ift, up2_ne (by decide)]
  · rw [up2_ne (by decide), up2_ne (by decide), ift, up2_ne (by decide), up2_ne (by decide)]
  · rw [up2_ne (by decide), ift, up2_ne (by decide), up2_ne (by decide), up2_ne (by decide)]
  · intro c hc
    simp only [List.mem_cons, List.not_mem_nil, or_false, not_or] at hc
    rw [up2_ne hc.1, up2_ne hc.2.2.2.2, up2_ne hc.2.2.2.1, up2_ne hc.2.2.1, up2_ne hc.2.1]
/-- the class's kernel object: the steps done, what is left, lost or not -/
def Kst (mem : Mem) (n : Nat) (D : List KSt) (L : List Nat) (lo : Int32) : Prop := Fam mem 21 n L ∧ mem 18 7 = nI D.length ∧ D.length ≤ 16 ∧ mem 18 8 = lo ∧ ∀ i q, D[i]? = some q → mem 23 i = q.1 ∧ mem 24 i = q.2.1 ∧ mem 25 i = q.2.2.1 ∧ mem 26 i = q.2.2.2
theorem Kst.note {m1 m2 : Mem} {D : List KSt} {L' : List Nat} {lo a0 a1 a2 : Int32} (h : Kst mem n D L lo) (hD : D.length < 16) (hF : Fam m1 21 n L') (hS : Same mem m1 [21, 22]) (p1 : m2 18 7 = nI (D.length + 1)) (p3 : m2 18 8 = m1 18 8) (p4 : ∀ i, m2 23 i = if i = D.length then a0 else m1 23 i) (p5 : ∀ i, m2 24 i = if i = D.length then a1 else m1 24 i) (p6 : ∀ i, m2 25 i = if i = D.length then a2 else m1 25 i) (p7 : ∀ i, m2 26 i = if i = D.length then m1 21 1 else m1 26 i) (p8 : Same m1 m2 [18, 23, 24, 25, 26]) : Kst m2 n (D ++ [(a0, a1, a2, nI L'.length)]) L' lo := by
  obtain ⟨h1, h2, h3, h4, h5⟩ := h
  refine ⟨hF.same p8 (by decide) (by decide), by rw [p1, List.length_append]; rfl, by rw [List.length_append]; exact hD, by rw [p3, hS 18 (by decide)]; exact h4, fun i q hq => ?_⟩
  rw [p4, p5, p6, p7]
  by_cases e : i = D.length
  · subst e
    rw [List.getElem?_append_right (Nat.le_refl _), Nat.sub_self] at hq
    cases hq
    rw [if_pos rfl, if_pos rfl, if_pos rfl, if_pos rfl]
    exact ⟨rfl, rfl, rfl, hF.2.1⟩
  · have hi : i < D.length := by
      have := (List.getElem?_eq_some_iff.mp hq).1
      rw [List.length_append] at this
      simp at this
      omega
    rw [List.getElem?_append_left hi] at hq
    rw [if_neg e, if_neg e, if_neg e, if_neg e, hS 23 (by decide), hS 24 (by decide), hS 25 (by decide), hS 26 (by decide)]
    exact h5 i q hq
theorem s_takeStep {b : Nat} {D : List KSt} (h : Kst mem n D L 0) (hb1 : 1 ≤ b) (hb : b ≤ 5) (hD : D.length < 16) (hl16 : L.length ≤ 16) : CI shX m_Kernel_takeStep (d + 22) [.ref 18, .int (nI b)] mem (fun r m' => ((∃ q, ksp b L = some q ∧ r = 1 ∧ Kst m' n (D ++ [q.1]) q.2 0) ∨ (ksp b L = none ∧ r = 0 ∧ Kst m' n D L (klo b L))) ∧ m' 18 6 = mem 18 6 ∧ Same mem m' [18, 21, 22, 23, 24, 25, 26]) := by
  have hF := h.1
  have hl := hF.2.2.1
  have hp := pow17 hl
  refine e_Kernel_takeStep ?_
  refine (s_firstWithInner hF).to ?_
  refine ⟨fun z => ?_, fun z => ?_⟩
  · rw [nI_1]
    refine (s_leastFlower (f := 21) isF_21 hF (k := b + 1) (by omega) (by omega)).mono ?_
    rintro v m1 ⟨hv, rfl⟩
    have ev := lst_flI hv
    subst ev
    refine ⟨fun z2 => ?_, fun z2 => ⟨Or.inr ⟨by rw [ksp, if_pos z, if_pos z2], rfl, ?_⟩, rfl, Same.rf⟩⟩
    · obtain ⟨p, p1, p2⟩ := flI_ex z2
      have hp1 := p2.1
      obtain ⟨c, c1, c2, c3⟩ := kco_ex hb1 hl hF.small z2
      have ep : (flI b L).toNatClampNeg = p := by rw [p1, nI_clamp (by omega)]
      rw [ep] at c3
      rw [p1]
      refine (s_coreOf isF_21 hF hp1).mono ?_
      rintro w m2 ⟨hw, rfl⟩
      have ew : w = nI c := by
        rcases hw with ⟨c', y1, y2⟩ | ⟨y1, y2⟩
        · rw [y2, y1.uniq c3]
        · exact absurd c3 (y1 c)
      rw [ew, nI_z (by omega)]
      refine ⟨fun z3 => ?_, fun z3 => ⟨Or.inr ⟨?_, rfl, ?_⟩, up2_nj (by decide), Same.up (by simp)⟩⟩
      · have hk0 : ¬ kco b L = 0 := fun q => z3 ((nI_z (by omega)).mp (c1.symm.trans q))
        have hol := out_len (g := fun i => L.getD i 0) (by omega) hp1
        have hpp := p2.2.1
        refine (s_takeOut isF_21 hF (by omega)).mono ?_
        rintro m3 ⟨hF3, hS3⟩
        refine (s_appendNew isF_21 hF3 (by omega) c2).mono ?_
        rintro m4 ⟨hF4, hS4⟩
        have hSS : Same m2 m4 [21, 22] := hS3.tr hS4
        refine (s_noteStep (t := D.length) (by rw [hSS 18 (by decide)]; exact h.2.1) hD).mono ?_
        rintro m5 ⟨q1, q2, q3, q4, q5, q6, q7, q8⟩
        have ekf : kfl b L = addNew (sel (fun i => L.getD i 0) (fun i => !p.testBit i) L.length) c := by
          unfold kfl
          rw [ep, c1, nI_clamp (by omega)]
        refine ⟨Or.inl ⟨_, by rw [ksp, if_pos z, if_neg z2, if_neg hk0], rfl, ?_⟩, by rw [q2, hSS 18 (by decide)], (hSS.wd (by simp)).tr (q8.wd (by simp))⟩
        rw [ekf, c1, p1]
        exact h.note hD hF4 hSS q1 q3 q4 q5 q6 q7 q8
      · rw [ksp, if_pos z, if_neg z2, if_pos (by rw [c1, z3]; exact nI_0)]
      · obtain ⟨h1, h2, h3, h4, h5⟩ := h
        refine ⟨h1.of (up2_ne (by decide)) (up2_ne (by decide)), by rw [up2_nj (by decide)]; exact h2, h3, ?_, fun i q hq => ?_⟩
        · rw [up2_at, klo, if_pos ⟨z, z2, by rw [c1, z3]; exact nI_0⟩]
        · rw [up2_ne (by decide), up2_ne (by decide), up2_ne (by decide), up2_ne (by decide)]
          exact h5 i q hq
    · rw [klo, if_neg (fun q => q.2.1 z2)]
      exact h
  · obtain ⟨i, i1, i2⟩ := wiI_ex z
    have hi := i2.1
    have ei : (wiI L).toNatClampNeg = i := by rw [i1, nI_clamp (by omega)]
    rw [i1, sh1 (by omega)]
    have hpi : 2 ^ i < 2 ^ L.length := Nat.pow_lt_pow_right (by decide) hi
    refine (s_takeOut isF_21 hF (by omega)).mono ?_
    rintro m3 ⟨hF3, hS3⟩
    refine (s_noteStep (t := D.length) (by rw [hS3 18 (by decide)]; exact h.2.1) hD).mono ?_
    rintro m5 ⟨q1, q2, q3, q4, q5, q6, q7, q8⟩
    have ekw : kwi L = sel (fun i => L.getD i 0) (fun j => !(2 ^ i).testBit j) L.length := by
      unfold kwi
      rw [ei]
    refine ⟨Or.inl ⟨_, by rw [ksp, if_neg z], rfl, ?_⟩, by rw [q2, hS3 18 (by decide)], (hS3.wd (by simp)).tr (q8.wd (by simp))⟩
    rw [ekw, ei]
    exact h.note hD hF3 hS3 q1 q3 q4 q5 q6 q7 q8
end KRN
