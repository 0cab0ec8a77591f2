/-! can, count of both sides -/
def CanP (n : Nat) (S : List Nat) (k : Nat) : Prop := ∃ b, b < 2 ^ n ∧ misB S b = 0 ∧ pop b ≤ k
noncomputable def aCan (n : Nat) (S : List Nat) (a : Int32) : Int32 := ifP (0 ≤ a ∧ a ≤ 10) (ifP (CanP n S a.toNatClampNeg) 1 0) (-1)
/-- the greatest size, the least one -/
def GrS (S : List Nat) (k : Nat) : Prop := (∃ i, i < S.length ∧ pop (S.getD i 0) = k) ∧ ∀ i, i < S.length → pop (S.getD i 0) ≤ k
def LeS (S : List Nat) (k : Nat) : Prop := (∃ i, i < S.length ∧ pop (S.getD i 0) = k) ∧ ∀ i, i < S.length → k ≤ pop (S.getD i 0)
noncomputable def aCount (n : Nat) (S : List Nat) (hl tl : Nat) (a : Int32) : Int32 := if a = 0 then nI n else if a = 1 then nI S.length else if a = 2 then nI (uniT (fun i => S.getD i 0) S.length) else if a = 3 then nI hl else if a = 4 then nI tl else if a = 5 then lstI (GrS S) (-2) else if a = 6 then lstI (LeS S) (-2) else -1
theorem grS_I {S : List Nat} {k : Nat} (h : GrS S k) : lstI (GrS S) (-2) = nI k := lstI_eq h (fun b hb => by
  obtain ⟨i, i1, i2⟩ := h.1
  have := hb.2 i i1
  omega)
theorem leS_I {S : List Nat} {k : Nat} (h : LeS S k) : lstI (LeS S) (-2) = nI k := lstI_eq h (fun b hb => by
  obtain ⟨i, i1, i2⟩ := hb.1
  have := h.2 i i1
  omega)
theorem grS_no {S : List Nat} (h : S.length = 0) : lstI (GrS S) (-2) = -2 := lstI_no (fun b hb => by obtain ⟨i, i1, _⟩ := hb.1; omega)
theorem leS_no {S : List Nat} (h : S.length = 0) : lstI (LeS S) (-2) = -2 := lstI_no (fun b hb => by obtain ⟨i, i1, _⟩ := hb.1; omega)
section CNT
variable {d n : Nat} {S : List Nat} {mem : Mem}
theorem x_can {a : Int32} (h : Fam mem 1 n S) (hs : ∀ i, S.getD i 0 < 2 ^ n) (h0 : ∀ i, i < S.length → S.getD i 0 ≠ 0) : CI shX m_PS_can (d + 3) [.ref 0, .int a] mem (fun r m' => r = aCan n S a ∧ Same mem m' [11, 12, 13]) := by
  have hl := h.2.2.1
  have hn := h.2.2.2.1
  refine e_PS_can ⟨fun c => ⟨by rw [aCan, ifP_f (fun z => i_nl.mpr z.1 c)], Same.rf⟩, fun c => ⟨fun c2 => ?_, fun c2 => ⟨by rw [aCan, ifP_f (fun z => c2 z.2)], Same.rf⟩⟩⟩
  rw [aCan, ifP_t ⟨i_nl.mp c, c2⟩]
  obtain ⟨k, hk, rfl⟩ := of_inl (n := 10) (by decide) (i_nl.mp c) c2
  rw [nI_clamp (by omega)]
  refine (s_fillHaving isF_1 (by decide) h).mono ?_
  rintro m1 ⟨hT, hS⟩
  refine (s_findLeast hT hn hl (hit_all hs h0)).mono ?_
  rintro m2 ⟨⟨k0, b, w, s, e1, e2, e3, e4, hH⟩, hS2⟩
  have hSS : Same mem m2 [11, 12, 13] := hS.tr (hS2.wd (by simp))
  have hk0 := pop_le b
  have hb := hH.2.2.1
  rw [e1, nI_ltI (by omega) (by omega)]
  refine ⟨fun z => ⟨?_, hSS⟩, fun z => ⟨?_, hSS⟩⟩
  · rw [ifP_f]
    rintro ⟨b', z1, z2, z3⟩
    have := hH.2.2.2.1 b' z1 z2
    omega
  · rw [ifP_t]
    exact ⟨b, hH.1, hH.2.1, by omega⟩
theorem y_can {a : Int32} (h : Now mem n S) (hs : ∀ i, S.getD i 0 < 2 ^ n) (h0 : ∀ i, i < S.length → S.getD i 0 ≠ 0) : CI shM m_Mo_can (d + 3) [.ref 0, .int a] mem (fun r m' => r = aCan n S a ∧ Keep mem m') := by
  refine e_Mo_can ⟨fun c => ⟨by rw [aCan, ifP_f c], Keep.rf⟩, fun c => ?_⟩
  rw [aCan, ifP_t c]
  obtain ⟨k, hk, rfl⟩ := of_inl (n := 10) (by decide) c.1 c.2
  rw [nI_clamp (by omega)]
  refine (s_fewestToHit h hs h0 (pop_pow1 n h.2.2.2.1)).mono ?_
  rintro v m1 ⟨⟨k0, l1, l2, ⟨b, b1, b2, b3⟩, l4⟩, rfl⟩
  rw [l2, nI_ltI (by omega) (by omega)]
  refine ⟨fun z => ⟨?_, Keep.rf⟩, fun z => ⟨?_, Keep.rf⟩⟩
  · rw [ifP_f]
    rintro ⟨b', z1, z2, z3⟩
    have := l4 b' z1 z2
    omega
  · rw [ifP_t]
    exact ⟨b, b1, b2, by omega⟩
theorem s_greatestSize (h : Fam mem 1 n S) : CI shX m_Family_greatestSize (d + 1) [.ref 1] mem (fun r m' => r = lstI (GrS S) (-2) ∧ m' = mem) := by
  have hl := h.2.2.1
  refine e_Family_greatestSize isF_1 ?_
  have key : ∀ i, i ≤ S.length → ∀ x : Int32, ((i = 0 ∧ x = -2) ∨ ∃ k, x = nI k ∧ (∃ j, j < i ∧ pop (S.getD j 0) = k) ∧ ∀ j, j < i → pop (S.getD j 0) ≤ k) → Wp shX m_Family_greatestSize (d + 1) 5 [some (.ref 1), some (.int x), some (.int (nI i))] [] mem (QI (fun r m' => r = lstI (GrS S) (-2) ∧ m' = mem)) := by
    refine downInd (P := fun i => ∀ x : Int32, ((i = 0 ∧ x = -2) ∨ ∃ k, x = nI k ∧ (∃ j, j < i ∧ pop (S.getD j 0) = k) ∧ ∀ j, j < i → pop (S.getD j 0) ≤ k) → Wp shX m_Family_greatestSize (d + 1) 5 [some (.ref 1), some (.int x), some (.int (nI i))] [] mem (QI (fun r m' => r = lstI (GrS S) (-2) ∧ m' = mem))) S.length ?_ ?_
    · intro x hx
      refine b_Family_greatestSize_5 isF_1 ⟨fun _ => ⟨?_, rfl⟩, fun c => absurd ((h.ge (Nat.le_refl _)).mpr rfl) c⟩
      rcases hx with ⟨e1, e2⟩ | ⟨k, e1, e2, e3⟩
      · rw [grS_no e1, e2]
      · rw [e1, grS_I ⟨e2, e3⟩]
    · intro i hi ih x hx
      have hs := h.small i
      have hp := pop_le (S.getD i 0)
      refine b_Family_greatestSize_5 isF_1 ⟨fun c => absurd ((h.ge (Nat.le_of_lt hi)).mp c) (by omega), fun _ => ⟨h.vin hi, fun y hy => ?_⟩⟩
      rw [h.row hi, bc (by omega)] at hy
      rw [nI_1]
      refine ih y (Or.inr ?_)
      rcases hx with ⟨e1, e2⟩ | ⟨k, e1, ⟨j, j1, j2⟩, e3⟩
      · rw [e2, if_pos (show (-2 : Int32) < nI (pop (S.getD i 0)) from Int32.lt_of_lt_of_le (by decide : (-2 : Int32) < 0) (nI_le0 (by omega)))] at hy
        exact ⟨_, hy, ⟨i, by omega, rfl⟩, fun j hj => by rw [show j = i by omega]; exact Nat.le_refl _⟩
      · have hk := pop_le (S.getD j 0)
        rw [e1] at hy
        by_cases q : k < pop (S.getD i 0)
        · rw [if_pos (nI_lt q (by omega))] at hy
          refine ⟨_, hy, ⟨i, by omega, rfl⟩, fun j' hj => ?_⟩
          by_cases e : j' = i
          · subst e; exact Nat.le_refl _
          · have := e3 j' (by omega); omega
        · rw [if_neg (nI_nlt (by omega) (by omega))] at hy
          refine ⟨k, hy, ⟨j, by omega, j2⟩, fun j' hj => ?_⟩
          by_cases e : j' = i
          · subst e; omega
          · exact e3 j' (by omega)
  exact key 0 (Nat.zero_le _) _ (Or.inl ⟨rfl, rfl⟩)
theorem s_leastSize (h : Fam mem 1 n S) : CI shX m_Family_leastSize (d + 1) [.ref 1] mem (fun r m' => r = lstI (LeS S) (-2) ∧ m' = mem) := by
  have hl := h.2.2.1
  refine e_Family_leastSize isF_1 ?_
  have key : ∀ i, i ≤ S.length → ∀ k, k ≤ 10 → ((i = 0 ∧ k = 10) ∨ ∃ j, j < i ∧ pop (S.getD j 0) = k) → (∀ j, j < i → k ≤ pop (S.getD j 0)) → Wp shX m_Family_leastSize (d + 1) 5 [some (.ref 1), some (.int (nI k)), some (.int (nI i))] [] mem (QI (fun r m' => r = lstI (LeS S) (-2) ∧ m' = mem)) := by
    refine downInd (P := fun i => ∀ k, k ≤ 10 → ((i = 0 ∧ k = 10) ∨ ∃ j, j < i ∧ pop (S.getD j 0) = k) → (∀ j, j < i → k ≤ pop (S.getD j 0)) → Wp shX m_Family_leastSize (d + 1) 5 [some (.ref 1), some (.int (nI k)), some (.int (nI i))] [] mem (QI (fun r m' => r = lstI (LeS S) (-2) ∧ m' = mem))) S.length ?_ ?_
    · intro k hk h1 h2
      refine b_Family_leastSize_5 isF_1 ⟨fun _ => ?_, fun c => absurd ((h.ge (Nat.le_refl _)).mpr rfl) c⟩
      rw [h.2.1, nI_z (by omega)]
      refine ⟨fun z => ⟨?_, rfl⟩, fun z => ⟨by rw [leS_no z], rfl⟩⟩
      rw [leS_I ⟨h1.resolve_left (fun q => z q.1), h2⟩]
    · intro i hi ih k hk h1 h2
      have hs := h.small i
      have hp : pop (S.getD i 0) ≤ 10 := pop_lt (by decide) hs
      refine b_Family_leastSize_5 isF_1 ⟨fun c => absurd ((h.ge (Nat.le_of_lt hi)).mp c) (by omega), fun _ => ⟨h.vin hi, fun y hy => ?_⟩⟩
      rw [h.row hi, bc (by omega)] at hy
      rw [nI_1]
      by_cases q : pop (S.getD i 0) < k
      · rw [if_pos (nI_lt q (by omega))] at hy
        subst hy
        refine ih _ hp (Or.inr ⟨i, by omega, rfl⟩) (fun j hj => ?_)
        by_cases e : j = i
        · subst e; exact Nat.le_refl _
        · have := h2 j (by omega); omega
      · rw [if_neg (nI_nlt (by omega) (by omega))] at hy
        subst hy
        refine ih k hk (Or.inr ?_) (fun j hj => ?_)
        · rcases h1 with ⟨e1, e2⟩ | ⟨j, j1, j2⟩
          · exact ⟨i, by omega, by omega⟩
          · exact ⟨j, by omega, j2⟩
        · by_cases e : j = i
          · subst e; omega
          · exact h2 j (by omega)
  exact key 0 (Nat.zero_le _) 10 (by decide) (Or.inl ⟨rfl, rfl⟩) (fun j hj => absurd hj (Nat.not_lt_zero _))
theorem s_MgreatestSize (h : Now mem n S) (h0 : ∀ i, i < S.length → S.getD i 0 ≠ 0) : CI shM m_Mo_greatestSize (d + 2) [.ref 0] mem (fun r m' => r = lstI (GrS S) (-2) ∧ m' = mem) := by
  have hl := h.2.2.1
  refine e_Mo_greatestSize ?_
  have key : ∀ k, k ≤ 10 → (∀ i, i < S.length → pop (S.getD i 0) ≤ k) → Wp shM m_Mo_greatestSize (d + 2) 3 [some (.ref 0), some (.int (nI k))] [] mem (QI (fun r m' => r = lstI (GrS S) (-2) ∧ m' = mem)) := by
    intro k
    induction k with
    | zero =>
      intro _ hk
      have hz : S.length = 0 := by
        rcases Nat.eq_zero_or_pos S.length with z | z
        · exact z
        · have := hk 0 z
          have := pop_pos (b := S.getD 0 0) (by have := h.2.2.2.2.2 0; omega) (h0 0 z)
          omega
      refine b_Mo_greatestSize_3 ⟨fun _ => ⟨fun z => absurd nI_0 z, fun _ => ⟨by rw [grS_no hz], rfl⟩⟩, fun z => absurd (show nI 0 ≤ 0 by rw [nI_0]; decide) z⟩
    | succ k ih =>
      intro hk1 hk
      refine b_Mo_greatestSize_3 ⟨fun z => absurd z (nI_nle (by omega) (by omega)), fun _ => ?_⟩
      refine (s_sizedMany h (by omega)).to ?_
      have hc := cntP_le (fun i => decide (pop (S.getD i 0) = k + 1)) S.length
      rw [nI_z (by omega)]
      refine ⟨fun z => ⟨fun _ => ⟨?_, rfl⟩, fun z2 => absurd z2 (nI_ne0 (by omega) (by omega))⟩, fun z => ?_⟩
      · have : ∃ i, i < S.length ∧ pop (S.getD i 0) = k + 1 := by
          refine Classical.byContradiction (fun hn => z (cntP_no _ (fun j hj q => hn ⟨j, hj, ?_⟩)))
          rw [decide_eq_true_iff] at q; exact q
        rw [grS_I ⟨this, hk⟩]
      · rw [nI_dec]
        refine ih (by omega) (fun i hi => ?_)
        have h1 := hk i hi
        rcases Nat.lt_or_ge (pop (S.getD i 0)) (k + 1) with q | q
        · omega
        · have := cntP_strict (f := fun _ => false) (g := fun i => decide (pop (S.getD i 0) = k + 1)) (i0 := i) S.length (fun _ _ q => by simp at q) hi (by simp) (by rw [decide_eq_true_iff]; omega)
          omega
  exact key 10 (Nat.le_refl _) (fun i hi => pop_lt (by decide) (h.2.2.2.2.2 i))
theorem s_MleastSize (h : Now mem n S) (h0 : ∀ i, i < S.length → S.getD i 0 ≠ 0) : CI shM m_Mo_leastSize (d + 2) [.ref 0] mem (fun r m' => r = lstI (LeS S) (-2) ∧ m' = mem) := by
  have hl := h.2.2.1
  refine e_Mo_leastSize ?_
  have key : ∀ k, k ≤ 11 → 1 ≤ k → (∀ i, i < S.length → k ≤ pop (S.getD i 0)) → Wp shM m_Mo_leastSize (d + 2) 2 [some (.ref 0), some (.int (nI k))] [] mem (QI (fun r m' => r = lstI (LeS S) (-2) ∧ m' = mem)) := by
    refine downInd (P := fun k => 1 ≤ k → (∀ i, i < S.length → k ≤ pop (S.getD i 0)) → Wp shM m_Mo_leastSize (d + 2) 2 [some (.ref 0), some (.int (nI k))] [] mem (QI (fun r m' => r = lstI (LeS S) (-2) ∧ m' = mem))) 11 ?_ ?_
    · intro _ hk
      have hz : S.length = 0 := by
        rcases Nat.eq_zero_or_pos S.length with z | z
        · exact z
        · have := hk 0 z
          have := pop_lt (b := S.getD 0 0) (w := 10) (by decide) (h.2.2.2.2.2 0)
          omega
      exact b_Mo_leastSize_2 ⟨fun _ => ⟨fun z => absurd z (by decide), fun _ => ⟨by rw [leS_no hz], rfl⟩⟩, fun z => absurd (show (10 : Int32) < nI 11 by decide) z⟩
    · intro k hk11 ih hk1 hk
      refine b_Mo_leastSize_2 ⟨fun z => absurd z (by rw [show (10 : Int32) = nI 10 from rfl, nI_ltI (by omega) (by omega)]; omega), fun _ => ?_⟩
      refine (s_sizedMany h (by omega)).to ?_
      have hc := cntP_le (fun i => decide (pop (S.getD i 0) = k)) S.length
      rw [nI_z (by omega)]
      refine ⟨fun z => ⟨fun _ => ⟨?_, rfl⟩, fun z2 => absurd (show nI k ≤ (10 : Int32) from nI_le (b := 10) (by omega) (by decide)) z2⟩, fun z => ?_⟩
      · have : ∃ i, i < S.length ∧ pop (S.getD i 0) = k := by
          refine Classical.byContradiction (fun hn => z (cntP_no _ (fun j hj q => hn ⟨j, hj, ?_⟩)))
          rw [decide_eq_true_iff] at q; exact q
        rw [leS_I ⟨this, hk⟩]
      · rw [nI_1]
        refine ih (by omega) (fun i hi => ?_)
        have h1 := hk i hi
        rcases Nat.lt_or_ge k (pop (S.getD i 0)) with q | q
        · omega
        · have := cntP_strict (f := fun _ => false) (g := fun i => decide (pop (S.getD i 0) = k)) (i0 := i) S.length (fun _ _ q => by simp at q) hi (by simp) (by rw [decide_eq_true_iff]; omega)
          omega
  exact key 1 (by decide) (Nat.le_refl _) (fun i hi => pop_pos (b := S.getD i 0) (by have := h.2.2.2.2.2 i; omega) (h0 i hi))
theorem out6 {a : Int32} (h : a.toInt < 0 ∨ 6 < a.toInt) : ¬ a = 0 ∧ ¬ a = 1 ∧ ¬ a = 2 ∧ ¬ a = 3 ∧ ¬ a = 4 ∧ ¬ a = 5 ∧ ¬ a = 6 := by
  refine ⟨?_, ?_, ?_, ?_, ?_, ?_, ?_⟩ <;> (intro e; subst e; revert h; decide)
theorem x_count {a : Int32} {hl tl : Nat} (h : Fam mem 1 n S) (e3 : mem 5 3 = nI hl) (e4 : mem 8 1 = nI tl) : CI shX m_PS_count (d + 2) [.ref 0, .int a] mem (fun r m' => r = aCount n S hl tl a ∧ m' = mem) := by
  have hL := h.2.2.1
  have hp := pow17 hL
  have h1p : 1 ≤ 2 ^ S.length := Nat.one_le_two_pow
  refine e_PS_count ⟨fun c => ?_, fun c => ?_, fun c => ?_, fun c => ?_, fun c => ?_, fun c => ?_, fun c => ?_, fun c => ?_⟩
  · obtain ⟨z0, z1, z2, z3, z4, z5, z6⟩ := out6 c
    exact ⟨by rw [aCount, if_neg z0, if_neg z1, if_neg z2, if_neg z3, if_neg z4, if_neg z5, if_neg z6], rfl⟩
  · subst c; exact ⟨h.1, rfl⟩
  · subst c; exact ⟨h.2.1, rfl⟩
  · subst c
    rw [h.2.1, al (by omega)]
    refine (s_unionOf isF_1 h (by omega)).to ⟨by rw [unT_all]; rfl, rfl⟩
  · subst c; exact ⟨e3, rfl⟩
  · subst c; exact ⟨e4, rfl⟩
  · subst c; exact (s_greatestSize h).to ⟨rfl, rfl⟩
  · subst c; exact (s_leastSize h).to ⟨rfl, rfl⟩
theorem y_count {a : Int32} {hl tl : Nat} (h : Now mem n S) (h0 : ∀ i, i < S.length → S.getD i 0 ≠ 0) (e3 : mem 0 4 = nI hl) (e4 : mem 0 26 = nI tl) : CI shM m_Mo_count (d + 3) [.ref 0, .int a] mem (fun r m' => r = aCount n S hl tl a ∧ Keep mem m') := by
  refine e_Mo_count ⟨fun c => ?_, fun c => ?_, fun c => ?_, fun c => ?_, fun c => ?_, fun c => ?_, fun c => ?_, fun c => ?_⟩
  · obtain ⟨z0, z1, z2, z3, z4, z5, z6⟩ := out6 c
    exact ⟨by rw [aCount, if_neg z0, if_neg z1, if_neg z2, if_neg z3, if_neg z4, if_neg z5, if_neg z6], Keep.rf⟩
  · subst c; exact ⟨h.1, Keep.rf⟩
  · subst c; exact ⟨h.2.1, Keep.rf⟩
  · subst c; exact (s_allHad h).to ⟨rfl, Keep.rf⟩
  · subst c; exact ⟨e3, Keep.rf⟩
  · subst c; exact ⟨e4, Keep.rf⟩
  · subst c; exact (s_MgreatestSize h h0).to ⟨rfl, Keep.rf⟩
  · subst c; exact (s_MleastSize h h0).to ⟨rfl, Keep.rf⟩
end CNT
