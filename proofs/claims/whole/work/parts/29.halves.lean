/-! halves of both sides -/
/-- the first of those below i, -2: there is none -/
def fstI (f : Nat → Bool) : Nat → Int32
  | 0 => -2
  | i + 1 => if f i = true ∧ fstI f i = -2 then nI i else fstI f i
theorem fstI_t {f : Nat → Bool} {i : Nat} (h : f i = true) (e : fstI f i = -2) : fstI f (i + 1) = nI i := by rw [fstI, if_pos ⟨h, e⟩]
theorem fstI_k {f : Nat → Bool} {i : Nat} (e : ¬ fstI f i = -2) : fstI f (i + 1) = fstI f i := by rw [fstI, if_neg (fun z => e z.2)]
theorem fstI_f {f : Nat → Bool} {i : Nat} (h : ¬ f i = true) : fstI f (i + 1) = fstI f i := by rw [fstI, if_neg (fun z => h z.1)]
/-- b has of each set of two or more points one, not all -/
def Hv (S : List Nat) (b : Nat) : Prop := ∀ i, i < S.length → 2 ≤ pop (S.getD i 0) → S.getD i 0 &&& b ≠ 0 ∧ S.getD i 0 &&& b ≠ S.getD i 0
noncomputable def hvB (S : List Nat) (b : Nat) : Bool := @decide (Hv S b) (Classical.propDecidable _)
theorem hvB_iff {S : List Nat} {b : Nat} : hvB S b = true ↔ Hv S b := @decide_eq_true_iff _ (Classical.propDecidable _)
noncomputable def aHalves (n : Nat) (S : List Nat) (a : Int32) : Int32 := ifP (0 ≤ a ∧ a ≤ 1) (if a = 0 then nI (cntP (hvB S) (2 ^ n)) else fstI (hvB S) (2 ^ n)) (-1)
theorem and_dif {s b n : Nat} (hs : s < 2 ^ n) : s &&& dif (2 ^ n - 1) b = 0 ↔ s &&& b = s := by
  constructor
  · intro h
    apply Nat.eq_of_testBit_eq
    intro j
    rw [Nat.testBit_and]
    cases e : s.testBit j with
    | false => rfl
    | true =>
      have hj := bit_lt hs e
      have h2 : (s &&& dif (2 ^ n - 1) b).testBit j = false := by rw [h, Nat.zero_testBit]
      rw [Nat.testBit_and, e, dif_bit, Nat.testBit_two_pow_sub_one, decide_eq_true hj] at h2
      simpa using h2
  · intro h
    apply Nat.eq_of_testBit_eq
    intro j
    rw [Nat.testBit_and, dif_bit, Nat.zero_testBit]
    cases e : s.testBit j with
    | false => rfl
    | true =>
      have h2 : (s &&& b).testBit j = true := by rw [h]; exact e
      rw [Nat.testBit_and, e] at h2
      simp at h2
      simp [h2]
section HAL
variable {d n : Nat} {S : List Nat} {mem : Mem}
theorem hv_cut {b : Nat} (hs : ∀ i, S.getD i 0 < 2 ^ n) : dif (msk (fun i => decide (2 ≤ pop (S.getD i 0))) S.length) (msk (fun i => !decide (S.getD i 0 &&& b = 0)) S.length &&& msk (fun i => !decide (S.getD i 0 &&& dif (2 ^ n - 1) b = 0)) S.length) = 0 ↔ hvB S b = true := by
  rw [hvB_iff]
  constructor
  · intro h i hi h2
    have h3 := congrArg (fun x => Nat.testBit x i) h
    simp only [dif_bit, msk_bit, Nat.testBit_and, Nat.zero_testBit, hi, h2, decide_true, Bool.true_and, and_dif (hs i)] at h3
    simpa using h3
  · intro h
    apply Nat.eq_of_testBit_eq
    intro i
    rw [dif_bit, msk_bit, Nat.testBit_and, msk_bit, msk_bit, Nat.zero_testBit]
    by_cases hi : i < S.length
    · by_cases h2 : 2 ≤ pop (S.getD i 0)
      · have h3 := h i hi h2
        have h4 : ¬ S.getD i 0 &&& dif (2 ^ n - 1) b = 0 := fun z => h3.2 ((and_dif (hs i)).mp z)
        rw [decide_eq_true hi, decide_eq_true h2, decide_eq_false h3.1, decide_eq_false h4]; rfl
      · rw [decide_eq_false h2, Bool.and_false, Bool.false_and]
    · rw [decide_eq_false hi]; rfl
theorem x_halves {a : Int32} (h : Fam mem 1 n S) (hs : ∀ i, S.getD i 0 < 2 ^ n) : CI shX m_PS_halves (d + 3) [.ref 0, .int a] mem (fun r m' => r = aHalves n S a ∧ Same mem m' [11, 12, 13]) := by
  have hl := h.2.2.1
  have hn := h.2.2.2.1
  have hpn : 2 ^ n ≤ 2 ^ 10 := Nat.pow_le_pow_right (by decide) hn
  have h1n : 1 ≤ 2 ^ n := Nat.one_le_two_pow
  refine e_PS_halves ⟨fun c => ⟨by rw [aHalves, ifP_f (fun z => i_nl.mpr z.1 c)], Same.rf⟩, fun c => ⟨fun c2 => ?_, fun c2 => ⟨by rw [aHalves, ifP_f (fun z => c2 z.2)], Same.rf⟩⟩⟩
  rw [aHalves, ifP_t ⟨i_nl.mp c, c2⟩]
  refine (s_fillHaving isF_1 (by decide) h).mono ?_
  rintro m1 ⟨hT, hS⟩
  have hF := h.same hS (by decide) (by decide)
  refine (s_setsOfTwoOrMore isF_1 hF).to ?_
  refine downInd (P := fun i => Wp shX m_PS_halves (d + 3) 39 [some (.ref 0), some (.int a), some (.int (nI (cntP (hvB S) i))), some (.int (fstI (hvB S) i)), some (.int (nI (msk (fun i => decide (2 ≤ pop (S.getD i 0))) S.length))), some (.int (nI i)), none] [] m1 (QI (fun r m' => r = (if a = 0 then nI (cntP (hvB S) (2 ^ n)) else fstI (hvB S) (2 ^ n)) ∧ Same mem m' [11, 12, 13]))) (2 ^ n) ?_ ?_ 0 (Nat.zero_le _)
  · refine b_PS_halves_39 ⟨fun _ => ⟨fun z => ⟨by rw [if_neg z], hS⟩, fun z => ⟨by rw [if_pos z], hS⟩⟩, fun c => absurd (by rw [hF.1, al (by omega)]; exact nI_lt (by omega) (by omega)) c⟩
  · intro i hi ih
    have hd : dif (2 ^ n - 1) i < 2 ^ n := dif_lt (by omega)
    have hk := dif_lt (b := (msk (fun j => !decide (S.getD j 0 &&& i = 0)) S.length &&& msk (fun j => !decide (S.getD j 0 &&& dif (2 ^ n - 1) i = 0)) S.length)) (msk_lt (fun j => decide (2 ≤ pop (S.getD j 0))) S.length)
    have hp := pow17 hl
    refine b_PS_halves_39 ⟨fun c => absurd c (by rw [hF.1, al (by omega), nI_ltI (by omega) (by omega)]; omega), fun _ => ?_⟩
    rw [hF.1, al (by omega), idif, hT.tc hn hi, hT.tc hn hd, tch_having (by omega), tch_having (by omega), ia, idif, nI_z (by omega), hv_cut hs, nI_1, nI_1]
    refine ⟨fun z => ?_, fun z => ⟨fun z2 => ?_, fun z2 => ?_⟩⟩
    · rw [cntP, if_neg z, Nat.add_zero, fstI_f z] at ih
      exact ih
    · rw [cntP, if_pos z, fstI_k z2] at ih
      exact ih
    · rw [cntP, if_pos z, fstI_t z z2] at ih
      exact ih
theorem s_halvesAll {b : Nat} (h : Now mem n S) (hb : b < 2 ^ 31) : CI shM m_Mo_halvesAll (d + 1) [.ref 0, .int (nI b)] mem (fun r m' => ((hvB S b = true ∧ r = 1) ∨ (¬ hvB S b = true ∧ r = 0)) ∧ m' = mem) := by
  have hl := h.2.2.1
  refine e_Mo_halvesAll ?_
  refine downInd (P := fun i => (∀ j, j < i → 2 ≤ pop (S.getD j 0) → S.getD j 0 &&& b ≠ 0 ∧ S.getD j 0 &&& b ≠ S.getD j 0) → Wp shM m_Mo_halvesAll (d + 1) 2 [some (.ref 0), some (.int (nI b)), some (.int (nI i)), none] [] mem (QI (fun r m' => ((hvB S b = true ∧ r = 1) ∨ (¬ hvB S b = true ∧ r = 0)) ∧ m' = mem))) S.length ?_ ?_ 0 (Nat.zero_le _) (fun j hj => absurd hj (by omega))
  · intro hI
    exact b_Mo_halvesAll_2 ⟨fun _ => ⟨Or.inl ⟨hvB_iff.mpr hI, rfl⟩, rfl⟩, fun c => absurd ((h.ge (Nat.le_refl _)).mpr rfl) c⟩
  · intro i hi ih hI
    have hgi := h.2.2.2.2.2 i
    have hpo := pop_le (S.getD i 0)
    have hle : S.getD i 0 &&& b ≤ S.getD i 0 := Nat.and_le_left
    refine b_Mo_halvesAll_2 ⟨fun c => absurd ((h.ge (Nat.le_of_lt hi)).mp c) (by omega), fun _ => ⟨h.vin hi, h.vin hi, ?_⟩⟩
    rw [h.row hi]
    refine (s_ones (by omega)).to ?_
    rw [show (1 : Int32) = nI 1 from rfl, nI_leI (by omega) (by decide), nI_add, h.row hi, ia, nI_z (by omega), nI_inj (by omega) (by omega)]
    refine ⟨fun c => ih (fun j hj h2 => ?_), fun c => ⟨fun c2 => ⟨Or.inr ⟨fun z => ?_, rfl⟩, rfl⟩, fun c2 => ⟨h.vin hi, fun c3 => ih (fun j hj h2 => ?_), fun c3 => ⟨Or.inr ⟨fun z => ?_, rfl⟩, rfl⟩⟩⟩⟩
    · by_cases e : j = i
      · subst e; omega
      · exact hI j (by omega) h2
    · exact (hvB_iff.mp z i hi (by omega)).1 c2
    · by_cases e : j = i
      · subst e; exact ⟨c2, c3⟩
      · exact hI j (by omega) h2
    · exact (hvB_iff.mp z i hi (by omega)).2 c3
theorem y_halves {a : Int32} (h : Now mem n S) : CI shM m_Mo_halves (d + 2) [.ref 0, .int a] mem (fun r m' => r = aHalves n S a ∧ Keep mem m') := by
  have hn := h.2.2.2.1
  have hpn : 2 ^ n ≤ 2 ^ 10 := Nat.pow_le_pow_right (by decide) hn
  have h1n : 1 ≤ 2 ^ n := Nat.one_le_two_pow
  refine e_Mo_halves ⟨fun c => ?_, fun c => ⟨by rw [aHalves, ifP_f c], Keep.rf⟩⟩
  rw [aHalves, ifP_t c]
  refine downInd (P := fun i => Wp shM m_Mo_halves (d + 2) 19 [some (.ref 0), some (.int a), some (.int (nI (cntP (hvB S) i))), some (.int (fstI (hvB S) i)), some (.int (nI i))] [] mem (QI (fun r m' => r = (if a = 0 then nI (cntP (hvB S) (2 ^ n)) else fstI (hvB S) (2 ^ n)) ∧ Keep mem m'))) (2 ^ n) ?_ ?_ 0 (Nat.zero_le _)
  · refine b_Mo_halves_19 ⟨fun _ => ⟨fun z => ⟨by rw [if_neg z], Keep.rf⟩, fun z => ⟨by rw [if_pos z], Keep.rf⟩⟩, fun c => absurd (by rw [h.1, al (by omega)]; exact nI_lt (by omega) (by omega)) c⟩
  · intro i hi ih
    refine b_Mo_halves_19 ⟨fun c => absurd c (by rw [h.1, al (by omega), nI_ltI (by omega) (by omega)]; omega), fun _ => ?_⟩
    refine (s_halvesAll h (by omega)).mono ?_
    rintro v m' ⟨hv, rfl⟩
    rw [nI_1, nI_1]
    rcases hv with ⟨z, y⟩ | ⟨z, y⟩
    · refine ⟨fun _ => ⟨fun z2 => ?_, fun z2 => ?_⟩, fun c => absurd (y.symm.trans c) (by decide)⟩
      · rw [cntP, if_pos z, fstI_k z2] at ih
        exact ih
      · rw [cntP, if_pos z, fstI_t z z2] at ih
        exact ih
    · refine ⟨fun c => absurd y c, fun _ => ?_⟩
      rw [cntP, if_neg z, Nat.add_zero, fstI_f z] at ih
      exact ih
end HAL
