/-! degree, having, hits, missed, sized of both sides -/
def cntP (p : Nat → Bool) : Nat → Nat
  | 0 => 0
  | i + 1 => cntP p i + (if p i then 1 else 0)
theorem cntP_le (p : Nat → Bool) : ∀ i, cntP p i ≤ i
  | 0 => Nat.le_refl 0
  | i + 1 => by have := cntP_le p i; rw [cntP]; split <;> omega
theorem cntP_cong {p q : Nat → Bool} : ∀ (m : Nat), (∀ i, i < m → p i = q i) → cntP p m = cntP q m
  | 0, _ => rfl
  | m + 1, h => by rw [cntP, cntP, cntP_cong m (fun i hi => h i (by omega)), h m (by omega)]
theorem pop_msk (p : Nat → Bool) : ∀ m, m ≤ 20 → pop (msk p m) = cntP p m
  | 0, _ => pop_zero
  | m + 1, h => by
    rw [msk, cntP]
    by_cases hp : p m = true
    · rw [if_pos hp, if_pos hp, pop_top (msk_lt p m) (by omega), pop_msk p m (by omega)]
    · rw [if_neg hp, if_neg hp, Nat.add_zero, Nat.add_zero, pop_msk p m (by omega)]
theorem and_pow {a p : Nat} : a &&& 2 ^ p = 2 ^ p ↔ a.testBit p = true := by
  constructor
  · intro h
    have := congrArg (fun v => v.testBit p) h
    simp only [Nat.testBit_and, Nat.testBit_two_pow_self, Bool.and_true] at this
    exact this
  · intro h
    apply Nat.eq_of_testBit_eq
    intro i
    rw [Nat.testBit_and, Nat.testBit_two_pow]
    by_cases e : p = i
    · subst e; simp [h]
    · simp [e]
theorem dif_z {a b : Nat} : dif a b = 0 ↔ b &&& a = a := by
  constructor
  · intro h
    apply Nat.eq_of_testBit_eq
    intro i
    have := congrArg (fun v => v.testBit i) h
    simp only [dif_bit, Nat.zero_testBit] at this
    rw [Nat.testBit_and]
    revert this
    cases a.testBit i <;> cases b.testBit i <;> simp
  · intro h
    apply Nat.eq_of_testBit_eq
    intro i
    have := congrArg (fun v => v.testBit i) h
    simp only [Nat.testBit_and] at this
    rw [dif_bit, Nat.zero_testBit]
    revert this
    cases a.testBit i <;> cases b.testBit i <;> simp
theorem dif_lt {a b m : Nat} (h : a < 2 ^ m) : dif a b < 2 ^ m := sub_le (s := a) (fun i hi => by rw [dif_bit, Bool.and_eq_true] at hi; exact hi.1) h
theorem dif_msk (p : Nat → Bool) (m : Nat) : dif (2 ^ m - 1) (msk p m) = msk (fun i => !p i) m := by
  apply Nat.eq_of_testBit_eq
  intro i
  rw [dif_bit, msk_bit, msk_bit, Nat.testBit_two_pow_sub_one]
  cases decide (i < m) <;> cases p i <;> rfl
theorem pts {a : Int32} {n : Nat} (hn : n ≤ 10) (h : 0 ≤ a ∧ a ≤ alF (nI n)) : ∃ b, b < 1024 ∧ b < 2 ^ n ∧ a = nI b := by
  obtain ⟨b, hb, e⟩ := nums (m := n) (by omega) h
  exact ⟨b, Nat.lt_of_lt_of_le hb (Nat.pow_le_pow_right (n := 2) (by decide) hn), hb, e⟩
section ASK
variable {d n : Nat} {S : List Nat} {mem : Mem}
noncomputable def aDegree (n : Nat) (S : List Nat) (a : Int32) : Int32 := ifP (0 ≤ a ∧ a < nI n) (nI (cntP (fun i => (S.getD i 0).testBit a.toNatClampNeg) S.length)) (-1)
theorem x_degree {a : Int32} (h : Fam mem 1 n S) : CI shX m_PS_degree (d + 1) [.ref 0, .int a] mem (fun r m' => r = aDegree n S a ∧ m' = mem) := by
  have hl := h.2.2.1
  have hn := h.2.2.2.1
  refine e_PS_degree ⟨fun c => ?_, fun c => ⟨?_, rfl⟩⟩
  · rw [h.1] at c
    rw [aDegree, ifP_t c]
    obtain ⟨p, hp, rfl⟩ := of_in (by omega) c.1 c.2
    rw [nI_clamp (by omega), sh1 (by omega)]
    have hpw : 2 ^ p < 2 ^ 31 := Nat.pow_lt_pow_right (by decide) (by omega)
    refine (s_setsWith isF_1 h hpw).to ?_
    have hm := msk_lt (fun i => decide (S.getD i 0 &&& 2 ^ p = 2 ^ p)) S.length
    have hm2 : 2 ^ S.length ≤ 2 ^ 17 := Nat.pow_le_pow_right (by decide) hl
    refine ⟨?_, rfl⟩
    rw [bc (by omega), pop_msk _ _ (by omega)]
    congr 1
    refine cntP_cong _ (fun i _ => ?_)
    cases e : (S.getD i 0).testBit p with
    | true => exact decide_eq_true (and_pow.mpr e)
    | false => exact decide_eq_false (fun z => by rw [and_pow.mp z] at e; cases e)
  · rw [h.1] at c
    rw [aDegree, ifP_f c]
theorem s_degreeOf {p : Nat} (h : Now mem n S) (hp : p < 31) : CI shM m_Mo_degreeOf (d + 1) [.ref 0, .int (nI p)] mem (fun r m' => r = nI (cntP (fun i => (S.getD i 0).testBit p) S.length) ∧ m' = mem) := by
  have hl := h.2.2.1
  refine e_Mo_degreeOf ?_
  refine downInd (P := fun i => Wp shM m_Mo_degreeOf (d + 1) 4 [some (.ref 0), some (.int (nI p)), some (.int (nI (cntP (fun i => (S.getD i 0).testBit p) i))), some (.int (nI i))] [] mem (QI (fun r m' => r = nI (cntP (fun i => (S.getD i 0).testBit p) S.length) ∧ m' = mem))) S.length ?_ ?_ 0 (Nat.zero_le _)
  · exact b_Mo_degreeOf_4 ⟨fun _ => ⟨rfl, rfl⟩, fun c => absurd ((h.ge (Nat.le_refl _)).mpr rfl) c⟩
  · intro i hi ih
    have hg := h.2.2.2.2.2 i
    refine b_Mo_degreeOf_4 ⟨fun c => absurd ((h.ge (Nat.le_of_lt hi)).mp c) (by omega), fun _ => ⟨h.vin hi, fun c => ?_, fun c => ?_⟩⟩
    · rw [h.row hi, hasI (by omega) (by omega)] at c
      rw [cntP, if_neg c, Nat.add_zero] at ih
      rw [nI_1]
      exact ih
    · rw [h.row hi, hasI (by omega) (by omega)] at c
      rw [cntP, if_pos c] at ih
      rw [nI_1, nI_1]
      exact ih
theorem y_degree {a : Int32} (h : Now mem n S) : CI shM m_Mo_degree (d + 2) [.ref 0, .int a] mem (fun r m' => r = aDegree n S a ∧ Keep mem m') := by
  have hn := h.2.2.2.1
  refine e_Mo_degree ⟨fun c => ⟨?_, Keep.rf⟩, fun c => ?_⟩
  · rw [h.1, isThere_iff (by omega)] at c
    rw [aDegree, ifP_f c]
  · rw [h.1, isThere_iff (by omega)] at c
    rw [aDegree, ifP_t c]
    obtain ⟨p, hp, rfl⟩ := of_in (by omega) c.1 c.2
    rw [nI_clamp (by omega)]
    exact (s_degreeOf h (by omega)).to ⟨rfl, Keep.rf⟩
-- having
noncomputable def aHaving (n : Nat) (S : List Nat) (a : Int32) : Int32 := ifP (0 ≤ a ∧ a ≤ alF (nI n)) (nI (msk (fun i => decide (S.getD i 0 &&& a.toNatClampNeg = a.toNatClampNeg)) S.length)) (-1)
theorem x_having {a : Int32} (h : Fam mem 1 n S) : CI shX m_PS_having (d + 2) [.ref 0, .int a] mem (fun r m' => r = aHaving n S a ∧ m' = mem) := by
  refine e_PS_having ⟨fun c => ?_, fun c => ⟨?_, rfl⟩⟩
  · rw [h.1] at c
    rw [aHaving, ifP_t c]
    obtain ⟨b, hb, -, rfl⟩ := pts h.2.2.2.1 c
    rw [nI_clamp (by omega)]
    exact (s_setsWith isF_1 h (by omega)).to ⟨rfl, rfl⟩
  · rw [h.1] at c
    rw [aHaving, ifP_f c]
theorem s_havingAll {b : Nat} (h : Now mem n S) (hb : b < 2 ^ 31) : CI shM m_Mo_havingAll (d + 1) [.ref 0, .int (nI b)] mem (fun r m' => r = nI (msk (fun i => decide (S.getD i 0 &&& b = b)) S.length) ∧ m' = mem) := by
  have hl := h.2.2.1
  refine e_Mo_havingAll ?_
  refine downInd (P := fun i => Wp shM m_Mo_havingAll (d + 1) 4 [some (.ref 0), some (.int (nI b)), some (.int (nI (msk (fun i => decide (S.getD i 0 &&& b = b)) i))), some (.int (nI i))] [] mem (QI (fun r m' => r = nI (msk (fun i => decide (S.getD i 0 &&& b = b)) S.length) ∧ m' = mem))) S.length ?_ ?_ 0 (Nat.zero_le _)
  · exact b_Mo_havingAll_4 ⟨fun _ => ⟨rfl, rfl⟩, fun c => absurd ((h.ge (Nat.le_refl _)).mpr rfl) c⟩
  · intro i hi ih
    refine b_Mo_havingAll_4 ⟨fun c => absurd ((h.ge (Nat.le_of_lt hi)).mp c) (by omega), fun _ => ⟨h.vin hi, fun c => ?_, fun c => ?_⟩⟩
    · rw [h.row hi, idif, nI_z (dif_lt (m := 31) hb), dif_z] at c
      rw [msk, if_neg (by rw [decide_eq_true_iff]; exact c), Nat.add_zero] at ih
      rw [nI_1]
      exact ih
    · rw [h.row hi, idif, nI_z (dif_lt (m := 31) hb), dif_z] at c
      rw [msk, if_pos (by rw [decide_eq_true_iff]; exact c)] at ih
      rw [nI_1, sh1 (by omega), io, or_add (msk_lt _ i)]
      exact ih
theorem y_having {a : Int32} (h : Now mem n S) : CI shM m_Mo_having (d + 2) [.ref 0, .int a] mem (fun r m' => r = aHaving n S a ∧ Keep mem m') := by
  refine e_Mo_having ⟨fun c => ⟨?_, Keep.rf⟩, fun c => ?_⟩
  · rw [h.1] at c
    rw [aHaving, ifP_f c]
  · rw [h.1] at c
    rw [aHaving, ifP_t c]
    obtain ⟨b, hb, -, rfl⟩ := pts h.2.2.2.1 c
    rw [nI_clamp (by omega)]
    exact (s_havingAll h (by omega)).to ⟨rfl, Keep.rf⟩
-- missed, hits
theorem s_missedBy {b : Nat} (h : Now mem n S) : CI shM m_Mo_missedBy (d + 1) [.ref 0, .int (nI b)] mem (fun r m' => r = nI (msk (fun i => decide (S.getD i 0 &&& b = 0)) S.length) ∧ m' = mem) := by
  have hl := h.2.2.1
  refine e_Mo_missedBy ?_
  refine downInd (P := fun i => Wp shM m_Mo_missedBy (d + 1) 4 [some (.ref 0), some (.int (nI b)), some (.int (nI (msk (fun i => decide (S.getD i 0 &&& b = 0)) i))), some (.int (nI i))] [] mem (QI (fun r m' => r = nI (msk (fun i => decide (S.getD i 0 &&& b = 0)) S.length) ∧ m' = mem))) S.length ?_ ?_ 0 (Nat.zero_le _)
  · exact b_Mo_missedBy_4 ⟨fun _ => ⟨rfl, rfl⟩, fun c => absurd ((h.ge (Nat.le_refl _)).mpr rfl) c⟩
  · intro i hi ih
    have hg := h.2.2.2.2.2 i
    have hlt : S.getD i 0 &&& b < 2 ^ 31 := Nat.lt_of_le_of_lt Nat.and_le_left (by omega)
    refine b_Mo_missedBy_4 ⟨fun c => absurd ((h.ge (Nat.le_of_lt hi)).mp c) (by omega), fun _ => ⟨h.vin hi, fun c => ?_, fun c => ?_⟩⟩
    · rw [h.row hi, ia, nI_z hlt] at c
      rw [msk, if_neg (by rw [decide_eq_true_iff]; exact c), Nat.add_zero] at ih
      rw [nI_1]
      exact ih
    · rw [h.row hi, ia, nI_z hlt] at c
      rw [msk, if_pos (by rw [decide_eq_true_iff]; exact c)] at ih
      rw [nI_1, sh1 (by omega), io, or_add (msk_lt _ i)]
      exact ih
/-- the sets that some points do not hit -/
def misB (S : List Nat) (b : Nat) : Nat := msk (fun i => decide (S.getD i 0 &&& b = 0)) S.length
noncomputable def aMissed (n : Nat) (S : List Nat) (a : Int32) : Int32 := ifP (0 ≤ a ∧ a ≤ alF (nI n)) (nI (misB S a.toNatClampNeg)) (-1)
noncomputable def aHits (n : Nat) (S : List Nat) (a : Int32) : Int32 := ifP (0 ≤ a ∧ a ≤ alF (nI n)) (if misB S a.toNatClampNeg = 0 then 1 else 0) (-1)
theorem mis_dif (S : List Nat) (b : Nat) : dif (2 ^ S.length - 1) (msk (fun i => decide (¬ S.getD i 0 &&& b = 0)) S.length) = misB S b := by
  rw [dif_msk, misB]
  refine msk_cong _ (fun i _ => ?_)
  by_cases e : S.getD i 0 &&& b = 0 <;> simp [e]
theorem x_missed {a : Int32} (h : Fam mem 1 n S) : CI shX m_PS_missed (d + 2) [.ref 0, .int a] mem (fun r m' => r = aMissed n S a ∧ m' = mem) := by
  have hl := h.2.2.1
  refine e_PS_missed ⟨fun c => ?_, fun c => ⟨?_, rfl⟩⟩
  · rw [h.1] at c
    rw [aMissed, ifP_t c]
    obtain ⟨b, hb, -, rfl⟩ := pts h.2.2.2.1 c
    rw [nI_clamp (by omega)]
    refine (s_setsMeeting isF_1 h).to ⟨?_, rfl⟩
    rw [h.2.1, al (by omega), idif, mis_dif]
  · rw [h.1] at c
    rw [aMissed, ifP_f c]
theorem y_missed {a : Int32} (h : Now mem n S) : CI shM m_Mo_missed (d + 2) [.ref 0, .int a] mem (fun r m' => r = aMissed n S a ∧ Keep mem m') := by
  refine e_Mo_missed ⟨fun c => ⟨?_, Keep.rf⟩, fun c => ?_⟩
  · rw [h.1] at c
    rw [aMissed, ifP_f c]
  · rw [h.1] at c
    rw [aMissed, ifP_t c]
    obtain ⟨b, hb, -, rfl⟩ := pts h.2.2.2.1 c
    rw [nI_clamp (by omega)]
    exact (s_missedBy h).to ⟨rfl, Keep.rf⟩
theorem meet_all (S : List Nat) (b : Nat) : msk (fun i => decide (¬ S.getD i 0 &&& b = 0)) S.length = 2 ^ S.length - 1 ↔ misB S b = 0 := by
  rw [← mis_dif]
  constructor
  · intro e
    rw [e, dif_z, Nat.and_self]
  · intro e
    rw [dif_z] at e
    apply Nat.eq_of_testBit_eq
    intro i
    have := congrArg (fun v => v.testBit i) e
    simp only [Nat.testBit_and, Nat.testBit_two_pow_sub_one, msk_bit] at this
    rw [Nat.testBit_two_pow_sub_one, msk_bit]
    revert this
    cases decide (i < S.length) <;> simp
theorem x_hits {a : Int32} (h : Fam mem 1 n S) : CI shX m_PS_hits (d + 2) [.ref 0, .int a] mem (fun r m' => r = aHits n S a ∧ m' = mem) := by
  have hl := h.2.2.1
  have hp := pow17 hl
  refine e_PS_hits ⟨fun c => ?_, fun c => ⟨?_, rfl⟩⟩
  · rw [h.1] at c
    rw [aHits, ifP_t c]
    obtain ⟨b, hb, -, rfl⟩ := pts h.2.2.2.1 c
    rw [nI_clamp (by omega)]
    refine (s_setsMeeting isF_1 h).to ?_
    have hm := msk_lt (fun i => decide (¬ S.getD i 0 &&& b = 0)) S.length
    rw [h.2.1, al (by omega), nI_inj (by omega) (by omega), meet_all]
    exact ⟨fun z => ⟨by rw [if_neg z], rfl⟩, fun z => ⟨by rw [if_pos z], rfl⟩⟩
  · rw [h.1] at c
    rw [aHits, ifP_f c]
theorem y_hits {a : Int32} (h : Now mem n S) : CI shM m_Mo_hits (d + 2) [.ref 0, .int a] mem (fun r m' => r = aHits n S a ∧ Keep mem m') := by
  have hl := h.2.2.1
  have hp := pow17 (m := S.length) (by omega)
  refine e_Mo_hits ⟨fun c => ⟨?_, Keep.rf⟩, fun c => ?_⟩
  · rw [h.1] at c
    rw [aHits, ifP_f c]
  · rw [h.1] at c
    rw [aHits, ifP_t c]
    obtain ⟨b, hb, -, rfl⟩ := pts h.2.2.2.1 c
    rw [nI_clamp (by omega)]
    refine (s_missedBy h).to ?_
    have hm := msk_lt (fun i => decide (S.getD i 0 &&& b = 0)) S.length
    rw [nI_z (by omega)]
    exact ⟨fun z => ⟨by rw [if_neg (show ¬ misB S b = 0 from z)], Keep.rf⟩, fun z => ⟨by rw [if_pos (show misB S b = 0 from z)], Keep.rf⟩⟩
end ASK
