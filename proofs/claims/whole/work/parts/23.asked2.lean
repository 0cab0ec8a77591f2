/-! sized, pairs, set, withSet, link of both sides -/
section AS2
variable {d n : Nat} {S : List Nat} {mem : Mem}
noncomputable def aSized (S : List Nat) (a : Int32) : Int32 := ifP (0 ≤ a ∧ a ≤ 10) (nI (cntP (fun i => decide (pop (S.getD i 0) = a.toNatClampNeg)) S.length)) (-1)
theorem x_sized {a : Int32} (h : Fam mem 1 n S) : CI shX m_PS_sized (d + 1) [.ref 0, .int a] mem (fun r m' => r = aSized S a ∧ m' = mem) := by
  have hl := h.2.2.1
  refine e_PS_sized ⟨fun c => ⟨by rw [aSized, ifP_f (fun z => i_nl.mpr z.1 c)], rfl⟩, fun c => ⟨fun c2 => ?_, fun c2 => ⟨by rw [aSized, ifP_f (fun z => c2 z.2)], rfl⟩⟩⟩
  have hc : 0 ≤ a ∧ a ≤ 10 := ⟨i_nl.mp c, c2⟩
  rw [aSized, ifP_t hc]
  obtain ⟨k, hk, rfl⟩ := of_inl (n := 10) (by decide) hc.1 hc.2
  rw [nI_clamp (by omega)]
  refine downInd (P := fun i => Wp shX m_PS_sized (d + 1) 16 [some (.ref 0), some (.int (nI k)), some (.int (nI (cntP (fun i => decide (pop (S.getD i 0) = k)) i))), some (.int (nI i))] [] mem (QI (fun r m' => r = nI (cntP (fun i => decide (pop (S.getD i 0) = k)) S.length) ∧ m' = mem))) S.length ?_ ?_ 0 (Nat.zero_le _)
  · exact b_PS_sized_16 ⟨fun _ => ⟨rfl, rfl⟩, fun c => absurd ((h.ge (Nat.le_refl _)).mpr rfl) c⟩
  · intro i hi ih
    have hg := h.small i
    have hpo := pop_le (S.getD i 0)
    refine b_PS_sized_16 ⟨fun c => absurd ((h.ge (Nat.le_of_lt hi)).mp c) (by omega), fun _ => ⟨fun c => ?_, fun c => ?_⟩⟩
    · rw [h.aF hi, bc (by omega), nI_inj (by omega) (by omega)] at c
      rw [cntP, if_neg (by rw [decide_eq_true_iff]; exact c), Nat.add_zero] at ih
      rw [nI_1]
      exact ih
    · rw [h.aF hi, bc (by omega), nI_inj (by omega) (by omega)] at c
      rw [cntP, if_pos (by rw [decide_eq_true_iff]; exact c)] at ih
      rw [nI_1, nI_1]
      exact ih
theorem s_sizedMany {k : Nat} (h : Now mem n S) (hk : k < 2 ^ 31) : CI shM m_Mo_sizedMany (d + 1) [.ref 0, .int (nI k)] mem (fun r m' => r = nI (cntP (fun i => decide (pop (S.getD i 0) = k)) S.length) ∧ m' = mem) := by
  have hl := h.2.2.1
  refine e_Mo_sizedMany ?_
  refine downInd (P := fun i => Wp shM m_Mo_sizedMany (d + 1) 4 [some (.ref 0), some (.int (nI k)), some (.int (nI (cntP (fun i => decide (pop (S.getD i 0) = k)) i))), some (.int (nI i))] [] mem (QI (fun r m' => r = nI (cntP (fun i => decide (pop (S.getD i 0) = k)) S.length) ∧ m' = mem))) S.length ?_ ?_ 0 (Nat.zero_le _)
  · exact b_Mo_sizedMany_4 ⟨fun _ => ⟨rfl, rfl⟩, fun c => absurd ((h.ge (Nat.le_refl _)).mpr rfl) c⟩
  · intro i hi ih
    have hg := h.2.2.2.2.2 i
    have hpo := pop_le (S.getD i 0)
    refine b_Mo_sizedMany_4 ⟨fun c => absurd ((h.ge (Nat.le_of_lt hi)).mp c) (by omega), fun _ => ⟨h.vin hi, ?_⟩⟩
    rw [h.row hi]
    refine (s_ones (by omega)).to ⟨fun c => ?_, fun c => ?_⟩
    · rw [nI_inj (by omega) (by omega)] at c
      rw [cntP, if_neg (by rw [decide_eq_true_iff]; exact c), Nat.add_zero] at ih
      rw [nI_1]
      exact ih
    · rw [nI_inj (by omega) (by omega)] at c
      rw [cntP, if_pos (by rw [decide_eq_true_iff]; exact c)] at ih
      rw [nI_1, nI_1]
      exact ih
theorem y_sized {a : Int32} (h : Now mem n S) : CI shM m_Mo_sized (d + 2) [.ref 0, .int a] mem (fun r m' => r = aSized S a ∧ Keep mem m') := by
  refine e_Mo_sized ⟨fun c => ⟨by rw [aSized, ifP_f c], Keep.rf⟩, fun c => ?_⟩
  rw [aSized, ifP_t c]
  obtain ⟨k, hk, rfl⟩ := of_inl (n := 10) (by decide) c.1 c.2
  rw [nI_clamp (by omega)]
  exact (s_sizedMany h (by omega)).to ⟨rfl, Keep.rf⟩
-- pairs
def cnt2 (p : Nat → Nat → Bool) : Nat → Nat
  | 0 => 0
  | i + 1 => cnt2 p i + cntP (p i) i
noncomputable def aPairs (S : List Nat) (a : Int32) : Int32 := ifP (0 ≤ a ∧ a ≤ 10) (nI (cnt2 (fun i j => decide (pop (S.getD i 0 &&& S.getD j 0) = a.toNatClampNeg)) S.length)) (-1)
theorem x_pairs {a : Int32} (h : Fam mem 1 n S) : CI shX m_PS_pairs (d + 1) [.ref 0, .int a] mem (fun r m' => r = aPairs S a ∧ m' = mem) := by
  have hl := h.2.2.1
  refine e_PS_pairs ⟨fun c => ⟨by rw [aPairs, ifP_f (fun z => i_nl.mpr z.1 c)], rfl⟩, fun c => ⟨fun c2 => ?_, fun c2 => ⟨by rw [aPairs, ifP_f (fun z => c2 z.2)], rfl⟩⟩⟩
  have hc : 0 ≤ a ∧ a ≤ 10 := ⟨i_nl.mp c, c2⟩
  rw [aPairs, ifP_t hc]
  obtain ⟨k, hk, rfl⟩ := of_inl (n := 10) (by decide) hc.1 hc.2
  rw [nI_clamp (by omega)]
  generalize hq : (fun i j => decide (pop (S.getD i 0 &&& S.getD j 0) = k)) = q
  have main : ∀ i, i ≤ S.length → Wp shX m_PS_pairs (d + 1) 16 [some (.ref 0), some (.int (nI k)), some (.int (nI (cnt2 q i))), some (.int (nI i)), none] [] mem (QI (fun r m' => r = nI (cnt2 q S.length) ∧ m' = mem)) := by
    refine downInd (P := fun i => Wp shX m_PS_pairs (d + 1) 16 [some (.ref 0), some (.int (nI k)), some (.int (nI (cnt2 q i))), some (.int (nI i)), none] [] mem (QI (fun r m' => r = nI (cnt2 q S.length) ∧ m' = mem))) S.length ?_ ?_
    · exact b_PS_pairs_16 ⟨fun _ => ⟨rfl, rfl⟩, fun c => absurd ((h.ge (Nat.le_refl _)).mpr rfl) c⟩
    · intro i hi ih
      refine b_PS_pairs_16 ⟨fun c => absurd ((h.ge (Nat.le_of_lt hi)).mp c) (by omega), fun _ => ?_⟩
      refine downInd (P := fun j => Wp shX m_PS_pairs (d + 1) 30 [some (.ref 0), some (.int (nI k)), some (.int (nI (cnt2 q i + cntP (q i) j))), some (.int (nI i)), some (.int (nI j))] [] mem (QI (fun r m' => r = nI (cnt2 q S.length) ∧ m' = mem))) i ?_ ?_ 0 (Nat.zero_le _)
      · refine b_PS_pairs_30 ⟨fun _ => ?_, fun c => absurd (nI_le (Nat.le_refl i) (by omega)) c⟩
        rw [nI_1]
        exact ih
      · intro j hj ihj
        have hg := h.small i
        have hpo := pop_le (S.getD i 0 &&& S.getD j 0)
        have hlt : S.getD i 0 &&& S.getD j 0 < 1024 := Nat.lt_of_le_of_lt Nat.and_le_left hg
        refine b_PS_pairs_30 ⟨fun c => absurd c (by rw [nI_leI (by omega) (by omega)]; omega), fun _ => ⟨fun c => ?_, fun c => ?_⟩⟩
        · rw [h.aF hi, h.aF (Nat.lt_trans hj hi), ia, bc (by omega), nI_inj (by omega) (by omega)] at c
          rw [cntP, if_neg (by rw [← hq, decide_eq_true_iff]; exact c), Nat.add_zero] at ihj
          rw [nI_1]
          exact ihj
        · rw [h.aF hi, h.aF (Nat.lt_trans hj hi), ia, bc (by omega), nI_inj (by omega) (by omega)] at c
          rw [cntP, if_pos (by rw [← hq, decide_eq_true_iff]; exact c), ← Nat.add_assoc] at ihj
          rw [nI_1, nI_1]
          exact ihj
  rcases Nat.eq_zero_or_pos S.length with e | e
  · refine b_PS_pairs_16 ⟨fun _ => ⟨by rw [e]; rfl, rfl⟩, fun c => absurd (by rw [h.2.1, e]; decide) c⟩
  · exact main 1 e
theorem y_pairs {a : Int32} (h : Now mem n S) : CI shM m_Mo_pairs (d + 1) [.ref 0, .int a] mem (fun r m' => r = aPairs S a ∧ Keep mem m') := by
  have hl := h.2.2.1
  refine e_Mo_pairs ⟨fun hc => ?_, fun c => ⟨by rw [aPairs, ifP_f c], Keep.rf⟩⟩
  rw [aPairs, ifP_t hc]
  obtain ⟨k, hk, rfl⟩ := of_inl (n := 10) (by decide) hc.1 hc.2
  rw [nI_clamp (by omega)]
  generalize hq : (fun i j => decide (pop (S.getD i 0 &&& S.getD j 0) = k)) = q
  refine downInd (P := fun i => Wp shM m_Mo_pairs (d + 1) 16 [some (.ref 0), some (.int (nI k)), some (.int (nI (cnt2 q i))), some (.int (nI i)), none] [] mem (QI (fun r m' => r = nI (cnt2 q S.length) ∧ Keep mem m'))) S.length ?_ ?_ 0 (Nat.zero_le _)
  · exact b_Mo_pairs_16 ⟨fun _ => ⟨rfl, Keep.rf⟩, fun c => absurd ((h.ge (Nat.le_refl _)).mpr rfl) c⟩
  · intro i hi ih
    refine b_Mo_pairs_16 ⟨fun c => absurd ((h.ge (Nat.le_of_lt hi)).mp c) (by omega), fun _ => ?_⟩
    refine downInd (P := fun j => Wp shM m_Mo_pairs (d + 1) 27 [some (.ref 0), some (.int (nI k)), some (.int (nI (cnt2 q i + cntP (q i) j))), some (.int (nI i)), some (.int (nI j))] [] mem (QI (fun r m' => r = nI (cnt2 q S.length) ∧ Keep mem m'))) i ?_ ?_ 0 (Nat.zero_le _)
    · refine b_Mo_pairs_27 ⟨fun _ => ?_, fun c => absurd (nI_le (Nat.le_refl i) (by omega)) c⟩
      rw [nI_1]
      exact ih
    · intro j hj ihj
      have hg := h.2.2.2.2.2 i
      have hpo := pop_le (S.getD i 0 &&& S.getD j 0)
      have hlt : S.getD i 0 &&& S.getD j 0 < 1024 := Nat.lt_of_le_of_lt Nat.and_le_left hg
      refine b_Mo_pairs_27 ⟨fun c => absurd c (by rw [nI_leI (by omega) (by omega)]; omega), fun _ => ⟨h.vin hi, h.vin (Nat.lt_trans hj hi), ?_⟩⟩
      rw [h.row hi, h.row (Nat.lt_trans hj hi), ia]
      refine (s_ones (by omega)).to ⟨fun c => ?_, fun c => ?_⟩
      · rw [nI_inj (by omega) (by omega)] at c
        rw [cntP, if_neg (by rw [← hq, decide_eq_true_iff]; exact c), Nat.add_zero] at ihj
        rw [nI_1]
        exact ihj
      · rw [nI_inj (by omega) (by omega)] at c
        rw [cntP, if_pos (by rw [← hq, decide_eq_true_iff]; exact c), ← Nat.add_assoc] at ihj
        rw [nI_1, nI_1]
        exact ihj
-- set
noncomputable def aSet (S : List Nat) (a w : Int32) : Int32 := ifP (0 ≤ a ∧ a < nI S.length) (ifP (0 ≤ w ∧ w ≤ 3) (if w = 0 then nI (S.getD a.toNatClampNeg 0) else if w = 1 then nI (pop (S.getD a.toNatClampNeg 0)) else nI (msk (fun k => !decide (k = a.toNatClampNeg) && (if w = 2 then decide (S.getD k 0 &&& S.getD a.toNatClampNeg 0 = S.getD a.toNatClampNeg 0) else decide (¬ S.getD k 0 &&& S.getD a.toNatClampNeg 0 = 0))) S.length)) (-1)) (-1)
theorem w03 {w : Int32} {b : Int32} {n : Int} (hb : b.toInt = n) : (0 ≤ w ∧ w ≤ b) ↔ ¬ (w.toInt < 0 ∨ n < w.toInt) := by
  rw [Int32.le_iff_toInt_le, Int32.le_iff_toInt_le, hb, show (0 : Int32).toInt = 0 from rfl]
  omega
theorem msk_dif (p : Nat → Bool) (m i : Nat) : dif (msk p m) (2 ^ i) = msk (fun k => !decide (k = i) && p k) m := by
  apply Nat.eq_of_testBit_eq
  intro j
  rw [dif_bit, msk_bit, msk_bit, Nat.testBit_two_pow]
  by_cases e : j = i
  · subst e; simp
  · simp [e, Ne.symm e]
theorem x_set {a w : Int32} (h : Fam mem 1 n S) : CI shX m_PS_set (d + 1) [.ref 0, .int a, .int w] mem (fun r m' => r = aSet S a w ∧ m' = mem) := by
  have hl := h.2.2.1
  refine e_PS_set ⟨fun c => ?_, fun c => ⟨?_, rfl⟩⟩
  · rw [h.2.1] at c
    rw [aSet, ifP_t c]
    obtain ⟨i, hi, rfl⟩ := of_in (by omega) c.1 c.2
    have hg := h.small i
    rw [nI_clamp (by omega), h.aF hi]
    refine ⟨fun z => ⟨by rw [ifP_f (fun y => (w03 (b := 3) rfl).mp y z)], rfl⟩, fun z => ?_, fun z => ?_, fun z => ?_, fun z => ?_⟩
    · subst z
      exact ⟨by rw [ifP_t (by decide)]; rfl, rfl⟩
    · subst z
      exact ⟨by rw [ifP_t (by decide), bc (by omega)]; rfl, rfl⟩
    · subst z
      refine (s_setsWith isF_1 h (by omega)).to ⟨?_, rfl⟩
      rw [ifP_t (by decide), sh1 (by omega), idif, msk_dif]
      rfl
    · subst z
      refine (s_setsMeeting isF_1 h).to ⟨?_, rfl⟩
      rw [ifP_t (by decide), sh1 (by omega), idif, msk_dif]
      rfl
  · rw [h.2.1] at c
    rw [aSet, ifP_f c]
theorem y_set {a w : Int32} (h : Now mem n S) : CI shM m_Mo_set (d + 2) [.ref 0, .int a, .int w] mem (fun r m' => r = aSet S a w ∧ Keep mem m') := by
  have hl := h.2.2.1
  refine e_Mo_set ⟨fun c => ⟨?_, Keep.rf⟩, fun c => ?_⟩
  · rw [h.2.1, isThere_iff hl] at c
    rw [aSet, ifP_f c]
  · rw [h.2.1, isThere_iff hl] at c
    rw [aSet, ifP_t c]
    obtain ⟨i, hi, rfl⟩ := of_in (by omega) c.1 c.2
    have hg := h.2.2.2.2.2 i
    rw [nI_clamp (by omega)]
    refine ⟨fun cw => ?_, fun cw => ⟨by rw [ifP_f cw], Keep.rf⟩⟩
    rw [ifP_t cw]
    refine ⟨fun z0 => ⟨fun z1 => ?_, fun z1 => ⟨h.vin hi, ?_⟩⟩, fun z0 => ⟨h.vin hi, ?_, Keep.rf⟩⟩
    · rw [if_neg z0, if_neg z1]
      generalize hq : (fun k => !decide (k = i) && (if w = 2 then decide (S.getD k 0 &&& S.getD i 0 = S.getD i 0) else decide (¬ S.getD k 0 &&& S.getD i 0 = 0))) = q
      refine downInd (P := fun j => Wp shM m_Mo_set (d + 2) 48 [some (.ref 0), some (.int (nI i)), some (.int w), some (.int (nI (msk q j))), some (.int (nI j))] [] mem (QI (fun r m' => r = nI (msk q S.length) ∧ Keep mem m'))) S.length ?_ ?_ 0 (Nat.zero_le _)
      · exact b_Mo_set_48 ⟨fun _ => ⟨rfl, Keep.rf⟩, fun c => absurd ((h.ge (Nat.le_refl _)).mpr rfl) c⟩
      · intro j hj ih
        have hgj := h.2.2.2.2.2 j
        have skip : q j = false → Wp shM m_Mo_set (d + 2) 48 [some (.ref 0), some (.int (nI i)), some (.int w), some (.int (nI (msk q j))), some (.int (nI j + 1))] [] mem (QI (fun r m' => r = nI (msk q S.length) ∧ Keep mem m')) := by
          intro e
          rw [msk, if_neg (by rw [e]; decide), Nat.add_zero] at ih
          rw [nI_1]
          exact ih
        have take : q j = true → Wp shM m_Mo_set (d + 2) 48 [some (.ref 0), some (.int (nI i)), some (.int w), some (.int (nI (msk q j) ||| ((1 : Int32) <<< (nI j &&& 31)))), some (.int (nI j + 1))] [] mem (QI (fun r m' => r = nI (msk q S.length) ∧ Keep mem m')) := by
          intro e
          rw [msk, if_pos e] at ih
          rw [nI_1, sh1 (by omega), io, or_add (msk_lt _ j)]
          exact ih
        have hlt : S.getD i 0 &&& S.getD j 0 < 2 ^ 31 := Nat.lt_of_le_of_lt Nat.and_le_left (by omega)
        refine b_Mo_set_48 ⟨fun c => absurd ((h.ge (Nat.le_of_lt hj)).mp c) (by omega), fun _ => ⟨fun c => skip ?_, fun c => ⟨fun c2 => ⟨h.vin hi, h.vin hj, fun c3 => skip ?_, fun c3 => take ?_⟩, fun c2 => ⟨h.vin hi, h.vin hj, fun c3 => skip ?_, fun c3 => take ?_⟩⟩⟩⟩
        · rw [nI_inj (by omega) (by omega)] at c
          subst hq; simp [c]
        · rw [nI_inj (by omega) (by omega)] at c
          rw [h.row hi, h.row hj, ia, nI_z hlt, Nat.and_comm] at c3
          subst hq; simp only [if_neg c2, c3]; simp
        · rw [nI_inj (by omega) (by omega)] at c
          rw [h.row hi, h.row hj, ia, nI_z hlt, Nat.and_comm] at c3
          subst hq; simp only [if_neg c2, decide_eq_true c3, decide_eq_false c]; rfl
        · rw [nI_inj (by omega) (by omega)] at c
          rw [h.row hi, h.row hj, idif, nI_z (dif_lt (m := 31) (by omega)), dif_z] at c3
          subst hq; simp only [if_pos c2, decide_eq_false c3]; simp
        · rw [nI_inj (by omega) (by omega)] at c
          rw [h.row hi, h.row hj, idif, nI_z (dif_lt (m := 31) (by omega)), dif_z] at c3
          subst hq; simp only [if_pos c2, decide_eq_true c3, decide_eq_false c]; rfl
    · rw [if_neg z0, if_pos z1, h.row hi]
      exact (s_ones (by omega)).to ⟨rfl, Keep.rf⟩
    · rw [if_pos z0]
      exact h.row hi
end AS2
