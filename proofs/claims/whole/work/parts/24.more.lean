/-! bound, ranked, withSet, link of both sides -/
theorem i64_1 {k : Nat} (h : k < 2 ^ 31) : (nI k).toInt64 = lN k := nI_l h
/-- the bound, step by step -/
def bT (k : Nat) : Nat → Nat
  | 0 => 1
  | i + 1 => if 1000000000 < bT k i * ((i + 1) * (k - 1)) then 1000000000 else bT k i * ((i + 1) * (k - 1))
theorem bT_le (k : Nat) : ∀ i, bT k i ≤ 1000000000
  | 0 => Nat.le_of_ble_eq_true rfl
  | i + 1 => by rw [bT]; split <;> omega
section MOR
variable {d n : Nat} {S : List Nat} {mem : Mem}
noncomputable def aBound (a b : Int32) : Int32 := ifP ((1 ≤ a ∧ a ≤ 10) ∧ (2 ≤ b ∧ b ≤ 16)) (nI (bT b.toNatClampNeg a.toNatClampNeg)) (-1)
theorem of_in2 {a lo : Int32} {l m : Nat} (hl : lo = nI l) (hlm : l < 2 ^ 31) (hm : m < 2 ^ 31) (h : lo ≤ a ∧ a ≤ nI m) : ∃ k, l ≤ k ∧ k ≤ m ∧ a = nI k := by
  subst hl
  have h0 : (0 : Int32) ≤ a := Int32.le_trans (nI_le0 hlm) h.1
  obtain ⟨k, hk, rfl⟩ := of_inl hm h0 h.2
  exact ⟨k, (nI_leI hlm (by omega)).mp h.1, hk, rfl⟩
theorem bstep {v i k : Nat} (hv : v ≤ 1000000000) (hi : i ≤ 10) (hk2 : 2 ≤ k) (hk : k ≤ 16) : v * (i * (k - 1)) < 2 ^ 40 := by
  have h1 : i * (k - 1) ≤ 10 * 15 := Nat.mul_le_mul hi (by omega)
  have h2 : v * (i * (k - 1)) ≤ 1000000000 * (10 * 15) := Nat.mul_le_mul hv h1
  omega
theorem x_bound {a b : Int32} : CI shX m_PS_bound (d + 1) [.ref 0, .int a, .int b] mem (fun r m' => r = aBound a b ∧ m' = mem) := by
  refine e_PS_bound ⟨fun c => ⟨by rw [aBound, ifP_f (fun z => i_nl.mpr z.1.1 c)], rfl⟩, fun c => ⟨fun c2 => ⟨by rw [aBound, ifP_f (fun z => i_nl.mpr z.1.2 c2)], rfl⟩, fun c2 => ⟨fun c3 => ?_, fun c3 => ⟨by rw [aBound, ifP_f (fun z => c3 z.2)], rfl⟩⟩⟩⟩
  have hc : 1 ≤ a ∧ a ≤ 10 := ⟨i_nl.mp c, i_nl.mp c2⟩
  rw [aBound, ifP_t ⟨hc, c3⟩]
  obtain ⟨s, hs1, hs2, rfl⟩ := of_in2 (l := 1) (m := 10) rfl (by decide) (by decide) hc
  obtain ⟨k, hk2, hk, rfl⟩ := of_in2 (l := 2) (m := 16) rfl (by decide) (by decide) c3
  rw [nI_clamp (by omega), nI_clamp (by omega)]
  have main : ∀ i, i ≤ s → Wp shX m_PS_bound (d + 1) 25 [none, some (.int (nI s)), some (.int (nI k)), some (.long (lN (bT k i))), none, some (.int (nI (i + 1)))] [] mem (QI (fun r m' => r = nI (bT k s) ∧ m' = mem)) := by
    refine downInd (P := fun i => Wp shX m_PS_bound (d + 1) 25 [none, some (.int (nI s)), some (.int (nI k)), some (.long (lN (bT k i))), none, some (.int (nI (i + 1)))] [] mem (QI (fun r m' => r = nI (bT k s) ∧ m' = mem))) s ?_ ?_
    · exact b_PS_bound_25 ⟨fun _ => ⟨lN_i _, rfl⟩, fun c => absurd (nI_lt (by omega) (by omega)) c⟩
    · intro i hi ih
      have hv := bT_le k i
      have hst := bstep (i := i + 1) hv (by omega) hk2 hk
      refine b_PS_bound_25 ⟨fun c => absurd c (by rw [nI_ltI (by omega) (by omega)]; omega), fun _ => ?_⟩
      have e1 : (lN (bT k i) * (nI (i + 1)).toInt64) * ((nI k - 1).toInt64) = lN (bT k i * ((i + 1) * (k - 1))) := by
        rw [show (1 : Int32) = nI 1 from rfl, pk_sub (by omega), i64_1 (by omega), i64_1 (by omega), lN_mul, lN_mul, Nat.mul_assoc]
      rw [e1, nI_1]
      have e2 : (if (1000000000 : Int64) < lN (bT k i * ((i + 1) * (k - 1))) then (1000000000 : Int64) else lN (bT k i * ((i + 1) * (k - 1)))) = lN (bT k (i + 1)) := by
        rw [show (1000000000 : Int64) = lN 1000000000 by decide, bT]
        by_cases z : 1000000000 < bT k i * ((i + 1) * (k - 1))
        · rw [if_pos ((pk_lLT (by decide) (by omega)).mpr z), if_pos z]
        · rw [if_neg (fun y => z ((pk_lLT (by decide) (by omega)).mp y)), if_neg z]
      rw [e2]
      exact ih
  exact main 0 (Nat.zero_le _)
theorem y_bound {a b : Int32} : CI shM m_Mo_bound (d + 2) [.ref 0, .int a, .int b] mem (fun r m' => r = aBound a b ∧ Keep mem m') := by
  refine e_Mo_bound ⟨fun c => ⟨by rw [aBound, ifP_f (fun z => c z.1)], Keep.rf⟩, fun hc => ⟨fun c3 => ?_, fun c3 => ⟨by rw [aBound, ifP_f (fun z => c3 z.2)], Keep.rf⟩⟩⟩
  rw [aBound, ifP_t ⟨hc, c3⟩]
  obtain ⟨s, hs1, hs2, rfl⟩ := of_in2 (l := 1) (m := 10) rfl (by decide) (by decide) hc
  obtain ⟨k, hk2, hk, rfl⟩ := of_in2 (l := 2) (m := 16) rfl (by decide) (by decide) c3
  rw [nI_clamp (by omega), nI_clamp (by omega)]
  have main : ∀ i, i ≤ s → Wp shM m_Mo_bound (d + 2) 24 [none, some (.int (nI s)), some (.int (nI k)), some (.long (lN (bT k i))), none, some (.int (nI (i + 1)))] [] mem (QI (fun r m' => r = nI (bT k s) ∧ Keep mem m')) := by
    refine downInd (P := fun i => Wp shM m_Mo_bound (d + 2) 24 [none, some (.int (nI s)), some (.int (nI k)), some (.long (lN (bT k i))), none, some (.int (nI (i + 1)))] [] mem (QI (fun r m' => r = nI (bT k s) ∧ Keep mem m'))) s ?_ ?_
    · exact b_Mo_bound_24 ⟨fun _ => ⟨lN_i _, Keep.rf⟩, fun c => absurd (nI_lt (by omega) (by omega)) c⟩
    · intro i hi ih
      have hv := bT_le k i
      have hst := bstep (i := i + 1) hv (by omega) hk2 hk
      have hsm : (i + 1) * (k - 1) ≤ 10 * 15 := Nat.mul_le_mul (by omega) (by omega)
      have e1 : lN (bT k i) * ((nI (i + 1) * (nI k - 1)).toInt64) = lN (bT k i * ((i + 1) * (k - 1))) := by
        rw [show (1 : Int32) = nI 1 from rfl, pk_sub (by omega), pk_mul, i64_1 (by omega), lN_mul]
      have e3 : (lg_cmp (lN (bT k i * ((i + 1) * (k - 1)))) 1000000000 ≤ 0) ↔ ¬ 1000000000 < bT k i * ((i + 1) * (k - 1)) := by
        rw [show (1000000000 : Int64) = lN 1000000000 by decide, ← pk_lLT (a := 1000000000) (by decide) (b := bT k i * ((i + 1) * (k - 1))) (by omega)]
        unfold lg_cmp
        split
        · rename_i hz; simp [hz]
        · rename_i hz
          split <;> simp [hz]
      refine b_Mo_bound_24 ⟨fun c => absurd c (by rw [nI_ltI (by omega) (by omega)]; omega), fun _ => ?_⟩
      rw [e1, e3, nI_1]
      rw [bT] at ih
      refine ⟨fun z => ?_, fun z => ?_⟩
      · rw [if_neg z] at ih
        exact ih
      · rw [if_pos (Classical.not_not.mp z)] at ih
        exact ih
  exact main 0 (Nat.zero_le _)
-- ranked
def deg (S : List Nat) (p : Nat) : Nat := cntP (fun i => (S.getD i 0).testBit p) S.length
/-- how many points are ahead of p -/
def ahd (n : Nat) (S : List Nat) (p : Nat) : Nat := cntP (fun q => decide (deg S p < deg S q) || (decide (deg S q = deg S p) && decide (q < p))) n
theorem cntP_lt {p : Nat → Bool} {j : Nat} (hj : p j = false) : ∀ m, j < m → cntP p m < m
  | 0, h => by omega
  | m + 1, h => by
    rw [cntP]
    by_cases e : j = m
    · subst e
      have := cntP_le p j
      rw [hj]; simp; omega
    · have := cntP_lt hj m (by omega)
      split <;> omega
theorem ahd_lt {n p : Nat} {S : List Nat} (h : p < n) : ahd n S p < n := cntP_lt (j := p) (by simp) n h
noncomputable def aRanked (n : Nat) (S : List Nat) (a : Int32) : Int32 := lstI (fun p => p < n ∧ a = nI (ahd n S p)) (-1)
theorem s_degX {p : Nat} (h : Fam mem 1 n S) (hp : p < 31) {d : Nat} {K : Int32 → Mem → Prop} (k : ∀ v, bcF v = nI (deg S p) → K v mem) : CI shX m_Family_setsWith d [.ref 1, .int ((1 : Int32) <<< (nI p &&& 31))] mem K := by
  have hl := h.2.2.1
  rw [sh1 hp]
  have hpw : 2 ^ p < 2 ^ 31 := Nat.pow_lt_pow_right (by decide) hp
  refine (s_setsWith isF_1 h hpw).to (k _ ?_)
  have hm := msk_lt (fun i => decide (S.getD i 0 &&& 2 ^ p = 2 ^ p)) S.length
  have hm2 : 2 ^ S.length ≤ 2 ^ 17 := Nat.pow_le_pow_right (by decide) hl
  rw [bc (by omega), pop_msk _ _ (by omega)]
  congr 1
  refine cntP_cong _ (fun i _ => ?_)
  cases e : (S.getD i 0).testBit p with
  | true => exact decide_eq_true (and_pow.mpr e)
  | false => exact decide_eq_false (fun z => by rw [and_pow.mp z] at e; cases e)
theorem deg_le (S : List Nat) (p : Nat) : deg S p ≤ S.length := cntP_le _ _
theorem s_pointsAhead {p : Nat} (h : Fam mem 1 n S) (hp : p < n) : CI shX m_PS_pointsAhead (d + 1) [.ref 0, .int (nI p)] mem (fun r m' => r = nI (ahd n S p) ∧ m' = mem) := by
  have hl := h.2.2.1
  have hn := h.2.2.2.1
  refine e_PS_pointsAhead ?_
  refine s_degX h (by omega) (fun v hv => ?_)
  rw [hv]
  have hdp := deg_le S p
  generalize hq : (fun q => decide (deg S p < deg S q) || (decide (deg S q = deg S p) && decide (q < p))) = f
  have eA : ahd n S p = cntP f n := by rw [ahd, hq]
  rw [eA]
  refine downInd (P := fun i => Wp shX m_PS_pointsAhead (d + 1) 19 [some (.ref 0), some (.int (nI p)), some (.int (nI (deg S p))), some (.int (nI (cntP f i))), some (.int (nI i)), none] [] mem (QI (fun r m' => r = nI (cntP f n) ∧ m' = mem))) n ?_ ?_ 0 (Nat.zero_le _)
  · exact b_PS_pointsAhead_19 ⟨fun _ => ⟨rfl, rfl⟩, fun c => absurd (by rw [h.1]; exact nI_le (Nat.le_refl _) (by omega)) c⟩
  · intro i hi ih
    have hdi := deg_le S i
    have skip : f i = false → Wp shX m_PS_pointsAhead (d + 1) 19 [some (.ref 0), some (.int (nI p)), some (.int (nI (deg S p))), some (.int (nI (cntP f i))), some (.int (nI i + 1)), none] [] mem (QI (fun r m' => r = nI (cntP f n) ∧ m' = mem)) := by
      intro e
      rw [cntP, if_neg (by rw [e]; decide), Nat.add_zero] at ih
      rw [nI_1]; exact ih
    have take : f i = true → Wp shX m_PS_pointsAhead (d + 1) 19 [some (.ref 0), some (.int (nI p)), some (.int (nI (deg S p))), some (.int (nI (cntP f i) + 1)), some (.int (nI i + 1)), none] [] mem (QI (fun r m' => r = nI (cntP f n) ∧ m' = mem)) := by
      intro e
      rw [cntP, if_pos e] at ih
      rw [nI_1, nI_1]; exact ih
    refine b_PS_pointsAhead_19 ⟨fun c => absurd c (by rw [h.1, nI_leI (by omega) (by omega)]; omega), fun _ => ?_⟩
    refine s_degX h (by omega) (fun v hv => ?_)
    rw [hv]
    refine ⟨fun c => take ?_, fun c => ⟨fun c2 => skip ?_, fun c2 => ⟨fun c3 => skip ?_, fun c3 => take ?_⟩⟩⟩
    · rw [nI_ltI (by omega) (by omega)] at c
      rw [← hq]; simp [c]
    · rw [nI_ltI (by omega) (by omega)] at c
      rw [nI_inj (by omega) (by omega)] at c2
      rw [← hq]; simp [c, c2]
    · rw [nI_ltI (by omega) (by omega)] at c
      rw [nI_leI (by omega) (by omega)] at c3
      rw [← hq]; simp [c, c3]
    · rw [nI_inj (by omega) (by omega)] at c2
      rw [nI_leI (by omega) (by omega)] at c3
      rw [← hq]; simp [c2]; omega
theorem x_ranked {a : Int32} (h : Fam mem 1 n S) : CI shX m_PS_ranked (d + 2) [.ref 0, .int a] mem (fun r m' => r = aRanked n S a ∧ m' = mem) := by
  have hn := h.2.2.2.1
  refine e_PS_ranked ⟨fun c => ?_, fun c => ⟨?_, rfl⟩⟩
  · rw [h.1] at c
    obtain ⟨k, hk, rfl⟩ := of_in (by omega) c.1 c.2
    refine downInd (P := fun i => (∀ p, p < i → ahd n S p ≠ k) → Wp shX m_PS_ranked (d + 2) 15 [some (.ref 0), some (.int (nI k)), some (.int (nI i))] [] mem (QI (fun r m' => r = aRanked n S (nI k) ∧ m' = mem))) n ?_ ?_ 0 (Nat.zero_le _) (fun p hp => absurd hp (by omega))
    · intro hno
      refine b_PS_ranked_15 ⟨fun _ => ⟨?_, rfl⟩, fun c => absurd (by rw [h.1]; exact nI_le (Nat.le_refl _) (by omega)) c⟩
      rw [aRanked, lstI_no]
      rintro p ⟨hp, e⟩
      have := ahd_lt (S := S) hp
      rw [nI_inj (by omega) (by omega)] at e
      exact hno p hp e.symm
    · intro i hi ih hno
      have hai := ahd_lt (S := S) hi
      refine b_PS_ranked_15 ⟨fun c => absurd c (by rw [h.1, nI_leI (by omega) (by omega)]; omega), fun _ => ?_⟩
      refine (s_pointsAhead h hi).to ⟨fun c => ?_, fun c => ⟨?_, rfl⟩⟩
      · rw [nI_inj (by omega) (by omega)] at c
        rw [nI_1]
        refine ih (fun p hp => ?_)
        by_cases e : p = i
        · subst e; exact c
        · exact hno p (by omega)
      · rw [aRanked, lstI_eq (b := i) ⟨hi, c.symm⟩]
        rintro p ⟨hp, e⟩
        have := ahd_lt (S := S) hp
        rw [nI_inj (by omega) (by omega)] at e
        rcases Nat.lt_or_ge p i with q | q
        · exact absurd e.symm (hno p q)
        · exact q
  · rw [h.1] at c
    rw [aRanked, lstI_no]
    rintro p ⟨hp, e⟩
    have := ahd_lt (S := S) hp
    exact c ⟨by rw [e]; exact nI_le0 (by omega), by rw [e]; exact nI_lt this (by omega)⟩
theorem y_ranked {a : Int32} (h : Now mem n S) : CI shM m_Mo_ranked (d + 2) [.ref 0, .int a] mem (fun r m' => r = aRanked n S a ∧ Keep mem m') := by
  have hn := h.2.2.2.1
  have hl := h.2.2.1
  refine e_Mo_ranked ?_
  refine downInd (P := fun i => (∀ p, p < i → a ≠ nI (ahd n S p)) → Wp shM m_Mo_ranked (d + 2) 2 [some (.ref 0), some (.int a), some (.int (nI i)), none, none] [] mem (QI (fun r m' => r = aRanked n S a ∧ Keep mem m'))) n ?_ ?_ 0 (Nat.zero_le _) (fun p hp => absurd hp (by omega))
  · intro hno
    refine b_Mo_ranked_2 ⟨fun _ => ⟨?_, Keep.rf⟩, fun c => absurd (by rw [h.1]; exact nI_le (Nat.le_refl _) (by omega)) c⟩
    rw [aRanked, lstI_no]
    rintro p ⟨hp, e⟩
    exact hno p hp e
  · intro p hp ih hno
    refine b_Mo_ranked_2 ⟨fun c => absurd c (by rw [h.1, nI_leI (by omega) (by omega)]; omega), fun _ => ?_⟩
    have hdp := deg_le S p
    generalize hq : (fun q => decide (deg S p < deg S q) || (decide (deg S q = deg S p) && decide (q < p))) = f
    have eA : ahd n S p = cntP f n := by rw [ahd, hq]
    refine downInd (P := fun i => Wp shM m_Mo_ranked (d + 2) 17 [some (.ref 0), some (.int a), some (.int (nI p)), some (.int (nI (cntP f i))), some (.int (nI i))] [] mem (QI (fun r m' => r = aRanked n S a ∧ Keep mem m'))) n ?_ ?_ 0 (Nat.zero_le _)
    · refine b_Mo_ranked_17 ⟨fun _ => ⟨fun c => ?_, fun c => ⟨?_, Keep.rf⟩⟩, fun c => absurd (by rw [h.1]; exact nI_le (Nat.le_refl _) (by omega)) c⟩
      · rw [nI_1]
        refine ih (fun p' hp' => ?_)
        by_cases e : p' = p
        · subst e; rw [eA]; exact Ne.symm c
        · exact hno p' (by omega)
      · rw [aRanked, lstI_eq (b := p) ⟨hp, by rw [eA]; exact c.symm⟩]
        rintro p' ⟨hp', e⟩
        rcases Nat.lt_or_ge p' p with q | q
        · exact absurd e (hno p' q)
        · exact q
    · intro i hi ihi
      have hdi := deg_le S i
      have skip : f i = false → Wp shM m_Mo_ranked (d + 2) 17 [some (.ref 0), some (.int a), some (.int (nI p)), some (.int (nI (cntP f i))), some (.int (nI i + 1))] [] mem (QI (fun r m' => r = aRanked n S a ∧ Keep mem m')) := by
        intro e
        rw [cntP, if_neg (by rw [e]; decide), Nat.add_zero] at ihi
        rw [nI_1]; exact ihi
      have take : f i = true → Wp shM m_Mo_ranked (d + 2) 17 [some (.ref 0), some (.int a), some (.int (nI p)), some (.int (nI (cntP f i) + 1)), some (.int (nI i + 1))] [] mem (QI (fun r m' => r = aRanked n S a ∧ Keep mem m')) := by
        intro e
        rw [cntP, if_pos e] at ihi
        rw [nI_1, nI_1]; exact ihi
      refine b_Mo_ranked_17 ⟨fun c => absurd c (by rw [h.1, nI_leI (by omega) (by omega)]; omega), fun _ => ?_⟩
      refine (s_degreeOf h (by omega)).to ((s_degreeOf h (by omega)).to ⟨fun c => take ?_, fun c => ?_⟩)
      · have c : nI (deg S p) < nI (deg S i) := c
        rw [nI_ltI (by omega) (by omega)] at c
        rw [← hq]; simp [c]
      · have c : ¬ nI (deg S p) < nI (deg S i) := c
        rw [nI_ltI (by omega) (by omega)] at c
        refine (s_degreeOf h (by omega)).to ((s_degreeOf h (by omega)).to ⟨fun c2 => skip ?_, fun c2 => ⟨fun c3 => skip ?_, fun c3 => take ?_⟩⟩)
        · have c2 : ¬ nI (deg S i) = nI (deg S p) := c2
          rw [nI_inj (by omega) (by omega)] at c2
          rw [← hq]; simp [c, c2]
        · rw [nI_leI (by omega) (by omega)] at c3
          rw [← hq]; simp [c, c3]
        · have c2 : nI (deg S i) = nI (deg S p) := c2
          rw [nI_inj (by omega) (by omega)] at c2
          rw [nI_leI (by omega) (by omega)] at c3
          rw [← hq]; simp [c2]; omega
end MOR
