/-! hitter of both sides -/
/-- of the points below N: k the fewest that hit all, b the first such, w how many, s what all have -/
def HS (N n : Nat) (S : List Nat) (k b w s : Nat) : Prop := b < N ∧ misB S b = 0 ∧ pop b = k ∧ (∀ b', b' < N → misB S b' = 0 → k ≤ pop b') ∧ (∀ b', b' < N → misB S b' = 0 → pop b' = k → b ≤ b') ∧ w = cntP (fun x => decide (misB S x = 0) && decide (pop x = k)) N ∧ ∀ j, s.testBit j = true ↔ (j < n ∧ ∀ b', b' < N → misB S b' = 0 → pop b' = k → b'.testBit j = true)
theorem HS.uniq {N n : Nat} {S : List Nat} {k b w s k' b' w' s' : Nat} (h : HS N n S k b w s) (h' : HS N n S k' b' w' s') : k = k' ∧ b = b' ∧ w = w' ∧ s = s' := by
  obtain ⟨h1, h2, h3, h4, h5, h6, h7⟩ := h
  obtain ⟨q1, q2, q3, q4, q5, q6, q7⟩ := h'
  have e : k = k' := by
    have := h4 b' q1 q2
    have := q4 b h1 h2
    omega
  subst e
  have e2 := h5 b' q1 q2 q3
  have e3 := q5 b h1 h2 h3
  refine ⟨rfl, by omega, by rw [h6, q6], ?_⟩
  apply Nat.eq_of_testBit_eq
  intro j
  rw [Bool.eq_iff_iff, h7, q7]
noncomputable def hsO (n : Nat) (S : List Nat) (a : Int32) : Int32 := @dite _ (∃ q : Nat × Nat × Nat × Nat, HS (2 ^ n) n S q.1 q.2.1 q.2.2.1 q.2.2.2) (Classical.propDecidable _) (fun h => if a = 0 then nI (Classical.choose h).1 else if a = 1 then nI (Classical.choose h).2.1 else if a = 2 then nI (Classical.choose h).2.2.1 else nI (Classical.choose h).2.2.2) (fun _ => 0)
theorem hsO_eq {n : Nat} {S : List Nat} {a : Int32} {k b w s : Nat} (h : HS (2 ^ n) n S k b w s) : hsO n S a = if a = 0 then nI k else if a = 1 then nI b else if a = 2 then nI w else nI s := by
  have h' : ∃ q : Nat × Nat × Nat × Nat, HS (2 ^ n) n S q.1 q.2.1 q.2.2.1 q.2.2.2 := ⟨(k, b, w, s), h⟩
  obtain ⟨e1, e2, e3, e4⟩ := (Classical.choose_spec h').uniq h
  rw [hsO, dif_pos h', e1, e2, e3, e4]
noncomputable def aHitter (n : Nat) (S : List Nat) (a : Int32) : Int32 := ifP (0 ≤ a ∧ a ≤ 3) (hsO n S a) (-1)
/-- all points hit all sets -/
theorem hit_all {n : Nat} {S : List Nat} (hs : ∀ i, S.getD i 0 < 2 ^ n) (h0 : ∀ i, i < S.length → S.getD i 0 ≠ 0) : misB S (2 ^ n - 1) = 0 := by
  apply Nat.eq_of_testBit_eq
  intro j
  rw [misB, msk_bit, Nat.zero_testBit]
  by_cases hj : j < S.length
  · rw [Nat.and_two_pow_sub_one_eq_mod, Nat.mod_eq_of_lt (hs j), decide_eq_false (h0 j hj), Bool.and_false]
  · rw [decide_eq_false hj, Bool.false_and]
section HIT
variable {d n : Nat} {S : List Nat} {mem : Mem}
theorem s_fewestToHit (h : Now mem n S) (hs : ∀ i, S.getD i 0 < 2 ^ n) (h0 : ∀ i, i < S.length → S.getD i 0 ≠ 0) (hpop : pop (2 ^ n - 1) = n) : CI shM m_Mo_fewestToHit (d + 2) [.ref 0] mem (fun r m' => (∃ k, k ≤ 10 ∧ r = nI k ∧ (∃ b, b < 2 ^ n ∧ misB S b = 0 ∧ pop b = k) ∧ ∀ b', b' < 2 ^ n → misB S b' = 0 → k ≤ pop b') ∧ m' = mem) := by
  have hl := h.2.2.1
  have hn := h.2.2.2.1
  have hp := pow17 (m := S.length) (by omega)
  have hpn : 2 ^ n ≤ 2 ^ 10 := Nat.pow_le_pow_right (by decide) hn
  have h1n : 1 ≤ 2 ^ n := Nat.one_le_two_pow
  have hmis : ∀ x, misB S x < 2 ^ S.length := fun x => msk_lt _ _
  refine e_Mo_fewestToHit ?_
  rw [h.1]
  refine downInd (P := fun i => ∀ k, k ≤ 10 → (∃ b, b < 2 ^ n ∧ misB S b = 0 ∧ pop b = k) → (∀ b', b' < i → misB S b' = 0 → k ≤ pop b') → Wp shM m_Mo_fewestToHit (d + 2) 9 [some (.ref 0), some (.int (nI k)), some (.int (nI i))] [] mem (QI (fun r m' => (∃ k, k ≤ 10 ∧ r = nI k ∧ (∃ b, b < 2 ^ n ∧ misB S b = 0 ∧ pop b = k) ∧ ∀ b', b' < 2 ^ n → misB S b' = 0 → k ≤ pop b') ∧ m' = mem))) (2 ^ n) ?_ ?_ 0 (Nat.zero_le _) n hn ⟨2 ^ n - 1, by omega, hit_all hs h0, hpop⟩ (fun b' hb' => absurd hb' (by omega))
  · intro k hk hb hI
    exact b_Mo_fewestToHit_9 ⟨fun _ => ⟨⟨k, hk, rfl, hb, hI⟩, rfl⟩, fun c => absurd (by rw [h.1, al (by omega)]; exact nI_lt (by omega) (by omega)) c⟩
  · intro i hi ih k hk hb hI
    have hpo := pop_lt (w := 10) (by decide) (show i < 2 ^ 10 by omega)
    have hb0 := hmis i
    refine b_Mo_fewestToHit_9 ⟨fun c => absurd c (by rw [h.1, al (by omega), nI_ltI (by omega) (by omega)]; omega), fun _ => ?_⟩
    refine (s_ones (by omega)).to ?_
    rw [nI_leI (by omega) (by omega), nI_1]
    refine ⟨fun c => ih k hk hb (fun b' l1 l2 => ?_), fun c => ?_⟩
    · by_cases e : b' = i
      · subst e; exact c
      · exact hI b' (by omega) l2
    · refine (s_missedBy h).to ?_
      show (¬ nI (misB S i) = 0 → _) ∧ (nI (misB S i) = 0 → _)
      rw [nI_z (by omega)]
      refine ⟨fun z => ih k hk hb (fun b' l1 l2 => ?_), fun z => (s_ones (by omega)).to (ih (pop i) hpo ⟨i, hi, z, rfl⟩ (fun b' l1 l2 => ?_))⟩
      · by_cases e : b' = i
        · subst e; exact absurd l2 z
        · exact hI b' (by omega) l2
      · by_cases e : b' = i
        · subst e; exact Nat.le_refl _
        · have := hI b' (by omega) l2
          omega
theorem y_hitter {a : Int32} (h : Now mem n S) (hs : ∀ i, S.getD i 0 < 2 ^ n) (h0 : ∀ i, i < S.length → S.getD i 0 ≠ 0) (hpop : pop (2 ^ n - 1) = n) : CI shM m_Mo_hitter (d + 3) [.ref 0, .int a] mem (fun r m' => r = aHitter n S a ∧ Keep mem m') := by
  have hl := h.2.2.1
  have hn := h.2.2.2.1
  have hp := pow17 (m := S.length) (by omega)
  have hpn : 2 ^ n ≤ 2 ^ 10 := Nat.pow_le_pow_right (by decide) hn
  have h1n : 1 ≤ 2 ^ n := Nat.one_le_two_pow
  have hmis : ∀ x, misB S x < 2 ^ S.length := fun x => msk_lt _ _
  refine e_Mo_hitter ⟨fun c => ?_, fun c => ⟨by rw [aHitter, ifP_f c], Keep.rf⟩⟩
  rw [aHitter, ifP_t c]
  refine (s_fewestToHit h hs h0 hpop).mono ?_
  rintro v m' ⟨⟨k, hk, rfl, ⟨b0, hb0, hb1, hb2⟩, hmin⟩, rfl⟩
  rw [h.1, al (by omega)]
  generalize hf : (fun x => decide (misB S x = 0) && decide (pop x = k)) = f
  have f_t : ∀ x, f x = true ↔ (misB S x = 0 ∧ pop x = k) := fun x => by rw [← hf, Bool.and_eq_true, decide_eq_true_iff, decide_eq_true_iff]
  have main : ∀ i, i ≤ 2 ^ n → ∀ w b s, w + cntP f i = cntP f (2 ^ n) → w ≤ 2 ^ n → (∀ b', i ≤ b' → b' < 2 ^ n → f b' = true → f b = true ∧ b ≤ b' ∧ b < 2 ^ n) → (∀ j, s.testBit j = true ↔ (j < n ∧ ∀ b', i ≤ b' → b' < 2 ^ n → f b' = true → b'.testBit j = true)) → Wp shM m_Mo_hitter (d + 3) 33 [some (.ref 0), some (.int a), some (.int (nI k)), some (.int (nI w)), some (.int (nI b)), some (.int (nI s)), some (.int (nI i - 1))] [] m' (QI (fun r m2 => r = hsO n S a ∧ Keep m' m2)) := by
    intro i
    induction i with
    | zero =>
      intro _ w b s e1 e2 e3 e4
      have hb := e3 b0 (Nat.zero_le _) hb0 ((f_t b0).mpr ⟨hb1, hb2⟩)
      have hbf := (f_t b).mp hb.1
      have H : HS (2 ^ n) n S k b w s := ⟨hb.2.2, hbf.1, hbf.2, hmin, fun b' l1 l2 l3 => (e3 b' (Nat.zero_le _) l1 ((f_t b').mpr ⟨l2, l3⟩)).2.1, by rw [hf]; rw [cntP] at e1; omega, fun j => by
        rw [e4 j]
        exact ⟨fun z => ⟨z.1, fun b' l1 l2 l3 => z.2 b' (Nat.zero_le _) l1 ((f_t b').mpr ⟨l2, l3⟩)⟩, fun z => ⟨z.1, fun b' _ l1 l2 => z.2 b' l1 ((f_t b').mp l2).1 ((f_t b').mp l2).2⟩⟩⟩
      rw [hsO_eq H]
      refine b_Mo_hitter_33 ⟨fun _ => ⟨fun z => ⟨fun z1 => ⟨fun z2 => ⟨by rw [if_neg z, if_neg z1, if_neg z2], Keep.rf⟩, fun z2 => ⟨by rw [if_neg z, if_neg z1, if_pos z2], Keep.rf⟩⟩, fun z1 => ⟨by rw [if_neg z, if_pos z1], Keep.rf⟩⟩, fun z => ⟨by rw [if_pos z], Keep.rf⟩⟩, fun c => absurd (by decide) c⟩
    | succ i ih =>
      intro hi w b s e1 e2 e3 e4
      have hpo := pop_le i
      have hm0 := hmis i
      have ep : nI (i + 1) - 1 = nI i := nI_pred i
      have em : nI i + (-1) = nI i - 1 := by rw [Int32.sub_eq_add_neg]
      rw [ep]
      have skip : ¬ f i = true → Wp shM m_Mo_hitter (d + 3) 33 [some (.ref 0), some (.int a), some (.int (nI k)), some (.int (nI w)), some (.int (nI b)), some (.int (nI s)), some (.int (nI i + (-1)))] [] m' (QI (fun r m2 => r = hsO n S a ∧ Keep m' m2)) := by
        intro hfi
        rw [em]
        rw [cntP, if_neg hfi, Nat.add_zero] at e1
        refine ih (by omega) w b s e1 e2 (fun b' l1 l2 l3 => ?_) (fun j => ?_)
        · by_cases e : b' = i
          · subst e; exact absurd l3 hfi
          · exact e3 b' (by omega) l2 l3
        · rw [e4 j]
          refine ⟨fun z => ⟨z.1, fun b' l1 l2 l3 => ?_⟩, fun z => ⟨z.1, fun b' l1 l2 l3 => z.2 b' (by omega) l2 l3⟩⟩
          by_cases e : b' = i
          · subst e; exact absurd l3 hfi
          · exact z.2 b' (by omega) l2 l3
      refine b_Mo_hitter_33 ⟨fun c => absurd c (i_nl.mpr (nI_le0 (by omega))), fun _ => ?_⟩
      refine (s_ones (by omega)).to ?_
      rw [nI_inj (by omega) (by omega)]
      refine ⟨fun z => skip (fun q => z ((f_t i).mp q).2), fun z => ?_⟩
      refine (s_missedBy h).to ?_
      show (nI (misB S i) = 0 → _) ∧ (¬ nI (misB S i) = 0 → _)
      rw [nI_z (by omega)]
      refine ⟨fun z2 => ?_, fun z2 => skip (fun q => z2 ((f_t i).mp q).1)⟩
      have hfi : f i = true := (f_t i).mpr ⟨z2, z⟩
      rw [em, ia, nI_1]
      rw [cntP, if_pos hfi] at e1
      have hcl := cntP_le f (2 ^ n)
      refine ih (by omega) (w + 1) i (s &&& i) (by omega) (by omega) (fun b' l1 l2 l3 => ⟨hfi, l1, by omega⟩) (fun j => ?_)
      rw [Nat.testBit_and, Bool.and_eq_true, e4 j]
      constructor
      · rintro ⟨z3, z4⟩
        refine ⟨z3.1, fun b' l1 l2 l3 => ?_⟩
        by_cases e : b' = i
        · subst e; exact z4
        · exact z3.2 b' (by omega) l2 l3
      · rintro ⟨z3, z4⟩
        exact ⟨⟨z3, fun b' l1 l2 l3 => z4 b' (by omega) l2 l3⟩, z4 i (Nat.le_refl _) (by omega) hfi⟩
  have ea : nI (2 ^ n - 1) = nI (2 ^ n) - 1 := by rw [show (1 : Int32) = nI 1 from rfl, pk_sub h1n]
  have := main (2 ^ n) (Nat.le_refl _) 0 0 (2 ^ n - 1) (by omega) (by omega) (fun b' l1 l2 => absurd l2 (by omega)) (fun j => by
    rw [Nat.testBit_two_pow_sub_one, decide_eq_true_iff]
    exact ⟨fun z => ⟨z, fun b' l1 l2 => absurd l2 (by omega)⟩, fun z => z.1⟩)
  rw [← ea] at this
  exact this
end HIT
