/-! hitter of the class -/
theorem cntP_no {f : Nat → Bool} : ∀ i, (∀ j, j < i → ¬ f j = true) → cntP f i = 0
  | 0, _ => rfl
  | i + 1, h => by rw [cntP, cntP_no i (fun j hj => h j (by omega)), if_neg (h i (by omega))]
theorem HS.skip {i n k b w s : Nat} {S : List Nat} (h : HS i n S k b w s) (hi : misB S i = 0 → k < pop i) : HS (i + 1) n S k b w s := by
  obtain ⟨h1, h2, h3, h4, h5, h6, h7⟩ := h
  refine ⟨by omega, h2, h3, fun b' l1 l2 => ?_, fun b' l1 l2 l3 => ?_, ?_, fun j => ?_⟩
  · by_cases e : b' = i
    · subst e; have := hi l2; omega
    · exact h4 b' (by omega) l2
  · by_cases e : b' = i
    · omega
    · exact h5 b' (by omega) l2 l3
  · rw [cntP, if_neg, h6, Nat.add_zero]
    rw [Bool.and_eq_true, decide_eq_true_iff, decide_eq_true_iff]
    rintro ⟨z1, z2⟩
    have := hi z1
    omega
  · rw [h7 j]
    refine ⟨fun z => ⟨z.1, fun b' l1 l2 l3 => ?_⟩, fun z => ⟨z.1, fun b' l1 l2 l3 => z.2 b' (by omega) l2 l3⟩⟩
    by_cases e : b' = i
    · subst e; have := hi l2; omega
    · exact z.2 b' (by omega) l2 l3
theorem HS.more {i n k b w s : Nat} {S : List Nat} (h : HS i n S k b w s) (hi : misB S i = 0) (hk : pop i = k) : HS (i + 1) n S k b (w + 1) (s &&& i) := by
  obtain ⟨h1, h2, h3, h4, h5, h6, h7⟩ := h
  refine ⟨by omega, h2, h3, fun b' l1 l2 => ?_, fun b' l1 l2 l3 => ?_, ?_, fun j => ?_⟩
  · by_cases e : b' = i
    · subst e; omega
    · exact h4 b' (by omega) l2
  · by_cases e : b' = i
    · omega
    · exact h5 b' (by omega) l2 l3
  · rw [cntP, if_pos, h6]
    rw [Bool.and_eq_true, decide_eq_true_iff, decide_eq_true_iff]
    exact ⟨hi, hk⟩
  · rw [Nat.testBit_and, Bool.and_eq_true, h7 j]
    constructor
    · rintro ⟨z1, z2⟩
      refine ⟨z1.1, fun b' l1 l2 l3 => ?_⟩
      by_cases e : b' = i
      · subst e; exact z2
      · exact z1.2 b' (by omega) l2 l3
    · rintro ⟨z1, z2⟩
      exact ⟨⟨z1, fun b' l1 l2 l3 => z2 b' (by omega) l2 l3⟩, z2 i (by omega) hi hk⟩
theorem HS.new {i n : Nat} {S : List Nat} (hin : i < 2 ^ n) (hi : misB S i = 0) (h : ∀ b', b' < i → misB S b' = 0 → pop i < pop b') : HS (i + 1) n S (pop i) i 1 i := by
  refine ⟨by omega, hi, rfl, fun b' l1 l2 => ?_, fun b' l1 l2 l3 => ?_, ?_, fun j => ?_⟩
  · by_cases e : b' = i
    · subst e; exact Nat.le_refl _
    · have := h b' (by omega) l2; omega
  · by_cases e : b' = i
    · omega
    · have := h b' (by omega) l2; omega
  · rw [cntP, cntP_no, if_pos]
    · rw [Bool.and_eq_true, decide_eq_true_iff, decide_eq_true_iff]
      exact ⟨hi, rfl⟩
    · intro b' l1
      rw [Bool.and_eq_true, decide_eq_true_iff, decide_eq_true_iff]
      rintro ⟨l2, l3⟩
      have := h b' l1 l2
      omega
  · refine ⟨fun z => ⟨bit_lt hin z, fun b' l1 l2 l3 => ?_⟩, fun z => z.2 i (by omega) hi rfl⟩
    by_cases e : b' = i
    · subst e; exact z
    · have := h b' (by omega) l2; omega
section HIX
variable {d n : Nat} {S : List Nat} {mem : Mem}
theorem s_findLeast (h : Tch mem n S.length (colH S)) (hn : n ≤ 10) (hl : S.length ≤ 17) (hall : misB S (2 ^ n - 1) = 0) : CV shX m_Touch_findLeast (d + 2) [.ref 11] mem (fun m' => (∃ k b w s, m' 11 4 = nI k ∧ m' 11 5 = nI b ∧ m' 11 6 = nI w ∧ m' 11 7 = nI s ∧ HS (2 ^ n) n S k b w s) ∧ Same mem m' [11]) := by
  have hpn : 2 ^ n ≤ 2 ^ 10 := Nat.pow_le_pow_right (by decide) hn
  have h1n : 1 ≤ 2 ^ n := Nat.one_le_two_pow
  refine e_Touch_findLeast ?_
  refine downInd (P := fun i => ∀ m0 : Mem, Tch m0 n S.length (colH S) → Same mem m0 [11] → ((m0 11 4 = nI 11 ∧ ∀ b', b' < i → misB S b' ≠ 0) ∨ ∃ k b w s, k ≤ 10 ∧ m0 11 4 = nI k ∧ m0 11 5 = nI b ∧ m0 11 6 = nI w ∧ m0 11 7 = nI s ∧ HS i n S k b w s) → Wp shX m_Touch_findLeast (d + 2) 8 [some (.ref 11), some (.int (nI i)), none] [] m0 (QV (fun m' => (∃ k b w s, m' 11 4 = nI k ∧ m' 11 5 = nI b ∧ m' 11 6 = nI w ∧ m' 11 7 = nI s ∧ HS (2 ^ n) n S k b w s) ∧ Same mem m' [11]))) (2 ^ n) ?_ ?_ 0 (Nat.zero_le _) _ ?_ (Same.up (by decide)) (Or.inl ⟨by rw [up2_at]; rfl, fun b' hb' => absurd hb' (by omega)⟩)
  · intro m0 hT hS hI
    refine b_Touch_findLeast_8 ⟨fun _ => ⟨?_, hS⟩, fun c => absurd (by rw [hT.2.1]; exact nI_lt (by omega) (by omega)) c⟩
    rcases hI with ⟨-, y2⟩ | ⟨k, b, w, s, -, y1, y2, y3, y4, y5⟩
    · exact absurd hall (y2 _ (by omega))
    · exact ⟨k, b, w, s, y1, y2, y3, y4, y5⟩
  · intro i hi ih m0 hT hS hI
    have hpo := pop_lt (w := 10) (by decide) (show i < 2 ^ 10 by omega)
    refine b_Touch_findLeast_8 ⟨fun c => absurd c (by rw [hT.2.1, nI_ltI (by omega) (by omega)]; omega), fun _ => ?_⟩
    rw [bc (by omega), nI_1, hT.all hn hl hi]
    have hx : ∃ q, q ≤ 11 ∧ m0 11 4 = nI q ∧ ∀ b', b' < i → misB S b' = 0 → q ≤ pop b' := by
      rcases hI with ⟨y1, y2⟩ | ⟨k, b, w, s, y0, y1, y2, y3, y4, y5⟩
      · exact ⟨11, by decide, y1, fun b' l1 l2 => absurd l2 (y2 b' l1)⟩
      · exact ⟨k, by omega, y1, y5.2.2.2.1⟩
    obtain ⟨q, q1, q2, q3⟩ := hx
    have skip : (misB S i = 0 → q < pop i) → Wp shX m_Touch_findLeast (d + 2) 8 [some (.ref 11), some (.int (nI (i + 1))), none] [] m0 (QV (fun m' => (∃ k b w s, m' 11 4 = nI k ∧ m' 11 5 = nI b ∧ m' 11 6 = nI w ∧ m' 11 7 = nI s ∧ HS (2 ^ n) n S k b w s) ∧ Same mem m' [11])) := by
      intro hq
      refine ih m0 hT hS ?_
      rcases hI with ⟨y1, y2⟩ | ⟨k, b, w, s, y0, y1, y2, y3, y4, y5⟩
      · refine Or.inl ⟨y1, fun b' l1 l2 => ?_⟩
        by_cases e : b' = i
        · subst e
          have := hq l2
          rw [y1, nI_inj (by decide) (by omega)] at q2
          omega
        · exact y2 b' (by omega) l2
      · refine Or.inr ⟨k, b, w, s, y0, y1, y2, y3, y4, y5.skip (fun z => ?_)⟩
        have := hq z
        rw [y1, nI_inj (by omega) (by omega)] at q2
        omega
    rw [q2, nI_ltI (by omega) (by omega), nI_leI (by omega) (by omega)]
    refine ⟨fun c => skip (fun _ => c), fun c => ⟨fun c2 => skip (fun z => absurd z c2), fun c2 => ⟨fun c3 => ?_, fun c3 => ?_⟩⟩⟩
    · rcases hI with ⟨y1, y2⟩ | ⟨k, b, w, s, y0, y1, y2, y3, y4, y5⟩
      · rw [y1, nI_inj (by decide) (by omega)] at q2
        omega
      · rw [y1, nI_inj (by omega) (by omega)] at q2
        refine ih _ ⟨?_, ?_, fun b' l => ?_⟩ (hS.tr ((Same.up (by decide)).tr (Same.up (by decide)))) (Or.inr ⟨k, b, w + 1, s &&& i, y0, ?_, ?_, ?_, ?_, y5.more c2 (by omega)⟩)
        · rw [up2_nj (by decide), up2_nj (by decide)]; exact hT.1
        · rw [up2_nj (by decide), up2_nj (by decide)]; exact hT.2.1
        · rw [up2_ne (by decide), up2_ne (by decide)]; exact hT.2.2 b' l
        · rw [up2_nj (by decide), up2_nj (by decide)]; exact y1
        · rw [up2_nj (by decide), up2_nj (by decide)]; exact y2
        · rw [up2_nj (by decide), up2_at, y3, nI_1]
        · rw [up2_at, up2_nj (by decide), y4, ia]
    · have hN : HS (i + 1) n S (pop i) i 1 i := HS.new hi c2 (fun b' l1 l2 => by have := q3 b' l1 l2; omega)
      refine ih _ ⟨?_, ?_, fun b' l => ?_⟩ (hS.tr ((((((Same.up (by decide)).tr (Same.up (by decide))).tr (Same.up (by decide))).tr (Same.up (by decide))).tr (Same.up (by decide))).tr (Same.up (by decide)))) (Or.inr ⟨pop i, i, 1, i, hpo, ?_, ?_, ?_, ?_, hN⟩)
      · rw [up2_nj (by decide), up2_nj (by decide), up2_nj (by decide), up2_nj (by decide), up2_nj (by decide), up2_nj (by decide)]; exact hT.1
      · rw [up2_nj (by decide), up2_nj (by decide), up2_nj (by decide), up2_nj (by decide), up2_nj (by decide), up2_nj (by decide)]; exact hT.2.1
      · rw [up2_ne (by decide), up2_ne (by decide), up2_ne (by decide), up2_ne (by decide), up2_ne (by decide), up2_ne (by decide)]; exact hT.2.2 b' l
      · rw [up2_nj (by decide), up2_nj (by decide), up2_nj (by decide), up2_nj (by decide), up2_nj (by decide), up2_at]
      · rw [up2_nj (by decide), up2_nj (by decide), up2_nj (by decide), up2_nj (by decide), up2_at]
      · rw [up2_nj (by decide), up2_at, up2_nj (by decide), up2_at]; rfl
      · rw [up2_at, up2_nj (by decide), up2_at, ia, Nat.and_self]
  · exact ⟨by rw [up2_nj (by decide)]; exact h.1, by rw [up2_nj (by decide)]; exact h.2.1, fun b hb => by rw [up2_ne (by decide)]; exact h.2.2 b hb⟩
theorem x_hitter {a : Int32} (h : Fam mem 1 n S) (hs : ∀ i, S.getD i 0 < 2 ^ n) (h0 : ∀ i, i < S.length → S.getD i 0 ≠ 0) : CI shX m_PS_hitter (d + 3) [.ref 0, .int a] mem (fun r m' => r = aHitter n S a ∧ Same mem m' [11, 12, 13]) := by
  have hl := h.2.2.1
  have hn := h.2.2.2.1
  refine e_PS_hitter ⟨fun c => ⟨by rw [aHitter, ifP_f (fun z => i_nl.mpr z.1 c)], Same.rf⟩, fun c => ⟨fun c2 => ?_, fun c2 => ⟨by rw [aHitter, ifP_f (fun z => c2 z.2)], Same.rf⟩⟩⟩
  rw [aHitter, ifP_t ⟨i_nl.mp c, c2⟩]
  refine (s_fillHaving isF_1 (by decide) h).mono ?_
  rintro m1 ⟨hT, hS⟩
  refine (s_findLeast hT hn hl (hit_all hs h0)).mono ?_
  rintro m2 ⟨⟨k, b, w, s, y1, y2, y3, y4, y5⟩, hS2⟩
  have hS3 : Same mem m2 [11, 12, 13] := hS.tr (hS2.wd (by decide))
  rw [hsO_eq y5, y1, y2, y3, y4]
  refine ⟨fun z => ⟨?_, hS3⟩, fun z => ⟨by rw [if_pos z], hS3⟩, fun z => ⟨by rw [if_neg (by rw [z]; decide), if_pos z], hS3⟩, fun z => ⟨by rw [if_neg (by rw [z]; decide), if_neg (by rw [z]; decide), if_pos z], hS3⟩⟩
  rw [if_neg, if_neg, if_neg]
  · rintro rfl; revert z; decide
  · rintro rfl; revert z; decide
  · rintro rfl; revert z; decide
end HIX
