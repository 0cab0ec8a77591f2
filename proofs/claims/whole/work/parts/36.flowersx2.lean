/-! flowers of the class -/
theorem fl_few {S : List Nat} {k i : Nat} (hi : i ≤ 20) (hk : i < k) : cntP (flB S k) (2 ^ i) = 0 := by
  refine cntP_no _ (fun x hx h3 => ?_)
  have := pop_lt hi hx
  have := (flB_iff.mp h3).2.1
  omega
theorem fl_few2 {S : List Nat} {k i j : Nat} (hi : i < 20) (hji : j ≤ i) (hk : j + 1 < k) : cntP (fun x => flB S k (x + 2 ^ i)) (2 ^ j) = 0 := by
  refine cntP_no _ (fun x hx h3 => ?_)
  have h1 := pop_lt (by omega) hx
  have h2 := (flB_iff.mp h3).2.1
  have h4 : x < 2 ^ i := Nat.lt_of_lt_of_le hx (Nat.pow_le_pow_right (by decide) hji)
  rw [pop_top h4 hi] at h2
  omega
theorem fl_step {S : List Nat} {k i j : Nat} (hm : S.length ≤ 17) (hi : i < S.length) (hji : j < i) : cntP (fun x => flB S (k + 2) (x + 2 ^ i)) (2 ^ (j + 1)) = cntP (fun x => flB S (k + 2) (x + 2 ^ i)) (2 ^ j) + cntP (cqB (fun i => S.getD i 0) (msk (fun x => (2 ^ j - 1).testBit x && (decide (S.getD x 0 &&& S.getD i 0 = S.getD i 0 &&& S.getD j 0) && decide (S.getD x 0 &&& S.getD j 0 = S.getD i 0 &&& S.getD j 0))) S.length) (S.getD i 0 &&& S.getD j 0) k) (2 ^ S.length) := by
  rw [cnt_split]
  congr 1
  rw [cntP_cong (q := cqB (fun i => S.getD i 0) (msk (fun x => (2 ^ j - 1).testBit x && (decide (S.getD x 0 &&& S.getD i 0 = S.getD i 0 &&& S.getD j 0) && decide (S.getD x 0 &&& S.getD j 0 = S.getD i 0 &&& S.getD j 0))) S.length) (S.getD i 0 &&& S.getD j 0) k) (2 ^ j) (fun x hx => by rw [Bool.eq_iff_iff, flB_iff, cqB_iff]; exact Fl.two hm hi hji hx)]
  refine (cnt_ext (Nat.pow_le_pow_right (by decide) (by omega)) (fun x h1 h2 h3 => ?_)).symm
  have : x < 2 ^ j := by
    refine Nat.lt_pow_two_of_testBit x (fun y hy => ?_)
    cases e : x.testBit y with
    | false => rfl
    | true =>
      have := (cqB_iff.mp h3).1 y e
      rw [msk_bit, Nat.testBit_two_pow_sub_one] at this
      simp [show ¬ y < j by omega] at this
  omega
section FLY
variable {d n f : Nat} {S : List Nat} {mem : Mem}
theorem s_countFlowers {k : Nat} (hf : IsF f) (h : Fam mem f n S) (hk : k ≤ 16) : CI shX m_Petals_countFlowers (d + 21) [.ref f, .int (nI (k + 2))] mem (fun r m' => r = nI (cntP (flB S (k + 2)) (2 ^ S.length)) ∧ m' = mem) := by
  have hl := h.2.2.1
  refine e_Petals_countFlowers hf ?_
  have e1 : nI (k + 2) - 1 = nI (k + 1) := nI_pred (k + 1)
  have e2 : nI (k + 2) - 2 = nI k := by rw [show (2 : Int32) = nI 2 from rfl, pk_sub (by omega), Nat.add_sub_cancel]
  rw [e1]
  have main : ∀ i, i ≤ S.length → k + 1 ≤ i → Wp shX m_Petals_countFlowers (d + 21) 6 [some (.ref f), some (.int (nI (k + 2))), some (.int (nI (cntP (flB S (k + 2)) (2 ^ i)))), some (.int (nI i)), none, none, none] [] mem (QI (fun r m' => r = nI (cntP (flB S (k + 2)) (2 ^ S.length)) ∧ m' = mem)) := by
    refine downInd (P := fun i => k + 1 ≤ i → Wp shX m_Petals_countFlowers (d + 21) 6 [some (.ref f), some (.int (nI (k + 2))), some (.int (nI (cntP (flB S (k + 2)) (2 ^ i)))), some (.int (nI i)), none, none, none] [] mem (QI (fun r m' => r = nI (cntP (flB S (k + 2)) (2 ^ S.length)) ∧ m' = mem))) S.length ?_ ?_
    · intro _
      exact b_Petals_countFlowers_6 hf ⟨fun _ => ⟨rfl, rfl⟩, fun c => absurd ((h.ge (Nat.le_refl _)).mpr rfl) c⟩
    · intro i hi ih hki
      refine b_Petals_countFlowers_6 hf ⟨fun c => absurd ((h.ge (Nat.le_of_lt hi)).mp c) (by omega), fun _ => ?_⟩
      rw [e2]
      have inner : ∀ j, j ≤ i → k ≤ j → Wp shX m_Petals_countFlowers (d + 21) 19 [some (.ref f), some (.int (nI (k + 2))), some (.int (nI (cntP (flB S (k + 2)) (2 ^ i) + cntP (fun x => flB S (k + 2) (x + 2 ^ i)) (2 ^ j)))), some (.int (nI i)), some (.int (nI j)), none, none] [] mem (QI (fun r m' => r = nI (cntP (flB S (k + 2)) (2 ^ S.length)) ∧ m' = mem)) := by
        refine downInd (P := fun j => k ≤ j → Wp shX m_Petals_countFlowers (d + 21) 19 [some (.ref f), some (.int (nI (k + 2))), some (.int (nI (cntP (flB S (k + 2)) (2 ^ i) + cntP (fun x => flB S (k + 2) (x + 2 ^ i)) (2 ^ j)))), some (.int (nI i)), some (.int (nI j)), none, none] [] mem (QI (fun r m' => r = nI (cntP (flB S (k + 2)) (2 ^ S.length)) ∧ m' = mem))) i ?_ ?_
        · intro _
          refine b_Petals_countFlowers_19 hf ⟨fun _ => ?_, fun c => absurd (nI_le (Nat.le_refl _) (by omega)) c⟩
          rw [← cnt_split, nI_1]
          exact ih (by omega)
        · intro j hj ihj hkj
          have hgi := h.small i
          have hgj := h.small j
          have h2j : 1 ≤ 2 ^ j := Nat.one_le_two_pow
          have h2s : 2 ^ j ≤ 2 ^ 17 := Nat.pow_le_pow_right (by decide) (by omega)
          have hle : S.getD i 0 &&& S.getD j 0 ≤ S.getD j 0 := Nat.and_le_right
          refine b_Petals_countFlowers_19 hf ⟨fun c => absurd c (by rw [nI_leI (by omega) (by omega)]; omega), fun _ => ?_⟩
          rw [h.aF hi, h.aF (by omega), sh1 (by omega), ia, e2, nI_1, show (1 : Int32) = nI 1 from rfl, pk_sub h2j]
          refine (s_fitting hf h (by omega) (by omega) (by omega)).to ?_
          have hr := msk_lt (fun x => (2 ^ j - 1).testBit x && (decide (S.getD x 0 &&& S.getD i 0 = S.getD i 0 &&& S.getD j 0) && decide (S.getD x 0 &&& S.getD j 0 = S.getD i 0 &&& S.getD j 0))) S.length
          refine (s_countCliques k (d + 19) _ _ (by omega) hf h hr (by omega) (by omega)).to ?_
          have := ihj (by omega)
          rw [fl_step hl hi hj, ← Nat.add_assoc] at this
          rw [nI_add]
          exact this
      have := inner k (by omega) (Nat.le_refl _)
      rw [fl_few2 (by omega) (by omega) (by omega), Nat.add_zero] at this
      exact this
  rcases Nat.lt_or_ge S.length (k + 1) with q | q
  · refine b_Petals_countFlowers_6 hf ⟨fun _ => ⟨?_, rfl⟩, fun c => absurd (by rw [h.2.1]; exact nI_le (by omega) (by omega)) c⟩
    rw [fl_few (by omega) (by omega)]; rfl
  · have := main (k + 1) q (Nat.le_refl _)
    rw [fl_few (by omega) (by omega)] at this
    exact this
theorem x_flowers {a : Int32} (h : Fam mem 1 n S) : CI shX m_PS_flowers (d + 22) [.ref 0, .int a] mem (fun r m' => r = aFlowers S a ∧ m' = mem) := by
  refine e_PS_flowers ⟨fun c => ?_, fun c => ⟨by rw [aFlowers, ifP_f c], rfl⟩⟩
  rw [aFlowers, ifP_t c]
  obtain ⟨k, hk2, hk, rfl⟩ := of_2_16 c
  obtain ⟨k, rfl⟩ : ∃ k', k = k' + 2 := ⟨k - 2, by omega⟩
  rw [nI_clamp (by omega)]
  exact (s_countFlowers isF_1 h (by omega)).to ⟨rfl, rfl⟩
end FLY
