/-! flowers of the reference -/
noncomputable def flB (S : List Nat) (k b : Nat) : Bool := @decide (Fl (fun i => S.getD i 0) S.length k b) (Classical.propDecidable _)
theorem flB_iff {S : List Nat} {k b : Nat} : flB S k b = true ↔ Fl (fun i => S.getD i 0) S.length k b := @decide_eq_true_iff _ (Classical.propDecidable _)
noncomputable def aFlowers (S : List Nat) (a : Int32) : Int32 := ifP (2 ≤ a ∧ a ≤ 16) (nI (cntP (flB S a.toNatClampNeg) (2 ^ S.length))) (-1)
theorem of_2_16 {a : Int32} (h : 2 ≤ a ∧ a ≤ 16) : ∃ k, 2 ≤ k ∧ k ≤ 16 ∧ a = nI k := by
  obtain ⟨k, hk, rfl⟩ := of_inl (n := 16) (by decide) (Int32.le_trans (by decide) h.1) h.2
  refine ⟨k, ?_, hk, rfl⟩
  have := h.1
  rw [show (2 : Int32) = nI 2 from rfl, nI_leI (by decide) (by omega)] at this
  exact this
section FLM
variable {d n : Nat} {S : List Nat} {mem : Mem}
theorem y_flowers {a : Int32} (h : Now mem n S) : CI shM m_Mo_flowers (d + 2) [.ref 0, .int a] mem (fun r m' => r = aFlowers S a ∧ Keep mem m') := by
  have hl := h.2.2.1
  have hp := pow17 (m := S.length) (by omega)
  have h1p : 1 ≤ 2 ^ S.length := Nat.one_le_two_pow
  refine e_Mo_flowers ⟨fun c => ?_, fun c => ⟨by rw [aFlowers, ifP_f c], Keep.rf⟩⟩
  rw [aFlowers, ifP_t c]
  obtain ⟨k, hk2, hk, rfl⟩ := of_2_16 c
  rw [nI_clamp (by omega)]
  refine (s_laysAll h).mono ?_
  rintro m1 ⟨hR, hK⟩
  have main : ∀ i, i ≤ 2 ^ S.length → Wp shM m_Mo_flowers (d + 2) 17 [some (.ref 0), some (.int (nI k)), some (.int (nI (cntP (flB S k) i))), some (.int (nI i))] [] m1 (QI (fun r m' => r = nI (cntP (flB S k) (2 ^ S.length)) ∧ Keep mem m')) := by
    refine downInd (P := fun i => Wp shM m_Mo_flowers (d + 2) 17 [some (.ref 0), some (.int (nI k)), some (.int (nI (cntP (flB S k) i))), some (.int (nI i))] [] m1 (QI (fun r m' => r = nI (cntP (flB S k) (2 ^ S.length)) ∧ Keep mem m'))) (2 ^ S.length) ?_ ?_
    · exact b_Mo_flowers_17 ⟨fun _ => ⟨rfl, hK⟩, fun c => absurd (by rw [hR.lim]; exact nI_le (Nat.le_refl _) (by omega)) c⟩
    · intro i hi ih
      have hpo := pop_le i
      have skip : ¬ Fl (fun i => S.getD i 0) S.length k i → Wp shM m_Mo_flowers (d + 2) 17 [some (.ref 0), some (.int (nI k)), some (.int (nI (cntP (flB S k) i))), some (.int (nI i + 1))] [] m1 (QI (fun r m' => r = nI (cntP (flB S k) (2 ^ S.length)) ∧ Keep mem m')) := by
        intro q
        rw [cntP, if_neg (fun z => q (flB_iff.mp z)), Nat.add_zero] at ih
        rw [nI_1]; exact ih
      refine b_Mo_flowers_17 ⟨fun c => absurd c (by rw [hR.lim, nI_leI (by omega) (by omega)]; omega), fun _ => ?_⟩
      refine (s_ones (by omega)).to ?_
      rw [nI_inj (by omega) (by omega)]
      refine ⟨fun z => skip (fun q => z q.2.1), fun z => ?_⟩
      refine (s_McoreOf hR hi).mono ?_
      rintro v m' ⟨hv, rfl⟩
      rcases hv with ⟨c3, y1, y2⟩ | ⟨y1, y2⟩
      · have h3 : c3 < 1024 := by
          obtain ⟨x, y, q1, q2, q3⟩ := y1.1
          rw [← y1.2 x y q1 q2 q3]
          exact Nat.lt_of_le_of_lt Nat.and_le_right (hR.2.2.2 y)
        refine ⟨fun z2 => absurd z2 (by rw [y2, i_nl]; exact nI_le0 (by omega)), fun _ => ?_⟩
        rw [cntP, if_pos (flB_iff.mpr ⟨hi, z, c3, y1.2⟩)] at ih
        rw [nI_1, nI_1]; exact ih
      · refine ⟨fun _ => skip (fun q => ?_), fun z2 => absurd (by rw [y2]; decide) z2⟩
        obtain ⟨-, -, cc, hcc⟩ := (Fl_iff (by omega) hk2).mp q
        exact y1 cc hcc
  have := main 1 h1p
  rw [cntP, if_neg (fun z => by have := (flB_iff.mp z).2.1; rw [pop_zero] at this; omega)] at this
  exact this
end FLM
