/-! the reference: the first sunflower of k, the greatest -/
theorem up2_up2 {mem : Mem} {c j : Nat} {x y : Int32} : up2 (up2 mem c j x) c j y = up2 mem c j y := by
  funext a b
  by_cases h : a = c
  · subst h
    by_cases h2 : b = j
    · subst h2; rw [up2_at, up2_at]
    · rw [up2_nj h2, up2_nj h2, up2_nj h2]
  · rw [up2_ne h, up2_ne h, up2_ne h]
theorem up2_self {mem : Mem} {c j : Nat} : up2 mem c j (mem c j) = mem := by
  funext a b
  by_cases h : a = c
  · subst h
    by_cases h2 : b = j
    · subst h2; rw [up2_at]
    · rw [up2_nj h2]
  · rw [up2_ne h]
section MFI
variable {d : Nat} {S : List Nat} {mem : Mem}
theorem Rw.up9 {x : Int32} (h : Rw mem S) : Rw (up2 mem 0 9 x) S := h.of (up2_nj (by decide)) (up2_ne (by decide))
theorem Rw.lim (h : Rw mem S) : (1 : Int32) <<< (mem 0 8 &&& 31) = nI (2 ^ S.length) := by
  have := h.2.1
  rw [h.1, sh1 (by omega)]
theorem pow17 {m : Nat} (h : m ≤ 17) : 2 ^ m ≤ 131072 := Nat.pow_le_pow_right (n := 2) (by decide) h
/-- the answer of firstOf: the least, or 0 -/
def Ls0 (P : Nat → Prop) (r : Int32) : Prop := (∃ b, P b ∧ (∀ b', P b' → b ≤ b') ∧ r = nI b) ∨ ((∀ b, ¬ P b) ∧ r = 0)
theorem s_firstOf {k : Nat} (h : Rw mem S) (hk2 : 2 ≤ k) (hk : k ≤ 17) : CI shM m_Mo_firstOf (d + 2) [.ref 0, .int (nI k)] mem (fun r m' => Ls0 (Fl (fun i => S.getD i 0) S.length k) r ∧ m' = mem) := by
  have hl := h.2.1
  have hp := pow17 hl
  refine e_Mo_firstOf ?_
  refine downInd (P := fun i => (∀ b, b < i → ¬ Fl (fun i => S.getD i 0) S.length k b) → Wp shM m_Mo_firstOf (d + 2) 2 [some (.ref 0), some (.int (nI k)), some (.int (nI i))] [] mem (QI (fun r m' => Ls0 (Fl (fun i => S.getD i 0) S.length k) r ∧ m' = mem))) (2 ^ S.length) ?_ ?_ 1 Nat.one_le_two_pow (fun b hb hF => ?_)
  · intro hno
    refine b_Mo_firstOf_2 ⟨fun _ => ⟨Or.inr ⟨fun b hb => hno b hb.1 hb, rfl⟩, rfl⟩, fun c => absurd ?_ c⟩
    rw [h.lim]; exact nI_le (Nat.le_refl _) (by omega)
  · intro i hi ih hno
    refine b_Mo_firstOf_2 ⟨fun c => ?_, fun _ => ?_⟩
    · rw [h.lim, nI_leI (by omega) (by omega)] at c
      omega
    · refine (s_ones (by omega)).to ?_
      have hpo := pop_le i
      refine ⟨fun c => ?_, fun c => ?_⟩
      · rw [nI_inj (by omega) (by omega)] at c
        rw [nI_1]
        refine ih (fun b hb hF => ?_)
        by_cases e : b = i
        · subst e; exact c hF.2.1
        · exact hno b (by omega) hF
      · rw [nI_inj (by omega) (by omega)] at c
        refine (s_McoreOf h hi).mono ?_
        rintro v m' ⟨hv, rfl⟩
        refine ⟨fun c2 => ?_, fun c2 => ?_⟩
        · rw [nI_1]
          refine ih (fun b hb hF => ?_)
          by_cases e : b = i
          · subst e
            obtain ⟨-, -, cc, hcc⟩ := (Fl_iff (by omega) hk2).mp hF
            rcases hv with ⟨c3, y1, y2⟩ | ⟨y1, y2⟩
            · have h3 : c3 < 1024 := by
                obtain ⟨x, y, q1, q2, q3⟩ := y1.1
                rw [← y1.2 x y q1 q2 q3]
                exact Nat.lt_of_le_of_lt Nat.and_le_left (h.2.2.2 x)
              rw [y2] at c2
              exact nI_pos (by omega) c2
            · exact y1 cc hcc
          · exact hno b (by omega) hF
        · rcases hv with ⟨c3, y1, y2⟩ | ⟨y1, y2⟩
          · refine ⟨Or.inl ⟨i, (Fl_iff (by omega) hk2).mpr ⟨hi, c, c3, y1⟩, fun b' hb' => ?_, rfl⟩, rfl⟩
            rcases Nat.lt_or_ge b' i with q | q
            · exact absurd hb' (hno b' q)
            · exact q
          · exact absurd (by rw [y2]; decide) c2
  · have e : b = 0 := by omega
    subst e
    have := hF.2.1
    rw [pop_zero] at this
    omega
/-- the answer of greatestMany: how many, and its bits x -/
def GsM (g : Nat → Nat) (m : Nat) (r x : Int32) : Prop := (∃ k b, 2 ≤ k ∧ Fl g m k b ∧ (∀ b', Fl g m k b' → b ≤ b') ∧ (∀ k' b', k < k' → ¬ Fl g m k' b') ∧ r = nI k ∧ x = nI b) ∨ ((∀ k b, 2 ≤ k → ¬ Fl g m k b) ∧ r = 0)
theorem s_greatestMany (h : Rw mem S) : CI shM m_Mo_greatestMany (d + 2) [.ref 0] mem (fun r m' => ∃ x, GsM (fun i => S.getD i 0) S.length r x ∧ m' = up2 mem 0 9 x) := by
  have hl := h.2.1
  have hp := pow17 hl
  let Iv : Int32 → Int32 → Nat → Prop := fun r x i => (r = nI 0 ∧ ∀ k b, 2 ≤ k → b < i → ¬ Fl (fun i => S.getD i 0) S.length k b) ∨ (∃ k b, 2 ≤ k ∧ Fl (fun i => S.getD i 0) S.length k b ∧ (∀ b', Fl (fun i => S.getD i 0) S.length k b' → b ≤ b') ∧ (∀ k' b', k < k' → b' < i → ¬ Fl (fun i => S.getD i 0) S.length k' b') ∧ r = nI k ∧ x = nI b)
  refine e_Mo_greatestMany ?_
  refine downInd (P := fun i => ∀ r x, Iv r x i → Wp shM m_Mo_greatestMany (d + 2) 9 [some (.ref 0), some (.int r), some (.int (nI i)), none] [] (up2 mem 0 9 x) (QI (fun r m' => ∃ x, GsM (fun i => S.getD i 0) S.length r x ∧ m' = up2 mem 0 9 x))) (2 ^ S.length) ?_ ?_ 1 Nat.one_le_two_pow 0 0 (Or.inl ⟨rfl, fun k b hk hb hF => ?_⟩)
  · intro r x hI
    refine b_Mo_greatestMany_9 ⟨fun _ => ⟨x, ?_, rfl⟩, fun c => absurd ?_ c⟩
    · rcases hI with ⟨h1, h2⟩ | ⟨k, b, h1, h2, h3, h4, h5, h6⟩
      · exact Or.inr ⟨fun k b hk hF => h2 k b hk hF.1 hF, h1⟩
      · exact Or.inl ⟨k, b, h1, h2, h3, fun k' b' hk' hF => h4 k' b' hk' hF.1 hF, h5, h6⟩
    · rw [h.up9.lim]; exact nI_le (Nat.le_refl _) (by omega)
  · intro i hi ih r x hI
    have hR : Rw (up2 mem 0 9 x) S := h.up9
    have hpo := pop_le i
    refine b_Mo_greatestMany_9 ⟨fun c => ?_, fun _ => ?_⟩
    · rw [hR.lim, nI_leI (by omega) (by omega)] at c
      omega
    · refine (s_ones (by omega)).to ?_
      -- i is no greater flower than the best so far
      have same : (∀ k', Fl (fun i => S.getD i 0) S.length k' i → 2 ≤ k' → ∃ k b, 2 ≤ k ∧ Fl (fun i => S.getD i 0) S.length k b ∧ r = nI k ∧ k' ≤ k) → Iv r x (i + 1) := by
        intro hs
        rcases hI with ⟨h1, h2⟩ | ⟨k, b, h1, h2, h3, h4, h5, h6⟩
        · refine Or.inl ⟨h1, fun k b hk hb hF => ?_⟩
          by_cases e : b = i
          · subst e
            obtain ⟨k2, b2, y1, y2, y3, y4⟩ := hs k hF hk
            have hp2 : k2 ≤ 20 := by have := y2.2.1; have := pop_le b2; omega
            rw [h1, nI_inj (by omega) (by omega)] at y3
            omega
          · exact h2 k b hk (by omega) hF
        · refine Or.inr ⟨k, b, h1, h2, h3, fun k' b' hk' hb' hF => ?_, h5, h6⟩
          by_cases e : b' = i
          · subst e
            obtain ⟨k2, b2, y1, y2, y3, y4⟩ := hs k' hF (by omega)
            have hp2 : k2 ≤ 20 := by have := y2.2.1; have := pop_le b2; omega
            have hp1 : k ≤ 20 := by have := h2.2.1; have := pop_le b; omega
            rw [h5, nI_inj (by omega) (by omega)] at y3
            omega
          · exact h4 k' b' hk' (by omega) hF
      refine ⟨fun c => ?_, fun c => ?_⟩
      · rw [nI_1]
        refine ih r x (same (fun k' hF hk' => ?_))
        have e1 := hF.2.1
        rcases hI with ⟨h1, h2⟩ | ⟨k, b, h1, h2, h3, h4, h5, h6⟩
        · rw [h1, nI_leI (by omega) (by omega)] at c
          omega
        · have hp1 : k ≤ 20 := by have := h2.2.1; have := pop_le b; omega
          rw [h5, nI_leI (by omega) (by omega)] at c
          exact ⟨k, b, h1, h2, h5, by omega⟩
      · refine (s_McoreOf hR hi).mono ?_
        rintro v m' ⟨hv, rfl⟩
        have hc3 : ∀ c3, Sn (fun i => S.getD i 0) i c3 → c3 < 1024 := by
          intro c3 y1
          obtain ⟨x, y, q1, q2, q3⟩ := y1.1
          rw [← y1.2 x y q1 q2 q3]
          exact Nat.lt_of_le_of_lt Nat.and_le_left (h.2.2.2 x)
        refine ⟨fun c2 => ?_, fun c2 => ?_⟩
        · rcases hv with ⟨c3, y1, y2⟩ | ⟨y1, y2⟩
          · rw [up2_up2, nI_1]
            have h2p : 2 ≤ pop i := (two_bits (by omega) hi).mp y1.1
            have hFi : Fl (fun i => S.getD i 0) S.length (pop i) i := ⟨hi, rfl, c3, y1.2⟩
            have hno : ∀ k' b', pop i ≤ k' → b' < i → ¬ Fl (fun i => S.getD i 0) S.length k' b' := by
              intro k' b' hk' hb' hF
              rcases hI with ⟨h1, h2⟩ | ⟨k, b, h1, h2, h3, h4, h5, h6⟩
              · exact h2 k' b' (by omega) hb' hF
              · have hp1 : k ≤ 20 := by have := h2.2.1; have := pop_le b; omega
                rw [h5, nI_leI (by omega) (by omega)] at c
                exact h4 k' b' (by omega) hb' hF
            refine ih (nI (pop i)) (nI i) (Or.inr ⟨pop i, i, h2p, hFi, fun b' hb' => ?_, fun k' b' hk' hb' hF => ?_, rfl, rfl⟩)
            · rcases Nat.lt_or_ge b' i with q | q
              · exact absurd hb' (hno _ b' (Nat.le_refl _) q)
              · exact q
            · by_cases e : b' = i
              · subst e
                have := hF.2.1
                omega
              · exact hno k' b' (by omega) (by omega) hF
          · exact absurd c2 (by rw [y2]; decide)
        · rw [nI_1]
          refine ih r x (same (fun k' hF hk' => ?_))
          obtain ⟨-, -, cc, hcc⟩ := (Fl_iff (by omega) hk').mp hF
          rcases hv with ⟨c3, y1, y2⟩ | ⟨y1, y2⟩
          · have := hc3 c3 y1
            exact absurd (by rw [y2]; exact nI_le0 (by omega)) c2
          · exact absurd hcc (y1 cc)
  · have e : b = 0 := by omega
    subst e
    have := hF.2.1
    rw [pop_zero] at this
    omega
end MFI
