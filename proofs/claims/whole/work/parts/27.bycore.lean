/-! byCore of both sides -/
def GcP (g : Nat → Nat) (m c : Nat) (q : Nat × Nat) : Prop := 2 ≤ q.1 ∧ FlC g m c q.1 q.2 ∧ (∀ b', FlC g m c q.1 b' → q.2 ≤ b') ∧ ∀ k' b', q.1 < k' → ¬ FlC g m c k' b'
theorem GcP.uniq {g : Nat → Nat} {m c : Nat} {q q' : Nat × Nat} (h : GcP g m c q) (h' : GcP g m c q') : q = q' := by
  obtain ⟨k, b⟩ := q
  obtain ⟨k', b'⟩ := q'
  obtain ⟨h1, h2, h3, h4⟩ := h
  obtain ⟨h1', h2', h3', h4'⟩ := h'
  have e : k = k' := by
    rcases Nat.lt_trichotomy k k' with l | l | l
    · exact absurd h2' (h4 k' b' l)
    · exact l
    · exact absurd h2 (h4' k b l)
  subst e
  have := h3 b' h2'
  have := h3' b h2
  have e : b = b' := Nat.le_antisymm (h3 b' h2') (h3' b h2)
  rw [e]
noncomputable def gcO (g : Nat → Nat) (m c : Nat) : Option (Nat × Nat) := @dite _ (∃ q, GcP g m c q) (Classical.propDecidable _) (fun h => some (Classical.choose h)) (fun _ => none)
theorem gcO_eq {g : Nat → Nat} {m c : Nat} {q : Nat × Nat} (h : GcP g m c q) : gcO g m c = some q := by
  have h' : ∃ q, GcP g m c q := ⟨q, h⟩
  rw [gcO, dif_pos h', (Classical.choose_spec h').uniq h]
theorem gcO_no {g : Nat → Nat} {m c : Nat} (h : ∀ k b, 2 ≤ k → ¬ FlC g m c k b) : gcO g m c = none := by
  rw [gcO, dif_neg (fun ⟨q, hq⟩ => h q.1 q.2 hq.1 hq.2.1)]
noncomputable def aByCore (n : Nat) (S : List Nat) (a w : Int32) : Int32 := ifP (0 ≤ a ∧ a ≤ alF (nI n)) (ifP (0 ≤ w ∧ w ≤ 1) (match gcO (fun i => S.getD i 0) S.length a.toNatClampNeg with
  | none => -2
  | some q => if w = 0 then nI q.1 else nI q.2) (-1)) (-1)
section BYC
variable {d n : Nat} {S : List Nat} {mem : Mem}
theorem x_byCore {a w : Int32} (h : Fam mem 1 n S) : CI shX m_PS_byCore (d + 22) [.ref 0, .int a, .int w] mem (fun r m' => r = aByCore n S a w ∧ m' = mem) := by
  have hl := h.2.2.1
  have hp := pow17 hl
  refine e_PS_byCore ⟨fun c => ⟨?_, rfl⟩, fun c => ?_⟩
  · rw [h.1] at c
    rw [aByCore, ifP_f c]
  · rw [h.1] at c
    rw [aByCore, ifP_t c]
    obtain ⟨b, hb, -, rfl⟩ := pts h.2.2.2.1 c
    rw [nI_clamp (by omega)]
    refine ⟨fun c => ⟨by rw [ifP_f (fun z => i_nl.mpr z.1 c)], rfl⟩, fun c => ⟨fun c2 => ?_, fun c2 => ⟨by rw [ifP_f (fun z => c2 z.2)], rfl⟩⟩⟩
    rw [ifP_t ⟨i_nl.mp c, c2⟩]
    refine (s_largestOf isF_1 h (by omega)).mono ?_
    rintro v m' ⟨hv, rfl⟩
    rcases hv with ⟨k, e, y1, y2, y3, y4, y5⟩ | ⟨y1, y2⟩
    · have he := y2.1
      rw [gcO_eq (q := (k, e)) ⟨y1, y2, y3, y4⟩]
      refine ⟨fun _ => ⟨fun z => ⟨?_, rfl⟩, fun z => ⟨?_, rfl⟩⟩, fun z => absurd (y5.symm.trans z) (nI_m1 (by omega))⟩
      · simp only [if_neg z]; exact y5
      · simp only [if_pos z]; rw [y5, bc (by omega), y2.2.1]
    · rw [gcO_no y1]
      exact ⟨fun z => absurd y2 z, fun _ => ⟨rfl, rfl⟩⟩
theorem y_byCore {a w : Int32} (h : Now mem n S) : CI shM m_Mo_byCore (d + 2) [.ref 0, .int a, .int w] mem (fun r m' => r = aByCore n S a w ∧ Keep mem m') := by
  have hl := h.2.2.1
  have hp := pow17 (m := S.length) (by omega)
  refine e_Mo_byCore ⟨fun c => ⟨?_, Keep.rf⟩, fun c => ?_⟩
  · rw [h.1] at c
    rw [aByCore, ifP_f c]
  · rw [h.1] at c
    rw [aByCore, ifP_t c]
    obtain ⟨c0, hc0, -, rfl⟩ := pts h.2.2.2.1 c
    rw [nI_clamp (by omega)]
    refine ⟨fun c2 => ?_, fun c2 => ⟨by rw [ifP_f c2], Keep.rf⟩⟩
    rw [ifP_t c2]
    refine (s_laysAll h).mono ?_
    rintro m1 ⟨hR, hK⟩
    generalize hA : (match gcO (fun i => S.getD i 0) S.length c0 with | none => (-2 : Int32) | some q => if w = 0 then nI q.1 else nI q.2) = A
    refine downInd (P := fun i => ∀ k b, k ≤ 20 → ((k = 0 ∧ ∀ k' b', 2 ≤ k' → b' < i → ¬ FlC (fun i => S.getD i 0) S.length c0 k' b') ∨ (2 ≤ k ∧ b < i ∧ FlC (fun i => S.getD i 0) S.length c0 k b ∧ (∀ b', b' < i → FlC (fun i => S.getD i 0) S.length c0 k b' → b ≤ b') ∧ ∀ k' b', k < k' → b' < i → ¬ FlC (fun i => S.getD i 0) S.length c0 k' b')) → Wp shM m_Mo_byCore (d + 2) 31 [some (.ref 0), some (.int (nI c0)), some (.int w), some (.int (nI k)), some (.int (nI b)), some (.int (nI i)), none] [] m1 (QI (fun r m' => r = A ∧ Keep mem m'))) (2 ^ S.length) ?_ ?_ 1 Nat.one_le_two_pow 0 0 (by decide) (Or.inl ⟨rfl, fun k' b' l1 l2 l3 => ?_⟩)
    · intro k b hk hI
      refine b_Mo_byCore_31 ⟨fun _ => ?_, fun c => absurd (by rw [hR.lim]; exact nI_le (Nat.le_refl _) (by omega)) c⟩
      rw [nI_z (by omega)]
      rcases hI with ⟨y1, y2⟩ | ⟨y1, y2, y3, y4, y5⟩
      · rw [gcO_no (fun k' b' l1 l2 => y2 k' b' l1 l2.1 l2)] at hA
        exact ⟨fun z => absurd y1 z, fun _ => ⟨hA, hK⟩⟩
      · rw [gcO_eq (q := (k, b)) ⟨y1, y3, fun b' l => y4 b' l.1 l, fun k' b' l1 l2 => y5 k' b' l1 l2.1 l2⟩] at hA
        refine ⟨fun _ => ⟨fun z => ⟨?_, hK⟩, fun z => ⟨?_, hK⟩⟩, fun z => by omega⟩
        · rw [← hA]; simp only [if_neg z]
        · rw [← hA]; simp only [if_pos z]
    · intro i hi ih k b hk hI
      have hpo := pop_le i
      have skip : (∀ k', 2 ≤ k' → k ≤ k' → FlC (fun i => S.getD i 0) S.length c0 k' i → k = k') → Wp shM m_Mo_byCore (d + 2) 31 [some (.ref 0), some (.int (nI c0)), some (.int w), some (.int (nI k)), some (.int (nI b)), some (.int (nI i + 1)), none] [] m1 (QI (fun r m' => r = A ∧ Keep mem m')) := by
        intro hs
        rw [nI_1]
        refine ih k b hk ?_
        rcases hI with ⟨y1, y2⟩ | ⟨y1, y2, y3, y4, y5⟩
        · refine Or.inl ⟨y1, fun k' b' l1 l2 l3 => ?_⟩
          by_cases e : b' = i
          · subst e
            have := hs k' l1 (by omega) l3
            omega
          · exact y2 k' b' l1 (by omega) l3
        · refine Or.inr ⟨y1, by omega, y3, fun b' l1 l2 => ?_, fun k' b' l1 l2 l3 => ?_⟩
          · by_cases e : b' = i
            · omega
            · exact y4 b' (by omega) l2
          · by_cases e : b' = i
            · subst e
              have := hs k' (by omega) (by omega) l3
              omega
            · exact y5 k' b' l1 (by omega) l3
      refine b_Mo_byCore_31 ⟨fun c => absurd c (by rw [hR.lim, nI_leI (by omega) (by omega)]; omega), fun _ => ?_⟩
      refine (s_ones (by omega)).to ⟨fun c => skip (fun k' l1 l2 l3 => ?_), fun c => ?_⟩
      · have c : nI (pop i) ≤ nI k := c
        rw [nI_leI (by omega) (by omega)] at c
        have := l3.2.1
        omega
      · have c : ¬ nI (pop i) ≤ nI k := c
        rw [nI_leI (by omega) (by omega)] at c
        refine (s_McoreOf hR hi).mono ?_
        rintro v m' ⟨hv, rfl⟩
        refine ⟨fun c2 => ?_, fun c2 => skip (fun k' l1 l2 l3 => ?_)⟩
        · have hS : Sn (fun i => S.getD i 0) i c0 := by
            rcases hv with ⟨c3, y1, y2⟩ | ⟨y1, y2⟩
            · have h3 : c3 < 1024 := by
                obtain ⟨x, y, q1, q2, q3⟩ := y1.1
                rw [← y1.2 x y q1 q2 q3]
                exact Nat.lt_of_le_of_lt Nat.and_le_right (hR.2.2.2 y)
              rw [y2, nI_inj (by omega) (by omega)] at c2
              rw [← c2]; exact y1
            · exact absurd (c2.symm.trans y2) (nI_m1 (by omega))
          have h2 := (two_bits (by omega) hi).mp hS.1
          rw [nI_1]
          refine ih (pop i) i hpo (Or.inr ⟨h2, by omega, ⟨hi, rfl, hS.2⟩, fun b' l1 l2 => ?_, fun k' b' l1 l2 l3 => ?_⟩)
          · by_cases e : b' = i
            · omega
            · rcases hI with ⟨y1, y2⟩ | ⟨y1, y2, y3, y4, y5⟩
              · exact absurd l2 (y2 _ b' h2 (by omega))
              · exact absurd l2 (y5 _ b' (by omega) (by omega))
          · by_cases e : b' = i
            · subst e
              have := l3.2.1
              omega
            · rcases hI with ⟨y1, y2⟩ | ⟨y1, y2, y3, y4, y5⟩
              · exact y2 _ b' (by omega) (by omega) l3
              · exact y5 _ b' (by omega) (by omega) l3
        · have hS : Sn (fun i => S.getD i 0) i c0 := ⟨(two_bits (by omega) hi).mpr (by rw [l3.2.1]; exact l1), l3.2.2⟩
          rcases hv with ⟨c3, y1, y2⟩ | ⟨y1, y2⟩
          · exact absurd (by rw [y2, y1.uniq hS]) c2
          · exact absurd hS (y1 c0)
    · have : b' = 0 := by omega
      subst this
      have := l3.2.1
      rw [pop_zero] at this
      omega
end BYC
