/-! parts of both sides: how many parts the sets fall into -/
/-- from i one comes to j, from set to set that meets it -/
def Con (S : List Nat) (i j : Nat) : Prop := ∀ A : Nat → Prop, A i → (∀ x y, x < S.length → y < S.length → A x → S.getD x 0 &&& S.getD y 0 ≠ 0 → A y) → A j
theorem Con.rf {S : List Nat} {i : Nat} : Con S i i := fun _ h _ => h
theorem Con.tr {S : List Nat} {i j k : Nat} (h1 : Con S i j) (h2 : Con S j k) : Con S i k := fun A ha hs => h2 A (h1 A ha hs) hs
theorem Con.st {S : List Nat} {i j k : Nat} (h : Con S i j) (hj : j < S.length) (hk : k < S.length) (hm : S.getD j 0 &&& S.getD k 0 ≠ 0) : Con S i k := fun A ha hs => hs j k hj hk (h A ha hs) hm
theorem Con.sy {S : List Nat} {i j : Nat} (hi : i < S.length) (h : Con S i j) : Con S j i := by
  have := h (fun x => x < S.length ∧ Con S x i) ⟨hi, Con.rf⟩ (fun x y hx hy ⟨_, hc⟩ hm => ⟨hy, fun A ha hs => hc A (hs y x hy hx ha (by rw [Nat.and_comm]; exact hm)) hs⟩)
  exact this.2
theorem Con.lt {S : List Nat} {i j : Nat} (hi : i < S.length) (h : Con S i j) : j < S.length := h (fun x => x < S.length) hi (fun _ _ _ hy _ _ => hy)
noncomputable def coB (S : List Nat) (i j : Nat) : Bool := @decide (Con S i j) (Classical.propDecidable _)
theorem coB_iff {S : List Nat} {i j : Nat} : coB S i j = true ↔ Con S i j := @decide_eq_true_iff _ (Classical.propDecidable _)
/-- the first of its part -/
def Lead (S : List Nat) (i : Nat) : Prop := ∀ j, j < i → ¬ Con S j i
noncomputable def leB (S : List Nat) (i : Nat) : Bool := @decide (Lead S i) (Classical.propDecidable _)
theorem leB_iff {S : List Nat} {i : Nat} : leB S i = true ↔ Lead S i := @decide_eq_true_iff _ (Classical.propDecidable _)
noncomputable def aParts (S : List Nat) : Int32 := nI (cntP (leB S) S.length)
theorem and_ne_of {a b p : Nat} (h1 : a.testBit p = true) (h2 : b.testBit p = true) : a &&& b ≠ 0 := fun e => and_no e h1 h2
theorem ne_bit {a b : Nat} (h : a &&& b ≠ 0) : ∃ p, a.testBit p = true ∧ b.testBit p = true := by
  obtain ⟨p, hp⟩ := bit_ne h
  rw [Nat.testBit_and, Bool.and_eq_true] at hp
  exact ⟨p, hp⟩
section PRT
variable {d n : Nat} {S : List Nat} {mem : Mem}
theorem s_partOf {i : Nat} (h : Fam mem 1 n S) (hi : i < S.length) : CI shX m_PS_partOf (d + 1) [.ref 0, .int (nI i)] mem (fun r m' => r = nI (msk (coB S i) S.length) ∧ m' = mem) := by
  have hl := h.2.2.1
  have hp := pow17 hl
  refine e_PS_partOf ?_
  rw [sh1 (by omega)]
  have key : ∀ r, r ≤ S.length → ∀ pa, pa < 2 ^ S.length → pa.testBit i = true → (∀ j, pa.testBit j = true → Con S i j) → r + 1 ≤ pop pa → Wp shX m_PS_partOf (d + 1) 6 [some (.ref 0), none, some (.int (nI pa)), some (.int (nI r)), none] [] mem (QI (fun r m' => r = nI (msk (coB S i) S.length) ∧ m' = mem)) := by
    refine downInd (P := fun r => ∀ pa, pa < 2 ^ S.length → pa.testBit i = true → (∀ j, pa.testBit j = true → Con S i j) → r + 1 ≤ pop pa → Wp shX m_PS_partOf (d + 1) 6 [some (.ref 0), none, some (.int (nI pa)), some (.int (nI r)), none] [] mem (QI (fun r m' => r = nI (msk (coB S i) S.length) ∧ m' = mem))) S.length ?_ ?_
    · intro pa h1 h2 h3 h4
      have := pop_lt (by omega) h1
      omega
    · intro r hr ih pa h1 h2 h3 h4
      refine b_PS_partOf_6 ⟨fun c => absurd ((h.ge (Nat.le_of_lt hr)).mp c) (by omega), fun _ => ?_⟩
      refine (s_unionOf isF_1 h (by omega)).to ?_
      refine (s_setsMeeting isF_1 h).to ?_
      have hg : ∀ j, (pa ||| msk (fun i => decide (¬ S.getD i 0 &&& unT (fun i => S.getD i 0) pa S.length = 0)) S.length).testBit j = true ↔ (pa.testBit j = true ∨ (j < S.length ∧ ∃ k, k < S.length ∧ pa.testBit k = true ∧ S.getD k 0 &&& S.getD j 0 ≠ 0)) := by
        intro j
        rw [Nat.testBit_or, Bool.or_eq_true, msk_bit, Bool.and_eq_true, decide_eq_true_iff, decide_eq_true_iff]
        refine or_congr Iff.rfl (and_congr Iff.rfl ?_)
        constructor
        · intro hne
          obtain ⟨p, p1, p2⟩ := ne_bit hne
          obtain ⟨k, k1, k2, k3⟩ := (unT_bit _ pa p _).mp p2
          exact ⟨k, k1, k2, and_ne_of k3 p1⟩
        · rintro ⟨k, k1, k2, k3⟩
          obtain ⟨p, p1, p2⟩ := ne_bit k3
          exact and_ne_of p2 ((unT_bit _ pa p _).mpr ⟨k, k1, k2, p1⟩)
      have hm2 := msk_lt (fun i => decide (¬ S.getD i 0 &&& unT (fun i => S.getD i 0) pa S.length = 0)) S.length
      have hG := Nat.or_lt_two_pow h1 hm2
      rw [io, nI_inj (by omega) (by omega)]
      refine ⟨fun z => ?_, fun z => ⟨?_, rfl⟩⟩
      · rw [nI_1]
        refine ih _ hG ((hg i).mpr (Or.inl h2)) (fun j hj => ?_) ?_
        · rcases (hg j).mp hj with y | ⟨y1, k, y2, y3, y4⟩
          · exact h3 j y
          · exact (h3 k y3).st y2 y1 y4
        · obtain ⟨j, hj⟩ : ∃ j, ((pa ||| msk (fun i => decide (¬ S.getD i 0 &&& unT (fun i => S.getD i 0) pa S.length = 0)) S.length).testBit j = true ∧ pa.testBit j = false) := by
            refine Classical.byContradiction (fun hn => z ?_)
            apply Nat.eq_of_testBit_eq
            intro j
            cases e : pa.testBit j with
            | true => rw [Nat.testBit_or, e, Bool.true_or]
            | false =>
              cases e2 : (pa ||| msk (fun i => decide (¬ S.getD i 0 &&& unT (fun i => S.getD i 0) pa S.length = 0)) S.length).testBit j with
              | false => rfl
              | true => exact absurd ⟨j, e2, e⟩ hn
          have := popT_strict (s := pa ||| msk (fun i => decide (¬ S.getD i 0 &&& unT (fun i => S.getD i 0) pa S.length = 0)) S.length) (p := j) 20 pa (fun k hk => by rw [Nat.testBit_or, hk, Bool.true_or]) (by have := bit_lt hG hj.1; omega) hj.1 hj.2
          have e3 : pop pa < pop (pa ||| msk (fun i => decide (¬ S.getD i 0 &&& unT (fun i => S.getD i 0) pa S.length = 0)) S.length) := this
          omega
      · congr 1
        apply Nat.eq_of_testBit_eq
        intro j
        rw [Bool.eq_iff_iff, msk_bit, Bool.and_eq_true, decide_eq_true_iff, coB_iff]
        refine ⟨fun y => ⟨bit_lt h1 y, h3 j y⟩, fun y => ?_⟩
        refine y.2 (fun x => pa.testBit x = true) h2 (fun x y' hx hy hxA hm => ?_)
        rw [← z]
        exact (hg y').mpr (Or.inr ⟨hy, x, hx, hxA, hm⟩)
  refine key 0 (Nat.zero_le _) (2 ^ i) (Nat.pow_lt_pow_right (by decide) hi) Nat.testBit_two_pow_self (fun j hj => ?_) ?_
  · rw [Nat.testBit_two_pow, decide_eq_true_iff] at hj
    subst hj; exact Con.rf
  · have := pop_top (b := 0) (i := i) (Nat.two_pow_pos i) (by omega)
    rw [Nat.zero_add, pop_zero] at this
    omega
theorem x_parts (h : Fam mem 1 n S) : CI shX m_PS_parts (d + 2) [.ref 0] mem (fun r m' => r = aParts S ∧ m' = mem) := by
  have hl := h.2.2.1
  have hp := pow17 hl
  refine e_PS_parts ?_
  have key : ∀ i, i ≤ S.length → ∀ se, se < 2 ^ S.length → (∀ j, j < S.length → (se.testBit j = true ↔ ∃ k, k < i ∧ Con S k j)) → Wp shX m_PS_parts (d + 2) 6 [some (.ref 0), some (.int (nI (cntP (leB S) i))), some (.int (nI se)), some (.int (nI i))] [] mem (QI (fun r m' => r = aParts S ∧ m' = mem)) := by
    refine downInd (P := fun i => ∀ se, se < 2 ^ S.length → (∀ j, j < S.length → (se.testBit j = true ↔ ∃ k, k < i ∧ Con S k j)) → Wp shX m_PS_parts (d + 2) 6 [some (.ref 0), some (.int (nI (cntP (leB S) i))), some (.int (nI se)), some (.int (nI i))] [] mem (QI (fun r m' => r = aParts S ∧ m' = mem))) S.length ?_ ?_
    · intro se h1 h2
      exact b_PS_parts_6 ⟨fun _ => ⟨rfl, rfl⟩, fun c => absurd ((h.ge (Nat.le_refl _)).mpr rfl) c⟩
    · intro i hi ih se h1 h2
      refine b_PS_parts_6 ⟨fun c => absurd ((h.ge (Nat.le_of_lt hi)).mp c) (by omega), fun _ => ⟨fun z => ?_, fun z => ?_⟩⟩
      · rw [hasI0 (by omega) (by omega), Bool.not_eq_false] at z
        obtain ⟨k, k1, k2⟩ := (h2 i hi).mp z
        rw [cntP, if_neg (fun q => leB_iff.mp q k k1 k2), Nat.add_zero] at ih
        rw [nI_1]
        refine ih se h1 (fun j hj => ?_)
        rw [h2 j hj]
        refine ⟨fun ⟨k', q1, q2⟩ => ⟨k', by omega, q2⟩, fun ⟨k', q1, q2⟩ => ?_⟩
        by_cases e : k' = i
        · subst e; exact ⟨k, k1, k2.tr q2⟩
        · exact ⟨k', by omega, q2⟩
      · rw [hasI0 (by omega) (by omega)] at z
        have hlead : leB S i = true := leB_iff.mpr (fun k hk hc => by
          rw [(h2 i hi).mpr ⟨k, hk, hc⟩] at z; cases z)
        rw [cntP, if_pos hlead] at ih
        refine (s_partOf h hi).to ?_
        rw [io, nI_1, nI_1]
        have hm2 := msk_lt (coB S i) S.length
        refine ih _ (Nat.or_lt_two_pow h1 hm2) (fun j hj => ?_)
        rw [Nat.testBit_or, Bool.or_eq_true, h2 j hj, msk_bit, Bool.and_eq_true, decide_eq_true_iff, coB_iff]
        constructor
        · rintro (⟨k', q1, q2⟩ | ⟨q1, q2⟩)
          · exact ⟨k', by omega, q2⟩
          · exact ⟨i, by omega, q2⟩
        · rintro ⟨k', q1, q2⟩
          by_cases e : k' = i
          · subst e; exact Or.inr ⟨hj, q2⟩
          · exact Or.inl ⟨k', by omega, q2⟩
  have := key 0 (Nat.zero_le _) 0 (Nat.two_pow_pos _) (fun j hj => by simp)
  exact this
end PRT
