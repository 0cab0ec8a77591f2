/-! the reference's row of sets: ones, coreOf, firstOf, greatestMany -/
theorem popT_drop : ∀ (w v : Nat), v < 2 ^ w → v ≠ 0 → popT w (v &&& (v - 1)) + 1 = popT w v
  | 0, v, h, h0 => by rw [Nat.pow_zero] at h; omega
  | w + 1, v, h, h0 => by
    rw [popT_half, popT_half]
    have hd : (v &&& (v - 1)) / 2 = v / 2 &&& (v - 1) / 2 := Nat.and_div_two
    rw [hd]
    have hm : (v &&& (v - 1)) % 2 = 0 := by
      rcases Nat.mod_two_eq_zero_or_one (v &&& (v - 1)) with e | e
      · exact e
      · exfalso
        have ht : (v &&& (v - 1)).testBit 0 = true := by rw [Nat.testBit_zero, e]; rfl
        rw [Nat.testBit_and, Nat.testBit_zero, Nat.testBit_zero, Bool.and_eq_true, decide_eq_true_iff, decide_eq_true_iff] at ht
        omega
    rw [hm]
    rw [Nat.pow_succ] at h
    rcases Nat.mod_two_eq_zero_or_one v with e | e
    · have h1 := popT_drop w (v / 2) (by omega) (by omega)
      rw [show (v - 1) / 2 = v / 2 - 1 by omega, e]
      omega
    · rw [show (v - 1) / 2 = v / 2 by omega, Nat.and_self, e]
      omega
theorem pop_drop {v : Nat} (h : v < 2 ^ 20) (h0 : v ≠ 0) : pop (v &&& (v - 1)) + 1 = pop v := popT_drop 20 v h h0
section MRW
variable {d : Nat} {S : List Nat} {mem : Mem}
theorem s_ones {a : Nat} (h : a < 2 ^ 20) : CI shM m_Mo_ones d [.int (nI a)] mem (fun r m' => r = nI (pop a) ∧ m' = mem) := by
  refine e_Mo_ones ?_
  have main : ∀ k v t, pop v = k → v < 2 ^ 20 → t + pop v = pop a → Wp shM m_Mo_ones d 4 [none, some (.int (nI t)), some (.int (nI v))] [] mem (QI (fun r m' => r = nI (pop a) ∧ m' = mem)) := by
    intro k
    induction k with
    | zero =>
      intro v t hk hv ht
      refine b_Mo_ones_4 ⟨fun _ => ⟨by rw [← ht, hk]; rfl, rfl⟩, fun z => ?_⟩
      rw [nI_z (by omega)] at z
      have := pop_pos hv z
      omega
    | succ k ih =>
      intro v t hk hv ht
      have hv0 : v ≠ 0 := fun e => by rw [e, pop_zero] at hk; omega
      refine b_Mo_ones_4 ⟨fun z => absurd ((nI_z (by omega)).mp z) hv0, fun _ => ?_⟩
      rw [nI_1, show (1 : Int32) = nI 1 from rfl, pk_sub (by omega), ia]
      have hp := pop_drop hv hv0
      exact ih (v &&& (v - 1)) (t + 1) (by omega) (Nat.lt_of_le_of_lt Nat.and_le_left hv) (by omega)
  exact main (pop a) a 0 rfl h (Nat.zero_add _)
/-- the row holds these sets -/
def Rw (mem : Mem) (S : List Nat) : Prop := mem 0 8 = nI S.length ∧ S.length ≤ 17 ∧ (∀ i, i < S.length → mem 5 i = nI (S.getD i 0)) ∧ ∀ i, S.getD i 0 < 1024
theorem Rw.row {i : Nat} (h : Rw mem S) (hi : i < S.length) : mem 5 (nI i).toNatClampNeg = nI (S.getD i 0) := by
  have := h.2.1
  rw [nI_clamp (by omega)]
  exact h.2.2.1 i hi
theorem Rw.of {m' : Mem} (h : Rw mem S) (h1 : m' 0 8 = mem 0 8) (h2 : m' 5 = mem 5) : Rw m' S := ⟨by rw [h1]; exact h.1, h.2.1, fun i hi => by rw [h2]; exact h.2.2.1 i hi, h.2.2.2⟩
theorem s_McoreOf {b : Nat} (h : Rw mem S) (hb : b < 2 ^ S.length) : CI shM m_Mo_coreOf (d + 1) [.ref 0, .int (nI b)] mem (fun r m' => CoA (fun i => S.getD i 0) b (-1) r ∧ m' = mem) := by
  have hl := h.2.1
  have hb17 : b < 2 ^ 17 := Nat.lt_of_lt_of_le hb (Nat.pow_le_pow_right (by decide) hl)
  let Iv : Int32 → Int32 → Nat → Prop := fun x n k => (n = nI 0 ∧ x = -1 ∧ ∀ e, e < k → b.testBit e = false) ∨ (n = nI 1 ∧ x = -1 ∧ ∃ e, e < k ∧ b.testBit e = true ∧ ∀ e', e' < k → b.testBit e' = true → e' = e) ∨ (∃ t c, 2 ≤ t ∧ t ≤ k ∧ n = nI t ∧ c < 1024 ∧ x = nI c ∧ (∃ a e, e < a ∧ a < k ∧ b.testBit a = true ∧ b.testBit e = true) ∧ ∀ a e, e < a → a < k → b.testBit a = true → b.testBit e = true → S.getD a 0 &&& S.getD e 0 = c)
  have fin : ∀ x n k, b < 2 ^ k → k ≤ 17 → Iv x n k → ((2 : Int32) ≤ n → CoA (fun i => S.getD i 0) b (-1) x) ∧ (¬ (2 : Int32) ≤ n → CoA (fun i => S.getD i 0) b (-1) (-1)) := by
    intro x n k hk hk17 hI
    rcases hI with ⟨h1, h2, h3⟩ | ⟨h1, h2, e, h3, h4, h5⟩ | ⟨t, c, h1, h2, h3, h4, h5, ⟨a, e, y1, y2, y3, y4⟩, h7⟩
    · have hno : ∀ c, ¬ Sn (fun i => S.getD i 0) b c := by
        intro c hc
        obtain ⟨i, j, z1, z2, z3⟩ := hc.1
        have := h3 i (bit_lt hk z2)
        rw [z2] at this; cases this
      exact ⟨fun _ => Or.inr ⟨hno, h2⟩, fun _ => Or.inr ⟨hno, rfl⟩⟩
    · have hno : ∀ c, ¬ Sn (fun i => S.getD i 0) b c := by
        intro c hc
        obtain ⟨i, j, z1, z2, z3⟩ := hc.1
        have a1 := h5 i (bit_lt hk z2) z2
        have a2 := h5 j (bit_lt hk z3) z3
        omega
      exact ⟨fun _ => Or.inr ⟨hno, h2⟩, fun _ => Or.inr ⟨hno, rfl⟩⟩
    · refine ⟨fun _ => Or.inl ⟨c, ⟨⟨a, e, y1, y3, y4⟩, fun i j z1 z2 z3 => h7 i j z1 (bit_lt hk z2) z2 z3⟩, h5⟩, fun z => absurd ?_ z⟩
      rw [h3]
      exact nI_le (a := 2) (b := t) h1 (by omega)
  have skip : ∀ x n k, b.testBit k = false → Iv x n k → Iv x n (k + 1) := by
    intro x n k hk hI
    rcases hI with ⟨h1, h2, h3⟩ | ⟨h1, h2, e, h3, h4, h5⟩ | ⟨t, c, h1, h2, h3, h4, h5, ⟨a, e, y1, y2, y3, y4⟩, h7⟩
    · refine Or.inl ⟨h1, h2, fun e he => ?_⟩
      by_cases q : e = k
      · subst q; exact hk
      · exact h3 e (by omega)
    · refine Or.inr (Or.inl ⟨h1, h2, e, by omega, h4, fun e' q1 q2 => ?_⟩)
      by_cases q : e' = k
      · subst q; rw [hk] at q2; cases q2
      · exact h5 e' (by omega) q2
    · refine Or.inr (Or.inr ⟨t, c, h1, by omega, h3, h4, h5, ⟨a, e, y1, by omega, y3, y4⟩, fun a e q1 q2 q3 q4 => ?_⟩)
      by_cases q : a = k
      · subst q; rw [hk] at q3; cases q3
      · exact h7 a e q1 (by omega) q3 q4
  have main : ∀ k, k ≤ S.length → ∀ x n, Iv x n k → Wp shM m_Mo_coreOf (d + 1) 10 [some (.ref 0), some (.int (nI b)), some (.int x), some (.int (nI (unT (fun i => S.getD i 0) b k))), some (.int n), some (.int (nI k))] [] mem (QI (fun r m' => CoA (fun i => S.getD i 0) b (-1) r ∧ m' = mem)) := by
    refine downInd (P := fun k => ∀ x n, Iv x n k → Wp shM m_Mo_coreOf (d + 1) 10 [some (.ref 0), some (.int (nI b)), some (.int x), some (.int (nI (unT (fun i => S.getD i 0) b k))), some (.int n), some (.int (nI k))] [] mem (QI (fun r m' => CoA (fun i => S.getD i 0) b (-1) r ∧ m' = mem))) S.length ?_ ?_
    · intro x n hI
      refine b_Mo_coreOf_10 ⟨fun z => ⟨fun z2 => ⟨(fin x n _ hb hl hI).1 z2, rfl⟩, fun z2 => ⟨(fin x n _ hb hl hI).2 z2, rfl⟩⟩, fun z => absurd ?_ z⟩
      rw [shr (by omega) (by omega), (Nat.div_eq_zero_iff_lt (Nat.two_pow_pos _)).mpr hb]
      rfl
    · intro k hk ih x n hI
      have hgk := h.2.2.2 k
      refine b_Mo_coreOf_10 ⟨fun z => ?_, fun z => ⟨fun z2 => ?_, fun z2 => ?_⟩⟩
      · rw [shr (by omega) (by omega), nI_z (Nat.lt_of_le_of_lt (Nat.div_le_self _ _) (by omega))] at z
        have hbk : b < 2 ^ k := (Nat.div_eq_zero_iff_lt (Nat.two_pow_pos k)).mp z
        exact ⟨fun z2 => ⟨(fin x n k hbk (by omega) hI).1 z2, rfl⟩, fun z2 => ⟨(fin x n k hbk (by omega) hI).2 z2, rfl⟩⟩
      · rw [hasI (by omega) (by omega)] at z2
        have hvin : vp_in (nI k) 17 := vp_in_nI (by omega) (by decide)
        have hun : nI (unT (fun i => S.getD i 0) b k) ||| mem 5 (nI k).toNatClampNeg = nI (unT (fun i => S.getD i 0) b (k + 1)) := by
          rw [h.row hk, io, unT, if_pos z2]
        rcases hI with ⟨h1, h2, h3⟩ | ⟨h1, h2, e, h3, h4, h5⟩ | ⟨t, c, h1, h2, h3, h4, h5, ⟨a, e, y1, y2, y3, y4⟩, h7⟩
        · subst h1; subst h2
          refine ⟨fun _ => ?_, fun z3 => absurd z3 (by decide)⟩
          refine b_Mo_coreOf_48 ⟨fun _ => ⟨hvin, ?_⟩, fun z4 => absurd z4 (by decide)⟩
          rw [hun, nI_1, nI_1]
          refine ih _ _ (Or.inr (Or.inl ⟨rfl, rfl, k, by omega, z2, fun e' q1 q2 => ?_⟩))
          by_cases q : e' = k
          · exact q
          · rw [h3 e' (by omega)] at q2; cases q2
        · subst h1; subst h2
          refine ⟨fun z3 => absurd (by decide) z3, fun _ => ⟨hvin, ?_⟩⟩
          refine b_Mo_coreOf_48 ⟨fun _ => ⟨hvin, ?_⟩, fun z4 => absurd z4 (by decide)⟩
          rw [hun, nI_1, nI_1, h.row hk, ia]
          have hue : unT (fun i => S.getD i 0) b k = S.getD e 0 := by
            apply Nat.eq_of_testBit_eq
            intro j
            have := unT_bit (fun i => S.getD i 0) b j k
            cases q : (S.getD e 0).testBit j with
            | true => exact this.mpr ⟨e, h3, h4, q⟩
            | false =>
              cases q2 : (unT (fun i => S.getD i 0) b k).testBit j with
              | false => rfl
              | true =>
                obtain ⟨e2, w1, w2, w3⟩ := this.mp q2
                rw [h5 e2 w1 w2, q] at w3; cases w3
          rw [hue]
          refine ih _ _ (Or.inr (Or.inr ⟨2, _, Nat.le_refl _, by omega, rfl, Nat.lt_of_le_of_lt Nat.and_le_right hgk, rfl, ⟨k, e, h3, by omega, z2, h4⟩, fun a' e' q1 q2 q3 q4 => ?_⟩))
          by_cases q : a' = k
          · subst q
            rw [h5 e' q1 q4, Nat.and_comm]
          · have a1 := h5 a' (by omega) q3
            have a2 := h5 e' (by omega) q4
            omega
        · subst h3; subst h5
          have ht2 : ¬ nI t + 1 = 2 := by
            rw [nI_1, show (2 : Int32) = nI 2 from rfl, nI_inj (by omega) (by omega)]; omega
          refine ⟨fun _ => ?_, fun z3 => absurd z3 ht2⟩
          have hcsub : ∀ e', e' < k → b.testBit e' = true → ∀ j, c.testBit j = true → (S.getD e' 0).testBit j = true := by
            intro e' q1 q2 j hj
            by_cases q : e' = a
            · subst q
              rw [← h7 e' e y1 q1 y3 y4, Nat.testBit_and, Bool.and_eq_true] at hj
              exact hj.1
            · rcases Nat.lt_or_ge e' a with q5 | q5
              · rw [← h7 a e' q5 y2 y3 q2, Nat.testBit_and, Bool.and_eq_true] at hj
                exact hj.2
              · rw [← h7 e' a (by omega) q1 q2 y3, Nat.testBit_and, Bool.and_eq_true] at hj
                exact hj.1
          refine b_Mo_coreOf_48 ⟨fun z4 => absurd z4 ?_, fun _ => ⟨hvin, fun z4 => ⟨hvin, ?_⟩, fun z4 => ⟨?_, rfl⟩⟩⟩
          · rw [nI_1, show (2 : Int32) = nI 2 from rfl, nI_leI (by omega) (by omega)]; omega
          · rw [h.row hk, ia, nI_inj (Nat.lt_of_le_of_lt Nat.and_le_left (by omega)) (by omega)] at z4
            rw [hun, nI_1, nI_1]
            refine ih _ _ (Or.inr (Or.inr ⟨t + 1, c, by omega, by omega, rfl, h4, rfl, ⟨a, e, y1, by omega, y3, y4⟩, fun a' e' q1 q2 q3 q4 => ?_⟩))
            by_cases q : a' = k
            · subst q
              apply Nat.eq_of_testBit_eq
              intro j
              rw [Nat.testBit_and]
              have hz := congrArg (fun v => v.testBit j) z4
              simp only [Nat.testBit_and] at hz
              cases w : c.testBit j with
              | true =>
                rw [w, Bool.and_eq_true] at hz
                rw [hz.1, hcsub e' q1 q4 j w]; rfl
              | false =>
                rw [w] at hz
                cases w2 : (S.getD e' 0).testBit j with
                | false => simp
                | true =>
                  have := (unT_bit (fun i => S.getD i 0) b j a').mpr ⟨e', q1, q4, w2⟩
                  rw [this, Bool.and_true] at hz
                  rw [hz]; rfl
            · exact h7 a' e' q1 (by omega) q3 q4
          · rw [h.row hk, ia, nI_inj (Nat.lt_of_le_of_lt Nat.and_le_left (by omega)) (by omega)] at z4
            refine Or.inr ⟨fun c' hc' => z4 ?_, rfl⟩
            have ec : c' = c := by rw [← h7 a e y1 y2 y3 y4]; exact (hc'.2 a e y1 y3 y4).symm
            subst ec
            apply Nat.eq_of_testBit_eq
            intro j
            rw [Nat.testBit_and]
            cases w : c'.testBit j with
            | true =>
              have e1 := hcsub a y2 y3 j w
              have e2 : (unT (fun i => S.getD i 0) b k).testBit j = true := (unT_bit _ b j k).mpr ⟨a, y2, y3, e1⟩
              have e3 := hc'.2 k a y2 z2 y3
              rw [← e3, Nat.testBit_and, Bool.and_eq_true] at w
              rw [w.1, e2]; rfl
            | false =>
              cases w2 : (unT (fun i => S.getD i 0) b k).testBit j with
              | false => simp
              | true =>
                obtain ⟨e2, w3, w4, w5⟩ := (unT_bit _ b j k).mp w2
                have e3 := hc'.2 k e2 w3 z2 w4
                have e4 := congrArg (fun v => v.testBit j) e3
                simp only [Nat.testBit_and] at e4
                rw [w, w5, Bool.and_true] at e4
                rw [e4]; rfl
      · rw [hasI (by omega) (by omega), Bool.not_eq_true] at z2
        rw [nI_1]
        have := ih x n (skip x n k z2 hI)
        rw [unT, if_neg (by rw [z2]; decide)] at this
        exact this
  refine e_Mo_coreOf ?_
  exact main 0 (Nat.zero_le _) (-1) 0 (Or.inl ⟨rfl, rfl, fun e he => absurd he (by omega)⟩)
end MRW
