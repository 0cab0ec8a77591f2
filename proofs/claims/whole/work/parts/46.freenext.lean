/-! freeNext of both sides -/
/-- the first of those below N with D: fewer points ahead, then the least bits -/
def Fq (D : Nat → Prop) (N b : Nat) : Prop := 1 ≤ b ∧ b < N ∧ D b ∧ ∀ b', 1 ≤ b' → b' < N → D b' → pop b < pop b' ∨ (pop b = pop b' ∧ b ≤ b')
theorem Fq.uniq {D : Nat → Prop} {N b b' : Nat} (h : Fq D N b) (h' : Fq D N b') : b = b' := by
  have h1 := h.2.2.2 b' h'.1 h'.2.1 h'.2.2.1
  have h2 := h'.2.2.2 b h.1 h.2.1 h.2.2.1
  omega
noncomputable def fqI (D : Nat → Prop) (N : Nat) : Int32 := lstI (Fq D N) (-2)
theorem fqI_eq {D : Nat → Prop} {N b : Nat} (h : Fq D N b) : fqI D N = nI b := lstI_eq h (fun b' h' => by rw [h.uniq h']; exact Nat.le_refl _)
theorem fqI_no {D : Nat → Prop} {N : Nat} (h : ∀ b, 1 ≤ b → b < N → ¬ D b) : fqI D N = -2 := lstI_no (fun b hb => h b hb.1 hb.2.1 hb.2.2.1)
/-- with k1 of the sets x is a sunflower -/
def Clo (g : Nat → Nat) (m k1 x : Nat) : Prop := ∃ b c, b < 2 ^ m ∧ pop b = k1 ∧ Cl g c b ∧ ∀ i, b.testBit i = true → g i &&& x = c
noncomputable def aFreeNext (n : Nat) (S : List Nat) (a : Int32) : Int32 := ifP (2 ≤ a ∧ a ≤ 16) (ifP (∃ b, Fl (fun i => S.getD i 0) S.length a.toNatClampNeg b) (-2) (fqI (fun x => x ∉ S ∧ ¬ Clo (fun i => S.getD i 0) S.length (a.toNatClampNeg - 1) x) (2 ^ n))) (-1)
theorem Clo.one {g : Nat → Nat} {m x : Nat} (hm : m ≤ 17) : Clo g m 1 x ↔ 0 < m := by
  constructor
  · rintro ⟨b, c, h1, h2, -⟩
    rcases Nat.eq_zero_or_pos m with z | z
    · subst z
      rw [Nat.pow_zero] at h1
      rw [show b = 0 by omega, pop_zero] at h2
      omega
    · exact z
  · intro h
    refine ⟨1, g 0 &&& x, Nat.lt_of_lt_of_le (by decide) (Nat.pow_le_pow_right (n := 2) (i := 1) (by decide) h), by decide, fun i j hij hi => ?_, fun i hi => ?_⟩
    · have := bit_lt (b := 1) (m := 1) (by decide) hi
      omega
    · have := bit_lt (b := 1) (m := 1) (by decide) hi
      rw [show i = 0 by omega]
theorem Clo.top {g : Nat → Nat} {m k i x e : Nat} (hm : m ≤ 17) (hi : i < m) (he : e < 2 ^ i) : ((∃ c, pop (e + 2 ^ i) = k + 1 ∧ Cl g c (e + 2 ^ i) ∧ ∀ j, (e + 2 ^ i).testBit j = true → g j &&& x = c) ↔ Cq g (msk (fun j => (2 ^ i - 1).testBit j && (decide (g j &&& x = x &&& g i) && decide (g j &&& g i = x &&& g i))) m) (x &&& g i) k e) := by
  constructor
  · rintro ⟨c, h2, h3, h4⟩
    obtain ⟨h5, h6⟩ := (Cl.top he).mp h3
    have hc : x &&& g i = c := by rw [Nat.and_comm]; exact h4 i (top_at he)
    rw [hc]
    refine ⟨fun j hj => ?_, by rw [pop_top he (by omega)] at h2; omega, h5⟩
    have lj := bit_lt he hj
    have e1 : g j &&& x = c := h4 j (by rw [top_lo he lj]; exact hj)
    have e2 : g j &&& g i = c := by rw [Nat.and_comm]; exact h6 j hj
    rw [msk_bit, Nat.testBit_two_pow_sub_one]
    simp [e1, e2, lj, show j < m by omega]
  · rintro ⟨h1, h2, h3⟩
    have h5 : ∀ j, e.testBit j = true → g j &&& x = x &&& g i ∧ g i &&& g j = x &&& g i := by
      intro j hj
      have := h1 j hj
      rw [msk_bit] at this
      simp only [Bool.and_eq_true, decide_eq_true_iff] at this
      exact ⟨this.2.2.1, by rw [Nat.and_comm]; exact this.2.2.2⟩
    refine ⟨x &&& g i, by rw [pop_top he (by omega), h2], (Cl.top he).mpr ⟨h3, fun j hj => (h5 j hj).2⟩, fun j hj => ?_⟩
    have lj := bit_lt (top_lt he) hj
    rcases Nat.lt_or_ge j i with q | q
    · rw [top_lo he q] at hj
      exact (h5 j hj).1
    · rw [show j = i by omega, Nat.and_comm]
section FNX
variable {d n : Nat} {S : List Nat} {mem : Mem}
theorem s_closesFlower {x k : Nat} (h : Fam mem 1 n S) (hx : x < 1024) (hk2 : 2 ≤ k) (hk : k ≤ 16) : CI shX m_Petals_closesFlower (d + 21) [.ref 1, .int (nI x), .int (nI k)] mem (fun r m' => ((Clo (fun i => S.getD i 0) S.length (k - 1) x ∧ r = 1) ∨ (¬ Clo (fun i => S.getD i 0) S.length (k - 1) x ∧ r = 0)) ∧ m' = mem) := by
  have hl := h.2.2.1
  have hp := pow17 hl
  refine e_Petals_closesFlower isF_1 ⟨fun z => ?_, fun z => ?_⟩
  · have hk3 : k ≠ 2 := fun e => z (by rw [e]; rfl)
    obtain ⟨k', rfl⟩ : ∃ k', k = k' + 2 := ⟨k - 2, by omega⟩
    have e0 : nI (k' + 2) - 2 = nI k' := pk_sub (a := k' + 2) (b := 2) (by omega)
    rw [e0, show k' + 2 - 1 = k' + 1 by omega]
    have key : ∀ i, i ≤ max S.length k' → k' ≤ i → (∀ b, b < 2 ^ i → b < 2 ^ S.length → ¬ ∃ c, pop b = k' + 1 ∧ Cl (fun i => S.getD i 0) c b ∧ ∀ j, b.testBit j = true → S.getD j 0 &&& x = c) → Wp shX m_Petals_closesFlower (d + 21) 22 [some (.ref 1), some (.int (nI x)), some (.int (nI (k' + 2))), some (.int (nI i)), none] [] mem (QI (fun r m' => ((Clo (fun i => S.getD i 0) S.length (k' + 1) x ∧ r = 1) ∨ (¬ Clo (fun i => S.getD i 0) S.length (k' + 1) x ∧ r = 0)) ∧ m' = mem)) := by
      refine downInd (P := fun i => k' ≤ i → (∀ b, b < 2 ^ i → b < 2 ^ S.length → ¬ ∃ c, pop b = k' + 1 ∧ Cl (fun i => S.getD i 0) c b ∧ ∀ j, b.testBit j = true → S.getD j 0 &&& x = c) → Wp shX m_Petals_closesFlower (d + 21) 22 [some (.ref 1), some (.int (nI x)), some (.int (nI (k' + 2))), some (.int (nI i)), none] [] mem (QI (fun r m' => ((Clo (fun i => S.getD i 0) S.length (k' + 1) x ∧ r = 1) ∨ (¬ Clo (fun i => S.getD i 0) S.length (k' + 1) x ∧ r = 0)) ∧ m' = mem))) (max S.length k') ?_ ?_
      · intro _ hno
        refine b_Petals_closesFlower_22 isF_1 ⟨fun _ => ⟨Or.inr ⟨?_, rfl⟩, rfl⟩, fun c => absurd (by rw [h.2.1]; exact nI_le (by omega) (by omega)) c⟩
        rintro ⟨b, c, b1, b2, b3, b4⟩
        exact hno b (Nat.lt_of_lt_of_le b1 (Nat.pow_le_pow_right (by decide) (by omega))) b1 ⟨c, b2, b3, b4⟩
      · intro i hi ih hki hno
        by_cases hiL : i < S.length
        · have hg := h.small i
          have h2i : 1 ≤ 2 ^ i := Nat.one_le_two_pow
          have h2i17 : 2 ^ i ≤ 2 ^ S.length := Nat.pow_le_pow_right (by decide) (by omega)
          refine b_Petals_closesFlower_22 isF_1 ⟨fun c => absurd ((h.ge (Nat.le_of_lt hiL)).mp c) (by omega), fun _ => ?_⟩
          have e1 : nI (2 ^ i) - 1 = nI (2 ^ i - 1) := pk_sub h2i
          rw [h.aF hiL, sh1 (by omega), e1]
          refine (s_fitting isF_1 h (by omega) (by omega) (by omega)).to ?_
          rw [h.aF hiL, ia, e0]
          have hr := msk_lt (fun j => (2 ^ i - 1).testBit j && (decide (S.getD j 0 &&& x = x &&& S.getD i 0) && decide (S.getD j 0 &&& S.getD i 0 = x &&& S.getD i 0))) S.length
          refine (s_leastClique k' (d + 19) _ _ (by omega) isF_1 h hr (Nat.lt_of_le_of_lt Nat.and_le_left (by omega)) (by omega)).mono ?_
          rintro v m' ⟨hv, rfl⟩
          rcases hv with ⟨e, y1, y2, y3⟩ | ⟨y1, y2⟩
          · have le : e < 2 ^ i := by
              refine sub_le (s := 2 ^ i - 1) (fun j hj => ?_) (by omega)
              have := y1.1 j hj
              rw [msk_bit] at this
              simp only [Bool.and_eq_true] at this
              exact this.2.1
            refine ⟨fun z3 => absurd (y3.symm.trans z3) (nI_m1 (by omega)), fun _ => ⟨Or.inl ⟨?_, rfl⟩, rfl⟩⟩
            obtain ⟨c, c1, c2, c3⟩ := (Clo.top (g := fun i => S.getD i 0) hl hiL le).mpr y1
            exact ⟨e + 2 ^ i, c, Nat.lt_of_lt_of_le (top_lt le) (Nat.pow_le_pow_right (by decide) hiL), c1, c2, c3⟩
          · refine ⟨fun _ => ?_, fun z3 => absurd y2 z3⟩
            rw [nI_1]
            refine ih (by omega) (fun b hb hbm => ?_)
            rcases Nat.lt_or_ge b (2 ^ i) with q | q
            · exact hno b q hbm
            · obtain ⟨e, he, rfl⟩ := top_of q hb
              exact fun hq => y1 e ((Clo.top (g := fun i => S.getD i 0) hl hiL he).mp hq)
        · omega
    refine key k' (by omega) (Nat.le_refl _) (fun b hb _ => ?_)
    rintro ⟨c, c1, -⟩
    have := pop_lt (b := b) (w := k') (by omega) hb
    omega
  · have hk3 : k = 2 := (nI_inj (by omega) (b := 2) (by decide)).mp z
    subst hk3
    rw [h.2.1]
    have e := Clo.one (g := fun i => S.getD i 0) (m := S.length) (x := x) hl
    refine ⟨fun z2 => ⟨Or.inr ⟨fun q => ?_, rfl⟩, rfl⟩, fun z2 => ⟨Or.inl ⟨e.mpr ?_, rfl⟩, rfl⟩⟩
    · have := e.mp q
      exact nI_nle this (by omega) z2
    · rcases Nat.eq_zero_or_pos S.length with y | y
      · exact absurd (by rw [y, nI_0]; decide) z2
      · exact y
theorem x_freeNext {a : Int32} (h : Fam mem 1 n S) : CI shX m_PS_freeNext (d + 22) [.ref 0, .int a] mem (fun r m' => r = aFreeNext n S a ∧ m' = mem) := by
  have hl := h.2.2.1
  have hn := h.2.2.2.1
  have hp := pow17 hl
  have hpn : 2 ^ n ≤ 2 ^ 10 := Nat.pow_le_pow_right (by decide) hn
  have h1n : 1 ≤ 2 ^ n := Nat.one_le_two_pow
  refine e_PS_freeNext ⟨fun c => ?_, fun c => ⟨by rw [aFreeNext, ifP_f c], rfl⟩⟩
  rw [aFreeNext, ifP_t c]
  obtain ⟨k, hk2, hk, rfl⟩ := of_2_16 c
  rw [nI_clamp (by omega)]
  refine (s_leastFlower isF_1 h hk2 (by omega)).mono ?_
  rintro v m' ⟨hv, rfl⟩
  rcases hv with ⟨b, y1, y2, y3⟩ | ⟨y1, y2⟩
  · have := y1.1
    exact ⟨fun z => absurd (y3.symm.trans z) (nI_m1 (by omega)), fun _ => ⟨by rw [ifP_t ⟨b, y1⟩], rfl⟩⟩
  · refine ⟨fun _ => ?_, fun z => absurd y2 z⟩
    rw [ifP_f (fun ⟨b, hb⟩ => y1 b hb)]
    have key : ∀ i, i ≤ 2 ^ n → 1 ≤ i → ∀ x3 x4 : Int32, ((x3 = -2 ∧ x4 = 11 ∧ ∀ b', 1 ≤ b' → b' < i → ¬ (b' ∉ S ∧ ¬ Clo (fun i => S.getD i 0) S.length (k - 1) b')) ∨ (∃ b, x3 = nI b ∧ x4 = nI (pop b) ∧ Fq (fun x => x ∉ S ∧ ¬ Clo (fun i => S.getD i 0) S.length (k - 1) x) i b)) → Wp shX m_PS_freeNext (d + 22) 33 [some (.ref 0), some (.int (nI k)), some (.int x3), some (.int x4), some (.int (nI i)), none] [] m' (QI (fun r m2 => r = fqI (fun x => x ∉ S ∧ ¬ Clo (fun i => S.getD i 0) S.length (k - 1) x) (2 ^ n) ∧ m2 = m')) := by
      refine downInd (P := fun i => 1 ≤ i → ∀ x3 x4 : Int32, ((x3 = -2 ∧ x4 = 11 ∧ ∀ b', 1 ≤ b' → b' < i → ¬ (b' ∉ S ∧ ¬ Clo (fun i => S.getD i 0) S.length (k - 1) b')) ∨ (∃ b, x3 = nI b ∧ x4 = nI (pop b) ∧ Fq (fun x => x ∉ S ∧ ¬ Clo (fun i => S.getD i 0) S.length (k - 1) x) i b)) → Wp shX m_PS_freeNext (d + 22) 33 [some (.ref 0), some (.int (nI k)), some (.int x3), some (.int x4), some (.int (nI i)), none] [] m' (QI (fun r m2 => r = fqI (fun x => x ∉ S ∧ ¬ Clo (fun i => S.getD i 0) S.length (k - 1) x) (2 ^ n) ∧ m2 = m'))) (2 ^ n) ?_ ?_
      · intro _ x3 x4 hI
        refine b_PS_freeNext_33 ⟨fun _ => ⟨?_, rfl⟩, fun c => absurd (by rw [h.1, al (by omega)]; exact nI_lt (by omega) (by omega)) c⟩
        rcases hI with ⟨e1, e2, e3⟩ | ⟨b, e1, e2, e3⟩
        · rw [fqI_no e3, e1]
        · rw [fqI_eq e3, e1]
      · intro i hi ih hi1 x3 x4 hI
        have hpi : pop i ≤ 10 := pop_lt (by decide) (by omega)
        have hskip : (¬ (i ∉ S ∧ ¬ Clo (fun i => S.getD i 0) S.length (k - 1) i) ∨ (∃ b, x3 = nI b ∧ x4 = nI (pop b) ∧ Fq (fun x => x ∉ S ∧ ¬ Clo (fun i => S.getD i 0) S.length (k - 1) x) i b ∧ pop b ≤ pop i)) → Wp shX m_PS_freeNext (d + 22) 33 [some (.ref 0), some (.int (nI k)), some (.int x3), some (.int x4), some (.int (nI i + 1)), none] [] m' (QI (fun r m2 => r = fqI (fun x => x ∉ S ∧ ¬ Clo (fun i => S.getD i 0) S.length (k - 1) x) (2 ^ n) ∧ m2 = m')) := by
          intro hq'
          rw [nI_1]
          refine ih (by omega) x3 x4 ?_
          rcases hI with ⟨e1, e2, e3⟩ | ⟨b, e1, e2, e3⟩
          · rcases hq' with y | ⟨b, y1, y2, y3, y4⟩
            · refine Or.inl ⟨e1, e2, fun b' z1 z2 => ?_⟩
              by_cases e : b' = i
              · subst e; exact y
              · exact e3 b' z1 (by omega)
            · exact absurd (y1.symm.trans e1) (nI_m2 (by have := y3.2.1; omega))
          · refine Or.inr ⟨b, e1, e2, e3.1, by have := e3.2.1; omega, e3.2.2.1, fun b' z1 z2 z3 => ?_⟩
            by_cases e : b' = i
            · subst e
              rcases hq' with y | ⟨b2, y1, y2, y3, y4⟩
              · exact absurd z3 y
              · have := e3.2.1
                have l2 := pop_le b
                have l3 := pop_le b2
                rw [e2, nI_inj (by omega) (by omega)] at y2
                omega
            · exact e3.2.2.2 b' z1 (by omega) z3
        refine b_PS_freeNext_33 ⟨fun c => absurd c (by rw [h.1, al (by omega), nI_ltI (by omega) (by omega)]; omega), fun _ => ?_⟩
        rw [bc (by omega)]
        refine ⟨fun z => ?_, fun z => ?_⟩
        · refine hskip (Or.inr ?_)
          rcases hI with ⟨e1, e2, e3⟩ | ⟨b, e1, e2, e3⟩
          · rw [e2, show (11 : Int32) = nI 11 from rfl, nI_leI (by omega) (by omega)] at z
            omega
          · have l2 := pop_le b
            rw [e2, nI_leI (by omega) (by omega)] at z
            exact ⟨b, e1, e2, e3, z⟩
        · refine (s_find isF_1 h (by omega)).mono ?_
          rintro r m2 ⟨hr, rfl⟩
          refine ⟨fun z2 => hskip (Or.inl (fun q => z2 (hr.mpr q.1))), fun z2 => ?_⟩
          refine (s_closesFlower h (by omega) hk2 hk).mono ?_
          rintro r2 m3 ⟨hr2, rfl⟩
          rcases hr2 with ⟨w1, w2⟩ | ⟨w1, w2⟩
          · exact ⟨fun _ => hskip (Or.inl (fun q => q.2 w1)), fun z3 => absurd (w2.symm.trans z3) (by decide)⟩
          · refine ⟨fun z3 => absurd w2 z3, fun _ => ?_⟩
            rw [nI_1]
            refine ih (by omega) _ _ (Or.inr ⟨i, rfl, rfl, hi1, by omega, ⟨hr.mp z2, w1⟩, fun b' l1 l2 l3 => ?_⟩)
            by_cases e : b' = i
            · subst e; exact Or.inr ⟨rfl, Nat.le_refl _⟩
            · left
              rcases hI with ⟨e1, e2, e3⟩ | ⟨b, e1, e2, e3⟩
              · exact absurd l3 (e3 b' l1 (by omega))
              · have l2 := pop_le b
                rw [e2, nI_leI (by omega) (by omega)] at z
                have := e3.2.2.2 b' l1 (by omega) l3
                omega
    exact key 1 h1n (Nat.le_refl _) _ _ (Or.inl ⟨rfl, rfl, fun b' z1 z2 => by omega⟩)
end FNX
