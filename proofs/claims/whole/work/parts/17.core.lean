/-! cores, greatest sunflowers -/
/-- b names two sets or more that are a sunflower with core c -/
def Sn (g : Nat → Nat) (b c : Nat) : Prop := (∃ i j, j < i ∧ b.testBit i = true ∧ b.testBit j = true) ∧ Cl g c b
theorem Sn.uniq {g : Nat → Nat} {b c c' : Nat} (h : Sn g b c) (h' : Sn g b c') : c = c' := by
  obtain ⟨i, j, h1, h2, h3⟩ := h.1
  rw [← h.2 i j h1 h2 h3, ← h'.2 i j h1 h2 h3]
/-- the answer of coreOf: the core, or none -/
def CoA (g : Nat → Nat) (b : Nat) (no r : Int32) : Prop := (∃ c, Sn g b c ∧ r = nI c) ∨ ((∀ c, ¬ Sn g b c) ∧ r = no)
theorem two_bits {b m : Nat} (hm : m ≤ 20) (hb : b < 2 ^ m) : (∃ i j, j < i ∧ b.testBit i = true ∧ b.testBit j = true) ↔ 2 ≤ pop b := by
  constructor
  · rintro ⟨i, j, h1, h2, h3⟩
    have hi := bit_lt hb h2
    have hb0 : b ≠ 0 := fun e => by rw [e] at h2; simp at h2
    obtain ⟨t, ht, l1, l2⟩ := top_ex m hb hb0
    obtain ⟨e, he, rfl⟩ := top_of l1 l2
    rw [pop_top he (by omega)]
    have he0 : e ≠ 0 := by
      rintro rfl
      have : ∀ x, (0 + 2 ^ t).testBit x = true → x = t := fun x hx => by
        rw [Nat.zero_add, Nat.testBit_two_pow, decide_eq_true_iff] at hx; exact hx.symm
      have a1 := this i h2
      have a2 := this j h3
      omega
    have := pop_pos (Nat.lt_of_lt_of_le he (Nat.pow_le_pow_right (by decide) (by omega))) he0
    omega
  · intro hp
    have hb0 : b ≠ 0 := fun e => by rw [e, pop_zero] at hp; omega
    obtain ⟨t, ht, l1, l2⟩ := top_ex m hb hb0
    obtain ⟨e, he, rfl⟩ := top_of l1 l2
    rw [pop_top he (by omega)] at hp
    have he0 : e ≠ 0 := fun z => by rw [z, pop_zero] at hp; omega
    obtain ⟨t2, ht2, l3, l4⟩ := top_ex t he he0
    obtain ⟨e2, he2, rfl⟩ := top_of l3 l4
    exact ⟨t, t2, ht2, top_at he, by rw [top_lo he ht2]; exact top_at he2⟩
theorem Fl_iff {g : Nat → Nat} {m k b : Nat} (hm : m ≤ 20) (hk : 2 ≤ k) : Fl g m k b ↔ b < 2 ^ m ∧ pop b = k ∧ ∃ c, Sn g b c := by
  constructor
  · rintro ⟨h1, h2, c, h3⟩
    exact ⟨h1, h2, c, (two_bits hm h1).mpr (by omega), h3⟩
  · rintro ⟨h1, h2, c, h3⟩
    exact ⟨h1, h2, c, h3.2⟩
section COR
variable {d f n : Nat} {S : List Nat} {mem : Mem}
theorem s_coreOf {b : Nat} (hf : IsF f) (h : Fam mem f n S) (hb : b < 2 ^ S.length) : CI shX m_Petals_coreOf (d + 1) [.ref f, .int (nI b)] mem (fun r m' => CoA (fun i => S.getD i 0) b (-2) r ∧ m' = mem) := by
  have hl := h.2.2.1
  have hb17 : b < 2 ^ 17 := Nat.lt_of_lt_of_le hb (Nat.pow_le_pow_right (by decide) hl)
  let Pr : Nat → Nat → Nat → Nat → Prop := fun i j a e => e < a ∧ (a < i ∨ (a = i ∧ e < j)) ∧ b.testBit a = true ∧ b.testBit e = true
  let Iv : Int32 → Nat → Nat → Prop := fun x i j => (x = -2 ∧ ∀ a e, ¬ Pr i j a e) ∨ (∃ c, c < 1024 ∧ x = nI c ∧ (∃ a e, Pr i j a e) ∧ ∀ a e, Pr i j a e → S.getD a 0 &&& S.getD e 0 = c)
  have hcong : ∀ {x : Int32} {i j i' j' : Nat}, Iv x i j → (∀ a e, Pr i j a e ↔ Pr i' j' a e) → Iv x i' j' := by
    intro x i j i' j' hI he
    rcases hI with ⟨h1, h2⟩ | ⟨c, h0, h1, ⟨a, e, h2⟩, h3⟩
    · exact Or.inl ⟨h1, fun a e z => h2 a e ((he a e).mpr z)⟩
    · exact Or.inr ⟨c, h0, h1, ⟨a, e, (he a e).mp h2⟩, fun a e z => h3 a e ((he a e).mpr z)⟩
  have main : ∀ i, i ≤ S.length → ∀ x, Iv x i 0 → Wp shX m_Petals_coreOf (d + 1) 5 [some (.ref f), some (.int (nI b)), some (.int x), some (.int (nI i)), none, none] [] mem (QI (fun r m' => CoA (fun i => S.getD i 0) b (-2) r ∧ m' = mem)) := by
    refine downInd (P := fun i => ∀ x, Iv x i 0 → Wp shX m_Petals_coreOf (d + 1) 5 [some (.ref f), some (.int (nI b)), some (.int x), some (.int (nI i)), none, none] [] mem (QI (fun r m' => CoA (fun i => S.getD i 0) b (-2) r ∧ m' = mem))) S.length ?_ ?_
    · intro x hI
      refine b_Petals_coreOf_5 hf ⟨fun _ => ⟨?_, rfl⟩, fun c => absurd ((h.ge (Nat.le_refl _)).mpr rfl) c⟩
      have all : ∀ a e, (e < a ∧ b.testBit a = true ∧ b.testBit e = true) → Pr S.length 0 a e := fun a e z => ⟨z.1, Or.inl (bit_lt hb z.2.1), z.2⟩
      rcases hI with ⟨h1, h2⟩ | ⟨c, h0, h1, ⟨a, e, h2⟩, h3⟩
      · refine Or.inr ⟨fun c hc => ?_, h1⟩
        obtain ⟨i, j, z1, z2, z3⟩ := hc.1
        exact h2 i j (all i j ⟨z1, z2, z3⟩)
      · exact Or.inl ⟨c, ⟨⟨a, e, h2.1, h2.2.2.1, h2.2.2.2⟩, fun i j z1 z2 z3 => h3 i j (all i j ⟨z1, z2, z3⟩)⟩, h1⟩
    · intro i hi ihl x hI
      refine b_Petals_coreOf_5 hf ⟨fun c => absurd ((h.ge (Nat.le_of_lt hi)).mp c) (by omega), fun _ => ?_⟩
      have inner : ∀ j, j ≤ i → ∀ x, Iv x i j → Wp shX m_Petals_coreOf (d + 1) 16 [some (.ref f), some (.int (nI b)), some (.int x), some (.int (nI i)), some (.int (nI j)), none] [] mem (QI (fun r m' => CoA (fun i => S.getD i 0) b (-2) r ∧ m' = mem)) := by
        refine downInd (P := fun j => ∀ x, Iv x i j → Wp shX m_Petals_coreOf (d + 1) 16 [some (.ref f), some (.int (nI b)), some (.int x), some (.int (nI i)), some (.int (nI j)), none] [] mem (QI (fun r m' => CoA (fun i => S.getD i 0) b (-2) r ∧ m' = mem))) i ?_ ?_
        · intro x hI
          refine b_Petals_coreOf_16 hf ⟨fun _ => ?_, fun c => absurd (nI_le (Nat.le_refl i) (by omega)) c⟩
          rw [nI_1]
          refine ihl x (hcong hI (fun a e => ?_))
          constructor
          · rintro ⟨z1, z2, z3⟩
            exact ⟨z1, Or.inl (by omega), z3⟩
          · rintro ⟨z1, z2, z3⟩
            exact ⟨z1, by omega, z3⟩
        · intro j hj ihj x hI
          have hgi := h.small i
          have hgj := h.small j
          have hc : S.getD i 0 &&& S.getD j 0 < 1024 := Nat.lt_of_le_of_lt Nat.and_le_left hgi
          have skip : (b.testBit i = false ∨ b.testBit j = false) → ∀ a e, Pr i j a e ↔ Pr i (j + 1) a e := by
            intro hz a e
            constructor
            · rintro ⟨z1, z2, z3⟩
              exact ⟨z1, by omega, z3⟩
            · rintro ⟨z1, z2, z3, z4⟩
              refine ⟨z1, ?_, z3, z4⟩
              rcases z2 with q | ⟨q1, q2⟩
              · exact Or.inl q
              · refine Or.inr ⟨q1, ?_⟩
                by_cases e1 : e = j
                · subst e1; subst q1
                  rcases hz with y | y
                  · rw [y] at z3; cases z3
                  · rw [y] at z4; cases z4
                · omega
          have more : b.testBit i = true → b.testBit j = true → ∀ a e, Pr i (j + 1) a e ↔ (Pr i j a e ∨ (a = i ∧ e = j)) := by
            intro y1 y2 a e
            constructor
            · rintro ⟨z1, z2, z3⟩
              by_cases e1 : a = i ∧ e = j
              · exact Or.inr e1
              · exact Or.inl ⟨z1, by omega, z3⟩
            · rintro (⟨z1, z2, z3⟩ | ⟨rfl, rfl⟩)
              · exact ⟨z1, by omega, z3⟩
              · exact ⟨hj, Or.inr ⟨rfl, by omega⟩, y1, y2⟩
          refine b_Petals_coreOf_16 hf ⟨fun c => absurd c (by rw [nI_leI (by omega) (by omega)]; omega), fun _ => ⟨fun z => ?_, fun z => ⟨fun z2 => ?_, fun z2 => ⟨fun z3 => ?_, fun z3 => ⟨fun z4 => ?_, fun z4 => ⟨?_, rfl⟩⟩⟩⟩⟩⟩
          · rw [hasI0 (by omega) (by omega)] at z
            rw [nI_1]
            exact ihj x (hcong hI (skip (Or.inl z)))
          · rw [hasI0 (by omega) (by omega)] at z2
            rw [nI_1]
            exact ihj x (hcong hI (skip (Or.inr z2)))
          · rw [hasI0 (by omega) (by omega), Bool.not_eq_false] at z z2
            rw [nI_1, h.aF hi, h.aF (Nat.lt_trans hj hi), ia]
            refine ihj _ (Or.inr ⟨_, hc, rfl, ⟨i, j, (more z z2 i j).mpr (Or.inr ⟨rfl, rfl⟩)⟩, fun a e q => ?_⟩)
            rcases (more z z2 a e).mp q with q | ⟨rfl, rfl⟩
            · rcases hI with ⟨h1, h2⟩ | ⟨c, h0, h1, -, -⟩
              · exact absurd q (h2 a e)
              · exfalso
                rw [h1] at z3
                exact nI_pos (n := c) (by omega) (by rw [z3]; decide)
            · rfl
          · rw [hasI0 (by omega) (by omega), Bool.not_eq_false] at z z2
            rw [h.aF hi, h.aF (Nat.lt_trans hj hi), ia] at z4 ⊢
            rw [nI_1]
            refine ihj _ (Or.inr ⟨_, hc, rfl, ⟨i, j, (more z z2 i j).mpr (Or.inr ⟨rfl, rfl⟩)⟩, fun a e q => ?_⟩)
            rcases (more z z2 a e).mp q with q | ⟨rfl, rfl⟩
            · rcases hI with ⟨h1, h2⟩ | ⟨c, h0, h1, -, h3⟩
              · exact absurd q (h2 a e)
              · rw [h1, nI_inj (by omega) (by omega)] at z4
                rw [h3 a e q, z4]
            · rfl
          · rw [hasI0 (by omega) (by omega), Bool.not_eq_false] at z z2
            rw [h.aF hi, h.aF (Nat.lt_trans hj hi), ia] at z4
            refine Or.inr ⟨fun c' hc' => ?_, rfl⟩
            rcases hI with ⟨h1, h2⟩ | ⟨c, h0, h1, ⟨a, e, h2⟩, h3⟩
            · exact z3 h1
            · have e1 := hc'.2 i j hj z z2
              have e2 := hc'.2 a e h2.1 h2.2.2.1 h2.2.2.2
              rw [h3 a e h2] at e2
              exact z4 (by rw [h1, e2, ← e1])
      exact inner 0 (Nat.zero_le _) x hI
  refine e_Petals_coreOf hf ?_
  rcases Nat.eq_zero_or_pos S.length with q | q
  · refine b_Petals_coreOf_5 hf ⟨fun _ => ⟨Or.inr ⟨fun c hc => ?_, rfl⟩, rfl⟩, fun c => absurd (by rw [h.2.1, q]; decide) c⟩
    obtain ⟨i, j, z1, z2, z3⟩ := hc.1
    exact absurd (bit_lt hb z2) (by omega)
  · refine main 1 q (-2) (Or.inl ⟨rfl, fun a e z => ?_⟩)
    obtain ⟨z1, z2, z3⟩ := z
    omega
/-- the greatest sunflower: the most sets, the least bits; -1: there is none -/
def Gst (g : Nat → Nat) (m : Nat) (r : Int32) : Prop := (∃ k b, 2 ≤ k ∧ Fl g m k b ∧ (∀ b', Fl g m k b' → b ≤ b') ∧ (∀ k' b', k < k' → ¬ Fl g m k' b') ∧ r = nI b) ∨ ((∀ k b, 2 ≤ k → ¬ Fl g m k b) ∧ r = -1)
theorem Fl.less {g : Nat → Nat} {m k b : Nat} (hm : m ≤ 20) (h : Fl g m (k + 1) b) : ∃ b', Fl g m k b' := by
  obtain ⟨h1, h2, c, h3⟩ := h
  have hb0 : b ≠ 0 := fun e => by rw [e, pop_zero] at h2; omega
  obtain ⟨t, ht, l1, l2⟩ := top_ex m h1 hb0
  obtain ⟨e, he, rfl⟩ := top_of l1 l2
  rw [pop_top he (by omega)] at h2
  exact ⟨e, by omega, by omega, c, ((Cl.top he).mp h3).1⟩
theorem Fl.none {g : Nat → Nat} {m k : Nat} (hm : m ≤ 20) (h : ∀ b, ¬ Fl g m k b) : ∀ k' b', k ≤ k' → ¬ Fl g m k' b' := by
  intro k' b' hk
  obtain ⟨j, rfl⟩ : ∃ j, k' = k + j := ⟨k' - k, by omega⟩
  clear hk
  induction j generalizing b' with
  | zero => exact h b'
  | succ j ih =>
    intro hb
    obtain ⟨b2, hb2⟩ := Fl.less hm (show Fl g m (k + j + 1) b' from hb)
    exact ih b2 hb2
theorem s_largest (hf : IsF f) (h : Fam mem f n S) : CI shX m_Petals_largest (d + 22) [.ref f] mem (fun r m' => Gst (fun i => S.getD i 0) S.length r ∧ m' = mem) := by
  have hl := h.2.2.1
  refine e_Petals_largest hf ?_
  let Iv : Int32 → Nat → Prop := fun x k => (k = 2 ∧ x = -1) ∨ (3 ≤ k ∧ ∃ b, Fl (fun i => S.getD i 0) S.length (k - 1) b ∧ (∀ b', Fl (fun i => S.getD i 0) S.length (k - 1) b' → b ≤ b') ∧ x = nI b)
  have fin : ∀ x k, Iv x k → (∀ b, ¬ Fl (fun i => S.getD i 0) S.length k b) → Gst (fun i => S.getD i 0) S.length x := by
    intro x k hI hno
    have hno' := Fl.none (by omega) hno
    rcases hI with ⟨rfl, rfl⟩ | ⟨hk, b, h1, h2, rfl⟩
    · exact Or.inr ⟨fun k b hk => hno' k b hk, rfl⟩
    · exact Or.inl ⟨k - 1, b, by omega, h1, h2, fun k' b' hk' => hno' k' b' (by omega), rfl⟩
  have main : ∀ k, k ≤ 18 → 2 ≤ k → ∀ x, Iv x k → Wp shX m_Petals_largest (d + 22) 4 [some (.ref f), some (.int x), some (.int (nI k)), none] [] mem (QI (fun r m' => Gst (fun i => S.getD i 0) S.length r ∧ m' = mem)) := by
    refine downInd (P := fun k => 2 ≤ k → ∀ x, Iv x k → Wp shX m_Petals_largest (d + 22) 4 [some (.ref f), some (.int x), some (.int (nI k)), none] [] mem (QI (fun r m' => Gst (fun i => S.getD i 0) S.length r ∧ m' = mem))) 18 ?_ ?_
    · intro _ x hI
      refine b_Petals_largest_4 hf ⟨fun _ => ⟨fin x 18 hI (fun b hb => ?_), rfl⟩, fun c => absurd (by rw [h.2.1]; exact nI_lt (by omega) (by omega)) c⟩
      have := pop_lt (by omega) hb.1
      have := hb.2.1
      omega
    · intro k hk ih h2 x hI
      refine b_Petals_largest_4 hf ⟨fun c => ⟨fin x k hI (fun b hb => ?_), rfl⟩, fun c => ?_⟩
      · rw [h.2.1, nI_ltI (by omega) (by omega)] at c
        have := pop_lt (by omega) hb.1
        have := hb.2.1
        omega
      · rw [h.2.1, nI_ltI (by omega) (by omega)] at c
        refine (s_leastFlower hf h h2 (by omega)).mono ?_
        rintro v m' ⟨hv, rfl⟩
        refine ⟨fun z => ?_, fun z => ?_⟩
        · rcases hv with ⟨b, y1, y2, y3⟩ | ⟨y1, y2⟩
          · rw [nI_1]
            exact ih (by omega) v (Or.inr ⟨by omega, b, y1, y2, y3⟩)
          · exact absurd y2 z
        · rcases hv with ⟨b, y1, y2, y3⟩ | ⟨y1, y2⟩
          · have hb := y1.1
            have : 2 ^ S.length ≤ 2 ^ 17 := Nat.pow_le_pow_right (by decide) hl
            exact absurd (y3.symm.trans z) (nI_m1 (by omega))
          · exact ⟨fin x k hI y1, rfl⟩
  exact main 2 (by decide) (by decide) (-1) (Or.inl ⟨rfl, rfl⟩)
end COR
