/-! apart of both sides; the greatest with a given core; unionApart -/
/-- b are k sets, each two of which meet in c -/
def FlC (g : Nat → Nat) (m c k b : Nat) : Prop := b < 2 ^ m ∧ pop b = k ∧ Cl g c b
theorem FlC.less {g : Nat → Nat} {m c k b : Nat} (hm : m ≤ 20) (h : FlC g m c (k + 1) b) : ∃ b', FlC g m c k b' := by
  obtain ⟨h1, h2, h3⟩ := h
  have hb0 : b ≠ 0 := fun e => by rw [e, pop_zero] at h2; omega
  obtain ⟨t, ht, l1, l2⟩ := top_ex m h1 hb0
  obtain ⟨e, he, rfl⟩ := top_of l1 l2
  rw [pop_top he (by omega)] at h2
  exact ⟨e, by omega, by omega, ((Cl.top he).mp h3).1⟩
theorem FlC.none {g : Nat → Nat} {m c k : Nat} (hm : m ≤ 20) (h : ∀ b, ¬ FlC g m c k b) : ∀ k' b', k ≤ k' → ¬ FlC g m c k' b' := by
  intro k' b' hk
  obtain ⟨j, rfl⟩ : ∃ j, k' = k + j := ⟨k' - k, by omega⟩
  clear hk
  induction j generalizing b' with
  | zero => exact h b'
  | succ j ih =>
    intro hb
    obtain ⟨b2, hb2⟩ := FlC.less hm (show FlC g m c (k + j + 1) b' from hb)
    exact ih b2 hb2
theorem Cq_all {g : Nat → Nat} {m c k b : Nat} : Cq g (2 ^ m - 1) c k b ↔ FlC g m c k b := by
  constructor
  · rintro ⟨h1, h2, h3⟩
    refine ⟨Nat.lt_pow_two_of_testBit b (fun i hi => ?_), h2, h3⟩
    cases e : b.testBit i with
    | false => rfl
    | true =>
      have := h1 i e
      rw [Nat.testBit_two_pow_sub_one, decide_eq_true_iff] at this
      omega
  · rintro ⟨h1, h2, h3⟩
    refine ⟨fun i hi => ?_, h2, h3⟩
    rw [Nat.testBit_two_pow_sub_one, decide_eq_true_iff]
    exact bit_lt h1 hi
/-- the answer of largestOf -/
def GsC (g : Nat → Nat) (m c : Nat) (r : Int32) : Prop := (∃ k b, 2 ≤ k ∧ FlC g m c k b ∧ (∀ b', FlC g m c k b' → b ≤ b') ∧ (∀ k' b', k < k' → ¬ FlC g m c k' b') ∧ r = nI b) ∨ ((∀ k b, 2 ≤ k → ¬ FlC g m c k b) ∧ r = -1)
theorem unT_z {g : Nat → Nat} {a z : Nat} : ∀ i, unT g a i &&& z = 0 ↔ ∀ y, y < i → a.testBit y = true → z &&& g y = 0
  | 0 => by simp [unT]
  | i + 1 => by
    rw [unT]
    by_cases hm : a.testBit i = true
    · rw [if_pos hm, Nat.and_or_distrib_right, Nat.or_eq_zero_iff, unT_z i]
      constructor
      · rintro ⟨h1, h2⟩ y hy hb
        by_cases e : y = i
        · subst e; rw [Nat.and_comm]; exact h2
        · exact h1 y (by omega) hb
      · intro h1
        exact ⟨fun y hy hb => h1 y (by omega) hb, by rw [Nat.and_comm]; exact h1 i (by omega) hm⟩
    · rw [if_neg hm, unT_z i]
      constructor
      · intro h1 y hy hb
        by_cases e : y = i
        · subst e; exact absurd hb hm
        · exact h1 y (by omega) hb
      · intro h1 y hy hb
        exact h1 y (by omega) hb
theorem unT_lt {g : Nat → Nat} {a w : Nat} (h : ∀ i, g i < 2 ^ w) : ∀ i, unT g a i < 2 ^ w
  | 0 => Nat.two_pow_pos w
  | i + 1 => by
    rw [unT]
    by_cases hm : a.testBit i = true
    · rw [if_pos hm]; exact Nat.or_lt_two_pow (unT_lt h i) (h i)
    · rw [if_neg hm]; exact unT_lt h i
section APA
variable {d n f : Nat} {S : List Nat} {mem : Mem}
theorem s_largestOf {c : Nat} (hf : IsF f) (h : Fam mem f n S) (hc : c < 2 ^ 31) : CI shX m_Petals_largestOf (d + 21) [.ref f, .int (nI c)] mem (fun r m' => GsC (fun i => S.getD i 0) S.length c r ∧ m' = mem) := by
  have hl := h.2.2.1
  refine e_Petals_largestOf hf ?_
  let Iv : Int32 → Nat → Prop := fun x k => (k = 2 ∧ x = -1) ∨ (3 ≤ k ∧ ∃ b, FlC (fun i => S.getD i 0) S.length c (k - 1) b ∧ (∀ b', FlC (fun i => S.getD i 0) S.length c (k - 1) b' → b ≤ b') ∧ x = nI b)
  have fin : ∀ x k, Iv x k → (∀ b, ¬ FlC (fun i => S.getD i 0) S.length c k b) → GsC (fun i => S.getD i 0) S.length c x := by
    intro x k hI hno
    have hno' := FlC.none (by omega) hno
    rcases hI with ⟨rfl, rfl⟩ | ⟨hk, b, h1, h2, rfl⟩
    · exact Or.inr ⟨fun k b hk => hno' k b hk, rfl⟩
    · exact Or.inl ⟨k - 1, b, by omega, h1, h2, fun k' b' hk' => hno' k' b' (by omega), rfl⟩
  have main : ∀ k, k ≤ 18 → 2 ≤ k → ∀ x, Iv x k → Wp shX m_Petals_largestOf (d + 21) 4 [some (.ref f), some (.int (nI c)), some (.int x), some (.int (nI k)), none] [] mem (QI (fun r m' => GsC (fun i => S.getD i 0) S.length c r ∧ m' = mem)) := by
    refine downInd (P := fun k => 2 ≤ k → ∀ x, Iv x k → Wp shX m_Petals_largestOf (d + 21) 4 [some (.ref f), some (.int (nI c)), some (.int x), some (.int (nI k)), none] [] mem (QI (fun r m' => GsC (fun i => S.getD i 0) S.length c r ∧ m' = mem))) 18 ?_ ?_
    · intro _ x hI
      refine b_Petals_largestOf_4 hf ⟨fun _ => ⟨fin x 18 hI (fun b hb => ?_), rfl⟩, fun c => absurd (by rw [h.2.1]; exact nI_lt (by omega) (by omega)) c⟩
      have := pop_lt (by omega) hb.1
      have := hb.2.1
      omega
    · intro k hk ih h2 x hI
      refine b_Petals_largestOf_4 hf ⟨fun c => ⟨fin x k hI (fun b hb => ?_), rfl⟩, fun c => ?_⟩
      · rw [h.2.1, nI_ltI (by omega) (by omega)] at c
        have := pop_lt (by omega) hb.1
        have := hb.2.1
        omega
      · rw [h.2.1, al (by omega)]
        have h1p : 1 ≤ 2 ^ S.length := Nat.one_le_two_pow
        refine (s_leastClique k (d + 19) (2 ^ S.length - 1) _ (by omega) hf h (by omega) hc (by omega)).mono ?_
        rintro v m' ⟨hv, rfl⟩
        replace hv := hv.cong (fun b => Cq_all)
        refine ⟨fun z => ?_, fun z => ?_⟩
        · rcases hv with ⟨b, y1, y2, y3⟩ | ⟨y1, y2⟩
          · rw [nI_1]
            exact ih (by omega) v (Or.inr ⟨by omega, b, y1, y2, y3⟩)
          · exact absurd y2 z
        · rcases hv with ⟨b, y1, y2, y3⟩ | ⟨y1, y2⟩
          · have hb := y1.1
            have : 2 ^ S.length ≤ 2 ^ 17 := Nat.pow_le_pow_right (by decide) hl
            exact absurd (y3.symm.trans z) (nI_m1 (by omega))
          · exact ⟨fin x k hI y1, rfl⟩
  exact main 2 (by decide) (by decide) (-1) (Or.inl ⟨rfl, rfl⟩)
/-- b is the first of the most sets that are apart -/
def BA (g : Nat → Nat) (m b : Nat) : Prop := b < 2 ^ m ∧ Cl g 0 b ∧ (∀ b', b' < 2 ^ m → Cl g 0 b' → pop b' ≤ pop b) ∧ ∀ b', b' < 2 ^ m → Cl g 0 b' → pop b' = pop b → b ≤ b'
theorem BA.uniq {g : Nat → Nat} {m b b' : Nat} (h : BA g m b) (h' : BA g m b') : b = b' := by
  obtain ⟨h1, h2, h3, h4⟩ := h
  obtain ⟨k1, k2, k3, k4⟩ := h'
  have e1 := h3 b' k1 k2
  have e2 := k3 b h1 h2
  have e3 := h4 b' k1 k2 (by omega)
  have e4 := k4 b h1 h2 (by omega)
  omega
noncomputable def baN (g : Nat → Nat) (m : Nat) : Nat := @dite _ (∃ b, BA g m b) (Classical.propDecidable _) (fun h => Classical.choose h) (fun _ => 0)
theorem baN_eq {g : Nat → Nat} {m b : Nat} (h : BA g m b) : baN g m = b := by
  have h' : ∃ b, BA g m b := ⟨b, h⟩
  rw [baN, dif_pos h', (Classical.choose_spec h').uniq h]
noncomputable def aApart (S : List Nat) (a : Int32) : Int32 := ifP (0 ≤ a ∧ a ≤ 1) (if a = 0 then nI (pop (baN (fun i => S.getD i 0) S.length)) else nI (baN (fun i => S.getD i 0) S.length)) (-1)
theorem x_apart {a : Int32} (h : Fam mem 1 n S) : CI shX m_PS_apart (d + 22) [.ref 0, .int a] mem (fun r m' => r = aApart S a ∧ m' = mem) := by
  have hl := h.2.2.1
  have hp := pow17 hl
  refine e_PS_apart ⟨fun c => ⟨by rw [aApart, ifP_f (fun z => i_nl.mpr z.1 c)], rfl⟩, fun c => ⟨fun c2 => ?_, fun c2 => ⟨by rw [aApart, ifP_f (fun z => c2 z.2)], rfl⟩⟩⟩
  rw [aApart, ifP_t ⟨i_nl.mp c, c2⟩]
  refine (s_largestOf (c := 0) isF_1 h (by decide)).mono ?_
  rintro v m' ⟨hv, rfl⟩
  rcases hv with ⟨k, b, y1, y2, y3, y4, y5⟩ | ⟨y1, y2⟩
  · have hb := y2.1
    have hB : BA (fun i => S.getD i 0) S.length b := by
      refine ⟨hb, y2.2.2, fun b' l1 l2 => ?_, fun b' l1 l2 l3 => y3 b' ⟨l1, by rw [l3]; exact y2.2.1, l2⟩⟩
      rw [y2.2.1]
      exact Nat.le_of_not_lt (fun q => y4 _ b' q ⟨l1, rfl, l2⟩)
    rw [baN_eq hB]
    refine ⟨fun _ => ⟨fun z => ⟨by rw [if_neg z]; exact y5, rfl⟩, fun z => ⟨?_, rfl⟩⟩, fun z => absurd (y5.symm.trans z) (nI_m1 (by omega))⟩
    rw [if_pos z, y5, bc (by omega)]
  · have hle : ∀ b', b' < 2 ^ S.length → Cl (fun i => S.getD i 0) 0 b' → pop b' ≤ 1 := fun b' l1 l2 => Nat.le_of_not_lt (fun q => y1 _ b' q ⟨l1, rfl, l2⟩)
    refine ⟨fun z => absurd y2 z, fun _ => ?_⟩
    rw [h.2.1, al (by omega), show (1 : Int32) = nI 1 from rfl, ia]
    have hB : BA (fun i => S.getD i 0) S.length ((2 ^ S.length - 1) &&& 1) := by
      rcases Nat.eq_zero_or_pos S.length with e | e
      · rw [e]
        refine ⟨by decide, fun i j _ hi => absurd hi (by simp), fun b' l1 _ => ?_, fun b' _ _ _ => by simp⟩
        have : b' = 0 := by omega
        subst this
        exact Nat.zero_le _
      · have e1 : (2 ^ S.length - 1) &&& 1 = 1 := by
          obtain ⟨w, hw⟩ : ∃ w, S.length = w + 1 := ⟨S.length - 1, by omega⟩
          rw [hw, Nat.and_one_is_mod, Nat.pow_succ]
          have : 1 ≤ 2 ^ w := Nat.one_le_two_pow
          omega
        have e2 : 2 ^ 1 ≤ 2 ^ S.length := Nat.pow_le_pow_right (by decide) e
        have e3 : pop 1 = 1 := by decide
        rw [e1]
        refine ⟨by omega, fun i j hj hi _ => ?_, fun b' l1 l2 => by rw [e3]; exact hle b' l1 l2, fun b' l1 l2 l3 => ?_⟩
        · have := bit_lt (m := 1) (by decide) hi
          omega
        · rcases Nat.eq_zero_or_pos b' with q | q
          · rw [q, pop_zero, e3] at l3; omega
          · exact q
    have hb := hB.1
    rw [baN_eq hB]
    exact ⟨fun z => ⟨by rw [if_neg z], rfl⟩, fun z => ⟨by rw [if_pos z, bc (by omega)], rfl⟩⟩
theorem s_unionApart {a : Nat} (h : Now mem n S) (ha : a < 2 ^ S.length) : CI shM m_Mo_unionApart (d + 1) [.ref 0, .int (nI a)] mem (fun r m' => ((Cl (fun i => S.getD i 0) 0 a ∧ r = nI (unT (fun i => S.getD i 0) a S.length)) ∨ (¬ Cl (fun i => S.getD i 0) 0 a ∧ r = -1)) ∧ m' = mem) := by
  have hl := h.2.2.1
  have hp := pow17 (m := S.length) (by omega)
  refine e_Mo_unionApart ?_
  refine downInd (P := fun i => (∀ x y, y < x → x < i → a.testBit x = true → a.testBit y = true → S.getD x 0 &&& S.getD y 0 = 0) → Wp shM m_Mo_unionApart (d + 1) 4 [some (.ref 0), some (.int (nI a)), some (.int (nI (unT (fun i => S.getD i 0) a i))), some (.int (nI i))] [] mem (QI (fun r m' => ((Cl (fun i => S.getD i 0) 0 a ∧ r = nI (unT (fun i => S.getD i 0) a S.length)) ∨ (¬ Cl (fun i => S.getD i 0) 0 a ∧ r = -1)) ∧ m' = mem))) S.length ?_ ?_ 0 (Nat.zero_le _) (fun x y _ hx => absurd hx (by omega))
  · intro hC
    exact b_Mo_unionApart_4 ⟨fun _ => ⟨Or.inl ⟨fun x y hy hx hy2 => hC x y hy (bit_lt ha hx) hx hy2, rfl⟩, rfl⟩, fun c => absurd ((h.ge (Nat.le_refl _)).mpr rfl) c⟩
  · intro i hi ih hC
    have hgi := h.2.2.2.2.2 i
    have hle : unT (fun i => S.getD i 0) a i &&& S.getD i 0 ≤ S.getD i 0 := Nat.and_le_right
    refine b_Mo_unionApart_4 ⟨fun c => absurd ((h.ge (Nat.le_of_lt hi)).mp c) (by omega), fun _ => ⟨fun c => ⟨h.vin hi, fun c2 => ⟨h.vin hi, ?_⟩, fun c2 => ?_⟩, fun c => ?_⟩⟩
    · rw [hasI (by omega) (by omega)] at c
      rw [h.row hi, ia, nI_z (by omega), unT_z] at c2
      rw [unT, if_pos c] at ih
      rw [h.row hi, io, nI_1]
      refine ih (fun x y hy hx bx byy => ?_)
      by_cases e : x = i
      · subst e; exact c2 y hy byy
      · exact hC x y hy (by omega) bx byy
    · rw [hasI (by omega) (by omega)] at c
      rw [h.row hi, ia, nI_z (by omega), unT_z] at c2
      refine ⟨Or.inr ⟨fun hCl => c2 (fun y hy byy => hCl i y hy c byy), rfl⟩, rfl⟩
    · rw [hasI (by omega) (by omega)] at c
      rw [unT, if_neg c] at ih
      rw [nI_1]
      refine ih (fun x y hy hx bx byy => ?_)
      by_cases e : x = i
      · subst e; exact absurd bx c
      · exact hC x y hy (by omega) bx byy
theorem y_apart {a : Int32} (h : Now mem n S) : CI shM m_Mo_apart (d + 2) [.ref 0, .int a] mem (fun r m' => r = aApart S a ∧ Keep mem m') := by
  have hl := h.2.2.1
  have hp := pow17 (m := S.length) (by omega)
  refine e_Mo_apart ⟨fun c => ?_, fun c => ⟨by rw [aApart, ifP_f c], Keep.rf⟩⟩
  rw [aApart, ifP_t c]
  have h1p : 1 ≤ 2 ^ S.length := Nat.one_le_two_pow
  have hmany : (1 : Int32) <<< (mem 1 1 &&& 31) = nI (2 ^ S.length) := by rw [h.2.1, sh1 (by omega)]
  refine downInd (P := fun i => ∀ b, b < 2 ^ S.length → Cl (fun i => S.getD i 0) 0 b → (∀ b', b' < i → Cl (fun i => S.getD i 0) 0 b' → pop b' ≤ pop b) → (∀ b', b' < i → Cl (fun i => S.getD i 0) 0 b' → pop b' = pop b → b ≤ b') → b < i → Wp shM m_Mo_apart (d + 2) 15 [some (.ref 0), some (.int a), some (.int (nI b)), some (.int (nI i))] [] mem (QI (fun r m' => r = (if a = 0 then nI (pop (baN (fun i => S.getD i 0) S.length)) else nI (baN (fun i => S.getD i 0) S.length)) ∧ Keep mem m'))) (2 ^ S.length) ?_ ?_ 1 h1p 0 h1p (fun i j _ hi => absurd hi (by simp)) (fun b' hb' _ => ?_) (fun b' _ _ _ => Nat.zero_le _) (by decide)
  · intro b hb hC h3 h4 _
    rw [baN_eq (b := b) ⟨hb, hC, h3, h4⟩]
    refine b_Mo_apart_15 ⟨fun _ => ⟨fun z => ⟨by rw [if_neg z], Keep.rf⟩, fun z => ?_⟩, fun c => absurd (by rw [hmany]; exact nI_le (Nat.le_refl _) (by omega)) c⟩
    rw [if_pos z]
    exact (s_ones (by omega)).to ⟨rfl, Keep.rf⟩
  · intro i hi ih b hb hC h3 h4 hbi
    have p1 := pop_le i
    have p2 := pop_le b
    refine b_Mo_apart_15 ⟨fun c => absurd c (by rw [hmany, nI_leI (by omega) (by omega)]; omega), fun _ => ?_⟩
    refine (s_ones (by omega)).to ((s_ones (by omega)).to ⟨fun c => ?_, fun c => ?_⟩)
    · have c : nI (pop i) ≤ nI (pop b) := c
      rw [nI_leI (by omega) (by omega)] at c
      rw [nI_1]
      refine ih b hb hC (fun b' l1 l2 => ?_) (fun b' l1 l2 l3 => ?_) (by omega)
      · by_cases e : b' = i
        · subst e; exact c
        · exact h3 b' (by omega) l2
      · by_cases e : b' = i
        · omega
        · exact h4 b' (by omega) l2 l3
    · have c : ¬ nI (pop i) ≤ nI (pop b) := c
      rw [nI_leI (by omega) (by omega)] at c
      refine (s_unionApart h hi).mono ?_
      rintro v m' ⟨hv, rfl⟩
      rw [nI_1]
      rcases hv with ⟨y1, y2⟩ | ⟨y1, y2⟩
      · have hu : unT (fun i => S.getD i 0) i S.length < 2 ^ 10 := unT_lt (fun j => h.2.2.2.2.2 j) _
        refine ⟨fun z => absurd z (by rw [y2, i_nl]; exact nI_le0 (by omega)), fun _ => ?_⟩
        refine ih i hi y1 (fun b' l1 l2 => ?_) (fun b' l1 l2 l3 => ?_) (by omega)
        · by_cases e : b' = i
          · subst e; exact Nat.le_refl _
          · have := h3 b' (by omega) l2
            omega
        · by_cases e : b' = i
          · omega
          · have := h3 b' (by omega) l2
            omega
      · refine ⟨fun _ => ?_, fun z => absurd (by rw [y2]; decide) z⟩
        refine ih b hb hC (fun b' l1 l2 => ?_) (fun b' l1 l2 l3 => ?_) (by omega)
        · by_cases e : b' = i
          · subst e; exact absurd l2 y1
          · exact h3 b' (by omega) l2
        · by_cases e : b' = i
          · omega
          · exact h4 b' (by omega) l2 l3
  · have : b' = 0 := by omega
    subst this
    exact Nat.le_refl _
end APA
