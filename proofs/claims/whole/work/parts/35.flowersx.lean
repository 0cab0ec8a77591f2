/-! flowers of the class: counting -/
theorem cnt_add (f : Nat → Bool) (a : Nat) : ∀ b, cntP f (a + b) = cntP f a + cntP (fun x => f (a + x)) b
  | 0 => by rw [Nat.add_zero, cntP, Nat.add_zero]
  | b + 1 => by rw [← Nat.add_assoc, cntP, cntP, cnt_add f a b, Nat.add_assoc]
theorem cnt_split (f : Nat → Bool) (i : Nat) : cntP f (2 ^ (i + 1)) = cntP f (2 ^ i) + cntP (fun x => f (x + 2 ^ i)) (2 ^ i) := by
  rw [show 2 ^ (i + 1) = 2 ^ i + 2 ^ i by rw [Nat.pow_succ]; omega, cnt_add]
  rw [cntP_cong (p := fun x => f (2 ^ i + x)) (q := fun x => f (x + 2 ^ i)) (2 ^ i) (fun j _ => by rw [Nat.add_comm])]
theorem cnt_ext {f : Nat → Bool} {a b : Nat} (h : a ≤ b) (hf : ∀ x, a ≤ x → x < b → ¬ f x = true) : cntP f b = cntP f a := by
  obtain ⟨c, rfl⟩ : ∃ c, b = a + c := ⟨b - a, by omega⟩
  rw [cnt_add, cntP_no c (fun j hj => hf (a + j) (by omega) (by omega)), Nat.add_zero]
noncomputable def cqB (g : Nat → Nat) (s c k b : Nat) : Bool := @decide (Cq g s c k b) (Classical.propDecidable _)
theorem cqB_iff {g : Nat → Nat} {s c k b : Nat} : cqB g s c k b = true ↔ Cq g s c k b := @decide_eq_true_iff _ (Classical.propDecidable _)
theorem cq_step {g : Nat → Nat} {s c k i m : Nat} (hi : i < 17) (him : i < m) : cntP (cqB g s c (k + 1)) (2 ^ (i + 1)) = cntP (cqB g s c (k + 1)) (2 ^ i) + (if s.testBit i = true then cntP (cqB g (msk (fun j => (s &&& (2 ^ i - 1)).testBit j && decide (g j &&& g i = c)) m) c k) (2 ^ m) else 0) := by
  rw [cnt_split]
  congr 1
  by_cases hs : s.testBit i = true
  · rw [if_pos hs]
    rw [cntP_cong (q := cqB g (msk (fun j => (s &&& (2 ^ i - 1)).testBit j && decide (g j &&& g i = c)) m) c k) (2 ^ i) (fun x hx => by rw [Bool.eq_iff_iff, cqB_iff, cqB_iff]; exact Cq.top hi hx hs m him)]
    refine (cnt_ext (Nat.pow_le_pow_right (by decide) (by omega)) (fun x h1 h2 h3 => ?_)).symm
    have : x < 2 ^ i := by
      refine Nat.lt_pow_two_of_testBit x (fun j hj => ?_)
      cases e : x.testBit j with
      | false => rfl
      | true =>
        have := (cqB_iff.mp h3).1 j e
        rw [msk_bit, Nat.testBit_and, Nat.testBit_two_pow_sub_one] at this
        simp [show ¬ j < i by omega] at this
    omega
  · rw [if_neg hs]
    refine cntP_no _ (fun x hx h3 => hs ?_)
    exact (cqB_iff.mp h3).1 i (top_at hx)
theorem cq_zero {g : Nat → Nat} {s c m : Nat} (hm : m ≤ 17) : cntP (cqB g s c 0) (2 ^ m) = 1 := by
  have h1 : 1 ≤ 2 ^ m := Nat.one_le_two_pow
  have hp := pow17 hm
  rw [cnt_ext (a := 1) h1 (fun x l1 l2 l3 => ?_)]
  · rw [cntP, cntP, if_pos (cqB_iff.mpr ⟨fun i hi => by simp at hi, pop_zero, fun i j _ hi => by simp at hi⟩)]
  · have := (cqB_iff.mp l3).2.1
    have := pop_pos (b := x) (by omega) (by omega)
    omega
theorem cq_few {g : Nat → Nat} {s c k i : Nat} (hi : i ≤ 20) (hk : i < k) : cntP (cqB g s c k) (2 ^ i) = 0 := by
  refine cntP_no _ (fun x hx h3 => ?_)
  have := pop_lt hi hx
  have := (cqB_iff.mp h3).2.1
  omega
theorem cq_one {g : Nat → Nat} {s c m : Nat} (hm : m ≤ 17) (hs : s < 2 ^ m) : cntP (cqB g s c 1) (2 ^ m) = pop s := by
  have e : s = msk (fun j => s.testBit j) m := by
    apply Nat.eq_of_testBit_eq
    intro j
    rw [msk_bit]
    cases q : s.testBit j with
    | false => simp
    | true => rw [decide_eq_true (bit_lt hs q)]; rfl
  have main : ∀ i, i ≤ m → cntP (cqB g s c 1) (2 ^ i) = cntP (fun j => s.testBit j) i := by
    intro i
    induction i with
    | zero => intro _; rw [cq_few (by decide) (by decide), cntP]
    | succ i ih =>
      intro hi
      rw [cq_step (m := m) (by omega) (by omega), ih (by omega), cntP, cq_zero hm]
  rw [main m (Nat.le_refl _)]
  conv => rhs; rw [e]
  rw [pop_msk _ _ (by omega)]
section FLX
variable {n f : Nat} {S : List Nat} {mem : Mem}
theorem s_countCliques : ∀ (k d s c : Nat) (_ : k ≤ d + 1) (_ : IsF f) (_ : Fam mem f n S) (_ : s < 2 ^ S.length) (_ : c < 2 ^ 31) (_ : k < 20), CI shX m_Petals_countCliques (d + 1) [.ref f, .int (nI s), .int (nI c), .int (nI k)] mem (fun r m' => r = nI (cntP (cqB (fun i => S.getD i 0) s c k) (2 ^ S.length)) ∧ m' = mem) := by
  intro k
  induction k with
  | zero =>
    intro d s c hd hf h hs hc hk
    have hl := h.2.2.1
    refine e_Petals_countCliques hf ⟨fun z => absurd z (by decide), fun _ => ⟨?_, rfl⟩⟩
    rw [cq_zero hl]; rfl
  | succ k ih =>
    intro d s c hd hf h hs hc hk
    have hl := h.2.2.1
    have hs17 : s < 2 ^ 17 := Nat.lt_of_lt_of_le hs (Nat.pow_le_pow_right (by decide) hl)
    refine e_Petals_countCliques hf ⟨fun _ => ⟨fun z1 => ?_, fun z1 => ⟨?_, rfl⟩⟩, fun z => absurd (nI_lt (a := 0) (b := k + 1) (by omega) (by omega)) z⟩
    · have hk1 : k ≠ 0 := fun e => z1 (by rw [e]; rfl)
      have e0 : nI (k + 1) - 1 = nI k := nI_pred k
      rw [e0]
      have main : ∀ i, i ≤ S.length → Wp shX m_Petals_countCliques (d + 1) 24 [some (.ref f), some (.int (nI s)), some (.int (nI c)), some (.int (nI (k + 1))), some (.int (nI (cntP (cqB (fun i => S.getD i 0) s c (k + 1)) (2 ^ i)))), some (.int (nI i)), none] [] mem (QI (fun r m' => r = nI (cntP (cqB (fun i => S.getD i 0) s c (k + 1)) (2 ^ S.length)) ∧ m' = mem)) := by
        refine downInd (P := fun i => Wp shX m_Petals_countCliques (d + 1) 24 [some (.ref f), some (.int (nI s)), some (.int (nI c)), some (.int (nI (k + 1))), some (.int (nI (cntP (cqB (fun i => S.getD i 0) s c (k + 1)) (2 ^ i)))), some (.int (nI i)), none] [] mem (QI (fun r m' => r = nI (cntP (cqB (fun i => S.getD i 0) s c (k + 1)) (2 ^ S.length)) ∧ m' = mem))) S.length ?_ ?_
        · exact b_Petals_countCliques_24 hf ⟨fun _ => ⟨rfl, rfl⟩, fun c => absurd ((h.ge (Nat.le_refl _)).mpr rfl) c⟩
        · intro i hi ihl
          rw [cq_step (m := S.length) (by omega) hi] at ihl
          refine b_Petals_countCliques_24 hf ⟨fun c => absurd ((h.ge (Nat.le_of_lt hi)).mp c) (by omega), fun _ => ⟨fun z2 => ?_, fun z2 => ?_⟩⟩
          · rw [hasI0 (by omega) (by omega)] at z2
            rw [if_neg (by rw [z2]; decide), Nat.add_zero] at ihl
            rw [nI_1]
            exact ihl
          · rw [hasI0 (by omega) (by omega), Bool.not_eq_false] at z2
            rw [if_pos z2] at ihl
            have hg := h.small i
            have h2i : 1 ≤ 2 ^ i := Nat.one_le_two_pow
            rw [h.aF hi, sh1 (by omega), show (1 : Int32) = nI 1 from rfl, pk_sub h2i, ia]
            have hs2 : s &&& (2 ^ i - 1) < 2 ^ 31 := Nat.lt_of_le_of_lt Nat.and_le_left (by omega)
            refine (s_meetingIn hf h (by omega) hc hs2).to ?_
            have hr := msk_lt (fun j => (s &&& (2 ^ i - 1)).testBit j && decide (S.getD j 0 &&& S.getD i 0 = c)) S.length
            rw [show nI (k + 1) - nI 1 = nI k from nI_pred k]
            obtain ⟨d', rfl⟩ : ∃ d', d = d' + 1 := ⟨d - 1, by omega⟩
            refine (ih d' _ c (by omega) hf h hr hc (by omega)).to ?_
            rw [nI_add, nI_add]
            exact ihl
      rcases Nat.lt_or_ge S.length k with q | q
      · refine b_Petals_countCliques_24 hf ⟨fun _ => ⟨?_, rfl⟩, fun c => absurd (by rw [h.2.1]; exact nI_le (by omega) (by omega)) c⟩
        rw [cq_few (by omega) (by omega)]; rfl
      · have := main k q
        rw [cq_few (by omega) (by omega)] at this
        exact this
    · have hk0 : k = 0 := by
        rw [show (1 : Int32) = nI 1 from rfl, nI_inj (by omega) (by decide)] at z1
        omega
      subst hk0
      rw [bc hs17, cq_one hl hs]
end FLX
