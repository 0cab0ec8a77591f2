/-! most, surplus of the reference -/
theorem dif_pow_lt {i j : Nat} (h : i.testBit j = true) : dif i (2 ^ j) < i := by
  have h1 : dif i (2 ^ j) ≤ i := by
    have : dif i (2 ^ j) &&& i = dif i (2 ^ j) := sub_iff.mpr (fun l hl => by rw [dif_bit, Bool.and_eq_true] at hl; exact hl.1)
    rw [← this]
    exact Nat.and_le_right
  refine Nat.lt_of_le_of_ne h1 (fun e => ?_)
  have h2 : (dif i (2 ^ j)).testBit j = false := by rw [dif_bit, Nat.testBit_two_pow_self]; simp
  rw [e, h] at h2
  cases h2
theorem sub_eq {e b : Nat} (hb : b < 2 ^ 20) (h : ∀ l, e.testBit l = true → b.testBit l = true) (hp : pop b ≤ pop e) : e = b := by
  apply Nat.eq_of_testBit_eq
  intro l
  cases q : b.testBit l with
  | false =>
    cases q2 : e.testBit l with
    | false => rfl
    | true => rw [h l q2] at q; cases q
  | true =>
    cases q2 : e.testBit l with
    | true => rfl
    | false =>
      have := popT_strict (s := b) (p := l) 20 e h (bit_lt hb q) q q2
      have h3 : pop e < pop b := this
      omega
theorem Fr.low {g : Nat → Nat} {k b : Nat} (hb : b < 2 ^ 20) (h1 : pop b ≤ k) (h2 : pop b = k → ∀ c, ¬ Cl g c b) : Fr g k b := by
  intro e c q1 q2
  have : pop e ≤ pop b := pop_mono 20 e q1
  have e1 := sub_eq hb q1 (by omega)
  subst e1
  exact h2 q2 c
theorem Fr.high {g : Nat → Nat} {k b : Nat} (hb : b < 2 ^ 20) (h1 : k < pop b) (h2 : ∀ j, b.testBit j = true → Fr g k (dif b (2 ^ j))) : Fr g k b := by
  intro e c q1 q2
  have hex : ∃ l, b.testBit l = true ∧ e.testBit l = false := by
    refine Classical.byContradiction (fun hn => ?_)
    have : b = e := Nat.eq_of_testBit_eq (fun l => by
      cases q : b.testBit l with
      | false =>
        cases q3 : e.testBit l with
        | false => rfl
        | true => rw [q1 l q3] at q; cases q
      | true =>
        cases q3 : e.testBit l with
        | true => rfl
        | false => exact absurd ⟨l, q, q3⟩ hn)
    rw [this] at h1
    omega
  obtain ⟨l, l1, l2⟩ := hex
  refine h2 l l1 e c (fun x hx => ?_) q2
  rw [dif_bit, q1 x hx, Nat.testBit_two_pow]
  have : l ≠ x := fun z => by subst z; rw [l2] at hx; cases hx
  simp [this]
def Cg (S : List Nat) (k b : Nat) (v : Int32) : Prop := (Fr (fun i => S.getD i 0) k b ∧ v = 0) ∨ (¬ Fr (fun i => S.getD i 0) k b ∧ v = 1)
section MSM
variable {d n : Nat} {S : List Nat} {mem : Mem}
theorem s_mostFree {k : Nat} (h : Now mem n S) (hk2 : 2 ≤ k) (hk : k ≤ 16) : CI shM m_Mo_mostFree (d + 2) [.ref 0, .int (nI k)] mem (fun r m' => (∃ b, r = nI b ∧ MF S k b) ∧ Keep mem m') := by
  have hl := h.2.2.1
  have hp : 2 ^ S.length ≤ 2 ^ 16 := Nat.pow_le_pow_right (by decide) hl
  refine e_Mo_mostFree ?_
  refine (s_laysAll h).mono ?_
  rintro m1 ⟨hR1, hK1⟩
  have key : ∀ i, i ≤ 2 ^ S.length → ∀ (m0 : Mem) (b : Nat), Rw m0 S → Keep mem m0 → (∀ j, j < i → Cg S k j (m0 7 j)) → b ≤ i → b < 2 ^ S.length → Fr (fun i => S.getD i 0) k b → (∀ b', b' < i → Fr (fun i => S.getD i 0) k b' → pop b' ≤ pop b ∧ (pop b' = pop b → b ≤ b')) → Wp shM m_Mo_mostFree (d + 2) 11 [some (.ref 0), some (.int (nI k)), some (.int (nI b)), some (.int (nI (pop b))), some (.int (nI i)), none, none, none] [] m0 (QI (fun r m' => (∃ b, r = nI b ∧ MF S k b) ∧ Keep mem m')) := by
    refine downInd (P := fun i => ∀ (m0 : Mem) (b : Nat), Rw m0 S → Keep mem m0 → (∀ j, j < i → Cg S k j (m0 7 j)) → b ≤ i → b < 2 ^ S.length → Fr (fun i => S.getD i 0) k b → (∀ b', b' < i → Fr (fun i => S.getD i 0) k b' → pop b' ≤ pop b ∧ (pop b' = pop b → b ≤ b')) → Wp shM m_Mo_mostFree (d + 2) 11 [some (.ref 0), some (.int (nI k)), some (.int (nI b)), some (.int (nI (pop b))), some (.int (nI i)), none, none, none] [] m0 (QI (fun r m' => (∃ b, r = nI b ∧ MF S k b) ∧ Keep mem m'))) (2 ^ S.length) ?_ ?_
    · intro m0 b hR hK hC hb hbm hF hM
      exact b_Mo_mostFree_11 ⟨fun _ => ⟨⟨b, rfl, hbm, hF, fun b' h1 h2 => (hM b' h1 h2).1, fun b' h1 h2 h3 => (hM b' h1 h2).2 h3⟩, hK⟩, fun c => absurd (by rw [hR.lim]; exact nI_le (Nat.le_refl _) (by omega)) c⟩
    · intro i hi ih m0 b hR hK hC hb hbm hF hM
      have hpi : pop i ≤ 16 := pop_lt (by decide) (by omega)
      have hpb : pop b ≤ 16 := pop_lt (by decide) (by omega)
      have fin : ∀ x6 : Int32, Cg S k i x6 → Wp shM m_Mo_mostFree (d + 2) 112 [some (.ref 0), some (.int (nI k)), some (.int (nI b)), some (.int (nI (pop b))), some (.int (nI i)), some (.int (nI (pop i))), some (.int x6), none] [] m0 (QI (fun r m' => (∃ b, r = nI b ∧ MF S k b) ∧ Keep mem m')) := by
        intro x6 h6
        have hC' : ∀ v, Cg S k i v → ∀ j, j < i + 1 → Cg S k j ((up2 m0 7 i v) 7 j) := by
          intro v hv j hj
          by_cases e : j = i
          · subst e; rw [up2_at]; exact hv
          · rw [up2_nj e]; exact hC j (by omega)
        have hR' : ∀ v, Rw (up2 m0 7 i v) S := fun v => hR.of (by rw [up2_ne (by decide)]) (up2_ne (by decide))
        have hK' : ∀ v, Keep mem (up2 m0 7 i v) := fun v => hK.tr (Keep.upc (by decide) (by decide) (by decide) (by decide) (by decide))
        refine b_Mo_mostFree_112 ⟨vp_in_nI (by omega) (by decide), ?_⟩
        rw [nI_clamp (by omega), nI_1]
        rcases h6 with ⟨f1, f2⟩ | ⟨f1, f2⟩
        · subst f2
          rw [show vp_nar .boolean 0 = 0 from rfl, nI_ltI (by omega) (by omega)]
          refine ⟨fun z => absurd rfl z, fun _ => ⟨fun z => ?_, fun z => ?_⟩⟩
          · refine ih _ i (hR' 0) (hK' 0) (hC' 0 (Or.inl ⟨f1, rfl⟩)) (by omega) hi f1 (fun b' h1 h2 => ?_)
            by_cases e : b' = i
            · subst e; exact ⟨Nat.le_refl _, fun _ => Nat.le_refl _⟩
            · have := (hM b' (by omega) h2).1
              exact ⟨by omega, fun q => by omega⟩
          · refine ih _ b (hR' 0) (hK' 0) (hC' 0 (Or.inl ⟨f1, rfl⟩)) (by omega) hbm hF (fun b' h1 h2 => ?_)
            by_cases e : b' = i
            · subst e; exact ⟨by omega, fun _ => hb⟩
            · exact hM b' (by omega) h2
        · subst f2
          rw [show vp_nar .boolean 1 = 1 from rfl]
          refine ⟨fun _ => ?_, fun z => absurd z (by decide)⟩
          refine ih _ b (hR' 1) (hK' 1) (hC' 1 (Or.inr ⟨f1, rfl⟩)) (by omega) hbm hF (fun b' h1 h2 => ?_)
          by_cases e : b' = i
          · subst e; exact absurd h2 f1
          · exact hM b' (by omega) h2
      have loop : ∀ j, j ≤ S.length → ∀ x6 : Int32, ((x6 = 1 ∧ ¬ Fr (fun i => S.getD i 0) k i) ∨ (x6 = 0 ∧ (pop i = k → ∀ c, ¬ Cl (fun i => S.getD i 0) c i) ∧ (k < pop i → ∀ j', j' < j → i.testBit j' = true → Fr (fun i => S.getD i 0) k (dif i (2 ^ j'))))) → Wp shM m_Mo_mostFree (d + 2) 54 [some (.ref 0), some (.int (nI k)), some (.int (nI b)), some (.int (nI (pop b))), some (.int (nI i)), some (.int (nI (pop i))), some (.int x6), some (.int (nI j))] [] m0 (QI (fun r m' => (∃ b, r = nI b ∧ MF S k b) ∧ Keep mem m')) := by
        refine downInd (P := fun j => ∀ x6 : Int32, ((x6 = 1 ∧ ¬ Fr (fun i => S.getD i 0) k i) ∨ (x6 = 0 ∧ (pop i = k → ∀ c, ¬ Cl (fun i => S.getD i 0) c i) ∧ (k < pop i → ∀ j', j' < j → i.testBit j' = true → Fr (fun i => S.getD i 0) k (dif i (2 ^ j'))))) → Wp shM m_Mo_mostFree (d + 2) 54 [some (.ref 0), some (.int (nI k)), some (.int (nI b)), some (.int (nI (pop b))), some (.int (nI i)), some (.int (nI (pop i))), some (.int x6), some (.int (nI j))] [] m0 (QI (fun r m' => (∃ b, r = nI b ∧ MF S k b) ∧ Keep mem m'))) S.length ?_ ?_
        · intro x6 h6
          refine b_Mo_mostFree_54 ⟨fun _ => fin x6 ?_, fun c => absurd (by rw [hR.1]; exact nI_le (Nat.le_refl _) (by omega)) c⟩
          rcases h6 with ⟨e1, e2⟩ | ⟨e1, e2, e3⟩
          · exact Or.inr ⟨e2, e1⟩
          · refine Or.inl ⟨?_, e1⟩
            rcases Nat.lt_or_ge k (pop i) with q | q
            · exact Fr.high (by omega) q (fun j' hj' => e3 q j' (bit_lt hi hj') hj')
            · exact Fr.low (by omega) q e2
        · intro j hj ihj x6 h6
          refine b_Mo_mostFree_54 ⟨fun c => absurd c (by rw [hR.1]; exact nI_ge hj (by omega)), fun _ => ⟨fun z => fin x6 ?_, fun z => ?_⟩⟩
          · rcases h6 with ⟨e1, e2⟩ | ⟨e1, e2, e3⟩
            · exact Or.inr ⟨e2, e1⟩
            · exact absurd e1 z
          · rcases h6 with ⟨e1, e2⟩ | ⟨e1, e2, e3⟩
            · exact absurd (e1.symm.trans z) (by decide)
            · rw [nI_leI (by omega) (by omega), hasI (by omega) (by omega), sh1 (by omega), ix]
              refine ⟨fun z2 => fin x6 (Or.inl ⟨Fr.low (by omega) z2 e2, e1⟩), fun z2 => ⟨fun z3 => ?_, fun z3 => ?_⟩⟩
              · rw [nI_1]
                refine ihj 0 (Or.inr ⟨rfl, e2, fun q j' hj' hb' => ?_⟩)
                by_cases e : j' = j
                · subst e; exact absurd hb' z3
                · exact e3 q j' (by omega) hb'
              · have hlt := dif_pow_lt z3
                rw [xor_pow z3]
                refine ⟨vp_in_nI (by omega) (by decide), ?_⟩
                rw [nI_clamp (by omega), nI_1]
                rcases hC _ hlt with ⟨f1, f2⟩ | ⟨f1, f2⟩
                · refine ⟨fun _ => ihj 0 (Or.inr ⟨rfl, e2, fun q j' hj' hb' => ?_⟩), fun q => absurd f2 q⟩
                  by_cases e : j' = j
                  · subst e; exact f1
                  · exact e3 q j' (by omega) hb'
                · refine ⟨fun q => absurd (f2.symm.trans q) (by decide), fun _ => ihj 1 (Or.inl ⟨rfl, fun q => f1 (q.sub (fun l hl => ?_))⟩)⟩
                  rw [dif_bit, Bool.and_eq_true] at hl
                  exact hl.1
      refine b_Mo_mostFree_11 ⟨fun c => absurd c (by rw [hR.lim]; exact nI_ge hi (by omega)), fun _ => ?_⟩
      refine (s_ones (by omega)).to ?_
      rw [nI_inj (by omega) (by omega)]
      refine ⟨fun z => ?_, fun z => ?_⟩
      · exact loop 0 (Nat.zero_le _) 0 (Or.inr ⟨rfl, fun q => absurd q z, fun _ j' hj' => absurd hj' (Nat.not_lt_zero _)⟩)
      · refine (s_McoreOf hR hi).mono ?_
        rintro w m' ⟨hw, rfl⟩
        rcases hw with ⟨c, w1, w2⟩ | ⟨w1, w2⟩
        · have hc := w1.lt hR.2.2.2
          refine ⟨fun z2 => absurd z2 (by rw [w2]; exact nI_pos (by omega)), fun _ => loop 0 (Nat.zero_le _) 1 (Or.inl ⟨rfl, fun q => q i c (fun _ hl => hl) z w1.2⟩)⟩
        · refine ⟨fun _ => loop 0 (Nat.zero_le _) 0 (Or.inr ⟨rfl, fun _ c hc => w1 c ⟨(two_bits (by omega) hi).mpr (by omega), hc⟩, fun _ j' hj' => absurd hj' (Nat.not_lt_zero _)⟩), fun z2 => absurd (show w < 0 by rw [w2]; decide) z2⟩
  have := key 0 (Nat.zero_le _) m1 0 hR1 hK1 (fun j hj => absurd hj (Nat.not_lt_zero _)) (Nat.le_refl _) (Nat.two_pow_pos _) (Fr.zero (by omega)) (fun b' hb' => absurd hb' (Nat.not_lt_zero _))
  rw [pop_zero] at this
  exact this
theorem y_most {a : Int32} (h : Now mem n S) : CI shM m_Mo_most (d + 3) [.ref 0, .int a] mem (fun r m' => r = aMost S a ∧ Keep mem m') := by
  refine e_Mo_most ⟨fun c => ⟨by rw [aMost, ifP_f c], Keep.rf⟩, fun c => ?_⟩
  rw [aMost, ifP_t c]
  obtain ⟨k, hk2, hk, rfl⟩ := of_2_16 c
  rw [nI_clamp (by omega)]
  refine (s_mostFree h hk2 hk).mono ?_
  rintro r m' ⟨⟨b, e1, e2⟩, hK⟩
  exact ⟨by rw [e1, mfN_eq e2], hK⟩
theorem y_surplus {a : Int32} (h : Now mem n S) : CI shM m_Mo_surplus (d + 3) [.ref 0, .int a] mem (fun r m' => r = aSurplus S a ∧ Keep mem m') := by
  have hl := h.2.2.1
  have hp := pow17 (m := S.length) (by omega)
  refine e_Mo_surplus ⟨fun c => ⟨by rw [aSurplus, ifP_f c], Keep.rf⟩, fun c => ?_⟩
  rw [aSurplus, ifP_t c]
  obtain ⟨k, hk2, hk, rfl⟩ := of_2_16 c
  rw [nI_clamp (by omega)]
  refine (s_mostFree h hk2 hk).mono ?_
  rintro r m' ⟨⟨b, e1, e2⟩, hK⟩
  have hb := e2.1
  have hpb := pop_lt (by omega) hb
  rw [e1]
  refine (s_ones (by omega)).to ⟨by rw [mfN_eq e2, h.2.1, pk_sub hpb], hK⟩
end MSM
