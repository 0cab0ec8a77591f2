/-! tight of both sides -/
/-- b hits all sets, and not without one of its points -/
def Tg (S : List Nat) (b : Nat) : Prop := misB S b = 0 ∧ ∀ p, b.testBit p = true → misB S (dif b (2 ^ p)) ≠ 0
noncomputable def tgB (S : List Nat) (b : Nat) : Bool := @decide (Tg S b) (Classical.propDecidable _)
theorem tgB_iff {S : List Nat} {b : Nat} : tgB S b = true ↔ Tg S b := @decide_eq_true_iff _ (Classical.propDecidable _)
/-- from i on, r to go, s seen: the k-th, or how many -/
def kthI (f : Nat → Bool) (k : Int32) : Nat → Nat → Nat → Int32
  | 0, _, s => if k = -1 then nI s else -2
  | r + 1, i, s => if f i = true then (if nI s = k then nI i else kthI f k r (i + 1) (s + 1)) else kthI f k r (i + 1) s
noncomputable def aTight (n : Nat) (S : List Nat) (a : Int32) : Int32 := ifP ((-1) ≤ a) (kthI (tgB S) a (2 ^ n) 0 0) (-1)
theorem xor_pow {b p : Nat} (h : b.testBit p = true) : b ^^^ 2 ^ p = dif b (2 ^ p) := by
  apply Nat.eq_of_testBit_eq
  intro j
  rw [Nat.testBit_xor, dif_bit, Nat.testBit_two_pow]
  by_cases e : p = j
  · subst e; rw [h]; simp
  · simp [e]
theorem Tch.all {mem : Mem} {n b : Nat} {S : List Nat} (h : Tch mem n S.length (colH S)) (hn : n ≤ 10) (hl : S.length ≤ 17) (hb : b < 2 ^ n) : (tcF mem (nI b) = mem 11 2) ↔ misB S b = 0 := by
  have hp := pow17 hl
  have hpn : 2 ^ n ≤ 2 ^ 10 := Nat.pow_le_pow_right (by decide) hn
  have hm := msk_lt (fun i => !decide (S.getD i 0 &&& b = 0)) S.length
  rw [h.tc hn hb, h.1, tch_having (by omega), nI_inj (by omega) (by omega), ← meet_all]
  rw [msk_cong S.length (p := fun i => !decide (S.getD i 0 &&& b = 0)) (q := fun i => decide (¬ S.getD i 0 &&& b = 0)) (fun i _ => by by_cases e : S.getD i 0 &&& b = 0 <;> simp [e])]
section TIG
variable {d n : Nat} {S : List Nat} {mem : Mem}
theorem s_isTightX {b : Nat} (h : Tch mem n S.length (colH S)) (hn : n ≤ 10) (hl : S.length ≤ 17) (hb : b < 2 ^ n) : CI shX m_Touch_isTight (d + 2) [.ref 11, .int (nI b)] mem (fun r m' => ((tgB S b = true ∧ r = 1) ∨ (¬ tgB S b = true ∧ r = 0)) ∧ m' = mem) := by
  have hpn : 2 ^ n ≤ 2 ^ 10 := Nat.pow_le_pow_right (by decide) hn
  refine e_Touch_isTight ⟨fun c => ?_, fun c => ⟨Or.inr ⟨fun z => c ((h.all hn hl hb).mpr (tgB_iff.mp z).1), rfl⟩, rfl⟩⟩
  rw [h.all hn hl hb] at c
  refine downInd (P := fun i => (∀ p, p < i → b.testBit p = true → misB S (dif b (2 ^ p)) ≠ 0) → Wp shX m_Touch_isTight (d + 2) 12 [some (.ref 11), some (.int (nI b)), some (.int (nI i))] [] mem (QI (fun r m' => ((tgB S b = true ∧ r = 1) ∨ (¬ tgB S b = true ∧ r = 0)) ∧ m' = mem))) 10 ?_ ?_ 0 (by decide) (fun p hp => absurd hp (by omega))
  · intro hI
    exact b_Touch_isTight_12 ⟨fun _ => ⟨Or.inl ⟨tgB_iff.mpr ⟨c, fun p hp => hI p (bit_lt (m := 10) (by omega) hp) hp⟩, rfl⟩, rfl⟩, fun c => absurd (by decide) c⟩
  · intro i hi ih hI
    have hd : dif b (2 ^ i) < 2 ^ n := dif_lt hb
    refine b_Touch_isTight_12 ⟨fun c => absurd c (by rw [show (10 : Int32) = nI 10 from rfl, nI_leI (by decide) (by omega)]; omega), fun _ => ?_⟩
    rw [hasI0 (by omega) (by omega), sh1 (by omega), idif, h.all hn hl hd, nI_1]
    refine ⟨fun z => ih (fun p hp h2 => ?_), fun z => ⟨fun z2 => ih (fun p hp h2 => ?_), fun z2 => ⟨Or.inr ⟨fun z3 => ?_, rfl⟩, rfl⟩⟩⟩
    · by_cases e : p = i
      · subst e; rw [z] at h2; cases h2
      · exact hI p (by omega) h2
    · by_cases e : p = i
      · subst e; exact z2
      · exact hI p (by omega) h2
    · exact (tgB_iff.mp z3).2 i (by simpa using z) z2
theorem x_tight {a : Int32} (h : Fam mem 1 n S) : CI shX m_PS_tight (d + 3) [.ref 0, .int a] mem (fun r m' => r = aTight n S a ∧ Same mem m' [11, 12, 13]) := by
  have hl := h.2.2.1
  have hn := h.2.2.2.1
  have hpn : 2 ^ n ≤ 2 ^ 10 := Nat.pow_le_pow_right (by decide) hn
  have h1n : 1 ≤ 2 ^ n := Nat.one_le_two_pow
  refine e_PS_tight ⟨fun c => ?_, fun c => ⟨by rw [aTight, ifP_f c], Same.rf⟩⟩
  rw [aTight, ifP_t c]
  refine (s_fillHaving isF_1 (by decide) h).mono ?_
  rintro m1 ⟨hT, hS⟩
  have hF := h.same hS (by decide) (by decide)
  have main : ∀ r i s, i + r = 2 ^ n → s ≤ i → Wp shX m_PS_tight (d + 3) 22 [some (.ref 0), some (.int a), some (.int (nI s)), some (.int (nI i))] [] m1 (QI (fun v m' => v = kthI (tgB S) a r i s ∧ Same mem m' [11, 12, 13])) := by
    intro r
    induction r with
    | zero =>
      intro i s hi hs
      rw [kthI]
      exact b_PS_tight_22 ⟨fun _ => ⟨fun z => ⟨by rw [if_neg z], hS⟩, fun z => ⟨by rw [if_pos z], hS⟩⟩, fun c => absurd (by rw [hF.1, al (by omega)]; exact nI_lt (by omega) (by omega)) c⟩
    | succ r ih =>
      intro i s hi hs
      refine b_PS_tight_22 ⟨fun c => absurd c (by rw [hF.1, al (by omega), nI_ltI (by omega) (by omega)]; omega), fun _ => ?_⟩
      refine (s_isTightX hT hn hl (by omega)).mono ?_
      rintro v m' ⟨hv, rfl⟩
      rw [kthI, nI_1, nI_1]
      rcases hv with ⟨y1, y2⟩ | ⟨y1, y2⟩
      · refine ⟨fun z => absurd (y2.symm.trans z) (by decide), fun _ => ⟨fun z => ?_, fun z => ⟨?_, hS⟩⟩⟩
        · rw [if_pos y1, if_neg z]
          exact ih (i + 1) (s + 1) (by omega) (by omega)
        · rw [if_pos y1, if_pos z]
      · refine ⟨fun _ => ?_, fun z => absurd y2 z⟩
        rw [if_neg y1]
        exact ih (i + 1) s (by omega) (by omega)
  exact main (2 ^ n) 0 0 (by omega) (by omega)
theorem s_isTightM {b : Nat} (h : Now mem n S) (hb : b < 2 ^ n) : CI shM m_Mo_isTight (d + 2) [.ref 0, .int (nI b)] mem (fun r m' => ((tgB S b = true ∧ r = 1) ∨ (¬ tgB S b = true ∧ r = 0)) ∧ m' = mem) := by
  have hl := h.2.2.1
  have hn := h.2.2.2.1
  have hp := pow17 (m := S.length) (by omega)
  have hpn : 2 ^ n ≤ 2 ^ 10 := Nat.pow_le_pow_right (by decide) hn
  have hmis : ∀ x, misB S x < 2 ^ S.length := fun x => msk_lt _ _
  refine e_Mo_isTight ?_
  refine (s_missedBy h).to ?_
  show (nI (misB S b) = 0 → _) ∧ (¬ nI (misB S b) = 0 → _)
  have hb0 := hmis b
  rw [nI_z (by omega)]
  refine ⟨fun c => ?_, fun c => ⟨Or.inr ⟨fun z => c (tgB_iff.mp z).1, rfl⟩, rfl⟩⟩
  refine downInd (P := fun i => (∀ p, p < i → b.testBit p = true → misB S (dif b (2 ^ p)) ≠ 0) → Wp shM m_Mo_isTight (d + 2) 12 [some (.ref 0), some (.int (nI b)), some (.int (nI i))] [] mem (QI (fun r m' => ((tgB S b = true ∧ r = 1) ∨ (¬ tgB S b = true ∧ r = 0)) ∧ m' = mem))) n ?_ ?_ 0 (Nat.zero_le _) (fun p hp => absurd hp (by omega))
  · intro hI
    exact b_Mo_isTight_12 ⟨fun _ => ⟨Or.inl ⟨tgB_iff.mpr ⟨c, fun p hp => hI p (bit_lt hb hp) hp⟩, rfl⟩, rfl⟩, fun c => absurd (by rw [h.1]; exact nI_le (Nat.le_refl _) (by omega)) c⟩
  · intro i hi ih hI
    refine b_Mo_isTight_12 ⟨fun c => absurd c (by rw [h.1, nI_leI (by omega) (by omega)]; omega), fun _ => ?_⟩
    rw [hasI (by omega) (by omega), nI_1]
    refine ⟨fun z => ih (fun p hp h2 => ?_), fun z => ?_⟩
    · by_cases e : p = i
      · subst e; exact absurd h2 z
      · exact hI p (by omega) h2
    · rw [sh1 (by omega), ix, xor_pow z]
      refine (s_missedBy h).to ?_
      show (¬ nI (misB S (dif b (2 ^ i))) = 0 → _) ∧ (nI (misB S (dif b (2 ^ i))) = 0 → _)
      have hb1 := hmis (dif b (2 ^ i))
      rw [nI_z (by omega)]
      refine ⟨fun z2 => ih (fun p hp h2 => ?_), fun z2 => ⟨Or.inr ⟨fun z3 => (tgB_iff.mp z3).2 i z z2, rfl⟩, rfl⟩⟩
      by_cases e : p = i
      · subst e; exact z2
      · exact hI p (by omega) h2
theorem y_tight {a : Int32} (h : Now mem n S) : CI shM m_Mo_tight (d + 3) [.ref 0, .int a] mem (fun r m' => r = aTight n S a ∧ Keep mem m') := by
  have hn := h.2.2.2.1
  have hpn : 2 ^ n ≤ 2 ^ 10 := Nat.pow_le_pow_right (by decide) hn
  have h1n : 1 ≤ 2 ^ n := Nat.one_le_two_pow
  refine e_Mo_tight ⟨fun c => ?_, fun c => ⟨by rw [aTight, ifP_f c], Keep.rf⟩⟩
  rw [aTight, ifP_t c]
  have main : ∀ r i s, i + r = 2 ^ n → s ≤ i → Wp shM m_Mo_tight (d + 3) 11 [some (.ref 0), some (.int a), some (.int (nI s)), some (.int (nI i))] [] mem (QI (fun v m' => v = kthI (tgB S) a r i s ∧ Keep mem m')) := by
    intro r
    induction r with
    | zero =>
      intro i s hi hs
      rw [kthI]
      exact b_Mo_tight_11 ⟨fun _ => ⟨fun z => ⟨by rw [if_neg z], Keep.rf⟩, fun z => ⟨by rw [if_pos z], Keep.rf⟩⟩, fun c => absurd (by rw [h.1, al (by omega)]; exact nI_lt (by omega) (by omega)) c⟩
    | succ r ih =>
      intro i s hi hs
      refine b_Mo_tight_11 ⟨fun c => absurd c (by rw [h.1, al (by omega), nI_ltI (by omega) (by omega)]; omega), fun _ => ?_⟩
      refine (s_isTightM h (by omega)).mono ?_
      rintro v m' ⟨hv, rfl⟩
      rw [kthI, nI_1, nI_1]
      rcases hv with ⟨y1, y2⟩ | ⟨y1, y2⟩
      · refine ⟨fun _ => ⟨fun z => ?_, fun z => ⟨?_, Keep.rf⟩⟩, fun z => absurd (y2.symm.trans z) (by decide)⟩
        · rw [if_pos y1, if_neg z]
          exact ih (i + 1) (s + 1) (by omega) (by omega)
        · rw [if_pos y1, if_pos z]
      · refine ⟨fun z => absurd y2 z, fun _ => ?_⟩
        rw [if_neg y1]
        exact ih (i + 1) s (by omega) (by omega)
  exact main (2 ^ n) 0 0 (by omega) (by omega)
end TIG
