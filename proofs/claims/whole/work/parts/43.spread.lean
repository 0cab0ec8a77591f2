/-! spread, spreadest of both sides -/
theorem nI_dec {p : Nat} : nI (p + 1) + (-1) = nI p := by
  rw [← Int32.sub_eq_add_neg]
  exact nI_pred p
/-- in how many sets these points are -/
def hvN (S : List Nat) (b : Nat) : Nat := cntP (fun i => decide (S.getD i 0 &&& b = b)) S.length
theorem hvN_le {S : List Nat} {b : Nat} : hvN S b ≤ S.length := cntP_le _ _
def Dn (S : List Nat) (p q b : Nat) : Prop := S.length * q ^ pop b < hvN S b * p ^ pop b
/-- the first of those below N by which it is not spread -/
def FD (N : Nat) (S : List Nat) (p q b : Nat) : Prop := 1 ≤ b ∧ b < N ∧ Dn S p q b ∧ ∀ b', 1 ≤ b' → b' < N → Dn S p q b' → pop b < pop b' ∨ (pop b = pop b' ∧ b ≤ b')
theorem FD.uniq {N : Nat} {S : List Nat} {p q b b' : Nat} (h : FD N S p q b) (h' : FD N S p q b') : b = b' := by
  have h1 := h.2.2.2 b' h'.1 h'.2.1 h'.2.2.1
  have h2 := h'.2.2.2 b h.1 h.2.1 h.2.2.1
  omega
noncomputable def fdN (n : Nat) (S : List Nat) (p q : Nat) : Nat := @dite Nat (∃ b, FD (2 ^ n) S p q b) (Classical.propDecidable _) (fun h => Classical.choose h) (fun _ => 0)
theorem fdN_eq {n : Nat} {S : List Nat} {p q b : Nat} (h : FD (2 ^ n) S p q b) : fdN n S p q = b := by
  have h' : ∃ b, FD (2 ^ n) S p q b := ⟨b, h⟩
  rw [fdN, dif_pos h']
  exact (Classical.choose_spec h').uniq h
theorem fdN_no {n : Nat} {S : List Nat} {p q : Nat} (h : ∀ b, 1 ≤ b → b < 2 ^ n → ¬ Dn S p q b) : fdN n S p q = 0 := by
  rw [fdN, dif_neg (fun ⟨b, hb⟩ => h b hb.1 hb.2.1 hb.2.2.1)]
noncomputable def aSpread (n : Nat) (S : List Nat) (a w : Int32) : Int32 := ifP ((1 ≤ a ∧ a ≤ 9) ∧ (1 ≤ w ∧ w ≤ 9)) (if fdN n S a.toNatClampNeg w.toNatClampNeg = 0 then 1 else -100 - nI (fdN n S a.toNatClampNeg w.toNatClampNeg)) (-1)
def SpE (n : Nat) (S : List Nat) (p : Nat) : Prop := 1 ≤ p ∧ p ≤ 9 ∧ (∀ b, 1 ≤ b → b < 2 ^ n → ¬ Dn S p 1 b) ∧ ∀ p', p < p' → p' ≤ 9 → ∃ b, 1 ≤ b ∧ b < 2 ^ n ∧ Dn S p' 1 b
theorem SpE.uniq {n : Nat} {S : List Nat} {p p' : Nat} (h : SpE n S p) (h' : SpE n S p') : p = p' := by
  rcases Nat.lt_trichotomy p p' with q | q | q
  · obtain ⟨b, b1, b2, b3⟩ := h.2.2.2 p' q h'.2.1
    exact absurd b3 (h'.2.2.1 b b1 b2)
  · exact q
  · obtain ⟨b, b1, b2, b3⟩ := h'.2.2.2 p q h.2.1
    exact absurd b3 (h.2.2.1 b b1 b2)
noncomputable def aSpreadest (n : Nat) (S : List Nat) : Int32 := if S.length = 0 then -2 else lstI (SpE n S) (-2)
theorem spE_I {n : Nat} {S : List Nat} {p : Nat} (h : SpE n S p) : lstI (SpE n S) (-2) = nI p := lstI_eq h (fun b' h' => by rw [h.uniq h']; exact Nat.le_refl _)
theorem Dn.no1 {S : List Nat} {b : Nat} : ¬ Dn S 1 1 b := by
  have := hvN_le (S := S) (b := b)
  rw [Dn, Nat.one_pow, Nat.mul_one, Nat.mul_one]; omega
theorem Dn.up {S : List Nat} {p p' b : Nat} (h : Dn S p 1 b) (hp : p ≤ p') : Dn S p' 1 b := Nat.lt_of_lt_of_le h (Nat.mul_le_mul_left _ (Nat.pow_le_pow_left hp _))
theorem of_1_9 {a : Int32} (h : 1 ≤ a ∧ a ≤ 9) : ∃ k, 1 ≤ k ∧ k ≤ 9 ∧ a = nI k := by
  have h0 : (0 : Int32) ≤ a := Int32.le_trans (by decide) h.1
  obtain ⟨k, hk, rfl⟩ := of_inl (n := 9) (by decide) h0 h.2
  exact ⟨k, (nI_leI (a := 1) (by decide) (by omega)).mp h.1, hk, rfl⟩
theorem lcN {a b : Nat} (ha : a < 2 ^ 63) (hb : b < 2 ^ 63) : (lg_cmp (lN a) (lN b) ≤ 0) ↔ a ≤ b := by rw [lg_cmp_le, pk_lLE ha hb]
theorem pw_le {p e : Nat} (hp : p ≤ 9) (he : e ≤ 10) : p ^ e ≤ 3486784401 := Nat.le_trans (Nat.pow_le_pow_left hp e) (Nat.le_trans (Nat.pow_le_pow_right (by decide) he) (by decide))
theorem hp_lt {h p e : Nat} (hh : h ≤ 17) (hp : p ≤ 9) (he : e ≤ 10) : h * p ^ e < 2 ^ 63 := Nat.lt_of_le_of_lt (Nat.mul_le_mul hh (pw_le hp he)) (by decide)
section SPR
variable {d n : Nat} {S : List Nat} {mem : Mem}
theorem s_power {p e : Nat} (hp : p < 2 ^ 31) (he : e < 2 ^ 31) : CL shX m_PS_power d [.int (nI p), .int (nI e)] mem (fun r m' => r = lN (p ^ e) ∧ m' = mem) := by
  refine e_PS_power ?_
  refine downInd (P := fun i => Wp shX m_PS_power d 5 [some (.int (nI p)), some (.int (nI e)), some (.long (lN (p ^ i))), none, some (.int (nI i))] [] mem (QL (fun r m' => r = lN (p ^ e) ∧ m' = mem))) e ?_ ?_ 0 (Nat.zero_le _)
  · exact b_PS_power_5 ⟨fun _ => ⟨rfl, rfl⟩, fun c => absurd (nI_le (Nat.le_refl _) he) c⟩
  · intro i hi ih
    refine b_PS_power_5 ⟨fun c => absurd c (nI_ge hi he), fun _ => ?_⟩
    rw [nI_l hp, lN_mul, nI_1]
    exact ih
theorem s_Mpower {p e : Nat} (hp : p < 2 ^ 31) (he : e < 2 ^ 31) : CL shM m_Mo_power d [.int (nI p), .int (nI e)] mem (fun r m' => r = lN (p ^ e) ∧ m' = mem) := by
  refine e_Mo_power ?_
  refine downInd (P := fun i => Wp shM m_Mo_power d 5 [some (.int (nI p)), some (.int (nI e)), some (.long (lN (p ^ i))), none, some (.int (nI i))] [] mem (QL (fun r m' => r = lN (p ^ e) ∧ m' = mem))) e ?_ ?_ 0 (Nat.zero_le _)
  · exact b_Mo_power_5 ⟨fun _ => ⟨rfl, rfl⟩, fun c => absurd (nI_le (Nat.le_refl _) he) c⟩
  · intro i hi ih
    refine b_Mo_power_5 ⟨fun c => absurd c (nI_ge hi he), fun _ => ?_⟩
    rw [nI_l hp, lN_mul, nI_1]
    exact ih
theorem untouched_lack {b : Nat} (hT : Tch mem n S.length (fun p => dif (2 ^ S.length - 1) (colH S p))) (hn : n ≤ 10) (hl : S.length ≤ 17) (hb : b < 2 ^ n) : bcF (mem 11 2 &&& (tcF mem (nI b) ^^^ (-1))) = nI (hvN S b) := by
  have hpn : 2 ^ n ≤ 2 ^ 10 := Nat.pow_le_pow_right (by decide) hn
  rw [hT.1, hT.tc hn hb, tch_lacking (by omega), idif, dif_msk, bc (Nat.lt_of_lt_of_le (msk_lt _ _) (Nat.pow_le_pow_right (by decide) hl)), pop_msk _ _ (by omega), hvN]
  congr 1
  exact cntP_cong _ (fun i _ => by simp)
theorem x_spread {a w : Int32} (h : Fam mem 1 n S) : CI shX m_PS_spread (d + 3) [.ref 0, .int a, .int w] mem (fun r m' => r = aSpread n S a w ∧ Same mem m' [11, 12, 13]) := by
  have hl := h.2.2.1
  have hn := h.2.2.2.1
  have hpn : 2 ^ n ≤ 2 ^ 10 := Nat.pow_le_pow_right (by decide) hn
  have h1n : 1 ≤ 2 ^ n := Nat.one_le_two_pow
  have no : ¬ ((1 ≤ a ∧ a ≤ 9) ∧ (1 ≤ w ∧ w ≤ 9)) → (-1 : Int32) = aSpread n S a w ∧ Same mem mem [11, 12, 13] := fun z => ⟨by rw [aSpread, ifP_f z], Same.rf⟩
  refine e_PS_spread ⟨fun c => no (fun z => i_nl.mpr z.1.1 c), fun c1 => ⟨fun c => no (fun z => i_nl.mpr z.1.2 c), fun c2 => ⟨fun c => no (fun z => i_nl.mpr z.2.1 c), fun c3 => ⟨fun c4 => ?_, fun c => no (fun z => c z.2.2)⟩⟩⟩⟩
  have hc : (1 ≤ a ∧ a ≤ 9) ∧ (1 ≤ w ∧ w ≤ 9) := ⟨⟨i_nl.mp c1, i_nl.mp c2⟩, i_nl.mp c3, c4⟩
  rw [aSpread, ifP_t hc]
  obtain ⟨p, hp1, hp, rfl⟩ := of_1_9 hc.1
  obtain ⟨q, hq1, hq, rfl⟩ := of_1_9 hc.2
  rw [nI_clamp (by omega), nI_clamp (by omega)]
  refine (s_fillLacking isF_1 (by decide) h).mono ?_
  rintro m1 ⟨hT, hS⟩
  have hF := h.same hS (by decide) (by decide)
  have key : ∀ i, i ≤ 2 ^ n → 1 ≤ i → ∀ x3 x4 : Int32, ((x3 = -1 ∧ x4 = 11 ∧ ∀ b', 1 ≤ b' → b' < i → ¬ Dn S p q b') ∨ (∃ b, x3 = nI b ∧ x4 = nI (pop b) ∧ FD i S p q b)) → Wp shX m_PS_spread (d + 3) 44 [some (.ref 0), some (.int (nI p)), some (.int (nI q)), some (.int x3), some (.int x4), some (.int (nI i)), none, none] [] m1 (QI (fun r m' => r = (if fdN n S p q = 0 then 1 else -100 - nI (fdN n S p q)) ∧ Same mem m' [11, 12, 13])) := by
    refine downInd (P := fun i => 1 ≤ i → ∀ x3 x4 : Int32, ((x3 = -1 ∧ x4 = 11 ∧ ∀ b', 1 ≤ b' → b' < i → ¬ Dn S p q b') ∨ (∃ b, x3 = nI b ∧ x4 = nI (pop b) ∧ FD i S p q b)) → Wp shX m_PS_spread (d + 3) 44 [some (.ref 0), some (.int (nI p)), some (.int (nI q)), some (.int x3), some (.int x4), some (.int (nI i)), none, none] [] m1 (QI (fun r m' => r = (if fdN n S p q = 0 then 1 else -100 - nI (fdN n S p q)) ∧ Same mem m' [11, 12, 13]))) (2 ^ n) ?_ ?_
    · intro _ x3 x4 hI
      refine b_PS_spread_44 ⟨fun _ => ?_, fun c => absurd (by rw [hF.1, al (by omega)]; exact nI_lt (by omega) (by omega)) c⟩
      rcases hI with ⟨e1, e2, e3⟩ | ⟨b, e1, e2, e3⟩
      · exact ⟨fun z => absurd e1 z, fun _ => ⟨by rw [fdN_no e3]; rfl, hS⟩⟩
      · have hb := e3.2.1
        have hb1 := e3.1
        rw [fdN_eq e3, if_neg (by omega)]
        exact ⟨fun _ => ⟨by rw [e1], hS⟩, fun z => absurd (e1.symm.trans z) (nI_m1 (by omega))⟩
    · intro i hi ih hi1 x3 x4 hI
      have hpi : pop i ≤ 10 := pop_lt (by decide) (by omega)
      have hskip : (¬ Dn S p q i ∨ (∃ b, x3 = nI b ∧ x4 = nI (pop b) ∧ FD i S p q b ∧ pop b ≤ pop i)) → Wp shX m_PS_spread (d + 3) 44 [some (.ref 0), some (.int (nI p)), some (.int (nI q)), some (.int x3), some (.int x4), some (.int (nI i + 1)), none, none] [] m1 (QI (fun r m' => r = (if fdN n S p q = 0 then 1 else -100 - nI (fdN n S p q)) ∧ Same mem m' [11, 12, 13])) := by
        intro hq'
        rw [nI_1]
        refine ih (by omega) x3 x4 ?_
        rcases hI with ⟨e1, e2, e3⟩ | ⟨b, e1, e2, e3⟩
        · rcases hq' with y | ⟨b, y1, y2, y3, y4⟩
          · refine Or.inl ⟨e1, e2, fun b' z1 z2 => ?_⟩
            by_cases e : b' = i
            · subst e; exact y
            · exact e3 b' z1 (by omega)
          · exact absurd (y1.symm.trans e1) (nI_m1 (by have := y3.2.1; omega))
        · refine Or.inr ⟨b, e1, e2, e3.1, by have := e3.2.1; omega, e3.2.2.1, fun b' z1 z2 z3 => ?_⟩
          by_cases e : b' = i
          · subst e
            rcases hq' with y | ⟨b2, y1, y2, y3, y4⟩
            · exact absurd z3 y
            · have := e3.2.1
              have l2 := pop_le b
              have l3 := pop_le b2
              rw [e2, nI_inj (by omega) (by omega)] at y2
              omega
          · exact e3.2.2.2 b' z1 (by omega) z3
      refine b_PS_spread_44 ⟨fun c => absurd c (by rw [hF.1, al (by omega), nI_ltI (by omega) (by omega)]; omega), fun _ => ?_⟩
      rw [bc (by omega), untouched_lack hT hn hl hi]
      have hh : hvN S i ≤ 17 := Nat.le_trans hvN_le hl
      refine ⟨fun z => ?_, fun z => ⟨fun z2 => ?_, fun z2 => ?_⟩⟩
      · refine hskip (Or.inr ?_)
        rcases hI with ⟨e1, e2, e3⟩ | ⟨b, e1, e2, e3⟩
        · rw [e2, show (11 : Int32) = nI 11 from rfl, nI_leI (by omega) (by omega)] at z
          omega
        · have l2 := pop_le b
          rw [e2, nI_leI (by omega) (by omega)] at z
          exact ⟨b, e1, e2, e3, z⟩
      · refine hskip (Or.inl ?_)
        rw [show (0 : Int32) = nI 0 from nI_0.symm, nI_leI (by omega) (by omega)] at z2
        rw [Dn, show hvN S i = 0 by omega, Nat.zero_mul]
        exact Nat.not_lt_zero _
      · refine CL.to (s_power (by omega) (by omega)) ?_
        refine CL.to (s_power (by omega) (by omega)) ?_
        rw [hF.2.1, nI_l (by omega), nI_l (by omega), lN_mul, lN_mul, lcN (hp_lt hh hp hpi) (hp_lt hl hq hpi)]
        refine ⟨fun z3 => hskip (Or.inl ?_), fun z3 => ?_⟩
        · rw [Dn]; omega
        · rw [nI_1]
          refine ih (by omega) _ _ (Or.inr ⟨i, rfl, rfl, hi1, by omega, by rw [Dn]; omega, fun b' w1 w2 w3 => ?_⟩)
          by_cases e : b' = i
          · subst e; exact Or.inr ⟨rfl, Nat.le_refl _⟩
          · left
            rcases hI with ⟨e1, e2, e3⟩ | ⟨b, e1, e2, e3⟩
            · exact absurd w3 (e3 b' w1 (by omega))
            · have l2 := pop_le b
              rw [e2, nI_leI (by omega) (by omega)] at z
              have := e3.2.2.2 b' w1 (by omega) w3
              omega
  exact key 1 h1n (Nat.le_refl _) _ _ (Or.inl ⟨rfl, rfl, fun b' z1 z2 => by omega⟩)
theorem s_firstDense {p q : Nat} (h : Now mem n S) (hp : p ≤ 9) (hq : q ≤ 9) : CI shM m_Mo_firstDense (d + 2) [.ref 0, .int (nI p), .int (nI q)] mem (fun r m' => r = nI (fdN n S p q) ∧ (fdN n S p q = 0 → ∀ b, 1 ≤ b → b < 2 ^ n → ¬ Dn S p q b) ∧ (fdN n S p q ≠ 0 → FD (2 ^ n) S p q (fdN n S p q)) ∧ m' = mem) := by
  have hl := h.2.2.1
  have hn := h.2.2.2.1
  have hpn : 2 ^ n ≤ 2 ^ 10 := Nat.pow_le_pow_right (by decide) hn
  have h1n : 1 ≤ 2 ^ n := Nat.one_le_two_pow
  refine e_Mo_firstDense ?_
  have key : ∀ s, s ≤ n + 1 → 1 ≤ s → (∀ b, 1 ≤ b → b < 2 ^ n → pop b < s → ¬ Dn S p q b) → Wp shM m_Mo_firstDense (d + 2) 2 [some (.ref 0), some (.int (nI p)), some (.int (nI q)), some (.int (nI s)), none] [] mem (QI (fun r m' => r = nI (fdN n S p q) ∧ (fdN n S p q = 0 → ∀ b, 1 ≤ b → b < 2 ^ n → ¬ Dn S p q b) ∧ (fdN n S p q ≠ 0 → FD (2 ^ n) S p q (fdN n S p q)) ∧ m' = mem)) := by
    refine downInd (P := fun s => 1 ≤ s → (∀ b, 1 ≤ b → b < 2 ^ n → pop b < s → ¬ Dn S p q b) → Wp shM m_Mo_firstDense (d + 2) 2 [some (.ref 0), some (.int (nI p)), some (.int (nI q)), some (.int (nI s)), none] [] mem (QI (fun r m' => r = nI (fdN n S p q) ∧ (fdN n S p q = 0 → ∀ b, 1 ≤ b → b < 2 ^ n → ¬ Dn S p q b) ∧ (fdN n S p q ≠ 0 → FD (2 ^ n) S p q (fdN n S p q)) ∧ m' = mem))) (n + 1) ?_ ?_
    · intro _ hno
      have hno' : ∀ b, 1 ≤ b → b < 2 ^ n → ¬ Dn S p q b := fun b b1 b2 => hno b b1 b2 (by have := pop_lt (b := b) (w := n) (by omega) b2; omega)
      refine b_Mo_firstDense_2 ⟨fun _ => ⟨by rw [fdN_no hno']; exact nI_0.symm, fun _ => hno', fun z => absurd (fdN_no hno') z, rfl⟩, fun c => absurd (by rw [h.1]; exact nI_lt (by omega) (by omega)) c⟩
    · intro s hs ih hs1 hno
      refine b_Mo_firstDense_2 ⟨fun c => absurd c (by rw [h.1, nI_ltI (by omega) (by omega)]; omega), fun _ => ?_⟩
      have key2 : ∀ i, i ≤ 2 ^ n → 1 ≤ i → (∀ b, 1 ≤ b → b < i → pop b = s → ¬ Dn S p q b) → Wp shM m_Mo_firstDense (d + 2) 15 [some (.ref 0), some (.int (nI p)), some (.int (nI q)), some (.int (nI s)), some (.int (nI i))] [] mem (QI (fun r m' => r = nI (fdN n S p q) ∧ (fdN n S p q = 0 → ∀ b, 1 ≤ b → b < 2 ^ n → ¬ Dn S p q b) ∧ (fdN n S p q ≠ 0 → FD (2 ^ n) S p q (fdN n S p q)) ∧ m' = mem)) := by
        refine downInd (P := fun i => 1 ≤ i → (∀ b, 1 ≤ b → b < i → pop b = s → ¬ Dn S p q b) → Wp shM m_Mo_firstDense (d + 2) 15 [some (.ref 0), some (.int (nI p)), some (.int (nI q)), some (.int (nI s)), some (.int (nI i))] [] mem (QI (fun r m' => r = nI (fdN n S p q) ∧ (fdN n S p q = 0 → ∀ b, 1 ≤ b → b < 2 ^ n → ¬ Dn S p q b) ∧ (fdN n S p q ≠ 0 → FD (2 ^ n) S p q (fdN n S p q)) ∧ m' = mem))) (2 ^ n) ?_ ?_
        · intro _ hni
          refine b_Mo_firstDense_15 ⟨fun _ => ?_, fun c => absurd (by rw [h.1, al (by omega)]; exact nI_lt (by omega) (by omega)) c⟩
          rw [nI_1]
          refine ih (by omega) (fun b b1 b2 b3 => ?_)
          by_cases e : pop b = s
          · exact hni b b1 b2 e
          · exact hno b b1 b2 (by omega)
        · intro i hi ihi hi1 hni
          have go : (pop i = s → ¬ Dn S p q i) → Wp shM m_Mo_firstDense (d + 2) 15 [some (.ref 0), some (.int (nI p)), some (.int (nI q)), some (.int (nI s)), some (.int (nI i + 1))] [] mem (QI (fun r m' => r = nI (fdN n S p q) ∧ (fdN n S p q = 0 → ∀ b, 1 ≤ b → b < 2 ^ n → ¬ Dn S p q b) ∧ (fdN n S p q ≠ 0 → FD (2 ^ n) S p q (fdN n S p q)) ∧ m' = mem)) := by
            intro hq'
            rw [nI_1]
            refine ihi (by omega) (fun b b1 b2 b3 => ?_)
            by_cases e : b = i
            · subst e; exact hq' b3
            · exact hni b b1 (by omega) b3
          have hpi : pop i ≤ 10 := pop_lt (by decide) (by omega)
          refine b_Mo_firstDense_15 ⟨fun c => absurd c (by rw [h.1, al (by omega), nI_ltI (by omega) (by omega)]; omega), fun _ => ?_⟩
          refine (s_ones (by omega)).to ?_
          rw [nI_inj (by omega) (by omega)]
          refine ⟨fun z => go (fun e => absurd e z), fun z => ?_⟩
          refine (s_havingAll h (by omega)).to ?_
          have hm16 := msk_lt (fun j => decide (S.getD j 0 &&& i = i)) S.length
          have hp17 := pow17 (m := S.length) (by omega)
          refine (s_ones (by omega)).to ?_
          rw [pop_msk _ _ (by omega)]
          refine CL.to (s_Mpower (by omega) (by omega)) ?_
          refine CL.to (s_Mpower (by omega) (by omega)) ?_
          have hh : hvN S i ≤ 17 := Nat.le_trans hvN_le (by omega)
          have hh2 : cntP (fun j => decide (S.getD j 0 &&& i = i)) S.length = hvN S i := rfl
          rw [hh2, h.2.1, nI_l (by omega), nI_l (by omega), lN_mul, lN_mul, lcN (hp_lt hh hp (by omega)) (hp_lt (by omega) hq (by omega))]
          refine ⟨fun z3 => go (fun e => ?_), fun z3 => ?_⟩
          · rw [Dn, e]; omega
          · have hFD : FD (2 ^ n) S p q i := ⟨hi1, hi, by rw [Dn, z]; omega, fun b' w1 w2 w3 => by
              rcases Nat.lt_or_ge (pop b') s with y | y
              · exact absurd w3 (hno b' w1 w2 y)
              · rcases Nat.lt_or_ge s (pop b') with y2 | y2
                · left; omega
                · right
                  refine ⟨by omega, ?_⟩
                  rcases Nat.lt_or_ge b' i with y3 | y3
                  · exact absurd w3 (hni b' w1 y3 (by omega))
                  · exact y3⟩
            have e := fdN_eq hFD
            exact ⟨by rw [e], fun z4 => absurd z4 (by rw [e]; omega), fun _ => by rw [e]; exact hFD, rfl⟩
      exact key2 1 h1n (Nat.le_refl _) (fun b b1 b2 => by omega)
  exact key 1 (by omega) (Nat.le_refl _) (fun b b1 b2 b3 => by have := pop_pos (b := b) (by omega) (by omega); omega)
theorem fdN_lt {p q : Nat} (hn : n ≤ 10) : fdN n S p q < 1024 := by
  have hpn : 2 ^ n ≤ 2 ^ 10 := Nat.pow_le_pow_right (by decide) hn
  unfold fdN
  split
  · rename_i h
    have := (Classical.choose_spec h).2.1
    omega
  · decide
theorem y_spread {a w : Int32} (h : Now mem n S) : CI shM m_Mo_spread (d + 3) [.ref 0, .int a, .int w] mem (fun r m' => r = aSpread n S a w ∧ Keep mem m') := by
  refine e_Mo_spread ⟨fun c => ⟨by rw [aSpread, ifP_f (fun z => c z.1)], Keep.rf⟩, fun c1 => ⟨fun c2 => ?_, fun c => ⟨by rw [aSpread, ifP_f (fun z => c z.2)], Keep.rf⟩⟩⟩
  rw [aSpread, ifP_t ⟨c1, c2⟩]
  obtain ⟨p, hp1, hp, rfl⟩ := of_1_9 c1
  obtain ⟨q, hq1, hq, rfl⟩ := of_1_9 c2
  rw [nI_clamp (by omega), nI_clamp (by omega)]
  refine (s_firstDense h hp hq).mono ?_
  rintro v m' ⟨e1, -, -, rfl⟩
  have hlt := fdN_lt (S := S) (p := p) (q := q) h.2.2.2.1
  rw [e1, nI_z (by omega)]
  exact ⟨fun z => ⟨by rw [if_neg z], Keep.rf⟩, fun z => ⟨by rw [if_pos z], Keep.rf⟩⟩
theorem y_spreadest (h : Now mem n S) : CI shM m_Mo_spreadest (d + 3) [.ref 0] mem (fun r m' => r = aSpreadest n S ∧ Keep mem m') := by
  have hl := h.2.2.1
  rw [aSpreadest]
  refine e_Mo_spreadest ⟨fun c => ?_, fun c => ⟨?_, Keep.rf⟩⟩
  · rw [h.2.1, nI_z (by omega)] at c
    rw [if_neg c]
    have key : ∀ p, p ≤ 9 → (∀ p', p < p' → p' ≤ 9 → ∃ b, 1 ≤ b ∧ b < 2 ^ n ∧ Dn S p' 1 b) → Wp shM m_Mo_spreadest (d + 3) 13 [some (.ref 0), some (.int (nI p))] [] mem (QI (fun r m' => r = lstI (SpE n S) (-2) ∧ Keep mem m')) := by
      intro p
      induction p with
      | zero =>
        intro hp hno
        obtain ⟨b, -, -, hb⟩ := hno 1 (by decide) (by decide)
        exact absurd hb Dn.no1
      | succ p ih =>
        intro hp hno
        refine b_Mo_spreadest_13 ⟨fun z => absurd z (nI_nle (by omega) (by omega)), fun _ => ?_⟩
        refine (s_firstDense h hp (q := 1) (by decide)).mono ?_
        rintro v m' ⟨e1, e2, e3, rfl⟩
        have hlt := fdN_lt (S := S) (p := p + 1) (q := 1) h.2.2.2.1
        rw [e1, nI_z (by omega)]
        refine ⟨fun z => ⟨fun _ => ⟨?_, Keep.rf⟩, fun z2 => absurd z2 (nI_ne0 (by omega) (by omega))⟩, fun z => ?_⟩
        · rw [spE_I ⟨by omega, hp, e2 z, hno⟩]
        · rw [nI_dec]
          have hF := e3 z
          refine ih (by omega) (fun p' w1 w2 => ?_)
          by_cases e : p' = p + 1
          · subst e; exact ⟨_, hF.1, hF.2.1, hF.2.2.1⟩
          · exact hno p' (by omega) w2
    exact key 9 (Nat.le_refl _) (fun p' w1 w2 => by omega)
  · rw [h.2.1, nI_z (by omega)] at c
    rw [if_pos c]
theorem x_spreadest (h : Fam mem 1 n S) : CI shX m_PS_spreadest (d + 3) [.ref 0] mem (fun r m' => r = aSpreadest n S ∧ Same mem m' [11, 12, 13]) := by
  have hl := h.2.2.1
  have hn := h.2.2.2.1
  have hpn : 2 ^ n ≤ 2 ^ 10 := Nat.pow_le_pow_right (by decide) hn
  have h1n : 1 ≤ 2 ^ n := Nat.one_le_two_pow
  rw [aSpreadest]
  refine e_PS_spreadest ⟨fun c => ?_, fun c => ⟨?_, Same.rf⟩⟩
  · rw [h.2.1, nI_z (by omega)] at c
    rw [if_neg c]
    refine (s_fillLacking isF_1 (by decide) h).mono ?_
    rintro m1 ⟨hT, hS⟩
    have hF := h.same hS (by decide) (by decide)
    have key : ∀ i, i ≤ 2 ^ n → 1 ≤ i → ∀ p, 1 ≤ p → p ≤ 9 → (∀ b, 1 ≤ b → b < i → ¬ Dn S p 1 b) → (∀ p', p < p' → p' ≤ 9 → ∃ b, 1 ≤ b ∧ b < 2 ^ n ∧ Dn S p' 1 b) → Wp shX m_PS_spreadest (d + 3) 29 [some (.ref 0), some (.int (nI p)), some (.int (nI i))] [] m1 (QI (fun r m' => r = lstI (SpE n S) (-2) ∧ Same mem m' [11, 12, 13])) := by
      refine downInd (P := fun i => 1 ≤ i → ∀ p, 1 ≤ p → p ≤ 9 → (∀ b, 1 ≤ b → b < i → ¬ Dn S p 1 b) → (∀ p', p < p' → p' ≤ 9 → ∃ b, 1 ≤ b ∧ b < 2 ^ n ∧ Dn S p' 1 b) → Wp shX m_PS_spreadest (d + 3) 29 [some (.ref 0), some (.int (nI p)), some (.int (nI i))] [] m1 (QI (fun r m' => r = lstI (SpE n S) (-2) ∧ Same mem m' [11, 12, 13]))) (2 ^ n) ?_ ?_
      · intro _ p hp1 hp hno hup
        exact b_PS_spreadest_29 ⟨fun _ => ⟨by rw [spE_I ⟨hp1, hp, hno, hup⟩], hS⟩, fun c => absurd (by rw [hF.1, al (by omega)]; exact nI_lt (by omega) (by omega)) c⟩
      · intro i hi ih hi1 p hp1 hp hno hup
        refine b_PS_spreadest_29 ⟨fun c => absurd c (by rw [hF.1, al (by omega), nI_ltI (by omega) (by omega)]; omega), fun _ => ?_⟩
        have hpi : pop i ≤ 10 := pop_lt (by decide) (by omega)
        have hh : hvN S i ≤ 17 := Nat.le_trans hvN_le hl
        have key2 : ∀ p, 1 ≤ p → p ≤ 9 → (∀ b, 1 ≤ b → b < i → ¬ Dn S p 1 b) → (∀ p', p < p' → p' ≤ 9 → ∃ b, 1 ≤ b ∧ b < 2 ^ n ∧ Dn S p' 1 b) → Wp shX m_PS_spreadest (d + 3) 40 [some (.ref 0), some (.int (nI p)), some (.int (nI i))] [] m1 (QI (fun r m' => r = lstI (SpE n S) (-2) ∧ Same mem m' [11, 12, 13])) := by
          intro p
          induction p with
          | zero => intro hp1; omega
          | succ p ihp =>
            intro hp1 hp hno hup
            have stop : ¬ Dn S (p + 1) 1 i → Wp shX m_PS_spreadest (d + 3) 29 [some (.ref 0), some (.int (nI (p + 1))), some (.int (nI i + 1))] [] m1 (QI (fun r m' => r = lstI (SpE n S) (-2) ∧ Same mem m' [11, 12, 13])) := by
              intro hd
              rw [nI_1]
              refine ih (by omega) (p + 1) hp1 hp (fun b b1 b2 => ?_) hup
              by_cases e : b = i
              · subst e; exact hd
              · exact hno b b1 (by omega)
            refine b_PS_spreadest_40 ⟨fun z => ?_, fun z => ?_⟩
            · have hz : p + 1 ≤ 1 := (nI_leI (a := p + 1) (b := 1) (by omega) (by omega)).mp z
              have hz0 : p = 0 := by omega
              subst hz0
              exact stop Dn.no1
            · have hz : ¬ p + 1 ≤ 1 := fun q => z (nI_le (b := 1) q (by decide))
              rw [bc (by omega), untouched_lack hT hn hl hi]
              refine CL.to (s_power (by omega) (by omega)) ?_
              rw [hF.2.1, nI_l (by omega), nI_l (by omega), lN_mul, lcN (hp_lt hh hp hpi) (by omega)]
              refine ⟨fun z3 => stop ?_, fun z3 => ?_⟩
              · rw [Dn, Nat.one_pow, Nat.mul_one]; omega
              · rw [nI_dec]
                have hD : Dn S (p + 1) 1 i := by rw [Dn, Nat.one_pow, Nat.mul_one]; omega
                refine ihp (by omega) (by omega) (fun b b1 b2 hb => hno b b1 b2 (hb.up (by omega))) (fun p' w1 w2 => ?_)
                by_cases e : p' = p + 1
                · subst e; exact ⟨i, hi1, hi, hD⟩
                · exact hup p' (by omega) w2
        exact key2 p hp1 hp hno hup
    exact key 1 h1n (Nat.le_refl _) 9 (by decide) (by decide) (fun b b1 b2 => by omega) (fun p' w1 w2 => by omega)
  · rw [h.2.1, nI_z (by omega)] at c
    rw [if_pos c]
end SPR
