/-! exact of the class: a search that covers the least open point -/
theorem popT_strict {s p : Nat} : ∀ (w a : Nat), (∀ i, a.testBit i = true → s.testBit i = true) → p < w → s.testBit p = true → a.testBit p = false → popT w a < popT w s
  | 0, a, _, hp, _, _ => absurd hp (Nat.not_lt_zero _)
  | w + 1, a, h, hp, h1, h2 => by
    rw [popT, popT]
    by_cases e : p = w
    · subst e
      have := pop_mono p a h
      simp only [h1, h2]
      simp
      omega
    · have := popT_strict w a h (by omega) h1 h2
      have h3 := h w
      cases e2 : a.testBit w with
      | false => simp; omega
      | true => simp [h3 e2]; omega
/-- the least of those below N, -2: there is none -/
def LeP (P : Nat → Bool) (N : Nat) (L : Int32) : Prop := (∃ b, b < N ∧ P b = true ∧ (∀ b', b' < N → P b' = true → b ≤ b') ∧ L = nI b) ∨ ((∀ b, b < N → ¬ P b = true) ∧ L = -2)
theorem LeP.uniq {P : Nat → Bool} {N : Nat} {L L' : Int32} (h : LeP P N L) (h' : LeP P N L') : L = L' := by
  rcases h with ⟨b, h1, h2, h3, h4⟩ | ⟨h1, h2⟩ <;> rcases h' with ⟨b', h1', h2', h3', h4'⟩ | ⟨h1', h2'⟩
  · rw [h4, h4', Nat.le_antisymm (h3 b' h1' h2') (h3' b h1 h2)]
  · exact absurd h2 (h1' b h1)
  · exact absurd h2' (h1 b' h1')
  · rw [h2, h2']
theorem nI_m2 {a : Nat} (h : a < 2 ^ 31) : ¬ nI a = -2 := by
  intro e
  exact nI_pos h (by rw [e]; decide)
theorem fstI_le {f : Nat → Bool} : ∀ N, N < 2 ^ 31 → LeP f N (fstI f N)
  | 0, _ => Or.inr ⟨fun b hb => absurd hb (Nat.not_lt_zero _), rfl⟩
  | N + 1, hN => by
    rcases fstI_le (f := f) N (by omega) with ⟨b, h1, h2, h3, h4⟩ | ⟨h1, h2⟩
    · rw [fstI_k (by rw [h4]; exact nI_m2 (by omega))]
      refine Or.inl ⟨b, by omega, h2, fun b' hb' q => ?_, h4⟩
      rcases Nat.lt_or_ge b' N with z | z
      · exact h3 b' z q
      · omega
    · by_cases e : f N = true
      · rw [fstI_t e h2]
        refine Or.inl ⟨N, by omega, e, fun b' hb' q => ?_, rfl⟩
        rcases Nat.lt_or_ge b' N with z | z
        · exact absurd q (h1 b' z)
        · exact z
      · rw [fstI_f e]
        refine Or.inr ⟨fun b hb q => ?_, h2⟩
        rcases Nat.lt_or_ge b N with z | z
        · exact h1 b z q
        · rw [show b = N by omega] at q; exact e q
theorem uniT_bit (g : Nat → Nat) (j : Nat) : ∀ i, (uniT g i).testBit j = true ↔ ∃ k, k < i ∧ (g k).testBit j = true
  | 0 => by simp [uniT]
  | i + 1 => by
    rw [uniT, Nat.testBit_or, Bool.or_eq_true, uniT_bit g j i]
    constructor
    · rintro (⟨k, a, c⟩ | c)
      · exact ⟨k, by omega, c⟩
      · exact ⟨i, by omega, c⟩
    · rintro ⟨k, a, c⟩
      by_cases e : k = i
      · subst e; exact Or.inr c
      · exact Or.inl ⟨k, by omega, c⟩
theorem unT_all {g : Nat → Nat} {m : Nat} : unT g (2 ^ m - 1) m = uniT g m := by
  apply Nat.eq_of_testBit_eq
  intro j
  rw [Bool.eq_iff_iff, unT_bit, uniT_bit]
  constructor
  · rintro ⟨k, a, _, c⟩; exact ⟨k, a, c⟩
  · rintro ⟨k, a, c⟩
    exact ⟨k, a, by rw [Nat.testBit_two_pow_sub_one]; simp [a], c⟩
/-- a whole cover that goes on from c -/
def Qc (S : List Nat) (c x : Nat) : Prop := Ex S x ∧ ∀ i, c.testBit i = true → x.testBit i = true
noncomputable def qcB (S : List Nat) (P : Nat → Bool) (c x : Nat) : Bool := @decide (P x = true ∨ Qc S c x) (Classical.propDecidable _)
theorem qcB_iff {S : List Nat} {P : Nat → Bool} {c x : Nat} : qcB S P c x = true ↔ (P x = true ∨ Qc S c x) := @decide_eq_true_iff _ (Classical.propDecidable _)
/-- those that cover the point p by one of the first i sets -/
def Qi (S : List Nat) (c p i x : Nat) : Prop := Qc S c x ∧ ∃ j, j < i ∧ x.testBit j = true ∧ (S.getD j 0).testBit p = true
noncomputable def qiB (S : List Nat) (P : Nat → Bool) (c p i x : Nat) : Bool := @decide (P x = true ∨ Qi S c p i x) (Classical.propDecidable _)
theorem qiB_iff {S : List Nat} {P : Nat → Bool} {c p i x : Nat} : qiB S P c p i x = true ↔ (P x = true ∨ Qi S c p i x) := @decide_eq_true_iff _ (Classical.propDecidable _)
theorem and_no {a b p : Nat} (h : a &&& b = 0) (h1 : a.testBit p = true) (h2 : b.testBit p = true) : False := by
  have := congrArg (fun v => v.testBit p) h
  simp [Nat.testBit_and, h1, h2] at this
theorem and_zero_of {a b : Nat} (h : ∀ p, a.testBit p = true → b.testBit p = true → False) : a &&& b = 0 := by
  apply Nat.eq_of_testBit_eq
  intro p
  rw [Nat.testBit_and, Nat.zero_testBit]
  cases e1 : a.testBit p with
  | false => rfl
  | true =>
    cases e2 : b.testBit p with
    | false => rfl
    | true => exact absurd (h p e1 e2) id
theorem bit_ne {a : Nat} (h : a ≠ 0) : ∃ p, a.testBit p = true := by
  refine Classical.byContradiction (fun hn => h ?_)
  apply Nat.eq_of_testBit_eq
  intro i
  rw [Nat.zero_testBit]
  cases e : a.testBit i with
  | false => rfl
  | true => exact absurd ⟨i, e⟩ hn
theorem cov_one {S : List Nat} {c x : Nat} (hq : Qc S c x) (hcl : c < 2 ^ S.length) (h0 : ∀ i, i < S.length → S.getD i 0 ≠ 0) (hx : x < 2 ^ S.length) (ho : unT (fun i => S.getD i 0) c S.length = uniT (fun i => S.getD i 0) S.length) : x = c := by
  obtain ⟨⟨e1, e2⟩, e3⟩ := hq
  apply Nat.eq_of_testBit_eq
  intro i
  cases e : c.testBit i with
  | true => exact e3 i e
  | false =>
    cases e4 : x.testBit i with
    | false => rfl
    | true =>
      have hi := bit_lt hx e4
      obtain ⟨p, hp⟩ := bit_ne (h0 i hi)
      have h1 : (uniT (fun i => S.getD i 0) S.length).testBit p = true := (uniT_bit _ p _).mpr ⟨i, hi, hp⟩
      rw [← ho] at h1
      obtain ⟨k, k1, k2, k3⟩ := (unT_bit _ c p _).mp h1
      have hki : k ≠ i := fun z => by subst z; rw [e] at k2; cases k2
      rcases Nat.lt_or_gt_of_ne hki with z | z
      · exact absurd (and_no (e1 i k z e4 (e3 k k2)) hp k3) id
      · exact absurd (and_no (e1 k i z (e3 k k2) e4) k3 hp) id
section EXX
variable {n : Nat} {S : List Nat}
theorem s_coverEnd {d c lev : Nat} {P : Nat → Bool} {mem : Mem} (h : Fam mem 1 n S) (hc : c < 2 ^ S.length) (hcl : Cl (fun i => S.getD i 0) 0 c) (h0 : ∀ i, i < S.length → S.getD i 0 ≠ 0) (hun : unT (fun i => S.getD i 0) c S.length = uniT (fun i => S.getD i 0) S.length) (hP : ∀ x, P x = true → ¬ Qc S c x) (hw : mem 14 0 = nI (cntP P (2 ^ S.length))) (hL : LeP P (2 ^ S.length) (mem 14 1)) :
    CV shX m_Cover_coverRest (d + 1) [.ref 14, .ref 1, .int (nI 0), .int (nI c), .int (nI lev)] mem (fun m' => m' 14 0 = nI (cntP (qcB S P c) (2 ^ S.length)) ∧ LeP (qcB S P c) (2 ^ S.length) (m' 14 1) ∧ Same mem m' [14]) := by
  have hl := h.2.2.1
  have hp17 := pow17 hl
  have hQ : Qc S c c := ⟨⟨hcl, hun⟩, fun _ z => z⟩
  have hPc : ¬ P c = true := fun z => hP c z hQ
  have hx : ∀ x, x < 2 ^ S.length → (qcB S P c x = true ↔ (P x = true ∨ x = c)) := fun x hx => by
    rw [qcB_iff]
    exact ⟨fun z => z.elim Or.inl (fun y => Or.inr (cov_one y hc h0 hx hun)), fun z => z.elim Or.inl (fun y => Or.inr (by rw [y]; exact hQ))⟩
  have hcnt : cntP (qcB S P c) (2 ^ S.length) = cntP P (2 ^ S.length) + 1 := by
    rw [← cnt_ins (f := P) (f' := fun x => P x || decide (x = c)) (c := c) hPc (by simp) (fun x hx => by simp [hx]) (2 ^ S.length) hc]
    exact cntP_cong _ (fun x hx' => by rw [Bool.eq_iff_iff, hx x hx']; simp)
  have e1 : (up2 mem 14 0 (mem 14 0 + 1)) 14 1 = mem 14 1 := up2_nj (by decide)
  have e0 : ∀ v : Int32, (up2 (up2 mem 14 0 (mem 14 0 + 1)) 14 1 v) 14 0 = nI (cntP (qcB S P c) (2 ^ S.length)) := fun v => by
    rw [up2_nj (by decide), up2_at, hw, nI_1, hcnt]
  have e2 : ∀ v : Int32, Same mem (up2 (up2 mem 14 0 (mem 14 0 + 1)) 14 1 v) [14] := fun v => Same.tr (m2 := up2 mem 14 0 (mem 14 0 + 1)) (Same.up (by simp)) (Same.up (by simp))
  refine e_Cover_coverRest isF_1 ⟨fun z => absurd nI_0 z, fun _ => ⟨fun z => ⟨e0 _, ?_, e2 _⟩, fun z => ⟨e0 _, ?_, e2 _⟩⟩⟩
  · rw [up2_at, e1]
    rw [e1] at z
    rcases hL with ⟨b, b1, b2, b3, b4⟩ | ⟨b1, b2⟩
    · rw [b4]
      by_cases q : c < b
      · rw [if_pos (nI_lt q (by omega))]
        refine Or.inl ⟨c, hc, (hx c hc).mpr (Or.inr rfl), fun b' hb' q' => ?_, rfl⟩
        rcases (hx b' hb').mp q' with y | y
        · have := b3 b' hb' y; omega
        · omega
      · rw [if_neg (nI_nlt (by omega) (by omega))]
        refine Or.inl ⟨b, b1, (hx b b1).mpr (Or.inl b2), fun b' hb' q' => ?_, rfl⟩
        rcases (hx b' hb').mp q' with y | y
        · exact b3 b' hb' y
        · omega
    · exact absurd b2 z
  · rw [up2_at]
    rw [e1] at z
    rcases hL with ⟨b, b1, b2, b3, b4⟩ | ⟨b1, b2⟩
    · exact absurd (b4.symm.trans z) (nI_m2 (by omega))
    · refine Or.inl ⟨c, hc, (hx c hc).mpr (Or.inr rfl), fun b' hb' q' => ?_, rfl⟩
      rcases (hx b' hb').mp q' with y | y
      · exact absurd y (b1 b' hb')
      · omega
theorem s_coverRest (h0 : ∀ i, i < S.length → S.getD i 0 ≠ 0) : ∀ (lev d o c : Nat) (P : Nat → Bool) (mem : Mem), lev ≤ d → lev ≤ 10 → Fam mem 1 n S → c < 2 ^ S.length → Cl (fun i => S.getD i 0) 0 c → o < 1024 → (∀ p, o.testBit p = true ↔ ((uniT (fun i => S.getD i 0) S.length).testBit p = true ∧ ¬ (unT (fun i => S.getD i 0) c S.length).testBit p = true)) → pop o ≤ lev → (∀ x, P x = true → ¬ Qc S c x) → mem 14 0 = nI (cntP P (2 ^ S.length)) → LeP P (2 ^ S.length) (mem 14 1) →
    CV shX m_Cover_coverRest (d + 1) [.ref 14, .ref 1, .int (nI o), .int (nI c), .int (nI lev)] mem (fun m' => m' 14 0 = nI (cntP (qcB S P c) (2 ^ S.length)) ∧ LeP (qcB S P c) (2 ^ S.length) (m' 14 1) ∧ Same mem m' [14]) := by
  intro lev
  induction lev with
  | zero =>
    intro d o c P mem hd hl10 h hc hcl ho hob hpo hP hw hL
    have hl := h.2.2.1
    have hp17 := pow17 hl
    have hoz : o = 0 := Classical.byContradiction (fun z => by have := pop_pos (b := o) (by omega) z; omega)
    subst hoz
    have hun : unT (fun i => S.getD i 0) c S.length = uniT (fun i => S.getD i 0) S.length := by
      apply Nat.eq_of_testBit_eq
      intro p
      rw [Bool.eq_iff_iff]
      have := hob p
      simp only [Nat.zero_testBit, Bool.false_eq_true, false_iff, not_and, Classical.not_not] at this
      exact ⟨fun z => by
        obtain ⟨k, k1, k2, k3⟩ := (unT_bit _ c p _).mp z
        exact (uniT_bit _ p _).mpr ⟨k, k1, k3⟩, this⟩
    exact s_coverEnd h hc hcl h0 hun hP hw hL
  | succ lev ih =>
    intro d o c P mem hd hl10 h hc hcl ho hob hpo hP hw hL
    have hl := h.2.2.1
    have hp17 := pow17 hl
    by_cases hoz : o = 0
    · subst hoz
      have hun : unT (fun i => S.getD i 0) c S.length = uniT (fun i => S.getD i 0) S.length := by
        apply Nat.eq_of_testBit_eq
        intro p
        rw [Bool.eq_iff_iff]
        have := hob p
        simp only [Nat.zero_testBit, Bool.false_eq_true, false_iff, not_and, Classical.not_not] at this
        exact ⟨fun z => by
          obtain ⟨k, k1, k2, k3⟩ := (unT_bit _ c p _).mp z
          exact (uniT_bit _ p _).mpr ⟨k, k1, k3⟩, this⟩
      exact s_coverEnd h hc hcl h0 hun hP hw hL
    · obtain ⟨p, hp1, hp2, hp3⟩ := low_ex 10 (show o < 2 ^ 10 by omega) hoz
      obtain ⟨hpU, hpc⟩ := (hob p).mp hp2
      have hnc : ∀ j, j < S.length → (S.getD j 0).testBit p = true → c.testBit j = false := by
        intro j hj hg
        cases e : c.testBit j with
        | false => rfl
        | true => exact absurd ((unT_bit _ c p _).mpr ⟨j, hj, e, hg⟩) hpc
      refine e_Cover_coverRest isF_1 ⟨fun _ => ⟨fun _ => ?_, fun z => absurd (show (0 : Int32) < nI (lev + 1) from nI_lt (a := 0) (by omega) (by omega)) z⟩, fun z => absurd ((nI_z (by omega)).mp z) hoz⟩
      rw [lob (by omega) hp2 hp3]
      have h0eq : qiB S P c p 0 = P := by
        funext x
        rw [Bool.eq_iff_iff, qiB_iff]
        exact ⟨fun z => z.elim id (fun ⟨_, j, hj, _⟩ => absurd hj (Nat.not_lt_zero _)), Or.inl⟩
      have key : ∀ i, i ≤ S.length → ∀ m0 : Mem, Fam m0 1 n S → Same mem m0 [14] → m0 14 0 = nI (cntP (qiB S P c p i) (2 ^ S.length)) → LeP (qiB S P c p i) (2 ^ S.length) (m0 14 1) → Wp shX m_Cover_coverRest (d + 1) 55 [some (.ref 14), some (.ref 1), some (.int (nI o)), some (.int (nI c)), some (.int (nI (lev + 1))), some (.int (nI (2 ^ p))), some (.int (nI i)), none] [] m0 (QV (fun m' => m' 14 0 = nI (cntP (qcB S P c) (2 ^ S.length)) ∧ LeP (qcB S P c) (2 ^ S.length) (m' 14 1) ∧ Same mem m' [14])) := by
        refine downInd (P := fun i => ∀ m0 : Mem, Fam m0 1 n S → Same mem m0 [14] → m0 14 0 = nI (cntP (qiB S P c p i) (2 ^ S.length)) → LeP (qiB S P c p i) (2 ^ S.length) (m0 14 1) → Wp shX m_Cover_coverRest (d + 1) 55 [some (.ref 14), some (.ref 1), some (.int (nI o)), some (.int (nI c)), some (.int (nI (lev + 1))), some (.int (nI (2 ^ p))), some (.int (nI i)), none] [] m0 (QV (fun m' => m' 14 0 = nI (cntP (qcB S P c) (2 ^ S.length)) ∧ LeP (qcB S P c) (2 ^ S.length) (m' 14 1) ∧ Same mem m' [14]))) S.length ?_ ?_
        · intro m0 hF hS e1 e2
          have hend : qiB S P c p S.length = qcB S P c := by
            funext x
            rw [Bool.eq_iff_iff, qiB_iff, qcB_iff]
            refine ⟨fun z => z.elim Or.inl (fun y => Or.inr y.1), fun z => z.elim Or.inl (fun y => Or.inr ⟨y, ?_⟩)⟩
            have hu := y.1.2
            rw [← hu] at hpU
            obtain ⟨k, k1, k2, k3⟩ := (unT_bit _ x p _).mp hpU
            exact ⟨k, k1, k2, k3⟩
          rw [hend] at e1 e2
          exact b_Cover_coverRest_55 isF_1 ⟨fun _ => ⟨e1, e2, hS⟩, fun z => absurd ((hF.ge (Nat.le_refl _)).mpr rfl) z⟩
        · intro i hi ihi m0 hF hS e1 e2
          have hg := hF.small i
          have hp2p : 2 ^ p < 1024 := Nat.lt_of_lt_of_le (Nat.pow_lt_pow_right (by decide) hp1) (by decide)
          have skip : (∀ x, Qc S c x → x.testBit i = true → (S.getD i 0).testBit p = true → False) → Wp shX m_Cover_coverRest (d + 1) 55 [some (.ref 14), some (.ref 1), some (.int (nI o)), some (.int (nI c)), some (.int (nI (lev + 1))), some (.int (nI (2 ^ p))), some (.int (nI i + 1)), none] [] m0 (QV (fun m' => m' 14 0 = nI (cntP (qcB S P c) (2 ^ S.length)) ∧ LeP (qcB S P c) (2 ^ S.length) (m' 14 1) ∧ Same mem m' [14])) := by
            intro hno
            have e : qiB S P c p (i + 1) = qiB S P c p i := by
              funext x
              rw [Bool.eq_iff_iff, qiB_iff, qiB_iff]
              refine ⟨fun z => z.elim Or.inl (fun ⟨y1, j, y2, y3, y4⟩ => Or.inr ⟨y1, j, ?_, y3, y4⟩), fun z => z.elim Or.inl (fun ⟨y1, j, y2, y3, y4⟩ => Or.inr ⟨y1, j, by omega, y3, y4⟩)⟩
              by_cases ej : j = i
              · subst ej; exact absurd (hno x y1 y3 y4) id
              · omega
            rw [nI_1]
            exact ihi m0 hF hS (by rw [e]; exact e1) (by rw [e]; exact e2)
          refine b_Cover_coverRest_55 isF_1 ⟨fun z => absurd ((hF.ge (Nat.le_of_lt hi)).mp z) (by omega), fun _ => ?_⟩
          rw [hF.aF hi, ia, nI_z (Nat.lt_of_le_of_lt Nat.and_le_left (by omega)), idif, nI_z (Nat.lt_trans (dif_lt (m := 10) hg) (by decide))]
          refine ⟨fun z => skip (fun x _ _ z2 => ?_), fun z => ⟨fun z2 => skip (fun x z3 z4 z5 => ?_), fun z2 => ?_⟩⟩
          · exact and_no z z2 Nat.testBit_two_pow_self
          · obtain ⟨q, hq⟩ := bit_ne z2
            rw [dif_bit, Bool.and_eq_true] at hq
            have hqU : (uniT (fun i => S.getD i 0) S.length).testBit q = true := (uniT_bit _ q _).mpr ⟨i, hi, hq.1⟩
            have hqc : (unT (fun i => S.getD i 0) c S.length).testBit q = true := by
              refine Classical.byContradiction (fun zz => ?_)
              rw [(hob q).mpr ⟨hqU, zz⟩] at hq
              simp at hq
            obtain ⟨k, k1, k2, k3⟩ := (unT_bit _ c q _).mp hqc
            have hki : k ≠ i := fun e => by subst e; rw [hnc k k1 z5] at k2; cases k2
            rcases Nat.lt_or_gt_of_ne hki with y | y
            · exact and_no (z3.1.1 i k y z4 (z3.2 k k2)) hq.1 k3
            · exact and_no (z3.1.1 k i y (z3.2 k k2) z4) k3 hq.1
          · have hgp : (S.getD i 0).testBit p = true := by
              cases e : (S.getD i 0).testBit p with
              | true => rfl
              | false =>
                refine absurd (and_zero_of (fun q q1 q2 => ?_)) z
                rw [Nat.testBit_two_pow, decide_eq_true_iff] at q2
                subst q2
                rw [e] at q1; cases q1
            have hgo : ∀ q, (S.getD i 0).testBit q = true → o.testBit q = true := by
              intro q hq
              have := congrArg (fun v => v.testBit q) z2
              rw [dif_bit, Nat.zero_testBit, hq] at this
              simpa using this
            have hci : c.testBit i = false := hnc i hi hgp
            rw [idif, sh1 (by omega), io, show nI (lev + 1) - 1 = nI lev from nI_pred lev]
            obtain ⟨d', rfl⟩ : ∃ d', d = d' + 1 := ⟨d - 1, by omega⟩
            have hc'b : ∀ j, (c ||| 2 ^ i).testBit j = true ↔ (c.testBit j = true ∨ i = j) := by
              intro j
              rw [Nat.testBit_or, Bool.or_eq_true, Nat.testBit_two_pow, decide_eq_true_iff]
            have hcx : ∀ k, c.testBit k = true → S.getD i 0 &&& S.getD k 0 = 0 := by
              intro k hk
              refine and_zero_of (fun q q1 q2 => ?_)
              exact ((hob q).mp (hgo q q1)).2 ((unT_bit _ c q _).mpr ⟨k, bit_lt hc hk, hk, q2⟩)
            refine (ih d' (dif o (S.getD i 0)) (c ||| 2 ^ i) (qiB S P c p i) m0 (by omega) (by omega) hF (Nat.or_lt_two_pow hc (Nat.pow_lt_pow_right (by decide) hi)) ?_ (dif_lt (m := 10) ho) ?_ ?_ ?_ e1 e2).mono ?_
            · intro a b hab ha hb
              rcases (hc'b a).mp ha with ha | ha <;> rcases (hc'b b).mp hb with hb | hb
              · exact hcl a b hab ha hb
              · subst hb
                show S.getD a 0 &&& S.getD i 0 = 0
                rw [Nat.and_comm]; exact hcx a ha
              · subst ha; exact hcx b hb
              · omega
            · intro q
              rw [dif_bit, Bool.and_eq_true, hob q]
              have hun : (unT (fun i => S.getD i 0) (c ||| 2 ^ i) S.length).testBit q = true ↔ ((unT (fun i => S.getD i 0) c S.length).testBit q = true ∨ (S.getD i 0).testBit q = true) := by
                rw [unT_bit, unT_bit]
                constructor
                · rintro ⟨k, k1, k2, k3⟩
                  rcases (hc'b k).mp k2 with y | y
                  · exact Or.inl ⟨k, k1, y, k3⟩
                  · subst y; exact Or.inr k3
                · rintro (⟨k, k1, k2, k3⟩ | y)
                  · exact ⟨k, k1, (hc'b k).mpr (Or.inl k2), k3⟩
                  · exact ⟨i, hi, (hc'b i).mpr (Or.inr rfl), y⟩
              rw [hun]
              cases (S.getD i 0).testBit q <;> simp
            · have := popT_strict (s := o) (p := p) 20 (dif o (S.getD i 0)) (fun j hj => by rw [dif_bit, Bool.and_eq_true] at hj; exact hj.1) (by omega) hp2 (by rw [dif_bit, hp2, hgp]; rfl)
              have e3 : pop (dif o (S.getD i 0)) < pop o := this
              omega
            · intro x hx hq
              have hqc : Qc S c x := ⟨hq.1, fun j hj => hq.2 j ((hc'b j).mpr (Or.inl hj))⟩
              rcases qiB_iff.mp hx with y | ⟨-, j, y2, y3, y4⟩
              · exact hP x y hqc
              · exact and_no (hq.1.1 i j y2 (hq.2 i ((hc'b i).mpr (Or.inr rfl))) y3) hgp y4
            · rintro m1 ⟨f1, f2, f3⟩
              have e : qcB S (qiB S P c p i) (c ||| 2 ^ i) = qiB S P c p (i + 1) := by
                funext x
                rw [Bool.eq_iff_iff, qcB_iff, qiB_iff, qiB_iff]
                constructor
                · rintro ((y | ⟨y1, j, y2, y3, y4⟩) | y)
                  · exact Or.inl y
                  · exact Or.inr ⟨y1, j, by omega, y3, y4⟩
                  · exact Or.inr ⟨⟨y.1, fun j hj => y.2 j ((hc'b j).mpr (Or.inl hj))⟩, i, by omega, y.2 i ((hc'b i).mpr (Or.inr rfl)), hgp⟩
                · rintro (y | ⟨y1, j, y2, y3, y4⟩)
                  · exact Or.inl (Or.inl y)
                  · by_cases ej : j = i
                    · subst ej
                      refine Or.inr ⟨y1.1, fun k hk => ?_⟩
                      rcases (hc'b k).mp hk with q | q
                      · exact y1.2 k q
                      · subst q; exact y3
                    · exact Or.inl (Or.inr ⟨y1, j, by omega, y3, y4⟩)
              rw [e] at f1 f2
              rw [nI_1]
              exact ihi m1 (hF.same f3 (by decide) (by decide)) (hS.tr f3) f1 f2
      exact key 0 (Nat.zero_le _) mem h Same.rf (by rw [h0eq]; exact hw) (by rw [h0eq]; exact hL)
theorem x_exact {d : Nat} {mem : Mem} {a : Int32} (h : Fam mem 1 n S) (h0 : ∀ i, i < S.length → S.getD i 0 ≠ 0) : CI shX m_PS_exact (d + 16) [.ref 0, .int a] mem (fun r m' => r = aExact S a ∧ Same mem m' [14]) := by
  have hl := h.2.2.1
  have hp17 := pow17 hl
  refine e_PS_exact ⟨fun c => ⟨by rw [aExact, ifP_f (fun z => i_nl.mpr z.1 c)], Same.rf⟩, fun c => ⟨fun c2 => ?_, fun c2 => ⟨by rw [aExact, ifP_f (fun z => c2 z.2)], Same.rf⟩⟩⟩
  rw [aExact, ifP_t ⟨i_nl.mp c, c2⟩]
  refine e_Cover_run isF_1 ?_
  have hS1 : Same mem (up2 (up2 mem 14 0 0) 14 1 (-2)) [14] := Same.tr (m2 := up2 mem 14 0 0) (Same.up (by simp)) (Same.up (by simp))
  have h1 : Fam (up2 (up2 mem 14 0 0) 14 1 (-2)) 1 n S := h.same hS1 (by decide) (by decide)
  have h1p : 1 ≤ 2 ^ S.length := Nat.one_le_two_pow
  rw [h1.2.1, al (by omega)]
  refine (s_unionOf isF_1 h1 (by omega)).to ?_
  rw [unT_all, show (0 : Int32) = nI 0 from nI_0.symm, show (10 : Int32) = nI 10 from rfl]
  have hu2 : uniT (fun i => S.getD i 0) S.length < 2 ^ 10 := uniT_lt (fun j => h.2.2.2.2.2 j) _
  have hun0 : unT (fun i => S.getD i 0) 0 S.length = 0 := unT_nil _
  refine (s_coverRest h0 10 (d + 13) _ 0 (fun _ => false) _ (by omega) (by omega) h1 (by omega) (fun i j _ hi => by simp at hi) hu2 (fun p => by rw [hun0]; simp) (pop_lt (by decide) hu2) (fun x hx => by simp at hx) ?_ ?_).mono ?_
  · rw [up2_nj (by decide), up2_at, cntP_no _ (fun _ _ => by simp)]; exact nI_0.symm
  · rw [up2_at]; exact Or.inr ⟨fun _ _ => by simp, rfl⟩
  · rintro m1 ⟨f1, f2, f3⟩
    have e : qcB S (fun _ => false) 0 = exB S := by
      funext x
      rw [Bool.eq_iff_iff, qcB_iff, exB_iff]
      exact ⟨fun z => z.elim (fun y => by simp at y) (fun y => y.1), fun z => Or.inr ⟨z, fun i hi => by simp at hi⟩⟩
    rw [e] at f1 f2
    refine ⟨fun z => ⟨?_, hS1.tr f3⟩, fun z => ⟨?_, hS1.tr f3⟩⟩
    · rw [if_neg z]; exact f2.uniq (fstI_le _ (by omega))
    · rw [if_pos z]; exact f1
end EXX
