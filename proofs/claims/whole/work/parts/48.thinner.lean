/-! the most sets free of k: Thinner.closes, choose -/
/-- no k of these sets are a sunflower -/
def Fr (g : Nat → Nat) (k b : Nat) : Prop := ∀ e c, (∀ l, e.testBit l = true → b.testBit l = true) → pop e = k → ¬ Cl g c e
theorem Fr.sub {g : Nat → Nat} {k b b' : Nat} (h : Fr g k b) (hs : ∀ l, b'.testBit l = true → b.testBit l = true) : Fr g k b' := fun e c h1 h2 => h e c (fun l hl => hs l (h1 l hl)) h2
/-- some of s, k of them, are with the set x a sunflower -/
def Cls (g : Nat → Nat) (s x k : Nat) : Prop := ∃ e c, (∀ l, e.testBit l = true → s.testBit l = true) ∧ pop e = k ∧ Cl g c e ∧ ∀ l, e.testBit l = true → g l &&& x = c
/-- the sets that fit with both i and j -/
def fitM (g : Nat → Nat) (m i j : Nat) : Nat := msk (fun l => decide (g l &&& g i = g i &&& g j) && decide (g l &&& g j = g i &&& g j)) m
theorem Cls.top {g : Nat → Nat} {m s i j k e : Nat} (hm : m ≤ 17) (hj : j < m) (hk : 1 ≤ k) (he : e < 2 ^ j) (hsj : s.testBit j = true) : ((∃ c, (∀ l, (e + 2 ^ j).testBit l = true → s.testBit l = true) ∧ pop (e + 2 ^ j) = k + 1 ∧ Cl g c (e + 2 ^ j) ∧ ∀ l, (e + 2 ^ j).testBit l = true → g l &&& g i = c) ↔ ∃ c, (∀ l, e.testBit l = true → (s &&& fitM g m i j &&& (2 ^ j - 1)).testBit l = true) ∧ pop e = k ∧ Cl g c e ∧ ∀ l, e.testBit l = true → g l &&& g i = c) := by
  constructor
  · rintro ⟨c, h1, h2, h3, h4⟩
    obtain ⟨h5, h6⟩ := (Cl.top he).mp h3
    have hc : g i &&& g j = c := by rw [Nat.and_comm]; exact h4 j (top_at he)
    refine ⟨c, fun l hl => ?_, by rw [pop_top he (by omega)] at h2; omega, h5, fun l hl => h4 l (by rw [top_lo he (bit_lt he hl)]; exact hl)⟩
    have lj := bit_lt he hl
    have e1 : g l &&& g i = c := h4 l (by rw [top_lo he lj]; exact hl)
    have e2 : g l &&& g j = c := by rw [Nat.and_comm]; exact h6 l hl
    rw [Nat.testBit_and, Nat.testBit_and, h1 l (by rw [top_lo he lj]; exact hl), fitM, msk_bit, Nat.testBit_two_pow_sub_one, hc]
    simp [e1, e2, lj, show l < m by omega]
  · rintro ⟨c, h1, h2, h3, h4⟩
    have h5 : ∀ l, e.testBit l = true → s.testBit l = true ∧ g l &&& g i = g i &&& g j ∧ g l &&& g j = g i &&& g j := by
      intro l hl
      have := h1 l hl
      rw [Nat.testBit_and, Nat.testBit_and, fitM, msk_bit] at this
      simp only [Bool.and_eq_true, decide_eq_true_iff] at this
      exact ⟨this.1.1, this.1.2.2.1, this.1.2.2.2⟩
    have hne : e ≠ 0 := fun z => by rw [z, pop_zero] at h2; omega
    obtain ⟨l0, hl0⟩ := bit_ne hne
    have hc : c = g i &&& g j := (h4 l0 hl0).symm.trans (h5 l0 hl0).2.1
    subst hc
    refine ⟨g i &&& g j, fun l hl => ?_, by rw [pop_top he (by omega), h2], (Cl.top he).mpr ⟨h3, fun l hl => by rw [Nat.and_comm]; exact (h5 l hl).2.2⟩, fun l hl => ?_⟩
    · have ll := bit_lt (top_lt he) hl
      rcases Nat.lt_or_ge l j with q | q
      · rw [top_lo he q] at hl; exact (h5 l hl).1
      · rw [show l = j by omega]; exact hsj
    · have ll := bit_lt (top_lt he) hl
      rcases Nat.lt_or_ge l j with q | q
      · rw [top_lo he q] at hl; exact (h5 l hl).2.1
      · rw [show l = j by omega, Nat.and_comm]
theorem Fr.add {g : Nat → Nat} {k c i m : Nat} (hm : m ≤ 17) (hk : 1 ≤ k) (hc : c < 2 ^ m) (hi : i < m) (h : Fr g (k + 1) c) (hn : ¬ Cls g c (g i) k) : Fr g (k + 1) (c ||| 2 ^ i) := by
  intro e c' h1 h2 h3
  have h1' : ∀ l, e.testBit l = true → c.testBit l = true ∨ i = l := by
    intro l hl
    have := h1 l hl
    rw [Nat.testBit_or, Bool.or_eq_true, Nat.testBit_two_pow, decide_eq_true_iff] at this
    exact this
  by_cases hei : e.testBit i = true
  · refine hn ⟨dif e (2 ^ i), c', fun l hl => ?_, ?_, fun x y hxy hx hy => ?_, fun l hl => ?_⟩
    · rw [dif_bit, Bool.and_eq_true, Nat.testBit_two_pow] at hl
      exact (h1' l hl.1).resolve_right (fun q => by subst q; simp at hl)
    · have he : e < 2 ^ 17 := sub_le (s := c ||| 2 ^ i) h1 (Nat.or_lt_two_pow (Nat.lt_of_lt_of_le hc (Nat.pow_le_pow_right (by decide) hm)) (Nat.pow_lt_pow_right (by decide) (by omega)))
      have e1 : dif e (2 ^ i) ||| 2 ^ i = e := by
        apply Nat.eq_of_testBit_eq
        intro l
        rw [Nat.testBit_or, dif_bit, Nat.testBit_two_pow]
        by_cases q : i = l
        · subst q; simp [hei]
        · simp [q]
      have e2 : pop (dif e (2 ^ i)) + 1 = pop e := by
        have : ∀ w a, i < w → a.testBit i = true → popT w (dif a (2 ^ i)) + 1 = popT w a := by
          intro w
          induction w with
          | zero => intro a h; omega
          | succ w ih =>
            intro a hw ha
            rw [popT, popT, dif_bit, Nat.testBit_two_pow]
            by_cases q : i = w
            · subst q
              rw [popT_cong i (a := dif a (2 ^ i)) (b := a) (fun l hl => by rw [dif_bit, Nat.testBit_two_pow]; simp [show ¬ i = l by omega])]
              simp [ha]
            · have := ih a (by omega) ha
              simp only [q, decide_false, Bool.not_false, Bool.and_true]
              omega
        exact this 20 e (by omega) hei
      omega
    · rw [dif_bit, Bool.and_eq_true] at hx hy
      exact h3 x y hxy hx.1 hy.1
    · rw [dif_bit, Bool.and_eq_true, Nat.testBit_two_pow] at hl
      have hli : l ≠ i := fun q => by subst q; simp at hl
      rcases Nat.lt_or_gt_of_ne hli with q | q
      · rw [Nat.and_comm]; exact h3 i l q hei hl.1
      · exact h3 l i q hl.1 hei
  · exact h e c' (fun l hl => (h1' l hl).resolve_right (fun q => by subst q; exact hei hl)) h2 h3
theorem Fr.bad {g : Nat → Nat} {k c i b : Nat} (hm : i < 17) (hc : c.testBit i = false) (hb : ∀ l, c.testBit l = true → b.testBit l = true) (hbi : b.testBit i = true) (hcl : c < 2 ^ 17) (h : Cls g c (g i) k) : ¬ Fr g (k + 1) b := by
  obtain ⟨e, c', h1, h2, h3, h4⟩ := h
  intro hF
  have hei : e.testBit i = false := by
    cases q : e.testBit i with
    | false => rfl
    | true => rw [h1 i q] at hc; cases hc
  have hbit : ∀ l, (e ||| 2 ^ i).testBit l = true ↔ (e.testBit l = true ∨ i = l) := by
    intro l
    rw [Nat.testBit_or, Bool.or_eq_true, Nat.testBit_two_pow, decide_eq_true_iff]
  refine hF (e ||| 2 ^ i) c' (fun l hl => ?_) ?_ (fun x y hxy hx hy => ?_)
  · rcases (hbit l).mp hl with q | q
    · exact hb l (h1 l q)
    · subst q; exact hbi
  · have : ∀ w a, i < w → a.testBit i = false → popT w (a ||| 2 ^ i) = popT w a + 1 := by
      intro w
      induction w with
      | zero => intro a h; omega
      | succ w ih =>
        intro a hw ha
        rw [popT, popT, Nat.testBit_or, Nat.testBit_two_pow]
        by_cases q : i = w
        · subst q
          rw [popT_cong i (a := a ||| 2 ^ i) (b := a) (fun l hl => by rw [Nat.testBit_or, Nat.testBit_two_pow]; simp [show ¬ i = l by omega])]
          simp [ha]
        · have := ih a (by omega) ha
          simp only [q, decide_false, Bool.or_false]
          omega
    have e3 : pop (e ||| 2 ^ i) = pop e + 1 := this 20 e (by omega) hei
    omega
  · rcases (hbit x).mp hx with qx | qx <;> rcases (hbit y).mp hy with qy | qy
    · exact h3 x y hxy qx qy
    · subst qy; exact h4 x qx
    · subst qx; rw [Nat.and_comm]; exact h4 y qy
    · omega
/-- what the search reads: how many sets, the fits -/
def Thn (mem : Mem) (S : List Nat) : Prop := mem 15 2 = nI S.length ∧ ∀ i j, i < j → j < S.length → mem 17 (i * 16 + j) = nI (fitM (fun i => S.getD i 0) S.length i j)
section THN
variable {S : List Nat} {mem : Mem}
theorem s_closes (h : Thn mem S) (hl : S.length ≤ 16) : ∀ (k d s i : Nat) (_ : 1 ≤ k) (_ : k ≤ d + 1) (_ : k ≤ 16) (_ : s < 2 ^ S.length) (_ : i < S.length) (_ : ∀ l, l ≤ i → s.testBit l = false), CI shX m_Thinner_closes (d + 1) [.ref 15, .int (nI i), .int (nI s), .int (nI k)] mem (fun r m' => ((Cls (fun i => S.getD i 0) s (S.getD i 0) k ∧ r = 1) ∨ (¬ Cls (fun i => S.getD i 0) s (S.getD i 0) k ∧ r = 0)) ∧ m' = mem) := by
  have hp := pow17 (m := S.length) (by omega)
  intro k
  induction k with
  | zero => intro d s i h1; omega
  | succ k ih =>
    intro d s i _ hd hk hs hi hsi
    have hps : pop s ≤ 17 := pop_lt (by decide) (by omega)
    refine e_Thinner_closes ⟨fun z => ⟨fun z1 => ?_, fun z1 => ⟨Or.inl ⟨?_, rfl⟩, rfl⟩⟩, fun z => ⟨Or.inr ⟨?_, rfl⟩, rfl⟩⟩
    · have hk1 : 1 ≤ k := by
        have := (nI_ltI (a := 1) (b := k + 1) (by decide) (by omega)).mp z1
        omega
      rw [show nI (k + 1) - 1 = nI k from nI_pred k]
      have key : ∀ j, j ≤ max S.length k → k ≤ j → (∀ e, e < 2 ^ j → e < 2 ^ S.length → ¬ ∃ c, (∀ l, e.testBit l = true → s.testBit l = true) ∧ pop e = k + 1 ∧ Cl (fun i => S.getD i 0) c e ∧ ∀ l, e.testBit l = true → S.getD l 0 &&& S.getD i 0 = c) → Wp shX m_Thinner_closes (d + 1) 22 [some (.ref 15), some (.int (nI i)), some (.int (nI s)), some (.int (nI (k + 1))), some (.int (nI j)), none] [] mem (QI (fun r m' => ((Cls (fun i => S.getD i 0) s (S.getD i 0) (k + 1) ∧ r = 1) ∨ (¬ Cls (fun i => S.getD i 0) s (S.getD i 0) (k + 1) ∧ r = 0)) ∧ m' = mem)) := by
        refine downInd (P := fun j => k ≤ j → (∀ e, e < 2 ^ j → e < 2 ^ S.length → ¬ ∃ c, (∀ l, e.testBit l = true → s.testBit l = true) ∧ pop e = k + 1 ∧ Cl (fun i => S.getD i 0) c e ∧ ∀ l, e.testBit l = true → S.getD l 0 &&& S.getD i 0 = c) → Wp shX m_Thinner_closes (d + 1) 22 [some (.ref 15), some (.int (nI i)), some (.int (nI s)), some (.int (nI (k + 1))), some (.int (nI j)), none] [] mem (QI (fun r m' => ((Cls (fun i => S.getD i 0) s (S.getD i 0) (k + 1) ∧ r = 1) ∨ (¬ Cls (fun i => S.getD i 0) s (S.getD i 0) (k + 1) ∧ r = 0)) ∧ m' = mem))) (max S.length k) ?_ ?_
        · intro _ hno
          refine b_Thinner_closes_22 ⟨fun _ => ⟨Or.inr ⟨?_, rfl⟩, rfl⟩, fun c => absurd (by rw [h.1]; exact nI_le (by omega) (by omega)) c⟩
          rintro ⟨e, c, e1, e2, e3, e4⟩
          have hem : e < 2 ^ S.length := sub_le e1 hs
          exact hno e (Nat.lt_of_lt_of_le hem (Nat.pow_le_pow_right (by decide) (by omega))) hem ⟨c, e1, e2, e3, e4⟩
        · intro j hj ihj hkj hno
          by_cases hjL : j < S.length
          · refine b_Thinner_closes_22 ⟨fun c => absurd c (by rw [h.1]; exact nI_ge hjL (by omega)), fun _ => ⟨fun z2 => ?_, fun z2 => ⟨?_, fun y hy => ?_⟩⟩⟩
            · rw [hasI0 (by omega) (by omega)] at z2
              rw [nI_1]
              refine ihj (by omega) (fun e he hem => ?_)
              rcases Nat.lt_or_ge e (2 ^ j) with q | q
              · exact hno e q hem
              · obtain ⟨e', he', rfl⟩ := top_of q he
                rintro ⟨c, c1, -⟩
                rw [c1 j (top_at he')] at z2; cases z2
            · rw [show (16 : Int32) = nI 16 from rfl, pk_mul, nI_add]
              exact vp_in_nI (by omega) (by decide)
            · rw [hasI0 (by omega) (by omega), Bool.not_eq_false] at z2
              have hij : i < j := by
                rcases Nat.lt_or_ge i j with q | q
                · exact q
                · rw [hsi j q] at z2; cases z2
              have h2j : 1 ≤ 2 ^ j := Nat.one_le_two_pow
              have e1 : nI (2 ^ j) - 1 = nI (2 ^ j - 1) := pk_sub h2j
              rw [show (16 : Int32) = nI 16 from rfl, pk_mul, nI_add, nI_clamp (by omega), h.2 i j hij hjL, sh1 (by omega), e1, ia, ia] at hy
              subst hy
              rw [show nI (k + 1) - 1 = nI k from nI_pred k]
              obtain ⟨d', rfl⟩ : ∃ d', d = d' + 1 := ⟨d - 1, by omega⟩
              have hr1 : s &&& fitM (fun i => S.getD i 0) S.length i j &&& (2 ^ j - 1) ≤ s := Nat.le_trans Nat.and_le_left Nat.and_le_left
              refine (ih d' _ i hk1 (by omega) (by omega) (by omega) hi (fun l hl => by rw [Nat.testBit_and, Nat.testBit_and, hsi l hl]; rfl)).mono ?_
              rintro v m' ⟨hv, rfl⟩
              rcases hv with ⟨⟨e, c, w1, w2, w3, w4⟩, w5⟩ | ⟨w1, w2⟩
              · have he : e < 2 ^ j := sub_le (s := 2 ^ j - 1) (fun l hl => by have := w1 l hl; rw [Nat.testBit_and, Bool.and_eq_true] at this; exact this.2) (by omega)
                refine ⟨fun z3 => absurd (w5.symm.trans z3) (by decide), fun _ => ⟨Or.inl ⟨?_, rfl⟩, rfl⟩⟩
                obtain ⟨c2, q1, q2, q3, q4⟩ := (Cls.top (g := fun i => S.getD i 0) (m := S.length) (i := i) (by omega) hjL hk1 he z2).mpr ⟨c, w1, w2, w3, w4⟩
                exact ⟨e + 2 ^ j, c2, q1, q2, q3, q4⟩
              · refine ⟨fun _ => ?_, fun z3 => absurd w2 z3⟩
                rw [nI_1]
                refine ihj (by omega) (fun e he hem => ?_)
                rcases Nat.lt_or_ge e (2 ^ j) with q | q
                · exact hno e q hem
                · obtain ⟨e', he', rfl⟩ := top_of q he
                  intro hq
                  obtain ⟨c2, q1, q2, q3, q4⟩ := (Cls.top (g := fun i => S.getD i 0) (m := S.length) (i := i) (by omega) hjL hk1 he' z2).mp hq
                  exact w1 ⟨e', c2, q1, q2, q3, q4⟩
          · omega
      refine key k (by omega) (Nat.le_refl _) (fun e he _ => ?_)
      rintro ⟨c, -, c1, -⟩
      have := pop_lt (b := e) (w := k) (by omega) he
      omega
    · have hk0 : k = 0 := by
        rcases Nat.eq_zero_or_pos k with q | q
        · exact q
        · exact absurd (show (1 : Int32) < nI (k + 1) from nI_lt (a := 1) (by omega) (by omega)) z1
      subst hk0
      rw [bc (by omega), nI_leI (by omega) (by omega)] at z
      have hs0 : s ≠ 0 := fun e => by rw [e, pop_zero] at z; omega
      obtain ⟨j, hj⟩ := bit_ne hs0
      refine ⟨2 ^ j, S.getD j 0 &&& S.getD i 0, fun l hl => ?_, ?_, fun x y hxy hx hy => ?_, fun l hl => ?_⟩
      · rw [Nat.testBit_two_pow, decide_eq_true_iff] at hl; subst hl; exact hj
      · have := pop_top (b := 0) (i := j) (Nat.two_pow_pos j) (by have := bit_lt hs hj; omega)
        rw [Nat.zero_add, pop_zero] at this; exact this
      · rw [Nat.testBit_two_pow, decide_eq_true_iff] at hx hy; omega
      · rw [Nat.testBit_two_pow, decide_eq_true_iff] at hl; subst hl; rfl
    · rw [bc (by omega), nI_leI (by omega) (by omega)] at z
      rintro ⟨e, c, e1, e2, -⟩
      have : pop e ≤ pop s := pop_mono 20 e e1
      omega
/-- the most of the first f sets that are free -/
def Mx (S : List Nat) (k f v : Nat) : Prop := (∃ e, e < 2 ^ f ∧ Fr (fun i => S.getD i 0) k e ∧ pop e = v) ∧ ∀ e, e < 2 ^ f → Fr (fun i => S.getD i 0) k e → pop e ≤ v
def LsC (S : List Nat) (k f c many : Nat) (r : Int32) : Prop := (∃ e, e < 2 ^ f ∧ pop e = many ∧ Fr (fun i => S.getD i 0) k (e ||| c) ∧ (∀ e', e' < 2 ^ f → pop e' = many → Fr (fun i => S.getD i 0) k (e' ||| c) → e ≤ e') ∧ r = nI (e ||| c)) ∨ ((∀ e, e < 2 ^ f → pop e = many → ¬ Fr (fun i => S.getD i 0) k (e ||| c)) ∧ r = -1)
theorem s_choose {k F : Nat} (h : Thn mem S) (hl : S.length ≤ 16) (hk1 : 1 ≤ k) (hk : k ≤ 15) (hF : F ≤ S.length) (hB : ∀ f, f ≤ F → ∃ v, v ≤ 16 ∧ mem 16 f = nI v ∧ Mx S (k + 1) f v) : ∀ (f d c many : Nat) (_ : f ≤ F) (_ : f + 20 ≤ d) (_ : many ≤ 16) (_ : c < 2 ^ S.length) (_ : ∀ j, j < f → c.testBit j = false) (_ : Fr (fun i => S.getD i 0) (k + 1) c), CI shX m_Thinner_choose (d + 1) [.ref 15, .int (nI (k + 1)), .int (nI f), .int (nI c), .int (nI many)] mem (fun r m' => LsC S (k + 1) f c many r ∧ m' = mem) := by
  have hp := pow17 (m := S.length) (by omega)
  have hor0 : ∀ c, 0 ||| c = c := fun c => Nat.zero_or c
  intro f
  induction f with
  | zero =>
    intro d c many hfF hd hm hc hcf hfr
    refine e_Thinner_choose ⟨fun z => ⟨fun _ => ⟨Or.inr ⟨fun e he hpe => ?_, rfl⟩, rfl⟩, fun z1 => absurd (show nI 0 ≤ 0 by rw [nI_0]; decide) z1⟩, fun z => ?_⟩
    · have hm0 : 0 < many := (nI_ltI (a := 0) (by decide) (by omega)).mp z
      rw [Nat.pow_zero] at he
      rw [show e = 0 by omega, pop_zero] at hpe
      omega
    · have hm0 : many = 0 := by
        rcases Nat.eq_zero_or_pos many with q | q
        · exact q
        · exact absurd (show (0 : Int32) < nI many from nI_lt (a := 0) q (by omega)) z
      subst hm0
      exact ⟨Or.inl ⟨0, by decide, pop_zero, by rw [hor0]; exact hfr, fun _ _ _ _ => Nat.zero_le _, by rw [hor0]⟩, rfl⟩
  | succ i ih =>
    intro d c many hfF hd hm hc hcf hfr
    refine e_Thinner_choose ⟨fun z => ⟨fun z1 => absurd z1 (nI_nle (by omega) (by omega)), fun _ => ⟨fun z1 => absurd z1 (by rw [h.1, nI_ltI (by omega) (by omega)]; omega), fun _ => ⟨vp_in_nI (by omega) (by decide), fun z1 => ?_, fun z1 => ⟨Or.inr ⟨fun e he hpe hfe => ?_, rfl⟩, rfl⟩⟩⟩⟩, fun z => ?_⟩
    · have hm0 : 0 < many := (nI_ltI (a := 0) (by decide) (by omega)).mp z
      rw [show nI (i + 1) - 1 = nI i from nI_pred i, show nI (k + 1) - 1 = nI k from nI_pred k]
      obtain ⟨d', rfl⟩ : ∃ d', d = d' + 1 := ⟨d - 1, by omega⟩
      refine (ih d' c many (by omega) (by omega) hm hc (fun j hj => hcf j (by omega)) hfr).mono ?_
      rintro v m' ⟨hv, rfl⟩
      rcases hv with ⟨e, y1, y2, y3, y4, y5⟩ | ⟨y1, y2⟩
      · have hlt : e ||| c < 2 ^ S.length := Nat.or_lt_two_pow (Nat.lt_of_lt_of_le y1 (Nat.pow_le_pow_right (by decide) (by omega))) hc
        refine ⟨fun z3 => absurd (y5.symm.trans z3) (nI_m1 (by omega)), fun _ => ⟨Or.inl ⟨e, Nat.lt_of_lt_of_le y1 (Nat.pow_le_pow_right (by decide) (by omega)), y2, y3, fun e' h1 h2 h3 => ?_, y5⟩, rfl⟩⟩
        rcases Nat.lt_or_ge e' (2 ^ i) with q | q
        · exact y4 e' q h2 h3
        · omega
      · refine ⟨fun _ => ?_, fun z3 => absurd y2 z3⟩
        have hci : c.testBit i = false := hcf i (by omega)
        refine (s_closes h hl k d' c i hk1 (by omega) (by omega) hc (by omega) (fun l hl => hcf l (by omega))).mono ?_
        rintro w m' ⟨hw, rfl⟩
        rcases hw with ⟨w1, w2⟩ | ⟨w1, w2⟩
        · refine ⟨fun z3 => absurd (w2.symm.trans z3) (by decide), fun _ => ⟨Or.inr ⟨fun e he hpe hfe => ?_, rfl⟩, rfl⟩⟩
          rcases Nat.lt_or_ge e (2 ^ i) with q | q
          · exact y1 e q hpe hfe
          · obtain ⟨e', he', rfl⟩ := top_of q he
            exact Fr.bad (g := fun i => S.getD i 0) (i := i) (by omega) hci (fun l hl => by rw [Nat.testBit_or, hl, Bool.or_true]) (by rw [Nat.testBit_or, top_at he', Bool.true_or]) (by omega) w1 hfe
        · refine ⟨fun _ => ?_, fun z3 => absurd w2 z3⟩
          rw [sh1 (by omega), io, show nI many - 1 = nI (many - 1) from pk_sub (a := many) (b := 1) (by omega)]
          have hc2 : c ||| 2 ^ i < 2 ^ S.length := Nat.or_lt_two_pow hc (Nat.pow_lt_pow_right (by decide) (by omega))
          refine (ih d' (c ||| 2 ^ i) (many - 1) (by omega) (by omega) (by omega) hc2 (fun j hj => ?_) (Fr.add (g := fun i => S.getD i 0) (m := S.length) (by omega) hk1 hc (by omega) hfr w1)).mono ?_
          · rw [Nat.testBit_or, hcf j (by omega), Nat.testBit_two_pow]; simp; omega
          · rintro u m' ⟨hu, rfl⟩
            have hassoc : ∀ e, e < 2 ^ i → (e + 2 ^ i) ||| c = e ||| (c ||| 2 ^ i) := by
              intro e he
              rw [← or_add he, Nat.or_assoc, Nat.or_comm (2 ^ i) c]
            refine ⟨?_, rfl⟩
            rcases hu with ⟨e, u1, u2, u3, u4, u5⟩ | ⟨u1, u2⟩
            · refine Or.inl ⟨e + 2 ^ i, top_lt u1, by rw [pop_top u1 (by omega), u2]; omega, by rw [hassoc e u1]; exact u3, fun e' h1 h2 h3 => ?_, by rw [hassoc e u1]; exact u5⟩
              rcases Nat.lt_or_ge e' (2 ^ i) with q | q
              · exact absurd h3 (y1 e' q h2)
              · obtain ⟨e'', he'', rfl⟩ := top_of q h1
                rw [pop_top he'' (by omega)] at h2
                rw [hassoc e'' he''] at h3
                have := u4 e'' he'' (by omega) h3
                omega
            · refine Or.inr ⟨fun e he hpe hfe => ?_, u2⟩
              rcases Nat.lt_or_ge e (2 ^ i) with q | q
              · exact y1 e q hpe hfe
              · obtain ⟨e', he', rfl⟩ := top_of q he
                rw [pop_top he' (by omega)] at hpe
                rw [hassoc e' he'] at hfe
                exact u1 e' he' (by omega) hfe
    · obtain ⟨v, v1, v2, v3⟩ := hB (i + 1) hfF
      rw [nI_clamp (by omega), v2, nI_leI (by omega) (by omega)] at z1
      have := v3.2 e he (hfe.sub (fun l hl => by rw [Nat.testBit_or, hl, Bool.true_or]))
      omega
    · have hm0 : many = 0 := by
        rcases Nat.eq_zero_or_pos many with q | q
        · exact q
        · exact absurd (show (0 : Int32) < nI many from nI_lt (a := 0) q (by omega)) z
      subst hm0
      exact ⟨Or.inl ⟨0, Nat.two_pow_pos _, pop_zero, by rw [hor0]; exact hfr, fun _ _ _ _ => Nat.zero_le _, by rw [hor0]⟩, rfl⟩
end THN
