/-! greedy of both sides -/
theorem cntP_part (f g : Nat → Bool) : ∀ m, cntP f m = cntP (fun i => f i && g i) m + cntP (fun i => f i && !g i) m
  | 0 => rfl
  | m + 1 => by
    rw [cntP, cntP, cntP, cntP_part f g m]
    cases f m <;> cases g m <;> simp <;> omega
theorem msk_and (p q : Nat → Bool) (m : Nat) : msk p m &&& msk q m = msk (fun i => p i && q i) m := by
  apply Nat.eq_of_testBit_eq
  intro i
  rw [Nat.testBit_and, msk_bit, msk_bit, msk_bit]
  cases decide (i < m) <;> cases p i <;> cases q i <;> rfl
/-- the first point with the most, by c -/
def bpT (c : Nat → Nat) : Nat → Nat × Nat
  | 0 => (0, 0)
  | p + 1 => if (bpT c p).2 < c p then (p, c p) else bpT c p
theorem bpT_ok (c : Nat → Nat) : ∀ N, ((bpT c N).2 = 0 ∧ ∀ p, p < N → c p = 0) ∨ ((bpT c N).1 < N ∧ (bpT c N).2 = c (bpT c N).1 ∧ 0 < (bpT c N).2)
  | 0 => Or.inl ⟨rfl, fun p hp => absurd hp (Nat.not_lt_zero _)⟩
  | N + 1 => by
    rw [bpT]
    by_cases h : (bpT c N).2 < c N
    · rw [if_pos h]; exact Or.inr ⟨by simp, rfl, by simp only; omega⟩
    · rw [if_neg h]
      rcases bpT_ok c N with ⟨h1, h2⟩ | ⟨h1, h2, h3⟩
      · refine Or.inl ⟨h1, fun p hp => ?_⟩
        by_cases e : p = N
        · subst e; omega
        · exact h2 p (by omega)
      · exact Or.inr ⟨by omega, h2, h3⟩
theorem bpT_le (c : Nat → Nat) {B : Nat} (hB : ∀ p, c p ≤ B) : ∀ N, (bpT c N).2 ≤ B ∧ (bpT c N).1 ≤ N
  | 0 => ⟨Nat.zero_le _, Nat.le_refl _⟩
  | N + 1 => by
    have := bpT_le c hB N
    rw [bpT]
    split
    · exact ⟨hB N, by simp⟩
    · exact ⟨this.1, by omega⟩
/-- how many sets that t doesn't hit have the point p -/
def cgr (S : List Nat) (t p : Nat) : Nat := pop (misB S t &&& colH S p)
def grT (n : Nat) (S : List Nat) : Nat → Nat × Int32
  | 0 => (0, -2)
  | r + 1 => if misB S (grT n S r).1 = 0 then grT n S r else ((grT n S r).1 ||| 2 ^ (bpT (cgr S (grT n S r).1) n).1, if (grT n S r).2 = -2 then nI (bpT (cgr S (grT n S r).1) n).1 else (grT n S r).2)
noncomputable def aGreedy (n : Nat) (S : List Nat) (a : Int32) : Int32 := ifP (0 ≤ a ∧ a ≤ 2) (if a = 0 then nI (pop (grT n S n).1) else if a = 1 then nI (grT n S n).1 else (grT n S n).2) (-1)
theorem cgr_cnt {S : List Nat} {t p : Nat} (hl : S.length ≤ 17) : cgr S t p = cntP (fun i => decide (S.getD i 0 &&& t = 0) && decide (S.getD i 0 &&& 2 ^ p = 2 ^ p)) S.length := by
  rw [cgr, misB, colH, msk_and, pop_msk _ _ (by omega)]
theorem or_pow_z {s t p : Nat} : (s &&& (t ||| 2 ^ p) = 0) ↔ (s &&& t = 0 ∧ ¬ s &&& 2 ^ p = 2 ^ p) := by
  rw [and_pow]
  constructor
  · intro h
    refine ⟨and_zero_of (fun q q1 q2 => and_no h q1 (by rw [Nat.testBit_or, q2, Bool.true_or])), fun q => and_no h q (by rw [Nat.testBit_or, Nat.testBit_two_pow_self, Bool.or_true])⟩
  · rintro ⟨h1, h2⟩
    refine and_zero_of (fun q q1 q2 => ?_)
    rw [Nat.testBit_or, Bool.or_eq_true, Nat.testBit_two_pow, decide_eq_true_iff] at q2
    rcases q2 with q2 | q2
    · exact and_no h1 q1 q2
    · subst q2; exact h2 q1
theorem mis_or {S : List Nat} {t p : Nat} : misB S (t ||| 2 ^ p) = dif (misB S t) (colH S p) := by
  apply Nat.eq_of_testBit_eq
  intro i
  rw [dif_bit, misB, misB, colH, msk_bit, msk_bit, msk_bit, Bool.eq_iff_iff]
  simp only [Bool.and_eq_true, decide_eq_true_iff, Bool.not_eq_true', Bool.and_eq_false_imp, decide_eq_false_iff_not]
  rw [or_pow_z]
  exact ⟨fun z => ⟨⟨z.1, z.2.1⟩, fun _ => z.2.2⟩, fun z => ⟨z.1.1, z.1.2, z.2 z.1.1⟩⟩
theorem cgr_sub {S : List Nat} {t p : Nat} (hl : S.length ≤ 17) : pop (misB S t) = cgr S t p + pop (misB S (t ||| 2 ^ p)) := by
  rw [cgr_cnt hl, misB, misB, pop_msk _ _ (by omega), pop_msk _ _ (by omega), cntP_part (fun i => decide (S.getD i 0 &&& t = 0)) (fun i => decide (S.getD i 0 &&& 2 ^ p = 2 ^ p))]
  congr 1
  refine cntP_cong _ (fun i _ => ?_)
  rw [Bool.eq_iff_iff]
  simp only [Bool.and_eq_true, decide_eq_true_iff, Bool.not_eq_true', decide_eq_false_iff_not]
  exact or_pow_z.symm
theorem mis_lt {S : List Nat} {t : Nat} : misB S t < 2 ^ S.length := msk_lt _ _
theorem cgr_le {S : List Nat} {t p : Nat} (hl : S.length ≤ 17) : cgr S t p ≤ 17 := pop_lt (by decide) (Nat.lt_of_le_of_lt Nat.and_le_left (Nat.lt_of_lt_of_le mis_lt (Nat.pow_le_pow_right (by decide) hl)))
section GRE
variable {d n : Nat} {S : List Nat} {mem : Mem}
theorem bp_good {t : Nat} (hl : S.length ≤ 17) (hs : ∀ i, S.getD i 0 < 2 ^ n) (h0 : ∀ i, i < S.length → S.getD i 0 ≠ 0) (hm : misB S t ≠ 0) : (bpT (cgr S t) n).1 < n ∧ 0 < (bpT (cgr S t) n).2 ∧ t.testBit (bpT (cgr S t) n).1 = false := by
  obtain ⟨i, hi⟩ := bit_ne hm
  rw [misB, msk_bit, Bool.and_eq_true, decide_eq_true_iff, decide_eq_true_iff] at hi
  obtain ⟨p, hp⟩ := bit_ne (h0 i hi.1)
  have hpn : p < n := bit_lt (hs i) hp
  have hpos : ∀ q j, j < S.length → S.getD j 0 &&& t = 0 → (S.getD j 0).testBit q = true → 0 < cgr S t q := by
    intro q j hj e1 e2
    refine pop_pos (Nat.lt_of_le_of_lt Nat.and_le_left (Nat.lt_of_lt_of_le mis_lt (Nat.pow_le_pow_right (by decide) (by omega)))) (and_ne_of (p := j) ?_ ?_)
    · rw [misB, msk_bit, Bool.and_eq_true, decide_eq_true_iff, decide_eq_true_iff]; exact ⟨hj, e1⟩
    · rw [colH, msk_bit, Bool.and_eq_true, decide_eq_true_iff, decide_eq_true_iff, and_pow]; exact ⟨hj, e2⟩
  rcases bpT_ok (cgr S t) n with ⟨h1, h2⟩ | ⟨h1, h2, h3⟩
  · have := hpos p i hi.1 hi.2 hp
    have := h2 p hpn
    omega
  · refine ⟨h1, h3, ?_⟩
    rw [h2] at h3
    have hne : misB S t &&& colH S (bpT (cgr S t) n).1 ≠ 0 := fun e => by
      rw [cgr, e, pop_zero] at h3; omega
    obtain ⟨j, j1, j2⟩ := ne_bit hne
    rw [misB, msk_bit, Bool.and_eq_true, decide_eq_true_iff, decide_eq_true_iff] at j1
    rw [colH, msk_bit, Bool.and_eq_true, decide_eq_true_iff, decide_eq_true_iff, and_pow] at j2
    cases e : t.testBit (bpT (cgr S t) n).1 with
    | false => rfl
    | true => exact absurd (and_no j1.2 j2.2 e) id
theorem gr_inv (hl : S.length ≤ 17) (hn : n ≤ 10) (hs : ∀ i, S.getD i 0 < 2 ^ n) (h0 : ∀ i, i < S.length → S.getD i 0 ≠ 0) : ∀ r, (grT n S r).1 < 2 ^ n ∧ (misB S (grT n S r).1 = 0 ∨ r ≤ pop (grT n S r).1)
  | 0 => ⟨Nat.two_pow_pos n, Or.inr (Nat.zero_le _)⟩
  | r + 1 => by
    obtain ⟨h1, h2⟩ := gr_inv hl hn hs h0 r
    rw [grT]
    by_cases e : misB S (grT n S r).1 = 0
    · rw [if_pos e]; exact ⟨h1, Or.inl e⟩
    · rw [if_neg e]
      obtain ⟨b1, b2, b3⟩ := bp_good (n := n) hl hs h0 e
      have hlt := Nat.or_lt_two_pow h1 (Nat.pow_lt_pow_right (a := 2) (by decide) b1)
      refine ⟨hlt, Or.inr ?_⟩
      have := popT_strict (s := (grT n S r).1 ||| 2 ^ (bpT (cgr S (grT n S r).1) n).1) (p := (bpT (cgr S (grT n S r).1) n).1) 20 (grT n S r).1 (fun k hk => by rw [Nat.testBit_or, hk, Bool.true_or]) (by omega) (by rw [Nat.testBit_or, Nat.testBit_two_pow_self, Bool.or_true]) b3
      have h3 : pop (grT n S r).1 < pop ((grT n S r).1 ||| 2 ^ (bpT (cgr S (grT n S r).1) n).1) := this
      have := h2.resolve_left e
      show r + 1 ≤ pop ((grT n S r).1 ||| 2 ^ (bpT (cgr S (grT n S r).1) n).1)
      omega
theorem pop_full {t : Nat} : ∀ n, n ≤ 20 → t < 2 ^ n → n ≤ pop t → t = 2 ^ n - 1
  | 0, _, h, _ => by rw [Nat.pow_zero] at h; omega
  | n + 1, hn, h, hp => by
    rcases Nat.lt_or_ge t (2 ^ n) with q | q
    · have := pop_lt (b := t) (w := n) (by omega) q
      omega
    · obtain ⟨c, hc, rfl⟩ := top_of q h
      rw [pop_top hc (by omega)] at hp
      have := pop_full n (by omega) hc (by omega)
      have h1 : 1 ≤ 2 ^ n := Nat.one_le_two_pow
      rw [Nat.pow_succ]
      omega
theorem gr_end (hl : S.length ≤ 17) (hn : n ≤ 10) (hs : ∀ i, S.getD i 0 < 2 ^ n) (h0 : ∀ i, i < S.length → S.getD i 0 ≠ 0) : misB S (grT n S n).1 = 0 := by
  obtain ⟨h1, h2⟩ := gr_inv hl hn hs h0 n
  rcases h2 with h2 | h2
  · exact h2
  · rw [pop_full n (by omega) h1 h2]
    exact hit_all hs h0
theorem gr_stay {r : Nat} (h : misB S (grT n S r).1 = 0) : ∀ k, grT n S (r + k) = grT n S r
  | 0 => rfl
  | k + 1 => by
    rw [← Nat.add_assoc, grT, gr_stay h k, if_pos h]
theorem s_bestPoint {t : Nat} (h : Fam mem 1 n S) : CI shX m_PS_bestPoint (d + 1) [.ref 0, .int (nI (misB S t))] mem (fun r m' => r = nI (bpT (cgr S t) n).1 ∧ m' = mem) := by
  have hl := h.2.2.1
  have hn := h.2.2.2.1
  have hp17 := pow17 hl
  have hmis := mis_lt (S := S) (t := t)
  refine e_PS_bestPoint ?_
  refine downInd (P := fun i => Wp shX m_PS_bestPoint (d + 1) 7 [some (.ref 0), some (.int (nI (misB S t))), some (.int (nI (bpT (cgr S t) i).1)), some (.int (nI (bpT (cgr S t) i).2)), some (.int (nI i)), none] [] mem (QI (fun r m' => r = nI (bpT (cgr S t) n).1 ∧ m' = mem))) n ?_ ?_ 0 (Nat.zero_le _)
  · exact b_PS_bestPoint_7 ⟨fun _ => ⟨rfl, rfl⟩, fun c => absurd (by rw [h.1]; exact nI_le (Nat.le_refl _) (by omega)) c⟩
  · intro i hi ih
    have hb := bpT_le (cgr S t) (B := 17) (fun p => cgr_le hl) i
    have hc : cgr S t i ≤ 17 := cgr_le hl
    refine b_PS_bestPoint_7 ⟨fun c => absurd c (by rw [h.1]; exact nI_ge hi (by omega)), fun _ => ?_⟩
    rw [sh1 (by omega)]
    refine (s_setsWith isF_1 h (Nat.pow_lt_pow_right (by decide) (by omega))).to ?_
    have hcol : msk (fun j => decide (S.getD j 0 &&& 2 ^ i = 2 ^ i)) S.length = colH S i := rfl
    rw [hcol, ia, bc (Nat.lt_of_le_of_lt Nat.and_le_left (by omega)), nI_1]
    have hcg : pop (misB S t &&& colH S i) = cgr S t i := rfl
    rw [hcg, nI_leI (by omega) (by omega)]
    rw [bpT] at ih
    refine ⟨fun z => ?_, fun z => ?_⟩
    · rw [if_neg (by omega)] at ih; exact ih
    · rw [if_pos (by omega)] at ih; exact ih
theorem x_greedy {a : Int32} (h : Fam mem 1 n S) (hs : ∀ i, S.getD i 0 < 2 ^ n) (h0 : ∀ i, i < S.length → S.getD i 0 ≠ 0) : CI shX m_PS_greedy (d + 2) [.ref 0, .int a] mem (fun r m' => r = aGreedy n S a ∧ m' = mem) := by
  have hl := h.2.2.1
  have hn := h.2.2.2.1
  have hp17 := pow17 hl
  have hpn : 2 ^ n ≤ 2 ^ 10 := Nat.pow_le_pow_right (by decide) hn
  refine e_PS_greedy ⟨fun c => ⟨by rw [aGreedy, ifP_f (fun z => i_nl.mpr z.1 c)], rfl⟩, fun c => ⟨fun c2 => ?_, fun c2 => ⟨by rw [aGreedy, ifP_f (fun z => c2 z.2)], rfl⟩⟩⟩
  rw [aGreedy, ifP_t ⟨i_nl.mp c, c2⟩]
  have hend : ∀ q : Nat × Int32, q = grT n S n → q.1 < 2 ^ n → (¬ a = 0 → (¬ a = 1 → q.2 = (if a = 0 then nI (pop (grT n S n).1) else if a = 1 then nI (grT n S n).1 else (grT n S n).2) ∧ mem = mem) ∧ (a = 1 → nI q.1 = (if a = 0 then nI (pop (grT n S n).1) else if a = 1 then nI (grT n S n).1 else (grT n S n).2) ∧ mem = mem)) ∧ (a = 0 → bcF (nI q.1) = (if a = 0 then nI (pop (grT n S n).1) else if a = 1 then nI (grT n S n).1 else (grT n S n).2) ∧ mem = mem) := by
    intro q hq hlt
    subst hq
    exact ⟨fun z => ⟨fun z2 => ⟨by rw [if_neg z, if_neg z2], rfl⟩, fun z2 => ⟨by rw [if_neg z, if_pos z2], rfl⟩⟩, fun z => ⟨by rw [if_pos z, bc (by omega)], rfl⟩⟩
  have key : ∀ r, r ≤ n → Wp shX m_PS_greedy (d + 2) 28 [some (.ref 0), some (.int a), some (.int (nI (grT n S r).1)), some (.int (grT n S r).2), some (.int (nI (misB S (grT n S r).1))), some (.int (nI r)), none] [] mem (QI (fun x m' => x = (if a = 0 then nI (pop (grT n S n).1) else if a = 1 then nI (grT n S n).1 else (grT n S n).2) ∧ m' = mem)) := by
    refine downInd (P := fun r => Wp shX m_PS_greedy (d + 2) 28 [some (.ref 0), some (.int a), some (.int (nI (grT n S r).1)), some (.int (grT n S r).2), some (.int (nI (misB S (grT n S r).1))), some (.int (nI r)), none] [] mem (QI (fun x m' => x = (if a = 0 then nI (pop (grT n S n).1) else if a = 1 then nI (grT n S n).1 else (grT n S n).2) ∧ m' = mem))) n ?_ ?_
    · exact b_PS_greedy_28 ⟨fun _ => hend _ rfl (gr_inv hl hn hs h0 n).1, fun c => absurd (by rw [h.1]; exact nI_le (Nat.le_refl _) (by omega)) c⟩
    · intro r hr ih
      have hmis := mis_lt (S := S) (t := (grT n S r).1)
      refine b_PS_greedy_28 ⟨fun c => absurd c (by rw [h.1]; exact nI_ge hr (by omega)), fun _ => ⟨fun z => ?_, fun z => ?_⟩⟩
      · rw [nI_z (by omega)] at z
        have e := gr_stay z (n - r)
        rw [show r + (n - r) = n by omega] at e
        exact hend _ e.symm (gr_inv hl hn hs h0 r).1
      · rw [nI_z (by omega)] at z
        obtain ⟨b1, b2, b3⟩ := bp_good (n := n) hl hs h0 z
        refine (s_bestPoint h).to ?_
        have go : ∀ f : Int32, f = (grT n S (r + 1)).2 → Wp shX m_PS_greedy (d + 2) 62 [some (.ref 0), some (.int a), some (.int (nI (grT n S r).1)), some (.int f), some (.int (nI (misB S (grT n S r).1))), some (.int (nI r)), some (.int (nI (bpT (cgr S (grT n S r).1) n).1))] [] mem (QI (fun x m' => x = (if a = 0 then nI (pop (grT n S n).1) else if a = 1 then nI (grT n S n).1 else (grT n S n).2) ∧ m' = mem)) := by
          intro f hf
          refine b_PS_greedy_62 ?_
          rw [sh1 (by omega)]
          refine (s_setsWith isF_1 h (Nat.pow_lt_pow_right (by decide) (by omega))).to ?_
          have hcol : msk (fun j => decide (S.getD j 0 &&& 2 ^ (bpT (cgr S (grT n S r).1) n).1 = 2 ^ (bpT (cgr S (grT n S r).1) n).1)) S.length = colH S (bpT (cgr S (grT n S r).1) n).1 := rfl
          have e1 : (grT n S (r + 1)).1 = (grT n S r).1 ||| 2 ^ (bpT (cgr S (grT n S r).1) n).1 := by rw [grT, if_neg z]
          rw [hcol, io, idif, ← mis_or, ← e1, nI_1, hf]
          exact ih
        have e2 : (grT n S (r + 1)).2 = if (grT n S r).2 = -2 then nI (bpT (cgr S (grT n S r).1) n).1 else (grT n S r).2 := by rw [grT, if_neg z]
        exact ⟨fun z2 => go _ (by rw [e2, if_neg z2]), fun z2 => go _ (by rw [e2, if_pos z2])⟩
  have e0 : misB S 0 = 2 ^ S.length - 1 := by
    apply Nat.eq_of_testBit_eq
    intro i
    rw [misB, msk_bit, Nat.testBit_two_pow_sub_one]
    simp
  have := key 0 (Nat.zero_le _)
  rw [h.2.1, al (by omega), ← e0]
  exact this
theorem y_greedy {a : Int32} (h : Now mem n S) (hs : ∀ i, S.getD i 0 < 2 ^ n) (h0 : ∀ i, i < S.length → S.getD i 0 ≠ 0) : CI shM m_Mo_greedy (d + 2) [.ref 0, .int a] mem (fun r m' => r = aGreedy n S a ∧ Keep mem m') := by
  have hl := h.2.2.1
  have hn := h.2.2.2.1
  have hp17 := pow17 (m := S.length) (by omega)
  have hpn : 2 ^ n ≤ 2 ^ 10 := Nat.pow_le_pow_right (by decide) hn
  refine e_Mo_greedy ⟨fun c => ?_, fun c => ⟨by rw [aGreedy, ifP_f c], Keep.rf⟩⟩
  rw [aGreedy, ifP_t c]
  have hend : ∀ r, r ≤ n → misB S (grT n S r).1 = 0 → grT n S r = grT n S n := by
    intro r hr z
    have e := gr_stay z (n - r)
    rw [show r + (n - r) = n by omega] at e
    exact e.symm
  have key : ∀ r, r ≤ n → Wp shM m_Mo_greedy (d + 2) 16 [some (.ref 0), some (.int a), some (.int (nI (grT n S r).1)), some (.int (grT n S r).2), none, none, none, none] [] mem (QI (fun x m' => x = (if a = 0 then nI (pop (grT n S n).1) else if a = 1 then nI (grT n S n).1 else (grT n S n).2) ∧ Keep mem m')) := by
    refine downInd (P := fun r => Wp shM m_Mo_greedy (d + 2) 16 [some (.ref 0), some (.int a), some (.int (nI (grT n S r).1)), some (.int (grT n S r).2), none, none, none, none] [] mem (QI (fun x m' => x = (if a = 0 then nI (pop (grT n S n).1) else if a = 1 then nI (grT n S n).1 else (grT n S n).2) ∧ Keep mem m'))) n ?_ ?_
    · have z := gr_end (by omega) hn hs h0
      have hlt := (gr_inv (by omega) hn hs h0 n).1
      refine b_Mo_greedy_16 ?_
      refine (s_missedBy h).to ?_
      rw [show msk (fun i => decide (S.getD i 0 &&& (grT n S n).1 = 0)) S.length = misB S (grT n S n).1 from rfl, z]
      refine ⟨fun _ => ⟨fun w => ⟨fun w2 => ⟨by rw [if_neg w, if_neg w2], Keep.rf⟩, fun w2 => ⟨by rw [if_neg w, if_pos w2], Keep.rf⟩⟩, fun w => ?_⟩, fun w => absurd nI_0 w⟩
      refine (s_ones (by omega)).to ⟨by rw [if_pos w], Keep.rf⟩
    · intro r hr ih
      have hmis := mis_lt (S := S) (t := (grT n S r).1)
      have hlt := (gr_inv (S := S) (n := n) (by omega) hn hs h0 r).1
      refine b_Mo_greedy_16 ?_
      refine (s_missedBy h).to ?_
      rw [show msk (fun i => decide (S.getD i 0 &&& (grT n S r).1 = 0)) S.length = misB S (grT n S r).1 from rfl, nI_z (by omega)]
      refine ⟨fun z => ?_, fun z => ?_⟩
      · have e := hend r (by omega) z
        rw [← e]
        refine ⟨fun w => ⟨fun w2 => ⟨by rw [if_neg w, if_neg w2], Keep.rf⟩, fun w2 => ⟨by rw [if_neg w, if_pos w2], Keep.rf⟩⟩, fun w => ?_⟩
        exact (s_ones (by omega)).to ⟨by rw [if_pos w], Keep.rf⟩
      · obtain ⟨b1, b2, b3⟩ := bp_good (n := n) (by omega) hs h0 z
        have key2 : ∀ i, i ≤ n → ∀ x4 : Int32, (0 < (bpT (cgr S (grT n S r).1) i).2 → x4 = nI (bpT (cgr S (grT n S r).1) i).1) → Wp shM m_Mo_greedy (d + 2) 33 [some (.ref 0), some (.int a), some (.int (nI (grT n S r).1)), some (.int (grT n S r).2), some (.int x4), some (.int (nI (bpT (cgr S (grT n S r).1) i).2)), some (.int (nI i)), none] [] mem (QI (fun x m' => x = (if a = 0 then nI (pop (grT n S n).1) else if a = 1 then nI (grT n S n).1 else (grT n S n).2) ∧ Keep mem m')) := by
          refine downInd (P := fun i => ∀ x4 : Int32, (0 < (bpT (cgr S (grT n S r).1) i).2 → x4 = nI (bpT (cgr S (grT n S r).1) i).1) → Wp shM m_Mo_greedy (d + 2) 33 [some (.ref 0), some (.int a), some (.int (nI (grT n S r).1)), some (.int (grT n S r).2), some (.int x4), some (.int (nI (bpT (cgr S (grT n S r).1) i).2)), some (.int (nI i)), none] [] mem (QI (fun x m' => x = (if a = 0 then nI (pop (grT n S n).1) else if a = 1 then nI (grT n S n).1 else (grT n S n).2) ∧ Keep mem m'))) n ?_ ?_
          · intro x4 hx4
            rw [hx4 b2]
            have e1 : (grT n S (r + 1)).1 = (grT n S r).1 ||| 2 ^ (bpT (cgr S (grT n S r).1) n).1 := by rw [grT, if_neg z]
            have e2 : (grT n S (r + 1)).2 = if (grT n S r).2 = -2 then nI (bpT (cgr S (grT n S r).1) n).1 else (grT n S r).2 := by rw [grT, if_neg z]
            refine b_Mo_greedy_33 ⟨fun _ => ?_, fun c => absurd (by rw [h.1]; exact nI_le (Nat.le_refl _) (by omega)) c⟩
            rw [sh1 (by omega), io, ← e1]
            refine ⟨fun z2 => ?_, fun z2 => ?_⟩
            · rw [if_neg z2] at e2; rw [← e2]; exact ih
            · rw [if_pos z2] at e2; rw [← e2]; exact ih
          · intro i hi ihi x4 hx4
            have hb := bpT_le (cgr S (grT n S r).1) (B := 17) (fun p => cgr_le (by omega)) i
            have hc : cgr S (grT n S r).1 i ≤ 17 := cgr_le (by omega)
            refine b_Mo_greedy_33 ⟨fun c => absurd c (by rw [h.1]; exact nI_ge hi (by omega)), fun _ => ?_⟩
            refine (s_missedBy h).to ?_
            rw [show msk (fun i => decide (S.getD i 0 &&& (grT n S r).1 = 0)) S.length = misB S (grT n S r).1 from rfl]
            refine (s_ones (by omega)).to ?_
            rw [sh1 (by omega), io]
            refine (s_missedBy h).to ?_
            rw [show msk (fun j => decide (S.getD j 0 &&& ((grT n S r).1 ||| 2 ^ i) = 0)) S.length = misB S ((grT n S r).1 ||| 2 ^ i) from rfl]
            have hmis2 := mis_lt (S := S) (t := (grT n S r).1 ||| 2 ^ i)
            refine (s_ones (by omega)).to ?_
            have hsub := cgr_sub (S := S) (t := (grT n S r).1) (p := i) (by omega)
            rw [pk_sub (by omega), show pop (misB S (grT n S r).1) - pop (misB S ((grT n S r).1 ||| 2 ^ i)) = cgr S (grT n S r).1 i by omega, nI_ltI (by omega) (by omega), nI_1]
            rw [bpT] at ihi
            refine ⟨fun w => ?_, fun w => ?_⟩
            · rw [if_pos w] at ihi; exact ihi _ (fun _ => rfl)
            · rw [if_neg w] at ihi; exact ihi x4 hx4
        exact key2 0 (Nat.zero_le _) (-1) (fun q => absurd q (by simp [bpT]))
  exact key 0 (Nat.zero_le _)
end GRE
