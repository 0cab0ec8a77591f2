/-! the class's table of touched sets -/
def ntK (b : Nat) : Bool := Nat.beq b 0 || ((fun t : Int32 => decide (t = nI t.toNatClampNeg) && (Nat.blt t.toNatClampNeg 10 && Nat.beq b (Nat.lor (Nat.land b (Nat.sub b 1)) (Nat.pow 2 t.toNatClampNeg)))) (ntzF (nI b)))
theorem nt_all : chkB ntK 10 0 = true := by decide +kernel
theorem ntz_ex {b : Nat} (h : b < 1024) (h0 : b ≠ 0) : ∃ t, t < 10 ∧ ntzF (nI b) = nI t ∧ b = (b &&& (b - 1)) ||| 2 ^ t := by
  have h1 := chkB_ok 10 0 nt_all b (Nat.zero_le _) (by omega)
  rw [ntK, Bool.or_eq_true] at h1
  rcases h1 with h1 | h1
  · exact absurd (Nat.eq_of_beq_eq_true h1) h0
  · rw [Bool.and_eq_true, Bool.and_eq_true] at h1
    obtain ⟨y1, y2, y3⟩ := h1
    exact ⟨(ntzF (nI b)).toNatClampNeg, Nat.le_of_ble_eq_true y2, of_decide_eq_true y1, Nat.eq_of_beq_eq_true y3⟩
theorem unT_low {g : Nat → Nat} {b t w : Nat} (ht : t < w) (e : b = (b &&& (b - 1)) ||| 2 ^ t) : unT g b w = unT g (b &&& (b - 1)) w ||| g t := by
  apply Nat.eq_of_testBit_eq
  intro j
  rw [Bool.eq_iff_iff, Nat.testBit_or, Bool.or_eq_true, unT_bit, unT_bit]
  constructor
  · rintro ⟨k, h1, h2, h3⟩
    rw [e, Nat.testBit_or, Bool.or_eq_true, Nat.testBit_two_pow, decide_eq_true_iff] at h2
    rcases h2 with h2 | h2
    · exact Or.inl ⟨k, h1, h2, h3⟩
    · subst h2; exact Or.inr h3
  · rintro (⟨k, h1, h2, h3⟩ | h3)
    · refine ⟨k, h1, ?_, h3⟩
      rw [e, Nat.testBit_or, h2, Bool.true_or]
    · refine ⟨t, ht, ?_, h3⟩
      rw [e, Nat.testBit_or, Nat.testBit_two_pow, decide_eq_true rfl, Bool.or_true]
theorem unT_nil {g : Nat → Nat} : ∀ i, unT g 0 i = 0
  | 0 => rfl
  | i + 1 => by rw [unT, if_neg (by simp), unT_nil i]
/-- the table is filled by these columns -/
def Tch (mem : Mem) (n m : Nat) (col : Nat → Nat) : Prop := mem 11 2 = nI (2 ^ m - 1) ∧ mem 11 3 = nI (2 ^ n - 1) ∧ ∀ b, b < 2 ^ n → mem 13 b = nI (unT col b 10)
theorem Tch.tc {mem : Mem} {n m b : Nat} {col : Nat → Nat} (h : Tch mem n m col) (hn : n ≤ 10) (hb : b < 2 ^ n) : tcF mem (nI b) = nI (unT col b 10) := by
  have : 2 ^ n ≤ 2 ^ 10 := Nat.pow_le_pow_right (by decide) hn
  rw [tcF, if_pos ⟨nI_le0 (by omega), by rw [show (1024 : Int32) = nI 1024 from rfl]; exact nI_lt (by omega) (by decide)⟩, nI_clamp (by omega)]
  exact h.2.2 b hb
section TCH
variable {d n f : Nat} {S : List Nat} {mem : Mem}
theorem s_fillMarks {col : Nat → Nat} (hf : IsF f) (hne : f ≠ 11) (h : Fam mem f n S) (hc : ∀ p, p < 10 → mem 12 p = nI (col p)) : CV shX m_Touch_fillMarks (d + 1) [.ref 11, .ref f] mem (fun m' => Tch m' n S.length col ∧ Same mem m' [11, 13]) := by
  have hl := h.2.2.1
  have hn := h.2.2.2.1
  have hpn : 2 ^ n ≤ 2 ^ 10 := Nat.pow_le_pow_right (by decide) hn
  have h1n : 1 ≤ 2 ^ n := Nat.one_le_two_pow
  refine e_Touch_fillMarks hf ?_
  rw [up2_ne hne, h.1, h.2.1, al (by omega), al (by omega)]
  refine downInd (P := fun i => ∀ m0 : Mem, m0 11 2 = nI (2 ^ S.length - 1) → m0 11 3 = nI (2 ^ n - 1) → (∀ b, b < i → m0 13 b = nI (unT col b 10)) → Same mem m0 [11, 13] → 1 ≤ i → Wp shX m_Touch_fillMarks (d + 1) 25 [some (.ref 11), none, some (.int (nI i)), none] [] m0 (QV (fun m' => Tch m' n S.length col ∧ Same mem m' [11, 13]))) (2 ^ n) ?_ ?_ 1 h1n _ ?_ ?_ ?_ ?_ (Nat.le_refl _)
  · intro m0 e1 e2 e3 e4 _
    refine b_Touch_fillMarks_25 hf ⟨fun _ => ⟨⟨e1, e2, e3⟩, e4⟩, fun c => absurd (by rw [e2]; exact nI_lt (by omega) (by omega)) c⟩
  · intro i hi ih m0 e1 e2 e3 e4 hi1
    obtain ⟨t, t1, t2, t3⟩ := ntz_ex (b := i) (by omega) (by omega)
    have hle : i &&& (i - 1) ≤ i - 1 := Nat.and_le_right
    have ei : nI i &&& (nI i - 1) = nI (i &&& (i - 1)) := by
      rw [show (1 : Int32) = nI 1 from rfl, pk_sub hi1, ia]
    refine b_Touch_fillMarks_25 hf ⟨fun c => absurd c (by rw [e2, nI_ltI (by omega) (by omega)]; omega), fun _ => ⟨fun c => absurd c (by rw [show (1024 : Int32) = nI 1024 from rfl, nI_leI (by decide) (by omega)]; omega), fun _ => ⟨fun c => absurd c (by rw [t2, show (10 : Int32) = nI 10 from rfl, nI_leI (by decide) (by omega)]; omega), fun _ => ?_⟩⟩⟩
    rw [ei, t2]
    refine ⟨vp_in_nI (by omega) (by decide), vp_in_nI (by omega) (by decide), vp_in_nI (by omega) (by decide), ?_⟩
    rw [nI_clamp (by omega), nI_clamp (by omega), nI_clamp (by omega), e3 _ (by omega), e4 12 (by decide), hc t t1, io, ← unT_low t1 t3, nI_1]
    refine ih _ ?_ ?_ (fun b hb => ?_) (e4.tr (Same.up (by decide))) (by omega)
    · rw [up2_ne (by decide)]; exact e1
    · rw [up2_ne (by decide)]; exact e2
    · by_cases e : b = i
      · subst e; rw [up2_at]
      · rw [up2_nj e]; exact e3 b (by omega)
  · rw [up2_ne (by decide), up2_nj (by decide), up2_at]
  · rw [up2_ne (by decide), up2_at]
  · intro b hb
    have : b = 0 := by omega
    subst this
    rw [up2_at, unT_nil]; rfl
  · exact ((Same.up (by decide)).tr (Same.up (by decide))).tr (Same.up (by decide))
/-- the sets that have a point -/
def colH (S : List Nat) (p : Nat) : Nat := msk (fun i => decide (S.getD i 0 &&& 2 ^ p = 2 ^ p)) S.length
theorem s_fillHaving (hf : IsF f) (hx : f ≠ 11 ∧ f ∉ [12] ∧ f + 1 ∉ [12]) (h : Fam mem f n S) : CV shX m_Touch_fillHaving (d + 2) [.ref 11, .ref f] mem (fun m' => Tch m' n S.length (colH S) ∧ Same mem m' [11, 12, 13]) := by
  refine e_Touch_fillHaving hf ?_
  refine downInd (P := fun i => ∀ m0 : Mem, (∀ p, p < i → m0 12 p = nI (colH S p)) → Same mem m0 [12] → Wp shX m_Touch_fillHaving (d + 2) 2 [some (.ref 11), some (.ref f), some (.int (nI i))] [] m0 (QV (fun m' => Tch m' n S.length (colH S) ∧ Same mem m' [11, 12, 13]))) 10 ?_ ?_ 0 (by decide) mem (fun p hp => absurd hp (by omega)) Same.rf
  · intro m0 e1 e2
    refine b_Touch_fillHaving_2 hf ⟨fun _ => ?_, fun c => absurd (by decide) c⟩
    refine (s_fillMarks hf hx.1 (h.same e2 hx.2.1 hx.2.2) e1).mono ?_
    rintro m' ⟨y1, y2⟩
    exact ⟨y1, (e2.wd (by decide)).tr (y2.wd (by decide))⟩
  · intro i hi ih m0 e1 e2
    refine b_Touch_fillHaving_2 hf ⟨fun c => absurd c (by rw [show (10 : Int32) = nI 10 from rfl, nI_leI (by decide) (by omega)]; omega), fun _ => ?_⟩
    have hp : 2 ^ i ≤ 2 ^ 10 := Nat.pow_le_pow_right (by decide) (by omega)
    rw [sh1 (by omega)]
    refine (s_setsWith hf (h.same e2 hx.2.1 hx.2.2) (by omega)).to ⟨vp_in_nI (by omega) (by decide), ?_⟩
    rw [nI_clamp (by omega), nI_1]
    refine ih _ (fun p hp => ?_) (e2.tr (Same.up (by decide)))
    by_cases e : p = i
    · subst e; rw [up2_at]; rfl
    · rw [up2_nj e]; exact e1 p (by omega)
theorem s_fillLacking (hf : IsF f) (hx : f ≠ 11 ∧ f ∉ [12] ∧ f + 1 ∉ [12]) (h : Fam mem f n S) : CV shX m_Touch_fillLacking (d + 2) [.ref 11, .ref f] mem (fun m' => Tch m' n S.length (fun p => dif (2 ^ S.length - 1) (colH S p)) ∧ Same mem m' [11, 12, 13]) := by
  have hl := h.2.2.1
  refine e_Touch_fillLacking hf ?_
  refine downInd (P := fun i => ∀ m0 : Mem, (∀ p, p < i → m0 12 p = nI (dif (2 ^ S.length - 1) (colH S p))) → Same mem m0 [12] → Wp shX m_Touch_fillLacking (d + 2) 2 [some (.ref 11), some (.ref f), some (.int (nI i))] [] m0 (QV (fun m' => Tch m' n S.length (fun p => dif (2 ^ S.length - 1) (colH S p)) ∧ Same mem m' [11, 12, 13]))) 10 ?_ ?_ 0 (by decide) mem (fun p hp => absurd hp (by omega)) Same.rf
  · intro m0 e1 e2
    refine b_Touch_fillLacking_2 hf ⟨fun _ => ?_, fun c => absurd (by decide) c⟩
    refine (s_fillMarks (col := fun p => dif (2 ^ S.length - 1) (colH S p)) hf hx.1 (h.same e2 hx.2.1 hx.2.2) e1).mono ?_
    rintro m' ⟨y1, y2⟩
    exact ⟨y1, (e2.wd (by decide)).tr (y2.wd (by decide))⟩
  · intro i hi ih m0 e1 e2
    have hF := h.same e2 hx.2.1 hx.2.2
    refine b_Touch_fillLacking_2 hf ⟨fun c => absurd c (by rw [show (10 : Int32) = nI 10 from rfl, nI_leI (by decide) (by omega)]; omega), fun _ => ?_⟩
    have hp : 2 ^ i ≤ 2 ^ 10 := Nat.pow_le_pow_right (by decide) (by omega)
    rw [sh1 (by omega)]
    refine (s_setsWith hf hF (by omega)).to ⟨vp_in_nI (by omega) (by decide), ?_⟩
    rw [nI_clamp (by omega), nI_1, hF.2.1, al (by omega), idif]
    refine ih _ (fun p hp => ?_) (e2.tr (Same.up (by decide)))
    by_cases e : p = i
    · subst e; rw [up2_at]; rfl
    · rw [up2_nj e]; exact e1 p (by omega)
/-- the sets that some points touch -/
theorem tch_having {b : Nat} (hb : b < 1024) : unT (colH S) b 10 = msk (fun i => !decide (S.getD i 0 &&& b = 0)) S.length := by
  apply Nat.eq_of_testBit_eq
  intro j
  rw [Bool.eq_iff_iff, unT_bit, msk_bit, Bool.and_eq_true, decide_eq_true_iff, Bool.not_eq_true', decide_eq_false_iff_not]
  constructor
  · rintro ⟨k, h1, h2, h3⟩
    rw [colH, msk_bit, Bool.and_eq_true, decide_eq_true_iff, decide_eq_true_iff, and_pow] at h3
    refine ⟨h3.1, fun z => ?_⟩
    have : (S.getD j 0 &&& b).testBit k = true := by rw [Nat.testBit_and, h3.2, h2]; rfl
    rw [z, Nat.zero_testBit] at this
    cases this
  · rintro ⟨h1, h2⟩
    have hle : S.getD j 0 &&& b ≤ b := Nat.and_le_right
    obtain ⟨t, t1, t2, -⟩ := low_ex (a := S.getD j 0 &&& b) 10 (by omega) h2
    rw [Nat.testBit_and, Bool.and_eq_true] at t2
    refine ⟨t, t1, t2.2, ?_⟩
    rw [colH, msk_bit, Bool.and_eq_true, decide_eq_true_iff, decide_eq_true_iff, and_pow]
    exact ⟨h1, t2.1⟩
theorem tch_lacking {b : Nat} (hb : b < 1024) : unT (fun p => dif (2 ^ S.length - 1) (colH S p)) b 10 = msk (fun i => !decide (S.getD i 0 &&& b = b)) S.length := by
  apply Nat.eq_of_testBit_eq
  intro j
  rw [Bool.eq_iff_iff, unT_bit, msk_bit, Bool.and_eq_true, decide_eq_true_iff, Bool.not_eq_true', decide_eq_false_iff_not]
  constructor
  · rintro ⟨k, h1, h2, h3⟩
    rw [colH, dif_msk, msk_bit, Bool.and_eq_true, decide_eq_true_iff, Bool.not_eq_true', decide_eq_false_iff_not, and_pow] at h3
    refine ⟨h3.1, fun z => h3.2 ?_⟩
    have e : (S.getD j 0 &&& b).testBit k = true := by rw [z]; exact h2
    rw [Nat.testBit_and, Bool.and_eq_true] at e
    exact e.1
  · rintro ⟨h1, h2⟩
    rw [← dif_z] at h2
    obtain ⟨t, t1, t2, -⟩ := low_ex (a := dif b (S.getD j 0)) 10 (dif_lt (by omega)) h2
    rw [dif_bit, Bool.and_eq_true, Bool.not_eq_true'] at t2
    refine ⟨t, t1, t2.1, ?_⟩
    rw [colH, dif_msk, msk_bit, Bool.and_eq_true, decide_eq_true_iff, Bool.not_eq_true', decide_eq_false_iff_not, and_pow, t2.2]
    exact ⟨h1, by decide⟩
end TCH
