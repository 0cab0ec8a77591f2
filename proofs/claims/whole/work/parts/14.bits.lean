/-! ints as naturals, bit by bit -/
theorem ia (a b : Nat) : nI a &&& nI b = nI (a &&& b) := by
  apply Int32.toBitVec_inj.1
  show BitVec.ofNat 32 a &&& BitVec.ofNat 32 b = BitVec.ofNat 32 (a &&& b)
  apply BitVec.eq_of_getLsbD_eq
  intro i hi
  simp [hi]
theorem io (a b : Nat) : nI a ||| nI b = nI (a ||| b) := by
  apply Int32.toBitVec_inj.1
  show BitVec.ofNat 32 a ||| BitVec.ofNat 32 b = BitVec.ofNat 32 (a ||| b)
  apply BitVec.eq_of_getLsbD_eq
  intro i hi
  simp [hi]
theorem ix (a b : Nat) : nI a ^^^ nI b = nI (a ^^^ b) := by
  apply Int32.toBitVec_inj.1
  show BitVec.ofNat 32 a ^^^ BitVec.ofNat 32 b = BitVec.ofNat 32 (a ^^^ b)
  apply BitVec.eq_of_getLsbD_eq
  intro i hi
  simp [hi]
/-- those of a that are not in b -/
def dif (a b : Nat) : Nat := a ^^^ (a &&& b)
theorem dif_bit (a b i : Nat) : (dif a b).testBit i = (a.testBit i && !b.testBit i) := by
  unfold dif
  rw [Nat.testBit_xor, Nat.testBit_and]
  cases a.testBit i <;> cases b.testBit i <;> rfl
theorem nI_ext {x y : Nat} (h : ∀ i, i < 32 → x.testBit i = y.testBit i) : nI x = nI y := by
  apply Int32.toBitVec_inj.1
  show BitVec.ofNat 32 x = BitVec.ofNat 32 y
  apply BitVec.eq_of_getLsbD_eq
  intro i hi
  rw [BitVec.getLsbD_ofNat, BitVec.getLsbD_ofNat, h i hi]
theorem idif (a b : Nat) : nI a &&& (nI b ^^^ (-1)) = nI (dif a b) := by
  rw [show (-1 : Int32) = nI (2 ^ 32 - 1) by decide, ix, ia]
  refine nI_ext (fun i hi => ?_)
  rw [Nat.testBit_and, Nat.testBit_xor, dif_bit, Nat.testBit_two_pow_sub_one]
  simp [hi]
theorem s_l : ∀ n, n < 32 → ((nI n &&& 31).toBitVec.smod 32).toNat = n := by decide +kernel
theorem sh1 {k : Nat} (h : k < 31) : (1 : Int32) <<< (nI k &&& 31) = nI (2 ^ k) := by
  have h2 : 2 ^ k < 2 ^ 31 := Nat.pow_lt_pow_right (by decide) h
  have := pk_shlN (n := 1) (nI k &&& 31) k (s_l k (by omega)) (by omega)
  rw [Nat.one_mul] at this
  exact this
theorem shl {a k : Nat} (h : k < 32) (ha : a * 2 ^ k < 2 ^ 32) : nI a <<< (nI k &&& 31) = nI (a * 2 ^ k) := pk_shlN (nI k &&& 31) k (s_l k h) ha
theorem shr {a k : Nat} (ha : a < 2 ^ 31) (hk : k < 32) : nI a >>> (nI k &&& 31) = nI (a / 2 ^ k) := pk_shrN ha (nI k &&& 31) k (s_l k hk)
theorem and1 (a : Nat) : nI a &&& 1 = nI (a % 2) := by
  rw [show (1 : Int32) = nI 1 from rfl, ia]
  rw [show a &&& 1 = a % 2 from Nat.and_two_pow_sub_one_eq_mod a 1]
theorem hasI {a k : Nat} (ha : a < 2 ^ 31) (hk : k < 32) : ((nI a >>> (nI k &&& 31)) &&& 1 = 1) ↔ a.testBit k = true := by
  rw [shr ha hk, and1, Nat.testBit_eq_decide_div_mod_eq, decide_eq_true_iff]
  rcases Nat.mod_two_eq_zero_or_one (a / 2 ^ k) with e | e <;> rw [e] <;> simp [nI]
theorem hasI0 {a k : Nat} (ha : a < 2 ^ 31) (hk : k < 32) : ((nI a >>> (nI k &&& 31)) &&& 1 = 0) ↔ a.testBit k = false := by
  rw [shr ha hk, and1, Nat.testBit_eq_decide_div_mod_eq, decide_eq_false_iff_not]
  rcases Nat.mod_two_eq_zero_or_one (a / 2 ^ k) with e | e <;> rw [e] <;> simp [nI]
theorem nI_inj {a b : Nat} (ha : a < 2 ^ 31) (hb : b < 2 ^ 31) : nI a = nI b ↔ a = b := nI_eq ha hb
theorem nI_z {a : Nat} (ha : a < 2 ^ 31) : nI a = 0 ↔ a = 0 := by rw [← nI_0]; exact nI_eq ha (by decide)
theorem nI_le0 {a : Nat} (ha : a < 2 ^ 31) : (0 : Int32) ≤ nI a := nI_pos' ha
theorem al {n : Nat} (h : n < 31) : alF (nI n) = nI (2 ^ n - 1) := by
  have h2 : 1 ≤ 2 ^ n := Nat.one_le_two_pow
  rw [alF, sh1 h, show (1 : Int32) = nI 1 from rfl, pk_sub h2]
/-- an int between 0 and a bound is a natural below it -/
theorem of_in {x : Int32} {n : Nat} (hn : n < 2 ^ 31) (h0 : 0 ≤ x) (h1 : x < nI n) : ∃ j, j < n ∧ x = nI j := by
  obtain ⟨j, hj, rfl⟩ := nI_of (i_nl.mpr h0)
  exact ⟨j, (nI_ltI hj hn).mp h1, rfl⟩
theorem of_inl {x : Int32} {n : Nat} (hn : n < 2 ^ 31) (h0 : 0 ≤ x) (h1 : x ≤ nI n) : ∃ j, j ≤ n ∧ x = nI j := by
  obtain ⟨j, hj, rfl⟩ := nI_of (i_nl.mpr h0)
  exact ⟨j, (nI_leI hj hn).mp h1, rfl⟩
/-! counting bits -/
def popT : Nat → Nat → Nat
  | 0, _ => 0
  | w + 1, a => popT w a + (if a.testBit w then 1 else 0)
/-- how many bits (below 20) -/
def pop (a : Nat) : Nat := popT 20 a
theorem popT_cong {a b : Nat} : ∀ (w : Nat), (∀ i, i < w → a.testBit i = b.testBit i) → popT w a = popT w b
  | 0, _ => rfl
  | w + 1, h => by rw [popT, popT, popT_cong w (fun i hi => h i (by omega)), h w (by omega)]
theorem popT_le : ∀ (w a : Nat), popT w a ≤ w
  | 0, _ => Nat.le_refl 0
  | w + 1, a => by have := popT_le w a; rw [popT]; split <;> omega
theorem popT_half : ∀ (w a : Nat), popT (w + 1) a = a % 2 + popT w (a / 2)
  | 0, a => by
    simp only [popT, Nat.zero_add, Nat.testBit_zero, Nat.add_zero]
    rcases Nat.mod_two_eq_zero_or_one a with e | e <;> simp [e]
  | w + 1, a => by
    rw [popT, popT_half w a, popT, Nat.testBit_succ]
    omega
theorem popT_big {a n : Nat} (h : a < 2 ^ n) : ∀ (w : Nat), n ≤ w → popT w a = popT n a
  | 0, hw => by rw [Nat.le_zero.mp hw]
  | w + 1, hw => by
    rcases Nat.lt_or_ge w n with q | q
    · rw [show n = w + 1 by omega]
    · rw [popT, popT_big h w q, Nat.testBit_lt_two_pow (Nat.lt_of_lt_of_le h (Nat.pow_le_pow_right (by decide) q))]
      rfl
theorem pop_le (a : Nat) : pop a ≤ 20 := popT_le 20 a
/-- the same, as the JDK counts -/
def bcN (a : Nat) : Nat :=
  (fun x1 => (fun x2 => (fun x3 => (fun x4 => (fun x5 => Nat.land x5 63) (Nat.add x4 (Nat.shiftRight x4 16))) (Nat.add x3 (Nat.shiftRight x3 8))) (Nat.land (Nat.add x2 (Nat.shiftRight x2 4)) 252645135)) (Nat.add (Nat.land x1 858993459) (Nat.land (Nat.shiftRight x1 2) 858993459))) (Nat.sub a (Nat.land (Nat.shiftRight a 1) 1431655765))
def bcK (a : Nat) : Bool := (fun r => Nat.beq (bcN (Nat.mul 2 a)) r && Nat.beq (bcN (Nat.add (Nat.mul 2 a) 1)) (Nat.add r 1)) (bcN a)
def chkB (P : Nat → Bool) : Nat → Nat → Bool
  | 0, b => P b
  | k + 1, b => chkB P k b && chkB P k (Nat.add b (Nat.pow 2 k))
theorem chkB_ok {P : Nat → Bool} : ∀ (k b : Nat), chkB P k b = true → ∀ a, b ≤ a → a < b + 2 ^ k → P a = true
  | 0, b, h, a, h1, h2 => by
    rw [show a = b by rw [Nat.pow_zero] at h2; omega]
    exact h
  | k + 1, b, h, a, h1, h2 => by
    simp only [chkB, Bool.and_eq_true] at h
    rcases Nat.lt_or_ge a (b + 2 ^ k) with q | q
    · exact chkB_ok k b h.1 a h1 q
    · exact chkB_ok k (b + 2 ^ k) h.2 a q (by rw [Nat.pow_succ] at h2; omega)
theorem bc_all : chkB bcK 16 0 = true := by decide +kernel
theorem bcN_half {a : Nat} (h : a < 2 ^ 17) : bcN a = a % 2 + bcN (a / 2) := by
  have h1 := chkB_ok 16 0 bc_all (a / 2) (Nat.zero_le _) (by omega)
  simp only [bcK, Bool.and_eq_true] at h1
  have e1 : bcN (2 * (a / 2)) = bcN (a / 2) := Nat.eq_of_beq_eq_true h1.1
  have e2 : bcN (2 * (a / 2) + 1) = bcN (a / 2) + 1 := Nat.eq_of_beq_eq_true h1.2
  rcases Nat.mod_two_eq_zero_or_one a with e | e
  · rw [e, Nat.zero_add, ← e1, show 2 * (a / 2) = a by omega]
  · rw [e, Nat.add_comm, ← e2, show 2 * (a / 2) + 1 = a by omega]
theorem bcN_pop : ∀ (w a : Nat), w ≤ 17 → a < 2 ^ w → bcN a = popT w a
  | 0, a, _, h => by rw [show a = 0 by rw [Nat.pow_zero] at h; omega]; decide
  | w + 1, a, hw, h => by
    rw [bcN_half (Nat.lt_of_lt_of_le h (Nat.pow_le_pow_right (by decide) hw)), popT_half, bcN_pop w (a / 2) (by omega) (by rw [Nat.pow_succ] at h; omega)]
theorem s_u : ∀ n, n < 32 → (((nI n).toUInt32 &&& Int32.toUInt32 31).toBitVec % 32).toNat = n := by decide +kernel
theorem us_n {a k : Nat} (ha : a < 2 ^ 32) (hk : k < 32) : ((nI a).toUInt32 >>> ((nI k).toUInt32 &&& Int32.toUInt32 31)).toInt32 = nI (a >>> k) := by
  rw [pk_ushrN ha (nI k) k (s_u k hk), Nat.shiftRight_eq_div_pow]
theorem bcA_n {a : Nat} (h : a < 2 ^ 17) : bcA (nI a) = nI (a - ((a >>> 1) &&& 1431655765)) := by
  have b1 : (a >>> 1) &&& 1431655765 ≤ a := Nat.le_trans Nat.and_le_left (by rw [Nat.shiftRight_eq_div_pow]; exact Nat.div_le_self _ _)
  rw [bcA, show (1 : Int32) = nI 1 from rfl, us_n (by omega) (by decide), show (1431655765 : Int32) = nI 1431655765 by decide, ia, pk_sub b1]
theorem bcB_n {x : Nat} (h : x < 2 ^ 17) : bcB (nI x) = nI ((x &&& 858993459) + ((x >>> 2) &&& 858993459)) ∧ (x &&& 858993459) + ((x >>> 2) &&& 858993459) < 2 ^ 18 := by
  have h1 : x &&& 858993459 ≤ x := Nat.and_le_left
  have h2 : (x >>> 2) &&& 858993459 ≤ x := Nat.le_trans Nat.and_le_left (by rw [Nat.shiftRight_eq_div_pow]; exact Nat.div_le_self _ _)
  exact ⟨by rw [bcB, show (2 : Int32) = nI 2 from rfl, us_n (by omega) (by decide), show (858993459 : Int32) = nI 858993459 by decide, ia, ia, nI_add], by omega⟩
theorem bcC_n {x : Nat} (h : x < 2 ^ 18) : bcC (nI x) = nI ((x + (x >>> 4)) &&& 252645135) ∧ (x + (x >>> 4)) &&& 252645135 < 2 ^ 19 := by
  have h1 : (x + (x >>> 4)) &&& 252645135 ≤ x + (x >>> 4) := Nat.and_le_left
  have h2 : x >>> 4 ≤ x := by rw [Nat.shiftRight_eq_div_pow]; exact Nat.div_le_self _ _
  exact ⟨by rw [bcC, show (4 : Int32) = nI 4 from rfl, us_n (by omega) (by decide), nI_add, show (252645135 : Int32) = nI 252645135 by decide, ia], by omega⟩
theorem bcD_n {x : Nat} (h : x < 2 ^ 19) : bcD (nI x) = nI (x + (x >>> 8)) ∧ x + (x >>> 8) < 2 ^ 20 := by
  have h2 : x >>> 8 ≤ x := by rw [Nat.shiftRight_eq_div_pow]; exact Nat.div_le_self _ _
  exact ⟨by rw [bcD, show (8 : Int32) = nI 8 from rfl, us_n (by omega) (by decide), nI_add], by omega⟩
theorem bcE_n {x : Nat} (h : x < 2 ^ 20) : bcE (nI x) = nI (x + (x >>> 16)) := by
  rw [bcE, show (16 : Int32) = nI 16 from rfl, us_n (by omega) (by decide), nI_add]
theorem bc {a : Nat} (h : a < 2 ^ 17) : bcF (nI a) = nI (pop a) := by
  have e : bcF (nI a) = nI (bcN a) := by
    have l1 : a - ((a >>> 1) &&& 1431655765) < 2 ^ 17 := by omega
    have e2 := bcB_n l1
    have e3 := bcC_n e2.2
    have e4 := bcD_n e3.2
    rw [bcF, bcA_n h, e2.1, e3.1, e4.1, bcE_n e4.2, show (63 : Int32) = nI 63 from rfl, ia]
    rfl
  rw [e, bcN_pop 17 a (Nat.le_refl _) h, pop, popT_big h 20 (by decide)]
theorem pop_zero : pop 0 = 0 := by decide
theorem pop_top {b i : Nat} (hb : b < 2 ^ i) (hi : i < 20) : pop (b + 2 ^ i) = pop b + 1 := by
  have hlo : ∀ j, j < i → (b + 2 ^ i).testBit j = b.testBit j := fun j hj => by rw [Nat.add_comm]; exact Nat.testBit_two_pow_add_gt hj b
  have hat : (b + 2 ^ i).testBit i = true := by rw [Nat.add_comm, Nat.testBit_two_pow_add_eq, Nat.testBit_lt_two_pow hb]; rfl
  have h2 : b + 2 ^ i < 2 ^ (i + 1) := by rw [Nat.pow_succ]; omega
  rw [pop, pop, popT_big h2 20 (by omega), popT_big hb 20 (by omega), popT, popT_cong i hlo, hat]
  rfl
/-! masks of indices -/
def msk (p : Nat → Bool) : Nat → Nat
  | 0 => 0
  | n + 1 => msk p n + (if p n then 2 ^ n else 0)
theorem msk_lt (p : Nat → Bool) : ∀ n, msk p n < 2 ^ n
  | 0 => Nat.zero_lt_one
  | n + 1 => by have := msk_lt p n; rw [msk, Nat.pow_succ]; split <;> omega
theorem msk_bit (p : Nat → Bool) : ∀ (n i : Nat), (msk p n).testBit i = (decide (i < n) && p i)
  | 0, i => by simp [msk]
  | n + 1, i => by
    have hl := msk_lt p n
    rw [msk]
    by_cases hp : p n = true
    · rw [if_pos hp]
      rcases Nat.lt_trichotomy i n with q | q | q
      · rw [Nat.add_comm, Nat.testBit_two_pow_add_gt q, msk_bit p n i]
        simp [q, Nat.lt_succ_of_lt q]
      · subst q
        rw [Nat.add_comm, Nat.testBit_two_pow_add_eq, Nat.testBit_lt_two_pow hl]
        simp [hp]
      · rw [Nat.testBit_lt_two_pow (Nat.lt_of_lt_of_le (show msk p n + 2 ^ n < 2 ^ (n + 1) by rw [Nat.pow_succ]; omega) (Nat.pow_le_pow_right (by decide) q))]
        simp [show ¬ i < n + 1 by omega]
    · rw [if_neg hp, Nat.add_zero, msk_bit p n i]
      by_cases e : i = n
      · subst e; simp [hp]
      · simp [show (i < n + 1) ↔ (i < n) by omega]
theorem msk_cong {p q : Nat → Bool} : ∀ (n : Nat), (∀ i, i < n → p i = q i) → msk p n = msk q n
  | 0, _ => rfl
  | n + 1, h => by rw [msk, msk, msk_cong n (fun i hi => h i (by omega)), h n (by omega)]
theorem or_add {a n : Nat} (h : a < 2 ^ n) : a ||| 2 ^ n = a + 2 ^ n := by
  apply Nat.eq_of_testBit_eq
  intro i
  rw [Nat.testBit_or, Nat.testBit_two_pow]
  rcases Nat.lt_trichotomy i n with q | q | q
  · rw [Nat.add_comm, Nat.testBit_two_pow_add_gt q]
    simp [show ¬ n = i by omega]
  · subst q
    rw [Nat.add_comm a, Nat.testBit_two_pow_add_eq, Nat.testBit_lt_two_pow h]
    simp
  · rw [Nat.testBit_lt_two_pow (Nat.lt_of_lt_of_le (show a + 2 ^ n < 2 ^ (n + 1) by rw [Nat.pow_succ]; omega) (Nat.pow_le_pow_right (by decide) q)), Nat.testBit_lt_two_pow (Nat.lt_trans h (Nat.pow_lt_pow_right (by decide) q))]
    simp [show ¬ n = i by omega]
