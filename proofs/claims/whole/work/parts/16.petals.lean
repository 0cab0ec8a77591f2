/-! sunflowers: sets of numbers as bits, g i the i-th set, m how many -/
theorem top_lo {b i j : Nat} (hb : b < 2 ^ i) (hj : j < i) : (b + 2 ^ i).testBit j = b.testBit j := by rw [Nat.add_comm]; exact Nat.testBit_two_pow_add_gt hj b
theorem top_at {b i : Nat} (hb : b < 2 ^ i) : (b + 2 ^ i).testBit i = true := by rw [Nat.add_comm, Nat.testBit_two_pow_add_eq, Nat.testBit_lt_two_pow hb]; rfl
theorem top_lt {b i : Nat} (hb : b < 2 ^ i) : b + 2 ^ i < 2 ^ (i + 1) := by rw [Nat.pow_succ]; omega
theorem bit_lt {b m i : Nat} (hb : b < 2 ^ m) (h : b.testBit i = true) : i < m := by
  rcases Nat.lt_or_ge i m with q | q
  · exact q
  · rw [Nat.testBit_lt_two_pow (Nat.lt_of_lt_of_le hb (Nat.pow_le_pow_right (by decide) q))] at h
    cases h
theorem bit_ge {b i : Nat} (h : b.testBit i = true) : 2 ^ i ≤ b := by
  rcases Nat.lt_or_ge b (2 ^ i) with q | q
  · rw [Nat.testBit_lt_two_pow q] at h; cases h
  · exact q
/-- a number with a highest bit is that bit and less -/
theorem top_of {b i : Nat} (h1 : 2 ^ i ≤ b) (h2 : b < 2 ^ (i + 1)) : ∃ c, c < 2 ^ i ∧ b = c + 2 ^ i := ⟨b - 2 ^ i, by rw [Nat.pow_succ] at h2; omega, by omega⟩
theorem top_ex {b : Nat} : ∀ (m : Nat), b < 2 ^ m → b ≠ 0 → ∃ i, i < m ∧ 2 ^ i ≤ b ∧ b < 2 ^ (i + 1)
  | 0, h, h0 => by rw [Nat.pow_zero] at h; omega
  | m + 1, h, h0 => by
    rcases Nat.lt_or_ge b (2 ^ m) with q | q
    · obtain ⟨i, a, c⟩ := top_ex m q h0
      exact ⟨i, by omega, c⟩
    · exact ⟨m, by omega, q, h⟩
theorem pop_lt {b w : Nat} (hw : w ≤ 20) (h : b < 2 ^ w) : pop b ≤ w := by rw [pop, popT_big h 20 hw]; exact popT_le w b
theorem pop_pos {b : Nat} (h : b < 2 ^ 20) (h0 : b ≠ 0) : 0 < pop b := by
  obtain ⟨i, hi, a, c⟩ := top_ex 20 h h0
  obtain ⟨e, he, rfl⟩ := top_of a c
  rw [pop_top he hi]; omega
/-- each two of those that b names meet in just c -/
def Cl (g : Nat → Nat) (c b : Nat) : Prop := ∀ i j, j < i → b.testBit i = true → b.testBit j = true → g i &&& g j = c
/-- b is some of s, many of them, each two meet in c -/
def Cq (g : Nat → Nat) (s c many b : Nat) : Prop := (∀ i, b.testBit i = true → s.testBit i = true) ∧ pop b = many ∧ Cl g c b
theorem Cl.top {g : Nat → Nat} {c b i : Nat} (hb : b < 2 ^ i) : Cl g c (b + 2 ^ i) ↔ Cl g c b ∧ ∀ j, b.testBit j = true → g i &&& g j = c := by
  constructor
  · intro h
    refine ⟨fun x y hxy hx hy => ?_, fun j hj => ?_⟩
    · have l1 := bit_lt hb hx
      exact h x y hxy (by rw [top_lo hb l1]; exact hx) (by rw [top_lo hb (by omega)]; exact hy)
    · have l1 := bit_lt hb hj
      exact h i j l1 (top_at hb) (by rw [top_lo hb l1]; exact hj)
  · rintro ⟨h1, h2⟩ x y hxy hx hy
    have lx := bit_lt (top_lt hb) hx
    rcases Nat.lt_or_ge x i with q | q
    · rw [top_lo hb q] at hx
      rw [top_lo hb (by omega)] at hy
      exact h1 x y hxy hx hy
    · have e : x = i := by omega
      subst e
      rw [top_lo hb hxy] at hy
      exact h2 y hy
/-- the least number with P, or none -/
def Lst (P : Nat → Prop) (r : Int32) : Prop := (∃ b, P b ∧ (∀ b', P b' → b ≤ b') ∧ r = nI b) ∨ ((∀ b, ¬ P b) ∧ r = -1)
theorem Lst.cong {P Q : Nat → Prop} {r : Int32} (h : Lst P r) (e : ∀ b, P b ↔ Q b) : Lst Q r := by
  rcases h with ⟨b, h1, h2, h3⟩ | ⟨h1, h2⟩
  · exact Or.inl ⟨b, (e b).mp h1, fun b' hb => h2 b' ((e b').mpr hb), h3⟩
  · exact Or.inr ⟨fun b hb => h1 b ((e b).mpr hb), h2⟩
theorem Lst.uniq {P : Nat → Prop} {r r' : Int32} (h : Lst P r) (h' : Lst P r') : r = r' := by
  rcases h with ⟨b, h1, h2, h3⟩ | ⟨h1, h2⟩ <;> rcases h' with ⟨b', h1', h2', h3'⟩ | ⟨h1', h2'⟩
  · rw [h3, h3', Nat.le_antisymm (h2 b' h1') (h2' b h1)]
  · exact absurd h1 (h1' b)
  · exact absurd h1' (h1 b')
  · rw [h2, h2']
/-! the lowest bit -/
def lobN (a : Nat) : Nat := Nat.land a (Nat.sub 4294967296 a)
def lobK (a : Nat) : Bool := Nat.beq (lobN (Nat.mul 2 a)) (Nat.mul 2 (lobN a)) && Nat.beq (lobN (Nat.add (Nat.mul 2 a) 1)) 1
theorem lob_all : chkB lobK 16 0 = true := by decide +kernel
theorem lobN_low : ∀ (i a : Nat), a < 2 ^ 17 → a.testBit i = true → (∀ j, j < i → a.testBit j = false) → lobN a = 2 ^ i
  | 0, a, h, hi, hl => by
    have h1 := chkB_ok 16 0 lob_all (a / 2) (Nat.zero_le _) (by omega)
    simp only [lobK, Bool.and_eq_true] at h1
    rw [Nat.testBit_zero, decide_eq_true_iff] at hi
    have e := Nat.eq_of_beq_eq_true h1.2
    rw [show Nat.add (Nat.mul 2 (a / 2)) 1 = a from by show 2 * (a / 2) + 1 = a; omega] at e
    rw [e, Nat.pow_zero]
  | i + 1, a, h, hi, hl => by
    have h1 := chkB_ok 16 0 lob_all (a / 2) (Nat.zero_le _) (by omega)
    simp only [lobK, Bool.and_eq_true] at h1
    have h0 := hl 0 (by omega)
    rw [Nat.testBit_zero, decide_eq_false_iff_not] at h0
    have e := Nat.eq_of_beq_eq_true h1.1
    rw [show Nat.mul 2 (a / 2) = a from by show 2 * (a / 2) = a; omega] at e
    rw [e, lobN_low i (a / 2) (by omega) (by rw [← Nat.testBit_succ]; exact hi) (fun j hj => by rw [← Nat.testBit_succ]; exact hl (j + 1) (by omega)), Nat.pow_succ]
    show 2 * 2 ^ i = _
    omega
theorem lob {a i : Nat} (h : a < 2 ^ 17) (hi : a.testBit i = true) (hl : ∀ j, j < i → a.testBit j = false) : lobF (nI a) = nI (2 ^ i) := by
  have hpos : 0 < a := Nat.lt_of_lt_of_le (Nat.two_pow_pos i) (bit_ge hi)
  have e : -nI a = nI (4294967296 - a) := by
    apply Int32.toBitVec_inj.1
    show -(BitVec.ofNat 32 a) = BitVec.ofNat 32 (4294967296 - a)
    apply BitVec.eq_of_toNat_eq
    rw [BitVec.toNat_neg, BitVec.toNat_ofNat, BitVec.toNat_ofNat, Nat.mod_eq_of_lt (by omega : a < 2 ^ 32)]
  rw [lobF, e, ia, ← lobN_low i a h hi hl]
  rfl
theorem low_ex {a : Nat} : ∀ (m : Nat), a < 2 ^ m → a ≠ 0 → ∃ i, i < m ∧ a.testBit i = true ∧ ∀ j, j < i → a.testBit j = false := by
  intro m h h0
  obtain ⟨k, hk, h1, h2⟩ := top_ex m h h0
  obtain ⟨e, he, rfl⟩ := top_of h1 h2
  obtain ⟨i, h3, h4⟩ := pk_least (fun i => (e + 2 ^ k).testBit i = true) ⟨k, top_at he⟩
  exact ⟨i, bit_lt h h3, h3, fun j hj => by simpa using h4 j hj⟩
section PET
variable {d f n : Nat} {S : List Nat} {mem : Mem}
theorem Fam.aF {i : Nat} (h : Fam mem f n S) (hi : i < S.length) : atF mem f (nI i) = nI (S.getD i 0) := by
  have hl := h.2.2.1
  rw [atF, if_pos ⟨nI_le0 (by omega), nI_lt (show i < 17 by omega) (by decide)⟩, h.row hi]
theorem s_meetingIn {x c s : Nat} (hf : IsF f) (h : Fam mem f n S) (hx : x < 2 ^ 31) (hc : c < 2 ^ 31) (hs : s < 2 ^ 31) : CI shX m_Petals_meetingIn d [.ref f, .int (nI x), .int (nI c), .int (nI s)] mem (fun r m' => r = nI (msk (fun i => s.testBit i && decide (S.getD i 0 &&& x = c)) S.length) ∧ m' = mem) := by
  have hl := h.2.2.1
  refine e_Petals_meetingIn hf ?_
  refine downInd (P := fun i => Wp shX m_Petals_meetingIn d 6 [some (.ref f), some (.int (nI x)), some (.int (nI c)), some (.int (nI s)), some (.int (nI (msk (fun i => s.testBit i && decide (S.getD i 0 &&& x = c)) i))), some (.int (nI i))] [] mem (QI _)) S.length ?_ ?_ 0 (Nat.zero_le _)
  · exact b_Petals_meetingIn_6 hf ⟨fun _ => ⟨rfl, rfl⟩, fun c => absurd ((h.ge (Nat.le_refl _)).mpr rfl) c⟩
  · intro i hi ih
    have hlt : S.getD i 0 &&& x < 2 ^ 31 := Nat.lt_of_le_of_lt Nat.and_le_right hx
    refine b_Petals_meetingIn_6 hf ⟨fun c => absurd ((h.ge (Nat.le_of_lt hi)).mp c) (by omega), fun _ => ⟨fun z => ⟨?_, rfl⟩, fun z => ⟨fun z2 => ?_, fun z2 => ⟨h.vin hi, fun z3 => ?_, fun z3 => ?_⟩⟩⟩⟩
    · rw [shr hs (by omega), nI_z (Nat.lt_of_le_of_lt (Nat.div_le_self _ _) hs)] at z
      have hsi : s < 2 ^ i := (Nat.div_eq_zero_iff_lt (Nat.two_pow_pos i)).mp z
      congr 1
      apply Nat.eq_of_testBit_eq
      intro j
      rw [msk_bit, msk_bit]
      rcases Nat.lt_or_ge j i with q | q
      · simp [q, Nat.lt_trans q hi]
      · rw [Nat.testBit_lt_two_pow (Nat.lt_of_lt_of_le hsi (Nat.pow_le_pow_right (by decide) q))]
        simp
    · rw [hasI0 hs (by omega)] at z2
      rw [msk, if_neg (by simp [z2]), Nat.add_zero] at ih
      rw [nI_1]
      exact ih
    · rw [hasI0 hs (by omega), Bool.not_eq_false] at z2
      rw [h.row hi, ia, nI_inj hlt hc] at z3
      rw [msk, if_neg (by simp only [z2, Bool.true_and, decide_eq_true_iff]; exact z3), Nat.add_zero] at ih
      rw [nI_1]
      exact ih
    · rw [hasI0 hs (by omega), Bool.not_eq_false] at z2
      rw [h.row hi, ia, nI_inj hlt hc] at z3
      rw [msk, if_pos (by simp only [z2, Bool.true_and, decide_eq_true_iff]; exact z3)] at ih
      rw [nI_1, sh1 (by omega), io, or_add (msk_lt _ i)]
      exact ih
theorem s_fitting {x y s : Nat} (hf : IsF f) (h : Fam mem f n S) (hx : x < 2 ^ 31) (hy : y < 2 ^ 31) (hs : s < 2 ^ 31) : CI shX m_Petals_fitting (d + 1) [.ref f, .int (nI x), .int (nI y), .int (nI s)] mem (fun r m' => r = nI (msk (fun i => s.testBit i && (decide (S.getD i 0 &&& x = x &&& y) && decide (S.getD i 0 &&& y = x &&& y))) S.length) ∧ m' = mem) := by
  have hl := h.2.2.1
  have hc : x &&& y < 2 ^ 31 := Nat.lt_of_le_of_lt Nat.and_le_left hx
  refine e_Petals_fitting hf ?_
  rw [ia]
  refine (s_meetingIn hf h hy hc hs).to ?_
  refine (s_meetingIn hf h hx hc (Nat.lt_of_lt_of_le (msk_lt _ _) (Nat.pow_le_pow_right (by decide) (by omega)))).to ?_
  refine ⟨?_, rfl⟩
  congr 1
  refine msk_cong _ (fun i hi => ?_)
  rw [msk_bit]
  simp only [hi, decide_true, Bool.true_and]
  cases s.testBit i <;> cases decide (S.getD i 0 &&& x = x &&& y) <;> cases decide (S.getD i 0 &&& y = x &&& y) <;> rfl
theorem nI_m1 {a : Nat} (h : a < 2 ^ 31) : ¬ nI a = -1 := by
  intro e
  exact nI_pos h (by rw [e]; decide)
/-- a clique with a highest bit i: the rest is a clique among those below that fit -/
theorem Cq.top {g : Nat → Nat} {s c k b i : Nat} (hi : i < 17) (hb : b < 2 ^ i) (hs : s.testBit i = true) (m : Nat) (him : i < m) : Cq g s c (k + 1) (b + 2 ^ i) ↔ Cq g (msk (fun j => (s &&& (2 ^ i - 1)).testBit j && decide (g j &&& g i = c)) m) c k b := by
  constructor
  · rintro ⟨h1, h2, h3⟩
    obtain ⟨h3, h4⟩ := (Cl.top hb).mp h3
    refine ⟨fun j hj => ?_, by rw [pop_top hb (by omega)] at h2; omega, h3⟩
    have lj := bit_lt hb hj
    rw [msk_bit, Nat.testBit_and, Nat.testBit_two_pow_sub_one]
    have e1 : s.testBit j = true := h1 j (by rw [top_lo hb lj]; exact hj)
    have e2 : g j &&& g i = c := by rw [Nat.and_comm]; exact h4 j hj
    simp [e1, e2, lj, Nat.lt_trans lj him]
  · rintro ⟨h1, h2, h3⟩
    have h5 : ∀ j, b.testBit j = true → s.testBit j = true ∧ g i &&& g j = c := by
      intro j hj
      have := h1 j hj
      rw [msk_bit, Nat.testBit_and] at this
      simp only [Bool.and_eq_true, decide_eq_true_iff] at this
      exact ⟨this.2.1.1, by rw [Nat.and_comm]; exact this.2.2⟩
    refine ⟨fun j hj => ?_, by rw [pop_top hb (by omega), h2], (Cl.top hb).mpr ⟨h3, fun j hj => (h5 j hj).2⟩⟩
    have lj := bit_lt (top_lt hb) hj
    rcases Nat.lt_or_ge j i with q | q
    · rw [top_lo hb q] at hj
      exact (h5 j hj).1
    · rw [show j = i by omega]; exact hs
theorem sub_le {a s : Nat} (h : ∀ i, a.testBit i = true → s.testBit i = true) {m : Nat} (hs : s < 2 ^ m) : a < 2 ^ m := by
  refine Nat.lt_pow_two_of_testBit a (fun i hi => ?_)
  cases e : a.testBit i with
  | false => rfl
  | true => exact absurd (bit_lt hs (h i e)) (by omega)
theorem pop_mono {s : Nat} : ∀ (w a : Nat), (∀ i, a.testBit i = true → s.testBit i = true) → popT w a ≤ popT w s
  | 0, a, h => Nat.le_refl _
  | w + 1, a, h => by
    have := pop_mono w a h
    rw [popT, popT]
    have h2 := h w
    cases e : a.testBit w with
    | false => simp; omega
    | true => simp [h2 e]; omega
theorem s_leastClique : ∀ (k d s c : Nat) (_ : k ≤ d + 1) (_ : IsF f) (h : Fam mem f n S) (_ : s < 2 ^ S.length) (_ : c < 2 ^ 31) (_ : k < 20), CI shX m_Petals_leastClique (d + 1) [.ref f, .int (nI s), .int (nI c), .int (nI k)] mem (fun r m' => Lst (Cq (fun i => S.getD i 0) s c k) r ∧ m' = mem) := by
  intro k
  induction k with
  | zero =>
    intro d s c hd hf h hs hc hk
    have hl := h.2.2.1
    refine e_Petals_leastClique hf ⟨fun z => absurd z (by decide), fun _ => ⟨Or.inl ⟨0, ⟨fun i hi => by simp at hi, pop_zero, fun i j _ hi => by simp at hi⟩, fun b' _ => Nat.zero_le _, rfl⟩, rfl⟩⟩
  | succ k ih =>
    intro d s c hd hf h hs hc hk
    have hl := h.2.2.1
    have hs17 : s < 2 ^ 17 := Nat.lt_of_lt_of_le hs (Nat.pow_le_pow_right (by decide) hl)
    have hps : pop s ≤ 17 := pop_lt (by decide) hs17
    refine e_Petals_leastClique hf ⟨fun _ => ⟨fun z => ⟨fun z1 => ?_, fun z1 => ?_⟩, fun z => ?_⟩, fun z => absurd (nI_lt (a := 0) (b := k + 1) (by omega) (by omega)) z⟩
    · -- the search
      have hk1 : k ≠ 0 := fun e => z1 (by rw [e]; rfl)
      have e0 : nI (k + 1) - 1 = nI k := nI_pred k
      rw [e0]
      have main : ∀ i, i ≤ S.length → (∀ b, b < 2 ^ i → ¬ Cq (fun i => S.getD i 0) s c (k + 1) b) → Wp shX m_Petals_leastClique (d + 1) 31 [some (.ref f), some (.int (nI s)), some (.int (nI c)), some (.int (nI (k + 1))), some (.int (nI i)), none, none] [] mem (QI (fun r m' => Lst (Cq (fun i => S.getD i 0) s c (k + 1)) r ∧ m' = mem)) := by
        refine downInd (P := fun i => (∀ b, b < 2 ^ i → ¬ Cq (fun i => S.getD i 0) s c (k + 1) b) → Wp shX m_Petals_leastClique (d + 1) 31 [some (.ref f), some (.int (nI s)), some (.int (nI c)), some (.int (nI (k + 1))), some (.int (nI i)), none, none] [] mem (QI (fun r m' => Lst (Cq (fun i => S.getD i 0) s c (k + 1)) r ∧ m' = mem))) S.length ?_ ?_
        · intro hno
          refine b_Petals_leastClique_31 hf ⟨fun _ => ⟨Or.inr ⟨fun b hb => hno b (sub_le hb.1 hs) hb, rfl⟩, rfl⟩, fun c => absurd ((h.ge (Nat.le_refl _)).mpr rfl) c⟩
        · intro i hi ihl hno
          refine b_Petals_leastClique_31 hf ⟨fun c => absurd ((h.ge (Nat.le_of_lt hi)).mp c) (by omega), fun _ => ⟨fun z2 => ?_, fun z2 => ?_⟩⟩
          · rw [hasI0 (by omega) (by omega)] at z2
            rw [nI_1]
            refine ihl (fun b hb hq => ?_)
            rcases Nat.lt_or_ge b (2 ^ i) with q | q
            · exact hno b q hq
            · obtain ⟨e, he, rfl⟩ := top_of q hb
              have := hq.1 i (top_at he)
              rw [z2] at this; cases this
          · rw [hasI0 (by omega) (by omega), Bool.not_eq_false] at z2
            have hg := h.small i
            have h2i : 1 ≤ 2 ^ i := Nat.one_le_two_pow
            rw [h.aF hi, sh1 (by omega), show (1 : Int32) = nI 1 from rfl, pk_sub h2i, ia]
            have hs2 : s &&& (2 ^ i - 1) < 2 ^ 31 := Nat.lt_of_le_of_lt Nat.and_le_left (by omega)
            refine (s_meetingIn hf h (by omega) hc hs2).to ?_
            have hr := msk_lt (fun j => (s &&& (2 ^ i - 1)).testBit j && decide (S.getD j 0 &&& S.getD i 0 = c)) S.length
            rw [show nI (k + 1) - nI 1 = nI k from nI_pred k]
            obtain ⟨d', rfl⟩ : ∃ d', d = d' + 1 := ⟨d - 1, by omega⟩
            refine (ih d' _ c (by omega) hf h hr hc (by omega)).mono ?_
            rintro v m' ⟨hv, rfl⟩
            refine ⟨fun z3 => ?_, fun z3 => ?_⟩
            · rw [show (1 : Int32) = nI 1 from rfl] at *
              rw [nI_add]
              refine ihl (fun b hb hq => ?_)
              rcases Nat.lt_or_ge b (2 ^ i) with q | q
              · exact hno b q hq
              · obtain ⟨e, he, rfl⟩ := top_of q hb
                rcases hv with ⟨b1, y1, y2, y3⟩ | ⟨y1, y2⟩
                · have lb : b1 < 2 ^ S.length := sub_le y1.1 hr
                  have : 2 ^ S.length ≤ 2 ^ 17 := Nat.pow_le_pow_right (by decide) hl
                  exact nI_m1 (by omega) (y3.symm.trans z3)
                · exact y1 e ((Cq.top (by omega) he z2 S.length hi).mp hq)
            · rcases hv with ⟨b1, y1, y2, y3⟩ | ⟨y1, y2⟩
              · have lb : b1 < 2 ^ i := by
                  refine Nat.lt_pow_two_of_testBit b1 (fun j hj => ?_)
                  cases e : b1.testBit j with
                  | false => rfl
                  | true =>
                    have := y1.1 j e
                    rw [msk_bit, Nat.testBit_and, Nat.testBit_two_pow_sub_one] at this
                    simp [show ¬ j < i by omega] at this
                subst y3
                rw [io, or_add lb]
                refine ⟨Or.inl ⟨b1 + 2 ^ i, (Cq.top (by omega) lb z2 S.length hi).mpr y1, fun b' hb' => ?_, rfl⟩, rfl⟩
                rcases Nat.lt_or_ge b' (2 ^ i) with q | q
                · exact absurd hb' (hno b' q)
                · rcases Nat.lt_or_ge b' (2 ^ (i + 1)) with q2 | q2
                  · obtain ⟨e, he, rfl⟩ := top_of q q2
                    have := y2 e ((Cq.top (by omega) he z2 S.length hi).mp hb')
                    omega
                  · have := top_lt lb
                    omega
              · exact absurd y2 z3
      rcases Nat.lt_or_ge S.length k with q | q
      · exfalso
        rw [bc hs17, nI_leI (by omega) (by omega)] at z
        have := pop_lt (w := S.length) (by omega) hs
        omega
      · refine main k q (fun b hb hq => ?_)
        have := pop_lt (w := k) (by omega) hb
        have := hq.2.1
        omega
    · -- one
      have hk0 : k = 0 := by
        rw [show (1 : Int32) = nI 1 from rfl, nI_inj (by omega) (by decide)] at z1
        omega
      subst hk0
      rw [bc hs17, nI_leI (by omega) (by omega)] at z
      have hs0 : s ≠ 0 := fun e => by rw [e, pop_zero] at z; omega
      obtain ⟨i, hi, h1, h2⟩ := low_ex S.length hs hs0
      rw [lob hs17 h1 h2]
      have hp : pop (2 ^ i) = 1 := by
        have := pop_top (b := 0) (i := i) (Nat.two_pow_pos i) (by omega)
        rw [Nat.zero_add, pop_zero] at this
        exact this
      refine ⟨Or.inl ⟨2 ^ i, ⟨fun j hj => ?_, hp, fun x y hxy hx hy => ?_⟩, fun b' hb' => ?_, rfl⟩, rfl⟩
      · rw [Nat.testBit_two_pow, decide_eq_true_iff] at hj
        rw [← hj]; exact h1
      · rw [Nat.testBit_two_pow, decide_eq_true_iff] at hx hy
        omega
      · have hb0 : b' ≠ 0 := fun e => by have := hb'.2.1; rw [e, pop_zero] at this; omega
        obtain ⟨j, hj, hjt, _⟩ := low_ex S.length (sub_le hb'.1 hs) hb0
        have : i ≤ j := by
          rcases Nat.lt_or_ge j i with q | q
          · have e1 := h2 j q
            rw [hb'.1 j hjt] at e1; cases e1
          · exact q
        exact Nat.le_trans (Nat.pow_le_pow_right (by decide) this) (bit_ge hjt)
    · -- too few
      rw [bc hs17, nI_leI (by omega) (by omega)] at z
      refine ⟨Or.inr ⟨fun b hb => ?_, rfl⟩, rfl⟩
      have h1 := pop_mono 20 b hb.1
      have h2 := hb.2.1
      simp only [pop] at h2 z
      omega
/-- k sets that are a sunflower -/
def Fl (g : Nat → Nat) (m k b : Nat) : Prop := b < 2 ^ m ∧ pop b = k ∧ ∃ c, Cl g c b
theorem Fl.two {g : Nat → Nat} {m k b i j : Nat} (hm : m ≤ 17) (him : i < m) (hji : j < i) (hb : b < 2 ^ j) : Fl g m (k + 2) (b + 2 ^ j + 2 ^ i) ↔ Cq g (msk (fun x => (2 ^ j - 1).testBit x && (decide (g x &&& g i = g i &&& g j) && decide (g x &&& g j = g i &&& g j))) m) (g i &&& g j) k b := by
  have hb2 : b + 2 ^ j < 2 ^ i := Nat.lt_of_lt_of_le (top_lt hb) (Nat.pow_le_pow_right (by decide) hji)
  have hlt : b + 2 ^ j + 2 ^ i < 2 ^ m := Nat.lt_of_lt_of_le (top_lt hb2) (Nat.pow_le_pow_right (by decide) him)
  constructor
  · rintro ⟨h1, h2, c, h3⟩
    obtain ⟨h3, h4⟩ := (Cl.top hb2).mp h3
    obtain ⟨h5, h6⟩ := (Cl.top hb).mp h3
    have hc : g i &&& g j = c := h4 j (top_at hb)
    rw [hc]
    refine ⟨fun x hx => ?_, ?_, h5⟩
    · have lx := bit_lt hb hx
      have e1 : g x &&& g i = c := by rw [Nat.and_comm]; exact h4 x (by rw [top_lo hb lx]; exact hx)
      have e2 : g x &&& g j = c := by rw [Nat.and_comm]; exact h6 x hx
      rw [msk_bit, Nat.testBit_two_pow_sub_one]
      simp [e1, e2, lx, show x < m by omega]
    · rw [pop_top hb2 (by omega), pop_top hb (by omega)] at h2
      omega
  · rintro ⟨h1, h2, h3⟩
    have h5 : ∀ x, b.testBit x = true → g i &&& g x = g i &&& g j ∧ g j &&& g x = g i &&& g j := by
      intro x hx
      have := h1 x hx
      rw [msk_bit] at this
      simp only [Bool.and_eq_true, decide_eq_true_iff] at this
      exact ⟨by rw [Nat.and_comm]; exact this.2.2.1, by rw [Nat.and_comm]; exact this.2.2.2⟩
    refine ⟨hlt, by rw [pop_top hb2 (by omega), pop_top hb (by omega), h2], g i &&& g j, (Cl.top hb2).mpr ⟨(Cl.top hb).mpr ⟨h3, fun x hx => (h5 x hx).2⟩, fun x hx => ?_⟩⟩
    have lx := bit_lt (top_lt hb) hx
    rcases Nat.lt_or_ge x j with q | q
    · rw [top_lo hb q] at hx
      exact (h5 x hx).1
    · rw [show x = j by omega]
theorem s_leastFlower {k : Nat} (hf : IsF f) (h : Fam mem f n S) (hk2 : 2 ≤ k) (hk : k ≤ 17) : CI shX m_Petals_leastFlower (d + 21) [.ref f, .int (nI k)] mem (fun r m' => Lst (Fl (fun i => S.getD i 0) S.length k) r ∧ m' = mem) := by
  have hl := h.2.2.1
  obtain ⟨k, rfl⟩ : ∃ k', k = k' + 2 := ⟨k - 2, by omega⟩
  have ek1 : nI (k + 2) - 1 = nI (k + 1) := nI_pred (k + 1)
  have ek2 : nI (k + 2) - 2 = nI k := by rw [show (2 : Int32) = nI 2 from rfl, pk_sub (by omega)]; rfl
  refine e_Petals_leastFlower hf ?_
  rw [ek1]
  -- no flower below 2^i
  have main : ∀ i, i ≤ S.length → k + 1 ≤ i → (∀ b, b < 2 ^ i → ¬ Fl (fun i => S.getD i 0) S.length (k + 2) b) → Wp shX m_Petals_leastFlower (d + 21) 4 [some (.ref f), some (.int (nI (k + 2))), some (.int (nI i)), none, none, none, none] [] mem (QI (fun r m' => Lst (Fl (fun i => S.getD i 0) S.length (k + 2)) r ∧ m' = mem)) := by
    refine downInd (P := fun i => k + 1 ≤ i → (∀ b, b < 2 ^ i → ¬ Fl (fun i => S.getD i 0) S.length (k + 2) b) → Wp shX m_Petals_leastFlower (d + 21) 4 [some (.ref f), some (.int (nI (k + 2))), some (.int (nI i)), none, none, none, none] [] mem (QI (fun r m' => Lst (Fl (fun i => S.getD i 0) S.length (k + 2)) r ∧ m' = mem))) S.length ?_ ?_
    · intro _ hno
      exact b_Petals_leastFlower_4 hf ⟨fun _ => ⟨Or.inr ⟨fun b hb => hno b hb.1 hb, rfl⟩, rfl⟩, fun c => absurd ((h.ge (Nat.le_refl _)).mpr rfl) c⟩
    · intro i hi ihl hki hno
      refine b_Petals_leastFlower_4 hf ⟨fun c => absurd ((h.ge (Nat.le_of_lt hi)).mp c) (by omega), fun _ => ?_⟩
      rw [ek2]
      -- no flower with highest bit i whose second is below j
      have inner : ∀ j, j ≤ i → (∀ b, b < 2 ^ j → ¬ Fl (fun i => S.getD i 0) S.length (k + 2) (b + 2 ^ i)) → Wp shX m_Petals_leastFlower (d + 21) 16 [some (.ref f), some (.int (nI (k + 2))), some (.int (nI i)), some (.int (nI j)), none, none, none] [] mem (QI (fun r m' => Lst (Fl (fun i => S.getD i 0) S.length (k + 2)) r ∧ m' = mem)) := by
        refine downInd (P := fun j => (∀ b, b < 2 ^ j → ¬ Fl (fun i => S.getD i 0) S.length (k + 2) (b + 2 ^ i)) → Wp shX m_Petals_leastFlower (d + 21) 16 [some (.ref f), some (.int (nI (k + 2))), some (.int (nI i)), some (.int (nI j)), none, none, none] [] mem (QI (fun r m' => Lst (Fl (fun i => S.getD i 0) S.length (k + 2)) r ∧ m' = mem))) i ?_ ?_
        · intro hno2
          refine b_Petals_leastFlower_16 hf ⟨fun _ => ?_, fun c => absurd (nI_le (Nat.le_refl i) (by omega)) c⟩
          rw [nI_1]
          refine ihl (by omega) (fun b hb hq => ?_)
          rcases Nat.lt_or_ge b (2 ^ i) with q | q
          · exact hno b q hq
          · obtain ⟨e, he, rfl⟩ := top_of q hb
            exact hno2 e he hq
        · intro j hj ihj hno2
          have h2j : 1 ≤ 2 ^ j := Nat.one_le_two_pow
          have hgi := h.small i
          have hgj := h.small j
          have hpw : 2 ^ j < 2 ^ 31 := Nat.pow_lt_pow_right (by decide) (by omega)
          refine b_Petals_leastFlower_16 hf ⟨fun c => absurd c (by rw [nI_leI (by omega) (by omega)]; omega), fun _ => ?_⟩
          rw [h.aF hi, h.aF (Nat.lt_trans hj hi), ek2]
          rw [show ((1 : Int32) <<< (nI j &&& 31)) - 1 = nI (2 ^ j - 1) from by rw [sh1 (by omega), show (1 : Int32) = nI 1 from rfl, pk_sub h2j]]
          refine (s_fitting hf h (by omega) (by omega) (by omega)).to ?_
          rw [ia]
          have hr := msk_lt (fun x => (2 ^ j - 1).testBit x && (decide (S.getD x 0 &&& S.getD i 0 = S.getD i 0 &&& S.getD j 0) && decide (S.getD x 0 &&& S.getD j 0 = S.getD i 0 &&& S.getD j 0))) S.length
          have hcm : S.getD i 0 &&& S.getD j 0 < 2 ^ 31 := Nat.lt_of_le_of_lt Nat.and_le_left (by omega)
          refine (s_leastClique k (d + 19) _ _ (by omega) hf h hr hcm (by omega)).mono ?_
          rintro v m' ⟨hv, rfl⟩
          have hsub : ∀ b1, Cq (fun i => S.getD i 0) (msk (fun x => (2 ^ j - 1).testBit x && (decide (S.getD x 0 &&& S.getD i 0 = S.getD i 0 &&& S.getD j 0) && decide (S.getD x 0 &&& S.getD j 0 = S.getD i 0 &&& S.getD j 0))) S.length) (S.getD i 0 &&& S.getD j 0) k b1 → b1 < 2 ^ j := by
            intro b1 y1
            refine Nat.lt_pow_two_of_testBit b1 (fun x hx => ?_)
            cases e : b1.testBit x with
            | false => rfl
            | true =>
              have := y1.1 x e
              rw [msk_bit, Nat.testBit_two_pow_sub_one] at this
              simp [show ¬ x < j by omega] at this
          have h2i : 2 ^ (j + 1) ≤ 2 ^ i := Nat.pow_le_pow_right (by decide) hj
          refine ⟨fun z => ?_, fun z => ?_⟩
          · rw [nI_1]
            refine ihj (fun b hb hq => ?_)
            rcases Nat.lt_or_ge b (2 ^ j) with q | q
            · exact hno2 b q hq
            · obtain ⟨e, he, rfl⟩ := top_of q hb
              rcases hv with ⟨b1, y1, y2, y3⟩ | ⟨y1, y2⟩
              · have lb := hsub b1 y1
                exact nI_m1 (by omega) (y3.symm.trans z)
              · exact y1 e ((Fl.two hl hi hj he).mp hq)
          · rcases hv with ⟨b1, y1, y2, y3⟩ | ⟨y1, y2⟩
            · have lb := hsub b1 y1
              have lb2 := top_lt lb
              subst y3
              have eor : (nI b1 ||| ((1 : Int32) <<< (nI i &&& 31))) ||| ((1 : Int32) <<< (nI j &&& 31)) = nI (b1 + 2 ^ j + 2 ^ i) := by
                rw [sh1 (by omega), sh1 (by omega), io, io]
                congr 1
                rw [Nat.or_assoc, Nat.or_comm (2 ^ i), ← Nat.or_assoc, or_add lb, or_add (by omega)]
              rw [eor]
              refine ⟨Or.inl ⟨_, (Fl.two hl hi hj lb).mpr y1, fun b' hb' => ?_, rfl⟩, rfl⟩
              rcases Nat.lt_or_ge b' (2 ^ i) with q | q
              · exact absurd hb' (hno b' q)
              · rcases Nat.lt_or_ge b' (2 ^ (i + 1)) with q2 | q2
                · obtain ⟨e, he, rfl⟩ := top_of q q2
                  rcases Nat.lt_or_ge e (2 ^ j) with q3 | q3
                  · exact absurd hb' (hno2 e q3)
                  · rcases Nat.lt_or_ge e (2 ^ (j + 1)) with q4 | q4
                    · obtain ⟨e2, he2, rfl⟩ := top_of q3 q4
                      have := y2 e2 ((Fl.two hl hi hj he2).mp hb')
                      omega
                    · omega
                · rw [Nat.pow_succ] at q2
                  omega
            · exact absurd y2 z
      have q : k ≤ i := by omega
      · refine inner k q (fun b hb hq => ?_)
        have h1 := pop_lt (w := k) (by omega) hb
        have h2 := hq.2.1
        rw [pop_top (Nat.lt_of_lt_of_le hb (Nat.pow_le_pow_right (by decide) q)) (by omega)] at h2
        omega
  rcases Nat.lt_or_ge S.length (k + 1) with q | q
  · have hno : ∀ b, ¬ Fl (fun i => S.getD i 0) S.length (k + 2) b := fun b hb => by
      have h1 := pop_lt (w := S.length) (by omega) hb.1
      have h2 := hb.2.1
      omega
    refine b_Petals_leastFlower_4 hf ⟨fun _ => ⟨Or.inr ⟨hno, rfl⟩, rfl⟩, fun c => absurd (by rw [h.2.1]; exact nI_le (by omega) (by omega)) c⟩
  · refine main (k + 1) q (Nat.le_refl _) (fun b hb hq => ?_)
    have h1 := pop_lt (w := k + 1) (by omega) hb
    have h2 := hq.2.1
    omega
end PET
