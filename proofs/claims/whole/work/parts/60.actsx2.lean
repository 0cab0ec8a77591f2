/-! without, only, join, turn, flip, reduce, thin, undo of the class -/
section ACY
variable {d n : Nat} {S T : List Nat} {H : List (List Nat)} {mem : Mem}
theorem with_z {p m : Nat} : msk (fun i => decide (S.getD i 0 &&& 2 ^ p = 2 ^ p)) m = 0 ↔ ¬ ∃ i, i < m ∧ (S.getD i 0).testBit p = true := by
  constructor
  · rintro h ⟨i, i1, i2⟩
    have := congrArg (fun v => v.testBit i) h
    simp only [msk_bit, Nat.zero_testBit, and_pow, i1, i2] at this
    simp at this
  · intro h
    apply Nat.eq_of_testBit_eq
    intro i
    rw [msk_bit, Nat.zero_testBit, Bool.and_eq_false_imp, decide_eq_true_iff, decide_eq_false_iff_not, and_pow]
    exact fun i1 i2 => h ⟨i, i1, i2⟩
theorem x_without {a : Int32} (h : Fam mem 1 n S) (hl : S.length ≤ 16) (hX : XH mem H) : CI shX m_PS_without (d + 3) [.ref 0, .int a] mem (fun r m' => r = aNew (cWithout n S a) (fun x => dif x (2 ^ a.toNatClampNeg)) S ∧ Fam m' 1 n (nS S (oNew (cWithout n S a) (fun x => dif x (2 ^ a.toNatClampNeg)) S)) ∧ XH m' (nH H S (oNew (cWithout n S a) (fun x => dif x (2 ^ a.toNatClampNeg)) S)) ∧ Same mem m' acells) := by
  have hn := h.2.2.2.1
  have hp17 := pow17 (m := S.length) (by omega)
  have no : ¬ cWithout n S a → (-1 : Int32) = aNew (cWithout n S a) (fun x => dif x (2 ^ a.toNatClampNeg)) S ∧ Fam mem 1 n (nS S (oNew (cWithout n S a) (fun x => dif x (2 ^ a.toNatClampNeg)) S)) ∧ XH mem (nH H S (oNew (cWithout n S a) (fun x => dif x (2 ^ a.toNatClampNeg)) S)) ∧ Same mem mem acells := fun z => by
    rw [aNew, oNew, ifP_f z, ifP_f z]; exact ⟨rfl, h, hX, Same.rf⟩
  refine e_PS_without ⟨fun c => no (fun z => c (by rw [h.1]; exact z.1)), fun c1 => ?_⟩
  rw [h.1] at c1
  obtain ⟨p, p1, rfl⟩ := pt_ex hn c1
  have ep : (nI p).toNatClampNeg = p := nI_clamp (by omega)
  rw [sh1 (by omega)]
  refine (s_setsWith isF_1 h (Nat.pow_lt_pow_right (by decide) (by omega))).to ?_
  have hm := msk_lt (fun i => decide (S.getD i 0 &&& 2 ^ p = 2 ^ p)) S.length
  rw [nI_z (by omega), with_z]
  refine ⟨fun z => ?_, fun z => no (fun q => z (by rw [← ep]; exact q.2))⟩
  have hc : cWithout n S (nI p) := ⟨c1, by rw [ep]; exact Classical.not_not.mp z⟩
  rw [aNew, oNew, ifP_t hc, ifP_t hc, ep, h.1]
  refine (s_startAnew (d := d + 2) (n := n) isF_3 hn).mono ?_
  rintro m1 ⟨hF1, hS1⟩
  have hfs : ∀ i, dif (S.getD i 0) (2 ^ p) < 1024 := fun i => dif_lt (m := 10) (h.small i)
  refine downInd (P := fun i => ∀ m0 : Mem, Fam m0 3 n (naT (fun x => dif x (2 ^ p)) S i) → Same mem m0 [3, 4] → Wp shX m_PS_without (d + 3) 42 [some (.ref 0), some (.int (nI p)), some (.int (nI i))] [] m0 (QI (fun r m' => r = nI (naT (fun x => dif x (2 ^ p)) S S.length).length ∧ Fam m' 1 n (nS S (some (naT (fun x => dif x (2 ^ p)) S S.length))) ∧ XH m' (nH H S (some (naT (fun x => dif x (2 ^ p)) S S.length))) ∧ Same mem m' acells))) S.length ?_ ?_ 0 (Nat.zero_le _) m1 hF1 (hS1.wd (by simp))
  · intro m0 hF hS
    have hF0 := h.same hS (by decide) (by decide)
    refine b_PS_without_42 ⟨fun _ => ?_, fun c => absurd ((hF0.ge (Nat.le_refl _)).mpr rfl) c⟩
    refine (s_become isF_3 (by decide) hF0 hl (hX.same hS (by decide) (by decide) (by decide)) hF).mono ?_
    rintro m2 ⟨g1, g2, g3⟩
    exact ⟨g1.2.1, g1, g2, (hS.wd (by decide)).tr (g3.wd (by decide))⟩
  · intro i hi ih m0 hF hS
    have hF0 := h.same hS (by decide) (by decide)
    have hnl := naT_len (fun x => dif x (2 ^ p)) S i
    refine b_PS_without_42 ⟨fun c => absurd ((hF0.ge (Nat.le_of_lt hi)).mp c) (by omega), fun _ => ?_⟩
    rw [hF0.aF hi, sh1 (by omega), idif]
    refine (s_appendNew (d := d + 1) isF_3 hF (by omega) (hfs i)).mono ?_
    rintro m2 ⟨hF2, hS2⟩
    rw [nI_1]
    exact ih m2 hF2 (hS.tr hS2)
theorem x_join {a b : Int32} (h : Fam mem 1 n S) (hl : S.length ≤ 16) (hX : XH mem H) : CI shX m_PS_join (d + 3) [.ref 0, .int a, .int b] mem (fun r m' => r = aNew (cJoin n S a b) (jnF a.toNatClampNeg b.toNatClampNeg) S ∧ Fam m' 1 n (nS S (oNew (cJoin n S a b) (jnF a.toNatClampNeg b.toNatClampNeg) S)) ∧ XH m' (nH H S (oNew (cJoin n S a b) (jnF a.toNatClampNeg b.toNatClampNeg) S)) ∧ Same mem m' acells) := by
  have hn := h.2.2.2.1
  have hp17 := pow17 (m := S.length) (by omega)
  have no : ¬ cJoin n S a b → (-1 : Int32) = aNew (cJoin n S a b) (jnF a.toNatClampNeg b.toNatClampNeg) S ∧ Fam mem 1 n (nS S (oNew (cJoin n S a b) (jnF a.toNatClampNeg b.toNatClampNeg) S)) ∧ XH mem (nH H S (oNew (cJoin n S a b) (jnF a.toNatClampNeg b.toNatClampNeg) S)) ∧ Same mem mem acells := fun z => by
    rw [aNew, oNew, ifP_f z, ifP_f z]; exact ⟨rfl, h, hX, Same.rf⟩
  refine e_PS_join ⟨fun c => no (fun z => c (by rw [h.1]; exact z.1)), fun c1 => ⟨fun c => no (fun z => c (by rw [h.1]; exact z.2.1)), fun c2 => ⟨fun c3 => ?_, fun c => no (fun z => z.2.2.1 c)⟩⟩⟩
  rw [h.1] at c1 c2
  obtain ⟨p, p1, rfl⟩ := pt_ex hn c1
  obtain ⟨q, q1, rfl⟩ := pt_ex hn c2
  have ep : (nI p).toNatClampNeg = p := nI_clamp (by omega)
  have eq' : (nI q).toNatClampNeg = q := nI_clamp (by omega)
  rw [sh1 (by omega)]
  refine (s_setsWith isF_1 h (Nat.pow_lt_pow_right (by decide) (by omega))).to ?_
  have hm := msk_lt (fun i => decide (S.getD i 0 &&& 2 ^ q = 2 ^ q)) S.length
  rw [nI_z (by omega), with_z]
  refine ⟨fun z => ?_, fun z => no (fun y => z (by rw [← eq']; exact y.2.2.2))⟩
  have hc : cJoin n S (nI p) (nI q) := ⟨c1, c2, c3, by rw [eq']; exact Classical.not_not.mp z⟩
  rw [aNew, oNew, ifP_t hc, ifP_t hc, ep, eq', h.1]
  refine (s_startAnew (d := d + 2) (n := n) isF_3 hn).mono ?_
  rintro m1 ⟨hF1, hS1⟩
  have hfs : ∀ i, jnF p q (S.getD i 0) < 1024 := fun i => by
    unfold jnF
    split
    · exact Nat.or_lt_two_pow (n := 10) (dif_lt (m := 10) (h.small i)) (Nat.pow_lt_pow_right (by decide) (by omega))
    · exact h.small i
  refine downInd (P := fun i => ∀ m0 : Mem, Fam m0 3 n (naT (jnF p q) S i) → Same mem m0 [3, 4] → Wp shX m_PS_join (d + 3) 60 [some (.ref 0), some (.int (nI p)), some (.int (nI q)), some (.int (nI i)), none, none] [] m0 (QI (fun r m' => r = nI (naT (jnF p q) S S.length).length ∧ Fam m' 1 n (nS S (some (naT (jnF p q) S S.length))) ∧ XH m' (nH H S (some (naT (jnF p q) S S.length))) ∧ Same mem m' acells))) S.length ?_ ?_ 0 (Nat.zero_le _) m1 hF1 (hS1.wd (by simp))
  · intro m0 hF hS
    have hF0 := h.same hS (by decide) (by decide)
    refine b_PS_join_60 ⟨fun _ => ?_, fun c => absurd ((hF0.ge (Nat.le_refl _)).mpr rfl) c⟩
    refine (s_become isF_3 (by decide) hF0 hl (hX.same hS (by decide) (by decide) (by decide)) hF).mono ?_
    rintro m2 ⟨g1, g2, g3⟩
    exact ⟨g1.2.1, g1, g2, (hS.wd (by decide)).tr (g3.wd (by decide))⟩
  · intro i hi ih m0 hF hS
    have hF0 := h.same hS (by decide) (by decide)
    have hnl := naT_len (jnF p q) S i
    have hsm := h.small i
    refine b_PS_join_60 ⟨fun c => absurd ((hF0.ge (Nat.le_of_lt hi)).mp c) (by omega), fun _ => ?_⟩
    rw [hF0.aF hi, sh1 (by omega), sh1 (by omega), idif, io, hasI0 (by omega) (by omega)]
    have hfi := hfs i
    rw [naT] at ih
    refine ⟨fun z => ?_, fun z => ?_⟩
    · have e : jnF p q (S.getD i 0) = S.getD i 0 := by unfold jnF; rw [if_neg (by rw [z]; decide)]
      rw [e] at ih
      refine (s_appendNew (d := d + 1) isF_3 hF (by omega) hsm).mono ?_
      rintro m2 ⟨hF2, hS2⟩
      rw [nI_1]
      exact ih m2 hF2 (hS.tr hS2)
    · rw [Bool.not_eq_false] at z
      have e : jnF p q (S.getD i 0) = dif (S.getD i 0) (2 ^ q) ||| 2 ^ p := by unfold jnF; rw [if_pos z]
      rw [e] at ih hfi
      refine (s_appendNew (d := d + 1) isF_3 hF (by omega) hfi).mono ?_
      rintro m2 ⟨hF2, hS2⟩
      rw [nI_1]
      exact ih m2 hF2 (hS.tr hS2)
theorem x_flip (h : Fam mem 1 n S) (hl : S.length ≤ 16) (hX : XH mem H) : CI shX m_PS_flip (d + 3) [.ref 0] mem (fun r m' => r = aNew (S.length ≠ 0) (fun x => dif (2 ^ n - 1) x) S ∧ Fam m' 1 n (nS S (oNew (S.length ≠ 0) (fun x => dif (2 ^ n - 1) x) S)) ∧ XH m' (nH H S (oNew (S.length ≠ 0) (fun x => dif (2 ^ n - 1) x) S)) ∧ Same mem m' acells) := by
  have hn := h.2.2.2.1
  have hpn : 2 ^ n ≤ 2 ^ 10 := Nat.pow_le_pow_right (by decide) hn
  have h1n : 1 ≤ 2 ^ n := Nat.one_le_two_pow
  refine e_PS_flip ?_
  rw [h.2.1, nI_z (by omega)]
  refine ⟨fun z => ?_, fun z => ?_⟩
  · rw [aNew, oNew, ifP_t z, ifP_t z, h.1]
    refine (s_startAnew (d := d + 2) (n := n) isF_3 hn).mono ?_
    rintro m1 ⟨hF1, hS1⟩
    have hfs : ∀ i, dif (2 ^ n - 1) (S.getD i 0) < 1024 := fun i => Nat.lt_of_lt_of_le (dif_lt (m := n) (by omega)) hpn
    refine downInd (P := fun i => ∀ m0 : Mem, Fam m0 3 n (naT (fun x => dif (2 ^ n - 1) x) S i) → Same mem m0 [3, 4] → Wp shX m_PS_flip (d + 3) 28 [some (.ref 0), some (.int (nI i))] [] m0 (QI (fun r m' => r = nI (naT (fun x => dif (2 ^ n - 1) x) S S.length).length ∧ Fam m' 1 n (nS S (some (naT (fun x => dif (2 ^ n - 1) x) S S.length))) ∧ XH m' (nH H S (some (naT (fun x => dif (2 ^ n - 1) x) S S.length))) ∧ Same mem m' acells))) S.length ?_ ?_ 0 (Nat.zero_le _) m1 hF1 (hS1.wd (by simp))
    · intro m0 hF hS
      have hF0 := h.same hS (by decide) (by decide)
      refine b_PS_flip_28 ⟨fun _ => ?_, fun c => absurd ((hF0.ge (Nat.le_refl _)).mpr rfl) c⟩
      refine (s_become isF_3 (by decide) hF0 hl (hX.same hS (by decide) (by decide) (by decide)) hF).mono ?_
      rintro m2 ⟨g1, g2, g3⟩
      exact ⟨g1.2.1, g1, g2, (hS.wd (by decide)).tr (g3.wd (by decide))⟩
    · intro i hi ih m0 hF hS
      have hF0 := h.same hS (by decide) (by decide)
      have hnl := naT_len (fun x => dif (2 ^ n - 1) x) S i
      refine b_PS_flip_28 ⟨fun c => absurd ((hF0.ge (Nat.le_of_lt hi)).mp c) (by omega), fun _ => ?_⟩
      rw [hF0.aF hi, hF0.1, al (by omega), idif]
      refine (s_appendNew (d := d + 1) isF_3 hF (by omega) (hfs i)).mono ?_
      rintro m2 ⟨hF2, hS2⟩
      rw [nI_1]
      exact ih m2 hF2 (hS.tr hS2)
  · rw [aNew, oNew, ifP_f (fun q => q z), ifP_f (fun q => q z)]
    exact ⟨rfl, h, hX, Same.rf⟩
theorem tnF_lt {x : Nat} (hn : 1 ≤ n) (hx : x < 2 ^ n) : tnF n x < 2 ^ n := by
  obtain ⟨k, rfl⟩ : ∃ k, n = k + 1 := ⟨n - 1, by omega⟩
  have h2 : 2 ^ (k + 1) = 2 * 2 ^ k := by rw [Nat.pow_succ, Nat.mul_comm]
  have h1 : 0 < 2 ^ k := Nat.two_pow_pos k
  refine Nat.or_lt_two_pow (Nat.lt_of_le_of_lt Nat.and_le_right (by omega)) ?_
  rw [show k + 1 - 1 = k by omega]
  have : x / 2 ^ k < 2 := (Nat.div_lt_iff_lt_mul h1).mpr (by omega)
  omega
theorem x_turn (h : Fam mem 1 n S) (hl : S.length ≤ 16) (hX : XH mem H) (hn1 : 1 ≤ n) (hs : ∀ i, S.getD i 0 < 2 ^ n) : CI shX m_PS_turn (d + 4) [.ref 0] mem (fun r m' => r = aMove True (tnF n) S ∧ Fam m' 1 n (nS S (oMove True (tnF n) S)) ∧ XH m' (nH H S (oMove True (tnF n) S)) ∧ Same mem m' acells) := by
  have hn := h.2.2.2.1
  have hpn : 2 ^ n ≤ 2 ^ 10 := Nat.pow_le_pow_right (by decide) hn
  have h1n : 1 ≤ 2 ^ n := Nat.one_le_two_pow
  refine e_PS_turn ?_
  rw [h.1]
  refine (s_startAnew (d := d + 3) (n := n) isF_3 hn).mono ?_
  rintro m1 ⟨hF1, hS1⟩
  refine downInd (P := fun i => ∀ m0 : Mem, Fam m0 3 n ((S.take i).map (tnF n)) → Same mem m0 [3, 4] → Wp shX m_PS_turn (d + 4) 16 [some (.ref 0), some (.int (nI i)), none, none] [] m0 (QI (fun r m' => r = aMove True (tnF n) S ∧ Fam m' 1 n (nS S (oMove True (tnF n) S)) ∧ XH m' (nH H S (oMove True (tnF n) S)) ∧ Same mem m' acells))) S.length ?_ ?_ 0 (Nat.zero_le _) m1 (by rw [List.take_zero]; exact hF1) (hS1.wd (by simp))
  · intro m0 hF hS
    rw [List.take_length] at hF
    have hF0 := h.same hS (by decide) (by decide)
    refine b_PS_turn_16 ⟨fun _ => ?_, fun c => absurd ((hF0.ge (Nat.le_refl _)).mpr rfl) c⟩
    refine (s_becomeIfChanged hF0 hl (hX.same hS (by decide) (by decide) (by decide)) hF).mono ?_
    rintro r m2 ⟨g1, g2, g3, g4⟩
    exact ⟨g1, g2, g3, (hS.wd (by decide)).tr (g4.wd (by decide))⟩
  · intro i hi ih m0 hF hS
    have hF0 := h.same hS (by decide) (by decide)
    have hsi := hs i
    refine b_PS_turn_16 ⟨fun c => absurd ((hF0.ge (Nat.le_of_lt hi)).mp c) (by omega), fun _ y hy => ?_⟩
    rw [hF0.aF hi, show (1 : Int32) = nI 1 from rfl, shl (by decide) (by omega), hF0.1, shr (by omega) (by omega), ia] at hy
    rw [hF0.aF hi, show (1 : Int32) = nI 1 from rfl, shl (by decide) (by omega), hF0.1, al (by omega), ia, hy, io, nI_add]
    have e : (S.getD i 0 * 2 ^ 1 &&& (2 ^ n - 1)) ||| (S.getD i 0 * 2 ^ 1 / 2 ^ n &&& 1) = tnF n (S.getD i 0) := by
      unfold tnF
      obtain ⟨k, rfl⟩ : ∃ k, n = k + 1 := ⟨n - 1, by omega⟩
      have h2 : 2 ^ (k + 1) = 2 * 2 ^ k := by rw [Nat.pow_succ, Nat.mul_comm]
      have h1 : 0 < 2 ^ k := Nat.two_pow_pos k
      rw [show k + 1 - 1 = k by omega, Nat.pow_one, Nat.mul_comm (S.getD i 0) 2]
      congr 1
      have e1 : 2 * S.getD i 0 / 2 ^ (k + 1) = S.getD i 0 / 2 ^ k := by rw [h2, Nat.mul_div_mul_left _ _ (by decide)]
      have e2 : S.getD i 0 / 2 ^ k < 2 := (Nat.div_lt_iff_lt_mul h1).mpr (by omega)
      rw [e1, show S.getD i 0 / 2 ^ k &&& 1 = S.getD i 0 / 2 ^ k % 2 from Nat.and_two_pow_sub_one_eq_mod _ 1]
      exact Nat.mod_eq_of_lt e2
    rw [e]
    rw [map_take hi] at ih
    have hlt := tnF_lt hn1 hsi
    refine (s_append isF_3 hF (by rw [List.length_map, List.length_take]; omega) (by omega)).mono ?_
    rintro m2 ⟨hF2, hS2⟩
    exact ih m2 hF2 (hS.tr hS2)
theorem letGo_sel {p : Nat → Bool} {m : Nat} (hm : m ≤ 20) : (msk (fun i => !p i) m = 0 ↔ cntP (fun i => !p i) m = 0) ∧ pop (msk (fun i => !p i) m) = cntP (fun i => !p i) m ∧ sel (fun i => S.getD i 0) (fun i => !(msk (fun i => !p i) m).testBit i) m = sel (fun i => S.getD i 0) p m := by
  have e := pop_msk (fun i => !p i) m hm
  refine ⟨⟨fun h => by rw [← e, h, pop_zero], fun h => ?_⟩, e, ?_⟩
  · refine Classical.byContradiction (fun z => ?_)
    have := pop_pos (Nat.lt_of_lt_of_le (msk_lt (fun i => !p i) m) (Nat.pow_le_pow_right (by decide) hm)) z
    omega
  · refine sel_cong (fun i hi => ?_)
    rw [msk_bit]
    simp [hi]
theorem letGo_fin {c : Prop} {p : Nat → Bool} {r : Int32} {m' : Mem} {cs : List Nat} (hc : c) (hl : S.length ≤ 16) (hr : r = (if msk (fun i => !p i) S.length = 0 then -1 else nI (pop (msk (fun i => !p i) S.length)))) (hF : Fam m' 1 n (if msk (fun i => !p i) S.length = 0 then S else sel (fun i => S.getD i 0) (fun i => !(msk (fun i => !p i) S.length).testBit i) S.length)) (hX : XH m' (if msk (fun i => !p i) S.length = 0 then H else hp H S)) (hS : Same mem m' cs) : r = aSel c p S ∧ Fam m' 1 n (nS S (oSel c p S)) ∧ XH m' (nH H S (oSel c p S)) ∧ Same mem m' cs := by
  obtain ⟨g1, g2, g3⟩ := letGo_sel (S := S) (p := p) (m := S.length) (by omega)
  by_cases z : msk (fun i => !p i) S.length = 0
  · rw [if_pos z] at hr hF hX
    have hz : ¬ (c ∧ cntP (fun i => !p i) S.length ≠ 0) := fun q => q.2 (g1.mp z)
    rw [aSel, oSel, ifP_f hz, ifP_f hz]
    exact ⟨hr, hF, hX, hS⟩
  · rw [if_neg z] at hr hF hX
    have hz : c ∧ cntP (fun i => !p i) S.length ≠ 0 := ⟨hc, fun q => z (g1.mpr q)⟩
    rw [aSel, oSel, ifP_t hz, ifP_t hz]
    rw [g2] at hr
    rw [g3] at hF
    exact ⟨hr, hF, hX, hS⟩
theorem x_only {a w : Int32} (h : Fam mem 1 n S) (hl : S.length ≤ 16) (hX : XH mem H) : CI shX m_PS_only (d + 3) [.ref 0, .int a, .int w] mem (fun r m' => r = aSel (Ptp n a) (onP S a w) S ∧ Fam m' 1 n (nS S (oSel (Ptp n a) (onP S a w) S)) ∧ XH m' (nH H S (oSel (Ptp n a) (onP S a w) S)) ∧ Same mem m' acells) := by
  have hn := h.2.2.2.1
  have hp17 := pow17 (m := S.length) (by omega)
  refine e_PS_only ⟨fun c1 => ?_, fun c => ?_⟩
  · rw [h.1] at c1
    have c1' : Ptp n a := c1
    obtain ⟨p, p1, rfl⟩ := pt_ex hn c1
    have ep : (nI p).toNatClampNeg = p := nI_clamp (by omega)
    rw [sh1 (by omega)]
    refine (s_setsWith isF_1 h (Nat.pow_lt_pow_right (by decide) (by omega))).to ?_
    refine ⟨fun z => ?_, fun z => ?_⟩
    · have e : msk (fun i => decide (S.getD i 0 &&& 2 ^ p = 2 ^ p)) S.length = msk (fun i => !onP S (nI p) w i) S.length := msk_cong _ (fun i _ => by
        unfold onP
        rw [ep, Bool.eq_iff_iff, decide_eq_true_iff, and_pow]
        cases (S.getD i 0).testBit p <;> simp [z])
      rw [e]
      refine (s_letGo h hl hX (msk_lt _ _)).mono ?_
      rintro r m2 ⟨g1, g2, g3, g4⟩
      exact letGo_fin c1' hl g1 g2 g3 g4
    · have e : dif (2 ^ S.length - 1) (msk (fun i => decide (S.getD i 0 &&& 2 ^ p = 2 ^ p)) S.length) = msk (fun i => !onP S (nI p) w i) S.length := by
        rw [dif_msk]
        refine msk_cong _ (fun i _ => ?_)
        unfold onP
        rw [ep, Bool.eq_iff_iff, Bool.not_eq_true', decide_eq_false_iff_not, and_pow]
        cases (S.getD i 0).testBit p <;> simp [z]
      rw [h.2.1, al (by omega), idif, e]
      refine (s_letGo h hl hX (msk_lt _ _)).mono ?_
      rintro r m2 ⟨g1, g2, g3, g4⟩
      exact letGo_fin c1' hl g1 g2 g3 g4
  · rw [h.1] at c
    rw [aSel, oSel, ifP_f (fun q => c q.1), ifP_f (fun q => c q.1)]
    exact ⟨rfl, h, hX, Same.rf⟩
theorem x_thin {a : Int32} (h : Fam mem 1 n S) (hl : S.length ≤ 16) (hX : XH mem H) : CI shX m_PS_thin (d + 43) [.ref 0, .int a] mem (fun r m' => r = aSel (2 ≤ a ∧ a ≤ 16) (fun i => (mfN S a.toNatClampNeg).testBit i) S ∧ Fam m' 1 n (nS S (oSel (2 ≤ a ∧ a ≤ 16) (fun i => (mfN S a.toNatClampNeg).testBit i) S)) ∧ XH m' (nH H S (oSel (2 ≤ a ∧ a ≤ 16) (fun i => (mfN S a.toNatClampNeg).testBit i) S)) ∧ Same mem m' (acells ++ [15, 16, 17])) := by
  refine e_PS_thin ⟨fun c => ?_, fun c => ?_⟩
  · obtain ⟨k, hk2, hk, rfl⟩ := of_2_16 c
    rw [nI_clamp (by omega)]
    refine (s_leastFree h hl hk2 hk).mono ?_
    rintro r m1 ⟨⟨b, e1, e2⟩, hS1⟩
    have hF1 := h.same hS1 (by decide) (by decide)
    have hX1 := hX.same hS1 (by decide) (by decide) (by decide)
    rw [mfN_eq e2, e1, hF1.2.1, al (by omega), idif]
    have e : dif (2 ^ S.length - 1) b = msk (fun i => !b.testBit i) S.length := by
      apply Nat.eq_of_testBit_eq
      intro i
      rw [dif_bit, msk_bit, Nat.testBit_two_pow_sub_one]
    rw [e]
    refine (s_letGo (d := d + 40) hF1 hl hX1 (msk_lt _ _)).mono ?_
    rintro r2 m2 ⟨g1, g2, g3, g4⟩
    exact letGo_fin c hl g1 g2 g3 ((hS1.wd (fun c hc => List.mem_append_right _ hc)).tr (g4.wd (fun c hc => List.mem_append_left _ hc)))
  · rw [aSel, oSel, ifP_f (fun q => c q.1), ifP_f (fun q => c q.1)]
    exact ⟨rfl, h, hX, Same.rf⟩
theorem x_reduce {a : Int32} (h : Fam mem 1 n S) (hl : S.length ≤ 16) (hX : XH mem H) (hK : Kca mem) : CI shX m_PS_reduce (d + 24) [.ref 0, .int a] mem (fun r m' => r = aReduce S a ∧ Fam m' 1 n (nS S (oReduce S a)) ∧ XH m' (nH H S (oReduce S a)) ∧ Kca m' ∧ Same mem m' (acells ++ kcells)) := by
  refine e_PS_reduce ⟨fun c => ?_, fun c => ?_⟩
  · obtain ⟨b, hb1, hb, rfl⟩ := of_1_5 c
    rw [aReduce, oReduce, ifP_t c, nI_clamp (by omega)]
    refine (s_run h hl hb1 hb hK).mono ?_
    rintro m1 ⟨hK1, ⟨n1, hQ⟩, hS1⟩
    have hF1 := h.same hS1 (by decide) (by decide)
    have hX1 := hX.same hS1 (by decide) (by decide) (by decide)
    have hSa : Same mem m1 (acells ++ kcells) := hS1.wd (fun c hc => List.mem_append_right _ hc)
    have h16 := hQ.2.2.1
    rw [hQ.2.2.2.1, hQ.2.1, nI_z (by omega)]
    refine ⟨fun z => ⟨fun z2 => ?_, fun z2 => ?_⟩, fun z => ?_⟩
    · rw [if_neg (fun q => q z), if_neg z2, ifP_t ⟨c, z, z2⟩]
      refine (s_become (d := d + 21) isF_21 (by decide) hF1 hl hX1 hQ.1).mono ?_
      rintro m2 ⟨g1, g2, g3⟩
      exact ⟨g1.2.1, g1, g2, hK1.same g3 (by decide), hSa.tr (g3.wd (by decide))⟩
    · rw [if_neg (fun q => q z), if_pos z2, ifP_f (fun q => q.2.2 z2)]
      exact ⟨rfl, hF1, hX1, hK1, hSa⟩
    · rw [if_pos z, ifP_f (fun q => z q.2.1)]
      exact ⟨rfl, hF1, hX1, hK1, hSa⟩
  · rw [aReduce, oReduce, ifP_f c, ifP_f (fun q => c q.1)]
    exact ⟨rfl, h, hX, hK, Same.rf⟩
def aUndo (H : List (List Nat)) : Int32 := match H with
  | [] => -1
  | _ :: H' => nI H'.length
def uS (S : List Nat) (H : List (List Nat)) : List Nat := match H with
  | [] => S
  | T :: _ => T
theorem x_undo (h : Fam mem 1 n S) (hX : XH mem H) (hs : ∀ i, (uS S H).getD i 0 < 1024) : CI shX m_PS_undo (d + 2) [.ref 0] mem (fun r m' => r = aUndo H ∧ Fam m' 1 n (uS S H) ∧ XH m' H.tail ∧ Same mem m' acells) := by
  obtain ⟨nx, -, -, e, e2, -⟩ := id hX
  refine e_PS_undo ?_
  rw [e, nI_z (by omega)]
  cases H with
  | nil => exact ⟨fun z => absurd rfl z, fun _ => ⟨rfl, h, hX, Same.rf⟩⟩
  | cons T H' =>
    refine ⟨fun _ => ?_, fun z => absurd z (by simp)⟩
    refine (s_restore h hX hs).mono ?_
    rintro m1 ⟨g1, g2, g3⟩
    obtain ⟨nx', -, -, e', -, -⟩ := id g2
    exact ⟨e', g1, g2, g3.wd (by decide)⟩
end ACY
