/-! acts: what they answer, what becomes; the class -/
def nS (S : List Nat) : Option (List Nat) → List Nat
  | none => S
  | some T => T
def nH (H : List (List Nat)) (S : List Nat) : Option (List Nat) → List (List Nat)
  | none => H
  | some _ => hp H S
/-- the sets, one by one, each as f says, if it is not empty nor as one ahead -/
def naT (f : Nat → Nat) (S : List Nat) : Nat → List Nat
  | 0 => []
  | i + 1 => addNew (naT f S i) (f (S.getD i 0))
theorem naT_len (f : Nat → Nat) (S : List Nat) : ∀ i, (naT f S i).length ≤ i
  | 0 => Nat.le_refl _
  | i + 1 => by
    have := naT_len f S i
    have := add_len (S := naT f S i) (x := f (S.getD i 0))
    rw [naT]; omega
theorem add_small {S : List Nat} {x : Nat} (h : ∀ i, S.getD i 0 < 1024) (hx : x < 1024) (i : Nat) : (addNew S x).getD i 0 < 1024 := by
  unfold addNew
  split
  · exact h i
  · rw [getD_app]
    split
    · exact h i
    · split
      · exact hx
      · decide
theorem naT_small {f : Nat → Nat} {S : List Nat} (hf : ∀ i, f (S.getD i 0) < 1024) : ∀ i j, (naT f S i).getD j 0 < 1024
  | 0, j => by simp [naT]
  | i + 1, j => by rw [naT]; exact add_small (naT_small hf i) (hf i) j
noncomputable def oAdd (n : Nat) (S : List Nat) (a : Int32) : Option (List Nat) := ifP ((0 < a ∧ a ≤ alF (nI n)) ∧ a.toNatClampNeg ∉ S ∧ S.length < 16) (some (S ++ [a.toNatClampNeg])) none
noncomputable def aAdd (n : Nat) (S : List Nat) (a : Int32) : Int32 := ifP ((0 < a ∧ a ≤ alF (nI n)) ∧ a.toNatClampNeg ∉ S ∧ S.length < 16) (nI S.length) (-1)
noncomputable def oDrop (S : List Nat) (a : Int32) : Option (List Nat) := ifP (0 ≤ a ∧ a < nI S.length) (some (sel (fun i => S.getD i 0) (fun j => !(2 ^ a.toNatClampNeg).testBit j) S.length)) none
noncomputable def aDrop (S : List Nat) (a : Int32) : Int32 := ifP (0 ≤ a ∧ a < nI S.length) 1 0
noncomputable def oChange (n : Nat) (S : List Nat) (a b : Int32) : Option (List Nat) := ifP ((0 ≤ a ∧ a < nI S.length) ∧ (0 < b ∧ b ≤ alF (nI n)) ∧ b.toNatClampNeg ∉ S) (some (S.set a.toNatClampNeg b.toNatClampNeg)) none
noncomputable def aChange (n : Nat) (S : List Nat) (a b : Int32) : Int32 := ifP ((0 ≤ a ∧ a < nI S.length) ∧ (0 < b ∧ b ≤ alF (nI n)) ∧ b.toNatClampNeg ∉ S) (nI (S.getD a.toNatClampNeg 0)) (-1)
def chN (f : Nat → Nat) (S : List Nat) : Nat := cntP (fun i => !decide (f (S.getD i 0) = S.getD i 0)) S.length
noncomputable def oMove (c : Prop) (f : Nat → Nat) (S : List Nat) : Option (List Nat) := ifP (c ∧ chN f S ≠ 0) (some (S.map f)) none
noncomputable def aMove (c : Prop) (f : Nat → Nat) (S : List Nat) : Int32 := ifP (c ∧ chN f S ≠ 0) (nI (chN f S)) (-1)
def swF (p q x : Nat) : Nat := if x.testBit p = x.testBit q then x else (x ^^^ 2 ^ p) ^^^ 2 ^ q
def tnF (n x : Nat) : Nat := ((2 * x) &&& (2 ^ n - 1)) ||| (x / 2 ^ (n - 1))
noncomputable def oNew (c : Prop) (f : Nat → Nat) (S : List Nat) : Option (List Nat) := ifP c (some (naT f S S.length)) none
noncomputable def aNew (c : Prop) (f : Nat → Nat) (S : List Nat) : Int32 := ifP c (nI (naT f S S.length).length) (-1)
noncomputable def oSel (c : Prop) (p : Nat → Bool) (S : List Nat) : Option (List Nat) := ifP (c ∧ cntP (fun i => !p i) S.length ≠ 0) (some (sel (fun i => S.getD i 0) p S.length)) none
noncomputable def aSel (c : Prop) (p : Nat → Bool) (S : List Nat) : Int32 := ifP (c ∧ cntP (fun i => !p i) S.length ≠ 0) (nI (cntP (fun i => !p i) S.length)) (-1)
/-- a is a point -/
def Ptp (n : Nat) (a : Int32) : Prop := 0 ≤ a ∧ a < nI n
def cSwap (n : Nat) (a b : Int32) : Prop := Ptp n a ∧ Ptp n b ∧ ¬ a = b
def cWithout (n : Nat) (S : List Nat) (a : Int32) : Prop := Ptp n a ∧ ∃ i, i < S.length ∧ (S.getD i 0).testBit a.toNatClampNeg = true
def cJoin (n : Nat) (S : List Nat) (a b : Int32) : Prop := Ptp n a ∧ Ptp n b ∧ ¬ a = b ∧ ∃ i, i < S.length ∧ (S.getD i 0).testBit b.toNatClampNeg = true
def jnF (p q x : Nat) : Nat := if x.testBit q = true then dif x (2 ^ q) ||| 2 ^ p else x
def onP (S : List Nat) (a w : Int32) (i : Nat) : Bool := (S.getD i 0).testBit a.toNatClampNeg == !decide (w = 0)
noncomputable def oReduce (S : List Nat) (a : Int32) : Option (List Nat) := ifP ((1 ≤ a ∧ a ≤ 5) ∧ (kerF a.toNatClampNeg 16 S).2.2 = 0 ∧ (kerF a.toNatClampNeg 16 S).1.length ≠ 0) (some (kerF a.toNatClampNeg 16 S).2.1) none
noncomputable def aReduce (S : List Nat) (a : Int32) : Int32 := ifP (1 ≤ a ∧ a ≤ 5) (if ¬ (kerF a.toNatClampNeg 16 S).2.2 = 0 then -2 else if (kerF a.toNatClampNeg 16 S).1.length = 0 then -1 else nI (kerF a.toNatClampNeg 16 S).2.1.length) (-1)
def acells : List Nat := [1, 2, 3, 4, 5, 6, 7]
theorem set_len {n : Nat} {b : Int32} (hn : n ≤ 10) (h : 0 < b ∧ b ≤ alF (nI n)) : ∃ x, 0 < x ∧ x < 2 ^ n ∧ x < 1024 ∧ b = nI x := by
  obtain ⟨x, x1, x2, rfl⟩ := pts hn ⟨Int32.le_of_lt h.1, h.2⟩
  refine ⟨x, ?_, x2, x1, rfl⟩
  have := (nI_ltI (a := 0) (by decide) (by omega)).mp h.1
  exact this
theorem pt_ex {n : Nat} {a : Int32} (hn : n ≤ 10) (h : Ptp n a) : ∃ p, p < n ∧ a = nI p := by
  obtain ⟨p, p1, rfl⟩ := of_in (by omega) h.1 h.2
  exact ⟨p, p1, rfl⟩
section ACX
variable {d n : Nat} {S T : List Nat} {H : List (List Nat)} {mem : Mem}
theorem x_add {a : Int32} (h : Fam mem 1 n S) (hl : S.length ≤ 16) (hX : XH mem H) : CI shX m_PS_add (d + 2) [.ref 0, .int a] mem (fun r m' => r = aAdd n S a ∧ Fam m' 1 n (nS S (oAdd n S a)) ∧ XH m' (nH H S (oAdd n S a)) ∧ Same mem m' acells) := by
  have no : ¬ ((0 < a ∧ a ≤ alF (nI n)) ∧ a.toNatClampNeg ∉ S ∧ S.length < 16) → (-1 : Int32) = aAdd n S a ∧ Fam mem 1 n (nS S (oAdd n S a)) ∧ XH mem (nH H S (oAdd n S a)) ∧ Same mem mem acells := fun z => by
    rw [aAdd, oAdd, ifP_f z, ifP_f z]; exact ⟨rfl, h, hX, Same.rf⟩
  refine e_PS_add ⟨fun c => no (fun z => c (by rw [h.1]; exact z.1)), fun c => ?_⟩
  rw [h.1] at c
  obtain ⟨x, x0, xn, x1, rfl⟩ := set_len h.2.2.2.1 c
  have ex : (nI x).toNatClampNeg = x := nI_clamp (by omega)
  refine (s_find isF_1 h (by omega)).mono ?_
  rintro r m1 ⟨hr, rfl⟩
  refine ⟨fun z => no (fun q => z (hr.mpr (by rw [ex] at q; exact q.2.1))), fun z => ?_⟩
  rw [h.2.1, show (16 : Int32) = nI 16 from rfl, nI_ltI (by omega) (by decide)]
  refine ⟨fun z2 => ?_, fun z2 => no (fun q => z2 q.2.2)⟩
  have hc : (0 < nI x ∧ nI x ≤ alF (nI n)) ∧ (nI x).toNatClampNeg ∉ S ∧ S.length < 16 := ⟨c, by rw [ex]; exact hr.mp z, z2⟩
  rw [aAdd, oAdd, ifP_t hc, ifP_t hc]
  refine (s_keep h hl hX).mono ?_
  rintro m2 ⟨hX2, hS2⟩
  refine (s_append isF_1 (h.same hS2 (by decide) (by decide)) (by omega) x1).mono ?_
  rintro m3 ⟨hF3, hS3⟩
  refine ⟨?_, ?_, hX2.same hS3 (by decide) (by decide) (by decide), (hS2.wd (by decide)).tr (hS3.wd (by decide))⟩
  · rw [hF3.2.1, List.length_append]
    exact nI_pred S.length
  · rw [ex]; exact hF3
theorem s_letGo {w : Nat} (h : Fam mem 1 n S) (hl : S.length ≤ 16) (hX : XH mem H) (hw : w < 2 ^ S.length) : CI shX m_PS_letGo (d + 2) [.ref 0, .int (nI w)] mem (fun r m' => r = (if w = 0 then -1 else nI (pop w)) ∧ Fam m' 1 n (if w = 0 then S else sel (fun i => S.getD i 0) (fun i => !w.testBit i) S.length) ∧ XH m' (if w = 0 then H else hp H S) ∧ Same mem m' acells) := by
  have hp' := pow17 (m := S.length) (by omega)
  refine e_PS_letGo ⟨fun z => ?_, fun z => ?_⟩
  · rw [nI_z (by omega)] at z
    refine (s_keep h hl hX).mono ?_
    rintro m2 ⟨hX2, hS2⟩
    refine (s_takeOut isF_1 (h.same hS2 (by decide) (by decide)) (by omega)).mono ?_
    rintro m3 ⟨hF3, hS3⟩
    rw [if_neg z, if_neg z, if_neg z, bc (by omega)]
    exact ⟨rfl, hF3, hX2.same hS3 (by decide) (by decide) (by decide), (hS2.wd (by decide)).tr (hS3.wd (by decide))⟩
  · rw [nI_z (by omega)] at z
    rw [if_pos z, if_pos z, if_pos z]
    exact ⟨rfl, h, hX, Same.rf⟩
theorem x_drop {a : Int32} (h : Fam mem 1 n S) (hl : S.length ≤ 16) (hX : XH mem H) : CI shX m_PS_drop (d + 2) [.ref 0, .int a] mem (fun r m' => r = aDrop S a ∧ Fam m' 1 n (nS S (oDrop S a)) ∧ XH m' (nH H S (oDrop S a)) ∧ Same mem m' acells) := by
  rw [aDrop, oDrop]
  refine e_PS_drop ⟨fun c => ?_, fun c => ?_⟩
  · rw [h.2.1] at c
    rw [ifP_t c, ifP_t c]
    obtain ⟨i, hi, rfl⟩ := of_in (by omega) c.1 c.2
    rw [nI_clamp (by omega), sh1 (by omega)]
    refine (s_keep h hl hX).mono ?_
    rintro m2 ⟨hX2, hS2⟩
    refine (s_takeOut isF_1 (h.same hS2 (by decide) (by decide)) (Nat.pow_lt_pow_right (by decide) (by omega))).mono ?_
    rintro m3 ⟨hF3, hS3⟩
    exact ⟨rfl, hF3, hX2.same hS3 (by decide) (by decide) (by decide), (hS2.wd (by decide)).tr (hS3.wd (by decide))⟩
  · rw [h.2.1] at c
    rw [ifP_f c, ifP_f c]
    exact ⟨rfl, h, hX, Same.rf⟩
theorem getD_set {i x j : Nat} (hi : i < S.length) : (S.set i x).getD j 0 = if j = i then x else S.getD j 0 := by
  rw [List.getD_eq_getElem?_getD, List.getElem?_set]
  by_cases e : j = i
  · subst e; rw [if_pos rfl, if_pos rfl, if_pos hi]; rfl
  · rw [if_neg (Ne.symm e), if_neg e, List.getD_eq_getElem?_getD]
theorem x_change {a b : Int32} (h : Fam mem 1 n S) (hl : S.length ≤ 16) (hX : XH mem H) : CI shX m_PS_change (d + 2) [.ref 0, .int a, .int b] mem (fun r m' => r = aChange n S a b ∧ Fam m' 1 n (nS S (oChange n S a b)) ∧ XH m' (nH H S (oChange n S a b)) ∧ Same mem m' acells) := by
  have no : ¬ ((0 ≤ a ∧ a < nI S.length) ∧ (0 < b ∧ b ≤ alF (nI n)) ∧ b.toNatClampNeg ∉ S) → (-1 : Int32) = aChange n S a b ∧ Fam mem 1 n (nS S (oChange n S a b)) ∧ XH mem (nH H S (oChange n S a b)) ∧ Same mem mem acells := fun z => by
    rw [aChange, oChange, ifP_f z, ifP_f z]; exact ⟨rfl, h, hX, Same.rf⟩
  refine e_PS_change ⟨fun c => no (fun z => c (by rw [h.2.1]; exact z.1)), fun c => ⟨fun c2 => no (fun z => c2 (by rw [h.1]; exact z.2.1)), fun c2 => ?_⟩⟩
  rw [h.2.1] at c
  rw [h.1] at c2
  obtain ⟨x, x0, xn, x1, rfl⟩ := set_len h.2.2.2.1 c2
  obtain ⟨i, hi, rfl⟩ := of_in (by omega) c.1 c.2
  have ex : (nI x).toNatClampNeg = x := nI_clamp (by omega)
  have ei : (nI i).toNatClampNeg = i := nI_clamp (by omega)
  refine (s_find isF_1 h (by omega)).mono ?_
  rintro r m1 ⟨hr, rfl⟩
  refine ⟨fun z => ?_, fun z => no (fun q => z (hr.mpr (by rw [ex] at q; exact q.2.2)))⟩
  have hc : (0 ≤ nI i ∧ nI i < nI S.length) ∧ (0 < nI x ∧ nI x ≤ alF (nI n)) ∧ (nI x).toNatClampNeg ∉ S := ⟨c, c2, by rw [ex]; exact hr.mp z⟩
  rw [aChange, oChange, ifP_t hc, ifP_t hc, ex, ei]
  refine (s_keep h hl hX).mono ?_
  rintro m2 ⟨hX2, hS2⟩
  have hF2 := h.same hS2 (by decide) (by decide)
  refine ⟨vp_in_nI (by omega) (by decide), h.aF hi, ?_, hX2.same (Same.up (cs := [2]) (by simp)) (by decide) (by decide) (by decide), (hS2.wd (by decide)).tr (Same.up (by decide))⟩
  obtain ⟨f1, f2, f3, f4, f5, f6⟩ := hF2
  refine ⟨by rw [up2_ne (by decide)]; exact f1, by rw [up2_ne (by decide)]; simp only [nS, List.length_set]; exact f2, by simp only [nS, List.length_set]; exact f3, f4, fun j hj => ?_, fun j => ?_⟩
  · simp only [nS, List.length_set] at hj ⊢
    rw [getD_set hi]
    by_cases e : j = i
    · subst e; rw [if_pos rfl, up2_at]
    · rw [if_neg e, up2_nj e]; exact f5 j hj
  · simp only [nS]
    rw [getD_set hi]
    split
    · exact x1
    · exact f6 j
theorem map_getD {f : Nat → Nat} {i : Nat} (hi : i < S.length) : (S.map f).getD i 0 = f (S.getD i 0) := by
  rw [List.getD_eq_getElem?_getD, List.getElem?_map, List.getElem?_eq_getElem hi, List.getD_eq_getElem?_getD, List.getElem?_eq_getElem hi]
  rfl
theorem s_becomeIfChanged {f : Nat → Nat} (h : Fam mem 1 n S) (hl : S.length ≤ 16) (hX : XH mem H) (h3 : Fam mem 3 n (S.map f)) : CI shX m_PS_becomeIfChanged (d + 3) [.ref 0] mem (fun r m' => r = aMove True f S ∧ Fam m' 1 n (nS S (oMove True f S)) ∧ XH m' (nH H S (oMove True f S)) ∧ Same mem m' [1, 2, 5, 6, 7]) := by
  have hl3 : (S.map f).length = S.length := List.length_map f
  refine e_PS_becomeIfChanged ?_
  refine downInd (P := fun i => Wp shX m_PS_becomeIfChanged (d + 3) 4 [some (.ref 0), some (.int (nI (cntP (fun i => !decide (f (S.getD i 0) = S.getD i 0)) i))), some (.int (nI i))] [] mem (QI (fun r m' => r = aMove True f S ∧ Fam m' 1 n (nS S (oMove True f S)) ∧ XH m' (nH H S (oMove True f S)) ∧ Same mem m' [1, 2, 5, 6, 7]))) S.length ?_ ?_ 0 (Nat.zero_le _)
  · have hc := cntP_le (fun i => !decide (f (S.getD i 0) = S.getD i 0)) S.length
    refine b_PS_becomeIfChanged_4 ⟨fun _ => ?_, fun c => absurd ((h.ge (Nat.le_refl _)).mpr rfl) c⟩
    rw [nI_z (by omega)]
    refine ⟨fun z => ?_, fun z => ?_⟩
    · have hz : True ∧ chN f S ≠ 0 := ⟨trivial, z⟩
      rw [aMove, oMove, ifP_t hz, ifP_t hz]
      refine (s_become isF_3 (by decide) h hl hX h3).mono ?_
      rintro m1 ⟨q1, q2, q3⟩
      exact ⟨rfl, q1, q2, q3⟩
    · have hz : ¬ (True ∧ chN f S ≠ 0) := fun q => q.2 z
      rw [aMove, oMove, ifP_f hz, ifP_f hz]
      exact ⟨rfl, h, hX, Same.rf⟩
  · intro i hi ih
    refine b_PS_becomeIfChanged_4 ⟨fun c => absurd ((h.ge (Nat.le_of_lt hi)).mp c) (by omega), fun _ => ?_⟩
    have hs1 := h.small i
    have hs3 := h3.small i
    rw [h.aF hi, h3.aF (by rw [hl3]; exact hi), nI_inj (by omega) (by omega), map_getD hi, nI_1, nI_1]
    rw [cntP] at ih
    refine ⟨fun z => ?_, fun z => ?_⟩
    · rw [if_neg (by rw [Bool.not_eq_true', decide_eq_false_iff_not]; exact fun q => q z.symm), Nat.add_zero] at ih; exact ih
    · rw [if_pos (by rw [Bool.not_eq_true', decide_eq_false_iff_not]; exact fun q => z q.symm)] at ih; exact ih
theorem map_take {f : Nat → Nat} {i : Nat} (hi : i < S.length) : (S.take (i + 1)).map f = (S.take i).map f ++ [f (S.getD i 0)] := by
  rw [take_succ_getD hi, List.map_append]
  rfl
/-- bits of two points: one of them -/
theorem one_of_two {x p q : Nat} (hp : p < 17) (hq : q < 17) (hx : x < 2 ^ 17) (hpq : p ≠ q) : pop (x &&& (2 ^ p ||| 2 ^ q)) = 1 ↔ ¬ x.testBit p = x.testBit q := by
  have hbit : ∀ i, (x &&& (2 ^ p ||| 2 ^ q)).testBit i = (x.testBit i && (decide (p = i) || decide (q = i))) := fun i => by
    rw [Nat.testBit_and, Nat.testBit_or, Nat.testBit_two_pow, Nat.testBit_two_pow]
  have hp1 : ∀ i, i < 20 → pop (2 ^ i) = 1 := by decide
  cases e1 : x.testBit p <;> cases e2 : x.testBit q
  · have : x &&& (2 ^ p ||| 2 ^ q) = 0 := Nat.eq_of_testBit_eq (fun i => by
      rw [hbit, Nat.zero_testBit]
      by_cases a1 : p = i
      · subst a1; rw [e1]; rfl
      · by_cases a2 : q = i
        · subst a2; rw [e2]; rfl
        · simp [a1, a2])
    rw [this, pop_zero]; simp
  · have : x &&& (2 ^ p ||| 2 ^ q) = 2 ^ q := Nat.eq_of_testBit_eq (fun i => by
      rw [hbit, Nat.testBit_two_pow]
      by_cases a1 : p = i
      · subst a1; rw [e1]; simp [Ne.symm hpq]
      · by_cases a2 : q = i
        · subst a2; rw [e2]; simp
        · simp [a1, a2])
    rw [this, hp1 q (by omega)]; simp
  · have : x &&& (2 ^ p ||| 2 ^ q) = 2 ^ p := Nat.eq_of_testBit_eq (fun i => by
      rw [hbit, Nat.testBit_two_pow]
      by_cases a1 : p = i
      · subst a1; rw [e1]; simp
      · by_cases a2 : q = i
        · subst a2; rw [e2]; simp [hpq]
        · simp [a1, a2])
    rw [this, hp1 p (by omega)]; simp
  · have : x &&& (2 ^ p ||| 2 ^ q) = 2 ^ p ||| 2 ^ q := Nat.eq_of_testBit_eq (fun i => by
      rw [hbit, Nat.testBit_or, Nat.testBit_two_pow, Nat.testBit_two_pow]
      by_cases a1 : p = i
      · subst a1; rw [e1]; simp
      · by_cases a2 : q = i
        · subst a2; rw [e2]; simp
        · simp [a1, a2])
    rw [this]
    have h2 : ∀ p, p < 17 → ∀ q, q < 17 → p ≠ q → pop (2 ^ p ||| 2 ^ q) = 2 := by decide +kernel
    rw [h2 p hp q hq hpq]; simp
theorem swF_lt {p q x w : Nat} (hx : x < 2 ^ w) (hp : p < w) (hq : q < w) : swF p q x < 2 ^ w := by
  unfold swF
  split
  · exact hx
  · exact Nat.xor_lt_two_pow (Nat.xor_lt_two_pow hx (Nat.pow_lt_pow_right (by decide) hp)) (Nat.pow_lt_pow_right (by decide) hq)
theorem aMove_c {c : Prop} {f : Nat → Nat} (hc : c) : aMove True f S = aMove c f S ∧ oMove True f S = oMove c f S := by
  obtain rfl : c = True := eq_true hc
  exact ⟨rfl, rfl⟩
theorem x_swap {a b : Int32} (h : Fam mem 1 n S) (hl : S.length ≤ 16) (hX : XH mem H) : CI shX m_PS_swap (d + 4) [.ref 0, .int a, .int b] mem (fun r m' => r = aMove (cSwap n a b) (swF a.toNatClampNeg b.toNatClampNeg) S ∧ Fam m' 1 n (nS S (oMove (cSwap n a b) (swF a.toNatClampNeg b.toNatClampNeg) S)) ∧ XH m' (nH H S (oMove (cSwap n a b) (swF a.toNatClampNeg b.toNatClampNeg) S)) ∧ Same mem m' acells) := by
  have hn := h.2.2.2.1
  have no : ¬ cSwap n a b → (-1 : Int32) = aMove (cSwap n a b) (swF a.toNatClampNeg b.toNatClampNeg) S ∧ Fam mem 1 n (nS S (oMove (cSwap n a b) (swF a.toNatClampNeg b.toNatClampNeg) S)) ∧ XH mem (nH H S (oMove (cSwap n a b) (swF a.toNatClampNeg b.toNatClampNeg) S)) ∧ Same mem mem acells := fun z => by
    rw [aMove, oMove, ifP_f (fun q => z q.1), ifP_f (fun q => z q.1)]; exact ⟨rfl, h, hX, Same.rf⟩
  refine e_PS_swap ⟨fun c => no (fun z => c (by rw [h.1]; exact z.1)), fun c1 => ⟨fun c => no (fun z => c (by rw [h.1]; exact z.2.1)), fun c2 => ⟨fun c3 => ?_, fun c => no (fun z => z.2.2 c)⟩⟩⟩
  rw [h.1] at c1 c2
  have hc : cSwap n a b := ⟨c1, c2, c3⟩
  rw [← (aMove_c hc).1, ← (aMove_c hc).2]
  obtain ⟨p, p1, rfl⟩ := pt_ex hn c1
  obtain ⟨q, q1, rfl⟩ := pt_ex hn c2
  have hpq : p ≠ q := fun e => c3 (by rw [e])
  rw [nI_clamp (by omega), nI_clamp (by omega), h.1]
  refine (s_startAnew (d := d + 3) (n := n) isF_3 hn).mono ?_
  rintro m1 ⟨hF1, hS1⟩
  rw [sh1 (by omega), sh1 (by omega), io]
  refine downInd (P := fun i => ∀ m0 : Mem, Fam m0 3 n ((S.take i).map (swF p q)) → Same mem m0 [3, 4] → Wp shX m_PS_swap (d + 4) 54 [some (.ref 0), none, none, some (.int (nI (2 ^ p ||| 2 ^ q))), some (.int (nI i)), none, none] [] m0 (QI (fun r m' => r = aMove True (swF p q) S ∧ Fam m' 1 n (nS S (oMove True (swF p q) S)) ∧ XH m' (nH H S (oMove True (swF p q) S)) ∧ Same mem m' acells))) S.length ?_ ?_ 0 (Nat.zero_le _) m1 (by rw [List.take_zero]; exact hF1) (hS1.wd (by simp))
  · intro m0 hF hS
    rw [List.take_length] at hF
    have hF0 := h.same hS (by decide) (by decide)
    refine b_PS_swap_54 ⟨fun _ => ?_, fun c => absurd ((hF0.ge (Nat.le_refl _)).mpr rfl) c⟩
    refine (s_becomeIfChanged hF0 hl (hX.same hS (by decide) (by decide) (by decide)) hF).mono ?_
    rintro r m2 ⟨g1, g2, g3, g4⟩
    exact ⟨g1, g2, g3, (hS.wd (by decide)).tr (g4.wd (by decide))⟩
  · intro i hi ih m0 hF hS
    have hF0 := h.same hS (by decide) (by decide)
    have hsm := h.small i
    have hlen : ((S.take i).map (swF p q)).length < 17 := by rw [List.length_map, List.length_take]; omega
    refine b_PS_swap_54 ⟨fun c => absurd ((hF0.ge (Nat.le_of_lt hi)).mp c) (by omega), fun _ => ?_⟩
    have ho := one_of_two (x := S.getD i 0) (p := p) (q := q) (by omega) (by omega) (by omega) hpq
    have hpl := pop_le (S.getD i 0 &&& (2 ^ p ||| 2 ^ q))
    have ha := Nat.and_le_left (n := S.getD i 0) (m := 2 ^ p ||| 2 ^ q)
    rw [hF0.aF hi, ia, bc (by omega), show ((nI (pop (S.getD i 0 &&& (2 ^ p ||| 2 ^ q))) : Int32) = 1) = (nI (pop (S.getD i 0 &&& (2 ^ p ||| 2 ^ q))) = nI 1) from rfl, nI_inj (by omega) (by decide), ho, ix]
    rw [map_take hi] at ih
    refine ⟨fun z => ?_, fun z => ?_⟩
    · have z' := Classical.not_not.mp z
      have e : swF p q (S.getD i 0) = S.getD i 0 := by unfold swF; rw [if_pos z']
      rw [e] at ih
      refine (s_append isF_3 hF hlen hsm).mono ?_
      rintro m2 ⟨hF2, hS2⟩
      rw [nI_1]
      exact ih m2 hF2 (hS.tr hS2)
    · have e : swF p q (S.getD i 0) = S.getD i 0 ^^^ (2 ^ p ||| 2 ^ q) := by
        unfold swF
        rw [if_neg z]
        apply Nat.eq_of_testBit_eq
        intro j
        rw [Nat.testBit_xor, Nat.testBit_xor, Nat.testBit_xor, Nat.testBit_or, Nat.testBit_two_pow, Nat.testBit_two_pow]
        by_cases a1 : p = j
        · subst a1; simp [Ne.symm hpq]
        · simp [a1]
      rw [e] at ih
      have hlt : S.getD i 0 ^^^ (2 ^ p ||| 2 ^ q) < 1024 := by
        rw [← e]; exact swF_lt (w := 10) hsm (by omega) (by omega)
      refine (s_append isF_3 hF hlen hlt).mono ?_
      rintro m2 ⟨hF2, hS2⟩
      rw [nI_1]
      exact ih m2 hF2 (hS.tr hS2)
end ACX
