/-! texts that are told: the bytes; the class's page -/
def wrdX : List (List Nat) := [[112, 111, 105, 110, 116, 115], [115, 101, 116], [112, 111, 105, 110, 116, 115, 32], [59], [115, 101, 116, 32], [119, 105, 116, 104, 105, 110], [102, 108, 111, 119, 101, 114], [32], [32, 99, 111, 114, 101, 32], [108, 111, 115, 116, 59], [108, 101, 102, 116, 32]]
theorem wrdX_ok : ∀ i, i < 11 → (wrdX.getD i []).length = strLen.getD i 0 ∧ (wrdX.getD i []).length ≤ 7 ∧ ∀ k, k < 8 → k < (wrdX.getD i []).length → chI i k = nI ((wrdX.getD i []).getD k 0) ∧ (wrdX.getD i []).getD k 0 < 128 := by decide +kernel
/-- a number below 100, as its digits -/
def nbT (v : Nat) : List Nat := if v < 10 then [48 + v] else [48 + v / 10, 48 + v % 10]
theorem nbT_len (v : Nat) : (nbT v).length ≤ 2 := by unfold nbT; split <;> simp
/-- letters of the first p points -/
def ltT (s : Nat) : Nat → List Nat
  | 0 => []
  | p + 1 => if s.testBit p then ltT s p ++ [97 + p] else ltT s p
theorem ltT_len (s : Nat) : ∀ p, (ltT s p).length ≤ p
  | 0 => Nat.le_refl _
  | p + 1 => by
    have := ltT_len s p
    rw [ltT]
    split
    · rw [List.length_append]; simp; omega
    · omega
noncomputable def txA (T : List Nat) (a : Int32) : Int32 := if a = -1 then nI T.length else ifP (a < nI T.length) (nI (T.getD a.toNatClampNeg 0)) (-2)
theorem dg_all : ∀ v, v < 100 → (48 + (nI v - nI v / 10 * 10) = nI (48 + v % 10)) ∧ (48 + (nI v / 10 - nI v / 10 / 10 * 10) = nI (48 + v / 10)) ∧ (48 + nI v / 10 = nI (48 + v / 10)) := by decide +kernel
theorem by_all : ∀ x, x < 128 → vp_nar .byte (nI x).toInt8.toInt32 = nI x := by decide +kernel
/-- the page holds T -/
def Pg (mem : Mem) (T : List Nat) : Prop := mem 27 1 = nI T.length ∧ T.length ≤ 512 ∧ ∀ i, i < T.length → mem 28 i = nI (T.getD i 0)
def spP (n : Nat) (S : List Nat) : Nat → List Nat
  | 0 => [112, 111, 105, 110, 116, 115, 32] ++ nbT n ++ [59]
  | i + 1 => spP n S i ++ [115, 101, 116, 32] ++ ltT (S.getD i 0) 10 ++ [59]
theorem spP_len (n : Nat) (S : List Nat) : ∀ i, (spP n S i).length ≤ 10 + 15 * i
  | 0 => by
    have := nbT_len n
    simp only [spP, List.length_append, List.length_cons, List.length_nil]
    omega
  | i + 1 => by
    have := spP_len n S i
    have := ltT_len (S.getD i 0) 10
    simp only [spP, List.length_append, List.length_cons, List.length_nil]
    omega
noncomputable def aSpell (n : Nat) (S : List Nat) (a : Int32) : Int32 := ifP (-1 ≤ a) (txA (spP n S S.length) a) (-1)
section TXX
variable {d n : Nat} {S T : List Nat} {mem : Mem}
theorem s_putByte {x : Nat} (h : Pg mem T) (hx : x < 128) (hl : T.length < 512) : CV shX m_Page_putByte d [.ref 27, .int (nI x)] mem (fun m' => Pg m' (T ++ [x]) ∧ Same mem m' [27, 28]) := by
  obtain ⟨h1, h2, h3⟩ := h
  refine e_Page_putByte ⟨fun c => absurd c (by rw [h1, show (512 : Int32) = nI 512 from rfl, nI_leI (by decide) (by omega)]; omega), fun _ => ⟨by rw [h1]; exact vp_in_nI hl (by decide), ?_⟩⟩
  have e : ∀ (j : Nat) (v : Int32), (up2 mem 28 j v) 27 1 = mem 27 1 := fun j v => by rw [up2_ne (by decide)]
  rw [e, h1, nI_clamp (by omega), by_all x hx, nI_1]
  refine ⟨⟨by rw [up2_at, List.length_append]; rfl, by rw [List.length_append]; exact hl, fun i hi => ?_⟩, Same.tr (m2 := up2 mem 28 T.length (nI x)) (Same.up (by simp)) (Same.up (by simp))⟩
  rw [List.length_append] at hi
  rw [up2_ne (by decide), getD_app]
  by_cases q : i = T.length
  · subst q; rw [up2_at, if_neg (Nat.lt_irrefl _), if_pos rfl]
  · have hlt : i < T.length := by simp at hi; omega
    rw [up2_nj q, if_pos hlt]; exact h3 i hlt
theorem s_putWord {tx : Nat} (h : Pg mem T) (htx : tx < 11) (hl : T.length + (wrdX.getD tx []).length ≤ 512) : CV shX m_Page_putWord (d + 4) [.ref 27, .ref (1000 + tx)] mem (fun m' => Pg m' (T ++ wrdX.getD tx []) ∧ Same mem m' [27, 28]) := by
  obtain ⟨w1, w2, w3⟩ := wrdX_ok tx htx
  refine e_Page_putWord htx ?_
  refine downInd (P := fun i => ∀ m0 : Mem, Pg m0 (T ++ (wrdX.getD tx []).take i) → Same mem m0 [27, 28] → Wp shX m_Page_putWord (d + 4) 2 [some (.ref 27), some (.ref (1000 + tx)), some (.int (nI i))] [] m0 (QV (fun m' => Pg m' (T ++ wrdX.getD tx []) ∧ Same mem m' [27, 28]))) (wrdX.getD tx []).length ?_ ?_ 0 (Nat.zero_le _) mem (by rw [List.take_zero, List.append_nil]; exact h) Same.rf
  · intro m0 hP hS
    rw [List.take_length] at hP
    refine b_Page_putWord_2 htx ((f_length (d := d + 2) htx).to ⟨fun _ => ⟨hP, hS⟩, fun c => absurd (by rw [← w1]; exact nI_le (Nat.le_refl _) (by omega)) c⟩)
  · intro i hi ih m0 hP hS
    refine b_Page_putWord_2 htx ((f_length (d := d + 2) htx).to ⟨fun c => absurd c (by rw [← w1]; exact nI_ge hi (by omega)), fun _ => ?_⟩)
    refine (f_charAt (d := d) htx (by rw [← w1]; exact hi)).to ?_
    obtain ⟨g1, g2⟩ := w3 i (by omega) hi
    rw [g1]
    refine (s_putByte (T := T ++ (wrdX.getD tx []).take i) hP g2 (by rw [List.length_append, List.length_take]; omega)).mono ?_
    rintro m1 ⟨hP1, hS1⟩
    rw [nI_1]
    exact ih m1 (by rw [take_succ_getD hi, ← List.append_assoc]; exact hP1) (hS.tr hS1)
theorem s_putNumber {v : Nat} (h : Pg mem T) (hv : v < 100) (hl : T.length + 2 ≤ 512) : CV shX m_Page_putNumber (d + 1) [.ref 27, .int (nI v)] mem (fun m' => Pg m' (T ++ nbT v) ∧ Same mem m' [27, 28]) := by
  obtain ⟨g1, g2, g3⟩ := dg_all v hv
  refine e_Page_putNumber ⟨fun c => ?_, fun c => ?_⟩
  · have c' : v < 10 := (nI_ltI (b := 10) (by omega) (by decide)).mp c
    rw [g1, nbT, if_pos c', show v % 10 = v by omega]
    exact s_putByte h (by omega) (by omega)
  · have c' : ¬ v < 10 := fun q => c (nI_lt (b := 10) q (by decide))
    rw [g1, g2, nbT, if_neg c']
    refine (s_putByte h (x := 48 + v / 10) (by omega) (by omega)).mono ?_
    rintro m1 ⟨hP1, hS1⟩
    refine (s_putByte hP1 (x := 48 + v % 10) (by omega) (by rw [List.length_append]; simp; omega)).mono ?_
    rintro m2 ⟨hP2, hS2⟩
    exact ⟨by rw [List.append_assoc] at hP2; exact hP2, hS1.tr hS2⟩
theorem s_putLetters {s : Nat} (h : Pg mem T) (hs : s < 2 ^ 31) (hl : T.length + 10 ≤ 512) : CV shX m_Page_putLetters (d + 1) [.ref 27, .int (nI s)] mem (fun m' => Pg m' (T ++ ltT s 10) ∧ Same mem m' [27, 28]) := by
  refine e_Page_putLetters ?_
  refine downInd (P := fun i => ∀ m0 : Mem, Pg m0 (T ++ ltT s i) → Same mem m0 [27, 28] → Wp shX m_Page_putLetters (d + 1) 2 [some (.ref 27), some (.int (nI s)), some (.int (nI i))] [] m0 (QV (fun m' => Pg m' (T ++ ltT s 10) ∧ Same mem m' [27, 28]))) 10 ?_ ?_ 0 (Nat.zero_le _) mem (by rw [ltT, List.append_nil]; exact h) Same.rf
  · intro m0 hP hS
    exact b_Page_putLetters_2 ⟨fun _ => ⟨hP, hS⟩, fun c => absurd (show (10 : Int32) ≤ nI 10 from nI_le (a := 10) (Nat.le_refl _) (by decide)) c⟩
  · intro i hi ih m0 hP hS
    have hll := ltT_len s i
    refine b_Page_putLetters_2 ⟨fun c => absurd c (by rw [show (10 : Int32) = nI 10 from rfl, nI_leI (by decide) (by omega)]; omega), fun _ => ?_⟩
    rw [hasI0 hs (by omega)]
    refine ⟨fun z => ?_, fun z => ?_⟩
    · rw [ltT, if_neg (by simp [z])] at ih
      rw [nI_1]
      exact ih m0 hP hS
    · rw [Bool.not_eq_false] at z
      rw [ltT, if_pos z] at ih
      rw [show (97 : Int32) = nI 97 from rfl, nI_add]
      refine (s_putByte hP (x := 97 + i) (by omega) (by rw [List.length_append]; omega)).mono ?_
      rintro m1 ⟨hP1, hS1⟩
      rw [nI_1]
      exact ih m1 (by rw [← List.append_assoc]; exact hP1) (hS.tr hS1)
theorem s_answer {a : Int32} (h : Pg mem T) (ha : -1 ≤ a) : CI shX m_Page_answer d [.ref 27, .int a] mem (fun r m' => r = txA T a ∧ m' = mem) := by
  obtain ⟨h1, h2, h3⟩ := h
  refine e_Page_answer ⟨fun c => ?_, fun c => ⟨?_, rfl⟩⟩
  · have hne : ¬ a = -1 := fun e => by subst e; exact absurd c (by decide)
    rw [txA, if_neg hne, h1]
    refine ⟨fun z => ⟨by rw [ifP_f (i_nl.mpr z)], rfl⟩, fun z => ?_⟩
    obtain ⟨j, hj, rfl⟩ := of_in (by omega) c (i_nle.mp z)
    rw [nI_clamp (by omega), ifP_t (i_nle.mp z)]
    refine ⟨fun z2 => absurd z2 (by rw [show (512 : Int32) = nI 512 from rfl, nI_leI (by decide) (by omega)]; omega), fun _ => ⟨vp_in_nI (by omega) (by decide), h3 j hj, rfl⟩⟩
  · have e : a = -1 := by
      have a1 := Int32.le_iff_toInt_le.mp ha
      have a2 := Int32.lt_iff_toInt_lt.mp (i_nle.mp c)
      rw [show (-1 : Int32).toInt = -1 from rfl] at a1
      rw [show (0 : Int32).toInt = 0 from rfl] at a2
      exact Int32.toInt_inj.mp (by rw [show (-1 : Int32).toInt = -1 from rfl]; omega)
    rw [txA, if_pos e]; exact h1
theorem x_spell {a : Int32} (h : Fam mem 1 n S) (hl : S.length ≤ 16) : CI shX m_PS_spell (d + 5) [.ref 0, .int a] mem (fun r m' => r = aSpell n S a ∧ Same mem m' [27, 28]) := by
  have hn := h.2.2.2.1
  refine e_PS_spell ⟨fun c => ?_, fun c => ⟨by rw [aSpell, ifP_f c], Same.rf⟩⟩
  rw [aSpell, ifP_t c]
  have hP0 : Pg (up2 mem 27 1 0) [] := ⟨by rw [up2_at]; exact nI_0.symm, by decide, fun i hi => absurd hi (Nat.not_lt_zero _)⟩
  have hS0 : Same mem (up2 mem 27 1 0) [27, 28] := Same.up (by simp)
  refine (s_putWord (d := d) (tx := 2) hP0 (by decide) (by decide)).mono ?_
  rintro m1 ⟨hP1, hS1⟩
  have hSS1 := hS0.tr hS1
  rw [hSS1 1 (by decide), h.1]
  refine (s_putNumber (d := d + 3) (v := n) hP1 (by omega) (by decide)).mono ?_
  rintro m2 ⟨hP2, hS2⟩
  have hnl := nbT_len n
  have e2 : wrdX.getD 2 [] = [112, 111, 105, 110, 116, 115, 32] := rfl
  have e3 : wrdX.getD 3 [] = [59] := rfl
  have e4 : wrdX.getD 4 [] = [115, 101, 116, 32] := rfl
  refine (s_putWord (d := d) (tx := 3) hP2 (by decide) (by rw [e2, e3]; simp only [List.length_append, List.length_cons, List.length_nil]; omega)).mono ?_
  rintro m3 ⟨hP3, hS3⟩
  refine downInd (P := fun i => ∀ m0 : Mem, Pg m0 (spP n S i) → Same mem m0 [27, 28] → Wp shX m_PS_spell (d + 5) 51 [some (.ref 0), some (.int a), some (.int (nI i))] [] m0 (QI (fun r m' => r = txA (spP n S S.length) a ∧ Same mem m' [27, 28]))) S.length ?_ ?_ 0 (Nat.zero_le _) m3 hP3 ((hSS1.tr hS2).tr hS3)
  · intro m0 hP hS
    have hF := h.same hS (by decide) (by decide)
    refine b_PS_spell_51 ⟨fun _ => ?_, fun c => absurd ((hF.ge (Nat.le_refl _)).mpr rfl) c⟩
    exact (s_answer hP c).mono (fun r m' e => ⟨e.1, by rw [e.2]; exact hS⟩)
  · intro i hi ih m0 hP hS
    have hF := h.same hS (by decide) (by decide)
    have hsl := spP_len n S i
    have hll := ltT_len (S.getD i 0) 10
    refine b_PS_spell_51 ⟨fun c => absurd ((hF.ge (Nat.le_of_lt hi)).mp c) (by omega), fun _ => ?_⟩
    refine (s_putWord (d := d) (tx := 4) hP (by decide) (by rw [e4]; simp only [List.length_append, List.length_cons, List.length_nil]; omega)).mono ?_
    rintro m4 ⟨hP4, hS4⟩
    have hF4 := hF.same hS4 (by decide) (by decide)
    rw [hF4.aF hi]
    refine (s_putLetters (d := d + 3) hP4 (by have := h.small i; omega) (by rw [e4]; simp only [List.length_append, List.length_cons, List.length_nil]; omega)).mono ?_
    rintro m5 ⟨hP5, hS5⟩
    refine (s_putWord (d := d) (tx := 3) hP5 (by decide) (by rw [e3, e4]; simp only [List.length_append, List.length_cons, List.length_nil]; omega)).mono ?_
    rintro m6 ⟨hP6, hS6⟩
    rw [nI_1]
    exact ih m6 hP6 (((hS.tr hS4).tr hS5).tr hS6)
/-! report -/
/-- the numbers of the first k sets that a mask names, each behind a blank -/
def nmT (w : Nat) : Nat → List Nat
  | 0 => []
  | k + 1 => if w.testBit k then nmT w k ++ [32] ++ nbT k else nmT w k
theorem nmT_len (w : Nat) : ∀ k, (nmT w k).length ≤ 3 * cntP (fun i => w.testBit i) k
  | 0 => Nat.le_refl _
  | k + 1 => by
    have h1 := nmT_len w k
    have h2 := nbT_len k
    rw [nmT, cntP]
    by_cases h : w.testBit k = true
    · rw [if_pos h, if_pos h, List.length_append, List.length_append]; simp; omega
    · rw [if_neg h, if_neg h]; omega
/-- a step as a text -/
def stT (q : KSt) : List Nat := (if q.1 = 0 then [119, 105, 116, 104, 105, 110] else [102, 108, 111, 119, 101, 114]) ++ nmT q.2.1.toNatClampNeg 16 ++ (if q.1 = 1 then [32, 99, 111, 114, 101, 32] ++ ltT q.2.2.1.toNatClampNeg 10 else []) ++ [59]
def rpT (D : List KSt) : Nat → List Nat
  | 0 => []
  | i + 1 => rpT D i ++ stT (kdc D i)
def rpE (R : List KSt × List Nat × Int32) : List Nat := rpT R.1 R.1.length ++ (if R.2.2 = 0 then [108, 101, 102, 116, 32] ++ nbT R.2.1.length ++ [59] else [108, 111, 115, 116, 59])
noncomputable def aReport (S : List Nat) (a w : Int32) : Int32 := ifP ((1 ≤ a ∧ a ≤ 5) ∧ -1 ≤ w) (txA (rpE (kerF a.toNatClampNeg 16 S)) w) (-1)
/-- a step's numbers are as they should be -/
def Gst1 (q : KSt) : Prop := ∃ w, w < 65536 ∧ q.2.1 = nI w ∧ ((q.1 = 0) ∨ (q.1 = 1 ∧ ∃ c, c < 1024 ∧ q.2.2.1 = nI c))
theorem ksp_good {b : Nat} {L : List Nat} {q : KSt × List Nat} (hb : 1 ≤ b) (hl : L.length ≤ 16) (hs : ∀ i, L.getD i 0 < 1024) (h : ksp b L = some q) : Gst1 q.1 ∧ (stT q.1).length + 29 * q.2.length ≤ 29 * L.length ∧ ∀ i, q.2.getD i 0 < 1024 := by
  have hp : 2 ^ L.length ≤ 2 ^ 16 := Nat.pow_le_pow_right (by decide) hl
  unfold ksp at h
  split at h
  · split at h
    · cases h
    · split at h
      · cases h
      · rename_i h1 h2 h3
        obtain ⟨p, p1, p2⟩ := flI_ex h2
        have hp1 := p2.1
        obtain ⟨c, c1, c2, c3⟩ := kco_ex hb (by omega) hs h2
        cases h
        refine ⟨⟨p, by omega, p1, Or.inr ⟨rfl, c, c2, c1⟩⟩, ?_, fun i => ?_⟩
        · show (stT (1, flI b L, kco b L, nI (kfl b L).length)).length + 29 * (kfl b L).length ≤ 29 * L.length
          have hkl : (kfl b L).length + pop p ≤ L.length + 1 := by
            unfold kfl
            have h4 := add_len (S := sel (fun i => L.getD i 0) (fun j => !((flI b L).toNatClampNeg).testBit j) L.length) (x := (kco b L).toNatClampNeg)
            rw [p1, nI_clamp (by omega)] at h4 ⊢
            have := out_len (g := fun i => L.getD i 0) (by omega) hp1
            omega
          have h5 := p2.2.1
          have h6 := nmT_len p 16
          rw [← pop_cnt (by decide) (by omega)] at h6
          have h7 := ltT_len (kco b L).toNatClampNeg 10
          have e1 : (flI b L).toNatClampNeg = p := by rw [p1, nI_clamp (by omega)]
          unfold stT
          simp only [e1, List.length_append]
          simp
          omega
        · show (kfl b L).getD i 0 < 1024
          unfold kfl
          rw [c1, nI_clamp (by omega)]
          unfold addNew
          split
          · exact sel_small hs i
          · rw [getD_app]
            split
            · exact sel_small hs i
            · split
              · exact c2
              · decide
  · rename_i h1
    obtain ⟨i, i1, i2⟩ := wiI_ex h1
    have hi := i2.1
    have hpi : 2 ^ i < 2 ^ L.length := Nat.pow_lt_pow_right (by decide) hi
    have ei : (wiI L).toNatClampNeg = i := by rw [i1, nI_clamp (by omega)]
    have hq := ksp_len (b := b) (L := L) (q := ((0, nI (2 ^ (wiI L).toNatClampNeg), -2, nI (kwi L).length), kwi L)) hb (by omega) (by rw [ksp, if_neg h1])
    cases h
    refine ⟨⟨2 ^ i, by omega, by rw [ei], Or.inl rfl⟩, ?_, fun j => ?_⟩
    · show (stT (0, nI (2 ^ (wiI L).toNatClampNeg), -2, nI (kwi L).length)).length + 29 * (kwi L).length ≤ 29 * L.length
      have h6 := nmT_len (2 ^ i) 16
      rw [← pop_cnt (by decide) (by omega)] at h6
      have e := pop_top (b := 0) (i := i) (Nat.two_pow_pos i) (by omega)
      rw [Nat.zero_add, pop_zero] at e
      have e1 : (nI (2 ^ (wiI L).toNatClampNeg)).toNatClampNeg = 2 ^ i := by rw [ei, nI_clamp (by omega)]
      unfold stT
      simp only [e1, List.length_append]
      simp
      have hq' : (kwi L).length + 1 ≤ L.length := hq
      omega
    · show (kwi L).getD j 0 < 1024
      exact sel_small hs j
theorem kerF_good {b : Nat} (hb : 1 ≤ b) : ∀ f (L : List Nat), L.length ≤ 16 → (∀ i, L.getD i 0 < 1024) → (∀ (i : Nat) (q : KSt), (kerF b f L).1[i]? = some q → Gst1 q) ∧ (rpT (kerF b f L).1 (kerF b f L).1.length).length + 29 * (kerF b f L).2.1.length ≤ 29 * L.length ∧ (kerF b f L).2.1.length ≤ 16 := by
  intro f
  induction f with
  | zero =>
    intro L hl hs
    refine ⟨fun i q hq => by simp [kerF] at hq, ?_, hl⟩
    simp only [kerF, List.length_nil, rpT]
    omega
  | succ f ih =>
    intro L hl hs
    have app : ∀ (q : KSt) (D : List KSt) i, rpT (q :: D) (i + 1) = stT q ++ rpT D i := by
      intro q D i
      induction i with
      | zero => simp [rpT, kdc]
      | succ i ihi => rw [rpT, ihi, rpT, List.append_assoc]; rfl
    simp only [kerF]
    cases hk : ksp b L with
    | none =>
      refine ⟨fun i q hq => by simp at hq, ?_, hl⟩
      simp only [List.length_nil, rpT]
      omega
    | some q =>
      obtain ⟨g1, g2, g3⟩ := ksp_good hb hl hs hk
      have hq := ksp_len hb (by omega) hk
      obtain ⟨i1, i2, i3⟩ := ih q.2 (by omega) g3
      refine ⟨fun i r hr => ?_, ?_, i3⟩
      · cases i with
        | zero => simp at hr; rw [← hr]; exact g1
        | succ i => simp at hr; exact i1 i r hr
      · show (rpT (q.1 :: (kerF b f q.2).1) ((kerF b f q.2).1.length + 1)).length + 29 * (kerF b f q.2).2.1.length ≤ 29 * L.length
        rw [app, List.length_append]
        omega
end TXX
