/-! spell, report of the reference -/
def wtb : List Nat := [112, 111, 105, 110, 116, 115, 0, 115, 101, 116, 0, 119, 105, 116, 104, 105, 110, 0, 102, 108, 111, 119, 101, 114, 0, 99, 111, 114, 101, 0, 108, 111, 115, 116, 0, 108, 101, 102, 116, 0]
/-- the reference's table of words -/
def Wd (mem : Mem) : Prop := ∀ k, k < 40 → mem 17 k = nI (wtb.getD k 0)
def wst : List Nat := [0, 7, 11, 18, 25, 30, 35]
def wlM : List (List Nat) := [[112, 111, 105, 110, 116, 115], [115, 101, 116], [119, 105, 116, 104, 105, 110], [102, 108, 111, 119, 101, 114], [99, 111, 114, 101], [108, 111, 115, 116], [108, 101, 102, 116]]
def zcT : Nat → Nat := cntP (fun k => decide (wtb.getD k 0 = 0))
theorem zc_all : ∀ w, w < 7 → wst.getD w 0 < 40 ∧ ∀ i, i < 40 → i ≤ wst.getD w 0 → (zcT i ≤ w ∧ (zcT i = w ↔ i = wst.getD w 0)) := by decide +kernel
theorem wl_all : ∀ w, w < 7 → (wlM.getD w []).length ≤ 6 ∧ wst.getD w 0 + (wlM.getD w []).length < 40 ∧ wtb.getD (wst.getD w 0 + (wlM.getD w []).length) 0 = 0 ∧ ∀ k, k < 6 → k < (wlM.getD w []).length → (wtb.getD (wst.getD w 0 + k) 0 = (wlM.getD w []).getD k 0 ∧ (wlM.getD w []).getD k 0 ≠ 0 ∧ (wlM.getD w []).getD k 0 < 128) := by decide +kernel
theorem wtb_lt : ∀ k, k < 40 → wtb.getD k 0 < 128 := by decide +kernel
theorem Wd.keep {mem m' : Mem} (h : Wd mem) (k : Keep mem m') : Wd m' := fun j hj => by rw [k.2.2.2.1]; exact h j hj
/-- the reference's text holds T -/
def Tx (mem : Mem) (T : List Nat) : Prop := mem 0 24 = nI T.length ∧ T.length ≤ 1600 ∧ ∀ i, i < T.length → mem 15 i = nI (T.getD i 0)
/-- writing leaves all but the text -/
def Kw (mem m' : Mem) : Prop := (∀ c, c ≠ 0 → c ≠ 15 → m' c = mem c) ∧ ∀ j, j ≠ 24 → m' 0 j = mem 0 j
theorem Kw.rf {mem : Mem} : Kw mem mem := ⟨fun _ _ _ => rfl, fun _ _ => rfl⟩
theorem Kw.tr {a b c : Mem} (h1 : Kw a b) (h2 : Kw b c) : Kw a c := ⟨fun x y z => (h2.1 x y z).trans (h1.1 x y z), fun j hj => (h2.2 j hj).trans (h1.2 j hj)⟩
theorem Kw.keep {mem m' : Mem} (h : Kw mem m') : Keep mem m' := ⟨h.1 1 (by decide) (by decide), h.1 3 (by decide) (by decide), h.1 16 (by decide) (by decide), h.1 17 (by decide) (by decide), h.2 4 (by decide), h.2 26 (by decide)⟩
theorem Kw.wd {mem m' : Mem} (h : Wd mem) (k : Kw mem m') : Wd m' := h.keep k.keep
section TXM
variable {d n : Nat} {S T : List Nat} {mem : Mem}
theorem s_writes {x : Nat} (h : Tx mem T) (hl : T.length < 1600) : CV shM m_Mo_writes d [.ref 0, .int (nI x)] mem (fun m' => Tx m' (T ++ [x]) ∧ Kw mem m') := by
  obtain ⟨h1, h2, h3⟩ := h
  refine e_Mo_writes ⟨by rw [h1]; exact vp_in_nI hl (by decide), ?_⟩
  have e : ∀ (j : Nat) (v : Int32), (up2 mem 15 j v) 0 24 = mem 0 24 := fun j v => by rw [up2_ne (by decide)]
  rw [e, h1, nI_clamp (by omega), nI_1]
  refine ⟨⟨by rw [up2_at, List.length_append]; rfl, by rw [List.length_append]; exact hl, fun i hi => ?_⟩, fun c c0 c15 => by rw [up2_ne c0, up2_ne c15], fun j hj => by rw [up2_nj hj, up2_ne (by decide)]⟩
  rw [List.length_append] at hi
  rw [up2_ne (by decide), getD_app]
  by_cases q : i = T.length
  · subst q; rw [up2_at, if_neg (Nat.lt_irrefl _), if_pos rfl]
  · have hlt : i < T.length := by simp at hi; omega
    rw [up2_nj q, if_pos hlt]; exact h3 i hlt
theorem s_wordFrom {w : Nat} (hW : Wd mem) (hw : w < 7) : CI shM m_Mo_wordFrom d [.ref 0, .int (nI w)] mem (fun r m' => r = nI (wst.getD w 0) ∧ m' = mem) := by
  obtain ⟨hlt, hz⟩ := zc_all w hw
  refine e_Mo_wordFrom ?_
  refine downInd (P := fun i => Wp shM m_Mo_wordFrom d 4 [some (.ref 0), none, some (.int (nI i)), some (.int (nI (w - zcT i)))] [] mem (QI (fun r m' => r = nI (wst.getD w 0) ∧ m' = mem))) (wst.getD w 0) ?_ ?_ 0 (Nat.zero_le _)
  · have := (hz _ hlt (Nat.le_refl _)).2.mpr rfl
    rw [this, Nat.sub_self]
    exact b_Mo_wordFrom_4 ⟨fun _ => ⟨rfl, rfl⟩, fun c => absurd (show nI 0 ≤ 0 by rw [nI_0]; decide) c⟩
  · intro i hi ih
    obtain ⟨z1, z2⟩ := hz i (by omega) (by omega)
    have hne : zcT i ≠ w := fun q => by have := z2.mp q; omega
    have hb := wtb_lt i (by omega)
    refine b_Mo_wordFrom_4 ⟨fun c => absurd c (nI_nle (by omega) (by omega)), fun _ => ⟨vp_in_nI (by omega) (by decide), ?_⟩⟩
    rw [nI_clamp (by omega), hW i (by omega), nI_z (by omega), nI_1]
    have e : zcT (i + 1) = zcT i + (if wtb.getD i 0 = 0 then 1 else 0) := by
      show cntP _ (i + 1) = cntP _ i + _
      rw [cntP]
      by_cases q : wtb.getD i 0 = 0
      · rw [if_pos (by simpa using q), if_pos q]
      · rw [if_neg (by simpa using q), if_neg q]
    rw [e] at ih
    refine ⟨fun z => ?_, fun z => ?_⟩
    · rw [if_neg z, Nat.add_zero] at ih; exact ih
    · rw [if_pos z] at ih
      rw [show nI (w - zcT i) + (-1) = nI (w - (zcT i + 1)) by rw [show w - zcT i = (w - (zcT i + 1)) + 1 by omega, nI_dec]]
      exact ih
theorem s_writesWord {w : Nat} (hW : Wd mem) (h : Tx mem T) (hw : w < 7) (hl : T.length + 6 ≤ 1600) : CV shM m_Mo_writesWord (d + 1) [.ref 0, .int (nI w)] mem (fun m' => Tx m' (T ++ wlM.getD w []) ∧ Kw mem m') := by
  obtain ⟨l1, l2, l3, l4⟩ := wl_all w hw
  refine e_Mo_writesWord ?_
  refine (s_wordFrom hW hw).to ?_
  refine downInd (P := fun i => ∀ m0 : Mem, Tx m0 (T ++ (wlM.getD w []).take i) → Kw mem m0 → Wp shM m_Mo_writesWord (d + 1) 6 [some (.ref 0), none, some (.int (nI (wst.getD w 0 + i)))] [] m0 (QV (fun m' => Tx m' (T ++ wlM.getD w []) ∧ Kw mem m'))) (wlM.getD w []).length ?_ ?_ 0 (Nat.zero_le _) mem (by rw [List.take_zero, List.append_nil]; exact h) Kw.rf
  · intro m0 hT hK
    rw [List.take_length] at hT
    have hW0 := Kw.wd hW hK
    refine b_Mo_writesWord_6 ⟨vp_in_nI (by omega) (by decide), ?_⟩
    rw [nI_clamp (by omega), hW0 _ l2, l3]
    exact ⟨fun _ => ⟨hT, hK⟩, fun c => absurd nI_0 c⟩
  · intro i hi ih m0 hT hK
    have hW0 := Kw.wd hW hK
    obtain ⟨g1, g2, g3⟩ := l4 i (by omega) hi
    refine b_Mo_writesWord_6 ⟨vp_in_nI (by omega) (by decide), ?_⟩
    rw [nI_clamp (by omega), hW0 _ (by omega), g1, nI_z (by omega)]
    refine ⟨fun z => absurd z g2, fun _ => ⟨vp_in_nI (by omega) (by decide), ?_⟩⟩
    refine (s_writes hT (by rw [List.length_append, List.length_take]; omega)).mono ?_
    rintro m1 ⟨hT1, hK1⟩
    rw [nI_1]
    exact ih m1 (by rw [take_succ_getD hi, ← List.append_assoc]; exact hT1) (hK.tr hK1)
theorem s_writesNumber {v : Nat} (h : Tx mem T) (hv : v < 100) (hl : T.length + 3 ≤ 1600) : CV shM m_Mo_writesNumber (d + 1) [.ref 0, .int (nI v)] mem (fun m' => Tx m' (T ++ [32] ++ nbT v) ∧ Kw mem m') := by
  obtain ⟨g1, g2, g3⟩ := dg_all v hv
  refine e_Mo_writesNumber ?_
  rw [show (32 : Int32) = nI 32 from rfl]
  refine (s_writes h (by omega)).mono ?_
  rintro m1 ⟨hT1, hK1⟩
  refine ⟨fun c => ?_, fun c => ?_⟩
  · have c' : v ≤ 9 := (nI_leI (b := 9) (by omega) (by decide)).mp c
    rw [g1, nbT, if_pos (by omega), show v % 10 = v by omega]
    refine (s_writes hT1 (by rw [List.length_append]; simp; omega)).mono ?_
    rintro m2 ⟨hT2, hK2⟩
    exact ⟨hT2, hK1.tr hK2⟩
  · have c' : ¬ v ≤ 9 := fun q => c (nI_le (b := 9) q (by decide))
    rw [g1, g3, nbT, if_neg (by omega)]
    refine (s_writes hT1 (by rw [List.length_append]; simp; omega)).mono ?_
    rintro m2 ⟨hT2, hK2⟩
    refine (s_writes hT2 (by rw [List.length_append, List.length_append]; simp; omega)).mono ?_
    rintro m3 ⟨hT3, hK3⟩
    refine ⟨?_, (hK1.tr hK2).tr hK3⟩
    simp only [List.append_assoc] at hT3 ⊢
    exact hT3
theorem s_writesLetters {s : Nat} (h : Tx mem T) (hs : s < 2 ^ 31) (hl : T.length + 11 ≤ 1600) : CV shM m_Mo_writesLetters (d + 1) [.ref 0, .int (nI s)] mem (fun m' => Tx m' (T ++ [32] ++ ltT s 10) ∧ Kw mem m') := by
  refine e_Mo_writesLetters ?_
  rw [show (32 : Int32) = nI 32 from rfl]
  refine (s_writes h (by omega)).mono ?_
  rintro m1 ⟨hT1, hK1⟩
  refine downInd (P := fun i => ∀ m0 : Mem, Tx m0 (T ++ [32] ++ ltT s i) → Kw mem m0 → Wp shM m_Mo_writesLetters (d + 1) 8 [some (.ref 0), some (.int (nI s)), some (.int (nI i))] [] m0 (QV (fun m' => Tx m' (T ++ [32] ++ ltT s 10) ∧ Kw mem m'))) 10 ?_ ?_ 0 (Nat.zero_le _) m1 (by rw [ltT, List.append_nil]; exact hT1) hK1
  · intro m0 hP hS
    exact b_Mo_writesLetters_8 ⟨fun _ => ⟨hP, hS⟩, fun c => absurd (show (10 : Int32) ≤ nI 10 from nI_le (a := 10) (Nat.le_refl _) (by decide)) c⟩
  · intro i hi ih m0 hP hS
    have hll := ltT_len s i
    refine b_Mo_writesLetters_8 ⟨fun c => absurd c (by rw [show (10 : Int32) = nI 10 from rfl, nI_leI (by decide) (by omega)]; omega), fun _ => ?_⟩
    rw [hasI hs (by omega)]
    refine ⟨fun z => ?_, fun z => ?_⟩
    · rw [ltT, if_neg z] at ih
      rw [nI_1]
      exact ih m0 hP hS
    · rw [ltT, if_pos z] at ih
      rw [show (97 : Int32) = nI 97 from rfl, nI_add]
      refine (s_writes hP (by simp only [List.length_append, List.length_cons, List.length_nil]; omega)).mono ?_
      rintro m2 ⟨hP1, hS1⟩
      rw [nI_1]
      exact ih m2 (by rw [← List.append_assoc]; exact hP1) (hS.tr hS1)
theorem s_toldText {a : Int32} (h : Tx mem T) (ha : -1 ≤ a) : CI shM m_Mo_toldText d [.ref 0, .int a] mem (fun r m' => r = txA T a ∧ m' = mem) := by
  obtain ⟨h1, h2, h3⟩ := h
  refine e_Mo_toldText ⟨fun c => ?_, fun c => ⟨by rw [txA, if_pos c]; exact h1, rfl⟩⟩
  have h0 : (0 : Int32) ≤ a := by
    have a1 := Int32.le_iff_toInt_le.mp ha
    rw [show (-1 : Int32).toInt = -1 from rfl] at a1
    have a2 : a.toInt ≠ -1 := fun e => c (Int32.toInt_inj.mp (by rw [e]; rfl))
    refine Int32.le_iff_toInt_le.mpr ?_
    rw [show (0 : Int32).toInt = 0 from rfl]
    omega
  rw [txA, if_neg c, h1]
  refine ⟨fun z => ⟨by rw [ifP_f (i_nl.mpr z)], rfl⟩, fun z => ?_⟩
  obtain ⟨j, hj, rfl⟩ := of_in (by omega) h0 (i_nle.mp z)
  rw [nI_clamp (by omega), ifP_t (i_nle.mp z)]
  exact ⟨vp_in_nI (by omega) (by decide), h3 j hj, rfl⟩
theorem y_spell {a : Int32} (h : Now mem n S) (hW : Wd mem) : CI shM m_Mo_spell (d + 2) [.ref 0, .int a] mem (fun r m' => r = aSpell n S a ∧ Keep mem m') := by
  have hl := h.2.2.1
  have hn := h.2.2.2.1
  refine e_Mo_spell ⟨fun c => ?_, fun c => ⟨by rw [aSpell, ifP_f c], Keep.rf⟩⟩
  rw [aSpell, ifP_t c]
  have e0 : wlM.getD 0 [] = [112, 111, 105, 110, 116, 115] := rfl
  have e1 : wlM.getD 1 [] = [115, 101, 116] := rfl
  have hT0 : Tx (up2 mem 0 24 0) [] := ⟨by rw [up2_at]; exact nI_0.symm, Nat.zero_le _, fun i hi => absurd hi (Nat.not_lt_zero _)⟩
  have hK0 : Kw mem (up2 mem 0 24 0) := ⟨fun c c0 _ => up2_ne c0, fun j hj => up2_nj hj⟩
  rw [show (0 : Int32) = nI 0 from nI_0.symm]
  rw [nI_0] 
  have hS1 := s_writesWord (d := d) (w := 0) (Kw.wd hW hK0) hT0 (by decide) (by decide)
  rw [nI_0] at hS1
  refine hS1.mono ?_
  rintro m1 ⟨hT1, hK1⟩
  have hKK1 := hK0.tr hK1
  rw [hKK1.1 1 (by decide) (by decide), h.1]
  rw [e0] at hT1
  refine (s_writesNumber (d := d) (v := n) hT1 (by omega) (by decide)).mono ?_
  rintro m2 ⟨hT2, hK2⟩
  have hnl := nbT_len n
  rw [show (59 : Int32) = nI 59 from rfl]
  refine (s_writes (x := 59) hT2 (by simp only [List.length_append, List.length_cons, List.length_nil]; omega)).mono ?_
  rintro m3 ⟨hT3, hK3⟩
  have hstart : Tx m3 (spP n S 0) := by
    unfold spP
    simp only [List.append_assoc, List.nil_append, List.cons_append] at hT3 ⊢
    exact hT3
  have := downInd (P := fun i => ∀ m0 : Mem, Tx m0 (spP n S i) → Kw mem m0 → Wp shM m_Mo_spell (d + 2) 35 [some (.ref 0), some (.int a), some (.int (nI i))] [] m0 (QI (fun r m' => r = txA (spP n S S.length) a ∧ Keep mem m'))) S.length ?_ ?_ 0 (Nat.zero_le _) m3 hstart ((hKK1.tr hK2).tr hK3)
  · rw [nI_0] at this
    exact this
  · intro m0 hT hK
    have hN := h.keep hK.keep
    refine b_Mo_spell_35 ⟨fun _ => ?_, fun c => absurd ((hN.ge (Nat.le_refl _)).mpr rfl) c⟩
    exact (s_toldText hT c).mono (fun r m' e => ⟨e.1, by rw [e.2]; exact hK.keep⟩)
  · intro i hi ih m0 hT hK
    have hN := h.keep hK.keep
    have hsl := spP_len n S i
    have hll := ltT_len (S.getD i 0) 10
    refine b_Mo_spell_35 ⟨fun c => absurd ((hN.ge (Nat.le_of_lt hi)).mp c) (by omega), fun _ => ?_⟩
    rw [show (1 : Int32) = nI 1 from rfl]
    refine (s_writesWord (d := d) (w := 1) (Kw.wd hW hK) hT (by decide) (by omega)).mono ?_
    rintro m4 ⟨hT4, hK4⟩
    have hN4 := hN.keep hK4.keep
    refine ⟨hN4.vin hi, ?_⟩
    rw [hN4.row hi]
    rw [e1] at hT4
    refine (s_writesLetters (d := d) hT4 (by have := h.2.2.2.2.2 i; omega) (by simp only [List.length_append, List.length_cons, List.length_nil]; omega)).mono ?_
    rintro m5 ⟨hT5, hK5⟩
    rw [show (59 : Int32) = nI 59 from rfl]
    refine (s_writes (x := 59) hT5 (by simp only [List.length_append, List.length_cons, List.length_nil]; omega)).mono ?_
    rintro m6 ⟨hT6, hK6⟩
    rw [nI_add]
    refine ih m6 ?_ (((hK.tr hK4).tr hK5).tr hK6)
    unfold spP
    simp only [List.append_assoc, List.cons_append, List.nil_append] at hT6 ⊢
    exact hT6
theorem y_report {a w : Int32} (h : Now mem n S) (hW : Wd mem) : CI shM m_Mo_report (d + 4) [.ref 0, .int a, .int w] mem (fun r m' => r = aReport S a w ∧ Keep mem m') := by
  have hl := h.2.2.1
  refine e_Mo_report ⟨fun c => ⟨by rw [aReport, ifP_f (fun z => c z.1)], Keep.rf⟩, fun c1 => ⟨fun c2 => ?_, fun c => ⟨by rw [aReport, ifP_f (fun z => c z.2)], Keep.rf⟩⟩⟩
  rw [aReport, ifP_t ⟨c1, c2⟩]
  obtain ⟨b, hb1, hb, rfl⟩ := of_1_5 c1
  rw [nI_clamp (by omega)]
  obtain ⟨g1, g2, g3⟩ := kerF_good hb1 16 S hl h.2.2.2.2.2
  refine (s_kernels h hb1 hb).mono ?_
  rintro m1 ⟨⟨hN1, hD1, h191⟩, hK1⟩
  have hW1 := hW.keep hK1
  have w2 : wlM.getD 2 [] = [119, 105, 116, 104, 105, 110] := rfl
  have w3 : wlM.getD 3 [] = [102, 108, 111, 119, 101, 114] := rfl
  have w4 : wlM.getD 4 [] = [99, 111, 114, 101] := rfl
  have w5 : wlM.getD 5 [] = [108, 111, 115, 116] := rfl
  have w6 : wlM.getD 6 [] = [108, 101, 102, 116] := rfl
  have h16 := hD1.2.1
  have dk : ∀ m0, Kw m1 m0 → Mks m0 (kerF b 16 S).1 := fun m0 hk => hD1.of (hk.2 18 (by decide)) (hk.1 9 (by decide) (by decide)) (hk.1 10 (by decide) (by decide)) (hk.1 11 (by decide) (by decide)) (hk.1 12 (by decide) (by decide))
  have key : ∀ i, i ≤ (kerF b 16 S).1.length → ∀ m0 : Mem, Tx m0 (rpT (kerF b 16 S).1 i) → Kw m1 m0 → Wp shM m_Mo_report (d + 4) 26 [some (.ref 0), none, some (.int w), some (.int (nI i)), none] [] m0 (QI (fun r m' => r = txA (rpE (kerF b 16 S)) w ∧ Keep mem m')) := by
    refine downInd (P := fun i => ∀ m0 : Mem, Tx m0 (rpT (kerF b 16 S).1 i) → Kw m1 m0 → Wp shM m_Mo_report (d + 4) 26 [some (.ref 0), none, some (.int w), some (.int (nI i)), none] [] m0 (QI (fun r m' => r = txA (rpE (kerF b 16 S)) w ∧ Keep mem m'))) (kerF b 16 S).1.length ?_ ?_
    · intro m0 hT hk
      have fin : ∀ m' : Mem, Tx m' (rpE (kerF b 16 S)) → Kw m1 m' → CI shM m_Mo_toldText (d + 3) [.ref 0, .int w] m' (fun v3 m3 => v3 = txA (rpE (kerF b 16 S)) w ∧ Keep mem m3) := by
        intro m' hT' hk'
        refine (s_toldText hT' c2).mono ?_
        rintro r m2 ⟨e1, rfl⟩
        exact ⟨e1, hK1.tr hk'.keep⟩
      have e19 : m0 0 19 = (kerF b 16 S).2.2 := (hk.2 19 (by decide)).trans h191
      refine b_Mo_report_26 ⟨fun _ => ?_, fun c => absurd (by rw [(dk m0 hk).1]; exact nI_le (Nat.le_refl _) (by omega)) c⟩
      rw [e19]
      refine ⟨fun z => ?_, fun z => ?_⟩
      · rw [show (6 : Int32) = nI 6 from rfl]
        refine (s_writesWord (d := d + 2) (w := 6) (Kw.wd hW1 hk) hT (by decide) (by omega)).mono ?_
        rintro m2 ⟨hT2, hk2⟩
        have e19' : m2 0 19 = (kerF b 16 S).2.2 := (hk2.2 19 (by decide)).trans e19
        rw [e19']
        refine ⟨fun z2 => absurd z z2, fun _ => ?_⟩
        rw [hk2.2 13 (by decide), hk.2 13 (by decide), hN1.1]
        rw [w6] at hT2
        refine (s_writesNumber (d := d + 2) hT2 (by omega) (by simp only [List.length_append, List.length_cons, List.length_nil]; omega)).mono ?_
        rintro m3 ⟨hT3, hk3⟩
        have hnl := nbT_len (kerF b 16 S).2.1.length
        rw [show (59 : Int32) = nI 59 from rfl]
        refine (s_writes (x := 59) hT3 (by simp only [List.length_append, List.length_cons, List.length_nil]; omega)).mono ?_
        rintro m4 ⟨hT4, hk4⟩
        refine fin m4 ?_ (((hk.tr hk2).tr hk3).tr hk4)
        unfold rpE
        rw [if_pos z]
        simp only [List.append_assoc, List.cons_append, List.nil_append] at hT4 ⊢
        exact hT4
      · rw [show (5 : Int32) = nI 5 from rfl]
        refine (s_writesWord (d := d + 2) (w := 5) (Kw.wd hW1 hk) hT (by decide) (by omega)).mono ?_
        rintro m2 ⟨hT2, hk2⟩
        have e19' : m2 0 19 = (kerF b 16 S).2.2 := (hk2.2 19 (by decide)).trans e19
        rw [e19']
        refine ⟨fun _ => ?_, fun z2 => absurd z2 z⟩
        rw [w5] at hT2
        rw [show (59 : Int32) = nI 59 from rfl]
        refine (s_writes (x := 59) hT2 (by simp only [List.length_append, List.length_cons, List.length_nil]; omega)).mono ?_
        rintro m4 ⟨hT4, hk4⟩
        refine fin m4 ?_ ((hk.tr hk2).tr hk4)
        unfold rpE
        rw [if_neg z]
        simp only [List.append_assoc, List.cons_append, List.nil_append] at hT4 ⊢
        exact hT4
    · intro i hi ih m0 hT hk
      have hm := rpT_mono (D := (kerF b 16 S).1) (show i + 1 ≤ (kerF b 16 S).1.length from hi)
      rw [rpT, List.length_append] at hm
      obtain ⟨u, u1, u2, u3⟩ := g1 i _ (kdc_at hi)
      have hat := hD1.2.2 i _ (kdc_at hi)
      have hu : (kdc (kerF b 16 S).1 i).2.1.toNatClampNeg = u := by rw [u2, nI_clamp (by omega)]
      have hv : vp_in (nI i) 32 := vp_in_nI (by omega) (by decide)
      have hslen : (stT (kdc (kerF b 16 S).1 i)).length = 7 + (nmT u 16).length + (if (kdc (kerF b 16 S).1 i).1 = 1 then [32, 99, 111, 114, 101, 32] ++ ltT (kdc (kerF b 16 S).1 i).2.2.1.toNatClampNeg 10 else []).length := by
        unfold stT
        rw [hu]
        simp only [List.length_append, List.length_cons, List.length_nil]
        split <;> simp <;> omega
      have loop : ∀ W0 : List Nat, W0 = (if (kdc (kerF b 16 S).1 i).1 = 0 then [119, 105, 116, 104, 105, 110] else [102, 108, 111, 119, 101, 114]) → ∀ j, j ≤ 16 → ∀ m2 : Mem, Tx m2 (rpT (kerF b 16 S).1 i ++ W0 ++ nmT u j) → Kw m1 m2 → Wp shM m_Mo_report (d + 4) 55 [some (.ref 0), none, some (.int w), some (.int (nI i)), some (.int (nI j))] [] m2 (QI (fun r m' => r = txA (rpE (kerF b 16 S)) w ∧ Keep mem m')) := by
        intro W0 hW0
        have hW6 : W0.length = 6 := by rw [hW0]; split <;> rfl
        refine downInd (P := fun j => ∀ m2 : Mem, Tx m2 (rpT (kerF b 16 S).1 i ++ W0 ++ nmT u j) → Kw m1 m2 → Wp shM m_Mo_report (d + 4) 55 [some (.ref 0), none, some (.int w), some (.int (nI i)), some (.int (nI j))] [] m2 (QI (fun r m' => r = txA (rpE (kerF b 16 S)) w ∧ Keep mem m'))) 16 ?_ ?_
        · intro m2 hT2 hk2
          have h9 : m2 9 (nI i).toNatClampNeg = (kdc (kerF b 16 S).1 i).1 := by rw [hk2.1 9 (by decide) (by decide), nI_clamp (by omega)]; exact hat.1
          refine b_Mo_report_55 ⟨fun _ => ⟨hv, ?_⟩, fun c => absurd (show (16 : Int32) ≤ nI 16 from nI_le (a := 16) (Nat.le_refl _) (by decide)) c⟩
          rw [h9, show (59 : Int32) = nI 59 from rfl, show (32 : Int32) = nI 32 from rfl, show (4 : Int32) = nI 4 from rfl]
          refine ⟨fun z => ?_, fun z => ?_⟩
          · rw [if_neg z] at hslen
            refine (s_writes (x := 59) hT2 (by simp only [List.length_append, List.length_cons, List.length_nil] at hslen ⊢; omega)).mono ?_
            rintro m3 ⟨hT3, hk3⟩
            rw [nI_1]
            refine ih m3 ?_ (hk2.tr hk3)
            rw [rpT]
            unfold stT
            rw [hu, if_neg z, ← hW0]
            simp only [List.append_assoc, List.append_nil, List.nil_append] at hT3 ⊢
            exact hT3
          · rw [if_pos z] at hslen
            obtain ⟨c, c1, c2⟩ : ∃ c, c < 1024 ∧ (kdc (kerF b 16 S).1 i).2.2.1 = nI c := by
              rcases u3 with y | ⟨y1, y2⟩
              · rw [y] at z; exact absurd z (by decide)
              · exact y2
            have hcc : (kdc (kerF b 16 S).1 i).2.2.1.toNatClampNeg = c := by rw [c2, nI_clamp (by omega)]
            rw [hcc] at hslen
            refine (s_writes (x := 32) hT2 (by simp only [List.length_append, List.length_cons, List.length_nil] at hslen ⊢; omega)).mono ?_
            rintro m3 ⟨hT3, hk3⟩
            refine (s_writesWord (d := d + 2) (w := 4) (Kw.wd hW1 (hk2.tr hk3)) hT3 (by decide) (by simp only [List.length_append, List.length_cons, List.length_nil] at hslen ⊢; omega)).mono ?_
            rintro m4 ⟨hT4, hk4⟩
            rw [w4] at hT4
            refine ⟨hv, ?_⟩
            have h11 : m4 11 (nI i).toNatClampNeg = nI c := by rw [hk4.1 11 (by decide) (by decide), hk3.1 11 (by decide) (by decide), hk2.1 11 (by decide) (by decide), nI_clamp (by omega), ← c2]; exact hat.2.2.1
            rw [h11]
            refine (s_writesLetters (d := d + 2) hT4 (by omega) (by simp only [List.length_append, List.length_cons, List.length_nil] at hslen ⊢; omega)).mono ?_
            rintro m5 ⟨hT5, hk5⟩
            have hll := ltT_len c 10
            refine (s_writes (x := 59) hT5 (by simp only [List.length_append, List.length_cons, List.length_nil] at hslen ⊢; omega)).mono ?_
            rintro m6 ⟨hT6, hk6⟩
            rw [nI_1]
            refine ih m6 ?_ ((((hk2.tr hk3).tr hk4).tr hk5).tr hk6)
            rw [rpT]
            unfold stT
            rw [hu, if_pos z, hcc, ← hW0]
            simp only [List.append_assoc, List.cons_append, List.nil_append] at hT6 ⊢
            exact hT6
        · intro j hj ihj m2 hT2 hk2
          have h10 : m2 10 (nI i).toNatClampNeg = nI u := by rw [hk2.1 10 (by decide) (by decide), nI_clamp (by omega), ← u2]; exact hat.2.1
          have hmono := nmT_mono (w := u) (show j ≤ 16 by omega)
          refine b_Mo_report_55 ⟨fun c => absurd c (by rw [show (16 : Int32) = nI 16 from rfl, nI_leI (by decide) (by omega)]; omega), fun _ => ⟨hv, ?_⟩⟩
          rw [h10, hasI (by omega) (by omega)]
          refine ⟨fun z => ?_, fun z => ?_⟩
          · rw [nmT, if_neg z] at ihj
            rw [nI_1]
            exact ihj m2 hT2 hk2
          · rw [nmT, if_pos z] at ihj
            refine (s_writesNumber (d := d + 2) hT2 (by omega) (by simp only [List.length_append, List.length_cons, List.length_nil] at hslen ⊢; omega)).mono ?_
            rintro m3 ⟨hT3, hk3⟩
            rw [nI_1]
            refine ihj m3 ?_ (hk2.tr hk3)
            simp only [List.append_assoc] at hT3 ⊢
            exact hT3
      refine b_Mo_report_26 ⟨fun c => absurd c (by rw [(dk m0 hk).1]; exact nI_ge hi (by omega)), fun _ => ⟨hv, ?_⟩⟩
      have h9 : m0 9 (nI i).toNatClampNeg = (kdc (kerF b 16 S).1 i).1 := by rw [hk.1 9 (by decide) (by decide), nI_clamp (by omega)]; exact hat.1
      rw [h9, show (3 : Int32) = nI 3 from rfl, show (2 : Int32) = nI 2 from rfl]
      refine ⟨fun z => ?_, fun z => ?_⟩
      · refine (s_writesWord (d := d + 2) (w := 3) (Kw.wd hW1 hk) hT (by decide) (by omega)).mono ?_
        rintro m2 ⟨hT2, hk2⟩
        rw [w3] at hT2
        exact loop [102, 108, 111, 119, 101, 114] (by rw [if_neg z]) 0 (Nat.zero_le _) m2 (by rw [nmT, List.append_nil]; exact hT2) (hk.tr hk2)
      · refine (s_writesWord (d := d + 2) (w := 2) (Kw.wd hW1 hk) hT (by decide) (by omega)).mono ?_
        rintro m2 ⟨hT2, hk2⟩
        rw [w2] at hT2
        exact loop [119, 105, 116, 104, 105, 110] (by rw [if_pos z]) 0 (Nat.zero_le _) m2 (by rw [nmT, List.append_nil]; exact hT2) (hk.tr hk2)
  exact key 0 (Nat.zero_le _) _ ⟨by rw [up2_at]; exact nI_0.symm, Nat.zero_le _, fun i hi => absurd hi (Nat.not_lt_zero _)⟩ ⟨fun c c0 _ => up2_ne c0, fun j hj => up2_nj hj⟩
end TXM
