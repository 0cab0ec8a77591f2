/-! report of the class -/
theorem nmT_mono {w : Nat} : ∀ {j k : Nat}, j ≤ k → (nmT w j).length ≤ (nmT w k).length := by
  intro j k h
  induction k with
  | zero => rw [Nat.le_zero.mp h]; exact Nat.le_refl _
  | succ k ih =>
    rcases Nat.lt_or_ge j (k + 1) with q | q
    · refine Nat.le_trans (ih (by omega)) ?_
      rw [nmT]
      split
      · rw [List.length_append, List.length_append]; omega
      · exact Nat.le_refl _
    · rw [show j = k + 1 by omega]; exact Nat.le_refl _
section RPX
variable {d n : Nat} {S T L : List Nat} {D : List KSt} {lo : Int32} {mem : Mem}
theorem s_tellStep {i n1 : Nat} (hQ : Kst mem n1 D L lo) (hi : i < D.length) (hG : Gst1 (kdc D i)) (hP : Pg mem T) (hl : T.length + (stT (kdc D i)).length ≤ 500) : CV shX m_Kernel_tellStep (d + 5) [.ref 18, .int (nI i), .ref 27] mem (fun m' => Pg m' (T ++ stT (kdc D i)) ∧ Same mem m' [27, 28]) := by
  have h16 := hQ.2.2.1
  obtain ⟨w, w1, w2, w3⟩ := hG
  have hat := hQ.2.2.2.2 i _ (kdc_at hi)
  have e3 : wrdX.getD 3 [] = [59] := rfl
  have e5 : wrdX.getD 5 [] = [119, 105, 116, 104, 105, 110] := rfl
  have e6 : wrdX.getD 6 [] = [102, 108, 111, 119, 101, 114] := rfl
  have e7 : wrdX.getD 7 [] = [32] := rfl
  have e8 : wrdX.getD 8 [] = [32, 99, 111, 114, 101, 32] := rfl
  have hw : (kdc D i).2.1.toNatClampNeg = w := by rw [w2, nI_clamp (by omega)]
  have hslen : (stT (kdc D i)).length = 7 + (nmT w 16).length + (if (kdc D i).1 = 1 then [32, 99, 111, 114, 101, 32] ++ ltT (kdc D i).2.2.1.toNatClampNeg 10 else []).length := by
    unfold stT
    rw [hw]
    simp only [List.length_append, List.length_cons, List.length_nil]
    split <;> simp <;> omega
  have hv : vp_in (nI i) 16 := vp_in_nI (by omega) (by decide)
  have loop : ∀ W0 : List Nat, W0 = (if (kdc D i).1 = 0 then [119, 105, 116, 104, 105, 110] else [102, 108, 111, 119, 101, 114]) → ∀ j, j ≤ 16 → ∀ m0 : Mem, Pg m0 (T ++ W0 ++ nmT w j) → Same mem m0 [27, 28] → Wp shX m_Kernel_tellStep (d + 5) 35 [some (.ref 18), some (.int (nI i)), some (.ref 27), some (.int (nI j))] [] m0 (QV (fun m' => Pg m' (T ++ stT (kdc D i)) ∧ Same mem m' [27, 28])) := by
    intro W0 hW0
    have hW6 : W0.length = 6 := by rw [hW0]; split <;> rfl
    refine downInd (P := fun j => ∀ m0 : Mem, Pg m0 (T ++ W0 ++ nmT w j) → Same mem m0 [27, 28] → Wp shX m_Kernel_tellStep (d + 5) 35 [some (.ref 18), some (.int (nI i)), some (.ref 27), some (.int (nI j))] [] m0 (QV (fun m' => Pg m' (T ++ stT (kdc D i)) ∧ Same mem m' [27, 28]))) 16 ?_ ?_
    · intro m0 hP0 hS0
      have h23 : m0 23 (nI i).toNatClampNeg = (kdc D i).1 := by rw [hS0 23 (by decide), nI_clamp (by omega)]; exact hat.1
      refine b_Kernel_tellStep_35 ⟨fun _ => ⟨hv, ?_⟩, fun c => absurd (show (16 : Int32) ≤ nI 16 from nI_le (a := 16) (Nat.le_refl _) (by decide)) c⟩
      rw [h23]
      refine ⟨fun z => ?_, fun z => ?_⟩
      · rw [if_neg z] at hslen
        refine (s_putWord (d := d) (tx := 3) hP0 (by decide) (by rw [e3]; simp only [List.length_append, List.length_cons, List.length_nil] at hslen ⊢; omega)).mono ?_
        rintro m1 ⟨hP1, hS1⟩
        refine ⟨?_, hS0.tr hS1⟩
        rw [e3] at hP1
        unfold stT
        rw [hw, if_neg z, ← hW0]
        simp only [List.append_assoc, List.append_nil, List.nil_append] at hP1 ⊢
        exact hP1
      · rw [if_pos z] at hslen
        obtain ⟨c, c1, c2⟩ : ∃ c, c < 1024 ∧ (kdc D i).2.2.1 = nI c := by
          rcases w3 with y | ⟨y1, y2⟩
          · rw [y] at z; exact absurd z (by decide)
          · exact y2
        have hcc : (kdc D i).2.2.1.toNatClampNeg = c := by rw [c2, nI_clamp (by omega)]
        rw [hcc] at hslen
        refine (s_putWord (d := d) (tx := 8) hP0 (by decide) (by rw [e8]; simp only [List.length_append, List.length_cons, List.length_nil] at hslen ⊢; omega)).mono ?_
        rintro m1 ⟨hP1, hS1⟩
        refine ⟨hv, ?_⟩
        have h25 : m1 25 (nI i).toNatClampNeg = nI c := by rw [hS1 25 (by decide), hS0 25 (by decide), nI_clamp (by omega), ← c2]; exact hat.2.2.1
        rw [h25]
        rw [e8] at hP1
        refine (s_putLetters (d := d + 3) hP1 (by omega) (by simp only [List.length_append, List.length_cons, List.length_nil] at hslen ⊢; omega)).mono ?_
        rintro m2 ⟨hP2, hS2⟩
        refine (s_putWord (d := d) (tx := 3) hP2 (by decide) (by rw [e3]; simp only [List.length_append, List.length_cons, List.length_nil] at hslen ⊢; omega)).mono ?_
        rintro m3 ⟨hP3, hS3⟩
        refine ⟨?_, ((hS0.tr hS1).tr hS2).tr hS3⟩
        rw [e3] at hP3
        unfold stT
        rw [hw, if_pos z, hcc, ← hW0]
        simp only [List.append_assoc] at hP3 ⊢
        exact hP3
    · intro j hj ih m0 hP0 hS0
      have h24 : m0 24 (nI i).toNatClampNeg = nI w := by rw [hS0 24 (by decide), nI_clamp (by omega), ← w2]; exact hat.2.1
      have hmono := nmT_mono (w := w) (show j ≤ 16 by omega)
      refine b_Kernel_tellStep_35 ⟨fun c => absurd c (by rw [show (16 : Int32) = nI 16 from rfl, nI_leI (by decide) (by omega)]; omega), fun _ => ⟨hv, ?_⟩⟩
      rw [h24, hasI0 (by omega) (by omega)]
      refine ⟨fun z => ?_, fun z => ?_⟩
      · rw [nmT, if_neg (by simp [z])] at ih
        rw [nI_1]
        exact ih m0 hP0 hS0
      · rw [Bool.not_eq_false] at z
        rw [nmT, if_pos z] at ih
        refine (s_putWord (d := d) (tx := 7) hP0 (by decide) (by rw [e7]; simp only [List.length_append, List.length_cons, List.length_nil] at hslen ⊢; omega)).mono ?_
        rintro m1 ⟨hP1, hS1⟩
        rw [e7] at hP1
        refine (s_putNumber (d := d + 3) hP1 (by omega) (by simp only [List.length_append, List.length_cons, List.length_nil] at hslen ⊢; omega)).mono ?_
        rintro m2 ⟨hP2, hS2⟩
        rw [nI_1]
        refine ih m2 ?_ ((hS0.tr hS1).tr hS2)
        simp only [List.append_assoc] at hP2 ⊢
        exact hP2
  refine e_Kernel_tellStep ⟨fun c => absurd c (nI_pos (by omega)), fun _ => ⟨fun _ => ⟨hv, ?_⟩, fun c => absurd (by rw [hQ.2.1]; exact nI_lt hi (by omega)) c⟩⟩
  have h23 : mem 23 (nI i).toNatClampNeg = (kdc D i).1 := by rw [nI_clamp (by omega)]; exact hat.1
  rw [h23]
  refine ⟨fun z => ?_, fun z => ?_⟩
  · refine (s_putWord (d := d) (tx := 6) hP (by decide) (by rw [e6]; simp only [List.length_cons, List.length_nil] at hslen ⊢; omega)).mono ?_
    rintro m1 ⟨hP1, hS1⟩
    rw [e6] at hP1
    exact loop [102, 108, 111, 119, 101, 114] (by rw [if_neg z]) 0 (Nat.zero_le _) m1 (by rw [nmT, List.append_nil]; exact hP1) hS1
  · refine (s_putWord (d := d) (tx := 5) hP (by decide) (by rw [e5]; simp only [List.length_cons, List.length_nil] at hslen ⊢; omega)).mono ?_
    rintro m1 ⟨hP1, hS1⟩
    rw [e5] at hP1
    exact loop [119, 105, 116, 104, 105, 110] (by rw [if_pos z]) 0 (Nat.zero_le _) m1 (by rw [nmT, List.append_nil]; exact hP1) hS1
theorem rpT_mono {D : List KSt} : ∀ {j k : Nat}, j ≤ k → (rpT D j).length ≤ (rpT D k).length := by
  intro j k h
  induction k with
  | zero => rw [Nat.le_zero.mp h]; exact Nat.le_refl _
  | succ k ih =>
    rcases Nat.lt_or_ge j (k + 1) with q | q
    · refine Nat.le_trans (ih (by omega)) ?_
      rw [rpT, List.length_append]; omega
    · rw [show j = k + 1 by omega]; exact Nat.le_refl _
theorem x_report {a w : Int32} (h : Fam mem 1 n S) (hl : S.length ≤ 16) (hK : Kca mem) : CI shX m_PS_report (d + 24) [.ref 0, .int a, .int w] mem (fun r m' => r = aReport S a w ∧ Kca m' ∧ Same mem m' (kcells ++ [27, 28])) := by
  refine e_PS_report ⟨fun c => ⟨by rw [aReport, ifP_f (fun z => c z.1)], hK, Same.rf⟩, fun c1 => ⟨fun c2 => ?_, fun c => ⟨by rw [aReport, ifP_f (fun z => c z.2)], hK, Same.rf⟩⟩⟩
  rw [aReport, ifP_t ⟨c1, c2⟩]
  obtain ⟨b, hb1, hb, rfl⟩ := of_1_5 c1
  rw [nI_clamp (by omega)]
  obtain ⟨g1, g2, g3⟩ := kerF_good hb1 16 S hl h.small
  refine (s_run h hl hb1 hb hK).mono ?_
  rintro m1 ⟨hK1, ⟨n1, hQ1⟩, hS1⟩
  have e3 : wrdX.getD 3 [] = [59] := rfl
  have e9 : wrdX.getD 9 [] = [108, 111, 115, 116, 59] := rfl
  have e10 : wrdX.getD 10 [] = [108, 101, 102, 116, 32] := rfl
  have h16 := hQ1.2.2.1
  have hc : ∀ c, c ∈ kcells → c ∉ [27, 28] := by decide
  have key : ∀ i, i ≤ (kerF b 16 S).1.length → ∀ m0 : Mem, Pg m0 (rpT (kerF b 16 S).1 i) → Same m1 m0 [27, 28] → Wp shX m_PS_report (d + 24) 36 [some (.ref 0), none, some (.int w), some (.int (nI i))] [] m0 (QI (fun r m' => r = txA (rpE (kerF b 16 S)) w ∧ Kca m' ∧ Same mem m' (kcells ++ [27, 28]))) := by
    refine downInd (P := fun i => ∀ m0 : Mem, Pg m0 (rpT (kerF b 16 S).1 i) → Same m1 m0 [27, 28] → Wp shX m_PS_report (d + 24) 36 [some (.ref 0), none, some (.int w), some (.int (nI i))] [] m0 (QI (fun r m' => r = txA (rpE (kerF b 16 S)) w ∧ Kca m' ∧ Same mem m' (kcells ++ [27, 28])))) (kerF b 16 S).1.length ?_ ?_
    · intro m0 hP hS
      have hQ := hQ1.same hS hc
      have fin : ∀ m' : Mem, Pg m' (rpE (kerF b 16 S)) → Same m1 m' [27, 28] → CI shX m_Page_answer (d + 23) [.ref 27, .int w] m' (fun v3 m3 => v3 = txA (rpE (kerF b 16 S)) w ∧ Kca m3 ∧ Same mem m3 (kcells ++ [27, 28])) := by
        intro m' hP' hS'
        refine (s_answer hP' c2).mono ?_
        rintro r m2 ⟨e1, rfl⟩
        exact ⟨e1, hK1.same hS' hc, (hS1.wd (fun c hc => List.mem_append_left _ hc)).tr (hS'.wd (fun c hc => List.mem_append_right _ hc))⟩
      refine b_PS_report_36 ⟨fun _ => ?_, fun c => absurd (by rw [hQ.2.1]; exact nI_le (Nat.le_refl _) (by omega)) c⟩
      rw [hQ.2.2.2.1]
      refine ⟨fun z => ?_, fun z => ?_⟩
      · refine (s_putWord (d := d + 19) (tx := 10) hP (by decide) (by rw [e10]; simp only [List.length_cons, List.length_nil]; omega)).mono ?_
        rintro m2 ⟨hP2, hS2⟩
        rw [e10] at hP2
        rw [hS2 21 (by decide), hQ.1.2.1]
        refine (s_putNumber (d := d + 22) hP2 (by omega) (by simp only [List.length_append, List.length_cons, List.length_nil]; omega)).mono ?_
        rintro m3 ⟨hP3, hS3⟩
        have hnl := nbT_len (kerF b 16 S).2.1.length
        refine (s_putWord (d := d + 19) (tx := 3) hP3 (by decide) (by rw [e3]; simp only [List.length_append, List.length_cons, List.length_nil]; omega)).mono ?_
        rintro m4 ⟨hP4, hS4⟩
        refine fin m4 ?_ (((hS.tr hS2).tr hS3).tr hS4)
        rw [e3] at hP4
        unfold rpE
        rw [if_pos z]
        simp only [List.append_assoc] at hP4 ⊢
        exact hP4
      · refine (s_putWord (d := d + 19) (tx := 9) hP (by decide) (by rw [e9]; simp only [List.length_cons, List.length_nil]; omega)).mono ?_
        rintro m2 ⟨hP2, hS2⟩
        refine fin m2 ?_ (hS.tr hS2)
        rw [e9] at hP2
        unfold rpE
        rw [if_neg z]
        exact hP2
    · intro i hi ih m0 hP hS
      have hQ := hQ1.same hS hc
      refine b_PS_report_36 ⟨fun c => absurd c (by rw [hQ.2.1]; exact nI_ge hi (by omega)), fun _ => ?_⟩
      have hm := rpT_mono (D := (kerF b 16 S).1) (show i + 1 ≤ (kerF b 16 S).1.length from hi)
      rw [rpT, List.length_append] at hm
      refine (s_tellStep (d := d + 18) hQ hi (g1 i _ (kdc_at hi)) hP (by omega)).mono ?_
      rintro m2 ⟨hP2, hS2⟩
      rw [nI_1]
      exact ih m2 hP2 (hS.tr hS2)
  exact key 0 (Nat.zero_le _) _ ⟨by rw [up2_at]; exact nI_0.symm, Nat.zero_le _, fun i hi => absurd hi (Nat.not_lt_zero _)⟩ (Same.up (by simp))
end RPX
