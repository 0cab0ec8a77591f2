/-! reading points, the whole text; text, feed, back of the class -/
theorem rsF_ok {t S : List Nat} {n p : Nat} {q : Nat × List Nat} (h : rsF t n p S = .inr q) : ∃ x, q.2 = S ++ [x] ∧ x < 2 ^ n ∧ x ≠ 0 ∧ x ∉ S ∧ S.length < 16 := by
  rw [rsF] at h
  by_cases c : ¬ WdP t wSet p ∨ 16 ≤ S.length
  · rw [ifP_t c] at h; cases h
  · rw [ifP_f c] at h
    split at h
    · split at h
      · cases h
      · rename_i x hx
        by_cases c2 : x = 0 ∨ x ∈ S
        · rw [ifP_t c2] at h; cases h
        · rw [ifP_f c2] at h
          split at h
          · cases h
          · cases h
            exact ⟨x, rfl, lsN_lt t.length _ 0 x (by omega) (Nat.two_pow_pos n) hx, fun e => c2 (Or.inl e), fun e => c2 (Or.inr e), Classical.byContradiction (fun e => c (Or.inr (by omega)))⟩
    · cases h
theorem getD_mem {S : List Nat} {i : Nat} (h : i < S.length) : S.getD i 0 ∈ S := by
  rw [List.getD_eq_getElem?_getD, List.getElem?_eq_getElem h]
  exact List.getElem_mem h
theorem GdS.app {n x : Nat} {S : List Nat} (h : GdS n S) (hl : S.length < 16) (hx : x < 2 ^ n) (h0 : x ≠ 0) (hm : x ∉ S) : GdS n (S ++ [x]) := by
  obtain ⟨h1, h2, h3, h4⟩ := h
  refine ⟨by rw [List.length_append]; exact hl, fun i j hij hj => ?_, fun i hi => ?_, fun i => ?_⟩
  · rw [List.length_append] at hj
    simp only [List.length_cons, List.length_nil] at hj
    rw [getD_app, getD_app, if_pos (show i < S.length by omega)]
    by_cases e : j < S.length
    · rw [if_pos e]; exact h2 i j hij e
    · rw [if_neg e, if_pos (by omega)]
      intro q
      exact hm (by rw [← q]; exact getD_mem (by omega))
  · rw [List.length_append] at hi
    simp only [List.length_cons, List.length_nil] at hi
    rw [getD_app]
    by_cases e : i < S.length
    · rw [if_pos e]; exact h3 i e
    · rw [if_neg e, if_pos (by omega)]; exact h0
  · rw [getD_app]
    split
    · exact h4 i
    · split
      · exact hx
      · exact Nat.two_pow_pos n
theorem psF_ok {t : List Nat} {n : Nat} : ∀ f p S S', GdS n S → psF t n f p S = .inr S' → GdS n S'
  | 0, p, S, S', hG, h => by rw [psF] at h; cases h; exact hG
  | f + 1, p, S, S', hG, h => by
    rw [psF] at h
    split at h
    · split at h
      · cases h
      · rename_i q hq
        obtain ⟨x, x1, x2, x3, x4, x5⟩ := rsF_ok hq
        exact psF_ok f q.1 q.2 S' (by rw [x1]; exact hG.app x5 x2 x3 x4) h
    · cases h; exact hG
theorem GdS.nil {n : Nat} : GdS n [] := ⟨by decide, fun i j _ hj => absurd hj (Nat.not_lt_zero _), fun i hi => absurd hi (Nat.not_lt_zero _), fun i => by simp [Nat.two_pow_pos]⟩
theorem vF_2 {t : List Nat} {k j : Nat} (hj : j ≤ 2) (hd : ∀ i, i < j → dgB t (k + i) = true) : vF t k j < 100 := by
  have h1 : ∀ i, i < j → t.getD (k + i) 0 - 48 < 10 := fun i hi => by
    have := hd i hi
    rw [dgB, Bool.and_eq_true, Bool.and_eq_true, decide_eq_true_iff, decide_eq_true_iff, decide_eq_true_iff] at this
    omega
  rcases (show j = 0 ∨ j = 1 ∨ j = 2 by omega) with e | e | e
  · subst e; exact (show (0 : Nat) < 100 by decide)
  · subst e; have := h1 0 (by decide); simp only [vF]; omega
  · subst e; have := h1 0 (by decide); have := h1 1 (by decide); simp only [vF]; omega
section RD2
variable {d n : Nat} {S t : List Nat} {H : List (List Nat)} {mem : Mem}
theorem s_readPoints {p : Nat} (h : XT mem t) (hF : Fam mem 3 n S) (hp : mem 10 0 = nI p) (hpl : p + 6 ≤ t.length) : CI shX m_Reader_readPoints (d + 4) [.ref 10, .ref 8, .ref 3] mem (fun r m' => ((∃ e, rpF t p = .inl e ∧ r = nI e ∧ e < 1000) ∨ (∃ q v, q ≤ t.length ∧ 1 ≤ v ∧ v ≤ 10 ∧ rpF t p = .inr (v, sk t q) ∧ r = -1 ∧ m' 10 0 = nI q ∧ Fam m' 3 v [])) ∧ (∃ q, m' 10 0 = nI q ∧ q < 1000) ∧ Same mem m' [3, 4, 10]) := by
  have hl := h.2.1
  refine e_Reader_readPoints isF_3 ?_
  have e6 : mem 10 0 + 6 = nI (p + 6) := by rw [hp]; exact nI_add p 6
  have hSA : Same mem (up2 mem 10 0 (nI (p + 6))) [10] := Same.up (by simp)
  have hXA := h.same hSA (by decide) (by decide)
  rw [e6, up2_at, tp_bl hXA (by omega)]
  refine ⟨fun z3 => ?_, fun z3 => ⟨Or.inl ⟨p + 6, by rw [rpF, if_neg z3], rfl, by omega⟩, ⟨p + 6, rfl, by omega⟩, hSA.wd (by simp)⟩⟩
  refine (s_skipBlanks (d := d + 1) hXA up2_at (by omega)).mono ?_
  rintro m1 ⟨q1, hS1⟩
  have hS1' := hSA.tr hS1
  have hX1 := h.same hS1' (by decide) (by decide)
  have hsk := sk_le (t := t) (e := p + 6) hpl
  rw [q1, tp_dg hX1 (by omega)]
  refine ⟨fun z4 => ?_, fun z4 => ⟨Or.inl ⟨sk t (p + 6), by rw [rpF, if_pos z3, if_neg z4], rfl, by omega⟩, ⟨_, rfl, by omega⟩, hS1'.wd (by simp)⟩⟩
  have hdl := dgE_le (t := t) (e := sk t (p + 6)) hsk
  have fin : ∀ (v : Int32) (m0 : Mem), Same mem m0 [10] → m0 10 0 = nI (dgE t (sk t (p + 6))) → (dgE t (sk t (p + 6)) - sk t (p + 6) ≤ 2 → v = nI (vF t (sk t (p + 6)) (dgE t (sk t (p + 6)) - sk t (p + 6)))) → Wp shX m_Reader_readPoints (d + 4) 104 [some (.ref 10), some (.ref 8), some (.ref 3), some (.int (nI (sk t (p + 6)))), some (.int v)] [] m0 (QI (fun r m' => ((∃ e, rpF t p = .inl e ∧ r = nI e ∧ e < 1000) ∨ (∃ q v, q ≤ t.length ∧ 1 ≤ v ∧ v ≤ 10 ∧ rpF t p = .inr (v, sk t q) ∧ r = -1 ∧ m' 10 0 = nI q ∧ Fam m' 3 v [])) ∧ (∃ q, m' 10 0 = nI q ∧ q < 1000) ∧ Same mem m' [3, 4, 10])) := by
    intro v m0 hS0 e0 hv
    have hge := enN_ge (dgB t) t.length (sk t (p + 6))
    have hge' : sk t (p + 6) ≤ dgE t (sk t (p + 6)) := hge
    have no : (2 < dgE t (sk t (p + 6)) - sk t (p + 6) ∨ vF t (sk t (p + 6)) (dgE t (sk t (p + 6)) - sk t (p + 6)) < 1 ∨ 10 < vF t (sk t (p + 6)) (dgE t (sk t (p + 6)) - sk t (p + 6))) → ((∃ e, rpF t p = .inl e ∧ nI (sk t (p + 6)) = nI e ∧ e < 1000) ∨ (∃ q v, q ≤ t.length ∧ 1 ≤ v ∧ v ≤ 10 ∧ rpF t p = .inr (v, sk t q) ∧ nI (sk t (p + 6)) = -1 ∧ m0 10 0 = nI q ∧ Fam m0 3 v [])) ∧ (∃ q, m0 10 0 = nI q ∧ q < 1000) ∧ Same mem m0 [3, 4, 10] := fun z => ⟨Or.inl ⟨sk t (p + 6), by rw [rpF, if_pos z3, if_pos z4, ifP_t z], rfl, by omega⟩, ⟨_, e0, by omega⟩, hS0.wd (by simp)⟩
    refine b_Reader_readPoints_104 isF_3 ?_
    have hsub : m0 10 0 - nI (sk t (p + 6)) = nI (dgE t (sk t (p + 6)) - sk t (p + 6)) := by rw [e0]; exact pk_sub hge'
    rw [hsub, show (2 : Int32) = nI 2 from rfl, nI_ltI (by decide) (by omega)]
    refine ⟨fun z => no (Or.inl z), fun z => ?_⟩
    have hv' := hv (by omega)
    have hv100 := vF_2 (t := t) (k := sk t (p + 6)) (j := dgE t (sk t (p + 6)) - sk t (p + 6)) (by omega) (fun i hi => enN_mid (P := dgB t) (m := t.length) (i := sk t (p + 6)) (by omega) (by unfold dgE at hi; omega))
    rw [hv', show ((nI (vF t (sk t (p + 6)) (dgE t (sk t (p + 6)) - sk t (p + 6))) : Int32) < 1) = (nI (vF t (sk t (p + 6)) (dgE t (sk t (p + 6)) - sk t (p + 6))) < nI 1) from rfl, nI_ltI (by omega) (by decide)]
    refine ⟨fun z5 => no (Or.inr (Or.inl z5)), fun z5 => ?_⟩
    rw [show ((nI (vF t (sk t (p + 6)) (dgE t (sk t (p + 6)) - sk t (p + 6))) : Int32) ≤ 10) = (nI (vF t (sk t (p + 6)) (dgE t (sk t (p + 6)) - sk t (p + 6))) ≤ nI 10) from rfl, nI_leI (by omega) (by decide)]
    refine ⟨fun z6 => ?_, fun z6 => no (Or.inr (Or.inr (by omega)))⟩
    refine (s_startAnew (d := d + 3) isF_3 z6).mono ?_
    rintro m2 ⟨hF2, hS2⟩
    have hSA2 : Same mem m2 [3, 10] := (hS0.wd (by simp)).tr (hS2.wd (by simp))
    refine (s_readEnd (d := d) (e := dgE t (sk t (p + 6))) (h.same hSA2 (by decide) (by decide)) (by rw [hS2 10 (by decide)]; exact e0) (by omega)).mono ?_
    rintro r5 m5 ⟨hr5, hS5⟩
    have hSS : Same mem m5 [3, 4, 10] := (hSA2.wd (by simp)).tr (hS5.wd (by simp))
    have hcond : ¬ (2 < dgE t (sk t (p + 6)) - sk t (p + 6) ∨ vF t (sk t (p + 6)) (dgE t (sk t (p + 6)) - sk t (p + 6)) < 1 ∨ 10 < vF t (sk t (p + 6)) (dgE t (sk t (p + 6)) - sk t (p + 6))) := fun q => by omega
    have hq : ∀ q, reF t (dgE t (sk t (p + 6))) = .inl q ∨ reF t (dgE t (sk t (p + 6))) = .inr q → q ≤ t.length := by
      intro q hq
      have hs2 := sk_le (t := t) (e := dgE t (sk t (p + 6))) hdl
      unfold reF at hq
      split at hq
      · rename_i y
        rcases hq with hq | hq
        · cases hq
        · cases hq; omega
      · rcases hq with hq | hq
        · cases hq; exact hs2
        · cases hq
    rcases hr5 with ⟨q, y1, y2, y3⟩ | ⟨q, y1, y2, y3⟩
    · have := hq q (Or.inl y1)
      refine ⟨Or.inl ⟨q, ?_, y2, by omega⟩, ⟨q, y3, by omega⟩, hSS⟩
      rw [rpF, if_pos z3, if_pos z4, ifP_f hcond, y1]
    · have := hq q (Or.inr y1)
      refine ⟨Or.inr ⟨q, _, this, by omega, z6, ?_, y2, y3, hF2.same hS5 (by decide) (by decide)⟩, ⟨q, y3, by omega⟩, hSS⟩
      rw [rpF, if_pos z3, if_pos z4, ifP_f hcond, y1]
  have key : ∀ f j (v : Int32), t.length ≤ j + f → sk t (p + 6) ≤ j → j ≤ t.length → dgE t (sk t (p + 6)) = dgE t j → (j - sk t (p + 6) ≤ 2 → v = nI (vF t (sk t (p + 6)) (j - sk t (p + 6)))) → ∀ m0 : Mem, m0 10 0 = nI j → Same mem m0 [10] → Wp shX m_Reader_readPoints (d + 4) 50 [some (.ref 10), some (.ref 8), some (.ref 3), some (.int (nI (sk t (p + 6)))), some (.int v)] [] m0 (QI (fun r m' => ((∃ e, rpF t p = .inl e ∧ r = nI e ∧ e < 1000) ∨ (∃ q v, q ≤ t.length ∧ 1 ≤ v ∧ v ≤ 10 ∧ rpF t p = .inr (v, sk t q) ∧ r = -1 ∧ m' 10 0 = nI q ∧ Fam m' 3 v [])) ∧ (∃ q, m' 10 0 = nI q ∧ q < 1000) ∧ Same mem m' [3, 4, 10])) := by
    intro f
    induction f with
    | zero =>
      intro j v hf hkj hj hE hv m0 e0 hS0
      have hno : ¬ dgB t j = true := fun q => by have := dgB_lt q; omega
      have hEj : dgE t (sk t (p + 6)) = j := by rw [hE, dgE, enN_f hno]
      refine b_Reader_readPoints_50 isF_3 ⟨fun _ => fin v m0 hS0 (by rw [hEj]; exact e0) (by rw [hEj]; exact hv), fun c => absurd (by rw [hS0 8 (by decide), h.1, e0]; exact nI_le (by omega) (by omega)) c⟩
    | succ f ih =>
      intro j v hf hkj hj hE hv m0 e0 hS0
      have hX0 := h.same hS0 (by decide) (by decide)
      refine b_Reader_readPoints_50 isF_3 ⟨fun c => ?_, fun c => ?_⟩
      · rw [hX0.1, e0, nI_leI (by omega) (by omega)] at c
        have hno : ¬ dgB t j = true := fun q => by have := dgB_lt q; omega
        have hEj : dgE t (sk t (p + 6)) = j := by rw [hE, dgE, enN_f hno]
        exact fin v m0 hS0 (by rw [hEj]; exact e0) (by rw [hEj]; exact hv)
      · rw [hX0.1, e0, nI_leI (by omega) (by omega)] at c
        rw [e0, tp_dg hX0 (by omega)]
        refine ⟨fun z => ?_, fun z => ?_⟩
        · have hEj : dgE t (sk t (p + 6)) = j := by rw [hE, dgE, enN_f z]
          exact fin v m0 hS0 (by rw [hEj]; exact e0) (by rw [hEj]; exact hv)
        · have zz := z
          rw [dgB, Bool.and_eq_true, Bool.and_eq_true, decide_eq_true_iff, decide_eq_true_iff, decide_eq_true_iff] at zz
          rw [tp_at hX0 (by omega), if_pos zz.1, nI_1]
          refine ih (j + 1) _ (by omega) (by omega) (by omega) (by rw [hE, dgE, dgE, enN_t z (by omega)]) (fun q => ?_) _ up2_at (hS0.tr (Same.up (by simp)))
          rw [hv (by omega), show (10 : Int32) = nI 10 from rfl, pk_mul, nI_add, show (48 : Int32) = nI 48 from rfl, pk_sub (by omega)]
          congr 1
          rw [show j + 1 - sk t (p + 6) = (j - sk t (p + 6)) + 1 by omega, vF, show sk t (p + 6) + (j - sk t (p + 6)) = j by omega]
          omega
  exact key t.length (sk t (p + 6)) 0 (by omega) (Nat.le_refl _) hsk rfl (fun _ => by rw [Nat.sub_self]; exact nI_0.symm) m1 q1 hS1'
theorem s_read (h : XT mem t) : CI shX m_Reader_read (d + 6) [.ref 10, .ref 8, .ref 3] mem (fun r m' => ((∃ e, txF t = .inl e ∧ r = nI e ∧ e < 1000) ∨ (∃ q, txF t = .inr q ∧ r = -1 ∧ 1 ≤ q.1 ∧ q.1 ≤ 10 ∧ GdS q.1 q.2 ∧ Fam m' 3 q.1 q.2)) ∧ Same mem m' [3, 4, 10]) := by
  have hl := h.2.1
  refine e_Reader_read isF_3 ?_
  have hSA : Same mem (up2 mem 10 0 0) [10] := Same.up (by simp)
  refine (s_startAnew (d := d + 5) (n := 6) isF_3 (by decide)).mono ?_
  rintro m1 ⟨hF1, hS1⟩
  have hS1' : Same mem m1 [3, 10] := (hSA.wd (by simp)).tr (hS1.wd (by simp))
  refine (s_skipBlanks (d := d + 3) (p := 0) (h.same hS1' (by decide) (by decide)) (by rw [hS1 10 (by decide), up2_at]; exact nI_0.symm) (by decide)).mono ?_
  rintro m2 ⟨p2, hS2⟩
  have hS2' : Same mem m2 [3, 10] := hS1'.tr (hS2.wd (by simp))
  have hX2 := h.same hS2' (by decide) (by decide)
  have hF2 := hF1.same hS2 (by decide) (by decide)
  have hsk := sk_le (t := t) (e := 0) (Nat.zero_le _)
  -- the loop over sets
  have loop : ∀ (n' : Nat) (O : Nat ⊕ (Nat × List Nat)), 1 ≤ n' → n' ≤ 10 → ∀ f i p (T : List Nat), i + f = 17 → T.length = i → T.length ≤ 16 → GdS n' T → p ≤ t.length → (∀ e, psF t n' f p T = .inl e → O = .inl e) → (∀ S', psF t n' f p T = .inr S' → O = .inr (n', S')) → ∀ m0 : Mem, m0 10 0 = nI p → Fam m0 3 n' T → Same mem m0 [3, 4, 10] → Wp shX m_Reader_read (d + 6) 45 [some (.ref 10), some (.ref 8), some (.ref 3), some (.int (-1)), some (.int (nI i))] [] m0 (QI (fun r m' => ((∃ e, O = .inl e ∧ r = nI e ∧ e < 1000) ∨ (∃ q, O = .inr q ∧ r = -1 ∧ 1 ≤ q.1 ∧ q.1 ≤ 10 ∧ GdS q.1 q.2 ∧ Fam m' 3 q.1 q.2)) ∧ Same mem m' [3, 4, 10])) := by
    intro n' O hn1 hn2 f
    induction f with
    | zero => intro i p T hif hTi hT16; omega
    | succ f ih =>
      intro i p T hif hTi hT16 hG hp hO1 hO2 m0 e0 hF0 hS0
      have hX0 := h.same hS0 (by decide) (by decide)
      refine b_Reader_read_45 isF_3 ⟨fun c => absurd c (by rw [show (16 : Int32) = nI 16 from rfl, nI_ltI (by decide) (by omega)]; omega), fun _ => ⟨fun c => absurd rfl c, fun _ => ⟨fun c => ?_, fun c => ?_⟩⟩⟩
      · rw [hX0.1, e0, nI_leI (by omega) (by omega)] at c
        exact ⟨Or.inr ⟨(n', T), hO2 T (by rw [psF, if_neg (by omega)]), rfl, hn1, hn2, hG, hF0⟩, hS0⟩
      · rw [hX0.1, e0, nI_leI (by omega) (by omega)] at c
        refine (s_readSet (d := d) hX0 hF0 hT16 e0 (by omega)).mono ?_
        rintro r m3 ⟨hr, ⟨q, q1, q2⟩, hS3⟩
        have hS3' := hS0.tr hS3
        refine (s_skipBlanks (d := d + 3) (h.same hS3' (by decide) (by decide)) q1 q2).mono ?_
        rintro m4 ⟨p4, hS4⟩
        have hS4' : Same mem m4 [3, 4, 10] := hS3'.tr (hS4.wd (by simp))
        rw [nI_1]
        rcases hr with ⟨e, y1, y2, y3⟩ | ⟨q', x, y0, y1, y2, y3, y4, y5, y6, y7, y8⟩
        · have hout := hO1 e (by rw [psF, if_pos (by omega), y1])
          rw [y2]
          have hm1 := nI_m1 (show e < 2 ^ 31 by omega)
          refine b_Reader_read_45 isF_3 ⟨fun _ => ⟨Or.inl ⟨e, hout, rfl, y3⟩, hS4'⟩, fun _ => ⟨fun _ => ⟨Or.inl ⟨e, hout, rfl, y3⟩, hS4'⟩, fun z => absurd z hm1⟩⟩
        · have eq' : q = q' := (nI_inj (by omega) (by omega)).mp (q1.symm.trans y7)
          subst eq'
          rw [y6]
          refine ih (i + 1) (sk t q) (T ++ [x]) (by omega) (by rw [List.length_append, hTi]; rfl) (by rw [List.length_append]; exact y4) (hG.app y4 y1 y2 y3) (sk_le y0) (fun e he => hO1 e (by rw [psF, if_pos (by omega), y5]; exact he)) (fun S' he => hO2 S' (by rw [psF, if_pos (by omega), y5]; exact he)) m4 p4 (y8.same hS4 (by decide) (by decide)) hS4'
  refine (s_isWord (d := d + 1) (tx := 0) (W := wPts) (by decide) rfl hX2 p2 (by omega)).mono ?_
  rintro w mw ⟨hw, rfl⟩
  rcases hw with ⟨hWd, w2⟩ | ⟨hWd, w2⟩
  · refine ⟨fun z => absurd (w2.symm.trans z) (by decide), fun _ => ?_⟩
    have h6 := (hWd.1 5 (by decide)).1
    refine (s_readPoints (d := d + 1) hX2 hF2 p2 (by omega)).mono ?_
    rintro r m3 ⟨hr, ⟨q, q1, q2⟩, hS3⟩
    have hS3' : Same mem m3 [3, 4, 10] := (hS2'.wd (by simp)).tr hS3
    refine (s_skipBlanks (d := d + 3) (h.same hS3' (by decide) (by decide)) q1 q2).mono ?_
    rintro m4 ⟨p4, hS4⟩
    have hS4' : Same mem m4 [3, 4, 10] := hS3'.tr (hS4.wd (by simp))
    rcases hr with ⟨e, y1, y2, y3⟩ | ⟨q', v, y0, y1, y2, y5, y6, y7, y8⟩
    · have hout : txF t = .inl e := by rw [txF, ifP_t hWd, y1]
      rw [y2]
      have hm1 := nI_m1 (show e < 2 ^ 31 by omega)
      refine b_Reader_read_45 isF_3 ⟨fun _ => ⟨Or.inl ⟨e, hout, rfl, y3⟩, hS4'⟩, fun _ => ⟨fun _ => ⟨Or.inl ⟨e, hout, rfl, y3⟩, hS4'⟩, fun z => absurd z hm1⟩⟩
    · have eq' : q = q' := (nI_inj (by omega) (by omega)).mp (q1.symm.trans y7)
      subst eq'
      rw [y6]
      have := loop v (txF t) y1 y2 17 0 (sk t q) [] rfl rfl (by decide) GdS.nil (sk_le y0) (fun e he => by rw [txF, ifP_t hWd, y5]; simp only []; rw [he]) (fun S' he => by rw [txF, ifP_t hWd, y5]; simp only []; rw [he]) m4 p4 (y8.same hS4 (by decide) (by decide)) hS4'
      rw [nI_0] at this
      exact this
  · refine ⟨fun _ => ?_, fun z => absurd w2 z⟩
    have hnb : ¬ blB t (sk t 0) = true := by
      have := enN_end (P := blB t) (m := t.length) (i := 0) (fun i hi => blB_lt hi)
      unfold sk
      rw [this]; decide
    refine (s_skipBlanks (d := d + 3) hX2 p2 (by omega)).mono ?_
    rintro m4 ⟨p4, hS4⟩
    have hS4' : Same mem m4 [3, 4, 10] := (hS2'.wd (by simp)).tr (hS4.wd (by simp))
    have esk : sk t (sk t 0) = sk t 0 := by
      show enN (blB t) t.length (sk t 0) = sk t 0
      exact enN_f hnb
    rw [esk] at p4
    have := loop 6 (txF t) (by decide) (by decide) 17 0 (sk t 0) [] rfl rfl (by decide) GdS.nil hsk (fun e he => by rw [txF, ifP_f hWd, he]) (fun S' he => by rw [txF, ifP_f hWd, he]) m4 p4 (hF2.same hS4 (by decide) (by decide)) hS4'
    rw [nI_0] at this
    exact this
noncomputable def aText (t : List Nat) : Int32 := match txF t with
  | .inl e => -4 - nI e
  | .inr q => nI q.2.length
noncomputable def tN (t : List Nat) (n : Nat) : Nat := match txF t with
  | .inl _ => n
  | .inr q => q.1
noncomputable def tS (t S : List Nat) : List Nat := match txF t with
  | .inl _ => S
  | .inr q => q.2
noncomputable def tH (t : List Nat) (H : List (List Nat)) : List (List Nat) := match txF t with
  | .inl _ => H
  | .inr _ => []
theorem XT.nil {m' : Mem} (h : m' 8 1 = 0) : XT m' [] := ⟨by rw [h]; exact nI_0.symm, by decide, fun i hi => absurd hi (Nat.not_lt_zero _), fun i => by simp⟩
theorem x_text (h : Fam mem 1 n S) (hX : XH mem H) (ht : XT mem t) : CI shX m_PS_text (d + 7) [.ref 0] mem (fun r m' => r = aText t ∧ Fam m' 1 (tN t n) (tS t S) ∧ XH m' (tH t H) ∧ XT m' [] ∧ ((tN t n = n ∧ tS t S = S ∧ tH t H = H) ∨ (1 ≤ tN t n ∧ tN t n ≤ 10 ∧ GdS (tN t n) (tS t S) ∧ tH t H = [])) ∧ Same mem m' [1, 2, 3, 4, 5, 8, 10]) := by
  refine e_PS_text ?_
  refine (s_read (d := d) ht).mono ?_
  rintro r m1 ⟨hr, hS1⟩
  have hSA : Same mem (up2 m1 8 1 0) [3, 4, 8, 10] := (hS1.wd (by simp)).tr (Same.up (by simp))
  have hSB : Same m1 (up2 m1 8 1 0) [8] := Same.up (by simp)
  have hXA : XT (up2 m1 8 1 0) [] := XT.nil up2_at
  rcases hr with ⟨e, y1, y2, y3⟩ | ⟨q, y1, y2, y3, y4, y5, y6⟩
  · have hm1 := nI_m1 (show e < 2 ^ 31 by omega)
    refine ⟨fun z => absurd (y2.symm.trans z) hm1, fun _ => ?_⟩
    simp only [aText, tN, tS, tH, y1]
    exact ⟨by rw [y2], h.same hSA (by decide) (by decide), hX.same hSA (by decide) (by decide) (by decide), hXA, Or.inl (by simp), hSA.wd (by simp)⟩
  · refine ⟨fun _ => ?_, fun z => absurd y2 z⟩
    simp only [aText, tN, tS, tH, y1]
    refine (s_copyFrom (d := d + 4) isF_1 isF_3 (by decide) (y6.same hSB (by decide) (by decide))).mono ?_
    rintro m2 ⟨hF2, hS2⟩
    have hX2 := (hX.same hSA (by decide) (by decide) (by decide)).same hS2 (by decide) (by decide) (by decide)
    refine e_History_forget ?_
    have hSC : Same m2 (up2 m2 5 3 0) [5] := Same.up (by simp)
    obtain ⟨nx, a, b, c, e, g⟩ := hX2
    refine ⟨by rw [up2_ne (by decide)]; exact hF2.2.1, hF2.same hSC (by decide) (by decide), ⟨nx, a, by rw [up2_nj (by decide)]; exact b, by rw [up2_at]; exact nI_0.symm, by decide, fun j hj => absurd hj (Nat.not_lt_zero _)⟩, (hXA.same hS2 (by decide) (by decide)).same hSC (by decide) (by decide), Or.inr ⟨y3, y4, y5, by simp⟩, ?_⟩
    exact ((hSA.wd (by simp)).tr (hS2.wd (by simp))).tr (hSC.wd (by simp))
end RD2
