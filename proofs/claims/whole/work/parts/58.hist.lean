/-! what is kept between calls: sets, acts that can be undone, the tape -/
def hp (H : List (List Nat)) (S : List Nat) : List (List Nat) := (S :: H).take 12
theorem hp_len (H : List (List Nat)) (S : List Nat) : (hp H S).length = min 12 (H.length + 1) := by rw [hp, List.length_take, List.length_cons]
theorem hp_0 (H : List (List Nat)) (S : List Nat) : (hp H S).getD 0 [] = S := rfl
theorem hp_s {H : List (List Nat)} {S : List Nat} {j : Nat} (h : j + 1 < 12) : (hp H S).getD (j + 1) [] = H.getD j [] := by
  rw [hp, List.getD_eq_getElem?_getD, List.getElem?_take, if_pos h, List.getElem?_cons_succ, List.getD_eq_getElem?_getD]
def XB (mem : Mem) (p : Nat) (T : List Nat) : Prop := mem 6 p = nI T.length ∧ ∀ i, i < T.length → mem 7 (p * 16 + i) = nI (T.getD i 0)
/-- the class's ring -/
def XH (mem : Mem) (H : List (List Nat)) : Prop := ∃ nx, nx < 12 ∧ mem 5 2 = nI nx ∧ mem 5 3 = nI H.length ∧ H.length ≤ 12 ∧ ∀ j, j < H.length → (H.getD j []).length ≤ 16 ∧ XB mem ((nx + 11 - j) % 12) (H.getD j [])
theorem XH.same {mem m' : Mem} {H : List (List Nat)} {cs : List Nat} (h : XH mem H) (hs : Same mem m' cs) (h5 : 5 ∉ cs) (h6 : 6 ∉ cs) (h7 : 7 ∉ cs) : XH m' H := by
  obtain ⟨nx, a, b, c, e, g⟩ := h
  refine ⟨nx, a, by rw [hs 5 h5]; exact b, by rw [hs 5 h5]; exact c, e, fun j hj => ⟨(g j hj).1, by rw [hs 6 h6]; exact (g j hj).2.1, fun i hi => by rw [hs 7 h7]; exact (g j hj).2.2 i hi⟩⟩
def Blk (mem : Mem) (b n : Nat) (T : List Nat) : Prop := mem 3 b = nI n ∧ mem 3 (b + 1) = nI T.length ∧ ∀ i, i < T.length → mem 3 (b + 2 + i) = nI (T.getD i 0)
theorem Blk.of {mem m' : Mem} {b b' n : Nat} {T : List Nat} (h : Blk mem b n T) (hT : T.length ≤ 16) (he : ∀ k, k < 18 → m' 3 (b' + k) = mem 3 (b + k)) : Blk m' b' n T := by
  obtain ⟨h1, h2, h3⟩ := h
  refine ⟨?_, ?_, fun i hi => ?_⟩
  · have := he 0 (by decide); rw [Nat.add_zero, Nat.add_zero] at this; rw [this]; exact h1
  · rw [he 1 (by decide)]; exact h2
  · rw [Nat.add_assoc, he (2 + i) (by omega), ← Nat.add_assoc]; exact h3 i hi
/-- the reference's -/
def MH (mem : Mem) (n : Nat) (H : List (List Nat)) : Prop := mem 0 4 = nI H.length ∧ H.length ≤ 12 ∧ ∀ j, j < H.length → (H.getD j []).length ≤ 16 ∧ Blk mem (18 * (H.length - 1 - j)) n (H.getD j [])
theorem r12a : ∀ x, x < 12 → (nI x + 1) - (nI x + 1) / 12 * 12 = nI ((x + 1) % 12) := by decide +kernel
theorem r12b : ∀ x, x < 12 → ((nI x + 12) - 1) - ((nI x + 12) - 1) / 12 * 12 = nI ((x + 11) % 12) := by decide +kernel
theorem r12c : ∀ x, x < 13 → (if (12 : Int32) < nI x + 1 then 12 else nI x + 1) = nI (min 12 (x + 1)) := by decide +kernel
theorem r12d : ∀ x, x < 12 → (if nI (x + 1) - 1 < 0 then 0 else nI (x + 1) - 1) = nI x := by decide +kernel
section HIS
variable {d n : Nat} {S T : List Nat} {H : List (List Nat)} {mem : Mem}
theorem Fam.aFs {f i : Nat} (h : Fam mem f n S) (hi : i < S.length) : atF mem f (nI i) = nI (S.getD i 0) := h.aF hi
theorem s_keep (h : Fam mem 1 n S) (hl : S.length ≤ 16) (hX : XH mem H) : CV shX m_History_keep (d + 1) [.ref 5, .ref 1] mem (fun m' => XH m' (hp H S) ∧ Same mem m' [5, 6, 7]) := by
  obtain ⟨nx, a, b, c, e, g⟩ := hX
  refine e_History_keep isF_1 ⟨by rw [b]; exact vp_in_nI a (by decide), ?_⟩
  have emin : (if 16 < mem 1 1 then 16 else mem 1 1) = nI S.length := by
    rw [h.2.1, if_neg (show ¬ (16 : Int32) < nI S.length from nI_nlt (a := 16) (by omega) (by decide))]
  rw [emin, b, nI_clamp (by omega)]
  have hS0 : Same mem (up2 mem 6 nx (nI S.length)) [5, 6, 7] := Same.up (by simp)
  refine downInd (P := fun i => ∀ m0 : Mem, Same mem m0 [6, 7] → m0 6 = (up2 mem 6 nx (nI S.length)) 6 → (∀ k, k < i → m0 7 (nx * 16 + k) = nI (S.getD k 0)) → (∀ k, (∀ q, q < 16 → k ≠ nx * 16 + q) → m0 7 k = mem 7 k) → Wp shX m_History_keep (d + 1) 20 [some (.ref 5), some (.ref 1), some (.int (nI i))] [] m0 (QV (fun m' => XH m' (hp H S) ∧ Same mem m' [5, 6, 7]))) S.length ?_ ?_ 0 (Nat.zero_le _) _ (Same.up (by simp)) rfl (fun k hk => absurd hk (Nat.not_lt_zero _)) (fun k _ => by rw [up2_ne (by decide)])
  · intro m0 hS h6 h7 h7'
    have e5 : m0 5 = mem 5 := hS 5 (by decide)
    have e6 : m0 6 nx = nI S.length := by rw [h6, up2_at]
    refine b_History_keep_20 isF_1 ⟨by rw [e5, b]; exact vp_in_nI a (by decide), fun _ => ?_, fun q => absurd (by rw [e5, b, nI_clamp (by omega), e6]; exact nI_le (Nat.le_refl _) (by omega)) q⟩
    have e53 : ∀ v : Int32, (up2 m0 5 2 v) 5 3 = nI H.length := fun v => by rw [up2_nj (by decide), e5]; exact c
    rw [e53, e5, b, r12a nx a, r12c H.length (by omega)]
    refine ⟨⟨(nx + 1) % 12, by omega, by rw [up2_nj (by decide), up2_at], by rw [up2_at, hp_len], by rw [hp_len]; omega, fun j hj => ?_⟩, ?_⟩
    · rw [hp_len] at hj
      have s6 : ∀ k, (up2 (up2 m0 5 2 (nI ((nx + 1) % 12))) 5 3 (nI (min 12 (H.length + 1)))) 6 k = m0 6 k := fun k => by rw [up2_ne (by decide), up2_ne (by decide)]
      have s7 : ∀ k, (up2 (up2 m0 5 2 (nI ((nx + 1) % 12))) 5 3 (nI (min 12 (H.length + 1)))) 7 k = m0 7 k := fun k => by rw [up2_ne (by decide), up2_ne (by decide)]
      cases j with
      | zero =>
        rw [hp_0]
        refine ⟨hl, ?_, fun i hi => ?_⟩
        · rw [s6, show ((nx + 1) % 12 + 11 - 0) % 12 = nx by omega]; exact e6
        · rw [s7, show ((nx + 1) % 12 + 11 - 0) % 12 = nx by omega]; exact h7 i hi
      | succ j =>
        rw [hp_s (by omega)]
        obtain ⟨g1, g2, g3⟩ := g j (by omega)
        refine ⟨g1, ?_, fun i hi => ?_⟩
        · rw [s6, show ((nx + 1) % 12 + 11 - (j + 1)) % 12 = (nx + 11 - j) % 12 by omega, h6, up2_nj (by omega)]; exact g2
        · rw [s7, show ((nx + 1) % 12 + 11 - (j + 1)) % 12 = (nx + 11 - j) % 12 by omega, h7' _ (fun q hq => by omega)]; exact g3 i hi
    · refine (hS.wd (by simp)).tr (Same.tr (m2 := up2 m0 5 2 (nI ((nx + 1) % 12))) (Same.up (by simp)) (Same.up (by simp)))
  · intro i hi ih m0 hS h6 h7 h7'
    have e5 : m0 5 = mem 5 := hS 5 (by decide)
    have e6 : m0 6 nx = nI S.length := by rw [h6, up2_at]
    have hF := h.same hS (by decide) (by decide)
    refine b_History_keep_20 isF_1 ⟨by rw [e5, b]; exact vp_in_nI a (by decide), fun q => absurd q (by rw [e5, b, nI_clamp (by omega), e6]; exact nI_ge hi (by omega)), fun _ => ⟨?_, ?_⟩⟩
    · rw [e5, b, show (16 : Int32) = nI 16 from rfl, pk_mul, nI_add]; exact vp_in_nI (by omega) (by decide)
    · rw [e5, b, show (16 : Int32) = nI 16 from rfl, pk_mul, nI_add, nI_clamp (by omega), hF.aF hi, nI_1]
      refine ih _ (hS.tr (Same.up (by simp))) (by rw [up2_ne (by decide)]; exact h6) (fun k hk => ?_) (fun k hk => ?_)
      · by_cases q : k = i
        · subst q; rw [up2_at]
        · rw [up2_nj (by omega)]; exact h7 k (by omega)
      · rw [up2_nj (hk i (by omega))]; exact h7' k hk
theorem s_restore {T' : List Nat} {H' : List (List Nat)} (h : Fam mem 1 n S) (hX : XH mem (T' :: H')) (hs : ∀ i, T'.getD i 0 < 1024) : CV shX m_History_restore (d + 1) [.ref 5, .ref 1] mem (fun m' => Fam m' 1 n T' ∧ XH m' H' ∧ Same mem m' [1, 2, 5]) := by
  obtain ⟨nx, a, b, c, e, g⟩ := hX
  rw [List.length_cons] at c e
  have e53 : ∀ v : Int32, (up2 mem 5 2 v) 5 3 = nI (H'.length + 1) := fun v => by rw [up2_nj (by decide)]; exact c
  refine e_History_restore isF_1 ?_
  rw [e53, b, r12b nx a, r12d H'.length (by omega)]
  obtain ⟨g1, g2, g3⟩ := g 0 (by rw [List.length_cons]; omega)
  have eT : (T' :: H').getD 0 [] = T' := rfl
  rw [eT] at g1 g2 g3
  rw [Nat.sub_zero] at g2 g3
  have hS0 : Same mem (up2 (up2 (up2 mem 5 2 (nI ((nx + 11) % 12))) 5 3 (nI H'.length)) 1 1 0) [1, 2, 5] := Same.tr (m2 := up2 (up2 mem 5 2 (nI ((nx + 11) % 12))) 5 3 (nI H'.length)) (Same.tr (m2 := up2 mem 5 2 (nI ((nx + 11) % 12))) (Same.up (by simp)) (Same.up (by simp))) (Same.up (by simp))
  have k52 : (up2 (up2 (up2 mem 5 2 (nI ((nx + 11) % 12))) 5 3 (nI H'.length)) 1 1 0) 5 2 = nI ((nx + 11) % 12) := by rw [up2_ne (by decide), up2_nj (by decide), up2_at]
  have k53 : (up2 (up2 (up2 mem 5 2 (nI ((nx + 11) % 12))) 5 3 (nI H'.length)) 1 1 0) 5 3 = nI H'.length := by rw [up2_ne (by decide), up2_at]
  have kF : Fam (up2 (up2 (up2 mem 5 2 (nI ((nx + 11) % 12))) 5 3 (nI H'.length)) 1 1 0) 1 n [] := ⟨by rw [up2_nj (by decide), up2_ne (by decide), up2_ne (by decide)]; exact h.1, by rw [up2_at]; rfl, by decide, h.2.2.2.1, fun i hi => absurd hi (Nat.not_lt_zero _), fun i => by simp⟩
  generalize (up2 (up2 (up2 mem 5 2 (nI ((nx + 11) % 12))) 5 3 (nI H'.length)) 1 1 0) = mA at hS0 k52 k53 kF
  refine downInd (P := fun i => ∀ m0 : Mem, Fam m0 1 n (T'.take i) → Same mA m0 [1, 2] → Wp shX m_History_restore (d + 1) 37 [some (.ref 5), some (.ref 1), some (.int (nI i))] [] m0 (QV (fun m' => Fam m' 1 n T' ∧ XH m' H' ∧ Same mem m' [1, 2, 5]))) T'.length ?_ ?_ 0 (Nat.zero_le _) mA (by rw [List.take_zero]; exact kF) Same.rf
  · intro m0 hF hS
    rw [List.take_length] at hF
    have e5 : m0 5 = mA 5 := hS 5 (by decide)
    have e6 : m0 6 ((nx + 11) % 12) = nI T'.length := by rw [hS 6 (by decide), hS0 6 (by decide)]; exact g2
    refine b_History_restore_37 isF_1 ⟨by rw [e5, k52]; exact vp_in_nI (by omega) (by decide), fun _ => ⟨hF, ⟨(nx + 11) % 12, by omega, by rw [e5]; exact k52, by rw [e5]; exact k53, by omega, fun j hj => ?_⟩, hS0.tr (hS.wd (by simp))⟩, fun q => absurd (by rw [e5, k52, nI_clamp (by omega), e6]; exact nI_le (Nat.le_refl _) (by omega)) q⟩
    obtain ⟨q1, q2, q3⟩ := g (j + 1) (by rw [List.length_cons]; omega)
    have eH : (T' :: H').getD (j + 1) [] = H'.getD j [] := rfl
    rw [eH] at q1 q2 q3
    refine ⟨q1, ?_, fun i hi => ?_⟩
    · rw [hS 6 (by decide), hS0 6 (by decide), show ((nx + 11) % 12 + 11 - j) % 12 = (nx + 11 - (j + 1)) % 12 by omega]; exact q2
    · rw [hS 7 (by decide), hS0 7 (by decide), show ((nx + 11) % 12 + 11 - j) % 12 = (nx + 11 - (j + 1)) % 12 by omega]; exact q3 i hi
  · intro i hi ih m0 hF hS
    have e5 : m0 5 = mA 5 := hS 5 (by decide)
    have e6 : m0 6 ((nx + 11) % 12) = nI T'.length := by rw [hS 6 (by decide), hS0 6 (by decide)]; exact g2
    refine b_History_restore_37 isF_1 ⟨by rw [e5, k52]; exact vp_in_nI (by omega) (by decide), fun q => absurd q (by rw [e5, k52, nI_clamp (by omega), e6]; exact nI_ge hi (by omega)), fun _ => ⟨?_, ?_⟩⟩
    · rw [e5, k52, show (16 : Int32) = nI 16 from rfl, pk_mul, nI_add]; exact vp_in_nI (by omega) (by decide)
    · rw [e5, k52, show (16 : Int32) = nI 16 from rfl, pk_mul, nI_add, nI_clamp (by omega), hS 7 (by decide), hS0 7 (by decide), g3 i hi]
      refine (s_append isF_1 hF (by rw [List.length_take]; omega) (hs i)).mono ?_
      rintro m1 ⟨hF1, hS1⟩
      rw [nI_1]
      exact ih m1 (by rw [take_succ_getD hi]; exact hF1) (hS.tr hS1)
theorem s_become {f n' : Nat} (hf : IsF f) (hc : f ∉ [1, 2, 5, 6, 7] ∧ f + 1 ∉ [1, 2, 5, 6, 7]) (h : Fam mem 1 n S) (hl : S.length ≤ 16) (hX : XH mem H) (hT : Fam mem f n' T) : CV shX m_PS_become (d + 2) [.ref 0, .ref f] mem (fun m' => Fam m' 1 n T ∧ XH m' (hp H S) ∧ Same mem m' [1, 2, 5, 6, 7]) := by
  refine e_PS_become hf ?_
  refine (s_keep h hl hX).mono ?_
  rintro m1 ⟨hX1, hS1⟩
  have hF1 := h.same hS1 (by decide) (by decide)
  have hT1 : Fam m1 f n' T := hT.same (hS1.wd (cs' := [1, 2, 5, 6, 7]) (by decide)) hc.1 hc.2
  refine (s_copySetsFrom isF_1 hf (fun e => hc.1 (by rw [← e]; decide)) hT1 (n' := n) hF1.1 hF1.2.2.2.1).mono ?_
  rintro m2 ⟨hF2, hS2⟩
  exact ⟨hF2, hX1.same hS2 (by decide) (by decide) (by decide), (hS1.wd (by decide)).tr (hS2.wd (by decide))⟩
/-! the reference -/
/-- an act leaves the tape and the words -/
def Kt (mem m' : Mem) : Prop := m' 16 = mem 16 ∧ m' 17 = mem 17 ∧ m' 0 26 = mem 0 26
theorem Kt.tr {a b c : Mem} (h1 : Kt a b) (h2 : Kt b c) : Kt a c := ⟨h2.1.trans h1.1, h2.2.1.trans h1.2.1, h2.2.2.trans h1.2.2⟩
theorem Kt.rf {a : Mem} : Kt a a := ⟨rfl, rfl, rfl⟩
theorem Keep.kt {a b : Mem} (h : Keep a b) : Kt a b := ⟨h.2.2.1, h.2.2.2.1, h.2.2.2.2.2⟩
theorem MH.keep {m' : Mem} (h : MH mem n H) (k : Keep mem m') : MH m' n H := by
  obtain ⟨a, b, c⟩ := h
  refine ⟨by rw [k.2.2.2.2.1]; exact a, b, fun j hj => ⟨(c j hj).1, (c j hj).2.of (c j hj).1 (fun q _ => by rw [k.2.1])⟩⟩
theorem s_keeps (h : Now mem n S) (hM : MH mem n H) : CV shM m_Mo_keeps d [.ref 0] mem (fun m' => MH m' n (hp H S) ∧ m' 1 = mem 1 ∧ (∀ c, c ≠ 0 → c ≠ 3 → m' c = mem c) ∧ ∀ j, j ≠ 4 → m' 0 j = mem 0 j) := by
  have hl := h.2.2.1
  obtain ⟨a, b, c⟩ := hM
  -- the copy of now behind A blocks
  have copy : ∀ (A : Nat) (m0 : Mem), A < 12 → m0 0 4 = nI A → (∀ c, c ≠ 0 → c ≠ 3 → m0 c = mem c) → (∀ j, j ≠ 4 → m0 0 j = mem 0 j) → (hp H S).length = A + 1 → (∀ j, j < A → ((hp H S).getD (j + 1) []).length ≤ 16 ∧ Blk m0 (18 * (A - 1 - j)) n ((hp H S).getD (j + 1) [])) → Wp shM m_Mo_keeps d 52 [some (.ref 0), some (.int 0)] [] m0 (QV (fun m' => MH m' n (hp H S) ∧ m' 1 = mem 1 ∧ (∀ c, c ≠ 0 → c ≠ 3 → m' c = mem c) ∧ ∀ j, j ≠ 4 → m' 0 j = mem 0 j)) := by
    intro A m0 hA h4 hc hj hlen hB
    refine downInd (P := fun k => ∀ m1 : Mem, m1 0 = m0 0 → (∀ c, c ≠ 3 → m1 c = m0 c) → (∀ q, q < 18 * A → m1 3 q = m0 3 q) → (∀ q, q < k → m1 3 (18 * A + q) = mem 1 q) → Wp shM m_Mo_keeps d 52 [some (.ref 0), some (.int (nI k))] [] m1 (QV (fun m' => MH m' n (hp H S) ∧ m' 1 = mem 1 ∧ (∀ c, c ≠ 0 → c ≠ 3 → m' c = mem c) ∧ ∀ j, j ≠ 4 → m' 0 j = mem 0 j))) 18 ?_ ?_ 0 (Nat.zero_le _) m0 rfl (fun _ _ => rfl) (fun _ _ => rfl) (fun q hq => absurd hq (Nat.not_lt_zero _))
    · intro m1 e0 ec e3 e3'
      refine b_Mo_keeps_52 ⟨fun _ => ⟨⟨?_, by omega, fun j hj' => ?_⟩, ?_, fun c c0 c3 => ?_, fun j j4 => ?_⟩, fun q => absurd (show (18 : Int32) ≤ nI 18 from nI_le (a := 18) (Nat.le_refl _) (by decide)) q⟩
      · rw [up2_at, e0, h4, nI_1, hlen]
      · rw [hlen] at hj' ⊢
        have s3 : ∀ q, (up2 m1 0 4 (m1 0 4 + 1)) 3 q = m1 3 q := fun q => by rw [up2_ne (by decide)]
        cases j with
        | zero =>
          rw [hp_0]
          refine ⟨hl, ?_, ?_, fun i hi => ?_⟩
          · rw [s3, show 18 * (A + 1 - 1 - 0) = 18 * A + 0 by omega, e3' 0 (by decide)]; exact h.1
          · rw [s3, show 18 * (A + 1 - 1 - 0) + 1 = 18 * A + 1 by omega, e3' 1 (by decide)]; exact h.2.1
          · rw [s3, show 18 * (A + 1 - 1 - 0) + 2 + i = 18 * A + (2 + i) by omega, e3' (2 + i) (by omega)]; exact h.2.2.2.2.1 i hi
        | succ j =>
          obtain ⟨q1, q2⟩ := hB j (by omega)
          refine ⟨q1, q2.of q1 (fun k hk => ?_)⟩
          rw [s3, show 18 * (A + 1 - 1 - (j + 1)) = 18 * (A - 1 - j) by omega, e3 _ (by omega)]
      · rw [up2_ne (by decide), ec 1 (by decide), hc 1 (by decide) (by decide)]
      · rw [up2_ne c0, ec c c3, hc c c0 c3]
      · rw [up2_nj j4, e0, hj j j4]
    · intro k hk ih m1 e0 ec e3 e3'
      refine b_Mo_keeps_52 ⟨fun q => absurd q (by rw [show (18 : Int32) = nI 18 from rfl, nI_leI (by decide) (by omega)]; omega), fun _ => ⟨vp_in_nI hk (by decide), ?_, ?_⟩⟩
      · rw [e0, h4, show (18 : Int32) = nI 18 from rfl, pk_mul, nI_add]; exact vp_in_nI (by omega) (by decide)
      · rw [e0, h4, show (18 : Int32) = nI 18 from rfl, pk_mul, nI_add, nI_clamp (by omega), nI_clamp (by omega), nI_1, ec 1 (by decide), hc 1 (by decide) (by decide)]
        refine ih _ (by rw [up2_ne (by decide)]; exact e0) (fun c c3 => by rw [up2_ne c3]; exact ec c c3) (fun q hq => by rw [up2_nj (by omega)]; exact e3 q hq) (fun q hq => ?_)
        by_cases e : q = k
        · subst e; rw [up2_at]
        · rw [up2_nj (by omega)]; exact e3' q (by omega)
  refine e_Mo_keeps ⟨fun z => ?_, fun z => ?_⟩
  · have hne : H.length ≠ 12 := fun e => z (by rw [a, e]; rfl)
    refine copy H.length mem (by omega) a (fun _ _ _ => rfl) (fun _ _ => rfl) (by rw [hp_len]; omega) (fun j hj => ?_)
    rw [hp_s (by omega)]
    exact c j hj
  · have he : H.length = 12 := (nI_inj (b := 12) (by omega) (by decide)).mp (a.symm.trans z)
    have key : ∀ x, x ≤ 216 → 18 ≤ x → ∀ m0 : Mem, m0 0 = mem 0 → (∀ c, c ≠ 3 → m0 c = mem c) → (∀ q, q + 18 < x → m0 3 q = mem 3 (q + 18)) → (∀ q, x ≤ q + 18 → m0 3 q = mem 3 q) → Wp shM m_Mo_keeps d 12 [some (.ref 0), some (.int (nI x))] [] m0 (QV (fun m' => MH m' n (hp H S) ∧ m' 1 = mem 1 ∧ (∀ c, c ≠ 0 → c ≠ 3 → m' c = mem c) ∧ ∀ j, j ≠ 4 → m' 0 j = mem 0 j)) := by
      refine downInd (P := fun x => 18 ≤ x → ∀ m0 : Mem, m0 0 = mem 0 → (∀ c, c ≠ 3 → m0 c = mem c) → (∀ q, q + 18 < x → m0 3 q = mem 3 (q + 18)) → (∀ q, x ≤ q + 18 → m0 3 q = mem 3 q) → Wp shM m_Mo_keeps d 12 [some (.ref 0), some (.int (nI x))] [] m0 (QV (fun m' => MH m' n (hp H S) ∧ m' 1 = mem 1 ∧ (∀ c, c ≠ 0 → c ≠ 3 → m' c = mem c) ∧ ∀ j, j ≠ 4 → m' 0 j = mem 0 j))) 216 ?_ ?_
      · intro _ m0 e0 ec e3 e3'
        refine b_Mo_keeps_12 ⟨fun _ => ?_, fun q => absurd (show (216 : Int32) ≤ nI 216 from nI_le (a := 216) (Nat.le_refl _) (by decide)) q⟩
        refine copy 11 _ (by decide) (by rw [up2_at, e0, a, he]; rfl) (fun c c0 c3 => by rw [up2_ne c0]; exact ec c c3) (fun j hj => by rw [up2_nj hj, e0]) (by rw [hp_len, he]; rfl) (fun j hj => ?_)
        rw [hp_s (by omega)]
        obtain ⟨q1, q2⟩ := c j (by omega)
        refine ⟨q1, q2.of q1 (fun k hk => ?_)⟩
        rw [up2_ne (by decide), e3 _ (by omega), he]
        congr 1
        omega
      · intro x hx ih hx18 m0 e0 ec e3 e3'
        refine b_Mo_keeps_12 ⟨fun q => absurd q (by rw [show (216 : Int32) = nI 216 from rfl, nI_leI (by decide) (by omega)]; omega), fun _ => ⟨vp_in_nI hx (by decide), ?_, ?_⟩⟩
        · rw [show (18 : Int32) = nI 18 from rfl, pk_sub hx18]; exact vp_in_nI (by omega) (by decide)
        · rw [show (18 : Int32) = nI 18 from rfl, pk_sub hx18, nI_clamp (by omega), nI_clamp (by omega), nI_1]
          refine ih (by omega) _ (by rw [up2_ne (by decide)]; exact e0) (fun c c3 => by rw [up2_ne c3]; exact ec c c3) (fun q hq => ?_) (fun q hq => ?_)
          · by_cases e : q = x - 18
            · subst e
              rw [up2_at, e3' x (by omega)]
              congr 1
              omega
            · rw [up2_nj e]; exact e3 q (by omega)
          · rw [up2_nj (by omega)]; exact e3' q (by omega)
    exact key 18 (by decide) (Nat.le_refl _) mem rfl (fun _ _ => rfl) (fun q hq => by omega) (fun _ _ => rfl)
end HIS
