/-! Kernel.run with what it keeps; kernel, kernelSet, step of the class -/
/-- what the class keeps of its latest kernel is right -/
def Kca (mem : Mem) : Prop := ∃ n0 n1 T L0, Fam mem 19 n0 T ∧ Fam mem 21 n1 L0 ∧ (mem 18 6 = 0 ∨ ∃ b, 1 ≤ b ∧ b ≤ 5 ∧ mem 18 6 = nI b ∧ T.length ≤ 16 ∧ Kst mem n1 (kerF b 16 T).1 (kerF b 16 T).2.1 (kerF b 16 T).2.2)
def kcells : List Nat := [18, 19, 20, 21, 22, 23, 24, 25, 26]
theorem Kst.same {mem m' : Mem} {n : Nat} {D : List KSt} {L : List Nat} {lo : Int32} {cs : List Nat} (h : Kst mem n D L lo) (hs : Same mem m' cs) (hc : ∀ c, c ∈ kcells → c ∉ cs) : Kst m' n D L lo := by
  obtain ⟨h1, h2, h3, h4, h5⟩ := h
  have e18 := hs 18 (hc 18 (by decide))
  refine ⟨h1.same hs (hc 21 (by decide)) (hc 22 (by decide)), by rw [e18]; exact h2, h3, by rw [e18]; exact h4, fun i q hq => ?_⟩
  rw [hs 23 (hc 23 (by decide)), hs 24 (hc 24 (by decide)), hs 25 (hc 25 (by decide)), hs 26 (hc 26 (by decide))]
  exact h5 i q hq
theorem Kca.same {mem m' : Mem} {cs : List Nat} (h : Kca mem) (hs : Same mem m' cs) (hc : ∀ c, c ∈ kcells → c ∉ cs) : Kca m' := by
  obtain ⟨n0, n1, T, L0, h1, h2, h3⟩ := h
  refine ⟨n0, n1, T, L0, h1.same hs (hc 19 (by decide)) (hc 20 (by decide)), h2.same hs (hc 21 (by decide)) (hc 22 (by decide)), ?_⟩
  rw [hs 18 (hc 18 (by decide))]
  rcases h3 with h3 | ⟨b, b1, b2, b3, b4, b5⟩
  · exact Or.inl h3
  · exact Or.inr ⟨b, b1, b2, b3, b4, b5.same hs hc⟩
section KRX
variable {d n : Nat} {S : List Nat} {mem : Mem}
theorem s_run {b : Nat} (h : Fam mem 1 n S) (hl : S.length ≤ 16) (hb1 : 1 ≤ b) (hb : b ≤ 5) (hK : Kca mem) : CV shX m_Kernel_run (d + 23) [.ref 18, .ref 1, .int (nI b)] mem (fun m' => Kca m' ∧ (∃ n1, Kst m' n1 (kerF b 16 S).1 (kerF b 16 S).2.1 (kerF b 16 S).2.2) ∧ Same mem m' kcells) := by
  obtain ⟨n0, n1, T, L0, hT, hL0, hc⟩ := id hK
  have anew : Wp shX m_Kernel_run (d + 23) 20 [some (.ref 18), some (.ref 1), some (.int (nI b)), none, none] [] mem (QV (fun m' => Kca m' ∧ (∃ n1, Kst m' n1 (kerF b 16 S).1 (kerF b 16 S).2.1 (kerF b 16 S).2.2) ∧ Same mem m' kcells)) := by
    refine b_Kernel_run_20 isF_1 ?_
    have hS0 : Same mem (up2 (up2 (up2 mem 18 6 (nI b)) 18 7 0) 18 8 0) kcells := Same.tr (m2 := up2 (up2 mem 18 6 (nI b)) 18 7 0) (Same.tr (m2 := up2 mem 18 6 (nI b)) (Same.up (by decide)) (Same.up (by decide))) (Same.up (by decide))
    have hS0' : Same mem (up2 (up2 (up2 mem 18 6 (nI b)) 18 7 0) 18 8 0) [18] := Same.tr (m2 := up2 (up2 mem 18 6 (nI b)) 18 7 0) (Same.tr (m2 := up2 mem 18 6 (nI b)) (Same.up (by decide)) (Same.up (by decide))) (Same.up (by decide))
    have e6 : (up2 (up2 (up2 mem 18 6 (nI b)) 18 7 0) 18 8 0) 18 6 = nI b := by rw [up2_nj (by decide), up2_nj (by decide), up2_at]
    have e7 : (up2 (up2 (up2 mem 18 6 (nI b)) 18 7 0) 18 8 0) 18 7 = 0 := by rw [up2_nj (by decide), up2_at]
    have e8 : (up2 (up2 (up2 mem 18 6 (nI b)) 18 7 0) 18 8 0) 18 8 = 0 := up2_at
    generalize (up2 (up2 (up2 mem 18 6 (nI b)) 18 7 0) 18 8 0) = mA at hS0 hS0' e6 e7 e8
    refine (s_copySetsFrom (d := d + 21) isF_19 isF_1 (by decide) (h.same hS0' (by decide) (by decide)) (n' := n0) (by rw [hS0' 19 (by decide)]; exact hT.1) hT.2.2.2.1).mono ?_
    rintro mB ⟨hB1, hB2⟩
    refine (s_copySetsFrom (d := d + 21) isF_21 isF_1 (by decide) ((h.same hS0' (by decide) (by decide)).same hB2 (by decide) (by decide)) (n' := n1) (by rw [hB2 21 (by decide), hS0' 21 (by decide)]; exact hL0.1) hL0.2.2.2.1).mono ?_
    rintro mC ⟨hC1, hC2⟩
    have hSC : Same mem mC kcells := (hS0.tr (hB2.wd (by decide))).tr (hC2.wd (by decide))
    have hF19 : Fam mC 19 n0 S := hB1.same hC2 (by decide) (by decide)
    have c18 : mC 18 = mA 18 := by rw [hC2 18 (by decide), hB2 18 (by decide)]
    have fin : ∀ m0 : Mem, Kst m0 n1 (kerF b 16 S).1 (kerF b 16 S).2.1 (kerF b 16 S).2.2 → Fam m0 19 n0 S → m0 18 6 = nI b → Same mem m0 kcells → (Kca m0 ∧ (∃ n1, Kst m0 n1 (kerF b 16 S).1 (kerF b 16 S).2.1 (kerF b 16 S).2.2) ∧ Same mem m0 kcells) := fun m0 q1 q2 q3 q4 => ⟨⟨n0, n1, S, _, q2, q1.1, Or.inr ⟨b, hb1, hb, q3, hl, q1⟩⟩, ⟨n1, q1⟩, q4⟩
    have loop : ∀ f t (D : List KSt) (L : List Nat) (m0 : Mem), t + f = 16 → D.length = t → L.length ≤ f → Kst m0 n1 D L 0 → Fam m0 19 n0 S → m0 18 6 = nI b → Same mem m0 kcells → kerF b 16 S = (D ++ (kerF b f L).1, (kerF b f L).2) → Wp shX m_Kernel_run (d + 23) 56 [some (.ref 18), none, some (.int (nI b)), some (.int 1), some (.int (nI t))] [] m0 (QV (fun m' => Kca m' ∧ (∃ n1, Kst m' n1 (kerF b 16 S).1 (kerF b 16 S).2.1 (kerF b 16 S).2.2) ∧ Same mem m' kcells)) := by
      intro f
      induction f with
      | zero =>
        intro t D L m0 ht hD hLf hQ h19 h6 hS hE
        refine b_Kernel_run_56 isF_1 ⟨fun _ => fin m0 ?_ h19 h6 hS, fun c => absurd (show (16 : Int32) ≤ nI t from nI_le (a := 16) (by omega) (by omega)) c⟩
        rw [hE]
        simp only [kerF, List.append_nil]
        exact hQ
      | succ f ih =>
        intro t D L m0 ht hD hLf hQ h19 h6 hS hE
        refine b_Kernel_run_56 isF_1 ⟨fun c => absurd c (by rw [show (16 : Int32) = nI 16 from rfl, nI_leI (by decide) (by omega)]; omega), fun _ => ⟨fun z => absurd z (by decide), fun _ => ?_⟩⟩
        refine (s_takeStep hQ hb1 hb (by omega) (by omega)).mono ?_
        rintro r m1 ⟨hr, g6, gS⟩
        have hS1 : Same mem m1 kcells := hS.tr (gS.wd (by decide))
        have h19' : Fam m1 19 n0 S := h19.same gS (by decide) (by decide)
        have h6' : m1 18 6 = nI b := g6.trans h6
        rw [nI_1]
        rcases hr with ⟨q, q1, q2, q3⟩ | ⟨q1, q2, q3⟩
        · rw [q2]
          have hq := ksp_len hb1 (by omega) q1
          refine ih (t + 1) (D ++ [q.1]) q.2 m1 (by omega) (by rw [List.length_append, hD]; rfl) (by omega) q3 h19' h6' hS1 ?_
          rw [hE]
          simp only [kerF, q1, List.append_assoc, List.cons_append, List.nil_append]
        · rw [q2]
          have hE' : Kst m1 n1 (kerF b 16 S).1 (kerF b 16 S).2.1 (kerF b 16 S).2.2 := by
            rw [hE]
            simp only [kerF, q1, List.append_nil]
            exact q3
          exact b_Kernel_run_56 isF_1 ⟨fun _ => fin m1 hE' h19' h6' hS1, fun _ => ⟨fun _ => fin m1 hE' h19' h6' hS1, fun z => absurd rfl z⟩⟩
    refine loop 16 0 [] S mC rfl rfl hl ⟨hC1, by rw [c18, e7]; exact nI_0.symm, by decide, by rw [c18]; exact e8, fun i q hq => by simp at hq⟩ hF19 (by rw [c18]; exact e6) hSC ?_
    rw [List.nil_append]
  refine e_Kernel_run isF_1 ⟨fun _ => anew, fun z => ?_⟩
  refine (s_hasSameSetsAs isF_19 isF_1 hT h).to ⟨fun _ => anew, fun z2 => ?_⟩
  have e : T = S := b2i_1.mp z2
  subst e
  rcases hc with hc | ⟨b', b1, b2, b3, b4, b5⟩
  · exact absurd ((nI_z (by omega)).mp (z.symm.trans hc)) (by omega)
  · have eb : b' = b := (nI_inj (by omega) (by omega)).mp (b3.symm.trans z)
    subst eb
    exact ⟨hK, ⟨n1, b5⟩, Same.rf⟩
def kdc (D : List KSt) (i : Nat) : KSt := D.getD i (0, 0, 0, 0)
theorem kdc_at {D : List KSt} {i : Nat} (h : i < D.length) : D[i]? = some (kdc D i) := by
  rw [kdc, List.getD_eq_getElem?_getD, List.getElem?_eq_getElem h]
  rfl
def kcn (D : List KSt) (k : Int32) : Nat := cntP (fun i => decide ((kdc D i).1 = k)) D.length
noncomputable def aKernel (S : List Nat) (a w : Int32) : Int32 := ifP ((1 ≤ a ∧ a ≤ 5) ∧ (0 ≤ w ∧ w ≤ 4)) (if w = 1 then nI (kerF a.toNatClampNeg 16 S).1.length else if w = 2 then nI (kcn (kerF a.toNatClampNeg 16 S).1 0) else if w = 3 then nI (kcn (kerF a.toNatClampNeg 16 S).1 1) else if ¬ (kerF a.toNatClampNeg 16 S).2.2 = 0 then -2 else if w = 0 then nI (kerF a.toNatClampNeg 16 S).2.1.length else nI (uniT (fun i => (kerF a.toNatClampNeg 16 S).2.1.getD i 0) (kerF a.toNatClampNeg 16 S).2.1.length)) (-1)
noncomputable def aKernelSet (S : List Nat) (a w : Int32) : Int32 := ifP ((1 ≤ a ∧ a ≤ 5) ∧ 0 ≤ w) (if ¬ (kerF a.toNatClampNeg 16 S).2.2 = 0 then -2 else ifP (w < nI (kerF a.toNatClampNeg 16 S).2.1.length) (nI ((kerF a.toNatClampNeg 16 S).2.1.getD w.toNatClampNeg 0)) (-1)) (-1)
noncomputable def aStep (S : List Nat) (a k w : Int32) : Int32 := ifP ((1 ≤ a ∧ a ≤ 5) ∧ 0 ≤ k ∧ (0 ≤ w ∧ w ≤ 3) ∧ k < nI (kerF a.toNatClampNeg 16 S).1.length) (if w = 0 then (kdc (kerF a.toNatClampNeg 16 S).1 k.toNatClampNeg).1 else if w = 1 then (kdc (kerF a.toNatClampNeg 16 S).1 k.toNatClampNeg).2.1 else if w = 2 then (kdc (kerF a.toNatClampNeg 16 S).1 k.toNatClampNeg).2.2.1 else (kdc (kerF a.toNatClampNeg 16 S).1 k.toNatClampNeg).2.2.2) (-1)
theorem of_1_5 {a : Int32} (h : 1 ≤ a ∧ a ≤ 5) : ∃ k, 1 ≤ k ∧ k ≤ 5 ∧ a = nI k := by
  have h0 : (0 : Int32) ≤ a := Int32.le_trans (by decide) h.1
  obtain ⟨k, hk, rfl⟩ := of_inl (n := 5) (by decide) h0 h.2
  exact ⟨k, (nI_leI (a := 1) (by decide) (by omega)).mp h.1, hk, rfl⟩
theorem s_stepsOf {D : List KSt} {L : List Nat} {lo k : Int32} (h : Kst mem n D L lo) : CI shX m_Kernel_stepsOf d [.ref 18, .int k] mem (fun r m' => r = nI (kcn D k) ∧ m' = mem) := by
  obtain ⟨h1, h2, h3, h4, h5⟩ := h
  refine e_Kernel_stepsOf ?_
  refine downInd (P := fun i => Wp shX m_Kernel_stepsOf d 4 [some (.ref 18), some (.int k), some (.int (nI (cntP (fun i => decide ((kdc D i).1 = k)) i))), some (.int (nI i))] [] mem (QI (fun r m' => r = nI (kcn D k) ∧ m' = mem))) D.length ?_ ?_ 0 (Nat.zero_le _)
  · exact b_Kernel_stepsOf_4 ⟨fun _ => ⟨rfl, rfl⟩, fun c => absurd (by rw [h2]; exact nI_le (Nat.le_refl _) (by omega)) c⟩
  · intro i hi ih
    refine b_Kernel_stepsOf_4 ⟨fun c => absurd c (by rw [h2]; exact nI_ge hi (by omega)), fun _ => ⟨vp_in_nI (by omega) (by decide), ?_⟩⟩
    rw [nI_clamp (by omega), (h5 i _ (kdc_at hi)).1, nI_1, nI_1]
    rw [cntP] at ih
    refine ⟨fun z => ?_, fun z => ?_⟩
    · rw [if_neg (by simpa using z), Nat.add_zero] at ih; exact ih
    · rw [if_pos (by simpa using z)] at ih; exact ih
theorem out3 {a : Int32} (h : a.toInt < 0 ∨ 3 < a.toInt) : ¬ a = 0 ∧ ¬ a = 1 ∧ ¬ a = 2 ∧ ¬ a = 3 := by
  refine ⟨?_, ?_, ?_, ?_⟩ <;> (intro e; subst e; revert h; decide)
theorem x_kernel {a w : Int32} (h : Fam mem 1 n S) (hl : S.length ≤ 16) (hK : Kca mem) : CI shX m_PS_kernel (d + 24) [.ref 0, .int a, .int w] mem (fun r m' => r = aKernel S a w ∧ Kca m' ∧ Same mem m' kcells) := by
  have no : ¬ ((1 ≤ a ∧ a ≤ 5) ∧ (0 ≤ w ∧ w ≤ 4)) → (-1 : Int32) = aKernel S a w ∧ Kca mem ∧ Same mem mem kcells := fun z => ⟨by rw [aKernel, ifP_f z], hK, Same.rf⟩
  refine e_PS_kernel ⟨fun c => no (fun z => c z.1), fun c1 => ⟨fun c => no (fun z => i_nl.mpr z.2.1 c), fun c2 => ⟨fun c3 => ?_, fun c => no (fun z => c z.2.2)⟩⟩⟩
  rw [aKernel, ifP_t ⟨c1, i_nl.mp c2, c3⟩]
  obtain ⟨b, hb1, hb, rfl⟩ := of_1_5 c1
  rw [nI_clamp (by omega)]
  refine (s_run h hl hb1 hb hK).mono ?_
  rintro m1 ⟨hK1, ⟨n1, hQ⟩, hS⟩
  have hlo := hQ.2.2.2.1
  have hF := hQ.1
  have hlF := hF.2.2.1
  have hpF := pow17 hlF
  have h1p : 1 ≤ 2 ^ (kerF b 16 S).2.1.length := Nat.one_le_two_pow
  refine ⟨fun z => ?_, fun z => ?_, fun z => ?_, fun z => ?_, fun z => ?_⟩
  · obtain ⟨z0, z1, z2, z3⟩ := out3 z
    rw [if_neg z1, if_neg z2, if_neg z3, if_neg z0, hlo]
    refine ⟨fun y => ?_, fun y => ⟨by rw [if_pos y], hK1, hS⟩⟩
    rw [if_neg (fun q => q y), hF.2.1, al (by omega)]
    refine (s_unionOf isF_21 hF (by omega)).to ⟨by rw [unT_all], hK1, hS⟩
  · subst z
    rw [hlo]
    refine ⟨fun y => ⟨?_, hK1, hS⟩, fun y => ⟨?_, hK1, hS⟩⟩
    · rw [if_neg (by decide), if_neg (by decide), if_neg (by decide), if_neg (fun q => q y), if_pos rfl]
      exact hF.2.1
    · rw [if_neg (by decide), if_neg (by decide), if_neg (by decide), if_pos y]
  · subst z
    exact ⟨by rw [if_pos rfl]; exact hQ.2.1, hK1, hS⟩
  · subst z
    exact (s_stepsOf hQ).to ⟨by rw [if_neg (by decide), if_pos rfl], hK1, hS⟩
  · subst z
    exact (s_stepsOf hQ).to ⟨by rw [if_neg (by decide), if_neg (by decide), if_pos rfl], hK1, hS⟩
theorem x_kernelSet {a w : Int32} (h : Fam mem 1 n S) (hl : S.length ≤ 16) (hK : Kca mem) : CI shX m_PS_kernelSet (d + 24) [.ref 0, .int a, .int w] mem (fun r m' => r = aKernelSet S a w ∧ Kca m' ∧ Same mem m' kcells) := by
  refine e_PS_kernelSet ⟨fun c => ⟨by rw [aKernelSet, ifP_f (fun z => c z.1)], hK, Same.rf⟩, fun c1 => ⟨fun c2 => ?_, fun c => ⟨by rw [aKernelSet, ifP_f (fun z => c z.2)], hK, Same.rf⟩⟩⟩
  rw [aKernelSet, ifP_t ⟨c1, c2⟩]
  obtain ⟨b, hb1, hb, rfl⟩ := of_1_5 c1
  rw [nI_clamp (by omega)]
  refine (s_run h hl hb1 hb hK).mono ?_
  rintro m1 ⟨hK1, ⟨n1, hQ⟩, hS⟩
  have hlo := hQ.2.2.2.1
  have hF := hQ.1
  have hlF := hF.2.2.1
  rw [hlo, hF.2.1]
  refine ⟨fun y => ?_, fun y => ⟨by rw [if_pos y], hK1, hS⟩⟩
  rw [if_neg (fun q => q y)]
  refine ⟨fun z => ⟨by rw [ifP_f (fun q => z ⟨c2, q⟩)], hK1, hS⟩, fun z => ?_⟩
  rw [ifP_t z.2]
  obtain ⟨j, hj, rfl⟩ := of_in (by omega) z.1 z.2
  rw [nI_clamp (by omega), hF.aF hj]
  exact ⟨rfl, hK1, hS⟩
theorem x_step {a k w : Int32} (h : Fam mem 1 n S) (hl : S.length ≤ 16) (hK : Kca mem) : CI shX m_PS_step (d + 24) [.ref 0, .int a, .int k, .int w] mem (fun r m' => r = aStep S a k w ∧ Kca m' ∧ Same mem m' kcells) := by
  refine e_PS_step ⟨fun c => ⟨by rw [aStep, ifP_f (fun z => c z.1)], hK, Same.rf⟩, fun c1 => ⟨fun c2 => ?_, fun c => ⟨by rw [aStep, ifP_f (fun z => c z.2.1)], hK, Same.rf⟩⟩⟩
  obtain ⟨b, hb1, hb, rfl⟩ := of_1_5 c1
  refine (s_run h hl hb1 hb hK).mono ?_
  rintro m1 ⟨hK1, ⟨n1, hQ⟩, hS⟩
  have h7 := hQ.2.1
  have h3 := hQ.2.2.1
  rw [h7]
  refine ⟨fun z => ?_, fun z => ⟨by rw [aStep, nI_clamp (by omega), ifP_f (fun q => z q.2.2.2)], hK1, hS⟩⟩
  obtain ⟨j, hj, rfl⟩ := of_in (by omega) c2 z
  have hat := hQ.2.2.2.2 j _ (kdc_at hj)
  have hv : vp_in (nI j) 16 := vp_in_nI (by omega) (by decide)
  have ok : ∀ w : Int32, (0 ≤ w ∧ w ≤ 3) → aStep S (nI b) (nI j) w = (if w = 0 then (kdc (kerF b 16 S).1 j).1 else if w = 1 then (kdc (kerF b 16 S).1 j).2.1 else if w = 2 then (kdc (kerF b 16 S).1 j).2.2.1 else (kdc (kerF b 16 S).1 j).2.2.2) := fun w hw => by
    rw [aStep, nI_clamp (by omega), nI_clamp (by omega), ifP_t ⟨c1, c2, hw, z⟩]
  refine ⟨fun y => ?_, fun y => ?_, fun y => ?_, fun y => ?_, fun y => ?_⟩
  · refine ⟨?_, hK1, hS⟩
    rw [aStep, ifP_f]
    rintro ⟨-, -, ⟨q1, q2⟩, -⟩
    have a1 := Int32.le_iff_toInt_le.mp q1
    have a2 := Int32.le_iff_toInt_le.mp q2
    rw [show (0 : Int32).toInt = 0 from rfl] at a1
    rw [show (3 : Int32).toInt = 3 from rfl] at a2
    omega
  · subst y; exact ⟨hv, by rw [ok 0 (by decide), nI_clamp (by omega)]; exact hat.1, hK1, hS⟩
  · subst y; exact ⟨hv, by rw [ok 1 (by decide), nI_clamp (by omega)]; exact hat.2.1, hK1, hS⟩
  · subst y; exact ⟨hv, by rw [ok 2 (by decide), nI_clamp (by omega)]; exact hat.2.2.1, hK1, hS⟩
  · subst y; exact ⟨hv, by rw [ok 3 (by decide), nI_clamp (by omega)]; exact hat.2.2.2, hK1, hS⟩
end KRX
