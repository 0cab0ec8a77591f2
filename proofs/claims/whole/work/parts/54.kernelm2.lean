/-! kernels of the reference; kernel, kernelSet, step of the reference -/
theorem ls0_flI {b : Nat} {L : List Nat} {r : Int32} (hb : 1 ≤ b) (h : Ls0 (Fl (fun i => L.getD i 0) L.length (b + 1)) r) (hl : L.length ≤ 17) : (r = 0 ∧ flI b L = -1) ∨ (¬ r = 0 ∧ ¬ flI b L = -1 ∧ r = flI b L) := by
  have hp := pow17 hl
  rcases h with ⟨p, h1, h2, h3⟩ | ⟨h1, h2⟩
  · have hlt := h1.1
    have hp0 : p ≠ 0 := fun e => by have := h1.2.1; rw [e, pop_zero] at this; omega
    have e : flI b L = nI p := lstI_eq h1 h2
    refine Or.inr ⟨?_, ?_, h3.trans e.symm⟩
    · rw [h3]; exact fun q => hp0 ((nI_z (by omega)).mp q)
    · rw [e]; exact nI_m1 (by omega)
  · exact Or.inl ⟨h2, lstI_no h1⟩
section KM2
variable {d n : Nat} {S : List Nat} {mem : Mem}
theorem m_step {b : Nat} {D : List KSt} {L : List Nat} {K : Mem → Prop} (hb1 : 1 ≤ b) (hb : b ≤ 5) (hL : Mkn mem L) (hD : Mks mem D) (h19 : mem 0 19 = 0) (h16 : D.length + L.length ≤ 16)
    (hsome : ∀ q m1, ksp b L = some q → Mkn m1 q.2 → Mks m1 (D ++ [q.1]) → m1 0 19 = 0 → Keep mem m1 → Wp shM m_Mo_kernels (d + 3) 47 [some (.ref 0), some (.int (nI b)), some (.int 1), none, none, none] [] m1 (QV K))
    (hnone : ∀ m1, ksp b L = none → Mkn m1 L → Mks m1 D → m1 0 19 = klo b L → Keep mem m1 → K m1) :
    Wp shM m_Mo_kernels (d + 3) 47 [some (.ref 0), some (.int (nI b)), some (.int 1), none, none, none] [] mem (QV K) := by
  have hl := hL.2.1
  have hp := pow17 (m := L.length) (by omega)
  refine b_Mo_kernels_47 ⟨fun z => absurd z (by decide), fun _ => ?_⟩
  refine (s_withinFirst hL).to ⟨fun z => ?_, fun z => ?_⟩
  · have hSA : Keep mem (up2 mem 0 8 (mem 0 13)) := Keep.up0 (by decide) (by decide)
    have key : ∀ i, i ≤ L.length → ∀ m0 : Mem, Keep mem m0 → Mkn m0 L → Mks m0 D → m0 0 19 = 0 → m0 0 8 = nI L.length → (∀ j, j < i → m0 5 j = nI (L.getD j 0)) → Wp shM m_Mo_kernels (d + 3) 85 [some (.ref 0), some (.int (nI b)), none, none, some (.int (nI i)), none] [] m0 (QV K) := by
      refine downInd (P := fun i => ∀ m0 : Mem, Keep mem m0 → Mkn m0 L → Mks m0 D → m0 0 19 = 0 → m0 0 8 = nI L.length → (∀ j, j < i → m0 5 j = nI (L.getD j 0)) → Wp shM m_Mo_kernels (d + 3) 85 [some (.ref 0), some (.int (nI b)), none, none, some (.int (nI i)), none] [] m0 (QV K)) L.length ?_ ?_
      · intro m0 hK0 hL0 hD0 e19 e8 e5
        have hR : Rw m0 L := ⟨e8, by omega, e5, hL.2.2.2⟩
        refine b_Mo_kernels_85 ⟨fun _ => ?_, fun c => absurd ((hL0.ge (Nat.le_refl _)).mpr rfl) c⟩
        rw [nI_1]
        have stop : ∀ v : Int32, ksp b L = none → v = klo b L → Wp shM m_Mo_kernels (d + 3) 47 [some (.ref 0), some (.int (nI b)), some (.int 0), none, none, none] [] (up2 m0 0 19 v) (QV K) := by
          intro v q1 q2
          refine b_Mo_kernels_47 ⟨fun _ => ?_, fun c => absurd rfl c⟩
          exact hnone _ q1 (hL0.of (up2_nj (by decide)) (up2_ne (by decide))) (hD0.of (up2_nj (by decide)) (up2_ne (by decide)) (up2_ne (by decide)) (up2_ne (by decide)) (up2_ne (by decide))) (by rw [up2_at]; exact q2) (hK0.tr (Keep.up0 (by decide) (by decide)))
        refine (s_firstOf hR (k := b + 1) (by omega) (by omega)).mono ?_
        rintro v m1 ⟨hv, rfl⟩
        rcases ls0_flI hb1 hv (by omega) with ⟨v1, v2⟩ | ⟨v1, v2, v3⟩
        · exact ⟨fun q => absurd v1 q, fun _ => stop 0 (by rw [ksp, if_pos z, if_pos v2]) (by rw [klo, if_neg (fun q => q.2.1 v2)])⟩
        · refine ⟨fun _ => ?_, fun q => absurd q v1⟩
          obtain ⟨p, p1, p2⟩ := flI_ex v2
          have hp1 := p2.1
          obtain ⟨c, c1, c2, c3⟩ := kco_ex hb1 (by omega) hL.2.2.2 v2
          have ep : (flI b L).toNatClampNeg = p := by rw [p1, nI_clamp (by omega)]
          rw [ep] at c3
          rw [v3, p1]
          refine (s_McoreOf hR hp1).mono ?_
          rintro w m2 ⟨hw, rfl⟩
          have ew : w = nI c := by
            rcases hw with ⟨c', y1, y2⟩ | ⟨y1, y2⟩
            · rw [y2, y1.uniq c3]
            · exact absurd c3 (y1 c)
          rw [ew, nI_z (by omega)]
          refine ⟨fun z3 => ⟨fun q => absurd q (nI_nle (by omega) (by omega)), fun _ => ?_⟩, fun z3 => ⟨fun _ => ?_, fun q => absurd (show nI c ≤ 0 by rw [z3, nI_0]; decide) q⟩⟩
          · have hk0 : ¬ kco b L = 0 := fun q => z3 ((nI_z (by omega)).mp (c1.symm.trans q))
            have hpp := p2.2.1
            have hDl : D.length < 16 := by have := pop_lt (b := p) (w := L.length) (by omega) hp1; omega
            refine (s_goes1 (d := d + 1) (D := D) (L := L) (hL0.of (up2_nj (by decide)) (up2_ne (by decide))) (hD0.of (up2_nj (by decide)) (up2_ne (by decide)) (up2_ne (by decide)) (up2_ne (by decide)) (up2_ne (by decide))) hDl hp1 (by omega) c2 z3).mono ?_
            rintro m3 ⟨g1, g2, g3, g4⟩
            have ekf : kfl b L = addNew (sel (fun i => L.getD i 0) (fun i => !p.testBit i) L.length) c := by
              unfold kfl
              rw [ep, c1, nI_clamp (by omega)]
            refine hsome _ m3 (by rw [ksp, if_pos z, if_neg v2, if_neg hk0]) ?_ ?_ (by rw [g3, up2_at]) ((hK0.tr (Keep.up0 (by decide) (by decide))).tr g4)
            · rw [ekf]; exact g1
            · rw [ekf, c1, p1]; exact g2
          · refine stop 1 (by rw [ksp, if_pos z, if_neg v2, if_pos (by rw [c1, z3]; exact nI_0)]) (by rw [klo, if_pos ⟨z, v2, by rw [c1, z3]; exact nI_0⟩])
      · intro i hi ih m0 hK0 hL0 hD0 e19 e8 e5
        refine b_Mo_kernels_85 ⟨fun c => absurd ((hL0.ge (Nat.le_of_lt hi)).mp c) (by omega), fun _ => ⟨vp_in_nI (by omega) (by decide), vp_in_nI (by omega) (by decide), ?_⟩⟩
        rw [hL0.row hi, nI_clamp (by omega), nI_1]
        refine ih _ (hK0.tr (Keep.upc (by decide) (by decide) (by decide) (by decide) (by decide))) (hL0.of (by rw [up2_ne (by decide)]) (up2_ne (by decide))) (hD0.of (by rw [up2_ne (by decide)]) (up2_ne (by decide)) (up2_ne (by decide)) (up2_ne (by decide)) (up2_ne (by decide))) (by rw [up2_ne (by decide)]; exact e19) (by rw [up2_ne (by decide)]; exact e8) (fun j hj => ?_)
        by_cases e : j = i
        · subst e; rw [up2_at]
        · rw [up2_nj e]; exact e5 j (by omega)
    exact key 0 (Nat.zero_le _) _ hSA (hL.of (up2_nj (by decide)) (up2_ne (by decide))) (hD.of (up2_nj (by decide)) (up2_ne (by decide)) (up2_ne (by decide)) (up2_ne (by decide)) (up2_ne (by decide))) (by rw [up2_nj (by decide)]; exact h19) (by rw [up2_at]; exact hL.1) (fun j hj => absurd hj (Nat.not_lt_zero _))
  · obtain ⟨i, i1, i2⟩ := wiI_ex z
    have hi := i2.1
    have ei : (wiI L).toNatClampNeg = i := by rw [i1, nI_clamp (by omega)]
    rw [i1, sh1 (by omega)]
    have hpi : 2 ^ i < 2 ^ L.length := Nat.pow_lt_pow_right (by decide) hi
    refine (s_goes0 (d := d + 1) (D := D) (L := L) hL hD (by omega) hpi).mono ?_
    rintro m3 ⟨g1, g2, g3, g4⟩
    have ekw : kwi L = sel (fun i => L.getD i 0) (fun j => !(2 ^ i).testBit j) L.length := by
      unfold kwi
      rw [ei]
    refine hsome _ m3 (by rw [ksp, if_neg z]) ?_ ?_ (by rw [g3]; exact h19) g4
    · rw [ekw]; exact g1
    · rw [ekw, ei]; exact g2
/-- what the reference's kernels leaves -/
def Mkr (mem : Mem) (R : List KSt × List Nat × Int32) : Prop := Mkn mem R.2.1 ∧ Mks mem R.1 ∧ mem 0 19 = R.2.2
theorem s_kernels {b : Nat} (h : Now mem n S) (hb1 : 1 ≤ b) (hb : b ≤ 5) : CV shM m_Mo_kernels (d + 3) [.ref 0, .int (nI b)] mem (fun m' => Mkr m' (kerF b 16 S) ∧ Keep mem m') := by
  have hl := h.2.2.1
  refine e_Mo_kernels ?_
  have loop : ∀ f (D : List KSt) (L : List Nat) (m0 : Mem), D.length + f = 16 → L.length ≤ f → Mkn m0 L → Mks m0 D → m0 0 19 = 0 → Keep mem m0 → kerF b 16 S = (D ++ (kerF b f L).1, (kerF b f L).2) → Wp shM m_Mo_kernels (d + 3) 47 [some (.ref 0), some (.int (nI b)), some (.int 1), none, none, none] [] m0 (QV (fun m' => Mkr m' (kerF b 16 S) ∧ Keep mem m')) := by
    intro f
    induction f with
    | zero =>
      intro D L m0 hDf hLf hL hD h19 hK hE
      refine m_step hb1 hb hL hD h19 (by omega) (fun q m1 q1 => ?_) (fun m1 q1 q2 q3 q4 q5 => ?_)
      · have := ksp_len hb1 (by omega) q1
        omega
      · have hlz : L.length = 0 := by omega
        have hk0 : klo b L = 0 := by
          rw [klo, if_neg]
          rintro ⟨-, h2, -⟩
          obtain ⟨p, -, p2⟩ := flI_ex h2
          have h3 := p2.1
          have h4 := p2.2.1
          rw [hlz, Nat.pow_zero] at h3
          rw [show p = 0 by omega, pop_zero] at h4
          omega
        rw [hE]
        simp only [kerF, List.append_nil]
        exact ⟨⟨q2, q3, q4.trans hk0⟩, hK.tr q5⟩
    | succ f ih =>
      intro D L m0 hDf hLf hL hD h19 hK hE
      refine m_step hb1 hb hL hD h19 (by omega) (fun q m1 q1 q2 q3 q4 q5 => ?_) (fun m1 q1 q2 q3 q4 q5 => ?_)
      · have hq := ksp_len hb1 (by have := hL.2.1; omega) q1
        refine ih (D ++ [q.1]) q.2 m1 (by rw [List.length_append]; simp; omega) (by omega) q2 q3 q4 (hK.tr q5) ?_
        rw [hE]
        simp only [kerF, q1, List.append_assoc, List.cons_append, List.nil_append]
      · rw [hE]
        simp only [kerF, q1, List.append_nil]
        exact ⟨⟨q2, q3, q4⟩, hK.tr q5⟩
  have key : ∀ i, i ≤ S.length → ∀ m0 : Mem, Keep mem m0 → m0 0 13 = nI S.length → (∀ j, j < i → m0 8 j = nI (S.getD j 0)) → Wp shM m_Mo_kernels (d + 3) 10 [some (.ref 0), some (.int (nI b)), some (.int (nI i)), none, none, none] [] m0 (QV (fun m' => Mkr m' (kerF b 16 S) ∧ Keep mem m')) := by
    refine downInd (P := fun i => ∀ m0 : Mem, Keep mem m0 → m0 0 13 = nI S.length → (∀ j, j < i → m0 8 j = nI (S.getD j 0)) → Wp shM m_Mo_kernels (d + 3) 10 [some (.ref 0), some (.int (nI b)), some (.int (nI i)), none, none, none] [] m0 (QV (fun m' => Mkr m' (kerF b 16 S) ∧ Keep mem m'))) S.length ?_ ?_
    · intro m0 hK e13 e8
      refine b_Mo_kernels_10 ⟨fun _ => ?_, fun c => absurd (by rw [e13]; exact nI_le (Nat.le_refl _) (by omega)) c⟩
      refine loop 16 [] S _ rfl hl ⟨by rw [up2_nj (by decide), up2_nj (by decide)]; exact e13, hl, fun i hi => by rw [up2_ne (by decide), up2_ne (by decide)]; exact e8 i hi, h.2.2.2.2.2⟩ ⟨by rw [up2_nj (by decide), up2_at]; exact nI_0.symm, by decide, fun i q hq => by simp at hq⟩ up2_at ((hK.tr (Keep.up0 (by decide) (by decide))).tr (Keep.up0 (by decide) (by decide))) ?_
      rw [List.nil_append]
    · intro i hi ih m0 hK e13 e8
      have h1 := h.keep hK
      refine b_Mo_kernels_10 ⟨fun c => absurd c (by rw [e13]; exact nI_ge hi (by omega)), fun _ => ⟨h1.vin hi, vp_in_nI (by omega) (by decide), ?_⟩⟩
      rw [h1.row hi, nI_clamp (by omega), nI_1]
      refine ih _ (hK.tr (Keep.upc (by decide) (by decide) (by decide) (by decide) (by decide))) (by rw [up2_ne (by decide)]; exact e13) (fun j hj => ?_)
      by_cases e : j = i
      · subst e; rw [up2_at]
      · rw [up2_nj e]; exact e8 j (by omega)
  exact key 0 (Nat.zero_le _) _ (Keep.up0 (by decide) (by decide)) (by rw [up2_at]; exact h.2.1) (fun j hj => absurd hj (Nat.not_lt_zero _))
theorem s_MstepsOf {D : List KSt} {k : Int32} (h : Mks mem D) : CI shM m_Mo_stepsOf d [.ref 0, .int k] mem (fun r m' => r = nI (kcn D k) ∧ m' = mem) := by
  obtain ⟨h2, h3, h5⟩ := h
  refine e_Mo_stepsOf ?_
  refine downInd (P := fun i => Wp shM m_Mo_stepsOf d 4 [some (.ref 0), some (.int k), some (.int (nI (cntP (fun i => decide ((kdc D i).1 = k)) i))), some (.int (nI i))] [] mem (QI (fun r m' => r = nI (kcn D k) ∧ m' = mem))) D.length ?_ ?_ 0 (Nat.zero_le _)
  · exact b_Mo_stepsOf_4 ⟨fun _ => ⟨rfl, rfl⟩, fun c => absurd (by rw [h2]; exact nI_le (Nat.le_refl _) (by omega)) c⟩
  · intro i hi ih
    refine b_Mo_stepsOf_4 ⟨fun c => absurd c (by rw [h2]; exact nI_ge hi (by omega)), fun _ => ⟨vp_in_nI (by omega) (by decide), ?_⟩⟩
    rw [nI_clamp (by omega), (h5 i _ (kdc_at hi)).1, nI_1, nI_1]
    rw [cntP] at ih
    refine ⟨fun z => ?_, fun z => ?_⟩
    · rw [if_neg (by simpa using z), Nat.add_zero] at ih; exact ih
    · rw [if_pos (by simpa using z)] at ih; exact ih
theorem y_kernel {a w : Int32} (h : Now mem n S) : CI shM m_Mo_kernel (d + 4) [.ref 0, .int a, .int w] mem (fun r m' => r = aKernel S a w ∧ Keep mem m') := by
  refine e_Mo_kernel ⟨fun c => ⟨by rw [aKernel, ifP_f (fun z => c z.1)], Keep.rf⟩, fun c1 => ⟨fun c2 => ?_, fun c => ⟨by rw [aKernel, ifP_f (fun z => c z.2)], Keep.rf⟩⟩⟩
  rw [aKernel, ifP_t ⟨c1, c2⟩]
  obtain ⟨b, hb1, hb, rfl⟩ := of_1_5 c1
  rw [nI_clamp (by omega)]
  refine (s_kernels h hb1 hb).mono ?_
  rintro m1 ⟨⟨hN, hD, h19⟩, hK⟩
  have hl := hN.2.1
  rw [h19]
  refine ⟨fun z1 => ⟨fun z2 => ?_, fun z2 => ⟨fun z3 => ⟨fun y => ⟨fun z0 => ?_, fun z0 => ?_⟩, fun y => ?_⟩, fun z3 => ?_⟩⟩, fun z1 => ?_⟩
  · subst z2
    rw [if_neg z1, if_pos rfl, show (2 : Int32) - 2 = 0 by decide]
    exact (s_MstepsOf hD).to ⟨rfl, hK⟩
  · rw [if_neg z1, if_neg z2, if_neg z3, if_neg (fun q => q y), if_neg z0]
    refine downInd (P := fun i => Wp shM m_Mo_kernel (d + 4) 75 [some (.ref 0), none, none, some (.int (nI (uniT (fun i => (kerF b 16 S).2.1.getD i 0) i))), some (.int (nI i))] [] m1 (QI (fun r m' => r = nI (uniT (fun i => (kerF b 16 S).2.1.getD i 0) (kerF b 16 S).2.1.length) ∧ Keep mem m'))) (kerF b 16 S).2.1.length ?_ ?_ 0 (Nat.zero_le _)
    · exact b_Mo_kernel_75 ⟨fun _ => ⟨rfl, hK⟩, fun c => absurd ((hN.ge (Nat.le_refl _)).mpr rfl) c⟩
    · intro i hi ih
      refine b_Mo_kernel_75 ⟨fun c => absurd ((hN.ge (Nat.le_of_lt hi)).mp c) (by omega), fun _ => ⟨vp_in_nI (by omega) (by decide), ?_⟩⟩
      rw [hN.row hi, io, nI_1]
      exact ih
  · rw [if_neg z1, if_neg z2, if_neg z3, if_neg (fun q => q y), if_pos z0]
    exact ⟨hN.1, hK⟩
  · rw [if_neg z1, if_neg z2, if_neg z3, if_pos y]
    exact ⟨rfl, hK⟩
  · subst z3
    rw [if_neg z1, if_neg z2, if_pos rfl, show (3 : Int32) - 2 = 1 by decide]
    exact (s_MstepsOf hD).to ⟨rfl, hK⟩
  · rw [if_pos z1]
    exact ⟨hD.1, hK⟩
theorem y_kernelSet {a w : Int32} (h : Now mem n S) : CI shM m_Mo_kernelSet (d + 4) [.ref 0, .int a, .int w] mem (fun r m' => r = aKernelSet S a w ∧ Keep mem m') := by
  refine e_Mo_kernelSet ⟨fun c => ⟨by rw [aKernelSet, ifP_f (fun z => c z.1)], Keep.rf⟩, fun c1 => ⟨fun c2 => ?_, fun c => ⟨by rw [aKernelSet, ifP_f (fun z => c z.2)], Keep.rf⟩⟩⟩
  rw [aKernelSet, ifP_t ⟨c1, c2⟩]
  obtain ⟨b, hb1, hb, rfl⟩ := of_1_5 c1
  rw [nI_clamp (by omega)]
  refine (s_kernels h hb1 hb).mono ?_
  rintro m1 ⟨⟨hN, hD, h19⟩, hK⟩
  have hl := hN.2.1
  rw [h19, hN.1]
  refine ⟨fun y => ?_, fun y => ⟨by rw [if_pos y], hK⟩⟩
  rw [if_neg (fun q => q y)]
  refine ⟨fun z => ⟨by rw [ifP_f (i_nl.mpr z)], hK⟩, fun z => ?_⟩
  rw [ifP_t (i_nle.mp z)]
  obtain ⟨j, hj, rfl⟩ := of_in (by omega) c2 (i_nle.mp z)
  rw [nI_clamp (by omega), hN.2.2.1 j hj]
  exact ⟨vp_in_nI (by omega) (by decide), rfl, hK⟩
theorem y_step {a k w : Int32} (h : Now mem n S) : CI shM m_Mo_step (d + 4) [.ref 0, .int a, .int k, .int w] mem (fun r m' => r = aStep S a k w ∧ Keep mem m') := by
  refine e_Mo_step ⟨fun c => ⟨by rw [aStep, ifP_f (fun z => c z.1)], Keep.rf⟩, fun c1 => ⟨fun c => ⟨by rw [aStep, ifP_f (fun z => i_nl.mpr z.2.1 c)], Keep.rf⟩, fun c2 => ⟨fun c3 => ?_, fun c => ⟨by rw [aStep, ifP_f (fun z => c z.2.2.1)], Keep.rf⟩⟩⟩⟩
  obtain ⟨b, hb1, hb, rfl⟩ := of_1_5 c1
  refine (s_kernels h hb1 hb).mono ?_
  rintro m1 ⟨⟨hN, hD, h19⟩, hK⟩
  have h3 := hD.2.1
  rw [hD.1]
  refine ⟨fun z => ?_, fun z => ⟨by rw [aStep, nI_clamp (by omega), ifP_f (fun q => z q.2.2.2)], hK⟩⟩
  obtain ⟨j, hj, rfl⟩ := of_in (by omega) (i_nl.mp c2) z
  have hat := hD.2.2 j _ (kdc_at hj)
  have hv : vp_in (nI j) 32 := vp_in_nI (by omega) (by decide)
  have ok : aStep S (nI b) (nI j) w = (if w = 0 then (kdc (kerF b 16 S).1 j).1 else if w = 1 then (kdc (kerF b 16 S).1 j).2.1 else if w = 2 then (kdc (kerF b 16 S).1 j).2.2.1 else (kdc (kerF b 16 S).1 j).2.2.2) := by
    rw [aStep, nI_clamp (by omega), nI_clamp (by omega), ifP_t ⟨c1, i_nl.mp c2, c3, z⟩]
  rw [ok, nI_clamp (by omega)]
  refine ⟨fun z0 => ⟨fun z1 => ⟨fun z2 => ⟨hv, ?_, hK⟩, fun z2 => ⟨hv, ?_, hK⟩⟩, fun z1 => ⟨hv, ?_, hK⟩⟩, fun z0 => ⟨hv, ?_, hK⟩⟩
  · rw [if_neg z0, if_neg z1, if_neg z2]; exact hat.2.2.2
  · rw [if_neg z0, if_neg z1, if_pos z2]; exact hat.2.2.1
  · rw [if_neg z0, if_pos z1]; exact hat.2.1
  · rw [if_pos z0]; exact hat.1
end KM2
