/-! cores of the class -/
/-- a pair of sets ahead of the pair i, j meets in c -/
def Ear (g : Nat → Nat) (i j c : Nat) : Prop := ∃ x y, y < x ∧ (x < i ∨ (x = i ∧ y < j)) ∧ g x &&& g y = c
noncomputable def eaB (S : List Nat) (k i j c : Nat) : Bool := @decide (CoN S k (2 ^ S.length) c ∧ Ear (fun i => S.getD i 0) i j c) (Classical.propDecidable _)
theorem eaB_iff {S : List Nat} {k i j c : Nat} : eaB S k i j c = true ↔ (CoN S k (2 ^ S.length) c ∧ Ear (fun i => S.getD i 0) i j c) := @decide_eq_true_iff _ (Classical.propDecidable _)
theorem Ear.row {g : Nat → Nat} {i c : Nat} : Ear g (i + 1) 0 c ↔ Ear g i i c := by
  constructor
  · rintro ⟨x, y, h1, h2, h3⟩
    exact ⟨x, y, h1, by omega, h3⟩
  · rintro ⟨x, y, h1, h2, h3⟩
    exact ⟨x, y, h1, by omega, h3⟩
theorem Ear.next {g : Nat → Nat} {i j c : Nat} (hj : j < i) : Ear g i (j + 1) c ↔ (Ear g i j c ∨ g i &&& g j = c) := by
  constructor
  · rintro ⟨x, y, h1, h2, h3⟩
    by_cases e : x = i ∧ y = j
    · obtain ⟨rfl, rfl⟩ := e; exact Or.inr h3
    · exact Or.inl ⟨x, y, h1, by omega, h3⟩
  · rintro (⟨x, y, h1, h2, h3⟩ | h)
    · exact ⟨x, y, h1, by omega, h3⟩
    · exact ⟨i, j, hj, by omega, h⟩
section COX
variable {d n f : Nat} {S : List Nat} {mem : Mem}
theorem s_isNewMeet {i j : Nat} (hf : IsF f) (h : Fam mem f n S) (hi : i < S.length) (hj : j < i) : CI shX m_Petals_isNewMeet (d + 1) [.ref f, .int (nI i), .int (nI j)] mem (fun r m' => ((¬ Ear (fun i => S.getD i 0) i j (S.getD i 0 &&& S.getD j 0) ∧ r = 1) ∨ (Ear (fun i => S.getD i 0) i j (S.getD i 0 &&& S.getD j 0) ∧ r = 0)) ∧ m' = mem) := by
  have hl := h.2.2.1
  refine e_Petals_isNewMeet hf ?_
  rw [h.aF hi, h.aF (by omega), ia]
  generalize hc : S.getD i 0 &&& S.getD j 0 = c
  have hcl : c < 1024 := by rw [← hc]; exact Nat.lt_of_le_of_lt Nat.and_le_right (h.small j)
  have main : ∀ x, x ≤ i + 1 → (∀ x' y', y' < x' → x' < x → S.getD x' 0 &&& S.getD y' 0 ≠ c) → Wp shX m_Petals_isNewMeet (d + 1) 15 [some (.ref f), some (.int (nI i)), some (.int (nI j)), some (.int (nI c)), some (.int (nI x)), none] [] mem (QI (fun r m' => ((¬ Ear (fun i => S.getD i 0) i j c ∧ r = 1) ∨ (Ear (fun i => S.getD i 0) i j c ∧ r = 0)) ∧ m' = mem)) := by
    refine downInd (P := fun x => (∀ x' y', y' < x' → x' < x → S.getD x' 0 &&& S.getD y' 0 ≠ c) → Wp shX m_Petals_isNewMeet (d + 1) 15 [some (.ref f), some (.int (nI i)), some (.int (nI j)), some (.int (nI c)), some (.int (nI x)), none] [] mem (QI (fun r m' => ((¬ Ear (fun i => S.getD i 0) i j c ∧ r = 1) ∨ (Ear (fun i => S.getD i 0) i j c ∧ r = 0)) ∧ m' = mem))) (i + 1) ?_ ?_
    · intro hI
      refine b_Petals_isNewMeet_15 hf ⟨fun _ => ⟨Or.inl ⟨?_, rfl⟩, rfl⟩, fun c => absurd (nI_lt (by omega) (by omega)) c⟩
      rintro ⟨x, y, h1, h2, h3⟩
      exact hI x y h1 (by omega) h3
    · intro x hx ih hI
      refine b_Petals_isNewMeet_15 hf ⟨fun c => absurd c (by rw [nI_ltI (by omega) (by omega)]; omega), fun _ => ?_⟩
      refine downInd (P := fun y => (∀ y', y' < y → S.getD x 0 &&& S.getD y' 0 ≠ c) → Wp shX m_Petals_isNewMeet (d + 1) 24 [some (.ref f), some (.int (nI i)), some (.int (nI j)), some (.int (nI c)), some (.int (nI x)), some (.int (nI y))] [] mem (QI (fun r m' => ((¬ Ear (fun i => S.getD i 0) i j c ∧ r = 1) ∨ (Ear (fun i => S.getD i 0) i j c ∧ r = 0)) ∧ m' = mem))) x ?_ ?_ 0 (Nat.zero_le _) (fun y' hy' => absurd hy' (by omega))
      · intro hJ
        refine b_Petals_isNewMeet_24 hf ⟨fun _ => ?_, fun c => absurd (nI_le (Nat.le_refl _) (by omega)) c⟩
        rw [nI_1]
        refine ih (fun x' y' h1 h2 => ?_)
        by_cases e : x' = x
        · subst e; exact hJ y' h1
        · exact hI x' y' h1 (by omega)
      · intro y hy ihy hJ
        have hle : S.getD x 0 &&& S.getD y 0 ≤ S.getD y 0 := Nat.and_le_right
        have hgy := h.small y
        refine b_Petals_isNewMeet_24 hf ⟨fun c => absurd c (by rw [nI_leI (by omega) (by omega)]; omega), fun _ => ?_⟩
        rw [h.aF (by omega), h.aF (by omega), ia, nI_inj (by omega) (by omega), nI_inj (by omega) (by omega), nI_ltI (by omega) (by omega), nI_1]
        have go : ¬ S.getD x 0 &&& S.getD y 0 = c → Wp shX m_Petals_isNewMeet (d + 1) 24 [some (.ref f), some (.int (nI i)), some (.int (nI j)), some (.int (nI c)), some (.int (nI x)), some (.int (nI (y + 1)))] [] mem (QI (fun r m' => ((¬ Ear (fun i => S.getD i 0) i j c ∧ r = 1) ∨ (Ear (fun i => S.getD i 0) i j c ∧ r = 0)) ∧ m' = mem)) := fun q => ihy (fun y' hy' => by
          by_cases e : y' = y
          · subst e; exact q
          · exact hJ y' (by omega))
        refine ⟨fun z => ⟨go, fun z2 => ⟨Or.inr ⟨⟨x, y, hy, by omega, z2⟩, rfl⟩, rfl⟩⟩, fun z => ⟨fun z1 => ⟨go, fun z2 => ⟨Or.inr ⟨⟨x, y, hy, by omega, z2⟩, rfl⟩, rfl⟩⟩, fun z1 => ⟨Or.inl ⟨?_, rfl⟩, rfl⟩⟩⟩
        rintro ⟨x', y', h1, h2, h3⟩
        by_cases e : x' = x
        · subst e; exact hJ y' (by omega) h3
        · exact hI x' y' h1 (by omega) h3
  exact main 1 (by omega) (fun x' y' h1 h2 => absurd h2 (by omega))
theorem x_cores {a : Int32} (h : Fam mem 1 n S) : CI shX m_PS_cores (d + 21) [.ref 0, .int a] mem (fun r m' => r = aCores S a ∧ m' = mem) := by
  have hl := h.2.2.1
  have hp := pow17 hl
  have h1p : 1 ≤ 2 ^ S.length := Nat.one_le_two_pow
  refine e_PS_cores ⟨fun c => ?_, fun c => ⟨by rw [aCores, ifP_f c], rfl⟩⟩
  rw [aCores, ifP_t c]
  obtain ⟨k, hk2, hk, rfl⟩ := of_2_16 c
  rw [nI_clamp (by omega)]
  have hend : ∀ i, S.length ≤ i → cntP (eaB S k i 0) 1024 = cntP (coN S k (2 ^ S.length)) 1024 := fun i hi => cntP_cong 1024 (fun c _ => by
    rw [Bool.eq_iff_iff, eaB_iff, coN_iff]
    refine ⟨fun z => z.1, fun z => ⟨z, ?_⟩⟩
    obtain ⟨b, l1, l2⟩ := z
    obtain ⟨x, y, q1, q2, q3⟩ := (two_bits (by omega) l1).mpr (by rw [l2.2.1]; exact hk2)
    exact ⟨x, y, q1, Or.inl (by have := bit_lt l1 q2; omega), l2.2.2 x y q1 q2 q3⟩)
  have h0 : cntP (eaB S k 1 0) 1024 = 0 := cntP_no 1024 (fun c _ q => by
    obtain ⟨-, x, y, q1, q2, -⟩ := eaB_iff.mp q
    omega)
  have main : ∀ i, i ≤ max S.length 1 → 1 ≤ i → Wp shX m_PS_cores (d + 21) 13 [some (.ref 0), some (.int (nI k)), some (.int (nI (cntP (eaB S k i 0) 1024))), some (.int (nI i)), none, none] [] mem (QI (fun r m' => r = nI (cntP (coN S k (2 ^ S.length)) 1024) ∧ m' = mem)) := by
    refine downInd (P := fun i => 1 ≤ i → Wp shX m_PS_cores (d + 21) 13 [some (.ref 0), some (.int (nI k)), some (.int (nI (cntP (eaB S k i 0) 1024))), some (.int (nI i)), none, none] [] mem (QI (fun r m' => r = nI (cntP (coN S k (2 ^ S.length)) 1024) ∧ m' = mem))) (max S.length 1) ?_ ?_
    · intro _
      exact b_PS_cores_13 ⟨fun _ => ⟨by rw [hend _ (by omega)], rfl⟩, fun c => absurd (by rw [h.2.1]; exact nI_le (by omega) (by omega)) c⟩
    · intro i hi ih hi1
      have hiL : i < S.length := by omega
      refine b_PS_cores_13 ⟨fun c => absurd c (by rw [h.2.1, nI_leI (by omega) (by omega)]; omega), fun _ => ?_⟩
      refine downInd (P := fun j => Wp shX m_PS_cores (d + 21) 27 [some (.ref 0), some (.int (nI k)), some (.int (nI (cntP (eaB S k i j) 1024))), some (.int (nI i)), some (.int (nI j)), none] [] mem (QI (fun r m' => r = nI (cntP (coN S k (2 ^ S.length)) 1024) ∧ m' = mem))) i ?_ ?_ 0 (Nat.zero_le _)
      · refine b_PS_cores_27 ⟨fun _ => ?_, fun c => absurd (nI_le (Nat.le_refl _) (by omega)) c⟩
        rw [nI_1, cntP_cong 1024 (q := eaB S k (i + 1) 0) (fun c _ => by rw [Bool.eq_iff_iff, eaB_iff, eaB_iff, Ear.row])]
        exact ih (by omega)
      · intro j hj ihj
        have hgj := h.small j
        have hcl : S.getD i 0 &&& S.getD j 0 < 1024 := Nat.lt_of_le_of_lt Nat.and_le_right hgj
        have skip : (CoN S k (2 ^ S.length) (S.getD i 0 &&& S.getD j 0) → Ear (fun i => S.getD i 0) i j (S.getD i 0 &&& S.getD j 0)) → Wp shX m_PS_cores (d + 21) 27 [some (.ref 0), some (.int (nI k)), some (.int (nI (cntP (eaB S k i j) 1024))), some (.int (nI i)), some (.int (nI j + 1)), none] [] mem (QI (fun r m' => r = nI (cntP (coN S k (2 ^ S.length)) 1024) ∧ m' = mem)) := by
          intro hq
          rw [nI_1, cntP_cong 1024 (q := eaB S k i (j + 1)) (fun c _ => by
            rw [Bool.eq_iff_iff, eaB_iff, eaB_iff, Ear.next hj]
            exact ⟨fun z => ⟨z.1, Or.inl z.2⟩, fun z => ⟨z.1, z.2.elim id (fun e => by subst e; exact hq z.1)⟩⟩)]
          exact ihj
        refine b_PS_cores_27 ⟨fun c => absurd c (by rw [nI_leI (by omega) (by omega)]; omega), fun _ => ?_⟩
        refine (s_isNewMeet isF_1 h hiL hj).mono ?_
        rintro v m' ⟨hv, rfl⟩
        rcases hv with ⟨y1, y2⟩ | ⟨y1, y2⟩
        · refine ⟨fun z => absurd (y2.symm.trans z) (by decide), fun _ => ?_⟩
          rw [h.aF hiL, h.aF (by omega), ia, h.2.1, al (by omega)]
          refine (s_leastClique k (d + 19) (2 ^ S.length - 1) _ (by omega) isF_1 h (by omega) (by omega) (by omega)).mono ?_
          rintro w m' ⟨hw, rfl⟩
          replace hw := hw.cong (fun b => Cq_all)
          rcases hw with ⟨b, w1, w2, w3⟩ | ⟨w1, w2⟩
          · have hb := w1.1
            refine ⟨fun z => absurd (w3.symm.trans z) (nI_m1 (by omega)), fun _ => ?_⟩
            rw [nI_1, nI_1, ← cnt_ins (f := eaB S k i j) (f' := eaB S k i (j + 1)) (c := S.getD i 0 &&& S.getD j 0) (fun q => y1 (eaB_iff.mp q).2) (eaB_iff.mpr ⟨⟨b, hb, w1⟩, (Ear.next hj).mpr (Or.inr rfl)⟩) (fun c hc => by
              rw [Bool.eq_iff_iff, eaB_iff, eaB_iff, Ear.next hj]
              exact ⟨fun z => ⟨z.1, z.2.elim id (fun e => absurd e.symm hc)⟩, fun z => ⟨z.1, Or.inl z.2⟩⟩) 1024 hcl]
            exact ihj
          · refine ⟨fun _ => skip (fun q => ?_), fun z => absurd w2 z⟩
            obtain ⟨b, l1, l2⟩ := q
            exact absurd l2 (w1 b)
        · exact ⟨fun _ => skip (fun _ => y1), fun z => absurd y2 z⟩
  have := main 1 (by omega) (Nat.le_refl _)
  rw [h0] at this
  exact this
end COX
