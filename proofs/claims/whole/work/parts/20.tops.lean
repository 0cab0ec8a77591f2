/-! what the reference keeps; answers as functions of the family -/
noncomputable def ifP {α : Type} (p : Prop) (a b : α) : α := @ite α p (Classical.propDecidable p) a b
theorem ifP_t {α : Type} {p : Prop} {a b : α} (h : p) : ifP p a b = a := if_pos h
theorem ifP_f {α : Type} {p : Prop} {a b : α} (h : ¬ p) : ifP p a b = b := if_neg h
noncomputable def lstI (P : Nat → Prop) (no : Int32) : Int32 := @dite Int32 (∃ b, P b ∧ ∀ b', P b' → b ≤ b') (Classical.propDecidable _) (fun h => nI (Classical.choose h)) (fun _ => no)
theorem lstI_eq {P : Nat → Prop} {no : Int32} {b : Nat} (h1 : P b) (h2 : ∀ b', P b' → b ≤ b') : lstI P no = nI b := by
  have h : ∃ b, P b ∧ ∀ b', P b' → b ≤ b' := ⟨b, h1, h2⟩
  rw [lstI, dif_pos h]
  have q := Classical.choose_spec h
  rw [Nat.le_antisymm (q.2 b h1) (h2 _ q.1)]
theorem lstI_no {P : Nat → Prop} {no : Int32} (h : ∀ b, ¬ P b) : lstI P no = no := by
  rw [lstI, dif_neg (fun ⟨b, hb, _⟩ => h b hb)]
noncomputable def coI (g : Nat → Nat) (b : Nat) (no : Int32) : Int32 := @dite Int32 (∃ c, Sn g b c) (Classical.propDecidable _) (fun h => nI (Classical.choose h)) (fun _ => no)
theorem coI_eq {g : Nat → Nat} {b c : Nat} {no : Int32} (h : Sn g b c) : coI g b no = nI c := by
  have h' : ∃ c, Sn g b c := ⟨c, h⟩
  rw [coI, dif_pos h', Sn.uniq (Classical.choose_spec h') h]
theorem coI_no {g : Nat → Nat} {b : Nat} {no : Int32} (h : ∀ c, ¬ Sn g b c) : coI g b no = no := by
  rw [coI, dif_neg (fun ⟨c, hc⟩ => h c hc)]
/-- the greatest sunflower's bits, no if there is none -/
noncomputable def gsI (g : Nat → Nat) (m : Nat) (no : Int32) : Int32 := lstI (fun b => ∃ k, 2 ≤ k ∧ Fl g m k b ∧ ∀ k' b', k < k' → ¬ Fl g m k' b') no
theorem gsI_eq {g : Nat → Nat} {m k b : Nat} {no : Int32} (h1 : 2 ≤ k) (h2 : Fl g m k b) (h3 : ∀ b', Fl g m k b' → b ≤ b') (h4 : ∀ k' b', k < k' → ¬ Fl g m k' b') : gsI g m no = nI b := by
  refine lstI_eq ⟨k, h1, h2, h4⟩ (fun b' ⟨k2, q1, q2, q3⟩ => ?_)
  have : k2 = k := by
    rcases Nat.lt_trichotomy k2 k with q | q | q
    · exact absurd h2 (q3 k b q)
    · exact q
    · exact absurd q2 (h4 k2 b' q)
  subst this
  exact h3 b' q2
theorem gsI_no {g : Nat → Nat} {m : Nat} {no : Int32} (h : ∀ k b, 2 ≤ k → ¬ Fl g m k b) : gsI g m no = no := lstI_no (fun b ⟨k, q1, q2, _⟩ => h k b q1 q2)
def Now (mem : Mem) (n : Nat) (S : List Nat) : Prop := mem 1 0 = nI n ∧ mem 1 1 = nI S.length ∧ S.length ≤ 16 ∧ n ≤ 10 ∧ (∀ i, i < S.length → mem 1 (2 + i) = nI (S.getD i 0)) ∧ ∀ i, S.getD i 0 < 1024
/-- what the reference keeps from call to call is as it was -/
def Keep (mem m' : Mem) : Prop := m' 1 = mem 1 ∧ m' 3 = mem 3 ∧ m' 16 = mem 16 ∧ m' 17 = mem 17 ∧ m' 0 4 = mem 0 4 ∧ m' 0 26 = mem 0 26
theorem Keep.rf {mem : Mem} : Keep mem mem := ⟨rfl, rfl, rfl, rfl, rfl, rfl⟩
theorem Keep.tr {a b c : Mem} (h1 : Keep a b) (h2 : Keep b c) : Keep a c := ⟨h2.1.trans h1.1, h2.2.1.trans h1.2.1, h2.2.2.1.trans h1.2.2.1, h2.2.2.2.1.trans h1.2.2.2.1, h2.2.2.2.2.1.trans h1.2.2.2.2.1, h2.2.2.2.2.2.trans h1.2.2.2.2.2⟩
theorem Keep.up0 {mem : Mem} {j : Nat} {x : Int32} (h1 : j ≠ 4) (h2 : j ≠ 26) : Keep mem (up2 mem 0 j x) := ⟨up2_ne (by decide), up2_ne (by decide), up2_ne (by decide), up2_ne (by decide), up2_nj (Ne.symm h1), up2_nj (Ne.symm h2)⟩
theorem Keep.upc {mem : Mem} {c j : Nat} {x : Int32} (h0 : c ≠ 0) (h1 : c ≠ 1) (h3 : c ≠ 3) (h4 : c ≠ 16) (h5 : c ≠ 17) : Keep mem (up2 mem c j x) := ⟨up2_ne (Ne.symm h1), up2_ne (Ne.symm h3), up2_ne (Ne.symm h4), up2_ne (Ne.symm h5), by rw [up2_ne (Ne.symm h0)], by rw [up2_ne (Ne.symm h0)]⟩
theorem Now.keep {mem m' : Mem} {n : Nat} {S : List Nat} (h : Now mem n S) (k : Keep mem m') : Now m' n S := by
  obtain ⟨a, b, c, d, e, f⟩ := h
  exact ⟨by rw [k.1]; exact a, by rw [k.1]; exact b, c, d, fun i hi => by rw [k.1]; exact e i hi, f⟩
section TOP
variable {d n : Nat} {S : List Nat} {mem : Mem}
theorem Now.vin {i : Nat} (h : Now mem n S) (hi : i < S.length) : vp_in (2 + nI i) 18 := by
  have := h.2.2.1
  rw [show (2 : Int32) = nI 2 from rfl, nI_add]
  exact vp_in_nI (by omega) (by decide)
theorem Now.row {i : Nat} (h : Now mem n S) (hi : i < S.length) : mem 1 (2 + nI i).toNatClampNeg = nI (S.getD i 0) := by
  have := h.2.2.1
  rw [show (2 : Int32) = nI 2 from rfl, nI_add, nI_clamp (by omega)]
  exact h.2.2.2.2.1 i hi
theorem Now.ge {i : Nat} (h : Now mem n S) (hi : i ≤ S.length) : (mem 1 1 ≤ nI i) ↔ i = S.length := by
  have := h.2.2.1
  rw [h.2.1, nI_leI (by omega) (by omega)]
  omega
theorem s_laysAll (h : Now mem n S) : CV shM m_Mo_laysAll (d + 1) [.ref 0] mem (fun m' => Rw m' S ∧ Keep mem m') := by
  have hl := h.2.2.1
  refine e_Mo_laysAll ?_
  refine downInd (P := fun i => ∀ m0 : Mem, m0 0 8 = nI S.length → (∀ j, j < i → m0 5 j = nI (S.getD j 0)) → Keep mem m0 → Wp shM m_Mo_laysAll (d + 1) 10 [some (.ref 0), some (.int (nI i))] [] m0 (QV (fun m' => Rw m' S ∧ Keep mem m'))) S.length ?_ ?_ 0 (Nat.zero_le _) _ (by rw [up2_at]; exact h.2.1) (fun j hj => absurd hj (by omega)) (Keep.up0 (by decide) (by decide))
  · intro m0 e1 e2 hk
    refine b_Mo_laysAll_10 ⟨fun _ => ⟨⟨e1, by omega, e2, h.2.2.2.2.2⟩, hk⟩, fun c => absurd ?_ c⟩
    rw [e1]; exact nI_le (Nat.le_refl _) (by omega)
  · intro i hi ih m0 e1 e2 hk
    have hN := h.keep hk
    refine b_Mo_laysAll_10 ⟨fun c => ?_, fun _ => ⟨hN.vin hi, vp_in_nI (by omega) (by decide), ?_⟩⟩
    · rw [e1, nI_leI (by omega) (by omega)] at c
      omega
    · rw [hN.row hi, nI_clamp (by omega), nI_1]
      refine ih _ (by rw [up2_ne (by decide)]; exact e1) (fun j hj => ?_) (hk.tr (Keep.upc (by decide) (by decide) (by decide) (by decide) (by decide)))
      by_cases e : j = i
      · subst e; exact up2_at
      · rw [up2_nj e]; exact e2 j (by omega)
theorem Sn.lt {g : Nat → Nat} {b c : Nat} (hg : ∀ i, g i < 1024) (h : Sn g b c) : c < 1024 := by
  obtain ⟨x, y, q1, q2, q3⟩ := h.1
  rw [← h.2 x y q1 q2 q3]
  exact Nat.lt_of_le_of_lt Nat.and_le_left (hg x)
/-- some sets by their numbers -/
theorem nums {a : Int32} {m : Nat} (hm : m ≤ 17) (h : 0 ≤ a ∧ a ≤ alF (nI m)) : ∃ b, b < 2 ^ m ∧ a = nI b := by
  have hp := pow17 hm
  have h1 : 1 ≤ 2 ^ m := Nat.one_le_two_pow
  rw [al (by omega)] at h
  obtain ⟨j, hj, e⟩ := of_inl (by omega) h.1 h.2
  exact ⟨j, by omega, e⟩
-- isFlower
noncomputable def aIsFlower (S : List Nat) (a : Int32) : Int32 := ifP (0 ≤ a ∧ a ≤ alF (nI S.length)) (ifP (∃ c, Sn (fun i => S.getD i 0) a.toNatClampNeg c) 1 0) (-1)
theorem x_isFlower {a : Int32} (h : Fam mem 1 n S) : CI shX m_PS_isFlower (d + 2) [.ref 0, .int a] mem (fun r m' => r = aIsFlower S a ∧ m' = mem) := by
  have hl := h.2.2.1
  have hp := pow17 hl
  refine e_PS_isFlower ⟨fun c => ?_, fun c => ⟨?_, rfl⟩⟩
  · rw [h.2.1] at c
    rw [aIsFlower, ifP_t c]
    obtain ⟨b, hb, rfl⟩ := nums hl c
    rw [nI_clamp (by omega)]
    refine (s_coreOf isF_1 h hb).mono ?_
    rintro v m' ⟨hv, rfl⟩
    rcases hv with ⟨c3, y1, y2⟩ | ⟨y1, y2⟩
    · have hc := y1.lt h.small
      refine ⟨fun _ => ⟨by rw [ifP_t ⟨c3, y1⟩], rfl⟩, fun z => ?_⟩
      rw [y2] at z
      exact absurd (show nI c3 < 0 by rw [z]; decide) (nI_pos (by omega))
    · exact ⟨fun z => absurd y2 z, fun _ => ⟨by rw [ifP_f (fun ⟨c, hc⟩ => y1 c hc)], rfl⟩⟩
  · rw [h.2.1] at c
    rw [aIsFlower, ifP_f c]
theorem y_isFlower {a : Int32} (h : Now mem n S) : CI shM m_Mo_isFlower (d + 2) [.ref 0, .int a] mem (fun r m' => r = aIsFlower S a ∧ Keep mem m') := by
  have hl := h.2.2.1
  have hp := pow17 (m := S.length) (by omega)
  refine e_Mo_isFlower ⟨fun c => ?_, fun c => ⟨?_, Keep.rf⟩⟩
  · rw [h.2.1] at c
    rw [aIsFlower, ifP_t c]
    obtain ⟨b, hb, rfl⟩ := nums (by omega) c
    rw [nI_clamp (by omega)]
    refine (s_laysAll h).mono ?_
    rintro m1 ⟨hR, hK⟩
    refine (s_McoreOf hR hb).mono ?_
    rintro v m' ⟨hv, rfl⟩
    rcases hv with ⟨c3, y1, y2⟩ | ⟨y1, y2⟩
    · have hc := y1.lt h.2.2.2.2.2
      exact ⟨fun _ => ⟨by rw [ifP_t ⟨c3, y1⟩], hK⟩, fun z => absurd (by rw [y2]; exact nI_le0 (by omega)) z⟩
    · exact ⟨fun z => absurd z (by rw [y2]; decide), fun _ => ⟨by rw [ifP_f (fun ⟨c, hc⟩ => y1 c hc)], hK⟩⟩
  · rw [h.2.1] at c
    rw [aIsFlower, ifP_f c]
-- core
noncomputable def aCore (S : List Nat) (a : Int32) : Int32 := ifP (0 ≤ a ∧ a ≤ alF (nI S.length)) (coI (fun i => S.getD i 0) a.toNatClampNeg (-2)) (-1)
theorem x_core {a : Int32} (h : Fam mem 1 n S) : CI shX m_PS_core (d + 2) [.ref 0, .int a] mem (fun r m' => r = aCore S a ∧ m' = mem) := by
  have hl := h.2.2.1
  have hp := pow17 hl
  refine e_PS_core ⟨fun c => ?_, fun c => ⟨?_, rfl⟩⟩
  · rw [h.2.1] at c
    rw [aCore, ifP_t c]
    obtain ⟨b, hb, rfl⟩ := nums hl c
    rw [nI_clamp (by omega)]
    refine (s_coreOf isF_1 h hb).mono ?_
    rintro v m' ⟨hv, rfl⟩
    rcases hv with ⟨c3, y1, y2⟩ | ⟨y1, y2⟩
    · exact ⟨by rw [coI_eq y1, y2], rfl⟩
    · exact ⟨by rw [coI_no y1, y2], rfl⟩
  · rw [h.2.1] at c
    rw [aCore, ifP_f c]
theorem y_core {a : Int32} (h : Now mem n S) : CI shM m_Mo_core (d + 2) [.ref 0, .int a] mem (fun r m' => r = aCore S a ∧ Keep mem m') := by
  have hl := h.2.2.1
  have hp := pow17 (m := S.length) (by omega)
  refine e_Mo_core ⟨fun c => ?_, fun c => ⟨?_, Keep.rf⟩⟩
  · rw [h.2.1] at c
    rw [aCore, ifP_t c]
    obtain ⟨b, hb, rfl⟩ := nums (by omega) c
    rw [nI_clamp (by omega)]
    refine (s_laysAll h).mono ?_
    rintro m1 ⟨hR, hK⟩
    refine (s_McoreOf hR hb).mono ?_
    rintro v m' ⟨hv, rfl⟩
    rcases hv with ⟨c3, y1, y2⟩ | ⟨y1, y2⟩
    · have hc := y1.lt h.2.2.2.2.2
      exact ⟨fun _ => ⟨by rw [coI_eq y1, y2], hK⟩, fun z => absurd (by rw [y2]; exact nI_le0 (by omega)) z⟩
    · exact ⟨fun z => absurd z (by rw [y2]; decide), fun _ => ⟨by rw [coI_no y1], hK⟩⟩
  · rw [h.2.1] at c
    rw [aCore, ifP_f c]
-- flower
noncomputable def aFlower (S : List Nat) (a : Int32) : Int32 := ifP (2 ≤ a ∧ a ≤ 16) (lstI (Fl (fun i => S.getD i 0) S.length a.toNatClampNeg) (-2)) (-1)
theorem sizes {a : Int32} (h : 2 ≤ a ∧ a ≤ 16) : ∃ k, 2 ≤ k ∧ k ≤ 16 ∧ a = nI k := by
  have h0 : (0 : Int32) ≤ a := Int32.le_trans (by decide) h.1
  obtain ⟨k, hk, rfl⟩ := of_inl (n := 16) (by decide) h0 h.2
  exact ⟨k, (nI_leI (a := 2) (by decide) (by omega)).mp h.1, hk, rfl⟩
theorem x_flower {a : Int32} (h : Fam mem 1 n S) : CI shX m_PS_flower (d + 22) [.ref 0, .int a] mem (fun r m' => r = aFlower S a ∧ m' = mem) := by
  have hl := h.2.2.1
  have hp := pow17 hl
  refine e_PS_flower ⟨fun c => ?_, fun c => ⟨by rw [aFlower, ifP_f c], rfl⟩⟩
  rw [aFlower, ifP_t c]
  obtain ⟨k, h2, h16, rfl⟩ := sizes c
  rw [nI_clamp (by omega)]
  refine (s_leastFlower isF_1 h h2 (by omega)).mono ?_
  rintro v m' ⟨hv, rfl⟩
  rcases hv with ⟨b, y1, y2, y3⟩ | ⟨y1, y2⟩
  · refine ⟨fun _ => ⟨by rw [lstI_eq y1 y2, y3], rfl⟩, fun z => ?_⟩
    have := y1.1
    exact absurd (y3.symm.trans z) (nI_m1 (by omega))
  · exact ⟨fun z => absurd y2 z, fun _ => ⟨by rw [lstI_no y1], rfl⟩⟩
theorem y_flower {a : Int32} (h : Now mem n S) : CI shM m_Mo_flower (d + 3) [.ref 0, .int a] mem (fun r m' => r = aFlower S a ∧ Keep mem m') := by
  have hl := h.2.2.1
  have hp := pow17 (m := S.length) (by omega)
  refine e_Mo_flower ⟨fun c => ?_, fun c => ⟨by rw [aFlower, ifP_f c], Keep.rf⟩⟩
  rw [aFlower, ifP_t c]
  obtain ⟨k, h2, h16, rfl⟩ := sizes c
  rw [nI_clamp (by omega)]
  refine (s_laysAll h).mono ?_
  rintro m1 ⟨hR, hK⟩
  refine (s_firstOf hR h2 (by omega)).mono ?_
  rintro v m' ⟨hv, rfl⟩
  rcases hv with ⟨b, y1, y2, y3⟩ | ⟨y1, y2⟩
  · refine ⟨fun _ => ⟨by rw [lstI_eq y1 y2, y3], hK⟩, fun z => ?_⟩
    have hb := y1.1
    have hpo := y1.2.1
    rw [y3, nI_z (by omega)] at z
    rw [z, pop_zero] at hpo
    omega
  · exact ⟨fun z => absurd y2 z, fun _ => ⟨by rw [lstI_no y1], hK⟩⟩
end TOP
