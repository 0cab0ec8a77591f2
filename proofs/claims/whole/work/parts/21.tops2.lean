/-! greatest, withoutSet, withSet of both sides -/
/-- the greatest sunflower: how many sets, its bits -/
def GstP (g : Nat → Nat) (m : Nat) (q : Nat × Nat) : Prop := 2 ≤ q.1 ∧ Fl g m q.1 q.2 ∧ (∀ b', Fl g m q.1 b' → q.2 ≤ b') ∧ ∀ k' b', q.1 < k' → ¬ Fl g m k' b'
theorem GstP.uniq {g : Nat → Nat} {m : Nat} {q q' : Nat × Nat} (h : GstP g m q) (h' : GstP g m q') : q = q' := by
  obtain ⟨k, b⟩ := q
  obtain ⟨k', b'⟩ := q'
  obtain ⟨h1, h2, h3, h4⟩ := h
  obtain ⟨h1', h2', h3', h4'⟩ := h'
  have : k = k' := by
    rcases Nat.lt_trichotomy k k' with q | q | q
    · exact absurd h2' (h4 k' b' q)
    · exact q
    · exact absurd h2 (h4' k b q)
  subst this
  have e : b = b' := Nat.le_antisymm (h3 b' h2') (h3' b h2)
  rw [e]
noncomputable def gsO (g : Nat → Nat) (m : Nat) : Option (Nat × Nat) := @dite _ (∃ q, GstP g m q) (Classical.propDecidable _) (fun h => some (Classical.choose h)) (fun _ => none)
theorem gsO_eq {g : Nat → Nat} {m : Nat} {q : Nat × Nat} (h : GstP g m q) : gsO g m = some q := by
  have h' : ∃ q, GstP g m q := ⟨q, h⟩
  rw [gsO, dif_pos h', (Classical.choose_spec h').uniq h]
theorem gsO_no {g : Nat → Nat} {m : Nat} (h : ∀ k b, 2 ≤ k → ¬ Fl g m k b) : gsO g m = none := by
  rw [gsO, dif_neg (fun ⟨q, hq⟩ => h q.1 q.2 hq.1 hq.2.1)]
/-- how many sets the greatest of these has; -2: there are fewer than two -/
noncomputable def gsz (S : List Nat) : Int32 := match gsO (fun i => S.getD i 0) S.length with
  | none => -2
  | some q => nI q.1
noncomputable def aGreatest (S : List Nat) (a : Int32) : Int32 := ifP (0 ≤ a ∧ a ≤ 2) (match gsO (fun i => S.getD i 0) S.length with
  | none => -2
  | some q => if a = 0 then nI q.2 else if a = 1 then nI q.1 else coI (fun i => S.getD i 0) q.2 (-2)) (-1)
section TO2
variable {d f n : Nat} {S : List Nat} {mem : Mem}
theorem x_greatest {a : Int32} (h : Fam mem 1 n S) : CI shX m_PS_greatest (d + 23) [.ref 0, .int a] mem (fun r m' => r = aGreatest S a ∧ m' = mem) := by
  have hl := h.2.2.1
  have hp := pow17 hl
  refine e_PS_greatest ⟨fun c => ⟨by rw [aGreatest, ifP_f (fun z => i_nl.mpr z.1 c)], rfl⟩, fun c => ⟨fun c2 => ?_, fun c2 => ⟨by rw [aGreatest, ifP_f (fun z => c2 z.2)], rfl⟩⟩⟩
  rw [aGreatest, ifP_t ⟨i_nl.mp c, c2⟩]
  refine (s_largest isF_1 h).mono ?_
  rintro v m' ⟨hv, rfl⟩
  rcases hv with ⟨k, b, y1, y2, y3, y4, y5⟩ | ⟨y1, y2⟩
  · have hb := y2.1
    rw [gsO_eq (q := (k, b)) ⟨y1, y2, y3, y4⟩]
    refine ⟨fun _ => ⟨fun z1 => ⟨fun z2 => ?_, fun z2 => ?_⟩, fun z1 => ?_⟩, fun z => ?_⟩
    · simp only [if_neg z1, if_neg z2]
      subst y5
      refine (s_coreOf isF_1 h hb).mono ?_
      rintro w m'' ⟨hw, rfl⟩
      rcases hw with ⟨c3, w1, w2⟩ | ⟨w1, w2⟩
      · exact ⟨by rw [coI_eq w1, w2], rfl⟩
      · exact ⟨by rw [coI_no w1, w2], rfl⟩
    · simp only [if_neg z1, if_pos z2]
      subst y5
      exact ⟨by rw [bc (by omega), y2.2.1], trivial⟩
    · simp only [if_pos z1]
      exact ⟨y5, trivial⟩
    · exact absurd (y5.symm.trans z) (nI_m1 (by omega))
  · rw [gsO_no y1]
    exact ⟨fun z => absurd y2 z, fun _ => ⟨rfl, rfl⟩⟩
theorem y_greatest {a : Int32} (h : Now mem n S) : CI shM m_Mo_greatest (d + 3) [.ref 0, .int a] mem (fun r m' => r = aGreatest S a ∧ Keep mem m') := by
  have hl := h.2.2.1
  have hp := pow17 (m := S.length) (by omega)
  refine e_Mo_greatest ⟨fun c => ?_, fun c => ⟨by rw [aGreatest, ifP_f c], Keep.rf⟩⟩
  rw [aGreatest, ifP_t c]
  refine (s_laysAll h).mono ?_
  rintro m1 ⟨hR, hK⟩
  refine (s_greatestMany hR).mono ?_
  rintro v m' ⟨x, hv, rfl⟩
  have hK2 : Keep mem (up2 m1 0 9 x) := hK.tr (Keep.up0 (by decide) (by decide))
  rcases hv with ⟨k, b, y1, y2, y3, y4, y5, y6⟩ | ⟨y1, y2⟩
  · have hb := y2.1
    have hk : k ≤ 20 := by have := y2.2.1; have := pop_le b; omega
    rw [gsO_eq (q := (k, b)) ⟨y1, y2, y3, y4⟩]
    refine ⟨fun _ => ⟨fun z1 => ⟨fun z2 => ?_, fun z2 => ?_⟩, fun z1 => ?_⟩, fun z => ?_⟩
    · simp only [if_neg z1, if_neg z2]
      rw [up2_at, y6]
      subst y6
      refine (s_McoreOf hR.up9 hb).mono ?_
      rintro w m'' ⟨hw, rfl⟩
      have h2p : 2 ≤ pop b := by have := y2.2.1; omega
      rcases hw with ⟨c3, w1, w2⟩ | ⟨w1, w2⟩
      · exact ⟨by rw [coI_eq w1, w2], hK2⟩
      · obtain ⟨-, -, cc, hcc⟩ := (Fl_iff (by omega) y1).mp y2
        exact absurd hcc (w1 cc)
    · simp only [if_neg z1, if_pos z2]
      exact ⟨y5, hK2⟩
    · simp only [if_pos z1]
      rw [up2_at]
      exact ⟨y6, hK2⟩
    · rw [y5, nI_z (by omega)] at z
      omega
  · rw [gsO_no y1]
    exact ⟨fun z => absurd y2 z, fun _ => ⟨rfl, hK2⟩⟩
theorem s_largestSize (hf : IsF f) (h : Fam mem f n S) : CI shX m_PS_largestSize (d + 23) [.ref f] mem (fun r m' => r = gsz S ∧ m' = mem) := by
  have hl := h.2.2.1
  have hp := pow17 hl
  refine e_PS_largestSize hf ?_
  refine (s_largest hf h).mono ?_
  rintro v m' ⟨hv, rfl⟩
  rcases hv with ⟨k, b, y1, y2, y3, y4, y5⟩ | ⟨y1, y2⟩
  · have hb := y2.1
    rw [gsz, gsO_eq (q := (k, b)) ⟨y1, y2, y3, y4⟩]
    subst y5
    exact ⟨fun _ => ⟨by rw [bc (by omega), y2.2.1], rfl⟩, fun z => absurd z (nI_m1 (by omega))⟩
  · rw [gsz, gsO_no y1]
    exact ⟨fun z => absurd y2 z, fun _ => ⟨rfl, rfl⟩⟩
theorem pair_Fl {g : Nat → Nat} {m : Nat} (h : 2 ≤ m) : Fl g m 2 3 := by
  have hp : 2 ^ 2 ≤ 2 ^ m := Nat.pow_le_pow_right (by decide) h
  refine ⟨by omega, by decide, g 1 &&& g 0, fun i j hij hi hj => ?_⟩
  have : i < 2 := bit_lt (m := 2) (by decide) hi
  rw [show i = 1 by omega, show j = 0 by omega]
theorem s_greatestOfRow (h : Rw mem S) : CI shM m_Mo_greatestOfRow (d + 3) [.ref 0] mem (fun r m' => r = gsz S ∧ Keep mem m') := by
  have hl := h.2.1
  refine e_Mo_greatestOfRow ⟨fun c => ?_, fun c => ⟨?_, Keep.rf⟩⟩
  · rw [h.1, show (2 : Int32) = nI 2 from rfl, nI_leI (by omega) (by omega)] at c
    refine (s_greatestMany h).mono ?_
    rintro v m' ⟨x, hv, rfl⟩
    rcases hv with ⟨k, b, y1, y2, y3, y4, y5, y6⟩ | ⟨y1, y2⟩
    · rw [gsz, gsO_eq (q := (k, b)) ⟨y1, y2, y3, y4⟩]
      exact ⟨y5, Keep.up0 (by decide) (by decide)⟩
    · exact absurd (pair_Fl c) (y1 2 3 (by decide))
  · rw [h.1, show (2 : Int32) = nI 2 from rfl, nI_leI (by omega) (by omega)] at c
    rw [gsz, gsO_no]
    intro k b hk hF
    have := pop_lt (by omega) hF.1
    have := hF.2.1
    omega
-- withoutSet
noncomputable def aWithoutSet (S : List Nat) (a : Int32) : Int32 := ifP (0 ≤ a ∧ a < nI S.length) (gsz (sel (fun i => S.getD i 0) (fun j => !decide (j = a.toNatClampNeg)) S.length)) (-1)
theorem sel_cong {g : Nat → Nat} {p q : Nat → Bool} {m : Nat} (h : ∀ i, i < m → p i = q i) : sel g p m = sel g q m := by
  rw [sel, sel]
  congr 1
  refine List.filter_congr (fun x hx => ?_)
  exact h x (List.mem_range.mp hx)
theorem x_withoutSet {a : Int32} (h : Fam mem 1 n S) : CI shX m_PS_withoutSet (d + 24) [.ref 0, .int a] mem (fun r m' => r = aWithoutSet S a ∧ Same mem m' [3, 4]) := by
  have hl := h.2.2.1
  refine e_PS_withoutSet ⟨fun c => ?_, fun c => ⟨?_, Same.rf⟩⟩
  · rw [h.2.1] at c
    rw [aWithoutSet, ifP_t c]
    obtain ⟨i, hi, rfl⟩ := of_in (by omega) c.1 c.2
    rw [nI_clamp (by omega), sh1 (by omega)]
    refine (s_copyFrom isF_3 isF_1 (by decide) h).mono ?_
    rintro m1 ⟨hF, hS⟩
    have hpw : 2 ^ i < 2 ^ 31 := Nat.pow_lt_pow_right (by decide) (by omega)
    refine (s_takeOut isF_3 hF hpw).mono ?_
    rintro m2 ⟨hF2, hS2⟩
    refine (s_largestSize isF_3 hF2).mono ?_
    rintro r m' ⟨rfl, rfl⟩
    refine ⟨?_, hS.tr hS2⟩
    congr 1
    refine sel_cong (fun j _ => ?_)
    rw [Nat.testBit_two_pow]
    by_cases e : j = i
    · subst e; simp
    · simp [e, Ne.symm e]
  · rw [h.2.1] at c
    rw [aWithoutSet, ifP_f c]
theorem s_laysOne {x : Nat} (h : Rw mem S) (hl : S.length < 17) (hx : x < 1024) : CV shM m_Mo_laysOne d [.ref 0, .int (nI x)] mem (fun m' => Rw m' (S ++ [x]) ∧ Keep mem m') := by
  obtain ⟨h1, h2, h3, h4⟩ := h
  refine e_Mo_laysOne ⟨?_, ⟨?_, ?_, ?_, ?_⟩, ?_⟩
  · rw [h1]; exact vp_in_nI hl (by decide)
  · rw [up2_at, up2_ne (by decide), h1, nI_1, List.length_append]; rfl
  · rw [List.length_append]; exact hl
  · intro i hi
    rw [List.length_append] at hi
    rw [up2_ne (by decide), h1, nI_clamp (by omega), getD_app]
    by_cases e : i = S.length
    · subst e; rw [up2_at, if_neg (Nat.lt_irrefl _), if_pos rfl]
    · have hlt : i < S.length := by simp at hi; omega
      rw [up2_nj e, if_pos hlt]; exact h3 i hlt
  · intro i
    rw [getD_app]
    split
    · exact h4 i
    · split
      · exact hx
      · decide
  · exact Keep.tr (b := up2 mem 5 (mem 0 8).toNatClampNeg (nI x)) (Keep.upc (by decide) (by decide) (by decide) (by decide) (by decide)) (Keep.up0 (by decide) (by decide))
theorem Rw.nil {m0 : Mem} (h : m0 0 8 = 0) : Rw m0 [] := ⟨h, by decide, fun i hi => absurd hi (by simp), fun i => by simp⟩
theorem isThere_iff {a : Int32} {m : Nat} (hm : m ≤ 16) : (0 ≤ a ∧ a ≤ nI m - 1) ↔ (0 ≤ a ∧ a < nI m) := by
  constructor
  · rintro ⟨h1, h2⟩
    refine ⟨h1, ?_⟩
    rcases Nat.eq_zero_or_pos m with e | e
    · subst e
      exfalso
      have : (0 : Int32) ≤ nI 0 - 1 := Int32.le_trans h1 h2
      exact absurd this (by decide)
    · rw [show (1 : Int32) = nI 1 from rfl, pk_sub e] at h2
      obtain ⟨j, hj, rfl⟩ := of_inl (by omega) h1 h2
      exact nI_lt (by omega) (by omega)
  · rintro ⟨h1, h2⟩
    refine ⟨h1, ?_⟩
    obtain ⟨j, hj, rfl⟩ := of_in (by omega) h1 h2
    rw [show (1 : Int32) = nI 1 from rfl, pk_sub (by omega)]
    exact nI_le (by omega) (by omega)
theorem y_withoutSet {a : Int32} (h : Now mem n S) : CI shM m_Mo_withoutSet (d + 4) [.ref 0, .int a] mem (fun r m' => r = aWithoutSet S a ∧ Keep mem m') := by
  have hl := h.2.2.1
  refine e_Mo_withoutSet ⟨fun c => ?_, fun c => ⟨?_, Keep.rf⟩⟩
  · rw [h.2.1, isThere_iff hl] at c
    rw [aWithoutSet, ifP_t c]
    obtain ⟨i, hi, rfl⟩ := of_in (by omega) c.1 c.2
    rw [nI_clamp (by omega)]
    refine downInd (P := fun j => ∀ m0, Rw m0 (sel (fun i => S.getD i 0) (fun j => !decide (j = i)) j) → Keep mem m0 → Wp shM m_Mo_withoutSet (d + 4) 17 [some (.ref 0), some (.int (nI i)), some (.int (nI j))] [] m0 (QI (fun r m' => r = gsz (sel (fun i => S.getD i 0) (fun j => !decide (j = i)) S.length) ∧ Keep mem m'))) S.length ?_ ?_ 0 (Nat.zero_le _) _ (Rw.nil up2_at) (Keep.up0 (by decide) (by decide))
    · intro m0 hR hK
      refine b_Mo_withoutSet_17 ⟨fun _ => ?_, fun c => absurd (((h.keep hK).ge (Nat.le_refl _)).mpr rfl) c⟩
      refine (s_greatestOfRow hR).mono ?_
      rintro r m' ⟨rfl, hK2⟩
      exact ⟨rfl, hK.tr hK2⟩
    · intro j hj ih m0 hR hK
      have hN := h.keep hK
      have hsl := sel_len (fun i => S.getD i 0) (fun j => !decide (j = i)) j
      refine b_Mo_withoutSet_17 ⟨fun c => absurd ((hN.ge (Nat.le_of_lt hj)).mp c) (by omega), fun _ => ⟨fun c => ?_, fun c => ⟨hN.vin hj, ?_⟩⟩⟩
      · rw [nI_inj (by omega) (by omega)] at c
        rw [sel_succ, if_neg (by simp [c])] at ih
        rw [nI_1]
        exact ih m0 hR hK
      · rw [nI_inj (by omega) (by omega)] at c
        rw [sel_succ, if_pos (by simp [c])] at ih
        rw [hN.row hj]
        refine (s_laysOne hR (by omega) (h.2.2.2.2.2 j)).mono ?_
        rintro m1 ⟨hR1, hK1⟩
        rw [nI_1]
        exact ih m1 hR1 (hK.tr hK1)
  · rw [h.2.1, isThere_iff hl] at c
    rw [aWithoutSet, ifP_f c]
end TO2
