/-! withSet, link of both sides -/
section WER
variable {d n : Nat} {S : List Nat} {mem : Mem}
theorem s_isAmong {r0 n0 fr x : Nat} {L : List Nat} (h0 : shM[r0]? = some (.inl (0, n0))) (hn : fr + L.length ≤ n0) (hn0 : n0 < 2 ^ 31) (hL : ∀ i, i < L.length → mem r0 (fr + i) = nI (L.getD i 0)) (hs : ∀ i, L.getD i 0 < 2 ^ 31) (hx : x < 2 ^ 31) : CI shM m_Mo_isAmong d [.ref r0, .int (nI fr), .int (nI L.length), .int (nI x)] mem (fun r m' => r = b2i (x ∈ L) ∧ m' = mem) := by
  refine e_Mo_isAmong h0 ?_
  refine downInd (P := fun i => (∀ j, j < i → L.getD j 0 ≠ x) → Wp shM m_Mo_isAmong d 3 [some (.ref r0), some (.int (nI fr)), some (.int (nI L.length)), some (.int (nI x)), some (.int (nI i))] [] mem (QI (fun r m' => r = b2i (x ∈ L) ∧ m' = mem))) L.length ?_ ?_ 0 (Nat.zero_le _) (fun j hj => absurd hj (by omega))
  · intro hno
    refine b_Mo_isAmong_3 h0 ⟨fun _ => ⟨?_, rfl⟩, fun c => absurd (nI_le (Nat.le_refl _) (by omega)) c⟩
    rw [b2i_f]
    intro hm
    obtain ⟨j, hj, e⟩ := List.getElem_of_mem hm
    exact hno j hj (by rw [List.getD_eq_getElem?_getD, List.getElem?_eq_getElem hj]; exact e)
  · intro i hi ih hno
    have hsi := hs i
    refine b_Mo_isAmong_3 h0 ⟨fun c => absurd c (by rw [nI_leI (by omega) (by omega)]; omega), fun _ => ⟨by rw [nI_add]; exact vp_in_nI (by omega) hn0, fun c => ?_, fun c => ⟨?_, rfl⟩⟩⟩
    · rw [nI_add, nI_clamp (by omega), hL i hi, nI_inj hsi hx] at c
      rw [nI_1]
      refine ih (fun j hj => ?_)
      by_cases e : j = i
      · subst e; exact c
      · exact hno j (by omega)
    · rw [nI_add, nI_clamp (by omega), hL i hi, nI_inj hsi hx] at c
      rw [b2i_t]
      rw [← c, List.getD_eq_getElem?_getD, List.getElem?_eq_getElem hi]
      exact List.getElem_mem hi
theorem s_isTold {x : Nat} (h : Now mem n S) (hx : x < 2 ^ 31) : CI shM m_Mo_isTold (d + 1) [.ref 0, .int (nI x)] mem (fun r m' => r = b2i (x ∈ S) ∧ m' = mem) := by
  have hl := h.2.2.1
  refine e_Mo_isTold ?_
  rw [h.2.1]
  exact (s_isAmong (r0 := 1) (n0 := 18) (fr := 2) (L := S) rfl (by omega) (by decide) h.2.2.2.2.1 (fun i => Nat.lt_trans (h.2.2.2.2.2 i) (by decide)) hx).to ⟨b2i_01, rfl, rfl⟩
noncomputable def aWithSet (n : Nat) (S : List Nat) (a : Int32) : Int32 := ifP (0 < a ∧ a ≤ alF (nI n)) (gsz (addNew S a.toNatClampNeg)) (-1)
theorem i_le_of_lt {a b : Int32} (h : a < b) : a ≤ b := Int32.le_of_lt h
theorem x_withSet {a : Int32} (h : Fam mem 1 n S) (hl : S.length ≤ 16) : CI shX m_PS_withSet (d + 24) [.ref 0, .int a] mem (fun r m' => r = aWithSet n S a ∧ Same mem m' [3, 4]) := by
  refine e_PS_withSet ⟨fun c => ?_, fun c => ⟨?_, Same.rf⟩⟩
  · rw [h.1] at c
    rw [aWithSet, ifP_t c]
    obtain ⟨b, hb, -, rfl⟩ := pts h.2.2.2.1 ⟨i_le_of_lt c.1, c.2⟩
    rw [nI_clamp (by omega)]
    refine (s_copyFrom isF_3 isF_1 (by decide) h).mono ?_
    rintro m1 ⟨hF, hS⟩
    refine (s_appendNew isF_3 hF (by omega) hb).mono ?_
    rintro m2 ⟨hF2, hS2⟩
    refine (s_largestSize isF_3 hF2).mono ?_
    rintro r m' ⟨rfl, rfl⟩
    exact ⟨rfl, hS.tr hS2⟩
  · rw [h.1] at c
    rw [aWithSet, ifP_f c]
theorem y_withSet {a : Int32} (h : Now mem n S) : CI shM m_Mo_withSet (d + 4) [.ref 0, .int a] mem (fun r m' => r = aWithSet n S a ∧ Keep mem m') := by
  have hl := h.2.2.1
  have key : (0 < a ∧ a ≤ alF (nI n)) ↔ ((0 ≤ a ∧ a ≤ alF (nI n)) ∧ ¬ a = 0) := by
    constructor
    · rintro ⟨h1, h2⟩
      exact ⟨⟨i_le_of_lt h1, h2⟩, fun e => by rw [e] at h1; exact absurd h1 (by decide)⟩
    · rintro ⟨⟨h1, h2⟩, h3⟩
      obtain ⟨b, hb, -, rfl⟩ := pts h.2.2.2.1 ⟨h1, h2⟩
      rw [nI_z (by omega)] at h3
      exact ⟨nI_lt (a := 0) (by omega) (by omega), h2⟩
  refine e_Mo_withSet ⟨fun c => ⟨?_, Keep.rf⟩, fun c => ⟨fun c2 => ?_, fun c2 => ⟨?_, Keep.rf⟩⟩⟩
  · rw [h.1] at c
    rw [aWithSet, ifP_f (fun z => c (key.mp z).1)]
  · rw [h.1] at c
    rw [aWithSet, ifP_t (key.mpr ⟨c, c2⟩)]
    obtain ⟨b, hb, -, rfl⟩ := pts h.2.2.2.1 c
    rw [nI_z (by omega)] at c2
    rw [nI_clamp (by omega)]
    refine (s_laysAll h).mono ?_
    rintro m1 ⟨hR, hK⟩
    refine (s_isTold (h.keep hK) (by omega)).to ⟨fun z => ?_, fun z => ?_⟩
    · rw [b2i_1] at z
      refine (s_greatestOfRow hR).mono ?_
      rintro r m' ⟨rfl, hK2⟩
      exact ⟨by rw [addNew, if_pos (Or.inr z)], hK.tr hK2⟩
    · rw [b2i_0] at z
      refine (s_laysOne hR (by omega) hb).mono ?_
      rintro m2 ⟨hR2, hK2⟩
      refine (s_greatestOfRow hR2).mono ?_
      rintro r m' ⟨rfl, hK3⟩
      exact ⟨by rw [addNew, if_neg (fun y => y.elim c2 z)], hK.tr (hK2.tr hK3)⟩
  · rw [aWithSet, ifP_f (fun z => (key.mp z).2 c2)]
-- link
/-- the sets that have all of b, each without them, the empty one left out -/
def lnk (g : Nat → Nat) (b : Nat) : Nat → List Nat
  | 0 => []
  | i + 1 => if g i &&& b = b ∧ g i ≠ b then lnk g b i ++ [dif (g i) b] else lnk g b i
theorem lnk_len (g : Nat → Nat) (b : Nat) : ∀ i, (lnk g b i).length ≤ i
  | 0 => Nat.le_refl 0
  | i + 1 => by
    have := lnk_len g b i
    rw [lnk]; split
    · rw [List.length_append]; simp; omega
    · omega
theorem lnk_mem {g : Nat → Nat} {b x : Nat} : ∀ i, x ∈ lnk g b i → ∃ j, j < i ∧ g j &&& b = b ∧ x = dif (g j) b
  | 0, h => by simp [lnk] at h
  | i + 1, h => by
    rw [lnk] at h
    split at h
    · rename_i hc
      rcases List.mem_append.mp h with q | q
      · obtain ⟨j, h1, h2⟩ := lnk_mem i q
        exact ⟨j, by omega, h2⟩
      · exact ⟨i, by omega, hc.1, by simpa using q⟩
    · obtain ⟨j, h1, h2⟩ := lnk_mem i h
      exact ⟨j, by omega, h2⟩
theorem dif_inj {x y b : Nat} (hx : x &&& b = b) (hy : y &&& b = b) (e : dif x b = dif y b) : x = y := by
  apply Nat.eq_of_testBit_eq
  intro i
  have a1 := congrArg (fun v => v.testBit i) hx
  have a2 := congrArg (fun v => v.testBit i) hy
  have a3 := congrArg (fun v => v.testBit i) e
  simp only [Nat.testBit_and, dif_bit] at a1 a2 a3
  revert a1 a2 a3
  cases x.testBit i <;> cases y.testBit i <;> cases b.testBit i <;> simp
theorem dif_zero_iff {x b : Nat} (hx : x &&& b = b) : dif x b = 0 ↔ x = b := by
  rw [dif_z, Nat.and_comm, hx]
  exact ⟨fun e => e.symm, fun e => e.symm⟩
theorem lnk_new {g : Nat → Nat} {b i m : Nat} (hd : ∀ x y, x < y → y < m → g x ≠ g y) (hi : i < m) : lnk g b (i + 1) = if g i &&& b = b then addNew (lnk g b i) (dif (g i) b) else lnk g b i := by
  rw [lnk]
  by_cases hb : g i &&& b = b
  · rw [if_pos hb]
    by_cases hz : g i = b
    · rw [if_neg (fun z => z.2 hz), addNew, if_pos (Or.inl ((dif_zero_iff hb).mpr hz))]
    · rw [if_pos ⟨hb, hz⟩, addNew, if_neg]
      rintro (z | z)
      · exact hz ((dif_zero_iff hb).mp z)
      · obtain ⟨j, h1, h2, h3⟩ := lnk_mem i z
        exact hd j i h1 hi (dif_inj h2 hb h3.symm)
  · rw [if_neg hb, if_neg (fun z => hb z.1)]
noncomputable def aLink (n : Nat) (S : List Nat) (a w : Int32) : Int32 := ifP ((0 ≤ a ∧ a ≤ alF (nI n)) ∧ (0 ≤ w ∧ w ≤ 1)) (if w = 0 then nI (lnk (fun i => S.getD i 0) a.toNatClampNeg S.length).length else gsz (lnk (fun i => S.getD i 0) a.toNatClampNeg S.length)) (-1)
theorem x_link {a w : Int32} (h : Fam mem 1 n S) (hd : ∀ x y, x < y → y < S.length → S.getD x 0 ≠ S.getD y 0) : CI shX m_PS_link (d + 24) [.ref 0, .int a, .int w] mem (fun r m' => r = aLink n S a w ∧ Same mem m' [3, 4]) := by
  have hl := h.2.2.1
  refine e_PS_link ⟨fun c => ⟨?_, Same.rf⟩, fun c => ⟨fun c2 => ⟨?_, Same.rf⟩, fun c2 => ⟨fun c3 => ?_, fun c3 => ⟨?_, Same.rf⟩⟩⟩⟩
  · rw [h.1] at c
    rw [aLink, ifP_f (fun z => c z.1)]
  · rw [aLink, ifP_f (fun z => i_nl.mpr z.2.1 c2)]
  · rw [h.1] at c ⊢
    rw [aLink, ifP_t ⟨c, i_nl.mp c2, c3⟩]
    obtain ⟨b, hb, -, rfl⟩ := pts h.2.2.2.1 c
    rw [nI_clamp (by omega)]
    refine (s_startAnew isF_3 h.2.2.2.1).mono ?_
    rintro m1 ⟨hF1, hS1⟩
    refine downInd (P := fun i => ∀ m0, Fam m0 3 n (lnk (fun i => S.getD i 0) b i) → Same mem m0 [3, 4] → Wp shX m_PS_link (d + 24) 38 [some (.ref 0), some (.int (nI b)), some (.int w), some (.int (nI i))] [] m0 (QI (fun r m' => r = (if w = 0 then nI (lnk (fun i => S.getD i 0) b S.length).length else gsz (lnk (fun i => S.getD i 0) b S.length)) ∧ Same mem m' [3, 4]))) S.length ?_ ?_ 0 (Nat.zero_le _) m1 hF1 (hS1.wd (by simp))
    · intro m0 hF hS
      have hG : Fam m0 1 n S := h.same hS (by decide) (by decide)
      refine b_PS_link_38 ⟨fun _ => ⟨fun z => ?_, fun z => ⟨?_, hS⟩⟩, fun c => absurd ((hG.ge (Nat.le_refl _)).mpr rfl) c⟩
      · rw [if_neg z]
        refine (s_largestSize isF_3 hF).mono ?_
        rintro r m' ⟨rfl, rfl⟩
        exact ⟨rfl, hS⟩
      · rw [if_pos z]
        exact hF.2.1
    · intro i hi ih m0 hF hS
      have hG : Fam m0 1 n S := h.same hS (by decide) (by decide)
      have hg := h.small i
      have hll := lnk_len (fun i => S.getD i 0) b i
      rw [lnk_new (m := S.length) hd hi] at ih
      refine b_PS_link_38 ⟨fun c => absurd ((hG.ge (Nat.le_of_lt hi)).mp c) (by omega), fun _ => ⟨fun z => ?_, fun z => ?_⟩⟩
      · rw [hG.aF hi, ia, nI_inj (Nat.lt_of_le_of_lt Nat.and_le_right (by omega)) (by omega)] at z
        rw [if_neg z] at ih
        rw [nI_1]
        exact ih m0 hF hS
      · rw [hG.aF hi] at z ⊢
        rw [ia, nI_inj (Nat.lt_of_le_of_lt Nat.and_le_right (by omega)) (by omega)] at z
        rw [if_pos z] at ih
        rw [idif]
        refine (s_appendNew isF_3 hF (by omega) (dif_lt (m := 10) hg)).mono ?_
        rintro m2 ⟨hF2, hS2⟩
        rw [nI_1]
        exact ih m2 hF2 (hS.tr hS2)
  · rw [aLink, ifP_f (fun z => c3 z.2.2)]
theorem y_link {a w : Int32} (h : Now mem n S) : CI shM m_Mo_link (d + 4) [.ref 0, .int a, .int w] mem (fun r m' => r = aLink n S a w ∧ Keep mem m') := by
  have hl := h.2.2.1
  refine e_Mo_link ⟨fun c => ⟨?_, Keep.rf⟩, fun c => ⟨fun c2 => ?_, fun c2 => ⟨?_, Keep.rf⟩⟩⟩
  · rw [h.1] at c
    rw [aLink, ifP_f (fun z => c z.1)]
  · rw [h.1] at c
    rw [aLink, ifP_t ⟨c, c2⟩]
    obtain ⟨b, hb, -, rfl⟩ := pts h.2.2.2.1 c
    rw [nI_clamp (by omega)]
    refine downInd (P := fun i => ∀ m0, Rw m0 (lnk (fun i => S.getD i 0) b i) → Keep mem m0 → Wp shM m_Mo_link (d + 4) 26 [some (.ref 0), some (.int (nI b)), some (.int w), some (.int (nI i))] [] m0 (QI (fun r m' => r = (if w = 0 then nI (lnk (fun i => S.getD i 0) b S.length).length else gsz (lnk (fun i => S.getD i 0) b S.length)) ∧ Keep mem m'))) S.length ?_ ?_ 0 (Nat.zero_le _) _ (Rw.nil up2_at) (Keep.up0 (by decide) (by decide))
    · intro m0 hR hK
      refine b_Mo_link_26 ⟨fun _ => ⟨fun z => ?_, fun z => ⟨?_, hK⟩⟩, fun c => absurd (((h.keep hK).ge (Nat.le_refl _)).mpr rfl) c⟩
      · rw [if_neg z]
        refine (s_greatestOfRow hR).mono ?_
        rintro r m' ⟨rfl, hK2⟩
        exact ⟨rfl, hK.tr hK2⟩
      · rw [if_pos z]
        exact hR.1
    · intro i hi ih m0 hR hK
      have hN := h.keep hK
      have hg := h.2.2.2.2.2 i
      have hll := lnk_len (fun i => S.getD i 0) b i
      refine b_Mo_link_26 ⟨fun c => absurd ((hN.ge (Nat.le_of_lt hi)).mp c) (by omega), fun _ => ⟨hN.vin hi, fun z => ?_, fun z => ⟨hN.vin hi, fun z2 => ?_, fun z2 => ⟨hN.vin hi, ?_⟩⟩⟩⟩
      · rw [hN.row hi, idif, nI_z (dif_lt (m := 31) (by omega)), dif_z] at z
        rw [lnk, if_neg (fun y => z y.1)] at ih
        rw [nI_1]
        exact ih m0 hR hK
      · rw [hN.row hi, nI_inj (by omega) (by omega)] at z2
        rw [lnk, if_neg (fun y => y.2 z2)] at ih
        rw [nI_1]
        exact ih m0 hR hK
      · rw [hN.row hi, idif, nI_z (dif_lt (m := 31) (by omega)), dif_z] at z
        rw [hN.row hi, nI_inj (by omega) (by omega)] at z2
        rw [lnk, if_pos ⟨z, z2⟩] at ih
        rw [hN.row hi, idif]
        refine (s_laysOne hR (by omega) (dif_lt (m := 10) hg)).mono ?_
        rintro m2 ⟨hR2, hK2⟩
        rw [nI_1]
        exact ih m2 hR2 (hK.tr hK2)
  · rw [aLink, ifP_f (fun z => c2 z.2)]
end WER
