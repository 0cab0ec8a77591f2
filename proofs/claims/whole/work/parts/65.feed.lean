/-! feed and back: the class, the reference -/
def MT (mem : Mem) (t : List Nat) : Prop := mem 0 26 = nI t.length ∧ t.length ≤ 400 ∧ (∀ i, i < t.length → mem 16 i = nI (t.getD i 0)) ∧ ∀ i, t.getD i 0 < 256
theorem MT.of {mem m' : Mem} {t : List Nat} (h : MT mem t) (h1 : m' 0 26 = mem 0 26) (h2 : m' 16 = mem 16) : MT m' t := ⟨by rw [h1]; exact h.1, h.2.1, fun i hi => by rw [h2]; exact h.2.2.1 i hi, h.2.2.2⟩
theorem by_and (y : Int32) : (y.toInt8.toInt32) &&& 255 = y &&& 255 := by
  apply Int32.toBitVec_inj.mp
  rw [Int32.toBitVec_and, Int32.toBitVec_and, Int8.toBitVec_toInt32, Int32.toBitVec_toInt8]
  apply BitVec.eq_of_getLsbD_eq
  intro i hi
  rw [BitVec.getLsbD_and, BitVec.getLsbD_and]
  by_cases h : i < 8
  · rw [BitVec.getLsbD_signExtend, BitVec.getLsbD_signExtend]
    simp [h, hi]
  · have : (Int32.toBitVec 255).getLsbD i = false := by
      have h2 : ∀ i, i < 32 → ¬ i < 8 → (Int32.toBitVec 255).getLsbD i = false := by decide
      exact h2 i hi h
    rw [this, Bool.and_false, Bool.and_false]
def bb (x : Int32) (k : Nat) : Nat := (x >>> nI (24 - 8 * k)).toBitVec.toNat % 2 ^ 8
theorem bb_lt (x : Int32) (k : Nat) : bb x k < 256 := Nat.mod_lt _ (by decide)
theorem bb_eq (x : Int32) (k : Nat) : (x >>> nI (24 - 8 * k)) &&& 255 = nI (bb x k) := pk_and _ 8 rfl
theorem bb_by (x : Int32) (k : Nat) : vp_nar .byte ((x >>> nI (24 - 8 * k)).toInt8.toInt32) &&& 255 = nI (bb x k) := by
  rw [show vp_nar .byte ((x >>> nI (24 - 8 * k)).toInt8.toInt32) = ((x >>> nI (24 - 8 * k)).toInt8.toInt32).toInt8.toInt32 from rfl, by_and, by_and]
  exact bb_eq x k
theorem bb_sh : ∀ k, k < 4 → nI (24 - 8 * k) &&& 31 = nI (24 - 8 * k) := by decide +kernel
def by4 (x : Int32) : List Nat := [bb x 0, bb x 1, bb x 2, bb x 3]
theorem XT.app {mem : Mem} {t : List Nat} {c : Nat} {v : Int32} (h : XT mem t) (hl : t.length < 400) (hv : v &&& 255 = nI c) (hc : c < 256) : XT (up2 (up2 mem 9 t.length v) 8 1 (nI (t.length + 1))) (t ++ [c]) := by
  obtain ⟨h1, h2, h3, h4⟩ := h
  refine ⟨by rw [up2_at, List.length_append]; rfl, by rw [List.length_append]; exact hl, fun i hi => ?_, fun i => ?_⟩
  · rw [List.length_append] at hi
    simp only [List.length_cons, List.length_nil] at hi
    rw [up2_ne (by decide), getD_app]
    by_cases e : i < t.length
    · rw [if_pos e, up2_nj (by omega)]; exact h3 i e
    · rw [if_neg e, if_pos (by omega), show i = t.length by omega, up2_at]; exact hv
  · rw [getD_app]
    split
    · exact h4 i
    · split
      · exact hc
      · decide
theorem MT.app {mem : Mem} {t : List Nat} {c : Nat} (h : MT mem t) (hl : t.length < 400) (hc : c < 256) : MT (up2 (up2 mem 16 t.length (nI c)) 0 26 (nI (t.length + 1))) (t ++ [c]) := by
  obtain ⟨h1, h2, h3, h4⟩ := h
  refine ⟨by rw [up2_at, List.length_append]; rfl, by rw [List.length_append]; exact hl, fun i hi => ?_, fun i => ?_⟩
  · rw [List.length_append] at hi
    simp only [List.length_cons, List.length_nil] at hi
    rw [up2_ne (by decide), getD_app]
    by_cases e : i < t.length
    · rw [if_pos e, up2_nj (by omega)]; exact h3 i e
    · rw [if_neg e, if_pos (by omega), show i = t.length by omega, up2_at]
  · rw [getD_app]
    split
    · exact h4 i
    · split
      · exact hc
      · decide
noncomputable def fdT (t : List Nat) (a b c d e : Int32) : List Nat := if t.length + 20 ≤ 400 then t ++ by4 a ++ by4 b ++ by4 c ++ by4 d ++ by4 e else t
noncomputable def aFeed (t : List Nat) : Int32 := if t.length + 20 ≤ 400 then nI (t.length + 20) else -1
noncomputable def bkT (t : List Nat) (a : Int32) : List Nat := if 0 ≤ a ∧ a ≤ nI t.length then t.take (t.length - a.toNatClampNeg) else t
noncomputable def aBack (t : List Nat) (a : Int32) : Int32 := if 0 ≤ a ∧ a ≤ nI t.length then nI t.length - a else -1
theorem getD_take' {t : List Nat} {j i : Nat} : (t.take j).getD i 0 = if i < j then t.getD i 0 else 0 := by
  rw [List.getD_eq_getElem?_getD, List.getD_eq_getElem?_getD, List.getElem?_take]
  split <;> rfl
section FD
variable {d n : Nat} {S t : List Nat} {H : List (List Nat)} {mem : Mem}
theorem pf_step {k : Nat} {x : Int32} {K : Mem → Prop} (hk : k < 4) (h : XT mem t) (hl : t.length < 400) (H : ∀ m', XT m' (t ++ [bb x k]) → Same mem m' [8, 9] → Wp shX m_Tape_putFour d 3 [some (.ref 8), some (.int x), some (.int (nI (24 - 8 * k) + (-8)))] [] m' (QV K)) : Wp shX m_Tape_putFour d 3 [some (.ref 8), some (.int x), some (.int (nI (24 - 8 * k)))] [] mem (QV K) := by
  refine b_Tape_putFour_3 ⟨fun c => absurd c (nI_pos (by omega)), fun _ => ⟨fun c => absurd c (by rw [h.1, show (400 : Int32) = nI 400 from rfl, nI_leI (by decide) (by omega)]; omega), fun _ => ⟨by rw [h.1]; exact vp_in_nI hl (by decide), ?_⟩⟩⟩
  rw [up2_ne (show (8 : Nat) ≠ 9 by decide), h.1, nI_clamp (by omega), nI_1, bb_sh k hk]
  exact H _ (h.app hl (bb_by x k) (bb_lt x k)) ((Same.up (by simp)).tr (Same.up (by simp)))
theorem s_putFour {x : Int32} (h : XT mem t) (hl : t.length + 4 ≤ 400) : CV shX m_Tape_putFour d [.ref 8, .int x] mem (fun m' => XT m' (t ++ by4 x) ∧ Same mem m' [8, 9]) := by
  refine e_Tape_putFour ?_
  refine pf_step (k := 0) (by decide) h (by omega) (fun m1 h1 s1 => ?_)
  refine pf_step (k := 1) (by decide) h1 (by simp only [List.length_append, List.length_cons, List.length_nil]; omega) (fun m2 h2 s2 => ?_)
  refine pf_step (k := 2) (by decide) h2 (by simp only [List.length_append, List.length_cons, List.length_nil]; omega) (fun m3 h3 s3 => ?_)
  refine pf_step (k := 3) (by decide) h3 (by simp only [List.length_append, List.length_cons, List.length_nil]; omega) (fun m4 h4 s4 => ?_)
  refine b_Tape_putFour_3 ⟨fun _ => ⟨?_, ((s1.tr s2).tr s3).tr s4⟩, fun c => absurd (by decide) c⟩
  rw [show t ++ by4 x = t ++ [bb x 0] ++ [bb x 1] ++ [bb x 2] ++ [bb x 3] by simp [by4]]
  exact h4
theorem by4_len (x : Int32) : (by4 x).length = 4 := rfl
theorem x_feed {a0 a1 a2 a3 a4 : Int32} (h : XT mem t) : CI shX m_PS_feed (d + 1) [.ref 0, .int a0, .int a1, .int a2, .int a3, .int a4] mem (fun r m' => r = aFeed t ∧ XT m' (fdT t a0 a1 a2 a3 a4) ∧ Same mem m' [8, 9]) := by
  have hl := h.2.1
  refine e_PS_feed ?_
  rw [h.1, show (20 : Int32) = nI 20 from rfl, nI_add, show (400 : Int32) = nI 400 from rfl, nI_leI (by omega) (by decide), aFeed, fdT]
  refine ⟨fun c => ?_, fun c => ?_⟩
  · rw [if_pos c, if_pos c]
    refine (s_putFour h (by omega)).mono ?_
    rintro m1 ⟨h1, s1⟩
    refine (s_putFour h1 (by simp only [List.length_append, by4_len]; omega)).mono ?_
    rintro m2 ⟨h2, s2⟩
    refine (s_putFour h2 (by simp only [List.length_append, by4_len]; omega)).mono ?_
    rintro m3 ⟨h3, s3⟩
    refine (s_putFour h3 (by simp only [List.length_append, by4_len]; omega)).mono ?_
    rintro m4 ⟨h4, s4⟩
    refine (s_putFour h4 (by simp only [List.length_append, by4_len]; omega)).mono ?_
    rintro m5 ⟨h5, s5⟩
    refine ⟨?_, h5, (((s1.tr s2).tr s3).tr s4).tr s5⟩
    rw [h5.1]
    simp only [List.length_append, by4_len]
  · rw [if_neg c, if_neg c]
    exact ⟨rfl, h, Same.rf⟩
theorem bk_j {a : Int32} (hl : t.length ≤ 400) (h0 : 0 ≤ a) (h1 : a ≤ nI t.length) : ∃ j, j ≤ t.length ∧ a = nI j := by
  obtain ⟨j, hj, e⟩ := nI_of (x := a) (by rw [Int32.not_lt]; exact h0)
  refine ⟨j, ?_, e⟩
  rw [e, nI_leI hj (by omega)] at h1
  exact h1
theorem bk_take {j : Nat} (hj : j ≤ t.length) : (t.take (t.length - j)).length = t.length - j := by rw [List.length_take]; omega
theorem x_back {a : Int32} (h : XT mem t) : CI shX m_PS_back d [.ref 0, .int a] mem (fun r m' => r = aBack t a ∧ XT m' (bkT t a) ∧ Same mem m' [8, 9]) := by
  have hl := h.2.1
  refine e_PS_back ?_
  rw [h.1, aBack, bkT]
  refine ⟨fun c => ?_, fun c => ⟨fun c2 => ?_, fun c2 => ?_⟩⟩
  · have q : ¬ (0 ≤ a ∧ a ≤ nI t.length) := fun q => absurd c (by rw [Int32.not_lt]; exact q.1)
    rw [if_neg q, if_neg q]
    exact ⟨rfl, h, Same.rf⟩
  · have c' : 0 ≤ a := by rw [← Int32.not_lt]; exact c
    rw [if_pos ⟨c', c2⟩, if_pos ⟨c', c2⟩]
    obtain ⟨j, hj, e⟩ := bk_j hl c' c2
    subst e
    rw [nI_clamp (by omega), up2_at, pk_sub hj]
    refine ⟨rfl, ⟨by rw [up2_at, bk_take hj], by rw [bk_take hj]; omega, fun i hi => ?_, fun i => ?_⟩, Same.up (by simp)⟩
    · rw [bk_take hj] at hi
      rw [up2_ne (by decide), getD_take', if_pos hi]
      exact h.2.2.1 i (by omega)
    · rw [getD_take']
      split
      · exact h.2.2.2 i
      · decide
  · have q : ¬ (0 ≤ a ∧ a ≤ nI t.length) := fun q => c2 q.2
    rw [if_neg q, if_neg q]
    exact ⟨rfl, h, Same.rf⟩
/-- what feed and back leave of the reference -/
def Kf (mem m' : Mem) : Prop := (∀ c, c ≠ 0 → c ≠ 16 → m' c = mem c) ∧ ∀ j, j ≠ 26 → m' 0 j = mem 0 j
theorem Kf.rf : Kf mem mem := ⟨fun _ _ _ => rfl, fun _ _ => rfl⟩
theorem Kf.tr {m1 m2 m3 : Mem} (h1 : Kf m1 m2) (h2 : Kf m2 m3) : Kf m1 m3 := ⟨fun c a b => (h2.1 c a b).trans (h1.1 c a b), fun j a => (h2.2 j a).trans (h1.2 j a)⟩
theorem Kf.up {j : Nat} {x y : Int32} : Kf mem (up2 (up2 mem 16 j x) 0 26 y) := ⟨fun c h0 h1 => by rw [up2_ne h0, up2_ne h1], fun j hj => by rw [up2_nj hj, up2_ne (by decide)]⟩
theorem Kf.up' {y : Int32} : Kf mem (up2 mem 0 26 y) := ⟨fun c h0 h1 => by rw [up2_ne h0], fun j hj => by rw [up2_nj hj]⟩
def fdB (a b c d e : Int32) (k : Nat) : Nat := bb (if 4 ≤ k then (if 8 ≤ k then (if 12 ≤ k then (if 16 ≤ k then e else d) else c) else b) else a) (k % 4)
theorem fd_sh : ∀ k, k < 20 → (24 - (8 * (nI k - nI k / 4 * 4))) &&& 31 = nI (24 - 8 * (k % 4)) := by decide +kernel
theorem y_feed {a0 a1 a2 a3 a4 : Int32} (h : MT mem t) : CI shM m_Mo_feed d [.ref 0, .int a0, .int a1, .int a2, .int a3, .int a4] mem (fun r m' => r = aFeed t ∧ MT m' (fdT t a0 a1 a2 a3 a4) ∧ Kf mem m') := by
  have hl := h.2.1
  refine e_Mo_feed ?_
  rw [h.1, show (20 : Int32) = nI 20 from rfl, nI_add, show (400 : Int32) = nI 400 from rfl, nI_leI (by omega) (by decide), aFeed, fdT]
  refine ⟨fun c => ?_, fun c => ?_⟩
  · rw [if_pos c, if_pos c]
    have key : ∀ f k, k + f = 20 → ∀ m0 : Mem, MT m0 (t ++ (List.range k).map (fdB a0 a1 a2 a3 a4)) → Kf mem m0 → Wp shM m_Mo_feed d 18 [some (.ref 0), some (.int a0), some (.int a1), some (.int a2), some (.int a3), some (.int a4), some (.int (nI k)), none] [] m0 (QI (fun r m' => r = nI (t.length + 20) ∧ MT m' (t ++ by4 a0 ++ by4 a1 ++ by4 a2 ++ by4 a3 ++ by4 a4) ∧ Kf mem m')) := by
      intro f
      induction f with
      | zero =>
        intro k hk m0 h0 k0
        have e : k = 20 := by omega
        subst e
        have e2 : t ++ (List.range 20).map (fdB a0 a1 a2 a3 a4) = t ++ by4 a0 ++ by4 a1 ++ by4 a2 ++ by4 a3 ++ by4 a4 := by
          rw [show (List.range 20).map (fdB a0 a1 a2 a3 a4) = by4 a0 ++ by4 a1 ++ by4 a2 ++ by4 a3 ++ by4 a4 from rfl]
          simp only [List.append_assoc]
        rw [e2] at h0
        refine b_Mo_feed_18 ⟨fun _ => ⟨?_, h0, k0⟩, fun c => absurd (by decide) c⟩
        rw [h0.1]
        simp only [List.length_append, by4_len]
      | succ f ih =>
        intro k hk m0 h0 k0
        have hlen : (t ++ (List.range k).map (fdB a0 a1 a2 a3 a4)).length = t.length + k := by rw [List.length_append, List.length_map, List.length_range]
        have fin : ∀ x : Int32, bb x (k % 4) = fdB a0 a1 a2 a3 a4 k → vp_in (m0 0 26) 400 ∧ Wp shM m_Mo_feed d 18 [some (.ref 0), some (.int a0), some (.int a1), some (.int a2), some (.int a3), some (.int a4), some (.int (nI k + 1)), none] [] (up2 (up2 m0 16 (m0 0 26).toNatClampNeg ((x >>> ((24 - (8 * (nI k - nI k / 4 * 4))) &&& 31)) &&& 255)) 0 26 (((up2 m0 16 (m0 0 26).toNatClampNeg ((x >>> ((24 - (8 * (nI k - nI k / 4 * 4))) &&& 31)) &&& 255)) 0 26) + 1)) (QI (fun r m' => r = nI (t.length + 20) ∧ MT m' (t ++ by4 a0 ++ by4 a1 ++ by4 a2 ++ by4 a3 ++ by4 a4) ∧ Kf mem m')) := by
          intro x hx
          have h26 := h0.1
          rw [hlen] at h26
          refine ⟨by rw [h26]; exact vp_in_nI (by omega) (by decide), ?_⟩
          rw [up2_ne (show (0 : Nat) ≠ 16 by decide), h26, nI_clamp (by omega), fd_sh k (by omega), bb_eq, hx, nI_1, nI_1]
          have hap := h0.app (c := fdB a0 a1 a2 a3 a4 k) (by rw [hlen]; omega) (bb_lt _ _)
          rw [hlen] at hap
          refine ih (k + 1) (by omega) _ ?_ (k0.tr Kf.up)
          rw [List.range_succ, List.map_append, ← List.append_assoc]
          exact hap
        refine b_Mo_feed_18 ?_
        rw [show (20 : Int32) = nI 20 from rfl, show (4 ≤ nI k) = (nI 4 ≤ nI k) from rfl, show (8 ≤ nI k) = (nI 8 ≤ nI k) from rfl, show (12 ≤ nI k) = (nI 12 ≤ nI k) from rfl, show (16 ≤ nI k) = (nI 16 ≤ nI k) from rfl, nI_leI (by decide) (by omega), nI_leI (by decide) (by omega), nI_leI (by decide) (by omega), nI_leI (by decide) (by omega), nI_leI (by decide) (by omega)]
        refine ⟨fun z => absurd z (by omega), fun _ => ⟨fun z4 => ⟨fun z8 => ⟨fun z12 => ⟨fun z16 => fin a4 ?_, fun z16 => fin a3 ?_⟩, fun z12 => fin a2 ?_⟩, fun z8 => fin a1 ?_⟩, fun z4 => fin a0 ?_⟩⟩
        · rw [fdB, if_pos z4, if_pos z8, if_pos z12, if_pos z16]
        · rw [fdB, if_pos z4, if_pos z8, if_pos z12, if_neg z16]
        · rw [fdB, if_pos z4, if_pos z8, if_neg z12]
        · rw [fdB, if_pos z4, if_neg z8]
        · rw [fdB, if_neg z4]
    have := key 20 0 rfl mem (by rw [List.range_zero, List.map_nil, List.append_nil]; exact h) Kf.rf
    rw [nI_0] at this
    exact this
  · rw [if_neg c, if_neg c]
    exact ⟨rfl, h, Kf.rf⟩
theorem y_back {a : Int32} (h : MT mem t) : CI shM m_Mo_back (d + 1) [.ref 0, .int a] mem (fun r m' => r = aBack t a ∧ MT m' (bkT t a) ∧ Kf mem m') := by
  have hl := h.2.1
  refine e_Mo_back ?_
  rw [h.1, aBack, bkT]
  refine ⟨fun c => ?_, fun c => ?_⟩
  · rw [if_pos c, if_pos c]
    obtain ⟨j, hj, e⟩ := bk_j hl c.1 c.2
    subst e
    rw [nI_clamp (by omega), up2_at, pk_sub hj]
    refine ⟨rfl, ⟨by rw [up2_at, bk_take hj], by rw [bk_take hj]; omega, fun i hi => ?_, fun i => ?_⟩, Kf.up'⟩
    · rw [bk_take hj] at hi
      rw [up2_ne (by decide), getD_take', if_pos hi]
      exact h.2.2.1 i (by omega)
    · rw [getD_take']
      split
      · exact h.2.2.2 i
      · decide
  · rw [if_neg c, if_neg c]
    exact ⟨rfl, h, Kf.rf⟩
end FD
