/-! swap, turn, without, join, flip, only, thin, reduce, undo of the reference -/
section AC2
variable {d n : Nat} {S T : List Nat} {H : List (List Nat)} {mem : Mem}
theorem MH.kx {m' : Mem} (h : MH mem n H) (k : Kx mem m') : MH m' n H := h.keep k.keep
theorem y_swap {a b : Int32} (h : Now mem n S) (hM : MH mem n H) (hG : GdS n S) : CI shM m_Mo_swap (d + 3) [.ref 0, .int a, .int b] mem (fun r m' => r = aMove (cSwap n a b) (swF a.toNatClampNeg b.toNatClampNeg) S ∧ Now m' n (nS S (oMove (cSwap n a b) (swF a.toNatClampNeg b.toNatClampNeg) S)) ∧ MH m' n (nH H S (oMove (cSwap n a b) (swF a.toNatClampNeg b.toNatClampNeg) S)) ∧ Kt mem m') := by
  have hl := h.2.2.1
  have hn := h.2.2.2.1
  have no : ¬ cSwap n a b → (-1 : Int32) = aMove (cSwap n a b) (swF a.toNatClampNeg b.toNatClampNeg) S ∧ Now mem n (nS S (oMove (cSwap n a b) (swF a.toNatClampNeg b.toNatClampNeg) S)) ∧ MH mem n (nH H S (oMove (cSwap n a b) (swF a.toNatClampNeg b.toNatClampNeg) S)) ∧ Kt mem mem := fun z => by
    rw [aMove, oMove, ifP_f (fun q => z q.1), ifP_f (fun q => z q.1)]; exact ⟨rfl, h, hM, Kt.rf⟩
  refine e_Mo_swap ?_
  rw [h.1, isPt_iff hn, isPt_iff hn]
  refine ⟨fun c => no (fun z => c z.1), fun c1 => ⟨fun c => no (fun z => c z.2.1), fun c2 => ⟨fun c3 => ?_, fun c => no (fun z => z.2.2 c)⟩⟩⟩
  have hc : cSwap n a b := ⟨c1, c2, c3⟩
  rw [← (aMove_c hc).1, ← (aMove_c hc).2]
  obtain ⟨p, p1, rfl⟩ := pt_ex hn c1
  obtain ⟨q, q1, rfl⟩ := pt_ex hn c2
  rw [nI_clamp (by omega), nI_clamp (by omega)]
  refine (s_wouldBegin).mono ?_
  rintro m1 ⟨hW1, hK1⟩
  refine downInd (P := fun i => ∀ m0 : Mem, Wo m0 ((S.take i).map (swF p q)) → Kx mem m0 → Wp shM m_Mo_swap (d + 3) 29 [some (.ref 0), some (.int (nI p)), some (.int (nI q)), some (.int (nI i))] [] m0 (QI (fun r m' => r = aMove True (swF p q) S ∧ Now m' n (nS S (oMove True (swF p q) S)) ∧ MH m' n (nH H S (oMove True (swF p q) S)) ∧ Kt mem m'))) S.length ?_ ?_ 0 (Nat.zero_le _) m1 (by rw [List.take_zero]; exact hW1) hK1
  · intro m0 hW hK
    rw [List.take_length] at hW
    have hN := h.keep hK.keep
    refine b_Mo_swap_29 ⟨fun _ => ?_, fun c => absurd ((hN.ge (Nat.le_refl _)).mpr rfl) c⟩
    refine (s_changes hN (hM.kx hK) hW).mono ?_
    rintro r m2 ⟨g1, g2, g3, g4⟩
    exact ⟨g1, g2, g3, hK.keep.kt.tr g4⟩
  · intro i hi ih m0 hW hK
    have hN := h.keep hK.keep
    have hsm := h.2.2.2.2.2 i
    have hlt := swF_lt (p := p) (q := q) (w := 10) hsm (by omega) (by omega)
    refine b_Mo_swap_29 ⟨fun c => absurd ((hN.ge (Nat.le_of_lt hi)).mp c) (by omega), fun _ => ⟨hN.vin hi, hN.vin hi, ?_⟩⟩
    have hbb : (b2i (((nI (S.getD i 0)) >>> (nI p &&& 31)) &&& 1 = 1) = b2i (((nI (S.getD i 0)) >>> (nI q &&& 31)) &&& 1 = 1)) ↔ (S.getD i 0).testBit p = (S.getD i 0).testBit q := by
      unfold b2i
      by_cases z1 : ((nI (S.getD i 0)) >>> (nI p &&& 31)) &&& 1 = 1
      · rw [if_pos z1]
        rw [hasI (by omega) (by omega)] at z1
        by_cases z2 : ((nI (S.getD i 0)) >>> (nI q &&& 31)) &&& 1 = 1
        · rw [if_pos z2]
          rw [hasI (by omega) (by omega)] at z2
          rw [z1, z2]; simp
        · rw [if_neg z2]
          rw [hasI (by omega) (by omega), Bool.not_eq_true] at z2
          rw [z1, z2]; simp
      · rw [if_neg z1]
        rw [hasI (by omega) (by omega), Bool.not_eq_true] at z1
        by_cases z2 : ((nI (S.getD i 0)) >>> (nI q &&& 31)) &&& 1 = 1
        · rw [if_pos z2]
          rw [hasI (by omega) (by omega)] at z2
          rw [z1, z2]; simp
        · rw [if_neg z2]
          rw [hasI (by omega) (by omega), Bool.not_eq_true] at z2
          rw [z1, z2]; simp
    have hadd : addNew ((S.take i).map (swF p q)) (swF p q (S.getD i 0)) = (S.take (i + 1)).map (swF p q) := map_addNew hi (fun j hj e => hG.2.1 j i hj hi (by rw [← swF_inv (p := p) (q := q) (x := S.getD j 0), e, swF_inv])) (fun e => hG.2.2.1 i hi (by rw [← swF_inv (p := p) (q := q) (x := S.getD i 0), e, swF_0]))
    have hlen : ((S.take i).map (swF p q)).length < 16 := by rw [List.length_map, List.length_take]; omega
    rw [hN.row hi, hbb, sh1 (by omega), sh1 (by omega), ix, ix]
    refine ⟨fun z => ⟨hN.vin hi, ?_⟩, fun z => ⟨hN.vin hi, ?_⟩⟩
    · have e : swF p q (S.getD i 0) = S.getD i 0 := by unfold swF; rw [if_pos z]
      rw [e] at hadd
      refine (s_wouldHave (d := d + 1) hW hlen hsm).mono ?_
      rintro m2 ⟨hW2, hK2⟩
      rw [nI_1]
      exact ih m2 (by rw [← hadd]; exact hW2) (hK.tr hK2)
    · have e : swF p q (S.getD i 0) = (S.getD i 0 ^^^ 2 ^ p) ^^^ 2 ^ q := by unfold swF; rw [if_neg z]
      rw [e] at hadd hlt
      refine (s_wouldHave (d := d + 1) hW hlen hlt).mono ?_
      rintro m2 ⟨hW2, hK2⟩
      rw [nI_1]
      exact ih m2 (by rw [← hadd]; exact hW2) (hK.tr hK2)
theorem y_turn (h : Now mem n S) (hM : MH mem n H) (hG : GdS n S) (hn1 : 1 ≤ n) : CI shM m_Mo_turn (d + 3) [.ref 0] mem (fun r m' => r = aMove True (tnF n) S ∧ Now m' n (nS S (oMove True (tnF n) S)) ∧ MH m' n (nH H S (oMove True (tnF n) S)) ∧ Kt mem m') := by
  have hl := h.2.2.1
  have hn := h.2.2.2.1
  have hpn : 2 ^ n ≤ 2 ^ 10 := Nat.pow_le_pow_right (by decide) hn
  have h1n : 1 ≤ 2 ^ n := Nat.one_le_two_pow
  refine e_Mo_turn ?_
  refine (s_wouldBegin).mono ?_
  rintro m1 ⟨hW1, hK1⟩
  refine downInd (P := fun i => ∀ m0 : Mem, Wo m0 ((S.take i).map (tnF n)) → Kx mem m0 → Wp shM m_Mo_turn (d + 3) 6 [some (.ref 0), some (.int (nI i))] [] m0 (QI (fun r m' => r = aMove True (tnF n) S ∧ Now m' n (nS S (oMove True (tnF n) S)) ∧ MH m' n (nH H S (oMove True (tnF n) S)) ∧ Kt mem m'))) S.length ?_ ?_ 0 (Nat.zero_le _) m1 (by rw [List.take_zero]; exact hW1) hK1
  · intro m0 hW hK
    rw [List.take_length] at hW
    have hN := h.keep hK.keep
    refine b_Mo_turn_6 ⟨fun _ => ?_, fun c => absurd ((hN.ge (Nat.le_refl _)).mpr rfl) c⟩
    refine (s_changes hN (hM.kx hK) hW).mono ?_
    rintro r m2 ⟨g1, g2, g3, g4⟩
    exact ⟨g1, g2, g3, hK.keep.kt.tr g4⟩
  · intro i hi ih m0 hW hK
    have hN := h.keep hK.keep
    have hsi := hG.2.2.2 i
    have hlt := tnF_lt hn1 hsi
    have hadd : addNew ((S.take i).map (tnF n)) (tnF n (S.getD i 0)) = (S.take (i + 1)).map (tnF n) := map_addNew hi (fun j hj e => hG.2.1 j i hj hi (tnF_inj hn1 (hG.2.2.2 j) hsi e)) (fun e => hG.2.2.1 i hi (tnF_inj hn1 hsi (Nat.two_pow_pos n) (by rw [e, tnF_0])))
    have hlen : ((S.take i).map (tnF n)).length < 16 := by rw [List.length_map, List.length_take]; omega
    refine b_Mo_turn_6 ⟨fun c => absurd ((hN.ge (Nat.le_of_lt hi)).mp c) (by omega), fun _ => ⟨hN.vin hi, hN.vin hi, ?_⟩⟩
    rw [hN.row hi, hN.1, al (by omega), show (1 : Int32) = nI 1 from rfl, shl (by decide) (by omega), pk_sub hn1, shr (by omega) (by omega), ia, io, nI_add]
    have e : (S.getD i 0 * 2 ^ 1 &&& (2 ^ n - 1)) ||| (S.getD i 0 / 2 ^ (n - 1)) = tnF n (S.getD i 0) := by
      unfold tnF
      rw [Nat.pow_one, Nat.mul_comm (S.getD i 0) 2]
    rw [e]
    refine (s_wouldHave (d := d + 1) hW hlen (by omega)).mono ?_
    rintro m2 ⟨hW2, hK2⟩
    exact ih m2 (by rw [← hadd]; exact hW2) (hK.tr hK2)
theorem deg_z {p m : Nat} : cntP (fun i => (S.getD i 0).testBit p) m = 0 ↔ ¬ ∃ i, i < m ∧ (S.getD i 0).testBit p = true := by
  constructor
  · rintro h ⟨i, i1, i2⟩
    have := cntP_strict (f := fun _ => false) (g := fun i => (S.getD i 0).testBit p) (i0 := i) m (fun _ _ q => by simp at q) i1 (by simp) i2
    omega
  · intro h
    exact cntP_no _ (fun j hj q => h ⟨j, hj, q⟩)
/-- without, join, flip: all sets as f says, then becomes -/
theorem y_without {a : Int32} (h : Now mem n S) (hM : MH mem n H) : CI shM m_Mo_without (d + 2) [.ref 0, .int a] mem (fun r m' => r = aNew (cWithout n S a) (fun x => dif x (2 ^ a.toNatClampNeg)) S ∧ Now m' n (nS S (oNew (cWithout n S a) (fun x => dif x (2 ^ a.toNatClampNeg)) S)) ∧ MH m' n (nH H S (oNew (cWithout n S a) (fun x => dif x (2 ^ a.toNatClampNeg)) S)) ∧ Kt mem m') := by
  have hl := h.2.2.1
  have hn := h.2.2.2.1
  have no : ¬ cWithout n S a → (-1 : Int32) = aNew (cWithout n S a) (fun x => dif x (2 ^ a.toNatClampNeg)) S ∧ Now mem n (nS S (oNew (cWithout n S a) (fun x => dif x (2 ^ a.toNatClampNeg)) S)) ∧ MH mem n (nH H S (oNew (cWithout n S a) (fun x => dif x (2 ^ a.toNatClampNeg)) S)) ∧ Kt mem mem := fun z => by
    rw [aNew, oNew, ifP_f z, ifP_f z]; exact ⟨rfl, h, hM, Kt.rf⟩
  refine e_Mo_without ?_
  rw [h.1, isPt_iff hn]
  refine ⟨fun c => no (fun z => c z.1), fun c1 => ?_⟩
  obtain ⟨p, p1, rfl⟩ := pt_ex hn c1
  have ep : (nI p).toNatClampNeg = p := nI_clamp (by omega)
  have hcl := cntP_le (fun i => (S.getD i 0).testBit p) S.length
  refine (s_degreeOf h (by omega)).to ?_
  rw [nI_z (by omega), deg_z]
  refine ⟨fun z => ?_, fun z => no (fun q => z (by rw [← ep]; exact q.2))⟩
  have hc : cWithout n S (nI p) := ⟨c1, by rw [ep]; exact Classical.not_not.mp z⟩
  rw [aNew, oNew, ifP_t hc, ifP_t hc, ep]
  refine (s_wouldBegin).mono ?_
  rintro m1 ⟨hW1, hK1⟩
  have hfs : ∀ i, dif (S.getD i 0) (2 ^ p) < 1024 := fun i => dif_lt (m := 10) (h.2.2.2.2.2 i)
  refine downInd (P := fun i => ∀ m0 : Mem, Wo m0 (naT (fun x => dif x (2 ^ p)) S i) → Kx mem m0 → Wp shM m_Mo_without (d + 2) 24 [some (.ref 0), some (.int (nI p)), some (.int (nI i))] [] m0 (QI (fun r m' => r = nI (naT (fun x => dif x (2 ^ p)) S S.length).length ∧ Now m' n (nS S (some (naT (fun x => dif x (2 ^ p)) S S.length))) ∧ MH m' n (nH H S (some (naT (fun x => dif x (2 ^ p)) S S.length))) ∧ Kt mem m'))) S.length ?_ ?_ 0 (Nat.zero_le _) m1 hW1 hK1
  · intro m0 hW hK
    have hN := h.keep hK.keep
    refine b_Mo_without_24 ⟨fun _ => ?_, fun c => absurd ((hN.ge (Nat.le_refl _)).mpr rfl) c⟩
    refine (s_becomes hN (hM.kx hK) hW).mono ?_
    rintro m2 ⟨g1, g2, g3⟩
    exact ⟨g1.2.1, g1, g2, hK.keep.kt.tr g3⟩
  · intro i hi ih m0 hW hK
    have hN := h.keep hK.keep
    have hnl := naT_len (fun x => dif x (2 ^ p)) S i
    refine b_Mo_without_24 ⟨fun c => absurd ((hN.ge (Nat.le_of_lt hi)).mp c) (by omega), fun _ => ⟨hN.vin hi, ?_⟩⟩
    rw [hN.row hi, sh1 (by omega), idif]
    refine (s_wouldHave hW (by omega) (hfs i)).mono ?_
    rintro m2 ⟨hW2, hK2⟩
    rw [nI_1]
    exact ih m2 hW2 (hK.tr hK2)
theorem y_join {a b : Int32} (h : Now mem n S) (hM : MH mem n H) : CI shM m_Mo_join (d + 2) [.ref 0, .int a, .int b] mem (fun r m' => r = aNew (cJoin n S a b) (jnF a.toNatClampNeg b.toNatClampNeg) S ∧ Now m' n (nS S (oNew (cJoin n S a b) (jnF a.toNatClampNeg b.toNatClampNeg) S)) ∧ MH m' n (nH H S (oNew (cJoin n S a b) (jnF a.toNatClampNeg b.toNatClampNeg) S)) ∧ Kt mem m') := by
  have hl := h.2.2.1
  have hn := h.2.2.2.1
  have no : ¬ cJoin n S a b → (-1 : Int32) = aNew (cJoin n S a b) (jnF a.toNatClampNeg b.toNatClampNeg) S ∧ Now mem n (nS S (oNew (cJoin n S a b) (jnF a.toNatClampNeg b.toNatClampNeg) S)) ∧ MH mem n (nH H S (oNew (cJoin n S a b) (jnF a.toNatClampNeg b.toNatClampNeg) S)) ∧ Kt mem mem := fun z => by
    rw [aNew, oNew, ifP_f z, ifP_f z]; exact ⟨rfl, h, hM, Kt.rf⟩
  refine e_Mo_join ?_
  rw [h.1, isPt_iff hn, isPt_iff hn]
  refine ⟨fun c => no (fun z => c z.1), fun c1 => ⟨fun c => no (fun z => c z.2.1), fun c2 => ⟨fun c => no (fun z => z.2.2.1 c), fun c3 => ?_⟩⟩⟩
  obtain ⟨p, p1, rfl⟩ := pt_ex hn c1
  obtain ⟨q, q1, rfl⟩ := pt_ex hn c2
  have ep : (nI p).toNatClampNeg = p := nI_clamp (by omega)
  have eq' : (nI q).toNatClampNeg = q := nI_clamp (by omega)
  have hcl := cntP_le (fun i => (S.getD i 0).testBit q) S.length
  refine (s_degreeOf h (by omega)).to ?_
  rw [nI_z (by omega), deg_z]
  refine ⟨fun z => ?_, fun z => no (fun y => z (by rw [← eq']; exact y.2.2.2))⟩
  have hc : cJoin n S (nI p) (nI q) := ⟨c1, c2, c3, by rw [eq']; exact Classical.not_not.mp z⟩
  rw [aNew, oNew, ifP_t hc, ifP_t hc, ep, eq']
  refine (s_wouldBegin).mono ?_
  rintro m1 ⟨hW1, hK1⟩
  have hfs : ∀ i, jnF p q (S.getD i 0) < 1024 := fun i => by
    unfold jnF
    split
    · exact Nat.or_lt_two_pow (n := 10) (dif_lt (m := 10) (h.2.2.2.2.2 i)) (Nat.pow_lt_pow_right (by decide) (by omega))
    · exact h.2.2.2.2.2 i
  refine downInd (P := fun i => ∀ m0 : Mem, Wo m0 (naT (jnF p q) S i) → Kx mem m0 → Wp shM m_Mo_join (d + 2) 37 [some (.ref 0), some (.int (nI p)), some (.int (nI q)), some (.int (nI i))] [] m0 (QI (fun r m' => r = nI (naT (jnF p q) S S.length).length ∧ Now m' n (nS S (some (naT (jnF p q) S S.length))) ∧ MH m' n (nH H S (some (naT (jnF p q) S S.length))) ∧ Kt mem m'))) S.length ?_ ?_ 0 (Nat.zero_le _) m1 hW1 hK1
  · intro m0 hW hK
    have hN := h.keep hK.keep
    refine b_Mo_join_37 ⟨fun _ => ?_, fun c => absurd ((hN.ge (Nat.le_refl _)).mpr rfl) c⟩
    refine (s_becomes hN (hM.kx hK) hW).mono ?_
    rintro m2 ⟨g1, g2, g3⟩
    exact ⟨g1.2.1, g1, g2, hK.keep.kt.tr g3⟩
  · intro i hi ih m0 hW hK
    have hN := h.keep hK.keep
    have hnl := naT_len (jnF p q) S i
    have hsm := h.2.2.2.2.2 i
    refine b_Mo_join_37 ⟨fun c => absurd ((hN.ge (Nat.le_of_lt hi)).mp c) (by omega), fun _ => ⟨hN.vin hi, ?_⟩⟩
    rw [hN.row hi, sh1 (by omega), sh1 (by omega), idif, io, hasI (by omega) (by omega)]
    have hfi := hfs i
    rw [naT] at ih
    refine ⟨fun z => ⟨hN.vin hi, ?_⟩, fun z => ⟨hN.vin hi, ?_⟩⟩
    · have e : jnF p q (S.getD i 0) = S.getD i 0 := by unfold jnF; rw [if_neg z]
      rw [e] at ih
      refine (s_wouldHave hW (by omega) hsm).mono ?_
      rintro m2 ⟨hW2, hK2⟩
      rw [nI_1]
      exact ih m2 hW2 (hK.tr hK2)
    · have e : jnF p q (S.getD i 0) = dif (S.getD i 0) (2 ^ q) ||| 2 ^ p := by unfold jnF; rw [if_pos z]
      rw [e] at ih hfi
      refine (s_wouldHave hW (by omega) hfi).mono ?_
      rintro m2 ⟨hW2, hK2⟩
      rw [nI_1]
      exact ih m2 hW2 (hK.tr hK2)
theorem y_flip (h : Now mem n S) (hM : MH mem n H) : CI shM m_Mo_flip (d + 2) [.ref 0] mem (fun r m' => r = aNew (S.length ≠ 0) (fun x => dif (2 ^ n - 1) x) S ∧ Now m' n (nS S (oNew (S.length ≠ 0) (fun x => dif (2 ^ n - 1) x) S)) ∧ MH m' n (nH H S (oNew (S.length ≠ 0) (fun x => dif (2 ^ n - 1) x) S)) ∧ Kt mem m') := by
  have hl := h.2.2.1
  have hn := h.2.2.2.1
  have hpn : 2 ^ n ≤ 2 ^ 10 := Nat.pow_le_pow_right (by decide) hn
  have h1n : 1 ≤ 2 ^ n := Nat.one_le_two_pow
  refine e_Mo_flip ?_
  rw [h.2.1, nI_z (by omega)]
  refine ⟨fun z => ?_, fun z => ?_⟩
  · rw [aNew, oNew, ifP_t z, ifP_t z]
    refine (s_wouldBegin).mono ?_
    rintro m1 ⟨hW1, hK1⟩
    have hfs : ∀ i, dif (2 ^ n - 1) (S.getD i 0) < 1024 := fun i => Nat.lt_of_lt_of_le (dif_lt (m := n) (by omega)) hpn
    refine downInd (P := fun i => ∀ m0 : Mem, Wo m0 (naT (fun x => dif (2 ^ n - 1) x) S i) → Kx mem m0 → Wp shM m_Mo_flip (d + 2) 15 [some (.ref 0), some (.int (nI i))] [] m0 (QI (fun r m' => r = nI (naT (fun x => dif (2 ^ n - 1) x) S S.length).length ∧ Now m' n (nS S (some (naT (fun x => dif (2 ^ n - 1) x) S S.length))) ∧ MH m' n (nH H S (some (naT (fun x => dif (2 ^ n - 1) x) S S.length))) ∧ Kt mem m'))) S.length ?_ ?_ 0 (Nat.zero_le _) m1 hW1 hK1
    · intro m0 hW hK
      have hN := h.keep hK.keep
      refine b_Mo_flip_15 ⟨fun _ => ?_, fun c => absurd ((hN.ge (Nat.le_refl _)).mpr rfl) c⟩
      refine (s_becomes hN (hM.kx hK) hW).mono ?_
      rintro m2 ⟨g1, g2, g3⟩
      exact ⟨g1.2.1, g1, g2, hK.keep.kt.tr g3⟩
    · intro i hi ih m0 hW hK
      have hN := h.keep hK.keep
      have hnl := naT_len (fun x => dif (2 ^ n - 1) x) S i
      refine b_Mo_flip_15 ⟨fun c => absurd ((hN.ge (Nat.le_of_lt hi)).mp c) (by omega), fun _ => ⟨hN.vin hi, ?_⟩⟩
      rw [hN.row hi, hN.1, al (by omega), idif]
      refine (s_wouldHave hW (by omega) (hfs i)).mono ?_
      rintro m2 ⟨hW2, hK2⟩
      rw [nI_1]
      exact ih m2 hW2 (hK.tr hK2)
  · rw [aNew, oNew, ifP_f (fun q => q z), ifP_f (fun q => q z)]
    exact ⟨rfl, h, hM, Kt.rf⟩
theorem went_iff {p : Nat → Bool} : S.length - (sel (fun i => S.getD i 0) p S.length).length = cntP (fun i => !p i) S.length := by
  have := cntP_not p S.length
  rw [sel_cnt]
  omega
theorem sel_fin {c : Prop} {p : Nat → Bool} (hc : c) (h : Now mem n S) (hM : MH mem n H) (hW : Wo mem (sel (fun i => S.getD i 0) p S.length)) {m0 : Mem} (hk : Kt m0 mem) : (¬ ((mem 1 1) - (mem 0 6)) = 0 → CV shM m_Mo_becomes (d + 1) [.ref 0] mem (fun m' => (fun r m' => r = aSel c p S ∧ Now m' n (nS S (oSel c p S)) ∧ MH m' n (nH H S (oSel c p S)) ∧ Kt m0 m') ((mem 1 1) - (mem 0 6)) m')) ∧ (((mem 1 1) - (mem 0 6)) = 0 → (fun r m' => r = aSel c p S ∧ Now m' n (nS S (oSel c p S)) ∧ MH m' n (nH H S (oSel c p S)) ∧ Kt m0 m') (-1) mem) := by
  have hl := h.2.2.1
  have hsl := sel_len (fun i => S.getD i 0) p S.length
  have hcl := cntP_le (fun i => !p i) S.length
  rw [h.2.1, hW.1, pk_sub hsl, went_iff, nI_z (by omega)]
  refine ⟨fun z => ?_, fun z => ?_⟩
  · have hz : c ∧ cntP (fun i => !p i) S.length ≠ 0 := ⟨hc, z⟩
    refine (s_becomes h hM hW).mono ?_
    rintro m2 ⟨g1, g2, g3⟩
    simp only [aSel, oSel, ifP_t hz]
    exact ⟨trivial, g1, g2, hk.tr g3⟩
  · have hz : ¬ (c ∧ cntP (fun i => !p i) S.length ≠ 0) := fun q => q.2 z
    simp only [aSel, oSel, ifP_f hz]
    exact ⟨trivial, h, hM, hk⟩
theorem y_only {a w : Int32} (h : Now mem n S) (hM : MH mem n H) (hG : GdS n S) (hw : w = 0 ∨ w = 1) : CI shM m_Mo_only (d + 2) [.ref 0, .int a, .int w] mem (fun r m' => r = aSel (Ptp n a) (onP S a w) S ∧ Now m' n (nS S (oSel (Ptp n a) (onP S a w) S)) ∧ MH m' n (nH H S (oSel (Ptp n a) (onP S a w) S)) ∧ Kt mem m') := by
  have hl := h.2.2.1
  have hn := h.2.2.2.1
  refine e_Mo_only ?_
  rw [h.1, isPt_iff hn]
  refine ⟨fun c1 => ?_, fun c => ?_⟩
  · obtain ⟨p, p1, rfl⟩ := pt_ex hn c1
    have ep : (nI p).toNatClampNeg = p := nI_clamp (by omega)
    refine (s_wouldBegin).mono ?_
    rintro m1 ⟨hW1, hK1⟩
    refine downInd (P := fun i => ∀ m0 : Mem, Wo m0 (sel (fun i => S.getD i 0) (onP S (nI p) w) i) → Kx mem m0 → Wp shM m_Mo_only (d + 2) 16 [some (.ref 0), some (.int (nI p)), some (.int w), some (.int (nI i))] [] m0 (QI (fun r m' => r = aSel (Ptp n (nI p)) (onP S (nI p) w) S ∧ Now m' n (nS S (oSel (Ptp n (nI p)) (onP S (nI p) w) S)) ∧ MH m' n (nH H S (oSel (Ptp n (nI p)) (onP S (nI p) w) S)) ∧ Kt mem m'))) S.length ?_ ?_ 0 (Nat.zero_le _) m1 hW1 hK1
    · intro m0 hW hK
      have hN := h.keep hK.keep
      refine b_Mo_only_16 ⟨fun _ => ?_, fun c => absurd ((hN.ge (Nat.le_refl _)).mpr rfl) c⟩
      exact sel_fin c1 hN (hM.kx hK) hW hK.keep.kt
    · intro i hi ih m0 hW hK
      have hN := h.keep hK.keep
      have hsm := h.2.2.2.2.2 i
      have hsl := sel_len (fun i => S.getD i 0) (onP S (nI p) w) i
      have hb : (b2i (((nI (S.getD i 0)) >>> (nI p &&& 31)) &&& 1 = 1) = w) ↔ onP S (nI p) w i = true := by
        unfold b2i onP
        rw [ep]
        by_cases z1 : ((nI (S.getD i 0)) >>> (nI p &&& 31)) &&& 1 = 1
        · rw [if_pos z1]
          rw [hasI (by omega) (by omega)] at z1
          rw [z1]
          rcases hw with e | e <;> subst e <;> simp
        · rw [if_neg z1]
          rw [hasI (by omega) (by omega), Bool.not_eq_true] at z1
          rw [z1]
          rcases hw with e | e <;> subst e <;> simp
      refine b_Mo_only_16 ⟨fun c => absurd ((hN.ge (Nat.le_of_lt hi)).mp c) (by omega), fun _ => ⟨hN.vin hi, ?_⟩⟩
      rw [hN.row hi, hb]
      refine ⟨fun z => ?_, fun z => ⟨hN.vin hi, ?_⟩⟩
      · rw [sel_succ, if_neg z] at ih
        rw [nI_1]
        exact ih m0 hW hK
      · refine (s_wouldHave hW (by omega) hsm).mono ?_
        rintro m2 ⟨hW2, hK2⟩
        rw [nI_1]
        exact ih m2 (by rw [← sel_addNew (fun j hj => hG.2.1 j i hj hi) (hG.2.2.1 i hi) z]; exact hW2) (hK.tr hK2)
  · rw [aSel, oSel, ifP_f (fun q => c q.1), ifP_f (fun q => c q.1)]
    exact ⟨rfl, h, hM, Kt.rf⟩
theorem y_thin {a : Int32} (h : Now mem n S) (hM : MH mem n H) (hG : GdS n S) : CI shM m_Mo_thin (d + 3) [.ref 0, .int a] mem (fun r m' => r = aSel (2 ≤ a ∧ a ≤ 16) (fun i => (mfN S a.toNatClampNeg).testBit i) S ∧ Now m' n (nS S (oSel (2 ≤ a ∧ a ≤ 16) (fun i => (mfN S a.toNatClampNeg).testBit i) S)) ∧ MH m' n (nH H S (oSel (2 ≤ a ∧ a ≤ 16) (fun i => (mfN S a.toNatClampNeg).testBit i) S)) ∧ Kt mem m') := by
  have hl := h.2.2.1
  have hp17 := pow17 (m := S.length) (by omega)
  refine e_Mo_thin ⟨fun c => ?_, fun c => ?_⟩
  · obtain ⟨k, hk2, hk, rfl⟩ := of_2_16 c
    rw [nI_clamp (by omega)]
    refine (s_mostFree h hk2 hk).mono ?_
    rintro r m0' ⟨⟨b, e1, e2⟩, hK0⟩
    have hb := e2.1
    rw [mfN_eq e2, e1]
    have h' := h.keep hK0
    refine (s_wouldBegin).mono ?_
    rintro m1 ⟨hW1, hK1⟩
    refine downInd (P := fun i => ∀ m0 : Mem, Wo m0 (sel (fun i => S.getD i 0) (fun i => b.testBit i) i) → Kx m0' m0 → Wp shM m_Mo_thin (d + 3) 21 [some (.ref 0), none, some (.int (nI b)), some (.int (nI i))] [] m0 (QI (fun r m' => r = aSel (2 ≤ nI k ∧ nI k ≤ 16) (fun i => b.testBit i) S ∧ Now m' n (nS S (oSel (2 ≤ nI k ∧ nI k ≤ 16) (fun i => b.testBit i) S)) ∧ MH m' n (nH H S (oSel (2 ≤ nI k ∧ nI k ≤ 16) (fun i => b.testBit i) S)) ∧ Kt mem m'))) S.length ?_ ?_ 0 (Nat.zero_le _) m1 hW1 hK1
    · intro m0 hW hK
      have hN := h'.keep hK.keep
      refine b_Mo_thin_21 ⟨fun _ => ?_, fun c => absurd ((hN.ge (Nat.le_refl _)).mpr rfl) c⟩
      exact sel_fin c hN ((hM.keep hK0).kx hK) hW (hK0.kt.tr hK.keep.kt)
    · intro i hi ih m0 hW hK
      have hN := h'.keep hK.keep
      have hsm := h.2.2.2.2.2 i
      have hsl := sel_len (fun i => S.getD i 0) (fun i => b.testBit i) i
      refine b_Mo_thin_21 ⟨fun c => absurd ((hN.ge (Nat.le_of_lt hi)).mp c) (by omega), fun _ => ?_⟩
      rw [hasI (by omega) (by omega)]
      refine ⟨fun z => ?_, fun z => ⟨hN.vin hi, ?_⟩⟩
      · rw [sel_succ, if_neg z] at ih
        rw [nI_1]
        exact ih m0 hW hK
      · rw [hN.row hi]
        refine (s_wouldHave (d := d + 1) hW (by omega) hsm).mono ?_
        rintro m2 ⟨hW2, hK2⟩
        rw [nI_1]
        exact ih m2 (by rw [← sel_addNew (fun j hj => hG.2.1 j i hj hi) (hG.2.2.1 i hi) z]; exact hW2) (hK.tr hK2)
  · rw [aSel, oSel, ifP_f (fun q => c q.1), ifP_f (fun q => c q.1)]
    exact ⟨rfl, h, hM, Kt.rf⟩
theorem y_reduce {a : Int32} (h : Now mem n S) (hM : MH mem n H) : CI shM m_Mo_reduce (d + 4) [.ref 0, .int a] mem (fun r m' => r = aReduce S a ∧ Now m' n (nS S (oReduce S a)) ∧ MH m' n (nH H S (oReduce S a)) ∧ Kt mem m') := by
  refine e_Mo_reduce ⟨fun c => ?_, fun c => ?_⟩
  · obtain ⟨b, hb1, hb, rfl⟩ := of_1_5 c
    rw [aReduce, oReduce, ifP_t c, nI_clamp (by omega)]
    refine (s_kernels h hb1 hb).mono ?_
    rintro m1 ⟨⟨hN, hD, h19⟩, hK⟩
    have h1 := h.keep hK
    have hM1 := hM.keep hK
    have h16 := hD.2.1
    rw [h19, hD.1, nI_z (by omega)]
    refine ⟨fun z => ⟨fun z2 => ?_, fun z2 => ?_⟩, fun z => ?_⟩
    · rw [if_neg (fun q => q z), if_neg z2, ifP_t ⟨c, z, z2⟩]
      refine (s_keeps h1 hM1).mono ?_
      rintro m2 ⟨k1, k2, k3, k4⟩
      obtain ⟨w1, w2, w3, w4⟩ := hN
      generalize (kerF b 16 S).2.1 = T at w1 w2 w3 w4
      refine downInd (P := fun i => ∀ m0 : Mem, (∀ c, c ≠ 1 → m0 c = m2 c) → m0 1 0 = nI n → (∀ j, j < i → m0 1 (2 + j) = nI (T.getD j 0)) → Wp shM m_Mo_reduce (d + 4) 39 [some (.ref 0), none, some (.int (nI i))] [] m0 (QI (fun r m' => r = nI T.length ∧ Now m' n (nS S (some T)) ∧ MH m' n (nH H S (some T)) ∧ Kt mem m'))) T.length ?_ ?_ 0 (Nat.zero_le _) m2 (fun _ _ => rfl) (by rw [k2]; exact h1.1) (fun j hj => absurd hj (Nat.not_lt_zero _))
      · intro m0 e1 e2 e3
        have e13 : m0 0 13 = nI T.length := by rw [e1 0 (by decide), k4 13 (by decide)]; exact w1
        refine b_Mo_reduce_39 ⟨fun _ => ⟨by rw [up2_ne (by decide)]; exact e13, ⟨by rw [up2_nj (by decide)]; exact e2, by rw [up2_at]; exact e13, w2, h.2.2.2.1, fun i hi => by rw [up2_nj (by omega)]; exact e3 i hi, w4⟩, ?_, ?_⟩, fun c => absurd (by rw [e13]; exact nI_le (Nat.le_refl _) (by omega)) c⟩
        · exact k1.of (by rw [up2_ne (by decide), e1 0 (by decide)]) (by rw [up2_ne (by decide), e1 3 (by decide)])
        · exact hK.kt.tr ⟨by rw [up2_ne (by decide), e1 16 (by decide), k3 16 (by decide) (by decide)], by rw [up2_ne (by decide), e1 17 (by decide), k3 17 (by decide) (by decide)], by rw [up2_ne (by decide), e1 0 (by decide), k4 26 (by decide)]⟩
      · intro i hi ih m0 e1 e2 e3
        have e13 : m0 0 13 = nI T.length := by rw [e1 0 (by decide), k4 13 (by decide)]; exact w1
        refine b_Mo_reduce_39 ⟨fun c => absurd c (by rw [e13]; exact nI_ge hi (by omega)), fun _ => ⟨vp_in_nI (by omega) (by decide), ?_, ?_⟩⟩
        · rw [show (2 : Int32) = nI 2 from rfl, nI_add]; exact vp_in_nI (by omega) (by decide)
        · rw [show (2 : Int32) = nI 2 from rfl, nI_add, nI_clamp (by omega), nI_clamp (by omega), e1 8 (by decide), k3 8 (by decide) (by decide), w3 i hi, nI_1]
          refine ih _ (fun c hc => by rw [up2_ne hc]; exact e1 c hc) (by rw [up2_nj (by omega)]; exact e2) (fun j hj => ?_)
          by_cases e : j = i
          · subst e; rw [up2_at]
          · rw [up2_nj (by omega)]; exact e3 j (by omega)
    · rw [if_neg (fun q => q z), if_pos z2, ifP_f (fun q => q.2.2 z2)]
      exact ⟨rfl, h1, hM1, hK.kt⟩
    · rw [if_pos z, ifP_f (fun q => z q.2.1)]
      exact ⟨rfl, h1, hM1, hK.kt⟩
  · rw [aReduce, oReduce, ifP_f c, ifP_f (fun q => c q.1)]
    exact ⟨rfl, h, hM, Kt.rf⟩
theorem y_undo (h : Now mem n S) (hM : MH mem n H) (hs : ∀ i, (uS S H).getD i 0 < 1024) : CI shM m_Mo_undo d [.ref 0] mem (fun r m' => r = aUndo H ∧ Now m' n (uS S H) ∧ MH m' n H.tail ∧ Kt mem m') := by
  obtain ⟨a, b, c⟩ := id hM
  refine e_Mo_undo ?_
  rw [a, nI_z (by omega)]
  cases H with
  | nil => exact ⟨fun z => absurd rfl z, fun _ => ⟨rfl, h, hM, Kt.rf⟩⟩
  | cons T H' =>
    refine ⟨fun _ => ?_, fun z => absurd z (by simp)⟩
    rw [List.length_cons] at a b
    obtain ⟨t1, t2⟩ := c 0 (by rw [List.length_cons]; omega)
    have eT : (T :: H').getD 0 [] = T := rfl
    rw [eT] at t1 t2
    rw [List.length_cons, show H'.length + 1 - 1 - 0 = H'.length by omega] at t2
    rw [List.length_cons, show nI (H'.length + 1) - 1 = nI H'.length from nI_pred _]
    have e4 : (up2 mem 0 4 (nI H'.length)) 0 4 = nI H'.length := up2_at
    refine downInd (P := fun k => ∀ m0 : Mem, m0 0 = (up2 mem 0 4 (nI H'.length)) 0 → (∀ c, c ≠ 0 → c ≠ 1 → m0 c = mem c) → (∀ q, q < k → m0 1 q = mem 3 (18 * H'.length + q)) → Wp shM m_Mo_undo d 21 [some (.ref 0), some (.int (nI k))] [] m0 (QI (fun r m' => r = nI H'.length ∧ Now m' n T ∧ MH m' n H' ∧ Kt mem m'))) 18 ?_ ?_ 0 (Nat.zero_le _) _ rfl (fun c c0 _ => up2_ne c0) (fun q hq => absurd hq (Nat.not_lt_zero _))
    · intro m0 e0 ec e1
      have e04 : m0 0 4 = nI H'.length := by rw [e0]; exact e4
      refine b_Mo_undo_21 ⟨fun _ => ⟨e04, ⟨?_, ?_, t1, h.2.2.2.1, fun i hi => ?_, hs⟩, ⟨e04, by omega, fun j hj => ?_⟩, ?_⟩, fun q => absurd (show (18 : Int32) ≤ nI 18 from nI_le (a := 18) (Nat.le_refl _) (by decide)) q⟩
      · rw [e1 0 (by decide)]; exact t2.1
      · rw [e1 1 (by decide)]; exact t2.2.1
      · rw [e1 (2 + i) (by omega), ← Nat.add_assoc]; exact t2.2.2 i hi
      · obtain ⟨u1, u2⟩ := c (j + 1) (by rw [List.length_cons]; omega)
        have eH : (T :: H').getD (j + 1) [] = H'.getD j [] := rfl
        rw [eH] at u1 u2
        rw [List.length_cons, show H'.length + 1 - 1 - (j + 1) = H'.length - 1 - j by omega] at u2
        exact ⟨u1, u2.of u1 (fun q _ => by rw [ec 3 (by decide) (by decide)])⟩
      · exact ⟨ec 16 (by decide) (by decide), ec 17 (by decide) (by decide), by rw [e0, up2_nj (by decide)]⟩
    · intro k hk ih m0 e0 ec e1
      have e04 : m0 0 4 = nI H'.length := by rw [e0]; exact e4
      refine b_Mo_undo_21 ⟨fun q => absurd q (by rw [show (18 : Int32) = nI 18 from rfl, nI_leI (by decide) (by omega)]; omega), fun _ => ⟨?_, vp_in_nI hk (by decide), ?_⟩⟩
      · rw [e04, show (18 : Int32) = nI 18 from rfl, pk_mul, nI_add]; exact vp_in_nI (by omega) (by decide)
      · rw [e04, show (18 : Int32) = nI 18 from rfl, pk_mul, nI_add, nI_clamp (by omega), nI_clamp (by omega), nI_1, ec 3 (by decide) (by decide)]
        refine ih _ (by rw [up2_ne (by decide)]; exact e0) (fun c c0 c1 => by rw [up2_ne c1]; exact ec c c0 c1) (fun q hq => ?_)
        by_cases e : q = k
        · subst e; rw [up2_at]
        · rw [up2_nj e]; exact e1 q (by omega)
end AC2
