/-! freeNext of the reference: all sunflowers of k - 1 sets are laid in a table -/
def bn : Nat → Nat → Nat
  | 0, 0 => 1
  | 0, _ + 1 => 0
  | i + 1, 0 => bn i 0
  | i + 1, k + 1 => bn i (k + 1) + bn i k
theorem cnt_pop : ∀ i, i ≤ 19 → ∀ k, cntP (fun b => decide (pop b = k)) (2 ^ i) = bn i k
  | 0, _, 0 => by decide
  | 0, _, k + 1 => by
    have : ¬ (0 = k + 1) := by omega
    simp [cntP, bn, pop_zero, this]
  | i + 1, h, 0 => by
    rw [cnt_split, cnt_pop i (by omega) 0, bn, cntP_no (f := fun x => decide (pop (x + 2 ^ i) = 0)) (2 ^ i) (fun j hj => by rw [pop_top hj (by omega)]; simp), Nat.add_zero]
  | i + 1, h, k + 1 => by
    rw [cnt_split, cnt_pop i (by omega) (k + 1), bn, cntP_cong (2 ^ i) (q := fun b => decide (pop b = k)) (fun j hj => by rw [pop_top hj (by omega)]; simp), cnt_pop i (by omega) k]
theorem bn_le : ∀ i, i < 17 → ∀ k, k < 17 → bn i k ≤ 12870 := by decide +kernel
theorem cntP_mono {f g : Nat → Bool} : ∀ m, (∀ i, i < m → f i = true → g i = true) → cntP f m ≤ cntP g m
  | 0, _ => Nat.le_refl _
  | m + 1, h => by
    have h1 := cntP_mono m (fun i hi => h i (by omega))
    have h2 := h m (by omega)
    rw [cntP, cntP]
    by_cases e : f m = true
    · rw [if_pos e, if_pos (h2 e)]; omega
    · rw [if_neg e]; split <;> omega
theorem cntP_ext {f : Nat → Bool} {a b : Nat} (h : a ≤ b) : cntP f a ≤ cntP f b := by
  obtain ⟨c, rfl⟩ : ∃ c, b = a + c := ⟨b - a, by omega⟩
  rw [cnt_add]; omega
def Gd1 (S : List Nat) (k b : Nat) : Prop := pop b = k ∧ (k = 1 ∨ ∃ c, Cl (fun i => S.getD i 0) c b)
noncomputable def gdB (S : List Nat) (k b : Nat) : Bool := @decide (Gd1 S k b) (Classical.propDecidable _)
theorem gdB_iff {S : List Nat} {k b : Nat} : gdB S k b = true ↔ Gd1 S k b := @decide_eq_true_iff _ (Classical.propDecidable _)
def CoV (S : List Nat) (k b : Nat) (v : Int32) : Prop := k = 1 ∨ ∃ c, Cl (fun i => S.getD i 0) c b ∧ v = nI c
def Sml (mem : Mem) (S : List Nat) (k N : Nat) : Prop := mem 0 22 = nI (cntP (gdB S k) N) ∧ (∀ j, j < cntP (gdB S k) N → ∃ b, b < N ∧ Gd1 S k b ∧ CoV S k b (mem 13 j) ∧ mem 14 j = nI (unT (fun i => S.getD i 0) b S.length)) ∧ ∀ b, b < N → Gd1 S k b → ∃ j, j < cntP (gdB S k) N ∧ CoV S k b (mem 13 j) ∧ mem 14 j = nI (unT (fun i => S.getD i 0) b S.length)
theorem Sml.skip {mem : Mem} {S : List Nat} {k i : Nat} (h : Sml mem S k i) (hi : ¬ Gd1 S k i) : Sml mem S k (i + 1) := by
  have e : cntP (gdB S k) (i + 1) = cntP (gdB S k) i := by rw [cntP, if_neg (fun q => hi (gdB_iff.mp q))]; rfl
  obtain ⟨h1, h2, h3⟩ := h
  refine ⟨by rw [e]; exact h1, fun j hj => ?_, fun b hb hg => ?_⟩
  · rw [e] at hj
    obtain ⟨b, b1, b2⟩ := h2 j hj
    exact ⟨b, by omega, b2⟩
  · by_cases q : b = i
    · subst q; exact absurd hg hi
    · rw [e]; exact h3 b (by omega) hg
theorem core_union {g : Nat → Nat} {b c x m : Nat} (hb : b < 2 ^ m) (hm : m ≤ 17) (hp : 2 ≤ pop b) (hc : Cl g c b) : x &&& unT g b m = c ↔ ∀ i, b.testBit i = true → g i &&& x = c := by
  obtain ⟨i0, j0, q1, q2, q3⟩ := (two_bits (by omega) hb).mpr hp
  have hsub : ∀ i, b.testBit i = true → ∀ p, c.testBit p = true → (g i).testBit p = true := by
    intro i hi p hpc
    have hex : ∃ j, j ≠ i ∧ b.testBit j = true := by
      by_cases e : i = i0
      · exact ⟨j0, by omega, q3⟩
      · exact ⟨i0, by omega, q2⟩
    obtain ⟨j, hj, hjb⟩ := hex
    rcases Nat.lt_or_gt_of_ne hj with z | z
    · rw [← hc i j z hi hjb, Nat.testBit_and, Bool.and_eq_true] at hpc
      exact hpc.1
    · rw [← hc j i z hjb hi, Nat.testBit_and, Bool.and_eq_true] at hpc
      exact hpc.2
  constructor
  · intro h i hi
    apply Nat.eq_of_testBit_eq
    intro p
    rw [Bool.eq_iff_iff, Nat.testBit_and, Bool.and_eq_true]
    constructor
    · rintro ⟨z1, z2⟩
      rw [← h, Nat.testBit_and, z2, Bool.true_and]
      exact (unT_bit g b p m).mpr ⟨i, bit_lt hb hi, hi, z1⟩
    · intro z
      refine ⟨hsub i hi p z, ?_⟩
      rw [← h, Nat.testBit_and, Bool.and_eq_true] at z
      exact z.1
  · intro h
    apply Nat.eq_of_testBit_eq
    intro p
    rw [Bool.eq_iff_iff, Nat.testBit_and, Bool.and_eq_true]
    constructor
    · rintro ⟨z1, z2⟩
      obtain ⟨k, k1, k2, k3⟩ := (unT_bit g b p m).mp z2
      rw [← h k k2, Nat.testBit_and, z1, k3]; rfl
    · intro z
      have z2 := z
      rw [← h i0 q2, Nat.testBit_and, Bool.and_eq_true] at z2
      exact ⟨z2.2, (unT_bit g b p m).mpr ⟨i0, bit_lt hb q2, q2, z2.1⟩⟩
section FNM
variable {d n : Nat} {S : List Nat} {mem : Mem}
theorem s_laysSmall {k : Nat} (h : Rw mem S) (hl : S.length ≤ 16) (hk1 : 1 ≤ k) (hk : k ≤ 15) : CV shM m_Mo_laysSmall (d + 2) [.ref 0, .int (nI k)] mem (fun m' => Sml m' S k (2 ^ S.length) ∧ Keep mem m') := by
  have hp := pow17 (m := S.length) (by omega)
  have h1p : 1 ≤ 2 ^ S.length := Nat.one_le_two_pow
  have hp0 : ¬ Gd1 S k 0 := fun z => by have := z.1; rw [pop_zero] at this; omega
  have hc1 : cntP (gdB S k) 1 = 0 := by
    rw [cntP, if_neg (fun q => hp0 (gdB_iff.mp q))]; rfl
  refine e_Mo_laysSmall ?_
  have key : ∀ i, i ≤ 2 ^ S.length → 1 ≤ i → ∀ m0 : Mem, Rw m0 S → Keep mem m0 → Sml m0 S k i → Wp shM m_Mo_laysSmall (d + 2) 7 [some (.ref 0), some (.int (nI k)), some (.int (nI i)), none, none, none] [] m0 (QV (fun m' => Sml m' S k (2 ^ S.length) ∧ Keep mem m')) := by
    refine downInd (P := fun i => 1 ≤ i → ∀ m0 : Mem, Rw m0 S → Keep mem m0 → Sml m0 S k i → Wp shM m_Mo_laysSmall (d + 2) 7 [some (.ref 0), some (.int (nI k)), some (.int (nI i)), none, none, none] [] m0 (QV (fun m' => Sml m' S k (2 ^ S.length) ∧ Keep mem m'))) (2 ^ S.length) ?_ ?_
    · intro _ m0 hR hK hS
      exact b_Mo_laysSmall_7 ⟨fun _ => ⟨hS, hK⟩, fun c => absurd (by rw [hR.lim]; exact nI_le (Nat.le_refl _) (by omega)) c⟩
    · intro i hi ih hi1 m0 hR hK hS
      have skip : ¬ Gd1 S k i → Wp shM m_Mo_laysSmall (d + 2) 7 [some (.ref 0), some (.int (nI k)), some (.int (nI i + 1)), none, none, none] [] m0 (QV (fun m' => Sml m' S k (2 ^ S.length) ∧ Keep mem m')) := fun hn => by
        rw [nI_1]
        exact ih (by omega) m0 hR hK (hS.skip hn)
      have hpi := pop_le i
      have take : ∀ v : Int32, Gd1 S k i → CoV S k i v → Wp shM m_Mo_laysSmall (d + 2) 61 [some (.ref 0), some (.int (nI k)), some (.int (nI i)), some (.int v), some (.int 0), some (.int 0)] [] m0 (QV (fun m' => Sml m' S k (2 ^ S.length) ∧ Keep mem m')) := by
        intro v hg hv
        have hsucc : cntP (gdB S k) (i + 1) = cntP (gdB S k) i + 1 := by rw [cntP, if_pos (gdB_iff.mpr hg)]
        have hbd : cntP (gdB S k) (i + 1) ≤ 12870 := by
          refine Nat.le_trans (cntP_ext (b := 2 ^ S.length) hi) (Nat.le_trans (cntP_mono (g := fun b => decide (pop b = k)) _ (fun b _ hb => ?_)) (by rw [cnt_pop _ (by omega)]; exact bn_le _ (by omega) _ (by omega)))
          rw [decide_eq_true_iff]
          exact (gdB_iff.mp hb).1
        have key2 : ∀ j, j ≤ S.length → Wp shM m_Mo_laysSmall (d + 2) 61 [some (.ref 0), some (.int (nI k)), some (.int (nI i)), some (.int v), some (.int (nI (unT (fun i => S.getD i 0) i j))), some (.int (nI j))] [] m0 (QV (fun m' => Sml m' S k (2 ^ S.length) ∧ Keep mem m')) := by
          refine downInd (P := fun j => Wp shM m_Mo_laysSmall (d + 2) 61 [some (.ref 0), some (.int (nI k)), some (.int (nI i)), some (.int v), some (.int (nI (unT (fun i => S.getD i 0) i j))), some (.int (nI j))] [] m0 (QV (fun m' => Sml m' S k (2 ^ S.length) ∧ Keep mem m'))) S.length ?_ ?_
          · refine b_Mo_laysSmall_61 ⟨fun _ => ?_, fun c => absurd (by rw [hR.1]; exact nI_le (Nat.le_refl _) (by omega)) c⟩
            have e1 : (up2 m0 13 (m0 0 22).toNatClampNeg v) 0 22 = m0 0 22 := by rw [up2_ne (by decide)]
            have e2 : (up2 (up2 m0 13 (m0 0 22).toNatClampNeg v) 14 (m0 0 22).toNatClampNeg (nI (unT (fun i => S.getD i 0) i S.length))) 0 22 = m0 0 22 := by rw [up2_ne (by decide), up2_ne (by decide)]
            rw [e1, e2]
            have hc := hS.1
            have hcl : (m0 0 22).toNatClampNeg = cntP (gdB S k) i := by rw [hc, nI_clamp (by omega)]
            refine ⟨by rw [hc]; exact vp_in_nI (by omega) (by decide), by rw [hc]; exact vp_in_nI (by omega) (by decide), ?_⟩
            rw [hcl, nI_1]
            have m13 : ∀ j, (up2 (up2 (up2 m0 13 (cntP (gdB S k) i) v) 14 (cntP (gdB S k) i) (nI (unT (fun i => S.getD i 0) i S.length))) 0 22 (m0 0 22 + 1)) 13 j = if j = cntP (gdB S k) i then v else m0 13 j := by
              intro j
              rw [up2_ne (by decide), up2_ne (by decide)]
              by_cases e : j = cntP (gdB S k) i
              · subst e; rw [up2_at, if_pos rfl]
              · rw [up2_nj e, if_neg e]
            have m14 : ∀ j, (up2 (up2 (up2 m0 13 (cntP (gdB S k) i) v) 14 (cntP (gdB S k) i) (nI (unT (fun i => S.getD i 0) i S.length))) 0 22 (m0 0 22 + 1)) 14 j = if j = cntP (gdB S k) i then nI (unT (fun i => S.getD i 0) i S.length) else m0 14 j := by
              intro j
              rw [up2_ne (by decide)]
              by_cases e : j = cntP (gdB S k) i
              · subst e; rw [up2_at, if_pos rfl]
              · rw [up2_nj e, if_neg e, up2_ne (by decide)]
            refine ih (by omega) _ (hR.of ?_ ?_) (hK.tr ?_) ⟨?_, fun j hj => ?_, fun b hb hgb => ?_⟩
            · rw [up2_nj (by decide), up2_ne (by decide), up2_ne (by decide)]
            · rw [up2_ne (by decide), up2_ne (by decide), up2_ne (by decide)]
            · exact ((Keep.upc (by decide) (by decide) (by decide) (by decide) (by decide)).tr (Keep.upc (by decide) (by decide) (by decide) (by decide) (by decide))).tr (Keep.up0 (by decide) (by decide))
            · rw [up2_at, hc, nI_1, hsucc]
            · rw [hsucc] at hj
              rw [m13, m14]
              by_cases e : j = cntP (gdB S k) i
              · rw [if_pos e, if_pos e]; exact ⟨i, by omega, hg, hv, rfl⟩
              · rw [if_neg e, if_neg e]
                obtain ⟨b, b1, b2⟩ := hS.2.1 j (by omega)
                exact ⟨b, by omega, b2⟩
            · by_cases e : b = i
              · subst e
                refine ⟨cntP (gdB S k) b, by omega, ?_⟩
                rw [m13, m14, if_pos rfl, if_pos rfl]
                exact ⟨hv, rfl⟩
              · obtain ⟨j, j1, j2⟩ := hS.2.2 b (by omega) hgb
                refine ⟨j, by omega, ?_⟩
                rw [m13, m14, if_neg (by omega), if_neg (by omega)]
                exact j2
          · intro j hj ihj
            refine b_Mo_laysSmall_61 ⟨fun c => absurd c (by rw [hR.1]; exact nI_ge hj (by omega)), fun _ => ?_⟩
            rw [hasI (by omega) (by omega), hR.row hj, io, nI_1]
            rw [unT] at ihj
            refine ⟨fun z => ?_, fun z => ⟨vp_in_nI (by omega) (by decide), ?_⟩⟩
            · rw [if_neg z] at ihj; exact ihj
            · rw [if_pos z] at ihj; exact ihj
        exact key2 0 (Nat.zero_le _)
      refine b_Mo_laysSmall_7 ⟨fun c => absurd c (by rw [hR.lim]; exact nI_ge hi (by omega)), fun _ => ?_⟩
      refine (s_ones (by omega)).to ?_
      rw [nI_inj (by omega) (by omega)]
      have hk1i : (nI k = 1) ↔ k = 1 := nI_inj (b := 1) (by omega) (by decide)
      have hkle : (nI k ≤ 1) ↔ k ≤ 1 := nI_leI (b := 1) (by omega) (by decide)
      refine ⟨fun z => ⟨fun z2 => ?_, fun z2 => ⟨fun _ => ?_, fun z3 => ?_⟩⟩, fun z => skip (fun q => z q.1)⟩
      · rw [hk1i] at z2
        refine (s_McoreOf hR hi).mono ?_
        rintro w m' ⟨hw, rfl⟩
        refine ⟨fun z3 => absurd (hkle.mp z3) (by omega), fun _ => ?_⟩
        rcases hw with ⟨c, w1, w2⟩ | ⟨w1, w2⟩
        · have hc := w1.lt hR.2.2.2
          exact ⟨fun _ => take w ⟨z, Or.inr ⟨c, w1.2⟩⟩ (Or.inr ⟨c, w1.2, w2⟩), fun z4 => absurd (by rw [w2]; exact nI_le0 (by omega)) z4⟩
        · refine ⟨fun z4 => absurd z4 (by rw [w2]; decide), fun _ => skip (fun q => ?_)⟩
          rcases q.2 with q2 | ⟨c, q2⟩
          · exact z2 q2
          · exact w1 c ⟨(two_bits (by omega) hi).mpr (by omega), q2⟩
      · rw [hk1i] at z2
        exact take (-1) ⟨z, Or.inl z2⟩ (Or.inl z2)
      · rw [hk1i] at z2
        exact absurd (hkle.mpr (by omega)) z3
  refine key 1 h1p (Nat.le_refl _) _ (h.of (up2_nj (by decide)) (up2_ne (by decide))) (Keep.up0 (by decide) (by decide)) ⟨?_, fun j hj => ?_, fun b hb hg => ?_⟩
  · rw [up2_at, hc1]; exact nI_0.symm
  · rw [hc1] at hj; exact absurd hj (Nat.not_lt_zero _)
  · rw [show b = 0 by omega] at hg; exact absurd hg hp0
theorem s_isCatching {k x : Nat} (h : Sml mem S k (2 ^ S.length)) (hl : S.length ≤ 16) (hs : ∀ i, S.getD i 0 < 1024) (hk1 : 1 ≤ k) (hk : k ≤ 15) (hx : x < 1024) : CI shM m_Mo_isCatching d [.ref 0, .int (nI x), .int (nI k)] mem (fun r m' => ((Clo (fun i => S.getD i 0) S.length k x ∧ r = 1) ∨ (¬ Clo (fun i => S.getD i 0) S.length k x ∧ r = 0)) ∧ m' = mem) := by
  have hp := pow17 (m := S.length) (by omega)
  have hbd : cntP (gdB S k) (2 ^ S.length) ≤ 12870 := by
    refine Nat.le_trans (cntP_mono (g := fun b => decide (pop b = k)) _ (fun b _ hb => ?_)) (by rw [cnt_pop _ (by omega)]; exact bn_le _ (by omega) _ (by omega))
    rw [decide_eq_true_iff]
    exact (gdB_iff.mp hb).1
  have hk1i : (nI k = 1) ↔ k = 1 := nI_inj (b := 1) (by omega) (by decide)
  refine e_Mo_isCatching ?_
  have key : ∀ j, j ≤ cntP (gdB S k) (2 ^ S.length) → (k ≠ 1 → ∀ j', j' < j → ∀ b, b < 2 ^ S.length → Gd1 S k b → CoV S k b (mem 13 j') → mem 14 j' = nI (unT (fun i => S.getD i 0) b S.length) → ¬ ∃ c, Cl (fun i => S.getD i 0) c b ∧ ∀ i, b.testBit i = true → S.getD i 0 &&& x = c) → (k = 1 → j = 0) → Wp shM m_Mo_isCatching d 2 [some (.ref 0), some (.int (nI x)), some (.int (nI k)), some (.int (nI j))] [] mem (QI (fun r m' => ((Clo (fun i => S.getD i 0) S.length k x ∧ r = 1) ∨ (¬ Clo (fun i => S.getD i 0) S.length k x ∧ r = 0)) ∧ m' = mem)) := by
    refine downInd (P := fun j => (k ≠ 1 → ∀ j', j' < j → ∀ b, b < 2 ^ S.length → Gd1 S k b → CoV S k b (mem 13 j') → mem 14 j' = nI (unT (fun i => S.getD i 0) b S.length) → ¬ ∃ c, Cl (fun i => S.getD i 0) c b ∧ ∀ i, b.testBit i = true → S.getD i 0 &&& x = c) → (k = 1 → j = 0) → Wp shM m_Mo_isCatching d 2 [some (.ref 0), some (.int (nI x)), some (.int (nI k)), some (.int (nI j))] [] mem (QI (fun r m' => ((Clo (fun i => S.getD i 0) S.length k x ∧ r = 1) ∨ (¬ Clo (fun i => S.getD i 0) S.length k x ∧ r = 0)) ∧ m' = mem))) (cntP (gdB S k) (2 ^ S.length)) ?_ ?_
    · intro hno hz
      refine b_Mo_isCatching_2 ⟨fun _ => ⟨Or.inr ⟨?_, rfl⟩, rfl⟩, fun c => absurd (by rw [h.1]; exact nI_le (Nat.le_refl _) (by omega)) c⟩
      rintro ⟨b, c, b1, b2, b3, b4⟩
      have hg : Gd1 S k b := ⟨b2, Or.inr ⟨c, b3⟩⟩
      obtain ⟨j, j1, j2, j3⟩ := h.2.2 b b1 hg
      by_cases e : k = 1
      · have := hz e; omega
      · exact hno e j j1 b b1 hg j2 j3 ⟨c, b3, b4⟩
    · intro j hj ih hno hz
      refine b_Mo_isCatching_2 ⟨fun c => absurd c (by rw [h.1]; exact nI_ge hj (by omega)), fun _ => ⟨fun z => ⟨Or.inl ⟨?_, rfl⟩, rfl⟩, fun z => ⟨vp_in_nI (by omega) (by decide), vp_in_nI (by omega) (by decide), ?_⟩⟩⟩
      · rw [hk1i] at z
        subst z
        obtain ⟨b, b1, b2, -⟩ := h.2.1 j hj
        refine (Clo.one (by omega)).mpr ?_
        rcases Nat.eq_zero_or_pos S.length with y | y
        · rw [y, Nat.pow_zero] at b1
          have := b2.1
          rw [show b = 0 by omega, pop_zero] at this
          omega
        · exact y
      · rw [hk1i] at z
        rw [nI_clamp (by omega)]
        obtain ⟨b, b1, b2, b3, b4⟩ := h.2.1 j hj
        obtain ⟨c, c1, c2⟩ := b3.resolve_left z
        have hu : unT (fun i => S.getD i 0) b S.length < 2 ^ 10 := unT_lt (fun i => hs i) _
        have hpb : 2 ≤ pop b := by have := b2.1; omega
        have hc : c < 1024 := Sn.lt (g := fun i => S.getD i 0) (b := b) hs ⟨(two_bits (by omega) b1).mpr hpb, c1⟩
        have hand : x &&& unT (fun i => S.getD i 0) b S.length < 1024 := Nat.lt_of_le_of_lt Nat.and_le_left hx
        rw [c2, b4, ia, nI_inj (by omega) (by omega), core_union b1 (by omega) hpb c1]
        refine ⟨fun w => ?_, fun w => ⟨Or.inl ⟨⟨b, c, b1, b2.1, c1, w⟩, rfl⟩, rfl⟩⟩
        rw [nI_1]
        refine ih (fun hk' j' hj' b' q1 q2 q3 q4 => ?_) (fun e => absurd e z)
        by_cases e : j' = j
        · subst e
          rintro ⟨c', c1', c2'⟩
          obtain ⟨c3, c4, c5⟩ := q3.resolve_left z
          have hpb' : 2 ≤ pop b' := by have := q2.1; omega
          have hsn : Sn (fun i => S.getD i 0) b' c3 := ⟨(two_bits (by omega) q1).mpr hpb', c4⟩
          have hc3 := hsn.lt hs
          have ec : c' = c3 := Sn.uniq (g := fun i => S.getD i 0) (b := b') ⟨hsn.1, c1'⟩ hsn
          subst ec
          have hu' : unT (fun i => S.getD i 0) b' S.length < 2 ^ 10 := unT_lt (fun i => hs i) _
          rw [c2, nI_inj (by omega) (by omega)] at c5
          rw [b4, nI_inj (by omega) (by omega)] at q4
          have := (core_union (g := fun i => S.getD i 0) (x := x) q1 (by omega) hpb' c4).mpr c2'
          rw [← q4, ← c5] at this
          exact w ((core_union (g := fun i => S.getD i 0) b1 (by omega) hpb c1).mp this)
        · exact hno hk' j' (by omega) b' q1 q2 q3 q4
  exact key 0 (Nat.zero_le _) (fun _ j' hj' => absurd hj' (Nat.not_lt_zero _)) (fun _ => rfl)
theorem y_freeNext {a : Int32} (h : Now mem n S) : CI shM m_Mo_freeNext (d + 3) [.ref 0, .int a] mem (fun r m' => r = aFreeNext n S a ∧ Keep mem m') := by
  have hl := h.2.2.1
  have hn := h.2.2.2.1
  have hp := pow17 (m := S.length) (by omega)
  have hpn : 2 ^ n ≤ 2 ^ 10 := Nat.pow_le_pow_right (by decide) hn
  have h1n : 1 ≤ 2 ^ n := Nat.one_le_two_pow
  refine e_Mo_freeNext ⟨fun c => ?_, fun c => ⟨by rw [aFreeNext, ifP_f c], Keep.rf⟩⟩
  rw [aFreeNext, ifP_t c]
  obtain ⟨k, hk2, hk, rfl⟩ := of_2_16 c
  rw [nI_clamp (by omega)]
  have ek : nI k - 1 = nI (k - 1) := pk_sub (a := k) (b := 1) (by omega)
  refine (s_laysAll h).mono ?_
  rintro m1 ⟨hR, hK⟩
  refine (s_firstOf hR hk2 (by omega)).mono ?_
  rintro v m1' ⟨hv, rfl⟩
  rcases hv with ⟨b, y1, y2, y3⟩ | ⟨y1, y2⟩
  · have hb := y1.1
    have hb0 : b ≠ 0 := fun e => by have := y1.2.1; rw [e, pop_zero] at this; omega
    exact ⟨fun z => absurd ((nI_z (by omega)).mp (y3.symm.trans z)) hb0, fun _ => ⟨by rw [ifP_t ⟨b, y1⟩], hK⟩⟩
  · refine ⟨fun _ => ?_, fun z => absurd y2 z⟩
    rw [ifP_f (fun ⟨b, hb⟩ => y1 b hb), ek]
    refine (s_laysSmall hR hl (by omega) (by omega)).mono ?_
    rintro m2 ⟨hS, hK2⟩
    have hKK := hK.tr hK2
    have h2 := h.keep hKK
    have key : ∀ s, s ≤ n + 1 → 1 ≤ s → (∀ b, 1 ≤ b → b < 2 ^ n → pop b < s → ¬ (b ∉ S ∧ ¬ Clo (fun i => S.getD i 0) S.length (k - 1) b)) → Wp shM m_Mo_freeNext (d + 3) 33 [some (.ref 0), some (.int (nI k)), some (.int (nI s)), none] [] m2 (QI (fun r m' => r = fqI (fun x => x ∉ S ∧ ¬ Clo (fun i => S.getD i 0) S.length (k - 1) x) (2 ^ n) ∧ Keep mem m')) := by
      refine downInd (P := fun s => 1 ≤ s → (∀ b, 1 ≤ b → b < 2 ^ n → pop b < s → ¬ (b ∉ S ∧ ¬ Clo (fun i => S.getD i 0) S.length (k - 1) b)) → Wp shM m_Mo_freeNext (d + 3) 33 [some (.ref 0), some (.int (nI k)), some (.int (nI s)), none] [] m2 (QI (fun r m' => r = fqI (fun x => x ∉ S ∧ ¬ Clo (fun i => S.getD i 0) S.length (k - 1) x) (2 ^ n) ∧ Keep mem m'))) (n + 1) ?_ ?_
      · intro _ hno
        refine b_Mo_freeNext_33 ⟨fun _ => ⟨?_, hKK⟩, fun c => absurd (by rw [h2.1]; exact nI_lt (by omega) (by omega)) c⟩
        rw [fqI_no (fun b b1 b2 => hno b b1 b2 (by have := pop_lt (b := b) (w := n) (by omega) b2; omega))]
      · intro s hs ih hs1 hno
        refine b_Mo_freeNext_33 ⟨fun c => absurd c (by rw [h2.1, nI_ltI (by omega) (by omega)]; omega), fun _ => ?_⟩
        have key2 : ∀ i, i ≤ 2 ^ n → 1 ≤ i → (∀ b, 1 ≤ b → b < i → pop b = s → ¬ (b ∉ S ∧ ¬ Clo (fun i => S.getD i 0) S.length (k - 1) b)) → Wp shM m_Mo_freeNext (d + 3) 45 [some (.ref 0), some (.int (nI k)), some (.int (nI s)), some (.int (nI i))] [] m2 (QI (fun r m' => r = fqI (fun x => x ∉ S ∧ ¬ Clo (fun i => S.getD i 0) S.length (k - 1) x) (2 ^ n) ∧ Keep mem m')) := by
          refine downInd (P := fun i => 1 ≤ i → (∀ b, 1 ≤ b → b < i → pop b = s → ¬ (b ∉ S ∧ ¬ Clo (fun i => S.getD i 0) S.length (k - 1) b)) → Wp shM m_Mo_freeNext (d + 3) 45 [some (.ref 0), some (.int (nI k)), some (.int (nI s)), some (.int (nI i))] [] m2 (QI (fun r m' => r = fqI (fun x => x ∉ S ∧ ¬ Clo (fun i => S.getD i 0) S.length (k - 1) x) (2 ^ n) ∧ Keep mem m'))) (2 ^ n) ?_ ?_
          · intro _ hni
            refine b_Mo_freeNext_45 ⟨fun _ => ?_, fun c => absurd (by rw [h2.1, al (by omega)]; exact nI_lt (by omega) (by omega)) c⟩
            rw [nI_1]
            refine ih (by omega) (fun b b1 b2 b3 => ?_)
            by_cases e : pop b = s
            · exact hni b b1 b2 e
            · exact hno b b1 b2 (by omega)
          · intro i hi ihi hi1 hni
            have go : (pop i = s → ¬ (i ∉ S ∧ ¬ Clo (fun i => S.getD i 0) S.length (k - 1) i)) → Wp shM m_Mo_freeNext (d + 3) 45 [some (.ref 0), some (.int (nI k)), some (.int (nI s)), some (.int (nI i + 1))] [] m2 (QI (fun r m' => r = fqI (fun x => x ∉ S ∧ ¬ Clo (fun i => S.getD i 0) S.length (k - 1) x) (2 ^ n) ∧ Keep mem m')) := by
              intro hq'
              rw [nI_1]
              refine ihi (by omega) (fun b b1 b2 b3 => ?_)
              by_cases e : b = i
              · subst e; exact hq' b3
              · exact hni b b1 (by omega) b3
            have hpi : pop i ≤ 10 := pop_lt (by decide) (by omega)
            refine b_Mo_freeNext_45 ⟨fun c => absurd c (by rw [h2.1, al (by omega), nI_ltI (by omega) (by omega)]; omega), fun _ => ?_⟩
            refine (s_ones (by omega)).to ?_
            rw [nI_inj (by omega) (by omega)]
            refine ⟨fun z => go (fun e => absurd e z), fun z => ?_⟩
            refine (s_isTold h2 (by omega)).to ?_
            refine ⟨fun z2 => go (fun _ q => q.1 (b2i_1.mp z2)), fun z2 => ?_⟩
            rw [ek]
            refine (s_isCatching hS hl h.2.2.2.2.2 (by omega) (by omega) (by omega)).mono ?_
            rintro r m3 ⟨hr, rfl⟩
            rcases hr with ⟨w1, w2⟩ | ⟨w1, w2⟩
            · exact ⟨fun _ => go (fun _ q => q.2 w1), fun z3 => absurd (w2.symm.trans z3) (by decide)⟩
            · refine ⟨fun z3 => absurd w2 z3, fun _ => ⟨?_, hKK⟩⟩
              symm
              refine fqI_eq ⟨hi1, hi, ⟨b2i_0.mp z2, w1⟩, fun b' l1 l2 l3 => ?_⟩
              rcases Nat.lt_or_ge (pop b') s with y | y
              · exact absurd l3 (hno b' l1 l2 y)
              · rcases Nat.lt_or_ge s (pop b') with y2 | y2
                · left; omega
                · right
                  refine ⟨by omega, ?_⟩
                  rcases Nat.lt_or_ge b' i with y3 | y3
                  · exact absurd l3 (hni b' l1 y3 (by omega))
                  · exact y3
        exact key2 1 h1n (Nat.le_refl _) (fun b b1 b2 => by omega)
    exact key 1 (by omega) (Nat.le_refl _) (fun b b1 b2 b3 => by have := pop_pos (b := b) (by omega) (by omega); omega)
end FNM
