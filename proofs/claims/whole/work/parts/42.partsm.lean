/-! parts of the reference: by points -/
theorem cntP_full {f : Nat → Bool} : ∀ m, cntP f m = m → ∀ i, i < m → f i = true
  | 0, _, i, hi => absurd hi (Nat.not_lt_zero _)
  | m + 1, h, i, hi => by
    have h1 := cntP_le f m
    rw [cntP] at h
    by_cases e : f m = true
    · rw [if_pos e] at h
      by_cases ei : i = m
      · subst ei; exact e
      · exact cntP_full m (by omega) i (by omega)
    · rw [if_neg e] at h; omega
theorem cntP_strict {f g : Nat → Bool} {i0 : Nat} : ∀ m, (∀ i, i < m → f i = true → g i = true) → i0 < m → ¬ f i0 = true → g i0 = true → cntP f m < cntP g m
  | 0, _, h, _, _ => absurd h (Nat.not_lt_zero _)
  | m + 1, h, hi, h1, h2 => by
    rw [cntP, cntP]
    by_cases e : i0 = m
    · subst e
      have : ∀ k, k ≤ i0 → cntP f k ≤ cntP g k := by
        intro k
        induction k with
        | zero => intro _; exact Nat.le_refl _
        | succ k ih =>
          intro hk
          have := ih (by omega)
          have hh := h k (by omega)
          rw [cntP, cntP]
          by_cases e2 : f k = true
          · rw [if_pos e2, if_pos (hh e2)]; omega
          · rw [if_neg e2]; split <;> omega
      have := this i0 (Nat.le_refl _)
      rw [if_neg h1, if_pos h2]; omega
    · have := cntP_strict m (fun i hi => h i (by omega)) (by omega) h1 h2
      have hh := h m (by omega)
      by_cases e2 : f m = true
      · rw [if_pos e2, if_pos (hh e2)]; omega
      · rw [if_neg e2]; split <;> omega
/-- a set of points that no set crosses -/
def ClP (S : List Nat) (A : Nat) : Prop := ∀ k, k < S.length → S.getD k 0 &&& A ≠ 0 → ∀ p, (S.getD k 0).testBit p = true → A.testBit p = true
theorem sub_iff {a b : Nat} : a &&& b = a ↔ ∀ p, a.testBit p = true → b.testBit p = true := by
  constructor
  · intro h p hp
    rw [← h, Nat.testBit_and, Bool.and_eq_true] at hp
    exact hp.2
  · intro h
    apply Nat.eq_of_testBit_eq
    intro p
    rw [Nat.testBit_and]
    cases e : a.testBit p with
    | false => rfl
    | true => rw [h p e]; rfl
section PRM
variable {d n : Nat} {S : List Nat} {mem : Mem}
theorem part_lead {op pa p k0 : Nat} (hk0 : k0 < S.length) (hp0 : (S.getD k0 0).testBit p = true) (hop : op.testBit p = true) (hC : ClP S op) (hpp : pa.testBit p = true) (hA : ∀ A : Nat, A.testBit p = true → ClP S A → ∀ q, pa.testBit q = true → A.testBit q = true) (hP : ClP S pa) : cntP (fun i => leB S i && decide (S.getD i 0 &&& dif op pa = 0)) S.length = cntP (fun i => leB S i && decide (S.getD i 0 &&& op = 0)) S.length + 1 := by
  obtain ⟨c, hc1, hc2⟩ := pk_least (fun j => Con S j k0) ⟨k0, Con.rf⟩
  have hck : c ≤ k0 := by
    rcases Nat.lt_or_ge k0 c with q | q
    · exact absurd Con.rf (hc2 k0 q)
    · exact q
  have hcm : c < S.length := by omega
  have hkc : Con S k0 c := hc1.sy hcm
  have hlead : Lead S c := fun j hj hjc => hc2 j hj (hjc.tr hc1)
  have hco : S.getD c 0 &&& op ≠ 0 := hkc (fun x => S.getD x 0 &&& op ≠ 0) (and_ne_of hp0 hop) (fun x y hx hy hxa hm => by
    obtain ⟨q, q1, q2⟩ := ne_bit hm
    exact and_ne_of q2 (hC x hx hxa q q1))
  have hcp : S.getD c 0 &&& pa ≠ 0 := hkc (fun x => S.getD x 0 &&& pa ≠ 0) (and_ne_of hp0 hpp) (fun x y hx hy hxa hm => by
    obtain ⟨q, q1, q2⟩ := ne_bit hm
    exact and_ne_of q2 (hP x hx hxa q q1))
  refine cnt_ins (c := c) ?_ ?_ ?_ S.length hcm
  · rw [Bool.and_eq_true, decide_eq_true_iff]
    exact fun z => hco z.2
  · rw [Bool.and_eq_true, decide_eq_true_iff]
    refine ⟨leB_iff.mpr hlead, and_zero_of (fun q q1 q2 => ?_)⟩
    rw [dif_bit, hP c hcm hcp q q1] at q2
    simp at q2
  · intro x hx
    by_cases hl : leB S x = true
    · rw [hl, Bool.true_and, Bool.true_and, Bool.eq_iff_iff, decide_eq_true_iff, decide_eq_true_iff]
      constructor
      · intro z
        refine Classical.byContradiction (fun hne => ?_)
        obtain ⟨q, q1, q2⟩ := ne_bit hne
        have hqp : pa.testBit q = true := by
          cases e : pa.testBit q with
          | true => rfl
          | false => exact absurd (and_no z q1 (by rw [dif_bit, q2, e]; rfl)) id
        have hxm : x < S.length := by
          rcases Nat.lt_or_ge x S.length with y | y
          · exact y
          · rw [List.getD_eq_getElem?_getD, List.getElem?_eq_none y] at q1
            simp at q1
        have hqA := hA (unT (fun i => S.getD i 0) (msk (coB S k0) S.length) S.length) ((unT_bit _ _ p _).mpr ⟨k0, hk0, by rw [msk_bit, coB_iff.mpr Con.rf]; simp [hk0], hp0⟩) (fun k hk hkA r hr => by
          obtain ⟨q', q1', q2'⟩ := ne_bit hkA
          obtain ⟨j, j1, j2, j3⟩ := (unT_bit _ _ q' _).mp q2'
          rw [msk_bit, Bool.and_eq_true, coB_iff] at j2
          have : Con S k0 k := j2.2.st j1 hk (and_ne_of j3 q1')
          exact (unT_bit _ _ r _).mpr ⟨k, hk, by rw [msk_bit, coB_iff.mpr this]; simp [hk], hr⟩) q hqp
        obtain ⟨j, j1, j2, j3⟩ := (unT_bit _ _ q _).mp hqA
        rw [msk_bit, Bool.and_eq_true, coB_iff] at j2
        have hkx : Con S k0 x := j2.2.st j1 hxm (and_ne_of j3 q1)
        have hcx : Con S c x := hc1.tr hkx
        rcases Nat.lt_or_gt_of_ne hx with y | y
        · exact hlead x y (hcx.sy hcm)
        · exact leB_iff.mp hl c y hcx
      · intro z
        refine and_zero_of (fun q q1 q2 => ?_)
        rw [dif_bit, Bool.and_eq_true] at q2
        exact and_no z q1 q2.1
    · rw [Bool.not_eq_true] at hl
      rw [hl, Bool.false_and, Bool.false_and]
theorem y_parts (h : Now mem n S) (h0 : ∀ i, i < S.length → S.getD i 0 ≠ 0) : CI shM m_Mo_parts (d + 2) [.ref 0] mem (fun r m' => r = aParts S ∧ Keep mem m') := by
  have hl := h.2.2.1
  refine e_Mo_parts ?_
  refine (s_allHad h).to ?_
  have hu2 : uniT (fun i => S.getD i 0) S.length < 2 ^ 10 := uniT_lt (fun j => h.2.2.2.2.2 j) _
  have main : ∀ N op, pop op ≤ N → op < 1024 → ClP S op → (∀ q, op.testBit q = true → (uniT (fun i => S.getD i 0) S.length).testBit q = true) → Wp shM m_Mo_parts (d + 2) 7 [some (.ref 0), some (.int (nI op)), some (.int (nI (cntP (fun i => leB S i && decide (S.getD i 0 &&& op = 0)) S.length))), none, none, none] [] mem (QI (fun r m' => r = aParts S ∧ Keep mem m')) := by
    intro N
    induction N with
    | zero =>
      intro op hN ho hC hU
      have hz : op = 0 := Classical.byContradiction (fun z => by have := pop_pos (b := op) (by omega) z; omega)
      subst hz
      refine b_Mo_parts_7 ⟨fun _ => ⟨?_, Keep.rf⟩, fun z => absurd nI_0 z⟩
      rw [aParts, cntP_cong S.length (q := leB S) (fun i _ => by simp)]
    | succ N ih =>
      intro op hN ho hC hU
      by_cases hz : op = 0
      · subst hz
        refine b_Mo_parts_7 ⟨fun _ => ⟨?_, Keep.rf⟩, fun z => absurd nI_0 z⟩
        rw [aParts, cntP_cong S.length (q := leB S) (fun i _ => by simp)]
      · obtain ⟨p, hp1, hp2, hp3⟩ := low_ex 10 (show op < 2 ^ 10 by omega) hz
        obtain ⟨k0, hk0, hp0⟩ := (uniT_bit _ p _).mp (hU p hp2)
        have hlob : nI op &&& (-nI op) = nI (2 ^ p) := lob (by omega) hp2 hp3
        refine b_Mo_parts_7 ⟨fun z => absurd ((nI_z (by omega)).mp z) hz, fun _ => ?_⟩
        rw [hlob]
        have key : ∀ r, r ≤ 16 → ∀ pa, pa < 1024 → pa.testBit p = true → (∀ A : Nat, A.testBit p = true → ClP S A → ∀ q, pa.testBit q = true → A.testBit q = true) → (ClP S pa ∨ r ≤ cntP (fun k => decide (S.getD k 0 &&& pa = S.getD k 0)) S.length) → Wp shM m_Mo_parts (d + 2) 19 [some (.ref 0), some (.int (nI op)), some (.int (nI (cntP (fun i => leB S i && decide (S.getD i 0 &&& op = 0)) S.length))), some (.int (nI pa)), some (.int (nI r)), none] [] mem (QI (fun r m' => r = aParts S ∧ Keep mem m')) := by
          refine downInd (P := fun r => ∀ pa, pa < 1024 → pa.testBit p = true → (∀ A : Nat, A.testBit p = true → ClP S A → ∀ q, pa.testBit q = true → A.testBit q = true) → (ClP S pa ∨ r ≤ cntP (fun k => decide (S.getD k 0 &&& pa = S.getD k 0)) S.length) → Wp shM m_Mo_parts (d + 2) 19 [some (.ref 0), some (.int (nI op)), some (.int (nI (cntP (fun i => leB S i && decide (S.getD i 0 &&& op = 0)) S.length))), some (.int (nI pa)), some (.int (nI r)), none] [] mem (QI (fun r m' => r = aParts S ∧ Keep mem m'))) 16 ?_ ?_
          · intro pa h1 h2 h3 h4
            have hP : ClP S pa := by
              rcases h4 with z | z
              · exact z
              · intro k hk _ q hq
                have hle := cntP_le (fun k => decide (S.getD k 0 &&& pa = S.getD k 0)) S.length
                have := cntP_full (f := fun k => decide (S.getD k 0 &&& pa = S.getD k 0)) S.length (by omega) k hk
                rw [decide_eq_true_iff] at this
                exact sub_iff.mp this q hq
            refine b_Mo_parts_19 ⟨fun _ => ?_, fun z => absurd (show (16 : Int32) ≤ nI 16 from nI_le (a := 16) (Nat.le_refl _) (by decide)) z⟩
            rw [idif, nI_1, ← part_lead hk0 hp0 hp2 hC h2 h3 hP]
            refine ih _ ?_ (dif_lt (m := 10) ho) ?_ ?_
            · have := popT_strict (s := op) (p := p) 20 (dif op pa) (fun j hj => by rw [dif_bit, Bool.and_eq_true] at hj; exact hj.1) (by omega) hp2 (by rw [dif_bit, hp2, h2]; rfl)
              have e3 : pop (dif op pa) < pop op := this
              omega
            · intro k hk hm q hq
              obtain ⟨q0, q1, q2⟩ := ne_bit hm
              rw [dif_bit, Bool.and_eq_true] at q2
              rw [dif_bit, hC k hk (and_ne_of q1 q2.1) q hq, Bool.true_and]
              cases e : pa.testBit q with
              | false => rfl
              | true =>
                have := hP k hk (and_ne_of hq e) q0 q1
                rw [this] at q2
                simp at q2
            · intro q hq
              rw [dif_bit, Bool.and_eq_true] at hq
              exact hU q hq.1
          · intro r hr ihr pa h1 h2 h3 h4
            refine b_Mo_parts_19 ⟨fun z => absurd z (by rw [show (16 : Int32) = nI 16 from rfl, nI_leI (by omega) (by omega)]; omega), fun _ => ?_⟩
            have key3 : ∀ k, k ≤ S.length → ∀ cu, cu < 1024 → (∀ q, pa.testBit q = true → cu.testBit q = true) → (∀ A : Nat, A.testBit p = true → ClP S A → ∀ q, cu.testBit q = true → A.testBit q = true) → (∀ j, j < k → S.getD j 0 &&& pa ≠ 0 → ∀ q, (S.getD j 0).testBit q = true → cu.testBit q = true) → (ClP S pa → cu = pa) → Wp shM m_Mo_parts (d + 2) 29 [some (.ref 0), some (.int (nI op)), some (.int (nI (cntP (fun i => leB S i && decide (S.getD i 0 &&& op = 0)) S.length))), some (.int (nI cu)), some (.int (nI r)), some (.int (nI k))] [] mem (QI (fun r m' => r = aParts S ∧ Keep mem m')) := by
              refine downInd (P := fun k => ∀ cu, cu < 1024 → (∀ q, pa.testBit q = true → cu.testBit q = true) → (∀ A : Nat, A.testBit p = true → ClP S A → ∀ q, cu.testBit q = true → A.testBit q = true) → (∀ j, j < k → S.getD j 0 &&& pa ≠ 0 → ∀ q, (S.getD j 0).testBit q = true → cu.testBit q = true) → (ClP S pa → cu = pa) → Wp shM m_Mo_parts (d + 2) 29 [some (.ref 0), some (.int (nI op)), some (.int (nI (cntP (fun i => leB S i && decide (S.getD i 0 &&& op = 0)) S.length))), some (.int (nI cu)), some (.int (nI r)), some (.int (nI k))] [] mem (QI (fun r m' => r = aParts S ∧ Keep mem m'))) S.length ?_ ?_
              · intro cu c1 c2 c3 c4 c5
                refine b_Mo_parts_29 ⟨fun _ => ?_, fun c => absurd ((h.ge (Nat.le_refl _)).mpr rfl) c⟩
                rw [nI_1]
                refine ihr cu c1 (c2 p h2) c3 ?_
                by_cases hcl : ClP S pa
                · rw [c5 hcl]; exact Or.inl hcl
                · right
                  obtain ⟨k1, e1, e2, q, e3, e4⟩ : ∃ k1, k1 < S.length ∧ S.getD k1 0 &&& pa ≠ 0 ∧ ∃ q, (S.getD k1 0).testBit q = true ∧ pa.testBit q = false := by
                    refine Classical.byContradiction (fun hn => hcl (fun k hk hkm q hq => ?_))
                    cases e : pa.testBit q with
                    | true => rfl
                    | false => exact absurd ⟨k, hk, hkm, q, hq, e⟩ hn
                  have := cntP_strict (f := fun k => decide (S.getD k 0 &&& pa = S.getD k 0)) (g := fun k => decide (S.getD k 0 &&& cu = S.getD k 0)) (i0 := k1) S.length (fun i _ hi => by
                    rw [decide_eq_true_iff] at hi ⊢
                    exact sub_iff.mpr (fun q hq => c2 q (sub_iff.mp hi q hq))) e1 (by
                    rw [decide_eq_true_iff]
                    intro z
                    rw [sub_iff.mp z q e3] at e4; cases e4) (by
                    rw [decide_eq_true_iff]
                    exact sub_iff.mpr (fun q hq => c4 k1 e1 e2 q hq))
                  have := h4.resolve_left hcl
                  omega
              · intro k hk ihk cu c1 c2 c3 c4 c5
                have hg := h.2.2.2.2.2 k
                refine b_Mo_parts_29 ⟨fun c => absurd ((h.ge (Nat.le_of_lt hk)).mp c) (by omega), fun _ => ⟨h.vin hk, ?_⟩⟩
                rw [h.row hk, ia, nI_z (Nat.lt_of_le_of_lt Nat.and_le_left (by omega))]
                refine ⟨fun z => ?_, fun z => ⟨h.vin hk, ?_⟩⟩
                · rw [nI_1]
                  refine ihk cu c1 c2 c3 (fun j hj hm q hq => ?_) c5
                  by_cases e : j = k
                  · subst e
                    obtain ⟨q0, q1, q2⟩ := ne_bit hm
                    exact absurd z (and_ne_of q1 (c2 q0 q2))
                  · exact c4 j (by omega) hm q hq
                · rw [io, nI_1]
                  refine ihk _ (Nat.or_lt_two_pow (n := 10) c1 hg) (fun q hq => by rw [Nat.testBit_or, c2 q hq, Bool.true_or]) (fun A a1 a2 q hq => ?_) (fun j hj hm q hq => ?_) (fun hcl => ?_)
                  · rw [Nat.testBit_or, Bool.or_eq_true] at hq
                    rcases hq with hq | hq
                    · exact c3 A a1 a2 q hq
                    · obtain ⟨q0, q1, q2⟩ := ne_bit z
                      exact a2 k hk (and_ne_of q1 (c3 A a1 a2 q0 q2)) q hq
                  · rw [Nat.testBit_or, Bool.or_eq_true]
                    by_cases e : j = k
                    · subst e; exact Or.inr hq
                    · exact Or.inl (c4 j (by omega) hm q hq)
                  · have e := c5 hcl
                    subst e
                    apply Nat.eq_of_testBit_eq
                    intro q
                    rw [Nat.testBit_or]
                    cases e : (S.getD k 0).testBit q with
                    | false => rw [Bool.or_false]
                    | true => rw [hcl k hk z q e]; rfl
            exact key3 0 (Nat.zero_le _) pa h1 (fun _ z => z) h3 (fun j hj => absurd hj (Nat.not_lt_zero _)) (fun _ => rfl)
        refine key 0 (Nat.zero_le _) (2 ^ p) (Nat.lt_of_lt_of_le (Nat.pow_lt_pow_right (by decide) hp1) (by decide)) Nat.testBit_two_pow_self (fun A a1 _ q hq => ?_) (Or.inr (Nat.zero_le _))
        rw [Nat.testBit_two_pow, decide_eq_true_iff] at hq
        subst hq; exact a1
  have e0 : cntP (fun i => leB S i && decide (S.getD i 0 &&& uniT (fun i => S.getD i 0) S.length = 0)) S.length = 0 := cntP_no _ (fun j hj z => by
    rw [Bool.and_eq_true, decide_eq_true_iff] at z
    obtain ⟨q, hq⟩ := bit_ne (h0 j hj)
    exact and_no z.2 hq ((uniT_bit _ q _).mpr ⟨j, hj, hq⟩))
  have := main _ (uniT (fun i => S.getD i 0) S.length) (Nat.le_refl _) hu2 (fun k hk _ q hq => (uniT_bit _ q _).mpr ⟨k, hk, hq⟩) (fun _ z => z)
  rw [e0] at this
  exact this
end PRM
