/-! Thinner.fillFits, leastFree; most, surplus of the class -/
/-- the most sets free of k, of several the least bits -/
def MF (S : List Nat) (k b : Nat) : Prop := b < 2 ^ S.length ∧ Fr (fun i => S.getD i 0) k b ∧ (∀ b', b' < 2 ^ S.length → Fr (fun i => S.getD i 0) k b' → pop b' ≤ pop b) ∧ ∀ b', b' < 2 ^ S.length → Fr (fun i => S.getD i 0) k b' → pop b' = pop b → b ≤ b'
theorem MF.uniq {S : List Nat} {k b b' : Nat} (h : MF S k b) (h' : MF S k b') : b = b' := by
  have h1 := h.2.2.1 b' h'.1 h'.2.1
  have h2 := h'.2.2.1 b h.1 h.2.1
  have h3 := h.2.2.2 b' h'.1 h'.2.1 (by omega)
  have h4 := h'.2.2.2 b h.1 h.2.1 (by omega)
  omega
noncomputable def mfN (S : List Nat) (k : Nat) : Nat := @dite Nat (∃ b, MF S k b) (Classical.propDecidable _) (fun h => Classical.choose h) (fun _ => 0)
theorem mfN_eq {S : List Nat} {k b : Nat} (h : MF S k b) : mfN S k = b := by
  have h' : ∃ b, MF S k b := ⟨b, h⟩
  rw [mfN, dif_pos h']
  exact (Classical.choose_spec h').uniq h
noncomputable def aMost (S : List Nat) (a : Int32) : Int32 := ifP (2 ≤ a ∧ a ≤ 16) (nI (mfN S a.toNatClampNeg)) (-1)
noncomputable def aSurplus (S : List Nat) (a : Int32) : Int32 := ifP (2 ≤ a ∧ a ≤ 16) (nI (S.length - pop (mfN S a.toNatClampNeg))) (-1)
theorem Fr.zero {g : Nat → Nat} {k : Nat} (hk : 1 ≤ k) : Fr g k 0 := by
  intro e c h1 h2
  have : e = 0 := Nat.eq_of_testBit_eq (fun l => by
    rw [Nat.zero_testBit]
    cases q : e.testBit l with
    | false => rfl
    | true => have := h1 l q; rw [Nat.zero_testBit] at this; cases this)
  rw [this, pop_zero] at h2
  omega
theorem Fr.one {g : Nat → Nat} {k i : Nat} (hi : i < 20) (hk : 2 ≤ k) : Fr g k (2 ^ i) := by
  intro e c h1 h2
  have h3 : pop e ≤ pop (2 ^ i) := pop_mono 20 e h1
  have := pop_top (b := 0) (i := i) (Nat.two_pow_pos i) hi
  rw [Nat.zero_add, pop_zero] at this
  omega
section THF
variable {d n : Nat} {S : List Nat} {mem : Mem}
theorem s_fillFits (h : Fam mem 1 n S) (hl : S.length ≤ 16) (hz : mem 15 2 = nI S.length) : CV shX m_Thinner_fillFits (d + 2) [.ref 15, .ref 1] mem (fun m' => Thn m' S ∧ Same mem m' [17]) := by
  have hp := pow17 (m := S.length) (by omega)
  have h1p : 1 ≤ 2 ^ S.length := Nat.one_le_two_pow
  refine e_Thinner_fillFits isF_1 ?_
  have e15 : ∀ m0, Same mem m0 [17] → m0 15 2 = nI S.length := fun m0 hS => by rw [hS 15 (by decide)]; exact hz
  have key : ∀ i, i ≤ S.length → ∀ m0 : Mem, Same mem m0 [17] → (∀ x y, x < i → x < y → y < S.length → m0 17 (x * 16 + y) = nI (fitM (fun i => S.getD i 0) S.length x y)) → Wp shX m_Thinner_fillFits (d + 2) 2 [some (.ref 15), some (.ref 1), some (.int (nI i)), none] [] m0 (QV (fun m' => Thn m' S ∧ Same mem m' [17])) := by
    refine downInd (P := fun i => ∀ m0 : Mem, Same mem m0 [17] → (∀ x y, x < i → x < y → y < S.length → m0 17 (x * 16 + y) = nI (fitM (fun i => S.getD i 0) S.length x y)) → Wp shX m_Thinner_fillFits (d + 2) 2 [some (.ref 15), some (.ref 1), some (.int (nI i)), none] [] m0 (QV (fun m' => Thn m' S ∧ Same mem m' [17]))) S.length ?_ ?_
    · intro m0 hS hf
      exact b_Thinner_fillFits_2 isF_1 ⟨fun _ => ⟨⟨e15 m0 hS, fun x y hxy hy => hf x y (by omega) hxy hy⟩, hS⟩, fun c => absurd (by rw [e15 m0 hS]; exact nI_le (Nat.le_refl _) (by omega)) c⟩
    · intro i hi ih m0 hS hf
      refine b_Thinner_fillFits_2 isF_1 ⟨fun c => absurd c (by rw [e15 m0 hS]; exact nI_ge hi (by omega)), fun _ => ?_⟩
      rw [nI_1]
      have key2 : ∀ j, j ≤ S.length → i < j → ∀ m1 : Mem, Same mem m1 [17] → (∀ x y, x < i → x < y → y < S.length → m1 17 (x * 16 + y) = nI (fitM (fun i => S.getD i 0) S.length x y)) → (∀ y, i < y → y < j → m1 17 (i * 16 + y) = nI (fitM (fun i => S.getD i 0) S.length i y)) → Wp shX m_Thinner_fillFits (d + 2) 14 [some (.ref 15), some (.ref 1), some (.int (nI i)), some (.int (nI j))] [] m1 (QV (fun m' => Thn m' S ∧ Same mem m' [17])) := by
        refine downInd (P := fun j => i < j → ∀ m1 : Mem, Same mem m1 [17] → (∀ x y, x < i → x < y → y < S.length → m1 17 (x * 16 + y) = nI (fitM (fun i => S.getD i 0) S.length x y)) → (∀ y, i < y → y < j → m1 17 (i * 16 + y) = nI (fitM (fun i => S.getD i 0) S.length i y)) → Wp shX m_Thinner_fillFits (d + 2) 14 [some (.ref 15), some (.ref 1), some (.int (nI i)), some (.int (nI j))] [] m1 (QV (fun m' => Thn m' S ∧ Same mem m' [17]))) S.length ?_ ?_
        · intro _ m1 hS1 hf1 hg1
          refine b_Thinner_fillFits_14 isF_1 ⟨fun _ => ?_, fun c => absurd (by rw [e15 m1 hS1]; exact nI_le (Nat.le_refl _) (by omega)) c⟩
          rw [nI_1]
          refine ih m1 hS1 (fun x y hx hxy hy => ?_)
          by_cases e1 : x = i
          · subst e1; exact hg1 y hxy hy
          · exact hf1 x y (by omega) hxy hy
        · intro j hj ihj hij m1 hS1 hf1 hg1
          have hF := h.same hS1 (by decide) (by decide)
          have hgi := h.small i
          have hgj := h.small j
          refine b_Thinner_fillFits_14 isF_1 ⟨fun c => absurd c (by rw [e15 m1 hS1]; exact nI_ge hj (by omega)), fun _ => ?_⟩
          rw [hF.aF hi, hF.aF hj, hF.2.1, al (by omega)]
          refine (s_fitting isF_1 hF (by omega) (by omega) (by omega)).to ?_
          have em : msk (fun x => (2 ^ S.length - 1).testBit x && (decide (S.getD x 0 &&& S.getD i 0 = S.getD i 0 &&& S.getD j 0) && decide (S.getD x 0 &&& S.getD j 0 = S.getD i 0 &&& S.getD j 0))) S.length = fitM (fun i => S.getD i 0) S.length i j := by
            unfold fitM
            refine msk_cong _ (fun l hl => ?_)
            rw [Nat.testBit_two_pow_sub_one]
            simp only [hl, decide_true, Bool.true_and]
          rw [em, show (16 : Int32) = nI 16 from rfl, pk_mul, nI_add, nI_clamp (by omega), nI_1]
          refine ⟨vp_in_nI (by omega) (by decide), ?_⟩
          refine ihj (by omega) _ (hS1.tr (Same.up (by simp))) (fun x y hx hxy hy => ?_) (fun y hiy hy => ?_)
          · rw [up2_nj (by omega)]; exact hf1 x y hx hxy hy
          · by_cases e : y = j
            · subst e; exact up2_at
            · rw [up2_nj (by omega)]; exact hg1 y hiy (by omega)
      exact key2 (i + 1) (by omega) (by omega) m0 hS hf (fun y hy hy2 => absurd hy2 (by omega))
  exact key 0 (Nat.zero_le _) mem Same.rf (fun x y hx => absurd hx (Nat.not_lt_zero _))
theorem s_leastFree {k : Nat} (h : Fam mem 1 n S) (hl : S.length ≤ 16) (hk2 : 2 ≤ k) (hk : k ≤ 16) : CI shX m_Thinner_leastFree (d + 42) [.ref 15, .ref 1, .int (nI k)] mem (fun r m' => (∃ b, r = nI b ∧ MF S k b) ∧ Same mem m' [15, 16, 17]) := by
  have hp := pow17 (m := S.length) (by omega)
  obtain ⟨k1, rfl⟩ : ∃ k1, k = k1 + 1 := ⟨k - 1, by omega⟩
  refine e_Thinner_leastFree isF_1 ?_
  have emin : (if 16 < mem 1 1 then 16 else mem 1 1) = nI S.length := by
    rw [h.2.1, if_neg (show ¬ (16 : Int32) < nI S.length from nI_nlt (a := 16) (by omega) (by decide))]
  rw [emin]
  have hS0 : Same mem (up2 mem 15 2 (nI S.length)) [15, 16, 17] := Same.up (by simp)
  refine (s_fillFits (d := d + 39) (h.same hS0 (by decide) (by decide)) hl up2_at).mono ?_
  rintro m1 ⟨hT, hS1⟩
  have hS1' : Same mem m1 [15, 16, 17] := hS0.tr (hS1.wd (by simp))
  have hSS : Same mem (up2 m1 16 0 0) [15, 16, 17] := hS1'.tr (Same.up (by simp))
  have tup : ∀ (m0 : Mem) j x, Thn m0 S → Thn (up2 m0 16 j x) S := fun m0 j x hT => ⟨by rw [up2_ne (by decide)]; exact hT.1, fun i j' h1 h2 => by rw [up2_ne (by decide)]; exact hT.2 i j' h1 h2⟩
  have key : ∀ i, i ≤ S.length → ∀ m0 : Mem, Thn m0 S → Same mem m0 [15, 16, 17] → (∀ f, f ≤ i → ∃ v, v ≤ f ∧ m0 16 f = nI v ∧ Mx S (k1 + 1) f v) → Wp shX m_Thinner_leastFree (d + 42) 27 [some (.ref 15), none, some (.int (nI (k1 + 1))), some (.int (nI i)), none] [] m0 (QI (fun r m' => (∃ b, r = nI b ∧ MF S (k1 + 1) b) ∧ Same mem m' [15, 16, 17])) := by
    refine downInd (P := fun i => ∀ m0 : Mem, Thn m0 S → Same mem m0 [15, 16, 17] → (∀ f, f ≤ i → ∃ v, v ≤ f ∧ m0 16 f = nI v ∧ Mx S (k1 + 1) f v) → Wp shX m_Thinner_leastFree (d + 42) 27 [some (.ref 15), none, some (.int (nI (k1 + 1))), some (.int (nI i)), none] [] m0 (QI (fun r m' => (∃ b, r = nI b ∧ MF S (k1 + 1) b) ∧ Same mem m' [15, 16, 17]))) S.length ?_ ?_
    · intro m0 hT0 hS hB
      refine b_Thinner_leastFree_27 isF_1 ⟨fun _ => ?_, fun c => absurd (by rw [hT0.1]; exact nI_le (Nat.le_refl _) (by omega)) c⟩
      obtain ⟨v, v1, v2, v3⟩ := hB S.length (Nat.le_refl _)
      rw [hT0.1, nI_clamp (by omega), v2, show (0 : Int32) = nI 0 from nI_0.symm]
      refine ⟨vp_in_nI (by omega) (by decide), ?_⟩
      refine (s_choose hT0 hl (by omega) (by omega) (Nat.le_refl _) (fun f hf => by obtain ⟨v, a, b, c⟩ := hB f hf; exact ⟨v, by omega, b, c⟩) S.length (d + 40) 0 v (Nat.le_refl _) (by omega) (by omega) (Nat.two_pow_pos _) (fun j _ => Nat.zero_testBit j) (Fr.zero (by omega))).mono ?_
      rintro r m' ⟨hr, rfl⟩
      refine ⟨?_, hS⟩
      rcases hr with ⟨e, y1, y2, y3, y4, y5⟩ | ⟨y1, y2⟩
      · rw [Nat.or_zero] at y3 y5
        refine ⟨e, y5, y1, y3, fun b' b1 b2 => by rw [y2]; exact v3.2 b' b1 b2, fun b' b1 b2 b3 => y4 b' b1 (by omega) (by rw [Nat.or_zero]; exact b2)⟩
      · obtain ⟨e, e1, e2, e3⟩ := v3.1
        exact absurd (by rw [Nat.or_zero]; exact e2) (y1 e e1 e3)
    · intro i hi ih m0 hT0 hS hB
      refine b_Thinner_leastFree_27 isF_1 ⟨fun c => absurd c (by rw [hT0.1]; exact nI_ge hi (by omega)), fun _ => ?_⟩
      obtain ⟨v, v1, v2, v3⟩ := hB i (Nat.le_refl _)
      rw [nI_clamp (by omega), v2, sh1 (by omega)]
      refine ⟨vp_in_nI (by omega) (by decide), ?_⟩
      refine (s_choose hT0 hl (by omega) (by omega) (F := i) (by omega) (fun f hf => by obtain ⟨v, a, b, c⟩ := hB f hf; exact ⟨v, by omega, b, c⟩) i (d + 40) (2 ^ i) v (Nat.le_refl _) (by omega) (by omega) (Nat.pow_lt_pow_right (by decide) hi) (fun j hj => by rw [Nat.testBit_two_pow]; simp; omega) (Fr.one (by omega) (by omega))).mono ?_
      rintro r m' ⟨hr, rfl⟩
      rw [nI_1, nI_clamp (by omega), v2]
      have hup : ∀ e, e < 2 ^ (i + 1) → Fr (fun i => S.getD i 0) (k1 + 1) e → e < 2 ^ i ∧ pop e ≤ v ∨ ∃ e', e' < 2 ^ i ∧ e = e' + 2 ^ i ∧ pop e = pop e' + 1 ∧ pop e' ≤ v ∧ Fr (fun i => S.getD i 0) (k1 + 1) (e' ||| 2 ^ i) := by
        intro e he hf
        rcases Nat.lt_or_ge e (2 ^ i) with q | q
        · exact Or.inl ⟨q, v3.2 e q hf⟩
        · obtain ⟨e', he', rfl⟩ := top_of q he
          exact Or.inr ⟨e', he', rfl, pop_top he' (by omega), v3.2 e' he' (hf.sub (fun l hl => by rw [top_lo he' (bit_lt he' hl)]; exact hl)), by rw [or_add he']; exact hf⟩
      have hB' : ∀ (w : Nat), w ≤ i + 1 → Mx S (k1 + 1) (i + 1) w → ∀ f, f ≤ i + 1 → ∃ v, v ≤ f ∧ (up2 m' 16 (i + 1) (nI w)) 16 f = nI v ∧ Mx S (k1 + 1) f v := by
        intro w hw hM f hf
        by_cases e : f = i + 1
        · subst e; exact ⟨w, hw, up2_at, hM⟩
        · obtain ⟨v', a, b, c⟩ := hB f (by omega)
          exact ⟨v', a, by rw [up2_nj e]; exact b, c⟩
      rcases hr with ⟨e, y1, y2, y3, y4, y5⟩ | ⟨y1, y2⟩
      · have hlt : e ||| 2 ^ i < 2 ^ S.length := Nat.or_lt_two_pow (Nat.lt_of_lt_of_le y1 (Nat.pow_le_pow_right (by decide) (by omega))) (Nat.pow_lt_pow_right (by decide) hi)
        refine ⟨fun z => absurd (y5.symm.trans z) (nI_m1 (by omega)), fun _ => ⟨vp_in_nI (by omega) (by decide), vp_in_nI (by omega) (by decide), ?_⟩⟩
        rw [nI_1]
        refine ih _ (tup _ _ _ hT0) (hS.tr (Same.up (by simp))) (hB' (v + 1) (by omega) ⟨⟨e + 2 ^ i, top_lt y1, by rw [← or_add y1]; exact y3, by rw [pop_top y1 (by omega), y2]⟩, fun e' he' hf' => ?_⟩)
        rcases hup e' he' hf' with ⟨_, q⟩ | ⟨e'', q1, q2, q3, q4, q5⟩
        · omega
        · omega
      · refine ⟨fun _ => ⟨vp_in_nI (by omega) (by decide), vp_in_nI (by omega) (by decide), ?_⟩, fun z => absurd y2 z⟩
        refine ih _ (tup _ _ _ hT0) (hS.tr (Same.up (by simp))) (hB' v (by omega) ⟨?_, fun e' he' hf' => ?_⟩)
        · obtain ⟨e, e1, e2, e3⟩ := v3.1
          exact ⟨e, Nat.lt_of_lt_of_le e1 (Nat.pow_le_pow_right (by decide) (by omega)), e2, e3⟩
        · rcases hup e' he' hf' with ⟨_, q⟩ | ⟨e'', q1, q2, q3, q4, q5⟩
          · exact q
          · by_cases e : pop e'' = v
            · exact absurd q5 (y1 e'' q1 e)
            · omega
  refine key 0 (Nat.zero_le _) _ (tup _ _ _ hT) hSS (fun f hf => ⟨0, Nat.zero_le _, ?_, ⟨0, Nat.two_pow_pos _, Fr.zero (by omega), pop_zero⟩, fun e he _ => ?_⟩)
  · rw [show f = 0 by omega, up2_at]; exact nI_0.symm
  · rw [show f = 0 by omega, Nat.pow_zero] at he
    rw [show e = 0 by omega, pop_zero]
    exact Nat.le_refl _
theorem x_most {a : Int32} (h : Fam mem 1 n S) (hl : S.length ≤ 16) : CI shX m_PS_most (d + 43) [.ref 0, .int a] mem (fun r m' => r = aMost S a ∧ Same mem m' [15, 16, 17]) := by
  refine e_PS_most ⟨fun c => ?_, fun c => ⟨by rw [aMost, ifP_f c], Same.rf⟩⟩
  rw [aMost, ifP_t c]
  obtain ⟨k, hk2, hk, rfl⟩ := of_2_16 c
  rw [nI_clamp (by omega)]
  refine (s_leastFree h hl hk2 hk).mono ?_
  rintro r m' ⟨⟨b, e1, e2⟩, hS⟩
  exact ⟨by rw [e1, mfN_eq e2], hS⟩
theorem x_surplus {a : Int32} (h : Fam mem 1 n S) (hl : S.length ≤ 16) : CI shX m_PS_surplus (d + 43) [.ref 0, .int a] mem (fun r m' => r = aSurplus S a ∧ Same mem m' [15, 16, 17]) := by
  have hp := pow17 (m := S.length) (by omega)
  refine e_PS_surplus ⟨fun c => ?_, fun c => ⟨by rw [aSurplus, ifP_f c], Same.rf⟩⟩
  rw [aSurplus, ifP_t c]
  obtain ⟨k, hk2, hk, rfl⟩ := of_2_16 c
  rw [nI_clamp (by omega)]
  refine (s_leastFree h hl hk2 hk).mono ?_
  rintro r m' ⟨⟨b, e1, e2⟩, hS⟩
  have hb := e2.1
  have hpb := pop_lt (by omega) hb
  exact ⟨by rw [e1, mfN_eq e2, h.2.1, bc (by omega), pk_sub hpb], hS⟩
end THF
