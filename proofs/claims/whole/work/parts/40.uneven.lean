/-! uneven of both sides -/
def ntzY (y : Int32) : Int32 := if 0 < y then (if y ≤ 65536 then ntz1 y 1 else ntz1 (us y 16) (1 + 16)) else y &&& 32
theorem ntzY_all : ∀ t, t < 17 → ntzY (nI (2 ^ t - 1)) = nI t := by decide +kernel
theorem low_dif {a t : Nat} (h1 : a.testBit t = true) (h2 : ∀ j, j < t → a.testBit j = false) : dif (a - 1) a = 2 ^ t - 1 := by
  have e0 : a % 2 ^ t = 0 := by
    apply Nat.eq_of_testBit_eq
    intro j
    rw [Nat.testBit_mod_two_pow, Nat.zero_testBit]
    by_cases hj : j < t
    · rw [h2 j hj]; simp
    · simp [hj]
  have e1 : a / 2 ^ t % 2 = 1 := by
    rw [Nat.testBit_eq_decide_div_mod_eq, decide_eq_true_iff] at h1
    exact h1
  have hp : 0 < 2 ^ t := Nat.two_pow_pos t
  obtain ⟨q, hq⟩ : ∃ q, a / 2 ^ t = 2 * q + 1 := ⟨a / 2 ^ t / 2, by omega⟩
  have ea : a = 2 ^ t * (2 * q + 1) + 0 := by
    have := Nat.div_add_mod a (2 ^ t)
    rw [e0, hq] at this
    exact this.symm
  have eb : a - 1 = 2 ^ t * (2 * q) + (2 ^ t - 1) := by
    rw [ea, Nat.mul_add]
    omega
  apply Nat.eq_of_testBit_eq
  intro j
  rw [dif_bit, Nat.testBit_two_pow_sub_one, eb, ea, Nat.testBit_two_pow_mul_add _ (by omega), Nat.testBit_two_pow_mul_add _ hp]
  by_cases hj : j < t
  · simp [hj]
  · rw [if_neg hj, if_neg hj]
    simp only [hj, decide_false]
    by_cases e : j - t = 0
    · rw [e]; simp
    · obtain ⟨k, hk⟩ : ∃ k, j - t = k + 1 := ⟨j - t - 1, by omega⟩
      rw [hk, Nat.testBit_succ, Nat.testBit_succ, show 2 * q / 2 = q by omega, show (2 * q + 1) / 2 = q by omega]
      cases q.testBit k <;> rfl
theorem ntz_low {a t : Nat} (h : a < 2 ^ 17) (h1 : a.testBit t = true) (h2 : ∀ j, j < t → a.testBit j = false) : ntzF (nI a) = nI t := by
  have hpos : 1 ≤ a := Nat.le_trans Nat.one_le_two_pow (bit_ge h1)
  have e : (nI a ^^^ (-1)) &&& (nI a - 1) = nI (2 ^ t - 1) := by
    have e1 : nI a - 1 = nI (a - 1) := pk_sub hpos
    rw [e1, Int32.and_comm, idif, low_dif h1 h2]
  have e2 : ntzF (nI a) = ntzY ((nI a ^^^ (-1)) &&& (nI a - 1)) := rfl
  rw [e2, e]
  exact ntzY_all t (bit_lt h h1)
/-- the first pair of these sets that differ in size -/
def Un (S : List Nat) (b v : Nat) : Prop := ∃ i j, i < j ∧ j < S.length ∧ b.testBit i = true ∧ b.testBit j = true ∧ pop (S.getD i 0) ≠ pop (S.getD j 0) ∧ v = 100 * i + j
noncomputable def aUneven (S : List Nat) (a : Int32) : Int32 := ifP (0 ≤ a ∧ a ≤ alF (nI S.length)) (ifP (∃ c, Sn (fun i => S.getD i 0) a.toNatClampNeg c) (lstI (Un S a.toNatClampNeg) (-2)) (-2)) (-1)
section UNE
variable {d n : Nat} {S : List Nat} {mem : Mem}
theorem nI_100 {i j : Nat} : (100 * nI i) + nI j = nI (100 * i + j) := by
  rw [show (100 : Int32) = nI 100 from rfl, pk_mul, nI_add]
theorem x_uneven {a : Int32} (h : Fam mem 1 n S) : CI shX m_PS_uneven (d + 2) [.ref 0, .int a] mem (fun r m' => r = aUneven S a ∧ m' = mem) := by
  have hl := h.2.2.1
  have hp := pow17 hl
  refine e_PS_uneven ⟨fun c => ?_, fun c => ⟨?_, rfl⟩⟩
  · rw [h.2.1] at c
    rw [aUneven, ifP_t c]
    obtain ⟨b, hb, rfl⟩ := nums hl c
    rw [nI_clamp (by omega)]
    refine (s_coreOf isF_1 h hb).mono ?_
    rintro v m' ⟨hv, rfl⟩
    rcases hv with ⟨c3, y1, y2⟩ | ⟨y1, y2⟩
    · have hc := y1.lt h.small
      refine ⟨fun _ => ?_, fun z => absurd (y2.symm.trans z) (nI_m2 (by omega))⟩
      rw [ifP_t ⟨c3, y1⟩]
      obtain ⟨i1, j1, q1, q2, q3⟩ := y1.1
      have hb0 : b ≠ 0 := fun e => by subst e; simp at q2
      obtain ⟨t, t1, t2, t3⟩ := low_ex S.length hb hb0
      rw [ntz_low (by omega) t2 t3, h.aF t1, bc (by have := h.small t; omega)]
      have hpt := pop_le (S.getD t 0)
      refine downInd (P := fun i => (∀ j, j < i → b.testBit j = true → pop (S.getD j 0) = pop (S.getD t 0)) → Wp shX m_PS_uneven (d + 2) 49 [some (.ref 0), some (.int (nI b)), some (.int (nI t)), some (.int (nI (pop (S.getD t 0)))), some (.int (nI i))] [] m' (QI (fun r m2 => r = lstI (Un S b) (-2) ∧ m2 = m'))) S.length ?_ ?_ 0 (Nat.zero_le _) (fun j hj => absurd hj (Nat.not_lt_zero _))
      · intro hno
        refine b_PS_uneven_49 ⟨fun _ => ⟨?_, rfl⟩, fun c => absurd ((h.ge (Nat.le_refl _)).mpr rfl) c⟩
        rw [lstI_no]
        rintro v ⟨i, j, z1, z2, z3, z4, z5, -⟩
        exact z5 ((hno i (by omega) z3).trans (hno j z2 z4).symm)
      · intro i hi ih hno
        have hpi := pop_le (S.getD i 0)
        refine b_PS_uneven_49 ⟨fun c => absurd ((h.ge (Nat.le_of_lt hi)).mp c) (by omega), fun _ => ⟨fun z => ?_, fun z => ⟨fun z2 => ?_, fun z2 => ⟨?_, rfl⟩⟩⟩⟩
        · rw [hasI0 (by omega) (by omega)] at z
          rw [nI_1]
          refine ih (fun j hj hb => ?_)
          by_cases e : j = i
          · subst e; rw [z] at hb; cases hb
          · exact hno j (by omega) hb
        · rw [h.aF hi, bc (by have := h.small i; omega), nI_inj (by omega) (by omega)] at z2
          rw [nI_1]
          refine ih (fun j hj hb => ?_)
          by_cases e : j = i
          · subst e; exact z2
          · exact hno j (by omega) hb
        · rw [hasI0 (by omega) (by omega), Bool.not_eq_false] at z
          rw [h.aF hi, bc (by have := h.small i; omega), nI_inj (by omega) (by omega)] at z2
          have hti : t < i := by
            rcases Nat.lt_trichotomy t i with q | q | q
            · exact q
            · subst q; exact absurd rfl z2
            · rw [t3 i q] at z; cases z
          rw [nI_100]
          symm
          refine lstI_eq ⟨t, i, hti, hi, t2, z, fun e => z2 e.symm, rfl⟩ ?_
          rintro v ⟨i', j', w1, w2, w3, w4, w5, rfl⟩
          have hi't : t ≤ i' := by
            rcases Nat.lt_or_ge i' t with q | q
            · rw [t3 i' q] at w3; cases w3
            · exact q
          by_cases e : i' = t
          · subst e
            have : i ≤ j' := by
              rcases Nat.lt_or_ge j' i with q | q
              · exact absurd (hno j' q w4).symm w5
              · exact q
            omega
          · omega
    · exact ⟨fun z => absurd y2 z, fun _ => ⟨by rw [ifP_f (fun ⟨c, hc⟩ => y1 c hc)], rfl⟩⟩
  · rw [h.2.1] at c
    rw [aUneven, ifP_f c]
theorem y_uneven {a : Int32} (h : Now mem n S) : CI shM m_Mo_uneven (d + 2) [.ref 0, .int a] mem (fun r m' => r = aUneven S a ∧ Keep mem m') := by
  have hl := h.2.2.1
  have hp := pow17 (m := S.length) (by omega)
  refine e_Mo_uneven ⟨fun c => ?_, fun c => ⟨?_, Keep.rf⟩⟩
  · rw [h.2.1] at c
    rw [aUneven, ifP_t c]
    obtain ⟨b, hb, rfl⟩ := nums (by omega) c
    rw [nI_clamp (by omega)]
    refine (s_laysAll h).mono ?_
    rintro m1 ⟨hR, hK⟩
    refine (s_McoreOf hR hb).mono ?_
    rintro v m' ⟨hv, rfl⟩
    rcases hv with ⟨c3, y1, y2⟩ | ⟨y1, y2⟩
    · have hc := y1.lt h.2.2.2.2.2
      refine ⟨fun _ => ?_, fun z => absurd (by rw [y2]; exact nI_le0 (by omega)) z⟩
      rw [ifP_t ⟨c3, y1⟩]
      have h1 := h.keep hK
      refine downInd (P := fun i => (∀ i' j', i' < i → i' < j' → j' < S.length → b.testBit i' = true → b.testBit j' = true → pop (S.getD i' 0) = pop (S.getD j' 0)) → Wp shM m_Mo_uneven (d + 2) 27 [some (.ref 0), some (.int (nI b)), some (.int (nI i)), none] [] m' (QI (fun r m2 => r = lstI (Un S b) (-2) ∧ Keep mem m2))) S.length ?_ ?_ 0 (Nat.zero_le _) (fun i' _ hj => absurd hj (Nat.not_lt_zero _))
      · intro hno
        refine b_Mo_uneven_27 ⟨fun _ => ⟨?_, hK⟩, fun c => absurd ((h1.ge (Nat.le_refl _)).mpr rfl) c⟩
        rw [lstI_no]
        rintro v ⟨i, j, z1, z2, z3, z4, z5, -⟩
        exact z5 (hno i j (by omega) z1 z2 z3 z4)
      · intro i hi ih hno
        refine b_Mo_uneven_27 ⟨fun c => absurd ((h1.ge (Nat.le_of_lt hi)).mp c) (by omega), fun _ => ?_⟩
        rw [nI_1]
        refine downInd (P := fun j => i < j → (∀ j', i < j' → j' < j → b.testBit i = true → b.testBit j' = true → pop (S.getD i 0) = pop (S.getD j' 0)) → Wp shM m_Mo_uneven (d + 2) 39 [some (.ref 0), some (.int (nI b)), some (.int (nI i)), some (.int (nI j))] [] m' (QI (fun r m2 => r = lstI (Un S b) (-2) ∧ Keep mem m2))) S.length ?_ ?_ (i + 1) (by omega) (by omega) (fun j' q1 q2 => absurd q1 (by omega))
        · intro hij hnj
          refine b_Mo_uneven_39 ⟨fun _ => ?_, fun c => absurd ((h1.ge (Nat.le_refl _)).mpr rfl) c⟩
          rw [nI_1]
          refine ih (fun i' j' q1 q2 q3 q4 q5 => ?_)
          by_cases e : i' = i
          · subst e; exact hnj j' q2 q3 q4 q5
          · exact hno i' j' (by omega) q2 q3 q4 q5
        · intro j hj ihj hij hnj
          have hgi := h.2.2.2.2.2 i
          have hgj := h.2.2.2.2.2 j
          have hpi := pop_le (S.getD i 0)
          have hpj := pop_le (S.getD j 0)
          have go : (b.testBit i = true → b.testBit j = true → i < j → pop (S.getD i 0) = pop (S.getD j 0)) → Wp shM m_Mo_uneven (d + 2) 39 [some (.ref 0), some (.int (nI b)), some (.int (nI i)), some (.int (nI j + 1))] [] m' (QI (fun r m2 => r = lstI (Un S b) (-2) ∧ Keep mem m2)) := by
            intro hq
            rw [nI_1]
            refine ihj (by omega) (fun j' q1 q2 q3 q4 => ?_)
            by_cases e : j' = j
            · subst e; exact hq q3 q4 q1
            · exact hnj j' q1 (by omega) q3 q4
          refine b_Mo_uneven_39 ⟨fun c => absurd ((h1.ge (Nat.le_of_lt hj)).mp c) (by omega), fun _ => ⟨fun z => ?_, fun z => ⟨fun z2 => ?_, fun z2 => ⟨h1.vin hi, ?_⟩⟩⟩⟩
          · rw [hasI (by omega) (by omega)] at z
            exact go (fun q => absurd q z)
          · rw [hasI (by omega) (by omega)] at z2
            exact go (fun _ q => absurd q z2)
          · rw [hasI (by omega) (by omega)] at z z2
            rw [h1.row hi]
            refine (s_ones (by omega)).to ⟨h1.vin hj, ?_⟩
            rw [h1.row hj]
            refine (s_ones (by omega)).to ?_
            rw [nI_inj (by omega) (by omega)]
            refine ⟨fun z3 => go (fun _ _ _ => z3), fun z3 => ⟨?_, hK⟩⟩
            rw [nI_100]
            symm
            refine lstI_eq ⟨i, j, hij, hj, z, z2, z3, rfl⟩ ?_
            rintro v ⟨i', j', w1, w2, w3, w4, w5, rfl⟩
            rcases Nat.lt_trichotomy i' i with q | q | q
            · exact absurd (hno i' j' q w1 w2 w3 w4) w5
            · subst q
              rcases Nat.lt_or_ge j' j with q2 | q2
              · exact absurd (hnj j' w1 q2 w3 w4) w5
              · omega
            · omega
    · exact ⟨fun z => absurd z (by rw [y2]; decide), fun _ => ⟨by rw [ifP_f (fun ⟨c, hc⟩ => y1 c hc)], hK⟩⟩
  · rw [h.2.1] at c
    rw [aUneven, ifP_f c]
end UNE
