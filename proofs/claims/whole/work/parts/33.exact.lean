/-! exact of the reference -/
theorem pop_pow1 : ∀ n, n ≤ 10 → pop (2 ^ n - 1) = n := by decide
/-- all points of the first i sets -/
def uniT (g : Nat → Nat) : Nat → Nat
  | 0 => 0
  | i + 1 => uniT g i ||| g i
theorem uniT_lt {g : Nat → Nat} {w : Nat} (h : ∀ i, g i < 2 ^ w) : ∀ i, uniT g i < 2 ^ w
  | 0 => Nat.two_pow_pos w
  | i + 1 => Nat.or_lt_two_pow (uniT_lt h i) (h i)
/-- these sets are apart and have all points -/
def Ex (S : List Nat) (b : Nat) : Prop := Cl (fun i => S.getD i 0) 0 b ∧ unT (fun i => S.getD i 0) b S.length = uniT (fun i => S.getD i 0) S.length
noncomputable def exB (S : List Nat) (b : Nat) : Bool := @decide (Ex S b) (Classical.propDecidable _)
theorem exB_iff {S : List Nat} {b : Nat} : exB S b = true ↔ Ex S b := @decide_eq_true_iff _ (Classical.propDecidable _)
noncomputable def aExact (S : List Nat) (a : Int32) : Int32 := ifP (0 ≤ a ∧ a ≤ 1) (if a = 0 then nI (cntP (exB S) (2 ^ S.length)) else fstI (exB S) (2 ^ S.length)) (-1)
section EXA
variable {d n : Nat} {S : List Nat} {mem : Mem}
theorem s_allHad (h : Now mem n S) : CI shM m_Mo_allHad (d + 1) [.ref 0] mem (fun r m' => r = nI (uniT (fun i => S.getD i 0) S.length) ∧ m' = mem) := by
  refine e_Mo_allHad ?_
  refine downInd (P := fun i => Wp shM m_Mo_allHad (d + 1) 4 [some (.ref 0), some (.int (nI (uniT (fun i => S.getD i 0) i))), some (.int (nI i))] [] mem (QI (fun r m' => r = nI (uniT (fun i => S.getD i 0) S.length) ∧ m' = mem))) S.length ?_ ?_ 0 (Nat.zero_le _)
  · exact b_Mo_allHad_4 ⟨fun _ => ⟨rfl, rfl⟩, fun c => absurd ((h.ge (Nat.le_refl _)).mpr rfl) c⟩
  · intro i hi ih
    refine b_Mo_allHad_4 ⟨fun c => absurd ((h.ge (Nat.le_of_lt hi)).mp c) (by omega), fun _ => ⟨h.vin hi, ?_⟩⟩
    rw [h.row hi, io, nI_1]
    exact ih
theorem y_exact {a : Int32} (h : Now mem n S) : CI shM m_Mo_exact (d + 2) [.ref 0, .int a] mem (fun r m' => r = aExact S a ∧ Keep mem m') := by
  have hl := h.2.2.1
  have hp := pow17 (m := S.length) (by omega)
  have h1p : 1 ≤ 2 ^ S.length := Nat.one_le_two_pow
  refine e_Mo_exact ⟨fun c => ?_, fun c => ⟨by rw [aExact, ifP_f c], Keep.rf⟩⟩
  rw [aExact, ifP_t c]
  have hmany : (1 : Int32) <<< (mem 1 1 &&& 31) = nI (2 ^ S.length) := by rw [h.2.1, sh1 (by omega)]
  refine (s_allHad h).to ?_
  have hu2 : uniT (fun i => S.getD i 0) S.length < 2 ^ 10 := uniT_lt (fun j => h.2.2.2.2.2 j) _
  refine downInd (P := fun i => Wp shM m_Mo_exact (d + 2) 25 [some (.ref 0), some (.int a), some (.int (nI (uniT (fun i => S.getD i 0) S.length))), some (.int (nI (cntP (exB S) i))), some (.int (fstI (exB S) i)), some (.int (nI i))] [] mem (QI (fun r m' => r = (if a = 0 then nI (cntP (exB S) (2 ^ S.length)) else fstI (exB S) (2 ^ S.length)) ∧ Keep mem m'))) (2 ^ S.length) ?_ ?_ 0 (Nat.zero_le _)
  · exact b_Mo_exact_25 ⟨fun _ => ⟨fun z => ⟨by rw [if_neg z], Keep.rf⟩, fun z => ⟨by rw [if_pos z], Keep.rf⟩⟩, fun c => absurd (by rw [hmany]; exact nI_le (Nat.le_refl _) (by omega)) c⟩
  · intro i hi ih
    refine b_Mo_exact_25 ⟨fun c => absurd c (by rw [hmany, nI_leI (by omega) (by omega)]; omega), fun _ => ?_⟩
    refine (s_unionApart h hi).mono ?_
    rintro v m' ⟨hv, rfl⟩
    have hu : unT (fun i => S.getD i 0) i S.length < 2 ^ 10 := unT_lt (fun j => h.2.2.2.2.2 j) _
    have hiff : v = nI (uniT (fun i => S.getD i 0) S.length) ↔ exB S i = true := by
      rw [exB_iff]
      rcases hv with ⟨y1, y2⟩ | ⟨y1, y2⟩
      · rw [y2, nI_inj (by omega) (by omega)]
        exact ⟨fun z => ⟨y1, z⟩, fun z => z.2⟩
      · exact ⟨fun z => absurd (z.symm.trans y2) (nI_m1 (by omega)), fun z => absurd z.1 y1⟩
    rw [hiff, nI_1, nI_1]
    refine ⟨fun z => ⟨fun z2 => ?_, fun z2 => ?_⟩, fun z => ?_⟩
    · rw [cntP, if_pos z, fstI_k z2] at ih
      exact ih
    · rw [cntP, if_pos z, fstI_t z z2] at ih
      exact ih
    · rw [cntP, if_neg z, Nat.add_zero, fstI_f z] at ih
      exact ih
end EXA
