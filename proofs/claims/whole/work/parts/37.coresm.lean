/-! cores of the reference -/
theorem cnt_ins {f f' : Nat → Bool} {c : Nat} (h0 : ¬ f c = true) (h1 : f' c = true) (h : ∀ x, x ≠ c → f' x = f x) : ∀ N, c < N → cntP f' N = cntP f N + 1
  | 0, hc => absurd hc (by omega)
  | N + 1, hc => by
    by_cases e : c = N
    · subst e
      rw [cntP, cntP, if_pos h1, if_neg h0, cntP_cong c (fun x hx => h x (by omega))]
    · rw [cntP, cntP, cnt_ins h0 h1 h N (by omega), h N (fun z => e z.symm)]
      omega
/-- c is the core of k sets with bits below N -/
def CoN (S : List Nat) (k N c : Nat) : Prop := ∃ b, b < N ∧ FlC (fun i => S.getD i 0) S.length c k b
noncomputable def coN (S : List Nat) (k N c : Nat) : Bool := @decide (CoN S k N c) (Classical.propDecidable _)
theorem coN_iff {S : List Nat} {k N c : Nat} : coN S k N c = true ↔ CoN S k N c := @decide_eq_true_iff _ (Classical.propDecidable _)
theorem coN_same {S : List Nat} {k i : Nat} (h : ∀ c, FlC (fun i => S.getD i 0) S.length c k i → coN S k i c = true) : coN S k (i + 1) = coN S k i := by
  funext c
  rw [Bool.eq_iff_iff, coN_iff, coN_iff]
  constructor
  · rintro ⟨b, h1, h2⟩
    by_cases e : b = i
    · subst e; exact coN_iff.mp (h c h2)
    · exact ⟨b, by omega, h2⟩
  · rintro ⟨b, h1, h2⟩
    exact ⟨b, by omega, h2⟩
noncomputable def aCores (S : List Nat) (a : Int32) : Int32 := ifP (2 ≤ a ∧ a ≤ 16) (nI (cntP (coN S a.toNatClampNeg (2 ^ S.length)) 1024)) (-1)
section COM
variable {d n : Nat} {S : List Nat} {mem : Mem}
theorem y_cores {a : Int32} (h : Now mem n S) : CI shM m_Mo_cores (d + 2) [.ref 0, .int a] mem (fun r m' => r = aCores S a ∧ Keep mem m') := by
  have hl := h.2.2.1
  have hp := pow17 (m := S.length) (by omega)
  have h1p : 1 ≤ 2 ^ S.length := Nat.one_le_two_pow
  refine e_Mo_cores ⟨fun c => ?_, fun c => ⟨by rw [aCores, ifP_f c], Keep.rf⟩⟩
  rw [aCores, ifP_t c]
  obtain ⟨k, hk2, hk, rfl⟩ := of_2_16 c
  rw [nI_clamp (by omega)]
  refine (s_laysAll h).mono ?_
  rintro m1 ⟨hR, hK⟩
  have loop : ∀ i, i ≤ 2 ^ S.length → ∀ m0 : Mem, Rw m0 S → Keep mem m0 → (∀ c, c < 1024 → m0 6 c = if coN S k i c = true then 1 else 0) → Wp shM m_Mo_cores (d + 2) 39 [some (.ref 0), some (.int (nI k)), some (.int (nI (cntP (coN S k i) 1024))), some (.int (nI i)), none] [] m0 (QI (fun r m' => r = nI (cntP (coN S k (2 ^ S.length)) 1024) ∧ Keep mem m')) := by
    refine downInd (P := fun i => ∀ m0 : Mem, Rw m0 S → Keep mem m0 → (∀ c, c < 1024 → m0 6 c = if coN S k i c = true then 1 else 0) → Wp shM m_Mo_cores (d + 2) 39 [some (.ref 0), some (.int (nI k)), some (.int (nI (cntP (coN S k i) 1024))), some (.int (nI i)), none] [] m0 (QI (fun r m' => r = nI (cntP (coN S k (2 ^ S.length)) 1024) ∧ Keep mem m'))) (2 ^ S.length) ?_ ?_
    · intro m0 hR hK _
      exact b_Mo_cores_39 ⟨fun _ => ⟨rfl, hK⟩, fun c => absurd (by rw [hR.lim]; exact nI_le (Nat.le_refl _) (by omega)) c⟩
    · intro i hi ih m0 hR hK hS
      have hpo := pop_le i
      have skip : (∀ c, FlC (fun i => S.getD i 0) S.length c k i → coN S k i c = true) → Wp shM m_Mo_cores (d + 2) 39 [some (.ref 0), some (.int (nI k)), some (.int (nI (cntP (coN S k i) 1024))), some (.int (nI i + 1)), none] [] m0 (QI (fun r m' => r = nI (cntP (coN S k (2 ^ S.length)) 1024) ∧ Keep mem m')) := by
        intro hq
        rw [coN_same hq] at ih
        rw [nI_1]
        exact ih m0 hR hK hS
      refine b_Mo_cores_39 ⟨fun c => absurd c (by rw [hR.lim, nI_leI (by omega) (by omega)]; omega), fun _ => ?_⟩
      refine (s_ones (by omega)).to ?_
      rw [nI_inj (by omega) (by omega)]
      refine ⟨fun z => ?_, fun z => skip (fun c q => absurd q.2.1 z)⟩
      refine (s_McoreOf hR hi).mono ?_
      rintro v m' ⟨hv, rfl⟩
      rcases hv with ⟨c3, y1, y2⟩ | ⟨y1, y2⟩
      · have h3 : c3 < 1024 := by
          obtain ⟨x, y, q1, q2, q3⟩ := y1.1
          rw [← y1.2 x y q1 q2 q3]
          exact Nat.lt_of_le_of_lt Nat.and_le_right (hR.2.2.2 y)
        have un : ∀ c, FlC (fun i => S.getD i 0) S.length c k i → c = c3 := fun c q => Sn.uniq ⟨y1.1, q.2.2⟩ y1
        refine ⟨fun z2 => absurd z2 (by rw [y2, i_nl]; exact nI_le0 (by omega)), fun _ => ?_⟩
        rw [y2, nI_clamp (by omega), hS c3 h3]
        refine ⟨vp_in_nI (by omega) (by decide), fun z2 => ⟨vp_in_nI (by omega) (by decide), ?_⟩, fun z2 => skip (fun c q => ?_)⟩
        · have hno : ¬ coN S k i c3 = true := fun q => by rw [if_pos q] at z2; exact absurd z2 (by decide)
          have hyes : coN S k (i + 1) c3 = true := coN_iff.mpr ⟨i, by omega, hi, z, y1.2⟩
          have hoth : ∀ c, c ≠ c3 → coN S k (i + 1) c = coN S k i c := fun c hc => by
            rw [Bool.eq_iff_iff, coN_iff, coN_iff]
            constructor
            · rintro ⟨b, l1, l2⟩
              by_cases e : b = i
              · subst e; exact absurd (un c l2) hc
              · exact ⟨b, by omega, l2⟩
            · rintro ⟨b, l1, l2⟩
              exact ⟨b, by omega, l2⟩
          have hc := cnt_ins hno hyes hoth 1024 h3
          rw [hc] at ih
          rw [nI_1, nI_1]
          refine ih _ (hR.of (by rw [up2_ne (by decide)]) (up2_ne (by decide))) (hK.tr (Keep.upc (by decide) (by decide) (by decide) (by decide) (by decide))) (fun c hc => ?_)
          by_cases e : c = c3
          · subst e; rw [up2_at, if_pos hyes]; decide
          · rw [up2_nj e, hS c hc, hoth c e]
        · rw [un c q]
          by_cases e : coN S k i c3 = true
          · exact e
          · rw [if_neg e] at z2
            exact absurd rfl z2
      · refine ⟨fun _ => skip (fun c q => ?_), fun z2 => absurd (by rw [y2]; decide) z2⟩
        exact absurd ⟨(two_bits (by omega) hi).mpr (by rw [z]; exact hk2), q.2.2⟩ (y1 c)
  have hno1 : ∀ c, ¬ coN S k 1 c = true := fun c q => by
    obtain ⟨b, l1, l2⟩ := coN_iff.mp q
    have : b = 0 := by omega
    subst this
    have := l2.2.1
    rw [pop_zero] at this
    omega
  have fill : ∀ i, i ≤ 1024 → ∀ m0 : Mem, Rw m0 S → Keep mem m0 → (∀ c, c < i → m0 6 c = 0) → Wp shM m_Mo_cores (d + 2) 15 [some (.ref 0), some (.int (nI k)), some (.int (nI i)), none, none] [] m0 (QI (fun r m' => r = nI (cntP (coN S k (2 ^ S.length)) 1024) ∧ Keep mem m')) := by
    refine downInd (P := fun i => ∀ m0 : Mem, Rw m0 S → Keep mem m0 → (∀ c, c < i → m0 6 c = 0) → Wp shM m_Mo_cores (d + 2) 15 [some (.ref 0), some (.int (nI k)), some (.int (nI i)), none, none] [] m0 (QI (fun r m' => r = nI (cntP (coN S k (2 ^ S.length)) 1024) ∧ Keep mem m'))) 1024 ?_ ?_
    · intro m0 hR hK hS
      refine b_Mo_cores_15 ⟨fun _ => ?_, fun c => absurd (by decide) c⟩
      have := loop 1 h1p m0 hR hK (fun c hc => by rw [if_neg (hno1 c)]; exact hS c hc)
      rw [cntP_no 1024 (fun c _ => hno1 c)] at this
      exact this
    · intro i hi ih m0 hR hK hS
      refine b_Mo_cores_15 ⟨fun c => absurd c (by rw [show (1024 : Int32) = nI 1024 from rfl, nI_leI (by decide) (by omega)]; omega), fun _ => ⟨vp_in_nI (by omega) (by decide), ?_⟩⟩
      rw [nI_clamp (by omega), nI_1]
      refine ih _ (hR.of (by rw [up2_ne (by decide)]) (up2_ne (by decide))) (hK.tr (Keep.upc (by decide) (by decide) (by decide) (by decide) (by decide))) (fun c hc => ?_)
      by_cases e : c = i
      · subst e; rw [up2_at]; decide
      · rw [up2_nj e]; exact hS c (by omega)
  exact fill 0 (by decide) m1 hR hK (fun c hc => absurd hc (by omega))
end COM
