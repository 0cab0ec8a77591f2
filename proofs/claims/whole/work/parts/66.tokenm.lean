/-! the tokens of the reference -/
def thF (t : List Nat) (i : Nat) : Int32 := if i < t.length then nI (t.getD i 0) else -1
theorem th_eq {t : List Nat} {i v : Nat} (hb : t.getD i 0 < 256) (hv : v < 256) : (thF t i = nI v) ↔ (i < t.length ∧ t.getD i 0 = v) := by
  rw [thF]
  by_cases c : i < t.length
  · rw [if_pos c, nI_inj (by omega) (by omega)]
    exact ⟨fun z => ⟨c, z⟩, fun z => z.2⟩
  · rw [if_neg c]
    exact ⟨fun z => absurd z.symm (nI_m1 (by omega)), fun z => absurd z.1 c⟩
theorem th_rg {t : List Nat} {i lo hi' : Nat} (hb : t.getD i 0 < 256) (hlo : lo < 256) (hhi : hi' < 256) : (nI lo ≤ thF t i ∧ thF t i ≤ nI hi') ↔ (i < t.length ∧ lo ≤ t.getD i 0 ∧ t.getD i 0 ≤ hi') := by
  rw [thF]
  by_cases c : i < t.length
  · rw [if_pos c, nI_leI (by omega) (by omega), nI_leI (by omega) (by omega)]
    exact ⟨fun z => ⟨c, z⟩, fun z => z.2⟩
  · rw [if_neg c]
    refine ⟨fun z => ?_, fun z => absurd z.1 c⟩
    have := Int32.lt_of_le_of_lt z.1 (by decide : (-1 : Int32) < 0)
    exact absurd this (nI_pos (by omega))
theorem th_lw {t : List Nat} {i : Nat} (hb : t.getD i 0 < 256) : (97 ≤ thF t i ∧ thF t i ≤ 122) ↔ lwB t i = true := by
  rw [show (97 : Int32) = nI 97 from rfl, show (122 : Int32) = nI 122 from rfl, th_rg hb (by decide) (by decide), lwB, Bool.and_eq_true, Bool.and_eq_true, decide_eq_true_iff, decide_eq_true_iff, decide_eq_true_iff]
theorem th_dg {t : List Nat} {i : Nat} (hb : t.getD i 0 < 256) : (48 ≤ thF t i ∧ thF t i ≤ 57) ↔ dgB t i = true := by
  rw [show (48 : Int32) = nI 48 from rfl, show (57 : Int32) = nI 57 from rfl, th_rg hb (by decide) (by decide), dgB, Bool.and_eq_true, Bool.and_eq_true, decide_eq_true_iff, decide_eq_true_iff, decide_eq_true_iff]
theorem th_bl {t : List Nat} {i : Nat} (hb : t.getD i 0 < 256) : (thF t i = 32 ∨ thF t i = 10) ↔ blB t i = true := by
  rw [show (32 : Int32) = nI 32 from rfl, show (10 : Int32) = nI 10 from rfl, th_eq hb (by decide), th_eq hb (by decide), blB, Bool.and_eq_true, Bool.or_eq_true, decide_eq_true_iff, decide_eq_true_iff, decide_eq_true_iff]
  constructor
  · rintro (z | z)
    · exact ⟨z.1, Or.inl z.2⟩
    · exact ⟨z.1, Or.inr z.2⟩
  · rintro ⟨z1, z2⟩
    exact z2.imp (fun q => ⟨z1, q⟩) (fun q => ⟨z1, q⟩)
theorem th_no {t : List Nat} {i : Nat} (hb : t.getD i 0 < 256) : (thF t i = -1) ↔ t.length ≤ i := by
  rw [thF]
  by_cases c : i < t.length
  · rw [if_pos c]
    exact ⟨fun z => absurd z (nI_m1 (by omega)), fun z => by omega⟩
  · rw [if_neg c]
    exact ⟨fun _ => by omega, fun _ => rfl⟩
theorem lw_dg {t : List Nat} {i : Nat} (h : lwB t i = true) : ¬ dgB t i = true := by
  rw [lwB, Bool.and_eq_true, Bool.and_eq_true, decide_eq_true_iff, decide_eq_true_iff, decide_eq_true_iff] at h
  rw [dgB, Bool.and_eq_true, Bool.and_eq_true, decide_eq_true_iff, decide_eq_true_iff, decide_eq_true_iff]
  omega
theorem lw_59 {t : List Nat} {i : Nat} (h : lwB t i = true) : ¬ t.getD i 0 = 59 := by
  rw [lwB, Bool.and_eq_true, Bool.and_eq_true, decide_eq_true_iff, decide_eq_true_iff, decide_eq_true_iff] at h
  omega
theorem dg_59 {t : List Nat} {i : Nat} (h : dgB t i = true) : ¬ t.getD i 0 = 59 := by
  rw [dgB, Bool.and_eq_true, Bool.and_eq_true, decide_eq_true_iff, decide_eq_true_iff, decide_eq_true_iff] at h
  omega
/-- the token that begins at p; g: it is glued to a word or a number -/
def tkT (t : List Nat) (g : Bool) (p : Nat) : Nat := if lwB t p = true then (if g = true then 4 else 1) else if dgB t p = true then (if g = true then 4 else if dgE t p - p ≤ 2 then 2 else 4) else if p < t.length then (if t.getD p 0 = 59 then 3 else 4) else 0
def tkE (t : List Nat) (p : Nat) : Nat := if lwB t p = true then lwE t p else if dgB t p = true then dgE t p else if p < t.length then p + 1 else p
theorem tkT_4 (t : List Nat) (g : Bool) (p : Nat) : tkT t g p ≤ 4 := by
  unfold tkT
  repeat' split
  all_goals omega
theorem tkT_1 {t : List Nat} {g : Bool} {p : Nat} : tkT t g p = 1 ↔ lwB t p = true ∧ g = false := by
  unfold tkT
  cases g <;> (repeat' split) <;> simp_all
theorem tkT_2 {t : List Nat} {g : Bool} {p : Nat} : tkT t g p = 2 ↔ dgB t p = true ∧ g = false ∧ dgE t p - p ≤ 2 := by
  unfold tkT
  by_cases h : lwB t p = true
  · have := lw_dg h
    rw [if_pos h]
    constructor
    · intro z; split at z <;> omega
    · intro z; exact absurd z.1 this
  · rw [if_neg h]
    by_cases h2 : dgB t p = true
    · rw [if_pos h2]
      cases g
      · by_cases h3 : dgE t p - p ≤ 2
        · simp [h2, h3]
        · simp [h3]
      · simp
    · rw [if_neg h2]
      constructor
      · intro z
        exfalso
        revert z
        repeat' split
        all_goals decide
      · intro z; exact absurd z.1 h2
theorem tkT_3 {t : List Nat} {g : Bool} {p : Nat} : tkT t g p = 3 ↔ p < t.length ∧ t.getD p 0 = 59 := by
  unfold tkT
  by_cases h : lwB t p = true
  · have := lw_59 h
    rw [if_pos h]
    exact ⟨fun z => by exfalso; revert z; split <;> decide, fun z => absurd z.2 this⟩
  · rw [if_neg h]
    by_cases h2 : dgB t p = true
    · have := dg_59 h2
      rw [if_pos h2]
      refine ⟨fun z => ?_, fun z => absurd z.2 this⟩
      exfalso
      revert z
      repeat' split
      all_goals decide
    · rw [if_neg h2]
      by_cases h3 : p < t.length
      · rw [if_pos h3]
        by_cases h4 : t.getD p 0 = 59
        · rw [if_pos h4]; exact ⟨fun _ => ⟨h3, h4⟩, fun _ => rfl⟩
        · rw [if_neg h4]; exact ⟨fun z => absurd z (by decide), fun z => absurd z.2 h4⟩
      · rw [if_neg h3]
        exact ⟨fun z => absurd z (by decide), fun z => absurd z.1 h3⟩
theorem tkT_0 {t : List Nat} {g : Bool} {p : Nat} : tkT t g p = 0 ↔ t.length ≤ p := by
  unfold tkT
  by_cases h : lwB t p = true
  · have := lwB_lt h
    rw [if_pos h]
    exact ⟨fun z => by exfalso; revert z; split <;> decide, fun z => by omega⟩
  · rw [if_neg h]
    by_cases h2 : dgB t p = true
    · have := dgB_lt h2
      rw [if_pos h2]
      refine ⟨fun z => ?_, fun z => by omega⟩
      exfalso
      revert z
      repeat' split
      all_goals decide
    · rw [if_neg h2]
      by_cases h3 : p < t.length
      · rw [if_pos h3]
        exact ⟨fun z => by exfalso; revert z; split <;> decide, fun z => by omega⟩
      · rw [if_neg h3]
        exact ⟨fun _ => by omega, fun _ => rfl⟩
theorem tkE_le {t : List Nat} {p : Nat} (hp : p ≤ t.length) : tkE t p ≤ t.length := by
  unfold tkE
  have := lwE_le (t := t) hp
  have := dgE_le (t := t) hp
  repeat' split
  all_goals omega
def Tk (mem : Mem) (t : List Nat) (g : Bool) (p : Nat) : Prop := mem 0 30 = nI p ∧ mem 0 29 = nI (tkT t g p) ∧ mem 0 28 = nI (tkE t p) ∧ (dgB t p = true → dgE t p - p ≤ 2 → mem 0 31 = nI (vF t p (dgE t p - p)))
/-- what one token leaves of the reference -/
def Kg (mem m' : Mem) : Prop := (∀ c, c ≠ 0 → m' c = mem c) ∧ ∀ j, j ≠ 28 → j ≠ 29 → j ≠ 30 → j ≠ 31 → m' 0 j = mem 0 j
theorem Kg.rf {mem : Mem} : Kg mem mem := ⟨fun _ _ => rfl, fun _ _ _ _ _ => rfl⟩
theorem Kg.tr {a b c : Mem} (h1 : Kg a b) (h2 : Kg b c) : Kg a c := ⟨fun x y => (h2.1 x y).trans (h1.1 x y), fun j a b c e => (h2.2 j a b c e).trans (h1.2 j a b c e)⟩
theorem Kg.up {mem : Mem} {i : Nat} {x : Int32} (h : i = 28 ∨ i = 29 ∨ i = 30 ∨ i = 31) : Kg mem (up2 mem 0 i x) := ⟨fun c hc => by rw [up2_ne hc], fun j a b c e => by rw [up2_nj (by omega)]⟩
theorem MT.kg {mem m' : Mem} {t : List Nat} (h : MT mem t) (k : Kg mem m') : MT m' t := h.of (k.2 26 (by decide) (by decide) (by decide) (by decide)) (k.1 16 (by decide))
section TKM
variable {d n : Nat} {S t : List Nat} {mem : Mem}
theorem s_here {i : Nat} (h : MT mem t) (hi : mem 0 28 = nI i) (hil : i < 1000) : CI shM m_Mo_here d [.ref 0] mem (fun v m' => v = thF t i ∧ m' = mem) := by
  have hl := h.2.1
  refine e_Mo_here ?_
  rw [h.1, hi, nI_leI (by omega) (by omega), thF]
  refine ⟨fun c => ⟨by rw [if_neg (by omega)], rfl⟩, fun c => ⟨vp_in_nI (by omega) (by decide), ?_, rfl⟩⟩
  rw [nI_clamp (by omega), if_pos (by omega)]
  exact h.2.2.1 i (by omega)
theorem go_lw {x3 : Int32} {g : Bool} {p : Nat} {K : Mem → Prop} (hx : x3 = if g = true then 1 else 0) (h : MT mem t) (hlw : lwB t p = true) (HK : ∀ m', Tk m' t g p → Kg mem m' → K m') : ∀ f j, t.length ≤ j + f → j ≤ t.length → lwE t p = lwE t j → ∀ m0 : Mem, m0 0 28 = nI j → m0 0 30 = nI p → Kg mem m0 → Wp shM m_Mo_goesOn (d + 1) 105 [some (.ref 0), none, none, some (.int x3), none] [] m0 (QV K) := by
  have hl := h.2.1
  intro f
  have fin : ∀ j, lwE t p = j → ∀ m0 : Mem, m0 0 28 = nI j → m0 0 30 = nI p → Kg mem m0 → (x3 = 0 → K (up2 m0 0 29 1)) ∧ (¬ x3 = 0 → K (up2 m0 0 29 4)) := by
    intro j ej m0 e1 e2 k0
    have tk : ∀ v : Nat, (if g = true then 4 else 1) = v → Tk (up2 m0 0 29 (nI v)) t g p := fun v hv => ⟨by rw [up2_nj (by decide)]; exact e2, by rw [up2_at, tkT, if_pos hlw, hv], by rw [up2_nj (by decide), tkE, if_pos hlw, ej]; exact e1, fun q => absurd q (lw_dg hlw)⟩
    cases g with
    | true => exact ⟨fun z => absurd (hx.symm.trans z) (by decide), fun _ => HK _ (tk 4 rfl) (k0.tr (Kg.up (by decide)))⟩
    | false => exact ⟨fun _ => HK _ (tk 1 rfl) (k0.tr (Kg.up (by decide))), fun z => absurd hx z⟩
  induction f with
  | zero =>
    intro j hf hj hE m0 e1 e2 k0
    have hno : ¬ lwB t j = true := fun q => by have := lwB_lt q; omega
    refine b_Mo_goesOn_105 ((s_here (h.kg k0) e1 (by omega)).to ?_)
    rw [th_lw (h.2.2.2 j)]
    exact ⟨fun _ => fin j (by rw [hE, lwE, enN_f hno]) m0 e1 e2 k0, fun z => absurd z hno⟩
  | succ f ih =>
    intro j hf hj hE m0 e1 e2 k0
    refine b_Mo_goesOn_105 ((s_here (h.kg k0) e1 (by omega)).to ?_)
    rw [th_lw (h.2.2.2 j)]
    refine ⟨fun hno => fin j (by rw [hE, lwE, enN_f hno]) m0 e1 e2 k0, fun z => ?_⟩
    have := lwB_lt z
    rw [e1, nI_1]
    exact ih (j + 1) (by omega) (by omega) (by rw [hE, lwE, lwE, enN_t z (by omega)]) _ up2_at (by rw [up2_nj (by decide)]; exact e2) (k0.tr (Kg.up (by decide)))
theorem go_dg {x3 : Int32} {g : Bool} {p : Nat} {K : Mem → Prop} (hx : x3 = if g = true then 1 else 0) (h : MT mem t) (hlw : dgB t p = true) (HK : ∀ m', Tk m' t g p → Kg mem m' → K m') : ∀ f j, t.length ≤ j + f → p ≤ j → j ≤ t.length → dgE t p = dgE t j → ∀ m0 : Mem, m0 0 28 = nI j → m0 0 30 = nI p → (j - p ≤ 2 → m0 0 31 = nI (vF t p (j - p))) → Kg mem m0 → Wp shM m_Mo_goesOn (d + 1) 165 [some (.ref 0), none, none, some (.int x3), none] [] m0 (QV K) := by
  have hl := h.2.1
  intro f
  have hnl : ¬ lwB t p = true := fun q => lw_dg q hlw
  have fin : ∀ j, p ≤ j → j ≤ t.length → dgE t p = j → ∀ m0 : Mem, m0 0 28 = nI j → m0 0 30 = nI p → (j - p ≤ 2 → m0 0 31 = nI (vF t p (j - p))) → Kg mem m0 → (¬ x3 = 0 → K (up2 m0 0 29 4)) ∧ (x3 = 0 → (((m0 0 28) - (m0 0 30)) ≤ 2 → K (up2 m0 0 29 2)) ∧ (¬ ((m0 0 28) - (m0 0 30)) ≤ 2 → K (up2 m0 0 29 4))) := by
    intro j hpj hj ej m0 e1 e2 e3 k0
    have tk : ∀ v : Nat, (if g = true then 4 else if j - p ≤ 2 then 2 else 4) = v → Tk (up2 m0 0 29 (nI v)) t g p := fun v hv => ⟨by rw [up2_nj (by decide)]; exact e2, by rw [up2_at, tkT, if_neg hnl, if_pos hlw, ej, hv], by rw [up2_nj (by decide), tkE, if_neg hnl, if_pos hlw, ej]; exact e1, fun _ q => by rw [ej] at q ⊢; rw [up2_nj (by decide)]; exact e3 q⟩
    rw [e1, e2, pk_sub hpj, show (2 : Int32) = nI 2 from rfl, nI_leI (by omega) (by decide)]
    cases g with
    | true => exact ⟨fun _ => HK _ (tk 4 rfl) (k0.tr (Kg.up (by decide))), fun z => absurd (hx.symm.trans z) (by decide)⟩
    | false => exact ⟨fun z => absurd hx z, fun _ => ⟨fun z => HK _ (tk 2 (by rw [if_neg (by decide), if_pos z])) (k0.tr (Kg.up (by decide))), fun z => HK _ (tk 4 (by rw [if_neg (by decide), if_neg z])) (k0.tr (Kg.up (by decide)))⟩⟩
  induction f with
  | zero =>
    intro j hf hpj hj hE m0 e1 e2 e3 k0
    have hno : ¬ dgB t j = true := fun q => by have := dgB_lt q; omega
    refine b_Mo_goesOn_165 ((s_here (h.kg k0) e1 (by omega)).to ?_)
    rw [th_dg (h.2.2.2 j)]
    exact ⟨fun _ => fin j hpj hj (by rw [hE, dgE, enN_f hno]) m0 e1 e2 e3 k0, fun z => absurd z hno⟩
  | succ f ih =>
    intro j hf hpj hj hE m0 e1 e2 e3 k0
    refine b_Mo_goesOn_165 ((s_here (h.kg k0) e1 (by omega)).to ?_)
    rw [th_dg (h.2.2.2 j)]
    refine ⟨fun hno => fin j hpj hj (by rw [hE, dgE, enN_f hno]) m0 e1 e2 e3 k0, fun z => ?_⟩
    have hjl := dgB_lt z
    have zz := z
    rw [dgB, Bool.and_eq_true, Bool.and_eq_true, decide_eq_true_iff, decide_eq_true_iff, decide_eq_true_iff] at zz
    have hE' : dgE t p = dgE t (j + 1) := by rw [hE, dgE, dgE, enN_t z (by omega)]
    rw [show ((2 : Int32) ≤ m0 0 28 - m0 0 30) = (nI 2 ≤ nI (j - p)) by rw [e1, e2, pk_sub hpj]; rfl, nI_leI (by decide) (by omega)]
    refine ⟨fun z2 => ?_, fun z2 => ?_⟩
    · rw [e1, nI_1]
      exact ih (j + 1) (by omega) (by omega) (by omega) hE' _ up2_at (by rw [up2_nj (by decide)]; exact e2) (fun q => by omega) (k0.tr (Kg.up (by decide)))
    · refine (s_here (h.kg k0) e1 (by omega)).to ?_
      have e28 : ∀ v : Int32, (up2 m0 0 31 v) 0 28 = nI j := fun v => by rw [up2_nj (by decide)]; exact e1
      rw [e28, nI_1]
      refine ih (j + 1) (by omega) (by omega) (by omega) hE' _ up2_at (by rw [up2_nj (by decide), up2_nj (by decide)]; exact e2) (fun q => ?_) ((k0.tr (Kg.up (by decide))).tr (Kg.up (by decide)))
      rw [up2_nj (by decide), up2_at, e3 (by omega), thF, if_pos hjl, show (10 : Int32) = nI 10 from rfl, pk_mul, nI_add, show (48 : Int32) = nI 48 from rfl, pk_sub (by omega)]
      congr 1
      rw [show j + 1 - p = (j - p) + 1 by omega, vF, show p + (j - p) = j by omega]
      omega
theorem go_tail {x3 : Int32} {g : Bool} {p : Nat} {K : Mem → Prop} (hx : x3 = if g = true then 1 else 0) (h : MT mem t) (hp : mem 0 28 = nI p) (hb : mem 0 30 = nI p) (hpl : p ≤ t.length) (HK : ∀ m', Tk m' t g p → Kg mem m' → K m') : CI shM m_Mo_here d [.ref 0] mem (fun v0 m0 => (¬ v0 = (-1) → (¬ (97 ≤ v0 ∧ v0 ≤ 122) → (¬ (48 ≤ v0 ∧ v0 ≤ 57) → (¬ v0 = 59 → K (up2 (up2 m0 0 28 ((m0 0 28) + 1)) 0 29 4)) ∧ (v0 = 59 → K (up2 (up2 m0 0 28 ((m0 0 28) + 1)) 0 29 3))) ∧ ((48 ≤ v0 ∧ v0 ≤ 57) → Wp shM m_Mo_goesOn (d + 1) 165 [some (.ref 0), none, none, some (.int x3), none] [] (up2 m0 0 31 0) (QV K))) ∧ ((97 ≤ v0 ∧ v0 ≤ 122) → Wp shM m_Mo_goesOn (d + 1) 105 [some (.ref 0), none, none, some (.int x3), none] [] m0 (QV K))) ∧ (v0 = (-1) → K (up2 m0 0 29 0))) := by
  have hl := h.2.1
  have hby := h.2.2.2 p
  refine (s_here h hp (by omega)).to ?_
  rw [th_no hby, th_lw hby, th_dg hby, show (59 : Int32) = nI 59 from rfl, th_eq hby (by decide), hp, nI_1]
  refine ⟨fun z0 => ⟨fun z1 => ⟨fun z2 => ?_, fun z2 => ?_⟩, fun z1 => ?_⟩, fun z0 => ?_⟩
  · have tk : ∀ v : Nat, (if t.getD p 0 = 59 then 3 else 4) = v → Tk (up2 (up2 mem 0 28 (nI (p + 1))) 0 29 (nI v)) t g p := fun v hv => ⟨by rw [up2_nj (by decide), up2_nj (by decide)]; exact hb, by rw [up2_at, tkT, if_neg z1, if_neg z2, if_pos (by omega), hv], by rw [up2_nj (by decide), up2_at, tkE, if_neg z1, if_neg z2, if_pos (by omega)], fun q => absurd q z2⟩
    exact ⟨fun z3 => HK _ (tk 4 (by rw [if_neg (fun q => z3 ⟨by omega, q⟩)])) ((Kg.up (by decide)).tr (Kg.up (by decide))), fun z3 => HK _ (tk 3 (by rw [if_pos z3.2])) ((Kg.up (by decide)).tr (Kg.up (by decide)))⟩
  · refine go_dg hx h z2 HK t.length p (by omega) (Nat.le_refl _) hpl rfl _ (by rw [up2_nj (by decide)]; exact hp) (by rw [up2_nj (by decide)]; exact hb) (fun _ => ?_) (Kg.up (by decide))
    rw [up2_at, Nat.sub_self]
    exact nI_0.symm
  · exact go_lw hx h z1 HK t.length p (by omega) hpl rfl _ hp hb Kg.rf
  · have hn1 : ¬ lwB t p = true := fun q => by have := lwB_lt q; omega
    have hn2 : ¬ dgB t p = true := fun q => by have := dgB_lt q; omega
    exact HK _ ⟨by rw [up2_nj (by decide)]; exact hb, by rw [up2_at, tkT, if_neg hn1, if_neg hn2, if_neg (by omega)]; exact nI_0.symm, by rw [up2_nj (by decide), tkE, if_neg hn1, if_neg hn2, if_neg (by omega)]; exact hp, fun q => absurd q hn2⟩ (Kg.up (by decide))
theorem s_goesOn {s w : Nat} (h : MT mem t) (hs : mem 0 28 = nI s) (hsl : s ≤ t.length) (hw : mem 0 29 = nI w) (hw4 : w ≤ 4) : CV shM m_Mo_goesOn (d + 1) [.ref 0] mem (fun m' => Tk m' t (decide (sk t s = s ∧ (w = 1 ∨ w = 2))) (sk t s) ∧ Kg mem m') := by
  have hl := h.2.1
  refine e_Mo_goesOn ?_
  rw [hs, hw]
  have fin : ∀ j, j ≤ t.length → sk t s = j → ∀ m0 : Mem, m0 0 28 = nI j → Kg mem m0 → (¬ ((up2 m0 0 30 (m0 0 28)) 0 30) = nI s → Wp shM m_Mo_goesOn (d + 1) 71 [some (.ref 0), none, none, none, none] [] (up2 m0 0 30 (m0 0 28)) (QV (fun m' => Tk m' t (decide (sk t s = s ∧ (w = 1 ∨ w = 2))) (sk t s) ∧ Kg mem m'))) ∧ (((up2 m0 0 30 (m0 0 28)) 0 30) = nI s → (nI w = 1 → Wp shM m_Mo_goesOn (d + 1) 67 [some (.ref 0), none, none, none, none] [] (up2 m0 0 30 (m0 0 28)) (QV (fun m' => Tk m' t (decide (sk t s = s ∧ (w = 1 ∨ w = 2))) (sk t s) ∧ Kg mem m'))) ∧ (¬ nI w = 1 → (¬ nI w = 2 → Wp shM m_Mo_goesOn (d + 1) 71 [some (.ref 0), none, none, none, none] [] (up2 m0 0 30 (m0 0 28)) (QV (fun m' => Tk m' t (decide (sk t s = s ∧ (w = 1 ∨ w = 2))) (sk t s) ∧ Kg mem m'))) ∧ (nI w = 2 → Wp shM m_Mo_goesOn (d + 1) 67 [some (.ref 0), none, none, none, none] [] (up2 m0 0 30 (m0 0 28)) (QV (fun m' => Tk m' t (decide (sk t s = s ∧ (w = 1 ∨ w = 2))) (sk t s) ∧ Kg mem m'))))) := by
    intro j hj ej m0 e1 k0
    rw [ej, up2_at, e1, nI_inj (by omega) (by omega), show ((nI w : Int32) = 1) = (nI w = nI 1) from rfl, show ((nI w : Int32) = 2) = (nI w = nI 2) from rfl, nI_inj (by omega) (by decide), nI_inj (by omega) (by decide)]
    have k1 : Kg mem (up2 m0 0 30 (nI j)) := k0.tr (Kg.up (by decide))
    have g67 : decide (j = s ∧ (w = 1 ∨ w = 2)) = true → Wp shM m_Mo_goesOn (d + 1) 67 [some (.ref 0), none, none, none, none] [] (up2 m0 0 30 (nI j)) (QV (fun m' => Tk m' t (decide (j = s ∧ (w = 1 ∨ w = 2))) j ∧ Kg mem m')) := fun q => by
      rw [q]
      exact b_Mo_goesOn_67 (go_tail (g := true) (K := fun m' => Tk m' t true j ∧ Kg mem m') rfl (h.kg k1) (by rw [up2_nj (by decide)]; exact e1) up2_at hj (fun m' a b => ⟨a, k1.tr b⟩))
    have g71 : decide (j = s ∧ (w = 1 ∨ w = 2)) = false → Wp shM m_Mo_goesOn (d + 1) 71 [some (.ref 0), none, none, none, none] [] (up2 m0 0 30 (nI j)) (QV (fun m' => Tk m' t (decide (j = s ∧ (w = 1 ∨ w = 2))) j ∧ Kg mem m')) := fun q => by
      rw [q]
      exact b_Mo_goesOn_71 (go_tail (g := false) (K := fun m' => Tk m' t false j ∧ Kg mem m') rfl (h.kg k1) (by rw [up2_nj (by decide)]; exact e1) up2_at hj (fun m' a b => ⟨a, k1.tr b⟩))
    exact ⟨fun z => g71 (decide_eq_false (fun q => z q.1)), fun z => ⟨fun z1 => g67 (decide_eq_true ⟨z, Or.inl z1⟩), fun z1 => ⟨fun z2 => g71 (decide_eq_false (fun q => q.2.elim z1 z2)), fun z2 => g67 (decide_eq_true ⟨z, Or.inr z2⟩)⟩⟩⟩
  have key : ∀ f j, t.length ≤ j + f → j ≤ t.length → sk t s = sk t j → ∀ m0 : Mem, m0 0 28 = nI j → Kg mem m0 → Wp shM m_Mo_goesOn (d + 1) 10 [some (.ref 0), some (.int (nI w)), some (.int (nI s)), none, none] [] m0 (QV (fun m' => Tk m' t (decide (sk t s = s ∧ (w = 1 ∨ w = 2))) (sk t s) ∧ Kg mem m')) := by
    intro f
    induction f with
    | zero =>
      intro j hf hj hE m0 e1 k0
      have hno : ¬ blB t j = true := fun q => by have := blB_lt q; omega
      have hno' := fun q => hno ((th_bl (h.2.2.2 j)).mp q)
      exact b_Mo_goesOn_10 ((s_here (h.kg k0) e1 (by omega)).to ⟨fun z => absurd (Or.inl z) hno', fun _ => (s_here (h.kg k0) e1 (by omega)).to ⟨fun _ => fin j hj (by rw [hE, sk, enN_f hno]) m0 e1 k0, fun z => absurd (Or.inr z) hno'⟩⟩)
    | succ f ih =>
      intro j hf hj hE m0 e1 k0
      have hbl := th_bl (h.2.2.2 j)
      have nx : blB t j = true → Wp shM m_Mo_goesOn (d + 1) 10 [some (.ref 0), some (.int (nI w)), some (.int (nI s)), none, none] [] (up2 m0 0 28 ((m0 0 28) + 1)) (QV (fun m' => Tk m' t (decide (sk t s = s ∧ (w = 1 ∨ w = 2))) (sk t s) ∧ Kg mem m')) := fun z => by
        have := blB_lt z
        rw [e1, nI_1]
        exact ih (j + 1) (by omega) (by omega) (by rw [hE, sk, sk, enN_t z (by omega)]) _ up2_at (k0.tr (Kg.up (by decide)))
      refine b_Mo_goesOn_10 ((s_here (h.kg k0) e1 (by omega)).to ⟨fun z => nx (hbl.mp (Or.inl z)), fun z1 => (s_here (h.kg k0) e1 (by omega)).to ⟨fun z2 => fin j hj ?_ m0 e1 k0, fun z => nx (hbl.mp (Or.inr z))⟩⟩)
      rw [hE, sk, enN_f (fun q => (hbl.mpr q).elim z1 z2)]
  exact key t.length s (by omega) hsl rfl mem hs Kg.rf
theorem wl_lw : ∀ w, w < 7 → 1 ≤ (wlM.getD w []).length ∧ ∀ k, k < 6 → k < (wlM.getD w []).length → 97 ≤ (wlM.getD w []).getD k 0 ∧ (wlM.getD w []).getD k 0 ≤ 122 := by decide +kernel
theorem s_takesWord {w p : Nat} {W : List Nat} (hw : w < 7) (hWW : wlM.getD w [] = W) (h : MT mem t) (hW : Wd mem) (h32 : mem 0 32 = 0) (hT : Tk mem t false p) (hpl : p ≤ t.length) : CI shM m_Mo_takesWord (d + 2) [.ref 0, .int (nI w)] mem (fun r m' => (WdP t W p ∧ r = 1 ∧ Tk m' t (decide (sk t (p + W.length) = p + W.length)) (sk t (p + W.length)) ∧ Kg mem m') ∨ (¬ WdP t W p ∧ r = 0 ∧ m' = mem)) := by
  subst hWW
  have hl := h.2.1
  obtain ⟨l1, l2, l3, l4⟩ := wl_all w hw
  obtain ⟨q1, q2⟩ := wl_lw w hw
  obtain ⟨t1, t2, t3, _⟩ := hT
  have t4 := tkT_4 t false p
  have lwW : ∀ k, k < (wlM.getD w []).length → WdP t (wlM.getD w []) p → lwB t (p + k) = true := fun k hk hP => by
    have a := hP.1 k hk
    have b := q2 k (by omega) hk
    rw [lwB, Bool.and_eq_true, Bool.and_eq_true, decide_eq_true_iff, decide_eq_true_iff, decide_eq_true_iff]
    omega
  refine e_Mo_takesWord ⟨fun z => absurd h32 z, fun _ => ?_⟩
  rw [t2, show ((nI (tkT t false p) : Int32) = 1) = (nI (tkT t false p) = nI 1) from rfl, nI_inj (by omega) (by decide), tkT_1]
  refine ⟨fun z => ?_, fun z => Or.inr ⟨fun q => z ⟨lwW 0 (by omega) q, rfl⟩, rfl, rfl⟩⟩
  have hlw := z.1
  have hE : tkE t p = lwE t p := by rw [tkE, if_pos hlw]
  rw [hE] at t3
  have hEl := lwE_le (t := t) hpl
  have hEg : p ≤ lwE t p := enN_ge _ _ _
  have hEe : lwB t (lwE t p) = false := enN_end (fun i hi => lwB_lt hi)
  refine (s_wordFrom hW hw).to ?_
  have wd : ∀ k, k ≤ (wlM.getD w []).length → ((mem 17 (nI (wst.getD w 0 + k)).toNatClampNeg = 0) ↔ k = (wlM.getD w []).length) ∧ (k < (wlM.getD w []).length → mem 17 (nI (wst.getD w 0 + k)).toNatClampNeg = nI ((wlM.getD w []).getD k 0)) := by
    intro k hk
    rw [nI_clamp (by omega), hW _ (by omega)]
    have hb := wtb_lt (wst.getD w 0 + k) (by omega)
    refine ⟨?_, fun hk' => by rw [(l4 k (by omega) hk').1]⟩
    rw [nI_z (by omega)]
    refine ⟨fun e => ?_, fun e => by rw [e]; exact l3⟩
    by_cases c : k < (wlM.getD w []).length
    · have := l4 k (by omega) c
      rw [this.1] at e
      exact absurd e this.2.1
    · omega
  have fin66 : ∀ k, k ≤ (wlM.getD w []).length → p + k ≤ lwE t p → (∀ i, i < k → p + i < t.length ∧ t.getD (p + i) 0 = (wlM.getD w []).getD i 0) → (p + k < lwE t p → k < (wlM.getD w []).length → t.getD (p + k) 0 ≠ (wlM.getD w []).getD k 0) → Wp shM m_Mo_takesWord (d + 2) 66 [some (.ref 0), none, some (.int (nI (wst.getD w 0))), some (.int (nI k))] [] mem (QI (fun r m' => (WdP t (wlM.getD w []) p ∧ r = 1 ∧ Tk m' t (decide (sk t (p + (wlM.getD w []).length) = p + (wlM.getD w []).length)) (sk t (p + (wlM.getD w []).length)) ∧ Kg mem m') ∨ (¬ WdP t (wlM.getD w []) p ∧ r = 0 ∧ m' = mem))) := by
    intro k hk hkE hm hne
    refine b_Mo_takesWord_66 ?_
    rw [t1, t3, nI_add, nI_inj (by omega) (by omega), nI_add]
    refine ⟨fun z1 => Or.inr ⟨fun q => ?_, rfl, rfl⟩, fun z1 => ⟨vp_in_nI (by omega) (by decide), ?_⟩⟩
    · by_cases c : k < (wlM.getD w []).length
      · exact hne (by omega) c (q.1 k c).2
      · have e : k = (wlM.getD w []).length := by omega
        have y := q.2
        rw [← e] at y
        have : lwB t (p + k) = true := enN_mid (P := lwB t) (m := t.length) (i := p) (by omega) (by unfold lwE at *; omega)
        rw [y] at this; cases this
    · rw [(wd k hk).1]
      refine ⟨fun e => ?_, fun e => Or.inr ⟨fun q => ?_, rfl, rfl⟩⟩
      · refine (s_goesOn (d := d) (s := lwE t p) (w := 1) h t3 hEl (by rw [t2, tkT_1.mpr z]) (by decide)).mono ?_
        rintro m' ⟨a, b⟩
        rw [← z1, e, show decide (sk t (p + (wlM.getD w []).length) = p + (wlM.getD w []).length ∧ (1 = 1 ∨ 1 = 2)) = decide (sk t (p + (wlM.getD w []).length) = p + (wlM.getD w []).length) by simp] at a
        refine Or.inl ⟨⟨fun i hi => hm i (by omega), ?_⟩, rfl, a, b⟩
        rw [← e, z1]; exact hEe
      · have := lwW k (by omega) q
        rw [z1, hEe] at this
        cases this
  refine downInd (P := fun k => p + k ≤ lwE t p → (∀ i, i < k → p + i < t.length ∧ t.getD (p + i) 0 = (wlM.getD w []).getD i 0) → Wp shM m_Mo_takesWord (d + 2) 25 [some (.ref 0), none, some (.int (nI (wst.getD w 0))), some (.int (nI k))] [] mem (QI (fun r m' => (WdP t (wlM.getD w []) p ∧ r = 1 ∧ Tk m' t (decide (sk t (p + (wlM.getD w []).length) = p + (wlM.getD w []).length)) (sk t (p + (wlM.getD w []).length)) ∧ Kg mem m') ∨ (¬ WdP t (wlM.getD w []) p ∧ r = 0 ∧ m' = mem)))) (wlM.getD w []).length ?_ ?_ 0 (Nat.zero_le _) hEg (fun i hi => absurd hi (Nat.not_lt_zero _))
  · intro hkE hm
    refine b_Mo_takesWord_25 ?_
    rw [t1, t3, nI_add, nI_leI (by omega) (by omega), nI_add]
    have f := fin66 _ (Nat.le_refl _) hkE hm (fun _ c => absurd c (Nat.lt_irrefl _))
    refine ⟨fun _ => f, fun z1 => ⟨vp_in_nI (by omega) (by decide), vp_in_nI (by omega) (by decide), fun _ => f, fun e => ?_⟩⟩
    exfalso
    rw [((wd _ (Nat.le_refl _)).1).mpr rfl, nI_clamp (by omega), h.2.2.1 _ (by omega)] at e
    have : lwB t (p + (wlM.getD w []).length) = true := enN_mid (P := lwB t) (m := t.length) (i := p) (by omega) (by unfold lwE at *; omega)
    rw [lwB, Bool.and_eq_true, Bool.and_eq_true, decide_eq_true_iff, decide_eq_true_iff, decide_eq_true_iff] at this
    have hb := h.2.2.2 (p + (wlM.getD w []).length)
    have := (nI_z (by omega)).mp e.symm
    omega
  · intro k hk ih hkE hm
    refine b_Mo_takesWord_25 ?_
    rw [t1, t3, nI_add, nI_leI (by omega) (by omega), nI_add]
    refine ⟨fun z1 => fin66 k (by omega) hkE hm (fun y => by omega), fun z1 => ⟨vp_in_nI (by omega) (by decide), vp_in_nI (by omega) (by decide), ?_⟩⟩
    have hb := h.2.2.2 (p + k)
    have hb2 := (l4 k (by omega) hk).2.2
    rw [(wd k (by omega)).2 hk, nI_clamp (by omega), h.2.2.1 _ (by omega), nI_inj (by omega) (by omega), nI_1]
    refine ⟨fun y => fin66 k (by omega) hkE hm (fun _ _ e => y e.symm), fun y => ih (by omega) (fun i hi => ?_)⟩
    by_cases c : i = k
    · subst c; exact ⟨by omega, y.symm⟩
    · exact hm i (by omega)
end TKM
