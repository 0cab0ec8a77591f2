/-! the tape; reading a text: what it says, the class -/
def XT (mem : Mem) (t : List Nat) : Prop := mem 8 1 = nI t.length ∧ t.length ≤ 400 ∧ (∀ i, i < t.length → mem 9 i &&& 255 = nI (t.getD i 0)) ∧ ∀ i, t.getD i 0 < 256
theorem XT.same {mem m' : Mem} {t : List Nat} {cs : List Nat} (h : XT mem t) (hs : Same mem m' cs) (h8 : 8 ∉ cs) (h9 : 9 ∉ cs) : XT m' t := ⟨by rw [hs 8 h8]; exact h.1, h.2.1, fun i hi => by rw [hs 9 h9]; exact h.2.2.1 i hi, h.2.2.2⟩
def blB (t : List Nat) (i : Nat) : Bool := decide (i < t.length) && (decide (t.getD i 0 = 32) || decide (t.getD i 0 = 10))
def lwB (t : List Nat) (i : Nat) : Bool := decide (i < t.length) && (decide (97 ≤ t.getD i 0) && decide (t.getD i 0 ≤ 122))
def dgB (t : List Nat) (i : Nat) : Bool := decide (i < t.length) && (decide (48 ≤ t.getD i 0) && decide (t.getD i 0 ≤ 57))
/-- the first place from i on where P is not -/
def enF (P : Nat → Bool) : Nat → Nat → Nat
  | 0, i => i
  | f + 1, i => if P i = true then enF P f (i + 1) else i
theorem enF_ge (P : Nat → Bool) : ∀ f i, i ≤ enF P f i ∧ enF P f i ≤ i + f
  | 0, i => ⟨Nat.le_refl _, Nat.le_refl _⟩
  | f + 1, i => by
    rw [enF]
    split
    · have := enF_ge P f (i + 1); omega
    · omega
theorem enF_mid (P : Nat → Bool) : ∀ f i j, i ≤ j → j < enF P f i → P j = true
  | 0, i, j, h1, h2 => by rw [enF] at h2; omega
  | f + 1, i, j, h1, h2 => by
    rw [enF] at h2
    by_cases h : P i = true
    · rw [if_pos h] at h2
      by_cases e : j = i
      · subst e; exact h
      · exact enF_mid P f (i + 1) j (by omega) h2
    · rw [if_neg h] at h2; omega
theorem enF_end {P : Nat → Bool} {m : Nat} (hP : ∀ i, P i = true → i < m) : ∀ f i, m ≤ i + f → P (enF P f i) = false
  | 0, i, h => by
    rw [enF]
    cases e : P i with
    | false => rfl
    | true => have := hP i e; omega
  | f + 1, i, h => by
    rw [enF]
    by_cases e : P i = true
    · rw [if_pos e]; exact enF_end hP f (i + 1) (by omega)
    · rw [if_neg e]; simpa using e
theorem blB_lt {t : List Nat} {i : Nat} (h : blB t i = true) : i < t.length := by
  rw [blB, Bool.and_eq_true, decide_eq_true_iff] at h; exact h.1
theorem lwB_lt {t : List Nat} {i : Nat} (h : lwB t i = true) : i < t.length := by
  rw [lwB, Bool.and_eq_true, decide_eq_true_iff] at h; exact h.1
theorem dgB_lt {t : List Nat} {i : Nat} (h : dgB t i = true) : i < t.length := by
  rw [dgB, Bool.and_eq_true, decide_eq_true_iff] at h; exact h.1
def enN (P : Nat → Bool) (m i : Nat) : Nat := enF P (m - i) i
theorem enN_t {P : Nat → Bool} {m i : Nat} (h : P i = true) (hi : i < m) : enN P m i = enN P m (i + 1) := by
  unfold enN
  rw [show m - i = (m - (i + 1)) + 1 by omega, enF, if_pos h]
theorem enN_f {P : Nat → Bool} {m i : Nat} (h : ¬ P i = true) : enN P m i = i := by
  unfold enN
  cases m - i with
  | zero => rfl
  | succ f => rw [enF, if_neg h]
theorem enN_ge (P : Nat → Bool) (m i : Nat) : i ≤ enN P m i := (enF_ge P _ _).1
theorem enN_le (P : Nat → Bool) {m i : Nat} (h : i ≤ m) : enN P m i ≤ m := by have := (enF_ge P (m - i) i).2; unfold enN; omega
theorem enN_mid {P : Nat → Bool} {m i j : Nat} (h1 : i ≤ j) (h2 : j < enN P m i) : P j = true := enF_mid P _ i j h1 h2
theorem enN_end {P : Nat → Bool} {m i : Nat} (hP : ∀ i, P i = true → i < m) : P (enN P m i) = false := enF_end hP _ _ (by omega)
def sk (t : List Nat) (i : Nat) : Nat := enN (blB t) t.length i
def lwE (t : List Nat) (i : Nat) : Nat := enN (lwB t) t.length i
def dgE (t : List Nat) (i : Nat) : Nat := enN (dgB t) t.length i
/-- a word stands there, and no letter behind it -/
def WdP (t W : List Nat) (p : Nat) : Prop := (∀ k, k < W.length → p + k < t.length ∧ t.getD (p + k) 0 = W.getD k 0) ∧ lwB t (p + W.length) = false
/-- the points of the letters from k on -/
def lsF (t : List Nat) (n : Nat) : Nat → Nat → Nat → Option Nat
  | 0, _, x => some x
  | f + 1, k, x => if lwB t k = true then (if t.getD k 0 - 97 < n ∧ x.testBit (t.getD k 0 - 97) = false then lsF t n f (k + 1) (x ||| 2 ^ (t.getD k 0 - 97)) else none) else some x
def lsN (t : List Nat) (n k x : Nat) : Option Nat := lsF t n (t.length - k) k x
theorem lsN_f {t : List Nat} {n k x : Nat} (h : ¬ lwB t k = true) : lsN t n k x = some x := by
  unfold lsN
  cases t.length - k with
  | zero => rfl
  | succ f => rw [lsF, if_neg h]
theorem lsN_t {t : List Nat} {n k x : Nat} (h : lwB t k = true) : lsN t n k x = if t.getD k 0 - 97 < n ∧ x.testBit (t.getD k 0 - 97) = false then lsN t n (k + 1) (x ||| 2 ^ (t.getD k 0 - 97)) else none := by
  have := lwB_lt h
  unfold lsN
  rw [show t.length - k = (t.length - (k + 1)) + 1 by omega, lsF, if_pos h]
theorem lsN_lt {t : List Nat} {n : Nat} : ∀ (f k x y : Nat), t.length ≤ k + f → x < 2 ^ n → lsN t n k x = some y → y < 2 ^ n
  | 0, k, x, y, hf, hx, h => by
    rw [lsN_f (fun q => by have := lwB_lt q; omega)] at h
    cases h; exact hx
  | f + 1, k, x, y, hf, hx, h => by
    by_cases q : lwB t k = true
    · rw [lsN_t q] at h
      split at h
      · rename_i z
        exact lsN_lt f (k + 1) _ y (by omega) (Nat.or_lt_two_pow hx (Nat.pow_lt_pow_right (by decide) z.1)) h
      · cases h
    · rw [lsN_f q] at h
      cases h; exact hx
/-- the end of a thing that is told: its semicolon -/
def reF (t : List Nat) (e : Nat) : Nat ⊕ Nat := if sk t e < t.length ∧ t.getD (sk t e) 0 = 59 then .inr (sk t e + 1) else .inl (sk t e)
def wSet : List Nat := [115, 101, 116]
def wPts : List Nat := [112, 111, 105, 110, 116, 115]
noncomputable def rsF (t : List Nat) (n p : Nat) (S : List Nat) : Nat ⊕ (Nat × List Nat) := ifP (¬ WdP t wSet p ∨ 16 ≤ S.length) (.inl p) (if blB t (p + 3) = true then (match lsN t n (sk t (p + 3)) 0 with
  | none => .inl (sk t (p + 3))
  | some x => ifP (x = 0 ∨ x ∈ S) (.inl (sk t (p + 3))) (match reF t (lwE t (sk t (p + 3))) with
    | .inl e => .inl e
    | .inr q => .inr (sk t q, S ++ [x]))) else .inl (p + 3))
noncomputable def psF (t : List Nat) (n : Nat) : Nat → Nat → List Nat → Nat ⊕ List Nat
  | 0, _, S => .inr S
  | f + 1, p, S => if p < t.length then (match rsF t n p S with
    | .inl e => .inl e
    | .inr q => psF t n f q.1 q.2) else .inr S
/-- the value of k digits from i on -/
def vF (t : List Nat) (i : Nat) : Nat → Nat
  | 0 => 0
  | k + 1 => vF t i k * 10 + (t.getD (i + k) 0 - 48)
noncomputable def rpF (t : List Nat) (p : Nat) : Nat ⊕ (Nat × Nat) := if blB t (p + 6) = true then (if dgB t (sk t (p + 6)) = true then (ifP (2 < dgE t (sk t (p + 6)) - sk t (p + 6) ∨ vF t (sk t (p + 6)) (dgE t (sk t (p + 6)) - sk t (p + 6)) < 1 ∨ 10 < vF t (sk t (p + 6)) (dgE t (sk t (p + 6)) - sk t (p + 6))) (.inl (sk t (p + 6))) (match reF t (dgE t (sk t (p + 6))) with
  | .inl e => .inl e
  | .inr q => .inr (vF t (sk t (p + 6)) (dgE t (sk t (p + 6)) - sk t (p + 6)), sk t q))) else .inl (sk t (p + 6))) else .inl (p + 6)
noncomputable def txF (t : List Nat) : Nat ⊕ (Nat × List Nat) := ifP (WdP t wPts (sk t 0)) (match rpF t (sk t 0) with
  | .inl e => .inl e
  | .inr q => match psF t q.1 17 q.2 [] with
    | .inl e => .inl e
    | .inr S => .inr (q.1, S)) (match psF t 6 17 (sk t 0) [] with
  | .inl e => .inl e
  | .inr S => .inr (6, S))
section RDX
variable {d n : Nat} {S t : List Nat} {mem : Mem}
theorem tp_at {i : Nat} (h : XT mem t) (hi : i < 2 ^ 31) : tpF mem (nI i) = if i < t.length then nI (t.getD i 0) else -1 := by
  have hl := h.2.1
  rw [tpF, h.1]
  by_cases c : i < t.length
  · rw [if_pos c, if_pos ⟨nI_le0 hi, nI_lt c (by omega), nI_lt (b := 400) (by omega) (by decide)⟩, nI_clamp hi]
    exact h.2.2.1 i c
  · rw [if_neg c, if_neg (fun q => c ((nI_ltI hi (by omega)).mp q.2.1))]
theorem tp_eq {i v : Nat} (h : XT mem t) (hi : i < 2 ^ 31) (hv : v < 256) : (tpF mem (nI i) = nI v) ↔ (i < t.length ∧ t.getD i 0 = v) := by
  have := h.2.2.2 i
  rw [tp_at h hi]
  by_cases c : i < t.length
  · rw [if_pos c, nI_inj (by omega) (by omega)]
    exact ⟨fun z => ⟨c, z⟩, fun z => z.2⟩
  · rw [if_neg c]
    exact ⟨fun z => absurd z.symm (nI_m1 (by omega)), fun z => absurd z.1 c⟩
theorem tp_bl {i : Nat} (h : XT mem t) (hi : i < 2 ^ 31) : (tpF mem (nI i) = 32 ∨ tpF mem (nI i) = 10) ↔ blB t i = true := by
  have e1 := tp_eq h hi (v := 32) (by decide)
  have e2 := tp_eq h hi (v := 10) (by decide)
  rw [show (32 : Int32) = nI 32 from rfl, show (10 : Int32) = nI 10 from rfl, e1, e2, blB, Bool.and_eq_true, Bool.or_eq_true, decide_eq_true_iff, decide_eq_true_iff, decide_eq_true_iff]
  constructor
  · rintro (z | z)
    · exact ⟨z.1, Or.inl z.2⟩
    · exact ⟨z.1, Or.inr z.2⟩
  · rintro ⟨z1, z2⟩
    exact z2.imp (fun q => ⟨z1, q⟩) (fun q => ⟨z1, q⟩)
theorem tp_rg {i lo hi' : Nat} (h : XT mem t) (hi : i < 2 ^ 31) (hlo : lo < 256) (hhi : hi' < 256) : (nI lo ≤ tpF mem (nI i) ∧ tpF mem (nI i) ≤ nI hi') ↔ (i < t.length ∧ lo ≤ t.getD i 0 ∧ t.getD i 0 ≤ hi') := by
  have := h.2.2.2 i
  rw [tp_at h hi]
  by_cases c : i < t.length
  · rw [if_pos c, nI_leI (by omega) (by omega), nI_leI (by omega) (by omega)]
    exact ⟨fun z => ⟨c, z⟩, fun z => z.2⟩
  · rw [if_neg c]
    refine ⟨fun z => ?_, fun z => absurd z.1 c⟩
    have := Int32.lt_of_le_of_lt z.1 (by decide : (-1 : Int32) < 0)
    exact absurd this (nI_pos (by omega))
theorem tp_lw {i : Nat} (h : XT mem t) (hi : i < 2 ^ 31) : (97 ≤ tpF mem (nI i) ∧ tpF mem (nI i) ≤ 122) ↔ lwB t i = true := by
  rw [show (97 : Int32) = nI 97 from rfl, show (122 : Int32) = nI 122 from rfl, tp_rg h hi (by decide) (by decide), lwB, Bool.and_eq_true, Bool.and_eq_true, decide_eq_true_iff, decide_eq_true_iff, decide_eq_true_iff]
theorem tp_dg {i : Nat} (h : XT mem t) (hi : i < 2 ^ 31) : (48 ≤ tpF mem (nI i) ∧ tpF mem (nI i) ≤ 57) ↔ dgB t i = true := by
  rw [show (48 : Int32) = nI 48 from rfl, show (57 : Int32) = nI 57 from rfl, tp_rg h hi (by decide) (by decide), dgB, Bool.and_eq_true, Bool.and_eq_true, decide_eq_true_iff, decide_eq_true_iff, decide_eq_true_iff]
theorem s_skipBlanks {p : Nat} (h : XT mem t) (hp : mem 10 0 = nI p) (hpl : p < 1000) : CV shX m_Reader_skipBlanks (d + 2) [.ref 10, .ref 8] mem (fun m' => m' 10 0 = nI (sk t p) ∧ Same mem m' [10]) := by
  have hl := h.2.1
  refine e_Reader_skipBlanks ?_
  have key : ∀ f p, t.length ≤ p + f → p < 1000 → ∀ m0 : Mem, m0 10 0 = nI p → Same mem m0 [10] → Wp shX m_Reader_skipBlanks (d + 2) 0 [some (.ref 10), some (.ref 8)] [] m0 (QV (fun m' => m' 10 0 = nI (sk t p) ∧ Same mem m' [10])) := by
    intro f
    induction f with
    | zero =>
      intro p hf hp m0 e hS
      refine b_Reader_skipBlanks_0 ⟨fun _ => ⟨?_, hS⟩, fun c => absurd (by rw [hS 8 (by decide), h.1, e]; exact nI_le (by omega) (by omega)) c⟩
      rw [sk, enN_f (fun q => by have := blB_lt q; omega)]; exact e
    | succ f ih =>
      intro p hf hp m0 e hS
      have hX := h.same hS (by decide) (by decide)
      refine b_Reader_skipBlanks_0 ⟨fun c => ⟨?_, hS⟩, fun c => ?_⟩
      · rw [hX.1, e, nI_leI (by omega) (by omega)] at c
        rw [sk, enN_f (fun q => by have := blB_lt q; omega)]; exact e
      · rw [hX.1, e, nI_leI (by omega) (by omega)] at c
        rw [e, tp_bl hX (by omega)]
        refine ⟨fun z => ⟨?_, hS⟩, fun z => ?_⟩
        · rw [sk, enN_f z]
        · rw [nI_1]
          have := ih (p + 1) (by omega) (by omega) (up2 m0 10 0 (nI (p + 1))) up2_at (hS.tr (Same.up (by simp)))
          rw [sk, enN_t z (by omega)]
          exact this
  exact key t.length p (by omega) hpl mem hp Same.rf
theorem s_isWord {tx p : Nat} {W : List Nat} (htx : tx < 11) (hW : wrdX.getD tx [] = W) (h : XT mem t) (hp : mem 10 0 = nI p) (hpl : p < 1000) : CI shX m_Reader_isWord (d + 4) [.ref 10, .ref 8, .ref (1000 + tx)] mem (fun r m' => ((WdP t W p ∧ r = 1) ∨ (¬ WdP t W p ∧ r = 0)) ∧ m' = mem) := by
  subst hW
  obtain ⟨w1, w2, w3⟩ := wrdX_ok tx htx
  refine e_Reader_isWord htx ?_
  refine downInd (P := fun i => (∀ k, k < i → p + k < t.length ∧ t.getD (p + k) 0 = (wrdX.getD tx []).getD k 0) → Wp shX m_Reader_isWord (d + 4) 2 [some (.ref 10), some (.ref 8), some (.ref (1000 + tx)), some (.int (nI i))] [] mem (QI (fun r m' => ((WdP t (wrdX.getD tx []) p ∧ r = 1) ∨ (¬ WdP t (wrdX.getD tx []) p ∧ r = 0)) ∧ m' = mem))) (wrdX.getD tx []).length ?_ ?_ 0 (Nat.zero_le _) (fun k hk => absurd hk (Nat.not_lt_zero _))
  · intro hk
    refine b_Reader_isWord_2 htx ((f_length (d := d + 2) htx).to ⟨fun _ => ?_, fun c => absurd (by rw [← w1]; exact nI_le (Nat.le_refl _) (by omega)) c⟩)
    refine (f_length (d := d + 2) htx).to ?_
    rw [hp, ← w1, nI_add, tp_lw h (by omega)]
    refine ⟨fun z => ⟨Or.inr ⟨fun q => ?_, rfl⟩, rfl⟩, fun z => ⟨Or.inl ⟨⟨hk, by simpa using z⟩, rfl⟩, rfl⟩⟩
    rw [q.2] at z; cases z
  · intro i hi ih hk
    refine b_Reader_isWord_2 htx ((f_length (d := d + 2) htx).to ⟨fun c => absurd c (by rw [← w1]; exact nI_ge hi (by omega)), fun _ => ?_⟩)
    refine (f_charAt (d := d) htx (by rw [← w1]; exact hi)).to ?_
    obtain ⟨g1, g2⟩ := w3 i (by omega) hi
    rw [hp, nI_add, g1, tp_eq h (by omega) (by omega), nI_1]
    refine ⟨fun z => ih (fun k hk' => ?_), fun z => ⟨Or.inr ⟨fun q => z (q.1 i hi), rfl⟩, rfl⟩⟩
    by_cases e : k = i
    · subst e; exact z
    · exact hk k (by omega)
theorem s_readEnd {e : Nat} (h : XT mem t) (hp : mem 10 0 = nI e) (hel : e < 900) : CI shX m_Reader_readEnd (d + 3) [.ref 10, .ref 8] mem (fun r m' => ((∃ q, reF t e = .inl q ∧ r = nI q ∧ m' 10 0 = nI q) ∨ (∃ q, reF t e = .inr q ∧ r = -1 ∧ m' 10 0 = nI q)) ∧ Same mem m' [10]) := by
  have hl := h.2.1
  refine e_Reader_readEnd ?_
  refine (s_skipBlanks h hp (by omega)).mono ?_
  rintro m1 ⟨e1, hS⟩
  have hX := h.same hS (by decide) (by decide)
  have hsk : sk t e < 1000 := by
    rcases Nat.lt_or_ge e t.length with q | q
    · have := enN_le (blB t) (m := t.length) (i := e) (by omega); unfold sk; omega
    · rw [sk, enN_f (fun z => by have := blB_lt z; omega)]; omega
  rw [e1, show (59 : Int32) = nI 59 from rfl, tp_eq hX (by omega) (by decide)]
  refine ⟨fun z => ⟨Or.inr ⟨sk t e + 1, by rw [reF, if_pos z], rfl, by rw [up2_at, nI_1]⟩, hS.tr (Same.up (by simp))⟩, fun z => ⟨Or.inl ⟨sk t e, by rw [reF, if_neg z], rfl, rfl⟩, hS⟩⟩
theorem s_readLetters {k : Nat} (h : XT mem t) (hF : Fam mem 3 n S) (hp : mem 10 0 = nI k) (hkl : k ≤ t.length) : CI shX m_Reader_readLetters (d + 2) [.ref 10, .ref 8, .ref 3] mem (fun r m' => ((lsN t n k 0 = none ∧ r = -1) ∨ (∃ x, lsN t n k 0 = some x ∧ r = nI x ∧ m' 10 0 = nI (lwE t k))) ∧ (∃ q, m' 10 0 = nI q ∧ q ≤ t.length) ∧ Same mem m' [10]) := by
  have hl := h.2.1
  have hn := hF.2.2.2.1
  refine e_Reader_readLetters isF_3 ?_
  have key : ∀ f k x, t.length ≤ k + f → k ≤ t.length → x < 2 ^ n → ∀ m0 : Mem, m0 10 0 = nI k → Same mem m0 [10] → Wp shX m_Reader_readLetters (d + 2) 2 [some (.ref 10), some (.ref 8), some (.ref 3), some (.int (nI x)), none] [] m0 (QI (fun r m' => ((lsN t n k x = none ∧ r = -1) ∨ (∃ y, lsN t n k x = some y ∧ r = nI y ∧ m' 10 0 = nI (lwE t k))) ∧ (∃ q, m' 10 0 = nI q ∧ q ≤ t.length) ∧ Same mem m' [10])) := by
    have hpn : 2 ^ n ≤ 2 ^ 10 := Nat.pow_le_pow_right (by decide) hn
    intro f
    induction f with
    | zero =>
      intro k x hf hk hx m0 e hS
      have hno : ¬ lwB t k = true := fun q => by have := lwB_lt q; omega
      refine b_Reader_readLetters_2 isF_3 ⟨fun _ => ⟨Or.inr ⟨x, lsN_f hno, rfl, by rw [lwE, enN_f hno]; exact e⟩, ⟨k, e, hk⟩, hS⟩, fun c => absurd (by rw [hS 8 (by decide), h.1, e]; exact nI_le (by omega) (by omega)) c⟩
    | succ f ih =>
      intro k x hf hk hx m0 e hS
      have hX := h.same hS (by decide) (by decide)
      have hF0 := hF.same hS (by decide) (by decide)
      refine b_Reader_readLetters_2 isF_3 ⟨fun c => ?_, fun c => ?_⟩
      · rw [hX.1, e, nI_leI (by omega) (by omega)] at c
        have hno : ¬ lwB t k = true := fun q => by have := lwB_lt q; omega
        exact ⟨Or.inr ⟨x, lsN_f hno, rfl, by rw [lwE, enN_f hno]; exact e⟩, ⟨k, e, hk⟩, hS⟩
      · rw [hX.1, e, nI_leI (by omega) (by omega)] at c
        rw [e, tp_lw hX (by omega)]
        refine ⟨fun z => ⟨Or.inr ⟨x, lsN_f z, rfl, by rw [lwE, enN_f z]⟩, ⟨k, rfl, hk⟩, hS⟩, fun z => ?_⟩
        have zz := z
        rw [lwB, Bool.and_eq_true, Bool.and_eq_true, decide_eq_true_iff, decide_eq_true_iff, decide_eq_true_iff] at zz
        rw [tp_at hX (by omega), if_pos zz.1, show (97 : Int32) = nI 97 from rfl, pk_sub zz.2.1, hF0.1, nI_ltI (by omega) (by omega), nI_1]
        refine ⟨fun z2 => ⟨Or.inl ⟨?_, rfl⟩, ⟨k, rfl, hk⟩, hS⟩, fun z2 => ?_⟩
        · rw [lsN_t z, if_neg (fun q => z2 ⟨nI_le0 (by omega), q.1⟩)]
        · rw [hasI0 (by omega) (by omega), sh1 (by omega), io]
          refine ⟨fun z3 => ?_, fun z3 => ⟨Or.inl ⟨?_, rfl⟩, ⟨k, rfl, hk⟩, hS⟩⟩
          · have := ih (k + 1) (x ||| 2 ^ (t.getD k 0 - 97)) (by omega) (by omega) (Nat.or_lt_two_pow hx (Nat.pow_lt_pow_right (by decide) z2.2)) (up2 m0 10 0 (nI (k + 1))) up2_at (hS.tr (Same.up (by simp)))
            rw [lsN_t z, if_pos ⟨z2.2, z3⟩, lwE, enN_t z (by omega)]
            exact this
          · rw [lsN_t z, if_neg (fun q => z3 q.2)]
  have := key t.length k 0 (by omega) hkl (Nat.two_pow_pos n) mem hp Same.rf
  rw [nI_0] at this
  exact this
theorem sk_le {e : Nat} (he : e ≤ t.length) : sk t e ≤ t.length := enN_le _ he
theorem lwE_le {e : Nat} (he : e ≤ t.length) : lwE t e ≤ t.length := enN_le _ he
theorem dgE_le {e : Nat} (he : e ≤ t.length) : dgE t e ≤ t.length := enN_le _ he
theorem s_readSet {p : Nat} (h : XT mem t) (hF : Fam mem 3 n S) (hl16 : S.length ≤ 16) (hp : mem 10 0 = nI p) (hpl : p < t.length) : CI shX m_Reader_readSet (d + 5) [.ref 10, .ref 8, .ref 3] mem (fun r m' => ((∃ e, rsF t n p S = .inl e ∧ r = nI e ∧ e < 1000) ∨ (∃ q, ∃ x, q ≤ t.length ∧ x < 2 ^ n ∧ x ≠ 0 ∧ x ∉ S ∧ S.length < 16 ∧ rsF t n p S = .inr (sk t q, S ++ [x]) ∧ r = -1 ∧ m' 10 0 = nI q ∧ Fam m' 3 n (S ++ [x]))) ∧ (∃ q, m' 10 0 = nI q ∧ q < 1000) ∧ Same mem m' [3, 4, 10]) := by
  have hl := h.2.1
  have hn := hF.2.2.2.1
  have hpn : 2 ^ n ≤ 2 ^ 10 := Nat.pow_le_pow_right (by decide) hn
  refine e_Reader_readSet isF_3 ?_
  refine (s_isWord (d := d) (tx := 1) (W := wSet) (by decide) rfl h hp (by omega)).mono ?_
  rintro w mw ⟨hw, rfl⟩
  rcases hw.symm with ⟨hWd, w2⟩ | ⟨hWd, w2⟩
  · exact ⟨fun z => ⟨Or.inl ⟨p, by rw [rsF, ifP_t (Or.inl hWd)], hp, by omega⟩, ⟨p, hp, by omega⟩, Same.rf⟩, fun z => absurd w2 z⟩
  refine ⟨fun z => absurd (w2.symm.trans z) (by decide), fun z => ?_⟩
  rw [hF.2.1, show (16 : Int32) = nI 16 from rfl, nI_ltI (by omega) (by decide)]
  refine ⟨fun z2 => ?_, fun z2 => ⟨Or.inl ⟨p, by rw [rsF, ifP_t (Or.inr (by omega))], hp, by omega⟩, ⟨p, hp, by omega⟩, Same.rf⟩⟩
  have hcond : ¬ (¬ WdP t wSet p ∨ 16 ≤ S.length) := fun q => q.elim (fun y => y hWd) (fun y => by omega)
  have h3 := (hWd.1 2 (by decide)).1
  have e3 : mw 10 0 + 3 = nI (p + 3) := by rw [hp]; exact nI_add p 3
  have hSA : Same mw (up2 mw 10 0 (nI (p + 3))) [10] := Same.up (by simp)
  have hXA := h.same hSA (by decide) (by decide)
  rw [e3, up2_at, tp_bl hXA (by omega)]
  refine ⟨fun z3 => ?_, fun z3 => ⟨Or.inl ⟨p + 3, by rw [rsF, ifP_f hcond, if_neg z3], rfl, by omega⟩, ⟨p + 3, rfl, by omega⟩, hSA.wd (by simp)⟩⟩
  have hb3 := blB_lt z3
  refine (s_skipBlanks (d := d + 2) hXA up2_at (by omega)).mono ?_
  rintro m1 ⟨q1, hS1⟩
  have hS1' := hSA.tr hS1
  have hsk := sk_le (t := t) (e := p + 3) (by omega)
  refine (s_readLetters (d := d + 2) (k := sk t (p + 3)) (h.same hS1' (by decide) (by decide)) (hF.same hS1' (by decide) (by decide)) q1 hsk).mono ?_
  rintro v m2 ⟨hv, ⟨qq, qq1, qq2⟩, hS2⟩
  have hS2' := hS1'.tr hS2
  have hF2 := hF.same hS2' (by decide) (by decide)
  have hX2 := h.same hS2' (by decide) (by decide)
  have hlw := lwE_le (t := t) (e := sk t (p + 3)) hsk
  rw [hF2.1, q1]
  rcases hv with ⟨v1, v2⟩ | ⟨x, v1, v2, v3⟩
  · rw [v2]
    refine ⟨fun _ => ⟨Or.inl ⟨sk t (p + 3), by rw [rsF, ifP_f hcond, if_pos z3, v1], rfl, by omega⟩, ⟨qq, qq1, by omega⟩, hS2'.wd (by simp)⟩, fun q => absurd q.1 (by decide)⟩
  · have hx := lsN_lt t.length (sk t (p + 3)) 0 x (by omega) (Nat.two_pow_pos n) v1
    rw [v2]
    have hset : (0 < nI x ∧ nI x ≤ alF (nI n)) ↔ x ≠ 0 := by
      rw [al (by omega), show ((0 : Int32) < nI x) = (nI 0 < nI x) by rw [nI_0], nI_ltI (by decide) (by omega), nI_leI (by omega) (by omega)]
      omega
    rw [hset]
    refine ⟨fun z4 => ⟨Or.inl ⟨sk t (p + 3), by rw [rsF, ifP_f hcond, if_pos z3, v1]; simp only []; rw [ifP_t (Or.inl (Classical.not_not.mp z4))], rfl, by omega⟩, ⟨_, v3, by omega⟩, hS2'.wd (by simp)⟩, fun z4 => ?_⟩
    refine (s_find isF_3 hF2 (by omega)).mono ?_
    rintro r m3 ⟨hr, rfl⟩
    refine ⟨fun z5 => ?_, fun z5 => ⟨Or.inl ⟨sk t (p + 3), ?_, rfl, by omega⟩, ⟨_, v3, by omega⟩, hS2'.wd (by simp)⟩⟩
    · refine (s_append (d := d + 4) isF_3 hF2 (by omega) (by omega)).mono ?_
      rintro m4 ⟨hF4, hS4⟩
      have hX4 := hX2.same hS4 (by decide) (by decide)
      refine (s_readEnd (d := d + 1) hX4 (e := lwE t (sk t (p + 3))) (by rw [hS4 10 (by decide)]; exact v3) (by omega)).mono ?_
      rintro r5 m5 ⟨hr5, hS5⟩
      have hSS : Same mw m5 [3, 4, 10] := ((hS2'.wd (by simp)).tr (hS4.wd (by simp))).tr (hS5.wd (by simp))
      have hq : ∀ q, reF t (lwE t (sk t (p + 3))) = .inl q ∨ reF t (lwE t (sk t (p + 3))) = .inr q → q ≤ t.length := by
        intro q hq
        have hs2 := sk_le (t := t) (e := lwE t (sk t (p + 3))) hlw
        unfold reF at hq
        split at hq
        · rename_i y
          rcases hq with hq | hq
          · cases hq
          · cases hq; omega
        · rcases hq with hq | hq
          · cases hq; exact hs2
          · cases hq
      rcases hr5 with ⟨q, y1, y2, y3⟩ | ⟨q, y1, y2, y3⟩
      · have := hq q (Or.inl y1)
        refine ⟨Or.inl ⟨q, ?_, y2, by omega⟩, ⟨q, y3, by omega⟩, hSS⟩
        rw [rsF, ifP_f hcond, if_pos z3, v1]
        simp only []
        rw [ifP_f (fun y => y.elim z4 (hr.mp z5)), y1]
      · have := hq q (Or.inr y1)
        refine ⟨Or.inr ⟨q, x, this, hx, z4, hr.mp z5, z2, ?_, y2, y3, hF4.same hS5 (by decide) (by decide)⟩, ⟨q, y3, by omega⟩, hSS⟩
        rw [rsF, ifP_f hcond, if_pos z3, v1]
        simp only []
        rw [ifP_f (fun y => y.elim z4 (hr.mp z5)), y1]
    · rw [rsF, ifP_f hcond, if_pos z3, v1]
      simp only []
      rw [ifP_t (Or.inr (Classical.byContradiction (fun y => z5 (hr.mpr y))))]
end RDX
