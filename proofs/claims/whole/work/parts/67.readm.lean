/-! the reference reads a text -/
/-- the reference's read cells hold n and S -/
def Rd (mem : Mem) (n : Nat) (S : List Nat) : Prop := mem 2 0 = nI n ∧ mem 2 1 = nI S.length ∧ S.length ≤ 16 ∧ ∀ i, i < S.length → mem 2 (2 + i) = nI (S.getD i 0)
theorem Rd.of {mem m' : Mem} {n : Nat} {S : List Nat} (h : Rd mem n S) (e : m' 2 = mem 2) : Rd m' n S := by unfold Rd; rw [e]; exact h
/-- what reading leaves of the reference -/
def Kr (mem m' : Mem) : Prop := (∀ c, c ≠ 0 → c ≠ 2 → m' c = mem c) ∧ ∀ j, j ≠ 28 → j ≠ 29 → j ≠ 30 → j ≠ 31 → j ≠ 32 → m' 0 j = mem 0 j
theorem Kr.rf {mem : Mem} : Kr mem mem := ⟨fun _ _ _ => rfl, fun _ _ _ _ _ _ => rfl⟩
theorem Kr.tr {a b c : Mem} (h1 : Kr a b) (h2 : Kr b c) : Kr a c := ⟨fun x y z => (h2.1 x y z).trans (h1.1 x y z), fun j a b c e f => (h2.2 j a b c e f).trans (h1.2 j a b c e f)⟩
theorem Kr.up {mem : Mem} {i : Nat} {x : Int32} (h : i = 28 ∨ i = 29 ∨ i = 30 ∨ i = 31 ∨ i = 32) : Kr mem (up2 mem 0 i x) := ⟨fun c hc _ => by rw [up2_ne hc], fun j a b c e f => by rw [up2_nj (by omega)]⟩
theorem Kr.up' {mem : Mem} {i : Nat} {x : Int32} : Kr mem (up2 mem 2 i x) := ⟨fun c _ hc => by rw [up2_ne hc], fun j a b c e f => by rw [up2_ne (by decide)]⟩
theorem Kg.kr {mem m' : Mem} (h : Kg mem m') : Kr mem m' := ⟨fun c a _ => h.1 c a, fun j a b c e _ => h.2 j a b c e⟩
theorem MT.kr {mem m' : Mem} {t : List Nat} (h : MT mem t) (k : Kr mem m') : MT m' t := h.of (k.2 26 (by decide) (by decide) (by decide) (by decide) (by decide)) (k.1 16 (by decide) (by decide))
theorem Wd.kr {mem m' : Mem} (h : Wd mem) (k : Kr mem m') : Wd m' := fun j hj => by rw [k.1 17 (by decide) (by decide)]; exact h j hj
theorem Tk.up32 {mem : Mem} {t : List Nat} {g : Bool} {p : Nat} {x : Int32} (h : Tk mem t g p) : Tk (up2 mem 0 32 x) t g p := ⟨by rw [up2_nj (by decide)]; exact h.1, by rw [up2_nj (by decide)]; exact h.2.1, by rw [up2_nj (by decide)]; exact h.2.2.1, fun a b => by rw [up2_nj (by decide)]; exact h.2.2.2 a b⟩
theorem Tk.up2' {mem : Mem} {t : List Nat} {g : Bool} {p i : Nat} {x : Int32} (h : Tk mem t g p) : Tk (up2 mem 2 i x) t g p := by
  unfold Tk
  rw [up2_ne (show (0 : Nat) ≠ 2 by decide)]
  exact h
theorem reF_le {t : List Nat} {e q : Nat} (he : e ≤ t.length) (h : reF t e = .inl q ∨ reF t e = .inr q) : q ≤ t.length := by
  have hs2 := sk_le (t := t) (e := e) he
  unfold reF at h
  split at h
  · rename_i y
    rcases h with h | h
    · cases h
    · cases h; omega
  · rcases h with h | h
    · cases h; exact hs2
    · cases h
theorem lsN_pos {t : List Nat} {n : Nat} : ∀ (f k x y : Nat), t.length ≤ k + f → x ≠ 0 → lsN t n k x = some y → y ≠ 0
  | 0, k, x, y, hf, hx, h => by
    rw [lsN_f (fun q => by have := lwB_lt q; omega)] at h
    cases h; exact hx
  | f + 1, k, x, y, hf, hx, h => by
    by_cases q : lwB t k = true
    · rw [lsN_t q] at h
      split at h
      · refine lsN_pos f (k + 1) _ y (by omega) (fun e => hx ?_) h
        exact Nat.eq_zero_of_le_zero (e ▸ Nat.left_le_or)
      · cases h
    · rw [lsN_f q] at h
      cases h; exact hx
theorem lsN_ne {t : List Nat} {n k y : Nat} (hk : lwB t k = true) (h : lsN t n k 0 = some y) : y ≠ 0 := by
  rw [lsN_t hk] at h
  split at h
  · refine lsN_pos t.length (k + 1) _ y (by omega) (fun e => ?_) h
    rw [Nat.zero_or] at e
    exact absurd e (Nat.ne_of_gt (Nat.two_pow_pos _))
  · cases h
section RDM
variable {d n : Nat} {S t : List Nat} {H : List (List Nat)} {mem : Mem}
theorem rd45 {e : Nat} {g : Bool} (h : MT mem t) (h32 : mem 0 32 = 0) (hT : Tk mem t g (sk t e)) (he : e ≤ t.length) : Wp shM m_Mo_readsOne (d + 3) 45 [some (.ref 0), none, none] [] mem (QV (fun m' => ((∃ q, reF t e = .inl q ∧ m' 0 32 = 1 ∧ m' 0 30 = nI q ∧ q ≤ t.length) ∨ (∃ q, reF t e = .inr q ∧ q ≤ t.length ∧ m' 0 32 = 0 ∧ Tk m' t false (sk t q) ∧ m' 2 = mem 2)) ∧ Kr mem m')) := by
  have hl := h.2.1
  have hsk := sk_le (t := t) (e := e) he
  have t4 := tkT_4 t g (sk t e)
  refine b_Mo_readsOne_45 ⟨fun _ => ?_, fun z => absurd h32 z⟩
  rw [hT.2.1, show ((nI (tkT t g (sk t e)) : Int32) = 3) = (nI (tkT t g (sk t e)) = nI 3) from rfl, nI_inj (by omega) (by decide), tkT_3]
  refine ⟨fun z => ⟨Or.inl ⟨sk t e, by rw [reF, if_neg z], up2_at, by rw [up2_nj (by decide)]; exact hT.1, hsk⟩, Kr.up (by decide)⟩, fun z => ?_⟩
  have hE : tkE t (sk t e) = sk t e + 1 := by
    rw [tkE, if_neg (fun q => lw_59 q z.2), if_neg (fun q => dg_59 q z.2), if_pos z.1]
  refine (s_goesOn (d := d + 1) (s := sk t e + 1) (w := 3) h (by rw [hT.2.2.1, hE]) (by omega) (by rw [hT.2.1, tkT_3.mpr z]) (by decide)).mono ?_
  rintro m' ⟨a, b⟩
  rw [show decide (sk t (sk t e + 1) = sk t e + 1 ∧ (3 = 1 ∨ 3 = 2)) = false by simp] at a
  exact ⟨Or.inr ⟨sk t e + 1, by rw [reF, if_pos z], by omega, by rw [b.2 32 (by decide) (by decide) (by decide) (by decide)]; exact h32, a, b.1 2 (by decide)⟩, b.kr⟩
theorem s_readsPoints {p : Nat} {g : Bool} (h : MT mem t) (hT : Tk mem t g p) (hp : p ≤ t.length) : CV shM m_Mo_readsPoints (d + 2) [.ref 0] mem (fun m' => ((¬ (g = false ∧ dgB t p = true ∧ dgE t p - p ≤ 2 ∧ 1 ≤ vF t p (dgE t p - p) ∧ vF t p (dgE t p - p) ≤ 10) ∧ m' 0 32 = 1 ∧ m' 0 30 = nI p) ∨ (g = false ∧ dgB t p = true ∧ dgE t p - p ≤ 2 ∧ 1 ≤ vF t p (dgE t p - p) ∧ vF t p (dgE t p - p) ≤ 10 ∧ m' 0 32 = 0 ∧ m' 2 0 = nI (vF t p (dgE t p - p)) ∧ (∀ j, j ≠ 0 → m' 2 j = mem 2 j) ∧ ∃ g', Tk m' t g' (sk t (dgE t p)))) ∧ Kr mem m') := by
  have hl := h.2.1
  have t4 := tkT_4 t g p
  refine e_Mo_readsPoints ?_
  rw [up2_at, up2_at, hT.2.1, show ((nI (tkT t g p) : Int32) = 2) = (nI (tkT t g p) = nI 2) from rfl, nI_inj (by omega) (by decide), tkT_2]
  have no : ¬ (g = false ∧ dgB t p = true ∧ dgE t p - p ≤ 2 ∧ 1 ≤ vF t p (dgE t p - p) ∧ vF t p (dgE t p - p) ≤ 10) → ((¬ (g = false ∧ dgB t p = true ∧ dgE t p - p ≤ 2 ∧ 1 ≤ vF t p (dgE t p - p) ∧ vF t p (dgE t p - p) ≤ 10) ∧ (up2 mem 0 32 1) 0 32 = 1 ∧ (up2 mem 0 32 1) 0 30 = nI p) ∨ (g = false ∧ dgB t p = true ∧ dgE t p - p ≤ 2 ∧ 1 ≤ vF t p (dgE t p - p) ∧ vF t p (dgE t p - p) ≤ 10 ∧ (up2 mem 0 32 1) 0 32 = 0 ∧ (up2 mem 0 32 1) 2 0 = nI (vF t p (dgE t p - p)) ∧ (∀ j, j ≠ 0 → (up2 mem 0 32 1) 2 j = mem 2 j) ∧ ∃ g', Tk (up2 mem 0 32 1) t g' (sk t (dgE t p)))) ∧ Kr mem (up2 mem 0 32 1) := fun z => ⟨Or.inl ⟨z, up2_at, by rw [up2_nj (by decide)]; exact hT.1⟩, Kr.up (by decide)⟩
  refine ⟨fun z => ⟨fun y => absurd y (by decide), fun _ => no (fun q => z ⟨q.2.1, q.1, q.2.2.1⟩)⟩, fun z => ?_⟩
  obtain ⟨z1, z2, z3⟩ := z
  have hv := hT.2.2.2 z1 z3
  have hv100 := vF_2 (t := t) (k := p) (j := dgE t p - p) z3 (fun i hi => enN_mid (P := dgB t) (m := t.length) (i := p) (by omega) (by unfold dgE at hi; omega))
  rw [hv, show ((1 : Int32) ≤ nI (vF t p (dgE t p - p))) = (nI 1 ≤ nI (vF t p (dgE t p - p))) from rfl, show ((nI (vF t p (dgE t p - p)) : Int32) ≤ 10) = (nI (vF t p (dgE t p - p)) ≤ nI 10) from rfl, nI_leI (by decide) (by omega), nI_leI (by omega) (by decide)]
  refine ⟨fun z4 => ⟨fun _ => ?_, fun y => absurd rfl y⟩, fun z4 => ⟨fun y => absurd y (by decide), fun _ => no (fun q => z4 ⟨q.2.2.2.1, q.2.2.2.2⟩)⟩⟩
  have e31 : (up2 mem 0 32 0) 0 31 = nI (vF t p (dgE t p - p)) := by rw [up2_nj (by decide)]; exact hv
  rw [e31]
  have kA : Kr mem (up2 (up2 mem 0 32 0) 2 0 (nI (vF t p (dgE t p - p)))) := (Kr.up (by decide)).tr Kr.up'
  have hTA : Tk (up2 (up2 mem 0 32 0) 2 0 (nI (vF t p (dgE t p - p)))) t g p := hT.up32.up2'
  have hE : tkE t p = dgE t p := by rw [tkE, if_neg (fun q => lw_dg q z1), if_pos z1]
  refine (s_goesOn (d := d) (s := dgE t p) (w := 2) (h.kr kA) (by rw [hTA.2.2.1, hE]) (dgE_le hp) (by rw [hTA.2.1, tkT_2.mpr ⟨z1, z2, z3⟩]) (by decide)).mono ?_
  rintro m' ⟨a, b⟩
  refine ⟨Or.inr ⟨z2, z1, z3, z4.1, z4.2, ?_, ?_, fun j hj => ?_, _, a⟩, kA.tr b.kr⟩
  · rw [b.2 32 (by decide) (by decide) (by decide) (by decide), up2_ne (by decide), up2_at]
  · rw [b.1 2 (by decide), up2_at]
  · rw [b.1 2 (by decide), up2_nj hj, up2_ne (by decide)]
theorem bad121 {x2 : Int32} {K : Mem → Prop} (h : ¬ mem 0 32 = 0) (HK : K (up2 mem 0 32 1)) : Wp shM m_Mo_readsSet (d + 2) 121 [some (.ref 0), none, some (.int x2), none, none] [] mem (QV K) := b_Mo_readsSet_121 ⟨fun _ => ⟨fun z => absurd (up2_at.symm.trans z) (by decide), fun _ => HK⟩, fun z => absurd z h⟩
theorem bad46 {x2 x3 : Int32} {K : Mem → Prop} (h : ¬ mem 0 32 = 0) (HK : K (up2 mem 0 32 1)) : Wp shM m_Mo_readsSet (d + 2) 46 [some (.ref 0), none, some (.int x2), some (.int x3), none] [] mem (QV K) := b_Mo_readsSet_46 ⟨fun _ => bad121 h HK, fun _ => ⟨fun _ => bad121 h HK, fun z => absurd z h⟩⟩
theorem s_readsSet {p : Nat} {g : Bool} (h : MT mem t) (hT : Tk mem t g (sk t (p + 3))) (hg : g = decide (sk t (p + 3) = p + 3)) (hR : Rd mem n S) (hs : ∀ i, S.getD i 0 < 1024) (hn : n ≤ 10) (hWd : WdP t wSet p) : CV shM m_Mo_readsSet (d + 2) [.ref 0, .int (nI p)] mem (fun m' => ((∃ e, (∀ o, rsF t n p S = o → o = .inl e) ∧ m' 0 32 = 1 ∧ m' 0 30 = nI e ∧ e ≤ t.length) ∨ (∃ x, S.length < 16 ∧ blB t (p + 3) = true ∧ lsN t n (sk t (p + 3)) 0 = some x ∧ x < 2 ^ n ∧ x ≠ 0 ∧ x ∉ S ∧ m' 0 32 = 0 ∧ Rd m' n (S ++ [x]) ∧ ∃ g', Tk m' t g' (sk t (lwE t (sk t (p + 3)))))) ∧ Kr mem m') := by
  have hl := h.2.1
  have h3 := (hWd.1 2 (by decide)).1
  have hpn : 2 ^ n ≤ 2 ^ 10 := Nat.pow_le_pow_right (by decide) hn
  have hsk := sk_le (t := t) (e := p + 3) (by omega)
  have hsk2 : p + 3 ≤ sk t (p + 3) := enN_ge _ _ _
  have t4 := tkT_4 t g (sk t (p + 3))
  have hlw := lwE_le (t := t) hsk
  have hlg : sk t (p + 3) ≤ lwE t (sk t (p + 3)) := enN_ge _ _ _
  have hR' := hR
  obtain ⟨r1, r2, r3, r4⟩ := hR
  refine e_Mo_readsSet ?_
  rw [r2, show ((nI S.length : Int32) = 16) = (nI S.length = nI 16) from rfl, nI_inj (by omega) (by decide)]
  refine ⟨fun z16 => ?_, fun z16 => ?_⟩
  rotate_left
  · refine ⟨Or.inl ⟨p, fun o ho => ?_, up2_at, by rw [up2_nj (by decide), up2_at], by omega⟩, (Kr.up (by decide)).tr (Kr.up (by decide))⟩
    rw [← ho, rsF, ifP_t (Or.inr (by omega))]
  have hcond : ¬ (¬ WdP t wSet p ∨ 16 ≤ S.length) := fun q => q.elim (fun y => y hWd) (fun y => by omega)
  -- the fault is at the letters
  have fault : ∀ m0 : Mem, m0 0 30 = nI (sk t (p + 3)) → Kr mem m0 → (∀ o, rsF t n p S = o → o = .inl (sk t (p + 3))) → ((∃ e, (∀ o, rsF t n p S = o → o = .inl e) ∧ (up2 m0 0 32 1) 0 32 = 1 ∧ (up2 m0 0 32 1) 0 30 = nI e ∧ e ≤ t.length) ∨ (∃ x, S.length < 16 ∧ blB t (p + 3) = true ∧ lsN t n (sk t (p + 3)) 0 = some x ∧ x < 2 ^ n ∧ x ≠ 0 ∧ x ∉ S ∧ (up2 m0 0 32 1) 0 32 = 0 ∧ Rd (up2 m0 0 32 1) n (S ++ [x]) ∧ ∃ g', Tk (up2 m0 0 32 1) t g' (sk t (lwE t (sk t (p + 3)))))) ∧ Kr mem (up2 m0 0 32 1) := fun m0 e30 k0 ho => ⟨Or.inl ⟨sk t (p + 3), ho, up2_at, by rw [up2_nj (by decide)]; exact e30, hsk⟩, k0.tr (Kr.up (by decide))⟩
  rw [hT.2.1, show ((nI (tkT t g (sk t (p + 3))) : Int32) = 1) = (nI (tkT t g (sk t (p + 3))) = nI 1) from rfl, nI_inj (by omega) (by decide), tkT_1]
  refine ⟨fun zw => ?_, fun zw => ?_⟩
  rotate_left
  · refine bad46 (by rw [up2_at]; decide) ?_
    refine fault _ (by rw [up2_nj (by decide)]; exact hT.1) (Kr.up (by decide)) (fun o ho => ?_)
    rw [← ho, rsF, ifP_f hcond]
    by_cases c : blB t (p + 3) = true
    · rw [if_pos c]
      have hgf : g = false := by
        rw [hg]
        refine decide_eq_false (fun q => ?_)
        have := enN_end (P := blB t) (m := t.length) (i := p + 3) (fun i hi => blB_lt hi)
        rw [show enN (blB t) t.length (p + 3) = p + 3 from q, c] at this
        cases this
      have hno : ¬ lwB t (sk t (p + 3)) = true := fun q => zw ⟨q, hgf⟩
      rw [lsN_f hno]
      simp only []
      exact ifP_t (Or.inl trivial)
    · rw [if_neg c, show sk t (p + 3) = p + 3 by rw [sk, enN_f c]]
  have hbl : blB t (p + 3) = true := by
    rw [hg] at zw
    have z2 := of_decide_eq_false zw.2
    exact Classical.byContradiction (fun c => z2 (by rw [sk, enN_f c]))
  have hE : tkE t (sk t (p + 3)) = lwE t (sk t (p + 3)) := by rw [tkE, if_pos zw.1]
  have key : ∀ f k x, k + f = lwE t (sk t (p + 3)) → sk t (p + 3) ≤ k → x < 2 ^ n → lsN t n (sk t (p + 3)) 0 = lsN t n k x → ∀ m0 : Mem, m0 0 32 = 0 → Tk m0 t g (sk t (p + 3)) → m0 2 = mem 2 → Kr mem m0 → Wp shM m_Mo_readsSet (d + 2) 46 [some (.ref 0), none, some (.int (nI x)), some (.int (nI k)), none] [] m0 (QV (fun m' => ((∃ e, (∀ o, rsF t n p S = o → o = .inl e) ∧ m' 0 32 = 1 ∧ m' 0 30 = nI e ∧ e ≤ t.length) ∨ (∃ x, S.length < 16 ∧ blB t (p + 3) = true ∧ lsN t n (sk t (p + 3)) 0 = some x ∧ x < 2 ^ n ∧ x ≠ 0 ∧ x ∉ S ∧ m' 0 32 = 0 ∧ Rd m' n (S ++ [x]) ∧ ∃ g', Tk m' t g' (sk t (lwE t (sk t (p + 3)))))) ∧ Kr mem m')) := by
    intro f
    induction f with
    | zero =>
      intro k x hf hk hx hls m0 e32 hT0 e2 k0
      have ek : k = lwE t (sk t (p + 3)) := by omega
      have hno : ¬ lwB t k = true := by
        have := enN_end (P := lwB t) (m := t.length) (i := sk t (p + 3)) (fun i hi => lwB_lt hi)
        rw [ek, lwE, this]; decide
      rw [lsN_f hno] at hls
      have hx0 := lsN_ne zw.1 hls
      refine b_Mo_readsSet_46 ⟨fun _ => ?_, fun z => absurd (by rw [hT0.2.2.1, hE, ek]; exact Int32.le_refl _) z⟩
      refine b_Mo_readsSet_121 ⟨fun z => absurd e32 z, fun _ => ?_⟩
      have hR0 : Rd m0 n S := hR'.of e2
      rw [hR0.2.1, show (2 : Int32) = nI 2 from rfl]
      refine (s_isAmong (r0 := 2) (n0 := 18) (fr := 2) (L := S) rfl (by omega) (by decide) hR0.2.2.2 (fun i => Nat.lt_trans (hs i) (by decide)) (by omega)).to ?_
      rw [b2i_0]
      refine ⟨fun zx => ?_, fun zx => ⟨fun z => absurd (up2_at.symm.trans z) (by decide), fun _ => ?_⟩⟩
      · refine ⟨fun _ => ?_, fun z => absurd up2_at z⟩
        have e21 : (up2 m0 0 32 0) 2 1 = nI S.length := by rw [up2_ne (by decide)]; exact hR0.2.1
        rw [e21, nI_add, nI_clamp (by omega)]
        have e21' : (up2 (up2 m0 0 32 0) 2 (2 + S.length) (nI x)) 2 1 = nI S.length := by rw [up2_nj (by omega)]; exact e21
        refine ⟨vp_in_nI (by omega) (by decide), ?_⟩
        rw [e21', nI_1]
        have kA : Kr mem (up2 (up2 (up2 m0 0 32 0) 2 (2 + S.length) (nI x)) 2 1 (nI (S.length + 1))) := ((k0.tr (Kr.up (by decide))).tr Kr.up').tr Kr.up'
        have hTA : Tk (up2 (up2 (up2 m0 0 32 0) 2 (2 + S.length) (nI x)) 2 1 (nI (S.length + 1))) t g (sk t (p + 3)) := hT0.up32.up2'.up2'
        refine (s_goesOn (d := d) (s := lwE t (sk t (p + 3))) (w := 1) (h.kr kA) (by rw [hTA.2.2.1, hE]) hlw (by rw [hTA.2.1, tkT_1.mpr zw]) (by decide)).mono ?_
        rintro m' ⟨a, b⟩
        refine ⟨Or.inr ⟨x, by omega, hbl, hls, hx, hx0, zx, ?_, ?_, _, a⟩, kA.tr b.kr⟩
        · rw [b.2 32 (by decide) (by decide) (by decide) (by decide), up2_ne (by decide), up2_ne (by decide), up2_at]
        · refine Rd.of (mem := up2 (up2 (up2 m0 0 32 0) 2 (2 + S.length) (nI x)) 2 1 (nI (S.length + 1))) ⟨?_, ?_, ?_, fun i hi => ?_⟩ (b.1 2 (by decide))
          · rw [up2_nj (by decide), up2_nj (by omega), up2_ne (by decide)]; exact hR0.1
          · rw [up2_at, List.length_append]; rfl
          · rw [List.length_append]; show S.length + 1 ≤ 16; omega
          · rw [List.length_append] at hi
            simp only [List.length_cons, List.length_nil] at hi
            rw [up2_nj (by omega), getD_app]
            by_cases c : i < S.length
            · rw [if_pos c, up2_nj (by omega), up2_ne (by decide)]; exact hR0.2.2.2 i c
            · rw [if_neg c, if_pos (by omega), show i = S.length by omega, up2_at]
      · refine fault m0 hT0.1 k0 (fun o ho => ?_)
        rw [← ho, rsF, ifP_f hcond, if_pos hbl, hls]
        simp only []
        rw [ifP_t (Or.inr (Classical.not_not.mp zx))]
    | succ f ih =>
      intro k x hf hk hx hls m0 e32 hT0 e2 k0
      have hMT := h.kr k0
      have hlk : lwB t k = true := enN_mid (P := lwB t) (m := t.length) (i := sk t (p + 3)) hk (by unfold lwE at hf; omega)
      have zz := hlk
      rw [lwB, Bool.and_eq_true, Bool.and_eq_true, decide_eq_true_iff, decide_eq_true_iff, decide_eq_true_iff] at zz
      refine b_Mo_readsSet_46 ⟨fun z => absurd z (by rw [hT0.2.2.1, hE]; exact nI_ge (by omega) (by omega)), fun _ => ⟨fun z => absurd e32 z, fun _ => ⟨vp_in_nI (by omega) (by decide), ?_⟩⟩⟩
      rw [nI_clamp (by omega), hMT.2.2.1 k (by omega), show (97 : Int32) = nI 97 from rfl, pk_sub zz.2.1, (hR'.of e2).1, nI_leI (by omega) (by omega)]
      have bad : ¬ (t.getD k 0 - 97 < n ∧ x.testBit (t.getD k 0 - 97) = false) → Wp shM m_Mo_readsSet (d + 2) 46 [some (.ref 0), none, some (.int (nI x)), some (.int (nI k + 1)), none] [] (up2 m0 0 32 1) (QV (fun m' => ((∃ e, (∀ o, rsF t n p S = o → o = .inl e) ∧ m' 0 32 = 1 ∧ m' 0 30 = nI e ∧ e ≤ t.length) ∨ (∃ x, S.length < 16 ∧ blB t (p + 3) = true ∧ lsN t n (sk t (p + 3)) 0 = some x ∧ x < 2 ^ n ∧ x ≠ 0 ∧ x ∉ S ∧ m' 0 32 = 0 ∧ Rd m' n (S ++ [x]) ∧ ∃ g', Tk m' t g' (sk t (lwE t (sk t (p + 3)))))) ∧ Kr mem m')) := fun z => by
        refine bad46 (by rw [up2_at]; decide) (fault _ (by rw [up2_nj (by decide)]; exact hT0.1) (k0.tr (Kr.up (by decide))) (fun o ho => ?_))
        rw [lsN_t hlk, if_neg z] at hls
        rw [← ho, rsF, ifP_f hcond, if_pos hbl, hls]
      refine ⟨fun z => ⟨fun _ => bad (fun q => by omega), fun y => absurd (up2_at.symm.trans y) (by decide)⟩, fun z => ?_⟩
      rw [hasI (by omega) (by omega)]
      refine ⟨fun z2 => ⟨fun y => absurd up2_at y, fun _ => ?_⟩, fun z2 => ⟨fun _ => bad (fun q => by rw [z2] at q; exact absurd q.2 (by decide)), fun y => absurd (up2_at.symm.trans y) (by decide)⟩⟩
      rw [sh1 (by omega), io, nI_1]
      refine ih (k + 1) _ (by omega) (by omega) (Nat.or_lt_two_pow hx (Nat.pow_lt_pow_right (by decide) (by omega))) ?_ _ up2_at hT0.up32 (by rw [up2_ne (by decide)]; exact e2) (k0.tr (Kr.up (by decide)))
      rw [hls, lsN_t hlk, if_pos ⟨by omega, by simpa using z2⟩]
  have e30 : (up2 mem 0 32 0) 0 30 = nI (sk t (p + 3)) := by rw [up2_nj (by decide)]; exact hT.1
  rw [e30]
  have := key (lwE t (sk t (p + 3)) - sk t (p + 3)) (sk t (p + 3)) 0 (by omega) (Nat.le_refl _) (Nat.two_pow_pos n) rfl (up2 mem 0 32 0) up2_at hT.up32 (by rw [up2_ne (by decide)]) (Kr.up (by decide))
  rw [nI_0] at this
  exact this
theorem m_one {p : Nat} (h : MT mem t) (hW : Wd mem) (h32 : mem 0 32 = 0) (hT : Tk mem t false p) (hp : p ≤ t.length) (hR : Rd mem n S) (hs : ∀ i, S.getD i 0 < 1024) (hn : n ≤ 10) : Wp shM m_Mo_readsOne (d + 3) 24 [some (.ref 0), none, some (.int (nI p))] [] mem (QV (fun m' => ((∃ e, rsF t n p S = .inl e ∧ m' 0 32 = 1 ∧ m' 0 30 = nI e ∧ e ≤ t.length) ∨ (∃ q x, q ≤ t.length ∧ rsF t n p S = .inr (sk t q, S ++ [x]) ∧ m' 0 32 = 0 ∧ Tk m' t false (sk t q) ∧ Rd m' n (S ++ [x]))) ∧ Kr mem m')) := by
  have hl := h.2.1
  refine b_Mo_readsOne_24 ?_
  refine (s_takesWord (d := d) (w := 1) (W := wSet) (by decide) rfl h hW h32 hT hp).mono ?_
  rintro r m1 (⟨hWd, hr, hT1, hK1⟩ | ⟨hWd, hr, rfl⟩)
  · refine ⟨fun z => absurd (hr.symm.trans z) (by decide), fun _ => ?_⟩
    have h3 := (hWd.1 2 (by decide)).1
    refine (s_readsSet (d := d) (h.kg hK1) hT1 rfl (hR.of (hK1.1 2 (by decide))) hs hn hWd).mono ?_
    rintro m2 ⟨hr2, hK2⟩
    rcases hr2 with ⟨e, y1, y2, y3, y4⟩ | ⟨x, y1, y2, y3, y4, y5, y6, y7, y8, g', y9⟩
    · refine b_Mo_readsOne_45 ⟨fun z => absurd (y2.symm.trans z) (by decide), fun _ => ⟨Or.inl ⟨e, y1 _ rfl, y2, y3, y4⟩, hK1.kr.tr hK2⟩⟩
    · have hsk := sk_le (t := t) (e := p + 3) (by omega)
      have hlw := lwE_le (t := t) hsk
      have hcond : ¬ (¬ WdP t wSet p ∨ 16 ≤ S.length) := fun q => q.elim (fun y => y hWd) (fun y => by omega)
      refine (rd45 (d := d) (e := lwE t (sk t (p + 3))) (h.kr (hK1.kr.tr hK2)) y7 y9 hlw).mono ?_
      rintro r3 m3 ⟨hr3, hq3, hK3⟩
      refine ⟨hr3, ?_, (hK1.kr.tr hK2).tr hK3⟩
      rcases hq3 with ⟨q, z1, z2, z3, z4⟩ | ⟨q, z1, z2, z3, z4, z5⟩
      · refine Or.inl ⟨q, ?_, z2, z3, z4⟩
        rw [rsF, ifP_f hcond, if_pos y2, y3]
        simp only []
        rw [ifP_f (fun y => y.elim y5 y6), z1]
      · refine Or.inr ⟨q, x, z2, ?_, z3, z4, y8.of z5⟩
        rw [rsF, ifP_f hcond, if_pos y2, y3]
        simp only []
        rw [ifP_f (fun y => y.elim y5 y6), z1]
  · refine ⟨fun _ => ?_, fun z => absurd hr z⟩
    refine b_Mo_readsOne_45 ⟨fun z => absurd (up2_at.symm.trans z) (by decide), fun _ => ⟨Or.inl ⟨p, by rw [rsF, ifP_t (Or.inl hWd)], up2_at, by rw [up2_nj (by decide)]; exact hT.1, hp⟩, Kr.up (by decide)⟩⟩
end RDM
