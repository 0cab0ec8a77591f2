/-! text of the reference -/
section TXR
variable {d n : Nat} {S t : List Nat} {H : List (List Nat)} {mem : Mem}
theorem s_starts : CV shM m_Mo_starts d [.ref 2] mem (fun m' => Rd m' 6 [] ∧ Same mem m' [2]) := by
  refine e_Mo_starts (n0 := 18) rfl ?_
  have key : ∀ f i, i + f = 18 → ∀ m0 : Mem, (∀ j, j < i → m0 2 j = 0) → Same mem m0 [2] → Wp shM m_Mo_starts d 2 [some (.ref 2), some (.int (nI i))] [] m0 (QV (fun m' => Rd m' 6 [] ∧ Same mem m' [2])) := by
    intro f
    induction f with
    | zero =>
      intro i hi m0 hz hS
      have e : i = 18 := by omega
      subst e
      refine b_Mo_starts_2 (n0 := 18) rfl ⟨fun _ => ⟨vp_in_nI (n := 0) (by decide) (by decide), ⟨up2_at, ?_, by decide, fun i hi => absurd hi (Nat.not_lt_zero _)⟩, hS.tr (Same.up (by simp))⟩, fun c => absurd (by decide) c⟩
      rw [up2_nj (by decide), hz 1 (by decide)]
      exact nI_0.symm
    | succ f ih =>
      intro i hi m0 hz hS
      refine b_Mo_starts_2 (n0 := 18) rfl ⟨fun c => absurd c (by rw [show (18 : Int32) = nI 18 from rfl, nI_leI (by decide) (by omega)]; omega), fun _ => ⟨vp_in_nI (by omega) (by decide), ?_⟩⟩
      rw [nI_clamp (by omega), nI_1]
      refine ih (i + 1) (by omega) _ (fun j hj => ?_) (hS.tr (Same.up (by simp)))
      by_cases c : j = i
      · subst c; exact up2_at
      · rw [up2_nj c]; exact hz j (by omega)
  have := key 18 0 rfl mem (fun j hj => absurd hj (Nat.not_lt_zero _)) Same.rf
  rw [nI_0] at this
  exact this
theorem s_copies {K : Int32 → Mem → Prop} (HK : ∀ m', (∀ j, j < 18 → m' 1 j = mem 2 j) → (∀ c, c ≠ 0 → c ≠ 1 → m' c = mem c) → (∀ j, j ≠ 4 → m' 0 j = mem 0 j) → m' 0 4 = 0 → K (m' 1 1) m') : Wp shM m_Mo_text (d + 4) 74 [some (.ref 0), none, some (.int 0)] [] mem (QI K) := by
  have key : ∀ f i, i + f = 18 → ∀ m0 : Mem, (∀ j, j < i → m0 1 j = mem 2 j) → Same mem m0 [1] → Wp shM m_Mo_text (d + 4) 74 [some (.ref 0), none, some (.int (nI i))] [] m0 (QI K) := by
    intro f
    induction f with
    | zero =>
      intro i hi m0 hz hS
      have e : i = 18 := by omega
      subst e
      refine b_Mo_text_74 ⟨fun _ => HK _ (fun j hj => by rw [up2_ne (by decide)]; exact hz j hj) (fun c h0 h1 => by rw [up2_ne h0]; exact hS c (by simpa using h1)) (fun j hj => by rw [up2_nj hj, hS 0 (by decide)]) up2_at, fun c => absurd (by decide) c⟩
    | succ f ih =>
      intro i hi m0 hz hS
      refine b_Mo_text_74 ⟨fun c => absurd c (by rw [show (18 : Int32) = nI 18 from rfl, nI_leI (by decide) (by omega)]; omega), fun _ => ⟨vp_in_nI (by omega) (by decide), vp_in_nI (by omega) (by decide), ?_⟩⟩
      rw [nI_clamp (by omega), nI_1]
      refine ih (i + 1) (by omega) _ (fun j hj => ?_) (hS.tr (Same.up (by simp)))
      by_cases c : j = i
      · subst c; rw [up2_at, hS 2 (by decide)]
      · rw [up2_nj c]; exact hz j (by omega)
  have := key 18 0 rfl mem (fun j hj => absurd hj (Nat.not_lt_zero _)) Same.rf
  rw [nI_0] at this
  exact this
theorem y_text (h : Now mem n S) (hM : MH mem n H) (ht : MT mem t) (hW : Wd mem) : CI shM m_Mo_text (d + 4) [.ref 0] mem (fun r m' => r = aText t ∧ Now m' (tN t n) (tS t S) ∧ MH m' (tN t n) (tH t H) ∧ MT m' [] ∧ Wd m') := by
  have hl := ht.2.1
  refine e_Mo_text ?_
  refine (s_starts (d := d + 3)).mono ?_
  rintro m1 ⟨hR1, hS1⟩
  have k1 : Kr mem (up2 (up2 (up2 m1 0 28 0) 0 29 3) 0 32 0) := by
    have : Kr mem m1 := ⟨fun c _ h2 => hS1 c (by simpa using h2), fun j _ _ _ _ _ => by rw [hS1 0 (by decide)]⟩
    exact ((this.tr (Kr.up (by decide))).tr (Kr.up (by decide))).tr (Kr.up (by decide))
  refine (s_goesOn (d := d + 2) (s := 0) (w := 3) (ht.kr k1) (by rw [up2_nj (by decide), up2_nj (by decide), up2_at]; exact nI_0.symm) (Nat.zero_le _) (by rw [up2_nj (by decide), up2_at]; rfl) (by decide)).mono ?_
  rintro m2 ⟨hT2, hK2⟩
  rw [show decide (sk t 0 = 0 ∧ (3 = 1 ∨ 3 = 2)) = false by simp] at hT2
  have k2 : Kr mem m2 := k1.tr hK2.kr
  have hR2 : Rd m2 6 [] := hR1.of (by rw [hK2.1 2 (by decide), up2_ne (by decide), up2_ne (by decide), up2_ne (by decide)])
  have h32 : m2 0 32 = 0 := by rw [hK2.2 32 (by decide) (by decide) (by decide) (by decide), up2_at]
  have hsk := sk_le (t := t) (e := 0) (Nat.zero_le _)
  have mtn : ∀ m0 : Mem, MT (up2 m0 0 26 0) [] := fun m0 => ⟨by rw [up2_at]; exact nI_0.symm, by decide, fun i hi => absurd hi (Nat.not_lt_zero _), fun i => by simp⟩
  -- a fault
  have bad : ∀ (x1 : Int32) (e : Nat) (m0 : Mem), txF t = .inl e → m0 0 32 = 1 → m0 0 30 = nI e → Kr mem m0 → Wp shM m_Mo_text (d + 4) 28 [some (.ref 0), some (.int x1), none] [] m0 (QI (fun r m' => r = aText t ∧ Now m' (tN t n) (tS t S) ∧ MH m' (tN t n) (tH t H) ∧ MT m' [] ∧ Wd m')) := by
    intro x1 e m0 hx e32 e30 k0
    have e32' : (up2 m0 0 26 0) 0 32 = 1 := by rw [up2_nj (by decide)]; exact e32
    refine b_Mo_text_28 ⟨fun _ => ⟨fun z => absurd (e32'.symm.trans z) (by decide), fun _ => ?_⟩, fun z => absurd (e32.symm.trans z) (by decide)⟩
    simp only [aText, tN, tS, tH, hx]
    refine ⟨by rw [up2_nj (by decide), e30], ?_, ?_, mtn m0, fun k hk => by rw [up2_ne (by decide)]; exact hW.kr k0 k hk⟩
    · unfold Now; rw [up2_ne (by decide), k0.1 1 (by decide) (by decide)]; exact h
    · exact hM.of (by rw [up2_nj (by decide)]; exact k0.2 4 (by decide) (by decide) (by decide) (by decide) (by decide)) (by rw [up2_ne (by decide)]; exact k0.1 3 (by decide) (by decide))
  -- the end
  have good : ∀ (x1 : Int32) (n' p : Nat) (T : List Nat) (m0 : Mem), txF t = .inr (n', T) → n' ≤ 10 → (∀ i, T.getD i 0 < 1024) → m0 0 32 = 0 → Tk m0 t false p → t.length ≤ p → Rd m0 n' T → Kr mem m0 → Wp shM m_Mo_text (d + 4) 28 [some (.ref 0), some (.int x1), none] [] m0 (QI (fun r m' => r = aText t ∧ Now m' (tN t n) (tS t S) ∧ MH m' (tN t n) (tH t H) ∧ MT m' [] ∧ Wd m')) := by
    intro x1 n' p T m0 hx hn' hs e32 hT0 hp hR0 k0
    have e29 : m0 0 29 = 0 := by rw [hT0.2.1, tkT_0.mpr hp]; exact nI_0
    have e32' : (up2 m0 0 26 0) 0 32 = 0 := by rw [up2_nj (by decide)]; exact e32
    refine b_Mo_text_28 ⟨fun z => absurd e32 z, fun _ => ⟨fun _ => ⟨fun _ => ?_, fun z => absurd e32' z⟩, fun z => absurd e29 z⟩⟩
    refine s_copies (fun m' c1 c2 c3 c4 => ?_)
    simp only [aText, tN, tS, tH, hx]
    obtain ⟨r1, r2, r3, r4⟩ := hR0
    have cc : ∀ j, j < 18 → m' 1 j = m0 2 j := fun j hj => by rw [c1 j hj, up2_ne (by decide)]
    refine ⟨by rw [cc 1 (by decide)]; exact r2, ⟨by rw [cc 0 (by decide)]; exact r1, by rw [cc 1 (by decide)]; exact r2, r3, hn', fun i hi => by rw [cc (2 + i) (by omega)]; exact r4 i hi, hs⟩, ⟨by rw [c4]; exact nI_0.symm, by decide, fun j hj => absurd hj (Nat.not_lt_zero _)⟩, ?_, fun k hk => ?_⟩
    · exact ⟨by rw [c3 26 (by decide), up2_at]; exact nI_0.symm, by decide, fun i hi => absurd hi (Nat.not_lt_zero _), fun i => by simp⟩
    · rw [c2 17 (by decide) (by decide), up2_ne (by decide)]; exact hW.kr k0 k hk
  have gsm : ∀ (n' : Nat) (T : List Nat), n' ≤ 10 → GdS n' T → ∀ i, T.getD i 0 < 1024 := fun n' T hn' hG i => Nat.lt_of_lt_of_le (hG.2.2.2 i) (Nat.pow_le_pow_right (by decide) hn' : 2 ^ n' ≤ 2 ^ 10)
  -- one set and on
  have loop : ∀ (n' : Nat), n' ≤ 10 → ∀ f i p (T : List Nat), i + f = 17 → T.length = i → T.length ≤ 16 → GdS n' T → p ≤ t.length → (∀ e, psF t n' f p T = .inl e → txF t = .inl e) → (∀ S', psF t n' f p T = .inr S' → txF t = .inr (n', S')) → ∀ (x1 : Int32) (m0 : Mem), (x1 = 0 ∨ ¬ WdP t wPts p) → m0 0 32 = 0 → Tk m0 t false p → Rd m0 n' T → Kr mem m0 → Wp shM m_Mo_text (d + 4) 28 [some (.ref 0), some (.int x1), none] [] m0 (QI (fun r m' => r = aText t ∧ Now m' (tN t n) (tS t S) ∧ MH m' (tN t n) (tH t H) ∧ MT m' [] ∧ Wd m')) := by
    intro n' hn' f
    induction f with
    | zero => intro i p T hif hTi hT16; omega
    | succ f ih =>
      intro i p T hif hTi hT16 hG hp hO1 hO2 x1 m0 hx1 e32 hT0 hR0 k0
      by_cases c : p < t.length
      · have t4 := tkT_4 t false p
        have e29 : ¬ m0 0 29 = 0 := by
          rw [hT0.2.1, nI_z (by omega), tkT_0]; omega
        refine b_Mo_text_28 ⟨fun z => absurd e32 z, fun _ => ⟨fun z => absurd z e29, fun _ => ?_⟩⟩
        have one := m_one (d := d) (ht.kr k0) (hW.kr k0) e32 hT0 hp hR0 (gsm n' T hn' hG) hn'
        have step : Wp shM m_Mo_readsOne (d + 3) 24 [some (.ref 0), none, some (.int (m0 0 30))] [] m0 (QV (fun m => Wp shM m_Mo_text (d + 4) 28 [some (.ref 0), some (.int 0), none] [] m (QI (fun r m' => r = aText t ∧ Now m' (tN t n) (tS t S) ∧ MH m' (tN t n) (tH t H) ∧ MT m' [] ∧ Wd m')))) := by
          rw [hT0.1]
          refine one.mono ?_
          rintro r3 m3 ⟨hr3, hq3, hK3⟩
          refine ⟨hr3, ?_⟩
          rcases hq3 with ⟨e, y1, y2, y3, y4⟩ | ⟨q, x, y1, y2, y3, y4, y5⟩
          · exact bad 0 e m3 (hO1 e (by rw [psF, if_pos c, y1])) y2 y3 (k0.tr hK3)
          · obtain ⟨x', x1', x2', x3', x4', x5'⟩ := rsF_ok y2
            have ex : x' = x := by
              have := (List.append_cancel_left x1').symm
              cases this; rfl
            subst ex
            exact ih (i + 1) (sk t q) (T ++ [x']) (by omega) (by rw [List.length_append, hTi]; rfl) (by rw [List.length_append]; exact x5') (hG.app x5' x2' x3' x4') (sk_le y1) (fun e he => hO1 e (by rw [psF, if_pos c, y2]; exact he)) (fun S' he => hO2 S' (by rw [psF, if_pos c, y2]; exact he)) 0 m3 (Or.inl rfl) y3 y4 y5 (k0.tr hK3)
        refine e_Mo_readsOne ⟨fun _ => step, fun z => ?_⟩
        have hnW := hx1.resolve_left z
        refine (s_takesWord (d := d) (w := 0) (W := wPts) (by decide) rfl (ht.kr k0) (hW.kr k0) e32 hT0 hp).mono ?_
        rintro r m3 (⟨hWd, _⟩ | ⟨_, hr, rfl⟩)
        · exact absurd hWd hnW
        · exact ⟨fun _ => step, fun y => absurd hr y⟩
      · exact good x1 n' p T m0 (hO2 T (by rw [psF, if_neg c])) hn' (gsm n' T hn' hG) e32 hT0 (by omega) hR0 k0
  by_cases hWd : WdP t wPts (sk t 0)
  · have h6 := (hWd.1 5 (by decide)).1
    have t4 := tkT_4 t false (sk t 0)
    have e29 : ¬ m2 0 29 = 0 := by
      rw [hT2.2.1, nI_z (by omega), tkT_0]; omega
    refine b_Mo_text_28 ⟨fun z => absurd h32 z, fun _ => ⟨fun z => absurd z e29, fun _ => ?_⟩⟩
    refine e_Mo_readsOne ⟨fun z => absurd z (by decide), fun _ => ?_⟩
    refine (s_takesWord (d := d) (w := 0) (W := wPts) (by decide) rfl (ht.kr k2) (hW.kr k2) h32 hT2 hsk).mono ?_
    rintro r m3 (⟨_, hr, hT3, hK3⟩ | ⟨hn, _⟩)
    rotate_left
    · exact absurd hWd hn
    refine ⟨fun z => absurd (hr.symm.trans z) (by decide), fun _ => ?_⟩
    rw [show wPts.length = 6 from rfl] at hT3
    have hs6 : sk t (sk t 0 + 6) ≤ t.length := sk_le (by omega)
    have k3 : Kr mem m3 := k2.tr hK3.kr
    refine (s_readsPoints (d := d) (ht.kr k3) hT3 hs6).mono ?_
    rintro m4 ⟨hq4, hK4⟩
    have k4 : Kr mem m4 := k3.tr hK4
    have hgF : (decide (sk t (sk t 0 + 6) = sk t 0 + 6) = false) ↔ blB t (sk t 0 + 6) = true := by
      rw [decide_eq_false_iff_not]
      constructor
      · intro z
        exact Classical.byContradiction (fun c => z (by rw [sk, enN_f c]))
      · intro c q
        have := enN_end (P := blB t) (m := t.length) (i := sk t 0 + 6) (fun i hi => blB_lt hi)
        rw [show enN (blB t) t.length (sk t 0 + 6) = sk t 0 + 6 from q, c] at this
        cases this
    rcases hq4 with ⟨y1, y2, y3⟩ | ⟨y1, y2, y3, y4, y5, y6, y7, y8, g', y9⟩
    · refine b_Mo_readsOne_45 ⟨fun z => absurd (y2.symm.trans z) (by decide), fun _ => bad 0 (sk t (sk t 0 + 6)) m4 ?_ y2 y3 k4⟩
      rw [txF, ifP_t hWd, rpF]
      by_cases c : blB t (sk t 0 + 6) = true
      · rw [if_pos c]
        by_cases c2 : dgB t (sk t (sk t 0 + 6)) = true
        · rw [if_pos c2, ifP_t]
          refine Classical.byContradiction (fun q => y1 ⟨hgF.mpr c, c2, ?_, ?_, ?_⟩)
          · exact Nat.le_of_not_lt (fun w => q (Or.inl w))
          · exact Nat.le_of_not_lt (fun w => q (Or.inr (Or.inl w)))
          · exact Nat.le_of_not_lt (fun w => q (Or.inr (Or.inr w)))
        · rw [if_neg c2]
      · rw [if_neg c, show sk t (sk t 0 + 6) = sk t 0 + 6 by rw [sk, enN_f c]]
    · have hbl := hgF.mp y1
      have hdl := dgE_le (t := t) hs6
      have hcond : ¬ (2 < dgE t (sk t (sk t 0 + 6)) - sk t (sk t 0 + 6) ∨ vF t (sk t (sk t 0 + 6)) (dgE t (sk t (sk t 0 + 6)) - sk t (sk t 0 + 6)) < 1 ∨ 10 < vF t (sk t (sk t 0 + 6)) (dgE t (sk t (sk t 0 + 6)) - sk t (sk t 0 + 6))) := fun q => by omega
      refine (rd45 (d := d) (e := dgE t (sk t (sk t 0 + 6))) (ht.kr k4) y6 y9 hdl).mono ?_
      rintro r5 m5 ⟨hr5, hq5, hK5⟩
      refine ⟨hr5, ?_⟩
      have k5 : Kr mem m5 := k4.tr hK5
      rcases hq5 with ⟨q, z1, z2, z3, z4⟩ | ⟨q, z1, z2, z3, z4, z5⟩
      · refine bad 0 q m5 ?_ z2 z3 k5
        rw [txF, ifP_t hWd, rpF, if_pos hbl, if_pos y2, ifP_f hcond, z1]
      · have hrp : rpF t (sk t 0) = .inr (vF t (sk t (sk t 0 + 6)) (dgE t (sk t (sk t 0 + 6)) - sk t (sk t 0 + 6)), sk t q) := by
          rw [rpF, if_pos hbl, if_pos y2, ifP_f hcond, z1]
        have hR5 : Rd m5 (vF t (sk t (sk t 0 + 6)) (dgE t (sk t (sk t 0 + 6)) - sk t (sk t 0 + 6))) [] := by
          refine ⟨by rw [z5]; exact y7, ?_, by decide, fun i hi => absurd hi (Nat.not_lt_zero _)⟩
          rw [z5, y8 1 (by decide), hK3.1 2 (by decide)]; exact hR2.2.1
        exact loop _ y5 17 0 (sk t q) [] rfl rfl (by decide) GdS.nil (sk_le z2) (fun e he => by rw [txF, ifP_t hWd, hrp]; simp only []; rw [he]) (fun S' he => by rw [txF, ifP_t hWd, hrp]; simp only []; rw [he]) 0 m5 (Or.inl rfl) z3 z4 hR5 k5
  · exact loop 6 (by decide) 17 0 (sk t 0) [] rfl rfl (by decide) GdS.nil hsk (fun e he => by rw [txF, ifP_f hWd, he]) (fun S' he => by rw [txF, ifP_f hWd, he]) 1 m2 (Or.inr hWd) h32 hT2 hR2 k2
end TXR
