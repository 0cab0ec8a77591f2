/-! what the acts keep: a family is good -/
def GdL (n : Nat) (S : List Nat) : Prop := S.length ≤ 16 ∧ S.Nodup ∧ ∀ x, x ∈ S → x ≠ 0 ∧ x < 2 ^ n
theorem gd_get {S : List Nat} {i : Nat} (h : i < S.length) : S.getD i 0 = S[i] := by
  rw [List.getD_eq_getElem?_getD, List.getElem?_eq_getElem h]; rfl
theorem gd_iff {n : Nat} {S : List Nat} : GdS n S ↔ GdL n S := by
  constructor
  · rintro ⟨h1, h2, h3, h4⟩
    refine ⟨h1, ?_, fun x hx => ?_⟩
    · rw [List.Nodup, List.pairwise_iff_getElem]
      intro i j hi hj hij
      have := h2 i j hij hj
      rw [gd_get hi, gd_get hj] at this
      exact this
    · obtain ⟨i, hi, e⟩ := List.getElem_of_mem hx
      have e2 := gd_get hi
      rw [e] at e2
      exact ⟨by rw [← e2]; exact h3 i hi, by rw [← e2]; exact h4 i⟩
  · rintro ⟨h1, h2, h3⟩
    refine ⟨h1, fun i j hij hj => ?_, fun i hi => ?_, fun i => ?_⟩
    · rw [List.Nodup, List.pairwise_iff_getElem] at h2
      rw [gd_get hj, gd_get (show i < S.length by omega)]
      exact h2 i j (by omega) hj hij
    · exact (h3 _ (getD_mem hi)).1
    · by_cases hi : i < S.length
      · exact (h3 _ (getD_mem hi)).2
      · rw [List.getD_eq_getElem?_getD, List.getElem?_eq_none (by omega)]
        exact Nat.two_pow_pos n
theorem nodup_app {S : List Nat} {x : Nat} (h : S.Nodup) (hx : x ∉ S) : (S ++ [x]).Nodup := by
  rw [List.nodup_append]
  refine ⟨h, List.pairwise_singleton _ x, fun a ha b hb => ?_⟩
  rw [List.mem_singleton] at hb
  subst hb
  exact fun e => hx (e ▸ ha)
theorem sel_good {S : List Nat} {p : Nat → Bool} (hd : ∀ i j, i < j → j < S.length → S.getD i 0 ≠ S.getD j 0) : ∀ m, m ≤ S.length → (sel (fun i => S.getD i 0) p m).Nodup ∧ ∀ x, x ∈ sel (fun i => S.getD i 0) p m → ∃ i, i < m ∧ x = S.getD i 0
  | 0, _ => ⟨by simp [sel], fun x hx => by simp [sel] at hx⟩
  | m + 1, hm => by
    obtain ⟨h1, h2⟩ := sel_good hd m (by omega)
    rw [sel_succ]
    split
    · refine ⟨nodup_app h1 (fun hx => ?_), fun x hx => ?_⟩
      · obtain ⟨i, hi, e⟩ := h2 _ hx
        exact hd i m hi (by omega) e.symm
      · rcases List.mem_append.mp hx with hx | hx
        · obtain ⟨i, hi, e⟩ := h2 x hx
          exact ⟨i, by omega, e⟩
        · rw [List.mem_singleton] at hx
          exact ⟨m, by omega, hx⟩
    · refine ⟨h1, fun x hx => ?_⟩
      obtain ⟨i, hi, e⟩ := h2 x hx
      exact ⟨i, by omega, e⟩
theorem GdS.sel {n : Nat} {S : List Nat} (h : GdS n S) (p : Nat → Bool) : GdS n (sel (fun i => S.getD i 0) p S.length) := by
  obtain ⟨h1, h2⟩ := sel_good (p := p) h.2.1 S.length (Nat.le_refl _)
  refine gd_iff.mpr ⟨Nat.le_trans (sel_len _ _ _) h.1, h1, fun x hx => ?_⟩
  obtain ⟨i, hi, rfl⟩ := h2 x hx
  exact ⟨h.2.2.1 i hi, h.2.2.2 i⟩
theorem GdS.adn {n x : Nat} {S : List Nat} (h : GdS n S) (hl : S.length < 16) (hx : x < 2 ^ n) : GdS n (addNew S x) := by
  unfold addNew
  by_cases c : x = 0 ∨ x ∈ S
  · rw [if_pos c]; exact h
  · rw [if_neg c]; exact h.app hl hx (fun e => c (Or.inl e)) (fun e => c (Or.inr e))
theorem naT_good {n : Nat} {f : Nat → Nat} {S : List Nat} (hS : S.length ≤ 16) (hf : ∀ i, f (S.getD i 0) < 2 ^ n) : ∀ i, i ≤ S.length → GdS n (naT f S i)
  | 0, _ => GdS.nil
  | i + 1, hi => by
    have := naT_len f S i
    rw [naT]
    exact (naT_good hS hf i (by omega)).adn (by omega) (hf i)
theorem map_good {n : Nat} {f : Nat → Nat} {S : List Nat} (h : GdS n S) (hf : ∀ x, x < 2 ^ n → f x < 2 ^ n) (hi : ∀ x y, x < 2 ^ n → y < 2 ^ n → f x = f y → x = y) (h0 : f 0 = 0) : GdS n (S.map f) := by
  obtain ⟨h1, h2, h3⟩ := gd_iff.mp h
  refine gd_iff.mpr ⟨by rw [List.length_map]; exact h1, ?_, fun x hx => ?_⟩
  · rw [List.Nodup, List.pairwise_map]
    refine List.Pairwise.imp_of_mem (fun {a b} ha hb hab e => ?_) h2
    exact hab (hi a b (h3 a ha).2 (h3 b hb).2 e)
  · obtain ⟨y, hy, rfl⟩ := List.mem_map.mp hx
    obtain ⟨y1, y2⟩ := h3 y hy
    exact ⟨fun e => y1 (hi y 0 y2 (Nat.two_pow_pos n) (by rw [e, h0])), hf y y2⟩
theorem set_good {n i x : Nat} {S : List Nat} (h : GdS n S) (hx : x < 2 ^ n) (h0 : x ≠ 0) (hm : x ∉ S) : GdS n (S.set i x) := by
  obtain ⟨h1, h2, h3⟩ := gd_iff.mp h
  refine gd_iff.mpr ⟨by rw [List.length_set]; exact h1, ?_, fun y hy => ?_⟩
  · rw [List.Nodup, List.pairwise_iff_getElem] at h2 ⊢
    intro a b ha hb hab
    rw [List.length_set] at ha hb
    rw [List.getElem_set, List.getElem_set]
    by_cases ea : i = a
    · rw [if_pos ea, if_neg (by omega)]
      intro e
      exact hm (e ▸ List.getElem_mem hb)
    · rw [if_neg ea]
      by_cases eb : i = b
      · rw [if_pos eb]
        intro e
        exact hm (e ▸ List.getElem_mem ha)
      · rw [if_neg eb]
        exact h2 a b ha hb hab
  · rcases List.mem_or_eq_of_mem_set hy with q | q
    · exact h3 y q
    · rw [q]; exact ⟨h0, hx⟩
theorem ksp_gd {n b : Nat} {L : List Nat} {q : KSt × List Nat} (hb : 1 ≤ b) (hn : n ≤ 10) (h : GdS n L) (hk : ksp b L = some q) : GdS n q.2 := by
  have hs : ∀ i, L.getD i 0 < 1024 := fun i => Nat.lt_of_lt_of_le (h.2.2.2 i) (Nat.pow_le_pow_right (by decide) hn : 2 ^ n ≤ 2 ^ 10)
  have hl := ksp_len hb (Nat.le_trans h.1 (by decide)) hk
  have h16 := h.1
  unfold ksp at hk
  split at hk
  · split at hk
    · cases hk
    · rename_i hfl
      split at hk
      · cases hk
      · obtain ⟨c, c1, c2, c3⟩ := kco_ex hb (by omega) hs hfl
        cases hk
        simp only [] at hl ⊢
        have hcn : c < 2 ^ n := by
          obtain ⟨x, y, q1, q2, q3⟩ := c3.1
          rw [← c3.2 x y q1 q2 q3]
          exact Nat.lt_of_le_of_lt Nat.and_le_left (h.2.2.2 x)
        unfold kfl at hl ⊢
        rw [c1, nI_clamp (by omega)] at hl ⊢
        have hg := h.sel (fun j => !((flI b L).toNatClampNeg).testBit j)
        unfold addNew at hl ⊢
        split at hl
        · rename_i z; rw [if_pos z]; exact hg
        · rename_i z
          rw [if_neg z]
          rw [List.length_append] at hl
          simp only [List.length_cons, List.length_nil] at hl
          exact hg.app (by omega) hcn (fun e => z (Or.inl e)) (fun e => z (Or.inr e))
  · cases hk
    exact h.sel _
theorem kerF_gd {n b : Nat} (hb : 1 ≤ b) (hn : n ≤ 10) : ∀ f (L : List Nat), GdS n L → GdS n (kerF b f L).2.1
  | 0, L, h => h
  | f + 1, L, h => by
    rw [kerF]
    split
    · exact h
    · rename_i q hq
      exact kerF_gd hb hn f q.2 (ksp_gd hb hn h hq)
def Good (n : Nat) (S : List Nat) (H : List (List Nat)) : Prop := 1 ≤ n ∧ n ≤ 10 ∧ GdS n S ∧ ∀ L, L ∈ H → GdS n L
theorem good_act {n : Nat} {S : List Nat} {H : List (List Nat)} {o : Option (List Nat)} (h : Good n S H) (ho : ∀ T, o = some T → GdS n T) : Good n (nS S o) (nH H S o) := by
  obtain ⟨h1, h2, h3, h4⟩ := h
  cases o with
  | none => exact ⟨h1, h2, h3, h4⟩
  | some T =>
    refine ⟨h1, h2, ho T rfl, fun L hL => ?_⟩
    have := List.mem_of_mem_take hL
    rcases List.mem_cons.mp this with e | e
    · rw [e]; exact h3
    · exact h4 L e
theorem ifP_some {α : Type} {p : Prop} {a b : α} (h : ifP p (some a) none = some b) : p ∧ a = b := by
  by_cases c : p
  · rw [ifP_t c] at h; cases h; exact ⟨c, rfl⟩
  · rw [ifP_f c] at h; cases h
section GDA
variable {n : Nat} {S : List Nat} {H : List (List Nat)} {a b : Int32}
theorem good_add (h : Good n S H) : Good n (nS S (oAdd n S a)) (nH H S (oAdd n S a)) := by
  refine good_act h (fun T hT => ?_)
  obtain ⟨⟨c1, c2, c3⟩, e⟩ := ifP_some hT
  obtain ⟨x, x1, x2, x3, rfl⟩ := set_len h.2.1 c1
  rw [nI_clamp (by omega)] at c2 e
  rw [← e]
  exact h.2.2.1.app c3 x2 (by omega) c2
theorem good_drop (h : Good n S H) : Good n (nS S (oDrop S a)) (nH H S (oDrop S a)) := by
  refine good_act h (fun T hT => ?_)
  obtain ⟨_, e⟩ := ifP_some hT
  rw [← e]; exact h.2.2.1.sel _
theorem good_change (h : Good n S H) : Good n (nS S (oChange n S a b)) (nH H S (oChange n S a b)) := by
  refine good_act h (fun T hT => ?_)
  obtain ⟨⟨_, c1, c2⟩, e⟩ := ifP_some hT
  obtain ⟨x, x1, x2, x3, rfl⟩ := set_len h.2.1 c1
  rw [nI_clamp (by omega)] at c2 e
  rw [← e]
  exact set_good h.2.2.1 x2 (by omega) c2
theorem good_sel {c : Prop} {p : Nat → Bool} (h : Good n S H) : Good n (nS S (oSel c p S)) (nH H S (oSel c p S)) := by
  refine good_act h (fun T hT => ?_)
  obtain ⟨_, e⟩ := ifP_some hT
  rw [← e]; exact h.2.2.1.sel _
theorem good_swap (h : Good n S H) : Good n (nS S (oMove (cSwap n a b) (swF a.toNatClampNeg b.toNatClampNeg) S)) (nH H S (oMove (cSwap n a b) (swF a.toNatClampNeg b.toNatClampNeg) S)) := by
  refine good_act h (fun T hT => ?_)
  obtain ⟨⟨⟨c1, c2, _⟩, _⟩, e⟩ := ifP_some hT
  obtain ⟨p, p1, rfl⟩ := pt_ex h.2.1 c1
  obtain ⟨q, q1, rfl⟩ := pt_ex h.2.1 c2
  have := h.2.1
  rw [nI_clamp (by omega), nI_clamp (by omega)] at e
  rw [← e]
  exact map_good h.2.2.1 (fun x hx => swF_lt hx p1 q1) (fun x y _ _ e => by rw [← swF_inv (p := p) (q := q) (x := x), e, swF_inv]) swF_0
theorem good_turn (h : Good n S H) : Good n (nS S (oMove True (tnF n) S)) (nH H S (oMove True (tnF n) S)) := by
  refine good_act h (fun T hT => ?_)
  obtain ⟨_, e⟩ := ifP_some hT
  rw [← e]
  exact map_good h.2.2.1 (fun x hx => tnF_lt h.1 hx) (fun x y hx hy e => tnF_inj h.1 hx hy e) tnF_0
theorem good_new {c : Prop} {f : Nat → Nat} (h : Good n S H) (hf : c → ∀ x, x < 2 ^ n → f x < 2 ^ n) : Good n (nS S (oNew c f S)) (nH H S (oNew c f S)) := by
  refine good_act h (fun T hT => ?_)
  obtain ⟨hc, e⟩ := ifP_some hT
  rw [← e]
  exact naT_good h.2.2.1.1 (fun i => hf hc _ (h.2.2.1.2.2.2 i)) _ (Nat.le_refl _)
theorem good_without (h : Good n S H) : Good n (nS S (oNew (cWithout n S a) (fun x => dif x (2 ^ a.toNatClampNeg)) S)) (nH H S (oNew (cWithout n S a) (fun x => dif x (2 ^ a.toNatClampNeg)) S)) := good_new h (fun _ x hx => dif_lt hx)
theorem good_join (h : Good n S H) : Good n (nS S (oNew (cJoin n S a b) (jnF a.toNatClampNeg b.toNatClampNeg) S)) (nH H S (oNew (cJoin n S a b) (jnF a.toNatClampNeg b.toNatClampNeg) S)) := good_new h (fun hc x hx => by
  obtain ⟨p, p1, hp⟩ := pt_ex h.2.1 hc.1
  have := h.2.1
  rw [hp, nI_clamp (by omega), jnF]
  split
  · exact Nat.or_lt_two_pow (dif_lt hx) (Nat.pow_lt_pow_right (by decide) p1)
  · exact hx)
theorem good_flip (h : Good n S H) : Good n (nS S (oNew (S.length ≠ 0) (fun x => dif (2 ^ n - 1) x) S)) (nH H S (oNew (S.length ≠ 0) (fun x => dif (2 ^ n - 1) x) S)) := good_new h (fun _ x hx => dif_lt (by have := Nat.two_pow_pos n; omega))
theorem good_reduce (h : Good n S H) : Good n (nS S (oReduce S a)) (nH H S (oReduce S a)) := by
  refine good_act h (fun T hT => ?_)
  obtain ⟨⟨⟨c1, c2⟩, _⟩, e⟩ := ifP_some hT
  obtain ⟨j, hj, rfl⟩ := nI_of (x := a) (by rw [Int32.not_lt]; exact Int32.le_trans (by decide) c1)
  rw [nI_clamp hj] at e
  rw [← e]
  exact kerF_gd ((nI_leI (a := 1) (by decide) hj).mp c1) h.2.1 16 S h.2.2.1
theorem good_undo (h : Good n S H) : Good n (uS S H) H.tail := by
  obtain ⟨h1, h2, h3, h4⟩ := h
  cases H with
  | nil => exact ⟨h1, h2, h3, fun L hL => absurd hL List.not_mem_nil⟩
  | cons T H => exact ⟨h1, h2, h4 T List.mem_cons_self, fun L hL => h4 L (List.mem_cons_of_mem _ hL)⟩
theorem good_text {t : List Nat} (h : Good n S H) : Good (tN t n) (tS t S) (tH t H) := by
  unfold tN tS tH
  split
  · exact h
  · rename_i q hq
    have key : 1 ≤ q.1 ∧ q.1 ≤ 10 ∧ GdS q.1 q.2 := by
      rw [txF] at hq
      by_cases c : WdP t wPts (sk t 0)
      · rw [ifP_t c] at hq
        split at hq
        · cases hq
        · rename_i r hr
          split at hq
          · cases hq
          · rename_i S' hS'
            cases hq
            have hv : 1 ≤ r.1 ∧ r.1 ≤ 10 := by
              rw [rpF] at hr
              split at hr
              · split at hr
                · by_cases c2 : (2 < dgE t (sk t (sk t 0 + 6)) - sk t (sk t 0 + 6) ∨ vF t (sk t (sk t 0 + 6)) (dgE t (sk t (sk t 0 + 6)) - sk t (sk t 0 + 6)) < 1 ∨ 10 < vF t (sk t (sk t 0 + 6)) (dgE t (sk t (sk t 0 + 6)) - sk t (sk t 0 + 6)))
                  · rw [ifP_t c2] at hr; cases hr
                  · rw [ifP_f c2] at hr
                    split at hr
                    · cases hr
                    · cases hr
                      simp only []
                      omega
                · cases hr
              · cases hr
            exact ⟨hv.1, hv.2, psF_ok 17 r.2 [] S' GdS.nil hS'⟩
      · rw [ifP_f c] at hq
        split at hq
        · cases hq
        · rename_i S' hS'
          cases hq
          exact ⟨(show 1 ≤ 6 by decide), (show 6 ≤ 10 by decide), psF_ok 17 (sk t 0) [] S' GdS.nil hS'⟩
    exact ⟨key.1, key.2.1, key.2.2, fun L hL => absurd hL List.not_mem_nil⟩
end GDA
