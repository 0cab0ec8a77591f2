/-! the reference's constructor, its contract -/
def memM0 : Mem := fun c j => if c = 17 then wF 40 j else 0
def uMo (ad : Nat → Nat) (h0 q0 q1 q2 q3 q4 q5 q6 q7 q8 q9 q10 q11 q12 q13 q14 q15 q16 : Nat) : Nat → Nat := fun k => if k < 18 then ([h0, q0, q1, q2, q3, q4, q5, q6, q7, q8, q9, q10, q11, q12, q13, q14, q15, q16] : List Nat).getD k 0 else ad k
set_option maxHeartbeats 4000000 in
set_option maxRecDepth 100000 in
theorem lay_Mo (cy : Nat → ClassId) (ad : Nat → Nat) (h0 q0 q1 q2 q3 q4 q5 q6 q7 q8 q9 q10 q11 q12 q13 q14 q15 q16 : Nat) : lay cy (uMo ad h0 q0 q1 q2 q3 q4 q5 q6 q7 q8 q9 q10 q11 q12 q13 q14 q15 q16) memM0 shM = [(h0, .inr (10, [.int 0, .ref q0, .ref q1, .ref q2, .int 0, .ref q3, .int 0, .ref q4, .int 0, .int 0, .ref q5, .ref q6, .ref q7, .int 0, .ref q8, .ref q9, .ref q10, .ref q11, .int 0, .int 0, .ref q12, .ref q13, .int 0, .ref q14, .int 0, .ref q15, .int 0, .ref q16, .int 0, .int 0, .int 0, .int 0, .int 0])), (q0, .inl (cy 0, 18, .inl (fun _ => 0))), (q1, .inl (cy 0, 18, .inl (fun _ => 0))), (q2, .inl (cy 0, 216, .inl (fun _ => 0))), (q3, .inl (cy 0, 16, .inl (fun _ => 0))), (q4, .inl (cy 0, 17, .inl (fun _ => 0))), (q5, .inl (cy 2, 1024, .inl (fun _ => 0))), (q6, .inl (cy 2, 65536, .inl (fun _ => 0))), (q7, .inl (cy 0, 16, .inl (fun _ => 0))), (q8, .inl (cy 0, 32, .inl (fun _ => 0))), (q9, .inl (cy 0, 32, .inl (fun _ => 0))), (q10, .inl (cy 0, 32, .inl (fun _ => 0))), (q11, .inl (cy 0, 32, .inl (fun _ => 0))), (q12, .inl (cy 0, 12870, .inl (fun _ => 0))), (q13, .inl (cy 0, 12870, .inl (fun _ => 0))), (q14, .inl (cy 0, 1600, .inl (fun _ => 0))), (q15, .inl (cy 0, 400, .inl (fun _ => 0))), (q16, .inl (cy 1, 40, .inl (wF 40)))] := by rw [lay_eq]; rfl
set_option maxHeartbeats 4000000 in
set_option maxRecDepth 100000 in
theorem app_Mo (cy : Nat → ClassId) (h0 q0 q1 q2 q3 q4 q5 q6 q7 q8 q9 q10 q11 q12 q13 q14 q15 q16 : Nat) : ((h0, .inr (10, (((((((((((((((((([.int 0, .null, .null, .null, .int 0, .null, .int 0, .null, .int 0, .int 0, .null, .null, .null, .int 0, .null, .null, .null, .null, .int 0, .int 0, .null, .null, .int 0, .null, .int 0, .null, .int 0, .null, .int 0, .int 0, .int 0, .int 0, .int 0] : List Value).set 1 (.ref q0)).set 2 (.ref q1)).set 3 (.ref q2)).set 5 (.ref q3)).set 7 (.ref q4)).set 10 (.ref q5)).set 11 (.ref q6)).set 12 (.ref q7)).set 14 (.ref q8)).set 15 (.ref q9)).set 16 (.ref q10)).set 17 (.ref q11)).set 20 (.ref q12)).set 21 (.ref q13)).set 23 (.ref q14)).set 25 (.ref q15)).set 27 (.ref q16)))) :: ((((((((((((((((([] ++ [(q0, .inl (cy 0, 18, .inl (fun _ => 0)))]) ++ [(q1, .inl (cy 0, 18, .inl (fun _ => 0)))]) ++ [(q2, .inl (cy 0, 216, .inl (fun _ => 0)))]) ++ [(q3, .inl (cy 0, 16, .inl (fun _ => 0)))]) ++ [(q4, .inl (cy 0, 17, .inl (fun _ => 0)))]) ++ [(q5, .inl (cy 2, 1024, .inl (fun _ => 0)))]) ++ [(q6, .inl (cy 2, 65536, .inl (fun _ => 0)))]) ++ [(q7, .inl (cy 0, 16, .inl (fun _ => 0)))]) ++ [(q8, .inl (cy 0, 32, .inl (fun _ => 0)))]) ++ [(q9, .inl (cy 0, 32, .inl (fun _ => 0)))]) ++ [(q10, .inl (cy 0, 32, .inl (fun _ => 0)))]) ++ [(q11, .inl (cy 0, 32, .inl (fun _ => 0)))]) ++ [(q12, .inl (cy 0, 12870, .inl (fun _ => 0)))]) ++ [(q13, .inl (cy 0, 12870, .inl (fun _ => 0)))]) ++ [(q14, .inl (cy 0, 1600, .inl (fun _ => 0)))]) ++ [(q15, .inl (cy 0, 400, .inl (fun _ => 0)))]) ++ [(q16, .inl (cy 1, 40, .inl (wF 40)))]) : va_W) = [(h0, .inr (10, [.int 0, .ref q0, .ref q1, .ref q2, .int 0, .ref q3, .int 0, .ref q4, .int 0, .int 0, .ref q5, .ref q6, .ref q7, .int 0, .ref q8, .ref q9, .ref q10, .ref q11, .int 0, .int 0, .ref q12, .ref q13, .int 0, .ref q14, .int 0, .ref q15, .int 0, .ref q16, .int 0, .int 0, .int 0, .int 0, .int 0])), (q0, .inl (cy 0, 18, .inl (fun _ => 0))), (q1, .inl (cy 0, 18, .inl (fun _ => 0))), (q2, .inl (cy 0, 216, .inl (fun _ => 0))), (q3, .inl (cy 0, 16, .inl (fun _ => 0))), (q4, .inl (cy 0, 17, .inl (fun _ => 0))), (q5, .inl (cy 2, 1024, .inl (fun _ => 0))), (q6, .inl (cy 2, 65536, .inl (fun _ => 0))), (q7, .inl (cy 0, 16, .inl (fun _ => 0))), (q8, .inl (cy 0, 32, .inl (fun _ => 0))), (q9, .inl (cy 0, 32, .inl (fun _ => 0))), (q10, .inl (cy 0, 32, .inl (fun _ => 0))), (q11, .inl (cy 0, 32, .inl (fun _ => 0))), (q12, .inl (cy 0, 12870, .inl (fun _ => 0))), (q13, .inl (cy 0, 12870, .inl (fun _ => 0))), (q14, .inl (cy 0, 1600, .inl (fun _ => 0))), (q15, .inl (cy 0, 400, .inl (fun _ => 0))), (q16, .inl (cy 1, 40, .inl (wF 40)))] := rfl
theorem SX.cg {ad ad' : Nat → Nat} {A : Nat → Prop} {U : State} (h : SX ad A U) (he : ∀ k, 1000 ≤ k → ad' k = ad k) : SX ad' A U := by
  unfold SX at h ⊢
  rw [show (fun i => ad' (1000 + i)) = fun i => ad (1000 + i) from funext (fun i => he _ (by omega)), show (fun i => ad' (2000 + i)) = fun i => ad (2000 + i) from funext (fun i => he _ (by omega)), he 3000 (by decide)]
  exact ⟨h.1, fun q hq => by rw [he _ (by omega)]; exact h.2.1 q hq, h.2.2⟩
theorem Cx.cg {ad ad' : Nat → Nat} {cy : Nat → ClassId} {D : va_G} {A : Nat → Prop} {U : State} (h : Cx ad cy D A U) (he : ∀ k, 1000 ≤ k → ad' k = ad k) : Cx ad' cy D A U := ⟨h.1, h.2.1.cg he, h.2.2⟩
theorem s_starts1 {d : Nat} {mem : Mem} : CV shM m_Mo_starts d [.ref 1] mem (fun m' => (m' 1 0 = nI 6 ∧ m' 1 1 = nI 0) ∧ Same mem m' [1]) := by
  refine e_Mo_starts (n0 := 18) rfl ?_
  have key : ∀ f i, i + f = 18 → ∀ m0 : Mem, (∀ j, j < i → m0 1 j = 0) → Same mem m0 [1] → Wp shM m_Mo_starts d 2 [some (.ref 1), some (.int (nI i))] [] m0 (QV (fun m' => (m' 1 0 = nI 6 ∧ m' 1 1 = nI 0) ∧ Same mem m' [1])) := by
    intro f
    induction f with
    | zero =>
      intro i hi m0 hz hS
      have e : i = 18 := by omega
      subst e
      refine b_Mo_starts_2 (n0 := 18) rfl ⟨fun _ => ⟨vp_in_nI (n := 0) (by decide) (by decide), ⟨up2_at, ?_⟩, hS.tr (Same.up (by simp))⟩, fun c => absurd (by decide) c⟩
      rw [up2_nj (by decide), hz 1 (by decide)]
      exact nI_0.symm
    | succ f ih =>
      intro i hi m0 hz hS
      refine b_Mo_starts_2 (n0 := 18) rfl ⟨fun c => absurd c (by rw [show (18 : Int32) = nI 18 from rfl, nI_leI (by decide) (by omega)]; omega), fun _ => ⟨vp_in_nI (by omega) (by decide), ?_⟩⟩
      rw [nI_clamp (by omega), nI_1]
      refine ih (i + 1) (by omega) _ (fun j hj => ?_) (hS.tr (Same.up (by simp)))
      by_cases c : j = i
      · subst c; exact up2_at
      · rw [up2_nj c]; exact hz j (by omega)
  have := key 18 0 rfl mem (fun j hj => absurd hj (Nat.not_lt_zero _)) Same.rf
  rw [nI_0] at this
  exact this
theorem mi_0 {m' : Mem} (h : (m' 1 0 = nI 6 ∧ m' 1 1 = nI 0) ∧ Same memM0 m' [1]) : MI m' 6 [] [] [] := by
  obtain ⟨⟨h1, h2⟩, hS⟩ := h
  refine ⟨⟨h1, h2, by decide, by decide, fun i hi => absurd hi (Nat.not_lt_zero _), fun i => by simp⟩, ⟨by rw [hS 0 (by decide)]; exact nI_0.symm, by decide, fun j hj => absurd hj (Nat.not_lt_zero _)⟩, ⟨by rw [hS 0 (by decide)]; exact nI_0.symm, by decide, fun i hi => absurd hi (Nat.not_lt_zero _), fun i => by simp⟩, fun k hk => ?_⟩
  rw [hS 17 (by decide)]
  exact wF_ok k hk
set_option maxHeartbeats 4000000 in
set_option maxRecDepth 100000 in
theorem c_Mo (l : Launch) (D : va_G) (cy : Nat → ClassId) (ad : Nat → Nat) (h0 sz : Nat) : Met l m_Mo_init.1 (.code m_Mo_init.1 m_Mo_init.2.1 m_Mo_init.2.2.1 m_Mo_init.2.2.2 :: lw_gd) ({ frames := 2, cells := 17, slots := 94769, locals := 200 }) (va_Pc [.ref h0] (fun U => U.heap.size = sz ∧ va_P D vwCl [(h0, .inr (10, [.int 0, .null, .null, .null, .int 0, .null, .int 0, .null, .int 0, .int 0, .null, .null, .null, .int 0, .null, .null, .null, .null, .int 0, .int 0, .null, .null, .int 0, .null, .int 0, .null, .int 0, .null, .int 0, .int 0, .int 0, .int 0, .int 0]))] U.heap ∧ Cx ad cy D (va_A [(h0, .inr (10, [.int 0, .null, .null, .null, .int 0, .null, .int 0, .null, .int 0, .int 0, .null, .null, .null, .int 0, .null, .null, .null, .null, .int 0, .int 0, .null, .null, .int 0, .null, .int 0, .null, .int 0, .null, .int 0, .int 0, .int 0, .int 0, .int 0]))] sz) U ∧ va_D (fun _ => True) [(h0, .inr (10, [.int 0, .null, .null, .null, .int 0, .null, .int 0, .null, .int 0, .int 0, .null, .null, .null, .int 0, .null, .null, .null, .null, .int 0, .int 0, .null, .null, .int 0, .null, .int 0, .null, .int 0, .null, .int 0, .int 0, .int 0, .int 0, .int 0]))])) (va_Qv (fun u : Nat → Nat => u 0 = h0 ∧ ∀ k, 18 ≤ k → u k = ad k) (fun u t => ∃ mem, MI mem 6 [] [] [] ∧ va_P D vwCl (lay cy u mem shM) t.heap ∧ va_D (va_A [(h0, .inr (10, [.int 0, .null, .null, .null, .int 0, .null, .int 0, .null, .int 0, .int 0, .null, .null, .null, .int 0, .null, .null, .null, .null, .int 0, .int 0, .null, .null, .int 0, .null, .int 0, .null, .int 0, .null, .int 0, .int 0, .int 0, .int 0, .int 0]))] sz) (lay cy u mem shM)) (va_A [(h0, .inr (10, [.int 0, .null, .null, .null, .int 0, .null, .int 0, .null, .int 0, .int 0, .null, .null, .null, .int 0, .null, .null, .null, .null, .int 0, .int 0, .null, .null, .int 0, .null, .int 0, .null, .int 0, .null, .int 0, .int 0, .int 0, .int 0, .int 0]))] sz)) 17 94769 (va_A [(h0, .inr (10, [.int 0, .null, .null, .null, .int 0, .null, .int 0, .null, .int 0, .int 0, .null, .null, .null, .int 0, .null, .null, .null, .null, .int 0, .int 0, .null, .null, .int 0, .null, .int 0, .null, .int 0, .null, .int 0, .int 0, .int 0, .int 0, .int 0]))] sz) := by
  refine Met.ofW (cc := m_Mo_init.2.1) (maxL := m_Mo_init.2.2.1) (ret := m_Mo_init.2.2.2) ok_Mo_init.1 rfl ?_
  intro p e s m args below meth c s₁ B hml hv
  obtain ⟨rfl, hsz, hP, hC, hD0⟩ := hv
  have hx := B.exec
  have hb := B.bytes
  have hr := B.returns
  have hts0 := atoms_spec (ws := .code m_Mo_init.1 m_Mo_init.2.1 m_Mo_init.2.2.1 m_Mo_init.2.2.2 :: lw_gd) B.pre
  have hts : ∀ w ∈ lw_gd, w.before _ s = true := fun w hw => hts0 w (List.mem_cons_of_mem _ hw)
  have hown : s.vm.findClass R_Mo = some m.cls := findClass_of_methodNamed B.named
  have hlocks := B.notSynchronized
  have hin : meth.name = "<init>" := (name_of_methodNamed B.named B.method).1
  subst hsz
  have hD := hD0.self (sz := s.heap.size)
  generalize hAe : va_A [(h0, .inr (10, [.int 0, .null, .null, .null, .int 0, .null, .int 0, .null, .int 0, .int 0, .null, .null, .null, .int 0, .null, .null, .null, .null, .int 0, .int 0, .null, .null, .int 0, .null, .int 0, .null, .int 0, .null, .int 0, .int 0, .int 0, .int 0, .int 0]))] s.heap.size = A at hD hC ⊢
  have hA : ∀ q : Nat, s.heap.size ≤ q → A q := fun q h => by rw [← hAe]; exact Or.inr h
  have hS : va_S A s.heap s.heap [] := va_S.rf
  have hKN : KN D cy s := ⟨hC.1, hC.2.2⟩
  have hl := lv_entry ([.ref h0]) (n := 1) (Nat.le_of_ble_eq_true rfl)
  rw [lg_entry_eq]
  generalize (lg_sl ([.ref h0]) ++ List.replicate (1 - (lg_sl ([.ref h0])).length) Slot.unset).toArray = ls at hl ⊢
  have hl : lv_has ls 1 [(0, .ref h0)] := hl
  have C : MOC p s m meth c A #[.ref h0] ls D cy h0 := ⟨hx, hb, hml, hown, hts, hin, hKN, hA, hl⟩
  refine lv_aload_n hx hb (dc kd_Mo_init 0 rfl) rfl (lv_at hl 0 rfl) ?_
  refine W.objInit (own := R_Mo) hx hb hown (hts _ (gd (List.mem_of_getElem? (i := 994) (by decide +kernel)) rfl)) (hts _ (gd (List.mem_of_getElem? (i := 96) (by decide +kernel)) rfl)) (hts _ (gd (List.mem_of_getElem? (i := 97) (by decide +kernel)) rfl)) rfl (by rw [hml]; exact hl.1) rfl (dc kd_Mo_init 1 rfl) (Nat.le_of_ble_eq_true rfl) (Nat.le_of_ble_eq_true rfl) ?_
  refine W.eq (g2 := F0 m 4 ls []) rfl ?_
  refine mo_0 C (by simp) hP hD hS (fun q0 H locs hP hD hS => ?_)
  refine mo_1 C (by simp) hP hD hS (fun q1 H locs hP hD hS => ?_)
  refine mo_2 C (by simp) hP hD hS (fun q2 H locs hP hD hS => ?_)
  refine mo_3 C (by simp) hP hD hS (fun q3 H locs hP hD hS => ?_)
  refine mo_4 C (by simp) hP hD hS (fun q4 H locs hP hD hS => ?_)
  refine mo_5 C (by simp) hP hD hS (fun q5 H locs hP hD hS => ?_)
  refine mo_6 C (by simp) hP hD hS (fun q6 H locs hP hD hS => ?_)
  refine mo_7 C (by simp) hP hD hS (fun q7 H locs hP hD hS => ?_)
  refine mo_8 C (by simp) hP hD hS (fun q8 H locs hP hD hS => ?_)
  refine mo_9 C (by simp) hP hD hS (fun q9 H locs hP hD hS => ?_)
  refine mo_10 C (by simp) hP hD hS (fun q10 H locs hP hD hS => ?_)
  refine mo_11 C (by simp) hP hD hS (fun q11 H locs hP hD hS => ?_)
  refine mo_12 C (by simp) hP hD hS (fun q12 H locs hP hD hS => ?_)
  refine mo_13 C (by simp) hP hD hS (fun q13 H locs hP hD hS => ?_)
  refine mo_14 C (by simp) hP hD hS (fun q14 H locs hP hD hS => ?_)
  refine mo_15 C (by simp) hP hD hS (fun q15 H locs hP hD hS => ?_)
  refine mo_16 C (by simp) hP hD hS (fun q16 H locs hP hD hS => ?_)
  refine mo_w0 C hP hD hS (fun H locs hP hD hS => ?_)
  refine mo_w1 C hP hD hS (fun H locs hP hD hS => ?_)
  refine mo_w2 C hP hD hS (fun H locs hP hD hS => ?_)
  refine mo_w3 C hP hD hS (fun H locs hP hD hS => ?_)
  refine mo_17 C (by simp) hP hD hS (fun H locs hP hD hS => ?_)
  have hP : va_P D vwCl (lay cy (uMo ad h0 q0 q1 q2 q3 q4 q5 q6 q7 q8 q9 q10 q11 q12 q13 q14 q15 q16) memM0 shM) H := by rw [lay_Mo, ← app_Mo]; exact hP
  have hD : va_D A (lay cy (uMo ad h0 q0 q1 q2 q3 q4 q5 q6 q7 q8 q9 q10 q11 q12 q13 q14 q15 q16) memM0 shM) := by rw [lay_Mo, ← app_Mo]; exact hD
  have hu : ∀ k, 18 ≤ k → uMo ad h0 q0 q1 q2 q3 q4 q5 q6 q7 q8 q9 q10 q11 q12 q13 q14 q15 q16 k = ad k := fun k hk => if_neg (by omega)
  have hu0 : uMo ad h0 q0 q1 q2 q3 q4 q5 q6 q7 q8 q9 q10 q11 q12 q13 q14 q15 q16 0 = h0 := rfl
  have hu1 : uMo ad h0 q0 q1 q2 q3 q4 q5 q6 q7 q8 q9 q10 q11 q12 q13 q14 q15 q16 1 = q0 := rfl
  generalize uMo ad h0 q0 q1 q2 q3 q4 q5 q6 q7 q8 q9 q10 q11 q12 q13 q14 q15 q16 = u at hP hD hu hu0 hu1
  refine lv_aload_n hx hb (dc kd_Mo_init 230 rfl) rfl (lv_at hl 0 rfl) ?_
  have hg0 : (lay cy u memM0 shM)[0]? = some (h0, .inr (10, fldV u (memM0 0) 0 [none, some 1, some 2, some 3, none, some 4, none, some 5, none, none, some 6, some 7, some 8, none, some 9, some 10, some 11, some 12, none, none, some 13, some 14, none, some 15, none, some 16, none, some 17, none, none, none, none, none])) := by
    rw [lay_get (k := 0) (s := .inr (10, [none, some 1, some 2, some 3, none, some 4, none, some 5, none, none, some 6, some 7, some 8, none, some 9, some 10, some 11, some 12, none, none, some 13, some 14, none, some 15, none, some 16, none, some 17, none, none, none, none, none])) rfl, hu0]; rfl
  refine va_get (D := D) (ci := 10) (v := .ref (u 1)) (own := R_Mo) (C := R_Mo) (T := T_Mo) (N := 33) hx hb hts ck_Mo.good hown hKN.1 hP 0 hg0 rfl 1 (by decide) (hts _ (gd (List.mem_of_getElem? (i := 999) (by decide +kernel)) rfl)) (fun _ h9 => h9) rfl (dc kd_Mo_init 231 rfl) ?_
  have hCu : Cx u cy D A s := hC.cg (fun k hk => hu k (by omega))
  have hM := ms_Mo_68
  obtain ⟨hM1, hk1, hk2⟩ := hM
  have run : va_Run p l e ({ frames := 2, cells := 17, slots := 94769, locals := 200 } : Room) s m #[Value.ref h0] below meth c H locs 17 94769 0 0 (F0 m 377 ls [.ref (u 1)]) [] (QcP shM u cy D A (fun r m' => r = none ∧ ((m' 1 0 = nI 6 ∧ m' 1 1 = nI 0) ∧ Same memM0 m' [1])) [Value.ref (u 1)].toArray) A := by
    refine va_runS (As := [.ref (u 1)]) (n := 1) (bytes := m_Mo_starts.2.1) (maxL := m_Mo_starts.2.2.1) (ret := m_Mo_starts.2.2.2) ⟨hx, hb, hml, hown, hts⟩ (s_starts1 (d := 0) (mem := memM0) l u cy D A) ⟨callB_of 1 hts (tbl_in m_Mo_starts 1 hM1) rfl rfl rfl (hts _ (gd hM1.2.2.1 rfl)) (hts _ (gd hk1 rfl)) hM1.2.2.2.1 ⟨Nat.le_of_ble_eq_true rfl, Nat.le_of_ble_eq_true rfl⟩, hts _ (gd hk2 rfl)⟩ ⟨?_, ?_⟩ rfl rfl hl.1 rfl (lv_room (Nat.le_of_ble_eq_true rfl)) (dc kd_Mo_init 232 rfl) ⟨Nat.le_of_ble_eq_true rfl, Nat.le_of_ble_eq_true rfl⟩
    · rintro a U g mk ⟨z0, z1, z2, z3⟩
      exact ⟨z0, z1, z2.blind g mk a, z3⟩
    · intro U hU hW
      exact ⟨rfl, by rw [hU]; exact hP, hCu.warm hW (fun a h1 h2 => by rw [hU]; exact hS.2.1 a h1 h2), hD⟩
  intro T hT X
  obtain ⟨v, st₀, t, T', L, h0', X', hL, e1, e2, ⟨r, m', hv, ⟨hr0, hK⟩, hP', hD', hF⟩, stp⟩ := run T hT X
  subst hr0
  have hv' : v = none := by injection hv
  subst hv'
  have hS' : va_S A s.heap T'.heap (locs ++ L) := by
    rw [e1]
    obtain ⟨f1, f2⟩ := hF
    rw [h0'] at f1 f2
    refine ⟨Nat.le_trans hS.1 f1, fun q h1 h2 => ?_, fun q hq => ?_⟩
    · rw [f2 q (Nat.lt_of_lt_of_le h1 hS.1) h2]
      exact hS.2.1 q h1 h2
    · rcases List.mem_append.mp hq with h | h
      · exact hS.2.2 q h
      · exact hL q h
  have hPt : va_P D vwCl (lay cy u m' shM) T'.heap := by rw [e1]; exact hP'
  have fin : W p l e ({ frames := 2, cells := 17, slots := 94769, locals := 200 } : Room) s m #[Value.ref h0] below meth c T'.heap (locs ++ L) 17 94769 (MQ below (va_Qv (fun u : Nat → Nat => u 0 = h0 ∧ ∀ k, 18 ≤ k → u k = ad k) (fun u t => ∃ mem, MI mem 6 [] [] [] ∧ va_P D vwCl (lay cy u mem shM) t.heap ∧ va_D A (lay cy u mem shM)) A) #[Value.ref h0] s 17 94769 A) (F0 m 380 ls []) := W.vret hx hb hr (fun t ht hW => ⟨⟨u, rfl, ⟨hu0, hu⟩, m', mi_0 hK, by rw [ht]; exact hPt, hD'⟩, hS'.F ht⟩) hS'.2.2 (dc kd_Mo_init 233 rfl)
  obtain ⟨t2, a1, b1⟩ := fin T' rfl X'
  exact ⟨t2, stp t2 a1, b1⟩
