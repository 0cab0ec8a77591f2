/-! the two worlds: the class and what it holds; the reference and what it holds -/
def shX : List Sh := [.inr (9, [some 1, some 3, some 5, some 8, some 10, some 11, some 14, some 15, some 18, some 27]), .inr (1, [some 2, none, none]), .inl (0, 17), .inr (1, [some 4, none, none]), .inl (0, 17), .inr (2, [some 6, some 7, none, none]), .inl (0, 12), .inl (0, 192), .inr (6, [some 9, none]), .inl (1, 400), .inr (5, [none]), .inr (8, [some 12, some 13, none, none, none, none, none, none]), .inl (0, 10), .inl (0, 1024), .inr (0, [none, none]), .inr (7, [some 16, some 17, none]), .inl (0, 17), .inl (0, 256), .inr (3, [some 19, some 21, some 23, some 24, some 25, some 26, none, none, none]), .inr (1, [some 20, none, none]), .inl (0, 17), .inr (1, [some 22, none, none]), .inl (0, 17), .inl (0, 16), .inl (0, 16), .inl (0, 16), .inl (0, 16), .inr (4, [some 28, none]), .inl (1, 512)]
def shM : List Sh := [.inr (10, [none, some 1, some 2, some 3, none, some 4, none, some 5, none, none, some 6, some 7, some 8, none, some 9, some 10, some 11, some 12, none, none, some 13, some 14, none, some 15, none, some 16, none, some 17, none, none, none, none, none]), .inl (0, 18), .inl (0, 18), .inl (0, 216), .inl (0, 16), .inl (0, 17), .inl (2, 1024), .inl (2, 65536), .inl (0, 16), .inl (0, 32), .inl (0, 32), .inl (0, 32), .inl (0, 32), .inl (0, 12870), .inl (0, 12870), .inl (0, 1600), .inl (0, 400), .inl (1, 40)]
def IsF (f : Nat) : Prop := shX[f]? = some (.inr (1, [some (f + 1), none, none])) ∧ shX[f + 1]? = some (.inl (0, 17))
theorem isF_1 : IsF 1 := ⟨rfl, rfl⟩
theorem isF_3 : IsF 3 := ⟨rfl, rfl⟩
theorem isF_19 : IsF 19 := ⟨rfl, rfl⟩
theorem isF_21 : IsF 21 := ⟨rfl, rfl⟩
theorem dc {l : List (Nat × Instr × Nat)} {b : ByteArray} (h : ∀ q ∈ l, decode b q.1 = .ok q.2) (k : Nat) {pc : Nat} {i : Instr} {n : Nat} (hk : l[k]? = some (pc, i, n)) : decode b pc = .ok (i, n) := h (pc, i, n) (List.mem_of_getElem? hk)
theorem bp_10 : (Int8.ofInt 10).toInt32 = 10 := by decide
theorem bp_100 : (Int8.ofInt 100).toInt32 = 100 := by decide
theorem bp_11 : (Int8.ofInt 11).toInt32 = 11 := by decide
theorem bp_12 : (Int8.ofInt 12).toInt32 = 12 := by decide
theorem bp_122 : (Int8.ofInt 122).toInt32 = 122 := by decide
theorem bp_16 : (Int8.ofInt 16).toInt32 = 16 := by decide
theorem bp_18 : (Int8.ofInt 18).toInt32 = 18 := by decide
theorem bp_20 : (Int8.ofInt 20).toInt32 = 20 := by decide
theorem bp_24 : (Int8.ofInt 24).toInt32 = 24 := by decide
theorem bp_32 : (Int8.ofInt 32).toInt32 = 32 := by decide
theorem bp_48 : (Int8.ofInt 48).toInt32 = 48 := by decide
theorem bp_57 : (Int8.ofInt 57).toInt32 = 57 := by decide
theorem bp_59 : (Int8.ofInt 59).toInt32 = 59 := by decide
theorem bp_6 : (Int8.ofInt 6).toInt32 = 6 := by decide
theorem bp_63 : (Int8.ofInt 63).toInt32 = 63 := by decide
theorem bp_8 : (Int8.ofInt 8).toInt32 = 8 := by decide
theorem bp_9 : (Int8.ofInt 9).toInt32 = 9 := by decide
theorem bp_97 : (Int8.ofInt 97).toInt32 = 97 := by decide
theorem bp_m100 : (Int8.ofInt (-100)).toInt32 = (-100) := by decide
theorem bp_m2 : (Int8.ofInt (-2)).toInt32 = (-2) := by decide
theorem bp_m4 : (Int8.ofInt (-4)).toInt32 = (-4) := by decide
theorem ic_0 : Int32.ofInt 0 = 0 := by decide
theorem ic_1 : Int32.ofInt 1 = 1 := by decide
theorem ic_2 : Int32.ofInt 2 = 2 := by decide
theorem ic_3 : Int32.ofInt 3 = 3 := by decide
theorem ic_4 : Int32.ofInt 4 = 4 := by decide
theorem ic_5 : Int32.ofInt 5 = 5 := by decide
theorem ic_m1 : Int32.ofInt (-1) = (-1) := by decide
theorem ii_1 (x : Int32) : x + Int32.ofInt 1 = x + 1 := by rw [show Int32.ofInt 1 = 1 by decide]
theorem ii_16 (x : Int32) : x + Int32.ofInt 16 = x + 16 := by rw [show Int32.ofInt 16 = 16 by decide]
theorem ii_2 (x : Int32) : x + Int32.ofInt 2 = x + 2 := by rw [show Int32.ofInt 2 = 2 by decide]
theorem ii_4 (x : Int32) : x + Int32.ofInt 4 = x + 4 := by rw [show Int32.ofInt 4 = 4 by decide]
theorem ii_8 (x : Int32) : x + Int32.ofInt 8 = x + 8 := by rw [show Int32.ofInt 8 = 8 by decide]
theorem ii_m1 (x : Int32) : x + Int32.ofInt (-1) = x + (-1) := by rw [show Int32.ofInt (-1) = (-1) by decide]
theorem ii_m8 (x : Int32) : x + Int32.ofInt (-8) = x + (-8) := by rw [show Int32.ofInt (-8) = (-8) by decide]
theorem sp_1024 : (Int16.ofInt 1024).toInt32 = 1024 := by decide
theorem sp_216 : (Int16.ofInt 216).toInt32 = 216 := by decide
theorem sp_255 : (Int16.ofInt 255).toInt32 = 255 := by decide
theorem sp_256 : (Int16.ofInt 256).toInt32 = 256 := by decide
theorem sp_400 : (Int16.ofInt 400).toInt32 = 400 := by decide
theorem al_10 : Int32.ofNat 10 = 10 := by decide
theorem al_17 : Int32.ofNat 17 = 17 := by decide
theorem al_400 : Int32.ofNat 400 = 400 := by decide
theorem al_512 : Int32.ofNat 512 = 512 := by decide
theorem al_1024 : Int32.ofNat 1024 = 1024 := by decide
theorem mm_Family_35 : MMx "PetalSets$Family" 35 := ⟨List.mem_of_getElem? (i := 983) (by decide +kernel), List.mem_of_getElem? (i := 655) (by decide +kernel), List.mem_of_getElem? (i := 87) (by decide +kernel), List.mem_of_getElem? (i := 656) (by decide +kernel)⟩
theorem mm_History_40 : MMx "PetalSets$History" 40 := ⟨List.mem_of_getElem? (i := 654) (by decide +kernel), List.mem_of_getElem? (i := 655) (by decide +kernel), List.mem_of_getElem? (i := 87) (by decide +kernel), List.mem_of_getElem? (i := 656) (by decide +kernel)⟩
theorem mm_Cover_32 : MMn "PetalSets$Cover" 32 := ⟨List.mem_of_getElem? (i := 873) (by decide +kernel), List.mem_of_getElem? (i := 484) (by decide +kernel), List.mem_of_getElem? (i := 87) (by decide +kernel), List.mem_of_getElem? (i := 485) (by decide +kernel)⟩
theorem mm_Family_41 : MMn "PetalSets$Family" 41 := ⟨List.mem_of_getElem? (i := 988) (by decide +kernel), List.mem_of_getElem? (i := 484) (by decide +kernel), List.mem_of_getElem? (i := 87) (by decide +kernel), List.mem_of_getElem? (i := 485) (by decide +kernel)⟩
theorem mm_History_30 : MMn "PetalSets$History" 30 := ⟨List.mem_of_getElem? (i := 483) (by decide +kernel), List.mem_of_getElem? (i := 484) (by decide +kernel), List.mem_of_getElem? (i := 87) (by decide +kernel), List.mem_of_getElem? (i := 485) (by decide +kernel)⟩
theorem mm_Thinner_25 : MMn "PetalSets$Thinner" 25 := ⟨List.mem_of_getElem? (i := 629) (by decide +kernel), List.mem_of_getElem? (i := 484) (by decide +kernel), List.mem_of_getElem? (i := 87) (by decide +kernel), List.mem_of_getElem? (i := 485) (by decide +kernel)⟩
theorem mm_PS_252 : MMl "PetalSets" 252 := ⟨List.mem_of_getElem? (i := 808) (by decide +kernel), List.mem_of_getElem? (i := 809) (by decide +kernel), List.mem_of_getElem? (i := 87) (by decide +kernel), List.mem_of_getElem? (i := 810) (by decide +kernel)⟩
theorem wp_nm {sh : List Sh} {M : PMe} {d pc : Nat} {lv : Lv} {st : List Value} {mem : Mem} {Q : Pq} {x : Int32} (h : ∀ y : Int32, y = x → Wp sh M d pc lv (.int y :: st) mem Q) : Wp sh M d pc lv (.int x :: st) mem Q := h x rfl
theorem vin {i : Int32} {n : Nat} (h : (!(decide (i < 0)) && decide (i.toNatClampNeg < n)) = true) : vp_in i n := by
  simp only [Bool.and_eq_true, Bool.not_eq_true', decide_eq_false_iff_not, decide_eq_true_eq] at h
  rintro (z | z)
  · exact h.1 z
  · omega
def b2i (c : Prop) [Decidable c] : Int32 := if c then 1 else 0
theorem b2i_0 {c : Prop} [Decidable c] : b2i c = 0 ↔ ¬ c := by unfold b2i; split <;> simp_all
theorem b2i_1 {c : Prop} [Decidable c] : ¬ b2i c = 0 ↔ c := by unfold b2i; split <;> simp_all
theorem b2i_01 {c : Prop} [Decidable c] : b2i c = 0 ∨ b2i c = 1 := by unfold b2i; split <;> simp
theorem b2i_t {c : Prop} [Decidable c] (h : c) : b2i c = 1 := if_pos h
theorem b2i_f {c : Prop} [Decidable c] (h : ¬ c) : b2i c = 0 := if_neg h
theorem CI.to {sh : List Sh} {M : PMe} {d : Nat} {as : List Value} {mem m2 : Mem} {F : Int32} {K : Int32 → Mem → Prop} (h : CI sh M d as mem (fun r m' => r = F ∧ m' = m2)) (k : K F m2) : CI sh M d as mem K := h.mono (fun x m' e => by obtain ⟨e1, e2⟩ := e; subst e1; subst e2; exact k)
theorem CL.to {sh : List Sh} {M : PMe} {d : Nat} {as : List Value} {mem m2 : Mem} {F : Int64} {K : Int64 → Mem → Prop} (h : CL sh M d as mem (fun r m' => r = F ∧ m' = m2)) (k : K F m2) : CL sh M d as mem K := h.mono (fun x m' e => by obtain ⟨e1, e2⟩ := e; subst e1; subst e2; exact k)
theorem CV.to {sh : List Sh} {M : PMe} {d : Nat} {as : List Value} {mem m2 : Mem} {K : Mem → Prop} (h : CV sh M d as mem (fun m' => m' = m2)) (k : K m2) : CV sh M d as mem K := h.mono (fun m' e => by subst e; exact k)
section FUNC
variable {sh : List Sh} {M M' : PMe} {d pc n : Nat} {lv : Lv} {mem m2 : Mem} {Q : Pq}
theorem wp_vIF {idx ci b : Nat} {fs : List (Option Nat)} {st0 : List Value} {F : Int32} (As st : List Value) (hc : decode M.2.1 pc = .ok (.invokevirtual idx, 3)) (hk : MV M.1.cls idx M' n) (hs : sh[b]? = some (.inr (ci, fs))) (hci : (vwCl[ci]?).map (fun q => q.1) = some M'.1.cls) (hn : As.length = n) (hst : st0 = As.reverse ++ .ref b :: st) (hw : (st.map fun v => v.category).sum ≤ 8)
    (h : CI sh M' d (.ref b :: As) mem (fun r m' => r = F ∧ m' = m2)) (k : Wp sh M (d + 1) (pc + 3) lv (.int F :: st) m2 Q) : Wp sh M (d + 1) pc lv st0 mem Q := wp_vI As st hc hk hs hci hn hst hw h (fun x m' e => by obtain ⟨e1, e2⟩ := e; subst e1; subst e2; exact k)
theorem wp_sIF {idx : Nat} {st0 : List Value} {F : Int32} (As st : List Value) (hc : decode M.2.1 pc = .ok (.invokestatic idx, 3)) (hk : MS M.1.cls idx M' n) (hn : As.length = n) (hst : st0 = As.reverse ++ st) (hw : (st.map fun v => v.category).sum ≤ 8)
    (h : CI sh M' d As mem (fun r m' => r = F ∧ m' = m2)) (k : Wp sh M (d + 1) (pc + 3) lv (.int F :: st) m2 Q) : Wp sh M (d + 1) pc lv st0 mem Q := wp_sI As st hc hk hn hst hw h (fun x m' e => by obtain ⟨e1, e2⟩ := e; subst e1; subst e2; exact k)
end FUNC
section SWT
variable {M : PMe} {sh : List Sh} {d pc : Nat} {lv : Lv} {st : List Value} {mem : Mem} {Q : Pq}
theorem wp_sw3 {dflt o0 o1 o2 : Int} {len : Nat} {x : Int32} {td t0 t1 t2 : Nat} (hc : decode M.2.1 pc = .ok (.tableswitch dflt 0 2 #[o0, o1, o2], len)) (hd : (pc : Int) + dflt = (td : Int)) (e0 : (pc : Int) + o0 = (t0 : Int)) (e1 : (pc : Int) + o1 = (t1 : Int)) (e2 : (pc : Int) + o2 = (t2 : Int)) (gd : (x.toInt < 0 ∨ 2 < x.toInt) → Wp sh M d td lv st mem Q) (g0 : x = 0 → Wp sh M d t0 lv st mem Q) (g1 : x = 1 → Wp sh M d t1 lv st mem Q) (g2 : x = 2 → Wp sh M d t2 lv st mem Q) : Wp sh M d pc lv (.int x :: st) mem Q := by
  by_cases h : x.toInt < 0 ∨ 2 < x.toInt
  · exact wp_tableOut hc h hd (gd h)
  · have h1 : ¬ x.toInt < 0 := fun z => h (Or.inl z)
    have h2 : ¬ (2 : Int) < x.toInt := fun z => h (Or.inr z)
    rcases (show x.toInt = 0 ∨ x.toInt = 1 ∨ x.toInt = 2 by omega) with e | e | e
    · exact wp_tableIn hc h1 h2 (by rw [e]; rfl) e0 (g0 (Int32.toInt_inj.mp (by rw [e]; rfl)))
    · exact wp_tableIn hc h1 h2 (by rw [e]; rfl) e1 (g1 (Int32.toInt_inj.mp (by rw [e]; rfl)))
    · exact wp_tableIn hc h1 h2 (by rw [e]; rfl) e2 (g2 (Int32.toInt_inj.mp (by rw [e]; rfl)))
theorem wp_sw4 {dflt o0 o1 o2 o3 : Int} {len : Nat} {x : Int32} {td t0 t1 t2 t3 : Nat} (hc : decode M.2.1 pc = .ok (.tableswitch dflt 0 3 #[o0, o1, o2, o3], len)) (hd : (pc : Int) + dflt = (td : Int)) (e0 : (pc : Int) + o0 = (t0 : Int)) (e1 : (pc : Int) + o1 = (t1 : Int)) (e2 : (pc : Int) + o2 = (t2 : Int)) (e3 : (pc : Int) + o3 = (t3 : Int)) (gd : (x.toInt < 0 ∨ 3 < x.toInt) → Wp sh M d td lv st mem Q) (g0 : x = 0 → Wp sh M d t0 lv st mem Q) (g1 : x = 1 → Wp sh M d t1 lv st mem Q) (g2 : x = 2 → Wp sh M d t2 lv st mem Q) (g3 : x = 3 → Wp sh M d t3 lv st mem Q) : Wp sh M d pc lv (.int x :: st) mem Q := by
  by_cases h : x.toInt < 0 ∨ 3 < x.toInt
  · exact wp_tableOut hc h hd (gd h)
  · have h1 : ¬ x.toInt < 0 := fun z => h (Or.inl z)
    have h2 : ¬ (3 : Int) < x.toInt := fun z => h (Or.inr z)
    rcases (show x.toInt = 0 ∨ x.toInt = 1 ∨ x.toInt = 2 ∨ x.toInt = 3 by omega) with e | e | e | e
    · exact wp_tableIn hc h1 h2 (by rw [e]; rfl) e0 (g0 (Int32.toInt_inj.mp (by rw [e]; rfl)))
    · exact wp_tableIn hc h1 h2 (by rw [e]; rfl) e1 (g1 (Int32.toInt_inj.mp (by rw [e]; rfl)))
    · exact wp_tableIn hc h1 h2 (by rw [e]; rfl) e2 (g2 (Int32.toInt_inj.mp (by rw [e]; rfl)))
    · exact wp_tableIn hc h1 h2 (by rw [e]; rfl) e3 (g3 (Int32.toInt_inj.mp (by rw [e]; rfl)))
theorem wp_sw7 {dflt o0 o1 o2 o3 o4 o5 o6 : Int} {len : Nat} {x : Int32} {td t0 t1 t2 t3 t4 t5 t6 : Nat} (hc : decode M.2.1 pc = .ok (.tableswitch dflt 0 6 #[o0, o1, o2, o3, o4, o5, o6], len)) (hd : (pc : Int) + dflt = (td : Int)) (e0 : (pc : Int) + o0 = (t0 : Int)) (e1 : (pc : Int) + o1 = (t1 : Int)) (e2 : (pc : Int) + o2 = (t2 : Int)) (e3 : (pc : Int) + o3 = (t3 : Int)) (e4 : (pc : Int) + o4 = (t4 : Int)) (e5 : (pc : Int) + o5 = (t5 : Int)) (e6 : (pc : Int) + o6 = (t6 : Int)) (gd : (x.toInt < 0 ∨ 6 < x.toInt) → Wp sh M d td lv st mem Q) (g0 : x = 0 → Wp sh M d t0 lv st mem Q) (g1 : x = 1 → Wp sh M d t1 lv st mem Q) (g2 : x = 2 → Wp sh M d t2 lv st mem Q) (g3 : x = 3 → Wp sh M d t3 lv st mem Q) (g4 : x = 4 → Wp sh M d t4 lv st mem Q) (g5 : x = 5 → Wp sh M d t5 lv st mem Q) (g6 : x = 6 → Wp sh M d t6 lv st mem Q) : Wp sh M d pc lv (.int x :: st) mem Q := by
  by_cases h : x.toInt < 0 ∨ 6 < x.toInt
  · exact wp_tableOut hc h hd (gd h)
  · have h1 : ¬ x.toInt < 0 := fun z => h (Or.inl z)
    have h2 : ¬ (6 : Int) < x.toInt := fun z => h (Or.inr z)
    rcases (show x.toInt = 0 ∨ x.toInt = 1 ∨ x.toInt = 2 ∨ x.toInt = 3 ∨ x.toInt = 4 ∨ x.toInt = 5 ∨ x.toInt = 6 by omega) with e | e | e | e | e | e | e
    · exact wp_tableIn hc h1 h2 (by rw [e]; rfl) e0 (g0 (Int32.toInt_inj.mp (by rw [e]; rfl)))
    · exact wp_tableIn hc h1 h2 (by rw [e]; rfl) e1 (g1 (Int32.toInt_inj.mp (by rw [e]; rfl)))
    · exact wp_tableIn hc h1 h2 (by rw [e]; rfl) e2 (g2 (Int32.toInt_inj.mp (by rw [e]; rfl)))
    · exact wp_tableIn hc h1 h2 (by rw [e]; rfl) e3 (g3 (Int32.toInt_inj.mp (by rw [e]; rfl)))
    · exact wp_tableIn hc h1 h2 (by rw [e]; rfl) e4 (g4 (Int32.toInt_inj.mp (by rw [e]; rfl)))
    · exact wp_tableIn hc h1 h2 (by rw [e]; rfl) e5 (g5 (Int32.toInt_inj.mp (by rw [e]; rfl)))
    · exact wp_tableIn hc h1 h2 (by rw [e]; rfl) e6 (g6 (Int32.toInt_inj.mp (by rw [e]; rfl)))
end SWT
