/-! the law, from its entry -/
set_option maxHeartbeats 4000000 in
set_option maxRecDepth 100000 in
theorem whole_start {p : Program} {e : Env} {s : State} {m : MethodId} {below : List Frame} {meth : Method} {c : Code} (l : Launch) (hflags : l.flags = flags0) {b L : Nat} {xs : Nat → Int32} (hL : L ≤ 3072) (C0 : lw_At p s m meth c b L xs) : W p l e room_1 s m #[Value.ref b] below meth c s.heap [] 0 0 (lw_Z below #[Value.ref b] s) (entryFrame m ([Value.ref b] : List Value).toArray 4) := by
  obtain ⟨hx, hb, hr, hml, hown, hts, hX, hbl, hlocks, hgv⟩ := id C0
  have ht : ∀ w ∈ lw_gd, w.before #[Value.ref b] s = true := fun w hw => hts w (List.mem_filter.mp hw).1
  obtain ⟨D, cy, hK⟩ := kk_start hts
  obtain ⟨adT, hSX⟩ := sx_start hts hgv
  have hNX : NX s := fun own idx y host hm => va_Nw.of rfl (hts _ hm)
  have hKN : KN D cy s := ⟨hK, hNX⟩
  have hA : ∀ q : Nat, s.heap.size ≤ q → (fun q : Nat => s.heap.size ≤ q) q := fun _ h => h
  have hS : va_S (fun q : Nat => s.heap.size ≤ q) s.heap s.heap [] := va_S.rf
  have hP : va_P D vwCl [] s.heap := fun k q h => by simp at h
  have hD : va_D (fun q : Nat => s.heap.size ≤ q) [] := ⟨fun i j p q h => by simp at h, fun k q h => by simp at h⟩
  have hl := lv_entry ([.ref b]) (n := 4) (Nat.le_of_ble_eq_true rfl)
  rw [lg_entry_eq]
  generalize (lg_sl ([.ref b]) ++ List.replicate (4 - (lg_sl ([.ref b])).length) Slot.unset).toArray = ls at hl ⊢
  have hl : lv_has ls 4 [(0, .ref b)] := hl
  refine va_new (ci := 9) (fs := [.null, .null, .null, .null, .null, .null, .null, .null, .null, .null]) (own := R_law) (C := R_PS) (T := T_PS) (N := 10) hx hb ht ck_PS.good ty_PS tok_PS hown (ht _ (gd (List.mem_of_getElem? (i := 90) (by decide +kernel)) rfl)) (ht _ (gd (List.mem_of_getElem? (i := 91) (by decide +kernel)) rfl)) (ht _ (gd (List.mem_of_getElem? (i := 72) (by decide +kernel)) rfl)) hK hP hD hS hA rfl (fun j hj => by rcases (show j = 0 ∨ j = 1 ∨ j = 2 ∨ j = 3 ∨ j = 4 ∨ j = 5 ∨ j = 6 ∨ j = 7 ∨ j = 8 ∨ j = 9 by omega) with rfl | rfl | rfl | rfl | rfl | rfl | rfl | rfl | rfl | rfl <;> rfl) (Nat.le_of_ble_eq_true rfl) (Nat.le_of_ble_eq_true rfl) (dc kd_law_h 0 rfl) (fun q H hP hD hS => ?_)
  have hP : va_P D vwCl ([] ++ [(q, .inr (9, [.null, .null, .null, .null, .null, .null, .null, .null, .null, .null]))]) H := hP
  have hD : va_D (fun q : Nat => s.heap.size ≤ q) ([] ++ [(q, .inr (9, [.null, .null, .null, .null, .null, .null, .null, .null, .null, .null]))]) := hD
  refine lv_dup hx hb (dc kd_law_h 1 rfl) rfl ?_
  have hPc := lastP hP
  have hFc := lastF hD hS hA
  refine va_callv (va_runI (As := []) (rest := [.ref q]) ⟨hx, hb, hml, hown, ht⟩ (c_PS l D cy q H.size) (cwI 0 ht (tbl_in m_PS_init 0 ok_PS_init) rfl rfl rfl (ht _ (gd (List.mem_of_getElem? (i := 72) (by decide +kernel)) rfl)) (ht _ (gd (List.mem_of_getElem? (i := 92) (by decide +kernel)) rfl)) (ht _ (gd (List.mem_of_getElem? (i := 93) (by decide +kernel)) rfl)) rfl ok_PS_init.2.2.2.1 ⟨Nat.le_of_ble_eq_true rfl, Nat.le_of_ble_eq_true rfl⟩) ⟨fun a U g mk q => by obtain ⟨q0, q1, qP, qK, qD⟩ := q; exact ⟨q0, q1, qP, qK.blind g mk a, qD⟩, fun U hU hW => ⟨rfl, by rw [hU], by rw [hU]; exact hPc, hKN.warm hW, lastD hD⟩⟩ rfl rfl hl.1 rfl (lv_room (Nat.le_of_ble_eq_true rfl)) (dc kd_law_h 2 rfl) ⟨Nat.le_of_ble_eq_true rfl, Nat.le_of_ble_eq_true rfl⟩) hS (fun q _ h => hFc q h) hFc (fun u t H1 locs ht1 hvm hw hB hz1 hk1 hS1 => ?_)
  obtain ⟨hP1, hD1⟩ := hB
  rw [ht1, sh_PS_eq] at hP1
  rw [sh_PS_eq] at hD1
  have hw : u 0 = q := hw
  rw [← lay_ext cy u adT] at hP1 hD1
  have hX0 : (fun k => if k < 29 then u k else adT k : Nat → Nat) 0 = q := hw
  have hXT : ∀ k, 1000 ≤ k → (fun k => if k < 29 then u k else adT k : Nat → Nat) k = adT k := fun k hk => if_neg (by omega)
  generalize (fun k => if k < 29 then u k else adT k : Nat → Nat) = adX at hP1 hD1 hX0 hXT
  have hDX : va_D (fun x : Nat => s.heap.size ≤ x ∧ x < H1.size) (lay cy adX mem_PS shX) := ⟨hD1.1, fun k x hx => ⟨hFc _ (hD1.2 k x hx), (hP1 k x hx).lt⟩⟩
  refine lv_astore_n (lv' := [(1, .ref q), (0, .ref b)]) hx hb (dc kd_law_h 3 rfl) rfl hl (by decide) rfl (fun ls hl => ?_)
  refine va_forget (fun x hx => hS1.2.2 x hx) ?_
  have hA2 : ∀ x : Nat, H1.size ≤ x → (fun x : Nat => H1.size ≤ x) x := fun _ h => h
  have hS2 : va_S (fun x : Nat => H1.size ≤ x) H1 H1 [] := va_S.rf
  have hP2 : va_P D vwCl [] H1 := fun k q h => by simp at h
  have hD2 : va_D (fun x : Nat => H1.size ≤ x) [] := ⟨fun i j p q h => by simp at h, fun k q h => by simp at h⟩
  refine va_new (ci := 10) (fs := [.int 0, .null, .null, .null, .int 0, .null, .int 0, .null, .int 0, .int 0, .null, .null, .null, .int 0, .null, .null, .null, .null, .int 0, .int 0, .null, .null, .int 0, .null, .int 0, .null, .int 0, .null, .int 0, .int 0, .int 0, .int 0, .int 0]) (own := R_law) (C := R_Mo) (T := T_Mo) (N := 33) hx hb ht ck_Mo.good ty_Mo tok_Mo hown (ht _ (gd (List.mem_of_getElem? (i := 989) (by decide +kernel)) rfl)) (ht _ (gd (List.mem_of_getElem? (i := 990) (by decide +kernel)) rfl)) (ht _ (gd (List.mem_of_getElem? (i := 82) (by decide +kernel)) rfl)) hK hP2 hD2 hS2 hA2 rfl (fun j hj => by rcases (show j = 0 ∨ j = 1 ∨ j = 2 ∨ j = 3 ∨ j = 4 ∨ j = 5 ∨ j = 6 ∨ j = 7 ∨ j = 8 ∨ j = 9 ∨ j = 10 ∨ j = 11 ∨ j = 12 ∨ j = 13 ∨ j = 14 ∨ j = 15 ∨ j = 16 ∨ j = 17 ∨ j = 18 ∨ j = 19 ∨ j = 20 ∨ j = 21 ∨ j = 22 ∨ j = 23 ∨ j = 24 ∨ j = 25 ∨ j = 26 ∨ j = 27 ∨ j = 28 ∨ j = 29 ∨ j = 30 ∨ j = 31 ∨ j = 32 by omega) with rfl | rfl | rfl | rfl | rfl | rfl | rfl | rfl | rfl | rfl | rfl | rfl | rfl | rfl | rfl | rfl | rfl | rfl | rfl | rfl | rfl | rfl | rfl | rfl | rfl | rfl | rfl | rfl | rfl | rfl | rfl | rfl | rfl <;> rfl) (Nat.le_of_ble_eq_true rfl) (Nat.le_of_ble_eq_true rfl) (dc kd_law_h 4 rfl) (fun q2 H2 hP2 hD2 hS2 => ?_)
  have hP2 : va_P D vwCl ([] ++ [(q2, .inr (10, [.int 0, .null, .null, .null, .int 0, .null, .int 0, .null, .int 0, .int 0, .null, .null, .null, .int 0, .null, .null, .null, .null, .int 0, .int 0, .null, .null, .int 0, .null, .int 0, .null, .int 0, .null, .int 0, .int 0, .int 0, .int 0, .int 0]))]) H2 := hP2
  have hD2 : va_D (fun x : Nat => H1.size ≤ x) ([] ++ [(q2, .inr (10, [.int 0, .null, .null, .null, .int 0, .null, .int 0, .null, .int 0, .int 0, .null, .null, .null, .int 0, .null, .null, .null, .null, .int 0, .int 0, .null, .null, .int 0, .null, .int 0, .null, .int 0, .null, .int 0, .int 0, .int 0, .int 0, .int 0]))]) := hD2
  refine lv_dup hx hb (dc kd_law_h 5 rfl) rfl ?_
  have hPc2 := lastP hP2
  have hFc2 := lastF hD2 hS2 hA2
  have hCs : Cx adT cy D (va_A [(q2, .inr (10, [.int 0, .null, .null, .null, .int 0, .null, .int 0, .null, .int 0, .int 0, .null, .null, .null, .int 0, .null, .null, .null, .null, .int 0, .int 0, .null, .null, .int 0, .null, .int 0, .null, .int 0, .null, .int 0, .int 0, .int 0, .int 0, .int 0]))] H2.size) s := ⟨hK, hSX _ (fun a h z => Nat.not_le.mpr h (Nat.le_trans hS1.1 (hFc2 a z))), hNX⟩
  refine va_callv (va_runI (As := []) (rest := [.ref q2]) ⟨hx, hb, hml, hown, ht⟩ (c_Mo l D cy adT q2 H2.size) (cwI 0 ht (tbl_in m_Mo_init 0 ok_Mo_init) rfl rfl rfl (ht _ (gd (List.mem_of_getElem? (i := 82) (by decide +kernel)) rfl)) (ht _ (gd (List.mem_of_getElem? (i := 991) (by decide +kernel)) rfl)) (ht _ (gd (List.mem_of_getElem? (i := 992) (by decide +kernel)) rfl)) rfl ok_Mo_init.2.2.2.1 ⟨Nat.le_of_ble_eq_true rfl, Nat.le_of_ble_eq_true rfl⟩) ⟨fun a U g mk q => by obtain ⟨q0, q1, qP, qK, qD⟩ := q; exact ⟨q0, q1, qP, qK.blind g mk a, qD⟩, fun U hU hW => ⟨rfl, by rw [hU], by rw [hU]; exact hPc2, hCs.warm hW (fun a h1 h2 => by rw [hU, hS2.2.1 a (Nat.lt_of_lt_of_le h1 hS1.1) (Nat.not_le.mpr (Nat.lt_of_lt_of_le h1 hS1.1))]; exact hS1.2.1 a h1 (Nat.not_le.mpr h1)), lastD hD2⟩⟩ rfl rfl hl.1 rfl (lv_room (Nat.le_of_ble_eq_true rfl)) (dc kd_law_h 6 rfl) ⟨Nat.le_of_ble_eq_true rfl, Nat.le_of_ble_eq_true rfl⟩) hS2 (fun q _ h => hFc2 q h) hFc2 (fun u2 t2 H3 locs3 ht3 hvm3 hw3 hB3 hz3 hk3 hS3 => ?_)
  obtain ⟨mM, hMI, hP3, hD3⟩ := hB3
  obtain ⟨hu0, huT⟩ := hw3
  rw [ht3] at hP3
  refine W.widen (k := 47) (n := 97410) (Nat.le_of_ble_eq_true rfl) (Nat.le_of_ble_eq_true rfl) ?_
  refine lv_astore_n (lv' := [(2, .ref q2), (1, .ref q), (0, .ref b)]) hx hb (dc kd_law_h 7 rfl) rfl hl (by decide) rfl (fun ls hl => ?_)
  refine lv_iconst (v := 0) hx hb (dc kd_law_h 8 rfl) (by decide) ?_
  refine lv_istore_n (lv' := [(3, .int 0), (2, .ref q2), (1, .ref q), (0, .ref b)]) hx hb (dc kd_law_h 9 rfl) rfl hl (by decide) rfl (fun ls hl => ?_)
  have hl' : lv_has ls 4 [(0, .ref b), (1, .ref (adX 0)), (2, .ref (u2 0)), (3, .int (nI 0))] := by
    rw [hX0, hu0, nI_0]
    exact lv_sub hl [3, 2, 1, 0] rfl
  have hTC : TwoC s adX u2 cy D (fun x : Nat => s.heap.size ≤ x ∧ x < H1.size) (fun x : Nat => H1.size ≤ x) := by
    refine ⟨Cx.cg (ad := adT) ⟨hK, hSX _ (fun a h z => Nat.not_le.mpr h z.1), hNX⟩ hXT, Cx.cg (ad := adT) ⟨hK, hSX _ (fun a h z => Nat.not_le.mpr h (Nat.le_trans hS1.1 z)), hNX⟩ (fun k hk => huT k (by omega)), fun x hx => hx.1, fun x hx => Nat.le_trans hS1.1 hx, fun x hx hy => Nat.not_le.mpr hx.2 hy⟩
  have hTW : TwoW s adX u2 cy D (fun x : Nat => s.heap.size ≤ x ∧ x < H1.size) (fun x : Nat => H1.size ≤ x) mem_PS mM H3 locs3 := by
    refine ⟨keepW (A1 := fun x : Nat => H1.size ≤ x) hP1 hDX (fun x hx hy => Nat.not_le.mpr hx.2 hy) hS3.2.1, hDX, hP3, ⟨hD3.1, fun k x hx => hFc2 _ (hD3.2 k x hx)⟩, Nat.le_trans hS1.1 hS3.1, fun a h1 h2 => ?_, fun x hx => Nat.le_trans hS1.1 (hS3.2.2 x hx)⟩
    rw [hS3.2.1 a (Nat.lt_of_lt_of_le h1 hS1.1) (Nat.not_le.mpr (Nat.lt_of_lt_of_le h1 hS1.1))]
    exact hS1.2.1 a h1 h2
  exact law_loop C0 hL hTC (Nat.le_of_ble_eq_true rfl) (Nat.le_of_ble_eq_true rfl) (L + 1) 0 6 [] [] [] mem_PS mM H3 locs3 ls (Nat.zero_le _) (by omega) ⟨by decide, by decide, GdS.nil, fun L hL => absurd hL List.not_mem_nil⟩ xi_0 hMI hTW hl'
