def k_St_length : List (Nat × Instr × Nat) := [(0, .aload_n 0, 1), (1, .getfield 9, 3), (4, .arraylength, 1), (5, .aload_n 0, 1), (6, .invokevirtual 335, 3), (9, .ishr, 1), (10, .ireturn, 1)]
set_option maxRecDepth 100000 in
theorem kd_St_length : ∀ q ∈ k_St_length, decode prog_16_method_54_code q.1 = .ok q.2 := by decide +kernel
def k_St_coder : List (Nat × Instr × Nat) := [(0, .getstatic 38, 3), (3, .ifCond .eq 10, 3), (6, .aload_n 0, 1), (7, .getfield 15, 3), (10, .goto 4, 3), (13, .iconst 1, 1), (14, .ireturn, 1)]
set_option maxRecDepth 100000 in
theorem kd_St_coder : ∀ q ∈ k_St_coder, decode prog_16_method_152_code q.1 = .ok q.2 := by decide +kernel
def k_St_charAt : List (Nat × Instr × Nat) := [(0, .aload_n 0, 1), (1, .invokevirtual 492, 3), (4, .ifCond .eq 12, 3), (7, .aload_n 0, 1), (8, .getfield 9, 3), (11, .iload_n 1, 1), (12, .invokestatic 495, 3), (15, .ireturn, 1), (16, .aload_n 0, 1), (17, .getfield 9, 3), (20, .iload_n 1, 1), (21, .invokestatic 498, 3), (24, .ireturn, 1)]
set_option maxRecDepth 100000 in
theorem kd_St_charAt : ∀ q ∈ k_St_charAt, decode prog_16_method_56_code q.1 = .ok q.2 := by decide +kernel
def k_St_isLatin1 : List (Nat × Instr × Nat) := [(0, .getstatic 38, 3), (3, .ifCond .eq 14, 3), (6, .aload_n 0, 1), (7, .getfield 15, 3), (10, .ifCond .ne 7, 3), (13, .iconst 1, 1), (14, .goto 4, 3), (17, .iconst 0, 1), (18, .ireturn, 1)]
set_option maxRecDepth 100000 in
theorem kd_St_isLatin1 : ∀ q ∈ k_St_isLatin1, decode prog_16_method_154_code q.1 = .ok q.2 := by decide +kernel
def k_SL_charAt : List (Nat × Instr × Nat) := [(0, .iload_n 1, 1), (1, .aload_n 0, 1), (2, .arraylength, 1), (3, .invokestatic 9, 3), (6, .aload_n 0, 1), (7, .iload_n 1, 1), (8, .baload, 1), (9, .sipush 255, 3), (12, .iand, 1), (13, .i2c, 1), (14, .ireturn, 1)]
set_option maxRecDepth 100000 in
theorem kd_SL_charAt : ∀ q ∈ k_SL_charAt, decode prog_17_method_2_code q.1 = .ok q.2 := by decide +kernel
def k_St_checkIndex : List (Nat × Instr × Nat) := [(0, .iload_n 0, 1), (1, .iload_n 1, 1), (2, .getstatic 1053, 3), (5, .invokestatic 1059, 3), (8, .pop, 1), (9, .return_, 1)]
set_option maxRecDepth 100000 in
theorem kd_St_checkIndex : ∀ q ∈ k_St_checkIndex, decode prog_16_method_155_code q.1 = .ok q.2 := by decide +kernel
def k_Pr_checkIndex : List (Nat × Instr × Nat) := [(0, .iload_n 0, 1), (1, .ifCond .lt 8, 3), (4, .iload_n 0, 1), (5, .iload_n 1, 1), (6, .if_icmp .lt 10, 3), (9, .aload_n 2, 1), (10, .iload_n 0, 1), (11, .iload_n 1, 1), (12, .invokestatic 95, 3), (15, .athrow, 1), (16, .iload_n 0, 1), (17, .ireturn, 1)]
set_option maxRecDepth 100000 in
theorem kd_Pr_checkIndex : ∀ q ∈ k_Pr_checkIndex, decode prog_19_method_11_code q.1 = .ok q.2 := by decide +kernel
theorem shr0 (x : Int32) : x >>> ((0 : Int32) &&& 31) = x := by
  rw [show ((0 : Int32) &&& 31) = 0 by decide]
  exact Int32.shiftRight_zero
def chI (i k : Nat) : Int32 := (strByt.getD i []).getD k 0
theorem chI_ok : ∀ i, i < 11 → ∀ k, k < strLen.getD i 0 → ((chI i k &&& 255).toUInt32 % 65536).toInt32 = chI i k ∧ narrow .char (.int (chI i k)) = .int (chI i k) := by decide +kernel
theorem strLen_lt : ∀ i, i < 11 → strLen.getD i 0 < 8 := by decide +kernel
section TXT
variable {sh : List Sh} {d i : Nat} {mem : Mem}
theorem f_coder (hi : i < 11) : CI sh m_St_coder d [.ref (1000 + i)] mem (fun r m' => r = 0 ∧ m' = mem) := cll_of [some (.ref (1000 + i))] ok_St_coder (Nat.le_of_ble_eq_true rfl) rfl
  (wp_gsC (dc kd_St_coder 0 rfl) (List.mem_of_getElem? (i := 374) (by decide +kernel)) (wp_if_eq (tgt := 13) (dc kd_St_coder 1 rfl) rfl (fun c => absurd c (by decide)) (fun _ => wp_aload_n (dc kd_St_coder 2 rfl) rfl (wp_sgetC hi (dc kd_St_coder 3 rfl) (List.mem_of_getElem? (i := 1541) (by decide +kernel)) (wp_goto (tgt := 14) (dc kd_St_coder 4 rfl) rfl (wp_tret (ty := .byte) (dc kd_St_coder 6 rfl) rfl rfl ⟨_, rfl, rfl, rfl⟩))))))
theorem f_length (hi : i < 11) : CI sh m_St_length (d + 1) [.ref (1000 + i)] mem (fun r m' => r = nI (strLen.getD i 0) ∧ m' = mem) := cll_of [some (.ref (1000 + i))] ok_St_length (Nat.le_of_ble_eq_true rfl) rfl
  (wp_aload_n (dc kd_St_length 0 rfl) rfl (wp_sgetV hi (dc kd_St_length 1 rfl) (List.mem_of_getElem? (i := 1540) (by decide +kernel)) (wp_slen hi (dc kd_St_length 2 rfl) (wp_aload_n (dc kd_St_length 3 rfl) rfl (wp_tI [] [.int (nI (strLen.getD i 0))] hi (dc kd_St_length 4 rfl) mv_St_335 rfl rfl rfl (Nat.le_of_ble_eq_true rfl) (f_coder hi) (fun x m' e => by obtain ⟨rfl, rfl⟩ := e; exact wp_ishr (dc kd_St_length 5 rfl) (wp_iret (dc kd_St_length 6 rfl) rfl ⟨_, rfl, shr0 _, rfl⟩)))))))
theorem f_isLatin1 (hi : i < 11) : CI sh m_St_isLatin1 d [.ref (1000 + i)] mem (fun r m' => r = 1 ∧ m' = mem) := cll_of [some (.ref (1000 + i))] ok_St_isLatin1 (Nat.le_of_ble_eq_true rfl) rfl
  (wp_gsC (dc kd_St_isLatin1 0 rfl) (List.mem_of_getElem? (i := 374) (by decide +kernel)) (wp_if_eq (tgt := 17) (dc kd_St_isLatin1 1 rfl) rfl (fun c => absurd c (by decide)) (fun _ => wp_aload_n (dc kd_St_isLatin1 2 rfl) rfl (wp_sgetC hi (dc kd_St_isLatin1 3 rfl) (List.mem_of_getElem? (i := 1541) (by decide +kernel)) (wp_if_ne (tgt := 17) (dc kd_St_isLatin1 4 rfl) rfl (fun c => absurd rfl c) (fun _ => wp_iconst (dc kd_St_isLatin1 5 rfl) 1 ic_1 (wp_goto (tgt := 18) (dc kd_St_isLatin1 6 rfl) rfl (wp_zret (dc kd_St_isLatin1 8 rfl) rfl (Or.inr rfl) ⟨_, rfl, rfl, rfl⟩))))))))
theorem f_PrcheckN {k n : Nat} (hk : k < n) (hn : n < 2 ^ 31) : CI sh m_Pr_checkIndex d [.int (nI k), .int (nI n), .null] mem (fun r m' => m' = mem) := cll_of [some (.int (nI k)), some (.int (nI n)), some .null] ok_Pr_checkIndex (Nat.le_of_ble_eq_true rfl) rfl
  (wp_iload_n (dc kd_Pr_checkIndex 0 rfl) rfl (wp_if_lt (tgt := 9) (dc kd_Pr_checkIndex 1 rfl) rfl (fun c => absurd c (nI_pos (by omega))) (fun _ => wp_iload_n (dc kd_Pr_checkIndex 2 rfl) rfl (wp_iload_n (dc kd_Pr_checkIndex 3 rfl) rfl (wp_icmp_lt (tgt := 16) (dc kd_Pr_checkIndex 4 rfl) rfl (fun _ => wp_iload_n (dc kd_Pr_checkIndex 10 rfl) rfl (wp_iret (dc kd_Pr_checkIndex 11 rfl) rfl ⟨_, rfl, rfl⟩)) (fun c => absurd (nI_lt hk hn) c))))))
theorem f_PrcheckR {k n : Nat} (hk : k < n) (hn : n < 2 ^ 31) : CI sh m_Pr_checkIndex d [.int (nI k), .int (nI n), .ref 3000] mem (fun r m' => m' = mem) := cll_of [some (.int (nI k)), some (.int (nI n)), some (.ref 3000)] ok_Pr_checkIndex (Nat.le_of_ble_eq_true rfl) rfl
  (wp_iload_n (dc kd_Pr_checkIndex 0 rfl) rfl (wp_if_lt (tgt := 9) (dc kd_Pr_checkIndex 1 rfl) rfl (fun c => absurd c (nI_pos (by omega))) (fun _ => wp_iload_n (dc kd_Pr_checkIndex 2 rfl) rfl (wp_iload_n (dc kd_Pr_checkIndex 3 rfl) rfl (wp_icmp_lt (tgt := 16) (dc kd_Pr_checkIndex 4 rfl) rfl (fun _ => wp_iload_n (dc kd_Pr_checkIndex 10 rfl) rfl (wp_iret (dc kd_Pr_checkIndex 11 rfl) rfl ⟨_, rfl, rfl⟩)) (fun c => absurd (nI_lt hk hn) c))))))
theorem f_StcheckIndex {k n : Nat} (hk : k < n) (hn : n < 2 ^ 31) : CV sh m_St_checkIndex (d + 1) [.int (nI k), .int (nI n)] mem (fun m' => m' = mem) := cll_of [some (.int (nI k)), some (.int (nI n))] ok_St_checkIndex (Nat.le_of_ble_eq_true rfl) rfl
  (wp_iload_n (dc kd_St_checkIndex 0 rfl) rfl (wp_iload_n (dc kd_St_checkIndex 1 rfl) rfl (wp_gsF (dc kd_St_checkIndex 2 rfl) (List.mem_of_getElem? (i := 391) (by decide +kernel))
    (wp_sI [.int (nI k), .int (nI n), .null] [] (dc kd_St_checkIndex 3 rfl) ms_St_1059 rfl rfl (Nat.le_of_ble_eq_true rfl) (f_PrcheckN hk hn) (fun x m' e => by obtain rfl := e; exact wp_pop (dc kd_St_checkIndex 4 rfl) rfl (wp_vret (dc kd_St_checkIndex 5 rfl) rfl ⟨rfl, rfl⟩)))
    (wp_sI [.int (nI k), .int (nI n), .ref 3000] [] (dc kd_St_checkIndex 3 rfl) ms_St_1059 rfl rfl (Nat.le_of_ble_eq_true rfl) (f_PrcheckR hk hn) (fun x m' e => by obtain rfl := e; exact wp_pop (dc kd_St_checkIndex 4 rfl) rfl (wp_vret (dc kd_St_checkIndex 5 rfl) rfl ⟨rfl, rfl⟩))))))
theorem f_SLcharAt {k : Nat} (hi : i < 11) (hk : k < strLen.getD i 0) : CI sh m_SL_charAt (d + 2) [.ref (2000 + i), .int (nI k)] mem (fun r m' => r = chI i k ∧ m' = mem) := cll_of [some (.ref (2000 + i)), some (.int (nI k))] ok_SL_charAt (Nat.le_of_ble_eq_true rfl) rfl
  (wp_iload_n (dc kd_SL_charAt 0 rfl) rfl (wp_aload_n (dc kd_SL_charAt 1 rfl) rfl (wp_slen hi (dc kd_SL_charAt 2 rfl) (wp_sV [.int (nI k), .int (nI (strLen.getD i 0))] [] (dc kd_SL_charAt 3 rfl) ms_SL_9 rfl rfl (Nat.le_of_ble_eq_true rfl) (f_StcheckIndex hk (Nat.lt_trans (strLen_lt i hi) (by decide))) (fun m' e => by
    obtain rfl := e
    have h1 := chI_ok i hi k hk
    have hlt := strLen_lt i hi
    refine wp_aload_n (dc kd_SL_charAt 4 rfl) rfl (wp_iload_n (dc kd_SL_charAt 5 rfl) rfl (wp_sbald hi (dc kd_SL_charAt 6 rfl) (vp_in_nI hk (by omega)) (wp_sipush (dc kd_SL_charAt 7 rfl) 255 (by decide) (wp_iand (dc kd_SL_charAt 8 rfl) (wp_i2c (dc kd_SL_charAt 9 rfl) ?_)))))
    rw [nI_clamp (by omega)]
    show Wp _ _ _ _ _ [.int ((chI i k &&& 255).toUInt32 % 65536).toInt32] _ _
    rw [h1.1]
    exact wp_tret (ty := .char) (dc kd_SL_charAt 10 rfl) rfl h1.2 ⟨_, rfl, rfl, rfl⟩)))))
theorem f_charAt {k : Nat} (hi : i < 11) (hk : k < strLen.getD i 0) : CI sh m_St_charAt (d + 3) [.ref (1000 + i), .int (nI k)] mem (fun r m' => r = chI i k ∧ m' = mem) := cll_of [some (.ref (1000 + i)), some (.int (nI k))] ok_St_charAt (Nat.le_of_ble_eq_true rfl) rfl
  (wp_aload_n (dc kd_St_charAt 0 rfl) rfl (wp_tI [] [] hi (dc kd_St_charAt 1 rfl) mv_St_492 rfl rfl rfl (Nat.le_of_ble_eq_true rfl) (f_isLatin1 hi) (fun x m' e => by
    obtain ⟨rfl, rfl⟩ := e
    exact wp_if_eq (tgt := 16) (dc kd_St_charAt 2 rfl) rfl (fun c => absurd c (by decide)) (fun _ => wp_aload_n (dc kd_St_charAt 3 rfl) rfl (wp_sgetV hi (dc kd_St_charAt 4 rfl) (List.mem_of_getElem? (i := 1540) (by decide +kernel)) (wp_iload_n (dc kd_St_charAt 5 rfl) rfl (wp_sI [.ref (2000 + i), .int (nI k)] [] (dc kd_St_charAt 6 rfl) ms_St_495 rfl rfl (Nat.le_of_ble_eq_true rfl) (f_SLcharAt hi hk) (fun y m2 e2 => by
      obtain ⟨rfl, rfl⟩ := e2
      exact wp_tret (ty := .char) (dc kd_St_charAt 7 rfl) rfl (chI_ok i hi k hk).2 ⟨_, rfl, rfl, rfl⟩))))))))
end TXT
