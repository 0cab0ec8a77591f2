/-! the law's loop -/
theorem six_neg : ∀ L, L < 6 → nI L - 6 < 0 := by decide +kernel
theorem six_le {L i : Nat} (hL : L ≤ 3072) (hi : i ≤ L) (h : ¬ nI L - 6 < nI i) : i + 6 ≤ L := by
  by_cases c : L < 6
  · exact absurd (Int32.lt_of_lt_of_le (six_neg L c) (nI_le0 (by omega))) h
  · rw [show (6 : Int32) = nI 6 from rfl, pk_sub (by omega), nI_ltI (by omega) (by omega)] at h
    omega
theorem law_loop {p : Program} {l : Launch} {e : Env} {s : State} {m : MethodId} {below : List Frame} {meth : Method} {c : Code} {b L : Nat} {xs : Nat → Int32} {adX adM : Nat → Nat} {cy : Nat → ClassId} {D : va_G} {AX AM : Nat → Prop} {cells slots : Nat} (C0 : lw_At p s m meth c b L xs) (hL : L ≤ 3072) (C : TwoC s adX adM cy D AX AM) (hcl : cells ≤ 600000) (hsl : slots ≤ 7302250) :
    ∀ (f i n : Nat) (S t : List Nat) (Hs : List (List Nat)) (mX mM : Mem) (H : Heap) (locs : List Loc) (ls : Array Slot), i ≤ L → L + 1 ≤ i + f → Good n S Hs → XI mX n S Hs t → MI mM n S Hs t → TwoW s adX adM cy D AX AM mX mM H locs → lv_has ls 4 [(0, .ref b), (1, .ref (adX 0)), (2, .ref (adM 0)), (3, .int (nI i))] → W p l e room_1 s m #[Value.ref b] below meth c H locs cells slots (lw_Z below #[Value.ref b] s) (F0 m 18 ls []) := by
  obtain ⟨hx, hb, hr, hml, hown, hts, hXs, hbl, hlocks, hgv⟩ := id C0
  intro f
  induction f with
  | zero =>
    intro i n S t Hs mX mM H locs ls h1 h2
    omega
  | succ f ih =>
    intro i n S t Hs mX mM H locs ls hi hf g hX hM hW hl
    have hS := hW.2.2.2.2
    refine lv_iload_n hx hb (dc kd_law_h 10 rfl) rfl (lv_at hl 3 rfl) ?_
    refine lv_aload_n hx hb (dc kd_law_h 11 rfl) rfl (lv_at hl 0 rfl) ?_
    refine va_slen (A := fun q : Nat => s.heap.size ≤ q) hx hb hXs hbl (Nat.not_le.mpr hbl) hS (dc kd_law_h 12 rfl) ?_
    refine lv_bipush (v := 6) hx hb (dc kd_law_h 13 rfl) (by decide) ?_
    refine lv_isub hx hb (dc kd_law_h 14 rfl) ?_
    refine lv_icmp_gt (tgt := 1648) hx hb (dc kd_law_h 15 rfl) (by decide) (fun c1 => ?_) (fun c1 => ?_)
    · refine lv_iconst (v := 1) hx hb (dc kd_law_t 2 rfl) (by decide) ?_
      refine va_forget (fun q hq => hS.2.2 q hq) ?_
      refine W.widen (k := 600000) (n := 7302250) hcl hsl ?_
      exact lw_ret hx hb hr hlocks (dc kd_law_t 3 rfl)
    have hi6 : i + 6 ≤ L := six_le hL hi c1
    have nx : ∀ (n' : Nat) (S' t' : List Nat) (Hs' : List (List Nat)) (mX' mM' : Mem) (H1 : Heap) (locs1 : List Loc), Good n' S' Hs' → XI mX' n' S' Hs' t' → MI mM' n' S' Hs' t' → TwoW s adX adM cy D AX AM mX' mM' H1 locs1 → W p l e room_1 s m #[Value.ref b] below meth c H1 locs1 cells slots (lw_Z below #[Value.ref b] s) (F0 m 1642 ls []) := by
      intro n' S' t' Hs' mX' mM' H1 locs1 g' hX' hM' hW'
      refine lv_iinc (v := nI (i + 6)) (lv' := [(3, .int (nI (i + 6))), (0, .ref b), (1, .ref (adX 0)), (2, .ref (adM 0))]) hx hb (dc kd_law_t 0 rfl) hl (k := 3) rfl (nI_add i 6) (by decide) rfl (fun ls hl => ?_)
      refine lv_goto (tgt := 18) hx hb (dc kd_law_t 1 rfl) (by decide) ?_
      exact ih (i + 6) n' S' t' Hs' mX' mM' H1 locs1 ls hi6 (by omega) g' hX' hM' hW' (lv_sub hl [1, 2, 3, 0] rfl)
    refine lv_aload_n hx hb (dc kd_law_h 16 rfl) rfl (lv_at hl 0 rfl) ?_
    refine lv_iload_n hx hb (dc kd_law_h 17 rfl) rfl (lv_at hl 3 rfl) ?_
    refine va_sld (A := fun q : Nat => s.heap.size ≤ q) hx hb hXs hbl (Nat.not_le.mpr hbl) hS (vp_in_nI (show i < L by omega) (by omega)) (dc kd_law_h 18 rfl) ?_
    refine lv_bipush (v := 63) hx hb (dc kd_law_h 19 rfl) (by decide) ?_
    refine lv_iand hx hb (dc kd_law_h 20 rfl) ?_
    obtain ⟨j, hj, ej⟩ := pk_andE (xs (nI i).toNatClampNeg) (m := 63) 6 rfl
    rw [ej]
    have eI := nI_toInt (n := j) (by omega)
    by_cases h53 : 53 < j
    · exact lv_tableOut (tgt := 1642) hx hb (dc kd_law_h 21 rfl) (Or.inr (by rw [eI]; omega)) (by decide) (nx n S t Hs mX mM H locs g hX hM hW)
    have hi5 : i + 5 < L := by omega
    rcases (show j = 0 ∨ j = 1 ∨ j = 2 ∨ j = 3 ∨ j = 4 ∨ j = 5 ∨ j = 6 ∨ j = 7 ∨ j = 8 ∨ j = 9 ∨ j = 10 ∨ j = 11 ∨ j = 12 ∨ j = 13 ∨ j = 14 ∨ j = 15 ∨ j = 16 ∨ j = 17 ∨ j = 18 ∨ j = 19 ∨ j = 20 ∨ j = 21 ∨ j = 22 ∨ j = 23 ∨ j = 24 ∨ j = 25 ∨ j = 26 ∨ j = 27 ∨ j = 28 ∨ j = 29 ∨ j = 30 ∨ j = 31 ∨ j = 32 ∨ j = 33 ∨ j = 34 ∨ j = 35 ∨ j = 36 ∨ j = 37 ∨ j = 38 ∨ j = 39 ∨ j = 40 ∨ j = 41 ∨ j = 42 ∨ j = 43 ∨ j = 44 ∨ j = 45 ∨ j = 46 ∨ j = 47 ∨ j = 48 ∨ j = 49 ∨ j = 50 ∨ j = 51 ∨ j = 52 ∨ j = 53 by omega) with rfl | rfl | rfl | rfl | rfl | rfl | rfl | rfl | rfl | rfl | rfl | rfl | rfl | rfl | rfl | rfl | rfl | rfl | rfl | rfl | rfl | rfl | rfl | rfl | rfl | rfl | rfl | rfl | rfl | rfl | rfl | rfl | rfl | rfl | rfl | rfl | rfl | rfl | rfl | rfl | rfl | rfl | rfl | rfl | rfl | rfl | rfl | rfl | rfl | rfl | rfl | rfl | rfl | rfl
    · exact lv_tableIn (off := 231) (tgt := 264) hx hb (dc kd_law_h 21 rfl) (by rw [eI]; decide) (by rw [eI]; decide) (by rw [eI]; rfl) (by decide) (cs_0 C0 hL hi5 C g hX hM hW hl hcl hsl nx)
    · exact lv_tableIn (off := 294) (tgt := 327) hx hb (dc kd_law_h 21 rfl) (by rw [eI]; decide) (by rw [eI]; decide) (by rw [eI]; rfl) (by decide) (cs_1 C0 hL hi5 C g hX hM hW hl hcl hsl nx)
    · exact lv_tableIn (off := 317) (tgt := 350) hx hb (dc kd_law_h 21 rfl) (by rw [eI]; decide) (by rw [eI]; decide) (by rw [eI]; rfl) (by decide) (cs_2 C0 hL hi5 C g hX hM hW hl hcl hsl nx)
    · exact lv_tableIn (off := 330) (tgt := 363) hx hb (dc kd_law_h 21 rfl) (by rw [eI]; decide) (by rw [eI]; decide) (by rw [eI]; rfl) (by decide) (cs_3 C0 hL hi5 C g hX hM hW hl hcl hsl nx)
    · exact lv_tableIn (off := 353) (tgt := 386) hx hb (dc kd_law_h 21 rfl) (by rw [eI]; decide) (by rw [eI]; decide) (by rw [eI]; rfl) (by decide) (cs_4 C0 hL hi5 C g hX hM hW hl hcl hsl nx)
    · exact lv_tableIn (off := 376) (tgt := 409) hx hb (dc kd_law_h 21 rfl) (by rw [eI]; decide) (by rw [eI]; decide) (by rw [eI]; rfl) (by decide) (cs_5 C0 hL hi5 C g hX hM hW hl hcl hsl nx)
    · exact lv_tableIn (off := 409) (tgt := 442) hx hb (dc kd_law_h 21 rfl) (by rw [eI]; decide) (by rw [eI]; decide) (by rw [eI]; rfl) (by decide) (cs_6 C0 hL hi5 C g hX hM hW hl hcl hsl nx)
    · exact lv_tableIn (off := 442) (tgt := 475) hx hb (dc kd_law_h 21 rfl) (by rw [eI]; decide) (by rw [eI]; decide) (by rw [eI]; rfl) (by decide) (cs_7 C0 hL hi5 C g hX hM hW hl hcl hsl nx)
    · exact lv_tableIn (off := 465) (tgt := 498) hx hb (dc kd_law_h 21 rfl) (by rw [eI]; decide) (by rw [eI]; decide) (by rw [eI]; rfl) (by decide) (cs_8 C0 hL hi5 C g hX hM hW hl hcl hsl nx)
    · exact lv_tableIn (off := 514) (tgt := 547) hx hb (dc kd_law_h 21 rfl) (by rw [eI]; decide) (by rw [eI]; decide) (by rw [eI]; rfl) (by decide) (cs_9 C0 hL hi5 C g hX hM hW hl hcl hsl nx)
    · exact lv_tableIn (off := 547) (tgt := 580) hx hb (dc kd_law_h 21 rfl) (by rw [eI]; decide) (by rw [eI]; decide) (by rw [eI]; rfl) (by decide) (cs_10 C0 hL hi5 C g hX hM hW hl hcl hsl nx)
    · exact lv_tableIn (off := 560) (tgt := 593) hx hb (dc kd_law_h 21 rfl) (by rw [eI]; decide) (by rw [eI]; decide) (by rw [eI]; rfl) (by decide) (cs_11 C0 hL hi5 C g hX hM hW hl hcl hsl nx)
    · exact lv_tableIn (off := 573) (tgt := 606) hx hb (dc kd_law_h 21 rfl) (by rw [eI]; decide) (by rw [eI]; decide) (by rw [eI]; rfl) (by decide) (cs_12 C0 hL hi5 C g hX hM hW hl hcl hsl nx)
    · exact lv_tableIn (off := 596) (tgt := 629) hx hb (dc kd_law_h 21 rfl) (by rw [eI]; decide) (by rw [eI]; decide) (by rw [eI]; rfl) (by decide) (cs_13 C0 hL hi5 C g hX hM hW hl hcl hsl nx)
    · exact lv_tableIn (off := 619) (tgt := 652) hx hb (dc kd_law_h 21 rfl) (by rw [eI]; decide) (by rw [eI]; decide) (by rw [eI]; rfl) (by decide) (cs_14 C0 hL hi5 C g hX hM hW hl hcl hsl nx)
    · exact lv_tableIn (off := 632) (tgt := 665) hx hb (dc kd_law_h 21 rfl) (by rw [eI]; decide) (by rw [eI]; decide) (by rw [eI]; rfl) (by decide) (cs_15 C0 hL hi5 C g hX hM hW hl hcl hsl nx)
    · exact lv_tableIn (off := 665) (tgt := 698) hx hb (dc kd_law_h 21 rfl) (by rw [eI]; decide) (by rw [eI]; decide) (by rw [eI]; rfl) (by decide) (cs_16 C0 hL hi5 C g hX hM hW hl hcl hsl nx)
    · exact lv_tableIn (off := 688) (tgt := 721) hx hb (dc kd_law_h 21 rfl) (by rw [eI]; decide) (by rw [eI]; decide) (by rw [eI]; rfl) (by decide) (cs_17 C0 hL hi5 C g hX hM hW hl hcl hsl nx)
    · exact lv_tableIn (off := 711) (tgt := 744) hx hb (dc kd_law_h 21 rfl) (by rw [eI]; decide) (by rw [eI]; decide) (by rw [eI]; rfl) (by decide) (cs_18 C0 hL hi5 C g hX hM hW hl hcl hsl nx)
    · exact lv_tableIn (off := 734) (tgt := 767) hx hb (dc kd_law_h 21 rfl) (by rw [eI]; decide) (by rw [eI]; decide) (by rw [eI]; rfl) (by decide) (cs_19 C0 hL hi5 C g hX hM hW hl hcl hsl nx)
    · exact lv_tableIn (off := 757) (tgt := 790) hx hb (dc kd_law_h 21 rfl) (by rw [eI]; decide) (by rw [eI]; decide) (by rw [eI]; rfl) (by decide) (cs_20 C0 hL hi5 C g hX hM hW hl hcl hsl nx)
    · exact lv_tableIn (off := 780) (tgt := 813) hx hb (dc kd_law_h 21 rfl) (by rw [eI]; decide) (by rw [eI]; decide) (by rw [eI]; rfl) (by decide) (cs_21 C0 hL hi5 C g hX hM hW hl hcl hsl nx)
    · exact lv_tableIn (off := 803) (tgt := 836) hx hb (dc kd_law_h 21 rfl) (by rw [eI]; decide) (by rw [eI]; decide) (by rw [eI]; rfl) (by decide) (cs_22 C0 hL hi5 C g hX hM hW hl hcl hsl nx)
    · exact lv_tableIn (off := 826) (tgt := 859) hx hb (dc kd_law_h 21 rfl) (by rw [eI]; decide) (by rw [eI]; decide) (by rw [eI]; rfl) (by decide) (cs_23 C0 hL hi5 C g hX hM hW hl hcl hsl nx)
    · exact lv_tableIn (off := 859) (tgt := 892) hx hb (dc kd_law_h 21 rfl) (by rw [eI]; decide) (by rw [eI]; decide) (by rw [eI]; rfl) (by decide) (cs_24 C0 hL hi5 C g hX hM hW hl hcl hsl nx)
    · exact lv_tableIn (off := 882) (tgt := 915) hx hb (dc kd_law_h 21 rfl) (by rw [eI]; decide) (by rw [eI]; decide) (by rw [eI]; rfl) (by decide) (cs_25 C0 hL hi5 C g hX hM hW hl hcl hsl nx)
    · exact lv_tableIn (off := 905) (tgt := 938) hx hb (dc kd_law_h 21 rfl) (by rw [eI]; decide) (by rw [eI]; decide) (by rw [eI]; rfl) (by decide) (cs_26 C0 hL hi5 C g hX hM hW hl hcl hsl nx)
    · exact lv_tableIn (off := 928) (tgt := 961) hx hb (dc kd_law_h 21 rfl) (by rw [eI]; decide) (by rw [eI]; decide) (by rw [eI]; rfl) (by decide) (cs_27 C0 hL hi5 C g hX hM hW hl hcl hsl nx)
    · exact lv_tableIn (off := 951) (tgt := 984) hx hb (dc kd_law_h 21 rfl) (by rw [eI]; decide) (by rw [eI]; decide) (by rw [eI]; rfl) (by decide) (cs_28 C0 hL hi5 C g hX hM hW hl hcl hsl nx)
    · exact lv_tableIn (off := 974) (tgt := 1007) hx hb (dc kd_law_h 21 rfl) (by rw [eI]; decide) (by rw [eI]; decide) (by rw [eI]; rfl) (by decide) (cs_29 C0 hL hi5 C g hX hM hW hl hcl hsl nx)
    · exact lv_tableIn (off := 987) (tgt := 1020) hx hb (dc kd_law_h 21 rfl) (by rw [eI]; decide) (by rw [eI]; decide) (by rw [eI]; rfl) (by decide) (cs_30 C0 hL hi5 C g hX hM hW hl hcl hsl nx)
    · exact lv_tableIn (off := 1010) (tgt := 1043) hx hb (dc kd_law_h 21 rfl) (by rw [eI]; decide) (by rw [eI]; decide) (by rw [eI]; rfl) (by decide) (cs_31 C0 hL hi5 C g hX hM hW hl hcl hsl nx)
    · exact lv_tableIn (off := 1043) (tgt := 1076) hx hb (dc kd_law_h 21 rfl) (by rw [eI]; decide) (by rw [eI]; decide) (by rw [eI]; rfl) (by decide) (cs_32 C0 hL hi5 C g hX hM hW hl hcl hsl nx)
    · exact lv_tableIn (off := 1056) (tgt := 1089) hx hb (dc kd_law_h 21 rfl) (by rw [eI]; decide) (by rw [eI]; decide) (by rw [eI]; rfl) (by decide) (cs_33 C0 hL hi5 C g hX hM hW hl hcl hsl nx)
    · exact lv_tableIn (off := 1089) (tgt := 1122) hx hb (dc kd_law_h 21 rfl) (by rw [eI]; decide) (by rw [eI]; decide) (by rw [eI]; rfl) (by decide) (cs_34 C0 hL hi5 C g hX hM hW hl hcl hsl nx)
    · exact lv_tableIn (off := 1112) (tgt := 1145) hx hb (dc kd_law_h 21 rfl) (by rw [eI]; decide) (by rw [eI]; decide) (by rw [eI]; rfl) (by decide) (cs_35 C0 hL hi5 C g hX hM hW hl hcl hsl nx)
    · exact lv_tableIn (off := 1135) (tgt := 1168) hx hb (dc kd_law_h 21 rfl) (by rw [eI]; decide) (by rw [eI]; decide) (by rw [eI]; rfl) (by decide) (cs_36 C0 hL hi5 C g hX hM hW hl hcl hsl nx)
    · exact lv_tableIn (off := 1158) (tgt := 1191) hx hb (dc kd_law_h 21 rfl) (by rw [eI]; decide) (by rw [eI]; decide) (by rw [eI]; rfl) (by decide) (cs_37 C0 hL hi5 C g hX hM hW hl hcl hsl nx)
    · exact lv_tableIn (off := 1181) (tgt := 1214) hx hb (dc kd_law_h 21 rfl) (by rw [eI]; decide) (by rw [eI]; decide) (by rw [eI]; rfl) (by decide) (cs_38 C0 hL hi5 C g hX hM hW hl hcl hsl nx)
    · exact lv_tableIn (off := 1204) (tgt := 1237) hx hb (dc kd_law_h 21 rfl) (by rw [eI]; decide) (by rw [eI]; decide) (by rw [eI]; rfl) (by decide) (cs_39 C0 hL hi5 C g hX hM hW hl hcl hsl nx)
    · exact lv_tableIn (off := 1227) (tgt := 1260) hx hb (dc kd_law_h 21 rfl) (by rw [eI]; decide) (by rw [eI]; decide) (by rw [eI]; rfl) (by decide) (cs_40 C0 hL hi5 C g hX hM hW hl hcl hsl nx)
    · exact lv_tableIn (off := 1250) (tgt := 1283) hx hb (dc kd_law_h 21 rfl) (by rw [eI]; decide) (by rw [eI]; decide) (by rw [eI]; rfl) (by decide) (cs_41 C0 hL hi5 C g hX hM hW hl hcl hsl nx)
    · exact lv_tableIn (off := 1273) (tgt := 1306) hx hb (dc kd_law_h 21 rfl) (by rw [eI]; decide) (by rw [eI]; decide) (by rw [eI]; rfl) (by decide) (cs_42 C0 hL hi5 C g hX hM hW hl hcl hsl nx)
    · exact lv_tableIn (off := 1296) (tgt := 1329) hx hb (dc kd_law_h 21 rfl) (by rw [eI]; decide) (by rw [eI]; decide) (by rw [eI]; rfl) (by decide) (cs_43 C0 hL hi5 C g hX hM hW hl hcl hsl nx)
    · exact lv_tableIn (off := 1329) (tgt := 1362) hx hb (dc kd_law_h 21 rfl) (by rw [eI]; decide) (by rw [eI]; decide) (by rw [eI]; rfl) (by decide) (cs_44 C0 hL hi5 C g hX hM hW hl hcl hsl nx)
    · exact lv_tableIn (off := 1362) (tgt := 1395) hx hb (dc kd_law_h 21 rfl) (by rw [eI]; decide) (by rw [eI]; decide) (by rw [eI]; rfl) (by decide) (cs_45 C0 hL hi5 C g hX hM hW hl hcl hsl nx)
    · exact lv_tableIn (off := 1405) (tgt := 1438) hx hb (dc kd_law_h 21 rfl) (by rw [eI]; decide) (by rw [eI]; decide) (by rw [eI]; rfl) (by decide) (cs_46 C0 hL hi5 C g hX hM hW hl hcl hsl nx)
    · exact lv_tableIn (off := 1428) (tgt := 1461) hx hb (dc kd_law_h 21 rfl) (by rw [eI]; decide) (by rw [eI]; decide) (by rw [eI]; rfl) (by decide) (cs_47 C0 hL hi5 C g hX hM hW hl hcl hsl nx)
    · exact lv_tableIn (off := 1461) (tgt := 1494) hx hb (dc kd_law_h 21 rfl) (by rw [eI]; decide) (by rw [eI]; decide) (by rw [eI]; rfl) (by decide) (cs_48 C0 hL hi5 C g hX hM hW hl hcl hsl nx)
    · exact lv_tableIn (off := 1484) (tgt := 1517) hx hb (dc kd_law_h 21 rfl) (by rw [eI]; decide) (by rw [eI]; decide) (by rw [eI]; rfl) (by decide) (cs_49 C0 hL hi5 C g hX hM hW hl hcl hsl nx)
    · exact lv_tableIn (off := 1507) (tgt := 1540) hx hb (dc kd_law_h 21 rfl) (by rw [eI]; decide) (by rw [eI]; decide) (by rw [eI]; rfl) (by decide) (cs_50 C0 hL hi5 C g hX hM hW hl hcl hsl nx)
    · exact lv_tableIn (off := 1530) (tgt := 1563) hx hb (dc kd_law_h 21 rfl) (by rw [eI]; decide) (by rw [eI]; decide) (by rw [eI]; rfl) (by decide) (cs_51 C0 hL hi5 C g hX hM hW hl hcl hsl nx)
    · exact lv_tableIn (off := 1553) (tgt := 1586) hx hb (dc kd_law_h 21 rfl) (by rw [eI]; decide) (by rw [eI]; decide) (by rw [eI]; rfl) (by decide) (cs_52 C0 hL hi5 C g hX hM hW hl hcl hsl nx)
    · exact lv_tableIn (off := 1586) (tgt := 1619) hx hb (dc kd_law_h 21 rfl) (by rw [eI]; decide) (by rw [eI]; decide) (by rw [eI]; rfl) (by decide) (cs_53 C0 hL hi5 C g hX hM hW hl hcl hsl nx)
