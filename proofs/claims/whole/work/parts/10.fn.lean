/-! the small methods as functions -/
def bcA (x : Int32) : Int32 := x - (((x.toUInt32 >>> ((1 : Int32).toUInt32 &&& Int32.toUInt32 31)).toInt32) &&& 1431655765)
def bcB (y : Int32) : Int32 := (y &&& 858993459) + (((y.toUInt32 >>> ((2 : Int32).toUInt32 &&& Int32.toUInt32 31)).toInt32) &&& 858993459)
def bcC (y : Int32) : Int32 := (y + ((y.toUInt32 >>> ((4 : Int32).toUInt32 &&& Int32.toUInt32 31)).toInt32)) &&& 252645135
def bcD (y : Int32) : Int32 := y + ((y.toUInt32 >>> ((8 : Int32).toUInt32 &&& Int32.toUInt32 31)).toInt32)
def bcE (y : Int32) : Int32 := y + ((y.toUInt32 >>> ((16 : Int32).toUInt32 &&& Int32.toUInt32 31)).toInt32)
def bcF (x : Int32) : Int32 := bcE (bcD (bcC (bcB (bcA x)))) &&& 63
def lobF (x : Int32) : Int32 := x &&& (-x)
def us (x : Int32) (k : Int32) : Int32 := (x.toUInt32 >>> (k.toUInt32 &&& Int32.toUInt32 31)).toInt32
def ntz2 (x n : Int32) : Int32 := if x ≤ 16 then (if x ≤ 4 then n + us x 1 else (n + 2) + us (us x 2) 1) else (if us x 4 ≤ 4 then (n + 4) + us (us x 4) 1 else ((n + 4) + 2) + us (us (us x 4) 2) 1)
def ntz1 (x n : Int32) : Int32 := if x ≤ 256 then ntz2 x n else ntz2 (us x 8) (n + 8)
def ntzF (x : Int32) : Int32 := if 0 < ((x ^^^ (-1)) &&& (x - 1)) then (if ((x ^^^ (-1)) &&& (x - 1)) ≤ 65536 then ntz1 ((x ^^^ (-1)) &&& (x - 1)) 1 else ntz1 (us ((x ^^^ (-1)) &&& (x - 1)) 16) (1 + 16)) else ((x ^^^ (-1)) &&& (x - 1)) &&& 32
def alF (n : Int32) : Int32 := ((1 : Int32) <<< (n &&& 31)) - 1
def atF (mem : Mem) (f : Nat) (i : Int32) : Int32 := if 0 ≤ i ∧ i < 17 then mem (f + 1) i.toNatClampNeg else 0
def tpF (mem : Mem) (i : Int32) : Int32 := if 0 ≤ i ∧ i < mem 8 1 ∧ i < 400 then mem 9 i.toNatClampNeg &&& 255 else -1
def tcF (mem : Mem) (i : Int32) : Int32 := if 0 ≤ i ∧ i < 1024 then mem 13 i.toNatClampNeg else 0
theorem i_nl {x y : Int32} : ¬ x < y ↔ y ≤ x := Int32.not_lt
theorem i_nle {x y : Int32} : ¬ x ≤ y ↔ y < x := Int32.not_le
theorem vin_of {i : Int32} {n : Nat} {b : Int32} (h0 : 0 ≤ i) (h1 : i < b) (hb : b.toInt = n) : vp_in i n := by
  rw [vp_in_iff]
  have a := Int32.le_iff_toInt_le.mp h0
  have c := Int32.lt_iff_toInt_lt.mp h1
  rw [hb] at c
  exact ⟨by simpa using a, c⟩
section FNA
variable {sh : List Sh} {d f : Nat} {x y z : Int32} {mem : Mem}
theorem f_bitCount : CI sh m_Ig_bitCount d [.int x] mem (fun r m' => r = bcF x ∧ m' = mem) := by
  refine e_Ig_bitCount ?_
  repeat (intro y ey; subst ey)
  exact ⟨rfl, rfl⟩
theorem f_lowestOneBit : CI sh m_Ig_lowestOneBit d [.int x] mem (fun r m' => r = lobF x ∧ m' = mem) := e_Ig_lowestOneBit ⟨rfl, rfl⟩
theorem f_ntz2 : Wp sh m_Ig_numberOfTrailingZeros d 49 [some (.int x), some (.int y)] [] mem (QI (fun r m' => r = ntz2 x y ∧ m' = mem)) := by
  refine b_Ig_numberOfTrailingZeros_49 ⟨fun c1 => ⟨fun c2 => ?_, fun c2 => ?_⟩, fun c1 => ⟨fun c2 => ?_, fun c2 => ?_⟩⟩
  · exact ⟨by simp only [ntz2, if_pos c1, if_pos c2]; rfl, rfl⟩
  · exact ⟨by simp only [ntz2, if_pos c1, if_neg c2]; rfl, rfl⟩
  · exact ⟨by rw [ntz2, if_neg c1, if_pos (show us x 4 ≤ 4 from c2)]; rfl, rfl⟩
  · intro y0 e0
    subst e0
    exact ⟨by rw [ntz2, if_neg c1, if_neg (show ¬ us x 4 ≤ 4 from c2)]; rfl, rfl⟩
theorem f_ntz1 : Wp sh m_Ig_numberOfTrailingZeros d 34 [some (.int x), some (.int y)] [] mem (QI (fun r m' => r = ntz1 x y ∧ m' = mem)) := by
  refine b_Ig_numberOfTrailingZeros_34 ⟨fun c1 => ?_, fun c1 => ?_⟩
  · rw [ntz1, if_pos c1]; exact f_ntz2
  · rw [ntz1, if_neg c1]; exact f_ntz2
theorem f_ntz : CI sh m_Ig_numberOfTrailingZeros d [.int x] mem (fun r m' => r = ntzF x ∧ m' = mem) := by
  refine e_Ig_numberOfTrailingZeros ⟨fun c1 => ⟨fun c2 => ?_, fun c2 => ?_⟩, fun c1 => ?_⟩
  · rw [ntzF, if_pos c1, if_pos c2]; exact f_ntz1
  · intro y0 e0
    subst e0
    rw [ntzF, if_pos c1, if_neg c2]
    exact f_ntz1
  · exact ⟨by rw [ntzF, if_neg c1], rfl⟩
theorem f_at (hf : IsF f) : CI shX m_Family_at d [.ref f, .int x] mem (fun r m' => r = atF mem f x ∧ m' = mem) := by
  refine e_Family_at hf ⟨fun c1 => ⟨?_, rfl⟩, fun c1 => ⟨fun c2 => ⟨?_, rfl⟩, fun c2 => ⟨vin_of (i_nl.mp c1) (i_nle.mp c2) rfl, ?_, rfl⟩⟩⟩
  · rw [atF, if_neg (fun h => i_nl.mpr h.1 c1)]
  · rw [atF, if_neg (fun h => i_nle.mpr h.2 c2)]
  · rw [atF, if_pos ⟨i_nl.mp c1, i_nle.mp c2⟩]
theorem f_allPoints (hf : IsF f) : CI shX m_Family_allPoints d [.ref f] mem (fun r m' => r = alF (mem f 2) ∧ m' = mem) := e_Family_allPoints hf ⟨rfl, rfl⟩
theorem f_allSets (hf : IsF f) : CI shX m_Family_allSets d [.ref f] mem (fun r m' => r = alF (mem f 1) ∧ m' = mem) := e_Family_allSets hf ⟨rfl, rfl⟩
theorem f_isPoint (hf : IsF f) : CI shX m_Family_isPoint d [.ref f, .int x] mem (fun r m' => r = b2i (0 ≤ x ∧ x < mem f 2) ∧ m' = mem) := by
  refine e_Family_isPoint hf ⟨fun c1 => ⟨?_, rfl⟩, fun c1 => ⟨fun c2 => ⟨?_, rfl⟩, fun c2 => ⟨?_, rfl⟩⟩⟩
  · rw [b2i_f (fun h => i_nl.mpr h.1 c1)]
  · rw [b2i_f (fun h => i_nle.mpr h.2 c2)]
  · rw [b2i_t ⟨i_nl.mp c1, i_nle.mp c2⟩]
theorem f_holds (hf : IsF f) : CI shX m_Family_holds d [.ref f, .int x] mem (fun r m' => r = b2i (0 ≤ x ∧ x < mem f 1) ∧ m' = mem) := by
  refine e_Family_holds hf ⟨fun c1 => ⟨?_, rfl⟩, fun c1 => ⟨fun c2 => ⟨?_, rfl⟩, fun c2 => ⟨?_, rfl⟩⟩⟩
  · rw [b2i_f (fun h => i_nl.mpr h.1 c1)]
  · rw [b2i_f (fun h => i_nle.mpr h.2 c2)]
  · rw [b2i_t ⟨i_nl.mp c1, i_nle.mp c2⟩]
theorem f_isBudget : CI shX m_PS_isBudget d [.int x] mem (fun r m' => r = b2i (1 ≤ x ∧ x ≤ 5) ∧ m' = mem) := by
  refine e_PS_isBudget ⟨fun c1 => ⟨?_, rfl⟩, fun c1 => ⟨fun c2 => ⟨?_, rfl⟩, fun c2 => ⟨?_, rfl⟩⟩⟩
  · rw [b2i_f (fun h => i_nl.mpr h.1 c1)]
  · rw [b2i_f (fun h => i_nl.mpr h.2 c2)]
  · rw [b2i_t ⟨i_nl.mp c1, i_nl.mp c2⟩]
theorem f_isFlowerSize : CI shX m_PS_isFlowerSize d [.int x] mem (fun r m' => r = b2i (2 ≤ x ∧ x ≤ 16) ∧ m' = mem) := by
  refine e_PS_isFlowerSize ⟨fun c1 => ⟨?_, rfl⟩, fun c1 => ⟨fun c2 => ⟨?_, rfl⟩, fun c2 => ⟨?_, rfl⟩⟩⟩
  · rw [b2i_f (fun h => i_nl.mpr h.1 c1)]
  · rw [b2i_f (fun h => i_nl.mpr h.2 c2)]
  · rw [b2i_t ⟨i_nl.mp c1, i_nl.mp c2⟩]
theorem f_tapeAt : CI shX m_Tape_at d [.ref 8, .int x] mem (fun r m' => r = tpF mem x ∧ m' = mem) := by
  refine e_Tape_at ⟨fun c1 => ⟨?_, rfl⟩, fun c1 => ⟨fun c2 => ⟨?_, rfl⟩, fun c2 => ⟨fun c3 => ⟨?_, rfl⟩, fun c3 => ⟨vin_of (i_nl.mp c1) (i_nle.mp c3) rfl, ?_, rfl⟩⟩⟩⟩
  · rw [tpF, if_neg (fun h => i_nl.mpr h.1 c1)]
  · rw [tpF, if_neg (fun h => i_nle.mpr h.2.1 c2)]
  · rw [tpF, if_neg (fun h => i_nle.mpr h.2.2 c3)]
  · rw [tpF, if_pos ⟨i_nl.mp c1, i_nle.mp c2, i_nle.mp c3⟩]
theorem f_touched : CI shX m_Touch_touched d [.ref 11, .int x] mem (fun r m' => r = tcF mem x ∧ m' = mem) := by
  refine e_Touch_touched ⟨fun c1 => ⟨?_, rfl⟩, fun c1 => ⟨fun c2 => ⟨?_, rfl⟩, fun c2 => ⟨vin_of (i_nl.mp c1) (i_nle.mp c2) rfl, ?_, rfl⟩⟩⟩
  · rw [tcF, if_neg (fun h => i_nl.mpr h.1 c1)]
  · rw [tcF, if_neg (fun h => i_nle.mpr h.2 c2)]
  · rw [tcF, if_pos ⟨i_nl.mp c1, i_nle.mp c2⟩]
theorem f_in : CI shM m_Mo_in d [.int x, .int y, .int z] mem (fun r m' => r = b2i (y ≤ x ∧ x ≤ z) ∧ m' = mem) := by
  refine e_Mo_in ⟨fun c1 => ⟨?_, rfl⟩, fun c1 => ⟨fun c2 => ⟨?_, rfl⟩, fun c2 => ⟨?_, rfl⟩⟩⟩
  · rw [b2i_f (fun h => i_nl.mpr h.1 c1)]
  · rw [b2i_f (fun h => i_nl.mpr h.2 c2)]
  · rw [b2i_t ⟨i_nl.mp c1, i_nl.mp c2⟩]
theorem f_has : CI shM m_Mo_has d [.int x, .int y] mem (fun r m' => r = b2i ((x >>> (y &&& 31)) &&& 1 = 1) ∧ m' = mem) := by
  refine e_Mo_has ⟨fun c1 => ⟨?_, rfl⟩, fun c1 => ⟨?_, rfl⟩⟩
  · rw [b2i_f c1]
  · rw [b2i_t c1]
theorem f_isWithin : CI shM m_Mo_isWithin d [.int x, .int y] mem (fun r m' => r = b2i (x &&& (y ^^^ (-1)) = 0) ∧ m' = mem) := by
  refine e_Mo_isWithin ⟨fun c1 => ⟨?_, rfl⟩, fun c1 => ⟨?_, rfl⟩⟩
  · rw [b2i_f c1]
  · rw [b2i_t c1]
theorem f_many : CI shM m_Mo_many d [.ref 0] mem (fun r m' => r = mem 1 1 ∧ m' = mem) := e_Mo_many ⟨rfl, rfl⟩
theorem f_its (h : vp_in (2 + x) 18) : CI shM m_Mo_its d [.ref 0, .int x] mem (fun r m' => r = mem 1 (2 + x).toNatClampNeg ∧ m' = mem) := e_Mo_its ⟨h, rfl, rfl⟩
theorem f_MallPoints : CI shM m_Mo_allPoints d [.ref 0] mem (fun r m' => r = alF (mem 1 0) ∧ m' = mem) := e_Mo_allPoints ⟨rfl, rfl⟩
end FNA

set_option maxRecDepth 100000 in
theorem e_Family_arePoints {d : Nat} {f : Nat} {a0 : Int32} {mem : Mem} {K : Int32 → Mem → Prop} (hf : IsF f) (H : (a0 < 0 → K 0 mem) ∧ (¬ a0 < 0 → ((alF (mem f 2)) < a0 → K 0 mem) ∧ (¬ (alF (mem f 2)) < a0 → K 1 mem))) : CI shX m_Family_arePoints (d + 1) [.ref f, .int a0] mem K := cll_of [some (.ref f), some (.int a0)] ok_Family_arePoints (Nat.le_of_ble_eq_true rfl) rfl (wp_iload_n (dc kd_Family_arePoints 0 rfl) rfl (wp_if_lt (tgt := 16) (dc kd_Family_arePoints 1 rfl) rfl (fun c0 => (wp_iconst (dc kd_Family_arePoints 8 rfl) 0 ic_0 (wp_zret (dc kd_Family_arePoints 9 rfl) rfl (Or.inl rfl) ⟨_, rfl, (H.1 c0)⟩))) (fun c0 => (wp_iload_n (dc kd_Family_arePoints 2 rfl) rfl (wp_aload_n (dc kd_Family_arePoints 3 rfl) rfl (wp_vIF (b := f) [] [.int a0] (dc kd_Family_arePoints 4 rfl) mv_Family_22 hf.1 rfl rfl rfl (Nat.le_of_ble_eq_true rfl) (f_allPoints hf) (wp_icmp_gt (tgt := 16) (dc kd_Family_arePoints 5 rfl) rfl (fun c1 => (wp_iconst (dc kd_Family_arePoints 8 rfl) 0 ic_0 (wp_zret (dc kd_Family_arePoints 9 rfl) rfl (Or.inl rfl) ⟨_, rfl, ((H.2 c0).1 c1)⟩))) (fun c1 => (wp_iconst (dc kd_Family_arePoints 6 rfl) 1 ic_1 (wp_goto (tgt := 17) (dc kd_Family_arePoints 7 rfl) rfl (wp_zret (dc kd_Family_arePoints 9 rfl) rfl (Or.inr rfl) ⟨_, rfl, ((H.2 c0).2 c1)⟩)))))))))))
set_option maxRecDepth 100000 in
theorem e_Family_isSet {d : Nat} {f : Nat} {a0 : Int32} {mem : Mem} {K : Int32 → Mem → Prop} (hf : IsF f) (H : (a0 ≤ 0 → K 0 mem) ∧ (¬ a0 ≤ 0 → ((alF (mem f 2)) < a0 → K 0 mem) ∧ (¬ (alF (mem f 2)) < a0 → K 1 mem))) : CI shX m_Family_isSet (d + 1) [.ref f, .int a0] mem K := cll_of [some (.ref f), some (.int a0)] ok_Family_isSet (Nat.le_of_ble_eq_true rfl) rfl (wp_iload_n (dc kd_Family_isSet 0 rfl) rfl (wp_if_le (tgt := 16) (dc kd_Family_isSet 1 rfl) rfl (fun c0 => (wp_iconst (dc kd_Family_isSet 8 rfl) 0 ic_0 (wp_zret (dc kd_Family_isSet 9 rfl) rfl (Or.inl rfl) ⟨_, rfl, (H.1 c0)⟩))) (fun c0 => (wp_iload_n (dc kd_Family_isSet 2 rfl) rfl (wp_aload_n (dc kd_Family_isSet 3 rfl) rfl (wp_vIF (b := f) [] [.int a0] (dc kd_Family_isSet 4 rfl) mv_Family_22 hf.1 rfl rfl rfl (Nat.le_of_ble_eq_true rfl) (f_allPoints hf) (wp_icmp_gt (tgt := 16) (dc kd_Family_isSet 5 rfl) rfl (fun c1 => (wp_iconst (dc kd_Family_isSet 8 rfl) 0 ic_0 (wp_zret (dc kd_Family_isSet 9 rfl) rfl (Or.inl rfl) ⟨_, rfl, ((H.2 c0).1 c1)⟩))) (fun c1 => (wp_iconst (dc kd_Family_isSet 6 rfl) 1 ic_1 (wp_goto (tgt := 17) (dc kd_Family_isSet 7 rfl) rfl (wp_zret (dc kd_Family_isSet 9 rfl) rfl (Or.inr rfl) ⟨_, rfl, ((H.2 c0).2 c1)⟩)))))))))))
set_option maxRecDepth 100000 in
theorem e_Family_areSets {d : Nat} {f : Nat} {a0 : Int32} {mem : Mem} {K : Int32 → Mem → Prop} (hf : IsF f) (H : (a0 < 0 → K 0 mem) ∧ (¬ a0 < 0 → ((alF (mem f 1)) < a0 → K 0 mem) ∧ (¬ (alF (mem f 1)) < a0 → K 1 mem))) : CI shX m_Family_areSets (d + 1) [.ref f, .int a0] mem K := cll_of [some (.ref f), some (.int a0)] ok_Family_areSets (Nat.le_of_ble_eq_true rfl) rfl (wp_iload_n (dc kd_Family_areSets 0 rfl) rfl (wp_if_lt (tgt := 16) (dc kd_Family_areSets 1 rfl) rfl (fun c0 => (wp_iconst (dc kd_Family_areSets 8 rfl) 0 ic_0 (wp_zret (dc kd_Family_areSets 9 rfl) rfl (Or.inl rfl) ⟨_, rfl, (H.1 c0)⟩))) (fun c0 => (wp_iload_n (dc kd_Family_areSets 2 rfl) rfl (wp_aload_n (dc kd_Family_areSets 3 rfl) rfl (wp_vIF (b := f) [] [.int a0] (dc kd_Family_areSets 4 rfl) mv_Family_26 hf.1 rfl rfl rfl (Nat.le_of_ble_eq_true rfl) (f_allSets hf) (wp_icmp_gt (tgt := 16) (dc kd_Family_areSets 5 rfl) rfl (fun c1 => (wp_iconst (dc kd_Family_areSets 8 rfl) 0 ic_0 (wp_zret (dc kd_Family_areSets 9 rfl) rfl (Or.inl rfl) ⟨_, rfl, ((H.2 c0).1 c1)⟩))) (fun c1 => (wp_iconst (dc kd_Family_areSets 6 rfl) 1 ic_1 (wp_goto (tgt := 17) (dc kd_Family_areSets 7 rfl) rfl (wp_zret (dc kd_Family_areSets 9 rfl) rfl (Or.inr rfl) ⟨_, rfl, ((H.2 c0).2 c1)⟩)))))))))))
set_option maxRecDepth 100000 in
theorem e_Tape_isLetter {d : Nat} {a0 : Int32} {mem : Mem} {K : Int32 → Mem → Prop}  (H : ((tpF mem a0) < 97 → K 0 mem) ∧ (¬ (tpF mem a0) < 97 → (122 < (tpF mem a0) → K 0 mem) ∧ (¬ 122 < (tpF mem a0) → K 1 mem))) : CI shX m_Tape_isLetter (d + 1) [.ref 8, .int a0] mem K := cll_of [some (.ref 8), some (.int a0)] ok_Tape_isLetter (Nat.le_of_ble_eq_true rfl) rfl (wp_aload_n (dc kd_Tape_isLetter 0 rfl) rfl (wp_iload_n (dc kd_Tape_isLetter 1 rfl) rfl (wp_vIF (b := 8) [.int a0] [] (dc kd_Tape_isLetter 2 rfl) mv_Tape_19 rfl rfl rfl rfl (Nat.le_of_ble_eq_true rfl) f_tapeAt (wp_bipush (dc kd_Tape_isLetter 3 rfl) 97 bp_97 (wp_icmp_lt (tgt := 24) (dc kd_Tape_isLetter 4 rfl) rfl (fun c0 => (wp_iconst (dc kd_Tape_isLetter 12 rfl) 0 ic_0 (wp_zret (dc kd_Tape_isLetter 13 rfl) rfl (Or.inl rfl) ⟨_, rfl, (H.1 c0)⟩))) (fun c0 => (wp_aload_n (dc kd_Tape_isLetter 5 rfl) rfl (wp_iload_n (dc kd_Tape_isLetter 6 rfl) rfl (wp_vIF (b := 8) [.int a0] [] (dc kd_Tape_isLetter 7 rfl) mv_Tape_19 rfl rfl rfl rfl (Nat.le_of_ble_eq_true rfl) f_tapeAt (wp_bipush (dc kd_Tape_isLetter 8 rfl) 122 bp_122 (wp_icmp_gt (tgt := 24) (dc kd_Tape_isLetter 9 rfl) rfl (fun c1 => (wp_iconst (dc kd_Tape_isLetter 12 rfl) 0 ic_0 (wp_zret (dc kd_Tape_isLetter 13 rfl) rfl (Or.inl rfl) ⟨_, rfl, ((H.2 c0).1 c1)⟩))) (fun c1 => (wp_iconst (dc kd_Tape_isLetter 10 rfl) 1 ic_1 (wp_goto (tgt := 25) (dc kd_Tape_isLetter 11 rfl) rfl (wp_zret (dc kd_Tape_isLetter 13 rfl) rfl (Or.inr rfl) ⟨_, rfl, ((H.2 c0).2 c1)⟩)))))))))))))))
set_option maxRecDepth 100000 in
theorem e_Tape_isDigit {d : Nat} {a0 : Int32} {mem : Mem} {K : Int32 → Mem → Prop}  (H : ((tpF mem a0) < 48 → K 0 mem) ∧ (¬ (tpF mem a0) < 48 → (57 < (tpF mem a0) → K 0 mem) ∧ (¬ 57 < (tpF mem a0) → K 1 mem))) : CI shX m_Tape_isDigit (d + 1) [.ref 8, .int a0] mem K := cll_of [some (.ref 8), some (.int a0)] ok_Tape_isDigit (Nat.le_of_ble_eq_true rfl) rfl (wp_aload_n (dc kd_Tape_isDigit 0 rfl) rfl (wp_iload_n (dc kd_Tape_isDigit 1 rfl) rfl (wp_vIF (b := 8) [.int a0] [] (dc kd_Tape_isDigit 2 rfl) mv_Tape_19 rfl rfl rfl rfl (Nat.le_of_ble_eq_true rfl) f_tapeAt (wp_bipush (dc kd_Tape_isDigit 3 rfl) 48 bp_48 (wp_icmp_lt (tgt := 24) (dc kd_Tape_isDigit 4 rfl) rfl (fun c0 => (wp_iconst (dc kd_Tape_isDigit 12 rfl) 0 ic_0 (wp_zret (dc kd_Tape_isDigit 13 rfl) rfl (Or.inl rfl) ⟨_, rfl, (H.1 c0)⟩))) (fun c0 => (wp_aload_n (dc kd_Tape_isDigit 5 rfl) rfl (wp_iload_n (dc kd_Tape_isDigit 6 rfl) rfl (wp_vIF (b := 8) [.int a0] [] (dc kd_Tape_isDigit 7 rfl) mv_Tape_19 rfl rfl rfl rfl (Nat.le_of_ble_eq_true rfl) f_tapeAt (wp_bipush (dc kd_Tape_isDigit 8 rfl) 57 bp_57 (wp_icmp_gt (tgt := 24) (dc kd_Tape_isDigit 9 rfl) rfl (fun c1 => (wp_iconst (dc kd_Tape_isDigit 12 rfl) 0 ic_0 (wp_zret (dc kd_Tape_isDigit 13 rfl) rfl (Or.inl rfl) ⟨_, rfl, ((H.2 c0).1 c1)⟩))) (fun c1 => (wp_iconst (dc kd_Tape_isDigit 10 rfl) 1 ic_1 (wp_goto (tgt := 25) (dc kd_Tape_isDigit 11 rfl) rfl (wp_zret (dc kd_Tape_isDigit 13 rfl) rfl (Or.inr rfl) ⟨_, rfl, ((H.2 c0).2 c1)⟩)))))))))))))))
set_option maxRecDepth 100000 in
theorem e_Tape_isBlank {d : Nat} {a0 : Int32} {mem : Mem} {K : Int32 → Mem → Prop}  (H : ((tpF mem a0) = 32 → K 1 mem) ∧ (¬ (tpF mem a0) = 32 → (¬ (tpF mem a0) = 10 → K 0 mem) ∧ ((tpF mem a0) = 10 → K 1 mem))) : CI shX m_Tape_isBlank (d + 1) [.ref 8, .int a0] mem K := cll_of [some (.ref 8), some (.int a0)] ok_Tape_isBlank (Nat.le_of_ble_eq_true rfl) rfl (wp_aload_n (dc kd_Tape_isBlank 0 rfl) rfl (wp_iload_n (dc kd_Tape_isBlank 1 rfl) rfl (wp_vIF (b := 8) [.int a0] [] (dc kd_Tape_isBlank 2 rfl) mv_Tape_19 rfl rfl rfl rfl (Nat.le_of_ble_eq_true rfl) f_tapeAt (wp_bipush (dc kd_Tape_isBlank 3 rfl) 32 bp_32 (wp_icmp_eq (tgt := 20) (dc kd_Tape_isBlank 4 rfl) rfl (fun c0 => (wp_iconst (dc kd_Tape_isBlank 10 rfl) 1 ic_1 (wp_goto (tgt := 25) (dc kd_Tape_isBlank 11 rfl) rfl (wp_zret (dc kd_Tape_isBlank 13 rfl) rfl (Or.inr rfl) ⟨_, rfl, (H.1 c0)⟩)))) (fun c0 => (wp_aload_n (dc kd_Tape_isBlank 5 rfl) rfl (wp_iload_n (dc kd_Tape_isBlank 6 rfl) rfl (wp_vIF (b := 8) [.int a0] [] (dc kd_Tape_isBlank 7 rfl) mv_Tape_19 rfl rfl rfl rfl (Nat.le_of_ble_eq_true rfl) f_tapeAt (wp_bipush (dc kd_Tape_isBlank 8 rfl) 10 bp_10 (wp_icmp_ne (tgt := 24) (dc kd_Tape_isBlank 9 rfl) rfl (fun c1 => (wp_iconst (dc kd_Tape_isBlank 12 rfl) 0 ic_0 (wp_zret (dc kd_Tape_isBlank 13 rfl) rfl (Or.inl rfl) ⟨_, rfl, ((H.2 c0).1 c1)⟩))) (fun c1 => (wp_iconst (dc kd_Tape_isBlank 10 rfl) 1 ic_1 (wp_goto (tgt := 25) (dc kd_Tape_isBlank 11 rfl) rfl (wp_zret (dc kd_Tape_isBlank 13 rfl) rfl (Or.inr rfl) ⟨_, rfl, ((H.2 c0).2 c1)⟩)))))))))))))))
set_option maxRecDepth 100000 in
theorem e_Touch_untouched {d : Nat} {a0 : Int32} {mem : Mem} {K : Int32 → Mem → Prop}  (H : K (bcF ((mem 11 2) &&& ((tcF mem a0) ^^^ (-1)))) mem) : CI shX m_Touch_untouched (d + 1) [.ref 11, .int a0] mem K := cll_of [some (.ref 11), some (.int a0)] ok_Touch_untouched (Nat.le_of_ble_eq_true rfl) rfl (wp_aload_n (dc kd_Touch_untouched 0 rfl) rfl (wp_getI (dc kd_Touch_untouched 1 rfl) fl_Touch_18 rfl rfl (wp_aload_n (dc kd_Touch_untouched 2 rfl) rfl (wp_iload_n (dc kd_Touch_untouched 3 rfl) rfl (wp_vIF (b := 11) [.int a0] [.int (mem 11 2)] (dc kd_Touch_untouched 4 rfl) mv_Touch_57 rfl rfl rfl rfl (Nat.le_of_ble_eq_true rfl) f_touched (wp_iconst (dc kd_Touch_untouched 5 rfl) (-1) ic_m1 (wp_ixor (dc kd_Touch_untouched 6 rfl) (wp_iand (dc kd_Touch_untouched 7 rfl) (wp_sIF [.int ((mem 11 2) &&& ((tcF mem a0) ^^^ (-1)))] [] (dc kd_Touch_untouched 8 rfl) ms_Touch_60 rfl rfl (Nat.le_of_ble_eq_true rfl) f_bitCount (wp_iret (dc kd_Touch_untouched 9 rfl) rfl ⟨_, rfl, H⟩))))))))))
set_option maxRecDepth 100000 in
theorem e_Touch_touchesAll {d : Nat} {a0 : Int32} {mem : Mem} {K : Int32 → Mem → Prop}  (H : (¬ (tcF mem a0) = (mem 11 2) → K 0 mem) ∧ ((tcF mem a0) = (mem 11 2) → K 1 mem)) : CI shX m_Touch_touchesAll (d + 1) [.ref 11, .int a0] mem K := cll_of [some (.ref 11), some (.int a0)] ok_Touch_touchesAll (Nat.le_of_ble_eq_true rfl) rfl (wp_aload_n (dc kd_Touch_touchesAll 0 rfl) rfl (wp_iload_n (dc kd_Touch_touchesAll 1 rfl) rfl (wp_vIF (b := 11) [.int a0] [] (dc kd_Touch_touchesAll 2 rfl) mv_Touch_57 rfl rfl rfl rfl (Nat.le_of_ble_eq_true rfl) f_touched (wp_aload_n (dc kd_Touch_touchesAll 3 rfl) rfl (wp_getI (dc kd_Touch_touchesAll 4 rfl) fl_Touch_18 rfl rfl (wp_icmp_ne (tgt := 16) (dc kd_Touch_touchesAll 5 rfl) rfl (fun c0 => (wp_iconst (dc kd_Touch_touchesAll 8 rfl) 0 ic_0 (wp_zret (dc kd_Touch_touchesAll 9 rfl) rfl (Or.inl rfl) ⟨_, rfl, (H.1 c0)⟩))) (fun c0 => (wp_iconst (dc kd_Touch_touchesAll 6 rfl) 1 ic_1 (wp_goto (tgt := 17) (dc kd_Touch_touchesAll 7 rfl) rfl (wp_zret (dc kd_Touch_touchesAll 9 rfl) rfl (Or.inr rfl) ⟨_, rfl, (H.2 c0)⟩))))))))))
set_option maxRecDepth 100000 in
theorem e_Mo_isThere {d : Nat} {a0 : Int32} {mem : Mem} {K : Int32 → Mem → Prop}  (H : K (b2i (0 ≤ a0 ∧ a0 ≤ ((mem 1 1) - 1))) mem) : CI shM m_Mo_isThere (d + 1) [.ref 0, .int a0] mem K := cll_of [some (.ref 0), some (.int a0)] ok_Mo_isThere (Nat.le_of_ble_eq_true rfl) rfl (wp_iload_n (dc kd_Mo_isThere 0 rfl) rfl (wp_iconst (dc kd_Mo_isThere 1 rfl) 0 ic_0 (wp_aload_n (dc kd_Mo_isThere 2 rfl) rfl (wp_vIF (b := 0) [] [.int 0, .int a0] (dc kd_Mo_isThere 3 rfl) mv_Mo_75 rfl rfl rfl rfl (Nat.le_of_ble_eq_true rfl) f_many (wp_iconst (dc kd_Mo_isThere 4 rfl) 1 ic_1 (wp_isub (dc kd_Mo_isThere 5 rfl) (wp_sIF [.int a0, .int 0, .int ((mem 1 1) - 1)] [] (dc kd_Mo_isThere 6 rfl) ms_Mo_79 rfl rfl (Nat.le_of_ble_eq_true rfl) f_in (wp_zret (dc kd_Mo_isThere 7 rfl) rfl b2i_01 ⟨_, rfl, H⟩))))))))
set_option maxRecDepth 100000 in
theorem e_Mo_isPoint {d : Nat} {a0 : Int32} {mem : Mem} {K : Int32 → Mem → Prop}  (H : K (b2i (0 ≤ a0 ∧ a0 ≤ ((mem 1 0) - 1))) mem) : CI shM m_Mo_isPoint (d + 1) [.ref 0, .int a0] mem K := cll_of [some (.ref 0), some (.int a0)] ok_Mo_isPoint (Nat.le_of_ble_eq_true rfl) rfl (wp_iload_n (dc kd_Mo_isPoint 0 rfl) rfl (wp_iconst (dc kd_Mo_isPoint 1 rfl) 0 ic_0 (wp_aload_n (dc kd_Mo_isPoint 2 rfl) rfl (wp_getR (r := 1) (dc kd_Mo_isPoint 3 rfl) fl_Mo_13 rfl rfl (wp_iconst (dc kd_Mo_isPoint 4 rfl) 0 ic_0 (wp_iald (dc kd_Mo_isPoint 5 rfl) rfl (vin rfl) (wp_iconst (dc kd_Mo_isPoint 6 rfl) 1 ic_1 (wp_isub (dc kd_Mo_isPoint 7 rfl) (wp_sIF [.int a0, .int 0, .int ((mem 1 0) - 1)] [] (dc kd_Mo_isPoint 8 rfl) ms_Mo_79 rfl rfl (Nat.le_of_ble_eq_true rfl) f_in (wp_zret (dc kd_Mo_isPoint 9 rfl) rfl b2i_01 ⟨_, rfl, H⟩))))))))))
set_option maxRecDepth 100000 in
theorem e_Mo_arePoints {d : Nat} {a0 : Int32} {mem : Mem} {K : Int32 → Mem → Prop}  (H : K (b2i (0 ≤ a0 ∧ a0 ≤ (alF (mem 1 0)))) mem) : CI shM m_Mo_arePoints (d + 1) [.ref 0, .int a0] mem K := cll_of [some (.ref 0), some (.int a0)] ok_Mo_arePoints (Nat.le_of_ble_eq_true rfl) rfl (wp_iload_n (dc kd_Mo_arePoints 0 rfl) rfl (wp_iconst (dc kd_Mo_arePoints 1 rfl) 0 ic_0 (wp_aload_n (dc kd_Mo_arePoints 2 rfl) rfl (wp_vIF (b := 0) [] [.int 0, .int a0] (dc kd_Mo_arePoints 3 rfl) mv_Mo_83 rfl rfl rfl rfl (Nat.le_of_ble_eq_true rfl) f_MallPoints (wp_sIF [.int a0, .int 0, .int (alF (mem 1 0))] [] (dc kd_Mo_arePoints 4 rfl) ms_Mo_79 rfl rfl (Nat.le_of_ble_eq_true rfl) f_in (wp_zret (dc kd_Mo_arePoints 5 rfl) rfl b2i_01 ⟨_, rfl, H⟩))))))
set_option maxRecDepth 100000 in
theorem e_Mo_areNumbers {d : Nat} {a0 : Int32} {mem : Mem} {K : Int32 → Mem → Prop}  (H : K (b2i (0 ≤ a0 ∧ a0 ≤ (((1 : Int32) <<< ((mem 1 1) &&& 31)) - 1))) mem) : CI shM m_Mo_areNumbers (d + 1) [.ref 0, .int a0] mem K := cll_of [some (.ref 0), some (.int a0)] ok_Mo_areNumbers (Nat.le_of_ble_eq_true rfl) rfl (wp_iload_n (dc kd_Mo_areNumbers 0 rfl) rfl (wp_iconst (dc kd_Mo_areNumbers 1 rfl) 0 ic_0 (wp_iconst (dc kd_Mo_areNumbers 2 rfl) 1 ic_1 (wp_aload_n (dc kd_Mo_areNumbers 3 rfl) rfl (wp_vIF (b := 0) [] [.int 1, .int 0, .int a0] (dc kd_Mo_areNumbers 4 rfl) mv_Mo_75 rfl rfl rfl rfl (Nat.le_of_ble_eq_true rfl) f_many (wp_ishl (dc kd_Mo_areNumbers 5 rfl) (wp_iconst (dc kd_Mo_areNumbers 6 rfl) 1 ic_1 (wp_isub (dc kd_Mo_areNumbers 7 rfl) (wp_sIF [.int a0, .int 0, .int (((1 : Int32) <<< ((mem 1 1) &&& 31)) - 1)] [] (dc kd_Mo_areNumbers 8 rfl) ms_Mo_79 rfl rfl (Nat.le_of_ble_eq_true rfl) f_in (wp_zret (dc kd_Mo_areNumbers 9 rfl) rfl b2i_01 ⟨_, rfl, H⟩))))))))))
set_option maxRecDepth 100000 in
theorem e_Mo_isOfKernel {d : Nat} {a0 : Int32} {mem : Mem} {K : Int32 → Mem → Prop}  (H : K (b2i (1 ≤ a0 ∧ a0 ≤ 5)) mem) : CI shM m_Mo_isOfKernel (d + 1) [.int a0] mem K := cll_of [some (.int a0)] ok_Mo_isOfKernel (Nat.le_of_ble_eq_true rfl) rfl (wp_iload_n (dc kd_Mo_isOfKernel 0 rfl) rfl (wp_iconst (dc kd_Mo_isOfKernel 1 rfl) 1 ic_1 (wp_iconst (dc kd_Mo_isOfKernel 2 rfl) 5 ic_5 (wp_sIF [.int a0, .int 1, .int 5] [] (dc kd_Mo_isOfKernel 3 rfl) ms_Mo_79 rfl rfl (Nat.le_of_ble_eq_true rfl) f_in (wp_zret (dc kd_Mo_isOfKernel 4 rfl) rfl b2i_01 ⟨_, rfl, H⟩)))))
set_option maxRecDepth 100000 in
theorem e_Mo_isOfFlower {d : Nat} {a0 : Int32} {mem : Mem} {K : Int32 → Mem → Prop}  (H : K (b2i (2 ≤ a0 ∧ a0 ≤ 16)) mem) : CI shM m_Mo_isOfFlower (d + 1) [.int a0] mem K := cll_of [some (.int a0)] ok_Mo_isOfFlower (Nat.le_of_ble_eq_true rfl) rfl (wp_iload_n (dc kd_Mo_isOfFlower 0 rfl) rfl (wp_iconst (dc kd_Mo_isOfFlower 1 rfl) 2 ic_2 (wp_bipush (dc kd_Mo_isOfFlower 2 rfl) 16 bp_16 (wp_sIF [.int a0, .int 2, .int 16] [] (dc kd_Mo_isOfFlower 3 rfl) ms_Mo_79 rfl rfl (Nat.le_of_ble_eq_true rfl) f_in (wp_zret (dc kd_Mo_isOfFlower 4 rfl) rfl b2i_01 ⟨_, rfl, H⟩)))))

section FNB
variable {d f : Nat} {x y z : Int32} {mem : Mem}
theorem f_arePoints (hf : IsF f) : CI shX m_Family_arePoints (d + 1) [.ref f, .int x] mem (fun r m' => r = b2i (0 ≤ x ∧ x ≤ alF (mem f 2)) ∧ m' = mem) := by
  refine e_Family_arePoints hf ⟨fun c1 => ⟨?_, rfl⟩, fun c1 => ⟨fun c2 => ⟨?_, rfl⟩, fun c2 => ⟨?_, rfl⟩⟩⟩
  · rw [b2i_f (fun h => i_nl.mpr h.1 c1)]
  · rw [b2i_f (fun h => i_nl.mpr h.2 c2)]
  · rw [b2i_t ⟨i_nl.mp c1, i_nl.mp c2⟩]
theorem f_isSet (hf : IsF f) : CI shX m_Family_isSet (d + 1) [.ref f, .int x] mem (fun r m' => r = b2i (0 < x ∧ x ≤ alF (mem f 2)) ∧ m' = mem) := by
  refine e_Family_isSet hf ⟨fun c1 => ⟨?_, rfl⟩, fun c1 => ⟨fun c2 => ⟨?_, rfl⟩, fun c2 => ⟨?_, rfl⟩⟩⟩
  · rw [b2i_f (fun h => i_nle.mpr h.1 c1)]
  · rw [b2i_f (fun h => i_nl.mpr h.2 c2)]
  · rw [b2i_t ⟨i_nle.mp c1, i_nl.mp c2⟩]
theorem f_areSets (hf : IsF f) : CI shX m_Family_areSets (d + 1) [.ref f, .int x] mem (fun r m' => r = b2i (0 ≤ x ∧ x ≤ alF (mem f 1)) ∧ m' = mem) := by
  refine e_Family_areSets hf ⟨fun c1 => ⟨?_, rfl⟩, fun c1 => ⟨fun c2 => ⟨?_, rfl⟩, fun c2 => ⟨?_, rfl⟩⟩⟩
  · rw [b2i_f (fun h => i_nl.mpr h.1 c1)]
  · rw [b2i_f (fun h => i_nl.mpr h.2 c2)]
  · rw [b2i_t ⟨i_nl.mp c1, i_nl.mp c2⟩]
theorem f_isLetter : CI shX m_Tape_isLetter (d + 1) [.ref 8, .int x] mem (fun r m' => r = b2i (97 ≤ tpF mem x ∧ tpF mem x ≤ 122) ∧ m' = mem) := by
  refine e_Tape_isLetter ⟨fun c1 => ⟨?_, rfl⟩, fun c1 => ⟨fun c2 => ⟨?_, rfl⟩, fun c2 => ⟨?_, rfl⟩⟩⟩
  · rw [b2i_f (fun h => i_nl.mpr h.1 c1)]
  · rw [b2i_f (fun h => i_nl.mpr h.2 c2)]
  · rw [b2i_t ⟨i_nl.mp c1, i_nl.mp c2⟩]
theorem f_isDigit : CI shX m_Tape_isDigit (d + 1) [.ref 8, .int x] mem (fun r m' => r = b2i (48 ≤ tpF mem x ∧ tpF mem x ≤ 57) ∧ m' = mem) := by
  refine e_Tape_isDigit ⟨fun c1 => ⟨?_, rfl⟩, fun c1 => ⟨fun c2 => ⟨?_, rfl⟩, fun c2 => ⟨?_, rfl⟩⟩⟩
  · rw [b2i_f (fun h => i_nl.mpr h.1 c1)]
  · rw [b2i_f (fun h => i_nl.mpr h.2 c2)]
  · rw [b2i_t ⟨i_nl.mp c1, i_nl.mp c2⟩]
theorem f_isBlank : CI shX m_Tape_isBlank (d + 1) [.ref 8, .int x] mem (fun r m' => r = b2i (tpF mem x = 32 ∨ tpF mem x = 10) ∧ m' = mem) := by
  refine e_Tape_isBlank ⟨fun c1 => ⟨?_, rfl⟩, fun c1 => ⟨fun c2 => ⟨?_, rfl⟩, fun c2 => ⟨?_, rfl⟩⟩⟩
  · rw [b2i_t (Or.inl c1)]
  · rw [b2i_f (fun h => h.elim c1 c2)]
  · rw [b2i_t (Or.inr c2)]
theorem f_untouched : CI shX m_Touch_untouched (d + 1) [.ref 11, .int x] mem (fun r m' => r = bcF (mem 11 2 &&& (tcF mem x ^^^ (-1))) ∧ m' = mem) := e_Touch_untouched ⟨rfl, rfl⟩
theorem f_touchesAll : CI shX m_Touch_touchesAll (d + 1) [.ref 11, .int x] mem (fun r m' => r = b2i (tcF mem x = mem 11 2) ∧ m' = mem) := by
  refine e_Touch_touchesAll ⟨fun c1 => ⟨?_, rfl⟩, fun c1 => ⟨?_, rfl⟩⟩
  · rw [b2i_f c1]
  · rw [b2i_t c1]
theorem f_isThere : CI shM m_Mo_isThere (d + 1) [.ref 0, .int x] mem (fun r m' => r = b2i (0 ≤ x ∧ x ≤ mem 1 1 - 1) ∧ m' = mem) := e_Mo_isThere ⟨rfl, rfl⟩
theorem f_MisPoint : CI shM m_Mo_isPoint (d + 1) [.ref 0, .int x] mem (fun r m' => r = b2i (0 ≤ x ∧ x ≤ mem 1 0 - 1) ∧ m' = mem) := e_Mo_isPoint ⟨rfl, rfl⟩
theorem f_MarePoints : CI shM m_Mo_arePoints (d + 1) [.ref 0, .int x] mem (fun r m' => r = b2i (0 ≤ x ∧ x ≤ alF (mem 1 0)) ∧ m' = mem) := e_Mo_arePoints ⟨rfl, rfl⟩
theorem f_areNumbers : CI shM m_Mo_areNumbers (d + 1) [.ref 0, .int x] mem (fun r m' => r = b2i (0 ≤ x ∧ x ≤ alF (mem 1 1)) ∧ m' = mem) := e_Mo_areNumbers ⟨rfl, rfl⟩
theorem f_isOfKernel : CI shM m_Mo_isOfKernel (d + 1) [.int x] mem (fun r m' => r = b2i (1 ≤ x ∧ x ≤ 5) ∧ m' = mem) := e_Mo_isOfKernel ⟨rfl, rfl⟩
theorem f_isOfFlower : CI shM m_Mo_isOfFlower (d + 1) [.int x] mem (fun r m' => r = b2i (2 ≤ x ∧ x ≤ 16) ∧ m' = mem) := e_Mo_isOfFlower ⟨rfl, rfl⟩
end FNB
