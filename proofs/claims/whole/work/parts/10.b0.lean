theorem tg_wi_e {a : Int} (h : -2147483648 ≤ a ∧ a ≤ 2147483647) : tg_wi a = a := tg_wi_eq h
theorem tg_wl_e {a : Int} (h : -9223372036854775808 ≤ a ∧ a ≤ 9223372036854775807) : tg_wl a = a := tg_wl_eq h
theorem tg_up_ss {m : tg_Mem} {k j k' j' : Nat} {v : Int} (h : k' = k ∧ j' = j) : tg_up m k j v k' j' = v := if_pos h
theorem tg_up_nk {m : tg_Mem} {k j k' j' : Nat} {v : Int} (h : k' ≠ k) : tg_up m k j v k' j' = m k' j' := if_neg fun q => h q.1
theorem tg_up_nj {m : tg_Mem} {k j k' j' : Nat} {v : Int} (h : j' ≠ j) : tg_up m k j v k' j' = m k' j' := if_neg fun q => h q.2
theorem tg_up_e {m : tg_Mem} {k j k' j' : Nat} {v : Int} : tg_up m k j v k' j' = if k' = k ∧ j' = j then v else m k' j' := rfl
theorem tg_nI {a : Int} (h : 0 ≤ a) : tg_I a = nI a.toNat := by
  obtain ⟨n, rfl⟩ : ∃ n : Nat, a = (n : Int) := ⟨a.toNat, by omega⟩
  exact Int32.ofInt_eq_ofNat
theorem tg_nIt {n : Nat} (h : n < 2147483648) : (nI n).toInt = (n : Int) := nI_toInt h
theorem tg_iand_mod {a b : Int} (k : Nat) (h0 : 0 ≤ a) (h1 : a ≤ 2147483647) (hb : (tg_I b).toBitVec.toNat = 2 ^ k - 1) (hk : k ≤ 30) : tg_iand a b = a % (2 ^ k : Nat) := by
  unfold tg_iand
  rw [tg_nI h0, pk_andN (by omega) k hb]
  have h3 : (2 : Nat) ^ k ≤ 2 ^ 30 := Nat.pow_le_pow_right (by decide) hk
  have h4 : 0 < (2 : Nat) ^ k := Nat.pow_pos (by decide)
  have h5 : a.toNat % 2 ^ k < 2 ^ k := Nat.mod_lt _ h4
  rw [nI_toInt (by omega)]
  rw [Int.natCast_emod, Int.toNat_of_nonneg h0]
theorem tg_iand3 {a : Int} (h0 : 0 ≤ a ∧ a ≤ 2147483647) : tg_iand a 3 = a % 4 := tg_iand_mod 2 h0.1 h0.2 (by decide +kernel) (by decide)
theorem tg_iand7 {a : Int} (h0 : 0 ≤ a ∧ a ≤ 2147483647) : tg_iand a 7 = a % 8 := tg_iand_mod 3 h0.1 h0.2 (by decide +kernel) (by decide)
theorem tg_iand63 {a : Int} (h0 : 0 ≤ a ∧ a ≤ 2147483647) : tg_iand a 63 = a % 64 := tg_iand_mod 6 h0.1 h0.2 (by decide +kernel) (by decide)
theorem tg_iand1 {a : Int} (h0 : 0 ≤ a ∧ a ≤ 2147483647) : tg_iand a 1 = a % 2 := tg_iand_mod 1 h0.1 h0.2 (by decide +kernel) (by decide)
theorem tg_iandm1 : tg_iand (-1) 63 = 63 := by decide +kernel
theorem tg_iand63p {a : Int} (h0 : -1 ≤ a ∧ a ≤ 2147483647) : tg_iand a 63 = a % 64 := by
  by_cases h : a = -1
  · rw [h, tg_iandm1]; rfl
  · exact tg_iand63 (by omega)
theorem tg_ishr_div {a b : Int} (k : Nat) (h0 : 0 ≤ a) (h1 : a ≤ 2147483647) (hb : ((tg_I b &&& 31).toBitVec.smod 32).toNat = k) : tg_ishr a b = a / (2 ^ k : Nat) := by
  unfold tg_ishr
  rw [tg_nI h0, pk_shrN (by omega) _ k hb]
  have h5 : a.toNat / 2 ^ k ≤ a.toNat := Nat.div_le_self _ _
  rw [nI_toInt (by omega)]
  rw [Int.natCast_ediv, Int.toNat_of_nonneg h0]
theorem tg_ishr2 {a : Int} (h0 : 0 ≤ a ∧ a ≤ 2147483647) : tg_ishr a 2 = a / 4 := tg_ishr_div 2 h0.1 h0.2 (by decide +kernel)
theorem tg_ishr3 {a : Int} (h0 : 0 ≤ a ∧ a ≤ 2147483647) : tg_ishr a 3 = a / 8 := tg_ishr_div 3 h0.1 h0.2 (by decide +kernel)
theorem tg_ishr1 {a : Int} (h0 : 0 ≤ a ∧ a ≤ 2147483647) : tg_ishr a 1 = a / 2 := tg_ishr_div 1 h0.1 h0.2 (by decide +kernel)
theorem tg_idiv_pos {a b : Int} (h0 : 0 ≤ a ∧ a ≤ 2147483647) (hb : 0 < b ∧ b ≤ 2147483647) : tg_idiv a b = a / b := by
  unfold tg_idiv
  rw [tg_nI h0.1, tg_nI (by omega : (0 : Int) ≤ b), pk_div (by omega) (by omega) (by omega)]
  have h5 : a.toNat / b.toNat ≤ a.toNat := Nat.div_le_self _ _
  rw [nI_toInt (by omega), Int.natCast_ediv, Int.toNat_of_nonneg h0.1, Int.toNat_of_nonneg (by omega)]
theorem tg_irem_pos {a b : Int} (h0 : 0 ≤ a ∧ a ≤ 2147483647) (hb : 0 < b ∧ b ≤ 2147483647) : tg_irem a b = a % b := by
  unfold tg_irem
  rw [tg_nI h0.1, tg_nI (by omega : (0 : Int) ≤ b), pk_rem (by omega) (by omega) (by omega)]
  have h5 : a.toNat % b.toNat ≤ a.toNat := Nat.mod_le _ _
  rw [nI_toInt (by omega), Int.natCast_emod, Int.toNat_of_nonneg h0.1, Int.toNat_of_nonneg (by omega)]
-- the smallest of the class
theorem b_isBelow {a b : Int} {m : tg_Mem} : f_X7_isBelow a b m = some (if 0 ≤ a ∧ a < b then 1 else 0, m) := by
  simp only [f_X7_isBelow, tg_jn]
  by_cases h1 : a < 0
  · rw [if_pos h1, if_neg (by omega)]
  · rw [if_neg h1]
    by_cases h2 : b ≤ a
    · rw [if_pos h2, if_neg (by omega)]
    · rw [if_neg h2, if_pos (by omega)]
theorem b_isBelowT {a b : Int} {m : tg_Mem} (h : 0 ≤ a ∧ a < b) : f_X7_isBelow a b m = some (1, m) := by rw [b_isBelow, if_pos h]
theorem b_isBelowF {a b : Int} {m : tg_Mem} (h : ¬ (0 ≤ a ∧ a < b)) : f_X7_isBelow a b m = some (0, m) := by rw [b_isBelow, if_neg h]
theorem b_inT {a b c : Int} {m : tg_Mem} (h : b ≤ a ∧ a ≤ c) : f_X8_in a b c m = some (1, m) := by
  simp only [f_X8_in, tg_jn]
  rw [if_neg (by omega), if_neg (by omega)]
theorem b_inF {a b c : Int} {m : tg_Mem} (h : ¬ (b ≤ a ∧ a ≤ c)) : f_X8_in a b c m = some (0, m) := by
  simp only [f_X8_in, tg_jn]
  by_cases h1 : a < b
  · rw [if_pos h1]
  · rw [if_neg h1, if_pos (by omega)]
theorem b_byteAt {k : Nat} {i : Int} {m : tg_Mem} (h : 0 ≤ i ∧ i < m k 1 ∧ i < 40) : f_X5_byteAt k i m = some (m (k + 1) i.toNat, m) := by
  simp (disch := omega) only [tg_lt, tg_jn, tg_bd_some, tg_ck_pos, if_pos, if_neg, tg_wi_e, tg_up_ss, tg_up_nk, tg_up_nj, ne_eq, not_true_eq_false, not_false_eq_true, if_true, if_false, Nat.reduceAdd, f_X5_byteAt]
theorem b_byteAtN {k : Nat} {i : Int} {m : tg_Mem} (h : ¬ (0 ≤ i ∧ i < m k 1 ∧ i < 40)) : f_X5_byteAt k i m = some (-1, m) := by
  simp only [f_X5_byteAt, tg_jn]
  by_cases h1 : i < 0
  · rw [if_pos h1]
  · rw [if_neg h1]
    by_cases h2 : m k 1 ≤ i
    · rw [if_pos h2]
    · rw [if_neg h2, if_pos (by omega)]
theorem b_isPlaceT {a : Int} {m : tg_Mem} (h : 48 ≤ a ∧ a ≤ 55) : f_X2_isPlace a m = some (1, m) := by
  simp (disch := omega) only [tg_lt, tg_jn, tg_bd_some, tg_ck_pos, if_pos, if_neg, tg_wi_e, tg_up_ss, tg_up_nk, tg_up_nj, ne_eq, not_true_eq_false, not_false_eq_true, if_true, if_false, Nat.reduceAdd, f_X2_isPlace]
theorem b_isPlaceF {a : Int} {m : tg_Mem} (h : ¬ (48 ≤ a ∧ a ≤ 55)) : f_X2_isPlace a m = some (0, m) := by
  simp only [f_X2_isPlace, tg_jn]
  by_cases h1 : a < 48
  · rw [if_pos h1]
  · rw [if_neg h1, if_pos (by omega)]
theorem b_add {k : Nat} {v : Int} {m : tg_Mem} (h : 0 ≤ m k 1 ∧ m k 1 < 40) : f_X5_add k v m = some (0, tg_up (tg_up m (k + 1) (m k 1).toNat v) k 1 (m k 1 + 1)) := by
  simp (disch := omega) only [tg_lt, tg_jn, tg_bd_some, tg_ck_pos, if_pos, if_neg, tg_wi_e, tg_up_ss, tg_up_nk, tg_up_nj, ne_eq, not_true_eq_false, not_false_eq_true, if_true, if_false, Nat.reduceAdd, f_X5_add, b_isBelowT]
theorem b_addF {k : Nat} {v : Int} {m : tg_Mem} (h : ¬ (0 ≤ m k 1 ∧ m k 1 < 40)) : f_X5_add k v m = some (0, m) := by
  unfold f_X5_add
  rw [b_isBelowF h]; rfl
theorem b_dayOf0 {m : tg_Mem} : f_X7_dayOf 0 m = some (10, m) := rfl
theorem b_dayOf1 {m : tg_Mem} : f_X7_dayOf 1 m = some (18, m) := rfl
theorem b_textOf0 {m : tg_Mem} : f_X7_textOf 0 m = some (2, m) := rfl
theorem b_textOf1 {m : tg_Mem} : f_X7_textOf 1 m = some (11, m) := by
  unfold f_X7_textOf
  rw [if_pos (by decide), tg_wi_e (by decide)]; rfl
theorem b_textOf2 {m : tg_Mem} : f_X7_textOf 2 m = some (19, m) := by
  unfold f_X7_textOf
  rw [if_pos (by decide), tg_wi_e (by decide)]; rfl
