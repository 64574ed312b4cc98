-- shifts and joins of small numbers
theorem tb_J {a : Int} (h : 0 ≤ a ∧ a < 9223372036854775808) : (tg_J a).toBitVec.toNat = a.toNat := by
  show (BitVec.ofInt 64 a).toNat = a.toNat
  rw [BitVec.toNat_ofInt]
  rw [Int.emod_eq_of_lt h.1 (by have := h.2; norm_cast; omega)]
theorem tb_Jt {x : Int64} (h : x.toBitVec.toNat < 9223372036854775808) : x.toInt = x.toBitVec.toNat := by
  show x.toBitVec.toInt = _
  exact BitVec.toInt_eq_toNat_of_lt (by omega)
theorem tb_I {a : Int} (h : 0 ≤ a ∧ a < 2147483648) : (tg_I a).toBitVec.toNat = a.toNat := by
  show (BitVec.ofInt 32 a).toNat = a.toNat
  rw [BitVec.toNat_ofInt]
  rw [Int.emod_eq_of_lt h.1 (by have := h.2; norm_cast; omega)]
theorem tb_It {x : Int32} (h : x.toBitVec.toNat < 2147483648) : x.toInt = x.toBitVec.toNat := by
  show x.toBitVec.toInt = _
  exact BitVec.toInt_eq_toNat_of_lt (by omega)
theorem tb_or {a b k : Nat} (hb : b < 2 ^ k) (hd : a % 2 ^ k = 0) : a ||| b = a + b := by
  have e : a = (a / 2 ^ k) <<< k := by
    rw [Nat.shiftLeft_eq]
    have := Nat.div_add_mod a (2 ^ k)
    rw [hd, Nat.mul_comm] at this
    omega
  rw [e]
  exact (Nat.shiftLeft_add_eq_or_of_lt hb _).symm
theorem tb_lor {a b : Int} (k : Nat) (ha : 0 ≤ a) (hb : 0 ≤ b) (hb2 : b.toNat < 2 ^ k) (hd : a.toNat % 2 ^ k = 0) (hs : a + b < 9223372036854775808) : tg_lor a b = a + b := by
  have e : (tg_J a ||| tg_J b).toBitVec.toNat = a.toNat + b.toNat := by
    rw [Int64.toBitVec_or, BitVec.toNat_or, tb_J ⟨ha, by omega⟩, tb_J ⟨hb, by omega⟩, tb_or hb2 hd]
  unfold tg_lor
  rw [tb_Jt (by omega), e]
  omega
theorem tb_ior {a b : Int} (k : Nat) (ha : 0 ≤ a) (hb : 0 ≤ b) (hb2 : b.toNat < 2 ^ k) (hd : a.toNat % 2 ^ k = 0) (hs : a + b < 2147483648) : tg_ior a b = a + b := by
  have e : (tg_I a ||| tg_I b).toBitVec.toNat = a.toNat + b.toNat := by
    rw [Int32.toBitVec_or, BitVec.toNat_or, tb_I ⟨ha, by omega⟩, tb_I ⟨hb, by omega⟩, tb_or hb2 hd]
  unfold tg_ior
  rw [tb_It (by omega), e]
  omega
theorem tb_lshl {a b : Int} (k : Nat) (ha : 0 ≤ a) (hb : (((tg_I b).toInt64 &&& 63).toBitVec.smod 64).toNat = k) (hs : a.toNat * 2 ^ k < 9223372036854775808) : tg_lshl a b = ((a.toNat * 2 ^ k : Nat) : Int) := by
  have h1 : a.toNat ≤ a.toNat * 2 ^ k := Nat.le_mul_of_pos_right _ (Nat.pow_pos (by decide))
  have e : (tg_J a <<< ((tg_I b).toInt64 &&& 63)).toBitVec.toNat = a.toNat * 2 ^ k := by
    rw [Int64.toBitVec_shiftLeft, BitVec.shiftLeft_eq', BitVec.toNat_shiftLeft, hb, tb_J ⟨ha, by omega⟩, Nat.shiftLeft_eq]
    exact Nat.mod_eq_of_lt (Nat.lt_of_lt_of_le hs (by decide))
  unfold tg_lshl
  rw [tb_Jt (by omega), e]
theorem tb_ishl {a b : Int} (k : Nat) (ha : 0 ≤ a) (hb : ((tg_I b &&& 31).toBitVec.smod 32).toNat = k) (hs : a.toNat * 2 ^ k < 2147483648) : tg_ishl a b = ((a.toNat * 2 ^ k : Nat) : Int) := by
  have h1 : a.toNat ≤ a.toNat * 2 ^ k := Nat.le_mul_of_pos_right _ (Nat.pow_pos (by decide))
  have e : (tg_I a <<< (tg_I b &&& 31)).toBitVec.toNat = a.toNat * 2 ^ k := by
    rw [Int32.toBitVec_shiftLeft, BitVec.shiftLeft_eq', BitVec.toNat_shiftLeft, hb, tb_I ⟨ha, by omega⟩, Nat.shiftLeft_eq]
    exact Nat.mod_eq_of_lt (Nat.lt_of_lt_of_le hs (by decide))
  unfold tg_ishl
  rw [tb_It (by omega), e]
theorem tb_lshl3 {a : Int} (h : 0 ≤ a ∧ a < 1152921504606846976) : tg_lshl a 3 = 8 * a := by
  rw [tb_lshl 3 h.1 (by decide +kernel) (by omega)]; omega
theorem tb_lshl8 {a : Int} (h : 0 ≤ a ∧ a < 36028797018963968) : tg_lshl a 8 = 256 * a := by
  rw [tb_lshl 8 h.1 (by decide +kernel) (by omega)]; omega
theorem tb_ishl3 {a : Int} (h : 0 ≤ a ∧ a < 1000000) : tg_ishl a 3 = 8 * a := by
  rw [tb_ishl 3 h.1 (by decide +kernel) (by omega)]; omega
