/-! longs that hold a fill, a tag and a row -/
def nL (n : Nat) : Int64 := Int64.ofNat n
theorem l_low (n : Nat) : (nL n).toInt32 = nI n := by
  apply Int32.toBitVec_inj.1
  show (BitVec.ofNat 64 n).signExtend 32 = BitVec.ofNat 32 n
  apply BitVec.eq_of_toNat_eq
  rw [BitVec.signExtend_eq_setWidth_of_le _ (by decide)]
  simp
theorem l_top {n : Nat} (h : n < 2 ^ 64) : (lushr (nL n) 32).toInt32 = nI (n / 2 ^ 32) := by
  have e : lushr (nL n) 32 = nL (n / 2 ^ 32) := by
    apply Int64.toBitVec_inj.1
    show (BitVec.ofNat 64 n) >>> (BitVec.ofNat 64 32) = BitVec.ofNat 64 (n / 2 ^ 32)
    apply BitVec.eq_of_toNat_eq
    simp
    rw [Nat.shiftRight_eq_div_pow]
    omega
  rw [e, l_low]
theorem l_of {a : Nat} (h : a < 2 ^ 31) : (nI a).toInt64 = nL a := by
  rw [← Int64.toInt_inj, Int32.toInt_toInt64, nI_toInt h]
  show _ = (Int64.ofNat a).toInt
  rw [Int64.toInt_ofNat_of_lt (by omega)]
theorem l_or (a b : Nat) : nL a ||| nL b = nL (a ||| b) := by
  apply Int64.toBitVec_inj.1
  show BitVec.ofNat 64 a ||| BitVec.ofNat 64 b = BitVec.ofNat 64 (a ||| b)
  apply BitVec.eq_of_getLsbD_eq
  intro i hi
  simp [hi]
theorem l_shl (a : Nat) : nL a <<< ((32 : Int32).toInt64 &&& 63) = nL (a * 2 ^ 32) := by
  have e : (32 : Int32).toInt64 &&& 63 = 32 := by decide
  rw [e]
  apply Int64.toBitVec_inj.1
  show (BitVec.ofNat 64 a) <<< (BitVec.smod (32 : Int64).toBitVec 64) = BitVec.ofNat 64 (a * 2 ^ 32)
  have e2 : BitVec.smod (32 : Int64).toBitVec 64 = 32#64 := by decide
  rw [e2]
  apply BitVec.eq_of_toNat_eq
  simp
  rw [Nat.shiftLeft_eq]
  omega
theorem l_mk {fl tg x : Nat} (hf : fl < 2 ^ 31) (ht : tg < 4) (hx : x < 2 ^ 24) : ((nI fl).toInt64 <<< ((32 : Int32).toInt64 &&& 63)) ||| (nI tg <<< ((24 : Int32) &&& 31)).toInt64 ||| (nI x).toInt64 = nL (fl * 2 ^ 32 + (tg * 2 ^ 24 + x)) := by
  rw [show (24 : Int32) = nI 24 from rfl, nx_shl (by omega) (by omega), l_of hf, l_of (by omega), l_of (by omega), l_shl, l_or, l_or]
  congr 1
  have h1 : tg * 2 ^ 24 ||| x = tg * 2 ^ 24 + x := by
    rw [Nat.mul_comm]; exact (Nat.two_pow_add_eq_or_of_lt hx tg).symm
  have h2 : fl * 2 ^ 32 ||| (tg * 2 ^ 24 + x) = fl * 2 ^ 32 + (tg * 2 ^ 24 + x) := by
    rw [Nat.mul_comm]; exact (Nat.two_pow_add_eq_or_of_lt (by omega) fl).symm
  rw [Nat.or_assoc, h1, h2]
theorem andM {b : Nat} (y : Int32) : ∃ h, h < 2 ^ b ∧ y &&& nI (2 ^ b - 1) = nI h := by
  refine ⟨y.toBitVec.toNat % 2 ^ b, Nat.mod_lt _ (Nat.pow_pos (by decide)), ?_⟩
  have e : y = nI y.toBitVec.toNat := by
    apply Int32.toBitVec_inj.1
    show y.toBitVec = BitVec.ofNat 32 y.toBitVec.toNat
    rw [BitVec.ofNat_toNat, BitVec.setWidth_eq]
  conv => lhs; rw [e]
  rw [nx_and, Nat.and_two_pow_sub_one_eq_mod]
theorem andN {b a : Nat} : nI a &&& nI (2 ^ b - 1) = nI (a % 2 ^ b) := by
  rw [nx_and, Nat.and_two_pow_sub_one_eq_mod]
theorem and24 (a : Nat) : nI a &&& 16777215 = nI (a % 2 ^ 24) := by
  rw [show (16777215 : Int32) = nI (2 ^ 24 - 1) from rfl, andN]
