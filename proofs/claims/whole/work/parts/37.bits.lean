/-! the two cuts of a long at bit 31 -/
theorem shr31 {x : Int} (h : R64 x) : (Int64.ofInt x >>> ((Int32.ofInt 31).toInt64 &&& 63)).toInt = x / 2147483648 := by
  have e : (Int32.ofInt 31).toInt64 &&& 63 = 31 := by decide
  rw [e, ← Int64.toInt_toBitVec, Int64.toBitVec_shiftRight, BitVec.toInt_sshiftRight']
  have e2 : (BitVec.smod (31 : Int64).toBitVec 64).toNat = 31 := by decide
  rw [e2, Int64.toInt_toBitVec, to64_of h, Int.shiftRight_eq_div_pow]
  rfl
theorem and31 {x : Int} : (Int64.ofInt x &&& Int64.ofInt 2147483647).toInt = x % 2147483648 := by
  rw [← Int64.toInt_toBitVec, Int64.toBitVec_and, Int64.toBitVec_ofInt, Int64.toBitVec_ofInt]
  have e : (BitVec.ofInt 64 x &&& BitVec.ofInt 64 2147483647).toNat = (x % 2147483648).toNat := by
    rw [BitVec.toNat_and, BitVec.toNat_ofInt, show (BitVec.ofInt 64 2147483647).toNat = 2 ^ 31 - 1 by decide, Nat.and_two_pow_sub_one_eq_mod]
    have h64 : ((2 ^ 64 : Nat) : Int) = 18446744073709551616 := by decide
    have h31 : (2 : Nat) ^ 31 = 2147483648 := by decide
    rw [h64, h31]
    omega
  have h31 : (2 : Nat) ^ 64 = 18446744073709551616 := by decide
  rw [BitVec.toInt_eq_toNat_of_lt (by rw [e, h31]; omega), e]
  omega
