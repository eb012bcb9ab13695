/-! the sign of a long -/
theorem shr63 {x : Int} (h : R64 x) : (Int64.ofInt x >>> ((Int32.ofInt 63).toInt64 &&& 63)).toInt = if x < 0 then -1 else 0 := by
  have e : (Int32.ofInt 63).toInt64 &&& 63 = 63 := by decide
  rw [e, ← Int64.toInt_toBitVec, Int64.toBitVec_shiftRight, BitVec.toInt_sshiftRight']
  have e2 : (BitVec.smod (63 : Int64).toBitVec 64).toNat = 63 := by decide
  rw [e2, Int64.toInt_toBitVec, to64_of h, Int.shiftRight_eq_div_pow]
  have e3 : ((2 ^ 63 : Nat) : Int) = 9223372036854775808 := by decide
  have h1 : -9223372036854775808 ≤ x := h.1
  have h2 : x < 9223372036854775808 := h.2
  rw [e3]
  split <;> omega
theorem ushr63 {y : Int} (h : R64 y) : ((Int64.ofInt y).toUInt64 >>> ((Int32.ofInt 63).toInt64.toUInt64 &&& Int64.toUInt64 63)).toInt64.toInt = if y < 0 then 1 else 0 := by
  have h1 : -9223372036854775808 ≤ y := h.1
  have h2 : y < 9223372036854775808 := h.2
  have e : (((Int32.ofInt 63).toInt64.toUInt64 &&& Int64.toUInt64 63)).toNat % 64 = 63 := by decide
  have en : (Int64.ofInt y).toUInt64.toNat = (y % 18446744073709551616).toNat := BitVec.toNat_ofInt y
  have ep : (2 : Nat) ^ 63 = 9223372036854775808 := by decide
  have eu : ((Int64.ofInt y).toUInt64 >>> ((Int32.ofInt 63).toInt64.toUInt64 &&& Int64.toUInt64 63)).toNat = if y < 0 then 1 else 0 := by
    rw [UInt64.toNat_shiftRight, e, en, Nat.shiftRight_eq_div_pow, ep]
    split <;> omega
  split
  · rename_i q
    rw [if_pos q] at eu
    rw [show ((Int64.ofInt y).toUInt64 >>> ((Int32.ofInt 63).toInt64.toUInt64 &&& Int64.toUInt64 63)) = 1 from UInt64.toNat_inj.mp eu]
    decide
  · rename_i q
    rw [if_neg q] at eu
    rw [show ((Int64.ofInt y).toUInt64 >>> ((Int32.ofInt 63).toInt64.toUInt64 &&& Int64.toUInt64 63)) = 0 from UInt64.toNat_inj.mp eu]
    decide
def sgl (x : Int) : Int := if x < 0 then -1 else if x = 0 then 0 else 1
theorem c_J_signum {x : Int} (hx : R64 x) {m : rz_M} {K : Int → rz_M → Prop} (h : K (sgl x) m) : rz_C y_J_signum [rL x] m K := by
  have h1 : -9223372036854775808 ≤ x := hx.1
  have h2 : x < 9223372036854775808 := hx.2
  refine T_J_signum_0 _ _ _ ?_
  rw [shr63 hx, ushr63 (w64_R _)]
  unfold sgl at h
  by_cases q : x < 0
  · rw [if_pos q] at h ⊢
    have k : ∀ z : Int, (z = 0 ∨ z = 1) → w32 (Int64.ofInt (-1) ||| Int64.ofInt z).toInt = -1 := fun z hz => by
      rcases hz with hz | hz <;> rw [hz] <;> decide
    rw [k]
    · exact h
    · split
      · exact Or.inr rfl
      · exact Or.inl rfl
  · rw [if_neg q] at h ⊢
    rw [w64_id (z := -x) (by omega) (by omega)]
    by_cases q2 : x = 0
    · rw [if_pos q2] at h
      rw [if_neg (by omega)]
      exact h
    · rw [if_neg q2] at h
      rw [if_pos (by omega)]
      exact h
theorem sgl_abs {x : Int} (hx : -9223372036854775808 < x ∧ x < 9223372036854775808) : rz_abs x = (x.natAbs : Int) ∧ sgl x * (x.natAbs : Int) = x := by
  unfold rz_abs sgl
  refine ⟨?_, ?_⟩
  · split
    · omega
    · rw [w64_id (by omega) (by omega)]
      omega
  · split
    · omega
    · split <;> omega
