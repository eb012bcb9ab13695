/-! the reference's long numbers: cuts at bit 16, values of rows of digits -/
theorem shr_64 {x : Int} (h : R64 x) {s : Int64} {n : Nat} (hs : (BitVec.smod s.toBitVec 64).toNat = n) : (Int64.ofInt x >>> s).toInt = x / ((2 ^ n : Nat) : Int) := by
  rw [← Int64.toInt_toBitVec, Int64.toBitVec_shiftRight, BitVec.toInt_sshiftRight', hs, Int64.toInt_toBitVec, to64_of h, Int.shiftRight_eq_div_pow]
theorem shr16 {x : Int} (h : R64 x) : (Int64.ofInt x >>> ((Int32.ofInt 16).toInt64 &&& 63)).toInt = x / 65536 := shr_64 h (n := 16) (by decide)
theorem and16_64 {x : Int} : (Int64.ofInt x &&& Int64.ofInt 65535).toInt = x % 65536 := by
  rw [← Int64.toInt_toBitVec, Int64.toBitVec_and, Int64.toBitVec_ofInt, Int64.toBitVec_ofInt]
  have e : (BitVec.ofInt 64 x &&& BitVec.ofInt 64 65535).toNat = (x % 65536).toNat := by
    rw [BitVec.toNat_and, BitVec.toNat_ofInt, show (BitVec.ofInt 64 65535).toNat = 2 ^ 16 - 1 by decide, Nat.and_two_pow_sub_one_eq_mod]
    have h64 : ((2 ^ 64 : Nat) : Int) = 18446744073709551616 := by decide
    have h16 : (2 : Nat) ^ 16 = 65536 := by decide
    rw [h64, h16]
    omega
  have h64 : (2 : Nat) ^ 64 = 18446744073709551616 := by decide
  rw [BitVec.toInt_eq_toNat_of_lt (by rw [e, h64]; omega), e]
  omega
theorem and16_32 {x : Int} : (Int32.ofInt x &&& Int32.ofInt 65535).toInt = x % 65536 := by
  rw [← Int32.toInt_toBitVec, Int32.toBitVec_and, Int32.toBitVec_ofInt, Int32.toBitVec_ofInt]
  have e : (BitVec.ofInt 32 x &&& BitVec.ofInt 32 65535).toNat = (x % 65536).toNat := by
    rw [BitVec.toNat_and, BitVec.toNat_ofInt, show (BitVec.ofInt 32 65535).toNat = 2 ^ 16 - 1 by decide, Nat.and_two_pow_sub_one_eq_mod]
    have h32 : ((2 ^ 32 : Nat) : Int) = 4294967296 := by decide
    have h16 : (2 : Nat) ^ 16 = 65536 := by decide
    rw [h32, h16]
    omega
  have h32 : (2 : Nat) ^ 32 = 4294967296 := by decide
  rw [BitVec.toInt_eq_toNat_of_lt (by rw [e, h32]; omega), e]
  omega
theorem shr16_32 {x : Int} (h : R32 x) : (Int32.ofInt x >>> (Int32.ofInt 16 &&& 31)).toInt = x / 65536 := by
  have e : Int32.ofInt 16 &&& 31 = 16 := by decide
  rw [e, ← Int32.toInt_toBitVec, Int32.toBitVec_shiftRight, BitVec.toInt_sshiftRight']
  have e2 : (BitVec.smod (16 : Int32).toBitVec 32).toNat = 16 := by decide
  rw [e2, Int32.toInt_toBitVec, to32_of h, Int.shiftRight_eq_div_pow]
  rfl
/-- digit k of the first four -/
def dg4 (x : Int) (k : Nat) : Int := if k < 4 then x / ((2 ^ (16 * k) : Nat) : Int) % 65536 else 0
theorem dg4_is {x : Int} (h : 0 ≤ x ∧ x < 9223372036854775808) : ∀ k : Nat, k < 4 → w32 ((Int64.ofInt ((Int64.ofInt x >>> ((Int32.ofInt (w32 (16 * (k : Int)))).toInt64 &&& 63)).toInt) &&& Int64.ofInt 65535).toInt) = dg4 x k := by
  intro k hk
  have hx : R64 x := by unfold R64; omega
  have e : (Int64.ofInt x >>> ((Int32.ofInt (w32 (16 * (k : Int)))).toInt64 &&& 63)).toInt = x / ((2 ^ (16 * k) : Nat) : Int) := by
    refine shr_64 hx ?_
    have : k = 0 ∨ k = 1 ∨ k = 2 ∨ k = 3 := by omega
    rcases this with rfl | rfl | rfl | rfl <;> decide
  rw [e, and16_64, w32_id (by omega) (by omega)]
  unfold dg4
  rw [if_pos hk]
def qw : Nat → Int
  | 0 => 1
  | n + 1 => qw n * 65536
def mg (g : Int → Int) : Nat → Int
  | 0 => 0
  | n + 1 => mg g n + g n * qw n
theorem qw_pos : ∀ n, 0 < qw n
  | 0 => by decide
  | n + 1 => Int.mul_pos (qw_pos n) (by decide)
theorem qw_add (n : Nat) : ∀ l : Nat, qw (n + l) = qw n * qw l
  | 0 => by show qw n = qw n * 1; omega
  | l + 1 => by
    show qw (n + l) * 65536 = qw n * (qw l * 65536)
    rw [qw_add n l, Int.mul_assoc]
def d16 (g : Int → Int) (n : Int) : Prop := ∀ j : Int, 0 ≤ j → j < n → 0 ≤ g j ∧ g j < 65536
theorem mg_nn {g : Int → Int} : ∀ n : Nat, d16 g n → 0 ≤ mg g n
  | 0, _ => Int.le_refl _
  | n + 1, h => Int.add_nonneg (mg_nn n (fun j a b => h j a (by omega))) (Int.mul_nonneg (h n (by omega) (by omega)).1 (Int.le_of_lt (qw_pos n)))
theorem mg_lt {g : Int → Int} : ∀ n : Nat, d16 g n → mg g n < qw n
  | 0, _ => by show (0 : Int) < 1; decide
  | n + 1, h => by
    have h1 := mg_lt n (fun j a b => h j a (by omega))
    have h2 := (h n (by omega) (by omega)).2
    have h3 : g n * qw n ≤ 65535 * qw n := Int.mul_le_mul_of_nonneg_right (by omega) (Int.le_of_lt (qw_pos n))
    show mg g n + g n * qw n < qw n * 65536
    omega
theorem mg_congr {g h : Int → Int} : ∀ n : Nat, (∀ j : Int, 0 ≤ j → j < n → g j = h j) → mg g n = mg h n
  | 0, _ => rfl
  | n + 1, e => by
    show mg g n + g n * qw n = mg h n + h n * qw n
    rw [mg_congr n (fun j a b => e j a (by omega)), e n (by omega) (by omega)]
/-- one digit is another -/
theorem mg_upd {g h : Int → Int} {j : Nat} (e : ∀ y : Int, y ≠ j → h y = g y) : ∀ n : Nat, mg h n = mg g n + (if j < n then (h j - g j) * qw j else 0)
  | 0 => by rw [if_neg (by omega)]; rfl
  | n + 1 => by
    have ih := mg_upd e n
    show mg h n + h n * qw n = mg g n + g n * qw n + _
    by_cases q : n = j
    · subst q
      rw [ih, if_neg (by omega), if_pos (by omega)]
      grind
    · rw [ih, e n (by omega)]
      by_cases z : j < n
      · rw [if_pos z, if_pos (by omega)]
        omega
      · rw [if_neg z, if_neg (by omega)]
        omega
/-- digits above are nought -/
theorem mg_top {g : Int → Int} {n : Nat} : ∀ r : Nat, (∀ j : Int, (n : Int) ≤ j → j < n + r → g j = 0) → mg g (n + r) = mg g n
  | 0, _ => rfl
  | r + 1, h => by
    show mg g (n + r) + g ((n + r : Nat) : Int) * qw (n + r) = _
    rw [mg_top r (fun j a b => h j a (by omega)), h _ (by omega) (by omega), Int.zero_mul, Int.add_zero]
theorem mg_zero {g : Int → Int} (n : Nat) (h : ∀ j : Int, 0 ≤ j → j < n → g j = 0) : mg g n = 0 := by
  have := mg_top (g := g) (n := 0) n (fun j a b => h j (by omega) (by omega))
  rw [Nat.zero_add] at this
  rw [this]
  rfl
/-- from place n on it is a multiple -/
theorem mg_hi {g : Int → Int} {n : Nat} : ∀ r : Nat, d16 g (n + r : Nat) → ∃ q : Int, 0 ≤ q ∧ mg g (n + r) = mg g n + q * qw n
  | 0, _ => ⟨0, Int.le_refl _, by show mg g n = _; omega⟩
  | r + 1, h => by
    obtain ⟨q, q0, e⟩ := mg_hi (g := g) (n := n) r (fun j a b => h j a (by omega))
    have d := (h ((n + r : Nat) : Int) (by omega) (by omega)).1
    refine ⟨q + g ((n + r : Nat) : Int) * qw r, Int.add_nonneg q0 (Int.mul_nonneg d (Int.le_of_lt (qw_pos r))), ?_⟩
    show mg g (n + r) + g ((n + r : Nat) : Int) * qw (n + r) = _
    rw [e, qw_add]
    grind
/-- the higher digits are alike, one is less -/
theorem mg_cmp {g h : Int → Int} {k : Nat} (dg' : d16 g (k : Int)) (dh : d16 h (k : Int)) (lt : g k < h k) : ∀ r : Nat, (∀ j : Int, (k : Int) < j → j < k + 1 + r → g j = h j) → mg g (k + 1 + r) < mg h (k + 1 + r)
  | 0, _ => by
    have h1 := mg_lt k dg'
    have h2 := mg_nn k dh
    have h3 : (g k + 1) * qw k ≤ h k * qw k := Int.mul_le_mul_of_nonneg_right (by omega) (Int.le_of_lt (qw_pos k))
    have e : (g k + 1) * qw k = g k * qw k + qw k := by grind
    show mg g k + g k * qw k < mg h k + h k * qw k
    omega
  | r + 1, e => by
    have ih := mg_cmp dg' dh lt r (fun j a b => e j a (by omega))
    show mg g (k + 1 + r) + g ((k + 1 + r : Nat) : Int) * qw (k + 1 + r) < mg h (k + 1 + r) + h ((k + 1 + r : Nat) : Int) * qw (k + 1 + r)
    rw [e ((k + 1 + r : Nat) : Int) (by omega) (by omega)]
    omega
theorem mg_dg4 {x : Int} (h : 0 ≤ x ∧ x < 9223372036854775808) : mg (fun j => dg4 x j.toNat) 160 = x := by
  have e := mg_top (g := fun j => dg4 x j.toNat) (n := 4) 156 (fun j a b => by
    show dg4 x j.toNat = 0
    unfold dg4
    rw [if_neg (by omega)])
  rw [show 160 = 4 + 156 from rfl, e]
  show 0 + x / 1 % 65536 * 1 + x / 65536 % 65536 * 65536 + x / 4294967296 % 65536 * 4294967296 + x / 281474976710656 % 65536 * 281474976710656 = x
  omega
theorem dg4_rng (x : Int) (k : Nat) : 0 ≤ dg4 x k ∧ dg4 x k < 65536 := by
  unfold dg4
  split <;> omega
