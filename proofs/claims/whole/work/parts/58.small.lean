/-! small numbers: bits, rests, Fermat among whole numbers -/
theorem bit_and1 : ∀ v : Nat, v < 1024 → (Int64.ofInt (v : Int) &&& Int64.ofInt 1).toInt = ((v % 2 : Nat) : Int) := by decide +kernel
theorem bit_shr1 : ∀ v : Nat, v < 1024 → (Int64.ofInt (v : Int) >>> ((Int32.ofInt 1).toInt64 &&& 63)).toInt = ((v / 2 : Nat) : Int) := by decide +kernel
theorem bit_shi1 : ∀ v : Nat, v < 1024 → (Int32.ofInt (v : Int) >>> (Int32.ofInt 1 &&& 31)).toInt = ((v / 2 : Nat) : Int) := by decide +kernel
theorem bit_and2 : ∀ k : Nat, k < 10 → ∀ v : Nat, v < 1024 → ((Int64.ofInt (v : Int) &&& Int64.ofInt ((2 ^ k : Nat) : Int)).toInt = 0 ↔ v / 2 ^ k % 2 = 0) := by decide +kernel
theorem bit_at : ∀ k : Nat, k < 11 → ∀ v : Nat, v < 1024 → ((Int64.ofInt ((Int64.ofInt (v : Int) >>> ((Int32.ofInt (k : Int)).toInt64 &&& 63)).toInt) &&& Int64.ofInt 1).toInt) = ((v / 2 ^ k % 2 : Nat) : Int) := by decide +kernel
def nlg (v w : Int) : Int := if v < 4 then w32 (w - (((Int32.ofInt v).toUInt32 >>> ((Int32.ofInt 1).toUInt32 &&& Int32.toUInt32 31)).toInt32.toInt)) else w32 ((w32 (w + (-2))) - (((Int32.ofInt (((Int32.ofInt v).toUInt32 >>> ((Int32.ofInt 2).toUInt32 &&& Int32.toUInt32 31)).toInt32.toInt)).toUInt32 >>> ((Int32.ofInt 1).toUInt32 &&& Int32.toUInt32 31)).toInt32.toInt))
def nlz (v : Int) : Int := if v < 256 then (if v < 16 then nlg v 31 else nlg (((Int32.ofInt v).toUInt32 >>> ((Int32.ofInt 4).toUInt32 &&& Int32.toUInt32 31)).toInt32.toInt) (w32 (31 + (-4))))
  else if (((Int32.ofInt v).toUInt32 >>> ((Int32.ofInt 8).toUInt32 &&& Int32.toUInt32 31)).toInt32.toInt) < 16 then nlg (((Int32.ofInt v).toUInt32 >>> ((Int32.ofInt 8).toUInt32 &&& Int32.toUInt32 31)).toInt32.toInt) (w32 (31 + (-8)))
  else nlg (((Int32.ofInt (((Int32.ofInt v).toUInt32 >>> ((Int32.ofInt 8).toUInt32 &&& Int32.toUInt32 31)).toInt32.toInt)).toUInt32 >>> ((Int32.ofInt 4).toUInt32 &&& Int32.toUInt32 31)).toInt32.toInt) (w32 ((w32 (31 + (-8))) + (-4)))
def hob (v : Int) : Int := (Int32.ofInt v &&& Int32.ofInt (((Int32.ofInt (-2147483648)).toUInt32 >>> ((Int32.ofInt (nlz v)).toUInt32 &&& Int32.toUInt32 31)).toInt32.toInt)).toInt
theorem hob_eq : ∀ v : Nat, v < 1024 → 1 ≤ v → hob (v : Int) = ((2 ^ Nat.log2 v : Nat) : Int) := by decide +kernel
theorem c_nlg {v w : Int} {m : rz_M} {Q : Int → rz_M → Prop} (h : Q (nlg v w) m) : rz_E y_J_numberOfLeadingZeros 61 [rI v, rI w] [] m Q := by
  refine T_J_numberOfLeadingZeros_61 _ _ _ _ (bb (fun q => ?_) (fun q => ?_))
  · unfold nlg at h; rwa [if_pos q] at h
  · unfold nlg at h; rwa [if_neg q] at h
theorem c_J_hob {v : Int} (h0 : 0 < v) (h1 : v < 1024) {m : rz_M} {Q : Int → rz_M → Prop} (h : Q (hob v) m) : rz_C y_J_highestOneBit [rI v] m Q := by
  refine T_J_highestOneBit_0 _ _ _ (T_J_numberOfLeadingZeros_0 _ _ _ (bt h0 (bt (by omega) (T_J_numberOfLeadingZeros_33 _ _ _ _ ?_))))
  unfold hob at h
  unfold nlz at h
  refine bb (fun q => ?_) (fun q => ?_)
  · rw [if_pos q] at h
    refine bb (fun z => c_nlg ?_) (fun z => c_nlg ?_)
    · rwa [if_pos z] at h
    · rwa [if_neg z] at h
  · rw [if_neg q] at h
    refine bb (fun z => c_nlg ?_) (fun z => c_nlg ?_)
    · rwa [if_pos z] at h
    · rwa [if_neg z] at h
theorem hob_pw {P : Nat} (h0 : 2 ≤ P) (h1 : P < 1024) : ∃ k : Nat, hob (P : Int) = ((2 ^ k : Nat) : Int) ∧ 2 ^ k ≤ P ∧ P < 2 ^ (k + 1) ∧ k < 10 := by
  refine ⟨Nat.log2 P, hob_eq P h1 (by omega), Nat.log2_self_le (by omega), Nat.lt_log2_self, ?_⟩
  exact (Nat.log2_lt (by omega)).mpr h1
/-- the rest that is not below 0 -/
theorem byP {P v : Int} (hP : 0 < P) : (0 ≤ Int.tmod v P → Int.tmod v P = v % P) ∧ (¬ 0 ≤ Int.tmod v P → Int.tmod v P + P = v % P) := by
  have e := Int.mul_tdiv_add_tmod v P
  have l1 := Int.tmod_lt_of_pos v hP
  have l2 := Int.lt_tmod_of_pos v hP
  constructor
  · intro h
    have : v % P = (Int.tmod v P + P * Int.tdiv v P) % P := by
      congr 1
      omega
    rw [this, Int.add_mul_emod_self_left, Int.emod_eq_of_lt h l1]
  · intro h
    have : v % P = (Int.tmod v P + P + P * (Int.tdiv v P - 1)) % P := by
      congr 1
      rw [Int.mul_sub]
      omega
    rw [this, Int.add_mul_emod_self_left, Int.emod_eq_of_lt (by omega) (by omega)]
theorem emod_dvd (v P : Int) : P ∣ v - v % P := ⟨v / P, by have := Int.mul_ediv_add_emod v P; omega⟩
theorem prI_int {p : Int} (hp : isPr p) : prI (fun a : Int => p ∣ a) :=
  ⟨Int.dvd_zero p, fun _ _ => Int.dvd_add, fun _ _ h => Int.dvd_mul_of_dvd_right h, fun a b h => hp.2 a b h, fun h => by have := Int.le_of_dvd (by decide) h; have := hp.1; omega⟩
theorem fer_int {P : Nat} (hp : isPr (P : Int)) {a : Int} (ha : ¬ (P : Int) ∣ a) : (P : Int) ∣ a ^ (P - 1) - 1 := by
  have p2 := hp.1
  have h := fermat (prI_int hp) (fun i => (i : Int) + 1) (List.range (P - 1)) List.nodup_range (fun i hi j hj h => by
      have hi := List.mem_range.mp hi
      have hj := List.mem_range.mp hj
      exact dvd_small (P := P) (by omega) (by omega) (by rwa [show (i : Int) + 1 - ((j : Int) + 1) = (i : Int) - j from by omega] at h)) (fun i hi h => by
      have hi := List.mem_range.mp hi
      have := Int.le_of_dvd (by omega) h
      omega) (fun b hb => by
      have h0 := Int.emod_nonneg b (show (P : Int) ≠ 0 by omega)
      have h1 := Int.emod_lt_of_pos b (show (0 : Int) < P by omega)
      have hz : b % P ≠ 0 := fun q => hb (Int.dvd_of_emod_eq_zero q)
      refine ⟨(b % P).toNat - 1, List.mem_range.mpr (by omega), ?_⟩
      show (P : Int) ∣ b - ((((b % P).toNat - 1 : Nat) : Int) + 1)
      rw [show (((b % P).toNat - 1 : Nat) : Int) + 1 = b % P from by omega]
      exact emod_dvd b P) ha
  rwa [List.length_range] at h
