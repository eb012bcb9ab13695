/-! how great the numbers of a factor can be -/
def tbn (n : Int) : Int := if n = 6 then 100 else if n = 5 then 600 else if n = 4 then 4000 else if n = 3 then 16000 else if n = 2 then 48000 else 96000
theorem tbn_le (n : Int) : 100 ≤ tbn n ∧ tbn n ≤ 96000 := by
  unfold tbn
  repeat' split
  all_goals omega
/-- all seven numbers are at most B -/
def hB (f : Int → Int) (B : Int) : Prop := ∀ k : Int, 0 ≤ k → k < 7 → bd (f k) B
theorem ab_div {a x y : Int} (ha : a ≠ 0) (h : a * x = y) : x.natAbs ≤ y.natAbs := by
  rw [← h, Int.natAbs_mul]
  have : 1 * x.natAbs ≤ a.natAbs * x.natAbs := Nat.mul_le_mul_right _ (by omega)
  omega
/-- a step of division by a linear one -/
theorem ab_step {a b x y z A B : Int} (ha : a ≠ 0) (hab : b.natAbs ≤ a.natAbs) (h : a * x + b * y = z) (hz : bd z A) (hy : bd y B) : bd x (A + B) := by
  have e : a * x = z - b * y := by omega
  have h1 : (a * x).natAbs ≤ z.natAbs + (b * y).natAbs := by
    rw [e]
    omega
  rw [Int.natAbs_mul, Int.natAbs_mul] at h1
  have z1 := bd_abs hz
  have y1 := bd_abs hy
  have a1 : 1 ≤ a.natAbs := by omega
  have h2 : b.natAbs * y.natAbs ≤ a.natAbs * y.natAbs := Nat.mul_le_mul_right _ hab
  have h3 : a.natAbs * x.natAbs ≤ a.natAbs * (z.natAbs + y.natAbs) := by
    rw [Nat.mul_add]
    have : 1 * z.natAbs ≤ a.natAbs * z.natAbs := Nat.mul_le_mul_right _ a1
    omega
  have h4 : x.natAbs ≤ z.natAbs + y.natAbs := Nat.le_of_mul_le_mul_left h3 (by omega)
  have := bd_nn hz
  have := bd_nn hy
  unfold bd
  omega
/-- the quotient by a linear one: n times the bound at most -/
theorem lin_bd {a b B : Int} {r h : Int → Int} {n : Nat} (ha : a ≠ 0) (hr : ∀ k : Int, 0 ≤ k → k ≤ n → bd (r k) B) (he : ∀ k : Int, 0 ≤ k → k ≤ n → r k = a * (if k = 0 then 0 else h (k - 1)) + b * (if k = n then 0 else h k)) : ∀ k : Int, 0 ≤ k → k < n → bd (h k) (n * B) := by
  rcases Nat.le_total b.natAbs a.natAbs with q | q
  · -- from above
    have down : ∀ (d : Nat) (k : Int), 0 ≤ k → (n : Int) - 1 - k = d → bd (h k) (((d : Int) + 1) * B) := by
      intro d
      induction d with
      | zero =>
        intro k k0 k1
        have e := he (k + 1) (by omega) (by omega)
        rw [if_neg (by omega), if_pos (by omega), Int.mul_zero, show k + 1 - 1 = k from by omega] at e
        have := ab_step (b := 0) (y := 0) (B := 0) ha (by simp) (by rw [Int.zero_mul]; exact e.symm) (hr (k + 1) (by omega) (by omega)) ⟨by decide, by decide⟩
        exact bd_le this (by omega)
      | succ d ih =>
        intro k k0 k1
        have e := he (k + 1) (by omega) (by omega)
        rw [if_neg (by omega), if_neg (by omega), show k + 1 - 1 = k from by omega] at e
        have := ab_step ha q e.symm (hr (k + 1) (by omega) (by omega)) (ih (k + 1) (by omega) (by omega))
        refine bd_le this ?_
        rw [show ((d + 1 : Nat) : Int) + 1 = ((d : Int) + 1) + 1 from by omega, Int.add_mul ((d : Int) + 1)]
        omega
    intro k k0 k1
    have := down ((n : Int) - 1 - k).toNat k k0 (by omega)
    refine bd_le this ?_
    have b0 := bd_nn (hr 0 (by decide) (by omega))
    exact Int.mul_le_mul_of_nonneg_right (by omega) b0
  · -- from below
    have hb : b ≠ 0 := by omega
    have up : ∀ (d : Nat), (d : Int) < n → bd (h d) (((d : Int) + 1) * B) := by
      intro d
      induction d with
      | zero =>
        intro k1
        have e := he 0 (by decide) (by omega)
        rw [if_pos rfl, if_neg (by omega), Int.mul_zero, Int.zero_add] at e
        have := ab_step (b := 0) (y := 0) (B := 0) hb (by simp) (by rw [Int.zero_mul, Int.add_zero]; exact e.symm) (hr 0 (by decide) (by omega)) ⟨by decide, by decide⟩
        exact bd_le this (by omega)
      | succ d ih =>
        intro k1
        have e := he ((d : Int) + 1) (by omega) (by omega)
        rw [if_neg (by omega), if_neg (by omega), show (d : Int) + 1 - 1 = d from by omega] at e
        have := ab_step hb q (show b * h ((d : Int) + 1) + a * h d = r ((d : Int) + 1) from by omega) (hr ((d : Int) + 1) (by omega) (by omega)) (ih (by omega))
        rw [show ((d + 1 : Nat) : Int) = (d : Int) + 1 from by omega]
        refine bd_le this ?_
        rw [Int.add_mul ((d : Int) + 1)]
        omega
    intro k k0 k1
    have := up k.toNat (by omega)
    rw [Int.toNat_of_nonneg k0] at this
    refine bd_le this ?_
    have b0 := bd_nn (hr 0 (by decide) (by omega))
    exact Int.mul_le_mul_of_nonneg_right (by omega) b0
/-- the value of seven numbers at x -/
def ev7 (f : Int → Int) (x : Int) : Int := f 0 + x * (f 1 + x * (f 2 + x * (f 3 + x * (f 4 + x * (f 5 + x * f 6)))))
/-- five values bound five numbers -/
theorem val_bd {h : Int → Int} {V1 V2 V0 : Int} (h5 : h 5 = 0) (h6 : h 6 = 0) (a0 : bd (ev7 h 0) V0) (a1 : bd (ev7 h 1) V1) (a2 : bd (ev7 h (-1)) V1) (a3 : bd (ev7 h 2) V2) (a4 : bd (ev7 h (-2)) V2) : bd (h 0) V0 ∧ bd (12 * h 1) (2 * V2 + 16 * V1) ∧ bd (24 * h 2) (2 * V2 + 32 * V1 + 30 * V0) ∧ bd (12 * h 3) (2 * V2 + 4 * V1) ∧ bd (24 * h 4) (2 * V2 + 8 * V1 + 6 * V0) := by
  unfold ev7 at *
  rw [h5, h6] at *
  unfold bd at *
  omega
