/-! both sides' Euclid -/
/-- Euclid's rounds -/
def gi : Nat → Int → Int → Int
  | 0, x, _ => x
  | n + 1, x, y => if y = 0 then x else gi n y (Int.tmod x y)
def fbn : Nat → Nat
  | 0 => 0
  | 1 => 1
  | n + 2 => fbn (n + 1) + fbn n
theorem fbn_100 : 9223372036854775808 < fbn 100 := by decide +kernel
theorem tmod_abs_lt (x y : Int) (h : y ≠ 0) : (Int.tmod x y).natAbs < y.natAbs := by
  rw [Int.natAbs_tmod]
  exact Nat.mod_lt _ (by omega)
/-- the second remainder is small -/
theorem tmod_two (x y : Int) (h : y ≠ 0) : Int.tmod x y ≠ 0 → (Int.tmod y (Int.tmod x y)).natAbs + (Int.tmod x y).natAbs ≤ y.natAbs := by
  intro h2
  have h3 := tmod_abs_lt x y h
  rw [Int.natAbs_tmod]
  generalize (Int.tmod x y).natAbs = r at h3 ⊢
  have hr : y.natAbs % r + r * (y.natAbs / r) = y.natAbs := Nat.mod_add_div _ _
  by_cases hr0 : r = 0
  · subst hr0; simp at *
  · have : 1 ≤ y.natAbs / r := (Nat.le_div_iff_mul_le (by omega)).mpr (by omega)
    have h4 : r * 1 ≤ r * (y.natAbs / r) := Nat.mul_le_mul_left r this
    omega
/-- from (x, y) with y small enough Euclid ends in n rounds -/
theorem gi_ends : ∀ (n : Nat) (x y : Int), y.natAbs < fbn (n + 1) → ∀ d : Nat, gi (n + d) x y = gi n x y ∧ (y ≠ 0 ∨ x ≠ 0 → gi n x y ≠ 0)
  | 0, x, y, h, d => by
    have hy : y = 0 := by
      have : y.natAbs < 1 := h
      omega
    subst hy
    refine ⟨?_, fun q => q.resolve_left (fun z => z rfl)⟩
    cases d with
    | zero => rfl
    | succ d => rw [Nat.zero_add]; rfl
  | 1, x, y, h, d => by
    have hy : y = 0 := by
      have : y.natAbs < 1 := h
      omega
    subst hy
    refine ⟨?_, fun q => q.resolve_left (fun z => z rfl)⟩
    rw [Nat.add_comm]
    rfl
  | n + 2, x, y, h, d => by
    by_cases hy : y = 0
    · subst hy
      refine ⟨?_, fun q => q.resolve_left (fun z => z rfl)⟩
      rw [Nat.add_right_comm]
      rfl
    · have e1 : gi (n + 2 + d) x y = gi (n + 1 + d) y (Int.tmod x y) := by
        rw [show n + 2 + d = (n + 1 + d) + 1 from by omega]
        show (if y = 0 then _ else _) = _
        rw [if_neg hy]
      have e2 : gi (n + 2) x y = gi (n + 1) y (Int.tmod x y) := by
        show (if y = 0 then _ else _) = _
        rw [if_neg hy]
      rw [e1, e2]
      by_cases hr : (Int.tmod x y).natAbs < fbn (n + 2)
      · have ih := gi_ends (n + 1) y (Int.tmod x y) hr d
        exact ⟨ih.1, fun _ => ih.2 (Or.inr hy)⟩
      · have hr0 : Int.tmod x y ≠ 0 := by
          intro z
          rw [z] at hr
          apply hr
          have : ∀ k : Nat, 0 < fbn (k + 1) := by
            intro k
            induction k with
            | zero => decide
            | succ k ih => show 0 < fbn (k + 1) + fbn k; omega
          exact this (n + 1)
        have h2 := tmod_two x y hy hr0
        have hf : fbn (n + 3) = fbn (n + 2) + fbn (n + 1) := rfl
        have ih := gi_ends n (Int.tmod x y) (Int.tmod y (Int.tmod x y)) (by
          have : y.natAbs < fbn (n + 3) := h
          omega) d
        have e3 : gi (n + 1 + d) y (Int.tmod x y) = gi (n + d) (Int.tmod x y) (Int.tmod y (Int.tmod x y)) := by
          rw [show n + 1 + d = (n + d) + 1 from by omega]
          show (if Int.tmod x y = 0 then _ else _) = _
          rw [if_neg hr0]
        have e4 : gi (n + 1) y (Int.tmod x y) = gi n (Int.tmod x y) (Int.tmod y (Int.tmod x y)) := by
          show (if Int.tmod x y = 0 then _ else _) = _
          rw [if_neg hr0]
        rw [e3, e4]
        exact ⟨ih.1, fun _ => ih.2 (Or.inr hr0)⟩
theorem l_RC_gcd {m : rz_M} {K : Int → rz_M → Prop} : ∀ (n : Nat) (x y k : Int), 100 - k = n → 0 ≤ k → K (gi n x y) m → rz_E y_RC_greatestDivisor 15 [rX 0, rX 0, rX 0, rX 0, rL x, rX 1, rL y, rX 1, rI k, rX 0, rX 0] [] m K
  | 0, x, y, k, hk, h0, h => T_RC_greatestDivisor_15 _ _ _ _ _ (bb (fun _ => h) (fun _ => bt (by omega) h))
  | n + 1, x, y, k, hk, h0, h => by
    refine T_RC_greatestDivisor_15 _ _ _ _ _ (bb (fun q => ?_) (fun q => bf (by omega) ⟨q, ?_⟩))
    · have e : gi (n + 1) x y = x := by
        show (if y = 0 then _ else _) = _
        rw [if_pos q]
      rw [e] at h
      exact h
    · have e : gi (n + 1) x y = gi n y (Int.tmod x y) := by
        show (if y = 0 then _ else _) = _
        rw [if_neg q]
      rw [e] at h
      rw [w32_id (by omega) (by omega)]
      exact l_RC_gcd n y (Int.tmod x y) (k + 1) (by omega) (by omega) h
theorem c_RC_gcd {a b : Int} {m : rz_M} {K : Int → rz_M → Prop} (h : K (gi 100 (rz_abs a) (rz_abs b)) m) : rz_C y_RC_greatestDivisor [rL a, rL b] m K :=
  T_RC_greatestDivisor_0 _ _ _ _ (l_RC_gcd 100 _ _ 0 (by omega) (by omega) h)
theorem l_M_gcd {m : rz_M} {K : Int → rz_M → Prop} : ∀ (n : Nat) (x y : Int), y.natAbs < fbn (n + 1) → K (gi n x y) m → rz_E y_M_divisor 28 [rX 0, rX 0, rX 0, rX 0, rL x, rX 1, rL y, rX 1, rX 0, rX 0] [] m K
  | 0, x, y, hy, h => by
    have hy : y = 0 := by
      have : y.natAbs < 1 := hy
      omega
    exact T_M_divisor_28 _ _ _ _ (bt hy h)
  | 1, x, y, hy, h => by
    have hy : y = 0 := by
      have : y.natAbs < 1 := hy
      omega
    subst hy
    exact T_M_divisor_28 _ _ _ _ (bt rfl h)
  | n + 2, x, y, hy, h => by
    refine T_M_divisor_28 _ _ _ _ (bb (fun q => ?_) (fun q => ⟨q, ?_⟩))
    · have e : gi (n + 2) x y = x := by
        show (if y = 0 then _ else _) = _
        rw [if_pos q]
      rw [e] at h
      exact h
    · have e : gi (n + 2) x y = gi (n + 1) y (Int.tmod x y) := by
        show (if y = 0 then _ else _) = _
        rw [if_neg q]
      rw [e] at h
      by_cases hr : (Int.tmod x y).natAbs < fbn (n + 2)
      · exact l_M_gcd (n + 1) y (Int.tmod x y) hr h
      · by_cases hr0 : Int.tmod x y = 0
        · have e2 : gi (n + 1) y (Int.tmod x y) = y := by
            show (if Int.tmod x y = 0 then _ else _) = _
            rw [if_pos hr0]
          rw [e2] at h
          exact T_M_divisor_28 _ _ _ _ (bt hr0 h)
        · have h2 := tmod_two x y q hr0
          have hf : fbn (n + 3) = fbn (n + 2) + fbn (n + 1) := rfl
          have e2 : gi (n + 1) y (Int.tmod x y) = gi n (Int.tmod x y) (Int.tmod y (Int.tmod x y)) := by
            show (if Int.tmod x y = 0 then _ else _) = _
            rw [if_neg hr0]
          rw [e2] at h
          exact T_M_divisor_28 _ _ _ _ (bf hr0 ⟨hr0, l_M_gcd n _ _ (by
            have : y.natAbs < fbn (n + 3) := hy
            omega) h⟩)
/-- the absolute value as the machine has it -/
theorem abs_R {x : Int} (h : R64 x) : (rz_abs x).natAbs = x.natAbs ∧ (rz_abs x).natAbs ≤ 9223372036854775808 := by
  unfold rz_abs
  by_cases q : 0 < x
  · rw [if_pos q]
    unfold R64 at h
    exact ⟨rfl, by omega⟩
  · rw [if_neg q]
    by_cases e : x = -9223372036854775808
    · subst e; decide
    · unfold R64 at h
      rw [w64_id (by omega) (by omega)]
      omega
theorem c_M_divisor {a b : Int} (hb : R64 b) {m : rz_M} {K : Int → rz_M → Prop} (h : K (gi 100 (rz_abs a) (rz_abs b)) m) : rz_C y_M_divisor [rL a, rL b] m K := by
  have hf : (rz_abs b).natAbs < fbn (99 + 1) := Nat.lt_of_le_of_lt (abs_R hb).2 fbn_100
  have h1 := (gi_ends 99 (rz_abs a) (rz_abs b) hf 1).1
  rw [h1] at h
  have go := l_M_gcd (m := m) (K := K) 99 (rz_abs a) (rz_abs b) hf h
  have ea : ∀ x : Int, 0 ≤ x → rz_abs x = x := fun x hx => by
    unfold rz_abs
    by_cases q : 0 < x
    · rw [if_pos q]
    · rw [if_neg q, show x = 0 from by omega]; rfl
  have eb : ∀ x : Int, ¬ 0 ≤ x → rz_abs x = w64 (-x) := fun x hx => by
    unfold rz_abs
    rw [if_neg (by omega)]
  refine T_M_divisor_0 _ _ _ _ (bb (fun q1 => bb (fun q2 => ?_) (fun q2 => ?_)) (fun q1 => bb (fun q2 => ?_) (fun q2 => ?_)))
  · rw [ea a q1, ea b q2] at go; exact go
  · rw [ea a q1, eb b q2] at go; exact go
  · rw [eb a q1, ea b q2] at go; exact go
  · rw [eb a q1, eb b q2] at go; exact go
theorem gi_ne0 {a b : Int} (hb : R64 b) (h0 : b ≠ 0) : gi 100 (rz_abs a) (rz_abs b) ≠ 0 := by
  have h := abs_R hb
  have hf : (rz_abs b).natAbs < fbn (100 + 1) := Nat.lt_of_le_of_lt h.2 (Nat.lt_trans fbn_100 (by decide +kernel))
  exact (gi_ends 100 (rz_abs a) (rz_abs b) hf 0).2 (Or.inl (fun z => by
    rw [z] at h
    have := h.1
    simp at this
    omega))
