/-! Sturm: values at n / D, made whole; how they change by a step -/
def hh : Nat → (Nat → Int) → Int → Int → Int
  | 0, f, _, _ => f 0
  | k + 1, f, n, D => f 0 * D ^ (k + 1) + n * hh k (fun j => f (j + 1)) n D
theorem hh_congr : ∀ (k : Nat) {f g : Nat → Int} (n D : Int), (∀ j, j ≤ k → f j = g j) → hh k f n D = hh k g n D
  | 0, f, g, n, D, h => h 0 (Nat.le_refl _)
  | k + 1, f, g, n, D, h => by
    show f 0 * D ^ (k + 1) + n * hh k (fun j => f (j + 1)) n D = g 0 * D ^ (k + 1) + n * hh k (fun j => g (j + 1)) n D
    rw [h 0 (Nat.zero_le _), hh_congr k n D (fun j hj => h (j + 1) (by omega))]
theorem hh_add : ∀ (k : Nat) (f g : Nat → Int) (n D : Int), hh k (fun j => f j + g j) n D = hh k f n D + hh k g n D
  | 0, f, g, n, D => rfl
  | k + 1, f, g, n, D => by
    show (f 0 + g 0) * D ^ (k + 1) + n * hh k (fun j => f (j + 1) + g (j + 1)) n D = f 0 * D ^ (k + 1) + n * hh k (fun j => f (j + 1)) n D + (g 0 * D ^ (k + 1) + n * hh k (fun j => g (j + 1)) n D)
    rw [hh_add k (fun j => f (j + 1)) (fun j => g (j + 1)) n D]
    grind
theorem hh_mul_c : ∀ (k : Nat) (c : Int) (f : Nat → Int) (n D : Int), hh k (fun j => c * f j) n D = c * hh k f n D
  | 0, c, f, n, D => rfl
  | k + 1, c, f, n, D => by
    show c * f 0 * D ^ (k + 1) + n * hh k (fun j => c * f (j + 1)) n D = c * (f 0 * D ^ (k + 1) + n * hh k (fun j => f (j + 1)) n D)
    rw [hh_mul_c k c (fun j => f (j + 1)) n D]
    grind
theorem hh_pad1 : ∀ (k : Nat) (f : Nat → Int) (n D : Int), f (k + 1) = 0 → hh (k + 1) f n D = D * hh k f n D
  | 0, f, n, D, h => by
    show f 0 * D ^ (0 + 1) + n * f (0 + 1) = D * f 0
    rw [h]
    grind
  | k + 1, f, n, D, h => by
    have ih := hh_pad1 k (fun j => f (j + 1)) n D h
    have e : hh (k + 1 + 1) f n D = f 0 * D ^ (k + 1 + 1) + n * hh (k + 1) (fun j => f (j + 1)) n D := rfl
    have e2 : hh (k + 1) f n D = f 0 * D ^ (k + 1) + n * hh k (fun j => f (j + 1)) n D := rfl
    rw [e, ih, e2, Int.pow_succ D (k + 1)]
    grind
theorem hh_pad (k : Nat) (f : Nat → Int) (n D : Int) (h : ∀ j, k < j → f j = 0) : ∀ l : Nat, hh (k + l) f n D = D ^ l * hh k f n D
  | 0 => by
    show hh k f n D = D ^ 0 * hh k f n D
    rw [Int.pow_zero, Int.one_mul]
  | l + 1 => by
    show hh (k + l + 1) f n D = _
    rw [hh_pad1 (k + l) f n D (h _ (by omega)), hh_pad k f n D h l, Int.pow_succ]
    grind
theorem hh_mul : ∀ (k l : Nat) (f g : Nat → Int) (n D : Int), (∀ j, k < j → f j = 0) → (∀ j, l < j → g j = 0) → hh (k + l) (cv f g) n D = hh k f n D * hh l g n D
  | 0, l, f, g, n, D, hf, hg => by
    have e : ∀ j, j ≤ 0 + l → cv f g j = f 0 * g j := fun j _ => by
      rw [← cv_C (f 0) g j]
      refine cv_congr (fun i _ => ?_) (fun i _ => rfl)
      by_cases q : i = 0
      · rw [if_pos q, q]
      · rw [if_neg q, hf i (by omega)]
    rw [hh_congr (0 + l) n D e, hh_mul_c, Nat.zero_add]
    rfl
  | k + 1, l, f, g, n, D, hf, hg => by
    have ih := hh_mul k l (fun j => f (j + 1)) g n D (fun j hj => hf (j + 1) (by omega)) hg
    have e : ∀ j, j ≤ k + l + 1 → cv f g j = f 0 * g j + (if j = 0 then 0 else cv (fun j => f (j + 1)) g (j - 1)) := fun j _ => by
      cases j with
      | zero => rw [cv_0, if_pos rfl, Int.add_zero]
      | succ j => rw [cv_s, if_neg (by omega), Nat.add_sub_cancel]
    have e1 : hh (k + 1 + l) (cv f g) n D = hh (k + l + 1) (fun j => f 0 * g j + (if j = 0 then 0 else cv (fun j => f (j + 1)) g (j - 1))) n D := by
      rw [show k + 1 + l = k + l + 1 from by omega]
      exact hh_congr _ n D e
    have e2 : hh (k + l + 1) (fun j => if j = 0 then 0 else cv (fun j => f (j + 1)) g (j - 1)) n D = n * hh (k + l) (cv (fun j => f (j + 1)) g) n D := by
      show (if (0 : Nat) = 0 then (0 : Int) else _) * D ^ (k + l + 1) + n * hh (k + l) (fun j => if j + 1 = 0 then 0 else cv (fun j => f (j + 1)) g (j + 1 - 1)) n D = _
      rw [if_pos rfl, Int.zero_mul, Int.zero_add]
      congr 1
    have e3 : hh (k + l + 1) (fun j => f 0 * g j) n D = f 0 * (D ^ (k + 1) * hh l g n D) := by
      rw [hh_mul_c, show k + l + 1 = l + (k + 1) from by omega, hh_pad l g n D hg]
    rw [e1, hh_add, e2, e3, ih]
    show _ = (f 0 * D ^ (k + 1) + n * hh k (fun j => f (j + 1)) n D) * hh l g n D
    grind
/-- at a whole number -/
theorem hh_at : ∀ (k : Nat) (f : Nat → Int) (a D : Int), hh k f (a * D) D = D ^ k * hh k f a 1
  | 0, f, a, D => by
    show f 0 = D ^ 0 * f 0
    rw [Int.pow_zero, Int.one_mul]
  | k + 1, f, a, D => by
    show f 0 * D ^ (k + 1) + a * D * hh k (fun j => f (j + 1)) (a * D) D = D ^ (k + 1) * (f 0 * 1 ^ (k + 1) + a * hh k (fun j => f (j + 1)) a 1)
    rw [hh_at k (fun j => f (j + 1)) a D, Int.pow_succ D k, Int.one_pow]
    grind
theorem npw (D k : Nat) : (((D : Nat) : Int) ^ k).natAbs = D ^ k := by rw [Int.natAbs_pow, Int.natAbs_natCast]
theorem hh_b0 : ∀ (k M : Nat) (f : Nat → Int), ∃ C : Nat, ∀ (D : Nat) (n : Int), n.natAbs ≤ M * D → (hh k f n D).natAbs ≤ C * D ^ k
  | 0, M, f => ⟨(f 0).natAbs, fun D n _ => by
    show (f 0).natAbs ≤ (f 0).natAbs * D ^ 0
    rw [Nat.pow_zero, Nat.mul_one]
    exact Nat.le_refl _⟩
  | k + 1, M, f => by
    obtain ⟨C, hC⟩ := hh_b0 k M (fun j => f (j + 1))
    refine ⟨(f 0).natAbs + M * C, fun D n hn => ?_⟩
    have h1 := hC D n hn
    show (f 0 * (D : Int) ^ (k + 1) + n * hh k (fun j => f (j + 1)) n D).natAbs ≤ _
    have a1 : (f 0 * (D : Int) ^ (k + 1)).natAbs = (f 0).natAbs * D ^ (k + 1) := by rw [Int.natAbs_mul, npw]
    have a2 : (n * hh k (fun j => f (j + 1)) n D).natAbs ≤ (M * D) * (C * D ^ k) := by
      rw [Int.natAbs_mul]
      exact Nat.mul_le_mul hn h1
    have a3 : (M * D) * (C * D ^ k) = M * C * D ^ (k + 1) := by rw [Nat.pow_succ]; grind
    have a4 := Int.natAbs_add_le (f 0 * (D : Int) ^ (k + 1)) (n * hh k (fun j => f (j + 1)) n D)
    rw [Nat.add_mul]
    omega
theorem hh_b1 : ∀ (k M : Nat) (f : Nat → Int), ∃ L : Nat, ∀ (D : Nat) (n : Int), 1 ≤ D → n.natAbs ≤ M * D → (hh k f (n + 1) D - hh k f n D).natAbs * D ≤ L * D ^ k
  | 0, M, f => ⟨0, fun D n _ _ => by
    show (f 0 - f 0).natAbs * D ≤ 0 * D ^ 0
    rw [Int.sub_self]
    simp⟩
  | k + 1, M, f => by
    obtain ⟨L, hL⟩ := hh_b1 k M (fun j => f (j + 1))
    obtain ⟨C, hC⟩ := hh_b0 k (M + 1) (fun j => f (j + 1))
    refine ⟨M * L + C, fun D n hD hn => ?_⟩
    have h1 := hL D n hD hn
    have h2 := hC D (n + 1) (by rw [Nat.add_mul]; omega)
    have e : hh (k + 1) f (n + 1) D - hh (k + 1) f n D = n * (hh k (fun j => f (j + 1)) (n + 1) D - hh k (fun j => f (j + 1)) n D) + hh k (fun j => f (j + 1)) (n + 1) D := by
      show f 0 * (D : Int) ^ (k + 1) + (n + 1) * hh k (fun j => f (j + 1)) (n + 1) D - (f 0 * (D : Int) ^ (k + 1) + n * hh k (fun j => f (j + 1)) n D) = _
      grind
    rw [e]
    generalize hh k (fun j => f (j + 1)) (n + 1) D - hh k (fun j => f (j + 1)) n D = X at h1
    generalize hh k (fun j => f (j + 1)) (n + 1) D = Y at h2
    have a1 := Int.natAbs_add_le (n * X) Y
    have a2 : (n * X + Y).natAbs * D ≤ (n * X).natAbs * D + Y.natAbs * D := by
      rw [← Nat.add_mul]
      exact Nat.mul_le_mul_right _ a1
    have a3 : (n * X).natAbs * D ≤ (M * D) * (L * D ^ k) := by
      rw [Int.natAbs_mul, Nat.mul_assoc]
      exact Nat.mul_le_mul hn h1
    have a4 : Y.natAbs * D ≤ C * D ^ k * D := Nat.mul_le_mul_right _ h2
    have a5 : (M * D) * (L * D ^ k) = M * L * D ^ (k + 1) := by rw [Nat.pow_succ]; grind
    have a6 : C * D ^ k * D = C * D ^ (k + 1) := by rw [Nat.pow_succ]; grind
    rw [Nat.add_mul]
    omega
theorem hh_b2 : ∀ (k M : Nat) (f : Nat → Int), (∀ j, k < j → f j = 0) → ∃ L : Nat, ∀ (D : Nat) (n : Int), 1 ≤ D → n.natAbs ≤ M * D → ((D : Int) * (hh k f (n + 1) D - hh k f n D) - hh k (fun j => ((j : Int) + 1) * f (j + 1)) n D).natAbs * D ≤ L * D ^ k
  | 0, M, f, hf => ⟨0, fun D n _ _ => by
    show ((D : Int) * (f 0 - f 0) - (((0 : Nat) : Int) + 1) * f (0 + 1)).natAbs * D ≤ 0 * D ^ 0
    rw [hf (0 + 1) (by omega), Int.sub_self]
    simp⟩
  | k + 1, M, f, hf => by
    obtain ⟨L2, hL2⟩ := hh_b2 k M (fun j => f (j + 1)) (fun j hj => hf (j + 1) (by omega))
    obtain ⟨L, hL⟩ := hh_b1 k M (fun j => f (j + 1))
    refine ⟨M * L2 + L, fun D n hD hn => ?_⟩
    have h1 := hL2 D n hD hn
    have h2 := hL D n hD hn
    have ed : hh (k + 1) (fun j => ((j : Int) + 1) * f (j + 1)) n D = (D : Int) * hh k (fun j => f (j + 1)) n D + n * hh k (fun j => ((j : Int) + 1) * f (j + 1 + 1)) n D := by
      have e1 : hh (k + 1) (fun j => ((j : Int) + 1) * f (j + 1)) n D = hh (k + 1) (fun j => f (j + 1) + (if j = 0 then 0 else ((j - 1 : Nat) + 1 : Int) * f (j - 1 + 1 + 1))) n D := by
        refine hh_congr _ n D (fun j _ => ?_)
        cases j with
        | zero => rw [if_pos rfl]; show (0 + 1) * f (0 + 1) = _; omega
        | succ j =>
          rw [if_neg (by omega), Nat.add_sub_cancel]
          grind
      have e2 : hh (k + 1) (fun j => if j = 0 then 0 else ((j - 1 : Nat) + 1 : Int) * f (j - 1 + 1 + 1)) n D = n * hh k (fun j => ((j : Int) + 1) * f (j + 1 + 1)) n D := by
        show (if (0 : Nat) = 0 then (0 : Int) else _) * (D : Int) ^ (k + 1) + n * hh k (fun j => if j + 1 = 0 then 0 else ((j + 1 - 1 : Nat) + 1 : Int) * f (j + 1 - 1 + 1 + 1)) n D = _
        rw [if_pos rfl, Int.zero_mul, Int.zero_add]
        congr 1
      rw [e1, hh_add, e2, hh_pad1 k (fun j => f (j + 1)) n D (hf _ (by omega))]
    have e : (D : Int) * (hh (k + 1) f (n + 1) D - hh (k + 1) f n D) - hh (k + 1) (fun j => ((j : Int) + 1) * f (j + 1)) n D = n * ((D : Int) * (hh k (fun j => f (j + 1)) (n + 1) D - hh k (fun j => f (j + 1)) n D) - hh k (fun j => ((j : Int) + 1) * f (j + 1 + 1)) n D) + (D : Int) * (hh k (fun j => f (j + 1)) (n + 1) D - hh k (fun j => f (j + 1)) n D) := by
      rw [ed]
      show (D : Int) * (f 0 * (D : Int) ^ (k + 1) + (n + 1) * hh k (fun j => f (j + 1)) (n + 1) D - (f 0 * (D : Int) ^ (k + 1) + n * hh k (fun j => f (j + 1)) n D)) - _ = _
      grind
    rw [e]
    generalize (D : Int) * (hh k (fun j => f (j + 1)) (n + 1) D - hh k (fun j => f (j + 1)) n D) - hh k (fun j => ((j : Int) + 1) * f (j + 1 + 1)) n D = X at h1
    generalize hh k (fun j => f (j + 1)) (n + 1) D - hh k (fun j => f (j + 1)) n D = Y at h2
    have a1 := Int.natAbs_add_le (n * X) ((D : Int) * Y)
    have a2 : (n * X + (D : Int) * Y).natAbs * D ≤ (n * X).natAbs * D + ((D : Int) * Y).natAbs * D := by
      rw [← Nat.add_mul]
      exact Nat.mul_le_mul_right _ a1
    have a3 : (n * X).natAbs * D ≤ (M * D) * (L2 * D ^ k) := by
      rw [Int.natAbs_mul, Nat.mul_assoc]
      exact Nat.mul_le_mul hn h1
    have a4 : ((D : Int) * Y).natAbs * D ≤ L * D ^ k * D := by
      rw [Int.natAbs_mul, Int.natAbs_natCast, Nat.mul_comm D]
      exact Nat.mul_le_mul_right _ h2
    have a5 : (M * D) * (L2 * D ^ k) = M * L2 * D ^ (k + 1) := by rw [Nat.pow_succ]; grind
    have a6 : L * D ^ k * D = L * D ^ (k + 1) := by rw [Nat.pow_succ]; grind
    rw [Nat.add_mul]
    omega
