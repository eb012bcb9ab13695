/-! a Big times another -/
theorem mag_upd {f g : Int → Int} {p : Nat} {v : Int} (h1 : f p = v) : ∀ s : Nat, (∀ j : Int, 0 ≤ j → j < s → j ≠ p → f j = g j) → p < s → mag f s = mag g s + (v - g p) * pw p
  | 0, _, h => absurd h (by omega)
  | s + 1, e, h => by
    show mag f s + f s * pw s = mag g s + g s * pw s + _
    by_cases q : p = s
    · subst q
      rw [mag_congr p (fun j a b => e j a (by omega) (by omega)), h1]
      grind
    · rw [mag_upd h1 s (fun j a b c => e j a (by omega) c) (by omega), e s (by omega) (by omega) (by omega)]
      grind
theorem pw_add (a : Nat) : ∀ b : Nat, pw (a + b) = pw a * pw b
  | 0 => (Int.mul_one _).symm
  | b + 1 => by
    show pw (a + b) * 2147483648 = pw a * (pw b * 2147483648)
    rw [pw_add a b]
    grind
theorem mag_zero {g : Int → Int} : ∀ n : Nat, (∀ j : Int, 0 ≤ j → j < n → g j = 0) → mag g n = 0
  | 0, _ => rfl
  | n + 1, h => by
    show mag g n + g n * pw n = 0
    rw [mag_zero n (fun j a b => h j a (by omega)), h n (by omega) (by omega)]
    grind
theorem prod_R {x y d c : Int} (hx : 0 ≤ x ∧ x < 2147483648) (hy : 0 ≤ y ∧ y < 2147483648) (hd : 0 ≤ d ∧ d < 2147483648) (hc : 0 ≤ c ∧ c < 2147483648) : (0 ≤ x * y ∧ x * y ≤ 4611686014132420609) ∧ 0 ≤ (c + (d + x * y)) / 2147483648 ∧ (c + (d + x * y)) / 2147483648 < 2147483648 := by
  have h1 : 0 ≤ x * y := Int.mul_nonneg hx.1 hy.1
  have h2 : x * y ≤ 2147483647 * 2147483647 := Int.mul_le_mul (by omega) (by omega) hy.1 (by decide)
  omega
