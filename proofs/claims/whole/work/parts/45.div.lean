/-! a Big divided by a small number -/
theorem shl31 {x : Int} (h : 0 ≤ x ∧ x < 2147483648) : (Int64.ofInt x <<< ((Int32.ofInt 31).toInt64 &&& 63)).toInt = x * 2147483648 := by
  have e : (Int32.ofInt 31).toInt64 &&& 63 = 31 := by decide
  rw [e, ← Int64.toInt_toBitVec, Int64.toBitVec_shiftLeft, BitVec.shiftLeft_eq', BitVec.toInt_shiftLeft]
  have e2 : (BitVec.smod (31 : Int64).toBitVec 64).toNat = 31 := by decide
  have en : (Int64.ofInt x).toBitVec.toNat = x.toNat := by
    rw [Int64.toBitVec_ofInt, BitVec.toNat_ofInt, show ((2 ^ 64 : Nat) : Int) = 18446744073709551616 by decide]
    omega
  rw [e2, en, Nat.shiftLeft_eq]
  have h31 : (2 : Nat) ^ 31 = 2147483648 := by decide
  have h64 : (2 : Nat) ^ 64 = 18446744073709551616 := by decide
  rw [h31, h64]
  have ex : ((x.toNat * 2147483648 : Nat) : Int) = x * 2147483648 := by omega
  rw [ex]
  exact w64_id (z := x * 2147483648) (by omega) (by omega)
theorem mag_diff {f g : Int → Int} {n : Nat} : ∀ s : Nat, n ≤ s → (∀ j : Int, n ≤ j → j < s → f j = g j) → mag f s - mag f n = mag g s - mag g n
  | 0, h, _ => by
    rw [show n = 0 by omega]
    omega
  | s + 1, h, e => by
    by_cases q : n = s + 1
    · rw [q]
      omega
    · have ih := mag_diff (f := f) (g := g) (n := n) s (by omega) (fun j x y => e j x (by omega))
      have es := e s (by omega) (by omega)
      show mag f s + f s * pw s - mag f n = mag g s + g s * pw s - mag g n
      rw [es]
      omega
theorem l_divideBy {c : Nat} (hc : bgO c) {m : rz_M} {s : Nat} {k : Int} (hs : s ≤ 40) (hms : m c 1 = s) (hd : digs (m (c + 1)) s) (hk : 1 ≤ k ∧ k ≤ 1000) {K : Int → rz_M → Prop}
    (h : ∀ M : rz_M, (∀ i, i ≠ c + 1 → M i = m i) → digs (M (c + 1)) s → (∃ r : Int, 0 ≤ r ∧ r < k ∧ mag (m (c + 1)) s = k * mag (M (c + 1)) s + r) → rz_C y_Big_endWith [rR c, rI s, rL 0, rI (m c 2)] M (fun _ m' => K 0 m')) :
    ∀ (n : Nat) (M : rz_M) (r : Int), n ≤ s → (∀ i, i ≠ c + 1 → M i = m i) → digs (M (c + 1)) s → (∀ j : Int, 0 ≤ j → j < n → M (c + 1) j = m (c + 1) j) → 0 ≤ r → r < k →
    mag (m (c + 1)) s - mag (m (c + 1)) n = k * (mag (M (c + 1)) s - mag (M (c + 1)) n) + r * pw n → rz_E y_Big_divideBy 10 [rR c, rI k, rL r, rX 1, rI ((n : Int) - 1)] [] M K
  | 0, M, r, hn, hM, hg, hl, h0, h1, e => by
    have z1 : mag (m (c + 1)) 0 = 0 := rfl
    have z2 : mag (M (c + 1)) 0 = 0 := rfl
    have z3 : pw 0 = 1 := rfl
    rw [z1, z2, z3, Int.sub_zero, Int.sub_zero, Int.mul_one] at e
    have hf := h M hM hg ⟨r, h0, h1, e⟩
    refine T_Big_divideBy_10 _ _ _ _ _ _ (bf (by omega) (bt (by omega) ⟨hc.1, hc.1, hc.1, ?_⟩))
    rw [hM c (by omega), hms]
    exact hf
  | n + 1, M, r, hn, hM, hg, hl, h0, h1, e => by
    have dn := hd n (by omega) (by omega)
    have en := hl n (by omega) (by omega)
    have ii : rz_in (n : Int) (rz_len (c + 1)) := ⟨by omega, by rw [hc.2.2.2]; omega⟩
    refine T_Big_divideBy_10 _ _ _ _ _ _ (bf (by omega) (bf (by omega) ?_))
    rw [show ((n + 1 : Nat) : Int) - 1 = n from by omega, hc.2.1, shl31 ⟨h0, by omega⟩, en, w32_id (z := (n : Int) + -1) (by omega) (by omega), w64_id (z := r * 2147483648 + m (c + 1) n) (by omega) (by omega)]
    have ht : 0 ≤ r * 2147483648 + m (c + 1) n := by omega
    rw [Int.tdiv_eq_ediv_of_nonneg ht, Int.tmod_eq_emod_of_nonneg ht]
    have t1 := Int.mul_ediv_add_emod (r * 2147483648 + m (c + 1) n) k
    have t2 := Int.emod_nonneg (r * 2147483648 + m (c + 1) n) (show k ≠ 0 by omega)
    have t3 := Int.emod_lt_of_pos (r * 2147483648 + m (c + 1) n) (show 0 < k by omega)
    have t4 : 0 ≤ (r * 2147483648 + m (c + 1) n) / k := Int.ediv_nonneg ht (by omega)
    have t5 : (r * 2147483648 + m (c + 1) n) / k < 2147483648 := by
      refine Int.ediv_lt_of_lt_mul (by omega) ?_
      have : (r + 1) * 2147483648 ≤ k * 2147483648 := Int.mul_le_mul_of_nonneg_right (by omega) (by decide)
      omega
    generalize (r * 2147483648 + m (c + 1) n) / k = q at t1 t4 t5
    generalize (r * 2147483648 + m (c + 1) n) % k = r2 at t1 t2 t3
    rw [w64_id (z := q) (by omega) (by omega)]
    have hup : ∀ j : Int, j ≠ n → rz_up M (c + 1) n q (c + 1) j = M (c + 1) j := fun j z => up_nj z
    refine ⟨hc.1, hc.2.2.1, ii, hc.1, by omega, hc.2.2.1, ii, by omega, l_divideBy hc hs hms hd hk h n _ r2 (by omega) (fun i hi => (up_ne hi).trans (hM i hi)) ?_ (fun j x y => by rw [hup j (by omega)]; exact hl j x (by omega)) t2 t3 ?_⟩
    · intro j x y
      by_cases z : j = n
      · subst z
        rw [up_eq]
        exact ⟨t4, t5⟩
      · rw [hup j z]
        exact hg j x y
    · have d := mag_diff (f := rz_up M (c + 1) n q (c + 1)) (g := M (c + 1)) (n := n + 1) s hn (fun j x y => hup j (by omega))
      have f1 : mag (rz_up M (c + 1) n q (c + 1)) (n + 1) = mag (rz_up M (c + 1) n q (c + 1)) n + q * pw n := by
        show _ + rz_up M (c + 1) n q (c + 1) n * pw n = _
        rw [up_eq]
      have f2 : mag (m (c + 1)) (n + 1) = mag (m (c + 1)) n + m (c + 1) n * pw n := rfl
      have f3 : pw (n + 1) = pw n * 2147483648 := rfl
      rw [← d, f1, f2, f3] at e
      have t1' : (k * q + r2) * pw n = (r * 2147483648 + m (c + 1) n) * pw n := by rw [t1]
      grind
