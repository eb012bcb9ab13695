/-! squares: both sides find them -/
def isSq (v : Int) : Prop := ∃ w : Int, w * w = v
theorem sq_iff {r v : Int} (h0 : 0 ≤ r) (h1 : r * r ≤ v) (h2 : v < (r + 1) * (r + 1)) : isSq v ↔ r * r = v := by
  refine ⟨fun ⟨w, hw⟩ => ?_, fun h => ⟨r, h⟩⟩
  have e : (w.natAbs : Int) * w.natAbs = v := by rw [← Int.natCast_mul, Int.natAbs_mul_self]; exact hw
  generalize (w.natAbs : Int) = z at e
  have key : ∀ z : Int, 0 ≤ z → z * z = v → z = r := fun z hz e => by
    rcases Int.lt_trichotomy z r with q | q | q
    · have := Int.mul_self_lt_mul_self hz q
      omega
    · exact q
    · have := Int.mul_self_le_mul_self (by omega) (show r + 1 ≤ z by omega)
      omega
  rcases Int.le_total 0 z with q | q
  · rw [← key z q e]; exact e
  · have := key (-z) (by omega) (by rw [Int.neg_mul_neg]; exact e)
    rw [← this, Int.neg_mul_neg]
    exact e
theorem sq_nn {v : Int} (h : isSq v) : 0 ≤ v := by
  obtain ⟨w, hw⟩ := h
  rw [← hw, ← Int.natAbs_mul_self]
  exact Int.natCast_nonneg _
theorem sq_shr : ∀ j : Nat, j < 31 → (Int64.ofInt ((2 ^ j : Nat) : Int) >>> ((Int32.ofInt 1).toInt64 &&& 63)).toInt = (if j = 0 then 0 else ((2 ^ (j - 1) : Nat) : Int)) := by decide +kernel
theorem l_RC_sq {v : Int} (hv : v < 4611686018427387904) {m : rz_M} {K : Int → rz_M → Prop} (h1 : isSq v → K 1 m) (h0 : ¬ isSq v → K 0 m) : ∀ (j : Nat) (r : Int), j ≤ 31 → 0 ≤ r → r * r ≤ v → r + ((2 ^ j : Nat) : Int) ≤ 2147483648 → v < (r + ((2 ^ j : Nat) : Int)) * (r + ((2 ^ j : Nat) : Int)) → rz_E y_RC_isSquare 15 [rL v, rX 1, rL r, rX 1, rL (if j = 0 then 0 else ((2 ^ (j - 1) : Nat) : Int)), rX 1, rX 0, rX 0] [] m K
  | 0, r, hj, r0, r1, r2, r3 => by
    rw [if_pos rfl]
    have i := sq_iff r0 r1 r3
    refine T_RC_isSquare_15 _ _ _ _ _ (bt (by decide) ?_)
    have b1 := Int.mul_self_le_mul_self r0 (show r ≤ 2147483648 by omega)
    have b0 := Int.mul_nonneg r0 r0
    rw [w64_id (by omega) (by omega)]
    exact bb (fun q => h0 (fun w => q (i.mp w))) (fun q => h1 (i.mpr (Classical.not_not.mp q)))
  | j + 1, r, hj, r0, r1, r2, r3 => by
    rw [if_neg (by omega), show j + 1 - 1 = j from by omega]
    have p2 : ((2 ^ (j + 1) : Nat) : Int) = 2 * ((2 ^ j : Nat) : Int) := by rw [Nat.pow_succ]; omega
    have p1 : (1 : Int) ≤ ((2 ^ j : Nat) : Int) := by have := Nat.one_le_two_pow (n := j); omega
    have sh := sq_shr j (by omega)
    have b1 := Int.mul_self_le_mul_self (show (0 : Int) ≤ r + ((2 ^ j : Nat) : Int) by omega) (show r + ((2 ^ j : Nat) : Int) ≤ 2147483648 by omega)
    have b0 : 0 ≤ (r + ((2 ^ j : Nat) : Int)) * (r + ((2 ^ j : Nat) : Int)) := Int.mul_nonneg (by omega) (by omega)
    refine T_RC_isSquare_15 _ _ _ _ _ (bf (by omega) ?_)
    rw [sh, w64_id (z := r + ((2 ^ j : Nat) : Int)) (by omega) (by omega), w64_id (by omega) (by omega)]
    refine bb (fun q => ?_) (fun q => ?_)
    · exact l_RC_sq hv h1 h0 j r (by omega) r0 r1 (by omega) q
    · refine l_RC_sq hv h1 h0 j (r + ((2 ^ j : Nat) : Int)) (by omega) (by omega) (by omega) (by omega) ?_
      rw [show r + ((2 ^ j : Nat) : Int) + ((2 ^ j : Nat) : Int) = r + ((2 ^ (j + 1) : Nat) : Int) from by omega]
      exact r3
theorem c_RC_isSquare {v : Int} (hv : v < 4611686018427387904) {m : rz_M} {K : Int → rz_M → Prop} (h1 : isSq v → K 1 m) (h0 : ¬ isSq v → K 0 m) : rz_C y_RC_isSquare [rL v] m K := by
  refine T_RC_isSquare_0 _ _ _ (bb (fun q => ?_) (fun q => h0 (fun w => q (sq_nn w))))
  have := l_RC_sq hv h1 h0 31 0 (by decide) (by decide) q (by decide) (by
    have e : ((0 : Int) + ((2 ^ 31 : Nat) : Int)) * ((0 : Int) + ((2 ^ 31 : Nat) : Int)) = 4611686018427387904 := by decide +kernel
    rw [e]
    exact hv)
  rw [if_neg (by decide), show (((2 ^ (31 - 1) : Nat)) : Int) = 1073741824 from by decide +kernel] at this
  exact this
theorem l_M_sq {v : Int} (hv : v < 9223372036854775808) {m : rz_M} {K : Int → rz_M → Prop} (h1 : isSq v → K 1 m) (h0 : ¬ isSq v → K 0 m) : ∀ (n : Nat) (a b : Int), b - a ≤ n → 0 ≤ a → a ≤ b → b ≤ 3037000499 → a * a ≤ v → v < (b + 1) * (b + 1) → rz_E y_M_isSquare 15 [rL v, rX 1, rL a, rX 1, rL b, rX 1, rX 0, rX 0] [] m K
  | 0, a, b, hn, a0, ab, b1, av, bv => by
    have e : b = a := by omega
    subst e
    have i := sq_iff a0 av bv
    have c1 := Int.mul_self_le_mul_self a0 (show b ≤ 3037000499 by omega)
    have c0 := Int.mul_nonneg a0 a0
    refine T_M_isSquare_15 _ _ _ _ _ (bt (by omega) ?_)
    rw [w64_id (by omega) (by omega)]
    exact bb (fun q => h0 (fun w => q (i.mp w))) (fun q => h1 (i.mpr (Classical.not_not.mp q)))
  | n + 1, a, b, hn, a0, ab, b1, av, bv => by
    by_cases e : a = b
    · subst e
      exact l_M_sq hv h1 h0 n a a (by omega) a0 ab b1 av bv
    · obtain ⟨k, hk⟩ : ∃ k : Int, Int.tdiv (a + b + 1) 2 = k := ⟨_, rfl⟩
      have hk2 : k = (a + b + 1) / 2 := by rw [← hk, Int.tdiv_eq_ediv_of_nonneg (by omega)]
      have k0 : a < k ∧ k ≤ b := by omega
      have c1 := Int.mul_self_le_mul_self (show 0 ≤ k by omega) (show k ≤ 3037000499 by omega)
      have c0 : 0 ≤ k * k := Int.mul_nonneg (by omega) (by omega)
      refine T_M_isSquare_15 _ _ _ _ _ (bf (by omega) ⟨by decide, ?_⟩)
      rw [w64_id (z := a + b) (by omega) (by omega), w64_id (z := a + b + 1) (by omega) (by omega), hk, w64_id (z := k) (by omega) (by omega), w64_id (z := k * k) (by omega) (by omega), w64_id (z := k - 1) (by omega) (by omega)]
      refine bb (fun q => ?_) (fun q => ?_)
      · exact l_M_sq hv h1 h0 n a (k - 1) (by omega) a0 (by omega) (by omega) av (by rw [show k - 1 + 1 = k from by omega]; exact q)
      · exact l_M_sq hv h1 h0 n k b (by omega) (by omega) (by omega) b1 (by omega) bv
theorem c_M_isSquare {v : Int} (hv : v < 9223372036854775808) {m : rz_M} {K : Int → rz_M → Prop} (h1 : isSq v → K 1 m) (h0 : ¬ isSq v → K 0 m) : rz_C y_M_isSquare [rL v] m K := by
  refine T_M_isSquare_0 _ _ _ (bb (fun q => ?_) (fun q => h0 (fun w => q (sq_nn w))))
  exact l_M_sq hv h1 h0 3037000499 0 3037000499 (by decide) (by decide) (by decide) (by decide) q (by
    have e : ((3037000499 : Int) + 1) * (3037000499 + 1) = 9223372037000250000 := by decide +kernel
    rw [e]
    omega)
/-- both are squares but for their greatest common factor, and have one sign -/
def sameQ (a b : Int) : Prop := (0 < a ↔ 0 < b) ∧ isSq (Int.tdiv (rz_abs a) (gi 100 (rz_abs a) (rz_abs b))) ∧ isSq (Int.tdiv (rz_abs b) (gi 100 (rz_abs a) (rz_abs b)))
theorem abs_nz {a : Int} (h : a.natAbs < 4611686018427387904) : rz_abs a = a.natAbs := by
  unfold rz_abs
  by_cases q : 0 < a
  · rw [if_pos q]; omega
  · rw [if_neg q, w64_id (by omega) (by omega)]; omega
theorem gi_pos {a b : Int} (hb : b.natAbs < 4611686018427387904) (ha : a.natAbs < 4611686018427387904) (b0 : b ≠ 0) : 0 < gi 100 (rz_abs a) (rz_abs b) ∧ gi 100 (rz_abs a) (rz_abs b) ∣ a ∧ gi 100 (rz_abs a) (rz_abs b) ∣ b := by
  have nz := gi_ne0 (a := a) (b := b) (by unfold R64; omega) b0
  have nn := gi_nn 100 (rz_abs a) (rz_abs b) (by rw [abs_nz ha]; omega) (by rw [abs_nz hb]; omega)
  refine ⟨by omega, ?_⟩
  have hf : (rz_abs b).natAbs < fbn (100 + 1) := Nat.lt_of_le_of_lt (abs_R (show R64 b by unfold R64; omega)).2 (Nat.lt_trans fbn_100 (by decide +kernel))
  have he := (gi_ends 100 (rz_abs a) (rz_abs b) hf (rz_abs b).natAbs).1
  have hd := (gi_dv (100 + (rz_abs b).natAbs) (rz_abs a) (rz_abs b) (by omega) (gi (100 + (rz_abs b).natAbs) (rz_abs a) (rz_abs b))).mp (Int.dvd_refl _)
  rw [he, abs_nz ha, abs_nz hb] at hd
  rw [abs_nz ha, abs_nz hb]
  exact ⟨Int.dvd_natAbs.mp hd.1, Int.dvd_natAbs.mp hd.2⟩
theorem c_RC_isSame {a b : Int} (ha : a.natAbs < 4611686018427387904) (hb : b.natAbs < 4611686018427387904) (a0 : a ≠ 0) (b0 : b ≠ 0) {m : rz_M} {K : Int → rz_M → Prop} (h1 : sameQ a b → K 1 m) (h0 : ¬ sameQ a b → K 0 m) : rz_C y_RC_isSameSquareClass [rL a, rL b] m K := by
  have g := gi_pos hb ha b0
  have ea := abs_nz ha
  have eb := abs_nz hb
  have dl : ∀ x : Int, 0 ≤ x → x < 4611686018427387904 → 0 ≤ Int.tdiv x (gi 100 (rz_abs a) (rz_abs b)) ∧ Int.tdiv x (gi 100 (rz_abs a) (rz_abs b)) < 4611686018427387904 := fun x x0 x1 => by
    have := Int.tdiv_nonneg x0 (Int.le_of_lt g.1)
    have h2 := Int.tdiv_le_self (gi 100 (rz_abs a) (rz_abs b)) x0
    omega
  have d1 := dl (rz_abs a) (by omega) (by omega)
  have d2 := dl (rz_abs b) (by omega) (by omega)
  have fin : ∀ s0 s1 : Int, (s1 = s0 ↔ (0 < a ↔ 0 < b)) → rz_E y_RC_isSameSquareClass 36 [rL a, rX 1, rL b, rX 1, rL (gi 100 (rz_abs a) (rz_abs b)), rX 1] [rI s0, rI s1] m K := fun s0 s1 hs => by
    refine T_RC_isSameSquareClass_36 _ _ _ _ _ _ _ (bb (fun q => h0 (fun w => q (hs.mpr w.1))) (fun q => ⟨by omega, ?_⟩))
    rw [w64_id (by omega) (by omega)]
    refine c_RC_isSquare d1.2 (fun s => b1t ⟨by omega, ?_⟩) (fun s => b0t (h0 (fun w => s w.2.1)))
    rw [w64_id (by omega) (by omega)]
    exact c_RC_isSquare d2.2 (fun s2 => b1t (h1 ⟨hs.mp (Classical.not_not.mp q), s, s2⟩)) (fun s2 => b0t (h0 (fun w => s2 w.2.2)))
  refine T_RC_isSameSquareClass_0 _ _ _ _ (c_RC_gcd (bf (by omega) (bb (fun q => bb (fun q2 => fin _ _ ?_) (fun q2 => fin _ _ ?_)) (fun q => bb (fun q2 => fin _ _ ?_) (fun q2 => fin _ _ ?_)))))
  all_goals omega
theorem sq_0 : isSq 0 := ⟨0, rfl⟩
theorem c_M_areSq {a b : Int} (ha : a.natAbs < 4611686018427387904) (hb : b.natAbs < 4611686018427387904) {m : rz_M} {K : Int → rz_M → Prop} (h1 : a = 0 ∨ b = 0 ∨ sameQ a b → K 1 m) (h0 : a ≠ 0 → b ≠ 0 → ¬ sameQ a b → K 0 m) : rz_C y_M_areSquare [rL a, rL b] m K := by
  refine T_M_areSquare_0 _ _ _ _ (bb (fun q => h1 (Or.inl q)) (fun a0 => bb (fun b0 => ?_) (fun q => h1 (Or.inr (Or.inl (Classical.not_not.mp q))))))
  have g := gi_pos hb ha b0
  have ea := abs_nz ha
  have eb := abs_nz hb
  refine c_M_divisor (by unfold R64; omega) ⟨by omega, ?_⟩
  have pa : ∀ x : Int, x ≠ 0 → x.natAbs < 4611686018427387904 → gi 100 (rz_abs a) (rz_abs b) ∣ x → ∃ k : Int, Int.tdiv x (gi 100 (rz_abs a) (rz_abs b)) = k ∧ k ≠ 0 ∧ k.natAbs < 4611686018427387904 ∧ (0 < k ↔ 0 < x) ∧ Int.tdiv (x.natAbs : Int) (gi 100 (rz_abs a) (rz_abs b)) = k.natAbs := fun x x0 x1 ⟨k, hk⟩ => by
    have e1 : Int.tdiv x (gi 100 (rz_abs a) (rz_abs b)) = k := by
      conv => lhs; arg 1; rw [hk]
      exact Int.mul_tdiv_cancel_left _ (by omega)
    have k0 : k ≠ 0 := fun z => x0 (by rw [hk, z, Int.mul_zero])
    have na : x.natAbs = (gi 100 (rz_abs a) (rz_abs b)).natAbs * k.natAbs := by
      conv => lhs; rw [hk]
      exact Int.natAbs_mul _ _
    have le : 1 * k.natAbs ≤ (gi 100 (rz_abs a) (rz_abs b)).natAbs * k.natAbs := Nat.mul_le_mul_right _ (by omega)
    refine ⟨k, e1, k0, by omega, ?_, ?_⟩
    · constructor
      · intro q
        have := Int.mul_pos g.1 q
        rw [← hk] at this
        exact this
      · intro q
        refine Classical.byContradiction fun w => ?_
        have := Int.mul_nonpos_of_nonneg_of_nonpos (Int.le_of_lt g.1) (show k ≤ 0 by omega)
        rw [← hk] at this
        omega
    · rw [na]
      have : (((gi 100 (rz_abs a) (rz_abs b)).natAbs * k.natAbs : Nat) : Int) = gi 100 (rz_abs a) (rz_abs b) * (k.natAbs : Int) := by
        rw [Int.natCast_mul, Int.natAbs_of_nonneg (Int.le_of_lt g.1)]
      rw [this]
      exact Int.mul_tdiv_cancel_left _ (by omega)
  obtain ⟨x, ex, x0, x1, xs, xn⟩ := pa a a0 ha g.2.1
  obtain ⟨y, ey, y0, y1, ys, yn⟩ := pa b b0 hb g.2.2
  have hq : sameQ a b ↔ (0 < a ↔ 0 < b) ∧ isSq (x.natAbs : Int) ∧ isSq (y.natAbs : Int) := by
    unfold sameQ
    rw [← ea] at xn
    rw [← eb] at yn
    rw [xn, yn]
  have c41 : ¬ (isSq x ∧ isSq y) → rz_E y_M_areSquare 41 [rL a, rX 1, rL b, rX 1, rL (gi 100 (rz_abs a) (rz_abs b)), rX 1] [] m K := fun hn => by
    refine T_M_areSquare_41 _ _ _ _ _ ⟨by omega, ?_⟩
    rw [ex, ey, w64_id (z := x) (by omega) (by omega), w64_id (z := -x) (by omega) (by omega), w64_id (z := y) (by omega) (by omega), w64_id (z := -y) (by omega) (by omega)]
    refine c_M_isSquare (by omega) (fun s => b1t ⟨by omega, c_M_isSquare (by omega) (fun s2 => b1t (h1 (Or.inr (Or.inr (hq.mpr ?_))))) (fun s2 => b0t (h0 a0 b0 (fun w => ?_)))⟩) (fun s => b0t (h0 a0 b0 (fun w => ?_)))
    · have n1 := sq_nn s
      have n2 := sq_nn s2
      refine ⟨by omega, ?_, ?_⟩
      · rw [show (x.natAbs : Int) = -x from by omega]; exact s
      · rw [show (y.natAbs : Int) = -y from by omega]; exact s2
    · have w := hq.mp w
      have n1 := sq_nn s
      refine s2 ?_
      rw [show -y = (y.natAbs : Int) from by omega]
      exact w.2.2
    · have w := hq.mp w
      rcases Int.lt_or_lt_of_ne x0 with z | z
      · refine s ?_
        rw [show -x = (x.natAbs : Int) from by omega]
        exact w.2.1
      · refine hn ⟨?_, ?_⟩
        · rw [show x = (x.natAbs : Int) from by omega]; exact w.2.1
        · rw [show y = (y.natAbs : Int) from by omega]; exact w.2.2
  rw [ex, ey, w64_id (z := x) (by omega) (by omega), w64_id (z := y) (by omega) (by omega)]
  refine c_M_isSquare (by omega) (fun s => b1t ⟨by omega, c_M_isSquare (by omega) (fun s2 => b1n (h1 (Or.inr (Or.inr (hq.mpr ?_))))) (fun s2 => b0n (c41 (fun w => s2 w.2)))⟩) (fun s => b0t (c41 (fun w => s w.1)))
  have n1 := sq_nn s
  have n2 := sq_nn s2
  refine ⟨by omega, ?_, ?_⟩
  · rw [show (x.natAbs : Int) = x from by omega]; exact s
  · rw [show (y.natAbs : Int) = y from by omega]; exact s2
