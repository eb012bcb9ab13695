/-! a Big from a long -/
theorem l_put {c : Nat} (hc : bgO c) {K : Int → rz_M → Prop} : ∀ (f : Nat) (n : Nat) (m : rz_M) (x : Int), n + f ≤ 40 → 0 ≤ x → x < pw f → x < 9223372036854775808 → m c 1 = n → digs (m (c + 1)) n → (0 < x ∨ n = 0 ∨ m (c + 1) ((n : Int) - 1) ≠ 0) →
    (∀ m' : rz_M, bgw c m m' → m' c 2 = m c 2 → (0 ≤ m' c 1 ∧ m' c 1 ≤ 40) → digs (m' (c + 1)) (m' c 1) → (m' c 1 = 0 ∨ m' (c + 1) (m' c 1 - 1) ≠ 0) → bm m' c = mag (m (c + 1)) n + x * pw n → K 0 m') → rz_E y_Big_put 18 [rR c, rX 0, rX 0, rL x, rX 1] [] m K
  | 0, n, m, x, hf, h0, h1, h2, hn, hd, ht, h => by
    have z : pw 0 = 1 := rfl
    have hx : x = 0 := by omega
    subst hx
    refine T_Big_put_18 _ _ _ _ (bt (by decide) (h m (fun _ _ _ => rfl) rfl (by omega) (by rw [hn]; exact hd) (by rw [hn]; omega) ?_))
    unfold bm
    rw [hn, Int.toNat_natCast, Int.zero_mul, Int.add_zero]
  | f + 1, n, m, x, hf, h0, h1, h2, hn, hd, ht, h => by
    by_cases hx : x = 0
    · subst hx
      refine T_Big_put_18 _ _ _ _ (bt (by decide) (h m (fun _ _ _ => rfl) rfl (by omega) (by rw [hn]; exact hd) (by rw [hn]; omega) ?_))
      unfold bm
      rw [hn, Int.toNat_natCast, Int.zero_mul, Int.add_zero]
    · refine T_Big_put_18 _ _ _ _ (bf (by omega) ⟨hc.1, bf (by omega) ?_⟩)
      rw [hn, hc.2.1, w32_id (by omega) (by omega), shr31 ⟨by omega, by omega⟩, and31]
      refine ⟨hc.1, hc.1, hc.1, hc.2.2.1, ⟨by omega, by rw [hc.2.2.2]; omega⟩, ?_⟩
      have z : pw (f + 1) = pw f * 2147483648 := rfl
      have e0 : ∀ j : Int, j ≠ n → rz_up (rz_up m c 1 (n + 1)) (c + 1) n (x % 2147483648) (c + 1) j = m (c + 1) j := fun j q => by rw [up_nj q, up_ne (by omega)]
      have e1 : rz_up (rz_up m c 1 (n + 1)) (c + 1) n (x % 2147483648) (c + 1) n = x % 2147483648 := up_eq
      refine l_put hc f (n + 1) _ (x / 2147483648) (by omega) (by omega) (by omega) (by omega) (by rw [up_ne (by omega), up_eq]; omega) ?_ ?_ (fun m' w s b d t v => h m' (fun i q1 q2 => ((w i q1 q2).trans (up_ne q2)).trans (up_ne q1)) ?_ b d t ?_)
      · intro j a b
        by_cases q : j = n
        · subst q
          rw [e1]
          omega
        · rw [e0 j q]
          exact hd j a (by omega)
      · by_cases q : 0 < x / 2147483648
        · exact Or.inl q
        · refine Or.inr (Or.inr ?_)
          rw [show ((n + 1 : Nat) : Int) - 1 = n from by omega, e1]
          omega
      · rw [s, up_ne (by omega), up_nj (by decide)]
      · rw [v]
        have em : mag (rz_up (rz_up m c 1 (n + 1)) (c + 1) n (x % 2147483648) (c + 1)) (n + 1) = mag (m (c + 1)) n + x % 2147483648 * pw n := by
          show mag _ n + _ * pw n = _
          rw [e1, mag_congr n (fun j a b => e0 j (by omega))]
        rw [em]
        have zn : pw (n + 1) = pw n * 2147483648 := rfl
        rw [zn]
        have d2 := Int.mul_ediv_add_emod x 2147483648
        generalize x / 2147483648 = q at d2
        generalize x % 2147483648 = r at d2
        rw [← d2]
        grind
theorem c_Big_put {c : Nat} (hc : bgO c) {m : rz_M} {x : Int} (hx : -9223372036854775808 < x ∧ x < 9223372036854775808) {K : Int → rz_M → Prop} (h : ∀ m', bgw c m m' → bg m' c → bv m' c = x → K 0 m') : rz_C y_Big_put [rR c, rL x] m K := by
  have sx := sgl_abs hx
  refine T_Big_put_0 _ _ _ _ (c_J_signum ⟨by omega, by omega⟩ ⟨hc.1, hc.1, ?_⟩)
  rw [sx.1]
  have p3 : pw 3 = 9903520314283042199192993792 := by decide
  refine l_put hc 3 0 _ _ (by decide) (by omega) (by omega) (by omega) up_eq (fun j a b => absurd b (by omega)) (Or.inr (Or.inl rfl)) (fun m' w s b d t v => h m' (fun i q1 q2 => (w i q1 q2).trans ((up_ne q1).trans (up_ne q1))) ?_ ?_)
  · rw [up_nj (by decide), up_eq] at s
    have v' : bm m' c = (x.natAbs : Int) := by
      rw [v]
      show 0 + (x.natAbs : Int) * 1 = _
      omega
    refine ⟨b, d, ?_⟩
    rw [s]
    by_cases q : m' c 1 = 0
    · have hb : bm m' c = 0 := by unfold bm; rw [q]; rfl
      refine Or.inl ⟨q, ?_⟩
      unfold sgl
      rw [if_neg (by omega), if_pos (by omega)]
    · obtain ⟨n, hn⟩ : ∃ n : Nat, m' c 1 = (n + 1 : Nat) := ⟨(m' c 1).toNat - 1, by omega⟩
      have t' : m' (c + 1) (m' c 1 - 1) ≠ 0 := by omega
      refine Or.inr ⟨q, t', ?_⟩
      have hp : 0 < bm m' c := by
        unfold bm
        rw [hn, Int.toNat_natCast]
        rw [hn] at d t'
        exact mag_top d (by rw [show ((n + 1 : Nat) : Int) - 1 = n from by omega] at t'; exact t')
      unfold sgl
      by_cases q2 : x < 0
      · exact Or.inr (if_pos q2)
      · rw [if_neg q2, if_neg (by omega)]
        exact Or.inl rfl
  · rw [up_nj (by decide), up_eq] at s
    have v' : bm m' c = (x.natAbs : Int) := by
      rw [v]
      show 0 + (x.natAbs : Int) * 1 = _
      omega
    show m' c 2 * bm m' c = x
    rw [s, v', sx.2]
