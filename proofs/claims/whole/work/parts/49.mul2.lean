/-! a Big times another: a row of the product -/
theorem l_mulj {a b c : Nat} (ha : bgO a) (hb : bgO b) (hc : bgO c) (nac : a ≠ c) (nbc : b ≠ c) {m : rz_M} {na nb L i : Nat} (ena : m a 1 = na) (enb : m b 1 = nb) (da : digs (m (a + 1)) na) (db : digs (m (b + 1)) nb) (hL : L ≤ 40) (hi : i < na) (hna : na ≤ 40) (hnb : nb ≤ 40) (hin : i + nb ≤ L) {T : Int} {K : Int → rz_M → Prop}
    (h : ∀ (M : rz_M) (cr : Int), (∀ x, x ≠ c + 1 → M x = m x) → digs (M (c + 1)) L → (∀ j : Int, (i + nb : Nat) ≤ j → j < L → M (c + 1) j = 0) → 0 ≤ cr → cr < 2147483648 → mag (M (c + 1)) L + cr * pw (i + nb) = T + m (a + 1) i * mag (m (b + 1)) nb * pw i → rz_E y_Big_multiply 134 [rR c, rR a, rR b, rI L, rI i, rL cr, rX 1, rX 0] [] M K) :
    ∀ (d j : Nat) (M : rz_M) (cr : Int), nb - j = d → j ≤ nb → (∀ x, x ≠ c + 1 → M x = m x) → digs (M (c + 1)) L → (∀ j : Int, (i + nb : Nat) ≤ j → j < L → M (c + 1) j = 0) → 0 ≤ cr → cr < 2147483648 → mag (M (c + 1)) L + cr * pw (i + j) = T + m (a + 1) i * mag (m (b + 1)) j * pw i → rz_E y_Big_multiply 56 [rR c, rR a, rR b, rI L, rI i, rL cr, rX 1, rI j] [] M K
  | 0, j, M, cr, hd, hj, hM, hg, hz, c0, c1, e => by
    have q : j = nb := by omega
    subst q
    have e1 : M b 1 = j := by rw [hM b (bgO_ne hb hc)]; exact enb
    refine T_Big_multiply_56 _ _ _ _ _ _ _ _ _ ⟨hb.1, bt (by omega) (h M cr hM hg hz c0 c1 e)⟩
  | d + 1, j, M, cr, hd, hj, hM, hg, hz, c0, c1, e => by
    have e1 : M b 1 = nb := by rw [hM b (bgO_ne hb hc)]; exact enb
    have e2 : M (a + 1) = m (a + 1) := hM _ (by omega)
    have e3 : M (b + 1) = m (b + 1) := hM _ (by omega)
    have xi := da i (by omega) (by omega)
    have yj := db j (by omega) (by omega)
    have dd := hg ((i + j : Nat) : Int) (by omega) (by omega)
    refine T_Big_multiply_56 _ _ _ _ _ _ _ _ _ ⟨hb.1, bf (by omega) ?_⟩
    rw [w32_id (z := (i : Int) + j) (by omega) (by omega), show (i : Int) + j = (i + j : Nat) from by omega, hc.2.1, ha.2.1, hb.2.1, e2, e3]
    have p := prod_R xi yj dd ⟨c0, c1⟩
    refine bf (by omega) ⟨hc.1, hc.2.2.1, ⟨by omega, by rw [hc.2.2.2]; omega⟩, ha.1, ha.2.2.1, ⟨by omega, by rw [ha.2.2.2]; omega⟩, hb.1, hb.2.2.1, ⟨by omega, by rw [hb.2.2.2]; omega⟩, hc.1, hc.2.2.1, ⟨by omega, by rw [hc.2.2.2]; omega⟩, ?_⟩
    generalize hX : m (a + 1) i * m (b + 1) j = X at p
    generalize hD : M (c + 1) (i + j : Nat) = D at p dd
    rw [w64_id (z := X) (by omega) (by omega), w64_id (z := D + X) (by omega) (by omega), w64_id (z := cr + (D + X)) (by omega) (by omega), and31]
    refine T_Big_multiply_121 _ _ _ _ _ _ _ _ _ ?_
    rw [shr31 ⟨by omega, by omega⟩, w32_id (by omega) (by omega)]
    have u1 : rz_up M (c + 1) (i + j : Nat) ((cr + (D + X)) % 2147483648) (c + 1) (i + j : Nat) = (cr + (D + X)) % 2147483648 := up_eq
    have u2 : ∀ y : Int, y ≠ (i + j : Nat) → rz_up M (c + 1) (i + j : Nat) ((cr + (D + X)) % 2147483648) (c + 1) y = M (c + 1) y := fun y q => up_nj q
    refine l_mulj ha hb hc nac nbc ena enb da db hL hi hna hnb hin h d (j + 1) _ _ (by omega) (by omega) (fun x hx => (up_ne hx).trans (hM x hx)) ?_ (fun y q1 q2 => (u2 y (by omega)).trans (hz y q1 q2)) p.2.1 p.2.2 ?_
    · intro y q1 q2
      by_cases q : y = (i + j : Nat)
      · rw [q, u1]
        omega
      · rw [u2 y q]
        exact hg y q1 q2
    · have em := mag_upd (p := i + j) u1 L (fun y _ _ q => u2 y q) (by omega)
      rw [hD] at em
      rw [em]
      have d2 := Int.mul_ediv_add_emod (cr + (D + X)) 2147483648
      generalize (cr + (D + X)) / 2147483648 = Qq at d2
      generalize (cr + (D + X)) % 2147483648 = R at d2
      have f1 : pw (i + (j + 1)) = pw (i + j) * 2147483648 := rfl
      have f2 : mag (m (b + 1)) (j + 1) = mag (m (b + 1)) j + m (b + 1) j * pw j := rfl
      have f3 := pw_add i j
      rw [f1, f2]
      have f4 : (2147483648 * Qq + R) * pw (i + j) = (cr + (D + X)) * pw (i + j) := by rw [d2]
      have f5 : m (a + 1) i * (mag (m (b + 1)) j + m (b + 1) j * pw j) * pw i = m (a + 1) i * mag (m (b + 1)) j * pw i + X * pw (i + j) := by
        rw [f3, ← hX]
        grind
      rw [f5]
      grind
