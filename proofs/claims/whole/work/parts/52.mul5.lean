/-! the product's contract: done -/
theorem c_Big_multiply {a b c : Nat} (ha : bgO a) (hb : bgO b) (hc : bgO c) (nac : a ≠ c) (nbc : b ≠ c) {m : rz_M} (ga : bg m a) (gb : bg m b) {K : Int → rz_M → Prop} (hs : bm m a * bm m b < pw 40)
    (h : ∀ m', bgw c m m' → bg m' c → bv m' c = bv m a * bv m b → K 0 m') : rz_C y_Big_multiply [rR c, rR a, rR b] m K := by
  obtain ⟨na, ena⟩ : ∃ n : Nat, m a 1 = n := ⟨(m a 1).toNat, by have := ga.1; omega⟩
  obtain ⟨nb, enb⟩ : ∃ n : Nat, m b 1 = n := ⟨(m b 1).toNat, by have := gb.1; omega⟩
  have hna : na ≤ 40 := by have := ga.1; omega
  have hnb : nb ≤ 40 := by have := gb.1; omega
  have da : digs (m (a + 1)) na := by rw [← ena]; exact ga.2.1
  have db : digs (m (b + 1)) nb := by rw [← enb]; exact gb.2.1
  have ea : bm m a = mag (m (a + 1)) na := by unfold bm; rw [ena, Int.toNat_natCast]
  have eb : bm m b = mag (m (b + 1)) nb := by unfold bm; rw [enb, Int.toNat_natCast]
  rw [ea, eb] at hs
  have low : ∀ (x n : Nat), bg m x → m x 1 = (n + 1 : Nat) → pw n ≤ mag (m (x + 1)) (n + 1) := fun x n g e => by
    refine mag_le_size (by rw [← e]; exact g.2.1) ?_
    rcases g.2.2 with z | ⟨_, z, _⟩
    · omega
    · rw [e, show ((n + 1 : Nat) : Int) - 1 = n from by omega] at z
      exact z
  have h41 : na + nb ≤ 41 := by
    refine Decidable.byContradiction fun q => ?_
    obtain ⟨p, rfl⟩ : ∃ p, na = p + 1 := ⟨na - 1, by omega⟩
    obtain ⟨r, rfl⟩ : ∃ r, nb = r + 1 := ⟨nb - 1, by omega⟩
    have l1 := low a p ga ena
    have l2 := low b r gb enb
    have l3 : pw p * pw r ≤ mag (m (a + 1)) (p + 1) * mag (m (b + 1)) (r + 1) := Int.mul_le_mul l1 l2 (Int.le_of_lt (pw_pos r)) (mag_nn _ da)
    rw [← pw_add] at l3
    have l4 : pw 40 ≤ pw (p + r) := pw_mono (by omega)
    omega
  obtain ⟨L, hL, hL40, hin, hp⟩ : ∃ L : Nat, rz_mn 40 ((na : Int) + nb) = L ∧ L ≤ 40 ∧ na + nb ≤ L + 1 ∧ mag (m (a + 1)) na * mag (m (b + 1)) nb < pw L := by
    by_cases q : na + nb ≤ 40
    · refine ⟨na + nb, by unfold rz_mn; split <;> omega, q, by omega, ?_⟩
      rw [pw_add]
      have p1 := mag_lt na da
      have p2 := mag_lt nb db
      have p3 := mag_nn na da
      have p5 : mag (m (a + 1)) na * mag (m (b + 1)) nb ≤ mag (m (a + 1)) na * pw nb := Int.mul_le_mul_of_nonneg_left (Int.le_of_lt p2) p3
      have p6 : mag (m (a + 1)) na * pw nb < pw na * pw nb := Int.mul_lt_mul_of_pos_right p1 (pw_pos nb)
      omega
    · exact ⟨40, by unfold rz_mn; split <;> omega, Nat.le_refl _, by omega, hs⟩
  have sa := bg_sg ga
  have sb := bg_sg gb
  have za := bm_0 ga
  have zb := bm_0 gb
  have ew : w32 (m a 2 * m b 2) = m a 2 * m b 2 := by rcases sa with q | q | q <;> rcases sb with z | z | z <;> rw [q, z] <;> decide
  refine T_Big_multiply_0 _ _ _ _ _ ⟨ha.1, hb.1, ?_⟩
  rw [ena, enb, w32_id (by omega) (by omega), hL]
  have l := l_mulz (a := a) (b := b) hc hL40 (m := m) (K := K) ?_ L 0 rfl (Nat.zero_le _)
  · rw [show ((0 : Nat) : Int) = 0 from rfl, wr_0] at l
    exact l
  · have wz : ∀ j : Int, 0 ≤ j → j < L → wr m (c + 1) L (fun _ => 0) (c + 1) j = 0 := fun j x y => wr_in x y
    refine l_muli ha hb hc nac nbc ena enb da db hL40 hna hnb hin hp ?_ na 0 _ rfl (Nat.zero_le _) (fun x hx => wr_ne hx) (fun j x y => by rw [wz j x y]; exact ⟨by decide, by decide⟩) (fun j _ _ q3 q4 _ => wz j q4 q3) ?_
    · intro M hM hg e
      rw [ew]
      refine c_Big_endWith hc hL40 hg ⟨by decide, by decide⟩ (Or.inl rfl) ?_ (fun m' w g v => h m' (fun i h1 h2 => (w i h1 h2).trans (hM i h2)) g ?_)
      · rw [Int.zero_mul, Int.add_zero, e, ← ea, ← eb]
        rcases sa with q | q | q
        · exact Or.inr (Or.inr (by rw [za q, Int.zero_mul]))
        · rw [q]; rcases sb with z | z | z
          · exact Or.inr (Or.inr (by rw [zb z, Int.mul_zero]))
          · exact Or.inl (by rw [z]; rfl)
          · exact Or.inr (Or.inl (by rw [z]; rfl))
        · rw [q]; rcases sb with z | z | z
          · exact Or.inr (Or.inr (by rw [zb z, Int.mul_zero]))
          · exact Or.inr (Or.inl (by rw [z]; rfl))
          · exact Or.inl (by rw [z]; rfl)
      · rw [v, Int.zero_mul, Int.add_zero, e, ← ea, ← eb]
        show m a 2 * m b 2 * (bm m a * bm m b) = m a 2 * bm m a * (m b 2 * bm m b)
        grind
    · rw [mag_zero L wz]
      show 0 = 0 * _
      rw [Int.zero_mul]
