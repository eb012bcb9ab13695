/-! both sides alike: number, degree, at, status, factor, told, plus, derive, turn, times -/
def pairOK (y1 y2 : Nat) (as : List rz_V) (m : rz_M) : Prop := rz_C y1 (rR 0 :: as) m (fun r1 m1 => rz_C y2 (rR 221 :: as) m1 (fun r2 m2 => r1 = r2 ∧ Inv m2 ∧ m2 400 = m 400))
theorem Inv_thr {m : rz_M} {z : Int} (h : Inv m) : Inv (rz_up m 221 0 z) := by
  refine Inv_ref h (z := m 0 10) ⟨fun i hi => up_ne (by omega), up_nj (by decide), up_nj (by decide)⟩ (fun i a b => up_ne (by omega)) (up_ne (by decide)) ?_ ?_
  · rw [up_ne (by decide)]
  · rw [up_nj (by decide)]; exact h.2.1.symm
theorem row_eq {m : rz_M} (h : Inv m) {r j : Int} (hr : 0 ≤ r ∧ r < 10) (hj : 0 ≤ j ∧ j < 7) : m (rz_R 1 r) j = m 222 (7 * r + j) := (h.1 r hr.1 hr.2).2 j hj.1 hj.2
theorem dg_eq {m : rz_M} (h : Inv m) {r : Int} (hr : 0 ≤ r ∧ r < 10) : dg (m (rz_R 1 r)) = dg (rwM m r) := dgk_congr (fun k a b => row_eq h hr ⟨a, by omega⟩)
theorem p_number (a b : Int) (m : rz_M) (hI : Inv m) (hb : R32 b) : pairOK y_RC_number y_M_number [rI a, rI b] m := by
  have hT := Inv_thr (z := 0) hI
  have fin : ∀ z : Int, z = z ∧ Inv (rz_up m 221 0 0) ∧ rz_up m 221 0 0 400 = m 400 := fun z => ⟨rfl, hT, up_ne (by decide)⟩
  have bad : ¬ ((0 ≤ a ∧ a < 10) ∧ 0 ≤ b ∧ b < 7) → rz_C y_M_number [rR 221, rI a, rI b] m (fun r2 m2 => -9223372036854775808 = r2 ∧ Inv m2 ∧ m2 400 = m 400) := fun hn =>
    T_M_number_0 _ _ _ _ (c_M_isRow (fun q1 q2 => b1t (c_M_in (fun p1 p2 => absurd ⟨⟨q1, q2⟩, by omega, by omega⟩ hn) (fun _ => b0t (fin _)))) (fun _ => b0t (fin _)))
  refine T_RC_number_0 _ _ _ _ (c_RC_isRow (fun q1 q2 => b1t (bb (fun p => bad (by omega)) (fun p => bb (fun p2 => bad (by omega)) (fun p2 => ⟨⟨q1, q2⟩, (isL_row ⟨q1, q2⟩).1, ⟨by omega, by rw [len_row ⟨q1, q2⟩]; omega⟩, ?_⟩)))) (fun q => b0t (bad (fun z => q z.1))))
  refine T_M_number_0 _ _ _ _ (c_M_isRow (fun _ _ => b1t (c_M_in (fun _ _ => b1t ?_) (fun z => absurd ⟨by omega, by omega⟩ z))) (fun z => absurd ⟨q1, q2⟩ z))
  rw [w32_id (z := 7 * a) (by omega) (by omega), w32_id (z := 7 * a + b) (by omega) (by omega)]
  refine ⟨⟨by omega, by omega⟩, ?_⟩
  rw [up_ne (by decide)]
  exact ⟨row_eq hI ⟨q1, q2⟩ ⟨by omega, by omega⟩, hT, up_ne (by decide)⟩
theorem p_degree (a : Int) (m : rz_M) (hI : Inv m) : pairOK y_RC_degree y_M_degree [rI a] m := by
  have hT := Inv_thr (z := 0) hI
  refine T_RC_degree_0 _ _ _ (c_RC_isRow (fun q1 q2 => b1t ⟨⟨q1, q2⟩, c_RC_degreeOf (isL_row ⟨q1, q2⟩) ?_⟩) (fun q => b0t ?_))
  · refine T_M_degree_0 _ _ _ (c_M_isRow (fun _ _ => b1t (c_M_degreeOf ⟨q1, q2⟩ ⟨?_, hT, up_ne (by decide)⟩)) (fun z => absurd ⟨q1, q2⟩ z))
    rw [dg_eq hI ⟨q1, q2⟩]
    unfold rwM
    rw [up_ne (by decide)]
  · exact T_M_degree_0 _ _ _ (c_M_isRow (fun a b => absurd ⟨a, b⟩ q) (fun _ => b0t ⟨rfl, hT, up_ne (by decide)⟩))
theorem l_M_at {r x : Int} (hr : 0 ≤ r ∧ r < 10) {m : rz_M} {K : Int → rz_M → Prop} : ∀ (n : Nat) (v : Int), n ≤ 7 → K (hrn (rwM m r) x n v) m → rz_E y_M_at 36 [rR 221, rI r, rI x, rL v, rX 1, rI ((n : Int) - 1)] [] m K
  | 0, v, _, h => T_M_at_36 _ _ _ _ _ _ (bt (by decide) h)
  | n + 1, v, hn, h => by
    rw [show ((n + 1 : Nat) : Int) - 1 = n from by omega]
    refine T_M_at_36 _ _ _ _ _ _ ?_
    rw [w32_id (z := 7 * r) (by omega) (by omega), w32_id (z := 7 * r + n) (by omega) (by omega), w32_id (z := (n : Int) + -1) (by omega) (by omega), show (n : Int) + -1 = (n : Int) - 1 from by omega]
    exact bf (by omega) ⟨⟨by omega, by omega⟩, l_M_at hr n _ (by omega) h⟩
theorem hrn_congr {f g : Int → Int} {x : Int} : ∀ (n : Nat) (v : Int), (∀ k : Int, 0 ≤ k → k < n → f k = g k) → hrn f x n v = hrn g x n v
  | 0, _, _ => rfl
  | n + 1, v, h => by
    unfold hrn
    rw [h n (by omega) (by omega)]
    exact hrn_congr n _ (fun k a b => h k a (by omega))
theorem p_at (a b : Int) (m : rz_M) (hI : Inv m) : pairOK y_RC_at y_M_at [rI a, rI b] m := by
  have hT := Inv_thr (z := 0) hI
  have fin : ∀ z : Int, z = z ∧ Inv (rz_up m 221 0 0) ∧ rz_up m 221 0 0 400 = m 400 := fun z => ⟨rfl, hT, up_ne (by decide)⟩
  have bad : ¬ ((0 ≤ a ∧ a < 10) ∧ -20 ≤ b ∧ b ≤ 20) → rz_C y_M_at [rR 221, rI a, rI b] m (fun r2 m2 => -9223372036854775808 = r2 ∧ Inv m2 ∧ m2 400 = m 400) := fun hn =>
    T_M_at_0 _ _ _ _ (c_M_isRow (fun q1 q2 => b1t (c_M_in (fun p1 p2 => absurd ⟨⟨q1, q2⟩, by omega, by omega⟩ hn) (fun _ => b0n (fin _)))) (fun _ => b0t (fin _)))
  refine T_RC_at_0 _ _ _ _ (c_RC_isRow (fun q1 q2 => b1t (c_RC_isWithin (by decide) (fun p1 p2 => b1t ⟨⟨q1, q2⟩, c_RC_valueAt (isL_row ⟨q1, q2⟩) ?_⟩) (fun p => b0t (bad (by omega))))) (fun q => b0t (bad (fun z => q z.1))))
  refine T_M_at_0 _ _ _ _ (c_M_isRow (fun _ _ => b1t (c_M_in (fun _ _ => b1n (l_M_at ⟨q1, q2⟩ 7 0 (Nat.le_refl _) ⟨?_, hT, up_ne (by decide)⟩)) (fun z => absurd ⟨by omega, by omega⟩ z))) (fun z => absurd ⟨q1, q2⟩ z))
  refine hrn_congr 7 0 (fun k k1 k2 => ?_)
  unfold rwM
  rw [up_ne (by decide)]
  exact row_eq hI ⟨q1, q2⟩ ⟨k1, k2⟩
theorem p_status (m : rz_M) (hI : Inv m) : pairOK y_RC_status y_M_status [] m := by
  refine T_RC_status_0 _ _ (T_M_status_0 _ _ ⟨?_, Inv_thr hI, up_ne (by decide)⟩)
  rw [up_nj (by decide)]
  exact hI.2.1
theorem p_factor (a b : Int) (m : rz_M) (hI : Inv m) (ha : R32 a) (hb : R32 b) : pairOK y_RC_factor y_M_factor [rI a, rI b] m := by
  have hT := Inv_thr (z := 0) hI
  have e400 : rz_up m 221 0 0 400 = m 400 := up_ne (by decide)
  have e17 : rz_up m 221 0 0 221 17 = m 221 17 := up_nj (by decide)
  have e18 : rz_up m 221 0 0 221 18 = m 221 18 := up_nj (by decide)
  have e1 : rz_up m 221 0 0 231 = m 231 := up_ne (by decide)
  have e2 : rz_up m 221 0 0 232 = m 232 := up_ne (by decide)
  have e3 : rz_up m 221 0 0 233 = m 233 := up_ne (by decide)
  have dn : ∀ z z' : Int, z = z' → z = z' ∧ Inv (rz_up m 221 0 0) ∧ rz_up m 221 0 0 400 = m 400 := fun z z' e => ⟨e, hT, e400⟩
  rcases hI.2.2 with ⟨h1, h2, h3⟩ | ⟨h1, h2, h3, h4, h5, h6⟩
  · have bad : rz_C y_M_factor [rR 221, rI a, rI b] m (fun r2 m2 => -9223372036854775808 = r2 ∧ Inv m2 ∧ m2 400 = m 400) :=
      T_M_factor_0 _ _ _ _ (bf (by rw [e17]; omega) (dn _ _ rfl))
    have bad35 : rz_E y_RC_factor 35 [rR 0, rI a, rI b] [] m (fun r1 m1 => rz_C y_M_factor (rR 221 :: [rI a, rI b]) m1 (fun r2 m2 => r1 = r2 ∧ Inv m2 ∧ m2 400 = m 400)) :=
      T_RC_factor_35 _ _ _ _ (bb (fun _ => bad) (fun q => bt (by omega) bad))
    exact T_RC_factor_0 _ _ _ _ (bb (fun _ => bad35) (fun _ => bb (fun _ => bad35) (fun _ => bf (by omega) bad)))
  · have bad : ¬ (0 ≤ a ∧ a < m 14 4 ∧ 0 ≤ b ∧ b ≤ 8) → ¬ (a = -1 ∧ b = 0) → rz_C y_M_factor [rR 221, rI a, rI b] m (fun r2 m2 => -9223372036854775808 = r2 ∧ Inv m2 ∧ m2 400 = m 400) := by
      intro hn hn2
      refine T_M_factor_0 _ _ _ _ ?_
      rw [e17, e18, w64_id (by omega) (by omega)]
      refine bt (by omega) (bb (fun q => c_M_in (fun p1 p2 => b1t (c_M_in (fun s1 s2 => absurd ⟨p1, by omega, s1, s2⟩ hn) (fun _ => b0n (dn _ _ rfl)))) (fun _ => b0t (dn _ _ rfl))) (fun q => bb (fun _ => dn _ _ rfl) (fun q2 => absurd ⟨Decidable.of_not_not q, Decidable.of_not_not q2⟩ hn2)))
    have ok : 0 ≤ a → a < m 14 4 → 0 ≤ b → b ≤ 8 → ∀ z, z = (if b < 7 then m 231 (7 * a + b) else if b = 7 then m 232 a else m 233 a) → rz_C y_M_factor [rR 221, rI a, rI b] m (fun r2 m2 => z = r2 ∧ Inv m2 ∧ m2 400 = m 400) := by
      intro g1 g2 g3 g4 z hz
      refine T_M_factor_0 _ _ _ _ ?_
      rw [e17, e18, w64_id (by omega) (by omega), w32_id (z := 7 * a) (by omega) (by omega), w32_id (z := 7 * a + b) (by omega) (by omega)]
      refine bt (by omega) (bt (by omega) (c_M_in (fun _ _ => b1t (c_M_in (fun _ _ => b1n (bb (fun q => bb (fun q2 => ⟨⟨g1, by omega⟩, dn _ _ ?_⟩) (fun q2 => ⟨⟨g1, by omega⟩, dn _ _ ?_⟩)) (fun q => ⟨⟨by omega, by omega⟩, dn _ _ ?_⟩))) (fun q => absurd ⟨g3, g4⟩ q))) (fun q => absurd ⟨g1, by omega⟩ q)))
      · rw [e3, hz, if_neg (by omega), if_neg q2]
      · rw [e2, hz, if_neg (by omega), if_pos (Decidable.of_not_not q2)]
      · rw [e1, hz, if_pos (by omega)]
    have r35 : ¬ (a = -1 ∧ b = 0) → rz_E y_RC_factor 35 [rR 0, rI a, rI b] [] m (fun r1 m1 => rz_C y_M_factor (rR 221 :: [rI a, rI b]) m1 (fun r2 m2 => r1 = r2 ∧ Inv m2 ∧ m2 400 = m 400)) := by
      intro hn
      refine T_RC_factor_35 _ _ _ _ (bb (fun q => bad (by omega) hn) (fun q => bb (fun q2 => bad (by omega) hn) (fun q2 => bb (fun q3 => bad (by omega) hn) (fun q3 => bb (fun q4 => ?_) (fun q4 => bad (by omega) hn)))))
      obtain ⟨s1, s2, s3⟩ := h6 a (by omega) (by omega)
      have h15 : rz_R 15 a = 16 + a.toNat := rfl
      have hk15 : rz_isK (rz_R 15 a) 1 = true ∧ rz_len (rz_R 15 a) = 7 := by
        have : ∀ k : Nat, k < 6 → rz_isK (16 + k) 1 = true ∧ rz_len (16 + k) = 7 := by decide +kernel
        exact this a.toNat (by omega)
      refine bb (fun t1 => bb (fun t2 => ⟨⟨by omega, by omega⟩, hk15.1, ⟨by omega, by rw [hk15.2]; omega⟩, ok (by omega) (by omega) (by omega) (by omega) _ ?_⟩) (fun t2 => ⟨⟨by omega, by omega⟩, ok (by omega) (by omega) (by omega) (by omega) _ ?_⟩)) (fun t1 => ⟨⟨by omega, by omega⟩, ok (by omega) (by omega) (by omega) (by omega) _ ?_⟩)
      · rw [if_pos (by omega), h15]
        exact s3 b (by omega) (by omega)
      · rw [if_neg (by omega), if_neg t1]
        exact s2
      · rw [if_neg (by omega), if_pos (by omega)]
        exact s1
    refine T_RC_factor_0 _ _ _ _ (bb (fun q => r35 (by omega)) (fun q => bb (fun q2 => r35 (by omega)) (fun q2 => bt h4 ?_)))
    refine T_M_factor_0 _ _ _ _ (bt (by rw [e17]; omega) (bf q (bf q2 (dn _ _ ?_))))
    rw [e18]
    exact h5.symm
