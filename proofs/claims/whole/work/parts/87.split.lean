/-! the content is taken out; Splitter: all -/
theorem gi_dv : ∀ (n : Nat) (x y : Int), y.natAbs ≤ n → ∀ p : Int, p ∣ gi n x y ↔ p ∣ x ∧ p ∣ y
  | 0, x, y, h, p => by
    have : y = 0 := by omega
    subst this
    exact ⟨fun z => ⟨z, Int.dvd_zero p⟩, fun z => z.1⟩
  | n + 1, x, y, h, p => by
    show (p ∣ if y = 0 then x else gi n y (Int.tmod x y)) ↔ _
    by_cases q : y = 0
    · rw [if_pos q, q]
      exact ⟨fun z => ⟨z, Int.dvd_zero p⟩, fun z => z.1⟩
    · rw [if_neg q]
      have l := tmod_abs_lt x y q
      have e := Int.mul_tdiv_add_tmod x y
      rw [gi_dv n y (Int.tmod x y) (by omega) p]
      constructor
      · intro z
        refine ⟨?_, z.1⟩
        rw [← e]
        exact Int.dvd_add (Int.dvd_mul_of_dvd_left z.1) z.2
      · intro z
        refine ⟨z.2, ?_⟩
        rw [show Int.tmod x y = x - y * Int.tdiv x y from by omega]
        exact Int.dvd_sub z.1 (Int.dvd_mul_of_dvd_left z.2)
theorem gi_nn : ∀ (n : Nat) (x y : Int), 0 ≤ x → 0 ≤ y → 0 ≤ gi n x y
  | 0, x, y, h, _ => h
  | n + 1, x, y, h, h2 => by
    show 0 ≤ if y = 0 then x else gi n y (Int.tmod x y)
    split
    · exact h
    · exact gi_nn n y _ h2 (Int.tmod_nonneg y h)
theorem l_RC_cont53 {a b : Nat} (ha : isL a 7) (hb : isL b 7) (hab : b ≠ a) {g : Int} (g0 : g ≠ 0) {m0 : rz_M} {q : Int → Int} (hq : ∀ j : Int, 0 ≤ j → j < 7 → m0 a j = g * q j ∧ bd (q j) 100) {K : Int → rz_M → Prop} (h : ∀ m' : rz_M, (∀ i, i ≠ b → m' i = m0 i) → (∀ j : Int, 0 ≤ j → j < 7 → m' b j = q j) → K g m') : ∀ (r : Nat) (j : Int) (m : rz_M), 7 - j = r → 0 ≤ j → (∀ i, i ≠ b → m i = m0 i) → (∀ k : Int, 0 ≤ k → k < j → m b k = q k) → rz_E y_RC_takeContentOut 53 [rR a, rR b, rL g, rX 1, rX 0, rI j] [] m K
  | 0, j, m, hr, j0, hf, hv => T_RC_takeContentOut_53 _ _ _ _ _ _ (bt (by omega) (h m hf (fun k k0 k1 => hv k k0 (by omega))))
  | r + 1, j, m, hr, j0, hf, hv => by
    have hqj := hq j j0 (by omega)
    have hq2 := hqj.2
    unfold bd at hq2
    have la := ha.2
    have lb := hb.2
    refine T_RC_takeContentOut_53 _ _ _ _ _ _ (bf (by omega) (bt g0 ⟨ha.1, ⟨j0, by omega⟩, g0, hb.1, ⟨j0, by omega⟩, ?_⟩))
    rw [hf a (Ne.symm hab), Int.tdiv_eq_of_eq_mul_right g0 hqj.1, w64_id (by omega) (by omega), w32_id (by omega) (by omega)]
    refine l_RC_cont53 ha hb hab g0 hq h r (j + 1) _ (by omega) (by omega) (fun i hi => by rw [up_ne hi]; exact hf i hi) (fun k k0 k1 => ?_)
    by_cases w : k = j
    · rw [w, up_eq]
    · rw [up_nj w]; exact hv k k0 (by omega)
theorem l_RC_cont5 {a b : Nat} (ha : isL a 7) {m : rz_M} (hs : sm (m a)) {K : Int → rz_M → Prop} (h : ∀ g : Int, 0 ≤ g → (∀ p : Int, p ∣ g ↔ ∀ j : Int, 0 ≤ j → j < 7 → p ∣ m a j) → rz_E y_RC_takeContentOut 5 [rR a, rR b, rL g, rX 1, rI 7, rX 0] [] m K) : ∀ (r : Nat) (j g : Int), 7 - j = r → 0 ≤ j → 0 ≤ g → (∀ p : Int, p ∣ g ↔ ∀ k : Int, 0 ≤ k → k < j → p ∣ m a k) → rz_E y_RC_takeContentOut 5 [rR a, rR b, rL g, rX 1, rI j, rX 0] [] m K
  | 0, j, g, hr, j0, g0, hg => by
    have : j = 7 := by omega
    subst this
    exact h g g0 hg
  | r + 1, j, g, hr, j0, g0, hg => by
    have la := ha.2
    have hj := hs j j0 (by omega)
    refine T_RC_takeContentOut_5 _ _ _ _ _ _ (bf (by omega) ⟨ha.1, ⟨j0, by omega⟩, c_RC_gcd ?_⟩)
    have e1 : rz_abs g = g := by
      unfold rz_abs
      split
      · rfl
      · rw [w64_id (by omega) (by omega)]; omega
    obtain ⟨y, e2, y0, y1, yd⟩ : ∃ y : Int, rz_abs (m a j) = y ∧ 0 ≤ y ∧ y.natAbs ≤ 100 ∧ (∀ p : Int, p ∣ y ↔ p ∣ m a j) := by
      unfold rz_abs
      split
      · exact ⟨_, rfl, by omega, by omega, fun p => Iff.rfl⟩
      · exact ⟨-(m a j), w64_id (by omega) (by omega), by omega, by omega, fun p => Int.dvd_neg⟩
    rw [e1, e2, w32_id (by omega) (by omega)]
    refine l_RC_cont5 ha hs h r (j + 1) _ (by omega) (by omega) (gi_nn 100 g y g0 y0) (fun p => ?_)
    rw [gi_dv 100 g y y1 p, hg p, yd p]
    constructor
    · intro z k k0 k1
      by_cases w : k = j
      · rw [w]; exact z.2
      · exact z.1 k k0 (by omega)
    · intro z
      exact ⟨fun k k0 k1 => z k k0 (by omega), z j j0 (by omega)⟩
theorem c_RC_cont {a b : Nat} (ha : isL a 7) (hb : isL b 7) (hab : b ≠ a) {m : rz_M} (hs : sm (m a)) (hd : 0 ≤ dg (m a)) {K : Int → rz_M → Prop} (h : ∀ (g : Int) (m' : rz_M), (∀ i, i ≠ b → m' i = m i) → g ≠ 0 → (∀ j : Int, 0 ≤ j → j < 7 → m a j = g * m' b j ∧ bd (m' b j) 100) → 0 < m' b (dg (m a)) → (∀ p : Int, isPr p → ¬ ∀ j : Int, 0 ≤ j → j < 7 → p ∣ m' b j) → K g m') : rz_C y_RC_takeContentOut [rR a, rR b] m K := by
  have la := ha.2
  have rd := dg_rng (m a)
  have dnz : m a (dg (m a)) ≠ 0 := dgk_nz (m a) 7 hd
  refine T_RC_takeContentOut_0 _ _ _ _ (l_RC_cont5 ha hs (fun G G0 hG => T_RC_takeContentOut_5 _ _ _ _ _ _ (bt (by decide) (c_RC_degreeOf ha (bf (by omega) ⟨ha.1, ⟨hd, by omega⟩, ?_⟩)))) 7 0 0 (by decide) (by decide) (by decide) (fun p => ⟨fun _ k k0 k1 => by omega, fun _ => Int.dvd_zero p⟩))
  have Gd : ∀ j : Int, 0 ≤ j → j < 7 → G ∣ m a j := (hG G).mp ⟨1, by omega⟩
  have Gnz : G ≠ 0 := fun z => dnz (by
    obtain ⟨t, ht⟩ := Gd (dg (m a)) hd (by omega)
    rw [ht, z, Int.zero_mul])
  have Gs : G ≤ 100 := by
    have d1 := Gd (dg (m a)) hd (by omega)
    have s1 := hs (dg (m a)) hd (by omega)
    have := Int.natAbs_dvd_natAbs.mpr d1
    have := Nat.le_of_dvd (by omega) this
    omega
  -- both signs at once
  have fin : ∀ g : Int, (g = G ∨ g = -G) → 0 < g * m a (dg (m a)) → rz_E y_RC_takeContentOut 53 [rR a, rR b, rL g, rX 1, rX 0, rI 0] [] m K := fun g hgG hpos => by
    have g0 : g ≠ 0 := by omega
    have gd : ∀ j : Int, 0 ≤ j → j < 7 → g ∣ m a j := fun j j0 j1 => by
      rcases hgG with q | q
      · rw [q]; exact Gd j j0 j1
      · rw [q]; exact Int.neg_dvd.mpr (Gd j j0 j1)
    have hq : ∀ j : Int, 0 ≤ j → j < 7 → m a j = g * (m a j / g) ∧ bd (m a j / g) 100 := fun j j0 j1 => by
      have e : g * (m a j / g) = m a j := Int.mul_ediv_cancel' (gd j j0 j1)
      refine ⟨e.symm, ?_⟩
      have s1 := hs j j0 j1
      have := ab_div g0 e
      exact ⟨by omega, by omega⟩
    refine l_RC_cont53 ha hb hab g0 (q := fun j => m a j / g) hq (fun m' f' v' => h g m' f' g0 (fun j j0 j1 => by rw [v' j j0 j1]; exact hq j j0 j1) ?_ (fun p hp hall => ?_)) 7 0 m (by decide) (by decide) (fun _ _ => rfl) (fun k k0 k1 => by omega)
    · rw [v' _ hd (by omega)]
      have e := (hq _ hd (by omega)).1
      refine Classical.byContradiction fun w => ?_
      rw [e, ← Int.mul_assoc] at hpos
      have gg : 0 ≤ g * g := by
        rcases Int.le_total 0 g with u | u
        · exact Int.mul_nonneg u u
        · have := Int.mul_nonneg (a := -g) (b := -g) (by omega) (by omega)
          rwa [Int.neg_mul_neg] at this
      have := Int.mul_nonpos_of_nonneg_of_nonpos gg (show m a (dg (m a)) / g ≤ 0 from by omega)
      omega
    · have : G * p ∣ G := (hG (G * p)).mpr (fun j j0 j1 => by
        have e := (hq j j0 j1).1
        have d := hall j j0 j1
        rw [v' j j0 j1] at d
        obtain ⟨t, ht⟩ := d
        rw [e, ht]
        rcases hgG with q | q
        · exact ⟨t, by rw [q]; grind⟩
        · exact ⟨-t, by rw [q]; grind⟩)
      obtain ⟨t, ht⟩ := this
      have e1 : G * (p * t) = G * 1 := by rw [← Int.mul_assoc, ← ht, Int.mul_one]
      have e2 := Int.eq_of_mul_eq_mul_left Gnz e1
      have := Int.le_of_dvd (by decide) (⟨t, e2.symm⟩ : p ∣ 1)
      have := hp.1
      omega
  refine bb (fun q => fin G (Or.inl rfl) (Int.mul_pos (by omega) (by omega))) (fun q => ?_)
  rw [w64_id (by omega) (by omega)]
  refine fin (-G) (Or.inr rfl) ?_
  rw [show -G * m a (dg (m a)) = G * -(m a (dg (m a))) from by rw [Int.neg_mul, Int.mul_neg]]
  exact Int.mul_pos (by omega) (by omega)
