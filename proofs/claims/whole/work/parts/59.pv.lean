/-! PrimeView: rests, inverses, Euclid's way by a prime -/
/-- n places from 0 on are rests by P -/
def rng (f : Int → Int) (n P : Int) : Prop := ∀ k : Int, 0 ≤ k → k < n → 0 ≤ f k ∧ f k < P
def okP (P : Nat) : Prop := isPr (P : Int) ∧ P < 1000
theorem c_PV_byP {P : Nat} (hP : okP P) {m : rz_M} (hm : m 47 7 = P) {v : Int} {K : Int → rz_M → Prop} (h : K (v % P) m) : rz_C y_PV_byPrime [rR 47, rL v] m K := by
  have p2 := hP.1.1
  have p3 := hP.2
  have l2 := Int.lt_tmod_of_pos v (show (0 : Int) < P by omega)
  have b := byP (P := (P : Int)) (v := v) (by omega)
  refine T_PV_byPrime_0 _ _ _ ?_
  rw [hm]
  refine ⟨by omega, bb (fun q => ?_) (fun q => ?_)⟩
  · rw [b.1 q]; exact h
  · rw [w64_id (by omega) (by omega), b.2 q]; exact h
theorem dvd_tmod {P a : Int} (h : 0 ≤ a) : P ∣ Int.tmod a P - a := by
  rw [Int.tmod_eq_emod_of_nonneg h]
  have := emod_dvd a P
  rw [show a % P - a = -(a - a % P) from by omega]
  exact Int.dvd_neg.mpr this
theorem tmod_rng {P a : Int} (hP : 0 < P) (h : 0 ≤ a) : 0 ≤ Int.tmod a P ∧ Int.tmod a P < P := ⟨Int.tmod_nonneg _ h, Int.tmod_lt_of_pos a hP⟩
theorem mul_lt_k {a b P : Int} (h : P ≤ 1000) (ha : 0 ≤ a ∧ a < P) (hb : 0 ≤ b ∧ b < P) : 0 ≤ a * b ∧ a * b < 1000000 := by
  have h1 : a * b ≤ a * 999 := Int.mul_le_mul_of_nonneg_left (by omega) ha.1
  exact ⟨Int.mul_nonneg ha.1 hb.1, by omega⟩
/-- congruence among whole numbers -/
theorem cg_mul {p a b c d : Int} (h1 : p ∣ a - b) (h2 : p ∣ c - d) : p ∣ a * c - b * d := by
  rw [show a * c - b * d = a * (c - d) + d * (a - b) from by grind]
  exact Int.dvd_add (Int.dvd_mul_of_dvd_right h2) (Int.dvd_mul_of_dvd_right h1)
theorem cg_tr {p a b c : Int} (h1 : p ∣ a - b) (h2 : p ∣ b - c) : p ∣ a - c := by
  rw [show a - c = (a - b) + (b - c) from by omega]
  exact Int.dvd_add h1 h2
theorem cg_pw {p a b : Int} (h1 : p ∣ a - b) : ∀ n : Nat, p ∣ a ^ n - b ^ n
  | 0 => by rw [Int.pow_zero, Int.pow_zero]; exact ⟨0, by omega⟩
  | n + 1 => by rw [Int.pow_succ, Int.pow_succ]; exact cg_mul (cg_pw h1 n) h1
/-- what the loop of inverses holds: inverse times square to the rest -/
theorem l_PV_inv {P : Nat} (hP : okP P) {m : rz_M} (hm : m 47 7 = P) {T : Int} {K : Int → rz_M → Prop} (h : ∀ r : Int, 0 ≤ r → r < P → (P : Int) ∣ r - T → K r m) : ∀ (d : Nat) (v s : Int) (r : Nat), r ≤ d → r < 1000 → 0 ≤ v ∧ v < P → 0 ≤ s ∧ s < P → (P : Int) ∣ v * s ^ r - T → rz_E y_PV_inverseOf 15 [rR 47, rX 0, rX 0, rL v, rX 1, rL s, rX 1, rL (r : Int), rX 1] [] m K
  | 0, v, s, r, hd, hr, hv, hs, hT => by
    have e : r = 0 := by omega
    subst e
    refine T_PV_inverseOf_15 _ _ _ _ _ (bt (by decide) (h v hv.1 hv.2 ?_))
    rwa [Int.pow_zero, Int.mul_one] at hT
  | d + 1, v, s, r, hd, hr, hv, hs, hT => by
    have p2 := hP.1.1
    have p3 := hP.2
    refine T_PV_inverseOf_15 _ _ _ _ _ (bb (fun q => h v hv.1 hv.2 ?_) (fun q => bb (fun q2 => h v hv.1 hv.2 ?_) (fun q2 => ?_)))
    · rw [show r = 0 from by omega, Int.pow_zero, Int.mul_one] at hT
      exact hT
    · rw [q2, Int.one_pow, Int.mul_one] at hT
      exact hT
    · have e1 := bit_and1 r (by omega)
      have e2 := bit_shr1 r (by omega)
      rw [e1, e2, hm]
      have b1 := mul_lt_k (P := P) (by omega) hs hs
      have b2 := mul_lt_k (P := P) (by omega) hv hs
      rw [w64_id (z := s * s) (by omega) (by omega), w64_id (z := v * s) (by omega) (by omega)]
      have c1 := dvd_tmod (P := (P : Int)) b1.1
      have c2 := dvd_tmod (P := (P : Int)) b2.1
      have r1 := tmod_rng (P := (P : Int)) (by omega) b1.1
      have r2 := tmod_rng (P := (P : Int)) (by omega) b2.1
      have c3 := cg_pw c1 (r / 2)
      refine bb (fun z => ⟨by omega, ?_⟩) (fun z => ⟨by omega, by omega, ?_⟩)
      · refine l_PV_inv hP hm h d v _ (r / 2) (by omega) (by omega) hv r1 (cg_tr (cg_mul (a := v) (b := v) ⟨0, by omega⟩ c3) ?_)
        have er : r = r / 2 + r / 2 := by omega
        have : v * (s * s) ^ (r / 2) = v * s ^ r := by
          conv => rhs; rw [er]
          rw [Int.mul_pow, Int.pow_add]
        rw [this]
        exact hT
      · refine l_PV_inv hP hm h d _ _ (r / 2) (by omega) (by omega) r2 r1 (cg_tr (cg_mul c2 c3) ?_)
        have er : r = r / 2 + r / 2 + 1 := by omega
        have : v * s * (s * s) ^ (r / 2) = v * s ^ r := by
          conv => rhs; rw [er]
          rw [Int.mul_pow, Int.pow_succ, Int.pow_add]
          grind
        rw [this]
        exact hT
theorem not_dvd_rng {P : Nat} {a : Int} (h : 0 ≤ a ∧ a < P) (h0 : a ≠ 0) : ¬ (P : Int) ∣ a := fun q => by
  have := Int.le_of_dvd (by omega) q
  omega
theorem c_PV_inverseOf {P : Nat} (hP : okP P) {m : rz_M} (hm : m 47 7 = P) {a : Int} (ha : 0 ≤ a ∧ a < P) (h0 : a ≠ 0) {K : Int → rz_M → Prop} (h : ∀ r : Int, 0 ≤ r → r < P → (P : Int) ∣ r * a - 1 → K r m) : rz_C y_PV_inverseOf [rR 47, rL a] m K := by
  have p2 := hP.1.1
  have p3 := hP.2
  refine T_PV_inverseOf_0 _ _ _ ?_
  rw [hm, w64_id (by omega) (by omega), show (P : Int) - 2 = ((P - 2 : Nat) : Int) from by omega]
  refine l_PV_inv hP hm (T := a ^ (P - 2)) (fun r r0 r1 hr => h r r0 r1 ?_) (P - 2) 1 a (P - 2) (Nat.le_refl _) (by omega) ⟨by decide, by omega⟩ ha ⟨0, by omega⟩
  have f := fer_int hP.1 (not_dvd_rng ha h0)
  have e : a ^ (P - 1) = a ^ (P - 2) * a := by
    rw [show P - 1 = (P - 2) + 1 from by omega, Int.pow_succ]
  rw [e] at f
  exact cg_tr (cg_mul hr (c := a) (d := a) ⟨0, by omega⟩) f
/-- the first i places times u, as rests -/
def mulI (P u : Int) (f : Int → Int) (i : Int) : Int → Int := fun y => if 0 ≤ y ∧ y < i then Int.tmod (f y * u) P else f y
theorem l_PV_mewo {P : Nat} (hP : okP P) {a : Nat} (ha : isL a 7) (ha47 : a ≠ 47) {dg u : Int} (hd : 0 ≤ dg ∧ dg < 7) (hu : 0 ≤ u ∧ u < P) (hu1 : u ≠ 1) {m : rz_M} (hm : m 47 7 = P) (hr : rng (m a) 7 P) {K : Int → rz_M → Prop} (h : K 0 (wr m a 7 (mulI P u (m a) (dg + 1)))) : ∀ (d : Nat) (i : Int), dg + 1 - i = d → 0 ≤ i → rz_E y_PV_makeEndWithOne 11 [rR 47, rR a, rI dg, rL u, rX 1, rI i] [] (wr m a 7 (mulI P u (m a) i)) K
  | 0, i, hdi, hi => by
    have e : i = dg + 1 := by omega
    subst e
    exact T_PV_makeEndWithOne_11 _ _ _ _ _ _ (bf hu1 (bt (by omega) h))
  | d + 1, i, hdi, hi => by
    have p2 := hP.1.1
    have p3 := hP.2
    have b := mul_lt_k (P := P) (by omega) (hr i hi (by omega)) hu
    have hl := ha.2
    have ew : wr m a 7 (mulI P u (m a) i) 47 7 = P := by rw [wr_ne (Ne.symm ha47), hm]
    refine T_PV_makeEndWithOne_11 _ _ _ _ _ _ (bf hu1 (bf (by omega) ⟨ha.1, ⟨hi, by omega⟩, ?_⟩))
    rw [ew]
    refine ⟨by omega, ha.1, ⟨hi, by omega⟩, ?_⟩
    have e1 : wr m a 7 (mulI P u (m a) i) a i = m a i := by
      rw [wr_in hi (by omega)]
      unfold mulI
      rw [if_neg (by omega)]
    rw [e1, w64_id (by omega) (by omega), w32_id (by omega) (by omega), wr_up hi (by omega)]
    have e2 : upf (mulI P u (m a) i) i (Int.tmod (m a i * u) P) = mulI P u (m a) (i + 1) := by
      funext y
      unfold upf mulI
      by_cases q : y = i
      · subst q
        rw [if_pos rfl, if_pos ⟨hi, by omega⟩]
      · rw [if_neg q]
        by_cases z : 0 ≤ y ∧ y < i
        · rw [if_pos z, if_pos ⟨z.1, by omega⟩]
        · rw [if_neg z, if_neg (by omega)]
    rw [e2]
    exact l_PV_mewo hP ha ha47 hd hu hu1 hm hr h d (i + 1) (by omega) (by omega)
theorem wr_self2 (m : rz_M) (a : Nat) (n : Int) : wr m a n (m a) = m := by
  funext x y
  unfold wr
  split
  · next q => rw [q.1]
  · rfl
/-- the row becomes u times itself and ends with 1 -/
theorem c_PV_mewo {P : Nat} (hP : okP P) {a : Nat} (ha : isL a 7) (ha47 : a ≠ 47) {dg : Int} (hd : 0 ≤ dg ∧ dg < 7) {m : rz_M} (hm : m 47 7 = P) (hr : rng (m a) 7 P) (hz : ∀ k : Int, dg < k → k < 7 → m a k = 0) (h0 : m a dg ≠ 0) {K : Int → rz_M → Prop}
    (h : ∀ (u : Int) (g : Int → Int), rng g 7 P → (P : Int) ∣ u * m a dg - 1 → g dg = 1 → (∀ k : Int, dg < k → k < 7 → g k = 0) → (∀ k : Int, 0 ≤ k → k < 7 → (P : Int) ∣ g k - u * m a k) → K 0 (wr m a 7 g)) : rz_C y_PV_makeEndWithOne [rR 47, rR a, rI dg] m K := by
  have p2 := hP.1.1
  have p3 := hP.2
  have hl := ha.2
  refine T_PV_makeEndWithOne_0 _ _ _ _ ⟨ha.1, ⟨hd.1, by omega⟩, c_PV_inverseOf hP hm (hr dg hd.1 hd.2) h0 (fun u u0 u1 hu => ?_)⟩
  by_cases e : u = 1
  · subst e
    refine T_PV_makeEndWithOne_11 _ _ _ _ _ _ (bt rfl ?_)
    have r := hr dg hd.1 hd.2
    have z := dvd_small (P := P) (a := (m a dg).toNat) (b := 1) (by omega) (by omega) (by rwa [Int.one_mul, show m a dg - 1 = ((m a dg).toNat : Int) - ((1 : Nat) : Int) from by omega] at hu)
    have := h 1 (m a) hr hu (by omega) hz (fun k k0 k1 => ⟨0, by omega⟩)
    rwa [wr_self2] at this
  · have go := l_PV_mewo hP ha ha47 hd ⟨u0, u1⟩ e hm hr (K := K) ?_ (dg + 1).toNat 0 (by omega) (Int.le_refl _)
    · rw [show mulI P u (m a) 0 = m a from by funext y; unfold mulI; rw [if_neg (by omega)], wr_self2] at go
      exact go
    · have hb : ∀ k : Int, 0 ≤ k → k < 7 → 0 ≤ m a k * u ∧ m a k * u < 1000000 := fun k k0 k1 => mul_lt_k (P := P) (by omega) (hr k k0 k1) ⟨u0, u1⟩
      have gr : rng (mulI P u (m a) (dg + 1)) 7 P := fun k k0 k1 => by
        unfold mulI
        split
        · exact tmod_rng (by omega) (hb k k0 k1).1
        · exact hr k k0 k1
      have gc : ∀ k : Int, 0 ≤ k → k < 7 → (P : Int) ∣ mulI P u (m a) (dg + 1) k - u * m a k := fun k k0 k1 => by
        unfold mulI
        split
        · rw [Int.mul_comm u]
          exact dvd_tmod (hb k k0 k1).1
        · rw [hz k (by omega) k1, Int.mul_zero]
          exact ⟨0, by omega⟩
      refine h u _ gr hu ?_ (fun k k0 k1 => ?_) gc
      · have r := gr dg hd.1 hd.2
        have c := cg_tr (gc dg hd.1 hd.2) hu
        have z := dvd_small (P := P) (a := (mulI P u (m a) (dg + 1) dg).toNat) (b := 1) (by omega) (by omega) (by rwa [show mulI P u (m a) (dg + 1) dg - 1 = ((mulI P u (m a) (dg + 1) dg).toNat : Int) - ((1 : Nat) : Int) from by omega] at c)
        omega
      · unfold mulI
        rw [if_neg (by omega)]
        exact hz k k0 k1
