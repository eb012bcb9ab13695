/-! PrimeView: powers of x, common divisors with them, parting -/
section
variable {R : Type}
theorem hpl_fc [Lean.Grind.CommRing R] {mk : Nat → (Nat → Int) → R} {t : R} : ∀ (n : Nat) (f g : Nat → Int), (∀ k, k < n → f k = g k) → hpl mk t n f = hpl mk t n g
  | 0, _, _, _ => rfl
  | n + 1, f, g, h => by
    show mo mk 0 (f 0) + t * hpl mk t n (fun k => f (k + 1)) = mo mk 0 (g 0) + t * hpl mk t n (fun k => g (k + 1))
    rw [h 0 (by omega), hpl_fc n (fun k => f (k + 1)) (fun k => g (k + 1)) (fun k hk => h (k + 1) (by omega))]
theorem pw_half {P k : Nat} : P / 2 ^ k = 2 * (P / 2 ^ (k + 1)) + P / 2 ^ k % 2 := by
  rw [Nat.pow_succ, ← Nat.div_div_eq_div_mul]
  omega
theorem l_PV_fstep [Lean.Grind.CommRing R] {co : R → Nat → Int} {mk : Nat → (Nat → Int) → R} (H : PolyR co mk) {P : Nat} (hP : okP P) {D : Int} (hD : 2 ≤ D ∧ D ≤ 6) {m0 : rz_M} (hm0 : m0 47 7 = P) (hw : whOK (m0 48) P D) {K : Int → rz_M → Prop} (k : Nat) (m : rz_M) (hk : k < 10) (hfr : ∀ i, i ≠ 49 → i ≠ 54 → m i = m0 i) (hs : stOK (m 49) P D) (hj : jd co P (pR mk 7 (m0 48)) (mo mk 1 1 ^ (P / 2 ^ (k + 1)) - pR mk 7 (m 49)))
    (h : ∀ m2 : rz_M, (∀ i, i ≠ 49 → i ≠ 54 → m2 i = m0 i) → stOK (m2 49) P D → jd co P (pR mk 7 (m0 48)) (mo mk 1 1 ^ (P / 2 ^ k) - pR mk 7 (m2 49)) → rz_E y_PV_makeFirstStep 25 [rR 47, rI D, rI ((2 ^ k / 2 : Nat) : Int)] [] m2 K) : rz_E y_PV_makeFirstStep 25 [rR 47, rI D, rI ((2 ^ k : Nat) : Int)] [] m K := by
  have p3 := hP.2
  have kp : 0 < 2 ^ k := Nat.pow_pos (by decide)
  have kl : 2 ^ k < 1024 := by
    have : 2 ^ k ≤ 2 ^ 9 := Nat.pow_le_pow_right (by decide) (by omega)
    have e : 2 ^ 9 = 512 := by decide
    omega
  have e48 : m 48 = m0 48 := hfr 48 (by decide) (by decide)
  refine T_PV_makeFirstStep_25 _ _ _ _ (bf (by omega) (c_PV_mulStep H hP (Or.inl rfl) ⟨by omega, hD.2⟩ (by rw [hfr 47 (by decide) (by decide)]; exact hm0) (by rw [e48]; exact hw) hs hs (fun m1 f1 s1 j1 => ?_)))
  have fr1 : ∀ i, i ≠ 49 → i ≠ 54 → m1 i = m0 i := fun i a b => (f1 i a b).trans (hfr i a b)
  have em1 : m1 47 7 = P := by rw [fr1 47 (by decide) (by decide)]; exact hm0
  rw [em1, bit_shi1 _ kl]
  rw [e48] at j1
  have hb := bit_and2 k hk P (by omega)
  have j1' : jd co P (pR mk 7 (m0 48)) (mo mk 1 1 ^ (2 * (P / 2 ^ (k + 1))) - pR mk 7 (m1 49)) := by
    have := jd_mm H hj hj
    rw [← Lean.Grind.Semiring.pow_add] at this
    rw [show 2 * (P / 2 ^ (k + 1)) = P / 2 ^ (k + 1) + P / 2 ^ (k + 1) from by omega]
    exact jd_tr H this j1
  have e1 := pw_half (P := P) (k := k)
  refine bb (fun q => ?_) (fun q => ?_)
  · refine h m1 fr1 s1 ?_
    rw [e1, hb.mp q, Nat.add_zero]
    exact j1'
  · refine c_PV_mulX H hP ⟨by omega, hD.2⟩ em1 (by rw [fr1 48 (by decide) (by decide)]; exact hw) s1 (fun m2 f2 s2 j2 => ?_)
    rw [fr1 48 (by decide) (by decide)] at j2
    refine h m2 (fun i a b => (f2 i a).trans (fr1 i a b)) s2 ?_
    have : P / 2 ^ k % 2 = 1 := by
      have := mt hb.mpr q
      omega
    rw [e1, this, Lean.Grind.Semiring.pow_succ, Lean.Grind.CommSemiring.mul_comm]
    exact jd_tr H (jd_mm H (jd_rf H _ _) j1') j2
theorem l_PV_first [Lean.Grind.CommRing R] {co : R → Nat → Int} {mk : Nat → (Nat → Int) → R} (H : PolyR co mk) {P : Nat} (hP : okP P) {D : Int} (hD : 2 ≤ D ∧ D ≤ 6) {m0 : rz_M} (hm0 : m0 47 7 = P) (hw : whOK (m0 48) P D) {K : Int → rz_M → Prop}
    (h : ∀ m' : rz_M, (∀ i, i ≠ 49 → i ≠ 50 → i ≠ 54 → m' i = m0 i) → stOK (m' 49) P D → (∀ k : Int, 0 ≤ k → k < 7 → m' 50 k = m' 49 k) → jd co P (pR mk 7 (m0 48)) (mo mk 1 1 ^ P - pR mk 7 (m' 49)) → K 0 m') : ∀ (k : Nat) (m : rz_M), k < 10 → (∀ i, i ≠ 49 → i ≠ 54 → m i = m0 i) → stOK (m 49) P D → jd co P (pR mk 7 (m0 48)) (mo mk 1 1 ^ (P / 2 ^ (k + 1)) - pR mk 7 (m 49)) → rz_E y_PV_makeFirstStep 25 [rR 47, rI D, rI ((2 ^ k : Nat) : Int)] [] m K
  | 0, m, hk, hfr, hs, hj => l_PV_fstep H hP hD hm0 hw 0 m hk hfr hs hj (fun m2 f2 s2 j2 => by
      have i49 : isL 49 7 := ⟨by decide +kernel, by decide +kernel⟩
      have i50 : isL 50 7 := ⟨by decide +kernel, by decide +kernel⟩
      refine T_PV_makeFirstStep_25 _ _ _ _ (bt (by decide) (c_RC_copy i49 i50 ?_))
      have e49 : wr m2 50 7 (m2 49) 49 = m2 49 := wr_ne (by decide)
      refine h _ (fun i a b c => (wr_ne b).trans (f2 i a c)) (by rw [e49]; exact s2) (fun k k0 k1 => by rw [e49]; exact wr_in k0 k1) ?_
      rw [e49]
      rwa [Nat.pow_zero, Nat.div_one] at j2)
  | k + 1, m, hk, hfr, hs, hj => l_PV_fstep H hP hD hm0 hw (k + 1) m hk hfr hs hj (fun m2 f2 s2 j2 => by
      rw [show 2 ^ (k + 1) / 2 = 2 ^ k from by rw [Nat.pow_succ]; omega]
      exact l_PV_first H hP hD hm0 hw h k m2 (by omega) f2 s2 j2)
theorem pR_x1 [Lean.Grind.CommRing R] {co : R → Nat → Int} {mk : Nat → (Nat → Int) → R} (H : PolyR co mk) {f : Int → Int} (h1 : f 1 = 1) (hz : ∀ k : Int, 0 ≤ k → k < 7 → k ≠ 1 → f k = 0) : pR mk 7 f = mo mk 1 1 := H.1 _ _ (fun k => by
  rw [co_pR H, co_mo H]
  by_cases q : k = 1
  · subst q
    rw [if_pos (by decide), if_pos rfl]
    exact h1
  · rw [if_neg q]
    split
    · exact hz k (by omega) (by omega) (by omega)
    · rfl)
theorem c_PV_first [Lean.Grind.CommRing R] {co : R → Nat → Int} {mk : Nat → (Nat → Int) → R} (H : PolyR co mk) {P : Nat} (hP : okP P) {D : Int} (hD : 2 ≤ D ∧ D ≤ 6) {m0 : rz_M} (hm0 : m0 47 7 = P) (hw : whOK (m0 48) P D) {K : Int → rz_M → Prop}
    (h : ∀ m' : rz_M, (∀ i, i ≠ 49 → i ≠ 50 → i ≠ 54 → m' i = m0 i) → stOK (m' 49) P D → (∀ k : Int, 0 ≤ k → k < 7 → m' 50 k = m' 49 k) → jd co P (pR mk 7 (m0 48)) (mo mk 1 1 ^ P - pR mk 7 (m' 49)) → K 0 m') : rz_C y_PV_makeFirstStep [rR 47, rI D] m0 K := by
  have p2 := hP.1.1
  have p3 := hP.2
  refine T_PV_makeFirstStep_0 _ _ _ (c_RC_clear (n := 7) (by decide +kernel) (by decide +kernel) (by decide) ⟨⟨by decide, by decide⟩, ?_⟩)
  have e47 : wr m0 49 7 (fun _ => 0) 47 7 = P := by rw [wr_ne (by decide)]; exact hm0
  rw [e47, w32_id (by omega) (by omega), wr_up (by decide) (by decide)]
  refine c_J_hob (by omega) (by omega) ?_
  obtain ⟨k, h1, h2, h3, h4⟩ := hob_pw (P := P) (by omega) (by omega)
  have kp : 0 < 2 ^ k := Nat.pow_pos (by decide)
  cases k with
  | zero =>
    rw [Nat.zero_add, Nat.pow_one] at h3
    omega
  | succ k =>
    have kl : 2 ^ (k + 1) < 1024 := by omega
    rw [h1, bit_shi1 _ kl, show 2 ^ (k + 1) / 2 = 2 ^ k from by rw [Nat.pow_succ]; omega]
    have e49 : ∀ y : Int, 0 ≤ y → y < 7 → wr m0 49 7 (upf (fun _ => 0) 1 1) 49 y = if y = 1 then 1 else 0 := fun y y0 y1 => by
      rw [wr_in y0 y1]
      rfl
    refine l_PV_first H hP hD hm0 hw h k _ (by omega) (fun i a b => wr_ne a) ⟨fun y y0 y1 => ?_, fun y y0 y1 => ?_⟩ ?_
    · rw [e49 y y0 y1]
      split <;> omega
    · rw [e49 y (by omega) y1, if_neg (by omega)]
    · have ex : pR mk 7 (wr m0 49 7 (upf (fun _ => 0) 1 1) 49) = mo mk 1 1 := pR_x1 H (by rw [e49 1 (by decide) (by decide), if_pos rfl]) (fun y y0 y1 y2 => by rw [e49 y y0 y1, if_neg y2])
      have e1 : P / 2 ^ (k + 1) = 1 := by
        have : 2 ^ (k + 1 + 1) = 2 * 2 ^ (k + 1) := by rw [Nat.pow_succ]; omega
        refine Nat.div_eq_of_lt_le (by omega) (by omega)
      rw [ex, e1, Lean.Grind.Semiring.pow_one]
      exact jd_rf H _ _
/-- the next power: the step before with the first step put into it -/
theorem l_PV_next [Lean.Grind.CommRing R] {co : R → Nat → Int} {mk : Nat → (Nat → Int) → R} (H : PolyR co mk) {P : Nat} (hP : okP P) {D : Nat} (hD : 2 ≤ D ∧ D ≤ 6) {m0 : rz_M} (hm0 : m0 47 7 = P) (hw : whOK (m0 48) P D) (h50 : stOK (m0 50) P D) {b : Int → Int} (hb : rng b 7 P) {K : Int → rz_M → Prop}
    (h : ∀ m' : rz_M, (∀ i, i ≠ 49 → i ≠ 51 → i ≠ 54 → m' i = m0 i) → stOK (m' 49) P D → jd co P (pR mk 7 (m0 48)) (hpl mk (pR mk 7 (m0 50)) D (fun k => b (k : Int)) - pR mk 7 (m' 49)) → K 0 m') : ∀ (c : Nat) (m : rz_M), c < D → (∀ i, i ≠ 49 → i ≠ 51 → i ≠ 54 → m i = m0 i) → (∀ k : Int, 0 ≤ k → k < 7 → m 51 k = b k) → stOK (m 49) P D → jd co P (pR mk 7 (m0 48)) (hpl mk (pR mk 7 (m0 50)) (D - c) (fun k => b ((c + k : Nat) : Int)) - pR mk 7 (m 49)) → rz_E y_PV_makeNextStep 36 [rR 47, rI D, rI ((c : Int) - 1)] [] m K
  | 0, m, hc, hfr, hb1, hs, hj => by
    refine T_PV_makeNextStep_36 _ _ _ _ (bt (by omega) (h m hfr hs ?_))
    rw [Nat.sub_zero] at hj
    rwa [hpl_fc D (fun k => b ((0 + k : Nat) : Int)) (fun k => b (k : Int)) (fun k _ => by rw [Nat.zero_add])] at hj
  | c + 1, m, hc, hfr, hb1, hs, hj => by
    have p2 := hP.1.1
    have p3 := hP.2
    have e48 := hfr 48 (by decide) (by decide) (by decide)
    have e50 := hfr 50 (by decide) (by decide) (by decide)
    refine T_PV_makeNextStep_36 _ _ _ _ (bf (by omega) (c_PV_mulStep H hP (Or.inr rfl) ⟨by omega, by omega⟩ (by rw [hfr 47 (by decide) (by decide) (by decide)]; exact hm0) (by rw [e48]; exact hw) hs (by rw [e50]; exact h50) (fun m1 f1 s1 j1 => ?_)))
    rw [show ((c + 1 : Nat) : Int) - 1 = c from by omega]
    have em1 : m1 47 7 = P := by rw [f1 47 (by decide) (by decide), hfr 47 (by decide) (by decide) (by decide)]; exact hm0
    refine ⟨⟨by decide, by decide⟩, ⟨by omega, by omega⟩, c_PV_byP hP em1 ⟨⟨by decide, by decide⟩, ?_⟩⟩
    have e51 : m1 51 c = b c := by rw [f1 51 (by decide) (by decide)]; exact hb1 c (by omega) (by omega)
    have r1 := s1.1 0 (by decide) (by decide)
    have r2 := hb c (by omega) (by omega)
    rw [e51, w64_id (by omega) (by omega), w32_id (by omega) (by omega), show (c : Int) + -1 = (c : Int) - 1 from by omega]
    have e49 : ∀ y : Int, rz_up m1 49 0 ((m1 49 0 + b c) % P) 49 y = if y = 0 then (m1 49 0 + b c) % P else m1 49 y := fun y => by
      by_cases q : y = 0
      · rw [q, up_eq, if_pos rfl]
      · rw [up_nj q, if_neg q]
    refine l_PV_next H hP hD hm0 hw h50 hb h c _ (by omega) (fun i x y z => by rw [up_ne x, f1 i x z]; exact hfr i x y z) (fun k k0 k1 => by rw [up_ne (by decide), f1 51 (by decide) (by decide)]; exact hb1 k k0 k1) ⟨fun y y0 y1 => ?_, fun y y0 y1 => ?_⟩ ?_
    · rw [e49]
      split
      · exact emod_rng (by omega)
      · exact s1.1 y y0 y1
    · rw [e49, if_neg (by omega)]
      exact s1.2 y y0 y1
    · rw [e48, e50] at j1
      have e0 : D - c = (D - (c + 1)) + 1 := by omega
      rw [e0]
      show jd co P _ (mo mk 0 (b ((c + 0 : Nat) : Int)) + pR mk 7 (m0 50) * hpl mk (pR mk 7 (m0 50)) (D - (c + 1)) (fun k => b ((c + (k + 1) : Nat) : Int)) - _)
      rw [hpl_fc (D - (c + 1)) (fun k => b ((c + (k + 1) : Nat) : Int)) (fun k => b ((c + 1 + k : Nat) : Int)) (fun k _ => by rw [show c + (k + 1) = c + 1 + k from by omega]), Nat.add_zero]
      have ap : dvp co P (mo mk 0 (b (c : Int)) + pR mk 7 (m1 49) - pR mk 7 (rz_up m1 49 0 ((m1 49 0 + b c) % P) 49)) := fun k => by
        rw [co_sub H, H.2.1, co_mo H, co_pR H, co_pR H]
        by_cases q : k < 7
        · rw [if_pos q, if_pos q, e49]
          by_cases z : k = 0
          · subst z
            rw [if_pos rfl, if_pos (show ((0 : Nat) : Int) = 0 from rfl)]
            have := emod_dvd (m1 49 0 + b c) P
            show (P : Int) ∣ b c + m1 49 0 - (m1 49 0 + b c) % P
            rwa [show b c + m1 49 0 - (m1 49 0 + b c) % P = m1 49 0 + b c - (m1 49 0 + b c) % P from by omega]
          · rw [if_neg z, if_neg (by omega)]
            exact ⟨0, by omega⟩
        · rw [if_neg q, if_neg q, if_neg (by omega)]
          exact ⟨0, by omega⟩
      have j2 := jd_mm H hj (jd_rf H (pR mk 7 (m0 48)) (pR mk 7 (m0 50)))
      have j3 := jd_add H (jd_tr H j2 j1) (jd_dvp H ap)
      rwa [show ∀ (hh T s1 s2 cc : R), hh * T - s1 + (cc + s1 - s2) = cc + T * hh - s2 from fun hh T s1 s2 cc => by grind] at j3
theorem c_PV_next [Lean.Grind.CommRing R] {co : R → Nat → Int} {mk : Nat → (Nat → Int) → R} (H : PolyR co mk) {P : Nat} (hP : okP P) {D : Nat} (hD : 2 ≤ D ∧ D ≤ 6) {m0 : rz_M} (hm0 : m0 47 7 = P) (hw : whOK (m0 48) P D) (h49 : stOK (m0 49) P D) (h50 : stOK (m0 50) P D) (hx : jd co P (pR mk 7 (m0 48)) (mo mk 1 1 ^ P - pR mk 7 (m0 50))) {K : Int → rz_M → Prop}
    (h : ∀ m' : rz_M, (∀ i, i ≠ 49 → i ≠ 51 → i ≠ 54 → m' i = m0 i) → stOK (m' 49) P D → jd co P (pR mk 7 (m0 48)) (pR mk 7 (m0 49) ^ P - pR mk 7 (m' 49)) → K 0 m') : rz_C y_PV_makeNextStep [rR 47, rI D] m0 K := by
  have p2 := hP.1.1
  have p3 := hP.2
  have i49 : isL 49 7 := ⟨by decide +kernel, by decide +kernel⟩
  have i51 : isL 51 7 := ⟨by decide +kernel, by decide +kernel⟩
  refine T_PV_makeNextStep_0 _ _ _ (c_RC_copy i49 i51 (c_RC_clear (n := 7) (by decide +kernel) (by decide +kernel) (by decide) ?_))
  rw [w32_id (by omega) (by omega), w32_id (by omega) (by omega)]
  refine ⟨⟨by omega, by omega⟩, ⟨by decide, by decide⟩, ?_⟩
  have e51 : ∀ k : Int, 0 ≤ k → k < 7 → wr (wr m0 51 7 (m0 49)) 49 7 (fun _ => 0) 51 k = m0 49 k := fun k k0 k1 => by
    rw [wr_ne (by decide), wr_in k0 k1]
  rw [e51 _ (by omega) (by omega), wr_up (by decide) (by decide), show (D : Int) - 2 = ((D - 1 : Nat) : Int) - 1 from by omega]
  have f49 : ∀ y : Int, 0 ≤ y → y < 7 → wr (wr m0 51 7 (m0 49)) 49 7 (upf (fun _ => 0) 0 (m0 49 ((D : Int) - 1))) 49 y = if y = 0 then m0 49 ((D : Int) - 1) else 0 := fun y y0 y1 => by
    rw [wr_in y0 y1]
    rfl
  have r0 := h49.1 ((D : Int) - 1) (by omega) (by omega)
  refine l_PV_next H hP hD hm0 hw h50 (b := m0 49) h49.1 (fun m' f' s' j' => h m' f' s' ?_) (D - 1) _ (by omega) (fun i x y z => by rw [wr_ne x, wr_ne y]) (fun k k0 k1 => by rw [wr_ne (by decide), wr_in k0 k1]) ⟨fun y y0 y1 => ?_, fun y y0 y1 => ?_⟩ ?_
  · -- the p-th power is the polynomial of x to the p
    have e1 : pR mk 7 (m0 49) = hpl mk (mo mk 1 1) D (fun k => m0 49 (k : Int)) := by
      rw [hpl_X H]
      exact (pR_ext H (n := D) (l := 7) (by omega) (fun _ _ _ => rfl) (fun k k0 k1 => h49.2 k k0 k1)).symm
    rw [e1]
    exact jd_tr H (jd_dvp H (hpl_pw H hP.1 (mo mk 1 1) D _)) (jd_tr H (jd_hpl H hx D _) j')
  · rw [f49 y y0 y1]
    split <;> omega
  · rw [f49 y (by omega) y1, if_neg (by omega)]
  · rw [show D - (D - 1) = 1 from by omega]
    show jd co P _ (mo mk 0 (m0 49 ((D - 1 + 0 : Nat) : Int)) + pR mk 7 (m0 50) * 0 - _)
    have e2 : mo mk 0 (m0 49 ((D - 1 + 0 : Nat) : Int)) + pR mk 7 (m0 50) * 0 = pR mk 7 (wr (wr m0 51 7 (m0 49)) 49 7 (upf (fun _ => 0) 0 (m0 49 ((D : Int) - 1))) 49) := H.1 _ _ (fun k => by
      rw [H.2.1, co_mo H, show pR mk 7 (m0 50) * 0 = (0 : R) from by grind, co_zero H, co_pR H]
      by_cases q : k = 0
      · subst q
        rw [if_pos rfl, if_pos (by decide), f49 _ (by decide) (by decide), if_pos (show ((0 : Nat) : Int) = 0 from rfl), Int.add_zero, show ((D - 1 + 0 : Nat) : Int) = (D : Int) - 1 from by omega]
      · rw [if_neg q]
        split
        · rw [f49 _ (by omega) (by omega), if_neg (by omega)]
          rfl
        · rfl)
    rw [e2]
    exact jd_rf H _ _
theorem c_PV_sws [Lean.Grind.CommRing R] {co : R → Nat → Int} {mk : Nat → (Nat → Int) → R} (H : PolyR co mk) {P : Nat} (hP : okP P) {D : Int} (hD : 1 ≤ D ∧ D ≤ 6) {m : rz_M} (hm : m 47 7 = P) (hw : whOK (m 48) P D) (h49 : stOK (m 49) P D) {K : Int → rz_M → Prop}
    (h : ∀ m' : rz_M, (∀ i, i ≠ 52 → i ≠ 53 → m' i = m i) → rng (m' 52) 7 P → 0 ≤ dg (m' 52) → m' 52 (dg (m' 52)) = 1 → gcdp co P (pR mk 7 (m' 52)) (pR mk 7 (m 48)) (pR mk 7 (m 49) - mo mk 1 1) → K (dg (m' 52)) m') : rz_C y_PV_shareWithStep [rR 47] m K := by
  have p2 := hP.1.1
  have p3 := hP.2
  have i48 : isL 48 7 := ⟨by decide +kernel, by decide +kernel⟩
  have i49 : isL 49 7 := ⟨by decide +kernel, by decide +kernel⟩
  have i52 : isL 52 7 := ⟨by decide +kernel, by decide +kernel⟩
  have i53 : isL 53 7 := ⟨by decide +kernel, by decide +kernel⟩
  refine T_PV_shareWithStep_0 _ _ (c_RC_copy i48 i52 (c_RC_copy i49 i53 ⟨⟨by decide, by decide⟩, ?_⟩))
  rw [wr_ne (x := 49) (by decide), wr_in (by decide) (by decide)]
  have r1 := h49.1 1 (by decide) (by decide)
  rw [w64_id (by omega) (by omega)]
  refine c_PV_byP hP (by rw [wr_ne (by decide), wr_ne (by decide)]; exact hm) ⟨⟨by decide, by decide⟩, ?_⟩
  rw [wr_up (by decide) (by decide)]
  have e52 : ∀ y : Int, 0 ≤ y → y < 7 → wr (wr m 52 7 (m 48)) 53 7 (upf (m 49) 1 ((m 49 1 - 1) % P)) 52 y = m 48 y := fun y y0 y1 => by
    rw [wr_ne (by decide), wr_in y0 y1]
  have e53 : ∀ y : Int, 0 ≤ y → y < 7 → wr (wr m 52 7 (m 48)) 53 7 (upf (m 49) 1 ((m 49 1 - 1) % P)) 53 y = if y = 1 then (m 49 1 - 1) % P else m 49 y := fun y y0 y1 => by
    rw [wr_in y0 y1]
    rfl
  have d52 : dg (wr (wr m 52 7 (m 48)) 53 7 (upf (m 49) 1 ((m 49 1 - 1) % P)) 52) = D := dg_of ⟨by omega, by omega⟩ (by rw [e52 D (by omega) (by omega), hw.2.1]; decide) (fun k k0 k1 => by rw [e52 k (by omega) k1]; exact hw.2.2 k k0 k1)
  refine c_PV_slr H hP (by rw [wr_ne (by decide), wr_ne (by decide)]; exact hm) (fun y y0 y1 => by rw [e52 y y0 y1]; exact hw.1 y y0 y1) (fun y y0 y1 => ?_) (by rw [d52]; omega) (by rw [d52, e52 D (by omega) (by omega)]; exact hw.2.1) (fun m' f1 r52 r53 d0 d1 hg => h m' (fun i a b => by rw [f1 i a b, wr_ne b, wr_ne a]) r52 d0 d1 (gcdp_cg H hg ?_ ?_ ?_))
  · rw [e53 y y0 y1]
    split
    · exact emod_rng (by omega)
    · exact h49.1 y y0 y1
  · rw [show ∀ a : R, a - a = 0 from fun a => by grind]; exact dvp_zero H
  · exact dvp_pR H (fun k k0 k1 => by rw [e52 k k0 (by omega)]; exact ⟨0, by omega⟩)
  · intro k
    rw [co_sub H, co_sub H, co_pR H, co_pR H, co_mo H]
    by_cases q : k < 7
    · rw [if_pos q, if_pos q, e53 _ (by omega) (by omega)]
      by_cases z : k = 1
      · subst z
        rw [if_pos rfl, if_pos (show ((1 : Nat) : Int) = 1 from rfl)]
        have := emod_dvd (m 49 1 - 1) P
        show (P : Int) ∣ (m 49 1 - 1) % P - (m 49 1 - 1)
        rw [show (m 49 1 - 1) % P - (m 49 1 - 1) = -(m 49 1 - 1 - (m 49 1 - 1) % P) from by omega]
        exact Int.dvd_neg.mpr this
      · rw [if_neg z, if_neg (by omega)]
        exact ⟨0, by omega⟩
    · rw [if_neg q, if_neg q, if_neg (by omega)]
      exact ⟨0, by omega⟩
end
