/-! both sides alike: type, tally -/
/-- only scratch is written -/
theorem Inv_sc {m m' : rz_M} (hI : Inv m) (h : ∀ i : Nat, (i < 12 ∨ (14 ≤ i ∧ i ≤ 23) ∨ i = 222 ∨ (231 ≤ i ∧ i ≤ 233) ∨ i = 400) → m' i = m i) (h1 : m' 221 1 = m 221 1) (h17 : m' 221 17 = m 221 17) (h18 : m' 221 18 = m 221 18) : Inv m' := by
  refine Inv_ref hI (z := m 0 10) ⟨fun i hi => h i (by omega), h17, h18⟩ (fun i a b => h i (by omega)) (h 222 (by omega)) (by rw [h 0 (by omega)]) ?_
  rw [h1]
  exact hI.2.1.symm
def tpr (n : Int) : Prop := 2 ≤ n ∧ ∀ d : Int, 2 ≤ d → d * d ≤ n → ¬ d ∣ n
theorem tpr_pr {N : Nat} (h : tpr (N : Int)) : isPr (N : Int) := by
  refine ⟨h.1, fun a b hab => ?_⟩
  have hab' : N ∣ a.natAbs * b.natAbs := by
    have := Int.natAbs_dvd_natAbs.mpr hab
    rwa [Int.natAbs_mul, Int.natAbs_natCast] at this
  by_cases q : N ∣ a.natAbs
  · exact Or.inl (Int.natAbs_dvd_natAbs.mp (by rw [Int.natAbs_natCast]; exact q))
  · refine Or.inr ?_
    rw [← Int.natAbs_dvd_natAbs, Int.natAbs_natCast]
    have g1 : Nat.gcd N a.natAbs ∣ N := Nat.gcd_dvd_left _ _
    have hN : 2 ≤ N := by have := h.1; omega
    have gp : 0 < Nat.gcd N a.natAbs := Nat.gcd_pos_of_pos_left _ (by omega)
    have g0 : Nat.gcd N a.natAbs = 1 := by
      refine Classical.byContradiction fun z => ?_
      obtain ⟨k, hk⟩ := g1
      have hk1 : k ≠ 1 := fun w => q (by
        rw [w, Nat.mul_one] at hk
        rw [hk]
        exact Nat.gcd_dvd_right _ _)
      have hk0 : k ≠ 0 := fun w => by rw [w, Nat.mul_zero] at hk; omega
      generalize Nat.gcd N a.natAbs = g at hk z gp
      rcases Nat.le_total g k with le | le
      · refine h.2 (g : Int) (by omega) ?_ (Int.natCast_dvd_natCast.mpr ⟨k, hk⟩)
        have : g * g ≤ g * k := Nat.mul_le_mul_left g le
        rw [← Int.natCast_mul]
        omega
      · refine h.2 (k : Int) (by omega) ?_ (Int.natCast_dvd_natCast.mpr ⟨g, by rw [Nat.mul_comm]; exact hk⟩)
        have : k * k ≤ g * k := Nat.mul_le_mul_right k le
        rw [← Int.natCast_mul]
        omega
    exact Nat.Coprime.dvd_of_dvd_mul_left g0 hab'
theorem l_RC_isPrime {n : Int} (hn : 2 ≤ n ∧ n ≤ 997) {m : rz_M} {K : Int → rz_M → Prop} (h1 : tpr n → K 1 m) (h0 : ¬ tpr n → K 0 m) : ∀ (r : Nat) (d : Int), 40 - d = r → 2 ≤ d → (∀ e : Int, 2 ≤ e → e < d → ¬ e ∣ n) → rz_E y_RC_isPrime 9 [rI n, rI d] [] m K
  | 0, d, hr, hd, hs => by
    have e : d = 40 := by omega
    subst e
    exact T_RC_isPrime_9 _ _ _ _ (bt (by show n < 1600; omega) (h1 ⟨hn.1, fun e e1 e2 => hs e e1 (by
      refine Classical.byContradiction fun z => ?_
      have : (40 : Int) * 40 ≤ e * e := Int.mul_le_mul (by omega) (by omega) (by decide) (by omega)
      omega)⟩))
  | r + 1, d, hr, hd, hs => by
    have dd : d * d ≤ 40 * 40 := Int.mul_le_mul (by omega) (by omega) (by omega) (by decide)
    have d0 : 0 ≤ d * d := Int.mul_nonneg (by omega) (by omega)
    refine T_RC_isPrime_9 _ _ _ _ ?_
    rw [w32_id (z := d * d) (by omega) (by omega), w32_id (z := d + 1) (by omega) (by omega)]
    refine bb (fun q => h1 ⟨hn.1, fun e e1 e2 => hs e e1 (by
      refine Classical.byContradiction fun z => ?_
      have : d * d ≤ e * e := Int.mul_le_mul (by omega) (by omega) (by omega) (by omega)
      omega)⟩) (fun q => bf (by omega) ⟨by omega, bb (fun z => l_RC_isPrime hn h1 h0 r (d + 1) (by omega) (by omega) (fun e e1 e2 w => ?_)) (fun z => h0 (fun t => t.2 d hd (by omega) (Int.dvd_of_tmod_eq_zero (Classical.not_not.mp z))))⟩)
    by_cases y : e = d
    · subst y
      exact z (Int.tmod_eq_zero_of_dvd w)
    · exact hs e e1 (by omega) w
theorem c_RC_isPrime {n : Int} (hn : n ≤ 997) {m : rz_M} {K : Int → rz_M → Prop} (h1 : tpr n → K 1 m) (h0 : ¬ tpr n → K 0 m) : rz_C y_RC_isPrime [rI n] m K :=
  T_RC_isPrime_0 _ _ _ (bb (fun q => l_RC_isPrime ⟨q, hn⟩ h1 h0 38 2 (by decide) (by decide) (fun e a b => by omega)) (fun q => h0 (fun t => q t.1)))
theorem l_M_isPrime {n : Int} (hn : 2 ≤ n ∧ n ≤ 997) {m : rz_M} {K : Int → rz_M → Prop} (h1 : tpr n → K 1 m) (h0 : ¬ tpr n → K 0 m) : ∀ (r : Nat) (d : Int), 40 - d = r → 2 ≤ d → (∀ e : Int, 2 ≤ e → e < d → ¬ e ∣ n) → rz_E y_M_isPrime 13 [rI n, rI 1, rI d] [] m K
  | 0, d, hr, hd, hs => by
    have e : d = 40 := by omega
    subst e
    exact T_M_isPrime_13 _ _ _ _ _ (bt (by show n < 1600; omega) ⟨Or.inr rfl, h1 ⟨hn.1, fun e e1 e2 => hs e e1 (by
      refine Classical.byContradiction fun z => ?_
      have : (40 : Int) * 40 ≤ e * e := Int.mul_le_mul (by omega) (by omega) (by decide) (by omega)
      omega)⟩⟩)
  | r + 1, d, hr, hd, hs => by
    have dd : d * d ≤ 40 * 40 := Int.mul_le_mul (by omega) (by omega) (by omega) (by decide)
    have d0 : 0 ≤ d * d := Int.mul_nonneg (by omega) (by omega)
    refine T_M_isPrime_13 _ _ _ _ _ ?_
    rw [w32_id (z := d * d) (by omega) (by omega), w32_id (z := d + 1) (by omega) (by omega)]
    refine bb (fun q => ⟨Or.inr rfl, h1 ⟨hn.1, fun e e1 e2 => hs e e1 (by
      refine Classical.byContradiction fun z => ?_
      have : d * d ≤ e * e := Int.mul_le_mul (by omega) (by omega) (by omega) (by omega)
      omega)⟩⟩) (fun q => bf (by decide) ⟨by omega, bb (fun z => ?_) (fun z => l_M_isPrime hn h1 h0 r (d + 1) (by omega) (by omega) (fun e e1 e2 w => ?_))⟩)
    · have nt : ¬ tpr n := fun t => t.2 d hd (by omega) (Int.dvd_of_tmod_eq_zero z)
      exact T_M_isPrime_13 _ _ _ _ _ (bb (fun _ => ⟨Or.inl rfl, h0 nt⟩) (fun _ => bt rfl ⟨Or.inl rfl, h0 nt⟩))
    · by_cases y : e = d
      · subst y
        exact z (Int.tmod_eq_zero_of_dvd w)
      · exact hs e e1 (by omega) w
theorem c_M_isPrime {n : Int} (hn : n ≤ 997) {m : rz_M} {K : Int → rz_M → Prop} (h1 : tpr n → K 1 m) (h0 : ¬ tpr n → K 0 m) : rz_C y_M_isPrime [rI n] m K := by
  refine T_M_isPrime_0 _ _ _ (bb (fun q => ?_) (fun q => l_M_isPrime ⟨by omega, hn⟩ h1 h0 38 2 (by decide) (by decide) (fun e a b => by omega)))
  exact T_M_isPrime_13 _ _ _ _ _ (bt (by show n < 4; omega) ⟨Or.inl rfl, h0 (fun t => by have := t.1; omega)⟩)
def TyZ (P : Nat) (f : Int → Int) (z : Int) : Prop := @TyS PZ rgPZ pzco pzK P f z
theorem z_RC_typeBy {p : Int} (hp : tpr p) (hp2 : p ≤ 997) {r : Int} (hr : 0 ≤ r ∧ r < 10) {m : rz_M} (hd : 1 ≤ dg (m (rz_R 1 r))) {K : Int → rz_M → Prop} (h : ∀ (z : Int) (m' : rz_M), (∀ i : Nat, (i < 47 ∨ 54 < i) → m' i = m i) → TyZ p.toNat (m (rz_R 1 r)) z → K z m') : rz_C y_PV_typeBy [rR 47, rR (rz_R 1 r), rI p] m K := by
  have p0 := hp.1
  have e : p = ((p.toNat : Nat) : Int) := by omega
  have hR : rz_R 1 r = 2 + r.toNat := rfl
  have hP : okP p.toNat := ⟨tpr_pr (by rw [← e]; exact hp), by omega⟩
  rw [e]
  exact @c_PV_typeBy PZ rgPZ pzco pzK PZ_ok p.toNat hP (rz_R 1 r) (isL_row hr) (by omega) m hd K h
theorem z_M_typeBy {p : Int} (hp : tpr p) (hp2 : p ≤ 997) {r : Int} (hr : 0 ≤ r ∧ r < 10) {m : rz_M} (hd : 1 ≤ dg (rwM m r)) {z : Int} (hz : TyZ p.toNat (rwM m r) z) {K : Int → rz_M → Prop} (h : ∀ m' : rz_M, scM m m' → K z m') : rz_C y_M_typeBy [rR 221, rI r, rI p] m K := by
  have p0 := hp.1
  have e : p = ((p.toNat : Nat) : Int) := by omega
  have hP : okP p.toNat := ⟨tpr_pr (by rw [← e]; exact hp), by omega⟩
  have := @c_M_typeBy PZ rgPZ pzco pzK PZ_ok p.toNat hP r hr m hd z hz K h
  rwa [← e] at this
theorem TyZ_cg {P : Nat} {f g : Int → Int} {z : Int} (e : ∀ k : Int, 0 ≤ k → k < 7 → f k = g k) (hd : 0 ≤ dg f) (h : TyZ P f z) : TyZ P g z := @TyS_cg PZ rgPZ pzco pzK PZ_ok P f g z e hd h
theorem p_type (a p : Int) (m : rz_M) (hI : Inv m) (hb : R32 p) : pairOK y_RC_type y_M_type [rI a, rI p] m := by
  have e400 : rz_up m 221 0 0 400 = m 400 := up_ne (by decide)
  have fin : ∀ z : Int, z = z ∧ Inv (rz_up m 221 0 0) ∧ rz_up m 221 0 0 400 = m 400 := fun z => ⟨rfl, Inv_thr hI, e400⟩
  have hb2 : p < 2147483648 := hb.2
  have rw0 : ∀ j : Int, rwM (rz_up m 221 0 0) a j = rwM m a j := fun j => by unfold rwM; rw [up_ne (by decide)]
  have rwe : rwM (rz_up m 221 0 0) a = rwM m a := funext rw0
  have bad1 : ¬ ((0 ≤ a ∧ a < 10) ∧ p ≤ 997 ∧ tpr p) → rz_C y_M_type [rR 221, rI a, rI p] m (fun r2 m2 => -1 = r2 ∧ Inv m2 ∧ m2 400 = m 400) := fun hn =>
    T_M_type_0 _ _ _ _ (c_M_isRow (fun q1 q2 => b1t (c_M_in (fun s1 s2 => b1t (c_M_isPrime s2 (fun t => absurd ⟨⟨q1, q2⟩, s2, t⟩ hn) (fun _ => b0n (fin _)))) (fun _ => b0t (fin _)))) (fun _ => b0t (fin _)))
  have bad2 : (0 ≤ a ∧ a < 10) → p ≤ 997 → tpr p → ¬ (1 ≤ dg (m (rz_R 1 a)) ∧ sm (m (rz_R 1 a))) → rz_C y_M_type [rR 221, rI a, rI p] m (fun r2 m2 => -2 = r2 ∧ Inv m2 ∧ m2 400 = m 400) := fun q hp t hn =>
    T_M_type_0 _ _ _ _ (c_M_isRow (fun _ _ => b1t (c_M_in (fun _ _ => b1t (c_M_isPrime hp (fun _ => b1n (c_M_isSmall q (fun d s => absurd ⟨by rw [dg_eq hI q]; rwa [rwe] at d, (sm_eq hI q).mpr (by rwa [rwe] at s)⟩ hn) (fun _ => b0t (fin _)))) (fun z => absurd t z))) (fun z => absurd ⟨t.1, hp⟩ z))) (fun z => absurd q z))
  refine T_RC_type_0 _ _ _ _ (c_RC_isRow (fun q1 q2 => b1t (bb (fun z => bad1 (fun w => by have := w.2.1; omega)) (fun z => c_RC_isPrime (by omega) (fun t => b1n ⟨⟨q1, q2⟩, c_RC_isSmall (isL_row ⟨q1, q2⟩) (fun d s => b1n ⟨⟨q1, q2⟩, ?_⟩) (fun n => b0n (bad2 ⟨q1, q2⟩ (by omega) t n))⟩) (fun t => b0n (bad1 (fun w => t w.2.2)))))) (fun q => b0t (bad1 (fun w => q w.1))))
  have hr := And.intro q1 q2
  refine z_RC_typeBy t (by omega) hr d (fun z m1 f1 hz => ?_)
  have e222 : m1 222 = m 222 := f1 222 (by omega)
  have erw : rwM (rz_up m1 221 0 0) a = rwM m a := by unfold rwM; rw [up_ne (by decide), e222]
  have I1 : Inv m1 := Inv_sc hI (fun i hi => f1 i (by omega)) (by rw [f1 221 (by omega)]) (by rw [f1 221 (by omega)]) (by rw [f1 221 (by omega)])
  refine T_M_type_0 _ _ _ _ (c_M_isRow (fun _ _ => b1t (c_M_in (fun _ _ => b1t (c_M_isPrime (by omega) (fun _ => b1n (c_M_isSmall hr (fun d' s' => b1t ?_) (fun n => absurd ⟨by rw [erw, ← dg_eq hI hr]; exact d, by rw [erw]; exact (sm_eq hI hr).mp s⟩ n))) (fun z => absurd t z))) (fun z => absurd ⟨t.1, by omega⟩ z))) (fun z => absurd hr z))
  refine z_M_typeBy t (by omega) hr (z := z) (by rw [erw, ← dg_eq hI hr]; exact d) (TyZ_cg (fun k k0 k1 => by rw [erw]; exact row_eq hI hr ⟨k0, k1⟩) (by omega) hz) (fun m2 sc => ⟨rfl, ?_, ?_⟩)
  · refine Inv_sc I1 (fun i hi => by rw [sc.1 i (by omega), up_ne (by omega)]) ?_ ?_ ?_
    · rw [sc.2 1 (by decide) (by decide), up_nj (by decide)]
    · rw [sc.2 17 (by decide) (by decide), up_nj (by decide)]
    · rw [sc.2 18 (by decide) (by decide), up_nj (by decide)]
  · rw [sc.1 400 (by omega), up_ne (by decide)]
    exact f1 400 (by omega)
/-- how many primes below k have the type t -/
noncomputable def cntT (ζ : Nat → Int) (t : Int) : Nat → Int
  | 0 => 0
  | k + 1 => cntT ζ t k + @ite _ (tpr (k : Int) ∧ ζ k = t) (Classical.propDecidable _) 1 0
theorem cntT_cg {ζ ζ' : Nat → Int} {t : Int} : ∀ k : Nat, (∀ j, j < k → ζ j = ζ' j) → cntT ζ t k = cntT ζ' t k
  | 0, _ => rfl
  | k + 1, h => by
    unfold cntT
    rw [cntT_cg k (fun j hj => h j (by omega)), h k (by omega)]
theorem cntT_y {ζ : Nat → Int} {t : Int} {k : Nat} (h : tpr (k : Int) ∧ ζ k = t) : cntT ζ t (k + 1) = cntT ζ t k + 1 := by
  show cntT ζ t k + @ite Int (tpr (k : Int) ∧ ζ k = t) (Classical.propDecidable _) 1 0 = _
  rw [if_pos h]
theorem cntT_n {ζ : Nat → Int} {t : Int} {k : Nat} (h : ¬ (tpr (k : Int) ∧ ζ k = t)) : cntT ζ t (k + 1) = cntT ζ t k := by
  show cntT ζ t k + @ite Int (tpr (k : Int) ∧ ζ k = t) (Classical.propDecidable _) 1 0 = _
  rw [if_neg h, Int.add_zero]
theorem cntT_b (ζ : Nat → Int) (t : Int) : ∀ k : Nat, 0 ≤ cntT ζ t k ∧ cntT ζ t k ≤ k
  | 0 => ⟨Int.le_refl _, Int.le_refl _⟩
  | k + 1 => by
    have := cntT_b ζ t k
    rcases Classical.em (tpr (k : Int) ∧ ζ k = t) with q | q
    · rw [cntT_y q]; omega
    · rw [cntT_n q]; omega
theorem l_RC_tally {a t n : Int} (hr : 0 ≤ a ∧ a < 10) (hn : n ≤ 997) {m0 : rz_M} (hd : 1 ≤ dg (m0 (rz_R 1 a))) {K : Int → rz_M → Prop} (h : ∀ (ζ : Nat → Int) (m' : rz_M), (∀ i : Nat, (i < 47 ∨ 54 < i) → m' i = m0 i) → (∀ q : Nat, tpr (q : Int) → (q : Int) ≤ n → TyZ q (m0 (rz_R 1 a)) (ζ q)) → K (cntT ζ t (n + 1).toNat) m') : ∀ (r p : Nat) (ζ : Nat → Int) (m : rz_M), n + 1 - p = r → 2 ≤ p → (∀ i : Nat, (i < 47 ∨ 54 < i) → m i = m0 i) → (∀ q : Nat, tpr (q : Int) → q < p → TyZ q (m0 (rz_R 1 a)) (ζ q)) → rz_E y_RC_tally 42 [rR 0, rI a, rI t, rI n, rI (cntT ζ t p), rI p] [] m K
  | 0, p, ζ, m, hp, hp2, hfr, hz => by
    have e : p = (n + 1).toNat := by omega
    refine T_RC_tally_42 _ _ _ _ _ _ _ (bt (by omega) ?_)
    rw [e]
    exact h ζ m hfr (fun q t1 t2 => hz q t1 (by omega))
  | r + 1, p, ζ, m, hp, hp2, hfr, hz => by
    have hR : rz_R 1 a = 2 + a.toNat := rfl
    have cb := cntT_b ζ t p
    have ea : m (rz_R 1 a) = m0 (rz_R 1 a) := hfr _ (by omega)
    have nx : ∀ (ζ' : Nat → Int) (m' : rz_M), (∀ i : Nat, (i < 47 ∨ 54 < i) → m' i = m0 i) → (∀ q : Nat, tpr (q : Int) → q < p + 1 → TyZ q (m0 (rz_R 1 a)) (ζ' q)) → rz_E y_RC_tally 42 [rR 0, rI a, rI t, rI n, rI (cntT ζ' t (p + 1)), rI (w32 ((p : Int) + 1))] [] m' K := fun ζ' m' f' z' => by
      rw [w32_id (by omega) (by omega), show (p : Int) + 1 = ((p + 1 : Nat) : Int) from by omega]
      exact l_RC_tally hr hn hd h r (p + 1) ζ' m' (by omega) (by omega) f' z'
    refine T_RC_tally_42 _ _ _ _ _ _ _ (bf (by omega) (c_RC_isPrime (by omega) (fun tp => b1t ⟨⟨hr.1, hr.2⟩, z_RC_typeBy tp (by omega) hr (by rw [ea]; exact hd) (fun z m1 f1 tz => ?_)⟩) (fun tp => b0t ?_)))
    · rw [ea, show ((p : Int)).toNat = p from by omega] at tz
      have f1' : ∀ i : Nat, (i < 47 ∨ 54 < i) → m1 i = m0 i := fun i hi => (f1 i hi).trans (hfr i hi)
      have cg := cntT_cg (ζ := ζ) (ζ' := fun q => if q = p then z else ζ q) (t := t) p (fun j hj => by show ζ j = if j = p then z else ζ j; rw [if_neg (by omega)])
      have zz : (fun q => if q = p then z else ζ q) p = z := if_pos rfl
      have tz' : ∀ q : Nat, tpr (q : Int) → q < p + 1 → TyZ q (m0 (rz_R 1 a)) ((fun q => if q = p then z else ζ q) q) := fun q t1 t2 => by
        by_cases w : q = p
        · subst w
          rw [zz]; exact tz
        · show TyZ q _ (if q = p then z else ζ q)
          rw [if_neg w]
          exact hz q t1 (by omega)
      refine bb (fun w => ?_) (fun w => ?_)
      · have := nx _ m1 f1' tz'
        rwa [cntT_n (fun y => w (by rw [← y.2]; exact zz.symm)), ← cg] at this
      · have := nx _ m1 f1' tz'
        rw [w32_id (z := cntT ζ t p + 1) (by omega) (by omega)]
        rwa [cntT_y ⟨tp, zz.trans (Classical.not_not.mp w)⟩, ← cg] at this
    · have := nx ζ m hfr (fun q t1 t2 => hz q t1 (by
        have : q ≠ p := fun w => tp (by rw [← w]; exact t1)
        omega))
      rwa [cntT_n (fun y => tp y.1)] at this
theorem scM_rf (m : rz_M) : scM m m := ⟨fun _ _ => rfl, fun _ _ _ => rfl⟩
theorem scM_tr {a b c : rz_M} (h1 : scM a b) (h2 : scM b c) : scM a c := ⟨fun i hi => (h2.1 i hi).trans (h1.1 i hi), fun y u v => (h2.2 y u v).trans (h1.2 y u v)⟩
theorem l_M_tally {a t n : Int} (hr : 0 ≤ a ∧ a < 10) (hn : n ≤ 997) {m0 : rz_M} {ζ : Nat → Int} (hd : 1 ≤ dg (rwM m0 a)) (hz : ∀ q : Nat, tpr (q : Int) → (q : Int) ≤ n → TyZ q (rwM m0 a) (ζ q)) {K : Int → rz_M → Prop} (h : ∀ m' : rz_M, scM m0 m' → K (cntT ζ t (n + 1).toNat) m') : ∀ (r p : Nat) (m : rz_M), n + 1 - p = r → 2 ≤ p → scM m0 m → rz_E y_M_tally 46 [rR 221, rI a, rI t, rI n, rI (cntT ζ t p), rI p] [] m K
  | 0, p, m, hp, hp2, hs => by
    have e : p = (n + 1).toNat := by omega
    refine T_M_tally_46 _ _ _ _ _ _ _ (bt (by omega) ?_)
    rw [e]
    exact h m hs
  | r + 1, p, m, hp, hp2, hs => by
    have cb := cntT_b ζ t p
    have ea : rwM m a = rwM m0 a := by unfold rwM; rw [hs.1 222 (by omega)]
    have e0 : w32 (cntT ζ t p + 0) = cntT ζ t p := by rw [w32_id (by omega) (by omega), Int.add_zero]
    have nx : ∀ m' : rz_M, scM m0 m' → rz_E y_M_tally 46 [rR 221, rI a, rI t, rI n, rI (cntT ζ t (p + 1)), rI (w32 ((p : Int) + 1))] [] m' K := fun m' s' => by
      rw [w32_id (by omega) (by omega), show (p : Int) + 1 = ((p + 1 : Nat) : Int) from by omega]
      exact l_M_tally hr hn hd hz h r (p + 1) m' (by omega) (by omega) s'
    refine T_M_tally_46 _ _ _ _ _ _ _ (bf (by omega) (c_M_isPrime (by omega) (fun tp => b1t (z_M_typeBy tp (by omega) hr (z := ζ p) (by rw [ea]; exact hd) (by rw [ea, show ((p : Int)).toNat = p from by omega]; exact hz p tp (by omega)) (fun m1 s1 => ?_))) (fun tp => b0t ?_)))
    · have s2 := scM_tr hs s1
      refine bb (fun w => ?_) (fun w => ?_)
      · rw [e0]
        have := nx m1 s2
        rwa [cntT_n (fun y => w y.2)] at this
      · rw [w32_id (z := cntT ζ t p + 1) (by omega) (by omega)]
        have := nx m1 s2
        rwa [cntT_y ⟨tp, Classical.not_not.mp w⟩] at this
    · rw [e0]
      have := nx m hs
      rwa [cntT_n (fun y => tp y.1)] at this
theorem cntT_2 (ζ : Nat → Int) (t : Int) : cntT ζ t 2 = 0 := by
  rw [cntT_n (k := 1) (fun y => by have := y.1.1; omega), cntT_n (k := 0) (fun y => by have := y.1.1; omega)]
  rfl
theorem p_tally (a t n : Int) (m : rz_M) (hI : Inv m) (hb : R32 n) : pairOK y_RC_tally y_M_tally [rI a, rI t, rI n] m := by
  have fin : ∀ z : Int, z = z ∧ Inv (rz_up m 221 0 0) ∧ rz_up m 221 0 0 400 = m 400 := fun z => ⟨rfl, Inv_thr hI, up_ne (by decide)⟩
  have rwe : rwM (rz_up m 221 0 0) a = rwM m a := by unfold rwM; rw [up_ne (by decide)]
  have bad1 : ¬ ((0 ≤ a ∧ a < 10) ∧ 2 ≤ n ∧ n ≤ 997) → rz_C y_M_tally [rR 221, rI a, rI t, rI n] m (fun r2 m2 => -1 = r2 ∧ Inv m2 ∧ m2 400 = m 400) := fun hn =>
    T_M_tally_0 _ _ _ _ _ (c_M_isRow (fun q1 q2 => b1t (c_M_in (fun s1 s2 => absurd ⟨⟨q1, q2⟩, s1, s2⟩ hn) (fun _ => b0n (fin _)))) (fun _ => b0t (fin _)))
  have bad2 : (0 ≤ a ∧ a < 10) → 2 ≤ n → n ≤ 997 → ¬ (1 ≤ dg (m (rz_R 1 a)) ∧ sm (m (rz_R 1 a))) → rz_C y_M_tally [rR 221, rI a, rI t, rI n] m (fun r2 m2 => -2 = r2 ∧ Inv m2 ∧ m2 400 = m 400) := fun q h1 h2 hn =>
    T_M_tally_0 _ _ _ _ _ (c_M_isRow (fun _ _ => b1t (c_M_in (fun _ _ => b1n (c_M_isSmall q (fun d s => absurd ⟨by rw [dg_eq hI q]; rwa [rwe] at d, (sm_eq hI q).mpr (by rwa [rwe] at s)⟩ hn) (fun _ => b0n (fin _)))) (fun z => absurd ⟨h1, h2⟩ z))) (fun z => absurd q z))
  refine T_RC_tally_0 _ _ _ _ _ (c_RC_isRow (fun q1 q2 => b1t (bb (fun z => bad1 (fun w => by omega)) (fun z => bb (fun z2 => ⟨⟨q1, q2⟩, c_RC_isSmall (isL_row ⟨q1, q2⟩) (fun d s => b1n ?_) (fun w => b0n (bad2 ⟨q1, q2⟩ (by omega) z2 w))⟩) (fun z2 => bad1 (fun w => by omega))))) (fun q => b0t (bad1 (fun w => q w.1))))
  have hr := And.intro q1 q2
  have go := l_RC_tally (t := t) hr z2 d (K := fun r1 m1 => rz_C y_M_tally [rR 221, rI a, rI t, rI n] m1 (fun r2 m2 => r1 = r2 ∧ Inv m2 ∧ m2 400 = m 400)) (fun ζ m1 f1 hz => ?_) (n + 1 - 2).toNat 2 (fun _ => 0) m (by omega) (by decide) (fun _ _ => rfl) (fun q t1 t2 => by have := t1.1; omega)
  · rwa [cntT_2] at go
  · have e222 : m1 222 = m 222 := f1 222 (by omega)
    have erw : rwM (rz_up m1 221 0 0) a = rwM m a := by unfold rwM; rw [up_ne (by decide), e222]
    have I1 : Inv m1 := Inv_sc hI (fun i hi => f1 i (by omega)) (by rw [f1 221 (by omega)]) (by rw [f1 221 (by omega)]) (by rw [f1 221 (by omega)])
    refine T_M_tally_0 _ _ _ _ _ (c_M_isRow (fun _ _ => b1t (c_M_in (fun _ _ => b1n (c_M_isSmall hr (fun _ _ => b1n ?_) (fun w => absurd ⟨by rw [erw, ← dg_eq hI hr]; exact d, by rw [erw]; exact (sm_eq hI hr).mp s⟩ w))) (fun w => absurd ⟨by omega, z2⟩ w))) (fun w => absurd hr w))
    have g2 := l_M_tally (t := t) (m0 := rz_up m1 221 0 0) (ζ := ζ) hr z2 (by rw [erw, ← dg_eq hI hr]; exact d) (fun q t1 t2 => TyZ_cg (fun k k0 k1 => by rw [erw]; exact row_eq hI hr ⟨k0, k1⟩) (by omega) (hz q t1 t2)) (K := fun r2 m2 => cntT ζ t (n + 1).toNat = r2 ∧ Inv m2 ∧ m2 400 = m 400) (fun m2 sc => ⟨rfl, ?_, ?_⟩) (n + 1 - 2).toNat 2 (rz_up m1 221 0 0) (by omega) (by decide) (scM_rf _)
    · rwa [cntT_2] at g2
    · refine Inv_sc I1 (fun i hi => by rw [sc.1 i (by omega), up_ne (by omega)]) ?_ ?_ ?_
      · rw [sc.2 1 (by decide) (by decide), up_nj (by decide)]
      · rw [sc.2 17 (by decide) (by decide), up_nj (by decide)]
      · rw [sc.2 18 (by decide) (by decide), up_nj (by decide)]
    · rw [sc.1 400 (by omega), up_ne (by decide)]
      exact f1 400 (by omega)
