/-! Splitter: the divisors of a number are listed -/
def cnt (S : Int) : Nat → Nat
  | 0 => 0
  | n + 1 => cnt S n + if ((n + 1 : Nat) : Int) ∣ S then 1 else 0
theorem cnt_le (S : Int) : ∀ n, cnt S n ≤ n
  | 0 => Nat.le_refl _
  | n + 1 => by
    have := cnt_le S n
    unfold cnt
    split <;> omega
theorem cnt_s (S : Int) (n : Nat) : cnt S (n + 1) ≤ cnt S n + 1 := by
  rw [cnt]
  split <;> omega
theorem cnt_m (S : Int) (n : Nat) : cnt S n ≤ cnt S (n + 1) := by
  rw [cnt]
  omega
theorem cnt_n {S : Int} {n : Nat} (h : ¬ ((n + 1 : Nat) : Int) ∣ S) : cnt S (n + 1) = cnt S n := by
  rw [cnt, if_neg h]
  rfl
theorem cnt_y {S : Int} {n : Nat} (h : ((n + 1 : Nat) : Int) ∣ S) : cnt S (n + 1) = cnt S n + 1 := by
  rw [cnt, if_pos h]
theorem win {S k : Int} (hk : 36 ≤ k) (h0 : 0 < S) (hS : S ≤ 20000) (h1 : k ∣ S) (h2 : k + 1 ∣ S) (h3 : k + 2 ∣ S) : False := by
  obtain ⟨x, hx⟩ := h1
  obtain ⟨y, hy⟩ := h2
  obtain ⟨z, hz⟩ := h3
  have e1 : y = k * (x - y) := by rw [Int.mul_sub]; rw [Int.add_mul, Int.one_mul] at hy; omega
  generalize x - y = t at e1
  have e2 : S = (k + 1) * (k * t) := by rw [← e1]; exact hy
  have e3 : 2 * t = (k + 2) * (z - (k - 1) * t) := by
    have : (k + 2) * z = (k + 1) * (k * t) := by rw [← hz, e2]
    rw [Int.mul_sub, this]
    grind
  have kn : 0 < (k + 1) * k := Int.mul_pos (by omega) (by omega)
  have tp : 0 < t := by
    refine Classical.byContradiction fun q => ?_
    have : (k + 1) * (k * t) ≤ 0 := by
      rw [← Int.mul_assoc]
      exact Int.mul_nonpos_of_nonneg_of_nonpos (Int.le_of_lt kn) (by omega)
    omega
  have t2 : k + 2 ≤ 2 * t := Int.le_of_dvd (by omega) ⟨_, e3⟩
  have b1 : 37 * 36 ≤ (k + 1) * k := Int.mul_le_mul (by omega) hk (by decide) (by omega)
  have b2 : 37 * 36 * 19 ≤ (k + 1) * k * t := Int.mul_le_mul b1 (by omega) (by decide) (Int.le_of_lt kn)
  rw [Int.mul_assoc (k + 1)] at b2
  omega
theorem cnt_w {S : Int} (h0 : 0 < S) (hS : S ≤ 20000) : ∀ j : Nat, cnt S (35 + 3 * j) ≤ 35 + 2 * j
  | 0 => cnt_le S 35
  | j + 1 => by
    have ih := cnt_w h0 hS j
    rw [show 35 + 3 * (j + 1) = 35 + 3 * j + 1 + 1 + 1 from by omega]
    have s1 := cnt_s S (35 + 3 * j)
    have s2 := cnt_s S (35 + 3 * j + 1)
    have s3 := cnt_s S (35 + 3 * j + 1 + 1)
    by_cases q1 : ((35 + 3 * j + 1 : Nat) : Int) ∣ S
    · by_cases q2 : ((35 + 3 * j + 1 + 1 : Nat) : Int) ∣ S
      · by_cases q3 : ((35 + 3 * j + 1 + 1 + 1 : Nat) : Int) ∣ S
        · exfalso
          refine win (k := ((35 + 3 * j + 1 : Nat) : Int)) (by omega) h0 hS q1 ?_ ?_
          · rwa [show ((35 + 3 * j + 1 : Nat) : Int) + 1 = ((35 + 3 * j + 1 + 1 : Nat) : Int) from by omega]
          · rwa [show ((35 + 3 * j + 1 : Nat) : Int) + 2 = ((35 + 3 * j + 1 + 1 + 1 : Nat) : Int) from by omega]
        · have := cnt_n (n := 35 + 3 * j + 1 + 1) q3
          omega
      · have := cnt_n (n := 35 + 3 * j + 1) q2
        omega
    · have := cnt_n (n := 35 + 3 * j) q1
      omega
theorem cnt_mm (S : Int) (n : Nat) : ∀ r : Nat, cnt S n ≤ cnt S (n + r)
  | 0 => Nat.le_refl _
  | r + 1 => Nat.le_trans (cnt_mm S n r) (cnt_m S (n + r))
theorem cnt_140 {S : Int} (h0 : 0 < S) (hS : S ≤ 20000) {n : Nat} (hn : n ≤ 140) : cnt S n ≤ 105 := by
  have a := cnt_mm S n (140 - n)
  rw [show n + (140 - n) = 35 + 3 * 35 from by omega] at a
  have b := cnt_w h0 hS 35
  omega
theorem cnt_141 {S : Int} (h0 : 0 < S) (hS : S ≤ 20000) {n : Nat} (hn : n ≤ 141) : cnt S n ≤ 106 := by
  have a := cnt_mm S n (141 - n)
  have b := cnt_140 h0 hS (n := 140) (by decide)
  have c := cnt_s S 140
  rw [show n + (141 - n) = 140 + 1 from by omega] at a
  omega
theorem ld_step {e S d : Int} (h1 : 0 < e) (hd : 1 ≤ d) (hS : e ∣ S) (h : e < d + 1 ∨ S < e * (d + 1)) : (e < d ∨ S < e * d) ∨ e = d ∨ S = e * d := by
  by_cases q : e < d
  · exact Or.inl (Or.inl q)
  · by_cases q2 : e = d
    · exact Or.inr (Or.inl q2)
    · obtain ⟨s, hs⟩ := hS
      have h' : e * s < e * (d + 1) := by rw [← hs]; omega
      have sl := Int.lt_of_mul_lt_mul_left h' (by omega)
      by_cases w : s = d
      · exact Or.inr (Or.inr (by rw [← w]; exact hs))
      · refine Or.inl (Or.inr ?_)
        rw [hs]
        exact Int.mul_lt_mul_of_pos_left (by omega) h1
theorem l_Sp_ld12 {a : Nat} (hk : (rz_isK a 0 || rz_isK a 1 || rz_isK a 2 || rz_isK a 3) = true) (hl : rz_isK a 1 = true) (hl5 : rz_len a = 512) {sgn S : Int} (S1 : 0 < S) (S2 : S ≤ 20000) {m0 : rz_M} {K : Int → rz_M → Prop}
    (h : ∀ (p : Int) (m' : rz_M), (∀ i, i ≠ a → m' i = m0 i) → 0 ≤ p → p ≤ 212 → (∀ i : Int, 0 ≤ i → i < p → 0 < m' a i ∧ m' a i ∣ S) → (∀ e : Int, 0 < e → e ∣ S → ∃ i : Int, 0 ≤ i ∧ i < p ∧ m' a i = e) → rz_E y_Sp_listDivisors 90 [rX 0, rX 0, rR a, rI sgn, rX 0, rX 0, rI p, rI p, rI 0] [] m' K) : ∀ (r : Nat) (d p : Int) (m : rz_M), 142 - d = r → 1 ≤ d → (∀ i, i ≠ a → m i = m0 i) → 0 ≤ p → p ≤ 2 * (cnt S (d - 1).toNat : Int) → (∀ i : Int, 0 ≤ i → i < p → 0 < m a i ∧ m a i ∣ S) → (∀ e : Int, 0 < e → e ∣ S → e < d ∨ S < e * d → ∃ i : Int, 0 ≤ i ∧ i < p ∧ m a i = e) → rz_E y_Sp_listDivisors 12 [rX 0, rX 0, rR a, rI sgn, rL S, rX 1, rI p, rL d, rX 1] [] m K := by
  intro r
  -- the end
  have fin : ∀ (d p : Int) (m : rz_M), d ≤ 142 → 1 ≤ d → S < d * d → (∀ i, i ≠ a → m i = m0 i) → 0 ≤ p → p ≤ 2 * (cnt S (d - 1).toNat : Int) → (∀ i : Int, 0 ≤ i → i < p → 0 < m a i ∧ m a i ∣ S) → (∀ e : Int, 0 < e → e ∣ S → e < d ∨ S < e * d → ∃ i : Int, 0 ≤ i ∧ i < p ∧ m a i = e) → rz_E y_Sp_listDivisors 90 [rX 0, rX 0, rR a, rI sgn, rX 0, rX 0, rI p, rI p, rI 0] [] m K := fun d p m d2 d1 hS hf p0 pc hv hc => by
    have c1 := cnt_141 S1 S2 (n := (d - 1).toNat) (by omega)
    refine h p m hf p0 (by omega) hv (fun e e0 eS => hc e e0 eS ?_)
    by_cases q : e < d
    · exact Or.inl q
    · refine Or.inr (Int.lt_of_lt_of_le hS ?_)
      exact Int.mul_le_mul_of_nonneg_right (by omega) (by omega)
  have dd : ∀ d : Int, 1 ≤ d → d ≤ 142 → w64 (d * d) = d * d := fun d d1 d2 => by
    have u := Int.mul_le_mul d2 d2 (by omega) (by decide)
    have l := Int.mul_nonneg (a := d) (b := d) (by omega) (by omega)
    exact w64_id (by omega) (by omega)
  induction r with
  | zero =>
    intro d p m hr hd hf p0 pc hv hc
    have ed : d = 142 := by omega
    subst ed
    exact T_Sp_listDivisors_12 _ _ _ _ _ _ _ (bt (by rw [dd 142 (by decide) (by decide)]; omega) (fin 142 p m (by decide) hd (by omega) hf p0 pc hv hc))
  | succ r ih =>
    intro d p m hr hd hf p0 pc hv hc
    have d2 : d ≤ 142 := by omega
    have d3 : d ≤ 141 := by omega
    refine T_Sp_listDivisors_12 _ _ _ _ _ _ _ ?_
    rw [dd d hd d2, hl5]
    have c1 := cnt_141 S1 S2 (n := (d - 1).toNat) (by omega)
    have et : (d + 1 - 1).toNat = (d - 1).toNat + 1 := by omega
    have en : (((d - 1).toNat + 1 : Nat) : Int) = d := by omega
    have cm := cnt_m S (d - 1).toNat
    refine bb (fun q => fin d p m d2 hd q hf p0 pc hv hc) (fun q => ⟨hk, ?_⟩)
    rw [w32_id (by omega) (by omega)]
    refine bf (by omega) ⟨by omega, bb (fun nd => ?_) (fun yd => ?_)⟩
    · have ndv : ¬ d ∣ S := fun z => nd (Int.tmod_eq_zero_of_dvd z)
      refine T_Sp_listDivisors_74 _ _ _ _ _ _ _ ?_
      rw [w64_id (by omega) (by omega)]
      refine ih (d + 1) p m (by omega) (by omega) hf p0 (by rw [et]; omega) hv (fun e e0 eS he => ?_)
      rcases ld_step e0 hd eS he with z | z | z
      · exact hc e e0 eS z
      · exact absurd (z ▸ eS) ndv
      · exact absurd ⟨e, by rw [z, Int.mul_comm]⟩ ndv
    · have dv : d ∣ S := Int.dvd_of_tmod_eq_zero (Classical.not_not.mp yd)
      have cy := cnt_y (S := S) (n := (d - 1).toNat) (by rw [en]; exact dv)
      obtain ⟨t, ht⟩ := dv
      have tp : 0 < t := by
        refine Classical.byContradiction fun w => ?_
        have := Int.mul_nonpos_of_nonneg_of_nonpos (show (0 : Int) ≤ d by omega) (show t ≤ 0 by omega)
        omega
      have tS : t ≤ S := Int.le_of_dvd S1 ⟨d, by rw [ht, Int.mul_comm]⟩
      have etd : Int.tdiv S d = t := Int.tdiv_eq_of_eq_mul_right (by omega) ht
      rw [etd, w64_id (z := t) (by omega) (by omega), w32_id (z := p + 1) (by omega) (by omega), w32_id (z := p + 1 + 1) (by omega) (by omega)]
      refine ⟨hl, ⟨by omega, by omega⟩, bb (fun qe => ?_) (fun qe => ⟨by omega, hl, ⟨by omega, by omega⟩, ?_⟩)⟩
      · refine T_Sp_listDivisors_74 _ _ _ _ _ _ _ ?_
        rw [w64_id (by omega) (by omega)]
        refine ih (d + 1) (p + 1) _ (by omega) (by omega) (fun i hi => by rw [up_ne hi]; exact hf i hi) (by omega) (by rw [et]; omega) (fun i i0 i1 => ?_) (fun e e0 eS he => ?_)
        · by_cases w : i = p
          · rw [w, up_eq]; exact ⟨by omega, ⟨t, ht⟩⟩
          · rw [up_nj w]; exact hv i i0 (by omega)
        · have new : e = d → ∃ i : Int, 0 ≤ i ∧ i < p + 1 ∧ rz_up m a p d a i = e := fun z => ⟨p, p0, by omega, by rw [up_eq]; exact z.symm⟩
          rcases ld_step e0 hd eS he with z | z | z
          · obtain ⟨i, i0, i1, i2⟩ := hc e e0 eS z
            exact ⟨i, i0, by omega, by rw [up_nj (by omega)]; exact i2⟩
          · exact new z
          · refine new (Int.eq_of_mul_eq_mul_right (show d ≠ 0 by omega) ?_)
            omega
      · refine T_Sp_listDivisors_74 _ _ _ _ _ _ _ ?_
        rw [w64_id (by omega) (by omega)]
        refine ih (d + 1) (p + 1 + 1) _ (by omega) (by omega) (fun i hi => by rw [up_ne hi, up_ne hi]; exact hf i hi) (by omega) (by rw [et]; omega) (fun i i0 i1 => ?_) (fun e e0 eS he => ?_)
        · by_cases w : i = p + 1
          · rw [w, up_eq]; exact ⟨tp, ⟨d, by rw [ht, Int.mul_comm]⟩⟩
          · rw [up_nj w]
            by_cases w2 : i = p
            · rw [w2, up_eq]; exact ⟨by omega, ⟨t, ht⟩⟩
            · rw [up_nj w2]; exact hv i i0 (by omega)
        · rcases ld_step e0 hd eS he with z | z | z
          · obtain ⟨i, i0, i1, i2⟩ := hc e e0 eS z
            exact ⟨i, i0, by omega, by rw [up_nj (by omega), up_nj (by omega)]; exact i2⟩
          · exact ⟨p, p0, by omega, by rw [up_nj (by omega), up_eq]; exact z.symm⟩
          · refine ⟨p + 1, by omega, by omega, ?_⟩
            rw [up_eq]
            refine Int.eq_of_mul_eq_mul_right (show d ≠ 0 by omega) ?_
            rw [← z, ht, Int.mul_comm]
theorem l_Sp_ld90 {a : Nat} (hk : (rz_isK a 0 || rz_isK a 1 || rz_isK a 2 || rz_isK a 3) = true) (hl : rz_isK a 1 = true) (hl5 : rz_len a = 512) {p : Int} (p2 : p ≤ 212) {m1 : rz_M} (hb : ∀ i : Int, 0 ≤ i → i < p → bd (m1 a i) 20000) {K : Int → rz_M → Prop}
    (h : ∀ (m' : rz_M), (∀ i, i ≠ a → m' i = m1 i) → (∀ i : Int, 0 ≤ i → i < p → m' a i = m1 a i) → (∀ i : Int, 0 ≤ i → i < p → m' a (p + i) = -(m1 a i)) → K (2 * p) m') : ∀ (r : Nat) (j : Int) (m : rz_M), p - j = r → 0 ≤ j → (∀ i, i ≠ a → m i = m1 i) → (∀ i : Int, 0 ≤ i → i < p → m a i = m1 a i) → (∀ i : Int, 0 ≤ i → i < j → m a (p + i) = -(m1 a i)) → rz_E y_Sp_listDivisors 90 [rX 0, rX 0, rR a, rI 1, rX 0, rX 0, rI (p + j), rI p, rI j] [] m K := by
  intro r
  induction r with
  | zero =>
    intro j m hr hj hf h1 h2
    have e : j = p := by omega
    subst e
    refine T_Sp_listDivisors_90 _ _ _ _ _ _ _ (bf (by decide) (bt (by omega) ?_))
    rw [show j + j = 2 * j from by omega]
    exact h m hf h1 h2
  | succ r ih =>
    intro j m hr hj hf h1 h2
    have bj := hb j hj (by omega)
    unfold bd at bj
    refine T_Sp_listDivisors_90 _ _ _ _ _ _ _ (bf (by decide) (bf (by omega) ⟨hk, ?_⟩))
    rw [hl5, h1 j hj (by omega), w64_id (by omega) (by omega), w32_id (by omega) (by omega), w32_id (by omega) (by omega), show p + j + 1 = p + (j + 1) from by omega]
    refine bf (by omega) ⟨hl, ⟨by omega, by omega⟩, hl, ⟨by omega, by omega⟩, ih (j + 1) _ (by omega) (by omega) (fun i hi => by rw [up_ne hi]; exact hf i hi) (fun i i0 i1 => by rw [up_nj (by omega)]; exact h1 i i0 i1) (fun i i0 i1 => ?_)⟩
    by_cases w : i = j
    · rw [w, up_eq]
    · rw [up_nj (by omega)]; exact h2 i i0 (by omega)
theorem c_Sp_listDivisors {a : Nat} (hk : (rz_isK a 0 || rz_isK a 1 || rz_isK a 2 || rz_isK a 3) = true) (hl : rz_isK a 1 = true) (hl5 : rz_len a = 512) {sgn v : Int} (hs : sgn = 0 ∨ sgn = 1) (hv : v ≠ 0) (hb : bd v 20000) {m : rz_M} {K : Int → rz_M → Prop}
    (h : ∀ (p : Int) (m' : rz_M), (∀ i, i ≠ a → m' i = m i) → 0 ≤ p → p ≤ 424 → (∀ i : Int, 0 ≤ i → i < p → m' a i ∣ v ∧ (sgn = 0 → 0 < m' a i) ∧ m' a i ≠ 0 ∧ bd (m' a i) 20000) → (∀ e : Int, e ∣ v → (sgn = 0 → 0 < e) → ∃ i : Int, 0 ≤ i ∧ i < p ∧ m' a i = e) → K p m') : rz_C y_Sp_listDivisors [rL v, rR a, rI sgn] m K := by
  unfold bd at hb
  refine T_Sp_listDivisors_0 _ _ _ _ _ ?_
  obtain ⟨S, eS, S1, S2, S3⟩ : ∃ S : Int, rz_abs v = S ∧ 0 < S ∧ S ≤ 20000 ∧ (∀ e : Int, e ∣ S ↔ e ∣ v) := by
    unfold rz_abs
    by_cases q : 0 < v
    · exact ⟨v, if_pos q, q, hb.2, fun e => Iff.rfl⟩
    · refine ⟨-v, by rw [if_neg q]; exact w64_id (by omega) (by omega), by omega, by omega, fun e => Int.dvd_neg⟩
  rw [eS]
  refine l_Sp_ld12 hk hl hl5 S1 S2 (m0 := m) (fun p m1 f1 p0 p2 v1 c1 => ?_) 141 1 0 m (by decide) (by decide) (fun _ _ => rfl) (by decide) (by omega) (fun i i0 i1 => by omega) (fun e e0 eS he => ?_)
  · have b1 : ∀ i : Int, 0 ≤ i → i < p → bd (m1 a i) 20000 := fun i i0 i1 => by
      have x := v1 i i0 i1
      have := Int.le_of_dvd S1 x.2
      exact ⟨by omega, by omega⟩
    rcases hs with s0 | s1
    · subst s0
      refine T_Sp_listDivisors_90 _ _ _ _ _ _ _ (bt rfl (h p m1 f1 p0 (by omega) (fun i i0 i1 => ?_) (fun e e1 e2 => c1 e (e2 rfl) ((S3 e).mpr e1))))
      have x := v1 i i0 i1
      exact ⟨(S3 _).mp x.2, fun _ => x.1, by omega, b1 i i0 i1⟩
    · subst s1
      have lz := l_Sp_ld90 hk hl hl5 p2 (m1 := m1) b1 (K := K) (fun m' f' g1 g2 => h (2 * p) m' (fun i hi => by rw [f' i hi]; exact f1 i hi) (by omega) (by omega) (fun i i0 i1 => ?_) (fun e e1 _ => ?_)) p.toNat 0 m1 (by omega) (by decide) (fun _ _ => rfl) (fun _ _ _ => rfl) (fun i i0 i1 => by omega)
      · rwa [Int.add_zero] at lz
      · by_cases w : i < p
        · have x := v1 i i0 w
          rw [g1 i i0 w]
          exact ⟨(S3 _).mp x.2, fun z => absurd z (by decide), by omega, b1 i i0 w⟩
        · have x := v1 (i - p) (by omega) (by omega)
          have b := b1 (i - p) (by omega) (by omega)
          rw [show i = p + (i - p) from by omega, g2 (i - p) (by omega) (by omega)]
          unfold bd at b ⊢
          exact ⟨Int.neg_dvd.mpr ((S3 _).mp x.2), fun z => absurd z (by decide), by omega, by omega, by omega⟩
      · have e0 : e ≠ 0 := fun z => hv (by obtain ⟨t, ht⟩ := e1; rw [ht, z, Int.zero_mul])
        by_cases w : 0 < e
        · obtain ⟨i, i0, i1, i2⟩ := c1 e w ((S3 e).mpr e1)
          exact ⟨i, i0, by omega, by rw [g1 i i0 i1]; exact i2⟩
        · obtain ⟨i, i0, i1, i2⟩ := c1 (-e) (by omega) ((S3 _).mpr (Int.neg_dvd.mpr e1))
          exact ⟨p + i, by omega, by omega, by rw [g2 i i0 i1, i2]; omega⟩
  · exfalso
    rw [Int.mul_one] at he
    have := Int.le_of_dvd S1 eS
    omega
