/-! the reference by a prime: products by the one at hand, powers of p -/
section
variable {R : Type}
/-- one row of a product, as rests -/
def mmI (a b : Int → Int) (P i n : Int) (f : Int → Int) : Int → Int := fun y => if i ≤ y ∧ y < i + n then (f y + a i * b (y - i)) % P else f y
def mmO (a b : Int → Int) (P D : Int) : Nat → (Int → Int)
  | 0 => fun _ => 0
  | n + 1 => mmI a b P n D (mmO a b P D n)
theorem mmI_rng {a b f : Int → Int} {P i n l : Int} (hP : 0 < P) (hf : rng f l P) : rng (mmI a b P i n f) l P := fun k k0 k1 => by
  unfold mmI
  split
  · exact emod_rng hP
  · exact hf k k0 k1
theorem mmO_rng {a b : Int → Int} {P D l : Int} (hP : 0 < P) : ∀ n : Nat, rng (mmO a b P D n) l P
  | 0 => fun _ _ _ => ⟨Int.le_refl _, hP⟩
  | n + 1 => mmI_rng hP (mmO_rng hP n)
theorem mmI_up {a b f : Int → Int} {P i n : Int} (hn : 0 ≤ n) : upf (mmI a b P i n f) (i + n) ((f (i + n) + a i * b n) % P) = mmI a b P i (n + 1) f := by
  funext y
  unfold upf mmI
  by_cases z : y = i + n
  · subst z
    rw [if_pos rfl, if_pos ⟨by omega, by omega⟩, show i + n - i = n from by omega]
  · rw [if_neg z]
    by_cases w : i ≤ y ∧ y < i + n
    · rw [if_pos w, if_pos ⟨w.1, by omega⟩]
    · rw [if_neg w, if_neg (by omega)]
theorem mmO_sem [Lean.Grind.CommRing R] {co : R → Nat → Int} {mk : Nat → (Nat → Int) → R} (H : PolyR co mk) {P : Int} {a b : Int → Int} {D : Nat} : ∀ n : Nat, n + D ≤ 14 → dvp co P (pR mk n a * pR mk D b - pR mk 13 (mmO a b P D n))
  | 0, _ => by
    have e : pR mk 13 (mmO a b P D 0) = 0 := H.1 _ _ (fun k => by
      rw [co_pR H, co_zero H]
      split <;> rfl)
    rw [e, pR_0 H, show ∀ x : R, 0 * x - 0 = 0 from fun x => by grind]
    exact dvp_zero H
  | n + 1, hn => by
    have ih := mmO_sem H (P := P) (a := a) (b := b) (D := D) n (by omega)
    have st : dvp co P (mo mk n (a n) * pR mk D b + pR mk 13 (mmO a b P D n) - pR mk 13 (mmO a b P D (n + 1))) := fun k => by
      rw [co_sub H, H.2.1, co_momul H, co_pR H, co_pR H, co_pR H]
      show P ∣ _ + _ - (if k < 13 then mmI a b P n D (mmO a b P D n) k else 0)
      unfold mmI
      by_cases z : n ≤ k
      · rw [if_pos z]
        by_cases w : k - n < D
        · rw [if_pos w, if_pos (show k < 13 by omega), if_pos (show k < 13 by omega), if_pos ⟨by omega, by omega⟩, show ((k - n : Nat) : Int) = (k : Int) - n from by omega]
          have := emod_dvd (mmO a b P D n k + a n * b ((k : Int) - n)) P
          rwa [show a n * b ((k : Int) - n) + mmO a b P D n k - (mmO a b P D n k + a n * b ((k : Int) - n)) % P = mmO a b P D n k + a n * b ((k : Int) - n) - (mmO a b P D n k + a n * b ((k : Int) - n)) % P from by omega]
        · rw [if_neg w, Int.mul_zero]
          by_cases z3 : k < 13
          · rw [if_pos z3, if_pos z3, if_neg (by omega)]
            exact ⟨0, by omega⟩
          · rw [if_neg z3, if_neg z3]
            exact ⟨0, by omega⟩
      · rw [if_neg z]
        by_cases z3 : k < 13
        · rw [if_pos z3, if_pos z3, if_neg (by omega)]
          exact ⟨0, by omega⟩
        · rw [if_neg z3, if_neg z3]
          exact ⟨0, by omega⟩
    have := dvp_add H ih st
    rw [pR_succ H]
    rwa [show ∀ x d y m n : R, x * d - m + (y * d + m - n) = (x + y) * d - n from fun x d y m n => by grind] at this
theorem l_M_mu2 {a b : Nat} {m : rz_M} {K : Int → rz_M → Prop} (h : rz_E y_M_multiply 23 [rR 221, rR a, rR b, rI 0, rX 0, rX 0, rX 0, rX 0, rX 0] [] (wr m 241 13 (fun _ => 0)) K) : ∀ (d : Nat) (j : Int), 13 - j = d → 0 ≤ j → rz_E y_M_multiply 2 [rR 221, rR a, rR b, rI j, rX 0, rX 0, rX 0, rX 0, rX 0] [] (wr m 241 j (fun _ => 0)) K
  | 0, j, hd, hj => by
    have e : j = 13 := by omega
    subst e
    exact T_M_multiply_2 _ _ _ _ _ (bt (by decide) h)
  | d + 1, j, hd, hj => by
    refine T_M_multiply_2 _ _ _ _ _ (bf (by omega) ⟨⟨hj, by omega⟩, ?_⟩)
    rw [wr_succ hj rfl, w32_id (by omega) (by omega)]
    exact l_M_mu2 h d (j + 1) (by omega) (by omega)
theorem l_M_mu34 {P : Nat} (hP : okP P) {a b : Nat} (ha : isL a 7) (hb : isL b 7) (ha241 : a ≠ 241) (hb241 : b ≠ 241) {D : Nat} (hD : D ≤ 6) {i : Int} (hi : 0 ≤ i ∧ i < D) {m : rz_M} (hm : m 221 25 = P) (hmd : m 221 27 = D) (hra : rng (m a) 7 P) (hrb : rng (m b) 7 P) {f : Int → Int} (hf : rng f 13 P) {K : Int → rz_M → Prop}
    (h : rz_E y_M_multiply 23 [rR 221, rR a, rR b, rI (i + 1), rX 0, rX 0, rX 0, rX 0, rX 0] [] (wr m 241 13 (mmI (m a) (m b) P i D f)) K) : ∀ (d : Nat) (k : Int), D - k = d → 0 ≤ k → rz_E y_M_multiply 34 [rR 221, rR a, rR b, rI i, rI k, rX 0, rX 0, rX 0, rX 0] [] (wr m 241 13 (mmI (m a) (m b) P i k f)) K
  | 0, k, hd, hk => by
    have e : k = D := by omega
    subst e
    refine T_M_multiply_34 _ _ _ _ _ _ (bt (by rw [wr_ne (by decide), hmd]; omega) ?_)
    rw [w32_id (by omega) (by omega)]
    exact h
  | d + 1, k, hd, hk => by
    have p2 := hP.1.1
    have p3 := hP.2
    have la := ha.2
    have lb := hb.2
    have r1 := hf (i + k) (by omega) (by omega)
    have r2 := mul_lt_k (P := P) (by omega) (hra i hi.1 (by omega)) (hrb k hk (by omega))
    have e1 : mmI (m a) (m b) P i k f (i + k) = f (i + k) := by
      unfold mmI
      rw [if_neg (by omega)]
    refine T_M_multiply_34 _ _ _ _ _ _ ?_
    rw [wr_ne (x := 221) (by decide), hm, hmd, w32_id (z := i + k) (by omega) (by omega), w32_id (z := k + 1) (by omega) (by omega), wr_ne (x := a) ha241, wr_ne (x := b) hb241, wr_in (by omega) (by omega), e1, w64_id (z := m a i * m b k) (by omega) (by omega), w64_id (by omega) (by omega), wr_up (by omega) (by omega), Int.tmod_eq_emod_of_nonneg (by omega), mmI_up hk]
    exact bf (by omega) ⟨⟨by omega, by omega⟩, ha.1, ⟨by omega, by omega⟩, hb.1, ⟨hk, by omega⟩, by omega, ⟨by omega, by omega⟩, l_M_mu34 hP ha hb ha241 hb241 hD hi hm hmd hra hrb hf h d (k + 1) (by omega) (by omega)⟩
theorem l_M_mu23 {P : Nat} (hP : okP P) {a b : Nat} (ha : isL a 7) (hb : isL b 7) (ha241 : a ≠ 241) (hb241 : b ≠ 241) {D : Nat} (hD : 1 ≤ D ∧ D ≤ 6) {m : rz_M} (hm : m 221 25 = P) (hmd : m 221 27 = D) (hra : rng (m a) 7 P) (hrb : rng (m b) 7 P) {K : Int → rz_M → Prop}
    (h : rz_C y_M_inverse [rR 221, rL (m 239 D)] (wr m 241 13 (mmO (m a) (m b) P D D)) (fun r1 m1 => rz_E y_M_multiply 105 [rR 221, rR a, rX 0, rL r1, rX 1, rI 12, rX 0, rX 0, rX 0] [] m1 K)) : ∀ (d i : Nat), D - i = d → i ≤ D → rz_E y_M_multiply 23 [rR 221, rR a, rR b, rI i, rX 0, rX 0, rX 0, rX 0, rX 0] [] (wr m 241 13 (mmO (m a) (m b) P D i)) K
  | 0, i, hd, hi => by
    have e : i = D := by omega
    subst e
    refine T_M_multiply_23 _ _ _ _ _ ?_
    rw [wr_ne (x := 221) (by decide), hmd, wr_ne (x := 239) (by decide)]
    exact bt (by omega) ⟨⟨by omega, by omega⟩, h⟩
  | d + 1, i, hd, hi => by
    have p2 := hP.1.1
    refine T_M_multiply_23 _ _ _ _ _ ?_
    rw [wr_ne (x := 221) (by decide), hmd]
    refine bf (by omega) ?_
    have go := l_M_mu34 hP ha hb ha241 hb241 hD.2 (i := (i : Int)) ⟨by omega, by omega⟩ hm hmd hra hrb (f := mmO (m a) (m b) P D i) (mmO_rng (by omega) i) (K := K) ?_ D 0 (by omega) (Int.le_refl _)
    · have e0 : mmI (m a) (m b) P i 0 (mmO (m a) (m b) P D i) = mmO (m a) (m b) P D i := by
        funext y
        unfold mmI
        rw [if_neg (by omega)]
      rwa [e0] at go
    · exact l_M_mu23 hP ha hb ha241 hb241 hD hm hmd hra hrb h d (i + 1) (by omega) (by omega)
theorem l_M_mu133 {P : Nat} (hP : okP P) {a : Nat} {D k v q : Int} (hD : 1 ≤ D ∧ D ≤ 6) (hk : D ≤ k ∧ k < 13) {m : rz_M} (hm : m 221 25 = P) (hmd : m 221 27 = D) (hbr : rng (m 239) 7 P) {f : Int → Int} (hf : rng f 13 P) (hq : 0 ≤ q ∧ q < P) (hq0 : q ≠ 0) {K : Int → rz_M → Prop}
    (h : rz_E y_M_multiply 105 [rR 221, rR a, rX 0, rL v, rX 1, rI (k - 1), rX 0, rX 0, rX 0] [] (wr m 241 13 (rdA (m 239) q P (k - D) (D + 1) f)) K) : ∀ (d : Nat) (i : Int), D + 1 - i = d → 0 ≤ i → rz_E y_M_multiply 133 [rR 221, rR a, rX 0, rL v, rX 1, rI k, rL q, rX 1, rI i] [] (wr m 241 13 (rdA (m 239) q P (k - D) i f)) K
  | 0, i, hdi, hi => by
    have e : i = D + 1 := by omega
    subst e
    refine T_M_multiply_133 _ _ _ _ _ _ _ (bt (by rw [wr_ne (by decide), hmd]; omega) ?_)
    rw [w32_id (by omega) (by omega), show k + -1 = k - 1 from by omega]
    exact h
  | d + 1, i, hdi, hi => by
    have p2 := hP.1.1
    have p3 := hP.2
    have r1 := hf (k - D + i) (by omega) (by omega)
    have r2 := hbr i hi (by omega)
    have r3 : 0 ≤ ((P : Int) - q) * m 239 i := Int.mul_nonneg (by omega) r2.1
    have r4 : ((P : Int) - q) * m 239 i ≤ 1000 * m 239 i := Int.mul_le_mul_of_nonneg_right (by omega) r2.1
    refine T_M_multiply_133 _ _ _ _ _ _ _ ?_
    rw [wr_ne (x := 221) (by decide), hmd, hm, wr_ne (x := 239) (by decide), w32_id (z := k - D) (by omega) (by omega), w32_id (z := k - D + i) (by omega) (by omega), wr_in (by omega) (by omega), rdA_at, w64_id (z := (P : Int) - q) (by omega) (by omega), w64_id (z := ((P : Int) - q) * m 239 i) (by omega) (by omega), w64_id (z := f (k - D + i) + ((P : Int) - q) * m 239 i) (by omega) (by omega), wr_up (by omega) (by omega), Int.tmod_eq_emod_of_nonneg (by omega), rdA_up hi rfl]
    refine bf (by omega) (bf hq0 ⟨⟨by omega, by omega⟩, ⟨hi, by omega⟩, by omega, ⟨by omega, by omega⟩, T_M_multiply_200 _ _ _ _ _ _ _ ?_⟩)
    rw [w32_id (by omega) (by omega)]
    exact l_M_mu133 hP hD hk hm hmd hbr hf hq hq0 h d (i + 1) (by omega) (by omega)
theorem l_M_mu105 [Lean.Grind.CommRing R] {co : R → Nat → Int} {mk : Nat → (Nat → Int) → R} (H : PolyR co mk) {P : Nat} (hP : okP P) {a : Nat} {D v : Int} (hD : 1 ≤ D ∧ D ≤ 6) {m : rz_M} (hm : m 221 25 = P) (hmd : m 221 27 = D) (hbr : rng (m 239) 7 P) (hbz : ∀ k : Int, D < k → k < 7 → m 239 k = 0) (hv : 0 ≤ v ∧ v < P) (hv1 : (P : Int) ∣ v * m 239 D - 1) {A : R} {K : Int → rz_M → Prop}
    (h : ∀ f : Int → Int, rng f 13 P → (∀ k : Int, D ≤ k → k < 13 → f k = 0) → (∃ s : R, dvp co P (A - (s * pR mk 7 (m 239) + pR mk 13 f))) → rz_E y_M_multiply 215 [rR 221, rR a, rX 0, rX 0, rX 0, rI 0, rX 0, rX 0, rX 0] [] (wr m 241 13 f) K) : ∀ (d : Nat) (k : Int) (f : Int → Int), k + 1 - D = d → D - 1 ≤ k → k < 13 → rng f 13 P → (∀ y : Int, k < y → y < 13 → f y = 0) → (∃ s : R, dvp co P (A - (s * pR mk 7 (m 239) + pR mk 13 f))) → rz_E y_M_multiply 105 [rR 221, rR a, rX 0, rL v, rX 1, rI k, rX 0, rX 0, rX 0] [] (wr m 241 13 f) K
  | 0, k, f, hd, hk, hk2, hf, hz, hs => T_M_multiply_105 _ _ _ _ _ (bt (by rw [wr_ne (by decide), hmd]; omega) (h f hf (fun y y0 y1 => hz y (by omega) y1) hs))
  | d + 1, k, f, hd, hk, hk2, hf, hz, hs => by
    have p2 := hP.1.1
    have p3 := hP.2
    have r1 := hf k (by omega) hk2
    have b1 := mul_lt_k (P := P) (by omega) r1 hv
    have q1 := tmod_rng (P := (P : Int)) (by omega) b1.1
    have q2 := dvd_tmod (P := (P : Int)) b1.1
    refine T_M_multiply_105 _ _ _ _ _ ?_
    rw [wr_ne (x := 221) (by decide), hmd, hm, wr_in (by omega) hk2, w64_id (by omega) (by omega)]
    refine bf (by omega) ⟨⟨by omega, hk2⟩, by omega, ?_⟩
    by_cases q0 : Int.tmod (f k * v) P = 0
    · have fk0 : f k = 0 := by
        refine Classical.byContradiction fun n => ?_
        have c1 : (P : Int) ∣ f k * v := by
          have := Int.dvd_neg.mpr q2
          rwa [q0, show -(0 - f k * v) = f k * v from by omega] at this
        rcases hP.1.2 _ _ c1 with z | z
        · exact not_dvd_rng r1 n z
        · have := Int.dvd_sub (Int.dvd_mul_of_dvd_left (c := m 239 D) z) hv1
          rw [show v * m 239 D - (v * m 239 D - 1) = 1 from by omega] at this
          have := Int.le_of_dvd (by decide) this
          omega
      refine T_M_multiply_133 _ _ _ _ _ _ _ ?_
      rw [wr_ne (x := 221) (by decide), hmd]
      refine bf (by omega) (bt q0 ?_)
      rw [w32_id (by omega) (by omega), show k + -1 = k - 1 from by omega]
      exact l_M_mu105 H hP hD hm hmd hbr hbz hv hv1 h d (k - 1) f (by omega) (by omega) (by omega) hf (fun y y0 y1 => by
        by_cases w : y = k
        · rw [w]; exact fk0
        · exact hz y (by omega) y1) hs
    · have go := l_M_mu133 hP hD (k := k) (v := v) (a := a) ⟨by omega, hk2⟩ hm hmd hbr hf q1 q0 (K := K) ?_ (D + 1).toNat 0 (by omega) (Int.le_refl _)
      · rwa [rdA_0] at go
      · have tz := rdA_top (P := P) (by omega) (b := m 239) (f := f) (o := k - D) (dg := D) (by omega) hv1 (x := Int.tmod (f k * v) P) (by rwa [show k - D + D = k from by omega])
        rw [show k - D + D = k from by omega] at tz
        refine l_M_mu105 H hP hD hm hmd hbr hbz hv hv1 h d (k - 1) _ (by omega) (by omega) (by omega) (rdA_rng (by omega) hf) (fun y y0 y1 => ?_) ?_
        · by_cases w : y = k
          · rw [w]; exact tz
          · unfold rdA
            rw [if_neg (by omega)]
            exact hz y (by omega) y1
        · obtain ⟨s, hs⟩ := hs
          have st := rdA_sem H (P := P) (b := m 239) (f := f) (q := Int.tmod (f k * v) P) (o := k - D) (dg := D) (N := 13) (by omega) (by omega) ⟨by omega, by omega⟩ hbz
          refine ⟨s + mo mk (k - D).toNat (Int.tmod (f k * v) P), ?_⟩
          have := dvp_add H hs st
          rwa [show ∀ (s A B F t C : R), A - (s * B + F) + (F - (t * B + C)) = A - ((s + t) * B + C) from fun s A B F t C => by grind] at this
theorem l_M_mu215 {a : Nat} (ha : isL a 7) (ha221 : a ≠ 221) (ha241 : a ≠ 241) {D : Int} (hD : 1 ≤ D ∧ D ≤ 6) {m : rz_M} (hmd : m 221 27 = D) {K : Int → rz_M → Prop} (h : K 0 (wr m a 7 (fun y => if y < D then m 241 y else 0))) : ∀ (d : Nat) (j : Int), 7 - j = d → 0 ≤ j → rz_E y_M_multiply 215 [rR 221, rR a, rX 0, rX 0, rX 0, rI j, rX 0, rX 0, rX 0] [] (wr m a j (fun y => if y < D then m 241 y else 0)) K
  | 0, j, hd, hj => by
    have e : j = 7 := by omega
    subst e
    exact T_M_multiply_215 _ _ _ _ (bt (by decide) h)
  | d + 1, j, hd, hj => by
    have la := ha.2
    refine T_M_multiply_215 _ _ _ _ (bf (by omega) ?_)
    rw [wr_ne (x := 221) (Ne.symm ha221), hmd, wr_ne (x := 241) (Ne.symm ha241), w32_id (by omega) (by omega)]
    refine bb (fun q => ⟨ha.1, ⟨hj, by omega⟩, ?_⟩) (fun q => ⟨⟨hj, by omega⟩, ha.1, ⟨hj, by omega⟩, ?_⟩)
    · rw [wr_succ hj (by rw [if_neg (by omega)])]
      exact l_M_mu215 ha ha221 ha241 hD hmd h d (j + 1) (by omega) (by omega)
    · rw [wr_succ hj (by rw [if_pos (by omega)])]
      exact l_M_mu215 ha ha221 ha241 hD hmd h d (j + 1) (by omega) (by omega)
/-- the one at hand: rests, of degree D -/
def mdOK (f : Int → Int) (P D : Int) : Prop := rng f 7 P ∧ f D ≠ 0 ∧ ∀ k : Int, D < k → k < 7 → f k = 0
theorem c_M_mul [Lean.Grind.CommRing R] {co : R → Nat → Int} {mk : Nat → (Nat → Int) → R} (H : PolyR co mk) {P : Nat} (hP : okP P) {a b : Nat} (ha : isL a 7) (hb : isL b 7) (hac : a ≠ 221 ∧ a ≠ 239 ∧ a ≠ 241) (hbc : b ≠ 241) {D : Nat} (hD : 1 ≤ D ∧ D ≤ 6) {m : rz_M} (hm : m 221 25 = P) (hmd : m 221 27 = D) (hw : mdOK (m 239) P D) (h1 : stOK (m a) P D) (h2 : stOK (m b) P D) {K : Int → rz_M → Prop}
    (h : ∀ m' : rz_M, (∀ i, i ≠ a → i ≠ 241 → m' i = m i) → stOK (m' a) P D → jd co P (pR mk 7 (m 239)) (pR mk 7 (m a) * pR mk 7 (m b) - pR mk 7 (m' a)) → K 0 m') : rz_C y_M_multiply [rR 221, rR a, rR b] m K := by
  have p2 := hP.1.1
  have p3 := hP.2
  refine T_M_multiply_0 _ _ _ _ ?_
  have l2 := l_M_mu2 (a := a) (b := b) (m := m) (K := K) ?_ 13 0 (by decide) (by decide)
  · rwa [wr_0] at l2
  · refine l_M_mu23 hP ha hb hac.2.2 hbc hD hm hmd h1.1 h2.1 ?_ D 0 (by omega) (Nat.zero_le _)
    have w221 : ∀ f, wr m 241 13 f 221 = m 221 := fun f => wr_ne (by decide)
    have w239 : ∀ f, wr m 241 13 f 239 = m 239 := fun f => wr_ne (by decide)
    refine c_M_inverse hP (a := m 239 D) (by rw [w221]; exact hm) (hw.1 D (by omega) (by omega)) hw.2.1 (fun v v0 v1 hv => ?_)
    have hP0 : (0 : Int) < P := by omega
    have zt : ∀ (n : Nat), n ≤ D → ∀ y : Int, (n : Int) + D - 1 ≤ y → mmO (m a) (m b) P D n y = 0 := by
      intro n
      induction n with
      | zero => intro _ _ _; rfl
      | succ n ih =>
        intro hn y hy
        show mmI (m a) (m b) P n D (mmO (m a) (m b) P D n) y = 0
        unfold mmI
        rw [if_neg (by omega)]
        exact ih (by omega) y (by omega)
    have px := mmO_sem H (P := (P : Int)) (a := m a) (b := m b) (D := D) D (by omega)
    generalize hF : mmO (m a) (m b) P D D = F at px ⊢
    have rF : rng F 13 P := by rw [← hF]; exact mmO_rng hP0 D
    have go := l_M_mu105 H hP (a := a) (D := (D : Int)) (v := v) ⟨by omega, by omega⟩ hm hmd hw.1 hw.2.2 ⟨v0, v1⟩ hv (A := pR mk 13 F) (K := K) (fun f hf hz hs => ?_) (13 - D) 12 F (by omega) (by omega) (by decide) rF (fun y y0 y1 => by omega) ⟨0, by
      rw [show ∀ A B : R, A - (0 * B + A) = 0 from fun A B => by grind]
      exact dvp_zero H⟩
    · exact go
    · have l215 := l_M_mu215 (m := wr m 241 13 f) ha hac.1 hac.2.2 (D := (D : Int)) ⟨by omega, by omega⟩ (by rw [w221]; exact hmd) (K := K) ?_ 7 0 (by decide) (by decide)
      · rwa [wr_0] at l215
      · have ea : ∀ y : Int, 0 ≤ y → y < 7 → wr (wr m 241 13 f) a 7 (fun y => if y < D then wr m 241 13 f 241 y else 0) a y = f y := fun y y0 y1 => by
          rw [wr_in y0 y1]
          by_cases q : y < D
          · rw [if_pos q, wr_in y0 (by omega)]
          · rw [if_neg q, hz y (by omega) (by omega)]
        refine h _ (fun i i1 i2 => by rw [wr_ne i1, wr_ne i2]) ⟨fun y y0 y1 => by rw [ea y y0 y1]; exact hf y y0 (by omega), fun y y0 y1 => by rw [ea y (by omega) y1]; exact hz y y0 (by omega)⟩ ?_
        obtain ⟨s, hs⟩ := hs
        have e1 : pR mk 7 (wr (wr m 241 13 f) a 7 (fun y => if y < D then wr m 241 13 f 241 y else 0) a) = pR mk 13 f := pR_ext H (by decide) (fun y y0 y1 => ea y y0 y1) (fun y y0 y1 => hz y (by omega) y1)
        have e2 : pR mk 7 (m a) = pR mk D (m a) := (pR_ext H (n := D) (l := 7) (by omega) (fun _ _ _ => rfl) (fun k k0 k1 => h1.2 k k0 k1)).symm
        have e3 : pR mk 7 (m b) = pR mk D (m b) := (pR_ext H (n := D) (l := 7) (by omega) (fun _ _ _ => rfl) (fun k k0 k1 => h2.2 k k0 k1)).symm
        rw [e1, e2, e3]
        refine ⟨s, ?_⟩
        have := dvp_add H px hs
        rwa [show ∀ A B F s W g : R, A * B - F + (F - (s * W + g)) = A * B - g - W * s from fun A B F s W g => by grind] at this
end
