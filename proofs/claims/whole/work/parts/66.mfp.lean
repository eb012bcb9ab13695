/-! the reference by a prime: inverses, common divisors, products -/
section
variable {R : Type}
theorem l_M_inv {P : Nat} (hP : okP P) {m : rz_M} (hm : m 221 25 = P) {a : Int} (ha : 0 ≤ a ∧ a < P) {K : Int → rz_M → Prop} (h : ∀ r : Int, 0 ≤ r → r < P → (P : Int) ∣ r - a ^ (P - 2) → K r m) : ∀ (d k : Nat) (r : Int), P - 2 - k = d → k ≤ P - 2 → 0 ≤ r ∧ r < P → (P : Int) ∣ r - a ^ k → rz_E y_M_inverse 5 [rR 221, rL a, rX 1, rL r, rX 1, rL (k : Int), rX 1] [] m K
  | 0, k, r, hd, hk, hr, hc => by
    have p2 := hP.1.1
    have p3 := hP.2
    have e : k = P - 2 := by omega
    subst e
    refine T_M_inverse_5 _ _ _ _ _ (bt ?_ (h r hr.1 hr.2 hc))
    rw [hm, w64_id (by omega) (by omega)]
    omega
  | d + 1, k, r, hd, hk, hr, hc => by
    have p2 := hP.1.1
    have p3 := hP.2
    have b := mul_lt_k (P := P) (by omega) hr ha
    refine T_M_inverse_5 _ _ _ _ _ ?_
    rw [hm, w64_id (z := (P : Int) - 2) (by omega) (by omega), w64_id (z := r * a) (by omega) (by omega), w64_id (z := (k : Int) + 1) (by omega) (by omega), show (k : Int) + 1 = ((k + 1 : Nat) : Int) from by omega]
    refine bf (by omega) ⟨by omega, l_M_inv hP hm ha h d (k + 1) _ (by omega) (by omega) (tmod_rng (by omega) b.1) ?_⟩
    rw [Int.pow_succ]
    exact cg_tr (dvd_tmod b.1) (cg_mul hc ⟨0, by omega⟩)
theorem c_M_inverse {P : Nat} (hP : okP P) {m : rz_M} (hm : m 221 25 = P) {a : Int} (ha : 0 ≤ a ∧ a < P) (h0 : a ≠ 0) {K : Int → rz_M → Prop} (h : ∀ r : Int, 0 ≤ r → r < P → (P : Int) ∣ r * a - 1 → K r m) : rz_C y_M_inverse [rR 221, rL a] m K := by
  have p2 := hP.1.1
  refine T_M_inverse_0 _ _ _ (l_M_inv hP hm ha (fun r r0 r1 hr => h r r0 r1 ?_) (P - 2) 0 1 (by omega) (by omega) ⟨by decide, by omega⟩ ?_)
  · have f := fer_int hP.1 (not_dvd_rng ha h0)
    rw [show P - 1 = (P - 2) + 1 from by omega, Int.pow_succ] at f
    exact cg_tr (cg_mul hr ⟨0, by omega⟩) f
  · rw [Int.pow_zero]
    exact ⟨0, by omega⟩
theorem l_M_topOf {a : Nat} (ha : isL a 7) {m : rz_M} {K : Int → rz_M → Prop} : ∀ n : Nat, n ≤ 7 → K (dgk (m a) n) m → rz_E y_M_topOf 3 [rR a, rI ((n : Int) - 1)] [] m K
  | 0, _, h => T_M_topOf_3 _ _ _ _ (bt (by decide) h)
  | n + 1, hn, h => by
    have e : ((n + 1 : Nat) : Int) - 1 = n := by omega
    rw [e]
    have hl := ha.2
    refine T_M_topOf_3 _ _ _ _ (bf (by omega) ⟨ha.1, ⟨by omega, by omega⟩, ?_, ?_⟩)
    · intro hz
      unfold dgk at h
      rw [if_neg hz] at h
      exact h
    · intro hz
      rw [w32_id (by omega) (by omega), show (n : Int) + -1 = (n : Int) - 1 from by omega]
      unfold dgk at h
      rw [if_pos (Classical.not_not.mp hz)] at h
      exact l_M_topOf ha n (by omega) h
theorem c_M_topOf {a : Nat} (ha : isL a 7) {m : rz_M} {K : Int → rz_M → Prop} (h : K (dg (m a)) m) : rz_C y_M_topOf [rR a] m K :=
  T_M_topOf_0 _ _ _ (l_M_topOf ha 7 (Nat.le_refl _) h)
/-- i places from o on win P - q times the divisor's -/
def rdA (b : Int → Int) (q P o i : Int) (f : Int → Int) : Int → Int := fun y => if o ≤ y ∧ y < o + i then (f y + (P - q) * b (y - o)) % P else f y
theorem rdA_up {b f : Int → Int} {q P o i v : Int} (hi : 0 ≤ i) (hv : v = (f (o + i) + (P - q) * b i) % P) : upf (rdA b q P o i f) (o + i) v = rdA b q P o (i + 1) f := by
  funext y
  unfold upf rdA
  by_cases z : y = o + i
  · subst z
    rw [if_pos rfl, if_pos ⟨by omega, by omega⟩, hv, show o + i - o = i from by omega]
  · rw [if_neg z]
    by_cases w : o ≤ y ∧ y < o + i
    · rw [if_pos w, if_pos ⟨w.1, by omega⟩]
    · rw [if_neg w, if_neg (by omega)]
theorem rdA_at {b f : Int → Int} {q P o i : Int} : rdA b q P o i f (o + i) = f (o + i) := by
  unfold rdA
  rw [if_neg (by omega)]
theorem rdA_0 {b f : Int → Int} {q P o : Int} : rdA b q P o 0 f = f := by
  funext y
  unfold rdA
  rw [if_neg (by omega)]
theorem rdA_rng {b f : Int → Int} {q P o i n : Int} (hP : 0 < P) (hf : rng f n P) : rng (rdA b q P o i f) n P := fun k k0 k1 => by
  unfold rdA
  split
  · exact emod_rng hP
  · exact hf k k0 k1
/-- the step takes q times the divisor away -/
theorem rdA_sem [Lean.Grind.CommRing R] {co : R → Nat → Int} {mk : Nat → (Nat → Int) → R} (H : PolyR co mk) {P : Int} {b f : Int → Int} {q : Int} {o dg : Int} {N : Nat} (ho : 0 ≤ o) (hod : o + dg < N) (hd : 0 ≤ dg ∧ dg < 7) (hbz : ∀ k : Int, dg < k → k < 7 → b k = 0) : dvp co P (pR mk N f - (mo mk o.toNat q * pR mk 7 b + pR mk N (rdA b q P o (dg + 1) f))) := fun k => by
  rw [co_sub H, H.2.1, co_momul H, co_pR H, co_pR H, co_pR H]
  unfold rdA
  by_cases z : o.toNat ≤ k
  · rw [if_pos z]
    by_cases z2 : (k : Int) ≤ o + dg
    · rw [if_pos (show k < N by omega), if_pos (show k - o.toNat < 7 by omega), if_pos (show k < N by omega), if_pos ⟨by omega, by omega⟩, show ((k - o.toNat : Nat) : Int) = (k : Int) - o from by omega]
      have := Int.dvd_sub (emod_dvd (f k + (P - q) * b ((k : Int) - o)) P) (Int.dvd_mul_right P (b ((k : Int) - o)))
      rwa [show f k + (P - q) * b ((k : Int) - o) - (f k + (P - q) * b ((k : Int) - o)) % P - P * b ((k : Int) - o) = f k - (q * b ((k : Int) - o) + (f k + (P - q) * b ((k : Int) - o)) % P) from by grind] at this
    · have e0 : (if k - o.toNat < 7 then b ((k - o.toNat : Nat) : Int) else 0) = 0 := by
        split
        · exact hbz _ (by omega) (by omega)
        · rfl
      rw [e0, Int.mul_zero]
      by_cases z3 : k < N
      · rw [if_pos z3, if_pos z3, if_neg (by omega)]
        exact ⟨0, by omega⟩
      · rw [if_neg z3, if_neg z3]
        exact ⟨0, by omega⟩
  · rw [if_neg z]
    by_cases z3 : k < N
    · rw [if_pos z3, if_pos z3, if_neg (by omega)]
      exact ⟨0, by omega⟩
    · rw [if_neg z3, if_neg z3]
      exact ⟨0, by omega⟩
/-- the top place is nought behind the step -/
theorem rdA_top {P : Nat} (hP : 0 < (P : Int)) {b f : Int → Int} {v o dg : Int} (hd : 0 ≤ dg) (hv : (P : Int) ∣ v * b dg - 1) {x : Int} (hx : (P : Int) ∣ x - f (o + dg) * v) : rdA b x P o (dg + 1) f (o + dg) = 0 := by
  unfold rdA
  rw [if_pos ⟨by omega, by omega⟩, show o + dg - o = dg from by omega]
  refine Int.emod_eq_zero_of_dvd ?_
  have h1 := cg_mul hx (c := b dg) (d := b dg) ⟨0, by omega⟩
  have h2 := Int.dvd_mul_of_dvd_right (b := f (o + dg)) hv
  have h3 := Int.dvd_sub (Int.dvd_sub (Int.dvd_mul_right P (b dg)) h1) h2
  rwa [show (P : Int) * b dg - (x * b dg - f (o + dg) * v * b dg) - f (o + dg) * (v * b dg - 1) = f (o + dg) + ((P : Int) - x) * b dg from by grind] at h3
theorem l_M_cb52 {P : Nat} (hP : okP P) {a b : Nat} (ha : isL a 7) (hb : isL b 7) (hab : a ≠ b) (ha221 : a ≠ 221) {n k v q : Int} (hn : 0 ≤ n ∧ n ≤ k) (hk : k < 7) {m : rz_M} (hm : m 221 25 = P) (hbr : rng (m b) 7 P) {f : Int → Int} (hf : rng f 7 P) (hq : 0 ≤ q ∧ q < P) {K : Int → rz_M → Prop}
    (h : rz_C y_M_topOf [rR a] (wr m a 7 (rdA (m b) q P (k - n) (n + 1) f)) (fun r1 m1 => rz_E y_M_commonBy 24 [rR 221, rR a, rR b, rI n, rI r1, rL v, rX 1, rX 0, rX 0, rX 0] [] m1 K)) : ∀ (d : Nat) (i : Int), n + 1 - i = d → 0 ≤ i → rz_E y_M_commonBy 52 [rR 221, rR a, rR b, rI n, rI k, rL v, rX 1, rL q, rX 1, rI i] [] (wr m a 7 (rdA (m b) q P (k - n) i f)) K
  | 0, i, hdi, hi => by
    have e : i = n + 1 := by omega
    subst e
    exact T_M_commonBy_52 _ _ _ _ _ _ _ _ _ (bt (by omega) h)
  | d + 1, i, hdi, hi => by
    have p2 := hP.1.1
    have p3 := hP.2
    have la := ha.2
    have lb := hb.2
    have r1 := hf (k - n + i) (by omega) (by omega)
    have r2 := hbr i hi (by omega)
    have r3 : 0 ≤ ((P : Int) - q) * m b i := Int.mul_nonneg (by omega) r2.1
    have r4 : ((P : Int) - q) * m b i ≤ 1000 * m b i := Int.mul_le_mul_of_nonneg_right (by omega) r2.1
    refine T_M_commonBy_52 _ _ _ _ _ _ _ _ _ (bf (by omega) ⟨ha.1, ?_⟩)
    rw [w32_id (z := k - n) (by omega) (by omega), w32_id (z := k - n + i) (by omega) (by omega), w32_id (z := i + 1) (by omega) (by omega), wr_ne (x := 221) (Ne.symm ha221), wr_ne (x := b) (Ne.symm hab), wr_in (by omega) (by omega), rdA_at, hm, w64_id (z := (P : Int) - q) (by omega) (by omega), w64_id (z := ((P : Int) - q) * m b i) (by omega) (by omega), w64_id (z := f (k - n + i) + ((P : Int) - q) * m b i) (by omega) (by omega), wr_up (by omega) (by omega)]
    refine ⟨⟨by omega, by omega⟩, hb.1, ⟨hi, by omega⟩, by omega, ha.1, ⟨by omega, by omega⟩, ?_⟩
    rw [Int.tmod_eq_emod_of_nonneg (by omega), rdA_up hi rfl]
    exact l_M_cb52 hP ha hb hab ha221 hn hk hm hbr hf hq h d (i + 1) (by omega) (by omega)
theorem l_M_cb24 [Lean.Grind.CommRing R] {co : R → Nat → Int} {mk : Nat → (Nat → Int) → R} (H : PolyR co mk) {P : Nat} (hP : okP P) {a b : Nat} (ha : isL a 7) (hb : isL b 7) (hab : a ≠ b) (ha221 : a ≠ 221) {v : Int} {m : rz_M} (hm : m 221 25 = P) (hbr : rng (m b) 7 P) (hb0 : 0 ≤ dg (m b)) (hv : 0 ≤ v ∧ v < P) (hv1 : (P : Int) ∣ v * m b (dg (m b)) - 1) {A : R} {K : Int → rz_M → Prop}
    (h : ∀ f : Int → Int, rng f 7 P → dg f < dg (m b) → (∃ s : R, dvp co P (A - (s * pR mk 7 (m b) + pR mk 7 f))) → rz_E y_M_commonBy 112 [rR 221, rR a, rR b, rX 0, rX 0, rX 0, rX 0, rI 0, rX 0, rX 0] [] (wr m a 7 f) K) : ∀ (d : Nat) (f : Int → Int), dg f + 1 ≤ d → rng f 7 P → (∃ s : R, dvp co P (A - (s * pR mk 7 (m b) + pR mk 7 f))) → rz_E y_M_commonBy 24 [rR 221, rR a, rR b, rI (dg (m b)), rI (dg f), rL v, rX 1, rX 0, rX 0, rX 0] [] (wr m a 7 f) K
  | 0, f, hd, hf, hs => by
    exact T_M_commonBy_24 _ _ _ _ _ _ _ (bt (by omega) (h f hf (by omega) hs))
  | d + 1, f, hd, hf, hs => by
    have p2 := hP.1.1
    have p3 := hP.2
    have la := ha.2
    have rb := dg_rng (m b)
    have rf := dg_rng f
    refine T_M_commonBy_24 _ _ _ _ _ _ _ (bb (fun z => h f hf (by omega) hs) (fun z => bf (by omega) ⟨ha.1, ⟨by omega, by omega⟩, ?_⟩))
    rw [wr_ne (x := 221) (Ne.symm ha221), hm, wr_in (by omega) (by omega)]
    have r1 := hf (dg f) (by omega) (by omega)
    have b1 := mul_lt_k (P := P) (by omega) r1 hv
    rw [w64_id (by omega) (by omega)]
    have q1 := tmod_rng (P := (P : Int)) (by omega) b1.1
    have q2 := dvd_tmod (P := (P : Int)) b1.1
    refine ⟨by omega, ?_⟩
    have go := l_M_cb52 hP ha hb hab ha221 (n := dg (m b)) (k := dg f) (v := v) (q := Int.tmod (f (dg f) * v) P) ⟨hb0, by omega⟩ (by omega) hm hbr hf q1 (K := K) ?_ (dg (m b) + 1).toNat 0 (by omega) (Int.le_refl _)
    · rwa [rdA_0] at go
    · refine c_M_topOf ha ?_
      have e1 : dg (wr m a 7 (rdA (m b) (Int.tmod (f (dg f) * v) P) P (dg f - dg (m b)) (dg (m b) + 1) f) a) = dg (rdA (m b) (Int.tmod (f (dg f) * v) P) P (dg f - dg (m b)) (dg (m b) + 1) f) := dgk_congr (fun y y0 y1 => wr_in y0 y1)
      rw [e1]
      have tz := rdA_top (P := P) (by omega) (b := m b) (f := f) (o := dg f - dg (m b)) hb0 hv1 (x := Int.tmod (f (dg f) * v) P) (by rwa [show dg f - dg (m b) + dg (m b) = dg f from by omega])
      rw [show dg f - dg (m b) + dg (m b) = dg f from by omega] at tz
      have dl : dg (rdA (m b) (Int.tmod (f (dg f) * v) P) P (dg f - dg (m b)) (dg (m b) + 1) f) < dg f := dg_le (by omega) (fun y y0 y1 => by
        by_cases w : y = dg f
        · rw [w]; exact tz
        · unfold rdA
          rw [if_neg (by omega)]
          exact dgk_top f 7 y (by show dg f < y; omega) (by omega))
      refine l_M_cb24 H hP ha hb hab ha221 hm hbr hb0 hv hv1 h d _ (by omega) (rdA_rng (by omega) hf) ?_
      obtain ⟨s, hs⟩ := hs
      have st := rdA_sem H (P := P) (b := m b) (f := f) (q := Int.tmod (f (dg f) * v) P) (o := dg f - dg (m b)) (dg := dg (m b)) (N := 7) (by omega) (by omega) ⟨hb0, by omega⟩ (fun y y0 y1 => dgk_top (m b) 7 y y0 (by omega))
      refine ⟨s + mo mk (dg f - dg (m b)).toNat (Int.tmod (f (dg f) * v) P), ?_⟩
      have := dvp_add H hs st
      rwa [show ∀ (s A B F t C : R), A - (s * B + F) + (F - (t * B + C)) = A - ((s + t) * B + C) from fun s A B F t C => by grind] at this
def swp (j : Int) (f g : Int → Int) : Int → Int := fun y => if y < j then g y else f y
theorem swp_up {j : Int} {f g : Int → Int} : upf (swp j f g) j (g j) = swp (j + 1) f g := by
  funext y
  unfold upf swp
  by_cases q : y = j
  · rw [if_pos q, if_pos (by omega), q]
  · rw [if_neg q]
    by_cases z : y < j
    · rw [if_pos z, if_pos (by omega)]
    · rw [if_neg z, if_neg (by omega)]
theorem l_M_cb112 {a b : Nat} (ha : isL a 7) (hb : isL b 7) (hab : a ≠ b) {m : rz_M} {f g : Int → Int} {K : Int → rz_M → Prop} (h : rz_C y_M_topOf [rR b] (wr (wr m a 7 (swp 7 f g)) b 7 (swp 7 g f)) (fun r1 m1 => rz_E y_M_commonBy 5 [rR 221, rR a, rR b, rI r1, rX 0, rX 0, rX 0, rX 0, rX 0, rX 0] [] m1 K)) : ∀ (d : Nat) (j : Int), 7 - j = d → 0 ≤ j → rz_E y_M_commonBy 112 [rR 221, rR a, rR b, rX 0, rX 0, rX 0, rX 0, rI j, rX 0, rX 0] [] (wr (wr m a 7 (swp j f g)) b 7 (swp j g f)) K
  | 0, j, hd, hj => by
    have e : j = 7 := by omega
    subst e
    exact T_M_commonBy_112 _ _ _ _ _ (bt (by decide) h)
  | d + 1, j, hd, hj => by
    have la := ha.2
    have lb := hb.2
    refine T_M_commonBy_112 _ _ _ _ _ (bf (by omega) ⟨ha.1, ⟨hj, by omega⟩, hb.1, ⟨hj, by omega⟩, ha.1, ⟨hj, by omega⟩, hb.1, ⟨hj, by omega⟩, ?_⟩)
    have ea : wr (wr m a 7 (swp j f g)) b 7 (swp j g f) a j = f j := by
      rw [wr_ne hab, wr_in hj (by omega)]
      unfold swp
      rw [if_neg (by omega)]
    have eb : wr (wr m a 7 (swp j f g)) b 7 (swp j g f) b j = g j := by
      rw [wr_in hj (by omega)]
      unfold swp
      rw [if_neg (by omega)]
    rw [ea, eb, w32_id (by omega) (by omega)]
    have sw : rz_up (rz_up (wr (wr m a 7 (swp j f g)) b 7 (swp j g f)) a j (g j)) b j (f j) = wr (wr m a 7 (swp (j + 1) f g)) b 7 (swp (j + 1) g f) := by
      rw [← swp_up (f := f) (g := g), ← swp_up (f := g) (g := f), ← wr_up hj (by omega), ← wr_up hj (by omega)]
      congr 1
      funext x y
      unfold rz_up wr
      by_cases q : x = a ∧ y = j
      · rw [if_pos q, if_neg (by omega)]
        exact (if_pos q).symm
      · rw [if_neg q]
        by_cases z : x = b ∧ 0 ≤ y ∧ y < 7
        · rw [if_pos z, if_pos z]
        · rw [if_neg z, if_neg z]
          exact (if_neg q).symm
    rw [sw]
    exact l_M_cb112 ha hb hab h d (j + 1) (by omega) (by omega)
theorem l_M_cb5 [Lean.Grind.CommRing R] {co : R → Nat → Int} {mk : Nat → (Nat → Int) → R} (H : PolyR co mk) {P : Nat} (hP : okP P) {a b : Nat} (ha : isL a 7) (hb : isL b 7) (hab : a ≠ b) (ha221 : a ≠ 221) (hb221 : b ≠ 221) {A B : R} {m0 : rz_M} (hm0 : m0 221 25 = P) {K : Int → rz_M → Prop}
    (h : ∀ m' : rz_M, (∀ i, i ≠ a → i ≠ b → m' i = m0 i) → rng (m' a) 7 P → 0 ≤ dg (m' a) → gcdp co P (pR mk 7 (m' a)) A B → K (dg (m' a)) m') : ∀ (n : Nat) (m : rz_M), dg (m b) + 1 = n → (∀ i, i ≠ a → i ≠ b → m i = m0 i) → rng (m a) 7 P → rng (m b) 7 P → (0 ≤ dg (m a) ∨ 0 ≤ dg (m b)) → (∀ G : R, gcdp co P G (pR mk 7 (m a)) (pR mk 7 (m b)) → gcdp co P G A B) → rz_E y_M_commonBy 5 [rR 221, rR a, rR b, rI (dg (m b)), rX 0, rX 0, rX 0, rX 0, rX 0, rX 0] [] m K := by
  intro n
  induction n using Nat.strongRecOn with
  | ind n ih =>
    intro m hn hfr hra hrb hnz hG
    have p2 := hP.1.1
    have rb := dg_rng (m b)
    have lb := hb.2
    have hm : m 221 25 = P := by rw [hfr 221 (Ne.symm ha221) (Ne.symm hb221)]; exact hm0
    refine T_M_commonBy_5 _ _ _ _ _ (bb (fun q => c_M_topOf ha (h m hfr hra (by omega) (hG _ (gcdp_zero H (dg_zero H P q))))) (fun q => c_M_topOf ha ⟨hb.1, ⟨by omega, by omega⟩, c_M_inverse (a := m b (dg (m b))) hP hm (hrb _ (by omega) (by omega)) (dgk_nz (m b) 7 (by show 0 ≤ dg (m b); omega)) (fun v v0 v1 hv => ?_)⟩))
    have go := l_M_cb24 H hP ha hb hab ha221 (v := v) hm hrb (by omega) ⟨v0, v1⟩ hv (A := pR mk 7 (m a)) (K := K) (fun f hf hdf hs => ?_) 7 (m a) (by have := dg_rng (m a); omega) hra ⟨0, by
      rw [show ∀ A B : R, A - (0 * B + A) = 0 from fun A B => by grind]
      exact dvp_zero H⟩
    · rwa [wr_self2] at go
    · have sw0 : wr m a 7 f = wr (wr m a 7 (swp 0 f (m b))) b 7 (swp 0 (m b) f) := by
        have e1 : wr m a 7 (swp 0 f (m b)) = wr m a 7 f := wr_congr (fun y y0 y1 => if_neg (by omega))
        rw [e1]
        have e2 : wr (wr m a 7 f) b 7 (swp 0 (m b) f) = wr (wr m a 7 f) b 7 (wr m a 7 f b) := wr_congr (fun y y0 y1 => by
          rw [wr_ne (Ne.symm hab)]
          exact if_neg (by omega))
        rw [e2, wr_self2]
      rw [sw0]
      refine l_M_cb112 ha hb hab (c_M_topOf hb ?_) 7 0 (by decide) (by decide)
      have ea : ∀ y : Int, 0 ≤ y → y < 7 → wr (wr m a 7 (swp 7 f (m b))) b 7 (swp 7 (m b) f) a y = m b y := fun y y0 y1 => by
        rw [wr_ne hab, wr_in y0 y1]
        exact if_pos y1
      have eb : ∀ y : Int, 0 ≤ y → y < 7 → wr (wr m a 7 (swp 7 f (m b))) b 7 (swp 7 (m b) f) b y = f y := fun y y0 y1 => by
        rw [wr_in y0 y1]
        exact if_pos y1
      have da : dg (wr (wr m a 7 (swp 7 f (m b))) b 7 (swp 7 (m b) f) a) = dg (m b) := dgk_congr (fun y y0 y1 => ea y y0 (by omega))
      have db : dg (wr (wr m a 7 (swp 7 f (m b))) b 7 (swp 7 (m b) f) b) = dg f := dgk_congr (fun y y0 y1 => eb y y0 (by omega))
      have rf := dg_rng f
      refine ih (dg f + 1).toNat (by omega) _ (by rw [db]; omega) (fun i h1 h2 => by rw [wr_ne h2, wr_ne h1]; exact hfr i h1 h2) (fun y y0 y1 => by rw [ea y y0 y1]; exact hrb y y0 y1) (fun y y0 y1 => by rw [eb y y0 y1]; exact hf y y0 y1) (Or.inl (by rw [da]; omega)) (fun G hGG => ?_)
      rw [pR_congr H (f := wr (wr m a 7 (swp 7 f (m b))) b 7 (swp 7 (m b) f) a) (g := m b) (fun y y0 y1 => ea y y0 (by omega)), pR_congr H (f := wr (wr m a 7 (swp 7 f (m b))) b 7 (swp 7 (m b) f) b) (g := f) (fun y y0 y1 => eb y y0 (by omega))] at hGG
      obtain ⟨s, hs⟩ := hs
      exact hG G (gcdp_step H hGG hs)
theorem c_M_commonBy [Lean.Grind.CommRing R] {co : R → Nat → Int} {mk : Nat → (Nat → Int) → R} (H : PolyR co mk) {P : Nat} (hP : okP P) {a b : Nat} (ha : isL a 7) (hb : isL b 7) (hab : a ≠ b) (ha221 : a ≠ 221) (hb221 : b ≠ 221) {m : rz_M} (hm : m 221 25 = P) (hra : rng (m a) 7 P) (hrb : rng (m b) 7 P) (h0 : 0 ≤ dg (m a)) {K : Int → rz_M → Prop}
    (h : ∀ m' : rz_M, (∀ i, i ≠ a → i ≠ b → m' i = m i) → rng (m' a) 7 P → 0 ≤ dg (m' a) → gcdp co P (pR mk 7 (m' a)) (pR mk 7 (m a)) (pR mk 7 (m b)) → K (dg (m' a)) m') : rz_C y_M_commonBy [rR 221, rR a, rR b] m K := by
  have r := dg_rng (m b)
  exact T_M_commonBy_0 _ _ _ _ (c_M_topOf hb (l_M_cb5 H hP ha hb hab ha221 hb221 hm h (dg (m b) + 1).toNat m (by omega) (fun _ _ _ => rfl) hra hrb (Or.inl h0) (fun G hG => hG)))
end
