/-! PrimeView: rests by one that ends with 1; Euclid's way -/
section
variable {R : Type}
/-- the first n places as a polynomial -/
def pR (mk : Nat → (Nat → Int) → R) (n : Nat) (f : Int → Int) : R := mk n (fun k => f (k : Int))
theorem co_pR [Lean.Grind.CommRing R] {co : R → Nat → Int} {mk : Nat → (Nat → Int) → R} (H : PolyR co mk) (n : Nat) (f : Int → Int) (k : Nat) : co (pR mk n f) k = if k < n then f (k : Int) else 0 := H.2.2.2.2.2 _ _ _
theorem dvp_pR [Lean.Grind.CommRing R] {co : R → Nat → Int} {mk : Nat → (Nat → Int) → R} (H : PolyR co mk) {p : Int} {n : Nat} {f g : Int → Int} (h : ∀ k : Int, 0 ≤ k → k < n → p ∣ f k - g k) : dvp co p (pR mk n f - pR mk n g) := fun k => by
  rw [co_sub H, co_pR H, co_pR H]
  split
  · exact h k (by omega) (by omega)
  · exact ⟨0, by omega⟩
theorem pR_congr [Lean.Grind.CommRing R] {co : R → Nat → Int} {mk : Nat → (Nat → Int) → R} (H : PolyR co mk) {n : Nat} {f g : Int → Int} (h : ∀ k : Int, 0 ≤ k → k < n → f k = g k) : pR mk n f = pR mk n g := H.1 _ _ (fun k => by
  rw [co_pR H, co_pR H]
  split
  · exact h k (by omega) (by omega)
  · rfl)
/-- d + 1 places from o on lose t times the divisor's -/
def rdI (b : Int → Int) (t P o i : Int) (f : Int → Int) : Int → Int := fun y => if o ≤ y ∧ y < o + i then (f y - t * b (y - o)) % P else f y
theorem l_PV_red21 {P : Nat} (hP : okP P) {a b : Nat} {L dg j t : Int} (ha : rz_isK a 1 = true) (haL : rz_len a = L) (hL : L ≤ 13) (hb : isL b 7) (hab : a ≠ b) (ha47 : a ≠ 47) (hd : 0 ≤ dg ∧ dg < 7) (hj : dg ≤ j ∧ j < L) {m : rz_M} (hm : m 47 7 = P) (hbr : rng (m b) 7 P) {f : Int → Int} (hf : rng f L P) (ht : 0 ≤ t ∧ t < P) (ht0 : t ≠ 0) {K : Int → rz_M → Prop}
    (h : rz_E y_PV_reduce 6 [rR 47, rR a, rR b, rI dg, rI (j - 1), rX 0, rX 0, rX 0, rX 0, rX 0] [] (wr m a L (rdI (m b) t P (j - dg) (dg + 1) f)) K) : ∀ (d : Nat) (i : Int), dg + 1 - i = d → 0 ≤ i → rz_E y_PV_reduce 21 [rR 47, rR a, rR b, rI dg, rI j, rL t, rX 1, rI i, rX 0, rX 0] [] (wr m a L (rdI (m b) t P (j - dg) i f)) K
  | 0, i, hdi, hi => by
    have e : i = dg + 1 := by omega
    subst e
    refine T_PV_reduce_21 _ _ _ _ _ _ _ _ (bf ht0 (bt (by omega) ?_))
    rw [w32_id (by omega) (by omega), show j + -1 = j - 1 from by omega]
    exact h
  | d + 1, i, hdi, hi => by
    have p2 := hP.1.1
    have p3 := hP.2
    have hl := hb.2
    have ew : wr m a L (rdI (m b) t P (j - dg) i f) 47 7 = P := by rw [wr_ne (Ne.symm ha47), hm]
    have eb : wr m a L (rdI (m b) t P (j - dg) i f) b i = m b i := by rw [wr_ne (Ne.symm hab)]
    have ea : wr m a L (rdI (m b) t P (j - dg) i f) a (j - dg + i) = f (j - dg + i) := by
      rw [wr_in (by omega) (by omega)]
      unfold rdI
      rw [if_neg (by omega)]
    have r1 := hf (j - dg + i) (by omega) (by omega)
    have r2 := hbr i hi (by omega)
    have r3 := mul_lt_k (P := P) (by omega) ht r2
    refine T_PV_reduce_21 _ _ _ _ _ _ _ _ (bf ht0 (bf (by omega) ?_))
    rw [w32_id (z := j - dg) (by omega) (by omega), w32_id (z := j - dg + i) (by omega) (by omega), ew, eb, ea, w64_id (z := t * m b i) (by omega) (by omega), w64_id (z := f (j - dg + i) - t * m b i) (by omega) (by omega)]
    have bp := byP (P := (P : Int)) (v := f (j - dg + i) - t * m b i) (by omega)
    have l2 := Int.lt_tmod_of_pos (f (j - dg + i) - t * m b i) (show (0 : Int) < P by omega)
    have l1 := Int.tmod_lt_of_pos (f (j - dg + i) - t * m b i) (show (0 : Int) < P by omega)
    have nx : ∀ v : Int, v = (f (j - dg + i) - t * m b i) % P → rz_E y_PV_reduce 86 [rR 47, rR a, rR b, rI dg, rI j, rL t, rX 1, rI i, rX 0, rX 0] [] (rz_up (wr m a L (rdI (m b) t P (j - dg) i f)) a (j - dg + i) v) K := fun v hv => by
      refine T_PV_reduce_86 _ _ _ _ _ _ _ _ ?_
      rw [w32_id (by omega) (by omega), wr_up (by omega) (by omega)]
      have e2 : upf (rdI (m b) t P (j - dg) i f) (j - dg + i) v = rdI (m b) t P (j - dg) (i + 1) f := by
        funext y
        unfold upf rdI
        by_cases q : y = j - dg + i
        · subst q
          rw [if_pos rfl, if_pos ⟨by omega, by omega⟩, hv, show j - dg + i - (j - dg) = i from by omega]
        · rw [if_neg q]
          by_cases z : j - dg ≤ y ∧ y < j - dg + i
          · rw [if_pos z, if_pos ⟨z.1, by omega⟩]
          · rw [if_neg z, if_neg (by omega)]
      rw [e2]
      exact l_PV_red21 hP ha haL hL hb hab ha47 hd hj hm hbr hf ht ht0 h d (i + 1) (by omega) (by omega)
    refine ⟨ha, ⟨by omega, by omega⟩, hb.1, ⟨hi, by omega⟩, by omega, bb (fun q => ⟨ha, ⟨by omega, by omega⟩, nx _ (bp.1 q)⟩) (fun q => ⟨ha, ⟨by omega, by omega⟩, ?_⟩)⟩
    rw [w64_id (by omega) (by omega)]
    exact nx _ (bp.2 q)
theorem l_PV_red6 [Lean.Grind.CommRing R] {co : R → Nat → Int} {mk : Nat → (Nat → Int) → R} (H : PolyR co mk) {P : Nat} (hP : okP P) {a b : Nat} {dg : Int} {N : Nat} (ha : rz_isK a 1 = true) (haL : rz_len a = N) (hL : N ≤ 13) (hb : isL b 7) (hab : a ≠ b) (ha47 : a ≠ 47) (hd : 0 ≤ dg ∧ dg < 7) {m : rz_M} (hm : m 47 7 = P) (hbr : rng (m b) 7 P) (hb1 : m b dg = 1) (hbz : ∀ k : Int, dg < k → k < 7 → m b k = 0) {K : Int → rz_M → Prop} {C : R}
    (h : ∀ g : Int → Int, rng g N P → (∀ k : Int, dg ≤ k → k < N → g k = 0) → (∃ s : R, dvp co P (C - (s * pR mk 7 (m b) + pR mk N g))) → K 0 (wr m a N g)) : ∀ (n : Nat) (j : Int) (f : Int → Int), j + 1 = n → j < N → rng f N P → (∀ k : Int, j < k → dg ≤ k → k < N → f k = 0) → (∃ s : R, dvp co P (C - (s * pR mk 7 (m b) + pR mk N f))) → rz_E y_PV_reduce 6 [rR 47, rR a, rR b, rI dg, rI j, rX 0, rX 0, rX 0, rX 0, rX 0] [] (wr m a N f) K
  | 0, j, f, hn, hj, hf, hz, hs => T_PV_reduce_6 _ _ _ _ _ _ (bt (by omega) (h f hf (fun k k0 k1 => hz k (by omega) k0 k1) hs))
  | n + 1, j, f, hn, hj, hf, hz, hs => by
    have p2 := hP.1.1
    have p3 := hP.2
    have hl := hb.2
    refine T_PV_reduce_6 _ _ _ _ _ _ (bb (fun q => h f hf (fun k k0 k1 => hz k (by omega) k0 k1) hs) (fun q => ⟨ha, ⟨by omega, by omega⟩, ?_⟩))
    rw [wr_in (by omega) hj]
    have rt := hf j (by omega) hj
    by_cases t0 : f j = 0
    · refine T_PV_reduce_21 _ _ _ _ _ _ _ _ (bt t0 ?_)
      rw [w32_id (by omega) (by omega), show j + -1 = j - 1 from by omega]
      exact l_PV_red6 H hP ha haL hL hb hab ha47 hd hm hbr hb1 hbz h n (j - 1) f (by omega) (by omega) hf (fun k k0 k1 k2 => by
        by_cases e : k = j
        · rw [e]; exact t0
        · exact hz k (by omega) k1 k2) hs
    · have go := l_PV_red21 hP ha haL (by omega) hb hab ha47 hd (j := j) (t := f j) ⟨by omega, hj⟩ hm hbr hf rt t0 (K := K) ?_ (dg + 1).toNat 0 (by omega) (Int.le_refl _)
      · rw [show rdI (m b) (f j) P (j - dg) 0 f = f from by funext y; unfold rdI; rw [if_neg (by omega)]] at go
        exact go
      · refine l_PV_red6 H hP ha haL hL hb hab ha47 hd hm hbr hb1 hbz h n (j - 1) _ (by omega) (by omega) (fun k k0 k1 => ?_) (fun k k0 k1 k2 => ?_) ?_
        · unfold rdI
          split
          · exact ⟨Int.emod_nonneg _ (by omega), Int.emod_lt_of_pos _ (by omega)⟩
          · exact hf k k0 k1
        · unfold rdI
          by_cases e : k = j
          · subst e
            rw [if_pos ⟨by omega, by omega⟩, show k - (k - dg) = dg from by omega, hb1, Int.mul_one, Int.sub_self, Int.zero_emod]
          · rw [if_neg (by omega)]
            exact hz k (by omega) k1 k2
        · obtain ⟨s, hs⟩ := hs
          refine ⟨s + mo mk (j - dg).toNat (f j), ?_⟩
          have step : dvp co P (pR mk N f - (mo mk (j - dg).toNat (f j) * pR mk 7 (m b) + pR mk N (rdI (m b) (f j) P (j - dg) (dg + 1) f))) := fun k => by
            rw [co_sub H, H.2.1, co_momul H, co_pR H, co_pR H, co_pR H]
            unfold rdI
            by_cases z : (j - dg).toNat ≤ k
            · rw [if_pos z]
              by_cases z2 : (k : Int) ≤ j
              · rw [if_pos (show k < N by omega), if_pos (show k - (j - dg).toNat < 7 by omega), if_pos (show k < N by omega), if_pos ⟨by omega, by omega⟩, show ((k - (j - dg).toNat : Nat) : Int) = (k : Int) - (j - dg) from by omega]
                have := emod_dvd (f k - f j * m b ((k : Int) - (j - dg))) P
                rwa [show f k - (f j * m b ((k : Int) - (j - dg)) + (f k - f j * m b ((k : Int) - (j - dg))) % P) = f k - f j * m b ((k : Int) - (j - dg)) - (f k - f j * m b ((k : Int) - (j - dg))) % P from by omega]
              · have e0 : (if k - (j - dg).toNat < 7 then m b ((k - (j - dg).toNat : Nat) : Int) else 0) = 0 := by
                  split
                  · exact hbz _ (by omega) (by omega)
                  · rfl
                rw [e0, Int.mul_zero]
                by_cases z3 : k < N
                · rw [if_pos z3, if_pos z3, if_neg (by omega)]
                  exact ⟨0, by omega⟩
                · rw [if_neg z3, if_neg z3]
                  exact ⟨0, by omega⟩
            · rw [if_neg z]
              by_cases z3 : k < N
              · rw [if_pos z3, if_pos z3, if_neg (by omega)]
                exact ⟨0, by omega⟩
              · rw [if_neg z3, if_neg z3]
                exact ⟨0, by omega⟩
          have := dvp_add H hs step
          rwa [show ∀ (s A B F t : R), C - (s * B + F) + (F - (t * B + A)) = C - ((s + t) * B + A) from fun s A B F t => by grind] at this
theorem c_PV_reduce [Lean.Grind.CommRing R] {co : R → Nat → Int} {mk : Nat → (Nat → Int) → R} (H : PolyR co mk) {P : Nat} (hP : okP P) {a b : Nat} {dg : Int} {N : Nat} (ha : rz_isK a 1 = true) (haL : rz_len a = N) (hL : N ≤ 13) (hb : isL b 7) (hab : a ≠ b) (ha47 : a ≠ 47) (hd : 0 ≤ dg ∧ dg < 7) {m : rz_M} (hm : m 47 7 = P) (har : rng (m a) N P) (hbr : rng (m b) 7 P) (hb1 : m b dg = 1) (hbz : ∀ k : Int, dg < k → k < 7 → m b k = 0) {K : Int → rz_M → Prop}
    (h : ∀ g : Int → Int, rng g N P → (∀ k : Int, dg ≤ k → k < N → g k = 0) → (∃ s : R, dvp co P (pR mk N (m a) - (s * pR mk 7 (m b) + pR mk N g))) → K 0 (wr m a N g)) : rz_C y_PV_reduce [rR 47, rR a, rR b, rI dg] m K := by
  refine T_PV_reduce_0 _ _ _ _ _ ⟨by simp [ha], ?_⟩
  rw [haL, w32_id (by omega) (by omega)]
  have := l_PV_red6 H hP ha haL hL hb hab ha47 hd hm hbr hb1 hbz h N ((N : Int) - 1) (m a) (by omega) (by omega) har (fun k k0 _ k1 => by omega) ⟨0, by
    rw [show ∀ A B : R, A - (0 * B + A) = 0 from fun A B => by grind]
    exact dvp_zero H⟩
  rwa [wr_self2] at this
/-! degrees of rests -/
theorem dg_tpp [Lean.Grind.CommRing R] {co : R → Nat → Int} {mk : Nat → (Nat → Int) → R} (H : PolyR co mk) {P : Nat} {f : Int → Int} (hf : rng f 7 P) (h : 0 ≤ dg f) : tpp co P (pR mk 7 f) (dg f).toNat := by
  have r := dg_rng f
  have nz := dgk_nz f 7 h
  refine ⟨?_, fun k hk => ?_⟩
  · rw [co_pR H, if_pos (by omega), Int.toNat_of_nonneg h]
    exact not_dvd_rng (hf _ h (by omega)) nz
  · rw [co_pR H]
    split
    · rw [dgk_top f 7 k (by show dg f < k; omega) (by omega)]
      exact Int.dvd_zero _
    · exact Int.dvd_zero _
theorem dg_zero [Lean.Grind.CommRing R] {co : R → Nat → Int} {mk : Nat → (Nat → Int) → R} (H : PolyR co mk) (p : Int) {f : Int → Int} (h : dg f < 0) : dvp co p (pR mk 7 f) := fun k => by
  have r := dg_rng f
  rw [co_pR H]
  split
  · rw [dgk_top f 7 k (by show dg f < k; omega) (by omega)]
    exact Int.dvd_zero _
  · exact Int.dvd_zero _
theorem dg_of {f : Int → Int} {d : Int} (h0 : 0 ≤ d ∧ d < 7) (h1 : f d ≠ 0) (h2 : ∀ k : Int, d < k → k < 7 → f k = 0) : dg f = d := by
  have r := dg_rng f
  rcases Int.lt_trichotomy (dg f) d with q | q | q
  · exact absurd (dgk_top f 7 d q (by omega)) h1
  · exact q
  · exact absurd (h2 _ q (by omega)) (dgk_nz f 7 (by show 0 ≤ dg f; omega))
theorem dg_le {f : Int → Int} {d : Int} (h0 : 0 ≤ d) (h2 : ∀ k : Int, d ≤ k → k < 7 → f k = 0) : dg f < d := by
  have r := dg_rng f
  refine Classical.byContradiction fun q => ?_
  exact dgk_nz f 7 (by show 0 ≤ dg f; omega) (h2 (dg f) (by omega) (by omega))
/-- Euclid's way on the rows 52 and 53 -/
theorem l_PV_slr [Lean.Grind.CommRing R] {co : R → Nat → Int} {mk : Nat → (Nat → Int) → R} (H : PolyR co mk) {P : Nat} (hP : okP P) {A B : R} {m0 : rz_M} {K : Int → rz_M → Prop}
    (h : ∀ m' : rz_M, (∀ i, i ≠ 52 → i ≠ 53 → m' i = m0 i) → rng (m' 52) 7 P → rng (m' 53) 7 P → 0 ≤ dg (m' 52) → m' 52 (dg (m' 52)) = 1 → gcdp co P (pR mk 7 (m' 52)) A B → K (dg (m' 52)) m') : ∀ (n : Nat) (a b : Nat) (r : Int) (m : rz_M), (a = 52 ∧ b = 53 ∨ a = 53 ∧ b = 52) → (∀ i, i ≠ 52 → i ≠ 53 → m i = m0 i) → m 47 7 = P → rng (m 52) 7 P → rng (m 53) 7 P → dg (m b) + 1 = n → 0 ≤ r → r + n ≤ 13 → 0 ≤ dg (m a) → m a (dg (m a)) = 1 → (∀ G : R, gcdp co P G (pR mk 7 (m a)) (pR mk 7 (m b)) → gcdp co P G A B) → rz_E y_PV_shareLeftRight 18 [rR 47, rR a, rR b, rI (dg (m b)), rI r, rX 0] [] m K := by
  intro n
  induction n using Nat.strongRecOn with
  | ind n ih =>
    intro a b r m hab hfr hm r52 r53 hn hr hrn ha1 ha2 hG
    have p2 := hP.1.1
    have p3 := hP.2
    have i52 : isL 52 7 := ⟨by decide +kernel, by decide +kernel⟩
    have i53 : isL 53 7 := ⟨by decide +kernel, by decide +kernel⟩
    have ia : isL a 7 := by rcases hab with z | z <;> rw [z.1] <;> assumption
    have ib : isL b 7 := by rcases hab with z | z <;> rw [z.2] <;> assumption
    have ra : rng (m a) 7 P := by rcases hab with z | z <;> rw [z.1] <;> assumption
    have rb : rng (m b) 7 P := by rcases hab with z | z <;> rw [z.2] <;> assumption
    have ne : a ≠ b := by omega
    have ka : rz_isK a 1 = true := ia.1
    have la : rz_len a = 7 := by rcases hab with z | z <;> rw [z.1] <;> decide +kernel
    have r0 := dg_rng (m b)
    -- the end
    have fin : dg (m b) < 0 → rz_C y_RC_copy [rR a, rR 52] m (fun r2 m2 => rz_C y_RC_degreeOf [rR 52] m2 (fun r3 m3 => K r3 m3)) := fun q => by
      refine c_RC_copy ia i52 (c_RC_degreeOf i52 ?_)
      have e52 : ∀ k : Int, 0 ≤ k → k < 7 → wr m 52 7 (m a) 52 k = m a k := fun k k0 k1 => wr_in k0 k1
      have e53 : wr m 52 7 (m a) 53 = m 53 := wr_ne (by decide)
      have ed : dg (wr m 52 7 (m a) 52) = dg (m a) := dgk_congr (fun k k0 k1 => e52 k k0 (by omega))
      have rr := dg_rng (m a)
      refine h _ (fun i h1 h2 => (wr_ne h1).trans (hfr i h1 h2)) (fun k k0 k1 => by rw [e52 k k0 k1]; exact ra k k0 k1) (by rw [e53]; exact r53) (by rw [ed]; exact ha1) (by rw [ed, e52 _ ha1 (by omega)]; exact ha2) ?_
      rw [pR_congr H (f := wr m 52 7 (m a) 52) (g := m a) (fun k k0 k1 => e52 k k0 (by omega))]
      exact hG _ (gcdp_zero H (dg_zero H P q))
    refine T_PV_shareLeftRight_18 _ _ _ _ _ _ (bb (fun q => fin q) (fun q => bf (by omega) (c_PV_mewo (dg := dg (m b)) hP ib (by omega) ⟨by omega, by omega⟩ hm rb (fun k k0 k1 => dgk_top _ 7 k k0 (by omega)) (dgk_nz _ 7 (by show 0 ≤ dg (m b); omega)) (fun u g hg hu g1 gz gc => ?_))))
    have wb : wr m b 7 g b = fun y => if 0 ≤ y ∧ y < 7 then g y else m b y := by
      funext y
      unfold wr
      by_cases z : 0 ≤ y ∧ y < 7
      · rw [if_pos ⟨rfl, z.1, z.2⟩, if_pos z]
      · rw [if_neg (fun w => z w.2), if_neg z]
    have eb : ∀ k : Int, 0 ≤ k → k < 7 → wr m b 7 g b k = g k := fun k k0 k1 => wr_in k0 k1
    have ea : wr m b 7 g a = m a := wr_ne ne
    have rb2 : rng (wr m b 7 g b) 7 P := fun k k0 k1 => by rw [eb k k0 k1]; exact hg k k0 k1
    refine c_PV_reduce H hP (N := 7) ka la (by decide) ib ne (by omega) ⟨by omega, by omega⟩ (by rw [wr_ne (by omega)]; exact hm) (by rw [ea]; exact ra) rb2 (by rw [eb _ (by omega) (by omega)]; exact g1) (fun k k0 k1 => by rw [eb k (by omega) k1]; exact gz k k0 k1) (fun g2 hg2 hz2 hs => ?_)
    rw [show ((7 : Nat) : Int) = 7 from rfl] at hg2 hz2 ⊢
    obtain ⟨s, hs⟩ := hs
    rw [ea] at hs
    refine c_RC_degreeOf ia ?_
    rw [w32_id (by omega) (by omega)]
    have ea2 : ∀ k : Int, 0 ≤ k → k < 7 → wr (wr m b 7 g) a 7 g2 a k = g2 k := fun k k0 k1 => wr_in k0 k1
    have eb2 : wr (wr m b 7 g) a 7 g2 b = wr m b 7 g b := wr_ne (Ne.symm ne)
    have dl : dg (wr (wr m b 7 g) a 7 g2 a) < dg (m b) := dg_le (by omega) (fun k k0 k1 => by rw [ea2 k (by omega) k1]; exact hz2 k k0 (by omega))
    have db : dg (wr m b 7 g b) = dg (m b) := dg_of ⟨by omega, by omega⟩ (by rw [eb _ (by omega) (by omega), g1]; decide) (fun k k0 k1 => by rw [eb k (by omega) k1]; exact gz k k0 k1)
    have ra2 : rng (wr (wr m b 7 g) a 7 g2 a) 7 P := fun k k0 k1 => by rw [ea2 k k0 k1]; exact hg2 k k0 k1
    have rg := dg_rng (wr (wr m b 7 g) a 7 g2 a)
    have rb3 : rng (wr (wr m b 7 g) a 7 g2 b) 7 P := by rw [eb2]; exact rb2
    refine ih (dg (wr (wr m b 7 g) a 7 g2 a) + 1).toNat (by omega) b a (r + 1) _ (by omega) (fun i h1 h2 => ?_) ?_ ?_ ?_ (by omega) (by omega) (by omega) ?_ ?_ ?_
    · rw [wr_ne (by omega), wr_ne (by omega)]
      exact hfr i h1 h2
    · rw [wr_ne (by omega), wr_ne (by omega)]
      exact hm
    · rcases hab with z | z
      · rw [z.1] at ra2
        rw [z.1]; exact ra2
      · rw [z.2] at rb3
        rw [z.2]; exact rb3
    · rcases hab with z | z
      · rw [z.2] at rb3
        rw [z.2]; exact rb3
      · rw [z.1] at ra2
        rw [z.1]; exact ra2
    · rw [eb2, db]; omega
    · rw [eb2, db, eb _ (by omega) (by omega)]; exact g1
    · intro G hGG
      refine hG G ?_
      -- G of (b', a') is one of (a, b)
      rw [eb2, pR_congr H (f := wr (wr m b 7 g) a 7 g2 a) (g := g2) (fun k k0 k1 => ea2 k k0 (by omega))] at hGG
      have st := gcdp_step H hGG hs
      -- b' is u times b
      obtain ⟨c1, c2, w1, w2, c3⟩ := st
      have eu : dvp co P (pR mk 7 (wr m b 7 g b) - mo mk 0 u * pR mk 7 (m b)) := fun k => by
        rw [co_sub H, co_momul H, co_pR H, co_pR H, if_pos (Nat.zero_le _), Nat.sub_zero]
        split
        · rw [eb k (by omega) (by omega)]
          exact gc k (by omega) (by omega)
        · exact ⟨0, by omega⟩
      have ev : dvp co P (pR mk 7 (m b) - mo mk 0 (m b (dg (m b))) * pR mk 7 (wr m b 7 g b)) := by
        have e1 : dvp co P (1 - mo mk 0 (m b (dg (m b))) * mo mk 0 u) := fun k => by
          rw [co_sub H, co_momul H, co_mo H, H.2.2.2.1, if_pos (Nat.zero_le _), Nat.sub_zero]
          by_cases z : k = 0
          · rw [if_pos z, if_pos z]
            rw [show 1 - m b (dg (m b)) * u = -(u * m b (dg (m b)) - 1) from by grind]
            exact Int.dvd_neg.mpr hu
          · rw [if_neg z, if_neg z]
            exact ⟨0, by omega⟩
        have := dvp_add H (dvp_mul H (pR mk 7 (m b)) e1) (dvp_neg H (dvp_mul H (mo mk 0 (m b (dg (m b)))) eu))
        rwa [show ∀ b' b'' c u : R, b' * (1 - c * u) + -(c * (b'' - u * b')) = b' - c * b'' from fun b' b'' c u => by grind] at this
      refine ⟨c1, jd_nd H (jd_mul H (mo mk 0 (m b (dg (m b)))) c2) (by
        have := dvp_neg H ev
        rwa [show ∀ x y : R, -(x - y) = y - x from fun x y => by grind] at this), w1, w2 * mo mk 0 u, ?_⟩
      have := dvp_add H c3 (dvp_mul H w2 eu)
      rwa [show ∀ G a b' b w1 w2 u : R, G - (w1 * a + w2 * b') + w2 * (b' - u * b) = G - (w1 * a + w2 * u * b) from fun G a b' b w1 w2 u => by grind] at this
theorem c_PV_slr [Lean.Grind.CommRing R] {co : R → Nat → Int} {mk : Nat → (Nat → Int) → R} (H : PolyR co mk) {P : Nat} (hP : okP P) {m : rz_M} (hm : m 47 7 = P) (h52 : rng (m 52) 7 P) (h53 : rng (m 53) 7 P) (h0 : 0 ≤ dg (m 52)) (h1 : m 52 (dg (m 52)) = 1) {K : Int → rz_M → Prop}
    (h : ∀ m' : rz_M, (∀ i, i ≠ 52 → i ≠ 53 → m' i = m i) → rng (m' 52) 7 P → rng (m' 53) 7 P → 0 ≤ dg (m' 52) → m' 52 (dg (m' 52)) = 1 → gcdp co P (pR mk 7 (m' 52)) (pR mk 7 (m 52)) (pR mk 7 (m 53)) → K (dg (m' 52)) m') : rz_C y_PV_shareLeftRight [rR 47] m K := by
  have i53 : isL 53 7 := ⟨by decide +kernel, by decide +kernel⟩
  have r0 := dg_rng (m 53)
  refine T_PV_shareLeftRight_0 _ _ (c_RC_degreeOf i53 ?_)
  exact l_PV_slr H hP h (dg (m 53) + 1).toNat 52 53 0 m (Or.inl ⟨rfl, rfl⟩) (fun _ _ _ => rfl) hm h52 h53 (by omega) (Int.le_refl _) (by omega) h0 h1 (fun G hG => hG)
end
