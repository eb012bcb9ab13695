/-! polynomials of whole numbers: degrees, Gauss, those that can't be parted -/
section
variable {R : Type}
/-- the top place -/
def tz (co : R → Nat → Int) (a : R) (n : Nat) : Prop := co a n ≠ 0 ∧ ∀ k, n < k → co a k = 0
theorem tz_uniq {co : R → Nat → Int} {a : R} {n l : Nat} (h : tz co a n) (h2 : tz co a l) : n = l := by
  rcases Nat.lt_trichotomy n l with q | q | q
  · exact absurd (h.2 l q) h2.1
  · exact q
  · exact absurd (h2.2 n q) h.1
theorem eq0 [Lean.Grind.CommRing R] {co : R → Nat → Int} {mk : Nat → (Nat → Int) → R} (H : PolyR co mk) {a : R} (h : ∀ n, co a n = 0) : a = 0 := H.1 _ _ (fun n => by rw [h n, co_zero H])
theorem tz_ex [Lean.Grind.CommRing R] {co : R → Nat → Int} {mk : Nat → (Nat → Int) → R} (H : PolyR co mk) {a : R} (h : a ≠ 0) : ∃ n, tz co a n := by
  obtain ⟨N, hN⟩ := H.2.2.2.2.1 a
  have : ∃ i, co a i ≠ 0 := Classical.byContradiction fun q => h (eq0 H (fun n => Classical.byContradiction fun z => q ⟨n, z⟩))
  obtain ⟨i, h1, h2⟩ := nat_max (P := fun n => co a n ≠ 0) N (fun k hk q => q (hN k hk)) this
  exact ⟨i, h1, fun k hk => Classical.not_not.mp (h2 k hk)⟩
theorem tz_ne [Lean.Grind.CommRing R] {co : R → Nat → Int} {mk : Nat → (Nat → Int) → R} (H : PolyR co mk) {a : R} {n : Nat} (h : tz co a n) : a ≠ 0 := fun q => h.1 (by rw [q, co_zero H])
theorem co_top [Lean.Grind.CommRing R] {co : R → Nat → Int} {mk : Nat → (Nat → Int) → R} (H : PolyR co mk) {a b : R} {n l : Nat} (ha : ∀ k, n < k → co a k = 0) (hb : ∀ k, l < k → co b k = 0) : co (a * b) (n + l) = co a n * co b l ∧ ∀ k, n + l < k → co (a * b) k = 0 := by
  constructor
  · rw [H.2.2.1]
    unfold cv
    rw [sg_one (j := n) (n + l + 1) (by omega) (fun i hi hne => ?_), show n + l - n = l from by omega]
    by_cases q : n < i
    · rw [ha i q, Int.zero_mul]
    · rw [hb (n + l - i) (by omega), Int.mul_zero]
  · intro k hk
    rw [H.2.2.1]
    refine sg_zero _ (fun i hi => ?_)
    by_cases q : n < i
    · show co a i * _ = 0
      rw [ha i q, Int.zero_mul]
    · show co a i * co b (k - i) = 0
      rw [hb (k - i) (by omega), Int.mul_zero]
theorem tz_mul [Lean.Grind.CommRing R] {co : R → Nat → Int} {mk : Nat → (Nat → Int) → R} (H : PolyR co mk) {a b : R} {n l : Nat} (ha : tz co a n) (hb : tz co b l) : tz co (a * b) (n + l) := by
  have := co_top H ha.2 hb.2
  exact ⟨by rw [this.1]; exact Int.mul_ne_zero ha.1 hb.1, this.2⟩
theorem nzd [Lean.Grind.CommRing R] {co : R → Nat → Int} {mk : Nat → (Nat → Int) → R} (H : PolyR co mk) {a b : R} (h : a * b = 0) : a = 0 ∨ b = 0 := by
  refine Classical.byContradiction fun q => ?_
  have ha : a ≠ 0 := fun z => q (Or.inl z)
  have hb : b ≠ 0 := fun z => q (Or.inr z)
  obtain ⟨n, hn⟩ := tz_ex H ha
  obtain ⟨l, hl⟩ := tz_ex H hb
  exact tz_ne H (tz_mul H hn hl) h
theorem zcancel [Lean.Grind.CommRing R] {co : R → Nat → Int} {mk : Nat → (Nat → Int) → R} (H : PolyR co mk) {q a b : R} (hq : q ≠ 0) (h : q * a = q * b) : a = b := by
  rcases nzd H (a := q) (b := a - b) (by grind) with z | z
  · exact absurd z hq
  · grind
def zd [Lean.Grind.CommRing R] (q a : R) : Prop := ∃ h, a = q * h
theorem zd_mul [Lean.Grind.CommRing R] {q a : R} (b : R) (h : zd q a) : zd q (b * a) := by
  obtain ⟨g, hg⟩ := h
  exact ⟨b * g, by grind⟩
theorem zd_add [Lean.Grind.CommRing R] {q a b : R} (h1 : zd q a) (h2 : zd q b) : zd q (a + b) := by
  obtain ⟨g, hg⟩ := h1
  obtain ⟨k, hk⟩ := h2
  exact ⟨g + k, by grind⟩
theorem zd_tr [Lean.Grind.CommRing R] {q a b : R} (h1 : zd q a) (h2 : zd a b) : zd q b := by
  obtain ⟨g, hg⟩ := h1
  obtain ⟨k, hk⟩ := h2
  exact ⟨g * k, by grind⟩
theorem zd_rf [Lean.Grind.CommRing R] (q : R) : zd q q := ⟨1, by grind⟩
theorem zd_deg [Lean.Grind.CommRing R] {co : R → Nat → Int} {mk : Nat → (Nat → Int) → R} (H : PolyR co mk) {q a h : R} {n : Nat} (hn : tz co a n) (e : a = q * h) : ∃ i j, tz co q i ∧ tz co h j ∧ i + j = n := by
  have hq : q ≠ 0 := fun z => tz_ne H hn (by rw [e, z]; grind)
  have hh : h ≠ 0 := fun z => tz_ne H hn (by rw [e, z]; grind)
  obtain ⟨i, hi⟩ := tz_ex H hq
  obtain ⟨j, hj⟩ := tz_ex H hh
  exact ⟨i, j, hi, hj, tz_uniq (by rw [e]; exact tz_mul H hi hj) hn⟩
/-- no prime divides all its numbers -/
def prim (co : R → Nat → Int) (a : R) : Prop := ∀ p : Int, isPr p → ¬ dvp co p a
theorem pr_ex {c : Int} (h : 2 ≤ c) : ∃ p, isPr p ∧ p ∣ c := by
  obtain ⟨i, h1, h2⟩ := nat_min (P := fun n => 2 ≤ n ∧ (n : Int) ∣ c) c.toNat ⟨by omega, by rw [Int.toNat_of_nonneg (by omega)]; exact Int.dvd_refl c⟩
  refine ⟨i, tpr_pr ⟨by omega, fun d d1 d2 d3 => ?_⟩, h1.2⟩
  have l := Int.le_of_dvd (by omega) d3
  have ne : d < i := by
    refine Classical.byContradiction fun q => ?_
    have e : d = i := by omega
    subst e
    have : 2 * (i : Int) ≤ i * i := Int.mul_le_mul_of_nonneg_right (by omega) (by omega)
    omega
  refine h2 d.toNat (by omega) ⟨by omega, ?_⟩
  rw [Int.toNat_of_nonneg (by omega)]
  exact Int.dvd_trans d3 h1.2
theorem pr_ex2 {c : Int} (h0 : c ≠ 0) (h1 : c ≠ 1) (h2 : c ≠ -1) : ∃ p, isPr p ∧ p ∣ c := by
  rcases Int.lt_or_le c 0 with q | q
  · obtain ⟨p, hp, hd⟩ := pr_ex (c := -c) (by omega)
    exact ⟨p, hp, Int.dvd_neg.mp hd⟩
  · exact pr_ex (by omega)
theorem dvp_div [Lean.Grind.CommRing R] {co : R → Nat → Int} {mk : Nat → (Nat → Int) → R} (H : PolyR co mk) {p : Int} {a : R} (h : dvp co p a) : ∃ b, a = mo mk 0 p * b := by
  obtain ⟨N, hN⟩ := H.2.2.2.2.1 a
  refine ⟨mk N (fun k => co a k / p), H.1 _ _ (fun k => ?_)⟩
  rw [co_momul H, if_pos (Nat.zero_le _), Nat.sub_zero, H.2.2.2.2.2]
  by_cases q : k < N
  · rw [if_pos q, Int.mul_ediv_cancel' (h k)]
  · rw [if_neg q, hN k (by omega), Int.mul_zero]
theorem co_C [Lean.Grind.CommRing R] {co : R → Nat → Int} {mk : Nat → (Nat → Int) → R} (H : PolyR co mk) (c : Int) (a : R) (k : Nat) : co (mo mk 0 c * a) k = c * co a k := by
  rw [co_momul H, if_pos (Nat.zero_le _), Nat.sub_zero]
theorem C_mul [Lean.Grind.CommRing R] {co : R → Nat → Int} {mk : Nat → (Nat → Int) → R} (H : PolyR co mk) (c d : Int) : (mo mk 0 (c * d) : R) = mo mk 0 c * mo mk 0 d := H.1 _ _ (fun k => by
  rw [co_C H, co_mo H, co_mo H]
  split
  · rfl
  · rw [Int.mul_zero])
theorem C_one [Lean.Grind.CommRing R] {co : R → Nat → Int} {mk : Nat → (Nat → Int) → R} (H : PolyR co mk) : (mo mk 0 1 : R) = 1 := H.1 _ _ (fun k => by rw [co_mo H, H.2.2.2.1])
theorem C_ne [Lean.Grind.CommRing R] {co : R → Nat → Int} {mk : Nat → (Nat → Int) → R} (H : PolyR co mk) {c : Int} (h : c ≠ 0) : (mo mk 0 c : R) ≠ 0 := fun q => by
  have := co_mo H 0 c 0 (R := R)
  rw [q, co_zero H, if_pos rfl] at this
  exact h this.symm
/-- Gauss: what a primitive one divides but for a number, it divides -/
theorem gauss [Lean.Grind.CommRing R] {co : R → Nat → Int} {mk : Nat → (Nat → Int) → R} (H : PolyR co mk) {q h : R} (hq : prim co q) : ∀ (n : Nat) (c : Int) (s : R), c.natAbs ≤ n → c ≠ 0 → q * s = mo mk 0 c * h → zd q h := by
  intro n
  induction n with
  | zero => intro c s h1 h2; omega
  | succ n ih =>
    intro c s h1 h2 e
    by_cases c1 : c = 1
    · subst c1
      exact ⟨s, by rw [e, C_one H]; grind⟩
    · by_cases c2 : c = -1
      · subst c2
        refine ⟨-s, H.1 _ _ (fun k => ?_)⟩
        have := congrArg (fun x => co x k) e
        rw [show q * -s = -(q * s) from by grind, co_neg H]
        rw [co_C H] at this
        omega
      · obtain ⟨p, hp, pd⟩ := pr_ex2 h2 c1 c2
        obtain ⟨d, hd⟩ := pd
        have p2 := hp.1
        have dq : dvp co p (q * s) := fun k => by
          rw [e, co_C H, hd]
          exact Int.dvd_mul_of_dvd_left (Int.dvd_mul_right p d)
        rcases dvp_prime H hp dq with z | z
        · exact absurd z (hq p hp)
        · obtain ⟨s', hs'⟩ := dvp_div H z
          refine ih d s' ?_ (fun w => h2 (by rw [hd, w, Int.mul_zero])) ?_
          · rw [hd, Int.natAbs_mul] at h1
            have : 2 * d.natAbs ≤ p.natAbs * d.natAbs := Nat.mul_le_mul_right _ (by omega)
            have : d ≠ 0 := fun w => h2 (by rw [hd, w, Int.mul_zero])
            omega
          · refine zcancel H (C_ne H (show p ≠ 0 by omega)) ?_
            rw [hd, C_mul H] at e
            rw [hs'] at e
            grind
/-- each one that isn't nought is a number times a primitive one -/
theorem prim_ex [Lean.Grind.CommRing R] {co : R → Nat → Int} {mk : Nat → (Nat → Int) → R} (H : PolyR co mk) : ∀ (n : Nat) (a : R) (k : Nat), tz co a k → (co a k).natAbs ≤ n → ∃ (c : Int) (b : R), c ≠ 0 ∧ a = mo mk 0 c * b ∧ prim co b := by
  intro n
  induction n with
  | zero => intro a k h1 h2; exact absurd h1.1 (by omega)
  | succ n ih =>
    intro a k h1 h2
    rcases Classical.em (prim co a) with q | q
    · exact ⟨1, a, by decide, by rw [C_one H]; grind, q⟩
    · obtain ⟨p, hp⟩ := Classical.not_forall.mp q
      have hp1 : isPr p ∧ dvp co p a := by
        refine Classical.byContradiction fun z => hp (fun u v => z ⟨u, v⟩)
      obtain ⟨b, hb⟩ := dvp_div H hp1.2
      have p2 := hp1.1.1
      have tb : tz co b k := by
        refine ⟨fun z => h1.1 ?_, fun l hl => ?_⟩
        · rw [hb, co_C H, z, Int.mul_zero]
        · have := h1.2 l hl
          rw [hb, co_C H] at this
          rcases Int.mul_eq_zero.mp this with w | w
          · omega
          · exact w
      have lt : (co b k).natAbs ≤ n := by
        rw [hb, co_C H, Int.natAbs_mul] at h2
        have : 2 * (co b k).natAbs ≤ p.natAbs * (co b k).natAbs := Nat.mul_le_mul_right _ (by omega)
        have := tb.1
        omega
      obtain ⟨c, b', h3, h4, h5⟩ := ih b k tb lt
      exact ⟨p * c, b', Int.mul_ne_zero (by omega) h3, by rw [C_mul H, hb, h4]; grind, h5⟩
/-- division but for a number -/
theorem pdiv [Lean.Grind.CommRing R] {co : R → Nat → Int} {mk : Nat → (Nat → Int) → R} (H : PolyR co mk) {b : R} {l : Nat} (hb : tz co b l) : ∀ (N : Nat) (a : R), (∀ k, N ≤ k → co a k = 0) → ∃ (c : Int) (q r : R), c ≠ 0 ∧ mo mk 0 c * a = q * b + r ∧ ∀ k, l ≤ k → co r k = 0
  | 0, a, h => ⟨1, 0, a, by decide, by rw [C_one H]; grind, fun k _ => h k (by omega)⟩
  | N + 1, a, h => by
    by_cases q : N + 1 ≤ l
    · exact ⟨1, 0, a, by decide, by rw [C_one H]; grind, fun k hk => h k (by omega)⟩
    · have h' : ∀ k, N ≤ k → co (mo mk 0 (co b l) * a - mo mk (N - l) (co a N) * b) k = 0 := by
        intro k hk
        rw [co_sub H, co_C H, co_momul H, if_pos (by omega)]
        by_cases z : k = N
        · subst z
          rw [show k - (k - l) = l from by omega, Int.mul_comm]
          omega
        · rw [h k (by omega), hb.2 (k - (N - l)) (by omega), Int.mul_zero, Int.mul_zero]
          rfl
      obtain ⟨c, q2, r, c0, e, hr⟩ := pdiv H hb N _ h'
      refine ⟨c * co b l, q2 + mo mk 0 c * mo mk (N - l) (co a N), r, Int.mul_ne_zero c0 hb.1, ?_, hr⟩
      rw [C_mul H]
      grind
def unitZ [Lean.Grind.CommRing R] (a : R) : Prop := a = 1 ∨ a = -1
/-- it can't be parted (of degree 1 or more) -/
def irz [Lean.Grind.CommRing R] (co : R → Nat → Int) (q : R) (e : Nat) : Prop := 1 ≤ e ∧ tz co q e ∧ ∀ a b : R, q = a * b → unitZ a ∨ unitZ b
theorem irz_prim [Lean.Grind.CommRing R] {co : R → Nat → Int} {mk : Nat → (Nat → Int) → R} (H : PolyR co mk) {q : R} {e : Nat} (h : irz co q e) : prim co q := by
  intro p hp hd
  obtain ⟨b, hb⟩ := dvp_div H hd
  have p2 := hp.1
  rcases h.2.2 _ _ hb with z | z
  · have c0 := co_mo H 0 p 0 (R := R)
    rw [if_pos rfl] at c0
    rcases z with w | w
    · rw [w, H.2.2.2.1, if_pos rfl] at c0
      omega
    · rw [w, co_neg H, H.2.2.2.1, if_pos rfl] at c0
      omega
  · have e1 := h.2.1.1
    rw [hb, co_C H] at e1
    have : co b e = 0 := by
      have e0 := h.1
      rcases z with w | w
      · rw [w, H.2.2.2.1, if_neg (by omega)]
      · rw [w, co_neg H, H.2.2.2.1, if_neg (by omega)]
        rfl
    rw [this, Int.mul_zero] at e1
    exact e1 rfl
/-- one that can't be parted and one that it doesn't divide make a number -/
theorem zbez [Lean.Grind.CommRing R] {co : R → Nat → Int} {mk : Nat → (Nat → Int) → R} (H : PolyR co mk) {q a : R} {e : Nat} (hq : irz co q e) (ha : ¬ zd q a) : ∃ (u v : R) (c : Int), c ≠ 0 ∧ u * q + v * a = mo mk 0 c := by
  -- the least degree in the ideal
  obtain ⟨i, ⟨r, ⟨⟨u, v, hr⟩, ht⟩⟩, hmin⟩ := nat_min (P := fun n => ∃ r : R, (∃ u v : R, r = u * q + v * a) ∧ tz co r n) e ⟨q, ⟨1, 0, by grind⟩, hq.2.1⟩
  have all : ∀ x : R, (∃ u v : R, x = u * q + v * a) → ∃ (c : Int) (s : R), c ≠ 0 ∧ mo mk 0 c * x = s * r := by
    intro x ⟨u', v', hx⟩
    obtain ⟨N, hN⟩ := H.2.2.2.2.1 x
    obtain ⟨c, s, t, c0, e1, e2⟩ := pdiv H ht N x hN
    refine ⟨c, s, c0, ?_⟩
    have t0 : t = 0 := Classical.byContradiction fun z => by
      obtain ⟨n, hn⟩ := tz_ex H z
      have nl : n < i := Classical.byContradiction fun w => hn.1 (e2 n (by omega))
      exact hmin n nl ⟨t, ⟨mo mk 0 c * u' - s * u, mo mk 0 c * v' - s * v, by grind⟩, hn⟩
    rw [e1, t0]
    grind
  obtain ⟨k, r0, k0, hk, pr0⟩ := prim_ex H _ r i ht (Nat.le_refl _)
  obtain ⟨c1, s1, c10, e1⟩ := all q ⟨1, 0, by grind⟩
  obtain ⟨c2, s2, c20, e2⟩ := all a ⟨0, 1, by grind⟩
  have d1 : zd r0 q := gauss H pr0 c1.natAbs c1 (s1 * mo mk 0 k) (Nat.le_refl _) c10 (by rw [e1, hk]; grind)
  have d2 : zd r0 a := gauss H pr0 c2.natAbs c2 (s2 * mo mk 0 k) (Nat.le_refl _) c20 (by rw [e2, hk]; grind)
  obtain ⟨t, hqt⟩ := d1
  rcases hq.2.2 _ _ hqt with z | z
  · rcases z with w | w
    · exact ⟨u, v, k, k0, by rw [← hr, hk, w]; grind⟩
    · exact ⟨-u, -v, k, k0, by rw [show -u * q + -v * a = -(u * q + v * a) from by grind, ← hr, hk, w]; grind⟩
  · exfalso
    refine ha (zd_tr ?_ d2)
    rcases z with w | w
    · exact ⟨1, by rw [hqt, w]; grind⟩
    · exact ⟨-1, by rw [hqt, w]; grind⟩
theorem irz_prime [Lean.Grind.CommRing R] {co : R → Nat → Int} {mk : Nat → (Nat → Int) → R} (H : PolyR co mk) {q a b : R} {e : Nat} (hq : irz co q e) (h : zd q (a * b)) : zd q a ∨ zd q b := by
  refine Classical.or_iff_not_imp_left.mpr fun na => ?_
  obtain ⟨u, v, c, c0, e1⟩ := zbez H hq na
  obtain ⟨g, hg⟩ := h
  exact gauss H (irz_prim H hq) c.natAbs c (u * b + v * g) (Nat.le_refl _) c0 (by rw [← e1]; grind)
end
