/-! whole roots of a cubic: both sides look for them -/
def cb3 (p q r y : Int) : Int := ((y + p) * y + q) * y + r
theorem cb3_dv {p q r y : Int} (h : cb3 p q r y = 0) : y ∣ r := by
  unfold cb3 at h
  refine ⟨-((y + p) * y + q), ?_⟩
  rw [Int.mul_neg, Int.mul_comm y]
  omega
theorem cb3_bd {p q r y : Int} (hp : p.natAbs ≤ 100) (hq : q.natAbs ≤ 20000) (hr : r.natAbs ≤ 1100000) (h : cb3 p q r y = 0) : y.natAbs ≤ 21000 := by
  refine Classical.byContradiction fun w => ?_
  have e : y * y * y = -(p * (y * y) + q * y + r) := by unfold cb3 at h; grind
  have n1 : (p * (y * y)).natAbs ≤ 100 * (y.natAbs * y.natAbs) := by
    rw [← Int.natAbs_mul y y]
    exact nab hp (Nat.le_refl _)
  have n2 : (q * y).natAbs ≤ 20000 * y.natAbs := nab hq (Nat.le_refl _)
  have n3 : (y * y * y).natAbs = y.natAbs * y.natAbs * y.natAbs := by rw [Int.natAbs_mul, Int.natAbs_mul]
  have n4 : y.natAbs * y.natAbs * 21001 ≤ y.natAbs * y.natAbs * y.natAbs := Nat.mul_le_mul_left _ (by omega)
  have n5 : 21001 * y.natAbs ≤ y.natAbs * y.natAbs := Nat.mul_le_mul_right _ (by omega)
  have n6 : (y * y * y).natAbs ≤ (p * (y * y)).natAbs + (q * y).natAbs + r.natAbs := by rw [e]; omega
  omega
theorem cb3_w {p q r y : Int} (hp : p.natAbs ≤ 100) (hq : q.natAbs ≤ 20000) (hr : r.natAbs ≤ 1100000) (hy : y.natAbs ≤ 1100000) : (cb3 p q r y).natAbs ≤ 1400000000000000000 := by
  have n1 : ((y + p) * y).natAbs ≤ 1100100 * 1100000 := nab (by omega) hy
  have n2 : (((y + p) * y + q) * y).natAbs ≤ 1210110020000 * 1100000 := nab (by omega) hy
  unfold cb3
  omega
section
variable {p q r : Int} {m : rz_M} {K : Int → rz_M → Prop}
theorem l_RC_wr77 (hp : p.natAbs ≤ 100) (hq : q.natAbs ≤ 20000) (hr : r.natAbs ≤ 1100000) (h1 : ∀ y : Int, cb3 p q r y = 0 → y.natAbs ≤ 1100000 → K y m) {sz d w s0 s1 y : Int} (ey : s1 * s0 = y) (hy : y.natAbs ≤ 1100000) (hw : 0 ≤ w ∧ w < 4) (h : cb3 p q r y ≠ 0 → rz_E y_RC_wholeRoot 43 [rL p, rX 1, rL q, rX 1, rL r, rX 1, rL sz, rX 1, rL d, rX 1, rI (w + 1), rX 0, rX 0] [] m K) : rz_E y_RC_wholeRoot 77 [rL p, rX 1, rL q, rX 1, rL r, rX 1, rL sz, rX 1, rL d, rX 1, rI w, rX 0, rX 0] [rI s0, rL s1] m K := by
  refine T_RC_wholeRoot_77 _ _ _ _ _ _ _ _ _ _ ?_
  have b := cb3_w hp hq hr hy
  rw [ey, w64_id (z := y) (by omega) (by omega), w32_id (z := w + 1) (by omega) (by omega)]
  simp only [w64_addl, w64_addr, w64_mull, w64_mulr, w64_subl, w64_subr, w64_w64]
  have e : w64 (((y + p) * y + q) * y + r) = cb3 p q r y := w64_id (by unfold cb3 at b; omega) (by unfold cb3 at b; omega)
  rw [e]
  exact bb h (fun z => h1 y (Classical.not_not.mp z) hy)
theorem l_RC_wr19 (hp : p.natAbs ≤ 100) (hq : q.natAbs ≤ 20000) (hr : r.natAbs ≤ 1100000) (r0 : r ≠ 0) (h1 : ∀ y : Int, cb3 p q r y = 0 → y.natAbs ≤ 1100000 → K y m) (h0 : (∀ y : Int, cb3 p q r y ≠ 0) → K (-9223372036854775808) m) {sz : Int} (hs : sz = r.natAbs) : ∀ (n : Nat) (d : Int), 1200 - d ≤ n → 1 ≤ d → (d - 1) * (d - 1) ≤ sz → (∀ e : Int, 1 ≤ e → e < d → e ∣ sz → ∀ y : Int, (y = e ∨ y = -e ∨ y = sz / e ∨ y = -(sz / e)) → cb3 p q r y ≠ 0) → rz_E y_RC_wholeRoot 19 [rL p, rX 1, rL q, rX 1, rL r, rX 1, rL sz, rX 1, rL d, rX 1, rX 0, rX 0, rX 0] [] m K
  | 0, d, hn, d1, dd, cov => by
    exfalso
    have := Int.mul_self_le_mul_self (show (0 : Int) ≤ 1199 by decide) (show 1199 ≤ d - 1 by omega)
    omega
  | n + 1, d, hn, d1, dd, cov => by
    have dl : d ≤ 1200 := by
      refine Classical.byContradiction fun w => ?_
      have := Int.mul_self_le_mul_self (show (0 : Int) ≤ 1199 by decide) (show 1199 ≤ d - 1 by omega)
      omega
    have d2 := Int.mul_self_le_mul_self (show (0 : Int) ≤ d by omega) dl
    have d0 := Int.mul_nonneg (show (0 : Int) ≤ d by omega) (show (0 : Int) ≤ d by omega)
    refine T_RC_wholeRoot_19 _ _ _ _ _ _ _ ?_
    rw [w64_id (z := d * d) (by omega) (by omega), w64_id (z := d + 1) (by omega) (by omega)]
    refine bb (fun lt => h0 (fun y hy => ?_)) (fun le => ⟨by omega, bb (fun nd => ?_) (fun yd => ?_)⟩)
    · -- all whole roots are covered
      have dv : (y.natAbs : Int) ∣ sz := by
        rw [hs]
        exact Int.natAbs_dvd.mpr (Int.dvd_natAbs.mpr (cb3_dv hy))
      have y0 : y ≠ 0 := fun z => r0 (by rw [z] at hy; unfold cb3 at hy; omega)
      rcases Int.lt_or_le (y.natAbs : Int) d with z | z
      · exact cov y.natAbs (by omega) z dv y (by omega) hy
      · obtain ⟨k, hk⟩ := dv
        have kp : 0 < k := by
          refine Classical.byContradiction fun w => ?_
          have := Int.mul_nonpos_of_nonneg_of_nonpos (show (0 : Int) ≤ y.natAbs by omega) (show k ≤ 0 by omega)
          omega
        have kd : k < d := by
          refine Classical.byContradiction fun w => ?_
          have := Int.mul_le_mul z (show d ≤ k by omega) (by omega) (by omega)
          omega
        have e : sz / k = y.natAbs := by rw [hk]; exact Int.mul_ediv_cancel _ (by omega)
        refine cov k (by omega) kd ⟨y.natAbs, by rw [hk, Int.mul_comm]⟩ y ?_ hy
        rw [e]
        omega
    · refine l_RC_wr19 hp hq hr r0 h1 h0 hs n (d + 1) (by omega) (by omega) (by rw [show d + 1 - 1 = d from by omega]; omega) (fun e e1 e2 e3 => ?_)
      by_cases z : e = d
      · exfalso
        subst z
        exact nd (Int.tmod_eq_zero_of_dvd e3)
      · exact cov e e1 (by omega) e3
    · have dv : d ∣ sz := Int.dvd_of_tmod_eq_zero (Classical.not_not.mp yd)
      have et : Int.tdiv sz d = sz / d := Int.tdiv_eq_ediv_of_nonneg (by omega)
      have q0 := Int.ediv_nonneg (show (0 : Int) ≤ sz by omega) (show (0 : Int) ≤ d by omega)
      have q1 := Int.ediv_le_self d (show (0 : Int) ≤ sz by omega)
      have dsz : d ≤ sz := Int.le_of_dvd (by omega) dv
      have nx : (∀ y : Int, (y = d ∨ y = -d ∨ y = sz / d ∨ y = -(sz / d)) → cb3 p q r y ≠ 0) → rz_E y_RC_wholeRoot 43 [rL p, rX 1, rL q, rX 1, rL r, rX 1, rL sz, rX 1, rL d, rX 1, rI (3 + 1), rX 0, rX 0] [] m K := fun hc => by
        refine T_RC_wholeRoot_43 _ _ _ _ _ _ _ _ (bt (by decide) ?_)
        rw [w64_id (z := d + 1) (by omega) (by omega)]
        refine l_RC_wr19 hp hq hr r0 h1 h0 hs n (d + 1) (by omega) (by omega) (by rw [show d + 1 - 1 = d from by omega]; omega) (fun e e1 e2 e3 => ?_)
        by_cases z : e = d
        · rw [z]; exact hc
        · exact cov e e1 (by omega) e3
      have st0 : (cb3 p q r d ≠ 0 → rz_E y_RC_wholeRoot 43 [rL p, rX 1, rL q, rX 1, rL r, rX 1, rL sz, rX 1, rL d, rX 1, rI (0 + 1), rX 0, rX 0] [] m K) → rz_E y_RC_wholeRoot 43 [rL p, rX 1, rL q, rX 1, rL r, rX 1, rL sz, rX 1, rL d, rX 1, rI 0, rX 0, rX 0] [] m K := fun h => T_RC_wholeRoot_43 _ _ _ _ _ _ _ _ (bf (by decide) (bf (by decide) ⟨by decide, bf (by decide) (l_RC_wr77 hp hq hr h1 (y := d) (by omega) (by omega) (by decide) h)⟩))
      have st1 : (cb3 p q r (-d) ≠ 0 → rz_E y_RC_wholeRoot 43 [rL p, rX 1, rL q, rX 1, rL r, rX 1, rL sz, rX 1, rL d, rX 1, rI (1 + 1), rX 0, rX 0] [] m K) → rz_E y_RC_wholeRoot 43 [rL p, rX 1, rL q, rX 1, rL r, rX 1, rL sz, rX 1, rL d, rX 1, rI (0 + 1), rX 0, rX 0] [] m K := fun h => T_RC_wholeRoot_43 _ _ _ _ _ _ _ _ (bf (by decide) (bf (by decide) ⟨by decide, bt (by decide) (l_RC_wr77 hp hq hr h1 (y := -d) (by omega) (by omega) (by decide) h)⟩))
      have st2 : (cb3 p q r (sz / d) ≠ 0 → rz_E y_RC_wholeRoot 43 [rL p, rX 1, rL q, rX 1, rL r, rX 1, rL sz, rX 1, rL d, rX 1, rI (2 + 1), rX 0, rX 0] [] m K) → rz_E y_RC_wholeRoot 43 [rL p, rX 1, rL q, rX 1, rL r, rX 1, rL sz, rX 1, rL d, rX 1, rI (1 + 1), rX 0, rX 0] [] m K := fun h => T_RC_wholeRoot_43 _ _ _ _ _ _ _ _ (bf (by decide) (bt (by decide) ⟨by omega, by decide, bf (by decide) (l_RC_wr77 hp hq hr h1 (y := sz / d) (by rw [et, w64_id (by omega) (by omega)]; omega) (by omega) (by decide) h)⟩))
      have st3 : (cb3 p q r (-(sz / d)) ≠ 0 → rz_E y_RC_wholeRoot 43 [rL p, rX 1, rL q, rX 1, rL r, rX 1, rL sz, rX 1, rL d, rX 1, rI (3 + 1), rX 0, rX 0] [] m K) → rz_E y_RC_wholeRoot 43 [rL p, rX 1, rL q, rX 1, rL r, rX 1, rL sz, rX 1, rL d, rX 1, rI (2 + 1), rX 0, rX 0] [] m K := fun h => T_RC_wholeRoot_43 _ _ _ _ _ _ _ _ (bf (by decide) (bt (by decide) ⟨by omega, by decide, bt (by decide) (l_RC_wr77 hp hq hr h1 (y := -(sz / d)) (by rw [et, w64_id (by omega) (by omega)]; omega) (by omega) (by decide) h)⟩))
      exact st0 (fun a => st1 (fun b => st2 (fun c => st3 (fun e => nx (fun y hy => by
        rcases hy with z | z | z | z
        · rw [z]; exact a
        · rw [z]; exact b
        · rw [z]; exact c
        · rw [z]; exact e)))))
theorem c_RC_wholeRoot (hp : p.natAbs ≤ 100) (hq : q.natAbs ≤ 20000) (hr : r.natAbs ≤ 1100000) (h1 : ∀ y : Int, cb3 p q r y = 0 → y.natAbs ≤ 1100000 → K y m) (h0 : (∀ y : Int, cb3 p q r y ≠ 0) → K (-9223372036854775808) m) : rz_C y_RC_wholeRoot [rL p, rL q, rL r] m K := by
  refine T_RC_wholeRoot_0 _ _ _ _ _ (bb (fun r0 => ?_) (fun z => h1 0 (by unfold cb3; omega) (by decide)))
  rw [abs_nz (by omega)]
  exact l_RC_wr19 hp hq hr r0 h1 h0 rfl 1200 1 (by omega) (by decide) (by omega) (fun e e1 e2 => by omega)
/-- how many whole roots there are from -21000 on -/
def rtN (p q r t many root : Int) : Prop := (many = 0 ∧ ∀ y : Int, -21000 ≤ y → y < t → cb3 p q r y ≠ 0) ∨ (many = 1 ∧ -21000 ≤ root ∧ root < t ∧ cb3 p q r root = 0 ∧ ∀ y : Int, -21000 ≤ y → y < t → cb3 p q r y = 0 → y = root) ∨ (2 ≤ many ∧ many ≤ t + 21000 ∧ ∃ y1 y2 : Int, y1 ≠ y2 ∧ cb3 p q r y1 = 0 ∧ cb3 p q r y2 = 0)
theorem rtN_up {p q r t many root : Int} (h : rtN p q r t many root) (ht : -21000 ≤ t) : (cb3 p q r t ≠ 0 → rtN p q r (t + 1) many root) ∧ (cb3 p q r t = 0 → rtN p q r (t + 1) (many + 1) t) := by
  refine ⟨fun hn => ?_, fun hz => ?_⟩
  · rcases h with ⟨a, b⟩ | ⟨a, b, c, d, e⟩ | ⟨a, b, c⟩
    · refine Or.inl ⟨a, fun y y0 y1 => ?_⟩
      by_cases z : y = t
      · rw [z]; exact hn
      · exact b y y0 (by omega)
    · refine Or.inr (Or.inl ⟨a, b, by omega, d, fun y y0 y1 y2 => ?_⟩)
      by_cases z : y = t
      · rw [z] at y2; exact absurd y2 hn
      · exact e y y0 (by omega) y2
    · exact Or.inr (Or.inr ⟨a, by omega, c⟩)
  · rcases h with ⟨a, b⟩ | ⟨a, b, c, d, e⟩ | ⟨a, b, c⟩
    · refine Or.inr (Or.inl ⟨by omega, ht, by omega, hz, fun y y0 y1 y2 => ?_⟩)
      refine Classical.byContradiction fun z => b y y0 (by omega) y2
    · exact Or.inr (Or.inr ⟨by omega, by omega, root, t, by omega, d, hz⟩)
    · exact Or.inr (Or.inr ⟨by omega, by omega, c⟩)
theorem l_M_qr59 {a b d di : Int} (hb : b.natAbs ≤ 100) (hq : q.natAbs ≤ 20000) (hr : r.natAbs ≤ 1100000) (h : ∀ many root : Int, rtN (-b) q r 21001 many root → rz_E y_M_quarticOf 59 [rX 0, rL a, rX 1, rL b, rX 1, rX 0, rX 0, rL d, rX 1, rL di, rX 1, rL q, rX 1, rL r, rX 1, rI many, rL root, rX 1, rL 21001, rX 1, rX 0, rX 0, rX 0] [] m K) : ∀ (n : Nat) (t many root : Int), 21001 - t = n → -21000 ≤ t → rtN (-b) q r t many root → rz_E y_M_quarticOf 59 [rX 0, rL a, rX 1, rL b, rX 1, rX 0, rX 0, rL d, rX 1, rL di, rX 1, rL q, rX 1, rL r, rX 1, rI many, rL root, rX 1, rL t, rX 1, rX 0, rX 0, rX 0] [] m K
  | 0, t, many, root, hn, ht, hN => by
    have e : t = 21001 := by omega
    subst e
    exact h many root hN
  | n + 1, t, many, root, hn, ht, hN => by
    have bm : 0 ≤ many ∧ many ≤ 42002 := by
      rcases hN with ⟨x, _⟩ | ⟨x, _⟩ | ⟨x, y, _⟩ <;> omega
    have bw := cb3_w (p := -b) (q := q) (r := r) (y := t) (by omega) hq hr (by omega)
    obtain ⟨u1, u2⟩ := rtN_up hN ht
    refine T_M_quarticOf_59 _ _ _ _ _ _ _ _ _ _ _ (bf (by omega) ?_)
    simp only [w64_addl, w64_addr, w64_mull, w64_mulr, w64_subl, w64_subr, w64_w64]
    have e : w64 (t * t * t - b * t * t + q * t + r) = cb3 (-b) q r t := by
      have e2 : t * t * t - b * t * t + q * t + r = cb3 (-b) q r t := by unfold cb3; grind
      rw [e2]
      exact w64_id (by omega) (by omega)
    rw [e, w64_id (z := t + 1) (by omega) (by omega), w32_id (z := many + 1) (by omega) (by omega)]
    exact bb (fun z => l_M_qr59 hb hq hr h n (t + 1) many root (by omega) (by omega) (u1 z)) (fun z => l_M_qr59 hb hq hr h n (t + 1) (many + 1) t (by omega) (by omega) (u2 (Classical.not_not.mp z)))
end
