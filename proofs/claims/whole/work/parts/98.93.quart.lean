/-! quartics that can't be parted: their cubic resolvent and its discriminant -/
theorem nsq_dv {e v : Nat} (h : e * e ∣ v * v) (he : 0 < e) : e ∣ v := by
  have g0 : 0 < Nat.gcd e v := Nat.gcd_pos_of_pos_left v he
  obtain ⟨e', v', hc, h1, h2⟩ := Nat.exists_coprime e v
  have h3 : e' * e' ∣ v' * v' := by
    obtain ⟨c, hc⟩ := h
    refine ⟨c, ?_⟩
    have g2 : 0 < Nat.gcd e v * Nat.gcd e v := Nat.mul_pos g0 g0
    refine Nat.eq_of_mul_eq_mul_left g2 ?_
    have e1 : v * v = (v' * Nat.gcd e v) * (v' * Nat.gcd e v) := by rw [← h2]
    have e2 : e * e = (e' * Nat.gcd e v) * (e' * Nat.gcd e v) := by rw [← h1]
    rw [e1, e2] at hc
    generalize Nat.gcd e v = g at hc ⊢
    grind
  have h4 : e' ∣ v' * v' := Nat.dvd_trans (Nat.dvd_mul_left e' e') h3
  have h5 : e' ∣ v' := hc.dvd_of_dvd_mul_left h4
  have h6 : e' = 1 := Nat.Coprime.eq_one_of_dvd hc h5
  rw [h6, Nat.one_mul] at h1
  rw [h1]
  exact Nat.gcd_dvd_right e v
theorem isq_dv {e v X : Int} (h : v * v = X * (e * e)) (he : e ≠ 0) : ∃ w : Int, v = e * w ∧ X = w * w := by
  have d : e.natAbs * e.natAbs ∣ v.natAbs * v.natAbs := by
    rw [← Int.natAbs_mul, ← Int.natAbs_mul, Int.natAbs_dvd_natAbs]
    exact ⟨X, by rw [h, Int.mul_comm]⟩
  obtain ⟨w, hw⟩ := Int.natAbs_dvd_natAbs.mp (nsq_dv d (by omega))
  refine ⟨w, hw, ?_⟩
  have e2 : (e * e) * X = (e * e) * (w * w) := by rw [hw] at h; grind
  exact Int.eq_of_mul_eq_mul_left (Int.mul_ne_zero he he) e2
/-- the resolvent -/
def rsv (f : Int → Int) (y : Int) : Int := cb3 (-(f 2)) (f 3 * f 1 - 4 * f 0) (4 * f 2 * f 0 - f 3 * f 3 * f 0 - f 1 * f 1) y
theorem rsv_fac {f : Int → Int} {r : Int} (h : rsv f r = 0) (y : Int) : rsv f y = (y - r) * (y * y + (r - f 2) * y + (f 3 * f 1 - 4 * f 0 + r * (r - f 2))) := by
  unfold rsv cb3 at h ⊢
  generalize f 0 = d at h ⊢
  generalize f 1 = k at h ⊢
  generalize f 2 = b at h ⊢
  generalize f 3 = a at h ⊢
  grind
theorem rsv_dis {f : Int → Int} {r : Int} (f4 : f 4 = 1) (h : rsv f r = 0) : dis4 f = ((r - f 2) * (r - f 2) - 4 * (f 3 * f 1 - 4 * f 0 + r * (r - f 2))) * ((r * r + (r - f 2) * r + (f 3 * f 1 - 4 * f 0 + r * (r - f 2))) * (r * r + (r - f 2) * r + (f 3 * f 1 - 4 * f 0 + r * (r - f 2)))) := by
  have h27 := dis4_27 f
  have eI : sq4 f = f 2 * f 2 - 3 * (f 3 * f 1 - 4 * f 0) := by unfold sq4; rw [f4]; grind
  have eJ : cb4 f = 27 * (4 * f 2 * f 0 - f 3 * f 3 * f 0 - f 1 * f 1) + 9 * f 2 * (f 3 * f 1 - 4 * f 0) - 2 * f 2 * f 2 * f 2 := by unfold cb4; rw [f4]; grind
  unfold rsv cb3 at h
  generalize hs : r - f 2 = s at h ⊢
  generalize hq : f 3 * f 1 - 4 * f 0 = q at h eI eJ ⊢
  generalize hr : 4 * f 2 * f 0 - f 3 * f 3 * f 0 - f 1 * f 1 = c at h eJ
  generalize dis4 f = D at h27 ⊢
  generalize f 2 = b at hs h eI eJ
  have eb : b = r - s := by omega
  subst eb
  rw [eI, eJ] at h27
  have ec : c = -(r * (r * s + q)) := by grind
  subst ec
  have e27 : 27 * D = 27 * ((s * s - 4 * (q + r * s)) * ((r * r + s * r + (q + r * s)) * (r * r + s * r + (q + r * s)))) := by rw [← h27]; grind
  omega
section
variable {R : Type}
theorem irz_nolin [Lean.Grind.CommRing R] {co : R → Nat → Int} {mk : Nat → (Nat → Int) → R} (H : PolyR co mk) {q : R} {e : Nat} (h : irz co q e) (he : 2 ≤ e) : nolin mk q := by
  intro a b ha hz
  obtain ⟨g, hg⟩ := hz
  obtain ⟨i, j, hi, hj, hij⟩ := zd_deg H h.2.1 hg
  have i1 := tz_uniq hi (lin_tz H ha)
  have un : ∀ (u : R) (n : Nat), tz co u n → 1 ≤ n → ¬ unitZ u := fun u n hu hn z => by
    rcases z with w | w
    · have := tz_uniq hu (by rw [w]; exact tz_1 H)
      omega
    · have t : tz co (-1 : R) 0 := ⟨by rw [co_neg H, H.2.2.2.1, if_pos rfl]; decide, fun k hk => by rw [co_neg H, H.2.2.2.1, if_neg (by omega)]; rfl⟩
      have := tz_uniq hu (by rw [w]; exact t)
      omega
  rcases h.2.2 _ _ hg with z | z
  · exact un _ _ hi (by omega) z
  · exact un _ _ hj (by omega) z
theorem no_root [Lean.Grind.CommRing R] {co : R → Nat → Int} {mk : Nat → (Nat → Int) → R} (H : PolyR co mk) {f : Int → Int} {e : Nat} (h : irz co (pR mk 7 f) e) (he : 2 ≤ e) (c : Int) : ev7 f c ≠ 0 := fun z => irz_nolin H h he 1 (-c) (by decide) (ev_root H z)
end
/-- one with a triple root in its resolvent has a whole root -/
theorem triple_root {a b k d r : Int} (hb : b = 3 * r) (hq : a * k - 4 * d = 3 * (r * r)) (hr : 4 * b * d - a * a * d - k * k = -(r * r * r)) : ∃ c : Int, c * c * c * c + a * (c * c * c) + b * (c * c) + k * c + d = 0 := by
  have hW : (8 * k - 12 * r * a + a * a * a) * (8 * k - 12 * r * a + a * a * a) = (a * a - 8 * r) * ((a * a - 8 * r) * (a * a - 8 * r)) := by
    subst hb
    grind
  obtain ⟨v, hv, hw⟩ : ∃ v : Int, a * a - 8 * r = v * v ∧ 8 * k - 12 * r * a + a * a * a = v * v * v := by
    by_cases z : a * a - 8 * r = 0
    · rw [z] at hW
      refine ⟨0, z, ?_⟩
      rcases Int.mul_eq_zero.mp (show (8 * k - 12 * r * a + a * a * a) * (8 * k - 12 * r * a + a * a * a) = 0 by rw [hW]; rfl) with w | w <;> exact w
    · obtain ⟨w, h1, h2⟩ := isq_dv hW z
      exact ⟨w, h2, by rw [h1, h2]⟩
  generalize hN : v - a = N at *
  have eN : N * N * N * N + 4 * (a * (N * N * N)) + 16 * (b * (N * N)) + 64 * (k * N) + 256 * d = 0 := by
    subst hN
    subst hb
    grind
  -- it is even, and its half too
  obtain ⟨j, hj⟩ : ∃ j : Int, N = 2 * j := by
    rcases Int.emod_two_eq N with z | z
    · exact ⟨N / 2, by omega⟩
    · exfalso
      obtain ⟨j, hj⟩ : ∃ j : Int, N = 2 * j + 1 := ⟨N / 2, by omega⟩
      have : N * N * N * N = 8 * (2 * (j * j * j * j) + 4 * (j * j * j) + 3 * (j * j) + j) + 1 := by rw [hj]; grind
      omega
  have eJ : j * j * j * j + 2 * (a * (j * j * j)) + 4 * (b * (j * j)) + 8 * (k * j) + 16 * d = 0 := by
    have : 16 * (j * j * j * j + 2 * (a * (j * j * j)) + 4 * (b * (j * j)) + 8 * (k * j) + 16 * d) = 0 := by rw [← eN, hj]; grind
    omega
  obtain ⟨c, hc⟩ : ∃ c : Int, j = 2 * c := by
    rcases Int.emod_two_eq j with z | z
    · exact ⟨j / 2, by omega⟩
    · exfalso
      obtain ⟨i, hi⟩ : ∃ i : Int, j = 2 * i + 1 := ⟨j / 2, by omega⟩
      have : j * j * j * j = 8 * (2 * (i * i * i * i) + 4 * (i * i * i) + 3 * (i * i) + i) + 1 := by rw [hi]; grind
      omega
  refine ⟨c, ?_⟩
  have : 16 * (c * c * c * c + a * (c * c * c) + b * (c * c) + k * c + d) = 0 := by rw [← eJ, hc]; grind
  omega
section
variable {R : Type}
theorem quart_res [Lean.Grind.CommRing R] {co : R → Nat → Int} {mk : Nat → (Nat → Int) → R} (H : PolyR co mk) {f : Int → Int} (h : irz co (pR mk 7 f) 4) (f4 : f 4 = 1) {r : Int} (hr : rsv f r = 0) : isSq (dis4 f) ↔ ∃ r1 : Int, r1 ≠ r ∧ rsv f r1 = 0 := by
  have fz : f 5 = 0 ∧ f 6 = 0 := by
    have a := h.2.1.2 5 (by decide)
    have b := h.2.1.2 6 (by decide)
    rw [co_pR H, if_pos (by decide)] at a b
    exact ⟨a, b⟩
  have hd := rsv_dis f4 hr
  have hf := rsv_fac hr
  have hc : cb3 (-(f 2)) (f 3 * f 1 - 4 * f 0) (4 * f 2 * f 0 - f 3 * f 3 * f 0 - f 1 * f 1) r = 0 := hr
  generalize hs : r - f 2 = s at hd hf
  generalize ht : f 3 * f 1 - 4 * f 0 + r * s = t at hd hf
  constructor
  · rintro ⟨v, hv⟩
    rw [hd] at hv
    by_cases e0 : r * r + s * r + t = 0
    · refine ⟨-s - r, fun z => ?_, ?_⟩
      · -- all three are one
        have s2 : s = -(2 * r) := by omega
        have t2 : t = r * r := by rw [s2] at e0; grind
        have hb : f 2 = 3 * r := by omega
        have hq : f 3 * f 1 - 4 * f 0 = 3 * (r * r) := by rw [s2] at ht; grind
        have hr' : 4 * f 2 * f 0 - f 3 * f 3 * f 0 - f 1 * f 1 = -(r * r * r) := by
          unfold cb3 at hc
          rw [hq, hb] at hc
          rw [hb]
          grind
        obtain ⟨c, hc⟩ := triple_root hb hq hr'
        refine no_root H h (by decide) c ?_
        unfold ev7
        rw [f4, fz.1, fz.2]
        grind
      · rw [hf, show (-s - r) * (-s - r) + s * (-s - r) + t = r * r + s * r + t from by grind, e0, Int.mul_zero]
    · obtain ⟨w, _, hw⟩ := isq_dv hv e0
      obtain ⟨x, hx⟩ : ∃ x : Int, w - s = 2 * x := by
        rcases Int.emod_two_eq (w - s) with z | z
        · exact ⟨(w - s) / 2, by omega⟩
        · exfalso
          obtain ⟨x, hx⟩ : ∃ x : Int, w = s + (2 * x + 1) := ⟨(w - s) / 2, by omega⟩
          have : w * w = s * s + 2 * (s * (2 * x + 1)) + (4 * (x * x) + 4 * x + 1) := by rw [hx]; grind
          omega
      have q0 : x * x + s * x + t = 0 := by
        have hw2 : w = s + 2 * x := by omega
        have : 4 * (x * x + s * x + t) = 0 := by rw [hw2] at hw; grind
        omega
      refine ⟨x, fun z => e0 (by rw [← z]; exact q0), ?_⟩
      rw [hf, q0, Int.mul_zero]
  · rintro ⟨x, xr, hx⟩
    rw [hf] at hx
    have q0 : x * x + s * x + t = 0 := by
      rcases Int.mul_eq_zero.mp hx with z | z
      · omega
      · exact z
    refine ⟨(2 * x + s) * (r * r + s * r + t), ?_⟩
    rw [hd]
    have : s * s - 4 * t = (2 * x + s) * (2 * x + s) := by grind
    rw [this]
    grind
end
