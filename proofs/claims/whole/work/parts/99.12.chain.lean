/-! Sturm: chains of polynomials, what they count -/
theorem ex_max {P : Nat → Nat → Prop} (mono : ∀ i L L', L ≤ L' → P i L → P i L') : ∀ k : Nat, (∀ i, i ≤ k → ∃ L, P i L) → ∃ T, ∀ i, i ≤ k → P i T
  | 0, h => by
    obtain ⟨L, hL⟩ := h 0 (Nat.le_refl _)
    exact ⟨L, fun i hi => by rw [show i = 0 from by omega]; exact hL⟩
  | k + 1, h => by
    obtain ⟨T, hT⟩ := ex_max mono k (fun i hi => h i (by omega))
    obtain ⟨L, hL⟩ := h (k + 1) (Nat.le_refl _)
    refine ⟨T + L, fun i hi => ?_⟩
    by_cases q : i = k + 1
    · rw [q]; exact mono _ _ _ (by omega) hL
    · exact mono _ _ _ (by omega) (hT i (by omega))
section
variable {R : Type}
def he (co : R → Nat → Int) (a : R) (n : Int) (D : Nat) : Int := hh 6 (co a) n D
def d6 (co : R → Nat → Int) (a : R) : Prop := ∀ j, 6 < j → co a j = 0
def cop [Lean.Grind.CommRing R] (mk : Nat → (Nat → Int) → R) (a b : R) : Prop := ∃ (u v : R) (c : Int), c ≠ 0 ∧ u * a + v * b = mo mk 0 c
/-- a is small at n / D -/
def smT (co : R → Nat → Int) (T : Nat) (D : Nat) (n : Int) (a : R) : Prop := (he co a n D).natAbs * D ≤ T * D ^ 6
theorem hh_prod [Lean.Grind.CommRing R] {co : R → Nat → Int} {mk : Nat → (Nat → Int) → R} (H : PolyR co mk) {u a : R} {N : Nat} (hu : ∀ j, N < j → co u j = 0) (ha : d6 co a) (n : Int) (D : Nat) : hh (N + 6) (co (u * a)) n D = hh N (co u) n D * he co a n D := by
  rw [hh_congr (N + 6) n D (fun j _ => H.2.2.1 u a j)]
  exact hh_mul N 6 (co u) (co a) n D hu ha
theorem hh_plus [Lean.Grind.CommRing R] {co : R → Nat → Int} {mk : Nat → (Nat → Int) → R} (H : PolyR co mk) (u a : R) (N : Nat) (n D : Int) : hh N (co (u + a)) n D = hh N (co u) n D + hh N (co a) n D := by
  rw [hh_congr N n D (fun j _ => H.2.1 u a j)]
  exact hh_add N (co u) (co a) n D
theorem hh_const [Lean.Grind.CommRing R] {co : R → Nat → Int} {mk : Nat → (Nat → Int) → R} (H : PolyR co mk) (c : Int) (N : Nat) (n D : Int) : hh N (co (mo mk 0 c : R)) n D = D ^ N * c := by
  have h := hh_pad 0 (co (mo mk 0 c : R)) n D (fun j hj => by rw [co_mo H, if_neg (by omega)]) N
  rw [Nat.zero_add] at h
  rw [h]
  show D ^ N * co (mo mk 0 c : R) 0 = _
  rw [co_mo H, if_pos rfl]
theorem ex_deg [Lean.Grind.CommRing R] {co : R → Nat → Int} {mk : Nat → (Nat → Int) → R} (H : PolyR co mk) (u v : R) : ∃ N : Nat, (∀ j, N < j → co u j = 0) ∧ ∀ j, N < j → co v j = 0 := by
  obtain ⟨n, hn⟩ := H.2.2.2.2.1 u
  obtain ⟨l, hl⟩ := H.2.2.2.2.1 v
  exact ⟨n + l, fun j hj => hn j (by omega), fun j hj => hl j (by omega)⟩
theorem cop_b [Lean.Grind.CommRing R] {co : R → Nat → Int} {mk : Nat → (Nat → Int) → R} (H : PolyR co mk) {a b : R} (ha : d6 co a) (hb : d6 co b) (h : cop mk a b) (M : Nat) : ∃ K : Nat, ∀ (D : Nat) (n : Int), 1 ≤ D → n.natAbs ≤ M * D → D ^ 6 ≤ K * ((he co a n D).natAbs + (he co b n D).natAbs) := by
  obtain ⟨u, v, c, c0, e⟩ := h
  obtain ⟨N, hu, hv⟩ := ex_deg H u v
  obtain ⟨Cu, hCu⟩ := hh_b0 N M (co u)
  obtain ⟨Cv, hCv⟩ := hh_b0 N M (co v)
  refine ⟨Cu + Cv, fun D n hD hn => ?_⟩
  have e2 : (D : Int) ^ (N + 6) * c = hh N (co u) n D * he co a n D + hh N (co v) n D * he co b n D := by
    rw [← hh_const H c (N + 6) n D, ← e, hh_plus H, hh_prod H hu ha, hh_prod H hv hb]
  have h1 := hCu D n hn
  have h2 := hCv D n hn
  generalize he co a n D = A at e2 ⊢
  generalize he co b n D = B at e2 ⊢
  generalize hh N (co u) n D = U at e2 h1
  generalize hh N (co v) n D = V at e2 h2
  have a1 : D ^ (N + 6) * c.natAbs = (U * A + V * B).natAbs := by rw [← e2, Int.natAbs_mul, npw]
  have a2 := Int.natAbs_add_le (U * A) (V * B)
  have a3 : (U * A).natAbs ≤ Cu * D ^ N * A.natAbs := by rw [Int.natAbs_mul]; exact Nat.mul_le_mul_right _ h1
  have a4 : (V * B).natAbs ≤ Cv * D ^ N * B.natAbs := by rw [Int.natAbs_mul]; exact Nat.mul_le_mul_right _ h2
  have a5 : D ^ (N + 6) * 1 ≤ D ^ (N + 6) * c.natAbs := Nat.mul_le_mul_left _ (by omega)
  have a6 : D ^ (N + 6) = D ^ N * D ^ 6 := Nat.pow_add _ _ _
  have a7 : D ^ N * ((Cu + Cv) * (A.natAbs + B.natAbs)) = Cu * D ^ N * A.natAbs + Cv * D ^ N * B.natAbs + (Cu * D ^ N * B.natAbs + Cv * D ^ N * A.natAbs) := by grind
  refine Nat.le_of_mul_le_mul_left (c := D ^ N) ?_ (Nat.pow_pos (by omega))
  omega
theorem div_b [Lean.Grind.CommRing R] {co : R → Nat → Int} {mk : Nat → (Nat → Int) → R} (H : PolyR co mk) {a s b q : R} {α : Int} (ha : d6 co a) (hs : d6 co s) (hb : d6 co b) (e : mo mk 0 α * a + b = q * s) (M : Nat) : ∃ C : Nat, ∀ (D : Nat) (n : Int), 1 ≤ D → n.natAbs ≤ M * D → (α * he co a n D + he co b n D).natAbs ≤ C * (he co s n D).natAbs := by
  obtain ⟨N, hq, _⟩ := ex_deg H q q
  obtain ⟨C, hC⟩ := hh_b0 N M (co q)
  refine ⟨C, fun D n hD hn => ?_⟩
  have p1 : hh (N + 6) (co (mo mk 0 α * a)) n D = α * ((D : Int) ^ N * he co a n D) := by
    rw [hh_congr (N + 6) n D (fun j _ => co_C H α a j), hh_mul_c, show N + 6 = 6 + N from by omega, hh_pad 6 (co a) n D ha N]
    rfl
  have p2 : hh (N + 6) (co b) n D = (D : Int) ^ N * he co b n D := by
    rw [show N + 6 = 6 + N from by omega, hh_pad 6 (co b) n D hb N]
    rfl
  have e2 : (D : Int) ^ N * (α * he co a n D + he co b n D) = hh N (co q) n D * he co s n D := by
    rw [← hh_prod H hq hs, ← e, hh_plus H, p1, p2]
    grind
  have h1 := hC D n hn
  generalize he co s n D = S at e2 ⊢
  generalize α * he co a n D + he co b n D = X at e2 ⊢
  generalize hh N (co q) n D = Q at e2 h1
  have a1 : D ^ N * X.natAbs = Q.natAbs * S.natAbs := by rw [← npw, ← Int.natAbs_mul, ← Int.natAbs_mul, e2]
  have a2 : Q.natAbs * S.natAbs ≤ C * D ^ N * S.natAbs := Nat.mul_le_mul_right _ h1
  have a3 : D ^ N * (C * S.natAbs) = C * D ^ N * S.natAbs := by grind
  refine Nat.le_of_mul_le_mul_left (c := D ^ N) ?_ (Nat.pow_pos (by omega))
  omega
/-- a chain: the derivative, then rests with the other sign, down to a number -/
def isCh [Lean.Grind.CommRing R] (co : R → Nat → Int) (mk : Nat → (Nat → Int) → R) (s : Nat → R) (k : Nat) : Prop :=
  1 ≤ k ∧ (∀ i, i ≤ k → d6 co (s i)) ∧ (∀ j : Nat, co (s 1) j = ((j : Int) + 1) * co (s 0) (j + 1)) ∧ (∀ i, 1 ≤ i → i < k → ∃ (α : Int) (q : R), 0 < α ∧ mo mk 0 α * s (i - 1) + s (i + 1) = q * s i) ∧ ∃ c : Int, c ≠ 0 ∧ s k = mo mk 0 c
theorem ch_cop [Lean.Grind.CommRing R] {co : R → Nat → Int} {mk : Nat → (Nat → Int) → R} {s : Nat → R} {k : Nat} (h : isCh co mk s k) : ∀ r i : Nat, i + 1 + r = k → cop mk (s i) (s (i + 1))
  | 0, i, hi => by
    obtain ⟨_, _, _, _, c, c0, e⟩ := h
    rw [show i + 1 = k from by omega]
    exact ⟨0, 1, c, c0, by rw [e]; grind⟩
  | r + 1, i, hi => by
    obtain ⟨u, v, c, c0, e⟩ := ch_cop h r (i + 1) (by omega)
    obtain ⟨α, q, _, e2⟩ := h.2.2.2.1 (i + 1) (by omega) (by omega)
    rw [Nat.add_sub_cancel] at e2
    refine ⟨-(v * mo mk 0 α), u + v * q, c, c0, ?_⟩
    rw [← e]
    have : s (i + 1 + 1) = q * s (i + 1) - mo mk 0 α * s i := by rw [← e2]; grind
    rw [this]
    grind
def sgs (co : R → Nat → Int) (s : Nat → R) (n : Int) (D : Nat) (j : Nat) : Int := (he co (s j) n D).sign
/-- the sign of a to the right of n / D, looked for one step on -/
def eR (co : R → Nat → Int) (a : R) (D : Nat) (n : Int) : Int := if he co a n D = 0 then (he co a (n + 1) D).sign else (he co a n D).sign
theorem same_sign {x y : Int} {T D P : Nat} (hD : 1 ≤ D) (h1 : (y - x).natAbs * D ≤ T * P) (h2 : ¬ x.natAbs * D ≤ T * P) : x.sign = y.sign ∧ x ≠ 0 := by
  have lt : (y - x).natAbs < x.natAbs := by
    refine Nat.lt_of_mul_lt_mul_right (a := D) ?_
    omega
  have s1 := sgn3 x
  have s2 := sgn3 y
  omega
theorem sh_b1 [Lean.Grind.CommRing R] (co : R → Nat → Int) (a : R) (M : Nat) : ∃ L : Nat, ∀ (D : Nat) (n : Int), 1 ≤ D → n.natAbs ≤ M * D → (he co a (n + 1) D - he co a n D).natAbs * D ≤ L * D ^ 6 := hh_b1 6 M (co a)
theorem two_small {x y T K D : Nat} (hD : 2 * K * T < D) (hx : x * D ≤ T * D ^ 6) (hy : y * D ≤ T * D ^ 6) (h : D ^ 6 ≤ K * (x + y)) : False := by
  have h1 : D ^ 6 * D ≤ K * (x + y) * D := Nat.mul_le_mul_right _ h
  have h2 : K * (x + y) * D = K * (x * D + y * D) := by grind
  have h3 : K * (x * D + y * D) ≤ K * (T * D ^ 6 + T * D ^ 6) := Nat.mul_le_mul_left _ (by omega)
  have h4 : K * (T * D ^ 6 + T * D ^ 6) = D ^ 6 * (2 * K * T) := by grind
  have h5 : D ^ 6 * (2 * K * T + 1) ≤ D ^ 6 * D := Nat.mul_le_mul_left _ (by omega)
  have h6 : 0 < D ^ 6 := Nat.pow_pos (by omega)
  rw [Nat.mul_add] at h5
  omega
theorem ch_step [Lean.Grind.CommRing R] {co : R → Nat → Int} {mk : Nat → (Nat → Int) → R} (H : PolyR co mk) {s : Nat → R} {k : Nat} (h : isCh co mk s k) (M : Nat) : ∃ D0 : Nat, ∀ (D : Nat) (n : Int), D0 < D → n.natAbs ≤ M * D →
    (vI (sgs co s n D) (k + 1) 0 0 - vI (sgs co s (n + 1) D) (k + 1) 0 0 = if eS (he co (s 0) n D) (he co (s 1) n D) = eS (he co (s 0) (n + 1) D) (he co (s 1) (n + 1) D) then 0 else 1) ∧ (he co (s 0) n D = 0 → (he co (s 0) (n + 1) D).sign = (he co (s 1) n D).sign) := by
  have hcop := ch_cop h
  obtain ⟨k1, hd, hder, hrec, c, c0, hc⟩ := h
  obtain ⟨T1, hT1⟩ := ex_max (P := fun i L => ∀ (D : Nat) (n : Int), 1 ≤ D → n.natAbs ≤ M * D → (he co (s i) (n + 1) D - he co (s i) n D).natAbs * D ≤ L * D ^ 6) (fun i L L' hl hp D n a b => Nat.le_trans (hp D n a b) (Nat.mul_le_mul_right _ hl)) k (fun i _ => sh_b1 co (s i) M)
  obtain ⟨T2, hT2⟩ := hh_b2 6 M (co (s 0)) (hd 0 (Nat.zero_le _))
  obtain ⟨K, hK⟩ := ex_max (P := fun i L => i < k → ∀ (D : Nat) (n : Int), 1 ≤ D → n.natAbs ≤ M * D → D ^ 6 ≤ L * ((he co (s i) n D).natAbs + (he co (s (i + 1)) n D).natAbs)) (fun i L L' hl hp hi D n a b => Nat.le_trans (hp hi D n a b) (Nat.mul_le_mul_right _ hl)) k (fun i _ => by
    rcases Nat.lt_or_ge i k with q | q
    · obtain ⟨L, hL⟩ := cop_b H (hd i (by omega)) (hd (i + 1) (by omega)) (hcop (k - i - 1) i (by omega)) M
      exact ⟨L, fun _ => hL⟩
    · exact ⟨0, fun w => by omega⟩)
  obtain ⟨C, hC⟩ := ex_max (P := fun i L => 1 ≤ i → i < k → ∃ α : Int, 0 < α ∧ ∀ (D : Nat) (n : Int), 1 ≤ D → n.natAbs ≤ M * D → (α * he co (s (i - 1)) n D + he co (s (i + 1)) n D).natAbs ≤ L * (he co (s i) n D).natAbs) (fun i L L' hl hp hi1 hi => by
    obtain ⟨α, a0, hp2⟩ := hp hi1 hi
    exact ⟨α, a0, fun D n a b => Nat.le_trans (hp2 D n a b) (Nat.mul_le_mul_right _ hl)⟩) k (fun i _ => by
    by_cases q : 1 ≤ i ∧ i < k
    · obtain ⟨α, q2, a0, e⟩ := hrec i q.1 q.2
      obtain ⟨L, hL⟩ := div_b H (hd (i - 1) (by omega)) (hd i (by omega)) (hd (i + 1) (by omega)) e M
      exact ⟨L, fun _ _ => ⟨α, a0, hL⟩⟩
    · exact ⟨0, fun a b => absurd ⟨a, b⟩ q⟩)
  refine ⟨(2 * K * ((T1 + T2) * (C + 1))) + (T1 + T2), fun D n hD hn => ?_⟩
  have D1 : 1 ≤ D := by omega
  have KT : 2 * K * (T1 + T2) ≤ 2 * K * ((T1 + T2) * (C + 1)) := Nat.mul_le_mul_left _ (by
    have : (T1 + T2) * 1 ≤ (T1 + T2) * (C + 1) := Nat.mul_le_mul_left _ (by omega)
    omega)
  have f1 : ∀ i, i < k → smT co (T1 + T2) D n (s i) → ¬ smT co (T1 + T2) D n (s (i + 1)) := fun i hi a b =>
    two_small (T := T1 + T2) (K := K) (by omega) a b (hK i (by omega) hi D n D1 hn)
  have f2 : ∀ i, i ≤ k → ¬ smT co (T1 + T2) D n (s i) → (he co (s i) n D).sign = (he co (s i) (n + 1) D).sign ∧ he co (s i) n D ≠ 0 := fun i hi ns => by
    have h1 := hT1 i hi D n D1 hn
    refine same_sign (T := T1 + T2) (P := D ^ 6) D1 (Nat.le_trans h1 (Nat.mul_le_mul_right _ (by omega))) ns
  have f3 : ∀ i, 1 ≤ i → i < k → smT co (T1 + T2) D n (s i) → (he co (s (i - 1)) n D).sign = -(he co (s (i + 1)) n D).sign := fun i i1 ik sm => by
    have nx := f1 i ik sm
    have np : ¬ smT co (T1 + T2) D n (s (i - 1)) := fun w => f1 (i - 1) (by omega) w (by rw [show i - 1 + 1 = i from by omega]; exact sm)
    have x0 := (f2 (i + 1) (by omega) nx).2
    have p0 := (f2 (i - 1) (by omega) np).2
    obtain ⟨α, a0, hα⟩ := hC i (by omega) i1 ik
    have h1 := hα D n D1 hn
    have h2 := hK (i - 1) (by omega) (by omega) D n D1 hn
    rw [show i - 1 + 1 = i from by omega] at h2
    unfold smT at sm
    have key : (he co (s (i - 1)) n D).natAbs ≤ C * (he co (s i) n D).natAbs → False := fun le => by
      have t1 : (he co (s (i - 1)) n D).natAbs * D ≤ C * (he co (s i) n D).natAbs * D := Nat.mul_le_mul_right _ le
      have t2 : C * (he co (s i) n D).natAbs * D = C * ((he co (s i) n D).natAbs * D) := Nat.mul_assoc _ _ _
      have t3 : C * ((he co (s i) n D).natAbs * D) ≤ C * ((T1 + T2) * D ^ 6) := Nat.mul_le_mul_left _ sm
      have t4 : C * ((T1 + T2) * D ^ 6) + (T1 + T2) * D ^ 6 = (T1 + T2) * (C + 1) * D ^ 6 := by grind
      exact two_small (T := (T1 + T2) * (C + 1)) (K := K) (x := (he co (s (i - 1)) n D).natAbs) (y := (he co (s i) n D).natAbs) (by omega) (by omega) (by omega) h2
    generalize he co (s (i - 1)) n D = X at *
    generalize he co (s (i + 1)) n D = Y at *
    have s1 := sgn3 X
    have s2 := sgn3 Y
    refine Classical.byContradiction fun w => key ?_
    have ge : X.natAbs ≤ (α * X + Y).natAbs := by
      rcases Int.lt_or_lt_of_ne p0 with z | z
      · have y0 : Y < 0 := by omega
        have : α * X ≤ 1 * X := Int.mul_le_mul_of_nonpos_right (by omega) (by omega)
        omega
      · have y0 : 0 < Y := by omega
        have : 1 * X ≤ α * X := Int.mul_le_mul_of_nonneg_right (by omega) (by omega)
        omega
    exact Nat.le_trans ge h1
  have f4 : smT co (T1 + T2) D n (s 0) → (he co (s 0) (n + 1) D - he co (s 0) n D).sign = (he co (s 1) n D).sign := fun sm => by
    have n1 := f1 0 (by omega) sm
    have h2 := hT2 D n D1 hn
    have e1 : hh 6 (fun j => ((j : Int) + 1) * co (s 0) (j + 1)) n D = he co (s 1) n D := hh_congr 6 n D (fun j _ => (hder j).symm)
    rw [e1] at h2
    have e2 : hh 6 (co (s 0)) (n + 1) D - hh 6 (co (s 0)) n D = he co (s 0) (n + 1) D - he co (s 0) n D := rfl
    rw [e2] at h2
    have ss := same_sign (x := he co (s 1) n D) (y := (D : Int) * (he co (s 0) (n + 1) D - he co (s 0) n D)) (T := T1 + T2) (P := D ^ 6) D1 (Nat.le_trans h2 (Nat.mul_le_mul_right _ (by omega))) n1
    have sD : (D : Int).sign = 1 := Int.sign_eq_one_iff_pos.mpr (by omega)
    rw [ss.1, Int.sign_mul, sD, Int.one_mul]
  have f5 : ¬ smT co (T1 + T2) D n (s k) := fun sm => by
    unfold smT he at sm
    rw [hc, hh_const H, Int.natAbs_mul, npw] at sm
    have t1 : D ^ 6 * 1 * D ≤ D ^ 6 * c.natAbs * D := Nat.mul_le_mul_right _ (Nat.mul_le_mul_left _ (by omega))
    have t2 : D ^ 6 * (T1 + T2 + 1) ≤ D ^ 6 * D := Nat.mul_le_mul_left _ (by omega)
    have t3 : 0 < D ^ 6 := Nat.pow_pos (by omega)
    have t4 : (T1 + T2) * D ^ 6 = D ^ 6 * (T1 + T2) := Nat.mul_comm _ _
    rw [Nat.mul_one] at t1
    rw [Nat.mul_add, Nat.mul_one] at t2
    omega
  refine ⟨vI_step (A := fun i => he co (s i) n D) (B := fun i => he co (s i) (n + 1) D) k1 f1 f2 f3 f4 f5, fun z => ?_⟩
  have := f4 (by unfold smT; rw [z]; simp)
  rw [z, Int.sub_zero] at this
  exact this
end
