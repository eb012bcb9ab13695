/-! Splitter: the degrees that factors may have -/
def sdg : Nat → Int → Int → Int
  | 0, v1, _ => v1
  | r + 1, v1, v2 => if v2 ≤ 0 then v1 else sdg r ((Int32.ofInt v1 ||| Int32.ofInt ((Int32.ofInt v1 <<< (Int32.ofInt (Int.tmod v2 10) &&& 31)).toInt)).toInt) (w32 (Int.tdiv v2 10))
theorem l_Sp_sums {m : rz_M} {K : Int → rz_M → Prop} : ∀ (r : Nat) (v1 v2 : Int), r ≤ 9 → v2 < 10 ^ r → K (sdg r v1 v2) m → rz_E y_Sp_sumsOfDigits 4 [rX 0, rI v1, rI v2] [] m K
  | 0, v1, v2, _, h, hK => T_Sp_sumsOfDigits_4 _ _ _ _ (bt (by have : (10 : Int) ^ 0 = 1 := rfl; omega) hK)
  | r + 1, v1, v2, hr, h, hK => by
    refine T_Sp_sumsOfDigits_4 _ _ _ _ (bb (fun q => ?_) (fun q => ⟨by decide, by decide, ?_⟩))
    · rw [sdg, if_pos q] at hK
      exact hK
    · rw [sdg, if_neg q] at hK
      refine l_Sp_sums r _ _ (by omega) ?_ hK
      have p9 : (10 : Int) ^ r ≤ 1000000000 := by
        have : ∀ r : Nat, r ≤ 9 → (10 : Int) ^ r ≤ 1000000000 := by decide
        exact this r (by omega)
      rw [Int.pow_succ] at h
      rw [Int.tdiv_eq_ediv_of_nonneg (by omega), w32_id (by omega) (by omega)]
      omega
theorem c_Sp_sums {v : Int} (hv : v < 10000000) {m : rz_M} {K : Int → rz_M → Prop} (h : K (sdg 7 1 v) m) : rz_C y_Sp_sumsOfDigits [rI v] m K :=
  T_Sp_sumsOfDigits_0 _ _ _ (l_Sp_sums 7 1 v (by decide) (by have : (10 : Int) ^ 7 = 10000000 := rfl; omega) h)
def c6 (a b c d e f : Nat) : Nat → Nat := fun k => if k = 1 then a else if k = 2 then b else if k = 3 then c else if k = 4 then d else if k = 5 then e else if k = 6 then f else 0
def okS (a b c d e f : Nat) : Bool := decide (0 ≤ sdg 7 1 (tyG (c6 a b c d e f) 6 0)) && (decide (sdg 7 1 (tyG (c6 a b c d e f) 6 0) < 128) && (decide (tyG (c6 a b c d e f) 6 0 < 10000000) && ((!(decide (2 ≤ a) || decide (1 ≤ b)) || decide ((sdg 7 1 (tyG (c6 a b c d e f) 6 0)).toNat / 4 % 2 = 1)) && (!(decide (3 ≤ a) || (decide (1 ≤ a) && decide (1 ≤ b)) || decide (1 ≤ c)) || decide ((sdg 7 1 (tyG (c6 a b c d e f) 6 0)).toNat / 8 % 2 = 1)))))
def okR (a b c d e f : Nat) : Bool := !decide (a + 2 * b + 3 * c + 4 * d + 5 * e + 6 * f ≤ 6) || okS a b c d e f
def okQ (a b c d : Nat) : Bool := okR a b c d 0 0 && (okR a b c d 1 0 && (okR a b c d 0 1 && okR a b c d 1 1))
theorem sdg_k : ∀ a : Nat, a < 7 → ∀ b : Nat, b < 4 → ∀ c : Nat, c < 3 → ∀ d : Nat, d < 2 → okQ a b c d = true := by decide +kernel
theorem okR_of {a b c d e f : Nat} (h : a + 2 * b + 3 * c + 4 * d + 5 * e + 6 * f ≤ 6) : okR a b c d e f = true := by
  have x := sdg_k a (by omega) b (by omega) c (by omega) d (by omega)
  unfold okQ at x
  simp only [Bool.and_eq_true] at x
  have he : e = 0 ∨ e = 1 := by omega
  have hf : f = 0 ∨ f = 1 := by omega
  rcases he with w | w <;> rcases hf with v | v <;> subst w <;> subst v
  · exact x.1
  · exact x.2.2.1
  · exact x.2.1
  · exact x.2.2.2
theorem sdg_all {a b c d e f : Nat} (h : a + 2 * b + 3 * c + 4 * d + 5 * e + 6 * f ≤ 6) : 0 ≤ sdg 7 1 (tyG (c6 a b c d e f) 6 0) ∧ sdg 7 1 (tyG (c6 a b c d e f) 6 0) < 128 ∧ tyG (c6 a b c d e f) 6 0 < 10000000 ∧ (2 ≤ a ∨ 1 ≤ b → (sdg 7 1 (tyG (c6 a b c d e f) 6 0)).toNat / 4 % 2 = 1) ∧ (3 ≤ a ∨ (1 ≤ a ∧ 1 ≤ b) ∨ 1 ≤ c → (sdg 7 1 (tyG (c6 a b c d e f) 6 0)).toNat / 8 % 2 = 1) := by
  have x := okR_of h
  unfold okR at x
  have y : okS a b c d e f = true := by
    rw [decide_eq_true h] at x
    exact x
  unfold okS at y
  simp only [Bool.and_eq_true, Bool.or_eq_true, Bool.not_eq_true', decide_eq_true_eq, Bool.or_eq_false_iff, Bool.and_eq_false_iff, decide_eq_false_iff_not] at y
  obtain ⟨y1, y2, y3, y4, y5⟩ := y
  refine ⟨y1, y2, y3, fun q => ?_, fun q => ?_⟩
  · rcases y4 with w | w
    · omega
    · exact w
  · rcases y5 with w | w
    · omega
    · exact w
theorem and_all : ∀ v : Nat, v < 128 → ∀ s : Nat, s < 128 → (Int32.ofInt (v : Int) &&& Int32.ofInt (s : Int)).toInt = ((v &&& s : Nat) : Int) := by decide +kernel
theorem and_b : ∀ v : Nat, v < 128 → ∀ s : Nat, s < 128 → v &&& s < 128 ∧ (v / 4 % 2 = 1 → s / 4 % 2 = 1 → (v &&& s) / 4 % 2 = 1) ∧ (v / 8 % 2 = 1 → s / 8 % 2 = 1 → (v &&& s) / 8 % 2 = 1) := by decide +kernel
theorem and_m1 : ∀ s : Nat, s < 128 → (Int32.ofInt (-1) &&& Int32.ofInt (s : Int)).toInt = (s : Int) := by decide +kernel
theorem and_48 : ∀ v : Nat, v < 128 → ((Int32.ofInt (v : Int) &&& Int32.ofInt 4).toInt = 0 → v / 4 % 2 ≠ 1) ∧ ((Int32.ofInt (v : Int) &&& Int32.ofInt 8).toInt = 0 → v / 8 % 2 ≠ 1) := by decide +kernel
section
variable {R : Type}
theorem cn_sumd : ∀ l : List (R × Nat), (∀ x ∈ l, 1 ≤ x.2 ∧ x.2 ≤ 6) → sumd l = cn 1 l + 2 * cn 2 l + 3 * cn 3 l + 4 * cn 4 l + 5 * cn 5 l + 6 * cn 6 l
  | [], _ => rfl
  | x :: l, h => by
    have ih := cn_sumd l (fun y hy => h y (List.mem_cons_of_mem _ hy))
    have hx := h x (List.mem_cons_self ..)
    show x.2 + sumd l = ((if x.2 = 1 then 1 else 0) + cn 1 l) + 2 * ((if x.2 = 2 then 1 else 0) + cn 2 l) + 3 * ((if x.2 = 3 then 1 else 0) + cn 3 l) + 4 * ((if x.2 = 4 then 1 else 0) + cn 4 l) + 5 * ((if x.2 = 5 then 1 else 0) + cn 5 l) + 6 * ((if x.2 = 6 then 1 else 0) + cn 6 l)
    have : x.2 = 1 ∨ x.2 = 2 ∨ x.2 = 3 ∨ x.2 = 4 ∨ x.2 = 5 ∨ x.2 = 6 := by omega
    rw [ih]
    rcases this with q | q | q | q | q | q <;> rw [q] <;> simp <;> omega
/-- what a type says of factors -/
theorem ty_nof [Lean.Grind.CommRing R] {co : R → Nat → Int} {mk : Nat → (Nat → Int) → R} (H : PolyR co mk) {P : Nat} (hp : isPr (P : Int)) {f : Int → Int} {n z : Int} (hc : core co mk f n) (ht : TyS co mk P f z) (hz : 0 < z) : ∃ s : Nat, sdg 7 1 z = s ∧ s < 128 ∧ z < 10000000 ∧ (s / 4 % 2 ≠ 1 → nof co 2 (pR mk 7 f)) ∧ (s / 8 % 2 ≠ 1 → nof co 3 (pR mk 7 f)) := by
  have n06 := hc.1
  have ed : dg f = n := dg_of ⟨by omega, by omega⟩ (by have := hc.2.1; omega) hc.2.2.1
  rcases ht with ⟨_, q⟩ | ⟨nd, Df, G, e, _, _, _, q | ⟨_, c, l, hc0, hir, hpw, hdv, hs, ez⟩⟩
  · omega
  · omega
  rw [ed] at hs nd
  have deg : ∀ x ∈ l, 1 ≤ x.2 ∧ x.2 ≤ 6 := fun x hx => ⟨(hir x hx).1, by have := sumd_mem l x hx; omega⟩
  have sm := cn_sumd l deg
  have eT : z = tyG (c6 (cn 1 l) (cn 2 l) (cn 3 l) (cn 4 l) (cn 5 l) (cn 6 l)) 6 0 := by
    rw [ez]
    refine tyG_cg 6 0 (by decide) (fun e a b => ?_)
    have : e = 1 ∨ e = 2 ∨ e = 3 ∨ e = 4 ∨ e = 5 ∨ e = 6 := by omega
    rcases this with w | w | w | w | w | w <;> subst w <;> rfl
  have all := sdg_all (a := cn 1 l) (b := cn 2 l) (c := cn 3 l) (d := cn 4 l) (e := cn 5 l) (f := cn 6 l) (by omega)
  rw [← eT] at all
  -- the degrees of a factor are among them
  have sub : ∀ (g : R) (k : Nat), tz co g k → zd g (pR mk 7 f) → ∃ a : Nat → Nat, (∀ d, a d ≤ cn d l) ∧ k = a 1 + 2 * a 2 + 3 * a 3 + 4 * a 4 + 5 * a 5 + 6 * a 6 := fun g k tg zg => by
    obtain ⟨h', eh⟩ := zg
    obtain ⟨l1, l2, c', pe, _, _, tp1, _, _⟩ := deg_div H hp l hir hpw c g h' hc0 (by rw [← eh]; exact hdv)
    obtain ⟨i, j, hi, hj, hij⟩ := zd_deg H (core_tz H hc) eh
    have ei := tz_uniq tg hi
    subst ei
    have top := (co_top H (a := g) (b := h') (n := k) (l := j) hi.2 hj.2).1
    rw [← eh, hij, co_pR H, if_pos (by omega), Int.toNat_of_nonneg n06.1] at top
    have tk : tpp co P g k := ⟨fun w => nd (by rw [top]; exact Int.dvd_mul_of_dvd_left w), fun k' hk => by rw [hi.2 k' hk]; exact Int.dvd_zero _⟩
    have es := tpp_uniq tk tp1
    refine ⟨fun d => cn d l1, fun d => ?_, ?_⟩
    · have := cn_perm d pe
      rw [cn_app] at this
      show cn d l1 ≤ cn d l
      omega
    · rw [es]
      refine cn_sumd l1 (fun x hx => deg x (pe.mem_iff.mpr (List.mem_append_left _ hx)))
  refine ⟨(sdg 7 1 z).toNat, by omega, by omega, all.2.2.1, fun w g tg zg => ?_, fun w g tg zg => ?_⟩
  · obtain ⟨a, ha, hk⟩ := sub g 2 tg zg
    have h1 := ha 1
    have h2 := ha 2
    have z3 : a 3 = 0 ∧ a 4 = 0 ∧ a 5 = 0 ∧ a 6 = 0 := by clear all sm h1 h2; omega
    exact w (all.2.2.2.1 (by clear all sm; omega))
  · obtain ⟨a, ha, hk⟩ := sub g 3 tg zg
    have h1 := ha 1
    have h2 := ha 2
    have h3 := ha 3
    have z3 : a 4 = 0 ∧ a 5 = 0 ∧ a 6 = 0 := by clear all sm h1 h2 h3; omega
    have z4 : (a 1 = 3 ∧ a 2 = 0 ∧ a 3 = 0) ∨ (a 1 = 1 ∧ a 2 = 1 ∧ a 3 = 0) ∨ (a 1 = 0 ∧ a 2 = 0 ∧ a 3 = 1) := by clear all sm h1 h2 h3; omega
    exact w (all.2.2.2.2 (by clear all sm; omega))
/-- what the bits say -/
def sv [Lean.Grind.CommRing R] (co : R → Nat → Int) (A : R) (v : Int) : Prop := v = -1 ∨ ∃ s : Nat, v = s ∧ s < 128 ∧ (s / 4 % 2 ≠ 1 → nof co 2 A) ∧ (s / 8 % 2 ≠ 1 → nof co 3 A)
theorem l_Sp_poss [Lean.Grind.CommRing R] {co : R → Nat → Int} {mk : Nat → (Nat → Int) → R} (H : PolyR co mk) {m0 : rz_M} {n : Int} (hn : 1 ≤ n) (hc : core co mk (m0 56) n) {K : Int → rz_M → Prop}
    (h : ∀ (v : Int) (m' : rz_M), (∀ i : Nat, (i < 47 ∨ 54 < i) → m' i = m0 i) → sv co (pR mk 7 (m0 56)) v → K v m') : ∀ (r : Nat) (v1 v2 p : Int) (m : rz_M), 98 - p = r → 2 ≤ p → 0 ≤ v2 → v2 < p → (∀ i : Nat, (i < 47 ∨ 54 < i) → m i = m0 i) → sv co (pR mk 7 (m0 56)) v1 → rz_E y_Sp_possibleDegrees 6 [rR 55, rI v1, rI v2, rI p, rX 0] [] m K := by
  intro r
  induction r with
  | zero =>
    intro v1 v2 p m hr hp hv0 hvp hf hs
    exact T_Sp_possibleDegrees_6 _ _ _ _ _ (bt (by omega) (h v1 m hf hs))
  | succ r ih =>
    intro v1 v2 p m hr hp hv0 hvp hf hs
    refine T_Sp_possibleDegrees_6 _ _ _ _ _ (bf (by omega) (bb (fun _ => h v1 m hf hs) (fun _ => bb (fun _ => h v1 m hf hs) (fun _ => c_RC_isPrime (by omega) (fun tp => b1t ?_) (fun _ => b0t ?_)))))
    · have hP : okP p.toNat := ⟨tpr_pr (by rwa [Int.toNat_of_nonneg (by omega)]), by omega⟩
      have i56 : isL 56 7 := ⟨by decide +kernel, by decide +kernel⟩
      have e56 : m 56 = m0 56 := hf 56 (by decide)
      have n06 := hc.1
      have ed : dg (m0 56) = n := dg_of ⟨by omega, by omega⟩ (by have := hc.2.1; omega) hc.2.2.1
      have ty := c_PV_typeBy H hP i56 (by decide) (m := m) (by rw [e56, ed]; exact hn) (K := fun r2 m2 => rz_E y_Sp_possibleDegrees 48 [rR 55, rI v1, rI v2, rI p, rX 0] [rI r2] m2 K) (fun z m2 f2 t2 => ?_)
      · rwa [Int.toNat_of_nonneg (by omega)] at ty
      · rw [e56] at t2
        have f20 : ∀ i : Nat, (i < 47 ∨ 54 < i) → m2 i = m0 i := fun i hi => by rw [f2 i hi]; exact hf i hi
        refine T_Sp_possibleDegrees_48 _ _ _ _ _ _ (bb (fun q => ?_) (fun q => ?_))
        · rw [w32_id (by omega) (by omega)]
          exact ih v1 v2 (p + 1) m2 (by omega) (by omega) hv0 (by omega) f20 hs
        · obtain ⟨s, es, s1, z1, b2, b3⟩ := ty_nof H hP.1 hc t2 (by omega)
          refine c_Sp_sums z1 ?_
          rw [es, w32_id (by omega) (by omega), w32_id (by omega) (by omega)]
          refine ih _ (v2 + 1) (p + 1) m2 (by omega) (by omega) (by omega) (by omega) f20 ?_
          rcases hs with q | ⟨v, q, vl, c2, c3⟩
          · rw [q, and_m1 s s1]
            exact Or.inr ⟨s, rfl, s1, b2, b3⟩
          · rw [q, and_all v vl s s1]
            obtain ⟨x1, x2, x3⟩ := and_b v vl s s1
            refine Or.inr ⟨_, rfl, x1, fun w => ?_, fun w => ?_⟩
            · by_cases y : v / 4 % 2 = 1
              · exact b2 (fun y2 => w (x2 y y2))
              · exact c2 y
            · by_cases y : v / 8 % 2 = 1
              · exact b3 (fun y2 => w (x3 y y2))
              · exact c3 y
    · refine T_Sp_possibleDegrees_48 _ _ _ _ _ _ (bt (by decide) ?_)
      rw [w32_id (by omega) (by omega)]
      exact ih v1 v2 (p + 1) m (by omega) (by omega) hv0 (by omega) hf hs
theorem c_Sp_possibleDegrees [Lean.Grind.CommRing R] {co : R → Nat → Int} {mk : Nat → (Nat → Int) → R} (H : PolyR co mk) {m : rz_M} {n : Int} (hn : 1 ≤ n) (hc : core co mk (m 56) n) {K : Int → rz_M → Prop}
    (h : ∀ (v : Int) (m' : rz_M), (∀ i : Nat, (i < 47 ∨ 54 < i) → m' i = m i) → ((Int32.ofInt v &&& Int32.ofInt 4).toInt = 0 → nof co 2 (pR mk 7 (m 56))) → ((Int32.ofInt v &&& Int32.ofInt 8).toInt = 0 → nof co 3 (pR mk 7 (m 56))) → K v m') : rz_C y_Sp_possibleDegrees [rR 55] m K := by
  refine T_Sp_possibleDegrees_0 _ _ (l_Sp_poss H hn hc (fun v m' f' hs => ?_) 96 (-1) 0 2 m (by decide) (by decide) (by decide) (by decide) (fun _ _ => rfl) (Or.inl rfl))
  rcases hs with q | ⟨s, q, s1, c2, c3⟩
  · subst q
    exact h _ m' f' (fun z => absurd z (by decide +kernel)) (fun z => absurd z (by decide +kernel))
  · subst q
    exact h _ m' f' (fun z => c2 ((and_48 s s1).1 z)) (fun z => c3 ((and_48 s s1).2 z))
end
