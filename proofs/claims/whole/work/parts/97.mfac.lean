/-! the reference: all factors -/
theorem l_M_ff89 {r : Int} (hr : 0 ≤ r ∧ r < 10) {g : Int} (g0 : g ≠ 0) {m0 : rz_M} (eg : m0 221 10 = g) {q : Int → Int} (hq : ∀ j : Int, 0 ≤ j → j < 7 → rwM m0 r j = g * q j ∧ bd (q j) 100) {K : Int → rz_M → Prop} (h : ∀ m' : rz_M, (∀ i, i ≠ 224 → m' i = m0 i) → (∀ j : Int, 0 ≤ j → j < 7 → m' 224 j = q j) → rz_C y_M_findLinear [rR 221] (rz_up m' 221 9 0) (fun _ m1 => rz_E y_M_findFactors 134 [rR 221, rX 0, rI 1] [] m1 K)) : ∀ (t : Nat) (j : Int) (m : rz_M), 7 - j = t → 0 ≤ j → (∀ i, i ≠ 224 → m i = m0 i) → (∀ k : Int, 0 ≤ k → k < j → m 224 k = q k) → rz_E y_M_findFactors 89 [rR 221, rI r, rI j] [] m K
  | 0, j, m, ht, j0, hf, hv => T_M_findFactors_89 _ _ _ _ (bt (by omega) (h m hf (fun k k0 k1 => hv k k0 (by omega))))
  | t + 1, j, m, ht, j0, hf, hv => by
    have hqj := hq j j0 (by omega)
    have hq2 := hqj.2
    unfold bd at hq2
    have e2 : m0 222 (7 * r + j) = g * q j := hqj.1
    refine T_M_findFactors_89 _ _ _ _ (bf (by omega) ?_)
    rw [w32_id (z := 7 * r) (by omega) (by omega), w32_id (z := 7 * r + j) (by omega) (by omega), w32_id (z := j + 1) (by omega) (by omega), hf 221 (by decide), hf 222 (by decide), eg, e2, Int.tdiv_eq_of_eq_mul_right g0 rfl, w64_id (by omega) (by omega)]
    refine ⟨⟨by omega, by omega⟩, g0, ⟨j0, by omega⟩, l_M_ff89 hr g0 eg hq h t (j + 1) _ (by omega) (by omega) (fun i hi => by rw [up_ne hi]; exact hf i hi) (fun k k0 k1 => ?_)⟩
    by_cases w : k = j
    · rw [w, up_eq]
    · rw [up_nj w]; exact hv k k0 (by omega)
theorem l_M_ff16 {r dgr : Int} (hr : 0 ≤ r ∧ r < 10) (hd : 0 ≤ dgr ∧ dgr ≤ 6) {m0 : rz_M} (ed : m0 221 5 = dgr) (hs : sm (rwM m0 r)) {K : Int → rz_M → Prop} (h : ∀ (G : Int) (m' : rz_M), 0 ≤ G → (∀ p : Int, p ∣ G ↔ ∀ j : Int, 0 ≤ j → j < dgr + 1 → p ∣ rwM m0 r j) → (∀ i, i ≠ 221 → m' i = m0 i) → (∀ y : Int, y ≠ 10 → m' 221 y = m0 221 y) → m' 221 10 = G → rz_E y_M_findFactors 16 [rR 221, rI r, rI (dgr + 1)] [] m' K) : ∀ (t : Nat) (j G : Int) (m : rz_M), dgr + 1 - j = t → 0 ≤ j → 0 ≤ G → (∀ p : Int, p ∣ G ↔ ∀ k : Int, 0 ≤ k → k < j → p ∣ rwM m0 r k) → (∀ i, i ≠ 221 → m i = m0 i) → (∀ y : Int, y ≠ 10 → m 221 y = m0 221 y) → m 221 10 = G → rz_E y_M_findFactors 16 [rR 221, rI r, rI j] [] m K
  | 0, j, G, m, ht, j0, G0, hG, hf, hf1, h10 => by
    have : j = dgr + 1 := by omega
    subst this
    exact h G m G0 hG hf hf1 h10
  | t + 1, j, G, m, ht, j0, G0, hG, hf, hf1, h10 => by
    have hj := hs j j0 (by omega)
    have e5 : m 221 5 = dgr := by rw [hf1 5 (by decide)]; exact ed
    have ec : m 222 (7 * r + j) = rwM m0 r j := by rw [hf 222 (by decide)]; rfl
    refine T_M_findFactors_16 _ _ _ _ ?_
    rw [e5, h10, w32_id (z := 7 * r) (by omega) (by omega), w32_id (z := 7 * r + j) (by omega) (by omega), ec, w32_id (z := j + 1) (by omega) (by omega)]
    refine bf (by omega) ⟨⟨by omega, by omega⟩, c_M_divisor ⟨by omega, by omega⟩ ?_⟩
    have e1 : rz_abs G = G := by
      unfold rz_abs
      split
      · rfl
      · rw [w64_id (by omega) (by omega)]; omega
    obtain ⟨y, e2, y0, y1, yd⟩ : ∃ y : Int, rz_abs (rwM m0 r j) = y ∧ 0 ≤ y ∧ y.natAbs ≤ 100 ∧ (∀ p : Int, p ∣ y ↔ p ∣ rwM m0 r j) := by
      unfold rz_abs
      split
      · exact ⟨_, rfl, by omega, by omega, fun p => Iff.rfl⟩
      · exact ⟨-(rwM m0 r j), w64_id (by omega) (by omega), by omega, by omega, fun p => Int.dvd_neg⟩
    rw [e1, e2]
    refine l_M_ff16 hr hd ed hs h t (j + 1) _ _ (by omega) (by omega) (gi_nn 100 G y G0 y0) (fun p => ?_) (fun i hi => by rw [up_ne hi]; exact hf i hi) (fun y' hy => by rw [up_nj hy]; exact hf1 y' hy) up_eq
    rw [gi_dv 100 G y y1 p, hG p, yd p]
    constructor
    · intro z k k0 k1
      by_cases w : k = j
      · rw [w]; exact z.2
      · exact z.1 k k0 (by omega)
    · intro z
      exact ⟨fun k k0 k1 => z k k0 (by omega), z j j0 (by omega)⟩
section
variable {R : Type}
/-- what the reference leaves -/
def mE [Lean.Grind.CommRing R] (co : R → Nat → Int) (mk : Nat → (Nat → Int) → R) (m0 m : rz_M) (A : R) : Prop := (∀ i : Nat, (i < 221 ∨ i = 222 ∨ i = 223 ∨ 230 < i) → m i = m0 i) ∧ (∀ y : Int, y ≠ 5 → y ≠ 9 → m 221 y = m0 221 y) ∧ (0 ≤ m 221 9 ∧ m 221 9 ≤ 6) ∧ FacL co mk A (mtl m) ∧ (mtl m).Pairwise bef
theorem l_M_end [Lean.Grind.CommRing R] {co : R → Nat → Int} {mk : Nat → (Nat → Int) → R} (H : PolyR co mk) {m0 m : rz_M} {A : R} {n : Int} (hI : mI co mk m0 m A n) (nl : nolin mk (pR mk 7 (m 224))) (h4 : 4 ≤ n → nof co 2 (pR mk 7 (m 224))) (h6 : n = 6 → nof co 3 (pR mk 7 (m 224))) {K : Int → rz_M → Prop} (h : ∀ m' : rz_M, mE co mk m0 m' A → K 0 m') : rz_C y_M_takeLeft [rR 221] m (fun _ m1 => rz_C y_M_sortFactors [rR 221] m1 (fun _ m2 => K 0 m2)) := by
  refine c_M_takeLeft H hI nl h4 h6 (fun m1 I1 => ?_)
  obtain ⟨J1, J2, J3, J5, J6, J7, J8, J9⟩ := I1
  obtain ⟨c, hc⟩ : ∃ c : Nat, m1 221 9 = c := ⟨(m1 221 9).toNat, by omega⟩
  have el : mtl m1 = (List.range c).map (elM m1) := by unfold mtl; rw [hc, Int.toNat_natCast]
  have dis : ∀ a b : Nat, a < b → b < c → (elM m1 a).1 ≠ (elM m1 b).1 := fun a b ab bc => by
    rw [el] at J9
    have := List.pairwise_iff_getElem.mp J9 a b (by rw [List.length_map, List.length_range]; omega) (by rw [List.length_map, List.length_range]; omega) ab
    simpa using this
  refine c_M_sortFactors hc (by omega) (fun a b a0 b0 ab => ?_) (fun m2 f2 pe so => h m2 ⟨fun i hi => by rw [f2 i (by omega) (by omega) (by omega)]; exact J1 i hi, fun y a b => by rw [f2 221 (by decide) (by decide) (by decide)]; exact J2 y a b, by rw [f2 221 (by decide) (by decide) (by decide)]; omega, ⟨fun x hx => (J8 x (pe.mem_iff.mp hx)).1, ?_, ?_⟩, so⟩)
  · rcases Nat.lt_or_gt_of_ne ab with w | w
    · exact dis a b w b0
    · exact fun e => dis b a w a0 e.symm
  · refine List.Pairwise.imp_of_mem ?_ so
    intro x y hx hy hxy
    exact bef_ne (fun e => (el_one H (J8 x (pe.mem_iff.mp hx)).1 (J8 y (pe.mem_iff.mp hy)).1 (by rw [e]; exact zd_rf _)).2) hxy
  · rw [prodL_perm mk pe, J7, one_of H J5]
    grind
theorem l_M_154 [Lean.Grind.CommRing R] {co : R → Nat → Int} {mk : Nat → (Nat → Int) → R} (H : PolyR co mk) {m0 m : rz_M} {A : R} {n : Int} (hI : mI co mk m0 m A n) (nl : nolin mk (pR mk 7 (m 224))) (h4 : 4 ≤ n → nof co 2 (pR mk 7 (m 224))) {K : Int → rz_M → Prop} (h : ∀ m' : rz_M, mE co mk m0 m' A → K 0 m') : rz_E y_M_findFactors 154 [rR 221, rX 0, rX 0] [] m K := by
  have em : m 221 5 = n := hI.2.2.1
  refine T_M_findFactors_154 _ _ (bb (fun q => l_M_end H hI nl h4 (fun w => absurd (em.trans w) q) h) (fun q => ?_))
  have n6 : n = 6 := by omega
  subst n6
  refine c_M_findCubic H hI nl (fun r m' n' I' z' d' => l_M_end H I' (nolin_dv nl z') (fun w => ?_) (fun w => ?_) h)
  · exact nof_dv (h4 (by decide)) z'
  · rcases d' with ⟨_, e2⟩ | e1
    · exact e2
    · omega
theorem l_M_134 [Lean.Grind.CommRing R] {co : R → Nat → Int} {mk : Nat → (Nat → Int) → R} (H : PolyR co mk) {m0 : rz_M} {A : R} {K : Int → rz_M → Prop} (h : ∀ m' : rz_M, mE co mk m0 m' A → K 0 m') : ∀ (t : Nat) (n f : Int) (m : rz_M), n + f ≤ t → (f = 0 ∨ f = 1) → (f = 0 → 4 ≤ n → nof co 2 (pR mk 7 (m 224))) → mI co mk m0 m A n → nolin mk (pR mk 7 (m 224)) → rz_E y_M_findFactors 134 [rR 221, rX 0, rI f] [] m K := by
  intro t
  induction t with
  | zero =>
    intro n f m ht hf h4 hI nl
    have n06 := hI.2.2.2.1.1
    exact T_M_findFactors_134 _ _ _ (bt (by omega) (l_M_154 H hI nl (h4 (by omega)) h))
  | succ t ih =>
    intro n f m ht hf h4 hI nl
    have n06 := hI.2.2.2.1.1
    have em : m 221 5 = n := hI.2.2.1
    refine T_M_findFactors_134 _ _ _ (bb (fun q => l_M_154 H hI nl (h4 q) h) (fun q => bb (fun z => l_M_154 H hI nl (fun w => by omega) h) (fun z => ?_)))
    rw [em] at z
    refine c_M_findQuadratic H hI (by omega) nl (fun r1 m' n' I' z' d' => ?_)
    rcases d' with ⟨e0, e1, e2⟩ | ⟨e0, e1⟩
    · subst e0
      exact ih n' 0 m' (by omega) (Or.inl rfl) (fun _ _ => e2) I' (nolin_dv nl z')
    · subst e0
      exact ih n' 1 m' (by omega) (Or.inr rfl) (fun w => absurd w (by decide)) I' (nolin_dv nl z')
theorem c_M_findFactors [Lean.Grind.CommRing R] {co : R → Nat → Int} {mk : Nat → (Nat → Int) → R} (H : PolyR co mk) {r : Int} (hr : 0 ≤ r ∧ r < 10) {m : rz_M} (hs : sm (rwM m r)) (hd : 0 ≤ dg (rwM m r)) {K : Int → rz_M → Prop}
    (h : ∀ (g : Int) (f1 : Int → Int) (m' : rz_M), g ≠ 0 → (∀ j : Int, 0 ≤ j → j < 7 → rwM m r j = g * f1 j ∧ bd (f1 j) 100) → core co mk f1 (dg (rwM m r)) → (∀ i : Nat, (i < 221 ∨ i = 222 ∨ i = 223 ∨ 230 < i) → m' i = m i) → (∀ y : Int, y ≠ 5 → y ≠ 9 → y ≠ 10 → m' 221 y = m 221 y) → m' 221 10 = g → (0 ≤ m' 221 9 ∧ m' 221 9 ≤ 6) → FacL co mk (pR mk 7 f1) (mtl m') → (mtl m').Pairwise bef → K 0 m') : rz_C y_M_findFactors [rR 221, rI r] m K := by
  have rd := dg_rng (rwM m r)
  have dnz : rwM m r (dg (rwM m r)) ≠ 0 := dgk_nz (rwM m r) 7 hd
  have dz : ∀ k : Int, dg (rwM m r) < k → k < 7 → rwM m r k = 0 := fun k a b => dgk_top (rwM m r) 7 k a b
  have er0 : rwM (rz_up (rz_up m 221 5 (dg (rwM m r))) 221 10 0) r = rwM m r := by
    unfold rwM
    rw [up_ne (by decide), up_ne (by decide)]
  refine T_M_findFactors_0 _ _ _ (c_M_degreeOf hr (l_M_ff16 hr ⟨hd, rd.2⟩ (m0 := rz_up (rz_up m 221 5 (dg (rwM m r))) 221 10 0) (by rw [up_nj (by decide), up_eq]) (by rw [er0]; exact hs) (fun G m1 G0 hG f1 f2 e10 => ?_) (dg (rwM m r) + 1).toNat 0 0 _ (by omega) (by decide) (by decide) (fun p => ⟨fun _ k k0 k1 => by omega, fun _ => Int.dvd_zero p⟩) (fun _ _ => rfl) (fun _ _ => rfl) up_eq))
  rw [er0] at hG
  generalize hD : dg (rwM m r) = D at *
  have f221 : ∀ y : Int, y ≠ 5 → y ≠ 10 → m1 221 y = m 221 y := fun y a b => by rw [f2 y b, up_nj b, up_nj a]
  have fo : ∀ i, i ≠ 221 → m1 i = m i := fun i hi => by rw [f1 i hi, up_ne hi, up_ne hi]
  have e5 : m1 221 5 = D := by rw [f2 5 (by decide), up_nj (by decide), up_eq]
  have er1 : rwM m1 r = rwM m r := by unfold rwM; rw [fo 222 (by decide)]
  have Gd : ∀ j : Int, 0 ≤ j → j < 7 → G ∣ rwM m r j := fun j j0 j1 => by
    by_cases w : j < D + 1
    · exact (hG G).mp ⟨1, by omega⟩ j j0 w
    · rw [dz j (by omega) j1]; exact Int.dvd_zero G
  have Gnz : G ≠ 0 := fun z => dnz (by
    obtain ⟨t, ht⟩ := Gd D hd (by omega)
    rw [ht, z, Int.zero_mul])
  have Gs : G ≤ 100 := by
    have d1 := Gd D hd (by omega)
    have s1 := hs D hd (by omega)
    have := Int.natAbs_dvd_natAbs.mpr d1
    have := Nat.le_of_dvd (by omega) this
    omega
  have eL : m1 222 (7 * r + D) = rwM m r D := by rw [fo 222 (by decide)]; rfl
  have fin : ∀ g : Int, (g = G ∨ g = -G) → 0 < g * rwM m r D → rz_E y_M_findFactors 89 [rR 221, rI r, rI 0] [] (rz_up m1 221 10 g) K := fun g hgG hpos => by
    have g0 : g ≠ 0 := by omega
    have gd : ∀ j : Int, 0 ≤ j → j < 7 → g ∣ rwM m r j := fun j j0 j1 => by
      rcases hgG with q | q
      · rw [q]; exact Gd j j0 j1
      · rw [q]; exact Int.neg_dvd.mpr (Gd j j0 j1)
    have hq : ∀ j : Int, 0 ≤ j → j < 7 → rwM m r j = g * (rwM m r j / g) ∧ bd (rwM m r j / g) 100 := fun j j0 j1 => by
      have e : g * (rwM m r j / g) = rwM m r j := Int.mul_ediv_cancel' (gd j j0 j1)
      refine ⟨e.symm, ?_⟩
      have s1 := hs j j0 j1
      have := ab_div g0 e
      exact ⟨by omega, by omega⟩
    have er2 : rwM (rz_up m1 221 10 g) r = rwM m r := by
      unfold rwM
      rw [up_ne (by decide), fo 222 (by decide)]
    refine l_M_ff89 hr g0 (m0 := rz_up m1 221 10 g) up_eq (q := fun j => rwM m r j / g) (by rw [er2]; exact hq) (fun m2 f3 v3 => ?_) 7 0 _ (by decide) (by decide) (fun _ _ => rfl) (fun k k0 k1 => by omega)
    obtain ⟨q1, hq1⟩ : ∃ q1 : Int → Int, (fun j => rwM m r j / g) = q1 := ⟨_, rfl⟩
    have hqq : ∀ j : Int, 0 ≤ j → j < 7 → rwM m r j = g * q1 j ∧ bd (q1 j) 100 := fun j j0 j1 => by rw [← hq1]; exact hq j j0 j1
    have v4 : ∀ j : Int, 0 ≤ j → j < 7 → m2 224 j = q1 j := fun j j0 j1 => by rw [← hq1]; exact v3 j j0 j1
    have lead : 0 < q1 D := by
      have e := (hqq D hd (by omega)).1
      refine Classical.byContradiction fun w => ?_
      rw [e, ← Int.mul_assoc] at hpos
      have gg : 0 ≤ g * g := by
        rcases Int.le_total 0 g with u | u
        · exact Int.mul_nonneg u u
        · have := Int.mul_nonneg (a := -g) (b := -g) (by omega) (by omega)
          rwa [Int.neg_mul_neg] at this
      have := Int.mul_nonpos_of_nonneg_of_nonpos gg (show q1 D ≤ 0 from by omega)
      omega
    have pr : ∀ p : Int, isPr p → ¬ ∀ j : Int, 0 ≤ j → j < 7 → p ∣ q1 j := fun p hp hall => by
      have : G * p ∣ G := (hG (G * p)).mpr (fun j j0 j1 => by
        have e := (hqq j j0 (by omega)).1
        obtain ⟨t, ht⟩ := hall j j0 (by omega)
        rw [e, ht]
        rcases hgG with q | q
        · exact ⟨t, by rw [q]; grind⟩
        · exact ⟨-t, by rw [q]; grind⟩)
      obtain ⟨t, ht⟩ := this
      have e1 : G * (p * t) = G * 1 := by rw [← Int.mul_assoc, ← ht, Int.mul_one]
      have e2 := Int.eq_of_mul_eq_mul_left Gnz e1
      have := Int.le_of_dvd (by decide) (⟨t, e2.symm⟩ : p ∣ 1)
      have := hp.1
      omega
    have tz0 : ∀ k : Int, D < k → k < 7 → q1 k = 0 := fun k k0 k1 => by
      have e := (hqq k (by omega) k1).1
      rw [dz k k0 k1] at e
      rcases Int.mul_eq_zero.mp e.symm with w | w
      · exact absurd w g0
      · exact w
    have tb := tbn_le D
    have cq : core co mk q1 D := ⟨⟨hd, by omega⟩, lead, tz0, fun k k0 k1 => bd_le (hqq k k0 k1).2 tb.1, (hqq D hd (by omega)).2.2, (hqq 0 (by decide) (by decide)).2, fun p hp hall => pr p hp (fun j j0 j1 => by
      have := hall j.toNat
      rwa [co_pR H, if_pos (by omega), Int.toNat_of_nonneg j0] at this)⟩
    have pe : pR mk 7 (m2 224) = pR mk 7 q1 := pR_congr H (fun k a b => v4 k a (by omega))
    generalize hm3 : rz_up m2 221 9 0 = m3
    have e224 : m3 224 = m2 224 := by rw [← hm3, up_ne (by decide)]
    have c3 : core co mk (m3 224) D := by
      rw [e224]
      refine ⟨cq.1, by rw [v4 D hd (by omega)]; exact cq.2.1, fun k k0 k1 => by rw [v4 k (by omega) k1]; exact cq.2.2.1 k k0 k1, fun k k0 k1 => by rw [v4 k k0 k1]; exact cq.2.2.2.1 k k0 k1, by rw [v4 D hd (by omega)]; exact cq.2.2.2.2.1, by rw [v4 0 (by decide) (by decide)]; exact cq.2.2.2.2.2.1, by rw [pe]; exact cq.2.2.2.2.2.2⟩
    have e9 : m3 221 9 = 0 := by rw [← hm3, up_eq]
    have el : mtl m3 = [] := by unfold mtl; rw [e9]; rfl
    have I3 : mI co mk m3 m3 (pR mk 7 q1) D := by
      refine ⟨fun _ _ => rfl, fun _ _ _ => rfl, by rw [← hm3, up_nj (by decide), f3 221 (by decide), up_nj (by decide)]; exact e5, c3, ⟨by omega, by omega⟩, ?_, ?_, ?_⟩
      · rw [el, e224, pe]
        show _ = _ * 1
        grind
      · rw [el]; exact fun x hx => absurd hx List.not_mem_nil
      · rw [el]; exact List.Pairwise.nil
    refine c_M_findLinear H I3 (fun k k0 k1 => by rw [e224, v4 k k0 k1]; exact (hqq k k0 k1).2) (fun m4 n4 I4 c4 nl => ?_)
    have n46 := I4.2.2.2.1.1
    refine l_M_134 H (fun m5 hE => ?_) 7 n4 1 m4 (by omega) (Or.inr rfl) (fun w => absurd w (by decide)) I4 nl
    obtain ⟨E1, E2, E3', E4, E5⟩ := hE
    refine h g q1 m5 g0 hqq cq (fun i hi => ?_) (fun y a b c => ?_) ?_ E3' E4 E5
    · rw [E1 i hi, ← hm3, up_ne (by omega), f3 i (by omega), up_ne (by omega)]
      exact fo i (by omega)
    · rw [E2 y a b, ← hm3, up_nj b, f3 221 (by decide), up_nj c]
      exact f221 y a c
    · rw [E2 10 (by decide) (by decide), ← hm3, up_nj (by decide), f3 221 (by decide), up_eq]
  refine T_M_findFactors_16 _ _ _ _ ?_
  rw [e5, w32_id (z := 7 * r) (by omega) (by omega), w32_id (z := 7 * r + D) (by omega) (by omega), eL, e10]
  refine bt (by omega) ⟨⟨by omega, by omega⟩, bb (fun q => ?_) (fun q => ?_)⟩
  · exact fin G (Or.inl rfl) (Int.mul_pos (by omega) (by omega))
  · rw [w64_id (by omega) (by omega)]
    refine fin (-G) (Or.inr rfl) ?_
    rw [show -G * rwM m r D = G * -(rwM m r D) from by rw [Int.neg_mul, Int.mul_neg]]
    exact Int.mul_pos (by omega) (by omega)
end
