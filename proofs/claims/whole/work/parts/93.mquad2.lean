/-! the reference: all quadratic factors -/
section
variable {R : Type}
theorem l_M_q59 [Lean.Grind.CommRing R] {co : R → Nat → Int} {mk : Nat → (Nat → Int) → R} (H : PolyR co mk) {m0 : rz_M} {A : R} {n : Int} (hn : 4 ≤ n) {f0 : Int → Int} (hc0 : core co mk f0 n) (nl : nolin mk (pR mk 7 f0)) {a gr : Int} (ha : 1 ≤ a ∧ a ≤ 100) (hgr : 0 ≤ gr ∧ gr ≤ gq n - 200) {K : Int → rz_M → Prop}
    (h1 : ∀ (m' : rz_M) (n' : Int), mI co mk m0 m' A n' → zd (pR mk 7 (m' 224)) (pR mk 7 f0) → n' ≤ n - 2 → K 1 m')
    (hx : ∀ m' : rz_M, qM co mk m0 A n f0 m' → (∀ e d : Int, -100 ≤ e → e ≤ 100 → -gr ≤ d → d ≤ gr → tm mk f0 a e d) → rz_E y_M_findQuadratic 45 [rR 221, rL (ev7 f0 1), rX 1, rL (ev7 f0 (-1)), rX 1, rL gr, rX 1, rL (a + 1), rX 1, rX 0, rX 0, rX 0, rX 0] [] m' K) : ∀ (r : Nat) (e : Int) (m : rz_M), 101 - e = r → -100 ≤ e → qM co mk m0 A n f0 m → (∀ e' d : Int, -100 ≤ e' → e' < e → -gr ≤ d → d ≤ gr → tm mk f0 a e' d) → rz_E y_M_findQuadratic 59 [rR 221, rL (ev7 f0 1), rX 1, rL (ev7 f0 (-1)), rX 1, rL gr, rX 1, rL a, rX 1, rL e, rX 1, rX 0, rX 0] [] m K := by
  have gl := gq_le n
  intro r
  induction r with
  | zero =>
    intro e m hr he hJ ht
    refine T_M_findQuadratic_59 _ _ _ _ _ _ _ (bt (by omega) ?_)
    rw [w64_id (by omega) (by omega)]
    exact hx m hJ (fun e' d x y => ht e' d x (by omega))
  | succ r ih =>
    intro e m hr he hJ ht
    have n06 := hc0.1
    have em : m 221 5 = n := hJ.1.2.2.1
    have en : m 224 n = f0 n := core_cg H hJ.2 n n06.1 (by omega)
    have e0 : m 224 0 = f0 0 := core_cg H hJ.2 0 (by decide) (by decide)
    have v0 : ev7 f0 0 = f0 0 := by unfold ev7; omega
    have skip : (∀ d : Int, tm mk f0 a e d) → rz_E y_M_findQuadratic 59 [rR 221, rL (ev7 f0 1), rX 1, rL (ev7 f0 (-1)), rX 1, rL gr, rX 1, rL a, rX 1, rL (w64 (e + 1)), rX 1, rX 0, rX 0] [] m K := fun t => by
      rw [w64_id (by omega) (by omega)]
      refine ih (e + 1) m (by omega) (by omega) hJ (fun e' d x y z z2 => ?_)
      by_cases w : e' = e
      · rw [w]; exact t d
      · exact ht e' d x (by omega) z z2
    have zr : ∀ d : Int, zd (pR mk 7 (prt e (d - a - e) a 0)) (pR mk 7 f0) → a ∣ f0 n ∧ e ∣ f0 0 ∧ e ≠ 0 := fun d z => by
      have := zd_row H (d := 2) hc0 ⟨by decide, by decide⟩ (by show a ≠ 0; omega) (fun k k0 k1 => by
        unfold prt
        rw [if_neg (by omega), if_neg (by omega), if_neg (by omega)]
        split <;> rfl) z
      have c0 := this.2.2 0
      have z0 : ev7 (prt e (d - a - e) a 0) 0 = e := by
        show e + 0 * _ = e
        omega
      rw [z0] at c0
      refine ⟨this.2.1, by rw [← v0]; exact c0, fun w => nl_ev H nl 0 ?_⟩
      obtain ⟨t, ht⟩ := c0
      rw [ht, w, Int.zero_mul]
    refine T_M_findQuadratic_59 _ _ _ _ _ _ _ (bf (by omega) ?_)
    rw [em, en]
    refine ⟨⟨by omega, by omega⟩, c_M_into (fun _ _ => b1t ⟨⟨by decide, by decide⟩, ?_⟩) (fun w => b0t (skip (fun d z => w ⟨by omega, (zr d z).1⟩)))⟩
    rw [e0]
    refine c_M_into (fun ez _ => b1n ?_) (fun w => b0n (skip (fun d z => w ⟨(zr d z).2.2, (zr d z).2.1⟩)))
    rw [w64_id (by omega) (by omega)]
    refine l_M_q107 H hn hc0 nl ha ⟨by omega, by omega, ez⟩ hgr h1 (fun m' hJ' ht' => ih (e + 1) m' (by omega) (by omega) hJ' (fun e' d x y z z2 => ?_)) (gr + 1 - -gr).toNat (-gr) m (by omega) (Int.le_refl _) hJ (fun d' x y => by omega)
    by_cases w : e' = e
    · rw [w]; exact ht' d z z2
    · exact ht e' d x (by omega) z z2
theorem l_M_q45 [Lean.Grind.CommRing R] {co : R → Nat → Int} {mk : Nat → (Nat → Int) → R} (H : PolyR co mk) {m0 : rz_M} {A : R} {n : Int} (hn : 4 ≤ n) {f0 : Int → Int} (hc0 : core co mk f0 n) (nl : nolin mk (pR mk 7 f0)) {gr : Int} (hgr : 0 ≤ gr ∧ gr ≤ gq n - 200) {K : Int → rz_M → Prop}
    (h1 : ∀ (m' : rz_M) (n' : Int), mI co mk m0 m' A n' → zd (pR mk 7 (m' 224)) (pR mk 7 f0) → n' ≤ n - 2 → K 1 m')
    (hx : ∀ m' : rz_M, qM co mk m0 A n f0 m' → (∀ a e d : Int, 1 ≤ a → a ≤ 100 → -100 ≤ e → e ≤ 100 → -gr ≤ d → d ≤ gr → tm mk f0 a e d) → K 0 m') : ∀ (r : Nat) (a : Int) (m : rz_M), 101 - a = r → 1 ≤ a → qM co mk m0 A n f0 m → (∀ a' e d : Int, 1 ≤ a' → a' < a → -100 ≤ e → e ≤ 100 → -gr ≤ d → d ≤ gr → tm mk f0 a' e d) → rz_E y_M_findQuadratic 45 [rR 221, rL (ev7 f0 1), rX 1, rL (ev7 f0 (-1)), rX 1, rL gr, rX 1, rL a, rX 1, rX 0, rX 0, rX 0, rX 0] [] m K := by
  intro r
  induction r with
  | zero =>
    intro a m hr ha hJ ht
    exact T_M_findQuadratic_45 _ _ _ _ _ _ (bt (by omega) (hx m hJ (fun a' e d x y => ht a' e d x (by omega))))
  | succ r ih =>
    intro a m hr ha hJ ht
    refine T_M_findQuadratic_45 _ _ _ _ _ _ (bf (by omega) (l_M_q59 H hn hc0 nl ⟨ha, by omega⟩ hgr h1 (fun m' hJ' ht' => ih (a + 1) m' (by omega) (by omega) hJ' (fun a' e d x y => ?_)) 201 (-100) m (by decide) (by decide) hJ (fun e' d x y => by omega)))
    by_cases w : a' = a
    · rw [w]; exact ht' e d
    · exact ht a' e d x (by omega)
theorem c_M_findQuadratic [Lean.Grind.CommRing R] {co : R → Nat → Int} {mk : Nat → (Nat → Int) → R} (H : PolyR co mk) {m0 m : rz_M} {A : R} {n : Int} (hI : mI co mk m0 m A n) (hn : 4 ≤ n) (nl : nolin mk (pR mk 7 (m 224))) {K : Int → rz_M → Prop}
    (h : ∀ (r : Int) (m' : rz_M) (n' : Int), mI co mk m0 m' A n' → zd (pR mk 7 (m' 224)) (pR mk 7 (m 224)) → (r = 0 ∧ n' = n ∧ nof co 2 (pR mk 7 (m' 224)) ∨ r = 1 ∧ n' ≤ n - 2) → K r m') : rz_C y_M_findQuadratic [rR 221] m K := by
  have hc := hI.2.2.2.1
  have n06 := hc.1
  have em : m 221 5 = n := hI.2.2.1
  have i224 : isL 224 7 := ⟨by decide +kernel, by decide +kernel⟩
  have hb := hc.2.2.2.1
  have tb := tbn_le n
  have gl := gq_le n
  have bv := core_ev2 hc hn
  have lead := hc.2.1
  have lead2 := hc.2.2.2.2.1
  have cst : bd (m 224 0) 100 := hc.2.2.2.2.2.1
  have e0 : ev7 (m 224) 0 = m 224 0 := by unfold ev7; omega
  have c00 : m 224 0 ≠ 0 := by have := nl_ev H nl 0; rwa [e0] at this
  refine T_M_findQuadratic_0 _ _ ?_
  rw [em]
  refine c_M_valueAt i224 n06 (fun _ _ _ => rfl) hc.2.2.1 (Or.inl rfl) hb (by omega) ?_
  rw [em]
  refine c_M_valueAt i224 n06 (fun _ _ _ => rfl) hc.2.2.1 (Or.inr (Or.inl rfl)) hb (by omega) ?_
  have go : ∀ gr : Int, 0 ≤ gr → gr ≤ gq n - 200 → (∀ d : Int, d ∣ ev7 (m 224) 1 → -gr ≤ d ∧ d ≤ gr) → rz_E y_M_findQuadratic 45 [rR 221, rL (ev7 (m 224) 1), rX 1, rL (ev7 (m 224) (-1)), rX 1, rL gr, rX 1, rL 1, rX 1, rX 0, rX 0, rX 0, rX 0] [] m K := fun gr g0 g1 gd => by
    refine l_M_q45 H hn hc nl ⟨g0, g1⟩ (fun m' n' I' z' d' => h 1 m' n' I' z' (Or.inr ⟨rfl, d'⟩)) (fun m' hJ ht => ?_) 100 1 m (by decide) (by decide) ⟨hI, rfl⟩ (fun a' e d x y => by omega)
    obtain ⟨I', eB⟩ := hJ
    refine h 0 m' n I' (by rw [eB]; exact zd_rf _) (Or.inl ⟨rfl, rfl, ?_⟩)
    rw [eB]
    refine nof_pos H (fun g t gp z => ?_)
    have er := row_ex H (h := g) (fun k hk => t.2 k (by omega))
    rw [← er] at z
    have zr := zd_row H (g := fun y => co g y.toNat) (d := 2) hc ⟨by decide, by decide⟩ t.1 (fun k k0 k1 => t.2 _ (by omega)) z
    have g3 : co g 3 = 0 := t.2 3 (by decide)
    have g4 : co g 4 = 0 := t.2 4 (by decide)
    have g5 : co g 5 = 0 := t.2 5 (by decide)
    have g6 : co g 6 = 0 := t.2 6 (by decide)
    have q0 : ev7 (fun y => co g y.toNat) 0 = co g 0 := by
      show co g 0 + 0 * _ = _
      omega
    have q1 : ev7 (fun y => co g y.toNat) 1 = co g 0 + co g 1 + co g 2 := by
      show co g 0 + 1 * (co g 1 + 1 * (co g 2 + 1 * (co g 3 + 1 * (co g 4 + 1 * (co g 5 + 1 * co g 6))))) = _
      omega
    have z2 : co g 2 ∣ m 224 n := zr.2.1
    have z0 := zr.2.2 0
    have z1 := zr.2.2 1
    rw [q0, e0] at z0
    rw [q1] at z1
    have a1 := Int.le_of_dvd lead z2
    have b1 : (co g 0).natAbs ≤ 100 := by
      have := Int.natAbs_dvd_natAbs.mpr z0
      have := Nat.le_of_dvd (by omega) this
      unfold bd at cst
      omega
    have d1 := gd _ z1
    refine ht (co g 2) (co g 0) (co g 0 + co g 1 + co g 2) (by omega) (by omega) (by omega) (by omega) d1.1 d1.2 ?_
    have : pR mk 7 (prt (co g 0) (co g 0 + co g 1 + co g 2 - co g 2 - co g 0) (co g 2) 0) = pR mk 7 (fun y => co g y.toNat) := pR_congr H (fun y y0 y1 => by
      show _ = co g y.toNat
      have : y = 0 ∨ y = 1 ∨ y = 2 ∨ 2 < y := by omega
      unfold prt
      rcases this with w | w | w | w
      · subst w; rfl
      · subst w
        show co g 0 + co g 1 + co g 2 - co g 2 - co g 0 = co g 1
        omega
      · subst w; rfl
      · rw [if_neg (by omega), if_neg (by omega), if_neg (by omega), t.2 y.toNat (by omega)]
        split <;> rfl)
    rw [this]
    exact z
  have o0 := nl_ev H nl 1
  have bv1 := bv.1
  unfold bd at bv1
  have dle : ∀ d : Int, d ∣ ev7 (m 224) 1 → d.natAbs ≤ (ev7 (m 224) 1).natAbs := fun d hd => Nat.le_of_dvd (by omega) (Int.natAbs_dvd_natAbs.mpr hd)
  refine bb (fun q => go _ q (by omega) (fun d hd => by have := dle d hd; omega)) (fun q => ?_)
  rw [w64_id (by omega) (by omega)]
  exact go _ (by omega) (by omega) (fun d hd => by have := dle d hd; omega)
end
