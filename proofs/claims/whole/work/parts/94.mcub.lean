/-! the reference: a cubic factor of one of degree 6 -/
theorem par_all : ∀ j : Nat, j < 4 → ∀ k : Nat, k < 701 → ((Int64.ofInt (((701 * j + k : Nat) : Int) - 1400) &&& Int64.ofInt 1).toInt = 0 ↔ (((701 * j + k : Nat) : Int) - 1400) % 2 = 0) := by decide +kernel
theorem par_z {z : Int} (h1 : -1400 ≤ z) (h2 : z ≤ 1400) : (Int64.ofInt z &&& Int64.ofInt 1).toInt = 0 ↔ z % 2 = 0 := by
  have := par_all ((z + 1400).toNat / 701) (by omega) ((z + 1400).toNat % 701) (by omega)
  rwa [show (((701 * ((z + 1400).toNat / 701) + (z + 1400).toNat % 701 : Nat)) : Int) - 1400 = z from by omega] at this
section
variable {R : Type}
theorem l_M_m19 [Lean.Grind.CommRing R] {co : R → Nat → Int} {mk : Nat → (Nat → Int) → R} (H : PolyR co mk) {m0 : rz_M} {A : R} {f0 : Int → Int} (hc0 : core co mk f0 6) (nl : nolin mk (pR mk 7 f0)) {a e d far : Int} (ha : 1 ≤ a ∧ a ≤ 100) (he : -100 ≤ e ∧ e ≤ 100 ∧ e ≠ 0) (hd : -700 ≤ d ∧ d ≤ 700) (hfar : 0 ≤ far ∧ far ≤ 700) {K : Int → rz_M → Prop}
    (h1 : ∀ (m' : rz_M) (n' : Int), mI co mk m0 m' A n' → zd (pR mk 7 (m' 224)) (pR mk 7 f0) → n' ≤ 6 - 3 → K 1 m')
    (hx : ∀ m' : rz_M, qM co mk m0 A 6 f0 m' → (∀ g : Int, -far ≤ g → g ≤ far → g ∣ ev7 f0 (-1) → tc mk f0 a d g e) → K 0 m') : ∀ (r : Nat) (g : Int) (m : rz_M), (far + 1 - g).toNat = r → -far ≤ g → qM co mk m0 A 6 f0 m → (∀ g' : Int, -far ≤ g' → g' < g → g' ∣ ev7 f0 (-1) → tc mk f0 a d g' e) → rz_E y_M_findMiddle 19 [rR 221, rL a, rX 1, rL e, rX 1, rL d, rX 1, rL (ev7 f0 (-1)), rX 1, rL far, rX 1, rL (ev7 f0 2), rX 1, rL g, rX 1] [] m K := by
  intro r
  induction r with
  | zero =>
    intro g m hr hg hJ ht
    exact T_M_findMiddle_19 _ _ _ _ _ _ _ _ _ (bt (by omega) (hx m hJ (fun g' x y => ht g' x (by omega))))
  | succ r ih =>
    intro g m hr hg hJ ht
    have nxt : ∀ m' : rz_M, qM co mk m0 A 6 f0 m' → (g ∣ ev7 f0 (-1) → tc mk f0 a d g e) → rz_E y_M_findMiddle 143 [rR 221, rL a, rX 1, rL e, rX 1, rL d, rX 1, rL (ev7 f0 (-1)), rX 1, rL far, rX 1, rL (ev7 f0 2), rX 1, rL (w64 (g + 1)), rX 1] [] m' K := fun m' hJ' t => by
      rw [w64_id (by omega) (by omega)]
      refine T_M_findMiddle_143 _ _ _ _ _ _ _ _ _ (ih (g + 1) m' (by omega) (by omega) hJ' (fun g' x y => ?_))
      by_cases w : g' = g
      · rw [w]; exact t
      · exact ht g' x (by omega)
    have i228 : isL 228 7 := ⟨by decide +kernel, by decide +kernel⟩
    refine T_M_findMiddle_19 _ _ _ _ _ _ _ _ _ (bf (by omega) (c_M_into (fun g0 gdv => b1t ?_) (fun w => b0t (nxt m hJ (fun z => absurd ⟨fun w2 => nl_ev H nl (-1) (by obtain ⟨t, ht⟩ := z; rw [ht, w2, Int.zero_mul]), z⟩ w)))))
    rw [w64_id (z := d + g) (by omega) (by omega), w64_id (z := d - g) (by omega) (by omega), w64_id (z := 2 * a) (by omega) (by omega), w64_id (z := d - g - 2 * a) (by omega) (by omega)]
    refine bb (fun q => ?_) (fun q => nxt m hJ (fun _ E E2 hE _ _ => q ((par_z (by omega) (by omega)).mpr (by omega))))
    have q2 := (par_z (z := d + g) (by omega) (by omega)).mp q
    obtain ⟨E, hE⟩ : ∃ E : Int, d + g = 2 * E := ⟨(d + g) / 2, by omega⟩
    obtain ⟨E2, hE2⟩ : ∃ E2 : Int, d - g = 2 * E2 := ⟨E - g, by omega⟩
    rw [Int.tdiv_eq_of_eq_mul_right (show (2 : Int) ≠ 0 by decide) (show d - g - 2 * a = 2 * (E2 - a) by omega), w64_id (z := E2 - a) (by omega) (by omega)]
    refine ⟨⟨by decide, by decide⟩, by decide, ⟨by decide, by decide⟩, T_M_findMiddle_80 _ _ _ _ _ _ _ _ _ ⟨by decide, ⟨by decide, by decide⟩, ⟨by decide, by decide⟩, ?_⟩⟩
    rw [w64_id (z := d + g) (by omega) (by omega), w64_id (z := 2 * e) (by omega) (by omega), w64_id (z := d + g - 2 * e) (by omega) (by omega), Int.tdiv_eq_of_eq_mul_right (show (2 : Int) ≠ 0 by decide) (show d + g - 2 * e = 2 * (E - e) by omega), w64_id (z := E - e) (by omega) (by omega)]
    generalize hm2 : rz_up (rz_up (rz_up (rz_up m 228 0 e) 228 1 (E2 - a)) 228 2 (E - e)) 228 3 a = m2
    have f1 : ∀ i, i ≠ 228 → m2 i = m i := fun i hi => by rw [← hm2, up_ne hi, up_ne hi, up_ne hi, up_ne hi]
    have p228 : ∀ y : Int, 0 ≤ y → y ≤ 3 → m2 228 y = prt e (E2 - a) (E - e) a y := fun y y0 y1 => by
      rw [← hm2]
      have : y = 0 ∨ y = 1 ∨ y = 2 ∨ y = 3 := by omega
      rcases this with q | q | q | q <;> subst q
      · rw [up_nj (by decide), up_nj (by decide), up_nj (by decide), up_eq]; rfl
      · rw [up_nj (by decide), up_nj (by decide), up_eq]; rfl
      · rw [up_nj (by decide), up_eq]; rfl
      · rw [up_eq]; rfl
    have only : ¬ zd (pR mk 7 (prt e (E2 - a) (E - e) a)) (pR mk 7 f0) → tc mk f0 a d g e := fun t u u2 hu hu2 => by
      have eu : u = E := by omega
      have eu2 : u2 = E2 := by omega
      rw [eu, eu2]
      exact t
    have J2 : qM co mk m0 A 6 f0 m2 := ⟨mI_228 hJ.1 (fun i i1 _ _ => f1 i i1), by rw [f1 224 (by decide)]; exact hJ.2⟩
    have pb : hB (prt e (E2 - a) (E - e) a) 900 := fun k k0 k1 => by
      unfold prt
      split
      · exact ⟨by omega, by omega⟩
      · split
        · exact ⟨by omega, by omega⟩
        · split
          · exact ⟨by omega, by omega⟩
          · split
            · exact ⟨by omega, by omega⟩
            · exact ⟨by omega, by omega⟩
    refine c_M_valueAt i228 ⟨by decide, by decide⟩ p228 (fun k k0 _ => prt_z k0) (Or.inr (Or.inr rfl)) pb (by decide) (c_M_into (fun _ _ => b1t ?_) (fun w => b0t (nxt m2 J2 (fun _ => only (fun z => w ?_)))))
    · refine c_M_tryG H (a := e) (b := E2 - a) (c := E - e) (e := a) (G := 900) (Or.inr rfl) J2.1 (by rw [J2.2]; exact nl) p228 he.2.2 (fun z => absurd z (by decide)) (fun _ => by omega) ⟨by decide, by decide⟩ ⟨by omega, by omega⟩ ⟨by omega, by omega⟩ ⟨by omega, by omega⟩ ⟨by omega, by omega⟩ gw_3 (fun r2 m3 n3 I3 z3 d3 => ?_)
      rw [J2.2] at z3 d3
      rcases d3 with ⟨q1, q2, q3, q4⟩ | ⟨q1, q2⟩
      · subst q1; subst q2
        exact b0t (nxt m3 ⟨I3, q3⟩ (fun _ => only q4))
      · subst q1
        exact b1t (h1 m3 n3 I3 z3 q2)
    · have := (zd_row H (g := prt e (E2 - a) (E - e) a) (d := 3) hc0 ⟨by decide, by decide⟩ (by show a ≠ 0; omega) (fun k k0 _ => prt_z k0) z).2.2 2
      exact ⟨fun w => nl_ev H nl 2 (by obtain ⟨t, ht⟩ := this; rw [ht, w, Int.zero_mul]), this⟩
theorem c_M_findMiddle [Lean.Grind.CommRing R] {co : R → Nat → Int} {mk : Nat → (Nat → Int) → R} (H : PolyR co mk) {m0 : rz_M} {A : R} {f0 : Int → Int} (hc0 : core co mk f0 6) (nl : nolin mk (pR mk 7 f0)) {a e d far : Int} (ha : 1 ≤ a ∧ a ≤ 100) (he : -100 ≤ e ∧ e ≤ 100 ∧ e ≠ 0) (hd : -700 ≤ d ∧ d ≤ 700) (hfar : 0 ≤ far ∧ far ≤ 700) {m : rz_M} (hJ : qM co mk m0 A 6 f0 m) {K : Int → rz_M → Prop}
    (h1 : ∀ (m' : rz_M) (n' : Int), mI co mk m0 m' A n' → zd (pR mk 7 (m' 224)) (pR mk 7 f0) → n' ≤ 6 - 3 → K 1 m')
    (hx : ∀ m' : rz_M, qM co mk m0 A 6 f0 m' → (∀ g : Int, -far ≤ g → g ≤ far → g ∣ ev7 f0 (-1) → tc mk f0 a d g e) → K 0 m') : rz_C y_M_findMiddle [rR 221, rL a, rL e, rL d, rL (ev7 f0 (-1)), rL far] m K := by
  have i224 : isL 224 7 := ⟨by decide +kernel, by decide +kernel⟩
  have hc := hJ.1.2.2.2.1
  refine T_M_findMiddle_0 _ _ _ _ _ _ _ (c_M_valueAt i224 ⟨by decide, by decide⟩ (fun _ _ _ => rfl) hc.2.2.1 (Or.inr (Or.inr rfl)) hc.2.2.2.1 (by decide) ?_)
  rw [ev7_cg (core_cg H hJ.2), w64_id (by omega) (by omega)]
  exact l_M_m19 H hc0 nl ha he hd hfar h1 hx (far + 1 - -far).toNat (-far) m rfl (Int.le_refl _) hJ (fun g' x y => by omega)
theorem l_M_c115 [Lean.Grind.CommRing R] {co : R → Nat → Int} {mk : Nat → (Nat → Int) → R} (H : PolyR co mk) {m0 : rz_M} {A : R} {f0 : Int → Int} (hc0 : core co mk f0 6) (nl : nolin mk (pR mk 7 f0)) {a e gr far : Int} (ha : 1 ≤ a ∧ a ≤ 100) (he : -100 ≤ e ∧ e ≤ 100 ∧ e ≠ 0) (hgr : 0 ≤ gr ∧ gr ≤ 700) (hfar : 0 ≤ far ∧ far ≤ 700) {K : Int → rz_M → Prop}
    (h1 : ∀ (m' : rz_M) (n' : Int), mI co mk m0 m' A n' → zd (pR mk 7 (m' 224)) (pR mk 7 f0) → n' ≤ 6 - 3 → K 1 m')
    (hx : ∀ m' : rz_M, qM co mk m0 A 6 f0 m' → (∀ d g : Int, -gr ≤ d → d ≤ gr → d ∣ ev7 f0 1 → -far ≤ g → g ≤ far → g ∣ ev7 f0 (-1) → tc mk f0 a d g e) → rz_E y_M_findCubic 69 [rR 221, rL (ev7 f0 1), rX 1, rL (ev7 f0 (-1)), rX 1, rL gr, rX 1, rL far, rX 1, rL a, rX 1, rL (e + 1), rX 1, rX 0, rX 0] [] m' K) : ∀ (r : Nat) (d : Int) (m : rz_M), (gr + 1 - d).toNat = r → -gr ≤ d → qM co mk m0 A 6 f0 m → (∀ d' g : Int, -gr ≤ d' → d' < d → d' ∣ ev7 f0 1 → -far ≤ g → g ≤ far → g ∣ ev7 f0 (-1) → tc mk f0 a d' g e) → rz_E y_M_findCubic 115 [rR 221, rL (ev7 f0 1), rX 1, rL (ev7 f0 (-1)), rX 1, rL gr, rX 1, rL far, rX 1, rL a, rX 1, rL e, rX 1, rL d, rX 1] [] m K := by
  intro r
  induction r with
  | zero =>
    intro d m hr hd hJ ht
    refine T_M_findCubic_115 _ _ _ _ _ _ _ _ _ (bt (by omega) ?_)
    rw [w64_id (by omega) (by omega)]
    exact hx m hJ (fun d' g x y => ht d' g x (by omega))
  | succ r ih =>
    intro d m hr hd hJ ht
    have nxt : ∀ m' : rz_M, qM co mk m0 A 6 f0 m' → (∀ g : Int, d ∣ ev7 f0 1 → -far ≤ g → g ≤ far → g ∣ ev7 f0 (-1) → tc mk f0 a d g e) → rz_E y_M_findCubic 115 [rR 221, rL (ev7 f0 1), rX 1, rL (ev7 f0 (-1)), rX 1, rL gr, rX 1, rL far, rX 1, rL a, rX 1, rL e, rX 1, rL (w64 (d + 1)), rX 1] [] m' K := fun m' hJ' t => by
      rw [w64_id (by omega) (by omega)]
      refine ih (d + 1) m' (by omega) (by omega) hJ' (fun d' g x y => ?_)
      by_cases w : d' = d
      · rw [w]; exact t g
      · exact ht d' g x (by omega)
    refine T_M_findCubic_115 _ _ _ _ _ _ _ _ _ (bf (by omega) (c_M_into (fun _ _ => b1t (c_M_findMiddle H hc0 nl ha he ⟨by omega, by omega⟩ hfar hJ (fun m' n' I' z' d' => b1t (h1 m' n' I' z' d')) (fun m' hJ' ht' => b0t (nxt m' hJ' (fun g _ => ht' g))))) (fun w => b0t (nxt m hJ (fun g z => absurd ⟨fun w2 => nl_ev H nl 1 (by obtain ⟨t, ht⟩ := z; rw [ht, w2, Int.zero_mul]), z⟩ w)))))
theorem l_M_c69 [Lean.Grind.CommRing R] {co : R → Nat → Int} {mk : Nat → (Nat → Int) → R} (H : PolyR co mk) {m0 : rz_M} {A : R} {f0 : Int → Int} (hc0 : core co mk f0 6) (nl : nolin mk (pR mk 7 f0)) {a gr far : Int} (ha : 1 ≤ a ∧ a ≤ 100) (hgr : 0 ≤ gr ∧ gr ≤ 700) (hfar : 0 ≤ far ∧ far ≤ 700) {K : Int → rz_M → Prop}
    (h1 : ∀ (m' : rz_M) (n' : Int), mI co mk m0 m' A n' → zd (pR mk 7 (m' 224)) (pR mk 7 f0) → n' ≤ 6 - 3 → K 1 m')
    (hx : ∀ m' : rz_M, qM co mk m0 A 6 f0 m' → (∀ e d g : Int, -100 ≤ e → e ≤ 100 → e ≠ 0 → a ∣ f0 6 → e ∣ f0 0 → -gr ≤ d → d ≤ gr → d ∣ ev7 f0 1 → -far ≤ g → g ≤ far → g ∣ ev7 f0 (-1) → tc mk f0 a d g e) → rz_E y_M_findCubic 55 [rR 221, rL (ev7 f0 1), rX 1, rL (ev7 f0 (-1)), rX 1, rL gr, rX 1, rL far, rX 1, rL (a + 1), rX 1, rX 0, rX 0, rX 0, rX 0] [] m' K) : ∀ (r : Nat) (e : Int) (m : rz_M), 101 - e = r → -100 ≤ e → qM co mk m0 A 6 f0 m → (∀ e' d g : Int, -100 ≤ e' → e' < e → e' ≠ 0 → a ∣ f0 6 → e' ∣ f0 0 → -gr ≤ d → d ≤ gr → d ∣ ev7 f0 1 → -far ≤ g → g ≤ far → g ∣ ev7 f0 (-1) → tc mk f0 a d g e') → rz_E y_M_findCubic 69 [rR 221, rL (ev7 f0 1), rX 1, rL (ev7 f0 (-1)), rX 1, rL gr, rX 1, rL far, rX 1, rL a, rX 1, rL e, rX 1, rX 0, rX 0] [] m K := by
  intro r
  induction r with
  | zero =>
    intro e m hr he hJ ht
    refine T_M_findCubic_69 _ _ _ _ _ _ _ _ (bt (by omega) ?_)
    rw [w64_id (by omega) (by omega)]
    exact hx m hJ (fun e' d g x y => ht e' d g x (by omega))
  | succ r ih =>
    intro e m hr he hJ ht
    have en : m 224 6 = f0 6 := core_cg H hJ.2 6 (by decide) (by decide)
    have e0 : m 224 0 = f0 0 := core_cg H hJ.2 0 (by decide) (by decide)
    have nxt : ∀ m' : rz_M, qM co mk m0 A 6 f0 m' → (∀ d g : Int, e ≠ 0 → a ∣ f0 6 → e ∣ f0 0 → -gr ≤ d → d ≤ gr → d ∣ ev7 f0 1 → -far ≤ g → g ≤ far → g ∣ ev7 f0 (-1) → tc mk f0 a d g e) → rz_E y_M_findCubic 69 [rR 221, rL (ev7 f0 1), rX 1, rL (ev7 f0 (-1)), rX 1, rL gr, rX 1, rL far, rX 1, rL a, rX 1, rL (e + 1), rX 1, rX 0, rX 0] [] m' K := fun m' hJ' t => by
      refine ih (e + 1) m' (by omega) (by omega) hJ' (fun e' d g x y => ?_)
      by_cases w : e' = e
      · rw [w]; exact t d g
      · exact ht e' d g x (by omega)
    refine T_M_findCubic_69 _ _ _ _ _ _ _ _ (bf (by omega) ⟨⟨by decide, by decide⟩, ?_⟩)
    rw [en]
    have we : w64 (e + 1) = e + 1 := w64_id (by omega) (by omega)
    rw [we]
    refine c_M_into (fun _ _ => b1t ⟨⟨by decide, by decide⟩, ?_⟩) (fun w => b0t (nxt m hJ (fun d g _ x _ => absurd ⟨by omega, x⟩ w)))
    rw [e0]
    refine c_M_into (fun ez _ => b1n ?_) (fun w => b0n (nxt m hJ (fun d g x _ y => absurd ⟨x, y⟩ w)))
    rw [w64_id (z := -gr) (by omega) (by omega)]
    exact l_M_c115 H hc0 nl ha ⟨by omega, by omega, ez⟩ hgr hfar h1 (fun m' hJ' ht' => nxt m' hJ' (fun d g _ _ _ => ht' d g)) (gr + 1 - -gr).toNat (-gr) m rfl (Int.le_refl _) hJ (fun d' g x y => by omega)
theorem l_M_c55 [Lean.Grind.CommRing R] {co : R → Nat → Int} {mk : Nat → (Nat → Int) → R} (H : PolyR co mk) {m0 : rz_M} {A : R} {f0 : Int → Int} (hc0 : core co mk f0 6) (nl : nolin mk (pR mk 7 f0)) {gr far : Int} (hgr : 0 ≤ gr ∧ gr ≤ 700) (hfar : 0 ≤ far ∧ far ≤ 700) {K : Int → rz_M → Prop}
    (h1 : ∀ (m' : rz_M) (n' : Int), mI co mk m0 m' A n' → zd (pR mk 7 (m' 224)) (pR mk 7 f0) → n' ≤ 6 - 3 → K 1 m')
    (hx : ∀ m' : rz_M, qM co mk m0 A 6 f0 m' → (∀ a e d g : Int, 1 ≤ a → a ≤ 100 → -100 ≤ e → e ≤ 100 → e ≠ 0 → a ∣ f0 6 → e ∣ f0 0 → -gr ≤ d → d ≤ gr → d ∣ ev7 f0 1 → -far ≤ g → g ≤ far → g ∣ ev7 f0 (-1) → tc mk f0 a d g e) → K 0 m') : ∀ (r : Nat) (a : Int) (m : rz_M), 101 - a = r → 1 ≤ a → qM co mk m0 A 6 f0 m → (∀ a' e d g : Int, 1 ≤ a' → a' < a → -100 ≤ e → e ≤ 100 → e ≠ 0 → a' ∣ f0 6 → e ∣ f0 0 → -gr ≤ d → d ≤ gr → d ∣ ev7 f0 1 → -far ≤ g → g ≤ far → g ∣ ev7 f0 (-1) → tc mk f0 a' d g e) → rz_E y_M_findCubic 55 [rR 221, rL (ev7 f0 1), rX 1, rL (ev7 f0 (-1)), rX 1, rL gr, rX 1, rL far, rX 1, rL a, rX 1, rX 0, rX 0, rX 0, rX 0] [] m K := by
  intro r
  induction r with
  | zero =>
    intro a m hr ha hJ ht
    exact T_M_findCubic_55 _ _ _ _ _ _ _ (bt (by omega) (hx m hJ (fun a' e d g x y => ht a' e d g x (by omega))))
  | succ r ih =>
    intro a m hr ha hJ ht
    refine T_M_findCubic_55 _ _ _ _ _ _ _ (bf (by omega) (l_M_c69 H hc0 nl ⟨ha, by omega⟩ hgr hfar h1 (fun m' hJ' ht' => ih (a + 1) m' (by omega) (by omega) hJ' (fun a' e d g x y => ?_)) 201 (-100) m (by decide) (by decide) hJ (fun e' d g x y => by omega)))
    by_cases w : a' = a
    · rw [w]; exact ht' e d g
    · exact ht a' e d g x (by omega)
theorem c_M_findCubic [Lean.Grind.CommRing R] {co : R → Nat → Int} {mk : Nat → (Nat → Int) → R} (H : PolyR co mk) {m0 m : rz_M} {A : R} (hI : mI co mk m0 m A 6) (nl : nolin mk (pR mk 7 (m 224))) {K : Int → rz_M → Prop}
    (h : ∀ (r : Int) (m' : rz_M) (n' : Int), mI co mk m0 m' A n' → zd (pR mk 7 (m' 224)) (pR mk 7 (m 224)) → (n' = 6 ∧ nof co 3 (pR mk 7 (m' 224)) ∨ n' ≤ 3) → K r m') : rz_C y_M_findCubic [rR 221] m K := by
  have hc := hI.2.2.2.1
  have i224 : isL 224 7 := ⟨by decide +kernel, by decide +kernel⟩
  have hb := hc.2.2.2.1
  have e6 := ev_b hb
  rw [show tbn 6 = 100 from rfl] at e6
  have bv1 := e6.2.1
  have bv2 := e6.2.2.1
  have lead := hc.2.1
  have lead2 := hc.2.2.2.2.1
  have cst : bd (m 224 0) 100 := hc.2.2.2.2.2.1
  have e0 : ev7 (m 224) 0 = m 224 0 := by unfold ev7; omega
  have c00 : m 224 0 ≠ 0 := by have := nl_ev H nl 0; rwa [e0] at this
  unfold bd at bv1 bv2
  refine T_M_findCubic_0 _ _ (c_M_valueAt i224 ⟨by decide, by decide⟩ (fun _ _ _ => rfl) hc.2.2.1 (Or.inl rfl) hb (by decide) (c_M_valueAt i224 ⟨by decide, by decide⟩ (fun _ _ _ => rfl) hc.2.2.1 (Or.inr (Or.inl rfl)) hb (by decide) ?_))
  have o1 := nl_ev H nl 1
  have o2 := nl_ev H nl (-1)
  have dle : ∀ c d : Int, ev7 (m 224) c ≠ 0 → d ∣ ev7 (m 224) c → d.natAbs ≤ (ev7 (m 224) c).natAbs := fun c d h0 hd => Nat.le_of_dvd (by omega) (Int.natAbs_dvd_natAbs.mpr hd)
  have go : ∀ gr far : Int, gr = (ev7 (m 224) 1).natAbs → far = (ev7 (m 224) (-1)).natAbs → rz_E y_M_findCubic 55 [rR 221, rL (ev7 (m 224) 1), rX 1, rL (ev7 (m 224) (-1)), rX 1, rL gr, rX 1, rL far, rX 1, rL 1, rX 1, rX 0, rX 0, rX 0, rX 0] [] m K := fun gr far egr efar => by
    refine l_M_c55 H hc nl ⟨by omega, by omega⟩ ⟨by omega, by omega⟩ (fun m' n' I' z' d' => h 1 m' n' I' z' (Or.inr (by omega))) (fun m' hJ ht => ?_) 100 1 m (by decide) (by decide) ⟨hI, rfl⟩ (fun a' e d g x y => by omega)
    obtain ⟨I', eB⟩ := hJ
    refine h 0 m' 6 I' (by rw [eB]; exact zd_rf _) (Or.inl ⟨rfl, ?_⟩)
    rw [eB]
    refine nof_pos H (fun g t gp z => ?_)
    have er := row_ex H (h := g) (fun k hk => t.2 k (by omega))
    rw [← er] at z
    have zr := zd_row H (g := fun y => co g y.toNat) (d := 3) hc ⟨by decide, by decide⟩ t.1 (fun k k0 k1 => t.2 _ (by omega)) z
    have g4 : co g 4 = 0 := t.2 4 (by decide)
    have g5 : co g 5 = 0 := t.2 5 (by decide)
    have g6 : co g 6 = 0 := t.2 6 (by decide)
    have q0 : ev7 (fun y => co g y.toNat) 0 = co g 0 := by
      show co g 0 + 0 * _ = _
      omega
    have q1 : ev7 (fun y => co g y.toNat) 1 = co g 0 + co g 1 + co g 2 + co g 3 := by
      show co g 0 + 1 * (co g 1 + 1 * (co g 2 + 1 * (co g 3 + 1 * (co g 4 + 1 * (co g 5 + 1 * co g 6))))) = _
      omega
    have q2 : ev7 (fun y => co g y.toNat) (-1) = co g 0 - co g 1 + co g 2 - co g 3 := by
      show co g 0 + (-1) * (co g 1 + (-1) * (co g 2 + (-1) * (co g 3 + (-1) * (co g 4 + (-1) * (co g 5 + (-1) * co g 6))))) = _
      omega
    have z3 : co g 3 ∣ m 224 6 := zr.2.1
    have z0 := zr.2.2 0
    have z1 := zr.2.2 1
    have z2 := zr.2.2 (-1)
    rw [q0, e0] at z0
    rw [q1] at z1
    rw [q2] at z2
    have a1 := Int.le_of_dvd lead z3
    have b1 : (co g 0).natAbs ≤ 100 := by
      have := Int.natAbs_dvd_natAbs.mpr z0
      have := Nat.le_of_dvd (by omega) this
      unfold bd at cst
      omega
    have b0 : co g 0 ≠ 0 := fun w => c00 (by obtain ⟨t', ht'⟩ := z0; rw [ht', w, Int.zero_mul])
    have l1 := dle 1 _ o1 z1
    have l2 := dle (-1) _ o2 z2
    refine ht (co g 3) (co g 0) _ _ (by omega) (by omega) (by omega) (by omega) b0 z3 z0 (by omega) (by omega) z1 (by omega) (by omega) z2 (co g 0 + co g 2) (co g 1 + co g 3) (by omega) (by omega) ?_
    have : pR mk 7 (prt (co g 0) (co g 1 + co g 3 - co g 3) (co g 0 + co g 2 - co g 0) (co g 3)) = pR mk 7 (fun y => co g y.toNat) := pR_congr H (fun y y0 y1 => by
      show _ = co g y.toNat
      have : y = 0 ∨ y = 1 ∨ y = 2 ∨ y = 3 ∨ 3 < y := by omega
      rcases this with w | w | w | w | w
      · subst w; rfl
      · subst w
        show co g 1 + co g 3 - co g 3 = co g 1
        omega
      · subst w
        show co g 0 + co g 2 - co g 0 = co g 2
        omega
      · subst w; rfl
      · rw [prt_z w, t.2 y.toNat (by omega)])
    rw [this]
    exact z
  have snd : ∀ gr : Int, gr = (ev7 (m 224) 1).natAbs → rz_E y_M_findCubic 36 [rR 221, rL (ev7 (m 224) 1), rX 1, rL (ev7 (m 224) (-1)), rX 1, rX 0, rX 0, rX 0, rX 0, rX 0, rX 0, rX 0, rX 0, rX 0, rX 0] [rL gr] m K := fun gr egr => by
    refine T_M_findCubic_36 _ _ _ _ _ (bb (fun q => go gr _ egr (by omega)) (fun q => ?_))
    rw [w64_id (by omega) (by omega)]
    exact go gr _ egr (by omega)
  refine bb (fun q => snd _ (by omega)) (fun q => ?_)
  rw [w64_id (by omega) (by omega)]
  exact snd _ (by omega)
end
