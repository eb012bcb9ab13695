/-! what is left while factors are taken out: its bounds -/
theorem bef_tr {x y z : E3} (h1 : bef x y) (h2 : bef y z) : bef x z := by
  rcases h1 with h1 | ⟨e1, k, k0, k1, k2, k3⟩
  · rcases h2 with h2 | ⟨e2, _⟩
    · exact Or.inl (by omega)
    · exact Or.inl (by omega)
  · rcases h2 with h2 | ⟨e2, l, l0, l1, l2, l3⟩
    · exact Or.inl (by omega)
    · rcases Int.lt_trichotomy k l with q | q | q
      · exact Or.inr ⟨by omega, l, l0, l1, by rw [k3 l q l1]; exact l2, fun j a b => by rw [k3 j (by omega) b]; exact l3 j a b⟩
      · subst q
        exact Or.inr ⟨by omega, k, k0, k1, by omega, fun j a b => by rw [k3 j a b]; exact l3 j a b⟩
      · exact Or.inr ⟨by omega, k, k0, k1, by rw [← l3 k q k1]; exact k2, fun j a b => by rw [k3 j a b]; exact l3 j (by omega) b⟩
theorem hB6 {f : Int → Int} {B : Int} (h : hB f B) : bd (f 6) B := h 6 (by decide) (by decide)
theorem ev_b {f : Int → Int} {B : Int} (h : hB f B) : bd (ev7 f 0) B ∧ bd (ev7 f 1) (7 * B) ∧ bd (ev7 f (-1)) (7 * B) ∧ bd (ev7 f 2) (127 * B) ∧ bd (ev7 f (-2)) (127 * B) := by
  have b0 := h 0 (by decide) (by decide)
  have b1 := h 1 (by decide) (by decide)
  have b2 := h 2 (by decide) (by decide)
  have b3 := h 3 (by decide) (by decide)
  have b4 := h 4 (by decide) (by decide)
  have b5 := h 5 (by decide) (by decide)
  have b6 := h 6 (by decide) (by decide)
  clear h
  unfold ev7
  unfold bd at *
  omega
theorem ev_b5 {f : Int → Int} {B : Int} (h : hB f B) (z6 : f 6 = 0) : bd (ev7 f 0) B ∧ bd (ev7 f 1) (6 * B) ∧ bd (ev7 f (-1)) (6 * B) ∧ bd (ev7 f 2) (63 * B) ∧ bd (ev7 f (-2)) (63 * B) := by
  have b0 := h 0 (by decide) (by decide)
  have b1 := h 1 (by decide) (by decide)
  have b2 := h 2 (by decide) (by decide)
  have b3 := h 3 (by decide) (by decide)
  have b4 := h 4 (by decide) (by decide)
  have b5 := h 5 (by decide) (by decide)
  clear h
  unfold ev7
  rw [z6]
  unfold bd at *
  omega
theorem ev_b4 {f : Int → Int} {B : Int} (h : hB f B) (z6 : f 6 = 0) (z5 : f 5 = 0) : bd (ev7 f 0) B ∧ bd (ev7 f 1) (5 * B) ∧ bd (ev7 f (-1)) (5 * B) ∧ bd (ev7 f 2) (31 * B) ∧ bd (ev7 f (-2)) (31 * B) := by
  have b0 := h 0 (by decide) (by decide)
  have b1 := h 1 (by decide) (by decide)
  have b2 := h 2 (by decide) (by decide)
  have b3 := h 3 (by decide) (by decide)
  have b4 := h 4 (by decide) (by decide)
  clear h
  unfold ev7
  rw [z6, z5]
  unfold bd at *
  omega
theorem low1 {h : Int → Int} (h5 : h 5 = 0) (h6 : h 6 = 0) (h4 : h 4 = 0) (h3 : h 3 = 0) (h2 : h 2 = 0) (u0 : bd (ev7 h 0) 16000) (u1 : bd (ev7 h 1) (5 * 16000)) (u2 : bd (ev7 h (-1)) (5 * 16000)) : bd (h 0) 96000 ∧ bd (h 1) 96000 := by
  unfold ev7 at *
  rw [h6, h5, h4, h3, h2] at *
  unfold bd at *
  omega
section
variable {R : Type}
/-- x - c divides all but the value at c -/
theorem ev_hpl [Lean.Grind.CommRing R] {co : R → Nat → Int} {mk : Nat → (Nat → Int) → R} (H : PolyR co mk) (c : Int) : ∀ (n : Nat) (f : Nat → Int), ∃ v : Int, hpl mk (mo mk 0 c) n f = mo mk 0 v
  | 0, f => ⟨0, H.1 _ _ (fun k => by
      show co (0 : R) k = _
      rw [co_zero H, co_mo H]
      split <;> rfl)⟩
  | n + 1, f => by
    obtain ⟨v, hv⟩ := ev_hpl H c n (fun k => f (k + 1))
    refine ⟨f 0 + c * v, H.1 _ _ (fun k => ?_)⟩
    show co (mo mk 0 (f 0) + mo mk 0 c * hpl mk (mo mk 0 c) n (fun k => f (k + 1))) k = _
    rw [hv, H.2.1, co_C H, co_mo H, co_mo H, co_mo H]
    split
    · rfl
    · rw [Int.mul_zero]; rfl
theorem ev_C [Lean.Grind.CommRing R] {co : R → Nat → Int} {mk : Nat → (Nat → Int) → R} (H : PolyR co mk) (c : Int) (f : Int → Int) : hpl mk (mo mk 0 c : R) 7 (fun k => f (k : Int)) = mo mk 0 (ev7 f c) := by
  have st : ∀ (a v : Int), (mo mk 0 a + mo mk 0 c * mo mk 0 v : R) = mo mk 0 (a + c * v) := fun a v => H.1 _ _ (fun k => by
    rw [H.2.1, co_C H, co_mo H, co_mo H, co_mo H]
    split
    · rfl
    · rw [Int.mul_zero]; rfl)
  have z : (0 : R) = mo mk 0 0 := H.1 _ _ (fun k => by rw [co_zero H, co_mo H]; split <;> rfl)
  show mo mk 0 (f 0) + mo mk 0 c * (mo mk 0 (f 1) + mo mk 0 c * (mo mk 0 (f 2) + mo mk 0 c * (mo mk 0 (f 3) + mo mk 0 c * (mo mk 0 (f 4) + mo mk 0 c * (mo mk 0 (f 5) + mo mk 0 c * (mo mk 0 (f 6) + mo mk 0 c * 0)))))) = _
  rw [z, st, st, st, st, st, st, st, Int.mul_zero, Int.add_zero]
  rfl
theorem zd_hpl [Lean.Grind.CommRing R] {mk : Nat → (Nat → Int) → R} (t s : R) : ∀ (n : Nat) (f : Nat → Int), zd (t - s) (hpl mk t n f - hpl mk s n f)
  | 0, f => ⟨0, by show (0 : R) - 0 = _; grind⟩
  | n + 1, f => by
    obtain ⟨g, hg⟩ := zd_hpl (mk := mk) t s n (fun k => f (k + 1))
    refine ⟨t * g + hpl mk s n (fun k => f (k + 1)), ?_⟩
    show mo mk 0 (f 0) + t * hpl mk t n (fun k => f (k + 1)) - (mo mk 0 (f 0) + s * hpl mk s n (fun k => f (k + 1))) = _
    grind
theorem ev_rem [Lean.Grind.CommRing R] {co : R → Nat → Int} {mk : Nat → (Nat → Int) → R} (H : PolyR co mk) (c : Int) (f : Int → Int) : zd (mo mk 1 1 - mo mk 0 c) (pR mk 7 f - mo mk 0 (ev7 f c)) := by
  have := zd_hpl (mk := mk) (mo mk 1 1) (mo mk 0 c) 7 (fun k => f (k : Int))
  rwa [hpl_X H, ev_C H] at this
theorem xc_tz [Lean.Grind.CommRing R] {co : R → Nat → Int} {mk : Nat → (Nat → Int) → R} (H : PolyR co mk) (c : Int) : tz co (mo mk 1 1 - mo mk 0 c : R) 1 := by
  refine ⟨?_, fun k hk => ?_⟩
  · rw [co_sub H, co_mo H, co_mo H, if_pos rfl, if_neg (by decide)]
    decide
  · rw [co_sub H, co_mo H, co_mo H, if_neg (by omega), if_neg (by omega)]
    rfl
theorem ev_z [Lean.Grind.CommRing R] {co : R → Nat → Int} {mk : Nat → (Nat → Int) → R} (H : PolyR co mk) {c v : Int} (h : zd (mo mk 1 1 - mo mk 0 c : R) (mo mk 0 v)) : v = 0 := by
  refine Classical.byContradiction fun q => ?_
  obtain ⟨g, hg⟩ := h
  have t : tz co (mo mk 0 v : R) 0 := ⟨by rw [co_mo H, if_pos rfl]; exact q, fun k hk => by rw [co_mo H, if_neg (by omega)]⟩
  obtain ⟨i, j, hi, _, hij⟩ := zd_deg H t hg
  have := tz_uniq hi (xc_tz H c)
  omega
/-- values multiply -/
theorem ev_mul [Lean.Grind.CommRing R] {co : R → Nat → Int} {mk : Nat → (Nat → Int) → R} (H : PolyR co mk) {f g h : Int → Int} (e : pR mk 7 f = pR mk 7 g * pR mk 7 h) (c : Int) : ev7 f c = ev7 g c * ev7 h c := by
  obtain ⟨a1, e1⟩ := ev_rem H c f
  obtain ⟨a2, e2⟩ := ev_rem H c g
  obtain ⟨a3, e3⟩ := ev_rem H c h
  have st : (mo mk 0 (ev7 f c - ev7 g c * ev7 h c) : R) = mo mk 0 (ev7 f c) - mo mk 0 (ev7 g c) * mo mk 0 (ev7 h c) := H.1 _ _ (fun k => by
    rw [co_sub H, co_C H, co_mo H, co_mo H, co_mo H]
    split
    · rfl
    · rw [Int.mul_zero]; rfl)
  have := ev_z H (c := c) (v := ev7 f c - ev7 g c * ev7 h c) ⟨a2 * pR mk 7 h + mo mk 0 (ev7 g c) * a3 - a1, by rw [st]; grind⟩
  omega
theorem ev_root [Lean.Grind.CommRing R] {co : R → Nat → Int} {mk : Nat → (Nat → Int) → R} (H : PolyR co mk) {f : Int → Int} {c : Int} (h : ev7 f c = 0) : zd (mo mk 1 1 + mo mk 0 (-c)) (pR mk 7 f) := by
  obtain ⟨a, e⟩ := ev_rem H c f
  have z : (mo mk 0 (ev7 f c) : R) = 0 := H.1 _ _ (fun k => by rw [h, co_zero H, co_mo H]; split <;> rfl)
  have n : (mo mk 0 (-c) : R) = - mo mk 0 c := H.1 _ _ (fun k => by
    rw [co_neg H, co_mo H, co_mo H]
    split <;> rfl)
  exact ⟨a, by rw [n]; rw [z] at e; grind⟩
/-- no linear one divides it -/
def nolin [Lean.Grind.CommRing R] (mk : Nat → (Nat → Int) → R) (A : R) : Prop := ∀ a b : Int, a ≠ 0 → ¬ zd (mo mk 1 a + mo mk 0 b) A
theorem nolin_dv [Lean.Grind.CommRing R] {mk : Nat → (Nat → Int) → R} {A B : R} (h : nolin mk A) (d : zd B A) : nolin mk B := fun a b ha z => h a b ha (zd_tr z d)
/-- what is left: its degree and its bounds -/
def core (co : R → Nat → Int) (mk : Nat → (Nat → Int) → R) (f : Int → Int) (n : Int) : Prop := (0 ≤ n ∧ n ≤ 6) ∧ 0 < f n ∧ (∀ k : Int, n < k → k < 7 → f k = 0) ∧ hB f (tbn n) ∧ f n ≤ 100 ∧ bd (f 0) 100 ∧ prim co (pR mk 7 f)
theorem co_row0 [Lean.Grind.CommRing R] {co : R → Nat → Int} {mk : Nat → (Nat → Int) → R} (H : PolyR co mk) {f g h : Int → Int} (e : pR mk 7 f = pR mk 7 g * pR mk 7 h) : f 0 = g 0 * h 0 := by
  have c : co (pR mk 7 f) 0 = co (pR mk 7 g * pR mk 7 h) 0 := by rw [e]
  rw [H.2.2.1, cv_0, co_pR H, co_pR H, co_pR H, if_pos (by decide), if_pos (by decide), if_pos (by decide)] at c
  exact c
theorem co_rowt [Lean.Grind.CommRing R] {co : R → Nat → Int} {mk : Nat → (Nat → Int) → R} (H : PolyR co mk) {f g h : Int → Int} {n d : Int} (hn : 0 ≤ n ∧ n < 7) (hd : 0 ≤ d ∧ d ≤ n) (hgz : ∀ k : Int, d < k → k < 7 → g k = 0) (hhz : ∀ k : Int, n - d < k → k < 7 → h k = 0) (e : pR mk 7 f = pR mk 7 g * pR mk 7 h) : f n = g d * h (n - d) := by
  have zz : ∀ (g : Int → Int) (d : Int), 0 ≤ d → (∀ k : Int, d < k → k < 7 → g k = 0) → ∀ k : Nat, d.toNat < k → co (pR mk 7 g) k = 0 := fun g d hd hz k hk => by
    rw [co_pR H]
    split
    · exact hz k (by omega) (by omega)
    · rfl
  have c := (co_top H (zz g d hd.1 hgz) (zz h (n - d) (by omega) hhz)).1
  rw [← e, co_pR H, co_pR H, co_pR H, if_pos (by omega), if_pos (by omega), if_pos (by omega), show ((d.toNat + (n - d).toNat : Nat) : Int) = n from by omega, Int.toNat_of_nonneg hd.1, Int.toNat_of_nonneg (by omega)] at c
  exact c
/-- the quotient by a linear one -/
theorem lin_q [Lean.Grind.CommRing R] {co : R → Nat → Int} {mk : Nat → (Nat → Int) → R} (H : PolyR co mk) {f g h : Int → Int} {n : Int} (hc : core co mk f n) (h1 : 1 ≤ n) (ha : g 1 ≠ 0) (hgz : ∀ k : Int, 1 < k → k < 7 → g k = 0) (hhz : ∀ k : Int, n - 1 < k → k < 7 → h k = 0) (e : pR mk 7 f = pR mk 7 g * pR mk 7 h) : hB h (tbn (n - 1)) := by
  have n6 := hc.1.2
  have eg : pR mk 7 g = mo mk 0 (g 0) + mo mk 1 (g 1) := H.1 _ _ (fun k => by
    rw [H.2.1, co_pR H, co_mo H, co_mo H]
    by_cases q : k = 0
    · subst q
      rw [if_pos (by decide), if_pos rfl, if_neg (by decide)]
      show g 0 = g 0 + 0
      omega
    · rw [if_neg q]
      by_cases z : k = 1
      · subst z
        rw [if_pos (by decide), if_pos rfl]
        show g 1 = 0 + g 1
        omega
      · rw [if_neg z]
        split
        · rw [hgz k (by omega) (by omega)]
          rfl
        · rfl)
  obtain ⟨N, hN⟩ : ∃ N : Nat, n = N := ⟨n.toNat, by omega⟩
  subst hN
  have lb := lin_bd (a := g 1) (b := g 0) (B := tbn N) (r := f) (h := h) (n := N) ha (fun k k0 k1 => hc.2.2.2.1 k k0 (by omega)) (fun k k0 k1 => by
    have c : co (pR mk 7 f) k.toNat = co (pR mk 7 g * pR mk 7 h) k.toNat := by rw [e]
    rw [eg, show (mo mk 0 (g 0) + mo mk 1 (g 1)) * pR mk 7 h = mo mk 0 (g 0) * pR mk 7 h + mo mk 1 (g 1) * pR mk 7 h from by grind, H.2.1, co_C H, co_momul H, co_pR H, co_pR H, co_pR H, if_pos (by omega), if_pos (by omega), Int.toNat_of_nonneg k0] at c
    rw [c, Int.add_comm]
    congr 1
    · by_cases q : k = 0
      · rw [if_neg (by omega), if_pos q, Int.mul_zero]
      · rw [if_pos (by omega), if_pos (by omega), if_neg q, show ((k.toNat - 1 : Nat) : Int) = k - 1 from by omega]
    · by_cases q : k = N
      · rw [if_pos q, hhz k (by omega) (by omega)]
      · rw [if_neg q])
  intro k k0 k1
  by_cases q : k < N
  · refine bd_le (lb k k0 q) ?_
    have : N = 1 ∨ N = 2 ∨ N = 3 ∨ N = 4 ∨ N = 5 ∨ N = 6 := by omega
    rcases this with z | z | z | z | z | z <;> subst z <;> decide
  · rw [hhz k (by omega) k1]
    have := tbn_le ((N : Int) - 1)
    exact ⟨by omega, by omega⟩
/-- the quotient by one of degree 2 or more, where no linear one divides -/
theorem quad_q [Lean.Grind.CommRing R] {co : R → Nat → Int} {mk : Nat → (Nat → Int) → R} (H : PolyR co mk) {f g h : Int → Int} {n d : Int} (hc : core co mk f n) (hd : 2 ≤ d ∧ d ≤ n) (hl : nolin mk (pR mk 7 f)) (hhz : ∀ k : Int, n - d < k → k < 7 → h k = 0) (e : pR mk 7 f = pR mk 7 g * pR mk 7 h) : hB h (tbn (n - d)) := by
  have val : ∀ (c V : Int), bd (ev7 f c) V → bd (ev7 h c) V := fun c V hV => by
    have nz : ev7 g c ≠ 0 := fun z => by
      have z2 : ev7 f c = 0 := by rw [ev_mul H e c, z, Int.zero_mul]
      exact hl 1 (-c) (by decide) (ev_root H z2)
    have := ab_div nz (ev_mul H e c).symm
    unfold bd at hV ⊢
    omega
  have n6 := hc.1.2
  have h5 := hhz 5 (by omega) (by decide)
  have h6 := hhz 6 (by omega) (by decide)
  have fz := hc.2.2.1
  have hb := hc.2.2.2.1
  clear hc e
  have vb : ∀ V0 V1 V2 : Int, bd (ev7 f 0) V0 → bd (ev7 f 1) V1 → bd (ev7 f (-1)) V1 → bd (ev7 f 2) V2 → bd (ev7 f (-2)) V2 → bd (h 0) V0 ∧ bd (12 * h 1) (2 * V2 + 16 * V1) ∧ bd (24 * h 2) (2 * V2 + 32 * V1 + 30 * V0) ∧ bd (12 * h 3) (2 * V2 + 4 * V1) ∧ bd (24 * h 4) (2 * V2 + 8 * V1 + 6 * V0) := fun V0 V1 V2 a b c d' e' => val_bd h5 h6 (val _ _ a) (val _ _ b) (val _ _ c) (val _ _ d') (val _ _ e')
  -- the numbers one by one
  have fin : ∀ B : Int, tbn (n - d) = B → bd (h 0) B → bd (h 1) B → bd (h 2) B → bd (h 3) B → bd (h 4) B → hB h (tbn (n - d)) := fun B eB c0 c1 c2 c3 c4 k k0 k1 => by
    rw [eB]
    have : k = 0 ∨ k = 1 ∨ k = 2 ∨ k = 3 ∨ k = 4 ∨ k = 5 ∨ k = 6 := by omega
    have Bn := bd_nn c0
    rcases this with q | q | q | q | q | q | q <;> subst q
    · exact c0
    · exact c1
    · exact c2
    · exact c3
    · exact c4
    · rw [h5]; exact ⟨by omega, by omega⟩
    · rw [h6]; exact ⟨by omega, by omega⟩
  have fin2 : ∀ B V0 V1 V2 : Int, tbn (n - d) = B → V0 ≤ B → 2 * V2 + 16 * V1 ≤ 12 * B → 2 * V2 + 32 * V1 + 30 * V0 ≤ 24 * B → bd (ev7 f 0) V0 → bd (ev7 f 1) V1 → bd (ev7 f (-1)) V1 → bd (ev7 f 2) V2 → bd (ev7 f (-2)) V2 → hB h (tbn (n - d)) := fun B V0 V1 V2 eB l0 l1 l2 a b c d' e' => by
    obtain ⟨c0, c1, c2, c3, c4⟩ := vb V0 V1 V2 a b c d' e'
    have m0 := bd_nn a
    have m1 := bd_nn b
    have m2 := bd_nn d'
    clear vb val hb hl hhz fz a b c d' e'
    unfold bd at c0 c1 c2 c3 c4
    refine fin B eB ?_ ?_ ?_ ?_ ?_ <;> (clear fin; unfold bd; omega)
  obtain ⟨e0, e1, e2, e3, e4⟩ := ev_b hb
  have l6 := hB6 hb
  have cases : n = 6 ∨ n = 5 ∨ n = 4 ∨ n = 3 ∨ n = 2 := by omega
  rcases cases with q | q | q | q | q
  · subst q
    have : d = 2 ∨ d = 3 ∨ d = 4 ∨ d = 5 ∨ d = 6 := by omega
    rw [show tbn 6 = 100 from rfl] at e0 e1 e2 e3 e4
    rcases this with w | w | w | w | w <;> subst w
    · exact fin2 4000 100 700 12700 rfl (by decide) (by decide) (by decide) e0 e1 e2 e3 e4
    · exact fin2 16000 100 700 12700 rfl (by decide) (by decide) (by decide) e0 e1 e2 e3 e4
    · exact fin2 48000 100 700 12700 rfl (by decide) (by decide) (by decide) e0 e1 e2 e3 e4
    · exact fin2 96000 100 700 12700 rfl (by decide) (by decide) (by decide) e0 e1 e2 e3 e4
    · exact fin2 96000 100 700 12700 rfl (by decide) (by decide) (by decide) e0 e1 e2 e3 e4
  · subst q
    have : d = 2 ∨ d = 3 ∨ d = 4 ∨ d = 5 := by omega
    obtain ⟨e0, e1, e2, e3, e4⟩ := ev_b5 hb (fz 6 (by decide) (by decide))
    rw [show tbn 5 = 600 from rfl] at e0 e1 e2 e3 e4
    rcases this with w | w | w | w <;> subst w
    · exact fin2 16000 600 3600 37800 rfl (by decide) (by decide) (by decide) e0 e1 e2 e3 e4
    · exact fin2 48000 600 3600 37800 rfl (by decide) (by decide) (by decide) e0 e1 e2 e3 e4
    · exact fin2 96000 600 3600 37800 rfl (by decide) (by decide) (by decide) e0 e1 e2 e3 e4
    · exact fin2 96000 600 3600 37800 rfl (by decide) (by decide) (by decide) e0 e1 e2 e3 e4
  · subst q
    have : d = 2 ∨ d = 3 ∨ d = 4 := by omega
    obtain ⟨e0, e1, e2, e3, e4⟩ := ev_b4 hb (fz 6 (by decide) (by decide)) (fz 5 (by decide) (by decide))
    rw [show tbn 4 = 4000 from rfl] at e0 e1 e2 e3 e4
    rcases this with w | w | w <;> subst w
    · exact fin2 48000 4000 20000 124000 rfl (by decide) (by decide) (by decide) e0 e1 e2 e3 e4
    · exact fin2 96000 4000 20000 124000 rfl (by decide) (by decide) (by decide) e0 e1 e2 e3 e4
    · exact fin2 96000 4000 20000 124000 rfl (by decide) (by decide) (by decide) e0 e1 e2 e3 e4
  · -- of degree 1 or 0
    subst q
    have t2 : tbn (3 - d) = 96000 := by
      have : d = 2 ∨ d = 3 := by omega
      rcases this with w | w <;> subst w <;> rfl
    obtain ⟨e0, e1, e2, e3, e4⟩ := ev_b4 hb (fz 6 (by decide) (by decide)) (fz 5 (by decide) (by decide))
    rw [show tbn 3 = 16000 from rfl] at e0 e1 e2 e3 e4
    have u0 := val 0 _ e0
    have u1 := val 1 _ e1
    have u2 := val (-1) _ e2
    exact fin 96000 t2 (low1 h5 h6 (hhz 4 (by omega) (by decide)) (hhz 3 (by omega) (by decide)) (hhz 2 (by omega) (by decide)) u0 u1 u2).1 (low1 h5 h6 (hhz 4 (by omega) (by decide)) (hhz 3 (by omega) (by decide)) (hhz 2 (by omega) (by decide)) u0 u1 u2).2 (by rw [hhz 2 (by omega) (by decide)]; exact ⟨by decide, by decide⟩) (by rw [hhz 3 (by omega) (by decide)]; exact ⟨by decide, by decide⟩) (by rw [hhz 4 (by omega) (by decide)]; exact ⟨by decide, by decide⟩)
  · subst q
    have t2 : tbn (2 - d) = 96000 := by
      have : d = 2 := by omega
      subst this
      rfl
    rw [show tbn 2 = 48000 from rfl] at e0
    have u0 := val 0 _ e0
    have e00 : ev7 h 0 = h 0 := by unfold ev7; omega
    rw [e00] at u0
    exact fin 96000 t2 (bd_le u0 (by decide)) (by rw [hhz 1 (by omega) (by decide)]; exact ⟨by decide, by decide⟩) (by rw [hhz 2 (by omega) (by decide)]; exact ⟨by decide, by decide⟩) (by rw [hhz 3 (by omega) (by decide)]; exact ⟨by decide, by decide⟩) (by rw [hhz 4 (by omega) (by decide)]; exact ⟨by decide, by decide⟩)
/-- what a division leaves -/
theorem core_q [Lean.Grind.CommRing R] {co : R → Nat → Int} {mk : Nat → (Nat → Int) → R} (H : PolyR co mk) {f g h : Int → Int} {n d : Int} (hc : core co mk f n) (hd : 1 ≤ d ∧ d ≤ n) (hgd : 0 < g d) (hgz : ∀ k : Int, d < k → k < 7 → g k = 0) (hhz : ∀ k : Int, n - d < k → k < 7 → h k = 0) (e : pR mk 7 f = pR mk 7 g * pR mk 7 h) (hb : hB h (tbn (n - d))) (h0 : bd (h 0) 100) : core co mk h (n - d) := by
  have n06 := hc.1
  have ct := co_rowt H ⟨hc.1.1, by omega⟩ ⟨by omega, hd.2⟩ hgz hhz e
  have fp := hc.2.1
  have hp : 0 < h (n - d) := by
    refine Classical.byContradiction fun q => ?_
    have : g d * h (n - d) ≤ g d * 0 := Int.mul_le_mul_of_nonneg_left (by omega) (by omega)
    omega
  have hl : 1 * h (n - d) ≤ g d * h (n - d) := Int.mul_le_mul_of_nonneg_right (by omega) (by omega)
  have f100 := hc.2.2.2.2.1
  refine ⟨⟨by omega, by omega⟩, hp, hhz, hb, by omega, h0, fun p hpr hdv => hc.2.2.2.2.2.2 p hpr ?_⟩
  rw [e]
  exact dvp_mul H _ hdv
end
