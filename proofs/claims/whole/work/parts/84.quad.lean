/-! Splitter: a quadratic factor -/
theorem hrn7 {f : Int → Int} {x B : Int} (hx : x = 1 ∨ x = -1 ∨ x = 2) (hB' : hB f B) (hb : B ≤ 100000000) : hrn f x 7 0 = ev7 f x := by
  have b0 := hB' 0 (by decide) (by decide)
  have b1 := hB' 1 (by decide) (by decide)
  have b2 := hB' 2 (by decide) (by decide)
  have b3 := hB' 3 (by decide) (by decide)
  have b4 := hB' 4 (by decide) (by decide)
  have b5 := hB' 5 (by decide) (by decide)
  have b6 := hB' 6 (by decide) (by decide)
  clear hB'
  have ww : ∀ {z : Int}, -1000000000000 ≤ z → z ≤ 1000000000000 → w64 z = z := fun a b => w64_id (by omega) (by omega)
  unfold bd at *
  show w64 (w64 (w64 (w64 (w64 (w64 (w64 (w64 (w64 (w64 (w64 (w64 (w64 (w64 (0 * x) + f 6) * x) + f 5) * x) + f 4) * x) + f 3) * x) + f 2) * x) + f 1) * x) + f 0) = _
  unfold ev7
  rcases hx with q | q | q <;> subst q
  · rw [ww (z := 0 * 1) (by omega) (by omega), ww (z := 0 * 1 + f 6) (by omega) (by omega), ww (z := (0 * 1 + f 6) * 1) (by omega) (by omega), ww (z := (0 * 1 + f 6) * 1 + f 5) (by omega) (by omega), ww (z := ((0 * 1 + f 6) * 1 + f 5) * 1) (by omega) (by omega), ww (z := ((0 * 1 + f 6) * 1 + f 5) * 1 + f 4) (by omega) (by omega), ww (z := (((0 * 1 + f 6) * 1 + f 5) * 1 + f 4) * 1) (by omega) (by omega), ww (z := (((0 * 1 + f 6) * 1 + f 5) * 1 + f 4) * 1 + f 3) (by omega) (by omega), ww (z := ((((0 * 1 + f 6) * 1 + f 5) * 1 + f 4) * 1 + f 3) * 1) (by omega) (by omega), ww (z := ((((0 * 1 + f 6) * 1 + f 5) * 1 + f 4) * 1 + f 3) * 1 + f 2) (by omega) (by omega), ww (z := (((((0 * 1 + f 6) * 1 + f 5) * 1 + f 4) * 1 + f 3) * 1 + f 2) * 1) (by omega) (by omega), ww (z := (((((0 * 1 + f 6) * 1 + f 5) * 1 + f 4) * 1 + f 3) * 1 + f 2) * 1 + f 1) (by omega) (by omega), ww (z := ((((((0 * 1 + f 6) * 1 + f 5) * 1 + f 4) * 1 + f 3) * 1 + f 2) * 1 + f 1) * 1) (by omega) (by omega), ww (by omega) (by omega)]
    omega
  · rw [ww (z := 0 * (-1)) (by omega) (by omega), ww (z := 0 * (-1) + f 6) (by omega) (by omega), ww (z := (0 * (-1) + f 6) * (-1)) (by omega) (by omega), ww (z := (0 * (-1) + f 6) * (-1) + f 5) (by omega) (by omega), ww (z := ((0 * (-1) + f 6) * (-1) + f 5) * (-1)) (by omega) (by omega), ww (z := ((0 * (-1) + f 6) * (-1) + f 5) * (-1) + f 4) (by omega) (by omega), ww (z := (((0 * (-1) + f 6) * (-1) + f 5) * (-1) + f 4) * (-1)) (by omega) (by omega), ww (z := (((0 * (-1) + f 6) * (-1) + f 5) * (-1) + f 4) * (-1) + f 3) (by omega) (by omega), ww (z := ((((0 * (-1) + f 6) * (-1) + f 5) * (-1) + f 4) * (-1) + f 3) * (-1)) (by omega) (by omega), ww (z := ((((0 * (-1) + f 6) * (-1) + f 5) * (-1) + f 4) * (-1) + f 3) * (-1) + f 2) (by omega) (by omega), ww (z := (((((0 * (-1) + f 6) * (-1) + f 5) * (-1) + f 4) * (-1) + f 3) * (-1) + f 2) * (-1)) (by omega) (by omega), ww (z := (((((0 * (-1) + f 6) * (-1) + f 5) * (-1) + f 4) * (-1) + f 3) * (-1) + f 2) * (-1) + f 1) (by omega) (by omega), ww (z := ((((((0 * (-1) + f 6) * (-1) + f 5) * (-1) + f 4) * (-1) + f 3) * (-1) + f 2) * (-1) + f 1) * (-1)) (by omega) (by omega), ww (by omega) (by omega)]
    omega
  · rw [ww (z := 0 * 2) (by omega) (by omega), ww (z := 0 * 2 + f 6) (by omega) (by omega), ww (z := (0 * 2 + f 6) * 2) (by omega) (by omega), ww (z := (0 * 2 + f 6) * 2 + f 5) (by omega) (by omega), ww (z := ((0 * 2 + f 6) * 2 + f 5) * 2) (by omega) (by omega), ww (z := ((0 * 2 + f 6) * 2 + f 5) * 2 + f 4) (by omega) (by omega), ww (z := (((0 * 2 + f 6) * 2 + f 5) * 2 + f 4) * 2) (by omega) (by omega), ww (z := (((0 * 2 + f 6) * 2 + f 5) * 2 + f 4) * 2 + f 3) (by omega) (by omega), ww (z := ((((0 * 2 + f 6) * 2 + f 5) * 2 + f 4) * 2 + f 3) * 2) (by omega) (by omega), ww (z := ((((0 * 2 + f 6) * 2 + f 5) * 2 + f 4) * 2 + f 3) * 2 + f 2) (by omega) (by omega), ww (z := (((((0 * 2 + f 6) * 2 + f 5) * 2 + f 4) * 2 + f 3) * 2 + f 2) * 2) (by omega) (by omega), ww (z := (((((0 * 2 + f 6) * 2 + f 5) * 2 + f 4) * 2 + f 3) * 2 + f 2) * 2 + f 1) (by omega) (by omega), ww (z := ((((((0 * 2 + f 6) * 2 + f 5) * 2 + f 4) * 2 + f 3) * 2 + f 2) * 2 + f 1) * 2) (by omega) (by omega), ww (by omega) (by omega)]
    omega
section
variable {R : Type}
def nof [Lean.Grind.CommRing R] (co : R → Nat → Int) (d : Nat) (A : R) : Prop := ∀ g : R, tz co g d → ¬ zd g A
theorem nof_dv [Lean.Grind.CommRing R] {co : R → Nat → Int} {d : Nat} {A B : R} (h : nof co d A) (z : zd B A) : nof co d B := fun g t y => h g t (zd_tr y z)
theorem irz_23 [Lean.Grind.CommRing R] {co : R → Nat → Int} {mk : Nat → (Nat → Int) → R} (H : PolyR co mk) {g f : R} {d : Nat} (hd : d = 2 ∨ d = 3) (hf : prim co f) (nl : nolin mk f) (ht : tz co g d) (hz : zd g f) : irz co g d :=
  irz_mk H (prim_dv H hf hz) ht (by omega) (fun a b i j e hi hj hij h1 h2 => by
    have i1 : i = 1 := by omega
    subst i1
    refine nl (co a 1) (co a 0) hi.1 ?_
    rw [← lin_form H hi]
    exact zd_tr ⟨b, e⟩ hz)
theorem zd_row [Lean.Grind.CommRing R] {co : R → Nat → Int} {mk : Nat → (Nat → Int) → R} (H : PolyR co mk) {f g : Int → Int} {n d : Int} (hc : core co mk f n) (hd : 0 ≤ d ∧ d ≤ 6) (g0 : g d ≠ 0) (gz : ∀ k : Int, d < k → k < 7 → g k = 0) (h : zd (pR mk 7 g) (pR mk 7 f)) : d ≤ n ∧ g d ∣ f n ∧ ∀ c : Int, ev7 g c ∣ ev7 f c := by
  have n06 := hc.1
  obtain ⟨q, e⟩ := h
  obtain ⟨i, j, hi, hj, hij⟩ := zd_deg H (core_tz H hc) e
  have ei := tz_uniq hi (row_tz H ⟨by omega, by omega⟩ g0 gz)
  have er := row_ex H (h := q) (fun k hk => hj.2 k (by omega))
  rw [← er] at e
  have ct := co_rowt H (n := n) (d := d) ⟨n06.1, by omega⟩ ⟨by omega, by omega⟩ gz (fun k k0 k1 => hj.2 _ (by omega)) e
  exact ⟨by omega, ⟨_, ct⟩, fun c => ⟨_, ev_mul H e c⟩⟩
theorem nl_ev [Lean.Grind.CommRing R] {co : R → Nat → Int} {mk : Nat → (Nat → Int) → R} (H : PolyR co mk) {f : Int → Int} (nl : nolin mk (pR mk 7 f)) (c : Int) : ev7 f c ≠ 0 := fun z => nl 1 (-c) (by decide) (ev_root H z)
theorem core_cg [Lean.Grind.CommRing R] {co : R → Nat → Int} {mk : Nat → (Nat → Int) → R} (H : PolyR co mk) {f g : Int → Int} (e : pR mk 7 f = pR mk 7 g) : ∀ k : Int, 0 ≤ k → k < 7 → f k = g k := fun k k0 k1 => by
  have c : co (pR mk 7 f) k.toNat = co (pR mk 7 g) k.toNat := by rw [e]
  rwa [co_pR H, co_pR H, if_pos (by omega), if_pos (by omega), Int.toNat_of_nonneg k0] at c
/-- one of degree 2 or 3 is tried -/
theorem c_Sp_tryG [Lean.Grind.CommRing R] {co : R → Nat → Int} {mk : Nat → (Nat → Int) → R} (H : PolyR co mk) {P : Nat} (hP : isP P) {m0 m : rz_M} {A : R} {n d : Int} (hd : d = 2 ∨ d = 3) {a b c e : Int} (hI : spI co mk m0 m P A n) (nl : nolin mk (pR mk 7 (m 56))) (hp : ∀ y : Int, 0 ≤ y → y < 7 → m 59 y = prt a b c e y) (a0 : a ≠ 0) (h2 : d = 2 → 0 < c ∧ e = 0) (h3 : d = 3 → 0 < e) (ba : bd a 1000000) (bb' : bd b 1000000) (bc : bd c 1000000) (be : bd e 1000000) {K : Int → rz_M → Prop}
    (h : ∀ (r : Int) (m' : rz_M) (n' : Int), spI co mk m0 m' P A n' → (∀ i : Nat, 60 ≤ i → i ≤ 63 → m' i = m i) → zd (pR mk 7 (m' 56)) (pR mk 7 (m 56)) → (r = 0 ∧ n' = n ∧ pR mk 7 (m' 56) = pR mk 7 (m 56) ∧ ¬ zd (pR mk 7 (prt a b c e)) (pR mk 7 (m 56)) ∨ r = 1 ∧ n' ≤ n - d) → K r m') : rz_C y_Sp_takeOut [rR 55, rI d] m K := by
  have e59 : pR mk 7 (m 59) = pR mk 7 (prt a b c e) := pR_congr H (fun y y0 y1 => hp y y0 (by omega))
  have gd : 0 < m 59 d := by
    rw [hp d (by omega) (by omega)]
    rcases hd with q | q <;> subst q
    · exact (h2 rfl).1
    · exact h3 rfl
  have gz : ∀ k : Int, d < k → k < 7 → m 59 k = 0 := fun k k0 k1 => by
    rw [hp k (by omega) k1]
    rcases hd with q | q <;> subst q
    · unfold prt
      rw [if_neg (by omega), if_neg (by omega), if_neg (by omega), (h2 rfl).2]
      split <;> rfl
    · exact prt_z k0
  have g0 : m 59 0 ≠ 0 := by rw [hp 0 (by decide) (by decide)]; exact a0
  refine c_Sp_takeOut H hP hI ⟨⟨by omega, by omega⟩, gd, gz, Or.inr nl, Or.inl g0⟩ (fun k k0 k1 => ?_) (fun z => ?_) (fun r m' n' I' fr zr nz _ rr => h r m' n' I' (fun i i0 i1 => fr i (by omega) i1) zr ?_)
  · rw [hp k k0 k1]
    unfold prt
    split
    · exact ba
    · split
      · exact bb'
      · split
        · exact bc
        · split
          · exact be
          · exact ⟨by decide, by decide⟩
  · exact irz_23 H (by omega) hI.2.2.2.2.1.2.2.2.2.2.2 nl (row_tz H ⟨by omega, by omega⟩ (by omega) gz) z
  · rcases rr with ⟨q1, q2, q3⟩ | q
    · exact Or.inl ⟨q1, q2, q3, by rwa [e59, q3] at nz⟩
    · exact Or.inr q
/-- the state while quadratics are tried -/
def qJ [Lean.Grind.CommRing R] (co : R → Nat → Int) (mk : Nat → (Nat → Int) → R) (m0 : rz_M) (P : Nat) (A : R) (n : Int) (f0 : Int → Int) (m6 m : rz_M) : Prop := spI co mk m0 m P A n ∧ pR mk 7 (m 56) = pR mk 7 f0 ∧ ∀ i : Nat, 60 ≤ i → i ≤ 63 → m i = m6 i
def tq [Lean.Grind.CommRing R] (mk : Nat → (Nat → Int) → R) (f0 : Int → Int) (m6 : rz_M) (l f o : Int) : Prop := ¬ zd (pR mk 7 (prt (m6 61 f) (m6 62 o - m6 60 l - m6 61 f) (m6 60 l) 0)) (pR mk 7 f0)
theorem l_Sp_q95 [Lean.Grind.CommRing R] {co : R → Nat → Int} {mk : Nat → (Nat → Int) → R} (H : PolyR co mk) {P : Nat} (hP : isP P) {m0 m6 : rz_M} {A : R} {n : Int} {f0 : Int → Int} (hc0 : core co mk f0 n) (nl : nolin mk (pR mk 7 f0)) {ml mf mo l f : Int} (hl : 0 ≤ l ∧ l < 512) (hf : 0 ≤ f ∧ f < 512) (ho : mo ≤ 424) (hL : 0 < m6 60 l ∧ bd (m6 60 l) 20000) (hF : m6 61 f ≠ 0 ∧ bd (m6 61 f) 20000) (hO : ∀ i : Int, 0 ≤ i → i < mo → bd (m6 62 i) 20000) {K : Int → rz_M → Prop}
    (h1 : ∀ (m' : rz_M) (n' : Int), spI co mk m0 m' P A n' → zd (pR mk 7 (m' 56)) (pR mk 7 f0) → n' ≤ n - 2 → K 1 m')
    (hn : ∀ m' : rz_M, qJ co mk m0 P A n f0 m6 m' → (∀ i : Int, 0 ≤ i → i < mo → tq mk f0 m6 l f i) → rz_E y_Sp_takeQuadratic 86 [rR 55, rI ml, rI mf, rI mo, rL (ev7 f0 (-1)), rX 1, rL (ev7 f0 2), rX 1, rI l, rI (f + 1), rX 0, rX 0, rX 0] [] m' K) : ∀ (r : Nat) (o : Int) (m : rz_M), (mo - o).toNat = r → 0 ≤ o → qJ co mk m0 P A n f0 m6 m → (∀ i : Int, 0 ≤ i → i < o → tq mk f0 m6 l f i) → rz_E y_Sp_takeQuadratic 95 [rR 55, rI ml, rI mf, rI mo, rL (ev7 f0 (-1)), rX 1, rL (ev7 f0 2), rX 1, rI l, rI f, rI o, rX 0, rX 0] [] m K := by
  intro r
  induction r with
  | zero =>
    intro o m hr o0 hJ ht
    refine T_Sp_takeQuadratic_95 _ _ _ _ _ _ _ _ _ _ (bt (by omega) ?_)
    rw [w32_id (by omega) (by omega)]
    exact hn m hJ (fun i i0 i1 => ht i i0 (by omega))
  | succ r ih =>
    intro o m hr o0 hJ ht
    obtain ⟨hI, eB, j6⟩ := hJ
    have e60 := j6 60 (by decide) (by decide)
    have e61 := j6 61 (by decide) (by decide)
    have e62 := j6 62 (by decide) (by decide)
    have bO := hO o o0 (by omega)
    have nxt : ∀ m' : rz_M, qJ co mk m0 P A n f0 m6 m' → tq mk f0 m6 l f o → rz_E y_Sp_takeQuadratic 217 [rR 55, rI ml, rI mf, rI mo, rL (ev7 f0 (-1)), rX 1, rL (ev7 f0 2), rX 1, rI l, rI f, rI o, rX 0, rX 0] [] m' K := fun m' hJ' t => by
      refine T_Sp_takeQuadratic_217 _ _ _ _ _ _ _ _ _ _ ?_
      rw [w32_id (by omega) (by omega)]
      refine ih (o + 1) m' (by omega) (by omega) hJ' (fun i i0 i1 => ?_)
      by_cases w : i = o
      · rw [w]; exact t
      · exact ht i i0 (by omega)
    have g2 : prt (m6 61 f) (m6 62 o - m6 60 l - m6 61 f) (m6 60 l) 0 2 = m6 60 l := rfl
    have zr : zd (pR mk 7 (prt (m6 61 f) (m6 62 o - m6 60 l - m6 61 f) (m6 60 l) 0)) (pR mk 7 f0) → ∀ c : Int, ev7 (prt (m6 61 f) (m6 62 o - m6 60 l - m6 61 f) (m6 60 l) 0) c ∣ ev7 f0 c ∧ ev7 (prt (m6 61 f) (m6 62 o - m6 60 l - m6 61 f) (m6 60 l) 0) c ≠ 0 := fun z c => by
      have := (zd_row H (d := 2) hc0 ⟨by decide, by decide⟩ (by rw [g2]; omega) (fun k k0 k1 => by
        unfold prt
        rw [if_neg (by omega), if_neg (by omega), if_neg (by omega)]
        split <;> rfl) z).2.2 c
      exact ⟨this, fun w => nl_ev H nl c (by obtain ⟨t, ht⟩ := this; rw [ht, w, Int.zero_mul])⟩
    have v1 : ev7 (prt (m6 61 f) (m6 62 o - m6 60 l - m6 61 f) (m6 60 l) 0) (-1) = m6 60 l - (m6 62 o - m6 60 l - m6 61 f) + m6 61 f := by
      show m6 61 f + (-1) * ((m6 62 o - m6 60 l - m6 61 f) + (-1) * (m6 60 l + (-1) * (0 + (-1) * (0 + (-1) * (0 + (-1) * 0))))) = _
      omega
    have v2 : ev7 (prt (m6 61 f) (m6 62 o - m6 60 l - m6 61 f) (m6 60 l) 0) 2 = 4 * m6 60 l + 2 * (m6 62 o - m6 60 l - m6 61 f) + m6 61 f := by
      show m6 61 f + 2 * ((m6 62 o - m6 60 l - m6 61 f) + 2 * (m6 60 l + 2 * (0 + 2 * (0 + 2 * (0 + 2 * 0))))) = _
      omega
    have hL2 := hL.2
    have hF2 := hF.2
    refine T_Sp_takeQuadratic_95 _ _ _ _ _ _ _ _ _ _ (bf (by omega) ⟨⟨o0, by omega⟩, hl, hf, hl, hf, ?_⟩)
    have J0 : qJ co mk m0 P A n f0 m6 m := ⟨hI, eB, j6⟩
    unfold tq at nxt
    unfold bd at hL2 hF2 bO
    have x60 : m 60 l = m6 60 l := by rw [e60]
    have x61 : m 61 f = m6 61 f := by rw [e61]
    have x62 : m 62 o = m6 62 o := by rw [e62]
    have wA : w64 (w64 (m6 62 o - m6 60 l) - m6 61 f) = m6 62 o - m6 60 l - m6 61 f := by
      rw [w64_id (z := m6 62 o - m6 60 l) (by omega) (by omega), w64_id (by omega) (by omega)]
    have w1 : w64 (w64 (m6 60 l - (m6 62 o - m6 60 l - m6 61 f)) + m6 61 f) = m6 60 l - (m6 62 o - m6 60 l - m6 61 f) + m6 61 f := by
      rw [w64_id (z := m6 60 l - (m6 62 o - m6 60 l - m6 61 f)) (by omega) (by omega), w64_id (by omega) (by omega)]
    have w2 : w64 (w64 (w64 (4 * m6 60 l) + w64 (2 * (m6 62 o - m6 60 l - m6 61 f))) + m6 61 f) = 4 * m6 60 l + 2 * (m6 62 o - m6 60 l - m6 61 f) + m6 61 f := by
      rw [w64_id (z := 4 * m6 60 l) (by omega) (by omega), w64_id (z := 2 * (m6 62 o - m6 60 l - m6 61 f)) (by omega) (by omega), w64_id (z := 4 * m6 60 l + 2 * (m6 62 o - m6 60 l - m6 61 f)) (by omega) (by omega), w64_id (by omega) (by omega)]
    rw [x60, x61, x62, wA, w1]
    refine c_RC_divides (fun _ _ => b1t ⟨hl, hf, ?_⟩) (fun w => b0t (nxt m J0 (fun z => w ?_)))
    · rw [x60, x61, w2]
      refine c_RC_divides (fun _ _ => b1t (T_Sp_takeQuadratic_186 _ _ _ _ _ _ _ _ _ _ _ ⟨hf, hl, ?_⟩)) (fun w => b0t (nxt m J0 (fun z => w ?_)))
      · rw [x60, x61]
        refine c_Sp_setPart (fun m1 f1 p1 => c_Sp_tryG H hP (Or.inl rfl) (spI_part hP hI f1) (by rw [f1 56 (by decide), eB]; exact nl) p1 hF.1 (fun _ => ⟨hL.1, rfl⟩) (fun z => absurd z (by decide)) ⟨by omega, by omega⟩ ⟨by omega, by omega⟩ ⟨by omega, by omega⟩ ⟨by decide, by decide⟩ (fun r2 m2 n2 I2 fr2 z2 d2 => ?_))
        rw [f1 56 (by decide), eB] at z2 d2
        rcases d2 with ⟨q1, q2, q3, q4⟩ | ⟨q1, q2⟩
        · subst q1; subst q2
          exact b0t (nxt m2 ⟨I2, q3, fun i i0 i1 => by rw [fr2 i i0 i1, f1 i (by omega)]; exact j6 i i0 i1⟩ q4)
        · subst q1
          exact b1t (h1 m2 n2 I2 z2 q2)
      · have := zr z 2
        rw [v2] at this
        exact ⟨this.2, this.1⟩
    · have := zr z (-1)
      rw [v1] at this
      exact ⟨this.2, this.1⟩
theorem l_Sp_q86 [Lean.Grind.CommRing R] {co : R → Nat → Int} {mk : Nat → (Nat → Int) → R} (H : PolyR co mk) {P : Nat} (hP : isP P) {m0 m6 : rz_M} {A : R} {n : Int} {f0 : Int → Int} (hc0 : core co mk f0 n) (nl : nolin mk (pR mk 7 f0)) {ml mf mo l : Int} (hl : 0 ≤ l ∧ l < 512) (hm : mf ≤ 424) (ho : mo ≤ 424) (hL : 0 < m6 60 l ∧ bd (m6 60 l) 20000) (hF : ∀ i : Int, 0 ≤ i → i < mf → m6 61 i ≠ 0 ∧ bd (m6 61 i) 20000) (hO : ∀ i : Int, 0 ≤ i → i < mo → bd (m6 62 i) 20000) {K : Int → rz_M → Prop}
    (h1 : ∀ (m' : rz_M) (n' : Int), spI co mk m0 m' P A n' → zd (pR mk 7 (m' 56)) (pR mk 7 f0) → n' ≤ n - 2 → K 1 m')
    (hn : ∀ m' : rz_M, qJ co mk m0 P A n f0 m6 m' → (∀ k i : Int, 0 ≤ k → k < mf → 0 ≤ i → i < mo → tq mk f0 m6 l k i) → rz_E y_Sp_takeQuadratic 77 [rR 55, rI ml, rI mf, rI mo, rL (ev7 f0 (-1)), rX 1, rL (ev7 f0 2), rX 1, rI (l + 1), rX 0, rX 0, rX 0, rX 0] [] m' K) : ∀ (r : Nat) (f : Int) (m : rz_M), (mf - f).toNat = r → 0 ≤ f → qJ co mk m0 P A n f0 m6 m → (∀ k i : Int, 0 ≤ k → k < f → 0 ≤ i → i < mo → tq mk f0 m6 l k i) → rz_E y_Sp_takeQuadratic 86 [rR 55, rI ml, rI mf, rI mo, rL (ev7 f0 (-1)), rX 1, rL (ev7 f0 2), rX 1, rI l, rI f, rX 0, rX 0, rX 0] [] m K := by
  intro r
  induction r with
  | zero =>
    intro f m hr f0' hJ ht
    refine T_Sp_takeQuadratic_86 _ _ _ _ _ _ _ _ _ (bt (by omega) ?_)
    rw [w32_id (by omega) (by omega)]
    exact hn m hJ (fun k i k0 k1 i0 i1 => ht k i k0 (by omega) i0 i1)
  | succ r ih =>
    intro f m hr f0' hJ ht
    refine T_Sp_takeQuadratic_86 _ _ _ _ _ _ _ _ _ (bf (by omega) (l_Sp_q95 H hP hc0 nl hl ⟨f0', by omega⟩ ho hL (hF f f0' (by omega)) hO h1 (fun m' hJ' ht' => ih (f + 1) m' (by omega) (by omega) hJ' (fun k i k0 k1 i0 i1 => ?_)) mo.toNat 0 m (by omega) (by decide) hJ (fun i i0 i1 => by omega)))
    by_cases w : k = f
    · rw [w]; exact ht' i i0 i1
    · exact ht k i k0 (by omega) i0 i1
theorem l_Sp_q77 [Lean.Grind.CommRing R] {co : R → Nat → Int} {mk : Nat → (Nat → Int) → R} (H : PolyR co mk) {P : Nat} (hP : isP P) {m0 m6 : rz_M} {A : R} {n : Int} {f0 : Int → Int} (hc0 : core co mk f0 n) (nl : nolin mk (pR mk 7 f0)) {ml mf mo : Int} (hl : ml ≤ 424) (hm : mf ≤ 424) (ho : mo ≤ 424) (hL : ∀ i : Int, 0 ≤ i → i < ml → 0 < m6 60 i ∧ bd (m6 60 i) 20000) (hF : ∀ i : Int, 0 ≤ i → i < mf → m6 61 i ≠ 0 ∧ bd (m6 61 i) 20000) (hO : ∀ i : Int, 0 ≤ i → i < mo → bd (m6 62 i) 20000) {K : Int → rz_M → Prop}
    (h1 : ∀ (m' : rz_M) (n' : Int), spI co mk m0 m' P A n' → zd (pR mk 7 (m' 56)) (pR mk 7 f0) → n' ≤ n - 2 → K 1 m')
    (hn : ∀ m' : rz_M, qJ co mk m0 P A n f0 m6 m' → (∀ j k i : Int, 0 ≤ j → j < ml → 0 ≤ k → k < mf → 0 ≤ i → i < mo → tq mk f0 m6 j k i) → K 0 m') : ∀ (r : Nat) (l : Int) (m : rz_M), (ml - l).toNat = r → 0 ≤ l → qJ co mk m0 P A n f0 m6 m → (∀ j k i : Int, 0 ≤ j → j < l → 0 ≤ k → k < mf → 0 ≤ i → i < mo → tq mk f0 m6 j k i) → rz_E y_Sp_takeQuadratic 77 [rR 55, rI ml, rI mf, rI mo, rL (ev7 f0 (-1)), rX 1, rL (ev7 f0 2), rX 1, rI l, rX 0, rX 0, rX 0, rX 0] [] m K := by
  intro r
  induction r with
  | zero =>
    intro l m hr l0 hJ ht
    exact T_Sp_takeQuadratic_77 _ _ _ _ _ _ _ _ (bt (by omega) (hn m hJ (fun j k i j0 j1 => ht j k i j0 (by omega))))
  | succ r ih =>
    intro l m hr l0 hJ ht
    refine T_Sp_takeQuadratic_77 _ _ _ _ _ _ _ _ (bf (by omega) (l_Sp_q86 H hP hc0 nl ⟨l0, by omega⟩ hm ho (hL l l0 (by omega)) hF hO h1 (fun m' hJ' ht' => ih (l + 1) m' (by omega) (by omega) hJ' (fun j k i j0 j1 => ?_)) mf.toNat 0 m (by omega) (by decide) hJ (fun k i k0 k1 => by omega)))
    by_cases w : j = l
    · rw [w]; exact ht' k i
    · exact ht j k i j0 (by omega)
theorem core_ev [Lean.Grind.CommRing R] {co : R → Nat → Int} {mk : Nat → (Nat → Int) → R} {f : Int → Int} {n : Int} (hc : core co mk f n) (hn : 4 ≤ n) : bd (ev7 f 1) 20000 ∧ bd (ev7 f (-1)) 20000 := by
  have n06 := hc.1
  have fz := hc.2.2.1
  have hb := hc.2.2.2.1
  have : n = 4 ∨ n = 5 ∨ n = 6 := by omega
  rcases this with q | q | q <;> subst q
  · have e := ev_b4 hb (fz 6 (by decide) (by decide)) (fz 5 (by decide) (by decide))
    exact ⟨bd_le e.2.1 (by decide), bd_le e.2.2.1 (by decide)⟩
  · have e := ev_b5 hb (fz 6 (by decide) (by decide))
    exact ⟨bd_le e.2.1 (by decide), bd_le e.2.2.1 (by decide)⟩
  · have e := ev_b hb
    exact ⟨bd_le e.2.1 (by decide), bd_le e.2.2.1 (by decide)⟩
/-- a factor of degree d may end with a positive number -/
theorem nof_pos [Lean.Grind.CommRing R] {co : R → Nat → Int} {mk : Nat → (Nat → Int) → R} (H : PolyR co mk) {d : Nat} {A : R} (h : ∀ g : R, tz co g d → 0 < co g d → ¬ zd g A) : nof co d A := fun g t z => by
  by_cases q : 0 < co g d
  · exact h g t q z
  · obtain ⟨q', e⟩ := z
    refine h (-g) ⟨by rw [co_neg H]; have := t.1; omega, fun k hk => by rw [co_neg H, t.2 k hk]; rfl⟩ (by rw [co_neg H]; have := t.1; omega) ⟨-q', by rw [e]; grind⟩
theorem c_Sp_takeQuadratic [Lean.Grind.CommRing R] {co : R → Nat → Int} {mk : Nat → (Nat → Int) → R} (H : PolyR co mk) {P : Nat} (hP : isP P) {m0 m : rz_M} {A : R} {n : Int} (hI : spI co mk m0 m P A n) (hn : 4 ≤ n) (nl : nolin mk (pR mk 7 (m 56))) {K : Int → rz_M → Prop}
    (h : ∀ (r : Int) (m' : rz_M) (n' : Int), spI co mk m0 m' P A n' → zd (pR mk 7 (m' 56)) (pR mk 7 (m 56)) → (r = 0 ∧ n' = n ∧ nof co 2 (pR mk 7 (m' 56)) ∨ r = 1 ∧ n' ≤ n - 2) → K r m') : rz_C y_Sp_takeQuadratic [rR 55] m K := by
  have hc := hI.2.2.2.2.1
  have n06 := hc.1
  have em : m 55 10 = n := hI.2.2.2.1
  have P59 : P + 10 < 47 := by rcases hP with z | z | z <;> omega
  have i56 : isL 56 7 := ⟨by decide +kernel, by decide +kernel⟩
  have hb := hc.2.2.2.1
  have tb := tbn_le n
  have lead := hc.2.1
  have lead2 := hc.2.2.2.2.1
  have cst : bd (m 56 0) 100 := hc.2.2.2.2.2.1
  have bv := core_ev hc hn
  have n0 := nl_ev H nl
  have e0 : ev7 (m 56) 0 = m 56 0 := by unfold ev7; omega
  refine T_Sp_takeQuadratic_0 _ _ ?_
  rw [em]
  refine ⟨⟨n06.1, by omega⟩, c_Sp_listDivisors (by decide +kernel) (by decide +kernel) (by decide +kernel) (Or.inl rfl) (by omega) ⟨by omega, by omega⟩ (fun ml m1 f1 l0 l1 hL cL => ⟨⟨by decide, by decide⟩, ?_⟩)⟩
  rw [f1 56 (by decide)]
  refine c_Sp_listDivisors (by decide +kernel) (by decide +kernel) (by decide +kernel) (Or.inr rfl) (by have := n0 0; rwa [e0] at this) (bd_le cst (by decide)) (fun mf m2 f2 q0 q1 hF cF => c_RC_valueAt i56 ?_)
  have e2 : m2 56 = m 56 := by rw [f2 56 (by decide), f1 56 (by decide)]
  rw [e2, hrn7 (Or.inl rfl) hb (by omega)]
  refine c_Sp_listDivisors (by decide +kernel) (by decide +kernel) (by decide +kernel) (Or.inr rfl) (n0 1) bv.1 (fun mo m3 f3 o0 o1 hO cO => c_RC_valueAt i56 (c_RC_valueAt i56 ?_))
  have e3 : m3 56 = m 56 := by rw [f3 56 (by decide), e2]
  rw [e3, hrn7 (Or.inr (Or.inl rfl)) hb (by omega), hrn7 (Or.inr (Or.inr rfl)) hb (by omega)]
  refine T_Sp_takeQuadratic_74 _ _ _ _ _ _ _ ?_
  have fr : ∀ i : Nat, (i < 60 ∨ 62 < i) → m3 i = m i := fun i hi => by rw [f3 i (by omega), f2 i (by omega), f1 i (by omega)]
  have x60 : m3 60 = m1 60 := by rw [f3 60 (by decide), f2 60 (by decide)]
  have x61 : m3 61 = m2 61 := by rw [f3 61 (by decide)]
  have I3 : spI co mk m0 m3 P A n := by
    obtain ⟨I1, I2, I3, I4, I5, I6, I7, I8, I9, I10⟩ := hI
    have eP := ptl_eq (m := m) (m' := m3) (P := P) (fun i hi => fr i (by omega)) (by omega)
    refine ⟨fun i a b c => by rw [fr i (by omega)]; exact I1 i a b c, by rw [fr P (by omega)]; exact I2, by rw [fr 55 (by decide)]; exact I3, by rw [fr 55 (by decide)]; exact I4, by rw [e3]; exact I5, by rw [fr P (by omega)]; exact I6, by rw [eP, e3]; exact I7, by rw [eP, e3]; exact I8, by rw [eP]; exact I9, by rw [eP]; exact I10⟩
  refine l_Sp_q77 H hP (m6 := m3) hc nl l1 q1 o1 (fun i i0 i1 => by rw [x60]; have := hL i i0 i1; exact ⟨this.2.1 rfl, this.2.2.2⟩) (fun i i0 i1 => by rw [x61]; have := hF i i0 i1; exact ⟨this.2.2.1, this.2.2.2⟩) (fun i i0 i1 => (hO i i0 i1).2.2.2) (fun m' n' I' z' d' => h 1 m' n' I' z' (Or.inr ⟨rfl, d'⟩)) (fun m' hJ ht => ?_) ml.toNat 0 m3 (by omega) (by decide) ⟨I3, by rw [e3], fun _ _ _ => rfl⟩ (fun j k i j0 j1 => by omega)
  obtain ⟨I', eB, _⟩ := hJ
  refine h 0 m' n I' (by rw [eB]; exact zd_rf _) (Or.inl ⟨rfl, rfl, ?_⟩)
  rw [eB]
  refine nof_pos H (fun g t gp z => ?_)
  have er := row_ex H (h := g) (fun k hk => t.2 k (by omega))
  rw [← er] at z
  have zr := zd_row H (g := fun y => co g y.toNat) (d := 2) hc ⟨by decide, by decide⟩ t.1 (fun k k0 k1 => t.2 _ (by omega)) z
  obtain ⟨j, j0, j1, ej⟩ := cL _ zr.2.1 (fun _ => gp)
  have z0 := zr.2.2 0
  rw [e0] at z0
  obtain ⟨k, k0, k1, ek⟩ := cF _ z0 (fun w => absurd w (by decide))
  obtain ⟨i, i0, i1, ei⟩ := cO _ (zr.2.2 1) (fun w => absurd w (by decide))
  refine ht j k i j0 j1 k0 k1 i0 i1 ?_
  rw [x60, x61, ej, ek, ei]
  have g3 : co g 3 = 0 := t.2 3 (by decide)
  have g4 : co g 4 = 0 := t.2 4 (by decide)
  have g5 : co g 5 = 0 := t.2 5 (by decide)
  have g6 : co g 6 = 0 := t.2 6 (by decide)
  have q0 : ev7 (fun y => co g y.toNat) 0 = co g 0 := by
    show co g 0 + 0 * _ = _
    omega
  have q1 : ev7 (fun y => co g y.toNat) 1 = co g 0 + co g 1 + co g 2 := by
    show co g 0 + 1 * (co g 1 + 1 * (co g 2 + 1 * (co g 3 + 1 * (co g 4 + 1 * (co g 5 + 1 * co g 6))))) = _
    omega
  rw [q0, q1]
  have : pR mk 7 (prt (co g 0) (co g 0 + co g 1 + co g 2 - co g 2 - co g 0) (co g 2) 0) = pR mk 7 (fun y => co g y.toNat) := pR_congr H (fun y y0 y1 => by
    show _ = co g y.toNat
    have : y = 0 ∨ y = 1 ∨ y = 2 ∨ 2 < y := by omega
    unfold prt
    rcases this with w | w | w | w
    · subst w; rfl
    · subst w
      show co g 0 + co g 1 + co g 2 - co g 2 - co g 0 = co g 1
      omega
    · subst w; rfl
    · rw [if_neg (by omega), if_neg (by omega), if_neg (by omega), t.2 y.toNat (by omega)]
      split <;> rfl)
  show zd (pR mk 7 (prt (co g 0) (co g 0 + co g 1 + co g 2 - co g 2 - co g 0) (co g 2) 0)) _
  rw [this]
  exact z
end
