/-! Splitter: a cubic factor of one of degree 6 -/
theorem ev7_cg {f g : Int → Int} (h : ∀ k : Int, 0 ≤ k → k < 7 → f k = g k) (c : Int) : ev7 f c = ev7 g c := by
  unfold ev7
  rw [h 0 (by decide) (by decide), h 1 (by decide) (by decide), h 2 (by decide) (by decide), h 3 (by decide) (by decide), h 4 (by decide) (by decide), h 5 (by decide) (by decide), h 6 (by decide) (by decide)]
section
variable {R : Type}
def tc [Lean.Grind.CommRing R] (mk : Nat → (Nat → Int) → R) (f0 : Int → Int) (a O M c : Int) : Prop := ∀ e e2 : Int, O + M = 2 * e → O - M = 2 * e2 → ¬ zd (pR mk 7 (prt c (e2 - a) (e - c) a)) (pR mk 7 f0)
theorem l_Sp_cw52 [Lean.Grind.CommRing R] {co : R → Nat → Int} {mk : Nat → (Nat → Int) → R} (H : PolyR co mk) {P : Nat} (hP : isP P) {m0 m6 : rz_M} {A : R} {n : Int} {f0 : Int → Int} (hc0 : core co mk f0 n) (nl : nolin mk (pR mk 7 f0)) {mf a e e2 : Int} (hm : mf ≤ 424) (ha : 0 < a ∧ a ≤ 20000) (he : bd e 20000) (he2 : bd e2 20000) (hF : ∀ i : Int, 0 ≤ i → i < mf → m6 61 i ≠ 0 ∧ bd (m6 61 i) 20000) {K : Int → rz_M → Prop}
    (h1 : ∀ (m' : rz_M) (n' : Int), spI co mk m0 m' P A n' → zd (pR mk 7 (m' 56)) (pR mk 7 f0) → n' ≤ n - 3 → K 1 m')
    (hn : ∀ m' : rz_M, qJ co mk m0 P A n f0 m6 m' → (∀ i : Int, 0 ≤ i → i < mf → ¬ zd (pR mk 7 (prt (m6 61 i) (e2 - a) (e - m6 61 i) a)) (pR mk 7 f0)) → K 0 m') : ∀ (r : Nat) (f : Int) (m : rz_M), (mf - f).toNat = r → 0 ≤ f → qJ co mk m0 P A n f0 m6 m → (∀ i : Int, 0 ≤ i → i < f → ¬ zd (pR mk 7 (prt (m6 61 i) (e2 - a) (e - m6 61 i) a)) (pR mk 7 f0)) → rz_E y_Sp_takeCubicWith 52 [rR 55, rL a, rX 1, rX 0, rX 0, rX 0, rX 0, rI mf, rL e, rX 1, rL (e2 - a), rX 1, rL (ev7 f0 2), rX 1, rI f, rX 0, rX 0, rX 0, rX 0] [] m K := by
  intro r
  induction r with
  | zero =>
    intro f m hr f0' hJ ht
    exact T_Sp_takeCubicWith_52 _ _ _ _ _ _ _ _ (bt (by omega) (hn m hJ (fun i i0 i1 => ht i i0 (by omega))))
  | succ r ih =>
    intro f m hr f0' hJ ht
    obtain ⟨hI, eB, j6⟩ := hJ
    have J0 : qJ co mk m0 P A n f0 m6 m := ⟨hI, eB, j6⟩
    have x61 : m 61 f = m6 61 f := by rw [j6 61 (by decide) (by decide)]
    have hFf := hF f f0' (by omega)
    have hF2 := hFf.2
    have nxt : ∀ m' : rz_M, qJ co mk m0 P A n f0 m6 m' → ¬ zd (pR mk 7 (prt (m6 61 f) (e2 - a) (e - m6 61 f) a)) (pR mk 7 f0) → rz_E y_Sp_takeCubicWith 52 [rR 55, rL a, rX 1, rX 0, rX 0, rX 0, rX 0, rI mf, rL e, rX 1, rL (e2 - a), rX 1, rL (ev7 f0 2), rX 1, rI (w32 (f + 1)), rX 0, rX 0, rX 0, rX 0] [] m' K := fun m' hJ' t => by
      rw [w32_id (by omega) (by omega)]
      refine ih (f + 1) m' (by omega) (by omega) hJ' (fun i i0 i1 => ?_)
      by_cases w : i = f
      · rw [w]; exact t
      · exact ht i i0 (by omega)
    have v2 : ev7 (prt (m6 61 f) (e2 - a) (e - m6 61 f) a) 2 = 8 * a + 4 * (e - m6 61 f) + 2 * (e2 - a) + m6 61 f := by
      show m6 61 f + 2 * ((e2 - a) + 2 * ((e - m6 61 f) + 2 * (a + 2 * (0 + 2 * (0 + 2 * 0))))) = _
      omega
    unfold bd at he he2 hF2
    have w0 : w64 (e - m6 61 f) = e - m6 61 f := w64_id (by omega) (by omega)
    have w2 : w64 (w64 (w64 (w64 (8 * a) + w64 (4 * (e - m6 61 f))) + w64 (2 * (e2 - a))) + m6 61 f) = 8 * a + 4 * (e - m6 61 f) + 2 * (e2 - a) + m6 61 f := by
      rw [w64_id (z := 8 * a) (by omega) (by omega), w64_id (z := 4 * (e - m6 61 f)) (by omega) (by omega), w64_id (z := 2 * (e2 - a)) (by omega) (by omega), w64_id (z := 8 * a + 4 * (e - m6 61 f)) (by omega) (by omega), w64_id (z := 8 * a + 4 * (e - m6 61 f) + 2 * (e2 - a)) (by omega) (by omega), w64_id (by omega) (by omega)]
    refine T_Sp_takeCubicWith_52 _ _ _ _ _ _ _ _ (bf (by omega) ⟨⟨f0', by omega⟩, ?_⟩)
    rw [x61, w0, w2]
    refine c_RC_divides (fun _ _ => b1t ?_) (fun w => b0t (nxt m J0 (fun z => w ?_)))
    · refine c_Sp_setPart (fun m1 f1 p1 => T_Sp_takeCubicWith_116 _ _ _ _ _ _ _ _ (c_Sp_tryG H hP (Or.inr rfl) (spI_part hP hI f1) (by rw [f1 56 (by decide), eB]; exact nl) p1 hFf.1 (fun z => absurd z (by decide)) (fun _ => ha.1) ⟨by omega, by omega⟩ ⟨by omega, by omega⟩ ⟨by omega, by omega⟩ ⟨by omega, by omega⟩ (fun r2 m2 n2 I2 fr2 z2 d2 => ?_)))
      rw [f1 56 (by decide), eB] at z2 d2
      rcases d2 with ⟨q1, q2, q3, q4⟩ | ⟨q1, q2⟩
      · subst q1; subst q2
        exact b0t (nxt m2 ⟨I2, q3, fun i i0 i1 => by rw [fr2 i i0 i1, f1 i (by omega)]; exact j6 i i0 i1⟩ q4)
      · subst q1
        exact b1t (h1 m2 n2 I2 z2 q2)
    · have := (zd_row H (g := prt (m6 61 f) (e2 - a) (e - m6 61 f) a) (d := 3) hc0 ⟨by decide, by decide⟩ (by show a ≠ 0; omega) (fun k k0 _ => prt_z k0) z).2.2 2
      rw [v2] at this
      exact ⟨fun w => nl_ev H nl 2 (by obtain ⟨t, ht⟩ := this; rw [ht, w, Int.zero_mul]), this⟩
theorem c_Sp_cubWith [Lean.Grind.CommRing R] {co : R → Nat → Int} {mk : Nat → (Nat → Int) → R} (H : PolyR co mk) {P : Nat} (hP : isP P) {m0 m6 : rz_M} {A : R} {n : Int} {f0 : Int → Int} (hc0 : core co mk f0 n) (nl : nolin mk (pR mk 7 f0)) {mf a O M : Int} (hm : mf ≤ 424) (ha : 0 < a ∧ a ≤ 20000) (hO : bd O 20000) (hM : bd M 20000) (hF : ∀ i : Int, 0 ≤ i → i < mf → m6 61 i ≠ 0 ∧ bd (m6 61 i) 20000) {m : rz_M} (hJ : qJ co mk m0 P A n f0 m6 m) {K : Int → rz_M → Prop}
    (h1 : ∀ (m' : rz_M) (n' : Int), spI co mk m0 m' P A n' → zd (pR mk 7 (m' 56)) (pR mk 7 f0) → n' ≤ n - 3 → K 1 m')
    (hn : ∀ m' : rz_M, qJ co mk m0 P A n f0 m6 m' → (∀ i : Int, 0 ≤ i → i < mf → tc mk f0 a O M (m6 61 i)) → K 0 m') : rz_C y_Sp_takeCubicWith [rR 55, rL a, rL O, rL M, rI mf] m K := by
  have hI := hJ.1
  have hc := hI.2.2.2.2.1
  have i56 : isL 56 7 := ⟨by decide +kernel, by decide +kernel⟩
  unfold bd at hO hM
  have tb := tbn_le n
  refine T_Sp_takeCubicWith_0 _ _ _ _ _ _ ⟨by decide, ?_⟩
  rw [w64_id (z := O + M) (by omega) (by omega), w64_id (z := O - M) (by omega) (by omega)]
  refine bb (fun q => ⟨by decide, by decide, c_RC_valueAt i56 ?_⟩) (fun q => hn m hJ (fun i i0 i1 e e2 h _ _ => q ?_))
  · obtain ⟨e, he⟩ := Int.dvd_of_tmod_eq_zero q
    obtain ⟨e2, he2⟩ : ∃ e2, O - M = 2 * e2 := ⟨e - M, by omega⟩
    rw [Int.tdiv_eq_of_eq_mul_right (by decide) he, Int.tdiv_eq_of_eq_mul_right (by decide) he2, w64_id (z := e) (by omega) (by omega), w64_id (z := e2) (by omega) (by omega), w64_id (z := e2 - a) (by omega) (by omega), hrn7 (Or.inr (Or.inr rfl)) hc.2.2.2.1 (by omega), ev7_cg (core_cg H hJ.2.1)]
    refine l_Sp_cw52 H hP hc0 nl hm ha ⟨by omega, by omega⟩ ⟨by omega, by omega⟩ hF h1 (fun m' hJ' ht => hn m' hJ' (fun i i0 i1 u u2 hu hu2 => ?_)) mf.toNat 0 m (by omega) (by decide) hJ (fun i i0 i1 => by omega)
    have eu : u = e := by omega
    have eu2 : u2 = e2 := by omega
    rw [eu, eu2]
    exact ht i i0 i1
  · exact Int.tmod_eq_zero_of_dvd ⟨e, h⟩
theorem l_Sp_c119 [Lean.Grind.CommRing R] {co : R → Nat → Int} {mk : Nat → (Nat → Int) → R} (H : PolyR co mk) {P : Nat} (hP : isP P) {m0 m6 : rz_M} {A : R} {n : Int} {f0 : Int → Int} (hc0 : core co mk f0 n) (nl : nolin mk (pR mk 7 f0)) {ml mf mo mm l o : Int} (hm : mf ≤ 424) (hmm : mm ≤ 424) (hl : 0 ≤ l ∧ l < 512) (ho : 0 ≤ o ∧ o < 512) (ha : 0 < m6 60 l ∧ bd (m6 60 l) 20000) (hO : bd (m6 62 o) 20000) (hM : ∀ i : Int, 0 ≤ i → i < mm → bd (m6 63 i) 20000) (hF : ∀ i : Int, 0 ≤ i → i < mf → m6 61 i ≠ 0 ∧ bd (m6 61 i) 20000) {K : Int → rz_M → Prop}
    (h1 : ∀ (m' : rz_M) (n' : Int), spI co mk m0 m' P A n' → zd (pR mk 7 (m' 56)) (pR mk 7 f0) → n' ≤ n - 3 → K 0 m')
    (hn : ∀ m' : rz_M, qJ co mk m0 P A n f0 m6 m' → (∀ k i : Int, 0 ≤ k → k < mm → 0 ≤ i → i < mf → tc mk f0 (m6 60 l) (m6 62 o) (m6 63 k) (m6 61 i)) → rz_E y_Sp_takeCubic 110 [rR 55, rI ml, rI mf, rI mo, rI mm, rI l, rI (o + 1), rX 0] [] m' K) : ∀ (r : Nat) (t : Int) (m : rz_M), (mm - t).toNat = r → 0 ≤ t → qJ co mk m0 P A n f0 m6 m → (∀ k i : Int, 0 ≤ k → k < t → 0 ≤ i → i < mf → tc mk f0 (m6 60 l) (m6 62 o) (m6 63 k) (m6 61 i)) → rz_E y_Sp_takeCubic 119 [rR 55, rI ml, rI mf, rI mo, rI mm, rI l, rI o, rI t] [] m K := by
  intro r
  induction r with
  | zero =>
    intro t m hr t0 hJ ht
    refine T_Sp_takeCubic_119 _ _ _ _ _ _ _ _ _ (bt (by omega) ?_)
    rw [w32_id (by omega) (by omega)]
    exact hn m hJ (fun k i k0 k1 => ht k i k0 (by omega))
  | succ r ih =>
    intro t m hr t0 hJ ht
    have j6 := hJ.2.2
    refine T_Sp_takeCubic_119 _ _ _ _ _ _ _ _ _ (bf (by omega) ⟨hl, ho, ⟨t0, by omega⟩, ?_⟩)
    rw [j6 60 (by decide) (by decide), j6 62 (by decide) (by decide), j6 63 (by decide) (by decide)]
    refine c_Sp_cubWith H hP hc0 nl hm ⟨ha.1, ha.2.2⟩ hO (hM t t0 (by omega)) hF hJ (fun m' n' I' z' d' => b1t (h1 m' n' I' z' d')) (fun m' hJ' ht' => b0t ?_)
    rw [w32_id (by omega) (by omega)]
    refine ih (t + 1) m' (by omega) (by omega) hJ' (fun k i k0 k1 => ?_)
    by_cases w : k = t
    · rw [w]; exact ht' i
    · exact ht k i k0 (by omega)
theorem l_Sp_c110 [Lean.Grind.CommRing R] {co : R → Nat → Int} {mk : Nat → (Nat → Int) → R} (H : PolyR co mk) {P : Nat} (hP : isP P) {m0 m6 : rz_M} {A : R} {n : Int} {f0 : Int → Int} (hc0 : core co mk f0 n) (nl : nolin mk (pR mk 7 f0)) {ml mf mo mm l : Int} (hm : mf ≤ 424) (hmo : mo ≤ 424) (hmm : mm ≤ 424) (hl : 0 ≤ l ∧ l < 512) (ha : 0 < m6 60 l ∧ bd (m6 60 l) 20000) (hO : ∀ i : Int, 0 ≤ i → i < mo → bd (m6 62 i) 20000) (hM : ∀ i : Int, 0 ≤ i → i < mm → bd (m6 63 i) 20000) (hF : ∀ i : Int, 0 ≤ i → i < mf → m6 61 i ≠ 0 ∧ bd (m6 61 i) 20000) {K : Int → rz_M → Prop}
    (h1 : ∀ (m' : rz_M) (n' : Int), spI co mk m0 m' P A n' → zd (pR mk 7 (m' 56)) (pR mk 7 f0) → n' ≤ n - 3 → K 0 m')
    (hn : ∀ m' : rz_M, qJ co mk m0 P A n f0 m6 m' → (∀ o k i : Int, 0 ≤ o → o < mo → 0 ≤ k → k < mm → 0 ≤ i → i < mf → tc mk f0 (m6 60 l) (m6 62 o) (m6 63 k) (m6 61 i)) → rz_E y_Sp_takeCubic 73 [rR 55, rI ml, rI mf, rI mo, rI mm, rI (l + 1), rX 0, rX 0] [] m' K) : ∀ (r : Nat) (o : Int) (m : rz_M), (mo - o).toNat = r → 0 ≤ o → qJ co mk m0 P A n f0 m6 m → (∀ o' k i : Int, 0 ≤ o' → o' < o → 0 ≤ k → k < mm → 0 ≤ i → i < mf → tc mk f0 (m6 60 l) (m6 62 o') (m6 63 k) (m6 61 i)) → rz_E y_Sp_takeCubic 110 [rR 55, rI ml, rI mf, rI mo, rI mm, rI l, rI o, rX 0] [] m K := by
  intro r
  induction r with
  | zero =>
    intro o m hr o0 hJ ht
    refine T_Sp_takeCubic_110 _ _ _ _ _ _ _ _ (bt (by omega) ?_)
    rw [w32_id (by omega) (by omega)]
    exact hn m hJ (fun o' k i a b => ht o' k i a (by omega))
  | succ r ih =>
    intro o m hr o0 hJ ht
    refine T_Sp_takeCubic_110 _ _ _ _ _ _ _ _ (bf (by omega) (l_Sp_c119 H hP hc0 nl hm hmm hl ⟨o0, by omega⟩ ha (hO o o0 (by omega)) hM hF h1 (fun m' hJ' ht' => ih (o + 1) m' (by omega) (by omega) hJ' (fun o' k i a b => ?_)) mm.toNat 0 m (by omega) (by decide) hJ (fun k i a b => by omega)))
    by_cases w : o' = o
    · rw [w]; exact ht' k i
    · exact ht o' k i a (by omega)
theorem l_Sp_c73 [Lean.Grind.CommRing R] {co : R → Nat → Int} {mk : Nat → (Nat → Int) → R} (H : PolyR co mk) {P : Nat} (hP : isP P) {m0 m6 : rz_M} {A : R} {n : Int} {f0 : Int → Int} (hc0 : core co mk f0 n) (nl : nolin mk (pR mk 7 f0)) {ml mf mo mm : Int} (hml : ml ≤ 424) (hm : mf ≤ 424) (hmo : mo ≤ 424) (hmm : mm ≤ 424) (ha : ∀ i : Int, 0 ≤ i → i < ml → 0 < m6 60 i ∧ bd (m6 60 i) 20000) (hO : ∀ i : Int, 0 ≤ i → i < mo → bd (m6 62 i) 20000) (hM : ∀ i : Int, 0 ≤ i → i < mm → bd (m6 63 i) 20000) (hF : ∀ i : Int, 0 ≤ i → i < mf → m6 61 i ≠ 0 ∧ bd (m6 61 i) 20000) {K : Int → rz_M → Prop}
    (h1 : ∀ (m' : rz_M) (n' : Int), spI co mk m0 m' P A n' → zd (pR mk 7 (m' 56)) (pR mk 7 f0) → n' ≤ n - 3 → K 0 m')
    (hn : ∀ m' : rz_M, qJ co mk m0 P A n f0 m6 m' → (∀ l o k i : Int, 0 ≤ l → l < ml → m6 60 l * m6 60 l ≤ f0 n → 0 ≤ o → o < mo → 0 ≤ k → k < mm → 0 ≤ i → i < mf → tc mk f0 (m6 60 l) (m6 62 o) (m6 63 k) (m6 61 i)) → K 0 m') : ∀ (r : Nat) (l : Int) (m : rz_M), (ml - l).toNat = r → 0 ≤ l → qJ co mk m0 P A n f0 m6 m → (∀ l' o k i : Int, 0 ≤ l' → l' < l → m6 60 l' * m6 60 l' ≤ f0 n → 0 ≤ o → o < mo → 0 ≤ k → k < mm → 0 ≤ i → i < mf → tc mk f0 (m6 60 l') (m6 62 o) (m6 63 k) (m6 61 i)) → rz_E y_Sp_takeCubic 73 [rR 55, rI ml, rI mf, rI mo, rI mm, rI l, rX 0, rX 0] [] m K := by
  intro r
  induction r with
  | zero =>
    intro l m hr l0 hJ ht
    exact T_Sp_takeCubic_73 _ _ _ _ _ _ _ (bt (by omega) (hn m hJ (fun l' o k i a b => ht l' o k i a (by omega))))
  | succ r ih =>
    intro l m hr l0 hJ ht
    have j6 := hJ.2.2
    have n06 := hc0.1
    have em : m 55 10 = n := hJ.1.2.2.2.1
    have e6 : m 56 n = f0 n := core_cg H hJ.2.1 n n06.1 (by omega)
    have hal := ha l l0 (by omega)
    have ha2 := hal.2
    unfold bd at ha2
    have sq := Int.mul_le_mul ha2.2 ha2.2 (by omega) (by decide)
    have sq0 := Int.mul_nonneg (a := m6 60 l) (b := m6 60 l) (by omega) (by omega)
    refine T_Sp_takeCubic_73 _ _ _ _ _ _ _ (bf (by omega) ⟨⟨l0, by omega⟩, ⟨l0, by omega⟩, ⟨by rw [em]; exact n06.1, by rw [em]; omega⟩, ?_⟩)
    rw [em, e6, j6 60 (by decide) (by decide), w64_id (by omega) (by omega), w32_id (by omega) (by omega)]
    refine bb (fun q => ih (l + 1) m (by omega) (by omega) hJ (fun l' o k i a b c => ?_)) (fun q => l_Sp_c110 H hP hc0 nl hm hmo hmm ⟨l0, by omega⟩ hal hO hM hF h1 (fun m' hJ' ht' => ih (l + 1) m' (by omega) (by omega) hJ' (fun l' o k i a b c => ?_)) mo.toNat 0 m (by omega) (by decide) hJ (fun o' k i a b => by omega))
    · by_cases w : l' = l
      · rw [w] at c; omega
      · exact ht l' o k i a (by omega) c
    · by_cases w : l' = l
      · rw [w]; exact ht' o k i
      · exact ht l' o k i a (by omega) c
theorem spI_fr [Lean.Grind.CommRing R] {co : R → Nat → Int} {mk : Nat → (Nat → Int) → R} {m0 m m' : rz_M} {P : Nat} (hP : isP P) {A : R} {n : Int} (hI : spI co mk m0 m P A n) (fr : ∀ i : Nat, (i < 47 ∨ i = 55 ∨ i = 56 ∨ 63 < i) → m' i = m i) : spI co mk m0 m' P A n := by
  have P59 : P + 10 < 47 := by rcases hP with z | z | z <;> omega
  obtain ⟨I1, I2, I3, I4, I5, I6, I7, I8, I9, I10⟩ := hI
  have n06 := I5.1
  have eP := ptl_eq (m := m) (m' := m') (P := P) (fun i hi => fr i (by omega)) (by omega)
  have e3 := fr 56 (by decide)
  refine ⟨fun i a b c => by rw [fr i (by omega)]; exact I1 i a b c, by rw [fr P (by omega)]; exact I2, by rw [fr 55 (by decide)]; exact I3, by rw [fr 55 (by decide)]; exact I4, by rw [e3]; exact I5, by rw [fr P (by omega)]; exact I6, by rw [eP, e3]; exact I7, by rw [eP, e3]; exact I8, by rw [eP]; exact I9, by rw [eP]; exact I10⟩
theorem c_Sp_takeCubic [Lean.Grind.CommRing R] {co : R → Nat → Int} {mk : Nat → (Nat → Int) → R} (H : PolyR co mk) {P : Nat} (hP : isP P) {m0 m : rz_M} {A : R} {n : Int} (hI : spI co mk m0 m P A n) (hn : n = 6) (nl : nolin mk (pR mk 7 (m 56))) {K : Int → rz_M → Prop}
    (h : ∀ (m' : rz_M) (n' : Int), spI co mk m0 m' P A n' → zd (pR mk 7 (m' 56)) (pR mk 7 (m 56)) → (n' = n ∧ nof co 3 (pR mk 7 (m' 56)) ∨ n' ≤ n - 3) → K 0 m') : rz_C y_Sp_takeCubic [rR 55] m K := by
  have hc := hI.2.2.2.2.1
  have n06 := hc.1
  have em : m 55 10 = n := hI.2.2.2.1
  have i56 : isL 56 7 := ⟨by decide +kernel, by decide +kernel⟩
  have hb := hc.2.2.2.1
  have tb := tbn_le n
  have lead := hc.2.1
  have lead2 := hc.2.2.2.2.1
  have cst : bd (m 56 0) 100 := hc.2.2.2.2.2.1
  have bv := core_ev hc (by omega)
  have n0 := nl_ev H nl
  have e0 : ev7 (m 56) 0 = m 56 0 := by unfold ev7; omega
  refine T_Sp_takeCubic_0 _ _ ?_
  rw [em]
  refine ⟨⟨n06.1, by omega⟩, c_Sp_listDivisors (by decide +kernel) (by decide +kernel) (by decide +kernel) (Or.inl rfl) (by omega) ⟨by omega, by omega⟩ (fun ml m1 f1 l0 l1 hL cL => ⟨⟨by decide, by decide⟩, ?_⟩)⟩
  rw [f1 56 (by decide)]
  refine c_Sp_listDivisors (by decide +kernel) (by decide +kernel) (by decide +kernel) (Or.inr rfl) (by have := n0 0; rwa [e0] at this) (bd_le cst (by decide)) (fun mf m2 f2 q0 q1 hF cF => c_RC_valueAt i56 ?_)
  have e2 : m2 56 = m 56 := by rw [f2 56 (by decide), f1 56 (by decide)]
  rw [e2, hrn7 (Or.inl rfl) hb (by omega)]
  refine c_Sp_listDivisors (by decide +kernel) (by decide +kernel) (by decide +kernel) (Or.inr rfl) (n0 1) bv.1 (fun mo m3 f3 o0 o1 hO cO => c_RC_valueAt i56 ?_)
  have e3 : m3 56 = m 56 := by rw [f3 56 (by decide), e2]
  rw [e3, hrn7 (Or.inr (Or.inl rfl)) hb (by omega)]
  refine c_Sp_listDivisors (by decide +kernel) (by decide +kernel) (by decide +kernel) (Or.inr rfl) (n0 (-1)) bv.2 (fun mm m4 f4 u0 u1 hM cM => T_Sp_takeCubic_70 _ _ _ _ _ _ ?_)
  have e4 : m4 56 = m 56 := by rw [f4 56 (by decide), e3]
  have fr : ∀ i : Nat, (i < 60 ∨ 63 < i) → m4 i = m i := fun i hi => by rw [f4 i (by omega), f3 i (by omega), f2 i (by omega), f1 i (by omega)]
  have x60 : m4 60 = m1 60 := by rw [f4 60 (by decide), f3 60 (by decide), f2 60 (by decide)]
  have x61 : m4 61 = m2 61 := by rw [f4 61 (by decide), f3 61 (by decide)]
  have x62 : m4 62 = m3 62 := by rw [f4 62 (by decide)]
  have I4 : spI co mk m0 m4 P A n := spI_fr hP hI (fun i hi => fr i (by omega))
  refine l_Sp_c73 H hP (m6 := m4) hc nl l1 q1 o1 u1 (fun i i0 i1 => by rw [x60]; have := hL i i0 i1; exact ⟨this.2.1 rfl, this.2.2.2⟩) (fun i i0 i1 => by rw [x62]; exact (hO i i0 i1).2.2.2) (fun i i0 i1 => (hM i i0 i1).2.2.2) (fun i i0 i1 => by rw [x61]; have := hF i i0 i1; exact ⟨this.2.2.1, this.2.2.2⟩) (fun m' n' I' z' d' => h m' n' I' z' (Or.inr d')) (fun m' hJ ht => ?_) ml.toNat 0 m4 (by omega) (by decide) ⟨I4, by rw [e4], fun _ _ _ => rfl⟩ (fun l' o k i a b => by omega)
  obtain ⟨I', eB, _⟩ := hJ
  refine h m' n I' (by rw [eB]; exact zd_rf _) (Or.inl ⟨rfl, ?_⟩)
  rw [eB]
  -- one whose last number is small enough is tried
  have tried : ∀ g : R, tz co g 3 → 0 < co g 3 → co g 3 * co g 3 ≤ m 56 n → ¬ zd g (pR mk 7 (m 56)) := fun g t gp gs z => by
    have er := row_ex H (h := g) (fun k hk => t.2 k (by omega))
    rw [← er] at z
    have zr := zd_row H (g := fun y => co g y.toNat) (d := 3) hc ⟨by decide, by decide⟩ t.1 (fun k k0 k1 => t.2 _ (by omega)) z
    obtain ⟨j, j0, j1, ej⟩ := cL _ zr.2.1 (fun _ => gp)
    have z0 := zr.2.2 0
    rw [e0] at z0
    obtain ⟨k, k0, k1, ek⟩ := cF _ z0 (fun w => absurd w (by decide))
    obtain ⟨i, i0, i1, ei⟩ := cO _ (zr.2.2 1) (fun w => absurd w (by decide))
    obtain ⟨s, s0, s1, es⟩ := cM _ (zr.2.2 (-1)) (fun w => absurd w (by decide))
    have g4 : co g 4 = 0 := t.2 4 (by decide)
    have g5 : co g 5 = 0 := t.2 5 (by decide)
    have g6 : co g 6 = 0 := t.2 6 (by decide)
    have q0 : ev7 (fun y => co g y.toNat) 0 = co g 0 := by
      show co g 0 + 0 * _ = _
      omega
    have q1 : ev7 (fun y => co g y.toNat) 1 = co g 0 + co g 1 + co g 2 + co g 3 := by
      show co g 0 + 1 * (co g 1 + 1 * (co g 2 + 1 * (co g 3 + 1 * (co g 4 + 1 * (co g 5 + 1 * co g 6))))) = _
      omega
    have q2 : ev7 (fun y => co g y.toNat) (-1) = co g 0 - co g 1 + co g 2 - co g 3 := by
      show co g 0 + (-1) * (co g 1 + (-1) * (co g 2 + (-1) * (co g 3 + (-1) * (co g 4 + (-1) * (co g 5 + (-1) * co g 6))))) = _
      omega
    have ej' : m4 60 j = co g 3 := by rw [x60]; exact ej
    have hh := ht j i s k j0 j1 (by rw [ej']; exact gs) i0 i1 s0 s1 k0 k1
    rw [ej', x61, x62, ek, ei, es, q0, q1, q2] at hh
    refine hh (co g 0 + co g 2) (co g 1 + co g 3) (by omega) (by omega) ?_
    have : pR mk 7 (prt (co g 0) (co g 1 + co g 3 - co g 3) (co g 0 + co g 2 - co g 0) (co g 3)) = pR mk 7 (fun y => co g y.toNat) := pR_congr H (fun y y0 y1 => by
      show _ = co g y.toNat
      have : y = 0 ∨ y = 1 ∨ y = 2 ∨ y = 3 ∨ 3 < y := by omega
      rcases this with w | w | w | w | w
      · subst w; rfl
      · subst w
        show co g 1 + co g 3 - co g 3 = co g 1
        omega
      · subst w
        show co g 0 + co g 2 - co g 0 = co g 2
        omega
      · subst w; rfl
      · rw [prt_z w, t.2 y.toNat (by omega)])
    rw [this]
    exact z
  have posi : ∀ g : R, tz co g 3 → 0 < co g 3 → ¬ zd g (pR mk 7 (m 56)) := fun g t gp z => by
    obtain ⟨q, e⟩ := z
    obtain ⟨i, j, hi, hj, hij⟩ := zd_deg H (core_tz H hc) e
    have ei := tz_uniq t hi
    subst ei
    have ej : j = 3 := by omega
    subst ej
    have top := (co_top H (a := g) (b := q) (n := 3) (l := 3) hi.2 hj.2).1
    rw [← e, co_pR H, if_pos (by decide), show (((3 + 3 : Nat)) : Int) = n from by omega] at top
    have hp : 0 < co q 3 := by
      refine Classical.byContradiction fun w => ?_
      have := Int.mul_nonpos_of_nonneg_of_nonpos (show 0 ≤ co g 3 by omega) (show co q 3 ≤ 0 by omega)
      omega
    by_cases w : co g 3 ≤ co q 3
    · refine tried g t gp ?_ ⟨q, e⟩
      rw [top]
      exact Int.mul_le_mul_of_nonneg_left w (by omega)
    · refine tried q hj hp ?_ ⟨g, by rw [e]; grind⟩
      rw [top]
      exact Int.mul_le_mul_of_nonneg_right (by omega) (by omega)
  exact nof_pos H posi
end
