/-! RootAdder -/
theorem ra_cells : ∀ k : Nat, k < 7 → (rz_R 172 (k : Int) = 179 + 6 * k ∧ rz_R 173 (k : Int) = 181 + 6 * k ∧ rz_R 174 (k : Int) = 183 + 6 * k) := by decide +kernel
theorem ra_big : ∀ i : Nat, i < 23 → (rz_isC (175 + 2 * i) 0 = true ∧ rz_R (175 + 2 * i) 0 = 175 + 2 * i + 1 ∧ rz_isK (175 + 2 * i + 1) 1 = true ∧ rz_len (175 + 2 * i + 1) = 40) := by decide +kernel
theorem ra_bg {a i : Nat} (h : a = 175 + 2 * i) (hi : i < 23) : bgO a := by
  subst h
  exact ra_big i hi
theorem sgx_stop {f : Int → Int} {n : Int} {g : Int → Int} {k : Int} {i : Nat} (h : n ≤ i) : ∀ d : Nat, sgx f n g k (i + d) = sgx f n g k i
  | 0 => rfl
  | d + 1 => by
    show (if ((i + d : Nat) : Int) + 1 ≤ n then _ else _) = _
    rw [if_neg (by omega)]
    exact sgx_stop h d
/-- exact power sums, as long as they are wanted -/
def isPX (f : Int → Int) (n : Int) (g : Int → Int) : Prop := g 0 = n ∧ ∀ k : Nat, 1 ≤ k → k ≤ 7 → g k = psx f n g k ∧ bd (g k) (pbd k)
/-- the powers are being filled: base B, k of them are there -/
def fpI (m0 m : rz_M) (B : Nat) (g : Int → Int) (k : Nat) : Prop := (∀ i : Nat, ¬ (175 ≤ i ∧ i ≤ 178) → (∀ j : Nat, j < 7 → i ≠ B + 6 * j ∧ i ≠ B + 6 * j + 1) → m i = m0 i) ∧ ∀ i : Nat, i < k → BV m (B + 6 * i) (g i)
theorem fpI_t {m0 m m' : rz_M} {B : Nat} {g : Int → Int} {k c : Nat} (hB : 179 ≤ B) (h : fpI m0 m B g k) (hc : c = 175 ∨ c = 177) (w : bgw c m m') : fpI m0 m' B g k :=
  ⟨fun i h1 h2 => by rw [w i (by omega) (by omega)]; exact h.1 i h1 h2, fun i hi => BV_kp (h.2 i hi) w (by omega) (by omega) (by omega)⟩
theorem big300 {v x : Int} {A B : Int} (h1 : bd v A) (h2 : bd x B) (hA : A * B ≤ 10 ^ 200) : (v.natAbs : Int) * (x.natAbs : Int) < pw 40 := by
  have a1 := bd_abs h1
  have a2 := bd_abs h2
  have : (v.natAbs : Int) * (x.natAbs : Int) ≤ A * B := Int.mul_le_mul a1 a2 (by omega) (bd_nn h1)
  have e : (10 : Int) ^ 200 < 10 ^ 300 := by decide +kernel
  have := pw40_big
  omega
theorem big200 {v x : Int} {A B : Int} (h1 : bd v A) (h2 : bd x B) (hA : A + B ≤ 10 ^ 200) : (v.natAbs : Int) + (x.natAbs : Int) < pw 40 := by
  have a1 := bd_abs h1
  have a2 := bd_abs h2
  have e : (10 : Int) ^ 200 < 10 ^ 300 := by decide +kernel
  have := pw40_big
  omega
theorem e200 : (1000000000000000000000000000000000000000000000000 : Int) ≤ 10 ^ 200 := by decide +kernel
theorem pbd7_v : pbd 7 ≤ 1000000000000000 := by decide +kernel
theorem l_RA_fp29 {P B : Nat} (hP : (P = 172 ∧ B = 179) ∨ (P = 173 ∧ B = 181)) {a : Nat} (ha : isL a 7) (hac : a < 171) {n : Int} (hn : 0 ≤ n ∧ n ≤ 6) {N : Int} {m0 : rz_M} {g : Int → Int} (hf : ∀ j : Int, 0 ≤ j → j ≤ n → bd (m0 a j) 100) (hg : isPX (m0 a) n g) {k : Nat} (hk : 1 ≤ k ∧ k ≤ 6) {K : Int → rz_M → Prop}
    (h : ∀ m' : rz_M, fpI m0 m' B g (k + 1) → rz_E y_RA_fillPowers 12 [rR 171, rR a, rI n, rI N, rR P, rI ((k + 1 : Nat) : Int), rX 0] [] m' K) : ∀ (r j : Nat) (m : rz_M), k - j = r → 1 ≤ j → j ≤ k → (j : Int) ≤ n + 1 → fpI m0 m B g k → BV m 175 (-(sgx (m0 a) n g k (j - 1))) → rz_E y_RA_fillPowers 29 [rR 171, rR a, rI n, rI N, rR P, rI (k : Int), rI (j : Int)] [] m K := by
  have kP : (rz_isK P 2 || rz_isK P 3) = true := by rcases hP with z | z <;> rw [z.1] <;> decide +kernel
  have lP : rz_len P = 7 := by rcases hP with z | z <;> rw [z.1] <;> decide +kernel
  have rP : ∀ i : Nat, i < 7 → rz_R P (i : Int) = B + 6 * i := fun i hi => by
    have := ra_cells i hi
    rcases hP with z | z
    · rw [z.1, z.2]; exact this.1
    · rw [z.1, z.2]; exact this.2.1
  have gP : ∀ i : Nat, i < 7 → bgO (B + 6 * i) := fun i hi => by
    rcases hP with z | z
    · exact ra_bg (i := 2 + 3 * i) (by omega) (by omega)
    · exact ra_bg (i := 3 + 3 * i) (by omega) (by omega)
  have g175 : bgO 175 := ra_bg (i := 0) rfl (by decide)
  have g177 : bgO 177 := ra_bg (i := 1) rfl (by decide)
  have B179 : 179 ≤ B := by omega
  have la := ha.2
  have p7 := pbd7_v
  have pn7 := pbd_nn 7
  -- the end: the last product
  have fin : ∀ (j : Nat) (m : rz_M), 1 ≤ j → j ≤ k → (n < j ∨ j = k) → fpI m0 m B g k → BV m 175 (-(sgx (m0 a) n g k (j - 1))) → rz_E y_RA_fillPowers 86 [rR 171, rR a, rI n, rI N, rR P, rI (k : Int), rX 0] [] m K := by
    intro j m j1 jk hj hI hT
    have es : sgx (m0 a) n g k (k - 1) = sgx (m0 a) n g k (j - 1) := by
      rcases hj with z | z
      · have := sgx_stop (f := m0 a) (n := n) (g := g) (k := (k : Int)) (i := j - 1) (by omega) (k - j)
        rwa [show j - 1 + (k - j) = k - 1 from by omega] at this
      · rw [z]
    rw [← es] at hT
    have bs1 := sgx_bd (f := m0 a) (n := n) (g := g) (k := k) hf (fun i i1 i2 => (hg.2 i i1 (by omega)).2) (k - 1) (Nat.le_refl _)
    have bs2 := sbd_b k (by omega) (k - 1) (Nat.le_refl _)
    have hgk := (hg.2 k hk.1 (by omega)).1
    have ea : m a = m0 a := hI.1 a (by omega) (fun i hi => by omega)
    have last : ∀ (x : Int) (m1 : rz_M), bgw 177 m m1 → BV m1 177 x → bd x 10000 → -(sgx (m0 a) n g k (k - 1)) + x = g k → ((rz_isK P 2 || rz_isK P 3) = true ∧ (rz_in (k : Int) (rz_len P) ∧ (rz_isC (rz_R P (k : Int)) 0 = true ∧ rz_C y_Big_add [rR (rz_R P (k : Int)), rR 175, rR 177, rI 1] m1 (fun r2 m2 => rz_E y_RA_fillPowers 12 [rR 171, rR a, rI n, rI N, rR P, rI (w32 ((k : Int) + 1)), rX 0] [] m2 K)))) := by
      intro x m1 w1 hx bx ex
      have hT1 := BV_kp hT w1 (by decide) (by decide) (by decide)
      have hI1 := fpI_t B179 hI (Or.inr rfl) w1
      rw [rP k (by omega)]
      refine ⟨kP, ⟨by omega, by omega⟩, (gP k (by omega)).1, b_add g175 g177 (gP k (by omega)) hT1 hx (Or.inl rfl) (big200 (bd_neg bs1) bx (by have := e200; omega)) (fun m2 w2 h2 => ?_)⟩
      rw [w32_id (by omega) (by omega), show (k : Int) + 1 = ((k + 1 : Nat) : Int) from by omega]
      rw [Int.one_mul, ex] at h2
      refine h m2 ⟨fun i h1 h3 => ?_, fun i hi => ?_⟩
      · have := h3 k (by omega)
        rw [w2 i this.1 this.2]
        exact hI1.1 i h1 h3
      · by_cases q : i = k
        · subst q; exact h2
        · exact BV_kp (hI1.2 i (by omega)) w2 (by omega) (by omega) (by omega)
    refine T_RA_fillPowers_86 _ _ _ _ _ _ _ (bb (fun q => b_put g177 (by decide) (fun m1 w1 h1 => last 0 m1 w1 h1 ⟨by decide, by decide⟩ ?_)) (fun q => ⟨ha.1, ?_⟩))
    · rw [hgk]
      unfold psx
      rw [if_neg (by omega)]
      omega
    · rw [w32_id (z := n - k) (by omega) (by omega), w32_id (z := -(k : Int)) (by omega) (by omega), ea]
      have c1 := bd_mul (show bd (-(k : Int)) 6 from ⟨by omega, by omega⟩) (hf (n - k) (by omega) (by omega))
      have c2 : bd (-(k : Int) * m0 a (n - k)) 600 := c1
      unfold bd at c2
      rw [w64_id (by omega) (by omega)]
      refine ⟨⟨by omega, by omega⟩, b_put g177 (by omega) (fun m1 w1 h1 => last _ m1 w1 h1 ⟨by omega, by omega⟩ ?_)⟩
      rw [hgk]
      unfold psx
      rw [if_pos (by omega), Int.neg_mul]
      omega
  intro r
  induction r with
  | zero =>
    intro j m hr j1 jk jn hI hT
    have e : j = k := by omega
    exact T_RA_fillPowers_29 _ _ _ _ _ _ _ _ (bb (fun q => fin j m j1 jk (Or.inl (by omega)) hI hT) (fun q => bt (by omega) (fin j m j1 jk (Or.inr e) hI hT)))
  | succ r ih =>
    intro j m hr j1 jk jn hI hT
    refine T_RA_fillPowers_29 _ _ _ _ _ _ _ _ (bb (fun q => fin j m j1 jk (Or.inl (by omega)) hI hT) (fun q => bf (by omega) ⟨kP, ?_⟩))
    have ea : m a = m0 a := hI.1 a (by omega) (fun i hi => by omega)
    have hfj := hf (n - j) (by omega) (by omega)
    have hgj := (hg.2 (k - j) (by omega) (by omega)).2
    have pb := pbd_7 (k - j) (by omega)
    have bs1 := sgx_bd (f := m0 a) (n := n) (g := g) (k := k) hf (fun i i1 i2 => (hg.2 i i1 (by omega)).2) (j - 1) (by omega)
    have bs2 := sbd_b k (by omega) (j - 1) (by omega)
    have nf := hfj
    unfold bd at nf
    rw [w32_id (z := (k : Int) - j) (by omega) (by omega), w32_id (z := n - j) (by omega) (by omega), show (k : Int) - j = ((k - j : Nat) : Int) from by omega, rP (k - j) (by omega), ea, w64_id (by omega) (by omega)]
    refine ⟨⟨by omega, by omega⟩, ha.1, ⟨by omega, by omega⟩, b_scale (gP (k - j) (by omega)) g177 (hI.2 (k - j) (by omega)) (by omega) (big300 hgj (bd_neg hfj) (by have := e200; have := Int.mul_le_mul_of_nonneg_right (c := 100) pb (by decide); omega)) (fun m1 w1 h1 => ?_)⟩
    have hI1 := fpI_t B179 hI (Or.inr rfl) w1
    have hT1 := BV_kp hT w1 (by decide) (by decide) (by decide)
    have c1 := bd_mul hgj (bd_neg hfj)
    have c2 := Int.mul_le_mul_of_nonneg_right (c := 100) pb (by decide)
    refine b_add g175 g177 g175 hT1 h1 (Or.inl rfl) (big200 (bd_neg bs1) c1 (by have := e200; omega)) (fun m2 w2 h2 => ?_)
    have hI2 := fpI_t B179 hI1 (Or.inl rfl) w2
    rw [w32_id (by omega) (by omega), show (j : Int) + 1 = ((j + 1 : Nat) : Int) from by omega]
    refine ih (j + 1) m2 (by omega) (by omega) (by omega) (by omega) hI2 ?_
    have e2 : sgx (m0 a) n g k (j + 1 - 1) = sgx (m0 a) n g k (j - 1) + m0 a (n - j) * g ((k - j : Nat) : Int) := by
      obtain ⟨i, rfl⟩ : ∃ i, j = i + 1 := ⟨j - 1, by omega⟩
      show (if (i : Int) + 1 ≤ n then sgx (m0 a) n g k i + m0 a (n - ((i : Int) + 1)) * g ((k : Int) - ((i : Int) + 1)) else sgx (m0 a) n g k i) = _
      rw [if_pos (by omega), show n - ((i : Int) + 1) = n - ((i + 1 : Nat) : Int) from by omega, show (k : Int) - ((i : Int) + 1) = ((k - (i + 1) : Nat) : Int) from by omega]
      rfl
    rw [e2, show -(sgx (m0 a) n g k (j - 1) + m0 a (n - j) * g ((k - j : Nat) : Int)) = -(sgx (m0 a) n g k (j - 1)) + 1 * (g ((k - j : Nat) : Int) * -(m0 a (n - j))) from by grind]
    exact h2
theorem c_RA_fillPowers {P B : Nat} (hP : (P = 172 ∧ B = 179) ∨ (P = 173 ∧ B = 181)) {a : Nat} (ha : isL a 7) (hac : a < 171) {n : Int} (hn : 0 ≤ n ∧ n ≤ 6) {N : Nat} (hN : N ≤ 6) {m0 : rz_M} {g : Int → Int} (hf : ∀ j : Int, 0 ≤ j → j ≤ n → bd (m0 a j) 100) (hg : isPX (m0 a) n g) {K : Int → rz_M → Prop} (h : ∀ m' : rz_M, fpI m0 m' B g (N + 1) → K 0 m') : rz_C y_RA_fillPowers [rR 171, rR a, rI n, rI N, rR P] m0 K := by
  have kP : (rz_isK P 2 || rz_isK P 3) = true := by rcases hP with z | z <;> rw [z.1] <;> decide +kernel
  have lP : rz_len P = 7 := by rcases hP with z | z <;> rw [z.1] <;> decide +kernel
  have rP : rz_R P (0 : Int) = B := by
    have := ra_cells 0 (by decide)
    rcases hP with z | z
    · rw [z.1, z.2]; exact this.1
    · rw [z.1, z.2]; exact this.2.1
  have gB : bgO B := by
    rcases hP with z | z
    · exact ra_bg (i := 2) (by omega) (by decide)
    · exact ra_bg (i := 3) (by omega) (by decide)
  have g175 : bgO 175 := ra_bg (i := 0) rfl (by decide)
  refine T_RA_fillPowers_0 _ _ _ _ _ _ ?_
  rw [rP]
  refine ⟨kP, ⟨by decide, by rw [lP]; decide⟩, gB.1, b_put gB (by omega) (fun m1 w1 h1 => ?_)⟩
  have loop : ∀ (r k : Nat) (m : rz_M), N + 1 - k = r → 1 ≤ k → k ≤ N + 1 → fpI m0 m B g k → rz_E y_RA_fillPowers 12 [rR 171, rR a, rI n, rI N, rR P, rI (k : Int), rX 0] [] m K := by
    intro r
    induction r with
    | zero =>
      intro k m hr k1 kN hI
      have e : k = N + 1 := by omega
      subst e
      exact T_RA_fillPowers_12 _ _ _ _ _ _ _ (bt (by omega) (h m hI))
    | succ r ih =>
      intro k m hr k1 kN hI
      refine T_RA_fillPowers_12 _ _ _ _ _ _ _ (bf (by omega) (b_put g175 (by decide) (fun m2 w2 h2 => ?_)))
      have hI2 := fpI_t (by omega) hI (Or.inl rfl) w2
      exact l_RA_fp29 hP ha hac hn hf hg (k := k) ⟨k1, by omega⟩ (fun m' hI' => ih (k + 1) m' (by omega) (by omega) (by omega) hI') (k - 1) 1 m2 (by omega) (by decide) (by omega) (by omega) hI2 h2
  refine loop N 1 m1 (by omega) (by decide) (by omega) ⟨fun i i1 i2 => ?_, fun i hi => ?_⟩
  · have := i2 0 (by decide)
    exact w1 i (by omega) (by omega)
  · have e : i = 0 := by omega
    subst e
    have e0 : g ((0 : Nat) : Int) = n := hg.1
    rw [e0]
    exact h1
/-! mixing -/
def gbn (k : Nat) : Int := if k = 0 then 6 else pbd k
def bsx (g h : Int → Int) (k : Nat) : Nat → Int
  | 0 => 0
  | i + 1 => bsx g h k i + (chs k i : Nat) * (g i * h ((k : Int) - i))
def bsb (k : Nat) : Nat → Int
  | 0 => 0
  | i + 1 => bsb k i + (chs k i : Nat) * (gbn i * gbn (k - i))
theorem bsx_bd {g h : Int → Int} {k : Nat} (hg : ∀ i : Nat, i ≤ 6 → bd (g i) (gbn i)) (hh : ∀ i : Nat, i ≤ 6 → bd (h i) (gbn i)) (hk : k ≤ 6) : ∀ i : Nat, i ≤ k + 1 → bd (bsx g h k i) (bsb k i)
  | 0, _ => ⟨Int.le_refl _, Int.le_refl _⟩
  | i + 1, hi => by
    have ih := bsx_bd hg hh hk i (by omega)
    have e : (k : Int) - i = ((k - i : Nat) : Int) := by omega
    show bd (bsx g h k i + _ * (g i * h ((k : Int) - i))) _
    rw [e]
    exact bd_add ih (bd_mul (show bd ((chs k i : Nat) : Int) (chs k i : Nat) from ⟨by omega, Int.le_refl _⟩) (bd_mul (hg i (by omega)) (hh (k - i) (by omega))))
theorem chs_next : ∀ k : Nat, k ≤ 6 → ∀ j : Nat, j ≤ k → Int.tdiv ((chs k j : Nat) * ((k : Int) - j)) ((j : Int) + 1) = (chs k (j + 1) : Nat) := by decide +kernel
theorem chs_sm : ∀ k : Nat, k ≤ 6 → ∀ j : Nat, j ≤ 7 → chs k j ≤ 20 := by decide +kernel
theorem gbn_sm : ∀ k : Nat, k ≤ 6 → gbn k ≤ 10000000000000 := by decide +kernel
theorem bsb_sm : ∀ k : Nat, k ≤ 6 → ∀ j : Nat, j ≤ k + 1 → bsb k j ≤ 400000000000000 := by decide +kernel
/-- while sums are made: both rows of powers stay -/
def mxI (m0 m : rz_M) (g h S : Int → Int) (k : Nat) : Prop := (∀ i : Nat, (i < 171 ∨ 220 < i) → m i = m0 i) ∧ (∀ i : Nat, i < 7 → BV m (179 + 6 * i) (g i) ∧ BV m (181 + 6 * i) (h i)) ∧ ∀ i : Nat, i < k → BV m (183 + 6 * i) (S i)
def mxJ (m0 m : rz_M) (N : Nat) (g h S : Int → Int) (k : Nat) : Prop := (∀ i : Nat, (i < 171 ∨ 220 < i) → m i = m0 i) ∧ (∀ i : Nat, i ≤ N → BV m (179 + 6 * i) (g i) ∧ BV m (181 + 6 * i) (h i)) ∧ ∀ i : Nat, i < k → BV m (183 + 6 * i) (S i)
theorem mxJ_t {m0 m m' : rz_M} {N : Nat} {g h S : Int → Int} {k c : Nat} (hI : mxJ m0 m N g h S k) (hc : c = 175 ∨ c = 177) (w : bgw c m m') : mxJ m0 m' N g h S k :=
  ⟨fun i h1 => by rw [w i (by omega) (by omega)]; exact hI.1 i h1, fun i hi => ⟨BV_kp (hI.2.1 i hi).1 w (by omega) (by omega) (by omega), BV_kp (hI.2.1 i hi).2 w (by omega) (by omega) (by omega)⟩, fun i hi => BV_kp (hI.2.2 i hi) w (by omega) (by omega) (by omega)⟩
theorem l_RA_mix20 {N : Nat} (hN : N ≤ 6) {m0 : rz_M} {g h S : Int → Int} (hg : ∀ i : Nat, i ≤ 6 → bd (g i) (gbn i)) (hh : ∀ i : Nat, i ≤ 6 → bd (h i) (gbn i)) {k : Nat} (hk : k ≤ N) (hS : S k = bsx g h k (k + 1)) {K : Int → rz_M → Prop} (hc : ∀ m' : rz_M, mxJ m0 m' N g h S (k + 1) → rz_E y_RA_mixPowers 2 [rR 171, rI N, rI ((k + 1 : Nat) : Int), rX 0, rX 0, rX 0] [] m' K) : ∀ (r j : Nat) (m : rz_M), k + 1 - j = r → j ≤ k + 1 → mxJ m0 m N g h S k → BV m 175 (bsx g h k j) → rz_E y_RA_mixPowers 20 [rR 171, rI N, rI k, rL (chs k j : Nat), rX 1, rI j] [] m K := by
  have g175 : bgO 175 := ra_bg (i := 0) rfl (by decide)
  have g177 : bgO 177 := ra_bg (i := 1) rfl (by decide)
  have gA : ∀ i : Nat, i < 7 → bgO (179 + 6 * i) := fun i hi => ra_bg (i := 2 + 3 * i) (by omega) (by omega)
  have gB : ∀ i : Nat, i < 7 → bgO (181 + 6 * i) := fun i hi => ra_bg (i := 3 + 3 * i) (by omega) (by omega)
  have gC : ∀ i : Nat, i < 7 → bgO (183 + 6 * i) := fun i hi => ra_bg (i := 4 + 3 * i) (by omega) (by omega)
  intro r
  induction r with
  | zero =>
    intro j m hr hj hI hT
    have e : j = k + 1 := by omega
    subst e
    refine T_RA_mixPowers_20 _ _ _ _ _ _ (bt (by omega) ⟨⟨by omega, by omega⟩, ?_⟩)
    rw [(ra_cells k (by omega)).2.2]
    refine ⟨(gC k (by omega)).1, b_take g175 (gC k (by omega)) (by omega) hT (fun m1 w1 h1 => ?_)⟩
    rw [w32_id (by omega) (by omega), show (k : Int) + 1 = ((k + 1 : Nat) : Int) from by omega]
    refine hc m1 ⟨fun i hi => by rw [w1 i (by omega) (by omega)]; exact hI.1 i hi, fun i hi => ⟨BV_kp (hI.2.1 i hi).1 w1 (by omega) (by omega) (by omega), BV_kp (hI.2.1 i hi).2 w1 (by omega) (by omega) (by omega)⟩, fun i hi => ?_⟩
    by_cases q : i = k
    · subst q
      rw [hS]
      exact h1
    · exact BV_kp (hI.2.2 i (by omega)) w1 (by omega) (by omega) (by omega)
  | succ r ih =>
    intro j m hr hj hI hT
    have cs := chs_sm k (by omega) j (by omega)
    have b1 := hg j (by omega)
    have b2 := hh (k - j) (by omega)
    have s1 := gbn_sm j (by omega)
    have s2 := gbn_sm (k - j) (by omega)
    have n1 := bd_nn b1
    have n2 := bd_nn b2
    have pr := bd_mul b1 b2
    have pm : gbn j * gbn (k - j) ≤ 10000000000000 * 10000000000000 := Int.mul_le_mul s1 s2 n2 (by decide)
    have bT := bsx_bd hg hh (k := k) (by omega) j (by omega)
    have bT2 := bsb_sm k (by omega) j (by omega)
    have ckj : (k : Int) - j = ((k - j : Nat) : Int) := by omega
    refine T_RA_mixPowers_20 _ _ _ _ _ _ (bf (by omega) ?_)
    rw [w32_id (z := (k : Int) - j) (by omega) (by omega), w32_id (z := (j : Int) + 1) (by omega) (by omega), ckj, (ra_cells j (by omega)).1, (ra_cells (k - j) (by omega)).2.1]
    refine ⟨⟨by omega, by omega⟩, ⟨by omega, by omega⟩, b_mul (gA j (by omega)) (gB (k - j) (by omega)) g177 (by omega) (by omega) (hI.2.1 j (by omega)).1 (hI.2.1 (k - j) (by omega)).2 (big300 b1 b2 (by have := e200; omega)) (fun m1 w1 h1 => ?_)⟩
    have hI1 := mxJ_t hI (Or.inr rfl) w1
    have hT1 := BV_kp hT w1 (by decide) (by decide) (by decide)
    have cb : bd ((chs k j : Nat) : Int) 20 := ⟨by omega, by omega⟩
    refine b_scale g177 g177 h1 (by omega) (big300 pr cb (by have := e200; omega)) (fun m2 w2 h2 => ?_)
    have hI2 := mxJ_t hI1 (Or.inr rfl) w2
    have hT2 := BV_kp hT1 w2 (by decide) (by decide) (by decide)
    refine b_add g175 g177 g175 hT2 h2 (Or.inl rfl) (big200 bT (bd_mul pr cb) (by have := e200; omega)) (fun m3 w3 h3 => ?_)
    have hI3 := mxJ_t hI2 (Or.inl rfl) w3
    have nx := chs_next k (by omega) j (by omega)
    rw [ckj] at nx
    have cp : ((chs k j : Nat) : Int) * ((k - j : Nat) : Int) ≤ 20 * 6 := Int.mul_le_mul (by omega) (by omega) (by omega) (by decide)
    have cp0 : 0 ≤ ((chs k j : Nat) : Int) * ((k - j : Nat) : Int) := Int.mul_nonneg (by omega) (by omega)
    have cs2 := chs_sm k (by omega) (j + 1) (by omega)
    rw [w64_id (z := ((chs k j : Nat) : Int) * ((k - j : Nat) : Int)) (by omega) (by omega), nx, w64_id (by omega) (by omega)]
    refine ⟨by omega, T_RA_mixPowers_91 _ _ _ _ _ _ ?_⟩
    rw [w32_id (by omega) (by omega), show (j : Int) + 1 = ((j + 1 : Nat) : Int) from by omega]
    refine ih (j + 1) m3 (by omega) (by omega) hI3 ?_
    show BV m3 175 (bsx g h k j + (chs k j : Nat) * (g j * h ((k : Int) - j)))
    rw [ckj, show bsx g h k j + ((chs k j : Nat) : Int) * (g j * h ((k - j : Nat) : Int)) = bsx g h k j + 1 * (g j * h ((k - j : Nat) : Int) * ((chs k j : Nat) : Int)) from by grind]
    exact h3
theorem c_RA_mixPowers {N : Nat} (hN : N ≤ 6) {m0 : rz_M} {g h : Int → Int} (hg : ∀ i : Nat, i ≤ 6 → bd (g i) (gbn i)) (hh : ∀ i : Nat, i ≤ 6 → bd (h i) (gbn i)) (hI : mxJ m0 m0 N g h (fun i => bsx g h i.toNat (i.toNat + 1)) 0) {K : Int → rz_M → Prop} (hc : ∀ m' : rz_M, mxJ m0 m' N g h (fun i => bsx g h i.toNat (i.toNat + 1)) (N + 1) → K 0 m') : rz_C y_RA_mixPowers [rR 171, rI N] m0 K := by
  have g175 : bgO 175 := ra_bg (i := 0) rfl (by decide)
  have loop : ∀ (r k : Nat) (m : rz_M), N + 1 - k = r → k ≤ N + 1 → mxJ m0 m N g h (fun i => bsx g h i.toNat (i.toNat + 1)) k → rz_E y_RA_mixPowers 2 [rR 171, rI N, rI k, rX 0, rX 0, rX 0] [] m K := by
    intro r
    induction r with
    | zero =>
      intro k m hr hk hI
      have e : k = N + 1 := by omega
      subst e
      exact T_RA_mixPowers_2 _ _ _ _ (bt (by omega) (hc m hI))
    | succ r ih =>
      intro k m hr hk hI
      refine T_RA_mixPowers_2 _ _ _ _ (bf (by omega) (b_put g175 (by decide) (fun m1 w1 h1 => ?_)))
      have c0 : ((chs k 0 : Nat) : Int) = 1 := by cases k <;> rfl
      have := l_RA_mix20 hN hg hh (k := k) (S := fun i => bsx g h i.toNat (i.toNat + 1)) (by omega) (by rw [Int.toNat_natCast]) (fun m' hI' => ih (k + 1) m' (by omega) (by omega) hI') (k + 1) 0 m1 (by omega) (by omega) (mxJ_t hI (Or.inl rfl) w1) h1
      rw [c0] at this
      exact this
  exact T_RA_mixPowers_0 _ _ _ (loop (N + 1) 0 m0 (by omega) (by omega) hI)
