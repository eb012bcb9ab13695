/-! both sides alike: sums -/
theorem R32_eq {m : rz_M} {r : Int} (hr : 0 ≤ r ∧ r < 10) : rz_R 1 r = 2 + r.toNat := rfl
/-- the i first products of a step -/
def tsx (n : Int) (S M : Int → Int) (k : Int) : Nat → Int
  | 0 => 0
  | i + 1 => tsx n S M k i + S ((i : Int) + 1) * -(M (n - k + ((i : Int) + 1)))
/-- the numbers of what is made, k of them below the last -/
def mxs (n : Int) (S : Int → Int) : Nat → (Int → Int)
  | 0 => upf (fun _ => 0) n 1
  | k + 1 => upf (mxs n S k) (n - ((k : Int) + 1)) (Int.tdiv (tsx n S (mxs n S k) ((k : Int) + 1) (k + 1)) ((k : Int) + 1))
def sB (k : Nat) : Int := 6 * 202 ^ k
def mB (k : Nat) : Int := if k = 0 then 1 else 6 * 7 ^ (k - 1) * 202 ^ k
def tB (k : Nat) : Nat → Int
  | 0 => 0
  | i + 1 => tB k i + sB (i + 1) * mB (k - (i + 1))
theorem tB_m : ∀ k : Nat, k ≤ 6 → tB k k ≤ mB k := by decide +kernel
theorem tB_s : ∀ k : Nat, k ≤ 6 → ∀ i : Nat, i ≤ k → tB k i + sB 6 ≤ 7000000000000000000 := by decide +kernel
theorem mB_s : ∀ k : Nat, k ≤ 6 → mB k ≤ 7000000000000000000 := by decide +kernel
theorem sB_s : ∀ k : Nat, k ≤ 6 → sB k ≤ 1000000000000000 := by decide +kernel
theorem bsb_sB : ∀ k : Nat, k ≤ 6 → 1 ≤ k → bsb k (k + 1) ≤ sB k := by decide +kernel
theorem sB_nn (k : Nat) : 0 ≤ sB k := by
  unfold sB
  have : (0 : Int) < 202 ^ k := Int.pow_pos (by decide)
  omega
theorem mB_nn : ∀ k : Nat, k ≤ 6 → 0 ≤ mB k := by decide +kernel
theorem tsx_bd {n : Int} {S M : Int → Int} {k : Nat} (hk : k ≤ 6) (hS : ∀ j : Nat, 1 ≤ j → j ≤ 6 → bd (S j) (sB j)) (hM : ∀ j : Nat, j < k → bd (M (n - j)) (mB j)) : ∀ i : Nat, i ≤ k → bd (tsx n S M k i) (tB k i)
  | 0, _ => ⟨Int.le_refl _, Int.le_refl _⟩
  | i + 1, hi => by
    have ih := tsx_bd hk hS hM i (by omega)
    have e1 := hS (i + 1) (by omega) (by omega)
    have e2 := hM (k - (i + 1)) (by omega)
    rw [show n - ((k - (i + 1) : Nat) : Int) = n - k + ((i : Int) + 1) from by omega] at e2
    rw [show ((i + 1 : Nat) : Int) = (i : Int) + 1 from by omega] at e1
    exact bd_add ih (bd_mul e1 (bd_neg e2))
theorem mxs_keep {n : Int} {S : Int → Int} {j : Nat} : ∀ d : Nat, mxs n S (j + d) (n - j) = mxs n S j (n - j)
  | 0 => rfl
  | d + 1 => by
    show upf (mxs n S (j + d)) (n - (((j + d : Nat) : Int) + 1)) _ (n - j) = _
    unfold upf
    rw [if_neg (by omega)]
    exact mxs_keep d
theorem mxs_bd {n : Int} {S : Int → Int} (hS : ∀ j : Nat, 1 ≤ j → j ≤ 6 → bd (S j) (sB j)) : ∀ k : Nat, k ≤ 6 → ∀ j : Nat, j ≤ k → bd (mxs n S k (n - j)) (mB j)
  | 0, _, j, hj => by
    have e : j = 0 := by omega
    subst e
    show bd (upf (fun _ => 0) n 1 (n - ((0 : Nat) : Int))) (mB 0)
    unfold upf
    rw [if_pos (by omega)]
    exact ⟨by decide, by decide⟩
  | k + 1, hk, j, hj => by
    have ih := mxs_bd (n := n) hS k (by omega)
    by_cases q : j = k + 1
    · subst q
      show bd (upf (mxs n S k) (n - ((k : Int) + 1)) _ (n - ((k + 1 : Nat) : Int))) _
      unfold upf
      rw [if_pos (by omega)]
      have b := tsx_bd (n := n) (M := mxs n S k) (k := k + 1) hk hS (fun i hi => ih i (by omega)) (k + 1) (Nat.le_refl _)
      rw [show ((k + 1 : Nat) : Int) = (k : Int) + 1 from by omega] at b
      exact bd_le (bd_tdiv b (by omega)) (tB_m (k + 1) hk)
    · show bd (upf (mxs n S k) (n - ((k : Int) + 1)) _ (n - j)) _
      unfold upf
      rw [if_neg (by omega)]
      exact ih j (by omega)
/-! the class -/
/-- while the numbers are made: k of them are there -/
def arI (m0 m : rz_M) (n : Int) (S : Int → Int) (k : Nat) : Prop := (∀ i : Nat, i ≠ 12 → (i < 171 ∨ 220 < i) → m i = m0 i) ∧ (∀ i : Nat, 1 ≤ i → (i : Int) ≤ n → BV m (183 + 6 * i) (S i)) ∧ ∀ y : Int, 0 ≤ y → y < 7 → m 12 y = mxs n S k y
theorem arI_t {m0 m m' : rz_M} {n : Int} {S : Int → Int} {k c : Nat} (h : arI m0 m n S k) (hc : c = 175 ∨ c = 177) (w : bgw c m m') : arI m0 m' n S k :=
  ⟨fun i h1 h2 => by rw [w i (by omega) (by omega)]; exact h.1 i h1 h2, fun i h1 h2 => BV_kp (h.2.1 i h1 h2) w (by omega) (by omega) (by omega), fun y y0 y1 => by rw [w 12 (by omega) (by omega)]; exact h.2.2 y y0 y1⟩
theorem l_RA_ar69 {n : Int} (hn : 1 ≤ n ∧ n ≤ 6) {m0 : rz_M} {S : Int → Int} (hS : ∀ j : Nat, 1 ≤ j → j ≤ 6 → bd (S j) (sB j)) {k : Nat} (hk : 1 ≤ k ∧ (k : Int) ≤ n) (hM : ∀ j : Nat, j < k → bd (mxs n S (k - 1) (n - j)) 1000000000) {K : Int → rz_M → Prop}
    (h1 : bd (mxs n S k (n - k)) 1000000000 → ∀ m' : rz_M, arI m0 m' n S k → rz_E y_RA_addRoots 51 [rR 171, rX 0, rX 0, rX 0, rX 0, rR 12, rI n, rI ((k + 1 : Nat) : Int), rX 0] [] m' K) (h0 : ¬ bd (mxs n S k (n - k)) 1000000000 → ∀ m' : rz_M, arI m0 m' n S (k - 1) → K 0 m') : ∀ (r i : Nat) (m : rz_M), k - i = r → i ≤ k → arI m0 m n S (k - 1) → BV m 175 (tsx n S (mxs n S (k - 1)) k i) → rz_E y_RA_addRoots 69 [rR 171, rX 0, rX 0, rX 0, rX 0, rR 12, rI n, rI (k : Int), rI ((i + 1 : Nat) : Int)] [] m K := by
  have g175 : bgO 175 := ra_bg (i := 0) rfl (by decide)
  have g177 : bgO 177 := ra_bg (i := 1) rfl (by decide)
  have k12 : rz_isK 12 1 = true := by decide +kernel
  have l12 : rz_len 12 = 7 := by decide +kernel
  have bM := mxs_bd (n := n) hS (k - 1) (by omega)
  intro r
  induction r with
  | zero =>
    intro i m hr hi hI hT
    have e : i = k := by omega
    subst e
    refine T_RA_addRoots_69 _ _ _ _ _ _ (bt (by omega) (c_Big_divideBy g175 hT.1 ⟨by omega, by omega⟩ (fun m1 w1 d1 v1 => ?_)))
    have hv : BV m1 175 (Int.tdiv (tsx n S (mxs n S (i - 1)) i i) i) := ⟨d1, by rw [v1, hT.2]⟩
    have em : mxs n S i (n - i) = Int.tdiv (tsx n S (mxs n S (i - 1)) i i) i := by
      obtain ⟨j, rfl⟩ : ∃ j, i = j + 1 := ⟨i - 1, by omega⟩
      show upf (mxs n S j) (n - ((j : Int) + 1)) _ (n - ((j + 1 : Nat) : Int)) = _
      unfold upf
      rw [if_pos (by omega)]
      rfl
    have hI1 := arI_t hI (Or.inl rfl) w1
    have ab := BV_bm hv
    refine c_Big_isWithin g175 d1 (by decide) (fun q => b1n (c_Big_asLong g175 d1 (by omega) ⟨k12, ?_⟩)) (fun q => b0n ?_)
    · rw [w32_id (by omega) (by omega), w32_id (by omega) (by omega), hv.2, ← em, l12, show (i : Int) + 1 = ((i + 1 : Nat) : Int) from by omega]
      refine ⟨⟨by omega, by omega⟩, h1 ?_ _ ⟨fun x x1 x2 => by rw [up_ne x1]; exact hI1.1 x x1 x2, fun x x1 x2 => ?_, fun y y0 y1 => ?_⟩⟩
      · rw [em]
        unfold bd
        omega
      · obtain ⟨g, ev⟩ := hI1.2.1 x x1 x2
        have e1 : rz_up m1 12 (n - i) (mxs n S i (n - i)) (183 + 6 * x) = m1 (183 + 6 * x) := up_ne (by omega)
        have e2 : rz_up m1 12 (n - i) (mxs n S i (n - i)) (183 + 6 * x + 1) = m1 (183 + 6 * x + 1) := up_ne (by omega)
        refine ⟨?_, ?_⟩
        · unfold bg; rw [e1, e2]; exact g
        · unfold bv; rw [e1, e2]; exact ev
      · by_cases z : y = n - i
        · rw [z, up_eq]
        · rw [up_nj z, hI1.2.2 y y0 y1]
          obtain ⟨j, rfl⟩ : ∃ j, i = j + 1 := ⟨i - 1, by omega⟩
          show mxs n S (j + 1 - 1) y = upf (mxs n S j) (n - ((j : Int) + 1)) _ y
          unfold upf
          rw [if_neg (by omega)]
          rfl
    · refine h0 (fun z => ?_) m1 hI1
      rw [em] at z
      unfold bd at z
      omega
  | succ r ih =>
    intro i m hr hi hI hT
    have hIi := hI.2.1 (i + 1) (by omega) (by omega)
    have emj : m 12 (n - k + ((i : Int) + 1)) = mxs n S (k - 1) (n - k + ((i : Int) + 1)) := hI.2.2 _ (by omega) (by omega)
    have bj := hM (k - (i + 1)) (by omega)
    rw [show n - ((k - (i + 1) : Nat) : Int) = n - k + ((i : Int) + 1) from by omega] at bj
    have bS := hS (i + 1) (by omega) (by omega)
    have sS := sB_s (i + 1) (by omega)
    have bT := tsx_bd (n := n) (M := mxs n S (k - 1)) (k := k) (by omega) hS (fun j hj => bM j (by omega)) i (by omega)
    have sT := tB_s k (by omega) i (by omega)
    have s6 := sB_nn 6
    have bj2 := bj
    unfold bd at bj2
    refine T_RA_addRoots_69 _ _ _ _ _ _ (bf (by omega) ?_)
    rw [w32_id (z := n - k) (by omega) (by omega), w32_id (z := n - k + ((i + 1 : Nat) : Int)) (by omega) (by omega), show ((i + 1 : Nat) : Int) = (i : Int) + 1 from by omega, emj, w64_id (by omega) (by omega), l12]
    have rc := (ra_cells (i + 1) (by omega)).2.2
    rw [show ((i + 1 : Nat) : Int) = (i : Int) + 1 from by omega] at rc bS hIi
    rw [rc]
    have pm : sB (i + 1) * 1000000000 ≤ 1000000000000000 * 1000000000 := Int.mul_le_mul_of_nonneg_right sS (by decide)
    refine ⟨⟨by omega, by omega⟩, k12, ⟨by omega, by omega⟩, b_scale (ra_bg (i := 4 + 3 * (i + 1)) (by omega) (by omega)) g177 hIi (by omega) (big300 bS (bd_neg bj) (by have := e200; omega)) (fun m1 w1 v1 => ?_)⟩
    have hT1 := BV_kp hT w1 (by decide) (by decide) (by decide)
    refine b_add g175 g177 g175 hT1 v1 (Or.inl rfl) (big200 bT (bd_mul bS (bd_neg bj)) (by have := e200; omega)) (fun m2 w2 v2 => ?_)
    rw [w32_id (by omega) (by omega), show (i : Int) + 1 + 1 = ((i + 1 + 1 : Nat) : Int) from by omega]
    refine ih (i + 1) m2 (by omega) (by omega) (arI_t (arI_t hI (Or.inr rfl) w1) (Or.inl rfl) w2) ?_
    rw [Int.one_mul] at v2
    exact v2
theorem c_RA_addRoots {a b : Nat} (ha : isL a 7) (hac : a < 12) (hb : isL b 7) (hbc : b < 12) {n1 n2 : Int} (h1n : 1 ≤ n1) (h2n : 1 ≤ n2) (h6 : n1 * n2 ≤ 6) {m0 : rz_M} {g h : Int → Int} (hf1 : ∀ j : Int, 0 ≤ j → j ≤ n1 → bd (m0 a j) 100) (hf2 : ∀ j : Int, 0 ≤ j → j ≤ n2 → bd (m0 b j) 100) (hg : isPX (m0 a) n1 g) (hh : isPX (m0 b) n2 h) {K : Int → rz_M → Prop}
    (k1 : (∀ k : Nat, (k : Int) ≤ n1 * n2 → bd (mxs (n1 * n2) (fun i => bsx g h i.toNat (i.toNat + 1)) k (n1 * n2 - k)) 1000000000) → ∀ m' : rz_M, (∀ i : Nat, i ≠ 12 → (i < 171 ∨ 220 < i) → m' i = m0 i) → (∀ y : Int, 0 ≤ y → y < 7 → m' 12 y = mxs (n1 * n2) (fun i => bsx g h i.toNat (i.toNat + 1)) (n1 * n2).toNat y) → K 1 m')
    (k0 : (∃ k : Nat, (k : Int) ≤ n1 * n2 ∧ ¬ bd (mxs (n1 * n2) (fun i => bsx g h i.toNat (i.toNat + 1)) k (n1 * n2 - k)) 1000000000) → ∀ m' : rz_M, (∀ i : Nat, i ≠ 12 → (i < 171 ∨ 220 < i) → m' i = m0 i) → K 0 m') : rz_C y_RA_addRoots [rR 171, rR a, rI n1, rR b, rI n2, rR 12] m0 K := by
  have l1 : n1 * 1 ≤ n1 * n2 := Int.mul_le_mul_of_nonneg_left h2n (by omega)
  have l2 : 1 * n2 ≤ n1 * n2 := Int.mul_le_mul_of_nonneg_right h1n (by omega)
  have g175 : bgO 175 := ra_bg (i := 0) rfl (by decide)
  have k12 : rz_isK 12 1 = true := by decide +kernel
  have l12 : rz_len 12 = 7 := by decide +kernel
  obtain ⟨N, hN⟩ : ∃ N : Nat, n1 * n2 = N := ⟨(n1 * n2).toNat, by omega⟩
  have gb : ∀ (f : Int → Int) (n : Int) (g : Int → Int), 1 ≤ n → n ≤ 6 → isPX f n g → ∀ i : Nat, i ≤ 6 → bd (g i) (gbn i) := fun f n g hn1 hn2 hg i hi => by
    unfold gbn
    by_cases q : i = 0
    · subst q
      rw [if_pos rfl]
      have : g ((0 : Nat) : Int) = n := hg.1
      rw [this]
      exact ⟨by omega, hn2⟩
    · rw [if_neg q]
      exact (hg.2 i (by omega) (by omega)).2
  have gg := gb _ _ _ h1n (by omega) hg
  have gh := gb _ _ _ h2n (by omega) hh
  have hS : ∀ j : Nat, 1 ≤ j → j ≤ 6 → bd ((fun i : Int => bsx g h i.toNat (i.toNat + 1)) j) (sB j) := fun j j1 j6 => by
    show bd (bsx g h ((j : Int)).toNat (((j : Int)).toNat + 1)) _
    rw [Int.toNat_natCast]
    exact bd_le (bsx_bd gg gh (k := j) j6 (j + 1) (Nat.le_refl _)) (bsb_sB j j6 j1)
  refine T_RA_addRoots_0 _ _ _ _ _ _ _ ?_
  have hNb : 1 ≤ N ∧ N ≤ 6 := by omega
  rw [w32_id (by omega) (by omega)]
  rw [hN] at l1 l2 k1 k0 ⊢
  refine c_RA_fillPowers (P := 172) (B := 179) (Or.inl ⟨rfl, rfl⟩) ha (by omega) ⟨by omega, by omega⟩ (by omega) hf1 hg (fun m1 I1 => ?_)
  have eb : m1 b = m0 b := I1.1 b (by omega) (fun j hj => by omega)
  refine c_RA_fillPowers (P := 173) (B := 181) (Or.inr ⟨rfl, rfl⟩) hb (by omega) ⟨by omega, by omega⟩ (by omega) (by rw [eb]; exact hf2) (by rw [eb]; exact hh) (fun m2 I2 => ?_)
  have fr2 : ∀ i : Nat, (i < 171 ∨ 220 < i) → m2 i = m0 i := fun i hi => by rw [I2.1 i (by omega) (fun j hj => by omega), I1.1 i (by omega) (fun j hj => by omega)]
  have J2 : mxJ m2 m2 N g h (fun i => bsx g h i.toNat (i.toNat + 1)) 0 := ⟨fun _ _ => rfl, fun i hi => ⟨?_, I2.2 i (by omega)⟩, fun i hi => absurd hi (by omega)⟩
  · refine c_RA_mixPowers (by omega) gg gh J2 (fun m3 J3 => c_RC_clear k12 l12 (by decide) ⟨k12, ?_⟩)
    rw [l12, wr_up (by omega) (by omega)]
    refine ⟨⟨by omega, by omega⟩, ?_⟩
    have A0 : arI m0 (wr m3 12 7 (upf (fun _ => 0) N 1)) N (fun i => bsx g h i.toNat (i.toNat + 1)) 0 := by
      refine ⟨fun i i1 i2 => by rw [wr_ne i1, J3.1 i i2]; exact fr2 i i2, fun i i1 i2 => ?_, fun y y0 y1 => wr_in y0 y1⟩
      obtain ⟨g', ev⟩ := J3.2.2 i (by omega)
      have e1 : wr m3 12 7 (upf (fun _ => 0) N 1) (183 + 6 * i) = m3 (183 + 6 * i) := wr_ne (by omega)
      have e2 : wr m3 12 7 (upf (fun _ => 0) N 1) (183 + 6 * i + 1) = m3 (183 + 6 * i + 1) := wr_ne (by omega)
      refine ⟨?_, ?_⟩
      · unfold bg; rw [e1, e2]; exact g'
      · unfold bv; rw [e1, e2]; exact ev
    generalize hSS : (fun i : Int => bsx g h i.toNat (i.toNat + 1)) = S at hS k1 k0 A0
    have loop : ∀ (r k : Nat) (m : rz_M), N + 1 - k = r → 1 ≤ k → k ≤ N + 1 → arI m0 m N S (k - 1) → (∀ j : Nat, j < k → bd (mxs N S j ((N : Int) - j)) 1000000000) → rz_E y_RA_addRoots 51 [rR 171, rX 0, rX 0, rX 0, rX 0, rR 12, rI N, rI (k : Int), rX 0] [] m K := by
      intro r
      induction r with
      | zero =>
        intro k m hr hk1 hk2 hI hb'
        have e : k = N + 1 := by omega
        subst e
        refine T_RA_addRoots_51 _ _ _ _ _ (bt (by omega) (k1 (fun j hj => hb' j (by omega)) m hI.1 (fun y y0 y1 => ?_)))
        rw [Int.toNat_natCast]
        exact hI.2.2 y y0 y1
      | succ r ih =>
        intro k m hr hk1 hk2 hI hb'
        refine T_RA_addRoots_51 _ _ _ _ _ (bf (by omega) (b_put g175 (by decide) (fun m4 w4 v4 => ?_)))
        refine l_RA_ar69 (n := (N : Int)) ⟨by omega, by omega⟩ hS (k := k) ⟨hk1, by omega⟩ (fun j hj => ?_) (fun hbk m' hI' => ih (k + 1) m' (by omega) (by omega) (by omega) hI' (fun j hj => ?_)) (fun hbk m' hI' => k0 ⟨k, by omega, hbk⟩ m' hI'.1) k 0 m4 (by omega) (by omega) (arI_t hI (Or.inl rfl) w4) v4
        · have := mxs_keep (n := (N : Int)) (S := S) (j := j) (k - 1 - j)
          rw [show j + (k - 1 - j) = k - 1 from by omega] at this
          rw [this]
          exact hb' j hj
        · by_cases q : j = k
          · subst q; exact hbk
          · exact hb' j (by omega)
    refine loop N 1 _ (by omega) (by decide) (by omega) A0 (fun j hj => ?_)
    have e : j = 0 := by omega
    subst e
    exact bd_le (mxs_bd (n := (N : Int)) hS 0 (by decide) 0 (by decide)) (by decide)
  · have := I1.2 i (by omega)
    obtain ⟨g', ev⟩ := this
    have e1 : m2 (179 + 6 * i) = m1 (179 + 6 * i) := I2.1 _ (by omega) (fun j hj => by omega)
    have e2 : m2 (179 + 6 * i + 1) = m1 (179 + 6 * i + 1) := I2.1 _ (by omega) (fun j hj => by omega)
    refine ⟨?_, ?_⟩
    · unfold bg; rw [e1, e2]; exact g'
    · unfold bv; rw [e1, e2]; exact ev
