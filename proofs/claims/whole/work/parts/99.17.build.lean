/-! SignChain: the whole chain -/
theorem dgk_is {f : Int → Int} {n d : Nat} (hd : d < n) (h0 : f d ≠ 0) (hz : ∀ j : Int, (d : Int) < j → j < n → f j = 0) : dgk f n = d := by
  have h := dgk_lt f n
  rcases Int.lt_trichotomy (dgk f n) d with q | q | q
  · exact absurd (dgk_top f n d q (by omega)) h0
  · exact q
  · exact absurd (hz _ q h.2) (dgk_nz f n (by omega))
def frP (t : Nat) (m0 m : rz_M) : Prop := ∀ x : Nat, (x < 69 ∨ 170 < x ∨ (73 ≤ x ∧ (x < 73 + 2 * t ∨ 73 + 2 * t + 14 ≤ x))) → m x = m0 x
section
variable {L dA bD : Nat} {A B : Int → Int} {m0 : rz_M} {K : Int → rz_M → Prop}
theorem l_SC_pr99 (hL : 2 ≤ L ∧ L ≤ 6) (hbD : bD ≤ 6) {w : Int → Int} (hK : ∀ m' : rz_M, frP (7 * L) m0 m' → (∀ i : Nat, i ≤ 6 → BV m' (73 + 2 * (7 * L + i)) (if i < bD then -(w i) else w i)) → K (dgk (fun i => -(w i)) bD) m') : ∀ (r k : Nat) (m : rz_M), bD - k = r → k ≤ bD → frP (7 * L) m0 m → (∀ i : Nat, i ≤ 6 → BV m (73 + 2 * (7 * L + i)) (if i < k then -(w i) else w i)) → rz_E y_SC_putRest 99 [rR 64, rX 0, rI ((7 * L : Nat) : Int), rX 0, rI bD, rI (dgk (fun i => -(w i)) k), rI k] [] m K := by
  intro r
  induction r with
  | zero =>
    intro k m hr hk hf hv
    have e : k = bD := by omega
    subst e
    exact T_SC_putRest_99 _ _ _ _ _ _ (bt (Int.le_refl _) (hK m hf hv))
  | succ r ih =>
    intro k m hr hk hf hv
    have vk := hv k (by omega)
    rw [if_neg (by omega)] at vk
    refine T_SC_putRest_99 _ _ _ _ _ _ (bf (by omega) ?_)
    rw [w32_id (z := ((7 * L : Nat) : Int) + k) (by omega) (by omega), show ((7 * L : Nat) : Int) + (k : Int) = ((7 * L + k : Nat) : Int) from by omega, sc_R (7 * L + k) (by omega), w32_id (z := (k : Int) + 1) (by omega) (by omega)]
    refine ⟨⟨by omega, by omega⟩, (sc_bk (by omega)).1, c_flip (sc_bk (by omega)) vk (fun m' w' b' => ⟨⟨by omega, by omega⟩, (sc_bk (by omega)).1, c_Big_sign (sc_bk (by omega)) ?_⟩)⟩
    have nf : frP (7 * L) m0 m' := fun x hx => by
      rw [w' x (by omega) (by omega)]
      exact hf x hx
    have nv : ∀ i : Nat, i ≤ 6 → BV m' (73 + 2 * (7 * L + i)) (if i < k + 1 then -(w i) else w i) := fun i hi => by
      by_cases q : i = k
      · subst q
        rw [if_pos (by omega)]
        exact b'
      · have e : (if i < k then -(w i) else w i) = (if i < k + 1 then -(w i) else w i) := by
          by_cases z : i < k
          · rw [if_pos z, if_pos (by omega)]
          · rw [if_neg z, if_neg (by omega)]
        have := hv i hi
        rw [e] at this
        exact BV_kp this w' (by omega) (by omega) (by omega)
    have go := ih (k + 1) m' (by omega) (by omega) nf nv
    rw [BV_sg b']
    have e : dgk (fun i => -(w i)) (k + 1) = if -(w k) = 0 then dgk (fun i => -(w i)) k else k := rfl
    rw [e] at go
    refine bb (fun z => ?_) (fun z => ?_)
    · rw [if_pos (Int.sign_eq_zero_iff_zero.mp z)] at go
      exact go
    · rw [if_neg (fun u => z (Int.sign_eq_zero_iff_zero.mpr u))] at go
      exact go
theorem l_SC_pr70 (hL : 2 ≤ L ∧ L ≤ 6) (hd : bD < dA ∧ dA ≤ 6) (B0 : B bD ≠ 0) (hA : ∀ i : Int, (dA : Int) < i → i < 7 → A i = 0) {X Y : Int} (bA : ∀ i : Int, 0 ≤ i → i < 7 → bd (A i) X) (bB : ∀ i : Int, 0 ≤ i → i < 7 → bd (B i) Y) (Y1 : 1 ≤ Y) (lim : nbd X Y (dA - bD + 1) ≤ LIM) (hB : ∀ i : Nat, i ≤ 6 → BV m0 (73 + 2 * (7 * (L - 1) + i)) (B i)) (hK : ∀ m' : rz_M, frP (7 * L) m0 m' → (∀ i : Nat, i ≤ 6 → BV m' (73 + 2 * (7 * L + i)) (lowN A B dA bD (dA - bD + 1) i)) → rz_E y_SC_putRest 99 [rR 64, rX 0, rI ((7 * L : Nat) : Int), rX 0, rI bD, rI (-1), rI 0] [] m' K) : ∀ (r t : Nat) (m : rz_M), dA - bD + 1 - t = r → t ≤ dA - bD + 1 → frP (7 * L) m0 m → (∀ i : Nat, i ≤ 6 → BV m (73 + 2 * (7 * L + i)) (lowN A B dA bD t i)) → rz_E y_SC_putRest 70 [rR 64, rX 0, rI ((7 * L : Nat) : Int), rI ((7 * (L - 1) : Nat) : Int), rI bD, rI ((dA : Int) - t), rX 0] [] m K := by
  have X0 := bd_nn (bA 0 (by decide) (by decide))
  intro r
  induction r with
  | zero =>
    intro t m hr ht hf hv
    have e : t = dA - bD + 1 := by omega
    subst e
    exact T_SC_putRest_70 _ _ _ _ _ _ (bt (by omega) (hK m hf hv))
  | succ r ih =>
    intro t m hr ht hf hv
    refine T_SC_putRest_70 _ _ _ _ _ _ (bf (by omega) ?_)
    have ej : (dA : Int) - t = ((dA - t : Nat) : Int) := by omega
    have mono := (nbd_mono X0 Y1 (t := t + 1) (dA - bD + 1 - (t + 1))).2
    rw [show t + 1 + (dA - bD + 1 - (t + 1)) = dA - bD + 1 from by omega] at mono
    have lb := lowN_bd (A := A) (B := B) (dA := dA) (bD := bD) hd.2 hA bA bB (by omega) t (by omega)
    have lz := lowN_z (A := A) (B := B) (dA := dA) (bD := bD) hA t (by omega)
    have lf := lowF_bd (last := B bD) (top := lowN A B dA bD t ((dA - t : Nat) : Int)) (here := lowN A B dA bD t) (dv := B) (j := ((dA - t : Nat) : Int)) (bD := (bD : Int)) (X := nbd X Y t) (Y := Y) (bB bD (by omega) (by omega)) (lb _ (by omega) (by omega)) lb bB (fun i a b => lz i (by omega) b) ⟨by omega, by omega⟩
    have en : nbd X Y t * (2 * Y) = nbd X Y (t + 1) := rfl
    rw [en] at lf
    rw [ej, w32_id (by omega) (by omega)]
    refine c_SC_lower (t := 7 * L) (p := 7 * (L - 1)) (j := dA - t) (bD := bD) (h := lowN A B dA bD t) (B := B) (by omega) (by omega) (by omega) (by omega) (fun i hi => BV_fr (hB i hi) (hf _ (by omega)) (hf _ (by omega))) hv B0 (fun i hi => ?_) (fun m' f' v' => ?_)
    · obtain ⟨_, h2⟩ := lf i (by omega) (by omega)
      obtain ⟨h3, h4⟩ := h2 (by omega)
      refine ⟨bd_le h3 (by omega), fun a => ?_⟩
      have := (h4 (by omega)).1
      rw [show (i : Int) - (((dA - t : Nat) : Int) - bD) = ((i - (dA - t - bD) : Nat) : Int) from by omega] at this
      exact bd_le this (by omega)
    · rw [show ((dA - t : Nat) : Int) + -1 = (dA : Int) - ((t + 1 : Nat) : Int) from by omega]
      refine ih (t + 1) m' (by omega) (by omega) (fun x hx => by rw [f' x hx]; exact hf x hx) (fun i hi => ?_)
      have := v' i hi
      show BV m' _ (lowF (B bD) (lowN A B dA bD t ((dA : Int) - t)) (lowN A B dA bD t) B ((dA : Int) - t) bD i)
      rw [ej]
      exact this
theorem l_SC_pr23 (hL : 2 ≤ L ∧ L ≤ 6) (hA : ∀ i : Nat, i ≤ 6 → BV m0 (73 + 2 * (7 * (L - 2) + i)) (A i)) (e66 : m0 66 ((L - 2 : Nat) : Int) = dA) (hK : ∀ m' : rz_M, frP (7 * L) m0 m' → (∀ i : Nat, i ≤ 6 → BV m' (73 + 2 * (7 * L + i)) (A i)) → rz_E y_SC_putRest 70 [rR 64, rX 0, rI ((7 * L : Nat) : Int), rI ((7 * (L - 1) : Nat) : Int), rI bD, rI dA, rX 0] [] m' K) : ∀ (r k : Nat) (m : rz_M), 7 - k = r → k ≤ 7 → frP (7 * L) m0 m → (∀ i : Nat, i < k → BV m (73 + 2 * (7 * L + i)) (A i)) → rz_E y_SC_putRest 23 [rR 64, rI L, rI ((7 * L : Nat) : Int), rI ((7 * (L - 1) : Nat) : Int), rI bD, rI k, rX 0] [] m K := by
  intro r
  induction r with
  | zero =>
    intro k m hr hk hf hv
    refine T_SC_putRest_23 _ _ _ _ _ _ _ (bt (by omega) ?_)
    rw [w32_id (z := (L : Int) - 2) (by omega) (by omega), show (L : Int) - 2 = ((L - 2 : Nat) : Int) from by omega, hf 66 (by omega), e66]
    exact ⟨⟨by omega, by omega⟩, hK m hf (fun i hi => hv i (by omega))⟩
  | succ r ih =>
    intro k m hr hk hf hv
    refine T_SC_putRest_23 _ _ _ _ _ _ _ (bf (by omega) ?_)
    rw [w32_id (z := ((7 * L : Nat) : Int) + k) (by omega) (by omega), show ((7 * L : Nat) : Int) + (k : Int) = ((7 * L + k : Nat) : Int) from by omega, sc_R (7 * L + k) (by omega), w32_id (z := ((7 * (L - 1) : Nat) : Int) - 7) (by omega) (by omega), w32_id (z := ((7 * (L - 1) : Nat) : Int) - 7 + k) (by omega) (by omega), show ((7 * (L - 1) : Nat) : Int) - 7 + (k : Int) = ((7 * (L - 2) + k : Nat) : Int) from by omega, sc_R (7 * (L - 2) + k) (by omega), w32_id (z := (k : Int) + 1) (by omega) (by omega)]
    refine ⟨⟨by omega, by omega⟩, ⟨by omega, by omega⟩, (sc_bk (by omega)).1, b_take (a := 73 + 2 * (7 * (L - 2) + k)) (sc_bk (by omega)) (sc_bk (by omega)) (by omega) (BV_fr (hA k (by omega)) (hf _ (by omega)) (hf _ (by omega))) (fun m' w' b' => ih (k + 1) m' (by omega) (by omega) (fun x hx => by rw [w' x (by omega) (by omega)]; exact hf x hx) (fun i hi => ?_))⟩
    by_cases q : i = k
    · subst q; exact b'
    · exact BV_kp (hv i (by omega)) w' (by omega) (by omega) (by omega)
theorem c_SC_putRest (hL : 2 ≤ L ∧ L ≤ 6) (hd : bD < dA ∧ dA ≤ 6) (B0 : B bD ≠ 0) (hA : ∀ i : Int, (dA : Int) < i → i < 7 → A i = 0) {X Y : Int} (bA : ∀ i : Int, 0 ≤ i → i < 7 → bd (A i) X) (bB : ∀ i : Int, 0 ≤ i → i < 7 → bd (B i) Y) (Y1 : 1 ≤ Y) (lim : nbd X Y (dA - bD + 1) ≤ LIM) (vA : ∀ i : Nat, i ≤ 6 → BV m0 (73 + 2 * (7 * (L - 2) + i)) (A i)) (vB : ∀ i : Nat, i ≤ 6 → BV m0 (73 + 2 * (7 * (L - 1) + i)) (B i)) (eA : m0 66 ((L - 2 : Nat) : Int) = dA) (eB : m0 66 ((L - 1 : Nat) : Int) = bD) {d : Nat} (hd1 : d < bD) (hd2 : nxR A B dA bD d ≠ 0) (hd3 : ∀ j : Int, (d : Int) < j → j < 7 → nxR A B dA bD j = 0) (hK : ∀ m' : rz_M, frP (7 * L) m0 m' → (∀ i : Nat, i ≤ 6 → BV m' (73 + 2 * (7 * L + i)) (nxR A B dA bD i)) → K d m') : rz_C y_SC_putRest [rR 64, rI L] m0 K := by
  refine T_SC_putRest_0 _ _ _ ?_
  rw [w32_id (z := (L : Int) - 1) (by omega) (by omega), w32_id (z := (L : Int) * 7) (by omega) (by omega), show (L : Int) * 7 = ((7 * L : Nat) : Int) from by omega, w32_id (z := ((7 * L : Nat) : Int) - 7) (by omega) (by omega), show ((7 * L : Nat) : Int) - 7 = ((7 * (L - 1) : Nat) : Int) from by omega, show (L : Int) - 1 = ((L - 1 : Nat) : Int) from by omega, eB]
  refine ⟨⟨by omega, by omega⟩, l_SC_pr23 hL vA eA (fun m1 f1 v1 => ?_) 7 0 m0 (by omega) (Nat.zero_le _) (fun _ _ => rfl) (fun i hi => by omega)⟩
  have vB1 : ∀ i : Nat, i ≤ 6 → BV m1 (73 + 2 * (7 * (L - 1) + i)) (B i) := fun i hi => BV_fr (vB i hi) (f1 _ (by omega)) (f1 _ (by omega))
  have go := l_SC_pr70 (m0 := m1) (K := K) hL hd B0 hA bA bB Y1 lim vB1 (fun m2 f2 v2 => ?_) (dA - bD + 1) 0 m1 (by omega) (Nat.zero_le _) (fun _ _ => rfl) v1
  · rw [show (dA : Int) - ((0 : Nat) : Int) = dA from by omega] at go
    exact go
  · refine l_SC_pr99 (m0 := m2) hL (by omega) (w := lowN A B dA bD (dA - bD + 1)) (fun m3 f3 v3 => ?_) bD 0 m2 rfl (Nat.zero_le _) (fun _ _ => rfl) (fun i hi => by rw [if_neg (by omega)]; exact v2 i hi)
    have e : dgk (fun i => -(lowN A B dA bD (dA - bD + 1) i)) bD = d := by
      have e1 : dgk (fun i => -(lowN A B dA bD (dA - bD + 1) i)) bD = dgk (nxR A B dA bD) bD := dgk_congr (fun k a b => by
        unfold nxR
        rw [if_pos b])
      rw [e1]
      exact dgk_is hd1 hd2 (fun j a b => hd3 j a (by omega))
    rw [e]
    refine hK m3 (fun x hx => by rw [f3 x hx, f2 x hx, f1 x hx]) (fun i hi => ?_)
    have := v3 i hi
    have lz := lowN_z (A := A) (B := B) (dA := dA) (bD := bD) hA (dA - bD + 1) (by omega)
    have ei : (if i < bD then -(lowN A B dA bD (dA - bD + 1) i) else lowN A B dA bD (dA - bD + 1) i) = nxR A B dA bD i := by
      unfold nxR
      by_cases q : i < bD
      · rw [if_pos q, if_pos (by omega)]
      · rw [if_neg q, if_neg (by omega)]
        exact lz i (by omega) (by omega)
    rw [ei] at this
    exact this
end
/-- the derivative's row -/
def drow (c : Int → Int) : Int → Int := fun j => if j < 6 then (j + 1) * c (j + 1) else 0
section
variable {R : Type}
theorem ch_init [Lean.Grind.CommRing R] {co : R → Nat → Int} {mk : Nat → (Nat → Int) → R} (H : PolyR co mk) {c : Int → Int} {d : Nat} (hd : 1 ≤ d ∧ d ≤ 6) (h0 : c d ≠ 0) (hz : ∀ j : Int, (d : Int) < j → j < 7 → c j = 0) (hb : hB c (gbd d)) (hc : ∀ f' : R, der co f' (pR mk 7 c) → cop mk (pR mk 7 c) f') : chI co mk (fun i => if i = 0 then c else drow c) (fun i => if i = 0 then d else d - 1) 2 := by
  have gl : ∀ e : Nat, e ≤ 6 → (0 : Int) ≤ gbd e ∧ 6 * gbd e ≤ LIM := by decide +kernel
  have g := gl d hd.2
  have dder : ∀ j : Nat, co (pR mk 7 (drow c)) j = ((j : Int) + 1) * co (pR mk 7 c) (j + 1) := fun j => by
    rw [co_pR H, co_pR H]
    unfold drow
    by_cases q : j < 6
    · rw [if_pos (by omega), if_pos (by omega), if_pos (by omega)]
      rfl
    · rw [if_neg (show ¬ j + 1 < 7 by omega), Int.mul_zero]
      split
      · rw [if_neg (by omega)]
      · rfl
  have bdr : ∀ j : Int, 0 ≤ j → j < 7 → bd (drow c j) (d * gbd d) := fun j j0 j1 => by
    unfold drow
    by_cases q : j < d
    · rw [if_pos (by omega)]
      exact bd_mul (show bd (j + 1) d from ⟨by omega, by omega⟩) (hb (j + 1) (by omega) (by omega))
    · have n : 0 ≤ (d : Int) * gbd d := Int.mul_nonneg (by omega) g.1
      have z : (if j < 6 then (j + 1) * c (j + 1) else 0) = 0 := by
        by_cases w : j < 6
        · rw [if_pos w, hz (j + 1) (by omega) (by omega), Int.mul_zero]
        · rw [if_neg w]
      rw [z]
      unfold bd
      omega
  have dl : (d : Int) * gbd d ≤ 6 * gbd d := Int.mul_le_mul_of_nonneg_right (by omega) g.1
  refine ⟨Nat.le_refl _, fun i hi => ?_, dder, fun i i1 i2 => by omega, hc _ dder, ?_, gbd d, d * gbd d, hb, bdr, ?_⟩
  · by_cases q : i = 0
    · subst q
      exact ⟨by show d + 0 ≤ 6; omega, h0, hz, fun j a b => bd_le (hb j a b) (by omega)⟩
    · have e : i = 1 := by omega
      subst e
      refine ⟨by show d - 1 + 1 ≤ 6; omega, ?_, fun j a b => ?_, fun j a b => bd_le (bdr j a b) (by omega)⟩
      · show drow c ((d - 1 : Nat) : Int) ≠ 0
        unfold drow
        rw [if_pos (by omega), show ((d - 1 : Nat) : Int) + 1 = d from by omega]
        exact Int.mul_ne_zero (by omega) h0
      · have a' : ((d - 1 : Nat) : Int) < j := a
        show drow c j = 0
        unfold drow
        by_cases w : j < 6
        · rw [if_pos w, hz (j + 1) (by omega) (by omega), Int.mul_zero]
        · rw [if_neg w]
  · show d - 1 < d
    omega
  · show d - 1 = 0 ∨ fitB 6 d (gbd d) (d - 1) (d * gbd d) = true
    by_cases q : d = 1
    · exact Or.inl (by omega)
    · exact Or.inr (fit0 d (by omega) (by omega))
/-- the chain lies in the cells -/
def SB (m : rz_M) (v : Nat → Int → Int) (dd : Nat → Nat) (L : Nat) : Prop := m 64 5 = L ∧ ∀ i, i < L → m 66 i = dd i ∧ ∀ j : Nat, j ≤ 6 → BV m (73 + 2 * (7 * i + j)) (v i j)
def fr64 (m0 m : rz_M) : Prop := ∀ x : Nat, x < 64 ∨ 170 < x → m x = m0 x
theorem l_SC_b81 [Lean.Grind.CommRing R] {co : R → Nat → Int} {mk : Nat → (Nat → Int) → R} (H : PolyR co mk) {m0 : rz_M} {c : Int → Int} {K : Int → rz_M → Prop} (hK : ∀ (m' : rz_M) (v : Nat → Int → Int) (dd : Nat → Nat) (L : Nat), fr64 m0 m' → chI co mk v dd L → dd (L - 1) = 0 → v 0 = c → SB m' v dd L → K 0 m') : ∀ (r L : Nat) (v : Nat → Int → Int) (dd : Nat → Nat) (m : rz_M), 7 - L = r → fr64 m0 m → chI co mk v dd L → v 0 = c → SB m v dd L → rz_E y_SC_build 81 [rR 64, rX 0, rX 0, rX 0] [] m K := by
  intro r
  induction r with
  | zero =>
    intro L v dd m hr hf hc hv0 hs
    have h2 := hc.1
    have := (hc.2.1 (L - 1) (by omega)).1
    refine T_SC_build_81 _ _ (bt ?_ (hK m v dd L hf hc (by omega) hv0 hs))
    rw [hs.1]
    omega
  | succ r ih =>
    intro L v dd m hr hf hc hv0 hs
    have h2 := hc.1
    have eL1 : w32 ((L : Int) - 1) = ((L - 1 : Nat) : Int) := by rw [w32_id (by omega) (by omega)]; omega
    refine T_SC_build_81 _ _ ?_
    rw [hs.1, eL1, (hs.2 (L - 1) (by omega)).1]
    refine bf (by omega) ⟨⟨by omega, by omega⟩, bb (fun q => hK m v dd L hf hc (by omega) hv0 hs) (fun q => ?_)⟩
    obtain ⟨L6, d, d1, d2, d3, lb, nx, X, Y, bX, bY, Y1, lim⟩ := ch_next H hc (by omega)
    have vA := hc.2.1 (L - 2) (by omega)
    have vB := hc.2.1 (L - 1) (by omega)
    have dAB := hc.2.2.2.2.2.1
    refine c_SC_putRest (L := L) (dA := dd (L - 2)) (bD := dd (L - 1)) (A := v (L - 2)) (B := v (L - 1)) ⟨h2, L6⟩ ⟨dAB, by omega⟩ vB.2.1 vA.2.2.1 bX bY Y1 lim (hs.2 (L - 2) (by omega)).2 (hs.2 (L - 1) (by omega)).2 (hs.2 (L - 2) (by omega)).1 (hs.2 (L - 1) (by omega)).1 d1 d2 d3 (fun m1 f1 v1 => ⟨⟨by omega, by omega⟩, ?_⟩)
    have e64 : m1 64 5 = L := by rw [f1 64 (by omega)]; exact hs.1
    rw [e64, up_eq]
    refine ⟨⟨by omega, by omega⟩, bt (by omega) ?_⟩
    rw [w32_id (z := (L : Int) + 1) (by omega) (by omega)]
    refine ih (L + 1) (fun i => if i = L then nxR (v (L - 2)) (v (L - 1)) (dd (L - 2)) (dd (L - 1)) else v i) (fun i => if i = L then d else dd i) _ (by omega) (fun x hx => ?_) (nx _ _ (fun i hi => if_neg (by omega)) (if_pos rfl) (fun i hi => if_neg (by omega)) (if_pos rfl)) ?_ ⟨?_, fun i hi => ⟨?_, fun j hj => ?_⟩⟩
    · rw [up_ne (by omega), up_ne (by omega), f1 x (by omega)]
      exact hf x hx
    · show (if 0 = L then _ else v 0) = c
      rw [if_neg (by omega)]
      exact hv0
    · rw [up_eq]; omega
    · rw [up_ne (by decide)]
      by_cases q : i = L
      · subst q
        dsimp only
        rw [up_eq, if_pos rfl]
      · dsimp only
        rw [up_nj (by omega), f1 66 (by omega), if_neg q]
        exact (hs.2 i (by omega)).1
    · have fr : ∀ x : Nat, 73 ≤ x → (rz_up (rz_up m1 66 L d) 64 5 ((L : Int) + 1)) x = m1 x := fun x hx => by rw [up_ne (by omega), up_ne (by omega)]
      by_cases q : i = L
      · subst q
        dsimp only
        rw [if_pos rfl]
        exact BV_fr (v1 j hj) (fr _ (by omega)) (fr _ (by omega))
      · dsimp only
        rw [if_neg q]
        exact BV_fr ((hs.2 i (by omega)).2 j hj) (by rw [fr _ (by omega)]; exact f1 _ (by omega)) (by rw [fr _ (by omega)]; exact f1 _ (by omega))
theorem l_SC_b2 [Lean.Grind.CommRing R] {co : R → Nat → Int} {mk : Nat → (Nat → Int) → R} (H : PolyR co mk) {a : Nat} (ha : isL a 7) (hfar : a < 64 ∨ 170 < a) {m0 : rz_M} {d : Nat} (hd : 1 ≤ d ∧ d ≤ 6) (h0 : m0 a d ≠ 0) (hz : ∀ j : Int, (d : Int) < j → j < 7 → m0 a j = 0) (hb : hB (m0 a) (gbd d)) (hc : ∀ f' : R, der co f' (pR mk 7 (m0 a)) → cop mk (pR mk 7 (m0 a)) f') {K : Int → rz_M → Prop} (hK : ∀ (m' : rz_M) (v : Nat → Int → Int) (dd : Nat → Nat) (L : Nat), fr64 m0 m' → chI co mk v dd L → dd (L - 1) = 0 → v 0 = m0 a → SB m' v dd L → K 0 m') : ∀ (r k : Nat) (m : rz_M), 7 - k = r → k ≤ 7 → fr64 m0 m → (∀ j : Nat, j < k → BV m (73 + 2 * j) (m0 a j) ∧ BV m (73 + 2 * (7 + j)) (drow (m0 a) j)) → rz_E y_SC_build 2 [rR 64, rR a, rI d, rI k] [] m K := by
  have gl : ∀ e : Nat, e ≤ 6 → (0 : Int) ≤ gbd e ∧ gbd e ≤ 1000000000000 := by decide +kernel
  have g := gl d hd.2
  intro r
  induction r with
  | zero =>
    intro k m hr hk hf hv
    have e : k = 7 := by omega
    subst e
    refine T_SC_build_2 _ _ _ _ _ (bt (by omega) ⟨⟨by decide, by decide⟩, ⟨by decide, by decide⟩, ?_⟩)
    rw [w32_id (z := (d : Int) - 1) (by omega) (by omega)]
    refine l_SC_b81 H hK 5 2 _ _ _ rfl (fun x hx => ?_) (ch_init H hd h0 hz hb hc) rfl ⟨up_eq, fun i hi => ⟨?_, fun j hj => ?_⟩⟩
    · rw [up_ne (by omega), up_ne (by omega), up_ne (by omega)]
      exact hf x hx
    · rw [up_ne (by decide)]
      by_cases q : i = 0
      · subst q
        dsimp only
        rw [if_pos rfl, up_nj (by decide)]
        exact up_eq
      · have e : i = 1 := by omega
        subst e
        dsimp only
        rw [if_neg (by decide)]
        show rz_up _ 66 1 _ 66 1 = _
        rw [up_eq]
        omega
    · have fr : ∀ x : Nat, 73 ≤ x → (rz_up (rz_up (rz_up m 66 0 d) 66 1 ((d : Int) - 1)) 64 5 2) x = m x := fun x hx => by rw [up_ne (by omega), up_ne (by omega), up_ne (by omega)]
      by_cases q : i = 0
      · subst q
        dsimp only
        rw [if_pos rfl, show 7 * 0 + j = j from by omega]
        exact BV_fr (hv j (by omega)).1 (fr _ (by omega)) (fr _ (by omega))
      · have e : i = 1 := by omega
        subst e
        dsimp only
        rw [if_neg (by decide), show 7 * 1 + j = 7 + j from by omega]
        exact BV_fr (hv j (by omega)).2 (fr _ (by omega)) (fr _ (by omega))
  | succ r ih =>
    intro k m hr hk hf hv
    have ea : m a = m0 a := hf a hfar
    have ck := hb k (by omega) (by omega)
    unfold bd at ck
    have nx : ∀ m2 : rz_M, fr64 m0 m2 → (∀ j : Nat, j < k + 1 → BV m2 (73 + 2 * j) (m0 a j) ∧ BV m2 (73 + 2 * (7 + j)) (drow (m0 a) j)) → rz_E y_SC_build 54 [rR 64, rR a, rI d, rI k] [] m2 K := fun m2 f2 v2 => by
      refine T_SC_build_54 _ _ _ _ _ ?_
      rw [w32_id (z := (k : Int) + 1) (by omega) (by omega)]
      exact ih (k + 1) m2 (by omega) (by omega) f2 v2
    have ne : ∀ x : Nat, x < 64 ∨ 170 < x → x ≠ 73 + 2 * k ∧ x ≠ 73 + 2 * k + 1 ∧ x ≠ 73 + 2 * (7 + k) ∧ x ≠ 73 + 2 * (7 + k) + 1 := fun x hx => by omega
    refine T_SC_build_2 _ _ _ _ _ (bf (by omega) ⟨⟨by omega, by omega⟩, ha.1, ⟨by omega, by have := ha.2; omega⟩, ?_⟩)
    rw [sc_R k (by omega), ea, w32_id (z := 7 + (k : Int)) (by omega) (by omega), show 7 + (k : Int) = ((7 + k : Nat) : Int) from by omega, sc_R (7 + k) (by omega), w32_id (z := (k : Int) + 1) (by omega) (by omega)]
    refine ⟨(sc_bk (by omega)).1, b_put (sc_bk (by omega)) (by omega) (fun m1 w1 b1 => ⟨⟨by omega, by omega⟩, ?_⟩)⟩
    have ea1 : m1 a = m0 a := by rw [w1 a (ne a hfar).1 (ne a hfar).2.1, ea]
    have fin : ∀ (m2 : rz_M), bgw (73 + 2 * (7 + k)) m1 m2 → BV m2 (73 + 2 * (7 + k)) (drow (m0 a) k) → rz_E y_SC_build 54 [rR 64, rR a, rI d, rI k] [] m2 K := fun m2 w2 b2 => nx m2 (fun x hx => by rw [w2 x (ne x hx).2.2.1 (ne x hx).2.2.2, w1 x (ne x hx).1 (ne x hx).2.1]; exact hf x hx) (fun j hj => by
      by_cases q : j = k
      · subst q
        exact ⟨BV_kp b1 w2 (by omega) (by omega) (by omega), b2⟩
      · have h := hv j (by omega)
        exact ⟨BV_kp (BV_kp h.1 w1 (by omega) (by omega) (by omega)) w2 (by omega) (by omega) (by omega), BV_kp (BV_kp h.2 w1 (by omega) (by omega) (by omega)) w2 (by omega) (by omega) (by omega)⟩)
    refine bb (fun q => ⟨(sc_bk (by omega)).1, b_put (sc_bk (by omega)) (by decide) (fun m2 w2 b2 => fin m2 w2 ?_)⟩) (fun q => ⟨ha.1, ⟨by omega, by have := ha.2; omega⟩, (sc_bk (by omega)).1, ?_⟩)
    · have e : drow (m0 a) k = 0 := by unfold drow; rw [if_neg (by omega)]
      rw [e]
      exact b2
    · have ck1 := hb ((k : Int) + 1) (by omega) (by omega)
      have cm := bd_mul (show bd ((k : Int) + 1) 7 from ⟨by omega, by omega⟩) ck1
      have e : drow (m0 a) k = ((k : Int) + 1) * m0 a ((k : Int) + 1) := by unfold drow; rw [if_pos (by omega)]
      unfold bd at cm
      rw [ea1, w64_id (by omega) (by omega)]
      exact b_put (sc_bk (by omega)) (by omega) (fun m2 w2 b2 => fin m2 w2 (by rw [e]; exact b2))
theorem c_SC_build [Lean.Grind.CommRing R] {co : R → Nat → Int} {mk : Nat → (Nat → Int) → R} (H : PolyR co mk) {a : Nat} (ha : isL a 7) (hfar : a < 64 ∨ 170 < a) {m0 : rz_M} {d : Nat} (hd : 1 ≤ d ∧ d ≤ 6) (h0 : m0 a d ≠ 0) (hz : ∀ j : Int, (d : Int) < j → j < 7 → m0 a j = 0) (hb : hB (m0 a) (gbd d)) (hc : ∀ f' : R, der co f' (pR mk 7 (m0 a)) → cop mk (pR mk 7 (m0 a)) f') {K : Int → rz_M → Prop} (hK : ∀ (m' : rz_M) (v : Nat → Int → Int) (dd : Nat → Nat) (L : Nat), fr64 m0 m' → chI co mk v dd L → dd (L - 1) = 0 → v 0 = m0 a → SB m' v dd L → K 0 m') : rz_C y_SC_build [rR 64, rR a, rI d] m0 K :=
  T_SC_build_0 _ _ _ _ (l_SC_b2 H ha hfar hd h0 hz hb hc hK 7 0 m0 rfl (Nat.zero_le _) (fun _ _ => rfl) (fun j hj => by omega))
end
