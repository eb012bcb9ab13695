/-! SignChain: changes of sign at a place and far out -/
/-- Horner, exact -/
def hx (f : Int → Int) (x : Int) : Nat → Int → Int
  | 0, v => v
  | n + 1, v => hx f x n (v * x + f n)
theorem hx_z {f : Int → Int} {x : Int} {d : Nat} (hz : ∀ j : Int, (d : Int) < j → j < 7 → f j = 0) : ∀ r : Nat, d + 1 + r ≤ 7 → hx f x (d + 1 + r) 0 = hx f x (d + 1) 0
  | 0, _ => rfl
  | r + 1, h => by
    show hx f x (d + 1 + r) (0 * x + f ((d + 1 + r : Nat) : Int)) = _
    rw [hz _ (by omega) (by omega), Int.zero_mul, Int.add_zero]
    exact hx_z hz r (by omega)
theorem hx_ev (f : Int → Int) (x : Int) : hx f x 7 0 = ev7 f x := by
  show ((((((0 * x + f 6) * x + f 5) * x + f 4) * x + f 3) * x + f 2) * x + f 1) * x + f 0 = _
  unfold ev7
  grind
theorem ev_hh (f : Int → Int) (x : Int) : hh 6 (fun k => if k < 7 then f k else 0) x 1 = ev7 f x := by
  show f 0 * 1 ^ 6 + x * (f 1 * 1 ^ 5 + x * (f 2 * 1 ^ 4 + x * (f 3 * 1 ^ 3 + x * (f 4 * 1 ^ 2 + x * (f 5 * 1 ^ 1 + x * f 6))))) = _
  unfold ev7
  simp only [Int.one_pow, Int.mul_one]
theorem co_ev {R : Type} [Lean.Grind.CommRing R] {co : R → Nat → Int} {mk : Nat → (Nat → Int) → R} (H : PolyR co mk) (f : Int → Int) (x : Int) : hh 6 (co (pR mk 7 f)) x 1 = ev7 f x := by
  rw [← ev_hh]
  exact hh_congr 6 x 1 (fun j _ => co_pR H 7 f j)
theorem hx_bd {f : Int → Int} {x : Int} (hf : ∀ j : Int, 0 ≤ j → j < 7 → bd (f j) LIM) (hx' : bd x 1000) {n k : Nat} {v : Int} (hn : n < 7) (hv : bd v (LIM * 1001 ^ k)) : bd (v * x) (1000 * (LIM * 1001 ^ k)) ∧ bd (v * x + f n) (LIM * 1001 ^ (k + 1)) := by
  have l0 := LIM_pos
  have b1 := bd_mul hx' hv
  rw [Int.mul_comm x] at b1
  refine ⟨b1, bd_le (bd_add b1 (hf n (by omega) (by omega))) ?_⟩
  have p : (1 : Int) ≤ 1001 ^ k := by
    have : (0 : Int) < 1001 ^ k := Int.pow_pos (by decide)
    omega
  have : LIM * 1 ≤ LIM * 1001 ^ k := Int.mul_le_mul_of_nonneg_left p (by omega)
  rw [Int.pow_succ]
  have e : LIM * (1001 ^ k * 1001) = 1001 * (LIM * 1001 ^ k) := by grind
  omega
theorem lim_k : ∀ k : Nat, k < 9 → 2000 * (LIM * 1001 ^ k) ≤ LIM * 1001 ^ 9 * 2 := by decide +kernel
theorem lim_9 : LIM * 1001 ^ 9 * 2 < pw 40 := by decide +kernel
def fr67 (m0 m : rz_M) : Prop := ∀ x : Nat, x < 67 ∨ 68 < x → m x = m0 x
section
variable {v : Nat → Int → Int} {dd : Nat → Nat} {L : Nat} {m0 : rz_M} {K : Int → rz_M → Prop} {x : Int}
theorem l_SC_s15 (hL : L ≤ 7) (hs : SB m0 v dd L) {i : Nat} (hi : i < L) (hv : ∀ j : Int, 0 ≤ j → j < 7 → bd (v i j) LIM) (hx' : bd x 1000) : ∀ (n k : Nat) (w : Int) (m : rz_M), n + k ≤ 7 → fr67 m0 m → BV m 67 w → bd w (LIM * 1001 ^ k) → (∀ m' : rz_M, fr67 m0 m' → K (hx (v i) x n w).sign m') → rz_E y_SC_signAt 15 [rR 64, rI i, rI x, rI ((n : Int) - 1)] [] m K
  | 0, k, w, m, hn, hf, bw, hb, hK => by
    refine T_SC_signAt_15 _ _ _ _ _ (bt (by omega) (c_Big_sign (sc_bg 0 rfl (by decide)) ?_))
    rw [BV_sg bw]
    exact hK m hf
  | n + 1, k, w, m, hn, hf, bw, hb, hK => by
    have g67 : bgO 67 := sc_bg 0 rfl (by decide)
    obtain ⟨h1, h2⟩ := hx_bd hv hx' (n := n) (by omega) hb
    have lk := lim_k k (by omega)
    have l9 := lim_9
    have l0 := LIM_pos
    have hvn := hv n (by omega) (by omega)
    have p1 : LIM * 1 ≤ LIM * 1001 ^ k := Int.mul_le_mul_of_nonneg_left (by have : (0 : Int) < 1001 ^ k := Int.pow_pos (by decide); omega) (by omega)
    rw [bd_n] at h1 hvn hb
    unfold bd at hx'
    have n1 : ((w * x).natAbs : Int) = (w.natAbs : Int) * (x.natAbs : Int) := by rw [Int.natAbs_mul, Int.natCast_mul]
    refine T_SC_signAt_15 _ _ _ _ _ (bf (by omega) (b_scale g67 g67 bw (by omega) (by rw [← n1]; omega) (fun m1 w1 b1 => ?_)))
    rw [show ((n + 1 : Nat) : Int) - 1 = n from by omega, w32_id (z := (i : Int) * 7) (by omega) (by omega), w32_id (z := (i : Int) * 7 + n) (by omega) (by omega), show (i : Int) * 7 + (n : Int) = ((7 * i + n : Nat) : Int) from by omega, sc_R (7 * i + n) (by omega), w32_id (z := (n : Int) + -1) (by omega) (by omega)]
    have f1 : fr67 m0 m1 := fun y hy => by rw [w1 y (by omega) (by omega)]; exact hf y hy
    refine ⟨⟨by omega, by omega⟩, b_add g67 (sc_bk (by omega)) g67 b1 (BV_fr ((hs.2 i hi).2 n (by omega)) (f1 _ (by omega)) (f1 _ (by omega))) (Or.inl rfl) (by omega) (fun m2 w2 b2 => ?_)⟩
    have e : w * x + 1 * v i n = w * x + v i n := by omega
    rw [e] at b2
    exact l_SC_s15 hL hs hi hv hx' n (k + 1) (w * x + v i n) m2 (by omega) (fun y hy => by rw [w2 y (by omega) (by omega)]; exact f1 y hy) b2 h2 hK
theorem c_SC_signAt (hL : L ≤ 7) (hs : SB m0 v dd L) {i : Nat} (hi : i < L) (hv : ∀ j : Int, 0 ≤ j → j < 7 → bd (v i j) LIM) (hd : dd i ≤ 6) (hz : ∀ j : Int, (dd i : Int) < j → j < 7 → v i j = 0) (hx' : bd x 1000) (hK : ∀ m' : rz_M, fr67 m0 m' → K (ev7 (v i) x).sign m') : rz_C y_SC_signAt [rR 64, rI i, rI x] m0 K := by
  have g67 : bgO 67 := sc_bg 0 rfl (by decide)
  refine T_SC_signAt_0 _ _ _ _ (b_put g67 (by decide) (fun m1 w1 b1 => ⟨⟨by omega, by omega⟩, ?_⟩))
  rw [w1 66 (by decide) (by decide), (hs.2 i hi).1]
  have l0 := LIM_pos
  have e : hx (v i) x (dd i + 1) 0 = ev7 (v i) x := by
    rw [← hx_ev]
    have := hx_z (x := x) hz (6 - dd i) (by omega)
    rw [show dd i + 1 + (6 - dd i) = 7 from by omega] at this
    exact this.symm
  have go := l_SC_s15 (K := K) hL hs hi hv hx' (dd i + 1) 0 0 m1 (by omega) (fun y hy => w1 y (by omega) (by omega)) b1 (by rw [Int.pow_zero, Int.mul_one]; unfold bd; omega) (fun m' hf => by rw [e]; exact hK m' hf)
  rw [show ((dd i + 1 : Nat) : Int) - 1 = dd i from by omega] at go
  exact go
theorem l_SC_v7 (hL : L ≤ 7) (hs : SB m0 v dd L) (hv : ∀ i, i < L → dd i ≤ 6 ∧ (∀ j : Int, (dd i : Int) < j → j < 7 → v i j = 0) ∧ ∀ j : Int, 0 ≤ j → j < 7 → bd (v i j) LIM) (hx' : bd x 1000) : ∀ (n i : Nat) (t b : Int) (m : rz_M), i + n = L → (0 ≤ t ∧ t ≤ i) → (b = 0 ∨ b = 1 ∨ b = -1) → fr67 m0 m → (∀ m' : rz_M, fr67 m0 m' → K (t + vI (fun j => (ev7 (v j) x).sign) n i b) m') → rz_E y_SC_variationsAt 7 [rR 64, rI x, rI t, rI b, rI i, rX 0] [] m K
  | 0, i, t, b, m, hi, ht, hb, hf, hK => by
    refine T_SC_variationsAt_7 _ _ _ _ _ _ (bt ?_ ?_)
    · rw [hf 64 (by omega), hs.1]; omega
    · have := hK m hf
      have e : t + vI (fun j => (ev7 (v j) x).sign) 0 i b = t := by show t + 0 = t; omega
      rwa [e] at this
  | n + 1, i, t, b, m, hi, ht, hb, hf, hK => by
    have hvi := hv i (by omega)
    have hs' : SB m v dd L := ⟨by rw [hf 64 (by omega)]; exact hs.1, fun k hk => ⟨by rw [hf 66 (by omega)]; exact (hs.2 k hk).1, fun j hj => BV_fr ((hs.2 k hk).2 j hj) (hf _ (by omega)) (hf _ (by omega))⟩⟩
    refine T_SC_variationsAt_7 _ _ _ _ _ _ (bf (by rw [hf 64 (by omega), hs.1]; omega) (c_SC_signAt (m0 := m) hL hs' (by omega) hvi.2.2 hvi.1 hvi.2.1 hx' (fun m1 f1 => ?_)))
    have nf : fr67 m0 m1 := fun y hy => by rw [f1 y hy]; exact hf y hy
    have s3 := sgn3 (ev7 (v i) x)
    rw [w32_id (z := (i : Int) + 1) (by omega) (by omega), w32_id (z := -b) (by omega) (by omega), w32_id (z := t + 0) (by omega) (by omega), w32_id (z := t + 1) (by omega) (by omega)]
    refine bb (fun z => ?_) (fun z => ?_)
    · exact l_SC_v7 hL hs hv hx' n (i + 1) t b m1 (by omega) (by omega) hb nf (fun m' f' => by
        have := hK m' f'
        rw [vI_z (by exact z)] at this
        exact this)
    · refine bb (fun z2 => ?_) (fun z2 => ?_)
      · exact l_SC_v7 hL hs hv hx' n (i + 1) (t + 0) _ m1 (by omega) (by omega) (by omega) nf (fun m' f' => by
          have := hK m' f'
          rw [vI_n (by exact z)] at this
          have e : (if (ev7 (v i) x).sign = -b then (1 : Int) else 0) = 0 := if_neg z2
          rw [show t + 0 + vI (fun j => (ev7 (v j) x).sign) n (i + 1) (ev7 (v i) x).sign = t + ((if (ev7 (v i) x).sign = -b then (1 : Int) else 0) + vI (fun j => (ev7 (v j) x).sign) n (i + 1) (ev7 (v i) x).sign) from by rw [e]; omega]
          exact this)
      · exact l_SC_v7 hL hs hv hx' n (i + 1) (t + 1) _ m1 (by omega) (by omega) (by omega) nf (fun m' f' => by
          have := hK m' f'
          rw [vI_n (by exact z)] at this
          have e : (if (ev7 (v i) x).sign = -b then (1 : Int) else 0) = 1 := if_pos (Classical.not_not.mp z2)
          rw [show t + 1 + vI (fun j => (ev7 (v j) x).sign) n (i + 1) (ev7 (v i) x).sign = t + ((if (ev7 (v i) x).sign = -b then (1 : Int) else 0) + vI (fun j => (ev7 (v j) x).sign) n (i + 1) (ev7 (v i) x).sign) from by rw [e]; omega]
          exact this)
theorem c_SC_varAt (hL : L ≤ 7) (hs : SB m0 v dd L) (hv : ∀ i, i < L → dd i ≤ 6 ∧ (∀ j : Int, (dd i : Int) < j → j < 7 → v i j = 0) ∧ ∀ j : Int, 0 ≤ j → j < 7 → bd (v i j) LIM) (hx' : bd x 1000) (hK : ∀ m' : rz_M, fr67 m0 m' → K (vI (fun j => (ev7 (v j) x).sign) L 0 0) m') : rz_C y_SC_variationsAt [rR 64, rI x] m0 K :=
  T_SC_variationsAt_0 _ _ _ (l_SC_v7 hL hs hv hx' L 0 0 0 m0 (by omega) ⟨Int.le_refl _, Int.le_refl _⟩ (Or.inl rfl) (fun _ _ => rfl) (fun m' f' => by rw [Int.zero_add]; exact hK m' f'))
def sfv (v : Nat → Int → Int) (dd : Nat → Nat) (below : Bool) (j : Nat) : Int := (if below = true ∧ dd j % 2 ≠ 0 then -1 else 1) * (v j (dd j)).sign
theorem l_SC_f7 (hL : L ≤ 7) (hs : SB m0 v dd L) (hv : ∀ i, i < L → dd i ≤ 6 ∧ v i (dd i) ≠ 0) {below : Bool} : ∀ (n i : Nat) (t b : Int), i + n = L → (0 ≤ t ∧ t ≤ i) → (b = 0 ∨ b = 1 ∨ b = -1) → K (t + vI (sfv v dd below) n i b) m0 → rz_E y_SC_variationsFarOut 7 [rR 64, rI (if below = true then 1 else 0), rI t, rI b, rI i, rX 0] [] m0 K
  | 0, i, t, b, hi, ht, hb, hK => by
    refine T_SC_variationsFarOut_7 _ _ _ _ _ _ (bt ?_ ?_)
    · rw [hs.1]; omega
    · have e : t + vI (sfv v dd below) 0 i b = t := by show t + 0 = t; omega
      rwa [e] at hK
  | n + 1, i, t, b, hi, ht, hb, hK => by
    have hvi := hv i (by omega)
    have hsi := hs.2 i (by omega)
    have s3 := sgn3 (v i (dd i))
    have nz : sfv v dd below i = 1 ∨ sfv v dd below i = -1 := by
      unfold sfv
      split <;> omega
    have go : ∀ r : Int, r = sfv v dd below i → rz_E y_SC_variationsFarOut 60 [rR 64, rI (if below = true then 1 else 0), rI t, rI b, rI i, rI r] [] m0 K := fun r hr => by
      refine T_SC_variationsFarOut_60 _ _ _ _ _ _ _ ?_
      have e := vI_n (σ := sfv v dd below) (m := n) (i := i) (b := b) (by omega)
      rw [e] at hK
      rw [w32_id (z := (i : Int) + 1) (by omega) (by omega), w32_id (z := -b) (by omega) (by omega), w32_id (z := t + 0) (by omega) (by omega), w32_id (z := t + 1) (by omega) (by omega), hr]
      refine bb (fun z => ?_) (fun z => bf (by omega) ?_)
      · rw [if_neg z] at hK
        refine l_SC_f7 hL hs hv n (i + 1) (t + 0) _ (by omega) (by omega) (by omega) ?_
        rw [show t + 0 + vI (sfv v dd below) n (i + 1) (sfv v dd below i) = t + (0 + vI (sfv v dd below) n (i + 1) (sfv v dd below i)) from by omega]
        exact hK
      · rw [if_pos (Classical.not_not.mp z)] at hK
        refine l_SC_f7 hL hs hv n (i + 1) (t + 1) _ (by omega) (by omega) (by omega) ?_
        rw [show t + 1 + vI (sfv v dd below) n (i + 1) (sfv v dd below i) = t + (1 + vI (sfv v dd below) n (i + 1) (sfv v dd below i)) from by omega]
        exact hK
    refine T_SC_variationsFarOut_7 _ _ _ _ _ _ (bf (by rw [hs.1]; omega) ⟨⟨by omega, by omega⟩, ?_⟩)
    rw [hsi.1, w32_id (z := (i : Int) * 7) (by omega) (by omega), w32_id (z := (i : Int) * 7 + dd i) (by omega) (by omega), show (i : Int) * 7 + (dd i : Int) = ((7 * i + dd i : Nat) : Int) from by omega, sc_R (7 * i + dd i) (by omega)]
    refine ⟨⟨by omega, by omega⟩, (sc_bk (by omega)).1, c_Big_sign (sc_bk (by omega)) ?_⟩
    rw [BV_sg (hsi.2 (dd i) hvi.1), hsi.1]
    cases hb' : below with
    | false =>
      subst hb'
      refine bt (by rw [if_neg (by decide)]) (go _ ?_)
      unfold sfv
      rw [if_neg (by simp), Int.one_mul]
    | true =>
      subst hb'
      have tm : Int.tmod ((dd i : Nat) : Int) 2 = ((dd i % 2 : Nat) : Int) := by rw [Int.tmod_eq_emod_of_nonneg (by omega)]; omega
      rw [tm]
      refine bf (by rw [if_pos rfl]; decide) ⟨⟨by omega, by omega⟩, by decide, bb (fun z => go _ ?_) (fun z => go _ ?_)⟩
      · unfold sfv
        rw [if_neg (fun w => w.2 (by omega)), Int.one_mul]
      · unfold sfv
        rw [if_pos ⟨rfl, by omega⟩, w32_id (by omega) (by omega)]
        omega
theorem c_SC_varFar (hL : L ≤ 7) (hs : SB m0 v dd L) (hv : ∀ i, i < L → dd i ≤ 6 ∧ v i (dd i) ≠ 0) (below : Bool) (hK : K (vI (sfv v dd below) L 0 0) m0) : rz_C y_SC_variationsFarOut [rR 64, rI (if below = true then 1 else 0)] m0 K :=
  T_SC_variationsFarOut_0 _ _ _ (l_SC_f7 hL hs hv (below := below) L 0 0 0 (by omega) ⟨Int.le_refl _, Int.le_refl _⟩ (Or.inl rfl) (by rw [Int.zero_add]; exact hK))
end
