/-! the reference's changes of sign -/
def frZ (m0 m : rz_M) : Prop := frQ (fun s => s = 56 ∨ s = 57 ∨ s = 58) m0 m
theorem lim_q : LIM * 1001 ^ 9 * 2 < qw 160 := by decide +kernel
section
variable {v : Nat → Int → Int} {dd : Nat → Nat} {L : Nat} {m0 : rz_M} {K : Int → rz_M → Prop} {x : Int}
theorem SM_kp {m : rz_M} (hL : L ≤ 7) (hs : SM m0 v dd L) (f : frZ m0 m) : SM m v dd L := ⟨by rw [f.1 221 (by decide) (by decide)]; exact hs.1, fun i hi => ⟨by rw [f.1 248 (by decide) (by decide)]; exact (hs.2 i hi).1, fun j hj => MV_kq ((hs.2 i hi).2 j hj) f (by omega) (by omega)⟩⟩
theorem l_M_s25 (hL : L ≤ 7) (hs : SM m0 v dd L) {i : Nat} (hi : i < L) (hv : ∀ j : Int, 0 ≤ j → j < 7 → bd (v i j) LIM) (hx' : bd x 1000) : ∀ (n k : Nat) (w : Int) (m : rz_M), n + k ≤ 7 → frZ m0 m → MV m 57 w → MV m 58 x → bd w (LIM * 1001 ^ k) → (∀ m' : rz_M, frZ m0 m' → K (hx (v i) x n w).sign m') → rz_E y_M_signAt 25 [rR 221, rI i, rX 0, rX 0, rI ((n : Int) - 1)] [] m K
  | 0, k, w, m, hn, hf, bw, b58, hb, hK => by
    refine T_M_signAt_25 _ _ _ _ (bt (by omega) ⟨⟨by decide, by decide⟩, ?_⟩)
    have := bw.2.1
    rw [show ((57 : Nat) : Int) = 57 from rfl] at this
    rw [this]
    exact hK m hf
  | n + 1, k, w, m, hn, hf, bw, b58, hb, hK => by
    obtain ⟨h1, h2⟩ := hx_bd hv hx' (n := n) (by omega) hb
    have lk := lim_k k (by omega)
    have l9 := lim_q
    have l0 := LIM_pos
    have hvn := hv n (by omega) (by omega)
    have p1 : LIM * 1 ≤ LIM * 1001 ^ k := Int.mul_le_mul_of_nonneg_left (by have : (0 : Int) < 1001 ^ k := Int.pow_pos (by decide); omega) (by omega)
    rw [bd_n] at h1 hvn hb
    have n1 : ((w * x).natAbs : Int) = (w.natAbs : Int) * (x.natAbs : Int) := by rw [Int.natAbs_mul, Int.natCast_mul]
    refine T_M_signAt_25 _ _ _ _ (bf (by omega) (c_M_timesBig (a := 57) (b := 58) (t := 56) (by decide) (by decide) (by decide) (by decide) (by decide) bw b58 (by rw [← n1]; omega) (fun m1 f1 b1 => c_M_copyBig (a := 56) (b := 57) (by decide) (by decide) (by decide) b1 (Or.inl rfl) (fun m2 f2 b2 => ?_))))
    rw [if_pos rfl] at b2
    have hf2 : frZ m0 m2 := frQ_st (Or.inr (Or.inl rfl)) (frQ_st (Or.inl rfl) hf f1) f2
    rw [show ((n + 1 : Nat) : Int) - 1 = n from by omega, w32_id (z := 7 * (i : Int)) (by omega) (by omega), w32_id (z := 7 * (i : Int) + n) (by omega) (by omega), show 7 * (i : Int) + (n : Int) = ((7 * i + n : Nat) : Int) from by omega, w32_id (z := (n : Int) + -1) (by omega) (by omega)]
    refine c_M_plusBig (a := 57) (b := 7 * i + n) (by decide) (by omega) (by omega) b2 (MV_kq ((hs.2 i hi).2 n (by omega)) hf2 (by omega) (by omega)) (by omega) (fun m3 f3 b3 => ?_)
    exact l_M_s25 hL hs hi hv hx' n (k + 1) (w * x + v i n) m3 (by omega) (frQ_st (Or.inr (Or.inl rfl)) hf2 f3) b3 (MV_kp (MV_kp (MV_kp b58 f1 (by decide)) f2 (by decide)) f3 (by decide)) h2 hK
theorem c_M_signAt (hL : L ≤ 7) (hs : SM m0 v dd L) {i : Nat} (hi : i < L) (hv : ∀ j : Int, 0 ≤ j → j < 7 → bd (v i j) LIM) (hd : dd i ≤ 6) (hz : ∀ j : Int, (dd i : Int) < j → j < 7 → v i j = 0) (hx' : bd x 1000) (hK : ∀ m' : rz_M, frZ m0 m' → K (ev7 (v i) x).sign m') : rz_C y_M_signAt [rR 221, rI i, rI x] m0 K := by
  have bx := hx'
  unfold bd at bx
  refine T_M_signAt_0 _ _ _ _ ⟨⟨by omega, by omega⟩, c_M_setBig (s := 57) (by decide) (by decide) (fun m1 f1 b1 => c_M_setBig (s := 58) (by decide) (by omega) (fun m2 f2 b2 => ?_))⟩
  have hf2 : frZ m0 m2 := frQ_st (Or.inr (Or.inr rfl)) (frQ_st (Or.inr (Or.inl rfl)) (frQ_rf _ m0) f1) f2
  rw [(hs.2 i hi).1]
  have l0 := LIM_pos
  have e : hx (v i) x (dd i + 1) 0 = ev7 (v i) x := by
    rw [← hx_ev]
    have := hx_z (x := x) hz (6 - dd i) (by omega)
    rw [show dd i + 1 + (6 - dd i) = 7 from by omega] at this
    exact this.symm
  have go := l_M_s25 (K := K) hL hs hi hv hx' (dd i + 1) 0 0 m2 (by omega) hf2 (MV_kp b1 f2 (by decide)) b2 (by rw [Int.pow_zero, Int.mul_one]; unfold bd; omega) (fun m' hf => by rw [e]; exact hK m' hf)
  rw [show ((dd i + 1 : Nat) : Int) - 1 = dd i from by omega] at go
  exact go
theorem l_M_c7 (hL : L ≤ 7) (hs : SM m0 v dd L) (hv : ∀ i, i < L → dd i ≤ 6 ∧ (∀ j : Int, (dd i : Int) < j → j < 7 → v i j = 0) ∧ ∀ j : Int, 0 ≤ j → j < 7 → bd (v i j) LIM) (hx' : bd x 1000) : ∀ (n i : Nat) (t b : Int) (m : rz_M), i + n = L → (0 ≤ t ∧ t ≤ i) → (b = 0 ∨ b = 1 ∨ b = -1) → frZ m0 m → (∀ m' : rz_M, frZ m0 m' → K (t + vI (fun j => (ev7 (v j) x).sign) n i b) m') → rz_E y_M_changesAt 7 [rR 221, rI x, rI t, rI b, rI i, rX 0] [] m K
  | 0, i, t, b, m, hi, ht, hb, hf, hK => by
    refine T_M_changesAt_7 _ _ _ _ _ _ (bt ?_ ?_)
    · rw [hf.1 221 (by decide) (by decide), hs.1]; omega
    · have := hK m hf
      have e : t + vI (fun j => (ev7 (v j) x).sign) 0 i b = t := by show t + 0 = t; omega
      rwa [e] at this
  | n + 1, i, t, b, m, hi, ht, hb, hf, hK => by
    have hvi := hv i (by omega)
    have hs' := SM_kp hL hs hf
    refine T_M_changesAt_7 _ _ _ _ _ _ (bf (by rw [hs'.1]; omega) (c_M_signAt (m0 := m) hL hs' (by omega) hvi.2.2 hvi.1 hvi.2.1 hx' (fun m1 f1 => ?_)))
    have nf : frZ m0 m1 := frQ_tr hf f1
    have s3 := sgn3 (ev7 (v i) x)
    have nx : ∀ s0 : Int, (s0 = if (ev7 (v i) x).sign ≠ 0 ∧ (ev7 (v i) x).sign = -b then 1 else 0) → rz_E y_M_changesAt 46 [rR 221, rI x, rX 0, rI b, rI i, rI (ev7 (v i) x).sign] [rI s0, rI t] m1 K := fun s0 h0 => by
      have s01 : 0 ≤ s0 ∧ s0 ≤ 1 := by rw [h0]; split <;> omega
      refine T_M_changesAt_46 _ _ _ _ _ _ _ _ ?_
      rw [w32_id (z := (i : Int) + 1) (by omega) (by omega), w32_id (z := t + s0) (by omega) (by omega)]
      refine bb (fun z => ?_) (fun z => ?_)
      · refine l_M_c7 hL hs hv hx' n (i + 1) (t + s0) b m1 (by omega) (by omega) hb nf (fun m' f' => ?_)
        have := hK m' f'
        rw [vI_z (by exact z)] at this
        rw [h0, if_neg (fun w => w.1 z), Int.add_zero]
        exact this
      · refine l_M_c7 hL hs hv hx' n (i + 1) (t + s0) _ m1 (by omega) (by omega) (by omega) nf (fun m' f' => ?_)
        have := hK m' f'
        rw [vI_n (by exact z)] at this
        have e : s0 = if (ev7 (v i) x).sign = -b then (1 : Int) else 0 := by
          rw [h0]
          by_cases w : (ev7 (v i) x).sign = -b
          · rw [if_pos ⟨z, w⟩, if_pos w]
          · rw [if_neg (fun u => w u.2), if_neg w]
        rw [show t + s0 + vI (fun j => (ev7 (v j) x).sign) n (i + 1) (ev7 (v i) x).sign = t + ((if (ev7 (v i) x).sign = -b then (1 : Int) else 0) + vI (fun j => (ev7 (v j) x).sign) n (i + 1) (ev7 (v i) x).sign) from by rw [← e]; omega]
        exact this
    refine bb (fun z => nx 0 (by rw [if_neg (fun w => w.1 z)])) (fun z => bb (fun zb => nx 0 (by rw [if_neg (by omega)])) (fun zb => bb (fun w => nx 0 (by rw [if_neg (by omega)])) (fun w => nx 1 (by rw [if_pos (by omega)]))))
theorem c_M_changesAt (hL : L ≤ 7) (hs : SM m0 v dd L) (hv : ∀ i, i < L → dd i ≤ 6 ∧ (∀ j : Int, (dd i : Int) < j → j < 7 → v i j = 0) ∧ ∀ j : Int, 0 ≤ j → j < 7 → bd (v i j) LIM) (hx' : bd x 1000) (hK : ∀ m' : rz_M, frZ m0 m' → K (vI (fun j => (ev7 (v j) x).sign) L 0 0) m') : rz_C y_M_changesAt [rR 221, rI x] m0 K :=
  T_M_changesAt_0 _ _ _ (l_M_c7 hL hs hv hx' L 0 0 0 m0 (by omega) ⟨Int.le_refl _, Int.le_refl _⟩ (Or.inl rfl) (frQ_rf _ _) (fun m' f' => by rw [Int.zero_add]; exact hK m' f'))
theorem l_M_f7 (hL : L ≤ 7) (hs : SM m0 v dd L) (hv : ∀ i, i < L → dd i ≤ 6 ∧ v i (dd i) ≠ 0) {below : Bool} : ∀ (n i : Nat) (t b : Int), i + n = L → (0 ≤ t ∧ t ≤ i) → (b = 0 ∨ b = 1 ∨ b = -1) → K (t + vI (sfv v dd below) n i b) m0 → rz_E y_M_changesFar 7 [rR 221, rI (if below = true then 1 else 0), rI t, rI b, rI i, rX 0] [] m0 K
  | 0, i, t, b, hi, ht, hb, hK => by
    refine T_M_changesFar_7 _ _ _ _ _ _ (bt ?_ ?_)
    · rw [hs.1]; omega
    · have e : t + vI (sfv v dd below) 0 i b = t := by show t + 0 = t; omega
      rwa [e] at hK
  | n + 1, i, t, b, hi, ht, hb, hK => by
    have hvi := hv i (by omega)
    have hsi := hs.2 i (by omega)
    have s3 := sgn3 (v i (dd i))
    have nz : sfv v dd below i = 1 ∨ sfv v dd below i = -1 := by
      unfold sfv
      split <;> omega
    have go : ∀ r : Int, r = sfv v dd below i → rz_E y_M_changesFar 61 [rR 221, rI (if below = true then 1 else 0), rI t, rI b, rI i, rX 0] [rI r] m0 K := fun r hr => by
      refine T_M_changesFar_61 _ _ _ _ _ _ _ ?_
      have e := vI_n (σ := sfv v dd below) (m := n) (i := i) (b := b) (by omega)
      rw [e] at hK
      rw [w32_id (z := (i : Int) + 1) (by omega) (by omega), w32_id (z := t + 0) (by omega) (by omega), w32_id (z := t + 1) (by omega) (by omega), hr]
      have y0 : ¬ (sfv v dd below i = -b) → rz_E y_M_changesFar 7 [rR 221, rI (if below = true then 1 else 0), rI (t + 0), rI (sfv v dd below i), rI ((i : Int) + 1), rX 0] [] m0 K := fun z => by
        rw [if_neg z] at hK
        refine l_M_f7 hL hs hv n (i + 1) (t + 0) _ (by omega) (by omega) (by omega) ?_
        rw [show t + 0 + vI (sfv v dd below) n (i + 1) (sfv v dd below i) = t + (0 + vI (sfv v dd below) n (i + 1) (sfv v dd below i)) from by omega]
        exact hK
      refine bb (fun zb => y0 (by omega)) (fun zb => bb (fun w => y0 (by omega)) (fun w => ?_))
      rw [if_pos (by omega)] at hK
      refine l_M_f7 hL hs hv n (i + 1) (t + 1) _ (by omega) (by omega) (by omega) ?_
      rw [show t + 1 + vI (sfv v dd below) n (i + 1) (sfv v dd below i) = t + (1 + vI (sfv v dd below) n (i + 1) (sfv v dd below i)) from by omega]
      exact hK
    refine T_M_changesFar_7 _ _ _ _ _ _ (bf (by rw [hs.1]; omega) ⟨⟨by omega, by omega⟩, ?_⟩)
    rw [hsi.1, w32_id (z := 7 * (i : Int)) (by omega) (by omega), w32_id (z := 7 * (i : Int) + dd i) (by omega) (by omega), show 7 * (i : Int) + (dd i : Int) = ((7 * i + dd i : Nat) : Int) from by omega, (hsi.2 (dd i) hvi.1).2.1]
    refine ⟨⟨by omega, by omega⟩, ?_⟩
    cases hb' : below with
    | false =>
      subst hb'
      refine bt (by rw [if_neg (by decide)]) (go _ ?_)
      unfold sfv
      rw [if_neg (by simp), Int.one_mul]
    | true =>
      subst hb'
      have tm : Int.tmod ((dd i : Nat) : Int) 2 = ((dd i % 2 : Nat) : Int) := by rw [Int.tmod_eq_emod_of_nonneg (by omega)]; omega
      rw [tm]
      refine bf (by rw [if_pos rfl]; decide) ⟨⟨by omega, by omega⟩, by decide, bb (fun z => go _ ?_) (fun z => go _ ?_)⟩
      · unfold sfv
        rw [if_neg (fun w => w.2 (by omega)), Int.one_mul]
      · unfold sfv
        rw [if_pos ⟨rfl, by omega⟩, w32_id (by omega) (by omega)]
        omega
theorem c_M_changesFar (hL : L ≤ 7) (hs : SM m0 v dd L) (hv : ∀ i, i < L → dd i ≤ 6 ∧ v i (dd i) ≠ 0) (below : Bool) (hK : K (vI (sfv v dd below) L 0 0) m0) : rz_C y_M_changesFar [rR 221, rI (if below = true then 1 else 0)] m0 K :=
  T_M_changesFar_0 _ _ _ (l_M_f7 hL hs hv (below := below) L 0 0 0 (by omega) ⟨Int.le_refl _, Int.le_refl _⟩ (Or.inl rfl) (by rw [Int.zero_add]; exact hK))
end
