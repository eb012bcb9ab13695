/-! both sides alike: power, pairs -/
theorem l_M_isSmall {r : Int} (hr : 0 ≤ r ∧ r < 10) {m : rz_M} {K : Int → rz_M → Prop} {A : Prop} (h1 : A → sm (rwM m r) → K 1 m) (h0 : ¬ (A ∧ sm (rwM m r)) → K 0 m) : ∀ (d : Nat) (k b : Int), 7 - k = d → 0 ≤ k → (b = 1 ∧ A ∧ (∀ j : Int, 0 ≤ j → j < k → -100 ≤ rwM m r j ∧ rwM m r j ≤ 100) ∨ b = 0 ∧ ¬ (A ∧ sm (rwM m r))) → rz_E y_M_isSmall 18 [rR 221, rI r, rX 0, rI b, rI k] [] m K
  | 0, k, b, hd, hk, hb => by
    refine T_M_isSmall_18 _ _ _ _ _ (bt (by omega) ?_)
    rcases hb with ⟨rfl, ha, hs⟩ | ⟨rfl, hs⟩
    · exact ⟨Or.inr rfl, h1 ha (fun j x y => hs j x (by omega))⟩
    · exact ⟨Or.inl rfl, h0 hs⟩
  | d + 1, k, b, hd, hk, hb => by
    refine T_M_isSmall_18 _ _ _ _ _ (bf (by omega) ?_)
    rw [w32_id (z := 7 * r) (by omega) (by omega), w32_id (z := 7 * r + k) (by omega) (by omega), w32_id (z := k + 1) (by omega) (by omega)]
    rcases hb with ⟨rfl, ha, hs⟩ | ⟨rfl, hs⟩
    · refine b1t ⟨⟨by omega, by omega⟩, c_M_in (fun q1 q2 => b1t ?_) (fun q => b0t ?_)⟩
      · exact l_M_isSmall hr h1 h0 d (k + 1) 1 (by omega) (by omega) (Or.inl ⟨rfl, ha, fun j x y => by
          by_cases e : j = k
          · subst e; exact ⟨q1, q2⟩
          · exact hs j x (by omega)⟩)
      · exact l_M_isSmall hr h1 h0 d (k + 1) 0 (by omega) (by omega) (Or.inr ⟨rfl, fun z => q (z.2 k hk (by omega))⟩)
    · exact b0t (l_M_isSmall hr h1 h0 d (k + 1) 0 (by omega) (by omega) (Or.inr ⟨rfl, hs⟩))
theorem c_M_isSmall {r least : Int} (hr : 0 ≤ r ∧ r < 10) {m : rz_M} {K : Int → rz_M → Prop} (h1 : least ≤ dg (rwM m r) → sm (rwM m r) → K 1 m) (h0 : ¬ (least ≤ dg (rwM m r) ∧ sm (rwM m r)) → K 0 m) : rz_C y_M_isSmall [rR 221, rI r, rI least] m K :=
  T_M_isSmall_0 _ _ _ _ (c_M_degreeOf hr (bb (fun q => l_M_isSmall hr h1 h0 7 0 0 (by omega) (by omega) (Or.inr ⟨rfl, fun z => absurd z.1 (by omega)⟩)) (fun q => l_M_isSmall hr h1 h0 7 0 1 (by omega) (by omega) (Or.inl ⟨rfl, by omega, fun j x y => by omega⟩))))
theorem sm_eq {m : rz_M} (h : Inv m) {r : Int} (hr : 0 ≤ r ∧ r < 10) : sm (m (rz_R 1 r)) ↔ sm (rwM m r) := by
  have e := fun j a b => row_eq h hr (j := j) ⟨a, b⟩
  exact ⟨fun q j a b => by unfold rwM; rw [← e j a b]; exact q j a b, fun q j a b => by rw [e j a b]; exact q j a b⟩
theorem scw_pow {last : Int} (h0 : last ≠ 0) (hl : last.natAbs ≤ 100) : ∀ k : Nat, k ≤ 7 → (scw last k).natAbs ≤ 100 ^ k ∧ scw last k ≠ 0
  | 0, _ => ⟨Nat.le_refl _, by show (1 : Int) ≠ 0; decide⟩
  | k + 1, hk => by
    obtain ⟨h1, h2⟩ := scw_pow h0 hl k (by omega)
    have h3 : (scw last k * last).natAbs ≤ 100 ^ (k + 1) := by
      rw [Int.natAbs_mul, Nat.pow_succ]
      exact Nat.mul_le_mul h1 hl
    have h4 : 100 ^ (k + 1) ≤ 100 ^ 7 := Nat.pow_le_pow_right (by decide) hk
    have h5 : (100 : Nat) ^ 7 = 100000000000000 := by decide
    have e : scw last (k + 1) = scw last k * last := w64_id (by omega) (by omega)
    rw [e]
    exact ⟨h3, Int.mul_ne_zero h2 h0⟩
/-- a fraction's part, as both compute it -/
def pfr (up low what : Int) : Int :=
  let q := w64 (Int.tdiv (if what = 0 then up else low) (gi 100 (rz_abs up) (rz_abs low)))
  if low < 0 then w64 (-q) else q
theorem l_RC_pf {up last k what : Int} (hk : 0 ≤ k ∧ k ≤ 7) (h0 : last ≠ 0) (hl : last.natAbs ≤ 100) {m : rz_M} {K : Int → rz_M → Prop} (h : K (pfr up (scw last k.toNat) what) m) : ∀ (d i : Nat), k.toNat - i = d → i ≤ k.toNat → rz_E y_RC_partOfFraction 6 [rL up, rX 1, rL last, rX 1, rI k, rI what, rL (scw last i), rX 1, rI i, rX 0, rX 0, rX 0] [] m K
  | 0, i, hd, hi => by
    have e : i = k.toNat := by omega
    subst e
    have hne := (scw_pow h0 hl k.toNat (by omega)).2
    have hg := gi_ne0 (a := up) (scw_R last k.toNat) hne
    refine T_RC_partOfFraction_6 _ _ _ _ _ _ _ _ (bt (by omega) (c_RC_gcd (bt hg ?_)))
    unfold pfr at h
    dsimp only at h
    refine bb (fun q => ⟨hg, ?_⟩) (fun q => ⟨hg, ?_⟩)
    · rw [if_neg q] at h
      exact bb (fun z => by rw [if_neg (by omega)] at h; exact h) (fun z => by rw [if_pos (by omega)] at h; exact h)
    · rw [if_pos (Decidable.of_not_not q)] at h
      exact bb (fun z => by rw [if_neg (by omega)] at h; exact h) (fun z => by rw [if_pos (by omega)] at h; exact h)
  | d + 1, i, hd, hi => by
    refine T_RC_partOfFraction_6 _ _ _ _ _ _ _ _ (bf (by omega) ?_)
    rw [w32_id (by omega) (by omega)]
    exact l_RC_pf hk h0 hl h d (i + 1) (by omega) (by omega)
theorem c_RC_pf {up last k what : Int} (hk : 0 ≤ k ∧ k ≤ 7) (h0 : last ≠ 0) (hl : last.natAbs ≤ 100) {m : rz_M} {K : Int → rz_M → Prop} (h : K (pfr up (scw last k.toNat) what) m) : rz_C y_RC_partOfFraction [rL up, rL last, rI k, rI what] m K :=
  T_RC_partOfFraction_0 _ _ _ _ _ _ (l_RC_pf hk h0 hl h k.toNat 0 rfl (Nat.zero_le _))
theorem l_M_pow {last k : Int} (hk : 0 ≤ k ∧ k ≤ 7) {m : rz_M} {K : Int → rz_M → Prop} (h : K (scw last k.toNat) m) : ∀ (d i : Nat), k.toNat - i = d → i ≤ k.toNat → rz_E y_M_powerOf 5 [rL last, rX 1, rI k, rL (scw last i), rX 1, rI i] [] m K
  | 0, i, hd, hi => by
    have e : i = k.toNat := by omega
    subst e
    exact T_M_powerOf_5 _ _ _ _ _ _ (bt (by omega) h)
  | d + 1, i, hd, hi => by
    refine T_M_powerOf_5 _ _ _ _ _ _ (bf (by omega) ?_)
    rw [w32_id (by omega) (by omega)]
    exact l_M_pow hk h d (i + 1) (by omega) (by omega)
theorem c_M_powerOf {last k : Int} (hk : 0 ≤ k ∧ k ≤ 7) {m : rz_M} {K : Int → rz_M → Prop} (h : K (scw last k.toNat) m) : rz_C y_M_powerOf [rL last, rI k] m K :=
  T_M_powerOf_0 _ _ _ _ (l_M_pow hk h k.toNat 0 rfl (Nat.zero_le _))
theorem c_M_part {up low what : Int} (hlo : R64 low) (hne : low ≠ 0) {m : rz_M} {K : Int → rz_M → Prop} (h : K (pfr up low what) m) : rz_C y_M_part [rL up, rL low, rI what] m K := by
  have hg := gi_ne0 (a := up) hlo hne
  unfold pfr at h
  dsimp only at h
  refine T_M_part_0 _ _ _ _ _ (c_M_divisor hlo (bb (fun z => T_M_part_20 _ _ _ _ _ _ _ ?_) (fun z => T_M_part_20 _ _ _ _ _ _ _ ?_)))
  · rw [if_neg (by omega)] at h
    rw [Int.one_mul, Int.one_mul, w64_w64, w64_w64]
    exact bb (fun q => ⟨hg, by rw [if_neg q] at h; exact h⟩) (fun q => ⟨hg, by rw [if_pos (Decidable.of_not_not q)] at h; exact h⟩)
  · rw [if_pos (by omega)] at h
    rw [show ∀ x : Int, (-1) * x = -x from fun x => by omega, show ∀ x : Int, (-1) * x = -x from fun x => by omega]
    exact bb (fun q => ⟨hg, by rw [if_neg q] at h; exact h⟩) (fun q => ⟨hg, by rw [if_pos (Decidable.of_not_not q)] at h; exact h⟩)
theorem Inv_13 {m m2 : rz_M} {g h : Int → Int} (hI : Inv m) (e : m2 = wr (rz_up (wr m 13 8 g) 221 0 0) 237 8 h) : Inv m2 ∧ m2 400 = m 400 := by
  subst e
  have q : ∀ i : Nat, i ≠ 13 → i ≠ 221 → i ≠ 237 → wr (rz_up (wr m 13 8 g) 221 0 0) 237 8 h i = m i := fun i a b c => by rw [wr_ne c, up_ne b, wr_ne a]
  refine ⟨Inv_ref hI (z := m 0 10) ⟨fun i hi => q i (by omega) (by omega) (by omega), ?_, ?_⟩ (fun i a b => q i (by omega) (by omega) (by omega)) (q _ (by decide) (by decide) (by decide)) (by rw [q _ (by decide) (by decide) (by decide)]) ?_, q _ (by decide) (by decide) (by decide)⟩
  · rw [wr_ne (by decide), up_nj (by decide), wr_ne (by decide)]
  · rw [wr_ne (by decide), up_nj (by decide), wr_ne (by decide)]
  · rw [wr_ne (by decide), up_nj (by decide), wr_ne (by decide)]
    exact hI.2.1.symm
theorem p_power (r k what : Int) (m : rz_M) (hI : Inv m) : pairOK y_RC_power y_M_power [rI r, rI k, rI what] m := by
  have hT := Inv_thr (z := 0) hI
  have fin : ∀ z : Int, z = z ∧ Inv (rz_up m 221 0 0) ∧ rz_up m 221 0 0 400 = m 400 := fun z => ⟨rfl, hT, up_ne (by decide)⟩
  have rwT : ∀ m1 : rz_M, m1 222 = m 222 → ∀ r : Int, rwM m1 r = rwM m r := fun m1 h r => by unfold rwM; rw [h]
  have bad : ¬ ((0 ≤ r ∧ r < 10) ∧ (0 ≤ k ∧ k ≤ 7) ∧ (0 ≤ what ∧ what ≤ 1) ∧ 1 ≤ dg (rwM m r) ∧ sm (rwM m r)) → rz_C y_M_power [rR 221, rI r, rI k, rI what] m (fun r2 m2 => -9223372036854775808 = r2 ∧ Inv m2 ∧ m2 400 = m 400) := fun hn =>
    T_M_power_0 _ _ _ _ _ (c_M_isRow (fun q1 q2 => b1t (c_M_isSmall ⟨q1, q2⟩ (fun s1 s2 => b1t (c_M_in (fun p1 p2 => b1t (c_M_in (fun t1 t2 => absurd ⟨⟨q1, q2⟩, ⟨p1, p2⟩, ⟨t1, t2⟩, by rw [rwT _ (up_ne (by decide))] at s1; exact s1, by rw [rwT _ (up_ne (by decide))] at s2; exact s2⟩ hn) (fun _ => b0n (fin _)))) (fun _ => b0t (fin _)))) (fun _ => b0t (fin _)))) (fun _ => b0t (fin _)))
  refine T_RC_power_0 _ _ _ _ _ (c_RC_isRow (fun q1 q2 => b1t (bb (fun z => bad (by omega)) (fun z1 => bb (fun z => bad (by omega)) (fun z2 => bb (fun z => bad (by omega)) (fun z3 => bb (fun z => bad (by omega)) (fun z4 => ⟨⟨q1, q2⟩, c_RC_isSmall (isL_row ⟨q1, q2⟩) (fun d1 d2 => b1n ⟨⟨q1, q2⟩, c_RC_degreeOf (isL_row ⟨q1, q2⟩) ⟨⟨q1, q2⟩, ?_⟩⟩) (fun q => b0n (bad (fun z => q ⟨by rw [dg_eq hI ⟨q1, q2⟩]; exact z.2.2.2.1, (sm_eq hI ⟨q1, q2⟩).mpr z.2.2.2.2⟩)))⟩)))))) (fun q => b0t (bad (fun z => q z.1))))
  have hr := And.intro q1 q2
  have hrr : rz_R 1 r = 2 + r.toNat := rfl
  have hrg := dg_rng (m (rz_R 1 r))
  have hde := dg_eq hI hr
  have hs2 := (sm_eq hI hr).mp d2
  have hnz : m (rz_R 1 r) (dg (m (rz_R 1 r))) ≠ 0 := dgk_nz _ _ (show (0 : Int) ≤ dgk (m (rz_R 1 r)) 7 from by show 0 ≤ dg (m (rz_R 1 r)); omega)
  generalize dg (m (rz_R 1 r)) = n at d1 hrg hde hnz
  have hla : (m (rz_R 1 r) n).natAbs ≤ 100 := by have := d2 n (by omega) (by omega); omega
  refine c_RC_fillRootPowers (isL_row hr) (by omega) (by omega) hrg.2 (fun g hg => ⟨⟨by omega, by omega⟩, ⟨q1, q2⟩, (isL_row hr).1, ⟨by omega, by rw [len_row hr]; omega⟩, ?_⟩)
  rw [wr_ne (x := rz_R 1 r) (by omega), wr_in (by omega) (by omega)]
  refine c_RC_pf ⟨by omega, by omega⟩ hnz hla ?_
  have e222 : rz_up (wr m 13 8 g) 221 0 0 222 = m 222 := by rw [up_ne (by decide), wr_ne (by decide)]
  have erow := rwT _ e222 r
  refine T_M_power_0 _ _ _ _ _ (c_M_isRow (fun _ _ => b1t (c_M_isSmall hr (fun _ _ => b1t (c_M_in (fun _ _ => b1t (c_M_in (fun _ _ => b1n (c_M_findSums hr (by decide) rfl (by decide) (by rw [erow, ← hde]; omega) (fun g' hg' => ⟨⟨by omega, by omega⟩, c_M_degreeOf hr ?_⟩))) (fun z => absurd ⟨by omega, by omega⟩ z))) (fun z => absurd ⟨by omega, by omega⟩ z))) (fun z => absurd (by rw [erow, ← hde]; exact ⟨d1, hs2⟩) z))) (fun z => absurd hr z))
  have e222' : wr (rz_up (wr m 13 8 g) 221 0 0) 237 8 g' 222 = m 222 := by rw [wr_ne (by decide), e222]
  rw [rwT _ e222' r, ← hde, w32_id (z := 7 * r) (by omega) (by omega), w32_id (z := 7 * r + n) (by omega) (by omega), e222', ← row_eq hI hr ⟨by omega, by omega⟩]
  refine ⟨⟨by omega, by omega⟩, c_M_powerOf ⟨by omega, by omega⟩ (c_M_part (scw_R _ _) (scw_pow hnz hla k.toNat (by omega)).2 ?_)⟩
  rw [wr_in (by omega) (by omega)]
  rw [erow, ← hde] at hg'
  have eg := isPS_eq (by omega) hrg.2 (fun j a b => by rw [row_eq hI hr ⟨a, by omega⟩]; rfl) hg hg' 7 (by decide) k (by omega) (by omega)
  rw [eg]
  exact ⟨rfl, Inv_13 hI rfl⟩
theorem p_pairs (r a b what : Int) (m : rz_M) (hI : Inv m) (hb : R32 b) : pairOK y_RC_pairs y_M_pairs [rI r, rI a, rI b, rI what] m := by
  have hb1 : -2147483648 ≤ b ∧ b < 2147483648 := hb
  have hT := Inv_thr (z := 0) hI
  have fin : -9223372036854775808 = (-9223372036854775808 : Int) ∧ Inv (rz_up m 221 0 0) ∧ rz_up m 221 0 0 400 = m 400 := ⟨rfl, hT, up_ne (by decide)⟩
  have rwT : ∀ m1 : rz_M, m1 222 = m 222 → ∀ r : Int, rwM m1 r = rwM m r := fun m1 h r => by unfold rwM; rw [h]
  have bad : ¬ ((0 ≤ r ∧ r < 10) ∧ (1 ≤ a ∧ 1 ≤ b ∧ a + b ≤ 4) ∧ (0 ≤ what ∧ what ≤ 1) ∧ 1 ≤ dg (rwM m r) ∧ sm (rwM m r)) → rz_C y_M_pairs [rR 221, rI r, rI a, rI b, rI what] m (fun r2 m2 => -9223372036854775808 = r2 ∧ Inv m2 ∧ m2 400 = m 400) := fun hn => by
    have f59 := T_M_pairs_59 (rz_up m 221 0 0) (fun r2 m2 => -9223372036854775808 = r2 ∧ Inv m2 ∧ m2 400 = m 400) fin
    refine T_M_pairs_0 _ _ _ _ _ _ (c_M_isRow (fun q1 q2 => b1t (c_M_isSmall ⟨q1, q2⟩ (fun s1 s2 => b1t (bb (fun _ => f59) (fun z1 => bb (fun _ => f59) (fun z2 => bb (fun _ => f59) (fun z3 => bb (fun _ => f59) (fun z4 => ?_)))))) (fun _ => b0t f59))) (fun _ => b0t f59))
    rw [w32_id (by omega) (by omega)]
    exact bb (fun _ => f59) (fun z5 => c_M_in (fun t1 t2 => absurd ⟨⟨q1, q2⟩, ⟨by omega, by omega, by omega⟩, ⟨t1, t2⟩, by rw [rwT _ (up_ne (by decide))] at s1; exact s1, by rw [rwT _ (up_ne (by decide))] at s2; exact s2⟩ hn) (fun _ => b0n f59))
  refine T_RC_pairs_0 _ _ _ _ _ _ (c_RC_isRow (fun q1 q2 => b1t (bb (fun z => bad (by omega)) (fun z1 => bb (fun z => bad (by omega)) (fun z2 => bb (fun z => bad (by omega)) (fun z3 => ?_))))) (fun q => b0t (bad (fun z => q z.1))))
  rw [w32_id (z := 4 - a) (by omega) (by omega)]
  refine bb (fun z => bad (by omega)) (fun z4 => bb (fun z => bad (by omega)) (fun z5 => bb (fun z => bad (by omega)) (fun z6 => ⟨⟨q1, q2⟩, c_RC_isSmall (isL_row ⟨q1, q2⟩) (fun d1 d2 => b1n ⟨⟨q1, q2⟩, c_RC_degreeOf (isL_row ⟨q1, q2⟩) (T_RC_pairs_67 _ _ _ _ _ _ _ ⟨⟨q1, q2⟩, ?_⟩)⟩) (fun q => b0n (bad (fun z => q ⟨by rw [dg_eq hI ⟨q1, q2⟩]; exact z.2.2.2.1, (sm_eq hI ⟨q1, q2⟩).mpr z.2.2.2.2⟩)))⟩)))
  have hr := And.intro q1 q2
  have hrr : rz_R 1 r = 2 + r.toNat := rfl
  have hrg := dg_rng (m (rz_R 1 r))
  have hde := dg_eq hI hr
  have hs2 := (sm_eq hI hr).mp d2
  have hnz : m (rz_R 1 r) (dg (m (rz_R 1 r))) ≠ 0 := dgk_nz _ _ (show (0 : Int) ≤ dgk (m (rz_R 1 r)) 7 from by show 0 ≤ dg (m (rz_R 1 r)); omega)
  generalize dg (m (rz_R 1 r)) = n at d1 hrg hde hnz
  have hla : (m (rz_R 1 r) n).natAbs ≤ 100 := by have := d2 n (by omega) (by omega); omega
  have eab : w32 (a + b) = a + b := w32_id (by omega) (by omega)
  rw [eab]
  refine c_RC_fillRootPowers (isL_row hr) (by omega) (by omega) hrg.2 (fun g hg => ⟨⟨by omega, by omega⟩, ⟨by omega, by omega⟩, ⟨by omega, by omega⟩, ⟨q1, q2⟩, (isL_row hr).1, ⟨by omega, by rw [len_row hr]; omega⟩, ?_⟩)
  rw [wr_ne (x := rz_R 1 r) (by omega), wr_in (y := a) (by omega) (by omega), wr_in (y := b) (by omega) (by omega), wr_in (y := a + b) (by omega) (by omega)]
  refine c_RC_pf ⟨by omega, by omega⟩ hnz hla ?_
  have e222 : rz_up (wr m 13 8 g) 221 0 0 222 = m 222 := by rw [up_ne (by decide), wr_ne (by decide)]
  have erow := rwT _ e222 r
  refine T_M_pairs_0 _ _ _ _ _ _ (c_M_isRow (fun _ _ => b1t (c_M_isSmall hr (fun _ _ => b1t (bf (by omega) (bf (by omega) (bf (by omega) (bf (by omega) ?_))))) (fun z => absurd (by rw [erow, ← hde]; exact ⟨d1, hs2⟩) z))) (fun z => absurd hr z))
  rw [eab]
  refine bf (by omega) (c_M_in (fun _ _ => b1n (T_M_pairs_63 _ _ _ _ _ _ (c_M_findSums hr (by decide) rfl (by decide) (by rw [erow, ← hde]; omega) (fun g' hg' => ?_)))) (fun z => absurd ⟨by omega, by omega⟩ z))
  have e222' : wr (rz_up (wr m 13 8 g) 221 0 0) 237 8 g' 222 = m 222 := by rw [wr_ne (by decide), e222]
  rw [eab]
  refine ⟨⟨by omega, by omega⟩, ⟨by omega, by omega⟩, ⟨by omega, by omega⟩, c_M_degreeOf hr ?_⟩
  rw [rwT _ e222' r, ← hde, w32_id (z := 7 * r) (by omega) (by omega), w32_id (z := 7 * r + n) (by omega) (by omega), e222', ← row_eq hI hr ⟨by omega, by omega⟩]
  refine ⟨⟨by omega, by omega⟩, c_M_powerOf ⟨by omega, by omega⟩ (c_M_part (scw_R _ _) (scw_pow hnz hla (a + b).toNat (by omega)).2 ?_)⟩
  rw [wr_in (y := a) (by omega) (by omega), wr_in (y := b) (by omega) (by omega), wr_in (y := a + b) (by omega) (by omega)]
  rw [erow, ← hde] at hg'
  have eg := isPS_eq (by omega) hrg.2 (fun j a b => by rw [row_eq hI hr ⟨a, by omega⟩]; rfl) hg hg' 7 (by decide)
  rw [eg a (by omega) (by omega), eg b (by omega) (by omega), eg (a + b) (by omega) (by omega)]
  exact ⟨rfl, Inv_13 hI rfl⟩
