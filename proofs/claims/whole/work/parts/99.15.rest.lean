/-! Sturm: one more member of a chain: rows and their bounds -/
def lowF (last top : Int) (here dv : Int → Int) (j bD : Int) : Int → Int := fun i => if i = j then 0 else if i < j then last.sign * (last * here i - (if j - bD ≤ i then top * dv (i - (j - bD)) else 0)) else here i
/-- t places taken away, from dA on downwards -/
def lowN (A B : Int → Int) (dA bD : Nat) : Nat → Int → Int
  | 0 => A
  | t + 1 => lowF (B bD) (lowN A B dA bD t ((dA : Int) - t)) (lowN A B dA bD t) B ((dA : Int) - t) bD
theorem sign_abs (x : Int) : x.sign * x = x.natAbs := by
  rcases sgn3 x with ⟨h, q⟩ | ⟨h, q⟩ | ⟨h, q⟩
  · rw [h, q]; rfl
  · rw [h]; omega
  · rw [h]; omega
section
variable {R : Type}
theorem lowF_R [Lean.Grind.CommRing R] {co : R → Nat → Int} {mk : Nat → (Nat → Int) → R} (H : PolyR co mk) {here dv : Int → Int} {j bD : Nat} (hj : j ≤ 6) (hb : bD ≤ j) (hz : ∀ i : Int, (j : Int) < i → i < 7 → here i = 0) (bz : ∀ i : Int, (bD : Int) < i → i < 7 → dv i = 0) : pR mk 7 (lowF (dv bD) (here j) here dv j bD) = mo mk 0 ((dv bD).natAbs : Int) * pR mk 7 here - mo mk (j - bD) ((dv bD).sign * here j) * pR mk 7 dv := H.1 _ _ (fun k => by
  have sa := sign_abs (dv bD)
  rw [co_sub H, co_C H, co_momul H, co_pR H, co_pR H, co_pR H]
  by_cases k7 : k < 7
  · rw [if_pos k7, if_pos k7]
    unfold lowF
    by_cases q : (k : Int) = j
    · rw [if_pos q, if_pos (by omega), if_pos (by omega), show ((k - (j - bD) : Nat) : Int) = bD from by omega, q, ← sa]
      grind
    · rw [if_neg q]
      by_cases z : (k : Int) < j
      · rw [if_pos z]
        by_cases w : j - bD ≤ k
        · rw [if_pos (by omega), if_pos w, if_pos (by omega), show (k : Int) - ((j : Int) - bD) = ((k - (j - bD) : Nat) : Int) from by omega, ← sa]
          grind
        · rw [if_neg (by omega), if_neg w, ← sa]
          grind
      · rw [if_neg z, hz k (by omega) (by omega), Int.mul_zero]
        by_cases w : j - bD ≤ k
        · rw [if_pos w, if_pos (by omega), bz ((k - (j - bD) : Nat) : Int) (by omega) (by omega), Int.mul_zero]
          rfl
        · omega
  · rw [if_neg k7, if_neg k7, Int.mul_zero]
    by_cases w : j - bD ≤ k
    · rw [if_pos w]
      by_cases u : k - (j - bD) < 7
      · rw [if_pos u, bz ((k - (j - bD) : Nat) : Int) (by omega) (by omega), Int.mul_zero]
        rfl
      · rw [if_neg u, Int.mul_zero]
        rfl
    · omega)
theorem lowN_z {A B : Int → Int} {dA bD : Nat} (hA : ∀ i : Int, (dA : Int) < i → i < 7 → A i = 0) : ∀ t : Nat, t ≤ dA + 1 → ∀ i : Int, (dA : Int) - t < i → i < 7 → lowN A B dA bD t i = 0
  | 0, _, i, h1, h2 => hA i (by omega) h2
  | t + 1, ht, i, h1, h2 => by
    show lowF _ _ _ _ _ _ i = 0
    unfold lowF
    by_cases q : i = (dA : Int) - t
    · rw [if_pos q]
    · rw [if_neg q, if_neg (by omega)]
      exact lowN_z hA t (by omega) i (by omega) h2
theorem lowN_R [Lean.Grind.CommRing R] {co : R → Nat → Int} {mk : Nat → (Nat → Int) → R} (H : PolyR co mk) {A B : Int → Int} {dA bD : Nat} (hdA : dA ≤ 6) (hA : ∀ i : Int, (dA : Int) < i → i < 7 → A i = 0) (hB : ∀ i : Int, (bD : Int) < i → i < 7 → B i = 0) : ∀ t : Nat, bD + t ≤ dA + 1 → ∃ Q : R, pR mk 7 (lowN A B dA bD t) = mo mk 0 (((B bD).natAbs : Int) ^ t) * pR mk 7 A - Q * pR mk 7 B
  | 0, _ => ⟨0, by
    rw [Int.pow_zero, C_one H]
    show pR mk 7 A = _
    grind⟩
  | t + 1, ht => by
    obtain ⟨Q, hQ⟩ := lowN_R H hdA hA hB t (by omega)
    have ej : (dA : Int) - t = ((dA - t : Nat) : Int) := by omega
    have e := lowF_R H (here := lowN A B dA bD t) (dv := B) (j := dA - t) (bD := bD) (by omega) (by omega) (fun i a b => lowN_z hA t (by omega) i (by omega) b) hB
    refine ⟨mo mk 0 ((B bD).natAbs : Int) * Q + mo mk (dA - t - bD) ((B bD).sign * lowN A B dA bD t ((dA - t : Nat) : Int)), ?_⟩
    show pR mk 7 (lowF (B bD) (lowN A B dA bD t ((dA : Int) - t)) (lowN A B dA bD t) B ((dA : Int) - t) bD) = _
    rw [ej, e, hQ, Int.pow_succ, C_mul H]
    grind
end
theorem sign_bd (x : Int) : x.sign.natAbs ≤ 1 := by
  rcases sgn3 x with ⟨h, q⟩ | ⟨h, q⟩ | ⟨h, q⟩ <;> rw [h] <;> decide
theorem lowF_bd {last top : Int} {here dv : Int → Int} {j bD : Int} {X Y : Int} (hl : bd last Y) (ht : bd top X) (hh' : ∀ i : Int, 0 ≤ i → i < 7 → bd (here i) X) (hd : ∀ i : Int, 0 ≤ i → i < 7 → bd (dv i) Y) (hz : ∀ i : Int, j < i → i < 7 → here i = 0) (hb : 0 ≤ bD ∧ bD ≤ j) : ∀ i : Int, 0 ≤ i → i < 7 → bd (lowF last top here dv j bD i) (X * (2 * Y)) ∧ (i < j → bd (last * here i) (X * (2 * Y)) ∧ (j - bD ≤ i → bd (top * dv (i - (j - bD))) (X * (2 * Y)) ∧ bd (last * here i - top * dv (i - (j - bD))) (X * (2 * Y)))) := by
  intro i i0 i1
  have X0 := bd_nn (hh' 0 (by decide) (by decide))
  have Y0 := bd_nn hl
  have XY : 0 ≤ X * Y := Int.mul_nonneg X0 Y0
  have e2 : X * (2 * Y) = 2 * (X * Y) := by grind
  rw [e2]
  have b1 : bd (last * here i) (X * Y) := by
    have := bd_mul hl (hh' i i0 i1)
    rwa [Int.mul_comm Y] at this
  have b2 : j - bD ≤ i → i < j → bd (top * dv (i - (j - bD))) (X * Y) := fun a b => bd_mul ht (hd _ (by omega) (by omega))
  refine ⟨?_, fun q => ⟨bd_le b1 (by omega), fun a => ⟨bd_le (b2 a q) (by omega), ?_⟩⟩⟩
  · unfold lowF
    by_cases q : i = j
    · rw [if_pos q]
      unfold bd
      omega
    · rw [if_neg q]
      by_cases z : i < j
      · rw [if_pos z]
        have s := sign_bd last
        rw [bd_n]
        by_cases a : j - bD ≤ i
        · have c := bd_n.mp b1
          have c2 := bd_n.mp (b2 a z)
          rw [if_pos a, Int.natAbs_mul]
          have : last.sign.natAbs * (last * here i - top * dv (i - (j - bD))).natAbs ≤ 1 * (last * here i - top * dv (i - (j - bD))).natAbs := Nat.mul_le_mul_right _ s
          have := Int.natAbs_sub_le (last * here i) (top * dv (i - (j - bD)))
          omega
        · have c := bd_n.mp b1
          rw [if_neg a, Int.sub_zero, Int.natAbs_mul]
          have : last.sign.natAbs * (last * here i).natAbs ≤ 1 * (last * here i).natAbs := Nat.mul_le_mul_right _ s
          omega
      · rw [if_neg z, hz i (by omega) i1]
        unfold bd
        omega
  · have c := b2 a q
    unfold bd at b1 c ⊢
    omega
/-- the bound after t places -/
def nbd (X Y : Int) : Nat → Int
  | 0 => X
  | t + 1 => nbd X Y t * (2 * Y)
theorem nbd_mono {X Y : Int} (hX : 0 ≤ X) (hY : 1 ≤ Y) {t : Nat} : ∀ r : Nat, 0 ≤ nbd X Y (t + r) ∧ nbd X Y t ≤ nbd X Y (t + r)
  | 0 => by
    have : ∀ t : Nat, 0 ≤ nbd X Y t := fun t => by
      induction t with
      | zero => exact hX
      | succ t ih => exact Int.mul_nonneg ih (by omega)
    exact ⟨this t, Int.le_refl _⟩
  | r + 1 => by
    have ih := nbd_mono hX hY (t := t) r
    have e : nbd X Y (t + (r + 1)) = nbd X Y (t + r) * (2 * Y) := rfl
    have m : nbd X Y (t + r) * 1 ≤ nbd X Y (t + r) * (2 * Y) := Int.mul_le_mul_of_nonneg_left (by omega) ih.1
    omega
theorem lowN_bd {A B : Int → Int} {dA bD : Nat} {X Y : Int} (hdA : dA ≤ 6) (hA : ∀ i : Int, (dA : Int) < i → i < 7 → A i = 0) (bA : ∀ i : Int, 0 ≤ i → i < 7 → bd (A i) X) (bB : ∀ i : Int, 0 ≤ i → i < 7 → bd (B i) Y) (hbD : bD ≤ 6) : ∀ t : Nat, bD + t ≤ dA + 1 → ∀ i : Int, 0 ≤ i → i < 7 → bd (lowN A B dA bD t i) (nbd X Y t)
  | 0, _, i, i0, i1 => bA i i0 i1
  | t + 1, ht, i, i0, i1 => by
    have ih := lowN_bd hdA hA bA bB hbD t (by omega)
    exact (lowF_bd (bB bD (by omega) (by omega)) (ih _ (by omega) (by omega)) ih bB (fun i a b => lowN_z hA t (by omega) i (by omega) b) ⟨by omega, by omega⟩ i i0 i1).1
def LIM : Int := 10 ^ 300
/-- all chains from here on stay within the bound -/
def fitB : Nat → Nat → Int → Nat → Int → Bool
  | 0, _, _, _, _ => true
  | n + 1, dA, X, dB, Y => decide (nbd X Y (dA - dB + 1) ≤ LIM) && (List.range dB).all (fun d => Nat.beq d 0 || fitB n dB Y d (nbd X Y (dA - dB + 1)))
theorem fit0 : ∀ d : Nat, d < 7 → 2 ≤ d → fitB 6 d (gbd d) (d - 1) (d * gbd d) = true := by decide +kernel
section
variable {R : Type}
/-- a chain under way: rows v, degrees dd, L of them -/
def chI [Lean.Grind.CommRing R] (co : R → Nat → Int) (mk : Nat → (Nat → Int) → R) (v : Nat → Int → Int) (dd : Nat → Nat) (L : Nat) : Prop :=
  2 ≤ L ∧ (∀ i, i < L → dd i + i ≤ 6 ∧ v i (dd i) ≠ 0 ∧ (∀ j : Int, (dd i : Int) < j → j < 7 → v i j = 0) ∧ ∀ j : Int, 0 ≤ j → j < 7 → bd (v i j) LIM) ∧
  (∀ j : Nat, co (pR mk 7 (v 1)) j = ((j : Int) + 1) * co (pR mk 7 (v 0)) (j + 1)) ∧
  (∀ i, 1 ≤ i → i + 1 < L → ∃ (α : Int) (q : R), 0 < α ∧ mo mk 0 α * pR mk 7 (v (i - 1)) + pR mk 7 (v (i + 1)) = q * pR mk 7 (v i)) ∧
  cop mk (pR mk 7 (v (L - 2))) (pR mk 7 (v (L - 1))) ∧ dd (L - 1) < dd (L - 2) ∧
  ∃ (X Y : Int), (∀ j : Int, 0 ≤ j → j < 7 → bd (v (L - 2) j) X) ∧ (∀ j : Int, 0 ≤ j → j < 7 → bd (v (L - 1) j) Y) ∧ (dd (L - 1) = 0 ∨ fitB (8 - L) (dd (L - 2)) X (dd (L - 1)) Y = true)
/-- the next row -/
def nxR (A B : Int → Int) (dA bD : Nat) : Int → Int := fun i => if i < bD then -(lowN A B dA bD (dA - bD + 1) i) else 0
theorem ch_end [Lean.Grind.CommRing R] {co : R → Nat → Int} {mk : Nat → (Nat → Int) → R} (H : PolyR co mk) {v : Nat → Int → Int} {dd : Nat → Nat} {L : Nat} (h : chI co mk v dd L) (h0 : dd (L - 1) = 0) : isCh co mk (fun i => pR mk 7 (v i)) (L - 1) := by
  obtain ⟨h2, hv, hd, hr, _⟩ := h
  refine ⟨by omega, fun i hi j hj => ?_, hd, fun i i1 i2 => hr i i1 (by omega), v (L - 1) 0, ?_, H.1 _ _ (fun k => ?_)⟩
  · show co (pR mk 7 (v i)) j = 0
    rw [co_pR H, if_neg (by omega)]
  · have := (hv (L - 1) (by omega)).2.1
    rwa [h0] at this
  · show co (pR mk 7 (v (L - 1))) k = _
    rw [co_pR H, co_mo H]
    by_cases q : k = 0
    · rw [if_pos (by omega), if_pos q, q]
      rfl
    · rw [if_neg q]
      split
      · exact (hv (L - 1) (by omega)).2.2.1 k (by omega) (by omega)
      · rfl
theorem ch_next [Lean.Grind.CommRing R] {co : R → Nat → Int} {mk : Nat → (Nat → Int) → R} (H : PolyR co mk) {v : Nat → Int → Int} {dd : Nat → Nat} {L : Nat} (h : chI co mk v dd L) (h0 : 0 < dd (L - 1)) : L ≤ 6 ∧ ∃ d : Nat, d < dd (L - 1) ∧ nxR (v (L - 2)) (v (L - 1)) (dd (L - 2)) (dd (L - 1)) d ≠ 0 ∧ (∀ j : Int, (d : Int) < j → j < 7 → nxR (v (L - 2)) (v (L - 1)) (dd (L - 2)) (dd (L - 1)) j = 0) ∧ (∀ t : Nat, t ≤ dd (L - 2) - dd (L - 1) + 1 → ∀ i : Int, 0 ≤ i → i < 7 → bd (lowN (v (L - 2)) (v (L - 1)) (dd (L - 2)) (dd (L - 1)) t i) LIM) ∧
    (∀ v' : Nat → Int → Int, ∀ dd' : Nat → Nat, (∀ i, i < L → v' i = v i) → v' L = nxR (v (L - 2)) (v (L - 1)) (dd (L - 2)) (dd (L - 1)) → (∀ i, i < L → dd' i = dd i) → dd' L = d → chI co mk v' dd' (L + 1)) ∧
    (∃ X Y : Int, (∀ j : Int, 0 ≤ j → j < 7 → bd (v (L - 2) j) X) ∧ (∀ j : Int, 0 ≤ j → j < 7 → bd (v (L - 1) j) Y) ∧ 1 ≤ Y ∧ nbd X Y (dd (L - 2) - dd (L - 1) + 1) ≤ LIM) := by
  obtain ⟨h2, hv, hd, hr, hc, hdd, X, Y, bX, bY, hf⟩ := h
  have vA := hv (L - 2) (by omega)
  have vB := hv (L - 1) (by omega)
  have L6 : L ≤ 6 := by omega
  generalize hA : v (L - 2) = A at *
  generalize hB : v (L - 1) = B at *
  generalize hdA : dd (L - 2) = dA at *
  generalize hdB : dd (L - 1) = dB at *
  have fit : fitB (8 - L) dA X dB Y = true := hf.resolve_left (by omega)
  rw [show 8 - L = (7 - L) + 1 from by omega] at fit
  unfold fitB at fit
  rw [Bool.and_eq_true] at fit
  have lim : nbd X Y (dA - dB + 1) ≤ LIM := of_decide_eq_true fit.1
  have Y1 : 1 ≤ Y := by
    have := bY dB (by omega) (by omega)
    have n := vB.2.1
    unfold bd at this
    omega
  have X0 := bd_nn (bX 0 (by decide) (by decide))
  obtain ⟨Q, hQ⟩ := lowN_R H (A := A) (B := B) (dA := dA) (bD := dB) (by omega) vA.2.2.1 vB.2.2.1 (dA - dB + 1) (by omega)
  have lz := lowN_z (A := A) (B := B) (dA := dA) (bD := dB) vA.2.2.1 (dA - dB + 1) (by omega)
  have eN : (pR mk 7 (nxR A B dA dB) : R) = -(pR mk 7 (lowN A B dA dB (dA - dB + 1))) := H.1 _ _ (fun k => by
    rw [co_neg H, co_pR H, co_pR H]
    by_cases q : k < 7
    · rw [if_pos q, if_pos q]
      unfold nxR
      by_cases w : (k : Int) < dB
      · rw [if_pos w]
      · rw [if_neg w, lz k (by omega) (by omega)]
        rfl
    · rw [if_neg q, if_neg q]
      rfl)
  have rel : mo mk 0 (((B dB).natAbs : Int) ^ (dA - dB + 1)) * pR mk 7 A + pR mk 7 (nxR A B dA dB) = Q * pR mk 7 B := by
    rw [eN, hQ]
    grind
  have a0 : 0 < ((B dB).natAbs : Int) ^ (dA - dB + 1) := Int.pow_pos (by have := vB.2.1; omega)
  have cop' : cop mk (pR mk 7 B) (pR mk 7 (nxR A B dA dB)) := by
    obtain ⟨u, w, c, c0, e⟩ := hc
    refine ⟨u * Q + mo mk 0 (((B dB).natAbs : Int) ^ (dA - dB + 1)) * w, -u, ((B dB).natAbs : Int) ^ (dA - dB + 1) * c, Int.mul_ne_zero (by omega) c0, ?_⟩
    rw [C_mul H, ← e]
    have : pR mk 7 (nxR A B dA dB) = Q * pR mk 7 B - mo mk 0 (((B dB).natAbs : Int) ^ (dA - dB + 1)) * pR mk 7 A := by rw [← rel]; grind
    rw [this]
    grind
  -- it isn't nought
  have nz : ∃ d : Nat, d < dB ∧ nxR A B dA dB d ≠ 0 := Classical.byContradiction fun w => by
    have z : (pR mk 7 (nxR A B dA dB) : R) = 0 := H.1 _ _ (fun k => by
      rw [co_zero H, co_pR H]
      split
      · by_cases q : k < dB
        · exact Classical.byContradiction fun u => w ⟨k, q, u⟩
        · unfold nxR
          rw [if_neg (by omega)]
      · rfl)
    obtain ⟨u, x, c, c0, e⟩ := cop'
    rw [z] at e
    have tB : tz co (pR mk 7 B) dB := by
      have := row_tz H (g := B) (d := dB) ⟨by omega, by omega⟩ vB.2.1 vB.2.2.1
      rwa [Int.toNat_natCast] at this
    have tc : tz co (mo mk 0 c : R) 0 := ⟨by rw [co_mo H, if_pos rfl]; exact c0, fun k hk => by rw [co_mo H, if_neg (by omega)]⟩
    obtain ⟨i, j, hi, _, hij⟩ := zd_deg H tc (q := pR mk 7 B) (h := u) (by rw [← e]; grind)
    have := tz_uniq hi tB
    omega
  obtain ⟨d, ⟨d1, d2⟩, d3⟩ := nat_max (P := fun k => k < dB ∧ nxR A B dA dB k ≠ 0) dB (fun k hk w => by omega) nz
  have dz : ∀ j : Int, (d : Int) < j → j < 7 → nxR A B dA dB j = 0 := fun j a b => by
    by_cases q : j < dB
    · refine Classical.byContradiction fun u => d3 j.toNat (by omega) ⟨by omega, ?_⟩
      rw [Int.toNat_of_nonneg (by omega)]
      exact u
    · unfold nxR
      rw [if_neg q]
  have lb : ∀ t : Nat, t ≤ dA - dB + 1 → ∀ i : Int, 0 ≤ i → i < 7 → bd (lowN A B dA dB t i) (nbd X Y (dA - dB + 1)) := fun t ht i i0 i1 => by
    have := lowN_bd (A := A) (B := B) (dA := dA) (bD := dB) (by omega) vA.2.2.1 bX bY (by omega) t (by omega) i i0 i1
    have m := (nbd_mono X0 Y1 (t := t) (dA - dB + 1 - t)).2
    rw [show t + (dA - dB + 1 - t) = dA - dB + 1 from by omega] at m
    exact bd_le this m
  have nb : ∀ j : Int, 0 ≤ j → j < 7 → bd (nxR A B dA dB j) (nbd X Y (dA - dB + 1)) := fun j j0 j1 => by
    have := lb (dA - dB + 1) (Nat.le_refl _) j j0 j1
    unfold nxR
    split
    · exact bd_neg this
    · have n := bd_nn this
      unfold bd
      omega
  refine ⟨L6, d, d1, d2, dz, fun t ht i i0 i1 => bd_le (lb t ht i i0 i1) lim, fun v' dd' e1 e2 e3 e4 => ?_, X, Y, bX, bY, Y1, lim⟩
  refine ⟨by omega, fun i hi => ?_, ?_, fun i i1 i2 => ?_, ?_, ?_, Y, nbd X Y (dA - dB + 1), ?_, ?_, ?_⟩
  · by_cases q : i = L
    · subst q
      rw [e2, e4]
      have := vB.1
      exact ⟨by omega, d2, dz, fun j a b => bd_le (nb j a b) lim⟩
    · rw [e1 i (by omega), e3 i (by omega)]
      exact hv i (by omega)
  · rw [e1 1 (by omega), e1 0 (by omega)]
    exact hd
  · by_cases q : i + 1 = L
    · rw [show i + 1 = L from q, e2, e1 (i - 1) (by omega), e1 i (by omega), show i - 1 = L - 2 from by omega, show i = L - 1 from by omega, hA, hB]
      exact ⟨_, Q, a0, rel⟩
    · rw [e1 (i - 1) (by omega), e1 (i + 1) (by omega), e1 i (by omega)]
      exact hr i i1 (by omega)
  · rw [show L + 1 - 2 = L - 1 from by omega, show L + 1 - 1 = L from by omega, e1 (L - 1) (by omega), e2, hB]
    exact cop'
  · rw [show L + 1 - 2 = L - 1 from by omega, show L + 1 - 1 = L from by omega, e3 (L - 1) (by omega), e4, hdB]
    exact d1
  · rw [show L + 1 - 2 = L - 1 from by omega, e1 (L - 1) (by omega), hB]
    exact bY
  · rw [show L + 1 - 1 = L from by omega, e2]
    exact nb
  · rw [show L + 1 - 2 = L - 1 from by omega, show L + 1 - 1 = L from by omega, e3 (L - 1) (by omega), e4, hdB]
    by_cases q : d = 0
    · exact Or.inl q
    · refine Or.inr ?_
      have := List.all_eq_true.mp fit.2 d (List.mem_range.mpr d1)
      rw [Bool.or_eq_true] at this
      rw [show 8 - (L + 1) = 7 - L from by omega]
      rcases this with w | w
      · exact absurd (Nat.eq_of_beq_eq_true w) q
      · exact w
end
