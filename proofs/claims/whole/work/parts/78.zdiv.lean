/-! exact division of rows, both sides -/
/-- i places from j on lose t times g -/
def stW (g : Int → Int) (t j i : Int) (w : Int → Int) : Int → Int := fun y => if j ≤ y ∧ y < j + i then w y - t * g (y - j) else w y
theorem stW_0 {g w : Int → Int} {t j : Int} : stW g t j 0 w = w := by
  funext y
  unfold stW
  rw [if_neg (by omega)]
theorem stW_at {g w : Int → Int} {t j i : Int} : stW g t j i w (j + i) = w (j + i) := by
  unfold stW
  rw [if_neg (by omega)]
theorem stW_up {g w : Int → Int} {t j i : Int} (hi : 0 ≤ i) : upf (stW g t j i w) (j + i) (w (j + i) - t * g i) = stW g t j (i + 1) w := by
  funext y
  unfold upf stW
  by_cases z : y = j + i
  · subst z
    rw [if_pos rfl, if_pos ⟨by omega, by omega⟩, show j + i - j = i from by omega]
  · rw [if_neg z]
    by_cases q : j ≤ y ∧ y < j + i
    · rw [if_pos q, if_pos ⟨q.1, by omega⟩]
    · rw [if_neg q, if_neg (by omega)]
section
variable {R : Type}
theorem stW_sem [Lean.Grind.CommRing R] {co : R → Nat → Int} {mk : Nat → (Nat → Int) → R} (H : PolyR co mk) {g w : Int → Int} {t j d : Int} (hj : 0 ≤ j) (hd : 0 ≤ d) (hjd : j + d < 7) (hgz : ∀ k : Int, d < k → k < 7 → g k = 0) : pR mk 7 w = mo mk j.toNat t * pR mk 7 g + pR mk 7 (stW g t j (d + 1) w) := H.1 _ _ (fun k => by
  rw [H.2.1, co_momul H, co_pR H, co_pR H, co_pR H]
  unfold stW
  by_cases z : j.toNat ≤ k
  · rw [if_pos z]
    by_cases z2 : (k : Int) ≤ j + d
    · rw [if_pos (show k < 7 by omega), if_pos (show k - j.toNat < 7 by omega), if_pos (show k < 7 by omega), if_pos ⟨by omega, by omega⟩, show ((k - j.toNat : Nat) : Int) = (k : Int) - j from by omega]
      omega
    · have e0 : (if k - j.toNat < 7 then g ((k - j.toNat : Nat) : Int) else 0) = 0 := by
        split
        · exact hgz _ (by omega) (by omega)
        · rfl
      rw [e0, Int.mul_zero]
      by_cases z3 : k < 7
      · rw [if_pos z3, if_pos z3, if_neg (by omega)]
        omega
      · rw [if_neg z3, if_neg z3]
        rfl
  · rw [if_neg z]
    by_cases z3 : k < 7
    · rw [if_pos z3, if_pos z3, if_neg (by omega)]
      omega
    · rw [if_neg z3, if_neg z3]
      rfl)
/-- what is there in the middle of a division -/
def divI [Lean.Grind.CommRing R] (mk : Nat → (Nat → Int) → R) (f g u w : Int → Int) (n d j : Int) : Prop := pR mk 7 f = pR mk 7 u * pR mk 7 g + pR mk 7 w ∧ (∀ k : Int, j + d < k → k < 7 → w k = 0) ∧ (∀ k : Int, 0 ≤ k → k ≤ j → u k = 0) ∧ ∀ k : Int, n - d < k → k < 7 → u k = 0
theorem row_tz [Lean.Grind.CommRing R] {co : R → Nat → Int} {mk : Nat → (Nat → Int) → R} (H : PolyR co mk) {g : Int → Int} {d : Int} (hd : 0 ≤ d ∧ d < 7) (h0 : g d ≠ 0) (hz : ∀ k : Int, d < k → k < 7 → g k = 0) : tz co (pR mk 7 g) d.toNat := by
  refine ⟨?_, fun k hk => ?_⟩
  · rw [co_pR H, if_pos (by omega), Int.toNat_of_nonneg hd.1]
    exact h0
  · rw [co_pR H]
    split
    · exact hz k (by omega) (by omega)
    · rfl
/-- where it divides, the step is exact -/
theorem divI_ok [Lean.Grind.CommRing R] {co : R → Nat → Int} {mk : Nat → (Nat → Int) → R} (H : PolyR co mk) {f g u w : Int → Int} {n d j : Int} (hd : 0 ≤ d ∧ d < 7) (hj : -1 ≤ j) (hjd : j + d < 7) (h0 : g d ≠ 0) (hgz : ∀ k : Int, d < k → k < 7 → g k = 0) (hI : divI mk f g u w n d j) {h : R} (e : pR mk 7 f = pR mk 7 g * h) : (∀ k : Nat, j < k → co h k = co (pR mk 7 u) k) ∧ (0 ≤ j → w (j + d) = g d * co h j.toNat) := by
  obtain ⟨e1, wz, ul, uz⟩ := hI
  have tg := row_tz H hd h0 hgz
  have eD : pR mk 7 g * (h - pR mk 7 u) = pR mk 7 w := by grind
  have Dz : ∀ k : Nat, j < k → co (h - pR mk 7 u) k = 0 := by
    rcases Classical.em (h - pR mk 7 u = 0) with q | q
    · intro k _
      rw [q, co_zero H]
    · obtain ⟨i, hi⟩ := tz_ex H q
      have tw := tz_mul H tg hi
      rw [eD] at tw
      have c := tw.1
      rw [co_pR H] at c
      intro k hk
      refine hi.2 k ?_
      refine Classical.byContradiction fun z => c ?_
      split
      · exact wz _ (by omega) (by omega)
      · rfl
  refine ⟨fun k hk => ?_, fun hj0 => ?_⟩
  · have := Dz k hk
    rw [co_sub H] at this
    omega
  · have ct := (co_top H (a := pR mk 7 g) (b := h - pR mk 7 u) (n := d.toNat) (l := j.toNat) tg.2 (fun k hk => Dz k (by omega))).1
    rw [eD, co_pR H, co_pR H, if_pos (by omega), if_pos (by omega), co_sub H, co_pR H, if_pos (by omega), Int.toNat_of_nonneg hd.1, Int.toNat_of_nonneg hj0, ul j hj0 (Int.le_refl _), Int.sub_zero, show ((d.toNat + j.toNat : Nat) : Int) = j + d from by omega] at ct
    exact ct
theorem divI_next [Lean.Grind.CommRing R] {co : R → Nat → Int} {mk : Nat → (Nat → Int) → R} (H : PolyR co mk) {f g u w : Int → Int} {n d j t : Int} (hd : 0 ≤ d) (hj : 0 ≤ j) (hjn : j ≤ n - d) (hn : n < 7) (hgz : ∀ k : Int, d < k → k < 7 → g k = 0) (hI : divI mk f g u w n d j) (ht : w (j + d) = g d * t) : divI mk f g (upf u j t) (stW g t j (d + 1) w) n d (j - 1) := by
  obtain ⟨e1, wz, ul, uz⟩ := hI
  refine ⟨?_, fun k k0 k1 => ?_, fun k k0 k1 => ?_, fun k k0 k1 => ?_⟩
  · have st := stW_sem H (w := w) (t := t) (j := j) (d := d) (g := g) hj hd (by omega) hgz
    have eu : pR mk 7 (upf u j t) = pR mk 7 u + mo mk j.toNat t := H.1 _ _ (fun k => by
      rw [H.2.1, co_pR H, co_pR H, co_mo H]
      unfold upf
      by_cases q : k = j.toNat
      · rw [if_pos (by omega), if_pos (by omega), if_pos (by omega), if_pos q, ul k (by omega) (by omega), Int.zero_add]
      · rw [if_neg q, Int.add_zero]
        by_cases z : k < 7
        · rw [if_pos z, if_pos z, if_neg (by omega)]
        · rw [if_neg z, if_neg z])
    rw [e1, eu, st]
    grind
  · unfold stW
    by_cases q : k = j + d
    · subst q
      rw [if_pos ⟨by omega, by omega⟩, show j + d - j = d from by omega, ht, Int.mul_comm t]
      omega
    · rw [if_neg (by omega)]
      exact wz k (by omega) k1
  · unfold upf
    rw [if_neg (by omega)]
    exact ul k k0 (by omega)
  · unfold upf
    rw [if_neg (by omega)]
    exact uz k k0 k1
theorem divI_0 [Lean.Grind.CommRing R] {mk : Nat → (Nat → Int) → R} {f g w u : Int → Int} {n d : Int} (hw : pR mk 7 w = pR mk 7 f) (hz : ∀ k : Int, n < k → k < 7 → w k = 0) (hu : ∀ k : Int, u k = 0) (hu0 : pR mk 7 u = 0) : divI mk f g u w n d (n - d) := ⟨by rw [hw, hu0]; grind, fun k k0 k1 => hz k (by omega) k1, fun k _ _ => hu k, fun k _ _ => hu k⟩
theorem pR_z [Lean.Grind.CommRing R] {co : R → Nat → Int} {mk : Nat → (Nat → Int) → R} (H : PolyR co mk) (n : Nat) : pR mk n (fun _ => 0) = (0 : R) := H.1 _ _ (fun k => by rw [co_pR H, co_zero H]; split <;> rfl)
/-! the class -/
theorem c_RC_divides {a b : Int} {m : rz_M} {K : Int → rz_M → Prop} (h1 : a ≠ 0 → a ∣ b → K 1 m) (h0 : ¬ (a ≠ 0 ∧ a ∣ b) → K 0 m) : rz_C y_RC_divides [rL a, rL b] m K :=
  T_RC_divides_0 _ _ _ _ (bb (fun q => h0 (fun z => z.1 q)) (fun q => ⟨q, bb (fun z => h0 (fun w => z (Int.tmod_eq_zero_of_dvd w.2))) (fun z => h1 q (Int.dvd_of_tmod_eq_zero (Classical.not_not.mp z)))⟩))
theorem c_M_into {a b : Int} {m : rz_M} {K : Int → rz_M → Prop} (h1 : a ≠ 0 → a ∣ b → K 1 m) (h0 : ¬ (a ≠ 0 ∧ a ∣ b) → K 0 m) : rz_C y_M_into [rL a, rL b] m K :=
  T_M_into_0 _ _ _ _ (bb (fun q => h0 (fun z => z.1 q)) (fun q => ⟨q, bb (fun z => h0 (fun w => z (Int.tmod_eq_zero_of_dvd w.2))) (fun z => h1 q (Int.dvd_of_tmod_eq_zero (Classical.not_not.mp z)))⟩))
theorem l_Sp_dr116 {d j t : Int} (hd : 0 ≤ d) (hj : 0 ≤ j) (hjd : j + d < 7) {m0 : rz_M} {W : Int} {w : Int → Int} (hw : hB w W) (ht : bd t 1000000) (hg : hB (m0 59) 1000000) (hW : W ≤ 1000000000000000) {K : Int → rz_M → Prop}
    (h : ∀ m' : rz_M, (∀ i, i ≠ 57 → m' i = m0 i) → (∀ y : Int, 0 ≤ y → y < 7 → m' 57 y = stW (m0 59) t j (d + 1) w y) → rz_E y_Sp_dividesRest 46 [rR 55, rI d, rI (j - 1), rX 0, rX 0, rX 0] [] m' K) : ∀ (r : Nat) (i : Int) (m : rz_M), d + 1 - i = r → 0 ≤ i → (∀ i, i ≠ 57 → m i = m0 i) → (∀ y : Int, 0 ≤ y → y < 7 → m 57 y = stW (m0 59) t j i w y) → rz_E y_Sp_dividesRest 116 [rR 55, rI d, rI j, rL t, rX 1, rI i] [] m K
  | 0, i, m, hr, hi, hf, hm => by
    have e : i = d + 1 := by omega
    subst e
    refine T_Sp_dividesRest_116 _ _ _ _ _ _ (bt (by omega) ?_)
    rw [w32_id (by omega) (by omega), show j + -1 = j - 1 from by omega]
    exact h m hf hm
  | r + 1, i, m, hr, hi, hf, hm => by
    have e1 := hm (j + i) (by omega) (by omega)
    rw [stW_at] at e1
    have b1 := hw (j + i) (by omega) (by omega)
    have b2 := bd_mul ht (hg i hi (by omega))
    unfold bd at b1 b2
    refine T_Sp_dividesRest_116 _ _ _ _ _ _ (bf (by omega) ?_)
    rw [w32_id (z := j + i) (by omega) (by omega), w32_id (z := i + 1) (by omega) (by omega), e1, hf 59 (by decide), w64_id (z := t * m0 59 i) (by omega) (by omega), w64_id (by omega) (by omega)]
    refine ⟨⟨by omega, by omega⟩, ⟨by omega, by omega⟩, ⟨by omega, by omega⟩, l_Sp_dr116 hd hj hjd hw ht hg hW h r (i + 1) _ (by omega) (by omega) (fun x hx => (up_ne hx).trans (hf x hx)) (fun y y0 y1 => ?_)⟩
    rw [← stW_up hi]
    unfold upf
    by_cases q : y = j + i
    · rw [q, up_eq, if_pos rfl]
    · rw [up_nj q, if_neg q]
      exact hm y y0 y1
theorem stW_hB {g w : Int → Int} {t j i W : Int} (hw : hB w W) (ht : bd t 1000000) (hg : hB g 1000000) (hj : 0 ≤ j) (hi : i ≤ 7) : hB (stW g t j i w) (W + 1000000000000) := fun y y0 y1 => by
  unfold stW
  have b1 := hw y y0 y1
  split
  · next q =>
    have b2 := bd_mul ht (hg (y - j) (by omega) (by omega))
    unfold bd at b1 b2 ⊢
    omega
  · exact bd_le b1 (by omega)
theorem l_Sp_dr46 [Lean.Grind.CommRing R] {co : R → Nat → Int} {mk : Nat → (Nat → Int) → R} (H : PolyR co mk) {n d : Int} (hd : 1 ≤ d ∧ d ≤ n) (hn : n ≤ 6) {m0 : rz_M} (h0 : m0 59 d ≠ 0) (hgz : ∀ k : Int, d < k → k < 7 → m0 59 k = 0) (hg : hB (m0 59) 1000000) (hq : ∀ h : R, pR mk 7 (m0 56) = pR mk 7 (m0 59) * h → ∀ k, bd (co h k) 1000000) {K : Int → rz_M → Prop}
    (k1 : ∀ m' : rz_M, (∀ i, i ≠ 57 → i ≠ 58 → m' i = m0 i) → pR mk 7 (m0 56) = pR mk 7 (m0 59) * pR mk 7 (m' 58) → (∀ k : Int, n - d < k → k < 7 → m' 58 k = 0) → K 1 m') (k0 : ¬ zd (pR mk 7 (m0 59)) (pR mk 7 (m0 56)) → ∀ m' : rz_M, (∀ i, i ≠ 57 → i ≠ 58 → m' i = m0 i) → K 0 m') : ∀ (r : Nat) (j : Int) (m : rz_M) (u w : Int → Int), j + 1 = r → j ≤ n - d → (∀ i, i ≠ 57 → i ≠ 58 → m i = m0 i) → (∀ y : Int, 0 ≤ y → y < 7 → m 57 y = w y) → (∀ y : Int, 0 ≤ y → y < 7 → m 58 y = u y) → divI mk (m0 56) (m0 59) u w n d j → hB w (100000 + (n - d - j) * 1000000000000) → rz_E y_Sp_dividesRest 46 [rR 55, rI d, rI j, rX 0, rX 0, rX 0] [] m K
  | 0, j, m, u, w, hr, hj, hf, hw, hu, hI, hb => by
    have i57 : isL 57 7 := ⟨by decide +kernel, by decide +kernel⟩
    have ej : j = -1 := by omega
    subst ej
    refine T_Sp_dividesRest_46 _ _ _ _ (bt (by decide) (c_RC_degreeOf i57 (bb (fun q => k0 (fun z => ?_) m hf) (fun q => k1 m hf ?_ (fun k k0 k1 => by rw [hu k (by omega) k1]; exact hI.2.2.2 k k0 k1)))))
    · obtain ⟨h, e⟩ := z
      have ok := (divI_ok H ⟨by omega, by omega⟩ (by decide) (by omega) h0 hgz hI e).1
      have eh : h = pR mk 7 u := H.1 _ _ (fun k => ok k (by omega))
      have ew : pR mk 7 w = 0 := by
        have := hI.1
        rw [e, eh] at this
        grind
      have nz := dgk_nz (m 57) 7 q
      have rr := dg_rng (m 57)
      have c := congrArg (fun a => co a (dgk (m 57) 7).toNat) ew
      have c' : co (pR mk 7 w) (dgk (m 57) 7).toNat = co (0 : R) (dgk (m 57) 7).toNat := c
      have r2 : 0 ≤ dgk (m 57) 7 ∧ dgk (m 57) 7 ≤ 6 := ⟨q, rr.2⟩
      rw [co_pR H, co_zero H, if_pos (by omega), Int.toNat_of_nonneg r2.1, ← hw _ r2.1 (by omega)] at c'
      exact nz c'
    · have rr := dg_rng (m 57)
      have ew : pR mk 7 w = 0 := H.1 _ _ (fun k => by
        rw [co_pR H, co_zero H]
        split
        · rw [← hw k (by omega) (by omega)]
          exact dgk_top (m 57) 7 k (by show dg (m 57) < k; omega) (by omega)
        · rfl)
      have eu : pR mk 7 (m 58) = pR mk 7 u := pR_congr H (fun k a b => hu k a (by omega))
      rw [hI.1, ew, eu]
      grind
  | r + 1, j, m, u, w, hr, hj, hf, hw, hu, hI, hb => by
    have f59 := hf 59 (by decide) (by decide)
    have ew := hw (j + d) (by omega) (by omega)
    have bw := hb (j + d) (by omega) (by omega)
    have nm : (n - d - j) * 1000000000000 ≤ 6 * 1000000000000 := Int.mul_le_mul_of_nonneg_right (by omega) (by decide)
    have nd : (∀ t : Int, w (j + d) = m0 59 d * t → ¬ bd t 1000000) → ¬ zd (pR mk 7 (m0 59)) (pR mk 7 (m0 56)) := fun hh z => by
      obtain ⟨h, e⟩ := z
      exact hh _ ((divI_ok H ⟨by omega, by omega⟩ (by omega) (by omega) h0 hgz hI e).2 (by omega)) (hq h e _)
    refine T_Sp_dividesRest_46 _ _ _ _ (bf (by omega) ⟨⟨by omega, by omega⟩, ?_⟩)
    rw [w32_id (z := j + d) (by omega) (by omega), f59, ew]
    refine ⟨⟨by omega, by omega⟩, c_RC_divides (fun _ dv => b1n ⟨⟨by omega, by omega⟩, ⟨by omega, by omega⟩, ?_⟩) (fun q => b0n (k0 (nd (fun t et _ => q ⟨h0, ⟨t, et⟩⟩)) m hf))⟩
    rw [f59, ew]
    obtain ⟨t, et⟩ := dv
    have etd : Int.tdiv (w (j + d)) (m0 59 d) = t := by rw [et, Int.mul_comm]; exact Int.mul_tdiv_cancel _ h0
    have tb : t.natAbs ≤ (w (j + d)).natAbs := ab_div h0 et.symm
    have twb := bd_abs bw
    rw [etd, w64_id (by omega) (by omega)]
    have uniq : ∀ t' : Int, w (j + d) = m0 59 d * t' → t' = t := fun t' e' => Int.eq_of_mul_eq_mul_left h0 (by rw [← e', et])
    refine ⟨h0, bb (fun q => T_Sp_dividesRest_104 _ _ (k0 (nd (fun t' e' b' => by rw [uniq t' e'] at b'; unfold bd at b'; omega)) m hf)) (fun q => bb (fun q2 => T_Sp_dividesRest_106 _ _ _ _ _ ⟨⟨by omega, by omega⟩, ?_⟩) (fun q2 => T_Sp_dividesRest_104 _ _ (k0 (nd (fun t' e' b' => by rw [uniq t' e'] at b'; unfold bd at b'; omega)) m hf)))⟩
    have bt' : bd t 1000000 := ⟨q2, by omega⟩
    have W0 := bd_nn bw
    have m59 : rz_up m 58 j t 59 = m0 59 := by rw [up_ne (by decide), f59]
    refine l_Sp_dr116 (m0 := rz_up m 58 j t) (w := w) (by omega) (by omega) (by omega) hb bt' (by rw [m59]; exact hg) (by omega) (fun m' f' w' => ?_) (d + 1).toNat 0 (rz_up m 58 j t) (by omega) (Int.le_refl _) (fun _ _ => rfl) (fun y y0 y1 => by rw [stW_0, up_ne (by decide)]; exact hw y y0 y1)
    rw [m59] at w'
    refine l_Sp_dr46 H hd hn h0 hgz hg hq k1 k0 r (j - 1) m' (upf u j t) (stW (m0 59) t j (d + 1) w) (by omega) (by omega) (fun i i1 i2 => by rw [f' i i1, up_ne i2]; exact hf i i1 i2) w' (fun y y0 y1 => ?_) (divI_next H (by omega) (by omega) hj (by omega) hgz hI et) ?_
    · rw [f' 58 (by decide)]
      unfold upf
      by_cases z : y = j
      · rw [z, up_eq, if_pos rfl]
      · rw [up_nj z, if_neg z]
        exact hu y y0 y1
    · have := stW_hB (i := d + 1) hb bt' hg (show 0 ≤ j by omega) (by omega)
      refine fun y y0 y1 => bd_le (this y y0 y1) ?_
      rw [show n - d - (j - 1) = (n - d - j) + 1 from by omega, Int.add_mul (n - d - j)]
      omega
theorem c_Sp_dividesRest [Lean.Grind.CommRing R] {co : R → Nat → Int} {mk : Nat → (Nat → Int) → R} (H : PolyR co mk) {n d : Int} (hd : 1 ≤ d ∧ d ≤ 6) (hn : n ≤ 6) (hn0 : 0 ≤ n) {m0 : rz_M} (em : m0 55 10 = n) (hfz : ∀ k : Int, n < k → k < 7 → m0 56 k = 0) (hfb : hB (m0 56) 100000) (hfn : m0 56 n ≠ 0) (h0 : m0 59 d ≠ 0) (hgz : ∀ k : Int, d < k → k < 7 → m0 59 k = 0) (hg : hB (m0 59) 1000000) (hq : ∀ h : R, pR mk 7 (m0 56) = pR mk 7 (m0 59) * h → ∀ k, bd (co h k) 1000000) {K : Int → rz_M → Prop}
    (k1 : ∀ m' : rz_M, (∀ i, i ≠ 57 → i ≠ 58 → m' i = m0 i) → pR mk 7 (m0 56) = pR mk 7 (m0 59) * pR mk 7 (m' 58) → (∀ k : Int, n - d < k → k < 7 → m' 58 k = 0) → d ≤ n → K 1 m') (k0 : ¬ zd (pR mk 7 (m0 59)) (pR mk 7 (m0 56)) → ∀ m' : rz_M, (∀ i, i ≠ 57 → i ≠ 58 → m' i = m0 i) → K 0 m') : rz_C y_Sp_dividesRest [rR 55, rI d] m0 K := by
  have i56 : isL 56 7 := ⟨by decide +kernel, by decide +kernel⟩
  have i57 : isL 57 7 := ⟨by decide +kernel, by decide +kernel⟩
  refine T_Sp_dividesRest_0 _ _ _ ?_
  rw [em]
  refine bb (fun q => k0 (fun z => ?_) m0 (fun _ _ _ => rfl)) (fun q => ⟨⟨by omega, by omega⟩, bt h0 (c_RC_copy i56 i57 (c_RC_clear (n := 7) (by decide +kernel) (by decide +kernel) (by decide) ?_))⟩)
  · obtain ⟨h, e⟩ := z
    have tf := row_tz H (d := n) ⟨hn0, by omega⟩ hfn hfz
    have tg := row_tz H (d := d) ⟨by omega, by omega⟩ h0 hgz
    obtain ⟨i, j, hi, _, hij⟩ := zd_deg H tf e
    have := tz_uniq hi tg
    omega
  · have e55 : wr (wr m0 57 7 (m0 56)) 58 7 (fun _ => 0) 55 10 = n := by rw [wr_ne (by decide), wr_ne (by decide)]; exact em
    rw [e55, w32_id (by omega) (by omega)]
    refine l_Sp_dr46 H ⟨hd.1, by omega⟩ hn h0 hgz hg hq (fun m' a b c => k1 m' a b c (by omega)) k0 (n - d + 1).toNat (n - d) _ (fun _ => 0) (m0 56) (by omega) (Int.le_refl _) (fun i i1 i2 => by rw [wr_ne i2, wr_ne i1]) (fun y y0 y1 => by rw [wr_ne (by decide), wr_in y0 y1]) (fun y y0 y1 => wr_in y0 y1) (divI_0 rfl hfz (fun _ => rfl) (pR_z H 7)) ?_
    rw [show n - d - (n - d) = 0 from by omega, Int.zero_mul, Int.add_zero]
    exact hfb
end
