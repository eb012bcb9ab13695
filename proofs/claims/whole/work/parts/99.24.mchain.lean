/-! the reference's chain: all of it -/
section
variable {L dA bD : Nat} {A B : Int → Int} {m0 : rz_M} {K : Int → rz_M → Prop}
theorem l_M_ar72 (hL : 2 ≤ L ∧ L ≤ 6) (hd : bD < dA ∧ dA ≤ 6) (B0 : B bD ≠ 0) (hA : ∀ i : Int, (dA : Int) < i → i < 7 → A i = 0) {X Y : Int} (bA : ∀ i : Int, 0 ≤ i → i < 7 → bd (A i) X) (bB : ∀ i : Int, 0 ≤ i → i < 7 → bd (B i) Y) (Y1 : 1 ≤ Y) (lim : nbd X Y (dA - bD + 1) ≤ LIM) (vB : ∀ i : Nat, i ≤ 6 → MV m0 (7 * (L - 1) + i) (B i)) {v1 : Int} (hK : ∀ m' : rz_M, frQ (arP L) m0 m' → (∀ i : Nat, i ≤ 6 → MV m' (7 * L + i) (lowN A B dA bD (dA - bD + 1) i)) → rz_E y_M_addRest 232 [rR 221, rI v1, rX 0, rX 0, rI ((7 * L : Nat) : Int), rX 0, rX 0, rI ((bD : Int) - 1), rX 0] [] m' K) : ∀ (r t : Nat) (m : rz_M), dA - bD + 1 - t = r → t ≤ dA - bD + 1 → frQ (arP L) m0 m → (∀ i : Nat, i ≤ 6 → MV m (7 * L + i) (lowN A B dA bD t i)) → rz_E y_M_addRest 72 [rR 221, rI v1, rX 0, rI ((7 * (L - 1) : Nat) : Int), rI ((7 * L : Nat) : Int), rX 0, rI bD, rI ((dA : Int) - t), rX 0] [] m K := by
  have X0 := bd_nn (bA 0 (by decide) (by decide))
  intro r
  induction r with
  | zero =>
    intro t m hr ht hf hv
    have e : t = dA - bD + 1 := by omega
    subst e
    refine T_M_addRest_72 _ _ _ _ _ _ _ (bt (by omega) ?_)
    rw [w32_id (z := (bD : Int) - 1) (by omega) (by omega)]
    exact hK m hf hv
  | succ r ih =>
    intro t m hr ht hf hv
    have ej : (dA : Int) - t = ((dA - t : Nat) : Int) := by omega
    have mono := (nbd_mono X0 Y1 (t := t + 1) (dA - bD + 1 - (t + 1))).2
    rw [show t + 1 + (dA - bD + 1 - (t + 1)) = dA - bD + 1 from by omega] at mono
    have lb := lowN_bd (A := A) (B := B) (dA := dA) (bD := bD) hd.2 hA bA bB (by omega) t (by omega)
    have lz := lowN_z (A := A) (B := B) (dA := dA) (bD := bD) hA t (by omega)
    have en : nbd X Y t * (2 * Y) = nbd X Y (t + 1) := rfl
    rw [ej]
    refine l_M_arlow (m0 := m) (X := nbd X Y t) (Y := Y) (h := lowN A B dA bD t) (B := B) (j := dA - t) (bD := bD) hL (by omega) (by omega) lb bB (fun i a b => lz i (by omega) b) B0 (by rw [en]; omega) (fun i hi => MV_kq (vB i hi) hf (by omega) (by unfold arP; omega)) hv (fun m' f' v' => ?_)
    rw [show ((dA - t : Nat) : Int) - 1 = (dA : Int) - ((t + 1 : Nat) : Int) from by omega]
    refine ih (t + 1) m' (by omega) (by omega) (frQ_tr hf f') (fun i hi => ?_)
    have := v' i hi
    show MV m' _ (lowF (B bD) (lowN A B dA bD t ((dA : Int) - t)) (lowN A B dA bD t) B ((dA : Int) - t) bD i)
    rw [ej]
    exact this
theorem l_M_ar41 (hL : 2 ≤ L ∧ L ≤ 6) (vA : ∀ i : Nat, i ≤ 6 → MV m0 (7 * (L - 2) + i) (A i)) {v1 : Int} (hK : ∀ m' : rz_M, frQ (arP L) m0 m' → (∀ i : Nat, i ≤ 6 → MV m' (7 * L + i) (A i)) → rz_E y_M_addRest 72 [rR 221, rI v1, rX 0, rI ((7 * (L - 1) : Nat) : Int), rI ((7 * L : Nat) : Int), rX 0, rI bD, rI dA, rX 0] [] m' K) : ∀ (r k : Nat) (m : rz_M), 7 - k = r → k ≤ 7 → frQ (arP L) m0 m → (∀ i : Nat, i < k → MV m (7 * L + i) (A i)) → rz_E y_M_addRest 41 [rR 221, rI v1, rI ((7 * (L - 2) : Nat) : Int), rI ((7 * (L - 1) : Nat) : Int), rI ((7 * L : Nat) : Int), rI dA, rI bD, rI k, rX 0] [] m K := by
  intro r
  induction r with
  | zero =>
    intro k m hr hk hf hv
    exact T_M_addRest_41 _ _ _ _ _ _ _ _ _ (bt (by omega) (hK m hf (fun i hi => hv i (by omega))))
  | succ r ih =>
    intro k m hr hk hf hv
    refine T_M_addRest_41 _ _ _ _ _ _ _ _ _ (bf (by omega) ?_)
    rw [w32_id (z := ((7 * (L - 2) : Nat) : Int) + k) (by omega) (by omega), show ((7 * (L - 2) : Nat) : Int) + (k : Int) = ((7 * (L - 2) + k : Nat) : Int) from by omega, w32_id (z := ((7 * L : Nat) : Int) + k) (by omega) (by omega), show ((7 * L : Nat) : Int) + (k : Int) = ((7 * L + k : Nat) : Int) from by omega, w32_id (z := (k : Int) + 1) (by omega) (by omega)]
    refine c_M_copyBig (a := 7 * (L - 2) + k) (b := 7 * L + k) (by omega) (by omega) (by omega) (MV_kq (vA k (by omega)) hf (by omega) (by unfold arP; omega)) (Or.inl rfl) (fun m' f' b' => ih (k + 1) m' (by omega) (by omega) (frQ_st (by unfold arP; omega) hf f') (fun i hi => ?_))
    by_cases q : i = k
    · subst q
      rw [if_pos rfl] at b'
      exact b'
    · exact MV_kp (hv i (by omega)) f' (by omega)
/-- the numbers' signs turn, the degree is written -/
theorem l_M_ar259 (hL : 2 ≤ L ∧ L ≤ 6) {w : Int → Int} {d : Nat} (hd : d ≤ 6) {v1 : Int} (hv1 : v1 = (L : Int) - 2) (hK : ∀ m' : rz_M, (∃ m3 : rz_M, frQ (arP L) m0 m3 ∧ m' = rz_up m3 248 L d ∧ ∀ i : Nat, i ≤ 6 → MV m3 (7 * L + i) (if i ≤ d then -(w i) else 0)) → K 0 m') : ∀ (r k : Nat) (m : rz_M), 7 - k = r → k ≤ 7 → frQ (arP L) m0 m → (∀ i : Nat, i ≤ 6 → MV m (7 * L + i) (if i < k then (if i ≤ d then -(w i) else 0) else w i)) → rz_E y_M_addRest 259 [rR 221, rI v1, rX 0, rX 0, rI ((7 * L : Nat) : Int), rX 0, rX 0, rI d, rI k] [] m K := by
  intro r
  induction r with
  | zero =>
    intro k m hr hk hf hv
    refine T_M_addRest_259 _ _ _ _ _ _ (bt (by omega) ?_)
    rw [hv1, w32_id (by omega) (by omega), show (L : Int) - 2 + 2 = L from by omega]
    exact ⟨⟨by omega, by omega⟩, hK _ ⟨m, hf, rfl, fun i hi => by
      have := hv i hi
      rwa [if_pos (by omega)] at this⟩⟩
  | succ r ih =>
    intro k m hr hk hf hv
    have vk := hv k (by omega)
    rw [if_neg (by omega)] at vk
    have s3 := sgn3 (w k)
    have nx : ∀ m' : rz_M, frS (7 * L + k) m m' → MV m' (7 * L + k) (if k ≤ d then -(w k) else 0) → rz_E y_M_addRest 259 [rR 221, rI v1, rX 0, rX 0, rI ((7 * L : Nat) : Int), rX 0, rX 0, rI d, rI ((k : Int) + 1)] [] m' K := fun m' f' b' => ih (k + 1) m' (by omega) (by omega) (frQ_st (by unfold arP; omega) hf f') (fun i hi => by
      by_cases q : i = k
      · subst q
        rw [if_pos (by omega)]
        exact b'
      · have h := MV_kp (hv i hi) f' (by omega)
        have e : (if i < k then (if i ≤ d then -(w i) else 0) else w i) = (if i < k + 1 then (if i ≤ d then -(w i) else 0) else w i) := by
          by_cases z : i < k
          · rw [if_pos z, if_pos (show i < k + 1 by omega)]
          · rw [if_neg z, if_neg (show ¬ i < k + 1 by omega)]
        rw [e] at h
        exact h)
    refine T_M_addRest_259 _ _ _ _ _ _ (bf (by omega) ?_)
    rw [w32_id (z := ((7 * L : Nat) : Int) + k) (by omega) (by omega), show ((7 * L : Nat) : Int) + (k : Int) = ((7 * L + k : Nat) : Int) from by omega, w32_id (z := (k : Int) + 1) (by omega) (by omega), vk.2.1, w32_id (z := -(w k).sign) (by omega) (by omega)]
    refine bb (fun q => ⟨⟨by omega, by omega⟩, ⟨by omega, by omega⟩, nx _ (frS_sgn (frS_rf _ m)) ?_⟩) (fun q => c_M_setBig (s := 7 * L + k) (by omega) (by decide) (fun m' f' b' => nx m' f' ?_))
    · rw [if_pos (by omega)]
      have eb : br (rz_up m 247 ((7 * L + k : Nat) : Int) (-(w k).sign)) (7 * L + k) = br m (7 * L + k) := by unfold br; rw [up_ne (by decide)]
      exact ⟨by rw [eb]; exact vk.1, by rw [up_eq, Int.sign_neg], by rw [eb, vk.2.2, Int.natAbs_neg]⟩
    · rw [if_neg (by omega)]
      exact b'
theorem l_M_ar232 (hL : 2 ≤ L ∧ L ≤ 6) {w : Int → Int} {d : Nat} (hdb : bD ≤ 6) (h0 : w d ≠ 0) (hz : ∀ i : Int, (d : Int) < i → i < bD → w i = 0) {m : rz_M} (hv : ∀ i : Nat, i ≤ 6 → MV m (7 * L + i) (w i)) {v1 : Int} (hK : rz_E y_M_addRest 259 [rR 221, rI v1, rX 0, rX 0, rI ((7 * L : Nat) : Int), rX 0, rX 0, rI d, rI 0] [] m K) : ∀ r : Nat, d + r < bD → rz_E y_M_addRest 232 [rR 221, rI v1, rX 0, rX 0, rI ((7 * L : Nat) : Int), rX 0, rX 0, rI ((d + r : Nat) : Int), rX 0] [] m K
  | 0, hr => by
    refine T_M_addRest_232 _ _ _ _ _ (bf (by omega) ?_)
    rw [w32_id (by omega) (by omega), show ((7 * L : Nat) : Int) + ((d + 0 : Nat) : Int) = ((7 * L + d : Nat) : Int) from by omega, (hv d (by omega)).2.1]
    exact ⟨⟨by omega, by omega⟩, bt (fun z => h0 (Int.sign_eq_zero_iff_zero.mp z)) hK⟩
  | r + 1, hr => by
    refine T_M_addRest_232 _ _ _ _ _ (bf (by omega) ?_)
    rw [w32_id (by omega) (by omega), show ((7 * L : Nat) : Int) + ((d + (r + 1) : Nat) : Int) = ((7 * L + (d + (r + 1)) : Nat) : Int) from by omega, (hv (d + (r + 1)) (by omega)).2.1, hz _ (by omega) (by omega), w32_id (by omega) (by omega), show ((d + (r + 1) : Nat) : Int) + -1 = ((d + r : Nat) : Int) from by omega]
    exact ⟨⟨by omega, by omega⟩, bf (fun q => q rfl) (l_M_ar232 hL hdb h0 hz hv hK r (by omega))⟩
theorem c_M_addRest (hL : 2 ≤ L ∧ L ≤ 6) (hd : bD < dA ∧ dA ≤ 6) (B0 : B bD ≠ 0) (hA : ∀ i : Int, (dA : Int) < i → i < 7 → A i = 0) {X Y : Int} (bA : ∀ i : Int, 0 ≤ i → i < 7 → bd (A i) X) (bB : ∀ i : Int, 0 ≤ i → i < 7 → bd (B i) Y) (Y1 : 1 ≤ Y) (lim : nbd X Y (dA - bD + 1) ≤ LIM) (vA : ∀ i : Nat, i ≤ 6 → MV m0 (7 * (L - 2) + i) (A i)) (vB : ∀ i : Nat, i ≤ 6 → MV m0 (7 * (L - 1) + i) (B i)) (eA : m0 248 ((L - 2 : Nat) : Int) = dA) (eB : m0 248 ((L - 1 : Nat) : Int) = bD) {d : Nat} (hd1 : d < bD) (hd2 : nxR A B dA bD d ≠ 0) (hd3 : ∀ j : Int, (d : Int) < j → j < 7 → nxR A B dA bD j = 0) (hK : ∀ m' : rz_M, (∃ m3 : rz_M, frQ (arP L) m0 m3 ∧ m' = rz_up m3 248 L d ∧ ∀ i : Nat, i ≤ 6 → MV m3 (7 * L + i) (nxR A B dA bD i)) → K 0 m') : rz_C y_M_addRest [rR 221, rI ((L - 2 : Nat) : Int)] m0 K := by
  refine T_M_addRest_0 _ _ _ ?_
  rw [w32_id (z := ((L - 2 : Nat) : Int) + 1) (by omega) (by omega), w32_id (z := ((L - 2 : Nat) : Int) + 2) (by omega) (by omega), w32_id (z := 7 * ((L - 2 : Nat) : Int)) (by omega) (by omega), show ((L - 2 : Nat) : Int) + 1 = ((L - 1 : Nat) : Int) from by omega, show ((L - 2 : Nat) : Int) + 2 = (L : Int) from by omega, w32_id (z := 7 * ((L - 1 : Nat) : Int)) (by omega) (by omega), w32_id (z := 7 * (L : Int)) (by omega) (by omega), show 7 * ((L - 2 : Nat) : Int) = ((7 * (L - 2) : Nat) : Int) from by omega, show 7 * ((L - 1 : Nat) : Int) = ((7 * (L - 1) : Nat) : Int) from by omega, show 7 * (L : Int) = ((7 * L : Nat) : Int) from by omega, eA, eB]
  have wn : ∀ i : Nat, i < bD → -(lowN A B dA bD (dA - bD + 1) i) = nxR A B dA bD i := fun i hi => by
    unfold nxR
    rw [if_pos (by omega)]
  refine ⟨⟨by omega, by omega⟩, ⟨by omega, by omega⟩, l_M_ar41 hL vA (fun m1 f1 v1 => ?_) 7 0 m0 rfl (Nat.zero_le _) (frQ_rf _ _) (fun i hi => by omega)⟩
  have go := l_M_ar72 (m0 := m1) (K := K) (v1 := ((L - 2 : Nat) : Int)) hL hd B0 hA bA bB Y1 lim (fun i hi => MV_kq (vB i hi) f1 (by omega) (by unfold arP; omega)) (fun m2 f2 v2 => ?_) (dA - bD + 1) 0 m1 (by omega) (Nat.zero_le _) (frQ_rf _ _) v1
  · rw [show (dA : Int) - ((0 : Nat) : Int) = dA from by omega] at go
    exact go
  · have g2 := l_M_ar232 (m := m2) (K := K) (v1 := ((L - 2 : Nat) : Int)) (w := lowN A B dA bD (dA - bD + 1)) (bD := bD) (d := d) hL (by omega) (fun z => hd2 (by rw [← wn d hd1, z]; rfl)) (fun i a b => by
      have e := wn i.toNat (by omega)
      have h3 := hd3 i a (by omega)
      rw [Int.toNat_of_nonneg (by omega)] at e
      omega) v2 ?_ (bD - 1 - d) (by omega)
    · rw [show d + (bD - 1 - d) = bD - 1 from by omega] at g2
      rw [show (bD : Int) - 1 = ((bD - 1 : Nat) : Int) from by omega]
      exact g2
    · refine l_M_ar259 (m0 := m2) (w := lowN A B dA bD (dA - bD + 1)) (d := d) hL (by omega) (by omega) (fun m' ⟨m3, f3, e3, v3⟩ => hK m' ⟨m3, frQ_tr (frQ_tr f1 f2) f3, e3, fun i hi => ?_⟩) 7 0 m2 rfl (Nat.zero_le _) (frQ_rf _ _) (fun i hi => by rw [if_neg (by omega)]; exact v2 i hi)
      have h := v3 i hi
      by_cases q : i ≤ d
      · rw [if_pos q, wn i (by omega)] at h
        exact h
      · rw [if_neg q] at h
        rw [hd3 i (by omega) (by omega)]
        exact h
end
/-- the chain lies in the slots -/
def SM (m : rz_M) (v : Nat → Int → Int) (dd : Nat → Nat) (L : Nat) : Prop := m 221 37 = L ∧ ∀ i, i < L → m 248 i = dd i ∧ ∀ j : Nat, j ≤ 6 → MV m (7 * i + j) (v i j)
def frM (m0 m : rz_M) : Prop := (∀ x : Nat, x ≠ 221 → x ≠ 246 → x ≠ 247 → x ≠ 248 → m x = m0 x) ∧ ∀ y : Int, y ≠ 37 → m 221 y = m0 221 y
theorem MV_fr {m m' : rz_M} {s : Nat} {v : Int} (h : MV m s v) (e1 : m' 246 = m 246) (e2 : m' 247 = m 247) : MV m' s v := by
  have e : br m' s = br m s := by unfold br; rw [e1]
  exact ⟨by rw [e]; exact h.1, by rw [e2]; exact h.2.1, by rw [e]; exact h.2.2⟩
section
variable {R : Type}
theorem l_M_mc135 [Lean.Grind.CommRing R] {co : R → Nat → Int} {mk : Nat → (Nat → Int) → R} (H : PolyR co mk) {m0 : rz_M} {c : Int → Int} {K : Int → rz_M → Prop} (hK : ∀ (m' : rz_M) (v : Nat → Int → Int) (dd : Nat → Nat) (L : Nat), frM m0 m' → chI co mk v dd L → dd (L - 1) = 0 → v 0 = c → SM m' v dd L → K 0 m') : ∀ (r L : Nat) (v : Nat → Int → Int) (dd : Nat → Nat) (m : rz_M), 7 - L = r → frM m0 m → chI co mk v dd L → v 0 = c → SM m v dd L → rz_E y_M_makeChain 135 [rR 221, rX 0, rX 0, rX 0] [] m K := by
  have base : ∀ (L : Nat) (v : Nat → Int → Int) (dd : Nat → Nat) (m : rz_M), frM m0 m → chI co mk v dd L → v 0 = c → SM m v dd L → dd (L - 1) = 0 → rz_E y_M_makeChain 135 [rR 221, rX 0, rX 0, rX 0] [] m K := fun L v dd m hf hc hv0 hs h0 => by
    have h2 := hc.1
    have l7 := (hc.2.1 (L - 1) (by omega)).1
    refine T_M_makeChain_135 _ _ ?_
    rw [hs.1, w32_id (z := (L : Int) - 1) (by omega) (by omega), show (L : Int) - 1 = ((L - 1 : Nat) : Int) from by omega, (hs.2 (L - 1) (by omega)).1]
    exact bb (fun _ => hK m v dd L hf hc h0 hv0 hs) (fun _ => ⟨⟨by omega, by omega⟩, bt (by omega) (hK m v dd L hf hc h0 hv0 hs)⟩)
  intro r
  induction r with
  | zero =>
    intro L v dd m hr hf hc hv0 hs
    have h2 := hc.1
    have := (hc.2.1 (L - 1) (by omega)).1
    exact base L v dd m hf hc hv0 hs (by omega)
  | succ r ih =>
    intro L v dd m hr hf hc hv0 hs
    have h2 := hc.1
    by_cases q : dd (L - 1) = 0
    · exact base L v dd m hf hc hv0 hs q
    · obtain ⟨L6, d, d1, d2, d3, lb, nx, X, Y, bX, bY, Y1, lim⟩ := ch_next H hc (by omega)
      have vA := hc.2.1 (L - 2) (by omega)
      have vB := hc.2.1 (L - 1) (by omega)
      have dAB := hc.2.2.2.2.2.1
      refine T_M_makeChain_135 _ _ ?_
      rw [hs.1, w32_id (z := (L : Int) - 1) (by omega) (by omega), show (L : Int) - 1 = ((L - 1 : Nat) : Int) from by omega, (hs.2 (L - 1) (by omega)).1, w32_id (z := (L : Int) - 2) (by omega) (by omega), show (L : Int) - 2 = ((L - 2 : Nat) : Int) from by omega]
      refine bf (by omega) ⟨⟨by omega, by omega⟩, bf (by omega) ?_⟩
      refine c_M_addRest (L := L) (dA := dd (L - 2)) (bD := dd (L - 1)) (A := v (L - 2)) (B := v (L - 1)) ⟨h2, L6⟩ ⟨dAB, by omega⟩ vB.2.1 vA.2.2.1 bX bY Y1 lim (hs.2 (L - 2) (by omega)).2 (hs.2 (L - 1) (by omega)).2 (hs.2 (L - 2) (by omega)).1 (hs.2 (L - 1) (by omega)).1 d1 d2 d3 (fun m1 ⟨m3, f3, e1, v3⟩ => ?_)
      have e37 : m1 221 37 = L := by rw [e1, up_ne (by decide), f3.1 221 (by decide) (by decide)]; exact hs.1
      rw [e37, w32_id (z := (L : Int) + 1) (by omega) (by omega)]
      have fr6 : rz_up m1 221 37 ((L : Int) + 1) 246 = m3 246 ∧ rz_up m1 221 37 ((L : Int) + 1) 247 = m3 247 := by rw [e1]; exact ⟨by rw [up_ne (by decide), up_ne (by decide)], by rw [up_ne (by decide), up_ne (by decide)]⟩
      refine ih (L + 1) (fun i => if i = L then nxR (v (L - 2)) (v (L - 1)) (dd (L - 2)) (dd (L - 1)) else v i) (fun i => if i = L then d else dd i) _ (by omega) ⟨fun x a b c' e' => ?_, fun y hy => ?_⟩ (nx _ _ (fun i hi => if_neg (by omega)) (if_pos rfl) (fun i hi => if_neg (by omega)) (if_pos rfl)) ?_ ⟨?_, fun i hi => ⟨?_, fun j hj => ?_⟩⟩
      · rw [up_ne a, e1, up_ne e', f3.1 x b c']
        exact hf.1 x a b c' e'
      · rw [up_nj hy, e1, up_ne (by decide), f3.1 221 (by decide) (by decide)]
        exact hf.2 y hy
      · show (if 0 = L then _ else v 0) = c
        rw [if_neg (by omega)]
        exact hv0
      · rw [up_eq]; omega
      · dsimp only
        rw [up_ne (by decide), e1]
        by_cases z : i = L
        · subst z
          rw [up_eq, if_pos rfl]
        · rw [up_nj (by omega), f3.1 248 (by decide) (by decide), if_neg z]
          exact (hs.2 i (by omega)).1
      · dsimp only
        by_cases z : i = L
        · subst z
          rw [if_pos rfl]
          exact MV_fr (v3 j hj) fr6.1 fr6.2
        · rw [if_neg z]
          refine MV_fr (MV_kq ((hs.2 i (by omega)).2 j hj) f3 ?_ ?_) fr6.1 fr6.2
          · omega
          · unfold arP; omega
theorem l_M_mc60 [Lean.Grind.CommRing R] {co : R → Nat → Int} {mk : Nat → (Nat → Int) → R} (H : PolyR co mk) {m0 : rz_M} {c : Int → Int} {d : Nat} (hd : 1 ≤ d ∧ d ≤ 6) (ec : ∀ j : Int, 0 ≤ j → j < 7 → m0 223 j = c j) (h0 : c d ≠ 0) (hz : ∀ j : Int, (d : Int) < j → j < 7 → c j = 0) (hb : hB c (gbd d)) (hc : ∀ f' : R, der co f' (pR mk 7 c) → cop mk (pR mk 7 c) f') {K : Int → rz_M → Prop} (hK : ∀ (m' : rz_M) (v : Nat → Int → Int) (dd : Nat → Nat) (L : Nat), frM m0 m' → chI co mk v dd L → dd (L - 1) = 0 → v 0 = c → SM m' v dd L → K 0 m') : ∀ (r k : Nat) (m : rz_M), 7 - k = r → k ≤ 7 → frQ (fun s => s < 14) m0 m → (∀ j : Nat, j < k → MV m j (c j) ∧ MV m (7 + j) (drow c j)) → rz_E y_M_makeChain 60 [rR 221, rX 0, rI d, rI k] [] m K := by
  have gl : ∀ e : Nat, e ≤ 6 → (0 : Int) ≤ gbd e ∧ gbd e ≤ 1000000000000 := by decide +kernel
  have g := gl d hd.2
  intro r
  induction r with
  | zero =>
    intro k m hr hk hf hv
    have e : k = 7 := by omega
    subst e
    refine T_M_makeChain_60 _ _ _ _ (bt (by omega) ⟨⟨by decide, by decide⟩, ⟨by decide, by decide⟩, ?_⟩)
    rw [w32_id (z := (d : Int) - 1) (by omega) (by omega)]
    have e6 : ∀ x : Nat, x = 246 ∨ x = 247 → rz_up (rz_up (rz_up m 248 0 d) 248 1 ((d : Int) - 1)) 221 37 2 x = m x := fun x hx => by rw [up_ne (by omega), up_ne (by omega), up_ne (by omega)]
    refine l_M_mc135 H hK 5 2 _ _ _ rfl ⟨fun x a b c' e' => ?_, fun y hy => ?_⟩ (ch_init H hd h0 hz hb hc) rfl ⟨up_eq, fun i hi => ⟨?_, fun j hj => ?_⟩⟩
    · rw [up_ne a, up_ne e', up_ne e', hf.1 x b c']
    · rw [up_nj hy, up_ne (by decide), up_ne (by decide), hf.1 221 (by decide) (by decide)]
    · dsimp only
      rw [up_ne (by decide)]
      by_cases q : i = 0
      · subst q
        rw [if_pos rfl, up_nj (by decide)]
        exact up_eq
      · have e : i = 1 := by omega
        subst e
        rw [if_neg (by decide)]
        show rz_up _ 248 1 _ 248 1 = _
        rw [up_eq]
        omega
    · dsimp only
      by_cases q : i = 0
      · subst q
        rw [if_pos rfl, show 7 * 0 + j = j from by omega]
        exact MV_fr (hv j (by omega)).1 (e6 246 (Or.inl rfl)) (e6 247 (Or.inr rfl))
      · have e : i = 1 := by omega
        subst e
        rw [if_neg (by decide), show 7 * 1 + j = 7 + j from by omega]
        exact MV_fr (hv j (by omega)).2 (e6 246 (Or.inl rfl)) (e6 247 (Or.inr rfl))
  | succ r ih =>
    intro k m hr hk hf hv
    have e223 : ∀ mm : rz_M, frQ (fun s => s < 14) m0 mm → ∀ j : Int, 0 ≤ j → j < 7 → mm 223 j = c j := fun mm f j a b => by rw [f.1 223 (by decide) (by decide)]; exact ec j a b
    have ck := hb k (by omega) (by omega)
    unfold bd at ck
    refine T_M_makeChain_60 _ _ _ _ (bf (by omega) ⟨⟨by omega, by omega⟩, ?_⟩)
    rw [e223 m hf k (by omega) (by omega), w32_id (z := 7 + (k : Int)) (by omega) (by omega), show 7 + (k : Int) = ((7 + k : Nat) : Int) from by omega, w32_id (z := (k : Int) + 1) (by omega) (by omega)]
    refine c_M_setBig (s := k) (by omega) (by omega) (fun m1 f1 b1 => ?_)
    have hf1 : frQ (fun s => s < 14) m0 m1 := frQ_st (by show k < 14; omega) hf f1
    have fin : ∀ m2 : rz_M, frS (7 + k) m1 m2 → MV m2 (7 + k) (drow c k) → rz_E y_M_makeChain 60 [rR 221, rX 0, rI d, rI ((k : Int) + 1)] [] m2 K := fun m2 f2 b2 => ih (k + 1) m2 (by omega) (by omega) (frQ_st (by show 7 + k < 14; omega) hf1 f2) (fun j hj => by
      by_cases q : j = k
      · subst q
        exact ⟨MV_kp b1 f2 (by omega), b2⟩
      · have h := hv j (by omega)
        exact ⟨MV_kp (MV_kp h.1 f1 (by omega)) f2 (by omega), MV_kp (MV_kp h.2 f1 (by omega)) f2 (by omega)⟩)
    refine bb (fun q => c_M_setBig (s := 7 + k) (by omega) (by decide) (fun m2 f2 b2 => fin m2 f2 ?_)) (fun q => ⟨⟨by omega, by omega⟩, ?_⟩)
    · have e : drow c k = 0 := by unfold drow; rw [if_neg (by omega)]
      rw [e]
      exact b2
    · have ck1 := hb ((k : Int) + 1) (by omega) (by omega)
      have cm := bd_mul (show bd ((k : Int) + 1) 7 from ⟨by omega, by omega⟩) ck1
      have e : drow c k = ((k : Int) + 1) * c ((k : Int) + 1) := by unfold drow; rw [if_pos (by omega)]
      unfold bd at cm
      rw [e223 m1 hf1 _ (by omega) (by omega), Int.mul_comm (c _), w64_id (by omega) (by omega)]
      exact c_M_setBig (s := 7 + k) (by omega) (by omega) (fun m2 f2 b2 => fin m2 f2 (by rw [e]; exact b2))
theorem l_M_mc41 {m : rz_M} {d : Nat} (hd : d ≤ 6) (h0 : m 223 d ≠ 0) (hz : ∀ j : Int, (d : Int) < j → j < 7 → m 223 j = 0) {K : Int → rz_M → Prop} (hK : rz_E y_M_makeChain 60 [rR 221, rX 0, rI d, rI 0] [] m K) : ∀ r : Nat, d + r ≤ 6 → rz_E y_M_makeChain 41 [rR 221, rX 0, rI ((d + r : Nat) : Int), rX 0] [] m K
  | 0, hr => T_M_makeChain_41 _ _ _ ⟨⟨by omega, by omega⟩, bt h0 hK⟩
  | r + 1, hr => by
    refine T_M_makeChain_41 _ _ _ ⟨⟨by omega, by omega⟩, bf (fun q => q (hz _ (by omega) (by omega))) ?_⟩
    rw [w32_id (by omega) (by omega), show ((d + (r + 1) : Nat) : Int) + -1 = ((d + r : Nat) : Int) from by omega]
    exact l_M_mc41 hd h0 hz hK r (by omega)
end
