/-! both sides alike: sums -/
/-- class memory before keeping; reference memory before putting: only scratch differs -/
def kpC (m M1 : rz_M) : Prop := ∀ i : Nat, (i < 12 ∨ (14 ≤ i ∧ i ≤ 23) ∨ 221 ≤ i) → M1 i = m i
def kpM (m1 M2 : rz_M) : Prop := (∀ i : Nat, (i < 221 ∨ i = 222 ∨ (231 ≤ i ∧ i ≤ 233) ∨ 249 ≤ i) → M2 i = m1 i) ∧ M2 221 17 = m1 221 17 ∧ M2 221 18 = m1 221 18
theorem fin_bad2 {m M1 M2 : rz_M} {z : Int} (hI : Inv m) (h1 : kpC m M1) (h2 : kpM (rz_up M1 0 10 z) M2) : Inv (rz_up M2 221 1 z) ∧ rz_up M2 221 1 z 400 = m 400 := by
  have q : ∀ i : Nat, i ≠ 0 → (i < 12 ∨ (14 ≤ i ∧ i ≤ 23) ∨ i = 222 ∨ (231 ≤ i ∧ i ≤ 233) ∨ 249 ≤ i) → rz_up M2 221 1 z i = m i := fun i a b => by rw [up_ne (by omega), h2.1 i (by omega), up_ne a, h1 i (by omega)]
  refine ⟨Inv_ref hI ⟨fun i hi => q i (by omega) (by omega), ?_, ?_⟩ (fun i a b => q i (by omega) (by omega)) (q 222 (by omega) (by omega)) (by rw [up_ne (by decide), h2.1 0 (by omega)]; exact up_eq) up_eq, q 400 (by omega) (by omega)⟩
  · rw [up_nj (by decide), h2.2.1, up_ne (by decide), h1 221 (by omega)]
  · rw [up_nj (by decide), h2.2.2, up_ne (by decide), h1 221 (by omega)]
theorem fin_good2 {m M1 M2 : rz_M} {to : Int} {gC gM : Int → Int} (ht : 0 ≤ to ∧ to < 10) (hI : Inv m) (h1 : kpC m M1) (hf : fitsR gC) (hg : ∀ j : Int, 0 ≤ j → j < 7 → gM j = gC j) (h2 : kpM (rz_up (wr M1 (rz_R 1 to) 7 gC) 0 10 0) M2) : Inv (rz_up (wo M2 222 (7 * to) 7 gM) 221 1 0) ∧ rz_up (wo M2 222 (7 * to) 7 gM) 221 1 0 400 = m 400 := by
  have hr : rz_R 1 to = 2 + to.toNat := rfl
  have q : ∀ i : Nat, i ≠ 0 → i ≠ rz_R 1 to → (i < 12 ∨ (14 ≤ i ∧ i ≤ 23) ∨ (231 ≤ i ∧ i ≤ 233) ∨ 249 ≤ i) → rz_up (wo M2 222 (7 * to) 7 gM) 221 1 0 i = m i := fun i a c b => by
    rw [up_ne (by omega), wo_ne (by omega), h2.1 i (by omega), up_ne a, wr_ne c, h1 i (by omega)]
  have e222 : M2 222 = m 222 := by rw [h2.1 222 (by omega), up_ne (by decide), wr_ne (by omega), h1 222 (by omega)]
  refine ⟨Inv_set ht hf hI ⟨fun i hi => q i (by omega) (by omega) (by omega), ?_, ?_⟩ (fun i a b c => q i (by omega) c (by omega)) (fun j a b => ?_) (fun j a b => ?_) (fun y hy => ?_) ?_ up_eq, q 400 (by omega) (by omega) (by omega)⟩
  · rw [up_nj (by decide), wo_ne (by decide), h2.2.1, up_ne (by decide), wr_ne (by omega), h1 221 (by omega)]
  · rw [up_nj (by decide), wo_ne (by decide), h2.2.2, up_ne (by decide), wr_ne (by omega), h1 221 (by omega)]
  · rw [up_ne (by omega), wo_ne (by omega), h2.1 _ (by omega), up_ne (by omega)]
    exact wr_in a b
  · rw [up_ne (by decide)]
    unfold wo
    rw [if_pos ⟨rfl, by omega, by omega⟩, show 7 * to + j - 7 * to = j from by omega]
    exact hg j a b
  · rw [up_ne (by decide)]
    unfold wo
    rw [if_neg (fun w => hy w.2), e222]
  · rw [up_ne (by decide), wo_ne (by decide), h2.1 0 (by omega)]
    exact up_eq
theorem put_of2 {to : Int} (ht : 0 ≤ to ∧ to < 10) {m M1 M2 : rz_M} (hI : Inv m) (h1 : kpC m M1) (hz : ∀ j : Int, 7 ≤ j → j < 13 → M2 223 j = 0) (hg : ∀ j : Int, 0 ≤ j → j < 7 → M2 223 j = M1 12 j) :
    (fitsR (M1 12) → kpM (rz_up (wr M1 (rz_R 1 to) 7 (M1 12)) 0 10 0) M2 → rz_C y_M_put [rR 221, rI to] M2 (fun r2 m2 => 0 = r2 ∧ Inv m2 ∧ m2 400 = m 400)) ∧
    (¬ fitsR (M1 12) → kpM (rz_up M1 0 10 (-3)) M2 → rz_C y_M_put [rR 221, rI to] M2 (fun r2 m2 => -3 = r2 ∧ Inv m2 ∧ m2 400 = m 400)) := by
  have hc := fits_congr hg
  exact ⟨fun hf hm => c_M_put ht hz (fun _ => ⟨rfl, fin_good2 ht hI h1 hf hg hm⟩) (fun q => absurd (hc.mpr hf) q), fun hf hm => c_M_put ht hz (fun q => absurd (hc.mp q) hf) (fun _ => ⟨rfl, fin_bad2 hI h1 hm⟩)⟩
theorem chs_nx2 : ∀ c : Nat, c ≤ 6 → ∀ i : Nat, i ≤ 6 → Int.tdiv ((chs (c + i) i : Nat) * ((c : Int) + i + 1)) ((i : Int) + 1) = (chs (c + i + 1) (i + 1) : Nat) := by decide +kernel
theorem l_M_choose {a b : Nat} (hb : b ≤ a) (ha : a ≤ 6) {m : rz_M} {K : Int → rz_M → Prop} (h : K (chs a b : Nat) m) : ∀ (r i : Nat), b - i = r → i ≤ b → rz_E y_M_choose 5 [rI a, rI b, rL (chs (a - b + i) i : Nat), rX 1, rI ((i + 1 : Nat) : Int)] [] m K
  | 0, i, hr, hi => by
    have e : i = b := by omega
    subst e
    refine T_M_choose_5 _ _ _ _ _ _ (bt (by omega) ?_)
    rw [show a - i + i = a from by omega]
    exact h
  | r + 1, i, hr, hi => by
    have cs := chs_sm (a - b + i) (by omega) i (by omega)
    have nx := chs_nx2 (a - b) (by omega) i (by omega)
    have cs2 := chs_sm (a - b + i + 1) (by omega) (i + 1) (by omega)
    have cp : ((chs (a - b + i) i : Nat) : Int) * (((a - b : Nat) : Int) + i + 1) ≤ 20 * 20 := Int.mul_le_mul (by omega) (by omega) (by omega) (by decide)
    have cp0 : 0 ≤ ((chs (a - b + i) i : Nat) : Int) * (((a - b : Nat) : Int) + i + 1) := Int.mul_nonneg (by omega) (by omega)
    refine T_M_choose_5 _ _ _ _ _ _ (bf (by omega) ⟨by omega, ?_⟩)
    rw [w32_id (z := (a : Int) - b) (by omega) (by omega), w32_id (z := (a : Int) - b + ((i + 1 : Nat) : Int)) (by omega) (by omega), w32_id (z := ((i + 1 : Nat) : Int) + 1) (by omega) (by omega), show (a : Int) - b + ((i + 1 : Nat) : Int) = ((a - b : Nat) : Int) + i + 1 from by omega, w64_id (z := ((chs (a - b + i) i : Nat) : Int) * (((a - b : Nat) : Int) + i + 1)) (by omega) (by omega), show ((i + 1 : Nat) : Int) = (i : Int) + 1 from by omega, nx, w64_id (by omega) (by omega), show a - b + i + 1 = a - b + (i + 1) from by omega, show (i : Int) + 1 + 1 = ((i + 1 + 1 : Nat) : Int) from by omega]
    exact l_M_choose hb ha h r (i + 1) (by omega) (by omega)
theorem c_M_choose {a b : Nat} (hb : b ≤ a) (ha : a ≤ 6) {m : rz_M} {K : Int → rz_M → Prop} (h : K (chs a b : Nat) m) : rz_C y_M_choose [rI a, rI b] m K := by
  have := l_M_choose hb ha (K := K) h b 0 (by omega) (by omega)
  have c0 : ((chs (a - b + 0) 0 : Nat) : Int) = 1 := by cases (a - b) <;> rfl
  rw [c0] at this
  exact T_M_choose_0 _ _ _ _ this
theorem bsb_nn (k : Nat) : ∀ i : Nat, i ≤ k + 1 → 0 ≤ bsb k i
  | 0, _ => Int.le_refl _
  | i + 1, hi => by
    have := bsb_nn k i (by omega)
    have gn : ∀ j, 0 ≤ gbn j := fun j => by
      unfold gbn
      split
      · decide
      · exact pbd_nn j
    have := Int.mul_nonneg (show (0 : Int) ≤ (chs k i : Nat) by omega) (Int.mul_nonneg (gn i) (gn (k - i)))
    show 0 ≤ bsb k i + _
    omega
theorem l_M_both {k : Nat} (hk : k ≤ 6) {m : rz_M} {g h : Int → Int} (hg : ∀ i : Nat, i ≤ 6 → bd (g i) (gbn i)) (hh : ∀ i : Nat, i ≤ 6 → bd (h i) (gbn i)) (eg : ∀ i : Nat, i ≤ 6 → m 237 i = g i) (eh : ∀ i : Nat, i ≤ 6 → m 238 i = h i) {K : Int → rz_M → Prop} (hK : K (bsx g h k (k + 1)) m) : ∀ (r j : Nat), k + 1 - j = r → j ≤ k + 1 → rz_E y_M_bothSum 5 [rR 221, rI k, rL (bsx g h k j), rX 1, rI j] [] m K
  | 0, j, hr, hj => by
    have e : j = k + 1 := by omega
    subst e
    exact T_M_bothSum_5 _ _ _ _ _ (bt (by omega) hK)
  | r + 1, j, hr, hj => by
    have cs := chs_sm k hk j (by omega)
    have b1 := hg j (by omega)
    have b2 := hh (k - j) (by omega)
    have s1 := gbn_sm j (by omega)
    have bT := bsx_bd hg hh hk j (by omega)
    have bT1 := bsx_bd hg hh hk (j + 1) (by omega)
    have t0 := bsb_nn k j (by omega)
    have t1 := bsb_sm k hk (j + 1) (by omega)
    have e1 : bsb k (j + 1) = bsb k j + (chs k j : Nat) * (gbn j * gbn (k - j)) := rfl
    have cb : bd ((chs k j : Nat) : Int) (chs k j : Nat) := ⟨by omega, Int.le_refl _⟩
    have p1 := bd_mul cb b1
    have p2 := bd_mul cb (bd_mul b1 b2)
    have e2 : bsx g h k (j + 1) = bsx g h k j + (chs k j : Nat) * (g j * h ((k : Int) - j)) := rfl
    have ckj : (k : Int) - j = ((k - j : Nat) : Int) := by omega
    rw [ckj] at e2
    have c3 : ((chs k j : Nat) : Int) * gbn j ≤ 20 * 10000000000000 := Int.mul_le_mul (by omega) s1 (bd_nn b1) (by decide)
    refine T_M_bothSum_5 _ _ _ _ _ (bf (by omega) (c_M_choose (by omega) hk ⟨⟨by omega, by omega⟩, ?_⟩))
    rw [w32_id (z := (k : Int) - j) (by omega) (by omega), w32_id (z := (j : Int) + 1) (by omega) (by omega), ckj, eg j (by omega), eh (k - j) (by omega)]
    have e3 : ((chs k j : Nat) : Int) * g j * h ((k - j : Nat) : Int) = ((chs k j : Nat) : Int) * (g j * h ((k - j : Nat) : Int)) := Int.mul_assoc _ _ _
    unfold bd at p1 p2 bT bT1
    rw [w64_id (z := ((chs k j : Nat) : Int) * g j) (by omega) (by omega), e3, w64_id (z := ((chs k j : Nat) : Int) * (g j * h ((k - j : Nat) : Int))) (by omega) (by omega), ← e2, w64_id (by omega) (by omega), show (j : Int) + 1 = ((j + 1 : Nat) : Int) from by omega]
    exact ⟨⟨by omega, by omega⟩, l_M_both hk hg hh eg eh hK r (j + 1) (by omega) (by omega)⟩
theorem c_M_both {k : Nat} (hk : k ≤ 6) {m : rz_M} {g h : Int → Int} (hg : ∀ i : Nat, i ≤ 6 → bd (g i) (gbn i)) (hh : ∀ i : Nat, i ≤ 6 → bd (h i) (gbn i)) (eg : ∀ i : Nat, i ≤ 6 → m 237 i = g i) (eh : ∀ i : Nat, i ≤ 6 → m 238 i = h i) {K : Int → rz_M → Prop} (hK : K (bsx g h k (k + 1)) m) : rz_C y_M_bothSum [rR 221, rI k] m K :=
  T_M_bothSum_0 _ _ _ (l_M_both hk hg hh eg eh hK (k + 1) 0 (by omega) (by omega))
theorem mxs_z {n : Int} {S : Int → Int} {y : Int} (h : n < y) : ∀ k : Nat, mxs n S k y = 0
  | 0 => by
    show upf (fun _ => 0) n 1 y = 0
    unfold upf
    rw [if_neg (by omega)]
  | k + 1 => by
    show upf (mxs n S k) (n - ((k : Int) + 1)) _ y = 0
    unfold upf
    rw [if_neg (by omega)]
    exact mxs_z h k
theorem l_M_s128 {N : Nat} (hN : 1 ≤ N ∧ N ≤ 6) {to : Int} {m : rz_M} {g h : Int → Int} (hg : ∀ i : Nat, i ≤ 6 → bd (g i) (gbn i)) (hh : ∀ i : Nat, i ≤ 6 → bd (h i) (gbn i)) (eg : ∀ i : Nat, i ≤ 6 → m 237 i = g i) (eh : ∀ i : Nat, i ≤ 6 → m 238 i = h i) {S : Int → Int} (hSe : ∀ k : Nat, k ≤ 6 → S k = bsx g h k (k + 1)) (hS : ∀ j : Nat, 1 ≤ j → j ≤ 6 → bd (S j) (sB j)) {e : Nat} (he : e + 1 ≤ N) {K : Int → rz_M → Prop}
    (hc : rz_E y_M_sums 115 [rR 221, rX 0, rX 0, rI to, rI N, rI ((e + 1 + 1 : Nat) : Int), rX 0, rX 0, rX 0] [] (wr m 223 13 (mxs N S (e + 1))) K) : ∀ (r i : Nat), e + 1 - i = r → i ≤ e + 1 → rz_E y_M_sums 128 [rR 221, rX 0, rX 0, rI to, rI N, rI ((e + 1 : Nat) : Int), rL (-(tsx N S (mxs N S e) ((e + 1 : Nat) : Int) i)), rX 1, rI ((i + 1 : Nat) : Int)] [] (wr m 223 13 (mxs N S e)) K
  | 0, i, hr, hi => by
    have e1 : i = e + 1 := by omega
    subst e1
    have bM := mxs_bd (n := (N : Int)) hS e (by omega)
    have bT := tsx_bd (n := (N : Int)) (M := mxs N S e) (k := e + 1) (by omega) hS (fun j hj => bM j (by omega)) (e + 1) (Nat.le_refl _)
    have sT := tB_s (e + 1) (by omega) (e + 1) (Nat.le_refl _)
    have s6 := sB_nn 6
    have bD := bd_tdiv bT (k := ((e + 1 : Nat) : Int)) (by omega)
    unfold bd at bT bD
    refine T_M_sums_128 _ _ _ _ _ _ _ (bt (by omega) ⟨by omega, ?_⟩)
    rw [w32_id (by omega) (by omega), w32_id (by omega) (by omega), Int.neg_neg, w64_id (z := tsx N S (mxs N S e) ((e + 1 : Nat) : Int) (e + 1)) (by omega) (by omega), w64_id (by omega) (by omega), wr_up (by omega) (by omega), show ((e + 1 : Nat) : Int) + 1 = ((e + 1 + 1 : Nat) : Int) from by omega]
    refine ⟨⟨by omega, by omega⟩, ?_⟩
    have ex : upf (mxs N S e) ((N : Int) - ((e + 1 : Nat) : Int)) (Int.tdiv (tsx N S (mxs N S e) ((e + 1 : Nat) : Int) (e + 1)) ((e + 1 : Nat) : Int)) = mxs N S (e + 1) := by
      rw [show ((e + 1 : Nat) : Int) = (e : Int) + 1 from by omega]
      rfl
    rw [ex]
    exact hc
  | r + 1, i, hr, hi => by
    have bM := mxs_bd (n := (N : Int)) hS e (by omega)
    have bT := tsx_bd (n := (N : Int)) (M := mxs N S e) (k := e + 1) (by omega) hS (fun j hj => bM j (by omega)) i (by omega)
    have bT1 := tsx_bd (n := (N : Int)) (M := mxs N S e) (k := e + 1) (by omega) hS (fun j hj => bM j (by omega)) (i + 1) (by omega)
    have sT := tB_s (e + 1) (by omega) i (by omega)
    have sT1 := tB_s (e + 1) (by omega) (i + 1) (by omega)
    have s6 := sB_nn 6
    have bS := hS (i + 1) (by omega) (by omega)
    have bj := bM (e + 1 - (i + 1)) (by omega)
    have eidx : (N : Int) - ((e + 1 - (i + 1) : Nat) : Int) = (N : Int) - ((e + 1 : Nat) : Int) + ((i + 1 : Nat) : Int) := by omega
    rw [eidx] at bj
    have bp := bd_mul bj bS
    have et : tB (e + 1) (i + 1) = tB (e + 1) i + sB (i + 1) * mB (e + 1 - (i + 1)) := rfl
    have tnn : 0 ≤ tB (e + 1) i := bd_nn bT
    rw [Int.mul_comm (mB _)] at bp
    have ets : tsx N S (mxs N S e) ((e + 1 : Nat) : Int) (i + 1) = tsx N S (mxs N S e) ((e + 1 : Nat) : Int) i + S ((i : Int) + 1) * -(mxs N S e ((N : Int) - ((e + 1 : Nat) : Int) + ((i : Int) + 1))) := rfl
    refine T_M_sums_128 _ _ _ _ _ _ _ (bf (by omega) ?_)
    rw [w32_id (z := (N : Int) - ((e + 1 : Nat) : Int)) (by omega) (by omega), w32_id (z := (N : Int) - ((e + 1 : Nat) : Int) + ((i + 1 : Nat) : Int)) (by omega) (by omega), w32_id (z := ((i + 1 : Nat) : Int) + 1) (by omega) (by omega), wr_in (by omega) (by omega)]
    refine ⟨⟨by omega, by omega⟩, c_M_both (k := i + 1) (by omega) hg hh (fun j hj => by rw [wr_ne (by decide)]; exact eg j hj) (fun j hj => by rw [wr_ne (by decide)]; exact eh j hj) ?_⟩
    rw [← hSe (i + 1) (by omega)]
    have e4 : -(tsx N S (mxs N S e) ((e + 1 : Nat) : Int) i) + mxs N S e ((N : Int) - ((e + 1 : Nat) : Int) + ((i + 1 : Nat) : Int)) * S ((i + 1 : Nat) : Int) = -(tsx N S (mxs N S e) ((e + 1 : Nat) : Int) (i + 1)) := by
      rw [ets, show ((i + 1 : Nat) : Int) = (i : Int) + 1 from by omega]
      grind
    unfold bd at bp bT bT1
    rw [w64_id (z := mxs N S e ((N : Int) - ((e + 1 : Nat) : Int) + ((i + 1 : Nat) : Int)) * S ((i + 1 : Nat) : Int)) (by omega) (by omega), e4, w64_id (by omega) (by omega), show ((i + 1 : Nat) : Int) + 1 = ((i + 1 + 1 : Nat) : Int) from by omega]
    exact l_M_s128 hN hg hh eg eh hSe hS he hc r (i + 1) (by omega) (by omega)
theorem l_M_s115 {N : Nat} (hN : 1 ≤ N ∧ N ≤ 6) {to : Int} {m : rz_M} {g h : Int → Int} (hg : ∀ i : Nat, i ≤ 6 → bd (g i) (gbn i)) (hh : ∀ i : Nat, i ≤ 6 → bd (h i) (gbn i)) (eg : ∀ i : Nat, i ≤ 6 → m 237 i = g i) (eh : ∀ i : Nat, i ≤ 6 → m 238 i = h i) {S : Int → Int} (hSe : ∀ k : Nat, k ≤ 6 → S k = bsx g h k (k + 1)) (hS : ∀ j : Nat, 1 ≤ j → j ≤ 6 → bd (S j) (sB j)) {K : Int → rz_M → Prop}
    (hc : rz_C y_M_put [rR 221, rI to] (wr m 223 13 (mxs N S N)) K) : ∀ (r e : Nat), N - e = r → e ≤ N → rz_E y_M_sums 115 [rR 221, rX 0, rX 0, rI to, rI N, rI ((e + 1 : Nat) : Int), rX 0, rX 0, rX 0] [] (wr m 223 13 (mxs N S e)) K
  | 0, e, hr, he => by
    have e1 : e = N := by omega
    subst e1
    exact T_M_sums_115 _ _ _ _ _ (bt (by omega) hc)
  | r + 1, e, hr, he => by
    refine T_M_sums_115 _ _ _ _ _ (bf (by omega) ?_)
    have := l_M_s128 hN (to := to) hg hh eg eh hSe hS (e := e) (by omega) (l_M_s115 hN hg hh eg eh hSe hS hc r (e + 1) (by omega) (by omega)) (e + 1) 0 (by omega) (by omega)
    exact this
theorem c_M_isPlain {r : Int} (hr : 0 ≤ r ∧ r < 10) {m : rz_M} {K : Int → rz_M → Prop} (h1 : 1 ≤ dg (rwM m r) → sm (rwM m r) → rwM m r (dg (rwM m r)) = 1 → K 1 m) (h0 : ¬ (1 ≤ dg (rwM m r) ∧ sm (rwM m r) ∧ rwM m r (dg (rwM m r)) = 1) → K 0 m) : rz_C y_M_isPlain [rR 221, rI r] m K := by
  have rr := dg_rng (rwM m r)
  refine T_M_isPlain_0 _ _ _ (c_M_isSmall hr (fun d s => b1t (c_M_degreeOf hr ?_)) (fun q => b0t (h0 (fun z => q ⟨z.1, z.2.1⟩))))
  rw [w32_id (z := 7 * r) (by omega) (by omega), w32_id (by omega) (by omega)]
  exact ⟨⟨by omega, by omega⟩, bb (fun q => h0 (fun z => q z.2.2)) (fun q => h1 d s (Classical.not_not.mp q))⟩
theorem p_sums (i k to : Int) (m : rz_M) (hI : Inv m) : pairOK y_RC_sums y_M_sums [rI i, rI k, rI to] m := by
  have rwe : ∀ (m1 : rz_M) (r : Int), m1 222 = m 222 → rwM (rz_up m1 221 0 0) r = rwM m r := fun m1 r h => by unfold rwM; rw [up_ne (by decide), h]
  have scU : ∀ m1 : rz_M, kpM m1 (rz_up m1 221 0 0) := fun m1 => ⟨fun i hi => up_ne (by omega), up_nj (by decide), up_nj (by decide)⟩
  have bad1 : ¬ ((0 ≤ i ∧ i < 10) ∧ (0 ≤ k ∧ k < 10) ∧ (0 ≤ to ∧ to < 10)) → rz_C y_RC_refuse [rR 0, rI (-1)] m (fun r1 m1 => rz_C y_M_sums [rR 221, rI i, rI k, rI to] m1 (fun r2 m2 => r1 = r2 ∧ Inv m2 ∧ m2 400 = m 400)) := by
    intro hn
    refine c_RC_refuse ?_
    have fin : rz_C y_M_said [rR 221, rI (-1)] (rz_up (rz_up m 0 10 (-1)) 221 0 0) (fun r2 m2 => -1 = r2 ∧ Inv m2 ∧ m2 400 = m 400) := c_M_said ⟨rfl, fin_bad2 hI (fun _ _ => rfl) (scU _)⟩
    exact T_M_sums_0 _ _ _ _ _ (c_M_isRow (fun a b => b1t (c_M_isRow (fun c d => b1t (c_M_isRow (fun e f => absurd ⟨⟨a, b⟩, ⟨c, d⟩, e, f⟩ hn) (fun _ => b0n fin))) (fun _ => b0t fin))) (fun _ => b0t fin))
  refine T_RC_sums_0 _ _ _ _ _ (c_RC_isRow (fun i1 i2 => b1t (c_RC_isRow (fun k1 k2 => b1t (c_RC_isRow (fun t1 t2 => b1n ?_) (fun q => b0n (bad1 (fun z => q z.2.2))))) (fun q => b0t (bad1 (fun z => q z.2.1))))) (fun q => b0t (bad1 (fun z => q z.1))))
  have hi := And.intro i1 i2
  have hk := And.intro k1 k2
  have ht := And.intro t1 t2
  have ri := dg_rng (m (rz_R 1 i))
  have rk := dg_rng (m (rz_R 1 k))
  have ei := dg_eq hI hi
  have ek := dg_eq hI hk
  have li := fun z => (hI.1 i i1 i2).2 z
  have Ri : rz_R 1 i = 2 + i.toNat := rfl
  have Rk : rz_R 1 k = 2 + k.toNat := rfl
  have Rt : rz_R 1 to = 2 + to.toNat := rfl
  -- the reference behind its rows
  have mod : ∀ (m1 : rz_M) (Q : Int → rz_M → Prop), rz_C y_M_isPlain [rR 221, rI i] (rz_up m1 221 0 0) (fun r6 m6 => (((r6 = 0) → rz_C y_M_said [rR 221, rI (-2)] m6 (fun r7 m7 => Q r7 m7)) ∧ (¬ (r6 = 0) → rz_C y_M_isPlain [rR 221, rI k] m6 (fun r8 m8 => (((r8 ≠ 0) → rz_C y_M_degreeOf [rR 221, rI i] m8 (fun r9 m9 => rz_C y_M_degreeOf [rR 221, rI k] m9 (fun r10 m10 => ((((w32 (r9 * r10)) ≤ 6) → rz_C y_M_findSums [rR 221, rI i, rR 237] m10 (fun r11 m11 => rz_E y_M_sums 91 [rR 221, rX 0, rI k, rI to, rI (w32 (r9 * r10)), rX 0, rX 0, rX 0, rX 0] [] m11 Q)) ∧ (¬ ((w32 (r9 * r10)) ≤ 6) → rz_C y_M_said [rR 221, rI (-3)] m10 (fun r12 m12 => Q r12 m12)))))) ∧ (¬ (r8 ≠ 0) → rz_C y_M_said [rR 221, rI (-2)] m8 (fun r13 m13 => Q r13 m13))))))) → rz_C y_M_sums [rR 221, rI i, rI k, rI to] m1 Q := fun m1 Q hq =>
    T_M_sums_0 _ _ _ _ _ (c_M_isRow (fun _ _ => b1t (c_M_isRow (fun _ _ => b1t (c_M_isRow (fun _ _ => b1n hq) (fun z => absurd ht z))) (fun z => absurd hk z))) (fun z => absurd hi z))
  -- what both ask of a row
  have pl : ∀ r : Int, (0 ≤ r ∧ r < 10) → ((1 ≤ dg (m (rz_R 1 r)) ∧ sm (m (rz_R 1 r)) ∧ m (rz_R 1 r) (dg (m (rz_R 1 r))) = 1) ↔ (1 ≤ dg (rwM m r) ∧ sm (rwM m r) ∧ rwM m r (dg (rwM m r)) = 1)) := fun r hr => by
    have rr := dg_rng (m (rz_R 1 r))
    rw [← dg_eq hI hr, ← sm_eq hI hr]
    constructor
    · rintro ⟨a, b, c⟩
      refine ⟨a, b, ?_⟩
      rw [← c]
      exact (row_eq hI hr ⟨by omega, by omega⟩).symm
    · rintro ⟨a, b, c⟩
      refine ⟨a, b, ?_⟩
      rw [← c]
      exact row_eq hI hr ⟨by omega, by omega⟩
  have bad2 : ¬ ((1 ≤ dg (m (rz_R 1 i)) ∧ sm (m (rz_R 1 i)) ∧ m (rz_R 1 i) (dg (m (rz_R 1 i))) = 1) ∧ (1 ≤ dg (m (rz_R 1 k)) ∧ sm (m (rz_R 1 k)) ∧ m (rz_R 1 k) (dg (m (rz_R 1 k))) = 1)) → rz_C y_RC_refuse [rR 0, rI (-2)] m (fun r1 m1 => rz_C y_M_sums [rR 221, rI i, rI k, rI to] m1 (fun r2 m2 => r1 = r2 ∧ Inv m2 ∧ m2 400 = m 400)) := by
    intro hn
    refine c_RC_refuse (mod _ _ ?_)
    have fin : rz_C y_M_said [rR 221, rI (-2)] (rz_up (rz_up m 0 10 (-2)) 221 0 0) (fun r2 m2 => -2 = r2 ∧ Inv m2 ∧ m2 400 = m 400) := c_M_said ⟨rfl, fin_bad2 hI (fun _ _ => rfl) (scU _)⟩
    have e := fun r => rwe (rz_up m 0 10 (-2)) r (up_ne (by decide))
    refine c_M_isPlain hi (fun a b c => b1t (c_M_isPlain hk (fun a' b' c' => absurd ⟨(pl i hi).mpr ?_, (pl k hk).mpr ?_⟩ hn) (fun _ => b0n fin))) (fun _ => b0t fin)
    · rw [e] at a b c; exact ⟨a, b, c⟩
    · rw [e] at a' b' c'; exact ⟨a', b', c'⟩
  refine ⟨hi, c_RC_degreeOf (isL_row hi) ⟨hk, c_RC_degreeOf (isL_row hk) ⟨hi, c_RC_isPlain (isL_row hi) (fun d1 s1 p1 => b1t ⟨hk, c_RC_isPlain (isL_row hk) (fun d2 s2 p2 => b1n ?_) (fun q => b0n (bad2 (fun z => q z.2)))⟩) (fun q => b0t (bad2 (fun z => q z.1)))⟩⟩⟩
  have nn : 0 ≤ dg (m (rz_R 1 i)) * dg (m (rz_R 1 k)) := Int.mul_nonneg (by omega) (by omega)
  have n36 : dg (m (rz_R 1 i)) * dg (m (rz_R 1 k)) ≤ 6 * 6 := Int.mul_le_mul ri.2 rk.2 (by omega) (by decide)
  rw [w32_id (by omega) (by omega)]
  obtain ⟨pi1, pi2, pi3⟩ := (pl i hi).mp ⟨d1, s1, p1⟩
  obtain ⟨pk1, pk2, pk3⟩ := (pl k hk).mp ⟨d2, s2, p2⟩
  refine bb (fun h6 => ?_) (fun h6 => T_RC_sums_90 _ _ (c_RC_refuse (mod _ _ ?_)))
  · -- the sums are made
    have hf1 : ∀ j : Int, 0 ≤ j → j ≤ dg (m (rz_R 1 i)) → bd (m (rz_R 1 i) j) 100 := fun j j0 j1 => s1 j j0 (by omega)
    have hf2 : ∀ j : Int, 0 ≤ j → j ≤ dg (m (rz_R 1 k)) → bd (m (rz_R 1 k) j) 100 := fun j j0 j1 => s2 j j0 (by omega)
    -- the exact power sums
    have psE : ∀ (f : Int → Int) (n : Int), 0 ≤ n → n ≤ 6 → ∃ g : Int → Int, isPS f n g 8 := fun f n h0 h6' => by
      have : ∀ t : Nat, t ≤ 8 → ∃ g : Int → Int, isPS f n g t := by
        intro t
        induction t with
        | zero => exact fun _ => ⟨fun _ => n, rfl, fun k a b => by omega⟩
        | succ t ih =>
          intro h8
          by_cases q : t = 0
          · subst q
            exact ⟨fun _ => n, rfl, fun k a b => by omega⟩
          · obtain ⟨g, hg⟩ := ih (by omega)
            exact ⟨_, isPS_up h0 h6' (by omega) hg⟩
      exact this 8 (Nat.le_refl _)
    obtain ⟨g, hg⟩ := psE (m (rz_R 1 i)) _ (by omega) ri.2
    obtain ⟨h, hh⟩ := psE (m (rz_R 1 k)) _ (by omega) rk.2
    have xg : isPX (m (rz_R 1 i)) (dg (m (rz_R 1 i))) g := ⟨hg.1, ps_exact p1 hf1 hg⟩
    have xh : isPX (m (rz_R 1 k)) (dg (m (rz_R 1 k))) h := ⟨hh.1, ps_exact p2 hf2 hh⟩
    have gb : ∀ (f : Int → Int) (n : Int) (g : Int → Int), 1 ≤ n → n ≤ 6 → isPX f n g → ∀ i : Nat, i ≤ 6 → bd (g i) (gbn i) := fun f n g hn1 hn2 hg i hi => by
      unfold gbn
      by_cases q : i = 0
      · subst q
        rw [if_pos rfl]
        have : g ((0 : Nat) : Int) = n := hg.1
        rw [this]
        exact ⟨by omega, hn2⟩
      · rw [if_neg q]
        exact (hg.2 i (by omega) (by omega)).2
    have gg := gb _ _ _ d1 ri.2 xg
    have gh := gb _ _ _ d2 rk.2 xh
    obtain ⟨N, hN⟩ : ∃ N : Nat, dg (m (rz_R 1 i)) * dg (m (rz_R 1 k)) = N := ⟨(dg (m (rz_R 1 i)) * dg (m (rz_R 1 k))).toNat, by omega⟩
    have l1 : dg (m (rz_R 1 i)) * 1 ≤ dg (m (rz_R 1 i)) * dg (m (rz_R 1 k)) := Int.mul_le_mul_of_nonneg_left d2 (by omega)
    have hN1 : 1 ≤ N ∧ N ≤ 6 := by omega
    have modT : ∀ (mb : rz_M) (Q : Int → rz_M → Prop), mb 222 = m 222 → (∀ g' h' : Int → Int, rz_C y_M_put [rR 221, rI to] (wr (wr (wr (rz_up mb 221 0 0) 237 8 g') 238 8 h') 223 13 (mxs N (fun i => bsx g h i.toNat (i.toNat + 1)) N)) Q) → rz_C y_M_sums [rR 221, rI i, rI k, rI to] mb Q := by
      intro mb Q hmb hp
      have e := fun r => rwe mb r hmb
      refine mod mb Q (c_M_isPlain hi (fun a b c => b1t (c_M_isPlain hk (fun a' b' c' => b1n (c_M_degreeOf hi (c_M_degreeOf hk ?_))) (fun z => absurd ?_ z))) (fun z => absurd ?_ z))
      · rw [e, e, ← ei, ← ek, w32_id (by omega) (by omega), hN]
        refine bt (by omega) (c_M_findSums hi (t := 237) (by decide +kernel) (by decide +kernel) (by decide) (by rw [e, ← ei]; omega) (fun g' hg' => T_M_sums_91 _ _ _ _ _ (c_M_findSums hk (t := 238) (by decide +kernel) (by decide +kernel) (by decide) ?_ (fun h' hh' => c_M_clear ⟨⟨by omega, by omega⟩, ?_⟩))))
        · unfold rwM
          rw [wr_ne (by decide)]
          have : dg (fun j => rz_up mb 221 0 0 222 (7 * k + j)) = dg (rwM (rz_up mb 221 0 0) k) := rfl
          rw [this, e, ← ek]
          omega
        · have ew : rwM (wr (rz_up mb 221 0 0) 237 8 g') k = rwM m k := by
            unfold rwM
            rw [wr_ne (by decide)]
            exact e k
          rw [e] at hg'
          rw [ew] at hh'
          rw [wr_up (by omega) (by omega)]
          have eg' := isPS_eq (by omega) ri.2 (fun j j0 j1 => (row_eq hI hi ⟨j0, by omega⟩ : m (rz_R 1 i) j = rwM m i j)) hg (by rw [ei]; exact hg')
          have eh' := isPS_eq (by omega) rk.2 (fun j j0 j1 => (row_eq hI hk ⟨j0, by omega⟩ : m (rz_R 1 k) j = rwM m k j)) hh (by rw [ek]; exact hh')
          have hS : ∀ j : Nat, 1 ≤ j → j ≤ 6 → bd ((fun i : Int => bsx g h i.toNat (i.toNat + 1)) j) (sB j) := fun j j1 j6 => by
            show bd (bsx g h ((j : Int)).toNat (((j : Int)).toNat + 1)) _
            rw [Int.toNat_natCast]
            exact bd_le (bsx_bd gg gh (k := j) j6 (j + 1) (Nat.le_refl _)) (bsb_sB j j6 j1)
          have go := l_M_s115 hN1 (to := to) (m := wr (wr (rz_up mb 221 0 0) 237 8 g') 238 8 h') (S := fun i => bsx g h i.toNat (i.toNat + 1)) gg gh (fun j hj => by rw [wr_ne (by decide), wr_in (by omega) (by omega)]; exact (eg' 7 (by decide) j (by omega) (by omega)).symm) (fun j hj => by rw [wr_in (by omega) (by omega)]; exact (eh' 7 (by decide) j (by omega) (by omega)).symm) (fun j hj => by show bsx g h ((j : Int)).toNat (((j : Int)).toNat + 1) = _; rw [Int.toNat_natCast]) hS (K := Q) (hp g' h') N 0 (by omega) (Nat.zero_le _)
          exact go
      · rw [e]; exact ⟨pk1, pk2, pk3⟩
      · rw [e]; exact ⟨pi1, pi2, pi3⟩
    have mz : ∀ (mb : rz_M) (g' h' : Int → Int), (∀ j : Int, 0 ≤ j → j < 13 → wr (wr (wr (rz_up mb 221 0 0) 237 8 g') 238 8 h') 223 13 (mxs N (fun i => bsx g h i.toNat (i.toNat + 1)) N) 223 j = mxs N (fun i => bsx g h i.toNat (i.toNat + 1)) N j) := fun mb g' h' j j0 j1 => wr_in j0 j1
    have scM2 : ∀ (mb : rz_M) (g' h' : Int → Int), kpM mb (wr (wr (wr (rz_up mb 221 0 0) 237 8 g') 238 8 h') 223 13 (mxs N (fun i => bsx g h i.toNat (i.toNat + 1)) N)) := fun mb g' h' => ⟨fun x hx => by rw [wr_ne (by omega), wr_ne (by omega), wr_ne (by omega), up_ne (by omega)], by rw [wr_ne (by decide), wr_ne (by decide), wr_ne (by decide), up_nj (by decide)], by rw [wr_ne (by decide), wr_ne (by decide), wr_ne (by decide), up_nj (by decide)]⟩
    have keep : ∀ j : Nat, j ≤ N → mxs N (fun i => bsx g h i.toNat (i.toNat + 1)) N ((N : Int) - j) = mxs N (fun i => bsx g h i.toNat (i.toNat + 1)) j ((N : Int) - j) := fun j hj => by
      have := mxs_keep (n := (N : Int)) (S := fun i => bsx g h i.toNat (i.toNat + 1)) (j := j) (N - j)
      rwa [show j + (N - j) = N from by omega] at this
    refine T_RC_sums_97 _ _ _ _ _ _ _ ⟨hi, hk, c_RA_addRoots (isL_row hi) (by omega) (isL_row hk) (by omega) d1 d2 h6 hf1 hf2 xg xh (fun hall m1 f1 e12 => b1n ?_) (fun hex m1 f1 => b0n ?_)⟩
    · rw [hN] at hall e12
      rw [Int.toNat_natCast] at e12
      have fits : fitsR (m1 12) := fun j j0 j1 => by
        rw [e12 j j0 j1]
        by_cases q : j ≤ N
        · have := hall (N - j.toNat) (by omega)
          rw [← keep _ (by omega), show (N : Int) - ((N - j.toNat : Nat) : Int) = j from by omega] at this
          exact this
        · rw [mxs_z (by omega)]
          exact ⟨by decide, by decide⟩
      have kc : kpC m m1 := fun x hx => f1 x (by omega) (by omega)
      refine c_RC_keepMade ht (fun hf => modT _ _ ?_ (fun g' h' => (put_of2 ht hI kc (fun j j0 j1 => by rw [mz _ _ _ j (by omega) j1, mxs_z (by omega)]) (fun j j0 j1 => by rw [mz _ _ _ j j0 (by omega), e12 j j0 j1])).1 hf (scM2 _ _ _))) (fun hf => absurd fits hf)
      rw [up_ne (by decide), wr_ne (by omega)]
      exact f1 222 (by decide) (by omega)
    · rw [hN] at hex
      obtain ⟨j, hj, hb⟩ := hex
      have kc : kpC m m1 := fun x hx => f1 x (by omega) (by omega)
      refine c_RC_refuse (modT _ _ ?_ (fun g' h' => c_M_put ht (fun j j0 j1 => by rw [mz _ _ _ j (by omega) j1, mxs_z (by omega)]) (fun hf => absurd ?_ hb) (fun hf => ⟨rfl, fin_bad2 hI kc (scM2 _ _ _)⟩)))
      · rw [up_ne (by decide)]
        exact f1 222 (by decide) (by omega)
      · have := hf ((N : Int) - j) (by omega) (by omega)
        rw [mz _ _ _ _ (by omega) (by omega), keep j (by omega)] at this
        exact this
  · have fin : rz_C y_M_said [rR 221, rI (-3)] (rz_up (rz_up m 0 10 (-3)) 221 0 0) (fun r2 m2 => -3 = r2 ∧ Inv m2 ∧ m2 400 = m 400) := c_M_said ⟨rfl, fin_bad2 hI (fun _ _ => rfl) (scU _)⟩
    have e := fun r => rwe (rz_up m 0 10 (-3)) r (up_ne (by decide))
    refine c_M_isPlain hi (fun a b c => b1t (c_M_isPlain hk (fun a' b' c' => b1n (c_M_degreeOf hi (c_M_degreeOf hk ?_))) (fun z => absurd ?_ z))) (fun z => absurd ?_ z)
    · rw [e, e, ← ei, ← ek, w32_id (by omega) (by omega)]
      exact bf h6 fin
    · rw [e]; exact ⟨pk1, pk2, pk3⟩
    · rw [e]; exact ⟨pi1, pi2, pi3⟩
