/-! the reference: a trial divides what is left -/
theorem ipw_le {b : Int} (hb : 1 ≤ b) : ∀ s : Nat, 1 ≤ b ^ s
  | 0 => by rw [Int.pow_zero]; exact Int.le_refl _
  | s + 1 => by
    have ih := ipw_le hb s
    rw [Int.pow_succ]
    have := Int.mul_le_mul ih hb (by decide) (by omega)
    omega
theorem ipw_mono {b : Int} (hb : 1 ≤ b) (s : Nat) : ∀ r : Nat, b ^ s ≤ b ^ (s + r)
  | 0 => Int.le_refl _
  | r + 1 => by
    have ih := ipw_mono hb s r
    have p := ipw_le hb (s + r)
    rw [← Nat.add_assoc, Int.pow_succ]
    have := Int.mul_le_mul_of_nonneg_left hb (show 0 ≤ b ^ (s + r) by omega)
    omega
theorem stW_b2 {g w : Int → Int} {t j i d W G : Int} (hw : hB w W) (ht : bd t W) (hg : ∀ y : Int, 0 ≤ y → y ≤ d → bd (g y) G) (hi : i ≤ d + 1) (hG : 0 ≤ G) : hB (stW g t j i w) (W + W * G) := fun y y0 y1 => by
  unfold stW
  have b1 := hw y y0 y1
  have W0 := bd_nn ht
  have WG := Int.mul_nonneg W0 hG
  split
  · next q =>
    have b2 := bd_mul ht (hg (y - j) (by omega) (by omega))
    unfold bd at b1 b2 ⊢
    omega
  · exact bd_le b1 (by omega)
theorem l_M_dv101 {n d j t : Int} (hd : 0 ≤ d) (hj : 0 ≤ j) (hjd : j + d ≤ n) (hn : n ≤ 6) {m0 : rz_M} {W G : Int} {g w : Int → Int} (hw : hB w W) (ht : bd t W) (hg0 : ∀ y : Int, 0 ≤ y → y ≤ d → m0 228 y = g y) (hg : ∀ y : Int, 0 ≤ y → y ≤ d → bd (g y) G) (hG : 0 ≤ G) (hW : W + W * G ≤ 4000000000000000000) {K : Int → rz_M → Prop}
    (h : ∀ m' : rz_M, (∀ i, i ≠ 229 → m' i = m0 i) → (∀ y : Int, 0 ≤ y → y ≤ n → m' 229 y = stW g t j (d + 1) w y) → rz_E y_M_divides 50 [rR 221, rI d, rI (j + d - 1), rX 0, rX 0, rX 0] [] m' K) : ∀ (r : Nat) (i : Int) (m : rz_M), d + 1 - i = r → 0 ≤ i → (∀ i, i ≠ 229 → m i = m0 i) → (∀ y : Int, 0 ≤ y → y ≤ n → m 229 y = stW g t j i w y) → rz_E y_M_divides 101 [rR 221, rI d, rI (j + d), rL t, rX 1, rI i] [] m K
  | 0, i, m, hr, hi, hf, hm => by
    have e : i = d + 1 := by omega
    subst e
    refine T_M_divides_101 _ _ _ _ _ _ (bt (by omega) ?_)
    rw [w32_id (by omega) (by omega), show j + d + -1 = j + d - 1 from by omega]
    exact h m hf hm
  | r + 1, i, m, hr, hi, hf, hm => by
    have e1 := hm (j + i) (by omega) (by omega)
    rw [stW_at] at e1
    have b1 := hw (j + i) (by omega) (by omega)
    have b2 := bd_mul ht (hg i hi (by omega))
    have W0 := bd_nn ht
    have WG := Int.mul_nonneg W0 hG
    unfold bd at b1 b2
    refine T_M_divides_101 _ _ _ _ _ _ (bf (by omega) ?_)
    rw [w32_id (z := j + d - d) (by omega) (by omega), show j + d - d = j from by omega, w32_id (z := j + i) (by omega) (by omega), w32_id (z := i + 1) (by omega) (by omega), e1, hf 228 (by decide), hg0 i hi (by omega), w64_id (z := t * g i) (by omega) (by omega), w64_id (by omega) (by omega)]
    refine ⟨⟨by omega, by omega⟩, ⟨by omega, by omega⟩, ⟨by omega, by omega⟩, l_M_dv101 hd hj hjd hn hw ht hg0 hg hG hW h r (i + 1) _ (by omega) (by omega) (fun x hx => (up_ne hx).trans (hf x hx)) (fun y y0 y1 => ?_)⟩
    rw [← stW_up hi]
    unfold upf
    by_cases q : y = j + i
    · rw [q, up_eq, if_pos rfl]
    · rw [up_nj q, if_neg q]
      exact hm y y0 y1
theorem l_M_dv180 {n : Int} {m0 : rz_M} (hn : m0 221 5 = n) {K : Int → rz_M → Prop} (h : ∀ m' : rz_M, (∀ i, i ≠ 224 → m' i = m0 i) → (∀ y : Int, 0 ≤ y → y < 7 → m' 224 y = if n < y then 0 else m0 230 y) → K 1 m') : ∀ (r : Nat) (k : Int) (m : rz_M), 7 - k = r → 0 ≤ k → (∀ i, i ≠ 224 → m i = m0 i) → (∀ y : Int, 0 ≤ y → y < k → m 224 y = if n < y then 0 else m0 230 y) → rz_E y_M_divides 180 [rR 221, rX 0, rI k, rX 0, rX 0, rX 0] [] m K
  | 0, k, m, hr, k0, hf, hv => T_M_divides_180 _ _ _ (bt (by omega) (h m hf (fun y y0 y1 => hv y y0 (by omega))))
  | r + 1, k, m, hr, k0, hf, hv => by
    refine T_M_divides_180 _ _ _ (bf (by omega) ?_)
    rw [hf 221 (by decide), hn, hf 230 (by decide), w32_id (by omega) (by omega)]
    refine bb (fun q => ⟨⟨k0, by omega⟩, l_M_dv180 hn h r (k + 1) _ (by omega) (by omega) (fun i hi => by rw [up_ne hi]; exact hf i hi) (fun y y0 y1 => ?_)⟩) (fun q => ⟨⟨k0, by omega⟩, ⟨k0, by omega⟩, l_M_dv180 hn h r (k + 1) _ (by omega) (by omega) (fun i hi => by rw [up_ne hi]; exact hf i hi) (fun y y0 y1 => ?_)⟩)
    · by_cases w : y = k
      · rw [w, up_eq, if_pos q]
      · rw [up_nj w]; exact hv y y0 (by omega)
    · by_cases w : y = k
      · rw [w, up_eq, if_neg q]
      · rw [up_nj w]; exact hv y y0 (by omega)
theorem l_M_dv144 {d : Int} (hd : d ≤ 6) {m : rz_M} {K : Int → rz_M → Prop} (k0 : (∃ k : Int, 0 ≤ k ∧ k < d ∧ m 229 k ≠ 0) → K 0 m) (k1 : (∀ k : Int, 0 ≤ k → k < d → m 229 k = 0) → rz_E y_M_divides 180 [rR 221, rX 0, rI 0, rX 0, rX 0, rX 0] [] (rz_up m 221 5 (w32 ((m 221 5) - d))) K) : ∀ (r : Nat) (k : Int), (d - k).toNat = r → 0 ≤ k → (∀ i : Int, 0 ≤ i → i < k → m 229 i = 0) → rz_E y_M_divides 144 [rR 221, rI d, rI k, rX 0, rX 0, rX 0] [] m K
  | 0, k, hr, h0, hz => T_M_divides_144 _ _ _ _ (bt (by omega) (k1 (fun i i0 i1 => hz i i0 (by omega))))
  | r + 1, k, hr, h0, hz => by
    refine T_M_divides_144 _ _ _ _ (bf (by omega) ⟨⟨h0, by omega⟩, bb (fun q => ?_) (fun q => k0 ⟨k, h0, by omega, q⟩)⟩)
    rw [w32_id (by omega) (by omega)]
    refine l_M_dv144 hd k0 k1 r (k + 1) (by omega) (by omega) (fun i i0 i1 => ?_)
    by_cases w : i = k
    · rw [w]; exact q
    · exact hz i i0 (by omega)
section
variable {R : Type}
theorem l_M_dv50 [Lean.Grind.CommRing R] {co : R → Nat → Int} {mk : Nat → (Nat → Int) → R} (H : PolyR co mk) {n d : Int} (hd : 1 ≤ d ∧ d ≤ n) (hn : n ≤ 6) {m0 : rz_M} (en : m0 221 5 = n) {g : Int → Int} (hg0 : ∀ y : Int, 0 ≤ y → y ≤ d → m0 228 y = g y) (h0 : g d ≠ 0) (hgz : ∀ k : Int, d < k → k < 7 → g k = 0) {W G : Int} (hG : 0 ≤ G) (hg : ∀ y : Int, 0 ≤ y → y ≤ d → bd (g y) G) (hW0 : 0 ≤ W) (hWG : W * (1 + G) ^ (n - d + 1).toNat ≤ 4000000000000000000) {K : Int → rz_M → Prop}
    (k1 : ∀ m' : rz_M, (∀ i, i ≠ 221 → i ≠ 224 → i ≠ 229 → i ≠ 230 → m' i = m0 i) → (∀ y : Int, y ≠ 5 → m' 221 y = m0 221 y) → m' 221 5 = n - d → pR mk 7 (m0 224) = pR mk 7 g * pR mk 7 (m' 224) → (∀ k : Int, n - d < k → k < 7 → m' 224 k = 0) → K 1 m') (k0 : ¬ zd (pR mk 7 g) (pR mk 7 (m0 224)) → ∀ m' : rz_M, (∀ i, i ≠ 229 → i ≠ 230 → m' i = m0 i) → K 0 m') : ∀ (r : Nat) (j : Int) (m : rz_M) (u w : Int → Int), j + 1 = r → j ≤ n - d → (∀ i, i ≠ 229 → i ≠ 230 → m i = m0 i) → (∀ y : Int, 0 ≤ y → y ≤ n → m 229 y = w y) → (∀ y : Int, 0 ≤ y → y ≤ n → m 230 y = u y) → divI mk (m0 224) g u w n d j → hB w (W * (1 + G) ^ (n - d - j).toNat) → rz_E y_M_divides 50 [rR 221, rI d, rI (j + d), rX 0, rX 0, rX 0] [] m K
  | 0, j, m, u, w, hr, hj, hf, hw, hu, hI, hb => by
    have ej : j = -1 := by omega
    subst ej
    have zab : ∀ k : Int, d ≤ k → k < 7 → w k = 0 := fun k k0 k1 => hI.2.1 k (by omega) k1
    refine T_M_divides_50 _ _ _ _ (bt (by omega) (l_M_dv144 (by omega) (fun hx => k0 (fun z => ?_) m hf) (fun hz => ?_) d.toNat 0 (by omega) (by decide) (fun i i0 i1 => by omega)))
    · obtain ⟨h, e⟩ := z
      obtain ⟨k, x0, x1, x2⟩ := hx
      have ok := (divI_ok H ⟨by omega, by omega⟩ (by decide) (by omega) h0 hgz hI e).1
      have eh : h = pR mk 7 u := H.1 _ _ (fun k => ok k (by omega))
      have ew : pR mk 7 w = 0 := by
        have := hI.1
        rw [e, eh] at this
        grind
      have c : co (pR mk 7 w) k.toNat = co (0 : R) k.toNat := by rw [ew]
      rw [co_pR H, co_zero H, if_pos (by omega), Int.toNat_of_nonneg x0, ← hw k x0 (by omega)] at c
      exact x2 c
    · have ew : pR mk 7 w = 0 := H.1 _ _ (fun k => by
        rw [co_pR H, co_zero H]
        split
        · by_cases z : (k : Int) < d
          · rw [← hw k (by omega) (by omega)]
            exact hz k (by omega) z
          · exact zab k (by omega) (by omega)
        · rfl)
      rw [hf 221 (by decide) (by decide), en, w32_id (by omega) (by omega)]
      refine l_M_dv180 (n := n - d) (m0 := rz_up m 221 5 (n - d)) up_eq (fun m' f' v' => ?_) 7 0 _ (by decide) (by decide) (fun _ _ => rfl) (fun y y0 y1 => by omega)
      have m4 : ∀ y : Int, 0 ≤ y → y < 7 → m' 224 y = u y := fun y y0 y1 => by
        rw [v' y y0 y1, up_ne (by decide)]
        split
        · next q => exact (hI.2.2.2 y q y1).symm
        · exact hu y y0 (by omega)
      refine k1 m' (fun i i1 i2 i3 i4 => by rw [f' i i2, up_ne i1]; exact hf i i3 i4) (fun y hy => by rw [f' 221 (by decide), up_nj hy, hf 221 (by decide) (by decide)]) (by rw [f' 221 (by decide), up_eq]) ?_ (fun k k0 k1 => by rw [m4 k (by omega) k1]; exact hI.2.2.2 k k0 k1)
      have e4 : pR mk 7 (m' 224) = pR mk 7 u := pR_congr H (fun y a b => m4 y a (by omega))
      rw [e4, hI.1, ew]
      grind
  | r + 1, j, m, u, w, hr, hj, hf, hw, hu, hI, hb => by
    have f228 : m 228 d = g d := by rw [hf 228 (by decide) (by decide)]; exact hg0 d (by omega) (by omega)
    have ew := hw (j + d) (by omega) (by omega)
    have bw := hb (j + d) (by omega) (by omega)
    have bb1 : (1 : Int) ≤ 1 + G := by omega
    have step : W * (1 + G) ^ (n - d - j).toNat + W * (1 + G) ^ (n - d - j).toNat * G = W * (1 + G) ^ (n - d - (j - 1)).toNat := by
      rw [show (n - d - (j - 1)).toNat = (n - d - j).toNat + 1 from by omega, Int.pow_succ]
      grind
    have lim : W * (1 + G) ^ (n - d - (j - 1)).toNat ≤ 4000000000000000000 := by
      have := Int.mul_le_mul_of_nonneg_left (ipw_mono bb1 (n - d - (j - 1)).toNat ((n - d + 1).toNat - (n - d - (j - 1)).toNat)) hW0
      rw [show (n - d - (j - 1)).toNat + ((n - d + 1).toNat - (n - d - (j - 1)).toNat) = (n - d + 1).toNat from by omega] at this
      omega
    have W1 := bd_nn bw
    have WG := Int.mul_nonneg W1 hG
    refine T_M_divides_50 _ _ _ _ (bf (by omega) ⟨⟨by omega, by omega⟩, ⟨by omega, by omega⟩, ?_⟩)
    rw [f228, ew]
    refine ⟨h0, bb (fun q => ⟨⟨by omega, by omega⟩, ⟨by omega, by omega⟩, h0, ?_⟩) (fun q => k0 (fun z => ?_) m hf)⟩
    · obtain ⟨t, et⟩ := Int.dvd_of_tmod_eq_zero q
      have etd : Int.tdiv (w (j + d)) (g d) = t := Int.tdiv_eq_of_eq_mul_right h0 et
      have tb : t.natAbs ≤ (w (j + d)).natAbs := ab_div h0 et.symm
      have twb := bd_abs bw
      have bt' : bd t (W * (1 + G) ^ (n - d - j).toNat) := by unfold bd; omega
      have bt2 := bt'
      unfold bd at bt2
      rw [etd, w32_id (z := j + d - d) (by omega) (by omega), show j + d - d = j from by omega, w64_id (z := t) (by omega) (by omega)]
      refine ⟨⟨by omega, by omega⟩, l_M_dv101 (m0 := rz_up m 230 j t) (w := w) (g := g) (W := W * (1 + G) ^ (n - d - j).toNat) (G := G) (by omega) (by omega) (by omega) hn hb bt' (fun y y0 y1 => by rw [up_ne (by decide), hf 228 (by decide) (by decide)]; exact hg0 y y0 y1) hg hG (by rw [step]; exact lim) (fun m' f' w' => ?_) (d + 1).toNat 0 (rz_up m 230 j t) (by omega) (Int.le_refl _) (fun _ _ => rfl) (fun y y0 y1 => by rw [stW_0, up_ne (by decide)]; exact hw y y0 y1)⟩
      rw [show j + d - 1 = (j - 1) + d from by omega]
      refine l_M_dv50 H hd hn en hg0 h0 hgz hG hg hW0 hWG k1 k0 r (j - 1) m' (upf u j t) (stW g t j (d + 1) w) (by omega) (by omega) (fun i i1 i2 => by rw [f' i i1, up_ne i2]; exact hf i i1 i2) w' (fun y y0 y1 => ?_) (divI_next H (by omega) (by omega) hj (by omega) hgz hI et) ?_
      · rw [f' 230 (by decide)]
        unfold upf
        by_cases z : y = j
        · rw [z, up_eq, if_pos rfl]
        · rw [up_nj z, if_neg z]
          exact hu y y0 y1
      · rw [← step]
        exact stW_b2 hb bt' hg (Int.le_refl _) hG
    · obtain ⟨h, e⟩ := z
      have := (divI_ok H ⟨by omega, by omega⟩ (by omega) (by omega) h0 hgz hI e).2 (by omega)
      exact q (Int.tmod_eq_zero_of_dvd ⟨_, this⟩)
theorem l_M_dv12 {n d : Int} (hn : 0 ≤ n ∧ n ≤ 6) {m0 : rz_M} (en : m0 221 5 = n) {K : Int → rz_M → Prop} (h : ∀ m' : rz_M, (∀ i, i ≠ 229 → i ≠ 230 → m' i = m0 i) → (∀ y : Int, 0 ≤ y → y ≤ n → m' 229 y = m0 224 y) → (∀ y : Int, 0 ≤ y → y ≤ n → m' 230 y = 0) → rz_E y_M_divides 50 [rR 221, rI d, rI n, rX 0, rX 0, rX 0] [] m' K) : ∀ (r : Nat) (k : Int) (m : rz_M), n + 1 - k = r → 0 ≤ k → (∀ i, i ≠ 229 → i ≠ 230 → m i = m0 i) → (∀ y : Int, 0 ≤ y → y < k → m 229 y = m0 224 y) → (∀ y : Int, 0 ≤ y → y < k → m 230 y = 0) → rz_E y_M_divides 12 [rR 221, rI d, rI k, rX 0, rX 0, rX 0] [] m K
  | 0, k, m, hr, k0, hf, h1, h2 => by
    refine T_M_divides_12 _ _ _ _ ?_
    rw [hf 221 (by decide) (by decide), en]
    exact bt (by omega) (h m hf (fun y y0 y1 => h1 y y0 (by omega)) (fun y y0 y1 => h2 y y0 (by omega)))
  | r + 1, k, m, hr, k0, hf, h1, h2 => by
    refine T_M_divides_12 _ _ _ _ ?_
    rw [hf 221 (by decide) (by decide), en, hf 224 (by decide) (by decide), w32_id (by omega) (by omega)]
    refine bf (by omega) ⟨⟨k0, by omega⟩, ⟨k0, by omega⟩, ⟨k0, by omega⟩, l_M_dv12 hn en h r (k + 1) _ (by omega) (by omega) (fun i i1 i2 => by rw [up_ne i2, up_ne i1]; exact hf i i1 i2) (fun y y0 y1 => ?_) (fun y y0 y1 => ?_)⟩
    · rw [up_ne (by decide)]
      by_cases w : y = k
      · rw [w, up_eq]
      · rw [up_nj w]; exact h1 y y0 (by omega)
    · by_cases w : y = k
      · rw [w, up_eq]
      · rw [up_nj w, up_ne (by decide)]; exact h2 y y0 (by omega)
theorem c_M_divides [Lean.Grind.CommRing R] {co : R → Nat → Int} {mk : Nat → (Nat → Int) → R} (H : PolyR co mk) {n d : Int} (hd : 1 ≤ d ∧ d ≤ 6) (hn : 0 ≤ n ∧ n ≤ 6) {m0 : rz_M} (en : m0 221 5 = n) (hfz : ∀ k : Int, n < k → k < 7 → m0 224 k = 0) (hfn : m0 224 n ≠ 0) {g : Int → Int} (hg0 : ∀ y : Int, 0 ≤ y → y ≤ d → m0 228 y = g y) (h0 : g d ≠ 0) (hgz : ∀ k : Int, d < k → k < 7 → g k = 0) {W G : Int} (hG : 0 ≤ G) (hg : ∀ y : Int, 0 ≤ y → y ≤ d → bd (g y) G) (hW : hB (m0 224) W) (hWG : W * (1 + G) ^ (n - d + 1).toNat ≤ 4000000000000000000) {K : Int → rz_M → Prop}
    (k1 : ∀ m' : rz_M, (∀ i, i ≠ 221 → i ≠ 224 → i ≠ 229 → i ≠ 230 → m' i = m0 i) → (∀ y : Int, y ≠ 5 → m' 221 y = m0 221 y) → m' 221 5 = n - d → pR mk 7 (m0 224) = pR mk 7 g * pR mk 7 (m' 224) → (∀ k : Int, n - d < k → k < 7 → m' 224 k = 0) → d ≤ n → K 1 m') (k0 : ¬ zd (pR mk 7 g) (pR mk 7 (m0 224)) → ∀ m' : rz_M, (∀ i, i ≠ 229 → i ≠ 230 → m' i = m0 i) → K 0 m') : rz_C y_M_divides [rR 221, rI d] m0 K := by
  refine T_M_divides_0 _ _ _ ?_
  rw [en]
  refine bb (fun q => ?_) (fun q => k0 (fun z => ?_) m0 (fun _ _ _ => rfl))
  · refine l_M_dv12 hn en (fun m' f' a b => ?_) (n + 1).toNat 0 m0 (by omega) (by decide) (fun _ _ _ => rfl) (fun y y0 y1 => by omega) (fun y y0 y1 => by omega)
    have W0 := bd_nn (hW 0 (by decide) (by decide))
    have := l_M_dv50 H (g := g) ⟨hd.1, q⟩ hn.2 en hg0 h0 hgz hG hg W0 hWG (K := K) (fun m' a b c e f => k1 m' a b c e f q) k0 (n - d + 1).toNat (n - d) m' (fun _ => 0) (m0 224) (by omega) (Int.le_refl _) f' a b (divI_0 rfl hfz (fun _ => rfl) (pR_z H 7)) (by
      rw [show (n - d - (n - d)).toNat = 0 from by omega, Int.pow_zero, Int.mul_one]
      exact hW)
    rwa [show n - d + d = n from by omega] at this
  · obtain ⟨h, e⟩ := z
    have tf := row_tz H (d := n) ⟨hn.1, by omega⟩ hfn hfz
    have tg := row_tz H (d := d) ⟨by omega, by omega⟩ h0 hgz
    obtain ⟨i, j, hi, _, hij⟩ := zd_deg H tf e
    have := tz_uniq hi tg
    omega
end
