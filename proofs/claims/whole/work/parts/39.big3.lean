/-! differences of sizes; which is smaller; sums of Bigs -/
def colS (m : rz_M) (a b : Nat) (j : Int) : Int := m (a + 1) j - pad (m (b + 1)) (m b 1) j
theorem l_takeSizes {a b c : Nat} (ha : bgO a) (hb : bgO b) (hc : bgO c) {m : rz_M} (ga : bg m a) (gb : bg m b) {n : Nat} (hn : n ≤ 40) (han : m a 1 = n) {sg : Int} {K : Int → rz_M → Prop}
    (h : rz_C y_Big_endWith [rR c, rI n, rL 0, rI sg] (wr m (c + 1) n (dgt (colS m a b))) (fun _ m' => K 0 m')) : ∀ (d k : Nat), n - k = d → k ≤ n → rz_E y_Big_takeSizes 12 [rR c, rR a, rR b, rI sg, rI n, rL (cy (colS m a b) k), rX 1, rI k] [] (wr m (c + 1) k (dgt (colS m a b))) K
  | 0, k, hd, hk => by
    have e : k = n := by omega
    subst e
    exact T_Big_takeSizes_12 _ _ _ _ _ _ _ _ _ (bt (by omega) ⟨hc.1, h⟩)
  | d + 1, k, hd, hk => by
    have e2 : wr m (c + 1) k (dgt (colS m a b)) b 1 = m b 1 := by rw [wr_ne (bgO_ne hb hc)]
    have pa := ga.2.1 k (by omega) (by omega)
    have pb := pad_R gb.2.1 (j := k) (by omega)
    have cR := cy_R (col := colS m a b) k (fun j x y => by
      have := ga.2.1 j x (by omega)
      have := pad_R gb.2.1 (j := j) x
      unfold colS
      omega)
    have go : ∀ s0 : Int, s0 = pad (m (b + 1)) (m b 1) k → rz_E y_Big_takeSizes 48 [rR c, rR a, rR b, rI sg, rI n, rX 0, rX 0, rI k] [rL s0, rL (m (a + 1) k), rL (cy (colS m a b) k)] (wr m (c + 1) k (dgt (colS m a b))) K := fun s0 h0 => by
      have q := cut_ok (x := cy (colS m a b) k) (y := m (a + 1) k - s0) (z := colS m a b k) (by omega) (by omega) (by rw [h0]; rfl)
      refine T_Big_takeSizes_48 _ _ _ _ _ _ _ _ _ _ _ ⟨hc.1, ?_⟩
      rw [q.1, q.2, hc.2.1, w32_id (by omega) (by omega)]
      refine ⟨hc.2.2.1, ⟨by omega, by rw [hc.2.2.2]; omega⟩, ?_⟩
      rw [wr_succ (by omega) (by unfold dgt; rw [Int.toNat_natCast])]
      exact l_takeSizes ha hb hc ga gb hn han h d (k + 1) (by omega) (by omega)
    refine T_Big_takeSizes_12 _ _ _ _ _ _ _ _ _ (bf (by omega) ⟨ha.1, ?_⟩)
    rw [e2, ha.2.1, hb.2.1, wr_at, wr_at]
    refine ⟨ha.2.2.1, ⟨by omega, by rw [ha.2.2.2]; omega⟩, hb.1, bb (fun qb => go _ ?_) (fun qb => ⟨hb.1, hb.2.2.1, ⟨by omega, by rw [hb.2.2.2]; omega⟩, go _ ?_⟩)⟩
    · exact (if_pos qb).symm
    · exact (if_neg qb).symm
theorem c_of_total {r c p t : Int} (hr : 0 ≤ r ∧ r < p) (ht : 0 ≤ t ∧ t < p) (h : r + c * p = t) : c = 0 := by
  rcases Int.lt_trichotomy c 0 with q | q | q
  · have h1 : c * p ≤ (-1) * p := Int.mul_le_mul_of_nonneg_right (by omega) (by omega)
    omega
  · exact q
  · have h1 : 1 * p ≤ c * p := Int.mul_le_mul_of_nonneg_right (by omega) (by omega)
    omega
theorem mag_le_size {g : Int → Int} {n : Nat} (h : digs g (n + 1 : Nat)) (h0 : g n ≠ 0) : pw n ≤ mag g (n + 1) := by
  have h1 := mag_nn n (fun j a b => h j a (by omega))
  have h2 := (h n (by omega) (by omega)).1
  have h3 : 1 * pw n ≤ g n * pw n := Int.mul_le_mul_of_nonneg_right (by omega) (Int.le_of_lt (pw_pos n))
  show pw n ≤ mag g n + g n * pw n
  omega
theorem size_lt {m : rz_M} {a b : Nat} (ga : bg m a) (gb : bg m b) (h : m a 1 < m b 1) : mag (m (a + 1)) (m a 1).toNat < mag (m (b + 1)) (m b 1).toNat := by
  obtain ⟨n, hn⟩ : ∃ n : Nat, m b 1 = (n + 1 : Nat) := ⟨(m b 1).toNat - 1, by have := ga.1; omega⟩
  have h5 : m (b + 1) n ≠ 0 := by
    rcases gb.2.2 with q | ⟨_, q, _⟩
    · omega
    · rw [hn, show ((n + 1 : Nat) : Int) - 1 = n from by omega] at q
      exact q
  have h1 := mag_le_size (g := m (b + 1)) (n := n) (by rw [← hn]; exact gb.2.1) h5
  have h2 := mag_lt (g := m (a + 1)) (m a 1).toNat (by rw [Int.toNat_of_nonneg ga.1.1]; exact ga.2.1)
  have h3 : pw (m a 1).toNat ≤ pw n := pw_mono (by have := ga.1; omega)
  rw [hn, Int.toNat_natCast]
  omega
theorem c_Big_takeSizes {a b c : Nat} (ha : bgO a) (hb : bgO b) (hc : bgO c) {m : rz_M} (ga : bg m a) (gb : bg m b) {sg : Int} {K : Int → rz_M → Prop}
    (hs : mag (m (b + 1)) (m b 1).toNat ≤ mag (m (a + 1)) (m a 1).toNat) (hg : sg = 1 ∨ sg = -1)
    (h : ∀ m', bgw c m m' → bg m' c → bv m' c = sg * (mag (m (a + 1)) (m a 1).toNat - mag (m (b + 1)) (m b 1).toNat) → K 0 m') : rz_C y_Big_takeSizes [rR c, rR a, rR b, rI sg] m K := by
  obtain ⟨n, hn⟩ : ∃ n : Nat, m a 1 = n := ⟨(m a 1).toNat, by have := ga.1; omega⟩
  have hn40 : n ≤ 40 := by have := ga.1; omega
  have hbn : m b 1 ≤ n := by
    refine Decidable.byContradiction fun q => ?_
    have := size_lt ga gb (by omega)
    omega
  have l := l_takeSizes ha hb hc ga gb hn40 hn (sg := sg) (K := K) ?_ n 0 rfl (Nat.zero_le _)
  · refine T_Big_takeSizes_0 _ _ _ _ _ _ ⟨ha.1, ?_⟩
    rw [hn]
    rw [show ((0 : Nat) : Int) = 0 from rfl, wr_0] at l
    exact l
  · have hm : mag (dgt (colS m a b)) n + cy (colS m a b) n * pw n = mag (m (a + 1)) (m a 1).toNat - mag (m (b + 1)) (m b 1).toNat := by
      rw [mag_cy]
      show mag (fun j => m (a + 1) j - pad (m (b + 1)) (m b 1) j) n = _
      rw [mag_sub, mag_pad gb.1.1 n hbn, hn, Int.toNat_natCast]
    have d1 : ∀ j : Int, 0 ≤ j → j < n → wr m (c + 1) n (dgt (colS m a b)) (c + 1) j = dgt (colS m a b) j := fun j x y => wr_in x y
    have md : mag (wr m (c + 1) n (dgt (colS m a b)) (c + 1)) n = mag (dgt (colS m a b)) n := mag_congr n d1
    have hd : digs (dgt (colS m a b)) n := fun j _ _ => dgt_R _ _
    have la := mag_lt (g := m (a + 1)) n (by rw [← hn]; exact ga.2.1)
    have lb := mag_nn (g := m (b + 1)) (m b 1).toNat (by rw [Int.toNat_of_nonneg gb.1.1]; exact gb.2.1)
    rw [hn, Int.toNat_natCast] at hm hs h
    have hz := c_of_total ⟨mag_nn n hd, mag_lt n hd⟩ ⟨by omega, by omega⟩ hm
    rw [hz, Int.zero_mul, Int.add_zero] at hm
    refine c_Big_endWith hc hn40 (fun j x y => by rw [d1 j x y]; exact dgt_R _ _) ⟨by decide, by decide⟩ (Or.inl rfl) (by omega) (fun m' w g v => h m' (fun i h1 h2 => (w i h1 h2).trans (wr_ne h2)) g ?_)
    rw [v, md, hm, Int.zero_mul, Int.add_zero]
theorem mag_cmp {f g : Int → Int} {n : Nat} (hf : digs f (n + 1 : Nat)) (hg : digs g (n + 1 : Nat)) (h : f n < g n) : mag f (n + 1) < mag g (n + 1) := by
  have h1 := mag_lt n (g := f) (fun j a b => hf j a (by omega))
  have h2 := mag_nn n (g := g) (fun j a b => hg j a (by omega))
  have h3 : (f n + 1) * pw n ≤ g n * pw n := Int.mul_le_mul_of_nonneg_right (by omega) (Int.le_of_lt (pw_pos n))
  rw [Int.add_mul, Int.one_mul] at h3
  show mag f n + f n * pw n < mag g n + g n * pw n
  omega
theorem l_isSmaller {a b : Nat} (ha : bgO a) (hb : bgO b) {m : rz_M} {N : Nat} (hN : N ≤ 40) (da : digs (m (a + 1)) N) (db : digs (m (b + 1)) N) {K : Int → rz_M → Prop}
    (h1 : mag (m (a + 1)) N < mag (m (b + 1)) N → K 1 m) (h0 : mag (m (b + 1)) N ≤ mag (m (a + 1)) N → K 0 m) : ∀ n : Nat, n ≤ N → mag (m (a + 1)) N - mag (m (a + 1)) n = mag (m (b + 1)) N - mag (m (b + 1)) n → rz_E y_Big_isSmaller 35 [rR a, rR b, rI ((n : Int) - 1)] [] m K
  | 0, hn, e => T_Big_isSmaller_35 _ _ _ _ _ (bt (by omega) (h0 (by have : mag (m (a + 1)) 0 = mag (m (b + 1)) 0 := rfl; omega)))
  | n + 1, hn, e => by
    have ia : rz_in (n : Int) (rz_len (a + 1)) := ⟨by omega, by rw [ha.2.2.2]; omega⟩
    have ib : rz_in (n : Int) (rz_len (b + 1)) := ⟨by omega, by rw [hb.2.2.2]; omega⟩
    have ca : digs (m (a + 1)) (n + 1 : Nat) := fun j x y => da j x (by omega)
    have cb : digs (m (b + 1)) (n + 1 : Nat) := fun j x y => db j x (by omega)
    refine T_Big_isSmaller_35 _ _ _ _ _ (bf (by omega) ?_)
    rw [show ((n + 1 : Nat) : Int) - 1 = n from by omega, ha.2.1, hb.2.1, w32_id (by omega) (by omega), show (n : Int) + -1 = n - 1 from rfl]
    refine ⟨ha.1, ha.2.2.1, ia, hb.1, hb.2.2.1, ib, bb (fun q => ?_) (fun q => ⟨ha.1, ha.2.2.1, ia, hb.1, hb.2.2.1, ib, bb (fun z => h0 ?_) (fun z => h1 ?_)⟩)⟩
    · refine l_isSmaller ha hb hN da db h1 h0 n (by omega) ?_
      have e1 : mag (m (a + 1)) (n + 1) = mag (m (a + 1)) n + m (a + 1) n * pw n := rfl
      have e2 : mag (m (b + 1)) (n + 1) = mag (m (b + 1)) n + m (b + 1) n * pw n := rfl
      rw [e1, e2, q] at e
      omega
    · have := mag_cmp cb ca (by omega)
      omega
    · have := mag_cmp ca cb (by omega)
      omega
theorem c_Big_isSmaller {a b : Nat} (ha : bgO a) (hb : bgO b) {m : rz_M} (ga : bg m a) (gb : bg m b) {K : Int → rz_M → Prop}
    (h1 : mag (m (a + 1)) (m a 1).toNat < mag (m (b + 1)) (m b 1).toNat → K 1 m) (h0 : mag (m (b + 1)) (m b 1).toNat ≤ mag (m (a + 1)) (m a 1).toNat → K 0 m) : rz_C y_Big_isSmaller [rR a, rR b] m K := by
  obtain ⟨n, hn⟩ : ∃ n : Nat, m a 1 = n := ⟨(m a 1).toNat, by have := ga.1; omega⟩
  have hn40 : n ≤ 40 := by have := ga.1; omega
  refine T_Big_isSmaller_0 _ _ _ _ ⟨ha.1, hb.1, bb (fun q => ⟨ha.1, ?_⟩) (fun q => ⟨ha.1, hb.1, bb (fun z => h0 (Int.le_of_lt (size_lt gb ga (by omega)))) (fun z => h1 (size_lt ga gb (by omega)))⟩)⟩
  rw [← q] at h1 h0
  rw [hn, w32_id (by omega) (by omega)]
  rw [hn, Int.toNat_natCast] at h1 h0
  exact l_isSmaller ha hb hn40 (by rw [← hn]; exact ga.2.1) (by rw [← hn, q]; exact gb.2.1) h1 h0 n (Nat.le_refl _) (by omega)
