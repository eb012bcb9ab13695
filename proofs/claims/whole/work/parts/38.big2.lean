/-! columns and carries; sums of sizes -/
def cy (col : Int → Int) : Nat → Int
  | 0 => 0
  | n + 1 => (cy col n + col n) / 2147483648
def dgt (col : Int → Int) (j : Int) : Int := (cy col j.toNat + col j) % 2147483648
theorem mag_cy (col : Int → Int) : ∀ n : Nat, mag (dgt col) n + cy col n * pw n = mag col n
  | 0 => by show (0 : Int) + 0 * 1 = 0; decide
  | n + 1 => by
    have ih := mag_cy col n
    show mag (dgt col) n + dgt col n * pw n + (cy col n + col n) / 2147483648 * (pw n * 2147483648) = mag col n + col n * pw n
    have e : dgt col n = (cy col n + col n) % 2147483648 := by unfold dgt; rw [Int.toNat_natCast]
    have d := Int.emod_add_mul_ediv (cy col n + col n) 2147483648
    rw [e]
    generalize (cy col n + col n) % 2147483648 = r at d
    generalize (cy col n + col n) / 2147483648 = q at d
    have h : r * pw n + q * (pw n * 2147483648) = (cy col n + col n) * pw n := by
      rw [← d]
      grind
    grind
theorem dgt_R (col : Int → Int) (j : Int) : 0 ≤ dgt col j ∧ dgt col j < 2147483648 := by
  unfold dgt
  omega
theorem mag_add (f g : Int → Int) : ∀ n : Nat, mag (fun j => f j + g j) n = mag f n + mag g n
  | 0 => rfl
  | n + 1 => by
    show mag (fun j => f j + g j) n + (f n + g n) * pw n = mag f n + f n * pw n + (mag g n + g n * pw n)
    rw [mag_add f g n]
    grind
theorem mag_sub (f g : Int → Int) : ∀ n : Nat, mag (fun j => f j - g j) n = mag f n - mag g n
  | 0 => rfl
  | n + 1 => by
    show mag (fun j => f j - g j) n + (f n - g n) * pw n = mag f n + f n * pw n - (mag g n + g n * pw n)
    rw [mag_sub f g n]
    grind
theorem mag_mul (f : Int → Int) (k : Int) : ∀ n : Nat, mag (fun j => f j * k) n = mag f n * k
  | 0 => by show (0 : Int) = 0 * k; rw [Int.zero_mul]
  | n + 1 => by
    show mag (fun j => f j * k) n + f n * k * pw n = (mag f n + f n * pw n) * k
    rw [mag_mul f k n]
    grind
/-- the digits of a, noughts behind its size -/
def pad (g : Int → Int) (s : Int) (j : Int) : Int := if s ≤ j then 0 else g j
theorem mag_pad {g : Int → Int} {s : Int} (h0 : 0 ≤ s) : ∀ n : Nat, s ≤ n → mag (pad g s) n = mag g s.toNat
  | 0, h => by
    rw [show s.toNat = 0 by omega]
    rfl
  | n + 1, h => by
    by_cases e : s = (n + 1 : Nat)
    · subst e
      rw [Int.toNat_natCast]
      exact mag_congr _ (fun j a b => if_neg (by omega))
    · show mag (pad g s) n + pad g s n * pw n = _
      rw [mag_pad h0 n (by omega), show pad g s n = 0 from if_pos (by omega)]
      omega
theorem bgO_ne {a c : Nat} (ha : bgO a) (hc : bgO c) : a ≠ c + 1 := by
  intro e
  have h1 := ha.1
  have h2 := hc.2.2.1
  rw [e] at h1
  have h3 := Nat.eq_of_beq_eq_true h1
  have h4 := Nat.eq_of_beq_eq_true h2
  omega
theorem wr_at {m : rz_M} {x : Nat} {k : Nat} {g : Int → Int} (d : Nat) : wr m x k g d k = m d k := by
  by_cases e : d = x
  · subst e
    exact wr_out (by omega)
  · rw [wr_ne e]
theorem cy_R {col : Int → Int} (n : Nat) : (∀ j : Int, 0 ≤ j → j < n → -2147483648 ≤ col j ∧ col j < 4294967296) → -2 ≤ cy col n ∧ cy col n ≤ 2 := by
  induction n with
  | zero => exact fun _ => by show (-2 : Int) ≤ 0 ∧ (0 : Int) ≤ 2; decide
  | succ n ih =>
    intro h
    have h1 := ih (fun j a b => h j a (by omega))
    have h2 := h n (by omega) (by omega)
    show -2 ≤ (cy col n + col n) / 2147483648 ∧ (cy col n + col n) / 2147483648 ≤ 2
    omega
theorem cy_nn {col : Int → Int} (n : Nat) : (∀ j : Int, 0 ≤ j → j < n → 0 ≤ col j) → 0 ≤ cy col n := by
  induction n with
  | zero => exact fun _ => Int.le_refl _
  | succ n ih =>
    intro h
    have h1 := ih (fun j a b => h j a (by omega))
    have h2 := h n (by omega) (by omega)
    show 0 ≤ (cy col n + col n) / 2147483648
    omega
/-- one column of a sum -/
theorem cut_ok {x y z : Int} (h1 : -4 ≤ x ∧ x ≤ 4) (h2 : -4294967296 ≤ y ∧ y ≤ 4294967296) (hz : y = z) : (Int64.ofInt (w64 (x + w64 y)) >>> ((Int32.ofInt 31).toInt64 &&& 63)).toInt = (x + z) / 2147483648 ∧ (Int64.ofInt (w64 (x + w64 y)) &&& Int64.ofInt 2147483647).toInt = (x + z) % 2147483648 := by
  subst hz
  rw [w64_id (z := y) (by omega) (by omega), w64_id (by omega) (by omega)]
  exact ⟨shr31 ⟨by omega, by omega⟩, and31⟩
def colA (m : rz_M) (a b : Nat) (j : Int) : Int := pad (m (a + 1)) (m a 1) j + pad (m (b + 1)) (m b 1) j
theorem pad_R {g : Int → Int} {s : Int} (h : digs g s) {j : Int} (hj : 0 ≤ j) : 0 ≤ pad g s j ∧ pad g s j < 2147483648 := by
  unfold pad
  split
  · exact ⟨by decide, by decide⟩
  · exact h j hj (by omega)
theorem l_addSizes {a b c : Nat} (ha : bgO a) (hb : bgO b) (hc : bgO c) {m : rz_M} (ga : bg m a) (gb : bg m b) {n : Nat} (hn : n ≤ 40) (han : m a 1 ≤ n) (hbn : m b 1 ≤ n) {sg : Int} {K : Int → rz_M → Prop}
    (h : rz_C y_Big_endWith [rR c, rI n, rL (cy (colA m a b) n), rI sg] (wr m (c + 1) n (dgt (colA m a b))) (fun _ m' => K 0 m')) : ∀ (d k : Nat), n - k = d → k ≤ n → rz_E y_Big_addSizes 19 [rR c, rR a, rR b, rI sg, rI n, rL (cy (colA m a b) k), rX 1, rI k] [] (wr m (c + 1) k (dgt (colA m a b))) K
  | 0, k, hd, hk => by
    have e : k = n := by omega
    subst e
    exact T_Big_addSizes_19 _ _ _ _ _ _ _ _ _ (bt (by omega) ⟨hc.1, h⟩)
  | d + 1, k, hd, hk => by
    have e1 : wr m (c + 1) k (dgt (colA m a b)) a 1 = m a 1 := by rw [wr_ne (bgO_ne ha hc)]
    have e2 : wr m (c + 1) k (dgt (colA m a b)) b 1 = m b 1 := by rw [wr_ne (bgO_ne hb hc)]
    have pa := pad_R ga.2.1 (j := k) (by omega)
    have pb := pad_R gb.2.1 (j := k) (by omega)
    have cR := cy_R (col := colA m a b) k (fun j x y => by
      have := pad_R ga.2.1 (j := j) x
      have := pad_R gb.2.1 (j := j) x
      unfold colA
      omega)
    have go : ∀ s0 s1 : Int, s1 = pad (m (a + 1)) (m a 1) k → s0 = pad (m (b + 1)) (m b 1) k → rz_E y_Big_addSizes 68 [rR c, rR a, rR b, rI sg, rI n, rX 0, rX 0, rI k] [rL s0, rL s1, rL (cy (colA m a b) k)] (wr m (c + 1) k (dgt (colA m a b))) K := fun s0 s1 h1 h0 => by
      have q := cut_ok (x := cy (colA m a b) k) (y := s1 + s0) (z := colA m a b k) (by omega) (by omega) (by rw [h1, h0]; rfl)
      refine T_Big_addSizes_68 _ _ _ _ _ _ _ _ _ _ _ ⟨hc.1, ?_⟩
      rw [q.1, q.2, hc.2.1, w32_id (by omega) (by omega)]
      refine ⟨hc.2.2.1, ⟨by omega, by rw [hc.2.2.2]; omega⟩, ?_⟩
      rw [wr_succ (by omega) (by unfold dgt; rw [Int.toNat_natCast])]
      exact l_addSizes ha hb hc ga gb hn han hbn h d (k + 1) (by omega) (by omega)
    refine T_Big_addSizes_19 _ _ _ _ _ _ _ _ _ (bf (by omega) ⟨ha.1, ?_⟩)
    rw [e1, e2, ha.2.1, hb.2.1, wr_at, wr_at]
    have ia : ¬ m a 1 ≤ k → rz_in (k : Int) (rz_len (a + 1)) := fun q => ⟨by omega, by rw [ha.2.2.2]; omega⟩
    have ib : ¬ m b 1 ≤ k → rz_in (k : Int) (rz_len (b + 1)) := fun q => ⟨by omega, by rw [hb.2.2.2]; omega⟩
    refine bb (fun qa => ⟨hb.1, bb (fun qb => go _ _ ?_ ?_) (fun qb => ⟨hb.1, hb.2.2.1, ib qb, go _ _ ?_ ?_⟩)⟩) (fun qa => ⟨ha.1, ha.2.2.1, ia qa, hb.1, bb (fun qb => go _ _ ?_ ?_) (fun qb => ⟨hb.1, hb.2.2.1, ib qb, go _ _ ?_ ?_⟩)⟩)
    all_goals first
      | exact (if_pos (by assumption)).symm
      | exact (if_neg (by assumption)).symm
theorem pw_mono {a b : Nat} (h : a ≤ b) : pw a ≤ pw b := by
  induction h with
  | refl => exact Int.le_refl _
  | step h ih =>
    refine Int.le_trans ih ?_
    show pw _ ≤ pw _ * 2147483648
    have := pw_pos ‹Nat›
    omega
/-- a total below pw 40 leaves no carry behind 40 digits -/
theorem no_carry {c r p : Int} (hp : 0 < p) (hr : 0 ≤ r) (hc : 0 ≤ c) (h : r + c * p < p) : c = 0 := by
  by_cases e : c = 0
  · exact e
  · have h1 : 1 * p ≤ c * p := Int.mul_le_mul_of_nonneg_right (by omega) (by omega)
    omega
theorem mx_eq {a b : Int} (ha : 0 ≤ a ∧ a ≤ 40) (hb : 0 ≤ b ∧ b ≤ 40) : ∃ n : Nat, rz_mx a b = n ∧ n ≤ 40 ∧ a ≤ n ∧ b ≤ n := by
  refine ⟨(rz_mx a b).toNat, ?_⟩
  unfold rz_mx
  split <;> omega
theorem c_Big_addSizes {a b c : Nat} (ha : bgO a) (hb : bgO b) (hc : bgO c) {m : rz_M} (ga : bg m a) (gb : bg m b) {sg : Int} {K : Int → rz_M → Prop}
    (hs : mag (m (a + 1)) (m a 1).toNat + mag (m (b + 1)) (m b 1).toNat < pw 40) (hg : sg = 1 ∨ sg = -1 ∨ mag (m (a + 1)) (m a 1).toNat + mag (m (b + 1)) (m b 1).toNat = 0)
    (h : ∀ m', bgw c m m' → bg m' c → bv m' c = sg * (mag (m (a + 1)) (m a 1).toNat + mag (m (b + 1)) (m b 1).toNat) → K 0 m') : rz_C y_Big_addSizes [rR c, rR a, rR b, rI sg] m K := by
  obtain ⟨n, e1, e2, e3, e4⟩ := mx_eq ga.1 gb.1
  have l := l_addSizes ha hb hc ga gb e2 e3 e4 (sg := sg) (K := K) ?_ n 0 rfl (Nat.zero_le _)
  · refine T_Big_addSizes_0 _ _ _ _ _ _ ⟨ha.1, hb.1, ?_⟩
    rw [e1]
    rw [show ((0 : Nat) : Int) = 0 from rfl, wr_0] at l
    exact l
  · have hm : mag (dgt (colA m a b)) n + cy (colA m a b) n * pw n = mag (m (a + 1)) (m a 1).toNat + mag (m (b + 1)) (m b 1).toNat := by
      rw [mag_cy]
      show mag (fun j => pad (m (a + 1)) (m a 1) j + pad (m (b + 1)) (m b 1) j) n = _
      rw [mag_add, mag_pad ga.1.1 n e3, mag_pad gb.1.1 n e4]
    have d1 : ∀ j : Int, 0 ≤ j → j < n → wr m (c + 1) n (dgt (colA m a b)) (c + 1) j = dgt (colA m a b) j := fun j x y => wr_in x y
    have md : mag (wr m (c + 1) n (dgt (colA m a b)) (c + 1)) n = mag (dgt (colA m a b)) n := mag_congr n d1
    have hd : digs (dgt (colA m a b)) n := fun j _ _ => dgt_R _ _
    have c0 : 0 ≤ cy (colA m a b) n := cy_nn n (fun j x y => by
      have := pad_R ga.2.1 (j := j) x
      have := pad_R gb.2.1 (j := j) x
      unfold colA
      omega)
    have cR := cy_R (col := colA m a b) n (fun j x y => by
      have := pad_R ga.2.1 (j := j) x
      have := pad_R gb.2.1 (j := j) x
      unfold colA
      omega)
    refine c_Big_endWith hc e2 (fun j x y => by rw [d1 j x y]; exact dgt_R _ _) ⟨c0, by omega⟩ ?_ (by rw [md, hm]; exact hg) (fun m' w g v => h m' (fun i h1 h2 => (w i h1 h2).trans (wr_ne h2)) g ?_)
    · by_cases e : n < 40
      · exact Or.inr e
      · have e40 : n = 40 := by omega
        subst e40
        exact Or.inl (no_carry (pw_pos 40) (mag_nn 40 hd) c0 (by rw [hm]; exact hs))
    · rw [v, md, hm]
