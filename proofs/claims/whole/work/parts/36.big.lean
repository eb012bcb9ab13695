/-! long numbers of the class: what a Big holds -/
def pw : Nat → Int
  | 0 => 1
  | n + 1 => pw n * 2147483648
def mag (g : Int → Int) : Nat → Int
  | 0 => 0
  | n + 1 => mag g n + g n * pw n
theorem pw_pos : ∀ n, 0 < pw n
  | 0 => by decide
  | n + 1 => Int.mul_pos (pw_pos n) (by decide)
def digs (g : Int → Int) (n : Int) : Prop := ∀ j : Int, 0 ≤ j → j < n → 0 ≤ g j ∧ g j < 2147483648
theorem mag_nn {g : Int → Int} : ∀ n : Nat, digs g n → 0 ≤ mag g n
  | 0, _ => Int.le_refl _
  | n + 1, h => Int.add_nonneg (mag_nn n (fun j a b => h j a (by omega))) (Int.mul_nonneg (h n (by omega) (by omega)).1 (Int.le_of_lt (pw_pos n)))
theorem mag_lt {g : Int → Int} : ∀ n : Nat, digs g n → mag g n < pw n
  | 0, _ => by show (0 : Int) < 1; decide
  | n + 1, h => by
    have h1 := mag_lt n (fun j a b => h j a (by omega))
    have h2 := (h n (by omega) (by omega)).2
    have h3 : g n * pw n ≤ 2147483647 * pw n := Int.mul_le_mul_of_nonneg_right (by omega) (Int.le_of_lt (pw_pos n))
    show mag g n + g n * pw n < pw n * 2147483648
    omega
theorem mag_congr {g h : Int → Int} : ∀ n : Nat, (∀ j : Int, 0 ≤ j → j < n → g j = h j) → mag g n = mag h n
  | 0, _ => rfl
  | n + 1, e => by
    show mag g n + g n * pw n = mag h n + h n * pw n
    rw [mag_congr n (fun j a b => e j a (by omega)), e n (by omega) (by omega)]
theorem mag_top {g : Int → Int} {n : Nat} (h : digs g (n + 1 : Nat)) (h0 : g n ≠ 0) : 0 < mag g (n + 1) := by
  have h1 := mag_nn n (fun j a b => h j a (by omega))
  have h2 := (h n (by omega) (by omega)).1
  exact Int.add_pos_of_nonneg_of_pos h1 (Int.mul_pos (by omega) (pw_pos n))
/-- a is a Big, its digits lie in the cell behind it -/
def bgO (a : Nat) : Prop := rz_isC a 0 = true ∧ rz_R a 0 = a + 1 ∧ rz_isK (a + 1) 1 = true ∧ rz_len (a + 1) = 40
def bg (m : rz_M) (a : Nat) : Prop := (0 ≤ m a 1 ∧ m a 1 ≤ 40) ∧ digs (m (a + 1)) (m a 1) ∧ (m a 1 = 0 ∧ m a 2 = 0 ∨ m a 1 ≠ 0 ∧ m (a + 1) (m a 1 - 1) ≠ 0 ∧ (m a 2 = 1 ∨ m a 2 = -1))
def bv (m : rz_M) (a : Nat) : Int := m a 2 * mag (m (a + 1)) (m a 1).toNat
/-- only the Big a is written -/
def bgw (a : Nat) (m m' : rz_M) : Prop := ∀ i : Nat, i ≠ a → i ≠ a + 1 → m' i = m i
theorem bg_pos {m : rz_M} {a : Nat} (h : bg m a) (h0 : m a 1 ≠ 0) : 0 < mag (m (a + 1)) (m a 1).toNat := by
  obtain ⟨⟨h1, h2⟩, h3, h4⟩ := h
  rcases h4 with h4 | ⟨_, h5, _⟩
  · exact absurd h4.1 h0
  · obtain ⟨n, hn⟩ : ∃ n : Nat, m a 1 = (n + 1 : Nat) := ⟨(m a 1).toNat - 1, by omega⟩
    rw [hn] at h3 h5 ⊢
    exact mag_top h3 (by rw [show ((n + 1 : Nat) : Int) - 1 = n from by omega] at h5; exact h5)
theorem l_endWith {a : Nat} (hO : bgO a) {sg : Int} {K : Int → rz_M → Prop} : ∀ (n : Nat) (m : rz_M), n ≤ 40 → m a 1 = n → digs (m (a + 1)) n → (sg = 1 ∨ sg = -1 ∨ mag (m (a + 1)) n = 0) →
    (∀ m', bgw a m m' → m' (a + 1) = m (a + 1) → bg m' a → bv m' a = sg * mag (m (a + 1)) n → K 0 m') → rz_E y_Big_endWith 37 [rR a, rX 0, rX 0, rX 0, rI sg] [] m K
  | 0, m, hn, hs, hd, hg, h => by
    obtain ⟨o1, o2, o3, o4⟩ := hO
    refine T_Big_endWith_37 _ _ _ _ ⟨o1, bt (by omega) ⟨o1, bf (by omega) ⟨o1, ?_⟩⟩⟩
    have e1 : rz_up m a 2 0 a 1 = 0 := by rw [up_nj (by decide)]; omega
    refine h _ (fun i h1 h2 => up_ne h1) (up_ne (by omega)) ⟨⟨by omega, by omega⟩, fun j x y => absurd y (by omega), Or.inl ⟨e1, up_eq⟩⟩ ?_
    unfold bv
    rw [e1, up_eq, Int.zero_mul]
    show 0 = sg * 0
    omega
  | n + 1, m, hn, hs, hd, hg, h => by
    have hO' := hO
    obtain ⟨o1, o2, o3, o4⟩ := hO
    refine T_Big_endWith_37 _ _ _ _ ⟨o1, bf (by omega) ⟨o1, o1, ?_⟩⟩
    rw [o2, hs, w32_id (z := ((n + 1 : Nat) : Int) - 1) (by omega) (by omega), show ((n + 1 : Nat) : Int) - 1 = n from by omega]
    refine ⟨o3, ⟨by omega, by omega⟩, bb (fun q => ⟨o1, bt (by omega) ⟨o1, ?_⟩⟩) (fun q => ⟨o1, o1, ?_⟩)⟩
    · have hp := mag_top hd q
      have e1 : rz_up m a 2 sg a 1 = (n + 1 : Nat) := by rw [up_nj (by decide)]; exact hs
      have e2 : rz_up m a 2 sg (a + 1) = m (a + 1) := up_ne (by omega)
      refine h _ (fun i h1 h2 => up_ne h1) e2 ⟨⟨by omega, by omega⟩, by rw [e1, e2]; exact hd, Or.inr ⟨by omega, ?_, ?_⟩⟩ ?_
      · rw [e1, e2, show ((n + 1 : Nat) : Int) - 1 = n from by omega]
        exact q
      · rw [up_eq]
        omega
      · unfold bv
        rw [e1, e2, up_eq, Int.toNat_natCast]
    · have q' : m (a + 1) n = 0 := Decidable.of_not_not q
      have em : mag (m (a + 1)) (n + 1) = mag (m (a + 1)) n := by
        show mag (m (a + 1)) n + m (a + 1) n * pw n = _
        rw [q', Int.zero_mul, Int.add_zero]
      have e2 : rz_up m a 1 n (a + 1) = m (a + 1) := up_ne (by omega)
      refine l_endWith hO' n _ (by omega) up_eq (by rw [e2]; exact fun j x y => hd j x (by omega)) (by rw [e2]; omega) (fun m' w d b v => h m' (fun i h1 h2 => (w i h1 h2).trans (up_ne h1)) (d.trans e2) b ?_)
      rw [v, e2, em]
/-- the end of each operation: length n of digits, and a carry -/
theorem c_Big_endWith {a : Nat} (hO : bgO a) {n : Nat} {c sg : Int} {m : rz_M} {K : Int → rz_M → Prop} (hn : n ≤ 40) (hd : digs (m (a + 1)) n) (hc : 0 ≤ c ∧ c < 2147483648) (hc2 : c = 0 ∨ n < 40)
    (hg : sg = 1 ∨ sg = -1 ∨ mag (m (a + 1)) n + c * pw n = 0) (h : ∀ m', bgw a m m' → bg m' a → bv m' a = sg * (mag (m (a + 1)) n + c * pw n) → K 0 m') : rz_C y_Big_endWith [rR a, rI n, rL c, rI sg] m K := by
  have hO' := hO
  obtain ⟨o1, o2, o3, o4⟩ := hO
  have e1 : rz_up m a 1 n (a + 1) = m (a + 1) := up_ne (by omega)
  refine T_Big_endWith_0 _ _ _ _ _ _ ⟨o1, bb (fun q => ?_) (fun q => ⟨o1, bf (by rw [up_eq]; omega) ⟨o1, o1, o1, ?_⟩⟩)⟩
  · rw [q, Int.zero_mul, Int.add_zero] at hg h
    refine l_endWith hO' n _ hn up_eq (by rw [e1]; exact hd) (by rw [e1]; exact hg) (fun m' w d b v => h m' (fun i h1 h2 => (w i h1 h2).trans (up_ne h1)) b ?_)
    rw [v, e1]
  · rw [o2, up_eq, w32_id (by omega) (by omega)]
    refine ⟨o3, ⟨by omega, by omega⟩, ?_⟩
    have e2 : ∀ j : Int, 0 ≤ j → j < n → rz_up (rz_up (rz_up m a 1 n) a 1 (n + 1)) (a + 1) n c (a + 1) j = m (a + 1) j := fun j x y => by
      rw [up_nj (by omega), up_ne (by omega), e1]
    have e3 : rz_up (rz_up (rz_up m a 1 n) a 1 (n + 1)) (a + 1) n c (a + 1) n = c := up_eq
    have em : mag (rz_up (rz_up (rz_up m a 1 n) a 1 (n + 1)) (a + 1) n c (a + 1)) (n + 1) = mag (m (a + 1)) n + c * pw n := by
      show mag _ n + _ * pw n = _
      rw [e3, mag_congr n e2]
    refine l_endWith hO' (n + 1) _ (by omega) (by rw [up_ne (by omega), up_eq]; omega) ?_ (by rw [em]; exact hg) (fun m' w d b v => h m' (fun i h1 h2 => ((w i h1 h2).trans (up_ne h2)).trans ((up_ne h1).trans (up_ne h1))) b ?_)
    · intro j x y
      by_cases e : j = n
      · subst e
        rw [e3]
        exact hc
      · rw [e2 j x (by omega)]
        exact hd j x (by omega)
    · rw [v, em]
