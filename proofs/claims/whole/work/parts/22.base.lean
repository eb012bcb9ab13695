/-! contracts: the small methods of both classes -/
theorem b1t {A B : Prop} (h : B) : ((1 : Int) = 0 → A) ∧ (¬ (1 : Int) = 0 → B) := ⟨fun e => absurd e (by decide), fun _ => h⟩
theorem b0t {A B : Prop} (h : A) : ((0 : Int) = 0 → A) ∧ (¬ (0 : Int) = 0 → B) := ⟨fun _ => h, fun e => absurd rfl e⟩
theorem b1n {A B : Prop} (h : A) : ((1 : Int) ≠ 0 → A) ∧ (¬ (1 : Int) ≠ 0 → B) := ⟨fun _ => h, fun e => absurd (by decide) e⟩
theorem b0n {A B : Prop} (h : B) : ((0 : Int) ≠ 0 → A) ∧ (¬ (0 : Int) ≠ 0 → B) := ⟨fun e => absurd rfl e, fun _ => h⟩
theorem bt {c A B : Prop} (hc : c) (h : A) : (c → A) ∧ (¬ c → B) := ⟨fun _ => h, fun e => absurd hc e⟩
theorem bf {c A B : Prop} (hc : ¬ c) (h : B) : (c → A) ∧ (¬ c → B) := ⟨fun e => absurd e hc, fun _ => h⟩
theorem bb {c A B : Prop} (h1 : c → A) (h2 : ¬ c → B) : (c → A) ∧ (¬ c → B) := ⟨h1, h2⟩
/-- n places of cell a become g -/
def wr (m : rz_M) (a : Nat) (n : Int) (g : Int → Int) : rz_M := fun x y => if x = a ∧ 0 ≤ y ∧ y < n then g y else m x y
theorem wr_in {m : rz_M} {a : Nat} {n y : Int} {g : Int → Int} (h0 : 0 ≤ y) (h : y < n) : wr m a n g a y = g y := if_pos ⟨rfl, h0, h⟩
theorem wr_ne {m : rz_M} {a x : Nat} {n : Int} {g : Int → Int} (h : x ≠ a) : wr m a n g x = m x := funext fun y => if_neg fun q => h q.1
theorem wr_out {m : rz_M} {a : Nat} {n y : Int} {g : Int → Int} (h : ¬ (0 ≤ y ∧ y < n)) : wr m a n g a y = m a y := if_neg fun q => h q.2
theorem wr_0 (m : rz_M) (a : Nat) (g : Int → Int) : wr m a 0 g = m := funext fun x => funext fun y => if_neg fun q => by omega
theorem wr_succ {m : rz_M} {a : Nat} {k v : Int} {g : Int → Int} (h : 0 ≤ k) (hv : v = g k) : rz_up (wr m a k g) a k v = wr m a (k + 1) g := by
  funext x y
  unfold rz_up wr
  by_cases e : x = a ∧ y = k
  · obtain ⟨rfl, rfl⟩ := e
    rw [if_pos ⟨rfl, rfl⟩, if_pos ⟨rfl, h, by omega⟩, hv]
  · rw [if_neg e]
    by_cases e2 : x = a ∧ 0 ≤ y ∧ y < k
    · rw [if_pos e2, if_pos ⟨e2.1, e2.2.1, by omega⟩]
    · rw [if_neg e2, if_neg (fun q => e2 ⟨q.1, q.2.1, by
        have : y ≠ k := fun z => e ⟨q.1, z⟩
        omega⟩)]
theorem wr_congr {m : rz_M} {a : Nat} {n : Int} {g g' : Int → Int} (h : ∀ y, 0 ≤ y → y < n → g y = g' y) : wr m a n g = wr m a n g' := by
  funext x y
  unfold wr
  by_cases e : x = a ∧ 0 ≤ y ∧ y < n
  · rw [if_pos e, if_pos e, h y e.2.1 e.2.2]
  · rw [if_neg e, if_neg e]
theorem up_ne {m : rz_M} {a x : Nat} {i v : Int} (h : x ≠ a) : rz_up m a i v x = m x := funext fun y => if_neg fun q => h q.1
theorem up_eq {m : rz_M} {a : Nat} {i v : Int} : rz_up m a i v a i = v := if_pos ⟨rfl, rfl⟩
theorem up_nj {m : rz_M} {a : Nat} {i v y : Int} (h : y ≠ i) : rz_up m a i v a y = m a y := if_neg fun q => h q.2
/-- the degree, looked for from n places downwards -/
def dgk (f : Int → Int) : Nat → Int
  | 0 => -1
  | n + 1 => if f n = 0 then dgk f n else n
def dg (f : Int → Int) : Int := dgk f 7
theorem dgk_congr {f g : Int → Int} : ∀ {n : Nat}, (∀ k : Int, 0 ≤ k → k < n → f k = g k) → dgk f n = dgk g n
  | 0, _ => rfl
  | n + 1, h => by
    unfold dgk
    rw [h n (by omega) (by omega), dgk_congr (fun k h1 h2 => h k h1 (by omega))]
theorem dgk_lt (f : Int → Int) : ∀ n : Nat, -1 ≤ dgk f n ∧ dgk f n < n
  | 0 => ⟨Int.le_refl _, by show (-1 : Int) < 0; decide⟩
  | n + 1 => by
    have := dgk_lt f n
    unfold dgk
    split <;> omega
theorem dg_rng (f : Int → Int) : -1 ≤ dg f ∧ dg f ≤ 6 := by
  have := dgk_lt f 7
  unfold dg
  omega
theorem dgk_nz (f : Int → Int) : ∀ n : Nat, 0 ≤ dgk f n → f (dgk f n) ≠ 0
  | 0, h => absurd (show (0 : Int) ≤ -1 from h) (by decide)
  | n + 1, h => by
    unfold dgk at h ⊢
    split
    · next e => rw [if_pos e] at h; exact dgk_nz f n h
    · next e => exact e
theorem dgk_top (f : Int → Int) : ∀ n : Nat, ∀ k : Int, dgk f n < k → k < n → f k = 0
  | 0, k, h1, h2 => by unfold dgk at h1; omega
  | n + 1, k, h1, h2 => by
    unfold dgk at h1
    split at h1
    · next e =>
      by_cases q : k = n
      · subst q; exact e
      · exact dgk_top f n k h1 (by omega)
    · omega
theorem c_RC_isRow {r : Int} {m : rz_M} {K : Int → rz_M → Prop} (h1 : 0 ≤ r → r < 10 → K 1 m) (h0 : ¬ (0 ≤ r ∧ r < 10) → K 0 m) : rz_C y_RC_isRow [rI r] m K :=
  T_RC_isRow_0 _ _ _ ⟨fun h => h0 (by omega), fun h => ⟨fun h2 => h0 (by omega), fun h2 => h1 (by omega) (by omega)⟩⟩
theorem c_RC_isWithin {z L : Int} {m : rz_M} {K : Int → rz_M → Prop} (hL : 0 ≤ L ∧ L < 2147483648) (h1 : -L ≤ z → z ≤ L → K 1 m) (h0 : ¬ (-L ≤ z ∧ z ≤ L) → K 0 m) : rz_C y_RC_isWithin [rI z, rI L] m K := by
  refine T_RC_isWithin_0 _ _ _ _ ?_
  rw [w32_id (by omega) (by omega)]
  exact ⟨fun h => h0 (by omega), fun h => ⟨fun h2 => h0 (by omega), fun h2 => h1 (by omega) (by omega)⟩⟩
theorem c_RC_isSmallNumber {z : Int} {m : rz_M} {K : Int → rz_M → Prop} (h1 : -100 ≤ z → z ≤ 100 → K 1 m) (h0 : ¬ (-100 ≤ z ∧ z ≤ 100) → K 0 m) : rz_C y_RC_isSmallNumber [rL z] m K :=
  T_RC_isSmallNumber_0 _ _ _ ⟨fun h => h0 (by omega), fun h => ⟨fun h2 => h0 (by omega), fun h2 => h1 (by omega) (by omega)⟩⟩
/-- a is a row of longs, of n places or more -/
def isL (a : Nat) (n : Int) : Prop := rz_isK a 1 = true ∧ n ≤ rz_len a
theorem l_RC_degreeOf {a : Nat} (ha : isL a 7) {m : rz_M} {K : Int → rz_M → Prop} : ∀ n : Nat, n ≤ 7 → K (dgk (m a) n) m → rz_E y_RC_degreeOf 3 [rR a, rI ((n : Int) - 1)] [] m K
  | 0, _, h => T_RC_degreeOf_3 _ _ _ _ (bt (by decide) h)
  | n + 1, hn, h => by
    have e : ((n + 1 : Nat) : Int) - 1 = n := by omega
    rw [e]
    refine T_RC_degreeOf_3 _ _ _ _ (bf (by omega) ⟨ha.1, ⟨by omega, by have := ha.2; omega⟩, ?_, ?_⟩)
    · intro hz
      rw [w32_id (by omega) (by omega), show (n : Int) + -1 = (n : Int) - 1 from by omega]
      unfold dgk at h
      rw [if_pos hz] at h
      exact l_RC_degreeOf ha n (by omega) h
    · intro hz
      unfold dgk at h
      rw [if_neg hz] at h
      exact h
theorem c_RC_degreeOf {a : Nat} (ha : isL a 7) {m : rz_M} {K : Int → rz_M → Prop} (h : K (dg (m a)) m) : rz_C y_RC_degreeOf [rR a] m K :=
  T_RC_degreeOf_0 _ _ _ (l_RC_degreeOf ha 7 (Nat.le_refl _) h)
/-- all seven numbers are small -/
def sm (f : Int → Int) : Prop := ∀ j : Int, 0 ≤ j → j < 7 → -100 ≤ f j ∧ f j ≤ 100
theorem l_RC_hasSmall {a : Nat} (ha : isL a 7) {m : rz_M} {K : Int → rz_M → Prop} (h1 : sm (m a) → K 1 m) (h0 : ¬ sm (m a) → K 0 m) : ∀ (d : Nat) (k : Int), 7 - k = d → 0 ≤ k → (∀ j : Int, 0 ≤ j → j < k → -100 ≤ m a j ∧ m a j ≤ 100) → rz_E y_RC_hasSmallNumbers 2 [rR a, rI k] [] m K
  | 0, k, hd, hk, hs => T_RC_hasSmallNumbers_2 _ _ _ _ (bt (by omega) (h1 (fun j a b => hs j a (by omega))))
  | d + 1, k, hd, hk, hs => by
    refine T_RC_hasSmallNumbers_2 _ _ _ _ (bf (by omega) ⟨ha.1, ⟨by omega, by have := ha.2; omega⟩, c_RC_isSmallNumber (fun q1 q2 => b1n ?_) (fun q => b0n (h0 (fun z => q (z k hk (by omega)))))⟩)
    rw [w32_id (by omega) (by omega)]
    exact l_RC_hasSmall ha h1 h0 d (k + 1) (by omega) (by omega) (fun j a b => by
      by_cases e : j = k
      · subst e; exact ⟨q1, q2⟩
      · exact hs j a (by omega))
theorem c_RC_hasSmallNumbers {a : Nat} (ha : isL a 7) {m : rz_M} {K : Int → rz_M → Prop} (h1 : sm (m a) → K 1 m) (h0 : ¬ sm (m a) → K 0 m) : rz_C y_RC_hasSmallNumbers [rR a] m K :=
  T_RC_hasSmallNumbers_0 _ _ _ (l_RC_hasSmall ha h1 h0 7 0 (by omega) (by omega) (fun j a b => by omega))
theorem c_RC_isSmall {a : Nat} (ha : isL a 7) {m : rz_M} {K : Int → rz_M → Prop} (h1 : 1 ≤ dg (m a) → sm (m a) → K 1 m) (h0 : ¬ (1 ≤ dg (m a) ∧ sm (m a)) → K 0 m) : rz_C y_RC_isSmall [rR a] m K := by
  refine T_RC_isSmall_0 _ _ _ (c_RC_degreeOf ha (bb (fun q => h0 (by omega)) (fun q => c_RC_hasSmallNumbers ha (fun s => b1t (h1 (by omega) s)) (fun s => b0t (h0 (fun z => s z.2))))))
theorem c_RC_isPlain {a : Nat} (ha : isL a 7) {m : rz_M} {K : Int → rz_M → Prop} (h1 : 1 ≤ dg (m a) → sm (m a) → m a (dg (m a)) = 1 → K 1 m) (h0 : ¬ (1 ≤ dg (m a) ∧ sm (m a) ∧ m a (dg (m a)) = 1) → K 0 m) : rz_C y_RC_isPlain [rR a] m K := by
  have hr := dg_rng (m a)
  refine T_RC_isPlain_0 _ _ _ (c_RC_degreeOf ha (c_RC_isSmall ha (fun d s => b1t (bf (by omega) ⟨ha.1, ⟨by omega, by have := ha.2; omega⟩, bb (fun q => h0 (fun z => q z.2.2)) (fun q => h1 d s (Decidable.of_not_not q))⟩)) (fun q => b0t (h0 (fun z => q ⟨z.1, z.2.1⟩)))))
theorem c_RC_hasGroup {a : Nat} (ha : isL a 7) {m : rz_M} {K : Int → rz_M → Prop} (h1 : 1 ≤ dg (m a) → dg (m a) ≤ 4 → sm (m a) → m a (dg (m a)) = 1 → K 1 m) (h0 : ¬ (1 ≤ dg (m a) ∧ dg (m a) ≤ 4 ∧ sm (m a) ∧ m a (dg (m a)) = 1) → K 0 m) : rz_C y_RC_hasGroup [rR a] m K :=
  T_RC_hasGroup_0 _ _ _ (c_RC_isPlain ha (fun d s l => b1t (c_RC_degreeOf ha (bb (fun q => h0 (by omega)) (fun q => h1 d (by omega) s l)))) (fun q => b0t (h0 (fun z => q ⟨z.1, z.2.2.1, z.2.2.2⟩))))
theorem l_RC_clear {a : Nat} {n : Int} (ha : rz_isK a 1 = true) (hl : rz_len a = n) (hn : n < 2147483647) {K : Int → rz_M → Prop} {m : rz_M} (h : K 0 (wr m a n (fun _ => 0))) : ∀ (d : Nat) (k : Int), n - k = d → 0 ≤ k → rz_E y_RC_clear 2 [rR a, rI k] [] (wr m a k (fun _ => 0)) K
  | 0, k, hd, hk => by
    have e : k = n := by omega
    subst e
    refine T_RC_clear_2 _ _ _ _ ⟨by simp [ha], bt (by omega) h⟩
  | d + 1, k, hd, hk => by
    refine T_RC_clear_2 _ _ _ _ ⟨by simp [ha], bf (by omega) ⟨ha, ⟨hk, by omega⟩, ?_⟩⟩
    rw [wr_succ hk rfl, w32_id (by omega) (by omega)]
    exact l_RC_clear ha hl hn h d (k + 1) (by omega) (by omega)
theorem c_RC_clear {a : Nat} {n : Int} (ha : rz_isK a 1 = true) (hl : rz_len a = n) (hn : 0 ≤ n ∧ n < 2147483647) {K : Int → rz_M → Prop} {m : rz_M} (h : K 0 (wr m a n (fun _ => 0))) : rz_C y_RC_clear [rR a] m K := by
  refine T_RC_clear_0 _ _ _ ?_
  have := l_RC_clear ha hl hn.2 h n.toNat 0 (by omega) (by omega)
  rw [wr_0] at this
  exact this
theorem c_RC_copy {a b : Nat} (ha : isL a 7) (hb : isL b 7) {m : rz_M} {K : Int → rz_M → Prop} (h : K 0 (wr m b 7 (m a))) : rz_C y_RC_copy [rR a, rR b] m K := by
  refine T_RC_copy_0 _ _ _ _ ⟨⟨ha.1, hb.1⟩, ⟨by decide, by decide, by decide, by have := ha.2; omega, by have := hb.2; omega⟩, ?_⟩
  have e : rz_cp m a 0 b 0 7 = wr m b 7 (m a) := by
    funext x y
    unfold rz_cp wr
    by_cases e : x = b ∧ 0 ≤ y ∧ y < 7
    · rw [if_pos ⟨e.1, e.2.1, by omega⟩, if_pos e, show (0 : Int) + (y - 0) = y from by omega]
    · rw [if_neg (fun q => e ⟨q.1, q.2.1, by omega⟩), if_neg e]
  rw [e]
  exact h
/-- Horner, with the machine's wrap -/
def hrn (f : Int → Int) (x : Int) : Nat → Int → Int
  | 0, v => v
  | n + 1, v => hrn f x n (w64 (w64 (v * x) + f n))
theorem l_RC_valueAt {a : Nat} (ha : isL a 7) {m : rz_M} {x : Int} {K : Int → rz_M → Prop} : ∀ (n : Nat) (v : Int), n ≤ 7 → K (hrn (m a) x n v) m → rz_E y_RC_valueAt 6 [rR a, rL x, rX 1, rL v, rX 1, rI ((n : Int) - 1)] [] m K
  | 0, v, _, h => T_RC_valueAt_6 _ _ _ _ _ _ (bt (by decide) h)
  | n + 1, v, hn, h => by
    rw [show ((n + 1 : Nat) : Int) - 1 = n from by omega]
    refine T_RC_valueAt_6 _ _ _ _ _ _ (bf (by omega) ⟨ha.1, ⟨by omega, by have := ha.2; omega⟩, ?_⟩)
    rw [w32_id (by omega) (by omega), show (n : Int) + -1 = (n : Int) - 1 from by omega]
    exact l_RC_valueAt ha n _ (by omega) h
theorem c_RC_valueAt {a : Nat} (ha : isL a 7) {m : rz_M} {x : Int} {K : Int → rz_M → Prop} (h : K (hrn (m a) x 7 0) m) : rz_C y_RC_valueAt [rR a, rL x] m K :=
  T_RC_valueAt_0 _ _ _ _ (l_RC_valueAt ha 7 0 (Nat.le_refl _) h)
theorem c_RC_refuse {z : Int} {m : rz_M} {K : Int → rz_M → Prop} (h : K z (rz_up m 0 10 z)) : rz_C y_RC_refuse [rR 0, rI z] m K := T_RC_refuse_0 _ _ _ h
theorem c_M_in {z lo hi : Int} {m : rz_M} {K : Int → rz_M → Prop} (h1 : lo ≤ z → z ≤ hi → K 1 m) (h0 : ¬ (lo ≤ z ∧ z ≤ hi) → K 0 m) : rz_C y_M_in [rL z, rL lo, rL hi] m K :=
  T_M_in_0 _ _ _ _ _ ⟨fun h => h0 (by omega), fun h => ⟨fun h2 => h0 (by omega), fun h2 => h1 (by omega) (by omega)⟩⟩
theorem c_M_isRow {r : Int} {m : rz_M} {K : Int → rz_M → Prop} (h1 : 0 ≤ r → r < 10 → K 1 m) (h0 : ¬ (0 ≤ r ∧ r < 10) → K 0 m) : rz_C y_M_isRow [rI r] m K :=
  T_M_isRow_0 _ _ _ (c_M_in (fun a b => ⟨Or.inr rfl, h1 a (by omega)⟩) (fun q => ⟨Or.inl rfl, h0 (by omega)⟩))
theorem c_M_said {z : Int} {m : rz_M} {K : Int → rz_M → Prop} (h : K z (rz_up m 221 1 (if z < 0 then z else 0))) : rz_C y_M_said [rR 221, rI z] m K := by
  refine T_M_said_0 _ _ _ (bb (fun q => ?_) (fun q => ?_))
  · rwa [if_neg (by omega)] at h
  · rwa [if_pos (by omega)] at h
/-- row r of the reference -/
def rwM (m : rz_M) (r : Int) : Int → Int := fun j => m 222 (7 * r + j)
theorem l_M_degreeOf {r : Int} (hr : 0 ≤ r ∧ r < 10) {m : rz_M} {K : Int → rz_M → Prop} : ∀ n : Nat, n ≤ 7 → K (dgk (rwM m r) n) m → rz_E y_M_degreeOf 3 [rR 221, rI r, rI ((n : Int) - 1)] [] m K
  | 0, _, h => T_M_degreeOf_3 _ _ _ _ (bt (by decide) h)
  | n + 1, hn, h => by
    have e : ((n + 1 : Nat) : Int) - 1 = n := by omega
    rw [e]
    refine T_M_degreeOf_3 _ _ _ _ ?_
    rw [w32_id (z := 7 * r) (by omega) (by omega), w32_id (z := 7 * r + n) (by omega) (by omega)]
    unfold dgk at h
    refine bf (by omega) ⟨⟨by omega, by omega⟩, bb (fun hz => ?_) (fun hz => ?_)⟩
    · rw [if_neg (show ¬ rwM m r n = 0 from hz)] at h
      exact h
    · rw [if_pos (show rwM m r n = 0 from Decidable.of_not_not hz)] at h
      rw [w32_id (by omega) (by omega), show (n : Int) + -1 = (n : Int) - 1 from by omega]
      exact l_M_degreeOf hr n (by omega) h
theorem c_M_degreeOf {r : Int} (hr : 0 ≤ r ∧ r < 10) {m : rz_M} {K : Int → rz_M → Prop} (h : K (dg (rwM m r)) m) : rz_C y_M_degreeOf [rR 221, rI r] m K :=
  T_M_degreeOf_0 _ _ _ (l_M_degreeOf hr 7 (Nat.le_refl _) h)
theorem l_M_clear {K : Int → rz_M → Prop} {m : rz_M} (h : K 0 (wr m 223 13 (fun _ => 0))) : ∀ (d : Nat) (k : Int), 13 - k = d → 0 ≤ k → rz_E y_M_clear 2 [rR 221, rI k] [] (wr m 223 k (fun _ => 0)) K
  | 0, k, hd, hk => by
    have e : k = 13 := by omega
    subst e
    exact T_M_clear_2 _ _ _ (bt (by omega) h)
  | d + 1, k, hd, hk => by
    refine T_M_clear_2 _ _ _ (bf (by omega) ⟨⟨hk, by omega⟩, ?_⟩)
    rw [wr_succ hk rfl, w32_id (by omega) (by omega)]
    exact l_M_clear h d (k + 1) (by omega) (by omega)
theorem c_M_clear {K : Int → rz_M → Prop} {m : rz_M} (h : K 0 (wr m 223 13 (fun _ => 0))) : rz_C y_M_clear [rR 221] m K := by
  refine T_M_clear_0 _ _ ?_
  have := l_M_clear h 13 0 (by omega) (by omega)
  rw [wr_0] at this
  exact this
