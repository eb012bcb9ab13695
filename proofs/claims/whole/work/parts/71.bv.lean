/-! Bigs by their values; bounds; exact power sums -/
def BV (m : rz_M) (a : Nat) (v : Int) : Prop := bg m a ∧ bv m a = v
theorem BV_kp {m m' : rz_M} {a c : Nat} {v : Int} (h : BV m a v) (w : bgw c m m') (h1 : a ≠ c) (h2 : a ≠ c + 1) (h3 : a + 1 ≠ c) : BV m' a v := by
  have e1 := w a h1 h2
  have e2 := w (a + 1) h3 (by omega)
  obtain ⟨g, e⟩ := h
  refine ⟨?_, ?_⟩
  · unfold bg; rw [e1, e2]; exact g
  · unfold bv; rw [e1, e2]; exact e
theorem BV_bm {m : rz_M} {a : Nat} {v : Int} (h : BV m a v) : bm m a = (v.natAbs : Int) := by
  obtain ⟨g, e⟩ := h
  have nn : 0 ≤ bm m a := mag_nn _ (by
    have := g.1
    rw [Int.toNat_of_nonneg this.1]
    exact g.2.1)
  have e' : m a 2 * bm m a = v := e
  rcases bg_sg g with q | q | q
  · have := bm_0 g q
    rw [q, Int.zero_mul] at e'
    omega
  · rw [q, Int.one_mul] at e'
    omega
  · rw [q] at e'
    omega
theorem pw40_big : (10 : Int) ^ 300 < pw 40 := by decide +kernel
theorem b_put {c : Nat} (hc : bgO c) {m : rz_M} {x : Int} (hx : -9223372036854775808 < x ∧ x < 9223372036854775808) {K : Int → rz_M → Prop} (h : ∀ m', bgw c m m' → BV m' c x → K 0 m') : rz_C y_Big_put [rR c, rL x] m K :=
  c_Big_put hc hx (fun m' w g e => h m' w ⟨g, e⟩)
theorem b_take {a c : Nat} (ha : bgO a) (hc : bgO c) (hne : a ≠ c) {m : rz_M} {v : Int} (g : BV m a v) {K : Int → rz_M → Prop} (h : ∀ m', bgw c m m' → BV m' c v → K 0 m') : rz_C y_Big_take [rR c, rR a] m K :=
  c_Big_take ha hc hne g.1 (fun m' w b e => h m' w ⟨b, e.trans g.2⟩)
theorem b_scale {a c : Nat} (ha : bgO a) (hc : bgO c) {m : rz_M} {v : Int} (g : BV m a v) {x : Int} (hx : -2147483648 < x ∧ x < 2147483648) {K : Int → rz_M → Prop} (hs : (v.natAbs : Int) * (x.natAbs : Int) < pw 40) (h : ∀ m', bgw c m m' → BV m' c (v * x) → K 0 m') : rz_C y_Big_scale [rR c, rR a, rL x] m K :=
  c_Big_scale ha hc g.1 hx (by rw [BV_bm g]; exact hs) (fun m' w b e => h m' w ⟨b, by rw [e, g.2]⟩)
theorem b_add {a b c : Nat} (ha : bgO a) (hb : bgO b) (hc : bgO c) {m : rz_M} {u v : Int} (ga : BV m a u) (gb : BV m b v) {sd : Int} (hsd : sd = 1 ∨ sd = -1) {K : Int → rz_M → Prop} (hs : (u.natAbs : Int) + (v.natAbs : Int) < pw 40) (h : ∀ m', bgw c m m' → BV m' c (u + sd * v) → K 0 m') : rz_C y_Big_add [rR c, rR a, rR b, rI sd] m K :=
  c_Big_add ha hb hc ga.1 gb.1 hsd (by rw [BV_bm ga, BV_bm gb]; exact hs) (fun m' w g e => h m' w ⟨g, by rw [e, ga.2, gb.2]⟩)
theorem b_mul {a b c : Nat} (ha : bgO a) (hb : bgO b) (hc : bgO c) (nac : a ≠ c) (nbc : b ≠ c) {m : rz_M} {u v : Int} (ga : BV m a u) (gb : BV m b v) {K : Int → rz_M → Prop} (hs : (u.natAbs : Int) * (v.natAbs : Int) < pw 40) (h : ∀ m', bgw c m m' → BV m' c (u * v) → K 0 m') : rz_C y_Big_multiply [rR c, rR a, rR b] m K :=
  c_Big_multiply ha hb hc nac nbc ga.1 gb.1 (by rw [BV_bm ga, BV_bm gb]; exact hs) (fun m' w g e => h m' w ⟨g, by rw [e, ga.2, gb.2]⟩)
theorem bd_abs {x A : Int} (h : bd x A) : (x.natAbs : Int) ≤ A := by
  unfold bd at h
  omega
theorem bd_mul {x y A B : Int} (h1 : bd x A) (h2 : bd y B) : bd (x * y) (A * B) := by
  unfold bd at h1 h2 ⊢
  have p1 : 0 ≤ (A - x) * (B + y) := Int.mul_nonneg (by omega) (by omega)
  have p2 : 0 ≤ (A + x) * (B - y) := Int.mul_nonneg (by omega) (by omega)
  have p3 : 0 ≤ (A - x) * (B - y) := Int.mul_nonneg (by omega) (by omega)
  have p4 : 0 ≤ (A + x) * (B + y) := Int.mul_nonneg (by omega) (by omega)
  have e1 : (A - x) * (B + y) + (A + x) * (B - y) = 2 * (A * B) - 2 * (x * y) := by grind
  have e2 : (A - x) * (B - y) + (A + x) * (B + y) = 2 * (A * B) + 2 * (x * y) := by grind
  omega
theorem bd_add {x y A B : Int} (h1 : bd x A) (h2 : bd y B) : bd (x + y) (A + B) := by
  unfold bd at h1 h2 ⊢
  omega
theorem bd_neg {x A : Int} (h : bd x A) : bd (-x) A := by
  unfold bd at h ⊢
  omega
theorem bd_le {x A B : Int} (h : bd x A) (hl : A ≤ B) : bd x B := by
  unfold bd at h ⊢
  omega
theorem bd_nn {x A : Int} (h : bd x A) : 0 ≤ A := by
  unfold bd at h
  omega
theorem bd_tdiv {x A k : Int} (h : bd x A) (hk : 1 ≤ k) : bd (Int.tdiv x k) A := by
  have e := Int.mul_tdiv_add_tmod x k
  have hA := bd_nn h
  unfold bd at h ⊢
  rcases Int.lt_or_le x 0 with q | q
  · have : Int.tdiv x k = -(Int.tdiv (-x) k) := by rw [Int.neg_tdiv, Int.neg_neg]
    rw [this]
    have n1 : 0 ≤ Int.tdiv (-x) k := Int.tdiv_nonneg (by omega) (by omega)
    have n2 : Int.tdiv (-x) k ≤ -x := by
      rw [Int.tdiv_eq_ediv_of_nonneg (by omega)]
      exact Int.ediv_le_self _ (by omega)
    omega
  · have n1 : 0 ≤ Int.tdiv x k := Int.tdiv_nonneg q (by omega)
    have n2 : Int.tdiv x k ≤ x := by
      rw [Int.tdiv_eq_ediv_of_nonneg q]
      exact Int.ediv_le_self _ q
    omega
/-- exact power sums of one that ends with 1 -/
def sgx (f : Int → Int) (n : Int) (g : Int → Int) (k : Int) : Nat → Int
  | 0 => 0
  | i + 1 => if (i : Int) + 1 ≤ n then sgx f n g k i + f (n - ((i : Int) + 1)) * g (k - ((i : Int) + 1)) else sgx f n g k i
def psx (f : Int → Int) (n : Int) (g : Int → Int) (k : Nat) : Int := -(sgx f n g k (k - 1) + if (k : Int) ≤ n then (k : Int) * f (n - k) else 0)
def pbd (k : Nat) : Int := 101 ^ k - 1
def sbd (k : Nat) : Nat → Int
  | 0 => 0
  | i + 1 => sbd k i + 100 * pbd (k - (i + 1))
theorem pbd_nn (k : Nat) : 0 ≤ pbd k := by
  unfold pbd
  have : (0 : Int) < 101 ^ k := Int.pow_pos (by decide)
  omega
theorem sgx_bd {f : Int → Int} {n : Int} {g : Int → Int} {k : Nat} (hf : ∀ j : Int, 0 ≤ j → j ≤ n → bd (f j) 100) (hg : ∀ j : Nat, 1 ≤ j → j < k → bd (g j) (pbd j)) : ∀ i : Nat, i ≤ k - 1 → bd (sgx f n g k i) (sbd k i)
  | 0, _ => ⟨Int.le_refl _, Int.le_refl _⟩
  | i + 1, hi => by
    have ih := sgx_bd hf hg i (by omega)
    have pn := pbd_nn (k - (i + 1))
    unfold sgx sbd
    split
    · have e : (k : Int) - ((i : Int) + 1) = ((k - (i + 1) : Nat) : Int) := by omega
      rw [e]
      exact bd_add ih (bd_mul (hf _ (by omega) (by omega)) (hg _ (by omega) (by omega)))
    · exact bd_le ih (by omega)
theorem sbd_b : ∀ k : Nat, k ≤ 7 → ∀ i : Nat, i ≤ k - 1 → sbd k i + 100 * (k : Int) + 100 * pbd 7 ≤ 100000000000000000 := by decide +kernel
theorem sbd_p : ∀ k : Nat, k ≤ 7 → 1 ≤ k → sbd k (k - 1) + 100 * (k : Int) ≤ pbd k := by decide +kernel
theorem pbd_7 : ∀ k : Nat, k ≤ 7 → pbd k ≤ pbd 7 := by decide +kernel
theorem scw_1 {last : Int} (h : last = 1) : ∀ n : Nat, scw last n = 1
  | 0 => rfl
  | n + 1 => by
    show w64 (scw last n * last) = 1
    rw [scw_1 h n, h]
    decide
theorem sgm_x {f : Int → Int} {n : Int} {g : Int → Int} {k : Nat} (h1 : f n = 1) (hk : k ≤ 7) (hf : ∀ j : Int, 0 ≤ j → j ≤ n → bd (f j) 100) (hg : ∀ j : Nat, 1 ≤ j → j < k → bd (g j) (pbd j)) : ∀ i : Nat, i ≤ k - 1 → sgm f n g k i = sgx f n g k i
  | 0, _ => rfl
  | i + 1, hi => by
    have ih := sgm_x h1 hk hf hg i (by omega)
    have b := sgx_bd hf hg (i + 1) hi
    have bb2 := sbd_b k hk (i + 1) hi
    have p7 := pbd_nn 7
    unfold sgm
    unfold sgx at b ⊢
    rw [ih, scw_1 h1]
    by_cases q : (i : Int) + 1 ≤ n
    · rw [if_pos q] at b ⊢
      rw [if_pos q]
      have e : (k : Int) - ((i : Int) + 1) = ((k - (i + 1) : Nat) : Int) := by omega
      have c1 := hf (n - ((i : Int) + 1)) (by omega) (by omega)
      have c2 := bd_mul c1 (hg (k - (i + 1)) (by omega) (by omega))
      have c3 := pbd_7 (k - (i + 1)) (by omega)
      rw [← e] at c2
      unfold bd at b c1 c2
      rw [Int.mul_one, w64_id (z := f (n - ((i : Int) + 1))) (by omega) (by omega), w64_id (z := f (n - ((i : Int) + 1)) * g ((k : Int) - ((i : Int) + 1))) (by omega) (by omega), w64_id (by omega) (by omega)]
    · rw [if_neg q, if_neg q]
theorem ps_exact {f : Int → Int} {n : Int} {g : Int → Int} (h1 : f n = 1) (hf : ∀ j : Int, 0 ≤ j → j ≤ n → bd (f j) 100) (hg : isPS f n g 8) : ∀ k : Nat, 1 ≤ k → k ≤ 7 → g k = psx f n g k ∧ bd (g k) (pbd k) := by
  intro k
  induction k using Nat.strongRecOn with
  | ind k ih =>
    intro hk1 hk7
    have hgb : ∀ j : Nat, 1 ≤ j → j < k → bd (g j) (pbd j) := fun j a b => (ih j b a (by omega)).2
    have e1 := hg.2 k hk1 (by omega)
    have sx := sgm_x h1 hk7 hf hgb (k - 1) (Nat.le_refl _)
    have b1 := sgx_bd hf hgb (k - 1) (Nat.le_refl _)
    have b2 := sbd_p k hk7 hk1
    have b3 := pbd_7 k hk7
    have b4 := sbd_b k hk7 (k - 1) (Nat.le_refl _)
    have b5 := pbd_nn 7
    unfold psk at e1
    rw [sx, scw_1 h1] at e1
    by_cases q : (k : Int) ≤ n
    · rw [if_pos q, Int.mul_one] at e1
      have c1 := bd_mul (show bd (k : Int) k from ⟨by omega, by omega⟩) (hf (n - k) (by omega) (by omega))
      have bt2 : bd (psx f n g k) (pbd k) := by
        unfold psx
        rw [if_pos q]
        exact bd_neg (bd_le (bd_add b1 c1) (by omega))
      have bt3 := bt2
      unfold psx at bt3
      rw [if_pos q] at bt3
      unfold bd at c1 bt3 b1
      rw [w64_id (z := (k : Int) * f (n - k)) (by omega) (by omega), w64_id (z := (k : Int) * f (n - k)) (by omega) (by omega), w64_id (z := sgx f n g k (k - 1) + (k : Int) * f (n - k)) (by omega) (by omega), w64_id (by omega) (by omega)] at e1
      have e2 : g k = psx f n g k := by unfold psx; rw [if_pos q]; exact e1
      exact ⟨e2, by rw [e2]; exact bt2⟩
    · rw [if_neg q] at e1
      have bt2 : bd (psx f n g k) (pbd k) := by
        unfold psx
        rw [if_neg q, Int.add_zero]
        exact bd_neg (bd_le b1 (by omega))
      unfold bd at b1
      rw [w64_id (by omega) (by omega)] at e1
      have e2 : g k = psx f n g k := by unfold psx; rw [if_neg q, Int.add_zero]; exact e1
      exact ⟨e2, by rw [e2]; exact bt2⟩
