/-! both sides alike: power, pairs -/
def scw (last : Int) : Nat → Int
  | 0 => 1
  | n + 1 => w64 (scw last n * last)
/-- the sum of the first i products, as far as the row goes -/
def sgm (f : Int → Int) (n : Int) (g : Int → Int) (k : Int) : Nat → Int
  | 0 => 0
  | i + 1 => if (i : Int) + 1 ≤ n then w64 (sgm f n g k i + w64 (w64 (f (n - ((i : Int) + 1)) * scw (f n) i) * g (k - ((i : Int) + 1)))) else sgm f n g k i
/-- power sum k from the earlier ones -/
def psk (f : Int → Int) (n : Int) (g : Int → Int) (k : Nat) : Int := if (k : Int) ≤ n then w64 (-(w64 (sgm f n g k (k - 1) + w64 (w64 (k * f (n - k)) * scw (f n) (k - 1))))) else w64 (-(sgm f n g k (k - 1)))
def isPS (f : Int → Int) (n : Int) (g : Int → Int) (top : Nat) : Prop := g 0 = n ∧ ∀ k : Nat, 1 ≤ k → k < top → g k = psk f n g k
theorem sgm_congr {f f' : Int → Int} {n : Int} (hn : n ≤ 6) {g g' : Int → Int} {k : Int} (hf : ∀ j : Int, 0 ≤ j → j ≤ 6 → f j = f' j) (h0 : 0 ≤ n) : ∀ (i : Nat), (∀ j : Int, k - i ≤ j → j < k → g j = g' j) → sgm f n g k i = sgm f' n g' k i
  | 0, _ => rfl
  | i + 1, h => by
    have ih := sgm_congr (f := f) (f' := f') (k := k) hn hf h0 i (fun j a b => h j (by omega) b)
    unfold sgm
    rw [ih]
    by_cases q : (i : Int) + 1 ≤ n
    · rw [if_pos q, if_pos q, hf _ (by omega) (by omega), h (k - ((i : Int) + 1)) (by omega) (by omega), hf n h0 hn]
    · rw [if_neg q, if_neg q]
theorem psk_congr {f f' : Int → Int} {n : Int} (h0 : 0 ≤ n) (hn : n ≤ 6) {g g' : Int → Int} (hf : ∀ j : Int, 0 ≤ j → j ≤ 6 → f j = f' j) (k : Nat) (hk : 1 ≤ k) (h : ∀ j : Int, 0 ≤ j → j < k → g j = g' j) : psk f n g k = psk f' n g' k := by
  unfold psk
  rw [sgm_congr hn hf h0 (k - 1) (fun j a b => h j (by omega) b), hf n h0 hn]
  by_cases q : (k : Int) ≤ n
  · rw [if_pos q, if_pos q, hf (n - k) (by omega) (by omega)]
  · rw [if_neg q, if_neg q]
theorem isPS_eq {f f' : Int → Int} {n : Int} (h0 : 0 ≤ n) (hn : n ≤ 6) (hf : ∀ j : Int, 0 ≤ j → j ≤ 6 → f j = f' j) {g g' : Int → Int} {top : Nat} (h : isPS f n g top) (h' : isPS f' n g' top) : ∀ k : Nat, k < top → ∀ j : Int, 0 ≤ j → j ≤ k → g j = g' j
  | 0, _, j, a, b => by rw [show j = 0 from by omega, h.1, h'.1]
  | k + 1, hk, j, a, b => by
    have ih := isPS_eq h0 hn hf h h' k (by omega)
    by_cases q : j ≤ k
    · exact ih j a q
    · have e : j = ((k + 1 : Nat) : Int) := by omega
      rw [e, h.2 (k + 1) (by omega) hk, h'.2 (k + 1) (by omega) hk]
      exact psk_congr h0 hn hf (k + 1) (by omega) (fun j a b => ih j a (by omega))
theorem scw_R (last : Int) : ∀ n : Nat, R64 (scw last n)
  | 0 => (⟨by decide, by decide⟩ : R64 1)
  | n + 1 => w64_R _
theorem sgm_R (f : Int → Int) (n : Int) (g : Int → Int) (k : Int) : ∀ i : Nat, R64 (sgm f n g k i)
  | 0 => (⟨by decide, by decide⟩ : R64 0)
  | i + 1 => by
    unfold sgm
    split
    · exact w64_R _
    · exact sgm_R f n g k i
theorem w64_of_R {x : Int} (h : R64 x) : w64 x = x := w64_id h.1 h.2
/-- beyond the degree nothing is added -/
theorem sgm_stop {f : Int → Int} {n : Int} {g : Int → Int} {k : Int} {i : Nat} (h : n ≤ i) : ∀ d : Nat, sgm f n g k (i + d) = sgm f n g k i
  | 0 => rfl
  | d + 1 => by
    show (if ((i + d : Nat) : Int) + 1 ≤ n then _ else _) = _
    rw [if_neg (by omega)]
    exact sgm_stop h d
theorem isPS_up {f : Int → Int} {n : Int} {g : Int → Int} {k : Nat} (h0 : 0 ≤ n) (hn : n ≤ 6) (hk : 1 ≤ k) (h : isPS f n g k) : isPS f n (upf g k (psk f n g k)) (k + 1) := by
  have e : ∀ j : Int, 0 ≤ j → j < k → g j = upf g k (psk f n g k) j := fun j a b => by
    unfold upf
    rw [if_neg (by omega)]
  refine ⟨by rw [← e 0 (by omega) (by omega)]; exact h.1, fun j a b => ?_⟩
  by_cases q : j = k
  · subst q
    rw [← psk_congr h0 hn (fun _ _ _ => rfl) j a (fun i x y => e i x y)]
    unfold upf
    rw [if_pos rfl]
  · rw [← e j (by omega) (by omega), h.2 j a (by omega)]
    exact psk_congr h0 hn (fun _ _ _ => rfl) j a (fun i x y => e i x (by omega))
theorem l_RC_fp31 {a : Nat} (ha : isL a 7) (ha13 : a ≠ 13) {n : Int} (h0 : 0 ≤ n) (hn : n ≤ 6) {m : rz_M} {g : Int → Int} {k : Nat} (hk1 : 1 ≤ k) (hk7 : k ≤ 7) {Q : Int → rz_M → Prop}
    (h : rz_E y_RC_fillRootPowers 15 [rR 0, rR a, rI n, rL (m a n), rX 1, rI ((k : Int) + 1), rX 0, rX 0, rX 0, rX 0, rX 0] [] (wr m 13 8 (upf g k (psk (m a) n g k))) Q) : ∀ (d i : Nat), 7 - i = d → i ≤ k - 1 → (i : Int) ≤ n → rz_E y_RC_fillRootPowers 31 [rR 0, rR a, rI n, rL (m a n), rX 1, rI k, rL (sgm (m a) n g k i), rX 1, rL (scw (m a n) i), rX 1, rI ((i : Int) + 1)] [] (wr m 13 8 g) Q
  | 0, i, hd, hi, hin => by omega
  | d + 1, i, hd, hi, hin => by
    -- the end: the last product and the storing
    have fin : (n < (i : Int) + 1 ∨ (k : Int) ≤ (i : Int) + 1) → rz_E y_RC_fillRootPowers 81 [rR 0, rR a, rI n, rL (m a n), rX 1, rI k, rL (sgm (m a) n g k i), rX 1, rL (scw (m a n) i), rX 1, rX 0] [] (wr m 13 8 g) Q := by
      intro hc
      refine T_RC_fillRootPowers_81 _ _ _ _ _ _ _ _ (bb (fun q => ⟨⟨by omega, by omega⟩, ?_⟩) (fun q => ⟨ha.1, ?_⟩))
      · have e : psk (m a) n g k = w64 (-(sgm (m a) n g k i)) := by
          unfold psk
          rw [if_neg (by omega)]
          have := sgm_stop (f := m a) (n := n) (g := g) (k := k) (i := i) (by omega) (k - 1 - i)
          rw [show i + (k - 1 - i) = k - 1 from by omega] at this
          rw [this]
        rw [w32_id (by omega) (by omega), wr_up (by omega) (by omega), ← e]
        exact h
      · have e1 : i = k - 1 := by omega
        have e : psk (m a) n g k = w64 (-(w64 (sgm (m a) n g k i + w64 (w64 (k * m a (n - k)) * scw (m a n) i)))) := by
          unfold psk
          rw [if_pos (by omega), ← e1]
        rw [w32_id (z := n - k) (by omega) (by omega), w32_id (z := (k : Int) + 1) (by omega) (by omega), wr_ne ha13, wr_up (by omega) (by omega), ← e]
        exact ⟨⟨by omega, by have := ha.2; omega⟩, ⟨by omega, by omega⟩, h⟩
    refine T_RC_fillRootPowers_31 _ _ _ _ _ _ _ _ _ (bb (fun q => fin (Or.inl q)) (fun q => bb (fun q2 => fin (Or.inr q2)) (fun q2 => ⟨ha.1, ?_⟩)))
    rw [w32_id (z := n - ((i : Int) + 1)) (by omega) (by omega), w32_id (z := (k : Int) - ((i : Int) + 1)) (by omega) (by omega), w32_id (z := (i : Int) + 1 + 1) (by omega) (by omega), wr_ne ha13, wr_in (by omega) (by omega)]
    have e : sgm (m a) n g k (i + 1) = w64 (sgm (m a) n g k i + w64 (w64 (m a (n - ((i : Int) + 1)) * scw (m a n) i) * g ((k : Int) - ((i : Int) + 1)))) := by
      show (if (i : Int) + 1 ≤ n then _ else _) = _
      rw [if_pos (by omega)]
    rw [← e]
    have g2 := l_RC_fp31 ha ha13 h0 hn hk1 hk7 h d (i + 1) (by omega) (by omega) (by omega)
    exact ⟨⟨by omega, by have := ha.2; omega⟩, ⟨by omega, by omega⟩, g2⟩
theorem l_RC_fp15 {a : Nat} (ha : isL a 7) (ha13 : a ≠ 13) {n : Int} (h0 : 0 ≤ n) (hn : n ≤ 6) {m : rz_M} {Q : Int → rz_M → Prop}
    (h : ∀ g, isPS (m a) n g 8 → Q 0 (wr m 13 8 g)) : ∀ (d k : Nat) (g : Int → Int), 8 - k = d → 1 ≤ k → k ≤ 8 → isPS (m a) n g k → rz_E y_RC_fillRootPowers 15 [rR 0, rR a, rI n, rL (m a n), rX 1, rI k, rX 0, rX 0, rX 0, rX 0, rX 0] [] (wr m 13 8 g) Q
  | 0, k, g, hd, hk, hk8, hg => by
    have e : k = 8 := by omega
    subst e
    exact T_RC_fillRootPowers_15 _ _ _ _ _ _ (bt (by decide) (h g hg))
  | d + 1, k, g, hd, hk, hk8, hg => by
    refine T_RC_fillRootPowers_15 _ _ _ _ _ _ (bf (by omega) ?_)
    have ih := l_RC_fp15 ha ha13 h0 hn h d (k + 1) (upf g k (psk (m a) n g k)) (by omega) (by omega) (by omega) (isPS_up h0 hn hk hg)
    exact l_RC_fp31 ha ha13 h0 hn hk (by omega) ih 7 0 rfl (by omega) h0
theorem c_RC_fillRootPowers {a : Nat} (ha : isL a 7) (ha13 : a ≠ 13) {n : Int} (h0 : 0 ≤ n) (hn : n ≤ 6) {m : rz_M} {Q : Int → rz_M → Prop} (h : ∀ g, isPS (m a) n g 8 → Q 0 (wr m 13 8 g)) : rz_C y_RC_fillRootPowers [rR 0, rR a, rI n] m Q := by
  refine T_RC_fillRootPowers_0 _ _ _ _ ⟨ha.1, ⟨h0, by have := ha.2; omega⟩, ⟨by decide, by decide⟩, ?_⟩
  have e : rz_up m 13 0 n = wr m 13 8 (upf (m 13) 0 n) := by
    rw [← wr_up (by decide) (by decide), wr_self]
  rw [e]
  exact l_RC_fp15 ha ha13 h0 hn h 7 1 (upf (m 13) 0 n) rfl (by omega) (by omega) ⟨by unfold upf; rw [if_pos rfl], fun k a b => by omega⟩
theorem l_M_fs73 {r : Int} (hr : 0 ≤ r ∧ r < 10) {t : Nat} (ht : rz_isK t 1 = true) (htl : rz_len t = 8) (ht2 : t ≠ 222) {n : Int} (h0 : 0 ≤ n) (hn : n ≤ 6) {m : rz_M} {g : Int → Int} {k : Nat} (hk1 : 1 ≤ k) (hk7 : k ≤ 7) {Q : Int → rz_M → Prop}
    (h : rz_E y_M_findSums 27 [rR 221, rI r, rR t, rI n, rL (rwM m r n), rX 1, rI ((k : Int) + 1), rX 0, rX 0, rX 0, rX 0, rX 0, rX 0, rX 0] [] (wr m t 8 (upf g k (psk (rwM m r) n g k))) Q) : ∀ (d i : Nat), k - 1 - i = d → i ≤ k - 1 → rz_E y_M_findSums 73 [rR 221, rI r, rR t, rI n, rL (rwM m r n), rX 1, rI k, rL (if (k : Int) ≤ n then w64 (k * rwM m r (n - k)) else 0), rX 1, rL (scw (rwM m r n) i), rX 1, rL (sgm (rwM m r) n g k i), rX 1, rI ((i : Int) + 1)] [] (wr m t 8 g) Q
  | 0, i, hd, hi => by
    have e : i = k - 1 := by omega
    subst e
    refine T_M_findSums_73 _ _ _ _ _ _ _ _ _ _ _ (bt (by omega) ⟨ht, ⟨by omega, by rw [htl]; omega⟩, ?_⟩)
    have e : psk (rwM m r) n g k = w64 (-(w64 (sgm (rwM m r) n g k (k - 1) + w64 ((if (k : Int) ≤ n then w64 (k * rwM m r (n - k)) else 0) * scw (rwM m r n) (k - 1))))) := by
      unfold psk
      by_cases q : (k : Int) ≤ n
      · rw [if_pos q, if_pos q]
      · rw [if_neg q, if_neg q, Int.zero_mul, show w64 0 = 0 from by decide, Int.add_zero, w64_of_R (sgm_R _ _ _ _ _)]
    rw [w32_id (by omega) (by omega), wr_up (by omega) (by omega), ← e]
    exact h
  | d + 1, i, hd, hi => by
    refine T_M_findSums_73 _ _ _ _ _ _ _ _ _ _ _ (bf (by omega) ?_)
    rw [w32_id (z := (i : Int) + 1 + 1) (by omega) (by omega)]
    have g2 := l_M_fs73 hr ht htl ht2 h0 hn hk1 hk7 h d (i + 1) (by omega) (by omega)
    have e : sgm (rwM m r) n g k (i + 1) = if (i : Int) + 1 ≤ n then w64 (sgm (rwM m r) n g k i + w64 (w64 (rwM m r (n - ((i : Int) + 1)) * scw (rwM m r n) i) * g ((k : Int) - ((i : Int) + 1)))) else sgm (rwM m r) n g k i := rfl
    refine bb (fun q => ?_) (fun q => ?_)
    · rw [Int.add_zero, w64_of_R (sgm_R _ _ _ _ _)]
      have e1 : sgm (rwM m r) n g k (i + 1) = sgm (rwM m r) n g k i := by rw [e, if_neg (by omega)]
      rw [e1] at g2
      exact g2
    · rw [w32_id (z := 7 * r) (by omega) (by omega), w32_id (z := 7 * r + n) (by omega) (by omega), w32_id (z := 7 * r + n - ((i : Int) + 1)) (by omega) (by omega), w32_id (z := (k : Int) - ((i : Int) + 1)) (by omega) (by omega), wr_ne (fun z => ht2 z.symm), wr_in (by omega) (by omega)]
      have e1 : sgm (rwM m r) n g k (i + 1) = w64 (sgm (rwM m r) n g k i + w64 (w64 (rwM m r (n - ((i : Int) + 1)) * scw (rwM m r n) i) * g ((k : Int) - ((i : Int) + 1)))) := by rw [e, if_pos (by omega)]
      rw [e1] at g2
      refine ⟨⟨by omega, by omega⟩, ht, ⟨by omega, by rw [htl]; omega⟩, ?_⟩
      rw [show m 222 (7 * r + n - ((i : Int) + 1)) = rwM m r (n - ((i : Int) + 1)) from by unfold rwM; congr 1; omega]
      exact g2
theorem l_M_fs27 {r : Int} (hr : 0 ≤ r ∧ r < 10) {t : Nat} (ht : rz_isK t 1 = true) (htl : rz_len t = 8) (ht2 : t ≠ 222) {n : Int} (h0 : 0 ≤ n) (hn : n ≤ 6) {m : rz_M} {Q : Int → rz_M → Prop}
    (h : ∀ g, isPS (rwM m r) n g 8 → Q 0 (wr m t 8 g)) : ∀ (d k : Nat) (g : Int → Int), 8 - k = d → 1 ≤ k → k ≤ 8 → isPS (rwM m r) n g k → rz_E y_M_findSums 27 [rR 221, rI r, rR t, rI n, rL (rwM m r n), rX 1, rI k, rX 0, rX 0, rX 0, rX 0, rX 0, rX 0, rX 0] [] (wr m t 8 g) Q
  | 0, k, g, hd, hk, hk8, hg => by
    have e : k = 8 := by omega
    subst e
    exact T_M_findSums_27 _ _ _ _ _ _ _ (bt (by decide) (h g hg))
  | d + 1, k, g, hd, hk, hk8, hg => by
    have ih := l_M_fs27 hr ht htl ht2 h0 hn h d (k + 1) (upf g k (psk (rwM m r) n g k)) (by omega) (by omega) (by omega) (isPS_up h0 hn hk hg)
    have go := l_M_fs73 hr ht htl ht2 h0 hn hk (by omega) ih (k - 1) 0 (by omega) (by omega)
    refine T_M_findSums_27 _ _ _ _ _ _ _ (bf (by omega) (bb (fun q => ?_) (fun q => ?_)))
    · rw [if_neg (by omega)] at go
      exact go
    · rw [if_pos (by omega)] at go
      rw [w32_id (z := 7 * r) (by omega) (by omega), w32_id (z := 7 * r + n) (by omega) (by omega), w32_id (z := 7 * r + n - k) (by omega) (by omega), wr_ne (fun z => ht2 z.symm), show m 222 (7 * r + n - (k : Int)) = rwM m r (n - k) from by unfold rwM; congr 1; omega]
      exact ⟨⟨by omega, by omega⟩, go⟩
theorem c_M_findSums {r : Int} (hr : 0 ≤ r ∧ r < 10) {t : Nat} (ht : rz_isK t 1 = true) (htl : rz_len t = 8) (ht2 : t ≠ 222) {m : rz_M} (h0 : 0 ≤ dg (rwM m r)) {Q : Int → rz_M → Prop} (h : ∀ g, isPS (rwM m r) (dg (rwM m r)) g 8 → Q 0 (wr m t 8 g)) : rz_C y_M_findSums [rR 221, rI r, rR t] m Q := by
  have hn := dg_rng (rwM m r)
  refine T_M_findSums_0 _ _ _ _ (c_M_degreeOf hr ?_)
  generalize dg (rwM m r) = n at h0 hn h
  rw [w32_id (z := 7 * r) (by omega) (by omega), w32_id (z := 7 * r + n) (by omega) (by omega)]
  refine ⟨⟨by omega, by omega⟩, ht, ⟨by decide, by rw [htl]; decide⟩, ?_⟩
  have e : rz_up m t 0 n = wr m t 8 (upf (m t) 0 n) := by
    rw [← wr_up (by decide) (by decide), wr_self]
  rw [e]
  exact l_M_fs27 hr ht htl ht2 h0 hn.2 h 7 1 (upf (m t) 0 n) rfl (by omega) (by omega) ⟨by unfold upf; rw [if_pos rfl], fun k a b => by omega⟩
