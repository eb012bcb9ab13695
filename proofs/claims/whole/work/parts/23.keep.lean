/-! contracts: what is made is kept, on both sides; the law's invariant -/
def upf (f : Int → Int) (k v : Int) : Int → Int := fun y => if y = k then v else f y
theorem wr_up {m : rz_M} {a : Nat} {n k v : Int} {g : Int → Int} (h0 : 0 ≤ k) (h : k < n) : rz_up (wr m a n g) a k v = wr m a n (upf g k v) := by
  funext x y
  unfold rz_up wr upf
  by_cases e : x = a ∧ y = k
  · obtain ⟨rfl, rfl⟩ := e
    rw [if_pos ⟨rfl, rfl⟩, if_pos ⟨rfl, h0, h⟩, if_pos rfl]
  · rw [if_neg e]
    by_cases e2 : x = a ∧ 0 ≤ y ∧ y < n
    · rw [if_pos e2, if_pos e2, if_neg (fun q => e ⟨e2.1, q⟩)]
    · rw [if_neg e2, if_neg e2]
theorem wr_wr {m : rz_M} {a : Nat} {n : Int} {g h : Int → Int} : wr (wr m a n g) a n h = wr m a n h := by
  funext x y
  unfold wr
  by_cases e : x = a ∧ 0 ≤ y ∧ y < n
  · rw [if_pos e, if_pos e]
  · rw [if_neg e, if_neg e, if_neg e]
/-- n places from off on become g -/
def wo (m : rz_M) (a : Nat) (off n : Int) (g : Int → Int) : rz_M := fun x y => if x = a ∧ off ≤ y ∧ y < off + n then g (y - off) else m x y
theorem wo_0 (m : rz_M) (a : Nat) (off : Int) (g : Int → Int) : wo m a off 0 g = m := funext fun x => funext fun y => if_neg fun q => by omega
theorem wo_ne {m : rz_M} {a x : Nat} {off n : Int} {g : Int → Int} (h : x ≠ a) : wo m a off n g x = m x := funext fun y => if_neg fun q => h q.1
theorem wo_in {m : rz_M} {a : Nat} {off n j : Int} {g : Int → Int} (h0 : 0 ≤ j) (h : j < n) : wo m a off n g a (off + j) = g j := by
  unfold wo
  rw [if_pos ⟨rfl, by omega, by omega⟩, show off + j - off = j from by omega]
theorem wo_out {m : rz_M} {a : Nat} {off n y : Int} {g : Int → Int} (h : ¬ (off ≤ y ∧ y < off + n)) : wo m a off n g a y = m a y := if_neg fun q => h q.2
theorem wo_succ {m : rz_M} {a : Nat} {off k v : Int} {g : Int → Int} (h : 0 ≤ k) (hv : v = g k) : rz_up (wo m a off k g) a (off + k) v = wo m a off (k + 1) g := by
  funext x y
  unfold rz_up wo
  by_cases e : x = a ∧ y = off + k
  · obtain ⟨rfl, rfl⟩ := e
    rw [if_pos ⟨rfl, rfl⟩, if_pos ⟨rfl, by omega, by omega⟩, hv]
    congr 1
    omega
  · rw [if_neg e]
    by_cases e2 : x = a ∧ off ≤ y ∧ y < off + k
    · rw [if_pos e2, if_pos ⟨e2.1, e2.2.1, by omega⟩]
    · rw [if_neg e2, if_neg (fun q => e2 ⟨q.1, q.2.1, by
        have : y ≠ off + k := fun z => e ⟨q.1, z⟩
        omega⟩)]
/-- what may be kept -/
def fitsR (g : Int → Int) : Prop := ∀ j : Int, 0 ≤ j → j < 7 → -1000000000 ≤ g j ∧ g j ≤ 1000000000
theorem isL_row {r : Int} (h : 0 ≤ r ∧ r < 10) : isL (rz_R 1 r) 7 := by
  have : ∀ k : Nat, k < 10 → rz_isK (2 + k) 1 = true ∧ (7 : Int) ≤ rz_len (2 + k) := by decide +kernel
  exact this r.toNat (by omega)
theorem len_row {r : Int} (h : 0 ≤ r ∧ r < 10) : rz_len (rz_R 1 r) = 7 := by
  have : ∀ k : Nat, k < 10 → rz_len (2 + k) = 7 := by decide +kernel
  exact this r.toNat (by omega)
theorem R_row (r : Int) : rz_R 1 r = 2 + r.toNat := rfl
theorem isL_12 : isL 12 7 := ⟨by decide, by decide⟩
theorem l_RC_keep {to : Int} (ht : 0 ≤ to ∧ to < 10) {m : rz_M} {K : Int → rz_M → Prop} (h1 : fitsR (m 12) → K 0 (rz_up (wr m (rz_R 1 to) 7 (m 12)) 0 10 0)) (h0 : ¬ fitsR (m 12) → K (-3) (rz_up m 0 10 (-3))) : ∀ (d : Nat) (k : Int), 7 - k = d → 0 ≤ k → (∀ j : Int, 0 ≤ j → j < k → -1000000000 ≤ m 12 j ∧ m 12 j ≤ 1000000000) → rz_E y_RC_keepMade 2 [rR 0, rI to, rI k] [] m K
  | 0, k, hd, hk, hs => T_RC_keepMade_2 _ _ _ _ (bt (by omega) ⟨by exact ⟨ht.1, ht.2⟩, c_RC_copy isL_12 (isL_row ht) (h1 (fun j a b => hs j a (by omega)))⟩)
  | d + 1, k, hd, hk, hs => by
    refine T_RC_keepMade_2 _ _ _ _ (bf (by omega) ⟨⟨hk, by omega⟩, bb (fun q => c_RC_refuse (h0 (fun z => by have := z k hk (by omega); omega))) (fun q => ⟨⟨hk, by omega⟩, bb (fun q2 => ?_) (fun q2 => c_RC_refuse (h0 (fun z => by have := z k hk (by omega); omega)))⟩)⟩)
    rw [w32_id (by omega) (by omega)]
    exact l_RC_keep ht h1 h0 d (k + 1) (by omega) (by omega) (fun j a b => by
      by_cases e : j = k
      · subst e; exact ⟨q2, by omega⟩
      · exact hs j a (by omega))
theorem c_RC_keepMade {to : Int} (ht : 0 ≤ to ∧ to < 10) {m : rz_M} {K : Int → rz_M → Prop} (h1 : fitsR (m 12) → K 0 (rz_up (wr m (rz_R 1 to) 7 (m 12)) 0 10 0)) (h0 : ¬ fitsR (m 12) → K (-3) (rz_up m 0 10 (-3))) : rz_C y_RC_keepMade [rR 0, rI to] m K :=
  T_RC_keepMade_0 _ _ _ (l_RC_keep ht h1 h0 7 0 (by omega) (by omega) (fun j a b => by omega))
theorem l_M_put77 {to : Int} (ht : 0 ≤ to ∧ to < 10) {m : rz_M} {K : Int → rz_M → Prop} (h1 : K 0 (rz_up (wo m 222 (7 * to) 7 (m 223)) 221 1 0)) : ∀ (d : Nat) (k : Int), 7 - k = d → 0 ≤ k → rz_E y_M_put 77 [rR 221, rI to, rX 0, rI k] [] (wo m 222 (7 * to) k (m 223)) K
  | 0, k, hd, hk => by
    have e : k = 7 := by omega
    subst e
    exact T_M_put_77 _ _ _ _ (bt (by omega) (c_M_said h1))
  | d + 1, k, hd, hk => by
    refine T_M_put_77 _ _ _ _ (bf (by omega) ?_)
    rw [w32_id (z := 7 * to) (by omega) (by omega), w32_id (z := 7 * to + k) (by omega) (by omega), w32_id (z := k + 1) (by omega) (by omega)]
    refine ⟨⟨hk, by omega⟩, ⟨by omega, by omega⟩, ?_⟩
    rw [wo_succ hk (by rw [wo_ne (by decide)])]
    exact l_M_put77 ht h1 d (k + 1) (by omega) (by omega)
theorem l_M_put4 {to : Int} (ht : 0 ≤ to ∧ to < 10) {m : rz_M} {K : Int → rz_M → Prop} (hz : ∀ j : Int, 7 ≤ j → j < 13 → m 223 j = 0) (h1 : fitsR (m 223) → K 0 (rz_up (wo m 222 (7 * to) 7 (m 223)) 221 1 0)) (h0 : ¬ fitsR (m 223) → K (-3) (rz_up m 221 1 (-3))) : ∀ (d : Nat) (k : Int) (b : Int), 13 - k = d → 0 ≤ k → (b = 1 ∧ (∀ j : Int, 0 ≤ j → j < k → j < 7 → -1000000000 ≤ m 223 j ∧ m 223 j ≤ 1000000000) ∨ b = 0 ∧ ¬ fitsR (m 223)) → rz_E y_M_put 4 [rR 221, rI to, rI b, rI k] [] m K
  | 0, k, b, hd, hk, hb => by
    refine T_M_put_4 _ _ _ _ _ (bt (by omega) ?_)
    rcases hb with ⟨rfl, hs⟩ | ⟨rfl, hs⟩
    · refine b1n ?_
      have := l_M_put77 ht (m := m) (h1 (fun j a b => hs j a (by omega) b)) 7 0 (by omega) (by omega)
      rw [wo_0] at this
      exact this
    · exact b0n (c_M_said (h0 hs))
  | d + 1, k, b, hd, hk, hb => by
    refine T_M_put_4 _ _ _ _ _ (bf (by omega) ?_)
    have e : w32 (k + 1) = k + 1 := w32_id (by omega) (by omega)
    rcases hb with ⟨rfl, hs⟩ | ⟨rfl, hs⟩
    · refine b1t ⟨⟨hk, by omega⟩, bb (fun q => ?_) (fun q => ?_)⟩
      · refine T_M_put_33 _ _ _ _ _ _ (bt q (c_M_in (fun q1 q2 => b1t ?_) (fun q1 => b0t ?_)))
        · rw [e]
          exact l_M_put4 ht hz h1 h0 d (k + 1) 1 (by omega) (by omega) (Or.inl ⟨rfl, fun j a b c => by
            by_cases e : j = k
            · subst e; exact ⟨q1, q2⟩
            · exact hs j a (by omega) c⟩)
        · rw [e]
          exact l_M_put4 ht hz h1 h0 d (k + 1) 0 (by omega) (by omega) (Or.inr ⟨rfl, fun z => q1 (z k hk (by omega))⟩)
      · refine T_M_put_33 _ _ _ _ _ _ (bf q (c_M_in (fun q1 q2 => b1t ?_) (fun q1 => absurd ?_ q1)))
        · rw [e]
          exact l_M_put4 ht hz h1 h0 d (k + 1) 1 (by omega) (by omega) (Or.inl ⟨rfl, fun j a b c => hs j a (by omega) c⟩)
        · rw [hz k (by omega) (by omega)]
          exact ⟨Int.le_refl _, Int.le_refl _⟩
    · refine b0t ?_
      rw [e]
      exact l_M_put4 ht hz h1 h0 d (k + 1) 0 (by omega) (by omega) (Or.inr ⟨rfl, hs⟩)
theorem c_M_put {to : Int} (ht : 0 ≤ to ∧ to < 10) {m : rz_M} {K : Int → rz_M → Prop} (hz : ∀ j : Int, 7 ≤ j → j < 13 → m 223 j = 0) (h1 : fitsR (m 223) → K 0 (rz_up (wo m 222 (7 * to) 7 (m 223)) 221 1 0)) (h0 : ¬ fitsR (m 223) → K (-3) (rz_up m 221 1 (-3))) : rz_C y_M_put [rR 221, rI to] m K :=
  T_M_put_0 _ _ _ (l_M_put4 ht hz h1 h0 13 0 1 (by omega) (by omega) (Or.inl ⟨rfl, fun j a b => by omega⟩))
/-- the latest FACTORS on both sides -/
def latEq (m : rz_M) : Prop := (m 221 17 = -1 ∧ m 14 4 = 0 ∧ m 14 5 = 0) ∨ (0 ≤ m 14 4 ∧ m 14 4 ≤ 6 ∧ m 221 17 = m 14 4 ∧ m 14 5 ≠ 0 ∧ m 221 18 = m 14 5 ∧ ∀ k : Int, 0 ≤ k → k < m 14 4 → m 22 k = m 232 k ∧ m 23 k = m 233 k ∧ ∀ j : Int, 0 ≤ j → j < 7 → m (16 + k.toNat) j = m 231 (7 * k + j))
/-- both sides hold the same -/
def Inv (m : rz_M) : Prop := (∀ r : Int, 0 ≤ r → r < 10 → fitsR (m (rz_R 1 r)) ∧ ∀ j : Int, 0 ≤ j → j < 7 → m (rz_R 1 r) j = m 222 (7 * r + j)) ∧ m 0 10 = m 221 1 ∧ latEq m
/-- cells that both sides must keep -/
def samO (m m' : rz_M) : Prop := (∀ i : Nat, (i = 14 ∨ 16 ≤ i ∧ i ≤ 23 ∨ i = 231 ∨ i = 232 ∨ i = 233 ∨ i = 400) → m' i = m i) ∧ m' 221 17 = m 221 17 ∧ m' 221 18 = m 221 18
theorem latEq_of {m m' : rz_M} (h : samO m m') (hm : latEq m) : latEq m' := by
  obtain ⟨h1, h2, h3⟩ := h
  have e14 := h1 14 (by omega)
  have e22 := h1 22 (by omega)
  have e23 := h1 23 (by omega)
  have e1 := h1 231 (by omega)
  have e2 := h1 232 (by omega)
  have e3 := h1 233 (by omega)
  unfold latEq
  rw [e14, e22, e23, e1, e2, e3, h2, h3]
  rcases hm with hm | ⟨a, b, c, d, f, g⟩
  · exact Or.inl hm
  · exact Or.inr ⟨a, b, c, d, f, fun k k1 k2 => by
      obtain ⟨g1, g2, g3⟩ := g k k1 k2
      exact ⟨g1, g2, fun j j1 j2 => by rw [h1 (16 + k.toNat) (by omega)]; exact g3 j j1 j2⟩⟩
theorem Inv_ref {m m' : rz_M} {z : Int} (hI : Inv m) (h : samO m m') (h1 : ∀ i : Nat, 2 ≤ i → i ≤ 11 → m' i = m i) (h2 : m' 222 = m 222) (h3 : m' 0 10 = z) (h4 : m' 221 1 = z) : Inv m' := by
  refine ⟨fun r r0 r1 => ?_, by rw [h3, h4], latEq_of h hI.2.2⟩
  rw [h1 _ (by rw [R_row]; omega) (by rw [R_row]; omega), h2]
  exact hI.1 r r0 r1
theorem Inv_set {m m' : rz_M} {to : Int} (ht : 0 ≤ to ∧ to < 10) {g : Int → Int} (hg : fitsR g) (hI : Inv m) (h : samO m m') (h1 : ∀ i : Nat, 2 ≤ i → i ≤ 11 → i ≠ rz_R 1 to → m' i = m i) (h1b : ∀ j : Int, 0 ≤ j → j < 7 → m' (rz_R 1 to) j = g j) (h2 : ∀ j : Int, 0 ≤ j → j < 7 → m' 222 (7 * to + j) = g j) (h2b : ∀ y : Int, ¬ (7 * to ≤ y ∧ y < 7 * to + 7) → m' 222 y = m 222 y) (h3 : m' 0 10 = 0) (h4 : m' 221 1 = 0) : Inv m' := by
  refine ⟨fun r r0 r1 => ?_, by rw [h3, h4], latEq_of h hI.2.2⟩
  by_cases e : r = to
  · subst e
    exact ⟨fun j a b => by rw [h1b j a b]; exact hg j a b, fun j a b => by rw [h1b j a b, h2 j a b]⟩
  · rw [h1 _ (by rw [R_row]; omega) (by rw [R_row]; omega) (by rw [R_row, R_row]; omega)]
    obtain ⟨a1, a2⟩ := hI.1 r r0 r1
    exact ⟨a1, fun j a b => by rw [h2b _ (by omega)]; exact a2 j a b⟩
