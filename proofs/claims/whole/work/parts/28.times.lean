/-! both sides alike: times, shift -/
/-- one row of a product, added to acc below L -/
def apI (L : Int) (f g : Int → Int) (i : Int) : Nat → (Int → Int) → (Int → Int)
  | 0, acc => acc
  | n + 1, acc => if i + n < L then upf (apI L f g i n acc) (i + n) (w64 (apI L f g i n acc (i + n) + w64 (f i * g n))) else apI L f g i n acc
def apO (L : Int) (f g : Int → Int) (nb : Nat) : Nat → (Int → Int) → (Int → Int)
  | 0, acc => acc
  | n + 1, acc => apI L f g n nb (apO L f g nb n acc)
theorem apI_stop {L : Int} {f g : Int → Int} {i : Int} {acc : Int → Int} {n : Nat} (h : L ≤ i + n) : ∀ d : Nat, apI L f g i (n + d) acc = apI L f g i n acc
  | 0 => rfl
  | d + 1 => by
    show (if i + (n + d : Nat) < L then _ else _) = _
    rw [if_neg (by omega)]
    exact apI_stop h d
theorem wr_self (m : rz_M) (a : Nat) (n : Int) : wr m a n (m a) = m := by
  funext x y
  unfold wr
  by_cases e : x = a ∧ 0 ≤ y ∧ y < n
  · rw [if_pos e, e.1]
  · rw [if_neg e]
theorem anyK {c : Nat} (h : rz_isK c 1 = true) : (rz_isK c 0 || rz_isK c 1 || rz_isK c 2 || rz_isK c 3) = true := by rw [h]; simp
theorem l_RC_ap12 {a b c : Nat} {L dA dB : Int} (hc : rz_isK c 1 = true) (hcl : rz_len c = L) (hL : 0 ≤ L ∧ L ≤ 1000) (ha : isL a (dA + 1)) (hb : isL b (dB + 1)) (hac : a ≠ c) (hbc : b ≠ c) (hd : dA < 1000 ∧ dB < 1000) {m : rz_M} {Q : Int → rz_M → Prop} (i : Nat) (hi : (i : Int) ≤ dA) (acc : Int → Int)
    (h : rz_E y_RC_addProduct 3 [rR a, rI dA, rR b, rI dB, rR c, rI ((i : Int) + 1), rX 0] [] (wr m c L (apI L (m a) (m b) i (dB + 1).toNat acc)) Q) : ∀ (d : Nat) (j : Nat), (dB + 1).toNat - j = d → j ≤ (dB + 1).toNat → rz_E y_RC_addProduct 12 [rR a, rI dA, rR b, rI dB, rR c, rI i, rI j] [] (wr m c L (apI L (m a) (m b) i j acc)) Q
  | 0, j, hd', hj => by
    have e : j = (dB + 1).toNat := by omega
    subst e
    refine T_RC_addProduct_12 _ _ _ _ _ _ _ _ _ (bt (by omega) ?_)
    rw [w32_id (by omega) (by omega)]
    exact h
  | d + 1, j, hd', hj => by
    refine T_RC_addProduct_12 _ _ _ _ _ _ _ _ _ (bf (by omega) ⟨anyK hc, ?_⟩)
    rw [w32_id (z := (i : Int) + j) (by omega) (by omega), w32_id (z := (i : Int) + 1) (by omega) (by omega), w32_id (z := (j : Int) + 1) (by omega) (by omega), hcl]
    refine bb (fun q => ?_) (fun q => ⟨hc, ⟨by omega, by omega⟩, ha.1, ⟨by omega, by have := ha.2; omega⟩, hb.1, ⟨by omega, by have := hb.2; omega⟩, hc, ⟨by omega, by omega⟩, ?_⟩)
    · have e := apI_stop (f := m a) (g := m b) (acc := acc) (n := j) q ((dB + 1).toNat - j)
      rw [show j + ((dB + 1).toNat - j) = (dB + 1).toNat from by omega] at e
      rw [e] at h
      exact h
    · rw [wr_ne hac, wr_ne hbc, wr_in (by omega) (by omega), wr_up (by omega) (by omega)]
      have e : upf (apI L (m a) (m b) i j acc) ((i : Int) + j) (w64 (apI L (m a) (m b) i j acc ((i : Int) + j) + w64 (m a i * m b j))) = apI L (m a) (m b) i (j + 1) acc := by
        show _ = (if (i : Int) + j < L then _ else _)
        rw [if_pos (by omega)]
      rw [e]
      exact l_RC_ap12 hc hcl hL ha hb hac hbc hd i hi acc h d (j + 1) (by omega) (by omega)
theorem l_RC_ap3 {a b c : Nat} {L dA dB : Int} (hc : rz_isK c 1 = true) (hcl : rz_len c = L) (hL : 0 ≤ L ∧ L ≤ 1000) (ha : isL a (dA + 1)) (hb : isL b (dB + 1)) (hac : a ≠ c) (hbc : b ≠ c) (hd : -1 ≤ dA ∧ dA < 1000 ∧ -1 ≤ dB ∧ dB < 1000) {m : rz_M} {Q : Int → rz_M → Prop}
    (h : Q 0 (wr m c L (apO L (m a) (m b) (dB + 1).toNat (dA + 1).toNat (m c)))) : ∀ (d : Nat) (i : Nat), (dA + 1).toNat - i = d → i ≤ (dA + 1).toNat → rz_E y_RC_addProduct 3 [rR a, rI dA, rR b, rI dB, rR c, rI i, rX 0] [] (wr m c L (apO L (m a) (m b) (dB + 1).toNat i (m c))) Q
  | 0, i, hd', hi => by
    have e : i = (dA + 1).toNat := by omega
    subst e
    exact T_RC_addProduct_3 _ _ _ _ _ _ _ _ (bt (by omega) h)
  | d + 1, i, hd', hi => by
    refine T_RC_addProduct_3 _ _ _ _ _ _ _ _ (bf (by omega) ?_)
    have := l_RC_ap12 hc hcl hL ha hb hac hbc ⟨hd.2.1, hd.2.2.2⟩ (m := m) (Q := Q) i (by omega) (apO L (m a) (m b) (dB + 1).toNat i (m c)) (by
      have g := l_RC_ap3 hc hcl hL ha hb hac hbc hd h d (i + 1) (by omega) (by omega)
      exact g) (dB + 1).toNat 0 (by omega) (Nat.zero_le _)
    exact this
theorem c_RC_addProduct {a b c : Nat} {L dA dB : Int} (hc : rz_isK c 1 = true) (hcl : rz_len c = L) (hL : 0 ≤ L ∧ L ≤ 1000) (ha : isL a (dA + 1)) (hb : isL b (dB + 1)) (hac : a ≠ c) (hbc : b ≠ c) (hd : -1 ≤ dA ∧ dA < 1000 ∧ -1 ≤ dB ∧ dB < 1000) {m : rz_M} {Q : Int → rz_M → Prop}
    (h : Q 0 (wr m c L (apO L (m a) (m b) (dB + 1).toNat (dA + 1).toNat (m c)))) : rz_C y_RC_addProduct [rR a, rI dA, rR b, rI dB, rR c] m Q := by
  have := l_RC_ap3 hc hcl hL ha hb hac hbc hd h (dA + 1).toNat 0 (by omega) (Nat.zero_le _)
  rw [show apO L (m a) (m b) (dB + 1).toNat 0 (m c) = m c from rfl, wr_self] at this
  exact T_RC_addProduct_0 _ _ _ _ _ _ _ this
theorem l_M_times90 {i k to n mm : Int} (hi : 0 ≤ i ∧ i < 10) (hk : 0 ≤ k ∧ k < 10) (hn : n ≤ 6) (hm : mm ≤ 6) {m : rz_M} {Q : Int → rz_M → Prop} (x : Nat) (hx : (x : Int) ≤ n) (acc : Int → Int)
    (h : rz_E y_M_times 80 [rR 221, rI i, rI k, rI to, rI n, rI mm, rI ((x : Int) + 1), rX 0] [] (wr m 223 13 (apI 13 (rwM m i) (rwM m k) x (mm + 1).toNat acc)) Q) : ∀ (d : Nat) (j : Nat), (mm + 1).toNat - j = d → j ≤ (mm + 1).toNat → rz_E y_M_times 90 [rR 221, rI i, rI k, rI to, rI n, rI mm, rI x, rI j] [] (wr m 223 13 (apI 13 (rwM m i) (rwM m k) x j acc)) Q
  | 0, j, hd', hj => by
    have e : j = (mm + 1).toNat := by omega
    subst e
    refine T_M_times_90 _ _ _ _ _ _ _ _ _ (bt (by omega) ?_)
    rw [w32_id (by omega) (by omega)]
    exact h
  | d + 1, j, hd', hj => by
    refine T_M_times_90 _ _ _ _ _ _ _ _ _ (bf (by omega) ?_)
    rw [w32_id (z := (x : Int) + j) (by omega) (by omega), w32_id (z := 7 * i) (by omega) (by omega), w32_id (z := 7 * i + x) (by omega) (by omega), w32_id (z := 7 * k) (by omega) (by omega), w32_id (z := 7 * k + j) (by omega) (by omega), w32_id (z := (j : Int) + 1) (by omega) (by omega)]
    refine ⟨⟨by omega, by omega⟩, ⟨by omega, by omega⟩, ⟨by omega, by omega⟩, ⟨by omega, by omega⟩, ?_⟩
    rw [wr_ne (x := 222) (by decide), wr_in (by omega) (by omega), wr_up (by omega) (by omega)]
    have e : upf (apI 13 (rwM m i) (rwM m k) x j acc) ((x : Int) + j) (w64 (apI 13 (rwM m i) (rwM m k) x j acc ((x : Int) + j) + w64 (m 222 (7 * i + x) * m 222 (7 * k + j)))) = apI 13 (rwM m i) (rwM m k) x (j + 1) acc := by
      show _ = (if (x : Int) + j < 13 then _ else _)
      rw [if_pos (by omega)]
      rfl
    rw [e]
    exact l_M_times90 hi hk hn hm x hx acc h d (j + 1) (by omega) (by omega)
theorem l_M_times80 {i k to n mm : Int} (hi : 0 ≤ i ∧ i < 10) (hk : 0 ≤ k ∧ k < 10) (hn : -1 ≤ n ∧ n ≤ 6) (hm : -1 ≤ mm ∧ mm ≤ 6) {m : rz_M} {Q : Int → rz_M → Prop}
    (h : rz_C y_M_put [rR 221, rI to] (wr m 223 13 (apO 13 (rwM m i) (rwM m k) (mm + 1).toNat (n + 1).toNat (fun _ => 0))) (fun r1 m1 => Q r1 m1)) : ∀ (d : Nat) (x : Nat), (n + 1).toNat - x = d → x ≤ (n + 1).toNat → rz_E y_M_times 80 [rR 221, rI i, rI k, rI to, rI n, rI mm, rI x, rX 0] [] (wr m 223 13 (apO 13 (rwM m i) (rwM m k) (mm + 1).toNat x (fun _ => 0))) Q
  | 0, x, hd', hx => by
    have e : x = (n + 1).toNat := by omega
    subst e
    exact T_M_times_80 _ _ _ _ _ _ _ _ (bt (by omega) h)
  | d + 1, x, hd', hx => by
    refine T_M_times_80 _ _ _ _ _ _ _ _ (bf (by omega) ?_)
    have := l_M_times90 (to := to) hi hk hn.2 hm.2 (m := m) (Q := Q) x (by omega) (apO 13 (rwM m i) (rwM m k) (mm + 1).toNat x (fun _ => 0)) (by
      have g := l_M_times80 hi hk hn hm h d (x + 1) (by omega) (by omega)
      exact g) (mm + 1).toNat 0 (by omega) (Nat.zero_le _)
    exact this
theorem apI_congr {L L' : Int} {f f' g g' : Int → Int} {i : Int} (hi : f i = f' i) : ∀ (n : Nat) {acc acc' : Int → Int}, (∀ k : Int, 0 ≤ k → k < n → g k = g' k) → (∀ k : Int, 0 ≤ k → k < n → (i + k < L ↔ i + k < L')) → acc = acc' → apI L f g i n acc = apI L' f' g' i n acc'
  | 0, _, _, _, _, e => e
  | n + 1, acc, acc', hg, hl, e => by
    have ih := apI_congr (L := L) (L' := L') (f := f) (f' := f') (i := i) hi n (acc := acc) (acc' := acc') (fun k a b => hg k a (by omega)) (fun k a b => hl k a (by omega)) e
    have h1 := hl n (by omega) (by omega)
    show (if i + (n : Int) < L then _ else _) = (if i + (n : Int) < L' then _ else _)
    rw [ih, hi, hg n (by omega) (by omega)]
    by_cases q : i + (n : Int) < L
    · rw [if_pos q, if_pos (h1.mp q)]
    · rw [if_neg q, if_neg (fun z => q (h1.mpr z))]
theorem apO_congr {L L' : Int} {f f' g g' : Int → Int} {nb : Nat} : ∀ (n : Nat), (∀ k : Int, 0 ≤ k → k < n → f k = f' k) → (∀ k : Int, 0 ≤ k → k < nb → g k = g' k) → (∀ i k : Int, 0 ≤ i → i < n → 0 ≤ k → k < nb → (i + k < L ↔ i + k < L')) → ∀ {acc acc' : Int → Int}, acc = acc' → apO L f g nb n acc = apO L' f' g' nb n acc'
  | 0, _, _, _, _, _, e => e
  | n + 1, hf, hg, hl, acc, acc', e => by
    show apI L f g n nb (apO L f g nb n acc) = apI L' f' g' n nb (apO L' f' g' nb n acc')
    exact apI_congr (hf n (by omega) (by omega)) nb hg (fun k a b => hl n k (by omega) (by omega) a b) (apO_congr n (fun k a b => hf k a (by omega)) hg (fun i k a b c d => hl i k a (by omega) c d) e)
theorem apI_out {L : Int} {f g : Int → Int} {i y : Int} : ∀ (n : Nat) {acc : Int → Int}, ¬ (i ≤ y ∧ y < i + n) → apI L f g i n acc y = acc y
  | 0, _, _ => rfl
  | n + 1, acc, h => by
    show (if i + (n : Int) < L then (_ : Int → Int) else (_ : Int → Int)) y = _
    have ih := apI_out (L := L) (f := f) (g := g) (i := i) (y := y) n (acc := acc) (by omega)
    split
    · unfold upf
      rw [if_neg (by omega)]
      exact ih
    · exact ih
theorem apO_out {L : Int} {f g : Int → Int} {nb : Nat} {y : Int} : ∀ (n : Nat) {acc : Int → Int}, n + nb ≤ y + 1 → apO L f g nb n acc y = acc y
  | 0, _, _ => rfl
  | n + 1, acc, h => by
    show apI L f g n nb (apO L f g nb n acc) y = acc y
    rw [apI_out nb (by omega)]
    exact apO_out n (by omega)
theorem p_times (i k to : Int) (m : rz_M) (hI : Inv m) : pairOK y_RC_times y_M_times [rI i, rI k, rI to] m := by
  have bad : ¬ ((0 ≤ i ∧ i < 10) ∧ (0 ≤ k ∧ k < 10) ∧ (0 ≤ to ∧ to < 10)) → rz_C y_RC_refuse [rR 0, rI (-1)] m (fun r1 m1 => rz_C y_M_times [rR 221, rI i, rI k, rI to] m1 (fun r2 m2 => r1 = r2 ∧ Inv m2 ∧ m2 400 = m 400)) := by
    intro hn
    refine c_RC_refuse ?_
    have fin : rz_C y_M_said [rR 221, rI (-1)] (rz_up (rz_up m 0 10 (-1)) 221 0 0) (fun r2 m2 => -1 = r2 ∧ Inv m2 ∧ m2 400 = m 400) := c_M_said ⟨rfl, fin_bad hI (midC_rf m) (midM_thr _ 0)⟩
    exact T_M_times_0 _ _ _ _ _ (c_M_isRow (fun a b => b1t (c_M_isRow (fun c d => b1t (c_M_isRow (fun e f => absurd ⟨⟨a, b⟩, ⟨c, d⟩, e, f⟩ hn) (fun _ => b0n fin))) (fun _ => b0t fin))) (fun _ => b0t fin))
  refine T_RC_times_0 _ _ _ _ _ (c_RC_isRow (fun i1 i2 => b1t (c_RC_isRow (fun k1 k2 => b1t (c_RC_isRow (fun t1 t2 => b1n ⟨⟨i1, i2⟩, c_RC_degreeOf (isL_row ⟨i1, i2⟩) ⟨⟨k1, k2⟩, c_RC_degreeOf (isL_row ⟨k1, k2⟩) (c_RC_clear (by decide) rfl (by decide) ?_)⟩⟩) (fun q => b0n (bad (fun z => q z.2.2))))) (fun q => b0t (bad (fun z => q z.2.1))))) (fun q => b0t (bad (fun z => q z.1))))
  have hi := And.intro i1 i2
  have hk := And.intro k1 k2
  have ht := And.intro t1 t2
  have hri : rz_R 1 i = 2 + i.toNat := rfl
  have hrk : rz_R 1 k = 2 + k.toNat := rfl
  have hrt : rz_R 1 to = 2 + to.toNat := rfl
  have ri := dg_rng (m (rz_R 1 i))
  have rk := dg_rng (m (rz_R 1 k))
  have ei := dg_eq hI hi
  have ek := dg_eq hI hk
  generalize hnE : dg (m (rz_R 1 i)) = n at ri ei ⊢
  generalize hmE : dg (m (rz_R 1 k)) = mm at rk ek ⊢
  have eM : ∀ (m1 : rz_M) (r : Int), m1 222 = m 222 → rwM (rz_up m1 221 0 0) r = rwM m r := fun m1 r hm => by unfold rwM; rw [up_ne (by decide), hm]
  have eM2 : ∀ (m1 : rz_M) (r : Int), m1 222 = m 222 → rwM (wr (rz_up m1 221 0 0) 223 13 (fun _ => 0)) r = rwM m r := fun m1 r hm => by unfold rwM; rw [wr_ne (by decide), up_ne (by decide), hm]
  -- the reference behind its three rows
  have mod0 : ∀ (m1 : rz_M) (Q : Int → rz_M → Prop), m1 222 = m 222 → (((n < 0) → rz_E y_M_times 80 [rR 221, rI i, rI k, rI to, rI n, rI mm, rI 0, rX 0] [] (wr (rz_up m1 221 0 0) 223 13 (fun _ => 0)) Q) ∧ (¬ (n < 0) → (((mm < 0) → rz_E y_M_times 80 [rR 221, rI i, rI k, rI to, rI n, rI mm, rI 0, rX 0] [] (wr (rz_up m1 221 0 0) 223 13 (fun _ => 0)) Q) ∧ (¬ (mm < 0) → ((((w32 (n + mm)) ≤ 6) → rz_E y_M_times 80 [rR 221, rI i, rI k, rI to, rI n, rI mm, rI 0, rX 0] [] (wr (rz_up m1 221 0 0) 223 13 (fun _ => 0)) Q) ∧ (¬ ((w32 (n + mm)) ≤ 6) → rz_C y_M_said [rR 221, rI (-3)] (wr (rz_up m1 221 0 0) 223 13 (fun _ => 0)) (fun r9 m9 => Q r9 m9)))))) ) → rz_C y_M_times [rR 221, rI i, rI k, rI to] m1 Q := by
    intro m1 Q hm hq
    refine T_M_times_0 _ _ _ _ _ (c_M_isRow (fun _ _ => b1t (c_M_isRow (fun _ _ => b1t (c_M_isRow (fun _ _ => b1n (c_M_degreeOf hi (c_M_degreeOf hk (c_M_clear ?_)))) (fun z => absurd ht z))) (fun z => absurd hk z))) (fun z => absurd hi z))
    rw [eM m1 i hm, eM m1 k hm, ← ei, ← ek]
    exact hq
  have mod : ∀ (m1 : rz_M) (Q : Int → rz_M → Prop), m1 222 = m 222 → (n < 0 ∨ mm < 0 ∨ n + mm ≤ 6) → rz_C y_M_put [rR 221, rI to] (wr (rz_up m1 221 0 0) 223 13 (apO 13 (rwM m i) (rwM m k) (mm + 1).toNat (n + 1).toNat (fun _ => 0))) Q → rz_C y_M_times [rR 221, rI i, rI k, rI to] m1 Q := by
    intro m1 Q hm hc hp
    have go : rz_E y_M_times 80 [rR 221, rI i, rI k, rI to, rI n, rI mm, rI 0, rX 0] [] (wr (rz_up m1 221 0 0) 223 13 (fun _ => 0)) Q := by
      have := l_M_times80 (to := to) (n := n) (mm := mm) hi hk ri rk (m := wr (rz_up m1 221 0 0) 223 13 (fun _ => 0)) (Q := Q) (by rw [eM2 m1 i hm, eM2 m1 k hm, wr_wr]; exact hp) (n + 1).toNat 0 (by omega) (Nat.zero_le _)
      rw [show apO 13 (rwM (wr (rz_up m1 221 0 0) 223 13 (fun _ => 0)) i) (rwM (wr (rz_up m1 221 0 0) 223 13 (fun _ => 0)) k) (mm + 1).toNat 0 (fun _ => 0) = (fun _ => 0) from rfl, wr_wr] at this
      exact this
    refine mod0 m1 Q hm (bb (fun _ => go) (fun q1 => bb (fun _ => go) (fun q2 => ?_)))
    rw [w32_id (by omega) (by omega)]
    exact bt (by omega) go
  -- what both have made
  have same : (n < 0 ∨ mm < 0 ∨ n + mm ≤ 6) → apO 7 (m (rz_R 1 i)) (m (rz_R 1 k)) (mm + 1).toNat (n + 1).toNat (fun _ => 0) = apO 13 (rwM m i) (rwM m k) (mm + 1).toNat (n + 1).toNat (fun _ => 0) := by
    intro hc
    refine apO_congr _ (fun q a b => row_eq hI hi ⟨a, by omega⟩) (fun q a b => row_eq hI hk ⟨a, by omega⟩) (fun x y a b c d => by omega) rfl
  have hz : (n < 0 ∨ mm < 0 ∨ n + mm ≤ 6) → ∀ (m1 : rz_M) (j : Int), 7 ≤ j → j < 13 → wr (rz_up m1 221 0 0) 223 13 (apO 13 (rwM m i) (rwM m k) (mm + 1).toNat (n + 1).toNat (fun _ => 0)) 223 j = 0 := by
    intro hc m1 j a b
    rw [wr_in (by omega) b]
    by_cases q : n < 0
    · rw [show (n + 1).toNat = 0 from by omega]; rfl
    · by_cases q2 : mm < 0
      · rw [show (mm + 1).toNat = 0 from by omega, apO_out _ (by omega)]
      · rw [apO_out _ (by omega)]
  have fin : ∀ M1 : rz_M, midC m M1 → (n < 0 ∨ mm < 0 ∨ n + mm ≤ 6) → (∀ j : Int, 0 ≤ j → j < 7 → M1 12 j = apO 13 (rwM m i) (rwM m k) (mm + 1).toNat (n + 1).toNat (fun _ => 0) j) → rz_E y_RC_times 106 [rR 0, rX 0, rX 0, rI to, rX 0, rX 0] [] M1 (fun r1 m1 => rz_C y_M_times [rR 221, rI i, rI k, rI to] m1 (fun r2 m2 => r1 = r2 ∧ Inv m2 ∧ m2 400 = m 400)) := by
    intro M1 hmid hc hM
    have hg : ∀ (m1 : rz_M) (j : Int), 0 ≤ j → j < 7 → wr (rz_up m1 221 0 0) 223 13 (apO 13 (rwM m i) (rwM m k) (mm + 1).toNat (n + 1).toNat (fun _ => 0)) 223 j = M1 12 j := fun m1 j a b => by
      rw [wr_in a (by omega), hM j a b]
    refine T_RC_times_106 _ _ _ (c_RC_keepMade ht (fun hf => mod _ _ ?_ hc ?_) (fun hf => mod _ _ ?_ hc ?_))
    · rw [up_ne (by decide), wr_ne (by omega), hmid _ (by decide)]
    · exact (put_of ht hI hmid (hz hc _) (hg _)).1 hf (midM_made (midM_thr _ 0) 13 _)
    · rw [up_ne (by decide), hmid _ (by decide)]
    · exact (put_of ht hI hmid (hz hc _) (hg _)).2 hf (midM_made (midM_thr _ 0) 13 _)
  have zero : n < 0 ∨ mm < 0 → ∀ j : Int, 0 ≤ j → j < 7 → wr m 12 7 (fun _ => 0) 12 j = apO 13 (rwM m i) (rwM m k) (mm + 1).toNat (n + 1).toNat (fun _ => 0) j := by
    intro hc j a b
    rw [wr_in a b]
    by_cases q : n < 0
    · rw [show (n + 1).toNat = 0 from by omega]; rfl
    · have q2 : (mm + 1).toNat = 0 := by omega
      rw [q2]
      have : ∀ x : Nat, apO 13 (rwM m i) (rwM m k) 0 x (fun _ => 0) = fun _ => 0 := by
        intro x
        induction x with
        | zero => rfl
        | succ x ih => exact ih
      rw [this]
  have hmid0 := midC_made (midC_rf m) 7 (fun _ => 0)
  refine bb (fun q => fin _ hmid0 (Or.inl q) (zero (Or.inl q))) (fun q => bb (fun q2 => fin _ hmid0 (Or.inr (Or.inl q2)) (zero (Or.inr q2))) (fun q2 => ?_))
  rw [w32_id (by omega) (by omega)]
  refine bb (fun q3 => ⟨⟨hi.1, hi.2⟩, ⟨hk.1, hk.2⟩, ?_⟩) (fun q3 => c_RC_refuse (mod0 _ _ ?_ (bf q (bf q2 ?_))))
  · have li := isL_row hi
    have lk := isL_row hk
    refine c_RC_addProduct (L := 7) (by decide) rfl (by decide) ⟨li.1, by have := li.2; omega⟩ ⟨lk.1, by have := lk.2; omega⟩ (by omega) (by omega) (by omega) ?_
    rw [wr_ne (x := rz_R 1 i) (by omega), wr_ne (x := rz_R 1 k) (by omega)]
    refine fin _ (midC_made hmid0 7 _) (Or.inr (Or.inr q3)) (fun j a b => ?_)
    rw [wr_in a b, ← same (Or.inr (Or.inr q3))]
    -- the start is nought below 7; places from 7 on are not reached
    have e : ∀ (x : Nat) (acc acc' : Int → Int), (∀ y : Int, 0 ≤ y → y < 7 → acc y = acc' y) → ∀ y : Int, 0 ≤ y → y < 7 → apO 7 (m (rz_R 1 i)) (m (rz_R 1 k)) (mm + 1).toNat x acc y = apO 7 (m (rz_R 1 i)) (m (rz_R 1 k)) (mm + 1).toNat x acc' y := by
      have eI : ∀ (v : Nat) (x : Nat) (acc acc' : Int → Int), (∀ y : Int, 0 ≤ y → y < 7 → acc y = acc' y) → ∀ y : Int, 0 ≤ y → y < 7 → apI 7 (m (rz_R 1 i)) (m (rz_R 1 k)) x v acc y = apI 7 (m (rz_R 1 i)) (m (rz_R 1 k)) x v acc' y := by
        intro v
        induction v with
        | zero => exact fun x acc acc' h => h
        | succ v ih =>
          intro x acc acc' h y y0 y1
          show (if (x : Int) + v < 7 then (_ : Int → Int) else (_ : Int → Int)) y = (if (x : Int) + v < 7 then (_ : Int → Int) else (_ : Int → Int)) y
          by_cases z : (x : Int) + v < 7
          · rw [if_pos z, if_pos z]
            unfold upf
            by_cases z2 : y = (x : Int) + v
            · rw [if_pos z2, if_pos z2, ih x acc acc' h _ (by omega) z]
            · rw [if_neg z2, if_neg z2]; exact ih x acc acc' h y y0 y1
          · rw [if_neg z, if_neg z]; exact ih x acc acc' h y y0 y1
      intro x
      induction x with
      | zero => exact fun acc acc' h => h
      | succ x ih => exact fun acc acc' h => eI _ x _ _ (ih acc acc' h)
    exact e _ _ _ (fun y a b => wr_in a b) j a b
  · rw [up_ne (by decide), wr_ne (by decide)]
  · rw [w32_id (by omega) (by omega)]
    exact bf q3 (c_M_said ⟨rfl, fin_bad hI hmid0 (midM_made (midM_thr _ 0) 13 _)⟩)
