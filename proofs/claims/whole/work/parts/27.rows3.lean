/-! both sides alike: derive, turn, times -/
def drv (f : Int → Int) : Int → Int := fun k => if k < 6 then w64 ((k + 1) * f (k + 1)) else 0
theorem l_RC_derive {a b : Nat} (ha : isL a 7) (hb : isL b 7) (hab : a ≠ b) {m : rz_M} {Q : Int → rz_M → Prop} (h : Q 0 (wr m b 7 (drv (m a)))) : ∀ (d : Nat) (j : Int), 7 - j = d → 1 ≤ j → rz_E y_RC_deriveInto 2 [rR a, rR b, rI j] [] (wr m b (j - 1) (drv (m a))) Q
  | 0, j, hd, hj => by
    have e : j = 7 := by omega
    subst e
    refine T_RC_deriveInto_2 _ _ _ _ _ (bt (by omega) ⟨hb.1, ⟨by decide, by have := hb.2; omega⟩, ?_⟩)
    rw [show (7 : Int) - 1 = 6 from rfl, wr_succ (by decide) (by unfold drv; rw [if_neg (by decide)])]
    exact h
  | d + 1, j, hd, hj => by
    refine T_RC_deriveInto_2 _ _ _ _ _ (bf (by omega) ⟨ha.1, ⟨by omega, by have := ha.2; omega⟩, hb.1, ?_⟩)
    rw [w32_id (z := j - 1) (by omega) (by omega), w32_id (z := j + 1) (by omega) (by omega), wr_ne hab, wr_succ (by omega) (by unfold drv; rw [if_pos (by omega), show j - 1 + 1 = j from by omega])]
    refine ⟨⟨by omega, by have := hb.2; omega⟩, ?_⟩
    have := l_RC_derive ha hb hab h d (j + 1) (by omega) (by omega)
    rw [show j + 1 - 1 = j - 1 + 1 from by omega] at this
    exact this
theorem c_RC_deriveInto {a b : Nat} (ha : isL a 7) (hb : isL b 7) (hab : a ≠ b) {m : rz_M} {Q : Int → rz_M → Prop} (h : Q 0 (wr m b 7 (drv (m a)))) : rz_C y_RC_deriveInto [rR a, rR b] m Q := by
  have := l_RC_derive ha hb hab h 6 1 (by omega) (by omega)
  rw [show (1 : Int) - 1 = 0 from rfl, wr_0] at this
  exact T_RC_deriveInto_0 _ _ _ _ this
theorem l_M_derive {i to : Int} (hi : 0 ≤ i ∧ i < 10) {m : rz_M} {Q : Int → rz_M → Prop} (h : rz_C y_M_put [rR 221, rI to] (wr m 223 6 (drv (rwM m i))) (fun r1 m1 => Q r1 m1)) : ∀ (d : Nat) (j : Int), 7 - j = d → 1 ≤ j → rz_E y_M_derive 31 [rR 221, rI i, rI to, rI j] [] (wr m 223 (j - 1) (drv (rwM m i))) Q
  | 0, j, hd, hj => by
    have e : j = 7 := by omega
    subst e
    exact T_M_derive_31 _ _ _ _ _ (bt (by omega) h)
  | d + 1, j, hd, hj => by
    refine T_M_derive_31 _ _ _ _ _ (bf (by omega) ?_)
    rw [w32_id (z := 7 * i) (by omega) (by omega), w32_id (z := 7 * i + j) (by omega) (by omega), w32_id (z := j - 1) (by omega) (by omega), w32_id (z := j + 1) (by omega) (by omega), wr_ne (by decide), wr_succ (by omega) (by unfold drv rwM; rw [if_pos (by omega), show j - 1 + 1 = j from by omega])]
    refine ⟨⟨by omega, by omega⟩, ⟨by omega, by omega⟩, ?_⟩
    have := l_M_derive hi h d (j + 1) (by omega) (by omega)
    rw [show j + 1 - 1 = j - 1 + 1 from by omega] at this
    exact this
theorem made_z (m1 : rz_M) (n : Int) (hn : n ≤ 7) (g : Int → Int) (j : Int) (a : 7 ≤ j) (b : j < 13) : wr (wr (rz_up m1 221 0 0) 223 13 (fun _ => 0)) 223 n g 223 j = 0 := by
  rw [wr_out (by omega), wr_in (by omega) b]
theorem row222 {m : rz_M} {to : Int} {g : Int → Int} {n z : Int} (h : (0 : Int) ≤ to) : rz_up (wr (wr m 12 n g) (rz_R 1 to) 7 (wr m 12 n g 12)) 0 10 z 222 = wr m 12 n g 222 ∨ to ≥ 200 := by
  by_cases q : to < 200
  · have hr : rz_R 1 to = 2 + to.toNat := rfl
    exact Or.inl (by rw [up_ne (by decide), wr_ne (by omega)])
  · exact Or.inr (by omega)
theorem p_derive (i to : Int) (m : rz_M) (hI : Inv m) : pairOK y_RC_derive y_M_derive [rI i, rI to] m := by
  have bad : ¬ ((0 ≤ i ∧ i < 10) ∧ (0 ≤ to ∧ to < 10)) → rz_C y_RC_refuse [rR 0, rI (-1)] m (fun r1 m1 => rz_C y_M_derive [rR 221, rI i, rI to] m1 (fun r2 m2 => r1 = r2 ∧ Inv m2 ∧ m2 400 = m 400)) := by
    intro hn
    refine c_RC_refuse ?_
    have fin : rz_C y_M_said [rR 221, rI (-1)] (rz_up (rz_up m 0 10 (-1)) 221 0 0) (fun r2 m2 => -1 = r2 ∧ Inv m2 ∧ m2 400 = m 400) := c_M_said ⟨rfl, fin_bad hI (midC_rf m) (midM_thr _ 0)⟩
    exact T_M_derive_0 _ _ _ _ (c_M_isRow (fun a b => b1t (c_M_isRow (fun e f => absurd ⟨⟨a, b⟩, e, f⟩ hn) (fun _ => b0n fin))) (fun _ => b0t fin))
  refine T_RC_derive_0 _ _ _ _ (c_RC_isRow (fun i1 i2 => b1t (c_RC_isRow (fun t1 t2 => b1n ⟨⟨i1, i2⟩, c_RC_deriveInto (isL_row ⟨i1, i2⟩) isL_12 (by have hr : rz_R 1 i = 2 + i.toNat := rfl; omega) ?_⟩) (fun q => b0n (bad (fun z => q z.2))))) (fun q => b0t (bad (fun z => q z.1))))
  have hi := And.intro i1 i2
  have ht := And.intro t1 t2
  have hmid := midC_made (midC_rf m) 7 (drv (m (rz_R 1 i)))
  have mod : ∀ (m1 : rz_M) (Q : Int → rz_M → Prop), m1 222 = m 222 → rz_C y_M_put [rR 221, rI to] (wr (wr (rz_up m1 221 0 0) 223 13 (fun _ => 0)) 223 6 (drv (rwM m i))) Q → rz_C y_M_derive [rR 221, rI i, rI to] m1 Q := by
    intro m1 Q hm hp
    refine T_M_derive_0 _ _ _ _ (c_M_isRow (fun _ _ => b1t (c_M_isRow (fun _ _ => b1n (c_M_clear ?_)) (fun z => absurd ht z))) (fun z => absurd hi z))
    have e : rwM (wr (rz_up m1 221 0 0) 223 13 (fun _ => 0)) i = rwM m i := by
      unfold rwM
      rw [wr_ne (by decide), up_ne (by decide), hm]
    have := l_M_derive (to := to) hi (m := wr (rz_up m1 221 0 0) 223 13 (fun _ => 0)) (Q := Q) (by rw [e]; exact hp) 6 1 (by omega) (by omega)
    rw [show (1 : Int) - 1 = 0 from rfl, wr_0] at this
    exact this
  have hg : ∀ (m1 : rz_M) (j : Int), 0 ≤ j → j < 7 → wr (wr (rz_up m1 221 0 0) 223 13 (fun _ => 0)) 223 6 (drv (rwM m i)) 223 j = wr m 12 7 (drv (m (rz_R 1 i))) 12 j := fun m1 j a b => by
    rw [wr_in a b]
    by_cases q : j < 6
    · rw [wr_in a q]
      unfold drv
      rw [if_pos q, if_pos q, row_eq hI hi ⟨by omega, by omega⟩]
      rfl
    · rw [wr_out (by omega), wr_in a (by omega)]
      unfold drv
      rw [if_neg q]
  have hr : rz_R 1 to = 2 + to.toNat := rfl
  refine c_RC_keepMade ht (fun hf => mod _ _ ?_ ?_) (fun hf => mod _ _ ?_ ?_)
  · rw [up_ne (by decide), wr_ne (by omega), wr_ne (by decide)]
  · exact (put_of ht hI hmid (made_z _ 6 (by decide) _) (hg _)).1 hf (midM_made (midM_made (midM_thr _ 0) 13 _) 6 _)
  · rw [up_ne (by decide), wr_ne (by decide)]
  · exact (put_of ht hI hmid (made_z _ 6 (by decide) _) (hg _)).2 hf (midM_made (midM_made (midM_thr _ 0) 13 _) 6 _)
theorem l_RC_turn {i to n : Int} (hi : 0 ≤ i ∧ i < 10) (hn : 0 ≤ n ∧ n ≤ 6) {m : rz_M} {Q : Int → rz_M → Prop} (h : rz_C y_RC_keepMade [rR 0, rI to] (wr m 12 (n + 1) (fun j => m (rz_R 1 i) (n - j))) (fun r1 m1 => Q r1 m1)) : ∀ (d : Nat) (j : Int), n + 1 - j = d → 0 ≤ j → rz_E y_RC_turn 51 [rR 0, rI i, rI to, rI n, rI j] [] (wr m 12 j (fun j => m (rz_R 1 i) (n - j))) Q
  | 0, j, hd, hj => by
    have e : j = n + 1 := by omega
    subst e
    exact T_RC_turn_51 _ _ _ _ _ _ (bt (by omega) h)
  | d + 1, j, hd, hj => by
    have ri : rz_R 1 i = 2 + i.toNat := rfl
    refine T_RC_turn_51 _ _ _ _ _ _ (bf (by omega) ⟨⟨hi.1, hi.2⟩, (isL_row hi).1, ?_⟩)
    rw [w32_id (z := n - j) (by omega) (by omega), w32_id (z := j + 1) (by omega) (by omega), wr_ne (by omega), wr_succ hj rfl]
    exact ⟨⟨by omega, by rw [len_row hi]; omega⟩, ⟨hj, by omega⟩, l_RC_turn hi hn h d (j + 1) (by omega) (by omega)⟩
/-- the reference's turned row, as far as it is written -/
def trn (f : Int → Int) (n low k : Int) : Int → Int := fun y => if n - k < y ∧ y ≤ n - low then f (n - y) else 0
theorem l_M_turn76 {i to n low : Int} (hi : 0 ≤ i ∧ i < 10) (hn : n ≤ 6) (hl : 0 ≤ low) {m : rz_M} {Q : Int → rz_M → Prop} (h : rz_C y_M_put [rR 221, rI to] (wr m 223 13 (trn (rwM m i) n low (n + 1))) (fun r1 m1 => Q r1 m1)) : ∀ (d : Nat) (k : Int), n + 1 - k = d → low ≤ k → rz_E y_M_turn 76 [rR 221, rI i, rI to, rI n, rX 0, rI k] [] (wr m 223 13 (trn (rwM m i) n low k)) Q
  | 0, k, hd, hk => by
    have e : k = n + 1 := by omega
    subst e
    exact T_M_turn_76 _ _ _ _ _ _ (bt (by omega) h)
  | d + 1, k, hd, hk => by
    refine T_M_turn_76 _ _ _ _ _ _ (bf (by omega) ?_)
    rw [w32_id (z := 7 * i) (by omega) (by omega), w32_id (z := 7 * i + k) (by omega) (by omega), w32_id (z := n - k) (by omega) (by omega), w32_id (z := k + 1) (by omega) (by omega), wr_ne (by decide), wr_up (by omega) (by omega)]
    have e : upf (trn (rwM m i) n low k) (n - k) (m 222 (7 * i + k)) = trn (rwM m i) n low (k + 1) := by
      funext y
      unfold upf trn
      by_cases q : y = n - k
      · subst q
        rw [if_pos rfl, if_pos ⟨by omega, by omega⟩, show n - (n - k) = k from by omega]
        rfl
      · rw [if_neg q]
        by_cases q2 : n - k < y ∧ y ≤ n - low
        · rw [if_pos q2, if_pos ⟨by omega, q2.2⟩]
        · rw [if_neg q2, if_neg (fun z => q2 ⟨by omega, z.2⟩)]
    rw [e]
    exact ⟨⟨by omega, by omega⟩, ⟨by omega, by omega⟩, l_M_turn76 hi hn hl h d (k + 1) (by omega) (by omega)⟩
theorem l_M_turn45 {i to n : Int} (hi : 0 ≤ i ∧ i < 10) (hn : 0 ≤ n ∧ n ≤ 6) {m : rz_M} (hnz : rwM m i n ≠ 0) {Q : Int → rz_M → Prop} (h : ∀ low : Int, 0 ≤ low → low ≤ n → (∀ k : Int, 0 ≤ k → k < low → rwM m i k = 0) → rz_C y_M_put [rR 221, rI to] (wr m 223 13 (trn (rwM m i) n low (n + 1))) (fun r1 m1 => Q r1 m1)) : ∀ (d : Nat) (low : Int), n - low = d → 0 ≤ low → (∀ k : Int, 0 ≤ k → k < low → rwM m i k = 0) → rz_E y_M_turn 45 [rR 221, rI i, rI to, rI n, rI low, rX 0] [] m Q := by
  have stop : ∀ low : Int, 0 ≤ low → low ≤ n → (∀ k : Int, 0 ≤ k → k < low → rwM m i k = 0) → rz_C y_M_clear [rR 221] m (fun r1 m1 => rz_E y_M_turn 76 [rR 221, rI i, rI to, rI n, rX 0, rI low] [] m1 Q) := by
    intro low l0 ln hz
    refine c_M_clear ?_
    have e : rwM (wr m 223 13 (fun _ => 0)) i = rwM m i := by unfold rwM; rw [wr_ne (by decide)]
    have := l_M_turn76 (to := to) (n := n) (low := low) hi hn.2 l0 (m := wr m 223 13 (fun _ => 0)) (Q := Q) (by rw [e, wr_wr]; exact h low l0 ln hz) (n + 1 - low).toNat low (by omega) (Int.le_refl _)
    rw [e, wr_wr] at this
    have e2 : wr m 223 13 (trn (rwM m i) n low low) = wr m 223 13 (fun _ => 0) := by
      refine wr_congr (fun y _ _ => ?_)
      unfold trn
      rw [if_neg (by omega)]
    rw [e2] at this
    exact this
  intro d
  induction d with
  | zero =>
    intro low hd hl hz
    have e : low = n := by omega
    subst e
    refine T_M_turn_45 _ _ _ _ _ _ ?_
    rw [w32_id (z := 7 * i) (by omega) (by omega), w32_id (z := 7 * i + low) (by omega) (by omega)]
    exact ⟨⟨by omega, by omega⟩, bt hnz (stop low hl (Int.le_refl _) hz)⟩
  | succ d ih =>
    intro low hd hl hz
    refine T_M_turn_45 _ _ _ _ _ _ ?_
    rw [w32_id (z := 7 * i) (by omega) (by omega), w32_id (z := 7 * i + low) (by omega) (by omega), w32_id (z := low + 1) (by omega) (by omega)]
    refine ⟨⟨by omega, by omega⟩, bb (fun q => stop low hl (by omega) hz) (fun q => ih (low + 1) (by omega) (by omega) (fun k a b => ?_))⟩
    by_cases e : k = low
    · subst e; exact Decidable.of_not_not q
    · exact hz k a (by omega)
theorem p_turn (i to : Int) (m : rz_M) (hI : Inv m) : pairOK y_RC_turn y_M_turn [rI i, rI to] m := by
  have bad : ¬ ((0 ≤ i ∧ i < 10) ∧ (0 ≤ to ∧ to < 10)) → rz_C y_RC_refuse [rR 0, rI (-1)] m (fun r1 m1 => rz_C y_M_turn [rR 221, rI i, rI to] m1 (fun r2 m2 => r1 = r2 ∧ Inv m2 ∧ m2 400 = m 400)) := by
    intro hn
    refine c_RC_refuse ?_
    have fin : rz_C y_M_said [rR 221, rI (-1)] (rz_up (rz_up m 0 10 (-1)) 221 0 0) (fun r2 m2 => -1 = r2 ∧ Inv m2 ∧ m2 400 = m 400) := c_M_said ⟨rfl, fin_bad hI (midC_rf m) (midM_thr _ 0)⟩
    exact T_M_turn_0 _ _ _ _ (c_M_isRow (fun a b => b1t (c_M_isRow (fun e f => absurd ⟨⟨a, b⟩, e, f⟩ hn) (fun _ => b0n fin))) (fun _ => b0t fin))
  refine T_RC_turn_0 _ _ _ _ (c_RC_isRow (fun i1 i2 => b1t (c_RC_isRow (fun t1 t2 => b1n ⟨⟨i1, i2⟩, c_RC_degreeOf (isL_row ⟨i1, i2⟩) ?_⟩) (fun q => b0n (bad (fun z => q z.2))))) (fun q => b0t (bad (fun z => q z.1))))
  have hi := And.intro i1 i2
  have ht := And.intro t1 t2
  have hr := dg_rng (m (rz_R 1 i))
  have hri : rz_R 1 i = 2 + i.toNat := rfl
  have hrt : rz_R 1 to = 2 + to.toNat := rfl
  have eM : ∀ m1 : rz_M, m1 222 = m 222 → rwM (rz_up m1 221 0 0) i = rwM m i := fun m1 hm => by unfold rwM; rw [up_ne (by decide), hm]
  have ed := dg_eq hI hi
  refine bb (fun h0 => ?_) (fun h0 => c_RC_refuse ?_)
  · have hnz : rwM m i (dg (m (rz_R 1 i))) ≠ 0 := by rw [ed]; rw [ed] at h0; exact dgk_nz _ _ h0
    generalize hnE : dg (m (rz_R 1 i)) = n at h0 hr hnz ed ⊢
    refine c_RC_clear (by decide) rfl (by decide) ?_
    have mod : ∀ (m1 : rz_M) (Q : Int → rz_M → Prop), m1 222 = m 222 → (∀ low : Int, 0 ≤ low → low ≤ n → (∀ k : Int, 0 ≤ k → k < low → rwM m i k = 0) → rz_C y_M_put [rR 221, rI to] (wr (rz_up m1 221 0 0) 223 13 (trn (rwM m i) n low (n + 1))) Q) → rz_C y_M_turn [rR 221, rI i, rI to] m1 Q := by
      intro m1 Q hm hp
      refine T_M_turn_0 _ _ _ _ (c_M_isRow (fun _ _ => b1t (c_M_isRow (fun _ _ => b1n (c_M_degreeOf hi ?_)) (fun z => absurd ht z))) (fun z => absurd hi z))
      have e := eM m1 hm
      rw [e, ← ed]
      exact bt h0 (l_M_turn45 hi ⟨h0, hr.2⟩ (by rw [e]; exact hnz) (fun low a b c => by rw [e] at c ⊢; exact hp low a b c) n.toNat 0 (by omega) (Int.le_refl _) (fun k a b => by omega))
    have hmid := midC_made (midC_made (midC_rf m) 7 (fun _ => 0)) (n + 1) (fun j => m (rz_R 1 i) (n - j))
    have hg : ∀ (m1 : rz_M) (low j : Int), 0 ≤ low → low ≤ n → (∀ k : Int, 0 ≤ k → k < low → rwM m i k = 0) → 0 ≤ j → j < 7 → wr (rz_up m1 221 0 0) 223 13 (trn (rwM m i) n low (n + 1)) 223 j = wr (wr m 12 7 (fun _ => 0)) 12 (n + 1) (fun j => m (rz_R 1 i) (n - j)) 12 j := by
      intro m1 low j l0 ln hz a b
      rw [wr_in a (by omega)]
      unfold trn
      by_cases q : j ≤ n
      · rw [wr_in a (by omega)]
        rw [row_eq hI hi ⟨by omega, by omega⟩]
        by_cases q2 : j ≤ n - low
        · rw [if_pos ⟨by omega, q2⟩]; rfl
        · rw [if_neg (fun z => q2 z.2)]
          exact (hz (n - j) (by omega) (by omega)).symm
      · rw [wr_out (by omega), wr_in a b, if_neg (by omega)]
    have hz : ∀ (m1 : rz_M) (low j : Int), 0 ≤ low → 7 ≤ j → j < 13 → wr (rz_up m1 221 0 0) 223 13 (trn (rwM m i) n low (n + 1)) 223 j = 0 := by
      intro m1 low j l0 a b
      rw [wr_in (by omega) b]
      unfold trn
      rw [if_neg (by omega)]
    have hl := l_RC_turn (to := to) (n := n) hi ⟨h0, hr.2⟩ (m := wr m 12 7 (fun _ => 0)) (Q := fun r1 m1 => rz_C y_M_turn [rR 221, rI i, rI to] m1 (fun r2 m2 => r1 = r2 ∧ Inv m2 ∧ m2 400 = m 400)) ?_ (n + 1).toNat 0 (by omega) (by omega)
    · rw [wr_0] at hl
      exact hl
    · rw [wr_ne (x := rz_R 1 i) (by omega)]
      refine c_RC_keepMade ht (fun hf => mod _ _ ?_ (fun low a b c => ?_)) (fun hf => mod _ _ ?_ (fun low a b c => ?_))
      · rw [up_ne (by decide), wr_ne (by omega), wr_ne (by decide), wr_ne (by decide)]
      · exact (put_of ht hI hmid (fun j x y => hz _ low j a x y) (fun j x y => hg _ low j a b c x y)).1 hf (midM_made (midM_thr _ 0) 13 _)
      · rw [up_ne (by decide), wr_ne (by decide), wr_ne (by decide)]
      · exact (put_of ht hI hmid (fun j x y => hz _ low j a x y) (fun j x y => hg _ low j a b c x y)).2 hf (midM_made (midM_thr _ 0) 13 _)
  · refine T_M_turn_0 _ _ _ _ (c_M_isRow (fun _ _ => b1t (c_M_isRow (fun _ _ => b1n (c_M_degreeOf hi ?_)) (fun z => absurd ht z))) (fun z => absurd hi z))
    rw [eM _ (up_ne (by decide)), ← ed]
    exact bf h0 (c_M_said ⟨rfl, fin_bad hI (midC_rf m) (midM_thr _ 0)⟩)
