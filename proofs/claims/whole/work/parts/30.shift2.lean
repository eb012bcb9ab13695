/-! both sides alike: shift, walked -/
theorem l_RC_sh55 {a to : Int} (ha : -20 ≤ a ∧ a ≤ 20) {low : Nat} (hl : low ≤ 5) {m : rz_M} {c : Int → Int} {Q : Int → rz_M → Prop}
    (h : rz_E y_RC_shift 45 [rR 0, rX 0, rI a, rI to, rI ((low : Int) + 1), rX 0] [] (wr m 12 7 (ouC a (low + 1) c)) Q) : ∀ (d n : Nat), 6 - low - n = d → n ≤ 6 - low → rz_E y_RC_shift 55 [rR 0, rX 0, rI a, rI to, rI low, rI (5 - (n : Int))] [] (wr m 12 7 (inC a n (ouC a low c))) Q
  | 0, n, hd, hn => by
    have e : n = 6 - low := by omega
    subst e
    refine T_RC_shift_55 _ _ _ _ _ _ (bt (by omega) ?_)
    rw [w32_id (by omega) (by omega)]
    exact h
  | d + 1, n, hd, hn => by
    refine T_RC_shift_55 _ _ _ _ _ _ (bf (by omega) ?_)
    rw [w32_id (z := 5 - (n : Int) + 1) (by omega) (by omega), w32_id (z := 5 - (n : Int) + -1) (by omega) (by omega)]
    refine ⟨⟨by omega, by omega⟩, ⟨by omega, by omega⟩, ⟨by omega, by omega⟩, ?_⟩
    rw [wr_in (by omega) (by omega), wr_in (y := 5 - (n : Int) + 1) (by omega) (by omega), wr_up (by omega) (by omega)]
    have := l_RC_sh55 ha hl h d (n + 1) (by omega) (by omega)
    rw [show 5 - ((n + 1 : Nat) : Int) = 5 - (n : Int) + -1 from by omega] at this
    exact this
theorem l_RC_sh45 {a to : Int} (ha : -20 ≤ a ∧ a ≤ 20) {m : rz_M} {c : Int → Int} {Q : Int → rz_M → Prop}
    (h : rz_C y_RC_keepMade [rR 0, rI to] (wr m 12 7 (ouC a 6 c)) (fun r1 m1 => Q r1 m1)) : ∀ (d low : Nat), 6 - low = d → low ≤ 6 → rz_E y_RC_shift 45 [rR 0, rX 0, rI a, rI to, rI low, rX 0] [] (wr m 12 7 (ouC a low c)) Q
  | 0, low, hd, hl => by
    have e : low = 6 := by omega
    subst e
    exact T_RC_shift_45 _ _ _ _ _ (bt (by decide) h)
  | d + 1, low, hd, hl => by
    refine T_RC_shift_45 _ _ _ _ _ (bf (by omega) ?_)
    have g := l_RC_sh45 (to := to) ha h d (low + 1) (by omega) (by omega)
    exact l_RC_sh55 ha (by omega) (by rw [show ((low + 1 : Nat) : Int) = (low : Int) + 1 from by omega] at g; exact g) (6 - low) 0 (by omega) (by omega)
theorem l_M_sh56 {i a to : Int} (hi : 0 ≤ i ∧ i < 10) (ha : -20 ≤ a ∧ a ≤ 20) {l : Nat} (hl : l ≤ 6) {m : rz_M} {acc : Int → Int} {Q : Int → rz_M → Prop}
    (h : rz_E y_M_shift 47 [rR 221, rI i, rI a, rI to, rI (6 - ((l + 1 : Nat) : Int)), rX 0] [] (wr m 223 13 (upf (inM a 7 acc) 0 (w64 (inM a 7 acc 0 + rwM m i (6 - (l : Int)))))) Q) : ∀ (d n : Nat), 7 - n = d → n ≤ 7 → rz_E y_M_shift 56 [rR 221, rI i, rI a, rI to, rI (6 - (l : Int)), rI (6 - (n : Int))] [] (wr m 223 13 (inM a n acc)) Q
  | 0, n, hd, hn => by
    have e : n = 7 := by omega
    subst e
    refine T_M_shift_56 _ _ _ _ _ _ _ (bt (by decide) ?_)
    rw [w32_id (z := 7 * i) (by omega) (by omega), w32_id (z := 7 * i + (6 - (l : Int))) (by omega) (by omega), w32_id (z := 6 - (l : Int) + -1) (by omega) (by omega), wr_ne (x := 222) (by decide), wr_in (by decide) (by decide), wr_up (by decide) (by decide), show 6 - (l : Int) + -1 = 6 - ((l + 1 : Nat) : Int) from by omega]
    exact ⟨⟨by decide, by decide⟩, ⟨by omega, by omega⟩, ⟨by decide, by decide⟩, h⟩
  | d + 1, n, hd, hn => by
    refine T_M_shift_56 _ _ _ _ _ _ _ (bf (by omega) ⟨⟨by omega, by omega⟩, ?_⟩)
    rw [w32_id (z := 6 - (n : Int) + -1) (by omega) (by omega), w32_id (z := 6 - (n : Int) - 1) (by omega) (by omega)]
    have g := l_M_sh56 hi ha hl h d (n + 1) (by omega) (by omega)
    rw [show 6 - ((n + 1 : Nat) : Int) = 6 - (n : Int) + -1 from by omega] at g
    have e : inM a (n + 1) acc = upf (inM a n acc) (6 - n) (w64 (w64 (inM a n acc (6 - n) * a) + (if (6 : Int) - n ≤ 0 then 0 else inM a n acc (6 - n - 1)))) := rfl
    rw [e] at g
    refine bb (fun q => ⟨⟨by omega, by omega⟩, ?_⟩) (fun q => ⟨⟨by omega, by omega⟩, ⟨by omega, by omega⟩, ?_⟩)
    · rw [if_pos q] at g
      rw [wr_in (by omega) (by omega), wr_up (by omega) (by omega)]
      exact g
    · rw [if_neg q] at g
      rw [wr_in (by omega) (by omega), wr_in (y := 6 - (n : Int) - 1) (by omega) (by omega), wr_up (by omega) (by omega)]
      exact g
theorem l_M_sh47 {i a to : Int} (hi : 0 ≤ i ∧ i < 10) (ha : -20 ≤ a ∧ a ≤ 20) {m : rz_M} {Q : Int → rz_M → Prop}
    (h : rz_C y_M_put [rR 221, rI to] (wr m 223 13 (ouM a (rwM m i) 7 (fun _ => 0))) (fun r1 m1 => Q r1 m1)) : ∀ (d l : Nat), 7 - l = d → l ≤ 7 → rz_E y_M_shift 47 [rR 221, rI i, rI a, rI to, rI (6 - (l : Int)), rX 0] [] (wr m 223 13 (ouM a (rwM m i) l (fun _ => 0))) Q
  | 0, l, hd, hl => by
    have e : l = 7 := by omega
    subst e
    exact T_M_shift_47 _ _ _ _ _ _ (bt (by decide) h)
  | d + 1, l, hd, hl => by
    refine T_M_shift_47 _ _ _ _ _ _ (bf (by omega) ?_)
    have g := l_M_sh47 (to := to) hi ha h d (l + 1) (by omega) (by omega)
    exact l_M_sh56 (to := to) hi ha (by omega) (acc := ouM a (rwM m i) l (fun _ => 0)) g 7 0 (by omega) (by omega)
theorem inM_out (a : Int) (y : Int) (h : ¬ (0 ≤ y ∧ y ≤ 6)) : ∀ (n : Nat) (g : Int → Int), n ≤ 7 → inM a n g y = g y
  | 0, _, _ => rfl
  | n + 1, g, hn => by
    show upf _ _ _ y = _
    unfold upf
    rw [if_neg (by omega)]
    exact inM_out a y h n g (by omega)
theorem ouM_out (a : Int) (c : Int → Int) (y : Int) (h : ¬ (0 ≤ y ∧ y ≤ 6)) : ∀ (l : Nat) (g : Int → Int), ouM a c l g y = g y
  | 0, _ => rfl
  | l + 1, g => by
    show upf _ _ _ y = _
    unfold upf
    rw [if_neg (by omega), inM_out a y h 7 _ (Nat.le_refl _)]
    exact ouM_out a c y h l g
theorem p_shift (i a to : Int) (m : rz_M) (hI : Inv m) : pairOK y_RC_shift y_M_shift [rI i, rI a, rI to] m := by
  have bad : ¬ ((0 ≤ i ∧ i < 10) ∧ (-20 ≤ a ∧ a ≤ 20) ∧ (0 ≤ to ∧ to < 10)) → rz_C y_RC_refuse [rR 0, rI (-1)] m (fun r1 m1 => rz_C y_M_shift [rR 221, rI i, rI a, rI to] m1 (fun r2 m2 => r1 = r2 ∧ Inv m2 ∧ m2 400 = m 400)) := by
    intro hn
    refine c_RC_refuse ?_
    have fin : rz_C y_M_said [rR 221, rI (-1)] (rz_up (rz_up m 0 10 (-1)) 221 0 0) (fun r2 m2 => -1 = r2 ∧ Inv m2 ∧ m2 400 = m 400) := c_M_said ⟨rfl, fin_bad hI (midC_rf m) (midM_thr _ 0)⟩
    exact T_M_shift_0 _ _ _ _ _ (c_M_isRow (fun x y => b1t (c_M_isRow (fun z w => b1t (c_M_in (fun e f => absurd ⟨⟨x, y⟩, ⟨e, f⟩, z, w⟩ hn) (fun _ => b0n fin))) (fun _ => b0t fin))) (fun _ => b0t fin))
  refine T_RC_shift_0 _ _ _ _ _ (c_RC_isRow (fun i1 i2 => b1t (c_RC_isWithin (by decide) (fun a1 a2 => b1t (c_RC_isRow (fun t1 t2 => b1n ⟨⟨i1, i2⟩, c_RC_copy (isL_row ⟨i1, i2⟩) isL_12 ?_⟩) (fun q => b0n (bad (fun z => q z.2.2))))) (fun q => b0t (bad (fun z => q z.2.1))))) (fun q => b0t (bad (fun z => q z.1))))
  have hi := And.intro i1 i2
  have ha := And.intro a1 a2
  have ht := And.intro t1 t2
  have hri : rz_R 1 i = 2 + i.toNat := rfl
  have hrt : rz_R 1 to = 2 + to.toNat := rfl
  have hmid := midC_made (midC_rf m) 7 (ouC a 6 (m (rz_R 1 i)))
  have mod : ∀ (m1 : rz_M) (Q : Int → rz_M → Prop), m1 222 = m 222 → rz_C y_M_put [rR 221, rI to] (wr (rz_up m1 221 0 0) 223 13 (ouM a (rwM m i) 7 (fun _ => 0))) Q → rz_C y_M_shift [rR 221, rI i, rI a, rI to] m1 Q := by
    intro m1 Q hm hp
    refine T_M_shift_0 _ _ _ _ _ (c_M_isRow (fun _ _ => b1t (c_M_isRow (fun _ _ => b1t (c_M_in (fun _ _ => b1n (c_M_clear ?_)) (fun z => absurd ha z))) (fun z => absurd ht z))) (fun z => absurd hi z))
    have e : rwM (wr (rz_up m1 221 0 0) 223 13 (fun _ => 0)) i = rwM m i := by
      unfold rwM
      rw [wr_ne (by decide), up_ne (by decide), hm]
    have := l_M_sh47 (to := to) hi ha (m := wr (rz_up m1 221 0 0) 223 13 (fun _ => 0)) (Q := Q) (by rw [e, wr_wr]; exact hp) 7 0 (by omega) (by omega)
    rw [e, show ouM a (rwM m i) 0 (fun _ => 0) = (fun _ => 0) from rfl, wr_wr] at this
    exact this
  have hg : ∀ (m1 : rz_M) (j : Int), 0 ≤ j → j < 7 → wr (rz_up m1 221 0 0) 223 13 (ouM a (rwM m i) 7 (fun _ => 0)) 223 j = wr m 12 7 (ouC a 6 (m (rz_R 1 i))) 12 j := fun m1 j j0 j1 => by
    have hrow := hI.1 i hi.1 hi.2
    rw [wr_in j0 (by omega), wr_in j0 j1, ouM_F a (rwM m i) 7 (fun _ => 0) (fun _ => 0) (fun _ => rfl) j]
    -- the class's way from the row itself, whose numbers wrap to themselves below 7; elsewhere they don't matter
    have e1 : ∀ y : Int, 0 ≤ y → y ≤ 6 → rwM m i y = w64 (rwM m i y) := fun y y0 y1 => by
      have h1 := hrow.2 y y0 (by omega)
      have h2 := hrow.1 y y0 (by omega)
      unfold rwM
      rw [← h1, w64_id (by omega) (by omega)]
    have in7 : ∀ (n : Nat) (g g' : Int → Int), n ≤ 6 → (∀ y : Int, 0 ≤ y → y ≤ 6 → g y = g' y) → ∀ y : Int, 0 ≤ y → y ≤ 6 → inC a n g y = inC a n g' y := by
      intro n
      induction n with
      | zero => exact fun g g' _ h => h
      | succ n ih =>
        intro g g' hn h y y0 y1
        show upf _ _ _ y = upf _ _ _ y
        unfold upf
        rw [ih g g' (by omega) h (5 - n) (by omega) (by omega), ih g g' (by omega) h (5 - n + 1) (by omega) (by omega), ih g g' (by omega) h y y0 y1]
    have ou7 : ∀ (l : Nat) (g g' : Int → Int), (∀ y : Int, 0 ≤ y → y ≤ 6 → g y = g' y) → ∀ y : Int, 0 ≤ y → y ≤ 6 → ouC a l g y = ouC a l g' y := by
      intro l
      induction l with
      | zero => exact fun g g' h => h
      | succ l ih => exact fun g g' h => in7 (6 - l) _ _ (by omega) (ih g g' h)
    rw [ou7 6 (m (rz_R 1 i)) (fun y => w64 (rwM m i y)) (fun y y0 y1 => by rw [← e1 y y0 y1]; exact hrow.2 y y0 (by omega)) j j0 (by omega), ouC_E a 6 (fun y => w64 (rwM m i y)) (rwM m i) (fun _ => rfl) j, shift_eq a (rwM m i) j j0 (by omega)]
  have hz : ∀ (m1 : rz_M) (j : Int), 7 ≤ j → j < 13 → wr (rz_up m1 221 0 0) 223 13 (ouM a (rwM m i) 7 (fun _ => 0)) 223 j = 0 := fun m1 j j0 j1 => by
    rw [wr_in (by omega) j1, ouM_out a _ j (by omega)]
  have hl := l_RC_sh45 (to := to) ha (m := m) (c := m (rz_R 1 i)) (Q := fun r1 m1 => rz_C y_M_shift [rR 221, rI i, rI a, rI to] m1 (fun r2 m2 => r1 = r2 ∧ Inv m2 ∧ m2 400 = m 400)) ?_ 6 0 (by omega) (by omega)
  · exact hl
  · refine c_RC_keepMade ht (fun hf => mod _ _ ?_ ?_) (fun hf => mod _ _ ?_ ?_)
    · rw [up_ne (by decide), wr_ne (by omega), wr_ne (by decide)]
    · exact (put_of ht hI hmid (hz _) (hg _)).1 hf (midM_made (midM_thr _ 0) 13 _)
    · rw [up_ne (by decide), wr_ne (by decide)]
    · exact (put_of ht hI hmid (hz _) (hg _)).2 hf (midM_made (midM_thr _ 0) 13 _)
