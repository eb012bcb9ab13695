/-! both sides alike: plus, derive, turn, times -/
theorem wo_congr {m : rz_M} {a : Nat} {off n : Int} {g g' : Int → Int} (h : ∀ y, 0 ≤ y → y < n → g y = g' y) : wo m a off n g = wo m a off n g' := by
  funext x y
  unfold wo
  by_cases e : x = a ∧ off ≤ y ∧ y < off + n
  · rw [if_pos e, if_pos e, h _ (by omega) (by omega)]
  · rw [if_neg e, if_neg e]
/-- class memory M1 before keeping, model memory M2 before putting -/
def midC (m M1 : rz_M) : Prop := ∀ i : Nat, i ≠ 12 → M1 i = m i
def midM (m1 M2 : rz_M) : Prop := (∀ i : Nat, i ≠ 221 → i ≠ 223 → M2 i = m1 i) ∧ M2 221 17 = m1 221 17 ∧ M2 221 18 = m1 221 18
theorem fin_bad {m M1 M2 : rz_M} {z : Int} (hI : Inv m) (h1 : midC m M1) (h2 : midM (rz_up M1 0 10 z) M2) : Inv (rz_up M2 221 1 z) ∧ rz_up M2 221 1 z 400 = m 400 := by
  have q : ∀ i : Nat, i ≠ 0 → i ≠ 12 → i ≠ 221 → i ≠ 223 → rz_up M2 221 1 z i = m i := fun i a b c d => by rw [up_ne c, h2.1 i c d, up_ne a, h1 i b]
  refine ⟨Inv_ref hI ⟨fun i hi => q i (by omega) (by omega) (by omega) (by omega), ?_, ?_⟩ (fun i a b => q i (by omega) (by omega) (by omega) (by omega)) (q _ (by decide) (by decide) (by decide) (by decide)) (by rw [up_ne (by decide), h2.1 _ (by decide) (by decide)]; exact up_eq) up_eq, q _ (by decide) (by decide) (by decide) (by decide)⟩
  · rw [up_nj (by decide), h2.2.1, up_ne (by decide), h1 _ (by decide)]
  · rw [up_nj (by decide), h2.2.2, up_ne (by decide), h1 _ (by decide)]
theorem fin_good {m M1 M2 : rz_M} {to : Int} {gC gM : Int → Int} (ht : 0 ≤ to ∧ to < 10) (hI : Inv m) (h1 : midC m M1) (hf : fitsR gC) (hg : ∀ j : Int, 0 ≤ j → j < 7 → gM j = gC j) (h2 : midM (rz_up (wr M1 (rz_R 1 to) 7 gC) 0 10 0) M2) : Inv (rz_up (wo M2 222 (7 * to) 7 gM) 221 1 0) ∧ rz_up (wo M2 222 (7 * to) 7 gM) 221 1 0 400 = m 400 := by
  have hr : rz_R 1 to = 2 + to.toNat := rfl
  exact Inv_good ht hf hI (m1 := rz_up (wr M1 (rz_R 1 to) 7 gC) 0 10 0) (m2 := M2) (fun i a b c d => by rw [up_ne a, wr_ne c, h1 i b]) (fun i a => by rw [up_ne (by omega), wr_ne (by omega), h1 i (by omega)]) up_eq (fun j a b => by rw [up_ne (by omega)]; exact wr_in a b) (by rw [wo_congr hg]) h2.1 h2.2
theorem midM_thr (m1 : rz_M) (z : Int) : midM m1 (rz_up m1 221 0 z) := ⟨fun i a b => up_ne a, up_nj (by decide), up_nj (by decide)⟩
theorem midM_made {m1 M2 : rz_M} (h : midM m1 M2) (n : Int) (g : Int → Int) : midM m1 (wr M2 223 n g) := ⟨fun i a b => by rw [wr_ne b]; exact h.1 i a b, by rw [wr_ne (by decide)]; exact h.2.1, by rw [wr_ne (by decide)]; exact h.2.2⟩
theorem midC_made {m M1 : rz_M} (h : midC m M1) (n : Int) (g : Int → Int) : midC m (wr M1 12 n g) := fun i a => by rw [wr_ne a]; exact h i a
theorem midC_rf (m : rz_M) : midC m m := fun _ _ => rfl
theorem fits_congr {f g : Int → Int} (h : ∀ j : Int, 0 ≤ j → j < 7 → f j = g j) : fitsR f ↔ fitsR g := ⟨fun q j a b => by rw [← h j a b]; exact q j a b, fun q j a b => by rw [h j a b]; exact q j a b⟩
theorem l_RC_plus {i k to : Int} (hi : 0 ≤ i ∧ i < 10) (hk : 0 ≤ k ∧ k < 10) {m : rz_M} (hI : Inv m) {Q : Int → rz_M → Prop} (h : rz_C y_RC_keepMade [rR 0, rI to] (wr m 12 7 (fun j => m (rz_R 1 i) j + m (rz_R 1 k) j)) (fun r1 m1 => Q r1 m1)) : ∀ (d : Nat) (j : Int), 7 - j = d → 0 ≤ j → rz_E y_RC_plus 30 [rR 0, rI i, rI k, rI to, rI j] [] (wr m 12 j (fun j => m (rz_R 1 i) j + m (rz_R 1 k) j)) Q
  | 0, j, hd, hj => by
    have e : j = 7 := by omega
    subst e
    exact T_RC_plus_30 _ _ _ _ _ _ (bt (by omega) h)
  | d + 1, j, hd, hj => by
    have ri : rz_R 1 i = 2 + i.toNat := rfl
    have rk : rz_R 1 k = 2 + k.toNat := rfl
    have f1 := (hI.1 i hi.1 hi.2).1 j hj (by omega)
    have f2 := (hI.1 k hk.1 hk.2).1 j hj (by omega)
    refine T_RC_plus_30 _ _ _ _ _ _ (bf (by omega) ⟨⟨hi.1, hi.2⟩, (isL_row hi).1, ⟨hj, by rw [len_row hi]; omega⟩, ⟨hk.1, hk.2⟩, (isL_row hk).1, ⟨hj, by rw [len_row hk]; omega⟩, ⟨hj, by omega⟩, ?_⟩)
    rw [wr_ne (x := rz_R 1 i) (by omega), wr_ne (x := rz_R 1 k) (by omega), w64_id (by omega) (by omega), w32_id (by omega) (by omega), wr_succ hj rfl]
    exact l_RC_plus hi hk hI h d (j + 1) (by omega) (by omega)
theorem l_M_plus {i k to : Int} (hi : 0 ≤ i ∧ i < 10) (hk : 0 ≤ k ∧ k < 10) {m : rz_M} {g : Int → Int} (hg : ∀ j : Int, 0 ≤ j → j < 7 → w64 (m 222 (7 * i + j) + m 222 (7 * k + j)) = g j) {Q : Int → rz_M → Prop} (h : rz_C y_M_put [rR 221, rI to] (wr m 223 7 g) (fun r1 m1 => Q r1 m1)) : ∀ (d : Nat) (j : Int), 7 - j = d → 0 ≤ j → rz_E y_M_plus 39 [rR 221, rI i, rI k, rI to, rI j] [] (wr m 223 j g) Q
  | 0, j, hd, hj => by
    have e : j = 7 := by omega
    subst e
    exact T_M_plus_39 _ _ _ _ _ _ (bt (by omega) h)
  | d + 1, j, hd, hj => by
    refine T_M_plus_39 _ _ _ _ _ _ (bf (by omega) ?_)
    rw [w32_id (z := 7 * i) (by omega) (by omega), w32_id (z := 7 * i + j) (by omega) (by omega), w32_id (z := 7 * k) (by omega) (by omega), w32_id (z := 7 * k + j) (by omega) (by omega), w32_id (z := j + 1) (by omega) (by omega)]
    refine ⟨⟨by omega, by omega⟩, ⟨by omega, by omega⟩, ⟨hj, by omega⟩, ?_⟩
    rw [wr_ne (by decide), hg j hj (by omega), wr_succ hj rfl]
    exact l_M_plus hi hk hg h d (j + 1) (by omega) (by omega)
/-- three rows are asked for, on the reference's side -/
theorem rows_cases (i k to : Int) : ((0 ≤ i ∧ i < 10) ∧ (0 ≤ k ∧ k < 10) ∧ (0 ≤ to ∧ to < 10)) ∨ ¬ ((0 ≤ i ∧ i < 10) ∧ (0 ≤ k ∧ k < 10) ∧ (0 ≤ to ∧ to < 10)) := Decidable.em _
theorem M_neg1 {m1 : rz_M} {K : Int → rz_M → Prop} (h : K (-1) (rz_up m1 221 1 (-1))) : rz_C y_M_said [rR 221, rI (-1)] m1 K := c_M_said (by rw [if_pos (by decide)]; exact h)
theorem put_of {to : Int} (ht : 0 ≤ to ∧ to < 10) {m M1 M2 : rz_M} (hI : Inv m) (h1 : midC m M1) (hz : ∀ j : Int, 7 ≤ j → j < 13 → M2 223 j = 0) (hg : ∀ j : Int, 0 ≤ j → j < 7 → M2 223 j = M1 12 j) :
    (fitsR (M1 12) → midM (rz_up (wr M1 (rz_R 1 to) 7 (M1 12)) 0 10 0) M2 → rz_C y_M_put [rR 221, rI to] M2 (fun r2 m2 => 0 = r2 ∧ Inv m2 ∧ m2 400 = m 400)) ∧
    (¬ fitsR (M1 12) → midM (rz_up M1 0 10 (-3)) M2 → rz_C y_M_put [rR 221, rI to] M2 (fun r2 m2 => -3 = r2 ∧ Inv m2 ∧ m2 400 = m 400)) := by
  have hc := fits_congr hg
  exact ⟨fun hf hm => c_M_put ht hz (fun _ => ⟨rfl, fin_good ht hI h1 hf hg hm⟩) (fun q => absurd (hc.mpr hf) q), fun hf hm => c_M_put ht hz (fun q => absurd (hc.mp q) hf) (fun _ => ⟨rfl, fin_bad hI h1 hm⟩)⟩
theorem p_plus (i k to : Int) (m : rz_M) (hI : Inv m) : pairOK y_RC_plus y_M_plus [rI i, rI k, rI to] m := by
  have bad : ¬ ((0 ≤ i ∧ i < 10) ∧ (0 ≤ k ∧ k < 10) ∧ (0 ≤ to ∧ to < 10)) → rz_C y_RC_refuse [rR 0, rI (-1)] m (fun r1 m1 => rz_C y_M_plus [rR 221, rI i, rI k, rI to] m1 (fun r2 m2 => r1 = r2 ∧ Inv m2 ∧ m2 400 = m 400)) := by
    intro hn
    refine c_RC_refuse ?_
    have fin : rz_C y_M_said [rR 221, rI (-1)] (rz_up (rz_up m 0 10 (-1)) 221 0 0) (fun r2 m2 => -1 = r2 ∧ Inv m2 ∧ m2 400 = m 400) := c_M_said ⟨rfl, fin_bad hI (midC_rf m) (midM_thr _ 0)⟩
    exact T_M_plus_0 _ _ _ _ _ (c_M_isRow (fun a b => b1t (c_M_isRow (fun c d => b1t (c_M_isRow (fun e f => absurd ⟨⟨a, b⟩, ⟨c, d⟩, e, f⟩ hn) (fun _ => b0n fin))) (fun _ => b0t fin))) (fun _ => b0t fin))
  refine T_RC_plus_0 _ _ _ _ _ (c_RC_isRow (fun i1 i2 => b1t (c_RC_isRow (fun k1 k2 => b1t (c_RC_isRow (fun t1 t2 => b1n ?_) (fun q => b0n (bad (fun z => q z.2.2))))) (fun q => b0t (bad (fun z => q z.2.1))))) (fun q => b0t (bad (fun z => q z.1))))
  have hi := And.intro i1 i2
  have hk := And.intro k1 k2
  have ht := And.intro t1 t2
  have hl := l_RC_plus (to := to) hi hk hI (Q := fun r1 m1 => rz_C y_M_plus [rR 221, rI i, rI k, rI to] m1 (fun r2 m2 => r1 = r2 ∧ Inv m2 ∧ m2 400 = m 400)) ?_ 7 0 (by omega) (by omega)
  · rw [wr_0] at hl
    exact hl
  · have hmid := midC_made (midC_rf m) 7 (fun j => m (rz_R 1 i) j + m (rz_R 1 k) j)
    -- the reference from m1, whose rows are as before
    have mod : ∀ (m1 : rz_M) (Q : Int → rz_M → Prop), m1 222 = m 222 → rz_C y_M_put [rR 221, rI to] (wr (wr (rz_up m1 221 0 0) 223 13 (fun _ => 0)) 223 7 (fun j => m (rz_R 1 i) j + m (rz_R 1 k) j)) Q → rz_C y_M_plus [rR 221, rI i, rI k, rI to] m1 Q := by
      intro m1 Q hm hp
      refine T_M_plus_0 _ _ _ _ _ (c_M_isRow (fun _ _ => b1t (c_M_isRow (fun _ _ => b1t (c_M_isRow (fun _ _ => b1n (c_M_clear ?_)) (fun z => absurd ht z))) (fun z => absurd hk z))) (fun z => absurd hi z))
      have := l_M_plus (to := to) hi hk (m := wr (rz_up m1 221 0 0) 223 13 (fun _ => 0)) (g := fun j => m (rz_R 1 i) j + m (rz_R 1 k) j) (fun j a b => by
        have f1 := (hI.1 i hi.1 hi.2).1 j a b
        have f2 := (hI.1 k hk.1 hk.2).1 j a b
        rw [wr_ne (by decide), up_ne (by decide), hm, ← row_eq hI hi ⟨a, b⟩, ← row_eq hI hk ⟨a, b⟩, w64_id (by omega) (by omega)]) (Q := Q) hp 7 0 (by omega) (by omega)
      rw [wr_0] at this
      exact this
    have hz : ∀ (m1 : rz_M) (g : Int → Int) (j : Int), 7 ≤ j → j < 13 → wr (wr (rz_up m1 221 0 0) 223 13 (fun _ => 0)) 223 7 g 223 j = 0 := fun m1 g j a b => by
      rw [wr_out (by omega), wr_in (by omega) b]
    have hg : ∀ (m1 : rz_M) (j : Int), 0 ≤ j → j < 7 → wr (wr (rz_up m1 221 0 0) 223 13 (fun _ => 0)) 223 7 (fun j => m (rz_R 1 i) j + m (rz_R 1 k) j) 223 j = wr m 12 7 (fun j => m (rz_R 1 i) j + m (rz_R 1 k) j) 12 j := fun m1 j a b => by
      rw [wr_in a b, wr_in a b]
    refine c_RC_keepMade ht (fun hf => mod _ _ ?_ ?_) (fun hf => mod _ _ ?_ ?_)
    · have hr : rz_R 1 to = 2 + to.toNat := rfl
      rw [up_ne (by decide), wr_ne (by omega), wr_ne (by decide)]
    · exact (put_of ht hI hmid (hz _ _) (hg _)).1 hf (midM_made (midM_made (midM_thr _ 0) 13 _) 7 _)
    · rw [up_ne (by decide), wr_ne (by decide)]
    · exact (put_of ht hI hmid (hz _ _) (hg _)).2 hf (midM_made (midM_made (midM_thr _ 0) 13 _) 7 _)
