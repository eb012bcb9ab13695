/-! both sides alike: told, plus, derive, turn -/
/-- seven numbers as a row -/
def r7 (a b c d e f g : Int) : Int → Int := fun j => if j = 0 then a else if j = 1 then b else if j = 2 then c else if j = 3 then d else if j = 4 then e else if j = 5 then f else g
theorem wr7 {m : rz_M} {x : Nat} {a b c d e f g : Int} : rz_up (rz_up (rz_up (rz_up (rz_up (rz_up (rz_up m x 0 a) x 1 b) x 2 c) x 3 d) x 4 e) x 5 f) x 6 g = wr m x 7 (r7 a b c d e f g) := by
  have h : ∀ (k v : Int), 0 ≤ k → v = r7 a b c d e f g k → rz_up (wr m x k (r7 a b c d e f g)) x k v = wr m x (k + 1) (r7 a b c d e f g) := fun k v h1 h2 => wr_succ h1 h2
  have h0 := h 0 a (by decide) rfl
  rw [wr_0] at h0
  rw [h0, show (0 : Int) + 1 = 1 from rfl, h 1 b (by decide) rfl, show (1 : Int) + 1 = 2 from rfl, h 2 c (by decide) rfl, show (2 : Int) + 1 = 3 from rfl, h 3 d (by decide) rfl, show (3 : Int) + 1 = 4 from rfl, h 4 e (by decide) rfl, show (4 : Int) + 1 = 5 from rfl, h 5 f (by decide) rfl, show (5 : Int) + 1 = 6 from rfl, h 6 g (by decide) rfl]
  rfl
theorem wo7 {m : rz_M} {x : Nat} {o a b c d e f g : Int} : rz_up (rz_up (rz_up (rz_up (rz_up (rz_up (rz_up m x o a) x (o + 1) b) x (o + 2) c) x (o + 3) d) x (o + 4) e) x (o + 5) f) x (o + 6) g = wo m x o 7 (r7 a b c d e f g) := by
  have h : ∀ (k v : Int), 0 ≤ k → v = r7 a b c d e f g k → rz_up (wo m x o k (r7 a b c d e f g)) x (o + k) v = wo m x o (k + 1) (r7 a b c d e f g) := fun k v h1 h2 => wo_succ h1 h2
  have h0 := h 0 a (by decide) rfl
  rw [wo_0, Int.add_zero] at h0
  rw [h0, show (0 : Int) + 1 = 1 from rfl, h 1 b (by decide) rfl, show (1 : Int) + 1 = 2 from rfl, h 2 c (by decide) rfl, show (2 : Int) + 1 = 3 from rfl, h 3 d (by decide) rfl, show (3 : Int) + 1 = 4 from rfl, h 4 e (by decide) rfl, show (4 : Int) + 1 = 5 from rfl, h 5 f (by decide) rfl, show (5 : Int) + 1 = 6 from rfl, h 6 g (by decide) rfl]
  rfl
def smn (z : Int) : Prop := -100 ≤ z ∧ z ≤ 100
theorem c_RC_told {r a b c d e f g : Int} {m : rz_M} {K : Int → rz_M → Prop} (h1 : 0 ≤ r ∧ r < 10 → smn a → smn b → smn c → smn d → smn e → smn f → smn g → K (dg (r7 a b c d e f g)) (rz_up (wr m (rz_R 1 r) 7 (r7 a b c d e f g)) 0 10 0))
    (h0 : ¬ ((0 ≤ r ∧ r < 10) ∧ smn a ∧ smn b ∧ smn c ∧ smn d ∧ smn e ∧ smn f ∧ smn g) → K (-3) (rz_up m 0 10 (-1))) : rz_C y_RC_told [rR 0, rI r, rI a, rI b, rI c, rI d, rI e, rI f, rI g] m K := by
  have bad : ¬ ((0 ≤ r ∧ r < 10) ∧ smn a ∧ smn b ∧ smn c ∧ smn d ∧ smn e ∧ smn f ∧ smn g) → rz_E y_RC_told 73 [rX 0, rX 0, rX 0, rX 0, rX 0, rX 0, rX 0, rX 0, rX 0, rX 0] [] (rz_up m 0 10 (-1)) K := fun q => T_RC_told_73 _ _ (h0 q)
  refine T_RC_told_0 _ _ _ _ _ _ _ _ _ _ (c_RC_isRow (fun q1 q2 => b1t (c_RC_isSmallNumber (fun a1 a2 => b1t (c_RC_isSmallNumber (fun b1 b2 => b1t (c_RC_isSmallNumber (fun c1 c2 => b1t (c_RC_isSmallNumber (fun d1 d2 => b1t (c_RC_isSmallNumber (fun e1' e2' => b1t (c_RC_isSmallNumber (fun f1 f2 => b1t (c_RC_isSmallNumber (fun g1 g2 => b1n ⟨⟨q1, q2⟩, ?_⟩)
    (fun q => b0n (bad (fun z => q z.2.2.2.2.2.2.2)))))
    (fun q => b0t (bad (fun z => q z.2.2.2.2.2.2.1)))))
    (fun q => b0t (bad (fun z => q z.2.2.2.2.2.1)))))
    (fun q => b0t (bad (fun z => q z.2.2.2.2.1)))))
    (fun q => b0t (bad (fun z => q z.2.2.2.1)))))
    (fun q => b0t (bad (fun z => q z.2.2.1)))))
    (fun q => b0t (bad (fun z => q z.2.1)))))
    (fun q => b0t (bad (fun z => q z.1))))
  have hL := isL_row ⟨q1, q2⟩
  have hl := len_row ⟨q1, q2⟩
  have hin : ∀ k : Int, 0 ≤ k → k < 7 → rz_in k (rz_len (rz_R 1 r)) := fun k k1 k2 => ⟨k1, by rw [hl]; exact k2⟩
  refine T_RC_told_84 _ _ _ _ _ _ _ _ _ _ ⟨hL.1, hin 0 (by decide) (by decide), hL.1, hin 1 (by decide) (by decide), hL.1, hin 2 (by decide) (by decide), hL.1, hin 3 (by decide) (by decide), hL.1, hin 4 (by decide) (by decide), hL.1, hin 5 (by decide) (by decide), hL.1, hin 6 (by decide) (by decide), ?_⟩
  rw [wr7]
  refine T_RC_told_132 _ _ _ (c_RC_degreeOf hL ?_)
  have e1 : rz_up (wr m (rz_R 1 r) 7 (r7 a b c d e f g)) 0 10 0 (rz_R 1 r) = wr m (rz_R 1 r) 7 (r7 a b c d e f g) (rz_R 1 r) := up_ne (by rw [R_row]; omega)
  have e2 : dg (wr m (rz_R 1 r) 7 (r7 a b c d e f g) (rz_R 1 r)) = dg (r7 a b c d e f g) := dgk_congr (fun k k1 k2 => wr_in k1 (by omega))
  rw [e1, e2]
  exact h1 ⟨q1, q2⟩ ⟨a1, a2⟩ ⟨b1, b2⟩ ⟨c1, c2⟩ ⟨d1, d2⟩ ⟨e1', e2'⟩ ⟨f1, f2⟩ ⟨g1, g2⟩
theorem c_M_told {r a b c d e f g : Int} {m : rz_M} {K : Int → rz_M → Prop} (h1 : 0 ≤ r ∧ r < 10 → smn a → smn b → smn c → smn d → smn e → smn f → smn g → K (dg (r7 a b c d e f g)) (rz_up (wo (rz_up m 221 0 0) 222 (7 * r) 7 (r7 a b c d e f g)) 221 1 0))
    (h0 : ¬ ((0 ≤ r ∧ r < 10) ∧ smn a ∧ smn b ∧ smn c ∧ smn d ∧ smn e ∧ smn f ∧ smn g) → K (-3) (rz_up (rz_up m 221 0 0) 221 1 (-1))) : rz_C y_M_told [rR 221, rI r, rI a, rI b, rI c, rI d, rI e, rI f, rI g] m K := by
  have bad : ¬ (smn a ∧ smn b ∧ smn c ∧ smn d ∧ smn e ∧ smn f ∧ smn g) → rz_E y_M_told 112 [rR 221, rI r, rI a, rI b, rI c, rI d, rI e, rI f, rI g, rX 0] [] (rz_up m 221 0 0) K := fun q =>
    T_M_told_112 _ _ _ _ _ _ _ _ _ _ (T_M_told_113 _ _ _ _ _ _ _ _ _ _ _ (c_M_isRow (fun _ _ => b1t (b0n (h0 (fun z => q z.2)))) (fun _ => b0t (h0 (fun z => q z.2)))))
  refine T_M_told_0 _ _ _ _ _ _ _ _ _ _ (c_M_in (fun a1 a2 => b1t (c_M_in (fun b1 b2 => b1t (c_M_in (fun c1 c2 => b1t (c_M_in (fun d1 d2 => b1t (c_M_in (fun e1 e2' => b1t (c_M_in (fun f1 f2 => b1t (T_M_told_93 _ _ _ _ _ _ _ _ _ _ (c_M_in (fun g1 g2 => b1t (T_M_told_113 _ _ _ _ _ _ _ _ _ _ _ (c_M_isRow (fun q1 q2 => b1t (b1n ?_)) (fun q => b0t (h0 (fun z => q z.1))))))
    (fun q => b0t (bad (fun z => q z.2.2.2.2.2.2))))))
    (fun q => b0t (bad (fun z => q z.2.2.2.2.2.1)))))
    (fun q => b0t (bad (fun z => q z.2.2.2.2.1)))))
    (fun q => b0t (bad (fun z => q z.2.2.2.1)))))
    (fun q => b0t (bad (fun z => q z.2.2.1)))))
    (fun q => b0t (bad (fun z => q z.2.1)))))
    (fun q => b0t (bad (fun z => q z.1))))
  rw [w32_id (z := 7 * r) (by omega) (by omega), w32_id (z := 7 * r + 1) (by omega) (by omega), w32_id (z := 7 * r + 2) (by omega) (by omega)]
  refine ⟨⟨by omega, by omega⟩, ⟨by omega, by omega⟩, ⟨by omega, by omega⟩, T_M_told_173 _ _ _ _ _ _ _ ?_⟩
  rw [w32_id (z := 7 * r) (by omega) (by omega), w32_id (z := 7 * r + 3) (by omega) (by omega), w32_id (z := 7 * r + 4) (by omega) (by omega), w32_id (z := 7 * r + 5) (by omega) (by omega), w32_id (z := 7 * r + 6) (by omega) (by omega)]
  refine ⟨⟨by omega, by omega⟩, ⟨by omega, by omega⟩, ⟨by omega, by omega⟩, ⟨by omega, by omega⟩, T_M_told_230 _ _ _ ?_⟩
  rw [wo7]
  refine c_M_degreeOf ⟨q1, q2⟩ ?_
  have e2 : dg (rwM (rz_up (wo (rz_up m 221 0 0) 222 (7 * r) 7 (r7 a b c d e f g)) 221 1 0) r) = dg (r7 a b c d e f g) := dgk_congr (fun k k1 k2 => by
    unfold rwM
    rw [up_ne (by decide)]
    exact wo_in k1 (by omega))
  rw [e2]
  exact h1 ⟨q1, q2⟩ ⟨a1, a2⟩ ⟨b1, b2⟩ ⟨c1, c2⟩ ⟨d1, d2⟩ ⟨e1, e2'⟩ ⟨f1, f2⟩ ⟨g1, g2⟩
/-- a refusal on both sides -/
theorem Inv_bad {m m1 m2 : rz_M} {z t : Int} (hI : Inv m) (h1 : ∀ i : Nat, i ≠ 0 → i ≠ 12 → i < 221 → m1 i = m i) (h1b : ∀ i : Nat, 221 ≤ i → m1 i = m i) (h1c : m1 0 10 = z) (e : m2 = rz_up (rz_up m1 221 0 t) 221 1 z) : Inv m2 ∧ m2 400 = m 400 := by
  subst e
  have q : ∀ i : Nat, i ≠ 221 → rz_up (rz_up m1 221 0 t) 221 1 z i = m1 i := fun i hi => by rw [up_ne hi, up_ne hi]
  refine ⟨Inv_ref hI ⟨fun i hi => ?_, ?_, ?_⟩ (fun i a b => by rw [q i (by omega)]; exact h1 i (by omega) (by omega) (by omega)) (by rw [q _ (by decide)]; exact h1b _ (by decide)) (by rw [q _ (by decide)]; exact h1c) up_eq, by rw [q _ (by decide)]; exact h1b _ (by decide)⟩
  · rw [q i (by omega)]
    rcases hi with rfl | hi | rfl | rfl | rfl | rfl
    · exact h1 _ (by decide) (by decide) (by decide)
    · exact h1 i (by omega) (by omega) (by omega)
    all_goals exact h1b _ (by decide)
  · rw [up_nj (by decide), up_nj (by decide), h1b _ (by decide)]
  · rw [up_nj (by decide), up_nj (by decide), h1b _ (by decide)]
/-- the same row is set on both sides -/
theorem Inv_good {m m1 m2 m3 : rz_M} {to : Int} {g : Int → Int} (ht : 0 ≤ to ∧ to < 10) (hg : fitsR g) (hI : Inv m) (h1 : ∀ i : Nat, i ≠ 0 → i ≠ 12 → i ≠ rz_R 1 to → i < 221 → m1 i = m i) (h1b : ∀ i : Nat, 221 ≤ i → m1 i = m i) (h1c : m1 0 10 = 0) (h1d : ∀ j : Int, 0 ≤ j → j < 7 → m1 (rz_R 1 to) j = g j)
    (e : m3 = rz_up (wo m2 222 (7 * to) 7 g) 221 1 0) (h2 : ∀ i : Nat, i ≠ 221 → i ≠ 223 → m2 i = m1 i) (h2b : m2 221 17 = m1 221 17 ∧ m2 221 18 = m1 221 18) : Inv m3 ∧ m3 400 = m 400 := by
  subst e
  have q : ∀ i : Nat, i ≠ 221 → i ≠ 222 → i ≠ 223 → rz_up (wo m2 222 (7 * to) 7 g) 221 1 0 i = m1 i := fun i a b c => by rw [up_ne a, wo_ne b, h2 i a c]
  have hr : rz_R 1 to = 2 + to.toNat := rfl
  refine ⟨Inv_set ht hg hI ⟨fun i hi => ?_, ?_, ?_⟩ (fun i a b c => by rw [q i (by omega) (by omega) (by omega)]; exact h1 i (by omega) (by omega) c (by omega)) (fun j a b => by rw [q _ (by omega) (by omega) (by omega)]; exact h1d j a b) (fun j a b => by rw [up_ne (by decide)]; exact wo_in a b) (fun y hy => by rw [up_ne (by decide), wo_out hy, h2 _ (by decide) (by decide), h1b _ (by decide)]) (by rw [q _ (by decide) (by decide) (by decide)]; exact h1c) up_eq, by rw [q _ (by decide) (by decide) (by decide)]; exact h1b _ (by decide)⟩
  · rw [q i (by omega) (by omega) (by omega)]
    rcases hi with rfl | hi | rfl | rfl | rfl | rfl
    · exact h1 _ (by decide) (by decide) (by omega) (by decide)
    · exact h1 i (by omega) (by omega) (by omega) (by omega)
    all_goals exact h1b _ (by decide)
  · rw [up_nj (by decide), wo_ne (by decide), h2b.1, h1b _ (by decide)]
  · rw [up_nj (by decide), wo_ne (by decide), h2b.2, h1b _ (by decide)]
theorem p_told (r a b c d e f g : Int) (m : rz_M) (hI : Inv m) : pairOK y_RC_told y_M_told [rI r, rI a, rI b, rI c, rI d, rI e, rI f, rI g] m := by
  refine c_RC_told (fun hr sa sb sc sd se sf sg => c_M_told (fun _ _ _ _ _ _ _ _ => ⟨rfl, ?_⟩) (fun q => absurd ⟨hr, sa, sb, sc, sd, se, sf, sg⟩ q)) (fun q => c_M_told (fun hr sa sb sc sd se sf sg => absurd ⟨hr, sa, sb, sc, sd, se, sf, sg⟩ q) (fun _ => ⟨rfl, ?_⟩))
  · have hg : fitsR (r7 a b c d e f g) := fun j _ _ => by
      unfold smn at *
      unfold r7
      repeat' split
      all_goals omega
    have hrr : rz_R 1 r = 2 + r.toNat := rfl
    refine Inv_good hr hg hI (m1 := rz_up (wr m (rz_R 1 r) 7 (r7 a b c d e f g)) 0 10 0) (m2 := rz_up (rz_up (wr m (rz_R 1 r) 7 (r7 a b c d e f g)) 0 10 0) 221 0 0) (fun i h0 h12 hne _ => by rw [up_ne h0, wr_ne hne]) (fun i hi => by rw [up_ne (by omega), wr_ne (by omega)]) up_eq (fun j j0 j1 => by rw [up_ne (by omega)]; exact wr_in j0 j1) rfl (fun i h1 _ => up_ne h1) ⟨up_nj (by decide), up_nj (by decide)⟩
  · exact Inv_bad hI (m1 := rz_up m 0 10 (-1)) (fun i h0 _ _ => up_ne h0) (fun i hi => up_ne (by omega)) up_eq rfl
