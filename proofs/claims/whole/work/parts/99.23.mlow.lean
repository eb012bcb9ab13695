/-! the reference's chain: one place is taken away -/
def frQ (P : Nat → Prop) (m0 m : rz_M) : Prop := (∀ x : Nat, x ≠ 246 → x ≠ 247 → m x = m0 x) ∧ ∀ s : Nat, s < 60 → ¬ P s → (∀ y : Int, 160 * (s : Int) ≤ y → y < 160 * (s : Int) + 160 → m 246 y = m0 246 y) ∧ m 247 s = m0 247 s
theorem frQ_rf (P : Nat → Prop) (m : rz_M) : frQ P m m := ⟨fun _ _ _ => rfl, fun _ _ _ => ⟨fun _ _ _ => rfl, rfl⟩⟩
theorem frQ_st {P : Nat → Prop} {s : Nat} (hs : P s) {m0 m m' : rz_M} (h : frQ P m0 m) (f : frS s m m') : frQ P m0 m' := ⟨fun x a b => by rw [f.1 x a b, h.1 x a b], fun t ht np => by
  have ne : t ≠ s := fun w => np (by rw [w]; exact hs)
  obtain ⟨h1, h2⟩ := h.2 t ht np
  exact ⟨fun y a b => by rw [f.2.1 y (by omega), h1 y a b], by rw [f.2.2 t (by omega), h2]⟩⟩
theorem frQ_tr {P : Nat → Prop} {m0 m m' : rz_M} (h : frQ P m0 m) (f : frQ P m m') : frQ P m0 m' := ⟨fun x a b => by rw [f.1 x a b, h.1 x a b], fun t ht np => by
  obtain ⟨h1, h2⟩ := h.2 t ht np
  obtain ⟨h3, h4⟩ := f.2 t ht np
  exact ⟨fun y a b => by rw [h3 y a b, h1 y a b], by rw [h4, h2]⟩⟩
theorem MV_kq {P : Nat → Prop} {m0 m : rz_M} {t : Nat} {v : Int} (h : MV m0 t v) (f : frQ P m0 m) (ht : t < 60) (np : ¬ P t) : MV m t v := by
  obtain ⟨h1, h2⟩ := f.2 t ht np
  have e : ∀ j : Int, 0 ≤ j → j < 160 → br m t j = br m0 t j := fun j a b => h1 _ (by omega) (by omega)
  refine ⟨fun j a b => by rw [e j a b]; exact h.1 j a b, by rw [h2]; exact h.2.1, ?_⟩
  rw [mg_congr 160 e]
  exact h.2.2
theorem LIM_qw : 4 * (LIM * 1001 ^ 9) < qw 160 := by decide +kernel
theorem LIM_qw4 : 4 * LIM < qw 160 := by decide +kernel
theorem lowF_M {last : Int} {h B : Int → Int} {j bD : Nat} (hb : bD ≤ j) (l0 : last ≠ 0) (eB : B bD = last) (hz : ∀ i : Int, (j : Int) < i → i < 7 → h i = 0) {w2 : Int} (hw : w2 = if last.sign ≤ 0 then h j else -(h j)) : ∀ i : Nat, i ≤ 6 → h i * (last.natAbs : Int) + (if j - bD ≤ i ∧ i < j - bD + (bD + 1) then B ((i - (j - bD) : Nat) : Int) * w2 else 0) = lowF last (h j) h B j bD i := by
  intro i hi
  have sa := sign_abs last
  have s3 := sgn3 last
  have ew : w2 = -(last.sign * h j) := by
    rw [hw]
    rcases s3 with ⟨x, y⟩ | ⟨x, y⟩ | ⟨x, y⟩
    · exact absurd y l0
    · rw [x, if_neg (by decide)]; omega
    · rw [x, if_pos (by decide)]; omega
  unfold lowF
  by_cases q : i = j
  · subst q
    rw [if_pos rfl, if_pos ⟨by omega, by omega⟩, ew, show ((i - (i - bD) : Nat) : Int) = bD from by omega, eB, ← sa]
    grind
  · rw [if_neg (show ¬ (i : Int) = j by omega)]
    by_cases z : i < j
    · rw [if_pos (show (i : Int) < j by omega)]
      by_cases y : j - bD ≤ i
      · rw [if_pos ⟨y, by omega⟩, if_pos (show (j : Int) - bD ≤ i by omega), ew, ← sa, show (i : Int) - ((j : Int) - bD) = ((i - (j - bD) : Nat) : Int) from by omega]
        grind
      · rw [if_neg (fun w => y w.1), if_neg (show ¬ (j : Int) - bD ≤ i by omega), ← sa]
        grind
    · rw [if_neg (show ¬ (i : Int) < j by omega), if_neg (by omega), hz i (by omega) (by omega), Int.zero_mul]
      rfl
section
variable {L j bD : Nat} {h B : Int → Int} {m0 : rz_M} {K : Int → rz_M → Prop} {X Y : Int}
/-- the slots that are written -/
def arP (L : Nat) (s : Nat) : Prop := s = 56 ∨ s = 57 ∨ s = 58 ∨ (7 * L ≤ s ∧ s ≤ 7 * L + 6)
theorem xy_l {x y : Int} (hx : bd x X) (hy : bd y Y) (lim : X * (2 * Y) ≤ LIM) : 2 * ((x.natAbs : Int) * (y.natAbs : Int)) ≤ LIM := by
  have := bd_n.mp (bd_mul hx hy)
  rw [Int.natAbs_mul, Int.natCast_mul] at this
  have e : X * (2 * Y) = 2 * (X * Y) := by grind
  omega
theorem l_M_ar178 (hL : 2 ≤ L ∧ L ≤ 6) (hbj : bD ≤ j) (hj : j ≤ 6) {al w2 : Int} (hX : ∀ i : Int, 0 ≤ i → i < 7 → bd (h i) X) (hY : ∀ i : Int, 0 ≤ i → i < 7 → bd (B i) Y) (hal : bd al Y) (hw2 : bd w2 X) (lim : X * (2 * Y) ≤ LIM) (hB : ∀ i : Nat, i ≤ 6 → MV m0 (7 * (L - 1) + i) (B i)) {v1 : Int} (hK : ∀ m' : rz_M, frQ (arP L) m0 m' → (∀ i : Nat, i ≤ 6 → MV m' (7 * L + i) (h i * al + (if j - bD ≤ i ∧ i < j - bD + (bD + 1) then B ((i - (j - bD) : Nat) : Int) * w2 else 0))) → rz_E y_M_addRest 72 [rR 221, rI v1, rX 0, rI ((7 * (L - 1) : Nat) : Int), rI ((7 * L : Nat) : Int), rX 0, rI bD, rI ((j : Int) - 1), rX 0] [] m' K) : ∀ (r i : Nat) (m : rz_M), bD + 1 - i = r → i ≤ bD + 1 → frQ (arP L) m0 m → MV m 57 w2 → (∀ i' : Nat, i' ≤ 6 → MV m (7 * L + i') (h i' * al + (if j - bD ≤ i' ∧ i' < j - bD + i then B ((i' - (j - bD) : Nat) : Int) * w2 else 0))) → rz_E y_M_addRest 178 [rR 221, rI v1, rX 0, rI ((7 * (L - 1) : Nat) : Int), rI ((7 * L : Nat) : Int), rX 0, rI bD, rI j, rI i] [] m K := by
  have lq := LIM_qw4
  have l0 := LIM_pos
  intro r
  induction r with
  | zero =>
    intro i m hr hi hf h57 hv
    have e : i = bD + 1 := by omega
    subst e
    refine T_M_addRest_178 _ _ _ _ _ _ _ _ (bt (by omega) ?_)
    rw [w32_id (by omega) (by omega), show (j : Int) + -1 = (j : Int) - 1 from by omega]
    exact hK m hf hv
  | succ r ih =>
    intro i m hr hi hf h57 hv
    have bi := hY i (by omega) (by omega)
    have vb := MV_kq (hB i (by omega)) hf (by omega) (by unfold arP; omega)
    have xy := xy_l hw2 bi lim
    refine T_M_addRest_178 _ _ _ _ _ _ _ _ (bf (by omega) ?_)
    rw [w32_id (z := ((7 * (L - 1) : Nat) : Int) + i) (by omega) (by omega), show ((7 * (L - 1) : Nat) : Int) + (i : Int) = ((7 * (L - 1) + i : Nat) : Int) from by omega, w32_id (z := ((7 * L : Nat) : Int) + j) (by omega) (by omega), w32_id (z := ((7 * L : Nat) : Int) + j - bD) (by omega) (by omega), w32_id (z := ((7 * L : Nat) : Int) + j - bD + i) (by omega) (by omega), show ((7 * L : Nat) : Int) + (j : Int) - (bD : Int) + (i : Int) = ((7 * L + (j - bD + i) : Nat) : Int) from by omega, w32_id (z := (i : Int) + 1) (by omega) (by omega)]
    refine c_M_timesBig (a := 7 * (L - 1) + i) (b := 57) (t := 56) (by omega) (by decide) (by decide) (by omega) (by decide) vb h57 (by rw [Int.mul_comm]; omega) (fun m1 f1 b1 => ?_)
    have vt := MV_kp (hv (j - bD + i) (by omega)) f1 (by omega)
    rw [if_neg (by omega), Int.add_zero] at vt
    have xa := xy_l (hX ((j - bD + i : Nat) : Int) (by omega) (by omega)) hal lim
    refine c_M_plusBig (a := 7 * L + (j - bD + i)) (b := 56) (by omega) (by decide) (by omega) vt b1 ?_ (fun m2 f2 b2 => ?_)
    · rw [Int.natAbs_mul, Int.natAbs_mul, Int.natCast_mul, Int.natCast_mul, Int.mul_comm ((B i).natAbs : Int)]
      omega
    · refine ih (i + 1) m2 (by omega) (by omega) (frQ_st (by unfold arP; omega) (frQ_st (by unfold arP; omega) hf f1) f2) (MV_kp (MV_kp h57 f1 (by decide)) f2 (by omega)) (fun i' hi' => ?_)
      by_cases q : i' = j - bD + i
      · subst q
        rw [if_pos ⟨by omega, by omega⟩, show ((j - bD + i - (j - bD) : Nat) : Int) = i from by omega]
        exact b2
      · have b' := MV_kp (MV_kp (hv i' hi') f1 (by omega)) f2 (by omega)
        have e : (if j - bD ≤ i' ∧ i' < j - bD + i then B ((i' - (j - bD) : Nat) : Int) * w2 else 0) = (if j - bD ≤ i' ∧ i' < j - bD + (i + 1) then B ((i' - (j - bD) : Nat) : Int) * w2 else 0) := by
          by_cases z : j - bD ≤ i' ∧ i' < j - bD + i
          · rw [if_pos z, if_pos ⟨z.1, by omega⟩]
          · rw [if_neg z, if_neg (by omega)]
        rw [e] at b'
        exact b'
theorem l_M_ar137 (hL : 2 ≤ L ∧ L ≤ 6) (hj : j ≤ 6) {al w2 : Int} (hX : ∀ i : Int, 0 ≤ i → i < 7 → bd (h i) X) (hz : ∀ i : Int, (j : Int) < i → i < 7 → h i = 0) (hal : bd al Y) (lim : X * (2 * Y) ≤ LIM) {v1 : Int} (hK : ∀ m' : rz_M, frQ (arP L) m0 m' → MV m' 57 w2 → (∀ i : Nat, i ≤ 6 → MV m' (7 * L + i) (h i * al)) → rz_E y_M_addRest 178 [rR 221, rI v1, rX 0, rI ((7 * (L - 1) : Nat) : Int), rI ((7 * L : Nat) : Int), rX 0, rI bD, rI j, rI 0] [] m' K) : ∀ (r i : Nat) (m : rz_M), j + 1 - i = r → i ≤ j + 1 → frQ (arP L) m0 m → MV m 57 w2 → MV m 58 al → (∀ i' : Nat, i' ≤ 6 → MV m (7 * L + i') (if i' < i then h i' * al else h i')) → rz_E y_M_addRest 137 [rR 221, rI v1, rX 0, rI ((7 * (L - 1) : Nat) : Int), rI ((7 * L : Nat) : Int), rX 0, rI bD, rI j, rI i] [] m K := by
  have lq := LIM_qw4
  have l0 := LIM_pos
  intro r
  induction r with
  | zero =>
    intro i m hr hi hf h57 h58 hv
    have e : i = j + 1 := by omega
    subst e
    refine T_M_addRest_137 _ _ _ _ _ _ _ _ (bt (by omega) (hK m hf h57 (fun i' hi' => ?_)))
    have := hv i' hi'
    by_cases q : i' < j + 1
    · rwa [if_pos q] at this
    · rw [if_neg q] at this
      rw [hz i' (by omega) (by omega)] at this ⊢
      rw [Int.zero_mul]
      exact this
  | succ r ih =>
    intro i m hr hi hf h57 h58 hv
    have vi := hv i (by omega)
    rw [if_neg (by omega)] at vi
    have xa := xy_l (hX i (by omega) (by omega)) hal lim
    refine T_M_addRest_137 _ _ _ _ _ _ _ _ (bf (by omega) ?_)
    rw [w32_id (z := ((7 * L : Nat) : Int) + i) (by omega) (by omega), show ((7 * L : Nat) : Int) + (i : Int) = ((7 * L + i : Nat) : Int) from by omega, w32_id (z := (i : Int) + 1) (by omega) (by omega)]
    refine c_M_timesBig (a := 7 * L + i) (b := 58) (t := 56) (by omega) (by decide) (by decide) (by omega) (by decide) vi h58 (by omega) (fun m1 f1 b1 => c_M_copyBig (a := 56) (b := 7 * L + i) (by decide) (by omega) (by omega) b1 (Or.inl rfl) (fun m2 f2 b2 => ?_))
    rw [if_pos rfl] at b2
    refine ih (i + 1) m2 (by omega) (by omega) (frQ_st (by unfold arP; omega) (frQ_st (by unfold arP; omega) hf f1) f2) (MV_kp (MV_kp h57 f1 (by decide)) f2 (by omega)) (MV_kp (MV_kp h58 f1 (by decide)) f2 (by omega)) (fun i' hi' => ?_)
    by_cases q : i' = i
    · subst q
      rw [if_pos (by omega)]
      exact b2
    · have b' := MV_kp (MV_kp (hv i' hi') f1 (by omega)) f2 (by omega)
      have e : (if i' < i then h i' * al else h i') = (if i' < i + 1 then h i' * al else h i') := by
        by_cases z : i' < i
        · rw [if_pos z, if_pos (by omega)]
        · rw [if_neg z, if_neg (by omega)]
      rw [e] at b'
      exact b'
/-- one place -/
theorem l_M_arlow (hL : 2 ≤ L ∧ L ≤ 6) (hbj : bD ≤ j) (hj : j ≤ 6) (hX : ∀ i : Int, 0 ≤ i → i < 7 → bd (h i) X) (hY : ∀ i : Int, 0 ≤ i → i < 7 → bd (B i) Y) (hz : ∀ i : Int, (j : Int) < i → i < 7 → h i = 0) (B0 : B bD ≠ 0) (lim : X * (2 * Y) ≤ LIM) (hB : ∀ i : Nat, i ≤ 6 → MV m0 (7 * (L - 1) + i) (B i)) (hH : ∀ i : Nat, i ≤ 6 → MV m0 (7 * L + i) (h i)) {v1 : Int} (hK : ∀ m' : rz_M, frQ (arP L) m0 m' → (∀ i : Nat, i ≤ 6 → MV m' (7 * L + i) (lowF (B bD) (h j) h B j bD i)) → rz_E y_M_addRest 72 [rR 221, rI v1, rX 0, rI ((7 * (L - 1) : Nat) : Int), rI ((7 * L : Nat) : Int), rX 0, rI bD, rI ((j : Int) - 1), rX 0] [] m' K) : rz_E y_M_addRest 72 [rR 221, rI v1, rX 0, rI ((7 * (L - 1) : Nat) : Int), rI ((7 * L : Nat) : Int), rX 0, rI bD, rI j, rX 0] [] m0 K := by
  have s3 := sgn3 (B bD)
  have sb : m0 247 ((7 * (L - 1) + bD : Nat) : Int) = (B bD).sign := (hB bD (by omega)).2.1
  have bB := hY bD (by omega) (by omega)
  have go : ∀ s0 : Int, (s0 = 0 ∨ s0 = 1) → (s0 = if (B bD).sign ≤ 0 then 0 else 1) → rz_E y_M_addRest 104 [rR 221, rI v1, rX 0, rI ((7 * (L - 1) : Nat) : Int), rI ((7 * L : Nat) : Int), rX 0, rI bD, rI j, rX 0] [rI s0, rI 57, rI ((7 * L + j : Nat) : Int), rR 221] m0 K := fun s0 hs hs2 => by
    refine T_M_addRest_104 _ _ _ _ _ _ _ _ _ _ (c_M_copyBig (a := 7 * L + j) (b := 57) (by omega) (by decide) (by omega) (hH j hj) hs (fun m1 f1 b1 => ?_))
    rw [w32_id (z := ((7 * (L - 1) : Nat) : Int) + bD) (by omega) (by omega), show ((7 * (L - 1) : Nat) : Int) + (bD : Int) = ((7 * (L - 1) + bD : Nat) : Int) from by omega]
    have vB1 := MV_kp (hB bD (by omega)) f1 (by omega)
    rw [vB1.2.1]
    have ew : (if s0 = 0 then h j else -(h j)) = (if (B bD).sign ≤ 0 then h j else -(h j)) := by
      rw [hs2]
      by_cases q : (B bD).sign ≤ 0
      · rw [if_pos q, if_pos q, if_pos rfl]
      · rw [if_neg q, if_neg q, if_neg (by decide)]
    rw [ew] at b1
    have bw : bd (if (B bD).sign ≤ 0 then h j else -(h j)) X := by
      have := hX j (by omega) (by omega)
      split
      · exact this
      · exact bd_neg this
    have nx : ∀ (m2 : rz_M) (al : Int), frS 58 m1 m2 → MV m2 58 al → al = (B bD).natAbs → rz_E y_M_addRest 137 [rR 221, rI v1, rX 0, rI ((7 * (L - 1) : Nat) : Int), rI ((7 * L : Nat) : Int), rX 0, rI bD, rI j, rI 0] [] m2 K := fun m2 al f2 b2 hal => by
      have hal' : bd al Y := by
        have := bd_n.mp bB
        rw [bd_n, hal, Int.natAbs_natCast]
        exact this
      have hf2 : frQ (arP L) m0 m2 := frQ_st (by unfold arP; omega) (frQ_st (by unfold arP; omega) (frQ_rf _ m0) f1) f2
      refine l_M_ar137 (m0 := m0) (w2 := (if (B bD).sign ≤ 0 then h j else -(h j))) hL hj hX hz hal' lim (fun m3 f3 h57 v3 => ?_) (j + 1) 0 m2 rfl (Nat.zero_le _) hf2 (MV_kp b1 f2 (by decide)) b2 (fun i' hi' => ?_)
      · refine l_M_ar178 (m0 := m0) (al := al) hL hbj hj hX hY hal' bw lim hB (fun m4 f4 v4 => hK m4 f4 (fun i hi => ?_)) (bD + 1) 0 m3 rfl (Nat.zero_le _) f3 h57 (fun i' hi' => ?_)
        · have := v4 i hi
          rw [hal, lowF_M hbj B0 rfl hz rfl i hi] at this
          exact this
        · rw [if_neg (by omega), Int.add_zero]
          exact v3 i' hi'
      · rw [if_neg (by omega)]
        exact MV_kp (MV_kp (hH i' hi') f1 (by omega)) f2 (by omega)
    refine ⟨⟨by omega, by omega⟩, bb (fun q => c_M_copyBig (a := 7 * (L - 1) + bD) (b := 58) (by omega) (by decide) (by omega) vB1 (Or.inl rfl) (fun m2 f2 b2 => nx m2 _ f2 b2 ?_)) (fun q => c_M_copyBig (a := 7 * (L - 1) + bD) (b := 58) (by omega) (by decide) (by omega) vB1 (Or.inr rfl) (fun m2 f2 b2 => nx m2 _ f2 b2 ?_))⟩
    · rw [if_pos rfl]; omega
    · rw [if_neg (by decide)]; omega
  refine T_M_addRest_72 _ _ _ _ _ _ _ (bf (by omega) ?_)
  rw [w32_id (z := ((7 * (L - 1) : Nat) : Int) + bD) (by omega) (by omega), show ((7 * (L - 1) : Nat) : Int) + (bD : Int) = ((7 * (L - 1) + bD : Nat) : Int) from by omega, sb, w32_id (z := ((7 * L : Nat) : Int) + j) (by omega) (by omega), show ((7 * L : Nat) : Int) + (j : Int) = ((7 * L + j : Nat) : Int) from by omega]
  exact ⟨⟨by omega, by omega⟩, bb (fun q => go 0 (Or.inl rfl) (by rw [if_pos q])) (fun q => go 1 (Or.inr rfl) (by rw [if_neg q]))⟩
end
