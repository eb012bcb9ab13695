/-! both sides alike: discriminant -/
def sq4 (g : Int → Int) : Int := 12 * g 4 * g 0 - 3 * g 3 * g 1 + g 2 * g 2
def cb4 (g : Int → Int) : Int := 72 * g 4 * g 2 * g 0 + 9 * g 3 * g 2 * g 1 - 27 * g 4 * g 1 * g 1 - 27 * g 0 * g 3 * g 3 - 2 * g 2 * g 2 * g 2
def dis2 (g : Int → Int) : Int := g 1 * g 1 - 4 * g 2 * g 0
def dis3 (g : Int → Int) : Int := g 2 * g 2 * g 1 * g 1 - 4 * g 3 * g 1 * g 1 * g 1 - 4 * g 2 * g 2 * g 2 * g 0 - 27 * g 3 * g 3 * g 0 * g 0 + 18 * g 3 * g 2 * g 1 * g 0
def d4a (a b c d e : Int) : Int := 256 * a * a * a * e * e * e - 192 * a * a * b * d * e * e - 128 * a * a * c * c * e * e + 144 * a * a * c * d * d * e - 27 * a * a * d * d * d * d
def d4b (a b c d e : Int) : Int := 144 * a * b * b * c * e * e - 6 * a * b * b * d * d * e - 80 * a * b * c * c * d * e + 18 * a * b * c * d * d * d + 16 * a * c * c * c * c * e - 4 * a * c * c * c * d * d
def d4c (b c d e : Int) : Int := - (27 * b * b * b * b * e * e) + 18 * b * b * b * c * d * e - 4 * b * b * b * d * d * d - 4 * b * b * c * c * c * e + b * b * c * c * d * d
def dis4 (g : Int → Int) : Int := d4a (g 4) (g 3) (g 2) (g 1) (g 0) + d4b (g 4) (g 3) (g 2) (g 1) (g 0) + d4c (g 3) (g 2) (g 1) (g 0)
theorem dis4_27 (g : Int → Int) : 4 * sq4 g * sq4 g * sq4 g - cb4 g * cb4 g = 27 * dis4 g := by
  unfold sq4 cb4 dis4 d4a d4b d4c
  generalize g 0 = e
  generalize g 1 = d
  generalize g 2 = c
  generalize g 3 = b
  generalize g 4 = a
  grind
/-- what the class answers for a row of degree n -/
def disC (n : Int) (g : Int → Int) : Int :=
  if n = 2 then w64 (dis2 g) else if n = 3 then w64 (dis3 g) else if n = 4 then w64 (Int.tdiv (w64 (4 * sq4 g * sq4 g * sq4 g - cb4 g * cb4 g)) 27) else 1
theorem c_RC_discOf {a : Nat} (ha : isL a 7) {n : Int} {m : rz_M} {K : Int → rz_M → Prop} (h : K (disC n (m a)) m) : rz_C y_RC_discriminantOf [rR a, rI n] m K := by
  have hl := ha.2
  have hk := ha.1
  unfold disC at h
  refine T_RC_discriminantOf_0 _ _ _ _ (bb (fun z2 => bb (fun z3 => bb (fun z4 => ?_) (fun z4 => ?_)) (fun z3 => ?_)) (fun z2 => ?_))
  · rw [if_neg z2, if_neg z3, if_neg z4] at h
    exact h
  · rw [if_neg z2, if_neg z3, if_pos (Decidable.of_not_not z4)] at h
    refine ⟨hk, ⟨by omega, by omega⟩, hk, ⟨by omega, by omega⟩, hk, ⟨by omega, by omega⟩, hk, ⟨by omega, by omega⟩, hk, ⟨by omega, by omega⟩, hk, ⟨by omega, by omega⟩, T_RC_discriminantOf_163 _ _ _ _ ⟨hk, ⟨by omega, by omega⟩, hk, ⟨by omega, by omega⟩, hk, ⟨by omega, by omega⟩, hk, ⟨by omega, by omega⟩, hk, ⟨by omega, by omega⟩, hk, ⟨by omega, by omega⟩, hk, ⟨by omega, by omega⟩, hk, ⟨by omega, by omega⟩, hk, ⟨by omega, by omega⟩, hk, ⟨by omega, by omega⟩, hk, ⟨by omega, by omega⟩, hk, ⟨by omega, by omega⟩, hk, ⟨by omega, by omega⟩, hk, ⟨by omega, by omega⟩, hk, ⟨by omega, by omega⟩, T_RC_discriminantOf_244 _ _ _ _ ⟨by decide, ?_⟩⟩⟩
    simp only [w64_addl, w64_addr, w64_mull, w64_mulr, w64_subl, w64_subr, w64_w64]
    exact h
  · rw [if_neg z2, if_pos (Decidable.of_not_not z3)] at h
    refine ⟨hk, ⟨by omega, by omega⟩, hk, ⟨by omega, by omega⟩, hk, ⟨by omega, by omega⟩, hk, ⟨by omega, by omega⟩, hk, ⟨by omega, by omega⟩, hk, ⟨by omega, by omega⟩, hk, ⟨by omega, by omega⟩, hk, ⟨by omega, by omega⟩, hk, ⟨by omega, by omega⟩, hk, ⟨by omega, by omega⟩, hk, ⟨by omega, by omega⟩, hk, ⟨by omega, by omega⟩, hk, ⟨by omega, by omega⟩, hk, ⟨by omega, by omega⟩, hk, ⟨by omega, by omega⟩, hk, ⟨by omega, by omega⟩, hk, ⟨by omega, by omega⟩, hk, ⟨by omega, by omega⟩, hk, ⟨by omega, by omega⟩, hk, ⟨by omega, by omega⟩, ?_⟩
    simp only [w64_addl, w64_addr, w64_mull, w64_mulr, w64_subl, w64_subr, w64_w64]
    exact h
  · rw [if_pos (Decidable.of_not_not z2)] at h
    refine ⟨hk, ⟨by omega, by omega⟩, hk, ⟨by omega, by omega⟩, hk, ⟨by omega, by omega⟩, hk, ⟨by omega, by omega⟩, ?_⟩
    simp only [w64_addl, w64_addr, w64_mull, w64_mulr, w64_subl, w64_subr, w64_w64]
    exact h
theorem nab {a b : Int} {A B : Nat} (ha : a.natAbs ≤ A) (hb : b.natAbs ≤ B) : (a * b).natAbs ≤ A * B := by
  rw [Int.natAbs_mul]
  exact Nat.mul_le_mul ha hb
theorem dis4_w {g : Int → Int} (h : sm g) : w64 (Int.tdiv (w64 (4 * sq4 g * sq4 g * sq4 g - cb4 g * cb4 g)) 27) = w64 (dis4 g) := by
  have n0 : (g 0).natAbs ≤ 100 := by have := h 0 (by decide) (by decide); omega
  have n1 : (g 1).natAbs ≤ 100 := by have := h 1 (by decide) (by decide); omega
  have n2 : (g 2).natAbs ≤ 100 := by have := h 2 (by decide) (by decide); omega
  have n3 : (g 3).natAbs ≤ 100 := by have := h 3 (by decide) (by decide); omega
  have n4 : (g 4).natAbs ≤ 100 := by have := h 4 (by decide) (by decide); omega
  have s : (sq4 g).natAbs ≤ 160000 := by
    have a1 := nab (nab (show (12 : Int).natAbs ≤ 12 by decide) n4) n0
    have a2 := nab (nab (show (3 : Int).natAbs ≤ 3 by decide) n3) n1
    have a3 := nab n2 n2
    unfold sq4
    omega
  have c : (cb4 g).natAbs ≤ 137000000 := by
    have a1 := nab (nab (nab (show (72 : Int).natAbs ≤ 72 by decide) n4) n2) n0
    have a2 := nab (nab (nab (show (9 : Int).natAbs ≤ 9 by decide) n3) n2) n1
    have a3 := nab (nab (nab (show (27 : Int).natAbs ≤ 27 by decide) n4) n1) n1
    have a4 := nab (nab (nab (show (27 : Int).natAbs ≤ 27 by decide) n0) n3) n3
    have a5 := nab (nab (nab (show (2 : Int).natAbs ≤ 2 by decide) n2) n2) n2
    unfold cb4
    omega
  have b1 := nab (nab (nab (show (4 : Int).natAbs ≤ 4 by decide) s) s) s
  have b2 := nab c c
  rw [w64_id (z := 4 * sq4 g * sq4 g * sq4 g - cb4 g * cb4 g) (by omega) (by omega), dis4_27, Int.mul_tdiv_cancel_left _ (by decide)]
theorem c_M_three {a b c d : Int} {m : rz_M} {K : Int → rz_M → Prop} (h : K (w64 (b * b * c * c - 4 * a * c * c * c - 4 * b * b * b * d - 27 * a * a * d * d + 18 * a * b * c * d)) m) : rz_C y_M_three [rL a, rL b, rL c, rL d] m K := by
  refine T_M_three_0 _ _ _ _ _ _ ?_
  simp only [w64_addl, w64_addr, w64_mull, w64_mulr, w64_subl, w64_subr, w64_w64]
  exact h
theorem c_M_fourOf {a b c d e : Int} {m : rz_M} {K : Int → rz_M → Prop} (h : K (w64 (d4a a b c d e + d4b a b c d e + d4c b c d e)) m) : rz_C y_M_fourOf [rL a, rL b, rL c, rL d, rL e] m K := by
  refine T_M_fourOf_0 _ _ _ _ _ _ _ ?_
  simp only [w64_addl, w64_addr, w64_mull, w64_mulr, w64_subl, w64_subr, w64_w64]
  have e1 : ∀ x y : Int, x = y → K (w64 x) m → K (w64 y) m := fun x y e k => e ▸ k
  refine e1 _ _ ?_ h
  unfold d4a d4b d4c
  omega
theorem p_discriminant (r : Int) (m : rz_M) (hI : Inv m) : pairOK y_RC_discriminant y_M_discriminant [rI r] m := by
  have hT := Inv_thr (z := 0) hI
  have fin : ∀ z : Int, z = z ∧ Inv (rz_up m 221 0 0) ∧ rz_up m 221 0 0 400 = m 400 := fun z => ⟨rfl, hT, up_ne (by decide)⟩
  have rwT : ∀ r : Int, rwM (rz_up m 221 0 0) r = rwM m r := fun r => by unfold rwM; rw [up_ne (by decide)]
  have bad : ¬ ((0 ≤ r ∧ r < 10) ∧ (1 ≤ dg (rwM m r) ∧ sm (rwM m r)) ∧ dg (rwM m r) ≤ 4) → rz_C y_M_discriminant [rR 221, rI r] m (fun r2 m2 => -9223372036854775808 = r2 ∧ Inv m2 ∧ m2 400 = m 400) := fun hn =>
    T_M_discriminant_0 _ _ _ (c_M_isRow (fun q1 q2 => b1t (c_M_isSmall ⟨q1, q2⟩ (fun s1 s2 => b1t (c_M_degreeOf ⟨q1, q2⟩ (bb (fun z => absurd ⟨⟨q1, q2⟩, by rw [rwT] at s1 s2; exact ⟨s1, s2⟩, by rw [rwT] at z; exact z⟩ hn) (fun _ => fin _)))) (fun _ => b0t (fin _)))) (fun _ => b0t (fin _)))
  refine T_RC_discriminant_0 _ _ _ (c_RC_isRow (fun q1 q2 => b1t ⟨⟨q1, q2⟩, c_RC_isSmall (isL_row ⟨q1, q2⟩) (fun d1 d2 => b1t ⟨⟨q1, q2⟩, c_RC_degreeOf (isL_row ⟨q1, q2⟩) (bb (fun d3 => ⟨⟨q1, q2⟩, ⟨q1, q2⟩, c_RC_degreeOf (isL_row ⟨q1, q2⟩) (c_RC_discOf (isL_row ⟨q1, q2⟩) ?_)⟩) (fun d3 => bad (fun z => d3 (by rw [dg_eq hI ⟨q1, q2⟩]; exact z.2.2)))) ⟩) (fun q => b0t (bad (fun z => q ⟨by rw [dg_eq hI ⟨q1, q2⟩]; exact z.2.1.1, (sm_eq hI ⟨q1, q2⟩).mpr z.2.1.2⟩)))⟩) (fun q => b0t (bad (fun z => q z.1))))
  have hr := And.intro q1 q2
  have hde := dg_eq hI hr
  have hs2 := (sm_eq hI hr).mp d2
  have ev := fun j a b => row_eq hI hr (j := j) ⟨a, b⟩
  generalize dg (m (rz_R 1 r)) = n at d1 d3 hde
  refine T_M_discriminant_0 _ _ _ (c_M_isRow (fun _ _ => b1t (c_M_isSmall hr (fun _ _ => b1t (c_M_degreeOf hr (bt (by rw [rwT, ← hde]; exact d3) (c_M_degreeOf hr ?_)))) (fun z => absurd (by rw [rwT, ← hde]; exact ⟨d1, hs2⟩) z))) (fun z => absurd hr z))
  rw [rwT, ← hde, up_ne (by decide), w32_id (z := 7 * r) (by omega) (by omega), w32_id (z := 7 * r + 1) (by omega) (by omega), w32_id (z := 7 * r + 2) (by omega) (by omega), w32_id (z := 7 * r + 3) (by omega) (by omega), w32_id (z := 7 * r + 4) (by omega) (by omega)]
  have ev0 := ev 0 (by decide) (by decide)
  rw [Int.add_zero] at ev0
  rw [← ev0, ← ev 1 (by decide) (by decide), ← ev 2 (by decide) (by decide), ← ev 3 (by decide) (by decide), ← ev 4 (by decide) (by decide)]
  refine ⟨fun z => ?_, fun z => ?_, fun z => ?_, fun z => ?_, trivial⟩
  · have e : n = 4 := by omega
    subst e
    refine ⟨⟨by omega, by omega⟩, ⟨by omega, by omega⟩, ⟨by omega, by omega⟩, ⟨by omega, by omega⟩, ⟨by omega, by omega⟩, c_M_fourOf ⟨?_, hT, up_ne (by decide)⟩⟩
    exact dis4_w d2
  · subst z
    exact fin _
  · have e : n = 2 := by omega
    subst e
    refine ⟨⟨by omega, by omega⟩, ⟨by omega, by omega⟩, ⟨by omega, by omega⟩, ⟨by omega, by omega⟩, ?_, hT, up_ne (by decide)⟩
    simp only [w64_addl, w64_addr, w64_mull, w64_mulr, w64_subl, w64_subr, w64_w64]
    show w64 (dis2 _) = _
    refine congrArg w64 ?_
    unfold dis2
    grind
  · have e : n = 3 := by omega
    subst e
    refine ⟨⟨by omega, by omega⟩, ⟨by omega, by omega⟩, ⟨by omega, by omega⟩, ⟨by omega, by omega⟩, c_M_three ⟨?_, hT, up_ne (by decide)⟩⟩
    rfl
