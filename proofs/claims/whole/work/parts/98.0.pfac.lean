/-! factors: both sides answer the same -/
theorem l_M_cp91 {k c : Int} (hk : 0 ≤ k ∧ k < 6) {m0 : rz_M} {K : Int → rz_M → Prop} (h : ∀ m' : rz_M, (∀ i, i ≠ 231 → m' i = m0 i) → (∀ j : Int, 0 ≤ j → j < 7 → m' 231 (7 * k + j) = m0 225 (7 * k + j)) → (∀ y : Int, y < 7 * k → m' 231 y = m0 231 y) → rz_E y_M_factors 57 [rR 221, rX 0, rI (k + 1), rX 0] [] m' K) : ∀ (r : Nat) (j : Int) (m : rz_M), 7 - j = r → 0 ≤ j → (∀ i, i ≠ 231 → m i = m0 i) → (∀ i : Int, 0 ≤ i → i < j → m 231 (7 * k + i) = m0 225 (7 * k + i)) → (∀ y : Int, y < 7 * k → m 231 y = m0 231 y) → rz_E y_M_factors 91 [rR 221, rX 0, rI k, rI j] [] m K
  | 0, j, m, hr, j0, hf, h1, h2 => by
    refine T_M_factors_91 _ _ _ _ (bt (by omega) ?_)
    rw [w32_id (by omega) (by omega)]
    exact h m hf (fun i i0 i1 => h1 i i0 (by omega)) h2
  | r + 1, j, m, hr, j0, hf, h1, h2 => by
    refine T_M_factors_91 _ _ _ _ (bf (by omega) ?_)
    rw [w32_id (z := 7 * k) (by omega) (by omega), w32_id (z := 7 * k + j) (by omega) (by omega), w32_id (z := j + 1) (by omega) (by omega), hf 225 (by decide)]
    refine ⟨⟨by omega, by omega⟩, ⟨by omega, by omega⟩, l_M_cp91 (c := c) hk h r (j + 1) _ (by omega) (by omega) (fun i hi => by rw [up_ne hi]; exact hf i hi) (fun i i0 i1 => ?_) (fun y hy => by rw [up_nj (by omega)]; exact h2 y hy)⟩
    by_cases w : i = j
    · rw [w, up_eq]
    · rw [up_nj (by omega)]; exact h1 i i0 (by omega)
theorem l_M_cp57 {c : Int} (hc : 0 ≤ c ∧ c ≤ 6) {m0 : rz_M} (ec : m0 221 9 = c) {K : Int → rz_M → Prop} (h : ∀ m' : rz_M, (∀ i, i ≠ 231 → i ≠ 232 → i ≠ 233 → m' i = m0 i) → (∀ k : Int, 0 ≤ k → k < c → m' 232 k = m0 226 k ∧ m' 233 k = m0 227 k ∧ ∀ j : Int, 0 ≤ j → j < 7 → m' 231 (7 * k + j) = m0 225 (7 * k + j)) → K c (rz_up m' 221 1 0)) : ∀ (r : Nat) (k : Int) (m : rz_M), c - k = r → 0 ≤ k → (∀ i, i ≠ 231 → i ≠ 232 → i ≠ 233 → m i = m0 i) → (∀ i : Int, 0 ≤ i → i < k → m 232 i = m0 226 i ∧ m 233 i = m0 227 i ∧ ∀ j : Int, 0 ≤ j → j < 7 → m 231 (7 * i + j) = m0 225 (7 * i + j)) → rz_E y_M_factors 57 [rR 221, rX 0, rI k, rX 0] [] m K := by
  intro r
  induction r with
  | zero =>
    intro k m hr k0 hf hv
    refine T_M_factors_57 _ _ _ ?_
    rw [hf 221 (by decide) (by decide) (by decide), ec]
    refine bt (by omega) (c_M_said ?_)
    rw [if_neg (by omega)]
    exact h m hf (fun i i0 i1 => hv i i0 (by omega))
  | succ r ih =>
    intro k m hr k0 hf hv
    refine T_M_factors_57 _ _ _ ?_
    rw [hf 221 (by decide) (by decide) (by decide), ec, hf 226 (by decide) (by decide) (by decide), hf 227 (by decide) (by decide) (by decide)]
    refine bf (by omega) ⟨⟨k0, by omega⟩, ⟨k0, by omega⟩, ⟨k0, by omega⟩, ⟨k0, by omega⟩, l_M_cp91 (c := c) ⟨k0, by omega⟩ (fun m' f' v' o' => ih (k + 1) m' (by omega) (by omega) (fun i i1 i2 i3 => by rw [f' i i1, up_ne i3, up_ne i2]; exact hf i i1 i2 i3) (fun i i0 i1 => ?_)) 7 0 _ (by decide) (by decide) (fun _ _ => rfl) (fun i i0 i1 => by omega) (fun _ _ => rfl)⟩
    by_cases w : i = k
    · subst w
      refine ⟨?_, ?_, fun j j0 j1 => ?_⟩
      · rw [f' 232 (by decide), up_ne (by decide), up_eq]
      · rw [f' 233 (by decide), up_eq]
      · rw [v' j j0 j1, up_ne (by decide), up_ne (by decide), hf 225 (by decide) (by decide) (by decide)]
    · obtain ⟨x1, x2, x3⟩ := hv i i0 (by omega)
      refine ⟨?_, ?_, fun j j0 j1 => ?_⟩
      · rw [f' 232 (by decide), up_ne (by decide), up_nj w]; exact x1
      · rw [f' 233 (by decide), up_nj w, up_ne (by decide)]; exact x2
      · rw [o' _ (by omega), up_ne (by decide), up_ne (by decide)]; exact x3 j j0 j1
section
variable {R : Type}
/-- the primitive row is one -/
theorem core_uq [Lean.Grind.CommRing R] {co : R → Nat → Int} {mk : Nat → (Nat → Int) → R} (H : PolyR co mk) {f1 f2 : Int → Int} {D g1 g2 : Int} (h1 : core co mk f1 D) (h2 : core co mk f2 D) (z1 : g1 ≠ 0) (z2 : g2 ≠ 0) (e : ∀ j : Int, 0 ≤ j → j < 7 → g1 * f1 j = g2 * f2 j) : g1 = g2 ∧ ∀ j : Int, 0 ≤ j → j < 7 → f1 j = f2 j := by
  have D06 := h1.1
  have ee : (mo mk 0 g1 * pR mk 7 f1 : R) = mo mk 0 g2 * pR mk 7 f2 := H.1 _ _ (fun k => by
    rw [co_C H, co_C H, co_pR H, co_pR H]
    by_cases q : k < 7
    · rw [if_pos q, if_pos q]; exact e k (by omega) (by omega)
    · rw [if_neg q, if_neg q, Int.mul_zero, Int.mul_zero])
  have d12 : zd (pR mk 7 f1) (pR mk 7 f2) := gauss H h1.2.2.2.2.2.2 g2.natAbs g2 (mo mk 0 g1) (Nat.le_refl _) z2 (by rw [← ee]; grind)
  have d21 : zd (pR mk 7 f2) (pR mk 7 f1) := gauss H h2.2.2.2.2.2.2 g1.natAbs g1 (mo mk 0 g2) (Nat.le_refl _) z1 (by rw [ee]; grind)
  have l1 := h1.2.1
  have l2 := h2.2.1
  have a1 := (zd_row H h2 D06 (by omega) h1.2.2.1 d12).2.1
  have a2 := (zd_row H h1 D06 (by omega) h2.2.2.1 d21).2.1
  have b1 := Int.le_of_dvd l2 a1
  have b2 := Int.le_of_dvd l1 a2
  have el : f1 D = f2 D := by omega
  have eg : g1 = g2 := by
    have := e D D06.1 (by omega)
    rw [el] at this
    exact Int.eq_of_mul_eq_mul_right (by omega) this
  refine ⟨eg, fun j j0 j1 => ?_⟩
  have := e j j0 j1
  rw [eg] at this
  exact Int.eq_of_mul_eq_mul_left z2 this
end
def FacZ (A : PZ) (L : List E3) : Prop := @FacL PZ rgPZ pzco pzK A L
def coreZ (f : Int → Int) (n : Int) : Prop := @core PZ pzco pzK f n
theorem z_RC_split {a : Nat} (ha : isL a 7) (hac : a ≠ 55 ∧ a ≠ 56) {m : rz_M} (hs : sm (m a)) (hd : 0 ≤ dg (m a)) {K : Int → rz_M → Prop}
    (h : ∀ (g : Int) (f1 : Int → Int) (m' : rz_M), g ≠ 0 → (∀ j : Int, 0 ≤ j → j < 7 → m a j = g * f1 j ∧ bd (f1 j) 100) → coreZ f1 (dg (m a)) → (∀ i : Nat, i ≠ 14 → (i < 14 + 2 ∨ 14 + 9 < i) → (i < 47 ∨ 63 < i) → m' i = m i) → m' 14 5 = g → (0 ≤ m' 14 4 ∧ m' 14 4 ≤ 6) → FacZ (pR pzK 7 f1) (ptl m' 14) → (ptl m' 14).Pairwise bef → K 0 m') : rz_C y_Sp_splitInto [rR 55, rR a, rR 14] m K :=
  @c_Sp_splitInto PZ rgPZ pzco pzK PZ_ok 14 (Or.inl rfl) a ha hac m hs hd K h
theorem z_M_fac {r : Int} (hr : 0 ≤ r ∧ r < 10) {m : rz_M} (hs : sm (rwM m r)) (hd : 0 ≤ dg (rwM m r)) {K : Int → rz_M → Prop}
    (h : ∀ (g : Int) (f1 : Int → Int) (m' : rz_M), g ≠ 0 → (∀ j : Int, 0 ≤ j → j < 7 → rwM m r j = g * f1 j ∧ bd (f1 j) 100) → coreZ f1 (dg (rwM m r)) → (∀ i : Nat, (i < 221 ∨ i = 222 ∨ i = 223 ∨ 230 < i) → m' i = m i) → (∀ y : Int, y ≠ 5 → y ≠ 9 → y ≠ 10 → m' 221 y = m 221 y) → m' 221 10 = g → (0 ≤ m' 221 9 ∧ m' 221 9 ≤ 6) → FacZ (pR pzK 7 f1) (mtl m') → (mtl m').Pairwise bef → K 0 m') : rz_C y_M_findFactors [rR 221, rI r] m K :=
  @c_M_findFactors PZ rgPZ pzco pzK PZ_ok r hr m hs hd K h
theorem z_core_uq {f1 f2 : Int → Int} {D g1 g2 : Int} (h1 : coreZ f1 D) (h2 : coreZ f2 D) (z1 : g1 ≠ 0) (z2 : g2 ≠ 0) (e : ∀ j : Int, 0 ≤ j → j < 7 → g1 * f1 j = g2 * f2 j) : g1 = g2 ∧ ∀ j : Int, 0 ≤ j → j < 7 → f1 j = f2 j :=
  @core_uq PZ rgPZ pzco pzK PZ_ok f1 f2 D g1 g2 h1 h2 z1 z2 e
theorem z_fac_eq {A : PZ} {L L' : List E3} (h : FacZ A L) (h' : FacZ A L') (s : L.Pairwise bef) (s' : L'.Pairwise bef) : L = L' :=
  @fac_eq PZ rgPZ pzco pzK PZ_ok A L L' h h' s s'
theorem z_pR {f g : Int → Int} (h : ∀ k : Int, 0 ≤ k → k < 7 → f k = g k) : (pR pzK 7 f : PZ) = pR pzK 7 g := @pR_congr PZ rgPZ pzco pzK PZ_ok 7 f g (fun k a b => h k a (by omega))
theorem map_at {F G : Nat → E3} {c : Nat} (h : (List.range c).map F = (List.range c).map G) : ∀ k, k < c → F k = G k := fun k hk => by
  have := congrArg (fun l => l[k]?) h
  simpa [hk] using this
theorem p_factors (a : Int) (m : rz_M) (hI : Inv m) : pairOK y_RC_factors y_M_factors [rI a] m := by
  have scU : ∀ m1 : rz_M, kpM m1 (rz_up m1 221 0 0) := fun m1 => ⟨fun i hi => up_ne (by omega), up_nj (by decide), up_nj (by decide)⟩
  have rw1 : ∀ M : rz_M, M 222 = m 222 → rwM M a = rwM m a := fun M h => by unfold rwM; rw [h]
  have bad1 : ¬ (0 ≤ a ∧ a < 10) → rz_C y_M_factors (rR 221 :: [rI a]) (rz_up m 0 10 (-1)) (fun r2 m2 => -1 = r2 ∧ Inv m2 ∧ m2 400 = m 400) := fun hn =>
    T_M_factors_0 _ _ _ (c_M_isRow (fun q1 q2 => absurd ⟨q1, q2⟩ hn) (fun _ => b0n (c_M_said ⟨rfl, fin_bad2 hI (fun _ _ => rfl) (scU _)⟩)))
  have bad2 : (0 ≤ a ∧ a < 10) → ¬ (1 ≤ dg (m (rz_R 1 a)) ∧ sm (m (rz_R 1 a))) → rz_C y_M_factors (rR 221 :: [rI a]) (rz_up m 0 10 (-2)) (fun r2 m2 => -2 = r2 ∧ Inv m2 ∧ m2 400 = m 400) := fun hr hn =>
    T_M_factors_0 _ _ _ (c_M_isRow (fun _ _ => b1n (c_M_isSmall hr (fun d s => absurd ⟨by rw [dg_eq hI hr]; rwa [rw1 _ (by rw [up_ne (by decide), up_ne (by decide)])] at d, (sm_eq hI hr).mpr (by rwa [rw1 _ (by rw [up_ne (by decide), up_ne (by decide)])] at s)⟩ hn) (fun _ => b0n (c_M_said ⟨rfl, fin_bad2 hI (fun _ _ => rfl) (scU _)⟩)))) (fun q => absurd hr q))
  refine T_RC_factors_0 _ _ _ (c_RC_isRow (fun q1 q2 => b1n ⟨⟨q1, q2⟩, c_RC_isSmall (isL_row ⟨q1, q2⟩) (fun d s => b1n ⟨⟨q1, q2⟩, ?_⟩) (fun n => b0n (c_RC_refuse (bad2 ⟨q1, q2⟩ n)))⟩) (fun q => b0n (c_RC_refuse (bad1 q))))
  have hr : 0 ≤ a ∧ a < 10 := ⟨q1, q2⟩
  have eR : rz_R 1 a = 2 + a.toNat := rfl
  refine z_RC_split (isL_row hr) (by omega) s (by omega) (fun g1 f1 m3 g10 e1 c1 fr c5 c4 L1 s1 => ?_)
  generalize hM0 : rz_up (rz_up m3 0 10 0) 221 0 0 = M0
  have e222 : M0 222 = m 222 := by rw [← hM0, up_ne (by decide), up_ne (by decide)]; exact fr 222 (by decide) (by decide) (by decide)
  have erw := rw1 M0 e222
  have dd : dg (rwM M0 a) = dg (m (rz_R 1 a)) := by rw [erw, dg_eq hI hr]
  have ss : sm (rwM M0 a) := by rw [erw]; exact (sm_eq hI hr).mp s
  refine T_M_factors_0 _ _ _ ?_
  rw [hM0]
  refine c_M_isRow (fun _ _ => b1n (c_M_isSmall hr (fun _ _ => b1n ?_) (fun n => absurd ⟨by omega, ss⟩ n))) (fun q => absurd hr q)
  refine z_M_fac hr ss (by omega) (fun g2 f2 m4 g20 e2 c2 fr4 fr41 c10 c9 L2 s2 => ?_)
  rw [dd] at c2
  have eqr : ∀ j : Int, 0 ≤ j → j < 7 → g1 * f1 j = g2 * f2 j := fun j j0 j1 => by
    rw [← (e1 j j0 j1).1, ← (e2 j j0 j1).1, erw]
    exact row_eq hI hr ⟨j0, j1⟩
  obtain ⟨eg, ef⟩ := z_core_uq c1 c2 g10 g20 eqr
  have eL : ptl m3 14 = mtl m4 := by
    rw [z_pR ef] at L1
    exact z_fac_eq L1 L2 s1 s2
  have len : m3 14 4 = m4 221 9 := by
    have := congrArg List.length eL
    unfold ptl mtl at this
    rw [List.length_map, List.length_map, List.length_range, List.length_range] at this
    omega
  have els : ∀ k : Nat, (k : Int) < m3 14 4 → elC m3 14 k = elM m4 k := fun k hk => by
    unfold ptl mtl at eL
    rw [← len] at eL
    exact map_at eL k (by omega)
  refine l_M_cp57 (c := m4 221 9) c9 (m0 := rz_up (rz_up m4 221 17 (m4 221 9)) 221 18 ((rz_up m4 221 17 (m4 221 9)) 221 10)) (by rw [up_nj (by decide), up_nj (by decide)]) (fun m5 f5 v5 => ?_) (m4 221 9).toNat 0 _ (by omega) (by decide) (fun _ _ _ _ => rfl) (fun i i0 i1 => by omega)
  -- cells
  have k5 : ∀ i : Nat, i ≠ 221 → i ≠ 231 → i ≠ 232 → i ≠ 233 → (i < 221 ∨ i = 222 ∨ i = 223 ∨ 230 < i) → i ≠ 0 → rz_up m5 221 1 0 i = m3 i := fun i a b c d e z => by
    rw [up_ne a, f5 i b c d, up_ne a, up_ne a, fr4 i e, ← hM0, up_ne a, up_ne z]
  have k0 : ∀ y : Int, y ≠ 10 → rz_up m5 221 1 0 0 y = m3 0 y := fun y hy => by
    rw [up_ne (by decide), f5 0 (by decide) (by decide) (by decide), up_ne (by decide), up_ne (by decide), fr4 0 (by decide), ← hM0, up_ne (by decide), up_nj hy]
  have k010 : rz_up m5 221 1 0 0 10 = 0 := by
    rw [up_ne (by decide), f5 0 (by decide) (by decide) (by decide), up_ne (by decide), up_ne (by decide), fr4 0 (by decide), ← hM0, up_ne (by decide), up_eq]
  have k17 : rz_up m5 221 1 0 221 17 = m4 221 9 := by
    rw [up_nj (by decide), f5 221 (by decide) (by decide) (by decide), up_nj (by decide), up_eq]
  have k18 : rz_up m5 221 1 0 221 18 = g2 := by
    rw [up_nj (by decide), f5 221 (by decide) (by decide) (by decide), up_eq, up_nj (by decide), c10]
  have e14 : rz_up m5 221 1 0 14 = m3 14 := k5 14 (by decide) (by decide) (by decide) (by decide) (by decide) (by decide)
  refine ⟨len, ⟨fun r r0 r1 => ?_, ?_, Or.inr ⟨?_, ?_, ?_, ?_, ?_, fun k k0' k1 => ?_⟩⟩, ?_⟩
  · have h1 := hI.1 r r0 r1
    have er : rz_R 1 r = 2 + r.toNat := rfl
    have x1 : rz_up m5 221 1 0 (rz_R 1 r) = m (rz_R 1 r) := by
      rw [k5 _ (by omega) (by omega) (by omega) (by omega) (by omega) (by omega)]
      exact fr _ (by omega) (by omega) (by omega)
    have x2 : rz_up m5 221 1 0 222 = m 222 := by
      rw [k5 222 (by decide) (by decide) (by decide) (by decide) (by decide) (by decide)]
      exact fr 222 (by decide) (by decide) (by decide)
    rw [x1, x2]
    exact h1
  · rw [k010, up_eq]
  · rw [e14]; exact c4.1
  · rw [e14]; exact c4.2
  · rw [k17, e14]; exact len.symm
  · rw [e14, c5]; exact g10
  · rw [k18, e14, c5]; exact eg.symm
  · rw [e14] at k1
    have ek := els k.toNat (by omega)
    have kk : ((k.toNat : Nat) : Int) = k := Int.toNat_of_nonneg k0'
    obtain ⟨x1, x2, x3⟩ := v5 k k0' (by omega)
    rw [up_ne (by decide), up_ne (by decide)] at x1 x2
    have c1' := congrArg (fun x : E3 => x.2.1) ek
    have c2' := congrArg (fun x : E3 => x.2.2) ek
    have c1'' : m3 22 (k.toNat : Int) = m4 226 (k.toNat : Int) := c1'
    have c2'' : m3 23 (k.toNat : Int) = m4 227 (k.toNat : Int) := c2'
    rw [kk] at c1'' c2''
    refine ⟨?_, ?_, fun j j0 j1 => ?_⟩
    · rw [k5 22 (by decide) (by decide) (by decide) (by decide) (by decide) (by decide), up_ne (by decide), x1]
      exact c1''
    · rw [k5 23 (by decide) (by decide) (by decide) (by decide) (by decide) (by decide), up_ne (by decide), x2]
      exact c2''
    · have y3 := x3 j j0 j1
      rw [up_ne (by decide), up_ne (by decide)] at y3
      have k6 : k.toNat < 6 := by omega
      rw [k5 (16 + k.toNat) (by omega) (by omega) (by omega) (by omega) (by omega) (by omega), up_ne (by decide), y3]
      have c3' : (elC m3 14 k.toNat).1 j = (elM m4 k.toNat).1 j := by rw [ek]
      rw [elM_at j0 j1, kk] at c3'
      have c4' : (elC m3 14 k.toNat).1 j = m3 (14 + 2 + k.toNat) j := cutf_in (f := m3 (14 + 2 + k.toNat)) j0 j1
      rw [c4'] at c3'
      exact c3'
  · rw [k5 400 (by decide) (by decide) (by decide) (by decide) (by decide) (by decide)]
    exact fr 400 (by decide) (by decide) (by decide)
