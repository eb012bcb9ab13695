/-! PrimeView: parting, loading, unlike roots -/
section
variable {R : Type}
/-- both rows as they are while a factor is taken out -/
theorem l_PV_pw36 {P : Nat} (hP : okP P) {j e t : Int} (he : 0 ≤ e ∧ e < 7) (hj : 0 ≤ j ∧ j + e < 7) {m : rz_M} (hm : m 47 7 = P) (hl : rng (m 52) 7 P) {f : Int → Int} (hf : rng f 7 P) (ht : 0 ≤ t ∧ t < P) {K : Int → rz_M → Prop}
    (h : rz_E y_PV_partWhole 11 [rR 47, rX 0, rI e, rI (j - 1), rX 0, rX 0, rX 0] [] (wr m 48 7 (rdI (m 52) t P j (e + 1) f)) K) : ∀ (d : Nat) (i : Int), e + 1 - i = d → 0 ≤ i → rz_E y_PV_partWhole 36 [rR 47, rX 0, rI e, rI j, rL t, rX 1, rI i] [] (wr m 48 7 (rdI (m 52) t P j i f)) K
  | 0, i, hdi, hi => by
    have e1 : i = e + 1 := by omega
    subst e1
    refine T_PV_partWhole_36 _ _ _ _ _ _ (bt (by omega) ?_)
    rw [w32_id (by omega) (by omega), show j + -1 = j - 1 from by omega]
    exact h
  | d + 1, i, hdi, hi => by
    have p2 := hP.1.1
    have p3 := hP.2
    have r1 := hf (j + i) (by omega) (by omega)
    have r2 := hl i hi (by omega)
    have r3 := mul_lt_k (P := P) (by omega) ht r2
    have ea : wr m 48 7 (rdI (m 52) t P j i f) 48 (j + i) = f (j + i) := by
      rw [wr_in (by omega) (by omega)]
      unfold rdI
      rw [if_neg (by omega)]
    refine T_PV_partWhole_36 _ _ _ _ _ _ (bf (by omega) ?_)
    rw [w32_id (z := j + i) (by omega) (by omega), ea, wr_ne (x := 52) (by decide), w64_id (z := t * m 52 i) (by omega) (by omega), w64_id (z := f (j + i) - t * m 52 i) (by omega) (by omega)]
    refine ⟨⟨by omega, by omega⟩, ⟨hi, by omega⟩, c_PV_byP hP (by rw [wr_ne (by decide)]; exact hm) ⟨⟨by omega, by omega⟩, ?_⟩⟩
    rw [w32_id (by omega) (by omega), wr_up (by omega) (by omega)]
    have e2 : upf (rdI (m 52) t P j i f) (j + i) ((f (j + i) - t * m 52 i) % P) = rdI (m 52) t P j (i + 1) f := by
      funext y
      unfold upf rdI
      by_cases q : y = j + i
      · subst q
        rw [if_pos rfl, if_pos ⟨by omega, by omega⟩, show j + i - j = i from by omega]
      · rw [if_neg q]
        by_cases z : j ≤ y ∧ y < j + i
        · rw [if_pos z, if_pos ⟨z.1, by omega⟩]
        · rw [if_neg z, if_neg (by omega)]
    rw [e2]
    exact l_PV_pw36 hP he hj hm hl hf ht h d (i + 1) (by omega) (by omega)
theorem l_PV_pw11 [Lean.Grind.CommRing R] {co : R → Nat → Int} {mk : Nat → (Nat → Int) → R} (H : PolyR co mk) {P : Nat} (hP : okP P) {D e : Int} (he : 0 ≤ e ∧ e ≤ D) (hD : D ≤ 6) {m0 : rz_M} (hm : m0 47 7 = P) (hl : rng (m0 52) 7 P) (hl1 : m0 52 e = 1) (hlz : ∀ k : Int, e < k → k < 7 → m0 52 k = 0) {C : R} {K : Int → rz_M → Prop}
    (h : ∀ m' : rz_M, (∀ i, i ≠ 48 → i ≠ 53 → m' i = m0 i) → whOK (m' 48) P (D - e) → (∃ f : Int → Int, (∀ k : Int, e ≤ k → k < 7 → f k = 0) ∧ dvp co P (C - (pR mk 7 (m' 48) * pR mk 7 (m0 52) + pR mk 7 f))) → K 0 m') : ∀ (n : Nat) (j : Int) (m : rz_M) (f g : Int → Int), j + 1 = n → j ≤ D - e → (∀ i, i ≠ 48 → i ≠ 53 → m i = m0 i) → rng f 7 P → (∀ k : Int, j + e < k → k < 7 → f k = 0) → rng g 7 P → (∀ k : Int, 0 ≤ k → k ≤ j → g k = 0) → (∀ k : Int, D - e < k → k < 7 → g k = 0) → (j < D - e → g (D - e) = 1) → (j = D - e → f D = 1) → dvp co P (C - (pR mk 7 g * pR mk 7 (m0 52) + pR mk 7 f)) → rz_E y_PV_partWhole 11 [rR 47, rX 0, rI e, rI j, rX 0, rX 0, rX 0] [] (wr (wr m 53 7 g) 48 7 f) K
  | 0, j, m, f, g, hn, hj, hfr, hf, hfz, hg, hgl, hgz, hg1, hf1, hs => by
    have i48 : isL 48 7 := ⟨by decide +kernel, by decide +kernel⟩
    have i53 : isL 53 7 := ⟨by decide +kernel, by decide +kernel⟩
    refine T_PV_partWhole_11 _ _ _ _ (bt (by omega) (c_RC_copy i53 i48 ?_))
    have e48 : ∀ k : Int, 0 ≤ k → k < 7 → wr (wr (wr m 53 7 g) 48 7 f) 48 7 (wr (wr m 53 7 g) 48 7 f 53) 48 k = g k := fun k k0 k1 => by
      rw [wr_in k0 k1, wr_ne (by decide), wr_in k0 k1]
    refine h _ (fun i a b => by rw [wr_ne a, wr_ne a, wr_ne b]; exact hfr i a b) ⟨fun k k0 k1 => ?_, ?_, fun k k0 k1 => ?_⟩ ⟨f, fun k k0 k1 => hfz k (by omega) k1, ?_⟩
    · rw [e48 k k0 k1]; exact hg k k0 k1
    · rw [e48 _ (by omega) (by omega)]; exact hg1 (by omega)
    · rw [e48 k (by omega) k1]; exact hgz k k0 k1
    · rw [pR_congr H (f := wr (wr (wr m 53 7 g) 48 7 f) 48 7 (wr (wr m 53 7 g) 48 7 f 53) 48) (g := g) (fun k k0 k1 => e48 k k0 (by omega))]
      exact hs
  | n + 1, j, m, f, g, hn, hj, hfr, hf, hfz, hg, hgl, hgz, hg1, hf1, hs => by
    have p2 := hP.1.1
    have p3 := hP.2
    have ft := hf (j + e) (by omega) (by omega)
    refine T_PV_partWhole_11 _ _ _ _ (bf (by omega) ?_)
    rw [w32_id (by omega) (by omega), wr_in (by omega) (by omega)]
    refine ⟨⟨by omega, by omega⟩, ⟨by omega, by omega⟩, ?_⟩
    -- the quotient's place
    have sw : rz_up (wr (wr m 53 7 g) 48 7 f) 53 j (f (j + e)) = wr (wr m 53 7 (upf g j (f (j + e)))) 48 7 f := by
      rw [← wr_up (by omega) (by omega)]
      funext x y
      unfold rz_up wr
      by_cases q : x = 53 ∧ y = j
      · rw [if_pos q, if_neg (by omega)]
        exact (if_pos q).symm
      · rw [if_neg q]
        by_cases z : x = 48 ∧ 0 ≤ y ∧ y < 7
        · rw [if_pos z, if_pos z]
        · rw [if_neg z, if_neg z]
          exact (if_neg q).symm
    rw [sw]
    have em : wr m 53 7 (upf g j (f (j + e))) 47 7 = P := by rw [wr_ne (by decide), hfr 47 (by decide) (by decide)]; exact hm
    have el : wr m 53 7 (upf g j (f (j + e))) 52 = m0 52 := by rw [wr_ne (by decide), hfr 52 (by decide) (by decide)]
    have go := l_PV_pw36 (m := wr m 53 7 (upf g j (f (j + e)))) hP (j := j) (e := e) (t := f (j + e)) (f := f) (K := K) ⟨by omega, by omega⟩ ⟨by omega, by omega⟩ em (by rw [el]; exact hl) hf ft ?_ (e + 1).toNat 0 (by omega) (Int.le_refl _)
    · rw [show rdI (wr m 53 7 (upf g j (f (j + e))) 52) (f (j + e)) P j 0 f = f from by funext y; unfold rdI; rw [if_neg (by omega)]] at go
      exact go
    · rw [el]
      refine l_PV_pw11 H hP he hD hm hl hl1 hlz h n (j - 1) m _ _ (by omega) (by omega) hfr (fun k k0 k1 => ?_) (fun k k0 k1 => ?_) (fun k k0 k1 => ?_) (fun k k0 k1 => ?_) (fun k k0 k1 => ?_) (fun q => ?_) (fun q => by omega) ?_
      · unfold rdI
        split
        · exact emod_rng (by omega)
        · exact hf k k0 k1
      · unfold rdI
        by_cases z : k = j + e
        · subst z
          rw [if_pos ⟨by omega, by omega⟩, show j + e - j = e from by omega, hl1, Int.mul_one, Int.sub_self, Int.zero_emod]
        · rw [if_neg (by omega)]
          exact hfz k (by omega) k1
      · unfold upf
        split
        · exact ft
        · exact hg k k0 k1
      · unfold upf
        rw [if_neg (by omega)]
        exact hgl k k0 (by omega)
      · unfold upf
        rw [if_neg (by omega)]
        exact hgz k k0 k1
      · unfold upf
        by_cases z : D - e = j
        · rw [if_pos z, show j + e = D from by omega]
          exact hf1 z.symm
        · rw [if_neg z]
          exact hg1 (by omega)
      · have step : dvp co P (pR mk 7 g * pR mk 7 (m0 52) + pR mk 7 f - (pR mk 7 (upf g j (f (j + e))) * pR mk 7 (m0 52) + pR mk 7 (rdI (m0 52) (f (j + e)) P j (e + 1) f))) := by
          have eg : pR mk 7 (upf g j (f (j + e))) = pR mk 7 g + mo mk j.toNat (f (j + e)) := H.1 _ _ (fun k => by
            rw [H.2.1, co_pR H, co_pR H, co_mo H]
            unfold upf
            by_cases q : k = j.toNat
            · rw [if_pos (by omega), if_pos (by omega), if_pos (by omega), if_pos q, hgl k (by omega) (by omega), Int.zero_add]
            · rw [if_neg q, Int.add_zero]
              by_cases w : k < 7
              · rw [if_pos w, if_pos w, if_neg (by omega)]
              · rw [if_neg w, if_neg w])
          rw [eg, show ∀ g L f c t : R, g * L + f - ((g + t) * L + c) = f - (t * L + c) from fun g L f c t => by grind]
          intro k
          rw [co_sub H, H.2.1, co_momul H, co_pR H, co_pR H, co_pR H]
          unfold rdI
          by_cases z : j.toNat ≤ k
          · rw [if_pos z]
            by_cases z2 : (k : Int) ≤ j + e
            · rw [if_pos (show k < 7 by omega), if_pos (show k - j.toNat < 7 by omega), if_pos (show k < 7 by omega), if_pos ⟨by omega, by omega⟩, show ((k - j.toNat : Nat) : Int) = (k : Int) - j from by omega]
              have := emod_dvd (f k - f (j + e) * m0 52 ((k : Int) - j)) P
              rwa [show f k - (f (j + e) * m0 52 ((k : Int) - j) + (f k - f (j + e) * m0 52 ((k : Int) - j)) % P) = f k - f (j + e) * m0 52 ((k : Int) - j) - (f k - f (j + e) * m0 52 ((k : Int) - j)) % P from by omega]
            · have e0 : (if k - j.toNat < 7 then m0 52 ((k - j.toNat : Nat) : Int) else 0) = 0 := by
                split
                · exact hlz _ (by omega) (by omega)
                · rfl
              rw [e0, Int.mul_zero]
              by_cases z3 : k < 7
              · rw [if_pos z3, if_pos z3, if_neg (by omega)]
                exact ⟨0, by omega⟩
              · rw [if_neg z3, if_neg z3]
                exact ⟨0, by omega⟩
          · rw [if_neg z]
            by_cases z3 : k < 7
            · rw [if_pos z3, if_pos z3, if_neg (by omega)]
              exact ⟨0, by omega⟩
            · rw [if_neg z3, if_neg z3]
              exact ⟨0, by omega⟩
        have := dvp_add H hs step
        rwa [show ∀ C a b : R, C - a + (a - b) = C - b from fun C a b => by grind] at this
/-- the factor in row 52 is taken out of the whole one -/
theorem c_PV_part [Lean.Grind.CommRing R] {co : R → Nat → Int} {mk : Nat → (Nat → Int) → R} (H : PolyR co mk) {P : Nat} (hP : okP P) {D e : Int} (he : 0 ≤ e ∧ e ≤ D) (hD : D ≤ 6) {m0 : rz_M} (hm : m0 47 7 = P) (hw : whOK (m0 48) P D) (hl : whOK (m0 52) P e) (hd : jd co P (pR mk 7 (m0 52)) (pR mk 7 (m0 48))) {K : Int → rz_M → Prop}
    (h : ∀ m' : rz_M, (∀ i, i ≠ 48 → i ≠ 53 → m' i = m0 i) → whOK (m' 48) P (D - e) → dvp co P (pR mk 7 (m0 52) * pR mk 7 (m' 48) - pR mk 7 (m0 48)) → K 0 m') : rz_C y_PV_partWhole [rR 47, rI D, rI e] m0 K := by
  have p2 := hP.1.1
  refine T_PV_partWhole_0 _ _ _ _ (c_RC_clear (n := 7) (by decide +kernel) (by decide +kernel) (by decide) ?_)
  rw [w32_id (by omega) (by omega)]
  have go := l_PV_pw11 H hP he hD hm hl.1 hl.2.1 hl.2.2 (C := pR mk 7 (m0 48)) (K := K) ?_ (D - e + 1).toNat (D - e) m0 (m0 48) (fun _ => 0) (by omega) (Int.le_refl _) (fun _ _ _ => rfl) hw.1 (fun k k0 k1 => hw.2.2 k (by omega) k1) (fun k k0 k1 => ⟨Int.le_refl _, by show (0 : Int) < P; omega⟩) (fun _ _ _ => rfl) (fun _ _ _ => rfl) (fun q => by omega) (fun _ => hw.2.1) ?_
  · have e1 : wr (wr m0 53 7 (fun _ => 0)) 48 7 (m0 48) = wr m0 53 7 (fun _ => 0) := by
      have : m0 48 = wr m0 53 7 (fun _ => 0) 48 := (wr_ne (by decide)).symm
      rw [this]
      exact wr_self2 _ _ _
    rwa [e1] at go
  · intro m' f1 w1 hs
    obtain ⟨f, fz, hs⟩ := hs
    refine h m' f1 w1 ?_
    -- the rest is nought, as the factor divides it
    have tl : tpp co P (pR mk 7 (m0 52)) e.toNat := by
      have hd2 : dg (m0 52) = e := dg_of ⟨he.1, by omega⟩ (by rw [hl.2.1]; decide) hl.2.2
      have := dg_tpp H hl.1 (by omega)
      rwa [hd2] at this
    have jf : jd co P (pR mk 7 (m0 52)) (pR mk 7 f) := by
      have j1 := jd_sub H hd (jd_self H (p := P) (pR mk 7 (m0 52)) (pR mk 7 (m' 48)))
      have j2 := jd_sub H j1 (jd_dvp H hs)
      rwa [show ∀ C L Q F : R, C - L * Q - (C - (Q * L + F)) = F from fun C L Q F => by grind] at j2
    have df := jd_low H hP.1 tl jf (fun k hk => by
      rw [co_pR H]
      split
      · rw [fz k (by omega) (by omega)]
        exact Int.dvd_zero _
      · exact Int.dvd_zero _)
    have := dvp_neg H (dvp_add H hs df)
    rwa [show ∀ C L Q F : R, -(C - (Q * L + F) + F) = L * Q - C from fun C L Q F => by grind] at this
  · have z0 : pR mk 7 (fun _ => 0) = (0 : R) := H.1 _ _ (fun k => by rw [co_pR H, co_zero H]; split <;> rfl)
    rw [z0, show ∀ L F : R, F - (0 * L + F) = 0 from fun L F => by grind]
    exact dvp_zero H
/-! loading -/
theorem l_PV_load {P : Nat} (hP : okP P) {a : Nat} (ha : isL a 7) (ha48 : a ≠ 48) {D : Int} {m : rz_M} (hm : m 47 7 = P) {K : Int → rz_M → Prop} (h : rz_E y_PV_load 7 [rR 47, rR a, rI D, rI 7] [] (wr m 48 7 (fmP P (m a))) K) : ∀ (n : Nat) (j : Int), 7 - j = n → 0 ≤ j → rz_E y_PV_load 7 [rR 47, rR a, rI D, rI j] [] (wr m 48 j (fmP P (m a))) K
  | 0, j, hn, hj => by
    have e : j = 7 := by omega
    subst e
    exact h
  | n + 1, j, hn, hj => by
    have hl := ha.2
    refine T_PV_load_7 _ _ _ _ _ (bf (by omega) ⟨ha.1, ⟨hj, by omega⟩, c_PV_byP hP (by rw [wr_ne (by decide)]; exact hm) ⟨⟨hj, by omega⟩, ?_⟩⟩)
    rw [wr_ne ha48, wr_succ hj (show m a j % P = fmP P (m a) j from rfl), w32_id (by omega) (by omega)]
    exact l_PV_load hP ha ha48 hm h n (j + 1) (by omega) (by omega)
/-- what is loaded: u times the numbers; -1 where p divides the last one -/
theorem c_PV_load [Lean.Grind.CommRing R] {co : R → Nat → Int} {mk : Nat → (Nat → Int) → R} (H : PolyR co mk) {P : Nat} (hP : okP P) {a : Nat} (ha : isL a 7) (ha48 : a ≠ 48) {m : rz_M} (hm : m 47 7 = P) (hd : 0 ≤ dg (m a)) {K : Int → rz_M → Prop}
    (h0 : (P : Int) ∣ m a (dg (m a)) → ∀ m' : rz_M, (∀ i, i ≠ 48 → m' i = m i) → K (-1) m')
    (h1 : ¬ (P : Int) ∣ m a (dg (m a)) → ∀ m' : rz_M, (∀ i, i ≠ 48 → m' i = m i) → whOK (m' 48) P (dg (m a)) → (∃ u : Int, (P : Int) ∣ u * m a (dg (m a)) - 1 ∧ dvp co P (pR mk 7 (m' 48) - mo mk 0 u * pR mk 7 (m a))) → K (dg (m a)) m') : rz_C y_PV_load [rR 47, rR a] m K := by
  have p2 := hP.1.1
  have r := dg_rng (m a)
  have i48 : isL 48 7 := ⟨by decide +kernel, by decide +kernel⟩
  refine T_PV_load_0 _ _ _ (c_RC_degreeOf ha ?_)
  have go := l_PV_load (D := dg (m a)) hP ha ha48 hm (K := K) ?_ 7 0 (by decide) (by decide)
  · rwa [wr_0] at go
  · have e48 : ∀ k : Int, 0 ≤ k → k < 7 → wr m 48 7 (fmP P (m a)) 48 k = m a k % P := fun k k0 k1 => wr_in k0 k1
    refine T_PV_load_7 _ _ _ _ _ (bt (by decide) (bf (by omega) ⟨⟨hd, by omega⟩, ?_⟩))
    rw [e48 _ hd (by omega)]
    refine bb (fun q => ?_) (fun q => ?_)
    · refine c_PV_mewo (dg := dg (m a)) hP i48 (by decide) ⟨hd, by omega⟩ (by rw [wr_ne (by decide)]; exact hm) (fun k k0 k1 => by rw [e48 k k0 k1]; exact emod_rng (by omega)) (fun k k0 k1 => ?_) (by rw [e48 _ hd (by omega)]; exact q) (fun u g hg hu g1 gz gc => ?_)
      · rw [e48 k (by omega) k1, dgk_top (m a) 7 k k0 (by omega), Int.zero_emod]
      · have nd : ¬ (P : Int) ∣ m a (dg (m a)) := fun z => q (Int.emod_eq_zero_of_dvd z)
        have eg : ∀ k : Int, 0 ≤ k → k < 7 → wr (wr m 48 7 (fmP P (m a))) 48 7 g 48 k = g k := fun k k0 k1 => wr_in k0 k1
        rw [e48 _ hd (by omega)] at hu
        refine h1 nd _ (fun i hi => by rw [wr_ne hi, wr_ne hi]) ⟨fun k k0 k1 => by rw [eg k k0 k1]; exact hg k k0 k1, by rw [eg _ hd (by omega)]; exact g1, fun k k0 k1 => by rw [eg k (by omega) k1]; exact gz k k0 k1⟩ ⟨u, ?_, fun k => ?_⟩
        · have := cg_mul (a := u) (b := u) (p := (P : Int)) ⟨0, by omega⟩ (emod_dvd (m a (dg (m a))) P)
          exact cg_tr this hu
        · rw [co_sub H, co_momul H, co_pR H, co_pR H, if_pos (Nat.zero_le _), Nat.sub_zero]
          by_cases z : k < 7
          · rw [if_pos z, if_pos z, eg _ (by omega) (by omega)]
            have c1 := gc k (by omega) (by omega)
            rw [e48 _ (by omega) (by omega)] at c1
            have c2 := cg_mul (a := u) (b := u) (p := (P : Int)) ⟨0, by omega⟩ (emod_dvd (m a k) P)
            have c3 := Int.dvd_neg.mpr c2
            rw [show -(u * m a k - u * (m a k % P)) = u * (m a k % P) - u * m a k from by omega] at c3
            exact cg_tr c1 c3
          · rw [if_neg z, if_neg z, Int.mul_zero]
            exact ⟨0, by omega⟩
    · have z : (P : Int) ∣ m a (dg (m a)) := Int.dvd_of_emod_eq_zero (Classical.not_not.mp q)
      exact h0 z _ (fun i hi => wr_ne hi)
/-! unlike roots -/
theorem l_PV_hur {P : Nat} (hP : okP P) {m : rz_M} (hm : m 47 7 = P) {f : Int → Int} {K : Int → rz_M → Prop} (h : rz_E y_PV_hasUnlikeRoots 24 [rR 47, rI 7] [] (wr m 53 7 (fmP P f)) K) : ∀ (n : Nat) (j : Int), 7 - j = n → 0 ≤ j → rz_E y_PV_hasUnlikeRoots 24 [rR 47, rI j] [] (wr m 53 7 (fun y => if y < j then f y % P else f y)) K
  | 0, j, hn, hj => by
    have e : j = 7 := by omega
    subst e
    have : wr m 53 7 (fun y => if y < 7 then f y % P else f y) = wr m 53 7 (fmP P f) := wr_congr (fun y y0 y1 => if_pos y1)
    rw [this]
    exact h
  | n + 1, j, hn, hj => by
    refine T_PV_hasUnlikeRoots_24 _ _ _ (bf (by omega) ⟨⟨hj, by omega⟩, c_PV_byP hP (by rw [wr_ne (by decide)]; exact hm) ⟨⟨hj, by omega⟩, ?_⟩⟩)
    rw [wr_in hj (by omega), if_neg (by omega), w32_id (by omega) (by omega), wr_up hj (by omega)]
    have e : upf (fun y => if y < j then f y % P else f y) j (f j % P) = fun y => if y < j + 1 then f y % P else f y := by
      funext y
      unfold upf
      by_cases q : y = j
      · subst q
        rw [if_pos rfl, if_pos (by omega)]
      · rw [if_neg q]
        dsimp only
        by_cases z : y < j
        · rw [if_pos z, if_pos (by omega)]
        · rw [if_neg z, if_neg (by omega)]
    rw [e]
    exact l_PV_hur hP hm h n (j + 1) (by omega) (by omega)
theorem c_PV_hur [Lean.Grind.CommRing R] {co : R → Nat → Int} {mk : Nat → (Nat → Int) → R} (H : PolyR co mk) {P : Nat} (hP : okP P) {D : Int} (hD : 0 ≤ D ∧ D ≤ 6) {m : rz_M} (hm : m 47 7 = P) (hw : whOK (m 48) P D) {K : Int → rz_M → Prop}
    (h : ∀ m' : rz_M, (∀ i, i ≠ 52 → i ≠ 53 → m' i = m i) → ∀ (G Df : R) (e : Nat), tpp co P G e → isD co P Df (pR mk 7 (m 48)) → gcdp co P G (pR mk 7 (m 48)) Df → (e = 0 → K 1 m') ∧ (e ≠ 0 → K 0 m')) : rz_C y_PV_hasUnlikeRoots [rR 47] m K := by
  have p2 := hP.1.1
  have p3 := hP.2
  have i48 : isL 48 7 := ⟨by decide +kernel, by decide +kernel⟩
  have i52 : isL 52 7 := ⟨by decide +kernel, by decide +kernel⟩
  have i53 : isL 53 7 := ⟨by decide +kernel, by decide +kernel⟩
  refine T_PV_hasUnlikeRoots_0 _ _ (c_RC_copy i48 i52 (c_RC_deriveInto i48 i53 (by decide) ?_))
  rw [wr_ne (x := 48) (by decide)]
  have go := l_PV_hur (m := wr m 52 7 (m 48)) (f := drv (m 48)) hP (by rw [wr_ne (by decide)]; exact hm) (K := K) ?_ 7 0 (by decide) (by decide)
  · have e0 : wr (wr m 52 7 (m 48)) 53 7 (fun y => if y < 0 then drv (m 48) y % P else drv (m 48) y) = wr (wr m 52 7 (m 48)) 53 7 (drv (m 48)) := wr_congr (fun y y0 y1 => if_neg (by omega))
    rwa [e0] at go
  · have e52 : ∀ y : Int, 0 ≤ y → y < 7 → wr (wr m 52 7 (m 48)) 53 7 (fmP P (drv (m 48))) 52 y = m 48 y := fun y y0 y1 => by rw [wr_ne (by decide), wr_in y0 y1]
    have e53 : ∀ y : Int, 0 ≤ y → y < 7 → wr (wr m 52 7 (m 48)) 53 7 (fmP P (drv (m 48))) 53 y = drv (m 48) y % P := fun y y0 y1 => wr_in y0 y1
    have d52 : dg (wr (wr m 52 7 (m 48)) 53 7 (fmP P (drv (m 48))) 52) = D := dg_of ⟨by omega, by omega⟩ (by rw [e52 D (by omega) (by omega), hw.2.1]; decide) (fun k k0 k1 => by rw [e52 k (by omega) k1]; exact hw.2.2 k k0 k1)
    refine T_PV_hasUnlikeRoots_24 _ _ _ (bt (by decide) (c_PV_slr H hP (by rw [wr_ne (by decide), wr_ne (by decide)]; exact hm) (fun y y0 y1 => by rw [e52 y y0 y1]; exact hw.1 y y0 y1) (fun y y0 y1 => by rw [e53 y y0 y1]; exact emod_rng (by omega)) (by rw [d52]; omega) (by rw [d52, e52 D (by omega) (by omega)]; exact hw.2.1) (fun m' f1 r52 r53 d0 d1 hg => ?_)))
    have hfin := h m' (fun i a b => by rw [f1 i a b, wr_ne b, wr_ne a]) (pR mk 7 (m' 52)) (pR mk 7 (wr (wr m 52 7 (m 48)) 53 7 (fmP P (drv (m 48))) 53)) (dg (m' 52)).toNat (dg_tpp H r52 d0) (fun k => ?_) (gcdp_cg H hg (by rw [show ∀ a : R, a - a = 0 from fun a => by grind]; exact dvp_zero H) (dvp_pR H (fun k k0 k1 => by rw [e52 k k0 (by omega)]; exact ⟨0, by omega⟩)) (by rw [show ∀ a : R, a - a = 0 from fun a => by grind]; exact dvp_zero H))
    · refine bb (fun q => hfin.2 (by omega)) (fun q => hfin.1 (by omega))
    · rw [co_pR H, co_pR H]
      by_cases q : k < 7
      · rw [if_pos q, e53 _ (by omega) (by omega)]
        unfold drv
        by_cases z : (k : Int) < 6
        · rw [if_pos z, if_pos (by omega), show ((k + 1 : Nat) : Int) = (k : Int) + 1 from by omega]
          have r1 := hw.1 ((k : Int) + 1) (by omega) (by omega)
          have r2 : ((k : Int) + 1) * m 48 ((k : Int) + 1) ≤ 7 * m 48 ((k : Int) + 1) := Int.mul_le_mul_of_nonneg_right (by omega) r1.1
          have r3 : 0 ≤ ((k : Int) + 1) * m 48 ((k : Int) + 1) := Int.mul_nonneg (by omega) r1.1
          rw [w64_id (by omega) (by omega)]
          have := emod_dvd (((k : Int) + 1) * m 48 ((k : Int) + 1)) P
          rw [show ((k : Int) + 1) * m 48 ((k : Int) + 1) % P - ((k : Int) + 1) * m 48 ((k : Int) + 1) = -(((k : Int) + 1) * m 48 ((k : Int) + 1) - ((k : Int) + 1) * m 48 ((k : Int) + 1) % P) from by omega]
          exact Int.dvd_neg.mpr this
        · rw [if_neg z, if_neg (by omega), Int.zero_emod, Int.mul_zero]
          exact ⟨0, by omega⟩
      · rw [if_neg q, if_neg (by omega), Int.mul_zero]
        exact ⟨0, by omega⟩
end
