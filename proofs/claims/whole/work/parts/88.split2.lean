/-! Splitter: all -/
section
variable {R : Type}
theorem irz_end [Lean.Grind.CommRing R] {co : R → Nat → Int} {mk : Nat → (Nat → Int) → R} (H : PolyR co mk) {f : Int → Int} {n : Int} (hc : core co mk f n) (h1 : 1 ≤ n) (nl : nolin mk (pR mk 7 f)) (h4 : 4 ≤ n → nof co 2 (pR mk 7 f)) (h6 : n = 6 → nof co 3 (pR mk 7 f)) : irz co (pR mk 7 f) n.toNat := by
  have n06 := hc.1
  refine irz_mk H hc.2.2.2.2.2.2 (core_tz H hc) (by omega) (fun a b i j e hi hj hij i1 ij => ?_)
  have : i = 1 ∨ i = 2 ∨ i = 3 := by omega
  rcases this with q | q | q
  · subst q
    refine nl (co a 1) (co a 0) hi.1 ?_
    rw [← lin_form H hi]
    exact ⟨b, e⟩
  · subst q
    exact h4 (by omega) a hi ⟨b, e⟩
  · subst q
    exact h6 (by omega) a hi ⟨b, e⟩
theorem one_of [Lean.Grind.CommRing R] {co : R → Nat → Int} {mk : Nat → (Nat → Int) → R} (H : PolyR co mk) {f : Int → Int} (hc : core co mk f 0) : pR mk 7 f = 1 := by
  rcases unit_of H hc.2.2.2.2.2.2 (core_tz H hc) (zd_rf _) with q | q
  · exact q
  · exfalso
    have c : co (pR mk 7 f) 0 = co (-1 : R) 0 := by rw [q]
    rw [co_pR H, if_pos (by decide), co_neg H, H.2.2.2.1, if_pos rfl] at c
    have := hc.2.1
    have e : f ((0 : Nat) : Int) = f 0 := rfl
    omega
/-- what the splitter leaves -/
def spE [Lean.Grind.CommRing R] (co : R → Nat → Int) (mk : Nat → (Nat → Int) → R) (m0 m : rz_M) (P : Nat) (A : R) : Prop := (∀ i : Nat, i ≠ P → (i < P + 2 ∨ P + 9 < i) → (i < 47 ∨ 63 < i) → m i = m0 i) ∧ m P 5 = m0 P 5 ∧ (0 ≤ m P 4 ∧ m P 4 ≤ 6) ∧ FacL co mk A (ptl m P) ∧ (ptl m P).Pairwise bef
theorem l_Sp_end [Lean.Grind.CommRing R] {co : R → Nat → Int} {mk : Nat → (Nat → Int) → R} (H : PolyR co mk) {P : Nat} (hP : isP P) {m0 m : rz_M} {A : R} {n : Int} (hI : spI co mk m0 m P A n) (nl : nolin mk (pR mk 7 (m 56))) (h4 : 4 ≤ n → nof co 2 (pR mk 7 (m 56))) (h6 : n = 6 → nof co 3 (pR mk 7 (m 56))) {K : Int → rz_M → Prop} (h : ∀ m' : rz_M, spE co mk m0 m' P A → K 0 m') : (((m 55 10) < 1) → K 0 m) ∧ (¬ ((m 55 10) < 1) → (rz_isC P 1 = true ∧ rz_C y_Parts_take [rR P, rR 56, rI (m 55 10), rI 1] m (fun r1 m1 => K 0 m1))) := by
  have P59 : P + 10 < 47 := by rcases hP with z | z | z <;> omega
  obtain ⟨I1, I2, I3, I4, I5, I6, I7, I8, I9, I10⟩ := hI
  have n06 := I5.1
  rw [I4]
  refine bb (fun q => h m ⟨I1, I2, ⟨I6.1, by omega⟩, ⟨fun x hx => (I8 x hx).1, I9, ?_⟩, I10⟩) (fun q => ⟨(parts_c hP).1, ?_⟩)
  · have n0 : n = 0 := by omega
    subst n0
    rw [I7, one_of H I5]
    grind
  · have irr := irz_end H I5 (by omega) nl h4 h6
    have c56 : pR mk 7 (cutf (m 56)) = pR mk 7 (m 56) := pR_congr H (fun k a b => cutf_in a (by omega))
    have cnt : m P 4 = ((m P 4).toNat : Nat) := by omega
    refine c_Parts_take hP (Or.inl rfl) cnt (by omega) (x := (cutf (m 56), n, 1)) rfl I10 (fun y hy e => (I8 y hy).2 ?_) (fun m' f1 f2 f3 pe so => h m' ?_)
    · have : pR mk 7 y.1 = pR mk 7 (m 56) := by rw [← e]; exact c56
      rw [this]
      exact zd_rf _
    · have mem : ∀ x : E3, x ∈ ptl m' P → x = (cutf (m 56), n, 1) ∨ x ∈ ptl m P := fun x hx => List.mem_cons.mp (pe.mem_iff.mp hx)
      have okx : elOK co mk ((cutf (m 56), n, 1) : E3) := ⟨cutf_canon _, by show 1 ≤ n; omega, n06.2, by show (1 : Int) ≤ 1; decide, by show irz co (pR mk 7 (cutf (m 56))) n.toNat; rw [c56]; exact irr, by show 0 < cutf (m 56) n; rw [cutf_in (by omega) (by omega)]; exact I5.2.1⟩
      have oks : ∀ x ∈ ptl m' P, elOK co mk x := fun x hx => by
        rcases mem x hx with q | q
        · rw [q]; exact okx
        · exact (I8 x q).1
      refine ⟨fun i a b c => by rw [f1 i a b]; exact I1 i a b c, by rw [f2 5 (by decide)]; exact I2, by rw [f3]; omega, ⟨oks, ?_, ?_⟩, so⟩
      · refine List.Pairwise.imp_of_mem ?_ so
        intro x y hx hy hxy
        exact bef_ne (fun e => (el_one H (oks x hx) (oks y hy) (by rw [e]; exact zd_rf _)).2) hxy
      · rw [prodL_perm mk pe]
        show A = pR mk 7 (cutf (m 56)) ^ ((1 : Int)).toNat * prodL mk (ptl m P)
        rw [c56, show ((1 : Int)).toNat = 1 from rfl, I7, Lean.Grind.Semiring.pow_succ, Lean.Grind.Semiring.pow_zero]
        grind
theorem l_Sp_101 [Lean.Grind.CommRing R] {co : R → Nat → Int} {mk : Nat → (Nat → Int) → R} (H : PolyR co mk) {P : Nat} (hP : isP P) {m0 m : rz_M} {A : R} {n v : Int} (hI : spI co mk m0 m P A n) (nl : nolin mk (pR mk 7 (m 56))) (h4 : 4 ≤ n → nof co 2 (pR mk 7 (m 56))) (h6 : (Int32.ofInt v &&& Int32.ofInt 8).toInt = 0 → n = 6 → nof co 3 (pR mk 7 (m 56))) {K : Int → rz_M → Prop} (h : ∀ m' : rz_M, spE co mk m0 m' P A → K 0 m') : rz_E y_Sp_splitInto 101 [rR 55, rX 0, rR P, rI v, rX 0, rX 0] [] m K := by
  have em : m 55 10 = n := hI.2.2.2.1
  refine T_Sp_splitInto_101 _ _ _ _ (bb (fun q => ?_) (fun q => bb (fun z => ?_) (fun z => ?_)))
  · exact l_Sp_end H hP hI nl h4 (fun w => absurd (em.trans w) q) h
  · exact l_Sp_end H hP hI nl h4 (h6 z) h
  · have n6 : n = 6 := by omega
    refine c_Sp_takeCubic H hP hI n6 nl (fun m' n' I' z' d' => l_Sp_end H hP I' (nolin_dv nl z') (fun w => ?_) (fun w => ?_) h)
    · rcases d' with ⟨e1, _⟩ | e1
      · exact nof_dv (h4 (by omega)) z'
      · omega
    · rcases d' with ⟨_, e2⟩ | e1
      · exact e2
      · omega
theorem l_Sp_69 [Lean.Grind.CommRing R] {co : R → Nat → Int} {mk : Nat → (Nat → Int) → R} (H : PolyR co mk) {P : Nat} (hP : isP P) {m0 : rz_M} {A : R} {v : Int} {K : Int → rz_M → Prop} (h : ∀ m' : rz_M, spE co mk m0 m' P A → K 0 m') : ∀ (r : Nat) (n f t : Int) (m : rz_M), n + f ≤ r → 0 ≤ t → 2 * t + n ≤ 6 + 2 * (1 - f) → (f = 0 ∨ f = 1) → (f = 0 → 4 ≤ n → nof co 2 (pR mk 7 (m 56))) → spI co mk m0 m P A n → nolin mk (pR mk 7 (m 56)) → ((Int32.ofInt v &&& Int32.ofInt 8).toInt = 0 → n = 6 → nof co 3 (pR mk 7 (m 56))) → rz_E y_Sp_splitInto 69 [rR 55, rX 0, rR P, rI v, rI f, rI t] [] m K := by
  intro r
  induction r with
  | zero =>
    intro n f t m hr t0 ht hf h4 hI nl h6
    have n06 := hI.2.2.2.2.1.1
    exact T_Sp_splitInto_69 _ _ _ _ _ _ (bt (by omega) (l_Sp_101 H hP hI nl (h4 (by omega)) h6 h))
  | succ r ih =>
    intro n f t m hr t0 ht hf h4 hI nl h6
    have n06 := hI.2.2.2.2.1.1
    have em : m 55 10 = n := hI.2.2.2.1
    refine T_Sp_splitInto_69 _ _ _ _ _ _ (bb (fun q => l_Sp_101 H hP hI nl (h4 q) h6 h) (fun q => bb (fun z => l_Sp_101 H hP hI nl (fun w => by omega) h6 h) (fun z => bf (by omega) ?_)))
    rw [em] at z
    refine c_Sp_takeQuadratic H hP hI (by omega) nl (fun r1 m' n' I' z' d' => ?_)
    rw [w32_id (by omega) (by omega)]
    have n06' := I'.2.2.2.2.1.1
    have h6' : (Int32.ofInt v &&& Int32.ofInt 8).toInt = 0 → n' = 6 → nof co 3 (pR mk 7 (m' 56)) := fun w w2 => by
      refine nof_dv (h6 w ?_) z'
      rcases d' with ⟨_, e, _⟩ | ⟨_, e⟩ <;> omega
    rcases d' with ⟨e0, e1, e2⟩ | ⟨e0, e1⟩
    · subst e0
      exact ih n' 0 (t + 1) m' (by omega) (by omega) (by omega) (Or.inl rfl) (fun _ _ => e2) I' (nolin_dv nl z') h6'
    · subst e0
      exact ih n' 1 (t + 1) m' (by omega) (by omega) (by omega) (Or.inr rfl) (fun w => absurd w (by decide)) I' (nolin_dv nl z') h6'
theorem spI_f2 [Lean.Grind.CommRing R] {co : R → Nat → Int} {mk : Nat → (Nat → Int) → R} {m0 m m' : rz_M} {P : Nat} (hP : isP P) {A : R} {n : Int} (hI : spI co mk m0 m P A n) (fr : ∀ i : Nat, (i < 47 ∨ 54 < i) → m' i = m i) : spI co mk m0 m' P A n := spI_fr hP hI (fun i hi => fr i (by omega))
theorem c_Sp_splitInto [Lean.Grind.CommRing R] {co : R → Nat → Int} {mk : Nat → (Nat → Int) → R} (H : PolyR co mk) {P : Nat} (hP : isP P) {a : Nat} (ha : isL a 7) (hac : a ≠ 55 ∧ a ≠ 56) {m : rz_M} (hs : sm (m a)) (hd : 0 ≤ dg (m a)) {K : Int → rz_M → Prop}
    (h : ∀ (g : Int) (f1 : Int → Int) (m' : rz_M), g ≠ 0 → (∀ j : Int, 0 ≤ j → j < 7 → m a j = g * f1 j ∧ bd (f1 j) 100) → core co mk f1 (dg (m a)) → (∀ i : Nat, i ≠ P → (i < P + 2 ∨ P + 9 < i) → (i < 47 ∨ 63 < i) → m' i = m i) → m' P 5 = g → (0 ≤ m' P 4 ∧ m' P 4 ≤ 6) → FacL co mk (pR mk 7 f1) (ptl m' P) → (ptl m' P).Pairwise bef → K 0 m') : rz_C y_Sp_splitInto [rR 55, rR a, rR P] m K := by
  have P59 : P + 10 < 47 := by rcases hP with z | z | z <;> omega
  have i56 : isL 56 7 := ⟨by decide +kernel, by decide +kernel⟩
  have rd := dg_rng (m a)
  have ea : rz_up m 55 9 P a = m a := up_ne hac.1
  refine T_Sp_splitInto_0 _ _ _ _ ⟨(parts_c hP).1, c_RC_cont ha i56 (fun w => hac.2 w.symm) (by rw [ea]; exact hs) (by rw [ea]; exact hd) (fun g m1 f1 g0 hq lead pr => ⟨(parts_c hP).1, T_Parts_startWith_0 _ _ _ _ ⟨(parts_c hP).1, (parts_c hP).1, c_RC_degreeOf i56 ?_⟩⟩)⟩
  rw [ea] at hq lead
  have u56 : rz_up (rz_up m1 P 4 0) P 5 g 56 = m1 56 := by rw [up_ne (by omega), up_ne (by omega)]
  rw [u56]
  have tz0 : ∀ k : Int, dg (m a) < k → k < 7 → m1 56 k = 0 := fun k k0 k1 => by
    have e := (hq k (by omega) k1).1
    have z : m a k = 0 := dgk_top (m a) 7 k k0 k1
    rw [z] at e
    rcases Int.mul_eq_zero.mp e.symm with w | w
    · exact absurd w g0
    · exact w
  have dn : dg (m1 56) = dg (m a) := dg_of ⟨hd, by omega⟩ (by omega) tz0
  rw [dn]
  generalize hm0 : rz_up (rz_up (rz_up m1 P 4 0) P 5 g) 55 10 (dg (m a)) = m0
  have e56 : m0 56 = m1 56 := by rw [← hm0, up_ne (by decide)]; exact u56
  have hB1 : hB (m0 56) 100 := fun k k0 k1 => by rw [e56]; exact (hq k k0 k1).2
  have tb := tbn_le (dg (m a))
  have hc : core co mk (m0 56) (dg (m a)) := by
    rw [e56]
    rw [e56] at hB1
    refine ⟨⟨hd, by omega⟩, lead, tz0, fun k k0 k1 => bd_le (hB1 k k0 k1) tb.1, (hB1 _ hd (by omega)).2, hB1 0 (by decide) (by decide), fun p hp hall => pr p hp (fun j j0 j1 => ?_)⟩
    have := hall j.toNat
    rwa [co_pR H, if_pos (by omega), Int.toNat_of_nonneg j0] at this
  have p4 : m0 P 4 = 0 := by rw [← hm0, up_ne (by omega), up_nj (by decide), up_eq]
  have p5 : m0 P 5 = g := by rw [← hm0, up_ne (by omega), up_eq]
  have em : ptl m0 P = [] := by
    unfold ptl
    rw [p4]
    rfl
  have hI : spI co mk m0 m0 P (pR mk 7 (m0 56)) (dg (m a)) := by
    refine ⟨fun _ _ _ _ => rfl, rfl, ?_, by rw [← hm0, up_eq], hc, ⟨by omega, by omega⟩, ?_, ?_, ?_, ?_⟩
    · rw [← hm0, up_nj (by decide), up_ne (by omega), up_ne (by omega), f1 55 (by decide), up_eq]
    · rw [em]
      show _ = _ * 1
      grind
    · rw [em]; exact fun x hx => absurd hx List.not_mem_nil
    · rw [em]; exact List.Pairwise.nil
    · rw [em]; exact List.Pairwise.nil
  have fin : ∀ m' : rz_M, spE co mk m0 m' P (pR mk 7 (m0 56)) → K 0 m' := fun m' hE => by
    obtain ⟨E1, E2, E3', E4, E5⟩ := hE
    refine h g (m0 56) m' g0 (fun j j0 j1 => by rw [e56]; exact hq j j0 j1) hc (fun i i0 i1 i2 => ?_) (by rw [E2]; exact p5) E3' E4 E5
    rw [E1 i i0 i1 i2, ← hm0, up_ne (by omega), up_ne i0, up_ne i0, f1 i (by omega), up_ne (by omega)]
  refine c_Sp_powersX H hP hI hB1 (fun m4 n4 I4 c4 => c_Sp_linears H hP I4 c4 (fun m5 n5 I5 c5 nl => ?_))
  have n06 := I5.2.2.2.2.1.1
  have em5 : m5 55 10 = n5 := I5.2.2.2.1
  rw [em5]
  refine bb (fun q => ?_) (fun q => ?_)
  · refine T_Sp_splitInto_52 _ _ _ _ (bt (by decide +kernel) ?_)
    exact l_Sp_69 H hP fin 7 n5 0 0 m5 (by omega) (by decide) (by omega) (Or.inl rfl) (fun _ w => by omega) I5 nl (fun _ w => by omega)
  · refine c_Sp_possibleDegrees H (by omega) I5.2.2.2.2.1 (fun v m6 f6 b2 b3 => ?_)
    have e6 : m6 56 = m5 56 := f6 56 (by decide)
    have I6 : spI co mk m0 m6 P (pR mk 7 (m0 56)) n5 := spI_f2 hP I5 f6
    refine T_Sp_splitInto_52 _ _ _ _ (bb (fun z => ?_) (fun z => ?_))
    · exact l_Sp_69 H hP fin 7 n5 0 0 m6 (by omega) (by decide) (by omega) (Or.inl rfl) (fun _ w => by rw [e6]; exact b2 z) I6 (by rw [e6]; exact nl) (fun w _ => by rw [e6]; exact b3 w)
    · exact l_Sp_69 H hP fin 8 n5 1 0 m6 (by omega) (by decide) (by omega) (Or.inr rfl) (fun w => absurd w (by decide)) I6 (by rw [e6]; exact nl) (fun w _ => by rw [e6]; exact b3 w)
end
