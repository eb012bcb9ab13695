/-! Splitter: a factor is taken out as often as it is there -/
section
variable {R : Type}
/-- what a divisor must be, that bounds hold -/
def gOK [Lean.Grind.CommRing R] (mk : Nat → (Nat → Int) → R) (f g : Int → Int) (d : Int) : Prop := (1 ≤ d ∧ d ≤ 6) ∧ 0 < g d ∧ (∀ k : Int, d < k → k < 7 → g k = 0) ∧ (d = 1 ∨ nolin mk (pR mk 7 f)) ∧ (g 0 ≠ 0 ∨ (d = 1 ∧ g 1 = 1 ∧ hB f 100))
theorem row_ex [Lean.Grind.CommRing R] {co : R → Nat → Int} {mk : Nat → (Nat → Int) → R} (H : PolyR co mk) {h : R} (hz : ∀ k : Nat, 7 ≤ k → co h k = 0) : pR mk 7 (fun y => co h y.toNat) = h := H.1 _ _ (fun k => by
  rw [co_pR H]
  split
  · show co h ((k : Int)).toNat = _
    rw [Int.toNat_natCast]
  · exact (hz k (by omega)).symm)
/-- the quotient as a row -/
theorem q_row [Lean.Grind.CommRing R] {co : R → Nat → Int} {mk : Nat → (Nat → Int) → R} (H : PolyR co mk) {f g h : Int → Int} {n d : Int} (hc : core co mk f n) (hg : gOK mk f g d) (hd : d ≤ n) (hhz : ∀ k : Int, n - d < k → k < 7 → h k = 0) (e : pR mk 7 f = pR mk 7 g * pR mk 7 h) : core co mk h (n - d) ∧ (g 0 = 0 → hB h 100) := by
  obtain ⟨⟨d1, d6⟩, gd, gz, gl, g0⟩ := hg
  have n06 := hc.1
  have hb : hB h (tbn (n - d)) := by
    rcases gl with q | q
    · subst q
      exact lin_q H hc hd (by omega) gz hhz e
    · by_cases z : d = 1
      · subst z
        exact lin_q H hc hd (by omega) gz hhz e
      · exact quad_q H hc ⟨by omega, hd⟩ q hhz e
  have e0 := co_row0 H e
  have sh : g 0 = 0 → hB h 100 := fun z => by
    rcases g0 with q | ⟨q1, q2, q3⟩
    · exact absurd z q
    · subst q1
      have eg : pR mk 7 g = mo mk 1 1 := H.1 _ _ (fun k => by
        rw [co_pR H, co_mo H]
        by_cases y : k = 1
        · subst y
          rw [if_pos (by decide), if_pos rfl]
          exact q2
        · rw [if_neg y]
          split
          · by_cases y0 : k = 0
            · subst y0; exact z
            · exact gz k (by omega) (by omega)
          · rfl)
      intro k k0 k1
      by_cases y : k < 6
      · have c : co (pR mk 7 f) (k.toNat + 1) = co (pR mk 7 g * pR mk 7 h) (k.toNat + 1) := by rw [e]
        rw [eg, co_momul H, co_pR H, co_pR H, if_pos (by omega), if_pos (by omega), show k.toNat + 1 - 1 = k.toNat from by omega, if_pos (by omega), Int.toNat_of_nonneg k0, Int.one_mul] at c
        rw [← c]
        exact q3 _ (by omega) (by omega)
      · rw [hhz k (by omega) k1]
        exact ⟨by decide, by decide⟩
  refine ⟨core_q H hc ⟨d1, hd⟩ gd gz hhz e hb ?_, sh⟩
  by_cases z : g 0 = 0
  · exact sh z 0 (by decide) (by decide)
  · have := ab_div z e0.symm
    have f0 := hc.2.2.2.2.2.1
    unfold bd at f0 ⊢
    omega
theorem core_tz [Lean.Grind.CommRing R] {co : R → Nat → Int} {mk : Nat → (Nat → Int) → R} (H : PolyR co mk) {f : Int → Int} {n : Int} (hc : core co mk f n) : tz co (pR mk 7 f) n.toNat := row_tz H ⟨hc.1.1, by have := hc.1.2; omega⟩ (by have := hc.2.1; omega) hc.2.2.1
theorem q_any [Lean.Grind.CommRing R] {co : R → Nat → Int} {mk : Nat → (Nat → Int) → R} (H : PolyR co mk) {f g : Int → Int} {n d : Int} (hc : core co mk f n) (hg : gOK mk f g d) {h : R} (e : pR mk 7 f = pR mk 7 g * h) : ∀ k, bd (co h k) 1000000 := by
  have n06 := hc.1
  obtain ⟨i, j, hi, hj, hij⟩ := zd_deg H (core_tz H hc) e
  have dd := hg.1
  have tg := row_tz H (g := g) (d := d) ⟨by omega, by omega⟩ (by have := hg.2.1; omega) hg.2.2.1
  have ei := tz_uniq hi tg
  have er := row_ex H (h := h) (fun k hk => hj.2 k (by omega))
  have q := (q_row H hc hg (h := fun y => co h y.toNat) (by omega) (fun k k0 k1 => hj.2 _ (by omega)) (by rw [er]; exact e)).1
  have t := tbn_le (n - d)
  intro k
  by_cases z : k < 7
  · have := q.2.2.2.1 k (by omega) (by omega)
    have e2 : (fun y : Int => co h y.toNat) (k : Int) = co h k := by show co h ((k : Int)).toNat = _; rw [Int.toNat_natCast]
    rw [e2] at this
    exact bd_le this (by omega)
  · rw [hj.2 k (by omega)]
    exact ⟨by decide, by decide⟩
/-- the splitter at work: P is being filled, n the degree of what is left -/
def spI [Lean.Grind.CommRing R] (co : R → Nat → Int) (mk : Nat → (Nat → Int) → R) (m0 m : rz_M) (P : Nat) (A : R) (n : Int) : Prop :=
  (∀ i : Nat, i ≠ P → (i < P + 2 ∨ P + 9 < i) → (i < 47 ∨ 63 < i) → m i = m0 i) ∧ m P 5 = m0 P 5 ∧ m 55 9 = P ∧ m 55 10 = n ∧ core co mk (m 56) n ∧ (0 ≤ m P 4 ∧ m P 4 + n ≤ 6) ∧ A = pR mk 7 (m 56) * prodL mk (ptl m P) ∧ (∀ x ∈ ptl m P, elOK co mk x ∧ ¬ zd (pR mk 7 x.1) (pR mk 7 (m 56))) ∧ (ptl m P).Pairwise (fun x y => x.1 ≠ y.1) ∧ (ptl m P).Pairwise bef
theorem ptl_eq {m m' : rz_M} {P : Nat} (h : ∀ i : Nat, i = P ∨ (P + 2 ≤ i ∧ i ≤ P + 9) → m' i = m i) (h6 : (m P 4).toNat ≤ 6) : ptl m' P = ptl m P := by
  unfold ptl
  rw [h P (Or.inl rfl)]
  refine List.map_congr_left (fun k hk => ?_)
  have := List.mem_range.mp hk
  exact elC_of (fun y _ _ => by rw [h (P + 2 + k) (by omega)]) (by rw [h (P + 8) (by omega)]) (by rw [h (P + 9) (by omega)])
/-- the distinctness of a sorted list -/
theorem bef_ne {x y : E3} (hd : x.1 = y.1 → x.2.1 = y.2.1) (h : bef x y) : x.1 ≠ y.1 := fun e => by
  rcases h with h | ⟨_, k, _, _, h2, _⟩
  · have := hd e
    omega
  · rw [e] at h2
    omega
theorem c_Sp_takeOut [Lean.Grind.CommRing R] {co : R → Nat → Int} {mk : Nat → (Nat → Int) → R} (H : PolyR co mk) {P : Nat} (hP : isP P) {m0 m : rz_M} {A : R} {n d : Int} (hI : spI co mk m0 m P A n) (hg : gOK mk (m 56) (m 59) d) (hgb : hB (m 59) 1000000) (hir : zd (pR mk 7 (m 59)) (pR mk 7 (m 56)) → irz co (pR mk 7 (m 59)) d.toNat) {K : Int → rz_M → Prop}
    (h : ∀ (r : Int) (m' : rz_M) (n' : Int), spI co mk m0 m' P A n' → (∀ i : Nat, 59 ≤ i → i ≤ 63 → m' i = m i) → zd (pR mk 7 (m' 56)) (pR mk 7 (m 56)) → ¬ zd (pR mk 7 (m 59)) (pR mk 7 (m' 56)) → (m 59 0 = 0 → hB (m 56) 100 → hB (m' 56) 100) → (r = 0 ∧ n' = n ∧ pR mk 7 (m' 56) = pR mk 7 (m 56) ∨ r = 1 ∧ n' ≤ n - d) → K r m') : rz_C y_Sp_takeOut [rR 55, rI d] m K := by
  have P59 : P + 10 < 47 := by rcases hP with z | z | z <;> omega
  have i56 : isL 56 7 := ⟨by decide +kernel, by decide +kernel⟩
  have i58 : isL 58 7 := ⟨by decide +kernel, by decide +kernel⟩
  obtain ⟨I1, I2, I3, I4, I5, I6, I7, I8, I9, I10⟩ := hI
  obtain ⟨⟨d1, d6⟩, gd, gz, gl, g0⟩ := hg
  have n0n := I5.1
  have tg := row_tz H (g := m 59) (d := d) ⟨by omega, by omega⟩ (by omega) gz
  have gne := tz_ne H tg
  -- the end, when nothing more goes
  have fin : ∀ (r : Nat) (M : rz_M) (nn : Int), r ≤ 6 → (∀ i : Nat, (i < 55 ∨ 58 < i) → M i = m i) → M 55 9 = P → M 55 10 = nn → nn = n - d * r → core co mk (M 56) nn → pR mk 7 (m 56) = pR mk 7 (m 59) ^ r * pR mk 7 (M 56) → (m 59 0 = 0 → hB (m 56) 100 → hB (M 56) 100) → ¬ zd (pR mk 7 (m 59)) (pR mk 7 (M 56)) → rz_E y_Sp_takeOut 43 [rR 55, rI d, rI r] [] M K := by
    intro r M nn hr6 hf h9 h10 hnn hcM eM hz nd
    have zdM : zd (pR mk 7 (M 56)) (pR mk 7 (m 56)) := ⟨pR mk 7 (m 59) ^ r, by rw [eM]; grind⟩
    have eP := ptl_eq (m := m) (m' := M) (P := P) (fun i hi => hf i (by omega)) (by omega)
    have fr : ∀ i : Nat, i ≠ P → (i < P + 2 ∨ P + 9 < i) → (i < 47 ∨ 63 < i) → M i = m0 i := fun i a b c => by rw [hf i (by omega)]; exact I1 i a b c
    by_cases r0 : r = 0
    · subst r0
      have enn : nn = n := by rw [hnn]; show n - d * 0 = n; omega
      have e56 : pR mk 7 (M 56) = pR mk 7 (m 56) := by rw [eM, Lean.Grind.Semiring.pow_zero]; grind
      refine T_Sp_takeOut_43 _ _ _ _ (bt (by decide) (bt (by decide) (h 0 M n ⟨fr, ?_, h9, by rw [h10, enn], by rw [← enn]; exact hcM, ?_, ?_, ?_, ?_, ?_⟩ (fun i a b => hf i (by omega)) zdM nd hz (Or.inl ⟨rfl, rfl, e56⟩))))
      · rw [hf P (by omega)]; exact I2
      · rw [hf P (by omega)]; exact I6
      · rw [eP, e56]; exact I7
      · rw [eP, e56]; exact I8
      · rw [eP]; exact I9
      · rw [eP]; exact I10
    · -- it is put in its place
      have zg : zd (pR mk 7 (m 59)) (pR mk 7 (m 56)) := by
        obtain ⟨t, rfl⟩ : ∃ t, r = t + 1 := ⟨r - 1, by omega⟩
        exact ⟨pR mk 7 (m 59) ^ t * pR mk 7 (M 56), by rw [eM, Lean.Grind.Semiring.pow_succ]; grind⟩
      have irr := hir zg
      have n06 := hcM.1
      have drp : d * 1 ≤ d * r := Int.mul_le_mul_of_nonneg_left (by omega) (by omega)
      have r1d : 1 * (r : Int) ≤ d * r := Int.mul_le_mul_of_nonneg_right d1 (by omega)
      have e59 : M 59 = m 59 := hf 59 (by omega)
      have c59 : pR mk 7 (cutf (m 59)) = pR mk 7 (m 59) := pR_congr H (fun k a b => cutf_in a (by omega))
      have cnt : M P 4 = ((m P 4).toNat : Nat) := by rw [hf P (by omega)]; omega
      refine T_Sp_takeOut_43 _ _ _ _ (bf (by omega) ?_)
      rw [h9, show ((P : Int)).toNat = P from by omega]
      refine ⟨by omega, (parts_c hP).1, c_Parts_take hP (Or.inr rfl) cnt (by omega) (x := (cutf (m 59), d, (r : Int))) (by rw [e59]) (by rw [eP]; exact I10) (fun y hy => ?_) (fun m' f1 f2 f3 pe so => bf (by omega) ?_)⟩
      · rw [eP] at hy
        intro e
        refine (I8 y hy).2 ?_
        have : pR mk 7 y.1 = pR mk 7 (m 59) := by rw [← e]; exact c59
        rw [this]
        exact zg
      · have e56 : m' 56 = M 56 := f1 56 (by omega) (by omega)
        have mem : ∀ x : E3, x ∈ ptl m' P → x = (cutf (m 59), d, (r : Int)) ∨ x ∈ ptl m P := fun x hx => by
          have := pe.mem_iff.mp hx
          rw [eP] at this
          exact List.mem_cons.mp this
        have okx : elOK co mk ((cutf (m 59), d, (r : Int)) : E3) := ⟨cutf_canon _, d1, d6, by show (1 : Int) ≤ r; omega, by show irz co (pR mk 7 (cutf (m 59))) d.toNat; rw [c59]; exact irr, by show 0 < cutf (m 59) d; rw [cutf_in (by omega) (by omega)]; exact gd⟩
        have oks : ∀ x ∈ ptl m' P, elOK co mk x ∧ ¬ zd (pR mk 7 x.1) (pR mk 7 (m' 56)) := fun x hx => by
          rw [e56]
          rcases mem x hx with q | q
          · rw [q]
            exact ⟨okx, by show ¬ zd (pR mk 7 (cutf (m 59))) _; rw [c59]; exact nd⟩
          · exact ⟨(I8 x q).1, fun z => (I8 x q).2 (zd_tr z zdM)⟩
        refine h 1 m' nn ⟨fun i a b c => by rw [f1 i a b]; exact fr i a b c, ?_, by rw [f1 55 (by omega) (by omega)]; exact h9, by rw [f1 55 (by omega) (by omega)]; exact h10, by rw [e56]; exact hcM, ?_, ?_, oks, ?_, so⟩ (fun i a b => by rw [f1 i (by omega) (by omega)]; exact hf i (by omega)) (by rw [e56]; exact zdM) (by rw [e56]; exact nd) (by rw [e56]; exact hz) (Or.inr ⟨rfl, by omega⟩)
        · rw [f2 5 (by decide), hf P (by omega)]; exact I2
        · rw [f3]; omega
        · rw [prodL_perm mk pe, eP, e56]
          show A = pR mk 7 (M 56) * (pR mk 7 (cutf (m 59)) ^ ((r : Int)).toNat * prodL mk (ptl m P))
          rw [c59, Int.toNat_natCast, I7, eM]
          grind
        · refine List.Pairwise.imp_of_mem ?_ so
          intro x y hx hy hxy
          exact bef_ne (fun e => (el_one H (oks x hx).1 (oks y hy).1 (by rw [e]; exact zd_rf _)).2) hxy
  have loop : ∀ (t r : Nat) (M : rz_M) (nn : Int), 6 - r = t → r ≤ 6 → (∀ i : Nat, (i < 55 ∨ 58 < i) → M i = m i) → M 55 9 = P → M 55 10 = nn → nn = n - d * r → core co mk (M 56) nn → pR mk 7 (m 56) = pR mk 7 (m 59) ^ r * pR mk 7 (M 56) → (m 59 0 = 0 → hB (m 56) 100 → hB (M 56) 100) → rz_E y_Sp_takeOut 2 [rR 55, rI d, rI r] [] M K := by
    intro t
    induction t with
    | zero =>
      intro r M nn ht hr hf h9 h10 hnn hcM eM hz
      have er : r = 6 := by omega
      subst er
      have n06 := hcM.1
      have n6 := I5.1.2
      have d66 : 6 ≤ d * ((6 : Nat) : Int) := by omega
      refine T_Sp_takeOut_2 _ _ _ _ (bt (by decide) (fin 6 M nn (by decide) hf h9 h10 hnn hcM eM hz (fun z => ?_)))
      obtain ⟨q, eq⟩ := z
      obtain ⟨i, j, hi, _, hij⟩ := zd_deg H (core_tz H hcM) eq
      have := tz_uniq hi tg
      omega
    | succ t ih =>
      intro r M nn ht hr hf h9 h10 hnn hcM eM hz
      have e59 : M 59 = m 59 := hf 59 (by omega)
      have zdM : zd (pR mk 7 (M 56)) (pR mk 7 (m 56)) := ⟨pR mk 7 (m 59) ^ r, by rw [eM]; grind⟩
      have gM : gOK mk (M 56) (M 59) d := by
        rw [e59]
        refine ⟨⟨d1, d6⟩, gd, gz, ?_, ?_⟩
        · rcases gl with q | q
          · exact Or.inl q
          · exact Or.inr (nolin_dv q zdM)
        · rcases g0 with q | ⟨q1, q2, q3⟩
          · exact Or.inl q
          · by_cases w : m 59 0 = 0
            · exact Or.inr ⟨q1, q2, hz w q3⟩
            · exact Or.inl w
      have n06 := hcM.1
      have tb := tbn_le nn
      refine T_Sp_takeOut_2 _ _ _ _ (bf (by omega) (c_Sp_dividesRest H ⟨d1, d6⟩ n06.2 n06.1 h10 hcM.2.2.1 (fun k k0 k1 => bd_le (hcM.2.2.2.1 k k0 k1) (by omega)) (by have := hcM.2.1; omega) (by rw [e59]; omega) (by rw [e59]; exact gz) (by rw [e59]; exact hgb) (fun q eq => q_any H hcM gM eq) (fun m' f1 e1 z1 hdn => b1t ?_) (fun nd m' f1 => b0t ?_)))
      · refine c_RC_copy i58 i56 ?_
        have f55 : wr m' 56 7 (m' 58) 55 = M 55 := by rw [wr_ne (by decide), f1 55 (by decide) (by decide)]
        rw [f55, h10, w32_id (by omega) (by omega), w32_id (by omega) (by omega), show (r : Int) + 1 = ((r + 1 : Nat) : Int) from by omega]
        have e56 : ∀ y : Int, 0 ≤ y → y < 7 → rz_up (wr m' 56 7 (m' 58)) 55 10 (nn - d) 56 y = m' 58 y := fun y y0 y1 => by rw [up_ne (by decide), wr_in y0 y1]
        have p56 : pR mk 7 (rz_up (wr m' 56 7 (m' 58)) 55 10 (nn - d) 56) = pR mk 7 (m' 58) := pR_congr H (fun y a b => e56 y a (by omega))
        obtain ⟨cq, sq⟩ := q_row H hcM gM hdn z1 e1
        have cq' : core co mk (rz_up (wr m' 56 7 (m' 58)) 55 10 (nn - d) 56) (nn - d) := by
          have nd0 := cq.1
          refine ⟨cq.1, by rw [e56 _ nd0.1 (by omega)]; exact cq.2.1, fun k k0 k1 => by rw [e56 k (by omega) k1]; exact cq.2.2.1 k k0 k1, fun k k0 k1 => by rw [e56 k k0 k1]; exact cq.2.2.2.1 k k0 k1, by rw [e56 _ nd0.1 (by omega)]; exact cq.2.2.2.2.1, by rw [e56 0 (by decide) (by decide)]; exact cq.2.2.2.2.2.1, by rw [p56]; exact cq.2.2.2.2.2.2⟩
        refine ih (r + 1) _ (nn - d) (by omega) (by omega) (fun i hi => ?_) ?_ up_eq ?_ cq' ?_ (fun w0 w1 k k0 k1 => ?_)
        · rw [up_ne (by omega), wr_ne (by omega), f1 i (by omega) (by omega)]
          exact hf i hi
        · rw [up_nj (by decide), f55]; exact h9
        · rw [hnn, show ((r + 1 : Nat) : Int) = (r : Int) + 1 from by omega, Int.mul_add, Int.mul_one]
          omega
        · rw [p56, eM, e1, e59, Lean.Grind.Semiring.pow_succ]
          grind
        · rw [e56 k k0 k1]
          exact sq (by rw [e59]; exact w0) k k0 k1
      · rw [e59] at nd
        have e56 : m' 56 = M 56 := f1 56 (by decide) (by decide)
        refine fin r m' nn hr (fun i hi => by rw [f1 i (by omega) (by omega)]; exact hf i hi) (by rw [f1 55 (by decide) (by decide)]; exact h9) (by rw [f1 55 (by decide) (by decide)]; exact h10) hnn (by rw [e56]; exact hcM) (by rw [e56]; exact eM) (by rw [e56]; exact hz) (by rw [e56]; exact nd)
  exact T_Sp_takeOut_0 _ _ _ (loop 6 0 m n (by decide) (by decide) (fun _ _ => rfl) I3 I4 (by show n = n - d * 0; omega) I5 (by rw [Lean.Grind.Semiring.pow_zero]; grind) (fun _ q => q))
end
