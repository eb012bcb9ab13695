/-! how often a factor is among the others, both sides -/
def sameE (x y : E3) : Prop := x.1 = y.1 ∧ x.2.1 = y.2.1
theorem elMO_eq {m : rz_M} {i k : Nat} (h : ∀ j : Int, 0 ≤ j → j < 7 → m 234 (7 * (k : Int) + j) = m 225 (7 * (i : Int) + j)) : (elO m k).1 = (elM m i).1 := canon_ext (cutf_canon _) (cutf_canon _) (fun y y0 y1 => by rw [elO_at y0 y1, elM_at y0 y1]; exact h y y0 y1)
theorem l_M_ot34 {i k : Nat} (hi : i < 6) (hk : k < 6) {m : rz_M} {K : Int → rz_M → Prop} (h1 : sameE (elO m k) (elM m i) → K (m 236 k) m) (h0 : ¬ sameE (elO m k) (elM m i) → rz_E y_M_oftenThere 2 [rR 221, rI i, rI ((k + 1 : Nat) : Int), rX 0, rX 0] [] m K) : ∀ (r : Nat) (j : Int) (f : Int), 7 - j = r → 0 ≤ j → (f = 0 ∧ ¬ sameE (elO m k) (elM m i) ∨ f = 1 ∧ m 235 k = m 226 i ∧ ∀ y : Int, 0 ≤ y → y < j → m 234 (7 * (k : Int) + y) = m 225 (7 * (i : Int) + y)) → rz_E y_M_oftenThere 34 [rR 221, rI i, rI k, rI f, rI j] [] m K := by
  have wk : w32 ((k : Int) + 1) = ((k + 1 : Nat) : Int) := by rw [w32_id (by omega) (by omega)]; omega
  intro r
  induction r with
  | zero =>
    intro j f hr j0 hf
    refine T_M_oftenThere_34 _ _ _ _ _ _ (bt (by omega) ?_)
    rw [wk]
    rcases hf with ⟨q, n⟩ | ⟨q, d, e⟩
    · subst q
      exact b0t (h0 n)
    · subst q
      exact b1t ⟨⟨by omega, by omega⟩, h1 ⟨elMO_eq (fun y y0 y1 => e y y0 (by omega)), d⟩⟩
  | succ r ih =>
    intro j f hr j0 hf
    refine T_M_oftenThere_34 _ _ _ _ _ _ (bf (by omega) ?_)
    rw [wk]
    rcases hf with ⟨q, n⟩ | ⟨q, d, e⟩
    · subst q
      exact b0t (b0t (h0 n))
    · subst q
      rw [w32_id (z := 7 * (k : Int)) (by omega) (by omega), w32_id (z := 7 * (k : Int) + j) (by omega) (by omega), w32_id (z := 7 * (i : Int)) (by omega) (by omega), w32_id (z := 7 * (i : Int) + j) (by omega) (by omega), w32_id (z := j + 1) (by omega) (by omega)]
      refine b1t ⟨⟨by omega, by omega⟩, ⟨by omega, by omega⟩, bb (fun q => ih (j + 1) 0 (by omega) (by omega) (Or.inl ⟨rfl, fun s => q ?_⟩)) (fun q => ih (j + 1) 1 (by omega) (by omega) (Or.inr ⟨rfl, d, fun y y0 y1 => ?_⟩))⟩
      · have := congrFun s.1 j
        rwa [elO_at j0 (by omega), elM_at j0 (by omega)] at this
      · by_cases w : y = j
        · rw [w]; exact Classical.not_not.mp q
        · exact e y y0 (by omega)
theorem l_M_ot2 {i c : Nat} (hi : i < 6) (hc : c ≤ 6) {m : rz_M} (ec : m 221 22 = c) {K : Int → rz_M → Prop} (h1 : ∀ k : Nat, k < c → sameE (elO m k) (elM m i) → K (m 236 k) m) (h0 : (∀ k : Nat, k < c → ¬ sameE (elO m k) (elM m i)) → K 0 m) : ∀ (r k : Nat), c - k = r → k ≤ c → (∀ k' : Nat, k' < k → ¬ sameE (elO m k') (elM m i)) → rz_E y_M_oftenThere 2 [rR 221, rI i, rI k, rX 0, rX 0] [] m K := by
  intro r
  induction r with
  | zero =>
    intro k hr hk hn
    refine T_M_oftenThere_2 _ _ _ _ ?_
    rw [ec]
    exact bt (by omega) (h0 (fun k' hk' => hn k' (by omega)))
  | succ r ih =>
    intro k hr hk hn
    refine T_M_oftenThere_2 _ _ _ _ ?_
    rw [ec]
    have nx : ¬ sameE (elO m k) (elM m i) → rz_E y_M_oftenThere 2 [rR 221, rI i, rI ((k + 1 : Nat) : Int), rX 0, rX 0] [] m K := fun n => ih (k + 1) (by omega) (by omega) (fun k' hk' => by
      by_cases w : k' = k
      · rw [w]; exact n
      · exact hn k' (by omega))
    refine bf (by omega) ⟨⟨by omega, by omega⟩, ⟨by omega, by omega⟩, bb (fun q => l_M_ot34 hi (by omega) (h1 k (by omega)) nx 7 0 0 (by decide) (by decide) (Or.inl ⟨rfl, fun s => q s.2⟩)) (fun q => l_M_ot34 hi (by omega) (h1 k (by omega)) nx 7 0 1 (by decide) (by decide) (Or.inr ⟨rfl, Classical.not_not.mp q, fun y y0 y1 => by omega⟩))⟩
theorem c_M_oftenThere {i c : Nat} (hi : i < 6) (hc : c ≤ 6) {m : rz_M} (ec : m 221 22 = c) {K : Int → rz_M → Prop} (h1 : ∀ k : Nat, k < c → sameE (elO m k) (elM m i) → K (m 236 k) m) (h0 : (∀ k : Nat, k < c → ¬ sameE (elO m k) (elM m i)) → K 0 m) : rz_C y_M_oftenThere [rR 221, rI i] m K :=
  T_M_oftenThere_0 _ _ _ (l_M_ot2 hi hc ec h1 h0 c 0 rfl (Nat.zero_le _) (fun k' hk' => by omega))
