/-! the class: how often a part is among the others -/
def sameR (f g : Int → Int) : Prop := ∀ y : Int, 0 ≤ y → y < 7 → f y = g y
theorem l_Pa_oo15 {P : Nat} (hP : isP P) {k : Nat} (hk : k < 6) {x : Nat} (hx : rz_isK x 1 = true) (hxl : rz_len x = 7) {m : rz_M} {K : Int → rz_M → Prop} (h1 : sameR (m (P + 2 + k)) (m x) → K (m (P + 9) k) m) (h0 : ¬ sameR (m (P + 2 + k)) (m x) → rz_E y_Parts_oftenOf 2 [rR P, rR x, rI ((k + 1 : Nat) : Int), rX 0, rX 0] [] m K) : ∀ (r : Nat) (j : Int) (f : Int), 7 - j = r → 0 ≤ j → (f = 0 ∧ ¬ sameR (m (P + 2 + k)) (m x) ∨ f = 1 ∧ ∀ y : Int, 0 ≤ y → y < j → m (P + 2 + k) y = m x y) → rz_E y_Parts_oftenOf 15 [rR P, rR x, rI k, rI f, rI j] [] m K := by
  have wk : w32 ((k : Int) + 1) = ((k + 1 : Nat) : Int) := by rw [w32_id (by omega) (by omega)]; omega
  have c := parts_c hP
  have pr := parts_r hP k hk
  intro r
  induction r with
  | zero =>
    intro j f hr j0 hf
    refine T_Parts_oftenOf_15 _ _ _ _ _ _ _ (bt (by omega) ?_)
    rw [wk, c.2.2.2.1, c.2.2.2.2.2.2.2.2.2.2]
    rcases hf with ⟨q, n⟩ | ⟨q, e⟩
    · subst q
      exact b0t (h0 n)
    · subst q
      exact b1t ⟨c.1, c.2.2.2.2.2.2.2.2.2.1, ⟨by omega, by omega⟩, h1 (fun y y0 y1 => e y y0 (by omega))⟩
  | succ r ih =>
    intro j f hr j0 hf
    refine T_Parts_oftenOf_15 _ _ _ _ _ _ _ (bf (by omega) ?_)
    rw [w32_id (z := j + 1) (by omega) (by omega), c.2.1, pr.1, pr.2.2, hxl, c.2.2.2.2.2.2.1]
    rcases hf with ⟨q, n⟩ | ⟨q, e⟩
    · subst q
      exact b0t (ih (j + 1) 0 (by omega) (by omega) (Or.inl ⟨rfl, n⟩))
    · subst q
      refine b1t ⟨c.1, c.2.2.2.2.2.1, ⟨by omega, by omega⟩, pr.2.1, ⟨by omega, by omega⟩, hx, ⟨by omega, by omega⟩, bb (fun q => ih (j + 1) 0 (by omega) (by omega) (Or.inl ⟨rfl, fun s => q (s j j0 (by omega))⟩)) (fun q => ih (j + 1) 1 (by omega) (by omega) (Or.inr ⟨rfl, fun y y0 y1 => ?_⟩))⟩
      by_cases w : y = j
      · rw [w]; exact Classical.not_not.mp q
      · exact e y y0 (by omega)
theorem l_Pa_oo2 {P : Nat} (hP : isP P) {c : Nat} (hc : c ≤ 6) {x : Nat} (hx : rz_isK x 1 = true) (hxl : rz_len x = 7) {m : rz_M} (ec : m P 4 = c) {K : Int → rz_M → Prop} (h1 : ∀ k : Nat, k < c → sameR (m (P + 2 + k)) (m x) → K (m (P + 9) k) m) (h0 : (∀ k : Nat, k < c → ¬ sameR (m (P + 2 + k)) (m x)) → K 0 m) : ∀ (r k : Nat), c - k = r → k ≤ c → (∀ k' : Nat, k' < k → ¬ sameR (m (P + 2 + k')) (m x)) → rz_E y_Parts_oftenOf 2 [rR P, rR x, rI k, rX 0, rX 0] [] m K := by
  intro r
  induction r with
  | zero =>
    intro k hr hk hn
    refine T_Parts_oftenOf_2 _ _ _ _ _ ⟨(parts_c hP).1, ?_⟩
    rw [ec]
    exact bt (by omega) (h0 (fun k' hk' => hn k' (by omega)))
  | succ r ih =>
    intro k hr hk hn
    refine T_Parts_oftenOf_2 _ _ _ _ _ ⟨(parts_c hP).1, ?_⟩
    rw [ec]
    refine bf (by omega) (l_Pa_oo15 hP (by omega) hx hxl (h1 k (by omega)) (fun n => ih (k + 1) (by omega) (by omega) (fun k' hk' => ?_)) 7 0 1 (by decide) (by decide) (Or.inr ⟨rfl, fun y y0 y1 => by omega⟩))
    by_cases w : k' = k
    · rw [w]; exact n
    · exact hn k' (by omega)
theorem c_Pa_oftenOf {P : Nat} (hP : isP P) {c : Nat} (hc : c ≤ 6) {x : Nat} (hx : rz_isK x 1 = true) (hxl : rz_len x = 7) {m : rz_M} (ec : m P 4 = c) {K : Int → rz_M → Prop} (h1 : ∀ k : Nat, k < c → sameR (m (P + 2 + k)) (m x) → K (m (P + 9) k) m) (h0 : (∀ k : Nat, k < c → ¬ sameR (m (P + 2 + k)) (m x)) → K 0 m) : rz_C y_Parts_oftenOf [rR P, rR x] m K :=
  T_Parts_oftenOf_0 _ _ _ _ (l_Pa_oo2 hP hc hx hxl ec h1 h0 c 0 rfl (Nat.zero_le _) (fun k' hk' => by omega))
