/-! the class: what both have, one part so often -/
section
variable {R : Type}
theorem l_Pa_sw48 [Lean.Grind.CommRing R] {co : R → Nat → Int} {mk : Nat → (Nat → Int) → R} (H : PolyR co mk) {P Po : Nat} (hP : isP P) {k : Nat} (hk : k < 6) {m0 : rz_M} {d : Nat} (hd : 1 ≤ d ∧ d ≤ 6) (ed : m0 (P + 8) k = d) (hz : ∀ y : Int, d < y → y < 7 → m0 (P + 2 + k) y = 0) {shared : Int} {K : Int → rz_M → Prop} {A : R} {n0 : Nat} (hs : (n0 : Int) + d * shared ≤ 6 ∨ shared ≤ 0) (h : ∀ m' : rz_M, (∀ i, i ≠ 12 → i ≠ P + 10 → m' i = m0 i) → (∀ y : Nat, y < 7 → m' 12 y = w64 (co (A * pR mk 7 (m0 (P + 2 + k)) ^ shared.toNat) y)) → (∀ y : Nat, n0 + d * shared.toNat < y → co (A * pR mk 7 (m0 (P + 2 + k)) ^ shared.toNat) y = 0) → rz_E y_Parts_shareWith 13 [rR P, rR Po, rR 12, rI ((n0 + d * shared.toNat : Nat) : Int), rI ((k + 1 : Nat) : Int), rX 0, rX 0] [] m' K) : ∀ (r t : Nat) (m : rz_M), (shared - t).toNat = r → (t : Int) ≤ shared ∨ t = 0 → (∀ i, i ≠ 12 → i ≠ P + 10 → m i = m0 i) → (∀ y : Nat, y < 7 → m 12 y = w64 (co (A * pR mk 7 (m0 (P + 2 + k)) ^ t) y)) → (∀ y : Nat, n0 + d * t < y → co (A * pR mk 7 (m0 (P + 2 + k)) ^ t) y = 0) → rz_E y_Parts_shareWith 48 [rR P, rR Po, rR 12, rI ((n0 + d * t : Nat) : Int), rI k, rI shared, rI t] [] m K := by
  have wk : w32 ((k : Int) + 1) = ((k + 1 : Nat) : Int) := by rw [w32_id (by omega) (by omega)]; omega
  have c := parts_c hP
  have pr := parts_r hP k hk
  have P12 : 12 < P ∧ P + 10 < 47 := by rcases hP with z | z | z <;> omega
  have i10 : rz_isK (P + 10) 1 = true ∧ rz_len (P + 10) = 7 := by rcases hP with z | z | z <;> subst z <;> exact ⟨by decide +kernel, by decide +kernel⟩
  have i12 : rz_isK 12 1 = true ∧ rz_len 12 = 7 := ⟨by decide +kernel, by decide +kernel⟩
  intro r
  induction r with
  | zero =>
    intro t m hr ht hf hv hzz
    have e : shared.toNat = t := by omega
    refine T_Parts_shareWith_48 _ _ _ _ _ _ _ _ _ (bt (by omega) ?_)
    rw [wk]
    rw [e] at h
    exact h m hf hv hzz
  | succ r ih =>
    intro t m hr ht hf hv hzz
    have ts : (t : Int) < shared := by omega
    have a1 : (shared - ((t + 1 : Nat) : Int)).toNat = r := by clear hP c pr hd ed hz h hs hf hv hzz ih; omega
    have a2 : ((t + 1 : Nat) : Int) ≤ shared := by clear hP c pr hd ed hz h hs hf hv hzz ih; omega
    have lim : n0 + d * (t + 1) ≤ 6 := by
      have h1 : (d : Int) * ((t : Int) + 1) ≤ d * shared := Int.mul_le_mul_of_nonneg_left (by omega) (by omega)
      have h2 : ((d * (t + 1) : Nat) : Int) = (d : Int) * ((t : Int) + 1) := by rw [Int.natCast_mul]; rfl
      omega
    rw [Nat.mul_add, Nat.mul_one] at lim
    generalize hX : pR mk 7 (m0 (P + 2 + k)) = X at *
    have Xz : ∀ y : Nat, d < y → co X y = 0 := fun y hy => by
      rw [← hX, co_pR H]
      split
      · exact hz y (by omega) (by omega)
      · rfl
    have ep : A * X ^ (t + 1) = A * X ^ t * X := by rw [Lean.Grind.Semiring.pow_succ]; grind
    have key : ∀ m3 : rz_M, (∀ i, i ≠ 12 → i ≠ P + 10 → m3 i = m0 i) → (∀ y : Nat, y < 7 → m3 12 y = w64 (co (A * X ^ t * X) y)) → rz_E y_Parts_shareWith 48 [rR P, rR Po, rR 12, rI (w32 (((n0 + d * t : Nat) : Int) + m3 (P + 8) k)), rI k, rI shared, rI (w32 ((t : Int) + 1))] [] m3 K := fun m3 f3 v3 => by
      have w1 : w32 ((t : Int) + 1) = ((t + 1 : Nat) : Int) := by
        have tl : t ≤ d * t := by have := Nat.mul_le_mul_right t hd.1; omega
        rw [w32_id (by omega) (by omega)]
        omega
      have w2 : w32 (((n0 + d * t : Nat) : Int) + m3 (P + 8) k) = ((n0 + d * (t + 1) : Nat) : Int) := by
        rw [f3 (P + 8) (by omega) (by omega), ed, Nat.mul_add, Nat.mul_one, w32_id (by omega) (by omega)]
        omega
      rw [w1, w2]
      show rz_E y_Parts_shareWith 48 [rR P, rR Po, rR 12, rI ((n0 + d * (t + 1) : Nat) : Int), rI (k : Int), rI shared, rI ((t + 1 : Nat) : Int)] [] m3 K
      refine ih (t + 1) m3 a1 (Or.inl a2) f3 (fun y hy => by rw [ep]; exact v3 y hy) (fun y hy => ?_)
      rw [ep]
      rw [Nat.mul_add, Nat.mul_one] at hy
      exact (co_top H (n := n0 + d * t) (l := d) hzz Xz).2 y (by omega)
    refine T_Parts_shareWith_48 _ _ _ _ _ _ _ _ _ (bf (by omega) ⟨c.1, ?_⟩)
    rw [c.2.2.2.2.1, c.2.1, c.2.2.1, pr.1, c.2.2.2.2.2.2.1, c.2.2.2.2.2.2.2.2.1]
    refine c_RC_clear (n := 7) i10.1 i10.2 (by decide) ⟨c.1, c.2.2.2.2.2.1, ⟨by omega, by omega⟩, c.1, c.2.2.2.2.2.2.2.1, ⟨by omega, by omega⟩, c.1, ?_⟩
    rw [wr_ne (show P + 8 ≠ P + 10 by omega), hf (P + 8) (by omega) (by omega), ed]
    refine c_RC_addProduct (L := 7) i10.1 i10.2 (by decide) ⟨i12.1, by rw [i12.2]; omega⟩ ⟨pr.2.1, by rw [pr.2.2]; omega⟩ (by omega) (by omega) ⟨by omega, by omega, by omega, by omega⟩ ⟨c.1, c_RC_copy ⟨i10.1, by rw [i10.2]; decide⟩ ⟨i12.1, by rw [i12.2]; decide⟩ ⟨c.1, c.2.2.2.2.2.2.2.1, ⟨by omega, by omega⟩, key _ (fun i a b => by rw [wr_ne a, wr_ne b, wr_ne b]; exact hf i a b) (fun y hy => ?_)⟩⟩
    rw [wr_in (by omega) (by omega), wr_in (by omega) (by omega), wr_ne (show 12 ≠ P + 10 by omega), wr_ne (show P + 2 + k ≠ P + 10 by omega), hf (P + 2 + k) (by omega) (by omega)]
    have ap := apO_w H (L := 7) (nb := ((d : Int) + 1).toNat) (f := m 12) (g := m0 (P + 2 + k)) (F := fun y => co (A * X ^ t) y.toNat) (acc := wr m (P + 10) 7 (fun _ => 0) (P + 10)) (fun y y0 y1 => wr_in y0 y1) (((n0 + d * t : Nat) : Int) + 1).toNat (fun j j0 j1 => by
      have := hv j.toNat (by omega)
      rwa [Int.toNat_of_nonneg j0] at this) y (by omega) (by omega)
    have p1 : pR mk (((n0 + d * t : Nat) : Int) + 1).toNat (fun y => co (A * X ^ t) y.toNat) = A * X ^ t := H.1 _ _ (fun j => by
      rw [co_pR H]
      split
      · show co _ ((j : Int)).toNat = _
        rw [Int.toNat_natCast]
      · exact (hzz j (by omega)).symm)
    have p2 : pR mk ((d : Int) + 1).toNat (m0 (P + 2 + k)) = X := by
      rw [← hX]
      exact pR_ext H (by omega) (fun _ _ _ => rfl) (fun j j0 j1 => hz j (by omega) (by omega))
    rw [p1, p2, Int.toNat_natCast] at ap
    exact ap
end
