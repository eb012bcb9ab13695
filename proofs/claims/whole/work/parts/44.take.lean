/-! a Big taken from another -/
theorem bgO_nd {a c : Nat} (ha : bgO a) (hc : bgO c) (h : a ≠ c) : a + 1 ≠ c + 1 ∧ a + 1 ≠ c ∧ a ≠ c + 1 := ⟨by omega, Ne.symm (bgO_ne hc ha), bgO_ne ha hc⟩
theorem c_Big_take {a c : Nat} (ha : bgO a) (hc : bgO c) (hne : a ≠ c) {m : rz_M} (g : bg m a) {K : Int → rz_M → Prop} (h : ∀ m', bgw c m m' → bg m' c → bv m' c = bv m a → K 0 m') : rz_C y_Big_take [rR c, rR a] m K := by
  obtain ⟨n1, n2, n3⟩ := bgO_nd ha hc hne
  refine T_Big_take_0 _ _ _ _ ⟨ha.1, hc.1, ha.1, hc.1, ha.1, hc.1, hc.1, ?_⟩
  rw [ha.2.1, hc.2.1]
  have e1 : rz_up (rz_up m c 2 (m a 2)) c 1 (rz_up m c 2 (m a 2) a 1) c 1 = m a 1 := by rw [up_eq, up_ne hne]
  rw [e1]
  refine ⟨⟨ha.2.2.1, hc.2.2.1⟩, ⟨by decide, by decide, g.1.1, by rw [ha.2.2.2]; have := g.1; omega, by rw [hc.2.2.2]; have := g.1; omega⟩, ?_⟩
  generalize hM : rz_cp (rz_up (rz_up m c 2 (m a 2)) c 1 (rz_up m c 2 (m a 2) a 1)) (a + 1) 0 (c + 1) 0 (m a 1) = M
  have d : ∀ j : Int, 0 ≤ j → j < m a 1 → M (c + 1) j = m (a + 1) j := fun j x y => by
    rw [← hM]
    unfold rz_cp
    rw [if_pos ⟨rfl, x, by omega⟩, show (0 : Int) + (j - 0) = j by omega, up_ne n2, up_ne n2]
  have o : ∀ i : Nat, i ≠ c + 1 → M i = rz_up (rz_up m c 2 (m a 2)) c 1 (rz_up m c 2 (m a 2) a 1) i := fun i hi => by
    rw [← hM]
    funext y
    unfold rz_cp
    exact if_neg (fun q => hi q.1)
  have s1 : M c 1 = m a 1 := by rw [o c (by omega), e1]
  have s2 : M c 2 = m a 2 := by rw [o c (by omega), up_nj (by decide), up_eq]
  refine h M (fun i h1 h2 => by rw [o i h2, up_ne h1, up_ne h1]) ⟨by rw [s1]; exact g.1, by rw [s1]; exact fun j x y => by rw [d j x y]; exact g.2.1 j x y, ?_⟩ ?_
  · rw [s1, s2]
    rcases g.2.2 with q | q
    · exact Or.inl q
    · exact Or.inr ⟨q.1, by rw [d _ (by have := g.1; omega) (by omega)]; exact q.2.1, q.2.2⟩
  · unfold bv
    rw [s1, s2, mag_congr (m a 1).toNat (fun j x y => d j x (by have := g.1; omega))]
