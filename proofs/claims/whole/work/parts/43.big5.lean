/-! the small ones of Big -/
theorem c_Big_sign {a : Nat} (ha : bgO a) {m : rz_M} {K : Int → rz_M → Prop} (h : K (m a 2) m) : rz_C y_Big_sign [rR a] m K := T_Big_sign_0 _ _ _ ⟨ha.1, h⟩
/-- the sign says the value's sign -/
theorem bv_sgn {m : rz_M} {a : Nat} (g : bg m a) : (m a 2 = 0 ∧ bv m a = 0) ∨ (m a 2 = 1 ∧ 0 < bv m a) ∨ (m a 2 = -1 ∧ bv m a < 0) := by
  have p := bg_pos g
  unfold bv
  rcases g.2.2 with q | q
  · exact Or.inl ⟨q.2, by rw [q.2, Int.zero_mul]⟩
  · have p := p q.1
    rcases q.2.2 with z | z
    · exact Or.inr (Or.inl ⟨z, by rw [z]; omega⟩)
    · exact Or.inr (Or.inr ⟨z, by rw [z]; omega⟩)
theorem c_Big_flip {a : Nat} (ha : bgO a) {m : rz_M} (g : bg m a) {K : Int → rz_M → Prop} (h : ∀ m', bgw a m m' → bg m' a → bv m' a = - bv m a → K 0 m') : rz_C y_Big_flip [rR a] m K := by
  have e1 : rz_up m a 2 (w32 (-(m a 2))) a 1 = m a 1 := up_nj (by decide)
  have e2 : rz_up m a 2 (w32 (-(m a 2))) (a + 1) = m (a + 1) := up_ne (by omega)
  have sg := bg_sg g
  have e3 : w32 (-(m a 2)) = -(m a 2) := by rcases sg with q | q | q <;> rw [q] <;> decide
  refine T_Big_flip_0 _ _ _ ⟨ha.1, ha.1, h _ (fun i h1 h2 => up_ne h1) ⟨by rw [e1]; exact g.1, by rw [e1, e2]; exact g.2.1, ?_⟩ ?_⟩
  · rw [e1, e2, up_eq, e3]
    have := g.2.2
    omega
  · unfold bv
    rw [e1, e2, up_eq, e3]
    grind
theorem c_Big_isWithin {a : Nat} (ha : bgO a) {m : rz_M} (g : bg m a) {l : Int} (hl : 0 ≤ l ∧ l < 2147483648) {K : Int → rz_M → Prop} (h1 : bm m a ≤ l → K 1 m) (h0 : l < bm m a → K 0 m) : rz_C y_Big_isWithin [rR a, rL l] m K := by
  have z0 : m a 1 = 0 → bm m a = 0 := fun q => by unfold bm; rw [q]; rfl
  have z1 : m a 1 = 1 → bm m a = m (a + 1) 0 := fun q => by
    unfold bm
    rw [q]
    show 0 + m (a + 1) 0 * 1 = _
    omega
  refine T_Big_isWithin_0 _ _ _ _ ⟨ha.1, bb (fun q => h1 (by rw [z0 q]; exact hl.1)) (fun q => ⟨ha.1, bb (fun q1 => h0 ?_) (fun q1 => ⟨ha.1, ?_⟩)⟩)⟩
  · obtain ⟨n, hn⟩ : ∃ n : Nat, m a 1 = (n + 1 : Nat) := ⟨(m a 1).toNat - 1, by have := g.1; omega⟩
    have h5 : m (a + 1) n ≠ 0 := by
      rcases g.2.2 with z | ⟨_, z, _⟩
      · omega
      · rw [hn, show ((n + 1 : Nat) : Int) - 1 = n from by omega] at z
        exact z
    have k1 := mag_le_size (g := m (a + 1)) (n := n) (by rw [← hn]; exact g.2.1) h5
    have k2 : pw 1 ≤ pw n := pw_mono (by omega)
    have k3 : pw 1 = 2147483648 := rfl
    unfold bm
    rw [hn, Int.toNat_natCast]
    omega
  · have z := z1 (Decidable.of_not_not q1)
    rw [ha.2.1]
    refine ⟨ha.2.2.1, ⟨by decide, by rw [ha.2.2.2]; decide⟩, bb (fun k => h0 (by omega)) (fun k => h1 (by omega))⟩
theorem c_Big_asLong {a : Nat} (ha : bgO a) {m : rz_M} (g : bg m a) (hb : bm m a < 2147483648) {K : Int → rz_M → Prop} (h : K (bv m a) m) : rz_C y_Big_asLong [rR a] m K := by
  refine T_Big_asLong_0 _ _ _ ⟨ha.1, bb (fun q => ⟨ha.1, ha.1, ?_⟩) (fun q => ?_)⟩
  · have q1 : m a 1 = 1 := by
      refine Decidable.byContradiction fun q1 => ?_
      obtain ⟨n, hn⟩ : ∃ n : Nat, m a 1 = (n + 1 : Nat) := ⟨(m a 1).toNat - 1, by have := g.1; omega⟩
      have h5 : m (a + 1) n ≠ 0 := by
        rcases g.2.2 with z | ⟨_, z, _⟩
        · omega
        · rw [hn, show ((n + 1 : Nat) : Int) - 1 = n from by omega] at z
          exact z
      have k1 := mag_le_size (g := m (a + 1)) (n := n) (by rw [← hn]; exact g.2.1) h5
      have k2 : pw 1 ≤ pw n := pw_mono (by omega)
      have k3 : pw 1 = 2147483648 := rfl
      unfold bm at hb
      rw [hn, Int.toNat_natCast] at hb
      omega
    have e : bv m a = m a 2 * m (a + 1) 0 := by
      unfold bv
      rw [q1]
      show m a 2 * (0 + m (a + 1) 0 * 1) = _
      grind
    have d := g.2.1 0 (by decide) (by omega)
    rw [ha.2.1]
    refine ⟨ha.2.2.1, ⟨by decide, by rw [ha.2.2.2]; decide⟩, ?_⟩
    rw [show w64 (m a 2 * m (a + 1) 0) = m a 2 * m (a + 1) 0 by rcases bg_sg g with z | z | z <;> rw [z] <;> exact w64_id (by omega) (by omega), ← e]
    exact h
  · have q1 : m a 1 = 0 := Decidable.of_not_not q
    have e : bv m a = 0 := by
      unfold bv
      rw [q1]
      exact Int.mul_zero _
    rw [e] at h
    exact h
