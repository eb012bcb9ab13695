/-! the division's contract -/
theorem c_Big_divideBy {c : Nat} (hc : bgO c) {m : rz_M} (g : bg m c) {k : Int} (hk : 1 ≤ k ∧ k ≤ 1000) {K : Int → rz_M → Prop}
    (h : ∀ m', bgw c m m' → bg m' c → bv m' c = Int.tdiv (bv m c) k → K 0 m') : rz_C y_Big_divideBy [rR c, rI k] m K := by
  obtain ⟨s, hs⟩ : ∃ n : Nat, m c 1 = n := ⟨(m c 1).toNat, by have := g.1; omega⟩
  have hs40 : s ≤ 40 := by have := g.1; omega
  have hd : digs (m (c + 1)) s := by rw [← hs]; exact g.2.1
  refine T_Big_divideBy_0 _ _ _ _ ⟨hc.1, ?_⟩
  rw [hs, w32_id (by omega) (by omega)]
  refine l_divideBy hc hs40 hs hd hk ?_ s m 0 (Nat.le_refl _) (fun _ _ => rfl) hd (fun _ _ _ => rfl) (by decide) (by omega) (by simp only [Int.sub_self, Int.mul_zero, Int.zero_mul, Int.add_zero])
  rintro M hM hg ⟨r, r0, r1, e⟩
  have nn := mag_nn s hg
  have eq : mag (m (c + 1)) s / k = mag (M (c + 1)) s := by
    rw [e, Int.add_comm, Int.add_mul_ediv_left _ _ (by omega), Int.ediv_eq_zero_of_lt r0 r1, Int.zero_add]
  have n0 := mag_nn s hd
  have ev : bv m c = m c 2 * mag (m (c + 1)) s := by
    unfold bv
    rw [hs, Int.toNat_natCast]
  have zg := bm_0 g
  unfold bm at zg
  rw [hs, Int.toNat_natCast] at zg
  refine c_Big_endWith hc hs40 hg ⟨by decide, by decide⟩ (Or.inl rfl) ?_ (fun m' w b v => h m' (fun i h1 h2 => (w i h1 h2).trans (hM i h2)) b ?_)
  · rcases bg_sg g with z | z | z
    · refine Or.inr (Or.inr ?_)
      rw [Int.zero_mul, Int.add_zero, ← eq, zg z]
      exact Int.zero_ediv k
    · exact Or.inl z
    · exact Or.inr (Or.inl z)
  · rw [v, ev, Int.zero_mul, Int.add_zero, ← eq, ← Int.tdiv_eq_ediv_of_nonneg n0]
    rcases bg_sg g with z | z | z <;> rw [z]
    · rw [Int.zero_mul, Int.zero_mul, Int.zero_tdiv]
    · rw [Int.one_mul, Int.one_mul]
    · rw [show ∀ x : Int, (-1) * x = -x from fun x => by omega, show ∀ x : Int, (-1) * x = -x from fun x => by omega, Int.neg_tdiv]
