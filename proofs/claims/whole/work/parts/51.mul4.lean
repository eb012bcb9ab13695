/-! the product's contract -/
theorem l_mulz {a b c : Nat} (hc : bgO c) {L : Nat} (hL : L ≤ 40) {m : rz_M} {K : Int → rz_M → Prop} (h : rz_E y_Big_multiply 41 [rR c, rR a, rR b, rI L, rI 0, rX 0, rX 0, rX 0] [] (wr m (c + 1) L (fun _ => 0)) K) : ∀ (d k : Nat), L - k = d → k ≤ L → rz_E y_Big_multiply 18 [rR c, rR a, rR b, rI L, rI k, rX 0, rX 0, rX 0] [] (wr m (c + 1) k (fun _ => 0)) K
  | 0, k, hd, hk => by
    have q : k = L := by omega
    subst q
    exact T_Big_multiply_18 _ _ _ _ _ _ _ (bt (by omega) h)
  | d + 1, k, hd, hk => by
    refine T_Big_multiply_18 _ _ _ _ _ _ _ (bf (by omega) ⟨hc.1, ?_⟩)
    rw [hc.2.1, w32_id (by omega) (by omega), wr_succ (by omega) rfl]
    exact ⟨hc.2.2.1, ⟨by omega, by rw [hc.2.2.2]; omega⟩, l_mulz hc hL h d (k + 1) (by omega) (by omega)⟩
