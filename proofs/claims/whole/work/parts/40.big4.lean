/-! sums of Bigs; products by a long -/
def bm (m : rz_M) (a : Nat) : Int := mag (m (a + 1)) (m a 1).toNat
theorem bm_nn {m : rz_M} {a : Nat} (h : bg m a) : 0 ≤ bm m a := mag_nn _ (by rw [Int.toNat_of_nonneg h.1.1]; exact h.2.1)
theorem bm_0 {m : rz_M} {a : Nat} (h : bg m a) (h0 : m a 2 = 0) : bm m a = 0 := by
  rcases h.2.2 with q | q
  · unfold bm
    rw [q.1]
    rfl
  · omega
theorem bg_sg {m : rz_M} {a : Nat} (h : bg m a) : m a 2 = 0 ∨ m a 2 = 1 ∨ m a 2 = -1 := by
  rcases h.2.2 with q | q
  · exact Or.inl q.2
  · exact Or.inr q.2.2
theorem c_Big_add {a b c : Nat} (ha : bgO a) (hb : bgO b) (hc : bgO c) {m : rz_M} (ga : bg m a) (gb : bg m b) {sd : Int} (hsd : sd = 1 ∨ sd = -1) {K : Int → rz_M → Prop}
    (hs : bm m a + bm m b < pw 40) (h : ∀ m', bgw c m m' → bg m' c → bv m' c = bv m a + sd * bv m b → K 0 m') : rz_C y_Big_add [rR c, rR a, rR b, rI sd] m K := by
  have sa := bg_sg ga
  have sb := bg_sg gb
  have na := bm_nn ga
  have nb := bm_nn gb
  have za := bm_0 ga
  have zb := bm_0 gb
  have e : w32 (m b 2 * sd) = m b 2 * sd := by
    rcases hsd with q | q <;> rcases sb with z | z | z <;> rw [q, z] <;> decide
  have fin : ∀ (sg t : Int), (∀ m', bgw c m m' → bg m' c → bv m' c = sg * t → sg * t = m a 2 * bm m a + sd * (m b 2 * bm m b) → K 0 m') := fun sg t m' w g v q => h m' w g (v.trans q)
  have e29 : (m a 2 = m b 2 * sd ∨ m a 2 = 0 ∨ m b 2 * sd = 0) → rz_E y_Big_add 29 [rR c, rR a, rR b, rX 0, rI (m b 2 * sd)] [] m K := fun q => by
    refine T_Big_add_29 _ _ _ _ _ _ ⟨ha.1, bb (fun z => ⟨ha.1, hc.1, c_Big_addSizes ha hb hc ga gb hs (by omega) (fun m' w g v => fin _ _ m' w g v ?_)⟩) (fun z => ⟨hc.1, c_Big_addSizes ha hb hc ga gb hs ?_ (fun m' w g v => fin _ _ m' w g v ?_)⟩)⟩
    · show m a 2 * (bm m a + bm m b) = _
      rcases q with q | q | q
      · rw [Int.mul_add]
        congr 1
        rw [q]
        grind
      · exact absurd q z
      · have hz : m b 2 = 0 := by rcases hsd with p | p <;> rw [p] at q <;> omega
        rw [zb hz, hz]
        grind
    · show _ ∨ _ ∨ bm m a + bm m b = 0
      have hz : m a 2 = 0 := Decidable.of_not_not z
      rw [za hz]
      rcases sb with y | y | y
      · rw [zb y]
        exact Or.inr (Or.inr rfl)
      · rw [y]
        omega
      · rw [y]
        omega
    · show m b 2 * sd * (bm m a + bm m b) = _
      have hz : m a 2 = 0 := Decidable.of_not_not z
      rw [za hz, hz]
      grind
  refine T_Big_add_0 _ _ _ _ _ _ ⟨hb.1, ha.1, ?_⟩
  rw [e]
  refine bb (fun q => e29 (Or.inl q)) (fun q1 => ⟨ha.1, bb (fun q => e29 (Or.inr (Or.inl q))) (fun q2 => bb (fun q3 => c_Big_isSmaller ha hb ga gb (fun lt => b1t ⟨hc.1, c_Big_takeSizes hb ha hc gb ga (Int.le_of_lt lt) ?_ (fun m' w g v => fin _ _ m' w g v ?_)⟩) (fun le => b0t ⟨ha.1, hc.1, c_Big_takeSizes ha hb hc ga gb le (by omega) (fun m' w g v => fin _ _ m' w g v ?_)⟩)) (fun q3 => e29 (Or.inr (Or.inr (Decidable.of_not_not q3)))))⟩)
  · rcases hsd with p | p <;> rw [p] at q3 ⊢ <;> omega
  · show m b 2 * sd * (bm m b - bm m a) = _
    have k : m b 2 * sd = - m a 2 := by rcases hsd with p | p <;> rw [p] at q1 q3 ⊢ <;> omega
    have k2 : m a 2 * bm m a = -(m b 2 * sd * bm m a) := by rw [k]; grind
    rw [k2]
    grind
  · show m a 2 * (bm m a - bm m b) = _
    have k : m b 2 * sd = - m a 2 := by rcases hsd with p | p <;> rw [p] at q1 q3 ⊢ <;> omega
    have k2 : sd * (m b 2 * bm m b) = -(m a 2 * bm m b) := by
      rw [show sd * (m b 2 * bm m b) = m b 2 * sd * bm m b by grind, k]
      grind
    rw [k2]
    grind
