/-! a Big times a long -/
def colP (m : rz_M) (a : Nat) (f : Int) (j : Int) : Int := m (a + 1) j * f
theorem cyP_R {g : Int → Int} {f : Int} (hf : 0 ≤ f) : ∀ n : Nat, digs g n → 0 ≤ cy (fun j => g j * f) n ∧ cy (fun j => g j * f) n ≤ f
  | 0, _ => ⟨Int.le_refl _, hf⟩
  | n + 1, h => by
    have h1 := cyP_R hf n (fun j x y => h j x (by omega))
    have h2 := h n (by omega) (by omega)
    have h3 : g n * f ≤ 2147483647 * f := Int.mul_le_mul_of_nonneg_right (by omega) hf
    have h4 : 0 ≤ g n * f := Int.mul_nonneg h2.1 hf
    show 0 ≤ (cy (fun j => g j * f) n + g n * f) / 2147483648 ∧ (cy (fun j => g j * f) n + g n * f) / 2147483648 ≤ f
    omega
theorem l_scale {a c : Nat} (ha : bgO a) (hc : bgO c) {m : rz_M} (ga : bg m a) {n : Nat} (hn : n ≤ 40) (han : m a 1 = n) {by_ f : Int} (hf : 0 ≤ f ∧ f ≤ 2147483647) {K : Int → rz_M → Prop}
    (h : rz_C y_J_signum [rL by_] (wr m (c + 1) n (dgt (colP m a f))) (fun r1 m1 => rz_isC c 0 = true ∧ rz_C y_Big_endWith [rR c, rI n, rL (cy (colP m a f) n), rI (w32 (m a 2 * r1))] m1 (fun _ m' => K 0 m'))) : ∀ (d k : Nat), n - k = d → k ≤ n → rz_E y_Big_scale 12 [rR c, rR a, rL by_, rX 1, rL (cy (colP m a f) k), rX 1, rL f, rX 1, rI k] [] (wr m (c + 1) k (dgt (colP m a f))) K
  | 0, k, hd, hk => by
    have e : k = n := by omega
    subst e
    have e1 : wr m (c + 1) k (dgt (colP m a f)) a = m a := wr_ne (bgO_ne ha hc)
    refine T_Big_scale_12 _ _ _ _ _ _ _ _ ⟨ha.1, ?_⟩
    rw [e1, han]
    exact bt (by omega) ⟨ha.1, ha.1, h⟩
  | d + 1, k, hd, hk => by
    have e1 : wr m (c + 1) k (dgt (colP m a f)) a = m a := wr_ne (bgO_ne ha hc)
    have da := ga.2.1 k (by omega) (by omega)
    have cR : 0 ≤ cy (colP m a f) k ∧ cy (colP m a f) k ≤ f := cyP_R hf.1 k (fun j x y => ga.2.1 j x (by omega))
    have p1 : m (a + 1) k * f ≤ 2147483647 * f := Int.mul_le_mul_of_nonneg_right (by omega) hf.1
    have p0 : 0 ≤ m (a + 1) k * f := Int.mul_nonneg da.1 hf.1
    refine T_Big_scale_12 _ _ _ _ _ _ _ _ ⟨ha.1, ?_⟩
    rw [e1, han, ha.2.1, hc.2.1, wr_at]
    refine bf (by omega) ⟨ha.1, ha.2.2.1, ⟨by omega, by rw [ha.2.2.2]; omega⟩, hc.1, hc.2.2.1, ⟨by omega, by rw [hc.2.2.2]; omega⟩, ?_⟩
    rw [w64_id (z := m (a + 1) k * f) (by omega) (by omega), w64_id (by omega) (by omega), shr31 ⟨by omega, by omega⟩, and31, w32_id (by omega) (by omega)]
    rw [wr_succ (by omega) (show (cy (colP m a f) k + m (a + 1) k * f) % 2147483648 = dgt (colP m a f) k by unfold dgt; rw [Int.toNat_natCast]; rfl)]
    exact l_scale ha hc ga hn han hf h d (k + 1) (by omega) (by omega)
theorem c_Big_scale {a c : Nat} (ha : bgO a) (hc : bgO c) {m : rz_M} (ga : bg m a) {x : Int} (hx : -2147483648 < x ∧ x < 2147483648) {K : Int → rz_M → Prop}
    (hs : bm m a * (x.natAbs : Int) < pw 40) (h : ∀ m', bgw c m m' → bg m' c → bv m' c = bv m a * x → K 0 m') : rz_C y_Big_scale [rR c, rR a, rL x] m K := by
  obtain ⟨n, hn⟩ : ∃ n : Nat, m a 1 = n := ⟨(m a 1).toNat, by have := ga.1; omega⟩
  have hn40 : n ≤ 40 := by have := ga.1; omega
  have sx := sgl_abs (x := x) ⟨by omega, by omega⟩
  have hf : 0 ≤ (x.natAbs : Int) ∧ (x.natAbs : Int) ≤ 2147483647 := by omega
  have nn := bm_nn ga
  have l := l_scale ha hc ga hn40 hn (by_ := x) hf (K := K) ?_ n 0 rfl (Nat.zero_le _)
  · refine T_Big_scale_0 _ _ _ _ _ ?_
    rw [sx.1]
    rw [show ((0 : Nat) : Int) = 0 from rfl, wr_0] at l
    exact l
  · refine c_J_signum ⟨by omega, by omega⟩ ⟨hc.1, ?_⟩
    have hm : mag (dgt (colP m a x.natAbs)) n + cy (colP m a x.natAbs) n * pw n = bm m a * (x.natAbs : Int) := by
      rw [mag_cy]
      show mag (fun j => m (a + 1) j * (x.natAbs : Int)) n = _
      rw [mag_mul]
      unfold bm
      rw [hn, Int.toNat_natCast]
    have d1 : ∀ j : Int, 0 ≤ j → j < n → wr m (c + 1) n (dgt (colP m a x.natAbs)) (c + 1) j = dgt (colP m a x.natAbs) j := fun j x y => wr_in x y
    have md : mag (wr m (c + 1) n (dgt (colP m a x.natAbs)) (c + 1)) n = mag (dgt (colP m a x.natAbs)) n := mag_congr n d1
    have hd : digs (dgt (colP m a x.natAbs)) n := fun j _ _ => dgt_R _ _
    have cR : 0 ≤ cy (colP m a x.natAbs) n ∧ cy (colP m a x.natAbs) n ≤ (x.natAbs : Int) := cyP_R hf.1 n (fun j x y => ga.2.1 j x (by omega))
    have sg := bg_sg ga
    have zg := bm_0 ga
    have ew : w32 (m a 2 * sgl x) = m a 2 * sgl x := by
      have : sgl x = -1 ∨ sgl x = 0 ∨ sgl x = 1 := by unfold sgl; split <;> first | exact Or.inl rfl | (split <;> first | exact Or.inr (Or.inl rfl) | exact Or.inr (Or.inr rfl))
      rcases this with q | q | q <;> rcases sg with z | z | z <;> rw [q, z] <;> decide
    rw [ew]
    refine c_Big_endWith hc hn40 (fun j x y => by rw [d1 j x y]; exact dgt_R _ _) ⟨cR.1, by omega⟩ ?_ ?_ (fun m' w g v => h m' (fun i h1 h2 => (w i h1 h2).trans (wr_ne h2)) g ?_)
    · by_cases e : n < 40
      · exact Or.inr e
      · have e40 : n = 40 := by omega
        subst e40
        exact Or.inl (no_carry (pw_pos 40) (mag_nn 40 hd) cR.1 (by rw [hm]; exact hs))
    · rw [md, hm]
      rcases sg with z | z | z
      · exact Or.inr (Or.inr (by rw [zg z, Int.zero_mul]))
      · rw [z]
        unfold sgl
        by_cases q : x < 0
        · exact Or.inr (Or.inl (by rw [if_pos q]; rfl))
        · by_cases q2 : x = 0
          · exact Or.inr (Or.inr (by rw [q2]; exact Int.mul_zero _))
          · exact Or.inl (by rw [if_neg q, if_neg q2]; rfl)
      · rw [z]
        unfold sgl
        by_cases q : x < 0
        · exact Or.inl (by rw [if_pos q]; rfl)
        · by_cases q2 : x = 0
          · exact Or.inr (Or.inr (by rw [q2]; exact Int.mul_zero _))
          · exact Or.inr (Or.inl (by rw [if_neg q, if_neg q2]; rfl))
    · rw [v, md, hm]
      show m a 2 * sgl x * (bm m a * (x.natAbs : Int)) = m a 2 * bm m a * x
      rw [show m a 2 * sgl x * (bm m a * (x.natAbs : Int)) = m a 2 * bm m a * (sgl x * (x.natAbs : Int)) by grind, sx.2]
