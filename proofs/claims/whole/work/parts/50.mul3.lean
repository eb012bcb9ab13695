/-! a Big times another: all rows -/
theorem l_muli {a b c : Nat} (ha : bgO a) (hb : bgO b) (hc : bgO c) (nac : a ≠ c) (nbc : b ≠ c) {m : rz_M} {na nb L : Nat} (ena : m a 1 = na) (enb : m b 1 = nb) (da : digs (m (a + 1)) na) (db : digs (m (b + 1)) nb) (hL : L ≤ 40) (hna : na ≤ 40) (hnb : nb ≤ 40) (hin : na + nb ≤ L + 1) (hp : mag (m (a + 1)) na * mag (m (b + 1)) nb < pw L) {K : Int → rz_M → Prop}
    (h : ∀ (M : rz_M), (∀ x, x ≠ c + 1 → M x = m x) → digs (M (c + 1)) L → mag (M (c + 1)) L = mag (m (a + 1)) na * mag (m (b + 1)) nb → rz_C y_Big_endWith [rR c, rI L, rL 0, rI (w32 (m a 2 * m b 2))] M (fun _ m' => K 0 m')) :
    ∀ (d i : Nat) (M : rz_M), na - i = d → i ≤ na → (∀ x, x ≠ c + 1 → M x = m x) → digs (M (c + 1)) L → (∀ j : Int, (i + nb : Nat) ≤ j + 1 → (i = 0 ∨ (i + nb : Nat) ≤ j) → j < L → 0 ≤ j → (i + nb : Nat) ≤ j → M (c + 1) j = 0) → mag (M (c + 1)) L = mag (m (a + 1)) i * mag (m (b + 1)) nb → rz_E y_Big_multiply 41 [rR c, rR a, rR b, rI L, rI i, rX 0, rX 0, rX 0] [] M K
  | 0, i, M, hd, hi, hM, hg, hz, e => by
    have q : i = na := by omega
    subst q
    have e1 : M a = m a := hM a (bgO_ne ha hc)
    have e2 : M b = m b := hM b (bgO_ne hb hc)
    refine T_Big_multiply_41 _ _ _ _ _ _ _ ⟨ha.1, ?_⟩
    rw [e1, e2]
    exact bt (by omega) ⟨ha.1, hb.1, hc.1, h M hM hg e⟩
  | d + 1, i, M, hd, hi, hM, hg, hz, e => by
    have e1 : M a = m a := hM a (bgO_ne ha hc)
    refine T_Big_multiply_41 _ _ _ _ _ _ _ ⟨ha.1, ?_⟩
    rw [e1]
    refine bf (by omega) ?_
    refine l_mulj ha hb hc nac nbc ena enb da db hL (by omega) hna hnb (by omega) (T := mag (m (a + 1)) i * mag (m (b + 1)) nb) ?_ nb 0 M 0 rfl (Nat.zero_le _) hM hg (fun j q1 q2 => hz j (by omega) (Or.inr q1) q2 (by omega) q1) (by decide) (by decide) ?_
    · intro M2 cr hM2 hg2 hz2 c0 c1 e2
      have e3 : M2 b 1 = nb := by rw [hM2 b (bgO_ne hb hc)]; exact enb
      have f1 : mag (m (a + 1)) (i + 1) = mag (m (a + 1)) i + m (a + 1) i * pw i := rfl
      have e4 : mag (M2 (c + 1)) L + cr * pw (i + nb) = mag (m (a + 1)) (i + 1) * mag (m (b + 1)) nb := by
        rw [e2, f1]
        grind
      refine T_Big_multiply_134 _ _ _ _ _ _ _ _ ⟨hb.1, ?_⟩
      rw [e3, w32_id (z := (i : Int) + nb) (by omega) (by omega), w32_id (z := (i : Int) + 1) (by omega) (by omega), show (i : Int) + nb = (i + nb : Nat) from by omega, hc.2.1]
      refine bb (fun q => ?_) (fun q => ⟨hc.1, hb.1, hc.2.2.1, ⟨by omega, by rw [hc.2.2.2]; omega⟩, ?_⟩)
      · have ei : i + 1 = na := by omega
        have eL : i + nb = L := by omega
        rw [ei, eL] at e4
        have z := no_carry (pw_pos L) (mag_nn L hg2) c0 (by rw [e4]; exact hp)
        refine l_muli ha hb hc nac nbc ena enb da db hL hna hnb hin hp h d (i + 1) M2 (by omega) (by omega) hM2 hg2 (fun j q1 _ q3 q4 q5 => absurd q3 (by omega)) ?_
        rw [ei, ← e4, z]
        omega
      · have u1 : rz_up M2 (c + 1) (i + nb : Nat) cr (c + 1) (i + nb : Nat) = cr := up_eq
        have u2 : ∀ y : Int, y ≠ (i + nb : Nat) → rz_up M2 (c + 1) (i + nb : Nat) cr (c + 1) y = M2 (c + 1) y := fun y q => up_nj q
        have em := mag_upd (p := i + nb) u1 L (fun y _ _ q => u2 y q) (by omega)
        rw [hz2 (i + nb : Nat) (by omega) (by omega), Int.sub_zero] at em
        refine l_muli ha hb hc nac nbc ena enb da db hL hna hnb hin hp h d (i + 1) _ (by omega) (by omega) (fun x hx => (up_ne hx).trans (hM2 x hx)) ?_ (fun j q1 _ q3 q4 q5 => (u2 j (by omega)).trans (hz2 j (by omega) q3)) (em.trans e4)
        intro y q1 q2
        by_cases q : y = (i + nb : Nat)
        · rw [q, u1]
          exact ⟨c0, c1⟩
        · rw [u2 y q]
          exact hg2 y q1 q2
    · rw [e]
      show _ + 0 * pw (i + 0) = _ + m (a + 1) i * 0 * pw i
      grind
